theorem dX12_fault_0 : decode cX12_fault 0 = .ok (.aload_n 0, 1) := by decide +kernel
theorem dX12_fault_1 : decode cX12_fault 1 = .ok (.getfield 117, 3) := by decide +kernel
theorem dX12_fault_4 : decode cX12_fault 4 = .ok (.ireturn, 1) := by decide +kernel
def F_X12_fault (d : Nat) (v0 : Option Nm) (h : MH) (u : Nat) (Q : Int32 → MH → Prop) : Prop :=
  gI h v0 11 0 fun x1 =>
  Q x1 h
set_option maxRecDepth 20000 in
theorem E_X12_fault {d : Nat} {v0 : Option Nm} {h : MH} {u : Nat} {Q : Int32 → MH → Prop} (H : F_X12_fault d v0 h u Q) : T u_X12_fault d 0 [some (jR v0)] [] h u (qI Q) := by
  unfold F_X12_fault at H
  refine T_aload_n (pc := 0) dX12_fault_0 rfl rfl ?_
  refine T_gI (pc := 1) fa_X12_117 dX12_fault_1 (gI_mono (fun x1 H => ?_) H)
  exact T_ireturn (pc := 4) rfl rfl dX12_fault_4 H
theorem I_X12_fault {d : Nat} {v0 : Option Nm} {h : MH} {u : Nat} {K : Int32 → MH → Nat → Prop} (u1 : Nat) (hu : u1 ≤ u) (H : F_X12_fault d v0 h u1 (fun x h2 => K x h2 (u - u1))) : iI d u_X12_fault [jR v0] h u K := inv.of u1 hu (Ct.of (by decide +kernel) rfl (Nat.le_of_ble_eq_true rfl) rfl (E_X12_fault H))
theorem J_X12_fault {d : Nat} {v0 : Option Nm} {h : MH} {u : Nat} {K : Int32 → MH → Prop} (H : F_X12_fault d v0 h 0 K) : iI d u_X12_fault [jR v0] h u (fun x h2 u2 => K x h2 ∧ u2 = u) := jiI (by decide +kernel) rfl (Nat.le_of_ble_eq_true rfl) rfl (E_X12_fault H)
theorem dX12_get_0 : decode cX12_get 0 = .ok (.aload_n 0, 1) := by decide +kernel
theorem dX12_get_1 : decode cX12_get 1 = .ok (.iload_n 1, 1) := by decide +kernel
theorem dX12_get_2 : decode cX12_get 2 = .ok (.invokevirtual 170, 3) := by decide +kernel
theorem dX12_get_5 : decode cX12_get 5 = .ok (.ifCond .eq 13, 3) := by decide +kernel
theorem dX12_get_8 : decode cX12_get 8 = .ok (.iload_n 3, 1) := by decide +kernel
theorem dX12_get_9 : decode cX12_get 9 = .ok (.iconst 0, 1) := by decide +kernel
theorem dX12_get_10 : decode cX12_get 10 = .ok (.bipush 7, 2) := by decide +kernel
theorem dX12_get_12 : decode cX12_get 12 = .ok (.invokestatic 156, 3) := by decide +kernel
theorem dX12_get_15 : decode cX12_get 15 = .ok (.ifCond .ne 7, 3) := by decide +kernel
theorem dX12_get_18 : decode cX12_get 18 = .ok (.invokestatic 124, 3) := by decide +kernel
theorem dX12_get_21 : decode cX12_get 21 = .ok (.lreturn, 1) := by decide +kernel
theorem dX12_get_22 : decode cX12_get 22 = .ok (.aload_n 0, 1) := by decide +kernel
theorem dX12_get_23 : decode cX12_get 23 = .ok (.getfield 7, 3) := by decide +kernel
theorem dX12_get_26 : decode cX12_get 26 = .ok (.iload_n 1, 1) := by decide +kernel
theorem dX12_get_27 : decode cX12_get 27 = .ok (.iaload, 1) := by decide +kernel
theorem dX12_get_28 : decode cX12_get 28 = .ok (.bipush 8, 2) := by decide +kernel
theorem dX12_get_30 : decode cX12_get 30 = .ok (.if_icmp .ne 9, 3) := by decide +kernel
theorem dX12_get_33 : decode cX12_get 33 = .ok (.aload_n 0, 1) := by decide +kernel
theorem dX12_get_34 : decode cX12_get 34 = .ok (.iconst 3, 1) := by decide +kernel
theorem dX12_get_35 : decode cX12_get 35 = .ok (.invokevirtual 186, 3) := by decide +kernel
theorem dX12_get_38 : decode cX12_get 38 = .ok (.lreturn, 1) := by decide +kernel
theorem dX12_get_39 : decode cX12_get 39 = .ok (.iload_n 2, 1) := by decide +kernel
theorem dX12_get_40 : decode cX12_get 40 = .ok (.iconst 0, 1) := by decide +kernel
theorem dX12_get_41 : decode cX12_get 41 = .ok (.aload_n 0, 1) := by decide +kernel
theorem dX12_get_42 : decode cX12_get 42 = .ok (.getfield 13, 3) := by decide +kernel
theorem dX12_get_45 : decode cX12_get 45 = .ok (.iload_n 1, 1) := by decide +kernel
theorem dX12_get_46 : decode cX12_get 46 = .ok (.iaload, 1) := by decide +kernel
theorem dX12_get_47 : decode cX12_get 47 = .ok (.iconst 1, 1) := by decide +kernel
theorem dX12_get_48 : decode cX12_get 48 = .ok (.isub, 1) := by decide +kernel
theorem dX12_get_49 : decode cX12_get 49 = .ok (.invokestatic 156, 3) := by decide +kernel
theorem dX12_get_52 : decode cX12_get 52 = .ok (.ifCond .ne 9, 3) := by decide +kernel
theorem dX12_get_55 : decode cX12_get 55 = .ok (.aload_n 0, 1) := by decide +kernel
theorem dX12_get_56 : decode cX12_get 56 = .ok (.iconst 2, 1) := by decide +kernel
theorem dX12_get_57 : decode cX12_get 57 = .ok (.invokevirtual 186, 3) := by decide +kernel
theorem dX12_get_60 : decode cX12_get 60 = .ok (.lreturn, 1) := by decide +kernel
theorem dX12_get_61 : decode cX12_get 61 = .ok (.aload_n 0, 1) := by decide +kernel
theorem dX12_get_62 : decode cX12_get 62 = .ok (.getfield 7, 3) := by decide +kernel
theorem dX12_get_65 : decode cX12_get 65 = .ok (.iload_n 1, 1) := by decide +kernel
theorem dX12_get_66 : decode cX12_get 66 = .ok (.iaload, 1) := by decide +kernel
theorem dX12_get_67 : decode cX12_get 67 = .ok (.iload_n 3, 1) := by decide +kernel
theorem dX12_get_68 : decode cX12_get 68 = .ok (.invokestatic 174, 3) := by decide +kernel
theorem dX12_get_71 : decode cX12_get 71 = .ok (.ifCond .ne 9, 3) := by decide +kernel
theorem dX12_get_74 : decode cX12_get 74 = .ok (.aload_n 0, 1) := by decide +kernel
theorem dX12_get_75 : decode cX12_get 75 = .ok (.iconst 3, 1) := by decide +kernel
theorem dX12_get_76 : decode cX12_get 76 = .ok (.invokevirtual 186, 3) := by decide +kernel
theorem dX12_get_79 : decode cX12_get 79 = .ok (.lreturn, 1) := by decide +kernel
theorem dX12_get_80 : decode cX12_get 80 = .ok (.aload_n 0, 1) := by decide +kernel
theorem dX12_get_81 : decode cX12_get 81 = .ok (.getfield 7, 3) := by decide +kernel
theorem dX12_get_84 : decode cX12_get 84 = .ok (.iload_n 1, 1) := by decide +kernel
theorem dX12_get_85 : decode cX12_get 85 = .ok (.iaload, 1) := by decide +kernel
theorem dX12_get_86 : decode cX12_get 86 = .ok (.iload_n 3, 1) := by decide +kernel
theorem dX12_get_87 : decode cX12_get 87 = .ok (.aload_n 0, 1) := by decide +kernel
theorem dX12_get_88 : decode cX12_get 88 = .ok (.getfield 20, 3) := by decide +kernel
theorem dX12_get_91 : decode cX12_get 91 = .ok (.bipush 20, 2) := by decide +kernel
theorem dX12_get_93 : decode cX12_get 93 = .ok (.iload_n 1, 1) := by decide +kernel
theorem dX12_get_94 : decode cX12_get 94 = .ok (.imul, 1) := by decide +kernel
theorem dX12_get_95 : decode cX12_get 95 = .ok (.iload_n 2, 1) := by decide +kernel
theorem dX12_get_96 : decode cX12_get 96 = .ok (.iadd, 1) := by decide +kernel
theorem dX12_get_97 : decode cX12_get 97 = .ok (.laload, 1) := by decide +kernel
theorem dX12_get_98 : decode cX12_get 98 = .ok (.invokestatic 182, 3) := by decide +kernel
theorem dX12_get_101 : decode cX12_get 101 = .ok (.lreturn, 1) := by decide +kernel
def F_X12_get (d : Nat) (v0 : Option Nm) (v1 : Int32) (v2 : Int32) (v3 : Int32) (h : MH) (u : Nat) (Q : Int64 → MH → Prop) : Prop :=
  rc h v0 11 ∧ F_X12_isRow (d + 1) v0 v1 h 0 fun x1 h =>
  if x1 = 0 then
    F_X12_lost (d + 2)  h 0 fun x2 h =>
    Q x2 h
  else
    F_X12_in (d + 2) v3 0 7 h 0 fun x3 h =>
    if x3 = 0 then
      F_X12_lost (d + 2)  h 0 fun x20 h =>
      Q x20 h
    else
      gR h v0 11 4 fun x4 =>
      aI .int h x4 v1 fun x5 =>
      if x5 = 8 then
        rc h v0 11 ∧ F_X12_failsLong (d + 1) v0 3 h 0 fun x19 h =>
        Q x19 h
      else
        gR h v0 11 5 fun x6 =>
        aI .int h x6 v1 fun x7 =>
        F_X12_in (d + 2) v2 0 (x7 - 1) h 0 fun x8 h =>
        if x8 = 0 then
          rc h v0 11 ∧ F_X12_failsLong (d + 1) v0 2 h 0 fun x18 h =>
          Q x18 h
        else
          gR h v0 11 4 fun x9 =>
          aI .int h x9 v1 fun x10 =>
          F_X12_isWidened (d + 2) x10 v3 h 0 fun x11 h =>
          if x11 = 0 then
            rc h v0 11 ∧ F_X12_failsLong (d + 1) v0 3 h 0 fun x17 h =>
            Q x17 h
          else
            gR h v0 11 4 fun x12 =>
            aI .int h x12 v1 fun x13 =>
            gR h v0 11 7 fun x14 =>
            aL h x14 ((20 * v1) + v2) fun x15 =>
            F_X12_widened d x13 v3 x15 h 0 fun x16 h =>
            Q x16 h
set_option maxRecDepth 20000 in
theorem E_X12_get {d : Nat} {v0 : Option Nm} {v1 : Int32} {v2 : Int32} {v3 : Int32} {h : MH} {u : Nat} {Q : Int64 → MH → Prop} (H : F_X12_get d v0 v1 v2 v3 h u Q) : T u_X12_get (d + 3) 0 [some (jR v0), some (jI v1), some (jI v2), some (jI v3)] [] h u (qL Q) := by
  unfold F_X12_get at H
  refine T_aload_n (pc := 0) dX12_get_0 rfl rfl ?_
  refine T_iload_n (pc := 1) dX12_get_1 rfl rfl ?_
  obtain ⟨H0, H⟩ := H
  refine T_iV (pc := 2) (ci := 11) (av := [jI v1]) (rest := []) (o := v0) dX12_get_2 mf_X12_isRow c_5_102 c_5_104 pr_X12_isRow rfl rfl (Nat.le_of_ble_eq_true rfl) rfl H0 (iI_k (iI_m0 (fun x1 h H => ?_) (J_X12_isRow (d := (d + 1)) H)))
  refine T_if_eq (pc := 5) (tgt := 18) dX12_get_5 (by decide) (fun hc => ?_) (fun hc => ?_)
  · rw [if_pos hc] at H
    refine T_invS (pc := 18) (av := []) (rest := []) dX12_get_18 mf_X12_lost c_5_143 c_5_144 rfl (Nat.le_of_ble_eq_true rfl) rfl (iL_k (iL_m0 (fun x2 h H => ?_) (J_X12_lost (d := (d + 2)) H)))
    exact T_lreturn (pc := 21) rfl dX12_get_21 H
  · rw [if_neg hc] at H
    refine T_iload_n (pc := 8) dX12_get_8 rfl rfl ?_
    refine T_iconst (pc := 9) (v := 0) dX12_get_9 (by decide) ?_
    refine T_bipush (pc := 10) (v := 7) dX12_get_10 (by decide) ?_
    refine T_invS (pc := 12) (av := [jI v3, jI 0, jI 7]) (rest := []) dX12_get_12 mf_X12_in c_5_86 c_5_87 rfl (Nat.le_of_ble_eq_true rfl) rfl (iI_k (iI_m0 (fun x3 h H => ?_) (J_X12_in (d := (d + 2)) H)))
    refine T_if_ne (pc := 15) (tgt := 22) dX12_get_15 (by decide) (fun hc => ?_) (fun hc => ?_)
    · rw [if_neg hc] at H
      refine T_aload_n (pc := 22) dX12_get_22 rfl rfl ?_
      refine T_gR (pc := 23) fa_X12_7 dX12_get_23 (gR_mono (fun x4 H => ?_) H)
      refine T_iload_n (pc := 26) dX12_get_26 rfl rfl ?_
      refine T_aI (pc := 27) dX12_get_27 (aI_mono (fun x5 H => ?_) H)
      refine T_bipush (pc := 28) (v := 8) dX12_get_28 (by decide) ?_
      refine T_icmp_ne (pc := 30) (tgt := 39) dX12_get_30 (by decide) (fun hc => ?_) (fun hc => ?_)
      · rw [if_neg hc] at H
        refine T_iload_n (pc := 39) dX12_get_39 rfl rfl ?_
        refine T_iconst (pc := 40) (v := 0) dX12_get_40 (by decide) ?_
        refine T_aload_n (pc := 41) dX12_get_41 rfl rfl ?_
        refine T_gR (pc := 42) fa_X12_13 dX12_get_42 (gR_mono (fun x6 H => ?_) H)
        refine T_iload_n (pc := 45) dX12_get_45 rfl rfl ?_
        refine T_aI (pc := 46) dX12_get_46 (aI_mono (fun x7 H => ?_) H)
        refine T_iconst (pc := 47) (v := 1) dX12_get_47 (by decide) ?_
        refine T_isub (pc := 48) dX12_get_48 ?_
        refine T_invS (pc := 49) (av := [jI v2, jI 0, jI (x7 - 1)]) (rest := []) dX12_get_49 mf_X12_in c_5_86 c_5_87 rfl (Nat.le_of_ble_eq_true rfl) rfl (iI_k (iI_m0 (fun x8 h H => ?_) (J_X12_in (d := (d + 2)) H)))
        refine T_if_ne (pc := 52) (tgt := 61) dX12_get_52 (by decide) (fun hc => ?_) (fun hc => ?_)
        · rw [if_neg hc] at H
          refine T_aload_n (pc := 61) dX12_get_61 rfl rfl ?_
          refine T_gR (pc := 62) fa_X12_7 dX12_get_62 (gR_mono (fun x9 H => ?_) H)
          refine T_iload_n (pc := 65) dX12_get_65 rfl rfl ?_
          refine T_aI (pc := 66) dX12_get_66 (aI_mono (fun x10 H => ?_) H)
          refine T_iload_n (pc := 67) dX12_get_67 rfl rfl ?_
          refine T_invS (pc := 68) (av := [jI x10, jI v3]) (rest := []) dX12_get_68 mf_X12_isWidened c_5_106 c_5_107 rfl (Nat.le_of_ble_eq_true rfl) rfl (iI_k (iI_m0 (fun x11 h H => ?_) (J_X12_isWidened (d := (d + 2)) H)))
          refine T_if_ne (pc := 71) (tgt := 80) dX12_get_71 (by decide) (fun hc => ?_) (fun hc => ?_)
          · rw [if_neg hc] at H
            refine T_aload_n (pc := 80) dX12_get_80 rfl rfl ?_
            refine T_gR (pc := 81) fa_X12_7 dX12_get_81 (gR_mono (fun x12 H => ?_) H)
            refine T_iload_n (pc := 84) dX12_get_84 rfl rfl ?_
            refine T_aI (pc := 85) dX12_get_85 (aI_mono (fun x13 H => ?_) H)
            refine T_iload_n (pc := 86) dX12_get_86 rfl rfl ?_
            refine T_aload_n (pc := 87) dX12_get_87 rfl rfl ?_
            refine T_gR (pc := 88) fa_X12_20 dX12_get_88 (gR_mono (fun x14 H => ?_) H)
            refine T_bipush (pc := 91) (v := 20) dX12_get_91 (by decide) ?_
            refine T_iload_n (pc := 93) dX12_get_93 rfl rfl ?_
            refine T_imul (pc := 94) dX12_get_94 ?_
            refine T_iload_n (pc := 95) dX12_get_95 rfl rfl ?_
            refine T_iadd (pc := 96) dX12_get_96 ?_
            refine T_aL (pc := 97) dX12_get_97 (aL_mono (fun x15 H => ?_) H)
            refine T_invS (pc := 98) (av := [jI x13, jI v3, jL x15]) (rest := []) dX12_get_98 mf_X12_widened c_5_133 c_5_134 rfl (Nat.le_of_ble_eq_true rfl) rfl (iL_k (iL_m0 (fun x16 h H => ?_) (J_X12_widened (d := d) H)))
            exact T_lreturn (pc := 101) rfl dX12_get_101 H
          · rw [if_pos hc] at H
            refine T_aload_n (pc := 74) dX12_get_74 rfl rfl ?_
            refine T_iconst (pc := 75) (v := 3) dX12_get_75 (by decide) ?_
            obtain ⟨H0, H⟩ := H
            refine T_iV (pc := 76) (ci := 11) (av := [jI 3]) (rest := []) (o := v0) dX12_get_76 mf_X12_failsLong c_5_147 c_5_149 pr_X12_failsLong rfl rfl (Nat.le_of_ble_eq_true rfl) rfl H0 (iL_k (iL_m0 (fun x17 h H => ?_) (J_X12_failsLong (d := (d + 1)) H)))
            exact T_lreturn (pc := 79) rfl dX12_get_79 H
        · rw [if_pos hc] at H
          refine T_aload_n (pc := 55) dX12_get_55 rfl rfl ?_
          refine T_iconst (pc := 56) (v := 2) dX12_get_56 (by decide) ?_
          obtain ⟨H0, H⟩ := H
          refine T_iV (pc := 57) (ci := 11) (av := [jI 2]) (rest := []) (o := v0) dX12_get_57 mf_X12_failsLong c_5_147 c_5_149 pr_X12_failsLong rfl rfl (Nat.le_of_ble_eq_true rfl) rfl H0 (iL_k (iL_m0 (fun x18 h H => ?_) (J_X12_failsLong (d := (d + 1)) H)))
          exact T_lreturn (pc := 60) rfl dX12_get_60 H
      · rw [if_pos hc] at H
        refine T_aload_n (pc := 33) dX12_get_33 rfl rfl ?_
        refine T_iconst (pc := 34) (v := 3) dX12_get_34 (by decide) ?_
        obtain ⟨H0, H⟩ := H
        refine T_iV (pc := 35) (ci := 11) (av := [jI 3]) (rest := []) (o := v0) dX12_get_35 mf_X12_failsLong c_5_147 c_5_149 pr_X12_failsLong rfl rfl (Nat.le_of_ble_eq_true rfl) rfl H0 (iL_k (iL_m0 (fun x19 h H => ?_) (J_X12_failsLong (d := (d + 1)) H)))
        exact T_lreturn (pc := 38) rfl dX12_get_38 H
    · rw [if_pos hc] at H
      refine T_invS (pc := 18) (av := []) (rest := []) dX12_get_18 mf_X12_lost c_5_143 c_5_144 rfl (Nat.le_of_ble_eq_true rfl) rfl (iL_k (iL_m0 (fun x20 h H => ?_) (J_X12_lost (d := (d + 2)) H)))
      exact T_lreturn (pc := 21) rfl dX12_get_21 H
theorem I_X12_get {d : Nat} {v0 : Option Nm} {v1 : Int32} {v2 : Int32} {v3 : Int32} {h : MH} {u : Nat} {K : Int64 → MH → Nat → Prop} (u1 : Nat) (hu : u1 ≤ u) (H : F_X12_get d v0 v1 v2 v3 h u1 (fun x h2 => K x h2 (u - u1))) : iL (d + 3) u_X12_get [jR v0, jI v1, jI v2, jI v3] h u K := inv.of u1 hu (Ct.of (by decide +kernel) rfl (Nat.le_of_ble_eq_true rfl) rfl (E_X12_get H))
theorem J_X12_get {d : Nat} {v0 : Option Nm} {v1 : Int32} {v2 : Int32} {v3 : Int32} {h : MH} {u : Nat} {K : Int64 → MH → Prop} (H : F_X12_get d v0 v1 v2 v3 h 0 K) : iL (d + 3) u_X12_get [jR v0, jI v1, jI v2, jI v3] h u (fun x h2 u2 => K x h2 ∧ u2 = u) := jiL (by decide +kernel) rfl (Nat.le_of_ble_eq_true rfl) rfl (E_X12_get H)
theorem dX12_give_0 : decode cX12_give 0 = .ok (.iload_n 1, 1) := by decide +kernel
theorem dX12_give_1 : decode cX12_give 1 = .ok (.iconst 0, 1) := by decide +kernel
theorem dX12_give_2 : decode cX12_give 2 = .ok (.iconst 5, 1) := by decide +kernel
theorem dX12_give_3 : decode cX12_give 3 = .ok (.invokestatic 156, 3) := by decide +kernel
theorem dX12_give_6 : decode cX12_give 6 = .ok (.ifCond .eq 13, 3) := by decide +kernel
theorem dX12_give_9 : decode cX12_give 9 = .ok (.iload_n 2, 1) := by decide +kernel
theorem dX12_give_10 : decode cX12_give 10 = .ok (.iconst 0, 1) := by decide +kernel
theorem dX12_give_11 : decode cX12_give 11 = .ok (.bipush 7, 2) := by decide +kernel
theorem dX12_give_13 : decode cX12_give 13 = .ok (.invokestatic 156, 3) := by decide +kernel
theorem dX12_give_16 : decode cX12_give 16 = .ok (.ifCond .ne 6, 3) := by decide +kernel
theorem dX12_give_19 : decode cX12_give 19 = .ok (.bipush (-2), 2) := by decide +kernel
theorem dX12_give_21 : decode cX12_give 21 = .ok (.ireturn, 1) := by decide +kernel
theorem dX12_give_22 : decode cX12_give 22 = .ok (.aload_n 0, 1) := by decide +kernel
theorem dX12_give_23 : decode cX12_give 23 = .ok (.getfield 60, 3) := by decide +kernel
theorem dX12_give_26 : decode cX12_give 26 = .ok (.iload_n 1, 1) := by decide +kernel
theorem dX12_give_27 : decode cX12_give 27 = .ok (.iload_n 2, 1) := by decide +kernel
theorem dX12_give_28 : decode cX12_give 28 = .ok (.iastore, 1) := by decide +kernel
theorem dX12_give_29 : decode cX12_give 29 = .ok (.aload_n 0, 1) := by decide +kernel
theorem dX12_give_30 : decode cX12_give 30 = .ok (.getfield 63, 3) := by decide +kernel
theorem dX12_give_33 : decode cX12_give 33 = .ok (.iload_n 1, 1) := by decide +kernel
theorem dX12_give_34 : decode cX12_give 34 = .ok (.iload_n 2, 1) := by decide +kernel
theorem dX12_give_35 : decode cX12_give 35 = .ok (.lload_n 3, 1) := by decide +kernel
theorem dX12_give_36 : decode cX12_give 36 = .ok (.invokestatic 178, 3) := by decide +kernel
theorem dX12_give_39 : decode cX12_give 39 = .ok (.lastore, 1) := by decide +kernel
theorem dX12_give_40 : decode cX12_give 40 = .ok (.iconst 1, 1) := by decide +kernel
theorem dX12_give_41 : decode cX12_give 41 = .ok (.ireturn, 1) := by decide +kernel
def F_X12_give (d : Nat) (v0 : Option Nm) (v1 : Int32) (v2 : Int32) (v3 : Int64) (h : MH) (u : Nat) (Q : Int32 → MH → Prop) : Prop :=
  F_X12_in (d + 2) v1 0 5 h 0 fun x1 h =>
  if x1 = 0 then
    Q (-2) h
  else
    F_X12_in (d + 2) v2 0 7 h 0 fun x2 h =>
    if x2 = 0 then
      Q (-2) h
    else
      gR h v0 11 22 fun x3 =>
      sV .int h x3 v1 (jI v2) fun h =>
      gR h v0 11 23 fun x4 =>
      F_X12_comes d v2 v3 h 0 fun x5 h =>
      sV .long h x4 v1 (jL x5) fun h =>
      Q 1 h
set_option maxRecDepth 20000 in
theorem E_X12_give {d : Nat} {v0 : Option Nm} {v1 : Int32} {v2 : Int32} {v3 : Int64} {h : MH} {u : Nat} {Q : Int32 → MH → Prop} (H : F_X12_give d v0 v1 v2 v3 h u Q) : T u_X12_give (d + 3) 0 [some (jR v0), some (jI v1), some (jI v2), some (jL v3), none] [] h u (qI Q) := by
  unfold F_X12_give at H
  refine T_iload_n (pc := 0) dX12_give_0 rfl rfl ?_
  refine T_iconst (pc := 1) (v := 0) dX12_give_1 (by decide) ?_
  refine T_iconst (pc := 2) (v := 5) dX12_give_2 (by decide) ?_
  refine T_invS (pc := 3) (av := [jI v1, jI 0, jI 5]) (rest := []) dX12_give_3 mf_X12_in c_5_86 c_5_87 rfl (Nat.le_of_ble_eq_true rfl) rfl (iI_k (iI_m0 (fun x1 h H => ?_) (J_X12_in (d := (d + 2)) H)))
  refine T_if_eq (pc := 6) (tgt := 19) dX12_give_6 (by decide) (fun hc => ?_) (fun hc => ?_)
  · rw [if_pos hc] at H
    refine T_bipush (pc := 19) (v := (-2)) dX12_give_19 (by decide) ?_
    exact T_ireturn (pc := 21) rfl rfl dX12_give_21 H
  · rw [if_neg hc] at H
    refine T_iload_n (pc := 9) dX12_give_9 rfl rfl ?_
    refine T_iconst (pc := 10) (v := 0) dX12_give_10 (by decide) ?_
    refine T_bipush (pc := 11) (v := 7) dX12_give_11 (by decide) ?_
    refine T_invS (pc := 13) (av := [jI v2, jI 0, jI 7]) (rest := []) dX12_give_13 mf_X12_in c_5_86 c_5_87 rfl (Nat.le_of_ble_eq_true rfl) rfl (iI_k (iI_m0 (fun x2 h H => ?_) (J_X12_in (d := (d + 2)) H)))
    refine T_if_ne (pc := 16) (tgt := 22) dX12_give_16 (by decide) (fun hc => ?_) (fun hc => ?_)
    · rw [if_neg hc] at H
      refine T_aload_n (pc := 22) dX12_give_22 rfl rfl ?_
      refine T_gR (pc := 23) fa_X12_60 dX12_give_23 (gR_mono (fun x3 H => ?_) H)
      refine T_iload_n (pc := 26) dX12_give_26 rfl rfl ?_
      refine T_iload_n (pc := 27) dX12_give_27 rfl rfl ?_
      refine T_sI (pc := 28) dX12_give_28 (sV_mono (fun h H => ?_) H)
      refine T_aload_n (pc := 29) dX12_give_29 rfl rfl ?_
      refine T_gR (pc := 30) fa_X12_63 dX12_give_30 (gR_mono (fun x4 H => ?_) H)
      refine T_iload_n (pc := 33) dX12_give_33 rfl rfl ?_
      refine T_iload_n (pc := 34) dX12_give_34 rfl rfl ?_
      refine T_lload_n (pc := 35) dX12_give_35 rfl rfl ?_
      refine T_invS (pc := 36) (av := [jI v2, jL v3]) (rest := [jI v1, jR x4]) dX12_give_36 mf_X12_comes c_5_109 c_5_110 rfl (Nat.le_of_ble_eq_true rfl) rfl (iL_k (iL_m0 (fun x5 h H => ?_) (J_X12_comes (d := d) H)))
      refine T_sL (pc := 39) dX12_give_39 (sV_mono (fun h H => ?_) H)
      refine T_iconst (pc := 40) (v := 1) dX12_give_40 (by decide) ?_
      exact T_ireturn (pc := 41) rfl rfl dX12_give_41 H
    · rw [if_pos hc] at H
      refine T_bipush (pc := 19) (v := (-2)) dX12_give_19 (by decide) ?_
      exact T_ireturn (pc := 21) rfl rfl dX12_give_21 H
theorem I_X12_give {d : Nat} {v0 : Option Nm} {v1 : Int32} {v2 : Int32} {v3 : Int64} {h : MH} {u : Nat} {K : Int32 → MH → Nat → Prop} (u1 : Nat) (hu : u1 ≤ u) (H : F_X12_give d v0 v1 v2 v3 h u1 (fun x h2 => K x h2 (u - u1))) : iI (d + 3) u_X12_give [jR v0, jI v1, jI v2, jL v3] h u K := inv.of u1 hu (Ct.of (by decide +kernel) rfl (Nat.le_of_ble_eq_true rfl) rfl (E_X12_give H))
theorem J_X12_give {d : Nat} {v0 : Option Nm} {v1 : Int32} {v2 : Int32} {v3 : Int64} {h : MH} {u : Nat} {K : Int32 → MH → Prop} (H : F_X12_give d v0 v1 v2 v3 h 0 K) : iI (d + 3) u_X12_give [jR v0, jI v1, jI v2, jL v3] h u (fun x h2 u2 => K x h2 ∧ u2 = u) := jiI (by decide +kernel) rfl (Nat.le_of_ble_eq_true rfl) rfl (E_X12_give H)
theorem dX12_hand_0 : decode cX12_hand 0 = .ok (.iload_n 2, 1) := by decide +kernel
theorem dX12_hand_1 : decode cX12_hand 1 = .ok (.iconst (-1), 1) := by decide +kernel
theorem dX12_hand_2 : decode cX12_hand 2 = .ok (.if_icmp .eq 28, 3) := by decide +kernel
theorem dX12_hand_5 : decode cX12_hand 5 = .ok (.iload_n 3, 1) := by decide +kernel
theorem dX12_hand_6 : decode cX12_hand 6 = .ok (.ifCond .eq 14, 3) := by decide +kernel
theorem dX12_hand_9 : decode cX12_hand 9 = .ok (.aload_n 0, 1) := by decide +kernel
theorem dX12_hand_10 : decode cX12_hand 10 = .ok (.iload_n 2, 1) := by decide +kernel
theorem dX12_hand_11 : decode cX12_hand 11 = .ok (.invokevirtual 170, 3) := by decide +kernel
theorem dX12_hand_14 : decode cX12_hand 14 = .ok (.ifCond .eq 14, 3) := by decide +kernel
theorem dX12_hand_17 : decode cX12_hand 17 = .ok (.goto 13, 3) := by decide +kernel
theorem dX12_hand_20 : decode cX12_hand 20 = .ok (.aload_n 0, 1) := by decide +kernel
theorem dX12_hand_21 : decode cX12_hand 21 = .ok (.iload_n 2, 1) := by decide +kernel
theorem dX12_hand_22 : decode cX12_hand 22 = .ok (.invokevirtual 190, 3) := by decide +kernel
theorem dX12_hand_25 : decode cX12_hand 25 = .ok (.ifCond .ne 5, 3) := by decide +kernel
theorem dX12_hand_28 : decode cX12_hand 28 = .ok (.iconst (-1), 1) := by decide +kernel
theorem dX12_hand_29 : decode cX12_hand 29 = .ok (.ireturn, 1) := by decide +kernel
theorem dX12_hand_30 : decode cX12_hand 30 = .ok (.iload_n 1, 1) := by decide +kernel
theorem dX12_hand_31 : decode cX12_hand 31 = .ok (.iconst 0, 1) := by decide +kernel
theorem dX12_hand_32 : decode cX12_hand 32 = .ok (.iconst 5, 1) := by decide +kernel
theorem dX12_hand_33 : decode cX12_hand 33 = .ok (.invokestatic 156, 3) := by decide +kernel
theorem dX12_hand_36 : decode cX12_hand 36 = .ok (.ifCond .ne 6, 3) := by decide +kernel
theorem dX12_hand_39 : decode cX12_hand 39 = .ok (.bipush (-2), 2) := by decide +kernel
theorem dX12_hand_41 : decode cX12_hand 41 = .ok (.ireturn, 1) := by decide +kernel
theorem dX12_hand_42 : decode cX12_hand 42 = .ok (.aload_n 0, 1) := by decide +kernel
theorem dX12_hand_43 : decode cX12_hand 43 = .ok (.getfield 60, 3) := by decide +kernel
theorem dX12_hand_46 : decode cX12_hand 46 = .ok (.iload_n 1, 1) := by decide +kernel
theorem dX12_hand_47 : decode cX12_hand 47 = .ok (.iload_n 2, 1) := by decide +kernel
theorem dX12_hand_48 : decode cX12_hand 48 = .ok (.ifCond .ge 8, 3) := by decide +kernel
theorem dX12_hand_51 : decode cX12_hand 51 = .ok (.bipush (-5), 2) := by decide +kernel
theorem dX12_hand_53 : decode cX12_hand 53 = .ok (.goto 14, 3) := by decide +kernel
theorem dX12_hand_56 : decode cX12_hand 56 = .ok (.iload_n 3, 1) := by decide +kernel
theorem dX12_hand_57 : decode cX12_hand 57 = .ok (.ifCond .eq 8, 3) := by decide +kernel
theorem dX12_hand_60 : decode cX12_hand 60 = .ok (.bipush 9, 2) := by decide +kernel
theorem dX12_hand_62 : decode cX12_hand 62 = .ok (.goto 5, 3) := by decide +kernel
theorem dX12_hand_65 : decode cX12_hand 65 = .ok (.bipush 8, 2) := by decide +kernel
theorem dX12_hand_67 : decode cX12_hand 67 = .ok (.iastore, 1) := by decide +kernel
theorem dX12_hand_68 : decode cX12_hand 68 = .ok (.aload_n 0, 1) := by decide +kernel
theorem dX12_hand_69 : decode cX12_hand 69 = .ok (.getfield 63, 3) := by decide +kernel
theorem dX12_hand_72 : decode cX12_hand 72 = .ok (.iload_n 1, 1) := by decide +kernel
theorem dX12_hand_73 : decode cX12_hand 73 = .ok (.iload_n 2, 1) := by decide +kernel
theorem dX12_hand_74 : decode cX12_hand 74 = .ok (.i2l, 1) := by decide +kernel
theorem dX12_hand_75 : decode cX12_hand 75 = .ok (.lastore, 1) := by decide +kernel
theorem dX12_hand_76 : decode cX12_hand 76 = .ok (.iconst 1, 1) := by decide +kernel
theorem dX12_hand_77 : decode cX12_hand 77 = .ok (.ireturn, 1) := by decide +kernel
def F_X12_hand_67 (d : Nat) (v0 : Option Nm) (v1 : Int32) (v2 : Int32) (s0 : Option Nm) (s1 : Int32) (s2 : Int32) (h : MH) (u : Nat) (Q : Int32 → MH → Prop) : Prop :=
  sV .int h s0 s1 (jI s2) fun h =>
  gR h v0 11 23 fun x1 =>
  sV .long h x1 v1 (jL (v2.toInt64)) fun h =>
  Q 1 h
set_option maxRecDepth 20000 in
theorem E_X12_hand_67 {d : Nat} {v0 : Option Nm} {v1 : Int32} {v2 : Int32} {s0 : Option Nm} {s1 : Int32} {s2 : Int32} {h : MH} {u : Nat} {Q : Int32 → MH → Prop} (H : F_X12_hand_67 d v0 v1 v2 s0 s1 s2 h u Q) : T u_X12_hand (d + 2) 67 [some (jR v0), some (jI v1), some (jI v2), none] [jI s2, jI s1, jR s0] h u (qI Q) := by
  unfold F_X12_hand_67 at H
  refine T_sI (pc := 67) dX12_hand_67 (sV_mono (fun h H => ?_) H)
  refine T_aload_n (pc := 68) dX12_hand_68 rfl rfl ?_
  refine T_gR (pc := 69) fa_X12_63 dX12_hand_69 (gR_mono (fun x1 H => ?_) H)
  refine T_iload_n (pc := 72) dX12_hand_72 rfl rfl ?_
  refine T_iload_n (pc := 73) dX12_hand_73 rfl rfl ?_
  refine T_i2l (pc := 74) dX12_hand_74 ?_
  refine T_sL (pc := 75) dX12_hand_75 (sV_mono (fun h H => ?_) H)
  refine T_iconst (pc := 76) (v := 1) dX12_hand_76 (by decide) ?_
  exact T_ireturn (pc := 77) rfl rfl dX12_hand_77 H
def F_X12_hand_30 (d : Nat) (v0 : Option Nm) (v1 : Int32) (v2 : Int32) (v3 : Int32) (h : MH) (u : Nat) (Q : Int32 → MH → Prop) : Prop :=
  F_X12_in (d + 1) v1 0 5 h 0 fun x1 h =>
  if x1 = 0 then
    Q (-2) h
  else
    gR h v0 11 22 fun x2 =>
    if 0 ≤ v2 then
      if v3 = 0 then
        F_X12_hand_67 d v0 v1 v2 x2 v1 8 h u Q
      else
        F_X12_hand_67 d v0 v1 v2 x2 v1 9 h u Q
    else
      F_X12_hand_67 d v0 v1 v2 x2 v1 (-5) h u Q
set_option maxRecDepth 20000 in
theorem E_X12_hand_30 {d : Nat} {v0 : Option Nm} {v1 : Int32} {v2 : Int32} {v3 : Int32} {h : MH} {u : Nat} {Q : Int32 → MH → Prop} (H : F_X12_hand_30 d v0 v1 v2 v3 h u Q) : T u_X12_hand (d + 2) 30 [some (jR v0), some (jI v1), some (jI v2), some (jI v3)] [] h u (qI Q) := by
  unfold F_X12_hand_30 at H
  refine T_iload_n (pc := 30) dX12_hand_30 rfl rfl ?_
  refine T_iconst (pc := 31) (v := 0) dX12_hand_31 (by decide) ?_
  refine T_iconst (pc := 32) (v := 5) dX12_hand_32 (by decide) ?_
  refine T_invS (pc := 33) (av := [jI v1, jI 0, jI 5]) (rest := []) dX12_hand_33 mf_X12_in c_5_86 c_5_87 rfl (Nat.le_of_ble_eq_true rfl) rfl (iI_k (iI_m0 (fun x1 h H => ?_) (J_X12_in (d := (d + 1)) H)))
  refine T_if_ne (pc := 36) (tgt := 42) dX12_hand_36 (by decide) (fun hc => ?_) (fun hc => ?_)
  · rw [if_neg hc] at H
    refine T_aload_n (pc := 42) dX12_hand_42 rfl rfl ?_
    refine T_gR (pc := 43) fa_X12_60 dX12_hand_43 (gR_mono (fun x2 H => ?_) H)
    refine T_iload_n (pc := 46) dX12_hand_46 rfl rfl ?_
    refine T_iload_n (pc := 47) dX12_hand_47 rfl rfl ?_
    refine T_if_ge (pc := 48) (tgt := 56) dX12_hand_48 (by decide) (fun hc => ?_) (fun hc => ?_)
    · rw [if_pos hc] at H
      refine T_iload_n (pc := 56) dX12_hand_56 rfl rfl ?_
      refine T_if_eq (pc := 57) (tgt := 65) dX12_hand_57 (by decide) (fun hc => ?_) (fun hc => ?_)
      · rw [if_pos hc] at H
        refine T_bipush (pc := 65) (v := 8) dX12_hand_65 (by decide) ?_
        exact T.forget (E_X12_hand_67 H) ⟨rfl, rfl, rfl, trivial⟩
      · rw [if_neg hc] at H
        refine T_bipush (pc := 60) (v := 9) dX12_hand_60 (by decide) ?_
        refine T_goto (pc := 62) (tgt := 67) dX12_hand_62 (by decide) ?_
        exact T.forget (E_X12_hand_67 H) ⟨rfl, rfl, rfl, trivial⟩
    · rw [if_neg hc] at H
      refine T_bipush (pc := 51) (v := (-5)) dX12_hand_51 (by decide) ?_
      refine T_goto (pc := 53) (tgt := 67) dX12_hand_53 (by decide) ?_
      exact T.forget (E_X12_hand_67 H) ⟨rfl, rfl, rfl, trivial⟩
  · rw [if_pos hc] at H
    refine T_bipush (pc := 39) (v := (-2)) dX12_hand_39 (by decide) ?_
    exact T_ireturn (pc := 41) rfl rfl dX12_hand_41 H
def F_X12_hand (d : Nat) (v0 : Option Nm) (v1 : Int32) (v2 : Int32) (v3 : Int32) (h : MH) (u : Nat) (Q : Int32 → MH → Prop) : Prop :=
  if v2 = (-1) then
    F_X12_hand_30 d v0 v1 v2 v3 h u Q
  else
    if v3 = 0 then
      rc h v0 11 ∧ F_X12_isValue d v0 v2 h 0 fun x1 h =>
      if x1 = 0 then
        Q (-1) h
      else
        F_X12_hand_30 d v0 v1 v2 v3 h u Q
    else
      rc h v0 11 ∧ F_X12_isRow d v0 v2 h 0 fun x2 h =>
      if x2 = 0 then
        Q (-1) h
      else
        F_X12_hand_30 d v0 v1 v2 v3 h u Q
set_option maxRecDepth 20000 in
theorem E_X12_hand {d : Nat} {v0 : Option Nm} {v1 : Int32} {v2 : Int32} {v3 : Int32} {h : MH} {u : Nat} {Q : Int32 → MH → Prop} (H : F_X12_hand d v0 v1 v2 v3 h u Q) : T u_X12_hand (d + 2) 0 [some (jR v0), some (jI v1), some (jI v2), some (jI v3)] [] h u (qI Q) := by
  unfold F_X12_hand at H
  refine T_iload_n (pc := 0) dX12_hand_0 rfl rfl ?_
  refine T_iconst (pc := 1) (v := (-1)) dX12_hand_1 (by decide) ?_
  refine T_icmp_eq (pc := 2) (tgt := 30) dX12_hand_2 (by decide) (fun hc => ?_) (fun hc => ?_)
  · rw [if_pos hc] at H
    exact T.forget (E_X12_hand_30 H) ⟨rfl, rfl, rfl, rfl, trivial⟩
  · rw [if_neg hc] at H
    refine T_iload_n (pc := 5) dX12_hand_5 rfl rfl ?_
    refine T_if_eq (pc := 6) (tgt := 20) dX12_hand_6 (by decide) (fun hc => ?_) (fun hc => ?_)
    · rw [if_pos hc] at H
      refine T_aload_n (pc := 20) dX12_hand_20 rfl rfl ?_
      refine T_iload_n (pc := 21) dX12_hand_21 rfl rfl ?_
      obtain ⟨H0, H⟩ := H
      refine T_iV (pc := 22) (ci := 11) (av := [jI v2]) (rest := []) (o := v0) dX12_hand_22 mf_X12_isValue c_5_155 c_5_157 pr_X12_isValue rfl rfl (Nat.le_of_ble_eq_true rfl) rfl H0 (iI_k (iI_m0 (fun x1 h H => ?_) (J_X12_isValue (d := d) H)))
      refine T_if_ne (pc := 25) (tgt := 30) dX12_hand_25 (by decide) (fun hc => ?_) (fun hc => ?_)
      · rw [if_neg hc] at H
        exact T.forget (E_X12_hand_30 H) ⟨rfl, rfl, rfl, rfl, trivial⟩
      · rw [if_pos hc] at H
        refine T_iconst (pc := 28) (v := (-1)) dX12_hand_28 (by decide) ?_
        exact T_ireturn (pc := 29) rfl rfl dX12_hand_29 H
    · rw [if_neg hc] at H
      refine T_aload_n (pc := 9) dX12_hand_9 rfl rfl ?_
      refine T_iload_n (pc := 10) dX12_hand_10 rfl rfl ?_
      obtain ⟨H0, H⟩ := H
      refine T_iV (pc := 11) (ci := 11) (av := [jI v2]) (rest := []) (o := v0) dX12_hand_11 mf_X12_isRow c_5_102 c_5_104 pr_X12_isRow rfl rfl (Nat.le_of_ble_eq_true rfl) rfl H0 (iI_k (iI_m0 (fun x2 h H => ?_) (J_X12_isRow (d := d) H)))
      refine T_if_eq (pc := 14) (tgt := 28) dX12_hand_14 (by decide) (fun hc => ?_) (fun hc => ?_)
      · rw [if_pos hc] at H
        refine T_iconst (pc := 28) (v := (-1)) dX12_hand_28 (by decide) ?_
        exact T_ireturn (pc := 29) rfl rfl dX12_hand_29 H
      · rw [if_neg hc] at H
        refine T_goto (pc := 17) (tgt := 30) dX12_hand_17 (by decide) ?_
        exact T.forget (E_X12_hand_30 H) ⟨rfl, rfl, rfl, rfl, trivial⟩
theorem I_X12_hand {d : Nat} {v0 : Option Nm} {v1 : Int32} {v2 : Int32} {v3 : Int32} {h : MH} {u : Nat} {K : Int32 → MH → Nat → Prop} (u1 : Nat) (hu : u1 ≤ u) (H : F_X12_hand d v0 v1 v2 v3 h u1 (fun x h2 => K x h2 (u - u1))) : iI (d + 2) u_X12_hand [jR v0, jI v1, jI v2, jI v3] h u K := inv.of u1 hu (Ct.of (by decide +kernel) rfl (Nat.le_of_ble_eq_true rfl) rfl (E_X12_hand H))
theorem J_X12_hand {d : Nat} {v0 : Option Nm} {v1 : Int32} {v2 : Int32} {v3 : Int32} {h : MH} {u : Nat} {K : Int32 → MH → Prop} (H : F_X12_hand d v0 v1 v2 v3 h 0 K) : iI (d + 2) u_X12_hand [jR v0, jI v1, jI v2, jI v3] h u (fun x h2 u2 => K x h2 ∧ u2 = u) := jiI (by decide +kernel) rfl (Nat.le_of_ble_eq_true rfl) rfl (E_X12_hand H)
theorem dX12_numberHash_0 : decode cX12_numberHash 0 = .ok (.iload_n 0, 1) := by decide +kernel
theorem dX12_numberHash_1 : decode cX12_numberHash 1 = .ok (.ifCond .ne 19, 3) := by decide +kernel
theorem dX12_numberHash_4 : decode cX12_numberHash 4 = .ok (.lload_n 1, 1) := by decide +kernel
theorem dX12_numberHash_5 : decode cX12_numberHash 5 = .ok (.lconst 1, 1) := by decide +kernel
theorem dX12_numberHash_6 : decode cX12_numberHash 6 = .ok (.lcmp, 1) := by decide +kernel
theorem dX12_numberHash_7 : decode cX12_numberHash 7 = .ok (.ifCond .ne 9, 3) := by decide +kernel
theorem dX12_numberHash_10 : decode cX12_numberHash 10 = .ok (.sipush 1231, 3) := by decide +kernel
theorem dX12_numberHash_13 : decode cX12_numberHash 13 = .ok (.goto 6, 3) := by decide +kernel
theorem dX12_numberHash_16 : decode cX12_numberHash 16 = .ok (.sipush 1237, 3) := by decide +kernel
theorem dX12_numberHash_19 : decode cX12_numberHash 19 = .ok (.ireturn, 1) := by decide +kernel
theorem dX12_numberHash_20 : decode cX12_numberHash 20 = .ok (.iload_n 0, 1) := by decide +kernel
theorem dX12_numberHash_21 : decode cX12_numberHash 21 = .ok (.iconst 5, 1) := by decide +kernel
theorem dX12_numberHash_22 : decode cX12_numberHash 22 = .ok (.if_icmp .eq 9, 3) := by decide +kernel
theorem dX12_numberHash_25 : decode cX12_numberHash 25 = .ok (.iload_n 0, 1) := by decide +kernel
theorem dX12_numberHash_26 : decode cX12_numberHash 26 = .ok (.bipush 7, 2) := by decide +kernel
theorem dX12_numberHash_28 : decode cX12_numberHash 28 = .ok (.if_icmp .ne 13, 3) := by decide +kernel
theorem dX12_numberHash_31 : decode cX12_numberHash 31 = .ok (.lload_n 1, 1) := by decide +kernel
theorem dX12_numberHash_32 : decode cX12_numberHash 32 = .ok (.lload_n 1, 1) := by decide +kernel
theorem dX12_numberHash_33 : decode cX12_numberHash 33 = .ok (.bipush 32, 2) := by decide +kernel
theorem dX12_numberHash_35 : decode cX12_numberHash 35 = .ok (.lushr, 1) := by decide +kernel
theorem dX12_numberHash_36 : decode cX12_numberHash 36 = .ok (.lxor, 1) := by decide +kernel
theorem dX12_numberHash_37 : decode cX12_numberHash 37 = .ok (.l2i, 1) := by decide +kernel
theorem dX12_numberHash_38 : decode cX12_numberHash 38 = .ok (.goto 5, 3) := by decide +kernel
theorem dX12_numberHash_41 : decode cX12_numberHash 41 = .ok (.lload_n 1, 1) := by decide +kernel
theorem dX12_numberHash_42 : decode cX12_numberHash 42 = .ok (.l2i, 1) := by decide +kernel
theorem dX12_numberHash_43 : decode cX12_numberHash 43 = .ok (.ireturn, 1) := by decide +kernel
def F_X12_numberHash (d : Nat) (v0 : Int32) (v1 : Int64) (h : MH) (u : Nat) (Q : Int32 → MH → Prop) : Prop :=
  if v0 = 0 then
    if (lg_cmp v1 1) = 0 then
      Q 1231 h
    else
      Q 1237 h
  else
    if v0 = 5 then
      Q ((v1 ^^^ ((v1.toUInt64 >>> ((32 : Int32).toInt64.toUInt64 &&& Int64.toUInt64 63)).toInt64)).toInt32) h
    else
      if v0 = 7 then
        Q ((v1 ^^^ ((v1.toUInt64 >>> ((32 : Int32).toInt64.toUInt64 &&& Int64.toUInt64 63)).toInt64)).toInt32) h
      else
        Q (v1.toInt32) h
set_option maxRecDepth 20000 in
theorem E_X12_numberHash {d : Nat} {v0 : Int32} {v1 : Int64} {h : MH} {u : Nat} {Q : Int32 → MH → Prop} (H : F_X12_numberHash d v0 v1 h u Q) : T u_X12_numberHash d 0 [some (jI v0), some (jL v1), none] [] h u (qI Q) := by
  unfold F_X12_numberHash at H
  refine T_iload_n (pc := 0) dX12_numberHash_0 rfl rfl ?_
  refine T_if_ne (pc := 1) (tgt := 20) dX12_numberHash_1 (by decide) (fun hc => ?_) (fun hc => ?_)
  · rw [if_neg hc] at H
    refine T_iload_n (pc := 20) dX12_numberHash_20 rfl rfl ?_
    refine T_iconst (pc := 21) (v := 5) dX12_numberHash_21 (by decide) ?_
    refine T_icmp_eq (pc := 22) (tgt := 31) dX12_numberHash_22 (by decide) (fun hc => ?_) (fun hc => ?_)
    · rw [if_pos hc] at H
      refine T_lload_n (pc := 31) dX12_numberHash_31 rfl rfl ?_
      refine T_lload_n (pc := 32) dX12_numberHash_32 rfl rfl ?_
      refine T_bipush (pc := 33) (v := 32) dX12_numberHash_33 (by decide) ?_
      refine T_lushr (pc := 35) dX12_numberHash_35 ?_
      refine T_lxor (pc := 36) dX12_numberHash_36 ?_
      refine T_l2i (pc := 37) dX12_numberHash_37 ?_
      refine T_goto (pc := 38) (tgt := 43) dX12_numberHash_38 (by decide) ?_
      exact T_ireturn (pc := 43) rfl rfl dX12_numberHash_43 H
    · rw [if_neg hc] at H
      refine T_iload_n (pc := 25) dX12_numberHash_25 rfl rfl ?_
      refine T_bipush (pc := 26) (v := 7) dX12_numberHash_26 (by decide) ?_
      refine T_icmp_ne (pc := 28) (tgt := 41) dX12_numberHash_28 (by decide) (fun hc => ?_) (fun hc => ?_)
      · rw [if_neg hc] at H
        refine T_lload_n (pc := 41) dX12_numberHash_41 rfl rfl ?_
        refine T_l2i (pc := 42) dX12_numberHash_42 ?_
        exact T_ireturn (pc := 43) rfl rfl dX12_numberHash_43 H
      · rw [if_pos hc] at H
        refine T_lload_n (pc := 31) dX12_numberHash_31 rfl rfl ?_
        refine T_lload_n (pc := 32) dX12_numberHash_32 rfl rfl ?_
        refine T_bipush (pc := 33) (v := 32) dX12_numberHash_33 (by decide) ?_
        refine T_lushr (pc := 35) dX12_numberHash_35 ?_
        refine T_lxor (pc := 36) dX12_numberHash_36 ?_
        refine T_l2i (pc := 37) dX12_numberHash_37 ?_
        refine T_goto (pc := 38) (tgt := 43) dX12_numberHash_38 (by decide) ?_
        exact T_ireturn (pc := 43) rfl rfl dX12_numberHash_43 H
  · rw [if_pos hc] at H
    refine T_lload_n (pc := 4) dX12_numberHash_4 rfl rfl ?_
    refine T_lconst (pc := 5) (v := 1) dX12_numberHash_5 (by decide) ?_
    refine T_lcmp (pc := 6) dX12_numberHash_6 ?_
    refine T_if_ne (pc := 7) (tgt := 16) dX12_numberHash_7 (by decide) (fun hc => ?_) (fun hc => ?_)
    · rw [if_neg hc] at H
      refine T_sipush (pc := 16) (v := 1237) dX12_numberHash_16 (by decide) ?_
      exact T_ireturn (pc := 19) rfl rfl dX12_numberHash_19 H
    · rw [if_pos hc] at H
      refine T_sipush (pc := 10) (v := 1231) dX12_numberHash_10 (by decide) ?_
      refine T_goto (pc := 13) (tgt := 19) dX12_numberHash_13 (by decide) ?_
      exact T_ireturn (pc := 19) rfl rfl dX12_numberHash_19 H
theorem I_X12_numberHash {d : Nat} {v0 : Int32} {v1 : Int64} {h : MH} {u : Nat} {K : Int32 → MH → Nat → Prop} (u1 : Nat) (hu : u1 ≤ u) (H : F_X12_numberHash d v0 v1 h u1 (fun x h2 => K x h2 (u - u1))) : iI d u_X12_numberHash [jI v0, jL v1] h u K := inv.of u1 hu (Ct.of (by decide +kernel) rfl (Nat.le_of_ble_eq_true rfl) rfl (E_X12_numberHash H))
theorem J_X12_numberHash {d : Nat} {v0 : Int32} {v1 : Int64} {h : MH} {u : Nat} {K : Int32 → MH → Prop} (H : F_X12_numberHash d v0 v1 h 0 K) : iI d u_X12_numberHash [jI v0, jL v1] h u (fun x h2 u2 => K x h2 ∧ u2 = u) := jiI (by decide +kernel) rfl (Nat.le_of_ble_eq_true rfl) rfl (E_X12_numberHash H)
theorem dX12_rowHash_0 : decode cX12_rowHash 0 = .ok (.iconst 1, 1) := by decide +kernel
theorem dX12_rowHash_1 : decode cX12_rowHash 1 = .ok (.istore_n 2, 1) := by decide +kernel
theorem dX12_rowHash_2 : decode cX12_rowHash 2 = .ok (.iconst 0, 1) := by decide +kernel
theorem dX12_rowHash_3 : decode cX12_rowHash 3 = .ok (.istore_n 3, 1) := by decide +kernel
theorem dX12_rowHash_4 : decode cX12_rowHash 4 = .ok (.iload_n 3, 1) := by decide +kernel
theorem dX12_rowHash_5 : decode cX12_rowHash 5 = .ok (.aload_n 0, 1) := by decide +kernel
theorem dX12_rowHash_6 : decode cX12_rowHash 6 = .ok (.getfield 13, 3) := by decide +kernel
theorem dX12_rowHash_9 : decode cX12_rowHash 9 = .ok (.iload_n 1, 1) := by decide +kernel
theorem dX12_rowHash_10 : decode cX12_rowHash 10 = .ok (.iaload, 1) := by decide +kernel
theorem dX12_rowHash_11 : decode cX12_rowHash 11 = .ok (.if_icmp .ge 35, 3) := by decide +kernel
theorem dX12_rowHash_14 : decode cX12_rowHash 14 = .ok (.bipush 31, 2) := by decide +kernel
theorem dX12_rowHash_16 : decode cX12_rowHash 16 = .ok (.iload_n 2, 1) := by decide +kernel
theorem dX12_rowHash_17 : decode cX12_rowHash 17 = .ok (.imul, 1) := by decide +kernel
theorem dX12_rowHash_18 : decode cX12_rowHash 18 = .ok (.aload_n 0, 1) := by decide +kernel
theorem dX12_rowHash_19 : decode cX12_rowHash 19 = .ok (.getfield 7, 3) := by decide +kernel
theorem dX12_rowHash_22 : decode cX12_rowHash 22 = .ok (.iload_n 1, 1) := by decide +kernel
theorem dX12_rowHash_23 : decode cX12_rowHash 23 = .ok (.iaload, 1) := by decide +kernel
theorem dX12_rowHash_24 : decode cX12_rowHash 24 = .ok (.aload_n 0, 1) := by decide +kernel
theorem dX12_rowHash_25 : decode cX12_rowHash 25 = .ok (.getfield 20, 3) := by decide +kernel
theorem dX12_rowHash_28 : decode cX12_rowHash 28 = .ok (.bipush 20, 2) := by decide +kernel
theorem dX12_rowHash_30 : decode cX12_rowHash 30 = .ok (.iload_n 1, 1) := by decide +kernel
theorem dX12_rowHash_31 : decode cX12_rowHash 31 = .ok (.imul, 1) := by decide +kernel
theorem dX12_rowHash_32 : decode cX12_rowHash 32 = .ok (.iload_n 3, 1) := by decide +kernel
theorem dX12_rowHash_33 : decode cX12_rowHash 33 = .ok (.iadd, 1) := by decide +kernel
theorem dX12_rowHash_34 : decode cX12_rowHash 34 = .ok (.laload, 1) := by decide +kernel
theorem dX12_rowHash_35 : decode cX12_rowHash 35 = .ok (.invokestatic 298, 3) := by decide +kernel
theorem dX12_rowHash_38 : decode cX12_rowHash 38 = .ok (.iadd, 1) := by decide +kernel
theorem dX12_rowHash_39 : decode cX12_rowHash 39 = .ok (.istore_n 2, 1) := by decide +kernel
theorem dX12_rowHash_40 : decode cX12_rowHash 40 = .ok (.iinc 3 1, 3) := by decide +kernel
theorem dX12_rowHash_43 : decode cX12_rowHash 43 = .ok (.goto (-39), 3) := by decide +kernel
theorem dX12_rowHash_46 : decode cX12_rowHash 46 = .ok (.iload_n 2, 1) := by decide +kernel
theorem dX12_rowHash_47 : decode cX12_rowHash 47 = .ok (.ireturn, 1) := by decide +kernel
def L_X12_rowHash_4 (d : Nat) (v0 : Option Nm) (v1 : Int32) (v2 : Int32) (v3 : Int32) (h : MH) (u : Nat) (Q : Int32 → MH → Prop) : Prop := T u_X12_rowHash (d + 1) 4 [some (jR v0), some (jI v1), some (jI v2), some (jI v3)] [] h u (qI Q)
def F_X12_rowHash (d : Nat) (v0 : Option Nm) (v1 : Int32) (h : MH) (u : Nat) (Q : Int32 → MH → Prop) : Prop :=
  L_X12_rowHash_4 d v0 v1 1 0 h u Q
set_option maxRecDepth 20000 in
theorem E_X12_rowHash {d : Nat} {v0 : Option Nm} {v1 : Int32} {h : MH} {u : Nat} {Q : Int32 → MH → Prop} (H : F_X12_rowHash d v0 v1 h u Q) : T u_X12_rowHash (d + 1) 0 [some (jR v0), some (jI v1), none, none] [] h u (qI Q) := by
  unfold F_X12_rowHash at H
  refine T_iconst (pc := 0) (v := 1) dX12_rowHash_0 (by decide) ?_
  refine T_istore_n (pc := 1) (ls2 := [some (jR v0), some (jI v1), some (jI 1), none]) dX12_rowHash_1 rfl (Nat.le_of_ble_eq_true rfl) rfl ?_
  refine T_iconst (pc := 2) (v := 0) dX12_rowHash_2 (by decide) ?_
  refine T_istore_n (pc := 3) (ls2 := [some (jR v0), some (jI v1), some (jI 1), some (jI 0)]) dX12_rowHash_3 rfl (Nat.le_of_ble_eq_true rfl) rfl ?_
  exact T.forget H ⟨rfl, rfl, rfl, rfl, trivial⟩
def F_X12_rowHash_4 (d : Nat) (v0 : Option Nm) (v1 : Int32) (v2 : Int32) (v3 : Int32) (h : MH) (u : Nat) (Q : Int32 → MH → Prop) : Prop :=
  gR h v0 11 5 fun x1 =>
  aI .int h x1 v1 fun x2 =>
  if x2 ≤ v3 then
    Q v2 h
  else
    gR h v0 11 4 fun x3 =>
    aI .int h x3 v1 fun x4 =>
    gR h v0 11 7 fun x5 =>
    aL h x5 ((20 * v1) + v3) fun x6 =>
    F_X12_numberHash d x4 x6 h 0 fun x7 h =>
    L_X12_rowHash_4 d v0 v1 ((31 * v2) + x7) (v3 + 1) h u Q
set_option maxRecDepth 20000 in
theorem E_X12_rowHash_4 {d : Nat} {v0 : Option Nm} {v1 : Int32} {v2 : Int32} {v3 : Int32} {h : MH} {u : Nat} {Q : Int32 → MH → Prop} (H : F_X12_rowHash_4 d v0 v1 v2 v3 h u Q) : T u_X12_rowHash (d + 1) 4 [some (jR v0), some (jI v1), some (jI v2), some (jI v3)] [] h u (qI Q) := by
  unfold F_X12_rowHash_4 at H
  refine T_iload_n (pc := 4) dX12_rowHash_4 rfl rfl ?_
  refine T_aload_n (pc := 5) dX12_rowHash_5 rfl rfl ?_
  refine T_gR (pc := 6) fa_X12_13 dX12_rowHash_6 (gR_mono (fun x1 H => ?_) H)
  refine T_iload_n (pc := 9) dX12_rowHash_9 rfl rfl ?_
  refine T_aI (pc := 10) dX12_rowHash_10 (aI_mono (fun x2 H => ?_) H)
  refine T_icmp_ge (pc := 11) (tgt := 46) dX12_rowHash_11 (by decide) (fun hc => ?_) (fun hc => ?_)
  · rw [if_pos hc] at H
    refine T_iload_n (pc := 46) dX12_rowHash_46 rfl rfl ?_
    exact T_ireturn (pc := 47) rfl rfl dX12_rowHash_47 H
  · rw [if_neg hc] at H
    refine T_bipush (pc := 14) (v := 31) dX12_rowHash_14 (by decide) ?_
    refine T_iload_n (pc := 16) dX12_rowHash_16 rfl rfl ?_
    refine T_imul (pc := 17) dX12_rowHash_17 ?_
    refine T_aload_n (pc := 18) dX12_rowHash_18 rfl rfl ?_
    refine T_gR (pc := 19) fa_X12_7 dX12_rowHash_19 (gR_mono (fun x3 H => ?_) H)
    refine T_iload_n (pc := 22) dX12_rowHash_22 rfl rfl ?_
    refine T_aI (pc := 23) dX12_rowHash_23 (aI_mono (fun x4 H => ?_) H)
    refine T_aload_n (pc := 24) dX12_rowHash_24 rfl rfl ?_
    refine T_gR (pc := 25) fa_X12_20 dX12_rowHash_25 (gR_mono (fun x5 H => ?_) H)
    refine T_bipush (pc := 28) (v := 20) dX12_rowHash_28 (by decide) ?_
    refine T_iload_n (pc := 30) dX12_rowHash_30 rfl rfl ?_
    refine T_imul (pc := 31) dX12_rowHash_31 ?_
    refine T_iload_n (pc := 32) dX12_rowHash_32 rfl rfl ?_
    refine T_iadd (pc := 33) dX12_rowHash_33 ?_
    refine T_aL (pc := 34) dX12_rowHash_34 (aL_mono (fun x6 H => ?_) H)
    refine T_invS (pc := 35) (av := [jI x4, jL x6]) (rest := [jI (31 * v2)]) dX12_rowHash_35 mf_X12_numberHash c_6_120 c_6_121 rfl (Nat.le_of_ble_eq_true rfl) rfl (iI_k (iI_m0 (fun x7 h H => ?_) (J_X12_numberHash (d := d) H)))
    refine T_iadd (pc := 38) dX12_rowHash_38 ?_
    refine T_istore_n (pc := 39) (ls2 := [some (jR v0), some (jI v1), some (jI ((31 * v2) + x7)), some (jI v3)]) dX12_rowHash_39 rfl (Nat.le_of_ble_eq_true rfl) rfl ?_
    refine T_iinc (pc := 40) (v := v3 + 1) (ls2 := [some (jR v0), some (jI v1), some (jI ((31 * v2) + x7)), some (jI (v3 + 1))]) dX12_rowHash_40 rfl rfl (Nat.le_of_ble_eq_true rfl) rfl ?_
    refine T_goto (pc := 43) (tgt := 4) dX12_rowHash_43 (by decide) ?_
    exact T.forget H ⟨rfl, rfl, rfl, rfl, trivial⟩
theorem I_X12_rowHash {d : Nat} {v0 : Option Nm} {v1 : Int32} {h : MH} {u : Nat} {K : Int32 → MH → Nat → Prop} (u1 : Nat) (hu : u1 ≤ u) (H : F_X12_rowHash d v0 v1 h u1 (fun x h2 => K x h2 (u - u1))) : iI (d + 1) u_X12_rowHash [jR v0, jI v1] h u K := inv.of u1 hu (Ct.of (by decide +kernel) rfl (Nat.le_of_ble_eq_true rfl) rfl (E_X12_rowHash H))
theorem J_X12_rowHash {d : Nat} {v0 : Option Nm} {v1 : Int32} {h : MH} {u : Nat} {K : Int32 → MH → Prop} (H : F_X12_rowHash d v0 v1 h 0 K) : iI (d + 1) u_X12_rowHash [jR v0, jI v1] h u (fun x h2 u2 => K x h2 ∧ u2 = u) := jiI (by decide +kernel) rfl (Nat.le_of_ble_eq_true rfl) rfl (E_X12_rowHash H)
theorem dX12_hashPart_0 : decode cX12_hashPart 0 = .ok (.aload_n 0, 1) := by decide +kernel
theorem dX12_hashPart_1 : decode cX12_hashPart 1 = .ok (.getfield 96, 3) := by decide +kernel
theorem dX12_hashPart_4 : decode cX12_hashPart 4 = .ok (.iload_n 1, 1) := by decide +kernel
theorem dX12_hashPart_5 : decode cX12_hashPart 5 = .ok (.iaload, 1) := by decide +kernel
theorem dX12_hashPart_6 : decode cX12_hashPart 6 = .ok (.istore_n 2, 1) := by decide +kernel
theorem dX12_hashPart_7 : decode cX12_hashPart 7 = .ok (.aload_n 0, 1) := by decide +kernel
theorem dX12_hashPart_8 : decode cX12_hashPart 8 = .ok (.aload_n 0, 1) := by decide +kernel
theorem dX12_hashPart_9 : decode cX12_hashPart 9 = .ok (.getfield 90, 3) := by decide +kernel
theorem dX12_hashPart_12 : decode cX12_hashPart 12 = .ok (.iload_n 1, 1) := by decide +kernel
theorem dX12_hashPart_13 : decode cX12_hashPart 13 = .ok (.iaload, 1) := by decide +kernel
theorem dX12_hashPart_14 : decode cX12_hashPart 14 = .ok (.iload_n 2, 1) := by decide +kernel
theorem dX12_hashPart_15 : decode cX12_hashPart 15 = .ok (.invokevirtual 256, 3) := by decide +kernel
theorem dX12_hashPart_18 : decode cX12_hashPart 18 = .ok (.istore_n 3, 1) := by decide +kernel
theorem dX12_hashPart_19 : decode cX12_hashPart 19 = .ok (.aload_n 0, 1) := by decide +kernel
theorem dX12_hashPart_20 : decode cX12_hashPart 20 = .ok (.getfield 84, 3) := by decide +kernel
theorem dX12_hashPart_23 : decode cX12_hashPart 23 = .ok (.bipush 6, 2) := by decide +kernel
theorem dX12_hashPart_25 : decode cX12_hashPart 25 = .ok (.aload_n 0, 1) := by decide +kernel
theorem dX12_hashPart_26 : decode cX12_hashPart 26 = .ok (.getfield 90, 3) := by decide +kernel
theorem dX12_hashPart_29 : decode cX12_hashPart 29 = .ok (.iload_n 1, 1) := by decide +kernel
theorem dX12_hashPart_30 : decode cX12_hashPart 30 = .ok (.iaload, 1) := by decide +kernel
theorem dX12_hashPart_31 : decode cX12_hashPart 31 = .ok (.imul, 1) := by decide +kernel
theorem dX12_hashPart_32 : decode cX12_hashPart 32 = .ok (.iload_n 2, 1) := by decide +kernel
theorem dX12_hashPart_33 : decode cX12_hashPart 33 = .ok (.iadd, 1) := by decide +kernel
theorem dX12_hashPart_34 : decode cX12_hashPart 34 = .ok (.laload, 1) := by decide +kernel
theorem dX12_hashPart_35 : decode cX12_hashPart 35 = .ok (.lstore 4, 2) := by decide +kernel
theorem dX12_hashPart_37 : decode cX12_hashPart 37 = .ok (.iload_n 3, 1) := by decide +kernel
theorem dX12_hashPart_38 : decode cX12_hashPart 38 = .ok (.bipush 8, 2) := by decide +kernel
theorem dX12_hashPart_40 : decode cX12_hashPart 40 = .ok (.if_icmp .ge 16, 3) := by decide +kernel
theorem dX12_hashPart_43 : decode cX12_hashPart 43 = .ok (.aload_n 0, 1) := by decide +kernel
theorem dX12_hashPart_44 : decode cX12_hashPart 44 = .ok (.iload_n 3, 1) := by decide +kernel
theorem dX12_hashPart_45 : decode cX12_hashPart 45 = .ok (.lload 4, 2) := by decide +kernel
theorem dX12_hashPart_47 : decode cX12_hashPart 47 = .ok (.invokestatic 298, 3) := by decide +kernel
theorem dX12_hashPart_50 : decode cX12_hashPart 50 = .ok (.invokevirtual 302, 3) := by decide +kernel
theorem dX12_hashPart_53 : decode cX12_hashPart 53 = .ok (.goto 147, 3) := by decide +kernel
theorem dX12_hashPart_56 : decode cX12_hashPart 56 = .ok (.iload_n 3, 1) := by decide +kernel
theorem dX12_hashPart_57 : decode cX12_hashPart 57 = .ok (.bipush 8, 2) := by decide +kernel
theorem dX12_hashPart_59 : decode cX12_hashPart 59 = .ok (.if_icmp .ne 13, 3) := by decide +kernel
theorem dX12_hashPart_62 : decode cX12_hashPart 62 = .ok (.aload_n 0, 1) := by decide +kernel
theorem dX12_hashPart_63 : decode cX12_hashPart 63 = .ok (.lload 4, 2) := by decide +kernel
theorem dX12_hashPart_65 : decode cX12_hashPart 65 = .ok (.l2i, 1) := by decide +kernel
theorem dX12_hashPart_66 : decode cX12_hashPart 66 = .ok (.invokevirtual 308, 3) := by decide +kernel
theorem dX12_hashPart_69 : decode cX12_hashPart 69 = .ok (.goto 131, 3) := by decide +kernel
theorem dX12_hashPart_72 : decode cX12_hashPart 72 = .ok (.lload 4, 2) := by decide +kernel
theorem dX12_hashPart_74 : decode cX12_hashPart 74 = .ok (.lconst 0, 1) := by decide +kernel
theorem dX12_hashPart_75 : decode cX12_hashPart 75 = .ok (.lcmp, 1) := by decide +kernel
theorem dX12_hashPart_76 : decode cX12_hashPart 76 = .ok (.ifCond .ge 11, 3) := by decide +kernel
theorem dX12_hashPart_79 : decode cX12_hashPart 79 = .ok (.aload_n 0, 1) := by decide +kernel
theorem dX12_hashPart_80 : decode cX12_hashPart 80 = .ok (.iconst 0, 1) := by decide +kernel
theorem dX12_hashPart_81 : decode cX12_hashPart 81 = .ok (.invokevirtual 302, 3) := by decide +kernel
theorem dX12_hashPart_84 : decode cX12_hashPart 84 = .ok (.goto 116, 3) := by decide +kernel
theorem dX12_hashPart_87 : decode cX12_hashPart 87 = .ok (.aload_n 0, 1) := by decide +kernel
theorem dX12_hashPart_88 : decode cX12_hashPart 88 = .ok (.getfield 7, 3) := by decide +kernel
theorem dX12_hashPart_91 : decode cX12_hashPart 91 = .ok (.lload 4, 2) := by decide +kernel
theorem dX12_hashPart_93 : decode cX12_hashPart 93 = .ok (.l2i, 1) := by decide +kernel
theorem dX12_hashPart_94 : decode cX12_hashPart 94 = .ok (.iaload, 1) := by decide +kernel
theorem dX12_hashPart_95 : decode cX12_hashPart 95 = .ok (.bipush 8, 2) := by decide +kernel
theorem dX12_hashPart_97 : decode cX12_hashPart 97 = .ok (.if_icmp .eq 17, 3) := by decide +kernel
theorem dX12_hashPart_100 : decode cX12_hashPart 100 = .ok (.aload_n 0, 1) := by decide +kernel
theorem dX12_hashPart_101 : decode cX12_hashPart 101 = .ok (.aload_n 0, 1) := by decide +kernel
theorem dX12_hashPart_102 : decode cX12_hashPart 102 = .ok (.lload 4, 2) := by decide +kernel
theorem dX12_hashPart_104 : decode cX12_hashPart 104 = .ok (.l2i, 1) := by decide +kernel
theorem dX12_hashPart_105 : decode cX12_hashPart 105 = .ok (.invokevirtual 311, 3) := by decide +kernel
theorem dX12_hashPart_108 : decode cX12_hashPart 108 = .ok (.invokevirtual 302, 3) := by decide +kernel
theorem dX12_hashPart_111 : decode cX12_hashPart 111 = .ok (.goto 89, 3) := by decide +kernel
theorem dX12_hashPart_114 : decode cX12_hashPart 114 = .ok (.aload_n 0, 1) := by decide +kernel
theorem dX12_hashPart_115 : decode cX12_hashPart 115 = .ok (.getfield 99, 3) := by decide +kernel
theorem dX12_hashPart_118 : decode cX12_hashPart 118 = .ok (.iload_n 1, 1) := by decide +kernel
theorem dX12_hashPart_119 : decode cX12_hashPart 119 = .ok (.iaload, 1) := by decide +kernel
theorem dX12_hashPart_120 : decode cX12_hashPart 120 = .ok (.ifCond .ge 20, 3) := by decide +kernel
theorem dX12_hashPart_123 : decode cX12_hashPart 123 = .ok (.aload_n 0, 1) := by decide +kernel
theorem dX12_hashPart_124 : decode cX12_hashPart 124 = .ok (.getfield 99, 3) := by decide +kernel
theorem dX12_hashPart_127 : decode cX12_hashPart 127 = .ok (.iload_n 1, 1) := by decide +kernel
theorem dX12_hashPart_128 : decode cX12_hashPart 128 = .ok (.iconst 0, 1) := by decide +kernel
theorem dX12_hashPart_129 : decode cX12_hashPart 129 = .ok (.iastore, 1) := by decide +kernel
theorem dX12_hashPart_130 : decode cX12_hashPart 130 = .ok (.aload_n 0, 1) := by decide +kernel
theorem dX12_hashPart_131 : decode cX12_hashPart 131 = .ok (.getfield 105, 3) := by decide +kernel
theorem dX12_hashPart_134 : decode cX12_hashPart 134 = .ok (.iload_n 1, 1) := by decide +kernel
theorem dX12_hashPart_135 : decode cX12_hashPart 135 = .ok (.iconst 1, 1) := by decide +kernel
theorem dX12_hashPart_136 : decode cX12_hashPart 136 = .ok (.iastore, 1) := by decide +kernel
theorem dX12_hashPart_137 : decode cX12_hashPart 137 = .ok (.goto 63, 3) := by decide +kernel
theorem dX12_hashPart_140 : decode cX12_hashPart 140 = .ok (.aload_n 0, 1) := by decide +kernel
theorem dX12_hashPart_141 : decode cX12_hashPart 141 = .ok (.getfield 99, 3) := by decide +kernel
theorem dX12_hashPart_144 : decode cX12_hashPart 144 = .ok (.iload_n 1, 1) := by decide +kernel
theorem dX12_hashPart_145 : decode cX12_hashPart 145 = .ok (.iaload, 1) := by decide +kernel
theorem dX12_hashPart_146 : decode cX12_hashPart 146 = .ok (.aload_n 0, 1) := by decide +kernel
theorem dX12_hashPart_147 : decode cX12_hashPart 147 = .ok (.getfield 13, 3) := by decide +kernel
theorem dX12_hashPart_150 : decode cX12_hashPart 150 = .ok (.lload 4, 2) := by decide +kernel
theorem dX12_hashPart_152 : decode cX12_hashPart 152 = .ok (.l2i, 1) := by decide +kernel
theorem dX12_hashPart_153 : decode cX12_hashPart 153 = .ok (.iaload, 1) := by decide +kernel
theorem dX12_hashPart_154 : decode cX12_hashPart 154 = .ok (.if_icmp .ge 29, 3) := by decide +kernel
theorem dX12_hashPart_157 : decode cX12_hashPart 157 = .ok (.aload_n 0, 1) := by decide +kernel
theorem dX12_hashPart_158 : decode cX12_hashPart 158 = .ok (.aload_n 0, 1) := by decide +kernel
theorem dX12_hashPart_159 : decode cX12_hashPart 159 = .ok (.getfield 20, 3) := by decide +kernel
theorem dX12_hashPart_162 : decode cX12_hashPart 162 = .ok (.bipush 20, 2) := by decide +kernel
theorem dX12_hashPart_164 : decode cX12_hashPart 164 = .ok (.lload 4, 2) := by decide +kernel
theorem dX12_hashPart_166 : decode cX12_hashPart 166 = .ok (.l2i, 1) := by decide +kernel
theorem dX12_hashPart_167 : decode cX12_hashPart 167 = .ok (.imul, 1) := by decide +kernel
theorem dX12_hashPart_168 : decode cX12_hashPart 168 = .ok (.aload_n 0, 1) := by decide +kernel
theorem dX12_hashPart_169 : decode cX12_hashPart 169 = .ok (.getfield 99, 3) := by decide +kernel
theorem dX12_hashPart_172 : decode cX12_hashPart 172 = .ok (.iload_n 1, 1) := by decide +kernel
theorem dX12_hashPart_173 : decode cX12_hashPart 173 = .ok (.iaload, 1) := by decide +kernel
theorem dX12_hashPart_174 : decode cX12_hashPart 174 = .ok (.iadd, 1) := by decide +kernel
theorem dX12_hashPart_175 : decode cX12_hashPart 175 = .ok (.laload, 1) := by decide +kernel
theorem dX12_hashPart_176 : decode cX12_hashPart 176 = .ok (.l2i, 1) := by decide +kernel
theorem dX12_hashPart_177 : decode cX12_hashPart 177 = .ok (.invokevirtual 308, 3) := by decide +kernel
theorem dX12_hashPart_180 : decode cX12_hashPart 180 = .ok (.goto 20, 3) := by decide +kernel
theorem dX12_hashPart_183 : decode cX12_hashPart 183 = .ok (.aload_n 0, 1) := by decide +kernel
theorem dX12_hashPart_184 : decode cX12_hashPart 184 = .ok (.getfield 99, 3) := by decide +kernel
theorem dX12_hashPart_187 : decode cX12_hashPart 187 = .ok (.iload_n 1, 1) := by decide +kernel
theorem dX12_hashPart_188 : decode cX12_hashPart 188 = .ok (.iconst (-1), 1) := by decide +kernel
theorem dX12_hashPart_189 : decode cX12_hashPart 189 = .ok (.iastore, 1) := by decide +kernel
theorem dX12_hashPart_190 : decode cX12_hashPart 190 = .ok (.aload_n 0, 1) := by decide +kernel
theorem dX12_hashPart_191 : decode cX12_hashPart 191 = .ok (.aload_n 0, 1) := by decide +kernel
theorem dX12_hashPart_192 : decode cX12_hashPart 192 = .ok (.getfield 105, 3) := by decide +kernel
theorem dX12_hashPart_195 : decode cX12_hashPart 195 = .ok (.iload_n 1, 1) := by decide +kernel
theorem dX12_hashPart_196 : decode cX12_hashPart 196 = .ok (.iaload, 1) := by decide +kernel
theorem dX12_hashPart_197 : decode cX12_hashPart 197 = .ok (.invokevirtual 302, 3) := by decide +kernel
theorem dX12_hashPart_200 : decode cX12_hashPart 200 = .ok (.return_, 1) := by decide +kernel
def F_X12_hashPart (d : Nat) (v0 : Option Nm) (v1 : Int32) (h : MH) (u : Nat) (Q : MH → Prop) : Prop :=
  gR h v0 11 38 fun x1 =>
  aI .int h x1 v1 fun x2 =>
  gR h v0 11 36 fun x3 =>
  aI .int h x3 v1 fun x4 =>
  rc h v0 11 ∧ F_X12_laneOf d v0 x4 x2 h 0 fun x5 h =>
  gR h v0 11 31 fun x6 =>
  gR h v0 11 36 fun x7 =>
  aI .int h x7 v1 fun x8 =>
  aL h x6 ((6 * x8) + x2) fun x9 =>
  if 8 ≤ x5 then
    if x5 = 8 then
      rc h v0 11 ∧ F_X12_addsThing d v0 (x9.toInt32) h 0 fun h =>
      Q h
    else
      if 0 ≤ (lg_cmp x9 0) then
        gR h v0 11 4 fun x10 =>
        aI .int h x10 (x9.toInt32) fun x11 =>
        if x11 = 8 then
          gR h v0 11 39 fun x12 =>
          aI .int h x12 v1 fun x13 =>
          if 0 ≤ x13 then
            gR h v0 11 39 fun x14 =>
            aI .int h x14 v1 fun x15 =>
            gR h v0 11 5 fun x16 =>
            aI .int h x16 (x9.toInt32) fun x17 =>
            if x17 ≤ x15 then
              gR h v0 11 39 fun x18 =>
              sV .int h x18 v1 (jI (-1)) fun h =>
              gR h v0 11 41 fun x19 =>
              aI .int h x19 v1 fun x20 =>
              rc h v0 11 ∧ F_X12_adds (d + 1) v0 x20 h 0 fun h =>
              Q h
            else
              gR h v0 11 7 fun x22 =>
              gR h v0 11 39 fun x23 =>
              aI .int h x23 v1 fun x24 =>
              aL h x22 ((20 * (x9.toInt32)) + x24) fun x25 =>
              rc h v0 11 ∧ F_X12_addsThing d v0 (x25.toInt32) h 0 fun h =>
              Q h
          else
            gR h v0 11 39 fun x27 =>
            sV .int h x27 v1 (jI 0) fun h =>
            gR h v0 11 41 fun x28 =>
            sV .int h x28 v1 (jI 1) fun h =>
            Q h
        else
          rc h v0 11 ∧ F_X12_rowHash d v0 (x9.toInt32) h 0 fun x29 h =>
          rc h v0 11 ∧ F_X12_adds (d + 1) v0 x29 h 0 fun h =>
          Q h
      else
        rc h v0 11 ∧ F_X12_adds (d + 1) v0 0 h 0 fun h =>
        Q h
  else
    F_X12_numberHash (d + 1) x5 x9 h 0 fun x33 h =>
    rc h v0 11 ∧ F_X12_adds (d + 1) v0 x33 h 0 fun h =>
    Q h
set_option maxRecDepth 20000 in
theorem E_X12_hashPart {d : Nat} {v0 : Option Nm} {v1 : Int32} {h : MH} {u : Nat} {Q : MH → Prop} (H : F_X12_hashPart d v0 v1 h u Q) : T u_X12_hashPart (d + 2) 0 [some (jR v0), some (jI v1), none, none, none, none] [] h u (qV Q) := by
  unfold F_X12_hashPart at H
  refine T_aload_n (pc := 0) dX12_hashPart_0 rfl rfl ?_
  refine T_gR (pc := 1) fa_X12_96 dX12_hashPart_1 (gR_mono (fun x1 H => ?_) H)
  refine T_iload_n (pc := 4) dX12_hashPart_4 rfl rfl ?_
  refine T_aI (pc := 5) dX12_hashPart_5 (aI_mono (fun x2 H => ?_) H)
  refine T_istore_n (pc := 6) (ls2 := [some (jR v0), some (jI v1), some (jI x2), none, none, none]) dX12_hashPart_6 rfl (Nat.le_of_ble_eq_true rfl) rfl ?_
  refine T_aload_n (pc := 7) dX12_hashPart_7 rfl rfl ?_
  refine T_aload_n (pc := 8) dX12_hashPart_8 rfl rfl ?_
  refine T_gR (pc := 9) fa_X12_90 dX12_hashPart_9 (gR_mono (fun x3 H => ?_) H)
  refine T_iload_n (pc := 12) dX12_hashPart_12 rfl rfl ?_
  refine T_aI (pc := 13) dX12_hashPart_13 (aI_mono (fun x4 H => ?_) H)
  refine T_iload_n (pc := 14) dX12_hashPart_14 rfl rfl ?_
  obtain ⟨H0, H⟩ := H
  refine T_iV (pc := 15) (ci := 11) (av := [jI x4, jI x2]) (rest := []) (o := v0) dX12_hashPart_15 mf_X12_laneOf c_6_50 c_6_52 pr_X12_laneOf rfl rfl (Nat.le_of_ble_eq_true rfl) rfl H0 (iI_k (iI_m0 (fun x5 h H => ?_) (J_X12_laneOf (d := d) H)))
  refine T_istore_n (pc := 18) (ls2 := [some (jR v0), some (jI v1), some (jI x2), some (jI x5), none, none]) dX12_hashPart_18 rfl (Nat.le_of_ble_eq_true rfl) rfl ?_
  refine T_aload_n (pc := 19) dX12_hashPart_19 rfl rfl ?_
  refine T_gR (pc := 20) fa_X12_84 dX12_hashPart_20 (gR_mono (fun x6 H => ?_) H)
  refine T_bipush (pc := 23) (v := 6) dX12_hashPart_23 (by decide) ?_
  refine T_aload_n (pc := 25) dX12_hashPart_25 rfl rfl ?_
  refine T_gR (pc := 26) fa_X12_90 dX12_hashPart_26 (gR_mono (fun x7 H => ?_) H)
  refine T_iload_n (pc := 29) dX12_hashPart_29 rfl rfl ?_
  refine T_aI (pc := 30) dX12_hashPart_30 (aI_mono (fun x8 H => ?_) H)
  refine T_imul (pc := 31) dX12_hashPart_31 ?_
  refine T_iload_n (pc := 32) dX12_hashPart_32 rfl rfl ?_
  refine T_iadd (pc := 33) dX12_hashPart_33 ?_
  refine T_aL (pc := 34) dX12_hashPart_34 (aL_mono (fun x9 H => ?_) H)
  refine T_lstore (pc := 35) (ls2 := [some (jR v0), some (jI v1), some (jI x2), some (jI x5), some (jL x9), none]) dX12_hashPart_35 (Nat.le_of_ble_eq_true rfl) rfl ?_
  refine T_iload_n (pc := 37) dX12_hashPart_37 rfl rfl ?_
  refine T_bipush (pc := 38) (v := 8) dX12_hashPart_38 (by decide) ?_
  refine T_icmp_ge (pc := 40) (tgt := 56) dX12_hashPart_40 (by decide) (fun hc => ?_) (fun hc => ?_)
  · rw [if_pos hc] at H
    refine T_iload_n (pc := 56) dX12_hashPart_56 rfl rfl ?_
    refine T_bipush (pc := 57) (v := 8) dX12_hashPart_57 (by decide) ?_
    refine T_icmp_ne (pc := 59) (tgt := 72) dX12_hashPart_59 (by decide) (fun hc => ?_) (fun hc => ?_)
    · rw [if_neg hc] at H
      refine T_lload (pc := 72) dX12_hashPart_72 rfl ?_
      refine T_lconst (pc := 74) (v := 0) dX12_hashPart_74 (by decide) ?_
      refine T_lcmp (pc := 75) dX12_hashPart_75 ?_
      refine T_if_ge (pc := 76) (tgt := 87) dX12_hashPart_76 (by decide) (fun hc => ?_) (fun hc => ?_)
      · rw [if_pos hc] at H
        refine T_aload_n (pc := 87) dX12_hashPart_87 rfl rfl ?_
        refine T_gR (pc := 88) fa_X12_7 dX12_hashPart_88 (gR_mono (fun x10 H => ?_) H)
        refine T_lload (pc := 91) dX12_hashPart_91 rfl ?_
        refine T_l2i (pc := 93) dX12_hashPart_93 ?_
        refine T_aI (pc := 94) dX12_hashPart_94 (aI_mono (fun x11 H => ?_) H)
        refine T_bipush (pc := 95) (v := 8) dX12_hashPart_95 (by decide) ?_
        refine T_icmp_eq (pc := 97) (tgt := 114) dX12_hashPart_97 (by decide) (fun hc => ?_) (fun hc => ?_)
        · rw [if_pos hc] at H
          refine T_aload_n (pc := 114) dX12_hashPart_114 rfl rfl ?_
          refine T_gR (pc := 115) fa_X12_99 dX12_hashPart_115 (gR_mono (fun x12 H => ?_) H)
          refine T_iload_n (pc := 118) dX12_hashPart_118 rfl rfl ?_
          refine T_aI (pc := 119) dX12_hashPart_119 (aI_mono (fun x13 H => ?_) H)
          refine T_if_ge (pc := 120) (tgt := 140) dX12_hashPart_120 (by decide) (fun hc => ?_) (fun hc => ?_)
          · rw [if_pos hc] at H
            refine T_aload_n (pc := 140) dX12_hashPart_140 rfl rfl ?_
            refine T_gR (pc := 141) fa_X12_99 dX12_hashPart_141 (gR_mono (fun x14 H => ?_) H)
            refine T_iload_n (pc := 144) dX12_hashPart_144 rfl rfl ?_
            refine T_aI (pc := 145) dX12_hashPart_145 (aI_mono (fun x15 H => ?_) H)
            refine T_aload_n (pc := 146) dX12_hashPart_146 rfl rfl ?_
            refine T_gR (pc := 147) fa_X12_13 dX12_hashPart_147 (gR_mono (fun x16 H => ?_) H)
            refine T_lload (pc := 150) dX12_hashPart_150 rfl ?_
            refine T_l2i (pc := 152) dX12_hashPart_152 ?_
            refine T_aI (pc := 153) dX12_hashPart_153 (aI_mono (fun x17 H => ?_) H)
            refine T_icmp_ge (pc := 154) (tgt := 183) dX12_hashPart_154 (by decide) (fun hc => ?_) (fun hc => ?_)
            · rw [if_pos hc] at H
              refine T_aload_n (pc := 183) dX12_hashPart_183 rfl rfl ?_
              refine T_gR (pc := 184) fa_X12_99 dX12_hashPart_184 (gR_mono (fun x18 H => ?_) H)
              refine T_iload_n (pc := 187) dX12_hashPart_187 rfl rfl ?_
              refine T_iconst (pc := 188) (v := (-1)) dX12_hashPart_188 (by decide) ?_
              refine T_sI (pc := 189) dX12_hashPart_189 (sV_mono (fun h H => ?_) H)
              refine T_aload_n (pc := 190) dX12_hashPart_190 rfl rfl ?_
              refine T_aload_n (pc := 191) dX12_hashPart_191 rfl rfl ?_
              refine T_gR (pc := 192) fa_X12_105 dX12_hashPart_192 (gR_mono (fun x19 H => ?_) H)
              refine T_iload_n (pc := 195) dX12_hashPart_195 rfl rfl ?_
              refine T_aI (pc := 196) dX12_hashPart_196 (aI_mono (fun x20 H => ?_) H)
              obtain ⟨H0, H⟩ := H
              refine T_iV (pc := 197) (ci := 11) (av := [jI x20]) (rest := []) (o := v0) dX12_hashPart_197 mf_X12_adds c_6_123 c_6_125 pr_X12_adds rfl rfl (Nat.le_of_ble_eq_true rfl) rfl H0 (iV_k (iV_m0 (fun h H => ?_) (J_X12_adds (d := (d + 1)) H)))
              exact T_return (pc := 200) rfl dX12_hashPart_200 H
            · rw [if_neg hc] at H
              refine T_aload_n (pc := 157) dX12_hashPart_157 rfl rfl ?_
              refine T_aload_n (pc := 158) dX12_hashPart_158 rfl rfl ?_
              refine T_gR (pc := 159) fa_X12_20 dX12_hashPart_159 (gR_mono (fun x22 H => ?_) H)
              refine T_bipush (pc := 162) (v := 20) dX12_hashPart_162 (by decide) ?_
              refine T_lload (pc := 164) dX12_hashPart_164 rfl ?_
              refine T_l2i (pc := 166) dX12_hashPart_166 ?_
              refine T_imul (pc := 167) dX12_hashPart_167 ?_
              refine T_aload_n (pc := 168) dX12_hashPart_168 rfl rfl ?_
              refine T_gR (pc := 169) fa_X12_99 dX12_hashPart_169 (gR_mono (fun x23 H => ?_) H)
              refine T_iload_n (pc := 172) dX12_hashPart_172 rfl rfl ?_
              refine T_aI (pc := 173) dX12_hashPart_173 (aI_mono (fun x24 H => ?_) H)
              refine T_iadd (pc := 174) dX12_hashPart_174 ?_
              refine T_aL (pc := 175) dX12_hashPart_175 (aL_mono (fun x25 H => ?_) H)
              refine T_l2i (pc := 176) dX12_hashPart_176 ?_
              obtain ⟨H0, H⟩ := H
              refine T_iV (pc := 177) (ci := 11) (av := [jI (x25.toInt32)]) (rest := []) (o := v0) dX12_hashPart_177 mf_X12_addsThing c_6_127 c_6_129 pr_X12_addsThing rfl rfl (Nat.le_of_ble_eq_true rfl) rfl H0 (iV_k (iV_m0 (fun h H => ?_) (J_X12_addsThing (d := d) H)))
              refine T_goto (pc := 180) (tgt := 200) dX12_hashPart_180 (by decide) ?_
              exact T_return (pc := 200) rfl dX12_hashPart_200 H
          · rw [if_neg hc] at H
            refine T_aload_n (pc := 123) dX12_hashPart_123 rfl rfl ?_
            refine T_gR (pc := 124) fa_X12_99 dX12_hashPart_124 (gR_mono (fun x27 H => ?_) H)
            refine T_iload_n (pc := 127) dX12_hashPart_127 rfl rfl ?_
            refine T_iconst (pc := 128) (v := 0) dX12_hashPart_128 (by decide) ?_
            refine T_sI (pc := 129) dX12_hashPart_129 (sV_mono (fun h H => ?_) H)
            refine T_aload_n (pc := 130) dX12_hashPart_130 rfl rfl ?_
            refine T_gR (pc := 131) fa_X12_105 dX12_hashPart_131 (gR_mono (fun x28 H => ?_) H)
            refine T_iload_n (pc := 134) dX12_hashPart_134 rfl rfl ?_
            refine T_iconst (pc := 135) (v := 1) dX12_hashPart_135 (by decide) ?_
            refine T_sI (pc := 136) dX12_hashPart_136 (sV_mono (fun h H => ?_) H)
            refine T_goto (pc := 137) (tgt := 200) dX12_hashPart_137 (by decide) ?_
            exact T_return (pc := 200) rfl dX12_hashPart_200 H
        · rw [if_neg hc] at H
          refine T_aload_n (pc := 100) dX12_hashPart_100 rfl rfl ?_
          refine T_aload_n (pc := 101) dX12_hashPart_101 rfl rfl ?_
          refine T_lload (pc := 102) dX12_hashPart_102 rfl ?_
          refine T_l2i (pc := 104) dX12_hashPart_104 ?_
          obtain ⟨H0, H⟩ := H
          refine T_iV (pc := 105) (ci := 11) (av := [jI (x9.toInt32)]) (rest := [jR v0]) (o := v0) dX12_hashPart_105 mf_X12_rowHash c_6_131 c_6_133 pr_X12_rowHash rfl rfl (Nat.le_of_ble_eq_true rfl) rfl H0 (iI_k (iI_m0 (fun x29 h H => ?_) (J_X12_rowHash (d := d) H)))
          obtain ⟨H0, H⟩ := H
          refine T_iV (pc := 108) (ci := 11) (av := [jI x29]) (rest := []) (o := v0) dX12_hashPart_108 mf_X12_adds c_6_123 c_6_125 pr_X12_adds rfl rfl (Nat.le_of_ble_eq_true rfl) rfl H0 (iV_k (iV_m0 (fun h H => ?_) (J_X12_adds (d := (d + 1)) H)))
          refine T_goto (pc := 111) (tgt := 200) dX12_hashPart_111 (by decide) ?_
          exact T_return (pc := 200) rfl dX12_hashPart_200 H
      · rw [if_neg hc] at H
        refine T_aload_n (pc := 79) dX12_hashPart_79 rfl rfl ?_
        refine T_iconst (pc := 80) (v := 0) dX12_hashPart_80 (by decide) ?_
        obtain ⟨H0, H⟩ := H
        refine T_iV (pc := 81) (ci := 11) (av := [jI 0]) (rest := []) (o := v0) dX12_hashPart_81 mf_X12_adds c_6_123 c_6_125 pr_X12_adds rfl rfl (Nat.le_of_ble_eq_true rfl) rfl H0 (iV_k (iV_m0 (fun h H => ?_) (J_X12_adds (d := (d + 1)) H)))
        refine T_goto (pc := 84) (tgt := 200) dX12_hashPart_84 (by decide) ?_
        exact T_return (pc := 200) rfl dX12_hashPart_200 H
    · rw [if_pos hc] at H
      refine T_aload_n (pc := 62) dX12_hashPart_62 rfl rfl ?_
      refine T_lload (pc := 63) dX12_hashPart_63 rfl ?_
      refine T_l2i (pc := 65) dX12_hashPart_65 ?_
      obtain ⟨H0, H⟩ := H
      refine T_iV (pc := 66) (ci := 11) (av := [jI (x9.toInt32)]) (rest := []) (o := v0) dX12_hashPart_66 mf_X12_addsThing c_6_127 c_6_129 pr_X12_addsThing rfl rfl (Nat.le_of_ble_eq_true rfl) rfl H0 (iV_k (iV_m0 (fun h H => ?_) (J_X12_addsThing (d := d) H)))
      refine T_goto (pc := 69) (tgt := 200) dX12_hashPart_69 (by decide) ?_
      exact T_return (pc := 200) rfl dX12_hashPart_200 H
  · rw [if_neg hc] at H
    refine T_aload_n (pc := 43) dX12_hashPart_43 rfl rfl ?_
    refine T_iload_n (pc := 44) dX12_hashPart_44 rfl rfl ?_
    refine T_lload (pc := 45) dX12_hashPart_45 rfl ?_
    refine T_invS (pc := 47) (av := [jI x5, jL x9]) (rest := [jR v0]) dX12_hashPart_47 mf_X12_numberHash c_6_120 c_6_121 rfl (Nat.le_of_ble_eq_true rfl) rfl (iI_k (iI_m0 (fun x33 h H => ?_) (J_X12_numberHash (d := (d + 1)) H)))
    obtain ⟨H0, H⟩ := H
    refine T_iV (pc := 50) (ci := 11) (av := [jI x33]) (rest := []) (o := v0) dX12_hashPart_50 mf_X12_adds c_6_123 c_6_125 pr_X12_adds rfl rfl (Nat.le_of_ble_eq_true rfl) rfl H0 (iV_k (iV_m0 (fun h H => ?_) (J_X12_adds (d := (d + 1)) H)))
    refine T_goto (pc := 53) (tgt := 200) dX12_hashPart_53 (by decide) ?_
    exact T_return (pc := 200) rfl dX12_hashPart_200 H
theorem I_X12_hashPart {d : Nat} {v0 : Option Nm} {v1 : Int32} {h : MH} {u : Nat} {K : MH → Nat → Prop} (u1 : Nat) (hu : u1 ≤ u) (H : F_X12_hashPart d v0 v1 h u1 (fun h2 => K h2 (u - u1))) : iV (d + 2) u_X12_hashPart [jR v0, jI v1] h u K := inv.of u1 hu (Ct.of (by decide +kernel) rfl (Nat.le_of_ble_eq_true rfl) rfl (E_X12_hashPart H))
theorem J_X12_hashPart {d : Nat} {v0 : Option Nm} {v1 : Int32} {h : MH} {u : Nat} {K : MH → Prop} (H : F_X12_hashPart d v0 v1 h 0 K) : iV (d + 2) u_X12_hashPart [jR v0, jI v1] h u (fun h2 u2 => K h2 ∧ u2 = u) := jiV (by decide +kernel) rfl (Nat.le_of_ble_eq_true rfl) rfl (E_X12_hashPart H)
theorem dX12_hash_0 : decode cX12_hash 0 = .ok (.aload_n 0, 1) := by decide +kernel
theorem dX12_hash_1 : decode cX12_hash 1 = .ok (.iload_n 1, 1) := by decide +kernel
theorem dX12_hash_2 : decode cX12_hash 2 = .ok (.invokevirtual 190, 3) := by decide +kernel
theorem dX12_hash_5 : decode cX12_hash 5 = .ok (.ifCond .ne 7, 3) := by decide +kernel
theorem dX12_hash_8 : decode cX12_hash 8 = .ok (.invokestatic 124, 3) := by decide +kernel
theorem dX12_hash_11 : decode cX12_hash 11 = .ok (.lreturn, 1) := by decide +kernel
theorem dX12_hash_12 : decode cX12_hash 12 = .ok (.aload_n 0, 1) := by decide +kernel
theorem dX12_hash_13 : decode cX12_hash 13 = .ok (.iload_n 1, 1) := by decide +kernel
theorem dX12_hash_14 : decode cX12_hash 14 = .ok (.invokevirtual 261, 3) := by decide +kernel
theorem dX12_hash_17 : decode cX12_hash 17 = .ok (.ifCond .eq 10, 3) := by decide +kernel
theorem dX12_hash_20 : decode cX12_hash 20 = .ok (.aload_n 0, 1) := by decide +kernel
theorem dX12_hash_21 : decode cX12_hash 21 = .ok (.iload_n 1, 1) := by decide +kernel
theorem dX12_hash_22 : decode cX12_hash 22 = .ok (.invokevirtual 305, 3) := by decide +kernel
theorem dX12_hash_25 : decode cX12_hash 25 = .ok (.i2l, 1) := by decide +kernel
theorem dX12_hash_26 : decode cX12_hash 26 = .ok (.lreturn, 1) := by decide +kernel
theorem dX12_hash_27 : decode cX12_hash 27 = .ok (.aload_n 0, 1) := by decide +kernel
theorem dX12_hash_28 : decode cX12_hash 28 = .ok (.iconst 0, 1) := by decide +kernel
theorem dX12_hash_29 : decode cX12_hash 29 = .ok (.putfield 271, 3) := by decide +kernel
theorem dX12_hash_32 : decode cX12_hash 32 = .ok (.aload_n 0, 1) := by decide +kernel
theorem dX12_hash_33 : decode cX12_hash 33 = .ok (.iload_n 1, 1) := by decide +kernel
theorem dX12_hash_34 : decode cX12_hash 34 = .ok (.iload_n 1, 1) := by decide +kernel
theorem dX12_hash_35 : decode cX12_hash 35 = .ok (.invokevirtual 277, 3) := by decide +kernel
theorem dX12_hash_38 : decode cX12_hash 38 = .ok (.iconst 0, 1) := by decide +kernel
theorem dX12_hash_39 : decode cX12_hash 39 = .ok (.istore_n 2, 1) := by decide +kernel
theorem dX12_hash_40 : decode cX12_hash 40 = .ok (.aload_n 0, 1) := by decide +kernel
theorem dX12_hash_41 : decode cX12_hash 41 = .ok (.getfield 271, 3) := by decide +kernel
theorem dX12_hash_44 : decode cX12_hash 44 = .ok (.ifCond .le 69, 3) := by decide +kernel
theorem dX12_hash_47 : decode cX12_hash 47 = .ok (.aload_n 0, 1) := by decide +kernel
theorem dX12_hash_48 : decode cX12_hash 48 = .ok (.getfield 271, 3) := by decide +kernel
theorem dX12_hash_51 : decode cX12_hash 51 = .ok (.iconst 1, 1) := by decide +kernel
theorem dX12_hash_52 : decode cX12_hash 52 = .ok (.isub, 1) := by decide +kernel
theorem dX12_hash_53 : decode cX12_hash 53 = .ok (.istore_n 3, 1) := by decide +kernel
theorem dX12_hash_54 : decode cX12_hash 54 = .ok (.aload_n 0, 1) := by decide +kernel
theorem dX12_hash_55 : decode cX12_hash 55 = .ok (.getfield 96, 3) := by decide +kernel
theorem dX12_hash_58 : decode cX12_hash 58 = .ok (.iload_n 3, 1) := by decide +kernel
theorem dX12_hash_59 : decode cX12_hash 59 = .ok (.iaload, 1) := by decide +kernel
theorem dX12_hash_60 : decode cX12_hash 60 = .ok (.aload_n 0, 1) := by decide +kernel
theorem dX12_hash_61 : decode cX12_hash 61 = .ok (.aload_n 0, 1) := by decide +kernel
theorem dX12_hash_62 : decode cX12_hash 62 = .ok (.getfield 90, 3) := by decide +kernel
theorem dX12_hash_65 : decode cX12_hash 65 = .ok (.iload_n 3, 1) := by decide +kernel
theorem dX12_hash_66 : decode cX12_hash 66 = .ok (.iaload, 1) := by decide +kernel
theorem dX12_hash_67 : decode cX12_hash 67 = .ok (.invokevirtual 264, 3) := by decide +kernel
theorem dX12_hash_70 : decode cX12_hash 70 = .ok (.if_icmp .ge 11, 3) := by decide +kernel
theorem dX12_hash_73 : decode cX12_hash 73 = .ok (.aload_n 0, 1) := by decide +kernel
theorem dX12_hash_74 : decode cX12_hash 74 = .ok (.iload_n 3, 1) := by decide +kernel
theorem dX12_hash_75 : decode cX12_hash 75 = .ok (.invokevirtual 314, 3) := by decide +kernel
theorem dX12_hash_78 : decode cX12_hash 78 = .ok (.goto 32, 3) := by decide +kernel
theorem dX12_hash_81 : decode cX12_hash 81 = .ok (.aload_n 0, 1) := by decide +kernel
theorem dX12_hash_82 : decode cX12_hash 82 = .ok (.getfield 102, 3) := by decide +kernel
theorem dX12_hash_85 : decode cX12_hash 85 = .ok (.iload_n 3, 1) := by decide +kernel
theorem dX12_hash_86 : decode cX12_hash 86 = .ok (.iaload, 1) := by decide +kernel
theorem dX12_hash_87 : decode cX12_hash 87 = .ok (.istore_n 2, 1) := by decide +kernel
theorem dX12_hash_88 : decode cX12_hash 88 = .ok (.aload_n 0, 1) := by decide +kernel
theorem dX12_hash_89 : decode cX12_hash 89 = .ok (.dup, 1) := by decide +kernel
theorem dX12_hash_90 : decode cX12_hash 90 = .ok (.getfield 271, 3) := by decide +kernel
theorem dX12_hash_93 : decode cX12_hash 93 = .ok (.iconst 1, 1) := by decide +kernel
theorem dX12_hash_94 : decode cX12_hash 94 = .ok (.isub, 1) := by decide +kernel
theorem dX12_hash_95 : decode cX12_hash 95 = .ok (.putfield 271, 3) := by decide +kernel
theorem dX12_hash_98 : decode cX12_hash 98 = .ok (.aload_n 0, 1) := by decide +kernel
theorem dX12_hash_99 : decode cX12_hash 99 = .ok (.getfield 271, 3) := by decide +kernel
theorem dX12_hash_102 : decode cX12_hash 102 = .ok (.ifCond .le 8, 3) := by decide +kernel
theorem dX12_hash_105 : decode cX12_hash 105 = .ok (.aload_n 0, 1) := by decide +kernel
theorem dX12_hash_106 : decode cX12_hash 106 = .ok (.iload_n 2, 1) := by decide +kernel
theorem dX12_hash_107 : decode cX12_hash 107 = .ok (.invokevirtual 302, 3) := by decide +kernel
theorem dX12_hash_110 : decode cX12_hash 110 = .ok (.goto (-70), 3) := by decide +kernel
theorem dX12_hash_113 : decode cX12_hash 113 = .ok (.iload_n 2, 1) := by decide +kernel
theorem dX12_hash_114 : decode cX12_hash 114 = .ok (.i2l, 1) := by decide +kernel
theorem dX12_hash_115 : decode cX12_hash 115 = .ok (.lreturn, 1) := by decide +kernel
def L_X12_hash_40 (d : Nat) (v0 : Option Nm) (v2 : Int32) (h : MH) (u : Nat) (Q : Int64 → MH → Prop) : Prop := T u_X12_hash (d + 3) 40 [some (jR v0), none, some (jI v2), none] [] h u (qL Q)
def F_X12_hash (d : Nat) (v0 : Option Nm) (v1 : Int32) (h : MH) (u : Nat) (Q : Int64 → MH → Prop) : Prop :=
  rc h v0 11 ∧ F_X12_isValue (d + 1) v0 v1 h 0 fun x1 h =>
  if x1 = 0 then
    F_X12_lost (d + 2)  h 0 fun x5 h =>
    Q x5 h
  else
    rc h v0 11 ∧ F_X12_isConstant (d + 2) v0 v1 h 0 fun x2 h =>
    if x2 = 0 then
      pV h v0 11 35 (jI 0) fun h =>
      rc h v0 11 ∧ F_X12_push (d + 2) v0 v1 v1 h 0 fun h =>
      L_X12_hash_40 d v0 0 h u Q
    else
      rc h v0 11 ∧ F_X12_constantHash (d + 2) v0 v1 h 0 fun x4 h =>
      Q (x4.toInt64) h
set_option maxRecDepth 20000 in
theorem E_X12_hash {d : Nat} {v0 : Option Nm} {v1 : Int32} {h : MH} {u : Nat} {Q : Int64 → MH → Prop} (H : F_X12_hash d v0 v1 h u Q) : T u_X12_hash (d + 3) 0 [some (jR v0), some (jI v1), none, none] [] h u (qL Q) := by
  unfold F_X12_hash at H
  refine T_aload_n (pc := 0) dX12_hash_0 rfl rfl ?_
  refine T_iload_n (pc := 1) dX12_hash_1 rfl rfl ?_
  obtain ⟨H0, H⟩ := H
  refine T_iV (pc := 2) (ci := 11) (av := [jI v1]) (rest := []) (o := v0) dX12_hash_2 mf_X12_isValue c_5_155 c_5_157 pr_X12_isValue rfl rfl (Nat.le_of_ble_eq_true rfl) rfl H0 (iI_k (iI_m0 (fun x1 h H => ?_) (J_X12_isValue (d := (d + 1)) H)))
  refine T_if_ne (pc := 5) (tgt := 12) dX12_hash_5 (by decide) (fun hc => ?_) (fun hc => ?_)
  · rw [if_neg hc] at H
    refine T_aload_n (pc := 12) dX12_hash_12 rfl rfl ?_
    refine T_iload_n (pc := 13) dX12_hash_13 rfl rfl ?_
    obtain ⟨H0, H⟩ := H
    refine T_iV (pc := 14) (ci := 11) (av := [jI v1]) (rest := []) (o := v0) dX12_hash_14 mf_X12_isConstant c_6_34 c_6_36 pr_X12_isConstant rfl rfl (Nat.le_of_ble_eq_true rfl) rfl H0 (iI_k (iI_m0 (fun x2 h H => ?_) (J_X12_isConstant (d := (d + 2)) H)))
    refine T_if_eq (pc := 17) (tgt := 27) dX12_hash_17 (by decide) (fun hc => ?_) (fun hc => ?_)
    · rw [if_pos hc] at H
      refine T_aload_n (pc := 27) dX12_hash_27 rfl rfl ?_
      refine T_iconst (pc := 28) (v := 0) dX12_hash_28 (by decide) ?_
      refine T_pV (pc := 29) fa_X12_271 dX12_hash_29 trivial (pV_mono (fun h H => ?_) H)
      refine T_aload_n (pc := 32) dX12_hash_32 rfl rfl ?_
      refine T_iload_n (pc := 33) dX12_hash_33 rfl rfl ?_
      refine T_iload_n (pc := 34) dX12_hash_34 rfl rfl ?_
      obtain ⟨H0, H⟩ := H
      refine T_iV (pc := 35) (ci := 11) (av := [jI v1, jI v1]) (rest := []) (o := v0) dX12_hash_35 mf_X12_push c_6_86 c_6_88 pr_X12_push rfl rfl (Nat.le_of_ble_eq_true rfl) rfl H0 (iV_k (iV_m0 (fun h H => ?_) (J_X12_push (d := (d + 2)) H)))
      refine T_iconst (pc := 38) (v := 0) dX12_hash_38 (by decide) ?_
      refine T_istore_n (pc := 39) (ls2 := [some (jR v0), some (jI v1), some (jI 0), none]) dX12_hash_39 rfl (Nat.le_of_ble_eq_true rfl) rfl ?_
      exact T.forget H ⟨rfl, rfl, trivial⟩
    · rw [if_neg hc] at H
      refine T_aload_n (pc := 20) dX12_hash_20 rfl rfl ?_
      refine T_iload_n (pc := 21) dX12_hash_21 rfl rfl ?_
      obtain ⟨H0, H⟩ := H
      refine T_iV (pc := 22) (ci := 11) (av := [jI v1]) (rest := []) (o := v0) dX12_hash_22 mf_X12_constantHash c_6_112 c_6_114 pr_X12_constantHash rfl rfl (Nat.le_of_ble_eq_true rfl) rfl H0 (iI_k (iI_m0 (fun x4 h H => ?_) (J_X12_constantHash (d := (d + 2)) H)))
      refine T_i2l (pc := 25) dX12_hash_25 ?_
      exact T_lreturn (pc := 26) rfl dX12_hash_26 H
  · rw [if_pos hc] at H
    refine T_invS (pc := 8) (av := []) (rest := []) dX12_hash_8 mf_X12_lost c_5_143 c_5_144 rfl (Nat.le_of_ble_eq_true rfl) rfl (iL_k (iL_m0 (fun x5 h H => ?_) (J_X12_lost (d := (d + 2)) H)))
    exact T_lreturn (pc := 11) rfl dX12_hash_11 H
def F_X12_hash_40 (d : Nat) (v0 : Option Nm) (v2 : Int32) (h : MH) (u : Nat) (Q : Int64 → MH → Prop) : Prop :=
  gI h v0 11 35 fun x1 =>
  if x1 ≤ 0 then
    Q (v2.toInt64) h
  else
    gI h v0 11 35 fun x2 =>
    gR h v0 11 38 fun x3 =>
    aI .int h x3 (x2 - 1) fun x4 =>
    gR h v0 11 36 fun x5 =>
    aI .int h x5 (x2 - 1) fun x6 =>
    rc h v0 11 ∧ F_X12_partsOf (d + 1) v0 x6 h 0 fun x7 h =>
    if x7 ≤ x4 then
      gR h v0 11 40 fun x8 =>
      aI .int h x8 (x2 - 1) fun x9 =>
      gI h v0 11 35 fun x10 =>
      pV h v0 11 35 (jI (x10 - 1)) fun h =>
      gI h v0 11 35 fun x11 =>
      if x11 ≤ 0 then
        L_X12_hash_40 d v0 x9 h u Q
      else
        rc h v0 11 ∧ F_X12_adds (d + 2) v0 x9 h 0 fun h =>
        L_X12_hash_40 d v0 x9 h u Q
    else
      rc h v0 11 ∧ F_X12_hashPart d v0 (x2 - 1) h 0 fun h =>
      L_X12_hash_40 d v0 v2 h u Q
set_option maxRecDepth 20000 in
theorem E_X12_hash_40 {d : Nat} {v0 : Option Nm} {v2 : Int32} {h : MH} {u : Nat} {Q : Int64 → MH → Prop} (H : F_X12_hash_40 d v0 v2 h u Q) : T u_X12_hash (d + 3) 40 [some (jR v0), none, some (jI v2), none] [] h u (qL Q) := by
  unfold F_X12_hash_40 at H
  refine T_aload_n (pc := 40) dX12_hash_40 rfl rfl ?_
  refine T_gI (pc := 41) fa_X12_271 dX12_hash_41 (gI_mono (fun x1 H => ?_) H)
  refine T_if_le (pc := 44) (tgt := 113) dX12_hash_44 (by decide) (fun hc => ?_) (fun hc => ?_)
  · rw [if_pos hc] at H
    refine T_iload_n (pc := 113) dX12_hash_113 rfl rfl ?_
    refine T_i2l (pc := 114) dX12_hash_114 ?_
    exact T_lreturn (pc := 115) rfl dX12_hash_115 H
  · rw [if_neg hc] at H
    refine T_aload_n (pc := 47) dX12_hash_47 rfl rfl ?_
    refine T_gI (pc := 48) fa_X12_271 dX12_hash_48 (gI_mono (fun x2 H => ?_) H)
    refine T_iconst (pc := 51) (v := 1) dX12_hash_51 (by decide) ?_
    refine T_isub (pc := 52) dX12_hash_52 ?_
    refine T_istore_n (pc := 53) (ls2 := [some (jR v0), none, some (jI v2), some (jI (x2 - 1))]) dX12_hash_53 rfl (Nat.le_of_ble_eq_true rfl) rfl ?_
    refine T_aload_n (pc := 54) dX12_hash_54 rfl rfl ?_
    refine T_gR (pc := 55) fa_X12_96 dX12_hash_55 (gR_mono (fun x3 H => ?_) H)
    refine T_iload_n (pc := 58) dX12_hash_58 rfl rfl ?_
    refine T_aI (pc := 59) dX12_hash_59 (aI_mono (fun x4 H => ?_) H)
    refine T_aload_n (pc := 60) dX12_hash_60 rfl rfl ?_
    refine T_aload_n (pc := 61) dX12_hash_61 rfl rfl ?_
    refine T_gR (pc := 62) fa_X12_90 dX12_hash_62 (gR_mono (fun x5 H => ?_) H)
    refine T_iload_n (pc := 65) dX12_hash_65 rfl rfl ?_
    refine T_aI (pc := 66) dX12_hash_66 (aI_mono (fun x6 H => ?_) H)
    obtain ⟨H0, H⟩ := H
    refine T_iV (pc := 67) (ci := 11) (av := [jI x6]) (rest := [jI x4]) (o := v0) dX12_hash_67 mf_X12_partsOf c_6_38 c_6_40 pr_X12_partsOf rfl rfl (Nat.le_of_ble_eq_true rfl) rfl H0 (iI_k (iI_m0 (fun x7 h H => ?_) (J_X12_partsOf (d := (d + 1)) H)))
    refine T_icmp_ge (pc := 70) (tgt := 81) dX12_hash_70 (by decide) (fun hc => ?_) (fun hc => ?_)
    · rw [if_pos hc] at H
      refine T_aload_n (pc := 81) dX12_hash_81 rfl rfl ?_
      refine T_gR (pc := 82) fa_X12_102 dX12_hash_82 (gR_mono (fun x8 H => ?_) H)
      refine T_iload_n (pc := 85) dX12_hash_85 rfl rfl ?_
      refine T_aI (pc := 86) dX12_hash_86 (aI_mono (fun x9 H => ?_) H)
      refine T_istore_n (pc := 87) (ls2 := [some (jR v0), none, some (jI x9), some (jI (x2 - 1))]) dX12_hash_87 rfl (Nat.le_of_ble_eq_true rfl) rfl ?_
      refine T_aload_n (pc := 88) dX12_hash_88 rfl rfl ?_
      refine T_dup (pc := 89) rfl dX12_hash_89 ?_
      refine T_gI (pc := 90) fa_X12_271 dX12_hash_90 (gI_mono (fun x10 H => ?_) H)
      refine T_iconst (pc := 93) (v := 1) dX12_hash_93 (by decide) ?_
      refine T_isub (pc := 94) dX12_hash_94 ?_
      refine T_pV (pc := 95) fa_X12_271 dX12_hash_95 trivial (pV_mono (fun h H => ?_) H)
      refine T_aload_n (pc := 98) dX12_hash_98 rfl rfl ?_
      refine T_gI (pc := 99) fa_X12_271 dX12_hash_99 (gI_mono (fun x11 H => ?_) H)
      refine T_if_le (pc := 102) (tgt := 110) dX12_hash_102 (by decide) (fun hc => ?_) (fun hc => ?_)
      · rw [if_pos hc] at H
        refine T_goto (pc := 110) (tgt := 40) dX12_hash_110 (by decide) ?_
        exact T.forget H ⟨rfl, rfl, trivial⟩
      · rw [if_neg hc] at H
        refine T_aload_n (pc := 105) dX12_hash_105 rfl rfl ?_
        refine T_iload_n (pc := 106) dX12_hash_106 rfl rfl ?_
        obtain ⟨H0, H⟩ := H
        refine T_iV (pc := 107) (ci := 11) (av := [jI x9]) (rest := []) (o := v0) dX12_hash_107 mf_X12_adds c_6_123 c_6_125 pr_X12_adds rfl rfl (Nat.le_of_ble_eq_true rfl) rfl H0 (iV_k (iV_m0 (fun h H => ?_) (J_X12_adds (d := (d + 2)) H)))
        refine T_goto (pc := 110) (tgt := 40) dX12_hash_110 (by decide) ?_
        exact T.forget H ⟨rfl, rfl, trivial⟩
    · rw [if_neg hc] at H
      refine T_aload_n (pc := 73) dX12_hash_73 rfl rfl ?_
      refine T_iload_n (pc := 74) dX12_hash_74 rfl rfl ?_
      obtain ⟨H0, H⟩ := H
      refine T_iV (pc := 75) (ci := 11) (av := [jI (x2 - 1)]) (rest := []) (o := v0) dX12_hash_75 mf_X12_hashPart c_6_116 c_6_118 pr_X12_hashPart rfl rfl (Nat.le_of_ble_eq_true rfl) rfl H0 (iV_k (iV_m0 (fun h H => ?_) (J_X12_hashPart (d := d) H)))
      refine T_goto (pc := 78) (tgt := 110) dX12_hash_78 (by decide) ?_
      refine T_goto (pc := 110) (tgt := 40) dX12_hash_110 (by decide) ?_
      exact T.forget H ⟨rfl, rfl, trivial⟩
theorem I_X12_hash {d : Nat} {v0 : Option Nm} {v1 : Int32} {h : MH} {u : Nat} {K : Int64 → MH → Nat → Prop} (u1 : Nat) (hu : u1 ≤ u) (H : F_X12_hash d v0 v1 h u1 (fun x h2 => K x h2 (u - u1))) : iL (d + 3) u_X12_hash [jR v0, jI v1] h u K := inv.of u1 hu (Ct.of (by decide +kernel) rfl (Nat.le_of_ble_eq_true rfl) rfl (E_X12_hash H))
theorem J_X12_hash {d : Nat} {v0 : Option Nm} {v1 : Int32} {h : MH} {u : Nat} {K : Int64 → MH → Prop} (H : F_X12_hash d v0 v1 h 0 K) : iL (d + 3) u_X12_hash [jR v0, jI v1] h u (fun x h2 u2 => K x h2 ∧ u2 = u) := jiL (by decide +kernel) rfl (Nat.le_of_ble_eq_true rfl) rfl (E_X12_hash H)
theorem dX12_info_0 : decode cX12_info 0 = .ok (.aload_n 0, 1) := by decide +kernel
theorem dX12_info_1 : decode cX12_info 1 = .ok (.iload_n 1, 1) := by decide +kernel
theorem dX12_info_2 : decode cX12_info 2 = .ok (.invokevirtual 206, 3) := by decide +kernel
theorem dX12_info_5 : decode cX12_info 5 = .ok (.ifCond .ne 5, 3) := by decide +kernel
theorem dX12_info_8 : decode cX12_info 8 = .ok (.iconst (-1), 1) := by decide +kernel
theorem dX12_info_9 : decode cX12_info 9 = .ok (.ireturn, 1) := by decide +kernel
theorem dX12_info_10 : decode cX12_info 10 = .ok (.iload_n 2, 1) := by decide +kernel
theorem dX12_info_11 : decode cX12_info 11 = .ok (.tableswitch 88 0 4 #[33, 48, 59, 66, 81], 33) := by decide +kernel
theorem dX12_info_44 : decode cX12_info 44 = .ok (.aload_n 0, 1) := by decide +kernel
theorem dX12_info_45 : decode cX12_info 45 = .ok (.getfield 27, 3) := by decide +kernel
theorem dX12_info_48 : decode cX12_info 48 = .ok (.iload_n 1, 1) := by decide +kernel
theorem dX12_info_49 : decode cX12_info 49 = .ok (.baload, 1) := by decide +kernel
theorem dX12_info_50 : decode cX12_info 50 = .ok (.ifCond .eq 7, 3) := by decide +kernel
theorem dX12_info_53 : decode cX12_info 53 = .ok (.iconst 1, 1) := by decide +kernel
theorem dX12_info_54 : decode cX12_info 54 = .ok (.goto 4, 3) := by decide +kernel
theorem dX12_info_57 : decode cX12_info 57 = .ok (.iconst 0, 1) := by decide +kernel
theorem dX12_info_58 : decode cX12_info 58 = .ok (.ireturn, 1) := by decide +kernel
theorem dX12_info_59 : decode cX12_info 59 = .ok (.aload_n 0, 1) := by decide +kernel
theorem dX12_info_60 : decode cX12_info 60 = .ok (.getfield 42, 3) := by decide +kernel
theorem dX12_info_63 : decode cX12_info 63 = .ok (.aload_n 0, 1) := by decide +kernel
theorem dX12_info_64 : decode cX12_info 64 = .ok (.iload_n 1, 1) := by decide +kernel
theorem dX12_info_65 : decode cX12_info 65 = .ok (.invokevirtual 225, 3) := by decide +kernel
theorem dX12_info_68 : decode cX12_info 68 = .ok (.iaload, 1) := by decide +kernel
theorem dX12_info_69 : decode cX12_info 69 = .ok (.ireturn, 1) := by decide +kernel
theorem dX12_info_70 : decode cX12_info 70 = .ok (.aload_n 0, 1) := by decide +kernel
theorem dX12_info_71 : decode cX12_info 71 = .ok (.getfield 36, 3) := by decide +kernel
theorem dX12_info_74 : decode cX12_info 74 = .ok (.iload_n 1, 1) := by decide +kernel
theorem dX12_info_75 : decode cX12_info 75 = .ok (.iaload, 1) := by decide +kernel
theorem dX12_info_76 : decode cX12_info 76 = .ok (.ireturn, 1) := by decide +kernel
theorem dX12_info_77 : decode cX12_info 77 = .ok (.aload_n 0, 1) := by decide +kernel
theorem dX12_info_78 : decode cX12_info 78 = .ok (.getfield 33, 3) := by decide +kernel
theorem dX12_info_81 : decode cX12_info 81 = .ok (.iload_n 1, 1) := by decide +kernel
theorem dX12_info_82 : decode cX12_info 82 = .ok (.baload, 1) := by decide +kernel
theorem dX12_info_83 : decode cX12_info 83 = .ok (.ifCond .eq 7, 3) := by decide +kernel
theorem dX12_info_86 : decode cX12_info 86 = .ok (.iconst 1, 1) := by decide +kernel
theorem dX12_info_87 : decode cX12_info 87 = .ok (.goto 4, 3) := by decide +kernel
theorem dX12_info_90 : decode cX12_info 90 = .ok (.iconst 0, 1) := by decide +kernel
theorem dX12_info_91 : decode cX12_info 91 = .ok (.ireturn, 1) := by decide +kernel
theorem dX12_info_92 : decode cX12_info 92 = .ok (.aload_n 0, 1) := by decide +kernel
theorem dX12_info_93 : decode cX12_info 93 = .ok (.getfield 39, 3) := by decide +kernel
theorem dX12_info_96 : decode cX12_info 96 = .ok (.iload_n 1, 1) := by decide +kernel
theorem dX12_info_97 : decode cX12_info 97 = .ok (.iaload, 1) := by decide +kernel
theorem dX12_info_98 : decode cX12_info 98 = .ok (.ireturn, 1) := by decide +kernel
theorem dX12_info_99 : decode cX12_info 99 = .ok (.bipush (-2), 2) := by decide +kernel
theorem dX12_info_101 : decode cX12_info 101 = .ok (.ireturn, 1) := by decide +kernel
def F_X12_info (d : Nat) (v0 : Option Nm) (v1 : Int32) (v2 : Int32) (h : MH) (u : Nat) (Q : Int32 → MH → Prop) : Prop :=
  rc h v0 11 ∧ F_X12_isKind d v0 v1 h 0 fun x1 h =>
  if x1 = 0 then
    Q (-1) h
  else
    if v2 = 0 then
      gR h v0 11 10 fun x2 =>
      aI .boolean h x2 v1 fun x3 =>
      if x3 = 0 then
        Q 0 h
      else
        Q 1 h
    else if v2 = 1 then
      gR h v0 11 15 fun x4 =>
      rc h v0 11 ∧ F_X12_newestOf (d + 1) v0 v1 h 0 fun x5 h =>
      aI .int h x4 x5 fun x6 =>
      Q x6 h
    else if v2 = 2 then
      gR h v0 11 13 fun x7 =>
      aI .int h x7 v1 fun x8 =>
      Q x8 h
    else if v2 = 3 then
      gR h v0 11 12 fun x9 =>
      aI .boolean h x9 v1 fun x10 =>
      if x10 = 0 then
        Q 0 h
      else
        Q 1 h
    else if v2 = 4 then
      gR h v0 11 14 fun x11 =>
      aI .int h x11 v1 fun x12 =>
      Q x12 h
    else 
      Q (-2) h
set_option maxRecDepth 20000 in
theorem E_X12_info {d : Nat} {v0 : Option Nm} {v1 : Int32} {v2 : Int32} {h : MH} {u : Nat} {Q : Int32 → MH → Prop} (H : F_X12_info d v0 v1 v2 h u Q) : T u_X12_info (d + 2) 0 [some (jR v0), some (jI v1), some (jI v2)] [] h u (qI Q) := by
  unfold F_X12_info at H
  refine T_aload_n (pc := 0) dX12_info_0 rfl rfl ?_
  refine T_iload_n (pc := 1) dX12_info_1 rfl rfl ?_
  obtain ⟨H0, H⟩ := H
  refine T_iV (pc := 2) (ci := 11) (av := [jI v1]) (rest := []) (o := v0) dX12_info_2 mf_X12_isKind c_5_198 c_5_200 pr_X12_isKind rfl rfl (Nat.le_of_ble_eq_true rfl) rfl H0 (iI_k (iI_m0 (fun x1 h H => ?_) (J_X12_isKind (d := d) H)))
  refine T_if_ne (pc := 5) (tgt := 10) dX12_info_5 (by decide) (fun hc => ?_) (fun hc => ?_)
  · rw [if_neg hc] at H
    refine T_iload_n (pc := 10) dX12_info_10 rfl rfl ?_
    by_cases h0 : v2 = 0
    · rw [if_pos h0] at H
      refine T_tableIn (pc := 11) (off := 33) (tgt := 44) dX12_info_11 (by rw [h0]; decide) (by rw [h0]; decide) (by rw [h0]; rfl) (by decide) ?_
      refine T_aload_n (pc := 44) dX12_info_44 rfl rfl ?_
      refine T_gR (pc := 45) fa_X12_27 dX12_info_45 (gR_mono (fun x2 H => ?_) H)
      refine T_iload_n (pc := 48) dX12_info_48 rfl rfl ?_
      refine T_aZ (pc := 49) dX12_info_49 (aI_mono (fun x3 H => ?_) H)
      refine T_if_eq (pc := 50) (tgt := 57) dX12_info_50 (by decide) (fun hc => ?_) (fun hc => ?_)
      · rw [if_pos hc] at H
        refine T_iconst (pc := 57) (v := 0) dX12_info_57 (by decide) ?_
        exact T_ireturn (pc := 58) rfl rfl dX12_info_58 H
      · rw [if_neg hc] at H
        refine T_iconst (pc := 53) (v := 1) dX12_info_53 (by decide) ?_
        refine T_goto (pc := 54) (tgt := 58) dX12_info_54 (by decide) ?_
        exact T_ireturn (pc := 58) rfl rfl dX12_info_58 H
    rw [if_neg h0] at H
    by_cases h1 : v2 = 1
    · rw [if_pos h1] at H
      refine T_tableIn (pc := 11) (off := 48) (tgt := 59) dX12_info_11 (by rw [h1]; decide) (by rw [h1]; decide) (by rw [h1]; rfl) (by decide) ?_
      refine T_aload_n (pc := 59) dX12_info_59 rfl rfl ?_
      refine T_gR (pc := 60) fa_X12_42 dX12_info_60 (gR_mono (fun x4 H => ?_) H)
      refine T_aload_n (pc := 63) dX12_info_63 rfl rfl ?_
      refine T_iload_n (pc := 64) dX12_info_64 rfl rfl ?_
      obtain ⟨H0, H⟩ := H
      refine T_iV (pc := 65) (ci := 11) (av := [jI v1]) (rest := [jR x4]) (o := v0) dX12_info_65 mf_X12_newestOf c_5_210 c_5_212 pr_X12_newestOf rfl rfl (Nat.le_of_ble_eq_true rfl) rfl H0 (iI_k (iI_m0 (fun x5 h H => ?_) (J_X12_newestOf (d := (d + 1)) H)))
      refine T_aI (pc := 68) dX12_info_68 (aI_mono (fun x6 H => ?_) H)
      exact T_ireturn (pc := 69) rfl rfl dX12_info_69 H
    rw [if_neg h1] at H
    by_cases h2 : v2 = 2
    · rw [if_pos h2] at H
      refine T_tableIn (pc := 11) (off := 59) (tgt := 70) dX12_info_11 (by rw [h2]; decide) (by rw [h2]; decide) (by rw [h2]; rfl) (by decide) ?_
      refine T_aload_n (pc := 70) dX12_info_70 rfl rfl ?_
      refine T_gR (pc := 71) fa_X12_36 dX12_info_71 (gR_mono (fun x7 H => ?_) H)
      refine T_iload_n (pc := 74) dX12_info_74 rfl rfl ?_
      refine T_aI (pc := 75) dX12_info_75 (aI_mono (fun x8 H => ?_) H)
      exact T_ireturn (pc := 76) rfl rfl dX12_info_76 H
    rw [if_neg h2] at H
    by_cases h3 : v2 = 3
    · rw [if_pos h3] at H
      refine T_tableIn (pc := 11) (off := 66) (tgt := 77) dX12_info_11 (by rw [h3]; decide) (by rw [h3]; decide) (by rw [h3]; rfl) (by decide) ?_
      refine T_aload_n (pc := 77) dX12_info_77 rfl rfl ?_
      refine T_gR (pc := 78) fa_X12_33 dX12_info_78 (gR_mono (fun x9 H => ?_) H)
      refine T_iload_n (pc := 81) dX12_info_81 rfl rfl ?_
      refine T_aZ (pc := 82) dX12_info_82 (aI_mono (fun x10 H => ?_) H)
      refine T_if_eq (pc := 83) (tgt := 90) dX12_info_83 (by decide) (fun hc => ?_) (fun hc => ?_)
      · rw [if_pos hc] at H
        refine T_iconst (pc := 90) (v := 0) dX12_info_90 (by decide) ?_
        exact T_ireturn (pc := 91) rfl rfl dX12_info_91 H
      · rw [if_neg hc] at H
        refine T_iconst (pc := 86) (v := 1) dX12_info_86 (by decide) ?_
        refine T_goto (pc := 87) (tgt := 91) dX12_info_87 (by decide) ?_
        exact T_ireturn (pc := 91) rfl rfl dX12_info_91 H
    rw [if_neg h3] at H
    by_cases h4 : v2 = 4
    · rw [if_pos h4] at H
      refine T_tableIn (pc := 11) (off := 81) (tgt := 92) dX12_info_11 (by rw [h4]; decide) (by rw [h4]; decide) (by rw [h4]; rfl) (by decide) ?_
      refine T_aload_n (pc := 92) dX12_info_92 rfl rfl ?_
      refine T_gR (pc := 93) fa_X12_39 dX12_info_93 (gR_mono (fun x11 H => ?_) H)
      refine T_iload_n (pc := 96) dX12_info_96 rfl rfl ?_
      refine T_aI (pc := 97) dX12_info_97 (aI_mono (fun x12 H => ?_) H)
      exact T_ireturn (pc := 98) rfl rfl dX12_info_98 H
    rw [if_neg h4] at H
    have e0 : (v2 : Int32).toInt ≠ 0 := fun q => h0 (Int32.toInt_inj.mp (q.trans (by decide)))
    have e1 : (v2 : Int32).toInt ≠ 1 := fun q => h1 (Int32.toInt_inj.mp (q.trans (by decide)))
    have e2 : (v2 : Int32).toInt ≠ 2 := fun q => h2 (Int32.toInt_inj.mp (q.trans (by decide)))
    have e3 : (v2 : Int32).toInt ≠ 3 := fun q => h3 (Int32.toInt_inj.mp (q.trans (by decide)))
    have e4 : (v2 : Int32).toInt ≠ 4 := fun q => h4 (Int32.toInt_inj.mp (q.trans (by decide)))
    refine T_tableOut (pc := 11) (tgt := 99) dX12_info_11 (by omega) (by decide) ?_
    refine T_bipush (pc := 99) (v := (-2)) dX12_info_99 (by decide) ?_
    exact T_ireturn (pc := 101) rfl rfl dX12_info_101 H
  · rw [if_pos hc] at H
    refine T_iconst (pc := 8) (v := (-1)) dX12_info_8 (by decide) ?_
    exact T_ireturn (pc := 9) rfl rfl dX12_info_9 H
theorem I_X12_info {d : Nat} {v0 : Option Nm} {v1 : Int32} {v2 : Int32} {h : MH} {u : Nat} {K : Int32 → MH → Nat → Prop} (u1 : Nat) (hu : u1 ≤ u) (H : F_X12_info d v0 v1 v2 h u1 (fun x h2 => K x h2 (u - u1))) : iI (d + 2) u_X12_info [jR v0, jI v1, jI v2] h u K := inv.of u1 hu (Ct.of (by decide +kernel) rfl (Nat.le_of_ble_eq_true rfl) rfl (E_X12_info H))
theorem J_X12_info {d : Nat} {v0 : Option Nm} {v1 : Int32} {v2 : Int32} {h : MH} {u : Nat} {K : Int32 → MH → Prop} (H : F_X12_info d v0 v1 v2 h 0 K) : iI (d + 2) u_X12_info [jR v0, jI v1, jI v2] h u (fun x h2 u2 => K x h2 ∧ u2 = u) := jiI (by decide +kernel) rfl (Nat.le_of_ble_eq_true rfl) rfl (E_X12_info H)
theorem dX12_init_0 : decode cX12_init 0 = .ok (.aload_n 0, 1) := by decide +kernel
theorem dX12_init_1 : decode cX12_init 1 = .ok (.invokespecial 1, 3) := by decide +kernel
theorem dX12_init_4 : decode cX12_init 4 = .ok (.aload_n 0, 1) := by decide +kernel
theorem dX12_init_5 : decode cX12_init 5 = .ok (.bipush 60, 2) := by decide +kernel
theorem dX12_init_7 : decode cX12_init 7 = .ok (.newarray .int, 2) := by decide +kernel
theorem dX12_init_9 : decode cX12_init 9 = .ok (.putfield 7, 3) := by decide +kernel
theorem dX12_init_12 : decode cX12_init 12 = .ok (.aload_n 0, 1) := by decide +kernel
theorem dX12_init_13 : decode cX12_init 13 = .ok (.bipush 60, 2) := by decide +kernel
theorem dX12_init_15 : decode cX12_init 15 = .ok (.newarray .int, 2) := by decide +kernel
theorem dX12_init_17 : decode cX12_init 17 = .ok (.putfield 13, 3) := by decide +kernel
theorem dX12_init_20 : decode cX12_init 20 = .ok (.aload_n 0, 1) := by decide +kernel
theorem dX12_init_21 : decode cX12_init 21 = .ok (.bipush 60, 2) := by decide +kernel
theorem dX12_init_23 : decode cX12_init 23 = .ok (.newarray .boolean, 2) := by decide +kernel
theorem dX12_init_25 : decode cX12_init 25 = .ok (.putfield 16, 3) := by decide +kernel
theorem dX12_init_28 : decode cX12_init 28 = .ok (.aload_n 0, 1) := by decide +kernel
theorem dX12_init_29 : decode cX12_init 29 = .ok (.sipush 1200, 3) := by decide +kernel
theorem dX12_init_32 : decode cX12_init 32 = .ok (.newarray .long, 2) := by decide +kernel
theorem dX12_init_34 : decode cX12_init 34 = .ok (.putfield 20, 3) := by decide +kernel
theorem dX12_init_37 : decode cX12_init 37 = .ok (.aload_n 0, 1) := by decide +kernel
theorem dX12_init_38 : decode cX12_init 38 = .ok (.bipush 20, 2) := by decide +kernel
theorem dX12_init_40 : decode cX12_init 40 = .ok (.newarray .long, 2) := by decide +kernel
theorem dX12_init_42 : decode cX12_init 42 = .ok (.putfield 24, 3) := by decide +kernel
theorem dX12_init_45 : decode cX12_init 45 = .ok (.aload_n 0, 1) := by decide +kernel
theorem dX12_init_46 : decode cX12_init 46 = .ok (.bipush 16, 2) := by decide +kernel
theorem dX12_init_48 : decode cX12_init 48 = .ok (.newarray .boolean, 2) := by decide +kernel
theorem dX12_init_50 : decode cX12_init 50 = .ok (.putfield 27, 3) := by decide +kernel
theorem dX12_init_53 : decode cX12_init 53 = .ok (.aload_n 0, 1) := by decide +kernel
theorem dX12_init_54 : decode cX12_init 54 = .ok (.bipush 16, 2) := by decide +kernel
theorem dX12_init_56 : decode cX12_init 56 = .ok (.newarray .int, 2) := by decide +kernel
theorem dX12_init_58 : decode cX12_init 58 = .ok (.putfield 30, 3) := by decide +kernel
theorem dX12_init_61 : decode cX12_init 61 = .ok (.aload_n 0, 1) := by decide +kernel
theorem dX12_init_62 : decode cX12_init 62 = .ok (.bipush 16, 2) := by decide +kernel
theorem dX12_init_64 : decode cX12_init 64 = .ok (.newarray .boolean, 2) := by decide +kernel
theorem dX12_init_66 : decode cX12_init 66 = .ok (.putfield 33, 3) := by decide +kernel
theorem dX12_init_69 : decode cX12_init 69 = .ok (.aload_n 0, 1) := by decide +kernel
theorem dX12_init_70 : decode cX12_init 70 = .ok (.bipush 16, 2) := by decide +kernel
theorem dX12_init_72 : decode cX12_init 72 = .ok (.newarray .int, 2) := by decide +kernel
theorem dX12_init_74 : decode cX12_init 74 = .ok (.putfield 36, 3) := by decide +kernel
theorem dX12_init_77 : decode cX12_init 77 = .ok (.aload_n 0, 1) := by decide +kernel
theorem dX12_init_78 : decode cX12_init 78 = .ok (.bipush 16, 2) := by decide +kernel
theorem dX12_init_80 : decode cX12_init 80 = .ok (.newarray .int, 2) := by decide +kernel
theorem dX12_init_82 : decode cX12_init 82 = .ok (.putfield 39, 3) := by decide +kernel
theorem dX12_init_85 : decode cX12_init 85 = .ok (.aload_n 0, 1) := by decide +kernel
theorem dX12_init_86 : decode cX12_init 86 = .ok (.bipush 64, 2) := by decide +kernel
theorem dX12_init_88 : decode cX12_init 88 = .ok (.newarray .int, 2) := by decide +kernel
theorem dX12_init_90 : decode cX12_init 90 = .ok (.putfield 42, 3) := by decide +kernel
theorem dX12_init_93 : decode cX12_init 93 = .ok (.aload_n 0, 1) := by decide +kernel
theorem dX12_init_94 : decode cX12_init 94 = .ok (.sipush 512, 3) := by decide +kernel
theorem dX12_init_97 : decode cX12_init 97 = .ok (.newarray .int, 2) := by decide +kernel
theorem dX12_init_99 : decode cX12_init 99 = .ok (.putfield 45, 3) := by decide +kernel
theorem dX12_init_102 : decode cX12_init 102 = .ok (.aload_n 0, 1) := by decide +kernel
theorem dX12_init_103 : decode cX12_init 103 = .ok (.sipush 512, 3) := by decide +kernel
theorem dX12_init_106 : decode cX12_init 106 = .ok (.newarray .int, 2) := by decide +kernel
theorem dX12_init_108 : decode cX12_init 108 = .ok (.putfield 48, 3) := by decide +kernel
theorem dX12_init_111 : decode cX12_init 111 = .ok (.aload_n 0, 1) := by decide +kernel
theorem dX12_init_112 : decode cX12_init 112 = .ok (.sipush 512, 3) := by decide +kernel
theorem dX12_init_115 : decode cX12_init 115 = .ok (.newarray .int, 2) := by decide +kernel
theorem dX12_init_117 : decode cX12_init 117 = .ok (.putfield 51, 3) := by decide +kernel
theorem dX12_init_120 : decode cX12_init 120 = .ok (.aload_n 0, 1) := by decide +kernel
theorem dX12_init_121 : decode cX12_init 121 = .ok (.bipush 8, 2) := by decide +kernel
theorem dX12_init_123 : decode cX12_init 123 = .ok (.newarray .int, 2) := by decide +kernel
theorem dX12_init_125 : decode cX12_init 125 = .ok (.putfield 54, 3) := by decide +kernel
theorem dX12_init_128 : decode cX12_init 128 = .ok (.aload_n 0, 1) := by decide +kernel
theorem dX12_init_129 : decode cX12_init 129 = .ok (.bipush 8, 2) := by decide +kernel
theorem dX12_init_131 : decode cX12_init 131 = .ok (.newarray .boolean, 2) := by decide +kernel
theorem dX12_init_133 : decode cX12_init 133 = .ok (.putfield 57, 3) := by decide +kernel
theorem dX12_init_136 : decode cX12_init 136 = .ok (.aload_n 0, 1) := by decide +kernel
theorem dX12_init_137 : decode cX12_init 137 = .ok (.bipush 6, 2) := by decide +kernel
theorem dX12_init_139 : decode cX12_init 139 = .ok (.newarray .int, 2) := by decide +kernel
theorem dX12_init_141 : decode cX12_init 141 = .ok (.putfield 60, 3) := by decide +kernel
theorem dX12_init_144 : decode cX12_init 144 = .ok (.aload_n 0, 1) := by decide +kernel
theorem dX12_init_145 : decode cX12_init 145 = .ok (.bipush 6, 2) := by decide +kernel
theorem dX12_init_147 : decode cX12_init 147 = .ok (.newarray .long, 2) := by decide +kernel
theorem dX12_init_149 : decode cX12_init 149 = .ok (.putfield 63, 3) := by decide +kernel
theorem dX12_init_152 : decode cX12_init 152 = .ok (.aload_n 0, 1) := by decide +kernel
theorem dX12_init_153 : decode cX12_init 153 = .ok (.sipush 200, 3) := by decide +kernel
theorem dX12_init_156 : decode cX12_init 156 = .ok (.newarray .int, 2) := by decide +kernel
theorem dX12_init_158 : decode cX12_init 158 = .ok (.putfield 66, 3) := by decide +kernel
theorem dX12_init_161 : decode cX12_init 161 = .ok (.aload_n 0, 1) := by decide +kernel
theorem dX12_init_162 : decode cX12_init 162 = .ok (.sipush 200, 3) := by decide +kernel
theorem dX12_init_165 : decode cX12_init 165 = .ok (.newarray .int, 2) := by decide +kernel
theorem dX12_init_167 : decode cX12_init 167 = .ok (.putfield 69, 3) := by decide +kernel
theorem dX12_init_170 : decode cX12_init 170 = .ok (.aload_n 0, 1) := by decide +kernel
theorem dX12_init_171 : decode cX12_init 171 = .ok (.sipush 200, 3) := by decide +kernel
theorem dX12_init_174 : decode cX12_init 174 = .ok (.newarray .int, 2) := by decide +kernel
theorem dX12_init_176 : decode cX12_init 176 = .ok (.putfield 72, 3) := by decide +kernel
theorem dX12_init_179 : decode cX12_init 179 = .ok (.aload_n 0, 1) := by decide +kernel
theorem dX12_init_180 : decode cX12_init 180 = .ok (.sipush 200, 3) := by decide +kernel
theorem dX12_init_183 : decode cX12_init 183 = .ok (.newarray .int, 2) := by decide +kernel
theorem dX12_init_185 : decode cX12_init 185 = .ok (.putfield 75, 3) := by decide +kernel
theorem dX12_init_188 : decode cX12_init 188 = .ok (.aload_n 0, 1) := by decide +kernel
theorem dX12_init_189 : decode cX12_init 189 = .ok (.sipush 200, 3) := by decide +kernel
theorem dX12_init_192 : decode cX12_init 192 = .ok (.newarray .int, 2) := by decide +kernel
theorem dX12_init_194 : decode cX12_init 194 = .ok (.putfield 78, 3) := by decide +kernel
theorem dX12_init_197 : decode cX12_init 197 = .ok (.aload_n 0, 1) := by decide +kernel
theorem dX12_init_198 : decode cX12_init 198 = .ok (.sipush 200, 3) := by decide +kernel
theorem dX12_init_201 : decode cX12_init 201 = .ok (.newarray .int, 2) := by decide +kernel
theorem dX12_init_203 : decode cX12_init 203 = .ok (.putfield 81, 3) := by decide +kernel
theorem dX12_init_206 : decode cX12_init 206 = .ok (.aload_n 0, 1) := by decide +kernel
theorem dX12_init_207 : decode cX12_init 207 = .ok (.sipush 1200, 3) := by decide +kernel
theorem dX12_init_210 : decode cX12_init 210 = .ok (.newarray .long, 2) := by decide +kernel
theorem dX12_init_212 : decode cX12_init 212 = .ok (.putfield 84, 3) := by decide +kernel
theorem dX12_init_215 : decode cX12_init 215 = .ok (.aload_n 0, 1) := by decide +kernel
theorem dX12_init_216 : decode cX12_init 216 = .ok (.bipush 6, 2) := by decide +kernel
theorem dX12_init_218 : decode cX12_init 218 = .ok (.newarray .long, 2) := by decide +kernel
theorem dX12_init_220 : decode cX12_init 220 = .ok (.putfield 87, 3) := by decide +kernel
theorem dX12_init_223 : decode cX12_init 223 = .ok (.aload_n 0, 1) := by decide +kernel
theorem dX12_init_224 : decode cX12_init 224 = .ok (.bipush 12, 2) := by decide +kernel
theorem dX12_init_226 : decode cX12_init 226 = .ok (.newarray .int, 2) := by decide +kernel
theorem dX12_init_228 : decode cX12_init 228 = .ok (.putfield 90, 3) := by decide +kernel
theorem dX12_init_231 : decode cX12_init 231 = .ok (.aload_n 0, 1) := by decide +kernel
theorem dX12_init_232 : decode cX12_init 232 = .ok (.bipush 12, 2) := by decide +kernel
theorem dX12_init_234 : decode cX12_init 234 = .ok (.newarray .int, 2) := by decide +kernel
theorem dX12_init_236 : decode cX12_init 236 = .ok (.putfield 93, 3) := by decide +kernel
theorem dX12_init_239 : decode cX12_init 239 = .ok (.aload_n 0, 1) := by decide +kernel
theorem dX12_init_240 : decode cX12_init 240 = .ok (.bipush 12, 2) := by decide +kernel
theorem dX12_init_242 : decode cX12_init 242 = .ok (.newarray .int, 2) := by decide +kernel
theorem dX12_init_244 : decode cX12_init 244 = .ok (.putfield 96, 3) := by decide +kernel
theorem dX12_init_247 : decode cX12_init 247 = .ok (.aload_n 0, 1) := by decide +kernel
theorem dX12_init_248 : decode cX12_init 248 = .ok (.bipush 12, 2) := by decide +kernel
theorem dX12_init_250 : decode cX12_init 250 = .ok (.newarray .int, 2) := by decide +kernel
theorem dX12_init_252 : decode cX12_init 252 = .ok (.putfield 99, 3) := by decide +kernel
theorem dX12_init_255 : decode cX12_init 255 = .ok (.aload_n 0, 1) := by decide +kernel
theorem dX12_init_256 : decode cX12_init 256 = .ok (.bipush 12, 2) := by decide +kernel
theorem dX12_init_258 : decode cX12_init 258 = .ok (.newarray .int, 2) := by decide +kernel
theorem dX12_init_260 : decode cX12_init 260 = .ok (.putfield 102, 3) := by decide +kernel
theorem dX12_init_263 : decode cX12_init 263 = .ok (.aload_n 0, 1) := by decide +kernel
theorem dX12_init_264 : decode cX12_init 264 = .ok (.bipush 12, 2) := by decide +kernel
theorem dX12_init_266 : decode cX12_init 266 = .ok (.newarray .int, 2) := by decide +kernel
theorem dX12_init_268 : decode cX12_init 268 = .ok (.putfield 105, 3) := by decide +kernel
theorem dX12_init_271 : decode cX12_init 271 = .ok (.aload_n 0, 1) := by decide +kernel
theorem dX12_init_272 : decode cX12_init 272 = .ok (.sipush 4200, 3) := by decide +kernel
theorem dX12_init_275 : decode cX12_init 275 = .ok (.newarray .byte, 2) := by decide +kernel
theorem dX12_init_277 : decode cX12_init 277 = .ok (.putfield 108, 3) := by decide +kernel
theorem dX12_init_280 : decode cX12_init 280 = .ok (.aload_n 0, 1) := by decide +kernel
theorem dX12_init_281 : decode cX12_init 281 = .ok (.sipush 4000, 3) := by decide +kernel
theorem dX12_init_284 : decode cX12_init 284 = .ok (.newarray .byte, 2) := by decide +kernel
theorem dX12_init_286 : decode cX12_init 286 = .ok (.putfield 112, 3) := by decide +kernel
theorem dX12_init_289 : decode cX12_init 289 = .ok (.iconst 0, 1) := by decide +kernel
theorem dX12_init_290 : decode cX12_init 290 = .ok (.istore_n 1, 1) := by decide +kernel
theorem dX12_init_291 : decode cX12_init 291 = .ok (.iload_n 1, 1) := by decide +kernel
theorem dX12_init_292 : decode cX12_init 292 = .ok (.bipush 6, 2) := by decide +kernel
theorem dX12_init_294 : decode cX12_init 294 = .ok (.if_icmp .ge 17, 3) := by decide +kernel
theorem dX12_init_297 : decode cX12_init 297 = .ok (.aload_n 0, 1) := by decide +kernel
theorem dX12_init_298 : decode cX12_init 298 = .ok (.getfield 60, 3) := by decide +kernel
theorem dX12_init_301 : decode cX12_init 301 = .ok (.iload_n 1, 1) := by decide +kernel
theorem dX12_init_302 : decode cX12_init 302 = .ok (.bipush (-5), 2) := by decide +kernel
theorem dX12_init_304 : decode cX12_init 304 = .ok (.iastore, 1) := by decide +kernel
theorem dX12_init_305 : decode cX12_init 305 = .ok (.iinc 1 1, 3) := by decide +kernel
theorem dX12_init_308 : decode cX12_init 308 = .ok (.goto (-17), 3) := by decide +kernel
theorem dX12_init_311 : decode cX12_init 311 = .ok (.return_, 1) := by decide +kernel
def L_X12_init_291 (d : Nat) (v0 : Option Nm) (v1 : Int32) (h : MH) (u : Nat) (Q : MH → Prop) : Prop := T u_X12_init (d + 1) 291 [some (jR v0), some (jI v1)] [] h u (qV Q)
def F_X12_init (d : Nat) (v0 : Option Nm) (h : MH) (u : Nat) (Q : MH → Prop) : Prop :=
  nn v0 <|
  nA .int h u 60 fun x1 h u =>
  pV h v0 11 4 (jR (some x1)) fun h =>
  nA .int h u 60 fun x2 h u =>
  pV h v0 11 5 (jR (some x2)) fun h =>
  nA .boolean h u 60 fun x3 h u =>
  pV h v0 11 6 (jR (some x3)) fun h =>
  nA .long h u 1200 fun x4 h u =>
  pV h v0 11 7 (jR (some x4)) fun h =>
  nA .long h u 20 fun x5 h u =>
  pV h v0 11 8 (jR (some x5)) fun h =>
  nA .boolean h u 16 fun x6 h u =>
  pV h v0 11 10 (jR (some x6)) fun h =>
  nA .int h u 16 fun x7 h u =>
  pV h v0 11 11 (jR (some x7)) fun h =>
  nA .boolean h u 16 fun x8 h u =>
  pV h v0 11 12 (jR (some x8)) fun h =>
  nA .int h u 16 fun x9 h u =>
  pV h v0 11 13 (jR (some x9)) fun h =>
  nA .int h u 16 fun x10 h u =>
  pV h v0 11 14 (jR (some x10)) fun h =>
  nA .int h u 64 fun x11 h u =>
  pV h v0 11 15 (jR (some x11)) fun h =>
  nA .int h u 512 fun x12 h u =>
  pV h v0 11 16 (jR (some x12)) fun h =>
  nA .int h u 512 fun x13 h u =>
  pV h v0 11 17 (jR (some x13)) fun h =>
  nA .int h u 512 fun x14 h u =>
  pV h v0 11 18 (jR (some x14)) fun h =>
  nA .int h u 8 fun x15 h u =>
  pV h v0 11 20 (jR (some x15)) fun h =>
  nA .boolean h u 8 fun x16 h u =>
  pV h v0 11 21 (jR (some x16)) fun h =>
  nA .int h u 6 fun x17 h u =>
  pV h v0 11 22 (jR (some x17)) fun h =>
  nA .long h u 6 fun x18 h u =>
  pV h v0 11 23 (jR (some x18)) fun h =>
  nA .int h u 200 fun x19 h u =>
  pV h v0 11 25 (jR (some x19)) fun h =>
  nA .int h u 200 fun x20 h u =>
  pV h v0 11 26 (jR (some x20)) fun h =>
  nA .int h u 200 fun x21 h u =>
  pV h v0 11 27 (jR (some x21)) fun h =>
  nA .int h u 200 fun x22 h u =>
  pV h v0 11 28 (jR (some x22)) fun h =>
  nA .int h u 200 fun x23 h u =>
  pV h v0 11 29 (jR (some x23)) fun h =>
  nA .int h u 200 fun x24 h u =>
  pV h v0 11 30 (jR (some x24)) fun h =>
  nA .long h u 1200 fun x25 h u =>
  pV h v0 11 31 (jR (some x25)) fun h =>
  nA .long h u 6 fun x26 h u =>
  pV h v0 11 32 (jR (some x26)) fun h =>
  nA .int h u 12 fun x27 h u =>
  pV h v0 11 36 (jR (some x27)) fun h =>
  nA .int h u 12 fun x28 h u =>
  pV h v0 11 37 (jR (some x28)) fun h =>
  nA .int h u 12 fun x29 h u =>
  pV h v0 11 38 (jR (some x29)) fun h =>
  nA .int h u 12 fun x30 h u =>
  pV h v0 11 39 (jR (some x30)) fun h =>
  nA .int h u 12 fun x31 h u =>
  pV h v0 11 40 (jR (some x31)) fun h =>
  nA .int h u 12 fun x32 h u =>
  pV h v0 11 41 (jR (some x32)) fun h =>
  nA .byte h u 4200 fun x33 h u =>
  pV h v0 11 42 (jR (some x33)) fun h =>
  nA .byte h u 4000 fun x34 h u =>
  pV h v0 11 44 (jR (some x34)) fun h =>
  L_X12_init_291 d v0 0 h u Q
set_option maxRecDepth 20000 in
theorem E_X12_init {d : Nat} {v0 : Option Nm} {h : MH} {u : Nat} {Q : MH → Prop} (H : F_X12_init d v0 h u Q) : T u_X12_init (d + 1) 0 [some (jR v0), none] [] h u (qV Q) := by
  unfold F_X12_init at H
  refine T_aload_n (pc := 0) dX12_init_0 rfl rfl ?_
  obtain ⟨n0, H0, H⟩ := nn_out H
  refine T_objInit (pc := 1) dX12_init_1 c_4_182 c_1_25 c_1_26 H0 (Nat.le_of_ble_eq_true rfl) ?_
  refine T_aload_n (pc := 4) dX12_init_4 rfl rfl ?_
  refine T_bipush (pc := 5) (v := 60) dX12_init_5 (by decide) ?_
  refine T_nA (pc := 7) dX12_init_7 rfl (by decide) c_1_65 (nA_mono (fun x1 h u H => ?_) H)
  refine T_pVF (pc := 9) fa_X12_7 rfl rfl dX12_init_9 trivial (pV_mono (fun h H => ?_) H)
  refine T_aload_n (pc := 12) dX12_init_12 rfl rfl ?_
  refine T_bipush (pc := 13) (v := 60) dX12_init_13 (by decide) ?_
  refine T_nA (pc := 15) dX12_init_15 rfl (by decide) c_1_65 (nA_mono (fun x2 h u H => ?_) H)
  refine T_pVF (pc := 17) fa_X12_13 rfl rfl dX12_init_17 trivial (pV_mono (fun h H => ?_) H)
  refine T_aload_n (pc := 20) dX12_init_20 rfl rfl ?_
  refine T_bipush (pc := 21) (v := 60) dX12_init_21 (by decide) ?_
  refine T_nA (pc := 23) dX12_init_23 rfl (by decide) c_1_184 (nA_mono (fun x3 h u H => ?_) H)
  refine T_pVF (pc := 25) fa_X12_16 rfl rfl dX12_init_25 trivial (pV_mono (fun h H => ?_) H)
  refine T_aload_n (pc := 28) dX12_init_28 rfl rfl ?_
  refine T_sipush (pc := 29) (v := 1200) dX12_init_29 (by decide) ?_
  refine T_nA (pc := 32) dX12_init_32 rfl (by decide) c_1_66 (nA_mono (fun x4 h u H => ?_) H)
  refine T_pVF (pc := 34) fa_X12_20 rfl rfl dX12_init_34 trivial (pV_mono (fun h H => ?_) H)
  refine T_aload_n (pc := 37) dX12_init_37 rfl rfl ?_
  refine T_bipush (pc := 38) (v := 20) dX12_init_38 (by decide) ?_
  refine T_nA (pc := 40) dX12_init_40 rfl (by decide) c_1_66 (nA_mono (fun x5 h u H => ?_) H)
  refine T_pVF (pc := 42) fa_X12_24 rfl rfl dX12_init_42 trivial (pV_mono (fun h H => ?_) H)
  refine T_aload_n (pc := 45) dX12_init_45 rfl rfl ?_
  refine T_bipush (pc := 46) (v := 16) dX12_init_46 (by decide) ?_
  refine T_nA (pc := 48) dX12_init_48 rfl (by decide) c_1_184 (nA_mono (fun x6 h u H => ?_) H)
  refine T_pVF (pc := 50) fa_X12_27 rfl rfl dX12_init_50 trivial (pV_mono (fun h H => ?_) H)
  refine T_aload_n (pc := 53) dX12_init_53 rfl rfl ?_
  refine T_bipush (pc := 54) (v := 16) dX12_init_54 (by decide) ?_
  refine T_nA (pc := 56) dX12_init_56 rfl (by decide) c_1_65 (nA_mono (fun x7 h u H => ?_) H)
  refine T_pVF (pc := 58) fa_X12_30 rfl rfl dX12_init_58 trivial (pV_mono (fun h H => ?_) H)
  refine T_aload_n (pc := 61) dX12_init_61 rfl rfl ?_
  refine T_bipush (pc := 62) (v := 16) dX12_init_62 (by decide) ?_
  refine T_nA (pc := 64) dX12_init_64 rfl (by decide) c_1_184 (nA_mono (fun x8 h u H => ?_) H)
  refine T_pVF (pc := 66) fa_X12_33 rfl rfl dX12_init_66 trivial (pV_mono (fun h H => ?_) H)
  refine T_aload_n (pc := 69) dX12_init_69 rfl rfl ?_
  refine T_bipush (pc := 70) (v := 16) dX12_init_70 (by decide) ?_
  refine T_nA (pc := 72) dX12_init_72 rfl (by decide) c_1_65 (nA_mono (fun x9 h u H => ?_) H)
  refine T_pVF (pc := 74) fa_X12_36 rfl rfl dX12_init_74 trivial (pV_mono (fun h H => ?_) H)
  refine T_aload_n (pc := 77) dX12_init_77 rfl rfl ?_
  refine T_bipush (pc := 78) (v := 16) dX12_init_78 (by decide) ?_
  refine T_nA (pc := 80) dX12_init_80 rfl (by decide) c_1_65 (nA_mono (fun x10 h u H => ?_) H)
  refine T_pVF (pc := 82) fa_X12_39 rfl rfl dX12_init_82 trivial (pV_mono (fun h H => ?_) H)
  refine T_aload_n (pc := 85) dX12_init_85 rfl rfl ?_
  refine T_bipush (pc := 86) (v := 64) dX12_init_86 (by decide) ?_
  refine T_nA (pc := 88) dX12_init_88 rfl (by decide) c_1_65 (nA_mono (fun x11 h u H => ?_) H)
  refine T_pVF (pc := 90) fa_X12_42 rfl rfl dX12_init_90 trivial (pV_mono (fun h H => ?_) H)
  refine T_aload_n (pc := 93) dX12_init_93 rfl rfl ?_
  refine T_sipush (pc := 94) (v := 512) dX12_init_94 (by decide) ?_
  refine T_nA (pc := 97) dX12_init_97 rfl (by decide) c_1_65 (nA_mono (fun x12 h u H => ?_) H)
  refine T_pVF (pc := 99) fa_X12_45 rfl rfl dX12_init_99 trivial (pV_mono (fun h H => ?_) H)
  refine T_aload_n (pc := 102) dX12_init_102 rfl rfl ?_
  refine T_sipush (pc := 103) (v := 512) dX12_init_103 (by decide) ?_
  refine T_nA (pc := 106) dX12_init_106 rfl (by decide) c_1_65 (nA_mono (fun x13 h u H => ?_) H)
  refine T_pVF (pc := 108) fa_X12_48 rfl rfl dX12_init_108 trivial (pV_mono (fun h H => ?_) H)
  refine T_aload_n (pc := 111) dX12_init_111 rfl rfl ?_
  refine T_sipush (pc := 112) (v := 512) dX12_init_112 (by decide) ?_
  refine T_nA (pc := 115) dX12_init_115 rfl (by decide) c_1_65 (nA_mono (fun x14 h u H => ?_) H)
  refine T_pVF (pc := 117) fa_X12_51 rfl rfl dX12_init_117 trivial (pV_mono (fun h H => ?_) H)
  refine T_aload_n (pc := 120) dX12_init_120 rfl rfl ?_
  refine T_bipush (pc := 121) (v := 8) dX12_init_121 (by decide) ?_
  refine T_nA (pc := 123) dX12_init_123 rfl (by decide) c_1_65 (nA_mono (fun x15 h u H => ?_) H)
  refine T_pVF (pc := 125) fa_X12_54 rfl rfl dX12_init_125 trivial (pV_mono (fun h H => ?_) H)
  refine T_aload_n (pc := 128) dX12_init_128 rfl rfl ?_
  refine T_bipush (pc := 129) (v := 8) dX12_init_129 (by decide) ?_
  refine T_nA (pc := 131) dX12_init_131 rfl (by decide) c_1_184 (nA_mono (fun x16 h u H => ?_) H)
  refine T_pVF (pc := 133) fa_X12_57 rfl rfl dX12_init_133 trivial (pV_mono (fun h H => ?_) H)
  refine T_aload_n (pc := 136) dX12_init_136 rfl rfl ?_
  refine T_bipush (pc := 137) (v := 6) dX12_init_137 (by decide) ?_
  refine T_nA (pc := 139) dX12_init_139 rfl (by decide) c_1_65 (nA_mono (fun x17 h u H => ?_) H)
  refine T_pVF (pc := 141) fa_X12_60 rfl rfl dX12_init_141 trivial (pV_mono (fun h H => ?_) H)
  refine T_aload_n (pc := 144) dX12_init_144 rfl rfl ?_
  refine T_bipush (pc := 145) (v := 6) dX12_init_145 (by decide) ?_
  refine T_nA (pc := 147) dX12_init_147 rfl (by decide) c_1_66 (nA_mono (fun x18 h u H => ?_) H)
  refine T_pVF (pc := 149) fa_X12_63 rfl rfl dX12_init_149 trivial (pV_mono (fun h H => ?_) H)
  refine T_aload_n (pc := 152) dX12_init_152 rfl rfl ?_
  refine T_sipush (pc := 153) (v := 200) dX12_init_153 (by decide) ?_
  refine T_nA (pc := 156) dX12_init_156 rfl (by decide) c_1_65 (nA_mono (fun x19 h u H => ?_) H)
  refine T_pVF (pc := 158) fa_X12_66 rfl rfl dX12_init_158 trivial (pV_mono (fun h H => ?_) H)
  refine T_aload_n (pc := 161) dX12_init_161 rfl rfl ?_
  refine T_sipush (pc := 162) (v := 200) dX12_init_162 (by decide) ?_
  refine T_nA (pc := 165) dX12_init_165 rfl (by decide) c_1_65 (nA_mono (fun x20 h u H => ?_) H)
  refine T_pVF (pc := 167) fa_X12_69 rfl rfl dX12_init_167 trivial (pV_mono (fun h H => ?_) H)
  refine T_aload_n (pc := 170) dX12_init_170 rfl rfl ?_
  refine T_sipush (pc := 171) (v := 200) dX12_init_171 (by decide) ?_
  refine T_nA (pc := 174) dX12_init_174 rfl (by decide) c_1_65 (nA_mono (fun x21 h u H => ?_) H)
  refine T_pVF (pc := 176) fa_X12_72 rfl rfl dX12_init_176 trivial (pV_mono (fun h H => ?_) H)
  refine T_aload_n (pc := 179) dX12_init_179 rfl rfl ?_
  refine T_sipush (pc := 180) (v := 200) dX12_init_180 (by decide) ?_
  refine T_nA (pc := 183) dX12_init_183 rfl (by decide) c_1_65 (nA_mono (fun x22 h u H => ?_) H)
  refine T_pVF (pc := 185) fa_X12_75 rfl rfl dX12_init_185 trivial (pV_mono (fun h H => ?_) H)
  refine T_aload_n (pc := 188) dX12_init_188 rfl rfl ?_
  refine T_sipush (pc := 189) (v := 200) dX12_init_189 (by decide) ?_
  refine T_nA (pc := 192) dX12_init_192 rfl (by decide) c_1_65 (nA_mono (fun x23 h u H => ?_) H)
  refine T_pVF (pc := 194) fa_X12_78 rfl rfl dX12_init_194 trivial (pV_mono (fun h H => ?_) H)
  refine T_aload_n (pc := 197) dX12_init_197 rfl rfl ?_
  refine T_sipush (pc := 198) (v := 200) dX12_init_198 (by decide) ?_
  refine T_nA (pc := 201) dX12_init_201 rfl (by decide) c_1_65 (nA_mono (fun x24 h u H => ?_) H)
  refine T_pVF (pc := 203) fa_X12_81 rfl rfl dX12_init_203 trivial (pV_mono (fun h H => ?_) H)
  refine T_aload_n (pc := 206) dX12_init_206 rfl rfl ?_
  refine T_sipush (pc := 207) (v := 1200) dX12_init_207 (by decide) ?_
  refine T_nA (pc := 210) dX12_init_210 rfl (by decide) c_1_66 (nA_mono (fun x25 h u H => ?_) H)
  refine T_pVF (pc := 212) fa_X12_84 rfl rfl dX12_init_212 trivial (pV_mono (fun h H => ?_) H)
  refine T_aload_n (pc := 215) dX12_init_215 rfl rfl ?_
  refine T_bipush (pc := 216) (v := 6) dX12_init_216 (by decide) ?_
  refine T_nA (pc := 218) dX12_init_218 rfl (by decide) c_1_66 (nA_mono (fun x26 h u H => ?_) H)
  refine T_pVF (pc := 220) fa_X12_87 rfl rfl dX12_init_220 trivial (pV_mono (fun h H => ?_) H)
  refine T_aload_n (pc := 223) dX12_init_223 rfl rfl ?_
  refine T_bipush (pc := 224) (v := 12) dX12_init_224 (by decide) ?_
  refine T_nA (pc := 226) dX12_init_226 rfl (by decide) c_1_65 (nA_mono (fun x27 h u H => ?_) H)
  refine T_pVF (pc := 228) fa_X12_90 rfl rfl dX12_init_228 trivial (pV_mono (fun h H => ?_) H)
  refine T_aload_n (pc := 231) dX12_init_231 rfl rfl ?_
  refine T_bipush (pc := 232) (v := 12) dX12_init_232 (by decide) ?_
  refine T_nA (pc := 234) dX12_init_234 rfl (by decide) c_1_65 (nA_mono (fun x28 h u H => ?_) H)
  refine T_pVF (pc := 236) fa_X12_93 rfl rfl dX12_init_236 trivial (pV_mono (fun h H => ?_) H)
  refine T_aload_n (pc := 239) dX12_init_239 rfl rfl ?_
  refine T_bipush (pc := 240) (v := 12) dX12_init_240 (by decide) ?_
  refine T_nA (pc := 242) dX12_init_242 rfl (by decide) c_1_65 (nA_mono (fun x29 h u H => ?_) H)
  refine T_pVF (pc := 244) fa_X12_96 rfl rfl dX12_init_244 trivial (pV_mono (fun h H => ?_) H)
  refine T_aload_n (pc := 247) dX12_init_247 rfl rfl ?_
  refine T_bipush (pc := 248) (v := 12) dX12_init_248 (by decide) ?_
  refine T_nA (pc := 250) dX12_init_250 rfl (by decide) c_1_65 (nA_mono (fun x30 h u H => ?_) H)
  refine T_pVF (pc := 252) fa_X12_99 rfl rfl dX12_init_252 trivial (pV_mono (fun h H => ?_) H)
  refine T_aload_n (pc := 255) dX12_init_255 rfl rfl ?_
  refine T_bipush (pc := 256) (v := 12) dX12_init_256 (by decide) ?_
  refine T_nA (pc := 258) dX12_init_258 rfl (by decide) c_1_65 (nA_mono (fun x31 h u H => ?_) H)
  refine T_pVF (pc := 260) fa_X12_102 rfl rfl dX12_init_260 trivial (pV_mono (fun h H => ?_) H)
  refine T_aload_n (pc := 263) dX12_init_263 rfl rfl ?_
  refine T_bipush (pc := 264) (v := 12) dX12_init_264 (by decide) ?_
  refine T_nA (pc := 266) dX12_init_266 rfl (by decide) c_1_65 (nA_mono (fun x32 h u H => ?_) H)
  refine T_pVF (pc := 268) fa_X12_105 rfl rfl dX12_init_268 trivial (pV_mono (fun h H => ?_) H)
  refine T_aload_n (pc := 271) dX12_init_271 rfl rfl ?_
  refine T_sipush (pc := 272) (v := 4200) dX12_init_272 (by decide) ?_
  refine T_nA (pc := 275) dX12_init_275 rfl (by decide) c_1_126 (nA_mono (fun x33 h u H => ?_) H)
  refine T_pVF (pc := 277) fa_X12_108 rfl rfl dX12_init_277 trivial (pV_mono (fun h H => ?_) H)
  refine T_aload_n (pc := 280) dX12_init_280 rfl rfl ?_
  refine T_sipush (pc := 281) (v := 4000) dX12_init_281 (by decide) ?_
  refine T_nA (pc := 284) dX12_init_284 rfl (by decide) c_1_126 (nA_mono (fun x34 h u H => ?_) H)
  refine T_pVF (pc := 286) fa_X12_112 rfl rfl dX12_init_286 trivial (pV_mono (fun h H => ?_) H)
  refine T_iconst (pc := 289) (v := 0) dX12_init_289 (by decide) ?_
  refine T_istore_n (pc := 290) (ls2 := [some (jR v0), some (jI 0)]) dX12_init_290 rfl (Nat.le_of_ble_eq_true rfl) rfl ?_
  exact T.forget H ⟨rfl, rfl, trivial⟩
def F_X12_init_291 (d : Nat) (v0 : Option Nm) (v1 : Int32) (h : MH) (u : Nat) (Q : MH → Prop) : Prop :=
  if 6 ≤ v1 then
    Q h
  else
    gR h v0 11 22 fun x1 =>
    sV .int h x1 v1 (jI (-5)) fun h =>
    L_X12_init_291 d v0 (v1 + 1) h u Q
set_option maxRecDepth 20000 in
theorem E_X12_init_291 {d : Nat} {v0 : Option Nm} {v1 : Int32} {h : MH} {u : Nat} {Q : MH → Prop} (H : F_X12_init_291 d v0 v1 h u Q) : T u_X12_init (d + 1) 291 [some (jR v0), some (jI v1)] [] h u (qV Q) := by
  unfold F_X12_init_291 at H
  refine T_iload_n (pc := 291) dX12_init_291 rfl rfl ?_
  refine T_bipush (pc := 292) (v := 6) dX12_init_292 (by decide) ?_
  refine T_icmp_ge (pc := 294) (tgt := 311) dX12_init_294 (by decide) (fun hc => ?_) (fun hc => ?_)
  · rw [if_pos hc] at H
    exact T_return (pc := 311) rfl dX12_init_311 H
  · rw [if_neg hc] at H
    refine T_aload_n (pc := 297) dX12_init_297 rfl rfl ?_
    refine T_gR (pc := 298) fa_X12_60 dX12_init_298 (gR_mono (fun x1 H => ?_) H)
    refine T_iload_n (pc := 301) dX12_init_301 rfl rfl ?_
    refine T_bipush (pc := 302) (v := (-5)) dX12_init_302 (by decide) ?_
    refine T_sI (pc := 304) dX12_init_304 (sV_mono (fun h H => ?_) H)
    refine T_iinc (pc := 305) (v := v1 + 1) (ls2 := [some (jR v0), some (jI (v1 + 1))]) dX12_init_305 rfl rfl (Nat.le_of_ble_eq_true rfl) rfl ?_
    refine T_goto (pc := 308) (tgt := 291) dX12_init_308 (by decide) ?_
    exact T.forget H ⟨rfl, rfl, trivial⟩
theorem I_X12_init {d : Nat} {v0 : Option Nm} {h : MH} {u : Nat} {K : MH → Nat → Prop} (u1 : Nat) (hu : u1 ≤ u) (H : F_X12_init d v0 h u1 (fun h2 => K h2 (u - u1))) : iV (d + 1) u_X12_init [jR v0] h u K := inv.of u1 hu (Ct.of (by decide +kernel) rfl (Nat.le_of_ble_eq_true rfl) rfl (E_X12_init H))
theorem dX12_lay_0 : decode cX12_lay 0 = .ok (.aload_n 0, 1) := by decide +kernel
theorem dX12_lay_1 : decode cX12_lay 1 = .ok (.iload_n 1, 1) := by decide +kernel
theorem dX12_lay_2 : decode cX12_lay 2 = .ok (.invokevirtual 170, 3) := by decide +kernel
theorem dX12_lay_5 : decode cX12_lay 5 = .ok (.ifCond .eq 16, 3) := by decide +kernel
theorem dX12_lay_8 : decode cX12_lay 8 = .ok (.iload_n 3, 1) := by decide +kernel
theorem dX12_lay_9 : decode cX12_lay 9 = .ok (.iconst (-1), 1) := by decide +kernel
theorem dX12_lay_10 : decode cX12_lay 10 = .ok (.if_icmp .eq 13, 3) := by decide +kernel
theorem dX12_lay_13 : decode cX12_lay 13 = .ok (.aload_n 0, 1) := by decide +kernel
theorem dX12_lay_14 : decode cX12_lay 14 = .ok (.iload_n 3, 1) := by decide +kernel
theorem dX12_lay_15 : decode cX12_lay 15 = .ok (.invokevirtual 190, 3) := by decide +kernel
theorem dX12_lay_18 : decode cX12_lay 18 = .ok (.ifCond .ne 5, 3) := by decide +kernel
theorem dX12_lay_21 : decode cX12_lay 21 = .ok (.iconst (-1), 1) := by decide +kernel
theorem dX12_lay_22 : decode cX12_lay 22 = .ok (.ireturn, 1) := by decide +kernel
theorem dX12_lay_23 : decode cX12_lay 23 = .ok (.aload_n 0, 1) := by decide +kernel
theorem dX12_lay_24 : decode cX12_lay 24 = .ok (.getfield 16, 3) := by decide +kernel
theorem dX12_lay_27 : decode cX12_lay 27 = .ok (.iload_n 1, 1) := by decide +kernel
theorem dX12_lay_28 : decode cX12_lay 28 = .ok (.baload, 1) := by decide +kernel
theorem dX12_lay_29 : decode cX12_lay 29 = .ok (.ifCond .eq 6, 3) := by decide +kernel
theorem dX12_lay_32 : decode cX12_lay 32 = .ok (.bipush (-3), 2) := by decide +kernel
theorem dX12_lay_34 : decode cX12_lay 34 = .ok (.ireturn, 1) := by decide +kernel
theorem dX12_lay_35 : decode cX12_lay 35 = .ok (.aload_n 0, 1) := by decide +kernel
theorem dX12_lay_36 : decode cX12_lay 36 = .ok (.getfield 7, 3) := by decide +kernel
theorem dX12_lay_39 : decode cX12_lay 39 = .ok (.iload_n 1, 1) := by decide +kernel
theorem dX12_lay_40 : decode cX12_lay 40 = .ok (.iaload, 1) := by decide +kernel
theorem dX12_lay_41 : decode cX12_lay 41 = .ok (.bipush 8, 2) := by decide +kernel
theorem dX12_lay_43 : decode cX12_lay 43 = .ok (.if_icmp .eq 9, 3) := by decide +kernel
theorem dX12_lay_46 : decode cX12_lay 46 = .ok (.aload_n 0, 1) := by decide +kernel
theorem dX12_lay_47 : decode cX12_lay 47 = .ok (.iconst 3, 1) := by decide +kernel
theorem dX12_lay_48 : decode cX12_lay 48 = .ok (.invokevirtual 166, 3) := by decide +kernel
theorem dX12_lay_51 : decode cX12_lay 51 = .ok (.ireturn, 1) := by decide +kernel
theorem dX12_lay_52 : decode cX12_lay 52 = .ok (.iload_n 2, 1) := by decide +kernel
theorem dX12_lay_53 : decode cX12_lay 53 = .ok (.iconst 0, 1) := by decide +kernel
theorem dX12_lay_54 : decode cX12_lay 54 = .ok (.aload_n 0, 1) := by decide +kernel
theorem dX12_lay_55 : decode cX12_lay 55 = .ok (.getfield 13, 3) := by decide +kernel
theorem dX12_lay_58 : decode cX12_lay 58 = .ok (.iload_n 1, 1) := by decide +kernel
theorem dX12_lay_59 : decode cX12_lay 59 = .ok (.iaload, 1) := by decide +kernel
theorem dX12_lay_60 : decode cX12_lay 60 = .ok (.iconst 1, 1) := by decide +kernel
theorem dX12_lay_61 : decode cX12_lay 61 = .ok (.isub, 1) := by decide +kernel
theorem dX12_lay_62 : decode cX12_lay 62 = .ok (.invokestatic 156, 3) := by decide +kernel
theorem dX12_lay_65 : decode cX12_lay 65 = .ok (.ifCond .ne 9, 3) := by decide +kernel
theorem dX12_lay_68 : decode cX12_lay 68 = .ok (.aload_n 0, 1) := by decide +kernel
theorem dX12_lay_69 : decode cX12_lay 69 = .ok (.iconst 2, 1) := by decide +kernel
theorem dX12_lay_70 : decode cX12_lay 70 = .ok (.invokevirtual 166, 3) := by decide +kernel
theorem dX12_lay_73 : decode cX12_lay 73 = .ok (.ireturn, 1) := by decide +kernel
theorem dX12_lay_74 : decode cX12_lay 74 = .ok (.aload_n 0, 1) := by decide +kernel
theorem dX12_lay_75 : decode cX12_lay 75 = .ok (.getfield 20, 3) := by decide +kernel
theorem dX12_lay_78 : decode cX12_lay 78 = .ok (.bipush 20, 2) := by decide +kernel
theorem dX12_lay_80 : decode cX12_lay 80 = .ok (.iload_n 1, 1) := by decide +kernel
theorem dX12_lay_81 : decode cX12_lay 81 = .ok (.imul, 1) := by decide +kernel
theorem dX12_lay_82 : decode cX12_lay 82 = .ok (.iload_n 2, 1) := by decide +kernel
theorem dX12_lay_83 : decode cX12_lay 83 = .ok (.iadd, 1) := by decide +kernel
theorem dX12_lay_84 : decode cX12_lay 84 = .ok (.iload_n 3, 1) := by decide +kernel
theorem dX12_lay_85 : decode cX12_lay 85 = .ok (.i2l, 1) := by decide +kernel
theorem dX12_lay_86 : decode cX12_lay 86 = .ok (.lastore, 1) := by decide +kernel
theorem dX12_lay_87 : decode cX12_lay 87 = .ok (.iconst 1, 1) := by decide +kernel
theorem dX12_lay_88 : decode cX12_lay 88 = .ok (.ireturn, 1) := by decide +kernel
def F_X12_lay_23 (d : Nat) (v0 : Option Nm) (v1 : Int32) (v2 : Int32) (v3 : Int32) (h : MH) (u : Nat) (Q : Int32 → MH → Prop) : Prop :=
  gR h v0 11 6 fun x1 =>
  aI .boolean h x1 v1 fun x2 =>
  if x2 = 0 then
    gR h v0 11 4 fun x3 =>
    aI .int h x3 v1 fun x4 =>
    if x4 = 8 then
      gR h v0 11 5 fun x5 =>
      aI .int h x5 v1 fun x6 =>
      F_X12_in (d + 1) v2 0 (x6 - 1) h 0 fun x7 h =>
      if x7 = 0 then
        rc h v0 11 ∧ F_X12_fails (d + 1) v0 2 h 0 fun x9 h =>
        Q x9 h
      else
        gR h v0 11 7 fun x8 =>
        sV .long h x8 ((20 * v1) + v2) (jL (v3.toInt64)) fun h =>
        Q 1 h
    else
      rc h v0 11 ∧ F_X12_fails (d + 1) v0 3 h 0 fun x10 h =>
      Q x10 h
  else
    Q (-3) h
set_option maxRecDepth 20000 in
theorem E_X12_lay_23 {d : Nat} {v0 : Option Nm} {v1 : Int32} {v2 : Int32} {v3 : Int32} {h : MH} {u : Nat} {Q : Int32 → MH → Prop} (H : F_X12_lay_23 d v0 v1 v2 v3 h u Q) : T u_X12_lay (d + 2) 23 [some (jR v0), some (jI v1), some (jI v2), some (jI v3)] [] h u (qI Q) := by
  unfold F_X12_lay_23 at H
  refine T_aload_n (pc := 23) dX12_lay_23 rfl rfl ?_
  refine T_gR (pc := 24) fa_X12_16 dX12_lay_24 (gR_mono (fun x1 H => ?_) H)
  refine T_iload_n (pc := 27) dX12_lay_27 rfl rfl ?_
  refine T_aZ (pc := 28) dX12_lay_28 (aI_mono (fun x2 H => ?_) H)
  refine T_if_eq (pc := 29) (tgt := 35) dX12_lay_29 (by decide) (fun hc => ?_) (fun hc => ?_)
  · rw [if_pos hc] at H
    refine T_aload_n (pc := 35) dX12_lay_35 rfl rfl ?_
    refine T_gR (pc := 36) fa_X12_7 dX12_lay_36 (gR_mono (fun x3 H => ?_) H)
    refine T_iload_n (pc := 39) dX12_lay_39 rfl rfl ?_
    refine T_aI (pc := 40) dX12_lay_40 (aI_mono (fun x4 H => ?_) H)
    refine T_bipush (pc := 41) (v := 8) dX12_lay_41 (by decide) ?_
    refine T_icmp_eq (pc := 43) (tgt := 52) dX12_lay_43 (by decide) (fun hc => ?_) (fun hc => ?_)
    · rw [if_pos hc] at H
      refine T_iload_n (pc := 52) dX12_lay_52 rfl rfl ?_
      refine T_iconst (pc := 53) (v := 0) dX12_lay_53 (by decide) ?_
      refine T_aload_n (pc := 54) dX12_lay_54 rfl rfl ?_
      refine T_gR (pc := 55) fa_X12_13 dX12_lay_55 (gR_mono (fun x5 H => ?_) H)
      refine T_iload_n (pc := 58) dX12_lay_58 rfl rfl ?_
      refine T_aI (pc := 59) dX12_lay_59 (aI_mono (fun x6 H => ?_) H)
      refine T_iconst (pc := 60) (v := 1) dX12_lay_60 (by decide) ?_
      refine T_isub (pc := 61) dX12_lay_61 ?_
      refine T_invS (pc := 62) (av := [jI v2, jI 0, jI (x6 - 1)]) (rest := []) dX12_lay_62 mf_X12_in c_5_86 c_5_87 rfl (Nat.le_of_ble_eq_true rfl) rfl (iI_k (iI_m0 (fun x7 h H => ?_) (J_X12_in (d := (d + 1)) H)))
      refine T_if_ne (pc := 65) (tgt := 74) dX12_lay_65 (by decide) (fun hc => ?_) (fun hc => ?_)
      · rw [if_neg hc] at H
        refine T_aload_n (pc := 74) dX12_lay_74 rfl rfl ?_
        refine T_gR (pc := 75) fa_X12_20 dX12_lay_75 (gR_mono (fun x8 H => ?_) H)
        refine T_bipush (pc := 78) (v := 20) dX12_lay_78 (by decide) ?_
        refine T_iload_n (pc := 80) dX12_lay_80 rfl rfl ?_
        refine T_imul (pc := 81) dX12_lay_81 ?_
        refine T_iload_n (pc := 82) dX12_lay_82 rfl rfl ?_
        refine T_iadd (pc := 83) dX12_lay_83 ?_
        refine T_iload_n (pc := 84) dX12_lay_84 rfl rfl ?_
        refine T_i2l (pc := 85) dX12_lay_85 ?_
        refine T_sL (pc := 86) dX12_lay_86 (sV_mono (fun h H => ?_) H)
        refine T_iconst (pc := 87) (v := 1) dX12_lay_87 (by decide) ?_
        exact T_ireturn (pc := 88) rfl rfl dX12_lay_88 H
      · rw [if_pos hc] at H
        refine T_aload_n (pc := 68) dX12_lay_68 rfl rfl ?_
        refine T_iconst (pc := 69) (v := 2) dX12_lay_69 (by decide) ?_
        obtain ⟨H0, H⟩ := H
        refine T_iV (pc := 70) (ci := 11) (av := [jI 2]) (rest := []) (o := v0) dX12_lay_70 mf_X12_fails c_5_89 c_5_91 pr_X12_fails rfl rfl (Nat.le_of_ble_eq_true rfl) rfl H0 (iI_k (iI_m0 (fun x9 h H => ?_) (J_X12_fails (d := (d + 1)) H)))
        exact T_ireturn (pc := 73) rfl rfl dX12_lay_73 H
    · rw [if_neg hc] at H
      refine T_aload_n (pc := 46) dX12_lay_46 rfl rfl ?_
      refine T_iconst (pc := 47) (v := 3) dX12_lay_47 (by decide) ?_
      obtain ⟨H0, H⟩ := H
      refine T_iV (pc := 48) (ci := 11) (av := [jI 3]) (rest := []) (o := v0) dX12_lay_48 mf_X12_fails c_5_89 c_5_91 pr_X12_fails rfl rfl (Nat.le_of_ble_eq_true rfl) rfl H0 (iI_k (iI_m0 (fun x10 h H => ?_) (J_X12_fails (d := (d + 1)) H)))
      exact T_ireturn (pc := 51) rfl rfl dX12_lay_51 H
  · rw [if_neg hc] at H
    refine T_bipush (pc := 32) (v := (-3)) dX12_lay_32 (by decide) ?_
    exact T_ireturn (pc := 34) rfl rfl dX12_lay_34 H
def F_X12_lay (d : Nat) (v0 : Option Nm) (v1 : Int32) (v2 : Int32) (v3 : Int32) (h : MH) (u : Nat) (Q : Int32 → MH → Prop) : Prop :=
  rc h v0 11 ∧ F_X12_isRow d v0 v1 h 0 fun x1 h =>
  if x1 = 0 then
    Q (-1) h
  else
    if v3 = (-1) then
      F_X12_lay_23 d v0 v1 v2 v3 h u Q
    else
      rc h v0 11 ∧ F_X12_isValue d v0 v3 h 0 fun x2 h =>
      if x2 = 0 then
        Q (-1) h
      else
        F_X12_lay_23 d v0 v1 v2 v3 h u Q
set_option maxRecDepth 20000 in
theorem E_X12_lay {d : Nat} {v0 : Option Nm} {v1 : Int32} {v2 : Int32} {v3 : Int32} {h : MH} {u : Nat} {Q : Int32 → MH → Prop} (H : F_X12_lay d v0 v1 v2 v3 h u Q) : T u_X12_lay (d + 2) 0 [some (jR v0), some (jI v1), some (jI v2), some (jI v3)] [] h u (qI Q) := by
  unfold F_X12_lay at H
  refine T_aload_n (pc := 0) dX12_lay_0 rfl rfl ?_
  refine T_iload_n (pc := 1) dX12_lay_1 rfl rfl ?_
  obtain ⟨H0, H⟩ := H
  refine T_iV (pc := 2) (ci := 11) (av := [jI v1]) (rest := []) (o := v0) dX12_lay_2 mf_X12_isRow c_5_102 c_5_104 pr_X12_isRow rfl rfl (Nat.le_of_ble_eq_true rfl) rfl H0 (iI_k (iI_m0 (fun x1 h H => ?_) (J_X12_isRow (d := d) H)))
  refine T_if_eq (pc := 5) (tgt := 21) dX12_lay_5 (by decide) (fun hc => ?_) (fun hc => ?_)
  · rw [if_pos hc] at H
    refine T_iconst (pc := 21) (v := (-1)) dX12_lay_21 (by decide) ?_
    exact T_ireturn (pc := 22) rfl rfl dX12_lay_22 H
  · rw [if_neg hc] at H
    refine T_iload_n (pc := 8) dX12_lay_8 rfl rfl ?_
    refine T_iconst (pc := 9) (v := (-1)) dX12_lay_9 (by decide) ?_
    refine T_icmp_eq (pc := 10) (tgt := 23) dX12_lay_10 (by decide) (fun hc => ?_) (fun hc => ?_)
    · rw [if_pos hc] at H
      exact T.forget (E_X12_lay_23 H) ⟨rfl, rfl, rfl, rfl, trivial⟩
    · rw [if_neg hc] at H
      refine T_aload_n (pc := 13) dX12_lay_13 rfl rfl ?_
      refine T_iload_n (pc := 14) dX12_lay_14 rfl rfl ?_
      obtain ⟨H0, H⟩ := H
      refine T_iV (pc := 15) (ci := 11) (av := [jI v3]) (rest := []) (o := v0) dX12_lay_15 mf_X12_isValue c_5_155 c_5_157 pr_X12_isValue rfl rfl (Nat.le_of_ble_eq_true rfl) rfl H0 (iI_k (iI_m0 (fun x2 h H => ?_) (J_X12_isValue (d := d) H)))
      refine T_if_ne (pc := 18) (tgt := 23) dX12_lay_18 (by decide) (fun hc => ?_) (fun hc => ?_)
      · rw [if_neg hc] at H
        exact T.forget (E_X12_lay_23 H) ⟨rfl, rfl, rfl, rfl, trivial⟩
      · rw [if_pos hc] at H
        refine T_iconst (pc := 21) (v := (-1)) dX12_lay_21 (by decide) ?_
        exact T_ireturn (pc := 22) rfl rfl dX12_lay_22 H
theorem I_X12_lay {d : Nat} {v0 : Option Nm} {v1 : Int32} {v2 : Int32} {v3 : Int32} {h : MH} {u : Nat} {K : Int32 → MH → Nat → Prop} (u1 : Nat) (hu : u1 ≤ u) (H : F_X12_lay d v0 v1 v2 v3 h u1 (fun x h2 => K x h2 (u - u1))) : iI (d + 2) u_X12_lay [jR v0, jI v1, jI v2, jI v3] h u K := inv.of u1 hu (Ct.of (by decide +kernel) rfl (Nat.le_of_ble_eq_true rfl) rfl (E_X12_lay H))
theorem J_X12_lay {d : Nat} {v0 : Option Nm} {v1 : Int32} {v2 : Int32} {v3 : Int32} {h : MH} {u : Nat} {K : Int32 → MH → Prop} (H : F_X12_lay d v0 v1 v2 v3 h 0 K) : iI (d + 2) u_X12_lay [jR v0, jI v1, jI v2, jI v3] h u (fun x h2 u2 => K x h2 ∧ u2 = u) := jiI (by decide +kernel) rfl (Nat.le_of_ble_eq_true rfl) rfl (E_X12_lay H)
theorem dX12_length_0 : decode cX12_length 0 = .ok (.aload_n 0, 1) := by decide +kernel
theorem dX12_length_1 : decode cX12_length 1 = .ok (.iload_n 1, 1) := by decide +kernel
theorem dX12_length_2 : decode cX12_length 2 = .ok (.invokevirtual 170, 3) := by decide +kernel
theorem dX12_length_5 : decode cX12_length 5 = .ok (.ifCond .ne 5, 3) := by decide +kernel
theorem dX12_length_8 : decode cX12_length 8 = .ok (.iconst (-1), 1) := by decide +kernel
theorem dX12_length_9 : decode cX12_length 9 = .ok (.ireturn, 1) := by decide +kernel
theorem dX12_length_10 : decode cX12_length 10 = .ok (.iload_n 2, 1) := by decide +kernel
theorem dX12_length_11 : decode cX12_length 11 = .ok (.ifCond .ne 12, 3) := by decide +kernel
theorem dX12_length_14 : decode cX12_length 14 = .ok (.aload_n 0, 1) := by decide +kernel
theorem dX12_length_15 : decode cX12_length 15 = .ok (.getfield 7, 3) := by decide +kernel
theorem dX12_length_18 : decode cX12_length 18 = .ok (.iload_n 1, 1) := by decide +kernel
theorem dX12_length_19 : decode cX12_length 19 = .ok (.iaload, 1) := by decide +kernel
theorem dX12_length_20 : decode cX12_length 20 = .ok (.goto 41, 3) := by decide +kernel
theorem dX12_length_23 : decode cX12_length 23 = .ok (.iload_n 2, 1) := by decide +kernel
theorem dX12_length_24 : decode cX12_length 24 = .ok (.iconst 1, 1) := by decide +kernel
theorem dX12_length_25 : decode cX12_length 25 = .ok (.if_icmp .ne 12, 3) := by decide +kernel
theorem dX12_length_28 : decode cX12_length 28 = .ok (.aload_n 0, 1) := by decide +kernel
theorem dX12_length_29 : decode cX12_length 29 = .ok (.getfield 13, 3) := by decide +kernel
theorem dX12_length_32 : decode cX12_length 32 = .ok (.iload_n 1, 1) := by decide +kernel
theorem dX12_length_33 : decode cX12_length 33 = .ok (.iaload, 1) := by decide +kernel
theorem dX12_length_34 : decode cX12_length 34 = .ok (.goto 27, 3) := by decide +kernel
theorem dX12_length_37 : decode cX12_length 37 = .ok (.iload_n 2, 1) := by decide +kernel
theorem dX12_length_38 : decode cX12_length 38 = .ok (.iconst 2, 1) := by decide +kernel
theorem dX12_length_39 : decode cX12_length 39 = .ok (.if_icmp .ne 20, 3) := by decide +kernel
theorem dX12_length_42 : decode cX12_length 42 = .ok (.aload_n 0, 1) := by decide +kernel
theorem dX12_length_43 : decode cX12_length 43 = .ok (.getfield 16, 3) := by decide +kernel
theorem dX12_length_46 : decode cX12_length 46 = .ok (.iload_n 1, 1) := by decide +kernel
theorem dX12_length_47 : decode cX12_length 47 = .ok (.baload, 1) := by decide +kernel
theorem dX12_length_48 : decode cX12_length 48 = .ok (.ifCond .eq 7, 3) := by decide +kernel
theorem dX12_length_51 : decode cX12_length 51 = .ok (.iconst 1, 1) := by decide +kernel
theorem dX12_length_52 : decode cX12_length 52 = .ok (.goto 9, 3) := by decide +kernel
theorem dX12_length_55 : decode cX12_length 55 = .ok (.iconst 0, 1) := by decide +kernel
theorem dX12_length_56 : decode cX12_length 56 = .ok (.goto 5, 3) := by decide +kernel
theorem dX12_length_59 : decode cX12_length 59 = .ok (.bipush (-2), 2) := by decide +kernel
theorem dX12_length_61 : decode cX12_length 61 = .ok (.ireturn, 1) := by decide +kernel
def F_X12_length (d : Nat) (v0 : Option Nm) (v1 : Int32) (v2 : Int32) (h : MH) (u : Nat) (Q : Int32 → MH → Prop) : Prop :=
  rc h v0 11 ∧ F_X12_isRow d v0 v1 h 0 fun x1 h =>
  if x1 = 0 then
    Q (-1) h
  else
    if v2 = 0 then
      gR h v0 11 4 fun x6 =>
      aI .int h x6 v1 fun x7 =>
      Q x7 h
    else
      if v2 = 1 then
        gR h v0 11 5 fun x4 =>
        aI .int h x4 v1 fun x5 =>
        Q x5 h
      else
        if v2 = 2 then
          gR h v0 11 6 fun x2 =>
          aI .boolean h x2 v1 fun x3 =>
          if x3 = 0 then
            Q 0 h
          else
            Q 1 h
        else
          Q (-2) h
set_option maxRecDepth 20000 in
theorem E_X12_length {d : Nat} {v0 : Option Nm} {v1 : Int32} {v2 : Int32} {h : MH} {u : Nat} {Q : Int32 → MH → Prop} (H : F_X12_length d v0 v1 v2 h u Q) : T u_X12_length (d + 2) 0 [some (jR v0), some (jI v1), some (jI v2)] [] h u (qI Q) := by
  unfold F_X12_length at H
  refine T_aload_n (pc := 0) dX12_length_0 rfl rfl ?_
  refine T_iload_n (pc := 1) dX12_length_1 rfl rfl ?_
  obtain ⟨H0, H⟩ := H
  refine T_iV (pc := 2) (ci := 11) (av := [jI v1]) (rest := []) (o := v0) dX12_length_2 mf_X12_isRow c_5_102 c_5_104 pr_X12_isRow rfl rfl (Nat.le_of_ble_eq_true rfl) rfl H0 (iI_k (iI_m0 (fun x1 h H => ?_) (J_X12_isRow (d := d) H)))
  refine T_if_ne (pc := 5) (tgt := 10) dX12_length_5 (by decide) (fun hc => ?_) (fun hc => ?_)
  · rw [if_neg hc] at H
    refine T_iload_n (pc := 10) dX12_length_10 rfl rfl ?_
    refine T_if_ne (pc := 11) (tgt := 23) dX12_length_11 (by decide) (fun hc => ?_) (fun hc => ?_)
    · rw [if_neg hc] at H
      refine T_iload_n (pc := 23) dX12_length_23 rfl rfl ?_
      refine T_iconst (pc := 24) (v := 1) dX12_length_24 (by decide) ?_
      refine T_icmp_ne (pc := 25) (tgt := 37) dX12_length_25 (by decide) (fun hc => ?_) (fun hc => ?_)
      · rw [if_neg hc] at H
        refine T_iload_n (pc := 37) dX12_length_37 rfl rfl ?_
        refine T_iconst (pc := 38) (v := 2) dX12_length_38 (by decide) ?_
        refine T_icmp_ne (pc := 39) (tgt := 59) dX12_length_39 (by decide) (fun hc => ?_) (fun hc => ?_)
        · rw [if_neg hc] at H
          refine T_bipush (pc := 59) (v := (-2)) dX12_length_59 (by decide) ?_
          exact T_ireturn (pc := 61) rfl rfl dX12_length_61 H
        · rw [if_pos hc] at H
          refine T_aload_n (pc := 42) dX12_length_42 rfl rfl ?_
          refine T_gR (pc := 43) fa_X12_16 dX12_length_43 (gR_mono (fun x2 H => ?_) H)
          refine T_iload_n (pc := 46) dX12_length_46 rfl rfl ?_
          refine T_aZ (pc := 47) dX12_length_47 (aI_mono (fun x3 H => ?_) H)
          refine T_if_eq (pc := 48) (tgt := 55) dX12_length_48 (by decide) (fun hc => ?_) (fun hc => ?_)
          · rw [if_pos hc] at H
            refine T_iconst (pc := 55) (v := 0) dX12_length_55 (by decide) ?_
            refine T_goto (pc := 56) (tgt := 61) dX12_length_56 (by decide) ?_
            exact T_ireturn (pc := 61) rfl rfl dX12_length_61 H
          · rw [if_neg hc] at H
            refine T_iconst (pc := 51) (v := 1) dX12_length_51 (by decide) ?_
            refine T_goto (pc := 52) (tgt := 61) dX12_length_52 (by decide) ?_
            exact T_ireturn (pc := 61) rfl rfl dX12_length_61 H
      · rw [if_pos hc] at H
        refine T_aload_n (pc := 28) dX12_length_28 rfl rfl ?_
        refine T_gR (pc := 29) fa_X12_13 dX12_length_29 (gR_mono (fun x4 H => ?_) H)
        refine T_iload_n (pc := 32) dX12_length_32 rfl rfl ?_
        refine T_aI (pc := 33) dX12_length_33 (aI_mono (fun x5 H => ?_) H)
        refine T_goto (pc := 34) (tgt := 61) dX12_length_34 (by decide) ?_
        exact T_ireturn (pc := 61) rfl rfl dX12_length_61 H
    · rw [if_pos hc] at H
      refine T_aload_n (pc := 14) dX12_length_14 rfl rfl ?_
      refine T_gR (pc := 15) fa_X12_7 dX12_length_15 (gR_mono (fun x6 H => ?_) H)
      refine T_iload_n (pc := 18) dX12_length_18 rfl rfl ?_
      refine T_aI (pc := 19) dX12_length_19 (aI_mono (fun x7 H => ?_) H)
      refine T_goto (pc := 20) (tgt := 61) dX12_length_20 (by decide) ?_
      exact T_ireturn (pc := 61) rfl rfl dX12_length_61 H
  · rw [if_pos hc] at H
    refine T_iconst (pc := 8) (v := (-1)) dX12_length_8 (by decide) ?_
    exact T_ireturn (pc := 9) rfl rfl dX12_length_9 H
theorem I_X12_length {d : Nat} {v0 : Option Nm} {v1 : Int32} {v2 : Int32} {h : MH} {u : Nat} {K : Int32 → MH → Nat → Prop} (u1 : Nat) (hu : u1 ≤ u) (H : F_X12_length d v0 v1 v2 h u1 (fun x h2 => K x h2 (u - u1))) : iI (d + 2) u_X12_length [jR v0, jI v1, jI v2] h u K := inv.of u1 hu (Ct.of (by decide +kernel) rfl (Nat.le_of_ble_eq_true rfl) rfl (E_X12_length H))
theorem J_X12_length {d : Nat} {v0 : Option Nm} {v1 : Int32} {v2 : Int32} {h : MH} {u : Nat} {K : Int32 → MH → Prop} (H : F_X12_length d v0 v1 v2 h 0 K) : iI (d + 2) u_X12_length [jR v0, jI v1, jI v2] h u (fun x h2 u2 => K x h2 ∧ u2 = u) := jiI (by decide +kernel) rfl (Nat.le_of_ble_eq_true rfl) rfl (E_X12_length H)
theorem dX12_starts_0 : decode cX12_starts 0 = .ok (.aload_n 0, 1) := by decide +kernel
theorem dX12_starts_1 : decode cX12_starts 1 = .ok (.getfield 33, 3) := by decide +kernel
theorem dX12_starts_4 : decode cX12_starts 4 = .ok (.iload_n 1, 1) := by decide +kernel
theorem dX12_starts_5 : decode cX12_starts 5 = .ok (.baload, 1) := by decide +kernel
theorem dX12_starts_6 : decode cX12_starts 6 = .ok (.ifCond .eq 5, 3) := by decide +kernel
theorem dX12_starts_9 : decode cX12_starts 9 = .ok (.iconst 1, 1) := by decide +kernel
theorem dX12_starts_10 : decode cX12_starts 10 = .ok (.ireturn, 1) := by decide +kernel
theorem dX12_starts_11 : decode cX12_starts 11 = .ok (.iconst 4, 1) := by decide +kernel
theorem dX12_starts_12 : decode cX12_starts 12 = .ok (.iload_n 1, 1) := by decide +kernel
theorem dX12_starts_13 : decode cX12_starts 13 = .ok (.imul, 1) := by decide +kernel
theorem dX12_starts_14 : decode cX12_starts 14 = .ok (.istore_n 2, 1) := by decide +kernel
theorem dX12_starts_15 : decode cX12_starts 15 = .ok (.aload_n 0, 1) := by decide +kernel
theorem dX12_starts_16 : decode cX12_starts 16 = .ok (.getfield 27, 3) := by decide +kernel
theorem dX12_starts_19 : decode cX12_starts 19 = .ok (.iload_n 1, 1) := by decide +kernel
theorem dX12_starts_20 : decode cX12_starts 20 = .ok (.baload, 1) := by decide +kernel
theorem dX12_starts_21 : decode cX12_starts 21 = .ok (.ifCond .eq 22, 3) := by decide +kernel
theorem dX12_starts_24 : decode cX12_starts 24 = .ok (.aload_n 0, 1) := by decide +kernel
theorem dX12_starts_25 : decode cX12_starts 25 = .ok (.getfield 215, 3) := by decide +kernel
theorem dX12_starts_28 : decode cX12_starts 28 = .ok (.aload_n 0, 1) := by decide +kernel
theorem dX12_starts_29 : decode cX12_starts 29 = .ok (.getfield 42, 3) := by decide +kernel
theorem dX12_starts_32 : decode cX12_starts 32 = .ok (.iload_n 2, 1) := by decide +kernel
theorem dX12_starts_33 : decode cX12_starts 33 = .ok (.iaload, 1) := by decide +kernel
theorem dX12_starts_34 : decode cX12_starts 34 = .ok (.iadd, 1) := by decide +kernel
theorem dX12_starts_35 : decode cX12_starts 35 = .ok (.sipush 200, 3) := by decide +kernel
theorem dX12_starts_38 : decode cX12_starts 38 = .ok (.if_icmp .le 5, 3) := by decide +kernel
theorem dX12_starts_41 : decode cX12_starts 41 = .ok (.iconst 0, 1) := by decide +kernel
theorem dX12_starts_42 : decode cX12_starts 42 = .ok (.ireturn, 1) := by decide +kernel
theorem dX12_starts_43 : decode cX12_starts 43 = .ok (.aload_n 0, 1) := by decide +kernel
theorem dX12_starts_44 : decode cX12_starts 44 = .ok (.getfield 33, 3) := by decide +kernel
theorem dX12_starts_47 : decode cX12_starts 47 = .ok (.iload_n 1, 1) := by decide +kernel
theorem dX12_starts_48 : decode cX12_starts 48 = .ok (.iconst 1, 1) := by decide +kernel
theorem dX12_starts_49 : decode cX12_starts 49 = .ok (.bastore, 1) := by decide +kernel
theorem dX12_starts_50 : decode cX12_starts 50 = .ok (.aload_n 0, 1) := by decide +kernel
theorem dX12_starts_51 : decode cX12_starts 51 = .ok (.bipush 100, 2) := by decide +kernel
theorem dX12_starts_53 : decode cX12_starts 53 = .ok (.iload_n 1, 1) := by decide +kernel
theorem dX12_starts_54 : decode cX12_starts 54 = .ok (.iadd, 1) := by decide +kernel
theorem dX12_starts_55 : decode cX12_starts 55 = .ok (.invokevirtual 218, 3) := by decide +kernel
theorem dX12_starts_58 : decode cX12_starts 58 = .ok (.iconst 0, 1) := by decide +kernel
theorem dX12_starts_59 : decode cX12_starts 59 = .ok (.istore_n 3, 1) := by decide +kernel
theorem dX12_starts_60 : decode cX12_starts 60 = .ok (.aload_n 0, 1) := by decide +kernel
theorem dX12_starts_61 : decode cX12_starts 61 = .ok (.getfield 27, 3) := by decide +kernel
theorem dX12_starts_64 : decode cX12_starts 64 = .ok (.iload_n 1, 1) := by decide +kernel
theorem dX12_starts_65 : decode cX12_starts 65 = .ok (.baload, 1) := by decide +kernel
theorem dX12_starts_66 : decode cX12_starts 66 = .ok (.ifCond .eq 46, 3) := by decide +kernel
theorem dX12_starts_69 : decode cX12_starts 69 = .ok (.iload_n 3, 1) := by decide +kernel
theorem dX12_starts_70 : decode cX12_starts 70 = .ok (.aload_n 0, 1) := by decide +kernel
theorem dX12_starts_71 : decode cX12_starts 71 = .ok (.getfield 42, 3) := by decide +kernel
theorem dX12_starts_74 : decode cX12_starts 74 = .ok (.iload_n 2, 1) := by decide +kernel
theorem dX12_starts_75 : decode cX12_starts 75 = .ok (.iaload, 1) := by decide +kernel
theorem dX12_starts_76 : decode cX12_starts 76 = .ok (.if_icmp .ge 36, 3) := by decide +kernel
theorem dX12_starts_79 : decode cX12_starts 79 = .ok (.aload_n 0, 1) := by decide +kernel
theorem dX12_starts_80 : decode cX12_starts 80 = .ok (.getfield 51, 3) := by decide +kernel
theorem dX12_starts_83 : decode cX12_starts 83 = .ok (.bipush 8, 2) := by decide +kernel
theorem dX12_starts_85 : decode cX12_starts 85 = .ok (.iload_n 2, 1) := by decide +kernel
theorem dX12_starts_86 : decode cX12_starts 86 = .ok (.imul, 1) := by decide +kernel
theorem dX12_starts_87 : decode cX12_starts 87 = .ok (.iload_n 3, 1) := by decide +kernel
theorem dX12_starts_88 : decode cX12_starts 88 = .ok (.iadd, 1) := by decide +kernel
theorem dX12_starts_89 : decode cX12_starts 89 = .ok (.aload_n 0, 1) := by decide +kernel
theorem dX12_starts_90 : decode cX12_starts 90 = .ok (.iload_n 1, 1) := by decide +kernel
theorem dX12_starts_91 : decode cX12_starts 91 = .ok (.aload_n 0, 1) := by decide +kernel
theorem dX12_starts_92 : decode cX12_starts 92 = .ok (.getfield 45, 3) := by decide +kernel
theorem dX12_starts_95 : decode cX12_starts 95 = .ok (.bipush 8, 2) := by decide +kernel
theorem dX12_starts_97 : decode cX12_starts 97 = .ok (.iload_n 2, 1) := by decide +kernel
theorem dX12_starts_98 : decode cX12_starts 98 = .ok (.imul, 1) := by decide +kernel
theorem dX12_starts_99 : decode cX12_starts 99 = .ok (.iload_n 3, 1) := by decide +kernel
theorem dX12_starts_100 : decode cX12_starts 100 = .ok (.iadd, 1) := by decide +kernel
theorem dX12_starts_101 : decode cX12_starts 101 = .ok (.iaload, 1) := by decide +kernel
theorem dX12_starts_102 : decode cX12_starts 102 = .ok (.invokevirtual 222, 3) := by decide +kernel
theorem dX12_starts_105 : decode cX12_starts 105 = .ok (.iastore, 1) := by decide +kernel
theorem dX12_starts_106 : decode cX12_starts 106 = .ok (.iinc 3 1, 3) := by decide +kernel
theorem dX12_starts_109 : decode cX12_starts 109 = .ok (.goto (-49), 3) := by decide +kernel
theorem dX12_starts_112 : decode cX12_starts 112 = .ok (.iconst 1, 1) := by decide +kernel
theorem dX12_starts_113 : decode cX12_starts 113 = .ok (.ireturn, 1) := by decide +kernel
def L_X12_starts_60 (d : Nat) (v0 : Option Nm) (v1 : Int32) (v2 : Int32) (v3 : Int32) (h : MH) (u : Nat) (Q : Int32 → MH → Prop) : Prop := T u_X12_starts (d + 2) 60 [some (jR v0), some (jI v1), some (jI v2), some (jI v3)] [] h u (qI Q)
def F_X12_starts_43 (d : Nat) (v0 : Option Nm) (v1 : Int32) (v2 : Int32) (h : MH) (u : Nat) (Q : Int32 → MH → Prop) : Prop :=
  gR h v0 11 12 fun x1 =>
  sV .boolean h x1 v1 (jI (vp_nar .boolean 1)) fun h =>
  rc h v0 11 ∧ F_X12_traced (d + 1) v0 (100 + v1) h 0 fun h =>
  L_X12_starts_60 d v0 v1 v2 0 h u Q
set_option maxRecDepth 20000 in
theorem E_X12_starts_43 {d : Nat} {v0 : Option Nm} {v1 : Int32} {v2 : Int32} {h : MH} {u : Nat} {Q : Int32 → MH → Prop} (H : F_X12_starts_43 d v0 v1 v2 h u Q) : T u_X12_starts (d + 2) 43 [some (jR v0), some (jI v1), some (jI v2), none] [] h u (qI Q) := by
  unfold F_X12_starts_43 at H
  refine T_aload_n (pc := 43) dX12_starts_43 rfl rfl ?_
  refine T_gR (pc := 44) fa_X12_33 dX12_starts_44 (gR_mono (fun x1 H => ?_) H)
  refine T_iload_n (pc := 47) dX12_starts_47 rfl rfl ?_
  refine T_iconst (pc := 48) (v := 1) dX12_starts_48 (by decide) ?_
  refine T_sZ (pc := 49) dX12_starts_49 (sV_mono (fun h H => ?_) H)
  refine T_aload_n (pc := 50) dX12_starts_50 rfl rfl ?_
  refine T_bipush (pc := 51) (v := 100) dX12_starts_51 (by decide) ?_
  refine T_iload_n (pc := 53) dX12_starts_53 rfl rfl ?_
  refine T_iadd (pc := 54) dX12_starts_54 ?_
  obtain ⟨H0, H⟩ := H
  refine T_iV (pc := 55) (ci := 11) (av := [jI (100 + v1)]) (rest := []) (o := v0) dX12_starts_55 mf_X12_traced c_6_6 c_6_8 pr_X12_traced rfl rfl (Nat.le_of_ble_eq_true rfl) rfl H0 (iV_k (iV_m0 (fun h H => ?_) (J_X12_traced (d := (d + 1)) H)))
  refine T_iconst (pc := 58) (v := 0) dX12_starts_58 (by decide) ?_
  refine T_istore_n (pc := 59) (ls2 := [some (jR v0), some (jI v1), some (jI v2), some (jI 0)]) dX12_starts_59 rfl (Nat.le_of_ble_eq_true rfl) rfl ?_
  exact T.forget H ⟨rfl, rfl, rfl, rfl, trivial⟩
def F_X12_starts (d : Nat) (v0 : Option Nm) (v1 : Int32) (h : MH) (u : Nat) (Q : Int32 → MH → Prop) : Prop :=
  gR h v0 11 12 fun x1 =>
  aI .boolean h x1 v1 fun x2 =>
  if x2 = 0 then
    gR h v0 11 10 fun x3 =>
    aI .boolean h x3 v1 fun x4 =>
    if x4 = 0 then
      F_X12_starts_43 d v0 v1 (4 * v1) h u Q
    else
      gI h v0 11 24 fun x5 =>
      gR h v0 11 15 fun x6 =>
      aI .int h x6 (4 * v1) fun x7 =>
      if (x5 + x7) ≤ 200 then
        F_X12_starts_43 d v0 v1 (4 * v1) h u Q
      else
        nz 0 ∧ Q 0 h
  else
    nz 1 ∧ Q 1 h
set_option maxRecDepth 20000 in
theorem E_X12_starts {d : Nat} {v0 : Option Nm} {v1 : Int32} {h : MH} {u : Nat} {Q : Int32 → MH → Prop} (H : F_X12_starts d v0 v1 h u Q) : T u_X12_starts (d + 2) 0 [some (jR v0), some (jI v1), none, none] [] h u (qI Q) := by
  unfold F_X12_starts at H
  refine T_aload_n (pc := 0) dX12_starts_0 rfl rfl ?_
  refine T_gR (pc := 1) fa_X12_33 dX12_starts_1 (gR_mono (fun x1 H => ?_) H)
  refine T_iload_n (pc := 4) dX12_starts_4 rfl rfl ?_
  refine T_aZ (pc := 5) dX12_starts_5 (aI_mono (fun x2 H => ?_) H)
  refine T_if_eq (pc := 6) (tgt := 11) dX12_starts_6 (by decide) (fun hc => ?_) (fun hc => ?_)
  · rw [if_pos hc] at H
    refine T_iconst (pc := 11) (v := 4) dX12_starts_11 (by decide) ?_
    refine T_iload_n (pc := 12) dX12_starts_12 rfl rfl ?_
    refine T_imul (pc := 13) dX12_starts_13 ?_
    refine T_istore_n (pc := 14) (ls2 := [some (jR v0), some (jI v1), some (jI (4 * v1)), none]) dX12_starts_14 rfl (Nat.le_of_ble_eq_true rfl) rfl ?_
    refine T_aload_n (pc := 15) dX12_starts_15 rfl rfl ?_
    refine T_gR (pc := 16) fa_X12_27 dX12_starts_16 (gR_mono (fun x3 H => ?_) H)
    refine T_iload_n (pc := 19) dX12_starts_19 rfl rfl ?_
    refine T_aZ (pc := 20) dX12_starts_20 (aI_mono (fun x4 H => ?_) H)
    refine T_if_eq (pc := 21) (tgt := 43) dX12_starts_21 (by decide) (fun hc => ?_) (fun hc => ?_)
    · rw [if_pos hc] at H
      exact T.forget (E_X12_starts_43 H) ⟨rfl, rfl, rfl, trivial⟩
    · rw [if_neg hc] at H
      refine T_aload_n (pc := 24) dX12_starts_24 rfl rfl ?_
      refine T_gI (pc := 25) fa_X12_215 dX12_starts_25 (gI_mono (fun x5 H => ?_) H)
      refine T_aload_n (pc := 28) dX12_starts_28 rfl rfl ?_
      refine T_gR (pc := 29) fa_X12_42 dX12_starts_29 (gR_mono (fun x6 H => ?_) H)
      refine T_iload_n (pc := 32) dX12_starts_32 rfl rfl ?_
      refine T_aI (pc := 33) dX12_starts_33 (aI_mono (fun x7 H => ?_) H)
      refine T_iadd (pc := 34) dX12_starts_34 ?_
      refine T_sipush (pc := 35) (v := 200) dX12_starts_35 (by decide) ?_
      refine T_icmp_le (pc := 38) (tgt := 43) dX12_starts_38 (by decide) (fun hc => ?_) (fun hc => ?_)
      · rw [if_pos hc] at H
        exact T.forget (E_X12_starts_43 H) ⟨rfl, rfl, rfl, trivial⟩
      · rw [if_neg hc] at H
        refine T_iconst (pc := 41) (v := 0) dX12_starts_41 (by decide) ?_
        exact T_ireturn (pc := 42) rfl (nz_nar H.1) dX12_starts_42 H.2
  · rw [if_neg hc] at H
    refine T_iconst (pc := 9) (v := 1) dX12_starts_9 (by decide) ?_
    exact T_ireturn (pc := 10) rfl (nz_nar H.1) dX12_starts_10 H.2
def F_X12_starts_60 (d : Nat) (v0 : Option Nm) (v1 : Int32) (v2 : Int32) (v3 : Int32) (h : MH) (u : Nat) (Q : Int32 → MH → Prop) : Prop :=
  gR h v0 11 10 fun x1 =>
  aI .boolean h x1 v1 fun x2 =>
  if x2 = 0 then
    nz 1 ∧ Q 1 h
  else
    gR h v0 11 15 fun x3 =>
    aI .int h x3 v2 fun x4 =>
    if x4 ≤ v3 then
      nz 1 ∧ Q 1 h
    else
      gR h v0 11 18 fun x5 =>
      gR h v0 11 16 fun x6 =>
      aI .int h x6 ((8 * v2) + v3) fun x7 =>
      rc h v0 11 ∧ F_X12_newConstant d v0 v1 x7 h 0 fun x8 h =>
      sV .int h x5 ((8 * v2) + v3) (jI x8) fun h =>
      L_X12_starts_60 d v0 v1 v2 (v3 + 1) h u Q
set_option maxRecDepth 20000 in
theorem E_X12_starts_60 {d : Nat} {v0 : Option Nm} {v1 : Int32} {v2 : Int32} {v3 : Int32} {h : MH} {u : Nat} {Q : Int32 → MH → Prop} (H : F_X12_starts_60 d v0 v1 v2 v3 h u Q) : T u_X12_starts (d + 2) 60 [some (jR v0), some (jI v1), some (jI v2), some (jI v3)] [] h u (qI Q) := by
  unfold F_X12_starts_60 at H
  refine T_aload_n (pc := 60) dX12_starts_60 rfl rfl ?_
  refine T_gR (pc := 61) fa_X12_27 dX12_starts_61 (gR_mono (fun x1 H => ?_) H)
  refine T_iload_n (pc := 64) dX12_starts_64 rfl rfl ?_
  refine T_aZ (pc := 65) dX12_starts_65 (aI_mono (fun x2 H => ?_) H)
  refine T_if_eq (pc := 66) (tgt := 112) dX12_starts_66 (by decide) (fun hc => ?_) (fun hc => ?_)
  · rw [if_pos hc] at H
    refine T_iconst (pc := 112) (v := 1) dX12_starts_112 (by decide) ?_
    exact T_ireturn (pc := 113) rfl (nz_nar H.1) dX12_starts_113 H.2
  · rw [if_neg hc] at H
    refine T_iload_n (pc := 69) dX12_starts_69 rfl rfl ?_
    refine T_aload_n (pc := 70) dX12_starts_70 rfl rfl ?_
    refine T_gR (pc := 71) fa_X12_42 dX12_starts_71 (gR_mono (fun x3 H => ?_) H)
    refine T_iload_n (pc := 74) dX12_starts_74 rfl rfl ?_
    refine T_aI (pc := 75) dX12_starts_75 (aI_mono (fun x4 H => ?_) H)
    refine T_icmp_ge (pc := 76) (tgt := 112) dX12_starts_76 (by decide) (fun hc => ?_) (fun hc => ?_)
    · rw [if_pos hc] at H
      refine T_iconst (pc := 112) (v := 1) dX12_starts_112 (by decide) ?_
      exact T_ireturn (pc := 113) rfl (nz_nar H.1) dX12_starts_113 H.2
    · rw [if_neg hc] at H
      refine T_aload_n (pc := 79) dX12_starts_79 rfl rfl ?_
      refine T_gR (pc := 80) fa_X12_51 dX12_starts_80 (gR_mono (fun x5 H => ?_) H)
      refine T_bipush (pc := 83) (v := 8) dX12_starts_83 (by decide) ?_
      refine T_iload_n (pc := 85) dX12_starts_85 rfl rfl ?_
      refine T_imul (pc := 86) dX12_starts_86 ?_
      refine T_iload_n (pc := 87) dX12_starts_87 rfl rfl ?_
      refine T_iadd (pc := 88) dX12_starts_88 ?_
      refine T_aload_n (pc := 89) dX12_starts_89 rfl rfl ?_
      refine T_iload_n (pc := 90) dX12_starts_90 rfl rfl ?_
      refine T_aload_n (pc := 91) dX12_starts_91 rfl rfl ?_
      refine T_gR (pc := 92) fa_X12_45 dX12_starts_92 (gR_mono (fun x6 H => ?_) H)
      refine T_bipush (pc := 95) (v := 8) dX12_starts_95 (by decide) ?_
      refine T_iload_n (pc := 97) dX12_starts_97 rfl rfl ?_
      refine T_imul (pc := 98) dX12_starts_98 ?_
      refine T_iload_n (pc := 99) dX12_starts_99 rfl rfl ?_
      refine T_iadd (pc := 100) dX12_starts_100 ?_
      refine T_aI (pc := 101) dX12_starts_101 (aI_mono (fun x7 H => ?_) H)
      obtain ⟨H0, H⟩ := H
      refine T_iV (pc := 102) (ci := 11) (av := [jI v1, jI x7]) (rest := [jI ((8 * v2) + v3), jR x5]) (o := v0) dX12_starts_102 mf_X12_newConstant c_5_214 c_5_216 pr_X12_newConstant rfl rfl (Nat.le_of_ble_eq_true rfl) rfl H0 (iI_k (iI_m0 (fun x8 h H => ?_) (J_X12_newConstant (d := d) H)))
      refine T_sI (pc := 105) dX12_starts_105 (sV_mono (fun h H => ?_) H)
      refine T_iinc (pc := 106) (v := v3 + 1) (ls2 := [some (jR v0), some (jI v1), some (jI v2), some (jI (v3 + 1))]) dX12_starts_106 rfl rfl (Nat.le_of_ble_eq_true rfl) rfl ?_
      refine T_goto (pc := 109) (tgt := 60) dX12_starts_109 (by decide) ?_
      exact T.forget H ⟨rfl, rfl, rfl, rfl, trivial⟩
theorem I_X12_starts {d : Nat} {v0 : Option Nm} {v1 : Int32} {h : MH} {u : Nat} {K : Int32 → MH → Nat → Prop} (u1 : Nat) (hu : u1 ≤ u) (H : F_X12_starts d v0 v1 h u1 (fun x h2 => K x h2 (u - u1))) : iI (d + 2) u_X12_starts [jR v0, jI v1] h u K := inv.of u1 hu (Ct.of (by decide +kernel) rfl (Nat.le_of_ble_eq_true rfl) rfl (E_X12_starts H))
theorem J_X12_starts {d : Nat} {v0 : Option Nm} {v1 : Int32} {h : MH} {u : Nat} {K : Int32 → MH → Prop} (H : F_X12_starts d v0 v1 h 0 K) : iI (d + 2) u_X12_starts [jR v0, jI v1] h u (fun x h2 u2 => K x h2 ∧ u2 = u) := jiI (by decide +kernel) rfl (Nat.le_of_ble_eq_true rfl) rfl (E_X12_starts H)
