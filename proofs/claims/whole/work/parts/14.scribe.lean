theorem dX0_init_0 : decode cX0_init 0 = .ok (.aload_n 0, 1) := by decide +kernel
theorem dX0_init_1 : decode cX0_init 1 = .ok (.invokespecial 1, 3) := by decide +kernel
theorem dX0_init_4 : decode cX0_init 4 = .ok (.aload_n 0, 1) := by decide +kernel
theorem dX0_init_5 : decode cX0_init 5 = .ok (.aload_n 1, 1) := by decide +kernel
theorem dX0_init_6 : decode cX0_init 6 = .ok (.putfield 7, 3) := by decide +kernel
theorem dX0_init_9 : decode cX0_init 9 = .ok (.return_, 1) := by decide +kernel
def F_X0_init (d : Nat) (v0 : Option Nm) (v1 : Option Nm) (h : MH) (u : Nat) (Q : MH → Prop) : Prop :=
  nn v0 <|
  pV h v0 0 0 (jR v1) fun h =>
  Q h
set_option maxRecDepth 20000 in
theorem E_X0_init {d : Nat} {v0 : Option Nm} {v1 : Option Nm} {h : MH} {u : Nat} {Q : MH → Prop} (H : F_X0_init d v0 v1 h u Q) : T u_X0_init (d + 1) 0 [some (jR v0), some (jR v1)] [] h u (qV Q) := by
  unfold F_X0_init at H
  refine T_aload_n (pc := 0) dX0_init_0 rfl rfl ?_
  obtain ⟨n0, H0, H⟩ := nn_out H
  refine T_objInit (pc := 1) dX0_init_1 c_1_93 c_1_25 c_1_26 H0 (Nat.le_of_ble_eq_true rfl) ?_
  refine T_aload_n (pc := 4) dX0_init_4 rfl rfl ?_
  refine T_aload_n (pc := 5) dX0_init_5 rfl rfl ?_
  refine T_pVF (pc := 6) fa_X0_7 rfl rfl dX0_init_6 trivial (pV_mono (fun h H => ?_) H)
  exact T_return (pc := 9) rfl dX0_init_9 H
theorem I_X0_init {d : Nat} {v0 : Option Nm} {v1 : Option Nm} {h : MH} {u : Nat} {K : MH → Nat → Prop} (u1 : Nat) (hu : u1 ≤ u) (H : F_X0_init d v0 v1 h u1 (fun h2 => K h2 (u - u1))) : iV (d + 1) u_X0_init [jR v0, jR v1] h u K := inv.of u1 hu (Ct.of (by decide +kernel) rfl (Nat.le_of_ble_eq_true rfl) rfl (E_X0_init H))
theorem dX0_compareValues_0 : decode cX0_compareValues 0 = .ok (.aload_n 1, 1) := by decide +kernel
theorem dX0_compareValues_1 : decode cX0_compareValues 1 = .ok (.ifnull 7, 3) := by decide +kernel
theorem dX0_compareValues_4 : decode cX0_compareValues 4 = .ok (.aload_n 2, 1) := by decide +kernel
theorem dX0_compareValues_5 : decode cX0_compareValues 5 = .ok (.ifnonnull 25, 3) := by decide +kernel
theorem dX0_compareValues_8 : decode cX0_compareValues 8 = .ok (.aload_n 1, 1) := by decide +kernel
theorem dX0_compareValues_9 : decode cX0_compareValues 9 = .ok (.ifnull 7, 3) := by decide +kernel
theorem dX0_compareValues_12 : decode cX0_compareValues 12 = .ok (.iconst 1, 1) := by decide +kernel
theorem dX0_compareValues_13 : decode cX0_compareValues 13 = .ok (.goto 4, 3) := by decide +kernel
theorem dX0_compareValues_16 : decode cX0_compareValues 16 = .ok (.iconst 0, 1) := by decide +kernel
theorem dX0_compareValues_17 : decode cX0_compareValues 17 = .ok (.aload_n 2, 1) := by decide +kernel
theorem dX0_compareValues_18 : decode cX0_compareValues 18 = .ok (.ifnull 7, 3) := by decide +kernel
theorem dX0_compareValues_21 : decode cX0_compareValues 21 = .ok (.iconst 1, 1) := by decide +kernel
theorem dX0_compareValues_22 : decode cX0_compareValues 22 = .ok (.goto 4, 3) := by decide +kernel
theorem dX0_compareValues_25 : decode cX0_compareValues 25 = .ok (.iconst 0, 1) := by decide +kernel
theorem dX0_compareValues_26 : decode cX0_compareValues 26 = .ok (.invokestatic 13, 3) := by decide +kernel
theorem dX0_compareValues_29 : decode cX0_compareValues 29 = .ok (.ireturn, 1) := by decide +kernel
theorem dX0_compareValues_30 : decode cX0_compareValues 30 = .ok (.aload_n 1, 1) := by decide +kernel
theorem dX0_compareValues_31 : decode cX0_compareValues 31 = .ok (.getfield 17, 3) := by decide +kernel
theorem dX0_compareValues_34 : decode cX0_compareValues 34 = .ok (.getfield 23, 3) := by decide +kernel
theorem dX0_compareValues_37 : decode cX0_compareValues 37 = .ok (.i2l, 1) := by decide +kernel
theorem dX0_compareValues_38 : decode cX0_compareValues 38 = .ok (.aload_n 2, 1) := by decide +kernel
theorem dX0_compareValues_39 : decode cX0_compareValues 39 = .ok (.getfield 17, 3) := by decide +kernel
theorem dX0_compareValues_42 : decode cX0_compareValues 42 = .ok (.getfield 23, 3) := by decide +kernel
theorem dX0_compareValues_45 : decode cX0_compareValues 45 = .ok (.i2l, 1) := by decide +kernel
theorem dX0_compareValues_46 : decode cX0_compareValues 46 = .ok (.invokestatic 29, 3) := by decide +kernel
theorem dX0_compareValues_49 : decode cX0_compareValues 49 = .ok (.istore_n 3, 1) := by decide +kernel
theorem dX0_compareValues_50 : decode cX0_compareValues 50 = .ok (.iload_n 3, 1) := by decide +kernel
theorem dX0_compareValues_51 : decode cX0_compareValues 51 = .ok (.ifCond .eq 5, 3) := by decide +kernel
theorem dX0_compareValues_54 : decode cX0_compareValues 54 = .ok (.iload_n 3, 1) := by decide +kernel
theorem dX0_compareValues_55 : decode cX0_compareValues 55 = .ok (.ireturn, 1) := by decide +kernel
theorem dX0_compareValues_56 : decode cX0_compareValues 56 = .ok (.aload_n 1, 1) := by decide +kernel
theorem dX0_compareValues_57 : decode cX0_compareValues 57 = .ok (.getfield 33, 3) := by decide +kernel
theorem dX0_compareValues_60 : decode cX0_compareValues 60 = .ok (.getfield 37, 3) := by decide +kernel
theorem dX0_compareValues_63 : decode cX0_compareValues 63 = .ok (.i2l, 1) := by decide +kernel
theorem dX0_compareValues_64 : decode cX0_compareValues 64 = .ok (.aload_n 2, 1) := by decide +kernel
theorem dX0_compareValues_65 : decode cX0_compareValues 65 = .ok (.getfield 33, 3) := by decide +kernel
theorem dX0_compareValues_68 : decode cX0_compareValues 68 = .ok (.getfield 37, 3) := by decide +kernel
theorem dX0_compareValues_71 : decode cX0_compareValues 71 = .ok (.i2l, 1) := by decide +kernel
theorem dX0_compareValues_72 : decode cX0_compareValues 72 = .ok (.invokestatic 29, 3) := by decide +kernel
theorem dX0_compareValues_75 : decode cX0_compareValues 75 = .ok (.istore 4, 2) := by decide +kernel
theorem dX0_compareValues_77 : decode cX0_compareValues 77 = .ok (.iload 4, 2) := by decide +kernel
theorem dX0_compareValues_79 : decode cX0_compareValues 79 = .ok (.ifCond .eq 6, 3) := by decide +kernel
theorem dX0_compareValues_82 : decode cX0_compareValues 82 = .ok (.iload 4, 2) := by decide +kernel
theorem dX0_compareValues_84 : decode cX0_compareValues 84 = .ok (.ireturn, 1) := by decide +kernel
theorem dX0_compareValues_85 : decode cX0_compareValues 85 = .ok (.aload_n 1, 1) := by decide +kernel
theorem dX0_compareValues_86 : decode cX0_compareValues 86 = .ok (.getfield 17, 3) := by decide +kernel
theorem dX0_compareValues_89 : decode cX0_compareValues 89 = .ok (.getfield 40, 3) := by decide +kernel
theorem dX0_compareValues_92 : decode cX0_compareValues 92 = .ok (.ifCond .eq 19, 3) := by decide +kernel
theorem dX0_compareValues_95 : decode cX0_compareValues 95 = .ok (.aload_n 1, 1) := by decide +kernel
theorem dX0_compareValues_96 : decode cX0_compareValues 96 = .ok (.getfield 44, 3) := by decide +kernel
theorem dX0_compareValues_99 : decode cX0_compareValues 99 = .ok (.i2l, 1) := by decide +kernel
theorem dX0_compareValues_100 : decode cX0_compareValues 100 = .ok (.aload_n 2, 1) := by decide +kernel
theorem dX0_compareValues_101 : decode cX0_compareValues 101 = .ok (.getfield 44, 3) := by decide +kernel
theorem dX0_compareValues_104 : decode cX0_compareValues 104 = .ok (.i2l, 1) := by decide +kernel
theorem dX0_compareValues_105 : decode cX0_compareValues 105 = .ok (.invokestatic 29, 3) := by decide +kernel
theorem dX0_compareValues_108 : decode cX0_compareValues 108 = .ok (.goto 9, 3) := by decide +kernel
theorem dX0_compareValues_111 : decode cX0_compareValues 111 = .ok (.aload_n 0, 1) := by decide +kernel
theorem dX0_compareValues_112 : decode cX0_compareValues 112 = .ok (.aload_n 1, 1) := by decide +kernel
theorem dX0_compareValues_113 : decode cX0_compareValues 113 = .ok (.aload_n 2, 1) := by decide +kernel
theorem dX0_compareValues_114 : decode cX0_compareValues 114 = .ok (.invokevirtual 47, 3) := by decide +kernel
theorem dX0_compareValues_117 : decode cX0_compareValues 117 = .ok (.ireturn, 1) := by decide +kernel
def F_X0_compareValues_17 (d : Nat) (v2 : Option Nm) (s0 : Int32) (h : MH) (u : Nat) (Q : Int32 → MH → Prop) : Prop :=
  nl v2 (
    iI d u_X0_nothingFirst [jI s0, jI 0] h u fun x1 h u =>
    Q x1 h) (
    iI d u_X0_nothingFirst [jI s0, jI 1] h u fun x2 h u =>
    Q x2 h)
set_option maxRecDepth 20000 in
theorem E_X0_compareValues_17 {d : Nat} {v2 : Option Nm} {s0 : Int32} {h : MH} {u : Nat} {Q : Int32 → MH → Prop} (H : F_X0_compareValues_17 d v2 s0 h u Q) : T u_X0_compareValues (d + 1) 17 [none, none, some (jR v2), none, none] [jI s0] h u (qI Q) := by
  unfold F_X0_compareValues_17 at H
  refine T_aload_n (pc := 17) dX0_compareValues_17 rfl rfl ?_
  refine T_ifnull (pc := 18) (tgt := 25) dX0_compareValues_18 (by decide) (fun ho => ?_) (fun n ho => ?_)
  · replace H := nl_n ho H
    refine T_iconst (pc := 25) (v := 0) dX0_compareValues_25 (by decide) ?_
    refine T_invS (pc := 26) (av := [jI s0, jI 0]) (rest := []) dX0_compareValues_26 mf_X0_nothingFirst c_4_27 c_4_28 rfl (Nat.le_of_ble_eq_true rfl) rfl (iI_k (iI_mono (fun x1 h u H => ?_) H))
    exact T_ireturn (pc := 29) rfl rfl dX0_compareValues_29 H
  · replace H := nl_s ho H
    refine T_iconst (pc := 21) (v := 1) dX0_compareValues_21 (by decide) ?_
    refine T_goto (pc := 22) (tgt := 26) dX0_compareValues_22 (by decide) ?_
    refine T_invS (pc := 26) (av := [jI s0, jI 1]) (rest := []) dX0_compareValues_26 mf_X0_nothingFirst c_4_27 c_4_28 rfl (Nat.le_of_ble_eq_true rfl) rfl (iI_k (iI_mono (fun x2 h u H => ?_) H))
    exact T_ireturn (pc := 29) rfl rfl dX0_compareValues_29 H
def F_X0_compareValues_8 (d : Nat) (v1 : Option Nm) (v2 : Option Nm) (h : MH) (u : Nat) (Q : Int32 → MH → Prop) : Prop :=
  nl v1 (
    F_X0_compareValues_17 d v2 0 h u Q) (
    F_X0_compareValues_17 d v2 1 h u Q)
set_option maxRecDepth 20000 in
theorem E_X0_compareValues_8 {d : Nat} {v1 : Option Nm} {v2 : Option Nm} {h : MH} {u : Nat} {Q : Int32 → MH → Prop} (H : F_X0_compareValues_8 d v1 v2 h u Q) : T u_X0_compareValues (d + 1) 8 [none, some (jR v1), some (jR v2), none, none] [] h u (qI Q) := by
  unfold F_X0_compareValues_8 at H
  refine T_aload_n (pc := 8) dX0_compareValues_8 rfl rfl ?_
  refine T_ifnull (pc := 9) (tgt := 16) dX0_compareValues_9 (by decide) (fun ho => ?_) (fun n ho => ?_)
  · replace H := nl_n ho H
    refine T_iconst (pc := 16) (v := 0) dX0_compareValues_16 (by decide) ?_
    exact T.forget (E_X0_compareValues_17 H) ⟨rfl, trivial⟩
  · replace H := nl_s ho H
    refine T_iconst (pc := 12) (v := 1) dX0_compareValues_12 (by decide) ?_
    refine T_goto (pc := 13) (tgt := 17) dX0_compareValues_13 (by decide) ?_
    exact T.forget (E_X0_compareValues_17 H) ⟨rfl, trivial⟩
def F_X0_compareValues (d : Nat) (v0 : Option Nm) (v1 : Option Nm) (v2 : Option Nm) (h : MH) (u : Nat) (Q : Int32 → MH → Prop) : Prop :=
  nl v1 (
    F_X0_compareValues_8 d v1 v2 h u Q) (
    nl v2 (
      F_X0_compareValues_8 d v1 v2 h u Q) (
      gR h v1 9 1 fun x1 =>
      gI h x1 3 0 fun x2 =>
      gR h v2 9 1 fun x3 =>
      gI h x3 3 0 fun x4 =>
      iI d u_X0_lesserFirst [jL (x2.toInt64), jL (x4.toInt64)] h u fun x5 h u =>
      if x5 = 0 then
        gR h v1 9 2 fun x6 =>
        gI h x6 2 0 fun x7 =>
        gR h v2 9 2 fun x8 =>
        gI h x8 2 0 fun x9 =>
        iI d u_X0_lesserFirst [jL (x7.toInt64), jL (x9.toInt64)] h u fun x10 h u =>
        if x10 = 0 then
          gR h v1 9 1 fun x11 =>
          gI h x11 3 1 fun x12 =>
          if x12 = 0 then
            rc h v0 0 ∧ iI d u_X0_compareParts [jR v0, jR v1, jR v2] h u fun x13 h u =>
            Q x13 h
          else
            gI h v1 9 3 fun x14 =>
            gI h v2 9 3 fun x15 =>
            iI d u_X0_lesserFirst [jL (x14.toInt64), jL (x15.toInt64)] h u fun x16 h u =>
            Q x16 h
        else
          Q x10 h
      else
        Q x5 h))
set_option maxRecDepth 20000 in
theorem E_X0_compareValues {d : Nat} {v0 : Option Nm} {v1 : Option Nm} {v2 : Option Nm} {h : MH} {u : Nat} {Q : Int32 → MH → Prop} (H : F_X0_compareValues d v0 v1 v2 h u Q) : T u_X0_compareValues (d + 1) 0 [some (jR v0), some (jR v1), some (jR v2), none, none] [] h u (qI Q) := by
  unfold F_X0_compareValues at H
  refine T_aload_n (pc := 0) dX0_compareValues_0 rfl rfl ?_
  refine T_ifnull (pc := 1) (tgt := 8) dX0_compareValues_1 (by decide) (fun ho => ?_) (fun n ho => ?_)
  · replace H := nl_n ho H
    exact T.forget (E_X0_compareValues_8 H) ⟨rfl, rfl, trivial⟩
  · replace H := nl_s ho H
    refine T_aload_n (pc := 4) dX0_compareValues_4 rfl rfl ?_
    refine T_ifnonnull (pc := 5) (tgt := 30) dX0_compareValues_5 (by decide) (fun ho => ?_) (fun n ho => ?_)
    · replace H := nl_n ho H
      exact T.forget (E_X0_compareValues_8 H) ⟨rfl, rfl, trivial⟩
    · replace H := nl_s ho H
      refine T_aload_n (pc := 30) dX0_compareValues_30 rfl rfl ?_
      refine T_gR (pc := 31) fa_X0_17 dX0_compareValues_31 (gR_mono (fun x1 H => ?_) H)
      refine T_gI (pc := 34) fa_X0_23 dX0_compareValues_34 (gI_mono (fun x2 H => ?_) H)
      refine T_i2l (pc := 37) dX0_compareValues_37 ?_
      refine T_aload_n (pc := 38) dX0_compareValues_38 rfl rfl ?_
      refine T_gR (pc := 39) fa_X0_17 dX0_compareValues_39 (gR_mono (fun x3 H => ?_) H)
      refine T_gI (pc := 42) fa_X0_23 dX0_compareValues_42 (gI_mono (fun x4 H => ?_) H)
      refine T_i2l (pc := 45) dX0_compareValues_45 ?_
      refine T_invS (pc := 46) (av := [jL (x2.toInt64), jL (x4.toInt64)]) (rest := []) dX0_compareValues_46 mf_X0_lesserFirst c_4_31 c_4_32 rfl (Nat.le_of_ble_eq_true rfl) rfl (iI_k (iI_mono (fun x5 h u H => ?_) H))
      refine T_istore_n (pc := 49) (ls2 := [some (jR v0), some (jR v1), some (jR v2), some (jI x5), none]) dX0_compareValues_49 rfl (Nat.le_of_ble_eq_true rfl) rfl ?_
      refine T_iload_n (pc := 50) dX0_compareValues_50 rfl rfl ?_
      refine T_if_eq (pc := 51) (tgt := 56) dX0_compareValues_51 (by decide) (fun hc => ?_) (fun hc => ?_)
      · rw [if_pos hc] at H
        refine T_aload_n (pc := 56) dX0_compareValues_56 rfl rfl ?_
        refine T_gR (pc := 57) fa_X0_33 dX0_compareValues_57 (gR_mono (fun x6 H => ?_) H)
        refine T_gI (pc := 60) fa_X0_37 dX0_compareValues_60 (gI_mono (fun x7 H => ?_) H)
        refine T_i2l (pc := 63) dX0_compareValues_63 ?_
        refine T_aload_n (pc := 64) dX0_compareValues_64 rfl rfl ?_
        refine T_gR (pc := 65) fa_X0_33 dX0_compareValues_65 (gR_mono (fun x8 H => ?_) H)
        refine T_gI (pc := 68) fa_X0_37 dX0_compareValues_68 (gI_mono (fun x9 H => ?_) H)
        refine T_i2l (pc := 71) dX0_compareValues_71 ?_
        refine T_invS (pc := 72) (av := [jL (x7.toInt64), jL (x9.toInt64)]) (rest := []) dX0_compareValues_72 mf_X0_lesserFirst c_4_31 c_4_32 rfl (Nat.le_of_ble_eq_true rfl) rfl (iI_k (iI_mono (fun x10 h u H => ?_) H))
        refine T_istore (pc := 75) (ls2 := [some (jR v0), some (jR v1), some (jR v2), some (jI x5), some (jI x10)]) dX0_compareValues_75 (Nat.le_of_ble_eq_true rfl) rfl ?_
        refine T_iload (pc := 77) dX0_compareValues_77 rfl ?_
        refine T_if_eq (pc := 79) (tgt := 85) dX0_compareValues_79 (by decide) (fun hc => ?_) (fun hc => ?_)
        · rw [if_pos hc] at H
          refine T_aload_n (pc := 85) dX0_compareValues_85 rfl rfl ?_
          refine T_gR (pc := 86) fa_X0_17 dX0_compareValues_86 (gR_mono (fun x11 H => ?_) H)
          refine T_gI (pc := 89) fa_X0_40 dX0_compareValues_89 (gI_mono (fun x12 H => ?_) H)
          refine T_if_eq (pc := 92) (tgt := 111) dX0_compareValues_92 (by decide) (fun hc => ?_) (fun hc => ?_)
          · rw [if_pos hc] at H
            refine T_aload_n (pc := 111) dX0_compareValues_111 rfl rfl ?_
            refine T_aload_n (pc := 112) dX0_compareValues_112 rfl rfl ?_
            refine T_aload_n (pc := 113) dX0_compareValues_113 rfl rfl ?_
            obtain ⟨H0, H⟩ := H
            refine T_iV (pc := 114) (ci := 0) (av := [jR v1, jR v2]) (rest := []) (o := v0) dX0_compareValues_114 mf_X0_compareParts c_4_34 c_4_36 pr_X0_compareParts rfl rfl (Nat.le_of_ble_eq_true rfl) rfl H0 (iI_k (iI_mono (fun x13 h u H => ?_) H))
            exact T_ireturn (pc := 117) rfl rfl dX0_compareValues_117 H
          · rw [if_neg hc] at H
            refine T_aload_n (pc := 95) dX0_compareValues_95 rfl rfl ?_
            refine T_gI (pc := 96) fa_X0_44 dX0_compareValues_96 (gI_mono (fun x14 H => ?_) H)
            refine T_i2l (pc := 99) dX0_compareValues_99 ?_
            refine T_aload_n (pc := 100) dX0_compareValues_100 rfl rfl ?_
            refine T_gI (pc := 101) fa_X0_44 dX0_compareValues_101 (gI_mono (fun x15 H => ?_) H)
            refine T_i2l (pc := 104) dX0_compareValues_104 ?_
            refine T_invS (pc := 105) (av := [jL (x14.toInt64), jL (x15.toInt64)]) (rest := []) dX0_compareValues_105 mf_X0_lesserFirst c_4_31 c_4_32 rfl (Nat.le_of_ble_eq_true rfl) rfl (iI_k (iI_mono (fun x16 h u H => ?_) H))
            refine T_goto (pc := 108) (tgt := 117) dX0_compareValues_108 (by decide) ?_
            exact T_ireturn (pc := 117) rfl rfl dX0_compareValues_117 H
        · rw [if_neg hc] at H
          refine T_iload (pc := 82) dX0_compareValues_82 rfl ?_
          exact T_ireturn (pc := 84) rfl rfl dX0_compareValues_84 H
      · rw [if_neg hc] at H
        refine T_iload_n (pc := 54) dX0_compareValues_54 rfl rfl ?_
        exact T_ireturn (pc := 55) rfl rfl dX0_compareValues_55 H
theorem I_X0_compareValues {d : Nat} {v0 : Option Nm} {v1 : Option Nm} {v2 : Option Nm} {h : MH} {u : Nat} {K : Int32 → MH → Nat → Prop} (u1 : Nat) (hu : u1 ≤ u) (H : F_X0_compareValues d v0 v1 v2 h u1 (fun x h2 => K x h2 (u - u1))) : iI (d + 1) u_X0_compareValues [jR v0, jR v1, jR v2] h u K := inv.of u1 hu (Ct.of (by decide +kernel) rfl (Nat.le_of_ble_eq_true rfl) rfl (E_X0_compareValues H))
theorem dX0_hashValue_0 : decode cX0_hashValue 0 = .ok (.aload_n 1, 1) := by decide +kernel
theorem dX0_hashValue_1 : decode cX0_hashValue 1 = .ok (.ifnonnull 5, 3) := by decide +kernel
theorem dX0_hashValue_4 : decode cX0_hashValue 4 = .ok (.iconst 0, 1) := by decide +kernel
theorem dX0_hashValue_5 : decode cX0_hashValue 5 = .ok (.ireturn, 1) := by decide +kernel
theorem dX0_hashValue_6 : decode cX0_hashValue 6 = .ok (.aload_n 1, 1) := by decide +kernel
theorem dX0_hashValue_7 : decode cX0_hashValue 7 = .ok (.getfield 17, 3) := by decide +kernel
theorem dX0_hashValue_10 : decode cX0_hashValue 10 = .ok (.getfield 40, 3) := by decide +kernel
theorem dX0_hashValue_13 : decode cX0_hashValue 13 = .ok (.ifCond .eq 19, 3) := by decide +kernel
theorem dX0_hashValue_16 : decode cX0_hashValue 16 = .ok (.bipush 7, 2) := by decide +kernel
theorem dX0_hashValue_18 : decode cX0_hashValue 18 = .ok (.aload_n 1, 1) := by decide +kernel
theorem dX0_hashValue_19 : decode cX0_hashValue 19 = .ok (.getfield 17, 3) := by decide +kernel
theorem dX0_hashValue_22 : decode cX0_hashValue 22 = .ok (.getfield 23, 3) := by decide +kernel
theorem dX0_hashValue_25 : decode cX0_hashValue 25 = .ok (.imul, 1) := by decide +kernel
theorem dX0_hashValue_26 : decode cX0_hashValue 26 = .ok (.aload_n 1, 1) := by decide +kernel
theorem dX0_hashValue_27 : decode cX0_hashValue 27 = .ok (.getfield 44, 3) := by decide +kernel
theorem dX0_hashValue_30 : decode cX0_hashValue 30 = .ok (.iadd, 1) := by decide +kernel
theorem dX0_hashValue_31 : decode cX0_hashValue 31 = .ok (.ireturn, 1) := by decide +kernel
theorem dX0_hashValue_32 : decode cX0_hashValue 32 = .ok (.aload_n 1, 1) := by decide +kernel
theorem dX0_hashValue_33 : decode cX0_hashValue 33 = .ok (.getfield 17, 3) := by decide +kernel
theorem dX0_hashValue_36 : decode cX0_hashValue 36 = .ok (.getfield 23, 3) := by decide +kernel
theorem dX0_hashValue_39 : decode cX0_hashValue 39 = .ok (.istore_n 2, 1) := by decide +kernel
theorem dX0_hashValue_40 : decode cX0_hashValue 40 = .ok (.iconst 0, 1) := by decide +kernel
theorem dX0_hashValue_41 : decode cX0_hashValue 41 = .ok (.istore_n 3, 1) := by decide +kernel
theorem dX0_hashValue_42 : decode cX0_hashValue 42 = .ok (.iload_n 3, 1) := by decide +kernel
theorem dX0_hashValue_43 : decode cX0_hashValue 43 = .ok (.aload_n 1, 1) := by decide +kernel
theorem dX0_hashValue_44 : decode cX0_hashValue 44 = .ok (.getfield 51, 3) := by decide +kernel
theorem dX0_hashValue_47 : decode cX0_hashValue 47 = .ok (.arraylength, 1) := by decide +kernel
theorem dX0_hashValue_48 : decode cX0_hashValue 48 = .ok (.if_icmp .ge 34, 3) := by decide +kernel
theorem dX0_hashValue_51 : decode cX0_hashValue 51 = .ok (.bipush 31, 2) := by decide +kernel
theorem dX0_hashValue_53 : decode cX0_hashValue 53 = .ok (.iload_n 2, 1) := by decide +kernel
theorem dX0_hashValue_54 : decode cX0_hashValue 54 = .ok (.imul, 1) := by decide +kernel
theorem dX0_hashValue_55 : decode cX0_hashValue 55 = .ok (.aload_n 0, 1) := by decide +kernel
theorem dX0_hashValue_56 : decode cX0_hashValue 56 = .ok (.aload_n 1, 1) := by decide +kernel
theorem dX0_hashValue_57 : decode cX0_hashValue 57 = .ok (.getfield 33, 3) := by decide +kernel
theorem dX0_hashValue_60 : decode cX0_hashValue 60 = .ok (.getfield 55, 3) := by decide +kernel
theorem dX0_hashValue_63 : decode cX0_hashValue 63 = .ok (.iload_n 3, 1) := by decide +kernel
theorem dX0_hashValue_64 : decode cX0_hashValue 64 = .ok (.iaload, 1) := by decide +kernel
theorem dX0_hashValue_65 : decode cX0_hashValue 65 = .ok (.aload_n 1, 1) := by decide +kernel
theorem dX0_hashValue_66 : decode cX0_hashValue 66 = .ok (.getfield 51, 3) := by decide +kernel
theorem dX0_hashValue_69 : decode cX0_hashValue 69 = .ok (.iload_n 3, 1) := by decide +kernel
theorem dX0_hashValue_70 : decode cX0_hashValue 70 = .ok (.laload, 1) := by decide +kernel
theorem dX0_hashValue_71 : decode cX0_hashValue 71 = .ok (.invokevirtual 59, 3) := by decide +kernel
theorem dX0_hashValue_74 : decode cX0_hashValue 74 = .ok (.iadd, 1) := by decide +kernel
theorem dX0_hashValue_75 : decode cX0_hashValue 75 = .ok (.istore_n 2, 1) := by decide +kernel
theorem dX0_hashValue_76 : decode cX0_hashValue 76 = .ok (.iinc 3 1, 3) := by decide +kernel
theorem dX0_hashValue_79 : decode cX0_hashValue 79 = .ok (.goto (-37), 3) := by decide +kernel
theorem dX0_hashValue_82 : decode cX0_hashValue 82 = .ok (.iload_n 2, 1) := by decide +kernel
theorem dX0_hashValue_83 : decode cX0_hashValue 83 = .ok (.ireturn, 1) := by decide +kernel
def L_X0_hashValue_42 (d : Nat) (v0 : Option Nm) (v1 : Option Nm) (v2 : Int32) (v3 : Int32) (h : MH) (u : Nat) (Q : Int32 → MH → Prop) : Prop := T u_X0_hashValue (d + 1) 42 [some (jR v0), some (jR v1), some (jI v2), some (jI v3)] [] h u (qI Q)
def F_X0_hashValue (d : Nat) (v0 : Option Nm) (v1 : Option Nm) (h : MH) (u : Nat) (Q : Int32 → MH → Prop) : Prop :=
  nl v1 (
    Q 0 h) (
    gR h v1 9 1 fun x1 =>
    gI h x1 3 1 fun x2 =>
    if x2 = 0 then
      gR h v1 9 1 fun x3 =>
      gI h x3 3 0 fun x4 =>
      L_X0_hashValue_42 d v0 v1 x4 0 h u Q
    else
      gR h v1 9 1 fun x5 =>
      gI h x5 3 0 fun x6 =>
      gI h v1 9 3 fun x7 =>
      Q ((7 * x6) + x7) h)
set_option maxRecDepth 20000 in
theorem E_X0_hashValue {d : Nat} {v0 : Option Nm} {v1 : Option Nm} {h : MH} {u : Nat} {Q : Int32 → MH → Prop} (H : F_X0_hashValue d v0 v1 h u Q) : T u_X0_hashValue (d + 1) 0 [some (jR v0), some (jR v1), none, none] [] h u (qI Q) := by
  unfold F_X0_hashValue at H
  refine T_aload_n (pc := 0) dX0_hashValue_0 rfl rfl ?_
  refine T_ifnonnull (pc := 1) (tgt := 6) dX0_hashValue_1 (by decide) (fun ho => ?_) (fun n ho => ?_)
  · replace H := nl_n ho H
    refine T_iconst (pc := 4) (v := 0) dX0_hashValue_4 (by decide) ?_
    exact T_ireturn (pc := 5) rfl rfl dX0_hashValue_5 H
  · replace H := nl_s ho H
    refine T_aload_n (pc := 6) dX0_hashValue_6 rfl rfl ?_
    refine T_gR (pc := 7) fa_X0_17 dX0_hashValue_7 (gR_mono (fun x1 H => ?_) H)
    refine T_gI (pc := 10) fa_X0_40 dX0_hashValue_10 (gI_mono (fun x2 H => ?_) H)
    refine T_if_eq (pc := 13) (tgt := 32) dX0_hashValue_13 (by decide) (fun hc => ?_) (fun hc => ?_)
    · rw [if_pos hc] at H
      refine T_aload_n (pc := 32) dX0_hashValue_32 rfl rfl ?_
      refine T_gR (pc := 33) fa_X0_17 dX0_hashValue_33 (gR_mono (fun x3 H => ?_) H)
      refine T_gI (pc := 36) fa_X0_23 dX0_hashValue_36 (gI_mono (fun x4 H => ?_) H)
      refine T_istore_n (pc := 39) (ls2 := [some (jR v0), some (jR v1), some (jI x4), none]) dX0_hashValue_39 rfl (Nat.le_of_ble_eq_true rfl) rfl ?_
      refine T_iconst (pc := 40) (v := 0) dX0_hashValue_40 (by decide) ?_
      refine T_istore_n (pc := 41) (ls2 := [some (jR v0), some (jR v1), some (jI x4), some (jI 0)]) dX0_hashValue_41 rfl (Nat.le_of_ble_eq_true rfl) rfl ?_
      exact T.forget H ⟨rfl, rfl, rfl, rfl, trivial⟩
    · rw [if_neg hc] at H
      refine T_bipush (pc := 16) (v := 7) dX0_hashValue_16 (by decide) ?_
      refine T_aload_n (pc := 18) dX0_hashValue_18 rfl rfl ?_
      refine T_gR (pc := 19) fa_X0_17 dX0_hashValue_19 (gR_mono (fun x5 H => ?_) H)
      refine T_gI (pc := 22) fa_X0_23 dX0_hashValue_22 (gI_mono (fun x6 H => ?_) H)
      refine T_imul (pc := 25) dX0_hashValue_25 ?_
      refine T_aload_n (pc := 26) dX0_hashValue_26 rfl rfl ?_
      refine T_gI (pc := 27) fa_X0_44 dX0_hashValue_27 (gI_mono (fun x7 H => ?_) H)
      refine T_iadd (pc := 30) dX0_hashValue_30 ?_
      exact T_ireturn (pc := 31) rfl rfl dX0_hashValue_31 H
def F_X0_hashValue_42 (d : Nat) (v0 : Option Nm) (v1 : Option Nm) (v2 : Int32) (v3 : Int32) (h : MH) (u : Nat) (Q : Int32 → MH → Prop) : Prop :=
  gR h v1 9 5 fun x1 =>
  aN h x1 fun x2 =>
  if x2 ≤ v3 then
    Q v2 h
  else
    gR h v1 9 2 fun x3 =>
    gR h x3 2 2 fun x4 =>
    aI .int h x4 v3 fun x5 =>
    gR h v1 9 5 fun x6 =>
    aL h x6 v3 fun x7 =>
    rc h v0 0 ∧ iI d u_X0_hashAny [jR v0, jI x5, jL x7] h u fun x8 h u =>
    L_X0_hashValue_42 d v0 v1 ((31 * v2) + x8) (v3 + 1) h u Q
set_option maxRecDepth 20000 in
theorem E_X0_hashValue_42 {d : Nat} {v0 : Option Nm} {v1 : Option Nm} {v2 : Int32} {v3 : Int32} {h : MH} {u : Nat} {Q : Int32 → MH → Prop} (H : F_X0_hashValue_42 d v0 v1 v2 v3 h u Q) : T u_X0_hashValue (d + 1) 42 [some (jR v0), some (jR v1), some (jI v2), some (jI v3)] [] h u (qI Q) := by
  unfold F_X0_hashValue_42 at H
  refine T_iload_n (pc := 42) dX0_hashValue_42 rfl rfl ?_
  refine T_aload_n (pc := 43) dX0_hashValue_43 rfl rfl ?_
  refine T_gR (pc := 44) fa_X0_51 dX0_hashValue_44 (gR_mono (fun x1 H => ?_) H)
  refine T_aN (pc := 47) dX0_hashValue_47 (aN_mono (fun x2 H => ?_) H)
  refine T_icmp_ge (pc := 48) (tgt := 82) dX0_hashValue_48 (by decide) (fun hc => ?_) (fun hc => ?_)
  · rw [if_pos hc] at H
    refine T_iload_n (pc := 82) dX0_hashValue_82 rfl rfl ?_
    exact T_ireturn (pc := 83) rfl rfl dX0_hashValue_83 H
  · rw [if_neg hc] at H
    refine T_bipush (pc := 51) (v := 31) dX0_hashValue_51 (by decide) ?_
    refine T_iload_n (pc := 53) dX0_hashValue_53 rfl rfl ?_
    refine T_imul (pc := 54) dX0_hashValue_54 ?_
    refine T_aload_n (pc := 55) dX0_hashValue_55 rfl rfl ?_
    refine T_aload_n (pc := 56) dX0_hashValue_56 rfl rfl ?_
    refine T_gR (pc := 57) fa_X0_33 dX0_hashValue_57 (gR_mono (fun x3 H => ?_) H)
    refine T_gR (pc := 60) fa_X0_55 dX0_hashValue_60 (gR_mono (fun x4 H => ?_) H)
    refine T_iload_n (pc := 63) dX0_hashValue_63 rfl rfl ?_
    refine T_aI (pc := 64) dX0_hashValue_64 (aI_mono (fun x5 H => ?_) H)
    refine T_aload_n (pc := 65) dX0_hashValue_65 rfl rfl ?_
    refine T_gR (pc := 66) fa_X0_51 dX0_hashValue_66 (gR_mono (fun x6 H => ?_) H)
    refine T_iload_n (pc := 69) dX0_hashValue_69 rfl rfl ?_
    refine T_aL (pc := 70) dX0_hashValue_70 (aL_mono (fun x7 H => ?_) H)
    obtain ⟨H0, H⟩ := H
    refine T_iV (pc := 71) (ci := 0) (av := [jI x5, jL x7]) (rest := [jI (31 * v2)]) (o := v0) dX0_hashValue_71 mf_X0_hashAny c_4_65 c_4_67 pr_X0_hashAny rfl rfl (Nat.le_of_ble_eq_true rfl) rfl H0 (iI_k (iI_mono (fun x8 h u H => ?_) H))
    refine T_iadd (pc := 74) dX0_hashValue_74 ?_
    refine T_istore_n (pc := 75) (ls2 := [some (jR v0), some (jR v1), some (jI ((31 * v2) + x8)), some (jI v3)]) dX0_hashValue_75 rfl (Nat.le_of_ble_eq_true rfl) rfl ?_
    refine T_iinc (pc := 76) (v := v3 + 1) (ls2 := [some (jR v0), some (jR v1), some (jI ((31 * v2) + x8)), some (jI (v3 + 1))]) dX0_hashValue_76 rfl rfl (Nat.le_of_ble_eq_true rfl) rfl ?_
    refine T_goto (pc := 79) (tgt := 42) dX0_hashValue_79 (by decide) ?_
    exact T.forget H ⟨rfl, rfl, rfl, rfl, trivial⟩
theorem I_X0_hashValue {d : Nat} {v0 : Option Nm} {v1 : Option Nm} {h : MH} {u : Nat} {K : Int32 → MH → Nat → Prop} (u1 : Nat) (hu : u1 ≤ u) (H : F_X0_hashValue d v0 v1 h u1 (fun x h2 => K x h2 (u - u1))) : iI (d + 1) u_X0_hashValue [jR v0, jR v1] h u K := inv.of u1 hu (Ct.of (by decide +kernel) rfl (Nat.le_of_ble_eq_true rfl) rfl (E_X0_hashValue H))
theorem dX0_compareParts_0 : decode cX0_compareParts 0 = .ok (.iconst 0, 1) := by decide +kernel
theorem dX0_compareParts_1 : decode cX0_compareParts 1 = .ok (.istore_n 3, 1) := by decide +kernel
theorem dX0_compareParts_2 : decode cX0_compareParts 2 = .ok (.iload_n 3, 1) := by decide +kernel
theorem dX0_compareParts_3 : decode cX0_compareParts 3 = .ok (.aload_n 1, 1) := by decide +kernel
theorem dX0_compareParts_4 : decode cX0_compareParts 4 = .ok (.getfield 51, 3) := by decide +kernel
theorem dX0_compareParts_7 : decode cX0_compareParts 7 = .ok (.arraylength, 1) := by decide +kernel
theorem dX0_compareParts_8 : decode cX0_compareParts 8 = .ok (.if_icmp .ge 53, 3) := by decide +kernel
theorem dX0_compareParts_11 : decode cX0_compareParts 11 = .ok (.iload_n 3, 1) := by decide +kernel
theorem dX0_compareParts_12 : decode cX0_compareParts 12 = .ok (.aload_n 2, 1) := by decide +kernel
theorem dX0_compareParts_13 : decode cX0_compareParts 13 = .ok (.getfield 51, 3) := by decide +kernel
theorem dX0_compareParts_16 : decode cX0_compareParts 16 = .ok (.arraylength, 1) := by decide +kernel
theorem dX0_compareParts_17 : decode cX0_compareParts 17 = .ok (.if_icmp .ge 44, 3) := by decide +kernel
theorem dX0_compareParts_20 : decode cX0_compareParts 20 = .ok (.aload_n 0, 1) := by decide +kernel
theorem dX0_compareParts_21 : decode cX0_compareParts 21 = .ok (.aload_n 1, 1) := by decide +kernel
theorem dX0_compareParts_22 : decode cX0_compareParts 22 = .ok (.getfield 33, 3) := by decide +kernel
theorem dX0_compareParts_25 : decode cX0_compareParts 25 = .ok (.getfield 55, 3) := by decide +kernel
theorem dX0_compareParts_28 : decode cX0_compareParts 28 = .ok (.iload_n 3, 1) := by decide +kernel
theorem dX0_compareParts_29 : decode cX0_compareParts 29 = .ok (.iaload, 1) := by decide +kernel
theorem dX0_compareParts_30 : decode cX0_compareParts 30 = .ok (.aload_n 1, 1) := by decide +kernel
theorem dX0_compareParts_31 : decode cX0_compareParts 31 = .ok (.getfield 51, 3) := by decide +kernel
theorem dX0_compareParts_34 : decode cX0_compareParts 34 = .ok (.iload_n 3, 1) := by decide +kernel
theorem dX0_compareParts_35 : decode cX0_compareParts 35 = .ok (.laload, 1) := by decide +kernel
theorem dX0_compareParts_36 : decode cX0_compareParts 36 = .ok (.aload_n 2, 1) := by decide +kernel
theorem dX0_compareParts_37 : decode cX0_compareParts 37 = .ok (.getfield 51, 3) := by decide +kernel
theorem dX0_compareParts_40 : decode cX0_compareParts 40 = .ok (.iload_n 3, 1) := by decide +kernel
theorem dX0_compareParts_41 : decode cX0_compareParts 41 = .ok (.laload, 1) := by decide +kernel
theorem dX0_compareParts_42 : decode cX0_compareParts 42 = .ok (.invokevirtual 63, 3) := by decide +kernel
theorem dX0_compareParts_45 : decode cX0_compareParts 45 = .ok (.istore 4, 2) := by decide +kernel
theorem dX0_compareParts_47 : decode cX0_compareParts 47 = .ok (.iload 4, 2) := by decide +kernel
theorem dX0_compareParts_49 : decode cX0_compareParts 49 = .ok (.ifCond .eq 6, 3) := by decide +kernel
theorem dX0_compareParts_52 : decode cX0_compareParts 52 = .ok (.iload 4, 2) := by decide +kernel
theorem dX0_compareParts_54 : decode cX0_compareParts 54 = .ok (.ireturn, 1) := by decide +kernel
theorem dX0_compareParts_55 : decode cX0_compareParts 55 = .ok (.iinc 3 1, 3) := by decide +kernel
theorem dX0_compareParts_58 : decode cX0_compareParts 58 = .ok (.goto (-56), 3) := by decide +kernel
theorem dX0_compareParts_61 : decode cX0_compareParts 61 = .ok (.iconst 0, 1) := by decide +kernel
theorem dX0_compareParts_62 : decode cX0_compareParts 62 = .ok (.ireturn, 1) := by decide +kernel
def L_X0_compareParts_2 (d : Nat) (v0 : Option Nm) (v1 : Option Nm) (v2 : Option Nm) (v3 : Int32) (h : MH) (u : Nat) (Q : Int32 → MH → Prop) : Prop := T u_X0_compareParts (d + 1) 2 [some (jR v0), some (jR v1), some (jR v2), some (jI v3), none] [] h u (qI Q)
def F_X0_compareParts (d : Nat) (v0 : Option Nm) (v1 : Option Nm) (v2 : Option Nm) (h : MH) (u : Nat) (Q : Int32 → MH → Prop) : Prop :=
  L_X0_compareParts_2 d v0 v1 v2 0 h u Q
set_option maxRecDepth 20000 in
theorem E_X0_compareParts {d : Nat} {v0 : Option Nm} {v1 : Option Nm} {v2 : Option Nm} {h : MH} {u : Nat} {Q : Int32 → MH → Prop} (H : F_X0_compareParts d v0 v1 v2 h u Q) : T u_X0_compareParts (d + 1) 0 [some (jR v0), some (jR v1), some (jR v2), none, none] [] h u (qI Q) := by
  unfold F_X0_compareParts at H
  refine T_iconst (pc := 0) (v := 0) dX0_compareParts_0 (by decide) ?_
  refine T_istore_n (pc := 1) (ls2 := [some (jR v0), some (jR v1), some (jR v2), some (jI 0), none]) dX0_compareParts_1 rfl (Nat.le_of_ble_eq_true rfl) rfl ?_
  exact T.forget H ⟨rfl, rfl, rfl, rfl, trivial⟩
def F_X0_compareParts_2 (d : Nat) (v0 : Option Nm) (v1 : Option Nm) (v2 : Option Nm) (v3 : Int32) (h : MH) (u : Nat) (Q : Int32 → MH → Prop) : Prop :=
  gR h v1 9 5 fun x1 =>
  aN h x1 fun x2 =>
  if x2 ≤ v3 then
    Q 0 h
  else
    gR h v2 9 5 fun x3 =>
    aN h x3 fun x4 =>
    if x4 ≤ v3 then
      Q 0 h
    else
      gR h v1 9 2 fun x5 =>
      gR h x5 2 2 fun x6 =>
      aI .int h x6 v3 fun x7 =>
      gR h v1 9 5 fun x8 =>
      aL h x8 v3 fun x9 =>
      gR h v2 9 5 fun x10 =>
      aL h x10 v3 fun x11 =>
      rc h v0 0 ∧ iI d u_X0_compareAny [jR v0, jI x7, jL x9, jL x11] h u fun x12 h u =>
      if x12 = 0 then
        L_X0_compareParts_2 d v0 v1 v2 (v3 + 1) h u Q
      else
        Q x12 h
set_option maxRecDepth 20000 in
theorem E_X0_compareParts_2 {d : Nat} {v0 : Option Nm} {v1 : Option Nm} {v2 : Option Nm} {v3 : Int32} {h : MH} {u : Nat} {Q : Int32 → MH → Prop} (H : F_X0_compareParts_2 d v0 v1 v2 v3 h u Q) : T u_X0_compareParts (d + 1) 2 [some (jR v0), some (jR v1), some (jR v2), some (jI v3), none] [] h u (qI Q) := by
  unfold F_X0_compareParts_2 at H
  refine T_iload_n (pc := 2) dX0_compareParts_2 rfl rfl ?_
  refine T_aload_n (pc := 3) dX0_compareParts_3 rfl rfl ?_
  refine T_gR (pc := 4) fa_X0_51 dX0_compareParts_4 (gR_mono (fun x1 H => ?_) H)
  refine T_aN (pc := 7) dX0_compareParts_7 (aN_mono (fun x2 H => ?_) H)
  refine T_icmp_ge (pc := 8) (tgt := 61) dX0_compareParts_8 (by decide) (fun hc => ?_) (fun hc => ?_)
  · rw [if_pos hc] at H
    refine T_iconst (pc := 61) (v := 0) dX0_compareParts_61 (by decide) ?_
    exact T_ireturn (pc := 62) rfl rfl dX0_compareParts_62 H
  · rw [if_neg hc] at H
    refine T_iload_n (pc := 11) dX0_compareParts_11 rfl rfl ?_
    refine T_aload_n (pc := 12) dX0_compareParts_12 rfl rfl ?_
    refine T_gR (pc := 13) fa_X0_51 dX0_compareParts_13 (gR_mono (fun x3 H => ?_) H)
    refine T_aN (pc := 16) dX0_compareParts_16 (aN_mono (fun x4 H => ?_) H)
    refine T_icmp_ge (pc := 17) (tgt := 61) dX0_compareParts_17 (by decide) (fun hc => ?_) (fun hc => ?_)
    · rw [if_pos hc] at H
      refine T_iconst (pc := 61) (v := 0) dX0_compareParts_61 (by decide) ?_
      exact T_ireturn (pc := 62) rfl rfl dX0_compareParts_62 H
    · rw [if_neg hc] at H
      refine T_aload_n (pc := 20) dX0_compareParts_20 rfl rfl ?_
      refine T_aload_n (pc := 21) dX0_compareParts_21 rfl rfl ?_
      refine T_gR (pc := 22) fa_X0_33 dX0_compareParts_22 (gR_mono (fun x5 H => ?_) H)
      refine T_gR (pc := 25) fa_X0_55 dX0_compareParts_25 (gR_mono (fun x6 H => ?_) H)
      refine T_iload_n (pc := 28) dX0_compareParts_28 rfl rfl ?_
      refine T_aI (pc := 29) dX0_compareParts_29 (aI_mono (fun x7 H => ?_) H)
      refine T_aload_n (pc := 30) dX0_compareParts_30 rfl rfl ?_
      refine T_gR (pc := 31) fa_X0_51 dX0_compareParts_31 (gR_mono (fun x8 H => ?_) H)
      refine T_iload_n (pc := 34) dX0_compareParts_34 rfl rfl ?_
      refine T_aL (pc := 35) dX0_compareParts_35 (aL_mono (fun x9 H => ?_) H)
      refine T_aload_n (pc := 36) dX0_compareParts_36 rfl rfl ?_
      refine T_gR (pc := 37) fa_X0_51 dX0_compareParts_37 (gR_mono (fun x10 H => ?_) H)
      refine T_iload_n (pc := 40) dX0_compareParts_40 rfl rfl ?_
      refine T_aL (pc := 41) dX0_compareParts_41 (aL_mono (fun x11 H => ?_) H)
      obtain ⟨H0, H⟩ := H
      refine T_iV (pc := 42) (ci := 0) (av := [jI x7, jL x9, jL x11]) (rest := []) (o := v0) dX0_compareParts_42 mf_X0_compareAny c_4_38 c_4_40 pr_X0_compareAny rfl rfl (Nat.le_of_ble_eq_true rfl) rfl H0 (iI_k (iI_mono (fun x12 h u H => ?_) H))
      refine T_istore (pc := 45) (ls2 := [some (jR v0), some (jR v1), some (jR v2), some (jI v3), some (jI x12)]) dX0_compareParts_45 (Nat.le_of_ble_eq_true rfl) rfl ?_
      refine T_iload (pc := 47) dX0_compareParts_47 rfl ?_
      refine T_if_eq (pc := 49) (tgt := 55) dX0_compareParts_49 (by decide) (fun hc => ?_) (fun hc => ?_)
      · rw [if_pos hc] at H
        refine T_iinc (pc := 55) (v := v3 + 1) (ls2 := [some (jR v0), some (jR v1), some (jR v2), some (jI (v3 + 1)), some (jI x12)]) dX0_compareParts_55 rfl rfl (Nat.le_of_ble_eq_true rfl) rfl ?_
        refine T_goto (pc := 58) (tgt := 2) dX0_compareParts_58 (by decide) ?_
        exact T.forget H ⟨rfl, rfl, rfl, rfl, trivial⟩
      · rw [if_neg hc] at H
        refine T_iload (pc := 52) dX0_compareParts_52 rfl ?_
        exact T_ireturn (pc := 54) rfl rfl dX0_compareParts_54 H
theorem I_X0_compareParts {d : Nat} {v0 : Option Nm} {v1 : Option Nm} {v2 : Option Nm} {h : MH} {u : Nat} {K : Int32 → MH → Nat → Prop} (u1 : Nat) (hu : u1 ≤ u) (H : F_X0_compareParts d v0 v1 v2 h u1 (fun x h2 => K x h2 (u - u1))) : iI (d + 1) u_X0_compareParts [jR v0, jR v1, jR v2] h u K := inv.of u1 hu (Ct.of (by decide +kernel) rfl (Nat.le_of_ble_eq_true rfl) rfl (E_X0_compareParts H))
theorem dX0_compareAny_0 : decode cX0_compareAny 0 = .ok (.iload_n 1, 1) := by decide +kernel
theorem dX0_compareAny_1 : decode cX0_compareAny 1 = .ok (.bipush 8, 2) := by decide +kernel
theorem dX0_compareAny_3 : decode cX0_compareAny 3 = .ok (.if_icmp .ne 25, 3) := by decide +kernel
theorem dX0_compareAny_6 : decode cX0_compareAny 6 = .ok (.aload_n 0, 1) := by decide +kernel
theorem dX0_compareAny_7 : decode cX0_compareAny 7 = .ok (.aload_n 0, 1) := by decide +kernel
theorem dX0_compareAny_8 : decode cX0_compareAny 8 = .ok (.getfield 7, 3) := by decide +kernel
theorem dX0_compareAny_11 : decode cX0_compareAny 11 = .ok (.lload_n 2, 1) := by decide +kernel
theorem dX0_compareAny_12 : decode cX0_compareAny 12 = .ok (.invokevirtual 69, 3) := by decide +kernel
theorem dX0_compareAny_15 : decode cX0_compareAny 15 = .ok (.aload_n 0, 1) := by decide +kernel
theorem dX0_compareAny_16 : decode cX0_compareAny 16 = .ok (.getfield 7, 3) := by decide +kernel
theorem dX0_compareAny_19 : decode cX0_compareAny 19 = .ok (.lload 4, 2) := by decide +kernel
theorem dX0_compareAny_21 : decode cX0_compareAny 21 = .ok (.invokevirtual 69, 3) := by decide +kernel
theorem dX0_compareAny_24 : decode cX0_compareAny 24 = .ok (.invokevirtual 75, 3) := by decide +kernel
theorem dX0_compareAny_27 : decode cX0_compareAny 27 = .ok (.ireturn, 1) := by decide +kernel
theorem dX0_compareAny_28 : decode cX0_compareAny 28 = .ok (.iload_n 1, 1) := by decide +kernel
theorem dX0_compareAny_29 : decode cX0_compareAny 29 = .ok (.bipush 9, 2) := by decide +kernel
theorem dX0_compareAny_31 : decode cX0_compareAny 31 = .ok (.if_icmp .ne 25, 3) := by decide +kernel
theorem dX0_compareAny_34 : decode cX0_compareAny 34 = .ok (.aload_n 0, 1) := by decide +kernel
theorem dX0_compareAny_35 : decode cX0_compareAny 35 = .ok (.aload_n 0, 1) := by decide +kernel
theorem dX0_compareAny_36 : decode cX0_compareAny 36 = .ok (.getfield 7, 3) := by decide +kernel
theorem dX0_compareAny_39 : decode cX0_compareAny 39 = .ok (.lload_n 2, 1) := by decide +kernel
theorem dX0_compareAny_40 : decode cX0_compareAny 40 = .ok (.invokevirtual 78, 3) := by decide +kernel
theorem dX0_compareAny_43 : decode cX0_compareAny 43 = .ok (.aload_n 0, 1) := by decide +kernel
theorem dX0_compareAny_44 : decode cX0_compareAny 44 = .ok (.getfield 7, 3) := by decide +kernel
theorem dX0_compareAny_47 : decode cX0_compareAny 47 = .ok (.lload 4, 2) := by decide +kernel
theorem dX0_compareAny_49 : decode cX0_compareAny 49 = .ok (.invokevirtual 78, 3) := by decide +kernel
theorem dX0_compareAny_52 : decode cX0_compareAny 52 = .ok (.invokevirtual 82, 3) := by decide +kernel
theorem dX0_compareAny_55 : decode cX0_compareAny 55 = .ok (.ireturn, 1) := by decide +kernel
theorem dX0_compareAny_56 : decode cX0_compareAny 56 = .ok (.iload_n 1, 1) := by decide +kernel
theorem dX0_compareAny_57 : decode cX0_compareAny 57 = .ok (.lload_n 2, 1) := by decide +kernel
theorem dX0_compareAny_58 : decode cX0_compareAny 58 = .ok (.invokestatic 86, 3) := by decide +kernel
theorem dX0_compareAny_61 : decode cX0_compareAny 61 = .ok (.iload_n 1, 1) := by decide +kernel
theorem dX0_compareAny_62 : decode cX0_compareAny 62 = .ok (.lload 4, 2) := by decide +kernel
theorem dX0_compareAny_64 : decode cX0_compareAny 64 = .ok (.invokestatic 86, 3) := by decide +kernel
theorem dX0_compareAny_67 : decode cX0_compareAny 67 = .ok (.invokestatic 29, 3) := by decide +kernel
theorem dX0_compareAny_70 : decode cX0_compareAny 70 = .ok (.ireturn, 1) := by decide +kernel
def F_X0_compareAny (d : Nat) (v0 : Option Nm) (v1 : Int32) (v2 : Int64) (v4 : Int64) (h : MH) (u : Nat) (Q : Int32 → MH → Prop) : Prop :=
  if v1 = 8 then
    gR h v0 0 0 fun x9 =>
    rc h x9 6 ∧ iR d u_X7_findValue [jR x9, jL v2] h u fun x10 h u =>
    gR h v0 0 0 fun x11 =>
    rc h x11 6 ∧ iR d u_X7_findValue [jR x11, jL v4] h u fun x12 h u =>
    rc h v0 0 ∧ iI d u_X0_compareValues [jR v0, jR x10, jR x12] h u fun x13 h u =>
    Q x13 h
  else
    if v1 = 9 then
      gR h v0 0 0 fun x4 =>
      rc h x4 6 ∧ iR d u_X7_findRow [jR x4, jL v2] h u fun x5 h u =>
      gR h v0 0 0 fun x6 =>
      rc h x6 6 ∧ iR d u_X7_findRow [jR x6, jL v4] h u fun x7 h u =>
      rc h v0 0 ∧ iI d u_X0_compareRows [jR v0, jR x5, jR x7] h u fun x8 h u =>
      Q x8 h
    else
      iL d u_X4_rank [jI v1, jL v2] h u fun x1 h u =>
      iL d u_X4_rank [jI v1, jL v4] h u fun x2 h u =>
      iI d u_X0_lesserFirst [jL x1, jL x2] h u fun x3 h u =>
      Q x3 h
set_option maxRecDepth 20000 in
theorem E_X0_compareAny {d : Nat} {v0 : Option Nm} {v1 : Int32} {v2 : Int64} {v4 : Int64} {h : MH} {u : Nat} {Q : Int32 → MH → Prop} (H : F_X0_compareAny d v0 v1 v2 v4 h u Q) : T u_X0_compareAny (d + 1) 0 [some (jR v0), some (jI v1), some (jL v2), none, some (jL v4), none] [] h u (qI Q) := by
  unfold F_X0_compareAny at H
  refine T_iload_n (pc := 0) dX0_compareAny_0 rfl rfl ?_
  refine T_bipush (pc := 1) (v := 8) dX0_compareAny_1 (by decide) ?_
  refine T_icmp_ne (pc := 3) (tgt := 28) dX0_compareAny_3 (by decide) (fun hc => ?_) (fun hc => ?_)
  · rw [if_neg hc] at H
    refine T_iload_n (pc := 28) dX0_compareAny_28 rfl rfl ?_
    refine T_bipush (pc := 29) (v := 9) dX0_compareAny_29 (by decide) ?_
    refine T_icmp_ne (pc := 31) (tgt := 56) dX0_compareAny_31 (by decide) (fun hc => ?_) (fun hc => ?_)
    · rw [if_neg hc] at H
      refine T_iload_n (pc := 56) dX0_compareAny_56 rfl rfl ?_
      refine T_lload_n (pc := 57) dX0_compareAny_57 rfl rfl ?_
      refine T_invS (pc := 58) (av := [jI v1, jL v2]) (rest := []) dX0_compareAny_58 mf_X4_rank c_4_49 c_4_50 rfl (Nat.le_of_ble_eq_true rfl) rfl (iL_k (iL_mono (fun x1 h u H => ?_) H))
      refine T_iload_n (pc := 61) dX0_compareAny_61 rfl rfl ?_
      refine T_lload (pc := 62) dX0_compareAny_62 rfl ?_
      refine T_invS (pc := 64) (av := [jI v1, jL v4]) (rest := [jL x1]) dX0_compareAny_64 mf_X4_rank c_4_49 c_4_50 rfl (Nat.le_of_ble_eq_true rfl) rfl (iL_k (iL_mono (fun x2 h u H => ?_) H))
      refine T_invS (pc := 67) (av := [jL x1, jL x2]) (rest := []) dX0_compareAny_67 mf_X0_lesserFirst c_4_31 c_4_32 rfl (Nat.le_of_ble_eq_true rfl) rfl (iI_k (iI_mono (fun x3 h u H => ?_) H))
      exact T_ireturn (pc := 70) rfl rfl dX0_compareAny_70 H
    · rw [if_pos hc] at H
      refine T_aload_n (pc := 34) dX0_compareAny_34 rfl rfl ?_
      refine T_aload_n (pc := 35) dX0_compareAny_35 rfl rfl ?_
      refine T_gR (pc := 36) fa_X0_7 dX0_compareAny_36 (gR_mono (fun x4 H => ?_) H)
      refine T_lload_n (pc := 39) dX0_compareAny_39 rfl rfl ?_
      obtain ⟨H0, H⟩ := H
      refine T_iV (pc := 40) (ci := 6) (av := [jL v2]) (rest := [jR v0]) (o := x4) dX0_compareAny_40 mf_X7_findRow c_4_44 c_2_2 c_2_3 rfl rfl (Nat.le_of_ble_eq_true rfl) rfl H0 (iR_k (iR_mono (fun x5 h u H => ?_) H))
      refine T_aload_n (pc := 43) dX0_compareAny_43 rfl rfl ?_
      refine T_gR (pc := 44) fa_X0_7 dX0_compareAny_44 (gR_mono (fun x6 H => ?_) H)
      refine T_lload (pc := 47) dX0_compareAny_47 rfl ?_
      obtain ⟨H0, H⟩ := H
      refine T_iV (pc := 49) (ci := 6) (av := [jL v4]) (rest := [jR x5, jR v0]) (o := x6) dX0_compareAny_49 mf_X7_findRow c_4_44 c_2_2 c_2_3 rfl rfl (Nat.le_of_ble_eq_true rfl) rfl H0 (iR_k (iR_mono (fun x7 h u H => ?_) H))
      obtain ⟨H0, H⟩ := H
      refine T_iV (pc := 52) (ci := 0) (av := [jR x5, jR x7]) (rest := []) (o := v0) dX0_compareAny_52 mf_X0_compareRows c_4_45 c_4_47 pr_X0_compareRows rfl rfl (Nat.le_of_ble_eq_true rfl) rfl H0 (iI_k (iI_mono (fun x8 h u H => ?_) H))
      exact T_ireturn (pc := 55) rfl rfl dX0_compareAny_55 H
  · rw [if_pos hc] at H
    refine T_aload_n (pc := 6) dX0_compareAny_6 rfl rfl ?_
    refine T_aload_n (pc := 7) dX0_compareAny_7 rfl rfl ?_
    refine T_gR (pc := 8) fa_X0_7 dX0_compareAny_8 (gR_mono (fun x9 H => ?_) H)
    refine T_lload_n (pc := 11) dX0_compareAny_11 rfl rfl ?_
    obtain ⟨H0, H⟩ := H
    refine T_iV (pc := 12) (ci := 6) (av := [jL v2]) (rest := [jR v0]) (o := x9) dX0_compareAny_12 mf_X7_findValue c_4_42 c_2_64 c_2_65 rfl rfl (Nat.le_of_ble_eq_true rfl) rfl H0 (iR_k (iR_mono (fun x10 h u H => ?_) H))
    refine T_aload_n (pc := 15) dX0_compareAny_15 rfl rfl ?_
    refine T_gR (pc := 16) fa_X0_7 dX0_compareAny_16 (gR_mono (fun x11 H => ?_) H)
    refine T_lload (pc := 19) dX0_compareAny_19 rfl ?_
    obtain ⟨H0, H⟩ := H
    refine T_iV (pc := 21) (ci := 6) (av := [jL v4]) (rest := [jR x10, jR v0]) (o := x11) dX0_compareAny_21 mf_X7_findValue c_4_42 c_2_64 c_2_65 rfl rfl (Nat.le_of_ble_eq_true rfl) rfl H0 (iR_k (iR_mono (fun x12 h u H => ?_) H))
    obtain ⟨H0, H⟩ := H
    refine T_iV (pc := 24) (ci := 0) (av := [jR x10, jR x12]) (rest := []) (o := v0) dX0_compareAny_24 mf_X0_compareValues c_4_43 c_4_24 c_4_25 rfl rfl (Nat.le_of_ble_eq_true rfl) rfl H0 (iI_k (iI_mono (fun x13 h u H => ?_) H))
    exact T_ireturn (pc := 27) rfl rfl dX0_compareAny_27 H
theorem I_X0_compareAny {d : Nat} {v0 : Option Nm} {v1 : Int32} {v2 : Int64} {v4 : Int64} {h : MH} {u : Nat} {K : Int32 → MH → Nat → Prop} (u1 : Nat) (hu : u1 ≤ u) (H : F_X0_compareAny d v0 v1 v2 v4 h u1 (fun x h2 => K x h2 (u - u1))) : iI (d + 1) u_X0_compareAny [jR v0, jI v1, jL v2, jL v4] h u K := inv.of u1 hu (Ct.of (by decide +kernel) rfl (Nat.le_of_ble_eq_true rfl) rfl (E_X0_compareAny H))
theorem dX0_compareRows_0 : decode cX0_compareRows 0 = .ok (.aload_n 1, 1) := by decide +kernel
theorem dX0_compareRows_1 : decode cX0_compareRows 1 = .ok (.ifnull 7, 3) := by decide +kernel
theorem dX0_compareRows_4 : decode cX0_compareRows 4 = .ok (.aload_n 2, 1) := by decide +kernel
theorem dX0_compareRows_5 : decode cX0_compareRows 5 = .ok (.ifnonnull 25, 3) := by decide +kernel
theorem dX0_compareRows_8 : decode cX0_compareRows 8 = .ok (.aload_n 1, 1) := by decide +kernel
theorem dX0_compareRows_9 : decode cX0_compareRows 9 = .ok (.ifnull 7, 3) := by decide +kernel
theorem dX0_compareRows_12 : decode cX0_compareRows 12 = .ok (.iconst 1, 1) := by decide +kernel
theorem dX0_compareRows_13 : decode cX0_compareRows 13 = .ok (.goto 4, 3) := by decide +kernel
theorem dX0_compareRows_16 : decode cX0_compareRows 16 = .ok (.iconst 0, 1) := by decide +kernel
theorem dX0_compareRows_17 : decode cX0_compareRows 17 = .ok (.aload_n 2, 1) := by decide +kernel
theorem dX0_compareRows_18 : decode cX0_compareRows 18 = .ok (.ifnull 7, 3) := by decide +kernel
theorem dX0_compareRows_21 : decode cX0_compareRows 21 = .ok (.iconst 1, 1) := by decide +kernel
theorem dX0_compareRows_22 : decode cX0_compareRows 22 = .ok (.goto 4, 3) := by decide +kernel
theorem dX0_compareRows_25 : decode cX0_compareRows 25 = .ok (.iconst 0, 1) := by decide +kernel
theorem dX0_compareRows_26 : decode cX0_compareRows 26 = .ok (.invokestatic 13, 3) := by decide +kernel
theorem dX0_compareRows_29 : decode cX0_compareRows 29 = .ok (.ireturn, 1) := by decide +kernel
theorem dX0_compareRows_30 : decode cX0_compareRows 30 = .ok (.aload_n 1, 1) := by decide +kernel
theorem dX0_compareRows_31 : decode cX0_compareRows 31 = .ok (.getfield 90, 3) := by decide +kernel
theorem dX0_compareRows_34 : decode cX0_compareRows 34 = .ok (.i2l, 1) := by decide +kernel
theorem dX0_compareRows_35 : decode cX0_compareRows 35 = .ok (.aload_n 2, 1) := by decide +kernel
theorem dX0_compareRows_36 : decode cX0_compareRows 36 = .ok (.getfield 90, 3) := by decide +kernel
theorem dX0_compareRows_39 : decode cX0_compareRows 39 = .ok (.i2l, 1) := by decide +kernel
theorem dX0_compareRows_40 : decode cX0_compareRows 40 = .ok (.invokestatic 29, 3) := by decide +kernel
theorem dX0_compareRows_43 : decode cX0_compareRows 43 = .ok (.istore_n 3, 1) := by decide +kernel
theorem dX0_compareRows_44 : decode cX0_compareRows 44 = .ok (.iload_n 3, 1) := by decide +kernel
theorem dX0_compareRows_45 : decode cX0_compareRows 45 = .ok (.ifCond .eq 5, 3) := by decide +kernel
theorem dX0_compareRows_48 : decode cX0_compareRows 48 = .ok (.iload_n 3, 1) := by decide +kernel
theorem dX0_compareRows_49 : decode cX0_compareRows 49 = .ok (.ireturn, 1) := by decide +kernel
theorem dX0_compareRows_50 : decode cX0_compareRows 50 = .ok (.iconst 0, 1) := by decide +kernel
theorem dX0_compareRows_51 : decode cX0_compareRows 51 = .ok (.istore 4, 2) := by decide +kernel
theorem dX0_compareRows_53 : decode cX0_compareRows 53 = .ok (.iload 4, 2) := by decide +kernel
theorem dX0_compareRows_55 : decode cX0_compareRows 55 = .ok (.aload_n 1, 1) := by decide +kernel
theorem dX0_compareRows_56 : decode cX0_compareRows 56 = .ok (.getfield 95, 3) := by decide +kernel
theorem dX0_compareRows_59 : decode cX0_compareRows 59 = .ok (.arraylength, 1) := by decide +kernel
theorem dX0_compareRows_60 : decode cX0_compareRows 60 = .ok (.if_icmp .ge 51, 3) := by decide +kernel
theorem dX0_compareRows_63 : decode cX0_compareRows 63 = .ok (.iload 4, 2) := by decide +kernel
theorem dX0_compareRows_65 : decode cX0_compareRows 65 = .ok (.aload_n 2, 1) := by decide +kernel
theorem dX0_compareRows_66 : decode cX0_compareRows 66 = .ok (.getfield 95, 3) := by decide +kernel
theorem dX0_compareRows_69 : decode cX0_compareRows 69 = .ok (.arraylength, 1) := by decide +kernel
theorem dX0_compareRows_70 : decode cX0_compareRows 70 = .ok (.if_icmp .ge 41, 3) := by decide +kernel
theorem dX0_compareRows_73 : decode cX0_compareRows 73 = .ok (.aload_n 0, 1) := by decide +kernel
theorem dX0_compareRows_74 : decode cX0_compareRows 74 = .ok (.aload_n 1, 1) := by decide +kernel
theorem dX0_compareRows_75 : decode cX0_compareRows 75 = .ok (.getfield 90, 3) := by decide +kernel
theorem dX0_compareRows_78 : decode cX0_compareRows 78 = .ok (.aload_n 1, 1) := by decide +kernel
theorem dX0_compareRows_79 : decode cX0_compareRows 79 = .ok (.getfield 95, 3) := by decide +kernel
theorem dX0_compareRows_82 : decode cX0_compareRows 82 = .ok (.iload 4, 2) := by decide +kernel
theorem dX0_compareRows_84 : decode cX0_compareRows 84 = .ok (.laload, 1) := by decide +kernel
theorem dX0_compareRows_85 : decode cX0_compareRows 85 = .ok (.aload_n 2, 1) := by decide +kernel
theorem dX0_compareRows_86 : decode cX0_compareRows 86 = .ok (.getfield 95, 3) := by decide +kernel
theorem dX0_compareRows_89 : decode cX0_compareRows 89 = .ok (.iload 4, 2) := by decide +kernel
theorem dX0_compareRows_91 : decode cX0_compareRows 91 = .ok (.laload, 1) := by decide +kernel
theorem dX0_compareRows_92 : decode cX0_compareRows 92 = .ok (.invokevirtual 63, 3) := by decide +kernel
theorem dX0_compareRows_95 : decode cX0_compareRows 95 = .ok (.istore 5, 2) := by decide +kernel
theorem dX0_compareRows_97 : decode cX0_compareRows 97 = .ok (.iload 5, 2) := by decide +kernel
theorem dX0_compareRows_99 : decode cX0_compareRows 99 = .ok (.ifCond .eq 6, 3) := by decide +kernel
theorem dX0_compareRows_102 : decode cX0_compareRows 102 = .ok (.iload 5, 2) := by decide +kernel
theorem dX0_compareRows_104 : decode cX0_compareRows 104 = .ok (.ireturn, 1) := by decide +kernel
theorem dX0_compareRows_105 : decode cX0_compareRows 105 = .ok (.iinc 4 1, 3) := by decide +kernel
theorem dX0_compareRows_108 : decode cX0_compareRows 108 = .ok (.goto (-55), 3) := by decide +kernel
theorem dX0_compareRows_111 : decode cX0_compareRows 111 = .ok (.aload_n 1, 1) := by decide +kernel
theorem dX0_compareRows_112 : decode cX0_compareRows 112 = .ok (.getfield 95, 3) := by decide +kernel
theorem dX0_compareRows_115 : decode cX0_compareRows 115 = .ok (.arraylength, 1) := by decide +kernel
theorem dX0_compareRows_116 : decode cX0_compareRows 116 = .ok (.i2l, 1) := by decide +kernel
theorem dX0_compareRows_117 : decode cX0_compareRows 117 = .ok (.aload_n 2, 1) := by decide +kernel
theorem dX0_compareRows_118 : decode cX0_compareRows 118 = .ok (.getfield 95, 3) := by decide +kernel
theorem dX0_compareRows_121 : decode cX0_compareRows 121 = .ok (.arraylength, 1) := by decide +kernel
theorem dX0_compareRows_122 : decode cX0_compareRows 122 = .ok (.i2l, 1) := by decide +kernel
theorem dX0_compareRows_123 : decode cX0_compareRows 123 = .ok (.invokestatic 29, 3) := by decide +kernel
theorem dX0_compareRows_126 : decode cX0_compareRows 126 = .ok (.ireturn, 1) := by decide +kernel
def L_X0_compareRows_53 (d : Nat) (v0 : Option Nm) (v1 : Option Nm) (v2 : Option Nm) (v4 : Int32) (h : MH) (u : Nat) (Q : Int32 → MH → Prop) : Prop := T u_X0_compareRows (d + 1) 53 [some (jR v0), some (jR v1), some (jR v2), none, some (jI v4), none] [] h u (qI Q)
def F_X0_compareRows_17 (d : Nat) (v2 : Option Nm) (s0 : Int32) (h : MH) (u : Nat) (Q : Int32 → MH → Prop) : Prop :=
  nl v2 (
    iI d u_X0_nothingFirst [jI s0, jI 0] h u fun x1 h u =>
    Q x1 h) (
    iI d u_X0_nothingFirst [jI s0, jI 1] h u fun x2 h u =>
    Q x2 h)
set_option maxRecDepth 20000 in
theorem E_X0_compareRows_17 {d : Nat} {v2 : Option Nm} {s0 : Int32} {h : MH} {u : Nat} {Q : Int32 → MH → Prop} (H : F_X0_compareRows_17 d v2 s0 h u Q) : T u_X0_compareRows (d + 1) 17 [none, none, some (jR v2), none, none, none] [jI s0] h u (qI Q) := by
  unfold F_X0_compareRows_17 at H
  refine T_aload_n (pc := 17) dX0_compareRows_17 rfl rfl ?_
  refine T_ifnull (pc := 18) (tgt := 25) dX0_compareRows_18 (by decide) (fun ho => ?_) (fun n ho => ?_)
  · replace H := nl_n ho H
    refine T_iconst (pc := 25) (v := 0) dX0_compareRows_25 (by decide) ?_
    refine T_invS (pc := 26) (av := [jI s0, jI 0]) (rest := []) dX0_compareRows_26 mf_X0_nothingFirst c_4_27 c_4_28 rfl (Nat.le_of_ble_eq_true rfl) rfl (iI_k (iI_mono (fun x1 h u H => ?_) H))
    exact T_ireturn (pc := 29) rfl rfl dX0_compareRows_29 H
  · replace H := nl_s ho H
    refine T_iconst (pc := 21) (v := 1) dX0_compareRows_21 (by decide) ?_
    refine T_goto (pc := 22) (tgt := 26) dX0_compareRows_22 (by decide) ?_
    refine T_invS (pc := 26) (av := [jI s0, jI 1]) (rest := []) dX0_compareRows_26 mf_X0_nothingFirst c_4_27 c_4_28 rfl (Nat.le_of_ble_eq_true rfl) rfl (iI_k (iI_mono (fun x2 h u H => ?_) H))
    exact T_ireturn (pc := 29) rfl rfl dX0_compareRows_29 H
def F_X0_compareRows_8 (d : Nat) (v1 : Option Nm) (v2 : Option Nm) (h : MH) (u : Nat) (Q : Int32 → MH → Prop) : Prop :=
  nl v1 (
    F_X0_compareRows_17 d v2 0 h u Q) (
    F_X0_compareRows_17 d v2 1 h u Q)
set_option maxRecDepth 20000 in
theorem E_X0_compareRows_8 {d : Nat} {v1 : Option Nm} {v2 : Option Nm} {h : MH} {u : Nat} {Q : Int32 → MH → Prop} (H : F_X0_compareRows_8 d v1 v2 h u Q) : T u_X0_compareRows (d + 1) 8 [none, some (jR v1), some (jR v2), none, none, none] [] h u (qI Q) := by
  unfold F_X0_compareRows_8 at H
  refine T_aload_n (pc := 8) dX0_compareRows_8 rfl rfl ?_
  refine T_ifnull (pc := 9) (tgt := 16) dX0_compareRows_9 (by decide) (fun ho => ?_) (fun n ho => ?_)
  · replace H := nl_n ho H
    refine T_iconst (pc := 16) (v := 0) dX0_compareRows_16 (by decide) ?_
    exact T.forget (E_X0_compareRows_17 H) ⟨rfl, trivial⟩
  · replace H := nl_s ho H
    refine T_iconst (pc := 12) (v := 1) dX0_compareRows_12 (by decide) ?_
    refine T_goto (pc := 13) (tgt := 17) dX0_compareRows_13 (by decide) ?_
    exact T.forget (E_X0_compareRows_17 H) ⟨rfl, trivial⟩
def F_X0_compareRows (d : Nat) (v0 : Option Nm) (v1 : Option Nm) (v2 : Option Nm) (h : MH) (u : Nat) (Q : Int32 → MH → Prop) : Prop :=
  nl v1 (
    F_X0_compareRows_8 d v1 v2 h u Q) (
    nl v2 (
      F_X0_compareRows_8 d v1 v2 h u Q) (
      gI h v1 4 1 fun x1 =>
      gI h v2 4 1 fun x2 =>
      iI d u_X0_lesserFirst [jL (x1.toInt64), jL (x2.toInt64)] h u fun x3 h u =>
      if x3 = 0 then
        L_X0_compareRows_53 d v0 v1 v2 0 h u Q
      else
        Q x3 h))
set_option maxRecDepth 20000 in
theorem E_X0_compareRows {d : Nat} {v0 : Option Nm} {v1 : Option Nm} {v2 : Option Nm} {h : MH} {u : Nat} {Q : Int32 → MH → Prop} (H : F_X0_compareRows d v0 v1 v2 h u Q) : T u_X0_compareRows (d + 1) 0 [some (jR v0), some (jR v1), some (jR v2), none, none, none] [] h u (qI Q) := by
  unfold F_X0_compareRows at H
  refine T_aload_n (pc := 0) dX0_compareRows_0 rfl rfl ?_
  refine T_ifnull (pc := 1) (tgt := 8) dX0_compareRows_1 (by decide) (fun ho => ?_) (fun n ho => ?_)
  · replace H := nl_n ho H
    exact T.forget (E_X0_compareRows_8 H) ⟨rfl, rfl, trivial⟩
  · replace H := nl_s ho H
    refine T_aload_n (pc := 4) dX0_compareRows_4 rfl rfl ?_
    refine T_ifnonnull (pc := 5) (tgt := 30) dX0_compareRows_5 (by decide) (fun ho => ?_) (fun n ho => ?_)
    · replace H := nl_n ho H
      exact T.forget (E_X0_compareRows_8 H) ⟨rfl, rfl, trivial⟩
    · replace H := nl_s ho H
      refine T_aload_n (pc := 30) dX0_compareRows_30 rfl rfl ?_
      refine T_gI (pc := 31) fa_X0_90 dX0_compareRows_31 (gI_mono (fun x1 H => ?_) H)
      refine T_i2l (pc := 34) dX0_compareRows_34 ?_
      refine T_aload_n (pc := 35) dX0_compareRows_35 rfl rfl ?_
      refine T_gI (pc := 36) fa_X0_90 dX0_compareRows_36 (gI_mono (fun x2 H => ?_) H)
      refine T_i2l (pc := 39) dX0_compareRows_39 ?_
      refine T_invS (pc := 40) (av := [jL (x1.toInt64), jL (x2.toInt64)]) (rest := []) dX0_compareRows_40 mf_X0_lesserFirst c_4_31 c_4_32 rfl (Nat.le_of_ble_eq_true rfl) rfl (iI_k (iI_mono (fun x3 h u H => ?_) H))
      refine T_istore_n (pc := 43) (ls2 := [some (jR v0), some (jR v1), some (jR v2), some (jI x3), none, none]) dX0_compareRows_43 rfl (Nat.le_of_ble_eq_true rfl) rfl ?_
      refine T_iload_n (pc := 44) dX0_compareRows_44 rfl rfl ?_
      refine T_if_eq (pc := 45) (tgt := 50) dX0_compareRows_45 (by decide) (fun hc => ?_) (fun hc => ?_)
      · rw [if_pos hc] at H
        refine T_iconst (pc := 50) (v := 0) dX0_compareRows_50 (by decide) ?_
        refine T_istore (pc := 51) (ls2 := [some (jR v0), some (jR v1), some (jR v2), some (jI x3), some (jI 0), none]) dX0_compareRows_51 (Nat.le_of_ble_eq_true rfl) rfl ?_
        exact T.forget H ⟨rfl, rfl, rfl, rfl, trivial⟩
      · rw [if_neg hc] at H
        refine T_iload_n (pc := 48) dX0_compareRows_48 rfl rfl ?_
        exact T_ireturn (pc := 49) rfl rfl dX0_compareRows_49 H
def F_X0_compareRows_111 (d : Nat) (v1 : Option Nm) (v2 : Option Nm) (h : MH) (u : Nat) (Q : Int32 → MH → Prop) : Prop :=
  gR h v1 4 2 fun x1 =>
  aN h x1 fun x2 =>
  gR h v2 4 2 fun x3 =>
  aN h x3 fun x4 =>
  iI d u_X0_lesserFirst [jL (x2.toInt64), jL (x4.toInt64)] h u fun x5 h u =>
  Q x5 h
set_option maxRecDepth 20000 in
theorem E_X0_compareRows_111 {d : Nat} {v1 : Option Nm} {v2 : Option Nm} {h : MH} {u : Nat} {Q : Int32 → MH → Prop} (H : F_X0_compareRows_111 d v1 v2 h u Q) : T u_X0_compareRows (d + 1) 111 [none, some (jR v1), some (jR v2), none, none, none] [] h u (qI Q) := by
  unfold F_X0_compareRows_111 at H
  refine T_aload_n (pc := 111) dX0_compareRows_111 rfl rfl ?_
  refine T_gR (pc := 112) fa_X0_95 dX0_compareRows_112 (gR_mono (fun x1 H => ?_) H)
  refine T_aN (pc := 115) dX0_compareRows_115 (aN_mono (fun x2 H => ?_) H)
  refine T_i2l (pc := 116) dX0_compareRows_116 ?_
  refine T_aload_n (pc := 117) dX0_compareRows_117 rfl rfl ?_
  refine T_gR (pc := 118) fa_X0_95 dX0_compareRows_118 (gR_mono (fun x3 H => ?_) H)
  refine T_aN (pc := 121) dX0_compareRows_121 (aN_mono (fun x4 H => ?_) H)
  refine T_i2l (pc := 122) dX0_compareRows_122 ?_
  refine T_invS (pc := 123) (av := [jL (x2.toInt64), jL (x4.toInt64)]) (rest := []) dX0_compareRows_123 mf_X0_lesserFirst c_4_31 c_4_32 rfl (Nat.le_of_ble_eq_true rfl) rfl (iI_k (iI_mono (fun x5 h u H => ?_) H))
  exact T_ireturn (pc := 126) rfl rfl dX0_compareRows_126 H
def F_X0_compareRows_53 (d : Nat) (v0 : Option Nm) (v1 : Option Nm) (v2 : Option Nm) (v4 : Int32) (h : MH) (u : Nat) (Q : Int32 → MH → Prop) : Prop :=
  gR h v1 4 2 fun x1 =>
  aN h x1 fun x2 =>
  if x2 ≤ v4 then
    F_X0_compareRows_111 d v1 v2 h u Q
  else
    gR h v2 4 2 fun x3 =>
    aN h x3 fun x4 =>
    if x4 ≤ v4 then
      F_X0_compareRows_111 d v1 v2 h u Q
    else
      gI h v1 4 1 fun x5 =>
      gR h v1 4 2 fun x6 =>
      aL h x6 v4 fun x7 =>
      gR h v2 4 2 fun x8 =>
      aL h x8 v4 fun x9 =>
      rc h v0 0 ∧ iI d u_X0_compareAny [jR v0, jI x5, jL x7, jL x9] h u fun x10 h u =>
      if x10 = 0 then
        L_X0_compareRows_53 d v0 v1 v2 (v4 + 1) h u Q
      else
        Q x10 h
set_option maxRecDepth 20000 in
theorem E_X0_compareRows_53 {d : Nat} {v0 : Option Nm} {v1 : Option Nm} {v2 : Option Nm} {v4 : Int32} {h : MH} {u : Nat} {Q : Int32 → MH → Prop} (H : F_X0_compareRows_53 d v0 v1 v2 v4 h u Q) : T u_X0_compareRows (d + 1) 53 [some (jR v0), some (jR v1), some (jR v2), none, some (jI v4), none] [] h u (qI Q) := by
  unfold F_X0_compareRows_53 at H
  refine T_iload (pc := 53) dX0_compareRows_53 rfl ?_
  refine T_aload_n (pc := 55) dX0_compareRows_55 rfl rfl ?_
  refine T_gR (pc := 56) fa_X0_95 dX0_compareRows_56 (gR_mono (fun x1 H => ?_) H)
  refine T_aN (pc := 59) dX0_compareRows_59 (aN_mono (fun x2 H => ?_) H)
  refine T_icmp_ge (pc := 60) (tgt := 111) dX0_compareRows_60 (by decide) (fun hc => ?_) (fun hc => ?_)
  · rw [if_pos hc] at H
    exact T.forget (E_X0_compareRows_111 H) ⟨rfl, rfl, trivial⟩
  · rw [if_neg hc] at H
    refine T_iload (pc := 63) dX0_compareRows_63 rfl ?_
    refine T_aload_n (pc := 65) dX0_compareRows_65 rfl rfl ?_
    refine T_gR (pc := 66) fa_X0_95 dX0_compareRows_66 (gR_mono (fun x3 H => ?_) H)
    refine T_aN (pc := 69) dX0_compareRows_69 (aN_mono (fun x4 H => ?_) H)
    refine T_icmp_ge (pc := 70) (tgt := 111) dX0_compareRows_70 (by decide) (fun hc => ?_) (fun hc => ?_)
    · rw [if_pos hc] at H
      exact T.forget (E_X0_compareRows_111 H) ⟨rfl, rfl, trivial⟩
    · rw [if_neg hc] at H
      refine T_aload_n (pc := 73) dX0_compareRows_73 rfl rfl ?_
      refine T_aload_n (pc := 74) dX0_compareRows_74 rfl rfl ?_
      refine T_gI (pc := 75) fa_X0_90 dX0_compareRows_75 (gI_mono (fun x5 H => ?_) H)
      refine T_aload_n (pc := 78) dX0_compareRows_78 rfl rfl ?_
      refine T_gR (pc := 79) fa_X0_95 dX0_compareRows_79 (gR_mono (fun x6 H => ?_) H)
      refine T_iload (pc := 82) dX0_compareRows_82 rfl ?_
      refine T_aL (pc := 84) dX0_compareRows_84 (aL_mono (fun x7 H => ?_) H)
      refine T_aload_n (pc := 85) dX0_compareRows_85 rfl rfl ?_
      refine T_gR (pc := 86) fa_X0_95 dX0_compareRows_86 (gR_mono (fun x8 H => ?_) H)
      refine T_iload (pc := 89) dX0_compareRows_89 rfl ?_
      refine T_aL (pc := 91) dX0_compareRows_91 (aL_mono (fun x9 H => ?_) H)
      obtain ⟨H0, H⟩ := H
      refine T_iV (pc := 92) (ci := 0) (av := [jI x5, jL x7, jL x9]) (rest := []) (o := v0) dX0_compareRows_92 mf_X0_compareAny c_4_38 c_4_40 pr_X0_compareAny rfl rfl (Nat.le_of_ble_eq_true rfl) rfl H0 (iI_k (iI_mono (fun x10 h u H => ?_) H))
      refine T_istore (pc := 95) (ls2 := [some (jR v0), some (jR v1), some (jR v2), none, some (jI v4), some (jI x10)]) dX0_compareRows_95 (Nat.le_of_ble_eq_true rfl) rfl ?_
      refine T_iload (pc := 97) dX0_compareRows_97 rfl ?_
      refine T_if_eq (pc := 99) (tgt := 105) dX0_compareRows_99 (by decide) (fun hc => ?_) (fun hc => ?_)
      · rw [if_pos hc] at H
        refine T_iinc (pc := 105) (v := v4 + 1) (ls2 := [some (jR v0), some (jR v1), some (jR v2), none, some (jI (v4 + 1)), some (jI x10)]) dX0_compareRows_105 rfl rfl (Nat.le_of_ble_eq_true rfl) rfl ?_
        refine T_goto (pc := 108) (tgt := 53) dX0_compareRows_108 (by decide) ?_
        exact T.forget H ⟨rfl, rfl, rfl, rfl, trivial⟩
      · rw [if_neg hc] at H
        refine T_iload (pc := 102) dX0_compareRows_102 rfl ?_
        exact T_ireturn (pc := 104) rfl rfl dX0_compareRows_104 H
theorem I_X0_compareRows {d : Nat} {v0 : Option Nm} {v1 : Option Nm} {v2 : Option Nm} {h : MH} {u : Nat} {K : Int32 → MH → Nat → Prop} (u1 : Nat) (hu : u1 ≤ u) (H : F_X0_compareRows d v0 v1 v2 h u1 (fun x h2 => K x h2 (u - u1))) : iI (d + 1) u_X0_compareRows [jR v0, jR v1, jR v2] h u K := inv.of u1 hu (Ct.of (by decide +kernel) rfl (Nat.le_of_ble_eq_true rfl) rfl (E_X0_compareRows H))
theorem dX0_hashAny_0 : decode cX0_hashAny 0 = .ok (.iload_n 1, 1) := by decide +kernel
theorem dX0_hashAny_1 : decode cX0_hashAny 1 = .ok (.bipush 8, 2) := by decide +kernel
theorem dX0_hashAny_3 : decode cX0_hashAny 3 = .ok (.if_icmp .ne 16, 3) := by decide +kernel
theorem dX0_hashAny_6 : decode cX0_hashAny 6 = .ok (.aload_n 0, 1) := by decide +kernel
theorem dX0_hashAny_7 : decode cX0_hashAny 7 = .ok (.aload_n 0, 1) := by decide +kernel
theorem dX0_hashAny_8 : decode cX0_hashAny 8 = .ok (.getfield 7, 3) := by decide +kernel
theorem dX0_hashAny_11 : decode cX0_hashAny 11 = .ok (.lload_n 2, 1) := by decide +kernel
theorem dX0_hashAny_12 : decode cX0_hashAny 12 = .ok (.invokevirtual 69, 3) := by decide +kernel
theorem dX0_hashAny_15 : decode cX0_hashAny 15 = .ok (.invokevirtual 98, 3) := by decide +kernel
theorem dX0_hashAny_18 : decode cX0_hashAny 18 = .ok (.ireturn, 1) := by decide +kernel
theorem dX0_hashAny_19 : decode cX0_hashAny 19 = .ok (.iload_n 1, 1) := by decide +kernel
theorem dX0_hashAny_20 : decode cX0_hashAny 20 = .ok (.bipush 9, 2) := by decide +kernel
theorem dX0_hashAny_22 : decode cX0_hashAny 22 = .ok (.if_icmp .ne 16, 3) := by decide +kernel
theorem dX0_hashAny_25 : decode cX0_hashAny 25 = .ok (.aload_n 0, 1) := by decide +kernel
theorem dX0_hashAny_26 : decode cX0_hashAny 26 = .ok (.aload_n 0, 1) := by decide +kernel
theorem dX0_hashAny_27 : decode cX0_hashAny 27 = .ok (.getfield 7, 3) := by decide +kernel
theorem dX0_hashAny_30 : decode cX0_hashAny 30 = .ok (.lload_n 2, 1) := by decide +kernel
theorem dX0_hashAny_31 : decode cX0_hashAny 31 = .ok (.invokevirtual 78, 3) := by decide +kernel
theorem dX0_hashAny_34 : decode cX0_hashAny 34 = .ok (.invokevirtual 102, 3) := by decide +kernel
theorem dX0_hashAny_37 : decode cX0_hashAny 37 = .ok (.ireturn, 1) := by decide +kernel
theorem dX0_hashAny_38 : decode cX0_hashAny 38 = .ok (.iload_n 1, 1) := by decide +kernel
theorem dX0_hashAny_39 : decode cX0_hashAny 39 = .ok (.lload_n 2, 1) := by decide +kernel
theorem dX0_hashAny_40 : decode cX0_hashAny 40 = .ok (.invokestatic 106, 3) := by decide +kernel
theorem dX0_hashAny_43 : decode cX0_hashAny 43 = .ok (.ireturn, 1) := by decide +kernel
def F_X0_hashAny (d : Nat) (v0 : Option Nm) (v1 : Int32) (v2 : Int64) (h : MH) (u : Nat) (Q : Int32 → MH → Prop) : Prop :=
  if v1 = 8 then
    gR h v0 0 0 fun x5 =>
    rc h x5 6 ∧ iR d u_X7_findValue [jR x5, jL v2] h u fun x6 h u =>
    rc h v0 0 ∧ iI d u_X0_hashValue [jR v0, jR x6] h u fun x7 h u =>
    Q x7 h
  else
    if v1 = 9 then
      gR h v0 0 0 fun x2 =>
      rc h x2 6 ∧ iR d u_X7_findRow [jR x2, jL v2] h u fun x3 h u =>
      rc h v0 0 ∧ iI d u_X0_hashRow [jR v0, jR x3] h u fun x4 h u =>
      Q x4 h
    else
      iI d u_X4_hashNumber [jI v1, jL v2] h u fun x1 h u =>
      Q x1 h
set_option maxRecDepth 20000 in
theorem E_X0_hashAny {d : Nat} {v0 : Option Nm} {v1 : Int32} {v2 : Int64} {h : MH} {u : Nat} {Q : Int32 → MH → Prop} (H : F_X0_hashAny d v0 v1 v2 h u Q) : T u_X0_hashAny (d + 1) 0 [some (jR v0), some (jI v1), some (jL v2), none] [] h u (qI Q) := by
  unfold F_X0_hashAny at H
  refine T_iload_n (pc := 0) dX0_hashAny_0 rfl rfl ?_
  refine T_bipush (pc := 1) (v := 8) dX0_hashAny_1 (by decide) ?_
  refine T_icmp_ne (pc := 3) (tgt := 19) dX0_hashAny_3 (by decide) (fun hc => ?_) (fun hc => ?_)
  · rw [if_neg hc] at H
    refine T_iload_n (pc := 19) dX0_hashAny_19 rfl rfl ?_
    refine T_bipush (pc := 20) (v := 9) dX0_hashAny_20 (by decide) ?_
    refine T_icmp_ne (pc := 22) (tgt := 38) dX0_hashAny_22 (by decide) (fun hc => ?_) (fun hc => ?_)
    · rw [if_neg hc] at H
      refine T_iload_n (pc := 38) dX0_hashAny_38 rfl rfl ?_
      refine T_lload_n (pc := 39) dX0_hashAny_39 rfl rfl ?_
      refine T_invS (pc := 40) (av := [jI v1, jL v2]) (rest := []) dX0_hashAny_40 mf_X4_hashNumber c_4_74 c_4_75 rfl (Nat.le_of_ble_eq_true rfl) rfl (iI_k (iI_mono (fun x1 h u H => ?_) H))
      exact T_ireturn (pc := 43) rfl rfl dX0_hashAny_43 H
    · rw [if_pos hc] at H
      refine T_aload_n (pc := 25) dX0_hashAny_25 rfl rfl ?_
      refine T_aload_n (pc := 26) dX0_hashAny_26 rfl rfl ?_
      refine T_gR (pc := 27) fa_X0_7 dX0_hashAny_27 (gR_mono (fun x2 H => ?_) H)
      refine T_lload_n (pc := 30) dX0_hashAny_30 rfl rfl ?_
      obtain ⟨H0, H⟩ := H
      refine T_iV (pc := 31) (ci := 6) (av := [jL v2]) (rest := [jR v0]) (o := x2) dX0_hashAny_31 mf_X7_findRow c_4_44 c_2_2 c_2_3 rfl rfl (Nat.le_of_ble_eq_true rfl) rfl H0 (iR_k (iR_mono (fun x3 h u H => ?_) H))
      obtain ⟨H0, H⟩ := H
      refine T_iV (pc := 34) (ci := 0) (av := [jR x3]) (rest := []) (o := v0) dX0_hashAny_34 mf_X0_hashRow c_4_70 c_4_72 pr_X0_hashRow rfl rfl (Nat.le_of_ble_eq_true rfl) rfl H0 (iI_k (iI_mono (fun x4 h u H => ?_) H))
      exact T_ireturn (pc := 37) rfl rfl dX0_hashAny_37 H
  · rw [if_pos hc] at H
    refine T_aload_n (pc := 6) dX0_hashAny_6 rfl rfl ?_
    refine T_aload_n (pc := 7) dX0_hashAny_7 rfl rfl ?_
    refine T_gR (pc := 8) fa_X0_7 dX0_hashAny_8 (gR_mono (fun x5 H => ?_) H)
    refine T_lload_n (pc := 11) dX0_hashAny_11 rfl rfl ?_
    obtain ⟨H0, H⟩ := H
    refine T_iV (pc := 12) (ci := 6) (av := [jL v2]) (rest := [jR v0]) (o := x5) dX0_hashAny_12 mf_X7_findValue c_4_42 c_2_64 c_2_65 rfl rfl (Nat.le_of_ble_eq_true rfl) rfl H0 (iR_k (iR_mono (fun x6 h u H => ?_) H))
    obtain ⟨H0, H⟩ := H
    refine T_iV (pc := 15) (ci := 0) (av := [jR x6]) (rest := []) (o := v0) dX0_hashAny_15 mf_X0_hashValue c_4_69 c_4_62 c_4_63 rfl rfl (Nat.le_of_ble_eq_true rfl) rfl H0 (iI_k (iI_mono (fun x7 h u H => ?_) H))
    exact T_ireturn (pc := 18) rfl rfl dX0_hashAny_18 H
theorem I_X0_hashAny {d : Nat} {v0 : Option Nm} {v1 : Int32} {v2 : Int64} {h : MH} {u : Nat} {K : Int32 → MH → Nat → Prop} (u1 : Nat) (hu : u1 ≤ u) (H : F_X0_hashAny d v0 v1 v2 h u1 (fun x h2 => K x h2 (u - u1))) : iI (d + 1) u_X0_hashAny [jR v0, jI v1, jL v2] h u K := inv.of u1 hu (Ct.of (by decide +kernel) rfl (Nat.le_of_ble_eq_true rfl) rfl (E_X0_hashAny H))
theorem dX0_hashRow_0 : decode cX0_hashRow 0 = .ok (.aload_n 1, 1) := by decide +kernel
theorem dX0_hashRow_1 : decode cX0_hashRow 1 = .ok (.ifnonnull 5, 3) := by decide +kernel
theorem dX0_hashRow_4 : decode cX0_hashRow 4 = .ok (.iconst 0, 1) := by decide +kernel
theorem dX0_hashRow_5 : decode cX0_hashRow 5 = .ok (.ireturn, 1) := by decide +kernel
theorem dX0_hashRow_6 : decode cX0_hashRow 6 = .ok (.iconst 1, 1) := by decide +kernel
theorem dX0_hashRow_7 : decode cX0_hashRow 7 = .ok (.istore_n 2, 1) := by decide +kernel
theorem dX0_hashRow_8 : decode cX0_hashRow 8 = .ok (.iconst 0, 1) := by decide +kernel
theorem dX0_hashRow_9 : decode cX0_hashRow 9 = .ok (.istore_n 3, 1) := by decide +kernel
theorem dX0_hashRow_10 : decode cX0_hashRow 10 = .ok (.iload_n 3, 1) := by decide +kernel
theorem dX0_hashRow_11 : decode cX0_hashRow 11 = .ok (.aload_n 1, 1) := by decide +kernel
theorem dX0_hashRow_12 : decode cX0_hashRow 12 = .ok (.getfield 95, 3) := by decide +kernel
theorem dX0_hashRow_15 : decode cX0_hashRow 15 = .ok (.arraylength, 1) := by decide +kernel
theorem dX0_hashRow_16 : decode cX0_hashRow 16 = .ok (.if_icmp .ge 29, 3) := by decide +kernel
theorem dX0_hashRow_19 : decode cX0_hashRow 19 = .ok (.bipush 31, 2) := by decide +kernel
theorem dX0_hashRow_21 : decode cX0_hashRow 21 = .ok (.iload_n 2, 1) := by decide +kernel
theorem dX0_hashRow_22 : decode cX0_hashRow 22 = .ok (.imul, 1) := by decide +kernel
theorem dX0_hashRow_23 : decode cX0_hashRow 23 = .ok (.aload_n 0, 1) := by decide +kernel
theorem dX0_hashRow_24 : decode cX0_hashRow 24 = .ok (.aload_n 1, 1) := by decide +kernel
theorem dX0_hashRow_25 : decode cX0_hashRow 25 = .ok (.getfield 90, 3) := by decide +kernel
theorem dX0_hashRow_28 : decode cX0_hashRow 28 = .ok (.aload_n 1, 1) := by decide +kernel
theorem dX0_hashRow_29 : decode cX0_hashRow 29 = .ok (.getfield 95, 3) := by decide +kernel
theorem dX0_hashRow_32 : decode cX0_hashRow 32 = .ok (.iload_n 3, 1) := by decide +kernel
theorem dX0_hashRow_33 : decode cX0_hashRow 33 = .ok (.laload, 1) := by decide +kernel
theorem dX0_hashRow_34 : decode cX0_hashRow 34 = .ok (.invokevirtual 59, 3) := by decide +kernel
theorem dX0_hashRow_37 : decode cX0_hashRow 37 = .ok (.iadd, 1) := by decide +kernel
theorem dX0_hashRow_38 : decode cX0_hashRow 38 = .ok (.istore_n 2, 1) := by decide +kernel
theorem dX0_hashRow_39 : decode cX0_hashRow 39 = .ok (.iinc 3 1, 3) := by decide +kernel
theorem dX0_hashRow_42 : decode cX0_hashRow 42 = .ok (.goto (-32), 3) := by decide +kernel
theorem dX0_hashRow_45 : decode cX0_hashRow 45 = .ok (.iload_n 2, 1) := by decide +kernel
theorem dX0_hashRow_46 : decode cX0_hashRow 46 = .ok (.ireturn, 1) := by decide +kernel
def L_X0_hashRow_10 (d : Nat) (v0 : Option Nm) (v1 : Option Nm) (v2 : Int32) (v3 : Int32) (h : MH) (u : Nat) (Q : Int32 → MH → Prop) : Prop := T u_X0_hashRow (d + 1) 10 [some (jR v0), some (jR v1), some (jI v2), some (jI v3)] [] h u (qI Q)
def F_X0_hashRow (d : Nat) (v0 : Option Nm) (v1 : Option Nm) (h : MH) (u : Nat) (Q : Int32 → MH → Prop) : Prop :=
  nl v1 (
    Q 0 h) (
    L_X0_hashRow_10 d v0 v1 1 0 h u Q)
set_option maxRecDepth 20000 in
theorem E_X0_hashRow {d : Nat} {v0 : Option Nm} {v1 : Option Nm} {h : MH} {u : Nat} {Q : Int32 → MH → Prop} (H : F_X0_hashRow d v0 v1 h u Q) : T u_X0_hashRow (d + 1) 0 [some (jR v0), some (jR v1), none, none] [] h u (qI Q) := by
  unfold F_X0_hashRow at H
  refine T_aload_n (pc := 0) dX0_hashRow_0 rfl rfl ?_
  refine T_ifnonnull (pc := 1) (tgt := 6) dX0_hashRow_1 (by decide) (fun ho => ?_) (fun n ho => ?_)
  · replace H := nl_n ho H
    refine T_iconst (pc := 4) (v := 0) dX0_hashRow_4 (by decide) ?_
    exact T_ireturn (pc := 5) rfl rfl dX0_hashRow_5 H
  · replace H := nl_s ho H
    refine T_iconst (pc := 6) (v := 1) dX0_hashRow_6 (by decide) ?_
    refine T_istore_n (pc := 7) (ls2 := [some (jR v0), some (jR v1), some (jI 1), none]) dX0_hashRow_7 rfl (Nat.le_of_ble_eq_true rfl) rfl ?_
    refine T_iconst (pc := 8) (v := 0) dX0_hashRow_8 (by decide) ?_
    refine T_istore_n (pc := 9) (ls2 := [some (jR v0), some (jR v1), some (jI 1), some (jI 0)]) dX0_hashRow_9 rfl (Nat.le_of_ble_eq_true rfl) rfl ?_
    exact T.forget H ⟨rfl, rfl, rfl, rfl, trivial⟩
def F_X0_hashRow_10 (d : Nat) (v0 : Option Nm) (v1 : Option Nm) (v2 : Int32) (v3 : Int32) (h : MH) (u : Nat) (Q : Int32 → MH → Prop) : Prop :=
  gR h v1 4 2 fun x1 =>
  aN h x1 fun x2 =>
  if x2 ≤ v3 then
    Q v2 h
  else
    gI h v1 4 1 fun x3 =>
    gR h v1 4 2 fun x4 =>
    aL h x4 v3 fun x5 =>
    rc h v0 0 ∧ iI d u_X0_hashAny [jR v0, jI x3, jL x5] h u fun x6 h u =>
    L_X0_hashRow_10 d v0 v1 ((31 * v2) + x6) (v3 + 1) h u Q
set_option maxRecDepth 20000 in
theorem E_X0_hashRow_10 {d : Nat} {v0 : Option Nm} {v1 : Option Nm} {v2 : Int32} {v3 : Int32} {h : MH} {u : Nat} {Q : Int32 → MH → Prop} (H : F_X0_hashRow_10 d v0 v1 v2 v3 h u Q) : T u_X0_hashRow (d + 1) 10 [some (jR v0), some (jR v1), some (jI v2), some (jI v3)] [] h u (qI Q) := by
  unfold F_X0_hashRow_10 at H
  refine T_iload_n (pc := 10) dX0_hashRow_10 rfl rfl ?_
  refine T_aload_n (pc := 11) dX0_hashRow_11 rfl rfl ?_
  refine T_gR (pc := 12) fa_X0_95 dX0_hashRow_12 (gR_mono (fun x1 H => ?_) H)
  refine T_aN (pc := 15) dX0_hashRow_15 (aN_mono (fun x2 H => ?_) H)
  refine T_icmp_ge (pc := 16) (tgt := 45) dX0_hashRow_16 (by decide) (fun hc => ?_) (fun hc => ?_)
  · rw [if_pos hc] at H
    refine T_iload_n (pc := 45) dX0_hashRow_45 rfl rfl ?_
    exact T_ireturn (pc := 46) rfl rfl dX0_hashRow_46 H
  · rw [if_neg hc] at H
    refine T_bipush (pc := 19) (v := 31) dX0_hashRow_19 (by decide) ?_
    refine T_iload_n (pc := 21) dX0_hashRow_21 rfl rfl ?_
    refine T_imul (pc := 22) dX0_hashRow_22 ?_
    refine T_aload_n (pc := 23) dX0_hashRow_23 rfl rfl ?_
    refine T_aload_n (pc := 24) dX0_hashRow_24 rfl rfl ?_
    refine T_gI (pc := 25) fa_X0_90 dX0_hashRow_25 (gI_mono (fun x3 H => ?_) H)
    refine T_aload_n (pc := 28) dX0_hashRow_28 rfl rfl ?_
    refine T_gR (pc := 29) fa_X0_95 dX0_hashRow_29 (gR_mono (fun x4 H => ?_) H)
    refine T_iload_n (pc := 32) dX0_hashRow_32 rfl rfl ?_
    refine T_aL (pc := 33) dX0_hashRow_33 (aL_mono (fun x5 H => ?_) H)
    obtain ⟨H0, H⟩ := H
    refine T_iV (pc := 34) (ci := 0) (av := [jI x3, jL x5]) (rest := [jI (31 * v2)]) (o := v0) dX0_hashRow_34 mf_X0_hashAny c_4_65 c_4_67 pr_X0_hashAny rfl rfl (Nat.le_of_ble_eq_true rfl) rfl H0 (iI_k (iI_mono (fun x6 h u H => ?_) H))
    refine T_iadd (pc := 37) dX0_hashRow_37 ?_
    refine T_istore_n (pc := 38) (ls2 := [some (jR v0), some (jR v1), some (jI ((31 * v2) + x6)), some (jI v3)]) dX0_hashRow_38 rfl (Nat.le_of_ble_eq_true rfl) rfl ?_
    refine T_iinc (pc := 39) (v := v3 + 1) (ls2 := [some (jR v0), some (jR v1), some (jI ((31 * v2) + x6)), some (jI (v3 + 1))]) dX0_hashRow_39 rfl rfl (Nat.le_of_ble_eq_true rfl) rfl ?_
    refine T_goto (pc := 42) (tgt := 10) dX0_hashRow_42 (by decide) ?_
    exact T.forget H ⟨rfl, rfl, rfl, rfl, trivial⟩
theorem I_X0_hashRow {d : Nat} {v0 : Option Nm} {v1 : Option Nm} {h : MH} {u : Nat} {K : Int32 → MH → Nat → Prop} (u1 : Nat) (hu : u1 ≤ u) (H : F_X0_hashRow d v0 v1 h u1 (fun x h2 => K x h2 (u - u1))) : iI (d + 1) u_X0_hashRow [jR v0, jR v1] h u K := inv.of u1 hu (Ct.of (by decide +kernel) rfl (Nat.le_of_ble_eq_true rfl) rfl (E_X0_hashRow H))
theorem dX0_lesserFirst_0 : decode cX0_lesserFirst 0 = .ok (.lload_n 0, 1) := by decide +kernel
theorem dX0_lesserFirst_1 : decode cX0_lesserFirst 1 = .ok (.lload_n 2, 1) := by decide +kernel
theorem dX0_lesserFirst_2 : decode cX0_lesserFirst 2 = .ok (.lcmp, 1) := by decide +kernel
theorem dX0_lesserFirst_3 : decode cX0_lesserFirst 3 = .ok (.ifCond .ne 5, 3) := by decide +kernel
theorem dX0_lesserFirst_6 : decode cX0_lesserFirst 6 = .ok (.iconst 0, 1) := by decide +kernel
theorem dX0_lesserFirst_7 : decode cX0_lesserFirst 7 = .ok (.ireturn, 1) := by decide +kernel
theorem dX0_lesserFirst_8 : decode cX0_lesserFirst 8 = .ok (.lload_n 0, 1) := by decide +kernel
theorem dX0_lesserFirst_9 : decode cX0_lesserFirst 9 = .ok (.lload_n 2, 1) := by decide +kernel
theorem dX0_lesserFirst_10 : decode cX0_lesserFirst 10 = .ok (.lcmp, 1) := by decide +kernel
theorem dX0_lesserFirst_11 : decode cX0_lesserFirst 11 = .ok (.ifCond .ge 7, 3) := by decide +kernel
theorem dX0_lesserFirst_14 : decode cX0_lesserFirst 14 = .ok (.iconst (-1), 1) := by decide +kernel
theorem dX0_lesserFirst_15 : decode cX0_lesserFirst 15 = .ok (.goto 4, 3) := by decide +kernel
theorem dX0_lesserFirst_18 : decode cX0_lesserFirst 18 = .ok (.iconst 1, 1) := by decide +kernel
theorem dX0_lesserFirst_19 : decode cX0_lesserFirst 19 = .ok (.ireturn, 1) := by decide +kernel
def F_X0_lesserFirst (d : Nat) (v0 : Int64) (v2 : Int64) (h : MH) (u : Nat) (Q : Int32 → MH → Prop) : Prop :=
  if (lg_cmp v0 v2) = 0 then
    Q 0 h
  else
    if 0 ≤ (lg_cmp v0 v2) then
      Q 1 h
    else
      Q (-1) h
set_option maxRecDepth 20000 in
theorem E_X0_lesserFirst {d : Nat} {v0 : Int64} {v2 : Int64} {h : MH} {u : Nat} {Q : Int32 → MH → Prop} (H : F_X0_lesserFirst d v0 v2 h u Q) : T u_X0_lesserFirst d 0 [some (jL v0), none, some (jL v2), none] [] h u (qI Q) := by
  unfold F_X0_lesserFirst at H
  refine T_lload_n (pc := 0) dX0_lesserFirst_0 rfl rfl ?_
  refine T_lload_n (pc := 1) dX0_lesserFirst_1 rfl rfl ?_
  refine T_lcmp (pc := 2) dX0_lesserFirst_2 ?_
  refine T_if_ne (pc := 3) (tgt := 8) dX0_lesserFirst_3 (by decide) (fun hc => ?_) (fun hc => ?_)
  · rw [if_neg hc] at H
    refine T_lload_n (pc := 8) dX0_lesserFirst_8 rfl rfl ?_
    refine T_lload_n (pc := 9) dX0_lesserFirst_9 rfl rfl ?_
    refine T_lcmp (pc := 10) dX0_lesserFirst_10 ?_
    refine T_if_ge (pc := 11) (tgt := 18) dX0_lesserFirst_11 (by decide) (fun hc => ?_) (fun hc => ?_)
    · rw [if_pos hc] at H
      refine T_iconst (pc := 18) (v := 1) dX0_lesserFirst_18 (by decide) ?_
      exact T_ireturn (pc := 19) rfl rfl dX0_lesserFirst_19 H
    · rw [if_neg hc] at H
      refine T_iconst (pc := 14) (v := (-1)) dX0_lesserFirst_14 (by decide) ?_
      refine T_goto (pc := 15) (tgt := 19) dX0_lesserFirst_15 (by decide) ?_
      exact T_ireturn (pc := 19) rfl rfl dX0_lesserFirst_19 H
  · rw [if_pos hc] at H
    refine T_iconst (pc := 6) (v := 0) dX0_lesserFirst_6 (by decide) ?_
    exact T_ireturn (pc := 7) rfl rfl dX0_lesserFirst_7 H
theorem I_X0_lesserFirst {d : Nat} {v0 : Int64} {v2 : Int64} {h : MH} {u : Nat} {K : Int32 → MH → Nat → Prop} (u1 : Nat) (hu : u1 ≤ u) (H : F_X0_lesserFirst d v0 v2 h u1 (fun x h2 => K x h2 (u - u1))) : iI d u_X0_lesserFirst [jL v0, jL v2] h u K := inv.of u1 hu (Ct.of (by decide +kernel) rfl (Nat.le_of_ble_eq_true rfl) rfl (E_X0_lesserFirst H))
theorem dX0_nothingFirst_0 : decode cX0_nothingFirst 0 = .ok (.iload_n 0, 1) := by decide +kernel
theorem dX0_nothingFirst_1 : decode cX0_nothingFirst 1 = .ok (.invokestatic 109, 3) := by decide +kernel
theorem dX0_nothingFirst_4 : decode cX0_nothingFirst 4 = .ok (.iload_n 1, 1) := by decide +kernel
theorem dX0_nothingFirst_5 : decode cX0_nothingFirst 5 = .ok (.invokestatic 109, 3) := by decide +kernel
theorem dX0_nothingFirst_8 : decode cX0_nothingFirst 8 = .ok (.isub, 1) := by decide +kernel
theorem dX0_nothingFirst_9 : decode cX0_nothingFirst 9 = .ok (.ireturn, 1) := by decide +kernel
def F_X0_nothingFirst (d : Nat) (v0 : Int32) (v1 : Int32) (h : MH) (u : Nat) (Q : Int32 → MH → Prop) : Prop :=
  iI d u_X11_oneIf [jI v0] h u fun x1 h u =>
  iI d u_X11_oneIf [jI v1] h u fun x2 h u =>
  Q (x1 - x2) h
set_option maxRecDepth 20000 in
theorem E_X0_nothingFirst {d : Nat} {v0 : Int32} {v1 : Int32} {h : MH} {u : Nat} {Q : Int32 → MH → Prop} (H : F_X0_nothingFirst d v0 v1 h u Q) : T u_X0_nothingFirst (d + 1) 0 [some (jI v0), some (jI v1)] [] h u (qI Q) := by
  unfold F_X0_nothingFirst at H
  refine T_iload_n (pc := 0) dX0_nothingFirst_0 rfl rfl ?_
  refine T_invN (pc := 1) (av := [jI v0]) (rest := []) dX0_nothingFirst_1 mf_X11_oneIf (host := "RecordBridge") (by decide) c_2_84 rfl (Nat.le_of_ble_eq_true rfl) rfl (iI_k (iI_mono (fun x1 h u H => ?_) H))
  refine T_iload_n (pc := 4) dX0_nothingFirst_4 rfl rfl ?_
  refine T_invN (pc := 5) (av := [jI v1]) (rest := [jI x1]) dX0_nothingFirst_5 mf_X11_oneIf (host := "RecordBridge") (by decide) c_2_84 rfl (Nat.le_of_ble_eq_true rfl) rfl (iI_k (iI_mono (fun x2 h u H => ?_) H))
  refine T_isub (pc := 8) dX0_nothingFirst_8 ?_
  exact T_ireturn (pc := 9) rfl rfl dX0_nothingFirst_9 H
theorem I_X0_nothingFirst {d : Nat} {v0 : Int32} {v1 : Int32} {h : MH} {u : Nat} {K : Int32 → MH → Nat → Prop} (u1 : Nat) (hu : u1 ≤ u) (H : F_X0_nothingFirst d v0 v1 h u1 (fun x h2 => K x h2 (u - u1))) : iI (d + 1) u_X0_nothingFirst [jI v0, jI v1] h u K := inv.of u1 hu (Ct.of (by decide +kernel) rfl (Nat.le_of_ble_eq_true rfl) rfl (E_X0_nothingFirst H))
theorem dX6_init_0 : decode cX6_init 0 = .ok (.aload_n 0, 1) := by decide +kernel
theorem dX6_init_1 : decode cX6_init 1 = .ok (.invokespecial 1, 3) := by decide +kernel
theorem dX6_init_4 : decode cX6_init 4 = .ok (.aload_n 0, 1) := by decide +kernel
theorem dX6_init_5 : decode cX6_init 5 = .ok (.aload_n 1, 1) := by decide +kernel
theorem dX6_init_6 : decode cX6_init 6 = .ok (.putfield 7, 3) := by decide +kernel
theorem dX6_init_9 : decode cX6_init 9 = .ok (.aload_n 0, 1) := by decide +kernel
theorem dX6_init_10 : decode cX6_init 10 = .ok (.new 13, 3) := by decide +kernel
theorem dX6_init_13 : decode cX6_init 13 = .ok (.dup, 1) := by decide +kernel
theorem dX6_init_14 : decode cX6_init 14 = .ok (.invokespecial 15, 3) := by decide +kernel
theorem dX6_init_17 : decode cX6_init 17 = .ok (.putfield 16, 3) := by decide +kernel
theorem dX6_init_20 : decode cX6_init 20 = .ok (.aload_n 0, 1) := by decide +kernel
theorem dX6_init_21 : decode cX6_init 21 = .ok (.new 13, 3) := by decide +kernel
theorem dX6_init_24 : decode cX6_init 24 = .ok (.dup, 1) := by decide +kernel
theorem dX6_init_25 : decode cX6_init 25 = .ok (.invokespecial 15, 3) := by decide +kernel
theorem dX6_init_28 : decode cX6_init 28 = .ok (.putfield 20, 3) := by decide +kernel
theorem dX6_init_31 : decode cX6_init 31 = .ok (.return_, 1) := by decide +kernel
def F_X6_init (d : Nat) (v0 : Option Nm) (v1 : Option Nm) (h : MH) (u : Nat) (Q : MH → Prop) : Prop :=
  nn v0 <|
  pV h v0 5 0 (jR v1) fun h =>
  nO h u 7 [jR none, jR none, jI 0, jI 0] fun x1 h u =>
  iV d u_X8_init [jR (some x1)] h u fun h u =>
  pV h v0 5 1 (jR (some x1)) fun h =>
  nO h u 7 [jR none, jR none, jI 0, jI 0] fun x3 h u =>
  iV d u_X8_init [jR (some x3)] h u fun h u =>
  pV h v0 5 2 (jR (some x3)) fun h =>
  Q h
set_option maxRecDepth 20000 in
theorem E_X6_init {d : Nat} {v0 : Option Nm} {v1 : Option Nm} {h : MH} {u : Nat} {Q : MH → Prop} (H : F_X6_init d v0 v1 h u Q) : T u_X6_init (d + 1) 0 [some (jR v0), some (jR v1)] [] h u (qV Q) := by
  unfold F_X6_init at H
  refine T_aload_n (pc := 0) dX6_init_0 rfl rfl ?_
  obtain ⟨n0, H0, H⟩ := nn_out H
  refine T_objInit (pc := 1) dX6_init_1 c_1_103 c_1_25 c_1_26 H0 (Nat.le_of_ble_eq_true rfl) ?_
  refine T_aload_n (pc := 4) dX6_init_4 rfl rfl ?_
  refine T_aload_n (pc := 5) dX6_init_5 rfl rfl ?_
  refine T_pVF (pc := 6) fa_X6_7 rfl rfl dX6_init_6 trivial (pV_mono (fun h H => ?_) H)
  refine T_aload_n (pc := 9) dX6_init_9 rfl rfl ?_
  refine T_nO (pc := 10) nf_X6_13 dX6_init_10 (nO_mono (fun x1 h u H => ?_) H)
  refine T_dup (pc := 13) rfl dX6_init_13 ?_
  refine T_invI (pc := 14) (av := []) (rest := [jR (some x1), jR v0]) dX6_init_14 mf_X8_init rfl rfl c_1_106 c_1_107 rfl (Nat.le_of_ble_eq_true rfl) rfl (iV_k (iV_mono (fun h u H => ?_) H))
  refine T_pV (pc := 17) fa_X6_16 dX6_init_17 trivial (pV_mono (fun h H => ?_) H)
  refine T_aload_n (pc := 20) dX6_init_20 rfl rfl ?_
  refine T_nO (pc := 21) nf_X6_13 dX6_init_21 (nO_mono (fun x3 h u H => ?_) H)
  refine T_dup (pc := 24) rfl dX6_init_24 ?_
  refine T_invI (pc := 25) (av := []) (rest := [jR (some x3), jR v0]) dX6_init_25 mf_X8_init rfl rfl c_1_106 c_1_107 rfl (Nat.le_of_ble_eq_true rfl) rfl (iV_k (iV_mono (fun h u H => ?_) H))
  refine T_pV (pc := 28) fa_X6_20 dX6_init_28 trivial (pV_mono (fun h H => ?_) H)
  exact T_return (pc := 31) rfl dX6_init_31 H
theorem I_X6_init {d : Nat} {v0 : Option Nm} {v1 : Option Nm} {h : MH} {u : Nat} {K : MH → Nat → Prop} (u1 : Nat) (hu : u1 ≤ u) (H : F_X6_init d v0 v1 h u1 (fun h2 => K h2 (u - u1))) : iV (d + 1) u_X6_init [jR v0, jR v1] h u K := inv.of u1 hu (Ct.of (by decide +kernel) rfl (Nat.le_of_ble_eq_true rfl) rfl (E_X6_init H))
theorem dX6_writes_0 : decode cX6_writes 0 = .ok (.aload_n 0, 1) := by decide +kernel
theorem dX6_writes_1 : decode cX6_writes 1 = .ok (.getfield 20, 3) := by decide +kernel
theorem dX6_writes_4 : decode cX6_writes 4 = .ok (.invokevirtual 23, 3) := by decide +kernel
theorem dX6_writes_7 : decode cX6_writes 7 = .ok (.aload_n 0, 1) := by decide +kernel
theorem dX6_writes_8 : decode cX6_writes 8 = .ok (.aload_n 1, 1) := by decide +kernel
theorem dX6_writes_9 : decode cX6_writes 9 = .ok (.invokevirtual 26, 3) := by decide +kernel
theorem dX6_writes_12 : decode cX6_writes 12 = .ok (.aload_n 0, 1) := by decide +kernel
theorem dX6_writes_13 : decode cX6_writes 13 = .ok (.getfield 20, 3) := by decide +kernel
theorem dX6_writes_16 : decode cX6_writes 16 = .ok (.getfield 30, 3) := by decide +kernel
theorem dX6_writes_19 : decode cX6_writes 19 = .ok (.ifCond .eq 5, 3) := by decide +kernel
theorem dX6_writes_22 : decode cX6_writes 22 = .ok (.iconst 0, 1) := by decide +kernel
theorem dX6_writes_23 : decode cX6_writes 23 = .ok (.ireturn, 1) := by decide +kernel
theorem dX6_writes_24 : decode cX6_writes 24 = .ok (.aload_n 0, 1) := by decide +kernel
theorem dX6_writes_25 : decode cX6_writes 25 = .ok (.getfield 16, 3) := by decide +kernel
theorem dX6_writes_28 : decode cX6_writes 28 = .ok (.astore_n 2, 1) := by decide +kernel
theorem dX6_writes_29 : decode cX6_writes 29 = .ok (.aload_n 0, 1) := by decide +kernel
theorem dX6_writes_30 : decode cX6_writes 30 = .ok (.aload_n 0, 1) := by decide +kernel
theorem dX6_writes_31 : decode cX6_writes 31 = .ok (.getfield 20, 3) := by decide +kernel
theorem dX6_writes_34 : decode cX6_writes 34 = .ok (.putfield 16, 3) := by decide +kernel
theorem dX6_writes_37 : decode cX6_writes 37 = .ok (.aload_n 0, 1) := by decide +kernel
theorem dX6_writes_38 : decode cX6_writes 38 = .ok (.aload_n 2, 1) := by decide +kernel
theorem dX6_writes_39 : decode cX6_writes 39 = .ok (.putfield 20, 3) := by decide +kernel
theorem dX6_writes_42 : decode cX6_writes 42 = .ok (.iconst 1, 1) := by decide +kernel
theorem dX6_writes_43 : decode cX6_writes 43 = .ok (.ireturn, 1) := by decide +kernel
def F_X6_writes (d : Nat) (v0 : Option Nm) (v1 : Option Nm) (h : MH) (u : Nat) (Q : Int32 → MH → Prop) : Prop :=
  gR h v0 5 2 fun x1 =>
  rc h x1 7 ∧ iV d u_X8_clear [jR x1] h u fun h u =>
  rc h v0 5 ∧ iV d u_X6_writeValue [jR v0, jR v1] h u fun h u =>
  gR h v0 5 2 fun x4 =>
  gI h x4 7 3 fun x5 =>
  if x5 = 0 then
    gR h v0 5 1 fun x6 =>
    gR h v0 5 2 fun x7 =>
    pV h v0 5 1 (jR x7) fun h =>
    pV h v0 5 2 (jR x6) fun h =>
    nz 1 ∧ Q 1 h
  else
    nz 0 ∧ Q 0 h
set_option maxRecDepth 20000 in
theorem E_X6_writes {d : Nat} {v0 : Option Nm} {v1 : Option Nm} {h : MH} {u : Nat} {Q : Int32 → MH → Prop} (H : F_X6_writes d v0 v1 h u Q) : T u_X6_writes (d + 1) 0 [some (jR v0), some (jR v1), none] [] h u (qI Q) := by
  unfold F_X6_writes at H
  refine T_aload_n (pc := 0) dX6_writes_0 rfl rfl ?_
  refine T_gR (pc := 1) fa_X6_20 dX6_writes_1 (gR_mono (fun x1 H => ?_) H)
  obtain ⟨H0, H⟩ := H
  refine T_iV (pc := 4) (ci := 7) (av := []) (rest := []) (o := x1) dX6_writes_4 mf_X8_clear c_4_117 c_4_118 c_4_119 rfl rfl (Nat.le_of_ble_eq_true rfl) rfl H0 (iV_k (iV_mono (fun h u H => ?_) H))
  refine T_aload_n (pc := 7) dX6_writes_7 rfl rfl ?_
  refine T_aload_n (pc := 8) dX6_writes_8 rfl rfl ?_
  obtain ⟨H0, H⟩ := H
  refine T_iV (pc := 9) (ci := 5) (av := [jR v1]) (rest := []) (o := v0) dX6_writes_9 mf_X6_writeValue c_4_121 c_4_123 pr_X6_writeValue rfl rfl (Nat.le_of_ble_eq_true rfl) rfl H0 (iV_k (iV_mono (fun h u H => ?_) H))
  refine T_aload_n (pc := 12) dX6_writes_12 rfl rfl ?_
  refine T_gR (pc := 13) fa_X6_20 dX6_writes_13 (gR_mono (fun x4 H => ?_) H)
  refine T_gI (pc := 16) fa_X6_30 dX6_writes_16 (gI_mono (fun x5 H => ?_) H)
  refine T_if_eq (pc := 19) (tgt := 24) dX6_writes_19 (by decide) (fun hc => ?_) (fun hc => ?_)
  · rw [if_pos hc] at H
    refine T_aload_n (pc := 24) dX6_writes_24 rfl rfl ?_
    refine T_gR (pc := 25) fa_X6_16 dX6_writes_25 (gR_mono (fun x6 H => ?_) H)
    refine T_astore_n (pc := 28) (ls2 := [some (jR v0), some (jR v1), some (jR x6)]) dX6_writes_28 rfl (Nat.le_of_ble_eq_true rfl) rfl ?_
    refine T_aload_n (pc := 29) dX6_writes_29 rfl rfl ?_
    refine T_aload_n (pc := 30) dX6_writes_30 rfl rfl ?_
    refine T_gR (pc := 31) fa_X6_20 dX6_writes_31 (gR_mono (fun x7 H => ?_) H)
    refine T_pV (pc := 34) fa_X6_16 dX6_writes_34 trivial (pV_mono (fun h H => ?_) H)
    refine T_aload_n (pc := 37) dX6_writes_37 rfl rfl ?_
    refine T_aload_n (pc := 38) dX6_writes_38 rfl rfl ?_
    refine T_pV (pc := 39) fa_X6_20 dX6_writes_39 trivial (pV_mono (fun h H => ?_) H)
    refine T_iconst (pc := 42) (v := 1) dX6_writes_42 (by decide) ?_
    exact T_ireturn (pc := 43) rfl (nz_nar H.1) dX6_writes_43 H.2
  · rw [if_neg hc] at H
    refine T_iconst (pc := 22) (v := 0) dX6_writes_22 (by decide) ?_
    exact T_ireturn (pc := 23) rfl (nz_nar H.1) dX6_writes_23 H.2
theorem I_X6_writes {d : Nat} {v0 : Option Nm} {v1 : Option Nm} {h : MH} {u : Nat} {K : Int32 → MH → Nat → Prop} (u1 : Nat) (hu : u1 ≤ u) (H : F_X6_writes d v0 v1 h u1 (fun x h2 => K x h2 (u - u1))) : iI (d + 1) u_X6_writes [jR v0, jR v1] h u K := inv.of u1 hu (Ct.of (by decide +kernel) rfl (Nat.le_of_ble_eq_true rfl) rfl (E_X6_writes H))
theorem dX6_writeValue_0 : decode cX6_writeValue 0 = .ok (.aload_n 1, 1) := by decide +kernel
theorem dX6_writeValue_1 : decode cX6_writeValue 1 = .ok (.ifnonnull 15, 3) := by decide +kernel
theorem dX6_writeValue_4 : decode cX6_writeValue 4 = .ok (.aload_n 0, 1) := by decide +kernel
theorem dX6_writeValue_5 : decode cX6_writeValue 5 = .ok (.getfield 20, 3) := by decide +kernel
theorem dX6_writeValue_8 : decode cX6_writeValue 8 = .ok (.bipush 33, 2) := by decide +kernel
theorem dX6_writeValue_10 : decode cX6_writeValue 10 = .ok (.invokevirtual 34, 3) := by decide +kernel
theorem dX6_writeValue_13 : decode cX6_writeValue 13 = .ok (.goto 42, 3) := by decide +kernel
theorem dX6_writeValue_16 : decode cX6_writeValue 16 = .ok (.aload_n 1, 1) := by decide +kernel
theorem dX6_writeValue_17 : decode cX6_writeValue 17 = .ok (.getfield 38, 3) := by decide +kernel
theorem dX6_writeValue_20 : decode cX6_writeValue 20 = .ok (.getfield 44, 3) := by decide +kernel
theorem dX6_writeValue_23 : decode cX6_writeValue 23 = .ok (.ifCond .eq 27, 3) := by decide +kernel
theorem dX6_writeValue_26 : decode cX6_writeValue 26 = .ok (.aload_n 0, 1) := by decide +kernel
theorem dX6_writeValue_27 : decode cX6_writeValue 27 = .ok (.getfield 20, 3) := by decide +kernel
theorem dX6_writeValue_30 : decode cX6_writeValue 30 = .ok (.bipush 35, 2) := by decide +kernel
theorem dX6_writeValue_32 : decode cX6_writeValue 32 = .ok (.invokevirtual 34, 3) := by decide +kernel
theorem dX6_writeValue_35 : decode cX6_writeValue 35 = .ok (.aload_n 0, 1) := by decide +kernel
theorem dX6_writeValue_36 : decode cX6_writeValue 36 = .ok (.getfield 20, 3) := by decide +kernel
theorem dX6_writeValue_39 : decode cX6_writeValue 39 = .ok (.aload_n 1, 1) := by decide +kernel
theorem dX6_writeValue_40 : decode cX6_writeValue 40 = .ok (.getfield 49, 3) := by decide +kernel
theorem dX6_writeValue_43 : decode cX6_writeValue 43 = .ok (.i2l, 1) := by decide +kernel
theorem dX6_writeValue_44 : decode cX6_writeValue 44 = .ok (.invokevirtual 53, 3) := by decide +kernel
theorem dX6_writeValue_47 : decode cX6_writeValue 47 = .ok (.goto 8, 3) := by decide +kernel
theorem dX6_writeValue_50 : decode cX6_writeValue 50 = .ok (.aload_n 0, 1) := by decide +kernel
theorem dX6_writeValue_51 : decode cX6_writeValue 51 = .ok (.aload_n 1, 1) := by decide +kernel
theorem dX6_writeValue_52 : decode cX6_writeValue 52 = .ok (.invokevirtual 57, 3) := by decide +kernel
theorem dX6_writeValue_55 : decode cX6_writeValue 55 = .ok (.return_, 1) := by decide +kernel
def F_X6_writeValue (d : Nat) (v0 : Option Nm) (v1 : Option Nm) (h : MH) (u : Nat) (Q : MH → Prop) : Prop :=
  nl v1 (
    gR h v0 5 2 fun x1 =>
    rc h x1 7 ∧ iV d u_X8_addSign [jR x1, jI 33] h u fun h u =>
    Q h) (
    gR h v1 9 1 fun x3 =>
    gI h x3 3 1 fun x4 =>
    if x4 = 0 then
      rc h v0 5 ∧ iV d u_X6_writeRecord [jR v0, jR v1] h u fun h u =>
      Q h
    else
      gR h v0 5 2 fun x6 =>
      rc h x6 7 ∧ iV d u_X8_addSign [jR x6, jI 35] h u fun h u =>
      gR h v0 5 2 fun x8 =>
      gI h v1 9 4 fun x9 =>
      rc h x8 7 ∧ iV d u_X8_addNumber [jR x8, jL (x9.toInt64)] h u fun h u =>
      Q h)
set_option maxRecDepth 20000 in
theorem E_X6_writeValue {d : Nat} {v0 : Option Nm} {v1 : Option Nm} {h : MH} {u : Nat} {Q : MH → Prop} (H : F_X6_writeValue d v0 v1 h u Q) : T u_X6_writeValue (d + 1) 0 [some (jR v0), some (jR v1)] [] h u (qV Q) := by
  unfold F_X6_writeValue at H
  refine T_aload_n (pc := 0) dX6_writeValue_0 rfl rfl ?_
  refine T_ifnonnull (pc := 1) (tgt := 16) dX6_writeValue_1 (by decide) (fun ho => ?_) (fun n ho => ?_)
  · replace H := nl_n ho H
    refine T_aload_n (pc := 4) dX6_writeValue_4 rfl rfl ?_
    refine T_gR (pc := 5) fa_X6_20 dX6_writeValue_5 (gR_mono (fun x1 H => ?_) H)
    refine T_bipush (pc := 8) (v := 33) dX6_writeValue_8 (by decide) ?_
    obtain ⟨H0, H⟩ := H
    refine T_iV (pc := 10) (ci := 7) (av := [jI 33]) (rest := []) (o := x1) dX6_writeValue_10 mf_X8_addSign c_4_125 c_4_126 c_4_127 rfl rfl (Nat.le_of_ble_eq_true rfl) rfl H0 (iV_k (iV_mono (fun h u H => ?_) H))
    refine T_goto (pc := 13) (tgt := 55) dX6_writeValue_13 (by decide) ?_
    exact T_return (pc := 55) rfl dX6_writeValue_55 H
  · replace H := nl_s ho H
    refine T_aload_n (pc := 16) dX6_writeValue_16 rfl rfl ?_
    refine T_gR (pc := 17) fa_X6_38 dX6_writeValue_17 (gR_mono (fun x3 H => ?_) H)
    refine T_gI (pc := 20) fa_X6_44 dX6_writeValue_20 (gI_mono (fun x4 H => ?_) H)
    refine T_if_eq (pc := 23) (tgt := 50) dX6_writeValue_23 (by decide) (fun hc => ?_) (fun hc => ?_)
    · rw [if_pos hc] at H
      refine T_aload_n (pc := 50) dX6_writeValue_50 rfl rfl ?_
      refine T_aload_n (pc := 51) dX6_writeValue_51 rfl rfl ?_
      obtain ⟨H0, H⟩ := H
      refine T_iV (pc := 52) (ci := 5) (av := [jR v1]) (rest := []) (o := v0) dX6_writeValue_52 mf_X6_writeRecord c_4_136 c_4_138 pr_X6_writeRecord rfl rfl (Nat.le_of_ble_eq_true rfl) rfl H0 (iV_k (iV_mono (fun h u H => ?_) H))
      exact T_return (pc := 55) rfl dX6_writeValue_55 H
    · rw [if_neg hc] at H
      refine T_aload_n (pc := 26) dX6_writeValue_26 rfl rfl ?_
      refine T_gR (pc := 27) fa_X6_20 dX6_writeValue_27 (gR_mono (fun x6 H => ?_) H)
      refine T_bipush (pc := 30) (v := 35) dX6_writeValue_30 (by decide) ?_
      obtain ⟨H0, H⟩ := H
      refine T_iV (pc := 32) (ci := 7) (av := [jI 35]) (rest := []) (o := x6) dX6_writeValue_32 mf_X8_addSign c_4_125 c_4_126 c_4_127 rfl rfl (Nat.le_of_ble_eq_true rfl) rfl H0 (iV_k (iV_mono (fun h u H => ?_) H))
      refine T_aload_n (pc := 35) dX6_writeValue_35 rfl rfl ?_
      refine T_gR (pc := 36) fa_X6_20 dX6_writeValue_36 (gR_mono (fun x8 H => ?_) H)
      refine T_aload_n (pc := 39) dX6_writeValue_39 rfl rfl ?_
      refine T_gI (pc := 40) fa_X6_49 dX6_writeValue_40 (gI_mono (fun x9 H => ?_) H)
      refine T_i2l (pc := 43) dX6_writeValue_43 ?_
      obtain ⟨H0, H⟩ := H
      refine T_iV (pc := 44) (ci := 7) (av := [jL (x9.toInt64)]) (rest := []) (o := x8) dX6_writeValue_44 mf_X8_addNumber c_4_129 c_4_130 c_4_131 rfl rfl (Nat.le_of_ble_eq_true rfl) rfl H0 (iV_k (iV_mono (fun h u H => ?_) H))
      refine T_goto (pc := 47) (tgt := 55) dX6_writeValue_47 (by decide) ?_
      exact T_return (pc := 55) rfl dX6_writeValue_55 H
theorem I_X6_writeValue {d : Nat} {v0 : Option Nm} {v1 : Option Nm} {h : MH} {u : Nat} {K : MH → Nat → Prop} (u1 : Nat) (hu : u1 ≤ u) (H : F_X6_writeValue d v0 v1 h u1 (fun h2 => K h2 (u - u1))) : iV (d + 1) u_X6_writeValue [jR v0, jR v1] h u K := inv.of u1 hu (Ct.of (by decide +kernel) rfl (Nat.le_of_ble_eq_true rfl) rfl (E_X6_writeValue H))
theorem dX6_writeRecord_0 : decode cX6_writeRecord 0 = .ok (.aload_n 0, 1) := by decide +kernel
theorem dX6_writeRecord_1 : decode cX6_writeRecord 1 = .ok (.getfield 20, 3) := by decide +kernel
theorem dX6_writeRecord_4 : decode cX6_writeRecord 4 = .ok (.aload_n 1, 1) := by decide +kernel
theorem dX6_writeRecord_5 : decode cX6_writeRecord 5 = .ok (.getfield 38, 3) := by decide +kernel
theorem dX6_writeRecord_8 : decode cX6_writeRecord 8 = .ok (.getfield 60, 3) := by decide +kernel
theorem dX6_writeRecord_11 : decode cX6_writeRecord 11 = .ok (.i2l, 1) := by decide +kernel
theorem dX6_writeRecord_12 : decode cX6_writeRecord 12 = .ok (.invokevirtual 53, 3) := by decide +kernel
theorem dX6_writeRecord_15 : decode cX6_writeRecord 15 = .ok (.aload_n 0, 1) := by decide +kernel
theorem dX6_writeRecord_16 : decode cX6_writeRecord 16 = .ok (.getfield 20, 3) := by decide +kernel
theorem dX6_writeRecord_19 : decode cX6_writeRecord 19 = .ok (.bipush 40, 2) := by decide +kernel
theorem dX6_writeRecord_21 : decode cX6_writeRecord 21 = .ok (.invokevirtual 34, 3) := by decide +kernel
theorem dX6_writeRecord_24 : decode cX6_writeRecord 24 = .ok (.iconst 0, 1) := by decide +kernel
theorem dX6_writeRecord_25 : decode cX6_writeRecord 25 = .ok (.istore_n 2, 1) := by decide +kernel
theorem dX6_writeRecord_26 : decode cX6_writeRecord 26 = .ok (.iload_n 2, 1) := by decide +kernel
theorem dX6_writeRecord_27 : decode cX6_writeRecord 27 = .ok (.aload_n 1, 1) := by decide +kernel
theorem dX6_writeRecord_28 : decode cX6_writeRecord 28 = .ok (.getfield 63, 3) := by decide +kernel
theorem dX6_writeRecord_31 : decode cX6_writeRecord 31 = .ok (.arraylength, 1) := by decide +kernel
theorem dX6_writeRecord_32 : decode cX6_writeRecord 32 = .ok (.if_icmp .ge 77, 3) := by decide +kernel
theorem dX6_writeRecord_35 : decode cX6_writeRecord 35 = .ok (.aload_n 0, 1) := by decide +kernel
theorem dX6_writeRecord_36 : decode cX6_writeRecord 36 = .ok (.getfield 20, 3) := by decide +kernel
theorem dX6_writeRecord_39 : decode cX6_writeRecord 39 = .ok (.getfield 30, 3) := by decide +kernel
theorem dX6_writeRecord_42 : decode cX6_writeRecord 42 = .ok (.ifCond .ne 67, 3) := by decide +kernel
theorem dX6_writeRecord_45 : decode cX6_writeRecord 45 = .ok (.iload_n 2, 1) := by decide +kernel
theorem dX6_writeRecord_46 : decode cX6_writeRecord 46 = .ok (.ifCond .le 12, 3) := by decide +kernel
theorem dX6_writeRecord_49 : decode cX6_writeRecord 49 = .ok (.aload_n 0, 1) := by decide +kernel
theorem dX6_writeRecord_50 : decode cX6_writeRecord 50 = .ok (.getfield 20, 3) := by decide +kernel
theorem dX6_writeRecord_53 : decode cX6_writeRecord 53 = .ok (.bipush 44, 2) := by decide +kernel
theorem dX6_writeRecord_55 : decode cX6_writeRecord 55 = .ok (.invokevirtual 34, 3) := by decide +kernel
theorem dX6_writeRecord_58 : decode cX6_writeRecord 58 = .ok (.aload_n 0, 1) := by decide +kernel
theorem dX6_writeRecord_59 : decode cX6_writeRecord 59 = .ok (.getfield 20, 3) := by decide +kernel
theorem dX6_writeRecord_62 : decode cX6_writeRecord 62 = .ok (.aload_n 1, 1) := by decide +kernel
theorem dX6_writeRecord_63 : decode cX6_writeRecord 63 = .ok (.getfield 67, 3) := by decide +kernel
theorem dX6_writeRecord_66 : decode cX6_writeRecord 66 = .ok (.getfield 71, 3) := by decide +kernel
theorem dX6_writeRecord_69 : decode cX6_writeRecord 69 = .ok (.iload_n 2, 1) := by decide +kernel
theorem dX6_writeRecord_70 : decode cX6_writeRecord 70 = .ok (.iaload, 1) := by decide +kernel
theorem dX6_writeRecord_71 : decode cX6_writeRecord 71 = .ok (.i2l, 1) := by decide +kernel
theorem dX6_writeRecord_72 : decode cX6_writeRecord 72 = .ok (.invokevirtual 53, 3) := by decide +kernel
theorem dX6_writeRecord_75 : decode cX6_writeRecord 75 = .ok (.aload_n 0, 1) := by decide +kernel
theorem dX6_writeRecord_76 : decode cX6_writeRecord 76 = .ok (.getfield 20, 3) := by decide +kernel
theorem dX6_writeRecord_79 : decode cX6_writeRecord 79 = .ok (.bipush 61, 2) := by decide +kernel
theorem dX6_writeRecord_81 : decode cX6_writeRecord 81 = .ok (.invokevirtual 34, 3) := by decide +kernel
theorem dX6_writeRecord_84 : decode cX6_writeRecord 84 = .ok (.aload_n 0, 1) := by decide +kernel
theorem dX6_writeRecord_85 : decode cX6_writeRecord 85 = .ok (.aload_n 1, 1) := by decide +kernel
theorem dX6_writeRecord_86 : decode cX6_writeRecord 86 = .ok (.getfield 67, 3) := by decide +kernel
theorem dX6_writeRecord_89 : decode cX6_writeRecord 89 = .ok (.getfield 77, 3) := by decide +kernel
theorem dX6_writeRecord_92 : decode cX6_writeRecord 92 = .ok (.iload_n 2, 1) := by decide +kernel
theorem dX6_writeRecord_93 : decode cX6_writeRecord 93 = .ok (.iaload, 1) := by decide +kernel
theorem dX6_writeRecord_94 : decode cX6_writeRecord 94 = .ok (.aload_n 1, 1) := by decide +kernel
theorem dX6_writeRecord_95 : decode cX6_writeRecord 95 = .ok (.getfield 63, 3) := by decide +kernel
theorem dX6_writeRecord_98 : decode cX6_writeRecord 98 = .ok (.iload_n 2, 1) := by decide +kernel
theorem dX6_writeRecord_99 : decode cX6_writeRecord 99 = .ok (.laload, 1) := by decide +kernel
theorem dX6_writeRecord_100 : decode cX6_writeRecord 100 = .ok (.invokevirtual 80, 3) := by decide +kernel
theorem dX6_writeRecord_103 : decode cX6_writeRecord 103 = .ok (.iinc 2 1, 3) := by decide +kernel
theorem dX6_writeRecord_106 : decode cX6_writeRecord 106 = .ok (.goto (-80), 3) := by decide +kernel
theorem dX6_writeRecord_109 : decode cX6_writeRecord 109 = .ok (.aload_n 0, 1) := by decide +kernel
theorem dX6_writeRecord_110 : decode cX6_writeRecord 110 = .ok (.getfield 20, 3) := by decide +kernel
theorem dX6_writeRecord_113 : decode cX6_writeRecord 113 = .ok (.bipush 41, 2) := by decide +kernel
theorem dX6_writeRecord_115 : decode cX6_writeRecord 115 = .ok (.invokevirtual 34, 3) := by decide +kernel
theorem dX6_writeRecord_118 : decode cX6_writeRecord 118 = .ok (.return_, 1) := by decide +kernel
def L_X6_writeRecord_26 (d : Nat) (v0 : Option Nm) (v1 : Option Nm) (v2 : Int32) (h : MH) (u : Nat) (Q : MH → Prop) : Prop := T u_X6_writeRecord (d + 1) 26 [some (jR v0), some (jR v1), some (jI v2)] [] h u (qV Q)
def F_X6_writeRecord (d : Nat) (v0 : Option Nm) (v1 : Option Nm) (h : MH) (u : Nat) (Q : MH → Prop) : Prop :=
  gR h v0 5 2 fun x1 =>
  gR h v1 9 1 fun x2 =>
  gI h x2 3 0 fun x3 =>
  rc h x1 7 ∧ iV d u_X8_addNumber [jR x1, jL (x3.toInt64)] h u fun h u =>
  gR h v0 5 2 fun x5 =>
  rc h x5 7 ∧ iV d u_X8_addSign [jR x5, jI 40] h u fun h u =>
  L_X6_writeRecord_26 d v0 v1 0 h u Q
set_option maxRecDepth 20000 in
theorem E_X6_writeRecord {d : Nat} {v0 : Option Nm} {v1 : Option Nm} {h : MH} {u : Nat} {Q : MH → Prop} (H : F_X6_writeRecord d v0 v1 h u Q) : T u_X6_writeRecord (d + 1) 0 [some (jR v0), some (jR v1), none] [] h u (qV Q) := by
  unfold F_X6_writeRecord at H
  refine T_aload_n (pc := 0) dX6_writeRecord_0 rfl rfl ?_
  refine T_gR (pc := 1) fa_X6_20 dX6_writeRecord_1 (gR_mono (fun x1 H => ?_) H)
  refine T_aload_n (pc := 4) dX6_writeRecord_4 rfl rfl ?_
  refine T_gR (pc := 5) fa_X6_38 dX6_writeRecord_5 (gR_mono (fun x2 H => ?_) H)
  refine T_gI (pc := 8) fa_X6_60 dX6_writeRecord_8 (gI_mono (fun x3 H => ?_) H)
  refine T_i2l (pc := 11) dX6_writeRecord_11 ?_
  obtain ⟨H0, H⟩ := H
  refine T_iV (pc := 12) (ci := 7) (av := [jL (x3.toInt64)]) (rest := []) (o := x1) dX6_writeRecord_12 mf_X8_addNumber c_4_129 c_4_130 c_4_131 rfl rfl (Nat.le_of_ble_eq_true rfl) rfl H0 (iV_k (iV_mono (fun h u H => ?_) H))
  refine T_aload_n (pc := 15) dX6_writeRecord_15 rfl rfl ?_
  refine T_gR (pc := 16) fa_X6_20 dX6_writeRecord_16 (gR_mono (fun x5 H => ?_) H)
  refine T_bipush (pc := 19) (v := 40) dX6_writeRecord_19 (by decide) ?_
  obtain ⟨H0, H⟩ := H
  refine T_iV (pc := 21) (ci := 7) (av := [jI 40]) (rest := []) (o := x5) dX6_writeRecord_21 mf_X8_addSign c_4_125 c_4_126 c_4_127 rfl rfl (Nat.le_of_ble_eq_true rfl) rfl H0 (iV_k (iV_mono (fun h u H => ?_) H))
  refine T_iconst (pc := 24) (v := 0) dX6_writeRecord_24 (by decide) ?_
  refine T_istore_n (pc := 25) (ls2 := [some (jR v0), some (jR v1), some (jI 0)]) dX6_writeRecord_25 rfl (Nat.le_of_ble_eq_true rfl) rfl ?_
  exact T.forget H ⟨rfl, rfl, rfl, trivial⟩
def F_X6_writeRecord_58 (d : Nat) (v0 : Option Nm) (v1 : Option Nm) (v2 : Int32) (h : MH) (u : Nat) (Q : MH → Prop) : Prop :=
  gR h v0 5 2 fun x1 =>
  gR h v1 9 2 fun x2 =>
  gR h x2 2 1 fun x3 =>
  aI .int h x3 v2 fun x4 =>
  rc h x1 7 ∧ iV d u_X8_addNumber [jR x1, jL (x4.toInt64)] h u fun h u =>
  gR h v0 5 2 fun x6 =>
  rc h x6 7 ∧ iV d u_X8_addSign [jR x6, jI 61] h u fun h u =>
  gR h v1 9 2 fun x8 =>
  gR h x8 2 2 fun x9 =>
  aI .int h x9 v2 fun x10 =>
  gR h v1 9 5 fun x11 =>
  aL h x11 v2 fun x12 =>
  rc h v0 5 ∧ iV d u_X6_writeAny [jR v0, jI x10, jL x12] h u fun h u =>
  L_X6_writeRecord_26 d v0 v1 (v2 + 1) h u Q
set_option maxRecDepth 20000 in
theorem E_X6_writeRecord_58 {d : Nat} {v0 : Option Nm} {v1 : Option Nm} {v2 : Int32} {h : MH} {u : Nat} {Q : MH → Prop} (H : F_X6_writeRecord_58 d v0 v1 v2 h u Q) : T u_X6_writeRecord (d + 1) 58 [some (jR v0), some (jR v1), some (jI v2)] [] h u (qV Q) := by
  unfold F_X6_writeRecord_58 at H
  refine T_aload_n (pc := 58) dX6_writeRecord_58 rfl rfl ?_
  refine T_gR (pc := 59) fa_X6_20 dX6_writeRecord_59 (gR_mono (fun x1 H => ?_) H)
  refine T_aload_n (pc := 62) dX6_writeRecord_62 rfl rfl ?_
  refine T_gR (pc := 63) fa_X6_67 dX6_writeRecord_63 (gR_mono (fun x2 H => ?_) H)
  refine T_gR (pc := 66) fa_X6_71 dX6_writeRecord_66 (gR_mono (fun x3 H => ?_) H)
  refine T_iload_n (pc := 69) dX6_writeRecord_69 rfl rfl ?_
  refine T_aI (pc := 70) dX6_writeRecord_70 (aI_mono (fun x4 H => ?_) H)
  refine T_i2l (pc := 71) dX6_writeRecord_71 ?_
  obtain ⟨H0, H⟩ := H
  refine T_iV (pc := 72) (ci := 7) (av := [jL (x4.toInt64)]) (rest := []) (o := x1) dX6_writeRecord_72 mf_X8_addNumber c_4_129 c_4_130 c_4_131 rfl rfl (Nat.le_of_ble_eq_true rfl) rfl H0 (iV_k (iV_mono (fun h u H => ?_) H))
  refine T_aload_n (pc := 75) dX6_writeRecord_75 rfl rfl ?_
  refine T_gR (pc := 76) fa_X6_20 dX6_writeRecord_76 (gR_mono (fun x6 H => ?_) H)
  refine T_bipush (pc := 79) (v := 61) dX6_writeRecord_79 (by decide) ?_
  obtain ⟨H0, H⟩ := H
  refine T_iV (pc := 81) (ci := 7) (av := [jI 61]) (rest := []) (o := x6) dX6_writeRecord_81 mf_X8_addSign c_4_125 c_4_126 c_4_127 rfl rfl (Nat.le_of_ble_eq_true rfl) rfl H0 (iV_k (iV_mono (fun h u H => ?_) H))
  refine T_aload_n (pc := 84) dX6_writeRecord_84 rfl rfl ?_
  refine T_aload_n (pc := 85) dX6_writeRecord_85 rfl rfl ?_
  refine T_gR (pc := 86) fa_X6_67 dX6_writeRecord_86 (gR_mono (fun x8 H => ?_) H)
  refine T_gR (pc := 89) fa_X6_77 dX6_writeRecord_89 (gR_mono (fun x9 H => ?_) H)
  refine T_iload_n (pc := 92) dX6_writeRecord_92 rfl rfl ?_
  refine T_aI (pc := 93) dX6_writeRecord_93 (aI_mono (fun x10 H => ?_) H)
  refine T_aload_n (pc := 94) dX6_writeRecord_94 rfl rfl ?_
  refine T_gR (pc := 95) fa_X6_63 dX6_writeRecord_95 (gR_mono (fun x11 H => ?_) H)
  refine T_iload_n (pc := 98) dX6_writeRecord_98 rfl rfl ?_
  refine T_aL (pc := 99) dX6_writeRecord_99 (aL_mono (fun x12 H => ?_) H)
  obtain ⟨H0, H⟩ := H
  refine T_iV (pc := 100) (ci := 5) (av := [jI x10, jL x12]) (rest := []) (o := v0) dX6_writeRecord_100 mf_X6_writeAny c_4_140 c_4_142 pr_X6_writeAny rfl rfl (Nat.le_of_ble_eq_true rfl) rfl H0 (iV_k (iV_mono (fun h u H => ?_) H))
  refine T_iinc (pc := 103) (v := v2 + 1) (ls2 := [some (jR v0), some (jR v1), some (jI (v2 + 1))]) dX6_writeRecord_103 rfl rfl (Nat.le_of_ble_eq_true rfl) rfl ?_
  refine T_goto (pc := 106) (tgt := 26) dX6_writeRecord_106 (by decide) ?_
  exact T.forget H ⟨rfl, rfl, rfl, trivial⟩
def F_X6_writeRecord_109 (d : Nat) (v0 : Option Nm) (h : MH) (u : Nat) (Q : MH → Prop) : Prop :=
  gR h v0 5 2 fun x1 =>
  rc h x1 7 ∧ iV d u_X8_addSign [jR x1, jI 41] h u fun h u =>
  Q h
set_option maxRecDepth 20000 in
theorem E_X6_writeRecord_109 {d : Nat} {v0 : Option Nm} {h : MH} {u : Nat} {Q : MH → Prop} (H : F_X6_writeRecord_109 d v0 h u Q) : T u_X6_writeRecord (d + 1) 109 [some (jR v0), none, none] [] h u (qV Q) := by
  unfold F_X6_writeRecord_109 at H
  refine T_aload_n (pc := 109) dX6_writeRecord_109 rfl rfl ?_
  refine T_gR (pc := 110) fa_X6_20 dX6_writeRecord_110 (gR_mono (fun x1 H => ?_) H)
  refine T_bipush (pc := 113) (v := 41) dX6_writeRecord_113 (by decide) ?_
  obtain ⟨H0, H⟩ := H
  refine T_iV (pc := 115) (ci := 7) (av := [jI 41]) (rest := []) (o := x1) dX6_writeRecord_115 mf_X8_addSign c_4_125 c_4_126 c_4_127 rfl rfl (Nat.le_of_ble_eq_true rfl) rfl H0 (iV_k (iV_mono (fun h u H => ?_) H))
  exact T_return (pc := 118) rfl dX6_writeRecord_118 H
def F_X6_writeRecord_26 (d : Nat) (v0 : Option Nm) (v1 : Option Nm) (v2 : Int32) (h : MH) (u : Nat) (Q : MH → Prop) : Prop :=
  gR h v1 9 5 fun x1 =>
  aN h x1 fun x2 =>
  if x2 ≤ v2 then
    F_X6_writeRecord_109 d v0 h u Q
  else
    gR h v0 5 2 fun x3 =>
    gI h x3 7 3 fun x4 =>
    if x4 = 0 then
      if v2 ≤ 0 then
        F_X6_writeRecord_58 d v0 v1 v2 h u Q
      else
        gR h v0 5 2 fun x5 =>
        rc h x5 7 ∧ iV d u_X8_addSign [jR x5, jI 44] h u fun h u =>
        F_X6_writeRecord_58 d v0 v1 v2 h u Q
    else
      F_X6_writeRecord_109 d v0 h u Q
set_option maxRecDepth 20000 in
theorem E_X6_writeRecord_26 {d : Nat} {v0 : Option Nm} {v1 : Option Nm} {v2 : Int32} {h : MH} {u : Nat} {Q : MH → Prop} (H : F_X6_writeRecord_26 d v0 v1 v2 h u Q) : T u_X6_writeRecord (d + 1) 26 [some (jR v0), some (jR v1), some (jI v2)] [] h u (qV Q) := by
  unfold F_X6_writeRecord_26 at H
  refine T_iload_n (pc := 26) dX6_writeRecord_26 rfl rfl ?_
  refine T_aload_n (pc := 27) dX6_writeRecord_27 rfl rfl ?_
  refine T_gR (pc := 28) fa_X6_63 dX6_writeRecord_28 (gR_mono (fun x1 H => ?_) H)
  refine T_aN (pc := 31) dX6_writeRecord_31 (aN_mono (fun x2 H => ?_) H)
  refine T_icmp_ge (pc := 32) (tgt := 109) dX6_writeRecord_32 (by decide) (fun hc => ?_) (fun hc => ?_)
  · rw [if_pos hc] at H
    exact T.forget (E_X6_writeRecord_109 H) ⟨rfl, trivial⟩
  · rw [if_neg hc] at H
    refine T_aload_n (pc := 35) dX6_writeRecord_35 rfl rfl ?_
    refine T_gR (pc := 36) fa_X6_20 dX6_writeRecord_36 (gR_mono (fun x3 H => ?_) H)
    refine T_gI (pc := 39) fa_X6_30 dX6_writeRecord_39 (gI_mono (fun x4 H => ?_) H)
    refine T_if_ne (pc := 42) (tgt := 109) dX6_writeRecord_42 (by decide) (fun hc => ?_) (fun hc => ?_)
    · rw [if_neg hc] at H
      exact T.forget (E_X6_writeRecord_109 H) ⟨rfl, trivial⟩
    · rw [if_pos hc] at H
      refine T_iload_n (pc := 45) dX6_writeRecord_45 rfl rfl ?_
      refine T_if_le (pc := 46) (tgt := 58) dX6_writeRecord_46 (by decide) (fun hc => ?_) (fun hc => ?_)
      · rw [if_pos hc] at H
        exact T.forget (E_X6_writeRecord_58 H) ⟨rfl, rfl, rfl, trivial⟩
      · rw [if_neg hc] at H
        refine T_aload_n (pc := 49) dX6_writeRecord_49 rfl rfl ?_
        refine T_gR (pc := 50) fa_X6_20 dX6_writeRecord_50 (gR_mono (fun x5 H => ?_) H)
        refine T_bipush (pc := 53) (v := 44) dX6_writeRecord_53 (by decide) ?_
        obtain ⟨H0, H⟩ := H
        refine T_iV (pc := 55) (ci := 7) (av := [jI 44]) (rest := []) (o := x5) dX6_writeRecord_55 mf_X8_addSign c_4_125 c_4_126 c_4_127 rfl rfl (Nat.le_of_ble_eq_true rfl) rfl H0 (iV_k (iV_mono (fun h u H => ?_) H))
        exact T.forget (E_X6_writeRecord_58 H) ⟨rfl, rfl, rfl, trivial⟩
theorem I_X6_writeRecord {d : Nat} {v0 : Option Nm} {v1 : Option Nm} {h : MH} {u : Nat} {K : MH → Nat → Prop} (u1 : Nat) (hu : u1 ≤ u) (H : F_X6_writeRecord d v0 v1 h u1 (fun h2 => K h2 (u - u1))) : iV (d + 1) u_X6_writeRecord [jR v0, jR v1] h u K := inv.of u1 hu (Ct.of (by decide +kernel) rfl (Nat.le_of_ble_eq_true rfl) rfl (E_X6_writeRecord H))
theorem dX6_writeAny_0 : decode cX6_writeAny 0 = .ok (.iload_n 1, 1) := by decide +kernel
theorem dX6_writeAny_1 : decode cX6_writeAny 1 = .ok (.lookupswitch 88 #[(0, 35), (8, 58), (9, 73)], 35) := by decide +kernel
theorem dX6_writeAny_36 : decode cX6_writeAny 36 = .ok (.aload_n 0, 1) := by decide +kernel
theorem dX6_writeAny_37 : decode cX6_writeAny 37 = .ok (.getfield 20, 3) := by decide +kernel
theorem dX6_writeAny_40 : decode cX6_writeAny 40 = .ok (.lload_n 2, 1) := by decide +kernel
theorem dX6_writeAny_41 : decode cX6_writeAny 41 = .ok (.lconst 0, 1) := by decide +kernel
theorem dX6_writeAny_42 : decode cX6_writeAny 42 = .ok (.lcmp, 1) := by decide +kernel
theorem dX6_writeAny_43 : decode cX6_writeAny 43 = .ok (.ifCond .eq 8, 3) := by decide +kernel
theorem dX6_writeAny_46 : decode cX6_writeAny 46 = .ok (.bipush 116, 2) := by decide +kernel
theorem dX6_writeAny_48 : decode cX6_writeAny 48 = .ok (.goto 5, 3) := by decide +kernel
theorem dX6_writeAny_51 : decode cX6_writeAny 51 = .ok (.bipush 102, 2) := by decide +kernel
theorem dX6_writeAny_53 : decode cX6_writeAny 53 = .ok (.invokevirtual 34, 3) := by decide +kernel
theorem dX6_writeAny_56 : decode cX6_writeAny 56 = .ok (.goto 41, 3) := by decide +kernel
theorem dX6_writeAny_59 : decode cX6_writeAny 59 = .ok (.aload_n 0, 1) := by decide +kernel
theorem dX6_writeAny_60 : decode cX6_writeAny 60 = .ok (.aload_n 0, 1) := by decide +kernel
theorem dX6_writeAny_61 : decode cX6_writeAny 61 = .ok (.getfield 7, 3) := by decide +kernel
theorem dX6_writeAny_64 : decode cX6_writeAny 64 = .ok (.lload_n 2, 1) := by decide +kernel
theorem dX6_writeAny_65 : decode cX6_writeAny 65 = .ok (.invokevirtual 84, 3) := by decide +kernel
theorem dX6_writeAny_68 : decode cX6_writeAny 68 = .ok (.invokevirtual 26, 3) := by decide +kernel
theorem dX6_writeAny_71 : decode cX6_writeAny 71 = .ok (.goto 26, 3) := by decide +kernel
theorem dX6_writeAny_74 : decode cX6_writeAny 74 = .ok (.aload_n 0, 1) := by decide +kernel
theorem dX6_writeAny_75 : decode cX6_writeAny 75 = .ok (.aload_n 0, 1) := by decide +kernel
theorem dX6_writeAny_76 : decode cX6_writeAny 76 = .ok (.getfield 7, 3) := by decide +kernel
theorem dX6_writeAny_79 : decode cX6_writeAny 79 = .ok (.lload_n 2, 1) := by decide +kernel
theorem dX6_writeAny_80 : decode cX6_writeAny 80 = .ok (.invokevirtual 90, 3) := by decide +kernel
theorem dX6_writeAny_83 : decode cX6_writeAny 83 = .ok (.invokevirtual 94, 3) := by decide +kernel
theorem dX6_writeAny_86 : decode cX6_writeAny 86 = .ok (.goto 11, 3) := by decide +kernel
theorem dX6_writeAny_89 : decode cX6_writeAny 89 = .ok (.aload_n 0, 1) := by decide +kernel
theorem dX6_writeAny_90 : decode cX6_writeAny 90 = .ok (.getfield 20, 3) := by decide +kernel
theorem dX6_writeAny_93 : decode cX6_writeAny 93 = .ok (.lload_n 2, 1) := by decide +kernel
theorem dX6_writeAny_94 : decode cX6_writeAny 94 = .ok (.invokevirtual 53, 3) := by decide +kernel
theorem dX6_writeAny_97 : decode cX6_writeAny 97 = .ok (.return_, 1) := by decide +kernel
def F_X6_writeAny (d : Nat) (v0 : Option Nm) (v1 : Int32) (v2 : Int64) (h : MH) (u : Nat) (Q : MH → Prop) : Prop :=
  if v1 = 0 then
    gR h v0 5 2 fun x1 =>
    if (lg_cmp v2 0) = 0 then
      rc h x1 7 ∧ iV d u_X8_addSign [jR x1, jI 102] h u fun h u =>
      Q h
    else
      rc h x1 7 ∧ iV d u_X8_addSign [jR x1, jI 116] h u fun h u =>
      Q h
  else if v1 = 8 then
    gR h v0 5 0 fun x4 =>
    rc h x4 6 ∧ iR d u_X7_findValue [jR x4, jL v2] h u fun x5 h u =>
    rc h v0 5 ∧ iV d u_X6_writeValue [jR v0, jR x5] h u fun h u =>
    Q h
  else if v1 = 9 then
    gR h v0 5 0 fun x7 =>
    rc h x7 6 ∧ iR d u_X7_findRow [jR x7, jL v2] h u fun x8 h u =>
    rc h v0 5 ∧ iV d u_X6_writeRow [jR v0, jR x8] h u fun h u =>
    Q h
  else 
    gR h v0 5 2 fun x10 =>
    rc h x10 7 ∧ iV d u_X8_addNumber [jR x10, jL v2] h u fun h u =>
    Q h
set_option maxRecDepth 20000 in
theorem E_X6_writeAny {d : Nat} {v0 : Option Nm} {v1 : Int32} {v2 : Int64} {h : MH} {u : Nat} {Q : MH → Prop} (H : F_X6_writeAny d v0 v1 v2 h u Q) : T u_X6_writeAny (d + 1) 0 [some (jR v0), some (jI v1), some (jL v2), none] [] h u (qV Q) := by
  unfold F_X6_writeAny at H
  refine T_iload_n (pc := 0) dX6_writeAny_0 rfl rfl ?_
  by_cases h0 : v1 = 0
  · rw [if_pos h0] at H
    refine T_lookup (pc := 1) (off := 35) (tgt := 36) dX6_writeAny_1 (by decide) (by rw [h0]; decide) (by decide) ?_
    refine T_aload_n (pc := 36) dX6_writeAny_36 rfl rfl ?_
    refine T_gR (pc := 37) fa_X6_20 dX6_writeAny_37 (gR_mono (fun x1 H => ?_) H)
    refine T_lload_n (pc := 40) dX6_writeAny_40 rfl rfl ?_
    refine T_lconst (pc := 41) (v := 0) dX6_writeAny_41 (by decide) ?_
    refine T_lcmp (pc := 42) dX6_writeAny_42 ?_
    refine T_if_eq (pc := 43) (tgt := 51) dX6_writeAny_43 (by decide) (fun hc => ?_) (fun hc => ?_)
    · rw [if_pos hc] at H
      refine T_bipush (pc := 51) (v := 102) dX6_writeAny_51 (by decide) ?_
      obtain ⟨H0, H⟩ := H
      refine T_iV (pc := 53) (ci := 7) (av := [jI 102]) (rest := []) (o := x1) dX6_writeAny_53 mf_X8_addSign c_4_125 c_4_126 c_4_127 rfl rfl (Nat.le_of_ble_eq_true rfl) rfl H0 (iV_k (iV_mono (fun h u H => ?_) H))
      refine T_goto (pc := 56) (tgt := 97) dX6_writeAny_56 (by decide) ?_
      exact T_return (pc := 97) rfl dX6_writeAny_97 H
    · rw [if_neg hc] at H
      refine T_bipush (pc := 46) (v := 116) dX6_writeAny_46 (by decide) ?_
      refine T_goto (pc := 48) (tgt := 53) dX6_writeAny_48 (by decide) ?_
      obtain ⟨H0, H⟩ := H
      refine T_iV (pc := 53) (ci := 7) (av := [jI 116]) (rest := []) (o := x1) dX6_writeAny_53 mf_X8_addSign c_4_125 c_4_126 c_4_127 rfl rfl (Nat.le_of_ble_eq_true rfl) rfl H0 (iV_k (iV_mono (fun h u H => ?_) H))
      refine T_goto (pc := 56) (tgt := 97) dX6_writeAny_56 (by decide) ?_
      exact T_return (pc := 97) rfl dX6_writeAny_97 H
  rw [if_neg h0] at H
  by_cases h1 : v1 = 8
  · rw [if_pos h1] at H
    refine T_lookup (pc := 1) (off := 58) (tgt := 59) dX6_writeAny_1 (by decide) (by rw [h1]; decide) (by decide) ?_
    refine T_aload_n (pc := 59) dX6_writeAny_59 rfl rfl ?_
    refine T_aload_n (pc := 60) dX6_writeAny_60 rfl rfl ?_
    refine T_gR (pc := 61) fa_X6_7 dX6_writeAny_61 (gR_mono (fun x4 H => ?_) H)
    refine T_lload_n (pc := 64) dX6_writeAny_64 rfl rfl ?_
    obtain ⟨H0, H⟩ := H
    refine T_iV (pc := 65) (ci := 6) (av := [jL v2]) (rest := [jR v0]) (o := x4) dX6_writeAny_65 mf_X7_findValue c_4_144 c_2_64 c_2_65 rfl rfl (Nat.le_of_ble_eq_true rfl) rfl H0 (iR_k (iR_mono (fun x5 h u H => ?_) H))
    obtain ⟨H0, H⟩ := H
    refine T_iV (pc := 68) (ci := 5) (av := [jR x5]) (rest := []) (o := v0) dX6_writeAny_68 mf_X6_writeValue c_4_121 c_4_123 pr_X6_writeValue rfl rfl (Nat.le_of_ble_eq_true rfl) rfl H0 (iV_k (iV_mono (fun h u H => ?_) H))
    refine T_goto (pc := 71) (tgt := 97) dX6_writeAny_71 (by decide) ?_
    exact T_return (pc := 97) rfl dX6_writeAny_97 H
  rw [if_neg h1] at H
  by_cases h2 : v1 = 9
  · rw [if_pos h2] at H
    refine T_lookup (pc := 1) (off := 73) (tgt := 74) dX6_writeAny_1 (by decide) (by rw [h2]; decide) (by decide) ?_
    refine T_aload_n (pc := 74) dX6_writeAny_74 rfl rfl ?_
    refine T_aload_n (pc := 75) dX6_writeAny_75 rfl rfl ?_
    refine T_gR (pc := 76) fa_X6_7 dX6_writeAny_76 (gR_mono (fun x7 H => ?_) H)
    refine T_lload_n (pc := 79) dX6_writeAny_79 rfl rfl ?_
    obtain ⟨H0, H⟩ := H
    refine T_iV (pc := 80) (ci := 6) (av := [jL v2]) (rest := [jR v0]) (o := x7) dX6_writeAny_80 mf_X7_findRow c_4_145 c_2_2 c_2_3 rfl rfl (Nat.le_of_ble_eq_true rfl) rfl H0 (iR_k (iR_mono (fun x8 h u H => ?_) H))
    obtain ⟨H0, H⟩ := H
    refine T_iV (pc := 83) (ci := 5) (av := [jR x8]) (rest := []) (o := v0) dX6_writeAny_83 mf_X6_writeRow c_4_146 c_4_148 pr_X6_writeRow rfl rfl (Nat.le_of_ble_eq_true rfl) rfl H0 (iV_k (iV_mono (fun h u H => ?_) H))
    refine T_goto (pc := 86) (tgt := 97) dX6_writeAny_86 (by decide) ?_
    exact T_return (pc := 97) rfl dX6_writeAny_97 H
  rw [if_neg h2] at H
  have e0 : ¬ ((0 : Int) = (v1 : Int32).toInt) := fun q => h0 (Int32.toInt_inj.mp (q.symm.trans (by decide)))
  have e1 : ¬ ((8 : Int) = (v1 : Int32).toInt) := fun q => h1 (Int32.toInt_inj.mp (q.symm.trans (by decide)))
  have e2 : ¬ ((9 : Int) = (v1 : Int32).toInt) := fun q => h2 (Int32.toInt_inj.mp (q.symm.trans (by decide)))
  refine T_lookup (pc := 1) (off := 88) (tgt := 89) dX6_writeAny_1 (by decide) (by simp [Op.lookupswitch.offset, e0, e1, e2, Ne.symm e0, Ne.symm e1, Ne.symm e2]) (by decide) ?_
  refine T_aload_n (pc := 89) dX6_writeAny_89 rfl rfl ?_
  refine T_gR (pc := 90) fa_X6_20 dX6_writeAny_90 (gR_mono (fun x10 H => ?_) H)
  refine T_lload_n (pc := 93) dX6_writeAny_93 rfl rfl ?_
  obtain ⟨H0, H⟩ := H
  refine T_iV (pc := 94) (ci := 7) (av := [jL v2]) (rest := []) (o := x10) dX6_writeAny_94 mf_X8_addNumber c_4_129 c_4_130 c_4_131 rfl rfl (Nat.le_of_ble_eq_true rfl) rfl H0 (iV_k (iV_mono (fun h u H => ?_) H))
  exact T_return (pc := 97) rfl dX6_writeAny_97 H
theorem I_X6_writeAny {d : Nat} {v0 : Option Nm} {v1 : Int32} {v2 : Int64} {h : MH} {u : Nat} {K : MH → Nat → Prop} (u1 : Nat) (hu : u1 ≤ u) (H : F_X6_writeAny d v0 v1 v2 h u1 (fun h2 => K h2 (u - u1))) : iV (d + 1) u_X6_writeAny [jR v0, jI v1, jL v2] h u K := inv.of u1 hu (Ct.of (by decide +kernel) rfl (Nat.le_of_ble_eq_true rfl) rfl (E_X6_writeAny H))
theorem dX6_writeRow_0 : decode cX6_writeRow 0 = .ok (.aload_n 1, 1) := by decide +kernel
theorem dX6_writeRow_1 : decode cX6_writeRow 1 = .ok (.ifnonnull 13, 3) := by decide +kernel
theorem dX6_writeRow_4 : decode cX6_writeRow 4 = .ok (.aload_n 0, 1) := by decide +kernel
theorem dX6_writeRow_5 : decode cX6_writeRow 5 = .ok (.getfield 20, 3) := by decide +kernel
theorem dX6_writeRow_8 : decode cX6_writeRow 8 = .ok (.bipush 33, 2) := by decide +kernel
theorem dX6_writeRow_10 : decode cX6_writeRow 10 = .ok (.invokevirtual 34, 3) := by decide +kernel
theorem dX6_writeRow_13 : decode cX6_writeRow 13 = .ok (.return_, 1) := by decide +kernel
theorem dX6_writeRow_14 : decode cX6_writeRow 14 = .ok (.aload_n 0, 1) := by decide +kernel
theorem dX6_writeRow_15 : decode cX6_writeRow 15 = .ok (.getfield 20, 3) := by decide +kernel
theorem dX6_writeRow_18 : decode cX6_writeRow 18 = .ok (.bipush 91, 2) := by decide +kernel
theorem dX6_writeRow_20 : decode cX6_writeRow 20 = .ok (.invokevirtual 34, 3) := by decide +kernel
theorem dX6_writeRow_23 : decode cX6_writeRow 23 = .ok (.iconst 0, 1) := by decide +kernel
theorem dX6_writeRow_24 : decode cX6_writeRow 24 = .ok (.istore_n 2, 1) := by decide +kernel
theorem dX6_writeRow_25 : decode cX6_writeRow 25 = .ok (.iload_n 2, 1) := by decide +kernel
theorem dX6_writeRow_26 : decode cX6_writeRow 26 = .ok (.aload_n 1, 1) := by decide +kernel
theorem dX6_writeRow_27 : decode cX6_writeRow 27 = .ok (.getfield 98, 3) := by decide +kernel
theorem dX6_writeRow_30 : decode cX6_writeRow 30 = .ok (.arraylength, 1) := by decide +kernel
theorem dX6_writeRow_31 : decode cX6_writeRow 31 = .ok (.if_icmp .ge 46, 3) := by decide +kernel
theorem dX6_writeRow_34 : decode cX6_writeRow 34 = .ok (.aload_n 0, 1) := by decide +kernel
theorem dX6_writeRow_35 : decode cX6_writeRow 35 = .ok (.getfield 20, 3) := by decide +kernel
theorem dX6_writeRow_38 : decode cX6_writeRow 38 = .ok (.getfield 30, 3) := by decide +kernel
theorem dX6_writeRow_41 : decode cX6_writeRow 41 = .ok (.ifCond .ne 36, 3) := by decide +kernel
theorem dX6_writeRow_44 : decode cX6_writeRow 44 = .ok (.iload_n 2, 1) := by decide +kernel
theorem dX6_writeRow_45 : decode cX6_writeRow 45 = .ok (.ifCond .le 12, 3) := by decide +kernel
theorem dX6_writeRow_48 : decode cX6_writeRow 48 = .ok (.aload_n 0, 1) := by decide +kernel
theorem dX6_writeRow_49 : decode cX6_writeRow 49 = .ok (.getfield 20, 3) := by decide +kernel
theorem dX6_writeRow_52 : decode cX6_writeRow 52 = .ok (.bipush 32, 2) := by decide +kernel
theorem dX6_writeRow_54 : decode cX6_writeRow 54 = .ok (.invokevirtual 34, 3) := by decide +kernel
theorem dX6_writeRow_57 : decode cX6_writeRow 57 = .ok (.aload_n 0, 1) := by decide +kernel
theorem dX6_writeRow_58 : decode cX6_writeRow 58 = .ok (.aload_n 1, 1) := by decide +kernel
theorem dX6_writeRow_59 : decode cX6_writeRow 59 = .ok (.getfield 103, 3) := by decide +kernel
theorem dX6_writeRow_62 : decode cX6_writeRow 62 = .ok (.aload_n 1, 1) := by decide +kernel
theorem dX6_writeRow_63 : decode cX6_writeRow 63 = .ok (.getfield 98, 3) := by decide +kernel
theorem dX6_writeRow_66 : decode cX6_writeRow 66 = .ok (.iload_n 2, 1) := by decide +kernel
theorem dX6_writeRow_67 : decode cX6_writeRow 67 = .ok (.laload, 1) := by decide +kernel
theorem dX6_writeRow_68 : decode cX6_writeRow 68 = .ok (.invokevirtual 80, 3) := by decide +kernel
theorem dX6_writeRow_71 : decode cX6_writeRow 71 = .ok (.iinc 2 1, 3) := by decide +kernel
theorem dX6_writeRow_74 : decode cX6_writeRow 74 = .ok (.goto (-49), 3) := by decide +kernel
theorem dX6_writeRow_77 : decode cX6_writeRow 77 = .ok (.aload_n 0, 1) := by decide +kernel
theorem dX6_writeRow_78 : decode cX6_writeRow 78 = .ok (.getfield 20, 3) := by decide +kernel
theorem dX6_writeRow_81 : decode cX6_writeRow 81 = .ok (.bipush 93, 2) := by decide +kernel
theorem dX6_writeRow_83 : decode cX6_writeRow 83 = .ok (.invokevirtual 34, 3) := by decide +kernel
theorem dX6_writeRow_86 : decode cX6_writeRow 86 = .ok (.return_, 1) := by decide +kernel
def L_X6_writeRow_25 (d : Nat) (v0 : Option Nm) (v1 : Option Nm) (v2 : Int32) (h : MH) (u : Nat) (Q : MH → Prop) : Prop := T u_X6_writeRow (d + 1) 25 [some (jR v0), some (jR v1), some (jI v2)] [] h u (qV Q)
def F_X6_writeRow (d : Nat) (v0 : Option Nm) (v1 : Option Nm) (h : MH) (u : Nat) (Q : MH → Prop) : Prop :=
  nl v1 (
    gR h v0 5 2 fun x1 =>
    rc h x1 7 ∧ iV d u_X8_addSign [jR x1, jI 33] h u fun h u =>
    Q h) (
    gR h v0 5 2 fun x3 =>
    rc h x3 7 ∧ iV d u_X8_addSign [jR x3, jI 91] h u fun h u =>
    L_X6_writeRow_25 d v0 v1 0 h u Q)
set_option maxRecDepth 20000 in
theorem E_X6_writeRow {d : Nat} {v0 : Option Nm} {v1 : Option Nm} {h : MH} {u : Nat} {Q : MH → Prop} (H : F_X6_writeRow d v0 v1 h u Q) : T u_X6_writeRow (d + 1) 0 [some (jR v0), some (jR v1), none] [] h u (qV Q) := by
  unfold F_X6_writeRow at H
  refine T_aload_n (pc := 0) dX6_writeRow_0 rfl rfl ?_
  refine T_ifnonnull (pc := 1) (tgt := 14) dX6_writeRow_1 (by decide) (fun ho => ?_) (fun n ho => ?_)
  · replace H := nl_n ho H
    refine T_aload_n (pc := 4) dX6_writeRow_4 rfl rfl ?_
    refine T_gR (pc := 5) fa_X6_20 dX6_writeRow_5 (gR_mono (fun x1 H => ?_) H)
    refine T_bipush (pc := 8) (v := 33) dX6_writeRow_8 (by decide) ?_
    obtain ⟨H0, H⟩ := H
    refine T_iV (pc := 10) (ci := 7) (av := [jI 33]) (rest := []) (o := x1) dX6_writeRow_10 mf_X8_addSign c_4_125 c_4_126 c_4_127 rfl rfl (Nat.le_of_ble_eq_true rfl) rfl H0 (iV_k (iV_mono (fun h u H => ?_) H))
    exact T_return (pc := 13) rfl dX6_writeRow_13 H
  · replace H := nl_s ho H
    refine T_aload_n (pc := 14) dX6_writeRow_14 rfl rfl ?_
    refine T_gR (pc := 15) fa_X6_20 dX6_writeRow_15 (gR_mono (fun x3 H => ?_) H)
    refine T_bipush (pc := 18) (v := 91) dX6_writeRow_18 (by decide) ?_
    obtain ⟨H0, H⟩ := H
    refine T_iV (pc := 20) (ci := 7) (av := [jI 91]) (rest := []) (o := x3) dX6_writeRow_20 mf_X8_addSign c_4_125 c_4_126 c_4_127 rfl rfl (Nat.le_of_ble_eq_true rfl) rfl H0 (iV_k (iV_mono (fun h u H => ?_) H))
    refine T_iconst (pc := 23) (v := 0) dX6_writeRow_23 (by decide) ?_
    refine T_istore_n (pc := 24) (ls2 := [some (jR v0), some (jR v1), some (jI 0)]) dX6_writeRow_24 rfl (Nat.le_of_ble_eq_true rfl) rfl ?_
    exact T.forget H ⟨rfl, rfl, rfl, trivial⟩
def F_X6_writeRow_57 (d : Nat) (v0 : Option Nm) (v1 : Option Nm) (v2 : Int32) (h : MH) (u : Nat) (Q : MH → Prop) : Prop :=
  gI h v1 4 1 fun x1 =>
  gR h v1 4 2 fun x2 =>
  aL h x2 v2 fun x3 =>
  rc h v0 5 ∧ iV d u_X6_writeAny [jR v0, jI x1, jL x3] h u fun h u =>
  L_X6_writeRow_25 d v0 v1 (v2 + 1) h u Q
set_option maxRecDepth 20000 in
theorem E_X6_writeRow_57 {d : Nat} {v0 : Option Nm} {v1 : Option Nm} {v2 : Int32} {h : MH} {u : Nat} {Q : MH → Prop} (H : F_X6_writeRow_57 d v0 v1 v2 h u Q) : T u_X6_writeRow (d + 1) 57 [some (jR v0), some (jR v1), some (jI v2)] [] h u (qV Q) := by
  unfold F_X6_writeRow_57 at H
  refine T_aload_n (pc := 57) dX6_writeRow_57 rfl rfl ?_
  refine T_aload_n (pc := 58) dX6_writeRow_58 rfl rfl ?_
  refine T_gI (pc := 59) fa_X6_103 dX6_writeRow_59 (gI_mono (fun x1 H => ?_) H)
  refine T_aload_n (pc := 62) dX6_writeRow_62 rfl rfl ?_
  refine T_gR (pc := 63) fa_X6_98 dX6_writeRow_63 (gR_mono (fun x2 H => ?_) H)
  refine T_iload_n (pc := 66) dX6_writeRow_66 rfl rfl ?_
  refine T_aL (pc := 67) dX6_writeRow_67 (aL_mono (fun x3 H => ?_) H)
  obtain ⟨H0, H⟩ := H
  refine T_iV (pc := 68) (ci := 5) (av := [jI x1, jL x3]) (rest := []) (o := v0) dX6_writeRow_68 mf_X6_writeAny c_4_140 c_4_142 pr_X6_writeAny rfl rfl (Nat.le_of_ble_eq_true rfl) rfl H0 (iV_k (iV_mono (fun h u H => ?_) H))
  refine T_iinc (pc := 71) (v := v2 + 1) (ls2 := [some (jR v0), some (jR v1), some (jI (v2 + 1))]) dX6_writeRow_71 rfl rfl (Nat.le_of_ble_eq_true rfl) rfl ?_
  refine T_goto (pc := 74) (tgt := 25) dX6_writeRow_74 (by decide) ?_
  exact T.forget H ⟨rfl, rfl, rfl, trivial⟩
def F_X6_writeRow_77 (d : Nat) (v0 : Option Nm) (h : MH) (u : Nat) (Q : MH → Prop) : Prop :=
  gR h v0 5 2 fun x1 =>
  rc h x1 7 ∧ iV d u_X8_addSign [jR x1, jI 93] h u fun h u =>
  Q h
set_option maxRecDepth 20000 in
theorem E_X6_writeRow_77 {d : Nat} {v0 : Option Nm} {h : MH} {u : Nat} {Q : MH → Prop} (H : F_X6_writeRow_77 d v0 h u Q) : T u_X6_writeRow (d + 1) 77 [some (jR v0), none, none] [] h u (qV Q) := by
  unfold F_X6_writeRow_77 at H
  refine T_aload_n (pc := 77) dX6_writeRow_77 rfl rfl ?_
  refine T_gR (pc := 78) fa_X6_20 dX6_writeRow_78 (gR_mono (fun x1 H => ?_) H)
  refine T_bipush (pc := 81) (v := 93) dX6_writeRow_81 (by decide) ?_
  obtain ⟨H0, H⟩ := H
  refine T_iV (pc := 83) (ci := 7) (av := [jI 93]) (rest := []) (o := x1) dX6_writeRow_83 mf_X8_addSign c_4_125 c_4_126 c_4_127 rfl rfl (Nat.le_of_ble_eq_true rfl) rfl H0 (iV_k (iV_mono (fun h u H => ?_) H))
  exact T_return (pc := 86) rfl dX6_writeRow_86 H
def F_X6_writeRow_25 (d : Nat) (v0 : Option Nm) (v1 : Option Nm) (v2 : Int32) (h : MH) (u : Nat) (Q : MH → Prop) : Prop :=
  gR h v1 4 2 fun x1 =>
  aN h x1 fun x2 =>
  if x2 ≤ v2 then
    F_X6_writeRow_77 d v0 h u Q
  else
    gR h v0 5 2 fun x3 =>
    gI h x3 7 3 fun x4 =>
    if x4 = 0 then
      if v2 ≤ 0 then
        F_X6_writeRow_57 d v0 v1 v2 h u Q
      else
        gR h v0 5 2 fun x5 =>
        rc h x5 7 ∧ iV d u_X8_addSign [jR x5, jI 32] h u fun h u =>
        F_X6_writeRow_57 d v0 v1 v2 h u Q
    else
      F_X6_writeRow_77 d v0 h u Q
set_option maxRecDepth 20000 in
theorem E_X6_writeRow_25 {d : Nat} {v0 : Option Nm} {v1 : Option Nm} {v2 : Int32} {h : MH} {u : Nat} {Q : MH → Prop} (H : F_X6_writeRow_25 d v0 v1 v2 h u Q) : T u_X6_writeRow (d + 1) 25 [some (jR v0), some (jR v1), some (jI v2)] [] h u (qV Q) := by
  unfold F_X6_writeRow_25 at H
  refine T_iload_n (pc := 25) dX6_writeRow_25 rfl rfl ?_
  refine T_aload_n (pc := 26) dX6_writeRow_26 rfl rfl ?_
  refine T_gR (pc := 27) fa_X6_98 dX6_writeRow_27 (gR_mono (fun x1 H => ?_) H)
  refine T_aN (pc := 30) dX6_writeRow_30 (aN_mono (fun x2 H => ?_) H)
  refine T_icmp_ge (pc := 31) (tgt := 77) dX6_writeRow_31 (by decide) (fun hc => ?_) (fun hc => ?_)
  · rw [if_pos hc] at H
    exact T.forget (E_X6_writeRow_77 H) ⟨rfl, trivial⟩
  · rw [if_neg hc] at H
    refine T_aload_n (pc := 34) dX6_writeRow_34 rfl rfl ?_
    refine T_gR (pc := 35) fa_X6_20 dX6_writeRow_35 (gR_mono (fun x3 H => ?_) H)
    refine T_gI (pc := 38) fa_X6_30 dX6_writeRow_38 (gI_mono (fun x4 H => ?_) H)
    refine T_if_ne (pc := 41) (tgt := 77) dX6_writeRow_41 (by decide) (fun hc => ?_) (fun hc => ?_)
    · rw [if_neg hc] at H
      exact T.forget (E_X6_writeRow_77 H) ⟨rfl, trivial⟩
    · rw [if_pos hc] at H
      refine T_iload_n (pc := 44) dX6_writeRow_44 rfl rfl ?_
      refine T_if_le (pc := 45) (tgt := 57) dX6_writeRow_45 (by decide) (fun hc => ?_) (fun hc => ?_)
      · rw [if_pos hc] at H
        exact T.forget (E_X6_writeRow_57 H) ⟨rfl, rfl, rfl, trivial⟩
      · rw [if_neg hc] at H
        refine T_aload_n (pc := 48) dX6_writeRow_48 rfl rfl ?_
        refine T_gR (pc := 49) fa_X6_20 dX6_writeRow_49 (gR_mono (fun x5 H => ?_) H)
        refine T_bipush (pc := 52) (v := 32) dX6_writeRow_52 (by decide) ?_
        obtain ⟨H0, H⟩ := H
        refine T_iV (pc := 54) (ci := 7) (av := [jI 32]) (rest := []) (o := x5) dX6_writeRow_54 mf_X8_addSign c_4_125 c_4_126 c_4_127 rfl rfl (Nat.le_of_ble_eq_true rfl) rfl H0 (iV_k (iV_mono (fun h u H => ?_) H))
        exact T.forget (E_X6_writeRow_57 H) ⟨rfl, rfl, rfl, trivial⟩
theorem I_X6_writeRow {d : Nat} {v0 : Option Nm} {v1 : Option Nm} {h : MH} {u : Nat} {K : MH → Nat → Prop} (u1 : Nat) (hu : u1 ≤ u) (H : F_X6_writeRow d v0 v1 h u1 (fun h2 => K h2 (u - u1))) : iV (d + 1) u_X6_writeRow [jR v0, jR v1] h u K := inv.of u1 hu (Ct.of (by decide +kernel) rfl (Nat.le_of_ble_eq_true rfl) rfl (E_X6_writeRow H))
