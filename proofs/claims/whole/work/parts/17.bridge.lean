theorem dX11_equal_0 : decode cX11_equal 0 = .ok (.aload_n 0, 1) := by decide +kernel
theorem dX11_equal_1 : decode cX11_equal 1 = .ok (.getfield 12, 3) := by decide +kernel
theorem dX11_equal_4 : decode cX11_equal 4 = .ok (.iload_n 1, 1) := by decide +kernel
theorem dX11_equal_5 : decode cX11_equal 5 = .ok (.i2l, 1) := by decide +kernel
theorem dX11_equal_6 : decode cX11_equal 6 = .ok (.invokevirtual 118, 3) := by decide +kernel
theorem dX11_equal_9 : decode cX11_equal 9 = .ok (.astore_n 3, 1) := by decide +kernel
theorem dX11_equal_10 : decode cX11_equal 10 = .ok (.aload_n 0, 1) := by decide +kernel
theorem dX11_equal_11 : decode cX11_equal 11 = .ok (.getfield 12, 3) := by decide +kernel
theorem dX11_equal_14 : decode cX11_equal 14 = .ok (.iload_n 2, 1) := by decide +kernel
theorem dX11_equal_15 : decode cX11_equal 15 = .ok (.i2l, 1) := by decide +kernel
theorem dX11_equal_16 : decode cX11_equal 16 = .ok (.invokevirtual 118, 3) := by decide +kernel
theorem dX11_equal_19 : decode cX11_equal 19 = .ok (.astore 4, 2) := by decide +kernel
theorem dX11_equal_21 : decode cX11_equal 21 = .ok (.aload_n 3, 1) := by decide +kernel
theorem dX11_equal_22 : decode cX11_equal 22 = .ok (.ifnull 8, 3) := by decide +kernel
theorem dX11_equal_25 : decode cX11_equal 25 = .ok (.aload 4, 2) := by decide +kernel
theorem dX11_equal_27 : decode cX11_equal 27 = .ok (.ifnonnull 5, 3) := by decide +kernel
theorem dX11_equal_30 : decode cX11_equal 30 = .ok (.iconst (-1), 1) := by decide +kernel
theorem dX11_equal_31 : decode cX11_equal 31 = .ok (.ireturn, 1) := by decide +kernel
theorem dX11_equal_32 : decode cX11_equal 32 = .ok (.aload_n 0, 1) := by decide +kernel
theorem dX11_equal_33 : decode cX11_equal 33 = .ok (.getfield 37, 3) := by decide +kernel
theorem dX11_equal_36 : decode cX11_equal 36 = .ok (.aload_n 3, 1) := by decide +kernel
theorem dX11_equal_37 : decode cX11_equal 37 = .ok (.aload 4, 2) := by decide +kernel
theorem dX11_equal_39 : decode cX11_equal 39 = .ok (.invokevirtual 292, 3) := by decide +kernel
theorem dX11_equal_42 : decode cX11_equal 42 = .ok (.ifCond .ne 7, 3) := by decide +kernel
theorem dX11_equal_45 : decode cX11_equal 45 = .ok (.iconst 1, 1) := by decide +kernel
theorem dX11_equal_46 : decode cX11_equal 46 = .ok (.goto 4, 3) := by decide +kernel
theorem dX11_equal_49 : decode cX11_equal 49 = .ok (.iconst 0, 1) := by decide +kernel
theorem dX11_equal_50 : decode cX11_equal 50 = .ok (.invokestatic 133, 3) := by decide +kernel
theorem dX11_equal_53 : decode cX11_equal 53 = .ok (.ireturn, 1) := by decide +kernel
def F_X11_equal (d : Nat) (v0 : Option Nm) (v1 : Int32) (v2 : Int32) (h : MH) (u : Nat) (Q : Int32 → MH → Prop) : Prop :=
  gR h v0 10 0 fun x1 =>
  rc h x1 6 ∧ iR d u_X7_findValue [jR x1, jL (v1.toInt64)] h u fun x2 h u =>
  gR h v0 10 0 fun x3 =>
  rc h x3 6 ∧ iR d u_X7_findValue [jR x3, jL (v2.toInt64)] h u fun x4 h u =>
  nl x2 (
    Q (-1) h) (
    nl x4 (
      Q (-1) h) (
      gR h v0 10 3 fun x5 =>
      rc h x5 0 ∧ iI d u_X0_compareValues [jR x5, jR x2, jR x4] h u fun x6 h u =>
      if x6 = 0 then
        iI d u_X11_oneIf [jI 1] h u fun x8 h u =>
        Q x8 h
      else
        iI d u_X11_oneIf [jI 0] h u fun x7 h u =>
        Q x7 h))
set_option maxRecDepth 20000 in
theorem E_X11_equal {d : Nat} {v0 : Option Nm} {v1 : Int32} {v2 : Int32} {h : MH} {u : Nat} {Q : Int32 → MH → Prop} (H : F_X11_equal d v0 v1 v2 h u Q) : T u_X11_equal (d + 1) 0 [some (jR v0), some (jI v1), some (jI v2), none, none] [] h u (qI Q) := by
  unfold F_X11_equal at H
  refine T_aload_n (pc := 0) dX11_equal_0 rfl rfl ?_
  refine T_gR (pc := 1) fa_X11_12 dX11_equal_1 (gR_mono (fun x1 H => ?_) H)
  refine T_iload_n (pc := 4) dX11_equal_4 rfl rfl ?_
  refine T_i2l (pc := 5) dX11_equal_5 ?_
  obtain ⟨H0, H⟩ := H
  refine T_iV (pc := 6) (ci := 6) (av := [jL (v1.toInt64)]) (rest := []) (o := x1) dX11_equal_6 mf_X7_findValue c_2_63 c_2_64 c_2_65 rfl rfl (Nat.le_of_ble_eq_true rfl) rfl H0 (iR_k (iR_mono (fun x2 h u H => ?_) H))
  refine T_astore_n (pc := 9) (ls2 := [some (jR v0), some (jI v1), some (jI v2), some (jR x2), none]) dX11_equal_9 rfl (Nat.le_of_ble_eq_true rfl) rfl ?_
  refine T_aload_n (pc := 10) dX11_equal_10 rfl rfl ?_
  refine T_gR (pc := 11) fa_X11_12 dX11_equal_11 (gR_mono (fun x3 H => ?_) H)
  refine T_iload_n (pc := 14) dX11_equal_14 rfl rfl ?_
  refine T_i2l (pc := 15) dX11_equal_15 ?_
  obtain ⟨H0, H⟩ := H
  refine T_iV (pc := 16) (ci := 6) (av := [jL (v2.toInt64)]) (rest := []) (o := x3) dX11_equal_16 mf_X7_findValue c_2_63 c_2_64 c_2_65 rfl rfl (Nat.le_of_ble_eq_true rfl) rfl H0 (iR_k (iR_mono (fun x4 h u H => ?_) H))
  refine T_astore (pc := 19) (ls2 := [some (jR v0), some (jI v1), some (jI v2), some (jR x2), some (jR x4)]) dX11_equal_19 (Nat.le_of_ble_eq_true rfl) rfl ?_
  refine T_aload_n (pc := 21) dX11_equal_21 rfl rfl ?_
  refine T_ifnull (pc := 22) (tgt := 30) dX11_equal_22 (by decide) (fun ho => ?_) (fun n ho => ?_)
  · replace H := nl_n ho H
    refine T_iconst (pc := 30) (v := (-1)) dX11_equal_30 (by decide) ?_
    exact T_ireturn (pc := 31) rfl rfl dX11_equal_31 H
  · replace H := nl_s ho H
    refine T_aload (pc := 25) dX11_equal_25 rfl ?_
    refine T_ifnonnull (pc := 27) (tgt := 32) dX11_equal_27 (by decide) (fun ho => ?_) (fun n ho => ?_)
    · replace H := nl_n ho H
      refine T_iconst (pc := 30) (v := (-1)) dX11_equal_30 (by decide) ?_
      exact T_ireturn (pc := 31) rfl rfl dX11_equal_31 H
    · replace H := nl_s ho H
      refine T_aload_n (pc := 32) dX11_equal_32 rfl rfl ?_
      refine T_gR (pc := 33) fa_X11_37 dX11_equal_33 (gR_mono (fun x5 H => ?_) H)
      refine T_aload_n (pc := 36) dX11_equal_36 rfl rfl ?_
      refine T_aload (pc := 37) dX11_equal_37 rfl ?_
      obtain ⟨H0, H⟩ := H
      refine T_iV (pc := 39) (ci := 0) (av := [jR x2, jR x4]) (rest := []) (o := x5) dX11_equal_39 mf_X0_compareValues c_4_23 c_4_24 c_4_25 rfl rfl (Nat.le_of_ble_eq_true rfl) rfl H0 (iI_k (iI_mono (fun x6 h u H => ?_) H))
      refine T_if_ne (pc := 42) (tgt := 49) dX11_equal_42 (by decide) (fun hc => ?_) (fun hc => ?_)
      · rw [if_neg hc] at H
        refine T_iconst (pc := 49) (v := 0) dX11_equal_49 (by decide) ?_
        refine T_invS (pc := 50) (av := [jI 0]) (rest := []) dX11_equal_50 mf_X11_oneIf c_2_83 c_2_84 rfl (Nat.le_of_ble_eq_true rfl) rfl (iI_k (iI_mono (fun x7 h u H => ?_) H))
        exact T_ireturn (pc := 53) rfl rfl dX11_equal_53 H
      · rw [if_pos hc] at H
        refine T_iconst (pc := 45) (v := 1) dX11_equal_45 (by decide) ?_
        refine T_goto (pc := 46) (tgt := 50) dX11_equal_46 (by decide) ?_
        refine T_invS (pc := 50) (av := [jI 1]) (rest := []) dX11_equal_50 mf_X11_oneIf c_2_83 c_2_84 rfl (Nat.le_of_ble_eq_true rfl) rfl (iI_k (iI_mono (fun x8 h u H => ?_) H))
        exact T_ireturn (pc := 53) rfl rfl dX11_equal_53 H
theorem I_X11_equal {d : Nat} {v0 : Option Nm} {v1 : Int32} {v2 : Int32} {h : MH} {u : Nat} {K : Int32 → MH → Nat → Prop} (u1 : Nat) (hu : u1 ≤ u) (H : F_X11_equal d v0 v1 v2 h u1 (fun x h2 => K x h2 (u - u1))) : iI (d + 1) u_X11_equal [jR v0, jI v1, jI v2] h u K := inv.of u1 hu (Ct.of (by decide +kernel) rfl (Nat.le_of_ble_eq_true rfl) rfl (E_X11_equal H))
theorem dX11_order_0 : decode cX11_order 0 = .ok (.aload_n 0, 1) := by decide +kernel
theorem dX11_order_1 : decode cX11_order 1 = .ok (.getfield 12, 3) := by decide +kernel
theorem dX11_order_4 : decode cX11_order 4 = .ok (.iload_n 1, 1) := by decide +kernel
theorem dX11_order_5 : decode cX11_order 5 = .ok (.i2l, 1) := by decide +kernel
theorem dX11_order_6 : decode cX11_order 6 = .ok (.invokevirtual 118, 3) := by decide +kernel
theorem dX11_order_9 : decode cX11_order 9 = .ok (.astore_n 3, 1) := by decide +kernel
theorem dX11_order_10 : decode cX11_order 10 = .ok (.aload_n 0, 1) := by decide +kernel
theorem dX11_order_11 : decode cX11_order 11 = .ok (.getfield 12, 3) := by decide +kernel
theorem dX11_order_14 : decode cX11_order 14 = .ok (.iload_n 2, 1) := by decide +kernel
theorem dX11_order_15 : decode cX11_order 15 = .ok (.i2l, 1) := by decide +kernel
theorem dX11_order_16 : decode cX11_order 16 = .ok (.invokevirtual 118, 3) := by decide +kernel
theorem dX11_order_19 : decode cX11_order 19 = .ok (.astore 4, 2) := by decide +kernel
theorem dX11_order_21 : decode cX11_order 21 = .ok (.aload_n 3, 1) := by decide +kernel
theorem dX11_order_22 : decode cX11_order 22 = .ok (.ifnull 8, 3) := by decide +kernel
theorem dX11_order_25 : decode cX11_order 25 = .ok (.aload 4, 2) := by decide +kernel
theorem dX11_order_27 : decode cX11_order 27 = .ok (.ifnonnull 5, 3) := by decide +kernel
theorem dX11_order_30 : decode cX11_order 30 = .ok (.iconst (-1), 1) := by decide +kernel
theorem dX11_order_31 : decode cX11_order 31 = .ok (.ireturn, 1) := by decide +kernel
theorem dX11_order_32 : decode cX11_order 32 = .ok (.aload_n 0, 1) := by decide +kernel
theorem dX11_order_33 : decode cX11_order 33 = .ok (.getfield 37, 3) := by decide +kernel
theorem dX11_order_36 : decode cX11_order 36 = .ok (.aload_n 3, 1) := by decide +kernel
theorem dX11_order_37 : decode cX11_order 37 = .ok (.aload 4, 2) := by decide +kernel
theorem dX11_order_39 : decode cX11_order 39 = .ok (.invokevirtual 292, 3) := by decide +kernel
theorem dX11_order_42 : decode cX11_order 42 = .ok (.bipush 100, 2) := by decide +kernel
theorem dX11_order_44 : decode cX11_order 44 = .ok (.isub, 1) := by decide +kernel
theorem dX11_order_45 : decode cX11_order 45 = .ok (.ireturn, 1) := by decide +kernel
def F_X11_order (d : Nat) (v0 : Option Nm) (v1 : Int32) (v2 : Int32) (h : MH) (u : Nat) (Q : Int32 → MH → Prop) : Prop :=
  gR h v0 10 0 fun x1 =>
  rc h x1 6 ∧ iR d u_X7_findValue [jR x1, jL (v1.toInt64)] h u fun x2 h u =>
  gR h v0 10 0 fun x3 =>
  rc h x3 6 ∧ iR d u_X7_findValue [jR x3, jL (v2.toInt64)] h u fun x4 h u =>
  nl x2 (
    Q (-1) h) (
    nl x4 (
      Q (-1) h) (
      gR h v0 10 3 fun x5 =>
      rc h x5 0 ∧ iI d u_X0_compareValues [jR x5, jR x2, jR x4] h u fun x6 h u =>
      Q (x6 - 100) h))
set_option maxRecDepth 20000 in
theorem E_X11_order {d : Nat} {v0 : Option Nm} {v1 : Int32} {v2 : Int32} {h : MH} {u : Nat} {Q : Int32 → MH → Prop} (H : F_X11_order d v0 v1 v2 h u Q) : T u_X11_order (d + 1) 0 [some (jR v0), some (jI v1), some (jI v2), none, none] [] h u (qI Q) := by
  unfold F_X11_order at H
  refine T_aload_n (pc := 0) dX11_order_0 rfl rfl ?_
  refine T_gR (pc := 1) fa_X11_12 dX11_order_1 (gR_mono (fun x1 H => ?_) H)
  refine T_iload_n (pc := 4) dX11_order_4 rfl rfl ?_
  refine T_i2l (pc := 5) dX11_order_5 ?_
  obtain ⟨H0, H⟩ := H
  refine T_iV (pc := 6) (ci := 6) (av := [jL (v1.toInt64)]) (rest := []) (o := x1) dX11_order_6 mf_X7_findValue c_2_63 c_2_64 c_2_65 rfl rfl (Nat.le_of_ble_eq_true rfl) rfl H0 (iR_k (iR_mono (fun x2 h u H => ?_) H))
  refine T_astore_n (pc := 9) (ls2 := [some (jR v0), some (jI v1), some (jI v2), some (jR x2), none]) dX11_order_9 rfl (Nat.le_of_ble_eq_true rfl) rfl ?_
  refine T_aload_n (pc := 10) dX11_order_10 rfl rfl ?_
  refine T_gR (pc := 11) fa_X11_12 dX11_order_11 (gR_mono (fun x3 H => ?_) H)
  refine T_iload_n (pc := 14) dX11_order_14 rfl rfl ?_
  refine T_i2l (pc := 15) dX11_order_15 ?_
  obtain ⟨H0, H⟩ := H
  refine T_iV (pc := 16) (ci := 6) (av := [jL (v2.toInt64)]) (rest := []) (o := x3) dX11_order_16 mf_X7_findValue c_2_63 c_2_64 c_2_65 rfl rfl (Nat.le_of_ble_eq_true rfl) rfl H0 (iR_k (iR_mono (fun x4 h u H => ?_) H))
  refine T_astore (pc := 19) (ls2 := [some (jR v0), some (jI v1), some (jI v2), some (jR x2), some (jR x4)]) dX11_order_19 (Nat.le_of_ble_eq_true rfl) rfl ?_
  refine T_aload_n (pc := 21) dX11_order_21 rfl rfl ?_
  refine T_ifnull (pc := 22) (tgt := 30) dX11_order_22 (by decide) (fun ho => ?_) (fun n ho => ?_)
  · replace H := nl_n ho H
    refine T_iconst (pc := 30) (v := (-1)) dX11_order_30 (by decide) ?_
    exact T_ireturn (pc := 31) rfl rfl dX11_order_31 H
  · replace H := nl_s ho H
    refine T_aload (pc := 25) dX11_order_25 rfl ?_
    refine T_ifnonnull (pc := 27) (tgt := 32) dX11_order_27 (by decide) (fun ho => ?_) (fun n ho => ?_)
    · replace H := nl_n ho H
      refine T_iconst (pc := 30) (v := (-1)) dX11_order_30 (by decide) ?_
      exact T_ireturn (pc := 31) rfl rfl dX11_order_31 H
    · replace H := nl_s ho H
      refine T_aload_n (pc := 32) dX11_order_32 rfl rfl ?_
      refine T_gR (pc := 33) fa_X11_37 dX11_order_33 (gR_mono (fun x5 H => ?_) H)
      refine T_aload_n (pc := 36) dX11_order_36 rfl rfl ?_
      refine T_aload (pc := 37) dX11_order_37 rfl ?_
      obtain ⟨H0, H⟩ := H
      refine T_iV (pc := 39) (ci := 0) (av := [jR x2, jR x4]) (rest := []) (o := x5) dX11_order_39 mf_X0_compareValues c_4_23 c_4_24 c_4_25 rfl rfl (Nat.le_of_ble_eq_true rfl) rfl H0 (iI_k (iI_mono (fun x6 h u H => ?_) H))
      refine T_bipush (pc := 42) (v := 100) dX11_order_42 (by decide) ?_
      refine T_isub (pc := 44) dX11_order_44 ?_
      exact T_ireturn (pc := 45) rfl rfl dX11_order_45 H
theorem I_X11_order {d : Nat} {v0 : Option Nm} {v1 : Int32} {v2 : Int32} {h : MH} {u : Nat} {K : Int32 → MH → Nat → Prop} (u1 : Nat) (hu : u1 ≤ u) (H : F_X11_order d v0 v1 v2 h u1 (fun x h2 => K x h2 (u - u1))) : iI (d + 1) u_X11_order [jR v0, jI v1, jI v2] h u K := inv.of u1 hu (Ct.of (by decide +kernel) rfl (Nat.le_of_ble_eq_true rfl) rfl (E_X11_order H))
theorem dX11_hash_0 : decode cX11_hash 0 = .ok (.aload_n 0, 1) := by decide +kernel
theorem dX11_hash_1 : decode cX11_hash 1 = .ok (.getfield 12, 3) := by decide +kernel
theorem dX11_hash_4 : decode cX11_hash 4 = .ok (.iload_n 1, 1) := by decide +kernel
theorem dX11_hash_5 : decode cX11_hash 5 = .ok (.i2l, 1) := by decide +kernel
theorem dX11_hash_6 : decode cX11_hash 6 = .ok (.invokevirtual 118, 3) := by decide +kernel
theorem dX11_hash_9 : decode cX11_hash 9 = .ok (.astore_n 2, 1) := by decide +kernel
theorem dX11_hash_10 : decode cX11_hash 10 = .ok (.aload_n 2, 1) := by decide +kernel
theorem dX11_hash_11 : decode cX11_hash 11 = .ok (.ifnonnull 9, 3) := by decide +kernel
theorem dX11_hash_14 : decode cX11_hash 14 = .ok (.ldc2_w 112, 3) := by decide +kernel
theorem dX11_hash_17 : decode cX11_hash 17 = .ok (.goto 12, 3) := by decide +kernel
theorem dX11_hash_20 : decode cX11_hash 20 = .ok (.aload_n 0, 1) := by decide +kernel
theorem dX11_hash_21 : decode cX11_hash 21 = .ok (.getfield 37, 3) := by decide +kernel
theorem dX11_hash_24 : decode cX11_hash 24 = .ok (.aload_n 2, 1) := by decide +kernel
theorem dX11_hash_25 : decode cX11_hash 25 = .ok (.invokevirtual 296, 3) := by decide +kernel
theorem dX11_hash_28 : decode cX11_hash 28 = .ok (.i2l, 1) := by decide +kernel
theorem dX11_hash_29 : decode cX11_hash 29 = .ok (.lreturn, 1) := by decide +kernel
def F_X11_hash (d : Nat) (v0 : Option Nm) (v1 : Int32) (h : MH) (u : Nat) (Q : Int64 → MH → Prop) : Prop :=
  gR h v0 10 0 fun x1 =>
  rc h x1 6 ∧ iR d u_X7_findValue [jR x1, jL (v1.toInt64)] h u fun x2 h u =>
  nl x2 (
    Q (-9223372036854775808) h) (
    gR h v0 10 3 fun x3 =>
    rc h x3 0 ∧ iI d u_X0_hashValue [jR x3, jR x2] h u fun x4 h u =>
    Q (x4.toInt64) h)
set_option maxRecDepth 20000 in
theorem E_X11_hash {d : Nat} {v0 : Option Nm} {v1 : Int32} {h : MH} {u : Nat} {Q : Int64 → MH → Prop} (H : F_X11_hash d v0 v1 h u Q) : T u_X11_hash (d + 1) 0 [some (jR v0), some (jI v1), none] [] h u (qL Q) := by
  unfold F_X11_hash at H
  refine T_aload_n (pc := 0) dX11_hash_0 rfl rfl ?_
  refine T_gR (pc := 1) fa_X11_12 dX11_hash_1 (gR_mono (fun x1 H => ?_) H)
  refine T_iload_n (pc := 4) dX11_hash_4 rfl rfl ?_
  refine T_i2l (pc := 5) dX11_hash_5 ?_
  obtain ⟨H0, H⟩ := H
  refine T_iV (pc := 6) (ci := 6) (av := [jL (v1.toInt64)]) (rest := []) (o := x1) dX11_hash_6 mf_X7_findValue c_2_63 c_2_64 c_2_65 rfl rfl (Nat.le_of_ble_eq_true rfl) rfl H0 (iR_k (iR_mono (fun x2 h u H => ?_) H))
  refine T_astore_n (pc := 9) (ls2 := [some (jR v0), some (jI v1), some (jR x2)]) dX11_hash_9 rfl (Nat.le_of_ble_eq_true rfl) rfl ?_
  refine T_aload_n (pc := 10) dX11_hash_10 rfl rfl ?_
  refine T_ifnonnull (pc := 11) (tgt := 20) dX11_hash_11 (by decide) (fun ho => ?_) (fun n ho => ?_)
  · replace H := nl_n ho H
    refine T_ldc2 (pc := 14) (v := (-9223372036854775808)) dX11_hash_14 c_2_54 ?_
    refine T_goto (pc := 17) (tgt := 29) dX11_hash_17 (by decide) ?_
    exact T_lreturn (pc := 29) rfl dX11_hash_29 H
  · replace H := nl_s ho H
    refine T_aload_n (pc := 20) dX11_hash_20 rfl rfl ?_
    refine T_gR (pc := 21) fa_X11_37 dX11_hash_21 (gR_mono (fun x3 H => ?_) H)
    refine T_aload_n (pc := 24) dX11_hash_24 rfl rfl ?_
    obtain ⟨H0, H⟩ := H
    refine T_iV (pc := 25) (ci := 0) (av := [jR x2]) (rest := []) (o := x3) dX11_hash_25 mf_X0_hashValue c_4_61 c_4_62 c_4_63 rfl rfl (Nat.le_of_ble_eq_true rfl) rfl H0 (iI_k (iI_mono (fun x4 h u H => ?_) H))
    refine T_i2l (pc := 28) dX11_hash_28 ?_
    exact T_lreturn (pc := 29) rfl dX11_hash_29 H
theorem I_X11_hash {d : Nat} {v0 : Option Nm} {v1 : Int32} {h : MH} {u : Nat} {K : Int64 → MH → Nat → Prop} (u1 : Nat) (hu : u1 ≤ u) (H : F_X11_hash d v0 v1 h u1 (fun x h2 => K x h2 (u - u1))) : iL (d + 1) u_X11_hash [jR v0, jI v1] h u K := inv.of u1 hu (Ct.of (by decide +kernel) rfl (Nat.le_of_ble_eq_true rfl) rfl (E_X11_hash H))
theorem dX11_weight_0 : decode cX11_weight 0 = .ok (.aload_n 0, 1) := by decide +kernel
theorem dX11_weight_1 : decode cX11_weight 1 = .ok (.getfield 12, 3) := by decide +kernel
theorem dX11_weight_4 : decode cX11_weight 4 = .ok (.iload_n 1, 1) := by decide +kernel
theorem dX11_weight_5 : decode cX11_weight 5 = .ok (.i2l, 1) := by decide +kernel
theorem dX11_weight_6 : decode cX11_weight 6 = .ok (.invokevirtual 118, 3) := by decide +kernel
theorem dX11_weight_9 : decode cX11_weight 9 = .ok (.astore_n 2, 1) := by decide +kernel
theorem dX11_weight_10 : decode cX11_weight 10 = .ok (.aload_n 2, 1) := by decide +kernel
theorem dX11_weight_11 : decode cX11_weight 11 = .ok (.ifnonnull 7, 3) := by decide +kernel
theorem dX11_weight_14 : decode cX11_weight 14 = .ok (.iconst (-1), 1) := by decide +kernel
theorem dX11_weight_15 : decode cX11_weight 15 = .ok (.goto 8, 3) := by decide +kernel
theorem dX11_weight_18 : decode cX11_weight 18 = .ok (.aload_n 0, 1) := by decide +kernel
theorem dX11_weight_19 : decode cX11_weight 19 = .ok (.aload_n 2, 1) := by decide +kernel
theorem dX11_weight_20 : decode cX11_weight 20 = .ok (.invokevirtual 300, 3) := by decide +kernel
theorem dX11_weight_23 : decode cX11_weight 23 = .ok (.ireturn, 1) := by decide +kernel
def F_X11_weight (d : Nat) (v0 : Option Nm) (v1 : Int32) (h : MH) (u : Nat) (Q : Int32 → MH → Prop) : Prop :=
  gR h v0 10 0 fun x1 =>
  rc h x1 6 ∧ iR d u_X7_findValue [jR x1, jL (v1.toInt64)] h u fun x2 h u =>
  nl x2 (
    Q (-1) h) (
    rc h v0 10 ∧ iI d u_X11_weigh [jR v0, jR x2] h u fun x3 h u =>
    Q x3 h)
set_option maxRecDepth 20000 in
theorem E_X11_weight {d : Nat} {v0 : Option Nm} {v1 : Int32} {h : MH} {u : Nat} {Q : Int32 → MH → Prop} (H : F_X11_weight d v0 v1 h u Q) : T u_X11_weight (d + 1) 0 [some (jR v0), some (jI v1), none] [] h u (qI Q) := by
  unfold F_X11_weight at H
  refine T_aload_n (pc := 0) dX11_weight_0 rfl rfl ?_
  refine T_gR (pc := 1) fa_X11_12 dX11_weight_1 (gR_mono (fun x1 H => ?_) H)
  refine T_iload_n (pc := 4) dX11_weight_4 rfl rfl ?_
  refine T_i2l (pc := 5) dX11_weight_5 ?_
  obtain ⟨H0, H⟩ := H
  refine T_iV (pc := 6) (ci := 6) (av := [jL (v1.toInt64)]) (rest := []) (o := x1) dX11_weight_6 mf_X7_findValue c_2_63 c_2_64 c_2_65 rfl rfl (Nat.le_of_ble_eq_true rfl) rfl H0 (iR_k (iR_mono (fun x2 h u H => ?_) H))
  refine T_astore_n (pc := 9) (ls2 := [some (jR v0), some (jI v1), some (jR x2)]) dX11_weight_9 rfl (Nat.le_of_ble_eq_true rfl) rfl ?_
  refine T_aload_n (pc := 10) dX11_weight_10 rfl rfl ?_
  refine T_ifnonnull (pc := 11) (tgt := 18) dX11_weight_11 (by decide) (fun ho => ?_) (fun n ho => ?_)
  · replace H := nl_n ho H
    refine T_iconst (pc := 14) (v := (-1)) dX11_weight_14 (by decide) ?_
    refine T_goto (pc := 15) (tgt := 23) dX11_weight_15 (by decide) ?_
    exact T_ireturn (pc := 23) rfl rfl dX11_weight_23 H
  · replace H := nl_s ho H
    refine T_aload_n (pc := 18) dX11_weight_18 rfl rfl ?_
    refine T_aload_n (pc := 19) dX11_weight_19 rfl rfl ?_
    obtain ⟨H0, H⟩ := H
    refine T_iV (pc := 20) (ci := 10) (av := [jR x2]) (rest := []) (o := v0) dX11_weight_20 mf_X11_weigh c_4_81 c_4_83 pr_X11_weigh rfl rfl (Nat.le_of_ble_eq_true rfl) rfl H0 (iI_k (iI_mono (fun x3 h u H => ?_) H))
    exact T_ireturn (pc := 23) rfl rfl dX11_weight_23 H
theorem I_X11_weight {d : Nat} {v0 : Option Nm} {v1 : Int32} {h : MH} {u : Nat} {K : Int32 → MH → Nat → Prop} (u1 : Nat) (hu : u1 ≤ u) (H : F_X11_weight d v0 v1 h u1 (fun x h2 => K x h2 (u - u1))) : iI (d + 1) u_X11_weight [jR v0, jI v1] h u K := inv.of u1 hu (Ct.of (by decide +kernel) rfl (Nat.le_of_ble_eq_true rfl) rfl (E_X11_weight H))
theorem dX11_show_0 : decode cX11_show 0 = .ok (.aload_n 0, 1) := by decide +kernel
theorem dX11_show_1 : decode cX11_show 1 = .ok (.getfield 12, 3) := by decide +kernel
theorem dX11_show_4 : decode cX11_show 4 = .ok (.iload_n 1, 1) := by decide +kernel
theorem dX11_show_5 : decode cX11_show 5 = .ok (.i2l, 1) := by decide +kernel
theorem dX11_show_6 : decode cX11_show 6 = .ok (.invokevirtual 118, 3) := by decide +kernel
theorem dX11_show_9 : decode cX11_show 9 = .ok (.astore_n 2, 1) := by decide +kernel
theorem dX11_show_10 : decode cX11_show 10 = .ok (.aload_n 2, 1) := by decide +kernel
theorem dX11_show_11 : decode cX11_show 11 = .ok (.ifnonnull 5, 3) := by decide +kernel
theorem dX11_show_14 : decode cX11_show 14 = .ok (.iconst (-1), 1) := by decide +kernel
theorem dX11_show_15 : decode cX11_show 15 = .ok (.ireturn, 1) := by decide +kernel
theorem dX11_show_16 : decode cX11_show 16 = .ok (.aload_n 0, 1) := by decide +kernel
theorem dX11_show_17 : decode cX11_show 17 = .ok (.getfield 44, 3) := by decide +kernel
theorem dX11_show_20 : decode cX11_show 20 = .ok (.aload_n 2, 1) := by decide +kernel
theorem dX11_show_21 : decode cX11_show 21 = .ok (.invokevirtual 303, 3) := by decide +kernel
theorem dX11_show_24 : decode cX11_show 24 = .ok (.ifCond .eq 16, 3) := by decide +kernel
theorem dX11_show_27 : decode cX11_show 27 = .ok (.aload_n 0, 1) := by decide +kernel
theorem dX11_show_28 : decode cX11_show 28 = .ok (.getfield 44, 3) := by decide +kernel
theorem dX11_show_31 : decode cX11_show 31 = .ok (.getfield 307, 3) := by decide +kernel
theorem dX11_show_34 : decode cX11_show 34 = .ok (.getfield 311, 3) := by decide +kernel
theorem dX11_show_37 : decode cX11_show 37 = .ok (.goto 5, 3) := by decide +kernel
theorem dX11_show_40 : decode cX11_show 40 = .ok (.bipush (-4), 2) := by decide +kernel
theorem dX11_show_42 : decode cX11_show 42 = .ok (.ireturn, 1) := by decide +kernel
def F_X11_show (d : Nat) (v0 : Option Nm) (v1 : Int32) (h : MH) (u : Nat) (Q : Int32 → MH → Prop) : Prop :=
  gR h v0 10 0 fun x1 =>
  rc h x1 6 ∧ iR d u_X7_findValue [jR x1, jL (v1.toInt64)] h u fun x2 h u =>
  nl x2 (
    Q (-1) h) (
    gR h v0 10 4 fun x3 =>
    rc h x3 5 ∧ iI d u_X6_writes [jR x3, jR x2] h u fun x4 h u =>
    if x4 = 0 then
      Q (-4) h
    else
      gR h v0 10 4 fun x5 =>
      gR h x5 5 1 fun x6 =>
      gI h x6 7 2 fun x7 =>
      Q x7 h)
set_option maxRecDepth 20000 in
theorem E_X11_show {d : Nat} {v0 : Option Nm} {v1 : Int32} {h : MH} {u : Nat} {Q : Int32 → MH → Prop} (H : F_X11_show d v0 v1 h u Q) : T u_X11_show (d + 1) 0 [some (jR v0), some (jI v1), none] [] h u (qI Q) := by
  unfold F_X11_show at H
  refine T_aload_n (pc := 0) dX11_show_0 rfl rfl ?_
  refine T_gR (pc := 1) fa_X11_12 dX11_show_1 (gR_mono (fun x1 H => ?_) H)
  refine T_iload_n (pc := 4) dX11_show_4 rfl rfl ?_
  refine T_i2l (pc := 5) dX11_show_5 ?_
  obtain ⟨H0, H⟩ := H
  refine T_iV (pc := 6) (ci := 6) (av := [jL (v1.toInt64)]) (rest := []) (o := x1) dX11_show_6 mf_X7_findValue c_2_63 c_2_64 c_2_65 rfl rfl (Nat.le_of_ble_eq_true rfl) rfl H0 (iR_k (iR_mono (fun x2 h u H => ?_) H))
  refine T_astore_n (pc := 9) (ls2 := [some (jR v0), some (jI v1), some (jR x2)]) dX11_show_9 rfl (Nat.le_of_ble_eq_true rfl) rfl ?_
  refine T_aload_n (pc := 10) dX11_show_10 rfl rfl ?_
  refine T_ifnonnull (pc := 11) (tgt := 16) dX11_show_11 (by decide) (fun ho => ?_) (fun n ho => ?_)
  · replace H := nl_n ho H
    refine T_iconst (pc := 14) (v := (-1)) dX11_show_14 (by decide) ?_
    exact T_ireturn (pc := 15) rfl rfl dX11_show_15 H
  · replace H := nl_s ho H
    refine T_aload_n (pc := 16) dX11_show_16 rfl rfl ?_
    refine T_gR (pc := 17) fa_X11_44 dX11_show_17 (gR_mono (fun x3 H => ?_) H)
    refine T_aload_n (pc := 20) dX11_show_20 rfl rfl ?_
    obtain ⟨H0, H⟩ := H
    refine T_iV (pc := 21) (ci := 5) (av := [jR x2]) (rest := []) (o := x3) dX11_show_21 mf_X6_writes c_4_113 c_4_114 c_4_115 rfl rfl (Nat.le_of_ble_eq_true rfl) rfl H0 (iI_k (iI_mono (fun x4 h u H => ?_) H))
    refine T_if_eq (pc := 24) (tgt := 40) dX11_show_24 (by decide) (fun hc => ?_) (fun hc => ?_)
    · rw [if_pos hc] at H
      refine T_bipush (pc := 40) (v := (-4)) dX11_show_40 (by decide) ?_
      exact T_ireturn (pc := 42) rfl rfl dX11_show_42 H
    · rw [if_neg hc] at H
      refine T_aload_n (pc := 27) dX11_show_27 rfl rfl ?_
      refine T_gR (pc := 28) fa_X11_44 dX11_show_28 (gR_mono (fun x5 H => ?_) H)
      refine T_gR (pc := 31) fa_X11_307 dX11_show_31 (gR_mono (fun x6 H => ?_) H)
      refine T_gI (pc := 34) fa_X11_311 dX11_show_34 (gI_mono (fun x7 H => ?_) H)
      refine T_goto (pc := 37) (tgt := 42) dX11_show_37 (by decide) ?_
      exact T_ireturn (pc := 42) rfl rfl dX11_show_42 H
theorem I_X11_show {d : Nat} {v0 : Option Nm} {v1 : Int32} {h : MH} {u : Nat} {K : Int32 → MH → Nat → Prop} (u1 : Nat) (hu : u1 ≤ u) (H : F_X11_show d v0 v1 h u1 (fun x h2 => K x h2 (u - u1))) : iI (d + 1) u_X11_show [jR v0, jI v1] h u K := inv.of u1 hu (Ct.of (by decide +kernel) rfl (Nat.le_of_ble_eq_true rfl) rfl (E_X11_show H))
theorem dX11_byteAt_0 : decode cX11_byteAt 0 = .ok (.aload_n 0, 1) := by decide +kernel
theorem dX11_byteAt_1 : decode cX11_byteAt 1 = .ok (.getfield 44, 3) := by decide +kernel
theorem dX11_byteAt_4 : decode cX11_byteAt 4 = .ok (.getfield 307, 3) := by decide +kernel
theorem dX11_byteAt_7 : decode cX11_byteAt 7 = .ok (.astore_n 2, 1) := by decide +kernel
theorem dX11_byteAt_8 : decode cX11_byteAt 8 = .ok (.iload_n 1, 1) := by decide +kernel
theorem dX11_byteAt_9 : decode cX11_byteAt 9 = .ok (.iconst 0, 1) := by decide +kernel
theorem dX11_byteAt_10 : decode cX11_byteAt 10 = .ok (.aload_n 2, 1) := by decide +kernel
theorem dX11_byteAt_11 : decode cX11_byteAt 11 = .ok (.getfield 311, 3) := by decide +kernel
theorem dX11_byteAt_14 : decode cX11_byteAt 14 = .ok (.iconst 1, 1) := by decide +kernel
theorem dX11_byteAt_15 : decode cX11_byteAt 15 = .ok (.isub, 1) := by decide +kernel
theorem dX11_byteAt_16 : decode cX11_byteAt 16 = .ok (.invokestatic 64, 3) := by decide +kernel
theorem dX11_byteAt_19 : decode cX11_byteAt 19 = .ok (.ifCond .eq 12, 3) := by decide +kernel
theorem dX11_byteAt_22 : decode cX11_byteAt 22 = .ok (.aload_n 2, 1) := by decide +kernel
theorem dX11_byteAt_23 : decode cX11_byteAt 23 = .ok (.getfield 314, 3) := by decide +kernel
theorem dX11_byteAt_26 : decode cX11_byteAt 26 = .ok (.iload_n 1, 1) := by decide +kernel
theorem dX11_byteAt_27 : decode cX11_byteAt 27 = .ok (.baload, 1) := by decide +kernel
theorem dX11_byteAt_28 : decode cX11_byteAt 28 = .ok (.goto 5, 3) := by decide +kernel
theorem dX11_byteAt_31 : decode cX11_byteAt 31 = .ok (.bipush (-5), 2) := by decide +kernel
theorem dX11_byteAt_33 : decode cX11_byteAt 33 = .ok (.ireturn, 1) := by decide +kernel
def F_X11_byteAt (d : Nat) (v0 : Option Nm) (v1 : Int32) (h : MH) (u : Nat) (Q : Int32 → MH → Prop) : Prop :=
  gR h v0 10 4 fun x1 =>
  gR h x1 5 1 fun x2 =>
  gI h x2 7 2 fun x3 =>
  iI d u_X11_isWithin [jI v1, jI 0, jI (x3 - 1)] h u fun x4 h u =>
  if x4 = 0 then
    Q (-5) h
  else
    gR h x2 7 0 fun x5 =>
    aI .byte h x5 v1 fun x6 =>
    Q x6 h
set_option maxRecDepth 20000 in
theorem E_X11_byteAt {d : Nat} {v0 : Option Nm} {v1 : Int32} {h : MH} {u : Nat} {Q : Int32 → MH → Prop} (H : F_X11_byteAt d v0 v1 h u Q) : T u_X11_byteAt (d + 1) 0 [some (jR v0), some (jI v1), none] [] h u (qI Q) := by
  unfold F_X11_byteAt at H
  refine T_aload_n (pc := 0) dX11_byteAt_0 rfl rfl ?_
  refine T_gR (pc := 1) fa_X11_44 dX11_byteAt_1 (gR_mono (fun x1 H => ?_) H)
  refine T_gR (pc := 4) fa_X11_307 dX11_byteAt_4 (gR_mono (fun x2 H => ?_) H)
  refine T_astore_n (pc := 7) (ls2 := [some (jR v0), some (jI v1), some (jR x2)]) dX11_byteAt_7 rfl (Nat.le_of_ble_eq_true rfl) rfl ?_
  refine T_iload_n (pc := 8) dX11_byteAt_8 rfl rfl ?_
  refine T_iconst (pc := 9) (v := 0) dX11_byteAt_9 (by decide) ?_
  refine T_aload_n (pc := 10) dX11_byteAt_10 rfl rfl ?_
  refine T_gI (pc := 11) fa_X11_311 dX11_byteAt_11 (gI_mono (fun x3 H => ?_) H)
  refine T_iconst (pc := 14) (v := 1) dX11_byteAt_14 (by decide) ?_
  refine T_isub (pc := 15) dX11_byteAt_15 ?_
  refine T_invS (pc := 16) (av := [jI v1, jI 0, jI (x3 - 1)]) (rest := []) dX11_byteAt_16 mf_X11_isWithin c_1_189 c_1_190 rfl (Nat.le_of_ble_eq_true rfl) rfl (iI_k (iI_mono (fun x4 h u H => ?_) H))
  refine T_if_eq (pc := 19) (tgt := 31) dX11_byteAt_19 (by decide) (fun hc => ?_) (fun hc => ?_)
  · rw [if_pos hc] at H
    refine T_bipush (pc := 31) (v := (-5)) dX11_byteAt_31 (by decide) ?_
    exact T_ireturn (pc := 33) rfl rfl dX11_byteAt_33 H
  · rw [if_neg hc] at H
    refine T_aload_n (pc := 22) dX11_byteAt_22 rfl rfl ?_
    refine T_gR (pc := 23) fa_X11_314 dX11_byteAt_23 (gR_mono (fun x5 H => ?_) H)
    refine T_iload_n (pc := 26) dX11_byteAt_26 rfl rfl ?_
    refine T_aB (pc := 27) dX11_byteAt_27 (aI_mono (fun x6 H => ?_) H)
    refine T_goto (pc := 28) (tgt := 33) dX11_byteAt_28 (by decide) ?_
    exact T_ireturn (pc := 33) rfl rfl dX11_byteAt_33 H
theorem I_X11_byteAt {d : Nat} {v0 : Option Nm} {v1 : Int32} {h : MH} {u : Nat} {K : Int32 → MH → Nat → Prop} (u1 : Nat) (hu : u1 ≤ u) (H : F_X11_byteAt d v0 v1 h u1 (fun x h2 => K x h2 (u - u1))) : iI (d + 1) u_X11_byteAt [jR v0, jI v1] h u K := inv.of u1 hu (Ct.of (by decide +kernel) rfl (Nat.le_of_ble_eq_true rfl) rfl (E_X11_byteAt H))
theorem dX11_carry_0 : decode cX11_carry 0 = .ok (.aload_n 0, 1) := by decide +kernel
theorem dX11_carry_1 : decode cX11_carry 1 = .ok (.getfield 12, 3) := by decide +kernel
theorem dX11_carry_4 : decode cX11_carry 4 = .ok (.iload_n 1, 1) := by decide +kernel
theorem dX11_carry_5 : decode cX11_carry 5 = .ok (.i2l, 1) := by decide +kernel
theorem dX11_carry_6 : decode cX11_carry 6 = .ok (.invokevirtual 118, 3) := by decide +kernel
theorem dX11_carry_9 : decode cX11_carry 9 = .ok (.astore_n 2, 1) := by decide +kernel
theorem dX11_carry_10 : decode cX11_carry 10 = .ok (.aload_n 2, 1) := by decide +kernel
theorem dX11_carry_11 : decode cX11_carry 11 = .ok (.ifnonnull 5, 3) := by decide +kernel
theorem dX11_carry_14 : decode cX11_carry 14 = .ok (.iconst (-1), 1) := by decide +kernel
theorem dX11_carry_15 : decode cX11_carry 15 = .ok (.ireturn, 1) := by decide +kernel
theorem dX11_carry_16 : decode cX11_carry 16 = .ok (.aload_n 2, 1) := by decide +kernel
theorem dX11_carry_17 : decode cX11_carry 17 = .ok (.getfield 252, 3) := by decide +kernel
theorem dX11_carry_20 : decode cX11_carry 20 = .ok (.astore_n 3, 1) := by decide +kernel
theorem dX11_carry_21 : decode cX11_carry 21 = .ok (.aload_n 3, 1) := by decide +kernel
theorem dX11_carry_22 : decode cX11_carry 22 = .ok (.getfield 192, 3) := by decide +kernel
theorem dX11_carry_25 : decode cX11_carry 25 = .ok (.ifCond .eq 28, 3) := by decide +kernel
theorem dX11_carry_28 : decode cX11_carry 28 = .ok (.aload_n 3, 1) := by decide +kernel
theorem dX11_carry_29 : decode cX11_carry 29 = .ok (.invokevirtual 165, 3) := by decide +kernel
theorem dX11_carry_32 : decode cX11_carry 32 = .ok (.aload_n 2, 1) := by decide +kernel
theorem dX11_carry_33 : decode cX11_carry 33 = .ok (.getfield 275, 3) := by decide +kernel
theorem dX11_carry_36 : decode cX11_carry 36 = .ok (.invokevirtual 172, 3) := by decide +kernel
theorem dX11_carry_39 : decode cX11_carry 39 = .ok (.iconst (-1), 1) := by decide +kernel
theorem dX11_carry_40 : decode cX11_carry 40 = .ok (.if_icmp .ne 8, 3) := by decide +kernel
theorem dX11_carry_43 : decode cX11_carry 43 = .ok (.bipush (-3), 2) := by decide +kernel
theorem dX11_carry_45 : decode cX11_carry 45 = .ok (.goto 7, 3) := by decide +kernel
theorem dX11_carry_48 : decode cX11_carry 48 = .ok (.aload_n 2, 1) := by decide +kernel
theorem dX11_carry_49 : decode cX11_carry 49 = .ok (.getfield 318, 3) := by decide +kernel
theorem dX11_carry_52 : decode cX11_carry 52 = .ok (.ireturn, 1) := by decide +kernel
theorem dX11_carry_53 : decode cX11_carry 53 = .ok (.aload_n 0, 1) := by decide +kernel
theorem dX11_carry_54 : decode cX11_carry 54 = .ok (.getfield 12, 3) := by decide +kernel
theorem dX11_carry_57 : decode cX11_carry 57 = .ok (.iconst 1, 1) := by decide +kernel
theorem dX11_carry_58 : decode cX11_carry 58 = .ok (.invokevirtual 231, 3) := by decide +kernel
theorem dX11_carry_61 : decode cX11_carry 61 = .ok (.ifCond .ne 6, 3) := by decide +kernel
theorem dX11_carry_64 : decode cX11_carry 64 = .ok (.bipush (-4), 2) := by decide +kernel
theorem dX11_carry_66 : decode cX11_carry 66 = .ok (.ireturn, 1) := by decide +kernel
theorem dX11_carry_67 : decode cX11_carry 67 = .ok (.aload_n 0, 1) := by decide +kernel
theorem dX11_carry_68 : decode cX11_carry 68 = .ok (.getfield 30, 3) := by decide +kernel
theorem dX11_carry_71 : decode cX11_carry 71 = .ok (.aload_n 2, 1) := by decide +kernel
theorem dX11_carry_72 : decode cX11_carry 72 = .ok (.aload_n 3, 1) := by decide +kernel
theorem dX11_carry_73 : decode cX11_carry 73 = .ok (.invokevirtual 165, 3) := by decide +kernel
theorem dX11_carry_76 : decode cX11_carry 76 = .ok (.invokevirtual 319, 3) := by decide +kernel
theorem dX11_carry_79 : decode cX11_carry 79 = .ok (.istore 4, 2) := by decide +kernel
theorem dX11_carry_81 : decode cX11_carry 81 = .ok (.iload 4, 2) := by decide +kernel
theorem dX11_carry_83 : decode cX11_carry 83 = .ok (.ifCond .eq 10, 3) := by decide +kernel
theorem dX11_carry_86 : decode cX11_carry 86 = .ok (.aload_n 0, 1) := by decide +kernel
theorem dX11_carry_87 : decode cX11_carry 87 = .ok (.iload 4, 2) := by decide +kernel
theorem dX11_carry_89 : decode cX11_carry 89 = .ok (.invokevirtual 72, 3) := by decide +kernel
theorem dX11_carry_92 : decode cX11_carry 92 = .ok (.ireturn, 1) := by decide +kernel
theorem dX11_carry_93 : decode cX11_carry 93 = .ok (.aload_n 0, 1) := by decide +kernel
theorem dX11_carry_94 : decode cX11_carry 94 = .ok (.aload_n 3, 1) := by decide +kernel
theorem dX11_carry_95 : decode cX11_carry 95 = .ok (.invokevirtual 242, 3) := by decide +kernel
theorem dX11_carry_98 : decode cX11_carry 98 = .ok (.ireturn, 1) := by decide +kernel
def F_X11_carry (d : Nat) (v0 : Option Nm) (v1 : Int32) (h : MH) (u : Nat) (Q : Int32 → MH → Prop) : Prop :=
  gR h v0 10 0 fun x1 =>
  rc h x1 6 ∧ iR d u_X7_findValue [jR x1, jL (v1.toInt64)] h u fun x2 h u =>
  nl x2 (
    Q (-1) h) (
    gR h x2 9 1 fun x3 =>
    gI h x3 3 1 fun x4 =>
    if x4 = 0 then
      gR h v0 10 0 fun x5 =>
      rc h x5 6 ∧ iI d u_X7_hasRoomForValues [jR x5, jI 1] h u fun x6 h u =>
      if x6 = 0 then
        Q (-4) h
      else
        gR h v0 10 2 fun x7 =>
        rc h x3 3 ∧ iR d u_X3_newest [jR x3] h u fun x8 h u =>
        rc h x7 1 ∧ iI d u_X1_takeValue [jR x7, jR x2, jR x8] h u fun x9 h u =>
        if x9 = 0 then
          rc h v0 10 ∧ iI d u_X11_finish [jR v0, jR x3] h u fun x10 h u =>
          Q x10 h
        else
          rc h v0 10 ∧ iI d u_X11_failed [jR v0, jI x9] h u fun x11 h u =>
          Q x11 h
    else
      rc h x3 3 ∧ iR d u_X3_newest [jR x3] h u fun x12 h u =>
      gI h x2 9 4 fun x13 =>
      rc h x12 2 ∧ iI d u_X2_find [jR x12, jI x13] h u fun x14 h u =>
      if x14 = (-1) then
        Q (-3) h
      else
        gI h x2 9 0 fun x15 =>
        Q x15 h)
set_option maxRecDepth 20000 in
theorem E_X11_carry {d : Nat} {v0 : Option Nm} {v1 : Int32} {h : MH} {u : Nat} {Q : Int32 → MH → Prop} (H : F_X11_carry d v0 v1 h u Q) : T u_X11_carry (d + 1) 0 [some (jR v0), some (jI v1), none, none, none] [] h u (qI Q) := by
  unfold F_X11_carry at H
  refine T_aload_n (pc := 0) dX11_carry_0 rfl rfl ?_
  refine T_gR (pc := 1) fa_X11_12 dX11_carry_1 (gR_mono (fun x1 H => ?_) H)
  refine T_iload_n (pc := 4) dX11_carry_4 rfl rfl ?_
  refine T_i2l (pc := 5) dX11_carry_5 ?_
  obtain ⟨H0, H⟩ := H
  refine T_iV (pc := 6) (ci := 6) (av := [jL (v1.toInt64)]) (rest := []) (o := x1) dX11_carry_6 mf_X7_findValue c_2_63 c_2_64 c_2_65 rfl rfl (Nat.le_of_ble_eq_true rfl) rfl H0 (iR_k (iR_mono (fun x2 h u H => ?_) H))
  refine T_astore_n (pc := 9) (ls2 := [some (jR v0), some (jI v1), some (jR x2), none, none]) dX11_carry_9 rfl (Nat.le_of_ble_eq_true rfl) rfl ?_
  refine T_aload_n (pc := 10) dX11_carry_10 rfl rfl ?_
  refine T_ifnonnull (pc := 11) (tgt := 16) dX11_carry_11 (by decide) (fun ho => ?_) (fun n ho => ?_)
  · replace H := nl_n ho H
    refine T_iconst (pc := 14) (v := (-1)) dX11_carry_14 (by decide) ?_
    exact T_ireturn (pc := 15) rfl rfl dX11_carry_15 H
  · replace H := nl_s ho H
    refine T_aload_n (pc := 16) dX11_carry_16 rfl rfl ?_
    refine T_gR (pc := 17) fa_X11_252 dX11_carry_17 (gR_mono (fun x3 H => ?_) H)
    refine T_astore_n (pc := 20) (ls2 := [some (jR v0), some (jI v1), some (jR x2), some (jR x3), none]) dX11_carry_20 rfl (Nat.le_of_ble_eq_true rfl) rfl ?_
    refine T_aload_n (pc := 21) dX11_carry_21 rfl rfl ?_
    refine T_gI (pc := 22) fa_X11_192 dX11_carry_22 (gI_mono (fun x4 H => ?_) H)
    refine T_if_eq (pc := 25) (tgt := 53) dX11_carry_25 (by decide) (fun hc => ?_) (fun hc => ?_)
    · rw [if_pos hc] at H
      refine T_aload_n (pc := 53) dX11_carry_53 rfl rfl ?_
      refine T_gR (pc := 54) fa_X11_12 dX11_carry_54 (gR_mono (fun x5 H => ?_) H)
      refine T_iconst (pc := 57) (v := 1) dX11_carry_57 (by decide) ?_
      obtain ⟨H0, H⟩ := H
      refine T_iV (pc := 58) (ci := 6) (av := [jI 1]) (rest := []) (o := x5) dX11_carry_58 mf_X7_hasRoomForValues c_3_5 c_3_6 c_3_7 rfl rfl (Nat.le_of_ble_eq_true rfl) rfl H0 (iI_k (iI_mono (fun x6 h u H => ?_) H))
      refine T_if_ne (pc := 61) (tgt := 67) dX11_carry_61 (by decide) (fun hc => ?_) (fun hc => ?_)
      · rw [if_neg hc] at H
        refine T_aload_n (pc := 67) dX11_carry_67 rfl rfl ?_
        refine T_gR (pc := 68) fa_X11_30 dX11_carry_68 (gR_mono (fun x7 H => ?_) H)
        refine T_aload_n (pc := 71) dX11_carry_71 rfl rfl ?_
        refine T_aload_n (pc := 72) dX11_carry_72 rfl rfl ?_
        obtain ⟨H0, H⟩ := H
        refine T_iV (pc := 73) (ci := 3) (av := []) (rest := [jR x2, jR x7]) (o := x3) dX11_carry_73 mf_X3_newest c_2_213 c_2_214 c_2_215 rfl rfl (Nat.le_of_ble_eq_true rfl) rfl H0 (iR_k (iR_mono (fun x8 h u H => ?_) H))
        obtain ⟨H0, H⟩ := H
        refine T_iV (pc := 76) (ci := 1) (av := [jR x2, jR x8]) (rest := []) (o := x7) dX11_carry_76 mf_X1_takeValue c_4_158 c_4_159 c_4_160 rfl rfl (Nat.le_of_ble_eq_true rfl) rfl H0 (iI_k (iI_mono (fun x9 h u H => ?_) H))
        refine T_istore (pc := 79) (ls2 := [some (jR v0), some (jI v1), some (jR x2), some (jR x3), some (jI x9)]) dX11_carry_79 (Nat.le_of_ble_eq_true rfl) rfl ?_
        refine T_iload (pc := 81) dX11_carry_81 rfl ?_
        refine T_if_eq (pc := 83) (tgt := 93) dX11_carry_83 (by decide) (fun hc => ?_) (fun hc => ?_)
        · rw [if_pos hc] at H
          refine T_aload_n (pc := 93) dX11_carry_93 rfl rfl ?_
          refine T_aload_n (pc := 94) dX11_carry_94 rfl rfl ?_
          obtain ⟨H0, H⟩ := H
          refine T_iV (pc := 95) (ci := 10) (av := [jR x3]) (rest := []) (o := v0) dX11_carry_95 mf_X11_finish c_3_161 c_3_163 pr_X11_finish rfl rfl (Nat.le_of_ble_eq_true rfl) rfl H0 (iI_k (iI_mono (fun x10 h u H => ?_) H))
          exact T_ireturn (pc := 98) rfl rfl dX11_carry_98 H
        · rw [if_neg hc] at H
          refine T_aload_n (pc := 86) dX11_carry_86 rfl rfl ?_
          refine T_iload (pc := 87) dX11_carry_87 rfl ?_
          obtain ⟨H0, H⟩ := H
          refine T_iV (pc := 89) (ci := 10) (av := [jI x9]) (rest := []) (o := v0) dX11_carry_89 mf_X11_failed c_1_196 c_1_198 pr_X11_failed rfl rfl (Nat.le_of_ble_eq_true rfl) rfl H0 (iI_k (iI_mono (fun x11 h u H => ?_) H))
          exact T_ireturn (pc := 92) rfl rfl dX11_carry_92 H
      · rw [if_pos hc] at H
        refine T_bipush (pc := 64) (v := (-4)) dX11_carry_64 (by decide) ?_
        exact T_ireturn (pc := 66) rfl rfl dX11_carry_66 H
    · rw [if_neg hc] at H
      refine T_aload_n (pc := 28) dX11_carry_28 rfl rfl ?_
      obtain ⟨H0, H⟩ := H
      refine T_iV (pc := 29) (ci := 3) (av := []) (rest := []) (o := x3) dX11_carry_29 mf_X3_newest c_2_213 c_2_214 c_2_215 rfl rfl (Nat.le_of_ble_eq_true rfl) rfl H0 (iR_k (iR_mono (fun x12 h u H => ?_) H))
      refine T_aload_n (pc := 32) dX11_carry_32 rfl rfl ?_
      refine T_gI (pc := 33) fa_X11_275 dX11_carry_33 (gI_mono (fun x13 H => ?_) H)
      obtain ⟨H0, H⟩ := H
      refine T_iV (pc := 36) (ci := 2) (av := [jI x13]) (rest := []) (o := x12) dX11_carry_36 mf_X2_find c_2_217 c_2_218 c_2_219 rfl rfl (Nat.le_of_ble_eq_true rfl) rfl H0 (iI_k (iI_mono (fun x14 h u H => ?_) H))
      refine T_iconst (pc := 39) (v := (-1)) dX11_carry_39 (by decide) ?_
      refine T_icmp_ne (pc := 40) (tgt := 48) dX11_carry_40 (by decide) (fun hc => ?_) (fun hc => ?_)
      · rw [if_neg hc] at H
        refine T_aload_n (pc := 48) dX11_carry_48 rfl rfl ?_
        refine T_gI (pc := 49) fa_X11_318 dX11_carry_49 (gI_mono (fun x15 H => ?_) H)
        exact T_ireturn (pc := 52) rfl rfl dX11_carry_52 H
      · rw [if_pos hc] at H
        refine T_bipush (pc := 43) (v := (-3)) dX11_carry_43 (by decide) ?_
        refine T_goto (pc := 45) (tgt := 52) dX11_carry_45 (by decide) ?_
        exact T_ireturn (pc := 52) rfl rfl dX11_carry_52 H
theorem I_X11_carry {d : Nat} {v0 : Option Nm} {v1 : Int32} {h : MH} {u : Nat} {K : Int32 → MH → Nat → Prop} (u1 : Nat) (hu : u1 ≤ u) (H : F_X11_carry d v0 v1 h u1 (fun x h2 => K x h2 (u - u1))) : iI (d + 1) u_X11_carry [jR v0, jI v1] h u K := inv.of u1 hu (Ct.of (by decide +kernel) rfl (Nat.le_of_ble_eq_true rfl) rfl (E_X11_carry H))
theorem dX11_trace_0 : decode cX11_trace 0 = .ok (.aload_n 0, 1) := by decide +kernel
theorem dX11_trace_1 : decode cX11_trace 1 = .ok (.getfield 323, 3) := by decide +kernel
theorem dX11_trace_4 : decode cX11_trace 4 = .ok (.ireturn, 1) := by decide +kernel
def F_X11_trace (d : Nat) (v0 : Option Nm) (h : MH) (u : Nat) (Q : Int32 → MH → Prop) : Prop :=
  gI h v0 10 11 fun x1 =>
  Q x1 h
set_option maxRecDepth 20000 in
theorem E_X11_trace {d : Nat} {v0 : Option Nm} {h : MH} {u : Nat} {Q : Int32 → MH → Prop} (H : F_X11_trace d v0 h u Q) : T u_X11_trace d 0 [some (jR v0)] [] h u (qI Q) := by
  unfold F_X11_trace at H
  refine T_aload_n (pc := 0) dX11_trace_0 rfl rfl ?_
  refine T_gI (pc := 1) fa_X11_323 dX11_trace_1 (gI_mono (fun x1 H => ?_) H)
  exact T_ireturn (pc := 4) rfl rfl dX11_trace_4 H
theorem I_X11_trace {d : Nat} {v0 : Option Nm} {h : MH} {u : Nat} {K : Int32 → MH → Nat → Prop} (u1 : Nat) (hu : u1 ≤ u) (H : F_X11_trace d v0 h u1 (fun x h2 => K x h2 (u - u1))) : iI d u_X11_trace [jR v0] h u K := inv.of u1 hu (Ct.of (by decide +kernel) rfl (Nat.le_of_ble_eq_true rfl) rfl (E_X11_trace H))
theorem dX11_fault_0 : decode cX11_fault 0 = .ok (.aload_n 0, 1) := by decide +kernel
theorem dX11_fault_1 : decode cX11_fault 1 = .ok (.getfield 326, 3) := by decide +kernel
theorem dX11_fault_4 : decode cX11_fault 4 = .ok (.ireturn, 1) := by decide +kernel
def F_X11_fault (d : Nat) (v0 : Option Nm) (h : MH) (u : Nat) (Q : Int32 → MH → Prop) : Prop :=
  gI h v0 10 12 fun x1 =>
  Q x1 h
set_option maxRecDepth 20000 in
theorem E_X11_fault {d : Nat} {v0 : Option Nm} {h : MH} {u : Nat} {Q : Int32 → MH → Prop} (H : F_X11_fault d v0 h u Q) : T u_X11_fault d 0 [some (jR v0)] [] h u (qI Q) := by
  unfold F_X11_fault at H
  refine T_aload_n (pc := 0) dX11_fault_0 rfl rfl ?_
  refine T_gI (pc := 1) fa_X11_326 dX11_fault_1 (gI_mono (fun x1 H => ?_) H)
  exact T_ireturn (pc := 4) rfl rfl dX11_fault_4 H
theorem I_X11_fault {d : Nat} {v0 : Option Nm} {h : MH} {u : Nat} {K : Int32 → MH → Nat → Prop} (u1 : Nat) (hu : u1 ≤ u) (H : F_X11_fault d v0 h u1 (fun x h2 => K x h2 (u - u1))) : iI d u_X11_fault [jR v0] h u K := inv.of u1 hu (Ct.of (by decide +kernel) rfl (Nat.le_of_ble_eq_true rfl) rfl (E_X11_fault H))
theorem dX11_told_0 : decode cX11_told 0 = .ok (.iload_n 1, 1) := by decide +kernel
theorem dX11_told_1 : decode cX11_told 1 = .ok (.tableswitch 75 0 5 #[39, 47, 52, 57, 65, 70], 39) := by decide +kernel
theorem dX11_told_40 : decode cX11_told 40 = .ok (.aload_n 0, 1) := by decide +kernel
theorem dX11_told_41 : decode cX11_told 41 = .ok (.getfield 12, 3) := by decide +kernel
theorem dX11_told_44 : decode cX11_told 44 = .ok (.getfield 329, 3) := by decide +kernel
theorem dX11_told_47 : decode cX11_told 47 = .ok (.ireturn, 1) := by decide +kernel
theorem dX11_told_48 : decode cX11_told 48 = .ok (.aload_n 0, 1) := by decide +kernel
theorem dX11_told_49 : decode cX11_told 49 = .ok (.getfield 211, 3) := by decide +kernel
theorem dX11_told_52 : decode cX11_told 52 = .ok (.ireturn, 1) := by decide +kernel
theorem dX11_told_53 : decode cX11_told 53 = .ok (.aload_n 0, 1) := by decide +kernel
theorem dX11_told_54 : decode cX11_told 54 = .ok (.getfield 214, 3) := by decide +kernel
theorem dX11_told_57 : decode cX11_told 57 = .ok (.ireturn, 1) := by decide +kernel
theorem dX11_told_58 : decode cX11_told 58 = .ok (.aload_n 0, 1) := by decide +kernel
theorem dX11_told_59 : decode cX11_told 59 = .ok (.getfield 12, 3) := by decide +kernel
theorem dX11_told_62 : decode cX11_told 62 = .ok (.getfield 332, 3) := by decide +kernel
theorem dX11_told_65 : decode cX11_told 65 = .ok (.ireturn, 1) := by decide +kernel
theorem dX11_told_66 : decode cX11_told 66 = .ok (.aload_n 0, 1) := by decide +kernel
theorem dX11_told_67 : decode cX11_told 67 = .ok (.getfield 335, 3) := by decide +kernel
theorem dX11_told_70 : decode cX11_told 70 = .ok (.ireturn, 1) := by decide +kernel
theorem dX11_told_71 : decode cX11_told 71 = .ok (.aload_n 0, 1) := by decide +kernel
theorem dX11_told_72 : decode cX11_told 72 = .ok (.getfield 338, 3) := by decide +kernel
theorem dX11_told_75 : decode cX11_told 75 = .ok (.ireturn, 1) := by decide +kernel
theorem dX11_told_76 : decode cX11_told 76 = .ok (.bipush (-2), 2) := by decide +kernel
theorem dX11_told_78 : decode cX11_told 78 = .ok (.ireturn, 1) := by decide +kernel
def F_X11_told (d : Nat) (v0 : Option Nm) (v1 : Int32) (h : MH) (u : Nat) (Q : Int32 → MH → Prop) : Prop :=
  if v1 = 0 then
    gR h v0 10 0 fun x1 =>
    gI h x1 6 2 fun x2 =>
    Q x2 h
  else if v1 = 1 then
    gI h v0 10 8 fun x3 =>
    Q x3 h
  else if v1 = 2 then
    gI h v0 10 9 fun x4 =>
    Q x4 h
  else if v1 = 3 then
    gR h v0 10 0 fun x5 =>
    gI h x5 6 3 fun x6 =>
    Q x6 h
  else if v1 = 4 then
    gI h v0 10 10 fun x7 =>
    Q x7 h
  else if v1 = 5 then
    gI h v0 10 13 fun x8 =>
    Q x8 h
  else 
    Q (-2) h
set_option maxRecDepth 20000 in
theorem E_X11_told {d : Nat} {v0 : Option Nm} {v1 : Int32} {h : MH} {u : Nat} {Q : Int32 → MH → Prop} (H : F_X11_told d v0 v1 h u Q) : T u_X11_told d 0 [some (jR v0), some (jI v1)] [] h u (qI Q) := by
  unfold F_X11_told at H
  refine T_iload_n (pc := 0) dX11_told_0 rfl rfl ?_
  by_cases h0 : v1 = 0
  · rw [if_pos h0] at H
    refine T_tableIn (pc := 1) (off := 39) (tgt := 40) dX11_told_1 (by rw [h0]; decide) (by rw [h0]; decide) (by rw [h0]; rfl) (by decide) ?_
    refine T_aload_n (pc := 40) dX11_told_40 rfl rfl ?_
    refine T_gR (pc := 41) fa_X11_12 dX11_told_41 (gR_mono (fun x1 H => ?_) H)
    refine T_gI (pc := 44) fa_X11_329 dX11_told_44 (gI_mono (fun x2 H => ?_) H)
    exact T_ireturn (pc := 47) rfl rfl dX11_told_47 H
  rw [if_neg h0] at H
  by_cases h1 : v1 = 1
  · rw [if_pos h1] at H
    refine T_tableIn (pc := 1) (off := 47) (tgt := 48) dX11_told_1 (by rw [h1]; decide) (by rw [h1]; decide) (by rw [h1]; rfl) (by decide) ?_
    refine T_aload_n (pc := 48) dX11_told_48 rfl rfl ?_
    refine T_gI (pc := 49) fa_X11_211 dX11_told_49 (gI_mono (fun x3 H => ?_) H)
    exact T_ireturn (pc := 52) rfl rfl dX11_told_52 H
  rw [if_neg h1] at H
  by_cases h2 : v1 = 2
  · rw [if_pos h2] at H
    refine T_tableIn (pc := 1) (off := 52) (tgt := 53) dX11_told_1 (by rw [h2]; decide) (by rw [h2]; decide) (by rw [h2]; rfl) (by decide) ?_
    refine T_aload_n (pc := 53) dX11_told_53 rfl rfl ?_
    refine T_gI (pc := 54) fa_X11_214 dX11_told_54 (gI_mono (fun x4 H => ?_) H)
    exact T_ireturn (pc := 57) rfl rfl dX11_told_57 H
  rw [if_neg h2] at H
  by_cases h3 : v1 = 3
  · rw [if_pos h3] at H
    refine T_tableIn (pc := 1) (off := 57) (tgt := 58) dX11_told_1 (by rw [h3]; decide) (by rw [h3]; decide) (by rw [h3]; rfl) (by decide) ?_
    refine T_aload_n (pc := 58) dX11_told_58 rfl rfl ?_
    refine T_gR (pc := 59) fa_X11_12 dX11_told_59 (gR_mono (fun x5 H => ?_) H)
    refine T_gI (pc := 62) fa_X11_332 dX11_told_62 (gI_mono (fun x6 H => ?_) H)
    exact T_ireturn (pc := 65) rfl rfl dX11_told_65 H
  rw [if_neg h3] at H
  by_cases h4 : v1 = 4
  · rw [if_pos h4] at H
    refine T_tableIn (pc := 1) (off := 65) (tgt := 66) dX11_told_1 (by rw [h4]; decide) (by rw [h4]; decide) (by rw [h4]; rfl) (by decide) ?_
    refine T_aload_n (pc := 66) dX11_told_66 rfl rfl ?_
    refine T_gI (pc := 67) fa_X11_335 dX11_told_67 (gI_mono (fun x7 H => ?_) H)
    exact T_ireturn (pc := 70) rfl rfl dX11_told_70 H
  rw [if_neg h4] at H
  by_cases h5 : v1 = 5
  · rw [if_pos h5] at H
    refine T_tableIn (pc := 1) (off := 70) (tgt := 71) dX11_told_1 (by rw [h5]; decide) (by rw [h5]; decide) (by rw [h5]; rfl) (by decide) ?_
    refine T_aload_n (pc := 71) dX11_told_71 rfl rfl ?_
    refine T_gI (pc := 72) fa_X11_338 dX11_told_72 (gI_mono (fun x8 H => ?_) H)
    exact T_ireturn (pc := 75) rfl rfl dX11_told_75 H
  rw [if_neg h5] at H
  have e0 : (v1 : Int32).toInt ≠ 0 := fun q => h0 (Int32.toInt_inj.mp (q.trans (by decide)))
  have e1 : (v1 : Int32).toInt ≠ 1 := fun q => h1 (Int32.toInt_inj.mp (q.trans (by decide)))
  have e2 : (v1 : Int32).toInt ≠ 2 := fun q => h2 (Int32.toInt_inj.mp (q.trans (by decide)))
  have e3 : (v1 : Int32).toInt ≠ 3 := fun q => h3 (Int32.toInt_inj.mp (q.trans (by decide)))
  have e4 : (v1 : Int32).toInt ≠ 4 := fun q => h4 (Int32.toInt_inj.mp (q.trans (by decide)))
  have e5 : (v1 : Int32).toInt ≠ 5 := fun q => h5 (Int32.toInt_inj.mp (q.trans (by decide)))
  refine T_tableOut (pc := 1) (tgt := 76) dX11_told_1 (by omega) (by decide) ?_
  refine T_bipush (pc := 76) (v := (-2)) dX11_told_76 (by decide) ?_
  exact T_ireturn (pc := 78) rfl rfl dX11_told_78 H
theorem I_X11_told {d : Nat} {v0 : Option Nm} {v1 : Int32} {h : MH} {u : Nat} {K : Int32 → MH → Nat → Prop} (u1 : Nat) (hu : u1 ≤ u) (H : F_X11_told d v0 v1 h u1 (fun x h2 => K x h2 (u - u1))) : iI d u_X11_told [jR v0, jI v1] h u K := inv.of u1 hu (Ct.of (by decide +kernel) rfl (Nat.le_of_ble_eq_true rfl) rfl (E_X11_told H))
theorem dX11_failed_0 : decode cX11_failed 0 = .ok (.aload_n 0, 1) := by decide +kernel
theorem dX11_failed_1 : decode cX11_failed 1 = .ok (.iload_n 1, 1) := by decide +kernel
theorem dX11_failed_2 : decode cX11_failed 2 = .ok (.putfield 326, 3) := by decide +kernel
theorem dX11_failed_5 : decode cX11_failed 5 = .ok (.aload_n 0, 1) := by decide +kernel
theorem dX11_failed_6 : decode cX11_failed 6 = .ok (.dup, 1) := by decide +kernel
theorem dX11_failed_7 : decode cX11_failed 7 = .ok (.getfield 338, 3) := by decide +kernel
theorem dX11_failed_10 : decode cX11_failed 10 = .ok (.iconst 1, 1) := by decide +kernel
theorem dX11_failed_11 : decode cX11_failed 11 = .ok (.iadd, 1) := by decide +kernel
theorem dX11_failed_12 : decode cX11_failed 12 = .ok (.putfield 338, 3) := by decide +kernel
theorem dX11_failed_15 : decode cX11_failed 15 = .ok (.bipush (-10), 2) := by decide +kernel
theorem dX11_failed_17 : decode cX11_failed 17 = .ok (.iload_n 1, 1) := by decide +kernel
theorem dX11_failed_18 : decode cX11_failed 18 = .ok (.isub, 1) := by decide +kernel
theorem dX11_failed_19 : decode cX11_failed 19 = .ok (.ireturn, 1) := by decide +kernel
def F_X11_failed (d : Nat) (v0 : Option Nm) (v1 : Int32) (h : MH) (u : Nat) (Q : Int32 → MH → Prop) : Prop :=
  pV h v0 10 12 (jI v1) fun h =>
  gI h v0 10 13 fun x1 =>
  pV h v0 10 13 (jI (x1 + 1)) fun h =>
  Q ((-10) - v1) h
set_option maxRecDepth 20000 in
theorem E_X11_failed {d : Nat} {v0 : Option Nm} {v1 : Int32} {h : MH} {u : Nat} {Q : Int32 → MH → Prop} (H : F_X11_failed d v0 v1 h u Q) : T u_X11_failed d 0 [some (jR v0), some (jI v1)] [] h u (qI Q) := by
  unfold F_X11_failed at H
  refine T_aload_n (pc := 0) dX11_failed_0 rfl rfl ?_
  refine T_iload_n (pc := 1) dX11_failed_1 rfl rfl ?_
  refine T_pV (pc := 2) fa_X11_326 dX11_failed_2 trivial (pV_mono (fun h H => ?_) H)
  refine T_aload_n (pc := 5) dX11_failed_5 rfl rfl ?_
  refine T_dup (pc := 6) rfl dX11_failed_6 ?_
  refine T_gI (pc := 7) fa_X11_338 dX11_failed_7 (gI_mono (fun x1 H => ?_) H)
  refine T_iconst (pc := 10) (v := 1) dX11_failed_10 (by decide) ?_
  refine T_iadd (pc := 11) dX11_failed_11 ?_
  refine T_pV (pc := 12) fa_X11_338 dX11_failed_12 trivial (pV_mono (fun h H => ?_) H)
  refine T_bipush (pc := 15) (v := (-10)) dX11_failed_15 (by decide) ?_
  refine T_iload_n (pc := 17) dX11_failed_17 rfl rfl ?_
  refine T_isub (pc := 18) dX11_failed_18 ?_
  exact T_ireturn (pc := 19) rfl rfl dX11_failed_19 H
theorem I_X11_failed {d : Nat} {v0 : Option Nm} {v1 : Int32} {h : MH} {u : Nat} {K : Int32 → MH → Nat → Prop} (u1 : Nat) (hu : u1 ≤ u) (H : F_X11_failed d v0 v1 h u1 (fun x h2 => K x h2 (u - u1))) : iI d u_X11_failed [jR v0, jI v1] h u K := inv.of u1 hu (Ct.of (by decide +kernel) rfl (Nat.le_of_ble_eq_true rfl) rfl (E_X11_failed H))
theorem dX11_lost_0 : decode cX11_lost 0 = .ok (.aload_n 0, 1) := by decide +kernel
theorem dX11_lost_1 : decode cX11_lost 1 = .ok (.iload_n 1, 1) := by decide +kernel
theorem dX11_lost_2 : decode cX11_lost 2 = .ok (.invokevirtual 72, 3) := by decide +kernel
theorem dX11_lost_5 : decode cX11_lost 5 = .ok (.pop, 1) := by decide +kernel
theorem dX11_lost_6 : decode cX11_lost 6 = .ok (.ldc2_w 112, 3) := by decide +kernel
theorem dX11_lost_9 : decode cX11_lost 9 = .ok (.lreturn, 1) := by decide +kernel
def F_X11_lost (d : Nat) (v0 : Option Nm) (v1 : Int32) (h : MH) (u : Nat) (Q : Int64 → MH → Prop) : Prop :=
  rc h v0 10 ∧ iI d u_X11_failed [jR v0, jI v1] h u fun x1 h u =>
  Q (-9223372036854775808) h
set_option maxRecDepth 20000 in
theorem E_X11_lost {d : Nat} {v0 : Option Nm} {v1 : Int32} {h : MH} {u : Nat} {Q : Int64 → MH → Prop} (H : F_X11_lost d v0 v1 h u Q) : T u_X11_lost (d + 1) 0 [some (jR v0), some (jI v1)] [] h u (qL Q) := by
  unfold F_X11_lost at H
  refine T_aload_n (pc := 0) dX11_lost_0 rfl rfl ?_
  refine T_iload_n (pc := 1) dX11_lost_1 rfl rfl ?_
  obtain ⟨H0, H⟩ := H
  refine T_iV (pc := 2) (ci := 10) (av := [jI v1]) (rest := []) (o := v0) dX11_lost_2 mf_X11_failed c_1_196 c_1_198 pr_X11_failed rfl rfl (Nat.le_of_ble_eq_true rfl) rfl H0 (iI_k (iI_mono (fun x1 h u H => ?_) H))
  refine T_pop (pc := 5) rfl dX11_lost_5 ?_
  refine T_ldc2 (pc := 6) (v := (-9223372036854775808)) dX11_lost_6 c_2_54 ?_
  exact T_lreturn (pc := 9) rfl dX11_lost_9 H
theorem I_X11_lost {d : Nat} {v0 : Option Nm} {v1 : Int32} {h : MH} {u : Nat} {K : Int64 → MH → Nat → Prop} (u1 : Nat) (hu : u1 ≤ u) (H : F_X11_lost d v0 v1 h u1 (fun x h2 => K x h2 (u - u1))) : iL (d + 1) u_X11_lost [jR v0, jI v1] h u K := inv.of u1 hu (Ct.of (by decide +kernel) rfl (Nat.le_of_ble_eq_true rfl) rfl (E_X11_lost H))
theorem dX11_leaveTrace_0 : decode cX11_leaveTrace 0 = .ok (.aload_n 0, 1) := by decide +kernel
theorem dX11_leaveTrace_1 : decode cX11_leaveTrace 1 = .ok (.bipush 31, 2) := by decide +kernel
theorem dX11_leaveTrace_3 : decode cX11_leaveTrace 3 = .ok (.aload_n 0, 1) := by decide +kernel
theorem dX11_leaveTrace_4 : decode cX11_leaveTrace 4 = .ok (.getfield 323, 3) := by decide +kernel
theorem dX11_leaveTrace_7 : decode cX11_leaveTrace 7 = .ok (.imul, 1) := by decide +kernel
theorem dX11_leaveTrace_8 : decode cX11_leaveTrace 8 = .ok (.iload_n 1, 1) := by decide +kernel
theorem dX11_leaveTrace_9 : decode cX11_leaveTrace 9 = .ok (.iadd, 1) := by decide +kernel
theorem dX11_leaveTrace_10 : decode cX11_leaveTrace 10 = .ok (.putfield 323, 3) := by decide +kernel
theorem dX11_leaveTrace_13 : decode cX11_leaveTrace 13 = .ok (.return_, 1) := by decide +kernel
def F_X11_leaveTrace (d : Nat) (v0 : Option Nm) (v1 : Int32) (h : MH) (u : Nat) (Q : MH → Prop) : Prop :=
  gI h v0 10 11 fun x1 =>
  pV h v0 10 11 (jI ((31 * x1) + v1)) fun h =>
  Q h
set_option maxRecDepth 20000 in
theorem E_X11_leaveTrace {d : Nat} {v0 : Option Nm} {v1 : Int32} {h : MH} {u : Nat} {Q : MH → Prop} (H : F_X11_leaveTrace d v0 v1 h u Q) : T u_X11_leaveTrace d 0 [some (jR v0), some (jI v1)] [] h u (qV Q) := by
  unfold F_X11_leaveTrace at H
  refine T_aload_n (pc := 0) dX11_leaveTrace_0 rfl rfl ?_
  refine T_bipush (pc := 1) (v := 31) dX11_leaveTrace_1 (by decide) ?_
  refine T_aload_n (pc := 3) dX11_leaveTrace_3 rfl rfl ?_
  refine T_gI (pc := 4) fa_X11_323 dX11_leaveTrace_4 (gI_mono (fun x1 H => ?_) H)
  refine T_imul (pc := 7) dX11_leaveTrace_7 ?_
  refine T_iload_n (pc := 8) dX11_leaveTrace_8 rfl rfl ?_
  refine T_iadd (pc := 9) dX11_leaveTrace_9 ?_
  refine T_pV (pc := 10) fa_X11_323 dX11_leaveTrace_10 trivial (pV_mono (fun h H => ?_) H)
  exact T_return (pc := 13) rfl dX11_leaveTrace_13 H
theorem I_X11_leaveTrace {d : Nat} {v0 : Option Nm} {v1 : Int32} {h : MH} {u : Nat} {K : MH → Nat → Prop} (u1 : Nat) (hu : u1 ≤ u) (H : F_X11_leaveTrace d v0 v1 h u1 (fun h2 => K h2 (u - u1))) : iV d u_X11_leaveTrace [jR v0, jI v1] h u K := inv.of u1 hu (Ct.of (by decide +kernel) rfl (Nat.le_of_ble_eq_true rfl) rfl (E_X11_leaveTrace H))
theorem dX11_isWithin_0 : decode cX11_isWithin 0 = .ok (.iload_n 0, 1) := by decide +kernel
theorem dX11_isWithin_1 : decode cX11_isWithin 1 = .ok (.iload_n 1, 1) := by decide +kernel
theorem dX11_isWithin_2 : decode cX11_isWithin 2 = .ok (.if_icmp .lt 12, 3) := by decide +kernel
theorem dX11_isWithin_5 : decode cX11_isWithin 5 = .ok (.iload_n 0, 1) := by decide +kernel
theorem dX11_isWithin_6 : decode cX11_isWithin 6 = .ok (.iload_n 2, 1) := by decide +kernel
theorem dX11_isWithin_7 : decode cX11_isWithin 7 = .ok (.if_icmp .gt 7, 3) := by decide +kernel
theorem dX11_isWithin_10 : decode cX11_isWithin 10 = .ok (.iconst 1, 1) := by decide +kernel
theorem dX11_isWithin_11 : decode cX11_isWithin 11 = .ok (.goto 4, 3) := by decide +kernel
theorem dX11_isWithin_14 : decode cX11_isWithin 14 = .ok (.iconst 0, 1) := by decide +kernel
theorem dX11_isWithin_15 : decode cX11_isWithin 15 = .ok (.ireturn, 1) := by decide +kernel
def F_X11_isWithin (d : Nat) (v0 : Int32) (v1 : Int32) (v2 : Int32) (h : MH) (u : Nat) (Q : Int32 → MH → Prop) : Prop :=
  if v0 < v1 then
    nz 0 ∧ Q 0 h
  else
    if v2 < v0 then
      nz 0 ∧ Q 0 h
    else
      nz 1 ∧ Q 1 h
set_option maxRecDepth 20000 in
theorem E_X11_isWithin {d : Nat} {v0 : Int32} {v1 : Int32} {v2 : Int32} {h : MH} {u : Nat} {Q : Int32 → MH → Prop} (H : F_X11_isWithin d v0 v1 v2 h u Q) : T u_X11_isWithin d 0 [some (jI v0), some (jI v1), some (jI v2)] [] h u (qI Q) := by
  unfold F_X11_isWithin at H
  refine T_iload_n (pc := 0) dX11_isWithin_0 rfl rfl ?_
  refine T_iload_n (pc := 1) dX11_isWithin_1 rfl rfl ?_
  refine T_icmp_lt (pc := 2) (tgt := 14) dX11_isWithin_2 (by decide) (fun hc => ?_) (fun hc => ?_)
  · rw [if_pos hc] at H
    refine T_iconst (pc := 14) (v := 0) dX11_isWithin_14 (by decide) ?_
    exact T_ireturn (pc := 15) rfl (nz_nar H.1) dX11_isWithin_15 H.2
  · rw [if_neg hc] at H
    refine T_iload_n (pc := 5) dX11_isWithin_5 rfl rfl ?_
    refine T_iload_n (pc := 6) dX11_isWithin_6 rfl rfl ?_
    refine T_icmp_gt (pc := 7) (tgt := 14) dX11_isWithin_7 (by decide) (fun hc => ?_) (fun hc => ?_)
    · rw [if_pos hc] at H
      refine T_iconst (pc := 14) (v := 0) dX11_isWithin_14 (by decide) ?_
      exact T_ireturn (pc := 15) rfl (nz_nar H.1) dX11_isWithin_15 H.2
    · rw [if_neg hc] at H
      refine T_iconst (pc := 10) (v := 1) dX11_isWithin_10 (by decide) ?_
      refine T_goto (pc := 11) (tgt := 15) dX11_isWithin_11 (by decide) ?_
      exact T_ireturn (pc := 15) rfl (nz_nar H.1) dX11_isWithin_15 H.2
theorem I_X11_isWithin {d : Nat} {v0 : Int32} {v1 : Int32} {v2 : Int32} {h : MH} {u : Nat} {K : Int32 → MH → Nat → Prop} (u1 : Nat) (hu : u1 ≤ u) (H : F_X11_isWithin d v0 v1 v2 h u1 (fun x h2 => K x h2 (u - u1))) : iI d u_X11_isWithin [jI v0, jI v1, jI v2] h u K := inv.of u1 hu (Ct.of (by decide +kernel) rfl (Nat.le_of_ble_eq_true rfl) rfl (E_X11_isWithin H))
theorem dX11_isLabel_0 : decode cX11_isLabel 0 = .ok (.iload_n 0, 1) := by decide +kernel
theorem dX11_isLabel_1 : decode cX11_isLabel 1 = .ok (.iconst 1, 1) := by decide +kernel
theorem dX11_isLabel_2 : decode cX11_isLabel 2 = .ok (.bipush 99, 2) := by decide +kernel
theorem dX11_isLabel_4 : decode cX11_isLabel 4 = .ok (.invokestatic 64, 3) := by decide +kernel
theorem dX11_isLabel_7 : decode cX11_isLabel 7 = .ok (.ireturn, 1) := by decide +kernel
def F_X11_isLabel (d : Nat) (v0 : Int32) (h : MH) (u : Nat) (Q : Int32 → MH → Prop) : Prop :=
  iI d u_X11_isWithin [jI v0, jI 1, jI 99] h u fun x1 h u =>
  nz x1 ∧ Q x1 h
set_option maxRecDepth 20000 in
theorem E_X11_isLabel {d : Nat} {v0 : Int32} {h : MH} {u : Nat} {Q : Int32 → MH → Prop} (H : F_X11_isLabel d v0 h u Q) : T u_X11_isLabel (d + 1) 0 [some (jI v0)] [] h u (qI Q) := by
  unfold F_X11_isLabel at H
  refine T_iload_n (pc := 0) dX11_isLabel_0 rfl rfl ?_
  refine T_iconst (pc := 1) (v := 1) dX11_isLabel_1 (by decide) ?_
  refine T_bipush (pc := 2) (v := 99) dX11_isLabel_2 (by decide) ?_
  refine T_invS (pc := 4) (av := [jI v0, jI 1, jI 99]) (rest := []) dX11_isLabel_4 mf_X11_isWithin c_1_189 c_1_190 rfl (Nat.le_of_ble_eq_true rfl) rfl (iI_k (iI_mono (fun x1 h u H => ?_) H))
  exact T_ireturn (pc := 7) rfl (nz_nar H.1) dX11_isLabel_7 H.2
theorem I_X11_isLabel {d : Nat} {v0 : Int32} {h : MH} {u : Nat} {K : Int32 → MH → Nat → Prop} (u1 : Nat) (hu : u1 ≤ u) (H : F_X11_isLabel d v0 h u1 (fun x h2 => K x h2 (u - u1))) : iI (d + 1) u_X11_isLabel [jI v0] h u K := inv.of u1 hu (Ct.of (by decide +kernel) rfl (Nat.le_of_ble_eq_true rfl) rfl (E_X11_isLabel H))
theorem dX11_isPlace_0 : decode cX11_isPlace 0 = .ok (.iload_n 0, 1) := by decide +kernel
theorem dX11_isPlace_1 : decode cX11_isPlace 1 = .ok (.iconst 0, 1) := by decide +kernel
theorem dX11_isPlace_2 : decode cX11_isPlace 2 = .ok (.iconst 5, 1) := by decide +kernel
theorem dX11_isPlace_3 : decode cX11_isPlace 3 = .ok (.invokestatic 64, 3) := by decide +kernel
theorem dX11_isPlace_6 : decode cX11_isPlace 6 = .ok (.ireturn, 1) := by decide +kernel
def F_X11_isPlace (d : Nat) (v0 : Int32) (h : MH) (u : Nat) (Q : Int32 → MH → Prop) : Prop :=
  iI d u_X11_isWithin [jI v0, jI 0, jI 5] h u fun x1 h u =>
  nz x1 ∧ Q x1 h
set_option maxRecDepth 20000 in
theorem E_X11_isPlace {d : Nat} {v0 : Int32} {h : MH} {u : Nat} {Q : Int32 → MH → Prop} (H : F_X11_isPlace d v0 h u Q) : T u_X11_isPlace (d + 1) 0 [some (jI v0)] [] h u (qI Q) := by
  unfold F_X11_isPlace at H
  refine T_iload_n (pc := 0) dX11_isPlace_0 rfl rfl ?_
  refine T_iconst (pc := 1) (v := 0) dX11_isPlace_1 (by decide) ?_
  refine T_iconst (pc := 2) (v := 5) dX11_isPlace_2 (by decide) ?_
  refine T_invS (pc := 3) (av := [jI v0, jI 0, jI 5]) (rest := []) dX11_isPlace_3 mf_X11_isWithin c_1_189 c_1_190 rfl (Nat.le_of_ble_eq_true rfl) rfl (iI_k (iI_mono (fun x1 h u H => ?_) H))
  exact T_ireturn (pc := 6) rfl (nz_nar H.1) dX11_isPlace_6 H.2
theorem I_X11_isPlace {d : Nat} {v0 : Int32} {h : MH} {u : Nat} {K : Int32 → MH → Nat → Prop} (u1 : Nat) (hu : u1 ≤ u) (H : F_X11_isPlace d v0 h u1 (fun x h2 => K x h2 (u - u1))) : iI (d + 1) u_X11_isPlace [jI v0] h u K := inv.of u1 hu (Ct.of (by decide +kernel) rfl (Nat.le_of_ble_eq_true rfl) rfl (E_X11_isPlace H))
theorem dX11_oneIf_0 : decode cX11_oneIf 0 = .ok (.iload_n 0, 1) := by decide +kernel
theorem dX11_oneIf_1 : decode cX11_oneIf 1 = .ok (.ifCond .eq 7, 3) := by decide +kernel
theorem dX11_oneIf_4 : decode cX11_oneIf 4 = .ok (.iconst 1, 1) := by decide +kernel
theorem dX11_oneIf_5 : decode cX11_oneIf 5 = .ok (.goto 4, 3) := by decide +kernel
theorem dX11_oneIf_8 : decode cX11_oneIf 8 = .ok (.iconst 0, 1) := by decide +kernel
theorem dX11_oneIf_9 : decode cX11_oneIf 9 = .ok (.ireturn, 1) := by decide +kernel
def F_X11_oneIf (d : Nat) (v0 : Int32) (h : MH) (u : Nat) (Q : Int32 → MH → Prop) : Prop :=
  if v0 = 0 then
    Q 0 h
  else
    Q 1 h
set_option maxRecDepth 20000 in
theorem E_X11_oneIf {d : Nat} {v0 : Int32} {h : MH} {u : Nat} {Q : Int32 → MH → Prop} (H : F_X11_oneIf d v0 h u Q) : T u_X11_oneIf d 0 [some (jI v0)] [] h u (qI Q) := by
  unfold F_X11_oneIf at H
  refine T_iload_n (pc := 0) dX11_oneIf_0 rfl rfl ?_
  refine T_if_eq (pc := 1) (tgt := 8) dX11_oneIf_1 (by decide) (fun hc => ?_) (fun hc => ?_)
  · rw [if_pos hc] at H
    refine T_iconst (pc := 8) (v := 0) dX11_oneIf_8 (by decide) ?_
    exact T_ireturn (pc := 9) rfl rfl dX11_oneIf_9 H
  · rw [if_neg hc] at H
    refine T_iconst (pc := 4) (v := 1) dX11_oneIf_4 (by decide) ?_
    refine T_goto (pc := 5) (tgt := 9) dX11_oneIf_5 (by decide) ?_
    exact T_ireturn (pc := 9) rfl rfl dX11_oneIf_9 H
theorem I_X11_oneIf {d : Nat} {v0 : Int32} {h : MH} {u : Nat} {K : Int32 → MH → Nat → Prop} (u1 : Nat) (hu : u1 ≤ u) (H : F_X11_oneIf d v0 h u1 (fun x h2 => K x h2 (u - u1))) : iI d u_X11_oneIf [jI v0] h u K := inv.of u1 hu (Ct.of (by decide +kernel) rfl (Nat.le_of_ble_eq_true rfl) rfl (E_X11_oneIf H))
theorem dX11_numberFault_0 : decode cX11_numberFault 0 = .ok (.aload_n 0, 1) := by decide +kernel
theorem dX11_numberFault_1 : decode cX11_numberFault 1 = .ok (.getfield 93, 3) := by decide +kernel
theorem dX11_numberFault_4 : decode cX11_numberFault 4 = .ok (.bipush 8, 2) := by decide +kernel
theorem dX11_numberFault_6 : decode cX11_numberFault 6 = .ok (.if_icmp .ne 5, 3) := by decide +kernel
theorem dX11_numberFault_9 : decode cX11_numberFault 9 = .ok (.iconst 3, 1) := by decide +kernel
theorem dX11_numberFault_10 : decode cX11_numberFault 10 = .ok (.ireturn, 1) := by decide +kernel
theorem dX11_numberFault_11 : decode cX11_numberFault 11 = .ok (.aload_n 0, 1) := by decide +kernel
theorem dX11_numberFault_12 : decode cX11_numberFault 12 = .ok (.iload_n 1, 1) := by decide +kernel
theorem dX11_numberFault_13 : decode cX11_numberFault 13 = .ok (.invokevirtual 341, 3) := by decide +kernel
theorem dX11_numberFault_16 : decode cX11_numberFault 16 = .ok (.ifCond .ne 5, 3) := by decide +kernel
theorem dX11_numberFault_19 : decode cX11_numberFault 19 = .ok (.iconst 2, 1) := by decide +kernel
theorem dX11_numberFault_20 : decode cX11_numberFault 20 = .ok (.ireturn, 1) := by decide +kernel
theorem dX11_numberFault_21 : decode cX11_numberFault 21 = .ok (.iload_n 2, 1) := by decide +kernel
theorem dX11_numberFault_22 : decode cX11_numberFault 22 = .ok (.iload_n 3, 1) := by decide +kernel
theorem dX11_numberFault_23 : decode cX11_numberFault 23 = .ok (.invokestatic 344, 3) := by decide +kernel
theorem dX11_numberFault_26 : decode cX11_numberFault 26 = .ok (.ifCond .eq 7, 3) := by decide +kernel
theorem dX11_numberFault_29 : decode cX11_numberFault 29 = .ok (.iconst 0, 1) := by decide +kernel
theorem dX11_numberFault_30 : decode cX11_numberFault 30 = .ok (.goto 4, 3) := by decide +kernel
theorem dX11_numberFault_33 : decode cX11_numberFault 33 = .ok (.iconst 3, 1) := by decide +kernel
theorem dX11_numberFault_34 : decode cX11_numberFault 34 = .ok (.ireturn, 1) := by decide +kernel
def F_X11_numberFault (d : Nat) (v0 : Option Nm) (v1 : Int32) (v2 : Int32) (v3 : Int32) (h : MH) (u : Nat) (Q : Int32 → MH → Prop) : Prop :=
  gI h v0 4 1 fun x1 =>
  if x1 = 8 then
    Q 3 h
  else
    rc h v0 4 ∧ iI d u_X5_hasCell [jR v0, jI v1] h u fun x2 h u =>
    if x2 = 0 then
      Q 2 h
    else
      iI d u_X4_isWidened [jI v2, jI v3] h u fun x3 h u =>
      if x3 = 0 then
        Q 3 h
      else
        Q 0 h
set_option maxRecDepth 20000 in
theorem E_X11_numberFault {d : Nat} {v0 : Option Nm} {v1 : Int32} {v2 : Int32} {v3 : Int32} {h : MH} {u : Nat} {Q : Int32 → MH → Prop} (H : F_X11_numberFault d v0 v1 v2 v3 h u Q) : T u_X11_numberFault (d + 1) 0 [some (jR v0), some (jI v1), some (jI v2), some (jI v3)] [] h u (qI Q) := by
  unfold F_X11_numberFault at H
  refine T_aload_n (pc := 0) dX11_numberFault_0 rfl rfl ?_
  refine T_gI (pc := 1) fa_X11_93 dX11_numberFault_1 (gI_mono (fun x1 H => ?_) H)
  refine T_bipush (pc := 4) (v := 8) dX11_numberFault_4 (by decide) ?_
  refine T_icmp_ne (pc := 6) (tgt := 11) dX11_numberFault_6 (by decide) (fun hc => ?_) (fun hc => ?_)
  · rw [if_neg hc] at H
    refine T_aload_n (pc := 11) dX11_numberFault_11 rfl rfl ?_
    refine T_iload_n (pc := 12) dX11_numberFault_12 rfl rfl ?_
    obtain ⟨H0, H⟩ := H
    refine T_iV (pc := 13) (ci := 4) (av := [jI v1]) (rest := []) (o := v0) dX11_numberFault_13 mf_X5_hasCell c_2_11 c_2_12 c_2_13 rfl rfl (Nat.le_of_ble_eq_true rfl) rfl H0 (iI_k (iI_mono (fun x2 h u H => ?_) H))
    refine T_if_ne (pc := 16) (tgt := 21) dX11_numberFault_16 (by decide) (fun hc => ?_) (fun hc => ?_)
    · rw [if_neg hc] at H
      refine T_iload_n (pc := 21) dX11_numberFault_21 rfl rfl ?_
      refine T_iload_n (pc := 22) dX11_numberFault_22 rfl rfl ?_
      refine T_invS (pc := 23) (av := [jI v2, jI v3]) (rest := []) dX11_numberFault_23 mf_X4_isWidened c_2_15 c_2_16 rfl (Nat.le_of_ble_eq_true rfl) rfl (iI_k (iI_mono (fun x3 h u H => ?_) H))
      refine T_if_eq (pc := 26) (tgt := 33) dX11_numberFault_26 (by decide) (fun hc => ?_) (fun hc => ?_)
      · rw [if_pos hc] at H
        refine T_iconst (pc := 33) (v := 3) dX11_numberFault_33 (by decide) ?_
        exact T_ireturn (pc := 34) rfl rfl dX11_numberFault_34 H
      · rw [if_neg hc] at H
        refine T_iconst (pc := 29) (v := 0) dX11_numberFault_29 (by decide) ?_
        refine T_goto (pc := 30) (tgt := 34) dX11_numberFault_30 (by decide) ?_
        exact T_ireturn (pc := 34) rfl rfl dX11_numberFault_34 H
    · rw [if_pos hc] at H
      refine T_iconst (pc := 19) (v := 2) dX11_numberFault_19 (by decide) ?_
      exact T_ireturn (pc := 20) rfl rfl dX11_numberFault_20 H
  · rw [if_pos hc] at H
    refine T_iconst (pc := 9) (v := 3) dX11_numberFault_9 (by decide) ?_
    exact T_ireturn (pc := 10) rfl rfl dX11_numberFault_10 H
theorem I_X11_numberFault {d : Nat} {v0 : Option Nm} {v1 : Int32} {v2 : Int32} {v3 : Int32} {h : MH} {u : Nat} {K : Int32 → MH → Nat → Prop} (u1 : Nat) (hu : u1 ≤ u) (H : F_X11_numberFault d v0 v1 v2 v3 h u1 (fun x h2 => K x h2 (u - u1))) : iI (d + 1) u_X11_numberFault [jR v0, jI v1, jI v2, jI v3] h u K := inv.of u1 hu (Ct.of (by decide +kernel) rfl (Nat.le_of_ble_eq_true rfl) rfl (E_X11_numberFault H))
theorem dX11_thingFault_0 : decode cX11_thingFault 0 = .ok (.aload_n 0, 1) := by decide +kernel
theorem dX11_thingFault_1 : decode cX11_thingFault 1 = .ok (.getfield 93, 3) := by decide +kernel
theorem dX11_thingFault_4 : decode cX11_thingFault 4 = .ok (.bipush 8, 2) := by decide +kernel
theorem dX11_thingFault_6 : decode cX11_thingFault 6 = .ok (.if_icmp .eq 5, 3) := by decide +kernel
theorem dX11_thingFault_9 : decode cX11_thingFault 9 = .ok (.iconst 3, 1) := by decide +kernel
theorem dX11_thingFault_10 : decode cX11_thingFault 10 = .ok (.ireturn, 1) := by decide +kernel
theorem dX11_thingFault_11 : decode cX11_thingFault 11 = .ok (.aload_n 0, 1) := by decide +kernel
theorem dX11_thingFault_12 : decode cX11_thingFault 12 = .ok (.iload_n 1, 1) := by decide +kernel
theorem dX11_thingFault_13 : decode cX11_thingFault 13 = .ok (.invokevirtual 341, 3) := by decide +kernel
theorem dX11_thingFault_16 : decode cX11_thingFault 16 = .ok (.ifCond .eq 7, 3) := by decide +kernel
theorem dX11_thingFault_19 : decode cX11_thingFault 19 = .ok (.iconst 0, 1) := by decide +kernel
theorem dX11_thingFault_20 : decode cX11_thingFault 20 = .ok (.goto 4, 3) := by decide +kernel
theorem dX11_thingFault_23 : decode cX11_thingFault 23 = .ok (.iconst 2, 1) := by decide +kernel
theorem dX11_thingFault_24 : decode cX11_thingFault 24 = .ok (.ireturn, 1) := by decide +kernel
def F_X11_thingFault (d : Nat) (v0 : Option Nm) (v1 : Int32) (h : MH) (u : Nat) (Q : Int32 → MH → Prop) : Prop :=
  gI h v0 4 1 fun x1 =>
  if x1 = 8 then
    rc h v0 4 ∧ iI d u_X5_hasCell [jR v0, jI v1] h u fun x2 h u =>
    if x2 = 0 then
      Q 2 h
    else
      Q 0 h
  else
    Q 3 h
set_option maxRecDepth 20000 in
theorem E_X11_thingFault {d : Nat} {v0 : Option Nm} {v1 : Int32} {h : MH} {u : Nat} {Q : Int32 → MH → Prop} (H : F_X11_thingFault d v0 v1 h u Q) : T u_X11_thingFault (d + 1) 0 [some (jR v0), some (jI v1)] [] h u (qI Q) := by
  unfold F_X11_thingFault at H
  refine T_aload_n (pc := 0) dX11_thingFault_0 rfl rfl ?_
  refine T_gI (pc := 1) fa_X11_93 dX11_thingFault_1 (gI_mono (fun x1 H => ?_) H)
  refine T_bipush (pc := 4) (v := 8) dX11_thingFault_4 (by decide) ?_
  refine T_icmp_eq (pc := 6) (tgt := 11) dX11_thingFault_6 (by decide) (fun hc => ?_) (fun hc => ?_)
  · rw [if_pos hc] at H
    refine T_aload_n (pc := 11) dX11_thingFault_11 rfl rfl ?_
    refine T_iload_n (pc := 12) dX11_thingFault_12 rfl rfl ?_
    obtain ⟨H0, H⟩ := H
    refine T_iV (pc := 13) (ci := 4) (av := [jI v1]) (rest := []) (o := v0) dX11_thingFault_13 mf_X5_hasCell c_2_11 c_2_12 c_2_13 rfl rfl (Nat.le_of_ble_eq_true rfl) rfl H0 (iI_k (iI_mono (fun x2 h u H => ?_) H))
    refine T_if_eq (pc := 16) (tgt := 23) dX11_thingFault_16 (by decide) (fun hc => ?_) (fun hc => ?_)
    · rw [if_pos hc] at H
      refine T_iconst (pc := 23) (v := 2) dX11_thingFault_23 (by decide) ?_
      exact T_ireturn (pc := 24) rfl rfl dX11_thingFault_24 H
    · rw [if_neg hc] at H
      refine T_iconst (pc := 19) (v := 0) dX11_thingFault_19 (by decide) ?_
      refine T_goto (pc := 20) (tgt := 24) dX11_thingFault_20 (by decide) ?_
      exact T_ireturn (pc := 24) rfl rfl dX11_thingFault_24 H
  · rw [if_neg hc] at H
    refine T_iconst (pc := 9) (v := 3) dX11_thingFault_9 (by decide) ?_
    exact T_ireturn (pc := 10) rfl rfl dX11_thingFault_10 H
theorem I_X11_thingFault {d : Nat} {v0 : Option Nm} {v1 : Int32} {h : MH} {u : Nat} {K : Int32 → MH → Nat → Prop} (u1 : Nat) (hu : u1 ≤ u) (H : F_X11_thingFault d v0 v1 h u1 (fun x h2 => K x h2 (u - u1))) : iI (d + 1) u_X11_thingFault [jR v0, jI v1] h u K := inv.of u1 hu (Ct.of (by decide +kernel) rfl (Nat.le_of_ble_eq_true rfl) rfl (E_X11_thingFault H))
theorem dX11_freeTwin_0 : decode cX11_freeTwin 0 = .ok (.aload_n 0, 1) := by decide +kernel
theorem dX11_freeTwin_1 : decode cX11_freeTwin 1 = .ok (.getfield 12, 3) := by decide +kernel
theorem dX11_freeTwin_4 : decode cX11_freeTwin 4 = .ok (.iconst 1, 1) := by decide +kernel
theorem dX11_freeTwin_5 : decode cX11_freeTwin 5 = .ok (.invokevirtual 68, 3) := by decide +kernel
theorem dX11_freeTwin_8 : decode cX11_freeTwin 8 = .ok (.ifCond .eq 18, 3) := by decide +kernel
theorem dX11_freeTwin_11 : decode cX11_freeTwin 11 = .ok (.aload_n 0, 1) := by decide +kernel
theorem dX11_freeTwin_12 : decode cX11_freeTwin 12 = .ok (.getfield 12, 3) := by decide +kernel
theorem dX11_freeTwin_15 : decode cX11_freeTwin 15 = .ok (.aload_n 1, 1) := by decide +kernel
theorem dX11_freeTwin_16 : decode cX11_freeTwin 16 = .ok (.iconst 0, 1) := by decide +kernel
theorem dX11_freeTwin_17 : decode cX11_freeTwin 17 = .ok (.invokevirtual 347, 3) := by decide +kernel
theorem dX11_freeTwin_20 : decode cX11_freeTwin 20 = .ok (.getfield 80, 3) := by decide +kernel
theorem dX11_freeTwin_23 : decode cX11_freeTwin 23 = .ok (.goto 5, 3) := by decide +kernel
theorem dX11_freeTwin_26 : decode cX11_freeTwin 26 = .ok (.bipush (-4), 2) := by decide +kernel
theorem dX11_freeTwin_28 : decode cX11_freeTwin 28 = .ok (.ireturn, 1) := by decide +kernel
def F_X11_freeTwin (d : Nat) (v0 : Option Nm) (v1 : Option Nm) (h : MH) (u : Nat) (Q : Int32 → MH → Prop) : Prop :=
  gR h v0 10 0 fun x1 =>
  rc h x1 6 ∧ iI d u_X7_hasRoomForRows [jR x1, jI 1] h u fun x2 h u =>
  if x2 = 0 then
    Q (-4) h
  else
    gR h v0 10 0 fun x3 =>
    rc h x3 6 ∧ iR d u_X7_addTwin [jR x3, jR v1, jI 0] h u fun x4 h u =>
    gI h x4 4 0 fun x5 =>
    Q x5 h
set_option maxRecDepth 20000 in
theorem E_X11_freeTwin {d : Nat} {v0 : Option Nm} {v1 : Option Nm} {h : MH} {u : Nat} {Q : Int32 → MH → Prop} (H : F_X11_freeTwin d v0 v1 h u Q) : T u_X11_freeTwin (d + 1) 0 [some (jR v0), some (jR v1)] [] h u (qI Q) := by
  unfold F_X11_freeTwin at H
  refine T_aload_n (pc := 0) dX11_freeTwin_0 rfl rfl ?_
  refine T_gR (pc := 1) fa_X11_12 dX11_freeTwin_1 (gR_mono (fun x1 H => ?_) H)
  refine T_iconst (pc := 4) (v := 1) dX11_freeTwin_4 (by decide) ?_
  obtain ⟨H0, H⟩ := H
  refine T_iV (pc := 5) (ci := 6) (av := [jI 1]) (rest := []) (o := x1) dX11_freeTwin_5 mf_X7_hasRoomForRows c_1_192 c_1_193 c_1_194 rfl rfl (Nat.le_of_ble_eq_true rfl) rfl H0 (iI_k (iI_mono (fun x2 h u H => ?_) H))
  refine T_if_eq (pc := 8) (tgt := 26) dX11_freeTwin_8 (by decide) (fun hc => ?_) (fun hc => ?_)
  · rw [if_pos hc] at H
    refine T_bipush (pc := 26) (v := (-4)) dX11_freeTwin_26 (by decide) ?_
    exact T_ireturn (pc := 28) rfl rfl dX11_freeTwin_28 H
  · rw [if_neg hc] at H
    refine T_aload_n (pc := 11) dX11_freeTwin_11 rfl rfl ?_
    refine T_gR (pc := 12) fa_X11_12 dX11_freeTwin_12 (gR_mono (fun x3 H => ?_) H)
    refine T_aload_n (pc := 15) dX11_freeTwin_15 rfl rfl ?_
    refine T_iconst (pc := 16) (v := 0) dX11_freeTwin_16 (by decide) ?_
    obtain ⟨H0, H⟩ := H
    refine T_iV (pc := 17) (ci := 6) (av := [jR v1, jI 0]) (rest := []) (o := x3) dX11_freeTwin_17 mf_X7_addTwin c_2_105 c_2_106 c_2_107 rfl rfl (Nat.le_of_ble_eq_true rfl) rfl H0 (iR_k (iR_mono (fun x4 h u H => ?_) H))
    refine T_gI (pc := 20) fa_X11_80 dX11_freeTwin_20 (gI_mono (fun x5 H => ?_) H)
    refine T_goto (pc := 23) (tgt := 28) dX11_freeTwin_23 (by decide) ?_
    exact T_ireturn (pc := 28) rfl rfl dX11_freeTwin_28 H
theorem I_X11_freeTwin {d : Nat} {v0 : Option Nm} {v1 : Option Nm} {h : MH} {u : Nat} {K : Int32 → MH → Nat → Prop} (u1 : Nat) (hu : u1 ≤ u) (H : F_X11_freeTwin d v0 v1 h u1 (fun x h2 => K x h2 (u - u1))) : iI (d + 1) u_X11_freeTwin [jR v0, jR v1] h u K := inv.of u1 hu (Ct.of (by decide +kernel) rfl (Nat.le_of_ble_eq_true rfl) rfl (E_X11_freeTwin H))
theorem dX11_findKind_0 : decode cX11_findKind 0 = .ok (.iload_n 1, 1) := by decide +kernel
theorem dX11_findKind_1 : decode cX11_findKind 1 = .ok (.iconst 0, 1) := by decide +kernel
theorem dX11_findKind_2 : decode cX11_findKind 2 = .ok (.aload_n 0, 1) := by decide +kernel
theorem dX11_findKind_3 : decode cX11_findKind 3 = .ok (.getfield 211, 3) := by decide +kernel
theorem dX11_findKind_6 : decode cX11_findKind 6 = .ok (.iconst 1, 1) := by decide +kernel
theorem dX11_findKind_7 : decode cX11_findKind 7 = .ok (.isub, 1) := by decide +kernel
theorem dX11_findKind_8 : decode cX11_findKind 8 = .ok (.invokestatic 64, 3) := by decide +kernel
theorem dX11_findKind_11 : decode cX11_findKind 11 = .ok (.ifCond .eq 12, 3) := by decide +kernel
theorem dX11_findKind_14 : decode cX11_findKind 14 = .ok (.aload_n 0, 1) := by decide +kernel
theorem dX11_findKind_15 : decode cX11_findKind 15 = .ok (.getfield 50, 3) := by decide +kernel
theorem dX11_findKind_18 : decode cX11_findKind 18 = .ok (.iload_n 1, 1) := by decide +kernel
theorem dX11_findKind_19 : decode cX11_findKind 19 = .ok (.aaload, 1) := by decide +kernel
theorem dX11_findKind_20 : decode cX11_findKind 20 = .ok (.goto 4, 3) := by decide +kernel
theorem dX11_findKind_23 : decode cX11_findKind 23 = .ok (.aconst_null, 1) := by decide +kernel
theorem dX11_findKind_24 : decode cX11_findKind 24 = .ok (.areturn, 1) := by decide +kernel
def F_X11_findKind (d : Nat) (v0 : Option Nm) (v1 : Int32) (h : MH) (u : Nat) (Q : Option Nm → MH → Prop) : Prop :=
  gI h v0 10 8 fun x1 =>
  iI d u_X11_isWithin [jI v1, jI 0, jI (x1 - 1)] h u fun x2 h u =>
  if x2 = 0 then
    Q none h
  else
    gR h v0 10 5 fun x3 =>
    aR "RecordBridge$Kind" h x3 v1 fun x4 =>
    Q x4 h
set_option maxRecDepth 20000 in
theorem E_X11_findKind {d : Nat} {v0 : Option Nm} {v1 : Int32} {h : MH} {u : Nat} {Q : Option Nm → MH → Prop} (H : F_X11_findKind d v0 v1 h u Q) : T u_X11_findKind (d + 1) 0 [some (jR v0), some (jI v1)] [] h u (qR Q) := by
  unfold F_X11_findKind at H
  refine T_iload_n (pc := 0) dX11_findKind_0 rfl rfl ?_
  refine T_iconst (pc := 1) (v := 0) dX11_findKind_1 (by decide) ?_
  refine T_aload_n (pc := 2) dX11_findKind_2 rfl rfl ?_
  refine T_gI (pc := 3) fa_X11_211 dX11_findKind_3 (gI_mono (fun x1 H => ?_) H)
  refine T_iconst (pc := 6) (v := 1) dX11_findKind_6 (by decide) ?_
  refine T_isub (pc := 7) dX11_findKind_7 ?_
  refine T_invS (pc := 8) (av := [jI v1, jI 0, jI (x1 - 1)]) (rest := []) dX11_findKind_8 mf_X11_isWithin c_1_189 c_1_190 rfl (Nat.le_of_ble_eq_true rfl) rfl (iI_k (iI_mono (fun x2 h u H => ?_) H))
  refine T_if_eq (pc := 11) (tgt := 23) dX11_findKind_11 (by decide) (fun hc => ?_) (fun hc => ?_)
  · rw [if_pos hc] at H
    refine T_null (pc := 23) dX11_findKind_23 ?_
    exact T_areturn (pc := 24) rfl (Or.inl ⟨_, rfl⟩) dX11_findKind_24 H
  · rw [if_neg hc] at H
    refine T_aload_n (pc := 14) dX11_findKind_14 rfl rfl ?_
    refine T_gR (pc := 15) fa_X11_50 dX11_findKind_15 (gR_mono (fun x3 H => ?_) H)
    refine T_iload_n (pc := 18) dX11_findKind_18 rfl rfl ?_
    refine T_aR (pc := 19) dX11_findKind_19 (aR_mono (fun x4 H => ?_) H)
    refine T_goto (pc := 20) (tgt := 24) dX11_findKind_20 (by decide) ?_
    exact T_areturn (pc := 24) rfl (Or.inl ⟨_, rfl⟩) dX11_findKind_24 H
theorem I_X11_findKind {d : Nat} {v0 : Option Nm} {v1 : Int32} {h : MH} {u : Nat} {K : Option Nm → MH → Nat → Prop} (u1 : Nat) (hu : u1 ≤ u) (H : F_X11_findKind d v0 v1 h u1 (fun x h2 => K x h2 (u - u1))) : iR (d + 1) u_X11_findKind [jR v0, jI v1] h u K := inv.of u1 hu (Ct.of (by decide +kernel) rfl (Nat.le_of_ble_eq_true rfl) rfl (E_X11_findKind H))
theorem dX11_newKind_0 : decode cX11_newKind 0 = .ok (.aload_n 0, 1) := by decide +kernel
theorem dX11_newKind_1 : decode cX11_newKind 1 = .ok (.getfield 211, 3) := by decide +kernel
theorem dX11_newKind_4 : decode cX11_newKind 4 = .ok (.bipush 16, 2) := by decide +kernel
theorem dX11_newKind_6 : decode cX11_newKind 6 = .ok (.if_icmp .lt 6, 3) := by decide +kernel
theorem dX11_newKind_9 : decode cX11_newKind 9 = .ok (.bipush (-4), 2) := by decide +kernel
theorem dX11_newKind_11 : decode cX11_newKind 11 = .ok (.ireturn, 1) := by decide +kernel
theorem dX11_newKind_12 : decode cX11_newKind 12 = .ok (.aload_n 0, 1) := by decide +kernel
theorem dX11_newKind_13 : decode cX11_newKind 13 = .ok (.getfield 50, 3) := by decide +kernel
theorem dX11_newKind_16 : decode cX11_newKind 16 = .ok (.aload_n 0, 1) := by decide +kernel
theorem dX11_newKind_17 : decode cX11_newKind 17 = .ok (.getfield 211, 3) := by decide +kernel
theorem dX11_newKind_20 : decode cX11_newKind 20 = .ok (.new 48, 3) := by decide +kernel
theorem dX11_newKind_23 : decode cX11_newKind 23 = .ok (.dup, 1) := by decide +kernel
theorem dX11_newKind_24 : decode cX11_newKind 24 = .ok (.aload_n 0, 1) := by decide +kernel
theorem dX11_newKind_25 : decode cX11_newKind 25 = .ok (.getfield 211, 3) := by decide +kernel
theorem dX11_newKind_28 : decode cX11_newKind 28 = .ok (.iload_n 1, 1) := by decide +kernel
theorem dX11_newKind_29 : decode cX11_newKind 29 = .ok (.iload_n 2, 1) := by decide +kernel
theorem dX11_newKind_30 : decode cX11_newKind 30 = .ok (.invokespecial 351, 3) := by decide +kernel
theorem dX11_newKind_33 : decode cX11_newKind 33 = .ok (.aastore, 1) := by decide +kernel
theorem dX11_newKind_34 : decode cX11_newKind 34 = .ok (.aload_n 0, 1) := by decide +kernel
theorem dX11_newKind_35 : decode cX11_newKind 35 = .ok (.dup, 1) := by decide +kernel
theorem dX11_newKind_36 : decode cX11_newKind 36 = .ok (.getfield 211, 3) := by decide +kernel
theorem dX11_newKind_39 : decode cX11_newKind 39 = .ok (.iconst 1, 1) := by decide +kernel
theorem dX11_newKind_40 : decode cX11_newKind 40 = .ok (.iadd, 1) := by decide +kernel
theorem dX11_newKind_41 : decode cX11_newKind 41 = .ok (.putfield 211, 3) := by decide +kernel
theorem dX11_newKind_44 : decode cX11_newKind 44 = .ok (.aload_n 0, 1) := by decide +kernel
theorem dX11_newKind_45 : decode cX11_newKind 45 = .ok (.getfield 211, 3) := by decide +kernel
theorem dX11_newKind_48 : decode cX11_newKind 48 = .ok (.iconst 1, 1) := by decide +kernel
theorem dX11_newKind_49 : decode cX11_newKind 49 = .ok (.isub, 1) := by decide +kernel
theorem dX11_newKind_50 : decode cX11_newKind 50 = .ok (.ireturn, 1) := by decide +kernel
def F_X11_newKind (d : Nat) (v0 : Option Nm) (v1 : Int32) (v2 : Int32) (h : MH) (u : Nat) (Q : Int32 → MH → Prop) : Prop :=
  gI h v0 10 8 fun x1 =>
  if x1 < 16 then
    gR h v0 10 5 fun x2 =>
    gI h v0 10 8 fun x3 =>
    nO h u 3 [jI 0, jI 0, jI 0, jR none, jI 0, jI 0, jI 0] fun x4 h u =>
    gI h v0 10 8 fun x5 =>
    iV d u_X3_init [jR (some x4), jI x5, jI v1, jI v2] h u fun h u =>
    rc h (some x4) 3 ∧ sV (.object "RecordBridge$Kind") h x2 x3 (jR (some x4)) fun h =>
    gI h v0 10 8 fun x7 =>
    pV h v0 10 8 (jI (x7 + 1)) fun h =>
    gI h v0 10 8 fun x8 =>
    Q (x8 - 1) h
  else
    Q (-4) h
set_option maxRecDepth 20000 in
theorem E_X11_newKind {d : Nat} {v0 : Option Nm} {v1 : Int32} {v2 : Int32} {h : MH} {u : Nat} {Q : Int32 → MH → Prop} (H : F_X11_newKind d v0 v1 v2 h u Q) : T u_X11_newKind (d + 1) 0 [some (jR v0), some (jI v1), some (jI v2)] [] h u (qI Q) := by
  unfold F_X11_newKind at H
  refine T_aload_n (pc := 0) dX11_newKind_0 rfl rfl ?_
  refine T_gI (pc := 1) fa_X11_211 dX11_newKind_1 (gI_mono (fun x1 H => ?_) H)
  refine T_bipush (pc := 4) (v := 16) dX11_newKind_4 (by decide) ?_
  refine T_icmp_lt (pc := 6) (tgt := 12) dX11_newKind_6 (by decide) (fun hc => ?_) (fun hc => ?_)
  · rw [if_pos hc] at H
    refine T_aload_n (pc := 12) dX11_newKind_12 rfl rfl ?_
    refine T_gR (pc := 13) fa_X11_50 dX11_newKind_13 (gR_mono (fun x2 H => ?_) H)
    refine T_aload_n (pc := 16) dX11_newKind_16 rfl rfl ?_
    refine T_gI (pc := 17) fa_X11_211 dX11_newKind_17 (gI_mono (fun x3 H => ?_) H)
    refine T_nO (pc := 20) nf_X11_48 dX11_newKind_20 (nO_mono (fun x4 h u H => ?_) H)
    refine T_dup (pc := 23) rfl dX11_newKind_23 ?_
    refine T_aload_n (pc := 24) dX11_newKind_24 rfl rfl ?_
    refine T_gI (pc := 25) fa_X11_211 dX11_newKind_25 (gI_mono (fun x5 H => ?_) H)
    refine T_iload_n (pc := 28) dX11_newKind_28 rfl rfl ?_
    refine T_iload_n (pc := 29) dX11_newKind_29 rfl rfl ?_
    refine T_invI (pc := 30) (av := [jI x5, jI v1, jI v2]) (rest := [jR (some x4), jI x3, jR x2]) dX11_newKind_30 mf_X3_init rfl rfl c_2_120 c_2_121 rfl (Nat.le_of_ble_eq_true rfl) rfl (iV_k (iV_mono (fun h u H => ?_) H))
    refine T_sR (pc := 33) (ci := 3) dX11_newKind_33 rfl ⟨H.1, sV_mono (fun h H => ?_) H.2⟩
    refine T_aload_n (pc := 34) dX11_newKind_34 rfl rfl ?_
    refine T_dup (pc := 35) rfl dX11_newKind_35 ?_
    refine T_gI (pc := 36) fa_X11_211 dX11_newKind_36 (gI_mono (fun x7 H => ?_) H)
    refine T_iconst (pc := 39) (v := 1) dX11_newKind_39 (by decide) ?_
    refine T_iadd (pc := 40) dX11_newKind_40 ?_
    refine T_pV (pc := 41) fa_X11_211 dX11_newKind_41 trivial (pV_mono (fun h H => ?_) H)
    refine T_aload_n (pc := 44) dX11_newKind_44 rfl rfl ?_
    refine T_gI (pc := 45) fa_X11_211 dX11_newKind_45 (gI_mono (fun x8 H => ?_) H)
    refine T_iconst (pc := 48) (v := 1) dX11_newKind_48 (by decide) ?_
    refine T_isub (pc := 49) dX11_newKind_49 ?_
    exact T_ireturn (pc := 50) rfl rfl dX11_newKind_50 H
  · rw [if_neg hc] at H
    refine T_bipush (pc := 9) (v := (-4)) dX11_newKind_9 (by decide) ?_
    exact T_ireturn (pc := 11) rfl rfl dX11_newKind_11 H
theorem I_X11_newKind {d : Nat} {v0 : Option Nm} {v1 : Int32} {v2 : Int32} {h : MH} {u : Nat} {K : Int32 → MH → Nat → Prop} (u1 : Nat) (hu : u1 ≤ u) (H : F_X11_newKind d v0 v1 v2 h u1 (fun x h2 => K x h2 (u - u1))) : iI (d + 1) u_X11_newKind [jR v0, jI v1, jI v2] h u K := inv.of u1 hu (Ct.of (by decide +kernel) rfl (Nat.le_of_ble_eq_true rfl) rfl (E_X11_newKind H))
theorem dX11_isChange_0 : decode cX11_isChange 0 = .ok (.iload_n 1, 1) := by decide +kernel
theorem dX11_isChange_1 : decode cX11_isChange 1 = .ok (.iconst 0, 1) := by decide +kernel
theorem dX11_isChange_2 : decode cX11_isChange 2 = .ok (.iconst 3, 1) := by decide +kernel
theorem dX11_isChange_3 : decode cX11_isChange 3 = .ok (.invokestatic 64, 3) := by decide +kernel
theorem dX11_isChange_6 : decode cX11_isChange 6 = .ok (.ifCond .ne 5, 3) := by decide +kernel
theorem dX11_isChange_9 : decode cX11_isChange 9 = .ok (.iconst 0, 1) := by decide +kernel
theorem dX11_isChange_10 : decode cX11_isChange 10 = .ok (.ireturn, 1) := by decide +kernel
theorem dX11_isChange_11 : decode cX11_isChange 11 = .ok (.iload_n 1, 1) := by decide +kernel
theorem dX11_isChange_12 : decode cX11_isChange 12 = .ok (.iconst 3, 1) := by decide +kernel
theorem dX11_isChange_13 : decode cX11_isChange 13 = .ok (.if_icmp .eq 10, 3) := by decide +kernel
theorem dX11_isChange_16 : decode cX11_isChange 16 = .ok (.iload_n 2, 1) := by decide +kernel
theorem dX11_isChange_17 : decode cX11_isChange 17 = .ok (.invokestatic 159, 3) := by decide +kernel
theorem dX11_isChange_20 : decode cX11_isChange 20 = .ok (.ifCond .eq 7, 3) := by decide +kernel
theorem dX11_isChange_23 : decode cX11_isChange 23 = .ok (.iconst 1, 1) := by decide +kernel
theorem dX11_isChange_24 : decode cX11_isChange 24 = .ok (.goto 4, 3) := by decide +kernel
theorem dX11_isChange_27 : decode cX11_isChange 27 = .ok (.iconst 0, 1) := by decide +kernel
theorem dX11_isChange_28 : decode cX11_isChange 28 = .ok (.istore 4, 2) := by decide +kernel
theorem dX11_isChange_30 : decode cX11_isChange 30 = .ok (.iload_n 1, 1) := by decide +kernel
theorem dX11_isChange_31 : decode cX11_isChange 31 = .ok (.iconst 1, 1) := by decide +kernel
theorem dX11_isChange_32 : decode cX11_isChange 32 = .ok (.if_icmp .eq 16, 3) := by decide +kernel
theorem dX11_isChange_35 : decode cX11_isChange 35 = .ok (.iload_n 1, 1) := by decide +kernel
theorem dX11_isChange_36 : decode cX11_isChange 36 = .ok (.iconst 3, 1) := by decide +kernel
theorem dX11_isChange_37 : decode cX11_isChange 37 = .ok (.if_icmp .eq 11, 3) := by decide +kernel
theorem dX11_isChange_40 : decode cX11_isChange 40 = .ok (.aload_n 0, 1) := by decide +kernel
theorem dX11_isChange_41 : decode cX11_isChange 41 = .ok (.iload_n 3, 1) := by decide +kernel
theorem dX11_isChange_42 : decode cX11_isChange 42 = .ok (.invokevirtual 162, 3) := by decide +kernel
theorem dX11_isChange_45 : decode cX11_isChange 45 = .ok (.ifCond .eq 7, 3) := by decide +kernel
theorem dX11_isChange_48 : decode cX11_isChange 48 = .ok (.iconst 1, 1) := by decide +kernel
theorem dX11_isChange_49 : decode cX11_isChange 49 = .ok (.goto 4, 3) := by decide +kernel
theorem dX11_isChange_52 : decode cX11_isChange 52 = .ok (.iconst 0, 1) := by decide +kernel
theorem dX11_isChange_53 : decode cX11_isChange 53 = .ok (.istore 5, 2) := by decide +kernel
theorem dX11_isChange_55 : decode cX11_isChange 55 = .ok (.iload 4, 2) := by decide +kernel
theorem dX11_isChange_57 : decode cX11_isChange 57 = .ok (.ifCond .eq 12, 3) := by decide +kernel
theorem dX11_isChange_60 : decode cX11_isChange 60 = .ok (.iload 5, 2) := by decide +kernel
theorem dX11_isChange_62 : decode cX11_isChange 62 = .ok (.ifCond .eq 7, 3) := by decide +kernel
theorem dX11_isChange_65 : decode cX11_isChange 65 = .ok (.iconst 1, 1) := by decide +kernel
theorem dX11_isChange_66 : decode cX11_isChange 66 = .ok (.goto 4, 3) := by decide +kernel
theorem dX11_isChange_69 : decode cX11_isChange 69 = .ok (.iconst 0, 1) := by decide +kernel
theorem dX11_isChange_70 : decode cX11_isChange 70 = .ok (.ireturn, 1) := by decide +kernel
def F_X11_isChange_53 (d : Nat) (v4 : Int32) (s0 : Int32) (h : MH) (u : Nat) (Q : Int32 → MH → Prop) : Prop :=
  if v4 = 0 then
    nz 0 ∧ Q 0 h
  else
    if s0 = 0 then
      nz 0 ∧ Q 0 h
    else
      nz 1 ∧ Q 1 h
set_option maxRecDepth 20000 in
theorem E_X11_isChange_53 {d : Nat} {v4 : Int32} {s0 : Int32} {h : MH} {u : Nat} {Q : Int32 → MH → Prop} (H : F_X11_isChange_53 d v4 s0 h u Q) : T u_X11_isChange (d + 1) 53 [none, none, none, none, some (jI v4), none] [jI s0] h u (qI Q) := by
  unfold F_X11_isChange_53 at H
  refine T_istore (pc := 53) (ls2 := [none, none, none, none, some (jI v4), some (jI s0)]) dX11_isChange_53 (Nat.le_of_ble_eq_true rfl) rfl ?_
  refine T_iload (pc := 55) dX11_isChange_55 rfl ?_
  refine T_if_eq (pc := 57) (tgt := 69) dX11_isChange_57 (by decide) (fun hc => ?_) (fun hc => ?_)
  · rw [if_pos hc] at H
    refine T_iconst (pc := 69) (v := 0) dX11_isChange_69 (by decide) ?_
    exact T_ireturn (pc := 70) rfl (nz_nar H.1) dX11_isChange_70 H.2
  · rw [if_neg hc] at H
    refine T_iload (pc := 60) dX11_isChange_60 rfl ?_
    refine T_if_eq (pc := 62) (tgt := 69) dX11_isChange_62 (by decide) (fun hc => ?_) (fun hc => ?_)
    · rw [if_pos hc] at H
      refine T_iconst (pc := 69) (v := 0) dX11_isChange_69 (by decide) ?_
      exact T_ireturn (pc := 70) rfl (nz_nar H.1) dX11_isChange_70 H.2
    · rw [if_neg hc] at H
      refine T_iconst (pc := 65) (v := 1) dX11_isChange_65 (by decide) ?_
      refine T_goto (pc := 66) (tgt := 70) dX11_isChange_66 (by decide) ?_
      exact T_ireturn (pc := 70) rfl (nz_nar H.1) dX11_isChange_70 H.2
def F_X11_isChange_48 (d : Nat) (v4 : Int32) (h : MH) (u : Nat) (Q : Int32 → MH → Prop) : Prop :=
  F_X11_isChange_53 d v4 1 h u Q
set_option maxRecDepth 20000 in
theorem E_X11_isChange_48 {d : Nat} {v4 : Int32} {h : MH} {u : Nat} {Q : Int32 → MH → Prop} (H : F_X11_isChange_48 d v4 h u Q) : T u_X11_isChange (d + 1) 48 [none, none, none, none, some (jI v4), none] [] h u (qI Q) := by
  unfold F_X11_isChange_48 at H
  refine T_iconst (pc := 48) (v := 1) dX11_isChange_48 (by decide) ?_
  refine T_goto (pc := 49) (tgt := 53) dX11_isChange_49 (by decide) ?_
  exact T.forget (E_X11_isChange_53 H) ⟨rfl, trivial⟩
def F_X11_isChange_28 (d : Nat) (v0 : Option Nm) (v1 : Int32) (v3 : Int32) (s0 : Int32) (h : MH) (u : Nat) (Q : Int32 → MH → Prop) : Prop :=
  if v1 = 1 then
    F_X11_isChange_48 d s0 h u Q
  else
    if v1 = 3 then
      F_X11_isChange_48 d s0 h u Q
    else
      rc h v0 3 ∧ iI d u_X3_takesLane [jR v0, jI v3] h u fun x1 h u =>
      if x1 = 0 then
        F_X11_isChange_53 d s0 0 h u Q
      else
        F_X11_isChange_48 d s0 h u Q
set_option maxRecDepth 20000 in
theorem E_X11_isChange_28 {d : Nat} {v0 : Option Nm} {v1 : Int32} {v3 : Int32} {s0 : Int32} {h : MH} {u : Nat} {Q : Int32 → MH → Prop} (H : F_X11_isChange_28 d v0 v1 v3 s0 h u Q) : T u_X11_isChange (d + 1) 28 [some (jR v0), some (jI v1), none, some (jI v3), none, none] [jI s0] h u (qI Q) := by
  unfold F_X11_isChange_28 at H
  refine T_istore (pc := 28) (ls2 := [some (jR v0), some (jI v1), none, some (jI v3), some (jI s0), none]) dX11_isChange_28 (Nat.le_of_ble_eq_true rfl) rfl ?_
  refine T_iload_n (pc := 30) dX11_isChange_30 rfl rfl ?_
  refine T_iconst (pc := 31) (v := 1) dX11_isChange_31 (by decide) ?_
  refine T_icmp_eq (pc := 32) (tgt := 48) dX11_isChange_32 (by decide) (fun hc => ?_) (fun hc => ?_)
  · rw [if_pos hc] at H
    exact T.forget (E_X11_isChange_48 H) ⟨rfl, trivial⟩
  · rw [if_neg hc] at H
    refine T_iload_n (pc := 35) dX11_isChange_35 rfl rfl ?_
    refine T_iconst (pc := 36) (v := 3) dX11_isChange_36 (by decide) ?_
    refine T_icmp_eq (pc := 37) (tgt := 48) dX11_isChange_37 (by decide) (fun hc => ?_) (fun hc => ?_)
    · rw [if_pos hc] at H
      exact T.forget (E_X11_isChange_48 H) ⟨rfl, trivial⟩
    · rw [if_neg hc] at H
      refine T_aload_n (pc := 40) dX11_isChange_40 rfl rfl ?_
      refine T_iload_n (pc := 41) dX11_isChange_41 rfl rfl ?_
      obtain ⟨H0, H⟩ := H
      refine T_iV (pc := 42) (ci := 3) (av := [jI v3]) (rest := []) (o := v0) dX11_isChange_42 mf_X3_takesLane c_2_206 c_2_207 c_2_208 rfl rfl (Nat.le_of_ble_eq_true rfl) rfl H0 (iI_k (iI_mono (fun x1 h u H => ?_) H))
      refine T_if_eq (pc := 45) (tgt := 52) dX11_isChange_45 (by decide) (fun hc => ?_) (fun hc => ?_)
      · rw [if_pos hc] at H
        refine T_iconst (pc := 52) (v := 0) dX11_isChange_52 (by decide) ?_
        exact T.forget (E_X11_isChange_53 H) ⟨rfl, trivial⟩
      · rw [if_neg hc] at H
        exact T.forget (E_X11_isChange_48 H) ⟨rfl, trivial⟩
def F_X11_isChange_23 (d : Nat) (v0 : Option Nm) (v1 : Int32) (v3 : Int32) (h : MH) (u : Nat) (Q : Int32 → MH → Prop) : Prop :=
  F_X11_isChange_28 d v0 v1 v3 1 h u Q
set_option maxRecDepth 20000 in
theorem E_X11_isChange_23 {d : Nat} {v0 : Option Nm} {v1 : Int32} {v3 : Int32} {h : MH} {u : Nat} {Q : Int32 → MH → Prop} (H : F_X11_isChange_23 d v0 v1 v3 h u Q) : T u_X11_isChange (d + 1) 23 [some (jR v0), some (jI v1), none, some (jI v3), none, none] [] h u (qI Q) := by
  unfold F_X11_isChange_23 at H
  refine T_iconst (pc := 23) (v := 1) dX11_isChange_23 (by decide) ?_
  refine T_goto (pc := 24) (tgt := 28) dX11_isChange_24 (by decide) ?_
  exact T.forget (E_X11_isChange_28 H) ⟨rfl, rfl, rfl, trivial⟩
def F_X11_isChange (d : Nat) (v0 : Option Nm) (v1 : Int32) (v2 : Int32) (v3 : Int32) (h : MH) (u : Nat) (Q : Int32 → MH → Prop) : Prop :=
  iI d u_X11_isWithin [jI v1, jI 0, jI 3] h u fun x1 h u =>
  if x1 = 0 then
    nz 0 ∧ Q 0 h
  else
    if v1 = 3 then
      F_X11_isChange_23 d v0 v1 v3 h u Q
    else
      iI d u_X11_isLabel [jI v2] h u fun x2 h u =>
      if x2 = 0 then
        F_X11_isChange_28 d v0 v1 v3 0 h u Q
      else
        F_X11_isChange_23 d v0 v1 v3 h u Q
set_option maxRecDepth 20000 in
theorem E_X11_isChange {d : Nat} {v0 : Option Nm} {v1 : Int32} {v2 : Int32} {v3 : Int32} {h : MH} {u : Nat} {Q : Int32 → MH → Prop} (H : F_X11_isChange d v0 v1 v2 v3 h u Q) : T u_X11_isChange (d + 1) 0 [some (jR v0), some (jI v1), some (jI v2), some (jI v3), none, none] [] h u (qI Q) := by
  unfold F_X11_isChange at H
  refine T_iload_n (pc := 0) dX11_isChange_0 rfl rfl ?_
  refine T_iconst (pc := 1) (v := 0) dX11_isChange_1 (by decide) ?_
  refine T_iconst (pc := 2) (v := 3) dX11_isChange_2 (by decide) ?_
  refine T_invS (pc := 3) (av := [jI v1, jI 0, jI 3]) (rest := []) dX11_isChange_3 mf_X11_isWithin c_1_189 c_1_190 rfl (Nat.le_of_ble_eq_true rfl) rfl (iI_k (iI_mono (fun x1 h u H => ?_) H))
  refine T_if_ne (pc := 6) (tgt := 11) dX11_isChange_6 (by decide) (fun hc => ?_) (fun hc => ?_)
  · rw [if_neg hc] at H
    refine T_iload_n (pc := 11) dX11_isChange_11 rfl rfl ?_
    refine T_iconst (pc := 12) (v := 3) dX11_isChange_12 (by decide) ?_
    refine T_icmp_eq (pc := 13) (tgt := 23) dX11_isChange_13 (by decide) (fun hc => ?_) (fun hc => ?_)
    · rw [if_pos hc] at H
      exact T.forget (E_X11_isChange_23 H) ⟨rfl, rfl, rfl, trivial⟩
    · rw [if_neg hc] at H
      refine T_iload_n (pc := 16) dX11_isChange_16 rfl rfl ?_
      refine T_invS (pc := 17) (av := [jI v2]) (rest := []) dX11_isChange_17 mf_X11_isLabel c_2_203 c_2_204 rfl (Nat.le_of_ble_eq_true rfl) rfl (iI_k (iI_mono (fun x2 h u H => ?_) H))
      refine T_if_eq (pc := 20) (tgt := 27) dX11_isChange_20 (by decide) (fun hc => ?_) (fun hc => ?_)
      · rw [if_pos hc] at H
        refine T_iconst (pc := 27) (v := 0) dX11_isChange_27 (by decide) ?_
        exact T.forget (E_X11_isChange_28 H) ⟨rfl, rfl, rfl, trivial⟩
      · rw [if_neg hc] at H
        exact T.forget (E_X11_isChange_23 H) ⟨rfl, rfl, rfl, trivial⟩
  · rw [if_pos hc] at H
    refine T_iconst (pc := 9) (v := 0) dX11_isChange_9 (by decide) ?_
    exact T_ireturn (pc := 10) rfl (nz_nar H.1) dX11_isChange_10 H.2
theorem I_X11_isChange {d : Nat} {v0 : Option Nm} {v1 : Int32} {v2 : Int32} {v3 : Int32} {h : MH} {u : Nat} {K : Int32 → MH → Nat → Prop} (u1 : Nat) (hu : u1 ≤ u) (H : F_X11_isChange d v0 v1 v2 v3 h u1 (fun x h2 => K x h2 (u - u1))) : iI (d + 1) u_X11_isChange [jR v0, jI v1, jI v2, jI v3] h u K := inv.of u1 hu (Ct.of (by decide +kernel) rfl (Nat.le_of_ble_eq_true rfl) rfl (E_X11_isChange H))
theorem dX11_hasRoomForChange_0 : decode cX11_hasRoomForChange 0 = .ok (.aload_n 1, 1) := by decide +kernel
theorem dX11_hasRoomForChange_1 : decode cX11_hasRoomForChange 1 = .ok (.invokevirtual 354, 3) := by decide +kernel
theorem dX11_hasRoomForChange_4 : decode cX11_hasRoomForChange 4 = .ok (.ifCond .ne 5, 3) := by decide +kernel
theorem dX11_hasRoomForChange_7 : decode cX11_hasRoomForChange 7 = .ok (.iconst 0, 1) := by decide +kernel
theorem dX11_hasRoomForChange_8 : decode cX11_hasRoomForChange 8 = .ok (.ireturn, 1) := by decide +kernel
theorem dX11_hasRoomForChange_9 : decode cX11_hasRoomForChange 9 = .ok (.iload_n 2, 1) := by decide +kernel
theorem dX11_hasRoomForChange_10 : decode cX11_hasRoomForChange 10 = .ok (.ifCond .eq 5, 3) := by decide +kernel
theorem dX11_hasRoomForChange_13 : decode cX11_hasRoomForChange 13 = .ok (.iconst 1, 1) := by decide +kernel
theorem dX11_hasRoomForChange_14 : decode cX11_hasRoomForChange 14 = .ok (.ireturn, 1) := by decide +kernel
theorem dX11_hasRoomForChange_15 : decode cX11_hasRoomForChange 15 = .ok (.aload_n 1, 1) := by decide +kernel
theorem dX11_hasRoomForChange_16 : decode cX11_hasRoomForChange 16 = .ok (.invokevirtual 165, 3) := by decide +kernel
theorem dX11_hasRoomForChange_19 : decode cX11_hasRoomForChange 19 = .ok (.invokevirtual 177, 3) := by decide +kernel
theorem dX11_hasRoomForChange_22 : decode cX11_hasRoomForChange 22 = .ok (.ifCond .ne 25, 3) := by decide +kernel
theorem dX11_hasRoomForChange_25 : decode cX11_hasRoomForChange 25 = .ok (.aload_n 1, 1) := by decide +kernel
theorem dX11_hasRoomForChange_26 : decode cX11_hasRoomForChange 26 = .ok (.getfield 192, 3) := by decide +kernel
theorem dX11_hasRoomForChange_29 : decode cX11_hasRoomForChange 29 = .ok (.ifCond .eq 14, 3) := by decide +kernel
theorem dX11_hasRoomForChange_32 : decode cX11_hasRoomForChange 32 = .ok (.aload_n 0, 1) := by decide +kernel
theorem dX11_hasRoomForChange_33 : decode cX11_hasRoomForChange 33 = .ok (.getfield 12, 3) := by decide +kernel
theorem dX11_hasRoomForChange_36 : decode cX11_hasRoomForChange 36 = .ok (.iconst 1, 1) := by decide +kernel
theorem dX11_hasRoomForChange_37 : decode cX11_hasRoomForChange 37 = .ok (.invokevirtual 231, 3) := by decide +kernel
theorem dX11_hasRoomForChange_40 : decode cX11_hasRoomForChange 40 = .ok (.ifCond .eq 7, 3) := by decide +kernel
theorem dX11_hasRoomForChange_43 : decode cX11_hasRoomForChange 43 = .ok (.iconst 1, 1) := by decide +kernel
theorem dX11_hasRoomForChange_44 : decode cX11_hasRoomForChange 44 = .ok (.goto 4, 3) := by decide +kernel
theorem dX11_hasRoomForChange_47 : decode cX11_hasRoomForChange 47 = .ok (.iconst 0, 1) := by decide +kernel
theorem dX11_hasRoomForChange_48 : decode cX11_hasRoomForChange 48 = .ok (.ireturn, 1) := by decide +kernel
def F_X11_hasRoomForChange (d : Nat) (v0 : Option Nm) (v1 : Option Nm) (v2 : Int32) (h : MH) (u : Nat) (Q : Int32 → MH → Prop) : Prop :=
  rc h v1 3 ∧ iI d u_X3_hasRoomForEdition [jR v1] h u fun x1 h u =>
  if x1 = 0 then
    nz 0 ∧ Q 0 h
  else
    if v2 = 0 then
      rc h v1 3 ∧ iR d u_X3_newest [jR v1] h u fun x2 h u =>
      rc h x2 2 ∧ iI d u_X2_isFull [jR x2] h u fun x3 h u =>
      if x3 = 0 then
        gI h v1 3 1 fun x4 =>
        if x4 = 0 then
          nz 1 ∧ Q 1 h
        else
          gR h v0 10 0 fun x5 =>
          rc h x5 6 ∧ iI d u_X7_hasRoomForValues [jR x5, jI 1] h u fun x6 h u =>
          if x6 = 0 then
            nz 0 ∧ Q 0 h
          else
            nz 1 ∧ Q 1 h
      else
        nz 0 ∧ Q 0 h
    else
      nz 1 ∧ Q 1 h
set_option maxRecDepth 20000 in
theorem E_X11_hasRoomForChange {d : Nat} {v0 : Option Nm} {v1 : Option Nm} {v2 : Int32} {h : MH} {u : Nat} {Q : Int32 → MH → Prop} (H : F_X11_hasRoomForChange d v0 v1 v2 h u Q) : T u_X11_hasRoomForChange (d + 1) 0 [some (jR v0), some (jR v1), some (jI v2)] [] h u (qI Q) := by
  unfold F_X11_hasRoomForChange at H
  refine T_aload_n (pc := 0) dX11_hasRoomForChange_0 rfl rfl ?_
  obtain ⟨H0, H⟩ := H
  refine T_iV (pc := 1) (ci := 3) (av := []) (rest := []) (o := v1) dX11_hasRoomForChange_1 mf_X3_hasRoomForEdition c_3_1 c_3_2 c_3_3 rfl rfl (Nat.le_of_ble_eq_true rfl) rfl H0 (iI_k (iI_mono (fun x1 h u H => ?_) H))
  refine T_if_ne (pc := 4) (tgt := 9) dX11_hasRoomForChange_4 (by decide) (fun hc => ?_) (fun hc => ?_)
  · rw [if_neg hc] at H
    refine T_iload_n (pc := 9) dX11_hasRoomForChange_9 rfl rfl ?_
    refine T_if_eq (pc := 10) (tgt := 15) dX11_hasRoomForChange_10 (by decide) (fun hc => ?_) (fun hc => ?_)
    · rw [if_pos hc] at H
      refine T_aload_n (pc := 15) dX11_hasRoomForChange_15 rfl rfl ?_
      obtain ⟨H0, H⟩ := H
      refine T_iV (pc := 16) (ci := 3) (av := []) (rest := []) (o := v1) dX11_hasRoomForChange_16 mf_X3_newest c_2_213 c_2_214 c_2_215 rfl rfl (Nat.le_of_ble_eq_true rfl) rfl H0 (iR_k (iR_mono (fun x2 h u H => ?_) H))
      obtain ⟨H0, H⟩ := H
      refine T_iV (pc := 19) (ci := 2) (av := []) (rest := []) (o := x2) dX11_hasRoomForChange_19 mf_X2_isFull c_2_221 c_2_222 c_2_223 rfl rfl (Nat.le_of_ble_eq_true rfl) rfl H0 (iI_k (iI_mono (fun x3 h u H => ?_) H))
      refine T_if_ne (pc := 22) (tgt := 47) dX11_hasRoomForChange_22 (by decide) (fun hc => ?_) (fun hc => ?_)
      · rw [if_neg hc] at H
        refine T_iconst (pc := 47) (v := 0) dX11_hasRoomForChange_47 (by decide) ?_
        exact T_ireturn (pc := 48) rfl (nz_nar H.1) dX11_hasRoomForChange_48 H.2
      · rw [if_pos hc] at H
        refine T_aload_n (pc := 25) dX11_hasRoomForChange_25 rfl rfl ?_
        refine T_gI (pc := 26) fa_X11_192 dX11_hasRoomForChange_26 (gI_mono (fun x4 H => ?_) H)
        refine T_if_eq (pc := 29) (tgt := 43) dX11_hasRoomForChange_29 (by decide) (fun hc => ?_) (fun hc => ?_)
        · rw [if_pos hc] at H
          refine T_iconst (pc := 43) (v := 1) dX11_hasRoomForChange_43 (by decide) ?_
          refine T_goto (pc := 44) (tgt := 48) dX11_hasRoomForChange_44 (by decide) ?_
          exact T_ireturn (pc := 48) rfl (nz_nar H.1) dX11_hasRoomForChange_48 H.2
        · rw [if_neg hc] at H
          refine T_aload_n (pc := 32) dX11_hasRoomForChange_32 rfl rfl ?_
          refine T_gR (pc := 33) fa_X11_12 dX11_hasRoomForChange_33 (gR_mono (fun x5 H => ?_) H)
          refine T_iconst (pc := 36) (v := 1) dX11_hasRoomForChange_36 (by decide) ?_
          obtain ⟨H0, H⟩ := H
          refine T_iV (pc := 37) (ci := 6) (av := [jI 1]) (rest := []) (o := x5) dX11_hasRoomForChange_37 mf_X7_hasRoomForValues c_3_5 c_3_6 c_3_7 rfl rfl (Nat.le_of_ble_eq_true rfl) rfl H0 (iI_k (iI_mono (fun x6 h u H => ?_) H))
          refine T_if_eq (pc := 40) (tgt := 47) dX11_hasRoomForChange_40 (by decide) (fun hc => ?_) (fun hc => ?_)
          · rw [if_pos hc] at H
            refine T_iconst (pc := 47) (v := 0) dX11_hasRoomForChange_47 (by decide) ?_
            exact T_ireturn (pc := 48) rfl (nz_nar H.1) dX11_hasRoomForChange_48 H.2
          · rw [if_neg hc] at H
            refine T_iconst (pc := 43) (v := 1) dX11_hasRoomForChange_43 (by decide) ?_
            refine T_goto (pc := 44) (tgt := 48) dX11_hasRoomForChange_44 (by decide) ?_
            exact T_ireturn (pc := 48) rfl (nz_nar H.1) dX11_hasRoomForChange_48 H.2
    · rw [if_neg hc] at H
      refine T_iconst (pc := 13) (v := 1) dX11_hasRoomForChange_13 (by decide) ?_
      exact T_ireturn (pc := 14) rfl (nz_nar H.1) dX11_hasRoomForChange_14 H.2
  · rw [if_pos hc] at H
    refine T_iconst (pc := 7) (v := 0) dX11_hasRoomForChange_7 (by decide) ?_
    exact T_ireturn (pc := 8) rfl (nz_nar H.1) dX11_hasRoomForChange_8 H.2
theorem I_X11_hasRoomForChange {d : Nat} {v0 : Option Nm} {v1 : Option Nm} {v2 : Int32} {h : MH} {u : Nat} {K : Int32 → MH → Nat → Prop} (u1 : Nat) (hu : u1 ≤ u) (H : F_X11_hasRoomForChange d v0 v1 v2 h u1 (fun x h2 => K x h2 (u - u1))) : iI (d + 1) u_X11_hasRoomForChange [jR v0, jR v1, jI v2] h u K := inv.of u1 hu (Ct.of (by decide +kernel) rfl (Nat.le_of_ble_eq_true rfl) rfl (E_X11_hasRoomForChange H))
theorem dX11_change_0 : decode cX11_change 0 = .ok (.aload_n 0, 1) := by decide +kernel
theorem dX11_change_1 : decode cX11_change 1 = .ok (.iload_n 2, 1) := by decide +kernel
theorem dX11_change_2 : decode cX11_change 2 = .ok (.invokevirtual 172, 3) := by decide +kernel
theorem dX11_change_5 : decode cX11_change 5 = .ok (.istore 4, 2) := by decide +kernel
theorem dX11_change_7 : decode cX11_change 7 = .ok (.iload_n 1, 1) := by decide +kernel
theorem dX11_change_8 : decode cX11_change 8 = .ok (.tableswitch 56 0 2 #[28, 37, 46], 28) := by decide +kernel
theorem dX11_change_36 : decode cX11_change 36 = .ok (.aload_n 0, 1) := by decide +kernel
theorem dX11_change_37 : decode cX11_change 37 = .ok (.iload_n 2, 1) := by decide +kernel
theorem dX11_change_38 : decode cX11_change 38 = .ok (.iload_n 3, 1) := by decide +kernel
theorem dX11_change_39 : decode cX11_change 39 = .ok (.invokevirtual 181, 3) := by decide +kernel
theorem dX11_change_42 : decode cX11_change 42 = .ok (.goto 26, 3) := by decide +kernel
theorem dX11_change_45 : decode cX11_change 45 = .ok (.aload_n 0, 1) := by decide +kernel
theorem dX11_change_46 : decode cX11_change 46 = .ok (.iload 4, 2) := by decide +kernel
theorem dX11_change_48 : decode cX11_change 48 = .ok (.invokevirtual 357, 3) := by decide +kernel
theorem dX11_change_51 : decode cX11_change 51 = .ok (.goto 17, 3) := by decide +kernel
theorem dX11_change_54 : decode cX11_change 54 = .ok (.aload_n 0, 1) := by decide +kernel
theorem dX11_change_55 : decode cX11_change 55 = .ok (.iload 4, 2) := by decide +kernel
theorem dX11_change_57 : decode cX11_change 57 = .ok (.iload_n 3, 1) := by decide +kernel
theorem dX11_change_58 : decode cX11_change 58 = .ok (.invokevirtual 360, 3) := by decide +kernel
theorem dX11_change_61 : decode cX11_change 61 = .ok (.goto 7, 3) := by decide +kernel
theorem dX11_change_64 : decode cX11_change 64 = .ok (.aload_n 0, 1) := by decide +kernel
theorem dX11_change_65 : decode cX11_change 65 = .ok (.invokevirtual 363, 3) := by decide +kernel
theorem dX11_change_68 : decode cX11_change 68 = .ok (.return_, 1) := by decide +kernel
def F_X11_change (d : Nat) (v0 : Option Nm) (v1 : Int32) (v2 : Int32) (v3 : Int32) (h : MH) (u : Nat) (Q : MH → Prop) : Prop :=
  rc h v0 2 ∧ iI d u_X2_find [jR v0, jI v2] h u fun x1 h u =>
  if v1 = 0 then
    rc h v0 2 ∧ iV d u_X2_add [jR v0, jI v2, jI v3] h u fun h u =>
    Q h
  else if v1 = 1 then
    rc h v0 2 ∧ iV d u_X2_drop [jR v0, jI x1] h u fun h u =>
    Q h
  else if v1 = 2 then
    rc h v0 2 ∧ iV d u_X2_changeLane [jR v0, jI x1, jI v3] h u fun h u =>
    Q h
  else 
    rc h v0 2 ∧ iV d u_X2_reverse [jR v0] h u fun h u =>
    Q h
set_option maxRecDepth 20000 in
theorem E_X11_change {d : Nat} {v0 : Option Nm} {v1 : Int32} {v2 : Int32} {v3 : Int32} {h : MH} {u : Nat} {Q : MH → Prop} (H : F_X11_change d v0 v1 v2 v3 h u Q) : T u_X11_change (d + 1) 0 [some (jR v0), some (jI v1), some (jI v2), some (jI v3), none] [] h u (qV Q) := by
  unfold F_X11_change at H
  refine T_aload_n (pc := 0) dX11_change_0 rfl rfl ?_
  refine T_iload_n (pc := 1) dX11_change_1 rfl rfl ?_
  obtain ⟨H0, H⟩ := H
  refine T_iV (pc := 2) (ci := 2) (av := [jI v2]) (rest := []) (o := v0) dX11_change_2 mf_X2_find c_2_217 c_2_218 c_2_219 rfl rfl (Nat.le_of_ble_eq_true rfl) rfl H0 (iI_k (iI_mono (fun x1 h u H => ?_) H))
  refine T_istore (pc := 5) (ls2 := [some (jR v0), some (jI v1), some (jI v2), some (jI v3), some (jI x1)]) dX11_change_5 (Nat.le_of_ble_eq_true rfl) rfl ?_
  refine T_iload_n (pc := 7) dX11_change_7 rfl rfl ?_
  by_cases h0 : v1 = 0
  · rw [if_pos h0] at H
    refine T_tableIn (pc := 8) (off := 28) (tgt := 36) dX11_change_8 (by rw [h0]; decide) (by rw [h0]; decide) (by rw [h0]; rfl) (by decide) ?_
    refine T_aload_n (pc := 36) dX11_change_36 rfl rfl ?_
    refine T_iload_n (pc := 37) dX11_change_37 rfl rfl ?_
    refine T_iload_n (pc := 38) dX11_change_38 rfl rfl ?_
    obtain ⟨H0, H⟩ := H
    refine T_iV (pc := 39) (ci := 2) (av := [jI v2, jI v3]) (rest := []) (o := v0) dX11_change_39 mf_X2_add c_2_225 c_2_226 c_2_227 rfl rfl (Nat.le_of_ble_eq_true rfl) rfl H0 (iV_k (iV_mono (fun h u H => ?_) H))
    refine T_goto (pc := 42) (tgt := 68) dX11_change_42 (by decide) ?_
    exact T_return (pc := 68) rfl dX11_change_68 H
  rw [if_neg h0] at H
  by_cases h1 : v1 = 1
  · rw [if_pos h1] at H
    refine T_tableIn (pc := 8) (off := 37) (tgt := 45) dX11_change_8 (by rw [h1]; decide) (by rw [h1]; decide) (by rw [h1]; rfl) (by decide) ?_
    refine T_aload_n (pc := 45) dX11_change_45 rfl rfl ?_
    refine T_iload (pc := 46) dX11_change_46 rfl ?_
    obtain ⟨H0, H⟩ := H
    refine T_iV (pc := 48) (ci := 2) (av := [jI x1]) (rest := []) (o := v0) dX11_change_48 mf_X2_drop c_3_28 c_3_29 c_3_30 rfl rfl (Nat.le_of_ble_eq_true rfl) rfl H0 (iV_k (iV_mono (fun h u H => ?_) H))
    refine T_goto (pc := 51) (tgt := 68) dX11_change_51 (by decide) ?_
    exact T_return (pc := 68) rfl dX11_change_68 H
  rw [if_neg h1] at H
  by_cases h2 : v1 = 2
  · rw [if_pos h2] at H
    refine T_tableIn (pc := 8) (off := 46) (tgt := 54) dX11_change_8 (by rw [h2]; decide) (by rw [h2]; decide) (by rw [h2]; rfl) (by decide) ?_
    refine T_aload_n (pc := 54) dX11_change_54 rfl rfl ?_
    refine T_iload (pc := 55) dX11_change_55 rfl ?_
    refine T_iload_n (pc := 57) dX11_change_57 rfl rfl ?_
    obtain ⟨H0, H⟩ := H
    refine T_iV (pc := 58) (ci := 2) (av := [jI x1, jI v3]) (rest := []) (o := v0) dX11_change_58 mf_X2_changeLane c_3_36 c_3_37 c_3_38 rfl rfl (Nat.le_of_ble_eq_true rfl) rfl H0 (iV_k (iV_mono (fun h u H => ?_) H))
    refine T_goto (pc := 61) (tgt := 68) dX11_change_61 (by decide) ?_
    exact T_return (pc := 68) rfl dX11_change_68 H
  rw [if_neg h2] at H
  have e0 : (v1 : Int32).toInt ≠ 0 := fun q => h0 (Int32.toInt_inj.mp (q.trans (by decide)))
  have e1 : (v1 : Int32).toInt ≠ 1 := fun q => h1 (Int32.toInt_inj.mp (q.trans (by decide)))
  have e2 : (v1 : Int32).toInt ≠ 2 := fun q => h2 (Int32.toInt_inj.mp (q.trans (by decide)))
  refine T_tableOut (pc := 8) (tgt := 64) dX11_change_8 (by omega) (by decide) ?_
  refine T_aload_n (pc := 64) dX11_change_64 rfl rfl ?_
  obtain ⟨H0, H⟩ := H
  refine T_iV (pc := 65) (ci := 2) (av := []) (rest := []) (o := v0) dX11_change_65 mf_X2_reverse c_3_40 c_3_41 c_3_42 rfl rfl (Nat.le_of_ble_eq_true rfl) rfl H0 (iV_k (iV_mono (fun h u H => ?_) H))
  exact T_return (pc := 68) rfl dX11_change_68 H
theorem I_X11_change {d : Nat} {v0 : Option Nm} {v1 : Int32} {v2 : Int32} {v3 : Int32} {h : MH} {u : Nat} {K : MH → Nat → Prop} (u1 : Nat) (hu : u1 ≤ u) (H : F_X11_change d v0 v1 v2 v3 h u1 (fun h2 => K h2 (u - u1))) : iV (d + 1) u_X11_change [jR v0, jI v1, jI v2, jI v3] h u K := inv.of u1 hu (Ct.of (by decide +kernel) rfl (Nat.le_of_ble_eq_true rfl) rfl (E_X11_change H))
theorem dX11_start_0 : decode cX11_start 0 = .ok (.aload_n 1, 1) := by decide +kernel
theorem dX11_start_1 : decode cX11_start 1 = .ok (.getfield 169, 3) := by decide +kernel
theorem dX11_start_4 : decode cX11_start 4 = .ok (.ifCond .eq 4, 3) := by decide +kernel
theorem dX11_start_7 : decode cX11_start 7 = .ok (.return_, 1) := by decide +kernel
theorem dX11_start_8 : decode cX11_start 8 = .ok (.aload_n 1, 1) := by decide +kernel
theorem dX11_start_9 : decode cX11_start 9 = .ok (.iconst 1, 1) := by decide +kernel
theorem dX11_start_10 : decode cX11_start 10 = .ok (.putfield 169, 3) := by decide +kernel
theorem dX11_start_13 : decode cX11_start 13 = .ok (.aload_n 0, 1) := by decide +kernel
theorem dX11_start_14 : decode cX11_start 14 = .ok (.dup, 1) := by decide +kernel
theorem dX11_start_15 : decode cX11_start 15 = .ok (.getfield 335, 3) := by decide +kernel
theorem dX11_start_18 : decode cX11_start 18 = .ok (.iconst 1, 1) := by decide +kernel
theorem dX11_start_19 : decode cX11_start 19 = .ok (.iadd, 1) := by decide +kernel
theorem dX11_start_20 : decode cX11_start 20 = .ok (.putfield 335, 3) := by decide +kernel
theorem dX11_start_23 : decode cX11_start 23 = .ok (.aload_n 0, 1) := by decide +kernel
theorem dX11_start_24 : decode cX11_start 24 = .ok (.bipush 100, 2) := by decide +kernel
theorem dX11_start_26 : decode cX11_start 26 = .ok (.aload_n 1, 1) := by decide +kernel
theorem dX11_start_27 : decode cX11_start 27 = .ok (.getfield 268, 3) := by decide +kernel
theorem dX11_start_30 : decode cX11_start 30 = .ok (.iadd, 1) := by decide +kernel
theorem dX11_start_31 : decode cX11_start 31 = .ok (.invokevirtual 366, 3) := by decide +kernel
theorem dX11_start_34 : decode cX11_start 34 = .ok (.aload_n 1, 1) := by decide +kernel
theorem dX11_start_35 : decode cX11_start 35 = .ok (.getfield 192, 3) := by decide +kernel
theorem dX11_start_38 : decode cX11_start 38 = .ok (.ifCond .eq 30, 3) := by decide +kernel
theorem dX11_start_41 : decode cX11_start 41 = .ok (.aload_n 1, 1) := by decide +kernel
theorem dX11_start_42 : decode cX11_start 42 = .ok (.invokevirtual 165, 3) := by decide +kernel
theorem dX11_start_45 : decode cX11_start 45 = .ok (.getfield 185, 3) := by decide +kernel
theorem dX11_start_48 : decode cX11_start 48 = .ok (.istore_n 2, 1) := by decide +kernel
theorem dX11_start_49 : decode cX11_start 49 = .ok (.iconst 0, 1) := by decide +kernel
theorem dX11_start_50 : decode cX11_start 50 = .ok (.istore_n 3, 1) := by decide +kernel
theorem dX11_start_51 : decode cX11_start 51 = .ok (.iload_n 3, 1) := by decide +kernel
theorem dX11_start_52 : decode cX11_start 52 = .ok (.iload_n 2, 1) := by decide +kernel
theorem dX11_start_53 : decode cX11_start 53 = .ok (.if_icmp .ge 15, 3) := by decide +kernel
theorem dX11_start_56 : decode cX11_start 56 = .ok (.aload_n 0, 1) := by decide +kernel
theorem dX11_start_57 : decode cX11_start 57 = .ok (.aload_n 1, 1) := by decide +kernel
theorem dX11_start_58 : decode cX11_start 58 = .ok (.iload_n 3, 1) := by decide +kernel
theorem dX11_start_59 : decode cX11_start 59 = .ok (.invokevirtual 206, 3) := by decide +kernel
theorem dX11_start_62 : decode cX11_start 62 = .ok (.iinc 3 1, 3) := by decide +kernel
theorem dX11_start_65 : decode cX11_start 65 = .ok (.goto (-14), 3) := by decide +kernel
theorem dX11_start_68 : decode cX11_start 68 = .ok (.return_, 1) := by decide +kernel
def L_X11_start_51 (d : Nat) (v0 : Option Nm) (v1 : Option Nm) (v2 : Int32) (v3 : Int32) (h : MH) (u : Nat) (Q : MH → Prop) : Prop := T u_X11_start (d + 1) 51 [some (jR v0), some (jR v1), some (jI v2), some (jI v3)] [] h u (qV Q)
def F_X11_start (d : Nat) (v0 : Option Nm) (v1 : Option Nm) (h : MH) (u : Nat) (Q : MH → Prop) : Prop :=
  gI h v1 3 5 fun x1 =>
  if x1 = 0 then
    nz 1 ∧
    pV h v1 3 5 (jI 1) fun h =>
    gI h v0 10 10 fun x2 =>
    pV h v0 10 10 (jI (x2 + 1)) fun h =>
    gI h v1 3 0 fun x3 =>
    rc h v0 10 ∧ iV d u_X11_leaveTrace [jR v0, jI (100 + x3)] h u fun h u =>
    gI h v1 3 1 fun x5 =>
    if x5 = 0 then
      Q h
    else
      rc h v1 3 ∧ iR d u_X3_newest [jR v1] h u fun x6 h u =>
      gI h x6 2 4 fun x7 =>
      L_X11_start_51 d v0 v1 x7 0 h u Q
  else
    Q h
set_option maxRecDepth 20000 in
theorem E_X11_start {d : Nat} {v0 : Option Nm} {v1 : Option Nm} {h : MH} {u : Nat} {Q : MH → Prop} (H : F_X11_start d v0 v1 h u Q) : T u_X11_start (d + 1) 0 [some (jR v0), some (jR v1), none, none] [] h u (qV Q) := by
  unfold F_X11_start at H
  refine T_aload_n (pc := 0) dX11_start_0 rfl rfl ?_
  refine T_gI (pc := 1) fa_X11_169 dX11_start_1 (gI_mono (fun x1 H => ?_) H)
  refine T_if_eq (pc := 4) (tgt := 8) dX11_start_4 (by decide) (fun hc => ?_) (fun hc => ?_)
  · rw [if_pos hc] at H
    refine T_aload_n (pc := 8) dX11_start_8 rfl rfl ?_
    refine T_iconst (pc := 9) (v := 1) dX11_start_9 (by decide) ?_
    obtain ⟨H0, H⟩ := H
    refine T_pV (pc := 10) fa_X11_169 dX11_start_10 H0 (pV_mono (fun h H => ?_) H)
    refine T_aload_n (pc := 13) dX11_start_13 rfl rfl ?_
    refine T_dup (pc := 14) rfl dX11_start_14 ?_
    refine T_gI (pc := 15) fa_X11_335 dX11_start_15 (gI_mono (fun x2 H => ?_) H)
    refine T_iconst (pc := 18) (v := 1) dX11_start_18 (by decide) ?_
    refine T_iadd (pc := 19) dX11_start_19 ?_
    refine T_pV (pc := 20) fa_X11_335 dX11_start_20 trivial (pV_mono (fun h H => ?_) H)
    refine T_aload_n (pc := 23) dX11_start_23 rfl rfl ?_
    refine T_bipush (pc := 24) (v := 100) dX11_start_24 (by decide) ?_
    refine T_aload_n (pc := 26) dX11_start_26 rfl rfl ?_
    refine T_gI (pc := 27) fa_X11_268 dX11_start_27 (gI_mono (fun x3 H => ?_) H)
    refine T_iadd (pc := 30) dX11_start_30 ?_
    obtain ⟨H0, H⟩ := H
    refine T_iV (pc := 31) (ci := 10) (av := [jI (100 + x3)]) (rest := []) (o := v0) dX11_start_31 mf_X11_leaveTrace c_3_141 c_3_143 pr_X11_leaveTrace rfl rfl (Nat.le_of_ble_eq_true rfl) rfl H0 (iV_k (iV_mono (fun h u H => ?_) H))
    refine T_aload_n (pc := 34) dX11_start_34 rfl rfl ?_
    refine T_gI (pc := 35) fa_X11_192 dX11_start_35 (gI_mono (fun x5 H => ?_) H)
    refine T_if_eq (pc := 38) (tgt := 68) dX11_start_38 (by decide) (fun hc => ?_) (fun hc => ?_)
    · rw [if_pos hc] at H
      exact T_return (pc := 68) rfl dX11_start_68 H
    · rw [if_neg hc] at H
      refine T_aload_n (pc := 41) dX11_start_41 rfl rfl ?_
      obtain ⟨H0, H⟩ := H
      refine T_iV (pc := 42) (ci := 3) (av := []) (rest := []) (o := v1) dX11_start_42 mf_X3_newest c_2_213 c_2_214 c_2_215 rfl rfl (Nat.le_of_ble_eq_true rfl) rfl H0 (iR_k (iR_mono (fun x6 h u H => ?_) H))
      refine T_gI (pc := 45) fa_X11_185 dX11_start_45 (gI_mono (fun x7 H => ?_) H)
      refine T_istore_n (pc := 48) (ls2 := [some (jR v0), some (jR v1), some (jI x7), none]) dX11_start_48 rfl (Nat.le_of_ble_eq_true rfl) rfl ?_
      refine T_iconst (pc := 49) (v := 0) dX11_start_49 (by decide) ?_
      refine T_istore_n (pc := 50) (ls2 := [some (jR v0), some (jR v1), some (jI x7), some (jI 0)]) dX11_start_50 rfl (Nat.le_of_ble_eq_true rfl) rfl ?_
      exact T.forget H ⟨rfl, rfl, rfl, rfl, trivial⟩
  · rw [if_neg hc] at H
    exact T_return (pc := 7) rfl dX11_start_7 H
def F_X11_start_51 (d : Nat) (v0 : Option Nm) (v1 : Option Nm) (v2 : Int32) (v3 : Int32) (h : MH) (u : Nat) (Q : MH → Prop) : Prop :=
  if v2 ≤ v3 then
    Q h
  else
    rc h v0 10 ∧ iV d u_X11_addConstant [jR v0, jR v1, jI v3] h u fun h u =>
    L_X11_start_51 d v0 v1 v2 (v3 + 1) h u Q
set_option maxRecDepth 20000 in
theorem E_X11_start_51 {d : Nat} {v0 : Option Nm} {v1 : Option Nm} {v2 : Int32} {v3 : Int32} {h : MH} {u : Nat} {Q : MH → Prop} (H : F_X11_start_51 d v0 v1 v2 v3 h u Q) : T u_X11_start (d + 1) 51 [some (jR v0), some (jR v1), some (jI v2), some (jI v3)] [] h u (qV Q) := by
  unfold F_X11_start_51 at H
  refine T_iload_n (pc := 51) dX11_start_51 rfl rfl ?_
  refine T_iload_n (pc := 52) dX11_start_52 rfl rfl ?_
  refine T_icmp_ge (pc := 53) (tgt := 68) dX11_start_53 (by decide) (fun hc => ?_) (fun hc => ?_)
  · rw [if_pos hc] at H
    exact T_return (pc := 68) rfl dX11_start_68 H
  · rw [if_neg hc] at H
    refine T_aload_n (pc := 56) dX11_start_56 rfl rfl ?_
    refine T_aload_n (pc := 57) dX11_start_57 rfl rfl ?_
    refine T_iload_n (pc := 58) dX11_start_58 rfl rfl ?_
    obtain ⟨H0, H⟩ := H
    refine T_iV (pc := 59) (ci := 10) (av := [jR v1, jI v3]) (rest := []) (o := v0) dX11_start_59 mf_X11_addConstant c_3_44 c_3_46 pr_X11_addConstant rfl rfl (Nat.le_of_ble_eq_true rfl) rfl H0 (iV_k (iV_mono (fun h u H => ?_) H))
    refine T_iinc (pc := 62) (v := v3 + 1) (ls2 := [some (jR v0), some (jR v1), some (jI v2), some (jI (v3 + 1))]) dX11_start_62 rfl rfl (Nat.le_of_ble_eq_true rfl) rfl ?_
    refine T_goto (pc := 65) (tgt := 51) dX11_start_65 (by decide) ?_
    exact T.forget H ⟨rfl, rfl, rfl, rfl, trivial⟩
theorem I_X11_start {d : Nat} {v0 : Option Nm} {v1 : Option Nm} {h : MH} {u : Nat} {K : MH → Nat → Prop} (u1 : Nat) (hu : u1 ≤ u) (H : F_X11_start d v0 v1 h u1 (fun h2 => K h2 (u - u1))) : iV (d + 1) u_X11_start [jR v0, jR v1] h u K := inv.of u1 hu (Ct.of (by decide +kernel) rfl (Nat.le_of_ble_eq_true rfl) rfl (E_X11_start H))
theorem dX11_addConstant_0 : decode cX11_addConstant 0 = .ok (.aload_n 1, 1) := by decide +kernel
theorem dX11_addConstant_1 : decode cX11_addConstant 1 = .ok (.invokevirtual 165, 3) := by decide +kernel
theorem dX11_addConstant_4 : decode cX11_addConstant 4 = .ok (.astore_n 3, 1) := by decide +kernel
theorem dX11_addConstant_5 : decode cX11_addConstant 5 = .ok (.aload_n 3, 1) := by decide +kernel
theorem dX11_addConstant_6 : decode cX11_addConstant 6 = .ok (.getfield 249, 3) := by decide +kernel
theorem dX11_addConstant_9 : decode cX11_addConstant 9 = .ok (.iload_n 2, 1) := by decide +kernel
theorem dX11_addConstant_10 : decode cX11_addConstant 10 = .ok (.aload_n 0, 1) := by decide +kernel
theorem dX11_addConstant_11 : decode cX11_addConstant 11 = .ok (.getfield 12, 3) := by decide +kernel
theorem dX11_addConstant_14 : decode cX11_addConstant 14 = .ok (.new 253, 3) := by decide +kernel
theorem dX11_addConstant_17 : decode cX11_addConstant 17 = .ok (.dup, 1) := by decide +kernel
theorem dX11_addConstant_18 : decode cX11_addConstant 18 = .ok (.aload_n 0, 1) := by decide +kernel
theorem dX11_addConstant_19 : decode cX11_addConstant 19 = .ok (.getfield 12, 3) := by decide +kernel
theorem dX11_addConstant_22 : decode cX11_addConstant 22 = .ok (.getfield 332, 3) := by decide +kernel
theorem dX11_addConstant_25 : decode cX11_addConstant 25 = .ok (.aload_n 1, 1) := by decide +kernel
theorem dX11_addConstant_26 : decode cX11_addConstant 26 = .ok (.aload_n 3, 1) := by decide +kernel
theorem dX11_addConstant_27 : decode cX11_addConstant 27 = .ok (.getfield 369, 3) := by decide +kernel
theorem dX11_addConstant_30 : decode cX11_addConstant 30 = .ok (.iload_n 2, 1) := by decide +kernel
theorem dX11_addConstant_31 : decode cX11_addConstant 31 = .ok (.iaload, 1) := by decide +kernel
theorem dX11_addConstant_32 : decode cX11_addConstant 32 = .ok (.iconst 0, 1) := by decide +kernel
theorem dX11_addConstant_33 : decode cX11_addConstant 33 = .ok (.newarray .long, 2) := by decide +kernel
theorem dX11_addConstant_35 : decode cX11_addConstant 35 = .ok (.iconst 1, 1) := by decide +kernel
theorem dX11_addConstant_36 : decode cX11_addConstant 36 = .ok (.iconst 1, 1) := by decide +kernel
theorem dX11_addConstant_37 : decode cX11_addConstant 37 = .ok (.invokespecial 372, 3) := by decide +kernel
theorem dX11_addConstant_40 : decode cX11_addConstant 40 = .ok (.invokevirtual 375, 3) := by decide +kernel
theorem dX11_addConstant_43 : decode cX11_addConstant 43 = .ok (.iastore, 1) := by decide +kernel
theorem dX11_addConstant_44 : decode cX11_addConstant 44 = .ok (.return_, 1) := by decide +kernel
def F_X11_addConstant (d : Nat) (v0 : Option Nm) (v1 : Option Nm) (v2 : Int32) (h : MH) (u : Nat) (Q : MH → Prop) : Prop :=
  rc h v1 3 ∧ iR d u_X3_newest [jR v1] h u fun x1 h u =>
  gR h x1 2 3 fun x2 =>
  gR h v0 10 0 fun x3 =>
  nO h u 9 [jI 0, jR none, jR none, jI 0, jI 0, jR none, jI 0, jI 0] fun x4 h u =>
  gR h v0 10 0 fun x5 =>
  gI h x5 6 3 fun x6 =>
  gR h x1 2 1 fun x7 =>
  aI .int h x7 v2 fun x8 =>
  nA .long h u 0 fun x9 h u =>
  iV d u_X10_init [jR (some x4), jI x6, jR v1, jI x8, jR (some x9), jI 1, jI 1] h u fun h u =>
  rc h x3 6 ∧ iI d u_X7_addValue [jR x3, jR (some x4)] h u fun x11 h u =>
  sV .int h x2 v2 (jI x11) fun h =>
  Q h
set_option maxRecDepth 20000 in
theorem E_X11_addConstant {d : Nat} {v0 : Option Nm} {v1 : Option Nm} {v2 : Int32} {h : MH} {u : Nat} {Q : MH → Prop} (H : F_X11_addConstant d v0 v1 v2 h u Q) : T u_X11_addConstant (d + 1) 0 [some (jR v0), some (jR v1), some (jI v2), none] [] h u (qV Q) := by
  unfold F_X11_addConstant at H
  refine T_aload_n (pc := 0) dX11_addConstant_0 rfl rfl ?_
  obtain ⟨H0, H⟩ := H
  refine T_iV (pc := 1) (ci := 3) (av := []) (rest := []) (o := v1) dX11_addConstant_1 mf_X3_newest c_2_213 c_2_214 c_2_215 rfl rfl (Nat.le_of_ble_eq_true rfl) rfl H0 (iR_k (iR_mono (fun x1 h u H => ?_) H))
  refine T_astore_n (pc := 4) (ls2 := [some (jR v0), some (jR v1), some (jI v2), some (jR x1)]) dX11_addConstant_4 rfl (Nat.le_of_ble_eq_true rfl) rfl ?_
  refine T_aload_n (pc := 5) dX11_addConstant_5 rfl rfl ?_
  refine T_gR (pc := 6) fa_X11_249 dX11_addConstant_6 (gR_mono (fun x2 H => ?_) H)
  refine T_iload_n (pc := 9) dX11_addConstant_9 rfl rfl ?_
  refine T_aload_n (pc := 10) dX11_addConstant_10 rfl rfl ?_
  refine T_gR (pc := 11) fa_X11_12 dX11_addConstant_11 (gR_mono (fun x3 H => ?_) H)
  refine T_nO (pc := 14) nf_X11_253 dX11_addConstant_14 (nO_mono (fun x4 h u H => ?_) H)
  refine T_dup (pc := 17) rfl dX11_addConstant_17 ?_
  refine T_aload_n (pc := 18) dX11_addConstant_18 rfl rfl ?_
  refine T_gR (pc := 19) fa_X11_12 dX11_addConstant_19 (gR_mono (fun x5 H => ?_) H)
  refine T_gI (pc := 22) fa_X11_332 dX11_addConstant_22 (gI_mono (fun x6 H => ?_) H)
  refine T_aload_n (pc := 25) dX11_addConstant_25 rfl rfl ?_
  refine T_aload_n (pc := 26) dX11_addConstant_26 rfl rfl ?_
  refine T_gR (pc := 27) fa_X11_369 dX11_addConstant_27 (gR_mono (fun x7 H => ?_) H)
  refine T_iload_n (pc := 30) dX11_addConstant_30 rfl rfl ?_
  refine T_aI (pc := 31) dX11_addConstant_31 (aI_mono (fun x8 H => ?_) H)
  refine T_iconst (pc := 32) (v := 0) dX11_addConstant_32 (by decide) ?_
  refine T_nA (pc := 33) dX11_addConstant_33 rfl (by decide) c_1_66 (nA_mono (fun x9 h u H => ?_) H)
  refine T_iconst (pc := 35) (v := 1) dX11_addConstant_35 (by decide) ?_
  refine T_iconst (pc := 36) (v := 1) dX11_addConstant_36 (by decide) ?_
  refine T_invI (pc := 37) (av := [jI x6, jR v1, jI x8, jR (some x9), jI 1, jI 1]) (rest := [jR (some x4), jR x3, jI v2, jR x2]) dX11_addConstant_37 mf_X10_init rfl rfl c_3_50 c_3_51 rfl (Nat.le_of_ble_eq_true rfl) rfl (iV_k (iV_mono (fun h u H => ?_) H))
  obtain ⟨H0, H⟩ := H
  refine T_iV (pc := 40) (ci := 6) (av := [jR (some x4)]) (rest := [jI v2, jR x2]) (o := x3) dX11_addConstant_40 mf_X7_addValue c_3_102 c_3_103 c_3_104 rfl rfl (Nat.le_of_ble_eq_true rfl) rfl H0 (iI_k (iI_mono (fun x11 h u H => ?_) H))
  refine T_sI (pc := 43) dX11_addConstant_43 (sV_mono (fun h H => ?_) H)
  exact T_return (pc := 44) rfl dX11_addConstant_44 H
theorem I_X11_addConstant {d : Nat} {v0 : Option Nm} {v1 : Option Nm} {v2 : Int32} {h : MH} {u : Nat} {K : MH → Nat → Prop} (u1 : Nat) (hu : u1 ≤ u) (H : F_X11_addConstant d v0 v1 v2 h u1 (fun h2 => K h2 (u - u1))) : iV (d + 1) u_X11_addConstant [jR v0, jR v1, jI v2] h u K := inv.of u1 hu (Ct.of (by decide +kernel) rfl (Nat.le_of_ble_eq_true rfl) rfl (E_X11_addConstant H))
theorem dX11_finish_0 : decode cX11_finish 0 = .ok (.aload_n 1, 1) := by decide +kernel
theorem dX11_finish_1 : decode cX11_finish 1 = .ok (.invokevirtual 165, 3) := by decide +kernel
theorem dX11_finish_4 : decode cX11_finish 4 = .ok (.astore_n 2, 1) := by decide +kernel
theorem dX11_finish_5 : decode cX11_finish 5 = .ok (.aload_n 0, 1) := by decide +kernel
theorem dX11_finish_6 : decode cX11_finish 6 = .ok (.getfield 12, 3) := by decide +kernel
theorem dX11_finish_9 : decode cX11_finish 9 = .ok (.aload_n 0, 1) := by decide +kernel
theorem dX11_finish_10 : decode cX11_finish 10 = .ok (.getfield 30, 3) := by decide +kernel
theorem dX11_finish_13 : decode cX11_finish 13 = .ok (.aload_n 2, 1) := by decide +kernel
theorem dX11_finish_14 : decode cX11_finish 14 = .ok (.aload_n 1, 1) := by decide +kernel
theorem dX11_finish_15 : decode cX11_finish 15 = .ok (.getfield 378, 3) := by decide +kernel
theorem dX11_finish_18 : decode cX11_finish 18 = .ok (.invokevirtual 381, 3) := by decide +kernel
theorem dX11_finish_21 : decode cX11_finish 21 = .ok (.invokevirtual 68, 3) := by decide +kernel
theorem dX11_finish_24 : decode cX11_finish 24 = .ok (.ifCond .ne 6, 3) := by decide +kernel
theorem dX11_finish_27 : decode cX11_finish 27 = .ok (.bipush (-4), 2) := by decide +kernel
theorem dX11_finish_29 : decode cX11_finish 29 = .ok (.ireturn, 1) := by decide +kernel
theorem dX11_finish_30 : decode cX11_finish 30 = .ok (.aload_n 0, 1) := by decide +kernel
theorem dX11_finish_31 : decode cX11_finish 31 = .ok (.getfield 30, 3) := by decide +kernel
theorem dX11_finish_34 : decode cX11_finish 34 = .ok (.aload_n 2, 1) := by decide +kernel
theorem dX11_finish_35 : decode cX11_finish 35 = .ok (.aload_n 1, 1) := by decide +kernel
theorem dX11_finish_36 : decode cX11_finish 36 = .ok (.getfield 378, 3) := by decide +kernel
theorem dX11_finish_39 : decode cX11_finish 39 = .ok (.invokevirtual 385, 3) := by decide +kernel
theorem dX11_finish_42 : decode cX11_finish 42 = .ok (.ifCond .ne 9, 3) := by decide +kernel
theorem dX11_finish_45 : decode cX11_finish 45 = .ok (.aload_n 0, 1) := by decide +kernel
theorem dX11_finish_46 : decode cX11_finish 46 = .ok (.iconst 5, 1) := by decide +kernel
theorem dX11_finish_47 : decode cX11_finish 47 = .ok (.invokevirtual 72, 3) := by decide +kernel
theorem dX11_finish_50 : decode cX11_finish 50 = .ok (.ireturn, 1) := by decide +kernel
theorem dX11_finish_51 : decode cX11_finish 51 = .ok (.aload_n 0, 1) := by decide +kernel
theorem dX11_finish_52 : decode cX11_finish 52 = .ok (.getfield 30, 3) := by decide +kernel
theorem dX11_finish_55 : decode cX11_finish 55 = .ok (.aload_n 2, 1) := by decide +kernel
theorem dX11_finish_56 : decode cX11_finish 56 = .ok (.invokevirtual 389, 3) := by decide +kernel
theorem dX11_finish_59 : decode cX11_finish 59 = .ok (.aload_n 0, 1) := by decide +kernel
theorem dX11_finish_60 : decode cX11_finish 60 = .ok (.getfield 30, 3) := by decide +kernel
theorem dX11_finish_63 : decode cX11_finish 63 = .ok (.getfield 393, 3) := by decide +kernel
theorem dX11_finish_66 : decode cX11_finish 66 = .ok (.sipush 300, 3) := by decide +kernel
theorem dX11_finish_69 : decode cX11_finish 69 = .ok (.if_icmp .gt 15, 3) := by decide +kernel
theorem dX11_finish_72 : decode cX11_finish 72 = .ok (.aload_n 0, 1) := by decide +kernel
theorem dX11_finish_73 : decode cX11_finish 73 = .ok (.getfield 30, 3) := by decide +kernel
theorem dX11_finish_76 : decode cX11_finish 76 = .ok (.getfield 394, 3) := by decide +kernel
theorem dX11_finish_79 : decode cX11_finish 79 = .ok (.bipush 8, 2) := by decide +kernel
theorem dX11_finish_81 : decode cX11_finish 81 = .ok (.if_icmp .le 6, 3) := by decide +kernel
theorem dX11_finish_84 : decode cX11_finish 84 = .ok (.bipush (-4), 2) := by decide +kernel
theorem dX11_finish_86 : decode cX11_finish 86 = .ok (.ireturn, 1) := by decide +kernel
theorem dX11_finish_87 : decode cX11_finish 87 = .ok (.aload_n 0, 1) := by decide +kernel
theorem dX11_finish_88 : decode cX11_finish 88 = .ok (.getfield 30, 3) := by decide +kernel
theorem dX11_finish_91 : decode cX11_finish 91 = .ok (.aload_n 2, 1) := by decide +kernel
theorem dX11_finish_92 : decode cX11_finish 92 = .ok (.aload_n 1, 1) := by decide +kernel
theorem dX11_finish_93 : decode cX11_finish 93 = .ok (.getfield 378, 3) := by decide +kernel
theorem dX11_finish_96 : decode cX11_finish 96 = .ok (.invokevirtual 395, 3) := by decide +kernel
theorem dX11_finish_99 : decode cX11_finish 99 = .ok (.astore_n 3, 1) := by decide +kernel
theorem dX11_finish_100 : decode cX11_finish 100 = .ok (.aload_n 0, 1) := by decide +kernel
theorem dX11_finish_101 : decode cX11_finish 101 = .ok (.getfield 12, 3) := by decide +kernel
theorem dX11_finish_104 : decode cX11_finish 104 = .ok (.new 253, 3) := by decide +kernel
theorem dX11_finish_107 : decode cX11_finish 107 = .ok (.dup, 1) := by decide +kernel
theorem dX11_finish_108 : decode cX11_finish 108 = .ok (.aload_n 0, 1) := by decide +kernel
theorem dX11_finish_109 : decode cX11_finish 109 = .ok (.getfield 12, 3) := by decide +kernel
theorem dX11_finish_112 : decode cX11_finish 112 = .ok (.getfield 332, 3) := by decide +kernel
theorem dX11_finish_115 : decode cX11_finish 115 = .ok (.aload_n 1, 1) := by decide +kernel
theorem dX11_finish_116 : decode cX11_finish 116 = .ok (.iconst 0, 1) := by decide +kernel
theorem dX11_finish_117 : decode cX11_finish 117 = .ok (.aload_n 3, 1) := by decide +kernel
theorem dX11_finish_118 : decode cX11_finish 118 = .ok (.aload_n 0, 1) := by decide +kernel
theorem dX11_finish_119 : decode cX11_finish 119 = .ok (.getfield 30, 3) := by decide +kernel
theorem dX11_finish_122 : decode cX11_finish 122 = .ok (.getfield 393, 3) := by decide +kernel
theorem dX11_finish_125 : decode cX11_finish 125 = .ok (.aload_n 0, 1) := by decide +kernel
theorem dX11_finish_126 : decode cX11_finish 126 = .ok (.getfield 30, 3) := by decide +kernel
theorem dX11_finish_129 : decode cX11_finish 129 = .ok (.getfield 394, 3) := by decide +kernel
theorem dX11_finish_132 : decode cX11_finish 132 = .ok (.invokespecial 372, 3) := by decide +kernel
theorem dX11_finish_135 : decode cX11_finish 135 = .ok (.invokevirtual 375, 3) := by decide +kernel
theorem dX11_finish_138 : decode cX11_finish 138 = .ok (.ireturn, 1) := by decide +kernel
def F_X11_finish (d : Nat) (v0 : Option Nm) (v1 : Option Nm) (h : MH) (u : Nat) (Q : Int32 → MH → Prop) : Prop :=
  rc h v1 3 ∧ iR d u_X3_newest [jR v1] h u fun x1 h u =>
  gR h v0 10 0 fun x2 =>
  gR h v0 10 2 fun x3 =>
  gI h v1 3 2 fun x4 =>
  rc h x3 1 ∧ iI d u_X1_countTwins [jR x3, jR x1, jI x4] h u fun x5 h u =>
  rc h x2 6 ∧ iI d u_X7_hasRoomForRows [jR x2, jI x5] h u fun x6 h u =>
  if x6 = 0 then
    Q (-4) h
  else
    gR h v0 10 2 fun x7 =>
    gI h v1 3 2 fun x8 =>
    rc h x7 1 ∧ iI d u_X1_obeys [jR x7, jR x1, jI x8] h u fun x9 h u =>
    if x9 = 0 then
      rc h v0 10 ∧ iI d u_X11_failed [jR v0, jI 5] h u fun x29 h u =>
      Q x29 h
    else
      gR h v0 10 2 fun x10 =>
      rc h x10 1 ∧ iV d u_X1_measure [jR x10, jR x1] h u fun h u =>
      gR h v0 10 2 fun x12 =>
      gI h x12 1 2 fun x13 =>
      if 300 < x13 then
        Q (-4) h
      else
        gR h v0 10 2 fun x14 =>
        gI h x14 1 3 fun x15 =>
        if x15 ≤ 8 then
          gR h v0 10 2 fun x16 =>
          gI h v1 3 2 fun x17 =>
          rc h x16 1 ∧ iR d u_X1_settle [jR x16, jR x1, jI x17] h u fun x18 h u =>
          gR h v0 10 0 fun x19 =>
          nO h u 9 [jI 0, jR none, jR none, jI 0, jI 0, jR none, jI 0, jI 0] fun x20 h u =>
          gR h v0 10 0 fun x21 =>
          gI h x21 6 3 fun x22 =>
          gR h v0 10 2 fun x23 =>
          gI h x23 1 2 fun x24 =>
          gR h v0 10 2 fun x25 =>
          gI h x25 1 3 fun x26 =>
          iV d u_X10_init [jR (some x20), jI x22, jR v1, jI 0, jR x18, jI x24, jI x26] h u fun h u =>
          rc h x19 6 ∧ iI d u_X7_addValue [jR x19, jR (some x20)] h u fun x28 h u =>
          Q x28 h
        else
          Q (-4) h
set_option maxRecDepth 20000 in
theorem E_X11_finish {d : Nat} {v0 : Option Nm} {v1 : Option Nm} {h : MH} {u : Nat} {Q : Int32 → MH → Prop} (H : F_X11_finish d v0 v1 h u Q) : T u_X11_finish (d + 1) 0 [some (jR v0), some (jR v1), none, none] [] h u (qI Q) := by
  unfold F_X11_finish at H
  refine T_aload_n (pc := 0) dX11_finish_0 rfl rfl ?_
  obtain ⟨H0, H⟩ := H
  refine T_iV (pc := 1) (ci := 3) (av := []) (rest := []) (o := v1) dX11_finish_1 mf_X3_newest c_2_213 c_2_214 c_2_215 rfl rfl (Nat.le_of_ble_eq_true rfl) rfl H0 (iR_k (iR_mono (fun x1 h u H => ?_) H))
  refine T_astore_n (pc := 4) (ls2 := [some (jR v0), some (jR v1), some (jR x1), none]) dX11_finish_4 rfl (Nat.le_of_ble_eq_true rfl) rfl ?_
  refine T_aload_n (pc := 5) dX11_finish_5 rfl rfl ?_
  refine T_gR (pc := 6) fa_X11_12 dX11_finish_6 (gR_mono (fun x2 H => ?_) H)
  refine T_aload_n (pc := 9) dX11_finish_9 rfl rfl ?_
  refine T_gR (pc := 10) fa_X11_30 dX11_finish_10 (gR_mono (fun x3 H => ?_) H)
  refine T_aload_n (pc := 13) dX11_finish_13 rfl rfl ?_
  refine T_aload_n (pc := 14) dX11_finish_14 rfl rfl ?_
  refine T_gI (pc := 15) fa_X11_378 dX11_finish_15 (gI_mono (fun x4 H => ?_) H)
  obtain ⟨H0, H⟩ := H
  refine T_iV (pc := 18) (ci := 1) (av := [jR x1, jI x4]) (rest := [jR x2]) (o := x3) dX11_finish_18 mf_X1_countTwins c_3_165 c_3_166 c_3_167 rfl rfl (Nat.le_of_ble_eq_true rfl) rfl H0 (iI_k (iI_mono (fun x5 h u H => ?_) H))
  obtain ⟨H0, H⟩ := H
  refine T_iV (pc := 21) (ci := 6) (av := [jI x5]) (rest := []) (o := x2) dX11_finish_21 mf_X7_hasRoomForRows c_1_192 c_1_193 c_1_194 rfl rfl (Nat.le_of_ble_eq_true rfl) rfl H0 (iI_k (iI_mono (fun x6 h u H => ?_) H))
  refine T_if_ne (pc := 24) (tgt := 30) dX11_finish_24 (by decide) (fun hc => ?_) (fun hc => ?_)
  · rw [if_neg hc] at H
    refine T_aload_n (pc := 30) dX11_finish_30 rfl rfl ?_
    refine T_gR (pc := 31) fa_X11_30 dX11_finish_31 (gR_mono (fun x7 H => ?_) H)
    refine T_aload_n (pc := 34) dX11_finish_34 rfl rfl ?_
    refine T_aload_n (pc := 35) dX11_finish_35 rfl rfl ?_
    refine T_gI (pc := 36) fa_X11_378 dX11_finish_36 (gI_mono (fun x8 H => ?_) H)
    obtain ⟨H0, H⟩ := H
    refine T_iV (pc := 39) (ci := 1) (av := [jR x1, jI x8]) (rest := []) (o := x7) dX11_finish_39 mf_X1_obeys c_3_177 c_3_178 c_3_179 rfl rfl (Nat.le_of_ble_eq_true rfl) rfl H0 (iI_k (iI_mono (fun x9 h u H => ?_) H))
    refine T_if_ne (pc := 42) (tgt := 51) dX11_finish_42 (by decide) (fun hc => ?_) (fun hc => ?_)
    · rw [if_neg hc] at H
      refine T_aload_n (pc := 51) dX11_finish_51 rfl rfl ?_
      refine T_gR (pc := 52) fa_X11_30 dX11_finish_52 (gR_mono (fun x10 H => ?_) H)
      refine T_aload_n (pc := 55) dX11_finish_55 rfl rfl ?_
      obtain ⟨H0, H⟩ := H
      refine T_iV (pc := 56) (ci := 1) (av := [jR x1]) (rest := []) (o := x10) dX11_finish_56 mf_X1_measure c_3_199 c_3_200 c_3_201 rfl rfl (Nat.le_of_ble_eq_true rfl) rfl H0 (iV_k (iV_mono (fun h u H => ?_) H))
      refine T_aload_n (pc := 59) dX11_finish_59 rfl rfl ?_
      refine T_gR (pc := 60) fa_X11_30 dX11_finish_60 (gR_mono (fun x12 H => ?_) H)
      refine T_gI (pc := 63) fa_X11_393 dX11_finish_63 (gI_mono (fun x13 H => ?_) H)
      refine T_sipush (pc := 66) (v := 300) dX11_finish_66 (by decide) ?_
      refine T_icmp_gt (pc := 69) (tgt := 84) dX11_finish_69 (by decide) (fun hc => ?_) (fun hc => ?_)
      · rw [if_pos hc] at H
        refine T_bipush (pc := 84) (v := (-4)) dX11_finish_84 (by decide) ?_
        exact T_ireturn (pc := 86) rfl rfl dX11_finish_86 H
      · rw [if_neg hc] at H
        refine T_aload_n (pc := 72) dX11_finish_72 rfl rfl ?_
        refine T_gR (pc := 73) fa_X11_30 dX11_finish_73 (gR_mono (fun x14 H => ?_) H)
        refine T_gI (pc := 76) fa_X11_394 dX11_finish_76 (gI_mono (fun x15 H => ?_) H)
        refine T_bipush (pc := 79) (v := 8) dX11_finish_79 (by decide) ?_
        refine T_icmp_le (pc := 81) (tgt := 87) dX11_finish_81 (by decide) (fun hc => ?_) (fun hc => ?_)
        · rw [if_pos hc] at H
          refine T_aload_n (pc := 87) dX11_finish_87 rfl rfl ?_
          refine T_gR (pc := 88) fa_X11_30 dX11_finish_88 (gR_mono (fun x16 H => ?_) H)
          refine T_aload_n (pc := 91) dX11_finish_91 rfl rfl ?_
          refine T_aload_n (pc := 92) dX11_finish_92 rfl rfl ?_
          refine T_gI (pc := 93) fa_X11_378 dX11_finish_93 (gI_mono (fun x17 H => ?_) H)
          obtain ⟨H0, H⟩ := H
          refine T_iV (pc := 96) (ci := 1) (av := [jR x1, jI x17]) (rest := []) (o := x16) dX11_finish_96 mf_X1_settle c_3_211 c_3_212 c_3_213 rfl rfl (Nat.le_of_ble_eq_true rfl) rfl H0 (iR_k (iR_mono (fun x18 h u H => ?_) H))
          refine T_astore_n (pc := 99) (ls2 := [some (jR v0), some (jR v1), some (jR x1), some (jR x18)]) dX11_finish_99 rfl (Nat.le_of_ble_eq_true rfl) rfl ?_
          refine T_aload_n (pc := 100) dX11_finish_100 rfl rfl ?_
          refine T_gR (pc := 101) fa_X11_12 dX11_finish_101 (gR_mono (fun x19 H => ?_) H)
          refine T_nO (pc := 104) nf_X11_253 dX11_finish_104 (nO_mono (fun x20 h u H => ?_) H)
          refine T_dup (pc := 107) rfl dX11_finish_107 ?_
          refine T_aload_n (pc := 108) dX11_finish_108 rfl rfl ?_
          refine T_gR (pc := 109) fa_X11_12 dX11_finish_109 (gR_mono (fun x21 H => ?_) H)
          refine T_gI (pc := 112) fa_X11_332 dX11_finish_112 (gI_mono (fun x22 H => ?_) H)
          refine T_aload_n (pc := 115) dX11_finish_115 rfl rfl ?_
          refine T_iconst (pc := 116) (v := 0) dX11_finish_116 (by decide) ?_
          refine T_aload_n (pc := 117) dX11_finish_117 rfl rfl ?_
          refine T_aload_n (pc := 118) dX11_finish_118 rfl rfl ?_
          refine T_gR (pc := 119) fa_X11_30 dX11_finish_119 (gR_mono (fun x23 H => ?_) H)
          refine T_gI (pc := 122) fa_X11_393 dX11_finish_122 (gI_mono (fun x24 H => ?_) H)
          refine T_aload_n (pc := 125) dX11_finish_125 rfl rfl ?_
          refine T_gR (pc := 126) fa_X11_30 dX11_finish_126 (gR_mono (fun x25 H => ?_) H)
          refine T_gI (pc := 129) fa_X11_394 dX11_finish_129 (gI_mono (fun x26 H => ?_) H)
          refine T_invI (pc := 132) (av := [jI x22, jR v1, jI 0, jR x18, jI x24, jI x26]) (rest := [jR (some x20), jR x19]) dX11_finish_132 mf_X10_init rfl rfl c_3_50 c_3_51 rfl (Nat.le_of_ble_eq_true rfl) rfl (iV_k (iV_mono (fun h u H => ?_) H))
          obtain ⟨H0, H⟩ := H
          refine T_iV (pc := 135) (ci := 6) (av := [jR (some x20)]) (rest := []) (o := x19) dX11_finish_135 mf_X7_addValue c_3_102 c_3_103 c_3_104 rfl rfl (Nat.le_of_ble_eq_true rfl) rfl H0 (iI_k (iI_mono (fun x28 h u H => ?_) H))
          exact T_ireturn (pc := 138) rfl rfl dX11_finish_138 H
        · rw [if_neg hc] at H
          refine T_bipush (pc := 84) (v := (-4)) dX11_finish_84 (by decide) ?_
          exact T_ireturn (pc := 86) rfl rfl dX11_finish_86 H
    · rw [if_pos hc] at H
      refine T_aload_n (pc := 45) dX11_finish_45 rfl rfl ?_
      refine T_iconst (pc := 46) (v := 5) dX11_finish_46 (by decide) ?_
      obtain ⟨H0, H⟩ := H
      refine T_iV (pc := 47) (ci := 10) (av := [jI 5]) (rest := []) (o := v0) dX11_finish_47 mf_X11_failed c_1_196 c_1_198 pr_X11_failed rfl rfl (Nat.le_of_ble_eq_true rfl) rfl H0 (iI_k (iI_mono (fun x29 h u H => ?_) H))
      exact T_ireturn (pc := 50) rfl rfl dX11_finish_50 H
  · rw [if_pos hc] at H
    refine T_bipush (pc := 27) (v := (-4)) dX11_finish_27 (by decide) ?_
    exact T_ireturn (pc := 29) rfl rfl dX11_finish_29 H
theorem I_X11_finish {d : Nat} {v0 : Option Nm} {v1 : Option Nm} {h : MH} {u : Nat} {K : Int32 → MH → Nat → Prop} (u1 : Nat) (hu : u1 ≤ u) (H : F_X11_finish d v0 v1 h u1 (fun x h2 => K x h2 (u - u1))) : iI (d + 1) u_X11_finish [jR v0, jR v1] h u K := inv.of u1 hu (Ct.of (by decide +kernel) rfl (Nat.le_of_ble_eq_true rfl) rfl (E_X11_finish H))
theorem dX11_weigh_0 : decode cX11_weigh 0 = .ok (.aload_n 1, 1) := by decide +kernel
theorem dX11_weigh_1 : decode cX11_weigh 1 = .ok (.ifnonnull 5, 3) := by decide +kernel
theorem dX11_weigh_4 : decode cX11_weigh 4 = .ok (.iconst 0, 1) := by decide +kernel
theorem dX11_weigh_5 : decode cX11_weigh 5 = .ok (.ireturn, 1) := by decide +kernel
theorem dX11_weigh_6 : decode cX11_weigh 6 = .ok (.aload_n 1, 1) := by decide +kernel
theorem dX11_weigh_7 : decode cX11_weigh 7 = .ok (.getfield 252, 3) := by decide +kernel
theorem dX11_weigh_10 : decode cX11_weigh 10 = .ok (.getfield 192, 3) := by decide +kernel
theorem dX11_weigh_13 : decode cX11_weigh 13 = .ok (.ifCond .eq 11, 3) := by decide +kernel
theorem dX11_weigh_16 : decode cX11_weigh 16 = .ok (.aload_n 0, 1) := by decide +kernel
theorem dX11_weigh_17 : decode cX11_weigh 17 = .ok (.aload_n 1, 1) := by decide +kernel
theorem dX11_weigh_18 : decode cX11_weigh 18 = .ok (.invokevirtual 399, 3) := by decide +kernel
theorem dX11_weigh_21 : decode cX11_weigh 21 = .ok (.goto 8, 3) := by decide +kernel
theorem dX11_weigh_24 : decode cX11_weigh 24 = .ok (.aload_n 0, 1) := by decide +kernel
theorem dX11_weigh_25 : decode cX11_weigh 25 = .ok (.aload_n 1, 1) := by decide +kernel
theorem dX11_weigh_26 : decode cX11_weigh 26 = .ok (.invokevirtual 402, 3) := by decide +kernel
theorem dX11_weigh_29 : decode cX11_weigh 29 = .ok (.ireturn, 1) := by decide +kernel
def F_X11_weigh (d : Nat) (v0 : Option Nm) (v1 : Option Nm) (h : MH) (u : Nat) (Q : Int32 → MH → Prop) : Prop :=
  nl v1 (
    Q 0 h) (
    gR h v1 9 1 fun x1 =>
    gI h x1 3 1 fun x2 =>
    if x2 = 0 then
      rc h v0 10 ∧ iI d u_X11_weighRecord [jR v0, jR v1] h u fun x3 h u =>
      Q x3 h
    else
      rc h v0 10 ∧ iI d u_X11_weighConstant [jR v0, jR v1] h u fun x4 h u =>
      Q x4 h)
set_option maxRecDepth 20000 in
theorem E_X11_weigh {d : Nat} {v0 : Option Nm} {v1 : Option Nm} {h : MH} {u : Nat} {Q : Int32 → MH → Prop} (H : F_X11_weigh d v0 v1 h u Q) : T u_X11_weigh (d + 1) 0 [some (jR v0), some (jR v1)] [] h u (qI Q) := by
  unfold F_X11_weigh at H
  refine T_aload_n (pc := 0) dX11_weigh_0 rfl rfl ?_
  refine T_ifnonnull (pc := 1) (tgt := 6) dX11_weigh_1 (by decide) (fun ho => ?_) (fun n ho => ?_)
  · replace H := nl_n ho H
    refine T_iconst (pc := 4) (v := 0) dX11_weigh_4 (by decide) ?_
    exact T_ireturn (pc := 5) rfl rfl dX11_weigh_5 H
  · replace H := nl_s ho H
    refine T_aload_n (pc := 6) dX11_weigh_6 rfl rfl ?_
    refine T_gR (pc := 7) fa_X11_252 dX11_weigh_7 (gR_mono (fun x1 H => ?_) H)
    refine T_gI (pc := 10) fa_X11_192 dX11_weigh_10 (gI_mono (fun x2 H => ?_) H)
    refine T_if_eq (pc := 13) (tgt := 24) dX11_weigh_13 (by decide) (fun hc => ?_) (fun hc => ?_)
    · rw [if_pos hc] at H
      refine T_aload_n (pc := 24) dX11_weigh_24 rfl rfl ?_
      refine T_aload_n (pc := 25) dX11_weigh_25 rfl rfl ?_
      obtain ⟨H0, H⟩ := H
      refine T_iV (pc := 26) (ci := 10) (av := [jR v1]) (rest := []) (o := v0) dX11_weigh_26 mf_X11_weighRecord c_4_101 c_4_103 pr_X11_weighRecord rfl rfl (Nat.le_of_ble_eq_true rfl) rfl H0 (iI_k (iI_mono (fun x3 h u H => ?_) H))
      exact T_ireturn (pc := 29) rfl rfl dX11_weigh_29 H
    · rw [if_neg hc] at H
      refine T_aload_n (pc := 16) dX11_weigh_16 rfl rfl ?_
      refine T_aload_n (pc := 17) dX11_weigh_17 rfl rfl ?_
      obtain ⟨H0, H⟩ := H
      refine T_iV (pc := 18) (ci := 10) (av := [jR v1]) (rest := []) (o := v0) dX11_weigh_18 mf_X11_weighConstant c_4_85 c_4_87 pr_X11_weighConstant rfl rfl (Nat.le_of_ble_eq_true rfl) rfl H0 (iI_k (iI_mono (fun x4 h u H => ?_) H))
      refine T_goto (pc := 21) (tgt := 29) dX11_weigh_21 (by decide) ?_
      exact T_ireturn (pc := 29) rfl rfl dX11_weigh_29 H
theorem I_X11_weigh {d : Nat} {v0 : Option Nm} {v1 : Option Nm} {h : MH} {u : Nat} {K : Int32 → MH → Nat → Prop} (u1 : Nat) (hu : u1 ≤ u) (H : F_X11_weigh d v0 v1 h u1 (fun x h2 => K x h2 (u - u1))) : iI (d + 1) u_X11_weigh [jR v0, jR v1] h u K := inv.of u1 hu (Ct.of (by decide +kernel) rfl (Nat.le_of_ble_eq_true rfl) rfl (E_X11_weigh H))
theorem dX11_weighRecord_0 : decode cX11_weighRecord 0 = .ok (.aload_n 0, 1) := by decide +kernel
theorem dX11_weighRecord_1 : decode cX11_weighRecord 1 = .ok (.iconst 1, 1) := by decide +kernel
theorem dX11_weighRecord_2 : decode cX11_weighRecord 2 = .ok (.invokevirtual 366, 3) := by decide +kernel
theorem dX11_weighRecord_5 : decode cX11_weighRecord 5 = .ok (.aload_n 0, 1) := by decide +kernel
theorem dX11_weighRecord_6 : decode cX11_weighRecord 6 = .ok (.invokevirtual 405, 3) := by decide +kernel
theorem dX11_weighRecord_9 : decode cX11_weighRecord 9 = .ok (.istore_n 2, 1) := by decide +kernel
theorem dX11_weighRecord_10 : decode cX11_weighRecord 10 = .ok (.iconst 0, 1) := by decide +kernel
theorem dX11_weighRecord_11 : decode cX11_weighRecord 11 = .ok (.istore_n 3, 1) := by decide +kernel
theorem dX11_weighRecord_12 : decode cX11_weighRecord 12 = .ok (.iload_n 3, 1) := by decide +kernel
theorem dX11_weighRecord_13 : decode cX11_weighRecord 13 = .ok (.aload_n 1, 1) := by decide +kernel
theorem dX11_weighRecord_14 : decode cX11_weighRecord 14 = .ok (.getfield 284, 3) := by decide +kernel
theorem dX11_weighRecord_17 : decode cX11_weighRecord 17 = .ok (.arraylength, 1) := by decide +kernel
theorem dX11_weighRecord_18 : decode cX11_weighRecord 18 = .ok (.if_icmp .ge 93, 3) := by decide +kernel
theorem dX11_weighRecord_21 : decode cX11_weighRecord 21 = .ok (.aload_n 1, 1) := by decide +kernel
theorem dX11_weighRecord_22 : decode cX11_weighRecord 22 = .ok (.getfield 264, 3) := by decide +kernel
theorem dX11_weighRecord_25 : decode cX11_weighRecord 25 = .ok (.getfield 281, 3) := by decide +kernel
theorem dX11_weighRecord_28 : decode cX11_weighRecord 28 = .ok (.iload_n 3, 1) := by decide +kernel
theorem dX11_weighRecord_29 : decode cX11_weighRecord 29 = .ok (.iaload, 1) := by decide +kernel
theorem dX11_weighRecord_30 : decode cX11_weighRecord 30 = .ok (.bipush 8, 2) := by decide +kernel
theorem dX11_weighRecord_32 : decode cX11_weighRecord 32 = .ok (.if_icmp .ne 26, 3) := by decide +kernel
theorem dX11_weighRecord_35 : decode cX11_weighRecord 35 = .ok (.iload_n 2, 1) := by decide +kernel
theorem dX11_weighRecord_36 : decode cX11_weighRecord 36 = .ok (.aload_n 0, 1) := by decide +kernel
theorem dX11_weighRecord_37 : decode cX11_weighRecord 37 = .ok (.aload_n 0, 1) := by decide +kernel
theorem dX11_weighRecord_38 : decode cX11_weighRecord 38 = .ok (.getfield 12, 3) := by decide +kernel
theorem dX11_weighRecord_41 : decode cX11_weighRecord 41 = .ok (.aload_n 1, 1) := by decide +kernel
theorem dX11_weighRecord_42 : decode cX11_weighRecord 42 = .ok (.getfield 284, 3) := by decide +kernel
theorem dX11_weighRecord_45 : decode cX11_weighRecord 45 = .ok (.iload_n 3, 1) := by decide +kernel
theorem dX11_weighRecord_46 : decode cX11_weighRecord 46 = .ok (.laload, 1) := by decide +kernel
theorem dX11_weighRecord_47 : decode cX11_weighRecord 47 = .ok (.invokevirtual 118, 3) := by decide +kernel
theorem dX11_weighRecord_50 : decode cX11_weighRecord 50 = .ok (.invokevirtual 300, 3) := by decide +kernel
theorem dX11_weighRecord_53 : decode cX11_weighRecord 53 = .ok (.iadd, 1) := by decide +kernel
theorem dX11_weighRecord_54 : decode cX11_weighRecord 54 = .ok (.istore_n 2, 1) := by decide +kernel
theorem dX11_weighRecord_55 : decode cX11_weighRecord 55 = .ok (.goto 50, 3) := by decide +kernel
theorem dX11_weighRecord_58 : decode cX11_weighRecord 58 = .ok (.aload_n 1, 1) := by decide +kernel
theorem dX11_weighRecord_59 : decode cX11_weighRecord 59 = .ok (.getfield 264, 3) := by decide +kernel
theorem dX11_weighRecord_62 : decode cX11_weighRecord 62 = .ok (.getfield 281, 3) := by decide +kernel
theorem dX11_weighRecord_65 : decode cX11_weighRecord 65 = .ok (.iload_n 3, 1) := by decide +kernel
theorem dX11_weighRecord_66 : decode cX11_weighRecord 66 = .ok (.iaload, 1) := by decide +kernel
theorem dX11_weighRecord_67 : decode cX11_weighRecord 67 = .ok (.bipush 9, 2) := by decide +kernel
theorem dX11_weighRecord_69 : decode cX11_weighRecord 69 = .ok (.if_icmp .ne 36, 3) := by decide +kernel
theorem dX11_weighRecord_72 : decode cX11_weighRecord 72 = .ok (.aload_n 0, 1) := by decide +kernel
theorem dX11_weighRecord_73 : decode cX11_weighRecord 73 = .ok (.getfield 12, 3) := by decide +kernel
theorem dX11_weighRecord_76 : decode cX11_weighRecord 76 = .ok (.aload_n 1, 1) := by decide +kernel
theorem dX11_weighRecord_77 : decode cX11_weighRecord 77 = .ok (.getfield 284, 3) := by decide +kernel
theorem dX11_weighRecord_80 : decode cX11_weighRecord 80 = .ok (.iload_n 3, 1) := by decide +kernel
theorem dX11_weighRecord_81 : decode cX11_weighRecord 81 = .ok (.laload, 1) := by decide +kernel
theorem dX11_weighRecord_82 : decode cX11_weighRecord 82 = .ok (.invokevirtual 86, 3) := by decide +kernel
theorem dX11_weighRecord_85 : decode cX11_weighRecord 85 = .ok (.astore 4, 2) := by decide +kernel
theorem dX11_weighRecord_87 : decode cX11_weighRecord 87 = .ok (.iload_n 2, 1) := by decide +kernel
theorem dX11_weighRecord_88 : decode cX11_weighRecord 88 = .ok (.aload 4, 2) := by decide +kernel
theorem dX11_weighRecord_90 : decode cX11_weighRecord 90 = .ok (.ifnonnull 7, 3) := by decide +kernel
theorem dX11_weighRecord_93 : decode cX11_weighRecord 93 = .ok (.iconst 0, 1) := by decide +kernel
theorem dX11_weighRecord_94 : decode cX11_weighRecord 94 = .ok (.goto 9, 3) := by decide +kernel
theorem dX11_weighRecord_97 : decode cX11_weighRecord 97 = .ok (.aload 4, 2) := by decide +kernel
theorem dX11_weighRecord_99 : decode cX11_weighRecord 99 = .ok (.getfield 100, 3) := by decide +kernel
theorem dX11_weighRecord_102 : decode cX11_weighRecord 102 = .ok (.arraylength, 1) := by decide +kernel
theorem dX11_weighRecord_103 : decode cX11_weighRecord 103 = .ok (.iadd, 1) := by decide +kernel
theorem dX11_weighRecord_104 : decode cX11_weighRecord 104 = .ok (.istore_n 2, 1) := by decide +kernel
theorem dX11_weighRecord_105 : decode cX11_weighRecord 105 = .ok (.iinc 3 1, 3) := by decide +kernel
theorem dX11_weighRecord_108 : decode cX11_weighRecord 108 = .ok (.goto (-96), 3) := by decide +kernel
theorem dX11_weighRecord_111 : decode cX11_weighRecord 111 = .ok (.iload_n 2, 1) := by decide +kernel
theorem dX11_weighRecord_112 : decode cX11_weighRecord 112 = .ok (.ireturn, 1) := by decide +kernel
def L_X11_weighRecord_12 (d : Nat) (v0 : Option Nm) (v1 : Option Nm) (v2 : Int32) (v3 : Int32) (h : MH) (u : Nat) (Q : Int32 → MH → Prop) : Prop := T u_X11_weighRecord (d + 1) 12 [some (jR v0), some (jR v1), some (jI v2), some (jI v3), none] [] h u (qI Q)
def F_X11_weighRecord (d : Nat) (v0 : Option Nm) (v1 : Option Nm) (h : MH) (u : Nat) (Q : Int32 → MH → Prop) : Prop :=
  rc h v0 10 ∧ iV d u_X11_leaveTrace [jR v0, jI 1] h u fun h u =>
  rc h v0 10 ∧ iI d u_X11_weighLent [jR v0] h u fun x2 h u =>
  L_X11_weighRecord_12 d v0 v1 x2 0 h u Q
set_option maxRecDepth 20000 in
theorem E_X11_weighRecord {d : Nat} {v0 : Option Nm} {v1 : Option Nm} {h : MH} {u : Nat} {Q : Int32 → MH → Prop} (H : F_X11_weighRecord d v0 v1 h u Q) : T u_X11_weighRecord (d + 1) 0 [some (jR v0), some (jR v1), none, none, none] [] h u (qI Q) := by
  unfold F_X11_weighRecord at H
  refine T_aload_n (pc := 0) dX11_weighRecord_0 rfl rfl ?_
  refine T_iconst (pc := 1) (v := 1) dX11_weighRecord_1 (by decide) ?_
  obtain ⟨H0, H⟩ := H
  refine T_iV (pc := 2) (ci := 10) (av := [jI 1]) (rest := []) (o := v0) dX11_weighRecord_2 mf_X11_leaveTrace c_3_141 c_3_143 pr_X11_leaveTrace rfl rfl (Nat.le_of_ble_eq_true rfl) rfl H0 (iV_k (iV_mono (fun h u H => ?_) H))
  refine T_aload_n (pc := 5) dX11_weighRecord_5 rfl rfl ?_
  obtain ⟨H0, H⟩ := H
  refine T_iV (pc := 6) (ci := 10) (av := []) (rest := []) (o := v0) dX11_weighRecord_6 mf_X11_weighLent c_4_105 c_4_107 pr_X11_weighLent rfl rfl (Nat.le_of_ble_eq_true rfl) rfl H0 (iI_k (iI_mono (fun x2 h u H => ?_) H))
  refine T_istore_n (pc := 9) (ls2 := [some (jR v0), some (jR v1), some (jI x2), none, none]) dX11_weighRecord_9 rfl (Nat.le_of_ble_eq_true rfl) rfl ?_
  refine T_iconst (pc := 10) (v := 0) dX11_weighRecord_10 (by decide) ?_
  refine T_istore_n (pc := 11) (ls2 := [some (jR v0), some (jR v1), some (jI x2), some (jI 0), none]) dX11_weighRecord_11 rfl (Nat.le_of_ble_eq_true rfl) rfl ?_
  exact T.forget H ⟨rfl, rfl, rfl, rfl, trivial⟩
def F_X11_weighRecord_12 (d : Nat) (v0 : Option Nm) (v1 : Option Nm) (v2 : Int32) (v3 : Int32) (h : MH) (u : Nat) (Q : Int32 → MH → Prop) : Prop :=
  gR h v1 9 5 fun x1 =>
  aN h x1 fun x2 =>
  if x2 ≤ v3 then
    Q v2 h
  else
    gR h v1 9 2 fun x3 =>
    gR h x3 2 2 fun x4 =>
    aI .int h x4 v3 fun x5 =>
    if x5 = 8 then
      gR h v0 10 0 fun x15 =>
      gR h v1 9 5 fun x16 =>
      aL h x16 v3 fun x17 =>
      rc h x15 6 ∧ iR d u_X7_findValue [jR x15, jL x17] h u fun x18 h u =>
      rc h v0 10 ∧ iI d u_X11_weigh [jR v0, jR x18] h u fun x19 h u =>
      L_X11_weighRecord_12 d v0 v1 (v2 + x19) (v3 + 1) h u Q
    else
      gR h v1 9 2 fun x6 =>
      gR h x6 2 2 fun x7 =>
      aI .int h x7 v3 fun x8 =>
      if x8 = 9 then
        gR h v0 10 0 fun x9 =>
        gR h v1 9 5 fun x10 =>
        aL h x10 v3 fun x11 =>
        rc h x9 6 ∧ iR d u_X7_findRow [jR x9, jL x11] h u fun x12 h u =>
        nl x12 (
          L_X11_weighRecord_12 d v0 v1 (v2 + 0) (v3 + 1) h u Q) (
          gR h x12 4 2 fun x13 =>
          aN h x13 fun x14 =>
          L_X11_weighRecord_12 d v0 v1 (v2 + x14) (v3 + 1) h u Q)
      else
        L_X11_weighRecord_12 d v0 v1 v2 (v3 + 1) h u Q
set_option maxRecDepth 20000 in
theorem E_X11_weighRecord_12 {d : Nat} {v0 : Option Nm} {v1 : Option Nm} {v2 : Int32} {v3 : Int32} {h : MH} {u : Nat} {Q : Int32 → MH → Prop} (H : F_X11_weighRecord_12 d v0 v1 v2 v3 h u Q) : T u_X11_weighRecord (d + 1) 12 [some (jR v0), some (jR v1), some (jI v2), some (jI v3), none] [] h u (qI Q) := by
  unfold F_X11_weighRecord_12 at H
  refine T_iload_n (pc := 12) dX11_weighRecord_12 rfl rfl ?_
  refine T_aload_n (pc := 13) dX11_weighRecord_13 rfl rfl ?_
  refine T_gR (pc := 14) fa_X11_284 dX11_weighRecord_14 (gR_mono (fun x1 H => ?_) H)
  refine T_aN (pc := 17) dX11_weighRecord_17 (aN_mono (fun x2 H => ?_) H)
  refine T_icmp_ge (pc := 18) (tgt := 111) dX11_weighRecord_18 (by decide) (fun hc => ?_) (fun hc => ?_)
  · rw [if_pos hc] at H
    refine T_iload_n (pc := 111) dX11_weighRecord_111 rfl rfl ?_
    exact T_ireturn (pc := 112) rfl rfl dX11_weighRecord_112 H
  · rw [if_neg hc] at H
    refine T_aload_n (pc := 21) dX11_weighRecord_21 rfl rfl ?_
    refine T_gR (pc := 22) fa_X11_264 dX11_weighRecord_22 (gR_mono (fun x3 H => ?_) H)
    refine T_gR (pc := 25) fa_X11_281 dX11_weighRecord_25 (gR_mono (fun x4 H => ?_) H)
    refine T_iload_n (pc := 28) dX11_weighRecord_28 rfl rfl ?_
    refine T_aI (pc := 29) dX11_weighRecord_29 (aI_mono (fun x5 H => ?_) H)
    refine T_bipush (pc := 30) (v := 8) dX11_weighRecord_30 (by decide) ?_
    refine T_icmp_ne (pc := 32) (tgt := 58) dX11_weighRecord_32 (by decide) (fun hc => ?_) (fun hc => ?_)
    · rw [if_neg hc] at H
      refine T_aload_n (pc := 58) dX11_weighRecord_58 rfl rfl ?_
      refine T_gR (pc := 59) fa_X11_264 dX11_weighRecord_59 (gR_mono (fun x6 H => ?_) H)
      refine T_gR (pc := 62) fa_X11_281 dX11_weighRecord_62 (gR_mono (fun x7 H => ?_) H)
      refine T_iload_n (pc := 65) dX11_weighRecord_65 rfl rfl ?_
      refine T_aI (pc := 66) dX11_weighRecord_66 (aI_mono (fun x8 H => ?_) H)
      refine T_bipush (pc := 67) (v := 9) dX11_weighRecord_67 (by decide) ?_
      refine T_icmp_ne (pc := 69) (tgt := 105) dX11_weighRecord_69 (by decide) (fun hc => ?_) (fun hc => ?_)
      · rw [if_neg hc] at H
        refine T_iinc (pc := 105) (v := v3 + 1) (ls2 := [some (jR v0), some (jR v1), some (jI v2), some (jI (v3 + 1)), none]) dX11_weighRecord_105 rfl rfl (Nat.le_of_ble_eq_true rfl) rfl ?_
        refine T_goto (pc := 108) (tgt := 12) dX11_weighRecord_108 (by decide) ?_
        exact T.forget H ⟨rfl, rfl, rfl, rfl, trivial⟩
      · rw [if_pos hc] at H
        refine T_aload_n (pc := 72) dX11_weighRecord_72 rfl rfl ?_
        refine T_gR (pc := 73) fa_X11_12 dX11_weighRecord_73 (gR_mono (fun x9 H => ?_) H)
        refine T_aload_n (pc := 76) dX11_weighRecord_76 rfl rfl ?_
        refine T_gR (pc := 77) fa_X11_284 dX11_weighRecord_77 (gR_mono (fun x10 H => ?_) H)
        refine T_iload_n (pc := 80) dX11_weighRecord_80 rfl rfl ?_
        refine T_aL (pc := 81) dX11_weighRecord_81 (aL_mono (fun x11 H => ?_) H)
        obtain ⟨H0, H⟩ := H
        refine T_iV (pc := 82) (ci := 6) (av := [jL x11]) (rest := []) (o := x9) dX11_weighRecord_82 mf_X7_findRow c_2_1 c_2_2 c_2_3 rfl rfl (Nat.le_of_ble_eq_true rfl) rfl H0 (iR_k (iR_mono (fun x12 h u H => ?_) H))
        refine T_astore (pc := 85) (ls2 := [some (jR v0), some (jR v1), some (jI v2), some (jI v3), some (jR x12)]) dX11_weighRecord_85 (Nat.le_of_ble_eq_true rfl) rfl ?_
        refine T_iload_n (pc := 87) dX11_weighRecord_87 rfl rfl ?_
        refine T_aload (pc := 88) dX11_weighRecord_88 rfl ?_
        refine T_ifnonnull (pc := 90) (tgt := 97) dX11_weighRecord_90 (by decide) (fun ho => ?_) (fun n ho => ?_)
        · replace H := nl_n ho H
          refine T_iconst (pc := 93) (v := 0) dX11_weighRecord_93 (by decide) ?_
          refine T_goto (pc := 94) (tgt := 103) dX11_weighRecord_94 (by decide) ?_
          refine T_iadd (pc := 103) dX11_weighRecord_103 ?_
          refine T_istore_n (pc := 104) (ls2 := [some (jR v0), some (jR v1), some (jI (v2 + 0)), some (jI v3), some (jR x12)]) dX11_weighRecord_104 rfl (Nat.le_of_ble_eq_true rfl) rfl ?_
          refine T_iinc (pc := 105) (v := v3 + 1) (ls2 := [some (jR v0), some (jR v1), some (jI (v2 + 0)), some (jI (v3 + 1)), some (jR x12)]) dX11_weighRecord_105 rfl rfl (Nat.le_of_ble_eq_true rfl) rfl ?_
          refine T_goto (pc := 108) (tgt := 12) dX11_weighRecord_108 (by decide) ?_
          exact T.forget H ⟨rfl, rfl, rfl, rfl, trivial⟩
        · replace H := nl_s ho H
          refine T_aload (pc := 97) dX11_weighRecord_97 rfl ?_
          refine T_gR (pc := 99) fa_X11_100 dX11_weighRecord_99 (gR_mono (fun x13 H => ?_) H)
          refine T_aN (pc := 102) dX11_weighRecord_102 (aN_mono (fun x14 H => ?_) H)
          refine T_iadd (pc := 103) dX11_weighRecord_103 ?_
          refine T_istore_n (pc := 104) (ls2 := [some (jR v0), some (jR v1), some (jI (v2 + x14)), some (jI v3), some (jR x12)]) dX11_weighRecord_104 rfl (Nat.le_of_ble_eq_true rfl) rfl ?_
          refine T_iinc (pc := 105) (v := v3 + 1) (ls2 := [some (jR v0), some (jR v1), some (jI (v2 + x14)), some (jI (v3 + 1)), some (jR x12)]) dX11_weighRecord_105 rfl rfl (Nat.le_of_ble_eq_true rfl) rfl ?_
          refine T_goto (pc := 108) (tgt := 12) dX11_weighRecord_108 (by decide) ?_
          exact T.forget H ⟨rfl, rfl, rfl, rfl, trivial⟩
    · rw [if_pos hc] at H
      refine T_iload_n (pc := 35) dX11_weighRecord_35 rfl rfl ?_
      refine T_aload_n (pc := 36) dX11_weighRecord_36 rfl rfl ?_
      refine T_aload_n (pc := 37) dX11_weighRecord_37 rfl rfl ?_
      refine T_gR (pc := 38) fa_X11_12 dX11_weighRecord_38 (gR_mono (fun x15 H => ?_) H)
      refine T_aload_n (pc := 41) dX11_weighRecord_41 rfl rfl ?_
      refine T_gR (pc := 42) fa_X11_284 dX11_weighRecord_42 (gR_mono (fun x16 H => ?_) H)
      refine T_iload_n (pc := 45) dX11_weighRecord_45 rfl rfl ?_
      refine T_aL (pc := 46) dX11_weighRecord_46 (aL_mono (fun x17 H => ?_) H)
      obtain ⟨H0, H⟩ := H
      refine T_iV (pc := 47) (ci := 6) (av := [jL x17]) (rest := [jR v0, jI v2]) (o := x15) dX11_weighRecord_47 mf_X7_findValue c_2_63 c_2_64 c_2_65 rfl rfl (Nat.le_of_ble_eq_true rfl) rfl H0 (iR_k (iR_mono (fun x18 h u H => ?_) H))
      obtain ⟨H0, H⟩ := H
      refine T_iV (pc := 50) (ci := 10) (av := [jR x18]) (rest := [jI v2]) (o := v0) dX11_weighRecord_50 mf_X11_weigh c_4_81 c_4_83 pr_X11_weigh rfl rfl (Nat.le_of_ble_eq_true rfl) rfl H0 (iI_k (iI_mono (fun x19 h u H => ?_) H))
      refine T_iadd (pc := 53) dX11_weighRecord_53 ?_
      refine T_istore_n (pc := 54) (ls2 := [some (jR v0), some (jR v1), some (jI (v2 + x19)), some (jI v3), none]) dX11_weighRecord_54 rfl (Nat.le_of_ble_eq_true rfl) rfl ?_
      refine T_goto (pc := 55) (tgt := 105) dX11_weighRecord_55 (by decide) ?_
      refine T_iinc (pc := 105) (v := v3 + 1) (ls2 := [some (jR v0), some (jR v1), some (jI (v2 + x19)), some (jI (v3 + 1)), none]) dX11_weighRecord_105 rfl rfl (Nat.le_of_ble_eq_true rfl) rfl ?_
      refine T_goto (pc := 108) (tgt := 12) dX11_weighRecord_108 (by decide) ?_
      exact T.forget H ⟨rfl, rfl, rfl, rfl, trivial⟩
theorem I_X11_weighRecord {d : Nat} {v0 : Option Nm} {v1 : Option Nm} {h : MH} {u : Nat} {K : Int32 → MH → Nat → Prop} (u1 : Nat) (hu : u1 ≤ u) (H : F_X11_weighRecord d v0 v1 h u1 (fun x h2 => K x h2 (u - u1))) : iI (d + 1) u_X11_weighRecord [jR v0, jR v1] h u K := inv.of u1 hu (Ct.of (by decide +kernel) rfl (Nat.le_of_ble_eq_true rfl) rfl (E_X11_weighRecord H))
theorem dX11_weighLent_0 : decode cX11_weighLent 0 = .ok (.aload_n 0, 1) := by decide +kernel
theorem dX11_weighLent_1 : decode cX11_weighLent 1 = .ok (.iconst 2, 1) := by decide +kernel
theorem dX11_weighLent_2 : decode cX11_weighLent 2 = .ok (.invokevirtual 366, 3) := by decide +kernel
theorem dX11_weighLent_5 : decode cX11_weighLent 5 = .ok (.bipush 10, 2) := by decide +kernel
theorem dX11_weighLent_7 : decode cX11_weighLent 7 = .ok (.ireturn, 1) := by decide +kernel
def F_X11_weighLent (d : Nat) (v0 : Option Nm) (h : MH) (u : Nat) (Q : Int32 → MH → Prop) : Prop :=
  rc h v0 10 ∧ iV d u_X11_leaveTrace [jR v0, jI 2] h u fun h u =>
  Q 10 h
set_option maxRecDepth 20000 in
theorem E_X11_weighLent {d : Nat} {v0 : Option Nm} {h : MH} {u : Nat} {Q : Int32 → MH → Prop} (H : F_X11_weighLent d v0 h u Q) : T u_X11_weighLent (d + 1) 0 [some (jR v0)] [] h u (qI Q) := by
  unfold F_X11_weighLent at H
  refine T_aload_n (pc := 0) dX11_weighLent_0 rfl rfl ?_
  refine T_iconst (pc := 1) (v := 2) dX11_weighLent_1 (by decide) ?_
  obtain ⟨H0, H⟩ := H
  refine T_iV (pc := 2) (ci := 10) (av := [jI 2]) (rest := []) (o := v0) dX11_weighLent_2 mf_X11_leaveTrace c_3_141 c_3_143 pr_X11_leaveTrace rfl rfl (Nat.le_of_ble_eq_true rfl) rfl H0 (iV_k (iV_mono (fun h u H => ?_) H))
  refine T_bipush (pc := 5) (v := 10) dX11_weighLent_5 (by decide) ?_
  exact T_ireturn (pc := 7) rfl rfl dX11_weighLent_7 H
theorem I_X11_weighLent {d : Nat} {v0 : Option Nm} {h : MH} {u : Nat} {K : Int32 → MH → Nat → Prop} (u1 : Nat) (hu : u1 ≤ u) (H : F_X11_weighLent d v0 h u1 (fun x h2 => K x h2 (u - u1))) : iI (d + 1) u_X11_weighLent [jR v0] h u K := inv.of u1 hu (Ct.of (by decide +kernel) rfl (Nat.le_of_ble_eq_true rfl) rfl (E_X11_weighLent H))
theorem dX11_weighConstant_0 : decode cX11_weighConstant 0 = .ok (.aload_n 1, 1) := by decide +kernel
theorem dX11_weighConstant_1 : decode cX11_weighConstant 1 = .ok (.getfield 252, 3) := by decide +kernel
theorem dX11_weighConstant_4 : decode cX11_weighConstant 4 = .ok (.getfield 378, 3) := by decide +kernel
theorem dX11_weighConstant_7 : decode cX11_weighConstant 7 = .ok (.tableswitch 37 0 2 #[25, 31, 31], 25) := by decide +kernel
theorem dX11_weighConstant_32 : decode cX11_weighConstant 32 = .ok (.aload_n 0, 1) := by decide +kernel
theorem dX11_weighConstant_33 : decode cX11_weighConstant 33 = .ok (.aload_n 1, 1) := by decide +kernel
theorem dX11_weighConstant_34 : decode cX11_weighConstant 34 = .ok (.invokevirtual 409, 3) := by decide +kernel
theorem dX11_weighConstant_37 : decode cX11_weighConstant 37 = .ok (.ireturn, 1) := by decide +kernel
theorem dX11_weighConstant_38 : decode cX11_weighConstant 38 = .ok (.aload_n 0, 1) := by decide +kernel
theorem dX11_weighConstant_39 : decode cX11_weighConstant 39 = .ok (.aload_n 1, 1) := by decide +kernel
theorem dX11_weighConstant_40 : decode cX11_weighConstant 40 = .ok (.invokevirtual 412, 3) := by decide +kernel
theorem dX11_weighConstant_43 : decode cX11_weighConstant 43 = .ok (.ireturn, 1) := by decide +kernel
theorem dX11_weighConstant_44 : decode cX11_weighConstant 44 = .ok (.aload_n 0, 1) := by decide +kernel
theorem dX11_weighConstant_45 : decode cX11_weighConstant 45 = .ok (.aload_n 1, 1) := by decide +kernel
theorem dX11_weighConstant_46 : decode cX11_weighConstant 46 = .ok (.invokevirtual 415, 3) := by decide +kernel
theorem dX11_weighConstant_49 : decode cX11_weighConstant 49 = .ok (.ireturn, 1) := by decide +kernel
def F_X11_weighConstant (d : Nat) (v0 : Option Nm) (v1 : Option Nm) (h : MH) (u : Nat) (Q : Int32 → MH → Prop) : Prop :=
  gR h v1 9 1 fun x1 =>
  gI h x1 3 2 fun x2 =>
  if x2 = 0 then
    rc h v0 10 ∧ iI d u_X11_weighFirstBody [jR v0, jR v1] h u fun x3 h u =>
    Q x3 h
  else if x2 = 1 then
    rc h v0 10 ∧ iI d u_X11_weighSecondBody [jR v0, jR v1] h u fun x4 h u =>
    Q x4 h
  else if x2 = 2 then
    rc h v0 10 ∧ iI d u_X11_weighSecondBody [jR v0, jR v1] h u fun x5 h u =>
    Q x5 h
  else 
    rc h v0 10 ∧ iI d u_X11_weighLastBody [jR v0, jR v1] h u fun x6 h u =>
    Q x6 h
set_option maxRecDepth 20000 in
theorem E_X11_weighConstant {d : Nat} {v0 : Option Nm} {v1 : Option Nm} {h : MH} {u : Nat} {Q : Int32 → MH → Prop} (H : F_X11_weighConstant d v0 v1 h u Q) : T u_X11_weighConstant (d + 1) 0 [some (jR v0), some (jR v1)] [] h u (qI Q) := by
  unfold F_X11_weighConstant at H
  refine T_aload_n (pc := 0) dX11_weighConstant_0 rfl rfl ?_
  refine T_gR (pc := 1) fa_X11_252 dX11_weighConstant_1 (gR_mono (fun x1 H => ?_) H)
  refine T_gI (pc := 4) fa_X11_378 dX11_weighConstant_4 (gI_mono (fun x2 H => ?_) H)
  by_cases h0 : x2 = 0
  · rw [if_pos h0] at H
    refine T_tableIn (pc := 7) (off := 25) (tgt := 32) dX11_weighConstant_7 (by rw [h0]; decide) (by rw [h0]; decide) (by rw [h0]; rfl) (by decide) ?_
    refine T_aload_n (pc := 32) dX11_weighConstant_32 rfl rfl ?_
    refine T_aload_n (pc := 33) dX11_weighConstant_33 rfl rfl ?_
    obtain ⟨H0, H⟩ := H
    refine T_iV (pc := 34) (ci := 10) (av := [jR v1]) (rest := []) (o := v0) dX11_weighConstant_34 mf_X11_weighFirstBody c_4_89 c_4_91 pr_X11_weighFirstBody rfl rfl (Nat.le_of_ble_eq_true rfl) rfl H0 (iI_k (iI_mono (fun x3 h u H => ?_) H))
    exact T_ireturn (pc := 37) rfl rfl dX11_weighConstant_37 H
  rw [if_neg h0] at H
  by_cases h1 : x2 = 1
  · rw [if_pos h1] at H
    refine T_tableIn (pc := 7) (off := 31) (tgt := 38) dX11_weighConstant_7 (by rw [h1]; decide) (by rw [h1]; decide) (by rw [h1]; rfl) (by decide) ?_
    refine T_aload_n (pc := 38) dX11_weighConstant_38 rfl rfl ?_
    refine T_aload_n (pc := 39) dX11_weighConstant_39 rfl rfl ?_
    obtain ⟨H0, H⟩ := H
    refine T_iV (pc := 40) (ci := 10) (av := [jR v1]) (rest := []) (o := v0) dX11_weighConstant_40 mf_X11_weighSecondBody c_4_93 c_4_95 pr_X11_weighSecondBody rfl rfl (Nat.le_of_ble_eq_true rfl) rfl H0 (iI_k (iI_mono (fun x4 h u H => ?_) H))
    exact T_ireturn (pc := 43) rfl rfl dX11_weighConstant_43 H
  rw [if_neg h1] at H
  by_cases h2 : x2 = 2
  · rw [if_pos h2] at H
    refine T_tableIn (pc := 7) (off := 31) (tgt := 38) dX11_weighConstant_7 (by rw [h2]; decide) (by rw [h2]; decide) (by rw [h2]; rfl) (by decide) ?_
    refine T_aload_n (pc := 38) dX11_weighConstant_38 rfl rfl ?_
    refine T_aload_n (pc := 39) dX11_weighConstant_39 rfl rfl ?_
    obtain ⟨H0, H⟩ := H
    refine T_iV (pc := 40) (ci := 10) (av := [jR v1]) (rest := []) (o := v0) dX11_weighConstant_40 mf_X11_weighSecondBody c_4_93 c_4_95 pr_X11_weighSecondBody rfl rfl (Nat.le_of_ble_eq_true rfl) rfl H0 (iI_k (iI_mono (fun x5 h u H => ?_) H))
    exact T_ireturn (pc := 43) rfl rfl dX11_weighConstant_43 H
  rw [if_neg h2] at H
  have e0 : (x2 : Int32).toInt ≠ 0 := fun q => h0 (Int32.toInt_inj.mp (q.trans (by decide)))
  have e1 : (x2 : Int32).toInt ≠ 1 := fun q => h1 (Int32.toInt_inj.mp (q.trans (by decide)))
  have e2 : (x2 : Int32).toInt ≠ 2 := fun q => h2 (Int32.toInt_inj.mp (q.trans (by decide)))
  refine T_tableOut (pc := 7) (tgt := 44) dX11_weighConstant_7 (by omega) (by decide) ?_
  refine T_aload_n (pc := 44) dX11_weighConstant_44 rfl rfl ?_
  refine T_aload_n (pc := 45) dX11_weighConstant_45 rfl rfl ?_
  obtain ⟨H0, H⟩ := H
  refine T_iV (pc := 46) (ci := 10) (av := [jR v1]) (rest := []) (o := v0) dX11_weighConstant_46 mf_X11_weighLastBody c_4_97 c_4_99 pr_X11_weighLastBody rfl rfl (Nat.le_of_ble_eq_true rfl) rfl H0 (iI_k (iI_mono (fun x6 h u H => ?_) H))
  exact T_ireturn (pc := 49) rfl rfl dX11_weighConstant_49 H
theorem I_X11_weighConstant {d : Nat} {v0 : Option Nm} {v1 : Option Nm} {h : MH} {u : Nat} {K : Int32 → MH → Nat → Prop} (u1 : Nat) (hu : u1 ≤ u) (H : F_X11_weighConstant d v0 v1 h u1 (fun x h2 => K x h2 (u - u1))) : iI (d + 1) u_X11_weighConstant [jR v0, jR v1] h u K := inv.of u1 hu (Ct.of (by decide +kernel) rfl (Nat.le_of_ble_eq_true rfl) rfl (E_X11_weighConstant H))
theorem dX11_weighFirstBody_0 : decode cX11_weighFirstBody 0 = .ok (.aload_n 0, 1) := by decide +kernel
theorem dX11_weighFirstBody_1 : decode cX11_weighFirstBody 1 = .ok (.iconst 3, 1) := by decide +kernel
theorem dX11_weighFirstBody_2 : decode cX11_weighFirstBody 2 = .ok (.invokevirtual 366, 3) := by decide +kernel
theorem dX11_weighFirstBody_5 : decode cX11_weighFirstBody 5 = .ok (.aload_n 1, 1) := by decide +kernel
theorem dX11_weighFirstBody_6 : decode cX11_weighFirstBody 6 = .ok (.getfield 272, 3) := by decide +kernel
theorem dX11_weighFirstBody_9 : decode cX11_weighFirstBody 9 = .ok (.iconst 1, 1) := by decide +kernel
theorem dX11_weighFirstBody_10 : decode cX11_weighFirstBody 10 = .ok (.iadd, 1) := by decide +kernel
theorem dX11_weighFirstBody_11 : decode cX11_weighFirstBody 11 = .ok (.ireturn, 1) := by decide +kernel
def F_X11_weighFirstBody (d : Nat) (v0 : Option Nm) (v1 : Option Nm) (h : MH) (u : Nat) (Q : Int32 → MH → Prop) : Prop :=
  rc h v0 10 ∧ iV d u_X11_leaveTrace [jR v0, jI 3] h u fun h u =>
  gI h v1 9 3 fun x2 =>
  Q (x2 + 1) h
set_option maxRecDepth 20000 in
theorem E_X11_weighFirstBody {d : Nat} {v0 : Option Nm} {v1 : Option Nm} {h : MH} {u : Nat} {Q : Int32 → MH → Prop} (H : F_X11_weighFirstBody d v0 v1 h u Q) : T u_X11_weighFirstBody (d + 1) 0 [some (jR v0), some (jR v1)] [] h u (qI Q) := by
  unfold F_X11_weighFirstBody at H
  refine T_aload_n (pc := 0) dX11_weighFirstBody_0 rfl rfl ?_
  refine T_iconst (pc := 1) (v := 3) dX11_weighFirstBody_1 (by decide) ?_
  obtain ⟨H0, H⟩ := H
  refine T_iV (pc := 2) (ci := 10) (av := [jI 3]) (rest := []) (o := v0) dX11_weighFirstBody_2 mf_X11_leaveTrace c_3_141 c_3_143 pr_X11_leaveTrace rfl rfl (Nat.le_of_ble_eq_true rfl) rfl H0 (iV_k (iV_mono (fun h u H => ?_) H))
  refine T_aload_n (pc := 5) dX11_weighFirstBody_5 rfl rfl ?_
  refine T_gI (pc := 6) fa_X11_272 dX11_weighFirstBody_6 (gI_mono (fun x2 H => ?_) H)
  refine T_iconst (pc := 9) (v := 1) dX11_weighFirstBody_9 (by decide) ?_
  refine T_iadd (pc := 10) dX11_weighFirstBody_10 ?_
  exact T_ireturn (pc := 11) rfl rfl dX11_weighFirstBody_11 H
theorem I_X11_weighFirstBody {d : Nat} {v0 : Option Nm} {v1 : Option Nm} {h : MH} {u : Nat} {K : Int32 → MH → Nat → Prop} (u1 : Nat) (hu : u1 ≤ u) (H : F_X11_weighFirstBody d v0 v1 h u1 (fun x h2 => K x h2 (u - u1))) : iI (d + 1) u_X11_weighFirstBody [jR v0, jR v1] h u K := inv.of u1 hu (Ct.of (by decide +kernel) rfl (Nat.le_of_ble_eq_true rfl) rfl (E_X11_weighFirstBody H))
theorem dX11_weighSecondBody_0 : decode cX11_weighSecondBody 0 = .ok (.aload_n 0, 1) := by decide +kernel
theorem dX11_weighSecondBody_1 : decode cX11_weighSecondBody 1 = .ok (.iconst 4, 1) := by decide +kernel
theorem dX11_weighSecondBody_2 : decode cX11_weighSecondBody 2 = .ok (.invokevirtual 366, 3) := by decide +kernel
theorem dX11_weighSecondBody_5 : decode cX11_weighSecondBody 5 = .ok (.iconst 2, 1) := by decide +kernel
theorem dX11_weighSecondBody_6 : decode cX11_weighSecondBody 6 = .ok (.aload_n 0, 1) := by decide +kernel
theorem dX11_weighSecondBody_7 : decode cX11_weighSecondBody 7 = .ok (.aload_n 1, 1) := by decide +kernel
theorem dX11_weighSecondBody_8 : decode cX11_weighSecondBody 8 = .ok (.invokevirtual 409, 3) := by decide +kernel
theorem dX11_weighSecondBody_11 : decode cX11_weighSecondBody 11 = .ok (.imul, 1) := by decide +kernel
theorem dX11_weighSecondBody_12 : decode cX11_weighSecondBody 12 = .ok (.ireturn, 1) := by decide +kernel
def F_X11_weighSecondBody (d : Nat) (v0 : Option Nm) (v1 : Option Nm) (h : MH) (u : Nat) (Q : Int32 → MH → Prop) : Prop :=
  rc h v0 10 ∧ iV d u_X11_leaveTrace [jR v0, jI 4] h u fun h u =>
  rc h v0 10 ∧ iI d u_X11_weighFirstBody [jR v0, jR v1] h u fun x2 h u =>
  Q (2 * x2) h
set_option maxRecDepth 20000 in
theorem E_X11_weighSecondBody {d : Nat} {v0 : Option Nm} {v1 : Option Nm} {h : MH} {u : Nat} {Q : Int32 → MH → Prop} (H : F_X11_weighSecondBody d v0 v1 h u Q) : T u_X11_weighSecondBody (d + 1) 0 [some (jR v0), some (jR v1)] [] h u (qI Q) := by
  unfold F_X11_weighSecondBody at H
  refine T_aload_n (pc := 0) dX11_weighSecondBody_0 rfl rfl ?_
  refine T_iconst (pc := 1) (v := 4) dX11_weighSecondBody_1 (by decide) ?_
  obtain ⟨H0, H⟩ := H
  refine T_iV (pc := 2) (ci := 10) (av := [jI 4]) (rest := []) (o := v0) dX11_weighSecondBody_2 mf_X11_leaveTrace c_3_141 c_3_143 pr_X11_leaveTrace rfl rfl (Nat.le_of_ble_eq_true rfl) rfl H0 (iV_k (iV_mono (fun h u H => ?_) H))
  refine T_iconst (pc := 5) (v := 2) dX11_weighSecondBody_5 (by decide) ?_
  refine T_aload_n (pc := 6) dX11_weighSecondBody_6 rfl rfl ?_
  refine T_aload_n (pc := 7) dX11_weighSecondBody_7 rfl rfl ?_
  obtain ⟨H0, H⟩ := H
  refine T_iV (pc := 8) (ci := 10) (av := [jR v1]) (rest := [jI 2]) (o := v0) dX11_weighSecondBody_8 mf_X11_weighFirstBody c_4_89 c_4_91 pr_X11_weighFirstBody rfl rfl (Nat.le_of_ble_eq_true rfl) rfl H0 (iI_k (iI_mono (fun x2 h u H => ?_) H))
  refine T_imul (pc := 11) dX11_weighSecondBody_11 ?_
  exact T_ireturn (pc := 12) rfl rfl dX11_weighSecondBody_12 H
theorem I_X11_weighSecondBody {d : Nat} {v0 : Option Nm} {v1 : Option Nm} {h : MH} {u : Nat} {K : Int32 → MH → Nat → Prop} (u1 : Nat) (hu : u1 ≤ u) (H : F_X11_weighSecondBody d v0 v1 h u1 (fun x h2 => K x h2 (u - u1))) : iI (d + 1) u_X11_weighSecondBody [jR v0, jR v1] h u K := inv.of u1 hu (Ct.of (by decide +kernel) rfl (Nat.le_of_ble_eq_true rfl) rfl (E_X11_weighSecondBody H))
theorem dX11_weighLastBody_0 : decode cX11_weighLastBody 0 = .ok (.aload_n 0, 1) := by decide +kernel
theorem dX11_weighLastBody_1 : decode cX11_weighLastBody 1 = .ok (.iconst 5, 1) := by decide +kernel
theorem dX11_weighLastBody_2 : decode cX11_weighLastBody 2 = .ok (.invokevirtual 366, 3) := by decide +kernel
theorem dX11_weighLastBody_5 : decode cX11_weighLastBody 5 = .ok (.aload_n 0, 1) := by decide +kernel
theorem dX11_weighLastBody_6 : decode cX11_weighLastBody 6 = .ok (.aload_n 1, 1) := by decide +kernel
theorem dX11_weighLastBody_7 : decode cX11_weighLastBody 7 = .ok (.invokevirtual 412, 3) := by decide +kernel
theorem dX11_weighLastBody_10 : decode cX11_weighLastBody 10 = .ok (.bipush 7, 2) := by decide +kernel
theorem dX11_weighLastBody_12 : decode cX11_weighLastBody 12 = .ok (.iadd, 1) := by decide +kernel
theorem dX11_weighLastBody_13 : decode cX11_weighLastBody 13 = .ok (.iconst 1, 1) := by decide +kernel
theorem dX11_weighLastBody_14 : decode cX11_weighLastBody 14 = .ok (.iadd, 1) := by decide +kernel
theorem dX11_weighLastBody_15 : decode cX11_weighLastBody 15 = .ok (.ireturn, 1) := by decide +kernel
def F_X11_weighLastBody (d : Nat) (v0 : Option Nm) (v1 : Option Nm) (h : MH) (u : Nat) (Q : Int32 → MH → Prop) : Prop :=
  rc h v0 10 ∧ iV d u_X11_leaveTrace [jR v0, jI 5] h u fun h u =>
  rc h v0 10 ∧ iI d u_X11_weighSecondBody [jR v0, jR v1] h u fun x2 h u =>
  Q ((x2 + 7) + 1) h
set_option maxRecDepth 20000 in
theorem E_X11_weighLastBody {d : Nat} {v0 : Option Nm} {v1 : Option Nm} {h : MH} {u : Nat} {Q : Int32 → MH → Prop} (H : F_X11_weighLastBody d v0 v1 h u Q) : T u_X11_weighLastBody (d + 1) 0 [some (jR v0), some (jR v1)] [] h u (qI Q) := by
  unfold F_X11_weighLastBody at H
  refine T_aload_n (pc := 0) dX11_weighLastBody_0 rfl rfl ?_
  refine T_iconst (pc := 1) (v := 5) dX11_weighLastBody_1 (by decide) ?_
  obtain ⟨H0, H⟩ := H
  refine T_iV (pc := 2) (ci := 10) (av := [jI 5]) (rest := []) (o := v0) dX11_weighLastBody_2 mf_X11_leaveTrace c_3_141 c_3_143 pr_X11_leaveTrace rfl rfl (Nat.le_of_ble_eq_true rfl) rfl H0 (iV_k (iV_mono (fun h u H => ?_) H))
  refine T_aload_n (pc := 5) dX11_weighLastBody_5 rfl rfl ?_
  refine T_aload_n (pc := 6) dX11_weighLastBody_6 rfl rfl ?_
  obtain ⟨H0, H⟩ := H
  refine T_iV (pc := 7) (ci := 10) (av := [jR v1]) (rest := []) (o := v0) dX11_weighLastBody_7 mf_X11_weighSecondBody c_4_93 c_4_95 pr_X11_weighSecondBody rfl rfl (Nat.le_of_ble_eq_true rfl) rfl H0 (iI_k (iI_mono (fun x2 h u H => ?_) H))
  refine T_bipush (pc := 10) (v := 7) dX11_weighLastBody_10 (by decide) ?_
  refine T_iadd (pc := 12) dX11_weighLastBody_12 ?_
  refine T_iconst (pc := 13) (v := 1) dX11_weighLastBody_13 (by decide) ?_
  refine T_iadd (pc := 14) dX11_weighLastBody_14 ?_
  exact T_ireturn (pc := 15) rfl rfl dX11_weighLastBody_15 H
theorem I_X11_weighLastBody {d : Nat} {v0 : Option Nm} {v1 : Option Nm} {h : MH} {u : Nat} {K : Int32 → MH → Nat → Prop} (u1 : Nat) (hu : u1 ≤ u) (H : F_X11_weighLastBody d v0 v1 h u1 (fun x h2 => K x h2 (u - u1))) : iI (d + 1) u_X11_weighLastBody [jR v0, jR v1] h u K := inv.of u1 hu (Ct.of (by decide +kernel) rfl (Nat.le_of_ble_eq_true rfl) rfl (E_X11_weighLastBody H))
