theorem dX11_isWithin_0 : decode cX11_isWithin 0 = .ok (.iload_n 0, 1) := by decide +kernel
theorem dX11_isWithin_1 : decode cX11_isWithin 1 = .ok (.iload_n 1, 1) := by decide +kernel
theorem dX11_isWithin_2 : decode cX11_isWithin 2 = .ok (.if_icmp .lt 12, 3) := by decide +kernel
theorem dX11_isWithin_5 : decode cX11_isWithin 5 = .ok (.iload_n 0, 1) := by decide +kernel
theorem dX11_isWithin_6 : decode cX11_isWithin 6 = .ok (.iload_n 2, 1) := by decide +kernel
theorem dX11_isWithin_7 : decode cX11_isWithin 7 = .ok (.if_icmp .gt 7, 3) := by decide +kernel
theorem dX11_isWithin_10 : decode cX11_isWithin 10 = .ok (.iconst 1, 1) := by decide +kernel
theorem dX11_isWithin_11 : decode cX11_isWithin 11 = .ok (.goto 4, 3) := by decide +kernel
theorem dX11_isWithin_14 : decode cX11_isWithin 14 = .ok (.iconst 0, 1) := by decide +kernel
theorem dX11_isWithin_15 : decode cX11_isWithin 15 = .ok (.ireturn, 1) := by decide +kernel
def F_X11_isWithin (d : Nat) (v0 : Int32) (v1 : Int32) (v2 : Int32) (h : MH) (u : Nat) (Q : Int32 → MH → Prop) : Prop :=
  if v0 < v1 then
    nz 0 ∧ Q 0 h
  else
    if v2 < v0 then
      nz 0 ∧ Q 0 h
    else
      nz 1 ∧ Q 1 h
set_option maxRecDepth 20000 in
theorem E_X11_isWithin {d : Nat} {v0 : Int32} {v1 : Int32} {v2 : Int32} {h : MH} {u : Nat} {Q : Int32 → MH → Prop} (H : F_X11_isWithin d v0 v1 v2 h u Q) : T u_X11_isWithin d 0 [some (jI v0), some (jI v1), some (jI v2)] [] h u (qI Q) := by
  unfold F_X11_isWithin at H
  refine T_iload_n (pc := 0) dX11_isWithin_0 rfl rfl ?_
  refine T_iload_n (pc := 1) dX11_isWithin_1 rfl rfl ?_
  refine T_icmp_lt (pc := 2) (tgt := 14) dX11_isWithin_2 (by decide) (fun hc => ?_) (fun hc => ?_)
  · rw [if_pos hc] at H
    refine T_iconst (pc := 14) (v := 0) dX11_isWithin_14 (by decide) ?_
    exact T_ireturn (pc := 15) rfl (nz_nar H.1) dX11_isWithin_15 H.2
  · rw [if_neg hc] at H
    refine T_iload_n (pc := 5) dX11_isWithin_5 rfl rfl ?_
    refine T_iload_n (pc := 6) dX11_isWithin_6 rfl rfl ?_
    refine T_icmp_gt (pc := 7) (tgt := 14) dX11_isWithin_7 (by decide) (fun hc => ?_) (fun hc => ?_)
    · rw [if_pos hc] at H
      refine T_iconst (pc := 14) (v := 0) dX11_isWithin_14 (by decide) ?_
      exact T_ireturn (pc := 15) rfl (nz_nar H.1) dX11_isWithin_15 H.2
    · rw [if_neg hc] at H
      refine T_iconst (pc := 10) (v := 1) dX11_isWithin_10 (by decide) ?_
      refine T_goto (pc := 11) (tgt := 15) dX11_isWithin_11 (by decide) ?_
      exact T_ireturn (pc := 15) rfl (nz_nar H.1) dX11_isWithin_15 H.2
theorem I_X11_isWithin {d : Nat} {v0 : Int32} {v1 : Int32} {v2 : Int32} {h : MH} {u : Nat} {K : Int32 → MH → Nat → Prop} (u1 : Nat) (hu : u1 ≤ u) (H : F_X11_isWithin d v0 v1 v2 h u1 (fun x h2 => K x h2 (u - u1))) : iI d u_X11_isWithin [jI v0, jI v1, jI v2] h u K := inv.of u1 hu (Ct.of (by decide +kernel) rfl (Nat.le_of_ble_eq_true rfl) rfl (E_X11_isWithin H))
theorem J_X11_isWithin {d : Nat} {v0 : Int32} {v1 : Int32} {v2 : Int32} {h : MH} {u : Nat} {K : Int32 → MH → Prop} (H : F_X11_isWithin d v0 v1 v2 h 0 K) : iI d u_X11_isWithin [jI v0, jI v1, jI v2] h u (fun x h2 u2 => K x h2 ∧ u2 = u) := jiI (by decide +kernel) rfl (Nat.le_of_ble_eq_true rfl) rfl (E_X11_isWithin H)
theorem dX11_byteAt_0 : decode cX11_byteAt 0 = .ok (.aload_n 0, 1) := by decide +kernel
theorem dX11_byteAt_1 : decode cX11_byteAt 1 = .ok (.getfield 44, 3) := by decide +kernel
theorem dX11_byteAt_4 : decode cX11_byteAt 4 = .ok (.getfield 307, 3) := by decide +kernel
theorem dX11_byteAt_7 : decode cX11_byteAt 7 = .ok (.astore_n 2, 1) := by decide +kernel
theorem dX11_byteAt_8 : decode cX11_byteAt 8 = .ok (.iload_n 1, 1) := by decide +kernel
theorem dX11_byteAt_9 : decode cX11_byteAt 9 = .ok (.iconst 0, 1) := by decide +kernel
theorem dX11_byteAt_10 : decode cX11_byteAt 10 = .ok (.aload_n 2, 1) := by decide +kernel
theorem dX11_byteAt_11 : decode cX11_byteAt 11 = .ok (.getfield 311, 3) := by decide +kernel
theorem dX11_byteAt_14 : decode cX11_byteAt 14 = .ok (.iconst 1, 1) := by decide +kernel
theorem dX11_byteAt_15 : decode cX11_byteAt 15 = .ok (.isub, 1) := by decide +kernel
theorem dX11_byteAt_16 : decode cX11_byteAt 16 = .ok (.invokestatic 64, 3) := by decide +kernel
theorem dX11_byteAt_19 : decode cX11_byteAt 19 = .ok (.ifCond .eq 12, 3) := by decide +kernel
theorem dX11_byteAt_22 : decode cX11_byteAt 22 = .ok (.aload_n 2, 1) := by decide +kernel
theorem dX11_byteAt_23 : decode cX11_byteAt 23 = .ok (.getfield 314, 3) := by decide +kernel
theorem dX11_byteAt_26 : decode cX11_byteAt 26 = .ok (.iload_n 1, 1) := by decide +kernel
theorem dX11_byteAt_27 : decode cX11_byteAt 27 = .ok (.baload, 1) := by decide +kernel
theorem dX11_byteAt_28 : decode cX11_byteAt 28 = .ok (.goto 5, 3) := by decide +kernel
theorem dX11_byteAt_31 : decode cX11_byteAt 31 = .ok (.bipush (-5), 2) := by decide +kernel
theorem dX11_byteAt_33 : decode cX11_byteAt 33 = .ok (.ireturn, 1) := by decide +kernel
def F_X11_byteAt (d : Nat) (v0 : Option Nm) (v1 : Int32) (h : MH) (u : Nat) (Q : Int32 → MH → Prop) : Prop :=
  gR h v0 10 4 fun x1 =>
  gR h x1 5 1 fun x2 =>
  gI h x2 7 2 fun x3 =>
  F_X11_isWithin d v1 0 (x3 - 1) h 0 fun x4 h =>
  if x4 = 0 then
    Q (-5) h
  else
    gR h x2 7 0 fun x5 =>
    aI .byte h x5 v1 fun x6 =>
    Q x6 h
set_option maxRecDepth 20000 in
theorem E_X11_byteAt {d : Nat} {v0 : Option Nm} {v1 : Int32} {h : MH} {u : Nat} {Q : Int32 → MH → Prop} (H : F_X11_byteAt d v0 v1 h u Q) : T u_X11_byteAt (d + 1) 0 [some (jR v0), some (jI v1), none] [] h u (qI Q) := by
  unfold F_X11_byteAt at H
  refine T_aload_n (pc := 0) dX11_byteAt_0 rfl rfl ?_
  refine T_gR (pc := 1) fa_X11_44 dX11_byteAt_1 (gR_mono (fun x1 H => ?_) H)
  refine T_gR (pc := 4) fa_X11_307 dX11_byteAt_4 (gR_mono (fun x2 H => ?_) H)
  refine T_astore_n (pc := 7) (ls2 := [some (jR v0), some (jI v1), some (jR x2)]) dX11_byteAt_7 rfl (Nat.le_of_ble_eq_true rfl) rfl ?_
  refine T_iload_n (pc := 8) dX11_byteAt_8 rfl rfl ?_
  refine T_iconst (pc := 9) (v := 0) dX11_byteAt_9 (by decide) ?_
  refine T_aload_n (pc := 10) dX11_byteAt_10 rfl rfl ?_
  refine T_gI (pc := 11) fa_X11_311 dX11_byteAt_11 (gI_mono (fun x3 H => ?_) H)
  refine T_iconst (pc := 14) (v := 1) dX11_byteAt_14 (by decide) ?_
  refine T_isub (pc := 15) dX11_byteAt_15 ?_
  refine T_invS (pc := 16) (av := [jI v1, jI 0, jI (x3 - 1)]) (rest := []) dX11_byteAt_16 mf_X11_isWithin c_1_189 c_1_190 rfl (Nat.le_of_ble_eq_true rfl) rfl (iI_k (iI_m0 (fun x4 h H => ?_) (J_X11_isWithin (d := d) H)))
  refine T_if_eq (pc := 19) (tgt := 31) dX11_byteAt_19 (by decide) (fun hc => ?_) (fun hc => ?_)
  · rw [if_pos hc] at H
    refine T_bipush (pc := 31) (v := (-5)) dX11_byteAt_31 (by decide) ?_
    exact T_ireturn (pc := 33) rfl rfl dX11_byteAt_33 H
  · rw [if_neg hc] at H
    refine T_aload_n (pc := 22) dX11_byteAt_22 rfl rfl ?_
    refine T_gR (pc := 23) fa_X11_314 dX11_byteAt_23 (gR_mono (fun x5 H => ?_) H)
    refine T_iload_n (pc := 26) dX11_byteAt_26 rfl rfl ?_
    refine T_aB (pc := 27) dX11_byteAt_27 (aI_mono (fun x6 H => ?_) H)
    refine T_goto (pc := 28) (tgt := 33) dX11_byteAt_28 (by decide) ?_
    exact T_ireturn (pc := 33) rfl rfl dX11_byteAt_33 H
theorem I_X11_byteAt {d : Nat} {v0 : Option Nm} {v1 : Int32} {h : MH} {u : Nat} {K : Int32 → MH → Nat → Prop} (u1 : Nat) (hu : u1 ≤ u) (H : F_X11_byteAt d v0 v1 h u1 (fun x h2 => K x h2 (u - u1))) : iI (d + 1) u_X11_byteAt [jR v0, jI v1] h u K := inv.of u1 hu (Ct.of (by decide +kernel) rfl (Nat.le_of_ble_eq_true rfl) rfl (E_X11_byteAt H))
theorem J_X11_byteAt {d : Nat} {v0 : Option Nm} {v1 : Int32} {h : MH} {u : Nat} {K : Int32 → MH → Prop} (H : F_X11_byteAt d v0 v1 h 0 K) : iI (d + 1) u_X11_byteAt [jR v0, jI v1] h u (fun x h2 u2 => K x h2 ∧ u2 = u) := jiI (by decide +kernel) rfl (Nat.le_of_ble_eq_true rfl) rfl (E_X11_byteAt H)
theorem dX4_isNumber_0 : decode cX4_isNumber 0 = .ok (.iload_n 0, 1) := by decide +kernel
theorem dX4_isNumber_1 : decode cX4_isNumber 1 = .ok (.ifCond .lt 13, 3) := by decide +kernel
theorem dX4_isNumber_4 : decode cX4_isNumber 4 = .ok (.iload_n 0, 1) := by decide +kernel
theorem dX4_isNumber_5 : decode cX4_isNumber 5 = .ok (.bipush 7, 2) := by decide +kernel
theorem dX4_isNumber_7 : decode cX4_isNumber 7 = .ok (.if_icmp .gt 7, 3) := by decide +kernel
theorem dX4_isNumber_10 : decode cX4_isNumber 10 = .ok (.iconst 1, 1) := by decide +kernel
theorem dX4_isNumber_11 : decode cX4_isNumber 11 = .ok (.goto 4, 3) := by decide +kernel
theorem dX4_isNumber_14 : decode cX4_isNumber 14 = .ok (.iconst 0, 1) := by decide +kernel
theorem dX4_isNumber_15 : decode cX4_isNumber 15 = .ok (.ireturn, 1) := by decide +kernel
def F_X4_isNumber (d : Nat) (v0 : Int32) (h : MH) (u : Nat) (Q : Int32 → MH → Prop) : Prop :=
  if v0 < 0 then
    nz 0 ∧ Q 0 h
  else
    if 7 < v0 then
      nz 0 ∧ Q 0 h
    else
      nz 1 ∧ Q 1 h
set_option maxRecDepth 20000 in
theorem E_X4_isNumber {d : Nat} {v0 : Int32} {h : MH} {u : Nat} {Q : Int32 → MH → Prop} (H : F_X4_isNumber d v0 h u Q) : T u_X4_isNumber d 0 [some (jI v0)] [] h u (qI Q) := by
  unfold F_X4_isNumber at H
  refine T_iload_n (pc := 0) dX4_isNumber_0 rfl rfl ?_
  refine T_if_lt (pc := 1) (tgt := 14) dX4_isNumber_1 (by decide) (fun hc => ?_) (fun hc => ?_)
  · rw [if_pos hc] at H
    refine T_iconst (pc := 14) (v := 0) dX4_isNumber_14 (by decide) ?_
    exact T_ireturn (pc := 15) rfl (nz_nar H.1) dX4_isNumber_15 H.2
  · rw [if_neg hc] at H
    refine T_iload_n (pc := 4) dX4_isNumber_4 rfl rfl ?_
    refine T_bipush (pc := 5) (v := 7) dX4_isNumber_5 (by decide) ?_
    refine T_icmp_gt (pc := 7) (tgt := 14) dX4_isNumber_7 (by decide) (fun hc => ?_) (fun hc => ?_)
    · rw [if_pos hc] at H
      refine T_iconst (pc := 14) (v := 0) dX4_isNumber_14 (by decide) ?_
      exact T_ireturn (pc := 15) rfl (nz_nar H.1) dX4_isNumber_15 H.2
    · rw [if_neg hc] at H
      refine T_iconst (pc := 10) (v := 1) dX4_isNumber_10 (by decide) ?_
      refine T_goto (pc := 11) (tgt := 15) dX4_isNumber_11 (by decide) ?_
      exact T_ireturn (pc := 15) rfl (nz_nar H.1) dX4_isNumber_15 H.2
theorem I_X4_isNumber {d : Nat} {v0 : Int32} {h : MH} {u : Nat} {K : Int32 → MH → Nat → Prop} (u1 : Nat) (hu : u1 ≤ u) (H : F_X4_isNumber d v0 h u1 (fun x h2 => K x h2 (u - u1))) : iI d u_X4_isNumber [jI v0] h u K := inv.of u1 hu (Ct.of (by decide +kernel) rfl (Nat.le_of_ble_eq_true rfl) rfl (E_X4_isNumber H))
theorem J_X4_isNumber {d : Nat} {v0 : Int32} {h : MH} {u : Nat} {K : Int32 → MH → Prop} (H : F_X4_isNumber d v0 h 0 K) : iI d u_X4_isNumber [jI v0] h u (fun x h2 u2 => K x h2 ∧ u2 = u) := jiI (by decide +kernel) rfl (Nat.le_of_ble_eq_true rfl) rfl (E_X4_isNumber H)
theorem dX4_isWidened_0 : decode cX4_isWidened 0 = .ok (.iload_n 0, 1) := by decide +kernel
theorem dX4_isWidened_1 : decode cX4_isWidened 1 = .ok (.iload_n 1, 1) := by decide +kernel
theorem dX4_isWidened_2 : decode cX4_isWidened 2 = .ok (.if_icmp .ne 5, 3) := by decide +kernel
theorem dX4_isWidened_5 : decode cX4_isWidened 5 = .ok (.iconst 1, 1) := by decide +kernel
theorem dX4_isWidened_6 : decode cX4_isWidened 6 = .ok (.ireturn, 1) := by decide +kernel
theorem dX4_isWidened_7 : decode cX4_isWidened 7 = .ok (.iload_n 0, 1) := by decide +kernel
theorem dX4_isWidened_8 : decode cX4_isWidened 8 = .ok (.iconst 1, 1) := by decide +kernel
theorem dX4_isWidened_9 : decode cX4_isWidened 9 = .ok (.if_icmp .lt 19, 3) := by decide +kernel
theorem dX4_isWidened_12 : decode cX4_isWidened 12 = .ok (.iload_n 0, 1) := by decide +kernel
theorem dX4_isWidened_13 : decode cX4_isWidened 13 = .ok (.iload_n 1, 1) := by decide +kernel
theorem dX4_isWidened_14 : decode cX4_isWidened 14 = .ok (.if_icmp .gt 14, 3) := by decide +kernel
theorem dX4_isWidened_17 : decode cX4_isWidened 17 = .ok (.iload_n 1, 1) := by decide +kernel
theorem dX4_isWidened_18 : decode cX4_isWidened 18 = .ok (.bipush 7, 2) := by decide +kernel
theorem dX4_isWidened_20 : decode cX4_isWidened 20 = .ok (.if_icmp .gt 8, 3) := by decide +kernel
theorem dX4_isWidened_23 : decode cX4_isWidened 23 = .ok (.iload_n 1, 1) := by decide +kernel
theorem dX4_isWidened_24 : decode cX4_isWidened 24 = .ok (.iconst 2, 1) := by decide +kernel
theorem dX4_isWidened_25 : decode cX4_isWidened 25 = .ok (.if_icmp .ne 5, 3) := by decide +kernel
theorem dX4_isWidened_28 : decode cX4_isWidened 28 = .ok (.iconst 0, 1) := by decide +kernel
theorem dX4_isWidened_29 : decode cX4_isWidened 29 = .ok (.ireturn, 1) := by decide +kernel
theorem dX4_isWidened_30 : decode cX4_isWidened 30 = .ok (.iload_n 0, 1) := by decide +kernel
theorem dX4_isWidened_31 : decode cX4_isWidened 31 = .ok (.iconst 2, 1) := by decide +kernel
theorem dX4_isWidened_32 : decode cX4_isWidened 32 = .ok (.if_icmp .ne 8, 3) := by decide +kernel
theorem dX4_isWidened_35 : decode cX4_isWidened 35 = .ok (.iload_n 1, 1) := by decide +kernel
theorem dX4_isWidened_36 : decode cX4_isWidened 36 = .ok (.iconst 3, 1) := by decide +kernel
theorem dX4_isWidened_37 : decode cX4_isWidened 37 = .ok (.if_icmp .eq 7, 3) := by decide +kernel
theorem dX4_isWidened_40 : decode cX4_isWidened 40 = .ok (.iconst 1, 1) := by decide +kernel
theorem dX4_isWidened_41 : decode cX4_isWidened 41 = .ok (.goto 4, 3) := by decide +kernel
theorem dX4_isWidened_44 : decode cX4_isWidened 44 = .ok (.iconst 0, 1) := by decide +kernel
theorem dX4_isWidened_45 : decode cX4_isWidened 45 = .ok (.ireturn, 1) := by decide +kernel
def F_X4_isWidened (d : Nat) (v0 : Int32) (v1 : Int32) (h : MH) (u : Nat) (Q : Int32 → MH → Prop) : Prop :=
  if v0 = v1 then
    nz 1 ∧ Q 1 h
  else
    if v0 < 1 then
      nz 0 ∧ Q 0 h
    else
      if v1 < v0 then
        nz 0 ∧ Q 0 h
      else
        if 7 < v1 then
          nz 0 ∧ Q 0 h
        else
          if v1 = 2 then
            nz 0 ∧ Q 0 h
          else
            if v0 = 2 then
              if v1 = 3 then
                nz 0 ∧ Q 0 h
              else
                nz 1 ∧ Q 1 h
            else
              nz 1 ∧ Q 1 h
set_option maxRecDepth 20000 in
theorem E_X4_isWidened {d : Nat} {v0 : Int32} {v1 : Int32} {h : MH} {u : Nat} {Q : Int32 → MH → Prop} (H : F_X4_isWidened d v0 v1 h u Q) : T u_X4_isWidened d 0 [some (jI v0), some (jI v1)] [] h u (qI Q) := by
  unfold F_X4_isWidened at H
  refine T_iload_n (pc := 0) dX4_isWidened_0 rfl rfl ?_
  refine T_iload_n (pc := 1) dX4_isWidened_1 rfl rfl ?_
  refine T_icmp_ne (pc := 2) (tgt := 7) dX4_isWidened_2 (by decide) (fun hc => ?_) (fun hc => ?_)
  · rw [if_neg hc] at H
    refine T_iload_n (pc := 7) dX4_isWidened_7 rfl rfl ?_
    refine T_iconst (pc := 8) (v := 1) dX4_isWidened_8 (by decide) ?_
    refine T_icmp_lt (pc := 9) (tgt := 28) dX4_isWidened_9 (by decide) (fun hc => ?_) (fun hc => ?_)
    · rw [if_pos hc] at H
      refine T_iconst (pc := 28) (v := 0) dX4_isWidened_28 (by decide) ?_
      exact T_ireturn (pc := 29) rfl (nz_nar H.1) dX4_isWidened_29 H.2
    · rw [if_neg hc] at H
      refine T_iload_n (pc := 12) dX4_isWidened_12 rfl rfl ?_
      refine T_iload_n (pc := 13) dX4_isWidened_13 rfl rfl ?_
      refine T_icmp_gt (pc := 14) (tgt := 28) dX4_isWidened_14 (by decide) (fun hc => ?_) (fun hc => ?_)
      · rw [if_pos hc] at H
        refine T_iconst (pc := 28) (v := 0) dX4_isWidened_28 (by decide) ?_
        exact T_ireturn (pc := 29) rfl (nz_nar H.1) dX4_isWidened_29 H.2
      · rw [if_neg hc] at H
        refine T_iload_n (pc := 17) dX4_isWidened_17 rfl rfl ?_
        refine T_bipush (pc := 18) (v := 7) dX4_isWidened_18 (by decide) ?_
        refine T_icmp_gt (pc := 20) (tgt := 28) dX4_isWidened_20 (by decide) (fun hc => ?_) (fun hc => ?_)
        · rw [if_pos hc] at H
          refine T_iconst (pc := 28) (v := 0) dX4_isWidened_28 (by decide) ?_
          exact T_ireturn (pc := 29) rfl (nz_nar H.1) dX4_isWidened_29 H.2
        · rw [if_neg hc] at H
          refine T_iload_n (pc := 23) dX4_isWidened_23 rfl rfl ?_
          refine T_iconst (pc := 24) (v := 2) dX4_isWidened_24 (by decide) ?_
          refine T_icmp_ne (pc := 25) (tgt := 30) dX4_isWidened_25 (by decide) (fun hc => ?_) (fun hc => ?_)
          · rw [if_neg hc] at H
            refine T_iload_n (pc := 30) dX4_isWidened_30 rfl rfl ?_
            refine T_iconst (pc := 31) (v := 2) dX4_isWidened_31 (by decide) ?_
            refine T_icmp_ne (pc := 32) (tgt := 40) dX4_isWidened_32 (by decide) (fun hc => ?_) (fun hc => ?_)
            · rw [if_neg hc] at H
              refine T_iconst (pc := 40) (v := 1) dX4_isWidened_40 (by decide) ?_
              refine T_goto (pc := 41) (tgt := 45) dX4_isWidened_41 (by decide) ?_
              exact T_ireturn (pc := 45) rfl (nz_nar H.1) dX4_isWidened_45 H.2
            · rw [if_pos hc] at H
              refine T_iload_n (pc := 35) dX4_isWidened_35 rfl rfl ?_
              refine T_iconst (pc := 36) (v := 3) dX4_isWidened_36 (by decide) ?_
              refine T_icmp_eq (pc := 37) (tgt := 44) dX4_isWidened_37 (by decide) (fun hc => ?_) (fun hc => ?_)
              · rw [if_pos hc] at H
                refine T_iconst (pc := 44) (v := 0) dX4_isWidened_44 (by decide) ?_
                exact T_ireturn (pc := 45) rfl (nz_nar H.1) dX4_isWidened_45 H.2
              · rw [if_neg hc] at H
                refine T_iconst (pc := 40) (v := 1) dX4_isWidened_40 (by decide) ?_
                refine T_goto (pc := 41) (tgt := 45) dX4_isWidened_41 (by decide) ?_
                exact T_ireturn (pc := 45) rfl (nz_nar H.1) dX4_isWidened_45 H.2
          · rw [if_pos hc] at H
            refine T_iconst (pc := 28) (v := 0) dX4_isWidened_28 (by decide) ?_
            exact T_ireturn (pc := 29) rfl (nz_nar H.1) dX4_isWidened_29 H.2
  · rw [if_pos hc] at H
    refine T_iconst (pc := 5) (v := 1) dX4_isWidened_5 (by decide) ?_
    exact T_ireturn (pc := 6) rfl (nz_nar H.1) dX4_isWidened_6 H.2
theorem I_X4_isWidened {d : Nat} {v0 : Int32} {v1 : Int32} {h : MH} {u : Nat} {K : Int32 → MH → Nat → Prop} (u1 : Nat) (hu : u1 ≤ u) (H : F_X4_isWidened d v0 v1 h u1 (fun x h2 => K x h2 (u - u1))) : iI d u_X4_isWidened [jI v0, jI v1] h u K := inv.of u1 hu (Ct.of (by decide +kernel) rfl (Nat.le_of_ble_eq_true rfl) rfl (E_X4_isWidened H))
theorem J_X4_isWidened {d : Nat} {v0 : Int32} {v1 : Int32} {h : MH} {u : Nat} {K : Int32 → MH → Prop} (H : F_X4_isWidened d v0 v1 h 0 K) : iI d u_X4_isWidened [jI v0, jI v1] h u (fun x h2 u2 => K x h2 ∧ u2 = u) := jiI (by decide +kernel) rfl (Nat.le_of_ble_eq_true rfl) rfl (E_X4_isWidened H)
theorem dX4_roundedOff_0 : decode cX4_roundedOff 0 = .ok (.lload_n 0, 1) := by decide +kernel
theorem dX4_roundedOff_1 : decode cX4_roundedOff 1 = .ok (.iload_n 2, 1) := by decide +kernel
theorem dX4_roundedOff_2 : decode cX4_roundedOff 2 = .ok (.lushr, 1) := by decide +kernel
theorem dX4_roundedOff_3 : decode cX4_roundedOff 3 = .ok (.lstore_n 3, 1) := by decide +kernel
theorem dX4_roundedOff_4 : decode cX4_roundedOff 4 = .ok (.lload_n 0, 1) := by decide +kernel
theorem dX4_roundedOff_5 : decode cX4_roundedOff 5 = .ok (.lconst 1, 1) := by decide +kernel
theorem dX4_roundedOff_6 : decode cX4_roundedOff 6 = .ok (.iload_n 2, 1) := by decide +kernel
theorem dX4_roundedOff_7 : decode cX4_roundedOff 7 = .ok (.lshl, 1) := by decide +kernel
theorem dX4_roundedOff_8 : decode cX4_roundedOff 8 = .ok (.lconst 1, 1) := by decide +kernel
theorem dX4_roundedOff_9 : decode cX4_roundedOff 9 = .ok (.lsub, 1) := by decide +kernel
theorem dX4_roundedOff_10 : decode cX4_roundedOff 10 = .ok (.land, 1) := by decide +kernel
theorem dX4_roundedOff_11 : decode cX4_roundedOff 11 = .ok (.lstore 5, 2) := by decide +kernel
theorem dX4_roundedOff_13 : decode cX4_roundedOff 13 = .ok (.lconst 1, 1) := by decide +kernel
theorem dX4_roundedOff_14 : decode cX4_roundedOff 14 = .ok (.iload_n 2, 1) := by decide +kernel
theorem dX4_roundedOff_15 : decode cX4_roundedOff 15 = .ok (.iconst 1, 1) := by decide +kernel
theorem dX4_roundedOff_16 : decode cX4_roundedOff 16 = .ok (.isub, 1) := by decide +kernel
theorem dX4_roundedOff_17 : decode cX4_roundedOff 17 = .ok (.lshl, 1) := by decide +kernel
theorem dX4_roundedOff_18 : decode cX4_roundedOff 18 = .ok (.lstore 7, 2) := by decide +kernel
theorem dX4_roundedOff_20 : decode cX4_roundedOff 20 = .ok (.lload 5, 2) := by decide +kernel
theorem dX4_roundedOff_22 : decode cX4_roundedOff 22 = .ok (.lload 7, 2) := by decide +kernel
theorem dX4_roundedOff_24 : decode cX4_roundedOff 24 = .ok (.lcmp, 1) := by decide +kernel
theorem dX4_roundedOff_25 : decode cX4_roundedOff 25 = .ok (.ifCond .gt 19, 3) := by decide +kernel
theorem dX4_roundedOff_28 : decode cX4_roundedOff 28 = .ok (.lload 5, 2) := by decide +kernel
theorem dX4_roundedOff_30 : decode cX4_roundedOff 30 = .ok (.lload 7, 2) := by decide +kernel
theorem dX4_roundedOff_32 : decode cX4_roundedOff 32 = .ok (.lcmp, 1) := by decide +kernel
theorem dX4_roundedOff_33 : decode cX4_roundedOff 33 = .ok (.ifCond .ne 15, 3) := by decide +kernel
theorem dX4_roundedOff_36 : decode cX4_roundedOff 36 = .ok (.lload_n 3, 1) := by decide +kernel
theorem dX4_roundedOff_37 : decode cX4_roundedOff 37 = .ok (.lconst 1, 1) := by decide +kernel
theorem dX4_roundedOff_38 : decode cX4_roundedOff 38 = .ok (.land, 1) := by decide +kernel
theorem dX4_roundedOff_39 : decode cX4_roundedOff 39 = .ok (.lconst 0, 1) := by decide +kernel
theorem dX4_roundedOff_40 : decode cX4_roundedOff 40 = .ok (.lcmp, 1) := by decide +kernel
theorem dX4_roundedOff_41 : decode cX4_roundedOff 41 = .ok (.ifCond .eq 7, 3) := by decide +kernel
theorem dX4_roundedOff_44 : decode cX4_roundedOff 44 = .ok (.iconst 1, 1) := by decide +kernel
theorem dX4_roundedOff_45 : decode cX4_roundedOff 45 = .ok (.goto 4, 3) := by decide +kernel
theorem dX4_roundedOff_48 : decode cX4_roundedOff 48 = .ok (.iconst 0, 1) := by decide +kernel
theorem dX4_roundedOff_49 : decode cX4_roundedOff 49 = .ok (.istore 9, 2) := by decide +kernel
theorem dX4_roundedOff_51 : decode cX4_roundedOff 51 = .ok (.iload 9, 2) := by decide +kernel
theorem dX4_roundedOff_53 : decode cX4_roundedOff 53 = .ok (.ifCond .eq 9, 3) := by decide +kernel
theorem dX4_roundedOff_56 : decode cX4_roundedOff 56 = .ok (.lload_n 3, 1) := by decide +kernel
theorem dX4_roundedOff_57 : decode cX4_roundedOff 57 = .ok (.lconst 1, 1) := by decide +kernel
theorem dX4_roundedOff_58 : decode cX4_roundedOff 58 = .ok (.ladd, 1) := by decide +kernel
theorem dX4_roundedOff_59 : decode cX4_roundedOff 59 = .ok (.goto 4, 3) := by decide +kernel
theorem dX4_roundedOff_62 : decode cX4_roundedOff 62 = .ok (.lload_n 3, 1) := by decide +kernel
theorem dX4_roundedOff_63 : decode cX4_roundedOff 63 = .ok (.lreturn, 1) := by decide +kernel
def F_X4_roundedOff_49 (d : Nat) (v3 : Int64) (s0 : Int32) (h : MH) (u : Nat) (Q : Int64 → MH → Prop) : Prop :=
  if s0 = 0 then
    Q v3 h
  else
    Q (v3 + 1) h
set_option maxRecDepth 20000 in
theorem E_X4_roundedOff_49 {d : Nat} {v3 : Int64} {s0 : Int32} {h : MH} {u : Nat} {Q : Int64 → MH → Prop} (H : F_X4_roundedOff_49 d v3 s0 h u Q) : T u_X4_roundedOff d 49 [none, none, none, some (jL v3), none, none, none, none, none, none] [jI s0] h u (qL Q) := by
  unfold F_X4_roundedOff_49 at H
  refine T_istore (pc := 49) (ls2 := [none, none, none, some (jL v3), none, none, none, none, none, some (jI s0)]) dX4_roundedOff_49 (Nat.le_of_ble_eq_true rfl) rfl ?_
  refine T_iload (pc := 51) dX4_roundedOff_51 rfl ?_
  refine T_if_eq (pc := 53) (tgt := 62) dX4_roundedOff_53 (by decide) (fun hc => ?_) (fun hc => ?_)
  · rw [if_pos hc] at H
    refine T_lload_n (pc := 62) dX4_roundedOff_62 rfl rfl ?_
    exact T_lreturn (pc := 63) rfl dX4_roundedOff_63 H
  · rw [if_neg hc] at H
    refine T_lload_n (pc := 56) dX4_roundedOff_56 rfl rfl ?_
    refine T_lconst (pc := 57) (v := 1) dX4_roundedOff_57 (by decide) ?_
    refine T_ladd (pc := 58) dX4_roundedOff_58 ?_
    refine T_goto (pc := 59) (tgt := 63) dX4_roundedOff_59 (by decide) ?_
    exact T_lreturn (pc := 63) rfl dX4_roundedOff_63 H
def F_X4_roundedOff_48 (d : Nat) (v3 : Int64) (h : MH) (u : Nat) (Q : Int64 → MH → Prop) : Prop :=
  F_X4_roundedOff_49 d v3 0 h u Q
set_option maxRecDepth 20000 in
theorem E_X4_roundedOff_48 {d : Nat} {v3 : Int64} {h : MH} {u : Nat} {Q : Int64 → MH → Prop} (H : F_X4_roundedOff_48 d v3 h u Q) : T u_X4_roundedOff d 48 [none, none, none, some (jL v3), none, none, none, none, none, none] [] h u (qL Q) := by
  unfold F_X4_roundedOff_48 at H
  refine T_iconst (pc := 48) (v := 0) dX4_roundedOff_48 (by decide) ?_
  exact T.forget (E_X4_roundedOff_49 H) ⟨rfl, trivial⟩
def F_X4_roundedOff_44 (d : Nat) (v3 : Int64) (h : MH) (u : Nat) (Q : Int64 → MH → Prop) : Prop :=
  F_X4_roundedOff_49 d v3 1 h u Q
set_option maxRecDepth 20000 in
theorem E_X4_roundedOff_44 {d : Nat} {v3 : Int64} {h : MH} {u : Nat} {Q : Int64 → MH → Prop} (H : F_X4_roundedOff_44 d v3 h u Q) : T u_X4_roundedOff d 44 [none, none, none, some (jL v3), none, none, none, none, none, none] [] h u (qL Q) := by
  unfold F_X4_roundedOff_44 at H
  refine T_iconst (pc := 44) (v := 1) dX4_roundedOff_44 (by decide) ?_
  refine T_goto (pc := 45) (tgt := 49) dX4_roundedOff_45 (by decide) ?_
  exact T.forget (E_X4_roundedOff_49 H) ⟨rfl, trivial⟩
def F_X4_roundedOff (d : Nat) (v0 : Int64) (v2 : Int32) (h : MH) (u : Nat) (Q : Int64 → MH → Prop) : Prop :=
  nm ((v0.toUInt64 >>> (v2.toInt64.toUInt64 &&& Int64.toUInt64 63)).toInt64) fun x1 =>
  nm (v0 &&& (((1 : Int64) <<< (v2.toInt64 &&& 63)) - 1)) fun x2 =>
  nm ((1 : Int64) <<< ((v2 - 1).toInt64 &&& 63)) fun x3 =>
  if 0 < (lg_cmp x2 x3) then
    F_X4_roundedOff_44 d x1 h u Q
  else
    if (lg_cmp x2 x3) = 0 then
      if (lg_cmp (x1 &&& 1) 0) = 0 then
        F_X4_roundedOff_48 d x1 h u Q
      else
        F_X4_roundedOff_44 d x1 h u Q
    else
      F_X4_roundedOff_48 d x1 h u Q
set_option maxRecDepth 20000 in
theorem E_X4_roundedOff {d : Nat} {v0 : Int64} {v2 : Int32} {h : MH} {u : Nat} {Q : Int64 → MH → Prop} (H : F_X4_roundedOff d v0 v2 h u Q) : T u_X4_roundedOff d 0 [some (jL v0), none, some (jI v2), none, none, none, none, none, none, none] [] h u (qL Q) := by
  unfold F_X4_roundedOff at H
  refine T_lload_n (pc := 0) dX4_roundedOff_0 rfl rfl ?_
  refine T_iload_n (pc := 1) dX4_roundedOff_1 rfl rfl ?_
  refine T_lushr (pc := 2) dX4_roundedOff_2 ?_
  refine T_lstoreK (pc := 3) (i := 0) (I := .nop) (len := 1) (f := fun x1 => [some (jL v0), none, some (jI v2), some (jL x1), none, none, none, none, none, none]) (fun x1 k => T_lstore_n (pc := 3) dX4_roundedOff_3 rfl (Nat.le_of_ble_eq_true rfl) rfl k) (nm_mono (fun x1 H => ?_) H)
  refine T_lload_n (pc := 4) dX4_roundedOff_4 rfl rfl ?_
  refine T_lconst (pc := 5) (v := 1) dX4_roundedOff_5 (by decide) ?_
  refine T_iload_n (pc := 6) dX4_roundedOff_6 rfl rfl ?_
  refine T_lshl (pc := 7) dX4_roundedOff_7 ?_
  refine T_lconst (pc := 8) (v := 1) dX4_roundedOff_8 (by decide) ?_
  refine T_lsub (pc := 9) dX4_roundedOff_9 ?_
  refine T_land (pc := 10) dX4_roundedOff_10 ?_
  refine T_lstoreK (pc := 11) (i := 0) (I := .nop) (len := 2) (f := fun x2 => [some (jL v0), none, some (jI v2), some (jL x1), none, some (jL x2), none, none, none, none]) (fun x2 k => T_lstore (pc := 11) dX4_roundedOff_11 (Nat.le_of_ble_eq_true rfl) rfl k) (nm_mono (fun x2 H => ?_) H)
  refine T_lconst (pc := 13) (v := 1) dX4_roundedOff_13 (by decide) ?_
  refine T_iload_n (pc := 14) dX4_roundedOff_14 rfl rfl ?_
  refine T_iconst (pc := 15) (v := 1) dX4_roundedOff_15 (by decide) ?_
  refine T_isub (pc := 16) dX4_roundedOff_16 ?_
  refine T_lshl (pc := 17) dX4_roundedOff_17 ?_
  refine T_lstoreK (pc := 18) (i := 0) (I := .nop) (len := 2) (f := fun x3 => [some (jL v0), none, some (jI v2), some (jL x1), none, some (jL x2), none, some (jL x3), none, none]) (fun x3 k => T_lstore (pc := 18) dX4_roundedOff_18 (Nat.le_of_ble_eq_true rfl) rfl k) (nm_mono (fun x3 H => ?_) H)
  refine T_lload (pc := 20) dX4_roundedOff_20 rfl ?_
  refine T_lload (pc := 22) dX4_roundedOff_22 rfl ?_
  refine T_lcmp (pc := 24) dX4_roundedOff_24 ?_
  refine T_if_gt (pc := 25) (tgt := 44) dX4_roundedOff_25 (by decide) (fun hc => ?_) (fun hc => ?_)
  · rw [if_pos hc] at H
    exact T.forget (E_X4_roundedOff_44 H) ⟨rfl, trivial⟩
  · rw [if_neg hc] at H
    refine T_lload (pc := 28) dX4_roundedOff_28 rfl ?_
    refine T_lload (pc := 30) dX4_roundedOff_30 rfl ?_
    refine T_lcmp (pc := 32) dX4_roundedOff_32 ?_
    refine T_if_ne (pc := 33) (tgt := 48) dX4_roundedOff_33 (by decide) (fun hc => ?_) (fun hc => ?_)
    · rw [if_neg hc] at H
      exact T.forget (E_X4_roundedOff_48 H) ⟨rfl, trivial⟩
    · rw [if_pos hc] at H
      refine T_lload_n (pc := 36) dX4_roundedOff_36 rfl rfl ?_
      refine T_lconst (pc := 37) (v := 1) dX4_roundedOff_37 (by decide) ?_
      refine T_land (pc := 38) dX4_roundedOff_38 ?_
      refine T_lconst (pc := 39) (v := 0) dX4_roundedOff_39 (by decide) ?_
      refine T_lcmp (pc := 40) dX4_roundedOff_40 ?_
      refine T_if_eq (pc := 41) (tgt := 48) dX4_roundedOff_41 (by decide) (fun hc => ?_) (fun hc => ?_)
      · rw [if_pos hc] at H
        exact T.forget (E_X4_roundedOff_48 H) ⟨rfl, trivial⟩
      · rw [if_neg hc] at H
        exact T.forget (E_X4_roundedOff_44 H) ⟨rfl, trivial⟩
theorem I_X4_roundedOff {d : Nat} {v0 : Int64} {v2 : Int32} {h : MH} {u : Nat} {K : Int64 → MH → Nat → Prop} (u1 : Nat) (hu : u1 ≤ u) (H : F_X4_roundedOff d v0 v2 h u1 (fun x h2 => K x h2 (u - u1))) : iL d u_X4_roundedOff [jL v0, jI v2] h u K := inv.of u1 hu (Ct.of (by decide +kernel) rfl (Nat.le_of_ble_eq_true rfl) rfl (E_X4_roundedOff H))
theorem J_X4_roundedOff {d : Nat} {v0 : Int64} {v2 : Int32} {h : MH} {u : Nat} {K : Int64 → MH → Prop} (H : F_X4_roundedOff d v0 v2 h 0 K) : iL d u_X4_roundedOff [jL v0, jI v2] h u (fun x h2 u2 => K x h2 ∧ u2 = u) := jiL (by decide +kernel) rfl (Nat.le_of_ble_eq_true rfl) rfl (E_X4_roundedOff H)
theorem dX4_topBit_0 : decode cX4_topBit 0 = .ok (.bipush 63, 2) := by decide +kernel
theorem dX4_topBit_2 : decode cX4_topBit 2 = .ok (.istore_n 2, 1) := by decide +kernel
theorem dX4_topBit_3 : decode cX4_topBit 3 = .ok (.iload_n 2, 1) := by decide +kernel
theorem dX4_topBit_4 : decode cX4_topBit 4 = .ok (.ifCond .le 17, 3) := by decide +kernel
theorem dX4_topBit_7 : decode cX4_topBit 7 = .ok (.lload_n 0, 1) := by decide +kernel
theorem dX4_topBit_8 : decode cX4_topBit 8 = .ok (.iload_n 2, 1) := by decide +kernel
theorem dX4_topBit_9 : decode cX4_topBit 9 = .ok (.lushr, 1) := by decide +kernel
theorem dX4_topBit_10 : decode cX4_topBit 10 = .ok (.lconst 0, 1) := by decide +kernel
theorem dX4_topBit_11 : decode cX4_topBit 11 = .ok (.lcmp, 1) := by decide +kernel
theorem dX4_topBit_12 : decode cX4_topBit 12 = .ok (.ifCond .ne 9, 3) := by decide +kernel
theorem dX4_topBit_15 : decode cX4_topBit 15 = .ok (.iinc 2 (-1), 3) := by decide +kernel
theorem dX4_topBit_18 : decode cX4_topBit 18 = .ok (.goto (-15), 3) := by decide +kernel
theorem dX4_topBit_21 : decode cX4_topBit 21 = .ok (.iload_n 2, 1) := by decide +kernel
theorem dX4_topBit_22 : decode cX4_topBit 22 = .ok (.ireturn, 1) := by decide +kernel
def L_X4_topBit_3 (d : Nat) (v0 : Int64) (v2 : Int32) (h : MH) (u : Nat) (Q : Int32 → MH → Prop) : Prop := T u_X4_topBit d 3 [some (jL v0), none, some (jI v2)] [] h u (qI Q)
def F_X4_topBit (d : Nat) (v0 : Int64) (h : MH) (u : Nat) (Q : Int32 → MH → Prop) : Prop :=
  L_X4_topBit_3 d v0 63 h u Q
set_option maxRecDepth 20000 in
theorem E_X4_topBit {d : Nat} {v0 : Int64} {h : MH} {u : Nat} {Q : Int32 → MH → Prop} (H : F_X4_topBit d v0 h u Q) : T u_X4_topBit d 0 [some (jL v0), none, none] [] h u (qI Q) := by
  unfold F_X4_topBit at H
  refine T_bipush (pc := 0) (v := 63) dX4_topBit_0 (by decide) ?_
  refine T_istore_n (pc := 2) (ls2 := [some (jL v0), none, some (jI 63)]) dX4_topBit_2 rfl (Nat.le_of_ble_eq_true rfl) rfl ?_
  exact T.forget H ⟨rfl, rfl, trivial⟩
def F_X4_topBit_3 (d : Nat) (v0 : Int64) (v2 : Int32) (h : MH) (u : Nat) (Q : Int32 → MH → Prop) : Prop :=
  if v2 ≤ 0 then
    Q v2 h
  else
    if (lg_cmp ((v0.toUInt64 >>> (v2.toInt64.toUInt64 &&& Int64.toUInt64 63)).toInt64) 0) = 0 then
      L_X4_topBit_3 d v0 (v2 + (-1)) h u Q
    else
      Q v2 h
set_option maxRecDepth 20000 in
theorem E_X4_topBit_3 {d : Nat} {v0 : Int64} {v2 : Int32} {h : MH} {u : Nat} {Q : Int32 → MH → Prop} (H : F_X4_topBit_3 d v0 v2 h u Q) : T u_X4_topBit d 3 [some (jL v0), none, some (jI v2)] [] h u (qI Q) := by
  unfold F_X4_topBit_3 at H
  refine T_iload_n (pc := 3) dX4_topBit_3 rfl rfl ?_
  refine T_if_le (pc := 4) (tgt := 21) dX4_topBit_4 (by decide) (fun hc => ?_) (fun hc => ?_)
  · rw [if_pos hc] at H
    refine T_iload_n (pc := 21) dX4_topBit_21 rfl rfl ?_
    exact T_ireturn (pc := 22) rfl rfl dX4_topBit_22 H
  · rw [if_neg hc] at H
    refine T_lload_n (pc := 7) dX4_topBit_7 rfl rfl ?_
    refine T_iload_n (pc := 8) dX4_topBit_8 rfl rfl ?_
    refine T_lushr (pc := 9) dX4_topBit_9 ?_
    refine T_lconst (pc := 10) (v := 0) dX4_topBit_10 (by decide) ?_
    refine T_lcmp (pc := 11) dX4_topBit_11 ?_
    refine T_if_ne (pc := 12) (tgt := 21) dX4_topBit_12 (by decide) (fun hc => ?_) (fun hc => ?_)
    · rw [if_neg hc] at H
      refine T_iload_n (pc := 21) dX4_topBit_21 rfl rfl ?_
      exact T_ireturn (pc := 22) rfl rfl dX4_topBit_22 H
    · rw [if_pos hc] at H
      refine T_iinc (pc := 15) (v := v2 + (-1)) (ls2 := [some (jL v0), none, some (jI (v2 + (-1)))]) dX4_topBit_15 rfl rfl (Nat.le_of_ble_eq_true rfl) rfl ?_
      refine T_goto (pc := 18) (tgt := 3) dX4_topBit_18 (by decide) ?_
      exact T.forget H ⟨rfl, rfl, trivial⟩
theorem I_X4_topBit {d : Nat} {v0 : Int64} {h : MH} {u : Nat} {K : Int32 → MH → Nat → Prop} (u1 : Nat) (hu : u1 ≤ u) (H : F_X4_topBit d v0 h u1 (fun x h2 => K x h2 (u - u1))) : iI d u_X4_topBit [jL v0] h u K := inv.of u1 hu (Ct.of (by decide +kernel) rfl (Nat.le_of_ble_eq_true rfl) rfl (E_X4_topBit H))
theorem J_X4_topBit {d : Nat} {v0 : Int64} {h : MH} {u : Nat} {K : Int32 → MH → Prop} (H : F_X4_topBit d v0 h 0 K) : iI d u_X4_topBit [jL v0] h u (fun x h2 u2 => K x h2 ∧ u2 = u) := jiI (by decide +kernel) rfl (Nat.le_of_ble_eq_true rfl) rfl (E_X4_topBit H)
theorem dX4_roundedBits_0 : decode cX4_roundedBits 0 = .ok (.lload_n 0, 1) := by decide +kernel
theorem dX4_roundedBits_1 : decode cX4_roundedBits 1 = .ok (.lconst 0, 1) := by decide +kernel
theorem dX4_roundedBits_2 : decode cX4_roundedBits 2 = .ok (.lcmp, 1) := by decide +kernel
theorem dX4_roundedBits_3 : decode cX4_roundedBits 3 = .ok (.ifCond .ne 5, 3) := by decide +kernel
theorem dX4_roundedBits_6 : decode cX4_roundedBits 6 = .ok (.lconst 0, 1) := by decide +kernel
theorem dX4_roundedBits_7 : decode cX4_roundedBits 7 = .ok (.lreturn, 1) := by decide +kernel
theorem dX4_roundedBits_8 : decode cX4_roundedBits 8 = .ok (.lload_n 0, 1) := by decide +kernel
theorem dX4_roundedBits_9 : decode cX4_roundedBits 9 = .ok (.lconst 0, 1) := by decide +kernel
theorem dX4_roundedBits_10 : decode cX4_roundedBits 10 = .ok (.lcmp, 1) := by decide +kernel
theorem dX4_roundedBits_11 : decode cX4_roundedBits 11 = .ok (.ifCond .ge 8, 3) := by decide +kernel
theorem dX4_roundedBits_14 : decode cX4_roundedBits 14 = .ok (.lload_n 0, 1) := by decide +kernel
theorem dX4_roundedBits_15 : decode cX4_roundedBits 15 = .ok (.lneg, 1) := by decide +kernel
theorem dX4_roundedBits_16 : decode cX4_roundedBits 16 = .ok (.goto 4, 3) := by decide +kernel
theorem dX4_roundedBits_19 : decode cX4_roundedBits 19 = .ok (.lload_n 0, 1) := by decide +kernel
theorem dX4_roundedBits_20 : decode cX4_roundedBits 20 = .ok (.lstore 4, 2) := by decide +kernel
theorem dX4_roundedBits_22 : decode cX4_roundedBits 22 = .ok (.lload 4, 2) := by decide +kernel
theorem dX4_roundedBits_24 : decode cX4_roundedBits 24 = .ok (.invokestatic 44, 3) := by decide +kernel
theorem dX4_roundedBits_27 : decode cX4_roundedBits 27 = .ok (.istore 6, 2) := by decide +kernel
theorem dX4_roundedBits_29 : decode cX4_roundedBits 29 = .ok (.iload 6, 2) := by decide +kernel
theorem dX4_roundedBits_31 : decode cX4_roundedBits 31 = .ok (.iload_n 2, 1) := by decide +kernel
theorem dX4_roundedBits_32 : decode cX4_roundedBits 32 = .ok (.if_icmp .gt 13, 3) := by decide +kernel
theorem dX4_roundedBits_35 : decode cX4_roundedBits 35 = .ok (.lload 4, 2) := by decide +kernel
theorem dX4_roundedBits_37 : decode cX4_roundedBits 37 = .ok (.iload_n 2, 1) := by decide +kernel
theorem dX4_roundedBits_38 : decode cX4_roundedBits 38 = .ok (.iload 6, 2) := by decide +kernel
theorem dX4_roundedBits_40 : decode cX4_roundedBits 40 = .ok (.isub, 1) := by decide +kernel
theorem dX4_roundedBits_41 : decode cX4_roundedBits 41 = .ok (.lshl, 1) := by decide +kernel
theorem dX4_roundedBits_42 : decode cX4_roundedBits 42 = .ok (.goto 12, 3) := by decide +kernel
theorem dX4_roundedBits_45 : decode cX4_roundedBits 45 = .ok (.lload 4, 2) := by decide +kernel
theorem dX4_roundedBits_47 : decode cX4_roundedBits 47 = .ok (.iload 6, 2) := by decide +kernel
theorem dX4_roundedBits_49 : decode cX4_roundedBits 49 = .ok (.iload_n 2, 1) := by decide +kernel
theorem dX4_roundedBits_50 : decode cX4_roundedBits 50 = .ok (.isub, 1) := by decide +kernel
theorem dX4_roundedBits_51 : decode cX4_roundedBits 51 = .ok (.invokestatic 48, 3) := by decide +kernel
theorem dX4_roundedBits_54 : decode cX4_roundedBits 54 = .ok (.lstore 7, 2) := by decide +kernel
theorem dX4_roundedBits_56 : decode cX4_roundedBits 56 = .ok (.iload 6, 2) := by decide +kernel
theorem dX4_roundedBits_58 : decode cX4_roundedBits 58 = .ok (.iload_n 3, 1) := by decide +kernel
theorem dX4_roundedBits_59 : decode cX4_roundedBits 59 = .ok (.iadd, 1) := by decide +kernel
theorem dX4_roundedBits_60 : decode cX4_roundedBits 60 = .ok (.i2l, 1) := by decide +kernel
theorem dX4_roundedBits_61 : decode cX4_roundedBits 61 = .ok (.iload_n 2, 1) := by decide +kernel
theorem dX4_roundedBits_62 : decode cX4_roundedBits 62 = .ok (.lshl, 1) := by decide +kernel
theorem dX4_roundedBits_63 : decode cX4_roundedBits 63 = .ok (.lload 7, 2) := by decide +kernel
theorem dX4_roundedBits_65 : decode cX4_roundedBits 65 = .ok (.lconst 1, 1) := by decide +kernel
theorem dX4_roundedBits_66 : decode cX4_roundedBits 66 = .ok (.iload_n 2, 1) := by decide +kernel
theorem dX4_roundedBits_67 : decode cX4_roundedBits 67 = .ok (.lshl, 1) := by decide +kernel
theorem dX4_roundedBits_68 : decode cX4_roundedBits 68 = .ok (.lsub, 1) := by decide +kernel
theorem dX4_roundedBits_69 : decode cX4_roundedBits 69 = .ok (.ladd, 1) := by decide +kernel
theorem dX4_roundedBits_70 : decode cX4_roundedBits 70 = .ok (.lreturn, 1) := by decide +kernel
def F_X4_roundedBits_54 (d : Nat) (v2 : Int32) (v3 : Int32) (v6 : Int32) (s0 : Int64) (h : MH) (u : Nat) (Q : Int64 → MH → Prop) : Prop :=
  Q ((((v6 + v3).toInt64) <<< (v2.toInt64 &&& 63)) + (s0 - ((1 : Int64) <<< (v2.toInt64 &&& 63)))) h
set_option maxRecDepth 20000 in
theorem E_X4_roundedBits_54 {d : Nat} {v2 : Int32} {v3 : Int32} {v6 : Int32} {s0 : Int64} {h : MH} {u : Nat} {Q : Int64 → MH → Prop} (H : F_X4_roundedBits_54 d v2 v3 v6 s0 h u Q) : T u_X4_roundedBits (d + 1) 54 [none, none, some (jI v2), some (jI v3), none, none, some (jI v6), none, none] [jL s0] h u (qL Q) := by
  unfold F_X4_roundedBits_54 at H
  refine T_lstore (pc := 54) (ls2 := [none, none, some (jI v2), some (jI v3), none, none, some (jI v6), some (jL s0), none]) dX4_roundedBits_54 (Nat.le_of_ble_eq_true rfl) rfl ?_
  refine T_iload (pc := 56) dX4_roundedBits_56 rfl ?_
  refine T_iload_n (pc := 58) dX4_roundedBits_58 rfl rfl ?_
  refine T_iadd (pc := 59) dX4_roundedBits_59 ?_
  refine T_i2l (pc := 60) dX4_roundedBits_60 ?_
  refine T_iload_n (pc := 61) dX4_roundedBits_61 rfl rfl ?_
  refine T_lshl (pc := 62) dX4_roundedBits_62 ?_
  refine T_lload (pc := 63) dX4_roundedBits_63 rfl ?_
  refine T_lconst (pc := 65) (v := 1) dX4_roundedBits_65 (by decide) ?_
  refine T_iload_n (pc := 66) dX4_roundedBits_66 rfl rfl ?_
  refine T_lshl (pc := 67) dX4_roundedBits_67 ?_
  refine T_lsub (pc := 68) dX4_roundedBits_68 ?_
  refine T_ladd (pc := 69) dX4_roundedBits_69 ?_
  exact T_lreturn (pc := 70) rfl dX4_roundedBits_70 H
def F_X4_roundedBits_20 (d : Nat) (v2 : Int32) (v3 : Int32) (s0 : Int64) (h : MH) (u : Nat) (Q : Int64 → MH → Prop) : Prop :=
  F_X4_topBit d s0 h 0 fun x1 h =>
  if v2 < x1 then
    F_X4_roundedOff d s0 (x1 - v2) h 0 fun x2 h =>
    F_X4_roundedBits_54 d v2 v3 x1 x2 h u Q
  else
    F_X4_roundedBits_54 d v2 v3 x1 (s0 <<< ((v2 - x1).toInt64 &&& 63)) h u Q
set_option maxRecDepth 20000 in
theorem E_X4_roundedBits_20 {d : Nat} {v2 : Int32} {v3 : Int32} {s0 : Int64} {h : MH} {u : Nat} {Q : Int64 → MH → Prop} (H : F_X4_roundedBits_20 d v2 v3 s0 h u Q) : T u_X4_roundedBits (d + 1) 20 [none, none, some (jI v2), some (jI v3), none, none, none, none, none] [jL s0] h u (qL Q) := by
  unfold F_X4_roundedBits_20 at H
  refine T_lstore (pc := 20) (ls2 := [none, none, some (jI v2), some (jI v3), some (jL s0), none, none, none, none]) dX4_roundedBits_20 (Nat.le_of_ble_eq_true rfl) rfl ?_
  refine T_lload (pc := 22) dX4_roundedBits_22 rfl ?_
  refine T_invS (pc := 24) (av := [jL s0]) (rest := []) dX4_roundedBits_24 mf_X4_topBit c_2_28 c_2_29 rfl (Nat.le_of_ble_eq_true rfl) rfl (iI_k (iI_m0 (fun x1 h H => ?_) (J_X4_topBit (d := d) H)))
  refine T_istore (pc := 27) (ls2 := [none, none, some (jI v2), some (jI v3), some (jL s0), none, some (jI x1), none, none]) dX4_roundedBits_27 (Nat.le_of_ble_eq_true rfl) rfl ?_
  refine T_iload (pc := 29) dX4_roundedBits_29 rfl ?_
  refine T_iload_n (pc := 31) dX4_roundedBits_31 rfl rfl ?_
  refine T_icmp_gt (pc := 32) (tgt := 45) dX4_roundedBits_32 (by decide) (fun hc => ?_) (fun hc => ?_)
  · rw [if_pos hc] at H
    refine T_lload (pc := 45) dX4_roundedBits_45 rfl ?_
    refine T_iload (pc := 47) dX4_roundedBits_47 rfl ?_
    refine T_iload_n (pc := 49) dX4_roundedBits_49 rfl rfl ?_
    refine T_isub (pc := 50) dX4_roundedBits_50 ?_
    refine T_invS (pc := 51) (av := [jL s0, jI (x1 - v2)]) (rest := []) dX4_roundedBits_51 mf_X4_roundedOff c_2_31 c_2_32 rfl (Nat.le_of_ble_eq_true rfl) rfl (iL_k (iL_m0 (fun x2 h H => ?_) (J_X4_roundedOff (d := d) H)))
    exact T.forget (E_X4_roundedBits_54 H) ⟨rfl, rfl, rfl, trivial⟩
  · rw [if_neg hc] at H
    refine T_lload (pc := 35) dX4_roundedBits_35 rfl ?_
    refine T_iload_n (pc := 37) dX4_roundedBits_37 rfl rfl ?_
    refine T_iload (pc := 38) dX4_roundedBits_38 rfl ?_
    refine T_isub (pc := 40) dX4_roundedBits_40 ?_
    refine T_lshl (pc := 41) dX4_roundedBits_41 ?_
    refine T_goto (pc := 42) (tgt := 54) dX4_roundedBits_42 (by decide) ?_
    exact T.forget (E_X4_roundedBits_54 H) ⟨rfl, rfl, rfl, trivial⟩
def F_X4_roundedBits (d : Nat) (v0 : Int64) (v2 : Int32) (v3 : Int32) (h : MH) (u : Nat) (Q : Int64 → MH → Prop) : Prop :=
  if (lg_cmp v0 0) = 0 then
    Q 0 h
  else
    if 0 ≤ (lg_cmp v0 0) then
      F_X4_roundedBits_20 d v2 v3 v0 h u Q
    else
      F_X4_roundedBits_20 d v2 v3 (-v0) h u Q
set_option maxRecDepth 20000 in
theorem E_X4_roundedBits {d : Nat} {v0 : Int64} {v2 : Int32} {v3 : Int32} {h : MH} {u : Nat} {Q : Int64 → MH → Prop} (H : F_X4_roundedBits d v0 v2 v3 h u Q) : T u_X4_roundedBits (d + 1) 0 [some (jL v0), none, some (jI v2), some (jI v3), none, none, none, none, none] [] h u (qL Q) := by
  unfold F_X4_roundedBits at H
  refine T_lload_n (pc := 0) dX4_roundedBits_0 rfl rfl ?_
  refine T_lconst (pc := 1) (v := 0) dX4_roundedBits_1 (by decide) ?_
  refine T_lcmp (pc := 2) dX4_roundedBits_2 ?_
  refine T_if_ne (pc := 3) (tgt := 8) dX4_roundedBits_3 (by decide) (fun hc => ?_) (fun hc => ?_)
  · rw [if_neg hc] at H
    refine T_lload_n (pc := 8) dX4_roundedBits_8 rfl rfl ?_
    refine T_lconst (pc := 9) (v := 0) dX4_roundedBits_9 (by decide) ?_
    refine T_lcmp (pc := 10) dX4_roundedBits_10 ?_
    refine T_if_ge (pc := 11) (tgt := 19) dX4_roundedBits_11 (by decide) (fun hc => ?_) (fun hc => ?_)
    · rw [if_pos hc] at H
      refine T_lload_n (pc := 19) dX4_roundedBits_19 rfl rfl ?_
      exact T.forget (E_X4_roundedBits_20 H) ⟨rfl, rfl, trivial⟩
    · rw [if_neg hc] at H
      refine T_lload_n (pc := 14) dX4_roundedBits_14 rfl rfl ?_
      refine T_lneg (pc := 15) dX4_roundedBits_15 ?_
      refine T_goto (pc := 16) (tgt := 20) dX4_roundedBits_16 (by decide) ?_
      exact T.forget (E_X4_roundedBits_20 H) ⟨rfl, rfl, trivial⟩
  · rw [if_pos hc] at H
    refine T_lconst (pc := 6) (v := 0) dX4_roundedBits_6 (by decide) ?_
    exact T_lreturn (pc := 7) rfl dX4_roundedBits_7 H
theorem I_X4_roundedBits {d : Nat} {v0 : Int64} {v2 : Int32} {v3 : Int32} {h : MH} {u : Nat} {K : Int64 → MH → Nat → Prop} (u1 : Nat) (hu : u1 ≤ u) (H : F_X4_roundedBits d v0 v2 v3 h u1 (fun x h2 => K x h2 (u - u1))) : iL (d + 1) u_X4_roundedBits [jL v0, jI v2, jI v3] h u K := inv.of u1 hu (Ct.of (by decide +kernel) rfl (Nat.le_of_ble_eq_true rfl) rfl (E_X4_roundedBits H))
theorem J_X4_roundedBits {d : Nat} {v0 : Int64} {v2 : Int32} {v3 : Int32} {h : MH} {u : Nat} {K : Int64 → MH → Prop} (H : F_X4_roundedBits d v0 v2 v3 h 0 K) : iL (d + 1) u_X4_roundedBits [jL v0, jI v2, jI v3] h u (fun x h2 u2 => K x h2 ∧ u2 = u) := jiL (by decide +kernel) rfl (Nat.le_of_ble_eq_true rfl) rfl (E_X4_roundedBits H)
theorem dX4_doubleBits_0 : decode cX4_doubleBits 0 = .ok (.lload_n 0, 1) := by decide +kernel
theorem dX4_doubleBits_1 : decode cX4_doubleBits 1 = .ok (.bipush 52, 2) := by decide +kernel
theorem dX4_doubleBits_3 : decode cX4_doubleBits 3 = .ok (.sipush 1023, 3) := by decide +kernel
theorem dX4_doubleBits_6 : decode cX4_doubleBits 6 = .ok (.invokestatic 35, 3) := by decide +kernel
theorem dX4_doubleBits_9 : decode cX4_doubleBits 9 = .ok (.lstore_n 2, 1) := by decide +kernel
theorem dX4_doubleBits_10 : decode cX4_doubleBits 10 = .ok (.lload_n 0, 1) := by decide +kernel
theorem dX4_doubleBits_11 : decode cX4_doubleBits 11 = .ok (.lconst 0, 1) := by decide +kernel
theorem dX4_doubleBits_12 : decode cX4_doubleBits 12 = .ok (.lcmp, 1) := by decide +kernel
theorem dX4_doubleBits_13 : decode cX4_doubleBits 13 = .ok (.ifCond .ge 11, 3) := by decide +kernel
theorem dX4_doubleBits_16 : decode cX4_doubleBits 16 = .ok (.lload_n 2, 1) := by decide +kernel
theorem dX4_doubleBits_17 : decode cX4_doubleBits 17 = .ok (.ldc2_w 42, 3) := by decide +kernel
theorem dX4_doubleBits_20 : decode cX4_doubleBits 20 = .ok (.lor, 1) := by decide +kernel
theorem dX4_doubleBits_21 : decode cX4_doubleBits 21 = .ok (.goto 4, 3) := by decide +kernel
theorem dX4_doubleBits_24 : decode cX4_doubleBits 24 = .ok (.lload_n 2, 1) := by decide +kernel
theorem dX4_doubleBits_25 : decode cX4_doubleBits 25 = .ok (.lreturn, 1) := by decide +kernel
def F_X4_doubleBits (d : Nat) (v0 : Int64) (h : MH) (u : Nat) (Q : Int64 → MH → Prop) : Prop :=
  F_X4_roundedBits d v0 52 1023 h 0 fun x1 h =>
  if 0 ≤ (lg_cmp v0 0) then
    Q x1 h
  else
    Q (x1 ||| (-9223372036854775808)) h
set_option maxRecDepth 20000 in
theorem E_X4_doubleBits {d : Nat} {v0 : Int64} {h : MH} {u : Nat} {Q : Int64 → MH → Prop} (H : F_X4_doubleBits d v0 h u Q) : T u_X4_doubleBits (d + 2) 0 [some (jL v0), none, none, none] [] h u (qL Q) := by
  unfold F_X4_doubleBits at H
  refine T_lload_n (pc := 0) dX4_doubleBits_0 rfl rfl ?_
  refine T_bipush (pc := 1) (v := 52) dX4_doubleBits_1 (by decide) ?_
  refine T_sipush (pc := 3) (v := 1023) dX4_doubleBits_3 (by decide) ?_
  refine T_invS (pc := 6) (av := [jL v0, jI 52, jI 1023]) (rest := []) dX4_doubleBits_6 mf_X4_roundedBits c_2_25 c_2_26 rfl (Nat.le_of_ble_eq_true rfl) rfl (iL_k (iL_m0 (fun x1 h H => ?_) (J_X4_roundedBits (d := d) H)))
  refine T_lstore_n (pc := 9) (ls2 := [some (jL v0), none, some (jL x1), none]) dX4_doubleBits_9 rfl (Nat.le_of_ble_eq_true rfl) rfl ?_
  refine T_lload_n (pc := 10) dX4_doubleBits_10 rfl rfl ?_
  refine T_lconst (pc := 11) (v := 0) dX4_doubleBits_11 (by decide) ?_
  refine T_lcmp (pc := 12) dX4_doubleBits_12 ?_
  refine T_if_ge (pc := 13) (tgt := 24) dX4_doubleBits_13 (by decide) (fun hc => ?_) (fun hc => ?_)
  · rw [if_pos hc] at H
    refine T_lload_n (pc := 24) dX4_doubleBits_24 rfl rfl ?_
    exact T_lreturn (pc := 25) rfl dX4_doubleBits_25 H
  · rw [if_neg hc] at H
    refine T_lload_n (pc := 16) dX4_doubleBits_16 rfl rfl ?_
    refine T_ldc2 (pc := 17) (v := (-9223372036854775808)) dX4_doubleBits_17 c_2_38 ?_
    refine T_lor (pc := 20) dX4_doubleBits_20 ?_
    refine T_goto (pc := 21) (tgt := 25) dX4_doubleBits_21 (by decide) ?_
    exact T_lreturn (pc := 25) rfl dX4_doubleBits_25 H
theorem I_X4_doubleBits {d : Nat} {v0 : Int64} {h : MH} {u : Nat} {K : Int64 → MH → Nat → Prop} (u1 : Nat) (hu : u1 ≤ u) (H : F_X4_doubleBits d v0 h u1 (fun x h2 => K x h2 (u - u1))) : iL (d + 2) u_X4_doubleBits [jL v0] h u K := inv.of u1 hu (Ct.of (by decide +kernel) rfl (Nat.le_of_ble_eq_true rfl) rfl (E_X4_doubleBits H))
theorem J_X4_doubleBits {d : Nat} {v0 : Int64} {h : MH} {u : Nat} {K : Int64 → MH → Prop} (H : F_X4_doubleBits d v0 h 0 K) : iL (d + 2) u_X4_doubleBits [jL v0] h u (fun x h2 u2 => K x h2 ∧ u2 = u) := jiL (by decide +kernel) rfl (Nat.le_of_ble_eq_true rfl) rfl (E_X4_doubleBits H)
theorem dX4_floatBits_0 : decode cX4_floatBits 0 = .ok (.lload_n 0, 1) := by decide +kernel
theorem dX4_floatBits_1 : decode cX4_floatBits 1 = .ok (.bipush 23, 2) := by decide +kernel
theorem dX4_floatBits_3 : decode cX4_floatBits 3 = .ok (.bipush 127, 2) := by decide +kernel
theorem dX4_floatBits_5 : decode cX4_floatBits 5 = .ok (.invokestatic 35, 3) := by decide +kernel
theorem dX4_floatBits_8 : decode cX4_floatBits 8 = .ok (.l2i, 1) := by decide +kernel
theorem dX4_floatBits_9 : decode cX4_floatBits 9 = .ok (.istore_n 2, 1) := by decide +kernel
theorem dX4_floatBits_10 : decode cX4_floatBits 10 = .ok (.lload_n 0, 1) := by decide +kernel
theorem dX4_floatBits_11 : decode cX4_floatBits 11 = .ok (.lconst 0, 1) := by decide +kernel
theorem dX4_floatBits_12 : decode cX4_floatBits 12 = .ok (.lcmp, 1) := by decide +kernel
theorem dX4_floatBits_13 : decode cX4_floatBits 13 = .ok (.ifCond .ge 11, 3) := by decide +kernel
theorem dX4_floatBits_16 : decode cX4_floatBits 16 = .ok (.iload_n 2, 1) := by decide +kernel
theorem dX4_floatBits_17 : decode cX4_floatBits 17 = .ok (.ldc 41, 2) := by decide +kernel
theorem dX4_floatBits_19 : decode cX4_floatBits 19 = .ok (.ior, 1) := by decide +kernel
theorem dX4_floatBits_20 : decode cX4_floatBits 20 = .ok (.i2l, 1) := by decide +kernel
theorem dX4_floatBits_21 : decode cX4_floatBits 21 = .ok (.goto 5, 3) := by decide +kernel
theorem dX4_floatBits_24 : decode cX4_floatBits 24 = .ok (.iload_n 2, 1) := by decide +kernel
theorem dX4_floatBits_25 : decode cX4_floatBits 25 = .ok (.i2l, 1) := by decide +kernel
theorem dX4_floatBits_26 : decode cX4_floatBits 26 = .ok (.lreturn, 1) := by decide +kernel
def F_X4_floatBits (d : Nat) (v0 : Int64) (h : MH) (u : Nat) (Q : Int64 → MH → Prop) : Prop :=
  F_X4_roundedBits d v0 23 127 h 0 fun x1 h =>
  if 0 ≤ (lg_cmp v0 0) then
    Q ((x1.toInt32).toInt64) h
  else
    Q (((x1.toInt32) ||| (-2147483648)).toInt64) h
set_option maxRecDepth 20000 in
theorem E_X4_floatBits {d : Nat} {v0 : Int64} {h : MH} {u : Nat} {Q : Int64 → MH → Prop} (H : F_X4_floatBits d v0 h u Q) : T u_X4_floatBits (d + 2) 0 [some (jL v0), none, none] [] h u (qL Q) := by
  unfold F_X4_floatBits at H
  refine T_lload_n (pc := 0) dX4_floatBits_0 rfl rfl ?_
  refine T_bipush (pc := 1) (v := 23) dX4_floatBits_1 (by decide) ?_
  refine T_bipush (pc := 3) (v := 127) dX4_floatBits_3 (by decide) ?_
  refine T_invS (pc := 5) (av := [jL v0, jI 23, jI 127]) (rest := []) dX4_floatBits_5 mf_X4_roundedBits c_2_25 c_2_26 rfl (Nat.le_of_ble_eq_true rfl) rfl (iL_k (iL_m0 (fun x1 h H => ?_) (J_X4_roundedBits (d := d) H)))
  refine T_l2i (pc := 8) dX4_floatBits_8 ?_
  refine T_istore_n (pc := 9) (ls2 := [some (jL v0), none, some (jI (x1.toInt32))]) dX4_floatBits_9 rfl (Nat.le_of_ble_eq_true rfl) rfl ?_
  refine T_lload_n (pc := 10) dX4_floatBits_10 rfl rfl ?_
  refine T_lconst (pc := 11) (v := 0) dX4_floatBits_11 (by decide) ?_
  refine T_lcmp (pc := 12) dX4_floatBits_12 ?_
  refine T_if_ge (pc := 13) (tgt := 24) dX4_floatBits_13 (by decide) (fun hc => ?_) (fun hc => ?_)
  · rw [if_pos hc] at H
    refine T_iload_n (pc := 24) dX4_floatBits_24 rfl rfl ?_
    refine T_i2l (pc := 25) dX4_floatBits_25 ?_
    exact T_lreturn (pc := 26) rfl dX4_floatBits_26 H
  · rw [if_neg hc] at H
    refine T_iload_n (pc := 16) dX4_floatBits_16 rfl rfl ?_
    refine T_ldc (pc := 17) (v := (-2147483648)) dX4_floatBits_17 c_2_34 ?_
    refine T_ior (pc := 19) dX4_floatBits_19 ?_
    refine T_i2l (pc := 20) dX4_floatBits_20 ?_
    refine T_goto (pc := 21) (tgt := 26) dX4_floatBits_21 (by decide) ?_
    exact T_lreturn (pc := 26) rfl dX4_floatBits_26 H
theorem I_X4_floatBits {d : Nat} {v0 : Int64} {h : MH} {u : Nat} {K : Int64 → MH → Nat → Prop} (u1 : Nat) (hu : u1 ≤ u) (H : F_X4_floatBits d v0 h u1 (fun x h2 => K x h2 (u - u1))) : iL (d + 2) u_X4_floatBits [jL v0] h u K := inv.of u1 hu (Ct.of (by decide +kernel) rfl (Nat.le_of_ble_eq_true rfl) rfl (E_X4_floatBits H))
theorem J_X4_floatBits {d : Nat} {v0 : Int64} {h : MH} {u : Nat} {K : Int64 → MH → Prop} (H : F_X4_floatBits d v0 h 0 K) : iL (d + 2) u_X4_floatBits [jL v0] h u (fun x h2 u2 => K x h2 ∧ u2 = u) := jiL (by decide +kernel) rfl (Nat.le_of_ble_eq_true rfl) rfl (E_X4_floatBits H)
theorem dX4_come_0 : decode cX4_come 0 = .ok (.iload_n 0, 1) := by decide +kernel
theorem dX4_come_1 : decode cX4_come 1 = .ok (.tableswitch 81 0 7 #[47, 51, 56, 62, 67, 81, 71, 76], 47) := by decide +kernel
theorem dX4_come_48 : decode cX4_come 48 = .ok (.lload_n 1, 1) := by decide +kernel
theorem dX4_come_49 : decode cX4_come 49 = .ok (.lconst 1, 1) := by decide +kernel
theorem dX4_come_50 : decode cX4_come 50 = .ok (.land, 1) := by decide +kernel
theorem dX4_come_51 : decode cX4_come 51 = .ok (.lreturn, 1) := by decide +kernel
theorem dX4_come_52 : decode cX4_come 52 = .ok (.lload_n 1, 1) := by decide +kernel
theorem dX4_come_53 : decode cX4_come 53 = .ok (.l2i, 1) := by decide +kernel
theorem dX4_come_54 : decode cX4_come 54 = .ok (.i2b, 1) := by decide +kernel
theorem dX4_come_55 : decode cX4_come 55 = .ok (.i2l, 1) := by decide +kernel
theorem dX4_come_56 : decode cX4_come 56 = .ok (.lreturn, 1) := by decide +kernel
theorem dX4_come_57 : decode cX4_come 57 = .ok (.lload_n 1, 1) := by decide +kernel
theorem dX4_come_58 : decode cX4_come 58 = .ok (.ldc2_w 11, 3) := by decide +kernel
theorem dX4_come_61 : decode cX4_come 61 = .ok (.land, 1) := by decide +kernel
theorem dX4_come_62 : decode cX4_come 62 = .ok (.lreturn, 1) := by decide +kernel
theorem dX4_come_63 : decode cX4_come 63 = .ok (.lload_n 1, 1) := by decide +kernel
theorem dX4_come_64 : decode cX4_come 64 = .ok (.l2i, 1) := by decide +kernel
theorem dX4_come_65 : decode cX4_come 65 = .ok (.i2s, 1) := by decide +kernel
theorem dX4_come_66 : decode cX4_come 66 = .ok (.i2l, 1) := by decide +kernel
theorem dX4_come_67 : decode cX4_come 67 = .ok (.lreturn, 1) := by decide +kernel
theorem dX4_come_68 : decode cX4_come 68 = .ok (.lload_n 1, 1) := by decide +kernel
theorem dX4_come_69 : decode cX4_come 69 = .ok (.l2i, 1) := by decide +kernel
theorem dX4_come_70 : decode cX4_come 70 = .ok (.i2l, 1) := by decide +kernel
theorem dX4_come_71 : decode cX4_come 71 = .ok (.lreturn, 1) := by decide +kernel
theorem dX4_come_72 : decode cX4_come 72 = .ok (.lload_n 1, 1) := by decide +kernel
theorem dX4_come_73 : decode cX4_come 73 = .ok (.invokestatic 13, 3) := by decide +kernel
theorem dX4_come_76 : decode cX4_come 76 = .ok (.lreturn, 1) := by decide +kernel
theorem dX4_come_77 : decode cX4_come 77 = .ok (.lload_n 1, 1) := by decide +kernel
theorem dX4_come_78 : decode cX4_come 78 = .ok (.invokestatic 17, 3) := by decide +kernel
theorem dX4_come_81 : decode cX4_come 81 = .ok (.lreturn, 1) := by decide +kernel
theorem dX4_come_82 : decode cX4_come 82 = .ok (.lload_n 1, 1) := by decide +kernel
theorem dX4_come_83 : decode cX4_come 83 = .ok (.lreturn, 1) := by decide +kernel
def F_X4_come (d : Nat) (v0 : Int32) (v1 : Int64) (h : MH) (u : Nat) (Q : Int64 → MH → Prop) : Prop :=
  if v0 = 0 then
    Q (v1 &&& 1) h
  else if v0 = 1 then
    Q (((v1.toInt32).toInt8.toInt32).toInt64) h
  else if v0 = 2 then
    Q (v1 &&& 65535) h
  else if v0 = 3 then
    Q (((v1.toInt32).toInt16.toInt32).toInt64) h
  else if v0 = 4 then
    Q ((v1.toInt32).toInt64) h
  else if v0 = 5 then
    Q v1 h
  else if v0 = 6 then
    F_X4_floatBits d v1 h 0 fun x1 h =>
    Q x1 h
  else if v0 = 7 then
    F_X4_doubleBits d v1 h 0 fun x2 h =>
    Q x2 h
  else 
    Q v1 h
set_option maxRecDepth 20000 in
theorem E_X4_come {d : Nat} {v0 : Int32} {v1 : Int64} {h : MH} {u : Nat} {Q : Int64 → MH → Prop} (H : F_X4_come d v0 v1 h u Q) : T u_X4_come (d + 3) 0 [some (jI v0), some (jL v1), none] [] h u (qL Q) := by
  unfold F_X4_come at H
  refine T_iload_n (pc := 0) dX4_come_0 rfl rfl ?_
  by_cases h0 : v0 = 0
  · rw [if_pos h0] at H
    refine T_tableIn (pc := 1) (off := 47) (tgt := 48) dX4_come_1 (by rw [h0]; decide) (by rw [h0]; decide) (by rw [h0]; rfl) (by decide) ?_
    refine T_lload_n (pc := 48) dX4_come_48 rfl rfl ?_
    refine T_lconst (pc := 49) (v := 1) dX4_come_49 (by decide) ?_
    refine T_land (pc := 50) dX4_come_50 ?_
    exact T_lreturn (pc := 51) rfl dX4_come_51 H
  rw [if_neg h0] at H
  by_cases h1 : v0 = 1
  · rw [if_pos h1] at H
    refine T_tableIn (pc := 1) (off := 51) (tgt := 52) dX4_come_1 (by rw [h1]; decide) (by rw [h1]; decide) (by rw [h1]; rfl) (by decide) ?_
    refine T_lload_n (pc := 52) dX4_come_52 rfl rfl ?_
    refine T_l2i (pc := 53) dX4_come_53 ?_
    refine T_i2b (pc := 54) dX4_come_54 ?_
    refine T_i2l (pc := 55) dX4_come_55 ?_
    exact T_lreturn (pc := 56) rfl dX4_come_56 H
  rw [if_neg h1] at H
  by_cases h2 : v0 = 2
  · rw [if_pos h2] at H
    refine T_tableIn (pc := 1) (off := 56) (tgt := 57) dX4_come_1 (by rw [h2]; decide) (by rw [h2]; decide) (by rw [h2]; rfl) (by decide) ?_
    refine T_lload_n (pc := 57) dX4_come_57 rfl rfl ?_
    refine T_ldc2 (pc := 58) (v := 65535) dX4_come_58 c_2_21 ?_
    refine T_land (pc := 61) dX4_come_61 ?_
    exact T_lreturn (pc := 62) rfl dX4_come_62 H
  rw [if_neg h2] at H
  by_cases h3 : v0 = 3
  · rw [if_pos h3] at H
    refine T_tableIn (pc := 1) (off := 62) (tgt := 63) dX4_come_1 (by rw [h3]; decide) (by rw [h3]; decide) (by rw [h3]; rfl) (by decide) ?_
    refine T_lload_n (pc := 63) dX4_come_63 rfl rfl ?_
    refine T_l2i (pc := 64) dX4_come_64 ?_
    refine T_i2s (pc := 65) dX4_come_65 ?_
    refine T_i2l (pc := 66) dX4_come_66 ?_
    exact T_lreturn (pc := 67) rfl dX4_come_67 H
  rw [if_neg h3] at H
  by_cases h4 : v0 = 4
  · rw [if_pos h4] at H
    refine T_tableIn (pc := 1) (off := 67) (tgt := 68) dX4_come_1 (by rw [h4]; decide) (by rw [h4]; decide) (by rw [h4]; rfl) (by decide) ?_
    refine T_lload_n (pc := 68) dX4_come_68 rfl rfl ?_
    refine T_l2i (pc := 69) dX4_come_69 ?_
    refine T_i2l (pc := 70) dX4_come_70 ?_
    exact T_lreturn (pc := 71) rfl dX4_come_71 H
  rw [if_neg h4] at H
  by_cases h5 : v0 = 5
  · rw [if_pos h5] at H
    refine T_tableIn (pc := 1) (off := 81) (tgt := 82) dX4_come_1 (by rw [h5]; decide) (by rw [h5]; decide) (by rw [h5]; rfl) (by decide) ?_
    refine T_lload_n (pc := 82) dX4_come_82 rfl rfl ?_
    exact T_lreturn (pc := 83) rfl dX4_come_83 H
  rw [if_neg h5] at H
  by_cases h6 : v0 = 6
  · rw [if_pos h6] at H
    refine T_tableIn (pc := 1) (off := 71) (tgt := 72) dX4_come_1 (by rw [h6]; decide) (by rw [h6]; decide) (by rw [h6]; rfl) (by decide) ?_
    refine T_lload_n (pc := 72) dX4_come_72 rfl rfl ?_
    refine T_invS (pc := 73) (av := [jL v1]) (rest := []) dX4_come_73 mf_X4_floatBits c_2_22 c_2_23 rfl (Nat.le_of_ble_eq_true rfl) rfl (iL_k (iL_m0 (fun x1 h H => ?_) (J_X4_floatBits (d := d) H)))
    exact T_lreturn (pc := 76) rfl dX4_come_76 H
  rw [if_neg h6] at H
  by_cases h7 : v0 = 7
  · rw [if_pos h7] at H
    refine T_tableIn (pc := 1) (off := 76) (tgt := 77) dX4_come_1 (by rw [h7]; decide) (by rw [h7]; decide) (by rw [h7]; rfl) (by decide) ?_
    refine T_lload_n (pc := 77) dX4_come_77 rfl rfl ?_
    refine T_invS (pc := 78) (av := [jL v1]) (rest := []) dX4_come_78 mf_X4_doubleBits c_2_35 c_2_36 rfl (Nat.le_of_ble_eq_true rfl) rfl (iL_k (iL_m0 (fun x2 h H => ?_) (J_X4_doubleBits (d := d) H)))
    exact T_lreturn (pc := 81) rfl dX4_come_81 H
  rw [if_neg h7] at H
  have e0 : (v0 : Int32).toInt ≠ 0 := fun q => h0 (Int32.toInt_inj.mp (q.trans (by decide)))
  have e1 : (v0 : Int32).toInt ≠ 1 := fun q => h1 (Int32.toInt_inj.mp (q.trans (by decide)))
  have e2 : (v0 : Int32).toInt ≠ 2 := fun q => h2 (Int32.toInt_inj.mp (q.trans (by decide)))
  have e3 : (v0 : Int32).toInt ≠ 3 := fun q => h3 (Int32.toInt_inj.mp (q.trans (by decide)))
  have e4 : (v0 : Int32).toInt ≠ 4 := fun q => h4 (Int32.toInt_inj.mp (q.trans (by decide)))
  have e5 : (v0 : Int32).toInt ≠ 5 := fun q => h5 (Int32.toInt_inj.mp (q.trans (by decide)))
  have e6 : (v0 : Int32).toInt ≠ 6 := fun q => h6 (Int32.toInt_inj.mp (q.trans (by decide)))
  have e7 : (v0 : Int32).toInt ≠ 7 := fun q => h7 (Int32.toInt_inj.mp (q.trans (by decide)))
  refine T_tableOut (pc := 1) (tgt := 82) dX4_come_1 (by omega) (by decide) ?_
  refine T_lload_n (pc := 82) dX4_come_82 rfl rfl ?_
  exact T_lreturn (pc := 83) rfl dX4_come_83 H
theorem I_X4_come {d : Nat} {v0 : Int32} {v1 : Int64} {h : MH} {u : Nat} {K : Int64 → MH → Nat → Prop} (u1 : Nat) (hu : u1 ≤ u) (H : F_X4_come d v0 v1 h u1 (fun x h2 => K x h2 (u - u1))) : iL (d + 3) u_X4_come [jI v0, jL v1] h u K := inv.of u1 hu (Ct.of (by decide +kernel) rfl (Nat.le_of_ble_eq_true rfl) rfl (E_X4_come H))
theorem J_X4_come {d : Nat} {v0 : Int32} {v1 : Int64} {h : MH} {u : Nat} {K : Int64 → MH → Prop} (H : F_X4_come d v0 v1 h 0 K) : iL (d + 3) u_X4_come [jI v0, jL v1] h u (fun x h2 u2 => K x h2 ∧ u2 = u) := jiL (by decide +kernel) rfl (Nat.le_of_ble_eq_true rfl) rfl (E_X4_come H)
theorem dX4_doubleOfFloat_0 : decode cX4_doubleOfFloat 0 = .ok (.lload_n 0, 1) := by decide +kernel
theorem dX4_doubleOfFloat_1 : decode cX4_doubleOfFloat 1 = .ok (.lconst 0, 1) := by decide +kernel
theorem dX4_doubleOfFloat_2 : decode cX4_doubleOfFloat 2 = .ok (.lcmp, 1) := by decide +kernel
theorem dX4_doubleOfFloat_3 : decode cX4_doubleOfFloat 3 = .ok (.ifCond .ge 9, 3) := by decide +kernel
theorem dX4_doubleOfFloat_6 : decode cX4_doubleOfFloat 6 = .ok (.ldc2_w 42, 3) := by decide +kernel
theorem dX4_doubleOfFloat_9 : decode cX4_doubleOfFloat 9 = .ok (.goto 4, 3) := by decide +kernel
theorem dX4_doubleOfFloat_12 : decode cX4_doubleOfFloat 12 = .ok (.lconst 0, 1) := by decide +kernel
theorem dX4_doubleOfFloat_13 : decode cX4_doubleOfFloat 13 = .ok (.lstore_n 2, 1) := by decide +kernel
theorem dX4_doubleOfFloat_14 : decode cX4_doubleOfFloat 14 = .ok (.lload_n 0, 1) := by decide +kernel
theorem dX4_doubleOfFloat_15 : decode cX4_doubleOfFloat 15 = .ok (.bipush 23, 2) := by decide +kernel
theorem dX4_doubleOfFloat_17 : decode cX4_doubleOfFloat 17 = .ok (.lushr, 1) := by decide +kernel
theorem dX4_doubleOfFloat_18 : decode cX4_doubleOfFloat 18 = .ok (.ldc2_w 52, 3) := by decide +kernel
theorem dX4_doubleOfFloat_21 : decode cX4_doubleOfFloat 21 = .ok (.land, 1) := by decide +kernel
theorem dX4_doubleOfFloat_22 : decode cX4_doubleOfFloat 22 = .ok (.lstore 4, 2) := by decide +kernel
theorem dX4_doubleOfFloat_24 : decode cX4_doubleOfFloat 24 = .ok (.lload_n 0, 1) := by decide +kernel
theorem dX4_doubleOfFloat_25 : decode cX4_doubleOfFloat 25 = .ok (.ldc2_w 54, 3) := by decide +kernel
theorem dX4_doubleOfFloat_28 : decode cX4_doubleOfFloat 28 = .ok (.land, 1) := by decide +kernel
theorem dX4_doubleOfFloat_29 : decode cX4_doubleOfFloat 29 = .ok (.lstore 6, 2) := by decide +kernel
theorem dX4_doubleOfFloat_31 : decode cX4_doubleOfFloat 31 = .ok (.lload 4, 2) := by decide +kernel
theorem dX4_doubleOfFloat_33 : decode cX4_doubleOfFloat 33 = .ok (.lconst 0, 1) := by decide +kernel
theorem dX4_doubleOfFloat_34 : decode cX4_doubleOfFloat 34 = .ok (.lcmp, 1) := by decide +kernel
theorem dX4_doubleOfFloat_35 : decode cX4_doubleOfFloat 35 = .ok (.ifCond .ne 5, 3) := by decide +kernel
theorem dX4_doubleOfFloat_38 : decode cX4_doubleOfFloat 38 = .ok (.lload_n 2, 1) := by decide +kernel
theorem dX4_doubleOfFloat_39 : decode cX4_doubleOfFloat 39 = .ok (.lreturn, 1) := by decide +kernel
theorem dX4_doubleOfFloat_40 : decode cX4_doubleOfFloat 40 = .ok (.lload 4, 2) := by decide +kernel
theorem dX4_doubleOfFloat_42 : decode cX4_doubleOfFloat 42 = .ok (.ldc2_w 56, 3) := by decide +kernel
theorem dX4_doubleOfFloat_45 : decode cX4_doubleOfFloat 45 = .ok (.lsub, 1) := by decide +kernel
theorem dX4_doubleOfFloat_46 : decode cX4_doubleOfFloat 46 = .ok (.ldc2_w 58, 3) := by decide +kernel
theorem dX4_doubleOfFloat_49 : decode cX4_doubleOfFloat 49 = .ok (.ladd, 1) := by decide +kernel
theorem dX4_doubleOfFloat_50 : decode cX4_doubleOfFloat 50 = .ok (.bipush 52, 2) := by decide +kernel
theorem dX4_doubleOfFloat_52 : decode cX4_doubleOfFloat 52 = .ok (.lshl, 1) := by decide +kernel
theorem dX4_doubleOfFloat_53 : decode cX4_doubleOfFloat 53 = .ok (.lstore 8, 2) := by decide +kernel
theorem dX4_doubleOfFloat_55 : decode cX4_doubleOfFloat 55 = .ok (.lload_n 2, 1) := by decide +kernel
theorem dX4_doubleOfFloat_56 : decode cX4_doubleOfFloat 56 = .ok (.lload 8, 2) := by decide +kernel
theorem dX4_doubleOfFloat_58 : decode cX4_doubleOfFloat 58 = .ok (.lor, 1) := by decide +kernel
theorem dX4_doubleOfFloat_59 : decode cX4_doubleOfFloat 59 = .ok (.lload 6, 2) := by decide +kernel
theorem dX4_doubleOfFloat_61 : decode cX4_doubleOfFloat 61 = .ok (.bipush 29, 2) := by decide +kernel
theorem dX4_doubleOfFloat_63 : decode cX4_doubleOfFloat 63 = .ok (.lshl, 1) := by decide +kernel
theorem dX4_doubleOfFloat_64 : decode cX4_doubleOfFloat 64 = .ok (.lor, 1) := by decide +kernel
theorem dX4_doubleOfFloat_65 : decode cX4_doubleOfFloat 65 = .ok (.lreturn, 1) := by decide +kernel
def F_X4_doubleOfFloat_13 (d : Nat) (v0 : Int64) (s0 : Int64) (h : MH) (u : Nat) (Q : Int64 → MH → Prop) : Prop :=
  nm (((v0.toUInt64 >>> ((23 : Int32).toInt64.toUInt64 &&& Int64.toUInt64 63)).toInt64) &&& 255) fun x1 =>
  if (lg_cmp x1 0) = 0 then
    Q s0 h
  else
    nm (((x1 - 127) + 1023) <<< ((52 : Int32).toInt64 &&& 63)) fun x2 =>
    Q ((s0 ||| x2) ||| ((v0 &&& 8388607) <<< ((29 : Int32).toInt64 &&& 63))) h
set_option maxRecDepth 20000 in
theorem E_X4_doubleOfFloat_13 {d : Nat} {v0 : Int64} {s0 : Int64} {h : MH} {u : Nat} {Q : Int64 → MH → Prop} (H : F_X4_doubleOfFloat_13 d v0 s0 h u Q) : T u_X4_doubleOfFloat d 13 [some (jL v0), none, none, none, none, none, none, none, none, none] [jL s0] h u (qL Q) := by
  unfold F_X4_doubleOfFloat_13 at H
  refine T_lstore_n (pc := 13) (ls2 := [some (jL v0), none, some (jL s0), none, none, none, none, none, none, none]) dX4_doubleOfFloat_13 rfl (Nat.le_of_ble_eq_true rfl) rfl ?_
  refine T_lload_n (pc := 14) dX4_doubleOfFloat_14 rfl rfl ?_
  refine T_bipush (pc := 15) (v := 23) dX4_doubleOfFloat_15 (by decide) ?_
  refine T_lushr (pc := 17) dX4_doubleOfFloat_17 ?_
  refine T_ldc2 (pc := 18) (v := 255) dX4_doubleOfFloat_18 c_2_45 ?_
  refine T_land (pc := 21) dX4_doubleOfFloat_21 ?_
  refine T_lstoreK (pc := 22) (i := 0) (I := .nop) (len := 2) (f := fun x1 => [some (jL v0), none, some (jL s0), none, some (jL x1), none, none, none, none, none]) (fun x1 k => T_lstore (pc := 22) dX4_doubleOfFloat_22 (Nat.le_of_ble_eq_true rfl) rfl k) (nm_mono (fun x1 H => ?_) H)
  refine T_lload_n (pc := 24) dX4_doubleOfFloat_24 rfl rfl ?_
  refine T_ldc2 (pc := 25) (v := 8388607) dX4_doubleOfFloat_25 c_2_46 ?_
  refine T_land (pc := 28) dX4_doubleOfFloat_28 ?_
  refine T_lstore (pc := 29) (ls2 := [some (jL v0), none, some (jL s0), none, some (jL x1), none, some (jL (v0 &&& 8388607)), none, none, none]) dX4_doubleOfFloat_29 (Nat.le_of_ble_eq_true rfl) rfl ?_
  refine T_lload (pc := 31) dX4_doubleOfFloat_31 rfl ?_
  refine T_lconst (pc := 33) (v := 0) dX4_doubleOfFloat_33 (by decide) ?_
  refine T_lcmp (pc := 34) dX4_doubleOfFloat_34 ?_
  refine T_if_ne (pc := 35) (tgt := 40) dX4_doubleOfFloat_35 (by decide) (fun hc => ?_) (fun hc => ?_)
  · rw [if_neg hc] at H
    refine T_lload (pc := 40) dX4_doubleOfFloat_40 rfl ?_
    refine T_ldc2 (pc := 42) (v := 127) dX4_doubleOfFloat_42 c_2_47 ?_
    refine T_lsub (pc := 45) dX4_doubleOfFloat_45 ?_
    refine T_ldc2 (pc := 46) (v := 1023) dX4_doubleOfFloat_46 c_2_48 ?_
    refine T_ladd (pc := 49) dX4_doubleOfFloat_49 ?_
    refine T_bipush (pc := 50) (v := 52) dX4_doubleOfFloat_50 (by decide) ?_
    refine T_lshl (pc := 52) dX4_doubleOfFloat_52 ?_
    refine T_lstoreK (pc := 53) (i := 0) (I := .nop) (len := 2) (f := fun x2 => [some (jL v0), none, some (jL s0), none, some (jL x1), none, some (jL (v0 &&& 8388607)), none, some (jL x2), none]) (fun x2 k => T_lstore (pc := 53) dX4_doubleOfFloat_53 (Nat.le_of_ble_eq_true rfl) rfl k) (nm_mono (fun x2 H => ?_) H)
    refine T_lload_n (pc := 55) dX4_doubleOfFloat_55 rfl rfl ?_
    refine T_lload (pc := 56) dX4_doubleOfFloat_56 rfl ?_
    refine T_lor (pc := 58) dX4_doubleOfFloat_58 ?_
    refine T_lload (pc := 59) dX4_doubleOfFloat_59 rfl ?_
    refine T_bipush (pc := 61) (v := 29) dX4_doubleOfFloat_61 (by decide) ?_
    refine T_lshl (pc := 63) dX4_doubleOfFloat_63 ?_
    refine T_lor (pc := 64) dX4_doubleOfFloat_64 ?_
    exact T_lreturn (pc := 65) rfl dX4_doubleOfFloat_65 H
  · rw [if_pos hc] at H
    refine T_lload_n (pc := 38) dX4_doubleOfFloat_38 rfl rfl ?_
    exact T_lreturn (pc := 39) rfl dX4_doubleOfFloat_39 H
def F_X4_doubleOfFloat (d : Nat) (v0 : Int64) (h : MH) (u : Nat) (Q : Int64 → MH → Prop) : Prop :=
  if 0 ≤ (lg_cmp v0 0) then
    F_X4_doubleOfFloat_13 d v0 0 h u Q
  else
    F_X4_doubleOfFloat_13 d v0 (-9223372036854775808) h u Q
set_option maxRecDepth 20000 in
theorem E_X4_doubleOfFloat {d : Nat} {v0 : Int64} {h : MH} {u : Nat} {Q : Int64 → MH → Prop} (H : F_X4_doubleOfFloat d v0 h u Q) : T u_X4_doubleOfFloat d 0 [some (jL v0), none, none, none, none, none, none, none, none, none] [] h u (qL Q) := by
  unfold F_X4_doubleOfFloat at H
  refine T_lload_n (pc := 0) dX4_doubleOfFloat_0 rfl rfl ?_
  refine T_lconst (pc := 1) (v := 0) dX4_doubleOfFloat_1 (by decide) ?_
  refine T_lcmp (pc := 2) dX4_doubleOfFloat_2 ?_
  refine T_if_ge (pc := 3) (tgt := 12) dX4_doubleOfFloat_3 (by decide) (fun hc => ?_) (fun hc => ?_)
  · rw [if_pos hc] at H
    refine T_lconst (pc := 12) (v := 0) dX4_doubleOfFloat_12 (by decide) ?_
    exact T.forget (E_X4_doubleOfFloat_13 H) ⟨rfl, trivial⟩
  · rw [if_neg hc] at H
    refine T_ldc2 (pc := 6) (v := (-9223372036854775808)) dX4_doubleOfFloat_6 c_2_38 ?_
    refine T_goto (pc := 9) (tgt := 13) dX4_doubleOfFloat_9 (by decide) ?_
    exact T.forget (E_X4_doubleOfFloat_13 H) ⟨rfl, trivial⟩
theorem I_X4_doubleOfFloat {d : Nat} {v0 : Int64} {h : MH} {u : Nat} {K : Int64 → MH → Nat → Prop} (u1 : Nat) (hu : u1 ≤ u) (H : F_X4_doubleOfFloat d v0 h u1 (fun x h2 => K x h2 (u - u1))) : iL d u_X4_doubleOfFloat [jL v0] h u K := inv.of u1 hu (Ct.of (by decide +kernel) rfl (Nat.le_of_ble_eq_true rfl) rfl (E_X4_doubleOfFloat H))
theorem J_X4_doubleOfFloat {d : Nat} {v0 : Int64} {h : MH} {u : Nat} {K : Int64 → MH → Prop} (H : F_X4_doubleOfFloat d v0 h 0 K) : iL d u_X4_doubleOfFloat [jL v0] h u (fun x h2 u2 => K x h2 ∧ u2 = u) := jiL (by decide +kernel) rfl (Nat.le_of_ble_eq_true rfl) rfl (E_X4_doubleOfFloat H)
theorem dX4_widen_0 : decode cX4_widen 0 = .ok (.iload_n 0, 1) := by decide +kernel
theorem dX4_widen_1 : decode cX4_widen 1 = .ok (.iload_n 1, 1) := by decide +kernel
theorem dX4_widen_2 : decode cX4_widen 2 = .ok (.if_icmp .eq 8, 3) := by decide +kernel
theorem dX4_widen_5 : decode cX4_widen 5 = .ok (.iload_n 1, 1) := by decide +kernel
theorem dX4_widen_6 : decode cX4_widen 6 = .ok (.iconst 5, 1) := by decide +kernel
theorem dX4_widen_7 : decode cX4_widen 7 = .ok (.if_icmp .gt 5, 3) := by decide +kernel
theorem dX4_widen_10 : decode cX4_widen 10 = .ok (.lload_n 2, 1) := by decide +kernel
theorem dX4_widen_11 : decode cX4_widen 11 = .ok (.lreturn, 1) := by decide +kernel
theorem dX4_widen_12 : decode cX4_widen 12 = .ok (.iload_n 0, 1) := by decide +kernel
theorem dX4_widen_13 : decode cX4_widen 13 = .ok (.bipush 6, 2) := by decide +kernel
theorem dX4_widen_15 : decode cX4_widen 15 = .ok (.if_icmp .ne 10, 3) := by decide +kernel
theorem dX4_widen_18 : decode cX4_widen 18 = .ok (.lload_n 2, 1) := by decide +kernel
theorem dX4_widen_19 : decode cX4_widen 19 = .ok (.invokestatic 20, 3) := by decide +kernel
theorem dX4_widen_22 : decode cX4_widen 22 = .ok (.goto 8, 3) := by decide +kernel
theorem dX4_widen_25 : decode cX4_widen 25 = .ok (.iload_n 1, 1) := by decide +kernel
theorem dX4_widen_26 : decode cX4_widen 26 = .ok (.lload_n 2, 1) := by decide +kernel
theorem dX4_widen_27 : decode cX4_widen 27 = .ok (.invokestatic 23, 3) := by decide +kernel
theorem dX4_widen_30 : decode cX4_widen 30 = .ok (.lreturn, 1) := by decide +kernel
def F_X4_widen (d : Nat) (v0 : Int32) (v1 : Int32) (v2 : Int64) (h : MH) (u : Nat) (Q : Int64 → MH → Prop) : Prop :=
  if v0 = v1 then
    Q v2 h
  else
    if 5 < v1 then
      if v0 = 6 then
        F_X4_doubleOfFloat (d + 3) v2 h 0 fun x2 h =>
        Q x2 h
      else
        F_X4_come d v1 v2 h 0 fun x1 h =>
        Q x1 h
    else
      Q v2 h
set_option maxRecDepth 20000 in
theorem E_X4_widen {d : Nat} {v0 : Int32} {v1 : Int32} {v2 : Int64} {h : MH} {u : Nat} {Q : Int64 → MH → Prop} (H : F_X4_widen d v0 v1 v2 h u Q) : T u_X4_widen (d + 4) 0 [some (jI v0), some (jI v1), some (jL v2), none] [] h u (qL Q) := by
  unfold F_X4_widen at H
  refine T_iload_n (pc := 0) dX4_widen_0 rfl rfl ?_
  refine T_iload_n (pc := 1) dX4_widen_1 rfl rfl ?_
  refine T_icmp_eq (pc := 2) (tgt := 10) dX4_widen_2 (by decide) (fun hc => ?_) (fun hc => ?_)
  · rw [if_pos hc] at H
    refine T_lload_n (pc := 10) dX4_widen_10 rfl rfl ?_
    exact T_lreturn (pc := 11) rfl dX4_widen_11 H
  · rw [if_neg hc] at H
    refine T_iload_n (pc := 5) dX4_widen_5 rfl rfl ?_
    refine T_iconst (pc := 6) (v := 5) dX4_widen_6 (by decide) ?_
    refine T_icmp_gt (pc := 7) (tgt := 12) dX4_widen_7 (by decide) (fun hc => ?_) (fun hc => ?_)
    · rw [if_pos hc] at H
      refine T_iload_n (pc := 12) dX4_widen_12 rfl rfl ?_
      refine T_bipush (pc := 13) (v := 6) dX4_widen_13 (by decide) ?_
      refine T_icmp_ne (pc := 15) (tgt := 25) dX4_widen_15 (by decide) (fun hc => ?_) (fun hc => ?_)
      · rw [if_neg hc] at H
        refine T_iload_n (pc := 25) dX4_widen_25 rfl rfl ?_
        refine T_lload_n (pc := 26) dX4_widen_26 rfl rfl ?_
        refine T_invS (pc := 27) (av := [jI v1, jL v2]) (rest := []) dX4_widen_27 mf_X4_come c_2_49 c_2_19 rfl (Nat.le_of_ble_eq_true rfl) rfl (iL_k (iL_m0 (fun x1 h H => ?_) (J_X4_come (d := d) H)))
        exact T_lreturn (pc := 30) rfl dX4_widen_30 H
      · rw [if_pos hc] at H
        refine T_lload_n (pc := 18) dX4_widen_18 rfl rfl ?_
        refine T_invS (pc := 19) (av := [jL v2]) (rest := []) dX4_widen_19 mf_X4_doubleOfFloat c_2_42 c_2_43 rfl (Nat.le_of_ble_eq_true rfl) rfl (iL_k (iL_m0 (fun x2 h H => ?_) (J_X4_doubleOfFloat (d := (d + 3)) H)))
        refine T_goto (pc := 22) (tgt := 30) dX4_widen_22 (by decide) ?_
        exact T_lreturn (pc := 30) rfl dX4_widen_30 H
    · rw [if_neg hc] at H
      refine T_lload_n (pc := 10) dX4_widen_10 rfl rfl ?_
      exact T_lreturn (pc := 11) rfl dX4_widen_11 H
theorem I_X4_widen {d : Nat} {v0 : Int32} {v1 : Int32} {v2 : Int64} {h : MH} {u : Nat} {K : Int64 → MH → Nat → Prop} (u1 : Nat) (hu : u1 ≤ u) (H : F_X4_widen d v0 v1 v2 h u1 (fun x h2 => K x h2 (u - u1))) : iL (d + 4) u_X4_widen [jI v0, jI v1, jL v2] h u K := inv.of u1 hu (Ct.of (by decide +kernel) rfl (Nat.le_of_ble_eq_true rfl) rfl (E_X4_widen H))
theorem J_X4_widen {d : Nat} {v0 : Int32} {v1 : Int32} {v2 : Int64} {h : MH} {u : Nat} {K : Int64 → MH → Prop} (H : F_X4_widen d v0 v1 v2 h 0 K) : iL (d + 4) u_X4_widen [jI v0, jI v1, jL v2] h u (fun x h2 u2 => K x h2 ∧ u2 = u) := jiL (by decide +kernel) rfl (Nat.le_of_ble_eq_true rfl) rfl (E_X4_widen H)
theorem dX1_takeValue_0 : decode cX1_takeValue 0 = .ok (.iconst 0, 1) := by decide +kernel
theorem dX1_takeValue_1 : decode cX1_takeValue 1 = .ok (.istore_n 3, 1) := by decide +kernel
theorem dX1_takeValue_2 : decode cX1_takeValue 2 = .ok (.iload_n 3, 1) := by decide +kernel
theorem dX1_takeValue_3 : decode cX1_takeValue 3 = .ok (.aload_n 2, 1) := by decide +kernel
theorem dX1_takeValue_4 : decode cX1_takeValue 4 = .ok (.getfield 19, 3) := by decide +kernel
theorem dX1_takeValue_7 : decode cX1_takeValue 7 = .ok (.if_icmp .ge 113, 3) := by decide +kernel
theorem dX1_takeValue_10 : decode cX1_takeValue 10 = .ok (.aload_n 2, 1) := by decide +kernel
theorem dX1_takeValue_11 : decode cX1_takeValue 11 = .ok (.getfield 25, 3) := by decide +kernel
theorem dX1_takeValue_14 : decode cX1_takeValue 14 = .ok (.iload_n 3, 1) := by decide +kernel
theorem dX1_takeValue_15 : decode cX1_takeValue 15 = .ok (.iaload, 1) := by decide +kernel
theorem dX1_takeValue_16 : decode cX1_takeValue 16 = .ok (.istore 4, 2) := by decide +kernel
theorem dX1_takeValue_18 : decode cX1_takeValue 18 = .ok (.aload_n 1, 1) := by decide +kernel
theorem dX1_takeValue_19 : decode cX1_takeValue 19 = .ok (.getfield 39, 3) := by decide +kernel
theorem dX1_takeValue_22 : decode cX1_takeValue 22 = .ok (.aload_n 2, 1) := by decide +kernel
theorem dX1_takeValue_23 : decode cX1_takeValue 23 = .ok (.getfield 45, 3) := by decide +kernel
theorem dX1_takeValue_26 : decode cX1_takeValue 26 = .ok (.iload_n 3, 1) := by decide +kernel
theorem dX1_takeValue_27 : decode cX1_takeValue 27 = .ok (.iaload, 1) := by decide +kernel
theorem dX1_takeValue_28 : decode cX1_takeValue 28 = .ok (.invokevirtual 48, 3) := by decide +kernel
theorem dX1_takeValue_31 : decode cX1_takeValue 31 = .ok (.istore 5, 2) := by decide +kernel
theorem dX1_takeValue_33 : decode cX1_takeValue 33 = .ok (.iload 5, 2) := by decide +kernel
theorem dX1_takeValue_35 : decode cX1_takeValue 35 = .ok (.iconst (-1), 1) := by decide +kernel
theorem dX1_takeValue_36 : decode cX1_takeValue 36 = .ok (.if_icmp .ne 27, 3) := by decide +kernel
theorem dX1_takeValue_39 : decode cX1_takeValue 39 = .ok (.aload_n 0, 1) := by decide +kernel
theorem dX1_takeValue_40 : decode cX1_takeValue 40 = .ok (.getfield 15, 3) := by decide +kernel
theorem dX1_takeValue_43 : decode cX1_takeValue 43 = .ok (.iload_n 3, 1) := by decide +kernel
theorem dX1_takeValue_44 : decode cX1_takeValue 44 = .ok (.iload 4, 2) := by decide +kernel
theorem dX1_takeValue_46 : decode cX1_takeValue 46 = .ok (.invokestatic 52, 3) := by decide +kernel
theorem dX1_takeValue_49 : decode cX1_takeValue 49 = .ok (.ifCond .eq 7, 3) := by decide +kernel
theorem dX1_takeValue_52 : decode cX1_takeValue 52 = .ok (.lconst 0, 1) := by decide +kernel
theorem dX1_takeValue_53 : decode cX1_takeValue 53 = .ok (.goto 6, 3) := by decide +kernel
theorem dX1_takeValue_56 : decode cX1_takeValue 56 = .ok (.ldc2_w 58, 3) := by decide +kernel
theorem dX1_takeValue_59 : decode cX1_takeValue 59 = .ok (.lastore, 1) := by decide +kernel
theorem dX1_takeValue_60 : decode cX1_takeValue 60 = .ok (.goto 54, 3) := by decide +kernel
theorem dX1_takeValue_63 : decode cX1_takeValue 63 = .ok (.aload_n 1, 1) := by decide +kernel
theorem dX1_takeValue_64 : decode cX1_takeValue 64 = .ok (.getfield 39, 3) := by decide +kernel
theorem dX1_takeValue_67 : decode cX1_takeValue 67 = .ok (.getfield 25, 3) := by decide +kernel
theorem dX1_takeValue_70 : decode cX1_takeValue 70 = .ok (.iload 5, 2) := by decide +kernel
theorem dX1_takeValue_72 : decode cX1_takeValue 72 = .ok (.iaload, 1) := by decide +kernel
theorem dX1_takeValue_73 : decode cX1_takeValue 73 = .ok (.iload 4, 2) := by decide +kernel
theorem dX1_takeValue_75 : decode cX1_takeValue 75 = .ok (.invokestatic 60, 3) := by decide +kernel
theorem dX1_takeValue_78 : decode cX1_takeValue 78 = .ok (.ifCond .eq 34, 3) := by decide +kernel
theorem dX1_takeValue_81 : decode cX1_takeValue 81 = .ok (.aload_n 0, 1) := by decide +kernel
theorem dX1_takeValue_82 : decode cX1_takeValue 82 = .ok (.getfield 15, 3) := by decide +kernel
theorem dX1_takeValue_85 : decode cX1_takeValue 85 = .ok (.iload_n 3, 1) := by decide +kernel
theorem dX1_takeValue_86 : decode cX1_takeValue 86 = .ok (.aload_n 1, 1) := by decide +kernel
theorem dX1_takeValue_87 : decode cX1_takeValue 87 = .ok (.getfield 39, 3) := by decide +kernel
theorem dX1_takeValue_90 : decode cX1_takeValue 90 = .ok (.getfield 25, 3) := by decide +kernel
theorem dX1_takeValue_93 : decode cX1_takeValue 93 = .ok (.iload 5, 2) := by decide +kernel
theorem dX1_takeValue_95 : decode cX1_takeValue 95 = .ok (.iaload, 1) := by decide +kernel
theorem dX1_takeValue_96 : decode cX1_takeValue 96 = .ok (.iload 4, 2) := by decide +kernel
theorem dX1_takeValue_98 : decode cX1_takeValue 98 = .ok (.aload_n 1, 1) := by decide +kernel
theorem dX1_takeValue_99 : decode cX1_takeValue 99 = .ok (.getfield 64, 3) := by decide +kernel
theorem dX1_takeValue_102 : decode cX1_takeValue 102 = .ok (.iload 5, 2) := by decide +kernel
theorem dX1_takeValue_104 : decode cX1_takeValue 104 = .ok (.laload, 1) := by decide +kernel
theorem dX1_takeValue_105 : decode cX1_takeValue 105 = .ok (.invokestatic 65, 3) := by decide +kernel
theorem dX1_takeValue_108 : decode cX1_takeValue 108 = .ok (.lastore, 1) := by decide +kernel
theorem dX1_takeValue_109 : decode cX1_takeValue 109 = .ok (.goto 5, 3) := by decide +kernel
theorem dX1_takeValue_112 : decode cX1_takeValue 112 = .ok (.iconst 3, 1) := by decide +kernel
theorem dX1_takeValue_113 : decode cX1_takeValue 113 = .ok (.ireturn, 1) := by decide +kernel
theorem dX1_takeValue_114 : decode cX1_takeValue 114 = .ok (.iinc 3 1, 3) := by decide +kernel
theorem dX1_takeValue_117 : decode cX1_takeValue 117 = .ok (.goto (-115), 3) := by decide +kernel
theorem dX1_takeValue_120 : decode cX1_takeValue 120 = .ok (.iconst 0, 1) := by decide +kernel
theorem dX1_takeValue_121 : decode cX1_takeValue 121 = .ok (.ireturn, 1) := by decide +kernel
def L_X1_takeValue_2 (d : Nat) (v0 : Option Nm) (v1 : Option Nm) (v2 : Option Nm) (v3 : Int32) (h : MH) (u : Nat) (Q : Int32 → MH → Prop) : Prop := T u_X1_takeValue (d + 5) 2 [some (jR v0), some (jR v1), some (jR v2), some (jI v3), none, none] [] h u (qI Q)
def F_X1_takeValue (d : Nat) (v0 : Option Nm) (v1 : Option Nm) (v2 : Option Nm) (h : MH) (u : Nat) (Q : Int32 → MH → Prop) : Prop :=
  L_X1_takeValue_2 d v0 v1 v2 0 h u Q
set_option maxRecDepth 20000 in
theorem E_X1_takeValue {d : Nat} {v0 : Option Nm} {v1 : Option Nm} {v2 : Option Nm} {h : MH} {u : Nat} {Q : Int32 → MH → Prop} (H : F_X1_takeValue d v0 v1 v2 h u Q) : T u_X1_takeValue (d + 5) 0 [some (jR v0), some (jR v1), some (jR v2), none, none, none] [] h u (qI Q) := by
  unfold F_X1_takeValue at H
  refine T_iconst (pc := 0) (v := 0) dX1_takeValue_0 (by decide) ?_
  refine T_istore_n (pc := 1) (ls2 := [some (jR v0), some (jR v1), some (jR v2), some (jI 0), none, none]) dX1_takeValue_1 rfl (Nat.le_of_ble_eq_true rfl) rfl ?_
  exact T.forget H ⟨rfl, rfl, rfl, rfl, trivial⟩
def F_X1_takeValue_59 (d : Nat) (v0 : Option Nm) (v1 : Option Nm) (v2 : Option Nm) (v3 : Int32) (s0 : Option Nm) (s1 : Int32) (s2 : Int64) (h : MH) (u : Nat) (Q : Int32 → MH → Prop) : Prop :=
  sV .long h s0 s1 (jL s2) fun h =>
  L_X1_takeValue_2 d v0 v1 v2 (v3 + 1) h u Q
set_option maxRecDepth 20000 in
theorem E_X1_takeValue_59 {d : Nat} {v0 : Option Nm} {v1 : Option Nm} {v2 : Option Nm} {v3 : Int32} {s0 : Option Nm} {s1 : Int32} {s2 : Int64} {h : MH} {u : Nat} {Q : Int32 → MH → Prop} (H : F_X1_takeValue_59 d v0 v1 v2 v3 s0 s1 s2 h u Q) : T u_X1_takeValue (d + 5) 59 [some (jR v0), some (jR v1), some (jR v2), some (jI v3), none, none] [jL s2, jI s1, jR s0] h u (qI Q) := by
  unfold F_X1_takeValue_59 at H
  refine T_sL (pc := 59) dX1_takeValue_59 (sV_mono (fun h H => ?_) H)
  refine T_goto (pc := 60) (tgt := 114) dX1_takeValue_60 (by decide) ?_
  refine T_iinc (pc := 114) (v := v3 + 1) (ls2 := [some (jR v0), some (jR v1), some (jR v2), some (jI (v3 + 1)), none, none]) dX1_takeValue_114 rfl rfl (Nat.le_of_ble_eq_true rfl) rfl ?_
  refine T_goto (pc := 117) (tgt := 2) dX1_takeValue_117 (by decide) ?_
  exact T.forget H ⟨rfl, rfl, rfl, rfl, trivial⟩
def F_X1_takeValue_2 (d : Nat) (v0 : Option Nm) (v1 : Option Nm) (v2 : Option Nm) (v3 : Int32) (h : MH) (u : Nat) (Q : Int32 → MH → Prop) : Prop :=
  gI h v2 2 4 fun x1 =>
  if x1 ≤ v3 then
    Q 0 h
  else
    gR h v2 2 2 fun x2 =>
    aI .int h x2 v3 fun x3 =>
    gR h v1 9 2 fun x4 =>
    gR h v2 2 1 fun x5 =>
    aI .int h x5 v3 fun x6 =>
    rc h x4 2 ∧ F_X2_find (d + 4) x4 x6 h 0 fun x7 h =>
    if x7 = (-1) then
      gR h v0 1 1 fun x19 =>
      F_X4_isNumber (d + 4) x3 h 0 fun x20 h =>
      if x20 = 0 then
        F_X1_takeValue_59 d v0 v1 v2 v3 x19 v3 (-1) h u Q
      else
        F_X1_takeValue_59 d v0 v1 v2 v3 x19 v3 0 h u Q
    else
      gR h v1 9 2 fun x8 =>
      gR h x8 2 2 fun x9 =>
      aI .int h x9 x7 fun x10 =>
      F_X4_isWidened (d + 4) x10 x3 h 0 fun x11 h =>
      if x11 = 0 then
        Q 3 h
      else
        gR h v0 1 1 fun x12 =>
        gR h v1 9 2 fun x13 =>
        gR h x13 2 2 fun x14 =>
        aI .int h x14 x7 fun x15 =>
        gR h v1 9 5 fun x16 =>
        aL h x16 x7 fun x17 =>
        F_X4_widen d x15 x3 x17 h 0 fun x18 h =>
        sV .long h x12 v3 (jL x18) fun h =>
        L_X1_takeValue_2 d v0 v1 v2 (v3 + 1) h u Q
set_option maxRecDepth 20000 in
theorem E_X1_takeValue_2 {d : Nat} {v0 : Option Nm} {v1 : Option Nm} {v2 : Option Nm} {v3 : Int32} {h : MH} {u : Nat} {Q : Int32 → MH → Prop} (H : F_X1_takeValue_2 d v0 v1 v2 v3 h u Q) : T u_X1_takeValue (d + 5) 2 [some (jR v0), some (jR v1), some (jR v2), some (jI v3), none, none] [] h u (qI Q) := by
  unfold F_X1_takeValue_2 at H
  refine T_iload_n (pc := 2) dX1_takeValue_2 rfl rfl ?_
  refine T_aload_n (pc := 3) dX1_takeValue_3 rfl rfl ?_
  refine T_gI (pc := 4) fa_X1_19 dX1_takeValue_4 (gI_mono (fun x1 H => ?_) H)
  refine T_icmp_ge (pc := 7) (tgt := 120) dX1_takeValue_7 (by decide) (fun hc => ?_) (fun hc => ?_)
  · rw [if_pos hc] at H
    refine T_iconst (pc := 120) (v := 0) dX1_takeValue_120 (by decide) ?_
    exact T_ireturn (pc := 121) rfl rfl dX1_takeValue_121 H
  · rw [if_neg hc] at H
    refine T_aload_n (pc := 10) dX1_takeValue_10 rfl rfl ?_
    refine T_gR (pc := 11) fa_X1_25 dX1_takeValue_11 (gR_mono (fun x2 H => ?_) H)
    refine T_iload_n (pc := 14) dX1_takeValue_14 rfl rfl ?_
    refine T_aI (pc := 15) dX1_takeValue_15 (aI_mono (fun x3 H => ?_) H)
    refine T_istore (pc := 16) (ls2 := [some (jR v0), some (jR v1), some (jR v2), some (jI v3), some (jI x3), none]) dX1_takeValue_16 (Nat.le_of_ble_eq_true rfl) rfl ?_
    refine T_aload_n (pc := 18) dX1_takeValue_18 rfl rfl ?_
    refine T_gR (pc := 19) fa_X1_39 dX1_takeValue_19 (gR_mono (fun x4 H => ?_) H)
    refine T_aload_n (pc := 22) dX1_takeValue_22 rfl rfl ?_
    refine T_gR (pc := 23) fa_X1_45 dX1_takeValue_23 (gR_mono (fun x5 H => ?_) H)
    refine T_iload_n (pc := 26) dX1_takeValue_26 rfl rfl ?_
    refine T_aI (pc := 27) dX1_takeValue_27 (aI_mono (fun x6 H => ?_) H)
    obtain ⟨H0, H⟩ := H
    refine T_iV (pc := 28) (ci := 2) (av := [jI x6]) (rest := []) (o := x4) dX1_takeValue_28 mf_X2_find c_4_162 c_2_218 c_2_219 rfl rfl (Nat.le_of_ble_eq_true rfl) rfl H0 (iI_k (iI_m0 (fun x7 h H => ?_) (J_X2_find (d := (d + 4)) H)))
    refine T_istore (pc := 31) (ls2 := [some (jR v0), some (jR v1), some (jR v2), some (jI v3), some (jI x3), some (jI x7)]) dX1_takeValue_31 (Nat.le_of_ble_eq_true rfl) rfl ?_
    refine T_iload (pc := 33) dX1_takeValue_33 rfl ?_
    refine T_iconst (pc := 35) (v := (-1)) dX1_takeValue_35 (by decide) ?_
    refine T_icmp_ne (pc := 36) (tgt := 63) dX1_takeValue_36 (by decide) (fun hc => ?_) (fun hc => ?_)
    · rw [if_neg hc] at H
      refine T_aload_n (pc := 63) dX1_takeValue_63 rfl rfl ?_
      refine T_gR (pc := 64) fa_X1_39 dX1_takeValue_64 (gR_mono (fun x8 H => ?_) H)
      refine T_gR (pc := 67) fa_X1_25 dX1_takeValue_67 (gR_mono (fun x9 H => ?_) H)
      refine T_iload (pc := 70) dX1_takeValue_70 rfl ?_
      refine T_aI (pc := 72) dX1_takeValue_72 (aI_mono (fun x10 H => ?_) H)
      refine T_iload (pc := 73) dX1_takeValue_73 rfl ?_
      refine T_invS (pc := 75) (av := [jI x10, jI x3]) (rest := []) dX1_takeValue_75 mf_X4_isWidened c_4_163 c_2_16 rfl (Nat.le_of_ble_eq_true rfl) rfl (iI_k (iI_m0 (fun x11 h H => ?_) (J_X4_isWidened (d := (d + 4)) H)))
      refine T_if_eq (pc := 78) (tgt := 112) dX1_takeValue_78 (by decide) (fun hc => ?_) (fun hc => ?_)
      · rw [if_pos hc] at H
        refine T_iconst (pc := 112) (v := 3) dX1_takeValue_112 (by decide) ?_
        exact T_ireturn (pc := 113) rfl rfl dX1_takeValue_113 H
      · rw [if_neg hc] at H
        refine T_aload_n (pc := 81) dX1_takeValue_81 rfl rfl ?_
        refine T_gR (pc := 82) fa_X1_15 dX1_takeValue_82 (gR_mono (fun x12 H => ?_) H)
        refine T_iload_n (pc := 85) dX1_takeValue_85 rfl rfl ?_
        refine T_aload_n (pc := 86) dX1_takeValue_86 rfl rfl ?_
        refine T_gR (pc := 87) fa_X1_39 dX1_takeValue_87 (gR_mono (fun x13 H => ?_) H)
        refine T_gR (pc := 90) fa_X1_25 dX1_takeValue_90 (gR_mono (fun x14 H => ?_) H)
        refine T_iload (pc := 93) dX1_takeValue_93 rfl ?_
        refine T_aI (pc := 95) dX1_takeValue_95 (aI_mono (fun x15 H => ?_) H)
        refine T_iload (pc := 96) dX1_takeValue_96 rfl ?_
        refine T_aload_n (pc := 98) dX1_takeValue_98 rfl rfl ?_
        refine T_gR (pc := 99) fa_X1_64 dX1_takeValue_99 (gR_mono (fun x16 H => ?_) H)
        refine T_iload (pc := 102) dX1_takeValue_102 rfl ?_
        refine T_aL (pc := 104) dX1_takeValue_104 (aL_mono (fun x17 H => ?_) H)
        refine T_invS (pc := 105) (av := [jI x15, jI x3, jL x17]) (rest := [jI v3, jR x12]) dX1_takeValue_105 mf_X4_widen c_4_164 c_2_40 rfl (Nat.le_of_ble_eq_true rfl) rfl (iL_k (iL_m0 (fun x18 h H => ?_) (J_X4_widen (d := d) H)))
        refine T_sL (pc := 108) dX1_takeValue_108 (sV_mono (fun h H => ?_) H)
        refine T_goto (pc := 109) (tgt := 114) dX1_takeValue_109 (by decide) ?_
        refine T_iinc (pc := 114) (v := v3 + 1) (ls2 := [some (jR v0), some (jR v1), some (jR v2), some (jI (v3 + 1)), some (jI x3), some (jI x7)]) dX1_takeValue_114 rfl rfl (Nat.le_of_ble_eq_true rfl) rfl ?_
        refine T_goto (pc := 117) (tgt := 2) dX1_takeValue_117 (by decide) ?_
        exact T.forget H ⟨rfl, rfl, rfl, rfl, trivial⟩
    · rw [if_pos hc] at H
      refine T_aload_n (pc := 39) dX1_takeValue_39 rfl rfl ?_
      refine T_gR (pc := 40) fa_X1_15 dX1_takeValue_40 (gR_mono (fun x19 H => ?_) H)
      refine T_iload_n (pc := 43) dX1_takeValue_43 rfl rfl ?_
      refine T_iload (pc := 44) dX1_takeValue_44 rfl ?_
      refine T_invS (pc := 46) (av := [jI x3]) (rest := [jI v3, jR x19]) dX1_takeValue_46 mf_X4_isNumber c_3_197 c_2_6 rfl (Nat.le_of_ble_eq_true rfl) rfl (iI_k (iI_m0 (fun x20 h H => ?_) (J_X4_isNumber (d := (d + 4)) H)))
      refine T_if_eq (pc := 49) (tgt := 56) dX1_takeValue_49 (by decide) (fun hc => ?_) (fun hc => ?_)
      · rw [if_pos hc] at H
        refine T_ldc2 (pc := 56) (v := (-1)) dX1_takeValue_56 c_3_198 ?_
        exact T.forget (E_X1_takeValue_59 H) ⟨rfl, rfl, rfl, rfl, trivial⟩
      · rw [if_neg hc] at H
        refine T_lconst (pc := 52) (v := 0) dX1_takeValue_52 (by decide) ?_
        refine T_goto (pc := 53) (tgt := 59) dX1_takeValue_53 (by decide) ?_
        exact T.forget (E_X1_takeValue_59 H) ⟨rfl, rfl, rfl, rfl, trivial⟩
theorem I_X1_takeValue {d : Nat} {v0 : Option Nm} {v1 : Option Nm} {v2 : Option Nm} {h : MH} {u : Nat} {K : Int32 → MH → Nat → Prop} (u1 : Nat) (hu : u1 ≤ u) (H : F_X1_takeValue d v0 v1 v2 h u1 (fun x h2 => K x h2 (u - u1))) : iI (d + 5) u_X1_takeValue [jR v0, jR v1, jR v2] h u K := inv.of u1 hu (Ct.of (by decide +kernel) rfl (Nat.le_of_ble_eq_true rfl) rfl (E_X1_takeValue H))
theorem J_X1_takeValue {d : Nat} {v0 : Option Nm} {v1 : Option Nm} {v2 : Option Nm} {h : MH} {u : Nat} {K : Int32 → MH → Prop} (H : F_X1_takeValue d v0 v1 v2 h 0 K) : iI (d + 5) u_X1_takeValue [jR v0, jR v1, jR v2] h u (fun x h2 u2 => K x h2 ∧ u2 = u) := jiI (by decide +kernel) rfl (Nat.le_of_ble_eq_true rfl) rfl (E_X1_takeValue H)
theorem dX7_hasRoomForValues_0 : decode cX7_hasRoomForValues 0 = .ok (.iload_n 1, 1) := by decide +kernel
theorem dX7_hasRoomForValues_1 : decode cX7_hasRoomForValues 1 = .ok (.sipush 200, 3) := by decide +kernel
theorem dX7_hasRoomForValues_4 : decode cX7_hasRoomForValues 4 = .ok (.aload_n 0, 1) := by decide +kernel
theorem dX7_hasRoomForValues_5 : decode cX7_hasRoomForValues 5 = .ok (.getfield 27, 3) := by decide +kernel
theorem dX7_hasRoomForValues_8 : decode cX7_hasRoomForValues 8 = .ok (.isub, 1) := by decide +kernel
theorem dX7_hasRoomForValues_9 : decode cX7_hasRoomForValues 9 = .ok (.if_icmp .gt 7, 3) := by decide +kernel
theorem dX7_hasRoomForValues_12 : decode cX7_hasRoomForValues 12 = .ok (.iconst 1, 1) := by decide +kernel
theorem dX7_hasRoomForValues_13 : decode cX7_hasRoomForValues 13 = .ok (.goto 4, 3) := by decide +kernel
theorem dX7_hasRoomForValues_16 : decode cX7_hasRoomForValues 16 = .ok (.iconst 0, 1) := by decide +kernel
theorem dX7_hasRoomForValues_17 : decode cX7_hasRoomForValues 17 = .ok (.ireturn, 1) := by decide +kernel
def F_X7_hasRoomForValues (d : Nat) (v0 : Option Nm) (v1 : Int32) (h : MH) (u : Nat) (Q : Int32 → MH → Prop) : Prop :=
  gI h v0 6 3 fun x1 =>
  if (200 - x1) < v1 then
    nz 0 ∧ Q 0 h
  else
    nz 1 ∧ Q 1 h
set_option maxRecDepth 20000 in
theorem E_X7_hasRoomForValues {d : Nat} {v0 : Option Nm} {v1 : Int32} {h : MH} {u : Nat} {Q : Int32 → MH → Prop} (H : F_X7_hasRoomForValues d v0 v1 h u Q) : T u_X7_hasRoomForValues d 0 [some (jR v0), some (jI v1)] [] h u (qI Q) := by
  unfold F_X7_hasRoomForValues at H
  refine T_iload_n (pc := 0) dX7_hasRoomForValues_0 rfl rfl ?_
  refine T_sipush (pc := 1) (v := 200) dX7_hasRoomForValues_1 (by decide) ?_
  refine T_aload_n (pc := 4) dX7_hasRoomForValues_4 rfl rfl ?_
  refine T_gI (pc := 5) fa_X7_27 dX7_hasRoomForValues_5 (gI_mono (fun x1 H => ?_) H)
  refine T_isub (pc := 8) dX7_hasRoomForValues_8 ?_
  refine T_icmp_gt (pc := 9) (tgt := 16) dX7_hasRoomForValues_9 (by decide) (fun hc => ?_) (fun hc => ?_)
  · rw [if_pos hc] at H
    refine T_iconst (pc := 16) (v := 0) dX7_hasRoomForValues_16 (by decide) ?_
    exact T_ireturn (pc := 17) rfl (nz_nar H.1) dX7_hasRoomForValues_17 H.2
  · rw [if_neg hc] at H
    refine T_iconst (pc := 12) (v := 1) dX7_hasRoomForValues_12 (by decide) ?_
    refine T_goto (pc := 13) (tgt := 17) dX7_hasRoomForValues_13 (by decide) ?_
    exact T_ireturn (pc := 17) rfl (nz_nar H.1) dX7_hasRoomForValues_17 H.2
theorem I_X7_hasRoomForValues {d : Nat} {v0 : Option Nm} {v1 : Int32} {h : MH} {u : Nat} {K : Int32 → MH → Nat → Prop} (u1 : Nat) (hu : u1 ≤ u) (H : F_X7_hasRoomForValues d v0 v1 h u1 (fun x h2 => K x h2 (u - u1))) : iI d u_X7_hasRoomForValues [jR v0, jI v1] h u K := inv.of u1 hu (Ct.of (by decide +kernel) rfl (Nat.le_of_ble_eq_true rfl) rfl (E_X7_hasRoomForValues H))
theorem J_X7_hasRoomForValues {d : Nat} {v0 : Option Nm} {v1 : Int32} {h : MH} {u : Nat} {K : Int32 → MH → Prop} (H : F_X7_hasRoomForValues d v0 v1 h 0 K) : iI d u_X7_hasRoomForValues [jR v0, jI v1] h u (fun x h2 u2 => K x h2 ∧ u2 = u) := jiI (by decide +kernel) rfl (Nat.le_of_ble_eq_true rfl) rfl (E_X7_hasRoomForValues H)
theorem dX11_carry_0 : decode cX11_carry 0 = .ok (.aload_n 0, 1) := by decide +kernel
theorem dX11_carry_1 : decode cX11_carry 1 = .ok (.getfield 12, 3) := by decide +kernel
theorem dX11_carry_4 : decode cX11_carry 4 = .ok (.iload_n 1, 1) := by decide +kernel
theorem dX11_carry_5 : decode cX11_carry 5 = .ok (.i2l, 1) := by decide +kernel
theorem dX11_carry_6 : decode cX11_carry 6 = .ok (.invokevirtual 118, 3) := by decide +kernel
theorem dX11_carry_9 : decode cX11_carry 9 = .ok (.astore_n 2, 1) := by decide +kernel
theorem dX11_carry_10 : decode cX11_carry 10 = .ok (.aload_n 2, 1) := by decide +kernel
theorem dX11_carry_11 : decode cX11_carry 11 = .ok (.ifnonnull 5, 3) := by decide +kernel
theorem dX11_carry_14 : decode cX11_carry 14 = .ok (.iconst (-1), 1) := by decide +kernel
theorem dX11_carry_15 : decode cX11_carry 15 = .ok (.ireturn, 1) := by decide +kernel
theorem dX11_carry_16 : decode cX11_carry 16 = .ok (.aload_n 2, 1) := by decide +kernel
theorem dX11_carry_17 : decode cX11_carry 17 = .ok (.getfield 252, 3) := by decide +kernel
theorem dX11_carry_20 : decode cX11_carry 20 = .ok (.astore_n 3, 1) := by decide +kernel
theorem dX11_carry_21 : decode cX11_carry 21 = .ok (.aload_n 3, 1) := by decide +kernel
theorem dX11_carry_22 : decode cX11_carry 22 = .ok (.getfield 192, 3) := by decide +kernel
theorem dX11_carry_25 : decode cX11_carry 25 = .ok (.ifCond .eq 28, 3) := by decide +kernel
theorem dX11_carry_28 : decode cX11_carry 28 = .ok (.aload_n 3, 1) := by decide +kernel
theorem dX11_carry_29 : decode cX11_carry 29 = .ok (.invokevirtual 165, 3) := by decide +kernel
theorem dX11_carry_32 : decode cX11_carry 32 = .ok (.aload_n 2, 1) := by decide +kernel
theorem dX11_carry_33 : decode cX11_carry 33 = .ok (.getfield 275, 3) := by decide +kernel
theorem dX11_carry_36 : decode cX11_carry 36 = .ok (.invokevirtual 172, 3) := by decide +kernel
theorem dX11_carry_39 : decode cX11_carry 39 = .ok (.iconst (-1), 1) := by decide +kernel
theorem dX11_carry_40 : decode cX11_carry 40 = .ok (.if_icmp .ne 8, 3) := by decide +kernel
theorem dX11_carry_43 : decode cX11_carry 43 = .ok (.bipush (-3), 2) := by decide +kernel
theorem dX11_carry_45 : decode cX11_carry 45 = .ok (.goto 7, 3) := by decide +kernel
theorem dX11_carry_48 : decode cX11_carry 48 = .ok (.aload_n 2, 1) := by decide +kernel
theorem dX11_carry_49 : decode cX11_carry 49 = .ok (.getfield 318, 3) := by decide +kernel
theorem dX11_carry_52 : decode cX11_carry 52 = .ok (.ireturn, 1) := by decide +kernel
theorem dX11_carry_53 : decode cX11_carry 53 = .ok (.aload_n 0, 1) := by decide +kernel
theorem dX11_carry_54 : decode cX11_carry 54 = .ok (.getfield 12, 3) := by decide +kernel
theorem dX11_carry_57 : decode cX11_carry 57 = .ok (.iconst 1, 1) := by decide +kernel
theorem dX11_carry_58 : decode cX11_carry 58 = .ok (.invokevirtual 231, 3) := by decide +kernel
theorem dX11_carry_61 : decode cX11_carry 61 = .ok (.ifCond .ne 6, 3) := by decide +kernel
theorem dX11_carry_64 : decode cX11_carry 64 = .ok (.bipush (-4), 2) := by decide +kernel
theorem dX11_carry_66 : decode cX11_carry 66 = .ok (.ireturn, 1) := by decide +kernel
theorem dX11_carry_67 : decode cX11_carry 67 = .ok (.aload_n 0, 1) := by decide +kernel
theorem dX11_carry_68 : decode cX11_carry 68 = .ok (.getfield 30, 3) := by decide +kernel
theorem dX11_carry_71 : decode cX11_carry 71 = .ok (.aload_n 2, 1) := by decide +kernel
theorem dX11_carry_72 : decode cX11_carry 72 = .ok (.aload_n 3, 1) := by decide +kernel
theorem dX11_carry_73 : decode cX11_carry 73 = .ok (.invokevirtual 165, 3) := by decide +kernel
theorem dX11_carry_76 : decode cX11_carry 76 = .ok (.invokevirtual 319, 3) := by decide +kernel
theorem dX11_carry_79 : decode cX11_carry 79 = .ok (.istore 4, 2) := by decide +kernel
theorem dX11_carry_81 : decode cX11_carry 81 = .ok (.iload 4, 2) := by decide +kernel
theorem dX11_carry_83 : decode cX11_carry 83 = .ok (.ifCond .eq 10, 3) := by decide +kernel
theorem dX11_carry_86 : decode cX11_carry 86 = .ok (.aload_n 0, 1) := by decide +kernel
theorem dX11_carry_87 : decode cX11_carry 87 = .ok (.iload 4, 2) := by decide +kernel
theorem dX11_carry_89 : decode cX11_carry 89 = .ok (.invokevirtual 72, 3) := by decide +kernel
theorem dX11_carry_92 : decode cX11_carry 92 = .ok (.ireturn, 1) := by decide +kernel
theorem dX11_carry_93 : decode cX11_carry 93 = .ok (.aload_n 0, 1) := by decide +kernel
theorem dX11_carry_94 : decode cX11_carry 94 = .ok (.aload_n 3, 1) := by decide +kernel
theorem dX11_carry_95 : decode cX11_carry 95 = .ok (.invokevirtual 242, 3) := by decide +kernel
theorem dX11_carry_98 : decode cX11_carry 98 = .ok (.ireturn, 1) := by decide +kernel
def F_X11_carry (d : Nat) (v0 : Option Nm) (v1 : Int32) (h : MH) (u : Nat) (Q : Int32 → MH → Prop) : Prop :=
  gR h v0 10 0 fun x1 =>
  rc h x1 6 ∧ F_X7_findValue (d + 5) x1 (v1.toInt64) h 0 fun x2 h =>
  nl x2 (
    Q (-1) h) (
    gR h x2 9 1 fun x3 =>
    gI h x3 3 1 fun x4 =>
    if x4 = 0 then
      gR h v0 10 0 fun x5 =>
      rc h x5 6 ∧ F_X7_hasRoomForValues (d + 5) x5 1 h 0 fun x6 h =>
      if x6 = 0 then
        Q (-4) h
      else
        gR h v0 10 2 fun x7 =>
        rc h x3 3 ∧ F_X3_newest (d + 5) x3 h 0 fun x8 h =>
        rc h x7 1 ∧ F_X1_takeValue d x7 x2 x8 h 0 fun x9 h =>
        if x9 = 0 then
          rc h v0 10 ∧ iI (d + 5) u_X11_finish [jR v0, jR x3] h u fun x10 h u =>
          Q x10 h
        else
          rc h v0 10 ∧ F_X11_failed (d + 5) v0 x9 h 0 fun x11 h =>
          Q x11 h
    else
      rc h x3 3 ∧ F_X3_newest (d + 5) x3 h 0 fun x12 h =>
      gI h x2 9 4 fun x13 =>
      rc h x12 2 ∧ F_X2_find (d + 5) x12 x13 h 0 fun x14 h =>
      if x14 = (-1) then
        Q (-3) h
      else
        gI h x2 9 0 fun x15 =>
        Q x15 h)
set_option maxRecDepth 20000 in
theorem E_X11_carry {d : Nat} {v0 : Option Nm} {v1 : Int32} {h : MH} {u : Nat} {Q : Int32 → MH → Prop} (H : F_X11_carry d v0 v1 h u Q) : T u_X11_carry (d + 6) 0 [some (jR v0), some (jI v1), none, none, none] [] h u (qI Q) := by
  unfold F_X11_carry at H
  refine T_aload_n (pc := 0) dX11_carry_0 rfl rfl ?_
  refine T_gR (pc := 1) fa_X11_12 dX11_carry_1 (gR_mono (fun x1 H => ?_) H)
  refine T_iload_n (pc := 4) dX11_carry_4 rfl rfl ?_
  refine T_i2l (pc := 5) dX11_carry_5 ?_
  obtain ⟨H0, H⟩ := H
  refine T_iV (pc := 6) (ci := 6) (av := [jL (v1.toInt64)]) (rest := []) (o := x1) dX11_carry_6 mf_X7_findValue c_2_63 c_2_64 c_2_65 rfl rfl (Nat.le_of_ble_eq_true rfl) rfl H0 (iR_k (iR_m0 (fun x2 h H => ?_) (J_X7_findValue (d := (d + 5)) H)))
  refine T_astore_n (pc := 9) (ls2 := [some (jR v0), some (jI v1), some (jR x2), none, none]) dX11_carry_9 rfl (Nat.le_of_ble_eq_true rfl) rfl ?_
  refine T_aload_n (pc := 10) dX11_carry_10 rfl rfl ?_
  refine T_ifnonnull (pc := 11) (tgt := 16) dX11_carry_11 (by decide) (fun ho => ?_) (fun n ho => ?_)
  · replace H := nl_n ho H
    refine T_iconst (pc := 14) (v := (-1)) dX11_carry_14 (by decide) ?_
    exact T_ireturn (pc := 15) rfl rfl dX11_carry_15 H
  · replace H := nl_s ho H
    refine T_aload_n (pc := 16) dX11_carry_16 rfl rfl ?_
    refine T_gR (pc := 17) fa_X11_252 dX11_carry_17 (gR_mono (fun x3 H => ?_) H)
    refine T_astore_n (pc := 20) (ls2 := [some (jR v0), some (jI v1), some (jR x2), some (jR x3), none]) dX11_carry_20 rfl (Nat.le_of_ble_eq_true rfl) rfl ?_
    refine T_aload_n (pc := 21) dX11_carry_21 rfl rfl ?_
    refine T_gI (pc := 22) fa_X11_192 dX11_carry_22 (gI_mono (fun x4 H => ?_) H)
    refine T_if_eq (pc := 25) (tgt := 53) dX11_carry_25 (by decide) (fun hc => ?_) (fun hc => ?_)
    · rw [if_pos hc] at H
      refine T_aload_n (pc := 53) dX11_carry_53 rfl rfl ?_
      refine T_gR (pc := 54) fa_X11_12 dX11_carry_54 (gR_mono (fun x5 H => ?_) H)
      refine T_iconst (pc := 57) (v := 1) dX11_carry_57 (by decide) ?_
      obtain ⟨H0, H⟩ := H
      refine T_iV (pc := 58) (ci := 6) (av := [jI 1]) (rest := []) (o := x5) dX11_carry_58 mf_X7_hasRoomForValues c_3_5 c_3_6 c_3_7 rfl rfl (Nat.le_of_ble_eq_true rfl) rfl H0 (iI_k (iI_m0 (fun x6 h H => ?_) (J_X7_hasRoomForValues (d := (d + 5)) H)))
      refine T_if_ne (pc := 61) (tgt := 67) dX11_carry_61 (by decide) (fun hc => ?_) (fun hc => ?_)
      · rw [if_neg hc] at H
        refine T_aload_n (pc := 67) dX11_carry_67 rfl rfl ?_
        refine T_gR (pc := 68) fa_X11_30 dX11_carry_68 (gR_mono (fun x7 H => ?_) H)
        refine T_aload_n (pc := 71) dX11_carry_71 rfl rfl ?_
        refine T_aload_n (pc := 72) dX11_carry_72 rfl rfl ?_
        obtain ⟨H0, H⟩ := H
        refine T_iV (pc := 73) (ci := 3) (av := []) (rest := [jR x2, jR x7]) (o := x3) dX11_carry_73 mf_X3_newest c_2_213 c_2_214 c_2_215 rfl rfl (Nat.le_of_ble_eq_true rfl) rfl H0 (iR_k (iR_m0 (fun x8 h H => ?_) (J_X3_newest (d := (d + 5)) H)))
        obtain ⟨H0, H⟩ := H
        refine T_iV (pc := 76) (ci := 1) (av := [jR x2, jR x8]) (rest := []) (o := x7) dX11_carry_76 mf_X1_takeValue c_4_158 c_4_159 c_4_160 rfl rfl (Nat.le_of_ble_eq_true rfl) rfl H0 (iI_k (iI_m0 (fun x9 h H => ?_) (J_X1_takeValue (d := d) H)))
        refine T_istore (pc := 79) (ls2 := [some (jR v0), some (jI v1), some (jR x2), some (jR x3), some (jI x9)]) dX11_carry_79 (Nat.le_of_ble_eq_true rfl) rfl ?_
        refine T_iload (pc := 81) dX11_carry_81 rfl ?_
        refine T_if_eq (pc := 83) (tgt := 93) dX11_carry_83 (by decide) (fun hc => ?_) (fun hc => ?_)
        · rw [if_pos hc] at H
          refine T_aload_n (pc := 93) dX11_carry_93 rfl rfl ?_
          refine T_aload_n (pc := 94) dX11_carry_94 rfl rfl ?_
          obtain ⟨H0, H⟩ := H
          refine T_iV (pc := 95) (ci := 10) (av := [jR x3]) (rest := []) (o := v0) dX11_carry_95 mf_X11_finish c_3_161 c_3_163 pr_X11_finish rfl rfl (Nat.le_of_ble_eq_true rfl) rfl H0 (iI_k (iI_mono (fun x10 h u H => ?_) H))
          exact T_ireturn (pc := 98) rfl rfl dX11_carry_98 H
        · rw [if_neg hc] at H
          refine T_aload_n (pc := 86) dX11_carry_86 rfl rfl ?_
          refine T_iload (pc := 87) dX11_carry_87 rfl ?_
          obtain ⟨H0, H⟩ := H
          refine T_iV (pc := 89) (ci := 10) (av := [jI x9]) (rest := []) (o := v0) dX11_carry_89 mf_X11_failed c_1_196 c_1_198 pr_X11_failed rfl rfl (Nat.le_of_ble_eq_true rfl) rfl H0 (iI_k (iI_m0 (fun x11 h H => ?_) (J_X11_failed (d := (d + 5)) H)))
          exact T_ireturn (pc := 92) rfl rfl dX11_carry_92 H
      · rw [if_pos hc] at H
        refine T_bipush (pc := 64) (v := (-4)) dX11_carry_64 (by decide) ?_
        exact T_ireturn (pc := 66) rfl rfl dX11_carry_66 H
    · rw [if_neg hc] at H
      refine T_aload_n (pc := 28) dX11_carry_28 rfl rfl ?_
      obtain ⟨H0, H⟩ := H
      refine T_iV (pc := 29) (ci := 3) (av := []) (rest := []) (o := x3) dX11_carry_29 mf_X3_newest c_2_213 c_2_214 c_2_215 rfl rfl (Nat.le_of_ble_eq_true rfl) rfl H0 (iR_k (iR_m0 (fun x12 h H => ?_) (J_X3_newest (d := (d + 5)) H)))
      refine T_aload_n (pc := 32) dX11_carry_32 rfl rfl ?_
      refine T_gI (pc := 33) fa_X11_275 dX11_carry_33 (gI_mono (fun x13 H => ?_) H)
      obtain ⟨H0, H⟩ := H
      refine T_iV (pc := 36) (ci := 2) (av := [jI x13]) (rest := []) (o := x12) dX11_carry_36 mf_X2_find c_2_217 c_2_218 c_2_219 rfl rfl (Nat.le_of_ble_eq_true rfl) rfl H0 (iI_k (iI_m0 (fun x14 h H => ?_) (J_X2_find (d := (d + 5)) H)))
      refine T_iconst (pc := 39) (v := (-1)) dX11_carry_39 (by decide) ?_
      refine T_icmp_ne (pc := 40) (tgt := 48) dX11_carry_40 (by decide) (fun hc => ?_) (fun hc => ?_)
      · rw [if_neg hc] at H
        refine T_aload_n (pc := 48) dX11_carry_48 rfl rfl ?_
        refine T_gI (pc := 49) fa_X11_318 dX11_carry_49 (gI_mono (fun x15 H => ?_) H)
        exact T_ireturn (pc := 52) rfl rfl dX11_carry_52 H
      · rw [if_pos hc] at H
        refine T_bipush (pc := 43) (v := (-3)) dX11_carry_43 (by decide) ?_
        refine T_goto (pc := 45) (tgt := 52) dX11_carry_45 (by decide) ?_
        exact T_ireturn (pc := 52) rfl rfl dX11_carry_52 H
theorem I_X11_carry {d : Nat} {v0 : Option Nm} {v1 : Int32} {h : MH} {u : Nat} {K : Int32 → MH → Nat → Prop} (u1 : Nat) (hu : u1 ≤ u) (H : F_X11_carry d v0 v1 h u1 (fun x h2 => K x h2 (u - u1))) : iI (d + 6) u_X11_carry [jR v0, jI v1] h u K := inv.of u1 hu (Ct.of (by decide +kernel) rfl (Nat.le_of_ble_eq_true rfl) rfl (E_X11_carry H))
theorem dX2_isFull_0 : decode cX2_isFull 0 = .ok (.aload_n 0, 1) := by decide +kernel
theorem dX2_isFull_1 : decode cX2_isFull 1 = .ok (.getfield 30, 3) := by decide +kernel
theorem dX2_isFull_4 : decode cX2_isFull 4 = .ok (.aload_n 0, 1) := by decide +kernel
theorem dX2_isFull_5 : decode cX2_isFull 5 = .ok (.getfield 15, 3) := by decide +kernel
theorem dX2_isFull_8 : decode cX2_isFull 8 = .ok (.arraylength, 1) := by decide +kernel
theorem dX2_isFull_9 : decode cX2_isFull 9 = .ok (.if_icmp .lt 7, 3) := by decide +kernel
theorem dX2_isFull_12 : decode cX2_isFull 12 = .ok (.iconst 1, 1) := by decide +kernel
theorem dX2_isFull_13 : decode cX2_isFull 13 = .ok (.goto 4, 3) := by decide +kernel
theorem dX2_isFull_16 : decode cX2_isFull 16 = .ok (.iconst 0, 1) := by decide +kernel
theorem dX2_isFull_17 : decode cX2_isFull 17 = .ok (.ireturn, 1) := by decide +kernel
def F_X2_isFull (d : Nat) (v0 : Option Nm) (h : MH) (u : Nat) (Q : Int32 → MH → Prop) : Prop :=
  gI h v0 2 4 fun x1 =>
  gR h v0 2 1 fun x2 =>
  aN h x2 fun x3 =>
  if x1 < x3 then
    nz 0 ∧ Q 0 h
  else
    nz 1 ∧ Q 1 h
set_option maxRecDepth 20000 in
theorem E_X2_isFull {d : Nat} {v0 : Option Nm} {h : MH} {u : Nat} {Q : Int32 → MH → Prop} (H : F_X2_isFull d v0 h u Q) : T u_X2_isFull d 0 [some (jR v0)] [] h u (qI Q) := by
  unfold F_X2_isFull at H
  refine T_aload_n (pc := 0) dX2_isFull_0 rfl rfl ?_
  refine T_gI (pc := 1) fa_X2_30 dX2_isFull_1 (gI_mono (fun x1 H => ?_) H)
  refine T_aload_n (pc := 4) dX2_isFull_4 rfl rfl ?_
  refine T_gR (pc := 5) fa_X2_15 dX2_isFull_5 (gR_mono (fun x2 H => ?_) H)
  refine T_aN (pc := 8) dX2_isFull_8 (aN_mono (fun x3 H => ?_) H)
  refine T_icmp_lt (pc := 9) (tgt := 16) dX2_isFull_9 (by decide) (fun hc => ?_) (fun hc => ?_)
  · rw [if_pos hc] at H
    refine T_iconst (pc := 16) (v := 0) dX2_isFull_16 (by decide) ?_
    exact T_ireturn (pc := 17) rfl (nz_nar H.1) dX2_isFull_17 H.2
  · rw [if_neg hc] at H
    refine T_iconst (pc := 12) (v := 1) dX2_isFull_12 (by decide) ?_
    refine T_goto (pc := 13) (tgt := 17) dX2_isFull_13 (by decide) ?_
    exact T_ireturn (pc := 17) rfl (nz_nar H.1) dX2_isFull_17 H.2
theorem I_X2_isFull {d : Nat} {v0 : Option Nm} {h : MH} {u : Nat} {K : Int32 → MH → Nat → Prop} (u1 : Nat) (hu : u1 ≤ u) (H : F_X2_isFull d v0 h u1 (fun x h2 => K x h2 (u - u1))) : iI d u_X2_isFull [jR v0] h u K := inv.of u1 hu (Ct.of (by decide +kernel) rfl (Nat.le_of_ble_eq_true rfl) rfl (E_X2_isFull H))
theorem J_X2_isFull {d : Nat} {v0 : Option Nm} {h : MH} {u : Nat} {K : Int32 → MH → Prop} (H : F_X2_isFull d v0 h 0 K) : iI d u_X2_isFull [jR v0] h u (fun x h2 u2 => K x h2 ∧ u2 = u) := jiI (by decide +kernel) rfl (Nat.le_of_ble_eq_true rfl) rfl (E_X2_isFull H)
theorem dX2_add_0 : decode cX2_add 0 = .ok (.aload_n 0, 1) := by decide +kernel
theorem dX2_add_1 : decode cX2_add 1 = .ok (.invokevirtual 33, 3) := by decide +kernel
theorem dX2_add_4 : decode cX2_add 4 = .ok (.ifCond .eq 4, 3) := by decide +kernel
theorem dX2_add_7 : decode cX2_add 7 = .ok (.return_, 1) := by decide +kernel
theorem dX2_add_8 : decode cX2_add 8 = .ok (.aload_n 0, 1) := by decide +kernel
theorem dX2_add_9 : decode cX2_add 9 = .ok (.getfield 15, 3) := by decide +kernel
theorem dX2_add_12 : decode cX2_add 12 = .ok (.aload_n 0, 1) := by decide +kernel
theorem dX2_add_13 : decode cX2_add 13 = .ok (.getfield 30, 3) := by decide +kernel
theorem dX2_add_16 : decode cX2_add 16 = .ok (.iload_n 1, 1) := by decide +kernel
theorem dX2_add_17 : decode cX2_add 17 = .ok (.iastore, 1) := by decide +kernel
theorem dX2_add_18 : decode cX2_add 18 = .ok (.aload_n 0, 1) := by decide +kernel
theorem dX2_add_19 : decode cX2_add 19 = .ok (.getfield 19, 3) := by decide +kernel
theorem dX2_add_22 : decode cX2_add 22 = .ok (.aload_n 0, 1) := by decide +kernel
theorem dX2_add_23 : decode cX2_add 23 = .ok (.getfield 30, 3) := by decide +kernel
theorem dX2_add_26 : decode cX2_add 26 = .ok (.iload_n 2, 1) := by decide +kernel
theorem dX2_add_27 : decode cX2_add 27 = .ok (.iastore, 1) := by decide +kernel
theorem dX2_add_28 : decode cX2_add 28 = .ok (.aload_n 0, 1) := by decide +kernel
theorem dX2_add_29 : decode cX2_add 29 = .ok (.dup, 1) := by decide +kernel
theorem dX2_add_30 : decode cX2_add 30 = .ok (.getfield 30, 3) := by decide +kernel
theorem dX2_add_33 : decode cX2_add 33 = .ok (.iconst 1, 1) := by decide +kernel
theorem dX2_add_34 : decode cX2_add 34 = .ok (.iadd, 1) := by decide +kernel
theorem dX2_add_35 : decode cX2_add 35 = .ok (.putfield 30, 3) := by decide +kernel
theorem dX2_add_38 : decode cX2_add 38 = .ok (.return_, 1) := by decide +kernel
def F_X2_add (d : Nat) (v0 : Option Nm) (v1 : Int32) (v2 : Int32) (h : MH) (u : Nat) (Q : MH → Prop) : Prop :=
  rc h v0 2 ∧ F_X2_isFull d v0 h 0 fun x1 h =>
  if x1 = 0 then
    gR h v0 2 1 fun x2 =>
    gI h v0 2 4 fun x3 =>
    sV .int h x2 x3 (jI v1) fun h =>
    gR h v0 2 2 fun x4 =>
    gI h v0 2 4 fun x5 =>
    sV .int h x4 x5 (jI v2) fun h =>
    gI h v0 2 4 fun x6 =>
    pV h v0 2 4 (jI (x6 + 1)) fun h =>
    Q h
  else
    Q h
set_option maxRecDepth 20000 in
theorem E_X2_add {d : Nat} {v0 : Option Nm} {v1 : Int32} {v2 : Int32} {h : MH} {u : Nat} {Q : MH → Prop} (H : F_X2_add d v0 v1 v2 h u Q) : T u_X2_add (d + 1) 0 [some (jR v0), some (jI v1), some (jI v2)] [] h u (qV Q) := by
  unfold F_X2_add at H
  refine T_aload_n (pc := 0) dX2_add_0 rfl rfl ?_
  obtain ⟨H0, H⟩ := H
  refine T_iV (pc := 1) (ci := 2) (av := []) (rest := []) (o := v0) dX2_add_1 mf_X2_isFull c_2_229 c_2_222 c_2_223 rfl rfl (Nat.le_of_ble_eq_true rfl) rfl H0 (iI_k (iI_m0 (fun x1 h H => ?_) (J_X2_isFull (d := d) H)))
  refine T_if_eq (pc := 4) (tgt := 8) dX2_add_4 (by decide) (fun hc => ?_) (fun hc => ?_)
  · rw [if_pos hc] at H
    refine T_aload_n (pc := 8) dX2_add_8 rfl rfl ?_
    refine T_gR (pc := 9) fa_X2_15 dX2_add_9 (gR_mono (fun x2 H => ?_) H)
    refine T_aload_n (pc := 12) dX2_add_12 rfl rfl ?_
    refine T_gI (pc := 13) fa_X2_30 dX2_add_13 (gI_mono (fun x3 H => ?_) H)
    refine T_iload_n (pc := 16) dX2_add_16 rfl rfl ?_
    refine T_sI (pc := 17) dX2_add_17 (sV_mono (fun h H => ?_) H)
    refine T_aload_n (pc := 18) dX2_add_18 rfl rfl ?_
    refine T_gR (pc := 19) fa_X2_19 dX2_add_19 (gR_mono (fun x4 H => ?_) H)
    refine T_aload_n (pc := 22) dX2_add_22 rfl rfl ?_
    refine T_gI (pc := 23) fa_X2_30 dX2_add_23 (gI_mono (fun x5 H => ?_) H)
    refine T_iload_n (pc := 26) dX2_add_26 rfl rfl ?_
    refine T_sI (pc := 27) dX2_add_27 (sV_mono (fun h H => ?_) H)
    refine T_aload_n (pc := 28) dX2_add_28 rfl rfl ?_
    refine T_dup (pc := 29) rfl dX2_add_29 ?_
    refine T_gI (pc := 30) fa_X2_30 dX2_add_30 (gI_mono (fun x6 H => ?_) H)
    refine T_iconst (pc := 33) (v := 1) dX2_add_33 (by decide) ?_
    refine T_iadd (pc := 34) dX2_add_34 ?_
    refine T_pV (pc := 35) fa_X2_30 dX2_add_35 trivial (pV_mono (fun h H => ?_) H)
    exact T_return (pc := 38) rfl dX2_add_38 H
  · rw [if_neg hc] at H
    exact T_return (pc := 7) rfl dX2_add_7 H
theorem I_X2_add {d : Nat} {v0 : Option Nm} {v1 : Int32} {v2 : Int32} {h : MH} {u : Nat} {K : MH → Nat → Prop} (u1 : Nat) (hu : u1 ≤ u) (H : F_X2_add d v0 v1 v2 h u1 (fun h2 => K h2 (u - u1))) : iV (d + 1) u_X2_add [jR v0, jI v1, jI v2] h u K := inv.of u1 hu (Ct.of (by decide +kernel) rfl (Nat.le_of_ble_eq_true rfl) rfl (E_X2_add H))
theorem J_X2_add {d : Nat} {v0 : Option Nm} {v1 : Int32} {v2 : Int32} {h : MH} {u : Nat} {K : MH → Prop} (H : F_X2_add d v0 v1 v2 h 0 K) : iV (d + 1) u_X2_add [jR v0, jI v1, jI v2] h u (fun h2 u2 => K h2 ∧ u2 = u) := jiV (by decide +kernel) rfl (Nat.le_of_ble_eq_true rfl) rfl (E_X2_add H)
theorem dX2_changeLane_0 : decode cX2_changeLane 0 = .ok (.iload_n 1, 1) := by decide +kernel
theorem dX2_changeLane_1 : decode cX2_changeLane 1 = .ok (.ifCond .lt 18, 3) := by decide +kernel
theorem dX2_changeLane_4 : decode cX2_changeLane 4 = .ok (.iload_n 1, 1) := by decide +kernel
theorem dX2_changeLane_5 : decode cX2_changeLane 5 = .ok (.aload_n 0, 1) := by decide +kernel
theorem dX2_changeLane_6 : decode cX2_changeLane 6 = .ok (.getfield 30, 3) := by decide +kernel
theorem dX2_changeLane_9 : decode cX2_changeLane 9 = .ok (.if_icmp .ge 10, 3) := by decide +kernel
theorem dX2_changeLane_12 : decode cX2_changeLane 12 = .ok (.aload_n 0, 1) := by decide +kernel
theorem dX2_changeLane_13 : decode cX2_changeLane 13 = .ok (.getfield 19, 3) := by decide +kernel
theorem dX2_changeLane_16 : decode cX2_changeLane 16 = .ok (.iload_n 1, 1) := by decide +kernel
theorem dX2_changeLane_17 : decode cX2_changeLane 17 = .ok (.iload_n 2, 1) := by decide +kernel
theorem dX2_changeLane_18 : decode cX2_changeLane 18 = .ok (.iastore, 1) := by decide +kernel
theorem dX2_changeLane_19 : decode cX2_changeLane 19 = .ok (.return_, 1) := by decide +kernel
def F_X2_changeLane (d : Nat) (v0 : Option Nm) (v1 : Int32) (v2 : Int32) (h : MH) (u : Nat) (Q : MH → Prop) : Prop :=
  if v1 < 0 then
    Q h
  else
    gI h v0 2 4 fun x1 =>
    if x1 ≤ v1 then
      Q h
    else
      gR h v0 2 2 fun x2 =>
      sV .int h x2 v1 (jI v2) fun h =>
      Q h
set_option maxRecDepth 20000 in
theorem E_X2_changeLane {d : Nat} {v0 : Option Nm} {v1 : Int32} {v2 : Int32} {h : MH} {u : Nat} {Q : MH → Prop} (H : F_X2_changeLane d v0 v1 v2 h u Q) : T u_X2_changeLane d 0 [some (jR v0), some (jI v1), some (jI v2)] [] h u (qV Q) := by
  unfold F_X2_changeLane at H
  refine T_iload_n (pc := 0) dX2_changeLane_0 rfl rfl ?_
  refine T_if_lt (pc := 1) (tgt := 19) dX2_changeLane_1 (by decide) (fun hc => ?_) (fun hc => ?_)
  · rw [if_pos hc] at H
    exact T_return (pc := 19) rfl dX2_changeLane_19 H
  · rw [if_neg hc] at H
    refine T_iload_n (pc := 4) dX2_changeLane_4 rfl rfl ?_
    refine T_aload_n (pc := 5) dX2_changeLane_5 rfl rfl ?_
    refine T_gI (pc := 6) fa_X2_30 dX2_changeLane_6 (gI_mono (fun x1 H => ?_) H)
    refine T_icmp_ge (pc := 9) (tgt := 19) dX2_changeLane_9 (by decide) (fun hc => ?_) (fun hc => ?_)
    · rw [if_pos hc] at H
      exact T_return (pc := 19) rfl dX2_changeLane_19 H
    · rw [if_neg hc] at H
      refine T_aload_n (pc := 12) dX2_changeLane_12 rfl rfl ?_
      refine T_gR (pc := 13) fa_X2_19 dX2_changeLane_13 (gR_mono (fun x2 H => ?_) H)
      refine T_iload_n (pc := 16) dX2_changeLane_16 rfl rfl ?_
      refine T_iload_n (pc := 17) dX2_changeLane_17 rfl rfl ?_
      refine T_sI (pc := 18) dX2_changeLane_18 (sV_mono (fun h H => ?_) H)
      exact T_return (pc := 19) rfl dX2_changeLane_19 H
theorem I_X2_changeLane {d : Nat} {v0 : Option Nm} {v1 : Int32} {v2 : Int32} {h : MH} {u : Nat} {K : MH → Nat → Prop} (u1 : Nat) (hu : u1 ≤ u) (H : F_X2_changeLane d v0 v1 v2 h u1 (fun h2 => K h2 (u - u1))) : iV d u_X2_changeLane [jR v0, jI v1, jI v2] h u K := inv.of u1 hu (Ct.of (by decide +kernel) rfl (Nat.le_of_ble_eq_true rfl) rfl (E_X2_changeLane H))
theorem J_X2_changeLane {d : Nat} {v0 : Option Nm} {v1 : Int32} {v2 : Int32} {h : MH} {u : Nat} {K : MH → Prop} (H : F_X2_changeLane d v0 v1 v2 h 0 K) : iV d u_X2_changeLane [jR v0, jI v1, jI v2] h u (fun h2 u2 => K h2 ∧ u2 = u) := jiV (by decide +kernel) rfl (Nat.le_of_ble_eq_true rfl) rfl (E_X2_changeLane H)
theorem dX2_exchange_0 : decode cX2_exchange 0 = .ok (.aload_n 0, 1) := by decide +kernel
theorem dX2_exchange_1 : decode cX2_exchange 1 = .ok (.getfield 15, 3) := by decide +kernel
theorem dX2_exchange_4 : decode cX2_exchange 4 = .ok (.iload_n 1, 1) := by decide +kernel
theorem dX2_exchange_5 : decode cX2_exchange 5 = .ok (.iaload, 1) := by decide +kernel
theorem dX2_exchange_6 : decode cX2_exchange 6 = .ok (.istore_n 3, 1) := by decide +kernel
theorem dX2_exchange_7 : decode cX2_exchange 7 = .ok (.aload_n 0, 1) := by decide +kernel
theorem dX2_exchange_8 : decode cX2_exchange 8 = .ok (.getfield 19, 3) := by decide +kernel
theorem dX2_exchange_11 : decode cX2_exchange 11 = .ok (.iload_n 1, 1) := by decide +kernel
theorem dX2_exchange_12 : decode cX2_exchange 12 = .ok (.iaload, 1) := by decide +kernel
theorem dX2_exchange_13 : decode cX2_exchange 13 = .ok (.istore 4, 2) := by decide +kernel
theorem dX2_exchange_15 : decode cX2_exchange 15 = .ok (.aload_n 0, 1) := by decide +kernel
theorem dX2_exchange_16 : decode cX2_exchange 16 = .ok (.getfield 22, 3) := by decide +kernel
theorem dX2_exchange_19 : decode cX2_exchange 19 = .ok (.iload_n 1, 1) := by decide +kernel
theorem dX2_exchange_20 : decode cX2_exchange 20 = .ok (.iaload, 1) := by decide +kernel
theorem dX2_exchange_21 : decode cX2_exchange 21 = .ok (.istore 5, 2) := by decide +kernel
theorem dX2_exchange_23 : decode cX2_exchange 23 = .ok (.aload_n 0, 1) := by decide +kernel
theorem dX2_exchange_24 : decode cX2_exchange 24 = .ok (.getfield 15, 3) := by decide +kernel
theorem dX2_exchange_27 : decode cX2_exchange 27 = .ok (.iload_n 1, 1) := by decide +kernel
theorem dX2_exchange_28 : decode cX2_exchange 28 = .ok (.aload_n 0, 1) := by decide +kernel
theorem dX2_exchange_29 : decode cX2_exchange 29 = .ok (.getfield 15, 3) := by decide +kernel
theorem dX2_exchange_32 : decode cX2_exchange 32 = .ok (.iload_n 2, 1) := by decide +kernel
theorem dX2_exchange_33 : decode cX2_exchange 33 = .ok (.iaload, 1) := by decide +kernel
theorem dX2_exchange_34 : decode cX2_exchange 34 = .ok (.iastore, 1) := by decide +kernel
theorem dX2_exchange_35 : decode cX2_exchange 35 = .ok (.aload_n 0, 1) := by decide +kernel
theorem dX2_exchange_36 : decode cX2_exchange 36 = .ok (.getfield 19, 3) := by decide +kernel
theorem dX2_exchange_39 : decode cX2_exchange 39 = .ok (.iload_n 1, 1) := by decide +kernel
theorem dX2_exchange_40 : decode cX2_exchange 40 = .ok (.aload_n 0, 1) := by decide +kernel
theorem dX2_exchange_41 : decode cX2_exchange 41 = .ok (.getfield 19, 3) := by decide +kernel
theorem dX2_exchange_44 : decode cX2_exchange 44 = .ok (.iload_n 2, 1) := by decide +kernel
theorem dX2_exchange_45 : decode cX2_exchange 45 = .ok (.iaload, 1) := by decide +kernel
theorem dX2_exchange_46 : decode cX2_exchange 46 = .ok (.iastore, 1) := by decide +kernel
theorem dX2_exchange_47 : decode cX2_exchange 47 = .ok (.aload_n 0, 1) := by decide +kernel
theorem dX2_exchange_48 : decode cX2_exchange 48 = .ok (.getfield 22, 3) := by decide +kernel
theorem dX2_exchange_51 : decode cX2_exchange 51 = .ok (.iload_n 1, 1) := by decide +kernel
theorem dX2_exchange_52 : decode cX2_exchange 52 = .ok (.aload_n 0, 1) := by decide +kernel
theorem dX2_exchange_53 : decode cX2_exchange 53 = .ok (.getfield 22, 3) := by decide +kernel
theorem dX2_exchange_56 : decode cX2_exchange 56 = .ok (.iload_n 2, 1) := by decide +kernel
theorem dX2_exchange_57 : decode cX2_exchange 57 = .ok (.iaload, 1) := by decide +kernel
theorem dX2_exchange_58 : decode cX2_exchange 58 = .ok (.iastore, 1) := by decide +kernel
theorem dX2_exchange_59 : decode cX2_exchange 59 = .ok (.aload_n 0, 1) := by decide +kernel
theorem dX2_exchange_60 : decode cX2_exchange 60 = .ok (.getfield 15, 3) := by decide +kernel
theorem dX2_exchange_63 : decode cX2_exchange 63 = .ok (.iload_n 2, 1) := by decide +kernel
theorem dX2_exchange_64 : decode cX2_exchange 64 = .ok (.iload_n 3, 1) := by decide +kernel
theorem dX2_exchange_65 : decode cX2_exchange 65 = .ok (.iastore, 1) := by decide +kernel
theorem dX2_exchange_66 : decode cX2_exchange 66 = .ok (.aload_n 0, 1) := by decide +kernel
theorem dX2_exchange_67 : decode cX2_exchange 67 = .ok (.getfield 19, 3) := by decide +kernel
theorem dX2_exchange_70 : decode cX2_exchange 70 = .ok (.iload_n 2, 1) := by decide +kernel
theorem dX2_exchange_71 : decode cX2_exchange 71 = .ok (.iload 4, 2) := by decide +kernel
theorem dX2_exchange_73 : decode cX2_exchange 73 = .ok (.iastore, 1) := by decide +kernel
theorem dX2_exchange_74 : decode cX2_exchange 74 = .ok (.aload_n 0, 1) := by decide +kernel
theorem dX2_exchange_75 : decode cX2_exchange 75 = .ok (.getfield 22, 3) := by decide +kernel
theorem dX2_exchange_78 : decode cX2_exchange 78 = .ok (.iload_n 2, 1) := by decide +kernel
theorem dX2_exchange_79 : decode cX2_exchange 79 = .ok (.iload 5, 2) := by decide +kernel
theorem dX2_exchange_81 : decode cX2_exchange 81 = .ok (.iastore, 1) := by decide +kernel
theorem dX2_exchange_82 : decode cX2_exchange 82 = .ok (.return_, 1) := by decide +kernel
def F_X2_exchange (d : Nat) (v0 : Option Nm) (v1 : Int32) (v2 : Int32) (h : MH) (u : Nat) (Q : MH → Prop) : Prop :=
  gR h v0 2 1 fun x1 =>
  aI .int h x1 v1 fun x2 =>
  gR h v0 2 2 fun x3 =>
  aI .int h x3 v1 fun x4 =>
  gR h v0 2 3 fun x5 =>
  aI .int h x5 v1 fun x6 =>
  gR h v0 2 1 fun x7 =>
  gR h v0 2 1 fun x8 =>
  aI .int h x8 v2 fun x9 =>
  sV .int h x7 v1 (jI x9) fun h =>
  gR h v0 2 2 fun x10 =>
  gR h v0 2 2 fun x11 =>
  aI .int h x11 v2 fun x12 =>
  sV .int h x10 v1 (jI x12) fun h =>
  gR h v0 2 3 fun x13 =>
  gR h v0 2 3 fun x14 =>
  aI .int h x14 v2 fun x15 =>
  sV .int h x13 v1 (jI x15) fun h =>
  gR h v0 2 1 fun x16 =>
  sV .int h x16 v2 (jI x2) fun h =>
  gR h v0 2 2 fun x17 =>
  sV .int h x17 v2 (jI x4) fun h =>
  gR h v0 2 3 fun x18 =>
  sV .int h x18 v2 (jI x6) fun h =>
  Q h
set_option maxRecDepth 20000 in
theorem E_X2_exchange {d : Nat} {v0 : Option Nm} {v1 : Int32} {v2 : Int32} {h : MH} {u : Nat} {Q : MH → Prop} (H : F_X2_exchange d v0 v1 v2 h u Q) : T u_X2_exchange d 0 [some (jR v0), some (jI v1), some (jI v2), none, none, none] [] h u (qV Q) := by
  unfold F_X2_exchange at H
  refine T_aload_n (pc := 0) dX2_exchange_0 rfl rfl ?_
  refine T_gR (pc := 1) fa_X2_15 dX2_exchange_1 (gR_mono (fun x1 H => ?_) H)
  refine T_iload_n (pc := 4) dX2_exchange_4 rfl rfl ?_
  refine T_aI (pc := 5) dX2_exchange_5 (aI_mono (fun x2 H => ?_) H)
  refine T_istore_n (pc := 6) (ls2 := [some (jR v0), some (jI v1), some (jI v2), some (jI x2), none, none]) dX2_exchange_6 rfl (Nat.le_of_ble_eq_true rfl) rfl ?_
  refine T_aload_n (pc := 7) dX2_exchange_7 rfl rfl ?_
  refine T_gR (pc := 8) fa_X2_19 dX2_exchange_8 (gR_mono (fun x3 H => ?_) H)
  refine T_iload_n (pc := 11) dX2_exchange_11 rfl rfl ?_
  refine T_aI (pc := 12) dX2_exchange_12 (aI_mono (fun x4 H => ?_) H)
  refine T_istore (pc := 13) (ls2 := [some (jR v0), some (jI v1), some (jI v2), some (jI x2), some (jI x4), none]) dX2_exchange_13 (Nat.le_of_ble_eq_true rfl) rfl ?_
  refine T_aload_n (pc := 15) dX2_exchange_15 rfl rfl ?_
  refine T_gR (pc := 16) fa_X2_22 dX2_exchange_16 (gR_mono (fun x5 H => ?_) H)
  refine T_iload_n (pc := 19) dX2_exchange_19 rfl rfl ?_
  refine T_aI (pc := 20) dX2_exchange_20 (aI_mono (fun x6 H => ?_) H)
  refine T_istore (pc := 21) (ls2 := [some (jR v0), some (jI v1), some (jI v2), some (jI x2), some (jI x4), some (jI x6)]) dX2_exchange_21 (Nat.le_of_ble_eq_true rfl) rfl ?_
  refine T_aload_n (pc := 23) dX2_exchange_23 rfl rfl ?_
  refine T_gR (pc := 24) fa_X2_15 dX2_exchange_24 (gR_mono (fun x7 H => ?_) H)
  refine T_iload_n (pc := 27) dX2_exchange_27 rfl rfl ?_
  refine T_aload_n (pc := 28) dX2_exchange_28 rfl rfl ?_
  refine T_gR (pc := 29) fa_X2_15 dX2_exchange_29 (gR_mono (fun x8 H => ?_) H)
  refine T_iload_n (pc := 32) dX2_exchange_32 rfl rfl ?_
  refine T_aI (pc := 33) dX2_exchange_33 (aI_mono (fun x9 H => ?_) H)
  refine T_sI (pc := 34) dX2_exchange_34 (sV_mono (fun h H => ?_) H)
  refine T_aload_n (pc := 35) dX2_exchange_35 rfl rfl ?_
  refine T_gR (pc := 36) fa_X2_19 dX2_exchange_36 (gR_mono (fun x10 H => ?_) H)
  refine T_iload_n (pc := 39) dX2_exchange_39 rfl rfl ?_
  refine T_aload_n (pc := 40) dX2_exchange_40 rfl rfl ?_
  refine T_gR (pc := 41) fa_X2_19 dX2_exchange_41 (gR_mono (fun x11 H => ?_) H)
  refine T_iload_n (pc := 44) dX2_exchange_44 rfl rfl ?_
  refine T_aI (pc := 45) dX2_exchange_45 (aI_mono (fun x12 H => ?_) H)
  refine T_sI (pc := 46) dX2_exchange_46 (sV_mono (fun h H => ?_) H)
  refine T_aload_n (pc := 47) dX2_exchange_47 rfl rfl ?_
  refine T_gR (pc := 48) fa_X2_22 dX2_exchange_48 (gR_mono (fun x13 H => ?_) H)
  refine T_iload_n (pc := 51) dX2_exchange_51 rfl rfl ?_
  refine T_aload_n (pc := 52) dX2_exchange_52 rfl rfl ?_
  refine T_gR (pc := 53) fa_X2_22 dX2_exchange_53 (gR_mono (fun x14 H => ?_) H)
  refine T_iload_n (pc := 56) dX2_exchange_56 rfl rfl ?_
  refine T_aI (pc := 57) dX2_exchange_57 (aI_mono (fun x15 H => ?_) H)
  refine T_sI (pc := 58) dX2_exchange_58 (sV_mono (fun h H => ?_) H)
  refine T_aload_n (pc := 59) dX2_exchange_59 rfl rfl ?_
  refine T_gR (pc := 60) fa_X2_15 dX2_exchange_60 (gR_mono (fun x16 H => ?_) H)
  refine T_iload_n (pc := 63) dX2_exchange_63 rfl rfl ?_
  refine T_iload_n (pc := 64) dX2_exchange_64 rfl rfl ?_
  refine T_sI (pc := 65) dX2_exchange_65 (sV_mono (fun h H => ?_) H)
  refine T_aload_n (pc := 66) dX2_exchange_66 rfl rfl ?_
  refine T_gR (pc := 67) fa_X2_19 dX2_exchange_67 (gR_mono (fun x17 H => ?_) H)
  refine T_iload_n (pc := 70) dX2_exchange_70 rfl rfl ?_
  refine T_iload (pc := 71) dX2_exchange_71 rfl ?_
  refine T_sI (pc := 73) dX2_exchange_73 (sV_mono (fun h H => ?_) H)
  refine T_aload_n (pc := 74) dX2_exchange_74 rfl rfl ?_
  refine T_gR (pc := 75) fa_X2_22 dX2_exchange_75 (gR_mono (fun x18 H => ?_) H)
  refine T_iload_n (pc := 78) dX2_exchange_78 rfl rfl ?_
  refine T_iload (pc := 79) dX2_exchange_79 rfl ?_
  refine T_sI (pc := 81) dX2_exchange_81 (sV_mono (fun h H => ?_) H)
  exact T_return (pc := 82) rfl dX2_exchange_82 H
theorem I_X2_exchange {d : Nat} {v0 : Option Nm} {v1 : Int32} {v2 : Int32} {h : MH} {u : Nat} {K : MH → Nat → Prop} (u1 : Nat) (hu : u1 ≤ u) (H : F_X2_exchange d v0 v1 v2 h u1 (fun h2 => K h2 (u - u1))) : iV d u_X2_exchange [jR v0, jI v1, jI v2] h u K := inv.of u1 hu (Ct.of (by decide +kernel) rfl (Nat.le_of_ble_eq_true rfl) rfl (E_X2_exchange H))
theorem J_X2_exchange {d : Nat} {v0 : Option Nm} {v1 : Int32} {v2 : Int32} {h : MH} {u : Nat} {K : MH → Prop} (H : F_X2_exchange d v0 v1 v2 h 0 K) : iV d u_X2_exchange [jR v0, jI v1, jI v2] h u (fun h2 u2 => K h2 ∧ u2 = u) := jiV (by decide +kernel) rfl (Nat.le_of_ble_eq_true rfl) rfl (E_X2_exchange H)
theorem dX2_drop_0 : decode cX2_drop 0 = .ok (.iload_n 1, 1) := by decide +kernel
theorem dX2_drop_1 : decode cX2_drop 1 = .ok (.ifCond .lt 11, 3) := by decide +kernel
theorem dX2_drop_4 : decode cX2_drop 4 = .ok (.iload_n 1, 1) := by decide +kernel
theorem dX2_drop_5 : decode cX2_drop 5 = .ok (.aload_n 0, 1) := by decide +kernel
theorem dX2_drop_6 : decode cX2_drop 6 = .ok (.getfield 30, 3) := by decide +kernel
theorem dX2_drop_9 : decode cX2_drop 9 = .ok (.if_icmp .lt 4, 3) := by decide +kernel
theorem dX2_drop_12 : decode cX2_drop 12 = .ok (.return_, 1) := by decide +kernel
theorem dX2_drop_13 : decode cX2_drop 13 = .ok (.iload_n 1, 1) := by decide +kernel
theorem dX2_drop_14 : decode cX2_drop 14 = .ok (.istore_n 2, 1) := by decide +kernel
theorem dX2_drop_15 : decode cX2_drop 15 = .ok (.iload_n 2, 1) := by decide +kernel
theorem dX2_drop_16 : decode cX2_drop 16 = .ok (.aload_n 0, 1) := by decide +kernel
theorem dX2_drop_17 : decode cX2_drop 17 = .ok (.getfield 30, 3) := by decide +kernel
theorem dX2_drop_20 : decode cX2_drop 20 = .ok (.iconst 1, 1) := by decide +kernel
theorem dX2_drop_21 : decode cX2_drop 21 = .ok (.isub, 1) := by decide +kernel
theorem dX2_drop_22 : decode cX2_drop 22 = .ok (.if_icmp .ge 17, 3) := by decide +kernel
theorem dX2_drop_25 : decode cX2_drop 25 = .ok (.aload_n 0, 1) := by decide +kernel
theorem dX2_drop_26 : decode cX2_drop 26 = .ok (.iload_n 2, 1) := by decide +kernel
theorem dX2_drop_27 : decode cX2_drop 27 = .ok (.iload_n 2, 1) := by decide +kernel
theorem dX2_drop_28 : decode cX2_drop 28 = .ok (.iconst 1, 1) := by decide +kernel
theorem dX2_drop_29 : decode cX2_drop 29 = .ok (.iadd, 1) := by decide +kernel
theorem dX2_drop_30 : decode cX2_drop 30 = .ok (.invokevirtual 37, 3) := by decide +kernel
theorem dX2_drop_33 : decode cX2_drop 33 = .ok (.iinc 2 1, 3) := by decide +kernel
theorem dX2_drop_36 : decode cX2_drop 36 = .ok (.goto (-21), 3) := by decide +kernel
theorem dX2_drop_39 : decode cX2_drop 39 = .ok (.aload_n 0, 1) := by decide +kernel
theorem dX2_drop_40 : decode cX2_drop 40 = .ok (.dup, 1) := by decide +kernel
theorem dX2_drop_41 : decode cX2_drop 41 = .ok (.getfield 30, 3) := by decide +kernel
theorem dX2_drop_44 : decode cX2_drop 44 = .ok (.iconst 1, 1) := by decide +kernel
theorem dX2_drop_45 : decode cX2_drop 45 = .ok (.isub, 1) := by decide +kernel
theorem dX2_drop_46 : decode cX2_drop 46 = .ok (.putfield 30, 3) := by decide +kernel
theorem dX2_drop_49 : decode cX2_drop 49 = .ok (.return_, 1) := by decide +kernel
def L_X2_drop_15 (d : Nat) (v0 : Option Nm) (v2 : Int32) (h : MH) (u : Nat) (Q : MH → Prop) : Prop := T u_X2_drop (d + 1) 15 [some (jR v0), none, some (jI v2)] [] h u (qV Q)
def F_X2_drop (d : Nat) (v0 : Option Nm) (v1 : Int32) (h : MH) (u : Nat) (Q : MH → Prop) : Prop :=
  if v1 < 0 then
    Q h
  else
    gI h v0 2 4 fun x1 =>
    if v1 < x1 then
      L_X2_drop_15 d v0 v1 h u Q
    else
      Q h
set_option maxRecDepth 20000 in
theorem E_X2_drop {d : Nat} {v0 : Option Nm} {v1 : Int32} {h : MH} {u : Nat} {Q : MH → Prop} (H : F_X2_drop d v0 v1 h u Q) : T u_X2_drop (d + 1) 0 [some (jR v0), some (jI v1), none] [] h u (qV Q) := by
  unfold F_X2_drop at H
  refine T_iload_n (pc := 0) dX2_drop_0 rfl rfl ?_
  refine T_if_lt (pc := 1) (tgt := 12) dX2_drop_1 (by decide) (fun hc => ?_) (fun hc => ?_)
  · rw [if_pos hc] at H
    exact T_return (pc := 12) rfl dX2_drop_12 H
  · rw [if_neg hc] at H
    refine T_iload_n (pc := 4) dX2_drop_4 rfl rfl ?_
    refine T_aload_n (pc := 5) dX2_drop_5 rfl rfl ?_
    refine T_gI (pc := 6) fa_X2_30 dX2_drop_6 (gI_mono (fun x1 H => ?_) H)
    refine T_icmp_lt (pc := 9) (tgt := 13) dX2_drop_9 (by decide) (fun hc => ?_) (fun hc => ?_)
    · rw [if_pos hc] at H
      refine T_iload_n (pc := 13) dX2_drop_13 rfl rfl ?_
      refine T_istore_n (pc := 14) (ls2 := [some (jR v0), some (jI v1), some (jI v1)]) dX2_drop_14 rfl (Nat.le_of_ble_eq_true rfl) rfl ?_
      exact T.forget H ⟨rfl, rfl, trivial⟩
    · rw [if_neg hc] at H
      exact T_return (pc := 12) rfl dX2_drop_12 H
def F_X2_drop_15 (d : Nat) (v0 : Option Nm) (v2 : Int32) (h : MH) (u : Nat) (Q : MH → Prop) : Prop :=
  gI h v0 2 4 fun x1 =>
  if (x1 - 1) ≤ v2 then
    gI h v0 2 4 fun x2 =>
    pV h v0 2 4 (jI (x2 - 1)) fun h =>
    Q h
  else
    rc h v0 2 ∧ F_X2_exchange d v0 v2 (v2 + 1) h 0 fun h =>
    L_X2_drop_15 d v0 (v2 + 1) h u Q
set_option maxRecDepth 20000 in
theorem E_X2_drop_15 {d : Nat} {v0 : Option Nm} {v2 : Int32} {h : MH} {u : Nat} {Q : MH → Prop} (H : F_X2_drop_15 d v0 v2 h u Q) : T u_X2_drop (d + 1) 15 [some (jR v0), none, some (jI v2)] [] h u (qV Q) := by
  unfold F_X2_drop_15 at H
  refine T_iload_n (pc := 15) dX2_drop_15 rfl rfl ?_
  refine T_aload_n (pc := 16) dX2_drop_16 rfl rfl ?_
  refine T_gI (pc := 17) fa_X2_30 dX2_drop_17 (gI_mono (fun x1 H => ?_) H)
  refine T_iconst (pc := 20) (v := 1) dX2_drop_20 (by decide) ?_
  refine T_isub (pc := 21) dX2_drop_21 ?_
  refine T_icmp_ge (pc := 22) (tgt := 39) dX2_drop_22 (by decide) (fun hc => ?_) (fun hc => ?_)
  · rw [if_pos hc] at H
    refine T_aload_n (pc := 39) dX2_drop_39 rfl rfl ?_
    refine T_dup (pc := 40) rfl dX2_drop_40 ?_
    refine T_gI (pc := 41) fa_X2_30 dX2_drop_41 (gI_mono (fun x2 H => ?_) H)
    refine T_iconst (pc := 44) (v := 1) dX2_drop_44 (by decide) ?_
    refine T_isub (pc := 45) dX2_drop_45 ?_
    refine T_pV (pc := 46) fa_X2_30 dX2_drop_46 trivial (pV_mono (fun h H => ?_) H)
    exact T_return (pc := 49) rfl dX2_drop_49 H
  · rw [if_neg hc] at H
    refine T_aload_n (pc := 25) dX2_drop_25 rfl rfl ?_
    refine T_iload_n (pc := 26) dX2_drop_26 rfl rfl ?_
    refine T_iload_n (pc := 27) dX2_drop_27 rfl rfl ?_
    refine T_iconst (pc := 28) (v := 1) dX2_drop_28 (by decide) ?_
    refine T_iadd (pc := 29) dX2_drop_29 ?_
    obtain ⟨H0, H⟩ := H
    refine T_iV (pc := 30) (ci := 2) (av := [jI v2, jI (v2 + 1)]) (rest := []) (o := v0) dX2_drop_30 mf_X2_exchange c_3_32 c_3_34 pr_X2_exchange rfl rfl (Nat.le_of_ble_eq_true rfl) rfl H0 (iV_k (iV_m0 (fun h H => ?_) (J_X2_exchange (d := d) H)))
    refine T_iinc (pc := 33) (v := v2 + 1) (ls2 := [some (jR v0), none, some (jI (v2 + 1))]) dX2_drop_33 rfl rfl (Nat.le_of_ble_eq_true rfl) rfl ?_
    refine T_goto (pc := 36) (tgt := 15) dX2_drop_36 (by decide) ?_
    exact T.forget H ⟨rfl, rfl, trivial⟩
theorem I_X2_drop {d : Nat} {v0 : Option Nm} {v1 : Int32} {h : MH} {u : Nat} {K : MH → Nat → Prop} (u1 : Nat) (hu : u1 ≤ u) (H : F_X2_drop d v0 v1 h u1 (fun h2 => K h2 (u - u1))) : iV (d + 1) u_X2_drop [jR v0, jI v1] h u K := inv.of u1 hu (Ct.of (by decide +kernel) rfl (Nat.le_of_ble_eq_true rfl) rfl (E_X2_drop H))
theorem J_X2_drop {d : Nat} {v0 : Option Nm} {v1 : Int32} {h : MH} {u : Nat} {K : MH → Prop} (H : F_X2_drop d v0 v1 h 0 K) : iV (d + 1) u_X2_drop [jR v0, jI v1] h u (fun h2 u2 => K h2 ∧ u2 = u) := jiV (by decide +kernel) rfl (Nat.le_of_ble_eq_true rfl) rfl (E_X2_drop H)
theorem dX2_reverse_0 : decode cX2_reverse 0 = .ok (.iconst 0, 1) := by decide +kernel
theorem dX2_reverse_1 : decode cX2_reverse 1 = .ok (.istore_n 1, 1) := by decide +kernel
theorem dX2_reverse_2 : decode cX2_reverse 2 = .ok (.iload_n 1, 1) := by decide +kernel
theorem dX2_reverse_3 : decode cX2_reverse 3 = .ok (.aload_n 0, 1) := by decide +kernel
theorem dX2_reverse_4 : decode cX2_reverse 4 = .ok (.getfield 30, 3) := by decide +kernel
theorem dX2_reverse_7 : decode cX2_reverse 7 = .ok (.iconst 2, 1) := by decide +kernel
theorem dX2_reverse_8 : decode cX2_reverse 8 = .ok (.idiv, 1) := by decide +kernel
theorem dX2_reverse_9 : decode cX2_reverse 9 = .ok (.if_icmp .ge 22, 3) := by decide +kernel
theorem dX2_reverse_12 : decode cX2_reverse 12 = .ok (.aload_n 0, 1) := by decide +kernel
theorem dX2_reverse_13 : decode cX2_reverse 13 = .ok (.iload_n 1, 1) := by decide +kernel
theorem dX2_reverse_14 : decode cX2_reverse 14 = .ok (.aload_n 0, 1) := by decide +kernel
theorem dX2_reverse_15 : decode cX2_reverse 15 = .ok (.getfield 30, 3) := by decide +kernel
theorem dX2_reverse_18 : decode cX2_reverse 18 = .ok (.iconst 1, 1) := by decide +kernel
theorem dX2_reverse_19 : decode cX2_reverse 19 = .ok (.isub, 1) := by decide +kernel
theorem dX2_reverse_20 : decode cX2_reverse 20 = .ok (.iload_n 1, 1) := by decide +kernel
theorem dX2_reverse_21 : decode cX2_reverse 21 = .ok (.isub, 1) := by decide +kernel
theorem dX2_reverse_22 : decode cX2_reverse 22 = .ok (.invokevirtual 37, 3) := by decide +kernel
theorem dX2_reverse_25 : decode cX2_reverse 25 = .ok (.iinc 1 1, 3) := by decide +kernel
theorem dX2_reverse_28 : decode cX2_reverse 28 = .ok (.goto (-26), 3) := by decide +kernel
theorem dX2_reverse_31 : decode cX2_reverse 31 = .ok (.return_, 1) := by decide +kernel
def L_X2_reverse_2 (d : Nat) (v0 : Option Nm) (v1 : Int32) (h : MH) (u : Nat) (Q : MH → Prop) : Prop := T u_X2_reverse (d + 1) 2 [some (jR v0), some (jI v1)] [] h u (qV Q)
def F_X2_reverse (d : Nat) (v0 : Option Nm) (h : MH) (u : Nat) (Q : MH → Prop) : Prop :=
  L_X2_reverse_2 d v0 0 h u Q
set_option maxRecDepth 20000 in
theorem E_X2_reverse {d : Nat} {v0 : Option Nm} {h : MH} {u : Nat} {Q : MH → Prop} (H : F_X2_reverse d v0 h u Q) : T u_X2_reverse (d + 1) 0 [some (jR v0), none] [] h u (qV Q) := by
  unfold F_X2_reverse at H
  refine T_iconst (pc := 0) (v := 0) dX2_reverse_0 (by decide) ?_
  refine T_istore_n (pc := 1) (ls2 := [some (jR v0), some (jI 0)]) dX2_reverse_1 rfl (Nat.le_of_ble_eq_true rfl) rfl ?_
  exact T.forget H ⟨rfl, rfl, trivial⟩
def F_X2_reverse_2 (d : Nat) (v0 : Option Nm) (v1 : Int32) (h : MH) (u : Nat) (Q : MH → Prop) : Prop :=
  gI h v0 2 4 fun x1 =>
  if (x1 / 2) ≤ v1 then
    Q h
  else
    gI h v0 2 4 fun x2 =>
    rc h v0 2 ∧ F_X2_exchange d v0 v1 ((x2 - 1) - v1) h 0 fun h =>
    L_X2_reverse_2 d v0 (v1 + 1) h u Q
set_option maxRecDepth 20000 in
theorem E_X2_reverse_2 {d : Nat} {v0 : Option Nm} {v1 : Int32} {h : MH} {u : Nat} {Q : MH → Prop} (H : F_X2_reverse_2 d v0 v1 h u Q) : T u_X2_reverse (d + 1) 2 [some (jR v0), some (jI v1)] [] h u (qV Q) := by
  unfold F_X2_reverse_2 at H
  refine T_iload_n (pc := 2) dX2_reverse_2 rfl rfl ?_
  refine T_aload_n (pc := 3) dX2_reverse_3 rfl rfl ?_
  refine T_gI (pc := 4) fa_X2_30 dX2_reverse_4 (gI_mono (fun x1 H => ?_) H)
  refine T_iconst (pc := 7) (v := 2) dX2_reverse_7 (by decide) ?_
  refine T_idiv (pc := 8) dX2_reverse_8 (by decide) ?_
  refine T_icmp_ge (pc := 9) (tgt := 31) dX2_reverse_9 (by decide) (fun hc => ?_) (fun hc => ?_)
  · rw [if_pos hc] at H
    exact T_return (pc := 31) rfl dX2_reverse_31 H
  · rw [if_neg hc] at H
    refine T_aload_n (pc := 12) dX2_reverse_12 rfl rfl ?_
    refine T_iload_n (pc := 13) dX2_reverse_13 rfl rfl ?_
    refine T_aload_n (pc := 14) dX2_reverse_14 rfl rfl ?_
    refine T_gI (pc := 15) fa_X2_30 dX2_reverse_15 (gI_mono (fun x2 H => ?_) H)
    refine T_iconst (pc := 18) (v := 1) dX2_reverse_18 (by decide) ?_
    refine T_isub (pc := 19) dX2_reverse_19 ?_
    refine T_iload_n (pc := 20) dX2_reverse_20 rfl rfl ?_
    refine T_isub (pc := 21) dX2_reverse_21 ?_
    obtain ⟨H0, H⟩ := H
    refine T_iV (pc := 22) (ci := 2) (av := [jI v1, jI ((x2 - 1) - v1)]) (rest := []) (o := v0) dX2_reverse_22 mf_X2_exchange c_3_32 c_3_34 pr_X2_exchange rfl rfl (Nat.le_of_ble_eq_true rfl) rfl H0 (iV_k (iV_m0 (fun h H => ?_) (J_X2_exchange (d := d) H)))
    refine T_iinc (pc := 25) (v := v1 + 1) (ls2 := [some (jR v0), some (jI (v1 + 1))]) dX2_reverse_25 rfl rfl (Nat.le_of_ble_eq_true rfl) rfl ?_
    refine T_goto (pc := 28) (tgt := 2) dX2_reverse_28 (by decide) ?_
    exact T.forget H ⟨rfl, rfl, trivial⟩
theorem I_X2_reverse {d : Nat} {v0 : Option Nm} {h : MH} {u : Nat} {K : MH → Nat → Prop} (u1 : Nat) (hu : u1 ≤ u) (H : F_X2_reverse d v0 h u1 (fun h2 => K h2 (u - u1))) : iV (d + 1) u_X2_reverse [jR v0] h u K := inv.of u1 hu (Ct.of (by decide +kernel) rfl (Nat.le_of_ble_eq_true rfl) rfl (E_X2_reverse H))
theorem J_X2_reverse {d : Nat} {v0 : Option Nm} {h : MH} {u : Nat} {K : MH → Prop} (H : F_X2_reverse d v0 h 0 K) : iV (d + 1) u_X2_reverse [jR v0] h u (fun h2 u2 => K h2 ∧ u2 = u) := jiV (by decide +kernel) rfl (Nat.le_of_ble_eq_true rfl) rfl (E_X2_reverse H)
theorem dX11_change_0 : decode cX11_change 0 = .ok (.aload_n 0, 1) := by decide +kernel
theorem dX11_change_1 : decode cX11_change 1 = .ok (.iload_n 2, 1) := by decide +kernel
theorem dX11_change_2 : decode cX11_change 2 = .ok (.invokevirtual 172, 3) := by decide +kernel
theorem dX11_change_5 : decode cX11_change 5 = .ok (.istore 4, 2) := by decide +kernel
theorem dX11_change_7 : decode cX11_change 7 = .ok (.iload_n 1, 1) := by decide +kernel
theorem dX11_change_8 : decode cX11_change 8 = .ok (.tableswitch 56 0 2 #[28, 37, 46], 28) := by decide +kernel
theorem dX11_change_36 : decode cX11_change 36 = .ok (.aload_n 0, 1) := by decide +kernel
theorem dX11_change_37 : decode cX11_change 37 = .ok (.iload_n 2, 1) := by decide +kernel
theorem dX11_change_38 : decode cX11_change 38 = .ok (.iload_n 3, 1) := by decide +kernel
theorem dX11_change_39 : decode cX11_change 39 = .ok (.invokevirtual 181, 3) := by decide +kernel
theorem dX11_change_42 : decode cX11_change 42 = .ok (.goto 26, 3) := by decide +kernel
theorem dX11_change_45 : decode cX11_change 45 = .ok (.aload_n 0, 1) := by decide +kernel
theorem dX11_change_46 : decode cX11_change 46 = .ok (.iload 4, 2) := by decide +kernel
theorem dX11_change_48 : decode cX11_change 48 = .ok (.invokevirtual 357, 3) := by decide +kernel
theorem dX11_change_51 : decode cX11_change 51 = .ok (.goto 17, 3) := by decide +kernel
theorem dX11_change_54 : decode cX11_change 54 = .ok (.aload_n 0, 1) := by decide +kernel
theorem dX11_change_55 : decode cX11_change 55 = .ok (.iload 4, 2) := by decide +kernel
theorem dX11_change_57 : decode cX11_change 57 = .ok (.iload_n 3, 1) := by decide +kernel
theorem dX11_change_58 : decode cX11_change 58 = .ok (.invokevirtual 360, 3) := by decide +kernel
theorem dX11_change_61 : decode cX11_change 61 = .ok (.goto 7, 3) := by decide +kernel
theorem dX11_change_64 : decode cX11_change 64 = .ok (.aload_n 0, 1) := by decide +kernel
theorem dX11_change_65 : decode cX11_change 65 = .ok (.invokevirtual 363, 3) := by decide +kernel
theorem dX11_change_68 : decode cX11_change 68 = .ok (.return_, 1) := by decide +kernel
def F_X11_change (d : Nat) (v0 : Option Nm) (v1 : Int32) (v2 : Int32) (v3 : Int32) (h : MH) (u : Nat) (Q : MH → Prop) : Prop :=
  rc h v0 2 ∧ F_X2_find (d + 1) v0 v2 h 0 fun x1 h =>
  if v1 = 0 then
    rc h v0 2 ∧ F_X2_add d v0 v2 v3 h 0 fun h =>
    Q h
  else if v1 = 1 then
    rc h v0 2 ∧ F_X2_drop d v0 x1 h 0 fun h =>
    Q h
  else if v1 = 2 then
    rc h v0 2 ∧ F_X2_changeLane (d + 1) v0 x1 v3 h 0 fun h =>
    Q h
  else 
    rc h v0 2 ∧ F_X2_reverse d v0 h 0 fun h =>
    Q h
set_option maxRecDepth 20000 in
theorem E_X11_change {d : Nat} {v0 : Option Nm} {v1 : Int32} {v2 : Int32} {v3 : Int32} {h : MH} {u : Nat} {Q : MH → Prop} (H : F_X11_change d v0 v1 v2 v3 h u Q) : T u_X11_change (d + 2) 0 [some (jR v0), some (jI v1), some (jI v2), some (jI v3), none] [] h u (qV Q) := by
  unfold F_X11_change at H
  refine T_aload_n (pc := 0) dX11_change_0 rfl rfl ?_
  refine T_iload_n (pc := 1) dX11_change_1 rfl rfl ?_
  obtain ⟨H0, H⟩ := H
  refine T_iV (pc := 2) (ci := 2) (av := [jI v2]) (rest := []) (o := v0) dX11_change_2 mf_X2_find c_2_217 c_2_218 c_2_219 rfl rfl (Nat.le_of_ble_eq_true rfl) rfl H0 (iI_k (iI_m0 (fun x1 h H => ?_) (J_X2_find (d := (d + 1)) H)))
  refine T_istore (pc := 5) (ls2 := [some (jR v0), some (jI v1), some (jI v2), some (jI v3), some (jI x1)]) dX11_change_5 (Nat.le_of_ble_eq_true rfl) rfl ?_
  refine T_iload_n (pc := 7) dX11_change_7 rfl rfl ?_
  by_cases h0 : v1 = 0
  · rw [if_pos h0] at H
    refine T_tableIn (pc := 8) (off := 28) (tgt := 36) dX11_change_8 (by rw [h0]; decide) (by rw [h0]; decide) (by rw [h0]; rfl) (by decide) ?_
    refine T_aload_n (pc := 36) dX11_change_36 rfl rfl ?_
    refine T_iload_n (pc := 37) dX11_change_37 rfl rfl ?_
    refine T_iload_n (pc := 38) dX11_change_38 rfl rfl ?_
    obtain ⟨H0, H⟩ := H
    refine T_iV (pc := 39) (ci := 2) (av := [jI v2, jI v3]) (rest := []) (o := v0) dX11_change_39 mf_X2_add c_2_225 c_2_226 c_2_227 rfl rfl (Nat.le_of_ble_eq_true rfl) rfl H0 (iV_k (iV_m0 (fun h H => ?_) (J_X2_add (d := d) H)))
    refine T_goto (pc := 42) (tgt := 68) dX11_change_42 (by decide) ?_
    exact T_return (pc := 68) rfl dX11_change_68 H
  rw [if_neg h0] at H
  by_cases h1 : v1 = 1
  · rw [if_pos h1] at H
    refine T_tableIn (pc := 8) (off := 37) (tgt := 45) dX11_change_8 (by rw [h1]; decide) (by rw [h1]; decide) (by rw [h1]; rfl) (by decide) ?_
    refine T_aload_n (pc := 45) dX11_change_45 rfl rfl ?_
    refine T_iload (pc := 46) dX11_change_46 rfl ?_
    obtain ⟨H0, H⟩ := H
    refine T_iV (pc := 48) (ci := 2) (av := [jI x1]) (rest := []) (o := v0) dX11_change_48 mf_X2_drop c_3_28 c_3_29 c_3_30 rfl rfl (Nat.le_of_ble_eq_true rfl) rfl H0 (iV_k (iV_m0 (fun h H => ?_) (J_X2_drop (d := d) H)))
    refine T_goto (pc := 51) (tgt := 68) dX11_change_51 (by decide) ?_
    exact T_return (pc := 68) rfl dX11_change_68 H
  rw [if_neg h1] at H
  by_cases h2 : v1 = 2
  · rw [if_pos h2] at H
    refine T_tableIn (pc := 8) (off := 46) (tgt := 54) dX11_change_8 (by rw [h2]; decide) (by rw [h2]; decide) (by rw [h2]; rfl) (by decide) ?_
    refine T_aload_n (pc := 54) dX11_change_54 rfl rfl ?_
    refine T_iload (pc := 55) dX11_change_55 rfl ?_
    refine T_iload_n (pc := 57) dX11_change_57 rfl rfl ?_
    obtain ⟨H0, H⟩ := H
    refine T_iV (pc := 58) (ci := 2) (av := [jI x1, jI v3]) (rest := []) (o := v0) dX11_change_58 mf_X2_changeLane c_3_36 c_3_37 c_3_38 rfl rfl (Nat.le_of_ble_eq_true rfl) rfl H0 (iV_k (iV_m0 (fun h H => ?_) (J_X2_changeLane (d := (d + 1)) H)))
    refine T_goto (pc := 61) (tgt := 68) dX11_change_61 (by decide) ?_
    exact T_return (pc := 68) rfl dX11_change_68 H
  rw [if_neg h2] at H
  have e0 : (v1 : Int32).toInt ≠ 0 := fun q => h0 (Int32.toInt_inj.mp (q.trans (by decide)))
  have e1 : (v1 : Int32).toInt ≠ 1 := fun q => h1 (Int32.toInt_inj.mp (q.trans (by decide)))
  have e2 : (v1 : Int32).toInt ≠ 2 := fun q => h2 (Int32.toInt_inj.mp (q.trans (by decide)))
  refine T_tableOut (pc := 8) (tgt := 64) dX11_change_8 (by omega) (by decide) ?_
  refine T_aload_n (pc := 64) dX11_change_64 rfl rfl ?_
  obtain ⟨H0, H⟩ := H
  refine T_iV (pc := 65) (ci := 2) (av := []) (rest := []) (o := v0) dX11_change_65 mf_X2_reverse c_3_40 c_3_41 c_3_42 rfl rfl (Nat.le_of_ble_eq_true rfl) rfl H0 (iV_k (iV_m0 (fun h H => ?_) (J_X2_reverse (d := d) H)))
  exact T_return (pc := 68) rfl dX11_change_68 H
theorem I_X11_change {d : Nat} {v0 : Option Nm} {v1 : Int32} {v2 : Int32} {v3 : Int32} {h : MH} {u : Nat} {K : MH → Nat → Prop} (u1 : Nat) (hu : u1 ≤ u) (H : F_X11_change d v0 v1 v2 v3 h u1 (fun h2 => K h2 (u - u1))) : iV (d + 2) u_X11_change [jR v0, jI v1, jI v2, jI v3] h u K := inv.of u1 hu (Ct.of (by decide +kernel) rfl (Nat.le_of_ble_eq_true rfl) rfl (E_X11_change H))
theorem J_X11_change {d : Nat} {v0 : Option Nm} {v1 : Int32} {v2 : Int32} {v3 : Int32} {h : MH} {u : Nat} {K : MH → Prop} (H : F_X11_change d v0 v1 v2 v3 h 0 K) : iV (d + 2) u_X11_change [jR v0, jI v1, jI v2, jI v3] h u (fun h2 u2 => K h2 ∧ u2 = u) := jiV (by decide +kernel) rfl (Nat.le_of_ble_eq_true rfl) rfl (E_X11_change H)
theorem dX11_constants_0 : decode cX11_constants 0 = .ok (.iload_n 1, 1) := by decide +kernel
theorem dX11_constants_1 : decode cX11_constants 1 = .ok (.iconst 0, 1) := by decide +kernel
theorem dX11_constants_2 : decode cX11_constants 2 = .ok (.iconst 3, 1) := by decide +kernel
theorem dX11_constants_3 : decode cX11_constants 3 = .ok (.invokestatic 64, 3) := by decide +kernel
theorem dX11_constants_6 : decode cX11_constants 6 = .ok (.ifCond .eq 12, 3) := by decide +kernel
theorem dX11_constants_9 : decode cX11_constants 9 = .ok (.aload_n 0, 1) := by decide +kernel
theorem dX11_constants_10 : decode cX11_constants 10 = .ok (.iconst 1, 1) := by decide +kernel
theorem dX11_constants_11 : decode cX11_constants 11 = .ok (.iload_n 1, 1) := by decide +kernel
theorem dX11_constants_12 : decode cX11_constants 12 = .ok (.invokevirtual 151, 3) := by decide +kernel
theorem dX11_constants_15 : decode cX11_constants 15 = .ok (.goto 5, 3) := by decide +kernel
theorem dX11_constants_18 : decode cX11_constants 18 = .ok (.bipush (-2), 2) := by decide +kernel
theorem dX11_constants_20 : decode cX11_constants 20 = .ok (.ireturn, 1) := by decide +kernel
def F_X11_constants (d : Nat) (v0 : Option Nm) (v1 : Int32) (h : MH) (u : Nat) (Q : Int32 → MH → Prop) : Prop :=
  F_X11_isWithin d v1 0 3 h 0 fun x1 h =>
  if x1 = 0 then
    Q (-2) h
  else
    rc h v0 10 ∧ iI d u_X11_newKind [jR v0, jI 1, jI v1] h u fun x2 h u =>
    Q x2 h
set_option maxRecDepth 20000 in
theorem E_X11_constants {d : Nat} {v0 : Option Nm} {v1 : Int32} {h : MH} {u : Nat} {Q : Int32 → MH → Prop} (H : F_X11_constants d v0 v1 h u Q) : T u_X11_constants (d + 1) 0 [some (jR v0), some (jI v1)] [] h u (qI Q) := by
  unfold F_X11_constants at H
  refine T_iload_n (pc := 0) dX11_constants_0 rfl rfl ?_
  refine T_iconst (pc := 1) (v := 0) dX11_constants_1 (by decide) ?_
  refine T_iconst (pc := 2) (v := 3) dX11_constants_2 (by decide) ?_
  refine T_invS (pc := 3) (av := [jI v1, jI 0, jI 3]) (rest := []) dX11_constants_3 mf_X11_isWithin c_1_189 c_1_190 rfl (Nat.le_of_ble_eq_true rfl) rfl (iI_k (iI_m0 (fun x1 h H => ?_) (J_X11_isWithin (d := d) H)))
  refine T_if_eq (pc := 6) (tgt := 18) dX11_constants_6 (by decide) (fun hc => ?_) (fun hc => ?_)
  · rw [if_pos hc] at H
    refine T_bipush (pc := 18) (v := (-2)) dX11_constants_18 (by decide) ?_
    exact T_ireturn (pc := 20) rfl rfl dX11_constants_20 H
  · rw [if_neg hc] at H
    refine T_aload_n (pc := 9) dX11_constants_9 rfl rfl ?_
    refine T_iconst (pc := 10) (v := 1) dX11_constants_10 (by decide) ?_
    refine T_iload_n (pc := 11) dX11_constants_11 rfl rfl ?_
    obtain ⟨H0, H⟩ := H
    refine T_iV (pc := 12) (ci := 10) (av := [jI 1, jI v1]) (rest := []) (o := v0) dX11_constants_12 mf_X11_newKind c_2_115 c_2_117 pr_X11_newKind rfl rfl (Nat.le_of_ble_eq_true rfl) rfl H0 (iI_k (iI_mono (fun x2 h u H => ?_) H))
    refine T_goto (pc := 15) (tgt := 20) dX11_constants_15 (by decide) ?_
    exact T_ireturn (pc := 20) rfl rfl dX11_constants_20 H
theorem I_X11_constants {d : Nat} {v0 : Option Nm} {v1 : Int32} {h : MH} {u : Nat} {K : Int32 → MH → Nat → Prop} (u1 : Nat) (hu : u1 ≤ u) (H : F_X11_constants d v0 v1 h u1 (fun x h2 => K x h2 (u - u1))) : iI (d + 1) u_X11_constants [jR v0, jI v1] h u K := inv.of u1 hu (Ct.of (by decide +kernel) rfl (Nat.le_of_ble_eq_true rfl) rfl (E_X11_constants H))
theorem dX5_hasRun_0 : decode cX5_hasRun 0 = .ok (.iload_n 1, 1) := by decide +kernel
theorem dX5_hasRun_1 : decode cX5_hasRun 1 = .ok (.ifCond .lt 31, 3) := by decide +kernel
theorem dX5_hasRun_4 : decode cX5_hasRun 4 = .ok (.iload_n 2, 1) := by decide +kernel
theorem dX5_hasRun_5 : decode cX5_hasRun 5 = .ok (.ifCond .lt 27, 3) := by decide +kernel
theorem dX5_hasRun_8 : decode cX5_hasRun 8 = .ok (.iload_n 1, 1) := by decide +kernel
theorem dX5_hasRun_9 : decode cX5_hasRun 9 = .ok (.aload_n 0, 1) := by decide +kernel
theorem dX5_hasRun_10 : decode cX5_hasRun 10 = .ok (.getfield 16, 3) := by decide +kernel
theorem dX5_hasRun_13 : decode cX5_hasRun 13 = .ok (.arraylength, 1) := by decide +kernel
theorem dX5_hasRun_14 : decode cX5_hasRun 14 = .ok (.if_icmp .gt 18, 3) := by decide +kernel
theorem dX5_hasRun_17 : decode cX5_hasRun 17 = .ok (.iload_n 2, 1) := by decide +kernel
theorem dX5_hasRun_18 : decode cX5_hasRun 18 = .ok (.aload_n 0, 1) := by decide +kernel
theorem dX5_hasRun_19 : decode cX5_hasRun 19 = .ok (.getfield 16, 3) := by decide +kernel
theorem dX5_hasRun_22 : decode cX5_hasRun 22 = .ok (.arraylength, 1) := by decide +kernel
theorem dX5_hasRun_23 : decode cX5_hasRun 23 = .ok (.iload_n 1, 1) := by decide +kernel
theorem dX5_hasRun_24 : decode cX5_hasRun 24 = .ok (.isub, 1) := by decide +kernel
theorem dX5_hasRun_25 : decode cX5_hasRun 25 = .ok (.if_icmp .gt 7, 3) := by decide +kernel
theorem dX5_hasRun_28 : decode cX5_hasRun 28 = .ok (.iconst 1, 1) := by decide +kernel
theorem dX5_hasRun_29 : decode cX5_hasRun 29 = .ok (.goto 4, 3) := by decide +kernel
theorem dX5_hasRun_32 : decode cX5_hasRun 32 = .ok (.iconst 0, 1) := by decide +kernel
theorem dX5_hasRun_33 : decode cX5_hasRun 33 = .ok (.ireturn, 1) := by decide +kernel
def F_X5_hasRun (d : Nat) (v0 : Option Nm) (v1 : Int32) (v2 : Int32) (h : MH) (u : Nat) (Q : Int32 → MH → Prop) : Prop :=
  if v1 < 0 then
    nz 0 ∧ Q 0 h
  else
    if v2 < 0 then
      nz 0 ∧ Q 0 h
    else
      gR h v0 4 2 fun x1 =>
      aN h x1 fun x2 =>
      if x2 < v1 then
        nz 0 ∧ Q 0 h
      else
        gR h v0 4 2 fun x3 =>
        aN h x3 fun x4 =>
        if (x4 - v1) < v2 then
          nz 0 ∧ Q 0 h
        else
          nz 1 ∧ Q 1 h
set_option maxRecDepth 20000 in
theorem E_X5_hasRun {d : Nat} {v0 : Option Nm} {v1 : Int32} {v2 : Int32} {h : MH} {u : Nat} {Q : Int32 → MH → Prop} (H : F_X5_hasRun d v0 v1 v2 h u Q) : T u_X5_hasRun d 0 [some (jR v0), some (jI v1), some (jI v2)] [] h u (qI Q) := by
  unfold F_X5_hasRun at H
  refine T_iload_n (pc := 0) dX5_hasRun_0 rfl rfl ?_
  refine T_if_lt (pc := 1) (tgt := 32) dX5_hasRun_1 (by decide) (fun hc => ?_) (fun hc => ?_)
  · rw [if_pos hc] at H
    refine T_iconst (pc := 32) (v := 0) dX5_hasRun_32 (by decide) ?_
    exact T_ireturn (pc := 33) rfl (nz_nar H.1) dX5_hasRun_33 H.2
  · rw [if_neg hc] at H
    refine T_iload_n (pc := 4) dX5_hasRun_4 rfl rfl ?_
    refine T_if_lt (pc := 5) (tgt := 32) dX5_hasRun_5 (by decide) (fun hc => ?_) (fun hc => ?_)
    · rw [if_pos hc] at H
      refine T_iconst (pc := 32) (v := 0) dX5_hasRun_32 (by decide) ?_
      exact T_ireturn (pc := 33) rfl (nz_nar H.1) dX5_hasRun_33 H.2
    · rw [if_neg hc] at H
      refine T_iload_n (pc := 8) dX5_hasRun_8 rfl rfl ?_
      refine T_aload_n (pc := 9) dX5_hasRun_9 rfl rfl ?_
      refine T_gR (pc := 10) fa_X5_16 dX5_hasRun_10 (gR_mono (fun x1 H => ?_) H)
      refine T_aN (pc := 13) dX5_hasRun_13 (aN_mono (fun x2 H => ?_) H)
      refine T_icmp_gt (pc := 14) (tgt := 32) dX5_hasRun_14 (by decide) (fun hc => ?_) (fun hc => ?_)
      · rw [if_pos hc] at H
        refine T_iconst (pc := 32) (v := 0) dX5_hasRun_32 (by decide) ?_
        exact T_ireturn (pc := 33) rfl (nz_nar H.1) dX5_hasRun_33 H.2
      · rw [if_neg hc] at H
        refine T_iload_n (pc := 17) dX5_hasRun_17 rfl rfl ?_
        refine T_aload_n (pc := 18) dX5_hasRun_18 rfl rfl ?_
        refine T_gR (pc := 19) fa_X5_16 dX5_hasRun_19 (gR_mono (fun x3 H => ?_) H)
        refine T_aN (pc := 22) dX5_hasRun_22 (aN_mono (fun x4 H => ?_) H)
        refine T_iload_n (pc := 23) dX5_hasRun_23 rfl rfl ?_
        refine T_isub (pc := 24) dX5_hasRun_24 ?_
        refine T_icmp_gt (pc := 25) (tgt := 32) dX5_hasRun_25 (by decide) (fun hc => ?_) (fun hc => ?_)
        · rw [if_pos hc] at H
          refine T_iconst (pc := 32) (v := 0) dX5_hasRun_32 (by decide) ?_
          exact T_ireturn (pc := 33) rfl (nz_nar H.1) dX5_hasRun_33 H.2
        · rw [if_neg hc] at H
          refine T_iconst (pc := 28) (v := 1) dX5_hasRun_28 (by decide) ?_
          refine T_goto (pc := 29) (tgt := 33) dX5_hasRun_29 (by decide) ?_
          exact T_ireturn (pc := 33) rfl (nz_nar H.1) dX5_hasRun_33 H.2
theorem I_X5_hasRun {d : Nat} {v0 : Option Nm} {v1 : Int32} {v2 : Int32} {h : MH} {u : Nat} {K : Int32 → MH → Nat → Prop} (u1 : Nat) (hu : u1 ≤ u) (H : F_X5_hasRun d v0 v1 v2 h u1 (fun x h2 => K x h2 (u - u1))) : iI d u_X5_hasRun [jR v0, jI v1, jI v2] h u K := inv.of u1 hu (Ct.of (by decide +kernel) rfl (Nat.le_of_ble_eq_true rfl) rfl (E_X5_hasRun H))
theorem J_X5_hasRun {d : Nat} {v0 : Option Nm} {v1 : Int32} {v2 : Int32} {h : MH} {u : Nat} {K : Int32 → MH → Prop} (H : F_X5_hasRun d v0 v1 v2 h 0 K) : iI d u_X5_hasRun [jR v0, jI v1, jI v2] h u (fun x h2 u2 => K x h2 ∧ u2 = u) := jiI (by decide +kernel) rfl (Nat.le_of_ble_eq_true rfl) rfl (E_X5_hasRun H)
theorem dX11_copy_0 : decode cX11_copy 0 = .ok (.aload_n 0, 1) := by decide +kernel
theorem dX11_copy_1 : decode cX11_copy 1 = .ok (.getfield 12, 3) := by decide +kernel
theorem dX11_copy_4 : decode cX11_copy 4 = .ok (.iload_n 1, 1) := by decide +kernel
theorem dX11_copy_5 : decode cX11_copy 5 = .ok (.i2l, 1) := by decide +kernel
theorem dX11_copy_6 : decode cX11_copy 6 = .ok (.invokevirtual 86, 3) := by decide +kernel
theorem dX11_copy_9 : decode cX11_copy 9 = .ok (.astore 6, 2) := by decide +kernel
theorem dX11_copy_11 : decode cX11_copy 11 = .ok (.aload_n 0, 1) := by decide +kernel
theorem dX11_copy_12 : decode cX11_copy 12 = .ok (.getfield 12, 3) := by decide +kernel
theorem dX11_copy_15 : decode cX11_copy 15 = .ok (.iload_n 3, 1) := by decide +kernel
theorem dX11_copy_16 : decode cX11_copy 16 = .ok (.i2l, 1) := by decide +kernel
theorem dX11_copy_17 : decode cX11_copy 17 = .ok (.invokevirtual 86, 3) := by decide +kernel
theorem dX11_copy_20 : decode cX11_copy 20 = .ok (.astore 7, 2) := by decide +kernel
theorem dX11_copy_22 : decode cX11_copy 22 = .ok (.aload 6, 2) := by decide +kernel
theorem dX11_copy_24 : decode cX11_copy 24 = .ok (.ifnull 8, 3) := by decide +kernel
theorem dX11_copy_27 : decode cX11_copy 27 = .ok (.aload 7, 2) := by decide +kernel
theorem dX11_copy_29 : decode cX11_copy 29 = .ok (.ifnonnull 5, 3) := by decide +kernel
theorem dX11_copy_32 : decode cX11_copy 32 = .ok (.iconst (-1), 1) := by decide +kernel
theorem dX11_copy_33 : decode cX11_copy 33 = .ok (.ireturn, 1) := by decide +kernel
theorem dX11_copy_34 : decode cX11_copy 34 = .ok (.aload 6, 2) := by decide +kernel
theorem dX11_copy_36 : decode cX11_copy 36 = .ok (.getfield 93, 3) := by decide +kernel
theorem dX11_copy_39 : decode cX11_copy 39 = .ok (.aload 7, 2) := by decide +kernel
theorem dX11_copy_41 : decode cX11_copy 41 = .ok (.getfield 93, 3) := by decide +kernel
theorem dX11_copy_44 : decode cX11_copy 44 = .ok (.if_icmp .ne 11, 3) := by decide +kernel
theorem dX11_copy_47 : decode cX11_copy 47 = .ok (.aload 7, 2) := by decide +kernel
theorem dX11_copy_49 : decode cX11_copy 49 = .ok (.getfield 122, 3) := by decide +kernel
theorem dX11_copy_52 : decode cX11_copy 52 = .ok (.ifCond .eq 6, 3) := by decide +kernel
theorem dX11_copy_55 : decode cX11_copy 55 = .ok (.bipush (-3), 2) := by decide +kernel
theorem dX11_copy_57 : decode cX11_copy 57 = .ok (.ireturn, 1) := by decide +kernel
theorem dX11_copy_58 : decode cX11_copy 58 = .ok (.aload 6, 2) := by decide +kernel
theorem dX11_copy_60 : decode cX11_copy 60 = .ok (.iload_n 2, 1) := by decide +kernel
theorem dX11_copy_61 : decode cX11_copy 61 = .ok (.iload 5, 2) := by decide +kernel
theorem dX11_copy_63 : decode cX11_copy 63 = .ok (.invokevirtual 137, 3) := by decide +kernel
theorem dX11_copy_66 : decode cX11_copy 66 = .ok (.ifCond .eq 15, 3) := by decide +kernel
theorem dX11_copy_69 : decode cX11_copy 69 = .ok (.aload 7, 2) := by decide +kernel
theorem dX11_copy_71 : decode cX11_copy 71 = .ok (.iload 4, 2) := by decide +kernel
theorem dX11_copy_73 : decode cX11_copy 73 = .ok (.iload 5, 2) := by decide +kernel
theorem dX11_copy_75 : decode cX11_copy 75 = .ok (.invokevirtual 137, 3) := by decide +kernel
theorem dX11_copy_78 : decode cX11_copy 78 = .ok (.ifCond .ne 9, 3) := by decide +kernel
theorem dX11_copy_81 : decode cX11_copy 81 = .ok (.aload_n 0, 1) := by decide +kernel
theorem dX11_copy_82 : decode cX11_copy 82 = .ok (.iconst 2, 1) := by decide +kernel
theorem dX11_copy_83 : decode cX11_copy 83 = .ok (.invokevirtual 72, 3) := by decide +kernel
theorem dX11_copy_86 : decode cX11_copy 86 = .ok (.ireturn, 1) := by decide +kernel
theorem dX11_copy_87 : decode cX11_copy 87 = .ok (.aload 6, 2) := by decide +kernel
theorem dX11_copy_89 : decode cX11_copy 89 = .ok (.getfield 100, 3) := by decide +kernel
theorem dX11_copy_92 : decode cX11_copy 92 = .ok (.iload_n 2, 1) := by decide +kernel
theorem dX11_copy_93 : decode cX11_copy 93 = .ok (.aload 7, 2) := by decide +kernel
theorem dX11_copy_95 : decode cX11_copy 95 = .ok (.getfield 100, 3) := by decide +kernel
theorem dX11_copy_98 : decode cX11_copy 98 = .ok (.iload 4, 2) := by decide +kernel
theorem dX11_copy_100 : decode cX11_copy 100 = .ok (.iload 5, 2) := by decide +kernel
theorem dX11_copy_102 : decode cX11_copy 102 = .ok (.invokestatic 141, 3) := by decide +kernel
theorem dX11_copy_105 : decode cX11_copy 105 = .ok (.iload 5, 2) := by decide +kernel
theorem dX11_copy_107 : decode cX11_copy 107 = .ok (.ireturn, 1) := by decide +kernel
def F_X11_copy (d : Nat) (v0 : Option Nm) (v1 : Int32) (v2 : Int32) (v3 : Int32) (v4 : Int32) (v5 : Int32) (h : MH) (u : Nat) (Q : Int32 → MH → Prop) : Prop :=
  gR h v0 10 0 fun x1 =>
  rc h x1 6 ∧ F_X7_findRow d x1 (v1.toInt64) h 0 fun x2 h =>
  gR h v0 10 0 fun x3 =>
  rc h x3 6 ∧ F_X7_findRow d x3 (v3.toInt64) h 0 fun x4 h =>
  nl x2 (
    Q (-1) h) (
    nl x4 (
      Q (-1) h) (
      gI h x2 4 1 fun x5 =>
      gI h x4 4 1 fun x6 =>
      if x5 = x6 then
        gI h x4 4 3 fun x7 =>
        if x7 = 0 then
          rc h x2 4 ∧ F_X5_hasRun d x2 v2 v5 h 0 fun x8 h =>
          if x8 = 0 then
            rc h v0 10 ∧ F_X11_failed d v0 2 h 0 fun x9 h =>
            Q x9 h
          else
            rc h x4 4 ∧ F_X5_hasRun d x4 v4 v5 h 0 fun x10 h =>
            if x10 = 0 then
              rc h v0 10 ∧ F_X11_failed d v0 2 h 0 fun x13 h =>
              Q x13 h
            else
              gR h x2 4 2 fun x11 =>
              gR h x4 4 2 fun x12 =>
              cpL h x11 v2 x12 v4 v5 fun h =>
              Q v5 h
        else
          Q (-3) h
      else
        Q (-3) h))
set_option maxRecDepth 20000 in
theorem E_X11_copy {d : Nat} {v0 : Option Nm} {v1 : Int32} {v2 : Int32} {v3 : Int32} {v4 : Int32} {v5 : Int32} {h : MH} {u : Nat} {Q : Int32 → MH → Prop} (H : F_X11_copy d v0 v1 v2 v3 v4 v5 h u Q) : T u_X11_copy (d + 1) 0 [some (jR v0), some (jI v1), some (jI v2), some (jI v3), some (jI v4), some (jI v5), none, none] [] h u (qI Q) := by
  unfold F_X11_copy at H
  refine T_aload_n (pc := 0) dX11_copy_0 rfl rfl ?_
  refine T_gR (pc := 1) fa_X11_12 dX11_copy_1 (gR_mono (fun x1 H => ?_) H)
  refine T_iload_n (pc := 4) dX11_copy_4 rfl rfl ?_
  refine T_i2l (pc := 5) dX11_copy_5 ?_
  obtain ⟨H0, H⟩ := H
  refine T_iV (pc := 6) (ci := 6) (av := [jL (v1.toInt64)]) (rest := []) (o := x1) dX11_copy_6 mf_X7_findRow c_2_1 c_2_2 c_2_3 rfl rfl (Nat.le_of_ble_eq_true rfl) rfl H0 (iR_k (iR_m0 (fun x2 h H => ?_) (J_X7_findRow (d := d) H)))
  refine T_astore (pc := 9) (ls2 := [some (jR v0), some (jI v1), some (jI v2), some (jI v3), some (jI v4), some (jI v5), some (jR x2), none]) dX11_copy_9 (Nat.le_of_ble_eq_true rfl) rfl ?_
  refine T_aload_n (pc := 11) dX11_copy_11 rfl rfl ?_
  refine T_gR (pc := 12) fa_X11_12 dX11_copy_12 (gR_mono (fun x3 H => ?_) H)
  refine T_iload_n (pc := 15) dX11_copy_15 rfl rfl ?_
  refine T_i2l (pc := 16) dX11_copy_16 ?_
  obtain ⟨H0, H⟩ := H
  refine T_iV (pc := 17) (ci := 6) (av := [jL (v3.toInt64)]) (rest := []) (o := x3) dX11_copy_17 mf_X7_findRow c_2_1 c_2_2 c_2_3 rfl rfl (Nat.le_of_ble_eq_true rfl) rfl H0 (iR_k (iR_m0 (fun x4 h H => ?_) (J_X7_findRow (d := d) H)))
  refine T_astore (pc := 20) (ls2 := [some (jR v0), some (jI v1), some (jI v2), some (jI v3), some (jI v4), some (jI v5), some (jR x2), some (jR x4)]) dX11_copy_20 (Nat.le_of_ble_eq_true rfl) rfl ?_
  refine T_aload (pc := 22) dX11_copy_22 rfl ?_
  refine T_ifnull (pc := 24) (tgt := 32) dX11_copy_24 (by decide) (fun ho => ?_) (fun n ho => ?_)
  · replace H := nl_n ho H
    refine T_iconst (pc := 32) (v := (-1)) dX11_copy_32 (by decide) ?_
    exact T_ireturn (pc := 33) rfl rfl dX11_copy_33 H
  · replace H := nl_s ho H
    refine T_aload (pc := 27) dX11_copy_27 rfl ?_
    refine T_ifnonnull (pc := 29) (tgt := 34) dX11_copy_29 (by decide) (fun ho => ?_) (fun n ho => ?_)
    · replace H := nl_n ho H
      refine T_iconst (pc := 32) (v := (-1)) dX11_copy_32 (by decide) ?_
      exact T_ireturn (pc := 33) rfl rfl dX11_copy_33 H
    · replace H := nl_s ho H
      refine T_aload (pc := 34) dX11_copy_34 rfl ?_
      refine T_gI (pc := 36) fa_X11_93 dX11_copy_36 (gI_mono (fun x5 H => ?_) H)
      refine T_aload (pc := 39) dX11_copy_39 rfl ?_
      refine T_gI (pc := 41) fa_X11_93 dX11_copy_41 (gI_mono (fun x6 H => ?_) H)
      refine T_icmp_ne (pc := 44) (tgt := 55) dX11_copy_44 (by decide) (fun hc => ?_) (fun hc => ?_)
      · rw [if_neg hc] at H
        refine T_bipush (pc := 55) (v := (-3)) dX11_copy_55 (by decide) ?_
        exact T_ireturn (pc := 57) rfl rfl dX11_copy_57 H
      · rw [if_pos hc] at H
        refine T_aload (pc := 47) dX11_copy_47 rfl ?_
        refine T_gI (pc := 49) fa_X11_122 dX11_copy_49 (gI_mono (fun x7 H => ?_) H)
        refine T_if_eq (pc := 52) (tgt := 58) dX11_copy_52 (by decide) (fun hc => ?_) (fun hc => ?_)
        · rw [if_pos hc] at H
          refine T_aload (pc := 58) dX11_copy_58 rfl ?_
          refine T_iload_n (pc := 60) dX11_copy_60 rfl rfl ?_
          refine T_iload (pc := 61) dX11_copy_61 rfl ?_
          obtain ⟨H0, H⟩ := H
          refine T_iV (pc := 63) (ci := 4) (av := [jI v2, jI v5]) (rest := []) (o := x2) dX11_copy_63 mf_X5_hasRun c_2_90 c_2_91 c_2_92 rfl rfl (Nat.le_of_ble_eq_true rfl) rfl H0 (iI_k (iI_m0 (fun x8 h H => ?_) (J_X5_hasRun (d := d) H)))
          refine T_if_eq (pc := 66) (tgt := 81) dX11_copy_66 (by decide) (fun hc => ?_) (fun hc => ?_)
          · rw [if_pos hc] at H
            refine T_aload_n (pc := 81) dX11_copy_81 rfl rfl ?_
            refine T_iconst (pc := 82) (v := 2) dX11_copy_82 (by decide) ?_
            obtain ⟨H0, H⟩ := H
            refine T_iV (pc := 83) (ci := 10) (av := [jI 2]) (rest := []) (o := v0) dX11_copy_83 mf_X11_failed c_1_196 c_1_198 pr_X11_failed rfl rfl (Nat.le_of_ble_eq_true rfl) rfl H0 (iI_k (iI_m0 (fun x9 h H => ?_) (J_X11_failed (d := d) H)))
            exact T_ireturn (pc := 86) rfl rfl dX11_copy_86 H
          · rw [if_neg hc] at H
            refine T_aload (pc := 69) dX11_copy_69 rfl ?_
            refine T_iload (pc := 71) dX11_copy_71 rfl ?_
            refine T_iload (pc := 73) dX11_copy_73 rfl ?_
            obtain ⟨H0, H⟩ := H
            refine T_iV (pc := 75) (ci := 4) (av := [jI v4, jI v5]) (rest := []) (o := x4) dX11_copy_75 mf_X5_hasRun c_2_90 c_2_91 c_2_92 rfl rfl (Nat.le_of_ble_eq_true rfl) rfl H0 (iI_k (iI_m0 (fun x10 h H => ?_) (J_X5_hasRun (d := d) H)))
            refine T_if_ne (pc := 78) (tgt := 87) dX11_copy_78 (by decide) (fun hc => ?_) (fun hc => ?_)
            · rw [if_neg hc] at H
              refine T_aload (pc := 87) dX11_copy_87 rfl ?_
              refine T_gR (pc := 89) fa_X11_100 dX11_copy_89 (gR_mono (fun x11 H => ?_) H)
              refine T_iload_n (pc := 92) dX11_copy_92 rfl rfl ?_
              refine T_aload (pc := 93) dX11_copy_93 rfl ?_
              refine T_gR (pc := 95) fa_X11_100 dX11_copy_95 (gR_mono (fun x12 H => ?_) H)
              refine T_iload (pc := 98) dX11_copy_98 rfl ?_
              refine T_iload (pc := 100) dX11_copy_100 rfl ?_
              refine T_cpL (pc := 102) dX11_copy_102 c_2_94 c_2_96 c_2_95 c_1_13 (Nat.le_of_ble_eq_true rfl) (cpL_mono (fun h H => ?_) H)
              refine T_iload (pc := 105) dX11_copy_105 rfl ?_
              exact T_ireturn (pc := 107) rfl rfl dX11_copy_107 H
            · rw [if_pos hc] at H
              refine T_aload_n (pc := 81) dX11_copy_81 rfl rfl ?_
              refine T_iconst (pc := 82) (v := 2) dX11_copy_82 (by decide) ?_
              obtain ⟨H0, H⟩ := H
              refine T_iV (pc := 83) (ci := 10) (av := [jI 2]) (rest := []) (o := v0) dX11_copy_83 mf_X11_failed c_1_196 c_1_198 pr_X11_failed rfl rfl (Nat.le_of_ble_eq_true rfl) rfl H0 (iI_k (iI_m0 (fun x13 h H => ?_) (J_X11_failed (d := d) H)))
              exact T_ireturn (pc := 86) rfl rfl dX11_copy_86 H
        · rw [if_neg hc] at H
          refine T_bipush (pc := 55) (v := (-3)) dX11_copy_55 (by decide) ?_
          exact T_ireturn (pc := 57) rfl rfl dX11_copy_57 H
theorem I_X11_copy {d : Nat} {v0 : Option Nm} {v1 : Int32} {v2 : Int32} {v3 : Int32} {v4 : Int32} {v5 : Int32} {h : MH} {u : Nat} {K : Int32 → MH → Nat → Prop} (u1 : Nat) (hu : u1 ≤ u) (H : F_X11_copy d v0 v1 v2 v3 v4 v5 h u1 (fun x h2 => K x h2 (u - u1))) : iI (d + 1) u_X11_copy [jR v0, jI v1, jI v2, jI v3, jI v4, jI v5] h u K := inv.of u1 hu (Ct.of (by decide +kernel) rfl (Nat.le_of_ble_eq_true rfl) rfl (E_X11_copy H))
theorem J_X11_copy {d : Nat} {v0 : Option Nm} {v1 : Int32} {v2 : Int32} {v3 : Int32} {v4 : Int32} {v5 : Int32} {h : MH} {u : Nat} {K : Int32 → MH → Prop} (H : F_X11_copy d v0 v1 v2 v3 v4 v5 h 0 K) : iI (d + 1) u_X11_copy [jR v0, jI v1, jI v2, jI v3, jI v4, jI v5] h u (fun x h2 u2 => K x h2 ∧ u2 = u) := jiI (by decide +kernel) rfl (Nat.le_of_ble_eq_true rfl) rfl (E_X11_copy H)
theorem dX11_findKind_0 : decode cX11_findKind 0 = .ok (.iload_n 1, 1) := by decide +kernel
theorem dX11_findKind_1 : decode cX11_findKind 1 = .ok (.iconst 0, 1) := by decide +kernel
theorem dX11_findKind_2 : decode cX11_findKind 2 = .ok (.aload_n 0, 1) := by decide +kernel
theorem dX11_findKind_3 : decode cX11_findKind 3 = .ok (.getfield 211, 3) := by decide +kernel
theorem dX11_findKind_6 : decode cX11_findKind 6 = .ok (.iconst 1, 1) := by decide +kernel
theorem dX11_findKind_7 : decode cX11_findKind 7 = .ok (.isub, 1) := by decide +kernel
theorem dX11_findKind_8 : decode cX11_findKind 8 = .ok (.invokestatic 64, 3) := by decide +kernel
theorem dX11_findKind_11 : decode cX11_findKind 11 = .ok (.ifCond .eq 12, 3) := by decide +kernel
theorem dX11_findKind_14 : decode cX11_findKind 14 = .ok (.aload_n 0, 1) := by decide +kernel
theorem dX11_findKind_15 : decode cX11_findKind 15 = .ok (.getfield 50, 3) := by decide +kernel
theorem dX11_findKind_18 : decode cX11_findKind 18 = .ok (.iload_n 1, 1) := by decide +kernel
theorem dX11_findKind_19 : decode cX11_findKind 19 = .ok (.aaload, 1) := by decide +kernel
theorem dX11_findKind_20 : decode cX11_findKind 20 = .ok (.goto 4, 3) := by decide +kernel
theorem dX11_findKind_23 : decode cX11_findKind 23 = .ok (.aconst_null, 1) := by decide +kernel
theorem dX11_findKind_24 : decode cX11_findKind 24 = .ok (.areturn, 1) := by decide +kernel
def F_X11_findKind (d : Nat) (v0 : Option Nm) (v1 : Int32) (h : MH) (u : Nat) (Q : Option Nm → MH → Prop) : Prop :=
  gI h v0 10 8 fun x1 =>
  F_X11_isWithin d v1 0 (x1 - 1) h 0 fun x2 h =>
  if x2 = 0 then
    Q none h
  else
    gR h v0 10 5 fun x3 =>
    aR "RecordBridge$Kind" h x3 v1 fun x4 =>
    Q x4 h
set_option maxRecDepth 20000 in
theorem E_X11_findKind {d : Nat} {v0 : Option Nm} {v1 : Int32} {h : MH} {u : Nat} {Q : Option Nm → MH → Prop} (H : F_X11_findKind d v0 v1 h u Q) : T u_X11_findKind (d + 1) 0 [some (jR v0), some (jI v1)] [] h u (qR Q) := by
  unfold F_X11_findKind at H
  refine T_iload_n (pc := 0) dX11_findKind_0 rfl rfl ?_
  refine T_iconst (pc := 1) (v := 0) dX11_findKind_1 (by decide) ?_
  refine T_aload_n (pc := 2) dX11_findKind_2 rfl rfl ?_
  refine T_gI (pc := 3) fa_X11_211 dX11_findKind_3 (gI_mono (fun x1 H => ?_) H)
  refine T_iconst (pc := 6) (v := 1) dX11_findKind_6 (by decide) ?_
  refine T_isub (pc := 7) dX11_findKind_7 ?_
  refine T_invS (pc := 8) (av := [jI v1, jI 0, jI (x1 - 1)]) (rest := []) dX11_findKind_8 mf_X11_isWithin c_1_189 c_1_190 rfl (Nat.le_of_ble_eq_true rfl) rfl (iI_k (iI_m0 (fun x2 h H => ?_) (J_X11_isWithin (d := d) H)))
  refine T_if_eq (pc := 11) (tgt := 23) dX11_findKind_11 (by decide) (fun hc => ?_) (fun hc => ?_)
  · rw [if_pos hc] at H
    refine T_null (pc := 23) dX11_findKind_23 ?_
    exact T_areturn (pc := 24) rfl (Or.inl ⟨_, rfl⟩) dX11_findKind_24 H
  · rw [if_neg hc] at H
    refine T_aload_n (pc := 14) dX11_findKind_14 rfl rfl ?_
    refine T_gR (pc := 15) fa_X11_50 dX11_findKind_15 (gR_mono (fun x3 H => ?_) H)
    refine T_iload_n (pc := 18) dX11_findKind_18 rfl rfl ?_
    refine T_aR (pc := 19) dX11_findKind_19 (aR_mono (fun x4 H => ?_) H)
    refine T_goto (pc := 20) (tgt := 24) dX11_findKind_20 (by decide) ?_
    exact T_areturn (pc := 24) rfl (Or.inl ⟨_, rfl⟩) dX11_findKind_24 H
theorem I_X11_findKind {d : Nat} {v0 : Option Nm} {v1 : Int32} {h : MH} {u : Nat} {K : Option Nm → MH → Nat → Prop} (u1 : Nat) (hu : u1 ≤ u) (H : F_X11_findKind d v0 v1 h u1 (fun x h2 => K x h2 (u - u1))) : iR (d + 1) u_X11_findKind [jR v0, jI v1] h u K := inv.of u1 hu (Ct.of (by decide +kernel) rfl (Nat.le_of_ble_eq_true rfl) rfl (E_X11_findKind H))
theorem J_X11_findKind {d : Nat} {v0 : Option Nm} {v1 : Int32} {h : MH} {u : Nat} {K : Option Nm → MH → Prop} (H : F_X11_findKind d v0 v1 h 0 K) : iR (d + 1) u_X11_findKind [jR v0, jI v1] h u (fun x h2 u2 => K x h2 ∧ u2 = u) := jiR (by decide +kernel) rfl (Nat.le_of_ble_eq_true rfl) rfl (E_X11_findKind H)
theorem dX3_hasRoomForEdition_0 : decode cX3_hasRoomForEdition 0 = .ok (.aload_n 0, 1) := by decide +kernel
theorem dX3_hasRoomForEdition_1 : decode cX3_hasRoomForEdition 1 = .ok (.getfield 31, 3) := by decide +kernel
theorem dX3_hasRoomForEdition_4 : decode cX3_hasRoomForEdition 4 = .ok (.iconst 4, 1) := by decide +kernel
theorem dX3_hasRoomForEdition_5 : decode cX3_hasRoomForEdition 5 = .ok (.if_icmp .ge 7, 3) := by decide +kernel
theorem dX3_hasRoomForEdition_8 : decode cX3_hasRoomForEdition 8 = .ok (.iconst 1, 1) := by decide +kernel
theorem dX3_hasRoomForEdition_9 : decode cX3_hasRoomForEdition 9 = .ok (.goto 4, 3) := by decide +kernel
theorem dX3_hasRoomForEdition_12 : decode cX3_hasRoomForEdition 12 = .ok (.iconst 0, 1) := by decide +kernel
theorem dX3_hasRoomForEdition_13 : decode cX3_hasRoomForEdition 13 = .ok (.ireturn, 1) := by decide +kernel
def F_X3_hasRoomForEdition (d : Nat) (v0 : Option Nm) (h : MH) (u : Nat) (Q : Int32 → MH → Prop) : Prop :=
  gI h v0 3 4 fun x1 =>
  if 4 ≤ x1 then
    nz 0 ∧ Q 0 h
  else
    nz 1 ∧ Q 1 h
set_option maxRecDepth 20000 in
theorem E_X3_hasRoomForEdition {d : Nat} {v0 : Option Nm} {h : MH} {u : Nat} {Q : Int32 → MH → Prop} (H : F_X3_hasRoomForEdition d v0 h u Q) : T u_X3_hasRoomForEdition d 0 [some (jR v0)] [] h u (qI Q) := by
  unfold F_X3_hasRoomForEdition at H
  refine T_aload_n (pc := 0) dX3_hasRoomForEdition_0 rfl rfl ?_
  refine T_gI (pc := 1) fa_X3_31 dX3_hasRoomForEdition_1 (gI_mono (fun x1 H => ?_) H)
  refine T_iconst (pc := 4) (v := 4) dX3_hasRoomForEdition_4 (by decide) ?_
  refine T_icmp_ge (pc := 5) (tgt := 12) dX3_hasRoomForEdition_5 (by decide) (fun hc => ?_) (fun hc => ?_)
  · rw [if_pos hc] at H
    refine T_iconst (pc := 12) (v := 0) dX3_hasRoomForEdition_12 (by decide) ?_
    exact T_ireturn (pc := 13) rfl (nz_nar H.1) dX3_hasRoomForEdition_13 H.2
  · rw [if_neg hc] at H
    refine T_iconst (pc := 8) (v := 1) dX3_hasRoomForEdition_8 (by decide) ?_
    refine T_goto (pc := 9) (tgt := 13) dX3_hasRoomForEdition_9 (by decide) ?_
    exact T_ireturn (pc := 13) rfl (nz_nar H.1) dX3_hasRoomForEdition_13 H.2
theorem I_X3_hasRoomForEdition {d : Nat} {v0 : Option Nm} {h : MH} {u : Nat} {K : Int32 → MH → Nat → Prop} (u1 : Nat) (hu : u1 ≤ u) (H : F_X3_hasRoomForEdition d v0 h u1 (fun x h2 => K x h2 (u - u1))) : iI d u_X3_hasRoomForEdition [jR v0] h u K := inv.of u1 hu (Ct.of (by decide +kernel) rfl (Nat.le_of_ble_eq_true rfl) rfl (E_X3_hasRoomForEdition H))
theorem J_X3_hasRoomForEdition {d : Nat} {v0 : Option Nm} {h : MH} {u : Nat} {K : Int32 → MH → Prop} (H : F_X3_hasRoomForEdition d v0 h 0 K) : iI d u_X3_hasRoomForEdition [jR v0] h u (fun x h2 u2 => K x h2 ∧ u2 = u) := jiI (by decide +kernel) rfl (Nat.le_of_ble_eq_true rfl) rfl (E_X3_hasRoomForEdition H)
theorem dX11_hasRoomForChange_0 : decode cX11_hasRoomForChange 0 = .ok (.aload_n 1, 1) := by decide +kernel
theorem dX11_hasRoomForChange_1 : decode cX11_hasRoomForChange 1 = .ok (.invokevirtual 354, 3) := by decide +kernel
theorem dX11_hasRoomForChange_4 : decode cX11_hasRoomForChange 4 = .ok (.ifCond .ne 5, 3) := by decide +kernel
theorem dX11_hasRoomForChange_7 : decode cX11_hasRoomForChange 7 = .ok (.iconst 0, 1) := by decide +kernel
theorem dX11_hasRoomForChange_8 : decode cX11_hasRoomForChange 8 = .ok (.ireturn, 1) := by decide +kernel
theorem dX11_hasRoomForChange_9 : decode cX11_hasRoomForChange 9 = .ok (.iload_n 2, 1) := by decide +kernel
theorem dX11_hasRoomForChange_10 : decode cX11_hasRoomForChange 10 = .ok (.ifCond .eq 5, 3) := by decide +kernel
theorem dX11_hasRoomForChange_13 : decode cX11_hasRoomForChange 13 = .ok (.iconst 1, 1) := by decide +kernel
theorem dX11_hasRoomForChange_14 : decode cX11_hasRoomForChange 14 = .ok (.ireturn, 1) := by decide +kernel
theorem dX11_hasRoomForChange_15 : decode cX11_hasRoomForChange 15 = .ok (.aload_n 1, 1) := by decide +kernel
theorem dX11_hasRoomForChange_16 : decode cX11_hasRoomForChange 16 = .ok (.invokevirtual 165, 3) := by decide +kernel
theorem dX11_hasRoomForChange_19 : decode cX11_hasRoomForChange 19 = .ok (.invokevirtual 177, 3) := by decide +kernel
theorem dX11_hasRoomForChange_22 : decode cX11_hasRoomForChange 22 = .ok (.ifCond .ne 25, 3) := by decide +kernel
theorem dX11_hasRoomForChange_25 : decode cX11_hasRoomForChange 25 = .ok (.aload_n 1, 1) := by decide +kernel
theorem dX11_hasRoomForChange_26 : decode cX11_hasRoomForChange 26 = .ok (.getfield 192, 3) := by decide +kernel
theorem dX11_hasRoomForChange_29 : decode cX11_hasRoomForChange 29 = .ok (.ifCond .eq 14, 3) := by decide +kernel
theorem dX11_hasRoomForChange_32 : decode cX11_hasRoomForChange 32 = .ok (.aload_n 0, 1) := by decide +kernel
theorem dX11_hasRoomForChange_33 : decode cX11_hasRoomForChange 33 = .ok (.getfield 12, 3) := by decide +kernel
theorem dX11_hasRoomForChange_36 : decode cX11_hasRoomForChange 36 = .ok (.iconst 1, 1) := by decide +kernel
theorem dX11_hasRoomForChange_37 : decode cX11_hasRoomForChange 37 = .ok (.invokevirtual 231, 3) := by decide +kernel
theorem dX11_hasRoomForChange_40 : decode cX11_hasRoomForChange 40 = .ok (.ifCond .eq 7, 3) := by decide +kernel
theorem dX11_hasRoomForChange_43 : decode cX11_hasRoomForChange 43 = .ok (.iconst 1, 1) := by decide +kernel
theorem dX11_hasRoomForChange_44 : decode cX11_hasRoomForChange 44 = .ok (.goto 4, 3) := by decide +kernel
theorem dX11_hasRoomForChange_47 : decode cX11_hasRoomForChange 47 = .ok (.iconst 0, 1) := by decide +kernel
theorem dX11_hasRoomForChange_48 : decode cX11_hasRoomForChange 48 = .ok (.ireturn, 1) := by decide +kernel
def F_X11_hasRoomForChange (d : Nat) (v0 : Option Nm) (v1 : Option Nm) (v2 : Int32) (h : MH) (u : Nat) (Q : Int32 → MH → Prop) : Prop :=
  rc h v1 3 ∧ F_X3_hasRoomForEdition d v1 h 0 fun x1 h =>
  if x1 = 0 then
    nz 0 ∧ Q 0 h
  else
    if v2 = 0 then
      rc h v1 3 ∧ F_X3_newest d v1 h 0 fun x2 h =>
      rc h x2 2 ∧ F_X2_isFull d x2 h 0 fun x3 h =>
      if x3 = 0 then
        gI h v1 3 1 fun x4 =>
        if x4 = 0 then
          nz 1 ∧ Q 1 h
        else
          gR h v0 10 0 fun x5 =>
          rc h x5 6 ∧ F_X7_hasRoomForValues d x5 1 h 0 fun x6 h =>
          if x6 = 0 then
            nz 0 ∧ Q 0 h
          else
            nz 1 ∧ Q 1 h
      else
        nz 0 ∧ Q 0 h
    else
      nz 1 ∧ Q 1 h
set_option maxRecDepth 20000 in
theorem E_X11_hasRoomForChange {d : Nat} {v0 : Option Nm} {v1 : Option Nm} {v2 : Int32} {h : MH} {u : Nat} {Q : Int32 → MH → Prop} (H : F_X11_hasRoomForChange d v0 v1 v2 h u Q) : T u_X11_hasRoomForChange (d + 1) 0 [some (jR v0), some (jR v1), some (jI v2)] [] h u (qI Q) := by
  unfold F_X11_hasRoomForChange at H
  refine T_aload_n (pc := 0) dX11_hasRoomForChange_0 rfl rfl ?_
  obtain ⟨H0, H⟩ := H
  refine T_iV (pc := 1) (ci := 3) (av := []) (rest := []) (o := v1) dX11_hasRoomForChange_1 mf_X3_hasRoomForEdition c_3_1 c_3_2 c_3_3 rfl rfl (Nat.le_of_ble_eq_true rfl) rfl H0 (iI_k (iI_m0 (fun x1 h H => ?_) (J_X3_hasRoomForEdition (d := d) H)))
  refine T_if_ne (pc := 4) (tgt := 9) dX11_hasRoomForChange_4 (by decide) (fun hc => ?_) (fun hc => ?_)
  · rw [if_neg hc] at H
    refine T_iload_n (pc := 9) dX11_hasRoomForChange_9 rfl rfl ?_
    refine T_if_eq (pc := 10) (tgt := 15) dX11_hasRoomForChange_10 (by decide) (fun hc => ?_) (fun hc => ?_)
    · rw [if_pos hc] at H
      refine T_aload_n (pc := 15) dX11_hasRoomForChange_15 rfl rfl ?_
      obtain ⟨H0, H⟩ := H
      refine T_iV (pc := 16) (ci := 3) (av := []) (rest := []) (o := v1) dX11_hasRoomForChange_16 mf_X3_newest c_2_213 c_2_214 c_2_215 rfl rfl (Nat.le_of_ble_eq_true rfl) rfl H0 (iR_k (iR_m0 (fun x2 h H => ?_) (J_X3_newest (d := d) H)))
      obtain ⟨H0, H⟩ := H
      refine T_iV (pc := 19) (ci := 2) (av := []) (rest := []) (o := x2) dX11_hasRoomForChange_19 mf_X2_isFull c_2_221 c_2_222 c_2_223 rfl rfl (Nat.le_of_ble_eq_true rfl) rfl H0 (iI_k (iI_m0 (fun x3 h H => ?_) (J_X2_isFull (d := d) H)))
      refine T_if_ne (pc := 22) (tgt := 47) dX11_hasRoomForChange_22 (by decide) (fun hc => ?_) (fun hc => ?_)
      · rw [if_neg hc] at H
        refine T_iconst (pc := 47) (v := 0) dX11_hasRoomForChange_47 (by decide) ?_
        exact T_ireturn (pc := 48) rfl (nz_nar H.1) dX11_hasRoomForChange_48 H.2
      · rw [if_pos hc] at H
        refine T_aload_n (pc := 25) dX11_hasRoomForChange_25 rfl rfl ?_
        refine T_gI (pc := 26) fa_X11_192 dX11_hasRoomForChange_26 (gI_mono (fun x4 H => ?_) H)
        refine T_if_eq (pc := 29) (tgt := 43) dX11_hasRoomForChange_29 (by decide) (fun hc => ?_) (fun hc => ?_)
        · rw [if_pos hc] at H
          refine T_iconst (pc := 43) (v := 1) dX11_hasRoomForChange_43 (by decide) ?_
          refine T_goto (pc := 44) (tgt := 48) dX11_hasRoomForChange_44 (by decide) ?_
          exact T_ireturn (pc := 48) rfl (nz_nar H.1) dX11_hasRoomForChange_48 H.2
        · rw [if_neg hc] at H
          refine T_aload_n (pc := 32) dX11_hasRoomForChange_32 rfl rfl ?_
          refine T_gR (pc := 33) fa_X11_12 dX11_hasRoomForChange_33 (gR_mono (fun x5 H => ?_) H)
          refine T_iconst (pc := 36) (v := 1) dX11_hasRoomForChange_36 (by decide) ?_
          obtain ⟨H0, H⟩ := H
          refine T_iV (pc := 37) (ci := 6) (av := [jI 1]) (rest := []) (o := x5) dX11_hasRoomForChange_37 mf_X7_hasRoomForValues c_3_5 c_3_6 c_3_7 rfl rfl (Nat.le_of_ble_eq_true rfl) rfl H0 (iI_k (iI_m0 (fun x6 h H => ?_) (J_X7_hasRoomForValues (d := d) H)))
          refine T_if_eq (pc := 40) (tgt := 47) dX11_hasRoomForChange_40 (by decide) (fun hc => ?_) (fun hc => ?_)
          · rw [if_pos hc] at H
            refine T_iconst (pc := 47) (v := 0) dX11_hasRoomForChange_47 (by decide) ?_
            exact T_ireturn (pc := 48) rfl (nz_nar H.1) dX11_hasRoomForChange_48 H.2
          · rw [if_neg hc] at H
            refine T_iconst (pc := 43) (v := 1) dX11_hasRoomForChange_43 (by decide) ?_
            refine T_goto (pc := 44) (tgt := 48) dX11_hasRoomForChange_44 (by decide) ?_
            exact T_ireturn (pc := 48) rfl (nz_nar H.1) dX11_hasRoomForChange_48 H.2
    · rw [if_neg hc] at H
      refine T_iconst (pc := 13) (v := 1) dX11_hasRoomForChange_13 (by decide) ?_
      exact T_ireturn (pc := 14) rfl (nz_nar H.1) dX11_hasRoomForChange_14 H.2
  · rw [if_pos hc] at H
    refine T_iconst (pc := 7) (v := 0) dX11_hasRoomForChange_7 (by decide) ?_
    exact T_ireturn (pc := 8) rfl (nz_nar H.1) dX11_hasRoomForChange_8 H.2
theorem I_X11_hasRoomForChange {d : Nat} {v0 : Option Nm} {v1 : Option Nm} {v2 : Int32} {h : MH} {u : Nat} {K : Int32 → MH → Nat → Prop} (u1 : Nat) (hu : u1 ≤ u) (H : F_X11_hasRoomForChange d v0 v1 v2 h u1 (fun x h2 => K x h2 (u - u1))) : iI (d + 1) u_X11_hasRoomForChange [jR v0, jR v1, jI v2] h u K := inv.of u1 hu (Ct.of (by decide +kernel) rfl (Nat.le_of_ble_eq_true rfl) rfl (E_X11_hasRoomForChange H))
theorem J_X11_hasRoomForChange {d : Nat} {v0 : Option Nm} {v1 : Option Nm} {v2 : Int32} {h : MH} {u : Nat} {K : Int32 → MH → Prop} (H : F_X11_hasRoomForChange d v0 v1 v2 h 0 K) : iI (d + 1) u_X11_hasRoomForChange [jR v0, jR v1, jI v2] h u (fun x h2 u2 => K x h2 ∧ u2 = u) := jiI (by decide +kernel) rfl (Nat.le_of_ble_eq_true rfl) rfl (E_X11_hasRoomForChange H)
