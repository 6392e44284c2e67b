theorem dX4_isNumber_0 : decode cX4_isNumber 0 = .ok (.iload_n 0, 1) := by decide +kernel
theorem dX4_isNumber_1 : decode cX4_isNumber 1 = .ok (.ifCond .lt 13, 3) := by decide +kernel
theorem dX4_isNumber_4 : decode cX4_isNumber 4 = .ok (.iload_n 0, 1) := by decide +kernel
theorem dX4_isNumber_5 : decode cX4_isNumber 5 = .ok (.bipush 7, 2) := by decide +kernel
theorem dX4_isNumber_7 : decode cX4_isNumber 7 = .ok (.if_icmp .gt 7, 3) := by decide +kernel
theorem dX4_isNumber_10 : decode cX4_isNumber 10 = .ok (.iconst 1, 1) := by decide +kernel
theorem dX4_isNumber_11 : decode cX4_isNumber 11 = .ok (.goto 4, 3) := by decide +kernel
theorem dX4_isNumber_14 : decode cX4_isNumber 14 = .ok (.iconst 0, 1) := by decide +kernel
theorem dX4_isNumber_15 : decode cX4_isNumber 15 = .ok (.ireturn, 1) := by decide +kernel
def F_X4_isNumber (d : Nat) (v0 : Int32) (h : MH) (u : Nat) (Q : Int32 → MH → Prop) : Prop :=
  if v0 < 0 then
    nz 0 ∧ Q 0 h
  else
    if 7 < v0 then
      nz 0 ∧ Q 0 h
    else
      nz 1 ∧ Q 1 h
set_option maxRecDepth 20000 in
theorem E_X4_isNumber {d : Nat} {v0 : Int32} {h : MH} {u : Nat} {Q : Int32 → MH → Prop} (H : F_X4_isNumber d v0 h u Q) : T u_X4_isNumber d 0 [some (jI v0)] [] h u (qI Q) := by
  unfold F_X4_isNumber at H
  refine T_iload_n (pc := 0) dX4_isNumber_0 rfl rfl ?_
  refine T_if_lt (pc := 1) (tgt := 14) dX4_isNumber_1 (by decide) (fun hc => ?_) (fun hc => ?_)
  · rw [if_pos hc] at H
    refine T_iconst (pc := 14) (v := 0) dX4_isNumber_14 (by decide) ?_
    exact T_ireturn (pc := 15) rfl (nz_nar H.1) dX4_isNumber_15 H.2
  · rw [if_neg hc] at H
    refine T_iload_n (pc := 4) dX4_isNumber_4 rfl rfl ?_
    refine T_bipush (pc := 5) (v := 7) dX4_isNumber_5 (by decide) ?_
    refine T_icmp_gt (pc := 7) (tgt := 14) dX4_isNumber_7 (by decide) (fun hc => ?_) (fun hc => ?_)
    · rw [if_pos hc] at H
      refine T_iconst (pc := 14) (v := 0) dX4_isNumber_14 (by decide) ?_
      exact T_ireturn (pc := 15) rfl (nz_nar H.1) dX4_isNumber_15 H.2
    · rw [if_neg hc] at H
      refine T_iconst (pc := 10) (v := 1) dX4_isNumber_10 (by decide) ?_
      refine T_goto (pc := 11) (tgt := 15) dX4_isNumber_11 (by decide) ?_
      exact T_ireturn (pc := 15) rfl (nz_nar H.1) dX4_isNumber_15 H.2
theorem I_X4_isNumber {d : Nat} {v0 : Int32} {h : MH} {u : Nat} {K : Int32 → MH → Nat → Prop} (u1 : Nat) (hu : u1 ≤ u) (H : F_X4_isNumber d v0 h u1 (fun x h2 => K x h2 (u - u1))) : iI d u_X4_isNumber [jI v0] h u K := inv.of u1 hu (Ct.of (by decide +kernel) rfl (Nat.le_of_ble_eq_true rfl) rfl (E_X4_isNumber H))
theorem dX4_isLane_0 : decode cX4_isLane 0 = .ok (.iload_n 0, 1) := by decide +kernel
theorem dX4_isLane_1 : decode cX4_isLane 1 = .ok (.ifCond .lt 13, 3) := by decide +kernel
theorem dX4_isLane_4 : decode cX4_isLane 4 = .ok (.iload_n 0, 1) := by decide +kernel
theorem dX4_isLane_5 : decode cX4_isLane 5 = .ok (.bipush 9, 2) := by decide +kernel
theorem dX4_isLane_7 : decode cX4_isLane 7 = .ok (.if_icmp .gt 7, 3) := by decide +kernel
theorem dX4_isLane_10 : decode cX4_isLane 10 = .ok (.iconst 1, 1) := by decide +kernel
theorem dX4_isLane_11 : decode cX4_isLane 11 = .ok (.goto 4, 3) := by decide +kernel
theorem dX4_isLane_14 : decode cX4_isLane 14 = .ok (.iconst 0, 1) := by decide +kernel
theorem dX4_isLane_15 : decode cX4_isLane 15 = .ok (.ireturn, 1) := by decide +kernel
def F_X4_isLane (d : Nat) (v0 : Int32) (h : MH) (u : Nat) (Q : Int32 → MH → Prop) : Prop :=
  if v0 < 0 then
    nz 0 ∧ Q 0 h
  else
    if 9 < v0 then
      nz 0 ∧ Q 0 h
    else
      nz 1 ∧ Q 1 h
set_option maxRecDepth 20000 in
theorem E_X4_isLane {d : Nat} {v0 : Int32} {h : MH} {u : Nat} {Q : Int32 → MH → Prop} (H : F_X4_isLane d v0 h u Q) : T u_X4_isLane d 0 [some (jI v0)] [] h u (qI Q) := by
  unfold F_X4_isLane at H
  refine T_iload_n (pc := 0) dX4_isLane_0 rfl rfl ?_
  refine T_if_lt (pc := 1) (tgt := 14) dX4_isLane_1 (by decide) (fun hc => ?_) (fun hc => ?_)
  · rw [if_pos hc] at H
    refine T_iconst (pc := 14) (v := 0) dX4_isLane_14 (by decide) ?_
    exact T_ireturn (pc := 15) rfl (nz_nar H.1) dX4_isLane_15 H.2
  · rw [if_neg hc] at H
    refine T_iload_n (pc := 4) dX4_isLane_4 rfl rfl ?_
    refine T_bipush (pc := 5) (v := 9) dX4_isLane_5 (by decide) ?_
    refine T_icmp_gt (pc := 7) (tgt := 14) dX4_isLane_7 (by decide) (fun hc => ?_) (fun hc => ?_)
    · rw [if_pos hc] at H
      refine T_iconst (pc := 14) (v := 0) dX4_isLane_14 (by decide) ?_
      exact T_ireturn (pc := 15) rfl (nz_nar H.1) dX4_isLane_15 H.2
    · rw [if_neg hc] at H
      refine T_iconst (pc := 10) (v := 1) dX4_isLane_10 (by decide) ?_
      refine T_goto (pc := 11) (tgt := 15) dX4_isLane_11 (by decide) ?_
      exact T_ireturn (pc := 15) rfl (nz_nar H.1) dX4_isLane_15 H.2
theorem I_X4_isLane {d : Nat} {v0 : Int32} {h : MH} {u : Nat} {K : Int32 → MH → Nat → Prop} (u1 : Nat) (hu : u1 ≤ u) (H : F_X4_isLane d v0 h u1 (fun x h2 => K x h2 (u - u1))) : iI d u_X4_isLane [jI v0] h u K := inv.of u1 hu (Ct.of (by decide +kernel) rfl (Nat.le_of_ble_eq_true rfl) rfl (E_X4_isLane H))
theorem dX4_isWhole_0 : decode cX4_isWhole 0 = .ok (.iload_n 0, 1) := by decide +kernel
theorem dX4_isWhole_1 : decode cX4_isWhole 1 = .ok (.iconst 1, 1) := by decide +kernel
theorem dX4_isWhole_2 : decode cX4_isWhole 2 = .ok (.if_icmp .lt 12, 3) := by decide +kernel
theorem dX4_isWhole_5 : decode cX4_isWhole 5 = .ok (.iload_n 0, 1) := by decide +kernel
theorem dX4_isWhole_6 : decode cX4_isWhole 6 = .ok (.iconst 5, 1) := by decide +kernel
theorem dX4_isWhole_7 : decode cX4_isWhole 7 = .ok (.if_icmp .gt 7, 3) := by decide +kernel
theorem dX4_isWhole_10 : decode cX4_isWhole 10 = .ok (.iconst 1, 1) := by decide +kernel
theorem dX4_isWhole_11 : decode cX4_isWhole 11 = .ok (.goto 4, 3) := by decide +kernel
theorem dX4_isWhole_14 : decode cX4_isWhole 14 = .ok (.iconst 0, 1) := by decide +kernel
theorem dX4_isWhole_15 : decode cX4_isWhole 15 = .ok (.ireturn, 1) := by decide +kernel
def F_X4_isWhole (d : Nat) (v0 : Int32) (h : MH) (u : Nat) (Q : Int32 → MH → Prop) : Prop :=
  if v0 < 1 then
    nz 0 ∧ Q 0 h
  else
    if 5 < v0 then
      nz 0 ∧ Q 0 h
    else
      nz 1 ∧ Q 1 h
set_option maxRecDepth 20000 in
theorem E_X4_isWhole {d : Nat} {v0 : Int32} {h : MH} {u : Nat} {Q : Int32 → MH → Prop} (H : F_X4_isWhole d v0 h u Q) : T u_X4_isWhole d 0 [some (jI v0)] [] h u (qI Q) := by
  unfold F_X4_isWhole at H
  refine T_iload_n (pc := 0) dX4_isWhole_0 rfl rfl ?_
  refine T_iconst (pc := 1) (v := 1) dX4_isWhole_1 (by decide) ?_
  refine T_icmp_lt (pc := 2) (tgt := 14) dX4_isWhole_2 (by decide) (fun hc => ?_) (fun hc => ?_)
  · rw [if_pos hc] at H
    refine T_iconst (pc := 14) (v := 0) dX4_isWhole_14 (by decide) ?_
    exact T_ireturn (pc := 15) rfl (nz_nar H.1) dX4_isWhole_15 H.2
  · rw [if_neg hc] at H
    refine T_iload_n (pc := 5) dX4_isWhole_5 rfl rfl ?_
    refine T_iconst (pc := 6) (v := 5) dX4_isWhole_6 (by decide) ?_
    refine T_icmp_gt (pc := 7) (tgt := 14) dX4_isWhole_7 (by decide) (fun hc => ?_) (fun hc => ?_)
    · rw [if_pos hc] at H
      refine T_iconst (pc := 14) (v := 0) dX4_isWhole_14 (by decide) ?_
      exact T_ireturn (pc := 15) rfl (nz_nar H.1) dX4_isWhole_15 H.2
    · rw [if_neg hc] at H
      refine T_iconst (pc := 10) (v := 1) dX4_isWhole_10 (by decide) ?_
      refine T_goto (pc := 11) (tgt := 15) dX4_isWhole_11 (by decide) ?_
      exact T_ireturn (pc := 15) rfl (nz_nar H.1) dX4_isWhole_15 H.2
theorem I_X4_isWhole {d : Nat} {v0 : Int32} {h : MH} {u : Nat} {K : Int32 → MH → Nat → Prop} (u1 : Nat) (hu : u1 ≤ u) (H : F_X4_isWhole d v0 h u1 (fun x h2 => K x h2 (u - u1))) : iI d u_X4_isWhole [jI v0] h u K := inv.of u1 hu (Ct.of (by decide +kernel) rfl (Nat.le_of_ble_eq_true rfl) rfl (E_X4_isWhole H))
theorem dX4_isWidened_0 : decode cX4_isWidened 0 = .ok (.iload_n 0, 1) := by decide +kernel
theorem dX4_isWidened_1 : decode cX4_isWidened 1 = .ok (.iload_n 1, 1) := by decide +kernel
theorem dX4_isWidened_2 : decode cX4_isWidened 2 = .ok (.if_icmp .ne 5, 3) := by decide +kernel
theorem dX4_isWidened_5 : decode cX4_isWidened 5 = .ok (.iconst 1, 1) := by decide +kernel
theorem dX4_isWidened_6 : decode cX4_isWidened 6 = .ok (.ireturn, 1) := by decide +kernel
theorem dX4_isWidened_7 : decode cX4_isWidened 7 = .ok (.iload_n 0, 1) := by decide +kernel
theorem dX4_isWidened_8 : decode cX4_isWidened 8 = .ok (.iconst 1, 1) := by decide +kernel
theorem dX4_isWidened_9 : decode cX4_isWidened 9 = .ok (.if_icmp .lt 19, 3) := by decide +kernel
theorem dX4_isWidened_12 : decode cX4_isWidened 12 = .ok (.iload_n 0, 1) := by decide +kernel
theorem dX4_isWidened_13 : decode cX4_isWidened 13 = .ok (.iload_n 1, 1) := by decide +kernel
theorem dX4_isWidened_14 : decode cX4_isWidened 14 = .ok (.if_icmp .gt 14, 3) := by decide +kernel
theorem dX4_isWidened_17 : decode cX4_isWidened 17 = .ok (.iload_n 1, 1) := by decide +kernel
theorem dX4_isWidened_18 : decode cX4_isWidened 18 = .ok (.bipush 7, 2) := by decide +kernel
theorem dX4_isWidened_20 : decode cX4_isWidened 20 = .ok (.if_icmp .gt 8, 3) := by decide +kernel
theorem dX4_isWidened_23 : decode cX4_isWidened 23 = .ok (.iload_n 1, 1) := by decide +kernel
theorem dX4_isWidened_24 : decode cX4_isWidened 24 = .ok (.iconst 2, 1) := by decide +kernel
theorem dX4_isWidened_25 : decode cX4_isWidened 25 = .ok (.if_icmp .ne 5, 3) := by decide +kernel
theorem dX4_isWidened_28 : decode cX4_isWidened 28 = .ok (.iconst 0, 1) := by decide +kernel
theorem dX4_isWidened_29 : decode cX4_isWidened 29 = .ok (.ireturn, 1) := by decide +kernel
theorem dX4_isWidened_30 : decode cX4_isWidened 30 = .ok (.iload_n 0, 1) := by decide +kernel
theorem dX4_isWidened_31 : decode cX4_isWidened 31 = .ok (.iconst 2, 1) := by decide +kernel
theorem dX4_isWidened_32 : decode cX4_isWidened 32 = .ok (.if_icmp .ne 8, 3) := by decide +kernel
theorem dX4_isWidened_35 : decode cX4_isWidened 35 = .ok (.iload_n 1, 1) := by decide +kernel
theorem dX4_isWidened_36 : decode cX4_isWidened 36 = .ok (.iconst 3, 1) := by decide +kernel
theorem dX4_isWidened_37 : decode cX4_isWidened 37 = .ok (.if_icmp .eq 7, 3) := by decide +kernel
theorem dX4_isWidened_40 : decode cX4_isWidened 40 = .ok (.iconst 1, 1) := by decide +kernel
theorem dX4_isWidened_41 : decode cX4_isWidened 41 = .ok (.goto 4, 3) := by decide +kernel
theorem dX4_isWidened_44 : decode cX4_isWidened 44 = .ok (.iconst 0, 1) := by decide +kernel
theorem dX4_isWidened_45 : decode cX4_isWidened 45 = .ok (.ireturn, 1) := by decide +kernel
def F_X4_isWidened (d : Nat) (v0 : Int32) (v1 : Int32) (h : MH) (u : Nat) (Q : Int32 → MH → Prop) : Prop :=
  if v0 = v1 then
    nz 1 ∧ Q 1 h
  else
    if v0 < 1 then
      nz 0 ∧ Q 0 h
    else
      if v1 < v0 then
        nz 0 ∧ Q 0 h
      else
        if 7 < v1 then
          nz 0 ∧ Q 0 h
        else
          if v1 = 2 then
            nz 0 ∧ Q 0 h
          else
            if v0 = 2 then
              if v1 = 3 then
                nz 0 ∧ Q 0 h
              else
                nz 1 ∧ Q 1 h
            else
              nz 1 ∧ Q 1 h
set_option maxRecDepth 20000 in
theorem E_X4_isWidened {d : Nat} {v0 : Int32} {v1 : Int32} {h : MH} {u : Nat} {Q : Int32 → MH → Prop} (H : F_X4_isWidened d v0 v1 h u Q) : T u_X4_isWidened d 0 [some (jI v0), some (jI v1)] [] h u (qI Q) := by
  unfold F_X4_isWidened at H
  refine T_iload_n (pc := 0) dX4_isWidened_0 rfl rfl ?_
  refine T_iload_n (pc := 1) dX4_isWidened_1 rfl rfl ?_
  refine T_icmp_ne (pc := 2) (tgt := 7) dX4_isWidened_2 (by decide) (fun hc => ?_) (fun hc => ?_)
  · rw [if_neg hc] at H
    refine T_iload_n (pc := 7) dX4_isWidened_7 rfl rfl ?_
    refine T_iconst (pc := 8) (v := 1) dX4_isWidened_8 (by decide) ?_
    refine T_icmp_lt (pc := 9) (tgt := 28) dX4_isWidened_9 (by decide) (fun hc => ?_) (fun hc => ?_)
    · rw [if_pos hc] at H
      refine T_iconst (pc := 28) (v := 0) dX4_isWidened_28 (by decide) ?_
      exact T_ireturn (pc := 29) rfl (nz_nar H.1) dX4_isWidened_29 H.2
    · rw [if_neg hc] at H
      refine T_iload_n (pc := 12) dX4_isWidened_12 rfl rfl ?_
      refine T_iload_n (pc := 13) dX4_isWidened_13 rfl rfl ?_
      refine T_icmp_gt (pc := 14) (tgt := 28) dX4_isWidened_14 (by decide) (fun hc => ?_) (fun hc => ?_)
      · rw [if_pos hc] at H
        refine T_iconst (pc := 28) (v := 0) dX4_isWidened_28 (by decide) ?_
        exact T_ireturn (pc := 29) rfl (nz_nar H.1) dX4_isWidened_29 H.2
      · rw [if_neg hc] at H
        refine T_iload_n (pc := 17) dX4_isWidened_17 rfl rfl ?_
        refine T_bipush (pc := 18) (v := 7) dX4_isWidened_18 (by decide) ?_
        refine T_icmp_gt (pc := 20) (tgt := 28) dX4_isWidened_20 (by decide) (fun hc => ?_) (fun hc => ?_)
        · rw [if_pos hc] at H
          refine T_iconst (pc := 28) (v := 0) dX4_isWidened_28 (by decide) ?_
          exact T_ireturn (pc := 29) rfl (nz_nar H.1) dX4_isWidened_29 H.2
        · rw [if_neg hc] at H
          refine T_iload_n (pc := 23) dX4_isWidened_23 rfl rfl ?_
          refine T_iconst (pc := 24) (v := 2) dX4_isWidened_24 (by decide) ?_
          refine T_icmp_ne (pc := 25) (tgt := 30) dX4_isWidened_25 (by decide) (fun hc => ?_) (fun hc => ?_)
          · rw [if_neg hc] at H
            refine T_iload_n (pc := 30) dX4_isWidened_30 rfl rfl ?_
            refine T_iconst (pc := 31) (v := 2) dX4_isWidened_31 (by decide) ?_
            refine T_icmp_ne (pc := 32) (tgt := 40) dX4_isWidened_32 (by decide) (fun hc => ?_) (fun hc => ?_)
            · rw [if_neg hc] at H
              refine T_iconst (pc := 40) (v := 1) dX4_isWidened_40 (by decide) ?_
              refine T_goto (pc := 41) (tgt := 45) dX4_isWidened_41 (by decide) ?_
              exact T_ireturn (pc := 45) rfl (nz_nar H.1) dX4_isWidened_45 H.2
            · rw [if_pos hc] at H
              refine T_iload_n (pc := 35) dX4_isWidened_35 rfl rfl ?_
              refine T_iconst (pc := 36) (v := 3) dX4_isWidened_36 (by decide) ?_
              refine T_icmp_eq (pc := 37) (tgt := 44) dX4_isWidened_37 (by decide) (fun hc => ?_) (fun hc => ?_)
              · rw [if_pos hc] at H
                refine T_iconst (pc := 44) (v := 0) dX4_isWidened_44 (by decide) ?_
                exact T_ireturn (pc := 45) rfl (nz_nar H.1) dX4_isWidened_45 H.2
              · rw [if_neg hc] at H
                refine T_iconst (pc := 40) (v := 1) dX4_isWidened_40 (by decide) ?_
                refine T_goto (pc := 41) (tgt := 45) dX4_isWidened_41 (by decide) ?_
                exact T_ireturn (pc := 45) rfl (nz_nar H.1) dX4_isWidened_45 H.2
          · rw [if_pos hc] at H
            refine T_iconst (pc := 28) (v := 0) dX4_isWidened_28 (by decide) ?_
            exact T_ireturn (pc := 29) rfl (nz_nar H.1) dX4_isWidened_29 H.2
  · rw [if_pos hc] at H
    refine T_iconst (pc := 5) (v := 1) dX4_isWidened_5 (by decide) ?_
    exact T_ireturn (pc := 6) rfl (nz_nar H.1) dX4_isWidened_6 H.2
theorem I_X4_isWidened {d : Nat} {v0 : Int32} {v1 : Int32} {h : MH} {u : Nat} {K : Int32 → MH → Nat → Prop} (u1 : Nat) (hu : u1 ≤ u) (H : F_X4_isWidened d v0 v1 h u1 (fun x h2 => K x h2 (u - u1))) : iI d u_X4_isWidened [jI v0, jI v1] h u K := inv.of u1 hu (Ct.of (by decide +kernel) rfl (Nat.le_of_ble_eq_true rfl) rfl (E_X4_isWidened H))
theorem dX4_come_0 : decode cX4_come 0 = .ok (.iload_n 0, 1) := by decide +kernel
theorem dX4_come_1 : decode cX4_come 1 = .ok (.tableswitch 81 0 7 #[47, 51, 56, 62, 67, 81, 71, 76], 47) := by decide +kernel
theorem dX4_come_48 : decode cX4_come 48 = .ok (.lload_n 1, 1) := by decide +kernel
theorem dX4_come_49 : decode cX4_come 49 = .ok (.lconst 1, 1) := by decide +kernel
theorem dX4_come_50 : decode cX4_come 50 = .ok (.land, 1) := by decide +kernel
theorem dX4_come_51 : decode cX4_come 51 = .ok (.lreturn, 1) := by decide +kernel
theorem dX4_come_52 : decode cX4_come 52 = .ok (.lload_n 1, 1) := by decide +kernel
theorem dX4_come_53 : decode cX4_come 53 = .ok (.l2i, 1) := by decide +kernel
theorem dX4_come_54 : decode cX4_come 54 = .ok (.i2b, 1) := by decide +kernel
theorem dX4_come_55 : decode cX4_come 55 = .ok (.i2l, 1) := by decide +kernel
theorem dX4_come_56 : decode cX4_come 56 = .ok (.lreturn, 1) := by decide +kernel
theorem dX4_come_57 : decode cX4_come 57 = .ok (.lload_n 1, 1) := by decide +kernel
theorem dX4_come_58 : decode cX4_come 58 = .ok (.ldc2_w 11, 3) := by decide +kernel
theorem dX4_come_61 : decode cX4_come 61 = .ok (.land, 1) := by decide +kernel
theorem dX4_come_62 : decode cX4_come 62 = .ok (.lreturn, 1) := by decide +kernel
theorem dX4_come_63 : decode cX4_come 63 = .ok (.lload_n 1, 1) := by decide +kernel
theorem dX4_come_64 : decode cX4_come 64 = .ok (.l2i, 1) := by decide +kernel
theorem dX4_come_65 : decode cX4_come 65 = .ok (.i2s, 1) := by decide +kernel
theorem dX4_come_66 : decode cX4_come 66 = .ok (.i2l, 1) := by decide +kernel
theorem dX4_come_67 : decode cX4_come 67 = .ok (.lreturn, 1) := by decide +kernel
theorem dX4_come_68 : decode cX4_come 68 = .ok (.lload_n 1, 1) := by decide +kernel
theorem dX4_come_69 : decode cX4_come 69 = .ok (.l2i, 1) := by decide +kernel
theorem dX4_come_70 : decode cX4_come 70 = .ok (.i2l, 1) := by decide +kernel
theorem dX4_come_71 : decode cX4_come 71 = .ok (.lreturn, 1) := by decide +kernel
theorem dX4_come_72 : decode cX4_come 72 = .ok (.lload_n 1, 1) := by decide +kernel
theorem dX4_come_73 : decode cX4_come 73 = .ok (.invokestatic 13, 3) := by decide +kernel
theorem dX4_come_76 : decode cX4_come 76 = .ok (.lreturn, 1) := by decide +kernel
theorem dX4_come_77 : decode cX4_come 77 = .ok (.lload_n 1, 1) := by decide +kernel
theorem dX4_come_78 : decode cX4_come 78 = .ok (.invokestatic 17, 3) := by decide +kernel
theorem dX4_come_81 : decode cX4_come 81 = .ok (.lreturn, 1) := by decide +kernel
theorem dX4_come_82 : decode cX4_come 82 = .ok (.lload_n 1, 1) := by decide +kernel
theorem dX4_come_83 : decode cX4_come 83 = .ok (.lreturn, 1) := by decide +kernel
def F_X4_come (d : Nat) (v0 : Int32) (v1 : Int64) (h : MH) (u : Nat) (Q : Int64 → MH → Prop) : Prop :=
  if v0 = 0 then
    Q (v1 &&& 1) h
  else if v0 = 1 then
    Q (((v1.toInt32).toInt8.toInt32).toInt64) h
  else if v0 = 2 then
    Q (v1 &&& 65535) h
  else if v0 = 3 then
    Q (((v1.toInt32).toInt16.toInt32).toInt64) h
  else if v0 = 4 then
    Q ((v1.toInt32).toInt64) h
  else if v0 = 5 then
    Q v1 h
  else if v0 = 6 then
    iL d u_X4_floatBits [jL v1] h u fun x1 h u =>
    Q x1 h
  else if v0 = 7 then
    iL d u_X4_doubleBits [jL v1] h u fun x2 h u =>
    Q x2 h
  else 
    Q v1 h
set_option maxRecDepth 20000 in
theorem E_X4_come {d : Nat} {v0 : Int32} {v1 : Int64} {h : MH} {u : Nat} {Q : Int64 → MH → Prop} (H : F_X4_come d v0 v1 h u Q) : T u_X4_come (d + 1) 0 [some (jI v0), some (jL v1), none] [] h u (qL Q) := by
  unfold F_X4_come at H
  refine T_iload_n (pc := 0) dX4_come_0 rfl rfl ?_
  by_cases h0 : v0 = 0
  · rw [if_pos h0] at H
    refine T_tableIn (pc := 1) (off := 47) (tgt := 48) dX4_come_1 (by rw [h0]; decide) (by rw [h0]; decide) (by rw [h0]; rfl) (by decide) ?_
    refine T_lload_n (pc := 48) dX4_come_48 rfl rfl ?_
    refine T_lconst (pc := 49) (v := 1) dX4_come_49 (by decide) ?_
    refine T_land (pc := 50) dX4_come_50 ?_
    exact T_lreturn (pc := 51) rfl dX4_come_51 H
  rw [if_neg h0] at H
  by_cases h1 : v0 = 1
  · rw [if_pos h1] at H
    refine T_tableIn (pc := 1) (off := 51) (tgt := 52) dX4_come_1 (by rw [h1]; decide) (by rw [h1]; decide) (by rw [h1]; rfl) (by decide) ?_
    refine T_lload_n (pc := 52) dX4_come_52 rfl rfl ?_
    refine T_l2i (pc := 53) dX4_come_53 ?_
    refine T_i2b (pc := 54) dX4_come_54 ?_
    refine T_i2l (pc := 55) dX4_come_55 ?_
    exact T_lreturn (pc := 56) rfl dX4_come_56 H
  rw [if_neg h1] at H
  by_cases h2 : v0 = 2
  · rw [if_pos h2] at H
    refine T_tableIn (pc := 1) (off := 56) (tgt := 57) dX4_come_1 (by rw [h2]; decide) (by rw [h2]; decide) (by rw [h2]; rfl) (by decide) ?_
    refine T_lload_n (pc := 57) dX4_come_57 rfl rfl ?_
    refine T_ldc2 (pc := 58) (v := 65535) dX4_come_58 c_2_21 ?_
    refine T_land (pc := 61) dX4_come_61 ?_
    exact T_lreturn (pc := 62) rfl dX4_come_62 H
  rw [if_neg h2] at H
  by_cases h3 : v0 = 3
  · rw [if_pos h3] at H
    refine T_tableIn (pc := 1) (off := 62) (tgt := 63) dX4_come_1 (by rw [h3]; decide) (by rw [h3]; decide) (by rw [h3]; rfl) (by decide) ?_
    refine T_lload_n (pc := 63) dX4_come_63 rfl rfl ?_
    refine T_l2i (pc := 64) dX4_come_64 ?_
    refine T_i2s (pc := 65) dX4_come_65 ?_
    refine T_i2l (pc := 66) dX4_come_66 ?_
    exact T_lreturn (pc := 67) rfl dX4_come_67 H
  rw [if_neg h3] at H
  by_cases h4 : v0 = 4
  · rw [if_pos h4] at H
    refine T_tableIn (pc := 1) (off := 67) (tgt := 68) dX4_come_1 (by rw [h4]; decide) (by rw [h4]; decide) (by rw [h4]; rfl) (by decide) ?_
    refine T_lload_n (pc := 68) dX4_come_68 rfl rfl ?_
    refine T_l2i (pc := 69) dX4_come_69 ?_
    refine T_i2l (pc := 70) dX4_come_70 ?_
    exact T_lreturn (pc := 71) rfl dX4_come_71 H
  rw [if_neg h4] at H
  by_cases h5 : v0 = 5
  · rw [if_pos h5] at H
    refine T_tableIn (pc := 1) (off := 81) (tgt := 82) dX4_come_1 (by rw [h5]; decide) (by rw [h5]; decide) (by rw [h5]; rfl) (by decide) ?_
    refine T_lload_n (pc := 82) dX4_come_82 rfl rfl ?_
    exact T_lreturn (pc := 83) rfl dX4_come_83 H
  rw [if_neg h5] at H
  by_cases h6 : v0 = 6
  · rw [if_pos h6] at H
    refine T_tableIn (pc := 1) (off := 71) (tgt := 72) dX4_come_1 (by rw [h6]; decide) (by rw [h6]; decide) (by rw [h6]; rfl) (by decide) ?_
    refine T_lload_n (pc := 72) dX4_come_72 rfl rfl ?_
    refine T_invS (pc := 73) (av := [jL v1]) (rest := []) dX4_come_73 mf_X4_floatBits c_2_22 c_2_23 rfl (Nat.le_of_ble_eq_true rfl) rfl (iL_k (iL_mono (fun x1 h u H => ?_) H))
    exact T_lreturn (pc := 76) rfl dX4_come_76 H
  rw [if_neg h6] at H
  by_cases h7 : v0 = 7
  · rw [if_pos h7] at H
    refine T_tableIn (pc := 1) (off := 76) (tgt := 77) dX4_come_1 (by rw [h7]; decide) (by rw [h7]; decide) (by rw [h7]; rfl) (by decide) ?_
    refine T_lload_n (pc := 77) dX4_come_77 rfl rfl ?_
    refine T_invS (pc := 78) (av := [jL v1]) (rest := []) dX4_come_78 mf_X4_doubleBits c_2_35 c_2_36 rfl (Nat.le_of_ble_eq_true rfl) rfl (iL_k (iL_mono (fun x2 h u H => ?_) H))
    exact T_lreturn (pc := 81) rfl dX4_come_81 H
  rw [if_neg h7] at H
  have e0 : (v0 : Int32).toInt ≠ 0 := fun q => h0 (Int32.toInt_inj.mp (q.trans (by decide)))
  have e1 : (v0 : Int32).toInt ≠ 1 := fun q => h1 (Int32.toInt_inj.mp (q.trans (by decide)))
  have e2 : (v0 : Int32).toInt ≠ 2 := fun q => h2 (Int32.toInt_inj.mp (q.trans (by decide)))
  have e3 : (v0 : Int32).toInt ≠ 3 := fun q => h3 (Int32.toInt_inj.mp (q.trans (by decide)))
  have e4 : (v0 : Int32).toInt ≠ 4 := fun q => h4 (Int32.toInt_inj.mp (q.trans (by decide)))
  have e5 : (v0 : Int32).toInt ≠ 5 := fun q => h5 (Int32.toInt_inj.mp (q.trans (by decide)))
  have e6 : (v0 : Int32).toInt ≠ 6 := fun q => h6 (Int32.toInt_inj.mp (q.trans (by decide)))
  have e7 : (v0 : Int32).toInt ≠ 7 := fun q => h7 (Int32.toInt_inj.mp (q.trans (by decide)))
  refine T_tableOut (pc := 1) (tgt := 82) dX4_come_1 (by omega) (by decide) ?_
  refine T_lload_n (pc := 82) dX4_come_82 rfl rfl ?_
  exact T_lreturn (pc := 83) rfl dX4_come_83 H
theorem I_X4_come {d : Nat} {v0 : Int32} {v1 : Int64} {h : MH} {u : Nat} {K : Int64 → MH → Nat → Prop} (u1 : Nat) (hu : u1 ≤ u) (H : F_X4_come d v0 v1 h u1 (fun x h2 => K x h2 (u - u1))) : iL (d + 1) u_X4_come [jI v0, jL v1] h u K := inv.of u1 hu (Ct.of (by decide +kernel) rfl (Nat.le_of_ble_eq_true rfl) rfl (E_X4_come H))
theorem dX4_widen_0 : decode cX4_widen 0 = .ok (.iload_n 0, 1) := by decide +kernel
theorem dX4_widen_1 : decode cX4_widen 1 = .ok (.iload_n 1, 1) := by decide +kernel
theorem dX4_widen_2 : decode cX4_widen 2 = .ok (.if_icmp .eq 8, 3) := by decide +kernel
theorem dX4_widen_5 : decode cX4_widen 5 = .ok (.iload_n 1, 1) := by decide +kernel
theorem dX4_widen_6 : decode cX4_widen 6 = .ok (.iconst 5, 1) := by decide +kernel
theorem dX4_widen_7 : decode cX4_widen 7 = .ok (.if_icmp .gt 5, 3) := by decide +kernel
theorem dX4_widen_10 : decode cX4_widen 10 = .ok (.lload_n 2, 1) := by decide +kernel
theorem dX4_widen_11 : decode cX4_widen 11 = .ok (.lreturn, 1) := by decide +kernel
theorem dX4_widen_12 : decode cX4_widen 12 = .ok (.iload_n 0, 1) := by decide +kernel
theorem dX4_widen_13 : decode cX4_widen 13 = .ok (.bipush 6, 2) := by decide +kernel
theorem dX4_widen_15 : decode cX4_widen 15 = .ok (.if_icmp .ne 10, 3) := by decide +kernel
theorem dX4_widen_18 : decode cX4_widen 18 = .ok (.lload_n 2, 1) := by decide +kernel
theorem dX4_widen_19 : decode cX4_widen 19 = .ok (.invokestatic 20, 3) := by decide +kernel
theorem dX4_widen_22 : decode cX4_widen 22 = .ok (.goto 8, 3) := by decide +kernel
theorem dX4_widen_25 : decode cX4_widen 25 = .ok (.iload_n 1, 1) := by decide +kernel
theorem dX4_widen_26 : decode cX4_widen 26 = .ok (.lload_n 2, 1) := by decide +kernel
theorem dX4_widen_27 : decode cX4_widen 27 = .ok (.invokestatic 23, 3) := by decide +kernel
theorem dX4_widen_30 : decode cX4_widen 30 = .ok (.lreturn, 1) := by decide +kernel
def F_X4_widen (d : Nat) (v0 : Int32) (v1 : Int32) (v2 : Int64) (h : MH) (u : Nat) (Q : Int64 → MH → Prop) : Prop :=
  if v0 = v1 then
    Q v2 h
  else
    if 5 < v1 then
      if v0 = 6 then
        iL d u_X4_doubleOfFloat [jL v2] h u fun x2 h u =>
        Q x2 h
      else
        iL d u_X4_come [jI v1, jL v2] h u fun x1 h u =>
        Q x1 h
    else
      Q v2 h
set_option maxRecDepth 20000 in
theorem E_X4_widen {d : Nat} {v0 : Int32} {v1 : Int32} {v2 : Int64} {h : MH} {u : Nat} {Q : Int64 → MH → Prop} (H : F_X4_widen d v0 v1 v2 h u Q) : T u_X4_widen (d + 1) 0 [some (jI v0), some (jI v1), some (jL v2), none] [] h u (qL Q) := by
  unfold F_X4_widen at H
  refine T_iload_n (pc := 0) dX4_widen_0 rfl rfl ?_
  refine T_iload_n (pc := 1) dX4_widen_1 rfl rfl ?_
  refine T_icmp_eq (pc := 2) (tgt := 10) dX4_widen_2 (by decide) (fun hc => ?_) (fun hc => ?_)
  · rw [if_pos hc] at H
    refine T_lload_n (pc := 10) dX4_widen_10 rfl rfl ?_
    exact T_lreturn (pc := 11) rfl dX4_widen_11 H
  · rw [if_neg hc] at H
    refine T_iload_n (pc := 5) dX4_widen_5 rfl rfl ?_
    refine T_iconst (pc := 6) (v := 5) dX4_widen_6 (by decide) ?_
    refine T_icmp_gt (pc := 7) (tgt := 12) dX4_widen_7 (by decide) (fun hc => ?_) (fun hc => ?_)
    · rw [if_pos hc] at H
      refine T_iload_n (pc := 12) dX4_widen_12 rfl rfl ?_
      refine T_bipush (pc := 13) (v := 6) dX4_widen_13 (by decide) ?_
      refine T_icmp_ne (pc := 15) (tgt := 25) dX4_widen_15 (by decide) (fun hc => ?_) (fun hc => ?_)
      · rw [if_neg hc] at H
        refine T_iload_n (pc := 25) dX4_widen_25 rfl rfl ?_
        refine T_lload_n (pc := 26) dX4_widen_26 rfl rfl ?_
        refine T_invS (pc := 27) (av := [jI v1, jL v2]) (rest := []) dX4_widen_27 mf_X4_come c_2_49 c_2_19 rfl (Nat.le_of_ble_eq_true rfl) rfl (iL_k (iL_mono (fun x1 h u H => ?_) H))
        exact T_lreturn (pc := 30) rfl dX4_widen_30 H
      · rw [if_pos hc] at H
        refine T_lload_n (pc := 18) dX4_widen_18 rfl rfl ?_
        refine T_invS (pc := 19) (av := [jL v2]) (rest := []) dX4_widen_19 mf_X4_doubleOfFloat c_2_42 c_2_43 rfl (Nat.le_of_ble_eq_true rfl) rfl (iL_k (iL_mono (fun x2 h u H => ?_) H))
        refine T_goto (pc := 22) (tgt := 30) dX4_widen_22 (by decide) ?_
        exact T_lreturn (pc := 30) rfl dX4_widen_30 H
    · rw [if_neg hc] at H
      refine T_lload_n (pc := 10) dX4_widen_10 rfl rfl ?_
      exact T_lreturn (pc := 11) rfl dX4_widen_11 H
theorem I_X4_widen {d : Nat} {v0 : Int32} {v1 : Int32} {v2 : Int64} {h : MH} {u : Nat} {K : Int64 → MH → Nat → Prop} (u1 : Nat) (hu : u1 ≤ u) (H : F_X4_widen d v0 v1 v2 h u1 (fun x h2 => K x h2 (u - u1))) : iL (d + 1) u_X4_widen [jI v0, jI v1, jL v2] h u K := inv.of u1 hu (Ct.of (by decide +kernel) rfl (Nat.le_of_ble_eq_true rfl) rfl (E_X4_widen H))
theorem dX4_tell_0 : decode cX4_tell 0 = .ok (.iload_n 0, 1) := by decide +kernel
theorem dX4_tell_1 : decode cX4_tell 1 = .ok (.bipush 8, 2) := by decide +kernel
theorem dX4_tell_3 : decode cX4_tell 3 = .ok (.if_icmp .lt 17, 3) := by decide +kernel
theorem dX4_tell_6 : decode cX4_tell 6 = .ok (.lload_n 1, 1) := by decide +kernel
theorem dX4_tell_7 : decode cX4_tell 7 = .ok (.ldc2_w 27, 3) := by decide +kernel
theorem dX4_tell_10 : decode cX4_tell 10 = .ok (.lcmp, 1) := by decide +kernel
theorem dX4_tell_11 : decode cX4_tell 11 = .ok (.ifCond .ne 9, 3) := by decide +kernel
theorem dX4_tell_14 : decode cX4_tell 14 = .ok (.ldc2_w 29, 3) := by decide +kernel
theorem dX4_tell_17 : decode cX4_tell 17 = .ok (.goto 4, 3) := by decide +kernel
theorem dX4_tell_20 : decode cX4_tell 20 = .ok (.lload_n 1, 1) := by decide +kernel
theorem dX4_tell_21 : decode cX4_tell 21 = .ok (.lreturn, 1) := by decide +kernel
def F_X4_tell (d : Nat) (v0 : Int32) (v1 : Int64) (h : MH) (u : Nat) (Q : Int64 → MH → Prop) : Prop :=
  if v0 < 8 then
    Q v1 h
  else
    if (lg_cmp v1 (-1)) = 0 then
      Q (-5) h
    else
      Q v1 h
set_option maxRecDepth 20000 in
theorem E_X4_tell {d : Nat} {v0 : Int32} {v1 : Int64} {h : MH} {u : Nat} {Q : Int64 → MH → Prop} (H : F_X4_tell d v0 v1 h u Q) : T u_X4_tell d 0 [some (jI v0), some (jL v1), none] [] h u (qL Q) := by
  unfold F_X4_tell at H
  refine T_iload_n (pc := 0) dX4_tell_0 rfl rfl ?_
  refine T_bipush (pc := 1) (v := 8) dX4_tell_1 (by decide) ?_
  refine T_icmp_lt (pc := 3) (tgt := 20) dX4_tell_3 (by decide) (fun hc => ?_) (fun hc => ?_)
  · rw [if_pos hc] at H
    refine T_lload_n (pc := 20) dX4_tell_20 rfl rfl ?_
    exact T_lreturn (pc := 21) rfl dX4_tell_21 H
  · rw [if_neg hc] at H
    refine T_lload_n (pc := 6) dX4_tell_6 rfl rfl ?_
    refine T_ldc2 (pc := 7) (v := (-1)) dX4_tell_7 c_2_77 ?_
    refine T_lcmp (pc := 10) dX4_tell_10 ?_
    refine T_if_ne (pc := 11) (tgt := 20) dX4_tell_11 (by decide) (fun hc => ?_) (fun hc => ?_)
    · rw [if_neg hc] at H
      refine T_lload_n (pc := 20) dX4_tell_20 rfl rfl ?_
      exact T_lreturn (pc := 21) rfl dX4_tell_21 H
    · rw [if_pos hc] at H
      refine T_ldc2 (pc := 14) (v := (-5)) dX4_tell_14 c_2_78 ?_
      refine T_goto (pc := 17) (tgt := 21) dX4_tell_17 (by decide) ?_
      exact T_lreturn (pc := 21) rfl dX4_tell_21 H
theorem I_X4_tell {d : Nat} {v0 : Int32} {v1 : Int64} {h : MH} {u : Nat} {K : Int64 → MH → Nat → Prop} (u1 : Nat) (hu : u1 ≤ u) (H : F_X4_tell d v0 v1 h u1 (fun x h2 => K x h2 (u - u1))) : iL d u_X4_tell [jI v0, jL v1] h u K := inv.of u1 hu (Ct.of (by decide +kernel) rfl (Nat.le_of_ble_eq_true rfl) rfl (E_X4_tell H))
theorem dX4_rank_0 : decode cX4_rank 0 = .ok (.iload_n 0, 1) := by decide +kernel
theorem dX4_rank_1 : decode cX4_rank 1 = .ok (.bipush 6, 2) := by decide +kernel
theorem dX4_rank_3 : decode cX4_rank 3 = .ok (.if_icmp .eq 9, 3) := by decide +kernel
theorem dX4_rank_6 : decode cX4_rank 6 = .ok (.iload_n 0, 1) := by decide +kernel
theorem dX4_rank_7 : decode cX4_rank 7 = .ok (.bipush 7, 2) := by decide +kernel
theorem dX4_rank_9 : decode cX4_rank 9 = .ok (.if_icmp .ne 7, 3) := by decide +kernel
theorem dX4_rank_12 : decode cX4_rank 12 = .ok (.iconst 1, 1) := by decide +kernel
theorem dX4_rank_13 : decode cX4_rank 13 = .ok (.goto 4, 3) := by decide +kernel
theorem dX4_rank_16 : decode cX4_rank 16 = .ok (.iconst 0, 1) := by decide +kernel
theorem dX4_rank_17 : decode cX4_rank 17 = .ok (.istore_n 3, 1) := by decide +kernel
theorem dX4_rank_18 : decode cX4_rank 18 = .ok (.iload_n 3, 1) := by decide +kernel
theorem dX4_rank_19 : decode cX4_rank 19 = .ok (.ifCond .eq 17, 3) := by decide +kernel
theorem dX4_rank_22 : decode cX4_rank 22 = .ok (.lload_n 1, 1) := by decide +kernel
theorem dX4_rank_23 : decode cX4_rank 23 = .ok (.lconst 0, 1) := by decide +kernel
theorem dX4_rank_24 : decode cX4_rank 24 = .ok (.lcmp, 1) := by decide +kernel
theorem dX4_rank_25 : decode cX4_rank 25 = .ok (.ifCond .ge 11, 3) := by decide +kernel
theorem dX4_rank_28 : decode cX4_rank 28 = .ok (.lload_n 1, 1) := by decide +kernel
theorem dX4_rank_29 : decode cX4_rank 29 = .ok (.ldc2_w 33, 3) := by decide +kernel
theorem dX4_rank_32 : decode cX4_rank 32 = .ok (.lxor, 1) := by decide +kernel
theorem dX4_rank_33 : decode cX4_rank 33 = .ok (.goto 4, 3) := by decide +kernel
theorem dX4_rank_36 : decode cX4_rank 36 = .ok (.lload_n 1, 1) := by decide +kernel
theorem dX4_rank_37 : decode cX4_rank 37 = .ok (.lreturn, 1) := by decide +kernel
def F_X4_rank_17 (d : Nat) (v1 : Int64) (s0 : Int32) (h : MH) (u : Nat) (Q : Int64 → MH → Prop) : Prop :=
  if s0 = 0 then
    Q v1 h
  else
    if 0 ≤ (lg_cmp v1 0) then
      Q v1 h
    else
      Q (v1 ^^^ 9223372036854775807) h
set_option maxRecDepth 20000 in
theorem E_X4_rank_17 {d : Nat} {v1 : Int64} {s0 : Int32} {h : MH} {u : Nat} {Q : Int64 → MH → Prop} (H : F_X4_rank_17 d v1 s0 h u Q) : T u_X4_rank d 17 [none, some (jL v1), none, none] [jI s0] h u (qL Q) := by
  unfold F_X4_rank_17 at H
  refine T_istore_n (pc := 17) (ls2 := [none, some (jL v1), none, some (jI s0)]) dX4_rank_17 rfl (Nat.le_of_ble_eq_true rfl) rfl ?_
  refine T_iload_n (pc := 18) dX4_rank_18 rfl rfl ?_
  refine T_if_eq (pc := 19) (tgt := 36) dX4_rank_19 (by decide) (fun hc => ?_) (fun hc => ?_)
  · rw [if_pos hc] at H
    refine T_lload_n (pc := 36) dX4_rank_36 rfl rfl ?_
    exact T_lreturn (pc := 37) rfl dX4_rank_37 H
  · rw [if_neg hc] at H
    refine T_lload_n (pc := 22) dX4_rank_22 rfl rfl ?_
    refine T_lconst (pc := 23) (v := 0) dX4_rank_23 (by decide) ?_
    refine T_lcmp (pc := 24) dX4_rank_24 ?_
    refine T_if_ge (pc := 25) (tgt := 36) dX4_rank_25 (by decide) (fun hc => ?_) (fun hc => ?_)
    · rw [if_pos hc] at H
      refine T_lload_n (pc := 36) dX4_rank_36 rfl rfl ?_
      exact T_lreturn (pc := 37) rfl dX4_rank_37 H
    · rw [if_neg hc] at H
      refine T_lload_n (pc := 28) dX4_rank_28 rfl rfl ?_
      refine T_ldc2 (pc := 29) (v := 9223372036854775807) dX4_rank_29 c_4_52 ?_
      refine T_lxor (pc := 32) dX4_rank_32 ?_
      refine T_goto (pc := 33) (tgt := 37) dX4_rank_33 (by decide) ?_
      exact T_lreturn (pc := 37) rfl dX4_rank_37 H
def F_X4_rank_12 (d : Nat) (v1 : Int64) (h : MH) (u : Nat) (Q : Int64 → MH → Prop) : Prop :=
  F_X4_rank_17 d v1 1 h u Q
set_option maxRecDepth 20000 in
theorem E_X4_rank_12 {d : Nat} {v1 : Int64} {h : MH} {u : Nat} {Q : Int64 → MH → Prop} (H : F_X4_rank_12 d v1 h u Q) : T u_X4_rank d 12 [none, some (jL v1), none, none] [] h u (qL Q) := by
  unfold F_X4_rank_12 at H
  refine T_iconst (pc := 12) (v := 1) dX4_rank_12 (by decide) ?_
  refine T_goto (pc := 13) (tgt := 17) dX4_rank_13 (by decide) ?_
  exact T.forget (E_X4_rank_17 H) ⟨rfl, trivial⟩
def F_X4_rank (d : Nat) (v0 : Int32) (v1 : Int64) (h : MH) (u : Nat) (Q : Int64 → MH → Prop) : Prop :=
  if v0 = 6 then
    F_X4_rank_12 d v1 h u Q
  else
    if v0 = 7 then
      F_X4_rank_12 d v1 h u Q
    else
      F_X4_rank_17 d v1 0 h u Q
set_option maxRecDepth 20000 in
theorem E_X4_rank {d : Nat} {v0 : Int32} {v1 : Int64} {h : MH} {u : Nat} {Q : Int64 → MH → Prop} (H : F_X4_rank d v0 v1 h u Q) : T u_X4_rank d 0 [some (jI v0), some (jL v1), none, none] [] h u (qL Q) := by
  unfold F_X4_rank at H
  refine T_iload_n (pc := 0) dX4_rank_0 rfl rfl ?_
  refine T_bipush (pc := 1) (v := 6) dX4_rank_1 (by decide) ?_
  refine T_icmp_eq (pc := 3) (tgt := 12) dX4_rank_3 (by decide) (fun hc => ?_) (fun hc => ?_)
  · rw [if_pos hc] at H
    exact T.forget (E_X4_rank_12 H) ⟨rfl, trivial⟩
  · rw [if_neg hc] at H
    refine T_iload_n (pc := 6) dX4_rank_6 rfl rfl ?_
    refine T_bipush (pc := 7) (v := 7) dX4_rank_7 (by decide) ?_
    refine T_icmp_ne (pc := 9) (tgt := 16) dX4_rank_9 (by decide) (fun hc => ?_) (fun hc => ?_)
    · rw [if_neg hc] at H
      refine T_iconst (pc := 16) (v := 0) dX4_rank_16 (by decide) ?_
      exact T.forget (E_X4_rank_17 H) ⟨rfl, trivial⟩
    · rw [if_pos hc] at H
      exact T.forget (E_X4_rank_12 H) ⟨rfl, trivial⟩
theorem I_X4_rank {d : Nat} {v0 : Int32} {v1 : Int64} {h : MH} {u : Nat} {K : Int64 → MH → Nat → Prop} (u1 : Nat) (hu : u1 ≤ u) (H : F_X4_rank d v0 v1 h u1 (fun x h2 => K x h2 (u - u1))) : iL d u_X4_rank [jI v0, jL v1] h u K := inv.of u1 hu (Ct.of (by decide +kernel) rfl (Nat.le_of_ble_eq_true rfl) rfl (E_X4_rank H))
theorem dX4_hashNumber_0 : decode cX4_hashNumber 0 = .ok (.iload_n 0, 1) := by decide +kernel
theorem dX4_hashNumber_1 : decode cX4_hashNumber 1 = .ok (.ifCond .ne 19, 3) := by decide +kernel
theorem dX4_hashNumber_4 : decode cX4_hashNumber 4 = .ok (.lload_n 1, 1) := by decide +kernel
theorem dX4_hashNumber_5 : decode cX4_hashNumber 5 = .ok (.lconst 0, 1) := by decide +kernel
theorem dX4_hashNumber_6 : decode cX4_hashNumber 6 = .ok (.lcmp, 1) := by decide +kernel
theorem dX4_hashNumber_7 : decode cX4_hashNumber 7 = .ok (.ifCond .eq 9, 3) := by decide +kernel
theorem dX4_hashNumber_10 : decode cX4_hashNumber 10 = .ok (.sipush 1231, 3) := by decide +kernel
theorem dX4_hashNumber_13 : decode cX4_hashNumber 13 = .ok (.goto 6, 3) := by decide +kernel
theorem dX4_hashNumber_16 : decode cX4_hashNumber 16 = .ok (.sipush 1237, 3) := by decide +kernel
theorem dX4_hashNumber_19 : decode cX4_hashNumber 19 = .ok (.ireturn, 1) := by decide +kernel
theorem dX4_hashNumber_20 : decode cX4_hashNumber 20 = .ok (.iload_n 0, 1) := by decide +kernel
theorem dX4_hashNumber_21 : decode cX4_hashNumber 21 = .ok (.iconst 5, 1) := by decide +kernel
theorem dX4_hashNumber_22 : decode cX4_hashNumber 22 = .ok (.if_icmp .eq 9, 3) := by decide +kernel
theorem dX4_hashNumber_25 : decode cX4_hashNumber 25 = .ok (.iload_n 0, 1) := by decide +kernel
theorem dX4_hashNumber_26 : decode cX4_hashNumber 26 = .ok (.bipush 7, 2) := by decide +kernel
theorem dX4_hashNumber_28 : decode cX4_hashNumber 28 = .ok (.if_icmp .ne 11, 3) := by decide +kernel
theorem dX4_hashNumber_31 : decode cX4_hashNumber 31 = .ok (.lload_n 1, 1) := by decide +kernel
theorem dX4_hashNumber_32 : decode cX4_hashNumber 32 = .ok (.lload_n 1, 1) := by decide +kernel
theorem dX4_hashNumber_33 : decode cX4_hashNumber 33 = .ok (.bipush 32, 2) := by decide +kernel
theorem dX4_hashNumber_35 : decode cX4_hashNumber 35 = .ok (.lushr, 1) := by decide +kernel
theorem dX4_hashNumber_36 : decode cX4_hashNumber 36 = .ok (.lxor, 1) := by decide +kernel
theorem dX4_hashNumber_37 : decode cX4_hashNumber 37 = .ok (.l2i, 1) := by decide +kernel
theorem dX4_hashNumber_38 : decode cX4_hashNumber 38 = .ok (.ireturn, 1) := by decide +kernel
theorem dX4_hashNumber_39 : decode cX4_hashNumber 39 = .ok (.lload_n 1, 1) := by decide +kernel
theorem dX4_hashNumber_40 : decode cX4_hashNumber 40 = .ok (.l2i, 1) := by decide +kernel
theorem dX4_hashNumber_41 : decode cX4_hashNumber 41 = .ok (.ireturn, 1) := by decide +kernel
def F_X4_hashNumber (d : Nat) (v0 : Int32) (v1 : Int64) (h : MH) (u : Nat) (Q : Int32 → MH → Prop) : Prop :=
  if v0 = 0 then
    if (lg_cmp v1 0) = 0 then
      Q 1237 h
    else
      Q 1231 h
  else
    if v0 = 5 then
      Q ((v1 ^^^ ((v1.toUInt64 >>> ((32 : Int32).toInt64.toUInt64 &&& Int64.toUInt64 63)).toInt64)).toInt32) h
    else
      if v0 = 7 then
        Q ((v1 ^^^ ((v1.toUInt64 >>> ((32 : Int32).toInt64.toUInt64 &&& Int64.toUInt64 63)).toInt64)).toInt32) h
      else
        Q (v1.toInt32) h
set_option maxRecDepth 20000 in
theorem E_X4_hashNumber {d : Nat} {v0 : Int32} {v1 : Int64} {h : MH} {u : Nat} {Q : Int32 → MH → Prop} (H : F_X4_hashNumber d v0 v1 h u Q) : T u_X4_hashNumber d 0 [some (jI v0), some (jL v1), none] [] h u (qI Q) := by
  unfold F_X4_hashNumber at H
  refine T_iload_n (pc := 0) dX4_hashNumber_0 rfl rfl ?_
  refine T_if_ne (pc := 1) (tgt := 20) dX4_hashNumber_1 (by decide) (fun hc => ?_) (fun hc => ?_)
  · rw [if_neg hc] at H
    refine T_iload_n (pc := 20) dX4_hashNumber_20 rfl rfl ?_
    refine T_iconst (pc := 21) (v := 5) dX4_hashNumber_21 (by decide) ?_
    refine T_icmp_eq (pc := 22) (tgt := 31) dX4_hashNumber_22 (by decide) (fun hc => ?_) (fun hc => ?_)
    · rw [if_pos hc] at H
      refine T_lload_n (pc := 31) dX4_hashNumber_31 rfl rfl ?_
      refine T_lload_n (pc := 32) dX4_hashNumber_32 rfl rfl ?_
      refine T_bipush (pc := 33) (v := 32) dX4_hashNumber_33 (by decide) ?_
      refine T_lushr (pc := 35) dX4_hashNumber_35 ?_
      refine T_lxor (pc := 36) dX4_hashNumber_36 ?_
      refine T_l2i (pc := 37) dX4_hashNumber_37 ?_
      exact T_ireturn (pc := 38) rfl rfl dX4_hashNumber_38 H
    · rw [if_neg hc] at H
      refine T_iload_n (pc := 25) dX4_hashNumber_25 rfl rfl ?_
      refine T_bipush (pc := 26) (v := 7) dX4_hashNumber_26 (by decide) ?_
      refine T_icmp_ne (pc := 28) (tgt := 39) dX4_hashNumber_28 (by decide) (fun hc => ?_) (fun hc => ?_)
      · rw [if_neg hc] at H
        refine T_lload_n (pc := 39) dX4_hashNumber_39 rfl rfl ?_
        refine T_l2i (pc := 40) dX4_hashNumber_40 ?_
        exact T_ireturn (pc := 41) rfl rfl dX4_hashNumber_41 H
      · rw [if_pos hc] at H
        refine T_lload_n (pc := 31) dX4_hashNumber_31 rfl rfl ?_
        refine T_lload_n (pc := 32) dX4_hashNumber_32 rfl rfl ?_
        refine T_bipush (pc := 33) (v := 32) dX4_hashNumber_33 (by decide) ?_
        refine T_lushr (pc := 35) dX4_hashNumber_35 ?_
        refine T_lxor (pc := 36) dX4_hashNumber_36 ?_
        refine T_l2i (pc := 37) dX4_hashNumber_37 ?_
        exact T_ireturn (pc := 38) rfl rfl dX4_hashNumber_38 H
  · rw [if_pos hc] at H
    refine T_lload_n (pc := 4) dX4_hashNumber_4 rfl rfl ?_
    refine T_lconst (pc := 5) (v := 0) dX4_hashNumber_5 (by decide) ?_
    refine T_lcmp (pc := 6) dX4_hashNumber_6 ?_
    refine T_if_eq (pc := 7) (tgt := 16) dX4_hashNumber_7 (by decide) (fun hc => ?_) (fun hc => ?_)
    · rw [if_pos hc] at H
      refine T_sipush (pc := 16) (v := 1237) dX4_hashNumber_16 (by decide) ?_
      exact T_ireturn (pc := 19) rfl rfl dX4_hashNumber_19 H
    · rw [if_neg hc] at H
      refine T_sipush (pc := 10) (v := 1231) dX4_hashNumber_10 (by decide) ?_
      refine T_goto (pc := 13) (tgt := 19) dX4_hashNumber_13 (by decide) ?_
      exact T_ireturn (pc := 19) rfl rfl dX4_hashNumber_19 H
theorem I_X4_hashNumber {d : Nat} {v0 : Int32} {v1 : Int64} {h : MH} {u : Nat} {K : Int32 → MH → Nat → Prop} (u1 : Nat) (hu : u1 ≤ u) (H : F_X4_hashNumber d v0 v1 h u1 (fun x h2 => K x h2 (u - u1))) : iI d u_X4_hashNumber [jI v0, jL v1] h u K := inv.of u1 hu (Ct.of (by decide +kernel) rfl (Nat.le_of_ble_eq_true rfl) rfl (E_X4_hashNumber H))
theorem dX4_floatBits_0 : decode cX4_floatBits 0 = .ok (.lload_n 0, 1) := by decide +kernel
theorem dX4_floatBits_1 : decode cX4_floatBits 1 = .ok (.bipush 23, 2) := by decide +kernel
theorem dX4_floatBits_3 : decode cX4_floatBits 3 = .ok (.bipush 127, 2) := by decide +kernel
theorem dX4_floatBits_5 : decode cX4_floatBits 5 = .ok (.invokestatic 35, 3) := by decide +kernel
theorem dX4_floatBits_8 : decode cX4_floatBits 8 = .ok (.l2i, 1) := by decide +kernel
theorem dX4_floatBits_9 : decode cX4_floatBits 9 = .ok (.istore_n 2, 1) := by decide +kernel
theorem dX4_floatBits_10 : decode cX4_floatBits 10 = .ok (.lload_n 0, 1) := by decide +kernel
theorem dX4_floatBits_11 : decode cX4_floatBits 11 = .ok (.lconst 0, 1) := by decide +kernel
theorem dX4_floatBits_12 : decode cX4_floatBits 12 = .ok (.lcmp, 1) := by decide +kernel
theorem dX4_floatBits_13 : decode cX4_floatBits 13 = .ok (.ifCond .ge 11, 3) := by decide +kernel
theorem dX4_floatBits_16 : decode cX4_floatBits 16 = .ok (.iload_n 2, 1) := by decide +kernel
theorem dX4_floatBits_17 : decode cX4_floatBits 17 = .ok (.ldc 41, 2) := by decide +kernel
theorem dX4_floatBits_19 : decode cX4_floatBits 19 = .ok (.ior, 1) := by decide +kernel
theorem dX4_floatBits_20 : decode cX4_floatBits 20 = .ok (.i2l, 1) := by decide +kernel
theorem dX4_floatBits_21 : decode cX4_floatBits 21 = .ok (.goto 5, 3) := by decide +kernel
theorem dX4_floatBits_24 : decode cX4_floatBits 24 = .ok (.iload_n 2, 1) := by decide +kernel
theorem dX4_floatBits_25 : decode cX4_floatBits 25 = .ok (.i2l, 1) := by decide +kernel
theorem dX4_floatBits_26 : decode cX4_floatBits 26 = .ok (.lreturn, 1) := by decide +kernel
def F_X4_floatBits (d : Nat) (v0 : Int64) (h : MH) (u : Nat) (Q : Int64 → MH → Prop) : Prop :=
  iL d u_X4_roundedBits [jL v0, jI 23, jI 127] h u fun x1 h u =>
  if 0 ≤ (lg_cmp v0 0) then
    Q ((x1.toInt32).toInt64) h
  else
    Q (((x1.toInt32) ||| (-2147483648)).toInt64) h
set_option maxRecDepth 20000 in
theorem E_X4_floatBits {d : Nat} {v0 : Int64} {h : MH} {u : Nat} {Q : Int64 → MH → Prop} (H : F_X4_floatBits d v0 h u Q) : T u_X4_floatBits (d + 1) 0 [some (jL v0), none, none] [] h u (qL Q) := by
  unfold F_X4_floatBits at H
  refine T_lload_n (pc := 0) dX4_floatBits_0 rfl rfl ?_
  refine T_bipush (pc := 1) (v := 23) dX4_floatBits_1 (by decide) ?_
  refine T_bipush (pc := 3) (v := 127) dX4_floatBits_3 (by decide) ?_
  refine T_invS (pc := 5) (av := [jL v0, jI 23, jI 127]) (rest := []) dX4_floatBits_5 mf_X4_roundedBits c_2_25 c_2_26 rfl (Nat.le_of_ble_eq_true rfl) rfl (iL_k (iL_mono (fun x1 h u H => ?_) H))
  refine T_l2i (pc := 8) dX4_floatBits_8 ?_
  refine T_istore_n (pc := 9) (ls2 := [some (jL v0), none, some (jI (x1.toInt32))]) dX4_floatBits_9 rfl (Nat.le_of_ble_eq_true rfl) rfl ?_
  refine T_lload_n (pc := 10) dX4_floatBits_10 rfl rfl ?_
  refine T_lconst (pc := 11) (v := 0) dX4_floatBits_11 (by decide) ?_
  refine T_lcmp (pc := 12) dX4_floatBits_12 ?_
  refine T_if_ge (pc := 13) (tgt := 24) dX4_floatBits_13 (by decide) (fun hc => ?_) (fun hc => ?_)
  · rw [if_pos hc] at H
    refine T_iload_n (pc := 24) dX4_floatBits_24 rfl rfl ?_
    refine T_i2l (pc := 25) dX4_floatBits_25 ?_
    exact T_lreturn (pc := 26) rfl dX4_floatBits_26 H
  · rw [if_neg hc] at H
    refine T_iload_n (pc := 16) dX4_floatBits_16 rfl rfl ?_
    refine T_ldc (pc := 17) (v := (-2147483648)) dX4_floatBits_17 c_2_34 ?_
    refine T_ior (pc := 19) dX4_floatBits_19 ?_
    refine T_i2l (pc := 20) dX4_floatBits_20 ?_
    refine T_goto (pc := 21) (tgt := 26) dX4_floatBits_21 (by decide) ?_
    exact T_lreturn (pc := 26) rfl dX4_floatBits_26 H
theorem I_X4_floatBits {d : Nat} {v0 : Int64} {h : MH} {u : Nat} {K : Int64 → MH → Nat → Prop} (u1 : Nat) (hu : u1 ≤ u) (H : F_X4_floatBits d v0 h u1 (fun x h2 => K x h2 (u - u1))) : iL (d + 1) u_X4_floatBits [jL v0] h u K := inv.of u1 hu (Ct.of (by decide +kernel) rfl (Nat.le_of_ble_eq_true rfl) rfl (E_X4_floatBits H))
theorem dX4_doubleBits_0 : decode cX4_doubleBits 0 = .ok (.lload_n 0, 1) := by decide +kernel
theorem dX4_doubleBits_1 : decode cX4_doubleBits 1 = .ok (.bipush 52, 2) := by decide +kernel
theorem dX4_doubleBits_3 : decode cX4_doubleBits 3 = .ok (.sipush 1023, 3) := by decide +kernel
theorem dX4_doubleBits_6 : decode cX4_doubleBits 6 = .ok (.invokestatic 35, 3) := by decide +kernel
theorem dX4_doubleBits_9 : decode cX4_doubleBits 9 = .ok (.lstore_n 2, 1) := by decide +kernel
theorem dX4_doubleBits_10 : decode cX4_doubleBits 10 = .ok (.lload_n 0, 1) := by decide +kernel
theorem dX4_doubleBits_11 : decode cX4_doubleBits 11 = .ok (.lconst 0, 1) := by decide +kernel
theorem dX4_doubleBits_12 : decode cX4_doubleBits 12 = .ok (.lcmp, 1) := by decide +kernel
theorem dX4_doubleBits_13 : decode cX4_doubleBits 13 = .ok (.ifCond .ge 11, 3) := by decide +kernel
theorem dX4_doubleBits_16 : decode cX4_doubleBits 16 = .ok (.lload_n 2, 1) := by decide +kernel
theorem dX4_doubleBits_17 : decode cX4_doubleBits 17 = .ok (.ldc2_w 42, 3) := by decide +kernel
theorem dX4_doubleBits_20 : decode cX4_doubleBits 20 = .ok (.lor, 1) := by decide +kernel
theorem dX4_doubleBits_21 : decode cX4_doubleBits 21 = .ok (.goto 4, 3) := by decide +kernel
theorem dX4_doubleBits_24 : decode cX4_doubleBits 24 = .ok (.lload_n 2, 1) := by decide +kernel
theorem dX4_doubleBits_25 : decode cX4_doubleBits 25 = .ok (.lreturn, 1) := by decide +kernel
def F_X4_doubleBits (d : Nat) (v0 : Int64) (h : MH) (u : Nat) (Q : Int64 → MH → Prop) : Prop :=
  iL d u_X4_roundedBits [jL v0, jI 52, jI 1023] h u fun x1 h u =>
  if 0 ≤ (lg_cmp v0 0) then
    Q x1 h
  else
    Q (x1 ||| (-9223372036854775808)) h
set_option maxRecDepth 20000 in
theorem E_X4_doubleBits {d : Nat} {v0 : Int64} {h : MH} {u : Nat} {Q : Int64 → MH → Prop} (H : F_X4_doubleBits d v0 h u Q) : T u_X4_doubleBits (d + 1) 0 [some (jL v0), none, none, none] [] h u (qL Q) := by
  unfold F_X4_doubleBits at H
  refine T_lload_n (pc := 0) dX4_doubleBits_0 rfl rfl ?_
  refine T_bipush (pc := 1) (v := 52) dX4_doubleBits_1 (by decide) ?_
  refine T_sipush (pc := 3) (v := 1023) dX4_doubleBits_3 (by decide) ?_
  refine T_invS (pc := 6) (av := [jL v0, jI 52, jI 1023]) (rest := []) dX4_doubleBits_6 mf_X4_roundedBits c_2_25 c_2_26 rfl (Nat.le_of_ble_eq_true rfl) rfl (iL_k (iL_mono (fun x1 h u H => ?_) H))
  refine T_lstore_n (pc := 9) (ls2 := [some (jL v0), none, some (jL x1), none]) dX4_doubleBits_9 rfl (Nat.le_of_ble_eq_true rfl) rfl ?_
  refine T_lload_n (pc := 10) dX4_doubleBits_10 rfl rfl ?_
  refine T_lconst (pc := 11) (v := 0) dX4_doubleBits_11 (by decide) ?_
  refine T_lcmp (pc := 12) dX4_doubleBits_12 ?_
  refine T_if_ge (pc := 13) (tgt := 24) dX4_doubleBits_13 (by decide) (fun hc => ?_) (fun hc => ?_)
  · rw [if_pos hc] at H
    refine T_lload_n (pc := 24) dX4_doubleBits_24 rfl rfl ?_
    exact T_lreturn (pc := 25) rfl dX4_doubleBits_25 H
  · rw [if_neg hc] at H
    refine T_lload_n (pc := 16) dX4_doubleBits_16 rfl rfl ?_
    refine T_ldc2 (pc := 17) (v := (-9223372036854775808)) dX4_doubleBits_17 c_2_38 ?_
    refine T_lor (pc := 20) dX4_doubleBits_20 ?_
    refine T_goto (pc := 21) (tgt := 25) dX4_doubleBits_21 (by decide) ?_
    exact T_lreturn (pc := 25) rfl dX4_doubleBits_25 H
theorem I_X4_doubleBits {d : Nat} {v0 : Int64} {h : MH} {u : Nat} {K : Int64 → MH → Nat → Prop} (u1 : Nat) (hu : u1 ≤ u) (H : F_X4_doubleBits d v0 h u1 (fun x h2 => K x h2 (u - u1))) : iL (d + 1) u_X4_doubleBits [jL v0] h u K := inv.of u1 hu (Ct.of (by decide +kernel) rfl (Nat.le_of_ble_eq_true rfl) rfl (E_X4_doubleBits H))
theorem dX4_roundedBits_0 : decode cX4_roundedBits 0 = .ok (.lload_n 0, 1) := by decide +kernel
theorem dX4_roundedBits_1 : decode cX4_roundedBits 1 = .ok (.lconst 0, 1) := by decide +kernel
theorem dX4_roundedBits_2 : decode cX4_roundedBits 2 = .ok (.lcmp, 1) := by decide +kernel
theorem dX4_roundedBits_3 : decode cX4_roundedBits 3 = .ok (.ifCond .ne 5, 3) := by decide +kernel
theorem dX4_roundedBits_6 : decode cX4_roundedBits 6 = .ok (.lconst 0, 1) := by decide +kernel
theorem dX4_roundedBits_7 : decode cX4_roundedBits 7 = .ok (.lreturn, 1) := by decide +kernel
theorem dX4_roundedBits_8 : decode cX4_roundedBits 8 = .ok (.lload_n 0, 1) := by decide +kernel
theorem dX4_roundedBits_9 : decode cX4_roundedBits 9 = .ok (.lconst 0, 1) := by decide +kernel
theorem dX4_roundedBits_10 : decode cX4_roundedBits 10 = .ok (.lcmp, 1) := by decide +kernel
theorem dX4_roundedBits_11 : decode cX4_roundedBits 11 = .ok (.ifCond .ge 8, 3) := by decide +kernel
theorem dX4_roundedBits_14 : decode cX4_roundedBits 14 = .ok (.lload_n 0, 1) := by decide +kernel
theorem dX4_roundedBits_15 : decode cX4_roundedBits 15 = .ok (.lneg, 1) := by decide +kernel
theorem dX4_roundedBits_16 : decode cX4_roundedBits 16 = .ok (.goto 4, 3) := by decide +kernel
theorem dX4_roundedBits_19 : decode cX4_roundedBits 19 = .ok (.lload_n 0, 1) := by decide +kernel
theorem dX4_roundedBits_20 : decode cX4_roundedBits 20 = .ok (.lstore 4, 2) := by decide +kernel
theorem dX4_roundedBits_22 : decode cX4_roundedBits 22 = .ok (.lload 4, 2) := by decide +kernel
theorem dX4_roundedBits_24 : decode cX4_roundedBits 24 = .ok (.invokestatic 44, 3) := by decide +kernel
theorem dX4_roundedBits_27 : decode cX4_roundedBits 27 = .ok (.istore 6, 2) := by decide +kernel
theorem dX4_roundedBits_29 : decode cX4_roundedBits 29 = .ok (.iload 6, 2) := by decide +kernel
theorem dX4_roundedBits_31 : decode cX4_roundedBits 31 = .ok (.iload_n 2, 1) := by decide +kernel
theorem dX4_roundedBits_32 : decode cX4_roundedBits 32 = .ok (.if_icmp .gt 13, 3) := by decide +kernel
theorem dX4_roundedBits_35 : decode cX4_roundedBits 35 = .ok (.lload 4, 2) := by decide +kernel
theorem dX4_roundedBits_37 : decode cX4_roundedBits 37 = .ok (.iload_n 2, 1) := by decide +kernel
theorem dX4_roundedBits_38 : decode cX4_roundedBits 38 = .ok (.iload 6, 2) := by decide +kernel
theorem dX4_roundedBits_40 : decode cX4_roundedBits 40 = .ok (.isub, 1) := by decide +kernel
theorem dX4_roundedBits_41 : decode cX4_roundedBits 41 = .ok (.lshl, 1) := by decide +kernel
theorem dX4_roundedBits_42 : decode cX4_roundedBits 42 = .ok (.goto 12, 3) := by decide +kernel
theorem dX4_roundedBits_45 : decode cX4_roundedBits 45 = .ok (.lload 4, 2) := by decide +kernel
theorem dX4_roundedBits_47 : decode cX4_roundedBits 47 = .ok (.iload 6, 2) := by decide +kernel
theorem dX4_roundedBits_49 : decode cX4_roundedBits 49 = .ok (.iload_n 2, 1) := by decide +kernel
theorem dX4_roundedBits_50 : decode cX4_roundedBits 50 = .ok (.isub, 1) := by decide +kernel
theorem dX4_roundedBits_51 : decode cX4_roundedBits 51 = .ok (.invokestatic 48, 3) := by decide +kernel
theorem dX4_roundedBits_54 : decode cX4_roundedBits 54 = .ok (.lstore 7, 2) := by decide +kernel
theorem dX4_roundedBits_56 : decode cX4_roundedBits 56 = .ok (.iload 6, 2) := by decide +kernel
theorem dX4_roundedBits_58 : decode cX4_roundedBits 58 = .ok (.iload_n 3, 1) := by decide +kernel
theorem dX4_roundedBits_59 : decode cX4_roundedBits 59 = .ok (.iadd, 1) := by decide +kernel
theorem dX4_roundedBits_60 : decode cX4_roundedBits 60 = .ok (.i2l, 1) := by decide +kernel
theorem dX4_roundedBits_61 : decode cX4_roundedBits 61 = .ok (.iload_n 2, 1) := by decide +kernel
theorem dX4_roundedBits_62 : decode cX4_roundedBits 62 = .ok (.lshl, 1) := by decide +kernel
theorem dX4_roundedBits_63 : decode cX4_roundedBits 63 = .ok (.lload 7, 2) := by decide +kernel
theorem dX4_roundedBits_65 : decode cX4_roundedBits 65 = .ok (.lconst 1, 1) := by decide +kernel
theorem dX4_roundedBits_66 : decode cX4_roundedBits 66 = .ok (.iload_n 2, 1) := by decide +kernel
theorem dX4_roundedBits_67 : decode cX4_roundedBits 67 = .ok (.lshl, 1) := by decide +kernel
theorem dX4_roundedBits_68 : decode cX4_roundedBits 68 = .ok (.lsub, 1) := by decide +kernel
theorem dX4_roundedBits_69 : decode cX4_roundedBits 69 = .ok (.ladd, 1) := by decide +kernel
theorem dX4_roundedBits_70 : decode cX4_roundedBits 70 = .ok (.lreturn, 1) := by decide +kernel
def F_X4_roundedBits_54 (d : Nat) (v2 : Int32) (v3 : Int32) (v6 : Int32) (s0 : Int64) (h : MH) (u : Nat) (Q : Int64 → MH → Prop) : Prop :=
  Q ((((v6 + v3).toInt64) <<< (v2.toInt64 &&& 63)) + (s0 - ((1 : Int64) <<< (v2.toInt64 &&& 63)))) h
set_option maxRecDepth 20000 in
theorem E_X4_roundedBits_54 {d : Nat} {v2 : Int32} {v3 : Int32} {v6 : Int32} {s0 : Int64} {h : MH} {u : Nat} {Q : Int64 → MH → Prop} (H : F_X4_roundedBits_54 d v2 v3 v6 s0 h u Q) : T u_X4_roundedBits (d + 1) 54 [none, none, some (jI v2), some (jI v3), none, none, some (jI v6), none, none] [jL s0] h u (qL Q) := by
  unfold F_X4_roundedBits_54 at H
  refine T_lstore (pc := 54) (ls2 := [none, none, some (jI v2), some (jI v3), none, none, some (jI v6), some (jL s0), none]) dX4_roundedBits_54 (Nat.le_of_ble_eq_true rfl) rfl ?_
  refine T_iload (pc := 56) dX4_roundedBits_56 rfl ?_
  refine T_iload_n (pc := 58) dX4_roundedBits_58 rfl rfl ?_
  refine T_iadd (pc := 59) dX4_roundedBits_59 ?_
  refine T_i2l (pc := 60) dX4_roundedBits_60 ?_
  refine T_iload_n (pc := 61) dX4_roundedBits_61 rfl rfl ?_
  refine T_lshl (pc := 62) dX4_roundedBits_62 ?_
  refine T_lload (pc := 63) dX4_roundedBits_63 rfl ?_
  refine T_lconst (pc := 65) (v := 1) dX4_roundedBits_65 (by decide) ?_
  refine T_iload_n (pc := 66) dX4_roundedBits_66 rfl rfl ?_
  refine T_lshl (pc := 67) dX4_roundedBits_67 ?_
  refine T_lsub (pc := 68) dX4_roundedBits_68 ?_
  refine T_ladd (pc := 69) dX4_roundedBits_69 ?_
  exact T_lreturn (pc := 70) rfl dX4_roundedBits_70 H
def F_X4_roundedBits_20 (d : Nat) (v2 : Int32) (v3 : Int32) (s0 : Int64) (h : MH) (u : Nat) (Q : Int64 → MH → Prop) : Prop :=
  iI d u_X4_topBit [jL s0] h u fun x1 h u =>
  if v2 < x1 then
    iL d u_X4_roundedOff [jL s0, jI (x1 - v2)] h u fun x2 h u =>
    F_X4_roundedBits_54 d v2 v3 x1 x2 h u Q
  else
    F_X4_roundedBits_54 d v2 v3 x1 (s0 <<< ((v2 - x1).toInt64 &&& 63)) h u Q
set_option maxRecDepth 20000 in
theorem E_X4_roundedBits_20 {d : Nat} {v2 : Int32} {v3 : Int32} {s0 : Int64} {h : MH} {u : Nat} {Q : Int64 → MH → Prop} (H : F_X4_roundedBits_20 d v2 v3 s0 h u Q) : T u_X4_roundedBits (d + 1) 20 [none, none, some (jI v2), some (jI v3), none, none, none, none, none] [jL s0] h u (qL Q) := by
  unfold F_X4_roundedBits_20 at H
  refine T_lstore (pc := 20) (ls2 := [none, none, some (jI v2), some (jI v3), some (jL s0), none, none, none, none]) dX4_roundedBits_20 (Nat.le_of_ble_eq_true rfl) rfl ?_
  refine T_lload (pc := 22) dX4_roundedBits_22 rfl ?_
  refine T_invS (pc := 24) (av := [jL s0]) (rest := []) dX4_roundedBits_24 mf_X4_topBit c_2_28 c_2_29 rfl (Nat.le_of_ble_eq_true rfl) rfl (iI_k (iI_mono (fun x1 h u H => ?_) H))
  refine T_istore (pc := 27) (ls2 := [none, none, some (jI v2), some (jI v3), some (jL s0), none, some (jI x1), none, none]) dX4_roundedBits_27 (Nat.le_of_ble_eq_true rfl) rfl ?_
  refine T_iload (pc := 29) dX4_roundedBits_29 rfl ?_
  refine T_iload_n (pc := 31) dX4_roundedBits_31 rfl rfl ?_
  refine T_icmp_gt (pc := 32) (tgt := 45) dX4_roundedBits_32 (by decide) (fun hc => ?_) (fun hc => ?_)
  · rw [if_pos hc] at H
    refine T_lload (pc := 45) dX4_roundedBits_45 rfl ?_
    refine T_iload (pc := 47) dX4_roundedBits_47 rfl ?_
    refine T_iload_n (pc := 49) dX4_roundedBits_49 rfl rfl ?_
    refine T_isub (pc := 50) dX4_roundedBits_50 ?_
    refine T_invS (pc := 51) (av := [jL s0, jI (x1 - v2)]) (rest := []) dX4_roundedBits_51 mf_X4_roundedOff c_2_31 c_2_32 rfl (Nat.le_of_ble_eq_true rfl) rfl (iL_k (iL_mono (fun x2 h u H => ?_) H))
    exact T.forget (E_X4_roundedBits_54 H) ⟨rfl, rfl, rfl, trivial⟩
  · rw [if_neg hc] at H
    refine T_lload (pc := 35) dX4_roundedBits_35 rfl ?_
    refine T_iload_n (pc := 37) dX4_roundedBits_37 rfl rfl ?_
    refine T_iload (pc := 38) dX4_roundedBits_38 rfl ?_
    refine T_isub (pc := 40) dX4_roundedBits_40 ?_
    refine T_lshl (pc := 41) dX4_roundedBits_41 ?_
    refine T_goto (pc := 42) (tgt := 54) dX4_roundedBits_42 (by decide) ?_
    exact T.forget (E_X4_roundedBits_54 H) ⟨rfl, rfl, rfl, trivial⟩
def F_X4_roundedBits (d : Nat) (v0 : Int64) (v2 : Int32) (v3 : Int32) (h : MH) (u : Nat) (Q : Int64 → MH → Prop) : Prop :=
  if (lg_cmp v0 0) = 0 then
    Q 0 h
  else
    if 0 ≤ (lg_cmp v0 0) then
      F_X4_roundedBits_20 d v2 v3 v0 h u Q
    else
      F_X4_roundedBits_20 d v2 v3 (-v0) h u Q
set_option maxRecDepth 20000 in
theorem E_X4_roundedBits {d : Nat} {v0 : Int64} {v2 : Int32} {v3 : Int32} {h : MH} {u : Nat} {Q : Int64 → MH → Prop} (H : F_X4_roundedBits d v0 v2 v3 h u Q) : T u_X4_roundedBits (d + 1) 0 [some (jL v0), none, some (jI v2), some (jI v3), none, none, none, none, none] [] h u (qL Q) := by
  unfold F_X4_roundedBits at H
  refine T_lload_n (pc := 0) dX4_roundedBits_0 rfl rfl ?_
  refine T_lconst (pc := 1) (v := 0) dX4_roundedBits_1 (by decide) ?_
  refine T_lcmp (pc := 2) dX4_roundedBits_2 ?_
  refine T_if_ne (pc := 3) (tgt := 8) dX4_roundedBits_3 (by decide) (fun hc => ?_) (fun hc => ?_)
  · rw [if_neg hc] at H
    refine T_lload_n (pc := 8) dX4_roundedBits_8 rfl rfl ?_
    refine T_lconst (pc := 9) (v := 0) dX4_roundedBits_9 (by decide) ?_
    refine T_lcmp (pc := 10) dX4_roundedBits_10 ?_
    refine T_if_ge (pc := 11) (tgt := 19) dX4_roundedBits_11 (by decide) (fun hc => ?_) (fun hc => ?_)
    · rw [if_pos hc] at H
      refine T_lload_n (pc := 19) dX4_roundedBits_19 rfl rfl ?_
      exact T.forget (E_X4_roundedBits_20 H) ⟨rfl, rfl, trivial⟩
    · rw [if_neg hc] at H
      refine T_lload_n (pc := 14) dX4_roundedBits_14 rfl rfl ?_
      refine T_lneg (pc := 15) dX4_roundedBits_15 ?_
      refine T_goto (pc := 16) (tgt := 20) dX4_roundedBits_16 (by decide) ?_
      exact T.forget (E_X4_roundedBits_20 H) ⟨rfl, rfl, trivial⟩
  · rw [if_pos hc] at H
    refine T_lconst (pc := 6) (v := 0) dX4_roundedBits_6 (by decide) ?_
    exact T_lreturn (pc := 7) rfl dX4_roundedBits_7 H
theorem I_X4_roundedBits {d : Nat} {v0 : Int64} {v2 : Int32} {v3 : Int32} {h : MH} {u : Nat} {K : Int64 → MH → Nat → Prop} (u1 : Nat) (hu : u1 ≤ u) (H : F_X4_roundedBits d v0 v2 v3 h u1 (fun x h2 => K x h2 (u - u1))) : iL (d + 1) u_X4_roundedBits [jL v0, jI v2, jI v3] h u K := inv.of u1 hu (Ct.of (by decide +kernel) rfl (Nat.le_of_ble_eq_true rfl) rfl (E_X4_roundedBits H))
theorem dX4_topBit_0 : decode cX4_topBit 0 = .ok (.bipush 63, 2) := by decide +kernel
theorem dX4_topBit_2 : decode cX4_topBit 2 = .ok (.istore_n 2, 1) := by decide +kernel
theorem dX4_topBit_3 : decode cX4_topBit 3 = .ok (.iload_n 2, 1) := by decide +kernel
theorem dX4_topBit_4 : decode cX4_topBit 4 = .ok (.ifCond .le 17, 3) := by decide +kernel
theorem dX4_topBit_7 : decode cX4_topBit 7 = .ok (.lload_n 0, 1) := by decide +kernel
theorem dX4_topBit_8 : decode cX4_topBit 8 = .ok (.iload_n 2, 1) := by decide +kernel
theorem dX4_topBit_9 : decode cX4_topBit 9 = .ok (.lushr, 1) := by decide +kernel
theorem dX4_topBit_10 : decode cX4_topBit 10 = .ok (.lconst 0, 1) := by decide +kernel
theorem dX4_topBit_11 : decode cX4_topBit 11 = .ok (.lcmp, 1) := by decide +kernel
theorem dX4_topBit_12 : decode cX4_topBit 12 = .ok (.ifCond .ne 9, 3) := by decide +kernel
theorem dX4_topBit_15 : decode cX4_topBit 15 = .ok (.iinc 2 (-1), 3) := by decide +kernel
theorem dX4_topBit_18 : decode cX4_topBit 18 = .ok (.goto (-15), 3) := by decide +kernel
theorem dX4_topBit_21 : decode cX4_topBit 21 = .ok (.iload_n 2, 1) := by decide +kernel
theorem dX4_topBit_22 : decode cX4_topBit 22 = .ok (.ireturn, 1) := by decide +kernel
def L_X4_topBit_3 (d : Nat) (v0 : Int64) (v2 : Int32) (h : MH) (u : Nat) (Q : Int32 → MH → Prop) : Prop := T u_X4_topBit d 3 [some (jL v0), none, some (jI v2)] [] h u (qI Q)
def F_X4_topBit (d : Nat) (v0 : Int64) (h : MH) (u : Nat) (Q : Int32 → MH → Prop) : Prop :=
  L_X4_topBit_3 d v0 63 h u Q
set_option maxRecDepth 20000 in
theorem E_X4_topBit {d : Nat} {v0 : Int64} {h : MH} {u : Nat} {Q : Int32 → MH → Prop} (H : F_X4_topBit d v0 h u Q) : T u_X4_topBit d 0 [some (jL v0), none, none] [] h u (qI Q) := by
  unfold F_X4_topBit at H
  refine T_bipush (pc := 0) (v := 63) dX4_topBit_0 (by decide) ?_
  refine T_istore_n (pc := 2) (ls2 := [some (jL v0), none, some (jI 63)]) dX4_topBit_2 rfl (Nat.le_of_ble_eq_true rfl) rfl ?_
  exact T.forget H ⟨rfl, rfl, trivial⟩
def F_X4_topBit_3 (d : Nat) (v0 : Int64) (v2 : Int32) (h : MH) (u : Nat) (Q : Int32 → MH → Prop) : Prop :=
  if v2 ≤ 0 then
    Q v2 h
  else
    if (lg_cmp ((v0.toUInt64 >>> (v2.toInt64.toUInt64 &&& Int64.toUInt64 63)).toInt64) 0) = 0 then
      L_X4_topBit_3 d v0 (v2 + (-1)) h u Q
    else
      Q v2 h
set_option maxRecDepth 20000 in
theorem E_X4_topBit_3 {d : Nat} {v0 : Int64} {v2 : Int32} {h : MH} {u : Nat} {Q : Int32 → MH → Prop} (H : F_X4_topBit_3 d v0 v2 h u Q) : T u_X4_topBit d 3 [some (jL v0), none, some (jI v2)] [] h u (qI Q) := by
  unfold F_X4_topBit_3 at H
  refine T_iload_n (pc := 3) dX4_topBit_3 rfl rfl ?_
  refine T_if_le (pc := 4) (tgt := 21) dX4_topBit_4 (by decide) (fun hc => ?_) (fun hc => ?_)
  · rw [if_pos hc] at H
    refine T_iload_n (pc := 21) dX4_topBit_21 rfl rfl ?_
    exact T_ireturn (pc := 22) rfl rfl dX4_topBit_22 H
  · rw [if_neg hc] at H
    refine T_lload_n (pc := 7) dX4_topBit_7 rfl rfl ?_
    refine T_iload_n (pc := 8) dX4_topBit_8 rfl rfl ?_
    refine T_lushr (pc := 9) dX4_topBit_9 ?_
    refine T_lconst (pc := 10) (v := 0) dX4_topBit_10 (by decide) ?_
    refine T_lcmp (pc := 11) dX4_topBit_11 ?_
    refine T_if_ne (pc := 12) (tgt := 21) dX4_topBit_12 (by decide) (fun hc => ?_) (fun hc => ?_)
    · rw [if_neg hc] at H
      refine T_iload_n (pc := 21) dX4_topBit_21 rfl rfl ?_
      exact T_ireturn (pc := 22) rfl rfl dX4_topBit_22 H
    · rw [if_pos hc] at H
      refine T_iinc (pc := 15) (v := v2 + (-1)) (ls2 := [some (jL v0), none, some (jI (v2 + (-1)))]) dX4_topBit_15 rfl rfl (Nat.le_of_ble_eq_true rfl) rfl ?_
      refine T_goto (pc := 18) (tgt := 3) dX4_topBit_18 (by decide) ?_
      exact T.forget H ⟨rfl, rfl, trivial⟩
theorem I_X4_topBit {d : Nat} {v0 : Int64} {h : MH} {u : Nat} {K : Int32 → MH → Nat → Prop} (u1 : Nat) (hu : u1 ≤ u) (H : F_X4_topBit d v0 h u1 (fun x h2 => K x h2 (u - u1))) : iI d u_X4_topBit [jL v0] h u K := inv.of u1 hu (Ct.of (by decide +kernel) rfl (Nat.le_of_ble_eq_true rfl) rfl (E_X4_topBit H))
theorem dX4_roundedOff_0 : decode cX4_roundedOff 0 = .ok (.lload_n 0, 1) := by decide +kernel
theorem dX4_roundedOff_1 : decode cX4_roundedOff 1 = .ok (.iload_n 2, 1) := by decide +kernel
theorem dX4_roundedOff_2 : decode cX4_roundedOff 2 = .ok (.lushr, 1) := by decide +kernel
theorem dX4_roundedOff_3 : decode cX4_roundedOff 3 = .ok (.lstore_n 3, 1) := by decide +kernel
theorem dX4_roundedOff_4 : decode cX4_roundedOff 4 = .ok (.lload_n 0, 1) := by decide +kernel
theorem dX4_roundedOff_5 : decode cX4_roundedOff 5 = .ok (.lconst 1, 1) := by decide +kernel
theorem dX4_roundedOff_6 : decode cX4_roundedOff 6 = .ok (.iload_n 2, 1) := by decide +kernel
theorem dX4_roundedOff_7 : decode cX4_roundedOff 7 = .ok (.lshl, 1) := by decide +kernel
theorem dX4_roundedOff_8 : decode cX4_roundedOff 8 = .ok (.lconst 1, 1) := by decide +kernel
theorem dX4_roundedOff_9 : decode cX4_roundedOff 9 = .ok (.lsub, 1) := by decide +kernel
theorem dX4_roundedOff_10 : decode cX4_roundedOff 10 = .ok (.land, 1) := by decide +kernel
theorem dX4_roundedOff_11 : decode cX4_roundedOff 11 = .ok (.lstore 5, 2) := by decide +kernel
theorem dX4_roundedOff_13 : decode cX4_roundedOff 13 = .ok (.lconst 1, 1) := by decide +kernel
theorem dX4_roundedOff_14 : decode cX4_roundedOff 14 = .ok (.iload_n 2, 1) := by decide +kernel
theorem dX4_roundedOff_15 : decode cX4_roundedOff 15 = .ok (.iconst 1, 1) := by decide +kernel
theorem dX4_roundedOff_16 : decode cX4_roundedOff 16 = .ok (.isub, 1) := by decide +kernel
theorem dX4_roundedOff_17 : decode cX4_roundedOff 17 = .ok (.lshl, 1) := by decide +kernel
theorem dX4_roundedOff_18 : decode cX4_roundedOff 18 = .ok (.lstore 7, 2) := by decide +kernel
theorem dX4_roundedOff_20 : decode cX4_roundedOff 20 = .ok (.lload 5, 2) := by decide +kernel
theorem dX4_roundedOff_22 : decode cX4_roundedOff 22 = .ok (.lload 7, 2) := by decide +kernel
theorem dX4_roundedOff_24 : decode cX4_roundedOff 24 = .ok (.lcmp, 1) := by decide +kernel
theorem dX4_roundedOff_25 : decode cX4_roundedOff 25 = .ok (.ifCond .gt 19, 3) := by decide +kernel
theorem dX4_roundedOff_28 : decode cX4_roundedOff 28 = .ok (.lload 5, 2) := by decide +kernel
theorem dX4_roundedOff_30 : decode cX4_roundedOff 30 = .ok (.lload 7, 2) := by decide +kernel
theorem dX4_roundedOff_32 : decode cX4_roundedOff 32 = .ok (.lcmp, 1) := by decide +kernel
theorem dX4_roundedOff_33 : decode cX4_roundedOff 33 = .ok (.ifCond .ne 15, 3) := by decide +kernel
theorem dX4_roundedOff_36 : decode cX4_roundedOff 36 = .ok (.lload_n 3, 1) := by decide +kernel
theorem dX4_roundedOff_37 : decode cX4_roundedOff 37 = .ok (.lconst 1, 1) := by decide +kernel
theorem dX4_roundedOff_38 : decode cX4_roundedOff 38 = .ok (.land, 1) := by decide +kernel
theorem dX4_roundedOff_39 : decode cX4_roundedOff 39 = .ok (.lconst 0, 1) := by decide +kernel
theorem dX4_roundedOff_40 : decode cX4_roundedOff 40 = .ok (.lcmp, 1) := by decide +kernel
theorem dX4_roundedOff_41 : decode cX4_roundedOff 41 = .ok (.ifCond .eq 7, 3) := by decide +kernel
theorem dX4_roundedOff_44 : decode cX4_roundedOff 44 = .ok (.iconst 1, 1) := by decide +kernel
theorem dX4_roundedOff_45 : decode cX4_roundedOff 45 = .ok (.goto 4, 3) := by decide +kernel
theorem dX4_roundedOff_48 : decode cX4_roundedOff 48 = .ok (.iconst 0, 1) := by decide +kernel
theorem dX4_roundedOff_49 : decode cX4_roundedOff 49 = .ok (.istore 9, 2) := by decide +kernel
theorem dX4_roundedOff_51 : decode cX4_roundedOff 51 = .ok (.iload 9, 2) := by decide +kernel
theorem dX4_roundedOff_53 : decode cX4_roundedOff 53 = .ok (.ifCond .eq 9, 3) := by decide +kernel
theorem dX4_roundedOff_56 : decode cX4_roundedOff 56 = .ok (.lload_n 3, 1) := by decide +kernel
theorem dX4_roundedOff_57 : decode cX4_roundedOff 57 = .ok (.lconst 1, 1) := by decide +kernel
theorem dX4_roundedOff_58 : decode cX4_roundedOff 58 = .ok (.ladd, 1) := by decide +kernel
theorem dX4_roundedOff_59 : decode cX4_roundedOff 59 = .ok (.goto 4, 3) := by decide +kernel
theorem dX4_roundedOff_62 : decode cX4_roundedOff 62 = .ok (.lload_n 3, 1) := by decide +kernel
theorem dX4_roundedOff_63 : decode cX4_roundedOff 63 = .ok (.lreturn, 1) := by decide +kernel
def F_X4_roundedOff_49 (d : Nat) (v3 : Int64) (s0 : Int32) (h : MH) (u : Nat) (Q : Int64 → MH → Prop) : Prop :=
  if s0 = 0 then
    Q v3 h
  else
    Q (v3 + 1) h
set_option maxRecDepth 20000 in
theorem E_X4_roundedOff_49 {d : Nat} {v3 : Int64} {s0 : Int32} {h : MH} {u : Nat} {Q : Int64 → MH → Prop} (H : F_X4_roundedOff_49 d v3 s0 h u Q) : T u_X4_roundedOff d 49 [none, none, none, some (jL v3), none, none, none, none, none, none] [jI s0] h u (qL Q) := by
  unfold F_X4_roundedOff_49 at H
  refine T_istore (pc := 49) (ls2 := [none, none, none, some (jL v3), none, none, none, none, none, some (jI s0)]) dX4_roundedOff_49 (Nat.le_of_ble_eq_true rfl) rfl ?_
  refine T_iload (pc := 51) dX4_roundedOff_51 rfl ?_
  refine T_if_eq (pc := 53) (tgt := 62) dX4_roundedOff_53 (by decide) (fun hc => ?_) (fun hc => ?_)
  · rw [if_pos hc] at H
    refine T_lload_n (pc := 62) dX4_roundedOff_62 rfl rfl ?_
    exact T_lreturn (pc := 63) rfl dX4_roundedOff_63 H
  · rw [if_neg hc] at H
    refine T_lload_n (pc := 56) dX4_roundedOff_56 rfl rfl ?_
    refine T_lconst (pc := 57) (v := 1) dX4_roundedOff_57 (by decide) ?_
    refine T_ladd (pc := 58) dX4_roundedOff_58 ?_
    refine T_goto (pc := 59) (tgt := 63) dX4_roundedOff_59 (by decide) ?_
    exact T_lreturn (pc := 63) rfl dX4_roundedOff_63 H
def F_X4_roundedOff_48 (d : Nat) (v3 : Int64) (h : MH) (u : Nat) (Q : Int64 → MH → Prop) : Prop :=
  F_X4_roundedOff_49 d v3 0 h u Q
set_option maxRecDepth 20000 in
theorem E_X4_roundedOff_48 {d : Nat} {v3 : Int64} {h : MH} {u : Nat} {Q : Int64 → MH → Prop} (H : F_X4_roundedOff_48 d v3 h u Q) : T u_X4_roundedOff d 48 [none, none, none, some (jL v3), none, none, none, none, none, none] [] h u (qL Q) := by
  unfold F_X4_roundedOff_48 at H
  refine T_iconst (pc := 48) (v := 0) dX4_roundedOff_48 (by decide) ?_
  exact T.forget (E_X4_roundedOff_49 H) ⟨rfl, trivial⟩
def F_X4_roundedOff_44 (d : Nat) (v3 : Int64) (h : MH) (u : Nat) (Q : Int64 → MH → Prop) : Prop :=
  F_X4_roundedOff_49 d v3 1 h u Q
set_option maxRecDepth 20000 in
theorem E_X4_roundedOff_44 {d : Nat} {v3 : Int64} {h : MH} {u : Nat} {Q : Int64 → MH → Prop} (H : F_X4_roundedOff_44 d v3 h u Q) : T u_X4_roundedOff d 44 [none, none, none, some (jL v3), none, none, none, none, none, none] [] h u (qL Q) := by
  unfold F_X4_roundedOff_44 at H
  refine T_iconst (pc := 44) (v := 1) dX4_roundedOff_44 (by decide) ?_
  refine T_goto (pc := 45) (tgt := 49) dX4_roundedOff_45 (by decide) ?_
  exact T.forget (E_X4_roundedOff_49 H) ⟨rfl, trivial⟩
def F_X4_roundedOff (d : Nat) (v0 : Int64) (v2 : Int32) (h : MH) (u : Nat) (Q : Int64 → MH → Prop) : Prop :=
  nm ((v0.toUInt64 >>> (v2.toInt64.toUInt64 &&& Int64.toUInt64 63)).toInt64) fun x1 =>
  nm (v0 &&& (((1 : Int64) <<< (v2.toInt64 &&& 63)) - 1)) fun x2 =>
  nm ((1 : Int64) <<< ((v2 - 1).toInt64 &&& 63)) fun x3 =>
  if 0 < (lg_cmp x2 x3) then
    F_X4_roundedOff_44 d x1 h u Q
  else
    if (lg_cmp x2 x3) = 0 then
      if (lg_cmp (x1 &&& 1) 0) = 0 then
        F_X4_roundedOff_48 d x1 h u Q
      else
        F_X4_roundedOff_44 d x1 h u Q
    else
      F_X4_roundedOff_48 d x1 h u Q
set_option maxRecDepth 20000 in
theorem E_X4_roundedOff {d : Nat} {v0 : Int64} {v2 : Int32} {h : MH} {u : Nat} {Q : Int64 → MH → Prop} (H : F_X4_roundedOff d v0 v2 h u Q) : T u_X4_roundedOff d 0 [some (jL v0), none, some (jI v2), none, none, none, none, none, none, none] [] h u (qL Q) := by
  unfold F_X4_roundedOff at H
  refine T_lload_n (pc := 0) dX4_roundedOff_0 rfl rfl ?_
  refine T_iload_n (pc := 1) dX4_roundedOff_1 rfl rfl ?_
  refine T_lushr (pc := 2) dX4_roundedOff_2 ?_
  refine T_lstoreK (pc := 3) (i := 0) (I := .nop) (len := 1) (f := fun x1 => [some (jL v0), none, some (jI v2), some (jL x1), none, none, none, none, none, none]) (fun x1 k => T_lstore_n (pc := 3) dX4_roundedOff_3 rfl (Nat.le_of_ble_eq_true rfl) rfl k) (nm_mono (fun x1 H => ?_) H)
  refine T_lload_n (pc := 4) dX4_roundedOff_4 rfl rfl ?_
  refine T_lconst (pc := 5) (v := 1) dX4_roundedOff_5 (by decide) ?_
  refine T_iload_n (pc := 6) dX4_roundedOff_6 rfl rfl ?_
  refine T_lshl (pc := 7) dX4_roundedOff_7 ?_
  refine T_lconst (pc := 8) (v := 1) dX4_roundedOff_8 (by decide) ?_
  refine T_lsub (pc := 9) dX4_roundedOff_9 ?_
  refine T_land (pc := 10) dX4_roundedOff_10 ?_
  refine T_lstoreK (pc := 11) (i := 0) (I := .nop) (len := 2) (f := fun x2 => [some (jL v0), none, some (jI v2), some (jL x1), none, some (jL x2), none, none, none, none]) (fun x2 k => T_lstore (pc := 11) dX4_roundedOff_11 (Nat.le_of_ble_eq_true rfl) rfl k) (nm_mono (fun x2 H => ?_) H)
  refine T_lconst (pc := 13) (v := 1) dX4_roundedOff_13 (by decide) ?_
  refine T_iload_n (pc := 14) dX4_roundedOff_14 rfl rfl ?_
  refine T_iconst (pc := 15) (v := 1) dX4_roundedOff_15 (by decide) ?_
  refine T_isub (pc := 16) dX4_roundedOff_16 ?_
  refine T_lshl (pc := 17) dX4_roundedOff_17 ?_
  refine T_lstoreK (pc := 18) (i := 0) (I := .nop) (len := 2) (f := fun x3 => [some (jL v0), none, some (jI v2), some (jL x1), none, some (jL x2), none, some (jL x3), none, none]) (fun x3 k => T_lstore (pc := 18) dX4_roundedOff_18 (Nat.le_of_ble_eq_true rfl) rfl k) (nm_mono (fun x3 H => ?_) H)
  refine T_lload (pc := 20) dX4_roundedOff_20 rfl ?_
  refine T_lload (pc := 22) dX4_roundedOff_22 rfl ?_
  refine T_lcmp (pc := 24) dX4_roundedOff_24 ?_
  refine T_if_gt (pc := 25) (tgt := 44) dX4_roundedOff_25 (by decide) (fun hc => ?_) (fun hc => ?_)
  · rw [if_pos hc] at H
    exact T.forget (E_X4_roundedOff_44 H) ⟨rfl, trivial⟩
  · rw [if_neg hc] at H
    refine T_lload (pc := 28) dX4_roundedOff_28 rfl ?_
    refine T_lload (pc := 30) dX4_roundedOff_30 rfl ?_
    refine T_lcmp (pc := 32) dX4_roundedOff_32 ?_
    refine T_if_ne (pc := 33) (tgt := 48) dX4_roundedOff_33 (by decide) (fun hc => ?_) (fun hc => ?_)
    · rw [if_neg hc] at H
      exact T.forget (E_X4_roundedOff_48 H) ⟨rfl, trivial⟩
    · rw [if_pos hc] at H
      refine T_lload_n (pc := 36) dX4_roundedOff_36 rfl rfl ?_
      refine T_lconst (pc := 37) (v := 1) dX4_roundedOff_37 (by decide) ?_
      refine T_land (pc := 38) dX4_roundedOff_38 ?_
      refine T_lconst (pc := 39) (v := 0) dX4_roundedOff_39 (by decide) ?_
      refine T_lcmp (pc := 40) dX4_roundedOff_40 ?_
      refine T_if_eq (pc := 41) (tgt := 48) dX4_roundedOff_41 (by decide) (fun hc => ?_) (fun hc => ?_)
      · rw [if_pos hc] at H
        exact T.forget (E_X4_roundedOff_48 H) ⟨rfl, trivial⟩
      · rw [if_neg hc] at H
        exact T.forget (E_X4_roundedOff_44 H) ⟨rfl, trivial⟩
theorem I_X4_roundedOff {d : Nat} {v0 : Int64} {v2 : Int32} {h : MH} {u : Nat} {K : Int64 → MH → Nat → Prop} (u1 : Nat) (hu : u1 ≤ u) (H : F_X4_roundedOff d v0 v2 h u1 (fun x h2 => K x h2 (u - u1))) : iL d u_X4_roundedOff [jL v0, jI v2] h u K := inv.of u1 hu (Ct.of (by decide +kernel) rfl (Nat.le_of_ble_eq_true rfl) rfl (E_X4_roundedOff H))
theorem dX4_doubleOfFloat_0 : decode cX4_doubleOfFloat 0 = .ok (.lload_n 0, 1) := by decide +kernel
theorem dX4_doubleOfFloat_1 : decode cX4_doubleOfFloat 1 = .ok (.lconst 0, 1) := by decide +kernel
theorem dX4_doubleOfFloat_2 : decode cX4_doubleOfFloat 2 = .ok (.lcmp, 1) := by decide +kernel
theorem dX4_doubleOfFloat_3 : decode cX4_doubleOfFloat 3 = .ok (.ifCond .ge 9, 3) := by decide +kernel
theorem dX4_doubleOfFloat_6 : decode cX4_doubleOfFloat 6 = .ok (.ldc2_w 42, 3) := by decide +kernel
theorem dX4_doubleOfFloat_9 : decode cX4_doubleOfFloat 9 = .ok (.goto 4, 3) := by decide +kernel
theorem dX4_doubleOfFloat_12 : decode cX4_doubleOfFloat 12 = .ok (.lconst 0, 1) := by decide +kernel
theorem dX4_doubleOfFloat_13 : decode cX4_doubleOfFloat 13 = .ok (.lstore_n 2, 1) := by decide +kernel
theorem dX4_doubleOfFloat_14 : decode cX4_doubleOfFloat 14 = .ok (.lload_n 0, 1) := by decide +kernel
theorem dX4_doubleOfFloat_15 : decode cX4_doubleOfFloat 15 = .ok (.bipush 23, 2) := by decide +kernel
theorem dX4_doubleOfFloat_17 : decode cX4_doubleOfFloat 17 = .ok (.lushr, 1) := by decide +kernel
theorem dX4_doubleOfFloat_18 : decode cX4_doubleOfFloat 18 = .ok (.ldc2_w 52, 3) := by decide +kernel
theorem dX4_doubleOfFloat_21 : decode cX4_doubleOfFloat 21 = .ok (.land, 1) := by decide +kernel
theorem dX4_doubleOfFloat_22 : decode cX4_doubleOfFloat 22 = .ok (.lstore 4, 2) := by decide +kernel
theorem dX4_doubleOfFloat_24 : decode cX4_doubleOfFloat 24 = .ok (.lload_n 0, 1) := by decide +kernel
theorem dX4_doubleOfFloat_25 : decode cX4_doubleOfFloat 25 = .ok (.ldc2_w 54, 3) := by decide +kernel
theorem dX4_doubleOfFloat_28 : decode cX4_doubleOfFloat 28 = .ok (.land, 1) := by decide +kernel
theorem dX4_doubleOfFloat_29 : decode cX4_doubleOfFloat 29 = .ok (.lstore 6, 2) := by decide +kernel
theorem dX4_doubleOfFloat_31 : decode cX4_doubleOfFloat 31 = .ok (.lload 4, 2) := by decide +kernel
theorem dX4_doubleOfFloat_33 : decode cX4_doubleOfFloat 33 = .ok (.lconst 0, 1) := by decide +kernel
theorem dX4_doubleOfFloat_34 : decode cX4_doubleOfFloat 34 = .ok (.lcmp, 1) := by decide +kernel
theorem dX4_doubleOfFloat_35 : decode cX4_doubleOfFloat 35 = .ok (.ifCond .ne 5, 3) := by decide +kernel
theorem dX4_doubleOfFloat_38 : decode cX4_doubleOfFloat 38 = .ok (.lload_n 2, 1) := by decide +kernel
theorem dX4_doubleOfFloat_39 : decode cX4_doubleOfFloat 39 = .ok (.lreturn, 1) := by decide +kernel
theorem dX4_doubleOfFloat_40 : decode cX4_doubleOfFloat 40 = .ok (.lload 4, 2) := by decide +kernel
theorem dX4_doubleOfFloat_42 : decode cX4_doubleOfFloat 42 = .ok (.ldc2_w 56, 3) := by decide +kernel
theorem dX4_doubleOfFloat_45 : decode cX4_doubleOfFloat 45 = .ok (.lsub, 1) := by decide +kernel
theorem dX4_doubleOfFloat_46 : decode cX4_doubleOfFloat 46 = .ok (.ldc2_w 58, 3) := by decide +kernel
theorem dX4_doubleOfFloat_49 : decode cX4_doubleOfFloat 49 = .ok (.ladd, 1) := by decide +kernel
theorem dX4_doubleOfFloat_50 : decode cX4_doubleOfFloat 50 = .ok (.bipush 52, 2) := by decide +kernel
theorem dX4_doubleOfFloat_52 : decode cX4_doubleOfFloat 52 = .ok (.lshl, 1) := by decide +kernel
theorem dX4_doubleOfFloat_53 : decode cX4_doubleOfFloat 53 = .ok (.lstore 8, 2) := by decide +kernel
theorem dX4_doubleOfFloat_55 : decode cX4_doubleOfFloat 55 = .ok (.lload_n 2, 1) := by decide +kernel
theorem dX4_doubleOfFloat_56 : decode cX4_doubleOfFloat 56 = .ok (.lload 8, 2) := by decide +kernel
theorem dX4_doubleOfFloat_58 : decode cX4_doubleOfFloat 58 = .ok (.lor, 1) := by decide +kernel
theorem dX4_doubleOfFloat_59 : decode cX4_doubleOfFloat 59 = .ok (.lload 6, 2) := by decide +kernel
theorem dX4_doubleOfFloat_61 : decode cX4_doubleOfFloat 61 = .ok (.bipush 29, 2) := by decide +kernel
theorem dX4_doubleOfFloat_63 : decode cX4_doubleOfFloat 63 = .ok (.lshl, 1) := by decide +kernel
theorem dX4_doubleOfFloat_64 : decode cX4_doubleOfFloat 64 = .ok (.lor, 1) := by decide +kernel
theorem dX4_doubleOfFloat_65 : decode cX4_doubleOfFloat 65 = .ok (.lreturn, 1) := by decide +kernel
def F_X4_doubleOfFloat_13 (d : Nat) (v0 : Int64) (s0 : Int64) (h : MH) (u : Nat) (Q : Int64 → MH → Prop) : Prop :=
  nm (((v0.toUInt64 >>> ((23 : Int32).toInt64.toUInt64 &&& Int64.toUInt64 63)).toInt64) &&& 255) fun x1 =>
  if (lg_cmp x1 0) = 0 then
    Q s0 h
  else
    nm (((x1 - 127) + 1023) <<< ((52 : Int32).toInt64 &&& 63)) fun x2 =>
    Q ((s0 ||| x2) ||| ((v0 &&& 8388607) <<< ((29 : Int32).toInt64 &&& 63))) h
set_option maxRecDepth 20000 in
theorem E_X4_doubleOfFloat_13 {d : Nat} {v0 : Int64} {s0 : Int64} {h : MH} {u : Nat} {Q : Int64 → MH → Prop} (H : F_X4_doubleOfFloat_13 d v0 s0 h u Q) : T u_X4_doubleOfFloat d 13 [some (jL v0), none, none, none, none, none, none, none, none, none] [jL s0] h u (qL Q) := by
  unfold F_X4_doubleOfFloat_13 at H
  refine T_lstore_n (pc := 13) (ls2 := [some (jL v0), none, some (jL s0), none, none, none, none, none, none, none]) dX4_doubleOfFloat_13 rfl (Nat.le_of_ble_eq_true rfl) rfl ?_
  refine T_lload_n (pc := 14) dX4_doubleOfFloat_14 rfl rfl ?_
  refine T_bipush (pc := 15) (v := 23) dX4_doubleOfFloat_15 (by decide) ?_
  refine T_lushr (pc := 17) dX4_doubleOfFloat_17 ?_
  refine T_ldc2 (pc := 18) (v := 255) dX4_doubleOfFloat_18 c_2_45 ?_
  refine T_land (pc := 21) dX4_doubleOfFloat_21 ?_
  refine T_lstoreK (pc := 22) (i := 0) (I := .nop) (len := 2) (f := fun x1 => [some (jL v0), none, some (jL s0), none, some (jL x1), none, none, none, none, none]) (fun x1 k => T_lstore (pc := 22) dX4_doubleOfFloat_22 (Nat.le_of_ble_eq_true rfl) rfl k) (nm_mono (fun x1 H => ?_) H)
  refine T_lload_n (pc := 24) dX4_doubleOfFloat_24 rfl rfl ?_
  refine T_ldc2 (pc := 25) (v := 8388607) dX4_doubleOfFloat_25 c_2_46 ?_
  refine T_land (pc := 28) dX4_doubleOfFloat_28 ?_
  refine T_lstore (pc := 29) (ls2 := [some (jL v0), none, some (jL s0), none, some (jL x1), none, some (jL (v0 &&& 8388607)), none, none, none]) dX4_doubleOfFloat_29 (Nat.le_of_ble_eq_true rfl) rfl ?_
  refine T_lload (pc := 31) dX4_doubleOfFloat_31 rfl ?_
  refine T_lconst (pc := 33) (v := 0) dX4_doubleOfFloat_33 (by decide) ?_
  refine T_lcmp (pc := 34) dX4_doubleOfFloat_34 ?_
  refine T_if_ne (pc := 35) (tgt := 40) dX4_doubleOfFloat_35 (by decide) (fun hc => ?_) (fun hc => ?_)
  · rw [if_neg hc] at H
    refine T_lload (pc := 40) dX4_doubleOfFloat_40 rfl ?_
    refine T_ldc2 (pc := 42) (v := 127) dX4_doubleOfFloat_42 c_2_47 ?_
    refine T_lsub (pc := 45) dX4_doubleOfFloat_45 ?_
    refine T_ldc2 (pc := 46) (v := 1023) dX4_doubleOfFloat_46 c_2_48 ?_
    refine T_ladd (pc := 49) dX4_doubleOfFloat_49 ?_
    refine T_bipush (pc := 50) (v := 52) dX4_doubleOfFloat_50 (by decide) ?_
    refine T_lshl (pc := 52) dX4_doubleOfFloat_52 ?_
    refine T_lstoreK (pc := 53) (i := 0) (I := .nop) (len := 2) (f := fun x2 => [some (jL v0), none, some (jL s0), none, some (jL x1), none, some (jL (v0 &&& 8388607)), none, some (jL x2), none]) (fun x2 k => T_lstore (pc := 53) dX4_doubleOfFloat_53 (Nat.le_of_ble_eq_true rfl) rfl k) (nm_mono (fun x2 H => ?_) H)
    refine T_lload_n (pc := 55) dX4_doubleOfFloat_55 rfl rfl ?_
    refine T_lload (pc := 56) dX4_doubleOfFloat_56 rfl ?_
    refine T_lor (pc := 58) dX4_doubleOfFloat_58 ?_
    refine T_lload (pc := 59) dX4_doubleOfFloat_59 rfl ?_
    refine T_bipush (pc := 61) (v := 29) dX4_doubleOfFloat_61 (by decide) ?_
    refine T_lshl (pc := 63) dX4_doubleOfFloat_63 ?_
    refine T_lor (pc := 64) dX4_doubleOfFloat_64 ?_
    exact T_lreturn (pc := 65) rfl dX4_doubleOfFloat_65 H
  · rw [if_pos hc] at H
    refine T_lload_n (pc := 38) dX4_doubleOfFloat_38 rfl rfl ?_
    exact T_lreturn (pc := 39) rfl dX4_doubleOfFloat_39 H
def F_X4_doubleOfFloat (d : Nat) (v0 : Int64) (h : MH) (u : Nat) (Q : Int64 → MH → Prop) : Prop :=
  if 0 ≤ (lg_cmp v0 0) then
    F_X4_doubleOfFloat_13 d v0 0 h u Q
  else
    F_X4_doubleOfFloat_13 d v0 (-9223372036854775808) h u Q
set_option maxRecDepth 20000 in
theorem E_X4_doubleOfFloat {d : Nat} {v0 : Int64} {h : MH} {u : Nat} {Q : Int64 → MH → Prop} (H : F_X4_doubleOfFloat d v0 h u Q) : T u_X4_doubleOfFloat d 0 [some (jL v0), none, none, none, none, none, none, none, none, none] [] h u (qL Q) := by
  unfold F_X4_doubleOfFloat at H
  refine T_lload_n (pc := 0) dX4_doubleOfFloat_0 rfl rfl ?_
  refine T_lconst (pc := 1) (v := 0) dX4_doubleOfFloat_1 (by decide) ?_
  refine T_lcmp (pc := 2) dX4_doubleOfFloat_2 ?_
  refine T_if_ge (pc := 3) (tgt := 12) dX4_doubleOfFloat_3 (by decide) (fun hc => ?_) (fun hc => ?_)
  · rw [if_pos hc] at H
    refine T_lconst (pc := 12) (v := 0) dX4_doubleOfFloat_12 (by decide) ?_
    exact T.forget (E_X4_doubleOfFloat_13 H) ⟨rfl, trivial⟩
  · rw [if_neg hc] at H
    refine T_ldc2 (pc := 6) (v := (-9223372036854775808)) dX4_doubleOfFloat_6 c_2_38 ?_
    refine T_goto (pc := 9) (tgt := 13) dX4_doubleOfFloat_9 (by decide) ?_
    exact T.forget (E_X4_doubleOfFloat_13 H) ⟨rfl, trivial⟩
theorem I_X4_doubleOfFloat {d : Nat} {v0 : Int64} {h : MH} {u : Nat} {K : Int64 → MH → Nat → Prop} (u1 : Nat) (hu : u1 ≤ u) (H : F_X4_doubleOfFloat d v0 h u1 (fun x h2 => K x h2 (u - u1))) : iL d u_X4_doubleOfFloat [jL v0] h u K := inv.of u1 hu (Ct.of (by decide +kernel) rfl (Nat.le_of_ble_eq_true rfl) rfl (E_X4_doubleOfFloat H))
theorem dX5_init_0 : decode cX5_init 0 = .ok (.aload_n 0, 1) := by decide +kernel
theorem dX5_init_1 : decode cX5_init 1 = .ok (.invokespecial 1, 3) := by decide +kernel
theorem dX5_init_4 : decode cX5_init 4 = .ok (.aload_n 0, 1) := by decide +kernel
theorem dX5_init_5 : decode cX5_init 5 = .ok (.iload_n 1, 1) := by decide +kernel
theorem dX5_init_6 : decode cX5_init 6 = .ok (.putfield 7, 3) := by decide +kernel
theorem dX5_init_9 : decode cX5_init 9 = .ok (.aload_n 0, 1) := by decide +kernel
theorem dX5_init_10 : decode cX5_init 10 = .ok (.iload_n 2, 1) := by decide +kernel
theorem dX5_init_11 : decode cX5_init 11 = .ok (.putfield 13, 3) := by decide +kernel
theorem dX5_init_14 : decode cX5_init 14 = .ok (.aload_n 0, 1) := by decide +kernel
theorem dX5_init_15 : decode cX5_init 15 = .ok (.aload_n 3, 1) := by decide +kernel
theorem dX5_init_16 : decode cX5_init 16 = .ok (.putfield 16, 3) := by decide +kernel
theorem dX5_init_19 : decode cX5_init 19 = .ok (.aload_n 0, 1) := by decide +kernel
theorem dX5_init_20 : decode cX5_init 20 = .ok (.iload 4, 2) := by decide +kernel
theorem dX5_init_22 : decode cX5_init 22 = .ok (.putfield 20, 3) := by decide +kernel
theorem dX5_init_25 : decode cX5_init 25 = .ok (.return_, 1) := by decide +kernel
def F_X5_init (d : Nat) (v0 : Option Nm) (v1 : Int32) (v2 : Int32) (v3 : Option Nm) (v4 : Int32) (h : MH) (u : Nat) (Q : MH → Prop) : Prop :=
  nn v0 <|
  pV h v0 4 0 (jI v1) fun h =>
  pV h v0 4 1 (jI v2) fun h =>
  pV h v0 4 2 (jR v3) fun h =>
  nz v4 ∧
  pV h v0 4 3 (jI v4) fun h =>
  Q h
set_option maxRecDepth 20000 in
theorem E_X5_init {d : Nat} {v0 : Option Nm} {v1 : Int32} {v2 : Int32} {v3 : Option Nm} {v4 : Int32} {h : MH} {u : Nat} {Q : MH → Prop} (H : F_X5_init d v0 v1 v2 v3 v4 h u Q) : T u_X5_init (d + 1) 0 [some (jR v0), some (jI v1), some (jI v2), some (jR v3), some (jI v4)] [] h u (qV Q) := by
  unfold F_X5_init at H
  refine T_aload_n (pc := 0) dX5_init_0 rfl rfl ?_
  obtain ⟨n0, H0, H⟩ := nn_out H
  refine T_objInit (pc := 1) dX5_init_1 c_1_208 c_1_25 c_1_26 H0 (Nat.le_of_ble_eq_true rfl) ?_
  refine T_aload_n (pc := 4) dX5_init_4 rfl rfl ?_
  refine T_iload_n (pc := 5) dX5_init_5 rfl rfl ?_
  refine T_pVF (pc := 6) fa_X5_7 rfl rfl dX5_init_6 trivial (pV_mono (fun h H => ?_) H)
  refine T_aload_n (pc := 9) dX5_init_9 rfl rfl ?_
  refine T_iload_n (pc := 10) dX5_init_10 rfl rfl ?_
  refine T_pVF (pc := 11) fa_X5_13 rfl rfl dX5_init_11 trivial (pV_mono (fun h H => ?_) H)
  refine T_aload_n (pc := 14) dX5_init_14 rfl rfl ?_
  refine T_aload_n (pc := 15) dX5_init_15 rfl rfl ?_
  refine T_pVF (pc := 16) fa_X5_16 rfl rfl dX5_init_16 trivial (pV_mono (fun h H => ?_) H)
  refine T_aload_n (pc := 19) dX5_init_19 rfl rfl ?_
  refine T_iload (pc := 20) dX5_init_20 rfl ?_
  obtain ⟨H0, H⟩ := H
  refine T_pVF (pc := 22) fa_X5_20 rfl rfl dX5_init_22 H0 (pV_mono (fun h H => ?_) H)
  exact T_return (pc := 25) rfl dX5_init_25 H
theorem I_X5_init {d : Nat} {v0 : Option Nm} {v1 : Int32} {v2 : Int32} {v3 : Option Nm} {v4 : Int32} {h : MH} {u : Nat} {K : MH → Nat → Prop} (u1 : Nat) (hu : u1 ≤ u) (H : F_X5_init d v0 v1 v2 v3 v4 h u1 (fun h2 => K h2 (u - u1))) : iV (d + 1) u_X5_init [jR v0, jI v1, jI v2, jR v3, jI v4] h u K := inv.of u1 hu (Ct.of (by decide +kernel) rfl (Nat.le_of_ble_eq_true rfl) rfl (E_X5_init H))
theorem dX5_hasCell_0 : decode cX5_hasCell 0 = .ok (.iload_n 1, 1) := by decide +kernel
theorem dX5_hasCell_1 : decode cX5_hasCell 1 = .ok (.ifCond .lt 16, 3) := by decide +kernel
theorem dX5_hasCell_4 : decode cX5_hasCell 4 = .ok (.iload_n 1, 1) := by decide +kernel
theorem dX5_hasCell_5 : decode cX5_hasCell 5 = .ok (.aload_n 0, 1) := by decide +kernel
theorem dX5_hasCell_6 : decode cX5_hasCell 6 = .ok (.getfield 16, 3) := by decide +kernel
theorem dX5_hasCell_9 : decode cX5_hasCell 9 = .ok (.arraylength, 1) := by decide +kernel
theorem dX5_hasCell_10 : decode cX5_hasCell 10 = .ok (.if_icmp .ge 7, 3) := by decide +kernel
theorem dX5_hasCell_13 : decode cX5_hasCell 13 = .ok (.iconst 1, 1) := by decide +kernel
theorem dX5_hasCell_14 : decode cX5_hasCell 14 = .ok (.goto 4, 3) := by decide +kernel
theorem dX5_hasCell_17 : decode cX5_hasCell 17 = .ok (.iconst 0, 1) := by decide +kernel
theorem dX5_hasCell_18 : decode cX5_hasCell 18 = .ok (.ireturn, 1) := by decide +kernel
def F_X5_hasCell (d : Nat) (v0 : Option Nm) (v1 : Int32) (h : MH) (u : Nat) (Q : Int32 → MH → Prop) : Prop :=
  if v1 < 0 then
    nz 0 ∧ Q 0 h
  else
    gR h v0 4 2 fun x1 =>
    aN h x1 fun x2 =>
    if x2 ≤ v1 then
      nz 0 ∧ Q 0 h
    else
      nz 1 ∧ Q 1 h
set_option maxRecDepth 20000 in
theorem E_X5_hasCell {d : Nat} {v0 : Option Nm} {v1 : Int32} {h : MH} {u : Nat} {Q : Int32 → MH → Prop} (H : F_X5_hasCell d v0 v1 h u Q) : T u_X5_hasCell d 0 [some (jR v0), some (jI v1)] [] h u (qI Q) := by
  unfold F_X5_hasCell at H
  refine T_iload_n (pc := 0) dX5_hasCell_0 rfl rfl ?_
  refine T_if_lt (pc := 1) (tgt := 17) dX5_hasCell_1 (by decide) (fun hc => ?_) (fun hc => ?_)
  · rw [if_pos hc] at H
    refine T_iconst (pc := 17) (v := 0) dX5_hasCell_17 (by decide) ?_
    exact T_ireturn (pc := 18) rfl (nz_nar H.1) dX5_hasCell_18 H.2
  · rw [if_neg hc] at H
    refine T_iload_n (pc := 4) dX5_hasCell_4 rfl rfl ?_
    refine T_aload_n (pc := 5) dX5_hasCell_5 rfl rfl ?_
    refine T_gR (pc := 6) fa_X5_16 dX5_hasCell_6 (gR_mono (fun x1 H => ?_) H)
    refine T_aN (pc := 9) dX5_hasCell_9 (aN_mono (fun x2 H => ?_) H)
    refine T_icmp_ge (pc := 10) (tgt := 17) dX5_hasCell_10 (by decide) (fun hc => ?_) (fun hc => ?_)
    · rw [if_pos hc] at H
      refine T_iconst (pc := 17) (v := 0) dX5_hasCell_17 (by decide) ?_
      exact T_ireturn (pc := 18) rfl (nz_nar H.1) dX5_hasCell_18 H.2
    · rw [if_neg hc] at H
      refine T_iconst (pc := 13) (v := 1) dX5_hasCell_13 (by decide) ?_
      refine T_goto (pc := 14) (tgt := 18) dX5_hasCell_14 (by decide) ?_
      exact T_ireturn (pc := 18) rfl (nz_nar H.1) dX5_hasCell_18 H.2
theorem I_X5_hasCell {d : Nat} {v0 : Option Nm} {v1 : Int32} {h : MH} {u : Nat} {K : Int32 → MH → Nat → Prop} (u1 : Nat) (hu : u1 ≤ u) (H : F_X5_hasCell d v0 v1 h u1 (fun x h2 => K x h2 (u - u1))) : iI d u_X5_hasCell [jR v0, jI v1] h u K := inv.of u1 hu (Ct.of (by decide +kernel) rfl (Nat.le_of_ble_eq_true rfl) rfl (E_X5_hasCell H))
theorem dX5_hasRun_0 : decode cX5_hasRun 0 = .ok (.iload_n 1, 1) := by decide +kernel
theorem dX5_hasRun_1 : decode cX5_hasRun 1 = .ok (.ifCond .lt 31, 3) := by decide +kernel
theorem dX5_hasRun_4 : decode cX5_hasRun 4 = .ok (.iload_n 2, 1) := by decide +kernel
theorem dX5_hasRun_5 : decode cX5_hasRun 5 = .ok (.ifCond .lt 27, 3) := by decide +kernel
theorem dX5_hasRun_8 : decode cX5_hasRun 8 = .ok (.iload_n 1, 1) := by decide +kernel
theorem dX5_hasRun_9 : decode cX5_hasRun 9 = .ok (.aload_n 0, 1) := by decide +kernel
theorem dX5_hasRun_10 : decode cX5_hasRun 10 = .ok (.getfield 16, 3) := by decide +kernel
theorem dX5_hasRun_13 : decode cX5_hasRun 13 = .ok (.arraylength, 1) := by decide +kernel
theorem dX5_hasRun_14 : decode cX5_hasRun 14 = .ok (.if_icmp .gt 18, 3) := by decide +kernel
theorem dX5_hasRun_17 : decode cX5_hasRun 17 = .ok (.iload_n 2, 1) := by decide +kernel
theorem dX5_hasRun_18 : decode cX5_hasRun 18 = .ok (.aload_n 0, 1) := by decide +kernel
theorem dX5_hasRun_19 : decode cX5_hasRun 19 = .ok (.getfield 16, 3) := by decide +kernel
theorem dX5_hasRun_22 : decode cX5_hasRun 22 = .ok (.arraylength, 1) := by decide +kernel
theorem dX5_hasRun_23 : decode cX5_hasRun 23 = .ok (.iload_n 1, 1) := by decide +kernel
theorem dX5_hasRun_24 : decode cX5_hasRun 24 = .ok (.isub, 1) := by decide +kernel
theorem dX5_hasRun_25 : decode cX5_hasRun 25 = .ok (.if_icmp .gt 7, 3) := by decide +kernel
theorem dX5_hasRun_28 : decode cX5_hasRun 28 = .ok (.iconst 1, 1) := by decide +kernel
theorem dX5_hasRun_29 : decode cX5_hasRun 29 = .ok (.goto 4, 3) := by decide +kernel
theorem dX5_hasRun_32 : decode cX5_hasRun 32 = .ok (.iconst 0, 1) := by decide +kernel
theorem dX5_hasRun_33 : decode cX5_hasRun 33 = .ok (.ireturn, 1) := by decide +kernel
def F_X5_hasRun (d : Nat) (v0 : Option Nm) (v1 : Int32) (v2 : Int32) (h : MH) (u : Nat) (Q : Int32 → MH → Prop) : Prop :=
  if v1 < 0 then
    nz 0 ∧ Q 0 h
  else
    if v2 < 0 then
      nz 0 ∧ Q 0 h
    else
      gR h v0 4 2 fun x1 =>
      aN h x1 fun x2 =>
      if x2 < v1 then
        nz 0 ∧ Q 0 h
      else
        gR h v0 4 2 fun x3 =>
        aN h x3 fun x4 =>
        if (x4 - v1) < v2 then
          nz 0 ∧ Q 0 h
        else
          nz 1 ∧ Q 1 h
set_option maxRecDepth 20000 in
theorem E_X5_hasRun {d : Nat} {v0 : Option Nm} {v1 : Int32} {v2 : Int32} {h : MH} {u : Nat} {Q : Int32 → MH → Prop} (H : F_X5_hasRun d v0 v1 v2 h u Q) : T u_X5_hasRun d 0 [some (jR v0), some (jI v1), some (jI v2)] [] h u (qI Q) := by
  unfold F_X5_hasRun at H
  refine T_iload_n (pc := 0) dX5_hasRun_0 rfl rfl ?_
  refine T_if_lt (pc := 1) (tgt := 32) dX5_hasRun_1 (by decide) (fun hc => ?_) (fun hc => ?_)
  · rw [if_pos hc] at H
    refine T_iconst (pc := 32) (v := 0) dX5_hasRun_32 (by decide) ?_
    exact T_ireturn (pc := 33) rfl (nz_nar H.1) dX5_hasRun_33 H.2
  · rw [if_neg hc] at H
    refine T_iload_n (pc := 4) dX5_hasRun_4 rfl rfl ?_
    refine T_if_lt (pc := 5) (tgt := 32) dX5_hasRun_5 (by decide) (fun hc => ?_) (fun hc => ?_)
    · rw [if_pos hc] at H
      refine T_iconst (pc := 32) (v := 0) dX5_hasRun_32 (by decide) ?_
      exact T_ireturn (pc := 33) rfl (nz_nar H.1) dX5_hasRun_33 H.2
    · rw [if_neg hc] at H
      refine T_iload_n (pc := 8) dX5_hasRun_8 rfl rfl ?_
      refine T_aload_n (pc := 9) dX5_hasRun_9 rfl rfl ?_
      refine T_gR (pc := 10) fa_X5_16 dX5_hasRun_10 (gR_mono (fun x1 H => ?_) H)
      refine T_aN (pc := 13) dX5_hasRun_13 (aN_mono (fun x2 H => ?_) H)
      refine T_icmp_gt (pc := 14) (tgt := 32) dX5_hasRun_14 (by decide) (fun hc => ?_) (fun hc => ?_)
      · rw [if_pos hc] at H
        refine T_iconst (pc := 32) (v := 0) dX5_hasRun_32 (by decide) ?_
        exact T_ireturn (pc := 33) rfl (nz_nar H.1) dX5_hasRun_33 H.2
      · rw [if_neg hc] at H
        refine T_iload_n (pc := 17) dX5_hasRun_17 rfl rfl ?_
        refine T_aload_n (pc := 18) dX5_hasRun_18 rfl rfl ?_
        refine T_gR (pc := 19) fa_X5_16 dX5_hasRun_19 (gR_mono (fun x3 H => ?_) H)
        refine T_aN (pc := 22) dX5_hasRun_22 (aN_mono (fun x4 H => ?_) H)
        refine T_iload_n (pc := 23) dX5_hasRun_23 rfl rfl ?_
        refine T_isub (pc := 24) dX5_hasRun_24 ?_
        refine T_icmp_gt (pc := 25) (tgt := 32) dX5_hasRun_25 (by decide) (fun hc => ?_) (fun hc => ?_)
        · rw [if_pos hc] at H
          refine T_iconst (pc := 32) (v := 0) dX5_hasRun_32 (by decide) ?_
          exact T_ireturn (pc := 33) rfl (nz_nar H.1) dX5_hasRun_33 H.2
        · rw [if_neg hc] at H
          refine T_iconst (pc := 28) (v := 1) dX5_hasRun_28 (by decide) ?_
          refine T_goto (pc := 29) (tgt := 33) dX5_hasRun_29 (by decide) ?_
          exact T_ireturn (pc := 33) rfl (nz_nar H.1) dX5_hasRun_33 H.2
theorem I_X5_hasRun {d : Nat} {v0 : Option Nm} {v1 : Int32} {v2 : Int32} {h : MH} {u : Nat} {K : Int32 → MH → Nat → Prop} (u1 : Nat) (hu : u1 ≤ u) (H : F_X5_hasRun d v0 v1 v2 h u1 (fun x h2 => K x h2 (u - u1))) : iI d u_X5_hasRun [jR v0, jI v1, jI v2] h u K := inv.of u1 hu (Ct.of (by decide +kernel) rfl (Nat.le_of_ble_eq_true rfl) rfl (E_X5_hasRun H))
theorem dX8_init_0 : decode cX8_init 0 = .ok (.aload_n 0, 1) := by decide +kernel
theorem dX8_init_1 : decode cX8_init 1 = .ok (.invokespecial 3, 3) := by decide +kernel
theorem dX8_init_4 : decode cX8_init 4 = .ok (.aload_n 0, 1) := by decide +kernel
theorem dX8_init_5 : decode cX8_init 5 = .ok (.sipush 4000, 3) := by decide +kernel
theorem dX8_init_8 : decode cX8_init 8 = .ok (.newarray .byte, 2) := by decide +kernel
theorem dX8_init_10 : decode cX8_init 10 = .ok (.putfield 9, 3) := by decide +kernel
theorem dX8_init_13 : decode cX8_init 13 = .ok (.aload_n 0, 1) := by decide +kernel
theorem dX8_init_14 : decode cX8_init 14 = .ok (.bipush 20, 2) := by decide +kernel
theorem dX8_init_16 : decode cX8_init 16 = .ok (.newarray .char, 2) := by decide +kernel
theorem dX8_init_18 : decode cX8_init 18 = .ok (.putfield 15, 3) := by decide +kernel
theorem dX8_init_21 : decode cX8_init 21 = .ok (.return_, 1) := by decide +kernel
def F_X8_init (d : Nat) (v0 : Option Nm) (h : MH) (u : Nat) (Q : MH → Prop) : Prop :=
  nn v0 <|
  nA .byte h u 4000 fun x1 h u =>
  pV h v0 7 0 (jR (some x1)) fun h =>
  nA .char h u 20 fun x2 h u =>
  pV h v0 7 1 (jR (some x2)) fun h =>
  Q h
set_option maxRecDepth 20000 in
theorem E_X8_init {d : Nat} {v0 : Option Nm} {h : MH} {u : Nat} {Q : MH → Prop} (H : F_X8_init d v0 h u Q) : T u_X8_init (d + 1) 0 [some (jR v0)] [] h u (qV Q) := by
  unfold F_X8_init at H
  refine T_aload_n (pc := 0) dX8_init_0 rfl rfl ?_
  obtain ⟨n0, H0, H⟩ := nn_out H
  refine T_objInit (pc := 1) dX8_init_1 c_1_109 c_1_25 c_1_26 H0 (Nat.le_of_ble_eq_true rfl) ?_
  refine T_aload_n (pc := 4) dX8_init_4 rfl rfl ?_
  refine T_sipush (pc := 5) (v := 4000) dX8_init_5 (by decide) ?_
  refine T_nA (pc := 8) dX8_init_8 rfl (by decide) c_1_126 (nA_mono (fun x1 h u H => ?_) H)
  refine T_pVF (pc := 10) fa_X8_9 rfl rfl dX8_init_10 trivial (pV_mono (fun h H => ?_) H)
  refine T_aload_n (pc := 13) dX8_init_13 rfl rfl ?_
  refine T_bipush (pc := 14) (v := 20) dX8_init_14 (by decide) ?_
  refine T_nA (pc := 16) dX8_init_16 rfl (by decide) c_1_127 (nA_mono (fun x2 h u H => ?_) H)
  refine T_pVF (pc := 18) fa_X8_15 rfl rfl dX8_init_18 trivial (pV_mono (fun h H => ?_) H)
  exact T_return (pc := 21) rfl dX8_init_21 H
theorem I_X8_init {d : Nat} {v0 : Option Nm} {h : MH} {u : Nat} {K : MH → Nat → Prop} (u1 : Nat) (hu : u1 ≤ u) (H : F_X8_init d v0 h u1 (fun h2 => K h2 (u - u1))) : iV (d + 1) u_X8_init [jR v0] h u K := inv.of u1 hu (Ct.of (by decide +kernel) rfl (Nat.le_of_ble_eq_true rfl) rfl (E_X8_init H))
theorem dX8_clear_0 : decode cX8_clear 0 = .ok (.aload_n 0, 1) := by decide +kernel
theorem dX8_clear_1 : decode cX8_clear 1 = .ok (.iconst 0, 1) := by decide +kernel
theorem dX8_clear_2 : decode cX8_clear 2 = .ok (.putfield 19, 3) := by decide +kernel
theorem dX8_clear_5 : decode cX8_clear 5 = .ok (.aload_n 0, 1) := by decide +kernel
theorem dX8_clear_6 : decode cX8_clear 6 = .ok (.iconst 0, 1) := by decide +kernel
theorem dX8_clear_7 : decode cX8_clear 7 = .ok (.putfield 23, 3) := by decide +kernel
theorem dX8_clear_10 : decode cX8_clear 10 = .ok (.return_, 1) := by decide +kernel
def F_X8_clear (d : Nat) (v0 : Option Nm) (h : MH) (u : Nat) (Q : MH → Prop) : Prop :=
  pV h v0 7 2 (jI 0) fun h =>
  nz 0 ∧
  pV h v0 7 3 (jI 0) fun h =>
  Q h
set_option maxRecDepth 20000 in
theorem E_X8_clear {d : Nat} {v0 : Option Nm} {h : MH} {u : Nat} {Q : MH → Prop} (H : F_X8_clear d v0 h u Q) : T u_X8_clear d 0 [some (jR v0)] [] h u (qV Q) := by
  unfold F_X8_clear at H
  refine T_aload_n (pc := 0) dX8_clear_0 rfl rfl ?_
  refine T_iconst (pc := 1) (v := 0) dX8_clear_1 (by decide) ?_
  refine T_pV (pc := 2) fa_X8_19 dX8_clear_2 trivial (pV_mono (fun h H => ?_) H)
  refine T_aload_n (pc := 5) dX8_clear_5 rfl rfl ?_
  refine T_iconst (pc := 6) (v := 0) dX8_clear_6 (by decide) ?_
  obtain ⟨H0, H⟩ := H
  refine T_pV (pc := 7) fa_X8_23 dX8_clear_7 H0 (pV_mono (fun h H => ?_) H)
  exact T_return (pc := 10) rfl dX8_clear_10 H
theorem I_X8_clear {d : Nat} {v0 : Option Nm} {h : MH} {u : Nat} {K : MH → Nat → Prop} (u1 : Nat) (hu : u1 ≤ u) (H : F_X8_clear d v0 h u1 (fun h2 => K h2 (u - u1))) : iV d u_X8_clear [jR v0] h u K := inv.of u1 hu (Ct.of (by decide +kernel) rfl (Nat.le_of_ble_eq_true rfl) rfl (E_X8_clear H))
theorem dX8_addSign_0 : decode cX8_addSign 0 = .ok (.aload_n 0, 1) := by decide +kernel
theorem dX8_addSign_1 : decode cX8_addSign 1 = .ok (.getfield 19, 3) := by decide +kernel
theorem dX8_addSign_4 : decode cX8_addSign 4 = .ok (.sipush 4000, 3) := by decide +kernel
theorem dX8_addSign_7 : decode cX8_addSign 7 = .ok (.if_icmp .ge 27, 3) := by decide +kernel
theorem dX8_addSign_10 : decode cX8_addSign 10 = .ok (.aload_n 0, 1) := by decide +kernel
theorem dX8_addSign_11 : decode cX8_addSign 11 = .ok (.getfield 9, 3) := by decide +kernel
theorem dX8_addSign_14 : decode cX8_addSign 14 = .ok (.aload_n 0, 1) := by decide +kernel
theorem dX8_addSign_15 : decode cX8_addSign 15 = .ok (.getfield 19, 3) := by decide +kernel
theorem dX8_addSign_18 : decode cX8_addSign 18 = .ok (.iload_n 1, 1) := by decide +kernel
theorem dX8_addSign_19 : decode cX8_addSign 19 = .ok (.i2b, 1) := by decide +kernel
theorem dX8_addSign_20 : decode cX8_addSign 20 = .ok (.bastore, 1) := by decide +kernel
theorem dX8_addSign_21 : decode cX8_addSign 21 = .ok (.aload_n 0, 1) := by decide +kernel
theorem dX8_addSign_22 : decode cX8_addSign 22 = .ok (.dup, 1) := by decide +kernel
theorem dX8_addSign_23 : decode cX8_addSign 23 = .ok (.getfield 19, 3) := by decide +kernel
theorem dX8_addSign_26 : decode cX8_addSign 26 = .ok (.iconst 1, 1) := by decide +kernel
theorem dX8_addSign_27 : decode cX8_addSign 27 = .ok (.iadd, 1) := by decide +kernel
theorem dX8_addSign_28 : decode cX8_addSign 28 = .ok (.putfield 19, 3) := by decide +kernel
theorem dX8_addSign_31 : decode cX8_addSign 31 = .ok (.goto 8, 3) := by decide +kernel
theorem dX8_addSign_34 : decode cX8_addSign 34 = .ok (.aload_n 0, 1) := by decide +kernel
theorem dX8_addSign_35 : decode cX8_addSign 35 = .ok (.iconst 1, 1) := by decide +kernel
theorem dX8_addSign_36 : decode cX8_addSign 36 = .ok (.putfield 23, 3) := by decide +kernel
theorem dX8_addSign_39 : decode cX8_addSign 39 = .ok (.return_, 1) := by decide +kernel
def F_X8_addSign (d : Nat) (v0 : Option Nm) (v1 : Int32) (h : MH) (u : Nat) (Q : MH → Prop) : Prop :=
  gI h v0 7 2 fun x1 =>
  if 4000 ≤ x1 then
    nz 1 ∧
    pV h v0 7 3 (jI 1) fun h =>
    Q h
  else
    gR h v0 7 0 fun x2 =>
    gI h v0 7 2 fun x3 =>
    sV .byte h x2 x3 (jI (v1.toInt8.toInt32).toInt8.toInt32) fun h =>
    gI h v0 7 2 fun x4 =>
    pV h v0 7 2 (jI (x4 + 1)) fun h =>
    Q h
set_option maxRecDepth 20000 in
theorem E_X8_addSign {d : Nat} {v0 : Option Nm} {v1 : Int32} {h : MH} {u : Nat} {Q : MH → Prop} (H : F_X8_addSign d v0 v1 h u Q) : T u_X8_addSign d 0 [some (jR v0), some (jI v1)] [] h u (qV Q) := by
  unfold F_X8_addSign at H
  refine T_aload_n (pc := 0) dX8_addSign_0 rfl rfl ?_
  refine T_gI (pc := 1) fa_X8_19 dX8_addSign_1 (gI_mono (fun x1 H => ?_) H)
  refine T_sipush (pc := 4) (v := 4000) dX8_addSign_4 (by decide) ?_
  refine T_icmp_ge (pc := 7) (tgt := 34) dX8_addSign_7 (by decide) (fun hc => ?_) (fun hc => ?_)
  · rw [if_pos hc] at H
    refine T_aload_n (pc := 34) dX8_addSign_34 rfl rfl ?_
    refine T_iconst (pc := 35) (v := 1) dX8_addSign_35 (by decide) ?_
    obtain ⟨H0, H⟩ := H
    refine T_pV (pc := 36) fa_X8_23 dX8_addSign_36 H0 (pV_mono (fun h H => ?_) H)
    exact T_return (pc := 39) rfl dX8_addSign_39 H
  · rw [if_neg hc] at H
    refine T_aload_n (pc := 10) dX8_addSign_10 rfl rfl ?_
    refine T_gR (pc := 11) fa_X8_9 dX8_addSign_11 (gR_mono (fun x2 H => ?_) H)
    refine T_aload_n (pc := 14) dX8_addSign_14 rfl rfl ?_
    refine T_gI (pc := 15) fa_X8_19 dX8_addSign_15 (gI_mono (fun x3 H => ?_) H)
    refine T_iload_n (pc := 18) dX8_addSign_18 rfl rfl ?_
    refine T_i2b (pc := 19) dX8_addSign_19 ?_
    refine T_sB (pc := 20) dX8_addSign_20 (sV_mono (fun h H => ?_) H)
    refine T_aload_n (pc := 21) dX8_addSign_21 rfl rfl ?_
    refine T_dup (pc := 22) rfl dX8_addSign_22 ?_
    refine T_gI (pc := 23) fa_X8_19 dX8_addSign_23 (gI_mono (fun x4 H => ?_) H)
    refine T_iconst (pc := 26) (v := 1) dX8_addSign_26 (by decide) ?_
    refine T_iadd (pc := 27) dX8_addSign_27 ?_
    refine T_pV (pc := 28) fa_X8_19 dX8_addSign_28 trivial (pV_mono (fun h H => ?_) H)
    refine T_goto (pc := 31) (tgt := 39) dX8_addSign_31 (by decide) ?_
    exact T_return (pc := 39) rfl dX8_addSign_39 H
theorem I_X8_addSign {d : Nat} {v0 : Option Nm} {v1 : Int32} {h : MH} {u : Nat} {K : MH → Nat → Prop} (u1 : Nat) (hu : u1 ≤ u) (H : F_X8_addSign d v0 v1 h u1 (fun h2 => K h2 (u - u1))) : iV d u_X8_addSign [jR v0, jI v1] h u K := inv.of u1 hu (Ct.of (by decide +kernel) rfl (Nat.le_of_ble_eq_true rfl) rfl (E_X8_addSign H))
theorem dX8_addNumber_0 : decode cX8_addNumber 0 = .ok (.lload_n 1, 1) := by decide +kernel
theorem dX8_addNumber_1 : decode cX8_addNumber 1 = .ok (.lconst 0, 1) := by decide +kernel
theorem dX8_addNumber_2 : decode cX8_addNumber 2 = .ok (.lcmp, 1) := by decide +kernel
theorem dX8_addNumber_3 : decode cX8_addNumber 3 = .ok (.ifCond .ge 9, 3) := by decide +kernel
theorem dX8_addNumber_6 : decode cX8_addNumber 6 = .ok (.aload_n 0, 1) := by decide +kernel
theorem dX8_addNumber_7 : decode cX8_addNumber 7 = .ok (.bipush 45, 2) := by decide +kernel
theorem dX8_addNumber_9 : decode cX8_addNumber 9 = .ok (.invokevirtual 27, 3) := by decide +kernel
theorem dX8_addNumber_12 : decode cX8_addNumber 12 = .ok (.lload_n 1, 1) := by decide +kernel
theorem dX8_addNumber_13 : decode cX8_addNumber 13 = .ok (.lconst 0, 1) := by decide +kernel
theorem dX8_addNumber_14 : decode cX8_addNumber 14 = .ok (.lcmp, 1) := by decide +kernel
theorem dX8_addNumber_15 : decode cX8_addNumber 15 = .ok (.ifCond .ge 7, 3) := by decide +kernel
theorem dX8_addNumber_18 : decode cX8_addNumber 18 = .ok (.lload_n 1, 1) := by decide +kernel
theorem dX8_addNumber_19 : decode cX8_addNumber 19 = .ok (.goto 5, 3) := by decide +kernel
theorem dX8_addNumber_22 : decode cX8_addNumber 22 = .ok (.lload_n 1, 1) := by decide +kernel
theorem dX8_addNumber_23 : decode cX8_addNumber 23 = .ok (.lneg, 1) := by decide +kernel
theorem dX8_addNumber_24 : decode cX8_addNumber 24 = .ok (.lstore_n 3, 1) := by decide +kernel
theorem dX8_addNumber_25 : decode cX8_addNumber 25 = .ok (.iconst 0, 1) := by decide +kernel
theorem dX8_addNumber_26 : decode cX8_addNumber 26 = .ok (.istore 5, 2) := by decide +kernel
theorem dX8_addNumber_28 : decode cX8_addNumber 28 = .ok (.aload_n 0, 1) := by decide +kernel
theorem dX8_addNumber_29 : decode cX8_addNumber 29 = .ok (.getfield 15, 3) := by decide +kernel
theorem dX8_addNumber_32 : decode cX8_addNumber 32 = .ok (.iload 5, 2) := by decide +kernel
theorem dX8_addNumber_34 : decode cX8_addNumber 34 = .ok (.ldc2_w 31, 3) := by decide +kernel
theorem dX8_addNumber_37 : decode cX8_addNumber 37 = .ok (.lload_n 3, 1) := by decide +kernel
theorem dX8_addNumber_38 : decode cX8_addNumber 38 = .ok (.ldc2_w 33, 3) := by decide +kernel
theorem dX8_addNumber_41 : decode cX8_addNumber 41 = .ok (.lrem, 1) := by decide +kernel
theorem dX8_addNumber_42 : decode cX8_addNumber 42 = .ok (.lsub, 1) := by decide +kernel
theorem dX8_addNumber_43 : decode cX8_addNumber 43 = .ok (.l2i, 1) := by decide +kernel
theorem dX8_addNumber_44 : decode cX8_addNumber 44 = .ok (.i2c, 1) := by decide +kernel
theorem dX8_addNumber_45 : decode cX8_addNumber 45 = .ok (.castore, 1) := by decide +kernel
theorem dX8_addNumber_46 : decode cX8_addNumber 46 = .ok (.lload_n 3, 1) := by decide +kernel
theorem dX8_addNumber_47 : decode cX8_addNumber 47 = .ok (.ldc2_w 33, 3) := by decide +kernel
theorem dX8_addNumber_50 : decode cX8_addNumber 50 = .ok (.ldiv, 1) := by decide +kernel
theorem dX8_addNumber_51 : decode cX8_addNumber 51 = .ok (.lstore_n 3, 1) := by decide +kernel
theorem dX8_addNumber_52 : decode cX8_addNumber 52 = .ok (.iinc 5 1, 3) := by decide +kernel
theorem dX8_addNumber_55 : decode cX8_addNumber 55 = .ok (.lload_n 3, 1) := by decide +kernel
theorem dX8_addNumber_56 : decode cX8_addNumber 56 = .ok (.lconst 0, 1) := by decide +kernel
theorem dX8_addNumber_57 : decode cX8_addNumber 57 = .ok (.lcmp, 1) := by decide +kernel
theorem dX8_addNumber_58 : decode cX8_addNumber 58 = .ok (.ifCond .eq 10, 3) := by decide +kernel
theorem dX8_addNumber_61 : decode cX8_addNumber 61 = .ok (.iload 5, 2) := by decide +kernel
theorem dX8_addNumber_63 : decode cX8_addNumber 63 = .ok (.bipush 20, 2) := by decide +kernel
theorem dX8_addNumber_65 : decode cX8_addNumber 65 = .ok (.if_icmp .lt (-37), 3) := by decide +kernel
theorem dX8_addNumber_68 : decode cX8_addNumber 68 = .ok (.iload 5, 2) := by decide +kernel
theorem dX8_addNumber_70 : decode cX8_addNumber 70 = .ok (.iconst 1, 1) := by decide +kernel
theorem dX8_addNumber_71 : decode cX8_addNumber 71 = .ok (.isub, 1) := by decide +kernel
theorem dX8_addNumber_72 : decode cX8_addNumber 72 = .ok (.istore 6, 2) := by decide +kernel
theorem dX8_addNumber_74 : decode cX8_addNumber 74 = .ok (.iload 6, 2) := by decide +kernel
theorem dX8_addNumber_76 : decode cX8_addNumber 76 = .ok (.ifCond .lt 20, 3) := by decide +kernel
theorem dX8_addNumber_79 : decode cX8_addNumber 79 = .ok (.aload_n 0, 1) := by decide +kernel
theorem dX8_addNumber_80 : decode cX8_addNumber 80 = .ok (.aload_n 0, 1) := by decide +kernel
theorem dX8_addNumber_81 : decode cX8_addNumber 81 = .ok (.getfield 15, 3) := by decide +kernel
theorem dX8_addNumber_84 : decode cX8_addNumber 84 = .ok (.iload 6, 2) := by decide +kernel
theorem dX8_addNumber_86 : decode cX8_addNumber 86 = .ok (.caload, 1) := by decide +kernel
theorem dX8_addNumber_87 : decode cX8_addNumber 87 = .ok (.invokevirtual 27, 3) := by decide +kernel
theorem dX8_addNumber_90 : decode cX8_addNumber 90 = .ok (.iinc 6 (-1), 3) := by decide +kernel
theorem dX8_addNumber_93 : decode cX8_addNumber 93 = .ok (.goto (-19), 3) := by decide +kernel
theorem dX8_addNumber_96 : decode cX8_addNumber 96 = .ok (.return_, 1) := by decide +kernel
def L_X8_addNumber_28 (d : Nat) (v0 : Option Nm) (v3 : Int64) (v5 : Int32) (h : MH) (u : Nat) (Q : MH → Prop) : Prop := T u_X8_addNumber (d + 1) 28 [some (jR v0), none, none, some (jL v3), none, some (jI v5), none] [] h u (qV Q)
def L_X8_addNumber_74 (d : Nat) (v0 : Option Nm) (v6 : Int32) (h : MH) (u : Nat) (Q : MH → Prop) : Prop := T u_X8_addNumber (d + 1) 74 [some (jR v0), none, none, none, none, none, some (jI v6)] [] h u (qV Q)
def F_X8_addNumber_12 (d : Nat) (v0 : Option Nm) (v1 : Int64) (h : MH) (u : Nat) (Q : MH → Prop) : Prop :=
  if 0 ≤ (lg_cmp v1 0) then
    L_X8_addNumber_28 d v0 (-v1) 0 h u Q
  else
    L_X8_addNumber_28 d v0 v1 0 h u Q
set_option maxRecDepth 20000 in
theorem E_X8_addNumber_12 {d : Nat} {v0 : Option Nm} {v1 : Int64} {h : MH} {u : Nat} {Q : MH → Prop} (H : F_X8_addNumber_12 d v0 v1 h u Q) : T u_X8_addNumber (d + 1) 12 [some (jR v0), some (jL v1), none, none, none, none, none] [] h u (qV Q) := by
  unfold F_X8_addNumber_12 at H
  refine T_lload_n (pc := 12) dX8_addNumber_12 rfl rfl ?_
  refine T_lconst (pc := 13) (v := 0) dX8_addNumber_13 (by decide) ?_
  refine T_lcmp (pc := 14) dX8_addNumber_14 ?_
  refine T_if_ge (pc := 15) (tgt := 22) dX8_addNumber_15 (by decide) (fun hc => ?_) (fun hc => ?_)
  · rw [if_pos hc] at H
    refine T_lload_n (pc := 22) dX8_addNumber_22 rfl rfl ?_
    refine T_lneg (pc := 23) dX8_addNumber_23 ?_
    refine T_lstore_n (pc := 24) (ls2 := [some (jR v0), some (jL v1), none, some (jL (-v1)), none, none, none]) dX8_addNumber_24 rfl (Nat.le_of_ble_eq_true rfl) rfl ?_
    refine T_iconst (pc := 25) (v := 0) dX8_addNumber_25 (by decide) ?_
    refine T_istore (pc := 26) (ls2 := [some (jR v0), some (jL v1), none, some (jL (-v1)), none, some (jI 0), none]) dX8_addNumber_26 (Nat.le_of_ble_eq_true rfl) rfl ?_
    exact T.forget H ⟨rfl, rfl, rfl, trivial⟩
  · rw [if_neg hc] at H
    refine T_lload_n (pc := 18) dX8_addNumber_18 rfl rfl ?_
    refine T_goto (pc := 19) (tgt := 24) dX8_addNumber_19 (by decide) ?_
    refine T_lstore_n (pc := 24) (ls2 := [some (jR v0), some (jL v1), none, some (jL v1), none, none, none]) dX8_addNumber_24 rfl (Nat.le_of_ble_eq_true rfl) rfl ?_
    refine T_iconst (pc := 25) (v := 0) dX8_addNumber_25 (by decide) ?_
    refine T_istore (pc := 26) (ls2 := [some (jR v0), some (jL v1), none, some (jL v1), none, some (jI 0), none]) dX8_addNumber_26 (Nat.le_of_ble_eq_true rfl) rfl ?_
    exact T.forget H ⟨rfl, rfl, rfl, trivial⟩
def F_X8_addNumber (d : Nat) (v0 : Option Nm) (v1 : Int64) (h : MH) (u : Nat) (Q : MH → Prop) : Prop :=
  if 0 ≤ (lg_cmp v1 0) then
    F_X8_addNumber_12 d v0 v1 h u Q
  else
    rc h v0 7 ∧ iV d u_X8_addSign [jR v0, jI 45] h u fun h u =>
    F_X8_addNumber_12 d v0 v1 h u Q
set_option maxRecDepth 20000 in
theorem E_X8_addNumber {d : Nat} {v0 : Option Nm} {v1 : Int64} {h : MH} {u : Nat} {Q : MH → Prop} (H : F_X8_addNumber d v0 v1 h u Q) : T u_X8_addNumber (d + 1) 0 [some (jR v0), some (jL v1), none, none, none, none, none] [] h u (qV Q) := by
  unfold F_X8_addNumber at H
  refine T_lload_n (pc := 0) dX8_addNumber_0 rfl rfl ?_
  refine T_lconst (pc := 1) (v := 0) dX8_addNumber_1 (by decide) ?_
  refine T_lcmp (pc := 2) dX8_addNumber_2 ?_
  refine T_if_ge (pc := 3) (tgt := 12) dX8_addNumber_3 (by decide) (fun hc => ?_) (fun hc => ?_)
  · rw [if_pos hc] at H
    exact T.forget (E_X8_addNumber_12 H) ⟨rfl, rfl, trivial⟩
  · rw [if_neg hc] at H
    refine T_aload_n (pc := 6) dX8_addNumber_6 rfl rfl ?_
    refine T_bipush (pc := 7) (v := 45) dX8_addNumber_7 (by decide) ?_
    obtain ⟨H0, H⟩ := H
    refine T_iV (pc := 9) (ci := 7) (av := [jI 45]) (rest := []) (o := v0) dX8_addNumber_9 mf_X8_addSign c_4_133 c_4_126 c_4_127 rfl rfl (Nat.le_of_ble_eq_true rfl) rfl H0 (iV_k (iV_mono (fun h u H => ?_) H))
    exact T.forget (E_X8_addNumber_12 H) ⟨rfl, rfl, trivial⟩
def F_X8_addNumber_28 (d : Nat) (v0 : Option Nm) (v3 : Int64) (v5 : Int32) (h : MH) (u : Nat) (Q : MH → Prop) : Prop :=
  gR h v0 7 1 fun x1 =>
  sV .char h x1 v5 (jI (vp_nar .char ((((48 - (v3 - v3 / 10 * 10)).toInt32).toUInt32 % 65536).toInt32))) fun h =>
  if (lg_cmp (v3 / 10) 0) = 0 then
    L_X8_addNumber_74 d v0 ((v5 + 1) - 1) h u Q
  else
    if (v5 + 1) < 20 then
      L_X8_addNumber_28 d v0 (v3 / 10) (v5 + 1) h u Q
    else
      L_X8_addNumber_74 d v0 ((v5 + 1) - 1) h u Q
set_option maxRecDepth 20000 in
theorem E_X8_addNumber_28 {d : Nat} {v0 : Option Nm} {v3 : Int64} {v5 : Int32} {h : MH} {u : Nat} {Q : MH → Prop} (H : F_X8_addNumber_28 d v0 v3 v5 h u Q) : T u_X8_addNumber (d + 1) 28 [some (jR v0), none, none, some (jL v3), none, some (jI v5), none] [] h u (qV Q) := by
  unfold F_X8_addNumber_28 at H
  refine T_aload_n (pc := 28) dX8_addNumber_28 rfl rfl ?_
  refine T_gR (pc := 29) fa_X8_15 dX8_addNumber_29 (gR_mono (fun x1 H => ?_) H)
  refine T_iload (pc := 32) dX8_addNumber_32 rfl ?_
  refine T_ldc2 (pc := 34) (v := 48) dX8_addNumber_34 c_4_134 ?_
  refine T_lload_n (pc := 37) dX8_addNumber_37 rfl rfl ?_
  refine T_ldc2 (pc := 38) (v := 10) dX8_addNumber_38 c_4_135 ?_
  refine T_lrem (pc := 41) dX8_addNumber_41 (by decide) ?_
  refine T_lsub (pc := 42) dX8_addNumber_42 ?_
  refine T_l2i (pc := 43) dX8_addNumber_43 ?_
  refine T_i2c (pc := 44) dX8_addNumber_44 ?_
  refine T_sC (pc := 45) dX8_addNumber_45 (sV_mono (fun h H => ?_) H)
  refine T_lload_n (pc := 46) dX8_addNumber_46 rfl rfl ?_
  refine T_ldc2 (pc := 47) (v := 10) dX8_addNumber_47 c_4_135 ?_
  refine T_ldiv (pc := 50) dX8_addNumber_50 (by decide) ?_
  refine T_lstore_n (pc := 51) (ls2 := [some (jR v0), none, none, some (jL (v3 / 10)), none, some (jI v5), none]) dX8_addNumber_51 rfl (Nat.le_of_ble_eq_true rfl) rfl ?_
  refine T_iinc (pc := 52) (v := v5 + 1) (ls2 := [some (jR v0), none, none, some (jL (v3 / 10)), none, some (jI (v5 + 1)), none]) dX8_addNumber_52 rfl rfl (Nat.le_of_ble_eq_true rfl) rfl ?_
  refine T_lload_n (pc := 55) dX8_addNumber_55 rfl rfl ?_
  refine T_lconst (pc := 56) (v := 0) dX8_addNumber_56 (by decide) ?_
  refine T_lcmp (pc := 57) dX8_addNumber_57 ?_
  refine T_if_eq (pc := 58) (tgt := 68) dX8_addNumber_58 (by decide) (fun hc => ?_) (fun hc => ?_)
  · rw [if_pos hc] at H
    refine T_iload (pc := 68) dX8_addNumber_68 rfl ?_
    refine T_iconst (pc := 70) (v := 1) dX8_addNumber_70 (by decide) ?_
    refine T_isub (pc := 71) dX8_addNumber_71 ?_
    refine T_istore (pc := 72) (ls2 := [some (jR v0), none, none, some (jL (v3 / 10)), none, some (jI (v5 + 1)), some (jI ((v5 + 1) - 1))]) dX8_addNumber_72 (Nat.le_of_ble_eq_true rfl) rfl ?_
    exact T.forget H ⟨rfl, rfl, trivial⟩
  · rw [if_neg hc] at H
    refine T_iload (pc := 61) dX8_addNumber_61 rfl ?_
    refine T_bipush (pc := 63) (v := 20) dX8_addNumber_63 (by decide) ?_
    refine T_icmp_lt (pc := 65) (tgt := 28) dX8_addNumber_65 (by decide) (fun hc => ?_) (fun hc => ?_)
    · rw [if_pos hc] at H
      exact T.forget H ⟨rfl, rfl, rfl, trivial⟩
    · rw [if_neg hc] at H
      refine T_iload (pc := 68) dX8_addNumber_68 rfl ?_
      refine T_iconst (pc := 70) (v := 1) dX8_addNumber_70 (by decide) ?_
      refine T_isub (pc := 71) dX8_addNumber_71 ?_
      refine T_istore (pc := 72) (ls2 := [some (jR v0), none, none, some (jL (v3 / 10)), none, some (jI (v5 + 1)), some (jI ((v5 + 1) - 1))]) dX8_addNumber_72 (Nat.le_of_ble_eq_true rfl) rfl ?_
      exact T.forget H ⟨rfl, rfl, trivial⟩
def F_X8_addNumber_74 (d : Nat) (v0 : Option Nm) (v6 : Int32) (h : MH) (u : Nat) (Q : MH → Prop) : Prop :=
  if v6 < 0 then
    Q h
  else
    gR h v0 7 1 fun x1 =>
    aI .char h x1 v6 fun x2 =>
    rc h v0 7 ∧ iV d u_X8_addSign [jR v0, jI x2] h u fun h u =>
    L_X8_addNumber_74 d v0 (v6 + (-1)) h u Q
set_option maxRecDepth 20000 in
theorem E_X8_addNumber_74 {d : Nat} {v0 : Option Nm} {v6 : Int32} {h : MH} {u : Nat} {Q : MH → Prop} (H : F_X8_addNumber_74 d v0 v6 h u Q) : T u_X8_addNumber (d + 1) 74 [some (jR v0), none, none, none, none, none, some (jI v6)] [] h u (qV Q) := by
  unfold F_X8_addNumber_74 at H
  refine T_iload (pc := 74) dX8_addNumber_74 rfl ?_
  refine T_if_lt (pc := 76) (tgt := 96) dX8_addNumber_76 (by decide) (fun hc => ?_) (fun hc => ?_)
  · rw [if_pos hc] at H
    exact T_return (pc := 96) rfl dX8_addNumber_96 H
  · rw [if_neg hc] at H
    refine T_aload_n (pc := 79) dX8_addNumber_79 rfl rfl ?_
    refine T_aload_n (pc := 80) dX8_addNumber_80 rfl rfl ?_
    refine T_gR (pc := 81) fa_X8_15 dX8_addNumber_81 (gR_mono (fun x1 H => ?_) H)
    refine T_iload (pc := 84) dX8_addNumber_84 rfl ?_
    refine T_aC (pc := 86) dX8_addNumber_86 (aI_mono (fun x2 H => ?_) H)
    obtain ⟨H0, H⟩ := H
    refine T_iV (pc := 87) (ci := 7) (av := [jI x2]) (rest := []) (o := v0) dX8_addNumber_87 mf_X8_addSign c_4_133 c_4_126 c_4_127 rfl rfl (Nat.le_of_ble_eq_true rfl) rfl H0 (iV_k (iV_mono (fun h u H => ?_) H))
    refine T_iinc (pc := 90) (v := v6 + (-1)) (ls2 := [some (jR v0), none, none, none, none, none, some (jI (v6 + (-1)))]) dX8_addNumber_90 rfl rfl (Nat.le_of_ble_eq_true rfl) rfl ?_
    refine T_goto (pc := 93) (tgt := 74) dX8_addNumber_93 (by decide) ?_
    exact T.forget H ⟨rfl, rfl, trivial⟩
theorem I_X8_addNumber {d : Nat} {v0 : Option Nm} {v1 : Int64} {h : MH} {u : Nat} {K : MH → Nat → Prop} (u1 : Nat) (hu : u1 ≤ u) (H : F_X8_addNumber d v0 v1 h u1 (fun h2 => K h2 (u - u1))) : iV (d + 1) u_X8_addNumber [jR v0, jL v1] h u K := inv.of u1 hu (Ct.of (by decide +kernel) rfl (Nat.le_of_ble_eq_true rfl) rfl (E_X8_addNumber H))
