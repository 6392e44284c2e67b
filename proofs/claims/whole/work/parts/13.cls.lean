theorem dX11_isLabel_0 : decode cX11_isLabel 0 = .ok (.iload_n 0, 1) := by decide +kernel
theorem dX11_isLabel_1 : decode cX11_isLabel 1 = .ok (.iconst 1, 1) := by decide +kernel
theorem dX11_isLabel_2 : decode cX11_isLabel 2 = .ok (.bipush 99, 2) := by decide +kernel
theorem dX11_isLabel_4 : decode cX11_isLabel 4 = .ok (.invokestatic 64, 3) := by decide +kernel
theorem dX11_isLabel_7 : decode cX11_isLabel 7 = .ok (.ireturn, 1) := by decide +kernel
def F_X11_isLabel (d : Nat) (v0 : Int32) (h : MH) (u : Nat) (Q : Int32 → MH → Prop) : Prop :=
  F_X11_isWithin d v0 1 99 h 0 fun x1 h =>
  nz x1 ∧ Q x1 h
set_option maxRecDepth 20000 in
theorem E_X11_isLabel {d : Nat} {v0 : Int32} {h : MH} {u : Nat} {Q : Int32 → MH → Prop} (H : F_X11_isLabel d v0 h u Q) : T u_X11_isLabel (d + 1) 0 [some (jI v0)] [] h u (qI Q) := by
  unfold F_X11_isLabel at H
  refine T_iload_n (pc := 0) dX11_isLabel_0 rfl rfl ?_
  refine T_iconst (pc := 1) (v := 1) dX11_isLabel_1 (by decide) ?_
  refine T_bipush (pc := 2) (v := 99) dX11_isLabel_2 (by decide) ?_
  refine T_invS (pc := 4) (av := [jI v0, jI 1, jI 99]) (rest := []) dX11_isLabel_4 mf_X11_isWithin c_1_189 c_1_190 rfl (Nat.le_of_ble_eq_true rfl) rfl (iI_k (iI_m0 (fun x1 h H => ?_) (J_X11_isWithin (d := d) H)))
  exact T_ireturn (pc := 7) rfl (nz_nar H.1) dX11_isLabel_7 H.2
theorem I_X11_isLabel {d : Nat} {v0 : Int32} {h : MH} {u : Nat} {K : Int32 → MH → Nat → Prop} (u1 : Nat) (hu : u1 ≤ u) (H : F_X11_isLabel d v0 h u1 (fun x h2 => K x h2 (u - u1))) : iI (d + 1) u_X11_isLabel [jI v0] h u K := inv.of u1 hu (Ct.of (by decide +kernel) rfl (Nat.le_of_ble_eq_true rfl) rfl (E_X11_isLabel H))
theorem J_X11_isLabel {d : Nat} {v0 : Int32} {h : MH} {u : Nat} {K : Int32 → MH → Prop} (H : F_X11_isLabel d v0 h 0 K) : iI (d + 1) u_X11_isLabel [jI v0] h u (fun x h2 u2 => K x h2 ∧ u2 = u) := jiI (by decide +kernel) rfl (Nat.le_of_ble_eq_true rfl) rfl (E_X11_isLabel H)
theorem dX4_isLane_0 : decode cX4_isLane 0 = .ok (.iload_n 0, 1) := by decide +kernel
theorem dX4_isLane_1 : decode cX4_isLane 1 = .ok (.ifCond .lt 13, 3) := by decide +kernel
theorem dX4_isLane_4 : decode cX4_isLane 4 = .ok (.iload_n 0, 1) := by decide +kernel
theorem dX4_isLane_5 : decode cX4_isLane 5 = .ok (.bipush 9, 2) := by decide +kernel
theorem dX4_isLane_7 : decode cX4_isLane 7 = .ok (.if_icmp .gt 7, 3) := by decide +kernel
theorem dX4_isLane_10 : decode cX4_isLane 10 = .ok (.iconst 1, 1) := by decide +kernel
theorem dX4_isLane_11 : decode cX4_isLane 11 = .ok (.goto 4, 3) := by decide +kernel
theorem dX4_isLane_14 : decode cX4_isLane 14 = .ok (.iconst 0, 1) := by decide +kernel
theorem dX4_isLane_15 : decode cX4_isLane 15 = .ok (.ireturn, 1) := by decide +kernel
def F_X4_isLane (d : Nat) (v0 : Int32) (h : MH) (u : Nat) (Q : Int32 → MH → Prop) : Prop :=
  if v0 < 0 then
    nz 0 ∧ Q 0 h
  else
    if 9 < v0 then
      nz 0 ∧ Q 0 h
    else
      nz 1 ∧ Q 1 h
set_option maxRecDepth 20000 in
theorem E_X4_isLane {d : Nat} {v0 : Int32} {h : MH} {u : Nat} {Q : Int32 → MH → Prop} (H : F_X4_isLane d v0 h u Q) : T u_X4_isLane d 0 [some (jI v0)] [] h u (qI Q) := by
  unfold F_X4_isLane at H
  refine T_iload_n (pc := 0) dX4_isLane_0 rfl rfl ?_
  refine T_if_lt (pc := 1) (tgt := 14) dX4_isLane_1 (by decide) (fun hc => ?_) (fun hc => ?_)
  · rw [if_pos hc] at H
    refine T_iconst (pc := 14) (v := 0) dX4_isLane_14 (by decide) ?_
    exact T_ireturn (pc := 15) rfl (nz_nar H.1) dX4_isLane_15 H.2
  · rw [if_neg hc] at H
    refine T_iload_n (pc := 4) dX4_isLane_4 rfl rfl ?_
    refine T_bipush (pc := 5) (v := 9) dX4_isLane_5 (by decide) ?_
    refine T_icmp_gt (pc := 7) (tgt := 14) dX4_isLane_7 (by decide) (fun hc => ?_) (fun hc => ?_)
    · rw [if_pos hc] at H
      refine T_iconst (pc := 14) (v := 0) dX4_isLane_14 (by decide) ?_
      exact T_ireturn (pc := 15) rfl (nz_nar H.1) dX4_isLane_15 H.2
    · rw [if_neg hc] at H
      refine T_iconst (pc := 10) (v := 1) dX4_isLane_10 (by decide) ?_
      refine T_goto (pc := 11) (tgt := 15) dX4_isLane_11 (by decide) ?_
      exact T_ireturn (pc := 15) rfl (nz_nar H.1) dX4_isLane_15 H.2
theorem I_X4_isLane {d : Nat} {v0 : Int32} {h : MH} {u : Nat} {K : Int32 → MH → Nat → Prop} (u1 : Nat) (hu : u1 ≤ u) (H : F_X4_isLane d v0 h u1 (fun x h2 => K x h2 (u - u1))) : iI d u_X4_isLane [jI v0] h u K := inv.of u1 hu (Ct.of (by decide +kernel) rfl (Nat.le_of_ble_eq_true rfl) rfl (E_X4_isLane H))
theorem J_X4_isLane {d : Nat} {v0 : Int32} {h : MH} {u : Nat} {K : Int32 → MH → Prop} (H : F_X4_isLane d v0 h 0 K) : iI d u_X4_isLane [jI v0] h u (fun x h2 u2 => K x h2 ∧ u2 = u) := jiI (by decide +kernel) rfl (Nat.le_of_ble_eq_true rfl) rfl (E_X4_isLane H)
theorem dX3_takesLane_0 : decode cX3_takesLane 0 = .ok (.aload_n 0, 1) := by decide +kernel
theorem dX3_takesLane_1 : decode cX3_takesLane 1 = .ok (.getfield 15, 3) := by decide +kernel
theorem dX3_takesLane_4 : decode cX3_takesLane 4 = .ok (.ifCond .ne 10, 3) := by decide +kernel
theorem dX3_takesLane_7 : decode cX3_takesLane 7 = .ok (.iload_n 1, 1) := by decide +kernel
theorem dX3_takesLane_8 : decode cX3_takesLane 8 = .ok (.invokestatic 34, 3) := by decide +kernel
theorem dX3_takesLane_11 : decode cX3_takesLane 11 = .ok (.ifCond .eq 7, 3) := by decide +kernel
theorem dX3_takesLane_14 : decode cX3_takesLane 14 = .ok (.iconst 1, 1) := by decide +kernel
theorem dX3_takesLane_15 : decode cX3_takesLane 15 = .ok (.goto 4, 3) := by decide +kernel
theorem dX3_takesLane_18 : decode cX3_takesLane 18 = .ok (.iconst 0, 1) := by decide +kernel
theorem dX3_takesLane_19 : decode cX3_takesLane 19 = .ok (.ireturn, 1) := by decide +kernel
def F_X3_takesLane (d : Nat) (v0 : Option Nm) (v1 : Int32) (h : MH) (u : Nat) (Q : Int32 → MH → Prop) : Prop :=
  gI h v0 3 1 fun x1 =>
  if x1 = 0 then
    F_X4_isLane d v1 h 0 fun x2 h =>
    if x2 = 0 then
      nz 0 ∧ Q 0 h
    else
      nz 1 ∧ Q 1 h
  else
    nz 1 ∧ Q 1 h
set_option maxRecDepth 20000 in
theorem E_X3_takesLane {d : Nat} {v0 : Option Nm} {v1 : Int32} {h : MH} {u : Nat} {Q : Int32 → MH → Prop} (H : F_X3_takesLane d v0 v1 h u Q) : T u_X3_takesLane (d + 1) 0 [some (jR v0), some (jI v1)] [] h u (qI Q) := by
  unfold F_X3_takesLane at H
  refine T_aload_n (pc := 0) dX3_takesLane_0 rfl rfl ?_
  refine T_gI (pc := 1) fa_X3_15 dX3_takesLane_1 (gI_mono (fun x1 H => ?_) H)
  refine T_if_ne (pc := 4) (tgt := 14) dX3_takesLane_4 (by decide) (fun hc => ?_) (fun hc => ?_)
  · rw [if_neg hc] at H
    refine T_iconst (pc := 14) (v := 1) dX3_takesLane_14 (by decide) ?_
    refine T_goto (pc := 15) (tgt := 19) dX3_takesLane_15 (by decide) ?_
    exact T_ireturn (pc := 19) rfl (nz_nar H.1) dX3_takesLane_19 H.2
  · rw [if_pos hc] at H
    refine T_iload_n (pc := 7) dX3_takesLane_7 rfl rfl ?_
    refine T_invS (pc := 8) (av := [jI v1]) (rest := []) dX3_takesLane_8 mf_X4_isLane c_2_210 c_2_211 rfl (Nat.le_of_ble_eq_true rfl) rfl (iI_k (iI_m0 (fun x2 h H => ?_) (J_X4_isLane (d := d) H)))
    refine T_if_eq (pc := 11) (tgt := 18) dX3_takesLane_11 (by decide) (fun hc => ?_) (fun hc => ?_)
    · rw [if_pos hc] at H
      refine T_iconst (pc := 18) (v := 0) dX3_takesLane_18 (by decide) ?_
      exact T_ireturn (pc := 19) rfl (nz_nar H.1) dX3_takesLane_19 H.2
    · rw [if_neg hc] at H
      refine T_iconst (pc := 14) (v := 1) dX3_takesLane_14 (by decide) ?_
      refine T_goto (pc := 15) (tgt := 19) dX3_takesLane_15 (by decide) ?_
      exact T_ireturn (pc := 19) rfl (nz_nar H.1) dX3_takesLane_19 H.2
theorem I_X3_takesLane {d : Nat} {v0 : Option Nm} {v1 : Int32} {h : MH} {u : Nat} {K : Int32 → MH → Nat → Prop} (u1 : Nat) (hu : u1 ≤ u) (H : F_X3_takesLane d v0 v1 h u1 (fun x h2 => K x h2 (u - u1))) : iI (d + 1) u_X3_takesLane [jR v0, jI v1] h u K := inv.of u1 hu (Ct.of (by decide +kernel) rfl (Nat.le_of_ble_eq_true rfl) rfl (E_X3_takesLane H))
theorem J_X3_takesLane {d : Nat} {v0 : Option Nm} {v1 : Int32} {h : MH} {u : Nat} {K : Int32 → MH → Prop} (H : F_X3_takesLane d v0 v1 h 0 K) : iI (d + 1) u_X3_takesLane [jR v0, jI v1] h u (fun x h2 u2 => K x h2 ∧ u2 = u) := jiI (by decide +kernel) rfl (Nat.le_of_ble_eq_true rfl) rfl (E_X3_takesLane H)
theorem dX11_isChange_0 : decode cX11_isChange 0 = .ok (.iload_n 1, 1) := by decide +kernel
theorem dX11_isChange_1 : decode cX11_isChange 1 = .ok (.iconst 0, 1) := by decide +kernel
theorem dX11_isChange_2 : decode cX11_isChange 2 = .ok (.iconst 3, 1) := by decide +kernel
theorem dX11_isChange_3 : decode cX11_isChange 3 = .ok (.invokestatic 64, 3) := by decide +kernel
theorem dX11_isChange_6 : decode cX11_isChange 6 = .ok (.ifCond .ne 5, 3) := by decide +kernel
theorem dX11_isChange_9 : decode cX11_isChange 9 = .ok (.iconst 0, 1) := by decide +kernel
theorem dX11_isChange_10 : decode cX11_isChange 10 = .ok (.ireturn, 1) := by decide +kernel
theorem dX11_isChange_11 : decode cX11_isChange 11 = .ok (.iload_n 1, 1) := by decide +kernel
theorem dX11_isChange_12 : decode cX11_isChange 12 = .ok (.iconst 3, 1) := by decide +kernel
theorem dX11_isChange_13 : decode cX11_isChange 13 = .ok (.if_icmp .eq 10, 3) := by decide +kernel
theorem dX11_isChange_16 : decode cX11_isChange 16 = .ok (.iload_n 2, 1) := by decide +kernel
theorem dX11_isChange_17 : decode cX11_isChange 17 = .ok (.invokestatic 159, 3) := by decide +kernel
theorem dX11_isChange_20 : decode cX11_isChange 20 = .ok (.ifCond .eq 7, 3) := by decide +kernel
theorem dX11_isChange_23 : decode cX11_isChange 23 = .ok (.iconst 1, 1) := by decide +kernel
theorem dX11_isChange_24 : decode cX11_isChange 24 = .ok (.goto 4, 3) := by decide +kernel
theorem dX11_isChange_27 : decode cX11_isChange 27 = .ok (.iconst 0, 1) := by decide +kernel
theorem dX11_isChange_28 : decode cX11_isChange 28 = .ok (.istore 4, 2) := by decide +kernel
theorem dX11_isChange_30 : decode cX11_isChange 30 = .ok (.iload_n 1, 1) := by decide +kernel
theorem dX11_isChange_31 : decode cX11_isChange 31 = .ok (.iconst 1, 1) := by decide +kernel
theorem dX11_isChange_32 : decode cX11_isChange 32 = .ok (.if_icmp .eq 16, 3) := by decide +kernel
theorem dX11_isChange_35 : decode cX11_isChange 35 = .ok (.iload_n 1, 1) := by decide +kernel
theorem dX11_isChange_36 : decode cX11_isChange 36 = .ok (.iconst 3, 1) := by decide +kernel
theorem dX11_isChange_37 : decode cX11_isChange 37 = .ok (.if_icmp .eq 11, 3) := by decide +kernel
theorem dX11_isChange_40 : decode cX11_isChange 40 = .ok (.aload_n 0, 1) := by decide +kernel
theorem dX11_isChange_41 : decode cX11_isChange 41 = .ok (.iload_n 3, 1) := by decide +kernel
theorem dX11_isChange_42 : decode cX11_isChange 42 = .ok (.invokevirtual 162, 3) := by decide +kernel
theorem dX11_isChange_45 : decode cX11_isChange 45 = .ok (.ifCond .eq 7, 3) := by decide +kernel
theorem dX11_isChange_48 : decode cX11_isChange 48 = .ok (.iconst 1, 1) := by decide +kernel
theorem dX11_isChange_49 : decode cX11_isChange 49 = .ok (.goto 4, 3) := by decide +kernel
theorem dX11_isChange_52 : decode cX11_isChange 52 = .ok (.iconst 0, 1) := by decide +kernel
theorem dX11_isChange_53 : decode cX11_isChange 53 = .ok (.istore 5, 2) := by decide +kernel
theorem dX11_isChange_55 : decode cX11_isChange 55 = .ok (.iload 4, 2) := by decide +kernel
theorem dX11_isChange_57 : decode cX11_isChange 57 = .ok (.ifCond .eq 12, 3) := by decide +kernel
theorem dX11_isChange_60 : decode cX11_isChange 60 = .ok (.iload 5, 2) := by decide +kernel
theorem dX11_isChange_62 : decode cX11_isChange 62 = .ok (.ifCond .eq 7, 3) := by decide +kernel
theorem dX11_isChange_65 : decode cX11_isChange 65 = .ok (.iconst 1, 1) := by decide +kernel
theorem dX11_isChange_66 : decode cX11_isChange 66 = .ok (.goto 4, 3) := by decide +kernel
theorem dX11_isChange_69 : decode cX11_isChange 69 = .ok (.iconst 0, 1) := by decide +kernel
theorem dX11_isChange_70 : decode cX11_isChange 70 = .ok (.ireturn, 1) := by decide +kernel
def F_X11_isChange_53 (d : Nat) (v4 : Int32) (s0 : Int32) (h : MH) (u : Nat) (Q : Int32 → MH → Prop) : Prop :=
  if v4 = 0 then
    nz 0 ∧ Q 0 h
  else
    if s0 = 0 then
      nz 0 ∧ Q 0 h
    else
      nz 1 ∧ Q 1 h
set_option maxRecDepth 20000 in
theorem E_X11_isChange_53 {d : Nat} {v4 : Int32} {s0 : Int32} {h : MH} {u : Nat} {Q : Int32 → MH → Prop} (H : F_X11_isChange_53 d v4 s0 h u Q) : T u_X11_isChange (d + 2) 53 [none, none, none, none, some (jI v4), none] [jI s0] h u (qI Q) := by
  unfold F_X11_isChange_53 at H
  refine T_istore (pc := 53) (ls2 := [none, none, none, none, some (jI v4), some (jI s0)]) dX11_isChange_53 (Nat.le_of_ble_eq_true rfl) rfl ?_
  refine T_iload (pc := 55) dX11_isChange_55 rfl ?_
  refine T_if_eq (pc := 57) (tgt := 69) dX11_isChange_57 (by decide) (fun hc => ?_) (fun hc => ?_)
  · rw [if_pos hc] at H
    refine T_iconst (pc := 69) (v := 0) dX11_isChange_69 (by decide) ?_
    exact T_ireturn (pc := 70) rfl (nz_nar H.1) dX11_isChange_70 H.2
  · rw [if_neg hc] at H
    refine T_iload (pc := 60) dX11_isChange_60 rfl ?_
    refine T_if_eq (pc := 62) (tgt := 69) dX11_isChange_62 (by decide) (fun hc => ?_) (fun hc => ?_)
    · rw [if_pos hc] at H
      refine T_iconst (pc := 69) (v := 0) dX11_isChange_69 (by decide) ?_
      exact T_ireturn (pc := 70) rfl (nz_nar H.1) dX11_isChange_70 H.2
    · rw [if_neg hc] at H
      refine T_iconst (pc := 65) (v := 1) dX11_isChange_65 (by decide) ?_
      refine T_goto (pc := 66) (tgt := 70) dX11_isChange_66 (by decide) ?_
      exact T_ireturn (pc := 70) rfl (nz_nar H.1) dX11_isChange_70 H.2
def F_X11_isChange_48 (d : Nat) (v4 : Int32) (h : MH) (u : Nat) (Q : Int32 → MH → Prop) : Prop :=
  F_X11_isChange_53 d v4 1 h u Q
set_option maxRecDepth 20000 in
theorem E_X11_isChange_48 {d : Nat} {v4 : Int32} {h : MH} {u : Nat} {Q : Int32 → MH → Prop} (H : F_X11_isChange_48 d v4 h u Q) : T u_X11_isChange (d + 2) 48 [none, none, none, none, some (jI v4), none] [] h u (qI Q) := by
  unfold F_X11_isChange_48 at H
  refine T_iconst (pc := 48) (v := 1) dX11_isChange_48 (by decide) ?_
  refine T_goto (pc := 49) (tgt := 53) dX11_isChange_49 (by decide) ?_
  exact T.forget (E_X11_isChange_53 H) ⟨rfl, trivial⟩
def F_X11_isChange_28 (d : Nat) (v0 : Option Nm) (v1 : Int32) (v3 : Int32) (s0 : Int32) (h : MH) (u : Nat) (Q : Int32 → MH → Prop) : Prop :=
  if v1 = 1 then
    F_X11_isChange_48 d s0 h u Q
  else
    if v1 = 3 then
      F_X11_isChange_48 d s0 h u Q
    else
      rc h v0 3 ∧ F_X3_takesLane d v0 v3 h 0 fun x1 h =>
      if x1 = 0 then
        F_X11_isChange_53 d s0 0 h u Q
      else
        F_X11_isChange_48 d s0 h u Q
set_option maxRecDepth 20000 in
theorem E_X11_isChange_28 {d : Nat} {v0 : Option Nm} {v1 : Int32} {v3 : Int32} {s0 : Int32} {h : MH} {u : Nat} {Q : Int32 → MH → Prop} (H : F_X11_isChange_28 d v0 v1 v3 s0 h u Q) : T u_X11_isChange (d + 2) 28 [some (jR v0), some (jI v1), none, some (jI v3), none, none] [jI s0] h u (qI Q) := by
  unfold F_X11_isChange_28 at H
  refine T_istore (pc := 28) (ls2 := [some (jR v0), some (jI v1), none, some (jI v3), some (jI s0), none]) dX11_isChange_28 (Nat.le_of_ble_eq_true rfl) rfl ?_
  refine T_iload_n (pc := 30) dX11_isChange_30 rfl rfl ?_
  refine T_iconst (pc := 31) (v := 1) dX11_isChange_31 (by decide) ?_
  refine T_icmp_eq (pc := 32) (tgt := 48) dX11_isChange_32 (by decide) (fun hc => ?_) (fun hc => ?_)
  · rw [if_pos hc] at H
    exact T.forget (E_X11_isChange_48 H) ⟨rfl, trivial⟩
  · rw [if_neg hc] at H
    refine T_iload_n (pc := 35) dX11_isChange_35 rfl rfl ?_
    refine T_iconst (pc := 36) (v := 3) dX11_isChange_36 (by decide) ?_
    refine T_icmp_eq (pc := 37) (tgt := 48) dX11_isChange_37 (by decide) (fun hc => ?_) (fun hc => ?_)
    · rw [if_pos hc] at H
      exact T.forget (E_X11_isChange_48 H) ⟨rfl, trivial⟩
    · rw [if_neg hc] at H
      refine T_aload_n (pc := 40) dX11_isChange_40 rfl rfl ?_
      refine T_iload_n (pc := 41) dX11_isChange_41 rfl rfl ?_
      obtain ⟨H0, H⟩ := H
      refine T_iV (pc := 42) (ci := 3) (av := [jI v3]) (rest := []) (o := v0) dX11_isChange_42 mf_X3_takesLane c_2_206 c_2_207 c_2_208 rfl rfl (Nat.le_of_ble_eq_true rfl) rfl H0 (iI_k (iI_m0 (fun x1 h H => ?_) (J_X3_takesLane (d := d) H)))
      refine T_if_eq (pc := 45) (tgt := 52) dX11_isChange_45 (by decide) (fun hc => ?_) (fun hc => ?_)
      · rw [if_pos hc] at H
        refine T_iconst (pc := 52) (v := 0) dX11_isChange_52 (by decide) ?_
        exact T.forget (E_X11_isChange_53 H) ⟨rfl, trivial⟩
      · rw [if_neg hc] at H
        exact T.forget (E_X11_isChange_48 H) ⟨rfl, trivial⟩
def F_X11_isChange_23 (d : Nat) (v0 : Option Nm) (v1 : Int32) (v3 : Int32) (h : MH) (u : Nat) (Q : Int32 → MH → Prop) : Prop :=
  F_X11_isChange_28 d v0 v1 v3 1 h u Q
set_option maxRecDepth 20000 in
theorem E_X11_isChange_23 {d : Nat} {v0 : Option Nm} {v1 : Int32} {v3 : Int32} {h : MH} {u : Nat} {Q : Int32 → MH → Prop} (H : F_X11_isChange_23 d v0 v1 v3 h u Q) : T u_X11_isChange (d + 2) 23 [some (jR v0), some (jI v1), none, some (jI v3), none, none] [] h u (qI Q) := by
  unfold F_X11_isChange_23 at H
  refine T_iconst (pc := 23) (v := 1) dX11_isChange_23 (by decide) ?_
  refine T_goto (pc := 24) (tgt := 28) dX11_isChange_24 (by decide) ?_
  exact T.forget (E_X11_isChange_28 H) ⟨rfl, rfl, rfl, trivial⟩
def F_X11_isChange (d : Nat) (v0 : Option Nm) (v1 : Int32) (v2 : Int32) (v3 : Int32) (h : MH) (u : Nat) (Q : Int32 → MH → Prop) : Prop :=
  F_X11_isWithin (d + 1) v1 0 3 h 0 fun x1 h =>
  if x1 = 0 then
    nz 0 ∧ Q 0 h
  else
    if v1 = 3 then
      F_X11_isChange_23 d v0 v1 v3 h u Q
    else
      F_X11_isLabel d v2 h 0 fun x2 h =>
      if x2 = 0 then
        F_X11_isChange_28 d v0 v1 v3 0 h u Q
      else
        F_X11_isChange_23 d v0 v1 v3 h u Q
set_option maxRecDepth 20000 in
theorem E_X11_isChange {d : Nat} {v0 : Option Nm} {v1 : Int32} {v2 : Int32} {v3 : Int32} {h : MH} {u : Nat} {Q : Int32 → MH → Prop} (H : F_X11_isChange d v0 v1 v2 v3 h u Q) : T u_X11_isChange (d + 2) 0 [some (jR v0), some (jI v1), some (jI v2), some (jI v3), none, none] [] h u (qI Q) := by
  unfold F_X11_isChange at H
  refine T_iload_n (pc := 0) dX11_isChange_0 rfl rfl ?_
  refine T_iconst (pc := 1) (v := 0) dX11_isChange_1 (by decide) ?_
  refine T_iconst (pc := 2) (v := 3) dX11_isChange_2 (by decide) ?_
  refine T_invS (pc := 3) (av := [jI v1, jI 0, jI 3]) (rest := []) dX11_isChange_3 mf_X11_isWithin c_1_189 c_1_190 rfl (Nat.le_of_ble_eq_true rfl) rfl (iI_k (iI_m0 (fun x1 h H => ?_) (J_X11_isWithin (d := (d + 1)) H)))
  refine T_if_ne (pc := 6) (tgt := 11) dX11_isChange_6 (by decide) (fun hc => ?_) (fun hc => ?_)
  · rw [if_neg hc] at H
    refine T_iload_n (pc := 11) dX11_isChange_11 rfl rfl ?_
    refine T_iconst (pc := 12) (v := 3) dX11_isChange_12 (by decide) ?_
    refine T_icmp_eq (pc := 13) (tgt := 23) dX11_isChange_13 (by decide) (fun hc => ?_) (fun hc => ?_)
    · rw [if_pos hc] at H
      exact T.forget (E_X11_isChange_23 H) ⟨rfl, rfl, rfl, trivial⟩
    · rw [if_neg hc] at H
      refine T_iload_n (pc := 16) dX11_isChange_16 rfl rfl ?_
      refine T_invS (pc := 17) (av := [jI v2]) (rest := []) dX11_isChange_17 mf_X11_isLabel c_2_203 c_2_204 rfl (Nat.le_of_ble_eq_true rfl) rfl (iI_k (iI_m0 (fun x2 h H => ?_) (J_X11_isLabel (d := d) H)))
      refine T_if_eq (pc := 20) (tgt := 27) dX11_isChange_20 (by decide) (fun hc => ?_) (fun hc => ?_)
      · rw [if_pos hc] at H
        refine T_iconst (pc := 27) (v := 0) dX11_isChange_27 (by decide) ?_
        exact T.forget (E_X11_isChange_28 H) ⟨rfl, rfl, rfl, trivial⟩
      · rw [if_neg hc] at H
        exact T.forget (E_X11_isChange_23 H) ⟨rfl, rfl, rfl, trivial⟩
  · rw [if_pos hc] at H
    refine T_iconst (pc := 9) (v := 0) dX11_isChange_9 (by decide) ?_
    exact T_ireturn (pc := 10) rfl (nz_nar H.1) dX11_isChange_10 H.2
theorem I_X11_isChange {d : Nat} {v0 : Option Nm} {v1 : Int32} {v2 : Int32} {v3 : Int32} {h : MH} {u : Nat} {K : Int32 → MH → Nat → Prop} (u1 : Nat) (hu : u1 ≤ u) (H : F_X11_isChange d v0 v1 v2 v3 h u1 (fun x h2 => K x h2 (u - u1))) : iI (d + 2) u_X11_isChange [jR v0, jI v1, jI v2, jI v3] h u K := inv.of u1 hu (Ct.of (by decide +kernel) rfl (Nat.le_of_ble_eq_true rfl) rfl (E_X11_isChange H))
theorem J_X11_isChange {d : Nat} {v0 : Option Nm} {v1 : Int32} {v2 : Int32} {v3 : Int32} {h : MH} {u : Nat} {K : Int32 → MH → Prop} (H : F_X11_isChange d v0 v1 v2 v3 h 0 K) : iI (d + 2) u_X11_isChange [jR v0, jI v1, jI v2, jI v3] h u (fun x h2 u2 => K x h2 ∧ u2 = u) := jiI (by decide +kernel) rfl (Nat.le_of_ble_eq_true rfl) rfl (E_X11_isChange H)
theorem dX11_edition_0 : decode cX11_edition 0 = .ok (.aload_n 0, 1) := by decide +kernel
theorem dX11_edition_1 : decode cX11_edition 1 = .ok (.iload_n 1, 1) := by decide +kernel
theorem dX11_edition_2 : decode cX11_edition 2 = .ok (.invokevirtual 155, 3) := by decide +kernel
theorem dX11_edition_5 : decode cX11_edition 5 = .ok (.astore 5, 2) := by decide +kernel
theorem dX11_edition_7 : decode cX11_edition 7 = .ok (.aload 5, 2) := by decide +kernel
theorem dX11_edition_9 : decode cX11_edition 9 = .ok (.ifnonnull 5, 3) := by decide +kernel
theorem dX11_edition_12 : decode cX11_edition 12 = .ok (.iconst (-1), 1) := by decide +kernel
theorem dX11_edition_13 : decode cX11_edition 13 = .ok (.ireturn, 1) := by decide +kernel
theorem dX11_edition_14 : decode cX11_edition 14 = .ok (.aload 5, 2) := by decide +kernel
theorem dX11_edition_16 : decode cX11_edition 16 = .ok (.iload_n 2, 1) := by decide +kernel
theorem dX11_edition_17 : decode cX11_edition 17 = .ok (.iload_n 3, 1) := by decide +kernel
theorem dX11_edition_18 : decode cX11_edition 18 = .ok (.iload 4, 2) := by decide +kernel
theorem dX11_edition_20 : decode cX11_edition 20 = .ok (.invokestatic 188, 3) := by decide +kernel
theorem dX11_edition_23 : decode cX11_edition 23 = .ok (.ifCond .ne 6, 3) := by decide +kernel
theorem dX11_edition_26 : decode cX11_edition 26 = .ok (.bipush (-2), 2) := by decide +kernel
theorem dX11_edition_28 : decode cX11_edition 28 = .ok (.ireturn, 1) := by decide +kernel
theorem dX11_edition_29 : decode cX11_edition 29 = .ok (.aload 5, 2) := by decide +kernel
theorem dX11_edition_31 : decode cX11_edition 31 = .ok (.getfield 169, 3) := by decide +kernel
theorem dX11_edition_34 : decode cX11_edition 34 = .ok (.ifCond .eq 16, 3) := by decide +kernel
theorem dX11_edition_37 : decode cX11_edition 37 = .ok (.iload_n 2, 1) := by decide +kernel
theorem dX11_edition_38 : decode cX11_edition 38 = .ok (.iconst 2, 1) := by decide +kernel
theorem dX11_edition_39 : decode cX11_edition 39 = .ok (.if_icmp .ne 14, 3) := by decide +kernel
theorem dX11_edition_42 : decode cX11_edition 42 = .ok (.aload 5, 2) := by decide +kernel
theorem dX11_edition_44 : decode cX11_edition 44 = .ok (.getfield 192, 3) := by decide +kernel
theorem dX11_edition_47 : decode cX11_edition 47 = .ok (.ifCond .eq 6, 3) := by decide +kernel
theorem dX11_edition_50 : decode cX11_edition 50 = .ok (.bipush (-3), 2) := by decide +kernel
theorem dX11_edition_52 : decode cX11_edition 52 = .ok (.ireturn, 1) := by decide +kernel
theorem dX11_edition_53 : decode cX11_edition 53 = .ok (.aload 5, 2) := by decide +kernel
theorem dX11_edition_55 : decode cX11_edition 55 = .ok (.invokevirtual 165, 3) := by decide +kernel
theorem dX11_edition_58 : decode cX11_edition 58 = .ok (.iload_n 3, 1) := by decide +kernel
theorem dX11_edition_59 : decode cX11_edition 59 = .ok (.invokevirtual 172, 3) := by decide +kernel
theorem dX11_edition_62 : decode cX11_edition 62 = .ok (.iconst (-1), 1) := by decide +kernel
theorem dX11_edition_63 : decode cX11_edition 63 = .ok (.if_icmp .eq 7, 3) := by decide +kernel
theorem dX11_edition_66 : decode cX11_edition 66 = .ok (.iconst 1, 1) := by decide +kernel
theorem dX11_edition_67 : decode cX11_edition 67 = .ok (.goto 4, 3) := by decide +kernel
theorem dX11_edition_70 : decode cX11_edition 70 = .ok (.iconst 0, 1) := by decide +kernel
theorem dX11_edition_71 : decode cX11_edition 71 = .ok (.istore 6, 2) := by decide +kernel
theorem dX11_edition_73 : decode cX11_edition 73 = .ok (.iload_n 2, 1) := by decide +kernel
theorem dX11_edition_74 : decode cX11_edition 74 = .ok (.iconst 3, 1) := by decide +kernel
theorem dX11_edition_75 : decode cX11_edition 75 = .ok (.if_icmp .eq 20, 3) := by decide +kernel
theorem dX11_edition_78 : decode cX11_edition 78 = .ok (.iload 6, 2) := by decide +kernel
theorem dX11_edition_80 : decode cX11_edition 80 = .ok (.iload_n 2, 1) := by decide +kernel
theorem dX11_edition_81 : decode cX11_edition 81 = .ok (.ifCond .ne 7, 3) := by decide +kernel
theorem dX11_edition_84 : decode cX11_edition 84 = .ok (.iconst 1, 1) := by decide +kernel
theorem dX11_edition_85 : decode cX11_edition 85 = .ok (.goto 4, 3) := by decide +kernel
theorem dX11_edition_88 : decode cX11_edition 88 = .ok (.iconst 0, 1) := by decide +kernel
theorem dX11_edition_89 : decode cX11_edition 89 = .ok (.if_icmp .ne 6, 3) := by decide +kernel
theorem dX11_edition_92 : decode cX11_edition 92 = .ok (.bipush (-3), 2) := by decide +kernel
theorem dX11_edition_94 : decode cX11_edition 94 = .ok (.ireturn, 1) := by decide +kernel
theorem dX11_edition_95 : decode cX11_edition 95 = .ok (.aload_n 0, 1) := by decide +kernel
theorem dX11_edition_96 : decode cX11_edition 96 = .ok (.aload 5, 2) := by decide +kernel
theorem dX11_edition_98 : decode cX11_edition 98 = .ok (.iload_n 2, 1) := by decide +kernel
theorem dX11_edition_99 : decode cX11_edition 99 = .ok (.invokevirtual 195, 3) := by decide +kernel
theorem dX11_edition_102 : decode cX11_edition 102 = .ok (.ifCond .ne 6, 3) := by decide +kernel
theorem dX11_edition_105 : decode cX11_edition 105 = .ok (.bipush (-4), 2) := by decide +kernel
theorem dX11_edition_107 : decode cX11_edition 107 = .ok (.ireturn, 1) := by decide +kernel
theorem dX11_edition_108 : decode cX11_edition 108 = .ok (.aload 5, 2) := by decide +kernel
theorem dX11_edition_110 : decode cX11_edition 110 = .ok (.invokevirtual 199, 3) := by decide +kernel
theorem dX11_edition_113 : decode cX11_edition 113 = .ok (.astore 7, 2) := by decide +kernel
theorem dX11_edition_115 : decode cX11_edition 115 = .ok (.aload 7, 2) := by decide +kernel
theorem dX11_edition_117 : decode cX11_edition 117 = .ok (.iload_n 2, 1) := by decide +kernel
theorem dX11_edition_118 : decode cX11_edition 118 = .ok (.iload_n 3, 1) := by decide +kernel
theorem dX11_edition_119 : decode cX11_edition 119 = .ok (.iload 4, 2) := by decide +kernel
theorem dX11_edition_121 : decode cX11_edition 121 = .ok (.invokestatic 202, 3) := by decide +kernel
theorem dX11_edition_124 : decode cX11_edition 124 = .ok (.iload_n 2, 1) := by decide +kernel
theorem dX11_edition_125 : decode cX11_edition 125 = .ok (.ifCond .ne 24, 3) := by decide +kernel
theorem dX11_edition_128 : decode cX11_edition 128 = .ok (.aload 5, 2) := by decide +kernel
theorem dX11_edition_130 : decode cX11_edition 130 = .ok (.getfield 192, 3) := by decide +kernel
theorem dX11_edition_133 : decode cX11_edition 133 = .ok (.ifCond .eq 16, 3) := by decide +kernel
theorem dX11_edition_136 : decode cX11_edition 136 = .ok (.aload_n 0, 1) := by decide +kernel
theorem dX11_edition_137 : decode cX11_edition 137 = .ok (.aload 5, 2) := by decide +kernel
theorem dX11_edition_139 : decode cX11_edition 139 = .ok (.aload 7, 2) := by decide +kernel
theorem dX11_edition_141 : decode cX11_edition 141 = .ok (.getfield 185, 3) := by decide +kernel
theorem dX11_edition_144 : decode cX11_edition 144 = .ok (.iconst 1, 1) := by decide +kernel
theorem dX11_edition_145 : decode cX11_edition 145 = .ok (.isub, 1) := by decide +kernel
theorem dX11_edition_146 : decode cX11_edition 146 = .ok (.invokevirtual 206, 3) := by decide +kernel
theorem dX11_edition_149 : decode cX11_edition 149 = .ok (.aload 7, 2) := by decide +kernel
theorem dX11_edition_151 : decode cX11_edition 151 = .ok (.getfield 210, 3) := by decide +kernel
theorem dX11_edition_154 : decode cX11_edition 154 = .ok (.ireturn, 1) := by decide +kernel
def F_X11_edition_95 (d : Nat) (v0 : Option Nm) (v2 : Int32) (v3 : Int32) (v4 : Int32) (v5 : Option Nm) (h : MH) (u : Nat) (Q : Int32 → MH → Prop) : Prop :=
  rc h v0 10 ∧ F_X11_hasRoomForChange (d + 1) v0 v5 v2 h 0 fun x1 h =>
  if x1 = 0 then
    Q (-4) h
  else
    rc h v5 3 ∧ iR (d + 2) u_X3_addEdition [jR v5] h u fun x2 h u =>
    F_X11_change d x2 v2 v3 v4 h 0 fun h =>
    if v2 = 0 then
      gI h v5 3 1 fun x5 =>
      if x5 = 0 then
        gI h x2 2 0 fun x6 =>
        Q x6 h
      else
        gI h x2 2 4 fun x7 =>
        rc h v0 10 ∧ iV (d + 2) u_X11_addConstant [jR v0, jR v5, jI (x7 - 1)] h u fun h u =>
        gI h x2 2 0 fun x9 =>
        Q x9 h
    else
      gI h x2 2 0 fun x4 =>
      Q x4 h
set_option maxRecDepth 20000 in
theorem E_X11_edition_95 {d : Nat} {v0 : Option Nm} {v2 : Int32} {v3 : Int32} {v4 : Int32} {v5 : Option Nm} {h : MH} {u : Nat} {Q : Int32 → MH → Prop} (H : F_X11_edition_95 d v0 v2 v3 v4 v5 h u Q) : T u_X11_edition (d + 3) 95 [some (jR v0), none, some (jI v2), some (jI v3), some (jI v4), some (jR v5), none, none] [] h u (qI Q) := by
  unfold F_X11_edition_95 at H
  refine T_aload_n (pc := 95) dX11_edition_95 rfl rfl ?_
  refine T_aload (pc := 96) dX11_edition_96 rfl ?_
  refine T_iload_n (pc := 98) dX11_edition_98 rfl rfl ?_
  obtain ⟨H0, H⟩ := H
  refine T_iV (pc := 99) (ci := 10) (av := [jR v5, jI v2]) (rest := []) (o := v0) dX11_edition_99 mf_X11_hasRoomForChange c_2_237 c_2_239 pr_X11_hasRoomForChange rfl rfl (Nat.le_of_ble_eq_true rfl) rfl H0 (iI_k (iI_m0 (fun x1 h H => ?_) (J_X11_hasRoomForChange (d := (d + 1)) H)))
  refine T_if_ne (pc := 102) (tgt := 108) dX11_edition_102 (by decide) (fun hc => ?_) (fun hc => ?_)
  · rw [if_neg hc] at H
    refine T_aload (pc := 108) dX11_edition_108 rfl ?_
    obtain ⟨H0, H⟩ := H
    refine T_iV (pc := 110) (ci := 3) (av := []) (rest := []) (o := v5) dX11_edition_110 mf_X3_addEdition c_3_9 c_3_10 c_3_11 rfl rfl (Nat.le_of_ble_eq_true rfl) rfl H0 (iR_k (iR_mono (fun x2 h u H => ?_) H))
    refine T_astore (pc := 113) (ls2 := [some (jR v0), none, some (jI v2), some (jI v3), some (jI v4), some (jR v5), none, some (jR x2)]) dX11_edition_113 (Nat.le_of_ble_eq_true rfl) rfl ?_
    refine T_aload (pc := 115) dX11_edition_115 rfl ?_
    refine T_iload_n (pc := 117) dX11_edition_117 rfl rfl ?_
    refine T_iload_n (pc := 118) dX11_edition_118 rfl rfl ?_
    refine T_iload (pc := 119) dX11_edition_119 rfl ?_
    refine T_invS (pc := 121) (av := [jR x2, jI v2, jI v3, jI v4]) (rest := []) dX11_edition_121 mf_X11_change c_3_25 c_3_26 rfl (Nat.le_of_ble_eq_true rfl) rfl (iV_k (iV_m0 (fun h H => ?_) (J_X11_change (d := d) H)))
    refine T_iload_n (pc := 124) dX11_edition_124 rfl rfl ?_
    refine T_if_ne (pc := 125) (tgt := 149) dX11_edition_125 (by decide) (fun hc => ?_) (fun hc => ?_)
    · rw [if_neg hc] at H
      refine T_aload (pc := 149) dX11_edition_149 rfl ?_
      refine T_gI (pc := 151) fa_X11_210 dX11_edition_151 (gI_mono (fun x4 H => ?_) H)
      exact T_ireturn (pc := 154) rfl rfl dX11_edition_154 H
    · rw [if_pos hc] at H
      refine T_aload (pc := 128) dX11_edition_128 rfl ?_
      refine T_gI (pc := 130) fa_X11_192 dX11_edition_130 (gI_mono (fun x5 H => ?_) H)
      refine T_if_eq (pc := 133) (tgt := 149) dX11_edition_133 (by decide) (fun hc => ?_) (fun hc => ?_)
      · rw [if_pos hc] at H
        refine T_aload (pc := 149) dX11_edition_149 rfl ?_
        refine T_gI (pc := 151) fa_X11_210 dX11_edition_151 (gI_mono (fun x6 H => ?_) H)
        exact T_ireturn (pc := 154) rfl rfl dX11_edition_154 H
      · rw [if_neg hc] at H
        refine T_aload_n (pc := 136) dX11_edition_136 rfl rfl ?_
        refine T_aload (pc := 137) dX11_edition_137 rfl ?_
        refine T_aload (pc := 139) dX11_edition_139 rfl ?_
        refine T_gI (pc := 141) fa_X11_185 dX11_edition_141 (gI_mono (fun x7 H => ?_) H)
        refine T_iconst (pc := 144) (v := 1) dX11_edition_144 (by decide) ?_
        refine T_isub (pc := 145) dX11_edition_145 ?_
        obtain ⟨H0, H⟩ := H
        refine T_iV (pc := 146) (ci := 10) (av := [jR v5, jI (x7 - 1)]) (rest := []) (o := v0) dX11_edition_146 mf_X11_addConstant c_3_44 c_3_46 pr_X11_addConstant rfl rfl (Nat.le_of_ble_eq_true rfl) rfl H0 (iV_k (iV_mono (fun h u H => ?_) H))
        refine T_aload (pc := 149) dX11_edition_149 rfl ?_
        refine T_gI (pc := 151) fa_X11_210 dX11_edition_151 (gI_mono (fun x9 H => ?_) H)
        exact T_ireturn (pc := 154) rfl rfl dX11_edition_154 H
  · rw [if_pos hc] at H
    refine T_bipush (pc := 105) (v := (-4)) dX11_edition_105 (by decide) ?_
    exact T_ireturn (pc := 107) rfl rfl dX11_edition_107 H
def F_X11_edition_89 (d : Nat) (v0 : Option Nm) (v2 : Int32) (v3 : Int32) (v4 : Int32) (v5 : Option Nm) (s0 : Int32) (s1 : Int32) (h : MH) (u : Nat) (Q : Int32 → MH → Prop) : Prop :=
  if s0 = s1 then
    Q (-3) h
  else
    F_X11_edition_95 d v0 v2 v3 v4 v5 h u Q
set_option maxRecDepth 20000 in
theorem E_X11_edition_89 {d : Nat} {v0 : Option Nm} {v2 : Int32} {v3 : Int32} {v4 : Int32} {v5 : Option Nm} {s0 : Int32} {s1 : Int32} {h : MH} {u : Nat} {Q : Int32 → MH → Prop} (H : F_X11_edition_89 d v0 v2 v3 v4 v5 s0 s1 h u Q) : T u_X11_edition (d + 3) 89 [some (jR v0), none, some (jI v2), some (jI v3), some (jI v4), some (jR v5), none, none] [jI s1, jI s0] h u (qI Q) := by
  unfold F_X11_edition_89 at H
  refine T_icmp_ne (pc := 89) (tgt := 95) dX11_edition_89 (by decide) (fun hc => ?_) (fun hc => ?_)
  · rw [if_neg hc] at H
    exact T.forget (E_X11_edition_95 H) ⟨rfl, rfl, rfl, rfl, rfl, trivial⟩
  · rw [if_pos hc] at H
    refine T_bipush (pc := 92) (v := (-3)) dX11_edition_92 (by decide) ?_
    exact T_ireturn (pc := 94) rfl rfl dX11_edition_94 H
def F_X11_edition_71 (d : Nat) (v0 : Option Nm) (v2 : Int32) (v3 : Int32) (v4 : Int32) (v5 : Option Nm) (s0 : Int32) (h : MH) (u : Nat) (Q : Int32 → MH → Prop) : Prop :=
  if v2 = 3 then
    F_X11_edition_95 d v0 v2 v3 v4 v5 h u Q
  else
    if v2 = 0 then
      F_X11_edition_89 d v0 v2 v3 v4 v5 s0 1 h u Q
    else
      F_X11_edition_89 d v0 v2 v3 v4 v5 s0 0 h u Q
set_option maxRecDepth 20000 in
theorem E_X11_edition_71 {d : Nat} {v0 : Option Nm} {v2 : Int32} {v3 : Int32} {v4 : Int32} {v5 : Option Nm} {s0 : Int32} {h : MH} {u : Nat} {Q : Int32 → MH → Prop} (H : F_X11_edition_71 d v0 v2 v3 v4 v5 s0 h u Q) : T u_X11_edition (d + 3) 71 [some (jR v0), none, some (jI v2), some (jI v3), some (jI v4), some (jR v5), none, none] [jI s0] h u (qI Q) := by
  unfold F_X11_edition_71 at H
  refine T_istore (pc := 71) (ls2 := [some (jR v0), none, some (jI v2), some (jI v3), some (jI v4), some (jR v5), some (jI s0), none]) dX11_edition_71 (Nat.le_of_ble_eq_true rfl) rfl ?_
  refine T_iload_n (pc := 73) dX11_edition_73 rfl rfl ?_
  refine T_iconst (pc := 74) (v := 3) dX11_edition_74 (by decide) ?_
  refine T_icmp_eq (pc := 75) (tgt := 95) dX11_edition_75 (by decide) (fun hc => ?_) (fun hc => ?_)
  · rw [if_pos hc] at H
    exact T.forget (E_X11_edition_95 H) ⟨rfl, rfl, rfl, rfl, rfl, trivial⟩
  · rw [if_neg hc] at H
    refine T_iload (pc := 78) dX11_edition_78 rfl ?_
    refine T_iload_n (pc := 80) dX11_edition_80 rfl rfl ?_
    refine T_if_ne (pc := 81) (tgt := 88) dX11_edition_81 (by decide) (fun hc => ?_) (fun hc => ?_)
    · rw [if_neg hc] at H
      refine T_iconst (pc := 88) (v := 0) dX11_edition_88 (by decide) ?_
      exact T.forget (E_X11_edition_89 H) ⟨rfl, rfl, rfl, rfl, rfl, trivial⟩
    · rw [if_pos hc] at H
      refine T_iconst (pc := 84) (v := 1) dX11_edition_84 (by decide) ?_
      refine T_goto (pc := 85) (tgt := 89) dX11_edition_85 (by decide) ?_
      exact T.forget (E_X11_edition_89 H) ⟨rfl, rfl, rfl, rfl, rfl, trivial⟩
def F_X11_edition_53 (d : Nat) (v0 : Option Nm) (v2 : Int32) (v3 : Int32) (v4 : Int32) (v5 : Option Nm) (h : MH) (u : Nat) (Q : Int32 → MH → Prop) : Prop :=
  rc h v5 3 ∧ F_X3_newest (d + 2) v5 h 0 fun x1 h =>
  rc h x1 2 ∧ F_X2_find (d + 2) x1 v3 h 0 fun x2 h =>
  if x2 = (-1) then
    F_X11_edition_71 d v0 v2 v3 v4 v5 0 h u Q
  else
    F_X11_edition_71 d v0 v2 v3 v4 v5 1 h u Q
set_option maxRecDepth 20000 in
theorem E_X11_edition_53 {d : Nat} {v0 : Option Nm} {v2 : Int32} {v3 : Int32} {v4 : Int32} {v5 : Option Nm} {h : MH} {u : Nat} {Q : Int32 → MH → Prop} (H : F_X11_edition_53 d v0 v2 v3 v4 v5 h u Q) : T u_X11_edition (d + 3) 53 [some (jR v0), none, some (jI v2), some (jI v3), some (jI v4), some (jR v5), none, none] [] h u (qI Q) := by
  unfold F_X11_edition_53 at H
  refine T_aload (pc := 53) dX11_edition_53 rfl ?_
  obtain ⟨H0, H⟩ := H
  refine T_iV (pc := 55) (ci := 3) (av := []) (rest := []) (o := v5) dX11_edition_55 mf_X3_newest c_2_213 c_2_214 c_2_215 rfl rfl (Nat.le_of_ble_eq_true rfl) rfl H0 (iR_k (iR_m0 (fun x1 h H => ?_) (J_X3_newest (d := (d + 2)) H)))
  refine T_iload_n (pc := 58) dX11_edition_58 rfl rfl ?_
  obtain ⟨H0, H⟩ := H
  refine T_iV (pc := 59) (ci := 2) (av := [jI v3]) (rest := []) (o := x1) dX11_edition_59 mf_X2_find c_2_217 c_2_218 c_2_219 rfl rfl (Nat.le_of_ble_eq_true rfl) rfl H0 (iI_k (iI_m0 (fun x2 h H => ?_) (J_X2_find (d := (d + 2)) H)))
  refine T_iconst (pc := 62) (v := (-1)) dX11_edition_62 (by decide) ?_
  refine T_icmp_eq (pc := 63) (tgt := 70) dX11_edition_63 (by decide) (fun hc => ?_) (fun hc => ?_)
  · rw [if_pos hc] at H
    refine T_iconst (pc := 70) (v := 0) dX11_edition_70 (by decide) ?_
    exact T.forget (E_X11_edition_71 H) ⟨rfl, rfl, rfl, rfl, rfl, trivial⟩
  · rw [if_neg hc] at H
    refine T_iconst (pc := 66) (v := 1) dX11_edition_66 (by decide) ?_
    refine T_goto (pc := 67) (tgt := 71) dX11_edition_67 (by decide) ?_
    exact T.forget (E_X11_edition_71 H) ⟨rfl, rfl, rfl, rfl, rfl, trivial⟩
def F_X11_edition (d : Nat) (v0 : Option Nm) (v1 : Int32) (v2 : Int32) (v3 : Int32) (v4 : Int32) (h : MH) (u : Nat) (Q : Int32 → MH → Prop) : Prop :=
  rc h v0 10 ∧ F_X11_findKind (d + 1) v0 v1 h 0 fun x1 h =>
  nl x1 (
    Q (-1) h) (
    F_X11_isChange d x1 v2 v3 v4 h 0 fun x2 h =>
    if x2 = 0 then
      Q (-2) h
    else
      gI h x1 3 5 fun x3 =>
      if x3 = 0 then
        Q (-3) h
      else
        if v2 = 2 then
          gI h x1 3 1 fun x4 =>
          if x4 = 0 then
            F_X11_edition_53 d v0 v2 v3 v4 x1 h u Q
          else
            Q (-3) h
        else
          F_X11_edition_53 d v0 v2 v3 v4 x1 h u Q)
set_option maxRecDepth 20000 in
theorem E_X11_edition {d : Nat} {v0 : Option Nm} {v1 : Int32} {v2 : Int32} {v3 : Int32} {v4 : Int32} {h : MH} {u : Nat} {Q : Int32 → MH → Prop} (H : F_X11_edition d v0 v1 v2 v3 v4 h u Q) : T u_X11_edition (d + 3) 0 [some (jR v0), some (jI v1), some (jI v2), some (jI v3), some (jI v4), none, none, none] [] h u (qI Q) := by
  unfold F_X11_edition at H
  refine T_aload_n (pc := 0) dX11_edition_0 rfl rfl ?_
  refine T_iload_n (pc := 1) dX11_edition_1 rfl rfl ?_
  obtain ⟨H0, H⟩ := H
  refine T_iV (pc := 2) (ci := 10) (av := [jI v1]) (rest := []) (o := v0) dX11_edition_2 mf_X11_findKind c_2_199 c_2_201 pr_X11_findKind rfl rfl (Nat.le_of_ble_eq_true rfl) rfl H0 (iR_k (iR_m0 (fun x1 h H => ?_) (J_X11_findKind (d := (d + 1)) H)))
  refine T_astore (pc := 5) (ls2 := [some (jR v0), some (jI v1), some (jI v2), some (jI v3), some (jI v4), some (jR x1), none, none]) dX11_edition_5 (Nat.le_of_ble_eq_true rfl) rfl ?_
  refine T_aload (pc := 7) dX11_edition_7 rfl ?_
  refine T_ifnonnull (pc := 9) (tgt := 14) dX11_edition_9 (by decide) (fun ho => ?_) (fun n ho => ?_)
  · replace H := nl_n ho H
    refine T_iconst (pc := 12) (v := (-1)) dX11_edition_12 (by decide) ?_
    exact T_ireturn (pc := 13) rfl rfl dX11_edition_13 H
  · replace H := nl_s ho H
    refine T_aload (pc := 14) dX11_edition_14 rfl ?_
    refine T_iload_n (pc := 16) dX11_edition_16 rfl rfl ?_
    refine T_iload_n (pc := 17) dX11_edition_17 rfl rfl ?_
    refine T_iload (pc := 18) dX11_edition_18 rfl ?_
    refine T_invS (pc := 20) (av := [jR x1, jI v2, jI v3, jI v4]) (rest := []) dX11_edition_20 mf_X11_isChange c_2_234 c_2_235 rfl (Nat.le_of_ble_eq_true rfl) rfl (iI_k (iI_m0 (fun x2 h H => ?_) (J_X11_isChange (d := d) H)))
    refine T_if_ne (pc := 23) (tgt := 29) dX11_edition_23 (by decide) (fun hc => ?_) (fun hc => ?_)
    · rw [if_neg hc] at H
      refine T_aload (pc := 29) dX11_edition_29 rfl ?_
      refine T_gI (pc := 31) fa_X11_169 dX11_edition_31 (gI_mono (fun x3 H => ?_) H)
      refine T_if_eq (pc := 34) (tgt := 50) dX11_edition_34 (by decide) (fun hc => ?_) (fun hc => ?_)
      · rw [if_pos hc] at H
        refine T_bipush (pc := 50) (v := (-3)) dX11_edition_50 (by decide) ?_
        exact T_ireturn (pc := 52) rfl rfl dX11_edition_52 H
      · rw [if_neg hc] at H
        refine T_iload_n (pc := 37) dX11_edition_37 rfl rfl ?_
        refine T_iconst (pc := 38) (v := 2) dX11_edition_38 (by decide) ?_
        refine T_icmp_ne (pc := 39) (tgt := 53) dX11_edition_39 (by decide) (fun hc => ?_) (fun hc => ?_)
        · rw [if_neg hc] at H
          exact T.forget (E_X11_edition_53 H) ⟨rfl, rfl, rfl, rfl, rfl, trivial⟩
        · rw [if_pos hc] at H
          refine T_aload (pc := 42) dX11_edition_42 rfl ?_
          refine T_gI (pc := 44) fa_X11_192 dX11_edition_44 (gI_mono (fun x4 H => ?_) H)
          refine T_if_eq (pc := 47) (tgt := 53) dX11_edition_47 (by decide) (fun hc => ?_) (fun hc => ?_)
          · rw [if_pos hc] at H
            exact T.forget (E_X11_edition_53 H) ⟨rfl, rfl, rfl, rfl, rfl, trivial⟩
          · rw [if_neg hc] at H
            refine T_bipush (pc := 50) (v := (-3)) dX11_edition_50 (by decide) ?_
            exact T_ireturn (pc := 52) rfl rfl dX11_edition_52 H
    · rw [if_pos hc] at H
      refine T_bipush (pc := 26) (v := (-2)) dX11_edition_26 (by decide) ?_
      exact T_ireturn (pc := 28) rfl rfl dX11_edition_28 H
theorem I_X11_edition {d : Nat} {v0 : Option Nm} {v1 : Int32} {v2 : Int32} {v3 : Int32} {v4 : Int32} {h : MH} {u : Nat} {K : Int32 → MH → Nat → Prop} (u1 : Nat) (hu : u1 ≤ u) (H : F_X11_edition d v0 v1 v2 v3 v4 h u1 (fun x h2 => K x h2 (u - u1))) : iI (d + 3) u_X11_edition [jR v0, jI v1, jI v2, jI v3, jI v4] h u K := inv.of u1 hu (Ct.of (by decide +kernel) rfl (Nat.le_of_ble_eq_true rfl) rfl (E_X11_edition H))
theorem dX11_equal_0 : decode cX11_equal 0 = .ok (.aload_n 0, 1) := by decide +kernel
theorem dX11_equal_1 : decode cX11_equal 1 = .ok (.getfield 12, 3) := by decide +kernel
theorem dX11_equal_4 : decode cX11_equal 4 = .ok (.iload_n 1, 1) := by decide +kernel
theorem dX11_equal_5 : decode cX11_equal 5 = .ok (.i2l, 1) := by decide +kernel
theorem dX11_equal_6 : decode cX11_equal 6 = .ok (.invokevirtual 118, 3) := by decide +kernel
theorem dX11_equal_9 : decode cX11_equal 9 = .ok (.astore_n 3, 1) := by decide +kernel
theorem dX11_equal_10 : decode cX11_equal 10 = .ok (.aload_n 0, 1) := by decide +kernel
theorem dX11_equal_11 : decode cX11_equal 11 = .ok (.getfield 12, 3) := by decide +kernel
theorem dX11_equal_14 : decode cX11_equal 14 = .ok (.iload_n 2, 1) := by decide +kernel
theorem dX11_equal_15 : decode cX11_equal 15 = .ok (.i2l, 1) := by decide +kernel
theorem dX11_equal_16 : decode cX11_equal 16 = .ok (.invokevirtual 118, 3) := by decide +kernel
theorem dX11_equal_19 : decode cX11_equal 19 = .ok (.astore 4, 2) := by decide +kernel
theorem dX11_equal_21 : decode cX11_equal 21 = .ok (.aload_n 3, 1) := by decide +kernel
theorem dX11_equal_22 : decode cX11_equal 22 = .ok (.ifnull 8, 3) := by decide +kernel
theorem dX11_equal_25 : decode cX11_equal 25 = .ok (.aload 4, 2) := by decide +kernel
theorem dX11_equal_27 : decode cX11_equal 27 = .ok (.ifnonnull 5, 3) := by decide +kernel
theorem dX11_equal_30 : decode cX11_equal 30 = .ok (.iconst (-1), 1) := by decide +kernel
theorem dX11_equal_31 : decode cX11_equal 31 = .ok (.ireturn, 1) := by decide +kernel
theorem dX11_equal_32 : decode cX11_equal 32 = .ok (.aload_n 0, 1) := by decide +kernel
theorem dX11_equal_33 : decode cX11_equal 33 = .ok (.getfield 37, 3) := by decide +kernel
theorem dX11_equal_36 : decode cX11_equal 36 = .ok (.aload_n 3, 1) := by decide +kernel
theorem dX11_equal_37 : decode cX11_equal 37 = .ok (.aload 4, 2) := by decide +kernel
theorem dX11_equal_39 : decode cX11_equal 39 = .ok (.invokevirtual 292, 3) := by decide +kernel
theorem dX11_equal_42 : decode cX11_equal 42 = .ok (.ifCond .ne 7, 3) := by decide +kernel
theorem dX11_equal_45 : decode cX11_equal 45 = .ok (.iconst 1, 1) := by decide +kernel
theorem dX11_equal_46 : decode cX11_equal 46 = .ok (.goto 4, 3) := by decide +kernel
theorem dX11_equal_49 : decode cX11_equal 49 = .ok (.iconst 0, 1) := by decide +kernel
theorem dX11_equal_50 : decode cX11_equal 50 = .ok (.invokestatic 133, 3) := by decide +kernel
theorem dX11_equal_53 : decode cX11_equal 53 = .ok (.ireturn, 1) := by decide +kernel
def F_X11_equal (d : Nat) (v0 : Option Nm) (v1 : Int32) (v2 : Int32) (h : MH) (u : Nat) (Q : Int32 → MH → Prop) : Prop :=
  gR h v0 10 0 fun x1 =>
  rc h x1 6 ∧ F_X7_findValue d x1 (v1.toInt64) h 0 fun x2 h =>
  gR h v0 10 0 fun x3 =>
  rc h x3 6 ∧ F_X7_findValue d x3 (v2.toInt64) h 0 fun x4 h =>
  nl x2 (
    Q (-1) h) (
    nl x4 (
      Q (-1) h) (
      gR h v0 10 3 fun x5 =>
      rc h x5 0 ∧ iI d u_X0_compareValues [jR x5, jR x2, jR x4] h u fun x6 h u =>
      if x6 = 0 then
        F_X11_oneIf d 1 h 0 fun x8 h =>
        Q x8 h
      else
        F_X11_oneIf d 0 h 0 fun x7 h =>
        Q x7 h))
set_option maxRecDepth 20000 in
theorem E_X11_equal {d : Nat} {v0 : Option Nm} {v1 : Int32} {v2 : Int32} {h : MH} {u : Nat} {Q : Int32 → MH → Prop} (H : F_X11_equal d v0 v1 v2 h u Q) : T u_X11_equal (d + 1) 0 [some (jR v0), some (jI v1), some (jI v2), none, none] [] h u (qI Q) := by
  unfold F_X11_equal at H
  refine T_aload_n (pc := 0) dX11_equal_0 rfl rfl ?_
  refine T_gR (pc := 1) fa_X11_12 dX11_equal_1 (gR_mono (fun x1 H => ?_) H)
  refine T_iload_n (pc := 4) dX11_equal_4 rfl rfl ?_
  refine T_i2l (pc := 5) dX11_equal_5 ?_
  obtain ⟨H0, H⟩ := H
  refine T_iV (pc := 6) (ci := 6) (av := [jL (v1.toInt64)]) (rest := []) (o := x1) dX11_equal_6 mf_X7_findValue c_2_63 c_2_64 c_2_65 rfl rfl (Nat.le_of_ble_eq_true rfl) rfl H0 (iR_k (iR_m0 (fun x2 h H => ?_) (J_X7_findValue (d := d) H)))
  refine T_astore_n (pc := 9) (ls2 := [some (jR v0), some (jI v1), some (jI v2), some (jR x2), none]) dX11_equal_9 rfl (Nat.le_of_ble_eq_true rfl) rfl ?_
  refine T_aload_n (pc := 10) dX11_equal_10 rfl rfl ?_
  refine T_gR (pc := 11) fa_X11_12 dX11_equal_11 (gR_mono (fun x3 H => ?_) H)
  refine T_iload_n (pc := 14) dX11_equal_14 rfl rfl ?_
  refine T_i2l (pc := 15) dX11_equal_15 ?_
  obtain ⟨H0, H⟩ := H
  refine T_iV (pc := 16) (ci := 6) (av := [jL (v2.toInt64)]) (rest := []) (o := x3) dX11_equal_16 mf_X7_findValue c_2_63 c_2_64 c_2_65 rfl rfl (Nat.le_of_ble_eq_true rfl) rfl H0 (iR_k (iR_m0 (fun x4 h H => ?_) (J_X7_findValue (d := d) H)))
  refine T_astore (pc := 19) (ls2 := [some (jR v0), some (jI v1), some (jI v2), some (jR x2), some (jR x4)]) dX11_equal_19 (Nat.le_of_ble_eq_true rfl) rfl ?_
  refine T_aload_n (pc := 21) dX11_equal_21 rfl rfl ?_
  refine T_ifnull (pc := 22) (tgt := 30) dX11_equal_22 (by decide) (fun ho => ?_) (fun n ho => ?_)
  · replace H := nl_n ho H
    refine T_iconst (pc := 30) (v := (-1)) dX11_equal_30 (by decide) ?_
    exact T_ireturn (pc := 31) rfl rfl dX11_equal_31 H
  · replace H := nl_s ho H
    refine T_aload (pc := 25) dX11_equal_25 rfl ?_
    refine T_ifnonnull (pc := 27) (tgt := 32) dX11_equal_27 (by decide) (fun ho => ?_) (fun n ho => ?_)
    · replace H := nl_n ho H
      refine T_iconst (pc := 30) (v := (-1)) dX11_equal_30 (by decide) ?_
      exact T_ireturn (pc := 31) rfl rfl dX11_equal_31 H
    · replace H := nl_s ho H
      refine T_aload_n (pc := 32) dX11_equal_32 rfl rfl ?_
      refine T_gR (pc := 33) fa_X11_37 dX11_equal_33 (gR_mono (fun x5 H => ?_) H)
      refine T_aload_n (pc := 36) dX11_equal_36 rfl rfl ?_
      refine T_aload (pc := 37) dX11_equal_37 rfl ?_
      obtain ⟨H0, H⟩ := H
      refine T_iV (pc := 39) (ci := 0) (av := [jR x2, jR x4]) (rest := []) (o := x5) dX11_equal_39 mf_X0_compareValues c_4_23 c_4_24 c_4_25 rfl rfl (Nat.le_of_ble_eq_true rfl) rfl H0 (iI_k (iI_mono (fun x6 h u H => ?_) H))
      refine T_if_ne (pc := 42) (tgt := 49) dX11_equal_42 (by decide) (fun hc => ?_) (fun hc => ?_)
      · rw [if_neg hc] at H
        refine T_iconst (pc := 49) (v := 0) dX11_equal_49 (by decide) ?_
        refine T_invS (pc := 50) (av := [jI 0]) (rest := []) dX11_equal_50 mf_X11_oneIf c_2_83 c_2_84 rfl (Nat.le_of_ble_eq_true rfl) rfl (iI_k (iI_m0 (fun x7 h H => ?_) (J_X11_oneIf (d := d) H)))
        exact T_ireturn (pc := 53) rfl rfl dX11_equal_53 H
      · rw [if_pos hc] at H
        refine T_iconst (pc := 45) (v := 1) dX11_equal_45 (by decide) ?_
        refine T_goto (pc := 46) (tgt := 50) dX11_equal_46 (by decide) ?_
        refine T_invS (pc := 50) (av := [jI 1]) (rest := []) dX11_equal_50 mf_X11_oneIf c_2_83 c_2_84 rfl (Nat.le_of_ble_eq_true rfl) rfl (iI_k (iI_m0 (fun x8 h H => ?_) (J_X11_oneIf (d := d) H)))
        exact T_ireturn (pc := 53) rfl rfl dX11_equal_53 H
theorem I_X11_equal {d : Nat} {v0 : Option Nm} {v1 : Int32} {v2 : Int32} {h : MH} {u : Nat} {K : Int32 → MH → Nat → Prop} (u1 : Nat) (hu : u1 ≤ u) (H : F_X11_equal d v0 v1 v2 h u1 (fun x h2 => K x h2 (u - u1))) : iI (d + 1) u_X11_equal [jR v0, jI v1, jI v2] h u K := inv.of u1 hu (Ct.of (by decide +kernel) rfl (Nat.le_of_ble_eq_true rfl) rfl (E_X11_equal H))
theorem J_X11_equal {d : Nat} {v0 : Option Nm} {v1 : Int32} {v2 : Int32} {h : MH} {u : Nat} {K : Int32 → MH → Prop} (H : F_X11_equal d v0 v1 v2 h 0 K) : iI (d + 1) u_X11_equal [jR v0, jI v1, jI v2] h u (fun x h2 u2 => K x h2 ∧ u2 = u) := jiI (by decide +kernel) rfl (Nat.le_of_ble_eq_true rfl) rfl (E_X11_equal H)
theorem dX11_family_0 : decode cX11_family 0 = .ok (.iconst 1, 1) := by decide +kernel
theorem dX11_family_1 : decode cX11_family 1 = .ok (.aload_n 0, 1) := by decide +kernel
theorem dX11_family_2 : decode cX11_family 2 = .ok (.getfield 211, 3) := by decide +kernel
theorem dX11_family_5 : decode cX11_family 5 = .ok (.ishl, 1) := by decide +kernel
theorem dX11_family_6 : decode cX11_family 6 = .ok (.iconst 1, 1) := by decide +kernel
theorem dX11_family_7 : decode cX11_family 7 = .ok (.isub, 1) := by decide +kernel
theorem dX11_family_8 : decode cX11_family 8 = .ok (.istore_n 3, 1) := by decide +kernel
theorem dX11_family_9 : decode cX11_family 9 = .ok (.iload_n 1, 1) := by decide +kernel
theorem dX11_family_10 : decode cX11_family 10 = .ok (.iload_n 3, 1) := by decide +kernel
theorem dX11_family_11 : decode cX11_family 11 = .ok (.iconst (-1), 1) := by decide +kernel
theorem dX11_family_12 : decode cX11_family 12 = .ok (.ixor, 1) := by decide +kernel
theorem dX11_family_13 : decode cX11_family 13 = .ok (.iand, 1) := by decide +kernel
theorem dX11_family_14 : decode cX11_family 14 = .ok (.ifCond .eq 6, 3) := by decide +kernel
theorem dX11_family_17 : decode cX11_family 17 = .ok (.bipush (-2), 2) := by decide +kernel
theorem dX11_family_19 : decode cX11_family 19 = .ok (.ireturn, 1) := by decide +kernel
theorem dX11_family_20 : decode cX11_family 20 = .ok (.aload_n 0, 1) := by decide +kernel
theorem dX11_family_21 : decode cX11_family 21 = .ok (.getfield 214, 3) := by decide +kernel
theorem dX11_family_24 : decode cX11_family 24 = .ok (.bipush 8, 2) := by decide +kernel
theorem dX11_family_26 : decode cX11_family 26 = .ok (.if_icmp .lt 6, 3) := by decide +kernel
theorem dX11_family_29 : decode cX11_family 29 = .ok (.bipush (-4), 2) := by decide +kernel
theorem dX11_family_31 : decode cX11_family 31 = .ok (.ireturn, 1) := by decide +kernel
theorem dX11_family_32 : decode cX11_family 32 = .ok (.aload_n 0, 1) := by decide +kernel
theorem dX11_family_33 : decode cX11_family 33 = .ok (.getfield 54, 3) := by decide +kernel
theorem dX11_family_36 : decode cX11_family 36 = .ok (.aload_n 0, 1) := by decide +kernel
theorem dX11_family_37 : decode cX11_family 37 = .ok (.getfield 214, 3) := by decide +kernel
theorem dX11_family_40 : decode cX11_family 40 = .ok (.iload_n 1, 1) := by decide +kernel
theorem dX11_family_41 : decode cX11_family 41 = .ok (.iastore, 1) := by decide +kernel
theorem dX11_family_42 : decode cX11_family 42 = .ok (.aload_n 0, 1) := by decide +kernel
theorem dX11_family_43 : decode cX11_family 43 = .ok (.getfield 58, 3) := by decide +kernel
theorem dX11_family_46 : decode cX11_family 46 = .ok (.aload_n 0, 1) := by decide +kernel
theorem dX11_family_47 : decode cX11_family 47 = .ok (.getfield 214, 3) := by decide +kernel
theorem dX11_family_50 : decode cX11_family 50 = .ok (.iload_n 2, 1) := by decide +kernel
theorem dX11_family_51 : decode cX11_family 51 = .ok (.bastore, 1) := by decide +kernel
theorem dX11_family_52 : decode cX11_family 52 = .ok (.aload_n 0, 1) := by decide +kernel
theorem dX11_family_53 : decode cX11_family 53 = .ok (.dup, 1) := by decide +kernel
theorem dX11_family_54 : decode cX11_family 54 = .ok (.getfield 214, 3) := by decide +kernel
theorem dX11_family_57 : decode cX11_family 57 = .ok (.iconst 1, 1) := by decide +kernel
theorem dX11_family_58 : decode cX11_family 58 = .ok (.iadd, 1) := by decide +kernel
theorem dX11_family_59 : decode cX11_family 59 = .ok (.putfield 214, 3) := by decide +kernel
theorem dX11_family_62 : decode cX11_family 62 = .ok (.aload_n 0, 1) := by decide +kernel
theorem dX11_family_63 : decode cX11_family 63 = .ok (.getfield 214, 3) := by decide +kernel
theorem dX11_family_66 : decode cX11_family 66 = .ok (.iconst 1, 1) := by decide +kernel
theorem dX11_family_67 : decode cX11_family 67 = .ok (.isub, 1) := by decide +kernel
theorem dX11_family_68 : decode cX11_family 68 = .ok (.ireturn, 1) := by decide +kernel
def F_X11_family (d : Nat) (v0 : Option Nm) (v1 : Int32) (v2 : Int32) (h : MH) (u : Nat) (Q : Int32 → MH → Prop) : Prop :=
  gI h v0 10 8 fun x1 =>
  nm (((1 : Int32) <<< (x1 &&& 31)) - 1) fun x2 =>
  if (v1 &&& (x2 ^^^ (-1))) = 0 then
    gI h v0 10 9 fun x3 =>
    if x3 < 8 then
      gR h v0 10 6 fun x4 =>
      gI h v0 10 9 fun x5 =>
      sV .int h x4 x5 (jI v1) fun h =>
      gR h v0 10 7 fun x6 =>
      gI h v0 10 9 fun x7 =>
      sV .boolean h x6 x7 (jI (vp_nar .boolean v2)) fun h =>
      gI h v0 10 9 fun x8 =>
      pV h v0 10 9 (jI (x8 + 1)) fun h =>
      gI h v0 10 9 fun x9 =>
      Q (x9 - 1) h
    else
      Q (-4) h
  else
    Q (-2) h
set_option maxRecDepth 20000 in
theorem E_X11_family {d : Nat} {v0 : Option Nm} {v1 : Int32} {v2 : Int32} {h : MH} {u : Nat} {Q : Int32 → MH → Prop} (H : F_X11_family d v0 v1 v2 h u Q) : T u_X11_family d 0 [some (jR v0), some (jI v1), some (jI v2), none] [] h u (qI Q) := by
  unfold F_X11_family at H
  refine T_iconst (pc := 0) (v := 1) dX11_family_0 (by decide) ?_
  refine T_aload_n (pc := 1) dX11_family_1 rfl rfl ?_
  refine T_gI (pc := 2) fa_X11_211 dX11_family_2 (gI_mono (fun x1 H => ?_) H)
  refine T_ishl (pc := 5) dX11_family_5 ?_
  refine T_iconst (pc := 6) (v := 1) dX11_family_6 (by decide) ?_
  refine T_isub (pc := 7) dX11_family_7 ?_
  refine T_istoreK (pc := 8) (i := 0) (I := .nop) (len := 1) (f := fun x2 => [some (jR v0), some (jI v1), some (jI v2), some (jI x2)]) (fun x2 k => T_istore_n (pc := 8) dX11_family_8 rfl (Nat.le_of_ble_eq_true rfl) rfl k) (nm_mono (fun x2 H => ?_) H)
  refine T_iload_n (pc := 9) dX11_family_9 rfl rfl ?_
  refine T_iload_n (pc := 10) dX11_family_10 rfl rfl ?_
  refine T_iconst (pc := 11) (v := (-1)) dX11_family_11 (by decide) ?_
  refine T_ixor (pc := 12) dX11_family_12 ?_
  refine T_iand (pc := 13) dX11_family_13 ?_
  refine T_if_eq (pc := 14) (tgt := 20) dX11_family_14 (by decide) (fun hc => ?_) (fun hc => ?_)
  · rw [if_pos hc] at H
    refine T_aload_n (pc := 20) dX11_family_20 rfl rfl ?_
    refine T_gI (pc := 21) fa_X11_214 dX11_family_21 (gI_mono (fun x3 H => ?_) H)
    refine T_bipush (pc := 24) (v := 8) dX11_family_24 (by decide) ?_
    refine T_icmp_lt (pc := 26) (tgt := 32) dX11_family_26 (by decide) (fun hc => ?_) (fun hc => ?_)
    · rw [if_pos hc] at H
      refine T_aload_n (pc := 32) dX11_family_32 rfl rfl ?_
      refine T_gR (pc := 33) fa_X11_54 dX11_family_33 (gR_mono (fun x4 H => ?_) H)
      refine T_aload_n (pc := 36) dX11_family_36 rfl rfl ?_
      refine T_gI (pc := 37) fa_X11_214 dX11_family_37 (gI_mono (fun x5 H => ?_) H)
      refine T_iload_n (pc := 40) dX11_family_40 rfl rfl ?_
      refine T_sI (pc := 41) dX11_family_41 (sV_mono (fun h H => ?_) H)
      refine T_aload_n (pc := 42) dX11_family_42 rfl rfl ?_
      refine T_gR (pc := 43) fa_X11_58 dX11_family_43 (gR_mono (fun x6 H => ?_) H)
      refine T_aload_n (pc := 46) dX11_family_46 rfl rfl ?_
      refine T_gI (pc := 47) fa_X11_214 dX11_family_47 (gI_mono (fun x7 H => ?_) H)
      refine T_iload_n (pc := 50) dX11_family_50 rfl rfl ?_
      refine T_sZ (pc := 51) dX11_family_51 (sV_mono (fun h H => ?_) H)
      refine T_aload_n (pc := 52) dX11_family_52 rfl rfl ?_
      refine T_dup (pc := 53) rfl dX11_family_53 ?_
      refine T_gI (pc := 54) fa_X11_214 dX11_family_54 (gI_mono (fun x8 H => ?_) H)
      refine T_iconst (pc := 57) (v := 1) dX11_family_57 (by decide) ?_
      refine T_iadd (pc := 58) dX11_family_58 ?_
      refine T_pV (pc := 59) fa_X11_214 dX11_family_59 trivial (pV_mono (fun h H => ?_) H)
      refine T_aload_n (pc := 62) dX11_family_62 rfl rfl ?_
      refine T_gI (pc := 63) fa_X11_214 dX11_family_63 (gI_mono (fun x9 H => ?_) H)
      refine T_iconst (pc := 66) (v := 1) dX11_family_66 (by decide) ?_
      refine T_isub (pc := 67) dX11_family_67 ?_
      exact T_ireturn (pc := 68) rfl rfl dX11_family_68 H
    · rw [if_neg hc] at H
      refine T_bipush (pc := 29) (v := (-4)) dX11_family_29 (by decide) ?_
      exact T_ireturn (pc := 31) rfl rfl dX11_family_31 H
  · rw [if_neg hc] at H
    refine T_bipush (pc := 17) (v := (-2)) dX11_family_17 (by decide) ?_
    exact T_ireturn (pc := 19) rfl rfl dX11_family_19 H
theorem I_X11_family {d : Nat} {v0 : Option Nm} {v1 : Int32} {v2 : Int32} {h : MH} {u : Nat} {K : Int32 → MH → Nat → Prop} (u1 : Nat) (hu : u1 ≤ u) (H : F_X11_family d v0 v1 v2 h u1 (fun x h2 => K x h2 (u - u1))) : iI d u_X11_family [jR v0, jI v1, jI v2] h u K := inv.of u1 hu (Ct.of (by decide +kernel) rfl (Nat.le_of_ble_eq_true rfl) rfl (E_X11_family H))
theorem J_X11_family {d : Nat} {v0 : Option Nm} {v1 : Int32} {v2 : Int32} {h : MH} {u : Nat} {K : Int32 → MH → Prop} (H : F_X11_family d v0 v1 v2 h 0 K) : iI d u_X11_family [jR v0, jI v1, jI v2] h u (fun x h2 u2 => K x h2 ∧ u2 = u) := jiI (by decide +kernel) rfl (Nat.le_of_ble_eq_true rfl) rfl (E_X11_family H)
theorem dX11_fault_0 : decode cX11_fault 0 = .ok (.aload_n 0, 1) := by decide +kernel
theorem dX11_fault_1 : decode cX11_fault 1 = .ok (.getfield 326, 3) := by decide +kernel
theorem dX11_fault_4 : decode cX11_fault 4 = .ok (.ireturn, 1) := by decide +kernel
def F_X11_fault (d : Nat) (v0 : Option Nm) (h : MH) (u : Nat) (Q : Int32 → MH → Prop) : Prop :=
  gI h v0 10 12 fun x1 =>
  Q x1 h
set_option maxRecDepth 20000 in
theorem E_X11_fault {d : Nat} {v0 : Option Nm} {h : MH} {u : Nat} {Q : Int32 → MH → Prop} (H : F_X11_fault d v0 h u Q) : T u_X11_fault d 0 [some (jR v0)] [] h u (qI Q) := by
  unfold F_X11_fault at H
  refine T_aload_n (pc := 0) dX11_fault_0 rfl rfl ?_
  refine T_gI (pc := 1) fa_X11_326 dX11_fault_1 (gI_mono (fun x1 H => ?_) H)
  exact T_ireturn (pc := 4) rfl rfl dX11_fault_4 H
theorem I_X11_fault {d : Nat} {v0 : Option Nm} {h : MH} {u : Nat} {K : Int32 → MH → Nat → Prop} (u1 : Nat) (hu : u1 ≤ u) (H : F_X11_fault d v0 h u1 (fun x h2 => K x h2 (u - u1))) : iI d u_X11_fault [jR v0] h u K := inv.of u1 hu (Ct.of (by decide +kernel) rfl (Nat.le_of_ble_eq_true rfl) rfl (E_X11_fault H))
theorem J_X11_fault {d : Nat} {v0 : Option Nm} {h : MH} {u : Nat} {K : Int32 → MH → Prop} (H : F_X11_fault d v0 h 0 K) : iI d u_X11_fault [jR v0] h u (fun x h2 u2 => K x h2 ∧ u2 = u) := jiI (by decide +kernel) rfl (Nat.le_of_ble_eq_true rfl) rfl (E_X11_fault H)
theorem dX1_needsTwin_0 : decode cX1_needsTwin 0 = .ok (.aload_n 0, 1) := by decide +kernel
theorem dX1_needsTwin_1 : decode cX1_needsTwin 1 = .ok (.ifnull 28, 3) := by decide +kernel
theorem dX1_needsTwin_4 : decode cX1_needsTwin 4 = .ok (.aload_n 0, 1) := by decide +kernel
theorem dX1_needsTwin_5 : decode cX1_needsTwin 5 = .ok (.getfield 119, 3) := by decide +kernel
theorem dX1_needsTwin_8 : decode cX1_needsTwin 8 = .ok (.ifCond .ne 21, 3) := by decide +kernel
theorem dX1_needsTwin_11 : decode cX1_needsTwin 11 = .ok (.aload_n 0, 1) := by decide +kernel
theorem dX1_needsTwin_12 : decode cX1_needsTwin 12 = .ok (.getfield 98, 3) := by decide +kernel
theorem dX1_needsTwin_15 : decode cX1_needsTwin 15 = .ok (.bipush 8, 2) := by decide +kernel
theorem dX1_needsTwin_17 : decode cX1_needsTwin 17 = .ok (.if_icmp .eq 8, 3) := by decide +kernel
theorem dX1_needsTwin_20 : decode cX1_needsTwin 20 = .ok (.iload_n 1, 1) := by decide +kernel
theorem dX1_needsTwin_21 : decode cX1_needsTwin 21 = .ok (.iconst 4, 1) := by decide +kernel
theorem dX1_needsTwin_22 : decode cX1_needsTwin 22 = .ok (.if_icmp .ne 7, 3) := by decide +kernel
theorem dX1_needsTwin_25 : decode cX1_needsTwin 25 = .ok (.iconst 1, 1) := by decide +kernel
theorem dX1_needsTwin_26 : decode cX1_needsTwin 26 = .ok (.goto 4, 3) := by decide +kernel
theorem dX1_needsTwin_29 : decode cX1_needsTwin 29 = .ok (.iconst 0, 1) := by decide +kernel
theorem dX1_needsTwin_30 : decode cX1_needsTwin 30 = .ok (.ireturn, 1) := by decide +kernel
def F_X1_needsTwin (d : Nat) (v0 : Option Nm) (v1 : Int32) (h : MH) (u : Nat) (Q : Int32 → MH → Prop) : Prop :=
  nl v0 (
    nz 0 ∧ Q 0 h) (
    gI h v0 4 3 fun x1 =>
    if x1 = 0 then
      gI h v0 4 1 fun x2 =>
      if x2 = 8 then
        nz 1 ∧ Q 1 h
      else
        if v1 = 4 then
          nz 1 ∧ Q 1 h
        else
          nz 0 ∧ Q 0 h
    else
      nz 0 ∧ Q 0 h)
set_option maxRecDepth 20000 in
theorem E_X1_needsTwin {d : Nat} {v0 : Option Nm} {v1 : Int32} {h : MH} {u : Nat} {Q : Int32 → MH → Prop} (H : F_X1_needsTwin d v0 v1 h u Q) : T u_X1_needsTwin d 0 [some (jR v0), some (jI v1)] [] h u (qI Q) := by
  unfold F_X1_needsTwin at H
  refine T_aload_n (pc := 0) dX1_needsTwin_0 rfl rfl ?_
  refine T_ifnull (pc := 1) (tgt := 29) dX1_needsTwin_1 (by decide) (fun ho => ?_) (fun n ho => ?_)
  · replace H := nl_n ho H
    refine T_iconst (pc := 29) (v := 0) dX1_needsTwin_29 (by decide) ?_
    exact T_ireturn (pc := 30) rfl (nz_nar H.1) dX1_needsTwin_30 H.2
  · replace H := nl_s ho H
    refine T_aload_n (pc := 4) dX1_needsTwin_4 rfl rfl ?_
    refine T_gI (pc := 5) fa_X1_119 dX1_needsTwin_5 (gI_mono (fun x1 H => ?_) H)
    refine T_if_ne (pc := 8) (tgt := 29) dX1_needsTwin_8 (by decide) (fun hc => ?_) (fun hc => ?_)
    · rw [if_neg hc] at H
      refine T_iconst (pc := 29) (v := 0) dX1_needsTwin_29 (by decide) ?_
      exact T_ireturn (pc := 30) rfl (nz_nar H.1) dX1_needsTwin_30 H.2
    · rw [if_pos hc] at H
      refine T_aload_n (pc := 11) dX1_needsTwin_11 rfl rfl ?_
      refine T_gI (pc := 12) fa_X1_98 dX1_needsTwin_12 (gI_mono (fun x2 H => ?_) H)
      refine T_bipush (pc := 15) (v := 8) dX1_needsTwin_15 (by decide) ?_
      refine T_icmp_eq (pc := 17) (tgt := 25) dX1_needsTwin_17 (by decide) (fun hc => ?_) (fun hc => ?_)
      · rw [if_pos hc] at H
        refine T_iconst (pc := 25) (v := 1) dX1_needsTwin_25 (by decide) ?_
        refine T_goto (pc := 26) (tgt := 30) dX1_needsTwin_26 (by decide) ?_
        exact T_ireturn (pc := 30) rfl (nz_nar H.1) dX1_needsTwin_30 H.2
      · rw [if_neg hc] at H
        refine T_iload_n (pc := 20) dX1_needsTwin_20 rfl rfl ?_
        refine T_iconst (pc := 21) (v := 4) dX1_needsTwin_21 (by decide) ?_
        refine T_icmp_ne (pc := 22) (tgt := 29) dX1_needsTwin_22 (by decide) (fun hc => ?_) (fun hc => ?_)
        · rw [if_neg hc] at H
          refine T_iconst (pc := 29) (v := 0) dX1_needsTwin_29 (by decide) ?_
          exact T_ireturn (pc := 30) rfl (nz_nar H.1) dX1_needsTwin_30 H.2
        · rw [if_pos hc] at H
          refine T_iconst (pc := 25) (v := 1) dX1_needsTwin_25 (by decide) ?_
          refine T_goto (pc := 26) (tgt := 30) dX1_needsTwin_26 (by decide) ?_
          exact T_ireturn (pc := 30) rfl (nz_nar H.1) dX1_needsTwin_30 H.2
theorem I_X1_needsTwin {d : Nat} {v0 : Option Nm} {v1 : Int32} {h : MH} {u : Nat} {K : Int32 → MH → Nat → Prop} (u1 : Nat) (hu : u1 ≤ u) (H : F_X1_needsTwin d v0 v1 h u1 (fun x h2 => K x h2 (u - u1))) : iI d u_X1_needsTwin [jR v0, jI v1] h u K := inv.of u1 hu (Ct.of (by decide +kernel) rfl (Nat.le_of_ble_eq_true rfl) rfl (E_X1_needsTwin H))
theorem J_X1_needsTwin {d : Nat} {v0 : Option Nm} {v1 : Int32} {h : MH} {u : Nat} {K : Int32 → MH → Prop} (H : F_X1_needsTwin d v0 v1 h 0 K) : iI d u_X1_needsTwin [jR v0, jI v1] h u (fun x h2 u2 => K x h2 ∧ u2 = u) := jiI (by decide +kernel) rfl (Nat.le_of_ble_eq_true rfl) rfl (E_X1_needsTwin H)
theorem dX1_rowOf_0 : decode cX1_rowOf 0 = .ok (.aload_n 1, 1) := by decide +kernel
theorem dX1_rowOf_1 : decode cX1_rowOf 1 = .ok (.getfield 25, 3) := by decide +kernel
theorem dX1_rowOf_4 : decode cX1_rowOf 4 = .ok (.iload_n 2, 1) := by decide +kernel
theorem dX1_rowOf_5 : decode cX1_rowOf 5 = .ok (.iaload, 1) := by decide +kernel
theorem dX1_rowOf_6 : decode cX1_rowOf 6 = .ok (.bipush 9, 2) := by decide +kernel
theorem dX1_rowOf_8 : decode cX1_rowOf 8 = .ok (.if_icmp .ne 19, 3) := by decide +kernel
theorem dX1_rowOf_11 : decode cX1_rowOf 11 = .ok (.aload_n 0, 1) := by decide +kernel
theorem dX1_rowOf_12 : decode cX1_rowOf 12 = .ok (.getfield 9, 3) := by decide +kernel
theorem dX1_rowOf_15 : decode cX1_rowOf 15 = .ok (.aload_n 0, 1) := by decide +kernel
theorem dX1_rowOf_16 : decode cX1_rowOf 16 = .ok (.getfield 15, 3) := by decide +kernel
theorem dX1_rowOf_19 : decode cX1_rowOf 19 = .ok (.iload_n 2, 1) := by decide +kernel
theorem dX1_rowOf_20 : decode cX1_rowOf 20 = .ok (.laload, 1) := by decide +kernel
theorem dX1_rowOf_21 : decode cX1_rowOf 21 = .ok (.invokevirtual 115, 3) := by decide +kernel
theorem dX1_rowOf_24 : decode cX1_rowOf 24 = .ok (.goto 4, 3) := by decide +kernel
theorem dX1_rowOf_27 : decode cX1_rowOf 27 = .ok (.aconst_null, 1) := by decide +kernel
theorem dX1_rowOf_28 : decode cX1_rowOf 28 = .ok (.areturn, 1) := by decide +kernel
def F_X1_rowOf (d : Nat) (v0 : Option Nm) (v1 : Option Nm) (v2 : Int32) (h : MH) (u : Nat) (Q : Option Nm → MH → Prop) : Prop :=
  gR h v1 2 2 fun x1 =>
  aI .int h x1 v2 fun x2 =>
  if x2 = 9 then
    gR h v0 1 0 fun x3 =>
    gR h v0 1 1 fun x4 =>
    aL h x4 v2 fun x5 =>
    rc h x3 6 ∧ F_X7_findRow d x3 x5 h 0 fun x6 h =>
    Q x6 h
  else
    Q none h
set_option maxRecDepth 20000 in
theorem E_X1_rowOf {d : Nat} {v0 : Option Nm} {v1 : Option Nm} {v2 : Int32} {h : MH} {u : Nat} {Q : Option Nm → MH → Prop} (H : F_X1_rowOf d v0 v1 v2 h u Q) : T u_X1_rowOf (d + 1) 0 [some (jR v0), some (jR v1), some (jI v2)] [] h u (qR Q) := by
  unfold F_X1_rowOf at H
  refine T_aload_n (pc := 0) dX1_rowOf_0 rfl rfl ?_
  refine T_gR (pc := 1) fa_X1_25 dX1_rowOf_1 (gR_mono (fun x1 H => ?_) H)
  refine T_iload_n (pc := 4) dX1_rowOf_4 rfl rfl ?_
  refine T_aI (pc := 5) dX1_rowOf_5 (aI_mono (fun x2 H => ?_) H)
  refine T_bipush (pc := 6) (v := 9) dX1_rowOf_6 (by decide) ?_
  refine T_icmp_ne (pc := 8) (tgt := 27) dX1_rowOf_8 (by decide) (fun hc => ?_) (fun hc => ?_)
  · rw [if_neg hc] at H
    refine T_null (pc := 27) dX1_rowOf_27 ?_
    exact T_areturn (pc := 28) rfl (Or.inl ⟨_, rfl⟩) dX1_rowOf_28 H
  · rw [if_pos hc] at H
    refine T_aload_n (pc := 11) dX1_rowOf_11 rfl rfl ?_
    refine T_gR (pc := 12) fa_X1_9 dX1_rowOf_12 (gR_mono (fun x3 H => ?_) H)
    refine T_aload_n (pc := 15) dX1_rowOf_15 rfl rfl ?_
    refine T_gR (pc := 16) fa_X1_15 dX1_rowOf_16 (gR_mono (fun x4 H => ?_) H)
    refine T_iload_n (pc := 19) dX1_rowOf_19 rfl rfl ?_
    refine T_aL (pc := 20) dX1_rowOf_20 (aL_mono (fun x5 H => ?_) H)
    obtain ⟨H0, H⟩ := H
    refine T_iV (pc := 21) (ci := 6) (av := [jL x5]) (rest := []) (o := x3) dX1_rowOf_21 mf_X7_findRow c_3_173 c_2_2 c_2_3 rfl rfl (Nat.le_of_ble_eq_true rfl) rfl H0 (iR_k (iR_m0 (fun x6 h H => ?_) (J_X7_findRow (d := d) H)))
    refine T_goto (pc := 24) (tgt := 28) dX1_rowOf_24 (by decide) ?_
    exact T_areturn (pc := 28) rfl (Or.inl ⟨_, rfl⟩) dX1_rowOf_28 H
theorem I_X1_rowOf {d : Nat} {v0 : Option Nm} {v1 : Option Nm} {v2 : Int32} {h : MH} {u : Nat} {K : Option Nm → MH → Nat → Prop} (u1 : Nat) (hu : u1 ≤ u) (H : F_X1_rowOf d v0 v1 v2 h u1 (fun x h2 => K x h2 (u - u1))) : iR (d + 1) u_X1_rowOf [jR v0, jR v1, jI v2] h u K := inv.of u1 hu (Ct.of (by decide +kernel) rfl (Nat.le_of_ble_eq_true rfl) rfl (E_X1_rowOf H))
theorem J_X1_rowOf {d : Nat} {v0 : Option Nm} {v1 : Option Nm} {v2 : Int32} {h : MH} {u : Nat} {K : Option Nm → MH → Prop} (H : F_X1_rowOf d v0 v1 v2 h 0 K) : iR (d + 1) u_X1_rowOf [jR v0, jR v1, jI v2] h u (fun x h2 u2 => K x h2 ∧ u2 = u) := jiR (by decide +kernel) rfl (Nat.le_of_ble_eq_true rfl) rfl (E_X1_rowOf H)
theorem dX1_countTwins_0 : decode cX1_countTwins 0 = .ok (.iconst 0, 1) := by decide +kernel
theorem dX1_countTwins_1 : decode cX1_countTwins 1 = .ok (.istore_n 3, 1) := by decide +kernel
theorem dX1_countTwins_2 : decode cX1_countTwins 2 = .ok (.iconst 0, 1) := by decide +kernel
theorem dX1_countTwins_3 : decode cX1_countTwins 3 = .ok (.istore 4, 2) := by decide +kernel
theorem dX1_countTwins_5 : decode cX1_countTwins 5 = .ok (.iload 4, 2) := by decide +kernel
theorem dX1_countTwins_7 : decode cX1_countTwins 7 = .ok (.aload_n 1, 1) := by decide +kernel
theorem dX1_countTwins_8 : decode cX1_countTwins 8 = .ok (.getfield 19, 3) := by decide +kernel
theorem dX1_countTwins_11 : decode cX1_countTwins 11 = .ok (.if_icmp .ge 26, 3) := by decide +kernel
theorem dX1_countTwins_14 : decode cX1_countTwins 14 = .ok (.aload_n 0, 1) := by decide +kernel
theorem dX1_countTwins_15 : decode cX1_countTwins 15 = .ok (.aload_n 1, 1) := by decide +kernel
theorem dX1_countTwins_16 : decode cX1_countTwins 16 = .ok (.iload 4, 2) := by decide +kernel
theorem dX1_countTwins_18 : decode cX1_countTwins 18 = .ok (.invokevirtual 69, 3) := by decide +kernel
theorem dX1_countTwins_21 : decode cX1_countTwins 21 = .ok (.iload_n 2, 1) := by decide +kernel
theorem dX1_countTwins_22 : decode cX1_countTwins 22 = .ok (.invokestatic 73, 3) := by decide +kernel
theorem dX1_countTwins_25 : decode cX1_countTwins 25 = .ok (.ifCond .eq 6, 3) := by decide +kernel
theorem dX1_countTwins_28 : decode cX1_countTwins 28 = .ok (.iinc 3 1, 3) := by decide +kernel
theorem dX1_countTwins_31 : decode cX1_countTwins 31 = .ok (.iinc 4 1, 3) := by decide +kernel
theorem dX1_countTwins_34 : decode cX1_countTwins 34 = .ok (.goto (-29), 3) := by decide +kernel
theorem dX1_countTwins_37 : decode cX1_countTwins 37 = .ok (.iload_n 3, 1) := by decide +kernel
theorem dX1_countTwins_38 : decode cX1_countTwins 38 = .ok (.ireturn, 1) := by decide +kernel
def L_X1_countTwins_5 (d : Nat) (v0 : Option Nm) (v1 : Option Nm) (v2 : Int32) (v3 : Int32) (v4 : Int32) (h : MH) (u : Nat) (Q : Int32 → MH → Prop) : Prop := T u_X1_countTwins (d + 2) 5 [some (jR v0), some (jR v1), some (jI v2), some (jI v3), some (jI v4)] [] h u (qI Q)
def F_X1_countTwins (d : Nat) (v0 : Option Nm) (v1 : Option Nm) (v2 : Int32) (h : MH) (u : Nat) (Q : Int32 → MH → Prop) : Prop :=
  L_X1_countTwins_5 d v0 v1 v2 0 0 h u Q
set_option maxRecDepth 20000 in
theorem E_X1_countTwins {d : Nat} {v0 : Option Nm} {v1 : Option Nm} {v2 : Int32} {h : MH} {u : Nat} {Q : Int32 → MH → Prop} (H : F_X1_countTwins d v0 v1 v2 h u Q) : T u_X1_countTwins (d + 2) 0 [some (jR v0), some (jR v1), some (jI v2), none, none] [] h u (qI Q) := by
  unfold F_X1_countTwins at H
  refine T_iconst (pc := 0) (v := 0) dX1_countTwins_0 (by decide) ?_
  refine T_istore_n (pc := 1) (ls2 := [some (jR v0), some (jR v1), some (jI v2), some (jI 0), none]) dX1_countTwins_1 rfl (Nat.le_of_ble_eq_true rfl) rfl ?_
  refine T_iconst (pc := 2) (v := 0) dX1_countTwins_2 (by decide) ?_
  refine T_istore (pc := 3) (ls2 := [some (jR v0), some (jR v1), some (jI v2), some (jI 0), some (jI 0)]) dX1_countTwins_3 (Nat.le_of_ble_eq_true rfl) rfl ?_
  exact T.forget H ⟨rfl, rfl, rfl, rfl, rfl, trivial⟩
def F_X1_countTwins_5 (d : Nat) (v0 : Option Nm) (v1 : Option Nm) (v2 : Int32) (v3 : Int32) (v4 : Int32) (h : MH) (u : Nat) (Q : Int32 → MH → Prop) : Prop :=
  gI h v1 2 4 fun x1 =>
  if x1 ≤ v4 then
    Q v3 h
  else
    rc h v0 1 ∧ F_X1_rowOf d v0 v1 v4 h 0 fun x2 h =>
    F_X1_needsTwin (d + 1) x2 v2 h 0 fun x3 h =>
    if x3 = 0 then
      L_X1_countTwins_5 d v0 v1 v2 v3 (v4 + 1) h u Q
    else
      L_X1_countTwins_5 d v0 v1 v2 (v3 + 1) (v4 + 1) h u Q
set_option maxRecDepth 20000 in
theorem E_X1_countTwins_5 {d : Nat} {v0 : Option Nm} {v1 : Option Nm} {v2 : Int32} {v3 : Int32} {v4 : Int32} {h : MH} {u : Nat} {Q : Int32 → MH → Prop} (H : F_X1_countTwins_5 d v0 v1 v2 v3 v4 h u Q) : T u_X1_countTwins (d + 2) 5 [some (jR v0), some (jR v1), some (jI v2), some (jI v3), some (jI v4)] [] h u (qI Q) := by
  unfold F_X1_countTwins_5 at H
  refine T_iload (pc := 5) dX1_countTwins_5 rfl ?_
  refine T_aload_n (pc := 7) dX1_countTwins_7 rfl rfl ?_
  refine T_gI (pc := 8) fa_X1_19 dX1_countTwins_8 (gI_mono (fun x1 H => ?_) H)
  refine T_icmp_ge (pc := 11) (tgt := 37) dX1_countTwins_11 (by decide) (fun hc => ?_) (fun hc => ?_)
  · rw [if_pos hc] at H
    refine T_iload_n (pc := 37) dX1_countTwins_37 rfl rfl ?_
    exact T_ireturn (pc := 38) rfl rfl dX1_countTwins_38 H
  · rw [if_neg hc] at H
    refine T_aload_n (pc := 14) dX1_countTwins_14 rfl rfl ?_
    refine T_aload_n (pc := 15) dX1_countTwins_15 rfl rfl ?_
    refine T_iload (pc := 16) dX1_countTwins_16 rfl ?_
    obtain ⟨H0, H⟩ := H
    refine T_iV (pc := 18) (ci := 1) (av := [jR v1, jI v4]) (rest := []) (o := v0) dX1_countTwins_18 mf_X1_rowOf c_3_169 c_3_171 pr_X1_rowOf rfl rfl (Nat.le_of_ble_eq_true rfl) rfl H0 (iR_k (iR_m0 (fun x2 h H => ?_) (J_X1_rowOf (d := d) H)))
    refine T_iload_n (pc := 21) dX1_countTwins_21 rfl rfl ?_
    refine T_invS (pc := 22) (av := [jR x2, jI v2]) (rest := []) dX1_countTwins_22 mf_X1_needsTwin c_3_174 c_3_175 rfl (Nat.le_of_ble_eq_true rfl) rfl (iI_k (iI_m0 (fun x3 h H => ?_) (J_X1_needsTwin (d := (d + 1)) H)))
    refine T_if_eq (pc := 25) (tgt := 31) dX1_countTwins_25 (by decide) (fun hc => ?_) (fun hc => ?_)
    · rw [if_pos hc] at H
      refine T_iinc (pc := 31) (v := v4 + 1) (ls2 := [some (jR v0), some (jR v1), some (jI v2), some (jI v3), some (jI (v4 + 1))]) dX1_countTwins_31 rfl rfl (Nat.le_of_ble_eq_true rfl) rfl ?_
      refine T_goto (pc := 34) (tgt := 5) dX1_countTwins_34 (by decide) ?_
      exact T.forget H ⟨rfl, rfl, rfl, rfl, rfl, trivial⟩
    · rw [if_neg hc] at H
      refine T_iinc (pc := 28) (v := v3 + 1) (ls2 := [some (jR v0), some (jR v1), some (jI v2), some (jI (v3 + 1)), some (jI v4)]) dX1_countTwins_28 rfl rfl (Nat.le_of_ble_eq_true rfl) rfl ?_
      refine T_iinc (pc := 31) (v := v4 + 1) (ls2 := [some (jR v0), some (jR v1), some (jI v2), some (jI (v3 + 1)), some (jI (v4 + 1))]) dX1_countTwins_31 rfl rfl (Nat.le_of_ble_eq_true rfl) rfl ?_
      refine T_goto (pc := 34) (tgt := 5) dX1_countTwins_34 (by decide) ?_
      exact T.forget H ⟨rfl, rfl, rfl, rfl, rfl, trivial⟩
theorem I_X1_countTwins {d : Nat} {v0 : Option Nm} {v1 : Option Nm} {v2 : Int32} {h : MH} {u : Nat} {K : Int32 → MH → Nat → Prop} (u1 : Nat) (hu : u1 ≤ u) (H : F_X1_countTwins d v0 v1 v2 h u1 (fun x h2 => K x h2 (u - u1))) : iI (d + 2) u_X1_countTwins [jR v0, jR v1, jI v2] h u K := inv.of u1 hu (Ct.of (by decide +kernel) rfl (Nat.le_of_ble_eq_true rfl) rfl (E_X1_countTwins H))
theorem J_X1_countTwins {d : Nat} {v0 : Option Nm} {v1 : Option Nm} {v2 : Int32} {h : MH} {u : Nat} {K : Int32 → MH → Prop} (H : F_X1_countTwins d v0 v1 v2 h 0 K) : iI (d + 2) u_X1_countTwins [jR v0, jR v1, jI v2] h u (fun x h2 u2 => K x h2 ∧ u2 = u) := jiI (by decide +kernel) rfl (Nat.le_of_ble_eq_true rfl) rfl (E_X1_countTwins H)
theorem dX1_measureThing_0 : decode cX1_measureThing 0 = .ok (.aload_n 0, 1) := by decide +kernel
theorem dX1_measureThing_1 : decode cX1_measureThing 1 = .ok (.getfield 9, 3) := by decide +kernel
theorem dX1_measureThing_4 : decode cX1_measureThing 4 = .ok (.lload_n 1, 1) := by decide +kernel
theorem dX1_measureThing_5 : decode cX1_measureThing 5 = .ok (.invokevirtual 130, 3) := by decide +kernel
theorem dX1_measureThing_8 : decode cX1_measureThing 8 = .ok (.astore_n 3, 1) := by decide +kernel
theorem dX1_measureThing_9 : decode cX1_measureThing 9 = .ok (.aload_n 3, 1) := by decide +kernel
theorem dX1_measureThing_10 : decode cX1_measureThing 10 = .ok (.ifnull 33, 3) := by decide +kernel
theorem dX1_measureThing_13 : decode cX1_measureThing 13 = .ok (.aload_n 0, 1) := by decide +kernel
theorem dX1_measureThing_14 : decode cX1_measureThing 14 = .ok (.dup, 1) := by decide +kernel
theorem dX1_measureThing_15 : decode cX1_measureThing 15 = .ok (.getfield 88, 3) := by decide +kernel
theorem dX1_measureThing_18 : decode cX1_measureThing 18 = .ok (.aload_n 3, 1) := by decide +kernel
theorem dX1_measureThing_19 : decode cX1_measureThing 19 = .ok (.getfield 134, 3) := by decide +kernel
theorem dX1_measureThing_22 : decode cX1_measureThing 22 = .ok (.iadd, 1) := by decide +kernel
theorem dX1_measureThing_23 : decode cX1_measureThing 23 = .ok (.putfield 88, 3) := by decide +kernel
theorem dX1_measureThing_26 : decode cX1_measureThing 26 = .ok (.aload_n 0, 1) := by decide +kernel
theorem dX1_measureThing_27 : decode cX1_measureThing 27 = .ok (.aload_n 0, 1) := by decide +kernel
theorem dX1_measureThing_28 : decode cX1_measureThing 28 = .ok (.getfield 91, 3) := by decide +kernel
theorem dX1_measureThing_31 : decode cX1_measureThing 31 = .ok (.aload_n 3, 1) := by decide +kernel
theorem dX1_measureThing_32 : decode cX1_measureThing 32 = .ok (.getfield 135, 3) := by decide +kernel
theorem dX1_measureThing_35 : decode cX1_measureThing 35 = .ok (.iconst 1, 1) := by decide +kernel
theorem dX1_measureThing_36 : decode cX1_measureThing 36 = .ok (.iadd, 1) := by decide +kernel
theorem dX1_measureThing_37 : decode cX1_measureThing 37 = .ok (.invokestatic 136, 3) := by decide +kernel
theorem dX1_measureThing_40 : decode cX1_measureThing 40 = .ok (.putfield 91, 3) := by decide +kernel
theorem dX1_measureThing_43 : decode cX1_measureThing 43 = .ok (.return_, 1) := by decide +kernel
def F_X1_measureThing (d : Nat) (v0 : Option Nm) (v1 : Int64) (h : MH) (u : Nat) (Q : MH → Prop) : Prop :=
  gR h v0 1 0 fun x1 =>
  rc h x1 6 ∧ F_X7_findValue d x1 v1 h 0 fun x2 h =>
  nl x2 (
    Q h) (
    gI h v0 1 2 fun x3 =>
    gI h x2 9 6 fun x4 =>
    pV h v0 1 2 (jI (x3 + x4)) fun h =>
    gI h v0 1 3 fun x5 =>
    gI h x2 9 7 fun x6 =>
    F_J9_max_7cf53 d x5 (x6 + 1) h 0 fun x7 h =>
    pV h v0 1 3 (jI x7) fun h =>
    Q h)
set_option maxRecDepth 20000 in
theorem E_X1_measureThing {d : Nat} {v0 : Option Nm} {v1 : Int64} {h : MH} {u : Nat} {Q : MH → Prop} (H : F_X1_measureThing d v0 v1 h u Q) : T u_X1_measureThing (d + 1) 0 [some (jR v0), some (jL v1), none, none] [] h u (qV Q) := by
  unfold F_X1_measureThing at H
  refine T_aload_n (pc := 0) dX1_measureThing_0 rfl rfl ?_
  refine T_gR (pc := 1) fa_X1_9 dX1_measureThing_1 (gR_mono (fun x1 H => ?_) H)
  refine T_lload_n (pc := 4) dX1_measureThing_4 rfl rfl ?_
  obtain ⟨H0, H⟩ := H
  refine T_iV (pc := 5) (ci := 6) (av := [jL v1]) (rest := []) (o := x1) dX1_measureThing_5 mf_X7_findValue c_3_207 c_2_64 c_2_65 rfl rfl (Nat.le_of_ble_eq_true rfl) rfl H0 (iR_k (iR_m0 (fun x2 h H => ?_) (J_X7_findValue (d := d) H)))
  refine T_astore_n (pc := 8) (ls2 := [some (jR v0), some (jL v1), none, some (jR x2)]) dX1_measureThing_8 rfl (Nat.le_of_ble_eq_true rfl) rfl ?_
  refine T_aload_n (pc := 9) dX1_measureThing_9 rfl rfl ?_
  refine T_ifnull (pc := 10) (tgt := 43) dX1_measureThing_10 (by decide) (fun ho => ?_) (fun n ho => ?_)
  · replace H := nl_n ho H
    exact T_return (pc := 43) rfl dX1_measureThing_43 H
  · replace H := nl_s ho H
    refine T_aload_n (pc := 13) dX1_measureThing_13 rfl rfl ?_
    refine T_dup (pc := 14) rfl dX1_measureThing_14 ?_
    refine T_gI (pc := 15) fa_X1_88 dX1_measureThing_15 (gI_mono (fun x3 H => ?_) H)
    refine T_aload_n (pc := 18) dX1_measureThing_18 rfl rfl ?_
    refine T_gI (pc := 19) fa_X1_134 dX1_measureThing_19 (gI_mono (fun x4 H => ?_) H)
    refine T_iadd (pc := 22) dX1_measureThing_22 ?_
    refine T_pV (pc := 23) fa_X1_88 dX1_measureThing_23 trivial (pV_mono (fun h H => ?_) H)
    refine T_aload_n (pc := 26) dX1_measureThing_26 rfl rfl ?_
    refine T_aload_n (pc := 27) dX1_measureThing_27 rfl rfl ?_
    refine T_gI (pc := 28) fa_X1_91 dX1_measureThing_28 (gI_mono (fun x5 H => ?_) H)
    refine T_aload_n (pc := 31) dX1_measureThing_31 rfl rfl ?_
    refine T_gI (pc := 32) fa_X1_135 dX1_measureThing_32 (gI_mono (fun x6 H => ?_) H)
    refine T_iconst (pc := 35) (v := 1) dX1_measureThing_35 (by decide) ?_
    refine T_iadd (pc := 36) dX1_measureThing_36 ?_
    refine T_invS (pc := 37) (av := [jI x5, jI (x6 + 1)]) (rest := [jR v0]) dX1_measureThing_37 mf_J9_max_7cf53 c_3_208 c_3_209 rfl (Nat.le_of_ble_eq_true rfl) rfl (iI_k (iI_m0 (fun x7 h H => ?_) (J_J9_max_7cf53 (d := d) H)))
    refine T_pV (pc := 40) fa_X1_91 dX1_measureThing_40 trivial (pV_mono (fun h H => ?_) H)
    exact T_return (pc := 43) rfl dX1_measureThing_43 H
theorem I_X1_measureThing {d : Nat} {v0 : Option Nm} {v1 : Int64} {h : MH} {u : Nat} {K : MH → Nat → Prop} (u1 : Nat) (hu : u1 ≤ u) (H : F_X1_measureThing d v0 v1 h u1 (fun h2 => K h2 (u - u1))) : iV (d + 1) u_X1_measureThing [jR v0, jL v1] h u K := inv.of u1 hu (Ct.of (by decide +kernel) rfl (Nat.le_of_ble_eq_true rfl) rfl (E_X1_measureThing H))
theorem J_X1_measureThing {d : Nat} {v0 : Option Nm} {v1 : Int64} {h : MH} {u : Nat} {K : MH → Prop} (H : F_X1_measureThing d v0 v1 h 0 K) : iV (d + 1) u_X1_measureThing [jR v0, jL v1] h u (fun h2 u2 => K h2 ∧ u2 = u) := jiV (by decide +kernel) rfl (Nat.le_of_ble_eq_true rfl) rfl (E_X1_measureThing H)
theorem dX1_measure_0 : decode cX1_measure 0 = .ok (.aload_n 0, 1) := by decide +kernel
theorem dX1_measure_1 : decode cX1_measure 1 = .ok (.iconst 1, 1) := by decide +kernel
theorem dX1_measure_2 : decode cX1_measure 2 = .ok (.putfield 88, 3) := by decide +kernel
theorem dX1_measure_5 : decode cX1_measure 5 = .ok (.aload_n 0, 1) := by decide +kernel
theorem dX1_measure_6 : decode cX1_measure 6 = .ok (.iconst 1, 1) := by decide +kernel
theorem dX1_measure_7 : decode cX1_measure 7 = .ok (.putfield 91, 3) := by decide +kernel
theorem dX1_measure_10 : decode cX1_measure 10 = .ok (.iconst 0, 1) := by decide +kernel
theorem dX1_measure_11 : decode cX1_measure 11 = .ok (.istore_n 2, 1) := by decide +kernel
theorem dX1_measure_12 : decode cX1_measure 12 = .ok (.iload_n 2, 1) := by decide +kernel
theorem dX1_measure_13 : decode cX1_measure 13 = .ok (.aload_n 1, 1) := by decide +kernel
theorem dX1_measure_14 : decode cX1_measure 14 = .ok (.getfield 19, 3) := by decide +kernel
theorem dX1_measure_17 : decode cX1_measure 17 = .ok (.if_icmp .ge 80, 3) := by decide +kernel
theorem dX1_measure_20 : decode cX1_measure 20 = .ok (.aload_n 1, 1) := by decide +kernel
theorem dX1_measure_21 : decode cX1_measure 21 = .ok (.getfield 25, 3) := by decide +kernel
theorem dX1_measure_24 : decode cX1_measure 24 = .ok (.iload_n 2, 1) := by decide +kernel
theorem dX1_measure_25 : decode cX1_measure 25 = .ok (.iaload, 1) := by decide +kernel
theorem dX1_measure_26 : decode cX1_measure 26 = .ok (.bipush 8, 2) := by decide +kernel
theorem dX1_measure_28 : decode cX1_measure 28 = .ok (.if_icmp .ne 13, 3) := by decide +kernel
theorem dX1_measure_31 : decode cX1_measure 31 = .ok (.aload_n 0, 1) := by decide +kernel
theorem dX1_measure_32 : decode cX1_measure 32 = .ok (.aload_n 0, 1) := by decide +kernel
theorem dX1_measure_33 : decode cX1_measure 33 = .ok (.getfield 15, 3) := by decide +kernel
theorem dX1_measure_36 : decode cX1_measure 36 = .ok (.iload_n 2, 1) := by decide +kernel
theorem dX1_measure_37 : decode cX1_measure 37 = .ok (.laload, 1) := by decide +kernel
theorem dX1_measure_38 : decode cX1_measure 38 = .ok (.invokevirtual 94, 3) := by decide +kernel
theorem dX1_measure_41 : decode cX1_measure 41 = .ok (.aload_n 0, 1) := by decide +kernel
theorem dX1_measure_42 : decode cX1_measure 42 = .ok (.aload_n 1, 1) := by decide +kernel
theorem dX1_measure_43 : decode cX1_measure 43 = .ok (.iload_n 2, 1) := by decide +kernel
theorem dX1_measure_44 : decode cX1_measure 44 = .ok (.invokevirtual 69, 3) := by decide +kernel
theorem dX1_measure_47 : decode cX1_measure 47 = .ok (.astore_n 3, 1) := by decide +kernel
theorem dX1_measure_48 : decode cX1_measure 48 = .ok (.aload_n 3, 1) := by decide +kernel
theorem dX1_measure_49 : decode cX1_measure 49 = .ok (.ifnull 42, 3) := by decide +kernel
theorem dX1_measure_52 : decode cX1_measure 52 = .ok (.aload_n 3, 1) := by decide +kernel
theorem dX1_measure_53 : decode cX1_measure 53 = .ok (.getfield 98, 3) := by decide +kernel
theorem dX1_measure_56 : decode cX1_measure 56 = .ok (.bipush 8, 2) := by decide +kernel
theorem dX1_measure_58 : decode cX1_measure 58 = .ok (.if_icmp .ne 33, 3) := by decide +kernel
theorem dX1_measure_61 : decode cX1_measure 61 = .ok (.iconst 0, 1) := by decide +kernel
theorem dX1_measure_62 : decode cX1_measure 62 = .ok (.istore 4, 2) := by decide +kernel
theorem dX1_measure_64 : decode cX1_measure 64 = .ok (.iload 4, 2) := by decide +kernel
theorem dX1_measure_66 : decode cX1_measure 66 = .ok (.aload_n 3, 1) := by decide +kernel
theorem dX1_measure_67 : decode cX1_measure 67 = .ok (.getfield 103, 3) := by decide +kernel
theorem dX1_measure_70 : decode cX1_measure 70 = .ok (.arraylength, 1) := by decide +kernel
theorem dX1_measure_71 : decode cX1_measure 71 = .ok (.if_icmp .ge 20, 3) := by decide +kernel
theorem dX1_measure_74 : decode cX1_measure 74 = .ok (.aload_n 0, 1) := by decide +kernel
theorem dX1_measure_75 : decode cX1_measure 75 = .ok (.aload_n 3, 1) := by decide +kernel
theorem dX1_measure_76 : decode cX1_measure 76 = .ok (.getfield 103, 3) := by decide +kernel
theorem dX1_measure_79 : decode cX1_measure 79 = .ok (.iload 4, 2) := by decide +kernel
theorem dX1_measure_81 : decode cX1_measure 81 = .ok (.laload, 1) := by decide +kernel
theorem dX1_measure_82 : decode cX1_measure 82 = .ok (.invokevirtual 94, 3) := by decide +kernel
theorem dX1_measure_85 : decode cX1_measure 85 = .ok (.iinc 4 1, 3) := by decide +kernel
theorem dX1_measure_88 : decode cX1_measure 88 = .ok (.goto (-24), 3) := by decide +kernel
theorem dX1_measure_91 : decode cX1_measure 91 = .ok (.iinc 2 1, 3) := by decide +kernel
theorem dX1_measure_94 : decode cX1_measure 94 = .ok (.goto (-82), 3) := by decide +kernel
theorem dX1_measure_97 : decode cX1_measure 97 = .ok (.return_, 1) := by decide +kernel
def L_X1_measure_12 (d : Nat) (v0 : Option Nm) (v1 : Option Nm) (v2 : Int32) (h : MH) (u : Nat) (Q : MH → Prop) : Prop := T u_X1_measure (d + 2) 12 [some (jR v0), some (jR v1), some (jI v2), none, none] [] h u (qV Q)
def L_X1_measure_64 (d : Nat) (v0 : Option Nm) (v1 : Option Nm) (v2 : Int32) (v3 : Option Nm) (v4 : Int32) (h : MH) (u : Nat) (Q : MH → Prop) : Prop := T u_X1_measure (d + 2) 64 [some (jR v0), some (jR v1), some (jI v2), some (jR v3), some (jI v4)] [] h u (qV Q)
def F_X1_measure (d : Nat) (v0 : Option Nm) (v1 : Option Nm) (h : MH) (u : Nat) (Q : MH → Prop) : Prop :=
  pV h v0 1 2 (jI 1) fun h =>
  pV h v0 1 3 (jI 1) fun h =>
  L_X1_measure_12 d v0 v1 0 h u Q
set_option maxRecDepth 20000 in
theorem E_X1_measure {d : Nat} {v0 : Option Nm} {v1 : Option Nm} {h : MH} {u : Nat} {Q : MH → Prop} (H : F_X1_measure d v0 v1 h u Q) : T u_X1_measure (d + 2) 0 [some (jR v0), some (jR v1), none, none, none] [] h u (qV Q) := by
  unfold F_X1_measure at H
  refine T_aload_n (pc := 0) dX1_measure_0 rfl rfl ?_
  refine T_iconst (pc := 1) (v := 1) dX1_measure_1 (by decide) ?_
  refine T_pV (pc := 2) fa_X1_88 dX1_measure_2 trivial (pV_mono (fun h H => ?_) H)
  refine T_aload_n (pc := 5) dX1_measure_5 rfl rfl ?_
  refine T_iconst (pc := 6) (v := 1) dX1_measure_6 (by decide) ?_
  refine T_pV (pc := 7) fa_X1_91 dX1_measure_7 trivial (pV_mono (fun h H => ?_) H)
  refine T_iconst (pc := 10) (v := 0) dX1_measure_10 (by decide) ?_
  refine T_istore_n (pc := 11) (ls2 := [some (jR v0), some (jR v1), some (jI 0), none, none]) dX1_measure_11 rfl (Nat.le_of_ble_eq_true rfl) rfl ?_
  exact T.forget H ⟨rfl, rfl, rfl, trivial⟩
def F_X1_measure_41 (d : Nat) (v0 : Option Nm) (v1 : Option Nm) (v2 : Int32) (h : MH) (u : Nat) (Q : MH → Prop) : Prop :=
  rc h v0 1 ∧ F_X1_rowOf d v0 v1 v2 h 0 fun x1 h =>
  nl x1 (
    L_X1_measure_12 d v0 v1 (v2 + 1) h u Q) (
    gI h x1 4 1 fun x2 =>
    if x2 = 8 then
      L_X1_measure_64 d v0 v1 v2 x1 0 h u Q
    else
      L_X1_measure_12 d v0 v1 (v2 + 1) h u Q)
set_option maxRecDepth 20000 in
theorem E_X1_measure_41 {d : Nat} {v0 : Option Nm} {v1 : Option Nm} {v2 : Int32} {h : MH} {u : Nat} {Q : MH → Prop} (H : F_X1_measure_41 d v0 v1 v2 h u Q) : T u_X1_measure (d + 2) 41 [some (jR v0), some (jR v1), some (jI v2), none, none] [] h u (qV Q) := by
  unfold F_X1_measure_41 at H
  refine T_aload_n (pc := 41) dX1_measure_41 rfl rfl ?_
  refine T_aload_n (pc := 42) dX1_measure_42 rfl rfl ?_
  refine T_iload_n (pc := 43) dX1_measure_43 rfl rfl ?_
  obtain ⟨H0, H⟩ := H
  refine T_iV (pc := 44) (ci := 1) (av := [jR v1, jI v2]) (rest := []) (o := v0) dX1_measure_44 mf_X1_rowOf c_3_169 c_3_171 pr_X1_rowOf rfl rfl (Nat.le_of_ble_eq_true rfl) rfl H0 (iR_k (iR_m0 (fun x1 h H => ?_) (J_X1_rowOf (d := d) H)))
  refine T_astore_n (pc := 47) (ls2 := [some (jR v0), some (jR v1), some (jI v2), some (jR x1), none]) dX1_measure_47 rfl (Nat.le_of_ble_eq_true rfl) rfl ?_
  refine T_aload_n (pc := 48) dX1_measure_48 rfl rfl ?_
  refine T_ifnull (pc := 49) (tgt := 91) dX1_measure_49 (by decide) (fun ho => ?_) (fun n ho => ?_)
  · replace H := nl_n ho H
    refine T_iinc (pc := 91) (v := v2 + 1) (ls2 := [some (jR v0), some (jR v1), some (jI (v2 + 1)), some (jR x1), none]) dX1_measure_91 rfl rfl (Nat.le_of_ble_eq_true rfl) rfl ?_
    refine T_goto (pc := 94) (tgt := 12) dX1_measure_94 (by decide) ?_
    exact T.forget H ⟨rfl, rfl, rfl, trivial⟩
  · replace H := nl_s ho H
    refine T_aload_n (pc := 52) dX1_measure_52 rfl rfl ?_
    refine T_gI (pc := 53) fa_X1_98 dX1_measure_53 (gI_mono (fun x2 H => ?_) H)
    refine T_bipush (pc := 56) (v := 8) dX1_measure_56 (by decide) ?_
    refine T_icmp_ne (pc := 58) (tgt := 91) dX1_measure_58 (by decide) (fun hc => ?_) (fun hc => ?_)
    · rw [if_neg hc] at H
      refine T_iinc (pc := 91) (v := v2 + 1) (ls2 := [some (jR v0), some (jR v1), some (jI (v2 + 1)), some (jR x1), none]) dX1_measure_91 rfl rfl (Nat.le_of_ble_eq_true rfl) rfl ?_
      refine T_goto (pc := 94) (tgt := 12) dX1_measure_94 (by decide) ?_
      exact T.forget H ⟨rfl, rfl, rfl, trivial⟩
    · rw [if_pos hc] at H
      refine T_iconst (pc := 61) (v := 0) dX1_measure_61 (by decide) ?_
      refine T_istore (pc := 62) (ls2 := [some (jR v0), some (jR v1), some (jI v2), some (jR x1), some (jI 0)]) dX1_measure_62 (Nat.le_of_ble_eq_true rfl) rfl ?_
      exact T.forget H ⟨rfl, rfl, rfl, rfl, rfl, trivial⟩
def F_X1_measure_12 (d : Nat) (v0 : Option Nm) (v1 : Option Nm) (v2 : Int32) (h : MH) (u : Nat) (Q : MH → Prop) : Prop :=
  gI h v1 2 4 fun x1 =>
  if x1 ≤ v2 then
    Q h
  else
    gR h v1 2 2 fun x2 =>
    aI .int h x2 v2 fun x3 =>
    if x3 = 8 then
      gR h v0 1 1 fun x4 =>
      aL h x4 v2 fun x5 =>
      rc h v0 1 ∧ F_X1_measureThing d v0 x5 h 0 fun h =>
      F_X1_measure_41 d v0 v1 v2 h u Q
    else
      F_X1_measure_41 d v0 v1 v2 h u Q
set_option maxRecDepth 20000 in
theorem E_X1_measure_12 {d : Nat} {v0 : Option Nm} {v1 : Option Nm} {v2 : Int32} {h : MH} {u : Nat} {Q : MH → Prop} (H : F_X1_measure_12 d v0 v1 v2 h u Q) : T u_X1_measure (d + 2) 12 [some (jR v0), some (jR v1), some (jI v2), none, none] [] h u (qV Q) := by
  unfold F_X1_measure_12 at H
  refine T_iload_n (pc := 12) dX1_measure_12 rfl rfl ?_
  refine T_aload_n (pc := 13) dX1_measure_13 rfl rfl ?_
  refine T_gI (pc := 14) fa_X1_19 dX1_measure_14 (gI_mono (fun x1 H => ?_) H)
  refine T_icmp_ge (pc := 17) (tgt := 97) dX1_measure_17 (by decide) (fun hc => ?_) (fun hc => ?_)
  · rw [if_pos hc] at H
    exact T_return (pc := 97) rfl dX1_measure_97 H
  · rw [if_neg hc] at H
    refine T_aload_n (pc := 20) dX1_measure_20 rfl rfl ?_
    refine T_gR (pc := 21) fa_X1_25 dX1_measure_21 (gR_mono (fun x2 H => ?_) H)
    refine T_iload_n (pc := 24) dX1_measure_24 rfl rfl ?_
    refine T_aI (pc := 25) dX1_measure_25 (aI_mono (fun x3 H => ?_) H)
    refine T_bipush (pc := 26) (v := 8) dX1_measure_26 (by decide) ?_
    refine T_icmp_ne (pc := 28) (tgt := 41) dX1_measure_28 (by decide) (fun hc => ?_) (fun hc => ?_)
    · rw [if_neg hc] at H
      exact T.forget (E_X1_measure_41 H) ⟨rfl, rfl, rfl, trivial⟩
    · rw [if_pos hc] at H
      refine T_aload_n (pc := 31) dX1_measure_31 rfl rfl ?_
      refine T_aload_n (pc := 32) dX1_measure_32 rfl rfl ?_
      refine T_gR (pc := 33) fa_X1_15 dX1_measure_33 (gR_mono (fun x4 H => ?_) H)
      refine T_iload_n (pc := 36) dX1_measure_36 rfl rfl ?_
      refine T_aL (pc := 37) dX1_measure_37 (aL_mono (fun x5 H => ?_) H)
      obtain ⟨H0, H⟩ := H
      refine T_iV (pc := 38) (ci := 1) (av := [jL x5]) (rest := []) (o := v0) dX1_measure_38 mf_X1_measureThing c_3_203 c_3_205 pr_X1_measureThing rfl rfl (Nat.le_of_ble_eq_true rfl) rfl H0 (iV_k (iV_m0 (fun h H => ?_) (J_X1_measureThing (d := d) H)))
      exact T.forget (E_X1_measure_41 H) ⟨rfl, rfl, rfl, trivial⟩
def F_X1_measure_64 (d : Nat) (v0 : Option Nm) (v1 : Option Nm) (v2 : Int32) (v3 : Option Nm) (v4 : Int32) (h : MH) (u : Nat) (Q : MH → Prop) : Prop :=
  gR h v3 4 2 fun x1 =>
  aN h x1 fun x2 =>
  if x2 ≤ v4 then
    L_X1_measure_12 d v0 v1 (v2 + 1) h u Q
  else
    gR h v3 4 2 fun x3 =>
    aL h x3 v4 fun x4 =>
    rc h v0 1 ∧ F_X1_measureThing d v0 x4 h 0 fun h =>
    L_X1_measure_64 d v0 v1 v2 v3 (v4 + 1) h u Q
set_option maxRecDepth 20000 in
theorem E_X1_measure_64 {d : Nat} {v0 : Option Nm} {v1 : Option Nm} {v2 : Int32} {v3 : Option Nm} {v4 : Int32} {h : MH} {u : Nat} {Q : MH → Prop} (H : F_X1_measure_64 d v0 v1 v2 v3 v4 h u Q) : T u_X1_measure (d + 2) 64 [some (jR v0), some (jR v1), some (jI v2), some (jR v3), some (jI v4)] [] h u (qV Q) := by
  unfold F_X1_measure_64 at H
  refine T_iload (pc := 64) dX1_measure_64 rfl ?_
  refine T_aload_n (pc := 66) dX1_measure_66 rfl rfl ?_
  refine T_gR (pc := 67) fa_X1_103 dX1_measure_67 (gR_mono (fun x1 H => ?_) H)
  refine T_aN (pc := 70) dX1_measure_70 (aN_mono (fun x2 H => ?_) H)
  refine T_icmp_ge (pc := 71) (tgt := 91) dX1_measure_71 (by decide) (fun hc => ?_) (fun hc => ?_)
  · rw [if_pos hc] at H
    refine T_iinc (pc := 91) (v := v2 + 1) (ls2 := [some (jR v0), some (jR v1), some (jI (v2 + 1)), some (jR v3), some (jI v4)]) dX1_measure_91 rfl rfl (Nat.le_of_ble_eq_true rfl) rfl ?_
    refine T_goto (pc := 94) (tgt := 12) dX1_measure_94 (by decide) ?_
    exact T.forget H ⟨rfl, rfl, rfl, trivial⟩
  · rw [if_neg hc] at H
    refine T_aload_n (pc := 74) dX1_measure_74 rfl rfl ?_
    refine T_aload_n (pc := 75) dX1_measure_75 rfl rfl ?_
    refine T_gR (pc := 76) fa_X1_103 dX1_measure_76 (gR_mono (fun x3 H => ?_) H)
    refine T_iload (pc := 79) dX1_measure_79 rfl ?_
    refine T_aL (pc := 81) dX1_measure_81 (aL_mono (fun x4 H => ?_) H)
    obtain ⟨H0, H⟩ := H
    refine T_iV (pc := 82) (ci := 1) (av := [jL x4]) (rest := []) (o := v0) dX1_measure_82 mf_X1_measureThing c_3_203 c_3_205 pr_X1_measureThing rfl rfl (Nat.le_of_ble_eq_true rfl) rfl H0 (iV_k (iV_m0 (fun h H => ?_) (J_X1_measureThing (d := d) H)))
    refine T_iinc (pc := 85) (v := v4 + 1) (ls2 := [some (jR v0), some (jR v1), some (jI v2), some (jR v3), some (jI (v4 + 1))]) dX1_measure_85 rfl rfl (Nat.le_of_ble_eq_true rfl) rfl ?_
    refine T_goto (pc := 88) (tgt := 64) dX1_measure_88 (by decide) ?_
    exact T.forget H ⟨rfl, rfl, rfl, rfl, rfl, trivial⟩
theorem I_X1_measure {d : Nat} {v0 : Option Nm} {v1 : Option Nm} {h : MH} {u : Nat} {K : MH → Nat → Prop} (u1 : Nat) (hu : u1 ≤ u) (H : F_X1_measure d v0 v1 h u1 (fun h2 => K h2 (u - u1))) : iV (d + 2) u_X1_measure [jR v0, jR v1] h u K := inv.of u1 hu (Ct.of (by decide +kernel) rfl (Nat.le_of_ble_eq_true rfl) rfl (E_X1_measure H))
theorem J_X1_measure {d : Nat} {v0 : Option Nm} {v1 : Option Nm} {h : MH} {u : Nat} {K : MH → Prop} (H : F_X1_measure d v0 v1 h 0 K) : iV (d + 2) u_X1_measure [jR v0, jR v1] h u (fun h2 u2 => K h2 ∧ u2 = u) := jiV (by decide +kernel) rfl (Nat.le_of_ble_eq_true rfl) rfl (E_X1_measure H)
theorem dX1_exchange_0 : decode cX1_exchange 0 = .ok (.aload_n 0, 1) := by decide +kernel
theorem dX1_exchange_1 : decode cX1_exchange 1 = .ok (.getfield 15, 3) := by decide +kernel
theorem dX1_exchange_4 : decode cX1_exchange 4 = .ok (.iconst 0, 1) := by decide +kernel
theorem dX1_exchange_5 : decode cX1_exchange 5 = .ok (.laload, 1) := by decide +kernel
theorem dX1_exchange_6 : decode cX1_exchange 6 = .ok (.lstore_n 2, 1) := by decide +kernel
theorem dX1_exchange_7 : decode cX1_exchange 7 = .ok (.aload_n 0, 1) := by decide +kernel
theorem dX1_exchange_8 : decode cX1_exchange 8 = .ok (.getfield 15, 3) := by decide +kernel
theorem dX1_exchange_11 : decode cX1_exchange 11 = .ok (.iconst 0, 1) := by decide +kernel
theorem dX1_exchange_12 : decode cX1_exchange 12 = .ok (.aload_n 1, 1) := by decide +kernel
theorem dX1_exchange_13 : decode cX1_exchange 13 = .ok (.getfield 25, 3) := by decide +kernel
theorem dX1_exchange_16 : decode cX1_exchange 16 = .ok (.iconst 0, 1) := by decide +kernel
theorem dX1_exchange_17 : decode cX1_exchange 17 = .ok (.iaload, 1) := by decide +kernel
theorem dX1_exchange_18 : decode cX1_exchange 18 = .ok (.aload_n 0, 1) := by decide +kernel
theorem dX1_exchange_19 : decode cX1_exchange 19 = .ok (.getfield 15, 3) := by decide +kernel
theorem dX1_exchange_22 : decode cX1_exchange 22 = .ok (.iconst 1, 1) := by decide +kernel
theorem dX1_exchange_23 : decode cX1_exchange 23 = .ok (.laload, 1) := by decide +kernel
theorem dX1_exchange_24 : decode cX1_exchange 24 = .ok (.invokestatic 126, 3) := by decide +kernel
theorem dX1_exchange_27 : decode cX1_exchange 27 = .ok (.lastore, 1) := by decide +kernel
theorem dX1_exchange_28 : decode cX1_exchange 28 = .ok (.aload_n 0, 1) := by decide +kernel
theorem dX1_exchange_29 : decode cX1_exchange 29 = .ok (.getfield 15, 3) := by decide +kernel
theorem dX1_exchange_32 : decode cX1_exchange 32 = .ok (.iconst 1, 1) := by decide +kernel
theorem dX1_exchange_33 : decode cX1_exchange 33 = .ok (.aload_n 1, 1) := by decide +kernel
theorem dX1_exchange_34 : decode cX1_exchange 34 = .ok (.getfield 25, 3) := by decide +kernel
theorem dX1_exchange_37 : decode cX1_exchange 37 = .ok (.iconst 1, 1) := by decide +kernel
theorem dX1_exchange_38 : decode cX1_exchange 38 = .ok (.iaload, 1) := by decide +kernel
theorem dX1_exchange_39 : decode cX1_exchange 39 = .ok (.lload_n 2, 1) := by decide +kernel
theorem dX1_exchange_40 : decode cX1_exchange 40 = .ok (.invokestatic 126, 3) := by decide +kernel
theorem dX1_exchange_43 : decode cX1_exchange 43 = .ok (.lastore, 1) := by decide +kernel
theorem dX1_exchange_44 : decode cX1_exchange 44 = .ok (.return_, 1) := by decide +kernel
def F_X1_exchange (d : Nat) (v0 : Option Nm) (v1 : Option Nm) (h : MH) (u : Nat) (Q : MH → Prop) : Prop :=
  gR h v0 1 1 fun x1 =>
  aL h x1 0 fun x2 =>
  gR h v0 1 1 fun x3 =>
  gR h v1 2 2 fun x4 =>
  aI .int h x4 0 fun x5 =>
  gR h v0 1 1 fun x6 =>
  aL h x6 1 fun x7 =>
  F_X4_come d x5 x7 h 0 fun x8 h =>
  sV .long h x3 0 (jL x8) fun h =>
  gR h v0 1 1 fun x9 =>
  gR h v1 2 2 fun x10 =>
  aI .int h x10 1 fun x11 =>
  F_X4_come d x11 x2 h 0 fun x12 h =>
  sV .long h x9 1 (jL x12) fun h =>
  Q h
set_option maxRecDepth 20000 in
theorem E_X1_exchange {d : Nat} {v0 : Option Nm} {v1 : Option Nm} {h : MH} {u : Nat} {Q : MH → Prop} (H : F_X1_exchange d v0 v1 h u Q) : T u_X1_exchange (d + 4) 0 [some (jR v0), some (jR v1), none, none] [] h u (qV Q) := by
  unfold F_X1_exchange at H
  refine T_aload_n (pc := 0) dX1_exchange_0 rfl rfl ?_
  refine T_gR (pc := 1) fa_X1_15 dX1_exchange_1 (gR_mono (fun x1 H => ?_) H)
  refine T_iconst (pc := 4) (v := 0) dX1_exchange_4 (by decide) ?_
  refine T_aL (pc := 5) dX1_exchange_5 (aL_mono (fun x2 H => ?_) H)
  refine T_lstore_n (pc := 6) (ls2 := [some (jR v0), some (jR v1), some (jL x2), none]) dX1_exchange_6 rfl (Nat.le_of_ble_eq_true rfl) rfl ?_
  refine T_aload_n (pc := 7) dX1_exchange_7 rfl rfl ?_
  refine T_gR (pc := 8) fa_X1_15 dX1_exchange_8 (gR_mono (fun x3 H => ?_) H)
  refine T_iconst (pc := 11) (v := 0) dX1_exchange_11 (by decide) ?_
  refine T_aload_n (pc := 12) dX1_exchange_12 rfl rfl ?_
  refine T_gR (pc := 13) fa_X1_25 dX1_exchange_13 (gR_mono (fun x4 H => ?_) H)
  refine T_iconst (pc := 16) (v := 0) dX1_exchange_16 (by decide) ?_
  refine T_aI (pc := 17) dX1_exchange_17 (aI_mono (fun x5 H => ?_) H)
  refine T_aload_n (pc := 18) dX1_exchange_18 rfl rfl ?_
  refine T_gR (pc := 19) fa_X1_15 dX1_exchange_19 (gR_mono (fun x6 H => ?_) H)
  refine T_iconst (pc := 22) (v := 1) dX1_exchange_22 (by decide) ?_
  refine T_aL (pc := 23) dX1_exchange_23 (aL_mono (fun x7 H => ?_) H)
  refine T_invS (pc := 24) (av := [jI x5, jL x7]) (rest := [jI 0, jR x3]) dX1_exchange_24 mf_X4_come c_3_192 c_2_19 rfl (Nat.le_of_ble_eq_true rfl) rfl (iL_k (iL_m0 (fun x8 h H => ?_) (J_X4_come (d := d) H)))
  refine T_sL (pc := 27) dX1_exchange_27 (sV_mono (fun h H => ?_) H)
  refine T_aload_n (pc := 28) dX1_exchange_28 rfl rfl ?_
  refine T_gR (pc := 29) fa_X1_15 dX1_exchange_29 (gR_mono (fun x9 H => ?_) H)
  refine T_iconst (pc := 32) (v := 1) dX1_exchange_32 (by decide) ?_
  refine T_aload_n (pc := 33) dX1_exchange_33 rfl rfl ?_
  refine T_gR (pc := 34) fa_X1_25 dX1_exchange_34 (gR_mono (fun x10 H => ?_) H)
  refine T_iconst (pc := 37) (v := 1) dX1_exchange_37 (by decide) ?_
  refine T_aI (pc := 38) dX1_exchange_38 (aI_mono (fun x11 H => ?_) H)
  refine T_lload_n (pc := 39) dX1_exchange_39 rfl rfl ?_
  refine T_invS (pc := 40) (av := [jI x11, jL x2]) (rest := [jI 1, jR x9]) dX1_exchange_40 mf_X4_come c_3_192 c_2_19 rfl (Nat.le_of_ble_eq_true rfl) rfl (iL_k (iL_m0 (fun x12 h H => ?_) (J_X4_come (d := d) H)))
  refine T_sL (pc := 43) dX1_exchange_43 (sV_mono (fun h H => ?_) H)
  exact T_return (pc := 44) rfl dX1_exchange_44 H
theorem I_X1_exchange {d : Nat} {v0 : Option Nm} {v1 : Option Nm} {h : MH} {u : Nat} {K : MH → Nat → Prop} (u1 : Nat) (hu : u1 ≤ u) (H : F_X1_exchange d v0 v1 h u1 (fun h2 => K h2 (u - u1))) : iV (d + 4) u_X1_exchange [jR v0, jR v1] h u K := inv.of u1 hu (Ct.of (by decide +kernel) rfl (Nat.le_of_ble_eq_true rfl) rfl (E_X1_exchange H))
theorem J_X1_exchange {d : Nat} {v0 : Option Nm} {v1 : Option Nm} {h : MH} {u : Nat} {K : MH → Prop} (H : F_X1_exchange d v0 v1 h 0 K) : iV (d + 4) u_X1_exchange [jR v0, jR v1] h u (fun h2 u2 => K h2 ∧ u2 = u) := jiV (by decide +kernel) rfl (Nat.le_of_ble_eq_true rfl) rfl (E_X1_exchange H)
theorem dX1_hasEveryPart_0 : decode cX1_hasEveryPart 0 = .ok (.iconst 0, 1) := by decide +kernel
theorem dX1_hasEveryPart_1 : decode cX1_hasEveryPart 1 = .ok (.istore_n 2, 1) := by decide +kernel
theorem dX1_hasEveryPart_2 : decode cX1_hasEveryPart 2 = .ok (.iload_n 2, 1) := by decide +kernel
theorem dX1_hasEveryPart_3 : decode cX1_hasEveryPart 3 = .ok (.aload_n 1, 1) := by decide +kernel
theorem dX1_hasEveryPart_4 : decode cX1_hasEveryPart 4 = .ok (.getfield 19, 3) := by decide +kernel
theorem dX1_hasEveryPart_7 : decode cX1_hasEveryPart 7 = .ok (.if_icmp .ge 36, 3) := by decide +kernel
theorem dX1_hasEveryPart_10 : decode cX1_hasEveryPart 10 = .ok (.aload_n 1, 1) := by decide +kernel
theorem dX1_hasEveryPart_11 : decode cX1_hasEveryPart 11 = .ok (.getfield 25, 3) := by decide +kernel
theorem dX1_hasEveryPart_14 : decode cX1_hasEveryPart 14 = .ok (.iload_n 2, 1) := by decide +kernel
theorem dX1_hasEveryPart_15 : decode cX1_hasEveryPart 15 = .ok (.iaload, 1) := by decide +kernel
theorem dX1_hasEveryPart_16 : decode cX1_hasEveryPart 16 = .ok (.invokestatic 52, 3) := by decide +kernel
theorem dX1_hasEveryPart_19 : decode cX1_hasEveryPart 19 = .ok (.ifCond .ne 18, 3) := by decide +kernel
theorem dX1_hasEveryPart_22 : decode cX1_hasEveryPart 22 = .ok (.aload_n 0, 1) := by decide +kernel
theorem dX1_hasEveryPart_23 : decode cX1_hasEveryPart 23 = .ok (.getfield 15, 3) := by decide +kernel
theorem dX1_hasEveryPart_26 : decode cX1_hasEveryPart 26 = .ok (.iload_n 2, 1) := by decide +kernel
theorem dX1_hasEveryPart_27 : decode cX1_hasEveryPart 27 = .ok (.laload, 1) := by decide +kernel
theorem dX1_hasEveryPart_28 : decode cX1_hasEveryPart 28 = .ok (.ldc2_w 58, 3) := by decide +kernel
theorem dX1_hasEveryPart_31 : decode cX1_hasEveryPart 31 = .ok (.lcmp, 1) := by decide +kernel
theorem dX1_hasEveryPart_32 : decode cX1_hasEveryPart 32 = .ok (.ifCond .ne 5, 3) := by decide +kernel
theorem dX1_hasEveryPart_35 : decode cX1_hasEveryPart 35 = .ok (.iconst 0, 1) := by decide +kernel
theorem dX1_hasEveryPart_36 : decode cX1_hasEveryPart 36 = .ok (.ireturn, 1) := by decide +kernel
theorem dX1_hasEveryPart_37 : decode cX1_hasEveryPart 37 = .ok (.iinc 2 1, 3) := by decide +kernel
theorem dX1_hasEveryPart_40 : decode cX1_hasEveryPart 40 = .ok (.goto (-38), 3) := by decide +kernel
theorem dX1_hasEveryPart_43 : decode cX1_hasEveryPart 43 = .ok (.iconst 1, 1) := by decide +kernel
theorem dX1_hasEveryPart_44 : decode cX1_hasEveryPart 44 = .ok (.ireturn, 1) := by decide +kernel
def L_X1_hasEveryPart_2 (d : Nat) (v0 : Option Nm) (v1 : Option Nm) (v2 : Int32) (h : MH) (u : Nat) (Q : Int32 → MH → Prop) : Prop := T u_X1_hasEveryPart (d + 1) 2 [some (jR v0), some (jR v1), some (jI v2)] [] h u (qI Q)
def F_X1_hasEveryPart (d : Nat) (v0 : Option Nm) (v1 : Option Nm) (h : MH) (u : Nat) (Q : Int32 → MH → Prop) : Prop :=
  L_X1_hasEveryPart_2 d v0 v1 0 h u Q
set_option maxRecDepth 20000 in
theorem E_X1_hasEveryPart {d : Nat} {v0 : Option Nm} {v1 : Option Nm} {h : MH} {u : Nat} {Q : Int32 → MH → Prop} (H : F_X1_hasEveryPart d v0 v1 h u Q) : T u_X1_hasEveryPart (d + 1) 0 [some (jR v0), some (jR v1), none] [] h u (qI Q) := by
  unfold F_X1_hasEveryPart at H
  refine T_iconst (pc := 0) (v := 0) dX1_hasEveryPart_0 (by decide) ?_
  refine T_istore_n (pc := 1) (ls2 := [some (jR v0), some (jR v1), some (jI 0)]) dX1_hasEveryPart_1 rfl (Nat.le_of_ble_eq_true rfl) rfl ?_
  exact T.forget H ⟨rfl, rfl, rfl, trivial⟩
def F_X1_hasEveryPart_2 (d : Nat) (v0 : Option Nm) (v1 : Option Nm) (v2 : Int32) (h : MH) (u : Nat) (Q : Int32 → MH → Prop) : Prop :=
  gI h v1 2 4 fun x1 =>
  if x1 ≤ v2 then
    nz 1 ∧ Q 1 h
  else
    gR h v1 2 2 fun x2 =>
    aI .int h x2 v2 fun x3 =>
    F_X4_isNumber d x3 h 0 fun x4 h =>
    if x4 = 0 then
      gR h v0 1 1 fun x5 =>
      aL h x5 v2 fun x6 =>
      if (lg_cmp x6 (-1)) = 0 then
        nz 0 ∧ Q 0 h
      else
        L_X1_hasEveryPart_2 d v0 v1 (v2 + 1) h u Q
    else
      L_X1_hasEveryPart_2 d v0 v1 (v2 + 1) h u Q
set_option maxRecDepth 20000 in
theorem E_X1_hasEveryPart_2 {d : Nat} {v0 : Option Nm} {v1 : Option Nm} {v2 : Int32} {h : MH} {u : Nat} {Q : Int32 → MH → Prop} (H : F_X1_hasEveryPart_2 d v0 v1 v2 h u Q) : T u_X1_hasEveryPart (d + 1) 2 [some (jR v0), some (jR v1), some (jI v2)] [] h u (qI Q) := by
  unfold F_X1_hasEveryPart_2 at H
  refine T_iload_n (pc := 2) dX1_hasEveryPart_2 rfl rfl ?_
  refine T_aload_n (pc := 3) dX1_hasEveryPart_3 rfl rfl ?_
  refine T_gI (pc := 4) fa_X1_19 dX1_hasEveryPart_4 (gI_mono (fun x1 H => ?_) H)
  refine T_icmp_ge (pc := 7) (tgt := 43) dX1_hasEveryPart_7 (by decide) (fun hc => ?_) (fun hc => ?_)
  · rw [if_pos hc] at H
    refine T_iconst (pc := 43) (v := 1) dX1_hasEveryPart_43 (by decide) ?_
    exact T_ireturn (pc := 44) rfl (nz_nar H.1) dX1_hasEveryPart_44 H.2
  · rw [if_neg hc] at H
    refine T_aload_n (pc := 10) dX1_hasEveryPart_10 rfl rfl ?_
    refine T_gR (pc := 11) fa_X1_25 dX1_hasEveryPart_11 (gR_mono (fun x2 H => ?_) H)
    refine T_iload_n (pc := 14) dX1_hasEveryPart_14 rfl rfl ?_
    refine T_aI (pc := 15) dX1_hasEveryPart_15 (aI_mono (fun x3 H => ?_) H)
    refine T_invS (pc := 16) (av := [jI x3]) (rest := []) dX1_hasEveryPart_16 mf_X4_isNumber c_3_197 c_2_6 rfl (Nat.le_of_ble_eq_true rfl) rfl (iI_k (iI_m0 (fun x4 h H => ?_) (J_X4_isNumber (d := d) H)))
    refine T_if_ne (pc := 19) (tgt := 37) dX1_hasEveryPart_19 (by decide) (fun hc => ?_) (fun hc => ?_)
    · rw [if_neg hc] at H
      refine T_iinc (pc := 37) (v := v2 + 1) (ls2 := [some (jR v0), some (jR v1), some (jI (v2 + 1))]) dX1_hasEveryPart_37 rfl rfl (Nat.le_of_ble_eq_true rfl) rfl ?_
      refine T_goto (pc := 40) (tgt := 2) dX1_hasEveryPart_40 (by decide) ?_
      exact T.forget H ⟨rfl, rfl, rfl, trivial⟩
    · rw [if_pos hc] at H
      refine T_aload_n (pc := 22) dX1_hasEveryPart_22 rfl rfl ?_
      refine T_gR (pc := 23) fa_X1_15 dX1_hasEveryPart_23 (gR_mono (fun x5 H => ?_) H)
      refine T_iload_n (pc := 26) dX1_hasEveryPart_26 rfl rfl ?_
      refine T_aL (pc := 27) dX1_hasEveryPart_27 (aL_mono (fun x6 H => ?_) H)
      refine T_ldc2 (pc := 28) (v := (-1)) dX1_hasEveryPart_28 c_3_198 ?_
      refine T_lcmp (pc := 31) dX1_hasEveryPart_31 ?_
      refine T_if_ne (pc := 32) (tgt := 37) dX1_hasEveryPart_32 (by decide) (fun hc => ?_) (fun hc => ?_)
      · rw [if_neg hc] at H
        refine T_iinc (pc := 37) (v := v2 + 1) (ls2 := [some (jR v0), some (jR v1), some (jI (v2 + 1))]) dX1_hasEveryPart_37 rfl rfl (Nat.le_of_ble_eq_true rfl) rfl ?_
        refine T_goto (pc := 40) (tgt := 2) dX1_hasEveryPart_40 (by decide) ?_
        exact T.forget H ⟨rfl, rfl, rfl, trivial⟩
      · rw [if_pos hc] at H
        refine T_iconst (pc := 35) (v := 0) dX1_hasEveryPart_35 (by decide) ?_
        exact T_ireturn (pc := 36) rfl (nz_nar H.1) dX1_hasEveryPart_36 H.2
theorem I_X1_hasEveryPart {d : Nat} {v0 : Option Nm} {v1 : Option Nm} {h : MH} {u : Nat} {K : Int32 → MH → Nat → Prop} (u1 : Nat) (hu : u1 ≤ u) (H : F_X1_hasEveryPart d v0 v1 h u1 (fun x h2 => K x h2 (u - u1))) : iI (d + 1) u_X1_hasEveryPart [jR v0, jR v1] h u K := inv.of u1 hu (Ct.of (by decide +kernel) rfl (Nat.le_of_ble_eq_true rfl) rfl (E_X1_hasEveryPart H))
theorem J_X1_hasEveryPart {d : Nat} {v0 : Option Nm} {v1 : Option Nm} {h : MH} {u : Nat} {K : Int32 → MH → Prop} (H : F_X1_hasEveryPart d v0 v1 h 0 K) : iI (d + 1) u_X1_hasEveryPart [jR v0, jR v1] h u (fun x h2 u2 => K x h2 ∧ u2 = u) := jiI (by decide +kernel) rfl (Nat.le_of_ble_eq_true rfl) rfl (E_X1_hasEveryPart H)
theorem dX4_isWhole_0 : decode cX4_isWhole 0 = .ok (.iload_n 0, 1) := by decide +kernel
theorem dX4_isWhole_1 : decode cX4_isWhole 1 = .ok (.iconst 1, 1) := by decide +kernel
theorem dX4_isWhole_2 : decode cX4_isWhole 2 = .ok (.if_icmp .lt 12, 3) := by decide +kernel
theorem dX4_isWhole_5 : decode cX4_isWhole 5 = .ok (.iload_n 0, 1) := by decide +kernel
theorem dX4_isWhole_6 : decode cX4_isWhole 6 = .ok (.iconst 5, 1) := by decide +kernel
theorem dX4_isWhole_7 : decode cX4_isWhole 7 = .ok (.if_icmp .gt 7, 3) := by decide +kernel
theorem dX4_isWhole_10 : decode cX4_isWhole 10 = .ok (.iconst 1, 1) := by decide +kernel
theorem dX4_isWhole_11 : decode cX4_isWhole 11 = .ok (.goto 4, 3) := by decide +kernel
theorem dX4_isWhole_14 : decode cX4_isWhole 14 = .ok (.iconst 0, 1) := by decide +kernel
theorem dX4_isWhole_15 : decode cX4_isWhole 15 = .ok (.ireturn, 1) := by decide +kernel
def F_X4_isWhole (d : Nat) (v0 : Int32) (h : MH) (u : Nat) (Q : Int32 → MH → Prop) : Prop :=
  if v0 < 1 then
    nz 0 ∧ Q 0 h
  else
    if 5 < v0 then
      nz 0 ∧ Q 0 h
    else
      nz 1 ∧ Q 1 h
set_option maxRecDepth 20000 in
theorem E_X4_isWhole {d : Nat} {v0 : Int32} {h : MH} {u : Nat} {Q : Int32 → MH → Prop} (H : F_X4_isWhole d v0 h u Q) : T u_X4_isWhole d 0 [some (jI v0)] [] h u (qI Q) := by
  unfold F_X4_isWhole at H
  refine T_iload_n (pc := 0) dX4_isWhole_0 rfl rfl ?_
  refine T_iconst (pc := 1) (v := 1) dX4_isWhole_1 (by decide) ?_
  refine T_icmp_lt (pc := 2) (tgt := 14) dX4_isWhole_2 (by decide) (fun hc => ?_) (fun hc => ?_)
  · rw [if_pos hc] at H
    refine T_iconst (pc := 14) (v := 0) dX4_isWhole_14 (by decide) ?_
    exact T_ireturn (pc := 15) rfl (nz_nar H.1) dX4_isWhole_15 H.2
  · rw [if_neg hc] at H
    refine T_iload_n (pc := 5) dX4_isWhole_5 rfl rfl ?_
    refine T_iconst (pc := 6) (v := 5) dX4_isWhole_6 (by decide) ?_
    refine T_icmp_gt (pc := 7) (tgt := 14) dX4_isWhole_7 (by decide) (fun hc => ?_) (fun hc => ?_)
    · rw [if_pos hc] at H
      refine T_iconst (pc := 14) (v := 0) dX4_isWhole_14 (by decide) ?_
      exact T_ireturn (pc := 15) rfl (nz_nar H.1) dX4_isWhole_15 H.2
    · rw [if_neg hc] at H
      refine T_iconst (pc := 10) (v := 1) dX4_isWhole_10 (by decide) ?_
      refine T_goto (pc := 11) (tgt := 15) dX4_isWhole_11 (by decide) ?_
      exact T_ireturn (pc := 15) rfl (nz_nar H.1) dX4_isWhole_15 H.2
theorem I_X4_isWhole {d : Nat} {v0 : Int32} {h : MH} {u : Nat} {K : Int32 → MH → Nat → Prop} (u1 : Nat) (hu : u1 ≤ u) (H : F_X4_isWhole d v0 h u1 (fun x h2 => K x h2 (u - u1))) : iI d u_X4_isWhole [jI v0] h u K := inv.of u1 hu (Ct.of (by decide +kernel) rfl (Nat.le_of_ble_eq_true rfl) rfl (E_X4_isWhole H))
theorem J_X4_isWhole {d : Nat} {v0 : Int32} {h : MH} {u : Nat} {K : Int32 → MH → Prop} (H : F_X4_isWhole d v0 h 0 K) : iI d u_X4_isWhole [jI v0] h u (fun x h2 u2 => K x h2 ∧ u2 = u) := jiI (by decide +kernel) rfl (Nat.le_of_ble_eq_true rfl) rfl (E_X4_isWhole H)
theorem dX1_isFalling_0 : decode cX1_isFalling 0 = .ok (.aload_n 1, 1) := by decide +kernel
theorem dX1_isFalling_1 : decode cX1_isFalling 1 = .ok (.getfield 19, 3) := by decide +kernel
theorem dX1_isFalling_4 : decode cX1_isFalling 4 = .ok (.iconst 2, 1) := by decide +kernel
theorem dX1_isFalling_5 : decode cX1_isFalling 5 = .ok (.if_icmp .lt 31, 3) := by decide +kernel
theorem dX1_isFalling_8 : decode cX1_isFalling 8 = .ok (.aload_n 1, 1) := by decide +kernel
theorem dX1_isFalling_9 : decode cX1_isFalling 9 = .ok (.getfield 25, 3) := by decide +kernel
theorem dX1_isFalling_12 : decode cX1_isFalling 12 = .ok (.iconst 0, 1) := by decide +kernel
theorem dX1_isFalling_13 : decode cX1_isFalling 13 = .ok (.iaload, 1) := by decide +kernel
theorem dX1_isFalling_14 : decode cX1_isFalling 14 = .ok (.invokestatic 123, 3) := by decide +kernel
theorem dX1_isFalling_17 : decode cX1_isFalling 17 = .ok (.ifCond .eq 19, 3) := by decide +kernel
theorem dX1_isFalling_20 : decode cX1_isFalling 20 = .ok (.aload_n 1, 1) := by decide +kernel
theorem dX1_isFalling_21 : decode cX1_isFalling 21 = .ok (.getfield 25, 3) := by decide +kernel
theorem dX1_isFalling_24 : decode cX1_isFalling 24 = .ok (.iconst 1, 1) := by decide +kernel
theorem dX1_isFalling_25 : decode cX1_isFalling 25 = .ok (.iaload, 1) := by decide +kernel
theorem dX1_isFalling_26 : decode cX1_isFalling 26 = .ok (.invokestatic 123, 3) := by decide +kernel
theorem dX1_isFalling_29 : decode cX1_isFalling 29 = .ok (.ifCond .eq 7, 3) := by decide +kernel
theorem dX1_isFalling_32 : decode cX1_isFalling 32 = .ok (.iconst 1, 1) := by decide +kernel
theorem dX1_isFalling_33 : decode cX1_isFalling 33 = .ok (.goto 4, 3) := by decide +kernel
theorem dX1_isFalling_36 : decode cX1_isFalling 36 = .ok (.iconst 0, 1) := by decide +kernel
theorem dX1_isFalling_37 : decode cX1_isFalling 37 = .ok (.istore_n 2, 1) := by decide +kernel
theorem dX1_isFalling_38 : decode cX1_isFalling 38 = .ok (.iload_n 2, 1) := by decide +kernel
theorem dX1_isFalling_39 : decode cX1_isFalling 39 = .ok (.ifCond .eq 23, 3) := by decide +kernel
theorem dX1_isFalling_42 : decode cX1_isFalling 42 = .ok (.aload_n 0, 1) := by decide +kernel
theorem dX1_isFalling_43 : decode cX1_isFalling 43 = .ok (.getfield 15, 3) := by decide +kernel
theorem dX1_isFalling_46 : decode cX1_isFalling 46 = .ok (.iconst 0, 1) := by decide +kernel
theorem dX1_isFalling_47 : decode cX1_isFalling 47 = .ok (.laload, 1) := by decide +kernel
theorem dX1_isFalling_48 : decode cX1_isFalling 48 = .ok (.aload_n 0, 1) := by decide +kernel
theorem dX1_isFalling_49 : decode cX1_isFalling 49 = .ok (.getfield 15, 3) := by decide +kernel
theorem dX1_isFalling_52 : decode cX1_isFalling 52 = .ok (.iconst 1, 1) := by decide +kernel
theorem dX1_isFalling_53 : decode cX1_isFalling 53 = .ok (.laload, 1) := by decide +kernel
theorem dX1_isFalling_54 : decode cX1_isFalling 54 = .ok (.lcmp, 1) := by decide +kernel
theorem dX1_isFalling_55 : decode cX1_isFalling 55 = .ok (.ifCond .le 7, 3) := by decide +kernel
theorem dX1_isFalling_58 : decode cX1_isFalling 58 = .ok (.iconst 1, 1) := by decide +kernel
theorem dX1_isFalling_59 : decode cX1_isFalling 59 = .ok (.goto 4, 3) := by decide +kernel
theorem dX1_isFalling_62 : decode cX1_isFalling 62 = .ok (.iconst 0, 1) := by decide +kernel
theorem dX1_isFalling_63 : decode cX1_isFalling 63 = .ok (.ireturn, 1) := by decide +kernel
def F_X1_isFalling_37 (d : Nat) (v0 : Option Nm) (s0 : Int32) (h : MH) (u : Nat) (Q : Int32 → MH → Prop) : Prop :=
  if s0 = 0 then
    nz 0 ∧ Q 0 h
  else
    gR h v0 1 1 fun x1 =>
    aL h x1 0 fun x2 =>
    gR h v0 1 1 fun x3 =>
    aL h x3 1 fun x4 =>
    if (lg_cmp x2 x4) ≤ 0 then
      nz 0 ∧ Q 0 h
    else
      nz 1 ∧ Q 1 h
set_option maxRecDepth 20000 in
theorem E_X1_isFalling_37 {d : Nat} {v0 : Option Nm} {s0 : Int32} {h : MH} {u : Nat} {Q : Int32 → MH → Prop} (H : F_X1_isFalling_37 d v0 s0 h u Q) : T u_X1_isFalling (d + 1) 37 [some (jR v0), none, none] [jI s0] h u (qI Q) := by
  unfold F_X1_isFalling_37 at H
  refine T_istore_n (pc := 37) (ls2 := [some (jR v0), none, some (jI s0)]) dX1_isFalling_37 rfl (Nat.le_of_ble_eq_true rfl) rfl ?_
  refine T_iload_n (pc := 38) dX1_isFalling_38 rfl rfl ?_
  refine T_if_eq (pc := 39) (tgt := 62) dX1_isFalling_39 (by decide) (fun hc => ?_) (fun hc => ?_)
  · rw [if_pos hc] at H
    refine T_iconst (pc := 62) (v := 0) dX1_isFalling_62 (by decide) ?_
    exact T_ireturn (pc := 63) rfl (nz_nar H.1) dX1_isFalling_63 H.2
  · rw [if_neg hc] at H
    refine T_aload_n (pc := 42) dX1_isFalling_42 rfl rfl ?_
    refine T_gR (pc := 43) fa_X1_15 dX1_isFalling_43 (gR_mono (fun x1 H => ?_) H)
    refine T_iconst (pc := 46) (v := 0) dX1_isFalling_46 (by decide) ?_
    refine T_aL (pc := 47) dX1_isFalling_47 (aL_mono (fun x2 H => ?_) H)
    refine T_aload_n (pc := 48) dX1_isFalling_48 rfl rfl ?_
    refine T_gR (pc := 49) fa_X1_15 dX1_isFalling_49 (gR_mono (fun x3 H => ?_) H)
    refine T_iconst (pc := 52) (v := 1) dX1_isFalling_52 (by decide) ?_
    refine T_aL (pc := 53) dX1_isFalling_53 (aL_mono (fun x4 H => ?_) H)
    refine T_lcmp (pc := 54) dX1_isFalling_54 ?_
    refine T_if_le (pc := 55) (tgt := 62) dX1_isFalling_55 (by decide) (fun hc => ?_) (fun hc => ?_)
    · rw [if_pos hc] at H
      refine T_iconst (pc := 62) (v := 0) dX1_isFalling_62 (by decide) ?_
      exact T_ireturn (pc := 63) rfl (nz_nar H.1) dX1_isFalling_63 H.2
    · rw [if_neg hc] at H
      refine T_iconst (pc := 58) (v := 1) dX1_isFalling_58 (by decide) ?_
      refine T_goto (pc := 59) (tgt := 63) dX1_isFalling_59 (by decide) ?_
      exact T_ireturn (pc := 63) rfl (nz_nar H.1) dX1_isFalling_63 H.2
def F_X1_isFalling_36 (d : Nat) (v0 : Option Nm) (h : MH) (u : Nat) (Q : Int32 → MH → Prop) : Prop :=
  F_X1_isFalling_37 d v0 0 h u Q
set_option maxRecDepth 20000 in
theorem E_X1_isFalling_36 {d : Nat} {v0 : Option Nm} {h : MH} {u : Nat} {Q : Int32 → MH → Prop} (H : F_X1_isFalling_36 d v0 h u Q) : T u_X1_isFalling (d + 1) 36 [some (jR v0), none, none] [] h u (qI Q) := by
  unfold F_X1_isFalling_36 at H
  refine T_iconst (pc := 36) (v := 0) dX1_isFalling_36 (by decide) ?_
  exact T.forget (E_X1_isFalling_37 H) ⟨rfl, trivial⟩
def F_X1_isFalling (d : Nat) (v0 : Option Nm) (v1 : Option Nm) (h : MH) (u : Nat) (Q : Int32 → MH → Prop) : Prop :=
  gI h v1 2 4 fun x1 =>
  if x1 < 2 then
    F_X1_isFalling_36 d v0 h u Q
  else
    gR h v1 2 2 fun x2 =>
    aI .int h x2 0 fun x3 =>
    F_X4_isWhole d x3 h 0 fun x4 h =>
    if x4 = 0 then
      F_X1_isFalling_36 d v0 h u Q
    else
      gR h v1 2 2 fun x5 =>
      aI .int h x5 1 fun x6 =>
      F_X4_isWhole d x6 h 0 fun x7 h =>
      if x7 = 0 then
        F_X1_isFalling_36 d v0 h u Q
      else
        F_X1_isFalling_37 d v0 1 h u Q
set_option maxRecDepth 20000 in
theorem E_X1_isFalling {d : Nat} {v0 : Option Nm} {v1 : Option Nm} {h : MH} {u : Nat} {Q : Int32 → MH → Prop} (H : F_X1_isFalling d v0 v1 h u Q) : T u_X1_isFalling (d + 1) 0 [some (jR v0), some (jR v1), none] [] h u (qI Q) := by
  unfold F_X1_isFalling at H
  refine T_aload_n (pc := 0) dX1_isFalling_0 rfl rfl ?_
  refine T_gI (pc := 1) fa_X1_19 dX1_isFalling_1 (gI_mono (fun x1 H => ?_) H)
  refine T_iconst (pc := 4) (v := 2) dX1_isFalling_4 (by decide) ?_
  refine T_icmp_lt (pc := 5) (tgt := 36) dX1_isFalling_5 (by decide) (fun hc => ?_) (fun hc => ?_)
  · rw [if_pos hc] at H
    exact T.forget (E_X1_isFalling_36 H) ⟨rfl, trivial⟩
  · rw [if_neg hc] at H
    refine T_aload_n (pc := 8) dX1_isFalling_8 rfl rfl ?_
    refine T_gR (pc := 9) fa_X1_25 dX1_isFalling_9 (gR_mono (fun x2 H => ?_) H)
    refine T_iconst (pc := 12) (v := 0) dX1_isFalling_12 (by decide) ?_
    refine T_aI (pc := 13) dX1_isFalling_13 (aI_mono (fun x3 H => ?_) H)
    refine T_invS (pc := 14) (av := [jI x3]) (rest := []) dX1_isFalling_14 mf_X4_isWhole c_3_185 c_3_186 rfl (Nat.le_of_ble_eq_true rfl) rfl (iI_k (iI_m0 (fun x4 h H => ?_) (J_X4_isWhole (d := d) H)))
    refine T_if_eq (pc := 17) (tgt := 36) dX1_isFalling_17 (by decide) (fun hc => ?_) (fun hc => ?_)
    · rw [if_pos hc] at H
      exact T.forget (E_X1_isFalling_36 H) ⟨rfl, trivial⟩
    · rw [if_neg hc] at H
      refine T_aload_n (pc := 20) dX1_isFalling_20 rfl rfl ?_
      refine T_gR (pc := 21) fa_X1_25 dX1_isFalling_21 (gR_mono (fun x5 H => ?_) H)
      refine T_iconst (pc := 24) (v := 1) dX1_isFalling_24 (by decide) ?_
      refine T_aI (pc := 25) dX1_isFalling_25 (aI_mono (fun x6 H => ?_) H)
      refine T_invS (pc := 26) (av := [jI x6]) (rest := []) dX1_isFalling_26 mf_X4_isWhole c_3_185 c_3_186 rfl (Nat.le_of_ble_eq_true rfl) rfl (iI_k (iI_m0 (fun x7 h H => ?_) (J_X4_isWhole (d := d) H)))
      refine T_if_eq (pc := 29) (tgt := 36) dX1_isFalling_29 (by decide) (fun hc => ?_) (fun hc => ?_)
      · rw [if_pos hc] at H
        exact T.forget (E_X1_isFalling_36 H) ⟨rfl, trivial⟩
      · rw [if_neg hc] at H
        refine T_iconst (pc := 32) (v := 1) dX1_isFalling_32 (by decide) ?_
        refine T_goto (pc := 33) (tgt := 37) dX1_isFalling_33 (by decide) ?_
        exact T.forget (E_X1_isFalling_37 H) ⟨rfl, trivial⟩
theorem I_X1_isFalling {d : Nat} {v0 : Option Nm} {v1 : Option Nm} {h : MH} {u : Nat} {K : Int32 → MH → Nat → Prop} (u1 : Nat) (hu : u1 ≤ u) (H : F_X1_isFalling d v0 v1 h u1 (fun x h2 => K x h2 (u - u1))) : iI (d + 1) u_X1_isFalling [jR v0, jR v1] h u K := inv.of u1 hu (Ct.of (by decide +kernel) rfl (Nat.le_of_ble_eq_true rfl) rfl (E_X1_isFalling H))
theorem J_X1_isFalling {d : Nat} {v0 : Option Nm} {v1 : Option Nm} {h : MH} {u : Nat} {K : Int32 → MH → Prop} (H : F_X1_isFalling d v0 v1 h 0 K) : iI (d + 1) u_X1_isFalling [jR v0, jR v1] h u (fun x h2 u2 => K x h2 ∧ u2 = u) := jiI (by decide +kernel) rfl (Nat.le_of_ble_eq_true rfl) rfl (E_X1_isFalling H)
theorem dX1_obeys_0 : decode cX1_obeys 0 = .ok (.iload_n 2, 1) := by decide +kernel
theorem dX1_obeys_1 : decode cX1_obeys 1 = .ok (.tableswitch 62 1 3 #[27, 41, 56], 27) := by decide +kernel
theorem dX1_obeys_28 : decode cX1_obeys 28 = .ok (.aload_n 0, 1) := by decide +kernel
theorem dX1_obeys_29 : decode cX1_obeys 29 = .ok (.aload_n 1, 1) := by decide +kernel
theorem dX1_obeys_30 : decode cX1_obeys 30 = .ok (.invokevirtual 77, 3) := by decide +kernel
theorem dX1_obeys_33 : decode cX1_obeys 33 = .ok (.ifCond .ne 7, 3) := by decide +kernel
theorem dX1_obeys_36 : decode cX1_obeys 36 = .ok (.iconst 1, 1) := by decide +kernel
theorem dX1_obeys_37 : decode cX1_obeys 37 = .ok (.goto 4, 3) := by decide +kernel
theorem dX1_obeys_40 : decode cX1_obeys 40 = .ok (.iconst 0, 1) := by decide +kernel
theorem dX1_obeys_41 : decode cX1_obeys 41 = .ok (.ireturn, 1) := by decide +kernel
theorem dX1_obeys_42 : decode cX1_obeys 42 = .ok (.aload_n 0, 1) := by decide +kernel
theorem dX1_obeys_43 : decode cX1_obeys 43 = .ok (.aload_n 1, 1) := by decide +kernel
theorem dX1_obeys_44 : decode cX1_obeys 44 = .ok (.invokevirtual 77, 3) := by decide +kernel
theorem dX1_obeys_47 : decode cX1_obeys 47 = .ok (.ifCond .eq 8, 3) := by decide +kernel
theorem dX1_obeys_50 : decode cX1_obeys 50 = .ok (.aload_n 0, 1) := by decide +kernel
theorem dX1_obeys_51 : decode cX1_obeys 51 = .ok (.aload_n 1, 1) := by decide +kernel
theorem dX1_obeys_52 : decode cX1_obeys 52 = .ok (.invokevirtual 81, 3) := by decide +kernel
theorem dX1_obeys_55 : decode cX1_obeys 55 = .ok (.iconst 1, 1) := by decide +kernel
theorem dX1_obeys_56 : decode cX1_obeys 56 = .ok (.ireturn, 1) := by decide +kernel
theorem dX1_obeys_57 : decode cX1_obeys 57 = .ok (.aload_n 0, 1) := by decide +kernel
theorem dX1_obeys_58 : decode cX1_obeys 58 = .ok (.aload_n 1, 1) := by decide +kernel
theorem dX1_obeys_59 : decode cX1_obeys 59 = .ok (.invokevirtual 85, 3) := by decide +kernel
theorem dX1_obeys_62 : decode cX1_obeys 62 = .ok (.ireturn, 1) := by decide +kernel
theorem dX1_obeys_63 : decode cX1_obeys 63 = .ok (.iconst 1, 1) := by decide +kernel
theorem dX1_obeys_64 : decode cX1_obeys 64 = .ok (.ireturn, 1) := by decide +kernel
def F_X1_obeys (d : Nat) (v0 : Option Nm) (v1 : Option Nm) (v2 : Int32) (h : MH) (u : Nat) (Q : Int32 → MH → Prop) : Prop :=
  if v2 = 1 then
    rc h v0 1 ∧ F_X1_isFalling (d + 3) v0 v1 h 0 fun x1 h =>
    if x1 = 0 then
      nz 1 ∧ Q 1 h
    else
      nz 0 ∧ Q 0 h
  else if v2 = 2 then
    rc h v0 1 ∧ F_X1_isFalling (d + 3) v0 v1 h 0 fun x2 h =>
    if x2 = 0 then
      nz 1 ∧ Q 1 h
    else
      rc h v0 1 ∧ F_X1_exchange d v0 v1 h 0 fun h =>
      nz 1 ∧ Q 1 h
  else if v2 = 3 then
    rc h v0 1 ∧ F_X1_hasEveryPart (d + 3) v0 v1 h 0 fun x4 h =>
    nz x4 ∧ Q x4 h
  else 
    nz 1 ∧ Q 1 h
set_option maxRecDepth 20000 in
theorem E_X1_obeys {d : Nat} {v0 : Option Nm} {v1 : Option Nm} {v2 : Int32} {h : MH} {u : Nat} {Q : Int32 → MH → Prop} (H : F_X1_obeys d v0 v1 v2 h u Q) : T u_X1_obeys (d + 5) 0 [some (jR v0), some (jR v1), some (jI v2)] [] h u (qI Q) := by
  unfold F_X1_obeys at H
  refine T_iload_n (pc := 0) dX1_obeys_0 rfl rfl ?_
  by_cases h0 : v2 = 1
  · rw [if_pos h0] at H
    refine T_tableIn (pc := 1) (off := 27) (tgt := 28) dX1_obeys_1 (by rw [h0]; decide) (by rw [h0]; decide) (by rw [h0]; rfl) (by decide) ?_
    refine T_aload_n (pc := 28) dX1_obeys_28 rfl rfl ?_
    refine T_aload_n (pc := 29) dX1_obeys_29 rfl rfl ?_
    obtain ⟨H0, H⟩ := H
    refine T_iV (pc := 30) (ci := 1) (av := [jR v1]) (rest := []) (o := v0) dX1_obeys_30 mf_X1_isFalling c_3_181 c_3_183 pr_X1_isFalling rfl rfl (Nat.le_of_ble_eq_true rfl) rfl H0 (iI_k (iI_m0 (fun x1 h H => ?_) (J_X1_isFalling (d := (d + 3)) H)))
    refine T_if_ne (pc := 33) (tgt := 40) dX1_obeys_33 (by decide) (fun hc => ?_) (fun hc => ?_)
    · rw [if_neg hc] at H
      refine T_iconst (pc := 40) (v := 0) dX1_obeys_40 (by decide) ?_
      exact T_ireturn (pc := 41) rfl (nz_nar H.1) dX1_obeys_41 H.2
    · rw [if_pos hc] at H
      refine T_iconst (pc := 36) (v := 1) dX1_obeys_36 (by decide) ?_
      refine T_goto (pc := 37) (tgt := 41) dX1_obeys_37 (by decide) ?_
      exact T_ireturn (pc := 41) rfl (nz_nar H.1) dX1_obeys_41 H.2
  rw [if_neg h0] at H
  by_cases h1 : v2 = 2
  · rw [if_pos h1] at H
    refine T_tableIn (pc := 1) (off := 41) (tgt := 42) dX1_obeys_1 (by rw [h1]; decide) (by rw [h1]; decide) (by rw [h1]; rfl) (by decide) ?_
    refine T_aload_n (pc := 42) dX1_obeys_42 rfl rfl ?_
    refine T_aload_n (pc := 43) dX1_obeys_43 rfl rfl ?_
    obtain ⟨H0, H⟩ := H
    refine T_iV (pc := 44) (ci := 1) (av := [jR v1]) (rest := []) (o := v0) dX1_obeys_44 mf_X1_isFalling c_3_181 c_3_183 pr_X1_isFalling rfl rfl (Nat.le_of_ble_eq_true rfl) rfl H0 (iI_k (iI_m0 (fun x2 h H => ?_) (J_X1_isFalling (d := (d + 3)) H)))
    refine T_if_eq (pc := 47) (tgt := 55) dX1_obeys_47 (by decide) (fun hc => ?_) (fun hc => ?_)
    · rw [if_pos hc] at H
      refine T_iconst (pc := 55) (v := 1) dX1_obeys_55 (by decide) ?_
      exact T_ireturn (pc := 56) rfl (nz_nar H.1) dX1_obeys_56 H.2
    · rw [if_neg hc] at H
      refine T_aload_n (pc := 50) dX1_obeys_50 rfl rfl ?_
      refine T_aload_n (pc := 51) dX1_obeys_51 rfl rfl ?_
      obtain ⟨H0, H⟩ := H
      refine T_iV (pc := 52) (ci := 1) (av := [jR v1]) (rest := []) (o := v0) dX1_obeys_52 mf_X1_exchange c_3_188 c_3_190 pr_X1_exchange rfl rfl (Nat.le_of_ble_eq_true rfl) rfl H0 (iV_k (iV_m0 (fun h H => ?_) (J_X1_exchange (d := d) H)))
      refine T_iconst (pc := 55) (v := 1) dX1_obeys_55 (by decide) ?_
      exact T_ireturn (pc := 56) rfl (nz_nar H.1) dX1_obeys_56 H.2
  rw [if_neg h1] at H
  by_cases h2 : v2 = 3
  · rw [if_pos h2] at H
    refine T_tableIn (pc := 1) (off := 56) (tgt := 57) dX1_obeys_1 (by rw [h2]; decide) (by rw [h2]; decide) (by rw [h2]; rfl) (by decide) ?_
    refine T_aload_n (pc := 57) dX1_obeys_57 rfl rfl ?_
    refine T_aload_n (pc := 58) dX1_obeys_58 rfl rfl ?_
    obtain ⟨H0, H⟩ := H
    refine T_iV (pc := 59) (ci := 1) (av := [jR v1]) (rest := []) (o := v0) dX1_obeys_59 mf_X1_hasEveryPart c_3_193 c_3_195 pr_X1_hasEveryPart rfl rfl (Nat.le_of_ble_eq_true rfl) rfl H0 (iI_k (iI_m0 (fun x4 h H => ?_) (J_X1_hasEveryPart (d := (d + 3)) H)))
    exact T_ireturn (pc := 62) rfl (nz_nar H.1) dX1_obeys_62 H.2
  rw [if_neg h2] at H
  have e0 : (v2 : Int32).toInt ≠ 1 := fun q => h0 (Int32.toInt_inj.mp (q.trans (by decide)))
  have e1 : (v2 : Int32).toInt ≠ 2 := fun q => h1 (Int32.toInt_inj.mp (q.trans (by decide)))
  have e2 : (v2 : Int32).toInt ≠ 3 := fun q => h2 (Int32.toInt_inj.mp (q.trans (by decide)))
  refine T_tableOut (pc := 1) (tgt := 63) dX1_obeys_1 (by omega) (by decide) ?_
  refine T_iconst (pc := 63) (v := 1) dX1_obeys_63 (by decide) ?_
  exact T_ireturn (pc := 64) rfl (nz_nar H.1) dX1_obeys_64 H.2
theorem I_X1_obeys {d : Nat} {v0 : Option Nm} {v1 : Option Nm} {v2 : Int32} {h : MH} {u : Nat} {K : Int32 → MH → Nat → Prop} (u1 : Nat) (hu : u1 ≤ u) (H : F_X1_obeys d v0 v1 v2 h u1 (fun x h2 => K x h2 (u - u1))) : iI (d + 5) u_X1_obeys [jR v0, jR v1, jI v2] h u K := inv.of u1 hu (Ct.of (by decide +kernel) rfl (Nat.le_of_ble_eq_true rfl) rfl (E_X1_obeys H))
theorem J_X1_obeys {d : Nat} {v0 : Option Nm} {v1 : Option Nm} {v2 : Int32} {h : MH} {u : Nat} {K : Int32 → MH → Prop} (H : F_X1_obeys d v0 v1 v2 h 0 K) : iI (d + 5) u_X1_obeys [jR v0, jR v1, jI v2] h u (fun x h2 u2 => K x h2 ∧ u2 = u) := jiI (by decide +kernel) rfl (Nat.le_of_ble_eq_true rfl) rfl (E_X1_obeys H)
theorem dX7_hasRoomForRows_0 : decode cX7_hasRoomForRows 0 = .ok (.iload_n 1, 1) := by decide +kernel
theorem dX7_hasRoomForRows_1 : decode cX7_hasRoomForRows 1 = .ok (.bipush 60, 2) := by decide +kernel
theorem dX7_hasRoomForRows_3 : decode cX7_hasRoomForRows 3 = .ok (.aload_n 0, 1) := by decide +kernel
theorem dX7_hasRoomForRows_4 : decode cX7_hasRoomForRows 4 = .ok (.getfield 23, 3) := by decide +kernel
theorem dX7_hasRoomForRows_7 : decode cX7_hasRoomForRows 7 = .ok (.isub, 1) := by decide +kernel
theorem dX7_hasRoomForRows_8 : decode cX7_hasRoomForRows 8 = .ok (.if_icmp .gt 7, 3) := by decide +kernel
theorem dX7_hasRoomForRows_11 : decode cX7_hasRoomForRows 11 = .ok (.iconst 1, 1) := by decide +kernel
theorem dX7_hasRoomForRows_12 : decode cX7_hasRoomForRows 12 = .ok (.goto 4, 3) := by decide +kernel
theorem dX7_hasRoomForRows_15 : decode cX7_hasRoomForRows 15 = .ok (.iconst 0, 1) := by decide +kernel
theorem dX7_hasRoomForRows_16 : decode cX7_hasRoomForRows 16 = .ok (.ireturn, 1) := by decide +kernel
def F_X7_hasRoomForRows (d : Nat) (v0 : Option Nm) (v1 : Int32) (h : MH) (u : Nat) (Q : Int32 → MH → Prop) : Prop :=
  gI h v0 6 2 fun x1 =>
  if (60 - x1) < v1 then
    nz 0 ∧ Q 0 h
  else
    nz 1 ∧ Q 1 h
set_option maxRecDepth 20000 in
theorem E_X7_hasRoomForRows {d : Nat} {v0 : Option Nm} {v1 : Int32} {h : MH} {u : Nat} {Q : Int32 → MH → Prop} (H : F_X7_hasRoomForRows d v0 v1 h u Q) : T u_X7_hasRoomForRows d 0 [some (jR v0), some (jI v1)] [] h u (qI Q) := by
  unfold F_X7_hasRoomForRows at H
  refine T_iload_n (pc := 0) dX7_hasRoomForRows_0 rfl rfl ?_
  refine T_bipush (pc := 1) (v := 60) dX7_hasRoomForRows_1 (by decide) ?_
  refine T_aload_n (pc := 3) dX7_hasRoomForRows_3 rfl rfl ?_
  refine T_gI (pc := 4) fa_X7_23 dX7_hasRoomForRows_4 (gI_mono (fun x1 H => ?_) H)
  refine T_isub (pc := 7) dX7_hasRoomForRows_7 ?_
  refine T_icmp_gt (pc := 8) (tgt := 15) dX7_hasRoomForRows_8 (by decide) (fun hc => ?_) (fun hc => ?_)
  · rw [if_pos hc] at H
    refine T_iconst (pc := 15) (v := 0) dX7_hasRoomForRows_15 (by decide) ?_
    exact T_ireturn (pc := 16) rfl (nz_nar H.1) dX7_hasRoomForRows_16 H.2
  · rw [if_neg hc] at H
    refine T_iconst (pc := 11) (v := 1) dX7_hasRoomForRows_11 (by decide) ?_
    refine T_goto (pc := 12) (tgt := 16) dX7_hasRoomForRows_12 (by decide) ?_
    exact T_ireturn (pc := 16) rfl (nz_nar H.1) dX7_hasRoomForRows_16 H.2
theorem I_X7_hasRoomForRows {d : Nat} {v0 : Option Nm} {v1 : Int32} {h : MH} {u : Nat} {K : Int32 → MH → Nat → Prop} (u1 : Nat) (hu : u1 ≤ u) (H : F_X7_hasRoomForRows d v0 v1 h u1 (fun x h2 => K x h2 (u - u1))) : iI d u_X7_hasRoomForRows [jR v0, jI v1] h u K := inv.of u1 hu (Ct.of (by decide +kernel) rfl (Nat.le_of_ble_eq_true rfl) rfl (E_X7_hasRoomForRows H))
theorem J_X7_hasRoomForRows {d : Nat} {v0 : Option Nm} {v1 : Int32} {h : MH} {u : Nat} {K : Int32 → MH → Prop} (H : F_X7_hasRoomForRows d v0 v1 h 0 K) : iI d u_X7_hasRoomForRows [jR v0, jI v1] h u (fun x h2 u2 => K x h2 ∧ u2 = u) := jiI (by decide +kernel) rfl (Nat.le_of_ble_eq_true rfl) rfl (E_X7_hasRoomForRows H)
theorem dX11_finish_0 : decode cX11_finish 0 = .ok (.aload_n 1, 1) := by decide +kernel
theorem dX11_finish_1 : decode cX11_finish 1 = .ok (.invokevirtual 165, 3) := by decide +kernel
theorem dX11_finish_4 : decode cX11_finish 4 = .ok (.astore_n 2, 1) := by decide +kernel
theorem dX11_finish_5 : decode cX11_finish 5 = .ok (.aload_n 0, 1) := by decide +kernel
theorem dX11_finish_6 : decode cX11_finish 6 = .ok (.getfield 12, 3) := by decide +kernel
theorem dX11_finish_9 : decode cX11_finish 9 = .ok (.aload_n 0, 1) := by decide +kernel
theorem dX11_finish_10 : decode cX11_finish 10 = .ok (.getfield 30, 3) := by decide +kernel
theorem dX11_finish_13 : decode cX11_finish 13 = .ok (.aload_n 2, 1) := by decide +kernel
theorem dX11_finish_14 : decode cX11_finish 14 = .ok (.aload_n 1, 1) := by decide +kernel
theorem dX11_finish_15 : decode cX11_finish 15 = .ok (.getfield 378, 3) := by decide +kernel
theorem dX11_finish_18 : decode cX11_finish 18 = .ok (.invokevirtual 381, 3) := by decide +kernel
theorem dX11_finish_21 : decode cX11_finish 21 = .ok (.invokevirtual 68, 3) := by decide +kernel
theorem dX11_finish_24 : decode cX11_finish 24 = .ok (.ifCond .ne 6, 3) := by decide +kernel
theorem dX11_finish_27 : decode cX11_finish 27 = .ok (.bipush (-4), 2) := by decide +kernel
theorem dX11_finish_29 : decode cX11_finish 29 = .ok (.ireturn, 1) := by decide +kernel
theorem dX11_finish_30 : decode cX11_finish 30 = .ok (.aload_n 0, 1) := by decide +kernel
theorem dX11_finish_31 : decode cX11_finish 31 = .ok (.getfield 30, 3) := by decide +kernel
theorem dX11_finish_34 : decode cX11_finish 34 = .ok (.aload_n 2, 1) := by decide +kernel
theorem dX11_finish_35 : decode cX11_finish 35 = .ok (.aload_n 1, 1) := by decide +kernel
theorem dX11_finish_36 : decode cX11_finish 36 = .ok (.getfield 378, 3) := by decide +kernel
theorem dX11_finish_39 : decode cX11_finish 39 = .ok (.invokevirtual 385, 3) := by decide +kernel
theorem dX11_finish_42 : decode cX11_finish 42 = .ok (.ifCond .ne 9, 3) := by decide +kernel
theorem dX11_finish_45 : decode cX11_finish 45 = .ok (.aload_n 0, 1) := by decide +kernel
theorem dX11_finish_46 : decode cX11_finish 46 = .ok (.iconst 5, 1) := by decide +kernel
theorem dX11_finish_47 : decode cX11_finish 47 = .ok (.invokevirtual 72, 3) := by decide +kernel
theorem dX11_finish_50 : decode cX11_finish 50 = .ok (.ireturn, 1) := by decide +kernel
theorem dX11_finish_51 : decode cX11_finish 51 = .ok (.aload_n 0, 1) := by decide +kernel
theorem dX11_finish_52 : decode cX11_finish 52 = .ok (.getfield 30, 3) := by decide +kernel
theorem dX11_finish_55 : decode cX11_finish 55 = .ok (.aload_n 2, 1) := by decide +kernel
theorem dX11_finish_56 : decode cX11_finish 56 = .ok (.invokevirtual 389, 3) := by decide +kernel
theorem dX11_finish_59 : decode cX11_finish 59 = .ok (.aload_n 0, 1) := by decide +kernel
theorem dX11_finish_60 : decode cX11_finish 60 = .ok (.getfield 30, 3) := by decide +kernel
theorem dX11_finish_63 : decode cX11_finish 63 = .ok (.getfield 393, 3) := by decide +kernel
theorem dX11_finish_66 : decode cX11_finish 66 = .ok (.sipush 300, 3) := by decide +kernel
theorem dX11_finish_69 : decode cX11_finish 69 = .ok (.if_icmp .gt 15, 3) := by decide +kernel
theorem dX11_finish_72 : decode cX11_finish 72 = .ok (.aload_n 0, 1) := by decide +kernel
theorem dX11_finish_73 : decode cX11_finish 73 = .ok (.getfield 30, 3) := by decide +kernel
theorem dX11_finish_76 : decode cX11_finish 76 = .ok (.getfield 394, 3) := by decide +kernel
theorem dX11_finish_79 : decode cX11_finish 79 = .ok (.bipush 8, 2) := by decide +kernel
theorem dX11_finish_81 : decode cX11_finish 81 = .ok (.if_icmp .le 6, 3) := by decide +kernel
theorem dX11_finish_84 : decode cX11_finish 84 = .ok (.bipush (-4), 2) := by decide +kernel
theorem dX11_finish_86 : decode cX11_finish 86 = .ok (.ireturn, 1) := by decide +kernel
theorem dX11_finish_87 : decode cX11_finish 87 = .ok (.aload_n 0, 1) := by decide +kernel
theorem dX11_finish_88 : decode cX11_finish 88 = .ok (.getfield 30, 3) := by decide +kernel
theorem dX11_finish_91 : decode cX11_finish 91 = .ok (.aload_n 2, 1) := by decide +kernel
theorem dX11_finish_92 : decode cX11_finish 92 = .ok (.aload_n 1, 1) := by decide +kernel
theorem dX11_finish_93 : decode cX11_finish 93 = .ok (.getfield 378, 3) := by decide +kernel
theorem dX11_finish_96 : decode cX11_finish 96 = .ok (.invokevirtual 395, 3) := by decide +kernel
theorem dX11_finish_99 : decode cX11_finish 99 = .ok (.astore_n 3, 1) := by decide +kernel
theorem dX11_finish_100 : decode cX11_finish 100 = .ok (.aload_n 0, 1) := by decide +kernel
theorem dX11_finish_101 : decode cX11_finish 101 = .ok (.getfield 12, 3) := by decide +kernel
theorem dX11_finish_104 : decode cX11_finish 104 = .ok (.new 253, 3) := by decide +kernel
theorem dX11_finish_107 : decode cX11_finish 107 = .ok (.dup, 1) := by decide +kernel
theorem dX11_finish_108 : decode cX11_finish 108 = .ok (.aload_n 0, 1) := by decide +kernel
theorem dX11_finish_109 : decode cX11_finish 109 = .ok (.getfield 12, 3) := by decide +kernel
theorem dX11_finish_112 : decode cX11_finish 112 = .ok (.getfield 332, 3) := by decide +kernel
theorem dX11_finish_115 : decode cX11_finish 115 = .ok (.aload_n 1, 1) := by decide +kernel
theorem dX11_finish_116 : decode cX11_finish 116 = .ok (.iconst 0, 1) := by decide +kernel
theorem dX11_finish_117 : decode cX11_finish 117 = .ok (.aload_n 3, 1) := by decide +kernel
theorem dX11_finish_118 : decode cX11_finish 118 = .ok (.aload_n 0, 1) := by decide +kernel
theorem dX11_finish_119 : decode cX11_finish 119 = .ok (.getfield 30, 3) := by decide +kernel
theorem dX11_finish_122 : decode cX11_finish 122 = .ok (.getfield 393, 3) := by decide +kernel
theorem dX11_finish_125 : decode cX11_finish 125 = .ok (.aload_n 0, 1) := by decide +kernel
theorem dX11_finish_126 : decode cX11_finish 126 = .ok (.getfield 30, 3) := by decide +kernel
theorem dX11_finish_129 : decode cX11_finish 129 = .ok (.getfield 394, 3) := by decide +kernel
theorem dX11_finish_132 : decode cX11_finish 132 = .ok (.invokespecial 372, 3) := by decide +kernel
theorem dX11_finish_135 : decode cX11_finish 135 = .ok (.invokevirtual 375, 3) := by decide +kernel
theorem dX11_finish_138 : decode cX11_finish 138 = .ok (.ireturn, 1) := by decide +kernel
def F_X11_finish (d : Nat) (v0 : Option Nm) (v1 : Option Nm) (h : MH) (u : Nat) (Q : Int32 → MH → Prop) : Prop :=
  rc h v1 3 ∧ F_X3_newest (d + 5) v1 h 0 fun x1 h =>
  gR h v0 10 0 fun x2 =>
  gR h v0 10 2 fun x3 =>
  gI h v1 3 2 fun x4 =>
  rc h x3 1 ∧ F_X1_countTwins (d + 3) x3 x1 x4 h 0 fun x5 h =>
  rc h x2 6 ∧ F_X7_hasRoomForRows (d + 5) x2 x5 h 0 fun x6 h =>
  if x6 = 0 then
    Q (-4) h
  else
    gR h v0 10 2 fun x7 =>
    gI h v1 3 2 fun x8 =>
    rc h x7 1 ∧ F_X1_obeys d x7 x1 x8 h 0 fun x9 h =>
    if x9 = 0 then
      rc h v0 10 ∧ F_X11_failed (d + 5) v0 5 h 0 fun x29 h =>
      Q x29 h
    else
      gR h v0 10 2 fun x10 =>
      rc h x10 1 ∧ F_X1_measure (d + 3) x10 x1 h 0 fun h =>
      gR h v0 10 2 fun x12 =>
      gI h x12 1 2 fun x13 =>
      if 300 < x13 then
        Q (-4) h
      else
        gR h v0 10 2 fun x14 =>
        gI h x14 1 3 fun x15 =>
        if x15 ≤ 8 then
          gR h v0 10 2 fun x16 =>
          gI h v1 3 2 fun x17 =>
          rc h x16 1 ∧ iR (d + 5) u_X1_settle [jR x16, jR x1, jI x17] h u fun x18 h u =>
          gR h v0 10 0 fun x19 =>
          nO h u 9 [jI 0, jR none, jR none, jI 0, jI 0, jR none, jI 0, jI 0] fun x20 h u =>
          gR h v0 10 0 fun x21 =>
          gI h x21 6 3 fun x22 =>
          gR h v0 10 2 fun x23 =>
          gI h x23 1 2 fun x24 =>
          gR h v0 10 2 fun x25 =>
          gI h x25 1 3 fun x26 =>
          F_X10_init (d + 4) (some x20) x22 v1 0 x18 x24 x26 h 0 fun h =>
          rc h x19 6 ∧ F_X7_addValue (d + 5) x19 (some x20) h 0 fun x28 h =>
          Q x28 h
        else
          Q (-4) h
set_option maxRecDepth 20000 in
theorem E_X11_finish {d : Nat} {v0 : Option Nm} {v1 : Option Nm} {h : MH} {u : Nat} {Q : Int32 → MH → Prop} (H : F_X11_finish d v0 v1 h u Q) : T u_X11_finish (d + 6) 0 [some (jR v0), some (jR v1), none, none] [] h u (qI Q) := by
  unfold F_X11_finish at H
  refine T_aload_n (pc := 0) dX11_finish_0 rfl rfl ?_
  obtain ⟨H0, H⟩ := H
  refine T_iV (pc := 1) (ci := 3) (av := []) (rest := []) (o := v1) dX11_finish_1 mf_X3_newest c_2_213 c_2_214 c_2_215 rfl rfl (Nat.le_of_ble_eq_true rfl) rfl H0 (iR_k (iR_m0 (fun x1 h H => ?_) (J_X3_newest (d := (d + 5)) H)))
  refine T_astore_n (pc := 4) (ls2 := [some (jR v0), some (jR v1), some (jR x1), none]) dX11_finish_4 rfl (Nat.le_of_ble_eq_true rfl) rfl ?_
  refine T_aload_n (pc := 5) dX11_finish_5 rfl rfl ?_
  refine T_gR (pc := 6) fa_X11_12 dX11_finish_6 (gR_mono (fun x2 H => ?_) H)
  refine T_aload_n (pc := 9) dX11_finish_9 rfl rfl ?_
  refine T_gR (pc := 10) fa_X11_30 dX11_finish_10 (gR_mono (fun x3 H => ?_) H)
  refine T_aload_n (pc := 13) dX11_finish_13 rfl rfl ?_
  refine T_aload_n (pc := 14) dX11_finish_14 rfl rfl ?_
  refine T_gI (pc := 15) fa_X11_378 dX11_finish_15 (gI_mono (fun x4 H => ?_) H)
  obtain ⟨H0, H⟩ := H
  refine T_iV (pc := 18) (ci := 1) (av := [jR x1, jI x4]) (rest := [jR x2]) (o := x3) dX11_finish_18 mf_X1_countTwins c_3_165 c_3_166 c_3_167 rfl rfl (Nat.le_of_ble_eq_true rfl) rfl H0 (iI_k (iI_m0 (fun x5 h H => ?_) (J_X1_countTwins (d := (d + 3)) H)))
  obtain ⟨H0, H⟩ := H
  refine T_iV (pc := 21) (ci := 6) (av := [jI x5]) (rest := []) (o := x2) dX11_finish_21 mf_X7_hasRoomForRows c_1_192 c_1_193 c_1_194 rfl rfl (Nat.le_of_ble_eq_true rfl) rfl H0 (iI_k (iI_m0 (fun x6 h H => ?_) (J_X7_hasRoomForRows (d := (d + 5)) H)))
  refine T_if_ne (pc := 24) (tgt := 30) dX11_finish_24 (by decide) (fun hc => ?_) (fun hc => ?_)
  · rw [if_neg hc] at H
    refine T_aload_n (pc := 30) dX11_finish_30 rfl rfl ?_
    refine T_gR (pc := 31) fa_X11_30 dX11_finish_31 (gR_mono (fun x7 H => ?_) H)
    refine T_aload_n (pc := 34) dX11_finish_34 rfl rfl ?_
    refine T_aload_n (pc := 35) dX11_finish_35 rfl rfl ?_
    refine T_gI (pc := 36) fa_X11_378 dX11_finish_36 (gI_mono (fun x8 H => ?_) H)
    obtain ⟨H0, H⟩ := H
    refine T_iV (pc := 39) (ci := 1) (av := [jR x1, jI x8]) (rest := []) (o := x7) dX11_finish_39 mf_X1_obeys c_3_177 c_3_178 c_3_179 rfl rfl (Nat.le_of_ble_eq_true rfl) rfl H0 (iI_k (iI_m0 (fun x9 h H => ?_) (J_X1_obeys (d := d) H)))
    refine T_if_ne (pc := 42) (tgt := 51) dX11_finish_42 (by decide) (fun hc => ?_) (fun hc => ?_)
    · rw [if_neg hc] at H
      refine T_aload_n (pc := 51) dX11_finish_51 rfl rfl ?_
      refine T_gR (pc := 52) fa_X11_30 dX11_finish_52 (gR_mono (fun x10 H => ?_) H)
      refine T_aload_n (pc := 55) dX11_finish_55 rfl rfl ?_
      obtain ⟨H0, H⟩ := H
      refine T_iV (pc := 56) (ci := 1) (av := [jR x1]) (rest := []) (o := x10) dX11_finish_56 mf_X1_measure c_3_199 c_3_200 c_3_201 rfl rfl (Nat.le_of_ble_eq_true rfl) rfl H0 (iV_k (iV_m0 (fun h H => ?_) (J_X1_measure (d := (d + 3)) H)))
      refine T_aload_n (pc := 59) dX11_finish_59 rfl rfl ?_
      refine T_gR (pc := 60) fa_X11_30 dX11_finish_60 (gR_mono (fun x12 H => ?_) H)
      refine T_gI (pc := 63) fa_X11_393 dX11_finish_63 (gI_mono (fun x13 H => ?_) H)
      refine T_sipush (pc := 66) (v := 300) dX11_finish_66 (by decide) ?_
      refine T_icmp_gt (pc := 69) (tgt := 84) dX11_finish_69 (by decide) (fun hc => ?_) (fun hc => ?_)
      · rw [if_pos hc] at H
        refine T_bipush (pc := 84) (v := (-4)) dX11_finish_84 (by decide) ?_
        exact T_ireturn (pc := 86) rfl rfl dX11_finish_86 H
      · rw [if_neg hc] at H
        refine T_aload_n (pc := 72) dX11_finish_72 rfl rfl ?_
        refine T_gR (pc := 73) fa_X11_30 dX11_finish_73 (gR_mono (fun x14 H => ?_) H)
        refine T_gI (pc := 76) fa_X11_394 dX11_finish_76 (gI_mono (fun x15 H => ?_) H)
        refine T_bipush (pc := 79) (v := 8) dX11_finish_79 (by decide) ?_
        refine T_icmp_le (pc := 81) (tgt := 87) dX11_finish_81 (by decide) (fun hc => ?_) (fun hc => ?_)
        · rw [if_pos hc] at H
          refine T_aload_n (pc := 87) dX11_finish_87 rfl rfl ?_
          refine T_gR (pc := 88) fa_X11_30 dX11_finish_88 (gR_mono (fun x16 H => ?_) H)
          refine T_aload_n (pc := 91) dX11_finish_91 rfl rfl ?_
          refine T_aload_n (pc := 92) dX11_finish_92 rfl rfl ?_
          refine T_gI (pc := 93) fa_X11_378 dX11_finish_93 (gI_mono (fun x17 H => ?_) H)
          obtain ⟨H0, H⟩ := H
          refine T_iV (pc := 96) (ci := 1) (av := [jR x1, jI x17]) (rest := []) (o := x16) dX11_finish_96 mf_X1_settle c_3_211 c_3_212 c_3_213 rfl rfl (Nat.le_of_ble_eq_true rfl) rfl H0 (iR_k (iR_mono (fun x18 h u H => ?_) H))
          refine T_astore_n (pc := 99) (ls2 := [some (jR v0), some (jR v1), some (jR x1), some (jR x18)]) dX11_finish_99 rfl (Nat.le_of_ble_eq_true rfl) rfl ?_
          refine T_aload_n (pc := 100) dX11_finish_100 rfl rfl ?_
          refine T_gR (pc := 101) fa_X11_12 dX11_finish_101 (gR_mono (fun x19 H => ?_) H)
          refine T_nO (pc := 104) nf_X11_253 dX11_finish_104 (nO_mono (fun x20 h u H => ?_) H)
          refine T_dup (pc := 107) rfl dX11_finish_107 ?_
          refine T_aload_n (pc := 108) dX11_finish_108 rfl rfl ?_
          refine T_gR (pc := 109) fa_X11_12 dX11_finish_109 (gR_mono (fun x21 H => ?_) H)
          refine T_gI (pc := 112) fa_X11_332 dX11_finish_112 (gI_mono (fun x22 H => ?_) H)
          refine T_aload_n (pc := 115) dX11_finish_115 rfl rfl ?_
          refine T_iconst (pc := 116) (v := 0) dX11_finish_116 (by decide) ?_
          refine T_aload_n (pc := 117) dX11_finish_117 rfl rfl ?_
          refine T_aload_n (pc := 118) dX11_finish_118 rfl rfl ?_
          refine T_gR (pc := 119) fa_X11_30 dX11_finish_119 (gR_mono (fun x23 H => ?_) H)
          refine T_gI (pc := 122) fa_X11_393 dX11_finish_122 (gI_mono (fun x24 H => ?_) H)
          refine T_aload_n (pc := 125) dX11_finish_125 rfl rfl ?_
          refine T_gR (pc := 126) fa_X11_30 dX11_finish_126 (gR_mono (fun x25 H => ?_) H)
          refine T_gI (pc := 129) fa_X11_394 dX11_finish_129 (gI_mono (fun x26 H => ?_) H)
          refine T_invI (pc := 132) (av := [jI x22, jR v1, jI 0, jR x18, jI x24, jI x26]) (rest := [jR (some x20), jR x19]) dX11_finish_132 mf_X10_init rfl rfl c_3_50 c_3_51 rfl (Nat.le_of_ble_eq_true rfl) rfl (iV_k (iV_m0 (fun h H => ?_) (J_X10_init (d := (d + 4)) H)))
          obtain ⟨H0, H⟩ := H
          refine T_iV (pc := 135) (ci := 6) (av := [jR (some x20)]) (rest := []) (o := x19) dX11_finish_135 mf_X7_addValue c_3_102 c_3_103 c_3_104 rfl rfl (Nat.le_of_ble_eq_true rfl) rfl H0 (iI_k (iI_m0 (fun x28 h H => ?_) (J_X7_addValue (d := (d + 5)) H)))
          exact T_ireturn (pc := 138) rfl rfl dX11_finish_138 H
        · rw [if_neg hc] at H
          refine T_bipush (pc := 84) (v := (-4)) dX11_finish_84 (by decide) ?_
          exact T_ireturn (pc := 86) rfl rfl dX11_finish_86 H
    · rw [if_pos hc] at H
      refine T_aload_n (pc := 45) dX11_finish_45 rfl rfl ?_
      refine T_iconst (pc := 46) (v := 5) dX11_finish_46 (by decide) ?_
      obtain ⟨H0, H⟩ := H
      refine T_iV (pc := 47) (ci := 10) (av := [jI 5]) (rest := []) (o := v0) dX11_finish_47 mf_X11_failed c_1_196 c_1_198 pr_X11_failed rfl rfl (Nat.le_of_ble_eq_true rfl) rfl H0 (iI_k (iI_m0 (fun x29 h H => ?_) (J_X11_failed (d := (d + 5)) H)))
      exact T_ireturn (pc := 50) rfl rfl dX11_finish_50 H
  · rw [if_pos hc] at H
    refine T_bipush (pc := 27) (v := (-4)) dX11_finish_27 (by decide) ?_
    exact T_ireturn (pc := 29) rfl rfl dX11_finish_29 H
theorem I_X11_finish {d : Nat} {v0 : Option Nm} {v1 : Option Nm} {h : MH} {u : Nat} {K : Int32 → MH → Nat → Prop} (u1 : Nat) (hu : u1 ≤ u) (H : F_X11_finish d v0 v1 h u1 (fun x h2 => K x h2 (u - u1))) : iI (d + 6) u_X11_finish [jR v0, jR v1] h u K := inv.of u1 hu (Ct.of (by decide +kernel) rfl (Nat.le_of_ble_eq_true rfl) rfl (E_X11_finish H))
theorem dX11_freeTwin_0 : decode cX11_freeTwin 0 = .ok (.aload_n 0, 1) := by decide +kernel
theorem dX11_freeTwin_1 : decode cX11_freeTwin 1 = .ok (.getfield 12, 3) := by decide +kernel
theorem dX11_freeTwin_4 : decode cX11_freeTwin 4 = .ok (.iconst 1, 1) := by decide +kernel
theorem dX11_freeTwin_5 : decode cX11_freeTwin 5 = .ok (.invokevirtual 68, 3) := by decide +kernel
theorem dX11_freeTwin_8 : decode cX11_freeTwin 8 = .ok (.ifCond .eq 18, 3) := by decide +kernel
theorem dX11_freeTwin_11 : decode cX11_freeTwin 11 = .ok (.aload_n 0, 1) := by decide +kernel
theorem dX11_freeTwin_12 : decode cX11_freeTwin 12 = .ok (.getfield 12, 3) := by decide +kernel
theorem dX11_freeTwin_15 : decode cX11_freeTwin 15 = .ok (.aload_n 1, 1) := by decide +kernel
theorem dX11_freeTwin_16 : decode cX11_freeTwin 16 = .ok (.iconst 0, 1) := by decide +kernel
theorem dX11_freeTwin_17 : decode cX11_freeTwin 17 = .ok (.invokevirtual 347, 3) := by decide +kernel
theorem dX11_freeTwin_20 : decode cX11_freeTwin 20 = .ok (.getfield 80, 3) := by decide +kernel
theorem dX11_freeTwin_23 : decode cX11_freeTwin 23 = .ok (.goto 5, 3) := by decide +kernel
theorem dX11_freeTwin_26 : decode cX11_freeTwin 26 = .ok (.bipush (-4), 2) := by decide +kernel
theorem dX11_freeTwin_28 : decode cX11_freeTwin 28 = .ok (.ireturn, 1) := by decide +kernel
def F_X11_freeTwin (d : Nat) (v0 : Option Nm) (v1 : Option Nm) (h : MH) (u : Nat) (Q : Int32 → MH → Prop) : Prop :=
  gR h v0 10 0 fun x1 =>
  rc h x1 6 ∧ F_X7_hasRoomForRows d x1 1 h 0 fun x2 h =>
  if x2 = 0 then
    Q (-4) h
  else
    gR h v0 10 0 fun x3 =>
    rc h x3 6 ∧ iR d u_X7_addTwin [jR x3, jR v1, jI 0] h u fun x4 h u =>
    gI h x4 4 0 fun x5 =>
    Q x5 h
set_option maxRecDepth 20000 in
theorem E_X11_freeTwin {d : Nat} {v0 : Option Nm} {v1 : Option Nm} {h : MH} {u : Nat} {Q : Int32 → MH → Prop} (H : F_X11_freeTwin d v0 v1 h u Q) : T u_X11_freeTwin (d + 1) 0 [some (jR v0), some (jR v1)] [] h u (qI Q) := by
  unfold F_X11_freeTwin at H
  refine T_aload_n (pc := 0) dX11_freeTwin_0 rfl rfl ?_
  refine T_gR (pc := 1) fa_X11_12 dX11_freeTwin_1 (gR_mono (fun x1 H => ?_) H)
  refine T_iconst (pc := 4) (v := 1) dX11_freeTwin_4 (by decide) ?_
  obtain ⟨H0, H⟩ := H
  refine T_iV (pc := 5) (ci := 6) (av := [jI 1]) (rest := []) (o := x1) dX11_freeTwin_5 mf_X7_hasRoomForRows c_1_192 c_1_193 c_1_194 rfl rfl (Nat.le_of_ble_eq_true rfl) rfl H0 (iI_k (iI_m0 (fun x2 h H => ?_) (J_X7_hasRoomForRows (d := d) H)))
  refine T_if_eq (pc := 8) (tgt := 26) dX11_freeTwin_8 (by decide) (fun hc => ?_) (fun hc => ?_)
  · rw [if_pos hc] at H
    refine T_bipush (pc := 26) (v := (-4)) dX11_freeTwin_26 (by decide) ?_
    exact T_ireturn (pc := 28) rfl rfl dX11_freeTwin_28 H
  · rw [if_neg hc] at H
    refine T_aload_n (pc := 11) dX11_freeTwin_11 rfl rfl ?_
    refine T_gR (pc := 12) fa_X11_12 dX11_freeTwin_12 (gR_mono (fun x3 H => ?_) H)
    refine T_aload_n (pc := 15) dX11_freeTwin_15 rfl rfl ?_
    refine T_iconst (pc := 16) (v := 0) dX11_freeTwin_16 (by decide) ?_
    obtain ⟨H0, H⟩ := H
    refine T_iV (pc := 17) (ci := 6) (av := [jR v1, jI 0]) (rest := []) (o := x3) dX11_freeTwin_17 mf_X7_addTwin c_2_105 c_2_106 c_2_107 rfl rfl (Nat.le_of_ble_eq_true rfl) rfl H0 (iR_k (iR_mono (fun x4 h u H => ?_) H))
    refine T_gI (pc := 20) fa_X11_80 dX11_freeTwin_20 (gI_mono (fun x5 H => ?_) H)
    refine T_goto (pc := 23) (tgt := 28) dX11_freeTwin_23 (by decide) ?_
    exact T_ireturn (pc := 28) rfl rfl dX11_freeTwin_28 H
theorem I_X11_freeTwin {d : Nat} {v0 : Option Nm} {v1 : Option Nm} {h : MH} {u : Nat} {K : Int32 → MH → Nat → Prop} (u1 : Nat) (hu : u1 ≤ u) (H : F_X11_freeTwin d v0 v1 h u1 (fun x h2 => K x h2 (u - u1))) : iI (d + 1) u_X11_freeTwin [jR v0, jR v1] h u K := inv.of u1 hu (Ct.of (by decide +kernel) rfl (Nat.le_of_ble_eq_true rfl) rfl (E_X11_freeTwin H))
theorem dX11_lost_0 : decode cX11_lost 0 = .ok (.aload_n 0, 1) := by decide +kernel
theorem dX11_lost_1 : decode cX11_lost 1 = .ok (.iload_n 1, 1) := by decide +kernel
theorem dX11_lost_2 : decode cX11_lost 2 = .ok (.invokevirtual 72, 3) := by decide +kernel
theorem dX11_lost_5 : decode cX11_lost 5 = .ok (.pop, 1) := by decide +kernel
theorem dX11_lost_6 : decode cX11_lost 6 = .ok (.ldc2_w 112, 3) := by decide +kernel
theorem dX11_lost_9 : decode cX11_lost 9 = .ok (.lreturn, 1) := by decide +kernel
def F_X11_lost (d : Nat) (v0 : Option Nm) (v1 : Int32) (h : MH) (u : Nat) (Q : Int64 → MH → Prop) : Prop :=
  rc h v0 10 ∧ F_X11_failed d v0 v1 h 0 fun x1 h =>
  Q (-9223372036854775808) h
set_option maxRecDepth 20000 in
theorem E_X11_lost {d : Nat} {v0 : Option Nm} {v1 : Int32} {h : MH} {u : Nat} {Q : Int64 → MH → Prop} (H : F_X11_lost d v0 v1 h u Q) : T u_X11_lost (d + 1) 0 [some (jR v0), some (jI v1)] [] h u (qL Q) := by
  unfold F_X11_lost at H
  refine T_aload_n (pc := 0) dX11_lost_0 rfl rfl ?_
  refine T_iload_n (pc := 1) dX11_lost_1 rfl rfl ?_
  obtain ⟨H0, H⟩ := H
  refine T_iV (pc := 2) (ci := 10) (av := [jI v1]) (rest := []) (o := v0) dX11_lost_2 mf_X11_failed c_1_196 c_1_198 pr_X11_failed rfl rfl (Nat.le_of_ble_eq_true rfl) rfl H0 (iI_k (iI_m0 (fun x1 h H => ?_) (J_X11_failed (d := d) H)))
  refine T_pop (pc := 5) rfl dX11_lost_5 ?_
  refine T_ldc2 (pc := 6) (v := (-9223372036854775808)) dX11_lost_6 c_2_54 ?_
  exact T_lreturn (pc := 9) rfl dX11_lost_9 H
theorem I_X11_lost {d : Nat} {v0 : Option Nm} {v1 : Int32} {h : MH} {u : Nat} {K : Int64 → MH → Nat → Prop} (u1 : Nat) (hu : u1 ≤ u) (H : F_X11_lost d v0 v1 h u1 (fun x h2 => K x h2 (u - u1))) : iL (d + 1) u_X11_lost [jR v0, jI v1] h u K := inv.of u1 hu (Ct.of (by decide +kernel) rfl (Nat.le_of_ble_eq_true rfl) rfl (E_X11_lost H))
theorem J_X11_lost {d : Nat} {v0 : Option Nm} {v1 : Int32} {h : MH} {u : Nat} {K : Int64 → MH → Prop} (H : F_X11_lost d v0 v1 h 0 K) : iL (d + 1) u_X11_lost [jR v0, jI v1] h u (fun x h2 u2 => K x h2 ∧ u2 = u) := jiL (by decide +kernel) rfl (Nat.le_of_ble_eq_true rfl) rfl (E_X11_lost H)
theorem dX11_numberFault_0 : decode cX11_numberFault 0 = .ok (.aload_n 0, 1) := by decide +kernel
theorem dX11_numberFault_1 : decode cX11_numberFault 1 = .ok (.getfield 93, 3) := by decide +kernel
theorem dX11_numberFault_4 : decode cX11_numberFault 4 = .ok (.bipush 8, 2) := by decide +kernel
theorem dX11_numberFault_6 : decode cX11_numberFault 6 = .ok (.if_icmp .ne 5, 3) := by decide +kernel
theorem dX11_numberFault_9 : decode cX11_numberFault 9 = .ok (.iconst 3, 1) := by decide +kernel
theorem dX11_numberFault_10 : decode cX11_numberFault 10 = .ok (.ireturn, 1) := by decide +kernel
theorem dX11_numberFault_11 : decode cX11_numberFault 11 = .ok (.aload_n 0, 1) := by decide +kernel
theorem dX11_numberFault_12 : decode cX11_numberFault 12 = .ok (.iload_n 1, 1) := by decide +kernel
theorem dX11_numberFault_13 : decode cX11_numberFault 13 = .ok (.invokevirtual 341, 3) := by decide +kernel
theorem dX11_numberFault_16 : decode cX11_numberFault 16 = .ok (.ifCond .ne 5, 3) := by decide +kernel
theorem dX11_numberFault_19 : decode cX11_numberFault 19 = .ok (.iconst 2, 1) := by decide +kernel
theorem dX11_numberFault_20 : decode cX11_numberFault 20 = .ok (.ireturn, 1) := by decide +kernel
theorem dX11_numberFault_21 : decode cX11_numberFault 21 = .ok (.iload_n 2, 1) := by decide +kernel
theorem dX11_numberFault_22 : decode cX11_numberFault 22 = .ok (.iload_n 3, 1) := by decide +kernel
theorem dX11_numberFault_23 : decode cX11_numberFault 23 = .ok (.invokestatic 344, 3) := by decide +kernel
theorem dX11_numberFault_26 : decode cX11_numberFault 26 = .ok (.ifCond .eq 7, 3) := by decide +kernel
theorem dX11_numberFault_29 : decode cX11_numberFault 29 = .ok (.iconst 0, 1) := by decide +kernel
theorem dX11_numberFault_30 : decode cX11_numberFault 30 = .ok (.goto 4, 3) := by decide +kernel
theorem dX11_numberFault_33 : decode cX11_numberFault 33 = .ok (.iconst 3, 1) := by decide +kernel
theorem dX11_numberFault_34 : decode cX11_numberFault 34 = .ok (.ireturn, 1) := by decide +kernel
def F_X11_numberFault (d : Nat) (v0 : Option Nm) (v1 : Int32) (v2 : Int32) (v3 : Int32) (h : MH) (u : Nat) (Q : Int32 → MH → Prop) : Prop :=
  gI h v0 4 1 fun x1 =>
  if x1 = 8 then
    Q 3 h
  else
    rc h v0 4 ∧ F_X5_hasCell d v0 v1 h 0 fun x2 h =>
    if x2 = 0 then
      Q 2 h
    else
      F_X4_isWidened d v2 v3 h 0 fun x3 h =>
      if x3 = 0 then
        Q 3 h
      else
        Q 0 h
set_option maxRecDepth 20000 in
theorem E_X11_numberFault {d : Nat} {v0 : Option Nm} {v1 : Int32} {v2 : Int32} {v3 : Int32} {h : MH} {u : Nat} {Q : Int32 → MH → Prop} (H : F_X11_numberFault d v0 v1 v2 v3 h u Q) : T u_X11_numberFault (d + 1) 0 [some (jR v0), some (jI v1), some (jI v2), some (jI v3)] [] h u (qI Q) := by
  unfold F_X11_numberFault at H
  refine T_aload_n (pc := 0) dX11_numberFault_0 rfl rfl ?_
  refine T_gI (pc := 1) fa_X11_93 dX11_numberFault_1 (gI_mono (fun x1 H => ?_) H)
  refine T_bipush (pc := 4) (v := 8) dX11_numberFault_4 (by decide) ?_
  refine T_icmp_ne (pc := 6) (tgt := 11) dX11_numberFault_6 (by decide) (fun hc => ?_) (fun hc => ?_)
  · rw [if_neg hc] at H
    refine T_aload_n (pc := 11) dX11_numberFault_11 rfl rfl ?_
    refine T_iload_n (pc := 12) dX11_numberFault_12 rfl rfl ?_
    obtain ⟨H0, H⟩ := H
    refine T_iV (pc := 13) (ci := 4) (av := [jI v1]) (rest := []) (o := v0) dX11_numberFault_13 mf_X5_hasCell c_2_11 c_2_12 c_2_13 rfl rfl (Nat.le_of_ble_eq_true rfl) rfl H0 (iI_k (iI_m0 (fun x2 h H => ?_) (J_X5_hasCell (d := d) H)))
    refine T_if_ne (pc := 16) (tgt := 21) dX11_numberFault_16 (by decide) (fun hc => ?_) (fun hc => ?_)
    · rw [if_neg hc] at H
      refine T_iload_n (pc := 21) dX11_numberFault_21 rfl rfl ?_
      refine T_iload_n (pc := 22) dX11_numberFault_22 rfl rfl ?_
      refine T_invS (pc := 23) (av := [jI v2, jI v3]) (rest := []) dX11_numberFault_23 mf_X4_isWidened c_2_15 c_2_16 rfl (Nat.le_of_ble_eq_true rfl) rfl (iI_k (iI_m0 (fun x3 h H => ?_) (J_X4_isWidened (d := d) H)))
      refine T_if_eq (pc := 26) (tgt := 33) dX11_numberFault_26 (by decide) (fun hc => ?_) (fun hc => ?_)
      · rw [if_pos hc] at H
        refine T_iconst (pc := 33) (v := 3) dX11_numberFault_33 (by decide) ?_
        exact T_ireturn (pc := 34) rfl rfl dX11_numberFault_34 H
      · rw [if_neg hc] at H
        refine T_iconst (pc := 29) (v := 0) dX11_numberFault_29 (by decide) ?_
        refine T_goto (pc := 30) (tgt := 34) dX11_numberFault_30 (by decide) ?_
        exact T_ireturn (pc := 34) rfl rfl dX11_numberFault_34 H
    · rw [if_pos hc] at H
      refine T_iconst (pc := 19) (v := 2) dX11_numberFault_19 (by decide) ?_
      exact T_ireturn (pc := 20) rfl rfl dX11_numberFault_20 H
  · rw [if_pos hc] at H
    refine T_iconst (pc := 9) (v := 3) dX11_numberFault_9 (by decide) ?_
    exact T_ireturn (pc := 10) rfl rfl dX11_numberFault_10 H
theorem I_X11_numberFault {d : Nat} {v0 : Option Nm} {v1 : Int32} {v2 : Int32} {v3 : Int32} {h : MH} {u : Nat} {K : Int32 → MH → Nat → Prop} (u1 : Nat) (hu : u1 ≤ u) (H : F_X11_numberFault d v0 v1 v2 v3 h u1 (fun x h2 => K x h2 (u - u1))) : iI (d + 1) u_X11_numberFault [jR v0, jI v1, jI v2, jI v3] h u K := inv.of u1 hu (Ct.of (by decide +kernel) rfl (Nat.le_of_ble_eq_true rfl) rfl (E_X11_numberFault H))
theorem J_X11_numberFault {d : Nat} {v0 : Option Nm} {v1 : Int32} {v2 : Int32} {v3 : Int32} {h : MH} {u : Nat} {K : Int32 → MH → Prop} (H : F_X11_numberFault d v0 v1 v2 v3 h 0 K) : iI (d + 1) u_X11_numberFault [jR v0, jI v1, jI v2, jI v3] h u (fun x h2 u2 => K x h2 ∧ u2 = u) := jiI (by decide +kernel) rfl (Nat.le_of_ble_eq_true rfl) rfl (E_X11_numberFault H)
theorem dX11_get_0 : decode cX11_get 0 = .ok (.aload_n 0, 1) := by decide +kernel
theorem dX11_get_1 : decode cX11_get 1 = .ok (.getfield 12, 3) := by decide +kernel
theorem dX11_get_4 : decode cX11_get 4 = .ok (.iload_n 1, 1) := by decide +kernel
theorem dX11_get_5 : decode cX11_get 5 = .ok (.i2l, 1) := by decide +kernel
theorem dX11_get_6 : decode cX11_get 6 = .ok (.invokevirtual 86, 3) := by decide +kernel
theorem dX11_get_9 : decode cX11_get 9 = .ok (.astore 4, 2) := by decide +kernel
theorem dX11_get_11 : decode cX11_get 11 = .ok (.aload 4, 2) := by decide +kernel
theorem dX11_get_13 : decode cX11_get 13 = .ok (.ifnull 10, 3) := by decide +kernel
theorem dX11_get_16 : decode cX11_get 16 = .ok (.iload_n 3, 1) := by decide +kernel
theorem dX11_get_17 : decode cX11_get 17 = .ok (.invokestatic 90, 3) := by decide +kernel
theorem dX11_get_20 : decode cX11_get 20 = .ok (.ifCond .ne 7, 3) := by decide +kernel
theorem dX11_get_23 : decode cX11_get 23 = .ok (.ldc2_w 112, 3) := by decide +kernel
theorem dX11_get_26 : decode cX11_get 26 = .ok (.lreturn, 1) := by decide +kernel
theorem dX11_get_27 : decode cX11_get 27 = .ok (.aload 4, 2) := by decide +kernel
theorem dX11_get_29 : decode cX11_get 29 = .ok (.iload_n 2, 1) := by decide +kernel
theorem dX11_get_30 : decode cX11_get 30 = .ok (.aload 4, 2) := by decide +kernel
theorem dX11_get_32 : decode cX11_get 32 = .ok (.getfield 93, 3) := by decide +kernel
theorem dX11_get_35 : decode cX11_get 35 = .ok (.iload_n 3, 1) := by decide +kernel
theorem dX11_get_36 : decode cX11_get 36 = .ok (.invokestatic 96, 3) := by decide +kernel
theorem dX11_get_39 : decode cX11_get 39 = .ok (.istore 5, 2) := by decide +kernel
theorem dX11_get_41 : decode cX11_get 41 = .ok (.iload 5, 2) := by decide +kernel
theorem dX11_get_43 : decode cX11_get 43 = .ok (.ifCond .eq 10, 3) := by decide +kernel
theorem dX11_get_46 : decode cX11_get 46 = .ok (.aload_n 0, 1) := by decide +kernel
theorem dX11_get_47 : decode cX11_get 47 = .ok (.iload 5, 2) := by decide +kernel
theorem dX11_get_49 : decode cX11_get 49 = .ok (.invokevirtual 114, 3) := by decide +kernel
theorem dX11_get_52 : decode cX11_get 52 = .ok (.lreturn, 1) := by decide +kernel
theorem dX11_get_53 : decode cX11_get 53 = .ok (.aload 4, 2) := by decide +kernel
theorem dX11_get_55 : decode cX11_get 55 = .ok (.getfield 93, 3) := by decide +kernel
theorem dX11_get_58 : decode cX11_get 58 = .ok (.iload_n 3, 1) := by decide +kernel
theorem dX11_get_59 : decode cX11_get 59 = .ok (.aload 4, 2) := by decide +kernel
theorem dX11_get_61 : decode cX11_get 61 = .ok (.getfield 100, 3) := by decide +kernel
theorem dX11_get_64 : decode cX11_get 64 = .ok (.iload_n 2, 1) := by decide +kernel
theorem dX11_get_65 : decode cX11_get 65 = .ok (.laload, 1) := by decide +kernel
theorem dX11_get_66 : decode cX11_get 66 = .ok (.invokestatic 108, 3) := by decide +kernel
theorem dX11_get_69 : decode cX11_get 69 = .ok (.lreturn, 1) := by decide +kernel
def F_X11_get (d : Nat) (v0 : Option Nm) (v1 : Int32) (v2 : Int32) (v3 : Int32) (h : MH) (u : Nat) (Q : Int64 → MH → Prop) : Prop :=
  gR h v0 10 0 fun x1 =>
  rc h x1 6 ∧ F_X7_findRow (d + 4) x1 (v1.toInt64) h 0 fun x2 h =>
  nl x2 (
    Q (-9223372036854775808) h) (
    F_X4_isNumber (d + 4) v3 h 0 fun x3 h =>
    if x3 = 0 then
      Q (-9223372036854775808) h
    else
      gI h x2 4 1 fun x4 =>
      F_X11_numberFault (d + 3) x2 v2 x4 v3 h 0 fun x5 h =>
      if x5 = 0 then
        gI h x2 4 1 fun x6 =>
        gR h x2 4 2 fun x7 =>
        aL h x7 v2 fun x8 =>
        F_X4_widen d x6 v3 x8 h 0 fun x9 h =>
        Q x9 h
      else
        rc h v0 10 ∧ F_X11_lost (d + 3) v0 x5 h 0 fun x10 h =>
        Q x10 h)
set_option maxRecDepth 20000 in
theorem E_X11_get {d : Nat} {v0 : Option Nm} {v1 : Int32} {v2 : Int32} {v3 : Int32} {h : MH} {u : Nat} {Q : Int64 → MH → Prop} (H : F_X11_get d v0 v1 v2 v3 h u Q) : T u_X11_get (d + 5) 0 [some (jR v0), some (jI v1), some (jI v2), some (jI v3), none, none] [] h u (qL Q) := by
  unfold F_X11_get at H
  refine T_aload_n (pc := 0) dX11_get_0 rfl rfl ?_
  refine T_gR (pc := 1) fa_X11_12 dX11_get_1 (gR_mono (fun x1 H => ?_) H)
  refine T_iload_n (pc := 4) dX11_get_4 rfl rfl ?_
  refine T_i2l (pc := 5) dX11_get_5 ?_
  obtain ⟨H0, H⟩ := H
  refine T_iV (pc := 6) (ci := 6) (av := [jL (v1.toInt64)]) (rest := []) (o := x1) dX11_get_6 mf_X7_findRow c_2_1 c_2_2 c_2_3 rfl rfl (Nat.le_of_ble_eq_true rfl) rfl H0 (iR_k (iR_m0 (fun x2 h H => ?_) (J_X7_findRow (d := (d + 4)) H)))
  refine T_astore (pc := 9) (ls2 := [some (jR v0), some (jI v1), some (jI v2), some (jI v3), some (jR x2), none]) dX11_get_9 (Nat.le_of_ble_eq_true rfl) rfl ?_
  refine T_aload (pc := 11) dX11_get_11 rfl ?_
  refine T_ifnull (pc := 13) (tgt := 23) dX11_get_13 (by decide) (fun ho => ?_) (fun n ho => ?_)
  · replace H := nl_n ho H
    refine T_ldc2 (pc := 23) (v := (-9223372036854775808)) dX11_get_23 c_2_54 ?_
    exact T_lreturn (pc := 26) rfl dX11_get_26 H
  · replace H := nl_s ho H
    refine T_iload_n (pc := 16) dX11_get_16 rfl rfl ?_
    refine T_invS (pc := 17) (av := [jI v3]) (rest := []) dX11_get_17 mf_X4_isNumber c_2_5 c_2_6 rfl (Nat.le_of_ble_eq_true rfl) rfl (iI_k (iI_m0 (fun x3 h H => ?_) (J_X4_isNumber (d := (d + 4)) H)))
    refine T_if_ne (pc := 20) (tgt := 27) dX11_get_20 (by decide) (fun hc => ?_) (fun hc => ?_)
    · rw [if_neg hc] at H
      refine T_aload (pc := 27) dX11_get_27 rfl ?_
      refine T_iload_n (pc := 29) dX11_get_29 rfl rfl ?_
      refine T_aload (pc := 30) dX11_get_30 rfl ?_
      refine T_gI (pc := 32) fa_X11_93 dX11_get_32 (gI_mono (fun x4 H => ?_) H)
      refine T_iload_n (pc := 35) dX11_get_35 rfl rfl ?_
      refine T_invS (pc := 36) (av := [jR x2, jI v2, jI x4, jI v3]) (rest := []) dX11_get_36 mf_X11_numberFault c_2_8 c_2_9 rfl (Nat.le_of_ble_eq_true rfl) rfl (iI_k (iI_m0 (fun x5 h H => ?_) (J_X11_numberFault (d := (d + 3)) H)))
      refine T_istore (pc := 39) (ls2 := [some (jR v0), some (jI v1), some (jI v2), some (jI v3), some (jR x2), some (jI x5)]) dX11_get_39 (Nat.le_of_ble_eq_true rfl) rfl ?_
      refine T_iload (pc := 41) dX11_get_41 rfl ?_
      refine T_if_eq (pc := 43) (tgt := 53) dX11_get_43 (by decide) (fun hc => ?_) (fun hc => ?_)
      · rw [if_pos hc] at H
        refine T_aload (pc := 53) dX11_get_53 rfl ?_
        refine T_gI (pc := 55) fa_X11_93 dX11_get_55 (gI_mono (fun x6 H => ?_) H)
        refine T_iload_n (pc := 58) dX11_get_58 rfl rfl ?_
        refine T_aload (pc := 59) dX11_get_59 rfl ?_
        refine T_gR (pc := 61) fa_X11_100 dX11_get_61 (gR_mono (fun x7 H => ?_) H)
        refine T_iload_n (pc := 64) dX11_get_64 rfl rfl ?_
        refine T_aL (pc := 65) dX11_get_65 (aL_mono (fun x8 H => ?_) H)
        refine T_invS (pc := 66) (av := [jI x6, jI v3, jL x8]) (rest := []) dX11_get_66 mf_X4_widen c_2_39 c_2_40 rfl (Nat.le_of_ble_eq_true rfl) rfl (iL_k (iL_m0 (fun x9 h H => ?_) (J_X4_widen (d := d) H)))
        exact T_lreturn (pc := 69) rfl dX11_get_69 H
      · rw [if_neg hc] at H
        refine T_aload_n (pc := 46) dX11_get_46 rfl rfl ?_
        refine T_iload (pc := 47) dX11_get_47 rfl ?_
        obtain ⟨H0, H⟩ := H
        refine T_iV (pc := 49) (ci := 10) (av := [jI x5]) (rest := []) (o := v0) dX11_get_49 mf_X11_lost c_2_55 c_2_57 pr_X11_lost rfl rfl (Nat.le_of_ble_eq_true rfl) rfl H0 (iL_k (iL_m0 (fun x10 h H => ?_) (J_X11_lost (d := (d + 3)) H)))
        exact T_lreturn (pc := 52) rfl dX11_get_52 H
    · rw [if_pos hc] at H
      refine T_ldc2 (pc := 23) (v := (-9223372036854775808)) dX11_get_23 c_2_54 ?_
      exact T_lreturn (pc := 26) rfl dX11_get_26 H
theorem I_X11_get {d : Nat} {v0 : Option Nm} {v1 : Int32} {v2 : Int32} {v3 : Int32} {h : MH} {u : Nat} {K : Int64 → MH → Nat → Prop} (u1 : Nat) (hu : u1 ≤ u) (H : F_X11_get d v0 v1 v2 v3 h u1 (fun x h2 => K x h2 (u - u1))) : iL (d + 5) u_X11_get [jR v0, jI v1, jI v2, jI v3] h u K := inv.of u1 hu (Ct.of (by decide +kernel) rfl (Nat.le_of_ble_eq_true rfl) rfl (E_X11_get H))
theorem J_X11_get {d : Nat} {v0 : Option Nm} {v1 : Int32} {v2 : Int32} {v3 : Int32} {h : MH} {u : Nat} {K : Int64 → MH → Prop} (H : F_X11_get d v0 v1 v2 v3 h 0 K) : iL (d + 5) u_X11_get [jR v0, jI v1, jI v2, jI v3] h u (fun x h2 u2 => K x h2 ∧ u2 = u) := jiL (by decide +kernel) rfl (Nat.le_of_ble_eq_true rfl) rfl (E_X11_get H)
theorem dX11_isPlace_0 : decode cX11_isPlace 0 = .ok (.iload_n 0, 1) := by decide +kernel
theorem dX11_isPlace_1 : decode cX11_isPlace 1 = .ok (.iconst 0, 1) := by decide +kernel
theorem dX11_isPlace_2 : decode cX11_isPlace 2 = .ok (.iconst 5, 1) := by decide +kernel
theorem dX11_isPlace_3 : decode cX11_isPlace 3 = .ok (.invokestatic 64, 3) := by decide +kernel
theorem dX11_isPlace_6 : decode cX11_isPlace 6 = .ok (.ireturn, 1) := by decide +kernel
def F_X11_isPlace (d : Nat) (v0 : Int32) (h : MH) (u : Nat) (Q : Int32 → MH → Prop) : Prop :=
  F_X11_isWithin d v0 0 5 h 0 fun x1 h =>
  nz x1 ∧ Q x1 h
set_option maxRecDepth 20000 in
theorem E_X11_isPlace {d : Nat} {v0 : Int32} {h : MH} {u : Nat} {Q : Int32 → MH → Prop} (H : F_X11_isPlace d v0 h u Q) : T u_X11_isPlace (d + 1) 0 [some (jI v0)] [] h u (qI Q) := by
  unfold F_X11_isPlace at H
  refine T_iload_n (pc := 0) dX11_isPlace_0 rfl rfl ?_
  refine T_iconst (pc := 1) (v := 0) dX11_isPlace_1 (by decide) ?_
  refine T_iconst (pc := 2) (v := 5) dX11_isPlace_2 (by decide) ?_
  refine T_invS (pc := 3) (av := [jI v0, jI 0, jI 5]) (rest := []) dX11_isPlace_3 mf_X11_isWithin c_1_189 c_1_190 rfl (Nat.le_of_ble_eq_true rfl) rfl (iI_k (iI_m0 (fun x1 h H => ?_) (J_X11_isWithin (d := d) H)))
  exact T_ireturn (pc := 6) rfl (nz_nar H.1) dX11_isPlace_6 H.2
theorem I_X11_isPlace {d : Nat} {v0 : Int32} {h : MH} {u : Nat} {K : Int32 → MH → Nat → Prop} (u1 : Nat) (hu : u1 ≤ u) (H : F_X11_isPlace d v0 h u1 (fun x h2 => K x h2 (u - u1))) : iI (d + 1) u_X11_isPlace [jI v0] h u K := inv.of u1 hu (Ct.of (by decide +kernel) rfl (Nat.le_of_ble_eq_true rfl) rfl (E_X11_isPlace H))
theorem J_X11_isPlace {d : Nat} {v0 : Int32} {h : MH} {u : Nat} {K : Int32 → MH → Prop} (H : F_X11_isPlace d v0 h 0 K) : iI (d + 1) u_X11_isPlace [jI v0] h u (fun x h2 u2 => K x h2 ∧ u2 = u) := jiI (by decide +kernel) rfl (Nat.le_of_ble_eq_true rfl) rfl (E_X11_isPlace H)
theorem dX9_place_0 : decode cX9_place 0 = .ok (.aload_n 0, 1) := by decide +kernel
theorem dX9_place_1 : decode cX9_place 1 = .ok (.getfield 9, 3) := by decide +kernel
theorem dX9_place_4 : decode cX9_place 4 = .ok (.iload_n 1, 1) := by decide +kernel
theorem dX9_place_5 : decode cX9_place 5 = .ok (.iload_n 2, 1) := by decide +kernel
theorem dX9_place_6 : decode cX9_place 6 = .ok (.iastore, 1) := by decide +kernel
theorem dX9_place_7 : decode cX9_place 7 = .ok (.aload_n 0, 1) := by decide +kernel
theorem dX9_place_8 : decode cX9_place 8 = .ok (.getfield 15, 3) := by decide +kernel
theorem dX9_place_11 : decode cX9_place 11 = .ok (.iload_n 1, 1) := by decide +kernel
theorem dX9_place_12 : decode cX9_place 12 = .ok (.lload_n 3, 1) := by decide +kernel
theorem dX9_place_13 : decode cX9_place 13 = .ok (.lastore, 1) := by decide +kernel
theorem dX9_place_14 : decode cX9_place 14 = .ok (.return_, 1) := by decide +kernel
def F_X9_place (d : Nat) (v0 : Option Nm) (v1 : Int32) (v2 : Int32) (v3 : Int64) (h : MH) (u : Nat) (Q : MH → Prop) : Prop :=
  gR h v0 8 0 fun x1 =>
  sV .int h x1 v1 (jI v2) fun h =>
  gR h v0 8 1 fun x2 =>
  sV .long h x2 v1 (jL v3) fun h =>
  Q h
set_option maxRecDepth 20000 in
theorem E_X9_place {d : Nat} {v0 : Option Nm} {v1 : Int32} {v2 : Int32} {v3 : Int64} {h : MH} {u : Nat} {Q : MH → Prop} (H : F_X9_place d v0 v1 v2 v3 h u Q) : T u_X9_place d 0 [some (jR v0), some (jI v1), some (jI v2), some (jL v3), none] [] h u (qV Q) := by
  unfold F_X9_place at H
  refine T_aload_n (pc := 0) dX9_place_0 rfl rfl ?_
  refine T_gR (pc := 1) fa_X9_9 dX9_place_1 (gR_mono (fun x1 H => ?_) H)
  refine T_iload_n (pc := 4) dX9_place_4 rfl rfl ?_
  refine T_iload_n (pc := 5) dX9_place_5 rfl rfl ?_
  refine T_sI (pc := 6) dX9_place_6 (sV_mono (fun h H => ?_) H)
  refine T_aload_n (pc := 7) dX9_place_7 rfl rfl ?_
  refine T_gR (pc := 8) fa_X9_15 dX9_place_8 (gR_mono (fun x2 H => ?_) H)
  refine T_iload_n (pc := 11) dX9_place_11 rfl rfl ?_
  refine T_lload_n (pc := 12) dX9_place_12 rfl rfl ?_
  refine T_sL (pc := 13) dX9_place_13 (sV_mono (fun h H => ?_) H)
  exact T_return (pc := 14) rfl dX9_place_14 H
theorem I_X9_place {d : Nat} {v0 : Option Nm} {v1 : Int32} {v2 : Int32} {v3 : Int64} {h : MH} {u : Nat} {K : MH → Nat → Prop} (u1 : Nat) (hu : u1 ≤ u) (H : F_X9_place d v0 v1 v2 v3 h u1 (fun h2 => K h2 (u - u1))) : iV d u_X9_place [jR v0, jI v1, jI v2, jL v3] h u K := inv.of u1 hu (Ct.of (by decide +kernel) rfl (Nat.le_of_ble_eq_true rfl) rfl (E_X9_place H))
theorem J_X9_place {d : Nat} {v0 : Option Nm} {v1 : Int32} {v2 : Int32} {v3 : Int64} {h : MH} {u : Nat} {K : MH → Prop} (H : F_X9_place d v0 v1 v2 v3 h 0 K) : iV d u_X9_place [jR v0, jI v1, jI v2, jL v3] h u (fun h2 u2 => K h2 ∧ u2 = u) := jiV (by decide +kernel) rfl (Nat.le_of_ble_eq_true rfl) rfl (E_X9_place H)
theorem dX11_give_0 : decode cX11_give 0 = .ok (.iload_n 1, 1) := by decide +kernel
theorem dX11_give_1 : decode cX11_give 1 = .ok (.invokestatic 220, 3) := by decide +kernel
theorem dX11_give_4 : decode cX11_give 4 = .ok (.ifCond .eq 10, 3) := by decide +kernel
theorem dX11_give_7 : decode cX11_give 7 = .ok (.iload_n 2, 1) := by decide +kernel
theorem dX11_give_8 : decode cX11_give 8 = .ok (.invokestatic 90, 3) := by decide +kernel
theorem dX11_give_11 : decode cX11_give 11 = .ok (.ifCond .ne 6, 3) := by decide +kernel
theorem dX11_give_14 : decode cX11_give 14 = .ok (.bipush (-2), 2) := by decide +kernel
theorem dX11_give_16 : decode cX11_give 16 = .ok (.ireturn, 1) := by decide +kernel
theorem dX11_give_17 : decode cX11_give 17 = .ok (.aload_n 0, 1) := by decide +kernel
theorem dX11_give_18 : decode cX11_give 18 = .ok (.getfield 21, 3) := by decide +kernel
theorem dX11_give_21 : decode cX11_give 21 = .ok (.iload_n 1, 1) := by decide +kernel
theorem dX11_give_22 : decode cX11_give 22 = .ok (.iload_n 2, 1) := by decide +kernel
theorem dX11_give_23 : decode cX11_give 23 = .ok (.iload_n 2, 1) := by decide +kernel
theorem dX11_give_24 : decode cX11_give 24 = .ok (.lload_n 3, 1) := by decide +kernel
theorem dX11_give_25 : decode cX11_give 25 = .ok (.invokestatic 104, 3) := by decide +kernel
theorem dX11_give_28 : decode cX11_give 28 = .ok (.invokevirtual 223, 3) := by decide +kernel
theorem dX11_give_31 : decode cX11_give 31 = .ok (.iconst 1, 1) := by decide +kernel
theorem dX11_give_32 : decode cX11_give 32 = .ok (.ireturn, 1) := by decide +kernel
def F_X11_give (d : Nat) (v0 : Option Nm) (v1 : Int32) (v2 : Int32) (v3 : Int64) (h : MH) (u : Nat) (Q : Int32 → MH → Prop) : Prop :=
  F_X11_isPlace (d + 2) v1 h 0 fun x1 h =>
  if x1 = 0 then
    Q (-2) h
  else
    F_X4_isNumber (d + 3) v2 h 0 fun x2 h =>
    if x2 = 0 then
      Q (-2) h
    else
      gR h v0 10 1 fun x3 =>
      F_X4_come d v2 v3 h 0 fun x4 h =>
      rc h x3 8 ∧ F_X9_place (d + 3) x3 v1 v2 x4 h 0 fun h =>
      Q 1 h
set_option maxRecDepth 20000 in
theorem E_X11_give {d : Nat} {v0 : Option Nm} {v1 : Int32} {v2 : Int32} {v3 : Int64} {h : MH} {u : Nat} {Q : Int32 → MH → Prop} (H : F_X11_give d v0 v1 v2 v3 h u Q) : T u_X11_give (d + 4) 0 [some (jR v0), some (jI v1), some (jI v2), some (jL v3), none] [] h u (qI Q) := by
  unfold F_X11_give at H
  refine T_iload_n (pc := 0) dX11_give_0 rfl rfl ?_
  refine T_invS (pc := 1) (av := [jI v1]) (rest := []) dX11_give_1 mf_X11_isPlace c_3_118 c_3_119 rfl (Nat.le_of_ble_eq_true rfl) rfl (iI_k (iI_m0 (fun x1 h H => ?_) (J_X11_isPlace (d := (d + 2)) H)))
  refine T_if_eq (pc := 4) (tgt := 14) dX11_give_4 (by decide) (fun hc => ?_) (fun hc => ?_)
  · rw [if_pos hc] at H
    refine T_bipush (pc := 14) (v := (-2)) dX11_give_14 (by decide) ?_
    exact T_ireturn (pc := 16) rfl rfl dX11_give_16 H
  · rw [if_neg hc] at H
    refine T_iload_n (pc := 7) dX11_give_7 rfl rfl ?_
    refine T_invS (pc := 8) (av := [jI v2]) (rest := []) dX11_give_8 mf_X4_isNumber c_2_5 c_2_6 rfl (Nat.le_of_ble_eq_true rfl) rfl (iI_k (iI_m0 (fun x2 h H => ?_) (J_X4_isNumber (d := (d + 3)) H)))
    refine T_if_ne (pc := 11) (tgt := 17) dX11_give_11 (by decide) (fun hc => ?_) (fun hc => ?_)
    · rw [if_neg hc] at H
      refine T_aload_n (pc := 17) dX11_give_17 rfl rfl ?_
      refine T_gR (pc := 18) fa_X11_21 dX11_give_18 (gR_mono (fun x3 H => ?_) H)
      refine T_iload_n (pc := 21) dX11_give_21 rfl rfl ?_
      refine T_iload_n (pc := 22) dX11_give_22 rfl rfl ?_
      refine T_iload_n (pc := 23) dX11_give_23 rfl rfl ?_
      refine T_lload_n (pc := 24) dX11_give_24 rfl rfl ?_
      refine T_invS (pc := 25) (av := [jI v2, jL v3]) (rest := [jI v2, jI v1, jR x3]) dX11_give_25 mf_X4_come c_2_18 c_2_19 rfl (Nat.le_of_ble_eq_true rfl) rfl (iL_k (iL_m0 (fun x4 h H => ?_) (J_X4_come (d := d) H)))
      obtain ⟨H0, H⟩ := H
      refine T_iV (pc := 28) (ci := 8) (av := [jI v1, jI v2, jL x4]) (rest := []) (o := x3) dX11_give_28 mf_X9_place c_3_121 c_3_122 c_3_123 rfl rfl (Nat.le_of_ble_eq_true rfl) rfl H0 (iV_k (iV_m0 (fun h H => ?_) (J_X9_place (d := (d + 3)) H)))
      refine T_iconst (pc := 31) (v := 1) dX11_give_31 (by decide) ?_
      exact T_ireturn (pc := 32) rfl rfl dX11_give_32 H
    · rw [if_pos hc] at H
      refine T_bipush (pc := 14) (v := (-2)) dX11_give_14 (by decide) ?_
      exact T_ireturn (pc := 16) rfl rfl dX11_give_16 H
theorem I_X11_give {d : Nat} {v0 : Option Nm} {v1 : Int32} {v2 : Int32} {v3 : Int64} {h : MH} {u : Nat} {K : Int32 → MH → Nat → Prop} (u1 : Nat) (hu : u1 ≤ u) (H : F_X11_give d v0 v1 v2 v3 h u1 (fun x h2 => K x h2 (u - u1))) : iI (d + 4) u_X11_give [jR v0, jI v1, jI v2, jL v3] h u K := inv.of u1 hu (Ct.of (by decide +kernel) rfl (Nat.le_of_ble_eq_true rfl) rfl (E_X11_give H))
theorem J_X11_give {d : Nat} {v0 : Option Nm} {v1 : Int32} {v2 : Int32} {v3 : Int64} {h : MH} {u : Nat} {K : Int32 → MH → Prop} (H : F_X11_give d v0 v1 v2 v3 h 0 K) : iI (d + 4) u_X11_give [jR v0, jI v1, jI v2, jL v3] h u (fun x h2 u2 => K x h2 ∧ u2 = u) := jiI (by decide +kernel) rfl (Nat.le_of_ble_eq_true rfl) rfl (E_X11_give H)
theorem dX9_empty_0 : decode cX9_empty 0 = .ok (.aload_n 0, 1) := by decide +kernel
theorem dX9_empty_1 : decode cX9_empty 1 = .ok (.getfield 9, 3) := by decide +kernel
theorem dX9_empty_4 : decode cX9_empty 4 = .ok (.iload_n 1, 1) := by decide +kernel
theorem dX9_empty_5 : decode cX9_empty 5 = .ok (.iconst (-1), 1) := by decide +kernel
theorem dX9_empty_6 : decode cX9_empty 6 = .ok (.iastore, 1) := by decide +kernel
theorem dX9_empty_7 : decode cX9_empty 7 = .ok (.return_, 1) := by decide +kernel
def F_X9_empty (d : Nat) (v0 : Option Nm) (v1 : Int32) (h : MH) (u : Nat) (Q : MH → Prop) : Prop :=
  gR h v0 8 0 fun x1 =>
  sV .int h x1 v1 (jI (-1)) fun h =>
  Q h
set_option maxRecDepth 20000 in
theorem E_X9_empty {d : Nat} {v0 : Option Nm} {v1 : Int32} {h : MH} {u : Nat} {Q : MH → Prop} (H : F_X9_empty d v0 v1 h u Q) : T u_X9_empty d 0 [some (jR v0), some (jI v1)] [] h u (qV Q) := by
  unfold F_X9_empty at H
  refine T_aload_n (pc := 0) dX9_empty_0 rfl rfl ?_
  refine T_gR (pc := 1) fa_X9_9 dX9_empty_1 (gR_mono (fun x1 H => ?_) H)
  refine T_iload_n (pc := 4) dX9_empty_4 rfl rfl ?_
  refine T_iconst (pc := 5) (v := (-1)) dX9_empty_5 (by decide) ?_
  refine T_sI (pc := 6) dX9_empty_6 (sV_mono (fun h H => ?_) H)
  exact T_return (pc := 7) rfl dX9_empty_7 H
theorem I_X9_empty {d : Nat} {v0 : Option Nm} {v1 : Int32} {h : MH} {u : Nat} {K : MH → Nat → Prop} (u1 : Nat) (hu : u1 ≤ u) (H : F_X9_empty d v0 v1 h u1 (fun h2 => K h2 (u - u1))) : iV d u_X9_empty [jR v0, jI v1] h u K := inv.of u1 hu (Ct.of (by decide +kernel) rfl (Nat.le_of_ble_eq_true rfl) rfl (E_X9_empty H))
theorem J_X9_empty {d : Nat} {v0 : Option Nm} {v1 : Int32} {h : MH} {u : Nat} {K : MH → Prop} (H : F_X9_empty d v0 v1 h 0 K) : iV d u_X9_empty [jR v0, jI v1] h u (fun h2 u2 => K h2 ∧ u2 = u) := jiV (by decide +kernel) rfl (Nat.le_of_ble_eq_true rfl) rfl (E_X9_empty H)
theorem dX11_hand_0 : decode cX11_hand 0 = .ok (.iload_n 3, 1) := by decide +kernel
theorem dX11_hand_1 : decode cX11_hand 1 = .ok (.ifCond .eq 23, 3) := by decide +kernel
theorem dX11_hand_4 : decode cX11_hand 4 = .ok (.aload_n 0, 1) := by decide +kernel
theorem dX11_hand_5 : decode cX11_hand 5 = .ok (.getfield 12, 3) := by decide +kernel
theorem dX11_hand_8 : decode cX11_hand 8 = .ok (.iload_n 2, 1) := by decide +kernel
theorem dX11_hand_9 : decode cX11_hand 9 = .ok (.i2l, 1) := by decide +kernel
theorem dX11_hand_10 : decode cX11_hand 10 = .ok (.invokevirtual 86, 3) := by decide +kernel
theorem dX11_hand_13 : decode cX11_hand 13 = .ok (.ifnull 7, 3) := by decide +kernel
theorem dX11_hand_16 : decode cX11_hand 16 = .ok (.iconst 1, 1) := by decide +kernel
theorem dX11_hand_17 : decode cX11_hand 17 = .ok (.goto 24, 3) := by decide +kernel
theorem dX11_hand_20 : decode cX11_hand 20 = .ok (.iconst 0, 1) := by decide +kernel
theorem dX11_hand_21 : decode cX11_hand 21 = .ok (.goto 20, 3) := by decide +kernel
theorem dX11_hand_24 : decode cX11_hand 24 = .ok (.aload_n 0, 1) := by decide +kernel
theorem dX11_hand_25 : decode cX11_hand 25 = .ok (.getfield 12, 3) := by decide +kernel
theorem dX11_hand_28 : decode cX11_hand 28 = .ok (.iload_n 2, 1) := by decide +kernel
theorem dX11_hand_29 : decode cX11_hand 29 = .ok (.i2l, 1) := by decide +kernel
theorem dX11_hand_30 : decode cX11_hand 30 = .ok (.invokevirtual 118, 3) := by decide +kernel
theorem dX11_hand_33 : decode cX11_hand 33 = .ok (.ifnull 7, 3) := by decide +kernel
theorem dX11_hand_36 : decode cX11_hand 36 = .ok (.iconst 1, 1) := by decide +kernel
theorem dX11_hand_37 : decode cX11_hand 37 = .ok (.goto 4, 3) := by decide +kernel
theorem dX11_hand_40 : decode cX11_hand 40 = .ok (.iconst 0, 1) := by decide +kernel
theorem dX11_hand_41 : decode cX11_hand 41 = .ok (.istore 4, 2) := by decide +kernel
theorem dX11_hand_43 : decode cX11_hand 43 = .ok (.iload_n 2, 1) := by decide +kernel
theorem dX11_hand_44 : decode cX11_hand 44 = .ok (.iconst (-1), 1) := by decide +kernel
theorem dX11_hand_45 : decode cX11_hand 45 = .ok (.if_icmp .eq 10, 3) := by decide +kernel
theorem dX11_hand_48 : decode cX11_hand 48 = .ok (.iload 4, 2) := by decide +kernel
theorem dX11_hand_50 : decode cX11_hand 50 = .ok (.ifCond .ne 5, 3) := by decide +kernel
theorem dX11_hand_53 : decode cX11_hand 53 = .ok (.iconst (-1), 1) := by decide +kernel
theorem dX11_hand_54 : decode cX11_hand 54 = .ok (.ireturn, 1) := by decide +kernel
theorem dX11_hand_55 : decode cX11_hand 55 = .ok (.iload_n 1, 1) := by decide +kernel
theorem dX11_hand_56 : decode cX11_hand 56 = .ok (.invokestatic 220, 3) := by decide +kernel
theorem dX11_hand_59 : decode cX11_hand 59 = .ok (.ifCond .ne 6, 3) := by decide +kernel
theorem dX11_hand_62 : decode cX11_hand 62 = .ok (.bipush (-2), 2) := by decide +kernel
theorem dX11_hand_64 : decode cX11_hand 64 = .ok (.ireturn, 1) := by decide +kernel
theorem dX11_hand_65 : decode cX11_hand 65 = .ok (.iload_n 2, 1) := by decide +kernel
theorem dX11_hand_66 : decode cX11_hand 66 = .ok (.iconst (-1), 1) := by decide +kernel
theorem dX11_hand_67 : decode cX11_hand 67 = .ok (.if_icmp .ne 14, 3) := by decide +kernel
theorem dX11_hand_70 : decode cX11_hand 70 = .ok (.aload_n 0, 1) := by decide +kernel
theorem dX11_hand_71 : decode cX11_hand 71 = .ok (.getfield 21, 3) := by decide +kernel
theorem dX11_hand_74 : decode cX11_hand 74 = .ok (.iload_n 1, 1) := by decide +kernel
theorem dX11_hand_75 : decode cX11_hand 75 = .ok (.invokevirtual 227, 3) := by decide +kernel
theorem dX11_hand_78 : decode cX11_hand 78 = .ok (.goto 24, 3) := by decide +kernel
theorem dX11_hand_81 : decode cX11_hand 81 = .ok (.aload_n 0, 1) := by decide +kernel
theorem dX11_hand_82 : decode cX11_hand 82 = .ok (.getfield 21, 3) := by decide +kernel
theorem dX11_hand_85 : decode cX11_hand 85 = .ok (.iload_n 1, 1) := by decide +kernel
theorem dX11_hand_86 : decode cX11_hand 86 = .ok (.iload_n 3, 1) := by decide +kernel
theorem dX11_hand_87 : decode cX11_hand 87 = .ok (.ifCond .eq 8, 3) := by decide +kernel
theorem dX11_hand_90 : decode cX11_hand 90 = .ok (.bipush 9, 2) := by decide +kernel
theorem dX11_hand_92 : decode cX11_hand 92 = .ok (.goto 5, 3) := by decide +kernel
theorem dX11_hand_95 : decode cX11_hand 95 = .ok (.bipush 8, 2) := by decide +kernel
theorem dX11_hand_97 : decode cX11_hand 97 = .ok (.iload_n 2, 1) := by decide +kernel
theorem dX11_hand_98 : decode cX11_hand 98 = .ok (.i2l, 1) := by decide +kernel
theorem dX11_hand_99 : decode cX11_hand 99 = .ok (.invokevirtual 223, 3) := by decide +kernel
theorem dX11_hand_102 : decode cX11_hand 102 = .ok (.iconst 1, 1) := by decide +kernel
theorem dX11_hand_103 : decode cX11_hand 103 = .ok (.ireturn, 1) := by decide +kernel
def F_X11_hand_97 (d : Nat) (v2 : Int32) (s0 : Option Nm) (s1 : Int32) (s2 : Int32) (h : MH) (u : Nat) (Q : Int32 → MH → Prop) : Prop :=
  rc h s0 8 ∧ F_X9_place (d + 1) s0 s1 s2 (v2.toInt64) h 0 fun h =>
  Q 1 h
set_option maxRecDepth 20000 in
theorem E_X11_hand_97 {d : Nat} {v2 : Int32} {s0 : Option Nm} {s1 : Int32} {s2 : Int32} {h : MH} {u : Nat} {Q : Int32 → MH → Prop} (H : F_X11_hand_97 d v2 s0 s1 s2 h u Q) : T u_X11_hand (d + 2) 97 [none, none, some (jI v2), none, none] [jI s2, jI s1, jR s0] h u (qI Q) := by
  unfold F_X11_hand_97 at H
  refine T_iload_n (pc := 97) dX11_hand_97 rfl rfl ?_
  refine T_i2l (pc := 98) dX11_hand_98 ?_
  obtain ⟨H0, H⟩ := H
  refine T_iV (pc := 99) (ci := 8) (av := [jI s1, jI s2, jL (v2.toInt64)]) (rest := []) (o := s0) dX11_hand_99 mf_X9_place c_3_121 c_3_122 c_3_123 rfl rfl (Nat.le_of_ble_eq_true rfl) rfl H0 (iV_k (iV_m0 (fun h H => ?_) (J_X9_place (d := (d + 1)) H)))
  refine T_iconst (pc := 102) (v := 1) dX11_hand_102 (by decide) ?_
  exact T_ireturn (pc := 103) rfl rfl dX11_hand_103 H
def F_X11_hand_55 (d : Nat) (v0 : Option Nm) (v1 : Int32) (v2 : Int32) (v3 : Int32) (h : MH) (u : Nat) (Q : Int32 → MH → Prop) : Prop :=
  F_X11_isPlace d v1 h 0 fun x1 h =>
  if x1 = 0 then
    Q (-2) h
  else
    if v2 = (-1) then
      gR h v0 10 1 fun x3 =>
      rc h x3 8 ∧ F_X9_empty (d + 1) x3 v1 h 0 fun h =>
      Q 1 h
    else
      gR h v0 10 1 fun x2 =>
      if v3 = 0 then
        F_X11_hand_97 d v2 x2 v1 8 h u Q
      else
        F_X11_hand_97 d v2 x2 v1 9 h u Q
set_option maxRecDepth 20000 in
theorem E_X11_hand_55 {d : Nat} {v0 : Option Nm} {v1 : Int32} {v2 : Int32} {v3 : Int32} {h : MH} {u : Nat} {Q : Int32 → MH → Prop} (H : F_X11_hand_55 d v0 v1 v2 v3 h u Q) : T u_X11_hand (d + 2) 55 [some (jR v0), some (jI v1), some (jI v2), some (jI v3), none] [] h u (qI Q) := by
  unfold F_X11_hand_55 at H
  refine T_iload_n (pc := 55) dX11_hand_55 rfl rfl ?_
  refine T_invS (pc := 56) (av := [jI v1]) (rest := []) dX11_hand_56 mf_X11_isPlace c_3_118 c_3_119 rfl (Nat.le_of_ble_eq_true rfl) rfl (iI_k (iI_m0 (fun x1 h H => ?_) (J_X11_isPlace (d := d) H)))
  refine T_if_ne (pc := 59) (tgt := 65) dX11_hand_59 (by decide) (fun hc => ?_) (fun hc => ?_)
  · rw [if_neg hc] at H
    refine T_iload_n (pc := 65) dX11_hand_65 rfl rfl ?_
    refine T_iconst (pc := 66) (v := (-1)) dX11_hand_66 (by decide) ?_
    refine T_icmp_ne (pc := 67) (tgt := 81) dX11_hand_67 (by decide) (fun hc => ?_) (fun hc => ?_)
    · rw [if_neg hc] at H
      refine T_aload_n (pc := 81) dX11_hand_81 rfl rfl ?_
      refine T_gR (pc := 82) fa_X11_21 dX11_hand_82 (gR_mono (fun x2 H => ?_) H)
      refine T_iload_n (pc := 85) dX11_hand_85 rfl rfl ?_
      refine T_iload_n (pc := 86) dX11_hand_86 rfl rfl ?_
      refine T_if_eq (pc := 87) (tgt := 95) dX11_hand_87 (by decide) (fun hc => ?_) (fun hc => ?_)
      · rw [if_pos hc] at H
        refine T_bipush (pc := 95) (v := 8) dX11_hand_95 (by decide) ?_
        exact T.forget (E_X11_hand_97 H) ⟨rfl, trivial⟩
      · rw [if_neg hc] at H
        refine T_bipush (pc := 90) (v := 9) dX11_hand_90 (by decide) ?_
        refine T_goto (pc := 92) (tgt := 97) dX11_hand_92 (by decide) ?_
        exact T.forget (E_X11_hand_97 H) ⟨rfl, trivial⟩
    · rw [if_pos hc] at H
      refine T_aload_n (pc := 70) dX11_hand_70 rfl rfl ?_
      refine T_gR (pc := 71) fa_X11_21 dX11_hand_71 (gR_mono (fun x3 H => ?_) H)
      refine T_iload_n (pc := 74) dX11_hand_74 rfl rfl ?_
      obtain ⟨H0, H⟩ := H
      refine T_iV (pc := 75) (ci := 8) (av := [jI v1]) (rest := []) (o := x3) dX11_hand_75 mf_X9_empty c_3_129 c_3_130 c_3_131 rfl rfl (Nat.le_of_ble_eq_true rfl) rfl H0 (iV_k (iV_m0 (fun h H => ?_) (J_X9_empty (d := (d + 1)) H)))
      refine T_goto (pc := 78) (tgt := 102) dX11_hand_78 (by decide) ?_
      refine T_iconst (pc := 102) (v := 1) dX11_hand_102 (by decide) ?_
      exact T_ireturn (pc := 103) rfl rfl dX11_hand_103 H
  · rw [if_pos hc] at H
    refine T_bipush (pc := 62) (v := (-2)) dX11_hand_62 (by decide) ?_
    exact T_ireturn (pc := 64) rfl rfl dX11_hand_64 H
def F_X11_hand_41 (d : Nat) (v0 : Option Nm) (v1 : Int32) (v2 : Int32) (v3 : Int32) (s0 : Int32) (h : MH) (u : Nat) (Q : Int32 → MH → Prop) : Prop :=
  if v2 = (-1) then
    F_X11_hand_55 d v0 v1 v2 v3 h u Q
  else
    if s0 = 0 then
      Q (-1) h
    else
      F_X11_hand_55 d v0 v1 v2 v3 h u Q
set_option maxRecDepth 20000 in
theorem E_X11_hand_41 {d : Nat} {v0 : Option Nm} {v1 : Int32} {v2 : Int32} {v3 : Int32} {s0 : Int32} {h : MH} {u : Nat} {Q : Int32 → MH → Prop} (H : F_X11_hand_41 d v0 v1 v2 v3 s0 h u Q) : T u_X11_hand (d + 2) 41 [some (jR v0), some (jI v1), some (jI v2), some (jI v3), none] [jI s0] h u (qI Q) := by
  unfold F_X11_hand_41 at H
  refine T_istore (pc := 41) (ls2 := [some (jR v0), some (jI v1), some (jI v2), some (jI v3), some (jI s0)]) dX11_hand_41 (Nat.le_of_ble_eq_true rfl) rfl ?_
  refine T_iload_n (pc := 43) dX11_hand_43 rfl rfl ?_
  refine T_iconst (pc := 44) (v := (-1)) dX11_hand_44 (by decide) ?_
  refine T_icmp_eq (pc := 45) (tgt := 55) dX11_hand_45 (by decide) (fun hc => ?_) (fun hc => ?_)
  · rw [if_pos hc] at H
    exact T.forget (E_X11_hand_55 H) ⟨rfl, rfl, rfl, rfl, trivial⟩
  · rw [if_neg hc] at H
    refine T_iload (pc := 48) dX11_hand_48 rfl ?_
    refine T_if_ne (pc := 50) (tgt := 55) dX11_hand_50 (by decide) (fun hc => ?_) (fun hc => ?_)
    · rw [if_neg hc] at H
      exact T.forget (E_X11_hand_55 H) ⟨rfl, rfl, rfl, rfl, trivial⟩
    · rw [if_pos hc] at H
      refine T_iconst (pc := 53) (v := (-1)) dX11_hand_53 (by decide) ?_
      exact T_ireturn (pc := 54) rfl rfl dX11_hand_54 H
def F_X11_hand (d : Nat) (v0 : Option Nm) (v1 : Int32) (v2 : Int32) (v3 : Int32) (h : MH) (u : Nat) (Q : Int32 → MH → Prop) : Prop :=
  if v3 = 0 then
    gR h v0 10 0 fun x1 =>
    rc h x1 6 ∧ F_X7_findValue (d + 1) x1 (v2.toInt64) h 0 fun x2 h =>
    nl x2 (
      F_X11_hand_41 d v0 v1 v2 v3 0 h u Q) (
      F_X11_hand_41 d v0 v1 v2 v3 1 h u Q)
  else
    gR h v0 10 0 fun x3 =>
    rc h x3 6 ∧ F_X7_findRow (d + 1) x3 (v2.toInt64) h 0 fun x4 h =>
    nl x4 (
      F_X11_hand_41 d v0 v1 v2 v3 0 h u Q) (
      F_X11_hand_41 d v0 v1 v2 v3 1 h u Q)
set_option maxRecDepth 20000 in
theorem E_X11_hand {d : Nat} {v0 : Option Nm} {v1 : Int32} {v2 : Int32} {v3 : Int32} {h : MH} {u : Nat} {Q : Int32 → MH → Prop} (H : F_X11_hand d v0 v1 v2 v3 h u Q) : T u_X11_hand (d + 2) 0 [some (jR v0), some (jI v1), some (jI v2), some (jI v3), none] [] h u (qI Q) := by
  unfold F_X11_hand at H
  refine T_iload_n (pc := 0) dX11_hand_0 rfl rfl ?_
  refine T_if_eq (pc := 1) (tgt := 24) dX11_hand_1 (by decide) (fun hc => ?_) (fun hc => ?_)
  · rw [if_pos hc] at H
    refine T_aload_n (pc := 24) dX11_hand_24 rfl rfl ?_
    refine T_gR (pc := 25) fa_X11_12 dX11_hand_25 (gR_mono (fun x1 H => ?_) H)
    refine T_iload_n (pc := 28) dX11_hand_28 rfl rfl ?_
    refine T_i2l (pc := 29) dX11_hand_29 ?_
    obtain ⟨H0, H⟩ := H
    refine T_iV (pc := 30) (ci := 6) (av := [jL (v2.toInt64)]) (rest := []) (o := x1) dX11_hand_30 mf_X7_findValue c_2_63 c_2_64 c_2_65 rfl rfl (Nat.le_of_ble_eq_true rfl) rfl H0 (iR_k (iR_m0 (fun x2 h H => ?_) (J_X7_findValue (d := (d + 1)) H)))
    refine T_ifnull (pc := 33) (tgt := 40) dX11_hand_33 (by decide) (fun ho => ?_) (fun n ho => ?_)
    · replace H := nl_n ho H
      refine T_iconst (pc := 40) (v := 0) dX11_hand_40 (by decide) ?_
      exact T.forget (E_X11_hand_41 H) ⟨rfl, rfl, rfl, rfl, trivial⟩
    · replace H := nl_s ho H
      refine T_iconst (pc := 36) (v := 1) dX11_hand_36 (by decide) ?_
      refine T_goto (pc := 37) (tgt := 41) dX11_hand_37 (by decide) ?_
      exact T.forget (E_X11_hand_41 H) ⟨rfl, rfl, rfl, rfl, trivial⟩
  · rw [if_neg hc] at H
    refine T_aload_n (pc := 4) dX11_hand_4 rfl rfl ?_
    refine T_gR (pc := 5) fa_X11_12 dX11_hand_5 (gR_mono (fun x3 H => ?_) H)
    refine T_iload_n (pc := 8) dX11_hand_8 rfl rfl ?_
    refine T_i2l (pc := 9) dX11_hand_9 ?_
    obtain ⟨H0, H⟩ := H
    refine T_iV (pc := 10) (ci := 6) (av := [jL (v2.toInt64)]) (rest := []) (o := x3) dX11_hand_10 mf_X7_findRow c_2_1 c_2_2 c_2_3 rfl rfl (Nat.le_of_ble_eq_true rfl) rfl H0 (iR_k (iR_m0 (fun x4 h H => ?_) (J_X7_findRow (d := (d + 1)) H)))
    refine T_ifnull (pc := 13) (tgt := 20) dX11_hand_13 (by decide) (fun ho => ?_) (fun n ho => ?_)
    · replace H := nl_n ho H
      refine T_iconst (pc := 20) (v := 0) dX11_hand_20 (by decide) ?_
      refine T_goto (pc := 21) (tgt := 41) dX11_hand_21 (by decide) ?_
      exact T.forget (E_X11_hand_41 H) ⟨rfl, rfl, rfl, rfl, trivial⟩
    · replace H := nl_s ho H
      refine T_iconst (pc := 16) (v := 1) dX11_hand_16 (by decide) ?_
      refine T_goto (pc := 17) (tgt := 41) dX11_hand_17 (by decide) ?_
      exact T.forget (E_X11_hand_41 H) ⟨rfl, rfl, rfl, rfl, trivial⟩
theorem I_X11_hand {d : Nat} {v0 : Option Nm} {v1 : Int32} {v2 : Int32} {v3 : Int32} {h : MH} {u : Nat} {K : Int32 → MH → Nat → Prop} (u1 : Nat) (hu : u1 ≤ u) (H : F_X11_hand d v0 v1 v2 v3 h u1 (fun x h2 => K x h2 (u - u1))) : iI (d + 2) u_X11_hand [jR v0, jI v1, jI v2, jI v3] h u K := inv.of u1 hu (Ct.of (by decide +kernel) rfl (Nat.le_of_ble_eq_true rfl) rfl (E_X11_hand H))
theorem J_X11_hand {d : Nat} {v0 : Option Nm} {v1 : Int32} {v2 : Int32} {v3 : Int32} {h : MH} {u : Nat} {K : Int32 → MH → Prop} (H : F_X11_hand d v0 v1 v2 v3 h 0 K) : iI (d + 2) u_X11_hand [jR v0, jI v1, jI v2, jI v3] h u (fun x h2 u2 => K x h2 ∧ u2 = u) := jiI (by decide +kernel) rfl (Nat.le_of_ble_eq_true rfl) rfl (E_X11_hand H)
