theorem dX0_lesserFirst_0 : decode cX0_lesserFirst 0 = .ok (.lload_n 0, 1) := by decide +kernel
theorem dX0_lesserFirst_1 : decode cX0_lesserFirst 1 = .ok (.lload_n 2, 1) := by decide +kernel
theorem dX0_lesserFirst_2 : decode cX0_lesserFirst 2 = .ok (.lcmp, 1) := by decide +kernel
theorem dX0_lesserFirst_3 : decode cX0_lesserFirst 3 = .ok (.ifCond .ne 5, 3) := by decide +kernel
theorem dX0_lesserFirst_6 : decode cX0_lesserFirst 6 = .ok (.iconst 0, 1) := by decide +kernel
theorem dX0_lesserFirst_7 : decode cX0_lesserFirst 7 = .ok (.ireturn, 1) := by decide +kernel
theorem dX0_lesserFirst_8 : decode cX0_lesserFirst 8 = .ok (.lload_n 0, 1) := by decide +kernel
theorem dX0_lesserFirst_9 : decode cX0_lesserFirst 9 = .ok (.lload_n 2, 1) := by decide +kernel
theorem dX0_lesserFirst_10 : decode cX0_lesserFirst 10 = .ok (.lcmp, 1) := by decide +kernel
theorem dX0_lesserFirst_11 : decode cX0_lesserFirst 11 = .ok (.ifCond .ge 7, 3) := by decide +kernel
theorem dX0_lesserFirst_14 : decode cX0_lesserFirst 14 = .ok (.iconst (-1), 1) := by decide +kernel
theorem dX0_lesserFirst_15 : decode cX0_lesserFirst 15 = .ok (.goto 4, 3) := by decide +kernel
theorem dX0_lesserFirst_18 : decode cX0_lesserFirst 18 = .ok (.iconst 1, 1) := by decide +kernel
theorem dX0_lesserFirst_19 : decode cX0_lesserFirst 19 = .ok (.ireturn, 1) := by decide +kernel
def F_X0_lesserFirst (d : Nat) (v0 : Int64) (v2 : Int64) (h : MH) (u : Nat) (Q : Int32 → MH → Prop) : Prop :=
  if (lg_cmp v0 v2) = 0 then
    Q 0 h
  else
    if 0 ≤ (lg_cmp v0 v2) then
      Q 1 h
    else
      Q (-1) h
set_option maxRecDepth 20000 in
theorem E_X0_lesserFirst {d : Nat} {v0 : Int64} {v2 : Int64} {h : MH} {u : Nat} {Q : Int32 → MH → Prop} (H : F_X0_lesserFirst d v0 v2 h u Q) : T u_X0_lesserFirst d 0 [some (jL v0), none, some (jL v2), none] [] h u (qI Q) := by
  unfold F_X0_lesserFirst at H
  refine T_lload_n (pc := 0) dX0_lesserFirst_0 rfl rfl ?_
  refine T_lload_n (pc := 1) dX0_lesserFirst_1 rfl rfl ?_
  refine T_lcmp (pc := 2) dX0_lesserFirst_2 ?_
  refine T_if_ne (pc := 3) (tgt := 8) dX0_lesserFirst_3 (by decide) (fun hc => ?_) (fun hc => ?_)
  · rw [if_neg hc] at H
    refine T_lload_n (pc := 8) dX0_lesserFirst_8 rfl rfl ?_
    refine T_lload_n (pc := 9) dX0_lesserFirst_9 rfl rfl ?_
    refine T_lcmp (pc := 10) dX0_lesserFirst_10 ?_
    refine T_if_ge (pc := 11) (tgt := 18) dX0_lesserFirst_11 (by decide) (fun hc => ?_) (fun hc => ?_)
    · rw [if_pos hc] at H
      refine T_iconst (pc := 18) (v := 1) dX0_lesserFirst_18 (by decide) ?_
      exact T_ireturn (pc := 19) rfl rfl dX0_lesserFirst_19 H
    · rw [if_neg hc] at H
      refine T_iconst (pc := 14) (v := (-1)) dX0_lesserFirst_14 (by decide) ?_
      refine T_goto (pc := 15) (tgt := 19) dX0_lesserFirst_15 (by decide) ?_
      exact T_ireturn (pc := 19) rfl rfl dX0_lesserFirst_19 H
  · rw [if_pos hc] at H
    refine T_iconst (pc := 6) (v := 0) dX0_lesserFirst_6 (by decide) ?_
    exact T_ireturn (pc := 7) rfl rfl dX0_lesserFirst_7 H
theorem I_X0_lesserFirst {d : Nat} {v0 : Int64} {v2 : Int64} {h : MH} {u : Nat} {K : Int32 → MH → Nat → Prop} (u1 : Nat) (hu : u1 ≤ u) (H : F_X0_lesserFirst d v0 v2 h u1 (fun x h2 => K x h2 (u - u1))) : iI d u_X0_lesserFirst [jL v0, jL v2] h u K := inv.of u1 hu (Ct.of (by decide +kernel) rfl (Nat.le_of_ble_eq_true rfl) rfl (E_X0_lesserFirst H))
theorem J_X0_lesserFirst {d : Nat} {v0 : Int64} {v2 : Int64} {h : MH} {u : Nat} {K : Int32 → MH → Prop} (H : F_X0_lesserFirst d v0 v2 h 0 K) : iI d u_X0_lesserFirst [jL v0, jL v2] h u (fun x h2 u2 => K x h2 ∧ u2 = u) := jiI (by decide +kernel) rfl (Nat.le_of_ble_eq_true rfl) rfl (E_X0_lesserFirst H)
theorem dX4_rank_0 : decode cX4_rank 0 = .ok (.iload_n 0, 1) := by decide +kernel
theorem dX4_rank_1 : decode cX4_rank 1 = .ok (.bipush 6, 2) := by decide +kernel
theorem dX4_rank_3 : decode cX4_rank 3 = .ok (.if_icmp .eq 9, 3) := by decide +kernel
theorem dX4_rank_6 : decode cX4_rank 6 = .ok (.iload_n 0, 1) := by decide +kernel
theorem dX4_rank_7 : decode cX4_rank 7 = .ok (.bipush 7, 2) := by decide +kernel
theorem dX4_rank_9 : decode cX4_rank 9 = .ok (.if_icmp .ne 7, 3) := by decide +kernel
theorem dX4_rank_12 : decode cX4_rank 12 = .ok (.iconst 1, 1) := by decide +kernel
theorem dX4_rank_13 : decode cX4_rank 13 = .ok (.goto 4, 3) := by decide +kernel
theorem dX4_rank_16 : decode cX4_rank 16 = .ok (.iconst 0, 1) := by decide +kernel
theorem dX4_rank_17 : decode cX4_rank 17 = .ok (.istore_n 3, 1) := by decide +kernel
theorem dX4_rank_18 : decode cX4_rank 18 = .ok (.iload_n 3, 1) := by decide +kernel
theorem dX4_rank_19 : decode cX4_rank 19 = .ok (.ifCond .eq 17, 3) := by decide +kernel
theorem dX4_rank_22 : decode cX4_rank 22 = .ok (.lload_n 1, 1) := by decide +kernel
theorem dX4_rank_23 : decode cX4_rank 23 = .ok (.lconst 0, 1) := by decide +kernel
theorem dX4_rank_24 : decode cX4_rank 24 = .ok (.lcmp, 1) := by decide +kernel
theorem dX4_rank_25 : decode cX4_rank 25 = .ok (.ifCond .ge 11, 3) := by decide +kernel
theorem dX4_rank_28 : decode cX4_rank 28 = .ok (.lload_n 1, 1) := by decide +kernel
theorem dX4_rank_29 : decode cX4_rank 29 = .ok (.ldc2_w 33, 3) := by decide +kernel
theorem dX4_rank_32 : decode cX4_rank 32 = .ok (.lxor, 1) := by decide +kernel
theorem dX4_rank_33 : decode cX4_rank 33 = .ok (.goto 4, 3) := by decide +kernel
theorem dX4_rank_36 : decode cX4_rank 36 = .ok (.lload_n 1, 1) := by decide +kernel
theorem dX4_rank_37 : decode cX4_rank 37 = .ok (.lreturn, 1) := by decide +kernel
def F_X4_rank_17 (d : Nat) (v1 : Int64) (s0 : Int32) (h : MH) (u : Nat) (Q : Int64 → MH → Prop) : Prop :=
  if s0 = 0 then
    Q v1 h
  else
    if 0 ≤ (lg_cmp v1 0) then
      Q v1 h
    else
      Q (v1 ^^^ 9223372036854775807) h
set_option maxRecDepth 20000 in
theorem E_X4_rank_17 {d : Nat} {v1 : Int64} {s0 : Int32} {h : MH} {u : Nat} {Q : Int64 → MH → Prop} (H : F_X4_rank_17 d v1 s0 h u Q) : T u_X4_rank d 17 [none, some (jL v1), none, none] [jI s0] h u (qL Q) := by
  unfold F_X4_rank_17 at H
  refine T_istore_n (pc := 17) (ls2 := [none, some (jL v1), none, some (jI s0)]) dX4_rank_17 rfl (Nat.le_of_ble_eq_true rfl) rfl ?_
  refine T_iload_n (pc := 18) dX4_rank_18 rfl rfl ?_
  refine T_if_eq (pc := 19) (tgt := 36) dX4_rank_19 (by decide) (fun hc => ?_) (fun hc => ?_)
  · rw [if_pos hc] at H
    refine T_lload_n (pc := 36) dX4_rank_36 rfl rfl ?_
    exact T_lreturn (pc := 37) rfl dX4_rank_37 H
  · rw [if_neg hc] at H
    refine T_lload_n (pc := 22) dX4_rank_22 rfl rfl ?_
    refine T_lconst (pc := 23) (v := 0) dX4_rank_23 (by decide) ?_
    refine T_lcmp (pc := 24) dX4_rank_24 ?_
    refine T_if_ge (pc := 25) (tgt := 36) dX4_rank_25 (by decide) (fun hc => ?_) (fun hc => ?_)
    · rw [if_pos hc] at H
      refine T_lload_n (pc := 36) dX4_rank_36 rfl rfl ?_
      exact T_lreturn (pc := 37) rfl dX4_rank_37 H
    · rw [if_neg hc] at H
      refine T_lload_n (pc := 28) dX4_rank_28 rfl rfl ?_
      refine T_ldc2 (pc := 29) (v := 9223372036854775807) dX4_rank_29 c_4_52 ?_
      refine T_lxor (pc := 32) dX4_rank_32 ?_
      refine T_goto (pc := 33) (tgt := 37) dX4_rank_33 (by decide) ?_
      exact T_lreturn (pc := 37) rfl dX4_rank_37 H
def F_X4_rank_12 (d : Nat) (v1 : Int64) (h : MH) (u : Nat) (Q : Int64 → MH → Prop) : Prop :=
  F_X4_rank_17 d v1 1 h u Q
set_option maxRecDepth 20000 in
theorem E_X4_rank_12 {d : Nat} {v1 : Int64} {h : MH} {u : Nat} {Q : Int64 → MH → Prop} (H : F_X4_rank_12 d v1 h u Q) : T u_X4_rank d 12 [none, some (jL v1), none, none] [] h u (qL Q) := by
  unfold F_X4_rank_12 at H
  refine T_iconst (pc := 12) (v := 1) dX4_rank_12 (by decide) ?_
  refine T_goto (pc := 13) (tgt := 17) dX4_rank_13 (by decide) ?_
  exact T.forget (E_X4_rank_17 H) ⟨rfl, trivial⟩
def F_X4_rank (d : Nat) (v0 : Int32) (v1 : Int64) (h : MH) (u : Nat) (Q : Int64 → MH → Prop) : Prop :=
  if v0 = 6 then
    F_X4_rank_12 d v1 h u Q
  else
    if v0 = 7 then
      F_X4_rank_12 d v1 h u Q
    else
      F_X4_rank_17 d v1 0 h u Q
set_option maxRecDepth 20000 in
theorem E_X4_rank {d : Nat} {v0 : Int32} {v1 : Int64} {h : MH} {u : Nat} {Q : Int64 → MH → Prop} (H : F_X4_rank d v0 v1 h u Q) : T u_X4_rank d 0 [some (jI v0), some (jL v1), none, none] [] h u (qL Q) := by
  unfold F_X4_rank at H
  refine T_iload_n (pc := 0) dX4_rank_0 rfl rfl ?_
  refine T_bipush (pc := 1) (v := 6) dX4_rank_1 (by decide) ?_
  refine T_icmp_eq (pc := 3) (tgt := 12) dX4_rank_3 (by decide) (fun hc => ?_) (fun hc => ?_)
  · rw [if_pos hc] at H
    exact T.forget (E_X4_rank_12 H) ⟨rfl, trivial⟩
  · rw [if_neg hc] at H
    refine T_iload_n (pc := 6) dX4_rank_6 rfl rfl ?_
    refine T_bipush (pc := 7) (v := 7) dX4_rank_7 (by decide) ?_
    refine T_icmp_ne (pc := 9) (tgt := 16) dX4_rank_9 (by decide) (fun hc => ?_) (fun hc => ?_)
    · rw [if_neg hc] at H
      refine T_iconst (pc := 16) (v := 0) dX4_rank_16 (by decide) ?_
      exact T.forget (E_X4_rank_17 H) ⟨rfl, trivial⟩
    · rw [if_pos hc] at H
      exact T.forget (E_X4_rank_12 H) ⟨rfl, trivial⟩
theorem I_X4_rank {d : Nat} {v0 : Int32} {v1 : Int64} {h : MH} {u : Nat} {K : Int64 → MH → Nat → Prop} (u1 : Nat) (hu : u1 ≤ u) (H : F_X4_rank d v0 v1 h u1 (fun x h2 => K x h2 (u - u1))) : iL d u_X4_rank [jI v0, jL v1] h u K := inv.of u1 hu (Ct.of (by decide +kernel) rfl (Nat.le_of_ble_eq_true rfl) rfl (E_X4_rank H))
theorem J_X4_rank {d : Nat} {v0 : Int32} {v1 : Int64} {h : MH} {u : Nat} {K : Int64 → MH → Prop} (H : F_X4_rank d v0 v1 h 0 K) : iL d u_X4_rank [jI v0, jL v1] h u (fun x h2 u2 => K x h2 ∧ u2 = u) := jiL (by decide +kernel) rfl (Nat.le_of_ble_eq_true rfl) rfl (E_X4_rank H)
theorem dX7_findRow_0 : decode cX7_findRow 0 = .ok (.lload_n 1, 1) := by decide +kernel
theorem dX7_findRow_1 : decode cX7_findRow 1 = .ok (.lconst 0, 1) := by decide +kernel
theorem dX7_findRow_2 : decode cX7_findRow 2 = .ok (.lcmp, 1) := by decide +kernel
theorem dX7_findRow_3 : decode cX7_findRow 3 = .ok (.ifCond .lt 23, 3) := by decide +kernel
theorem dX7_findRow_6 : decode cX7_findRow 6 = .ok (.lload_n 1, 1) := by decide +kernel
theorem dX7_findRow_7 : decode cX7_findRow 7 = .ok (.aload_n 0, 1) := by decide +kernel
theorem dX7_findRow_8 : decode cX7_findRow 8 = .ok (.getfield 23, 3) := by decide +kernel
theorem dX7_findRow_11 : decode cX7_findRow 11 = .ok (.i2l, 1) := by decide +kernel
theorem dX7_findRow_12 : decode cX7_findRow 12 = .ok (.lcmp, 1) := by decide +kernel
theorem dX7_findRow_13 : decode cX7_findRow 13 = .ok (.ifCond .ge 13, 3) := by decide +kernel
theorem dX7_findRow_16 : decode cX7_findRow 16 = .ok (.aload_n 0, 1) := by decide +kernel
theorem dX7_findRow_17 : decode cX7_findRow 17 = .ok (.getfield 11, 3) := by decide +kernel
theorem dX7_findRow_20 : decode cX7_findRow 20 = .ok (.lload_n 1, 1) := by decide +kernel
theorem dX7_findRow_21 : decode cX7_findRow 21 = .ok (.l2i, 1) := by decide +kernel
theorem dX7_findRow_22 : decode cX7_findRow 22 = .ok (.aaload, 1) := by decide +kernel
theorem dX7_findRow_23 : decode cX7_findRow 23 = .ok (.goto 4, 3) := by decide +kernel
theorem dX7_findRow_26 : decode cX7_findRow 26 = .ok (.aconst_null, 1) := by decide +kernel
theorem dX7_findRow_27 : decode cX7_findRow 27 = .ok (.areturn, 1) := by decide +kernel
def F_X7_findRow (d : Nat) (v0 : Option Nm) (v1 : Int64) (h : MH) (u : Nat) (Q : Option Nm → MH → Prop) : Prop :=
  if (lg_cmp v1 0) < 0 then
    Q none h
  else
    gI h v0 6 2 fun x1 =>
    if 0 ≤ (lg_cmp v1 (x1.toInt64)) then
      Q none h
    else
      gR h v0 6 0 fun x2 =>
      aR "RecordBridge$Row" h x2 (v1.toInt32) fun x3 =>
      Q x3 h
set_option maxRecDepth 20000 in
theorem E_X7_findRow {d : Nat} {v0 : Option Nm} {v1 : Int64} {h : MH} {u : Nat} {Q : Option Nm → MH → Prop} (H : F_X7_findRow d v0 v1 h u Q) : T u_X7_findRow d 0 [some (jR v0), some (jL v1), none] [] h u (qR Q) := by
  unfold F_X7_findRow at H
  refine T_lload_n (pc := 0) dX7_findRow_0 rfl rfl ?_
  refine T_lconst (pc := 1) (v := 0) dX7_findRow_1 (by decide) ?_
  refine T_lcmp (pc := 2) dX7_findRow_2 ?_
  refine T_if_lt (pc := 3) (tgt := 26) dX7_findRow_3 (by decide) (fun hc => ?_) (fun hc => ?_)
  · rw [if_pos hc] at H
    refine T_null (pc := 26) dX7_findRow_26 ?_
    exact T_areturn (pc := 27) rfl (Or.inl ⟨_, rfl⟩) dX7_findRow_27 H
  · rw [if_neg hc] at H
    refine T_lload_n (pc := 6) dX7_findRow_6 rfl rfl ?_
    refine T_aload_n (pc := 7) dX7_findRow_7 rfl rfl ?_
    refine T_gI (pc := 8) fa_X7_23 dX7_findRow_8 (gI_mono (fun x1 H => ?_) H)
    refine T_i2l (pc := 11) dX7_findRow_11 ?_
    refine T_lcmp (pc := 12) dX7_findRow_12 ?_
    refine T_if_ge (pc := 13) (tgt := 26) dX7_findRow_13 (by decide) (fun hc => ?_) (fun hc => ?_)
    · rw [if_pos hc] at H
      refine T_null (pc := 26) dX7_findRow_26 ?_
      exact T_areturn (pc := 27) rfl (Or.inl ⟨_, rfl⟩) dX7_findRow_27 H
    · rw [if_neg hc] at H
      refine T_aload_n (pc := 16) dX7_findRow_16 rfl rfl ?_
      refine T_gR (pc := 17) fa_X7_11 dX7_findRow_17 (gR_mono (fun x2 H => ?_) H)
      refine T_lload_n (pc := 20) dX7_findRow_20 rfl rfl ?_
      refine T_l2i (pc := 21) dX7_findRow_21 ?_
      refine T_aR (pc := 22) dX7_findRow_22 (aR_mono (fun x3 H => ?_) H)
      refine T_goto (pc := 23) (tgt := 27) dX7_findRow_23 (by decide) ?_
      exact T_areturn (pc := 27) rfl (Or.inl ⟨_, rfl⟩) dX7_findRow_27 H
theorem I_X7_findRow {d : Nat} {v0 : Option Nm} {v1 : Int64} {h : MH} {u : Nat} {K : Option Nm → MH → Nat → Prop} (u1 : Nat) (hu : u1 ≤ u) (H : F_X7_findRow d v0 v1 h u1 (fun x h2 => K x h2 (u - u1))) : iR d u_X7_findRow [jR v0, jL v1] h u K := inv.of u1 hu (Ct.of (by decide +kernel) rfl (Nat.le_of_ble_eq_true rfl) rfl (E_X7_findRow H))
theorem J_X7_findRow {d : Nat} {v0 : Option Nm} {v1 : Int64} {h : MH} {u : Nat} {K : Option Nm → MH → Prop} (H : F_X7_findRow d v0 v1 h 0 K) : iR d u_X7_findRow [jR v0, jL v1] h u (fun x h2 u2 => K x h2 ∧ u2 = u) := jiR (by decide +kernel) rfl (Nat.le_of_ble_eq_true rfl) rfl (E_X7_findRow H)
theorem dX7_findValue_0 : decode cX7_findValue 0 = .ok (.lload_n 1, 1) := by decide +kernel
theorem dX7_findValue_1 : decode cX7_findValue 1 = .ok (.lconst 0, 1) := by decide +kernel
theorem dX7_findValue_2 : decode cX7_findValue 2 = .ok (.lcmp, 1) := by decide +kernel
theorem dX7_findValue_3 : decode cX7_findValue 3 = .ok (.ifCond .lt 23, 3) := by decide +kernel
theorem dX7_findValue_6 : decode cX7_findValue 6 = .ok (.lload_n 1, 1) := by decide +kernel
theorem dX7_findValue_7 : decode cX7_findValue 7 = .ok (.aload_n 0, 1) := by decide +kernel
theorem dX7_findValue_8 : decode cX7_findValue 8 = .ok (.getfield 27, 3) := by decide +kernel
theorem dX7_findValue_11 : decode cX7_findValue 11 = .ok (.i2l, 1) := by decide +kernel
theorem dX7_findValue_12 : decode cX7_findValue 12 = .ok (.lcmp, 1) := by decide +kernel
theorem dX7_findValue_13 : decode cX7_findValue 13 = .ok (.ifCond .ge 13, 3) := by decide +kernel
theorem dX7_findValue_16 : decode cX7_findValue 16 = .ok (.aload_n 0, 1) := by decide +kernel
theorem dX7_findValue_17 : decode cX7_findValue 17 = .ok (.getfield 19, 3) := by decide +kernel
theorem dX7_findValue_20 : decode cX7_findValue 20 = .ok (.lload_n 1, 1) := by decide +kernel
theorem dX7_findValue_21 : decode cX7_findValue 21 = .ok (.l2i, 1) := by decide +kernel
theorem dX7_findValue_22 : decode cX7_findValue 22 = .ok (.aaload, 1) := by decide +kernel
theorem dX7_findValue_23 : decode cX7_findValue 23 = .ok (.goto 4, 3) := by decide +kernel
theorem dX7_findValue_26 : decode cX7_findValue 26 = .ok (.aconst_null, 1) := by decide +kernel
theorem dX7_findValue_27 : decode cX7_findValue 27 = .ok (.areturn, 1) := by decide +kernel
def F_X7_findValue (d : Nat) (v0 : Option Nm) (v1 : Int64) (h : MH) (u : Nat) (Q : Option Nm → MH → Prop) : Prop :=
  if (lg_cmp v1 0) < 0 then
    Q none h
  else
    gI h v0 6 3 fun x1 =>
    if 0 ≤ (lg_cmp v1 (x1.toInt64)) then
      Q none h
    else
      gR h v0 6 1 fun x2 =>
      aR "RecordBridge$Value" h x2 (v1.toInt32) fun x3 =>
      Q x3 h
set_option maxRecDepth 20000 in
theorem E_X7_findValue {d : Nat} {v0 : Option Nm} {v1 : Int64} {h : MH} {u : Nat} {Q : Option Nm → MH → Prop} (H : F_X7_findValue d v0 v1 h u Q) : T u_X7_findValue d 0 [some (jR v0), some (jL v1), none] [] h u (qR Q) := by
  unfold F_X7_findValue at H
  refine T_lload_n (pc := 0) dX7_findValue_0 rfl rfl ?_
  refine T_lconst (pc := 1) (v := 0) dX7_findValue_1 (by decide) ?_
  refine T_lcmp (pc := 2) dX7_findValue_2 ?_
  refine T_if_lt (pc := 3) (tgt := 26) dX7_findValue_3 (by decide) (fun hc => ?_) (fun hc => ?_)
  · rw [if_pos hc] at H
    refine T_null (pc := 26) dX7_findValue_26 ?_
    exact T_areturn (pc := 27) rfl (Or.inl ⟨_, rfl⟩) dX7_findValue_27 H
  · rw [if_neg hc] at H
    refine T_lload_n (pc := 6) dX7_findValue_6 rfl rfl ?_
    refine T_aload_n (pc := 7) dX7_findValue_7 rfl rfl ?_
    refine T_gI (pc := 8) fa_X7_27 dX7_findValue_8 (gI_mono (fun x1 H => ?_) H)
    refine T_i2l (pc := 11) dX7_findValue_11 ?_
    refine T_lcmp (pc := 12) dX7_findValue_12 ?_
    refine T_if_ge (pc := 13) (tgt := 26) dX7_findValue_13 (by decide) (fun hc => ?_) (fun hc => ?_)
    · rw [if_pos hc] at H
      refine T_null (pc := 26) dX7_findValue_26 ?_
      exact T_areturn (pc := 27) rfl (Or.inl ⟨_, rfl⟩) dX7_findValue_27 H
    · rw [if_neg hc] at H
      refine T_aload_n (pc := 16) dX7_findValue_16 rfl rfl ?_
      refine T_gR (pc := 17) fa_X7_19 dX7_findValue_17 (gR_mono (fun x2 H => ?_) H)
      refine T_lload_n (pc := 20) dX7_findValue_20 rfl rfl ?_
      refine T_l2i (pc := 21) dX7_findValue_21 ?_
      refine T_aR (pc := 22) dX7_findValue_22 (aR_mono (fun x3 H => ?_) H)
      refine T_goto (pc := 23) (tgt := 27) dX7_findValue_23 (by decide) ?_
      exact T_areturn (pc := 27) rfl (Or.inl ⟨_, rfl⟩) dX7_findValue_27 H
theorem I_X7_findValue {d : Nat} {v0 : Option Nm} {v1 : Int64} {h : MH} {u : Nat} {K : Option Nm → MH → Nat → Prop} (u1 : Nat) (hu : u1 ≤ u) (H : F_X7_findValue d v0 v1 h u1 (fun x h2 => K x h2 (u - u1))) : iR d u_X7_findValue [jR v0, jL v1] h u K := inv.of u1 hu (Ct.of (by decide +kernel) rfl (Nat.le_of_ble_eq_true rfl) rfl (E_X7_findValue H))
theorem J_X7_findValue {d : Nat} {v0 : Option Nm} {v1 : Int64} {h : MH} {u : Nat} {K : Option Nm → MH → Prop} (H : F_X7_findValue d v0 v1 h 0 K) : iR d u_X7_findValue [jR v0, jL v1] h u (fun x h2 u2 => K x h2 ∧ u2 = u) := jiR (by decide +kernel) rfl (Nat.le_of_ble_eq_true rfl) rfl (E_X7_findValue H)
theorem dX0_compareAny_0 : decode cX0_compareAny 0 = .ok (.iload_n 1, 1) := by decide +kernel
theorem dX0_compareAny_1 : decode cX0_compareAny 1 = .ok (.bipush 8, 2) := by decide +kernel
theorem dX0_compareAny_3 : decode cX0_compareAny 3 = .ok (.if_icmp .ne 25, 3) := by decide +kernel
theorem dX0_compareAny_6 : decode cX0_compareAny 6 = .ok (.aload_n 0, 1) := by decide +kernel
theorem dX0_compareAny_7 : decode cX0_compareAny 7 = .ok (.aload_n 0, 1) := by decide +kernel
theorem dX0_compareAny_8 : decode cX0_compareAny 8 = .ok (.getfield 7, 3) := by decide +kernel
theorem dX0_compareAny_11 : decode cX0_compareAny 11 = .ok (.lload_n 2, 1) := by decide +kernel
theorem dX0_compareAny_12 : decode cX0_compareAny 12 = .ok (.invokevirtual 69, 3) := by decide +kernel
theorem dX0_compareAny_15 : decode cX0_compareAny 15 = .ok (.aload_n 0, 1) := by decide +kernel
theorem dX0_compareAny_16 : decode cX0_compareAny 16 = .ok (.getfield 7, 3) := by decide +kernel
theorem dX0_compareAny_19 : decode cX0_compareAny 19 = .ok (.lload 4, 2) := by decide +kernel
theorem dX0_compareAny_21 : decode cX0_compareAny 21 = .ok (.invokevirtual 69, 3) := by decide +kernel
theorem dX0_compareAny_24 : decode cX0_compareAny 24 = .ok (.invokevirtual 75, 3) := by decide +kernel
theorem dX0_compareAny_27 : decode cX0_compareAny 27 = .ok (.ireturn, 1) := by decide +kernel
theorem dX0_compareAny_28 : decode cX0_compareAny 28 = .ok (.iload_n 1, 1) := by decide +kernel
theorem dX0_compareAny_29 : decode cX0_compareAny 29 = .ok (.bipush 9, 2) := by decide +kernel
theorem dX0_compareAny_31 : decode cX0_compareAny 31 = .ok (.if_icmp .ne 25, 3) := by decide +kernel
theorem dX0_compareAny_34 : decode cX0_compareAny 34 = .ok (.aload_n 0, 1) := by decide +kernel
theorem dX0_compareAny_35 : decode cX0_compareAny 35 = .ok (.aload_n 0, 1) := by decide +kernel
theorem dX0_compareAny_36 : decode cX0_compareAny 36 = .ok (.getfield 7, 3) := by decide +kernel
theorem dX0_compareAny_39 : decode cX0_compareAny 39 = .ok (.lload_n 2, 1) := by decide +kernel
theorem dX0_compareAny_40 : decode cX0_compareAny 40 = .ok (.invokevirtual 78, 3) := by decide +kernel
theorem dX0_compareAny_43 : decode cX0_compareAny 43 = .ok (.aload_n 0, 1) := by decide +kernel
theorem dX0_compareAny_44 : decode cX0_compareAny 44 = .ok (.getfield 7, 3) := by decide +kernel
theorem dX0_compareAny_47 : decode cX0_compareAny 47 = .ok (.lload 4, 2) := by decide +kernel
theorem dX0_compareAny_49 : decode cX0_compareAny 49 = .ok (.invokevirtual 78, 3) := by decide +kernel
theorem dX0_compareAny_52 : decode cX0_compareAny 52 = .ok (.invokevirtual 82, 3) := by decide +kernel
theorem dX0_compareAny_55 : decode cX0_compareAny 55 = .ok (.ireturn, 1) := by decide +kernel
theorem dX0_compareAny_56 : decode cX0_compareAny 56 = .ok (.iload_n 1, 1) := by decide +kernel
theorem dX0_compareAny_57 : decode cX0_compareAny 57 = .ok (.lload_n 2, 1) := by decide +kernel
theorem dX0_compareAny_58 : decode cX0_compareAny 58 = .ok (.invokestatic 86, 3) := by decide +kernel
theorem dX0_compareAny_61 : decode cX0_compareAny 61 = .ok (.iload_n 1, 1) := by decide +kernel
theorem dX0_compareAny_62 : decode cX0_compareAny 62 = .ok (.lload 4, 2) := by decide +kernel
theorem dX0_compareAny_64 : decode cX0_compareAny 64 = .ok (.invokestatic 86, 3) := by decide +kernel
theorem dX0_compareAny_67 : decode cX0_compareAny 67 = .ok (.invokestatic 29, 3) := by decide +kernel
theorem dX0_compareAny_70 : decode cX0_compareAny 70 = .ok (.ireturn, 1) := by decide +kernel
def F_X0_compareAny (d : Nat) (v0 : Option Nm) (v1 : Int32) (v2 : Int64) (v4 : Int64) (h : MH) (u : Nat) (Q : Int32 → MH → Prop) : Prop :=
  if v1 = 8 then
    gR h v0 0 0 fun x9 =>
    rc h x9 6 ∧ F_X7_findValue d x9 v2 h 0 fun x10 h =>
    gR h v0 0 0 fun x11 =>
    rc h x11 6 ∧ F_X7_findValue d x11 v4 h 0 fun x12 h =>
    rc h v0 0 ∧ iI d u_X0_compareValues [jR v0, jR x10, jR x12] h u fun x13 h u =>
    Q x13 h
  else
    if v1 = 9 then
      gR h v0 0 0 fun x4 =>
      rc h x4 6 ∧ F_X7_findRow d x4 v2 h 0 fun x5 h =>
      gR h v0 0 0 fun x6 =>
      rc h x6 6 ∧ F_X7_findRow d x6 v4 h 0 fun x7 h =>
      rc h v0 0 ∧ iI d u_X0_compareRows [jR v0, jR x5, jR x7] h u fun x8 h u =>
      Q x8 h
    else
      F_X4_rank d v1 v2 h 0 fun x1 h =>
      F_X4_rank d v1 v4 h 0 fun x2 h =>
      F_X0_lesserFirst d x1 x2 h 0 fun x3 h =>
      Q x3 h
set_option maxRecDepth 20000 in
theorem E_X0_compareAny {d : Nat} {v0 : Option Nm} {v1 : Int32} {v2 : Int64} {v4 : Int64} {h : MH} {u : Nat} {Q : Int32 → MH → Prop} (H : F_X0_compareAny d v0 v1 v2 v4 h u Q) : T u_X0_compareAny (d + 1) 0 [some (jR v0), some (jI v1), some (jL v2), none, some (jL v4), none] [] h u (qI Q) := by
  unfold F_X0_compareAny at H
  refine T_iload_n (pc := 0) dX0_compareAny_0 rfl rfl ?_
  refine T_bipush (pc := 1) (v := 8) dX0_compareAny_1 (by decide) ?_
  refine T_icmp_ne (pc := 3) (tgt := 28) dX0_compareAny_3 (by decide) (fun hc => ?_) (fun hc => ?_)
  · rw [if_neg hc] at H
    refine T_iload_n (pc := 28) dX0_compareAny_28 rfl rfl ?_
    refine T_bipush (pc := 29) (v := 9) dX0_compareAny_29 (by decide) ?_
    refine T_icmp_ne (pc := 31) (tgt := 56) dX0_compareAny_31 (by decide) (fun hc => ?_) (fun hc => ?_)
    · rw [if_neg hc] at H
      refine T_iload_n (pc := 56) dX0_compareAny_56 rfl rfl ?_
      refine T_lload_n (pc := 57) dX0_compareAny_57 rfl rfl ?_
      refine T_invS (pc := 58) (av := [jI v1, jL v2]) (rest := []) dX0_compareAny_58 mf_X4_rank c_4_49 c_4_50 rfl (Nat.le_of_ble_eq_true rfl) rfl (iL_k (iL_m0 (fun x1 h H => ?_) (J_X4_rank (d := d) H)))
      refine T_iload_n (pc := 61) dX0_compareAny_61 rfl rfl ?_
      refine T_lload (pc := 62) dX0_compareAny_62 rfl ?_
      refine T_invS (pc := 64) (av := [jI v1, jL v4]) (rest := [jL x1]) dX0_compareAny_64 mf_X4_rank c_4_49 c_4_50 rfl (Nat.le_of_ble_eq_true rfl) rfl (iL_k (iL_m0 (fun x2 h H => ?_) (J_X4_rank (d := d) H)))
      refine T_invS (pc := 67) (av := [jL x1, jL x2]) (rest := []) dX0_compareAny_67 mf_X0_lesserFirst c_4_31 c_4_32 rfl (Nat.le_of_ble_eq_true rfl) rfl (iI_k (iI_m0 (fun x3 h H => ?_) (J_X0_lesserFirst (d := d) H)))
      exact T_ireturn (pc := 70) rfl rfl dX0_compareAny_70 H
    · rw [if_pos hc] at H
      refine T_aload_n (pc := 34) dX0_compareAny_34 rfl rfl ?_
      refine T_aload_n (pc := 35) dX0_compareAny_35 rfl rfl ?_
      refine T_gR (pc := 36) fa_X0_7 dX0_compareAny_36 (gR_mono (fun x4 H => ?_) H)
      refine T_lload_n (pc := 39) dX0_compareAny_39 rfl rfl ?_
      obtain ⟨H0, H⟩ := H
      refine T_iV (pc := 40) (ci := 6) (av := [jL v2]) (rest := [jR v0]) (o := x4) dX0_compareAny_40 mf_X7_findRow c_4_44 c_2_2 c_2_3 rfl rfl (Nat.le_of_ble_eq_true rfl) rfl H0 (iR_k (iR_m0 (fun x5 h H => ?_) (J_X7_findRow (d := d) H)))
      refine T_aload_n (pc := 43) dX0_compareAny_43 rfl rfl ?_
      refine T_gR (pc := 44) fa_X0_7 dX0_compareAny_44 (gR_mono (fun x6 H => ?_) H)
      refine T_lload (pc := 47) dX0_compareAny_47 rfl ?_
      obtain ⟨H0, H⟩ := H
      refine T_iV (pc := 49) (ci := 6) (av := [jL v4]) (rest := [jR x5, jR v0]) (o := x6) dX0_compareAny_49 mf_X7_findRow c_4_44 c_2_2 c_2_3 rfl rfl (Nat.le_of_ble_eq_true rfl) rfl H0 (iR_k (iR_m0 (fun x7 h H => ?_) (J_X7_findRow (d := d) H)))
      obtain ⟨H0, H⟩ := H
      refine T_iV (pc := 52) (ci := 0) (av := [jR x5, jR x7]) (rest := []) (o := v0) dX0_compareAny_52 mf_X0_compareRows c_4_45 c_4_47 pr_X0_compareRows rfl rfl (Nat.le_of_ble_eq_true rfl) rfl H0 (iI_k (iI_mono (fun x8 h u H => ?_) H))
      exact T_ireturn (pc := 55) rfl rfl dX0_compareAny_55 H
  · rw [if_pos hc] at H
    refine T_aload_n (pc := 6) dX0_compareAny_6 rfl rfl ?_
    refine T_aload_n (pc := 7) dX0_compareAny_7 rfl rfl ?_
    refine T_gR (pc := 8) fa_X0_7 dX0_compareAny_8 (gR_mono (fun x9 H => ?_) H)
    refine T_lload_n (pc := 11) dX0_compareAny_11 rfl rfl ?_
    obtain ⟨H0, H⟩ := H
    refine T_iV (pc := 12) (ci := 6) (av := [jL v2]) (rest := [jR v0]) (o := x9) dX0_compareAny_12 mf_X7_findValue c_4_42 c_2_64 c_2_65 rfl rfl (Nat.le_of_ble_eq_true rfl) rfl H0 (iR_k (iR_m0 (fun x10 h H => ?_) (J_X7_findValue (d := d) H)))
    refine T_aload_n (pc := 15) dX0_compareAny_15 rfl rfl ?_
    refine T_gR (pc := 16) fa_X0_7 dX0_compareAny_16 (gR_mono (fun x11 H => ?_) H)
    refine T_lload (pc := 19) dX0_compareAny_19 rfl ?_
    obtain ⟨H0, H⟩ := H
    refine T_iV (pc := 21) (ci := 6) (av := [jL v4]) (rest := [jR x10, jR v0]) (o := x11) dX0_compareAny_21 mf_X7_findValue c_4_42 c_2_64 c_2_65 rfl rfl (Nat.le_of_ble_eq_true rfl) rfl H0 (iR_k (iR_m0 (fun x12 h H => ?_) (J_X7_findValue (d := d) H)))
    obtain ⟨H0, H⟩ := H
    refine T_iV (pc := 24) (ci := 0) (av := [jR x10, jR x12]) (rest := []) (o := v0) dX0_compareAny_24 mf_X0_compareValues c_4_43 c_4_24 c_4_25 rfl rfl (Nat.le_of_ble_eq_true rfl) rfl H0 (iI_k (iI_mono (fun x13 h u H => ?_) H))
    exact T_ireturn (pc := 27) rfl rfl dX0_compareAny_27 H
theorem I_X0_compareAny {d : Nat} {v0 : Option Nm} {v1 : Int32} {v2 : Int64} {v4 : Int64} {h : MH} {u : Nat} {K : Int32 → MH → Nat → Prop} (u1 : Nat) (hu : u1 ≤ u) (H : F_X0_compareAny d v0 v1 v2 v4 h u1 (fun x h2 => K x h2 (u - u1))) : iI (d + 1) u_X0_compareAny [jR v0, jI v1, jL v2, jL v4] h u K := inv.of u1 hu (Ct.of (by decide +kernel) rfl (Nat.le_of_ble_eq_true rfl) rfl (E_X0_compareAny H))
theorem dX0_compareParts_0 : decode cX0_compareParts 0 = .ok (.iconst 0, 1) := by decide +kernel
theorem dX0_compareParts_1 : decode cX0_compareParts 1 = .ok (.istore_n 3, 1) := by decide +kernel
theorem dX0_compareParts_2 : decode cX0_compareParts 2 = .ok (.iload_n 3, 1) := by decide +kernel
theorem dX0_compareParts_3 : decode cX0_compareParts 3 = .ok (.aload_n 1, 1) := by decide +kernel
theorem dX0_compareParts_4 : decode cX0_compareParts 4 = .ok (.getfield 51, 3) := by decide +kernel
theorem dX0_compareParts_7 : decode cX0_compareParts 7 = .ok (.arraylength, 1) := by decide +kernel
theorem dX0_compareParts_8 : decode cX0_compareParts 8 = .ok (.if_icmp .ge 53, 3) := by decide +kernel
theorem dX0_compareParts_11 : decode cX0_compareParts 11 = .ok (.iload_n 3, 1) := by decide +kernel
theorem dX0_compareParts_12 : decode cX0_compareParts 12 = .ok (.aload_n 2, 1) := by decide +kernel
theorem dX0_compareParts_13 : decode cX0_compareParts 13 = .ok (.getfield 51, 3) := by decide +kernel
theorem dX0_compareParts_16 : decode cX0_compareParts 16 = .ok (.arraylength, 1) := by decide +kernel
theorem dX0_compareParts_17 : decode cX0_compareParts 17 = .ok (.if_icmp .ge 44, 3) := by decide +kernel
theorem dX0_compareParts_20 : decode cX0_compareParts 20 = .ok (.aload_n 0, 1) := by decide +kernel
theorem dX0_compareParts_21 : decode cX0_compareParts 21 = .ok (.aload_n 1, 1) := by decide +kernel
theorem dX0_compareParts_22 : decode cX0_compareParts 22 = .ok (.getfield 33, 3) := by decide +kernel
theorem dX0_compareParts_25 : decode cX0_compareParts 25 = .ok (.getfield 55, 3) := by decide +kernel
theorem dX0_compareParts_28 : decode cX0_compareParts 28 = .ok (.iload_n 3, 1) := by decide +kernel
theorem dX0_compareParts_29 : decode cX0_compareParts 29 = .ok (.iaload, 1) := by decide +kernel
theorem dX0_compareParts_30 : decode cX0_compareParts 30 = .ok (.aload_n 1, 1) := by decide +kernel
theorem dX0_compareParts_31 : decode cX0_compareParts 31 = .ok (.getfield 51, 3) := by decide +kernel
theorem dX0_compareParts_34 : decode cX0_compareParts 34 = .ok (.iload_n 3, 1) := by decide +kernel
theorem dX0_compareParts_35 : decode cX0_compareParts 35 = .ok (.laload, 1) := by decide +kernel
theorem dX0_compareParts_36 : decode cX0_compareParts 36 = .ok (.aload_n 2, 1) := by decide +kernel
theorem dX0_compareParts_37 : decode cX0_compareParts 37 = .ok (.getfield 51, 3) := by decide +kernel
theorem dX0_compareParts_40 : decode cX0_compareParts 40 = .ok (.iload_n 3, 1) := by decide +kernel
theorem dX0_compareParts_41 : decode cX0_compareParts 41 = .ok (.laload, 1) := by decide +kernel
theorem dX0_compareParts_42 : decode cX0_compareParts 42 = .ok (.invokevirtual 63, 3) := by decide +kernel
theorem dX0_compareParts_45 : decode cX0_compareParts 45 = .ok (.istore 4, 2) := by decide +kernel
theorem dX0_compareParts_47 : decode cX0_compareParts 47 = .ok (.iload 4, 2) := by decide +kernel
theorem dX0_compareParts_49 : decode cX0_compareParts 49 = .ok (.ifCond .eq 6, 3) := by decide +kernel
theorem dX0_compareParts_52 : decode cX0_compareParts 52 = .ok (.iload 4, 2) := by decide +kernel
theorem dX0_compareParts_54 : decode cX0_compareParts 54 = .ok (.ireturn, 1) := by decide +kernel
theorem dX0_compareParts_55 : decode cX0_compareParts 55 = .ok (.iinc 3 1, 3) := by decide +kernel
theorem dX0_compareParts_58 : decode cX0_compareParts 58 = .ok (.goto (-56), 3) := by decide +kernel
theorem dX0_compareParts_61 : decode cX0_compareParts 61 = .ok (.iconst 0, 1) := by decide +kernel
theorem dX0_compareParts_62 : decode cX0_compareParts 62 = .ok (.ireturn, 1) := by decide +kernel
def L_X0_compareParts_2 (d : Nat) (v0 : Option Nm) (v1 : Option Nm) (v2 : Option Nm) (v3 : Int32) (h : MH) (u : Nat) (Q : Int32 → MH → Prop) : Prop := T u_X0_compareParts (d + 1) 2 [some (jR v0), some (jR v1), some (jR v2), some (jI v3), none] [] h u (qI Q)
def F_X0_compareParts (d : Nat) (v0 : Option Nm) (v1 : Option Nm) (v2 : Option Nm) (h : MH) (u : Nat) (Q : Int32 → MH → Prop) : Prop :=
  L_X0_compareParts_2 d v0 v1 v2 0 h u Q
set_option maxRecDepth 20000 in
theorem E_X0_compareParts {d : Nat} {v0 : Option Nm} {v1 : Option Nm} {v2 : Option Nm} {h : MH} {u : Nat} {Q : Int32 → MH → Prop} (H : F_X0_compareParts d v0 v1 v2 h u Q) : T u_X0_compareParts (d + 1) 0 [some (jR v0), some (jR v1), some (jR v2), none, none] [] h u (qI Q) := by
  unfold F_X0_compareParts at H
  refine T_iconst (pc := 0) (v := 0) dX0_compareParts_0 (by decide) ?_
  refine T_istore_n (pc := 1) (ls2 := [some (jR v0), some (jR v1), some (jR v2), some (jI 0), none]) dX0_compareParts_1 rfl (Nat.le_of_ble_eq_true rfl) rfl ?_
  exact T.forget H ⟨rfl, rfl, rfl, rfl, trivial⟩
def F_X0_compareParts_2 (d : Nat) (v0 : Option Nm) (v1 : Option Nm) (v2 : Option Nm) (v3 : Int32) (h : MH) (u : Nat) (Q : Int32 → MH → Prop) : Prop :=
  gR h v1 9 5 fun x1 =>
  aN h x1 fun x2 =>
  if x2 ≤ v3 then
    Q 0 h
  else
    gR h v2 9 5 fun x3 =>
    aN h x3 fun x4 =>
    if x4 ≤ v3 then
      Q 0 h
    else
      gR h v1 9 2 fun x5 =>
      gR h x5 2 2 fun x6 =>
      aI .int h x6 v3 fun x7 =>
      gR h v1 9 5 fun x8 =>
      aL h x8 v3 fun x9 =>
      gR h v2 9 5 fun x10 =>
      aL h x10 v3 fun x11 =>
      rc h v0 0 ∧ iI d u_X0_compareAny [jR v0, jI x7, jL x9, jL x11] h u fun x12 h u =>
      if x12 = 0 then
        L_X0_compareParts_2 d v0 v1 v2 (v3 + 1) h u Q
      else
        Q x12 h
set_option maxRecDepth 20000 in
theorem E_X0_compareParts_2 {d : Nat} {v0 : Option Nm} {v1 : Option Nm} {v2 : Option Nm} {v3 : Int32} {h : MH} {u : Nat} {Q : Int32 → MH → Prop} (H : F_X0_compareParts_2 d v0 v1 v2 v3 h u Q) : T u_X0_compareParts (d + 1) 2 [some (jR v0), some (jR v1), some (jR v2), some (jI v3), none] [] h u (qI Q) := by
  unfold F_X0_compareParts_2 at H
  refine T_iload_n (pc := 2) dX0_compareParts_2 rfl rfl ?_
  refine T_aload_n (pc := 3) dX0_compareParts_3 rfl rfl ?_
  refine T_gR (pc := 4) fa_X0_51 dX0_compareParts_4 (gR_mono (fun x1 H => ?_) H)
  refine T_aN (pc := 7) dX0_compareParts_7 (aN_mono (fun x2 H => ?_) H)
  refine T_icmp_ge (pc := 8) (tgt := 61) dX0_compareParts_8 (by decide) (fun hc => ?_) (fun hc => ?_)
  · rw [if_pos hc] at H
    refine T_iconst (pc := 61) (v := 0) dX0_compareParts_61 (by decide) ?_
    exact T_ireturn (pc := 62) rfl rfl dX0_compareParts_62 H
  · rw [if_neg hc] at H
    refine T_iload_n (pc := 11) dX0_compareParts_11 rfl rfl ?_
    refine T_aload_n (pc := 12) dX0_compareParts_12 rfl rfl ?_
    refine T_gR (pc := 13) fa_X0_51 dX0_compareParts_13 (gR_mono (fun x3 H => ?_) H)
    refine T_aN (pc := 16) dX0_compareParts_16 (aN_mono (fun x4 H => ?_) H)
    refine T_icmp_ge (pc := 17) (tgt := 61) dX0_compareParts_17 (by decide) (fun hc => ?_) (fun hc => ?_)
    · rw [if_pos hc] at H
      refine T_iconst (pc := 61) (v := 0) dX0_compareParts_61 (by decide) ?_
      exact T_ireturn (pc := 62) rfl rfl dX0_compareParts_62 H
    · rw [if_neg hc] at H
      refine T_aload_n (pc := 20) dX0_compareParts_20 rfl rfl ?_
      refine T_aload_n (pc := 21) dX0_compareParts_21 rfl rfl ?_
      refine T_gR (pc := 22) fa_X0_33 dX0_compareParts_22 (gR_mono (fun x5 H => ?_) H)
      refine T_gR (pc := 25) fa_X0_55 dX0_compareParts_25 (gR_mono (fun x6 H => ?_) H)
      refine T_iload_n (pc := 28) dX0_compareParts_28 rfl rfl ?_
      refine T_aI (pc := 29) dX0_compareParts_29 (aI_mono (fun x7 H => ?_) H)
      refine T_aload_n (pc := 30) dX0_compareParts_30 rfl rfl ?_
      refine T_gR (pc := 31) fa_X0_51 dX0_compareParts_31 (gR_mono (fun x8 H => ?_) H)
      refine T_iload_n (pc := 34) dX0_compareParts_34 rfl rfl ?_
      refine T_aL (pc := 35) dX0_compareParts_35 (aL_mono (fun x9 H => ?_) H)
      refine T_aload_n (pc := 36) dX0_compareParts_36 rfl rfl ?_
      refine T_gR (pc := 37) fa_X0_51 dX0_compareParts_37 (gR_mono (fun x10 H => ?_) H)
      refine T_iload_n (pc := 40) dX0_compareParts_40 rfl rfl ?_
      refine T_aL (pc := 41) dX0_compareParts_41 (aL_mono (fun x11 H => ?_) H)
      obtain ⟨H0, H⟩ := H
      refine T_iV (pc := 42) (ci := 0) (av := [jI x7, jL x9, jL x11]) (rest := []) (o := v0) dX0_compareParts_42 mf_X0_compareAny c_4_38 c_4_40 pr_X0_compareAny rfl rfl (Nat.le_of_ble_eq_true rfl) rfl H0 (iI_k (iI_mono (fun x12 h u H => ?_) H))
      refine T_istore (pc := 45) (ls2 := [some (jR v0), some (jR v1), some (jR v2), some (jI v3), some (jI x12)]) dX0_compareParts_45 (Nat.le_of_ble_eq_true rfl) rfl ?_
      refine T_iload (pc := 47) dX0_compareParts_47 rfl ?_
      refine T_if_eq (pc := 49) (tgt := 55) dX0_compareParts_49 (by decide) (fun hc => ?_) (fun hc => ?_)
      · rw [if_pos hc] at H
        refine T_iinc (pc := 55) (v := v3 + 1) (ls2 := [some (jR v0), some (jR v1), some (jR v2), some (jI (v3 + 1)), some (jI x12)]) dX0_compareParts_55 rfl rfl (Nat.le_of_ble_eq_true rfl) rfl ?_
        refine T_goto (pc := 58) (tgt := 2) dX0_compareParts_58 (by decide) ?_
        exact T.forget H ⟨rfl, rfl, rfl, rfl, trivial⟩
      · rw [if_neg hc] at H
        refine T_iload (pc := 52) dX0_compareParts_52 rfl ?_
        exact T_ireturn (pc := 54) rfl rfl dX0_compareParts_54 H
theorem I_X0_compareParts {d : Nat} {v0 : Option Nm} {v1 : Option Nm} {v2 : Option Nm} {h : MH} {u : Nat} {K : Int32 → MH → Nat → Prop} (u1 : Nat) (hu : u1 ≤ u) (H : F_X0_compareParts d v0 v1 v2 h u1 (fun x h2 => K x h2 (u - u1))) : iI (d + 1) u_X0_compareParts [jR v0, jR v1, jR v2] h u K := inv.of u1 hu (Ct.of (by decide +kernel) rfl (Nat.le_of_ble_eq_true rfl) rfl (E_X0_compareParts H))
theorem dX11_oneIf_0 : decode cX11_oneIf 0 = .ok (.iload_n 0, 1) := by decide +kernel
theorem dX11_oneIf_1 : decode cX11_oneIf 1 = .ok (.ifCond .eq 7, 3) := by decide +kernel
theorem dX11_oneIf_4 : decode cX11_oneIf 4 = .ok (.iconst 1, 1) := by decide +kernel
theorem dX11_oneIf_5 : decode cX11_oneIf 5 = .ok (.goto 4, 3) := by decide +kernel
theorem dX11_oneIf_8 : decode cX11_oneIf 8 = .ok (.iconst 0, 1) := by decide +kernel
theorem dX11_oneIf_9 : decode cX11_oneIf 9 = .ok (.ireturn, 1) := by decide +kernel
def F_X11_oneIf (d : Nat) (v0 : Int32) (h : MH) (u : Nat) (Q : Int32 → MH → Prop) : Prop :=
  if v0 = 0 then
    Q 0 h
  else
    Q 1 h
set_option maxRecDepth 20000 in
theorem E_X11_oneIf {d : Nat} {v0 : Int32} {h : MH} {u : Nat} {Q : Int32 → MH → Prop} (H : F_X11_oneIf d v0 h u Q) : T u_X11_oneIf d 0 [some (jI v0)] [] h u (qI Q) := by
  unfold F_X11_oneIf at H
  refine T_iload_n (pc := 0) dX11_oneIf_0 rfl rfl ?_
  refine T_if_eq (pc := 1) (tgt := 8) dX11_oneIf_1 (by decide) (fun hc => ?_) (fun hc => ?_)
  · rw [if_pos hc] at H
    refine T_iconst (pc := 8) (v := 0) dX11_oneIf_8 (by decide) ?_
    exact T_ireturn (pc := 9) rfl rfl dX11_oneIf_9 H
  · rw [if_neg hc] at H
    refine T_iconst (pc := 4) (v := 1) dX11_oneIf_4 (by decide) ?_
    refine T_goto (pc := 5) (tgt := 9) dX11_oneIf_5 (by decide) ?_
    exact T_ireturn (pc := 9) rfl rfl dX11_oneIf_9 H
theorem I_X11_oneIf {d : Nat} {v0 : Int32} {h : MH} {u : Nat} {K : Int32 → MH → Nat → Prop} (u1 : Nat) (hu : u1 ≤ u) (H : F_X11_oneIf d v0 h u1 (fun x h2 => K x h2 (u - u1))) : iI d u_X11_oneIf [jI v0] h u K := inv.of u1 hu (Ct.of (by decide +kernel) rfl (Nat.le_of_ble_eq_true rfl) rfl (E_X11_oneIf H))
theorem J_X11_oneIf {d : Nat} {v0 : Int32} {h : MH} {u : Nat} {K : Int32 → MH → Prop} (H : F_X11_oneIf d v0 h 0 K) : iI d u_X11_oneIf [jI v0] h u (fun x h2 u2 => K x h2 ∧ u2 = u) := jiI (by decide +kernel) rfl (Nat.le_of_ble_eq_true rfl) rfl (E_X11_oneIf H)
theorem dX0_nothingFirst_0 : decode cX0_nothingFirst 0 = .ok (.iload_n 0, 1) := by decide +kernel
theorem dX0_nothingFirst_1 : decode cX0_nothingFirst 1 = .ok (.invokestatic 109, 3) := by decide +kernel
theorem dX0_nothingFirst_4 : decode cX0_nothingFirst 4 = .ok (.iload_n 1, 1) := by decide +kernel
theorem dX0_nothingFirst_5 : decode cX0_nothingFirst 5 = .ok (.invokestatic 109, 3) := by decide +kernel
theorem dX0_nothingFirst_8 : decode cX0_nothingFirst 8 = .ok (.isub, 1) := by decide +kernel
theorem dX0_nothingFirst_9 : decode cX0_nothingFirst 9 = .ok (.ireturn, 1) := by decide +kernel
def F_X0_nothingFirst (d : Nat) (v0 : Int32) (v1 : Int32) (h : MH) (u : Nat) (Q : Int32 → MH → Prop) : Prop :=
  F_X11_oneIf d v0 h 0 fun x1 h =>
  F_X11_oneIf d v1 h 0 fun x2 h =>
  Q (x1 - x2) h
set_option maxRecDepth 20000 in
theorem E_X0_nothingFirst {d : Nat} {v0 : Int32} {v1 : Int32} {h : MH} {u : Nat} {Q : Int32 → MH → Prop} (H : F_X0_nothingFirst d v0 v1 h u Q) : T u_X0_nothingFirst (d + 1) 0 [some (jI v0), some (jI v1)] [] h u (qI Q) := by
  unfold F_X0_nothingFirst at H
  refine T_iload_n (pc := 0) dX0_nothingFirst_0 rfl rfl ?_
  refine T_invN (pc := 1) (av := [jI v0]) (rest := []) dX0_nothingFirst_1 mf_X11_oneIf (host := "RecordBridge") (by decide) c_2_84 rfl (Nat.le_of_ble_eq_true rfl) rfl (iI_k (iI_m0 (fun x1 h H => ?_) (J_X11_oneIf (d := d) H)))
  refine T_iload_n (pc := 4) dX0_nothingFirst_4 rfl rfl ?_
  refine T_invN (pc := 5) (av := [jI v1]) (rest := [jI x1]) dX0_nothingFirst_5 mf_X11_oneIf (host := "RecordBridge") (by decide) c_2_84 rfl (Nat.le_of_ble_eq_true rfl) rfl (iI_k (iI_m0 (fun x2 h H => ?_) (J_X11_oneIf (d := d) H)))
  refine T_isub (pc := 8) dX0_nothingFirst_8 ?_
  exact T_ireturn (pc := 9) rfl rfl dX0_nothingFirst_9 H
theorem I_X0_nothingFirst {d : Nat} {v0 : Int32} {v1 : Int32} {h : MH} {u : Nat} {K : Int32 → MH → Nat → Prop} (u1 : Nat) (hu : u1 ≤ u) (H : F_X0_nothingFirst d v0 v1 h u1 (fun x h2 => K x h2 (u - u1))) : iI (d + 1) u_X0_nothingFirst [jI v0, jI v1] h u K := inv.of u1 hu (Ct.of (by decide +kernel) rfl (Nat.le_of_ble_eq_true rfl) rfl (E_X0_nothingFirst H))
theorem J_X0_nothingFirst {d : Nat} {v0 : Int32} {v1 : Int32} {h : MH} {u : Nat} {K : Int32 → MH → Prop} (H : F_X0_nothingFirst d v0 v1 h 0 K) : iI (d + 1) u_X0_nothingFirst [jI v0, jI v1] h u (fun x h2 u2 => K x h2 ∧ u2 = u) := jiI (by decide +kernel) rfl (Nat.le_of_ble_eq_true rfl) rfl (E_X0_nothingFirst H)
theorem dX0_compareRows_0 : decode cX0_compareRows 0 = .ok (.aload_n 1, 1) := by decide +kernel
theorem dX0_compareRows_1 : decode cX0_compareRows 1 = .ok (.ifnull 7, 3) := by decide +kernel
theorem dX0_compareRows_4 : decode cX0_compareRows 4 = .ok (.aload_n 2, 1) := by decide +kernel
theorem dX0_compareRows_5 : decode cX0_compareRows 5 = .ok (.ifnonnull 25, 3) := by decide +kernel
theorem dX0_compareRows_8 : decode cX0_compareRows 8 = .ok (.aload_n 1, 1) := by decide +kernel
theorem dX0_compareRows_9 : decode cX0_compareRows 9 = .ok (.ifnull 7, 3) := by decide +kernel
theorem dX0_compareRows_12 : decode cX0_compareRows 12 = .ok (.iconst 1, 1) := by decide +kernel
theorem dX0_compareRows_13 : decode cX0_compareRows 13 = .ok (.goto 4, 3) := by decide +kernel
theorem dX0_compareRows_16 : decode cX0_compareRows 16 = .ok (.iconst 0, 1) := by decide +kernel
theorem dX0_compareRows_17 : decode cX0_compareRows 17 = .ok (.aload_n 2, 1) := by decide +kernel
theorem dX0_compareRows_18 : decode cX0_compareRows 18 = .ok (.ifnull 7, 3) := by decide +kernel
theorem dX0_compareRows_21 : decode cX0_compareRows 21 = .ok (.iconst 1, 1) := by decide +kernel
theorem dX0_compareRows_22 : decode cX0_compareRows 22 = .ok (.goto 4, 3) := by decide +kernel
theorem dX0_compareRows_25 : decode cX0_compareRows 25 = .ok (.iconst 0, 1) := by decide +kernel
theorem dX0_compareRows_26 : decode cX0_compareRows 26 = .ok (.invokestatic 13, 3) := by decide +kernel
theorem dX0_compareRows_29 : decode cX0_compareRows 29 = .ok (.ireturn, 1) := by decide +kernel
theorem dX0_compareRows_30 : decode cX0_compareRows 30 = .ok (.aload_n 1, 1) := by decide +kernel
theorem dX0_compareRows_31 : decode cX0_compareRows 31 = .ok (.getfield 90, 3) := by decide +kernel
theorem dX0_compareRows_34 : decode cX0_compareRows 34 = .ok (.i2l, 1) := by decide +kernel
theorem dX0_compareRows_35 : decode cX0_compareRows 35 = .ok (.aload_n 2, 1) := by decide +kernel
theorem dX0_compareRows_36 : decode cX0_compareRows 36 = .ok (.getfield 90, 3) := by decide +kernel
theorem dX0_compareRows_39 : decode cX0_compareRows 39 = .ok (.i2l, 1) := by decide +kernel
theorem dX0_compareRows_40 : decode cX0_compareRows 40 = .ok (.invokestatic 29, 3) := by decide +kernel
theorem dX0_compareRows_43 : decode cX0_compareRows 43 = .ok (.istore_n 3, 1) := by decide +kernel
theorem dX0_compareRows_44 : decode cX0_compareRows 44 = .ok (.iload_n 3, 1) := by decide +kernel
theorem dX0_compareRows_45 : decode cX0_compareRows 45 = .ok (.ifCond .eq 5, 3) := by decide +kernel
theorem dX0_compareRows_48 : decode cX0_compareRows 48 = .ok (.iload_n 3, 1) := by decide +kernel
theorem dX0_compareRows_49 : decode cX0_compareRows 49 = .ok (.ireturn, 1) := by decide +kernel
theorem dX0_compareRows_50 : decode cX0_compareRows 50 = .ok (.iconst 0, 1) := by decide +kernel
theorem dX0_compareRows_51 : decode cX0_compareRows 51 = .ok (.istore 4, 2) := by decide +kernel
theorem dX0_compareRows_53 : decode cX0_compareRows 53 = .ok (.iload 4, 2) := by decide +kernel
theorem dX0_compareRows_55 : decode cX0_compareRows 55 = .ok (.aload_n 1, 1) := by decide +kernel
theorem dX0_compareRows_56 : decode cX0_compareRows 56 = .ok (.getfield 95, 3) := by decide +kernel
theorem dX0_compareRows_59 : decode cX0_compareRows 59 = .ok (.arraylength, 1) := by decide +kernel
theorem dX0_compareRows_60 : decode cX0_compareRows 60 = .ok (.if_icmp .ge 51, 3) := by decide +kernel
theorem dX0_compareRows_63 : decode cX0_compareRows 63 = .ok (.iload 4, 2) := by decide +kernel
theorem dX0_compareRows_65 : decode cX0_compareRows 65 = .ok (.aload_n 2, 1) := by decide +kernel
theorem dX0_compareRows_66 : decode cX0_compareRows 66 = .ok (.getfield 95, 3) := by decide +kernel
theorem dX0_compareRows_69 : decode cX0_compareRows 69 = .ok (.arraylength, 1) := by decide +kernel
theorem dX0_compareRows_70 : decode cX0_compareRows 70 = .ok (.if_icmp .ge 41, 3) := by decide +kernel
theorem dX0_compareRows_73 : decode cX0_compareRows 73 = .ok (.aload_n 0, 1) := by decide +kernel
theorem dX0_compareRows_74 : decode cX0_compareRows 74 = .ok (.aload_n 1, 1) := by decide +kernel
theorem dX0_compareRows_75 : decode cX0_compareRows 75 = .ok (.getfield 90, 3) := by decide +kernel
theorem dX0_compareRows_78 : decode cX0_compareRows 78 = .ok (.aload_n 1, 1) := by decide +kernel
theorem dX0_compareRows_79 : decode cX0_compareRows 79 = .ok (.getfield 95, 3) := by decide +kernel
theorem dX0_compareRows_82 : decode cX0_compareRows 82 = .ok (.iload 4, 2) := by decide +kernel
theorem dX0_compareRows_84 : decode cX0_compareRows 84 = .ok (.laload, 1) := by decide +kernel
theorem dX0_compareRows_85 : decode cX0_compareRows 85 = .ok (.aload_n 2, 1) := by decide +kernel
theorem dX0_compareRows_86 : decode cX0_compareRows 86 = .ok (.getfield 95, 3) := by decide +kernel
theorem dX0_compareRows_89 : decode cX0_compareRows 89 = .ok (.iload 4, 2) := by decide +kernel
theorem dX0_compareRows_91 : decode cX0_compareRows 91 = .ok (.laload, 1) := by decide +kernel
theorem dX0_compareRows_92 : decode cX0_compareRows 92 = .ok (.invokevirtual 63, 3) := by decide +kernel
theorem dX0_compareRows_95 : decode cX0_compareRows 95 = .ok (.istore 5, 2) := by decide +kernel
theorem dX0_compareRows_97 : decode cX0_compareRows 97 = .ok (.iload 5, 2) := by decide +kernel
theorem dX0_compareRows_99 : decode cX0_compareRows 99 = .ok (.ifCond .eq 6, 3) := by decide +kernel
theorem dX0_compareRows_102 : decode cX0_compareRows 102 = .ok (.iload 5, 2) := by decide +kernel
theorem dX0_compareRows_104 : decode cX0_compareRows 104 = .ok (.ireturn, 1) := by decide +kernel
theorem dX0_compareRows_105 : decode cX0_compareRows 105 = .ok (.iinc 4 1, 3) := by decide +kernel
theorem dX0_compareRows_108 : decode cX0_compareRows 108 = .ok (.goto (-55), 3) := by decide +kernel
theorem dX0_compareRows_111 : decode cX0_compareRows 111 = .ok (.aload_n 1, 1) := by decide +kernel
theorem dX0_compareRows_112 : decode cX0_compareRows 112 = .ok (.getfield 95, 3) := by decide +kernel
theorem dX0_compareRows_115 : decode cX0_compareRows 115 = .ok (.arraylength, 1) := by decide +kernel
theorem dX0_compareRows_116 : decode cX0_compareRows 116 = .ok (.i2l, 1) := by decide +kernel
theorem dX0_compareRows_117 : decode cX0_compareRows 117 = .ok (.aload_n 2, 1) := by decide +kernel
theorem dX0_compareRows_118 : decode cX0_compareRows 118 = .ok (.getfield 95, 3) := by decide +kernel
theorem dX0_compareRows_121 : decode cX0_compareRows 121 = .ok (.arraylength, 1) := by decide +kernel
theorem dX0_compareRows_122 : decode cX0_compareRows 122 = .ok (.i2l, 1) := by decide +kernel
theorem dX0_compareRows_123 : decode cX0_compareRows 123 = .ok (.invokestatic 29, 3) := by decide +kernel
theorem dX0_compareRows_126 : decode cX0_compareRows 126 = .ok (.ireturn, 1) := by decide +kernel
def L_X0_compareRows_53 (d : Nat) (v0 : Option Nm) (v1 : Option Nm) (v2 : Option Nm) (v4 : Int32) (h : MH) (u : Nat) (Q : Int32 → MH → Prop) : Prop := T u_X0_compareRows (d + 2) 53 [some (jR v0), some (jR v1), some (jR v2), none, some (jI v4), none] [] h u (qI Q)
def F_X0_compareRows_17 (d : Nat) (v2 : Option Nm) (s0 : Int32) (h : MH) (u : Nat) (Q : Int32 → MH → Prop) : Prop :=
  nl v2 (
    F_X0_nothingFirst d s0 0 h 0 fun x1 h =>
    Q x1 h) (
    F_X0_nothingFirst d s0 1 h 0 fun x2 h =>
    Q x2 h)
set_option maxRecDepth 20000 in
theorem E_X0_compareRows_17 {d : Nat} {v2 : Option Nm} {s0 : Int32} {h : MH} {u : Nat} {Q : Int32 → MH → Prop} (H : F_X0_compareRows_17 d v2 s0 h u Q) : T u_X0_compareRows (d + 2) 17 [none, none, some (jR v2), none, none, none] [jI s0] h u (qI Q) := by
  unfold F_X0_compareRows_17 at H
  refine T_aload_n (pc := 17) dX0_compareRows_17 rfl rfl ?_
  refine T_ifnull (pc := 18) (tgt := 25) dX0_compareRows_18 (by decide) (fun ho => ?_) (fun n ho => ?_)
  · replace H := nl_n ho H
    refine T_iconst (pc := 25) (v := 0) dX0_compareRows_25 (by decide) ?_
    refine T_invS (pc := 26) (av := [jI s0, jI 0]) (rest := []) dX0_compareRows_26 mf_X0_nothingFirst c_4_27 c_4_28 rfl (Nat.le_of_ble_eq_true rfl) rfl (iI_k (iI_m0 (fun x1 h H => ?_) (J_X0_nothingFirst (d := d) H)))
    exact T_ireturn (pc := 29) rfl rfl dX0_compareRows_29 H
  · replace H := nl_s ho H
    refine T_iconst (pc := 21) (v := 1) dX0_compareRows_21 (by decide) ?_
    refine T_goto (pc := 22) (tgt := 26) dX0_compareRows_22 (by decide) ?_
    refine T_invS (pc := 26) (av := [jI s0, jI 1]) (rest := []) dX0_compareRows_26 mf_X0_nothingFirst c_4_27 c_4_28 rfl (Nat.le_of_ble_eq_true rfl) rfl (iI_k (iI_m0 (fun x2 h H => ?_) (J_X0_nothingFirst (d := d) H)))
    exact T_ireturn (pc := 29) rfl rfl dX0_compareRows_29 H
def F_X0_compareRows_8 (d : Nat) (v1 : Option Nm) (v2 : Option Nm) (h : MH) (u : Nat) (Q : Int32 → MH → Prop) : Prop :=
  nl v1 (
    F_X0_compareRows_17 d v2 0 h u Q) (
    F_X0_compareRows_17 d v2 1 h u Q)
set_option maxRecDepth 20000 in
theorem E_X0_compareRows_8 {d : Nat} {v1 : Option Nm} {v2 : Option Nm} {h : MH} {u : Nat} {Q : Int32 → MH → Prop} (H : F_X0_compareRows_8 d v1 v2 h u Q) : T u_X0_compareRows (d + 2) 8 [none, some (jR v1), some (jR v2), none, none, none] [] h u (qI Q) := by
  unfold F_X0_compareRows_8 at H
  refine T_aload_n (pc := 8) dX0_compareRows_8 rfl rfl ?_
  refine T_ifnull (pc := 9) (tgt := 16) dX0_compareRows_9 (by decide) (fun ho => ?_) (fun n ho => ?_)
  · replace H := nl_n ho H
    refine T_iconst (pc := 16) (v := 0) dX0_compareRows_16 (by decide) ?_
    exact T.forget (E_X0_compareRows_17 H) ⟨rfl, trivial⟩
  · replace H := nl_s ho H
    refine T_iconst (pc := 12) (v := 1) dX0_compareRows_12 (by decide) ?_
    refine T_goto (pc := 13) (tgt := 17) dX0_compareRows_13 (by decide) ?_
    exact T.forget (E_X0_compareRows_17 H) ⟨rfl, trivial⟩
def F_X0_compareRows (d : Nat) (v0 : Option Nm) (v1 : Option Nm) (v2 : Option Nm) (h : MH) (u : Nat) (Q : Int32 → MH → Prop) : Prop :=
  nl v1 (
    F_X0_compareRows_8 d v1 v2 h u Q) (
    nl v2 (
      F_X0_compareRows_8 d v1 v2 h u Q) (
      gI h v1 4 1 fun x1 =>
      gI h v2 4 1 fun x2 =>
      F_X0_lesserFirst (d + 1) (x1.toInt64) (x2.toInt64) h 0 fun x3 h =>
      if x3 = 0 then
        L_X0_compareRows_53 d v0 v1 v2 0 h u Q
      else
        Q x3 h))
set_option maxRecDepth 20000 in
theorem E_X0_compareRows {d : Nat} {v0 : Option Nm} {v1 : Option Nm} {v2 : Option Nm} {h : MH} {u : Nat} {Q : Int32 → MH → Prop} (H : F_X0_compareRows d v0 v1 v2 h u Q) : T u_X0_compareRows (d + 2) 0 [some (jR v0), some (jR v1), some (jR v2), none, none, none] [] h u (qI Q) := by
  unfold F_X0_compareRows at H
  refine T_aload_n (pc := 0) dX0_compareRows_0 rfl rfl ?_
  refine T_ifnull (pc := 1) (tgt := 8) dX0_compareRows_1 (by decide) (fun ho => ?_) (fun n ho => ?_)
  · replace H := nl_n ho H
    exact T.forget (E_X0_compareRows_8 H) ⟨rfl, rfl, trivial⟩
  · replace H := nl_s ho H
    refine T_aload_n (pc := 4) dX0_compareRows_4 rfl rfl ?_
    refine T_ifnonnull (pc := 5) (tgt := 30) dX0_compareRows_5 (by decide) (fun ho => ?_) (fun n ho => ?_)
    · replace H := nl_n ho H
      exact T.forget (E_X0_compareRows_8 H) ⟨rfl, rfl, trivial⟩
    · replace H := nl_s ho H
      refine T_aload_n (pc := 30) dX0_compareRows_30 rfl rfl ?_
      refine T_gI (pc := 31) fa_X0_90 dX0_compareRows_31 (gI_mono (fun x1 H => ?_) H)
      refine T_i2l (pc := 34) dX0_compareRows_34 ?_
      refine T_aload_n (pc := 35) dX0_compareRows_35 rfl rfl ?_
      refine T_gI (pc := 36) fa_X0_90 dX0_compareRows_36 (gI_mono (fun x2 H => ?_) H)
      refine T_i2l (pc := 39) dX0_compareRows_39 ?_
      refine T_invS (pc := 40) (av := [jL (x1.toInt64), jL (x2.toInt64)]) (rest := []) dX0_compareRows_40 mf_X0_lesserFirst c_4_31 c_4_32 rfl (Nat.le_of_ble_eq_true rfl) rfl (iI_k (iI_m0 (fun x3 h H => ?_) (J_X0_lesserFirst (d := (d + 1)) H)))
      refine T_istore_n (pc := 43) (ls2 := [some (jR v0), some (jR v1), some (jR v2), some (jI x3), none, none]) dX0_compareRows_43 rfl (Nat.le_of_ble_eq_true rfl) rfl ?_
      refine T_iload_n (pc := 44) dX0_compareRows_44 rfl rfl ?_
      refine T_if_eq (pc := 45) (tgt := 50) dX0_compareRows_45 (by decide) (fun hc => ?_) (fun hc => ?_)
      · rw [if_pos hc] at H
        refine T_iconst (pc := 50) (v := 0) dX0_compareRows_50 (by decide) ?_
        refine T_istore (pc := 51) (ls2 := [some (jR v0), some (jR v1), some (jR v2), some (jI x3), some (jI 0), none]) dX0_compareRows_51 (Nat.le_of_ble_eq_true rfl) rfl ?_
        exact T.forget H ⟨rfl, rfl, rfl, rfl, trivial⟩
      · rw [if_neg hc] at H
        refine T_iload_n (pc := 48) dX0_compareRows_48 rfl rfl ?_
        exact T_ireturn (pc := 49) rfl rfl dX0_compareRows_49 H
def F_X0_compareRows_111 (d : Nat) (v1 : Option Nm) (v2 : Option Nm) (h : MH) (u : Nat) (Q : Int32 → MH → Prop) : Prop :=
  gR h v1 4 2 fun x1 =>
  aN h x1 fun x2 =>
  gR h v2 4 2 fun x3 =>
  aN h x3 fun x4 =>
  F_X0_lesserFirst (d + 1) (x2.toInt64) (x4.toInt64) h 0 fun x5 h =>
  Q x5 h
set_option maxRecDepth 20000 in
theorem E_X0_compareRows_111 {d : Nat} {v1 : Option Nm} {v2 : Option Nm} {h : MH} {u : Nat} {Q : Int32 → MH → Prop} (H : F_X0_compareRows_111 d v1 v2 h u Q) : T u_X0_compareRows (d + 2) 111 [none, some (jR v1), some (jR v2), none, none, none] [] h u (qI Q) := by
  unfold F_X0_compareRows_111 at H
  refine T_aload_n (pc := 111) dX0_compareRows_111 rfl rfl ?_
  refine T_gR (pc := 112) fa_X0_95 dX0_compareRows_112 (gR_mono (fun x1 H => ?_) H)
  refine T_aN (pc := 115) dX0_compareRows_115 (aN_mono (fun x2 H => ?_) H)
  refine T_i2l (pc := 116) dX0_compareRows_116 ?_
  refine T_aload_n (pc := 117) dX0_compareRows_117 rfl rfl ?_
  refine T_gR (pc := 118) fa_X0_95 dX0_compareRows_118 (gR_mono (fun x3 H => ?_) H)
  refine T_aN (pc := 121) dX0_compareRows_121 (aN_mono (fun x4 H => ?_) H)
  refine T_i2l (pc := 122) dX0_compareRows_122 ?_
  refine T_invS (pc := 123) (av := [jL (x2.toInt64), jL (x4.toInt64)]) (rest := []) dX0_compareRows_123 mf_X0_lesserFirst c_4_31 c_4_32 rfl (Nat.le_of_ble_eq_true rfl) rfl (iI_k (iI_m0 (fun x5 h H => ?_) (J_X0_lesserFirst (d := (d + 1)) H)))
  exact T_ireturn (pc := 126) rfl rfl dX0_compareRows_126 H
def F_X0_compareRows_53 (d : Nat) (v0 : Option Nm) (v1 : Option Nm) (v2 : Option Nm) (v4 : Int32) (h : MH) (u : Nat) (Q : Int32 → MH → Prop) : Prop :=
  gR h v1 4 2 fun x1 =>
  aN h x1 fun x2 =>
  if x2 ≤ v4 then
    F_X0_compareRows_111 d v1 v2 h u Q
  else
    gR h v2 4 2 fun x3 =>
    aN h x3 fun x4 =>
    if x4 ≤ v4 then
      F_X0_compareRows_111 d v1 v2 h u Q
    else
      gI h v1 4 1 fun x5 =>
      gR h v1 4 2 fun x6 =>
      aL h x6 v4 fun x7 =>
      gR h v2 4 2 fun x8 =>
      aL h x8 v4 fun x9 =>
      rc h v0 0 ∧ iI (d + 1) u_X0_compareAny [jR v0, jI x5, jL x7, jL x9] h u fun x10 h u =>
      if x10 = 0 then
        L_X0_compareRows_53 d v0 v1 v2 (v4 + 1) h u Q
      else
        Q x10 h
set_option maxRecDepth 20000 in
theorem E_X0_compareRows_53 {d : Nat} {v0 : Option Nm} {v1 : Option Nm} {v2 : Option Nm} {v4 : Int32} {h : MH} {u : Nat} {Q : Int32 → MH → Prop} (H : F_X0_compareRows_53 d v0 v1 v2 v4 h u Q) : T u_X0_compareRows (d + 2) 53 [some (jR v0), some (jR v1), some (jR v2), none, some (jI v4), none] [] h u (qI Q) := by
  unfold F_X0_compareRows_53 at H
  refine T_iload (pc := 53) dX0_compareRows_53 rfl ?_
  refine T_aload_n (pc := 55) dX0_compareRows_55 rfl rfl ?_
  refine T_gR (pc := 56) fa_X0_95 dX0_compareRows_56 (gR_mono (fun x1 H => ?_) H)
  refine T_aN (pc := 59) dX0_compareRows_59 (aN_mono (fun x2 H => ?_) H)
  refine T_icmp_ge (pc := 60) (tgt := 111) dX0_compareRows_60 (by decide) (fun hc => ?_) (fun hc => ?_)
  · rw [if_pos hc] at H
    exact T.forget (E_X0_compareRows_111 H) ⟨rfl, rfl, trivial⟩
  · rw [if_neg hc] at H
    refine T_iload (pc := 63) dX0_compareRows_63 rfl ?_
    refine T_aload_n (pc := 65) dX0_compareRows_65 rfl rfl ?_
    refine T_gR (pc := 66) fa_X0_95 dX0_compareRows_66 (gR_mono (fun x3 H => ?_) H)
    refine T_aN (pc := 69) dX0_compareRows_69 (aN_mono (fun x4 H => ?_) H)
    refine T_icmp_ge (pc := 70) (tgt := 111) dX0_compareRows_70 (by decide) (fun hc => ?_) (fun hc => ?_)
    · rw [if_pos hc] at H
      exact T.forget (E_X0_compareRows_111 H) ⟨rfl, rfl, trivial⟩
    · rw [if_neg hc] at H
      refine T_aload_n (pc := 73) dX0_compareRows_73 rfl rfl ?_
      refine T_aload_n (pc := 74) dX0_compareRows_74 rfl rfl ?_
      refine T_gI (pc := 75) fa_X0_90 dX0_compareRows_75 (gI_mono (fun x5 H => ?_) H)
      refine T_aload_n (pc := 78) dX0_compareRows_78 rfl rfl ?_
      refine T_gR (pc := 79) fa_X0_95 dX0_compareRows_79 (gR_mono (fun x6 H => ?_) H)
      refine T_iload (pc := 82) dX0_compareRows_82 rfl ?_
      refine T_aL (pc := 84) dX0_compareRows_84 (aL_mono (fun x7 H => ?_) H)
      refine T_aload_n (pc := 85) dX0_compareRows_85 rfl rfl ?_
      refine T_gR (pc := 86) fa_X0_95 dX0_compareRows_86 (gR_mono (fun x8 H => ?_) H)
      refine T_iload (pc := 89) dX0_compareRows_89 rfl ?_
      refine T_aL (pc := 91) dX0_compareRows_91 (aL_mono (fun x9 H => ?_) H)
      obtain ⟨H0, H⟩ := H
      refine T_iV (pc := 92) (ci := 0) (av := [jI x5, jL x7, jL x9]) (rest := []) (o := v0) dX0_compareRows_92 mf_X0_compareAny c_4_38 c_4_40 pr_X0_compareAny rfl rfl (Nat.le_of_ble_eq_true rfl) rfl H0 (iI_k (iI_mono (fun x10 h u H => ?_) H))
      refine T_istore (pc := 95) (ls2 := [some (jR v0), some (jR v1), some (jR v2), none, some (jI v4), some (jI x10)]) dX0_compareRows_95 (Nat.le_of_ble_eq_true rfl) rfl ?_
      refine T_iload (pc := 97) dX0_compareRows_97 rfl ?_
      refine T_if_eq (pc := 99) (tgt := 105) dX0_compareRows_99 (by decide) (fun hc => ?_) (fun hc => ?_)
      · rw [if_pos hc] at H
        refine T_iinc (pc := 105) (v := v4 + 1) (ls2 := [some (jR v0), some (jR v1), some (jR v2), none, some (jI (v4 + 1)), some (jI x10)]) dX0_compareRows_105 rfl rfl (Nat.le_of_ble_eq_true rfl) rfl ?_
        refine T_goto (pc := 108) (tgt := 53) dX0_compareRows_108 (by decide) ?_
        exact T.forget H ⟨rfl, rfl, rfl, rfl, trivial⟩
      · rw [if_neg hc] at H
        refine T_iload (pc := 102) dX0_compareRows_102 rfl ?_
        exact T_ireturn (pc := 104) rfl rfl dX0_compareRows_104 H
theorem I_X0_compareRows {d : Nat} {v0 : Option Nm} {v1 : Option Nm} {v2 : Option Nm} {h : MH} {u : Nat} {K : Int32 → MH → Nat → Prop} (u1 : Nat) (hu : u1 ≤ u) (H : F_X0_compareRows d v0 v1 v2 h u1 (fun x h2 => K x h2 (u - u1))) : iI (d + 2) u_X0_compareRows [jR v0, jR v1, jR v2] h u K := inv.of u1 hu (Ct.of (by decide +kernel) rfl (Nat.le_of_ble_eq_true rfl) rfl (E_X0_compareRows H))
theorem dX0_compareValues_0 : decode cX0_compareValues 0 = .ok (.aload_n 1, 1) := by decide +kernel
theorem dX0_compareValues_1 : decode cX0_compareValues 1 = .ok (.ifnull 7, 3) := by decide +kernel
theorem dX0_compareValues_4 : decode cX0_compareValues 4 = .ok (.aload_n 2, 1) := by decide +kernel
theorem dX0_compareValues_5 : decode cX0_compareValues 5 = .ok (.ifnonnull 25, 3) := by decide +kernel
theorem dX0_compareValues_8 : decode cX0_compareValues 8 = .ok (.aload_n 1, 1) := by decide +kernel
theorem dX0_compareValues_9 : decode cX0_compareValues 9 = .ok (.ifnull 7, 3) := by decide +kernel
theorem dX0_compareValues_12 : decode cX0_compareValues 12 = .ok (.iconst 1, 1) := by decide +kernel
theorem dX0_compareValues_13 : decode cX0_compareValues 13 = .ok (.goto 4, 3) := by decide +kernel
theorem dX0_compareValues_16 : decode cX0_compareValues 16 = .ok (.iconst 0, 1) := by decide +kernel
theorem dX0_compareValues_17 : decode cX0_compareValues 17 = .ok (.aload_n 2, 1) := by decide +kernel
theorem dX0_compareValues_18 : decode cX0_compareValues 18 = .ok (.ifnull 7, 3) := by decide +kernel
theorem dX0_compareValues_21 : decode cX0_compareValues 21 = .ok (.iconst 1, 1) := by decide +kernel
theorem dX0_compareValues_22 : decode cX0_compareValues 22 = .ok (.goto 4, 3) := by decide +kernel
theorem dX0_compareValues_25 : decode cX0_compareValues 25 = .ok (.iconst 0, 1) := by decide +kernel
theorem dX0_compareValues_26 : decode cX0_compareValues 26 = .ok (.invokestatic 13, 3) := by decide +kernel
theorem dX0_compareValues_29 : decode cX0_compareValues 29 = .ok (.ireturn, 1) := by decide +kernel
theorem dX0_compareValues_30 : decode cX0_compareValues 30 = .ok (.aload_n 1, 1) := by decide +kernel
theorem dX0_compareValues_31 : decode cX0_compareValues 31 = .ok (.getfield 17, 3) := by decide +kernel
theorem dX0_compareValues_34 : decode cX0_compareValues 34 = .ok (.getfield 23, 3) := by decide +kernel
theorem dX0_compareValues_37 : decode cX0_compareValues 37 = .ok (.i2l, 1) := by decide +kernel
theorem dX0_compareValues_38 : decode cX0_compareValues 38 = .ok (.aload_n 2, 1) := by decide +kernel
theorem dX0_compareValues_39 : decode cX0_compareValues 39 = .ok (.getfield 17, 3) := by decide +kernel
theorem dX0_compareValues_42 : decode cX0_compareValues 42 = .ok (.getfield 23, 3) := by decide +kernel
theorem dX0_compareValues_45 : decode cX0_compareValues 45 = .ok (.i2l, 1) := by decide +kernel
theorem dX0_compareValues_46 : decode cX0_compareValues 46 = .ok (.invokestatic 29, 3) := by decide +kernel
theorem dX0_compareValues_49 : decode cX0_compareValues 49 = .ok (.istore_n 3, 1) := by decide +kernel
theorem dX0_compareValues_50 : decode cX0_compareValues 50 = .ok (.iload_n 3, 1) := by decide +kernel
theorem dX0_compareValues_51 : decode cX0_compareValues 51 = .ok (.ifCond .eq 5, 3) := by decide +kernel
theorem dX0_compareValues_54 : decode cX0_compareValues 54 = .ok (.iload_n 3, 1) := by decide +kernel
theorem dX0_compareValues_55 : decode cX0_compareValues 55 = .ok (.ireturn, 1) := by decide +kernel
theorem dX0_compareValues_56 : decode cX0_compareValues 56 = .ok (.aload_n 1, 1) := by decide +kernel
theorem dX0_compareValues_57 : decode cX0_compareValues 57 = .ok (.getfield 33, 3) := by decide +kernel
theorem dX0_compareValues_60 : decode cX0_compareValues 60 = .ok (.getfield 37, 3) := by decide +kernel
theorem dX0_compareValues_63 : decode cX0_compareValues 63 = .ok (.i2l, 1) := by decide +kernel
theorem dX0_compareValues_64 : decode cX0_compareValues 64 = .ok (.aload_n 2, 1) := by decide +kernel
theorem dX0_compareValues_65 : decode cX0_compareValues 65 = .ok (.getfield 33, 3) := by decide +kernel
theorem dX0_compareValues_68 : decode cX0_compareValues 68 = .ok (.getfield 37, 3) := by decide +kernel
theorem dX0_compareValues_71 : decode cX0_compareValues 71 = .ok (.i2l, 1) := by decide +kernel
theorem dX0_compareValues_72 : decode cX0_compareValues 72 = .ok (.invokestatic 29, 3) := by decide +kernel
theorem dX0_compareValues_75 : decode cX0_compareValues 75 = .ok (.istore 4, 2) := by decide +kernel
theorem dX0_compareValues_77 : decode cX0_compareValues 77 = .ok (.iload 4, 2) := by decide +kernel
theorem dX0_compareValues_79 : decode cX0_compareValues 79 = .ok (.ifCond .eq 6, 3) := by decide +kernel
theorem dX0_compareValues_82 : decode cX0_compareValues 82 = .ok (.iload 4, 2) := by decide +kernel
theorem dX0_compareValues_84 : decode cX0_compareValues 84 = .ok (.ireturn, 1) := by decide +kernel
theorem dX0_compareValues_85 : decode cX0_compareValues 85 = .ok (.aload_n 1, 1) := by decide +kernel
theorem dX0_compareValues_86 : decode cX0_compareValues 86 = .ok (.getfield 17, 3) := by decide +kernel
theorem dX0_compareValues_89 : decode cX0_compareValues 89 = .ok (.getfield 40, 3) := by decide +kernel
theorem dX0_compareValues_92 : decode cX0_compareValues 92 = .ok (.ifCond .eq 19, 3) := by decide +kernel
theorem dX0_compareValues_95 : decode cX0_compareValues 95 = .ok (.aload_n 1, 1) := by decide +kernel
theorem dX0_compareValues_96 : decode cX0_compareValues 96 = .ok (.getfield 44, 3) := by decide +kernel
theorem dX0_compareValues_99 : decode cX0_compareValues 99 = .ok (.i2l, 1) := by decide +kernel
theorem dX0_compareValues_100 : decode cX0_compareValues 100 = .ok (.aload_n 2, 1) := by decide +kernel
theorem dX0_compareValues_101 : decode cX0_compareValues 101 = .ok (.getfield 44, 3) := by decide +kernel
theorem dX0_compareValues_104 : decode cX0_compareValues 104 = .ok (.i2l, 1) := by decide +kernel
theorem dX0_compareValues_105 : decode cX0_compareValues 105 = .ok (.invokestatic 29, 3) := by decide +kernel
theorem dX0_compareValues_108 : decode cX0_compareValues 108 = .ok (.goto 9, 3) := by decide +kernel
theorem dX0_compareValues_111 : decode cX0_compareValues 111 = .ok (.aload_n 0, 1) := by decide +kernel
theorem dX0_compareValues_112 : decode cX0_compareValues 112 = .ok (.aload_n 1, 1) := by decide +kernel
theorem dX0_compareValues_113 : decode cX0_compareValues 113 = .ok (.aload_n 2, 1) := by decide +kernel
theorem dX0_compareValues_114 : decode cX0_compareValues 114 = .ok (.invokevirtual 47, 3) := by decide +kernel
theorem dX0_compareValues_117 : decode cX0_compareValues 117 = .ok (.ireturn, 1) := by decide +kernel
def F_X0_compareValues_17 (d : Nat) (v2 : Option Nm) (s0 : Int32) (h : MH) (u : Nat) (Q : Int32 → MH → Prop) : Prop :=
  nl v2 (
    F_X0_nothingFirst d s0 0 h 0 fun x1 h =>
    Q x1 h) (
    F_X0_nothingFirst d s0 1 h 0 fun x2 h =>
    Q x2 h)
set_option maxRecDepth 20000 in
theorem E_X0_compareValues_17 {d : Nat} {v2 : Option Nm} {s0 : Int32} {h : MH} {u : Nat} {Q : Int32 → MH → Prop} (H : F_X0_compareValues_17 d v2 s0 h u Q) : T u_X0_compareValues (d + 2) 17 [none, none, some (jR v2), none, none] [jI s0] h u (qI Q) := by
  unfold F_X0_compareValues_17 at H
  refine T_aload_n (pc := 17) dX0_compareValues_17 rfl rfl ?_
  refine T_ifnull (pc := 18) (tgt := 25) dX0_compareValues_18 (by decide) (fun ho => ?_) (fun n ho => ?_)
  · replace H := nl_n ho H
    refine T_iconst (pc := 25) (v := 0) dX0_compareValues_25 (by decide) ?_
    refine T_invS (pc := 26) (av := [jI s0, jI 0]) (rest := []) dX0_compareValues_26 mf_X0_nothingFirst c_4_27 c_4_28 rfl (Nat.le_of_ble_eq_true rfl) rfl (iI_k (iI_m0 (fun x1 h H => ?_) (J_X0_nothingFirst (d := d) H)))
    exact T_ireturn (pc := 29) rfl rfl dX0_compareValues_29 H
  · replace H := nl_s ho H
    refine T_iconst (pc := 21) (v := 1) dX0_compareValues_21 (by decide) ?_
    refine T_goto (pc := 22) (tgt := 26) dX0_compareValues_22 (by decide) ?_
    refine T_invS (pc := 26) (av := [jI s0, jI 1]) (rest := []) dX0_compareValues_26 mf_X0_nothingFirst c_4_27 c_4_28 rfl (Nat.le_of_ble_eq_true rfl) rfl (iI_k (iI_m0 (fun x2 h H => ?_) (J_X0_nothingFirst (d := d) H)))
    exact T_ireturn (pc := 29) rfl rfl dX0_compareValues_29 H
def F_X0_compareValues_8 (d : Nat) (v1 : Option Nm) (v2 : Option Nm) (h : MH) (u : Nat) (Q : Int32 → MH → Prop) : Prop :=
  nl v1 (
    F_X0_compareValues_17 d v2 0 h u Q) (
    F_X0_compareValues_17 d v2 1 h u Q)
set_option maxRecDepth 20000 in
theorem E_X0_compareValues_8 {d : Nat} {v1 : Option Nm} {v2 : Option Nm} {h : MH} {u : Nat} {Q : Int32 → MH → Prop} (H : F_X0_compareValues_8 d v1 v2 h u Q) : T u_X0_compareValues (d + 2) 8 [none, some (jR v1), some (jR v2), none, none] [] h u (qI Q) := by
  unfold F_X0_compareValues_8 at H
  refine T_aload_n (pc := 8) dX0_compareValues_8 rfl rfl ?_
  refine T_ifnull (pc := 9) (tgt := 16) dX0_compareValues_9 (by decide) (fun ho => ?_) (fun n ho => ?_)
  · replace H := nl_n ho H
    refine T_iconst (pc := 16) (v := 0) dX0_compareValues_16 (by decide) ?_
    exact T.forget (E_X0_compareValues_17 H) ⟨rfl, trivial⟩
  · replace H := nl_s ho H
    refine T_iconst (pc := 12) (v := 1) dX0_compareValues_12 (by decide) ?_
    refine T_goto (pc := 13) (tgt := 17) dX0_compareValues_13 (by decide) ?_
    exact T.forget (E_X0_compareValues_17 H) ⟨rfl, trivial⟩
def F_X0_compareValues (d : Nat) (v0 : Option Nm) (v1 : Option Nm) (v2 : Option Nm) (h : MH) (u : Nat) (Q : Int32 → MH → Prop) : Prop :=
  nl v1 (
    F_X0_compareValues_8 d v1 v2 h u Q) (
    nl v2 (
      F_X0_compareValues_8 d v1 v2 h u Q) (
      gR h v1 9 1 fun x1 =>
      gI h x1 3 0 fun x2 =>
      gR h v2 9 1 fun x3 =>
      gI h x3 3 0 fun x4 =>
      F_X0_lesserFirst (d + 1) (x2.toInt64) (x4.toInt64) h 0 fun x5 h =>
      if x5 = 0 then
        gR h v1 9 2 fun x6 =>
        gI h x6 2 0 fun x7 =>
        gR h v2 9 2 fun x8 =>
        gI h x8 2 0 fun x9 =>
        F_X0_lesserFirst (d + 1) (x7.toInt64) (x9.toInt64) h 0 fun x10 h =>
        if x10 = 0 then
          gR h v1 9 1 fun x11 =>
          gI h x11 3 1 fun x12 =>
          if x12 = 0 then
            rc h v0 0 ∧ iI (d + 1) u_X0_compareParts [jR v0, jR v1, jR v2] h u fun x13 h u =>
            Q x13 h
          else
            gI h v1 9 3 fun x14 =>
            gI h v2 9 3 fun x15 =>
            F_X0_lesserFirst (d + 1) (x14.toInt64) (x15.toInt64) h 0 fun x16 h =>
            Q x16 h
        else
          Q x10 h
      else
        Q x5 h))
set_option maxRecDepth 20000 in
theorem E_X0_compareValues {d : Nat} {v0 : Option Nm} {v1 : Option Nm} {v2 : Option Nm} {h : MH} {u : Nat} {Q : Int32 → MH → Prop} (H : F_X0_compareValues d v0 v1 v2 h u Q) : T u_X0_compareValues (d + 2) 0 [some (jR v0), some (jR v1), some (jR v2), none, none] [] h u (qI Q) := by
  unfold F_X0_compareValues at H
  refine T_aload_n (pc := 0) dX0_compareValues_0 rfl rfl ?_
  refine T_ifnull (pc := 1) (tgt := 8) dX0_compareValues_1 (by decide) (fun ho => ?_) (fun n ho => ?_)
  · replace H := nl_n ho H
    exact T.forget (E_X0_compareValues_8 H) ⟨rfl, rfl, trivial⟩
  · replace H := nl_s ho H
    refine T_aload_n (pc := 4) dX0_compareValues_4 rfl rfl ?_
    refine T_ifnonnull (pc := 5) (tgt := 30) dX0_compareValues_5 (by decide) (fun ho => ?_) (fun n ho => ?_)
    · replace H := nl_n ho H
      exact T.forget (E_X0_compareValues_8 H) ⟨rfl, rfl, trivial⟩
    · replace H := nl_s ho H
      refine T_aload_n (pc := 30) dX0_compareValues_30 rfl rfl ?_
      refine T_gR (pc := 31) fa_X0_17 dX0_compareValues_31 (gR_mono (fun x1 H => ?_) H)
      refine T_gI (pc := 34) fa_X0_23 dX0_compareValues_34 (gI_mono (fun x2 H => ?_) H)
      refine T_i2l (pc := 37) dX0_compareValues_37 ?_
      refine T_aload_n (pc := 38) dX0_compareValues_38 rfl rfl ?_
      refine T_gR (pc := 39) fa_X0_17 dX0_compareValues_39 (gR_mono (fun x3 H => ?_) H)
      refine T_gI (pc := 42) fa_X0_23 dX0_compareValues_42 (gI_mono (fun x4 H => ?_) H)
      refine T_i2l (pc := 45) dX0_compareValues_45 ?_
      refine T_invS (pc := 46) (av := [jL (x2.toInt64), jL (x4.toInt64)]) (rest := []) dX0_compareValues_46 mf_X0_lesserFirst c_4_31 c_4_32 rfl (Nat.le_of_ble_eq_true rfl) rfl (iI_k (iI_m0 (fun x5 h H => ?_) (J_X0_lesserFirst (d := (d + 1)) H)))
      refine T_istore_n (pc := 49) (ls2 := [some (jR v0), some (jR v1), some (jR v2), some (jI x5), none]) dX0_compareValues_49 rfl (Nat.le_of_ble_eq_true rfl) rfl ?_
      refine T_iload_n (pc := 50) dX0_compareValues_50 rfl rfl ?_
      refine T_if_eq (pc := 51) (tgt := 56) dX0_compareValues_51 (by decide) (fun hc => ?_) (fun hc => ?_)
      · rw [if_pos hc] at H
        refine T_aload_n (pc := 56) dX0_compareValues_56 rfl rfl ?_
        refine T_gR (pc := 57) fa_X0_33 dX0_compareValues_57 (gR_mono (fun x6 H => ?_) H)
        refine T_gI (pc := 60) fa_X0_37 dX0_compareValues_60 (gI_mono (fun x7 H => ?_) H)
        refine T_i2l (pc := 63) dX0_compareValues_63 ?_
        refine T_aload_n (pc := 64) dX0_compareValues_64 rfl rfl ?_
        refine T_gR (pc := 65) fa_X0_33 dX0_compareValues_65 (gR_mono (fun x8 H => ?_) H)
        refine T_gI (pc := 68) fa_X0_37 dX0_compareValues_68 (gI_mono (fun x9 H => ?_) H)
        refine T_i2l (pc := 71) dX0_compareValues_71 ?_
        refine T_invS (pc := 72) (av := [jL (x7.toInt64), jL (x9.toInt64)]) (rest := []) dX0_compareValues_72 mf_X0_lesserFirst c_4_31 c_4_32 rfl (Nat.le_of_ble_eq_true rfl) rfl (iI_k (iI_m0 (fun x10 h H => ?_) (J_X0_lesserFirst (d := (d + 1)) H)))
        refine T_istore (pc := 75) (ls2 := [some (jR v0), some (jR v1), some (jR v2), some (jI x5), some (jI x10)]) dX0_compareValues_75 (Nat.le_of_ble_eq_true rfl) rfl ?_
        refine T_iload (pc := 77) dX0_compareValues_77 rfl ?_
        refine T_if_eq (pc := 79) (tgt := 85) dX0_compareValues_79 (by decide) (fun hc => ?_) (fun hc => ?_)
        · rw [if_pos hc] at H
          refine T_aload_n (pc := 85) dX0_compareValues_85 rfl rfl ?_
          refine T_gR (pc := 86) fa_X0_17 dX0_compareValues_86 (gR_mono (fun x11 H => ?_) H)
          refine T_gI (pc := 89) fa_X0_40 dX0_compareValues_89 (gI_mono (fun x12 H => ?_) H)
          refine T_if_eq (pc := 92) (tgt := 111) dX0_compareValues_92 (by decide) (fun hc => ?_) (fun hc => ?_)
          · rw [if_pos hc] at H
            refine T_aload_n (pc := 111) dX0_compareValues_111 rfl rfl ?_
            refine T_aload_n (pc := 112) dX0_compareValues_112 rfl rfl ?_
            refine T_aload_n (pc := 113) dX0_compareValues_113 rfl rfl ?_
            obtain ⟨H0, H⟩ := H
            refine T_iV (pc := 114) (ci := 0) (av := [jR v1, jR v2]) (rest := []) (o := v0) dX0_compareValues_114 mf_X0_compareParts c_4_34 c_4_36 pr_X0_compareParts rfl rfl (Nat.le_of_ble_eq_true rfl) rfl H0 (iI_k (iI_mono (fun x13 h u H => ?_) H))
            exact T_ireturn (pc := 117) rfl rfl dX0_compareValues_117 H
          · rw [if_neg hc] at H
            refine T_aload_n (pc := 95) dX0_compareValues_95 rfl rfl ?_
            refine T_gI (pc := 96) fa_X0_44 dX0_compareValues_96 (gI_mono (fun x14 H => ?_) H)
            refine T_i2l (pc := 99) dX0_compareValues_99 ?_
            refine T_aload_n (pc := 100) dX0_compareValues_100 rfl rfl ?_
            refine T_gI (pc := 101) fa_X0_44 dX0_compareValues_101 (gI_mono (fun x15 H => ?_) H)
            refine T_i2l (pc := 104) dX0_compareValues_104 ?_
            refine T_invS (pc := 105) (av := [jL (x14.toInt64), jL (x15.toInt64)]) (rest := []) dX0_compareValues_105 mf_X0_lesserFirst c_4_31 c_4_32 rfl (Nat.le_of_ble_eq_true rfl) rfl (iI_k (iI_m0 (fun x16 h H => ?_) (J_X0_lesserFirst (d := (d + 1)) H)))
            refine T_goto (pc := 108) (tgt := 117) dX0_compareValues_108 (by decide) ?_
            exact T_ireturn (pc := 117) rfl rfl dX0_compareValues_117 H
        · rw [if_neg hc] at H
          refine T_iload (pc := 82) dX0_compareValues_82 rfl ?_
          exact T_ireturn (pc := 84) rfl rfl dX0_compareValues_84 H
      · rw [if_neg hc] at H
        refine T_iload_n (pc := 54) dX0_compareValues_54 rfl rfl ?_
        exact T_ireturn (pc := 55) rfl rfl dX0_compareValues_55 H
theorem I_X0_compareValues {d : Nat} {v0 : Option Nm} {v1 : Option Nm} {v2 : Option Nm} {h : MH} {u : Nat} {K : Int32 → MH → Nat → Prop} (u1 : Nat) (hu : u1 ≤ u) (H : F_X0_compareValues d v0 v1 v2 h u1 (fun x h2 => K x h2 (u - u1))) : iI (d + 2) u_X0_compareValues [jR v0, jR v1, jR v2] h u K := inv.of u1 hu (Ct.of (by decide +kernel) rfl (Nat.le_of_ble_eq_true rfl) rfl (E_X0_compareValues H))
theorem dX4_hashNumber_0 : decode cX4_hashNumber 0 = .ok (.iload_n 0, 1) := by decide +kernel
theorem dX4_hashNumber_1 : decode cX4_hashNumber 1 = .ok (.ifCond .ne 19, 3) := by decide +kernel
theorem dX4_hashNumber_4 : decode cX4_hashNumber 4 = .ok (.lload_n 1, 1) := by decide +kernel
theorem dX4_hashNumber_5 : decode cX4_hashNumber 5 = .ok (.lconst 0, 1) := by decide +kernel
theorem dX4_hashNumber_6 : decode cX4_hashNumber 6 = .ok (.lcmp, 1) := by decide +kernel
theorem dX4_hashNumber_7 : decode cX4_hashNumber 7 = .ok (.ifCond .eq 9, 3) := by decide +kernel
theorem dX4_hashNumber_10 : decode cX4_hashNumber 10 = .ok (.sipush 1231, 3) := by decide +kernel
theorem dX4_hashNumber_13 : decode cX4_hashNumber 13 = .ok (.goto 6, 3) := by decide +kernel
theorem dX4_hashNumber_16 : decode cX4_hashNumber 16 = .ok (.sipush 1237, 3) := by decide +kernel
theorem dX4_hashNumber_19 : decode cX4_hashNumber 19 = .ok (.ireturn, 1) := by decide +kernel
theorem dX4_hashNumber_20 : decode cX4_hashNumber 20 = .ok (.iload_n 0, 1) := by decide +kernel
theorem dX4_hashNumber_21 : decode cX4_hashNumber 21 = .ok (.iconst 5, 1) := by decide +kernel
theorem dX4_hashNumber_22 : decode cX4_hashNumber 22 = .ok (.if_icmp .eq 9, 3) := by decide +kernel
theorem dX4_hashNumber_25 : decode cX4_hashNumber 25 = .ok (.iload_n 0, 1) := by decide +kernel
theorem dX4_hashNumber_26 : decode cX4_hashNumber 26 = .ok (.bipush 7, 2) := by decide +kernel
theorem dX4_hashNumber_28 : decode cX4_hashNumber 28 = .ok (.if_icmp .ne 11, 3) := by decide +kernel
theorem dX4_hashNumber_31 : decode cX4_hashNumber 31 = .ok (.lload_n 1, 1) := by decide +kernel
theorem dX4_hashNumber_32 : decode cX4_hashNumber 32 = .ok (.lload_n 1, 1) := by decide +kernel
theorem dX4_hashNumber_33 : decode cX4_hashNumber 33 = .ok (.bipush 32, 2) := by decide +kernel
theorem dX4_hashNumber_35 : decode cX4_hashNumber 35 = .ok (.lushr, 1) := by decide +kernel
theorem dX4_hashNumber_36 : decode cX4_hashNumber 36 = .ok (.lxor, 1) := by decide +kernel
theorem dX4_hashNumber_37 : decode cX4_hashNumber 37 = .ok (.l2i, 1) := by decide +kernel
theorem dX4_hashNumber_38 : decode cX4_hashNumber 38 = .ok (.ireturn, 1) := by decide +kernel
theorem dX4_hashNumber_39 : decode cX4_hashNumber 39 = .ok (.lload_n 1, 1) := by decide +kernel
theorem dX4_hashNumber_40 : decode cX4_hashNumber 40 = .ok (.l2i, 1) := by decide +kernel
theorem dX4_hashNumber_41 : decode cX4_hashNumber 41 = .ok (.ireturn, 1) := by decide +kernel
def F_X4_hashNumber (d : Nat) (v0 : Int32) (v1 : Int64) (h : MH) (u : Nat) (Q : Int32 → MH → Prop) : Prop :=
  if v0 = 0 then
    if (lg_cmp v1 0) = 0 then
      Q 1237 h
    else
      Q 1231 h
  else
    if v0 = 5 then
      Q ((v1 ^^^ ((v1.toUInt64 >>> ((32 : Int32).toInt64.toUInt64 &&& Int64.toUInt64 63)).toInt64)).toInt32) h
    else
      if v0 = 7 then
        Q ((v1 ^^^ ((v1.toUInt64 >>> ((32 : Int32).toInt64.toUInt64 &&& Int64.toUInt64 63)).toInt64)).toInt32) h
      else
        Q (v1.toInt32) h
set_option maxRecDepth 20000 in
theorem E_X4_hashNumber {d : Nat} {v0 : Int32} {v1 : Int64} {h : MH} {u : Nat} {Q : Int32 → MH → Prop} (H : F_X4_hashNumber d v0 v1 h u Q) : T u_X4_hashNumber d 0 [some (jI v0), some (jL v1), none] [] h u (qI Q) := by
  unfold F_X4_hashNumber at H
  refine T_iload_n (pc := 0) dX4_hashNumber_0 rfl rfl ?_
  refine T_if_ne (pc := 1) (tgt := 20) dX4_hashNumber_1 (by decide) (fun hc => ?_) (fun hc => ?_)
  · rw [if_neg hc] at H
    refine T_iload_n (pc := 20) dX4_hashNumber_20 rfl rfl ?_
    refine T_iconst (pc := 21) (v := 5) dX4_hashNumber_21 (by decide) ?_
    refine T_icmp_eq (pc := 22) (tgt := 31) dX4_hashNumber_22 (by decide) (fun hc => ?_) (fun hc => ?_)
    · rw [if_pos hc] at H
      refine T_lload_n (pc := 31) dX4_hashNumber_31 rfl rfl ?_
      refine T_lload_n (pc := 32) dX4_hashNumber_32 rfl rfl ?_
      refine T_bipush (pc := 33) (v := 32) dX4_hashNumber_33 (by decide) ?_
      refine T_lushr (pc := 35) dX4_hashNumber_35 ?_
      refine T_lxor (pc := 36) dX4_hashNumber_36 ?_
      refine T_l2i (pc := 37) dX4_hashNumber_37 ?_
      exact T_ireturn (pc := 38) rfl rfl dX4_hashNumber_38 H
    · rw [if_neg hc] at H
      refine T_iload_n (pc := 25) dX4_hashNumber_25 rfl rfl ?_
      refine T_bipush (pc := 26) (v := 7) dX4_hashNumber_26 (by decide) ?_
      refine T_icmp_ne (pc := 28) (tgt := 39) dX4_hashNumber_28 (by decide) (fun hc => ?_) (fun hc => ?_)
      · rw [if_neg hc] at H
        refine T_lload_n (pc := 39) dX4_hashNumber_39 rfl rfl ?_
        refine T_l2i (pc := 40) dX4_hashNumber_40 ?_
        exact T_ireturn (pc := 41) rfl rfl dX4_hashNumber_41 H
      · rw [if_pos hc] at H
        refine T_lload_n (pc := 31) dX4_hashNumber_31 rfl rfl ?_
        refine T_lload_n (pc := 32) dX4_hashNumber_32 rfl rfl ?_
        refine T_bipush (pc := 33) (v := 32) dX4_hashNumber_33 (by decide) ?_
        refine T_lushr (pc := 35) dX4_hashNumber_35 ?_
        refine T_lxor (pc := 36) dX4_hashNumber_36 ?_
        refine T_l2i (pc := 37) dX4_hashNumber_37 ?_
        exact T_ireturn (pc := 38) rfl rfl dX4_hashNumber_38 H
  · rw [if_pos hc] at H
    refine T_lload_n (pc := 4) dX4_hashNumber_4 rfl rfl ?_
    refine T_lconst (pc := 5) (v := 0) dX4_hashNumber_5 (by decide) ?_
    refine T_lcmp (pc := 6) dX4_hashNumber_6 ?_
    refine T_if_eq (pc := 7) (tgt := 16) dX4_hashNumber_7 (by decide) (fun hc => ?_) (fun hc => ?_)
    · rw [if_pos hc] at H
      refine T_sipush (pc := 16) (v := 1237) dX4_hashNumber_16 (by decide) ?_
      exact T_ireturn (pc := 19) rfl rfl dX4_hashNumber_19 H
    · rw [if_neg hc] at H
      refine T_sipush (pc := 10) (v := 1231) dX4_hashNumber_10 (by decide) ?_
      refine T_goto (pc := 13) (tgt := 19) dX4_hashNumber_13 (by decide) ?_
      exact T_ireturn (pc := 19) rfl rfl dX4_hashNumber_19 H
theorem I_X4_hashNumber {d : Nat} {v0 : Int32} {v1 : Int64} {h : MH} {u : Nat} {K : Int32 → MH → Nat → Prop} (u1 : Nat) (hu : u1 ≤ u) (H : F_X4_hashNumber d v0 v1 h u1 (fun x h2 => K x h2 (u - u1))) : iI d u_X4_hashNumber [jI v0, jL v1] h u K := inv.of u1 hu (Ct.of (by decide +kernel) rfl (Nat.le_of_ble_eq_true rfl) rfl (E_X4_hashNumber H))
theorem J_X4_hashNumber {d : Nat} {v0 : Int32} {v1 : Int64} {h : MH} {u : Nat} {K : Int32 → MH → Prop} (H : F_X4_hashNumber d v0 v1 h 0 K) : iI d u_X4_hashNumber [jI v0, jL v1] h u (fun x h2 u2 => K x h2 ∧ u2 = u) := jiI (by decide +kernel) rfl (Nat.le_of_ble_eq_true rfl) rfl (E_X4_hashNumber H)
theorem dX0_hashAny_0 : decode cX0_hashAny 0 = .ok (.iload_n 1, 1) := by decide +kernel
theorem dX0_hashAny_1 : decode cX0_hashAny 1 = .ok (.bipush 8, 2) := by decide +kernel
theorem dX0_hashAny_3 : decode cX0_hashAny 3 = .ok (.if_icmp .ne 16, 3) := by decide +kernel
theorem dX0_hashAny_6 : decode cX0_hashAny 6 = .ok (.aload_n 0, 1) := by decide +kernel
theorem dX0_hashAny_7 : decode cX0_hashAny 7 = .ok (.aload_n 0, 1) := by decide +kernel
theorem dX0_hashAny_8 : decode cX0_hashAny 8 = .ok (.getfield 7, 3) := by decide +kernel
theorem dX0_hashAny_11 : decode cX0_hashAny 11 = .ok (.lload_n 2, 1) := by decide +kernel
theorem dX0_hashAny_12 : decode cX0_hashAny 12 = .ok (.invokevirtual 69, 3) := by decide +kernel
theorem dX0_hashAny_15 : decode cX0_hashAny 15 = .ok (.invokevirtual 98, 3) := by decide +kernel
theorem dX0_hashAny_18 : decode cX0_hashAny 18 = .ok (.ireturn, 1) := by decide +kernel
theorem dX0_hashAny_19 : decode cX0_hashAny 19 = .ok (.iload_n 1, 1) := by decide +kernel
theorem dX0_hashAny_20 : decode cX0_hashAny 20 = .ok (.bipush 9, 2) := by decide +kernel
theorem dX0_hashAny_22 : decode cX0_hashAny 22 = .ok (.if_icmp .ne 16, 3) := by decide +kernel
theorem dX0_hashAny_25 : decode cX0_hashAny 25 = .ok (.aload_n 0, 1) := by decide +kernel
theorem dX0_hashAny_26 : decode cX0_hashAny 26 = .ok (.aload_n 0, 1) := by decide +kernel
theorem dX0_hashAny_27 : decode cX0_hashAny 27 = .ok (.getfield 7, 3) := by decide +kernel
theorem dX0_hashAny_30 : decode cX0_hashAny 30 = .ok (.lload_n 2, 1) := by decide +kernel
theorem dX0_hashAny_31 : decode cX0_hashAny 31 = .ok (.invokevirtual 78, 3) := by decide +kernel
theorem dX0_hashAny_34 : decode cX0_hashAny 34 = .ok (.invokevirtual 102, 3) := by decide +kernel
theorem dX0_hashAny_37 : decode cX0_hashAny 37 = .ok (.ireturn, 1) := by decide +kernel
theorem dX0_hashAny_38 : decode cX0_hashAny 38 = .ok (.iload_n 1, 1) := by decide +kernel
theorem dX0_hashAny_39 : decode cX0_hashAny 39 = .ok (.lload_n 2, 1) := by decide +kernel
theorem dX0_hashAny_40 : decode cX0_hashAny 40 = .ok (.invokestatic 106, 3) := by decide +kernel
theorem dX0_hashAny_43 : decode cX0_hashAny 43 = .ok (.ireturn, 1) := by decide +kernel
def F_X0_hashAny (d : Nat) (v0 : Option Nm) (v1 : Int32) (v2 : Int64) (h : MH) (u : Nat) (Q : Int32 → MH → Prop) : Prop :=
  if v1 = 8 then
    gR h v0 0 0 fun x5 =>
    rc h x5 6 ∧ F_X7_findValue d x5 v2 h 0 fun x6 h =>
    rc h v0 0 ∧ iI d u_X0_hashValue [jR v0, jR x6] h u fun x7 h u =>
    Q x7 h
  else
    if v1 = 9 then
      gR h v0 0 0 fun x2 =>
      rc h x2 6 ∧ F_X7_findRow d x2 v2 h 0 fun x3 h =>
      rc h v0 0 ∧ iI d u_X0_hashRow [jR v0, jR x3] h u fun x4 h u =>
      Q x4 h
    else
      F_X4_hashNumber d v1 v2 h 0 fun x1 h =>
      Q x1 h
set_option maxRecDepth 20000 in
theorem E_X0_hashAny {d : Nat} {v0 : Option Nm} {v1 : Int32} {v2 : Int64} {h : MH} {u : Nat} {Q : Int32 → MH → Prop} (H : F_X0_hashAny d v0 v1 v2 h u Q) : T u_X0_hashAny (d + 1) 0 [some (jR v0), some (jI v1), some (jL v2), none] [] h u (qI Q) := by
  unfold F_X0_hashAny at H
  refine T_iload_n (pc := 0) dX0_hashAny_0 rfl rfl ?_
  refine T_bipush (pc := 1) (v := 8) dX0_hashAny_1 (by decide) ?_
  refine T_icmp_ne (pc := 3) (tgt := 19) dX0_hashAny_3 (by decide) (fun hc => ?_) (fun hc => ?_)
  · rw [if_neg hc] at H
    refine T_iload_n (pc := 19) dX0_hashAny_19 rfl rfl ?_
    refine T_bipush (pc := 20) (v := 9) dX0_hashAny_20 (by decide) ?_
    refine T_icmp_ne (pc := 22) (tgt := 38) dX0_hashAny_22 (by decide) (fun hc => ?_) (fun hc => ?_)
    · rw [if_neg hc] at H
      refine T_iload_n (pc := 38) dX0_hashAny_38 rfl rfl ?_
      refine T_lload_n (pc := 39) dX0_hashAny_39 rfl rfl ?_
      refine T_invS (pc := 40) (av := [jI v1, jL v2]) (rest := []) dX0_hashAny_40 mf_X4_hashNumber c_4_74 c_4_75 rfl (Nat.le_of_ble_eq_true rfl) rfl (iI_k (iI_m0 (fun x1 h H => ?_) (J_X4_hashNumber (d := d) H)))
      exact T_ireturn (pc := 43) rfl rfl dX0_hashAny_43 H
    · rw [if_pos hc] at H
      refine T_aload_n (pc := 25) dX0_hashAny_25 rfl rfl ?_
      refine T_aload_n (pc := 26) dX0_hashAny_26 rfl rfl ?_
      refine T_gR (pc := 27) fa_X0_7 dX0_hashAny_27 (gR_mono (fun x2 H => ?_) H)
      refine T_lload_n (pc := 30) dX0_hashAny_30 rfl rfl ?_
      obtain ⟨H0, H⟩ := H
      refine T_iV (pc := 31) (ci := 6) (av := [jL v2]) (rest := [jR v0]) (o := x2) dX0_hashAny_31 mf_X7_findRow c_4_44 c_2_2 c_2_3 rfl rfl (Nat.le_of_ble_eq_true rfl) rfl H0 (iR_k (iR_m0 (fun x3 h H => ?_) (J_X7_findRow (d := d) H)))
      obtain ⟨H0, H⟩ := H
      refine T_iV (pc := 34) (ci := 0) (av := [jR x3]) (rest := []) (o := v0) dX0_hashAny_34 mf_X0_hashRow c_4_70 c_4_72 pr_X0_hashRow rfl rfl (Nat.le_of_ble_eq_true rfl) rfl H0 (iI_k (iI_mono (fun x4 h u H => ?_) H))
      exact T_ireturn (pc := 37) rfl rfl dX0_hashAny_37 H
  · rw [if_pos hc] at H
    refine T_aload_n (pc := 6) dX0_hashAny_6 rfl rfl ?_
    refine T_aload_n (pc := 7) dX0_hashAny_7 rfl rfl ?_
    refine T_gR (pc := 8) fa_X0_7 dX0_hashAny_8 (gR_mono (fun x5 H => ?_) H)
    refine T_lload_n (pc := 11) dX0_hashAny_11 rfl rfl ?_
    obtain ⟨H0, H⟩ := H
    refine T_iV (pc := 12) (ci := 6) (av := [jL v2]) (rest := [jR v0]) (o := x5) dX0_hashAny_12 mf_X7_findValue c_4_42 c_2_64 c_2_65 rfl rfl (Nat.le_of_ble_eq_true rfl) rfl H0 (iR_k (iR_m0 (fun x6 h H => ?_) (J_X7_findValue (d := d) H)))
    obtain ⟨H0, H⟩ := H
    refine T_iV (pc := 15) (ci := 0) (av := [jR x6]) (rest := []) (o := v0) dX0_hashAny_15 mf_X0_hashValue c_4_69 c_4_62 c_4_63 rfl rfl (Nat.le_of_ble_eq_true rfl) rfl H0 (iI_k (iI_mono (fun x7 h u H => ?_) H))
    exact T_ireturn (pc := 18) rfl rfl dX0_hashAny_18 H
theorem I_X0_hashAny {d : Nat} {v0 : Option Nm} {v1 : Int32} {v2 : Int64} {h : MH} {u : Nat} {K : Int32 → MH → Nat → Prop} (u1 : Nat) (hu : u1 ≤ u) (H : F_X0_hashAny d v0 v1 v2 h u1 (fun x h2 => K x h2 (u - u1))) : iI (d + 1) u_X0_hashAny [jR v0, jI v1, jL v2] h u K := inv.of u1 hu (Ct.of (by decide +kernel) rfl (Nat.le_of_ble_eq_true rfl) rfl (E_X0_hashAny H))
theorem dX0_hashRow_0 : decode cX0_hashRow 0 = .ok (.aload_n 1, 1) := by decide +kernel
theorem dX0_hashRow_1 : decode cX0_hashRow 1 = .ok (.ifnonnull 5, 3) := by decide +kernel
theorem dX0_hashRow_4 : decode cX0_hashRow 4 = .ok (.iconst 0, 1) := by decide +kernel
theorem dX0_hashRow_5 : decode cX0_hashRow 5 = .ok (.ireturn, 1) := by decide +kernel
theorem dX0_hashRow_6 : decode cX0_hashRow 6 = .ok (.iconst 1, 1) := by decide +kernel
theorem dX0_hashRow_7 : decode cX0_hashRow 7 = .ok (.istore_n 2, 1) := by decide +kernel
theorem dX0_hashRow_8 : decode cX0_hashRow 8 = .ok (.iconst 0, 1) := by decide +kernel
theorem dX0_hashRow_9 : decode cX0_hashRow 9 = .ok (.istore_n 3, 1) := by decide +kernel
theorem dX0_hashRow_10 : decode cX0_hashRow 10 = .ok (.iload_n 3, 1) := by decide +kernel
theorem dX0_hashRow_11 : decode cX0_hashRow 11 = .ok (.aload_n 1, 1) := by decide +kernel
theorem dX0_hashRow_12 : decode cX0_hashRow 12 = .ok (.getfield 95, 3) := by decide +kernel
theorem dX0_hashRow_15 : decode cX0_hashRow 15 = .ok (.arraylength, 1) := by decide +kernel
theorem dX0_hashRow_16 : decode cX0_hashRow 16 = .ok (.if_icmp .ge 29, 3) := by decide +kernel
theorem dX0_hashRow_19 : decode cX0_hashRow 19 = .ok (.bipush 31, 2) := by decide +kernel
theorem dX0_hashRow_21 : decode cX0_hashRow 21 = .ok (.iload_n 2, 1) := by decide +kernel
theorem dX0_hashRow_22 : decode cX0_hashRow 22 = .ok (.imul, 1) := by decide +kernel
theorem dX0_hashRow_23 : decode cX0_hashRow 23 = .ok (.aload_n 0, 1) := by decide +kernel
theorem dX0_hashRow_24 : decode cX0_hashRow 24 = .ok (.aload_n 1, 1) := by decide +kernel
theorem dX0_hashRow_25 : decode cX0_hashRow 25 = .ok (.getfield 90, 3) := by decide +kernel
theorem dX0_hashRow_28 : decode cX0_hashRow 28 = .ok (.aload_n 1, 1) := by decide +kernel
theorem dX0_hashRow_29 : decode cX0_hashRow 29 = .ok (.getfield 95, 3) := by decide +kernel
theorem dX0_hashRow_32 : decode cX0_hashRow 32 = .ok (.iload_n 3, 1) := by decide +kernel
theorem dX0_hashRow_33 : decode cX0_hashRow 33 = .ok (.laload, 1) := by decide +kernel
theorem dX0_hashRow_34 : decode cX0_hashRow 34 = .ok (.invokevirtual 59, 3) := by decide +kernel
theorem dX0_hashRow_37 : decode cX0_hashRow 37 = .ok (.iadd, 1) := by decide +kernel
theorem dX0_hashRow_38 : decode cX0_hashRow 38 = .ok (.istore_n 2, 1) := by decide +kernel
theorem dX0_hashRow_39 : decode cX0_hashRow 39 = .ok (.iinc 3 1, 3) := by decide +kernel
theorem dX0_hashRow_42 : decode cX0_hashRow 42 = .ok (.goto (-32), 3) := by decide +kernel
theorem dX0_hashRow_45 : decode cX0_hashRow 45 = .ok (.iload_n 2, 1) := by decide +kernel
theorem dX0_hashRow_46 : decode cX0_hashRow 46 = .ok (.ireturn, 1) := by decide +kernel
def L_X0_hashRow_10 (d : Nat) (v0 : Option Nm) (v1 : Option Nm) (v2 : Int32) (v3 : Int32) (h : MH) (u : Nat) (Q : Int32 → MH → Prop) : Prop := T u_X0_hashRow (d + 1) 10 [some (jR v0), some (jR v1), some (jI v2), some (jI v3)] [] h u (qI Q)
def F_X0_hashRow (d : Nat) (v0 : Option Nm) (v1 : Option Nm) (h : MH) (u : Nat) (Q : Int32 → MH → Prop) : Prop :=
  nl v1 (
    Q 0 h) (
    L_X0_hashRow_10 d v0 v1 1 0 h u Q)
set_option maxRecDepth 20000 in
theorem E_X0_hashRow {d : Nat} {v0 : Option Nm} {v1 : Option Nm} {h : MH} {u : Nat} {Q : Int32 → MH → Prop} (H : F_X0_hashRow d v0 v1 h u Q) : T u_X0_hashRow (d + 1) 0 [some (jR v0), some (jR v1), none, none] [] h u (qI Q) := by
  unfold F_X0_hashRow at H
  refine T_aload_n (pc := 0) dX0_hashRow_0 rfl rfl ?_
  refine T_ifnonnull (pc := 1) (tgt := 6) dX0_hashRow_1 (by decide) (fun ho => ?_) (fun n ho => ?_)
  · replace H := nl_n ho H
    refine T_iconst (pc := 4) (v := 0) dX0_hashRow_4 (by decide) ?_
    exact T_ireturn (pc := 5) rfl rfl dX0_hashRow_5 H
  · replace H := nl_s ho H
    refine T_iconst (pc := 6) (v := 1) dX0_hashRow_6 (by decide) ?_
    refine T_istore_n (pc := 7) (ls2 := [some (jR v0), some (jR v1), some (jI 1), none]) dX0_hashRow_7 rfl (Nat.le_of_ble_eq_true rfl) rfl ?_
    refine T_iconst (pc := 8) (v := 0) dX0_hashRow_8 (by decide) ?_
    refine T_istore_n (pc := 9) (ls2 := [some (jR v0), some (jR v1), some (jI 1), some (jI 0)]) dX0_hashRow_9 rfl (Nat.le_of_ble_eq_true rfl) rfl ?_
    exact T.forget H ⟨rfl, rfl, rfl, rfl, trivial⟩
def F_X0_hashRow_10 (d : Nat) (v0 : Option Nm) (v1 : Option Nm) (v2 : Int32) (v3 : Int32) (h : MH) (u : Nat) (Q : Int32 → MH → Prop) : Prop :=
  gR h v1 4 2 fun x1 =>
  aN h x1 fun x2 =>
  if x2 ≤ v3 then
    Q v2 h
  else
    gI h v1 4 1 fun x3 =>
    gR h v1 4 2 fun x4 =>
    aL h x4 v3 fun x5 =>
    rc h v0 0 ∧ iI d u_X0_hashAny [jR v0, jI x3, jL x5] h u fun x6 h u =>
    L_X0_hashRow_10 d v0 v1 ((31 * v2) + x6) (v3 + 1) h u Q
set_option maxRecDepth 20000 in
theorem E_X0_hashRow_10 {d : Nat} {v0 : Option Nm} {v1 : Option Nm} {v2 : Int32} {v3 : Int32} {h : MH} {u : Nat} {Q : Int32 → MH → Prop} (H : F_X0_hashRow_10 d v0 v1 v2 v3 h u Q) : T u_X0_hashRow (d + 1) 10 [some (jR v0), some (jR v1), some (jI v2), some (jI v3)] [] h u (qI Q) := by
  unfold F_X0_hashRow_10 at H
  refine T_iload_n (pc := 10) dX0_hashRow_10 rfl rfl ?_
  refine T_aload_n (pc := 11) dX0_hashRow_11 rfl rfl ?_
  refine T_gR (pc := 12) fa_X0_95 dX0_hashRow_12 (gR_mono (fun x1 H => ?_) H)
  refine T_aN (pc := 15) dX0_hashRow_15 (aN_mono (fun x2 H => ?_) H)
  refine T_icmp_ge (pc := 16) (tgt := 45) dX0_hashRow_16 (by decide) (fun hc => ?_) (fun hc => ?_)
  · rw [if_pos hc] at H
    refine T_iload_n (pc := 45) dX0_hashRow_45 rfl rfl ?_
    exact T_ireturn (pc := 46) rfl rfl dX0_hashRow_46 H
  · rw [if_neg hc] at H
    refine T_bipush (pc := 19) (v := 31) dX0_hashRow_19 (by decide) ?_
    refine T_iload_n (pc := 21) dX0_hashRow_21 rfl rfl ?_
    refine T_imul (pc := 22) dX0_hashRow_22 ?_
    refine T_aload_n (pc := 23) dX0_hashRow_23 rfl rfl ?_
    refine T_aload_n (pc := 24) dX0_hashRow_24 rfl rfl ?_
    refine T_gI (pc := 25) fa_X0_90 dX0_hashRow_25 (gI_mono (fun x3 H => ?_) H)
    refine T_aload_n (pc := 28) dX0_hashRow_28 rfl rfl ?_
    refine T_gR (pc := 29) fa_X0_95 dX0_hashRow_29 (gR_mono (fun x4 H => ?_) H)
    refine T_iload_n (pc := 32) dX0_hashRow_32 rfl rfl ?_
    refine T_aL (pc := 33) dX0_hashRow_33 (aL_mono (fun x5 H => ?_) H)
    obtain ⟨H0, H⟩ := H
    refine T_iV (pc := 34) (ci := 0) (av := [jI x3, jL x5]) (rest := [jI (31 * v2)]) (o := v0) dX0_hashRow_34 mf_X0_hashAny c_4_65 c_4_67 pr_X0_hashAny rfl rfl (Nat.le_of_ble_eq_true rfl) rfl H0 (iI_k (iI_mono (fun x6 h u H => ?_) H))
    refine T_iadd (pc := 37) dX0_hashRow_37 ?_
    refine T_istore_n (pc := 38) (ls2 := [some (jR v0), some (jR v1), some (jI ((31 * v2) + x6)), some (jI v3)]) dX0_hashRow_38 rfl (Nat.le_of_ble_eq_true rfl) rfl ?_
    refine T_iinc (pc := 39) (v := v3 + 1) (ls2 := [some (jR v0), some (jR v1), some (jI ((31 * v2) + x6)), some (jI (v3 + 1))]) dX0_hashRow_39 rfl rfl (Nat.le_of_ble_eq_true rfl) rfl ?_
    refine T_goto (pc := 42) (tgt := 10) dX0_hashRow_42 (by decide) ?_
    exact T.forget H ⟨rfl, rfl, rfl, rfl, trivial⟩
theorem I_X0_hashRow {d : Nat} {v0 : Option Nm} {v1 : Option Nm} {h : MH} {u : Nat} {K : Int32 → MH → Nat → Prop} (u1 : Nat) (hu : u1 ≤ u) (H : F_X0_hashRow d v0 v1 h u1 (fun x h2 => K x h2 (u - u1))) : iI (d + 1) u_X0_hashRow [jR v0, jR v1] h u K := inv.of u1 hu (Ct.of (by decide +kernel) rfl (Nat.le_of_ble_eq_true rfl) rfl (E_X0_hashRow H))
theorem dX0_hashValue_0 : decode cX0_hashValue 0 = .ok (.aload_n 1, 1) := by decide +kernel
theorem dX0_hashValue_1 : decode cX0_hashValue 1 = .ok (.ifnonnull 5, 3) := by decide +kernel
theorem dX0_hashValue_4 : decode cX0_hashValue 4 = .ok (.iconst 0, 1) := by decide +kernel
theorem dX0_hashValue_5 : decode cX0_hashValue 5 = .ok (.ireturn, 1) := by decide +kernel
theorem dX0_hashValue_6 : decode cX0_hashValue 6 = .ok (.aload_n 1, 1) := by decide +kernel
theorem dX0_hashValue_7 : decode cX0_hashValue 7 = .ok (.getfield 17, 3) := by decide +kernel
theorem dX0_hashValue_10 : decode cX0_hashValue 10 = .ok (.getfield 40, 3) := by decide +kernel
theorem dX0_hashValue_13 : decode cX0_hashValue 13 = .ok (.ifCond .eq 19, 3) := by decide +kernel
theorem dX0_hashValue_16 : decode cX0_hashValue 16 = .ok (.bipush 7, 2) := by decide +kernel
theorem dX0_hashValue_18 : decode cX0_hashValue 18 = .ok (.aload_n 1, 1) := by decide +kernel
theorem dX0_hashValue_19 : decode cX0_hashValue 19 = .ok (.getfield 17, 3) := by decide +kernel
theorem dX0_hashValue_22 : decode cX0_hashValue 22 = .ok (.getfield 23, 3) := by decide +kernel
theorem dX0_hashValue_25 : decode cX0_hashValue 25 = .ok (.imul, 1) := by decide +kernel
theorem dX0_hashValue_26 : decode cX0_hashValue 26 = .ok (.aload_n 1, 1) := by decide +kernel
theorem dX0_hashValue_27 : decode cX0_hashValue 27 = .ok (.getfield 44, 3) := by decide +kernel
theorem dX0_hashValue_30 : decode cX0_hashValue 30 = .ok (.iadd, 1) := by decide +kernel
theorem dX0_hashValue_31 : decode cX0_hashValue 31 = .ok (.ireturn, 1) := by decide +kernel
theorem dX0_hashValue_32 : decode cX0_hashValue 32 = .ok (.aload_n 1, 1) := by decide +kernel
theorem dX0_hashValue_33 : decode cX0_hashValue 33 = .ok (.getfield 17, 3) := by decide +kernel
theorem dX0_hashValue_36 : decode cX0_hashValue 36 = .ok (.getfield 23, 3) := by decide +kernel
theorem dX0_hashValue_39 : decode cX0_hashValue 39 = .ok (.istore_n 2, 1) := by decide +kernel
theorem dX0_hashValue_40 : decode cX0_hashValue 40 = .ok (.iconst 0, 1) := by decide +kernel
theorem dX0_hashValue_41 : decode cX0_hashValue 41 = .ok (.istore_n 3, 1) := by decide +kernel
theorem dX0_hashValue_42 : decode cX0_hashValue 42 = .ok (.iload_n 3, 1) := by decide +kernel
theorem dX0_hashValue_43 : decode cX0_hashValue 43 = .ok (.aload_n 1, 1) := by decide +kernel
theorem dX0_hashValue_44 : decode cX0_hashValue 44 = .ok (.getfield 51, 3) := by decide +kernel
theorem dX0_hashValue_47 : decode cX0_hashValue 47 = .ok (.arraylength, 1) := by decide +kernel
theorem dX0_hashValue_48 : decode cX0_hashValue 48 = .ok (.if_icmp .ge 34, 3) := by decide +kernel
theorem dX0_hashValue_51 : decode cX0_hashValue 51 = .ok (.bipush 31, 2) := by decide +kernel
theorem dX0_hashValue_53 : decode cX0_hashValue 53 = .ok (.iload_n 2, 1) := by decide +kernel
theorem dX0_hashValue_54 : decode cX0_hashValue 54 = .ok (.imul, 1) := by decide +kernel
theorem dX0_hashValue_55 : decode cX0_hashValue 55 = .ok (.aload_n 0, 1) := by decide +kernel
theorem dX0_hashValue_56 : decode cX0_hashValue 56 = .ok (.aload_n 1, 1) := by decide +kernel
theorem dX0_hashValue_57 : decode cX0_hashValue 57 = .ok (.getfield 33, 3) := by decide +kernel
theorem dX0_hashValue_60 : decode cX0_hashValue 60 = .ok (.getfield 55, 3) := by decide +kernel
theorem dX0_hashValue_63 : decode cX0_hashValue 63 = .ok (.iload_n 3, 1) := by decide +kernel
theorem dX0_hashValue_64 : decode cX0_hashValue 64 = .ok (.iaload, 1) := by decide +kernel
theorem dX0_hashValue_65 : decode cX0_hashValue 65 = .ok (.aload_n 1, 1) := by decide +kernel
theorem dX0_hashValue_66 : decode cX0_hashValue 66 = .ok (.getfield 51, 3) := by decide +kernel
theorem dX0_hashValue_69 : decode cX0_hashValue 69 = .ok (.iload_n 3, 1) := by decide +kernel
theorem dX0_hashValue_70 : decode cX0_hashValue 70 = .ok (.laload, 1) := by decide +kernel
theorem dX0_hashValue_71 : decode cX0_hashValue 71 = .ok (.invokevirtual 59, 3) := by decide +kernel
theorem dX0_hashValue_74 : decode cX0_hashValue 74 = .ok (.iadd, 1) := by decide +kernel
theorem dX0_hashValue_75 : decode cX0_hashValue 75 = .ok (.istore_n 2, 1) := by decide +kernel
theorem dX0_hashValue_76 : decode cX0_hashValue 76 = .ok (.iinc 3 1, 3) := by decide +kernel
theorem dX0_hashValue_79 : decode cX0_hashValue 79 = .ok (.goto (-37), 3) := by decide +kernel
theorem dX0_hashValue_82 : decode cX0_hashValue 82 = .ok (.iload_n 2, 1) := by decide +kernel
theorem dX0_hashValue_83 : decode cX0_hashValue 83 = .ok (.ireturn, 1) := by decide +kernel
def L_X0_hashValue_42 (d : Nat) (v0 : Option Nm) (v1 : Option Nm) (v2 : Int32) (v3 : Int32) (h : MH) (u : Nat) (Q : Int32 → MH → Prop) : Prop := T u_X0_hashValue (d + 1) 42 [some (jR v0), some (jR v1), some (jI v2), some (jI v3)] [] h u (qI Q)
def F_X0_hashValue (d : Nat) (v0 : Option Nm) (v1 : Option Nm) (h : MH) (u : Nat) (Q : Int32 → MH → Prop) : Prop :=
  nl v1 (
    Q 0 h) (
    gR h v1 9 1 fun x1 =>
    gI h x1 3 1 fun x2 =>
    if x2 = 0 then
      gR h v1 9 1 fun x3 =>
      gI h x3 3 0 fun x4 =>
      L_X0_hashValue_42 d v0 v1 x4 0 h u Q
    else
      gR h v1 9 1 fun x5 =>
      gI h x5 3 0 fun x6 =>
      gI h v1 9 3 fun x7 =>
      Q ((7 * x6) + x7) h)
set_option maxRecDepth 20000 in
theorem E_X0_hashValue {d : Nat} {v0 : Option Nm} {v1 : Option Nm} {h : MH} {u : Nat} {Q : Int32 → MH → Prop} (H : F_X0_hashValue d v0 v1 h u Q) : T u_X0_hashValue (d + 1) 0 [some (jR v0), some (jR v1), none, none] [] h u (qI Q) := by
  unfold F_X0_hashValue at H
  refine T_aload_n (pc := 0) dX0_hashValue_0 rfl rfl ?_
  refine T_ifnonnull (pc := 1) (tgt := 6) dX0_hashValue_1 (by decide) (fun ho => ?_) (fun n ho => ?_)
  · replace H := nl_n ho H
    refine T_iconst (pc := 4) (v := 0) dX0_hashValue_4 (by decide) ?_
    exact T_ireturn (pc := 5) rfl rfl dX0_hashValue_5 H
  · replace H := nl_s ho H
    refine T_aload_n (pc := 6) dX0_hashValue_6 rfl rfl ?_
    refine T_gR (pc := 7) fa_X0_17 dX0_hashValue_7 (gR_mono (fun x1 H => ?_) H)
    refine T_gI (pc := 10) fa_X0_40 dX0_hashValue_10 (gI_mono (fun x2 H => ?_) H)
    refine T_if_eq (pc := 13) (tgt := 32) dX0_hashValue_13 (by decide) (fun hc => ?_) (fun hc => ?_)
    · rw [if_pos hc] at H
      refine T_aload_n (pc := 32) dX0_hashValue_32 rfl rfl ?_
      refine T_gR (pc := 33) fa_X0_17 dX0_hashValue_33 (gR_mono (fun x3 H => ?_) H)
      refine T_gI (pc := 36) fa_X0_23 dX0_hashValue_36 (gI_mono (fun x4 H => ?_) H)
      refine T_istore_n (pc := 39) (ls2 := [some (jR v0), some (jR v1), some (jI x4), none]) dX0_hashValue_39 rfl (Nat.le_of_ble_eq_true rfl) rfl ?_
      refine T_iconst (pc := 40) (v := 0) dX0_hashValue_40 (by decide) ?_
      refine T_istore_n (pc := 41) (ls2 := [some (jR v0), some (jR v1), some (jI x4), some (jI 0)]) dX0_hashValue_41 rfl (Nat.le_of_ble_eq_true rfl) rfl ?_
      exact T.forget H ⟨rfl, rfl, rfl, rfl, trivial⟩
    · rw [if_neg hc] at H
      refine T_bipush (pc := 16) (v := 7) dX0_hashValue_16 (by decide) ?_
      refine T_aload_n (pc := 18) dX0_hashValue_18 rfl rfl ?_
      refine T_gR (pc := 19) fa_X0_17 dX0_hashValue_19 (gR_mono (fun x5 H => ?_) H)
      refine T_gI (pc := 22) fa_X0_23 dX0_hashValue_22 (gI_mono (fun x6 H => ?_) H)
      refine T_imul (pc := 25) dX0_hashValue_25 ?_
      refine T_aload_n (pc := 26) dX0_hashValue_26 rfl rfl ?_
      refine T_gI (pc := 27) fa_X0_44 dX0_hashValue_27 (gI_mono (fun x7 H => ?_) H)
      refine T_iadd (pc := 30) dX0_hashValue_30 ?_
      exact T_ireturn (pc := 31) rfl rfl dX0_hashValue_31 H
def F_X0_hashValue_42 (d : Nat) (v0 : Option Nm) (v1 : Option Nm) (v2 : Int32) (v3 : Int32) (h : MH) (u : Nat) (Q : Int32 → MH → Prop) : Prop :=
  gR h v1 9 5 fun x1 =>
  aN h x1 fun x2 =>
  if x2 ≤ v3 then
    Q v2 h
  else
    gR h v1 9 2 fun x3 =>
    gR h x3 2 2 fun x4 =>
    aI .int h x4 v3 fun x5 =>
    gR h v1 9 5 fun x6 =>
    aL h x6 v3 fun x7 =>
    rc h v0 0 ∧ iI d u_X0_hashAny [jR v0, jI x5, jL x7] h u fun x8 h u =>
    L_X0_hashValue_42 d v0 v1 ((31 * v2) + x8) (v3 + 1) h u Q
set_option maxRecDepth 20000 in
theorem E_X0_hashValue_42 {d : Nat} {v0 : Option Nm} {v1 : Option Nm} {v2 : Int32} {v3 : Int32} {h : MH} {u : Nat} {Q : Int32 → MH → Prop} (H : F_X0_hashValue_42 d v0 v1 v2 v3 h u Q) : T u_X0_hashValue (d + 1) 42 [some (jR v0), some (jR v1), some (jI v2), some (jI v3)] [] h u (qI Q) := by
  unfold F_X0_hashValue_42 at H
  refine T_iload_n (pc := 42) dX0_hashValue_42 rfl rfl ?_
  refine T_aload_n (pc := 43) dX0_hashValue_43 rfl rfl ?_
  refine T_gR (pc := 44) fa_X0_51 dX0_hashValue_44 (gR_mono (fun x1 H => ?_) H)
  refine T_aN (pc := 47) dX0_hashValue_47 (aN_mono (fun x2 H => ?_) H)
  refine T_icmp_ge (pc := 48) (tgt := 82) dX0_hashValue_48 (by decide) (fun hc => ?_) (fun hc => ?_)
  · rw [if_pos hc] at H
    refine T_iload_n (pc := 82) dX0_hashValue_82 rfl rfl ?_
    exact T_ireturn (pc := 83) rfl rfl dX0_hashValue_83 H
  · rw [if_neg hc] at H
    refine T_bipush (pc := 51) (v := 31) dX0_hashValue_51 (by decide) ?_
    refine T_iload_n (pc := 53) dX0_hashValue_53 rfl rfl ?_
    refine T_imul (pc := 54) dX0_hashValue_54 ?_
    refine T_aload_n (pc := 55) dX0_hashValue_55 rfl rfl ?_
    refine T_aload_n (pc := 56) dX0_hashValue_56 rfl rfl ?_
    refine T_gR (pc := 57) fa_X0_33 dX0_hashValue_57 (gR_mono (fun x3 H => ?_) H)
    refine T_gR (pc := 60) fa_X0_55 dX0_hashValue_60 (gR_mono (fun x4 H => ?_) H)
    refine T_iload_n (pc := 63) dX0_hashValue_63 rfl rfl ?_
    refine T_aI (pc := 64) dX0_hashValue_64 (aI_mono (fun x5 H => ?_) H)
    refine T_aload_n (pc := 65) dX0_hashValue_65 rfl rfl ?_
    refine T_gR (pc := 66) fa_X0_51 dX0_hashValue_66 (gR_mono (fun x6 H => ?_) H)
    refine T_iload_n (pc := 69) dX0_hashValue_69 rfl rfl ?_
    refine T_aL (pc := 70) dX0_hashValue_70 (aL_mono (fun x7 H => ?_) H)
    obtain ⟨H0, H⟩ := H
    refine T_iV (pc := 71) (ci := 0) (av := [jI x5, jL x7]) (rest := [jI (31 * v2)]) (o := v0) dX0_hashValue_71 mf_X0_hashAny c_4_65 c_4_67 pr_X0_hashAny rfl rfl (Nat.le_of_ble_eq_true rfl) rfl H0 (iI_k (iI_mono (fun x8 h u H => ?_) H))
    refine T_iadd (pc := 74) dX0_hashValue_74 ?_
    refine T_istore_n (pc := 75) (ls2 := [some (jR v0), some (jR v1), some (jI ((31 * v2) + x8)), some (jI v3)]) dX0_hashValue_75 rfl (Nat.le_of_ble_eq_true rfl) rfl ?_
    refine T_iinc (pc := 76) (v := v3 + 1) (ls2 := [some (jR v0), some (jR v1), some (jI ((31 * v2) + x8)), some (jI (v3 + 1))]) dX0_hashValue_76 rfl rfl (Nat.le_of_ble_eq_true rfl) rfl ?_
    refine T_goto (pc := 79) (tgt := 42) dX0_hashValue_79 (by decide) ?_
    exact T.forget H ⟨rfl, rfl, rfl, rfl, trivial⟩
theorem I_X0_hashValue {d : Nat} {v0 : Option Nm} {v1 : Option Nm} {h : MH} {u : Nat} {K : Int32 → MH → Nat → Prop} (u1 : Nat) (hu : u1 ≤ u) (H : F_X0_hashValue d v0 v1 h u1 (fun x h2 => K x h2 (u - u1))) : iI (d + 1) u_X0_hashValue [jR v0, jR v1] h u K := inv.of u1 hu (Ct.of (by decide +kernel) rfl (Nat.le_of_ble_eq_true rfl) rfl (E_X0_hashValue H))
theorem dX0_init_0 : decode cX0_init 0 = .ok (.aload_n 0, 1) := by decide +kernel
theorem dX0_init_1 : decode cX0_init 1 = .ok (.invokespecial 1, 3) := by decide +kernel
theorem dX0_init_4 : decode cX0_init 4 = .ok (.aload_n 0, 1) := by decide +kernel
theorem dX0_init_5 : decode cX0_init 5 = .ok (.aload_n 1, 1) := by decide +kernel
theorem dX0_init_6 : decode cX0_init 6 = .ok (.putfield 7, 3) := by decide +kernel
theorem dX0_init_9 : decode cX0_init 9 = .ok (.return_, 1) := by decide +kernel
def F_X0_init (d : Nat) (v0 : Option Nm) (v1 : Option Nm) (h : MH) (u : Nat) (Q : MH → Prop) : Prop :=
  nn v0 <|
  pV h v0 0 0 (jR v1) fun h =>
  Q h
set_option maxRecDepth 20000 in
theorem E_X0_init {d : Nat} {v0 : Option Nm} {v1 : Option Nm} {h : MH} {u : Nat} {Q : MH → Prop} (H : F_X0_init d v0 v1 h u Q) : T u_X0_init (d + 1) 0 [some (jR v0), some (jR v1)] [] h u (qV Q) := by
  unfold F_X0_init at H
  refine T_aload_n (pc := 0) dX0_init_0 rfl rfl ?_
  obtain ⟨n0, H0, H⟩ := nn_out H
  refine T_objInit (pc := 1) dX0_init_1 c_1_93 c_1_25 c_1_26 H0 (Nat.le_of_ble_eq_true rfl) ?_
  refine T_aload_n (pc := 4) dX0_init_4 rfl rfl ?_
  refine T_aload_n (pc := 5) dX0_init_5 rfl rfl ?_
  refine T_pVF (pc := 6) fa_X0_7 rfl rfl dX0_init_6 trivial (pV_mono (fun h H => ?_) H)
  exact T_return (pc := 9) rfl dX0_init_9 H
theorem I_X0_init {d : Nat} {v0 : Option Nm} {v1 : Option Nm} {h : MH} {u : Nat} {K : MH → Nat → Prop} (u1 : Nat) (hu : u1 ≤ u) (H : F_X0_init d v0 v1 h u1 (fun h2 => K h2 (u - u1))) : iV (d + 1) u_X0_init [jR v0, jR v1] h u K := inv.of u1 hu (Ct.of (by decide +kernel) rfl (Nat.le_of_ble_eq_true rfl) rfl (E_X0_init H))
theorem J_X0_init {d : Nat} {v0 : Option Nm} {v1 : Option Nm} {h : MH} {u : Nat} {K : MH → Prop} (H : F_X0_init d v0 v1 h 0 K) : iV (d + 1) u_X0_init [jR v0, jR v1] h u (fun h2 u2 => K h2 ∧ u2 = u) := jiV (by decide +kernel) rfl (Nat.le_of_ble_eq_true rfl) rfl (E_X0_init H)
theorem dX10_hasPart_0 : decode cX10_hasPart 0 = .ok (.iload_n 1, 1) := by decide +kernel
theorem dX10_hasPart_1 : decode cX10_hasPart 1 = .ok (.ifCond .lt 16, 3) := by decide +kernel
theorem dX10_hasPart_4 : decode cX10_hasPart 4 = .ok (.iload_n 1, 1) := by decide +kernel
theorem dX10_hasPart_5 : decode cX10_hasPart 5 = .ok (.aload_n 0, 1) := by decide +kernel
theorem dX10_hasPart_6 : decode cX10_hasPart 6 = .ok (.getfield 36, 3) := by decide +kernel
theorem dX10_hasPart_9 : decode cX10_hasPart 9 = .ok (.arraylength, 1) := by decide +kernel
theorem dX10_hasPart_10 : decode cX10_hasPart 10 = .ok (.if_icmp .ge 7, 3) := by decide +kernel
theorem dX10_hasPart_13 : decode cX10_hasPart 13 = .ok (.iconst 1, 1) := by decide +kernel
theorem dX10_hasPart_14 : decode cX10_hasPart 14 = .ok (.goto 4, 3) := by decide +kernel
theorem dX10_hasPart_17 : decode cX10_hasPart 17 = .ok (.iconst 0, 1) := by decide +kernel
theorem dX10_hasPart_18 : decode cX10_hasPart 18 = .ok (.ireturn, 1) := by decide +kernel
def F_X10_hasPart (d : Nat) (v0 : Option Nm) (v1 : Int32) (h : MH) (u : Nat) (Q : Int32 → MH → Prop) : Prop :=
  if v1 < 0 then
    nz 0 ∧ Q 0 h
  else
    gR h v0 9 5 fun x1 =>
    aN h x1 fun x2 =>
    if x2 ≤ v1 then
      nz 0 ∧ Q 0 h
    else
      nz 1 ∧ Q 1 h
set_option maxRecDepth 20000 in
theorem E_X10_hasPart {d : Nat} {v0 : Option Nm} {v1 : Int32} {h : MH} {u : Nat} {Q : Int32 → MH → Prop} (H : F_X10_hasPart d v0 v1 h u Q) : T u_X10_hasPart d 0 [some (jR v0), some (jI v1)] [] h u (qI Q) := by
  unfold F_X10_hasPart at H
  refine T_iload_n (pc := 0) dX10_hasPart_0 rfl rfl ?_
  refine T_if_lt (pc := 1) (tgt := 17) dX10_hasPart_1 (by decide) (fun hc => ?_) (fun hc => ?_)
  · rw [if_pos hc] at H
    refine T_iconst (pc := 17) (v := 0) dX10_hasPart_17 (by decide) ?_
    exact T_ireturn (pc := 18) rfl (nz_nar H.1) dX10_hasPart_18 H.2
  · rw [if_neg hc] at H
    refine T_iload_n (pc := 4) dX10_hasPart_4 rfl rfl ?_
    refine T_aload_n (pc := 5) dX10_hasPart_5 rfl rfl ?_
    refine T_gR (pc := 6) fa_X10_36 dX10_hasPart_6 (gR_mono (fun x1 H => ?_) H)
    refine T_aN (pc := 9) dX10_hasPart_9 (aN_mono (fun x2 H => ?_) H)
    refine T_icmp_ge (pc := 10) (tgt := 17) dX10_hasPart_10 (by decide) (fun hc => ?_) (fun hc => ?_)
    · rw [if_pos hc] at H
      refine T_iconst (pc := 17) (v := 0) dX10_hasPart_17 (by decide) ?_
      exact T_ireturn (pc := 18) rfl (nz_nar H.1) dX10_hasPart_18 H.2
    · rw [if_neg hc] at H
      refine T_iconst (pc := 13) (v := 1) dX10_hasPart_13 (by decide) ?_
      refine T_goto (pc := 14) (tgt := 18) dX10_hasPart_14 (by decide) ?_
      exact T_ireturn (pc := 18) rfl (nz_nar H.1) dX10_hasPart_18 H.2
theorem I_X10_hasPart {d : Nat} {v0 : Option Nm} {v1 : Int32} {h : MH} {u : Nat} {K : Int32 → MH → Nat → Prop} (u1 : Nat) (hu : u1 ≤ u) (H : F_X10_hasPart d v0 v1 h u1 (fun x h2 => K x h2 (u - u1))) : iI d u_X10_hasPart [jR v0, jI v1] h u K := inv.of u1 hu (Ct.of (by decide +kernel) rfl (Nat.le_of_ble_eq_true rfl) rfl (E_X10_hasPart H))
theorem J_X10_hasPart {d : Nat} {v0 : Option Nm} {v1 : Int32} {h : MH} {u : Nat} {K : Int32 → MH → Prop} (H : F_X10_hasPart d v0 v1 h 0 K) : iI d u_X10_hasPart [jR v0, jI v1] h u (fun x h2 u2 => K x h2 ∧ u2 = u) := jiI (by decide +kernel) rfl (Nat.le_of_ble_eq_true rfl) rfl (E_X10_hasPart H)
theorem dX3_newest_0 : decode cX3_newest 0 = .ok (.aload_n 0, 1) := by decide +kernel
theorem dX3_newest_1 : decode cX3_newest 1 = .ok (.getfield 24, 3) := by decide +kernel
theorem dX3_newest_4 : decode cX3_newest 4 = .ok (.aload_n 0, 1) := by decide +kernel
theorem dX3_newest_5 : decode cX3_newest 5 = .ok (.getfield 31, 3) := by decide +kernel
theorem dX3_newest_8 : decode cX3_newest 8 = .ok (.iconst 1, 1) := by decide +kernel
theorem dX3_newest_9 : decode cX3_newest 9 = .ok (.isub, 1) := by decide +kernel
theorem dX3_newest_10 : decode cX3_newest 10 = .ok (.aaload, 1) := by decide +kernel
theorem dX3_newest_11 : decode cX3_newest 11 = .ok (.areturn, 1) := by decide +kernel
def F_X3_newest (d : Nat) (v0 : Option Nm) (h : MH) (u : Nat) (Q : Option Nm → MH → Prop) : Prop :=
  gR h v0 3 3 fun x1 =>
  gI h v0 3 4 fun x2 =>
  aR "RecordBridge$Edition" h x1 (x2 - 1) fun x3 =>
  Q x3 h
set_option maxRecDepth 20000 in
theorem E_X3_newest {d : Nat} {v0 : Option Nm} {h : MH} {u : Nat} {Q : Option Nm → MH → Prop} (H : F_X3_newest d v0 h u Q) : T u_X3_newest d 0 [some (jR v0)] [] h u (qR Q) := by
  unfold F_X3_newest at H
  refine T_aload_n (pc := 0) dX3_newest_0 rfl rfl ?_
  refine T_gR (pc := 1) fa_X3_24 dX3_newest_1 (gR_mono (fun x1 H => ?_) H)
  refine T_aload_n (pc := 4) dX3_newest_4 rfl rfl ?_
  refine T_gI (pc := 5) fa_X3_31 dX3_newest_5 (gI_mono (fun x2 H => ?_) H)
  refine T_iconst (pc := 8) (v := 1) dX3_newest_8 (by decide) ?_
  refine T_isub (pc := 9) dX3_newest_9 ?_
  refine T_aR (pc := 10) dX3_newest_10 (aR_mono (fun x3 H => ?_) H)
  exact T_areturn (pc := 11) rfl (Or.inl ⟨_, rfl⟩) dX3_newest_11 H
theorem I_X3_newest {d : Nat} {v0 : Option Nm} {h : MH} {u : Nat} {K : Option Nm → MH → Nat → Prop} (u1 : Nat) (hu : u1 ≤ u) (H : F_X3_newest d v0 h u1 (fun x h2 => K x h2 (u - u1))) : iR d u_X3_newest [jR v0] h u K := inv.of u1 hu (Ct.of (by decide +kernel) rfl (Nat.le_of_ble_eq_true rfl) rfl (E_X3_newest H))
theorem J_X3_newest {d : Nat} {v0 : Option Nm} {h : MH} {u : Nat} {K : Option Nm → MH → Prop} (H : F_X3_newest d v0 h 0 K) : iR d u_X3_newest [jR v0] h u (fun x h2 u2 => K x h2 ∧ u2 = u) := jiR (by decide +kernel) rfl (Nat.le_of_ble_eq_true rfl) rfl (E_X3_newest H)
theorem dX10_init_0 : decode cX10_init 0 = .ok (.aload_n 0, 1) := by decide +kernel
theorem dX10_init_1 : decode cX10_init 1 = .ok (.invokespecial 1, 3) := by decide +kernel
theorem dX10_init_4 : decode cX10_init 4 = .ok (.aload_n 0, 1) := by decide +kernel
theorem dX10_init_5 : decode cX10_init 5 = .ok (.iload_n 1, 1) := by decide +kernel
theorem dX10_init_6 : decode cX10_init 6 = .ok (.putfield 7, 3) := by decide +kernel
theorem dX10_init_9 : decode cX10_init 9 = .ok (.aload_n 0, 1) := by decide +kernel
theorem dX10_init_10 : decode cX10_init 10 = .ok (.aload_n 2, 1) := by decide +kernel
theorem dX10_init_11 : decode cX10_init 11 = .ok (.putfield 13, 3) := by decide +kernel
theorem dX10_init_14 : decode cX10_init 14 = .ok (.aload_n 0, 1) := by decide +kernel
theorem dX10_init_15 : decode cX10_init 15 = .ok (.aload_n 2, 1) := by decide +kernel
theorem dX10_init_16 : decode cX10_init 16 = .ok (.invokevirtual 17, 3) := by decide +kernel
theorem dX10_init_19 : decode cX10_init 19 = .ok (.putfield 23, 3) := by decide +kernel
theorem dX10_init_22 : decode cX10_init 22 = .ok (.aload_n 0, 1) := by decide +kernel
theorem dX10_init_23 : decode cX10_init 23 = .ok (.aload_n 2, 1) := by decide +kernel
theorem dX10_init_24 : decode cX10_init 24 = .ok (.getfield 27, 3) := by decide +kernel
theorem dX10_init_27 : decode cX10_init 27 = .ok (.putfield 30, 3) := by decide +kernel
theorem dX10_init_30 : decode cX10_init 30 = .ok (.aload_n 0, 1) := by decide +kernel
theorem dX10_init_31 : decode cX10_init 31 = .ok (.iload_n 3, 1) := by decide +kernel
theorem dX10_init_32 : decode cX10_init 32 = .ok (.putfield 33, 3) := by decide +kernel
theorem dX10_init_35 : decode cX10_init 35 = .ok (.aload_n 0, 1) := by decide +kernel
theorem dX10_init_36 : decode cX10_init 36 = .ok (.aload 4, 2) := by decide +kernel
theorem dX10_init_38 : decode cX10_init 38 = .ok (.putfield 36, 3) := by decide +kernel
theorem dX10_init_41 : decode cX10_init 41 = .ok (.aload_n 0, 1) := by decide +kernel
theorem dX10_init_42 : decode cX10_init 42 = .ok (.iload 5, 2) := by decide +kernel
theorem dX10_init_44 : decode cX10_init 44 = .ok (.putfield 40, 3) := by decide +kernel
theorem dX10_init_47 : decode cX10_init 47 = .ok (.aload_n 0, 1) := by decide +kernel
theorem dX10_init_48 : decode cX10_init 48 = .ok (.iload 6, 2) := by decide +kernel
theorem dX10_init_50 : decode cX10_init 50 = .ok (.putfield 43, 3) := by decide +kernel
theorem dX10_init_53 : decode cX10_init 53 = .ok (.return_, 1) := by decide +kernel
def F_X10_init (d : Nat) (v0 : Option Nm) (v1 : Int32) (v2 : Option Nm) (v3 : Int32) (v4 : Option Nm) (v5 : Int32) (v6 : Int32) (h : MH) (u : Nat) (Q : MH → Prop) : Prop :=
  nn v0 <|
  pV h v0 9 0 (jI v1) fun h =>
  pV h v0 9 1 (jR v2) fun h =>
  rc h v2 3 ∧ F_X3_newest d v2 h 0 fun x1 h =>
  pV h v0 9 2 (jR x1) fun h =>
  gI h v2 3 6 fun x2 =>
  pV h v0 9 3 (jI x2) fun h =>
  pV h v0 9 4 (jI v3) fun h =>
  pV h v0 9 5 (jR v4) fun h =>
  pV h v0 9 6 (jI v5) fun h =>
  pV h v0 9 7 (jI v6) fun h =>
  Q h
set_option maxRecDepth 20000 in
theorem E_X10_init {d : Nat} {v0 : Option Nm} {v1 : Int32} {v2 : Option Nm} {v3 : Int32} {v4 : Option Nm} {v5 : Int32} {v6 : Int32} {h : MH} {u : Nat} {Q : MH → Prop} (H : F_X10_init d v0 v1 v2 v3 v4 v5 v6 h u Q) : T u_X10_init (d + 1) 0 [some (jR v0), some (jI v1), some (jR v2), some (jI v3), some (jR v4), some (jI v5), some (jI v6)] [] h u (qV Q) := by
  unfold F_X10_init at H
  refine T_aload_n (pc := 0) dX10_init_0 rfl rfl ?_
  obtain ⟨n0, H0, H⟩ := nn_out H
  refine T_objInit (pc := 1) dX10_init_1 c_3_53 c_1_25 c_1_26 H0 (Nat.le_of_ble_eq_true rfl) ?_
  refine T_aload_n (pc := 4) dX10_init_4 rfl rfl ?_
  refine T_iload_n (pc := 5) dX10_init_5 rfl rfl ?_
  refine T_pVF (pc := 6) fa_X10_7 rfl rfl dX10_init_6 trivial (pV_mono (fun h H => ?_) H)
  refine T_aload_n (pc := 9) dX10_init_9 rfl rfl ?_
  refine T_aload_n (pc := 10) dX10_init_10 rfl rfl ?_
  refine T_pVF (pc := 11) fa_X10_13 rfl rfl dX10_init_11 trivial (pV_mono (fun h H => ?_) H)
  refine T_aload_n (pc := 14) dX10_init_14 rfl rfl ?_
  refine T_aload_n (pc := 15) dX10_init_15 rfl rfl ?_
  obtain ⟨H0, H⟩ := H
  refine T_iV (pc := 16) (ci := 3) (av := []) (rest := [jR v0]) (o := v2) dX10_init_16 mf_X3_newest c_3_54 c_2_214 c_2_215 rfl rfl (Nat.le_of_ble_eq_true rfl) rfl H0 (iR_k (iR_m0 (fun x1 h H => ?_) (J_X3_newest (d := d) H)))
  refine T_pVF (pc := 19) fa_X10_23 rfl rfl dX10_init_19 trivial (pV_mono (fun h H => ?_) H)
  refine T_aload_n (pc := 22) dX10_init_22 rfl rfl ?_
  refine T_aload_n (pc := 23) dX10_init_23 rfl rfl ?_
  refine T_gI (pc := 24) fa_X10_27 dX10_init_24 (gI_mono (fun x2 H => ?_) H)
  refine T_pVF (pc := 27) fa_X10_30 rfl rfl dX10_init_27 trivial (pV_mono (fun h H => ?_) H)
  refine T_aload_n (pc := 30) dX10_init_30 rfl rfl ?_
  refine T_iload_n (pc := 31) dX10_init_31 rfl rfl ?_
  refine T_pVF (pc := 32) fa_X10_33 rfl rfl dX10_init_32 trivial (pV_mono (fun h H => ?_) H)
  refine T_aload_n (pc := 35) dX10_init_35 rfl rfl ?_
  refine T_aload (pc := 36) dX10_init_36 rfl ?_
  refine T_pVF (pc := 38) fa_X10_36 rfl rfl dX10_init_38 trivial (pV_mono (fun h H => ?_) H)
  refine T_aload_n (pc := 41) dX10_init_41 rfl rfl ?_
  refine T_iload (pc := 42) dX10_init_42 rfl ?_
  refine T_pVF (pc := 44) fa_X10_40 rfl rfl dX10_init_44 trivial (pV_mono (fun h H => ?_) H)
  refine T_aload_n (pc := 47) dX10_init_47 rfl rfl ?_
  refine T_iload (pc := 48) dX10_init_48 rfl ?_
  refine T_pVF (pc := 50) fa_X10_43 rfl rfl dX10_init_50 trivial (pV_mono (fun h H => ?_) H)
  exact T_return (pc := 53) rfl dX10_init_53 H
theorem I_X10_init {d : Nat} {v0 : Option Nm} {v1 : Int32} {v2 : Option Nm} {v3 : Int32} {v4 : Option Nm} {v5 : Int32} {v6 : Int32} {h : MH} {u : Nat} {K : MH → Nat → Prop} (u1 : Nat) (hu : u1 ≤ u) (H : F_X10_init d v0 v1 v2 v3 v4 v5 v6 h u1 (fun h2 => K h2 (u - u1))) : iV (d + 1) u_X10_init [jR v0, jI v1, jR v2, jI v3, jR v4, jI v5, jI v6] h u K := inv.of u1 hu (Ct.of (by decide +kernel) rfl (Nat.le_of_ble_eq_true rfl) rfl (E_X10_init H))
theorem J_X10_init {d : Nat} {v0 : Option Nm} {v1 : Int32} {v2 : Option Nm} {v3 : Int32} {v4 : Option Nm} {v5 : Int32} {v6 : Int32} {h : MH} {u : Nat} {K : MH → Prop} (H : F_X10_init d v0 v1 v2 v3 v4 v5 v6 h 0 K) : iV (d + 1) u_X10_init [jR v0, jI v1, jR v2, jI v3, jR v4, jI v5, jI v6] h u (fun h2 u2 => K h2 ∧ u2 = u) := jiV (by decide +kernel) rfl (Nat.le_of_ble_eq_true rfl) rfl (E_X10_init H)
theorem dX4_tell_0 : decode cX4_tell 0 = .ok (.iload_n 0, 1) := by decide +kernel
theorem dX4_tell_1 : decode cX4_tell 1 = .ok (.bipush 8, 2) := by decide +kernel
theorem dX4_tell_3 : decode cX4_tell 3 = .ok (.if_icmp .lt 17, 3) := by decide +kernel
theorem dX4_tell_6 : decode cX4_tell 6 = .ok (.lload_n 1, 1) := by decide +kernel
theorem dX4_tell_7 : decode cX4_tell 7 = .ok (.ldc2_w 27, 3) := by decide +kernel
theorem dX4_tell_10 : decode cX4_tell 10 = .ok (.lcmp, 1) := by decide +kernel
theorem dX4_tell_11 : decode cX4_tell 11 = .ok (.ifCond .ne 9, 3) := by decide +kernel
theorem dX4_tell_14 : decode cX4_tell 14 = .ok (.ldc2_w 29, 3) := by decide +kernel
theorem dX4_tell_17 : decode cX4_tell 17 = .ok (.goto 4, 3) := by decide +kernel
theorem dX4_tell_20 : decode cX4_tell 20 = .ok (.lload_n 1, 1) := by decide +kernel
theorem dX4_tell_21 : decode cX4_tell 21 = .ok (.lreturn, 1) := by decide +kernel
def F_X4_tell (d : Nat) (v0 : Int32) (v1 : Int64) (h : MH) (u : Nat) (Q : Int64 → MH → Prop) : Prop :=
  if v0 < 8 then
    Q v1 h
  else
    if (lg_cmp v1 (-1)) = 0 then
      Q (-5) h
    else
      Q v1 h
set_option maxRecDepth 20000 in
theorem E_X4_tell {d : Nat} {v0 : Int32} {v1 : Int64} {h : MH} {u : Nat} {Q : Int64 → MH → Prop} (H : F_X4_tell d v0 v1 h u Q) : T u_X4_tell d 0 [some (jI v0), some (jL v1), none] [] h u (qL Q) := by
  unfold F_X4_tell at H
  refine T_iload_n (pc := 0) dX4_tell_0 rfl rfl ?_
  refine T_bipush (pc := 1) (v := 8) dX4_tell_1 (by decide) ?_
  refine T_icmp_lt (pc := 3) (tgt := 20) dX4_tell_3 (by decide) (fun hc => ?_) (fun hc => ?_)
  · rw [if_pos hc] at H
    refine T_lload_n (pc := 20) dX4_tell_20 rfl rfl ?_
    exact T_lreturn (pc := 21) rfl dX4_tell_21 H
  · rw [if_neg hc] at H
    refine T_lload_n (pc := 6) dX4_tell_6 rfl rfl ?_
    refine T_ldc2 (pc := 7) (v := (-1)) dX4_tell_7 c_2_77 ?_
    refine T_lcmp (pc := 10) dX4_tell_10 ?_
    refine T_if_ne (pc := 11) (tgt := 20) dX4_tell_11 (by decide) (fun hc => ?_) (fun hc => ?_)
    · rw [if_neg hc] at H
      refine T_lload_n (pc := 20) dX4_tell_20 rfl rfl ?_
      exact T_lreturn (pc := 21) rfl dX4_tell_21 H
    · rw [if_pos hc] at H
      refine T_ldc2 (pc := 14) (v := (-5)) dX4_tell_14 c_2_78 ?_
      refine T_goto (pc := 17) (tgt := 21) dX4_tell_17 (by decide) ?_
      exact T_lreturn (pc := 21) rfl dX4_tell_21 H
theorem I_X4_tell {d : Nat} {v0 : Int32} {v1 : Int64} {h : MH} {u : Nat} {K : Int64 → MH → Nat → Prop} (u1 : Nat) (hu : u1 ≤ u) (H : F_X4_tell d v0 v1 h u1 (fun x h2 => K x h2 (u - u1))) : iL d u_X4_tell [jI v0, jL v1] h u K := inv.of u1 hu (Ct.of (by decide +kernel) rfl (Nat.le_of_ble_eq_true rfl) rfl (E_X4_tell H))
theorem J_X4_tell {d : Nat} {v0 : Int32} {v1 : Int64} {h : MH} {u : Nat} {K : Int64 → MH → Prop} (H : F_X4_tell d v0 v1 h 0 K) : iL d u_X4_tell [jI v0, jL v1] h u (fun x h2 u2 => K x h2 ∧ u2 = u) := jiL (by decide +kernel) rfl (Nat.le_of_ble_eq_true rfl) rfl (E_X4_tell H)
theorem dX10_tellPart_0 : decode cX10_tellPart 0 = .ok (.aload_n 0, 1) := by decide +kernel
theorem dX10_tellPart_1 : decode cX10_tellPart 1 = .ok (.getfield 23, 3) := by decide +kernel
theorem dX10_tellPart_4 : decode cX10_tellPart 4 = .ok (.getfield 46, 3) := by decide +kernel
theorem dX10_tellPart_7 : decode cX10_tellPart 7 = .ok (.iload_n 1, 1) := by decide +kernel
theorem dX10_tellPart_8 : decode cX10_tellPart 8 = .ok (.iaload, 1) := by decide +kernel
theorem dX10_tellPart_9 : decode cX10_tellPart 9 = .ok (.aload_n 0, 1) := by decide +kernel
theorem dX10_tellPart_10 : decode cX10_tellPart 10 = .ok (.getfield 36, 3) := by decide +kernel
theorem dX10_tellPart_13 : decode cX10_tellPart 13 = .ok (.iload_n 1, 1) := by decide +kernel
theorem dX10_tellPart_14 : decode cX10_tellPart 14 = .ok (.laload, 1) := by decide +kernel
theorem dX10_tellPart_15 : decode cX10_tellPart 15 = .ok (.invokestatic 52, 3) := by decide +kernel
theorem dX10_tellPart_18 : decode cX10_tellPart 18 = .ok (.lreturn, 1) := by decide +kernel
def F_X10_tellPart (d : Nat) (v0 : Option Nm) (v1 : Int32) (h : MH) (u : Nat) (Q : Int64 → MH → Prop) : Prop :=
  gR h v0 9 2 fun x1 =>
  gR h x1 2 2 fun x2 =>
  aI .int h x2 v1 fun x3 =>
  gR h v0 9 5 fun x4 =>
  aL h x4 v1 fun x5 =>
  F_X4_tell d x3 x5 h 0 fun x6 h =>
  Q x6 h
set_option maxRecDepth 20000 in
theorem E_X10_tellPart {d : Nat} {v0 : Option Nm} {v1 : Int32} {h : MH} {u : Nat} {Q : Int64 → MH → Prop} (H : F_X10_tellPart d v0 v1 h u Q) : T u_X10_tellPart (d + 1) 0 [some (jR v0), some (jI v1)] [] h u (qL Q) := by
  unfold F_X10_tellPart at H
  refine T_aload_n (pc := 0) dX10_tellPart_0 rfl rfl ?_
  refine T_gR (pc := 1) fa_X10_23 dX10_tellPart_1 (gR_mono (fun x1 H => ?_) H)
  refine T_gR (pc := 4) fa_X10_46 dX10_tellPart_4 (gR_mono (fun x2 H => ?_) H)
  refine T_iload_n (pc := 7) dX10_tellPart_7 rfl rfl ?_
  refine T_aI (pc := 8) dX10_tellPart_8 (aI_mono (fun x3 H => ?_) H)
  refine T_aload_n (pc := 9) dX10_tellPart_9 rfl rfl ?_
  refine T_gR (pc := 10) fa_X10_36 dX10_tellPart_10 (gR_mono (fun x4 H => ?_) H)
  refine T_iload_n (pc := 13) dX10_tellPart_13 rfl rfl ?_
  refine T_aL (pc := 14) dX10_tellPart_14 (aL_mono (fun x5 H => ?_) H)
  refine T_invS (pc := 15) (av := [jI x3, jL x5]) (rest := []) dX10_tellPart_15 mf_X4_tell c_3_236 c_2_75 rfl (Nat.le_of_ble_eq_true rfl) rfl (iL_k (iL_m0 (fun x6 h H => ?_) (J_X4_tell (d := d) H)))
  exact T_lreturn (pc := 18) rfl dX10_tellPart_18 H
theorem I_X10_tellPart {d : Nat} {v0 : Option Nm} {v1 : Int32} {h : MH} {u : Nat} {K : Int64 → MH → Nat → Prop} (u1 : Nat) (hu : u1 ≤ u) (H : F_X10_tellPart d v0 v1 h u1 (fun x h2 => K x h2 (u - u1))) : iL (d + 1) u_X10_tellPart [jR v0, jI v1] h u K := inv.of u1 hu (Ct.of (by decide +kernel) rfl (Nat.le_of_ble_eq_true rfl) rfl (E_X10_tellPart H))
theorem J_X10_tellPart {d : Nat} {v0 : Option Nm} {v1 : Int32} {h : MH} {u : Nat} {K : Int64 → MH → Prop} (H : F_X10_tellPart d v0 v1 h 0 K) : iL (d + 1) u_X10_tellPart [jR v0, jI v1] h u (fun x h2 u2 => K x h2 ∧ u2 = u) := jiL (by decide +kernel) rfl (Nat.le_of_ble_eq_true rfl) rfl (E_X10_tellPart H)
theorem dX2_find_0 : decode cX2_find 0 = .ok (.iconst 0, 1) := by decide +kernel
theorem dX2_find_1 : decode cX2_find 1 = .ok (.istore_n 2, 1) := by decide +kernel
theorem dX2_find_2 : decode cX2_find 2 = .ok (.iload_n 2, 1) := by decide +kernel
theorem dX2_find_3 : decode cX2_find 3 = .ok (.aload_n 0, 1) := by decide +kernel
theorem dX2_find_4 : decode cX2_find 4 = .ok (.getfield 30, 3) := by decide +kernel
theorem dX2_find_7 : decode cX2_find 7 = .ok (.if_icmp .ge 21, 3) := by decide +kernel
theorem dX2_find_10 : decode cX2_find 10 = .ok (.aload_n 0, 1) := by decide +kernel
theorem dX2_find_11 : decode cX2_find 11 = .ok (.getfield 15, 3) := by decide +kernel
theorem dX2_find_14 : decode cX2_find 14 = .ok (.iload_n 2, 1) := by decide +kernel
theorem dX2_find_15 : decode cX2_find 15 = .ok (.iaload, 1) := by decide +kernel
theorem dX2_find_16 : decode cX2_find 16 = .ok (.iload_n 1, 1) := by decide +kernel
theorem dX2_find_17 : decode cX2_find 17 = .ok (.if_icmp .ne 5, 3) := by decide +kernel
theorem dX2_find_20 : decode cX2_find 20 = .ok (.iload_n 2, 1) := by decide +kernel
theorem dX2_find_21 : decode cX2_find 21 = .ok (.ireturn, 1) := by decide +kernel
theorem dX2_find_22 : decode cX2_find 22 = .ok (.iinc 2 1, 3) := by decide +kernel
theorem dX2_find_25 : decode cX2_find 25 = .ok (.goto (-23), 3) := by decide +kernel
theorem dX2_find_28 : decode cX2_find 28 = .ok (.iconst (-1), 1) := by decide +kernel
theorem dX2_find_29 : decode cX2_find 29 = .ok (.ireturn, 1) := by decide +kernel
def L_X2_find_2 (d : Nat) (v0 : Option Nm) (v1 : Int32) (v2 : Int32) (h : MH) (u : Nat) (Q : Int32 → MH → Prop) : Prop := T u_X2_find d 2 [some (jR v0), some (jI v1), some (jI v2)] [] h u (qI Q)
def F_X2_find (d : Nat) (v0 : Option Nm) (v1 : Int32) (h : MH) (u : Nat) (Q : Int32 → MH → Prop) : Prop :=
  L_X2_find_2 d v0 v1 0 h u Q
set_option maxRecDepth 20000 in
theorem E_X2_find {d : Nat} {v0 : Option Nm} {v1 : Int32} {h : MH} {u : Nat} {Q : Int32 → MH → Prop} (H : F_X2_find d v0 v1 h u Q) : T u_X2_find d 0 [some (jR v0), some (jI v1), none] [] h u (qI Q) := by
  unfold F_X2_find at H
  refine T_iconst (pc := 0) (v := 0) dX2_find_0 (by decide) ?_
  refine T_istore_n (pc := 1) (ls2 := [some (jR v0), some (jI v1), some (jI 0)]) dX2_find_1 rfl (Nat.le_of_ble_eq_true rfl) rfl ?_
  exact T.forget H ⟨rfl, rfl, rfl, trivial⟩
def F_X2_find_2 (d : Nat) (v0 : Option Nm) (v1 : Int32) (v2 : Int32) (h : MH) (u : Nat) (Q : Int32 → MH → Prop) : Prop :=
  gI h v0 2 4 fun x1 =>
  if x1 ≤ v2 then
    Q (-1) h
  else
    gR h v0 2 1 fun x2 =>
    aI .int h x2 v2 fun x3 =>
    if x3 = v1 then
      Q v2 h
    else
      L_X2_find_2 d v0 v1 (v2 + 1) h u Q
set_option maxRecDepth 20000 in
theorem E_X2_find_2 {d : Nat} {v0 : Option Nm} {v1 : Int32} {v2 : Int32} {h : MH} {u : Nat} {Q : Int32 → MH → Prop} (H : F_X2_find_2 d v0 v1 v2 h u Q) : T u_X2_find d 2 [some (jR v0), some (jI v1), some (jI v2)] [] h u (qI Q) := by
  unfold F_X2_find_2 at H
  refine T_iload_n (pc := 2) dX2_find_2 rfl rfl ?_
  refine T_aload_n (pc := 3) dX2_find_3 rfl rfl ?_
  refine T_gI (pc := 4) fa_X2_30 dX2_find_4 (gI_mono (fun x1 H => ?_) H)
  refine T_icmp_ge (pc := 7) (tgt := 28) dX2_find_7 (by decide) (fun hc => ?_) (fun hc => ?_)
  · rw [if_pos hc] at H
    refine T_iconst (pc := 28) (v := (-1)) dX2_find_28 (by decide) ?_
    exact T_ireturn (pc := 29) rfl rfl dX2_find_29 H
  · rw [if_neg hc] at H
    refine T_aload_n (pc := 10) dX2_find_10 rfl rfl ?_
    refine T_gR (pc := 11) fa_X2_15 dX2_find_11 (gR_mono (fun x2 H => ?_) H)
    refine T_iload_n (pc := 14) dX2_find_14 rfl rfl ?_
    refine T_aI (pc := 15) dX2_find_15 (aI_mono (fun x3 H => ?_) H)
    refine T_iload_n (pc := 16) dX2_find_16 rfl rfl ?_
    refine T_icmp_ne (pc := 17) (tgt := 22) dX2_find_17 (by decide) (fun hc => ?_) (fun hc => ?_)
    · rw [if_neg hc] at H
      refine T_iinc (pc := 22) (v := v2 + 1) (ls2 := [some (jR v0), some (jI v1), some (jI (v2 + 1))]) dX2_find_22 rfl rfl (Nat.le_of_ble_eq_true rfl) rfl ?_
      refine T_goto (pc := 25) (tgt := 2) dX2_find_25 (by decide) ?_
      exact T.forget H ⟨rfl, rfl, rfl, trivial⟩
    · rw [if_pos hc] at H
      refine T_iload_n (pc := 20) dX2_find_20 rfl rfl ?_
      exact T_ireturn (pc := 21) rfl rfl dX2_find_21 H
theorem I_X2_find {d : Nat} {v0 : Option Nm} {v1 : Int32} {h : MH} {u : Nat} {K : Int32 → MH → Nat → Prop} (u1 : Nat) (hu : u1 ≤ u) (H : F_X2_find d v0 v1 h u1 (fun x h2 => K x h2 (u - u1))) : iI d u_X2_find [jR v0, jI v1] h u K := inv.of u1 hu (Ct.of (by decide +kernel) rfl (Nat.le_of_ble_eq_true rfl) rfl (E_X2_find H))
theorem J_X2_find {d : Nat} {v0 : Option Nm} {v1 : Int32} {h : MH} {u : Nat} {K : Int32 → MH → Prop} (H : F_X2_find d v0 v1 h 0 K) : iI d u_X2_find [jR v0, jI v1] h u (fun x h2 u2 => K x h2 ∧ u2 = u) := jiI (by decide +kernel) rfl (Nat.le_of_ble_eq_true rfl) rfl (E_X2_find H)
theorem dX11_accessor_0 : decode cX11_accessor 0 = .ok (.aload_n 0, 1) := by decide +kernel
theorem dX11_accessor_1 : decode cX11_accessor 1 = .ok (.getfield 12, 3) := by decide +kernel
theorem dX11_accessor_4 : decode cX11_accessor 4 = .ok (.iload_n 1, 1) := by decide +kernel
theorem dX11_accessor_5 : decode cX11_accessor 5 = .ok (.i2l, 1) := by decide +kernel
theorem dX11_accessor_6 : decode cX11_accessor 6 = .ok (.invokevirtual 118, 3) := by decide +kernel
theorem dX11_accessor_9 : decode cX11_accessor 9 = .ok (.astore_n 3, 1) := by decide +kernel
theorem dX11_accessor_10 : decode cX11_accessor 10 = .ok (.aload_n 3, 1) := by decide +kernel
theorem dX11_accessor_11 : decode cX11_accessor 11 = .ok (.ifnull 13, 3) := by decide +kernel
theorem dX11_accessor_14 : decode cX11_accessor 14 = .ok (.aload_n 3, 1) := by decide +kernel
theorem dX11_accessor_15 : decode cX11_accessor 15 = .ok (.getfield 252, 3) := by decide +kernel
theorem dX11_accessor_18 : decode cX11_accessor 18 = .ok (.getfield 192, 3) := by decide +kernel
theorem dX11_accessor_21 : decode cX11_accessor 21 = .ok (.ifCond .eq 7, 3) := by decide +kernel
theorem dX11_accessor_24 : decode cX11_accessor 24 = .ok (.ldc2_w 112, 3) := by decide +kernel
theorem dX11_accessor_27 : decode cX11_accessor 27 = .ok (.lreturn, 1) := by decide +kernel
theorem dX11_accessor_28 : decode cX11_accessor 28 = .ok (.aload_n 3, 1) := by decide +kernel
theorem dX11_accessor_29 : decode cX11_accessor 29 = .ok (.getfield 264, 3) := by decide +kernel
theorem dX11_accessor_32 : decode cX11_accessor 32 = .ok (.iload_n 2, 1) := by decide +kernel
theorem dX11_accessor_33 : decode cX11_accessor 33 = .ok (.invokevirtual 172, 3) := by decide +kernel
theorem dX11_accessor_36 : decode cX11_accessor 36 = .ok (.istore 4, 2) := by decide +kernel
theorem dX11_accessor_38 : decode cX11_accessor 38 = .ok (.iload 4, 2) := by decide +kernel
theorem dX11_accessor_40 : decode cX11_accessor 40 = .ok (.iconst (-1), 1) := by decide +kernel
theorem dX11_accessor_41 : decode cX11_accessor 41 = .ok (.if_icmp .ne 9, 3) := by decide +kernel
theorem dX11_accessor_44 : decode cX11_accessor 44 = .ok (.ldc2_w 112, 3) := by decide +kernel
theorem dX11_accessor_47 : decode cX11_accessor 47 = .ok (.goto 9, 3) := by decide +kernel
theorem dX11_accessor_50 : decode cX11_accessor 50 = .ok (.aload_n 3, 1) := by decide +kernel
theorem dX11_accessor_51 : decode cX11_accessor 51 = .ok (.iload 4, 2) := by decide +kernel
theorem dX11_accessor_53 : decode cX11_accessor 53 = .ok (.invokevirtual 261, 3) := by decide +kernel
theorem dX11_accessor_56 : decode cX11_accessor 56 = .ok (.lreturn, 1) := by decide +kernel
def F_X11_accessor (d : Nat) (v0 : Option Nm) (v1 : Int32) (v2 : Int32) (h : MH) (u : Nat) (Q : Int64 → MH → Prop) : Prop :=
  gR h v0 10 0 fun x1 =>
  rc h x1 6 ∧ F_X7_findValue (d + 1) x1 (v1.toInt64) h 0 fun x2 h =>
  nl x2 (
    Q (-9223372036854775808) h) (
    gR h x2 9 1 fun x3 =>
    gI h x3 3 1 fun x4 =>
    if x4 = 0 then
      gR h x2 9 2 fun x5 =>
      rc h x5 2 ∧ F_X2_find (d + 1) x5 v2 h 0 fun x6 h =>
      if x6 = (-1) then
        Q (-9223372036854775808) h
      else
        rc h x2 9 ∧ F_X10_tellPart d x2 x6 h 0 fun x7 h =>
        Q x7 h
    else
      Q (-9223372036854775808) h)
set_option maxRecDepth 20000 in
theorem E_X11_accessor {d : Nat} {v0 : Option Nm} {v1 : Int32} {v2 : Int32} {h : MH} {u : Nat} {Q : Int64 → MH → Prop} (H : F_X11_accessor d v0 v1 v2 h u Q) : T u_X11_accessor (d + 2) 0 [some (jR v0), some (jI v1), some (jI v2), none, none] [] h u (qL Q) := by
  unfold F_X11_accessor at H
  refine T_aload_n (pc := 0) dX11_accessor_0 rfl rfl ?_
  refine T_gR (pc := 1) fa_X11_12 dX11_accessor_1 (gR_mono (fun x1 H => ?_) H)
  refine T_iload_n (pc := 4) dX11_accessor_4 rfl rfl ?_
  refine T_i2l (pc := 5) dX11_accessor_5 ?_
  obtain ⟨H0, H⟩ := H
  refine T_iV (pc := 6) (ci := 6) (av := [jL (v1.toInt64)]) (rest := []) (o := x1) dX11_accessor_6 mf_X7_findValue c_2_63 c_2_64 c_2_65 rfl rfl (Nat.le_of_ble_eq_true rfl) rfl H0 (iR_k (iR_m0 (fun x2 h H => ?_) (J_X7_findValue (d := (d + 1)) H)))
  refine T_astore_n (pc := 9) (ls2 := [some (jR v0), some (jI v1), some (jI v2), some (jR x2), none]) dX11_accessor_9 rfl (Nat.le_of_ble_eq_true rfl) rfl ?_
  refine T_aload_n (pc := 10) dX11_accessor_10 rfl rfl ?_
  refine T_ifnull (pc := 11) (tgt := 24) dX11_accessor_11 (by decide) (fun ho => ?_) (fun n ho => ?_)
  · replace H := nl_n ho H
    refine T_ldc2 (pc := 24) (v := (-9223372036854775808)) dX11_accessor_24 c_2_54 ?_
    exact T_lreturn (pc := 27) rfl dX11_accessor_27 H
  · replace H := nl_s ho H
    refine T_aload_n (pc := 14) dX11_accessor_14 rfl rfl ?_
    refine T_gR (pc := 15) fa_X11_252 dX11_accessor_15 (gR_mono (fun x3 H => ?_) H)
    refine T_gI (pc := 18) fa_X11_192 dX11_accessor_18 (gI_mono (fun x4 H => ?_) H)
    refine T_if_eq (pc := 21) (tgt := 28) dX11_accessor_21 (by decide) (fun hc => ?_) (fun hc => ?_)
    · rw [if_pos hc] at H
      refine T_aload_n (pc := 28) dX11_accessor_28 rfl rfl ?_
      refine T_gR (pc := 29) fa_X11_264 dX11_accessor_29 (gR_mono (fun x5 H => ?_) H)
      refine T_iload_n (pc := 32) dX11_accessor_32 rfl rfl ?_
      obtain ⟨H0, H⟩ := H
      refine T_iV (pc := 33) (ci := 2) (av := [jI v2]) (rest := []) (o := x5) dX11_accessor_33 mf_X2_find c_2_217 c_2_218 c_2_219 rfl rfl (Nat.le_of_ble_eq_true rfl) rfl H0 (iI_k (iI_m0 (fun x6 h H => ?_) (J_X2_find (d := (d + 1)) H)))
      refine T_istore (pc := 36) (ls2 := [some (jR v0), some (jI v1), some (jI v2), some (jR x2), some (jI x6)]) dX11_accessor_36 (Nat.le_of_ble_eq_true rfl) rfl ?_
      refine T_iload (pc := 38) dX11_accessor_38 rfl ?_
      refine T_iconst (pc := 40) (v := (-1)) dX11_accessor_40 (by decide) ?_
      refine T_icmp_ne (pc := 41) (tgt := 50) dX11_accessor_41 (by decide) (fun hc => ?_) (fun hc => ?_)
      · rw [if_neg hc] at H
        refine T_aload_n (pc := 50) dX11_accessor_50 rfl rfl ?_
        refine T_iload (pc := 51) dX11_accessor_51 rfl ?_
        obtain ⟨H0, H⟩ := H
        refine T_iV (pc := 53) (ci := 9) (av := [jI x6]) (rest := []) (o := x2) dX11_accessor_53 mf_X10_tellPart c_3_232 c_3_233 c_3_234 rfl rfl (Nat.le_of_ble_eq_true rfl) rfl H0 (iL_k (iL_m0 (fun x7 h H => ?_) (J_X10_tellPart (d := d) H)))
        exact T_lreturn (pc := 56) rfl dX11_accessor_56 H
      · rw [if_pos hc] at H
        refine T_ldc2 (pc := 44) (v := (-9223372036854775808)) dX11_accessor_44 c_2_54 ?_
        refine T_goto (pc := 47) (tgt := 56) dX11_accessor_47 (by decide) ?_
        exact T_lreturn (pc := 56) rfl dX11_accessor_56 H
    · rw [if_neg hc] at H
      refine T_ldc2 (pc := 24) (v := (-9223372036854775808)) dX11_accessor_24 c_2_54 ?_
      exact T_lreturn (pc := 27) rfl dX11_accessor_27 H
theorem I_X11_accessor {d : Nat} {v0 : Option Nm} {v1 : Int32} {v2 : Int32} {h : MH} {u : Nat} {K : Int64 → MH → Nat → Prop} (u1 : Nat) (hu : u1 ≤ u) (H : F_X11_accessor d v0 v1 v2 h u1 (fun x h2 => K x h2 (u - u1))) : iL (d + 2) u_X11_accessor [jR v0, jI v1, jI v2] h u K := inv.of u1 hu (Ct.of (by decide +kernel) rfl (Nat.le_of_ble_eq_true rfl) rfl (E_X11_accessor H))
theorem J_X11_accessor {d : Nat} {v0 : Option Nm} {v1 : Int32} {v2 : Int32} {h : MH} {u : Nat} {K : Int64 → MH → Prop} (H : F_X11_accessor d v0 v1 v2 h 0 K) : iL (d + 2) u_X11_accessor [jR v0, jI v1, jI v2] h u (fun x h2 u2 => K x h2 ∧ u2 = u) := jiL (by decide +kernel) rfl (Nat.le_of_ble_eq_true rfl) rfl (E_X11_accessor H)
theorem dX7_addValue_0 : decode cX7_addValue 0 = .ok (.aload_n 0, 1) := by decide +kernel
theorem dX7_addValue_1 : decode cX7_addValue 1 = .ok (.getfield 27, 3) := by decide +kernel
theorem dX7_addValue_4 : decode cX7_addValue 4 = .ok (.sipush 200, 3) := by decide +kernel
theorem dX7_addValue_7 : decode cX7_addValue 7 = .ok (.if_icmp .ge 36, 3) := by decide +kernel
theorem dX7_addValue_10 : decode cX7_addValue 10 = .ok (.aload_n 0, 1) := by decide +kernel
theorem dX7_addValue_11 : decode cX7_addValue 11 = .ok (.getfield 19, 3) := by decide +kernel
theorem dX7_addValue_14 : decode cX7_addValue 14 = .ok (.aload_n 0, 1) := by decide +kernel
theorem dX7_addValue_15 : decode cX7_addValue 15 = .ok (.getfield 27, 3) := by decide +kernel
theorem dX7_addValue_18 : decode cX7_addValue 18 = .ok (.aload_n 1, 1) := by decide +kernel
theorem dX7_addValue_19 : decode cX7_addValue 19 = .ok (.aastore, 1) := by decide +kernel
theorem dX7_addValue_20 : decode cX7_addValue 20 = .ok (.aload_n 0, 1) := by decide +kernel
theorem dX7_addValue_21 : decode cX7_addValue 21 = .ok (.dup, 1) := by decide +kernel
theorem dX7_addValue_22 : decode cX7_addValue 22 = .ok (.getfield 27, 3) := by decide +kernel
theorem dX7_addValue_25 : decode cX7_addValue 25 = .ok (.iconst 1, 1) := by decide +kernel
theorem dX7_addValue_26 : decode cX7_addValue 26 = .ok (.iadd, 1) := by decide +kernel
theorem dX7_addValue_27 : decode cX7_addValue 27 = .ok (.putfield 27, 3) := by decide +kernel
theorem dX7_addValue_30 : decode cX7_addValue 30 = .ok (.aload_n 1, 1) := by decide +kernel
theorem dX7_addValue_31 : decode cX7_addValue 31 = .ok (.getfield 54, 3) := by decide +kernel
theorem dX7_addValue_34 : decode cX7_addValue 34 = .ok (.dup, 1) := by decide +kernel
theorem dX7_addValue_35 : decode cX7_addValue 35 = .ok (.getfield 58, 3) := by decide +kernel
theorem dX7_addValue_38 : decode cX7_addValue 38 = .ok (.iconst 1, 1) := by decide +kernel
theorem dX7_addValue_39 : decode cX7_addValue 39 = .ok (.iadd, 1) := by decide +kernel
theorem dX7_addValue_40 : decode cX7_addValue 40 = .ok (.putfield 58, 3) := by decide +kernel
theorem dX7_addValue_43 : decode cX7_addValue 43 = .ok (.aload_n 1, 1) := by decide +kernel
theorem dX7_addValue_44 : decode cX7_addValue 44 = .ok (.getfield 63, 3) := by decide +kernel
theorem dX7_addValue_47 : decode cX7_addValue 47 = .ok (.ireturn, 1) := by decide +kernel
def F_X7_addValue (d : Nat) (v0 : Option Nm) (v1 : Option Nm) (h : MH) (u : Nat) (Q : Int32 → MH → Prop) : Prop :=
  gI h v0 6 3 fun x1 =>
  if 200 ≤ x1 then
    gI h v1 9 0 fun x2 =>
    Q x2 h
  else
    gR h v0 6 1 fun x3 =>
    gI h v0 6 3 fun x4 =>
    rc h v1 9 ∧ sV (.object "RecordBridge$Value") h x3 x4 (jR v1) fun h =>
    gI h v0 6 3 fun x5 =>
    pV h v0 6 3 (jI (x5 + 1)) fun h =>
    gR h v1 9 1 fun x6 =>
    gI h x6 3 6 fun x7 =>
    pV h x6 3 6 (jI (x7 + 1)) fun h =>
    gI h v1 9 0 fun x8 =>
    Q x8 h
set_option maxRecDepth 20000 in
theorem E_X7_addValue {d : Nat} {v0 : Option Nm} {v1 : Option Nm} {h : MH} {u : Nat} {Q : Int32 → MH → Prop} (H : F_X7_addValue d v0 v1 h u Q) : T u_X7_addValue d 0 [some (jR v0), some (jR v1)] [] h u (qI Q) := by
  unfold F_X7_addValue at H
  refine T_aload_n (pc := 0) dX7_addValue_0 rfl rfl ?_
  refine T_gI (pc := 1) fa_X7_27 dX7_addValue_1 (gI_mono (fun x1 H => ?_) H)
  refine T_sipush (pc := 4) (v := 200) dX7_addValue_4 (by decide) ?_
  refine T_icmp_ge (pc := 7) (tgt := 43) dX7_addValue_7 (by decide) (fun hc => ?_) (fun hc => ?_)
  · rw [if_pos hc] at H
    refine T_aload_n (pc := 43) dX7_addValue_43 rfl rfl ?_
    refine T_gI (pc := 44) fa_X7_63 dX7_addValue_44 (gI_mono (fun x2 H => ?_) H)
    exact T_ireturn (pc := 47) rfl rfl dX7_addValue_47 H
  · rw [if_neg hc] at H
    refine T_aload_n (pc := 10) dX7_addValue_10 rfl rfl ?_
    refine T_gR (pc := 11) fa_X7_19 dX7_addValue_11 (gR_mono (fun x3 H => ?_) H)
    refine T_aload_n (pc := 14) dX7_addValue_14 rfl rfl ?_
    refine T_gI (pc := 15) fa_X7_27 dX7_addValue_15 (gI_mono (fun x4 H => ?_) H)
    refine T_aload_n (pc := 18) dX7_addValue_18 rfl rfl ?_
    refine T_sR (pc := 19) (ci := 9) dX7_addValue_19 rfl ⟨H.1, sV_mono (fun h H => ?_) H.2⟩
    refine T_aload_n (pc := 20) dX7_addValue_20 rfl rfl ?_
    refine T_dup (pc := 21) rfl dX7_addValue_21 ?_
    refine T_gI (pc := 22) fa_X7_27 dX7_addValue_22 (gI_mono (fun x5 H => ?_) H)
    refine T_iconst (pc := 25) (v := 1) dX7_addValue_25 (by decide) ?_
    refine T_iadd (pc := 26) dX7_addValue_26 ?_
    refine T_pV (pc := 27) fa_X7_27 dX7_addValue_27 trivial (pV_mono (fun h H => ?_) H)
    refine T_aload_n (pc := 30) dX7_addValue_30 rfl rfl ?_
    refine T_gR (pc := 31) fa_X7_54 dX7_addValue_31 (gR_mono (fun x6 H => ?_) H)
    refine T_dup (pc := 34) rfl dX7_addValue_34 ?_
    refine T_gI (pc := 35) fa_X7_58 dX7_addValue_35 (gI_mono (fun x7 H => ?_) H)
    refine T_iconst (pc := 38) (v := 1) dX7_addValue_38 (by decide) ?_
    refine T_iadd (pc := 39) dX7_addValue_39 ?_
    refine T_pV (pc := 40) fa_X7_58 dX7_addValue_40 trivial (pV_mono (fun h H => ?_) H)
    refine T_aload_n (pc := 43) dX7_addValue_43 rfl rfl ?_
    refine T_gI (pc := 44) fa_X7_63 dX7_addValue_44 (gI_mono (fun x8 H => ?_) H)
    exact T_ireturn (pc := 47) rfl rfl dX7_addValue_47 H
theorem I_X7_addValue {d : Nat} {v0 : Option Nm} {v1 : Option Nm} {h : MH} {u : Nat} {K : Int32 → MH → Nat → Prop} (u1 : Nat) (hu : u1 ≤ u) (H : F_X7_addValue d v0 v1 h u1 (fun x h2 => K x h2 (u - u1))) : iI d u_X7_addValue [jR v0, jR v1] h u K := inv.of u1 hu (Ct.of (by decide +kernel) rfl (Nat.le_of_ble_eq_true rfl) rfl (E_X7_addValue H))
theorem J_X7_addValue {d : Nat} {v0 : Option Nm} {v1 : Option Nm} {h : MH} {u : Nat} {K : Int32 → MH → Prop} (H : F_X7_addValue d v0 v1 h 0 K) : iI d u_X7_addValue [jR v0, jR v1] h u (fun x h2 u2 => K x h2 ∧ u2 = u) := jiI (by decide +kernel) rfl (Nat.le_of_ble_eq_true rfl) rfl (E_X7_addValue H)
theorem dX11_addConstant_0 : decode cX11_addConstant 0 = .ok (.aload_n 1, 1) := by decide +kernel
theorem dX11_addConstant_1 : decode cX11_addConstant 1 = .ok (.invokevirtual 165, 3) := by decide +kernel
theorem dX11_addConstant_4 : decode cX11_addConstant 4 = .ok (.astore_n 3, 1) := by decide +kernel
theorem dX11_addConstant_5 : decode cX11_addConstant 5 = .ok (.aload_n 3, 1) := by decide +kernel
theorem dX11_addConstant_6 : decode cX11_addConstant 6 = .ok (.getfield 249, 3) := by decide +kernel
theorem dX11_addConstant_9 : decode cX11_addConstant 9 = .ok (.iload_n 2, 1) := by decide +kernel
theorem dX11_addConstant_10 : decode cX11_addConstant 10 = .ok (.aload_n 0, 1) := by decide +kernel
theorem dX11_addConstant_11 : decode cX11_addConstant 11 = .ok (.getfield 12, 3) := by decide +kernel
theorem dX11_addConstant_14 : decode cX11_addConstant 14 = .ok (.new 253, 3) := by decide +kernel
theorem dX11_addConstant_17 : decode cX11_addConstant 17 = .ok (.dup, 1) := by decide +kernel
theorem dX11_addConstant_18 : decode cX11_addConstant 18 = .ok (.aload_n 0, 1) := by decide +kernel
theorem dX11_addConstant_19 : decode cX11_addConstant 19 = .ok (.getfield 12, 3) := by decide +kernel
theorem dX11_addConstant_22 : decode cX11_addConstant 22 = .ok (.getfield 332, 3) := by decide +kernel
theorem dX11_addConstant_25 : decode cX11_addConstant 25 = .ok (.aload_n 1, 1) := by decide +kernel
theorem dX11_addConstant_26 : decode cX11_addConstant 26 = .ok (.aload_n 3, 1) := by decide +kernel
theorem dX11_addConstant_27 : decode cX11_addConstant 27 = .ok (.getfield 369, 3) := by decide +kernel
theorem dX11_addConstant_30 : decode cX11_addConstant 30 = .ok (.iload_n 2, 1) := by decide +kernel
theorem dX11_addConstant_31 : decode cX11_addConstant 31 = .ok (.iaload, 1) := by decide +kernel
theorem dX11_addConstant_32 : decode cX11_addConstant 32 = .ok (.iconst 0, 1) := by decide +kernel
theorem dX11_addConstant_33 : decode cX11_addConstant 33 = .ok (.newarray .long, 2) := by decide +kernel
theorem dX11_addConstant_35 : decode cX11_addConstant 35 = .ok (.iconst 1, 1) := by decide +kernel
theorem dX11_addConstant_36 : decode cX11_addConstant 36 = .ok (.iconst 1, 1) := by decide +kernel
theorem dX11_addConstant_37 : decode cX11_addConstant 37 = .ok (.invokespecial 372, 3) := by decide +kernel
theorem dX11_addConstant_40 : decode cX11_addConstant 40 = .ok (.invokevirtual 375, 3) := by decide +kernel
theorem dX11_addConstant_43 : decode cX11_addConstant 43 = .ok (.iastore, 1) := by decide +kernel
theorem dX11_addConstant_44 : decode cX11_addConstant 44 = .ok (.return_, 1) := by decide +kernel
def F_X11_addConstant (d : Nat) (v0 : Option Nm) (v1 : Option Nm) (v2 : Int32) (h : MH) (u : Nat) (Q : MH → Prop) : Prop :=
  rc h v1 3 ∧ F_X3_newest (d + 1) v1 h 0 fun x1 h =>
  gR h x1 2 3 fun x2 =>
  gR h v0 10 0 fun x3 =>
  nO h u 9 [jI 0, jR none, jR none, jI 0, jI 0, jR none, jI 0, jI 0] fun x4 h u =>
  gR h v0 10 0 fun x5 =>
  gI h x5 6 3 fun x6 =>
  gR h x1 2 1 fun x7 =>
  aI .int h x7 v2 fun x8 =>
  nA .long h u 0 fun x9 h u =>
  F_X10_init d (some x4) x6 v1 x8 (some x9) 1 1 h 0 fun h =>
  rc h x3 6 ∧ F_X7_addValue (d + 1) x3 (some x4) h 0 fun x11 h =>
  sV .int h x2 v2 (jI x11) fun h =>
  Q h
set_option maxRecDepth 20000 in
theorem E_X11_addConstant {d : Nat} {v0 : Option Nm} {v1 : Option Nm} {v2 : Int32} {h : MH} {u : Nat} {Q : MH → Prop} (H : F_X11_addConstant d v0 v1 v2 h u Q) : T u_X11_addConstant (d + 2) 0 [some (jR v0), some (jR v1), some (jI v2), none] [] h u (qV Q) := by
  unfold F_X11_addConstant at H
  refine T_aload_n (pc := 0) dX11_addConstant_0 rfl rfl ?_
  obtain ⟨H0, H⟩ := H
  refine T_iV (pc := 1) (ci := 3) (av := []) (rest := []) (o := v1) dX11_addConstant_1 mf_X3_newest c_2_213 c_2_214 c_2_215 rfl rfl (Nat.le_of_ble_eq_true rfl) rfl H0 (iR_k (iR_m0 (fun x1 h H => ?_) (J_X3_newest (d := (d + 1)) H)))
  refine T_astore_n (pc := 4) (ls2 := [some (jR v0), some (jR v1), some (jI v2), some (jR x1)]) dX11_addConstant_4 rfl (Nat.le_of_ble_eq_true rfl) rfl ?_
  refine T_aload_n (pc := 5) dX11_addConstant_5 rfl rfl ?_
  refine T_gR (pc := 6) fa_X11_249 dX11_addConstant_6 (gR_mono (fun x2 H => ?_) H)
  refine T_iload_n (pc := 9) dX11_addConstant_9 rfl rfl ?_
  refine T_aload_n (pc := 10) dX11_addConstant_10 rfl rfl ?_
  refine T_gR (pc := 11) fa_X11_12 dX11_addConstant_11 (gR_mono (fun x3 H => ?_) H)
  refine T_nO (pc := 14) nf_X11_253 dX11_addConstant_14 (nO_mono (fun x4 h u H => ?_) H)
  refine T_dup (pc := 17) rfl dX11_addConstant_17 ?_
  refine T_aload_n (pc := 18) dX11_addConstant_18 rfl rfl ?_
  refine T_gR (pc := 19) fa_X11_12 dX11_addConstant_19 (gR_mono (fun x5 H => ?_) H)
  refine T_gI (pc := 22) fa_X11_332 dX11_addConstant_22 (gI_mono (fun x6 H => ?_) H)
  refine T_aload_n (pc := 25) dX11_addConstant_25 rfl rfl ?_
  refine T_aload_n (pc := 26) dX11_addConstant_26 rfl rfl ?_
  refine T_gR (pc := 27) fa_X11_369 dX11_addConstant_27 (gR_mono (fun x7 H => ?_) H)
  refine T_iload_n (pc := 30) dX11_addConstant_30 rfl rfl ?_
  refine T_aI (pc := 31) dX11_addConstant_31 (aI_mono (fun x8 H => ?_) H)
  refine T_iconst (pc := 32) (v := 0) dX11_addConstant_32 (by decide) ?_
  refine T_nA (pc := 33) dX11_addConstant_33 rfl (by decide) c_1_66 (nA_mono (fun x9 h u H => ?_) H)
  refine T_iconst (pc := 35) (v := 1) dX11_addConstant_35 (by decide) ?_
  refine T_iconst (pc := 36) (v := 1) dX11_addConstant_36 (by decide) ?_
  refine T_invI (pc := 37) (av := [jI x6, jR v1, jI x8, jR (some x9), jI 1, jI 1]) (rest := [jR (some x4), jR x3, jI v2, jR x2]) dX11_addConstant_37 mf_X10_init rfl rfl c_3_50 c_3_51 rfl (Nat.le_of_ble_eq_true rfl) rfl (iV_k (iV_m0 (fun h H => ?_) (J_X10_init (d := d) H)))
  obtain ⟨H0, H⟩ := H
  refine T_iV (pc := 40) (ci := 6) (av := [jR (some x4)]) (rest := [jI v2, jR x2]) (o := x3) dX11_addConstant_40 mf_X7_addValue c_3_102 c_3_103 c_3_104 rfl rfl (Nat.le_of_ble_eq_true rfl) rfl H0 (iI_k (iI_m0 (fun x11 h H => ?_) (J_X7_addValue (d := (d + 1)) H)))
  refine T_sI (pc := 43) dX11_addConstant_43 (sV_mono (fun h H => ?_) H)
  exact T_return (pc := 44) rfl dX11_addConstant_44 H
theorem I_X11_addConstant {d : Nat} {v0 : Option Nm} {v1 : Option Nm} {v2 : Int32} {h : MH} {u : Nat} {K : MH → Nat → Prop} (u1 : Nat) (hu : u1 ≤ u) (H : F_X11_addConstant d v0 v1 v2 h u1 (fun h2 => K h2 (u - u1))) : iV (d + 2) u_X11_addConstant [jR v0, jR v1, jI v2] h u K := inv.of u1 hu (Ct.of (by decide +kernel) rfl (Nat.le_of_ble_eq_true rfl) rfl (E_X11_addConstant H))
theorem dX11_failed_0 : decode cX11_failed 0 = .ok (.aload_n 0, 1) := by decide +kernel
theorem dX11_failed_1 : decode cX11_failed 1 = .ok (.iload_n 1, 1) := by decide +kernel
theorem dX11_failed_2 : decode cX11_failed 2 = .ok (.putfield 326, 3) := by decide +kernel
theorem dX11_failed_5 : decode cX11_failed 5 = .ok (.aload_n 0, 1) := by decide +kernel
theorem dX11_failed_6 : decode cX11_failed 6 = .ok (.dup, 1) := by decide +kernel
theorem dX11_failed_7 : decode cX11_failed 7 = .ok (.getfield 338, 3) := by decide +kernel
theorem dX11_failed_10 : decode cX11_failed 10 = .ok (.iconst 1, 1) := by decide +kernel
theorem dX11_failed_11 : decode cX11_failed 11 = .ok (.iadd, 1) := by decide +kernel
theorem dX11_failed_12 : decode cX11_failed 12 = .ok (.putfield 338, 3) := by decide +kernel
theorem dX11_failed_15 : decode cX11_failed 15 = .ok (.bipush (-10), 2) := by decide +kernel
theorem dX11_failed_17 : decode cX11_failed 17 = .ok (.iload_n 1, 1) := by decide +kernel
theorem dX11_failed_18 : decode cX11_failed 18 = .ok (.isub, 1) := by decide +kernel
theorem dX11_failed_19 : decode cX11_failed 19 = .ok (.ireturn, 1) := by decide +kernel
def F_X11_failed (d : Nat) (v0 : Option Nm) (v1 : Int32) (h : MH) (u : Nat) (Q : Int32 → MH → Prop) : Prop :=
  pV h v0 10 12 (jI v1) fun h =>
  gI h v0 10 13 fun x1 =>
  pV h v0 10 13 (jI (x1 + 1)) fun h =>
  Q ((-10) - v1) h
set_option maxRecDepth 20000 in
theorem E_X11_failed {d : Nat} {v0 : Option Nm} {v1 : Int32} {h : MH} {u : Nat} {Q : Int32 → MH → Prop} (H : F_X11_failed d v0 v1 h u Q) : T u_X11_failed d 0 [some (jR v0), some (jI v1)] [] h u (qI Q) := by
  unfold F_X11_failed at H
  refine T_aload_n (pc := 0) dX11_failed_0 rfl rfl ?_
  refine T_iload_n (pc := 1) dX11_failed_1 rfl rfl ?_
  refine T_pV (pc := 2) fa_X11_326 dX11_failed_2 trivial (pV_mono (fun h H => ?_) H)
  refine T_aload_n (pc := 5) dX11_failed_5 rfl rfl ?_
  refine T_dup (pc := 6) rfl dX11_failed_6 ?_
  refine T_gI (pc := 7) fa_X11_338 dX11_failed_7 (gI_mono (fun x1 H => ?_) H)
  refine T_iconst (pc := 10) (v := 1) dX11_failed_10 (by decide) ?_
  refine T_iadd (pc := 11) dX11_failed_11 ?_
  refine T_pV (pc := 12) fa_X11_338 dX11_failed_12 trivial (pV_mono (fun h H => ?_) H)
  refine T_bipush (pc := 15) (v := (-10)) dX11_failed_15 (by decide) ?_
  refine T_iload_n (pc := 17) dX11_failed_17 rfl rfl ?_
  refine T_isub (pc := 18) dX11_failed_18 ?_
  exact T_ireturn (pc := 19) rfl rfl dX11_failed_19 H
theorem I_X11_failed {d : Nat} {v0 : Option Nm} {v1 : Int32} {h : MH} {u : Nat} {K : Int32 → MH → Nat → Prop} (u1 : Nat) (hu : u1 ≤ u) (H : F_X11_failed d v0 v1 h u1 (fun x h2 => K x h2 (u - u1))) : iI d u_X11_failed [jR v0, jI v1] h u K := inv.of u1 hu (Ct.of (by decide +kernel) rfl (Nat.le_of_ble_eq_true rfl) rfl (E_X11_failed H))
theorem J_X11_failed {d : Nat} {v0 : Option Nm} {v1 : Int32} {h : MH} {u : Nat} {K : Int32 → MH → Prop} (H : F_X11_failed d v0 v1 h 0 K) : iI d u_X11_failed [jR v0, jI v1] h u (fun x h2 u2 => K x h2 ∧ u2 = u) := jiI (by decide +kernel) rfl (Nat.le_of_ble_eq_true rfl) rfl (E_X11_failed H)
theorem dX11_array_0 : decode cX11_array 0 = .ok (.aload_n 0, 1) := by decide +kernel
theorem dX11_array_1 : decode cX11_array 1 = .ok (.getfield 12, 3) := by decide +kernel
theorem dX11_array_4 : decode cX11_array 4 = .ok (.iload_n 1, 1) := by decide +kernel
theorem dX11_array_5 : decode cX11_array 5 = .ok (.i2l, 1) := by decide +kernel
theorem dX11_array_6 : decode cX11_array 6 = .ok (.invokevirtual 118, 3) := by decide +kernel
theorem dX11_array_9 : decode cX11_array 9 = .ok (.astore 4, 2) := by decide +kernel
theorem dX11_array_11 : decode cX11_array 11 = .ok (.aload 4, 2) := by decide +kernel
theorem dX11_array_13 : decode cX11_array 13 = .ok (.ifnonnull 5, 3) := by decide +kernel
theorem dX11_array_16 : decode cX11_array 16 = .ok (.iconst (-1), 1) := by decide +kernel
theorem dX11_array_17 : decode cX11_array 17 = .ok (.ireturn, 1) := by decide +kernel
theorem dX11_array_18 : decode cX11_array 18 = .ok (.aload 4, 2) := by decide +kernel
theorem dX11_array_20 : decode cX11_array 20 = .ok (.getfield 252, 3) := by decide +kernel
theorem dX11_array_23 : decode cX11_array 23 = .ok (.getfield 192, 3) := by decide +kernel
theorem dX11_array_26 : decode cX11_array 26 = .ok (.ifCond .eq 6, 3) := by decide +kernel
theorem dX11_array_29 : decode cX11_array 29 = .ok (.bipush (-3), 2) := by decide +kernel
theorem dX11_array_31 : decode cX11_array 31 = .ok (.ireturn, 1) := by decide +kernel
theorem dX11_array_32 : decode cX11_array 32 = .ok (.aload 4, 2) := by decide +kernel
theorem dX11_array_34 : decode cX11_array 34 = .ok (.iload_n 2, 1) := by decide +kernel
theorem dX11_array_35 : decode cX11_array 35 = .ok (.invokevirtual 258, 3) := by decide +kernel
theorem dX11_array_38 : decode cX11_array 38 = .ok (.ifCond .ne 9, 3) := by decide +kernel
theorem dX11_array_41 : decode cX11_array 41 = .ok (.aload_n 0, 1) := by decide +kernel
theorem dX11_array_42 : decode cX11_array 42 = .ok (.iconst 2, 1) := by decide +kernel
theorem dX11_array_43 : decode cX11_array 43 = .ok (.invokevirtual 72, 3) := by decide +kernel
theorem dX11_array_46 : decode cX11_array 46 = .ok (.ireturn, 1) := by decide +kernel
theorem dX11_array_47 : decode cX11_array 47 = .ok (.aload 4, 2) := by decide +kernel
theorem dX11_array_49 : decode cX11_array 49 = .ok (.getfield 264, 3) := by decide +kernel
theorem dX11_array_52 : decode cX11_array 52 = .ok (.getfield 281, 3) := by decide +kernel
theorem dX11_array_55 : decode cX11_array 55 = .ok (.iload_n 2, 1) := by decide +kernel
theorem dX11_array_56 : decode cX11_array 56 = .ok (.iaload, 1) := by decide +kernel
theorem dX11_array_57 : decode cX11_array 57 = .ok (.bipush 9, 2) := by decide +kernel
theorem dX11_array_59 : decode cX11_array 59 = .ok (.if_icmp .eq 9, 3) := by decide +kernel
theorem dX11_array_62 : decode cX11_array 62 = .ok (.aload_n 0, 1) := by decide +kernel
theorem dX11_array_63 : decode cX11_array 63 = .ok (.iconst 3, 1) := by decide +kernel
theorem dX11_array_64 : decode cX11_array 64 = .ok (.invokevirtual 72, 3) := by decide +kernel
theorem dX11_array_67 : decode cX11_array 67 = .ok (.ireturn, 1) := by decide +kernel
theorem dX11_array_68 : decode cX11_array 68 = .ok (.aload_n 0, 1) := by decide +kernel
theorem dX11_array_69 : decode cX11_array 69 = .ok (.getfield 12, 3) := by decide +kernel
theorem dX11_array_72 : decode cX11_array 72 = .ok (.aload 4, 2) := by decide +kernel
theorem dX11_array_74 : decode cX11_array 74 = .ok (.getfield 284, 3) := by decide +kernel
theorem dX11_array_77 : decode cX11_array 77 = .ok (.iload_n 2, 1) := by decide +kernel
theorem dX11_array_78 : decode cX11_array 78 = .ok (.laload, 1) := by decide +kernel
theorem dX11_array_79 : decode cX11_array 79 = .ok (.invokevirtual 86, 3) := by decide +kernel
theorem dX11_array_82 : decode cX11_array 82 = .ok (.astore 5, 2) := by decide +kernel
theorem dX11_array_84 : decode cX11_array 84 = .ok (.aload 5, 2) := by decide +kernel
theorem dX11_array_86 : decode cX11_array 86 = .ok (.ifnonnull 9, 3) := by decide +kernel
theorem dX11_array_89 : decode cX11_array 89 = .ok (.aload_n 0, 1) := by decide +kernel
theorem dX11_array_90 : decode cX11_array 90 = .ok (.iconst 1, 1) := by decide +kernel
theorem dX11_array_91 : decode cX11_array 91 = .ok (.invokevirtual 72, 3) := by decide +kernel
theorem dX11_array_94 : decode cX11_array 94 = .ok (.ireturn, 1) := by decide +kernel
theorem dX11_array_95 : decode cX11_array 95 = .ok (.iload_n 3, 1) := by decide +kernel
theorem dX11_array_96 : decode cX11_array 96 = .ok (.ifCond .eq 11, 3) := by decide +kernel
theorem dX11_array_99 : decode cX11_array 99 = .ok (.aload 5, 2) := by decide +kernel
theorem dX11_array_101 : decode cX11_array 101 = .ok (.getfield 80, 3) := by decide +kernel
theorem dX11_array_104 : decode cX11_array 104 = .ok (.goto 9, 3) := by decide +kernel
theorem dX11_array_107 : decode cX11_array 107 = .ok (.aload_n 0, 1) := by decide +kernel
theorem dX11_array_108 : decode cX11_array 108 = .ok (.aload 5, 2) := by decide +kernel
theorem dX11_array_110 : decode cX11_array 110 = .ok (.invokevirtual 147, 3) := by decide +kernel
theorem dX11_array_113 : decode cX11_array 113 = .ok (.ireturn, 1) := by decide +kernel
def F_X11_array (d : Nat) (v0 : Option Nm) (v1 : Int32) (v2 : Int32) (v3 : Int32) (h : MH) (u : Nat) (Q : Int32 → MH → Prop) : Prop :=
  gR h v0 10 0 fun x1 =>
  rc h x1 6 ∧ F_X7_findValue d x1 (v1.toInt64) h 0 fun x2 h =>
  nl x2 (
    Q (-1) h) (
    gR h x2 9 1 fun x3 =>
    gI h x3 3 1 fun x4 =>
    if x4 = 0 then
      rc h x2 9 ∧ F_X10_hasPart d x2 v2 h 0 fun x5 h =>
      if x5 = 0 then
        rc h v0 10 ∧ F_X11_failed d v0 2 h 0 fun x17 h =>
        Q x17 h
      else
        gR h x2 9 2 fun x6 =>
        gR h x6 2 2 fun x7 =>
        aI .int h x7 v2 fun x8 =>
        if x8 = 9 then
          gR h v0 10 0 fun x9 =>
          gR h x2 9 5 fun x10 =>
          aL h x10 v2 fun x11 =>
          rc h x9 6 ∧ F_X7_findRow d x9 x11 h 0 fun x12 h =>
          nl x12 (
            rc h v0 10 ∧ F_X11_failed d v0 1 h 0 fun x13 h =>
            Q x13 h) (
            if v3 = 0 then
              rc h v0 10 ∧ iI d u_X11_freeTwin [jR v0, jR x12] h u fun x14 h u =>
              Q x14 h
            else
              gI h x12 4 0 fun x15 =>
              Q x15 h)
        else
          rc h v0 10 ∧ F_X11_failed d v0 3 h 0 fun x16 h =>
          Q x16 h
    else
      Q (-3) h)
set_option maxRecDepth 20000 in
theorem E_X11_array {d : Nat} {v0 : Option Nm} {v1 : Int32} {v2 : Int32} {v3 : Int32} {h : MH} {u : Nat} {Q : Int32 → MH → Prop} (H : F_X11_array d v0 v1 v2 v3 h u Q) : T u_X11_array (d + 1) 0 [some (jR v0), some (jI v1), some (jI v2), some (jI v3), none, none] [] h u (qI Q) := by
  unfold F_X11_array at H
  refine T_aload_n (pc := 0) dX11_array_0 rfl rfl ?_
  refine T_gR (pc := 1) fa_X11_12 dX11_array_1 (gR_mono (fun x1 H => ?_) H)
  refine T_iload_n (pc := 4) dX11_array_4 rfl rfl ?_
  refine T_i2l (pc := 5) dX11_array_5 ?_
  obtain ⟨H0, H⟩ := H
  refine T_iV (pc := 6) (ci := 6) (av := [jL (v1.toInt64)]) (rest := []) (o := x1) dX11_array_6 mf_X7_findValue c_2_63 c_2_64 c_2_65 rfl rfl (Nat.le_of_ble_eq_true rfl) rfl H0 (iR_k (iR_m0 (fun x2 h H => ?_) (J_X7_findValue (d := d) H)))
  refine T_astore (pc := 9) (ls2 := [some (jR v0), some (jI v1), some (jI v2), some (jI v3), some (jR x2), none]) dX11_array_9 (Nat.le_of_ble_eq_true rfl) rfl ?_
  refine T_aload (pc := 11) dX11_array_11 rfl ?_
  refine T_ifnonnull (pc := 13) (tgt := 18) dX11_array_13 (by decide) (fun ho => ?_) (fun n ho => ?_)
  · replace H := nl_n ho H
    refine T_iconst (pc := 16) (v := (-1)) dX11_array_16 (by decide) ?_
    exact T_ireturn (pc := 17) rfl rfl dX11_array_17 H
  · replace H := nl_s ho H
    refine T_aload (pc := 18) dX11_array_18 rfl ?_
    refine T_gR (pc := 20) fa_X11_252 dX11_array_20 (gR_mono (fun x3 H => ?_) H)
    refine T_gI (pc := 23) fa_X11_192 dX11_array_23 (gI_mono (fun x4 H => ?_) H)
    refine T_if_eq (pc := 26) (tgt := 32) dX11_array_26 (by decide) (fun hc => ?_) (fun hc => ?_)
    · rw [if_pos hc] at H
      refine T_aload (pc := 32) dX11_array_32 rfl ?_
      refine T_iload_n (pc := 34) dX11_array_34 rfl rfl ?_
      obtain ⟨H0, H⟩ := H
      refine T_iV (pc := 35) (ci := 9) (av := [jI v2]) (rest := []) (o := x2) dX11_array_35 mf_X10_hasPart c_3_228 c_3_229 c_3_230 rfl rfl (Nat.le_of_ble_eq_true rfl) rfl H0 (iI_k (iI_m0 (fun x5 h H => ?_) (J_X10_hasPart (d := d) H)))
      refine T_if_ne (pc := 38) (tgt := 47) dX11_array_38 (by decide) (fun hc => ?_) (fun hc => ?_)
      · rw [if_neg hc] at H
        refine T_aload (pc := 47) dX11_array_47 rfl ?_
        refine T_gR (pc := 49) fa_X11_264 dX11_array_49 (gR_mono (fun x6 H => ?_) H)
        refine T_gR (pc := 52) fa_X11_281 dX11_array_52 (gR_mono (fun x7 H => ?_) H)
        refine T_iload_n (pc := 55) dX11_array_55 rfl rfl ?_
        refine T_aI (pc := 56) dX11_array_56 (aI_mono (fun x8 H => ?_) H)
        refine T_bipush (pc := 57) (v := 9) dX11_array_57 (by decide) ?_
        refine T_icmp_eq (pc := 59) (tgt := 68) dX11_array_59 (by decide) (fun hc => ?_) (fun hc => ?_)
        · rw [if_pos hc] at H
          refine T_aload_n (pc := 68) dX11_array_68 rfl rfl ?_
          refine T_gR (pc := 69) fa_X11_12 dX11_array_69 (gR_mono (fun x9 H => ?_) H)
          refine T_aload (pc := 72) dX11_array_72 rfl ?_
          refine T_gR (pc := 74) fa_X11_284 dX11_array_74 (gR_mono (fun x10 H => ?_) H)
          refine T_iload_n (pc := 77) dX11_array_77 rfl rfl ?_
          refine T_aL (pc := 78) dX11_array_78 (aL_mono (fun x11 H => ?_) H)
          obtain ⟨H0, H⟩ := H
          refine T_iV (pc := 79) (ci := 6) (av := [jL x11]) (rest := []) (o := x9) dX11_array_79 mf_X7_findRow c_2_1 c_2_2 c_2_3 rfl rfl (Nat.le_of_ble_eq_true rfl) rfl H0 (iR_k (iR_m0 (fun x12 h H => ?_) (J_X7_findRow (d := d) H)))
          refine T_astore (pc := 82) (ls2 := [some (jR v0), some (jI v1), some (jI v2), some (jI v3), some (jR x2), some (jR x12)]) dX11_array_82 (Nat.le_of_ble_eq_true rfl) rfl ?_
          refine T_aload (pc := 84) dX11_array_84 rfl ?_
          refine T_ifnonnull (pc := 86) (tgt := 95) dX11_array_86 (by decide) (fun ho => ?_) (fun n ho => ?_)
          · replace H := nl_n ho H
            refine T_aload_n (pc := 89) dX11_array_89 rfl rfl ?_
            refine T_iconst (pc := 90) (v := 1) dX11_array_90 (by decide) ?_
            obtain ⟨H0, H⟩ := H
            refine T_iV (pc := 91) (ci := 10) (av := [jI 1]) (rest := []) (o := v0) dX11_array_91 mf_X11_failed c_1_196 c_1_198 pr_X11_failed rfl rfl (Nat.le_of_ble_eq_true rfl) rfl H0 (iI_k (iI_m0 (fun x13 h H => ?_) (J_X11_failed (d := d) H)))
            exact T_ireturn (pc := 94) rfl rfl dX11_array_94 H
          · replace H := nl_s ho H
            refine T_iload_n (pc := 95) dX11_array_95 rfl rfl ?_
            refine T_if_eq (pc := 96) (tgt := 107) dX11_array_96 (by decide) (fun hc => ?_) (fun hc => ?_)
            · rw [if_pos hc] at H
              refine T_aload_n (pc := 107) dX11_array_107 rfl rfl ?_
              refine T_aload (pc := 108) dX11_array_108 rfl ?_
              obtain ⟨H0, H⟩ := H
              refine T_iV (pc := 110) (ci := 10) (av := [jR x12]) (rest := []) (o := v0) dX11_array_110 mf_X11_freeTwin c_2_101 c_2_103 pr_X11_freeTwin rfl rfl (Nat.le_of_ble_eq_true rfl) rfl H0 (iI_k (iI_mono (fun x14 h u H => ?_) H))
              exact T_ireturn (pc := 113) rfl rfl dX11_array_113 H
            · rw [if_neg hc] at H
              refine T_aload (pc := 99) dX11_array_99 rfl ?_
              refine T_gI (pc := 101) fa_X11_80 dX11_array_101 (gI_mono (fun x15 H => ?_) H)
              refine T_goto (pc := 104) (tgt := 113) dX11_array_104 (by decide) ?_
              exact T_ireturn (pc := 113) rfl rfl dX11_array_113 H
        · rw [if_neg hc] at H
          refine T_aload_n (pc := 62) dX11_array_62 rfl rfl ?_
          refine T_iconst (pc := 63) (v := 3) dX11_array_63 (by decide) ?_
          obtain ⟨H0, H⟩ := H
          refine T_iV (pc := 64) (ci := 10) (av := [jI 3]) (rest := []) (o := v0) dX11_array_64 mf_X11_failed c_1_196 c_1_198 pr_X11_failed rfl rfl (Nat.le_of_ble_eq_true rfl) rfl H0 (iI_k (iI_m0 (fun x16 h H => ?_) (J_X11_failed (d := d) H)))
          exact T_ireturn (pc := 67) rfl rfl dX11_array_67 H
      · rw [if_pos hc] at H
        refine T_aload_n (pc := 41) dX11_array_41 rfl rfl ?_
        refine T_iconst (pc := 42) (v := 2) dX11_array_42 (by decide) ?_
        obtain ⟨H0, H⟩ := H
        refine T_iV (pc := 43) (ci := 10) (av := [jI 2]) (rest := []) (o := v0) dX11_array_43 mf_X11_failed c_1_196 c_1_198 pr_X11_failed rfl rfl (Nat.le_of_ble_eq_true rfl) rfl H0 (iI_k (iI_m0 (fun x17 h H => ?_) (J_X11_failed (d := d) H)))
        exact T_ireturn (pc := 46) rfl rfl dX11_array_46 H
    · rw [if_neg hc] at H
      refine T_bipush (pc := 29) (v := (-3)) dX11_array_29 (by decide) ?_
      exact T_ireturn (pc := 31) rfl rfl dX11_array_31 H
theorem I_X11_array {d : Nat} {v0 : Option Nm} {v1 : Int32} {v2 : Int32} {v3 : Int32} {h : MH} {u : Nat} {K : Int32 → MH → Nat → Prop} (u1 : Nat) (hu : u1 ≤ u) (H : F_X11_array d v0 v1 v2 v3 h u1 (fun x h2 => K x h2 (u - u1))) : iI (d + 1) u_X11_array [jR v0, jI v1, jI v2, jI v3] h u K := inv.of u1 hu (Ct.of (by decide +kernel) rfl (Nat.le_of_ble_eq_true rfl) rfl (E_X11_array H))
theorem dX5_hasCell_0 : decode cX5_hasCell 0 = .ok (.iload_n 1, 1) := by decide +kernel
theorem dX5_hasCell_1 : decode cX5_hasCell 1 = .ok (.ifCond .lt 16, 3) := by decide +kernel
theorem dX5_hasCell_4 : decode cX5_hasCell 4 = .ok (.iload_n 1, 1) := by decide +kernel
theorem dX5_hasCell_5 : decode cX5_hasCell 5 = .ok (.aload_n 0, 1) := by decide +kernel
theorem dX5_hasCell_6 : decode cX5_hasCell 6 = .ok (.getfield 16, 3) := by decide +kernel
theorem dX5_hasCell_9 : decode cX5_hasCell 9 = .ok (.arraylength, 1) := by decide +kernel
theorem dX5_hasCell_10 : decode cX5_hasCell 10 = .ok (.if_icmp .ge 7, 3) := by decide +kernel
theorem dX5_hasCell_13 : decode cX5_hasCell 13 = .ok (.iconst 1, 1) := by decide +kernel
theorem dX5_hasCell_14 : decode cX5_hasCell 14 = .ok (.goto 4, 3) := by decide +kernel
theorem dX5_hasCell_17 : decode cX5_hasCell 17 = .ok (.iconst 0, 1) := by decide +kernel
theorem dX5_hasCell_18 : decode cX5_hasCell 18 = .ok (.ireturn, 1) := by decide +kernel
def F_X5_hasCell (d : Nat) (v0 : Option Nm) (v1 : Int32) (h : MH) (u : Nat) (Q : Int32 → MH → Prop) : Prop :=
  if v1 < 0 then
    nz 0 ∧ Q 0 h
  else
    gR h v0 4 2 fun x1 =>
    aN h x1 fun x2 =>
    if x2 ≤ v1 then
      nz 0 ∧ Q 0 h
    else
      nz 1 ∧ Q 1 h
set_option maxRecDepth 20000 in
theorem E_X5_hasCell {d : Nat} {v0 : Option Nm} {v1 : Int32} {h : MH} {u : Nat} {Q : Int32 → MH → Prop} (H : F_X5_hasCell d v0 v1 h u Q) : T u_X5_hasCell d 0 [some (jR v0), some (jI v1)] [] h u (qI Q) := by
  unfold F_X5_hasCell at H
  refine T_iload_n (pc := 0) dX5_hasCell_0 rfl rfl ?_
  refine T_if_lt (pc := 1) (tgt := 17) dX5_hasCell_1 (by decide) (fun hc => ?_) (fun hc => ?_)
  · rw [if_pos hc] at H
    refine T_iconst (pc := 17) (v := 0) dX5_hasCell_17 (by decide) ?_
    exact T_ireturn (pc := 18) rfl (nz_nar H.1) dX5_hasCell_18 H.2
  · rw [if_neg hc] at H
    refine T_iload_n (pc := 4) dX5_hasCell_4 rfl rfl ?_
    refine T_aload_n (pc := 5) dX5_hasCell_5 rfl rfl ?_
    refine T_gR (pc := 6) fa_X5_16 dX5_hasCell_6 (gR_mono (fun x1 H => ?_) H)
    refine T_aN (pc := 9) dX5_hasCell_9 (aN_mono (fun x2 H => ?_) H)
    refine T_icmp_ge (pc := 10) (tgt := 17) dX5_hasCell_10 (by decide) (fun hc => ?_) (fun hc => ?_)
    · rw [if_pos hc] at H
      refine T_iconst (pc := 17) (v := 0) dX5_hasCell_17 (by decide) ?_
      exact T_ireturn (pc := 18) rfl (nz_nar H.1) dX5_hasCell_18 H.2
    · rw [if_neg hc] at H
      refine T_iconst (pc := 13) (v := 1) dX5_hasCell_13 (by decide) ?_
      refine T_goto (pc := 14) (tgt := 18) dX5_hasCell_14 (by decide) ?_
      exact T_ireturn (pc := 18) rfl (nz_nar H.1) dX5_hasCell_18 H.2
theorem I_X5_hasCell {d : Nat} {v0 : Option Nm} {v1 : Int32} {h : MH} {u : Nat} {K : Int32 → MH → Nat → Prop} (u1 : Nat) (hu : u1 ≤ u) (H : F_X5_hasCell d v0 v1 h u1 (fun x h2 => K x h2 (u - u1))) : iI d u_X5_hasCell [jR v0, jI v1] h u K := inv.of u1 hu (Ct.of (by decide +kernel) rfl (Nat.le_of_ble_eq_true rfl) rfl (E_X5_hasCell H))
theorem J_X5_hasCell {d : Nat} {v0 : Option Nm} {v1 : Int32} {h : MH} {u : Nat} {K : Int32 → MH → Prop} (H : F_X5_hasCell d v0 v1 h 0 K) : iI d u_X5_hasCell [jR v0, jI v1] h u (fun x h2 u2 => K x h2 ∧ u2 = u) := jiI (by decide +kernel) rfl (Nat.le_of_ble_eq_true rfl) rfl (E_X5_hasCell H)
theorem dX11_thingFault_0 : decode cX11_thingFault 0 = .ok (.aload_n 0, 1) := by decide +kernel
theorem dX11_thingFault_1 : decode cX11_thingFault 1 = .ok (.getfield 93, 3) := by decide +kernel
theorem dX11_thingFault_4 : decode cX11_thingFault 4 = .ok (.bipush 8, 2) := by decide +kernel
theorem dX11_thingFault_6 : decode cX11_thingFault 6 = .ok (.if_icmp .eq 5, 3) := by decide +kernel
theorem dX11_thingFault_9 : decode cX11_thingFault 9 = .ok (.iconst 3, 1) := by decide +kernel
theorem dX11_thingFault_10 : decode cX11_thingFault 10 = .ok (.ireturn, 1) := by decide +kernel
theorem dX11_thingFault_11 : decode cX11_thingFault 11 = .ok (.aload_n 0, 1) := by decide +kernel
theorem dX11_thingFault_12 : decode cX11_thingFault 12 = .ok (.iload_n 1, 1) := by decide +kernel
theorem dX11_thingFault_13 : decode cX11_thingFault 13 = .ok (.invokevirtual 341, 3) := by decide +kernel
theorem dX11_thingFault_16 : decode cX11_thingFault 16 = .ok (.ifCond .eq 7, 3) := by decide +kernel
theorem dX11_thingFault_19 : decode cX11_thingFault 19 = .ok (.iconst 0, 1) := by decide +kernel
theorem dX11_thingFault_20 : decode cX11_thingFault 20 = .ok (.goto 4, 3) := by decide +kernel
theorem dX11_thingFault_23 : decode cX11_thingFault 23 = .ok (.iconst 2, 1) := by decide +kernel
theorem dX11_thingFault_24 : decode cX11_thingFault 24 = .ok (.ireturn, 1) := by decide +kernel
def F_X11_thingFault (d : Nat) (v0 : Option Nm) (v1 : Int32) (h : MH) (u : Nat) (Q : Int32 → MH → Prop) : Prop :=
  gI h v0 4 1 fun x1 =>
  if x1 = 8 then
    rc h v0 4 ∧ F_X5_hasCell d v0 v1 h 0 fun x2 h =>
    if x2 = 0 then
      Q 2 h
    else
      Q 0 h
  else
    Q 3 h
set_option maxRecDepth 20000 in
theorem E_X11_thingFault {d : Nat} {v0 : Option Nm} {v1 : Int32} {h : MH} {u : Nat} {Q : Int32 → MH → Prop} (H : F_X11_thingFault d v0 v1 h u Q) : T u_X11_thingFault (d + 1) 0 [some (jR v0), some (jI v1)] [] h u (qI Q) := by
  unfold F_X11_thingFault at H
  refine T_aload_n (pc := 0) dX11_thingFault_0 rfl rfl ?_
  refine T_gI (pc := 1) fa_X11_93 dX11_thingFault_1 (gI_mono (fun x1 H => ?_) H)
  refine T_bipush (pc := 4) (v := 8) dX11_thingFault_4 (by decide) ?_
  refine T_icmp_eq (pc := 6) (tgt := 11) dX11_thingFault_6 (by decide) (fun hc => ?_) (fun hc => ?_)
  · rw [if_pos hc] at H
    refine T_aload_n (pc := 11) dX11_thingFault_11 rfl rfl ?_
    refine T_iload_n (pc := 12) dX11_thingFault_12 rfl rfl ?_
    obtain ⟨H0, H⟩ := H
    refine T_iV (pc := 13) (ci := 4) (av := [jI v1]) (rest := []) (o := v0) dX11_thingFault_13 mf_X5_hasCell c_2_11 c_2_12 c_2_13 rfl rfl (Nat.le_of_ble_eq_true rfl) rfl H0 (iI_k (iI_m0 (fun x2 h H => ?_) (J_X5_hasCell (d := d) H)))
    refine T_if_eq (pc := 16) (tgt := 23) dX11_thingFault_16 (by decide) (fun hc => ?_) (fun hc => ?_)
    · rw [if_pos hc] at H
      refine T_iconst (pc := 23) (v := 2) dX11_thingFault_23 (by decide) ?_
      exact T_ireturn (pc := 24) rfl rfl dX11_thingFault_24 H
    · rw [if_neg hc] at H
      refine T_iconst (pc := 19) (v := 0) dX11_thingFault_19 (by decide) ?_
      refine T_goto (pc := 20) (tgt := 24) dX11_thingFault_20 (by decide) ?_
      exact T_ireturn (pc := 24) rfl rfl dX11_thingFault_24 H
  · rw [if_neg hc] at H
    refine T_iconst (pc := 9) (v := 3) dX11_thingFault_9 (by decide) ?_
    exact T_ireturn (pc := 10) rfl rfl dX11_thingFault_10 H
theorem I_X11_thingFault {d : Nat} {v0 : Option Nm} {v1 : Int32} {h : MH} {u : Nat} {K : Int32 → MH → Nat → Prop} (u1 : Nat) (hu : u1 ≤ u) (H : F_X11_thingFault d v0 v1 h u1 (fun x h2 => K x h2 (u - u1))) : iI (d + 1) u_X11_thingFault [jR v0, jI v1] h u K := inv.of u1 hu (Ct.of (by decide +kernel) rfl (Nat.le_of_ble_eq_true rfl) rfl (E_X11_thingFault H))
theorem J_X11_thingFault {d : Nat} {v0 : Option Nm} {v1 : Int32} {h : MH} {u : Nat} {K : Int32 → MH → Prop} (H : F_X11_thingFault d v0 v1 h 0 K) : iI (d + 1) u_X11_thingFault [jR v0, jI v1] h u (fun x h2 u2 => K x h2 ∧ u2 = u) := jiI (by decide +kernel) rfl (Nat.le_of_ble_eq_true rfl) rfl (E_X11_thingFault H)
theorem dX11_at_0 : decode cX11_at 0 = .ok (.aload_n 0, 1) := by decide +kernel
theorem dX11_at_1 : decode cX11_at 1 = .ok (.getfield 12, 3) := by decide +kernel
theorem dX11_at_4 : decode cX11_at 4 = .ok (.iload_n 1, 1) := by decide +kernel
theorem dX11_at_5 : decode cX11_at 5 = .ok (.i2l, 1) := by decide +kernel
theorem dX11_at_6 : decode cX11_at 6 = .ok (.invokevirtual 86, 3) := by decide +kernel
theorem dX11_at_9 : decode cX11_at 9 = .ok (.astore_n 3, 1) := by decide +kernel
theorem dX11_at_10 : decode cX11_at 10 = .ok (.aload_n 3, 1) := by decide +kernel
theorem dX11_at_11 : decode cX11_at 11 = .ok (.ifnonnull 5, 3) := by decide +kernel
theorem dX11_at_14 : decode cX11_at 14 = .ok (.iconst (-1), 1) := by decide +kernel
theorem dX11_at_15 : decode cX11_at 15 = .ok (.ireturn, 1) := by decide +kernel
theorem dX11_at_16 : decode cX11_at 16 = .ok (.aload_n 3, 1) := by decide +kernel
theorem dX11_at_17 : decode cX11_at 17 = .ok (.iload_n 2, 1) := by decide +kernel
theorem dX11_at_18 : decode cX11_at 18 = .ok (.invokestatic 126, 3) := by decide +kernel
theorem dX11_at_21 : decode cX11_at 21 = .ok (.istore 4, 2) := by decide +kernel
theorem dX11_at_23 : decode cX11_at 23 = .ok (.iload 4, 2) := by decide +kernel
theorem dX11_at_25 : decode cX11_at 25 = .ok (.ifCond .eq 10, 3) := by decide +kernel
theorem dX11_at_28 : decode cX11_at 28 = .ok (.aload_n 0, 1) := by decide +kernel
theorem dX11_at_29 : decode cX11_at 29 = .ok (.iload 4, 2) := by decide +kernel
theorem dX11_at_31 : decode cX11_at 31 = .ok (.invokevirtual 72, 3) := by decide +kernel
theorem dX11_at_34 : decode cX11_at 34 = .ok (.ireturn, 1) := by decide +kernel
theorem dX11_at_35 : decode cX11_at 35 = .ok (.aload_n 3, 1) := by decide +kernel
theorem dX11_at_36 : decode cX11_at 36 = .ok (.getfield 93, 3) := by decide +kernel
theorem dX11_at_39 : decode cX11_at 39 = .ok (.aload_n 3, 1) := by decide +kernel
theorem dX11_at_40 : decode cX11_at 40 = .ok (.getfield 100, 3) := by decide +kernel
theorem dX11_at_43 : decode cX11_at 43 = .ok (.iload_n 2, 1) := by decide +kernel
theorem dX11_at_44 : decode cX11_at 44 = .ok (.laload, 1) := by decide +kernel
theorem dX11_at_45 : decode cX11_at 45 = .ok (.invokestatic 130, 3) := by decide +kernel
theorem dX11_at_48 : decode cX11_at 48 = .ok (.l2i, 1) := by decide +kernel
theorem dX11_at_49 : decode cX11_at 49 = .ok (.ireturn, 1) := by decide +kernel
def F_X11_at (d : Nat) (v0 : Option Nm) (v1 : Int32) (v2 : Int32) (h : MH) (u : Nat) (Q : Int32 → MH → Prop) : Prop :=
  gR h v0 10 0 fun x1 =>
  rc h x1 6 ∧ F_X7_findRow (d + 1) x1 (v1.toInt64) h 0 fun x2 h =>
  nl x2 (
    Q (-1) h) (
    F_X11_thingFault d x2 v2 h 0 fun x3 h =>
    if x3 = 0 then
      gI h x2 4 1 fun x4 =>
      gR h x2 4 2 fun x5 =>
      aL h x5 v2 fun x6 =>
      F_X4_tell (d + 1) x4 x6 h 0 fun x7 h =>
      Q (x7.toInt32) h
    else
      rc h v0 10 ∧ F_X11_failed (d + 1) v0 x3 h 0 fun x8 h =>
      Q x8 h)
set_option maxRecDepth 20000 in
theorem E_X11_at {d : Nat} {v0 : Option Nm} {v1 : Int32} {v2 : Int32} {h : MH} {u : Nat} {Q : Int32 → MH → Prop} (H : F_X11_at d v0 v1 v2 h u Q) : T u_X11_at (d + 2) 0 [some (jR v0), some (jI v1), some (jI v2), none, none] [] h u (qI Q) := by
  unfold F_X11_at at H
  refine T_aload_n (pc := 0) dX11_at_0 rfl rfl ?_
  refine T_gR (pc := 1) fa_X11_12 dX11_at_1 (gR_mono (fun x1 H => ?_) H)
  refine T_iload_n (pc := 4) dX11_at_4 rfl rfl ?_
  refine T_i2l (pc := 5) dX11_at_5 ?_
  obtain ⟨H0, H⟩ := H
  refine T_iV (pc := 6) (ci := 6) (av := [jL (v1.toInt64)]) (rest := []) (o := x1) dX11_at_6 mf_X7_findRow c_2_1 c_2_2 c_2_3 rfl rfl (Nat.le_of_ble_eq_true rfl) rfl H0 (iR_k (iR_m0 (fun x2 h H => ?_) (J_X7_findRow (d := (d + 1)) H)))
  refine T_astore_n (pc := 9) (ls2 := [some (jR v0), some (jI v1), some (jI v2), some (jR x2), none]) dX11_at_9 rfl (Nat.le_of_ble_eq_true rfl) rfl ?_
  refine T_aload_n (pc := 10) dX11_at_10 rfl rfl ?_
  refine T_ifnonnull (pc := 11) (tgt := 16) dX11_at_11 (by decide) (fun ho => ?_) (fun n ho => ?_)
  · replace H := nl_n ho H
    refine T_iconst (pc := 14) (v := (-1)) dX11_at_14 (by decide) ?_
    exact T_ireturn (pc := 15) rfl rfl dX11_at_15 H
  · replace H := nl_s ho H
    refine T_aload_n (pc := 16) dX11_at_16 rfl rfl ?_
    refine T_iload_n (pc := 17) dX11_at_17 rfl rfl ?_
    refine T_invS (pc := 18) (av := [jR x2, jI v2]) (rest := []) dX11_at_18 mf_X11_thingFault c_2_67 c_2_68 rfl (Nat.le_of_ble_eq_true rfl) rfl (iI_k (iI_m0 (fun x3 h H => ?_) (J_X11_thingFault (d := d) H)))
    refine T_istore (pc := 21) (ls2 := [some (jR v0), some (jI v1), some (jI v2), some (jR x2), some (jI x3)]) dX11_at_21 (Nat.le_of_ble_eq_true rfl) rfl ?_
    refine T_iload (pc := 23) dX11_at_23 rfl ?_
    refine T_if_eq (pc := 25) (tgt := 35) dX11_at_25 (by decide) (fun hc => ?_) (fun hc => ?_)
    · rw [if_pos hc] at H
      refine T_aload_n (pc := 35) dX11_at_35 rfl rfl ?_
      refine T_gI (pc := 36) fa_X11_93 dX11_at_36 (gI_mono (fun x4 H => ?_) H)
      refine T_aload_n (pc := 39) dX11_at_39 rfl rfl ?_
      refine T_gR (pc := 40) fa_X11_100 dX11_at_40 (gR_mono (fun x5 H => ?_) H)
      refine T_iload_n (pc := 43) dX11_at_43 rfl rfl ?_
      refine T_aL (pc := 44) dX11_at_44 (aL_mono (fun x6 H => ?_) H)
      refine T_invS (pc := 45) (av := [jI x4, jL x6]) (rest := []) dX11_at_45 mf_X4_tell c_2_74 c_2_75 rfl (Nat.le_of_ble_eq_true rfl) rfl (iL_k (iL_m0 (fun x7 h H => ?_) (J_X4_tell (d := (d + 1)) H)))
      refine T_l2i (pc := 48) dX11_at_48 ?_
      exact T_ireturn (pc := 49) rfl rfl dX11_at_49 H
    · rw [if_neg hc] at H
      refine T_aload_n (pc := 28) dX11_at_28 rfl rfl ?_
      refine T_iload (pc := 29) dX11_at_29 rfl ?_
      obtain ⟨H0, H⟩ := H
      refine T_iV (pc := 31) (ci := 10) (av := [jI x3]) (rest := []) (o := v0) dX11_at_31 mf_X11_failed c_1_196 c_1_198 pr_X11_failed rfl rfl (Nat.le_of_ble_eq_true rfl) rfl H0 (iI_k (iI_m0 (fun x8 h H => ?_) (J_X11_failed (d := (d + 1)) H)))
      exact T_ireturn (pc := 34) rfl rfl dX11_at_34 H
theorem I_X11_at {d : Nat} {v0 : Option Nm} {v1 : Int32} {v2 : Int32} {h : MH} {u : Nat} {K : Int32 → MH → Nat → Prop} (u1 : Nat) (hu : u1 ≤ u) (H : F_X11_at d v0 v1 v2 h u1 (fun x h2 => K x h2 (u - u1))) : iI (d + 2) u_X11_at [jR v0, jI v1, jI v2] h u K := inv.of u1 hu (Ct.of (by decide +kernel) rfl (Nat.le_of_ble_eq_true rfl) rfl (E_X11_at H))
theorem J_X11_at {d : Nat} {v0 : Option Nm} {v1 : Int32} {v2 : Int32} {h : MH} {u : Nat} {K : Int32 → MH → Prop} (H : F_X11_at d v0 v1 v2 h 0 K) : iI (d + 2) u_X11_at [jR v0, jI v1, jI v2] h u (fun x h2 u2 => K x h2 ∧ u2 = u) := jiI (by decide +kernel) rfl (Nat.le_of_ble_eq_true rfl) rfl (E_X11_at H)
