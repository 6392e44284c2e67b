theorem dX12_record_0 : decode cX12_record 0 = .ok (.iload_n 1, 1) := by decide +kernel
theorem dX12_record_1 : decode cX12_record 1 = .ok (.iconst 0, 1) := by decide +kernel
theorem dX12_record_2 : decode cX12_record 2 = .ok (.iconst 4, 1) := by decide +kernel
theorem dX12_record_3 : decode cX12_record 3 = .ok (.invokestatic 156, 3) := by decide +kernel
theorem dX12_record_6 : decode cX12_record 6 = .ok (.ifCond .eq 12, 3) := by decide +kernel
theorem dX12_record_9 : decode cX12_record 9 = .ok (.aload_n 0, 1) := by decide +kernel
theorem dX12_record_10 : decode cX12_record 10 = .ok (.iconst 0, 1) := by decide +kernel
theorem dX12_record_11 : decode cX12_record 11 = .ok (.iload_n 1, 1) := by decide +kernel
theorem dX12_record_12 : decode cX12_record 12 = .ok (.invokevirtual 202, 3) := by decide +kernel
theorem dX12_record_15 : decode cX12_record 15 = .ok (.goto 5, 3) := by decide +kernel
theorem dX12_record_18 : decode cX12_record 18 = .ok (.bipush (-2), 2) := by decide +kernel
theorem dX12_record_20 : decode cX12_record 20 = .ok (.ireturn, 1) := by decide +kernel
def F_X12_record (d : Nat) (v0 : Option Nm) (v1 : Int32) (h : MH) (u : Nat) (Q : Int32 → MH → Prop) : Prop :=
  iI d u_X12_in [jI v1, jI 0, jI 4] h u fun x1 h u =>
  if x1 = 0 then
    Q (-2) h
  else
    rc h v0 11 ∧ iI d u_X12_newKind [jR v0, jI 0, jI v1] h u fun x2 h u =>
    Q x2 h
set_option maxRecDepth 20000 in
theorem E_X12_record {d : Nat} {v0 : Option Nm} {v1 : Int32} {h : MH} {u : Nat} {Q : Int32 → MH → Prop} (H : F_X12_record d v0 v1 h u Q) : T u_X12_record (d + 1) 0 [some (jR v0), some (jI v1)] [] h u (qI Q) := by
  unfold F_X12_record at H
  refine T_iload_n (pc := 0) dX12_record_0 rfl rfl ?_
  refine T_iconst (pc := 1) (v := 0) dX12_record_1 (by decide) ?_
  refine T_iconst (pc := 2) (v := 4) dX12_record_2 (by decide) ?_
  refine T_invS (pc := 3) (av := [jI v1, jI 0, jI 4]) (rest := []) dX12_record_3 mf_X12_in c_5_86 c_5_87 rfl (Nat.le_of_ble_eq_true rfl) rfl (iI_k (iI_mono (fun x1 h u H => ?_) H))
  refine T_if_eq (pc := 6) (tgt := 18) dX12_record_6 (by decide) (fun hc => ?_) (fun hc => ?_)
  · rw [if_pos hc] at H
    refine T_bipush (pc := 18) (v := (-2)) dX12_record_18 (by decide) ?_
    exact T_ireturn (pc := 20) rfl rfl dX12_record_20 H
  · rw [if_neg hc] at H
    refine T_aload_n (pc := 9) dX12_record_9 rfl rfl ?_
    refine T_iconst (pc := 10) (v := 0) dX12_record_10 (by decide) ?_
    refine T_iload_n (pc := 11) dX12_record_11 rfl rfl ?_
    obtain ⟨H0, H⟩ := H
    refine T_iV (pc := 12) (ci := 11) (av := [jI 0, jI v1]) (rest := []) (o := v0) dX12_record_12 mf_X12_newKind c_5_186 c_5_188 pr_X12_newKind rfl rfl (Nat.le_of_ble_eq_true rfl) rfl H0 (iI_k (iI_mono (fun x2 h u H => ?_) H))
    refine T_goto (pc := 15) (tgt := 20) dX12_record_15 (by decide) ?_
    exact T_ireturn (pc := 20) rfl rfl dX12_record_20 H
theorem I_X12_record {d : Nat} {v0 : Option Nm} {v1 : Int32} {h : MH} {u : Nat} {K : Int32 → MH → Nat → Prop} (u1 : Nat) (hu : u1 ≤ u) (H : F_X12_record d v0 v1 h u1 (fun x h2 => K x h2 (u - u1))) : iI (d + 1) u_X12_record [jR v0, jI v1] h u K := inv.of u1 hu (Ct.of (by decide +kernel) rfl (Nat.le_of_ble_eq_true rfl) rfl (E_X12_record H))
theorem dX12_constants_0 : decode cX12_constants 0 = .ok (.iload_n 1, 1) := by decide +kernel
theorem dX12_constants_1 : decode cX12_constants 1 = .ok (.iconst 0, 1) := by decide +kernel
theorem dX12_constants_2 : decode cX12_constants 2 = .ok (.iconst 3, 1) := by decide +kernel
theorem dX12_constants_3 : decode cX12_constants 3 = .ok (.invokestatic 156, 3) := by decide +kernel
theorem dX12_constants_6 : decode cX12_constants 6 = .ok (.ifCond .eq 12, 3) := by decide +kernel
theorem dX12_constants_9 : decode cX12_constants 9 = .ok (.aload_n 0, 1) := by decide +kernel
theorem dX12_constants_10 : decode cX12_constants 10 = .ok (.iconst 1, 1) := by decide +kernel
theorem dX12_constants_11 : decode cX12_constants 11 = .ok (.iload_n 1, 1) := by decide +kernel
theorem dX12_constants_12 : decode cX12_constants 12 = .ok (.invokevirtual 202, 3) := by decide +kernel
theorem dX12_constants_15 : decode cX12_constants 15 = .ok (.goto 5, 3) := by decide +kernel
theorem dX12_constants_18 : decode cX12_constants 18 = .ok (.bipush (-2), 2) := by decide +kernel
theorem dX12_constants_20 : decode cX12_constants 20 = .ok (.ireturn, 1) := by decide +kernel
def F_X12_constants (d : Nat) (v0 : Option Nm) (v1 : Int32) (h : MH) (u : Nat) (Q : Int32 → MH → Prop) : Prop :=
  iI d u_X12_in [jI v1, jI 0, jI 3] h u fun x1 h u =>
  if x1 = 0 then
    Q (-2) h
  else
    rc h v0 11 ∧ iI d u_X12_newKind [jR v0, jI 1, jI v1] h u fun x2 h u =>
    Q x2 h
set_option maxRecDepth 20000 in
theorem E_X12_constants {d : Nat} {v0 : Option Nm} {v1 : Int32} {h : MH} {u : Nat} {Q : Int32 → MH → Prop} (H : F_X12_constants d v0 v1 h u Q) : T u_X12_constants (d + 1) 0 [some (jR v0), some (jI v1)] [] h u (qI Q) := by
  unfold F_X12_constants at H
  refine T_iload_n (pc := 0) dX12_constants_0 rfl rfl ?_
  refine T_iconst (pc := 1) (v := 0) dX12_constants_1 (by decide) ?_
  refine T_iconst (pc := 2) (v := 3) dX12_constants_2 (by decide) ?_
  refine T_invS (pc := 3) (av := [jI v1, jI 0, jI 3]) (rest := []) dX12_constants_3 mf_X12_in c_5_86 c_5_87 rfl (Nat.le_of_ble_eq_true rfl) rfl (iI_k (iI_mono (fun x1 h u H => ?_) H))
  refine T_if_eq (pc := 6) (tgt := 18) dX12_constants_6 (by decide) (fun hc => ?_) (fun hc => ?_)
  · rw [if_pos hc] at H
    refine T_bipush (pc := 18) (v := (-2)) dX12_constants_18 (by decide) ?_
    exact T_ireturn (pc := 20) rfl rfl dX12_constants_20 H
  · rw [if_neg hc] at H
    refine T_aload_n (pc := 9) dX12_constants_9 rfl rfl ?_
    refine T_iconst (pc := 10) (v := 1) dX12_constants_10 (by decide) ?_
    refine T_iload_n (pc := 11) dX12_constants_11 rfl rfl ?_
    obtain ⟨H0, H⟩ := H
    refine T_iV (pc := 12) (ci := 11) (av := [jI 1, jI v1]) (rest := []) (o := v0) dX12_constants_12 mf_X12_newKind c_5_186 c_5_188 pr_X12_newKind rfl rfl (Nat.le_of_ble_eq_true rfl) rfl H0 (iI_k (iI_mono (fun x2 h u H => ?_) H))
    refine T_goto (pc := 15) (tgt := 20) dX12_constants_15 (by decide) ?_
    exact T_ireturn (pc := 20) rfl rfl dX12_constants_20 H
theorem I_X12_constants {d : Nat} {v0 : Option Nm} {v1 : Int32} {h : MH} {u : Nat} {K : Int32 → MH → Nat → Prop} (u1 : Nat) (hu : u1 ≤ u) (H : F_X12_constants d v0 v1 h u1 (fun x h2 => K x h2 (u - u1))) : iI (d + 1) u_X12_constants [jR v0, jI v1] h u K := inv.of u1 hu (Ct.of (by decide +kernel) rfl (Nat.le_of_ble_eq_true rfl) rfl (E_X12_constants H))
theorem dX12_placeOf_0 : decode cX12_placeOf 0 = .ok (.iconst (-1), 1) := by decide +kernel
theorem dX12_placeOf_1 : decode cX12_placeOf 1 = .ok (.istore_n 3, 1) := by decide +kernel
theorem dX12_placeOf_2 : decode cX12_placeOf 2 = .ok (.iconst 0, 1) := by decide +kernel
theorem dX12_placeOf_3 : decode cX12_placeOf 3 = .ok (.istore 4, 2) := by decide +kernel
theorem dX12_placeOf_5 : decode cX12_placeOf 5 = .ok (.iload 4, 2) := by decide +kernel
theorem dX12_placeOf_7 : decode cX12_placeOf 7 = .ok (.aload_n 0, 1) := by decide +kernel
theorem dX12_placeOf_8 : decode cX12_placeOf 8 = .ok (.getfield 42, 3) := by decide +kernel
theorem dX12_placeOf_11 : decode cX12_placeOf 11 = .ok (.iload_n 1, 1) := by decide +kernel
theorem dX12_placeOf_12 : decode cX12_placeOf 12 = .ok (.iaload, 1) := by decide +kernel
theorem dX12_placeOf_13 : decode cX12_placeOf 13 = .ok (.if_icmp .ge 32, 3) := by decide +kernel
theorem dX12_placeOf_16 : decode cX12_placeOf 16 = .ok (.aload_n 0, 1) := by decide +kernel
theorem dX12_placeOf_17 : decode cX12_placeOf 17 = .ok (.getfield 45, 3) := by decide +kernel
theorem dX12_placeOf_20 : decode cX12_placeOf 20 = .ok (.bipush 8, 2) := by decide +kernel
theorem dX12_placeOf_22 : decode cX12_placeOf 22 = .ok (.iload_n 1, 1) := by decide +kernel
theorem dX12_placeOf_23 : decode cX12_placeOf 23 = .ok (.imul, 1) := by decide +kernel
theorem dX12_placeOf_24 : decode cX12_placeOf 24 = .ok (.iload 4, 2) := by decide +kernel
theorem dX12_placeOf_26 : decode cX12_placeOf 26 = .ok (.iadd, 1) := by decide +kernel
theorem dX12_placeOf_27 : decode cX12_placeOf 27 = .ok (.iaload, 1) := by decide +kernel
theorem dX12_placeOf_28 : decode cX12_placeOf 28 = .ok (.iload_n 2, 1) := by decide +kernel
theorem dX12_placeOf_29 : decode cX12_placeOf 29 = .ok (.if_icmp .ne 8, 3) := by decide +kernel
theorem dX12_placeOf_32 : decode cX12_placeOf 32 = .ok (.iload 4, 2) := by decide +kernel
theorem dX12_placeOf_34 : decode cX12_placeOf 34 = .ok (.goto 4, 3) := by decide +kernel
theorem dX12_placeOf_37 : decode cX12_placeOf 37 = .ok (.iload_n 3, 1) := by decide +kernel
theorem dX12_placeOf_38 : decode cX12_placeOf 38 = .ok (.istore_n 3, 1) := by decide +kernel
theorem dX12_placeOf_39 : decode cX12_placeOf 39 = .ok (.iinc 4 1, 3) := by decide +kernel
theorem dX12_placeOf_42 : decode cX12_placeOf 42 = .ok (.goto (-37), 3) := by decide +kernel
theorem dX12_placeOf_45 : decode cX12_placeOf 45 = .ok (.iload_n 3, 1) := by decide +kernel
theorem dX12_placeOf_46 : decode cX12_placeOf 46 = .ok (.ireturn, 1) := by decide +kernel
def L_X12_placeOf_5 (d : Nat) (v0 : Option Nm) (v1 : Int32) (v2 : Int32) (v3 : Int32) (v4 : Int32) (h : MH) (u : Nat) (Q : Int32 → MH → Prop) : Prop := T u_X12_placeOf d 5 [some (jR v0), some (jI v1), some (jI v2), some (jI v3), some (jI v4)] [] h u (qI Q)
def F_X12_placeOf (d : Nat) (v0 : Option Nm) (v1 : Int32) (v2 : Int32) (h : MH) (u : Nat) (Q : Int32 → MH → Prop) : Prop :=
  L_X12_placeOf_5 d v0 v1 v2 (-1) 0 h u Q
set_option maxRecDepth 20000 in
theorem E_X12_placeOf {d : Nat} {v0 : Option Nm} {v1 : Int32} {v2 : Int32} {h : MH} {u : Nat} {Q : Int32 → MH → Prop} (H : F_X12_placeOf d v0 v1 v2 h u Q) : T u_X12_placeOf d 0 [some (jR v0), some (jI v1), some (jI v2), none, none] [] h u (qI Q) := by
  unfold F_X12_placeOf at H
  refine T_iconst (pc := 0) (v := (-1)) dX12_placeOf_0 (by decide) ?_
  refine T_istore_n (pc := 1) (ls2 := [some (jR v0), some (jI v1), some (jI v2), some (jI (-1)), none]) dX12_placeOf_1 rfl (Nat.le_of_ble_eq_true rfl) rfl ?_
  refine T_iconst (pc := 2) (v := 0) dX12_placeOf_2 (by decide) ?_
  refine T_istore (pc := 3) (ls2 := [some (jR v0), some (jI v1), some (jI v2), some (jI (-1)), some (jI 0)]) dX12_placeOf_3 (Nat.le_of_ble_eq_true rfl) rfl ?_
  exact T.forget H ⟨rfl, rfl, rfl, rfl, rfl, trivial⟩
def F_X12_placeOf_5 (d : Nat) (v0 : Option Nm) (v1 : Int32) (v2 : Int32) (v3 : Int32) (v4 : Int32) (h : MH) (u : Nat) (Q : Int32 → MH → Prop) : Prop :=
  gR h v0 11 15 fun x1 =>
  aI .int h x1 v1 fun x2 =>
  if x2 ≤ v4 then
    Q v3 h
  else
    gR h v0 11 16 fun x3 =>
    aI .int h x3 ((8 * v1) + v4) fun x4 =>
    if x4 = v2 then
      L_X12_placeOf_5 d v0 v1 v2 v4 (v4 + 1) h u Q
    else
      L_X12_placeOf_5 d v0 v1 v2 v3 (v4 + 1) h u Q
set_option maxRecDepth 20000 in
theorem E_X12_placeOf_5 {d : Nat} {v0 : Option Nm} {v1 : Int32} {v2 : Int32} {v3 : Int32} {v4 : Int32} {h : MH} {u : Nat} {Q : Int32 → MH → Prop} (H : F_X12_placeOf_5 d v0 v1 v2 v3 v4 h u Q) : T u_X12_placeOf d 5 [some (jR v0), some (jI v1), some (jI v2), some (jI v3), some (jI v4)] [] h u (qI Q) := by
  unfold F_X12_placeOf_5 at H
  refine T_iload (pc := 5) dX12_placeOf_5 rfl ?_
  refine T_aload_n (pc := 7) dX12_placeOf_7 rfl rfl ?_
  refine T_gR (pc := 8) fa_X12_42 dX12_placeOf_8 (gR_mono (fun x1 H => ?_) H)
  refine T_iload_n (pc := 11) dX12_placeOf_11 rfl rfl ?_
  refine T_aI (pc := 12) dX12_placeOf_12 (aI_mono (fun x2 H => ?_) H)
  refine T_icmp_ge (pc := 13) (tgt := 45) dX12_placeOf_13 (by decide) (fun hc => ?_) (fun hc => ?_)
  · rw [if_pos hc] at H
    refine T_iload_n (pc := 45) dX12_placeOf_45 rfl rfl ?_
    exact T_ireturn (pc := 46) rfl rfl dX12_placeOf_46 H
  · rw [if_neg hc] at H
    refine T_aload_n (pc := 16) dX12_placeOf_16 rfl rfl ?_
    refine T_gR (pc := 17) fa_X12_45 dX12_placeOf_17 (gR_mono (fun x3 H => ?_) H)
    refine T_bipush (pc := 20) (v := 8) dX12_placeOf_20 (by decide) ?_
    refine T_iload_n (pc := 22) dX12_placeOf_22 rfl rfl ?_
    refine T_imul (pc := 23) dX12_placeOf_23 ?_
    refine T_iload (pc := 24) dX12_placeOf_24 rfl ?_
    refine T_iadd (pc := 26) dX12_placeOf_26 ?_
    refine T_aI (pc := 27) dX12_placeOf_27 (aI_mono (fun x4 H => ?_) H)
    refine T_iload_n (pc := 28) dX12_placeOf_28 rfl rfl ?_
    refine T_icmp_ne (pc := 29) (tgt := 37) dX12_placeOf_29 (by decide) (fun hc => ?_) (fun hc => ?_)
    · rw [if_neg hc] at H
      refine T_iload_n (pc := 37) dX12_placeOf_37 rfl rfl ?_
      refine T_istore_n (pc := 38) (ls2 := [some (jR v0), some (jI v1), some (jI v2), some (jI v3), some (jI v4)]) dX12_placeOf_38 rfl (Nat.le_of_ble_eq_true rfl) rfl ?_
      refine T_iinc (pc := 39) (v := v4 + 1) (ls2 := [some (jR v0), some (jI v1), some (jI v2), some (jI v3), some (jI (v4 + 1))]) dX12_placeOf_39 rfl rfl (Nat.le_of_ble_eq_true rfl) rfl ?_
      refine T_goto (pc := 42) (tgt := 5) dX12_placeOf_42 (by decide) ?_
      exact T.forget H ⟨rfl, rfl, rfl, rfl, rfl, trivial⟩
    · rw [if_pos hc] at H
      refine T_iload (pc := 32) dX12_placeOf_32 rfl ?_
      refine T_goto (pc := 34) (tgt := 38) dX12_placeOf_34 (by decide) ?_
      refine T_istore_n (pc := 38) (ls2 := [some (jR v0), some (jI v1), some (jI v2), some (jI v4), some (jI v4)]) dX12_placeOf_38 rfl (Nat.le_of_ble_eq_true rfl) rfl ?_
      refine T_iinc (pc := 39) (v := v4 + 1) (ls2 := [some (jR v0), some (jI v1), some (jI v2), some (jI v4), some (jI (v4 + 1))]) dX12_placeOf_39 rfl rfl (Nat.le_of_ble_eq_true rfl) rfl ?_
      refine T_goto (pc := 42) (tgt := 5) dX12_placeOf_42 (by decide) ?_
      exact T.forget H ⟨rfl, rfl, rfl, rfl, rfl, trivial⟩
theorem I_X12_placeOf {d : Nat} {v0 : Option Nm} {v1 : Int32} {v2 : Int32} {h : MH} {u : Nat} {K : Int32 → MH → Nat → Prop} (u1 : Nat) (hu : u1 ≤ u) (H : F_X12_placeOf d v0 v1 v2 h u1 (fun x h2 => K x h2 (u - u1))) : iI d u_X12_placeOf [jR v0, jI v1, jI v2] h u K := inv.of u1 hu (Ct.of (by decide +kernel) rfl (Nat.le_of_ble_eq_true rfl) rfl (E_X12_placeOf H))
theorem dX12_newestOf_0 : decode cX12_newestOf 0 = .ok (.iconst 4, 1) := by decide +kernel
theorem dX12_newestOf_1 : decode cX12_newestOf 1 = .ok (.iload_n 1, 1) := by decide +kernel
theorem dX12_newestOf_2 : decode cX12_newestOf 2 = .ok (.imul, 1) := by decide +kernel
theorem dX12_newestOf_3 : decode cX12_newestOf 3 = .ok (.aload_n 0, 1) := by decide +kernel
theorem dX12_newestOf_4 : decode cX12_newestOf 4 = .ok (.getfield 36, 3) := by decide +kernel
theorem dX12_newestOf_7 : decode cX12_newestOf 7 = .ok (.iload_n 1, 1) := by decide +kernel
theorem dX12_newestOf_8 : decode cX12_newestOf 8 = .ok (.iaload, 1) := by decide +kernel
theorem dX12_newestOf_9 : decode cX12_newestOf 9 = .ok (.iadd, 1) := by decide +kernel
theorem dX12_newestOf_10 : decode cX12_newestOf 10 = .ok (.ireturn, 1) := by decide +kernel
def F_X12_newestOf (d : Nat) (v0 : Option Nm) (v1 : Int32) (h : MH) (u : Nat) (Q : Int32 → MH → Prop) : Prop :=
  gR h v0 11 13 fun x1 =>
  aI .int h x1 v1 fun x2 =>
  Q ((4 * v1) + x2) h
set_option maxRecDepth 20000 in
theorem E_X12_newestOf {d : Nat} {v0 : Option Nm} {v1 : Int32} {h : MH} {u : Nat} {Q : Int32 → MH → Prop} (H : F_X12_newestOf d v0 v1 h u Q) : T u_X12_newestOf d 0 [some (jR v0), some (jI v1)] [] h u (qI Q) := by
  unfold F_X12_newestOf at H
  refine T_iconst (pc := 0) (v := 4) dX12_newestOf_0 (by decide) ?_
  refine T_iload_n (pc := 1) dX12_newestOf_1 rfl rfl ?_
  refine T_imul (pc := 2) dX12_newestOf_2 ?_
  refine T_aload_n (pc := 3) dX12_newestOf_3 rfl rfl ?_
  refine T_gR (pc := 4) fa_X12_36 dX12_newestOf_4 (gR_mono (fun x1 H => ?_) H)
  refine T_iload_n (pc := 7) dX12_newestOf_7 rfl rfl ?_
  refine T_aI (pc := 8) dX12_newestOf_8 (aI_mono (fun x2 H => ?_) H)
  refine T_iadd (pc := 9) dX12_newestOf_9 ?_
  exact T_ireturn (pc := 10) rfl rfl dX12_newestOf_10 H
theorem I_X12_newestOf {d : Nat} {v0 : Option Nm} {v1 : Int32} {h : MH} {u : Nat} {K : Int32 → MH → Nat → Prop} (u1 : Nat) (hu : u1 ≤ u) (H : F_X12_newestOf d v0 v1 h u1 (fun x h2 => K x h2 (u - u1))) : iI d u_X12_newestOf [jR v0, jI v1] h u K := inv.of u1 hu (Ct.of (by decide +kernel) rfl (Nat.le_of_ble_eq_true rfl) rfl (E_X12_newestOf H))
theorem dX12_more_0 : decode cX12_more 0 = .ok (.aload_n 0, 1) := by decide +kernel
theorem dX12_more_1 : decode cX12_more 1 = .ok (.iload_n 1, 1) := by decide +kernel
theorem dX12_more_2 : decode cX12_more 2 = .ok (.invokevirtual 206, 3) := by decide +kernel
theorem dX12_more_5 : decode cX12_more 5 = .ok (.ifCond .ne 5, 3) := by decide +kernel
theorem dX12_more_8 : decode cX12_more 8 = .ok (.iconst (-1), 1) := by decide +kernel
theorem dX12_more_9 : decode cX12_more 9 = .ok (.ireturn, 1) := by decide +kernel
theorem dX12_more_10 : decode cX12_more 10 = .ok (.iload_n 2, 1) := by decide +kernel
theorem dX12_more_11 : decode cX12_more 11 = .ok (.iconst 1, 1) := by decide +kernel
theorem dX12_more_12 : decode cX12_more 12 = .ok (.bipush 99, 2) := by decide +kernel
theorem dX12_more_14 : decode cX12_more 14 = .ok (.invokestatic 156, 3) := by decide +kernel
theorem dX12_more_17 : decode cX12_more 17 = .ok (.ifCond .eq 22, 3) := by decide +kernel
theorem dX12_more_20 : decode cX12_more 20 = .ok (.aload_n 0, 1) := by decide +kernel
theorem dX12_more_21 : decode cX12_more 21 = .ok (.getfield 27, 3) := by decide +kernel
theorem dX12_more_24 : decode cX12_more 24 = .ok (.iload_n 1, 1) := by decide +kernel
theorem dX12_more_25 : decode cX12_more 25 = .ok (.baload, 1) := by decide +kernel
theorem dX12_more_26 : decode cX12_more 26 = .ok (.ifCond .ne 16, 3) := by decide +kernel
theorem dX12_more_29 : decode cX12_more 29 = .ok (.iload_n 3, 1) := by decide +kernel
theorem dX12_more_30 : decode cX12_more 30 = .ok (.iconst 0, 1) := by decide +kernel
theorem dX12_more_31 : decode cX12_more 31 = .ok (.bipush 9, 2) := by decide +kernel
theorem dX12_more_33 : decode cX12_more 33 = .ok (.invokestatic 156, 3) := by decide +kernel
theorem dX12_more_36 : decode cX12_more 36 = .ok (.ifCond .ne 6, 3) := by decide +kernel
theorem dX12_more_39 : decode cX12_more 39 = .ok (.bipush (-2), 2) := by decide +kernel
theorem dX12_more_41 : decode cX12_more 41 = .ok (.ireturn, 1) := by decide +kernel
theorem dX12_more_42 : decode cX12_more 42 = .ok (.iconst 4, 1) := by decide +kernel
theorem dX12_more_43 : decode cX12_more 43 = .ok (.iload_n 1, 1) := by decide +kernel
theorem dX12_more_44 : decode cX12_more 44 = .ok (.imul, 1) := by decide +kernel
theorem dX12_more_45 : decode cX12_more 45 = .ok (.istore 4, 2) := by decide +kernel
theorem dX12_more_47 : decode cX12_more 47 = .ok (.aload_n 0, 1) := by decide +kernel
theorem dX12_more_48 : decode cX12_more 48 = .ok (.getfield 33, 3) := by decide +kernel
theorem dX12_more_51 : decode cX12_more 51 = .ok (.iload_n 1, 1) := by decide +kernel
theorem dX12_more_52 : decode cX12_more 52 = .ok (.baload, 1) := by decide +kernel
theorem dX12_more_53 : decode cX12_more 53 = .ok (.ifCond .ne 13, 3) := by decide +kernel
theorem dX12_more_56 : decode cX12_more 56 = .ok (.aload_n 0, 1) := by decide +kernel
theorem dX12_more_57 : decode cX12_more 57 = .ok (.iload 4, 2) := by decide +kernel
theorem dX12_more_59 : decode cX12_more 59 = .ok (.iload_n 2, 1) := by decide +kernel
theorem dX12_more_60 : decode cX12_more 60 = .ok (.invokevirtual 209, 3) := by decide +kernel
theorem dX12_more_63 : decode cX12_more 63 = .ok (.ifCond .lt 6, 3) := by decide +kernel
theorem dX12_more_66 : decode cX12_more 66 = .ok (.bipush (-3), 2) := by decide +kernel
theorem dX12_more_68 : decode cX12_more 68 = .ok (.ireturn, 1) := by decide +kernel
theorem dX12_more_69 : decode cX12_more 69 = .ok (.aload_n 0, 1) := by decide +kernel
theorem dX12_more_70 : decode cX12_more 70 = .ok (.getfield 42, 3) := by decide +kernel
theorem dX12_more_73 : decode cX12_more 73 = .ok (.iload 4, 2) := by decide +kernel
theorem dX12_more_75 : decode cX12_more 75 = .ok (.iaload, 1) := by decide +kernel
theorem dX12_more_76 : decode cX12_more 76 = .ok (.aload_n 0, 1) := by decide +kernel
theorem dX12_more_77 : decode cX12_more 77 = .ok (.getfield 27, 3) := by decide +kernel
theorem dX12_more_80 : decode cX12_more 80 = .ok (.iload_n 1, 1) := by decide +kernel
theorem dX12_more_81 : decode cX12_more 81 = .ok (.baload, 1) := by decide +kernel
theorem dX12_more_82 : decode cX12_more 82 = .ok (.ifCond .eq 8, 3) := by decide +kernel
theorem dX12_more_85 : decode cX12_more 85 = .ok (.bipush 8, 2) := by decide +kernel
theorem dX12_more_87 : decode cX12_more 87 = .ok (.goto 5, 3) := by decide +kernel
theorem dX12_more_90 : decode cX12_more 90 = .ok (.bipush 6, 2) := by decide +kernel
theorem dX12_more_92 : decode cX12_more 92 = .ok (.if_icmp .ne 6, 3) := by decide +kernel
theorem dX12_more_95 : decode cX12_more 95 = .ok (.bipush (-4), 2) := by decide +kernel
theorem dX12_more_97 : decode cX12_more 97 = .ok (.ireturn, 1) := by decide +kernel
theorem dX12_more_98 : decode cX12_more 98 = .ok (.aload_n 0, 1) := by decide +kernel
theorem dX12_more_99 : decode cX12_more 99 = .ok (.getfield 45, 3) := by decide +kernel
theorem dX12_more_102 : decode cX12_more 102 = .ok (.bipush 8, 2) := by decide +kernel
theorem dX12_more_104 : decode cX12_more 104 = .ok (.iload 4, 2) := by decide +kernel
theorem dX12_more_106 : decode cX12_more 106 = .ok (.imul, 1) := by decide +kernel
theorem dX12_more_107 : decode cX12_more 107 = .ok (.aload_n 0, 1) := by decide +kernel
theorem dX12_more_108 : decode cX12_more 108 = .ok (.getfield 42, 3) := by decide +kernel
theorem dX12_more_111 : decode cX12_more 111 = .ok (.iload 4, 2) := by decide +kernel
theorem dX12_more_113 : decode cX12_more 113 = .ok (.iaload, 1) := by decide +kernel
theorem dX12_more_114 : decode cX12_more 114 = .ok (.iadd, 1) := by decide +kernel
theorem dX12_more_115 : decode cX12_more 115 = .ok (.iload_n 2, 1) := by decide +kernel
theorem dX12_more_116 : decode cX12_more 116 = .ok (.iastore, 1) := by decide +kernel
theorem dX12_more_117 : decode cX12_more 117 = .ok (.aload_n 0, 1) := by decide +kernel
theorem dX12_more_118 : decode cX12_more 118 = .ok (.getfield 48, 3) := by decide +kernel
theorem dX12_more_121 : decode cX12_more 121 = .ok (.bipush 8, 2) := by decide +kernel
theorem dX12_more_123 : decode cX12_more 123 = .ok (.iload 4, 2) := by decide +kernel
theorem dX12_more_125 : decode cX12_more 125 = .ok (.imul, 1) := by decide +kernel
theorem dX12_more_126 : decode cX12_more 126 = .ok (.aload_n 0, 1) := by decide +kernel
theorem dX12_more_127 : decode cX12_more 127 = .ok (.getfield 42, 3) := by decide +kernel
theorem dX12_more_130 : decode cX12_more 130 = .ok (.iload 4, 2) := by decide +kernel
theorem dX12_more_132 : decode cX12_more 132 = .ok (.iaload, 1) := by decide +kernel
theorem dX12_more_133 : decode cX12_more 133 = .ok (.iadd, 1) := by decide +kernel
theorem dX12_more_134 : decode cX12_more 134 = .ok (.iload_n 3, 1) := by decide +kernel
theorem dX12_more_135 : decode cX12_more 135 = .ok (.iastore, 1) := by decide +kernel
theorem dX12_more_136 : decode cX12_more 136 = .ok (.aload_n 0, 1) := by decide +kernel
theorem dX12_more_137 : decode cX12_more 137 = .ok (.getfield 42, 3) := by decide +kernel
theorem dX12_more_140 : decode cX12_more 140 = .ok (.iload 4, 2) := by decide +kernel
theorem dX12_more_142 : decode cX12_more 142 = .ok (.dup2, 1) := by decide +kernel
theorem dX12_more_143 : decode cX12_more 143 = .ok (.iaload, 1) := by decide +kernel
theorem dX12_more_144 : decode cX12_more 144 = .ok (.iconst 1, 1) := by decide +kernel
theorem dX12_more_145 : decode cX12_more 145 = .ok (.iadd, 1) := by decide +kernel
theorem dX12_more_146 : decode cX12_more 146 = .ok (.iastore, 1) := by decide +kernel
theorem dX12_more_147 : decode cX12_more 147 = .ok (.aload_n 0, 1) := by decide +kernel
theorem dX12_more_148 : decode cX12_more 148 = .ok (.getfield 42, 3) := by decide +kernel
theorem dX12_more_151 : decode cX12_more 151 = .ok (.iload 4, 2) := by decide +kernel
theorem dX12_more_153 : decode cX12_more 153 = .ok (.iaload, 1) := by decide +kernel
theorem dX12_more_154 : decode cX12_more 154 = .ok (.ireturn, 1) := by decide +kernel
def F_X12_more_92 (d : Nat) (v0 : Option Nm) (v2 : Int32) (v3 : Int32) (v4 : Int32) (s0 : Int32) (s1 : Int32) (h : MH) (u : Nat) (Q : Int32 → MH → Prop) : Prop :=
  if s0 = s1 then
    Q (-4) h
  else
    gR h v0 11 16 fun x1 =>
    gR h v0 11 15 fun x2 =>
    aI .int h x2 v4 fun x3 =>
    sV .int h x1 ((8 * v4) + x3) (jI v2) fun h =>
    gR h v0 11 17 fun x4 =>
    gR h v0 11 15 fun x5 =>
    aI .int h x5 v4 fun x6 =>
    sV .int h x4 ((8 * v4) + x6) (jI v3) fun h =>
    gR h v0 11 15 fun x7 =>
    aI .int h x7 v4 fun x8 =>
    sV .int h x7 v4 (jI (x8 + 1)) fun h =>
    gR h v0 11 15 fun x9 =>
    aI .int h x9 v4 fun x10 =>
    Q x10 h
set_option maxRecDepth 20000 in
theorem E_X12_more_92 {d : Nat} {v0 : Option Nm} {v2 : Int32} {v3 : Int32} {v4 : Int32} {s0 : Int32} {s1 : Int32} {h : MH} {u : Nat} {Q : Int32 → MH → Prop} (H : F_X12_more_92 d v0 v2 v3 v4 s0 s1 h u Q) : T u_X12_more (d + 1) 92 [some (jR v0), none, some (jI v2), some (jI v3), some (jI v4)] [jI s1, jI s0] h u (qI Q) := by
  unfold F_X12_more_92 at H
  refine T_icmp_ne (pc := 92) (tgt := 98) dX12_more_92 (by decide) (fun hc => ?_) (fun hc => ?_)
  · rw [if_neg hc] at H
    refine T_aload_n (pc := 98) dX12_more_98 rfl rfl ?_
    refine T_gR (pc := 99) fa_X12_45 dX12_more_99 (gR_mono (fun x1 H => ?_) H)
    refine T_bipush (pc := 102) (v := 8) dX12_more_102 (by decide) ?_
    refine T_iload (pc := 104) dX12_more_104 rfl ?_
    refine T_imul (pc := 106) dX12_more_106 ?_
    refine T_aload_n (pc := 107) dX12_more_107 rfl rfl ?_
    refine T_gR (pc := 108) fa_X12_42 dX12_more_108 (gR_mono (fun x2 H => ?_) H)
    refine T_iload (pc := 111) dX12_more_111 rfl ?_
    refine T_aI (pc := 113) dX12_more_113 (aI_mono (fun x3 H => ?_) H)
    refine T_iadd (pc := 114) dX12_more_114 ?_
    refine T_iload_n (pc := 115) dX12_more_115 rfl rfl ?_
    refine T_sI (pc := 116) dX12_more_116 (sV_mono (fun h H => ?_) H)
    refine T_aload_n (pc := 117) dX12_more_117 rfl rfl ?_
    refine T_gR (pc := 118) fa_X12_48 dX12_more_118 (gR_mono (fun x4 H => ?_) H)
    refine T_bipush (pc := 121) (v := 8) dX12_more_121 (by decide) ?_
    refine T_iload (pc := 123) dX12_more_123 rfl ?_
    refine T_imul (pc := 125) dX12_more_125 ?_
    refine T_aload_n (pc := 126) dX12_more_126 rfl rfl ?_
    refine T_gR (pc := 127) fa_X12_42 dX12_more_127 (gR_mono (fun x5 H => ?_) H)
    refine T_iload (pc := 130) dX12_more_130 rfl ?_
    refine T_aI (pc := 132) dX12_more_132 (aI_mono (fun x6 H => ?_) H)
    refine T_iadd (pc := 133) dX12_more_133 ?_
    refine T_iload_n (pc := 134) dX12_more_134 rfl rfl ?_
    refine T_sI (pc := 135) dX12_more_135 (sV_mono (fun h H => ?_) H)
    refine T_aload_n (pc := 136) dX12_more_136 rfl rfl ?_
    refine T_gR (pc := 137) fa_X12_42 dX12_more_137 (gR_mono (fun x7 H => ?_) H)
    refine T_iload (pc := 140) dX12_more_140 rfl ?_
    refine T_dup2 (pc := 142) rfl rfl dX12_more_142 ?_
    refine T_aI (pc := 143) dX12_more_143 (aI_mono (fun x8 H => ?_) H)
    refine T_iconst (pc := 144) (v := 1) dX12_more_144 (by decide) ?_
    refine T_iadd (pc := 145) dX12_more_145 ?_
    refine T_sI (pc := 146) dX12_more_146 (sV_mono (fun h H => ?_) H)
    refine T_aload_n (pc := 147) dX12_more_147 rfl rfl ?_
    refine T_gR (pc := 148) fa_X12_42 dX12_more_148 (gR_mono (fun x9 H => ?_) H)
    refine T_iload (pc := 151) dX12_more_151 rfl ?_
    refine T_aI (pc := 153) dX12_more_153 (aI_mono (fun x10 H => ?_) H)
    exact T_ireturn (pc := 154) rfl rfl dX12_more_154 H
  · rw [if_pos hc] at H
    refine T_bipush (pc := 95) (v := (-4)) dX12_more_95 (by decide) ?_
    exact T_ireturn (pc := 97) rfl rfl dX12_more_97 H
def F_X12_more_42 (d : Nat) (v0 : Option Nm) (v1 : Int32) (v2 : Int32) (v3 : Int32) (h : MH) (u : Nat) (Q : Int32 → MH → Prop) : Prop :=
  gR h v0 11 12 fun x1 =>
  aI .boolean h x1 v1 fun x2 =>
  if x2 = 0 then
    rc h v0 11 ∧ iI d u_X12_placeOf [jR v0, jI (4 * v1), jI v2] h u fun x3 h u =>
    if x3 < 0 then
      gR h v0 11 15 fun x4 =>
      aI .int h x4 (4 * v1) fun x5 =>
      gR h v0 11 10 fun x6 =>
      aI .boolean h x6 v1 fun x7 =>
      if x7 = 0 then
        F_X12_more_92 d v0 v2 v3 (4 * v1) x5 6 h u Q
      else
        F_X12_more_92 d v0 v2 v3 (4 * v1) x5 8 h u Q
    else
      Q (-3) h
  else
    Q (-3) h
set_option maxRecDepth 20000 in
theorem E_X12_more_42 {d : Nat} {v0 : Option Nm} {v1 : Int32} {v2 : Int32} {v3 : Int32} {h : MH} {u : Nat} {Q : Int32 → MH → Prop} (H : F_X12_more_42 d v0 v1 v2 v3 h u Q) : T u_X12_more (d + 1) 42 [some (jR v0), some (jI v1), some (jI v2), some (jI v3), none] [] h u (qI Q) := by
  unfold F_X12_more_42 at H
  refine T_iconst (pc := 42) (v := 4) dX12_more_42 (by decide) ?_
  refine T_iload_n (pc := 43) dX12_more_43 rfl rfl ?_
  refine T_imul (pc := 44) dX12_more_44 ?_
  refine T_istore (pc := 45) (ls2 := [some (jR v0), some (jI v1), some (jI v2), some (jI v3), some (jI (4 * v1))]) dX12_more_45 (Nat.le_of_ble_eq_true rfl) rfl ?_
  refine T_aload_n (pc := 47) dX12_more_47 rfl rfl ?_
  refine T_gR (pc := 48) fa_X12_33 dX12_more_48 (gR_mono (fun x1 H => ?_) H)
  refine T_iload_n (pc := 51) dX12_more_51 rfl rfl ?_
  refine T_aZ (pc := 52) dX12_more_52 (aI_mono (fun x2 H => ?_) H)
  refine T_if_ne (pc := 53) (tgt := 66) dX12_more_53 (by decide) (fun hc => ?_) (fun hc => ?_)
  · rw [if_neg hc] at H
    refine T_bipush (pc := 66) (v := (-3)) dX12_more_66 (by decide) ?_
    exact T_ireturn (pc := 68) rfl rfl dX12_more_68 H
  · rw [if_pos hc] at H
    refine T_aload_n (pc := 56) dX12_more_56 rfl rfl ?_
    refine T_iload (pc := 57) dX12_more_57 rfl ?_
    refine T_iload_n (pc := 59) dX12_more_59 rfl rfl ?_
    obtain ⟨H0, H⟩ := H
    refine T_iV (pc := 60) (ci := 11) (av := [jI (4 * v1), jI v2]) (rest := []) (o := v0) dX12_more_60 mf_X12_placeOf c_5_202 c_5_204 pr_X12_placeOf rfl rfl (Nat.le_of_ble_eq_true rfl) rfl H0 (iI_k (iI_mono (fun x3 h u H => ?_) H))
    refine T_if_lt (pc := 63) (tgt := 69) dX12_more_63 (by decide) (fun hc => ?_) (fun hc => ?_)
    · rw [if_pos hc] at H
      refine T_aload_n (pc := 69) dX12_more_69 rfl rfl ?_
      refine T_gR (pc := 70) fa_X12_42 dX12_more_70 (gR_mono (fun x4 H => ?_) H)
      refine T_iload (pc := 73) dX12_more_73 rfl ?_
      refine T_aI (pc := 75) dX12_more_75 (aI_mono (fun x5 H => ?_) H)
      refine T_aload_n (pc := 76) dX12_more_76 rfl rfl ?_
      refine T_gR (pc := 77) fa_X12_27 dX12_more_77 (gR_mono (fun x6 H => ?_) H)
      refine T_iload_n (pc := 80) dX12_more_80 rfl rfl ?_
      refine T_aZ (pc := 81) dX12_more_81 (aI_mono (fun x7 H => ?_) H)
      refine T_if_eq (pc := 82) (tgt := 90) dX12_more_82 (by decide) (fun hc => ?_) (fun hc => ?_)
      · rw [if_pos hc] at H
        refine T_bipush (pc := 90) (v := 6) dX12_more_90 (by decide) ?_
        exact T.forget (E_X12_more_92 H) ⟨rfl, rfl, rfl, rfl, trivial⟩
      · rw [if_neg hc] at H
        refine T_bipush (pc := 85) (v := 8) dX12_more_85 (by decide) ?_
        refine T_goto (pc := 87) (tgt := 92) dX12_more_87 (by decide) ?_
        exact T.forget (E_X12_more_92 H) ⟨rfl, rfl, rfl, rfl, trivial⟩
    · rw [if_neg hc] at H
      refine T_bipush (pc := 66) (v := (-3)) dX12_more_66 (by decide) ?_
      exact T_ireturn (pc := 68) rfl rfl dX12_more_68 H
def F_X12_more (d : Nat) (v0 : Option Nm) (v1 : Int32) (v2 : Int32) (v3 : Int32) (h : MH) (u : Nat) (Q : Int32 → MH → Prop) : Prop :=
  rc h v0 11 ∧ iI d u_X12_isKind [jR v0, jI v1] h u fun x1 h u =>
  if x1 = 0 then
    Q (-1) h
  else
    iI d u_X12_in [jI v2, jI 1, jI 99] h u fun x2 h u =>
    if x2 = 0 then
      Q (-2) h
    else
      gR h v0 11 10 fun x3 =>
      aI .boolean h x3 v1 fun x4 =>
      if x4 = 0 then
        iI d u_X12_in [jI v3, jI 0, jI 9] h u fun x5 h u =>
        if x5 = 0 then
          Q (-2) h
        else
          F_X12_more_42 d v0 v1 v2 v3 h u Q
      else
        F_X12_more_42 d v0 v1 v2 v3 h u Q
set_option maxRecDepth 20000 in
theorem E_X12_more {d : Nat} {v0 : Option Nm} {v1 : Int32} {v2 : Int32} {v3 : Int32} {h : MH} {u : Nat} {Q : Int32 → MH → Prop} (H : F_X12_more d v0 v1 v2 v3 h u Q) : T u_X12_more (d + 1) 0 [some (jR v0), some (jI v1), some (jI v2), some (jI v3), none] [] h u (qI Q) := by
  unfold F_X12_more at H
  refine T_aload_n (pc := 0) dX12_more_0 rfl rfl ?_
  refine T_iload_n (pc := 1) dX12_more_1 rfl rfl ?_
  obtain ⟨H0, H⟩ := H
  refine T_iV (pc := 2) (ci := 11) (av := [jI v1]) (rest := []) (o := v0) dX12_more_2 mf_X12_isKind c_5_198 c_5_200 pr_X12_isKind rfl rfl (Nat.le_of_ble_eq_true rfl) rfl H0 (iI_k (iI_mono (fun x1 h u H => ?_) H))
  refine T_if_ne (pc := 5) (tgt := 10) dX12_more_5 (by decide) (fun hc => ?_) (fun hc => ?_)
  · rw [if_neg hc] at H
    refine T_iload_n (pc := 10) dX12_more_10 rfl rfl ?_
    refine T_iconst (pc := 11) (v := 1) dX12_more_11 (by decide) ?_
    refine T_bipush (pc := 12) (v := 99) dX12_more_12 (by decide) ?_
    refine T_invS (pc := 14) (av := [jI v2, jI 1, jI 99]) (rest := []) dX12_more_14 mf_X12_in c_5_86 c_5_87 rfl (Nat.le_of_ble_eq_true rfl) rfl (iI_k (iI_mono (fun x2 h u H => ?_) H))
    refine T_if_eq (pc := 17) (tgt := 39) dX12_more_17 (by decide) (fun hc => ?_) (fun hc => ?_)
    · rw [if_pos hc] at H
      refine T_bipush (pc := 39) (v := (-2)) dX12_more_39 (by decide) ?_
      exact T_ireturn (pc := 41) rfl rfl dX12_more_41 H
    · rw [if_neg hc] at H
      refine T_aload_n (pc := 20) dX12_more_20 rfl rfl ?_
      refine T_gR (pc := 21) fa_X12_27 dX12_more_21 (gR_mono (fun x3 H => ?_) H)
      refine T_iload_n (pc := 24) dX12_more_24 rfl rfl ?_
      refine T_aZ (pc := 25) dX12_more_25 (aI_mono (fun x4 H => ?_) H)
      refine T_if_ne (pc := 26) (tgt := 42) dX12_more_26 (by decide) (fun hc => ?_) (fun hc => ?_)
      · rw [if_neg hc] at H
        exact T.forget (E_X12_more_42 H) ⟨rfl, rfl, rfl, rfl, trivial⟩
      · rw [if_pos hc] at H
        refine T_iload_n (pc := 29) dX12_more_29 rfl rfl ?_
        refine T_iconst (pc := 30) (v := 0) dX12_more_30 (by decide) ?_
        refine T_bipush (pc := 31) (v := 9) dX12_more_31 (by decide) ?_
        refine T_invS (pc := 33) (av := [jI v3, jI 0, jI 9]) (rest := []) dX12_more_33 mf_X12_in c_5_86 c_5_87 rfl (Nat.le_of_ble_eq_true rfl) rfl (iI_k (iI_mono (fun x5 h u H => ?_) H))
        refine T_if_ne (pc := 36) (tgt := 42) dX12_more_36 (by decide) (fun hc => ?_) (fun hc => ?_)
        · rw [if_neg hc] at H
          exact T.forget (E_X12_more_42 H) ⟨rfl, rfl, rfl, rfl, trivial⟩
        · rw [if_pos hc] at H
          refine T_bipush (pc := 39) (v := (-2)) dX12_more_39 (by decide) ?_
          exact T_ireturn (pc := 41) rfl rfl dX12_more_41 H
  · rw [if_pos hc] at H
    refine T_iconst (pc := 8) (v := (-1)) dX12_more_8 (by decide) ?_
    exact T_ireturn (pc := 9) rfl rfl dX12_more_9 H
theorem I_X12_more {d : Nat} {v0 : Option Nm} {v1 : Int32} {v2 : Int32} {v3 : Int32} {h : MH} {u : Nat} {K : Int32 → MH → Nat → Prop} (u1 : Nat) (hu : u1 ≤ u) (H : F_X12_more d v0 v1 v2 v3 h u1 (fun x h2 => K x h2 (u - u1))) : iI (d + 1) u_X12_more [jR v0, jI v1, jI v2, jI v3] h u K := inv.of u1 hu (Ct.of (by decide +kernel) rfl (Nat.le_of_ble_eq_true rfl) rfl (E_X12_more H))
theorem dX12_newConstant_0 : decode cX12_newConstant 0 = .ok (.aload_n 0, 1) := by decide +kernel
theorem dX12_newConstant_1 : decode cX12_newConstant 1 = .ok (.iload_n 1, 1) := by decide +kernel
theorem dX12_newConstant_2 : decode cX12_newConstant 2 = .ok (.invokevirtual 212, 3) := by decide +kernel
theorem dX12_newConstant_5 : decode cX12_newConstant 5 = .ok (.istore_n 3, 1) := by decide +kernel
theorem dX12_newConstant_6 : decode cX12_newConstant 6 = .ok (.aload_n 0, 1) := by decide +kernel
theorem dX12_newConstant_7 : decode cX12_newConstant 7 = .ok (.getfield 81, 3) := by decide +kernel
theorem dX12_newConstant_10 : decode cX12_newConstant 10 = .ok (.iload_n 3, 1) := by decide +kernel
theorem dX12_newConstant_11 : decode cX12_newConstant 11 = .ok (.iload_n 2, 1) := by decide +kernel
theorem dX12_newConstant_12 : decode cX12_newConstant 12 = .ok (.iastore, 1) := by decide +kernel
theorem dX12_newConstant_13 : decode cX12_newConstant 13 = .ok (.aload_n 0, 1) := by decide +kernel
theorem dX12_newConstant_14 : decode cX12_newConstant 14 = .ok (.getfield 75, 3) := by decide +kernel
theorem dX12_newConstant_17 : decode cX12_newConstant 17 = .ok (.iload_n 3, 1) := by decide +kernel
theorem dX12_newConstant_18 : decode cX12_newConstant 18 = .ok (.iconst 1, 1) := by decide +kernel
theorem dX12_newConstant_19 : decode cX12_newConstant 19 = .ok (.iastore, 1) := by decide +kernel
theorem dX12_newConstant_20 : decode cX12_newConstant 20 = .ok (.aload_n 0, 1) := by decide +kernel
theorem dX12_newConstant_21 : decode cX12_newConstant 21 = .ok (.getfield 78, 3) := by decide +kernel
theorem dX12_newConstant_24 : decode cX12_newConstant 24 = .ok (.iload_n 3, 1) := by decide +kernel
theorem dX12_newConstant_25 : decode cX12_newConstant 25 = .ok (.iconst 1, 1) := by decide +kernel
theorem dX12_newConstant_26 : decode cX12_newConstant 26 = .ok (.iastore, 1) := by decide +kernel
theorem dX12_newConstant_27 : decode cX12_newConstant 27 = .ok (.iload_n 3, 1) := by decide +kernel
theorem dX12_newConstant_28 : decode cX12_newConstant 28 = .ok (.ireturn, 1) := by decide +kernel
def F_X12_newConstant (d : Nat) (v0 : Option Nm) (v1 : Int32) (v2 : Int32) (h : MH) (u : Nat) (Q : Int32 → MH → Prop) : Prop :=
  rc h v0 11 ∧ iI d u_X12_newValue [jR v0, jI v1] h u fun x1 h u =>
  gR h v0 11 30 fun x2 =>
  sV .int h x2 x1 (jI v2) fun h =>
  gR h v0 11 28 fun x3 =>
  sV .int h x3 x1 (jI 1) fun h =>
  gR h v0 11 29 fun x4 =>
  sV .int h x4 x1 (jI 1) fun h =>
  Q x1 h
set_option maxRecDepth 20000 in
theorem E_X12_newConstant {d : Nat} {v0 : Option Nm} {v1 : Int32} {v2 : Int32} {h : MH} {u : Nat} {Q : Int32 → MH → Prop} (H : F_X12_newConstant d v0 v1 v2 h u Q) : T u_X12_newConstant (d + 1) 0 [some (jR v0), some (jI v1), some (jI v2), none] [] h u (qI Q) := by
  unfold F_X12_newConstant at H
  refine T_aload_n (pc := 0) dX12_newConstant_0 rfl rfl ?_
  refine T_iload_n (pc := 1) dX12_newConstant_1 rfl rfl ?_
  obtain ⟨H0, H⟩ := H
  refine T_iV (pc := 2) (ci := 11) (av := [jI v1]) (rest := []) (o := v0) dX12_newConstant_2 mf_X12_newValue c_5_218 c_5_220 pr_X12_newValue rfl rfl (Nat.le_of_ble_eq_true rfl) rfl H0 (iI_k (iI_mono (fun x1 h u H => ?_) H))
  refine T_istore_n (pc := 5) (ls2 := [some (jR v0), some (jI v1), some (jI v2), some (jI x1)]) dX12_newConstant_5 rfl (Nat.le_of_ble_eq_true rfl) rfl ?_
  refine T_aload_n (pc := 6) dX12_newConstant_6 rfl rfl ?_
  refine T_gR (pc := 7) fa_X12_81 dX12_newConstant_7 (gR_mono (fun x2 H => ?_) H)
  refine T_iload_n (pc := 10) dX12_newConstant_10 rfl rfl ?_
  refine T_iload_n (pc := 11) dX12_newConstant_11 rfl rfl ?_
  refine T_sI (pc := 12) dX12_newConstant_12 (sV_mono (fun h H => ?_) H)
  refine T_aload_n (pc := 13) dX12_newConstant_13 rfl rfl ?_
  refine T_gR (pc := 14) fa_X12_75 dX12_newConstant_14 (gR_mono (fun x3 H => ?_) H)
  refine T_iload_n (pc := 17) dX12_newConstant_17 rfl rfl ?_
  refine T_iconst (pc := 18) (v := 1) dX12_newConstant_18 (by decide) ?_
  refine T_sI (pc := 19) dX12_newConstant_19 (sV_mono (fun h H => ?_) H)
  refine T_aload_n (pc := 20) dX12_newConstant_20 rfl rfl ?_
  refine T_gR (pc := 21) fa_X12_78 dX12_newConstant_21 (gR_mono (fun x4 H => ?_) H)
  refine T_iload_n (pc := 24) dX12_newConstant_24 rfl rfl ?_
  refine T_iconst (pc := 25) (v := 1) dX12_newConstant_25 (by decide) ?_
  refine T_sI (pc := 26) dX12_newConstant_26 (sV_mono (fun h H => ?_) H)
  refine T_iload_n (pc := 27) dX12_newConstant_27 rfl rfl ?_
  exact T_ireturn (pc := 28) rfl rfl dX12_newConstant_28 H
theorem I_X12_newConstant {d : Nat} {v0 : Option Nm} {v1 : Int32} {v2 : Int32} {h : MH} {u : Nat} {K : Int32 → MH → Nat → Prop} (u1 : Nat) (hu : u1 ≤ u) (H : F_X12_newConstant d v0 v1 v2 h u1 (fun x h2 => K x h2 (u - u1))) : iI (d + 1) u_X12_newConstant [jR v0, jI v1, jI v2] h u K := inv.of u1 hu (Ct.of (by decide +kernel) rfl (Nat.le_of_ble_eq_true rfl) rfl (E_X12_newConstant H))
theorem dX12_starts_0 : decode cX12_starts 0 = .ok (.aload_n 0, 1) := by decide +kernel
theorem dX12_starts_1 : decode cX12_starts 1 = .ok (.getfield 33, 3) := by decide +kernel
theorem dX12_starts_4 : decode cX12_starts 4 = .ok (.iload_n 1, 1) := by decide +kernel
theorem dX12_starts_5 : decode cX12_starts 5 = .ok (.baload, 1) := by decide +kernel
theorem dX12_starts_6 : decode cX12_starts 6 = .ok (.ifCond .eq 5, 3) := by decide +kernel
theorem dX12_starts_9 : decode cX12_starts 9 = .ok (.iconst 1, 1) := by decide +kernel
theorem dX12_starts_10 : decode cX12_starts 10 = .ok (.ireturn, 1) := by decide +kernel
theorem dX12_starts_11 : decode cX12_starts 11 = .ok (.iconst 4, 1) := by decide +kernel
theorem dX12_starts_12 : decode cX12_starts 12 = .ok (.iload_n 1, 1) := by decide +kernel
theorem dX12_starts_13 : decode cX12_starts 13 = .ok (.imul, 1) := by decide +kernel
theorem dX12_starts_14 : decode cX12_starts 14 = .ok (.istore_n 2, 1) := by decide +kernel
theorem dX12_starts_15 : decode cX12_starts 15 = .ok (.aload_n 0, 1) := by decide +kernel
theorem dX12_starts_16 : decode cX12_starts 16 = .ok (.getfield 27, 3) := by decide +kernel
theorem dX12_starts_19 : decode cX12_starts 19 = .ok (.iload_n 1, 1) := by decide +kernel
theorem dX12_starts_20 : decode cX12_starts 20 = .ok (.baload, 1) := by decide +kernel
theorem dX12_starts_21 : decode cX12_starts 21 = .ok (.ifCond .eq 22, 3) := by decide +kernel
theorem dX12_starts_24 : decode cX12_starts 24 = .ok (.aload_n 0, 1) := by decide +kernel
theorem dX12_starts_25 : decode cX12_starts 25 = .ok (.getfield 215, 3) := by decide +kernel
theorem dX12_starts_28 : decode cX12_starts 28 = .ok (.aload_n 0, 1) := by decide +kernel
theorem dX12_starts_29 : decode cX12_starts 29 = .ok (.getfield 42, 3) := by decide +kernel
theorem dX12_starts_32 : decode cX12_starts 32 = .ok (.iload_n 2, 1) := by decide +kernel
theorem dX12_starts_33 : decode cX12_starts 33 = .ok (.iaload, 1) := by decide +kernel
theorem dX12_starts_34 : decode cX12_starts 34 = .ok (.iadd, 1) := by decide +kernel
theorem dX12_starts_35 : decode cX12_starts 35 = .ok (.sipush 200, 3) := by decide +kernel
theorem dX12_starts_38 : decode cX12_starts 38 = .ok (.if_icmp .le 5, 3) := by decide +kernel
theorem dX12_starts_41 : decode cX12_starts 41 = .ok (.iconst 0, 1) := by decide +kernel
theorem dX12_starts_42 : decode cX12_starts 42 = .ok (.ireturn, 1) := by decide +kernel
theorem dX12_starts_43 : decode cX12_starts 43 = .ok (.aload_n 0, 1) := by decide +kernel
theorem dX12_starts_44 : decode cX12_starts 44 = .ok (.getfield 33, 3) := by decide +kernel
theorem dX12_starts_47 : decode cX12_starts 47 = .ok (.iload_n 1, 1) := by decide +kernel
theorem dX12_starts_48 : decode cX12_starts 48 = .ok (.iconst 1, 1) := by decide +kernel
theorem dX12_starts_49 : decode cX12_starts 49 = .ok (.bastore, 1) := by decide +kernel
theorem dX12_starts_50 : decode cX12_starts 50 = .ok (.aload_n 0, 1) := by decide +kernel
theorem dX12_starts_51 : decode cX12_starts 51 = .ok (.bipush 100, 2) := by decide +kernel
theorem dX12_starts_53 : decode cX12_starts 53 = .ok (.iload_n 1, 1) := by decide +kernel
theorem dX12_starts_54 : decode cX12_starts 54 = .ok (.iadd, 1) := by decide +kernel
theorem dX12_starts_55 : decode cX12_starts 55 = .ok (.invokevirtual 218, 3) := by decide +kernel
theorem dX12_starts_58 : decode cX12_starts 58 = .ok (.iconst 0, 1) := by decide +kernel
theorem dX12_starts_59 : decode cX12_starts 59 = .ok (.istore_n 3, 1) := by decide +kernel
theorem dX12_starts_60 : decode cX12_starts 60 = .ok (.aload_n 0, 1) := by decide +kernel
theorem dX12_starts_61 : decode cX12_starts 61 = .ok (.getfield 27, 3) := by decide +kernel
theorem dX12_starts_64 : decode cX12_starts 64 = .ok (.iload_n 1, 1) := by decide +kernel
theorem dX12_starts_65 : decode cX12_starts 65 = .ok (.baload, 1) := by decide +kernel
theorem dX12_starts_66 : decode cX12_starts 66 = .ok (.ifCond .eq 46, 3) := by decide +kernel
theorem dX12_starts_69 : decode cX12_starts 69 = .ok (.iload_n 3, 1) := by decide +kernel
theorem dX12_starts_70 : decode cX12_starts 70 = .ok (.aload_n 0, 1) := by decide +kernel
theorem dX12_starts_71 : decode cX12_starts 71 = .ok (.getfield 42, 3) := by decide +kernel
theorem dX12_starts_74 : decode cX12_starts 74 = .ok (.iload_n 2, 1) := by decide +kernel
theorem dX12_starts_75 : decode cX12_starts 75 = .ok (.iaload, 1) := by decide +kernel
theorem dX12_starts_76 : decode cX12_starts 76 = .ok (.if_icmp .ge 36, 3) := by decide +kernel
theorem dX12_starts_79 : decode cX12_starts 79 = .ok (.aload_n 0, 1) := by decide +kernel
theorem dX12_starts_80 : decode cX12_starts 80 = .ok (.getfield 51, 3) := by decide +kernel
theorem dX12_starts_83 : decode cX12_starts 83 = .ok (.bipush 8, 2) := by decide +kernel
theorem dX12_starts_85 : decode cX12_starts 85 = .ok (.iload_n 2, 1) := by decide +kernel
theorem dX12_starts_86 : decode cX12_starts 86 = .ok (.imul, 1) := by decide +kernel
theorem dX12_starts_87 : decode cX12_starts 87 = .ok (.iload_n 3, 1) := by decide +kernel
theorem dX12_starts_88 : decode cX12_starts 88 = .ok (.iadd, 1) := by decide +kernel
theorem dX12_starts_89 : decode cX12_starts 89 = .ok (.aload_n 0, 1) := by decide +kernel
theorem dX12_starts_90 : decode cX12_starts 90 = .ok (.iload_n 1, 1) := by decide +kernel
theorem dX12_starts_91 : decode cX12_starts 91 = .ok (.aload_n 0, 1) := by decide +kernel
theorem dX12_starts_92 : decode cX12_starts 92 = .ok (.getfield 45, 3) := by decide +kernel
theorem dX12_starts_95 : decode cX12_starts 95 = .ok (.bipush 8, 2) := by decide +kernel
theorem dX12_starts_97 : decode cX12_starts 97 = .ok (.iload_n 2, 1) := by decide +kernel
theorem dX12_starts_98 : decode cX12_starts 98 = .ok (.imul, 1) := by decide +kernel
theorem dX12_starts_99 : decode cX12_starts 99 = .ok (.iload_n 3, 1) := by decide +kernel
theorem dX12_starts_100 : decode cX12_starts 100 = .ok (.iadd, 1) := by decide +kernel
theorem dX12_starts_101 : decode cX12_starts 101 = .ok (.iaload, 1) := by decide +kernel
theorem dX12_starts_102 : decode cX12_starts 102 = .ok (.invokevirtual 222, 3) := by decide +kernel
theorem dX12_starts_105 : decode cX12_starts 105 = .ok (.iastore, 1) := by decide +kernel
theorem dX12_starts_106 : decode cX12_starts 106 = .ok (.iinc 3 1, 3) := by decide +kernel
theorem dX12_starts_109 : decode cX12_starts 109 = .ok (.goto (-49), 3) := by decide +kernel
theorem dX12_starts_112 : decode cX12_starts 112 = .ok (.iconst 1, 1) := by decide +kernel
theorem dX12_starts_113 : decode cX12_starts 113 = .ok (.ireturn, 1) := by decide +kernel
def L_X12_starts_60 (d : Nat) (v0 : Option Nm) (v1 : Int32) (v2 : Int32) (v3 : Int32) (h : MH) (u : Nat) (Q : Int32 → MH → Prop) : Prop := T u_X12_starts (d + 1) 60 [some (jR v0), some (jI v1), some (jI v2), some (jI v3)] [] h u (qI Q)
def F_X12_starts_43 (d : Nat) (v0 : Option Nm) (v1 : Int32) (v2 : Int32) (h : MH) (u : Nat) (Q : Int32 → MH → Prop) : Prop :=
  gR h v0 11 12 fun x1 =>
  sV .boolean h x1 v1 (jI (vp_nar .boolean 1)) fun h =>
  rc h v0 11 ∧ iV d u_X12_traced [jR v0, jI (100 + v1)] h u fun h u =>
  L_X12_starts_60 d v0 v1 v2 0 h u Q
set_option maxRecDepth 20000 in
theorem E_X12_starts_43 {d : Nat} {v0 : Option Nm} {v1 : Int32} {v2 : Int32} {h : MH} {u : Nat} {Q : Int32 → MH → Prop} (H : F_X12_starts_43 d v0 v1 v2 h u Q) : T u_X12_starts (d + 1) 43 [some (jR v0), some (jI v1), some (jI v2), none] [] h u (qI Q) := by
  unfold F_X12_starts_43 at H
  refine T_aload_n (pc := 43) dX12_starts_43 rfl rfl ?_
  refine T_gR (pc := 44) fa_X12_33 dX12_starts_44 (gR_mono (fun x1 H => ?_) H)
  refine T_iload_n (pc := 47) dX12_starts_47 rfl rfl ?_
  refine T_iconst (pc := 48) (v := 1) dX12_starts_48 (by decide) ?_
  refine T_sZ (pc := 49) dX12_starts_49 (sV_mono (fun h H => ?_) H)
  refine T_aload_n (pc := 50) dX12_starts_50 rfl rfl ?_
  refine T_bipush (pc := 51) (v := 100) dX12_starts_51 (by decide) ?_
  refine T_iload_n (pc := 53) dX12_starts_53 rfl rfl ?_
  refine T_iadd (pc := 54) dX12_starts_54 ?_
  obtain ⟨H0, H⟩ := H
  refine T_iV (pc := 55) (ci := 11) (av := [jI (100 + v1)]) (rest := []) (o := v0) dX12_starts_55 mf_X12_traced c_6_6 c_6_8 pr_X12_traced rfl rfl (Nat.le_of_ble_eq_true rfl) rfl H0 (iV_k (iV_mono (fun h u H => ?_) H))
  refine T_iconst (pc := 58) (v := 0) dX12_starts_58 (by decide) ?_
  refine T_istore_n (pc := 59) (ls2 := [some (jR v0), some (jI v1), some (jI v2), some (jI 0)]) dX12_starts_59 rfl (Nat.le_of_ble_eq_true rfl) rfl ?_
  exact T.forget H ⟨rfl, rfl, rfl, rfl, trivial⟩
def F_X12_starts (d : Nat) (v0 : Option Nm) (v1 : Int32) (h : MH) (u : Nat) (Q : Int32 → MH → Prop) : Prop :=
  gR h v0 11 12 fun x1 =>
  aI .boolean h x1 v1 fun x2 =>
  if x2 = 0 then
    gR h v0 11 10 fun x3 =>
    aI .boolean h x3 v1 fun x4 =>
    if x4 = 0 then
      F_X12_starts_43 d v0 v1 (4 * v1) h u Q
    else
      gI h v0 11 24 fun x5 =>
      gR h v0 11 15 fun x6 =>
      aI .int h x6 (4 * v1) fun x7 =>
      if (x5 + x7) ≤ 200 then
        F_X12_starts_43 d v0 v1 (4 * v1) h u Q
      else
        nz 0 ∧ Q 0 h
  else
    nz 1 ∧ Q 1 h
set_option maxRecDepth 20000 in
theorem E_X12_starts {d : Nat} {v0 : Option Nm} {v1 : Int32} {h : MH} {u : Nat} {Q : Int32 → MH → Prop} (H : F_X12_starts d v0 v1 h u Q) : T u_X12_starts (d + 1) 0 [some (jR v0), some (jI v1), none, none] [] h u (qI Q) := by
  unfold F_X12_starts at H
  refine T_aload_n (pc := 0) dX12_starts_0 rfl rfl ?_
  refine T_gR (pc := 1) fa_X12_33 dX12_starts_1 (gR_mono (fun x1 H => ?_) H)
  refine T_iload_n (pc := 4) dX12_starts_4 rfl rfl ?_
  refine T_aZ (pc := 5) dX12_starts_5 (aI_mono (fun x2 H => ?_) H)
  refine T_if_eq (pc := 6) (tgt := 11) dX12_starts_6 (by decide) (fun hc => ?_) (fun hc => ?_)
  · rw [if_pos hc] at H
    refine T_iconst (pc := 11) (v := 4) dX12_starts_11 (by decide) ?_
    refine T_iload_n (pc := 12) dX12_starts_12 rfl rfl ?_
    refine T_imul (pc := 13) dX12_starts_13 ?_
    refine T_istore_n (pc := 14) (ls2 := [some (jR v0), some (jI v1), some (jI (4 * v1)), none]) dX12_starts_14 rfl (Nat.le_of_ble_eq_true rfl) rfl ?_
    refine T_aload_n (pc := 15) dX12_starts_15 rfl rfl ?_
    refine T_gR (pc := 16) fa_X12_27 dX12_starts_16 (gR_mono (fun x3 H => ?_) H)
    refine T_iload_n (pc := 19) dX12_starts_19 rfl rfl ?_
    refine T_aZ (pc := 20) dX12_starts_20 (aI_mono (fun x4 H => ?_) H)
    refine T_if_eq (pc := 21) (tgt := 43) dX12_starts_21 (by decide) (fun hc => ?_) (fun hc => ?_)
    · rw [if_pos hc] at H
      exact T.forget (E_X12_starts_43 H) ⟨rfl, rfl, rfl, trivial⟩
    · rw [if_neg hc] at H
      refine T_aload_n (pc := 24) dX12_starts_24 rfl rfl ?_
      refine T_gI (pc := 25) fa_X12_215 dX12_starts_25 (gI_mono (fun x5 H => ?_) H)
      refine T_aload_n (pc := 28) dX12_starts_28 rfl rfl ?_
      refine T_gR (pc := 29) fa_X12_42 dX12_starts_29 (gR_mono (fun x6 H => ?_) H)
      refine T_iload_n (pc := 32) dX12_starts_32 rfl rfl ?_
      refine T_aI (pc := 33) dX12_starts_33 (aI_mono (fun x7 H => ?_) H)
      refine T_iadd (pc := 34) dX12_starts_34 ?_
      refine T_sipush (pc := 35) (v := 200) dX12_starts_35 (by decide) ?_
      refine T_icmp_le (pc := 38) (tgt := 43) dX12_starts_38 (by decide) (fun hc => ?_) (fun hc => ?_)
      · rw [if_pos hc] at H
        exact T.forget (E_X12_starts_43 H) ⟨rfl, rfl, rfl, trivial⟩
      · rw [if_neg hc] at H
        refine T_iconst (pc := 41) (v := 0) dX12_starts_41 (by decide) ?_
        exact T_ireturn (pc := 42) rfl (nz_nar H.1) dX12_starts_42 H.2
  · rw [if_neg hc] at H
    refine T_iconst (pc := 9) (v := 1) dX12_starts_9 (by decide) ?_
    exact T_ireturn (pc := 10) rfl (nz_nar H.1) dX12_starts_10 H.2
def F_X12_starts_60 (d : Nat) (v0 : Option Nm) (v1 : Int32) (v2 : Int32) (v3 : Int32) (h : MH) (u : Nat) (Q : Int32 → MH → Prop) : Prop :=
  gR h v0 11 10 fun x1 =>
  aI .boolean h x1 v1 fun x2 =>
  if x2 = 0 then
    nz 1 ∧ Q 1 h
  else
    gR h v0 11 15 fun x3 =>
    aI .int h x3 v2 fun x4 =>
    if x4 ≤ v3 then
      nz 1 ∧ Q 1 h
    else
      gR h v0 11 18 fun x5 =>
      gR h v0 11 16 fun x6 =>
      aI .int h x6 ((8 * v2) + v3) fun x7 =>
      rc h v0 11 ∧ iI d u_X12_newConstant [jR v0, jI v1, jI x7] h u fun x8 h u =>
      sV .int h x5 ((8 * v2) + v3) (jI x8) fun h =>
      L_X12_starts_60 d v0 v1 v2 (v3 + 1) h u Q
set_option maxRecDepth 20000 in
theorem E_X12_starts_60 {d : Nat} {v0 : Option Nm} {v1 : Int32} {v2 : Int32} {v3 : Int32} {h : MH} {u : Nat} {Q : Int32 → MH → Prop} (H : F_X12_starts_60 d v0 v1 v2 v3 h u Q) : T u_X12_starts (d + 1) 60 [some (jR v0), some (jI v1), some (jI v2), some (jI v3)] [] h u (qI Q) := by
  unfold F_X12_starts_60 at H
  refine T_aload_n (pc := 60) dX12_starts_60 rfl rfl ?_
  refine T_gR (pc := 61) fa_X12_27 dX12_starts_61 (gR_mono (fun x1 H => ?_) H)
  refine T_iload_n (pc := 64) dX12_starts_64 rfl rfl ?_
  refine T_aZ (pc := 65) dX12_starts_65 (aI_mono (fun x2 H => ?_) H)
  refine T_if_eq (pc := 66) (tgt := 112) dX12_starts_66 (by decide) (fun hc => ?_) (fun hc => ?_)
  · rw [if_pos hc] at H
    refine T_iconst (pc := 112) (v := 1) dX12_starts_112 (by decide) ?_
    exact T_ireturn (pc := 113) rfl (nz_nar H.1) dX12_starts_113 H.2
  · rw [if_neg hc] at H
    refine T_iload_n (pc := 69) dX12_starts_69 rfl rfl ?_
    refine T_aload_n (pc := 70) dX12_starts_70 rfl rfl ?_
    refine T_gR (pc := 71) fa_X12_42 dX12_starts_71 (gR_mono (fun x3 H => ?_) H)
    refine T_iload_n (pc := 74) dX12_starts_74 rfl rfl ?_
    refine T_aI (pc := 75) dX12_starts_75 (aI_mono (fun x4 H => ?_) H)
    refine T_icmp_ge (pc := 76) (tgt := 112) dX12_starts_76 (by decide) (fun hc => ?_) (fun hc => ?_)
    · rw [if_pos hc] at H
      refine T_iconst (pc := 112) (v := 1) dX12_starts_112 (by decide) ?_
      exact T_ireturn (pc := 113) rfl (nz_nar H.1) dX12_starts_113 H.2
    · rw [if_neg hc] at H
      refine T_aload_n (pc := 79) dX12_starts_79 rfl rfl ?_
      refine T_gR (pc := 80) fa_X12_51 dX12_starts_80 (gR_mono (fun x5 H => ?_) H)
      refine T_bipush (pc := 83) (v := 8) dX12_starts_83 (by decide) ?_
      refine T_iload_n (pc := 85) dX12_starts_85 rfl rfl ?_
      refine T_imul (pc := 86) dX12_starts_86 ?_
      refine T_iload_n (pc := 87) dX12_starts_87 rfl rfl ?_
      refine T_iadd (pc := 88) dX12_starts_88 ?_
      refine T_aload_n (pc := 89) dX12_starts_89 rfl rfl ?_
      refine T_iload_n (pc := 90) dX12_starts_90 rfl rfl ?_
      refine T_aload_n (pc := 91) dX12_starts_91 rfl rfl ?_
      refine T_gR (pc := 92) fa_X12_45 dX12_starts_92 (gR_mono (fun x6 H => ?_) H)
      refine T_bipush (pc := 95) (v := 8) dX12_starts_95 (by decide) ?_
      refine T_iload_n (pc := 97) dX12_starts_97 rfl rfl ?_
      refine T_imul (pc := 98) dX12_starts_98 ?_
      refine T_iload_n (pc := 99) dX12_starts_99 rfl rfl ?_
      refine T_iadd (pc := 100) dX12_starts_100 ?_
      refine T_aI (pc := 101) dX12_starts_101 (aI_mono (fun x7 H => ?_) H)
      obtain ⟨H0, H⟩ := H
      refine T_iV (pc := 102) (ci := 11) (av := [jI v1, jI x7]) (rest := [jI ((8 * v2) + v3), jR x5]) (o := v0) dX12_starts_102 mf_X12_newConstant c_5_214 c_5_216 pr_X12_newConstant rfl rfl (Nat.le_of_ble_eq_true rfl) rfl H0 (iI_k (iI_mono (fun x8 h u H => ?_) H))
      refine T_sI (pc := 105) dX12_starts_105 (sV_mono (fun h H => ?_) H)
      refine T_iinc (pc := 106) (v := v3 + 1) (ls2 := [some (jR v0), some (jI v1), some (jI v2), some (jI (v3 + 1))]) dX12_starts_106 rfl rfl (Nat.le_of_ble_eq_true rfl) rfl ?_
      refine T_goto (pc := 109) (tgt := 60) dX12_starts_109 (by decide) ?_
      exact T.forget H ⟨rfl, rfl, rfl, rfl, trivial⟩
theorem I_X12_starts {d : Nat} {v0 : Option Nm} {v1 : Int32} {h : MH} {u : Nat} {K : Int32 → MH → Nat → Prop} (u1 : Nat) (hu : u1 ≤ u) (H : F_X12_starts d v0 v1 h u1 (fun x h2 => K x h2 (u - u1))) : iI (d + 1) u_X12_starts [jR v0, jI v1] h u K := inv.of u1 hu (Ct.of (by decide +kernel) rfl (Nat.le_of_ble_eq_true rfl) rfl (E_X12_starts H))
theorem dX12_edition_0 : decode cX12_edition 0 = .ok (.aload_n 0, 1) := by decide +kernel
theorem dX12_edition_1 : decode cX12_edition 1 = .ok (.iload_n 1, 1) := by decide +kernel
theorem dX12_edition_2 : decode cX12_edition 2 = .ok (.invokevirtual 206, 3) := by decide +kernel
theorem dX12_edition_5 : decode cX12_edition 5 = .ok (.ifCond .ne 5, 3) := by decide +kernel
theorem dX12_edition_8 : decode cX12_edition 8 = .ok (.iconst (-1), 1) := by decide +kernel
theorem dX12_edition_9 : decode cX12_edition 9 = .ok (.ireturn, 1) := by decide +kernel
theorem dX12_edition_10 : decode cX12_edition 10 = .ok (.aload_n 0, 1) := by decide +kernel
theorem dX12_edition_11 : decode cX12_edition 11 = .ok (.getfield 27, 3) := by decide +kernel
theorem dX12_edition_14 : decode cX12_edition 14 = .ok (.iload_n 1, 1) := by decide +kernel
theorem dX12_edition_15 : decode cX12_edition 15 = .ok (.baload, 1) := by decide +kernel
theorem dX12_edition_16 : decode cX12_edition 16 = .ok (.istore 5, 2) := by decide +kernel
theorem dX12_edition_18 : decode cX12_edition 18 = .ok (.iload_n 2, 1) := by decide +kernel
theorem dX12_edition_19 : decode cX12_edition 19 = .ok (.iconst 0, 1) := by decide +kernel
theorem dX12_edition_20 : decode cX12_edition 20 = .ok (.iconst 3, 1) := by decide +kernel
theorem dX12_edition_21 : decode cX12_edition 21 = .ok (.invokestatic 156, 3) := by decide +kernel
theorem dX12_edition_24 : decode cX12_edition 24 = .ok (.ifCond .eq 43, 3) := by decide +kernel
theorem dX12_edition_27 : decode cX12_edition 27 = .ok (.iload_n 2, 1) := by decide +kernel
theorem dX12_edition_28 : decode cX12_edition 28 = .ok (.iconst 3, 1) := by decide +kernel
theorem dX12_edition_29 : decode cX12_edition 29 = .ok (.if_icmp .eq 13, 3) := by decide +kernel
theorem dX12_edition_32 : decode cX12_edition 32 = .ok (.iload_n 3, 1) := by decide +kernel
theorem dX12_edition_33 : decode cX12_edition 33 = .ok (.iconst 1, 1) := by decide +kernel
theorem dX12_edition_34 : decode cX12_edition 34 = .ok (.bipush 99, 2) := by decide +kernel
theorem dX12_edition_36 : decode cX12_edition 36 = .ok (.invokestatic 156, 3) := by decide +kernel
theorem dX12_edition_39 : decode cX12_edition 39 = .ok (.ifCond .eq 28, 3) := by decide +kernel
theorem dX12_edition_42 : decode cX12_edition 42 = .ok (.iload 5, 2) := by decide +kernel
theorem dX12_edition_44 : decode cX12_edition 44 = .ok (.ifCond .ne 26, 3) := by decide +kernel
theorem dX12_edition_47 : decode cX12_edition 47 = .ok (.iload_n 2, 1) := by decide +kernel
theorem dX12_edition_48 : decode cX12_edition 48 = .ok (.ifCond .eq 8, 3) := by decide +kernel
theorem dX12_edition_51 : decode cX12_edition 51 = .ok (.iload_n 2, 1) := by decide +kernel
theorem dX12_edition_52 : decode cX12_edition 52 = .ok (.iconst 2, 1) := by decide +kernel
theorem dX12_edition_53 : decode cX12_edition 53 = .ok (.if_icmp .ne 17, 3) := by decide +kernel
theorem dX12_edition_56 : decode cX12_edition 56 = .ok (.iload 4, 2) := by decide +kernel
theorem dX12_edition_58 : decode cX12_edition 58 = .ok (.iconst 0, 1) := by decide +kernel
theorem dX12_edition_59 : decode cX12_edition 59 = .ok (.bipush 9, 2) := by decide +kernel
theorem dX12_edition_61 : decode cX12_edition 61 = .ok (.invokestatic 156, 3) := by decide +kernel
theorem dX12_edition_64 : decode cX12_edition 64 = .ok (.ifCond .ne 6, 3) := by decide +kernel
theorem dX12_edition_67 : decode cX12_edition 67 = .ok (.bipush (-2), 2) := by decide +kernel
theorem dX12_edition_69 : decode cX12_edition 69 = .ok (.ireturn, 1) := by decide +kernel
theorem dX12_edition_70 : decode cX12_edition 70 = .ok (.aload_n 0, 1) := by decide +kernel
theorem dX12_edition_71 : decode cX12_edition 71 = .ok (.iload_n 1, 1) := by decide +kernel
theorem dX12_edition_72 : decode cX12_edition 72 = .ok (.invokevirtual 225, 3) := by decide +kernel
theorem dX12_edition_75 : decode cX12_edition 75 = .ok (.istore 6, 2) := by decide +kernel
theorem dX12_edition_77 : decode cX12_edition 77 = .ok (.iload_n 2, 1) := by decide +kernel
theorem dX12_edition_78 : decode cX12_edition 78 = .ok (.iconst 3, 1) := by decide +kernel
theorem dX12_edition_79 : decode cX12_edition 79 = .ok (.if_icmp .ne 7, 3) := by decide +kernel
theorem dX12_edition_82 : decode cX12_edition 82 = .ok (.iconst (-1), 1) := by decide +kernel
theorem dX12_edition_83 : decode cX12_edition 83 = .ok (.goto 10, 3) := by decide +kernel
theorem dX12_edition_86 : decode cX12_edition 86 = .ok (.aload_n 0, 1) := by decide +kernel
theorem dX12_edition_87 : decode cX12_edition 87 = .ok (.iload 6, 2) := by decide +kernel
theorem dX12_edition_89 : decode cX12_edition 89 = .ok (.iload_n 3, 1) := by decide +kernel
theorem dX12_edition_90 : decode cX12_edition 90 = .ok (.invokevirtual 209, 3) := by decide +kernel
theorem dX12_edition_93 : decode cX12_edition 93 = .ok (.istore 7, 2) := by decide +kernel
theorem dX12_edition_95 : decode cX12_edition 95 = .ok (.aload_n 0, 1) := by decide +kernel
theorem dX12_edition_96 : decode cX12_edition 96 = .ok (.getfield 33, 3) := by decide +kernel
theorem dX12_edition_99 : decode cX12_edition 99 = .ok (.iload_n 1, 1) := by decide +kernel
theorem dX12_edition_100 : decode cX12_edition 100 = .ok (.baload, 1) := by decide +kernel
theorem dX12_edition_101 : decode cX12_edition 101 = .ok (.ifCond .eq 37, 3) := by decide +kernel
theorem dX12_edition_104 : decode cX12_edition 104 = .ok (.iload 5, 2) := by decide +kernel
theorem dX12_edition_106 : decode cX12_edition 106 = .ok (.ifCond .eq 8, 3) := by decide +kernel
theorem dX12_edition_109 : decode cX12_edition 109 = .ok (.iload_n 2, 1) := by decide +kernel
theorem dX12_edition_110 : decode cX12_edition 110 = .ok (.iconst 2, 1) := by decide +kernel
theorem dX12_edition_111 : decode cX12_edition 111 = .ok (.if_icmp .eq 27, 3) := by decide +kernel
theorem dX12_edition_114 : decode cX12_edition 114 = .ok (.iload_n 2, 1) := by decide +kernel
theorem dX12_edition_115 : decode cX12_edition 115 = .ok (.ifCond .ne 8, 3) := by decide +kernel
theorem dX12_edition_118 : decode cX12_edition 118 = .ok (.iload 7, 2) := by decide +kernel
theorem dX12_edition_120 : decode cX12_edition 120 = .ok (.ifCond .ge 18, 3) := by decide +kernel
theorem dX12_edition_123 : decode cX12_edition 123 = .ok (.iload_n 2, 1) := by decide +kernel
theorem dX12_edition_124 : decode cX12_edition 124 = .ok (.iconst 1, 1) := by decide +kernel
theorem dX12_edition_125 : decode cX12_edition 125 = .ok (.if_icmp .eq 8, 3) := by decide +kernel
theorem dX12_edition_128 : decode cX12_edition 128 = .ok (.iload_n 2, 1) := by decide +kernel
theorem dX12_edition_129 : decode cX12_edition 129 = .ok (.iconst 2, 1) := by decide +kernel
theorem dX12_edition_130 : decode cX12_edition 130 = .ok (.if_icmp .ne 11, 3) := by decide +kernel
theorem dX12_edition_133 : decode cX12_edition 133 = .ok (.iload 7, 2) := by decide +kernel
theorem dX12_edition_135 : decode cX12_edition 135 = .ok (.ifCond .ge 6, 3) := by decide +kernel
theorem dX12_edition_138 : decode cX12_edition 138 = .ok (.bipush (-3), 2) := by decide +kernel
theorem dX12_edition_140 : decode cX12_edition 140 = .ok (.ireturn, 1) := by decide +kernel
theorem dX12_edition_141 : decode cX12_edition 141 = .ok (.aload_n 0, 1) := by decide +kernel
theorem dX12_edition_142 : decode cX12_edition 142 = .ok (.getfield 36, 3) := by decide +kernel
theorem dX12_edition_145 : decode cX12_edition 145 = .ok (.iload_n 1, 1) := by decide +kernel
theorem dX12_edition_146 : decode cX12_edition 146 = .ok (.iaload, 1) := by decide +kernel
theorem dX12_edition_147 : decode cX12_edition 147 = .ok (.iconst 3, 1) := by decide +kernel
theorem dX12_edition_148 : decode cX12_edition 148 = .ok (.if_icmp .eq 44, 3) := by decide +kernel
theorem dX12_edition_151 : decode cX12_edition 151 = .ok (.iload_n 2, 1) := by decide +kernel
theorem dX12_edition_152 : decode cX12_edition 152 = .ok (.ifCond .ne 43, 3) := by decide +kernel
theorem dX12_edition_155 : decode cX12_edition 155 = .ok (.aload_n 0, 1) := by decide +kernel
theorem dX12_edition_156 : decode cX12_edition 156 = .ok (.getfield 42, 3) := by decide +kernel
theorem dX12_edition_159 : decode cX12_edition 159 = .ok (.iload 6, 2) := by decide +kernel
theorem dX12_edition_161 : decode cX12_edition 161 = .ok (.iaload, 1) := by decide +kernel
theorem dX12_edition_162 : decode cX12_edition 162 = .ok (.iload 5, 2) := by decide +kernel
theorem dX12_edition_164 : decode cX12_edition 164 = .ok (.ifCond .eq 8, 3) := by decide +kernel
theorem dX12_edition_167 : decode cX12_edition 167 = .ok (.bipush 8, 2) := by decide +kernel
theorem dX12_edition_169 : decode cX12_edition 169 = .ok (.goto 5, 3) := by decide +kernel
theorem dX12_edition_172 : decode cX12_edition 172 = .ok (.bipush 6, 2) := by decide +kernel
theorem dX12_edition_174 : decode cX12_edition 174 = .ok (.if_icmp .eq 18, 3) := by decide +kernel
theorem dX12_edition_177 : decode cX12_edition 177 = .ok (.iload 5, 2) := by decide +kernel
theorem dX12_edition_179 : decode cX12_edition 179 = .ok (.ifCond .eq 16, 3) := by decide +kernel
theorem dX12_edition_182 : decode cX12_edition 182 = .ok (.aload_n 0, 1) := by decide +kernel
theorem dX12_edition_183 : decode cX12_edition 183 = .ok (.getfield 215, 3) := by decide +kernel
theorem dX12_edition_186 : decode cX12_edition 186 = .ok (.sipush 200, 3) := by decide +kernel
theorem dX12_edition_189 : decode cX12_edition 189 = .ok (.if_icmp .ne 6, 3) := by decide +kernel
theorem dX12_edition_192 : decode cX12_edition 192 = .ok (.bipush (-4), 2) := by decide +kernel
theorem dX12_edition_194 : decode cX12_edition 194 = .ok (.ireturn, 1) := by decide +kernel
theorem dX12_edition_195 : decode cX12_edition 195 = .ok (.aload_n 0, 1) := by decide +kernel
theorem dX12_edition_196 : decode cX12_edition 196 = .ok (.getfield 36, 3) := by decide +kernel
theorem dX12_edition_199 : decode cX12_edition 199 = .ok (.iload_n 1, 1) := by decide +kernel
theorem dX12_edition_200 : decode cX12_edition 200 = .ok (.dup2, 1) := by decide +kernel
theorem dX12_edition_201 : decode cX12_edition 201 = .ok (.iaload, 1) := by decide +kernel
theorem dX12_edition_202 : decode cX12_edition 202 = .ok (.iconst 1, 1) := by decide +kernel
theorem dX12_edition_203 : decode cX12_edition 203 = .ok (.iadd, 1) := by decide +kernel
theorem dX12_edition_204 : decode cX12_edition 204 = .ok (.iastore, 1) := by decide +kernel
theorem dX12_edition_205 : decode cX12_edition 205 = .ok (.iconst 0, 1) := by decide +kernel
theorem dX12_edition_206 : decode cX12_edition 206 = .ok (.istore 8, 2) := by decide +kernel
theorem dX12_edition_208 : decode cX12_edition 208 = .ok (.iconst 0, 1) := by decide +kernel
theorem dX12_edition_209 : decode cX12_edition 209 = .ok (.istore 9, 2) := by decide +kernel
theorem dX12_edition_211 : decode cX12_edition 211 = .ok (.iload 9, 2) := by decide +kernel
theorem dX12_edition_213 : decode cX12_edition 213 = .ok (.aload_n 0, 1) := by decide +kernel
theorem dX12_edition_214 : decode cX12_edition 214 = .ok (.getfield 42, 3) := by decide +kernel
theorem dX12_edition_217 : decode cX12_edition 217 = .ok (.iload 6, 2) := by decide +kernel
theorem dX12_edition_219 : decode cX12_edition 219 = .ok (.iaload, 1) := by decide +kernel
theorem dX12_edition_220 : decode cX12_edition 220 = .ok (.if_icmp .ge 128, 3) := by decide +kernel
theorem dX12_edition_223 : decode cX12_edition 223 = .ok (.bipush 8, 2) := by decide +kernel
theorem dX12_edition_225 : decode cX12_edition 225 = .ok (.iload 6, 2) := by decide +kernel
theorem dX12_edition_227 : decode cX12_edition 227 = .ok (.imul, 1) := by decide +kernel
theorem dX12_edition_228 : decode cX12_edition 228 = .ok (.iload_n 2, 1) := by decide +kernel
theorem dX12_edition_229 : decode cX12_edition 229 = .ok (.iconst 3, 1) := by decide +kernel
theorem dX12_edition_230 : decode cX12_edition 230 = .ok (.if_icmp .ne 18, 3) := by decide +kernel
theorem dX12_edition_233 : decode cX12_edition 233 = .ok (.aload_n 0, 1) := by decide +kernel
theorem dX12_edition_234 : decode cX12_edition 234 = .ok (.getfield 42, 3) := by decide +kernel
theorem dX12_edition_237 : decode cX12_edition 237 = .ok (.iload 6, 2) := by decide +kernel
theorem dX12_edition_239 : decode cX12_edition 239 = .ok (.iaload, 1) := by decide +kernel
theorem dX12_edition_240 : decode cX12_edition 240 = .ok (.iconst 1, 1) := by decide +kernel
theorem dX12_edition_241 : decode cX12_edition 241 = .ok (.isub, 1) := by decide +kernel
theorem dX12_edition_242 : decode cX12_edition 242 = .ok (.iload 9, 2) := by decide +kernel
theorem dX12_edition_244 : decode cX12_edition 244 = .ok (.isub, 1) := by decide +kernel
theorem dX12_edition_245 : decode cX12_edition 245 = .ok (.goto 5, 3) := by decide +kernel
theorem dX12_edition_248 : decode cX12_edition 248 = .ok (.iload 9, 2) := by decide +kernel
theorem dX12_edition_250 : decode cX12_edition 250 = .ok (.iadd, 1) := by decide +kernel
theorem dX12_edition_251 : decode cX12_edition 251 = .ok (.istore 10, 2) := by decide +kernel
theorem dX12_edition_253 : decode cX12_edition 253 = .ok (.iload_n 2, 1) := by decide +kernel
theorem dX12_edition_254 : decode cX12_edition 254 = .ok (.iconst 1, 1) := by decide +kernel
theorem dX12_edition_255 : decode cX12_edition 255 = .ok (.if_icmp .ne 13, 3) := by decide +kernel
theorem dX12_edition_258 : decode cX12_edition 258 = .ok (.iload 9, 2) := by decide +kernel
theorem dX12_edition_260 : decode cX12_edition 260 = .ok (.iload 7, 2) := by decide +kernel
theorem dX12_edition_262 : decode cX12_edition 262 = .ok (.if_icmp .ne 6, 3) := by decide +kernel
theorem dX12_edition_265 : decode cX12_edition 265 = .ok (.goto 77, 3) := by decide +kernel
theorem dX12_edition_268 : decode cX12_edition 268 = .ok (.bipush 8, 2) := by decide +kernel
theorem dX12_edition_270 : decode cX12_edition 270 = .ok (.iload 6, 2) := by decide +kernel
theorem dX12_edition_272 : decode cX12_edition 272 = .ok (.iconst 1, 1) := by decide +kernel
theorem dX12_edition_273 : decode cX12_edition 273 = .ok (.iadd, 1) := by decide +kernel
theorem dX12_edition_274 : decode cX12_edition 274 = .ok (.imul, 1) := by decide +kernel
theorem dX12_edition_275 : decode cX12_edition 275 = .ok (.iload 8, 2) := by decide +kernel
theorem dX12_edition_277 : decode cX12_edition 277 = .ok (.iadd, 1) := by decide +kernel
theorem dX12_edition_278 : decode cX12_edition 278 = .ok (.istore 11, 2) := by decide +kernel
theorem dX12_edition_280 : decode cX12_edition 280 = .ok (.aload_n 0, 1) := by decide +kernel
theorem dX12_edition_281 : decode cX12_edition 281 = .ok (.getfield 45, 3) := by decide +kernel
theorem dX12_edition_284 : decode cX12_edition 284 = .ok (.iload 11, 2) := by decide +kernel
theorem dX12_edition_286 : decode cX12_edition 286 = .ok (.aload_n 0, 1) := by decide +kernel
theorem dX12_edition_287 : decode cX12_edition 287 = .ok (.getfield 45, 3) := by decide +kernel
theorem dX12_edition_290 : decode cX12_edition 290 = .ok (.iload 10, 2) := by decide +kernel
theorem dX12_edition_292 : decode cX12_edition 292 = .ok (.iaload, 1) := by decide +kernel
theorem dX12_edition_293 : decode cX12_edition 293 = .ok (.iastore, 1) := by decide +kernel
theorem dX12_edition_294 : decode cX12_edition 294 = .ok (.aload_n 0, 1) := by decide +kernel
theorem dX12_edition_295 : decode cX12_edition 295 = .ok (.getfield 48, 3) := by decide +kernel
theorem dX12_edition_298 : decode cX12_edition 298 = .ok (.iload 11, 2) := by decide +kernel
theorem dX12_edition_300 : decode cX12_edition 300 = .ok (.iload_n 2, 1) := by decide +kernel
theorem dX12_edition_301 : decode cX12_edition 301 = .ok (.iconst 2, 1) := by decide +kernel
theorem dX12_edition_302 : decode cX12_edition 302 = .ok (.if_icmp .ne 15, 3) := by decide +kernel
theorem dX12_edition_305 : decode cX12_edition 305 = .ok (.iload 9, 2) := by decide +kernel
theorem dX12_edition_307 : decode cX12_edition 307 = .ok (.iload 7, 2) := by decide +kernel
theorem dX12_edition_309 : decode cX12_edition 309 = .ok (.if_icmp .ne 8, 3) := by decide +kernel
theorem dX12_edition_312 : decode cX12_edition 312 = .ok (.iload 4, 2) := by decide +kernel
theorem dX12_edition_314 : decode cX12_edition 314 = .ok (.goto 10, 3) := by decide +kernel
theorem dX12_edition_317 : decode cX12_edition 317 = .ok (.aload_n 0, 1) := by decide +kernel
theorem dX12_edition_318 : decode cX12_edition 318 = .ok (.getfield 48, 3) := by decide +kernel
theorem dX12_edition_321 : decode cX12_edition 321 = .ok (.iload 10, 2) := by decide +kernel
theorem dX12_edition_323 : decode cX12_edition 323 = .ok (.iaload, 1) := by decide +kernel
theorem dX12_edition_324 : decode cX12_edition 324 = .ok (.iastore, 1) := by decide +kernel
theorem dX12_edition_325 : decode cX12_edition 325 = .ok (.aload_n 0, 1) := by decide +kernel
theorem dX12_edition_326 : decode cX12_edition 326 = .ok (.getfield 51, 3) := by decide +kernel
theorem dX12_edition_329 : decode cX12_edition 329 = .ok (.iload 11, 2) := by decide +kernel
theorem dX12_edition_331 : decode cX12_edition 331 = .ok (.aload_n 0, 1) := by decide +kernel
theorem dX12_edition_332 : decode cX12_edition 332 = .ok (.getfield 51, 3) := by decide +kernel
theorem dX12_edition_335 : decode cX12_edition 335 = .ok (.iload 10, 2) := by decide +kernel
theorem dX12_edition_337 : decode cX12_edition 337 = .ok (.iaload, 1) := by decide +kernel
theorem dX12_edition_338 : decode cX12_edition 338 = .ok (.iastore, 1) := by decide +kernel
theorem dX12_edition_339 : decode cX12_edition 339 = .ok (.iinc 8 1, 3) := by decide +kernel
theorem dX12_edition_342 : decode cX12_edition 342 = .ok (.iinc 9 1, 3) := by decide +kernel
theorem dX12_edition_345 : decode cX12_edition 345 = .ok (.goto (-134), 3) := by decide +kernel
theorem dX12_edition_348 : decode cX12_edition 348 = .ok (.iload_n 2, 1) := by decide +kernel
theorem dX12_edition_349 : decode cX12_edition 349 = .ok (.ifCond .ne 57, 3) := by decide +kernel
theorem dX12_edition_352 : decode cX12_edition 352 = .ok (.bipush 8, 2) := by decide +kernel
theorem dX12_edition_354 : decode cX12_edition 354 = .ok (.iload 6, 2) := by decide +kernel
theorem dX12_edition_356 : decode cX12_edition 356 = .ok (.iconst 1, 1) := by decide +kernel
theorem dX12_edition_357 : decode cX12_edition 357 = .ok (.iadd, 1) := by decide +kernel
theorem dX12_edition_358 : decode cX12_edition 358 = .ok (.imul, 1) := by decide +kernel
theorem dX12_edition_359 : decode cX12_edition 359 = .ok (.iload 8, 2) := by decide +kernel
theorem dX12_edition_361 : decode cX12_edition 361 = .ok (.iadd, 1) := by decide +kernel
theorem dX12_edition_362 : decode cX12_edition 362 = .ok (.istore 9, 2) := by decide +kernel
theorem dX12_edition_364 : decode cX12_edition 364 = .ok (.aload_n 0, 1) := by decide +kernel
theorem dX12_edition_365 : decode cX12_edition 365 = .ok (.getfield 45, 3) := by decide +kernel
theorem dX12_edition_368 : decode cX12_edition 368 = .ok (.iload 9, 2) := by decide +kernel
theorem dX12_edition_370 : decode cX12_edition 370 = .ok (.iload_n 3, 1) := by decide +kernel
theorem dX12_edition_371 : decode cX12_edition 371 = .ok (.iastore, 1) := by decide +kernel
theorem dX12_edition_372 : decode cX12_edition 372 = .ok (.aload_n 0, 1) := by decide +kernel
theorem dX12_edition_373 : decode cX12_edition 373 = .ok (.getfield 48, 3) := by decide +kernel
theorem dX12_edition_376 : decode cX12_edition 376 = .ok (.iload 9, 2) := by decide +kernel
theorem dX12_edition_378 : decode cX12_edition 378 = .ok (.iload 4, 2) := by decide +kernel
theorem dX12_edition_380 : decode cX12_edition 380 = .ok (.iastore, 1) := by decide +kernel
theorem dX12_edition_381 : decode cX12_edition 381 = .ok (.aload_n 0, 1) := by decide +kernel
theorem dX12_edition_382 : decode cX12_edition 382 = .ok (.getfield 51, 3) := by decide +kernel
theorem dX12_edition_385 : decode cX12_edition 385 = .ok (.iload 9, 2) := by decide +kernel
theorem dX12_edition_387 : decode cX12_edition 387 = .ok (.iload 5, 2) := by decide +kernel
theorem dX12_edition_389 : decode cX12_edition 389 = .ok (.ifCond .eq 12, 3) := by decide +kernel
theorem dX12_edition_392 : decode cX12_edition 392 = .ok (.aload_n 0, 1) := by decide +kernel
theorem dX12_edition_393 : decode cX12_edition 393 = .ok (.iload_n 1, 1) := by decide +kernel
theorem dX12_edition_394 : decode cX12_edition 394 = .ok (.iload_n 3, 1) := by decide +kernel
theorem dX12_edition_395 : decode cX12_edition 395 = .ok (.invokevirtual 222, 3) := by decide +kernel
theorem dX12_edition_398 : decode cX12_edition 398 = .ok (.goto 4, 3) := by decide +kernel
theorem dX12_edition_401 : decode cX12_edition 401 = .ok (.iconst 0, 1) := by decide +kernel
theorem dX12_edition_402 : decode cX12_edition 402 = .ok (.iastore, 1) := by decide +kernel
theorem dX12_edition_403 : decode cX12_edition 403 = .ok (.iinc 8 1, 3) := by decide +kernel
theorem dX12_edition_406 : decode cX12_edition 406 = .ok (.aload_n 0, 1) := by decide +kernel
theorem dX12_edition_407 : decode cX12_edition 407 = .ok (.getfield 42, 3) := by decide +kernel
theorem dX12_edition_410 : decode cX12_edition 410 = .ok (.iload 6, 2) := by decide +kernel
theorem dX12_edition_412 : decode cX12_edition 412 = .ok (.iconst 1, 1) := by decide +kernel
theorem dX12_edition_413 : decode cX12_edition 413 = .ok (.iadd, 1) := by decide +kernel
theorem dX12_edition_414 : decode cX12_edition 414 = .ok (.iload 8, 2) := by decide +kernel
theorem dX12_edition_416 : decode cX12_edition 416 = .ok (.iastore, 1) := by decide +kernel
theorem dX12_edition_417 : decode cX12_edition 417 = .ok (.aload_n 0, 1) := by decide +kernel
theorem dX12_edition_418 : decode cX12_edition 418 = .ok (.getfield 36, 3) := by decide +kernel
theorem dX12_edition_421 : decode cX12_edition 421 = .ok (.iload_n 1, 1) := by decide +kernel
theorem dX12_edition_422 : decode cX12_edition 422 = .ok (.iaload, 1) := by decide +kernel
theorem dX12_edition_423 : decode cX12_edition 423 = .ok (.ireturn, 1) := by decide +kernel
def L_X12_edition_211 (d : Nat) (v0 : Option Nm) (v1 : Int32) (v2 : Int32) (v3 : Int32) (v4 : Int32) (v5 : Int32) (v6 : Int32) (v7 : Int32) (v8 : Int32) (v9 : Int32) (h : MH) (u : Nat) (Q : Int32 → MH → Prop) : Prop := T u_X12_edition (d + 1) 211 [some (jR v0), some (jI v1), some (jI v2), some (jI v3), some (jI v4), some (jI v5), some (jI v6), some (jI v7), some (jI v8), some (jI v9), none, none] [] h u (qI Q)
def F_X12_edition_195 (d : Nat) (v0 : Option Nm) (v1 : Int32) (v2 : Int32) (v3 : Int32) (v4 : Int32) (v5 : Int32) (v6 : Int32) (v7 : Int32) (h : MH) (u : Nat) (Q : Int32 → MH → Prop) : Prop :=
  gR h v0 11 13 fun x1 =>
  aI .int h x1 v1 fun x2 =>
  sV .int h x1 v1 (jI (x2 + 1)) fun h =>
  L_X12_edition_211 d v0 v1 v2 v3 v4 v5 v6 v7 0 0 h u Q
set_option maxRecDepth 20000 in
theorem E_X12_edition_195 {d : Nat} {v0 : Option Nm} {v1 : Int32} {v2 : Int32} {v3 : Int32} {v4 : Int32} {v5 : Int32} {v6 : Int32} {v7 : Int32} {h : MH} {u : Nat} {Q : Int32 → MH → Prop} (H : F_X12_edition_195 d v0 v1 v2 v3 v4 v5 v6 v7 h u Q) : T u_X12_edition (d + 1) 195 [some (jR v0), some (jI v1), some (jI v2), some (jI v3), some (jI v4), some (jI v5), some (jI v6), some (jI v7), none, none, none, none] [] h u (qI Q) := by
  unfold F_X12_edition_195 at H
  refine T_aload_n (pc := 195) dX12_edition_195 rfl rfl ?_
  refine T_gR (pc := 196) fa_X12_36 dX12_edition_196 (gR_mono (fun x1 H => ?_) H)
  refine T_iload_n (pc := 199) dX12_edition_199 rfl rfl ?_
  refine T_dup2 (pc := 200) rfl rfl dX12_edition_200 ?_
  refine T_aI (pc := 201) dX12_edition_201 (aI_mono (fun x2 H => ?_) H)
  refine T_iconst (pc := 202) (v := 1) dX12_edition_202 (by decide) ?_
  refine T_iadd (pc := 203) dX12_edition_203 ?_
  refine T_sI (pc := 204) dX12_edition_204 (sV_mono (fun h H => ?_) H)
  refine T_iconst (pc := 205) (v := 0) dX12_edition_205 (by decide) ?_
  refine T_istore (pc := 206) (ls2 := [some (jR v0), some (jI v1), some (jI v2), some (jI v3), some (jI v4), some (jI v5), some (jI v6), some (jI v7), some (jI 0), none, none, none]) dX12_edition_206 (Nat.le_of_ble_eq_true rfl) rfl ?_
  refine T_iconst (pc := 208) (v := 0) dX12_edition_208 (by decide) ?_
  refine T_istore (pc := 209) (ls2 := [some (jR v0), some (jI v1), some (jI v2), some (jI v3), some (jI v4), some (jI v5), some (jI v6), some (jI v7), some (jI 0), some (jI 0), none, none]) dX12_edition_209 (Nat.le_of_ble_eq_true rfl) rfl ?_
  exact T.forget H ⟨rfl, rfl, rfl, rfl, rfl, rfl, rfl, rfl, rfl, rfl, trivial⟩
def F_X12_edition_174 (d : Nat) (v0 : Option Nm) (v1 : Int32) (v2 : Int32) (v3 : Int32) (v4 : Int32) (v5 : Int32) (v6 : Int32) (v7 : Int32) (s0 : Int32) (s1 : Int32) (h : MH) (u : Nat) (Q : Int32 → MH → Prop) : Prop :=
  if s0 = s1 then
    Q (-4) h
  else
    if v5 = 0 then
      F_X12_edition_195 d v0 v1 v2 v3 v4 v5 v6 v7 h u Q
    else
      gI h v0 11 24 fun x1 =>
      if x1 = 200 then
        Q (-4) h
      else
        F_X12_edition_195 d v0 v1 v2 v3 v4 v5 v6 v7 h u Q
set_option maxRecDepth 20000 in
theorem E_X12_edition_174 {d : Nat} {v0 : Option Nm} {v1 : Int32} {v2 : Int32} {v3 : Int32} {v4 : Int32} {v5 : Int32} {v6 : Int32} {v7 : Int32} {s0 : Int32} {s1 : Int32} {h : MH} {u : Nat} {Q : Int32 → MH → Prop} (H : F_X12_edition_174 d v0 v1 v2 v3 v4 v5 v6 v7 s0 s1 h u Q) : T u_X12_edition (d + 1) 174 [some (jR v0), some (jI v1), some (jI v2), some (jI v3), some (jI v4), some (jI v5), some (jI v6), some (jI v7), none, none, none, none] [jI s1, jI s0] h u (qI Q) := by
  unfold F_X12_edition_174 at H
  refine T_icmp_eq (pc := 174) (tgt := 192) dX12_edition_174 (by decide) (fun hc => ?_) (fun hc => ?_)
  · rw [if_pos hc] at H
    refine T_bipush (pc := 192) (v := (-4)) dX12_edition_192 (by decide) ?_
    exact T_ireturn (pc := 194) rfl rfl dX12_edition_194 H
  · rw [if_neg hc] at H
    refine T_iload (pc := 177) dX12_edition_177 rfl ?_
    refine T_if_eq (pc := 179) (tgt := 195) dX12_edition_179 (by decide) (fun hc => ?_) (fun hc => ?_)
    · rw [if_pos hc] at H
      exact T.forget (E_X12_edition_195 H) ⟨rfl, rfl, rfl, rfl, rfl, rfl, rfl, rfl, trivial⟩
    · rw [if_neg hc] at H
      refine T_aload_n (pc := 182) dX12_edition_182 rfl rfl ?_
      refine T_gI (pc := 183) fa_X12_215 dX12_edition_183 (gI_mono (fun x1 H => ?_) H)
      refine T_sipush (pc := 186) (v := 200) dX12_edition_186 (by decide) ?_
      refine T_icmp_ne (pc := 189) (tgt := 195) dX12_edition_189 (by decide) (fun hc => ?_) (fun hc => ?_)
      · rw [if_neg hc] at H
        exact T.forget (E_X12_edition_195 H) ⟨rfl, rfl, rfl, rfl, rfl, rfl, rfl, rfl, trivial⟩
      · rw [if_pos hc] at H
        refine T_bipush (pc := 192) (v := (-4)) dX12_edition_192 (by decide) ?_
        exact T_ireturn (pc := 194) rfl rfl dX12_edition_194 H
def F_X12_edition_141 (d : Nat) (v0 : Option Nm) (v1 : Int32) (v2 : Int32) (v3 : Int32) (v4 : Int32) (v5 : Int32) (v6 : Int32) (v7 : Int32) (h : MH) (u : Nat) (Q : Int32 → MH → Prop) : Prop :=
  gR h v0 11 13 fun x1 =>
  aI .int h x1 v1 fun x2 =>
  if x2 = 3 then
    Q (-4) h
  else
    if v2 = 0 then
      gR h v0 11 15 fun x3 =>
      aI .int h x3 v6 fun x4 =>
      if v5 = 0 then
        F_X12_edition_174 d v0 v1 v2 v3 v4 v5 v6 v7 x4 6 h u Q
      else
        F_X12_edition_174 d v0 v1 v2 v3 v4 v5 v6 v7 x4 8 h u Q
    else
      F_X12_edition_195 d v0 v1 v2 v3 v4 v5 v6 v7 h u Q
set_option maxRecDepth 20000 in
theorem E_X12_edition_141 {d : Nat} {v0 : Option Nm} {v1 : Int32} {v2 : Int32} {v3 : Int32} {v4 : Int32} {v5 : Int32} {v6 : Int32} {v7 : Int32} {h : MH} {u : Nat} {Q : Int32 → MH → Prop} (H : F_X12_edition_141 d v0 v1 v2 v3 v4 v5 v6 v7 h u Q) : T u_X12_edition (d + 1) 141 [some (jR v0), some (jI v1), some (jI v2), some (jI v3), some (jI v4), some (jI v5), some (jI v6), some (jI v7), none, none, none, none] [] h u (qI Q) := by
  unfold F_X12_edition_141 at H
  refine T_aload_n (pc := 141) dX12_edition_141 rfl rfl ?_
  refine T_gR (pc := 142) fa_X12_36 dX12_edition_142 (gR_mono (fun x1 H => ?_) H)
  refine T_iload_n (pc := 145) dX12_edition_145 rfl rfl ?_
  refine T_aI (pc := 146) dX12_edition_146 (aI_mono (fun x2 H => ?_) H)
  refine T_iconst (pc := 147) (v := 3) dX12_edition_147 (by decide) ?_
  refine T_icmp_eq (pc := 148) (tgt := 192) dX12_edition_148 (by decide) (fun hc => ?_) (fun hc => ?_)
  · rw [if_pos hc] at H
    refine T_bipush (pc := 192) (v := (-4)) dX12_edition_192 (by decide) ?_
    exact T_ireturn (pc := 194) rfl rfl dX12_edition_194 H
  · rw [if_neg hc] at H
    refine T_iload_n (pc := 151) dX12_edition_151 rfl rfl ?_
    refine T_if_ne (pc := 152) (tgt := 195) dX12_edition_152 (by decide) (fun hc => ?_) (fun hc => ?_)
    · rw [if_neg hc] at H
      exact T.forget (E_X12_edition_195 H) ⟨rfl, rfl, rfl, rfl, rfl, rfl, rfl, rfl, trivial⟩
    · rw [if_pos hc] at H
      refine T_aload_n (pc := 155) dX12_edition_155 rfl rfl ?_
      refine T_gR (pc := 156) fa_X12_42 dX12_edition_156 (gR_mono (fun x3 H => ?_) H)
      refine T_iload (pc := 159) dX12_edition_159 rfl ?_
      refine T_aI (pc := 161) dX12_edition_161 (aI_mono (fun x4 H => ?_) H)
      refine T_iload (pc := 162) dX12_edition_162 rfl ?_
      refine T_if_eq (pc := 164) (tgt := 172) dX12_edition_164 (by decide) (fun hc => ?_) (fun hc => ?_)
      · rw [if_pos hc] at H
        refine T_bipush (pc := 172) (v := 6) dX12_edition_172 (by decide) ?_
        exact T.forget (E_X12_edition_174 H) ⟨rfl, rfl, rfl, rfl, rfl, rfl, rfl, rfl, trivial⟩
      · rw [if_neg hc] at H
        refine T_bipush (pc := 167) (v := 8) dX12_edition_167 (by decide) ?_
        refine T_goto (pc := 169) (tgt := 174) dX12_edition_169 (by decide) ?_
        exact T.forget (E_X12_edition_174 H) ⟨rfl, rfl, rfl, rfl, rfl, rfl, rfl, rfl, trivial⟩
def F_X12_edition_133 (d : Nat) (v0 : Option Nm) (v1 : Int32) (v2 : Int32) (v3 : Int32) (v4 : Int32) (v5 : Int32) (v6 : Int32) (v7 : Int32) (h : MH) (u : Nat) (Q : Int32 → MH → Prop) : Prop :=
  if 0 ≤ v7 then
    F_X12_edition_141 d v0 v1 v2 v3 v4 v5 v6 v7 h u Q
  else
    Q (-3) h
set_option maxRecDepth 20000 in
theorem E_X12_edition_133 {d : Nat} {v0 : Option Nm} {v1 : Int32} {v2 : Int32} {v3 : Int32} {v4 : Int32} {v5 : Int32} {v6 : Int32} {v7 : Int32} {h : MH} {u : Nat} {Q : Int32 → MH → Prop} (H : F_X12_edition_133 d v0 v1 v2 v3 v4 v5 v6 v7 h u Q) : T u_X12_edition (d + 1) 133 [some (jR v0), some (jI v1), some (jI v2), some (jI v3), some (jI v4), some (jI v5), some (jI v6), some (jI v7), none, none, none, none] [] h u (qI Q) := by
  unfold F_X12_edition_133 at H
  refine T_iload (pc := 133) dX12_edition_133 rfl ?_
  refine T_if_ge (pc := 135) (tgt := 141) dX12_edition_135 (by decide) (fun hc => ?_) (fun hc => ?_)
  · rw [if_pos hc] at H
    exact T.forget (E_X12_edition_141 H) ⟨rfl, rfl, rfl, rfl, rfl, rfl, rfl, rfl, trivial⟩
  · rw [if_neg hc] at H
    refine T_bipush (pc := 138) (v := (-3)) dX12_edition_138 (by decide) ?_
    exact T_ireturn (pc := 140) rfl rfl dX12_edition_140 H
def F_X12_edition_123 (d : Nat) (v0 : Option Nm) (v1 : Int32) (v2 : Int32) (v3 : Int32) (v4 : Int32) (v5 : Int32) (v6 : Int32) (v7 : Int32) (h : MH) (u : Nat) (Q : Int32 → MH → Prop) : Prop :=
  if v2 = 1 then
    F_X12_edition_133 d v0 v1 v2 v3 v4 v5 v6 v7 h u Q
  else
    if v2 = 2 then
      F_X12_edition_133 d v0 v1 v2 v3 v4 v5 v6 v7 h u Q
    else
      F_X12_edition_141 d v0 v1 v2 v3 v4 v5 v6 v7 h u Q
set_option maxRecDepth 20000 in
theorem E_X12_edition_123 {d : Nat} {v0 : Option Nm} {v1 : Int32} {v2 : Int32} {v3 : Int32} {v4 : Int32} {v5 : Int32} {v6 : Int32} {v7 : Int32} {h : MH} {u : Nat} {Q : Int32 → MH → Prop} (H : F_X12_edition_123 d v0 v1 v2 v3 v4 v5 v6 v7 h u Q) : T u_X12_edition (d + 1) 123 [some (jR v0), some (jI v1), some (jI v2), some (jI v3), some (jI v4), some (jI v5), some (jI v6), some (jI v7), none, none, none, none] [] h u (qI Q) := by
  unfold F_X12_edition_123 at H
  refine T_iload_n (pc := 123) dX12_edition_123 rfl rfl ?_
  refine T_iconst (pc := 124) (v := 1) dX12_edition_124 (by decide) ?_
  refine T_icmp_eq (pc := 125) (tgt := 133) dX12_edition_125 (by decide) (fun hc => ?_) (fun hc => ?_)
  · rw [if_pos hc] at H
    exact T.forget (E_X12_edition_133 H) ⟨rfl, rfl, rfl, rfl, rfl, rfl, rfl, rfl, trivial⟩
  · rw [if_neg hc] at H
    refine T_iload_n (pc := 128) dX12_edition_128 rfl rfl ?_
    refine T_iconst (pc := 129) (v := 2) dX12_edition_129 (by decide) ?_
    refine T_icmp_ne (pc := 130) (tgt := 141) dX12_edition_130 (by decide) (fun hc => ?_) (fun hc => ?_)
    · rw [if_neg hc] at H
      exact T.forget (E_X12_edition_141 H) ⟨rfl, rfl, rfl, rfl, rfl, rfl, rfl, rfl, trivial⟩
    · rw [if_pos hc] at H
      exact T.forget (E_X12_edition_133 H) ⟨rfl, rfl, rfl, rfl, rfl, rfl, rfl, rfl, trivial⟩
def F_X12_edition_114 (d : Nat) (v0 : Option Nm) (v1 : Int32) (v2 : Int32) (v3 : Int32) (v4 : Int32) (v5 : Int32) (v6 : Int32) (v7 : Int32) (h : MH) (u : Nat) (Q : Int32 → MH → Prop) : Prop :=
  if v2 = 0 then
    if 0 ≤ v7 then
      Q (-3) h
    else
      F_X12_edition_123 d v0 v1 v2 v3 v4 v5 v6 v7 h u Q
  else
    F_X12_edition_123 d v0 v1 v2 v3 v4 v5 v6 v7 h u Q
set_option maxRecDepth 20000 in
theorem E_X12_edition_114 {d : Nat} {v0 : Option Nm} {v1 : Int32} {v2 : Int32} {v3 : Int32} {v4 : Int32} {v5 : Int32} {v6 : Int32} {v7 : Int32} {h : MH} {u : Nat} {Q : Int32 → MH → Prop} (H : F_X12_edition_114 d v0 v1 v2 v3 v4 v5 v6 v7 h u Q) : T u_X12_edition (d + 1) 114 [some (jR v0), some (jI v1), some (jI v2), some (jI v3), some (jI v4), some (jI v5), some (jI v6), some (jI v7), none, none, none, none] [] h u (qI Q) := by
  unfold F_X12_edition_114 at H
  refine T_iload_n (pc := 114) dX12_edition_114 rfl rfl ?_
  refine T_if_ne (pc := 115) (tgt := 123) dX12_edition_115 (by decide) (fun hc => ?_) (fun hc => ?_)
  · rw [if_neg hc] at H
    exact T.forget (E_X12_edition_123 H) ⟨rfl, rfl, rfl, rfl, rfl, rfl, rfl, rfl, trivial⟩
  · rw [if_pos hc] at H
    refine T_iload (pc := 118) dX12_edition_118 rfl ?_
    refine T_if_ge (pc := 120) (tgt := 138) dX12_edition_120 (by decide) (fun hc => ?_) (fun hc => ?_)
    · rw [if_pos hc] at H
      refine T_bipush (pc := 138) (v := (-3)) dX12_edition_138 (by decide) ?_
      exact T_ireturn (pc := 140) rfl rfl dX12_edition_140 H
    · rw [if_neg hc] at H
      exact T.forget (E_X12_edition_123 H) ⟨rfl, rfl, rfl, rfl, rfl, rfl, rfl, rfl, trivial⟩
def F_X12_edition_93 (d : Nat) (v0 : Option Nm) (v1 : Int32) (v2 : Int32) (v3 : Int32) (v4 : Int32) (v5 : Int32) (v6 : Int32) (s0 : Int32) (h : MH) (u : Nat) (Q : Int32 → MH → Prop) : Prop :=
  gR h v0 11 12 fun x1 =>
  aI .boolean h x1 v1 fun x2 =>
  if x2 = 0 then
    Q (-3) h
  else
    if v5 = 0 then
      F_X12_edition_114 d v0 v1 v2 v3 v4 v5 v6 s0 h u Q
    else
      if v2 = 2 then
        Q (-3) h
      else
        F_X12_edition_114 d v0 v1 v2 v3 v4 v5 v6 s0 h u Q
set_option maxRecDepth 20000 in
theorem E_X12_edition_93 {d : Nat} {v0 : Option Nm} {v1 : Int32} {v2 : Int32} {v3 : Int32} {v4 : Int32} {v5 : Int32} {v6 : Int32} {s0 : Int32} {h : MH} {u : Nat} {Q : Int32 → MH → Prop} (H : F_X12_edition_93 d v0 v1 v2 v3 v4 v5 v6 s0 h u Q) : T u_X12_edition (d + 1) 93 [some (jR v0), some (jI v1), some (jI v2), some (jI v3), some (jI v4), some (jI v5), some (jI v6), none, none, none, none, none] [jI s0] h u (qI Q) := by
  unfold F_X12_edition_93 at H
  refine T_istore (pc := 93) (ls2 := [some (jR v0), some (jI v1), some (jI v2), some (jI v3), some (jI v4), some (jI v5), some (jI v6), some (jI s0), none, none, none, none]) dX12_edition_93 (Nat.le_of_ble_eq_true rfl) rfl ?_
  refine T_aload_n (pc := 95) dX12_edition_95 rfl rfl ?_
  refine T_gR (pc := 96) fa_X12_33 dX12_edition_96 (gR_mono (fun x1 H => ?_) H)
  refine T_iload_n (pc := 99) dX12_edition_99 rfl rfl ?_
  refine T_aZ (pc := 100) dX12_edition_100 (aI_mono (fun x2 H => ?_) H)
  refine T_if_eq (pc := 101) (tgt := 138) dX12_edition_101 (by decide) (fun hc => ?_) (fun hc => ?_)
  · rw [if_pos hc] at H
    refine T_bipush (pc := 138) (v := (-3)) dX12_edition_138 (by decide) ?_
    exact T_ireturn (pc := 140) rfl rfl dX12_edition_140 H
  · rw [if_neg hc] at H
    refine T_iload (pc := 104) dX12_edition_104 rfl ?_
    refine T_if_eq (pc := 106) (tgt := 114) dX12_edition_106 (by decide) (fun hc => ?_) (fun hc => ?_)
    · rw [if_pos hc] at H
      exact T.forget (E_X12_edition_114 H) ⟨rfl, rfl, rfl, rfl, rfl, rfl, rfl, rfl, trivial⟩
    · rw [if_neg hc] at H
      refine T_iload_n (pc := 109) dX12_edition_109 rfl rfl ?_
      refine T_iconst (pc := 110) (v := 2) dX12_edition_110 (by decide) ?_
      refine T_icmp_eq (pc := 111) (tgt := 138) dX12_edition_111 (by decide) (fun hc => ?_) (fun hc => ?_)
      · rw [if_pos hc] at H
        refine T_bipush (pc := 138) (v := (-3)) dX12_edition_138 (by decide) ?_
        exact T_ireturn (pc := 140) rfl rfl dX12_edition_140 H
      · rw [if_neg hc] at H
        exact T.forget (E_X12_edition_114 H) ⟨rfl, rfl, rfl, rfl, rfl, rfl, rfl, rfl, trivial⟩
def F_X12_edition_70 (d : Nat) (v0 : Option Nm) (v1 : Int32) (v2 : Int32) (v3 : Int32) (v4 : Int32) (v5 : Int32) (h : MH) (u : Nat) (Q : Int32 → MH → Prop) : Prop :=
  rc h v0 11 ∧ iI d u_X12_newestOf [jR v0, jI v1] h u fun x1 h u =>
  if v2 = 3 then
    F_X12_edition_93 d v0 v1 v2 v3 v4 v5 x1 (-1) h u Q
  else
    rc h v0 11 ∧ iI d u_X12_placeOf [jR v0, jI x1, jI v3] h u fun x2 h u =>
    F_X12_edition_93 d v0 v1 v2 v3 v4 v5 x1 x2 h u Q
set_option maxRecDepth 20000 in
theorem E_X12_edition_70 {d : Nat} {v0 : Option Nm} {v1 : Int32} {v2 : Int32} {v3 : Int32} {v4 : Int32} {v5 : Int32} {h : MH} {u : Nat} {Q : Int32 → MH → Prop} (H : F_X12_edition_70 d v0 v1 v2 v3 v4 v5 h u Q) : T u_X12_edition (d + 1) 70 [some (jR v0), some (jI v1), some (jI v2), some (jI v3), some (jI v4), some (jI v5), none, none, none, none, none, none] [] h u (qI Q) := by
  unfold F_X12_edition_70 at H
  refine T_aload_n (pc := 70) dX12_edition_70 rfl rfl ?_
  refine T_iload_n (pc := 71) dX12_edition_71 rfl rfl ?_
  obtain ⟨H0, H⟩ := H
  refine T_iV (pc := 72) (ci := 11) (av := [jI v1]) (rest := []) (o := v0) dX12_edition_72 mf_X12_newestOf c_5_210 c_5_212 pr_X12_newestOf rfl rfl (Nat.le_of_ble_eq_true rfl) rfl H0 (iI_k (iI_mono (fun x1 h u H => ?_) H))
  refine T_istore (pc := 75) (ls2 := [some (jR v0), some (jI v1), some (jI v2), some (jI v3), some (jI v4), some (jI v5), some (jI x1), none, none, none, none, none]) dX12_edition_75 (Nat.le_of_ble_eq_true rfl) rfl ?_
  refine T_iload_n (pc := 77) dX12_edition_77 rfl rfl ?_
  refine T_iconst (pc := 78) (v := 3) dX12_edition_78 (by decide) ?_
  refine T_icmp_ne (pc := 79) (tgt := 86) dX12_edition_79 (by decide) (fun hc => ?_) (fun hc => ?_)
  · rw [if_neg hc] at H
    refine T_aload_n (pc := 86) dX12_edition_86 rfl rfl ?_
    refine T_iload (pc := 87) dX12_edition_87 rfl ?_
    refine T_iload_n (pc := 89) dX12_edition_89 rfl rfl ?_
    obtain ⟨H0, H⟩ := H
    refine T_iV (pc := 90) (ci := 11) (av := [jI x1, jI v3]) (rest := []) (o := v0) dX12_edition_90 mf_X12_placeOf c_5_202 c_5_204 pr_X12_placeOf rfl rfl (Nat.le_of_ble_eq_true rfl) rfl H0 (iI_k (iI_mono (fun x2 h u H => ?_) H))
    exact T.forget (E_X12_edition_93 H) ⟨rfl, rfl, rfl, rfl, rfl, rfl, rfl, trivial⟩
  · rw [if_pos hc] at H
    refine T_iconst (pc := 82) (v := (-1)) dX12_edition_82 (by decide) ?_
    refine T_goto (pc := 83) (tgt := 93) dX12_edition_83 (by decide) ?_
    exact T.forget (E_X12_edition_93 H) ⟨rfl, rfl, rfl, rfl, rfl, rfl, rfl, trivial⟩
def F_X12_edition_56 (d : Nat) (v0 : Option Nm) (v1 : Int32) (v2 : Int32) (v3 : Int32) (v4 : Int32) (v5 : Int32) (h : MH) (u : Nat) (Q : Int32 → MH → Prop) : Prop :=
  iI d u_X12_in [jI v4, jI 0, jI 9] h u fun x1 h u =>
  if x1 = 0 then
    Q (-2) h
  else
    F_X12_edition_70 d v0 v1 v2 v3 v4 v5 h u Q
set_option maxRecDepth 20000 in
theorem E_X12_edition_56 {d : Nat} {v0 : Option Nm} {v1 : Int32} {v2 : Int32} {v3 : Int32} {v4 : Int32} {v5 : Int32} {h : MH} {u : Nat} {Q : Int32 → MH → Prop} (H : F_X12_edition_56 d v0 v1 v2 v3 v4 v5 h u Q) : T u_X12_edition (d + 1) 56 [some (jR v0), some (jI v1), some (jI v2), some (jI v3), some (jI v4), some (jI v5), none, none, none, none, none, none] [] h u (qI Q) := by
  unfold F_X12_edition_56 at H
  refine T_iload (pc := 56) dX12_edition_56 rfl ?_
  refine T_iconst (pc := 58) (v := 0) dX12_edition_58 (by decide) ?_
  refine T_bipush (pc := 59) (v := 9) dX12_edition_59 (by decide) ?_
  refine T_invS (pc := 61) (av := [jI v4, jI 0, jI 9]) (rest := []) dX12_edition_61 mf_X12_in c_5_86 c_5_87 rfl (Nat.le_of_ble_eq_true rfl) rfl (iI_k (iI_mono (fun x1 h u H => ?_) H))
  refine T_if_ne (pc := 64) (tgt := 70) dX12_edition_64 (by decide) (fun hc => ?_) (fun hc => ?_)
  · rw [if_neg hc] at H
    exact T.forget (E_X12_edition_70 H) ⟨rfl, rfl, rfl, rfl, rfl, rfl, trivial⟩
  · rw [if_pos hc] at H
    refine T_bipush (pc := 67) (v := (-2)) dX12_edition_67 (by decide) ?_
    exact T_ireturn (pc := 69) rfl rfl dX12_edition_69 H
def F_X12_edition_42 (d : Nat) (v0 : Option Nm) (v1 : Int32) (v2 : Int32) (v3 : Int32) (v4 : Int32) (v5 : Int32) (h : MH) (u : Nat) (Q : Int32 → MH → Prop) : Prop :=
  if v5 = 0 then
    if v2 = 0 then
      F_X12_edition_56 d v0 v1 v2 v3 v4 v5 h u Q
    else
      if v2 = 2 then
        F_X12_edition_56 d v0 v1 v2 v3 v4 v5 h u Q
      else
        F_X12_edition_70 d v0 v1 v2 v3 v4 v5 h u Q
  else
    F_X12_edition_70 d v0 v1 v2 v3 v4 v5 h u Q
set_option maxRecDepth 20000 in
theorem E_X12_edition_42 {d : Nat} {v0 : Option Nm} {v1 : Int32} {v2 : Int32} {v3 : Int32} {v4 : Int32} {v5 : Int32} {h : MH} {u : Nat} {Q : Int32 → MH → Prop} (H : F_X12_edition_42 d v0 v1 v2 v3 v4 v5 h u Q) : T u_X12_edition (d + 1) 42 [some (jR v0), some (jI v1), some (jI v2), some (jI v3), some (jI v4), some (jI v5), none, none, none, none, none, none] [] h u (qI Q) := by
  unfold F_X12_edition_42 at H
  refine T_iload (pc := 42) dX12_edition_42 rfl ?_
  refine T_if_ne (pc := 44) (tgt := 70) dX12_edition_44 (by decide) (fun hc => ?_) (fun hc => ?_)
  · rw [if_neg hc] at H
    exact T.forget (E_X12_edition_70 H) ⟨rfl, rfl, rfl, rfl, rfl, rfl, trivial⟩
  · rw [if_pos hc] at H
    refine T_iload_n (pc := 47) dX12_edition_47 rfl rfl ?_
    refine T_if_eq (pc := 48) (tgt := 56) dX12_edition_48 (by decide) (fun hc => ?_) (fun hc => ?_)
    · rw [if_pos hc] at H
      exact T.forget (E_X12_edition_56 H) ⟨rfl, rfl, rfl, rfl, rfl, rfl, trivial⟩
    · rw [if_neg hc] at H
      refine T_iload_n (pc := 51) dX12_edition_51 rfl rfl ?_
      refine T_iconst (pc := 52) (v := 2) dX12_edition_52 (by decide) ?_
      refine T_icmp_ne (pc := 53) (tgt := 70) dX12_edition_53 (by decide) (fun hc => ?_) (fun hc => ?_)
      · rw [if_neg hc] at H
        exact T.forget (E_X12_edition_70 H) ⟨rfl, rfl, rfl, rfl, rfl, rfl, trivial⟩
      · rw [if_pos hc] at H
        exact T.forget (E_X12_edition_56 H) ⟨rfl, rfl, rfl, rfl, rfl, rfl, trivial⟩
def F_X12_edition (d : Nat) (v0 : Option Nm) (v1 : Int32) (v2 : Int32) (v3 : Int32) (v4 : Int32) (h : MH) (u : Nat) (Q : Int32 → MH → Prop) : Prop :=
  rc h v0 11 ∧ iI d u_X12_isKind [jR v0, jI v1] h u fun x1 h u =>
  if x1 = 0 then
    Q (-1) h
  else
    gR h v0 11 10 fun x2 =>
    aI .boolean h x2 v1 fun x3 =>
    iI d u_X12_in [jI v2, jI 0, jI 3] h u fun x4 h u =>
    if x4 = 0 then
      Q (-2) h
    else
      if v2 = 3 then
        F_X12_edition_42 d v0 v1 v2 v3 v4 x3 h u Q
      else
        iI d u_X12_in [jI v3, jI 1, jI 99] h u fun x5 h u =>
        if x5 = 0 then
          Q (-2) h
        else
          F_X12_edition_42 d v0 v1 v2 v3 v4 x3 h u Q
set_option maxRecDepth 20000 in
theorem E_X12_edition {d : Nat} {v0 : Option Nm} {v1 : Int32} {v2 : Int32} {v3 : Int32} {v4 : Int32} {h : MH} {u : Nat} {Q : Int32 → MH → Prop} (H : F_X12_edition d v0 v1 v2 v3 v4 h u Q) : T u_X12_edition (d + 1) 0 [some (jR v0), some (jI v1), some (jI v2), some (jI v3), some (jI v4), none, none, none, none, none, none, none] [] h u (qI Q) := by
  unfold F_X12_edition at H
  refine T_aload_n (pc := 0) dX12_edition_0 rfl rfl ?_
  refine T_iload_n (pc := 1) dX12_edition_1 rfl rfl ?_
  obtain ⟨H0, H⟩ := H
  refine T_iV (pc := 2) (ci := 11) (av := [jI v1]) (rest := []) (o := v0) dX12_edition_2 mf_X12_isKind c_5_198 c_5_200 pr_X12_isKind rfl rfl (Nat.le_of_ble_eq_true rfl) rfl H0 (iI_k (iI_mono (fun x1 h u H => ?_) H))
  refine T_if_ne (pc := 5) (tgt := 10) dX12_edition_5 (by decide) (fun hc => ?_) (fun hc => ?_)
  · rw [if_neg hc] at H
    refine T_aload_n (pc := 10) dX12_edition_10 rfl rfl ?_
    refine T_gR (pc := 11) fa_X12_27 dX12_edition_11 (gR_mono (fun x2 H => ?_) H)
    refine T_iload_n (pc := 14) dX12_edition_14 rfl rfl ?_
    refine T_aZ (pc := 15) dX12_edition_15 (aI_mono (fun x3 H => ?_) H)
    refine T_istore (pc := 16) (ls2 := [some (jR v0), some (jI v1), some (jI v2), some (jI v3), some (jI v4), some (jI x3), none, none, none, none, none, none]) dX12_edition_16 (Nat.le_of_ble_eq_true rfl) rfl ?_
    refine T_iload_n (pc := 18) dX12_edition_18 rfl rfl ?_
    refine T_iconst (pc := 19) (v := 0) dX12_edition_19 (by decide) ?_
    refine T_iconst (pc := 20) (v := 3) dX12_edition_20 (by decide) ?_
    refine T_invS (pc := 21) (av := [jI v2, jI 0, jI 3]) (rest := []) dX12_edition_21 mf_X12_in c_5_86 c_5_87 rfl (Nat.le_of_ble_eq_true rfl) rfl (iI_k (iI_mono (fun x4 h u H => ?_) H))
    refine T_if_eq (pc := 24) (tgt := 67) dX12_edition_24 (by decide) (fun hc => ?_) (fun hc => ?_)
    · rw [if_pos hc] at H
      refine T_bipush (pc := 67) (v := (-2)) dX12_edition_67 (by decide) ?_
      exact T_ireturn (pc := 69) rfl rfl dX12_edition_69 H
    · rw [if_neg hc] at H
      refine T_iload_n (pc := 27) dX12_edition_27 rfl rfl ?_
      refine T_iconst (pc := 28) (v := 3) dX12_edition_28 (by decide) ?_
      refine T_icmp_eq (pc := 29) (tgt := 42) dX12_edition_29 (by decide) (fun hc => ?_) (fun hc => ?_)
      · rw [if_pos hc] at H
        exact T.forget (E_X12_edition_42 H) ⟨rfl, rfl, rfl, rfl, rfl, rfl, trivial⟩
      · rw [if_neg hc] at H
        refine T_iload_n (pc := 32) dX12_edition_32 rfl rfl ?_
        refine T_iconst (pc := 33) (v := 1) dX12_edition_33 (by decide) ?_
        refine T_bipush (pc := 34) (v := 99) dX12_edition_34 (by decide) ?_
        refine T_invS (pc := 36) (av := [jI v3, jI 1, jI 99]) (rest := []) dX12_edition_36 mf_X12_in c_5_86 c_5_87 rfl (Nat.le_of_ble_eq_true rfl) rfl (iI_k (iI_mono (fun x5 h u H => ?_) H))
        refine T_if_eq (pc := 39) (tgt := 67) dX12_edition_39 (by decide) (fun hc => ?_) (fun hc => ?_)
        · rw [if_pos hc] at H
          refine T_bipush (pc := 67) (v := (-2)) dX12_edition_67 (by decide) ?_
          exact T_ireturn (pc := 69) rfl rfl dX12_edition_69 H
        · rw [if_neg hc] at H
          exact T.forget (E_X12_edition_42 H) ⟨rfl, rfl, rfl, rfl, rfl, rfl, trivial⟩
  · rw [if_pos hc] at H
    refine T_iconst (pc := 8) (v := (-1)) dX12_edition_8 (by decide) ?_
    exact T_ireturn (pc := 9) rfl rfl dX12_edition_9 H
def F_X12_edition_406 (d : Nat) (v0 : Option Nm) (v1 : Int32) (v6 : Int32) (v8 : Int32) (h : MH) (u : Nat) (Q : Int32 → MH → Prop) : Prop :=
  gR h v0 11 15 fun x1 =>
  sV .int h x1 (v6 + 1) (jI v8) fun h =>
  gR h v0 11 13 fun x2 =>
  aI .int h x2 v1 fun x3 =>
  Q x3 h
set_option maxRecDepth 20000 in
theorem E_X12_edition_406 {d : Nat} {v0 : Option Nm} {v1 : Int32} {v6 : Int32} {v8 : Int32} {h : MH} {u : Nat} {Q : Int32 → MH → Prop} (H : F_X12_edition_406 d v0 v1 v6 v8 h u Q) : T u_X12_edition (d + 1) 406 [some (jR v0), some (jI v1), none, none, none, none, some (jI v6), none, some (jI v8), none, none, none] [] h u (qI Q) := by
  unfold F_X12_edition_406 at H
  refine T_aload_n (pc := 406) dX12_edition_406 rfl rfl ?_
  refine T_gR (pc := 407) fa_X12_42 dX12_edition_407 (gR_mono (fun x1 H => ?_) H)
  refine T_iload (pc := 410) dX12_edition_410 rfl ?_
  refine T_iconst (pc := 412) (v := 1) dX12_edition_412 (by decide) ?_
  refine T_iadd (pc := 413) dX12_edition_413 ?_
  refine T_iload (pc := 414) dX12_edition_414 rfl ?_
  refine T_sI (pc := 416) dX12_edition_416 (sV_mono (fun h H => ?_) H)
  refine T_aload_n (pc := 417) dX12_edition_417 rfl rfl ?_
  refine T_gR (pc := 418) fa_X12_36 dX12_edition_418 (gR_mono (fun x2 H => ?_) H)
  refine T_iload_n (pc := 421) dX12_edition_421 rfl rfl ?_
  refine T_aI (pc := 422) dX12_edition_422 (aI_mono (fun x3 H => ?_) H)
  exact T_ireturn (pc := 423) rfl rfl dX12_edition_423 H
def F_X12_edition_402 (d : Nat) (v0 : Option Nm) (v1 : Int32) (v6 : Int32) (v8 : Int32) (s0 : Option Nm) (s1 : Int32) (s2 : Int32) (h : MH) (u : Nat) (Q : Int32 → MH → Prop) : Prop :=
  sV .int h s0 s1 (jI s2) fun h =>
  F_X12_edition_406 d v0 v1 v6 (v8 + 1) h u Q
set_option maxRecDepth 20000 in
theorem E_X12_edition_402 {d : Nat} {v0 : Option Nm} {v1 : Int32} {v6 : Int32} {v8 : Int32} {s0 : Option Nm} {s1 : Int32} {s2 : Int32} {h : MH} {u : Nat} {Q : Int32 → MH → Prop} (H : F_X12_edition_402 d v0 v1 v6 v8 s0 s1 s2 h u Q) : T u_X12_edition (d + 1) 402 [some (jR v0), some (jI v1), none, none, none, none, some (jI v6), none, some (jI v8), none, none, none] [jI s2, jI s1, jR s0] h u (qI Q) := by
  unfold F_X12_edition_402 at H
  refine T_sI (pc := 402) dX12_edition_402 (sV_mono (fun h H => ?_) H)
  refine T_iinc (pc := 403) (v := v8 + 1) (ls2 := [some (jR v0), some (jI v1), none, none, none, none, some (jI v6), none, some (jI (v8 + 1)), none, none, none]) dX12_edition_403 rfl rfl (Nat.le_of_ble_eq_true rfl) rfl ?_
  exact T.forget (E_X12_edition_406 H) ⟨rfl, rfl, rfl, rfl, trivial⟩
def F_X12_edition_324 (d : Nat) (v0 : Option Nm) (v1 : Int32) (v2 : Int32) (v3 : Int32) (v4 : Int32) (v5 : Int32) (v6 : Int32) (v7 : Int32) (v8 : Int32) (v9 : Int32) (v10 : Int32) (v11 : Int32) (s0 : Option Nm) (s1 : Int32) (s2 : Int32) (h : MH) (u : Nat) (Q : Int32 → MH → Prop) : Prop :=
  sV .int h s0 s1 (jI s2) fun h =>
  gR h v0 11 18 fun x1 =>
  gR h v0 11 18 fun x2 =>
  aI .int h x2 v10 fun x3 =>
  sV .int h x1 v11 (jI x3) fun h =>
  L_X12_edition_211 d v0 v1 v2 v3 v4 v5 v6 v7 (v8 + 1) (v9 + 1) h u Q
set_option maxRecDepth 20000 in
theorem E_X12_edition_324 {d : Nat} {v0 : Option Nm} {v1 : Int32} {v2 : Int32} {v3 : Int32} {v4 : Int32} {v5 : Int32} {v6 : Int32} {v7 : Int32} {v8 : Int32} {v9 : Int32} {v10 : Int32} {v11 : Int32} {s0 : Option Nm} {s1 : Int32} {s2 : Int32} {h : MH} {u : Nat} {Q : Int32 → MH → Prop} (H : F_X12_edition_324 d v0 v1 v2 v3 v4 v5 v6 v7 v8 v9 v10 v11 s0 s1 s2 h u Q) : T u_X12_edition (d + 1) 324 [some (jR v0), some (jI v1), some (jI v2), some (jI v3), some (jI v4), some (jI v5), some (jI v6), some (jI v7), some (jI v8), some (jI v9), some (jI v10), some (jI v11)] [jI s2, jI s1, jR s0] h u (qI Q) := by
  unfold F_X12_edition_324 at H
  refine T_sI (pc := 324) dX12_edition_324 (sV_mono (fun h H => ?_) H)
  refine T_aload_n (pc := 325) dX12_edition_325 rfl rfl ?_
  refine T_gR (pc := 326) fa_X12_51 dX12_edition_326 (gR_mono (fun x1 H => ?_) H)
  refine T_iload (pc := 329) dX12_edition_329 rfl ?_
  refine T_aload_n (pc := 331) dX12_edition_331 rfl rfl ?_
  refine T_gR (pc := 332) fa_X12_51 dX12_edition_332 (gR_mono (fun x2 H => ?_) H)
  refine T_iload (pc := 335) dX12_edition_335 rfl ?_
  refine T_aI (pc := 337) dX12_edition_337 (aI_mono (fun x3 H => ?_) H)
  refine T_sI (pc := 338) dX12_edition_338 (sV_mono (fun h H => ?_) H)
  refine T_iinc (pc := 339) (v := v8 + 1) (ls2 := [some (jR v0), some (jI v1), some (jI v2), some (jI v3), some (jI v4), some (jI v5), some (jI v6), some (jI v7), some (jI (v8 + 1)), some (jI v9), some (jI v10), some (jI v11)]) dX12_edition_339 rfl rfl (Nat.le_of_ble_eq_true rfl) rfl ?_
  refine T_iinc (pc := 342) (v := v9 + 1) (ls2 := [some (jR v0), some (jI v1), some (jI v2), some (jI v3), some (jI v4), some (jI v5), some (jI v6), some (jI v7), some (jI (v8 + 1)), some (jI (v9 + 1)), some (jI v10), some (jI v11)]) dX12_edition_342 rfl rfl (Nat.le_of_ble_eq_true rfl) rfl ?_
  refine T_goto (pc := 345) (tgt := 211) dX12_edition_345 (by decide) ?_
  exact T.forget H ⟨rfl, rfl, rfl, rfl, rfl, rfl, rfl, rfl, rfl, rfl, trivial⟩
def F_X12_edition_317 (d : Nat) (v0 : Option Nm) (v1 : Int32) (v2 : Int32) (v3 : Int32) (v4 : Int32) (v5 : Int32) (v6 : Int32) (v7 : Int32) (v8 : Int32) (v9 : Int32) (v10 : Int32) (v11 : Int32) (s0 : Option Nm) (s1 : Int32) (h : MH) (u : Nat) (Q : Int32 → MH → Prop) : Prop :=
  gR h v0 11 17 fun x1 =>
  aI .int h x1 v10 fun x2 =>
  F_X12_edition_324 d v0 v1 v2 v3 v4 v5 v6 v7 v8 v9 v10 v11 s0 s1 x2 h u Q
set_option maxRecDepth 20000 in
theorem E_X12_edition_317 {d : Nat} {v0 : Option Nm} {v1 : Int32} {v2 : Int32} {v3 : Int32} {v4 : Int32} {v5 : Int32} {v6 : Int32} {v7 : Int32} {v8 : Int32} {v9 : Int32} {v10 : Int32} {v11 : Int32} {s0 : Option Nm} {s1 : Int32} {h : MH} {u : Nat} {Q : Int32 → MH → Prop} (H : F_X12_edition_317 d v0 v1 v2 v3 v4 v5 v6 v7 v8 v9 v10 v11 s0 s1 h u Q) : T u_X12_edition (d + 1) 317 [some (jR v0), some (jI v1), some (jI v2), some (jI v3), some (jI v4), some (jI v5), some (jI v6), some (jI v7), some (jI v8), some (jI v9), some (jI v10), some (jI v11)] [jI s1, jR s0] h u (qI Q) := by
  unfold F_X12_edition_317 at H
  refine T_aload_n (pc := 317) dX12_edition_317 rfl rfl ?_
  refine T_gR (pc := 318) fa_X12_48 dX12_edition_318 (gR_mono (fun x1 H => ?_) H)
  refine T_iload (pc := 321) dX12_edition_321 rfl ?_
  refine T_aI (pc := 323) dX12_edition_323 (aI_mono (fun x2 H => ?_) H)
  exact T.forget (E_X12_edition_324 H) ⟨rfl, rfl, rfl, rfl, rfl, rfl, rfl, rfl, rfl, rfl, rfl, rfl, trivial⟩
def F_X12_edition_268 (d : Nat) (v0 : Option Nm) (v1 : Int32) (v2 : Int32) (v3 : Int32) (v4 : Int32) (v5 : Int32) (v6 : Int32) (v7 : Int32) (v8 : Int32) (v9 : Int32) (v10 : Int32) (h : MH) (u : Nat) (Q : Int32 → MH → Prop) : Prop :=
  gR h v0 11 16 fun x1 =>
  gR h v0 11 16 fun x2 =>
  aI .int h x2 v10 fun x3 =>
  sV .int h x1 ((8 * (v6 + 1)) + v8) (jI x3) fun h =>
  gR h v0 11 17 fun x4 =>
  if v2 = 2 then
    if v9 = v7 then
      F_X12_edition_324 d v0 v1 v2 v3 v4 v5 v6 v7 v8 v9 v10 ((8 * (v6 + 1)) + v8) x4 ((8 * (v6 + 1)) + v8) v4 h u Q
    else
      F_X12_edition_317 d v0 v1 v2 v3 v4 v5 v6 v7 v8 v9 v10 ((8 * (v6 + 1)) + v8) x4 ((8 * (v6 + 1)) + v8) h u Q
  else
    F_X12_edition_317 d v0 v1 v2 v3 v4 v5 v6 v7 v8 v9 v10 ((8 * (v6 + 1)) + v8) x4 ((8 * (v6 + 1)) + v8) h u Q
set_option maxRecDepth 20000 in
theorem E_X12_edition_268 {d : Nat} {v0 : Option Nm} {v1 : Int32} {v2 : Int32} {v3 : Int32} {v4 : Int32} {v5 : Int32} {v6 : Int32} {v7 : Int32} {v8 : Int32} {v9 : Int32} {v10 : Int32} {h : MH} {u : Nat} {Q : Int32 → MH → Prop} (H : F_X12_edition_268 d v0 v1 v2 v3 v4 v5 v6 v7 v8 v9 v10 h u Q) : T u_X12_edition (d + 1) 268 [some (jR v0), some (jI v1), some (jI v2), some (jI v3), some (jI v4), some (jI v5), some (jI v6), some (jI v7), some (jI v8), some (jI v9), some (jI v10), none] [] h u (qI Q) := by
  unfold F_X12_edition_268 at H
  refine T_bipush (pc := 268) (v := 8) dX12_edition_268 (by decide) ?_
  refine T_iload (pc := 270) dX12_edition_270 rfl ?_
  refine T_iconst (pc := 272) (v := 1) dX12_edition_272 (by decide) ?_
  refine T_iadd (pc := 273) dX12_edition_273 ?_
  refine T_imul (pc := 274) dX12_edition_274 ?_
  refine T_iload (pc := 275) dX12_edition_275 rfl ?_
  refine T_iadd (pc := 277) dX12_edition_277 ?_
  refine T_istore (pc := 278) (ls2 := [some (jR v0), some (jI v1), some (jI v2), some (jI v3), some (jI v4), some (jI v5), some (jI v6), some (jI v7), some (jI v8), some (jI v9), some (jI v10), some (jI ((8 * (v6 + 1)) + v8))]) dX12_edition_278 (Nat.le_of_ble_eq_true rfl) rfl ?_
  refine T_aload_n (pc := 280) dX12_edition_280 rfl rfl ?_
  refine T_gR (pc := 281) fa_X12_45 dX12_edition_281 (gR_mono (fun x1 H => ?_) H)
  refine T_iload (pc := 284) dX12_edition_284 rfl ?_
  refine T_aload_n (pc := 286) dX12_edition_286 rfl rfl ?_
  refine T_gR (pc := 287) fa_X12_45 dX12_edition_287 (gR_mono (fun x2 H => ?_) H)
  refine T_iload (pc := 290) dX12_edition_290 rfl ?_
  refine T_aI (pc := 292) dX12_edition_292 (aI_mono (fun x3 H => ?_) H)
  refine T_sI (pc := 293) dX12_edition_293 (sV_mono (fun h H => ?_) H)
  refine T_aload_n (pc := 294) dX12_edition_294 rfl rfl ?_
  refine T_gR (pc := 295) fa_X12_48 dX12_edition_295 (gR_mono (fun x4 H => ?_) H)
  refine T_iload (pc := 298) dX12_edition_298 rfl ?_
  refine T_iload_n (pc := 300) dX12_edition_300 rfl rfl ?_
  refine T_iconst (pc := 301) (v := 2) dX12_edition_301 (by decide) ?_
  refine T_icmp_ne (pc := 302) (tgt := 317) dX12_edition_302 (by decide) (fun hc => ?_) (fun hc => ?_)
  · rw [if_neg hc] at H
    exact T.forget (E_X12_edition_317 H) ⟨rfl, rfl, rfl, rfl, rfl, rfl, rfl, rfl, rfl, rfl, rfl, rfl, trivial⟩
  · rw [if_pos hc] at H
    refine T_iload (pc := 305) dX12_edition_305 rfl ?_
    refine T_iload (pc := 307) dX12_edition_307 rfl ?_
    refine T_icmp_ne (pc := 309) (tgt := 317) dX12_edition_309 (by decide) (fun hc => ?_) (fun hc => ?_)
    · rw [if_neg hc] at H
      exact T.forget (E_X12_edition_317 H) ⟨rfl, rfl, rfl, rfl, rfl, rfl, rfl, rfl, rfl, rfl, rfl, rfl, trivial⟩
    · rw [if_pos hc] at H
      refine T_iload (pc := 312) dX12_edition_312 rfl ?_
      refine T_goto (pc := 314) (tgt := 324) dX12_edition_314 (by decide) ?_
      exact T.forget (E_X12_edition_324 H) ⟨rfl, rfl, rfl, rfl, rfl, rfl, rfl, rfl, rfl, rfl, rfl, rfl, trivial⟩
def F_X12_edition_250 (d : Nat) (v0 : Option Nm) (v1 : Int32) (v2 : Int32) (v3 : Int32) (v4 : Int32) (v5 : Int32) (v6 : Int32) (v7 : Int32) (v8 : Int32) (v9 : Int32) (s0 : Int32) (s1 : Int32) (h : MH) (u : Nat) (Q : Int32 → MH → Prop) : Prop :=
  if v2 = 1 then
    if v9 = v7 then
      L_X12_edition_211 d v0 v1 v2 v3 v4 v5 v6 v7 v8 (v9 + 1) h u Q
    else
      F_X12_edition_268 d v0 v1 v2 v3 v4 v5 v6 v7 v8 v9 (s0 + s1) h u Q
  else
    F_X12_edition_268 d v0 v1 v2 v3 v4 v5 v6 v7 v8 v9 (s0 + s1) h u Q
set_option maxRecDepth 20000 in
theorem E_X12_edition_250 {d : Nat} {v0 : Option Nm} {v1 : Int32} {v2 : Int32} {v3 : Int32} {v4 : Int32} {v5 : Int32} {v6 : Int32} {v7 : Int32} {v8 : Int32} {v9 : Int32} {s0 : Int32} {s1 : Int32} {h : MH} {u : Nat} {Q : Int32 → MH → Prop} (H : F_X12_edition_250 d v0 v1 v2 v3 v4 v5 v6 v7 v8 v9 s0 s1 h u Q) : T u_X12_edition (d + 1) 250 [some (jR v0), some (jI v1), some (jI v2), some (jI v3), some (jI v4), some (jI v5), some (jI v6), some (jI v7), some (jI v8), some (jI v9), none, none] [jI s1, jI s0] h u (qI Q) := by
  unfold F_X12_edition_250 at H
  refine T_iadd (pc := 250) dX12_edition_250 ?_
  refine T_istore (pc := 251) (ls2 := [some (jR v0), some (jI v1), some (jI v2), some (jI v3), some (jI v4), some (jI v5), some (jI v6), some (jI v7), some (jI v8), some (jI v9), some (jI (s0 + s1)), none]) dX12_edition_251 (Nat.le_of_ble_eq_true rfl) rfl ?_
  refine T_iload_n (pc := 253) dX12_edition_253 rfl rfl ?_
  refine T_iconst (pc := 254) (v := 1) dX12_edition_254 (by decide) ?_
  refine T_icmp_ne (pc := 255) (tgt := 268) dX12_edition_255 (by decide) (fun hc => ?_) (fun hc => ?_)
  · rw [if_neg hc] at H
    exact T.forget (E_X12_edition_268 H) ⟨rfl, rfl, rfl, rfl, rfl, rfl, rfl, rfl, rfl, rfl, rfl, trivial⟩
  · rw [if_pos hc] at H
    refine T_iload (pc := 258) dX12_edition_258 rfl ?_
    refine T_iload (pc := 260) dX12_edition_260 rfl ?_
    refine T_icmp_ne (pc := 262) (tgt := 268) dX12_edition_262 (by decide) (fun hc => ?_) (fun hc => ?_)
    · rw [if_neg hc] at H
      exact T.forget (E_X12_edition_268 H) ⟨rfl, rfl, rfl, rfl, rfl, rfl, rfl, rfl, rfl, rfl, rfl, trivial⟩
    · rw [if_pos hc] at H
      refine T_goto (pc := 265) (tgt := 342) dX12_edition_265 (by decide) ?_
      refine T_iinc (pc := 342) (v := v9 + 1) (ls2 := [some (jR v0), some (jI v1), some (jI v2), some (jI v3), some (jI v4), some (jI v5), some (jI v6), some (jI v7), some (jI v8), some (jI (v9 + 1)), some (jI (s0 + s1)), none]) dX12_edition_342 rfl rfl (Nat.le_of_ble_eq_true rfl) rfl ?_
      refine T_goto (pc := 345) (tgt := 211) dX12_edition_345 (by decide) ?_
      exact T.forget H ⟨rfl, rfl, rfl, rfl, rfl, rfl, rfl, rfl, rfl, rfl, trivial⟩
def F_X12_edition_211 (d : Nat) (v0 : Option Nm) (v1 : Int32) (v2 : Int32) (v3 : Int32) (v4 : Int32) (v5 : Int32) (v6 : Int32) (v7 : Int32) (v8 : Int32) (v9 : Int32) (h : MH) (u : Nat) (Q : Int32 → MH → Prop) : Prop :=
  gR h v0 11 15 fun x1 =>
  aI .int h x1 v6 fun x2 =>
  if x2 ≤ v9 then
    if v2 = 0 then
      gR h v0 11 16 fun x3 =>
      sV .int h x3 ((8 * (v6 + 1)) + v8) (jI v3) fun h =>
      gR h v0 11 17 fun x4 =>
      sV .int h x4 ((8 * (v6 + 1)) + v8) (jI v4) fun h =>
      gR h v0 11 18 fun x5 =>
      if v5 = 0 then
        F_X12_edition_402 d v0 v1 v6 v8 x5 ((8 * (v6 + 1)) + v8) 0 h u Q
      else
        rc h v0 11 ∧ iI d u_X12_newConstant [jR v0, jI v1, jI v3] h u fun x6 h u =>
        F_X12_edition_402 d v0 v1 v6 v8 x5 ((8 * (v6 + 1)) + v8) x6 h u Q
    else
      F_X12_edition_406 d v0 v1 v6 v8 h u Q
  else
    if v2 = 3 then
      gR h v0 11 15 fun x7 =>
      aI .int h x7 v6 fun x8 =>
      F_X12_edition_250 d v0 v1 v2 v3 v4 v5 v6 v7 v8 v9 (8 * v6) ((x8 - 1) - v9) h u Q
    else
      F_X12_edition_250 d v0 v1 v2 v3 v4 v5 v6 v7 v8 v9 (8 * v6) v9 h u Q
set_option maxRecDepth 20000 in
theorem E_X12_edition_211 {d : Nat} {v0 : Option Nm} {v1 : Int32} {v2 : Int32} {v3 : Int32} {v4 : Int32} {v5 : Int32} {v6 : Int32} {v7 : Int32} {v8 : Int32} {v9 : Int32} {h : MH} {u : Nat} {Q : Int32 → MH → Prop} (H : F_X12_edition_211 d v0 v1 v2 v3 v4 v5 v6 v7 v8 v9 h u Q) : T u_X12_edition (d + 1) 211 [some (jR v0), some (jI v1), some (jI v2), some (jI v3), some (jI v4), some (jI v5), some (jI v6), some (jI v7), some (jI v8), some (jI v9), none, none] [] h u (qI Q) := by
  unfold F_X12_edition_211 at H
  refine T_iload (pc := 211) dX12_edition_211 rfl ?_
  refine T_aload_n (pc := 213) dX12_edition_213 rfl rfl ?_
  refine T_gR (pc := 214) fa_X12_42 dX12_edition_214 (gR_mono (fun x1 H => ?_) H)
  refine T_iload (pc := 217) dX12_edition_217 rfl ?_
  refine T_aI (pc := 219) dX12_edition_219 (aI_mono (fun x2 H => ?_) H)
  refine T_icmp_ge (pc := 220) (tgt := 348) dX12_edition_220 (by decide) (fun hc => ?_) (fun hc => ?_)
  · rw [if_pos hc] at H
    refine T_iload_n (pc := 348) dX12_edition_348 rfl rfl ?_
    refine T_if_ne (pc := 349) (tgt := 406) dX12_edition_349 (by decide) (fun hc => ?_) (fun hc => ?_)
    · rw [if_neg hc] at H
      exact T.forget (E_X12_edition_406 H) ⟨rfl, rfl, rfl, rfl, trivial⟩
    · rw [if_pos hc] at H
      refine T_bipush (pc := 352) (v := 8) dX12_edition_352 (by decide) ?_
      refine T_iload (pc := 354) dX12_edition_354 rfl ?_
      refine T_iconst (pc := 356) (v := 1) dX12_edition_356 (by decide) ?_
      refine T_iadd (pc := 357) dX12_edition_357 ?_
      refine T_imul (pc := 358) dX12_edition_358 ?_
      refine T_iload (pc := 359) dX12_edition_359 rfl ?_
      refine T_iadd (pc := 361) dX12_edition_361 ?_
      refine T_istore (pc := 362) (ls2 := [some (jR v0), some (jI v1), some (jI v2), some (jI v3), some (jI v4), some (jI v5), some (jI v6), some (jI v7), some (jI v8), some (jI ((8 * (v6 + 1)) + v8)), none, none]) dX12_edition_362 (Nat.le_of_ble_eq_true rfl) rfl ?_
      refine T_aload_n (pc := 364) dX12_edition_364 rfl rfl ?_
      refine T_gR (pc := 365) fa_X12_45 dX12_edition_365 (gR_mono (fun x3 H => ?_) H)
      refine T_iload (pc := 368) dX12_edition_368 rfl ?_
      refine T_iload_n (pc := 370) dX12_edition_370 rfl rfl ?_
      refine T_sI (pc := 371) dX12_edition_371 (sV_mono (fun h H => ?_) H)
      refine T_aload_n (pc := 372) dX12_edition_372 rfl rfl ?_
      refine T_gR (pc := 373) fa_X12_48 dX12_edition_373 (gR_mono (fun x4 H => ?_) H)
      refine T_iload (pc := 376) dX12_edition_376 rfl ?_
      refine T_iload (pc := 378) dX12_edition_378 rfl ?_
      refine T_sI (pc := 380) dX12_edition_380 (sV_mono (fun h H => ?_) H)
      refine T_aload_n (pc := 381) dX12_edition_381 rfl rfl ?_
      refine T_gR (pc := 382) fa_X12_51 dX12_edition_382 (gR_mono (fun x5 H => ?_) H)
      refine T_iload (pc := 385) dX12_edition_385 rfl ?_
      refine T_iload (pc := 387) dX12_edition_387 rfl ?_
      refine T_if_eq (pc := 389) (tgt := 401) dX12_edition_389 (by decide) (fun hc => ?_) (fun hc => ?_)
      · rw [if_pos hc] at H
        refine T_iconst (pc := 401) (v := 0) dX12_edition_401 (by decide) ?_
        exact T.forget (E_X12_edition_402 H) ⟨rfl, rfl, rfl, rfl, trivial⟩
      · rw [if_neg hc] at H
        refine T_aload_n (pc := 392) dX12_edition_392 rfl rfl ?_
        refine T_iload_n (pc := 393) dX12_edition_393 rfl rfl ?_
        refine T_iload_n (pc := 394) dX12_edition_394 rfl rfl ?_
        obtain ⟨H0, H⟩ := H
        refine T_iV (pc := 395) (ci := 11) (av := [jI v1, jI v3]) (rest := [jI ((8 * (v6 + 1)) + v8), jR x5]) (o := v0) dX12_edition_395 mf_X12_newConstant c_5_214 c_5_216 pr_X12_newConstant rfl rfl (Nat.le_of_ble_eq_true rfl) rfl H0 (iI_k (iI_mono (fun x6 h u H => ?_) H))
        refine T_goto (pc := 398) (tgt := 402) dX12_edition_398 (by decide) ?_
        exact T.forget (E_X12_edition_402 H) ⟨rfl, rfl, rfl, rfl, trivial⟩
  · rw [if_neg hc] at H
    refine T_bipush (pc := 223) (v := 8) dX12_edition_223 (by decide) ?_
    refine T_iload (pc := 225) dX12_edition_225 rfl ?_
    refine T_imul (pc := 227) dX12_edition_227 ?_
    refine T_iload_n (pc := 228) dX12_edition_228 rfl rfl ?_
    refine T_iconst (pc := 229) (v := 3) dX12_edition_229 (by decide) ?_
    refine T_icmp_ne (pc := 230) (tgt := 248) dX12_edition_230 (by decide) (fun hc => ?_) (fun hc => ?_)
    · rw [if_neg hc] at H
      refine T_iload (pc := 248) dX12_edition_248 rfl ?_
      exact T.forget (E_X12_edition_250 H) ⟨rfl, rfl, rfl, rfl, rfl, rfl, rfl, rfl, rfl, rfl, trivial⟩
    · rw [if_pos hc] at H
      refine T_aload_n (pc := 233) dX12_edition_233 rfl rfl ?_
      refine T_gR (pc := 234) fa_X12_42 dX12_edition_234 (gR_mono (fun x7 H => ?_) H)
      refine T_iload (pc := 237) dX12_edition_237 rfl ?_
      refine T_aI (pc := 239) dX12_edition_239 (aI_mono (fun x8 H => ?_) H)
      refine T_iconst (pc := 240) (v := 1) dX12_edition_240 (by decide) ?_
      refine T_isub (pc := 241) dX12_edition_241 ?_
      refine T_iload (pc := 242) dX12_edition_242 rfl ?_
      refine T_isub (pc := 244) dX12_edition_244 ?_
      refine T_goto (pc := 245) (tgt := 250) dX12_edition_245 (by decide) ?_
      exact T.forget (E_X12_edition_250 H) ⟨rfl, rfl, rfl, rfl, rfl, rfl, rfl, rfl, rfl, rfl, trivial⟩
theorem I_X12_edition {d : Nat} {v0 : Option Nm} {v1 : Int32} {v2 : Int32} {v3 : Int32} {v4 : Int32} {h : MH} {u : Nat} {K : Int32 → MH → Nat → Prop} (u1 : Nat) (hu : u1 ≤ u) (H : F_X12_edition d v0 v1 v2 v3 v4 h u1 (fun x h2 => K x h2 (u - u1))) : iI (d + 1) u_X12_edition [jR v0, jI v1, jI v2, jI v3, jI v4] h u K := inv.of u1 hu (Ct.of (by decide +kernel) rfl (Nat.le_of_ble_eq_true rfl) rfl (E_X12_edition H))
theorem dX12_family_0 : decode cX12_family 0 = .ok (.iload_n 1, 1) := by decide +kernel
theorem dX12_family_1 : decode cX12_family 1 = .ok (.aload_n 0, 1) := by decide +kernel
theorem dX12_family_2 : decode cX12_family 2 = .ok (.getfield 199, 3) := by decide +kernel
theorem dX12_family_5 : decode cX12_family 5 = .ok (.iushr, 1) := by decide +kernel
theorem dX12_family_6 : decode cX12_family 6 = .ok (.ifCond .eq 6, 3) := by decide +kernel
theorem dX12_family_9 : decode cX12_family 9 = .ok (.bipush (-2), 2) := by decide +kernel
theorem dX12_family_11 : decode cX12_family 11 = .ok (.ireturn, 1) := by decide +kernel
theorem dX12_family_12 : decode cX12_family 12 = .ok (.aload_n 0, 1) := by decide +kernel
theorem dX12_family_13 : decode cX12_family 13 = .ok (.getfield 228, 3) := by decide +kernel
theorem dX12_family_16 : decode cX12_family 16 = .ok (.bipush 8, 2) := by decide +kernel
theorem dX12_family_18 : decode cX12_family 18 = .ok (.if_icmp .ne 6, 3) := by decide +kernel
theorem dX12_family_21 : decode cX12_family 21 = .ok (.bipush (-4), 2) := by decide +kernel
theorem dX12_family_23 : decode cX12_family 23 = .ok (.ireturn, 1) := by decide +kernel
theorem dX12_family_24 : decode cX12_family 24 = .ok (.aload_n 0, 1) := by decide +kernel
theorem dX12_family_25 : decode cX12_family 25 = .ok (.getfield 54, 3) := by decide +kernel
theorem dX12_family_28 : decode cX12_family 28 = .ok (.aload_n 0, 1) := by decide +kernel
theorem dX12_family_29 : decode cX12_family 29 = .ok (.getfield 228, 3) := by decide +kernel
theorem dX12_family_32 : decode cX12_family 32 = .ok (.iload_n 1, 1) := by decide +kernel
theorem dX12_family_33 : decode cX12_family 33 = .ok (.iastore, 1) := by decide +kernel
theorem dX12_family_34 : decode cX12_family 34 = .ok (.aload_n 0, 1) := by decide +kernel
theorem dX12_family_35 : decode cX12_family 35 = .ok (.getfield 57, 3) := by decide +kernel
theorem dX12_family_38 : decode cX12_family 38 = .ok (.aload_n 0, 1) := by decide +kernel
theorem dX12_family_39 : decode cX12_family 39 = .ok (.getfield 228, 3) := by decide +kernel
theorem dX12_family_42 : decode cX12_family 42 = .ok (.iload_n 2, 1) := by decide +kernel
theorem dX12_family_43 : decode cX12_family 43 = .ok (.bastore, 1) := by decide +kernel
theorem dX12_family_44 : decode cX12_family 44 = .ok (.aload_n 0, 1) := by decide +kernel
theorem dX12_family_45 : decode cX12_family 45 = .ok (.dup, 1) := by decide +kernel
theorem dX12_family_46 : decode cX12_family 46 = .ok (.getfield 228, 3) := by decide +kernel
theorem dX12_family_49 : decode cX12_family 49 = .ok (.iconst 1, 1) := by decide +kernel
theorem dX12_family_50 : decode cX12_family 50 = .ok (.iadd, 1) := by decide +kernel
theorem dX12_family_51 : decode cX12_family 51 = .ok (.putfield 228, 3) := by decide +kernel
theorem dX12_family_54 : decode cX12_family 54 = .ok (.aload_n 0, 1) := by decide +kernel
theorem dX12_family_55 : decode cX12_family 55 = .ok (.getfield 228, 3) := by decide +kernel
theorem dX12_family_58 : decode cX12_family 58 = .ok (.iconst 1, 1) := by decide +kernel
theorem dX12_family_59 : decode cX12_family 59 = .ok (.isub, 1) := by decide +kernel
theorem dX12_family_60 : decode cX12_family 60 = .ok (.ireturn, 1) := by decide +kernel
def F_X12_family (d : Nat) (v0 : Option Nm) (v1 : Int32) (v2 : Int32) (h : MH) (u : Nat) (Q : Int32 → MH → Prop) : Prop :=
  gI h v0 11 9 fun x1 =>
  if ((v1.toUInt32 >>> (x1.toUInt32 &&& Int32.toUInt32 31)).toInt32) = 0 then
    gI h v0 11 19 fun x2 =>
    if x2 = 8 then
      Q (-4) h
    else
      gR h v0 11 20 fun x3 =>
      gI h v0 11 19 fun x4 =>
      sV .int h x3 x4 (jI v1) fun h =>
      gR h v0 11 21 fun x5 =>
      gI h v0 11 19 fun x6 =>
      sV .boolean h x5 x6 (jI (vp_nar .boolean v2)) fun h =>
      gI h v0 11 19 fun x7 =>
      pV h v0 11 19 (jI (x7 + 1)) fun h =>
      gI h v0 11 19 fun x8 =>
      Q (x8 - 1) h
  else
    Q (-2) h
set_option maxRecDepth 20000 in
theorem E_X12_family {d : Nat} {v0 : Option Nm} {v1 : Int32} {v2 : Int32} {h : MH} {u : Nat} {Q : Int32 → MH → Prop} (H : F_X12_family d v0 v1 v2 h u Q) : T u_X12_family d 0 [some (jR v0), some (jI v1), some (jI v2)] [] h u (qI Q) := by
  unfold F_X12_family at H
  refine T_iload_n (pc := 0) dX12_family_0 rfl rfl ?_
  refine T_aload_n (pc := 1) dX12_family_1 rfl rfl ?_
  refine T_gI (pc := 2) fa_X12_199 dX12_family_2 (gI_mono (fun x1 H => ?_) H)
  refine T_iushr (pc := 5) dX12_family_5 ?_
  refine T_if_eq (pc := 6) (tgt := 12) dX12_family_6 (by decide) (fun hc => ?_) (fun hc => ?_)
  · rw [if_pos hc] at H
    refine T_aload_n (pc := 12) dX12_family_12 rfl rfl ?_
    refine T_gI (pc := 13) fa_X12_228 dX12_family_13 (gI_mono (fun x2 H => ?_) H)
    refine T_bipush (pc := 16) (v := 8) dX12_family_16 (by decide) ?_
    refine T_icmp_ne (pc := 18) (tgt := 24) dX12_family_18 (by decide) (fun hc => ?_) (fun hc => ?_)
    · rw [if_neg hc] at H
      refine T_aload_n (pc := 24) dX12_family_24 rfl rfl ?_
      refine T_gR (pc := 25) fa_X12_54 dX12_family_25 (gR_mono (fun x3 H => ?_) H)
      refine T_aload_n (pc := 28) dX12_family_28 rfl rfl ?_
      refine T_gI (pc := 29) fa_X12_228 dX12_family_29 (gI_mono (fun x4 H => ?_) H)
      refine T_iload_n (pc := 32) dX12_family_32 rfl rfl ?_
      refine T_sI (pc := 33) dX12_family_33 (sV_mono (fun h H => ?_) H)
      refine T_aload_n (pc := 34) dX12_family_34 rfl rfl ?_
      refine T_gR (pc := 35) fa_X12_57 dX12_family_35 (gR_mono (fun x5 H => ?_) H)
      refine T_aload_n (pc := 38) dX12_family_38 rfl rfl ?_
      refine T_gI (pc := 39) fa_X12_228 dX12_family_39 (gI_mono (fun x6 H => ?_) H)
      refine T_iload_n (pc := 42) dX12_family_42 rfl rfl ?_
      refine T_sZ (pc := 43) dX12_family_43 (sV_mono (fun h H => ?_) H)
      refine T_aload_n (pc := 44) dX12_family_44 rfl rfl ?_
      refine T_dup (pc := 45) rfl dX12_family_45 ?_
      refine T_gI (pc := 46) fa_X12_228 dX12_family_46 (gI_mono (fun x7 H => ?_) H)
      refine T_iconst (pc := 49) (v := 1) dX12_family_49 (by decide) ?_
      refine T_iadd (pc := 50) dX12_family_50 ?_
      refine T_pV (pc := 51) fa_X12_228 dX12_family_51 trivial (pV_mono (fun h H => ?_) H)
      refine T_aload_n (pc := 54) dX12_family_54 rfl rfl ?_
      refine T_gI (pc := 55) fa_X12_228 dX12_family_55 (gI_mono (fun x8 H => ?_) H)
      refine T_iconst (pc := 58) (v := 1) dX12_family_58 (by decide) ?_
      refine T_isub (pc := 59) dX12_family_59 ?_
      exact T_ireturn (pc := 60) rfl rfl dX12_family_60 H
    · rw [if_pos hc] at H
      refine T_bipush (pc := 21) (v := (-4)) dX12_family_21 (by decide) ?_
      exact T_ireturn (pc := 23) rfl rfl dX12_family_23 H
  · rw [if_neg hc] at H
    refine T_bipush (pc := 9) (v := (-2)) dX12_family_9 (by decide) ?_
    exact T_ireturn (pc := 11) rfl rfl dX12_family_11 H
theorem I_X12_family {d : Nat} {v0 : Option Nm} {v1 : Int32} {v2 : Int32} {h : MH} {u : Nat} {K : Int32 → MH → Nat → Prop} (u1 : Nat) (hu : u1 ≤ u) (H : F_X12_family d v0 v1 v2 h u1 (fun x h2 => K x h2 (u - u1))) : iI d u_X12_family [jR v0, jI v1, jI v2] h u K := inv.of u1 hu (Ct.of (by decide +kernel) rfl (Nat.le_of_ble_eq_true rfl) rfl (E_X12_family H))
theorem dX12_info_0 : decode cX12_info 0 = .ok (.aload_n 0, 1) := by decide +kernel
theorem dX12_info_1 : decode cX12_info 1 = .ok (.iload_n 1, 1) := by decide +kernel
theorem dX12_info_2 : decode cX12_info 2 = .ok (.invokevirtual 206, 3) := by decide +kernel
theorem dX12_info_5 : decode cX12_info 5 = .ok (.ifCond .ne 5, 3) := by decide +kernel
theorem dX12_info_8 : decode cX12_info 8 = .ok (.iconst (-1), 1) := by decide +kernel
theorem dX12_info_9 : decode cX12_info 9 = .ok (.ireturn, 1) := by decide +kernel
theorem dX12_info_10 : decode cX12_info 10 = .ok (.iload_n 2, 1) := by decide +kernel
theorem dX12_info_11 : decode cX12_info 11 = .ok (.tableswitch 88 0 4 #[33, 48, 59, 66, 81], 33) := by decide +kernel
theorem dX12_info_44 : decode cX12_info 44 = .ok (.aload_n 0, 1) := by decide +kernel
theorem dX12_info_45 : decode cX12_info 45 = .ok (.getfield 27, 3) := by decide +kernel
theorem dX12_info_48 : decode cX12_info 48 = .ok (.iload_n 1, 1) := by decide +kernel
theorem dX12_info_49 : decode cX12_info 49 = .ok (.baload, 1) := by decide +kernel
theorem dX12_info_50 : decode cX12_info 50 = .ok (.ifCond .eq 7, 3) := by decide +kernel
theorem dX12_info_53 : decode cX12_info 53 = .ok (.iconst 1, 1) := by decide +kernel
theorem dX12_info_54 : decode cX12_info 54 = .ok (.goto 4, 3) := by decide +kernel
theorem dX12_info_57 : decode cX12_info 57 = .ok (.iconst 0, 1) := by decide +kernel
theorem dX12_info_58 : decode cX12_info 58 = .ok (.ireturn, 1) := by decide +kernel
theorem dX12_info_59 : decode cX12_info 59 = .ok (.aload_n 0, 1) := by decide +kernel
theorem dX12_info_60 : decode cX12_info 60 = .ok (.getfield 42, 3) := by decide +kernel
theorem dX12_info_63 : decode cX12_info 63 = .ok (.aload_n 0, 1) := by decide +kernel
theorem dX12_info_64 : decode cX12_info 64 = .ok (.iload_n 1, 1) := by decide +kernel
theorem dX12_info_65 : decode cX12_info 65 = .ok (.invokevirtual 225, 3) := by decide +kernel
theorem dX12_info_68 : decode cX12_info 68 = .ok (.iaload, 1) := by decide +kernel
theorem dX12_info_69 : decode cX12_info 69 = .ok (.ireturn, 1) := by decide +kernel
theorem dX12_info_70 : decode cX12_info 70 = .ok (.aload_n 0, 1) := by decide +kernel
theorem dX12_info_71 : decode cX12_info 71 = .ok (.getfield 36, 3) := by decide +kernel
theorem dX12_info_74 : decode cX12_info 74 = .ok (.iload_n 1, 1) := by decide +kernel
theorem dX12_info_75 : decode cX12_info 75 = .ok (.iaload, 1) := by decide +kernel
theorem dX12_info_76 : decode cX12_info 76 = .ok (.ireturn, 1) := by decide +kernel
theorem dX12_info_77 : decode cX12_info 77 = .ok (.aload_n 0, 1) := by decide +kernel
theorem dX12_info_78 : decode cX12_info 78 = .ok (.getfield 33, 3) := by decide +kernel
theorem dX12_info_81 : decode cX12_info 81 = .ok (.iload_n 1, 1) := by decide +kernel
theorem dX12_info_82 : decode cX12_info 82 = .ok (.baload, 1) := by decide +kernel
theorem dX12_info_83 : decode cX12_info 83 = .ok (.ifCond .eq 7, 3) := by decide +kernel
theorem dX12_info_86 : decode cX12_info 86 = .ok (.iconst 1, 1) := by decide +kernel
theorem dX12_info_87 : decode cX12_info 87 = .ok (.goto 4, 3) := by decide +kernel
theorem dX12_info_90 : decode cX12_info 90 = .ok (.iconst 0, 1) := by decide +kernel
theorem dX12_info_91 : decode cX12_info 91 = .ok (.ireturn, 1) := by decide +kernel
theorem dX12_info_92 : decode cX12_info 92 = .ok (.aload_n 0, 1) := by decide +kernel
theorem dX12_info_93 : decode cX12_info 93 = .ok (.getfield 39, 3) := by decide +kernel
theorem dX12_info_96 : decode cX12_info 96 = .ok (.iload_n 1, 1) := by decide +kernel
theorem dX12_info_97 : decode cX12_info 97 = .ok (.iaload, 1) := by decide +kernel
theorem dX12_info_98 : decode cX12_info 98 = .ok (.ireturn, 1) := by decide +kernel
theorem dX12_info_99 : decode cX12_info 99 = .ok (.bipush (-2), 2) := by decide +kernel
theorem dX12_info_101 : decode cX12_info 101 = .ok (.ireturn, 1) := by decide +kernel
def F_X12_info (d : Nat) (v0 : Option Nm) (v1 : Int32) (v2 : Int32) (h : MH) (u : Nat) (Q : Int32 → MH → Prop) : Prop :=
  rc h v0 11 ∧ iI d u_X12_isKind [jR v0, jI v1] h u fun x1 h u =>
  if x1 = 0 then
    Q (-1) h
  else
    if v2 = 0 then
      gR h v0 11 10 fun x2 =>
      aI .boolean h x2 v1 fun x3 =>
      if x3 = 0 then
        Q 0 h
      else
        Q 1 h
    else if v2 = 1 then
      gR h v0 11 15 fun x4 =>
      rc h v0 11 ∧ iI d u_X12_newestOf [jR v0, jI v1] h u fun x5 h u =>
      aI .int h x4 x5 fun x6 =>
      Q x6 h
    else if v2 = 2 then
      gR h v0 11 13 fun x7 =>
      aI .int h x7 v1 fun x8 =>
      Q x8 h
    else if v2 = 3 then
      gR h v0 11 12 fun x9 =>
      aI .boolean h x9 v1 fun x10 =>
      if x10 = 0 then
        Q 0 h
      else
        Q 1 h
    else if v2 = 4 then
      gR h v0 11 14 fun x11 =>
      aI .int h x11 v1 fun x12 =>
      Q x12 h
    else 
      Q (-2) h
set_option maxRecDepth 20000 in
theorem E_X12_info {d : Nat} {v0 : Option Nm} {v1 : Int32} {v2 : Int32} {h : MH} {u : Nat} {Q : Int32 → MH → Prop} (H : F_X12_info d v0 v1 v2 h u Q) : T u_X12_info (d + 1) 0 [some (jR v0), some (jI v1), some (jI v2)] [] h u (qI Q) := by
  unfold F_X12_info at H
  refine T_aload_n (pc := 0) dX12_info_0 rfl rfl ?_
  refine T_iload_n (pc := 1) dX12_info_1 rfl rfl ?_
  obtain ⟨H0, H⟩ := H
  refine T_iV (pc := 2) (ci := 11) (av := [jI v1]) (rest := []) (o := v0) dX12_info_2 mf_X12_isKind c_5_198 c_5_200 pr_X12_isKind rfl rfl (Nat.le_of_ble_eq_true rfl) rfl H0 (iI_k (iI_mono (fun x1 h u H => ?_) H))
  refine T_if_ne (pc := 5) (tgt := 10) dX12_info_5 (by decide) (fun hc => ?_) (fun hc => ?_)
  · rw [if_neg hc] at H
    refine T_iload_n (pc := 10) dX12_info_10 rfl rfl ?_
    by_cases h0 : v2 = 0
    · rw [if_pos h0] at H
      refine T_tableIn (pc := 11) (off := 33) (tgt := 44) dX12_info_11 (by rw [h0]; decide) (by rw [h0]; decide) (by rw [h0]; rfl) (by decide) ?_
      refine T_aload_n (pc := 44) dX12_info_44 rfl rfl ?_
      refine T_gR (pc := 45) fa_X12_27 dX12_info_45 (gR_mono (fun x2 H => ?_) H)
      refine T_iload_n (pc := 48) dX12_info_48 rfl rfl ?_
      refine T_aZ (pc := 49) dX12_info_49 (aI_mono (fun x3 H => ?_) H)
      refine T_if_eq (pc := 50) (tgt := 57) dX12_info_50 (by decide) (fun hc => ?_) (fun hc => ?_)
      · rw [if_pos hc] at H
        refine T_iconst (pc := 57) (v := 0) dX12_info_57 (by decide) ?_
        exact T_ireturn (pc := 58) rfl rfl dX12_info_58 H
      · rw [if_neg hc] at H
        refine T_iconst (pc := 53) (v := 1) dX12_info_53 (by decide) ?_
        refine T_goto (pc := 54) (tgt := 58) dX12_info_54 (by decide) ?_
        exact T_ireturn (pc := 58) rfl rfl dX12_info_58 H
    rw [if_neg h0] at H
    by_cases h1 : v2 = 1
    · rw [if_pos h1] at H
      refine T_tableIn (pc := 11) (off := 48) (tgt := 59) dX12_info_11 (by rw [h1]; decide) (by rw [h1]; decide) (by rw [h1]; rfl) (by decide) ?_
      refine T_aload_n (pc := 59) dX12_info_59 rfl rfl ?_
      refine T_gR (pc := 60) fa_X12_42 dX12_info_60 (gR_mono (fun x4 H => ?_) H)
      refine T_aload_n (pc := 63) dX12_info_63 rfl rfl ?_
      refine T_iload_n (pc := 64) dX12_info_64 rfl rfl ?_
      obtain ⟨H0, H⟩ := H
      refine T_iV (pc := 65) (ci := 11) (av := [jI v1]) (rest := [jR x4]) (o := v0) dX12_info_65 mf_X12_newestOf c_5_210 c_5_212 pr_X12_newestOf rfl rfl (Nat.le_of_ble_eq_true rfl) rfl H0 (iI_k (iI_mono (fun x5 h u H => ?_) H))
      refine T_aI (pc := 68) dX12_info_68 (aI_mono (fun x6 H => ?_) H)
      exact T_ireturn (pc := 69) rfl rfl dX12_info_69 H
    rw [if_neg h1] at H
    by_cases h2 : v2 = 2
    · rw [if_pos h2] at H
      refine T_tableIn (pc := 11) (off := 59) (tgt := 70) dX12_info_11 (by rw [h2]; decide) (by rw [h2]; decide) (by rw [h2]; rfl) (by decide) ?_
      refine T_aload_n (pc := 70) dX12_info_70 rfl rfl ?_
      refine T_gR (pc := 71) fa_X12_36 dX12_info_71 (gR_mono (fun x7 H => ?_) H)
      refine T_iload_n (pc := 74) dX12_info_74 rfl rfl ?_
      refine T_aI (pc := 75) dX12_info_75 (aI_mono (fun x8 H => ?_) H)
      exact T_ireturn (pc := 76) rfl rfl dX12_info_76 H
    rw [if_neg h2] at H
    by_cases h3 : v2 = 3
    · rw [if_pos h3] at H
      refine T_tableIn (pc := 11) (off := 66) (tgt := 77) dX12_info_11 (by rw [h3]; decide) (by rw [h3]; decide) (by rw [h3]; rfl) (by decide) ?_
      refine T_aload_n (pc := 77) dX12_info_77 rfl rfl ?_
      refine T_gR (pc := 78) fa_X12_33 dX12_info_78 (gR_mono (fun x9 H => ?_) H)
      refine T_iload_n (pc := 81) dX12_info_81 rfl rfl ?_
      refine T_aZ (pc := 82) dX12_info_82 (aI_mono (fun x10 H => ?_) H)
      refine T_if_eq (pc := 83) (tgt := 90) dX12_info_83 (by decide) (fun hc => ?_) (fun hc => ?_)
      · rw [if_pos hc] at H
        refine T_iconst (pc := 90) (v := 0) dX12_info_90 (by decide) ?_
        exact T_ireturn (pc := 91) rfl rfl dX12_info_91 H
      · rw [if_neg hc] at H
        refine T_iconst (pc := 86) (v := 1) dX12_info_86 (by decide) ?_
        refine T_goto (pc := 87) (tgt := 91) dX12_info_87 (by decide) ?_
        exact T_ireturn (pc := 91) rfl rfl dX12_info_91 H
    rw [if_neg h3] at H
    by_cases h4 : v2 = 4
    · rw [if_pos h4] at H
      refine T_tableIn (pc := 11) (off := 81) (tgt := 92) dX12_info_11 (by rw [h4]; decide) (by rw [h4]; decide) (by rw [h4]; rfl) (by decide) ?_
      refine T_aload_n (pc := 92) dX12_info_92 rfl rfl ?_
      refine T_gR (pc := 93) fa_X12_39 dX12_info_93 (gR_mono (fun x11 H => ?_) H)
      refine T_iload_n (pc := 96) dX12_info_96 rfl rfl ?_
      refine T_aI (pc := 97) dX12_info_97 (aI_mono (fun x12 H => ?_) H)
      exact T_ireturn (pc := 98) rfl rfl dX12_info_98 H
    rw [if_neg h4] at H
    have e0 : (v2 : Int32).toInt ≠ 0 := fun q => h0 (Int32.toInt_inj.mp (q.trans (by decide)))
    have e1 : (v2 : Int32).toInt ≠ 1 := fun q => h1 (Int32.toInt_inj.mp (q.trans (by decide)))
    have e2 : (v2 : Int32).toInt ≠ 2 := fun q => h2 (Int32.toInt_inj.mp (q.trans (by decide)))
    have e3 : (v2 : Int32).toInt ≠ 3 := fun q => h3 (Int32.toInt_inj.mp (q.trans (by decide)))
    have e4 : (v2 : Int32).toInt ≠ 4 := fun q => h4 (Int32.toInt_inj.mp (q.trans (by decide)))
    refine T_tableOut (pc := 11) (tgt := 99) dX12_info_11 (by omega) (by decide) ?_
    refine T_bipush (pc := 99) (v := (-2)) dX12_info_99 (by decide) ?_
    exact T_ireturn (pc := 101) rfl rfl dX12_info_101 H
  · rw [if_pos hc] at H
    refine T_iconst (pc := 8) (v := (-1)) dX12_info_8 (by decide) ?_
    exact T_ireturn (pc := 9) rfl rfl dX12_info_9 H
theorem I_X12_info {d : Nat} {v0 : Option Nm} {v1 : Int32} {v2 : Int32} {h : MH} {u : Nat} {K : Int32 → MH → Nat → Prop} (u1 : Nat) (hu : u1 ≤ u) (H : F_X12_info d v0 v1 v2 h u1 (fun x h2 => K x h2 (u - u1))) : iI (d + 1) u_X12_info [jR v0, jI v1, jI v2] h u K := inv.of u1 hu (Ct.of (by decide +kernel) rfl (Nat.le_of_ble_eq_true rfl) rfl (E_X12_info H))
theorem dX12_give_0 : decode cX12_give 0 = .ok (.iload_n 1, 1) := by decide +kernel
theorem dX12_give_1 : decode cX12_give 1 = .ok (.iconst 0, 1) := by decide +kernel
theorem dX12_give_2 : decode cX12_give 2 = .ok (.iconst 5, 1) := by decide +kernel
theorem dX12_give_3 : decode cX12_give 3 = .ok (.invokestatic 156, 3) := by decide +kernel
theorem dX12_give_6 : decode cX12_give 6 = .ok (.ifCond .eq 13, 3) := by decide +kernel
theorem dX12_give_9 : decode cX12_give 9 = .ok (.iload_n 2, 1) := by decide +kernel
theorem dX12_give_10 : decode cX12_give 10 = .ok (.iconst 0, 1) := by decide +kernel
theorem dX12_give_11 : decode cX12_give 11 = .ok (.bipush 7, 2) := by decide +kernel
theorem dX12_give_13 : decode cX12_give 13 = .ok (.invokestatic 156, 3) := by decide +kernel
theorem dX12_give_16 : decode cX12_give 16 = .ok (.ifCond .ne 6, 3) := by decide +kernel
theorem dX12_give_19 : decode cX12_give 19 = .ok (.bipush (-2), 2) := by decide +kernel
theorem dX12_give_21 : decode cX12_give 21 = .ok (.ireturn, 1) := by decide +kernel
theorem dX12_give_22 : decode cX12_give 22 = .ok (.aload_n 0, 1) := by decide +kernel
theorem dX12_give_23 : decode cX12_give 23 = .ok (.getfield 60, 3) := by decide +kernel
theorem dX12_give_26 : decode cX12_give 26 = .ok (.iload_n 1, 1) := by decide +kernel
theorem dX12_give_27 : decode cX12_give 27 = .ok (.iload_n 2, 1) := by decide +kernel
theorem dX12_give_28 : decode cX12_give 28 = .ok (.iastore, 1) := by decide +kernel
theorem dX12_give_29 : decode cX12_give 29 = .ok (.aload_n 0, 1) := by decide +kernel
theorem dX12_give_30 : decode cX12_give 30 = .ok (.getfield 63, 3) := by decide +kernel
theorem dX12_give_33 : decode cX12_give 33 = .ok (.iload_n 1, 1) := by decide +kernel
theorem dX12_give_34 : decode cX12_give 34 = .ok (.iload_n 2, 1) := by decide +kernel
theorem dX12_give_35 : decode cX12_give 35 = .ok (.lload_n 3, 1) := by decide +kernel
theorem dX12_give_36 : decode cX12_give 36 = .ok (.invokestatic 178, 3) := by decide +kernel
theorem dX12_give_39 : decode cX12_give 39 = .ok (.lastore, 1) := by decide +kernel
theorem dX12_give_40 : decode cX12_give 40 = .ok (.iconst 1, 1) := by decide +kernel
theorem dX12_give_41 : decode cX12_give 41 = .ok (.ireturn, 1) := by decide +kernel
def F_X12_give (d : Nat) (v0 : Option Nm) (v1 : Int32) (v2 : Int32) (v3 : Int64) (h : MH) (u : Nat) (Q : Int32 → MH → Prop) : Prop :=
  iI d u_X12_in [jI v1, jI 0, jI 5] h u fun x1 h u =>
  if x1 = 0 then
    Q (-2) h
  else
    iI d u_X12_in [jI v2, jI 0, jI 7] h u fun x2 h u =>
    if x2 = 0 then
      Q (-2) h
    else
      gR h v0 11 22 fun x3 =>
      sV .int h x3 v1 (jI v2) fun h =>
      gR h v0 11 23 fun x4 =>
      iL d u_X12_comes [jI v2, jL v3] h u fun x5 h u =>
      sV .long h x4 v1 (jL x5) fun h =>
      Q 1 h
set_option maxRecDepth 20000 in
theorem E_X12_give {d : Nat} {v0 : Option Nm} {v1 : Int32} {v2 : Int32} {v3 : Int64} {h : MH} {u : Nat} {Q : Int32 → MH → Prop} (H : F_X12_give d v0 v1 v2 v3 h u Q) : T u_X12_give (d + 1) 0 [some (jR v0), some (jI v1), some (jI v2), some (jL v3), none] [] h u (qI Q) := by
  unfold F_X12_give at H
  refine T_iload_n (pc := 0) dX12_give_0 rfl rfl ?_
  refine T_iconst (pc := 1) (v := 0) dX12_give_1 (by decide) ?_
  refine T_iconst (pc := 2) (v := 5) dX12_give_2 (by decide) ?_
  refine T_invS (pc := 3) (av := [jI v1, jI 0, jI 5]) (rest := []) dX12_give_3 mf_X12_in c_5_86 c_5_87 rfl (Nat.le_of_ble_eq_true rfl) rfl (iI_k (iI_mono (fun x1 h u H => ?_) H))
  refine T_if_eq (pc := 6) (tgt := 19) dX12_give_6 (by decide) (fun hc => ?_) (fun hc => ?_)
  · rw [if_pos hc] at H
    refine T_bipush (pc := 19) (v := (-2)) dX12_give_19 (by decide) ?_
    exact T_ireturn (pc := 21) rfl rfl dX12_give_21 H
  · rw [if_neg hc] at H
    refine T_iload_n (pc := 9) dX12_give_9 rfl rfl ?_
    refine T_iconst (pc := 10) (v := 0) dX12_give_10 (by decide) ?_
    refine T_bipush (pc := 11) (v := 7) dX12_give_11 (by decide) ?_
    refine T_invS (pc := 13) (av := [jI v2, jI 0, jI 7]) (rest := []) dX12_give_13 mf_X12_in c_5_86 c_5_87 rfl (Nat.le_of_ble_eq_true rfl) rfl (iI_k (iI_mono (fun x2 h u H => ?_) H))
    refine T_if_ne (pc := 16) (tgt := 22) dX12_give_16 (by decide) (fun hc => ?_) (fun hc => ?_)
    · rw [if_neg hc] at H
      refine T_aload_n (pc := 22) dX12_give_22 rfl rfl ?_
      refine T_gR (pc := 23) fa_X12_60 dX12_give_23 (gR_mono (fun x3 H => ?_) H)
      refine T_iload_n (pc := 26) dX12_give_26 rfl rfl ?_
      refine T_iload_n (pc := 27) dX12_give_27 rfl rfl ?_
      refine T_sI (pc := 28) dX12_give_28 (sV_mono (fun h H => ?_) H)
      refine T_aload_n (pc := 29) dX12_give_29 rfl rfl ?_
      refine T_gR (pc := 30) fa_X12_63 dX12_give_30 (gR_mono (fun x4 H => ?_) H)
      refine T_iload_n (pc := 33) dX12_give_33 rfl rfl ?_
      refine T_iload_n (pc := 34) dX12_give_34 rfl rfl ?_
      refine T_lload_n (pc := 35) dX12_give_35 rfl rfl ?_
      refine T_invS (pc := 36) (av := [jI v2, jL v3]) (rest := [jI v1, jR x4]) dX12_give_36 mf_X12_comes c_5_109 c_5_110 rfl (Nat.le_of_ble_eq_true rfl) rfl (iL_k (iL_mono (fun x5 h u H => ?_) H))
      refine T_sL (pc := 39) dX12_give_39 (sV_mono (fun h H => ?_) H)
      refine T_iconst (pc := 40) (v := 1) dX12_give_40 (by decide) ?_
      exact T_ireturn (pc := 41) rfl rfl dX12_give_41 H
    · rw [if_pos hc] at H
      refine T_bipush (pc := 19) (v := (-2)) dX12_give_19 (by decide) ?_
      exact T_ireturn (pc := 21) rfl rfl dX12_give_21 H
theorem I_X12_give {d : Nat} {v0 : Option Nm} {v1 : Int32} {v2 : Int32} {v3 : Int64} {h : MH} {u : Nat} {K : Int32 → MH → Nat → Prop} (u1 : Nat) (hu : u1 ≤ u) (H : F_X12_give d v0 v1 v2 v3 h u1 (fun x h2 => K x h2 (u - u1))) : iI (d + 1) u_X12_give [jR v0, jI v1, jI v2, jL v3] h u K := inv.of u1 hu (Ct.of (by decide +kernel) rfl (Nat.le_of_ble_eq_true rfl) rfl (E_X12_give H))
theorem dX12_hand_0 : decode cX12_hand 0 = .ok (.iload_n 2, 1) := by decide +kernel
theorem dX12_hand_1 : decode cX12_hand 1 = .ok (.iconst (-1), 1) := by decide +kernel
theorem dX12_hand_2 : decode cX12_hand 2 = .ok (.if_icmp .eq 28, 3) := by decide +kernel
theorem dX12_hand_5 : decode cX12_hand 5 = .ok (.iload_n 3, 1) := by decide +kernel
theorem dX12_hand_6 : decode cX12_hand 6 = .ok (.ifCond .eq 14, 3) := by decide +kernel
theorem dX12_hand_9 : decode cX12_hand 9 = .ok (.aload_n 0, 1) := by decide +kernel
theorem dX12_hand_10 : decode cX12_hand 10 = .ok (.iload_n 2, 1) := by decide +kernel
theorem dX12_hand_11 : decode cX12_hand 11 = .ok (.invokevirtual 170, 3) := by decide +kernel
theorem dX12_hand_14 : decode cX12_hand 14 = .ok (.ifCond .eq 14, 3) := by decide +kernel
theorem dX12_hand_17 : decode cX12_hand 17 = .ok (.goto 13, 3) := by decide +kernel
theorem dX12_hand_20 : decode cX12_hand 20 = .ok (.aload_n 0, 1) := by decide +kernel
theorem dX12_hand_21 : decode cX12_hand 21 = .ok (.iload_n 2, 1) := by decide +kernel
theorem dX12_hand_22 : decode cX12_hand 22 = .ok (.invokevirtual 190, 3) := by decide +kernel
theorem dX12_hand_25 : decode cX12_hand 25 = .ok (.ifCond .ne 5, 3) := by decide +kernel
theorem dX12_hand_28 : decode cX12_hand 28 = .ok (.iconst (-1), 1) := by decide +kernel
theorem dX12_hand_29 : decode cX12_hand 29 = .ok (.ireturn, 1) := by decide +kernel
theorem dX12_hand_30 : decode cX12_hand 30 = .ok (.iload_n 1, 1) := by decide +kernel
theorem dX12_hand_31 : decode cX12_hand 31 = .ok (.iconst 0, 1) := by decide +kernel
theorem dX12_hand_32 : decode cX12_hand 32 = .ok (.iconst 5, 1) := by decide +kernel
theorem dX12_hand_33 : decode cX12_hand 33 = .ok (.invokestatic 156, 3) := by decide +kernel
theorem dX12_hand_36 : decode cX12_hand 36 = .ok (.ifCond .ne 6, 3) := by decide +kernel
theorem dX12_hand_39 : decode cX12_hand 39 = .ok (.bipush (-2), 2) := by decide +kernel
theorem dX12_hand_41 : decode cX12_hand 41 = .ok (.ireturn, 1) := by decide +kernel
theorem dX12_hand_42 : decode cX12_hand 42 = .ok (.aload_n 0, 1) := by decide +kernel
theorem dX12_hand_43 : decode cX12_hand 43 = .ok (.getfield 60, 3) := by decide +kernel
theorem dX12_hand_46 : decode cX12_hand 46 = .ok (.iload_n 1, 1) := by decide +kernel
theorem dX12_hand_47 : decode cX12_hand 47 = .ok (.iload_n 2, 1) := by decide +kernel
theorem dX12_hand_48 : decode cX12_hand 48 = .ok (.ifCond .ge 8, 3) := by decide +kernel
theorem dX12_hand_51 : decode cX12_hand 51 = .ok (.bipush (-5), 2) := by decide +kernel
theorem dX12_hand_53 : decode cX12_hand 53 = .ok (.goto 14, 3) := by decide +kernel
theorem dX12_hand_56 : decode cX12_hand 56 = .ok (.iload_n 3, 1) := by decide +kernel
theorem dX12_hand_57 : decode cX12_hand 57 = .ok (.ifCond .eq 8, 3) := by decide +kernel
theorem dX12_hand_60 : decode cX12_hand 60 = .ok (.bipush 9, 2) := by decide +kernel
theorem dX12_hand_62 : decode cX12_hand 62 = .ok (.goto 5, 3) := by decide +kernel
theorem dX12_hand_65 : decode cX12_hand 65 = .ok (.bipush 8, 2) := by decide +kernel
theorem dX12_hand_67 : decode cX12_hand 67 = .ok (.iastore, 1) := by decide +kernel
theorem dX12_hand_68 : decode cX12_hand 68 = .ok (.aload_n 0, 1) := by decide +kernel
theorem dX12_hand_69 : decode cX12_hand 69 = .ok (.getfield 63, 3) := by decide +kernel
theorem dX12_hand_72 : decode cX12_hand 72 = .ok (.iload_n 1, 1) := by decide +kernel
theorem dX12_hand_73 : decode cX12_hand 73 = .ok (.iload_n 2, 1) := by decide +kernel
theorem dX12_hand_74 : decode cX12_hand 74 = .ok (.i2l, 1) := by decide +kernel
theorem dX12_hand_75 : decode cX12_hand 75 = .ok (.lastore, 1) := by decide +kernel
theorem dX12_hand_76 : decode cX12_hand 76 = .ok (.iconst 1, 1) := by decide +kernel
theorem dX12_hand_77 : decode cX12_hand 77 = .ok (.ireturn, 1) := by decide +kernel
def F_X12_hand_67 (d : Nat) (v0 : Option Nm) (v1 : Int32) (v2 : Int32) (s0 : Option Nm) (s1 : Int32) (s2 : Int32) (h : MH) (u : Nat) (Q : Int32 → MH → Prop) : Prop :=
  sV .int h s0 s1 (jI s2) fun h =>
  gR h v0 11 23 fun x1 =>
  sV .long h x1 v1 (jL (v2.toInt64)) fun h =>
  Q 1 h
set_option maxRecDepth 20000 in
theorem E_X12_hand_67 {d : Nat} {v0 : Option Nm} {v1 : Int32} {v2 : Int32} {s0 : Option Nm} {s1 : Int32} {s2 : Int32} {h : MH} {u : Nat} {Q : Int32 → MH → Prop} (H : F_X12_hand_67 d v0 v1 v2 s0 s1 s2 h u Q) : T u_X12_hand (d + 1) 67 [some (jR v0), some (jI v1), some (jI v2), none] [jI s2, jI s1, jR s0] h u (qI Q) := by
  unfold F_X12_hand_67 at H
  refine T_sI (pc := 67) dX12_hand_67 (sV_mono (fun h H => ?_) H)
  refine T_aload_n (pc := 68) dX12_hand_68 rfl rfl ?_
  refine T_gR (pc := 69) fa_X12_63 dX12_hand_69 (gR_mono (fun x1 H => ?_) H)
  refine T_iload_n (pc := 72) dX12_hand_72 rfl rfl ?_
  refine T_iload_n (pc := 73) dX12_hand_73 rfl rfl ?_
  refine T_i2l (pc := 74) dX12_hand_74 ?_
  refine T_sL (pc := 75) dX12_hand_75 (sV_mono (fun h H => ?_) H)
  refine T_iconst (pc := 76) (v := 1) dX12_hand_76 (by decide) ?_
  exact T_ireturn (pc := 77) rfl rfl dX12_hand_77 H
def F_X12_hand_30 (d : Nat) (v0 : Option Nm) (v1 : Int32) (v2 : Int32) (v3 : Int32) (h : MH) (u : Nat) (Q : Int32 → MH → Prop) : Prop :=
  iI d u_X12_in [jI v1, jI 0, jI 5] h u fun x1 h u =>
  if x1 = 0 then
    Q (-2) h
  else
    gR h v0 11 22 fun x2 =>
    if 0 ≤ v2 then
      if v3 = 0 then
        F_X12_hand_67 d v0 v1 v2 x2 v1 8 h u Q
      else
        F_X12_hand_67 d v0 v1 v2 x2 v1 9 h u Q
    else
      F_X12_hand_67 d v0 v1 v2 x2 v1 (-5) h u Q
set_option maxRecDepth 20000 in
theorem E_X12_hand_30 {d : Nat} {v0 : Option Nm} {v1 : Int32} {v2 : Int32} {v3 : Int32} {h : MH} {u : Nat} {Q : Int32 → MH → Prop} (H : F_X12_hand_30 d v0 v1 v2 v3 h u Q) : T u_X12_hand (d + 1) 30 [some (jR v0), some (jI v1), some (jI v2), some (jI v3)] [] h u (qI Q) := by
  unfold F_X12_hand_30 at H
  refine T_iload_n (pc := 30) dX12_hand_30 rfl rfl ?_
  refine T_iconst (pc := 31) (v := 0) dX12_hand_31 (by decide) ?_
  refine T_iconst (pc := 32) (v := 5) dX12_hand_32 (by decide) ?_
  refine T_invS (pc := 33) (av := [jI v1, jI 0, jI 5]) (rest := []) dX12_hand_33 mf_X12_in c_5_86 c_5_87 rfl (Nat.le_of_ble_eq_true rfl) rfl (iI_k (iI_mono (fun x1 h u H => ?_) H))
  refine T_if_ne (pc := 36) (tgt := 42) dX12_hand_36 (by decide) (fun hc => ?_) (fun hc => ?_)
  · rw [if_neg hc] at H
    refine T_aload_n (pc := 42) dX12_hand_42 rfl rfl ?_
    refine T_gR (pc := 43) fa_X12_60 dX12_hand_43 (gR_mono (fun x2 H => ?_) H)
    refine T_iload_n (pc := 46) dX12_hand_46 rfl rfl ?_
    refine T_iload_n (pc := 47) dX12_hand_47 rfl rfl ?_
    refine T_if_ge (pc := 48) (tgt := 56) dX12_hand_48 (by decide) (fun hc => ?_) (fun hc => ?_)
    · rw [if_pos hc] at H
      refine T_iload_n (pc := 56) dX12_hand_56 rfl rfl ?_
      refine T_if_eq (pc := 57) (tgt := 65) dX12_hand_57 (by decide) (fun hc => ?_) (fun hc => ?_)
      · rw [if_pos hc] at H
        refine T_bipush (pc := 65) (v := 8) dX12_hand_65 (by decide) ?_
        exact T.forget (E_X12_hand_67 H) ⟨rfl, rfl, rfl, trivial⟩
      · rw [if_neg hc] at H
        refine T_bipush (pc := 60) (v := 9) dX12_hand_60 (by decide) ?_
        refine T_goto (pc := 62) (tgt := 67) dX12_hand_62 (by decide) ?_
        exact T.forget (E_X12_hand_67 H) ⟨rfl, rfl, rfl, trivial⟩
    · rw [if_neg hc] at H
      refine T_bipush (pc := 51) (v := (-5)) dX12_hand_51 (by decide) ?_
      refine T_goto (pc := 53) (tgt := 67) dX12_hand_53 (by decide) ?_
      exact T.forget (E_X12_hand_67 H) ⟨rfl, rfl, rfl, trivial⟩
  · rw [if_pos hc] at H
    refine T_bipush (pc := 39) (v := (-2)) dX12_hand_39 (by decide) ?_
    exact T_ireturn (pc := 41) rfl rfl dX12_hand_41 H
def F_X12_hand (d : Nat) (v0 : Option Nm) (v1 : Int32) (v2 : Int32) (v3 : Int32) (h : MH) (u : Nat) (Q : Int32 → MH → Prop) : Prop :=
  if v2 = (-1) then
    F_X12_hand_30 d v0 v1 v2 v3 h u Q
  else
    if v3 = 0 then
      rc h v0 11 ∧ iI d u_X12_isValue [jR v0, jI v2] h u fun x1 h u =>
      if x1 = 0 then
        Q (-1) h
      else
        F_X12_hand_30 d v0 v1 v2 v3 h u Q
    else
      rc h v0 11 ∧ iI d u_X12_isRow [jR v0, jI v2] h u fun x2 h u =>
      if x2 = 0 then
        Q (-1) h
      else
        F_X12_hand_30 d v0 v1 v2 v3 h u Q
set_option maxRecDepth 20000 in
theorem E_X12_hand {d : Nat} {v0 : Option Nm} {v1 : Int32} {v2 : Int32} {v3 : Int32} {h : MH} {u : Nat} {Q : Int32 → MH → Prop} (H : F_X12_hand d v0 v1 v2 v3 h u Q) : T u_X12_hand (d + 1) 0 [some (jR v0), some (jI v1), some (jI v2), some (jI v3)] [] h u (qI Q) := by
  unfold F_X12_hand at H
  refine T_iload_n (pc := 0) dX12_hand_0 rfl rfl ?_
  refine T_iconst (pc := 1) (v := (-1)) dX12_hand_1 (by decide) ?_
  refine T_icmp_eq (pc := 2) (tgt := 30) dX12_hand_2 (by decide) (fun hc => ?_) (fun hc => ?_)
  · rw [if_pos hc] at H
    exact T.forget (E_X12_hand_30 H) ⟨rfl, rfl, rfl, rfl, trivial⟩
  · rw [if_neg hc] at H
    refine T_iload_n (pc := 5) dX12_hand_5 rfl rfl ?_
    refine T_if_eq (pc := 6) (tgt := 20) dX12_hand_6 (by decide) (fun hc => ?_) (fun hc => ?_)
    · rw [if_pos hc] at H
      refine T_aload_n (pc := 20) dX12_hand_20 rfl rfl ?_
      refine T_iload_n (pc := 21) dX12_hand_21 rfl rfl ?_
      obtain ⟨H0, H⟩ := H
      refine T_iV (pc := 22) (ci := 11) (av := [jI v2]) (rest := []) (o := v0) dX12_hand_22 mf_X12_isValue c_5_155 c_5_157 pr_X12_isValue rfl rfl (Nat.le_of_ble_eq_true rfl) rfl H0 (iI_k (iI_mono (fun x1 h u H => ?_) H))
      refine T_if_ne (pc := 25) (tgt := 30) dX12_hand_25 (by decide) (fun hc => ?_) (fun hc => ?_)
      · rw [if_neg hc] at H
        exact T.forget (E_X12_hand_30 H) ⟨rfl, rfl, rfl, rfl, trivial⟩
      · rw [if_pos hc] at H
        refine T_iconst (pc := 28) (v := (-1)) dX12_hand_28 (by decide) ?_
        exact T_ireturn (pc := 29) rfl rfl dX12_hand_29 H
    · rw [if_neg hc] at H
      refine T_aload_n (pc := 9) dX12_hand_9 rfl rfl ?_
      refine T_iload_n (pc := 10) dX12_hand_10 rfl rfl ?_
      obtain ⟨H0, H⟩ := H
      refine T_iV (pc := 11) (ci := 11) (av := [jI v2]) (rest := []) (o := v0) dX12_hand_11 mf_X12_isRow c_5_102 c_5_104 pr_X12_isRow rfl rfl (Nat.le_of_ble_eq_true rfl) rfl H0 (iI_k (iI_mono (fun x2 h u H => ?_) H))
      refine T_if_eq (pc := 14) (tgt := 28) dX12_hand_14 (by decide) (fun hc => ?_) (fun hc => ?_)
      · rw [if_pos hc] at H
        refine T_iconst (pc := 28) (v := (-1)) dX12_hand_28 (by decide) ?_
        exact T_ireturn (pc := 29) rfl rfl dX12_hand_29 H
      · rw [if_neg hc] at H
        refine T_goto (pc := 17) (tgt := 30) dX12_hand_17 (by decide) ?_
        exact T.forget (E_X12_hand_30 H) ⟨rfl, rfl, rfl, rfl, trivial⟩
theorem I_X12_hand {d : Nat} {v0 : Option Nm} {v1 : Int32} {v2 : Int32} {v3 : Int32} {h : MH} {u : Nat} {K : Int32 → MH → Nat → Prop} (u1 : Nat) (hu : u1 ≤ u) (H : F_X12_hand d v0 v1 v2 v3 h u1 (fun x h2 => K x h2 (u - u1))) : iI (d + 1) u_X12_hand [jR v0, jI v1, jI v2, jI v3] h u K := inv.of u1 hu (Ct.of (by decide +kernel) rfl (Nat.le_of_ble_eq_true rfl) rfl (E_X12_hand H))
theorem dX12_isValue_0 : decode cX12_isValue 0 = .ok (.iload_n 1, 1) := by decide +kernel
theorem dX12_isValue_1 : decode cX12_isValue 1 = .ok (.iconst 0, 1) := by decide +kernel
theorem dX12_isValue_2 : decode cX12_isValue 2 = .ok (.aload_n 0, 1) := by decide +kernel
theorem dX12_isValue_3 : decode cX12_isValue 3 = .ok (.getfield 215, 3) := by decide +kernel
theorem dX12_isValue_6 : decode cX12_isValue 6 = .ok (.iconst 1, 1) := by decide +kernel
theorem dX12_isValue_7 : decode cX12_isValue 7 = .ok (.isub, 1) := by decide +kernel
theorem dX12_isValue_8 : decode cX12_isValue 8 = .ok (.invokestatic 156, 3) := by decide +kernel
theorem dX12_isValue_11 : decode cX12_isValue 11 = .ok (.ireturn, 1) := by decide +kernel
def F_X12_isValue (d : Nat) (v0 : Option Nm) (v1 : Int32) (h : MH) (u : Nat) (Q : Int32 → MH → Prop) : Prop :=
  gI h v0 11 24 fun x1 =>
  iI d u_X12_in [jI v1, jI 0, jI (x1 - 1)] h u fun x2 h u =>
  nz x2 ∧ Q x2 h
set_option maxRecDepth 20000 in
theorem E_X12_isValue {d : Nat} {v0 : Option Nm} {v1 : Int32} {h : MH} {u : Nat} {Q : Int32 → MH → Prop} (H : F_X12_isValue d v0 v1 h u Q) : T u_X12_isValue (d + 1) 0 [some (jR v0), some (jI v1)] [] h u (qI Q) := by
  unfold F_X12_isValue at H
  refine T_iload_n (pc := 0) dX12_isValue_0 rfl rfl ?_
  refine T_iconst (pc := 1) (v := 0) dX12_isValue_1 (by decide) ?_
  refine T_aload_n (pc := 2) dX12_isValue_2 rfl rfl ?_
  refine T_gI (pc := 3) fa_X12_215 dX12_isValue_3 (gI_mono (fun x1 H => ?_) H)
  refine T_iconst (pc := 6) (v := 1) dX12_isValue_6 (by decide) ?_
  refine T_isub (pc := 7) dX12_isValue_7 ?_
  refine T_invS (pc := 8) (av := [jI v1, jI 0, jI (x1 - 1)]) (rest := []) dX12_isValue_8 mf_X12_in c_5_86 c_5_87 rfl (Nat.le_of_ble_eq_true rfl) rfl (iI_k (iI_mono (fun x2 h u H => ?_) H))
  exact T_ireturn (pc := 11) rfl (nz_nar H.1) dX12_isValue_11 H.2
theorem I_X12_isValue {d : Nat} {v0 : Option Nm} {v1 : Int32} {h : MH} {u : Nat} {K : Int32 → MH → Nat → Prop} (u1 : Nat) (hu : u1 ≤ u) (H : F_X12_isValue d v0 v1 h u1 (fun x h2 => K x h2 (u - u1))) : iI (d + 1) u_X12_isValue [jR v0, jI v1] h u K := inv.of u1 hu (Ct.of (by decide +kernel) rfl (Nat.le_of_ble_eq_true rfl) rfl (E_X12_isValue H))
theorem dX12_isConstant_0 : decode cX12_isConstant 0 = .ok (.aload_n 0, 1) := by decide +kernel
theorem dX12_isConstant_1 : decode cX12_isConstant 1 = .ok (.getfield 27, 3) := by decide +kernel
theorem dX12_isConstant_4 : decode cX12_isConstant 4 = .ok (.aload_n 0, 1) := by decide +kernel
theorem dX12_isConstant_5 : decode cX12_isConstant 5 = .ok (.getfield 66, 3) := by decide +kernel
theorem dX12_isConstant_8 : decode cX12_isConstant 8 = .ok (.iload_n 1, 1) := by decide +kernel
theorem dX12_isConstant_9 : decode cX12_isConstant 9 = .ok (.iaload, 1) := by decide +kernel
theorem dX12_isConstant_10 : decode cX12_isConstant 10 = .ok (.baload, 1) := by decide +kernel
theorem dX12_isConstant_11 : decode cX12_isConstant 11 = .ok (.ireturn, 1) := by decide +kernel
def F_X12_isConstant (d : Nat) (v0 : Option Nm) (v1 : Int32) (h : MH) (u : Nat) (Q : Int32 → MH → Prop) : Prop :=
  gR h v0 11 10 fun x1 =>
  gR h v0 11 25 fun x2 =>
  aI .int h x2 v1 fun x3 =>
  aI .boolean h x1 x3 fun x4 =>
  nz x4 ∧ Q x4 h
set_option maxRecDepth 20000 in
theorem E_X12_isConstant {d : Nat} {v0 : Option Nm} {v1 : Int32} {h : MH} {u : Nat} {Q : Int32 → MH → Prop} (H : F_X12_isConstant d v0 v1 h u Q) : T u_X12_isConstant d 0 [some (jR v0), some (jI v1)] [] h u (qI Q) := by
  unfold F_X12_isConstant at H
  refine T_aload_n (pc := 0) dX12_isConstant_0 rfl rfl ?_
  refine T_gR (pc := 1) fa_X12_27 dX12_isConstant_1 (gR_mono (fun x1 H => ?_) H)
  refine T_aload_n (pc := 4) dX12_isConstant_4 rfl rfl ?_
  refine T_gR (pc := 5) fa_X12_66 dX12_isConstant_5 (gR_mono (fun x2 H => ?_) H)
  refine T_iload_n (pc := 8) dX12_isConstant_8 rfl rfl ?_
  refine T_aI (pc := 9) dX12_isConstant_9 (aI_mono (fun x3 H => ?_) H)
  refine T_aZ (pc := 10) dX12_isConstant_10 (aI_mono (fun x4 H => ?_) H)
  exact T_ireturn (pc := 11) rfl (nz_nar H.1) dX12_isConstant_11 H.2
theorem I_X12_isConstant {d : Nat} {v0 : Option Nm} {v1 : Int32} {h : MH} {u : Nat} {K : Int32 → MH → Nat → Prop} (u1 : Nat) (hu : u1 ≤ u) (H : F_X12_isConstant d v0 v1 h u1 (fun x h2 => K x h2 (u - u1))) : iI d u_X12_isConstant [jR v0, jI v1] h u K := inv.of u1 hu (Ct.of (by decide +kernel) rfl (Nat.le_of_ble_eq_true rfl) rfl (E_X12_isConstant H))
theorem dX12_editionOf_0 : decode cX12_editionOf 0 = .ok (.iconst 4, 1) := by decide +kernel
theorem dX12_editionOf_1 : decode cX12_editionOf 1 = .ok (.aload_n 0, 1) := by decide +kernel
theorem dX12_editionOf_2 : decode cX12_editionOf 2 = .ok (.getfield 66, 3) := by decide +kernel
theorem dX12_editionOf_5 : decode cX12_editionOf 5 = .ok (.iload_n 1, 1) := by decide +kernel
theorem dX12_editionOf_6 : decode cX12_editionOf 6 = .ok (.iaload, 1) := by decide +kernel
theorem dX12_editionOf_7 : decode cX12_editionOf 7 = .ok (.imul, 1) := by decide +kernel
theorem dX12_editionOf_8 : decode cX12_editionOf 8 = .ok (.aload_n 0, 1) := by decide +kernel
theorem dX12_editionOf_9 : decode cX12_editionOf 9 = .ok (.getfield 69, 3) := by decide +kernel
theorem dX12_editionOf_12 : decode cX12_editionOf 12 = .ok (.iload_n 1, 1) := by decide +kernel
theorem dX12_editionOf_13 : decode cX12_editionOf 13 = .ok (.iaload, 1) := by decide +kernel
theorem dX12_editionOf_14 : decode cX12_editionOf 14 = .ok (.iadd, 1) := by decide +kernel
theorem dX12_editionOf_15 : decode cX12_editionOf 15 = .ok (.ireturn, 1) := by decide +kernel
def F_X12_editionOf (d : Nat) (v0 : Option Nm) (v1 : Int32) (h : MH) (u : Nat) (Q : Int32 → MH → Prop) : Prop :=
  gR h v0 11 25 fun x1 =>
  aI .int h x1 v1 fun x2 =>
  gR h v0 11 26 fun x3 =>
  aI .int h x3 v1 fun x4 =>
  Q ((4 * x2) + x4) h
set_option maxRecDepth 20000 in
theorem E_X12_editionOf {d : Nat} {v0 : Option Nm} {v1 : Int32} {h : MH} {u : Nat} {Q : Int32 → MH → Prop} (H : F_X12_editionOf d v0 v1 h u Q) : T u_X12_editionOf d 0 [some (jR v0), some (jI v1)] [] h u (qI Q) := by
  unfold F_X12_editionOf at H
  refine T_iconst (pc := 0) (v := 4) dX12_editionOf_0 (by decide) ?_
  refine T_aload_n (pc := 1) dX12_editionOf_1 rfl rfl ?_
  refine T_gR (pc := 2) fa_X12_66 dX12_editionOf_2 (gR_mono (fun x1 H => ?_) H)
  refine T_iload_n (pc := 5) dX12_editionOf_5 rfl rfl ?_
  refine T_aI (pc := 6) dX12_editionOf_6 (aI_mono (fun x2 H => ?_) H)
  refine T_imul (pc := 7) dX12_editionOf_7 ?_
  refine T_aload_n (pc := 8) dX12_editionOf_8 rfl rfl ?_
  refine T_gR (pc := 9) fa_X12_69 dX12_editionOf_9 (gR_mono (fun x3 H => ?_) H)
  refine T_iload_n (pc := 12) dX12_editionOf_12 rfl rfl ?_
  refine T_aI (pc := 13) dX12_editionOf_13 (aI_mono (fun x4 H => ?_) H)
  refine T_iadd (pc := 14) dX12_editionOf_14 ?_
  exact T_ireturn (pc := 15) rfl rfl dX12_editionOf_15 H
theorem I_X12_editionOf {d : Nat} {v0 : Option Nm} {v1 : Int32} {h : MH} {u : Nat} {K : Int32 → MH → Nat → Prop} (u1 : Nat) (hu : u1 ≤ u) (H : F_X12_editionOf d v0 v1 h u1 (fun x h2 => K x h2 (u - u1))) : iI d u_X12_editionOf [jR v0, jI v1] h u K := inv.of u1 hu (Ct.of (by decide +kernel) rfl (Nat.le_of_ble_eq_true rfl) rfl (E_X12_editionOf H))
theorem dX12_laneOf_0 : decode cX12_laneOf 0 = .ok (.aload_n 0, 1) := by decide +kernel
theorem dX12_laneOf_1 : decode cX12_laneOf 1 = .ok (.getfield 48, 3) := by decide +kernel
theorem dX12_laneOf_4 : decode cX12_laneOf 4 = .ok (.bipush 8, 2) := by decide +kernel
theorem dX12_laneOf_6 : decode cX12_laneOf 6 = .ok (.aload_n 0, 1) := by decide +kernel
theorem dX12_laneOf_7 : decode cX12_laneOf 7 = .ok (.iload_n 1, 1) := by decide +kernel
theorem dX12_laneOf_8 : decode cX12_laneOf 8 = .ok (.invokevirtual 231, 3) := by decide +kernel
theorem dX12_laneOf_11 : decode cX12_laneOf 11 = .ok (.imul, 1) := by decide +kernel
theorem dX12_laneOf_12 : decode cX12_laneOf 12 = .ok (.iload_n 2, 1) := by decide +kernel
theorem dX12_laneOf_13 : decode cX12_laneOf 13 = .ok (.iadd, 1) := by decide +kernel
theorem dX12_laneOf_14 : decode cX12_laneOf 14 = .ok (.iaload, 1) := by decide +kernel
theorem dX12_laneOf_15 : decode cX12_laneOf 15 = .ok (.ireturn, 1) := by decide +kernel
def F_X12_laneOf (d : Nat) (v0 : Option Nm) (v1 : Int32) (v2 : Int32) (h : MH) (u : Nat) (Q : Int32 → MH → Prop) : Prop :=
  gR h v0 11 17 fun x1 =>
  rc h v0 11 ∧ iI d u_X12_editionOf [jR v0, jI v1] h u fun x2 h u =>
  aI .int h x1 ((8 * x2) + v2) fun x3 =>
  Q x3 h
set_option maxRecDepth 20000 in
theorem E_X12_laneOf {d : Nat} {v0 : Option Nm} {v1 : Int32} {v2 : Int32} {h : MH} {u : Nat} {Q : Int32 → MH → Prop} (H : F_X12_laneOf d v0 v1 v2 h u Q) : T u_X12_laneOf (d + 1) 0 [some (jR v0), some (jI v1), some (jI v2)] [] h u (qI Q) := by
  unfold F_X12_laneOf at H
  refine T_aload_n (pc := 0) dX12_laneOf_0 rfl rfl ?_
  refine T_gR (pc := 1) fa_X12_48 dX12_laneOf_1 (gR_mono (fun x1 H => ?_) H)
  refine T_bipush (pc := 4) (v := 8) dX12_laneOf_4 (by decide) ?_
  refine T_aload_n (pc := 6) dX12_laneOf_6 rfl rfl ?_
  refine T_iload_n (pc := 7) dX12_laneOf_7 rfl rfl ?_
  obtain ⟨H0, H⟩ := H
  refine T_iV (pc := 8) (ci := 11) (av := [jI v1]) (rest := [jI 8, jR x1]) (o := v0) dX12_laneOf_8 mf_X12_editionOf c_6_42 c_6_44 pr_X12_editionOf rfl rfl (Nat.le_of_ble_eq_true rfl) rfl H0 (iI_k (iI_mono (fun x2 h u H => ?_) H))
  refine T_imul (pc := 11) dX12_laneOf_11 ?_
  refine T_iload_n (pc := 12) dX12_laneOf_12 rfl rfl ?_
  refine T_iadd (pc := 13) dX12_laneOf_13 ?_
  refine T_aI (pc := 14) dX12_laneOf_14 (aI_mono (fun x3 H => ?_) H)
  exact T_ireturn (pc := 15) rfl rfl dX12_laneOf_15 H
theorem I_X12_laneOf {d : Nat} {v0 : Option Nm} {v1 : Int32} {v2 : Int32} {h : MH} {u : Nat} {K : Int32 → MH → Nat → Prop} (u1 : Nat) (hu : u1 ≤ u) (H : F_X12_laneOf d v0 v1 v2 h u1 (fun x h2 => K x h2 (u - u1))) : iI (d + 1) u_X12_laneOf [jR v0, jI v1, jI v2] h u K := inv.of u1 hu (Ct.of (by decide +kernel) rfl (Nat.le_of_ble_eq_true rfl) rfl (E_X12_laneOf H))
theorem dX12_partsOf_0 : decode cX12_partsOf 0 = .ok (.aload_n 0, 1) := by decide +kernel
theorem dX12_partsOf_1 : decode cX12_partsOf 1 = .ok (.getfield 42, 3) := by decide +kernel
theorem dX12_partsOf_4 : decode cX12_partsOf 4 = .ok (.aload_n 0, 1) := by decide +kernel
theorem dX12_partsOf_5 : decode cX12_partsOf 5 = .ok (.iload_n 1, 1) := by decide +kernel
theorem dX12_partsOf_6 : decode cX12_partsOf 6 = .ok (.invokevirtual 231, 3) := by decide +kernel
theorem dX12_partsOf_9 : decode cX12_partsOf 9 = .ok (.iaload, 1) := by decide +kernel
theorem dX12_partsOf_10 : decode cX12_partsOf 10 = .ok (.ireturn, 1) := by decide +kernel
def F_X12_partsOf (d : Nat) (v0 : Option Nm) (v1 : Int32) (h : MH) (u : Nat) (Q : Int32 → MH → Prop) : Prop :=
  gR h v0 11 15 fun x1 =>
  rc h v0 11 ∧ iI d u_X12_editionOf [jR v0, jI v1] h u fun x2 h u =>
  aI .int h x1 x2 fun x3 =>
  Q x3 h
set_option maxRecDepth 20000 in
theorem E_X12_partsOf {d : Nat} {v0 : Option Nm} {v1 : Int32} {h : MH} {u : Nat} {Q : Int32 → MH → Prop} (H : F_X12_partsOf d v0 v1 h u Q) : T u_X12_partsOf (d + 1) 0 [some (jR v0), some (jI v1)] [] h u (qI Q) := by
  unfold F_X12_partsOf at H
  refine T_aload_n (pc := 0) dX12_partsOf_0 rfl rfl ?_
  refine T_gR (pc := 1) fa_X12_42 dX12_partsOf_1 (gR_mono (fun x1 H => ?_) H)
  refine T_aload_n (pc := 4) dX12_partsOf_4 rfl rfl ?_
  refine T_iload_n (pc := 5) dX12_partsOf_5 rfl rfl ?_
  obtain ⟨H0, H⟩ := H
  refine T_iV (pc := 6) (ci := 11) (av := [jI v1]) (rest := [jR x1]) (o := v0) dX12_partsOf_6 mf_X12_editionOf c_6_42 c_6_44 pr_X12_editionOf rfl rfl (Nat.le_of_ble_eq_true rfl) rfl H0 (iI_k (iI_mono (fun x2 h u H => ?_) H))
  refine T_aI (pc := 9) dX12_partsOf_9 (aI_mono (fun x3 H => ?_) H)
  exact T_ireturn (pc := 10) rfl rfl dX12_partsOf_10 H
theorem I_X12_partsOf {d : Nat} {v0 : Option Nm} {v1 : Int32} {h : MH} {u : Nat} {K : Int32 → MH → Nat → Prop} (u1 : Nat) (hu : u1 ≤ u) (H : F_X12_partsOf d v0 v1 h u1 (fun x h2 => K x h2 (u - u1))) : iI (d + 1) u_X12_partsOf [jR v0, jI v1] h u K := inv.of u1 hu (Ct.of (by decide +kernel) rfl (Nat.le_of_ble_eq_true rfl) rfl (E_X12_partsOf H))
theorem dX12_newValue_0 : decode cX12_newValue 0 = .ok (.aload_n 0, 1) := by decide +kernel
theorem dX12_newValue_1 : decode cX12_newValue 1 = .ok (.getfield 66, 3) := by decide +kernel
theorem dX12_newValue_4 : decode cX12_newValue 4 = .ok (.aload_n 0, 1) := by decide +kernel
theorem dX12_newValue_5 : decode cX12_newValue 5 = .ok (.getfield 215, 3) := by decide +kernel
theorem dX12_newValue_8 : decode cX12_newValue 8 = .ok (.iload_n 1, 1) := by decide +kernel
theorem dX12_newValue_9 : decode cX12_newValue 9 = .ok (.iastore, 1) := by decide +kernel
theorem dX12_newValue_10 : decode cX12_newValue 10 = .ok (.aload_n 0, 1) := by decide +kernel
theorem dX12_newValue_11 : decode cX12_newValue 11 = .ok (.getfield 69, 3) := by decide +kernel
theorem dX12_newValue_14 : decode cX12_newValue 14 = .ok (.aload_n 0, 1) := by decide +kernel
theorem dX12_newValue_15 : decode cX12_newValue 15 = .ok (.getfield 215, 3) := by decide +kernel
theorem dX12_newValue_18 : decode cX12_newValue 18 = .ok (.aload_n 0, 1) := by decide +kernel
theorem dX12_newValue_19 : decode cX12_newValue 19 = .ok (.getfield 36, 3) := by decide +kernel
theorem dX12_newValue_22 : decode cX12_newValue 22 = .ok (.iload_n 1, 1) := by decide +kernel
theorem dX12_newValue_23 : decode cX12_newValue 23 = .ok (.iaload, 1) := by decide +kernel
theorem dX12_newValue_24 : decode cX12_newValue 24 = .ok (.iastore, 1) := by decide +kernel
theorem dX12_newValue_25 : decode cX12_newValue 25 = .ok (.aload_n 0, 1) := by decide +kernel
theorem dX12_newValue_26 : decode cX12_newValue 26 = .ok (.getfield 72, 3) := by decide +kernel
theorem dX12_newValue_29 : decode cX12_newValue 29 = .ok (.aload_n 0, 1) := by decide +kernel
theorem dX12_newValue_30 : decode cX12_newValue 30 = .ok (.getfield 215, 3) := by decide +kernel
theorem dX12_newValue_33 : decode cX12_newValue 33 = .ok (.aload_n 0, 1) := by decide +kernel
theorem dX12_newValue_34 : decode cX12_newValue 34 = .ok (.getfield 39, 3) := by decide +kernel
theorem dX12_newValue_37 : decode cX12_newValue 37 = .ok (.iload_n 1, 1) := by decide +kernel
theorem dX12_newValue_38 : decode cX12_newValue 38 = .ok (.iaload, 1) := by decide +kernel
theorem dX12_newValue_39 : decode cX12_newValue 39 = .ok (.iastore, 1) := by decide +kernel
theorem dX12_newValue_40 : decode cX12_newValue 40 = .ok (.aload_n 0, 1) := by decide +kernel
theorem dX12_newValue_41 : decode cX12_newValue 41 = .ok (.getfield 39, 3) := by decide +kernel
theorem dX12_newValue_44 : decode cX12_newValue 44 = .ok (.iload_n 1, 1) := by decide +kernel
theorem dX12_newValue_45 : decode cX12_newValue 45 = .ok (.dup2, 1) := by decide +kernel
theorem dX12_newValue_46 : decode cX12_newValue 46 = .ok (.iaload, 1) := by decide +kernel
theorem dX12_newValue_47 : decode cX12_newValue 47 = .ok (.iconst 1, 1) := by decide +kernel
theorem dX12_newValue_48 : decode cX12_newValue 48 = .ok (.iadd, 1) := by decide +kernel
theorem dX12_newValue_49 : decode cX12_newValue 49 = .ok (.iastore, 1) := by decide +kernel
theorem dX12_newValue_50 : decode cX12_newValue 50 = .ok (.aload_n 0, 1) := by decide +kernel
theorem dX12_newValue_51 : decode cX12_newValue 51 = .ok (.dup, 1) := by decide +kernel
theorem dX12_newValue_52 : decode cX12_newValue 52 = .ok (.getfield 215, 3) := by decide +kernel
theorem dX12_newValue_55 : decode cX12_newValue 55 = .ok (.iconst 1, 1) := by decide +kernel
theorem dX12_newValue_56 : decode cX12_newValue 56 = .ok (.iadd, 1) := by decide +kernel
theorem dX12_newValue_57 : decode cX12_newValue 57 = .ok (.putfield 215, 3) := by decide +kernel
theorem dX12_newValue_60 : decode cX12_newValue 60 = .ok (.aload_n 0, 1) := by decide +kernel
theorem dX12_newValue_61 : decode cX12_newValue 61 = .ok (.getfield 215, 3) := by decide +kernel
theorem dX12_newValue_64 : decode cX12_newValue 64 = .ok (.iconst 1, 1) := by decide +kernel
theorem dX12_newValue_65 : decode cX12_newValue 65 = .ok (.isub, 1) := by decide +kernel
theorem dX12_newValue_66 : decode cX12_newValue 66 = .ok (.ireturn, 1) := by decide +kernel
def F_X12_newValue (d : Nat) (v0 : Option Nm) (v1 : Int32) (h : MH) (u : Nat) (Q : Int32 → MH → Prop) : Prop :=
  gR h v0 11 25 fun x1 =>
  gI h v0 11 24 fun x2 =>
  sV .int h x1 x2 (jI v1) fun h =>
  gR h v0 11 26 fun x3 =>
  gI h v0 11 24 fun x4 =>
  gR h v0 11 13 fun x5 =>
  aI .int h x5 v1 fun x6 =>
  sV .int h x3 x4 (jI x6) fun h =>
  gR h v0 11 27 fun x7 =>
  gI h v0 11 24 fun x8 =>
  gR h v0 11 14 fun x9 =>
  aI .int h x9 v1 fun x10 =>
  sV .int h x7 x8 (jI x10) fun h =>
  gR h v0 11 14 fun x11 =>
  aI .int h x11 v1 fun x12 =>
  sV .int h x11 v1 (jI (x12 + 1)) fun h =>
  gI h v0 11 24 fun x13 =>
  pV h v0 11 24 (jI (x13 + 1)) fun h =>
  gI h v0 11 24 fun x14 =>
  Q (x14 - 1) h
set_option maxRecDepth 20000 in
theorem E_X12_newValue {d : Nat} {v0 : Option Nm} {v1 : Int32} {h : MH} {u : Nat} {Q : Int32 → MH → Prop} (H : F_X12_newValue d v0 v1 h u Q) : T u_X12_newValue d 0 [some (jR v0), some (jI v1)] [] h u (qI Q) := by
  unfold F_X12_newValue at H
  refine T_aload_n (pc := 0) dX12_newValue_0 rfl rfl ?_
  refine T_gR (pc := 1) fa_X12_66 dX12_newValue_1 (gR_mono (fun x1 H => ?_) H)
  refine T_aload_n (pc := 4) dX12_newValue_4 rfl rfl ?_
  refine T_gI (pc := 5) fa_X12_215 dX12_newValue_5 (gI_mono (fun x2 H => ?_) H)
  refine T_iload_n (pc := 8) dX12_newValue_8 rfl rfl ?_
  refine T_sI (pc := 9) dX12_newValue_9 (sV_mono (fun h H => ?_) H)
  refine T_aload_n (pc := 10) dX12_newValue_10 rfl rfl ?_
  refine T_gR (pc := 11) fa_X12_69 dX12_newValue_11 (gR_mono (fun x3 H => ?_) H)
  refine T_aload_n (pc := 14) dX12_newValue_14 rfl rfl ?_
  refine T_gI (pc := 15) fa_X12_215 dX12_newValue_15 (gI_mono (fun x4 H => ?_) H)
  refine T_aload_n (pc := 18) dX12_newValue_18 rfl rfl ?_
  refine T_gR (pc := 19) fa_X12_36 dX12_newValue_19 (gR_mono (fun x5 H => ?_) H)
  refine T_iload_n (pc := 22) dX12_newValue_22 rfl rfl ?_
  refine T_aI (pc := 23) dX12_newValue_23 (aI_mono (fun x6 H => ?_) H)
  refine T_sI (pc := 24) dX12_newValue_24 (sV_mono (fun h H => ?_) H)
  refine T_aload_n (pc := 25) dX12_newValue_25 rfl rfl ?_
  refine T_gR (pc := 26) fa_X12_72 dX12_newValue_26 (gR_mono (fun x7 H => ?_) H)
  refine T_aload_n (pc := 29) dX12_newValue_29 rfl rfl ?_
  refine T_gI (pc := 30) fa_X12_215 dX12_newValue_30 (gI_mono (fun x8 H => ?_) H)
  refine T_aload_n (pc := 33) dX12_newValue_33 rfl rfl ?_
  refine T_gR (pc := 34) fa_X12_39 dX12_newValue_34 (gR_mono (fun x9 H => ?_) H)
  refine T_iload_n (pc := 37) dX12_newValue_37 rfl rfl ?_
  refine T_aI (pc := 38) dX12_newValue_38 (aI_mono (fun x10 H => ?_) H)
  refine T_sI (pc := 39) dX12_newValue_39 (sV_mono (fun h H => ?_) H)
  refine T_aload_n (pc := 40) dX12_newValue_40 rfl rfl ?_
  refine T_gR (pc := 41) fa_X12_39 dX12_newValue_41 (gR_mono (fun x11 H => ?_) H)
  refine T_iload_n (pc := 44) dX12_newValue_44 rfl rfl ?_
  refine T_dup2 (pc := 45) rfl rfl dX12_newValue_45 ?_
  refine T_aI (pc := 46) dX12_newValue_46 (aI_mono (fun x12 H => ?_) H)
  refine T_iconst (pc := 47) (v := 1) dX12_newValue_47 (by decide) ?_
  refine T_iadd (pc := 48) dX12_newValue_48 ?_
  refine T_sI (pc := 49) dX12_newValue_49 (sV_mono (fun h H => ?_) H)
  refine T_aload_n (pc := 50) dX12_newValue_50 rfl rfl ?_
  refine T_dup (pc := 51) rfl dX12_newValue_51 ?_
  refine T_gI (pc := 52) fa_X12_215 dX12_newValue_52 (gI_mono (fun x13 H => ?_) H)
  refine T_iconst (pc := 55) (v := 1) dX12_newValue_55 (by decide) ?_
  refine T_iadd (pc := 56) dX12_newValue_56 ?_
  refine T_pV (pc := 57) fa_X12_215 dX12_newValue_57 trivial (pV_mono (fun h H => ?_) H)
  refine T_aload_n (pc := 60) dX12_newValue_60 rfl rfl ?_
  refine T_gI (pc := 61) fa_X12_215 dX12_newValue_61 (gI_mono (fun x14 H => ?_) H)
  refine T_iconst (pc := 64) (v := 1) dX12_newValue_64 (by decide) ?_
  refine T_isub (pc := 65) dX12_newValue_65 ?_
  exact T_ireturn (pc := 66) rfl rfl dX12_newValue_66 H
theorem I_X12_newValue {d : Nat} {v0 : Option Nm} {v1 : Int32} {h : MH} {u : Nat} {K : Int32 → MH → Nat → Prop} (u1 : Nat) (hu : u1 ≤ u) (H : F_X12_newValue d v0 v1 h u1 (fun x h2 => K x h2 (u - u1))) : iI d u_X12_newValue [jR v0, jI v1] h u K := inv.of u1 hu (Ct.of (by decide +kernel) rfl (Nat.le_of_ble_eq_true rfl) rfl (E_X12_newValue H))
theorem dX12_isTwinned_0 : decode cX12_isTwinned 0 = .ok (.iload_n 2, 1) := by decide +kernel
theorem dX12_isTwinned_1 : decode cX12_isTwinned 1 = .ok (.ifCond .lt 37, 3) := by decide +kernel
theorem dX12_isTwinned_4 : decode cX12_isTwinned 4 = .ok (.aload_n 0, 1) := by decide +kernel
theorem dX12_isTwinned_5 : decode cX12_isTwinned 5 = .ok (.getfield 16, 3) := by decide +kernel
theorem dX12_isTwinned_8 : decode cX12_isTwinned 8 = .ok (.iload_n 2, 1) := by decide +kernel
theorem dX12_isTwinned_9 : decode cX12_isTwinned 9 = .ok (.baload, 1) := by decide +kernel
theorem dX12_isTwinned_10 : decode cX12_isTwinned 10 = .ok (.ifCond .ne 28, 3) := by decide +kernel
theorem dX12_isTwinned_13 : decode cX12_isTwinned 13 = .ok (.aload_n 0, 1) := by decide +kernel
theorem dX12_isTwinned_14 : decode cX12_isTwinned 14 = .ok (.getfield 7, 3) := by decide +kernel
theorem dX12_isTwinned_17 : decode cX12_isTwinned 17 = .ok (.iload_n 2, 1) := by decide +kernel
theorem dX12_isTwinned_18 : decode cX12_isTwinned 18 = .ok (.iaload, 1) := by decide +kernel
theorem dX12_isTwinned_19 : decode cX12_isTwinned 19 = .ok (.bipush 8, 2) := by decide +kernel
theorem dX12_isTwinned_21 : decode cX12_isTwinned 21 = .ok (.if_icmp .eq 13, 3) := by decide +kernel
theorem dX12_isTwinned_24 : decode cX12_isTwinned 24 = .ok (.aload_n 0, 1) := by decide +kernel
theorem dX12_isTwinned_25 : decode cX12_isTwinned 25 = .ok (.getfield 30, 3) := by decide +kernel
theorem dX12_isTwinned_28 : decode cX12_isTwinned 28 = .ok (.iload_n 1, 1) := by decide +kernel
theorem dX12_isTwinned_29 : decode cX12_isTwinned 29 = .ok (.iaload, 1) := by decide +kernel
theorem dX12_isTwinned_30 : decode cX12_isTwinned 30 = .ok (.iconst 4, 1) := by decide +kernel
theorem dX12_isTwinned_31 : decode cX12_isTwinned 31 = .ok (.if_icmp .ne 7, 3) := by decide +kernel
theorem dX12_isTwinned_34 : decode cX12_isTwinned 34 = .ok (.iconst 1, 1) := by decide +kernel
theorem dX12_isTwinned_35 : decode cX12_isTwinned 35 = .ok (.goto 4, 3) := by decide +kernel
theorem dX12_isTwinned_38 : decode cX12_isTwinned 38 = .ok (.iconst 0, 1) := by decide +kernel
theorem dX12_isTwinned_39 : decode cX12_isTwinned 39 = .ok (.ireturn, 1) := by decide +kernel
def F_X12_isTwinned (d : Nat) (v0 : Option Nm) (v1 : Int32) (v2 : Int32) (h : MH) (u : Nat) (Q : Int32 → MH → Prop) : Prop :=
  if v2 < 0 then
    nz 0 ∧ Q 0 h
  else
    gR h v0 11 6 fun x1 =>
    aI .boolean h x1 v2 fun x2 =>
    if x2 = 0 then
      gR h v0 11 4 fun x3 =>
      aI .int h x3 v2 fun x4 =>
      if x4 = 8 then
        nz 1 ∧ Q 1 h
      else
        gR h v0 11 11 fun x5 =>
        aI .int h x5 v1 fun x6 =>
        if x6 = 4 then
          nz 1 ∧ Q 1 h
        else
          nz 0 ∧ Q 0 h
    else
      nz 0 ∧ Q 0 h
set_option maxRecDepth 20000 in
theorem E_X12_isTwinned {d : Nat} {v0 : Option Nm} {v1 : Int32} {v2 : Int32} {h : MH} {u : Nat} {Q : Int32 → MH → Prop} (H : F_X12_isTwinned d v0 v1 v2 h u Q) : T u_X12_isTwinned d 0 [some (jR v0), some (jI v1), some (jI v2)] [] h u (qI Q) := by
  unfold F_X12_isTwinned at H
  refine T_iload_n (pc := 0) dX12_isTwinned_0 rfl rfl ?_
  refine T_if_lt (pc := 1) (tgt := 38) dX12_isTwinned_1 (by decide) (fun hc => ?_) (fun hc => ?_)
  · rw [if_pos hc] at H
    refine T_iconst (pc := 38) (v := 0) dX12_isTwinned_38 (by decide) ?_
    exact T_ireturn (pc := 39) rfl (nz_nar H.1) dX12_isTwinned_39 H.2
  · rw [if_neg hc] at H
    refine T_aload_n (pc := 4) dX12_isTwinned_4 rfl rfl ?_
    refine T_gR (pc := 5) fa_X12_16 dX12_isTwinned_5 (gR_mono (fun x1 H => ?_) H)
    refine T_iload_n (pc := 8) dX12_isTwinned_8 rfl rfl ?_
    refine T_aZ (pc := 9) dX12_isTwinned_9 (aI_mono (fun x2 H => ?_) H)
    refine T_if_ne (pc := 10) (tgt := 38) dX12_isTwinned_10 (by decide) (fun hc => ?_) (fun hc => ?_)
    · rw [if_neg hc] at H
      refine T_iconst (pc := 38) (v := 0) dX12_isTwinned_38 (by decide) ?_
      exact T_ireturn (pc := 39) rfl (nz_nar H.1) dX12_isTwinned_39 H.2
    · rw [if_pos hc] at H
      refine T_aload_n (pc := 13) dX12_isTwinned_13 rfl rfl ?_
      refine T_gR (pc := 14) fa_X12_7 dX12_isTwinned_14 (gR_mono (fun x3 H => ?_) H)
      refine T_iload_n (pc := 17) dX12_isTwinned_17 rfl rfl ?_
      refine T_aI (pc := 18) dX12_isTwinned_18 (aI_mono (fun x4 H => ?_) H)
      refine T_bipush (pc := 19) (v := 8) dX12_isTwinned_19 (by decide) ?_
      refine T_icmp_eq (pc := 21) (tgt := 34) dX12_isTwinned_21 (by decide) (fun hc => ?_) (fun hc => ?_)
      · rw [if_pos hc] at H
        refine T_iconst (pc := 34) (v := 1) dX12_isTwinned_34 (by decide) ?_
        refine T_goto (pc := 35) (tgt := 39) dX12_isTwinned_35 (by decide) ?_
        exact T_ireturn (pc := 39) rfl (nz_nar H.1) dX12_isTwinned_39 H.2
      · rw [if_neg hc] at H
        refine T_aload_n (pc := 24) dX12_isTwinned_24 rfl rfl ?_
        refine T_gR (pc := 25) fa_X12_30 dX12_isTwinned_25 (gR_mono (fun x5 H => ?_) H)
        refine T_iload_n (pc := 28) dX12_isTwinned_28 rfl rfl ?_
        refine T_aI (pc := 29) dX12_isTwinned_29 (aI_mono (fun x6 H => ?_) H)
        refine T_iconst (pc := 30) (v := 4) dX12_isTwinned_30 (by decide) ?_
        refine T_icmp_ne (pc := 31) (tgt := 38) dX12_isTwinned_31 (by decide) (fun hc => ?_) (fun hc => ?_)
        · rw [if_neg hc] at H
          refine T_iconst (pc := 38) (v := 0) dX12_isTwinned_38 (by decide) ?_
          exact T_ireturn (pc := 39) rfl (nz_nar H.1) dX12_isTwinned_39 H.2
        · rw [if_pos hc] at H
          refine T_iconst (pc := 34) (v := 1) dX12_isTwinned_34 (by decide) ?_
          refine T_goto (pc := 35) (tgt := 39) dX12_isTwinned_35 (by decide) ?_
          exact T_ireturn (pc := 39) rfl (nz_nar H.1) dX12_isTwinned_39 H.2
theorem I_X12_isTwinned {d : Nat} {v0 : Option Nm} {v1 : Int32} {v2 : Int32} {h : MH} {u : Nat} {K : Int32 → MH → Nat → Prop} (u1 : Nat) (hu : u1 ≤ u) (H : F_X12_isTwinned d v0 v1 v2 h u1 (fun x h2 => K x h2 (u - u1))) : iI d u_X12_isTwinned [jR v0, jI v1, jI v2] h u K := inv.of u1 hu (Ct.of (by decide +kernel) rfl (Nat.le_of_ble_eq_true rfl) rfl (E_X12_isTwinned H))
theorem dX12_breaks_0 : decode cX12_breaks 0 = .ok (.aload_n 0, 1) := by decide +kernel
theorem dX12_breaks_1 : decode cX12_breaks 1 = .ok (.getfield 30, 3) := by decide +kernel
theorem dX12_breaks_4 : decode cX12_breaks 4 = .ok (.iload_n 1, 1) := by decide +kernel
theorem dX12_breaks_5 : decode cX12_breaks 5 = .ok (.iaload, 1) := by decide +kernel
theorem dX12_breaks_6 : decode cX12_breaks 6 = .ok (.istore_n 3, 1) := by decide +kernel
theorem dX12_breaks_7 : decode cX12_breaks 7 = .ok (.iload_n 3, 1) := by decide +kernel
theorem dX12_breaks_8 : decode cX12_breaks 8 = .ok (.iconst 3, 1) := by decide +kernel
theorem dX12_breaks_9 : decode cX12_breaks 9 = .ok (.if_icmp .ne 70, 3) := by decide +kernel
theorem dX12_breaks_12 : decode cX12_breaks 12 = .ok (.iconst 0, 1) := by decide +kernel
theorem dX12_breaks_13 : decode cX12_breaks 13 = .ok (.istore 4, 2) := by decide +kernel
theorem dX12_breaks_15 : decode cX12_breaks 15 = .ok (.iconst 0, 1) := by decide +kernel
theorem dX12_breaks_16 : decode cX12_breaks 16 = .ok (.istore 5, 2) := by decide +kernel
theorem dX12_breaks_18 : decode cX12_breaks 18 = .ok (.iload 5, 2) := by decide +kernel
theorem dX12_breaks_20 : decode cX12_breaks 20 = .ok (.aload_n 0, 1) := by decide +kernel
theorem dX12_breaks_21 : decode cX12_breaks 21 = .ok (.getfield 42, 3) := by decide +kernel
theorem dX12_breaks_24 : decode cX12_breaks 24 = .ok (.iload_n 2, 1) := by decide +kernel
theorem dX12_breaks_25 : decode cX12_breaks 25 = .ok (.iaload, 1) := by decide +kernel
theorem dX12_breaks_26 : decode cX12_breaks 26 = .ok (.if_icmp .ge 50, 3) := by decide +kernel
theorem dX12_breaks_29 : decode cX12_breaks 29 = .ok (.iload 4, 2) := by decide +kernel
theorem dX12_breaks_31 : decode cX12_breaks 31 = .ok (.ifCond .ne 32, 3) := by decide +kernel
theorem dX12_breaks_34 : decode cX12_breaks 34 = .ok (.aload_n 0, 1) := by decide +kernel
theorem dX12_breaks_35 : decode cX12_breaks 35 = .ok (.getfield 48, 3) := by decide +kernel
theorem dX12_breaks_38 : decode cX12_breaks 38 = .ok (.bipush 8, 2) := by decide +kernel
theorem dX12_breaks_40 : decode cX12_breaks 40 = .ok (.iload_n 2, 1) := by decide +kernel
theorem dX12_breaks_41 : decode cX12_breaks 41 = .ok (.imul, 1) := by decide +kernel
theorem dX12_breaks_42 : decode cX12_breaks 42 = .ok (.iload 5, 2) := by decide +kernel
theorem dX12_breaks_44 : decode cX12_breaks 44 = .ok (.iadd, 1) := by decide +kernel
theorem dX12_breaks_45 : decode cX12_breaks 45 = .ok (.iaload, 1) := by decide +kernel
theorem dX12_breaks_46 : decode cX12_breaks 46 = .ok (.bipush 8, 2) := by decide +kernel
theorem dX12_breaks_48 : decode cX12_breaks 48 = .ok (.if_icmp .lt 19, 3) := by decide +kernel
theorem dX12_breaks_51 : decode cX12_breaks 51 = .ok (.aload_n 0, 1) := by decide +kernel
theorem dX12_breaks_52 : decode cX12_breaks 52 = .ok (.getfield 87, 3) := by decide +kernel
theorem dX12_breaks_55 : decode cX12_breaks 55 = .ok (.iload 5, 2) := by decide +kernel
theorem dX12_breaks_57 : decode cX12_breaks 57 = .ok (.laload, 1) := by decide +kernel
theorem dX12_breaks_58 : decode cX12_breaks 58 = .ok (.lconst 0, 1) := by decide +kernel
theorem dX12_breaks_59 : decode cX12_breaks 59 = .ok (.lcmp, 1) := by decide +kernel
theorem dX12_breaks_60 : decode cX12_breaks 60 = .ok (.ifCond .ge 7, 3) := by decide +kernel
theorem dX12_breaks_63 : decode cX12_breaks 63 = .ok (.iconst 1, 1) := by decide +kernel
theorem dX12_breaks_64 : decode cX12_breaks 64 = .ok (.goto 4, 3) := by decide +kernel
theorem dX12_breaks_67 : decode cX12_breaks 67 = .ok (.iconst 0, 1) := by decide +kernel
theorem dX12_breaks_68 : decode cX12_breaks 68 = .ok (.istore 4, 2) := by decide +kernel
theorem dX12_breaks_70 : decode cX12_breaks 70 = .ok (.iinc 5 1, 3) := by decide +kernel
theorem dX12_breaks_73 : decode cX12_breaks 73 = .ok (.goto (-55), 3) := by decide +kernel
theorem dX12_breaks_76 : decode cX12_breaks 76 = .ok (.iload 4, 2) := by decide +kernel
theorem dX12_breaks_78 : decode cX12_breaks 78 = .ok (.ireturn, 1) := by decide +kernel
theorem dX12_breaks_79 : decode cX12_breaks 79 = .ok (.iload_n 3, 1) := by decide +kernel
theorem dX12_breaks_80 : decode cX12_breaks 80 = .ok (.iconst 1, 1) := by decide +kernel
theorem dX12_breaks_81 : decode cX12_breaks 81 = .ok (.if_icmp .eq 8, 3) := by decide +kernel
theorem dX12_breaks_84 : decode cX12_breaks 84 = .ok (.iload_n 3, 1) := by decide +kernel
theorem dX12_breaks_85 : decode cX12_breaks 85 = .ok (.iconst 2, 1) := by decide +kernel
theorem dX12_breaks_86 : decode cX12_breaks 86 = .ok (.if_icmp .ne 65, 3) := by decide +kernel
theorem dX12_breaks_89 : decode cX12_breaks 89 = .ok (.aload_n 0, 1) := by decide +kernel
theorem dX12_breaks_90 : decode cX12_breaks 90 = .ok (.getfield 42, 3) := by decide +kernel
theorem dX12_breaks_93 : decode cX12_breaks 93 = .ok (.iload_n 2, 1) := by decide +kernel
theorem dX12_breaks_94 : decode cX12_breaks 94 = .ok (.iaload, 1) := by decide +kernel
theorem dX12_breaks_95 : decode cX12_breaks 95 = .ok (.iconst 2, 1) := by decide +kernel
theorem dX12_breaks_96 : decode cX12_breaks 96 = .ok (.if_icmp .lt 55, 3) := by decide +kernel
theorem dX12_breaks_99 : decode cX12_breaks 99 = .ok (.aload_n 0, 1) := by decide +kernel
theorem dX12_breaks_100 : decode cX12_breaks 100 = .ok (.getfield 48, 3) := by decide +kernel
theorem dX12_breaks_103 : decode cX12_breaks 103 = .ok (.bipush 8, 2) := by decide +kernel
theorem dX12_breaks_105 : decode cX12_breaks 105 = .ok (.iload_n 2, 1) := by decide +kernel
theorem dX12_breaks_106 : decode cX12_breaks 106 = .ok (.imul, 1) := by decide +kernel
theorem dX12_breaks_107 : decode cX12_breaks 107 = .ok (.iaload, 1) := by decide +kernel
theorem dX12_breaks_108 : decode cX12_breaks 108 = .ok (.iconst 1, 1) := by decide +kernel
theorem dX12_breaks_109 : decode cX12_breaks 109 = .ok (.iconst 5, 1) := by decide +kernel
theorem dX12_breaks_110 : decode cX12_breaks 110 = .ok (.invokestatic 156, 3) := by decide +kernel
theorem dX12_breaks_113 : decode cX12_breaks 113 = .ok (.ifCond .eq 38, 3) := by decide +kernel
theorem dX12_breaks_116 : decode cX12_breaks 116 = .ok (.aload_n 0, 1) := by decide +kernel
theorem dX12_breaks_117 : decode cX12_breaks 117 = .ok (.getfield 48, 3) := by decide +kernel
theorem dX12_breaks_120 : decode cX12_breaks 120 = .ok (.bipush 8, 2) := by decide +kernel
theorem dX12_breaks_122 : decode cX12_breaks 122 = .ok (.iload_n 2, 1) := by decide +kernel
theorem dX12_breaks_123 : decode cX12_breaks 123 = .ok (.imul, 1) := by decide +kernel
theorem dX12_breaks_124 : decode cX12_breaks 124 = .ok (.iconst 1, 1) := by decide +kernel
theorem dX12_breaks_125 : decode cX12_breaks 125 = .ok (.iadd, 1) := by decide +kernel
theorem dX12_breaks_126 : decode cX12_breaks 126 = .ok (.iaload, 1) := by decide +kernel
theorem dX12_breaks_127 : decode cX12_breaks 127 = .ok (.iconst 1, 1) := by decide +kernel
theorem dX12_breaks_128 : decode cX12_breaks 128 = .ok (.iconst 5, 1) := by decide +kernel
theorem dX12_breaks_129 : decode cX12_breaks 129 = .ok (.invokestatic 156, 3) := by decide +kernel
theorem dX12_breaks_132 : decode cX12_breaks 132 = .ok (.ifCond .eq 19, 3) := by decide +kernel
theorem dX12_breaks_135 : decode cX12_breaks 135 = .ok (.aload_n 0, 1) := by decide +kernel
theorem dX12_breaks_136 : decode cX12_breaks 136 = .ok (.getfield 87, 3) := by decide +kernel
theorem dX12_breaks_139 : decode cX12_breaks 139 = .ok (.iconst 0, 1) := by decide +kernel
theorem dX12_breaks_140 : decode cX12_breaks 140 = .ok (.laload, 1) := by decide +kernel
theorem dX12_breaks_141 : decode cX12_breaks 141 = .ok (.aload_n 0, 1) := by decide +kernel
theorem dX12_breaks_142 : decode cX12_breaks 142 = .ok (.getfield 87, 3) := by decide +kernel
theorem dX12_breaks_145 : decode cX12_breaks 145 = .ok (.iconst 1, 1) := by decide +kernel
theorem dX12_breaks_146 : decode cX12_breaks 146 = .ok (.laload, 1) := by decide +kernel
theorem dX12_breaks_147 : decode cX12_breaks 147 = .ok (.lcmp, 1) := by decide +kernel
theorem dX12_breaks_148 : decode cX12_breaks 148 = .ok (.ifCond .gt 5, 3) := by decide +kernel
theorem dX12_breaks_151 : decode cX12_breaks 151 = .ok (.iconst 0, 1) := by decide +kernel
theorem dX12_breaks_152 : decode cX12_breaks 152 = .ok (.ireturn, 1) := by decide +kernel
theorem dX12_breaks_153 : decode cX12_breaks 153 = .ok (.iload_n 3, 1) := by decide +kernel
theorem dX12_breaks_154 : decode cX12_breaks 154 = .ok (.iconst 2, 1) := by decide +kernel
theorem dX12_breaks_155 : decode cX12_breaks 155 = .ok (.if_icmp .ne 57, 3) := by decide +kernel
theorem dX12_breaks_158 : decode cX12_breaks 158 = .ok (.aload_n 0, 1) := by decide +kernel
theorem dX12_breaks_159 : decode cX12_breaks 159 = .ok (.getfield 87, 3) := by decide +kernel
theorem dX12_breaks_162 : decode cX12_breaks 162 = .ok (.iconst 0, 1) := by decide +kernel
theorem dX12_breaks_163 : decode cX12_breaks 163 = .ok (.laload, 1) := by decide +kernel
theorem dX12_breaks_164 : decode cX12_breaks 164 = .ok (.lstore 4, 2) := by decide +kernel
theorem dX12_breaks_166 : decode cX12_breaks 166 = .ok (.aload_n 0, 1) := by decide +kernel
theorem dX12_breaks_167 : decode cX12_breaks 167 = .ok (.getfield 87, 3) := by decide +kernel
theorem dX12_breaks_170 : decode cX12_breaks 170 = .ok (.iconst 0, 1) := by decide +kernel
theorem dX12_breaks_171 : decode cX12_breaks 171 = .ok (.aload_n 0, 1) := by decide +kernel
theorem dX12_breaks_172 : decode cX12_breaks 172 = .ok (.getfield 48, 3) := by decide +kernel
theorem dX12_breaks_175 : decode cX12_breaks 175 = .ok (.bipush 8, 2) := by decide +kernel
theorem dX12_breaks_177 : decode cX12_breaks 177 = .ok (.iload_n 2, 1) := by decide +kernel
theorem dX12_breaks_178 : decode cX12_breaks 178 = .ok (.imul, 1) := by decide +kernel
theorem dX12_breaks_179 : decode cX12_breaks 179 = .ok (.iaload, 1) := by decide +kernel
theorem dX12_breaks_180 : decode cX12_breaks 180 = .ok (.aload_n 0, 1) := by decide +kernel
theorem dX12_breaks_181 : decode cX12_breaks 181 = .ok (.getfield 87, 3) := by decide +kernel
theorem dX12_breaks_184 : decode cX12_breaks 184 = .ok (.iconst 1, 1) := by decide +kernel
theorem dX12_breaks_185 : decode cX12_breaks 185 = .ok (.laload, 1) := by decide +kernel
theorem dX12_breaks_186 : decode cX12_breaks 186 = .ok (.invokestatic 178, 3) := by decide +kernel
theorem dX12_breaks_189 : decode cX12_breaks 189 = .ok (.lastore, 1) := by decide +kernel
theorem dX12_breaks_190 : decode cX12_breaks 190 = .ok (.aload_n 0, 1) := by decide +kernel
theorem dX12_breaks_191 : decode cX12_breaks 191 = .ok (.getfield 87, 3) := by decide +kernel
theorem dX12_breaks_194 : decode cX12_breaks 194 = .ok (.iconst 1, 1) := by decide +kernel
theorem dX12_breaks_195 : decode cX12_breaks 195 = .ok (.aload_n 0, 1) := by decide +kernel
theorem dX12_breaks_196 : decode cX12_breaks 196 = .ok (.getfield 48, 3) := by decide +kernel
theorem dX12_breaks_199 : decode cX12_breaks 199 = .ok (.bipush 8, 2) := by decide +kernel
theorem dX12_breaks_201 : decode cX12_breaks 201 = .ok (.iload_n 2, 1) := by decide +kernel
theorem dX12_breaks_202 : decode cX12_breaks 202 = .ok (.imul, 1) := by decide +kernel
theorem dX12_breaks_203 : decode cX12_breaks 203 = .ok (.iconst 1, 1) := by decide +kernel
theorem dX12_breaks_204 : decode cX12_breaks 204 = .ok (.iadd, 1) := by decide +kernel
theorem dX12_breaks_205 : decode cX12_breaks 205 = .ok (.iaload, 1) := by decide +kernel
theorem dX12_breaks_206 : decode cX12_breaks 206 = .ok (.lload 4, 2) := by decide +kernel
theorem dX12_breaks_208 : decode cX12_breaks 208 = .ok (.invokestatic 178, 3) := by decide +kernel
theorem dX12_breaks_211 : decode cX12_breaks 211 = .ok (.lastore, 1) := by decide +kernel
theorem dX12_breaks_212 : decode cX12_breaks 212 = .ok (.iload_n 3, 1) := by decide +kernel
theorem dX12_breaks_213 : decode cX12_breaks 213 = .ok (.iconst 1, 1) := by decide +kernel
theorem dX12_breaks_214 : decode cX12_breaks 214 = .ok (.if_icmp .ne 7, 3) := by decide +kernel
theorem dX12_breaks_217 : decode cX12_breaks 217 = .ok (.iconst 1, 1) := by decide +kernel
theorem dX12_breaks_218 : decode cX12_breaks 218 = .ok (.goto 4, 3) := by decide +kernel
theorem dX12_breaks_221 : decode cX12_breaks 221 = .ok (.iconst 0, 1) := by decide +kernel
theorem dX12_breaks_222 : decode cX12_breaks 222 = .ok (.ireturn, 1) := by decide +kernel
def L_X12_breaks_18 (d : Nat) (v0 : Option Nm) (v2 : Int32) (v4 : Int32) (v5 : Int32) (h : MH) (u : Nat) (Q : Int32 → MH → Prop) : Prop := T u_X12_breaks (d + 1) 18 [some (jR v0), none, some (jI v2), none, some (jI v4), some (jI v5)] [] h u (qI Q)
def F_X12_breaks_89 (d : Nat) (v0 : Option Nm) (v2 : Int32) (v3 : Int32) (h : MH) (u : Nat) (Q : Int32 → MH → Prop) : Prop :=
  gR h v0 11 15 fun x1 =>
  aI .int h x1 v2 fun x2 =>
  if x2 < 2 then
    nz 0 ∧ Q 0 h
  else
    gR h v0 11 17 fun x3 =>
    aI .int h x3 (8 * v2) fun x4 =>
    iI d u_X12_in [jI x4, jI 1, jI 5] h u fun x5 h u =>
    if x5 = 0 then
      nz 0 ∧ Q 0 h
    else
      gR h v0 11 17 fun x6 =>
      aI .int h x6 ((8 * v2) + 1) fun x7 =>
      iI d u_X12_in [jI x7, jI 1, jI 5] h u fun x8 h u =>
      if x8 = 0 then
        nz 0 ∧ Q 0 h
      else
        gR h v0 11 32 fun x9 =>
        aL h x9 0 fun x10 =>
        gR h v0 11 32 fun x11 =>
        aL h x11 1 fun x12 =>
        if 0 < (lg_cmp x10 x12) then
          if v3 = 2 then
            gR h v0 11 32 fun x13 =>
            aL h x13 0 fun x14 =>
            gR h v0 11 32 fun x15 =>
            gR h v0 11 17 fun x16 =>
            aI .int h x16 (8 * v2) fun x17 =>
            gR h v0 11 32 fun x18 =>
            aL h x18 1 fun x19 =>
            iL d u_X12_comes [jI x17, jL x19] h u fun x20 h u =>
            sV .long h x15 0 (jL x20) fun h =>
            gR h v0 11 32 fun x21 =>
            gR h v0 11 17 fun x22 =>
            aI .int h x22 ((8 * v2) + 1) fun x23 =>
            iL d u_X12_comes [jI x23, jL x14] h u fun x24 h u =>
            sV .long h x21 1 (jL x24) fun h =>
            if v3 = 1 then
              nz 1 ∧ Q 1 h
            else
              nz 0 ∧ Q 0 h
          else
            if v3 = 1 then
              nz 1 ∧ Q 1 h
            else
              nz 0 ∧ Q 0 h
        else
          nz 0 ∧ Q 0 h
set_option maxRecDepth 20000 in
theorem E_X12_breaks_89 {d : Nat} {v0 : Option Nm} {v2 : Int32} {v3 : Int32} {h : MH} {u : Nat} {Q : Int32 → MH → Prop} (H : F_X12_breaks_89 d v0 v2 v3 h u Q) : T u_X12_breaks (d + 1) 89 [some (jR v0), none, some (jI v2), some (jI v3), none, none] [] h u (qI Q) := by
  unfold F_X12_breaks_89 at H
  refine T_aload_n (pc := 89) dX12_breaks_89 rfl rfl ?_
  refine T_gR (pc := 90) fa_X12_42 dX12_breaks_90 (gR_mono (fun x1 H => ?_) H)
  refine T_iload_n (pc := 93) dX12_breaks_93 rfl rfl ?_
  refine T_aI (pc := 94) dX12_breaks_94 (aI_mono (fun x2 H => ?_) H)
  refine T_iconst (pc := 95) (v := 2) dX12_breaks_95 (by decide) ?_
  refine T_icmp_lt (pc := 96) (tgt := 151) dX12_breaks_96 (by decide) (fun hc => ?_) (fun hc => ?_)
  · rw [if_pos hc] at H
    refine T_iconst (pc := 151) (v := 0) dX12_breaks_151 (by decide) ?_
    exact T_ireturn (pc := 152) rfl (nz_nar H.1) dX12_breaks_152 H.2
  · rw [if_neg hc] at H
    refine T_aload_n (pc := 99) dX12_breaks_99 rfl rfl ?_
    refine T_gR (pc := 100) fa_X12_48 dX12_breaks_100 (gR_mono (fun x3 H => ?_) H)
    refine T_bipush (pc := 103) (v := 8) dX12_breaks_103 (by decide) ?_
    refine T_iload_n (pc := 105) dX12_breaks_105 rfl rfl ?_
    refine T_imul (pc := 106) dX12_breaks_106 ?_
    refine T_aI (pc := 107) dX12_breaks_107 (aI_mono (fun x4 H => ?_) H)
    refine T_iconst (pc := 108) (v := 1) dX12_breaks_108 (by decide) ?_
    refine T_iconst (pc := 109) (v := 5) dX12_breaks_109 (by decide) ?_
    refine T_invS (pc := 110) (av := [jI x4, jI 1, jI 5]) (rest := []) dX12_breaks_110 mf_X12_in c_5_86 c_5_87 rfl (Nat.le_of_ble_eq_true rfl) rfl (iI_k (iI_mono (fun x5 h u H => ?_) H))
    refine T_if_eq (pc := 113) (tgt := 151) dX12_breaks_113 (by decide) (fun hc => ?_) (fun hc => ?_)
    · rw [if_pos hc] at H
      refine T_iconst (pc := 151) (v := 0) dX12_breaks_151 (by decide) ?_
      exact T_ireturn (pc := 152) rfl (nz_nar H.1) dX12_breaks_152 H.2
    · rw [if_neg hc] at H
      refine T_aload_n (pc := 116) dX12_breaks_116 rfl rfl ?_
      refine T_gR (pc := 117) fa_X12_48 dX12_breaks_117 (gR_mono (fun x6 H => ?_) H)
      refine T_bipush (pc := 120) (v := 8) dX12_breaks_120 (by decide) ?_
      refine T_iload_n (pc := 122) dX12_breaks_122 rfl rfl ?_
      refine T_imul (pc := 123) dX12_breaks_123 ?_
      refine T_iconst (pc := 124) (v := 1) dX12_breaks_124 (by decide) ?_
      refine T_iadd (pc := 125) dX12_breaks_125 ?_
      refine T_aI (pc := 126) dX12_breaks_126 (aI_mono (fun x7 H => ?_) H)
      refine T_iconst (pc := 127) (v := 1) dX12_breaks_127 (by decide) ?_
      refine T_iconst (pc := 128) (v := 5) dX12_breaks_128 (by decide) ?_
      refine T_invS (pc := 129) (av := [jI x7, jI 1, jI 5]) (rest := []) dX12_breaks_129 mf_X12_in c_5_86 c_5_87 rfl (Nat.le_of_ble_eq_true rfl) rfl (iI_k (iI_mono (fun x8 h u H => ?_) H))
      refine T_if_eq (pc := 132) (tgt := 151) dX12_breaks_132 (by decide) (fun hc => ?_) (fun hc => ?_)
      · rw [if_pos hc] at H
        refine T_iconst (pc := 151) (v := 0) dX12_breaks_151 (by decide) ?_
        exact T_ireturn (pc := 152) rfl (nz_nar H.1) dX12_breaks_152 H.2
      · rw [if_neg hc] at H
        refine T_aload_n (pc := 135) dX12_breaks_135 rfl rfl ?_
        refine T_gR (pc := 136) fa_X12_87 dX12_breaks_136 (gR_mono (fun x9 H => ?_) H)
        refine T_iconst (pc := 139) (v := 0) dX12_breaks_139 (by decide) ?_
        refine T_aL (pc := 140) dX12_breaks_140 (aL_mono (fun x10 H => ?_) H)
        refine T_aload_n (pc := 141) dX12_breaks_141 rfl rfl ?_
        refine T_gR (pc := 142) fa_X12_87 dX12_breaks_142 (gR_mono (fun x11 H => ?_) H)
        refine T_iconst (pc := 145) (v := 1) dX12_breaks_145 (by decide) ?_
        refine T_aL (pc := 146) dX12_breaks_146 (aL_mono (fun x12 H => ?_) H)
        refine T_lcmp (pc := 147) dX12_breaks_147 ?_
        refine T_if_gt (pc := 148) (tgt := 153) dX12_breaks_148 (by decide) (fun hc => ?_) (fun hc => ?_)
        · rw [if_pos hc] at H
          refine T_iload_n (pc := 153) dX12_breaks_153 rfl rfl ?_
          refine T_iconst (pc := 154) (v := 2) dX12_breaks_154 (by decide) ?_
          refine T_icmp_ne (pc := 155) (tgt := 212) dX12_breaks_155 (by decide) (fun hc => ?_) (fun hc => ?_)
          · rw [if_neg hc] at H
            refine T_iload_n (pc := 212) dX12_breaks_212 rfl rfl ?_
            refine T_iconst (pc := 213) (v := 1) dX12_breaks_213 (by decide) ?_
            refine T_icmp_ne (pc := 214) (tgt := 221) dX12_breaks_214 (by decide) (fun hc => ?_) (fun hc => ?_)
            · rw [if_neg hc] at H
              refine T_iconst (pc := 221) (v := 0) dX12_breaks_221 (by decide) ?_
              exact T_ireturn (pc := 222) rfl (nz_nar H.1) dX12_breaks_222 H.2
            · rw [if_pos hc] at H
              refine T_iconst (pc := 217) (v := 1) dX12_breaks_217 (by decide) ?_
              refine T_goto (pc := 218) (tgt := 222) dX12_breaks_218 (by decide) ?_
              exact T_ireturn (pc := 222) rfl (nz_nar H.1) dX12_breaks_222 H.2
          · rw [if_pos hc] at H
            refine T_aload_n (pc := 158) dX12_breaks_158 rfl rfl ?_
            refine T_gR (pc := 159) fa_X12_87 dX12_breaks_159 (gR_mono (fun x13 H => ?_) H)
            refine T_iconst (pc := 162) (v := 0) dX12_breaks_162 (by decide) ?_
            refine T_aL (pc := 163) dX12_breaks_163 (aL_mono (fun x14 H => ?_) H)
            refine T_lstore (pc := 164) (ls2 := [some (jR v0), none, some (jI v2), some (jI v3), some (jL x14), none]) dX12_breaks_164 (Nat.le_of_ble_eq_true rfl) rfl ?_
            refine T_aload_n (pc := 166) dX12_breaks_166 rfl rfl ?_
            refine T_gR (pc := 167) fa_X12_87 dX12_breaks_167 (gR_mono (fun x15 H => ?_) H)
            refine T_iconst (pc := 170) (v := 0) dX12_breaks_170 (by decide) ?_
            refine T_aload_n (pc := 171) dX12_breaks_171 rfl rfl ?_
            refine T_gR (pc := 172) fa_X12_48 dX12_breaks_172 (gR_mono (fun x16 H => ?_) H)
            refine T_bipush (pc := 175) (v := 8) dX12_breaks_175 (by decide) ?_
            refine T_iload_n (pc := 177) dX12_breaks_177 rfl rfl ?_
            refine T_imul (pc := 178) dX12_breaks_178 ?_
            refine T_aI (pc := 179) dX12_breaks_179 (aI_mono (fun x17 H => ?_) H)
            refine T_aload_n (pc := 180) dX12_breaks_180 rfl rfl ?_
            refine T_gR (pc := 181) fa_X12_87 dX12_breaks_181 (gR_mono (fun x18 H => ?_) H)
            refine T_iconst (pc := 184) (v := 1) dX12_breaks_184 (by decide) ?_
            refine T_aL (pc := 185) dX12_breaks_185 (aL_mono (fun x19 H => ?_) H)
            refine T_invS (pc := 186) (av := [jI x17, jL x19]) (rest := [jI 0, jR x15]) dX12_breaks_186 mf_X12_comes c_5_109 c_5_110 rfl (Nat.le_of_ble_eq_true rfl) rfl (iL_k (iL_mono (fun x20 h u H => ?_) H))
            refine T_sL (pc := 189) dX12_breaks_189 (sV_mono (fun h H => ?_) H)
            refine T_aload_n (pc := 190) dX12_breaks_190 rfl rfl ?_
            refine T_gR (pc := 191) fa_X12_87 dX12_breaks_191 (gR_mono (fun x21 H => ?_) H)
            refine T_iconst (pc := 194) (v := 1) dX12_breaks_194 (by decide) ?_
            refine T_aload_n (pc := 195) dX12_breaks_195 rfl rfl ?_
            refine T_gR (pc := 196) fa_X12_48 dX12_breaks_196 (gR_mono (fun x22 H => ?_) H)
            refine T_bipush (pc := 199) (v := 8) dX12_breaks_199 (by decide) ?_
            refine T_iload_n (pc := 201) dX12_breaks_201 rfl rfl ?_
            refine T_imul (pc := 202) dX12_breaks_202 ?_
            refine T_iconst (pc := 203) (v := 1) dX12_breaks_203 (by decide) ?_
            refine T_iadd (pc := 204) dX12_breaks_204 ?_
            refine T_aI (pc := 205) dX12_breaks_205 (aI_mono (fun x23 H => ?_) H)
            refine T_lload (pc := 206) dX12_breaks_206 rfl ?_
            refine T_invS (pc := 208) (av := [jI x23, jL x14]) (rest := [jI 1, jR x21]) dX12_breaks_208 mf_X12_comes c_5_109 c_5_110 rfl (Nat.le_of_ble_eq_true rfl) rfl (iL_k (iL_mono (fun x24 h u H => ?_) H))
            refine T_sL (pc := 211) dX12_breaks_211 (sV_mono (fun h H => ?_) H)
            refine T_iload_n (pc := 212) dX12_breaks_212 rfl rfl ?_
            refine T_iconst (pc := 213) (v := 1) dX12_breaks_213 (by decide) ?_
            refine T_icmp_ne (pc := 214) (tgt := 221) dX12_breaks_214 (by decide) (fun hc => ?_) (fun hc => ?_)
            · rw [if_neg hc] at H
              refine T_iconst (pc := 221) (v := 0) dX12_breaks_221 (by decide) ?_
              exact T_ireturn (pc := 222) rfl (nz_nar H.1) dX12_breaks_222 H.2
            · rw [if_pos hc] at H
              refine T_iconst (pc := 217) (v := 1) dX12_breaks_217 (by decide) ?_
              refine T_goto (pc := 218) (tgt := 222) dX12_breaks_218 (by decide) ?_
              exact T_ireturn (pc := 222) rfl (nz_nar H.1) dX12_breaks_222 H.2
        · rw [if_neg hc] at H
          refine T_iconst (pc := 151) (v := 0) dX12_breaks_151 (by decide) ?_
          exact T_ireturn (pc := 152) rfl (nz_nar H.1) dX12_breaks_152 H.2
def F_X12_breaks (d : Nat) (v0 : Option Nm) (v1 : Int32) (v2 : Int32) (h : MH) (u : Nat) (Q : Int32 → MH → Prop) : Prop :=
  gR h v0 11 11 fun x1 =>
  aI .int h x1 v1 fun x2 =>
  if x2 = 3 then
    L_X12_breaks_18 d v0 v2 0 0 h u Q
  else
    if x2 = 1 then
      F_X12_breaks_89 d v0 v2 x2 h u Q
    else
      if x2 = 2 then
        F_X12_breaks_89 d v0 v2 x2 h u Q
      else
        nz 0 ∧ Q 0 h
set_option maxRecDepth 20000 in
theorem E_X12_breaks {d : Nat} {v0 : Option Nm} {v1 : Int32} {v2 : Int32} {h : MH} {u : Nat} {Q : Int32 → MH → Prop} (H : F_X12_breaks d v0 v1 v2 h u Q) : T u_X12_breaks (d + 1) 0 [some (jR v0), some (jI v1), some (jI v2), none, none, none] [] h u (qI Q) := by
  unfold F_X12_breaks at H
  refine T_aload_n (pc := 0) dX12_breaks_0 rfl rfl ?_
  refine T_gR (pc := 1) fa_X12_30 dX12_breaks_1 (gR_mono (fun x1 H => ?_) H)
  refine T_iload_n (pc := 4) dX12_breaks_4 rfl rfl ?_
  refine T_aI (pc := 5) dX12_breaks_5 (aI_mono (fun x2 H => ?_) H)
  refine T_istore_n (pc := 6) (ls2 := [some (jR v0), some (jI v1), some (jI v2), some (jI x2), none, none]) dX12_breaks_6 rfl (Nat.le_of_ble_eq_true rfl) rfl ?_
  refine T_iload_n (pc := 7) dX12_breaks_7 rfl rfl ?_
  refine T_iconst (pc := 8) (v := 3) dX12_breaks_8 (by decide) ?_
  refine T_icmp_ne (pc := 9) (tgt := 79) dX12_breaks_9 (by decide) (fun hc => ?_) (fun hc => ?_)
  · rw [if_neg hc] at H
    refine T_iload_n (pc := 79) dX12_breaks_79 rfl rfl ?_
    refine T_iconst (pc := 80) (v := 1) dX12_breaks_80 (by decide) ?_
    refine T_icmp_eq (pc := 81) (tgt := 89) dX12_breaks_81 (by decide) (fun hc => ?_) (fun hc => ?_)
    · rw [if_pos hc] at H
      exact T.forget (E_X12_breaks_89 H) ⟨rfl, rfl, rfl, trivial⟩
    · rw [if_neg hc] at H
      refine T_iload_n (pc := 84) dX12_breaks_84 rfl rfl ?_
      refine T_iconst (pc := 85) (v := 2) dX12_breaks_85 (by decide) ?_
      refine T_icmp_ne (pc := 86) (tgt := 151) dX12_breaks_86 (by decide) (fun hc => ?_) (fun hc => ?_)
      · rw [if_neg hc] at H
        refine T_iconst (pc := 151) (v := 0) dX12_breaks_151 (by decide) ?_
        exact T_ireturn (pc := 152) rfl (nz_nar H.1) dX12_breaks_152 H.2
      · rw [if_pos hc] at H
        exact T.forget (E_X12_breaks_89 H) ⟨rfl, rfl, rfl, trivial⟩
  · rw [if_pos hc] at H
    refine T_iconst (pc := 12) (v := 0) dX12_breaks_12 (by decide) ?_
    refine T_istore (pc := 13) (ls2 := [some (jR v0), some (jI v1), some (jI v2), some (jI x2), some (jI 0), none]) dX12_breaks_13 (Nat.le_of_ble_eq_true rfl) rfl ?_
    refine T_iconst (pc := 15) (v := 0) dX12_breaks_15 (by decide) ?_
    refine T_istore (pc := 16) (ls2 := [some (jR v0), some (jI v1), some (jI v2), some (jI x2), some (jI 0), some (jI 0)]) dX12_breaks_16 (Nat.le_of_ble_eq_true rfl) rfl ?_
    exact T.forget H ⟨rfl, rfl, rfl, rfl, trivial⟩
def F_X12_breaks_18 (d : Nat) (v0 : Option Nm) (v2 : Int32) (v4 : Int32) (v5 : Int32) (h : MH) (u : Nat) (Q : Int32 → MH → Prop) : Prop :=
  gR h v0 11 15 fun x1 =>
  aI .int h x1 v2 fun x2 =>
  if x2 ≤ v5 then
    nz v4 ∧ Q v4 h
  else
    if v4 = 0 then
      gR h v0 11 17 fun x3 =>
      aI .int h x3 ((8 * v2) + v5) fun x4 =>
      if x4 < 8 then
        L_X12_breaks_18 d v0 v2 0 (v5 + 1) h u Q
      else
        gR h v0 11 32 fun x5 =>
        aL h x5 v5 fun x6 =>
        if 0 ≤ (lg_cmp x6 0) then
          L_X12_breaks_18 d v0 v2 0 (v5 + 1) h u Q
        else
          L_X12_breaks_18 d v0 v2 1 (v5 + 1) h u Q
    else
      L_X12_breaks_18 d v0 v2 1 (v5 + 1) h u Q
set_option maxRecDepth 20000 in
theorem E_X12_breaks_18 {d : Nat} {v0 : Option Nm} {v2 : Int32} {v4 : Int32} {v5 : Int32} {h : MH} {u : Nat} {Q : Int32 → MH → Prop} (H : F_X12_breaks_18 d v0 v2 v4 v5 h u Q) : T u_X12_breaks (d + 1) 18 [some (jR v0), none, some (jI v2), none, some (jI v4), some (jI v5)] [] h u (qI Q) := by
  unfold F_X12_breaks_18 at H
  refine T_iload (pc := 18) dX12_breaks_18 rfl ?_
  refine T_aload_n (pc := 20) dX12_breaks_20 rfl rfl ?_
  refine T_gR (pc := 21) fa_X12_42 dX12_breaks_21 (gR_mono (fun x1 H => ?_) H)
  refine T_iload_n (pc := 24) dX12_breaks_24 rfl rfl ?_
  refine T_aI (pc := 25) dX12_breaks_25 (aI_mono (fun x2 H => ?_) H)
  refine T_icmp_ge (pc := 26) (tgt := 76) dX12_breaks_26 (by decide) (fun hc => ?_) (fun hc => ?_)
  · rw [if_pos hc] at H
    refine T_iload (pc := 76) dX12_breaks_76 rfl ?_
    exact T_ireturn (pc := 78) rfl (nz_nar H.1) dX12_breaks_78 H.2
  · rw [if_neg hc] at H
    refine T_iload (pc := 29) dX12_breaks_29 rfl ?_
    refine T_if_ne (pc := 31) (tgt := 63) dX12_breaks_31 (by decide) (fun hc => ?_) (fun hc => ?_)
    · rw [if_neg hc] at H
      refine T_iconst (pc := 63) (v := 1) dX12_breaks_63 (by decide) ?_
      refine T_goto (pc := 64) (tgt := 68) dX12_breaks_64 (by decide) ?_
      refine T_istore (pc := 68) (ls2 := [some (jR v0), none, some (jI v2), none, some (jI 1), some (jI v5)]) dX12_breaks_68 (Nat.le_of_ble_eq_true rfl) rfl ?_
      refine T_iinc (pc := 70) (v := v5 + 1) (ls2 := [some (jR v0), none, some (jI v2), none, some (jI 1), some (jI (v5 + 1))]) dX12_breaks_70 rfl rfl (Nat.le_of_ble_eq_true rfl) rfl ?_
      refine T_goto (pc := 73) (tgt := 18) dX12_breaks_73 (by decide) ?_
      exact T.forget H ⟨rfl, rfl, rfl, rfl, trivial⟩
    · rw [if_pos hc] at H
      refine T_aload_n (pc := 34) dX12_breaks_34 rfl rfl ?_
      refine T_gR (pc := 35) fa_X12_48 dX12_breaks_35 (gR_mono (fun x3 H => ?_) H)
      refine T_bipush (pc := 38) (v := 8) dX12_breaks_38 (by decide) ?_
      refine T_iload_n (pc := 40) dX12_breaks_40 rfl rfl ?_
      refine T_imul (pc := 41) dX12_breaks_41 ?_
      refine T_iload (pc := 42) dX12_breaks_42 rfl ?_
      refine T_iadd (pc := 44) dX12_breaks_44 ?_
      refine T_aI (pc := 45) dX12_breaks_45 (aI_mono (fun x4 H => ?_) H)
      refine T_bipush (pc := 46) (v := 8) dX12_breaks_46 (by decide) ?_
      refine T_icmp_lt (pc := 48) (tgt := 67) dX12_breaks_48 (by decide) (fun hc => ?_) (fun hc => ?_)
      · rw [if_pos hc] at H
        refine T_iconst (pc := 67) (v := 0) dX12_breaks_67 (by decide) ?_
        refine T_istore (pc := 68) (ls2 := [some (jR v0), none, some (jI v2), none, some (jI 0), some (jI v5)]) dX12_breaks_68 (Nat.le_of_ble_eq_true rfl) rfl ?_
        refine T_iinc (pc := 70) (v := v5 + 1) (ls2 := [some (jR v0), none, some (jI v2), none, some (jI 0), some (jI (v5 + 1))]) dX12_breaks_70 rfl rfl (Nat.le_of_ble_eq_true rfl) rfl ?_
        refine T_goto (pc := 73) (tgt := 18) dX12_breaks_73 (by decide) ?_
        exact T.forget H ⟨rfl, rfl, rfl, rfl, trivial⟩
      · rw [if_neg hc] at H
        refine T_aload_n (pc := 51) dX12_breaks_51 rfl rfl ?_
        refine T_gR (pc := 52) fa_X12_87 dX12_breaks_52 (gR_mono (fun x5 H => ?_) H)
        refine T_iload (pc := 55) dX12_breaks_55 rfl ?_
        refine T_aL (pc := 57) dX12_breaks_57 (aL_mono (fun x6 H => ?_) H)
        refine T_lconst (pc := 58) (v := 0) dX12_breaks_58 (by decide) ?_
        refine T_lcmp (pc := 59) dX12_breaks_59 ?_
        refine T_if_ge (pc := 60) (tgt := 67) dX12_breaks_60 (by decide) (fun hc => ?_) (fun hc => ?_)
        · rw [if_pos hc] at H
          refine T_iconst (pc := 67) (v := 0) dX12_breaks_67 (by decide) ?_
          refine T_istore (pc := 68) (ls2 := [some (jR v0), none, some (jI v2), none, some (jI 0), some (jI v5)]) dX12_breaks_68 (Nat.le_of_ble_eq_true rfl) rfl ?_
          refine T_iinc (pc := 70) (v := v5 + 1) (ls2 := [some (jR v0), none, some (jI v2), none, some (jI 0), some (jI (v5 + 1))]) dX12_breaks_70 rfl rfl (Nat.le_of_ble_eq_true rfl) rfl ?_
          refine T_goto (pc := 73) (tgt := 18) dX12_breaks_73 (by decide) ?_
          exact T.forget H ⟨rfl, rfl, rfl, rfl, trivial⟩
        · rw [if_neg hc] at H
          refine T_iconst (pc := 63) (v := 1) dX12_breaks_63 (by decide) ?_
          refine T_goto (pc := 64) (tgt := 68) dX12_breaks_64 (by decide) ?_
          refine T_istore (pc := 68) (ls2 := [some (jR v0), none, some (jI v2), none, some (jI 1), some (jI v5)]) dX12_breaks_68 (Nat.le_of_ble_eq_true rfl) rfl ?_
          refine T_iinc (pc := 70) (v := v5 + 1) (ls2 := [some (jR v0), none, some (jI v2), none, some (jI 1), some (jI (v5 + 1))]) dX12_breaks_70 rfl rfl (Nat.le_of_ble_eq_true rfl) rfl ?_
          refine T_goto (pc := 73) (tgt := 18) dX12_breaks_73 (by decide) ?_
          exact T.forget H ⟨rfl, rfl, rfl, rfl, trivial⟩
theorem I_X12_breaks {d : Nat} {v0 : Option Nm} {v1 : Int32} {v2 : Int32} {h : MH} {u : Nat} {K : Int32 → MH → Nat → Prop} (u1 : Nat) (hu : u1 ≤ u) (H : F_X12_breaks d v0 v1 v2 h u1 (fun x h2 => K x h2 (u - u1))) : iI (d + 1) u_X12_breaks [jR v0, jI v1, jI v2] h u K := inv.of u1 hu (Ct.of (by decide +kernel) rfl (Nat.le_of_ble_eq_true rfl) rfl (E_X12_breaks H))
theorem dX12_counts_0 : decode cX12_counts 0 = .ok (.lload_n 1, 1) := by decide +kernel
theorem dX12_counts_1 : decode cX12_counts 1 = .ok (.lconst 0, 1) := by decide +kernel
theorem dX12_counts_2 : decode cX12_counts 2 = .ok (.lcmp, 1) := by decide +kernel
theorem dX12_counts_3 : decode cX12_counts 3 = .ok (.ifCond .lt 51, 3) := by decide +kernel
theorem dX12_counts_6 : decode cX12_counts 6 = .ok (.aload_n 0, 1) := by decide +kernel
theorem dX12_counts_7 : decode cX12_counts 7 = .ok (.dup, 1) := by decide +kernel
theorem dX12_counts_8 : decode cX12_counts 8 = .ok (.getfield 234, 3) := by decide +kernel
theorem dX12_counts_11 : decode cX12_counts 11 = .ok (.aload_n 0, 1) := by decide +kernel
theorem dX12_counts_12 : decode cX12_counts 12 = .ok (.getfield 75, 3) := by decide +kernel
theorem dX12_counts_15 : decode cX12_counts 15 = .ok (.lload_n 1, 1) := by decide +kernel
theorem dX12_counts_16 : decode cX12_counts 16 = .ok (.l2i, 1) := by decide +kernel
theorem dX12_counts_17 : decode cX12_counts 17 = .ok (.iaload, 1) := by decide +kernel
theorem dX12_counts_18 : decode cX12_counts 18 = .ok (.iadd, 1) := by decide +kernel
theorem dX12_counts_19 : decode cX12_counts 19 = .ok (.putfield 234, 3) := by decide +kernel
theorem dX12_counts_22 : decode cX12_counts 22 = .ok (.aload_n 0, 1) := by decide +kernel
theorem dX12_counts_23 : decode cX12_counts 23 = .ok (.aload_n 0, 1) := by decide +kernel
theorem dX12_counts_24 : decode cX12_counts 24 = .ok (.getfield 78, 3) := by decide +kernel
theorem dX12_counts_27 : decode cX12_counts 27 = .ok (.lload_n 1, 1) := by decide +kernel
theorem dX12_counts_28 : decode cX12_counts 28 = .ok (.l2i, 1) := by decide +kernel
theorem dX12_counts_29 : decode cX12_counts 29 = .ok (.iaload, 1) := by decide +kernel
theorem dX12_counts_30 : decode cX12_counts 30 = .ok (.aload_n 0, 1) := by decide +kernel
theorem dX12_counts_31 : decode cX12_counts 31 = .ok (.getfield 237, 3) := by decide +kernel
theorem dX12_counts_34 : decode cX12_counts 34 = .ok (.if_icmp .le 13, 3) := by decide +kernel
theorem dX12_counts_37 : decode cX12_counts 37 = .ok (.aload_n 0, 1) := by decide +kernel
theorem dX12_counts_38 : decode cX12_counts 38 = .ok (.getfield 78, 3) := by decide +kernel
theorem dX12_counts_41 : decode cX12_counts 41 = .ok (.lload_n 1, 1) := by decide +kernel
theorem dX12_counts_42 : decode cX12_counts 42 = .ok (.l2i, 1) := by decide +kernel
theorem dX12_counts_43 : decode cX12_counts 43 = .ok (.iaload, 1) := by decide +kernel
theorem dX12_counts_44 : decode cX12_counts 44 = .ok (.goto 7, 3) := by decide +kernel
theorem dX12_counts_47 : decode cX12_counts 47 = .ok (.aload_n 0, 1) := by decide +kernel
theorem dX12_counts_48 : decode cX12_counts 48 = .ok (.getfield 237, 3) := by decide +kernel
theorem dX12_counts_51 : decode cX12_counts 51 = .ok (.putfield 237, 3) := by decide +kernel
theorem dX12_counts_54 : decode cX12_counts 54 = .ok (.return_, 1) := by decide +kernel
def F_X12_counts (d : Nat) (v0 : Option Nm) (v1 : Int64) (h : MH) (u : Nat) (Q : MH → Prop) : Prop :=
  if (lg_cmp v1 0) < 0 then
    Q h
  else
    gI h v0 11 33 fun x1 =>
    gR h v0 11 28 fun x2 =>
    aI .int h x2 (v1.toInt32) fun x3 =>
    pV h v0 11 33 (jI (x1 + x3)) fun h =>
    gR h v0 11 29 fun x4 =>
    aI .int h x4 (v1.toInt32) fun x5 =>
    gI h v0 11 34 fun x6 =>
    if x5 ≤ x6 then
      gI h v0 11 34 fun x7 =>
      pV h v0 11 34 (jI x7) fun h =>
      Q h
    else
      gR h v0 11 29 fun x8 =>
      aI .int h x8 (v1.toInt32) fun x9 =>
      pV h v0 11 34 (jI x9) fun h =>
      Q h
set_option maxRecDepth 20000 in
theorem E_X12_counts {d : Nat} {v0 : Option Nm} {v1 : Int64} {h : MH} {u : Nat} {Q : MH → Prop} (H : F_X12_counts d v0 v1 h u Q) : T u_X12_counts d 0 [some (jR v0), some (jL v1), none] [] h u (qV Q) := by
  unfold F_X12_counts at H
  refine T_lload_n (pc := 0) dX12_counts_0 rfl rfl ?_
  refine T_lconst (pc := 1) (v := 0) dX12_counts_1 (by decide) ?_
  refine T_lcmp (pc := 2) dX12_counts_2 ?_
  refine T_if_lt (pc := 3) (tgt := 54) dX12_counts_3 (by decide) (fun hc => ?_) (fun hc => ?_)
  · rw [if_pos hc] at H
    exact T_return (pc := 54) rfl dX12_counts_54 H
  · rw [if_neg hc] at H
    refine T_aload_n (pc := 6) dX12_counts_6 rfl rfl ?_
    refine T_dup (pc := 7) rfl dX12_counts_7 ?_
    refine T_gI (pc := 8) fa_X12_234 dX12_counts_8 (gI_mono (fun x1 H => ?_) H)
    refine T_aload_n (pc := 11) dX12_counts_11 rfl rfl ?_
    refine T_gR (pc := 12) fa_X12_75 dX12_counts_12 (gR_mono (fun x2 H => ?_) H)
    refine T_lload_n (pc := 15) dX12_counts_15 rfl rfl ?_
    refine T_l2i (pc := 16) dX12_counts_16 ?_
    refine T_aI (pc := 17) dX12_counts_17 (aI_mono (fun x3 H => ?_) H)
    refine T_iadd (pc := 18) dX12_counts_18 ?_
    refine T_pV (pc := 19) fa_X12_234 dX12_counts_19 trivial (pV_mono (fun h H => ?_) H)
    refine T_aload_n (pc := 22) dX12_counts_22 rfl rfl ?_
    refine T_aload_n (pc := 23) dX12_counts_23 rfl rfl ?_
    refine T_gR (pc := 24) fa_X12_78 dX12_counts_24 (gR_mono (fun x4 H => ?_) H)
    refine T_lload_n (pc := 27) dX12_counts_27 rfl rfl ?_
    refine T_l2i (pc := 28) dX12_counts_28 ?_
    refine T_aI (pc := 29) dX12_counts_29 (aI_mono (fun x5 H => ?_) H)
    refine T_aload_n (pc := 30) dX12_counts_30 rfl rfl ?_
    refine T_gI (pc := 31) fa_X12_237 dX12_counts_31 (gI_mono (fun x6 H => ?_) H)
    refine T_icmp_le (pc := 34) (tgt := 47) dX12_counts_34 (by decide) (fun hc => ?_) (fun hc => ?_)
    · rw [if_pos hc] at H
      refine T_aload_n (pc := 47) dX12_counts_47 rfl rfl ?_
      refine T_gI (pc := 48) fa_X12_237 dX12_counts_48 (gI_mono (fun x7 H => ?_) H)
      refine T_pV (pc := 51) fa_X12_237 dX12_counts_51 trivial (pV_mono (fun h H => ?_) H)
      exact T_return (pc := 54) rfl dX12_counts_54 H
    · rw [if_neg hc] at H
      refine T_aload_n (pc := 37) dX12_counts_37 rfl rfl ?_
      refine T_gR (pc := 38) fa_X12_78 dX12_counts_38 (gR_mono (fun x8 H => ?_) H)
      refine T_lload_n (pc := 41) dX12_counts_41 rfl rfl ?_
      refine T_l2i (pc := 42) dX12_counts_42 ?_
      refine T_aI (pc := 43) dX12_counts_43 (aI_mono (fun x9 H => ?_) H)
      refine T_goto (pc := 44) (tgt := 51) dX12_counts_44 (by decide) ?_
      refine T_pV (pc := 51) fa_X12_237 dX12_counts_51 trivial (pV_mono (fun h H => ?_) H)
      exact T_return (pc := 54) rfl dX12_counts_54 H
theorem I_X12_counts {d : Nat} {v0 : Option Nm} {v1 : Int64} {h : MH} {u : Nat} {K : MH → Nat → Prop} (u1 : Nat) (hu : u1 ≤ u) (H : F_X12_counts d v0 v1 h u1 (fun h2 => K h2 (u - u1))) : iV d u_X12_counts [jR v0, jL v1] h u K := inv.of u1 hu (Ct.of (by decide +kernel) rfl (Nat.le_of_ble_eq_true rfl) rfl (E_X12_counts H))
