theorem dX12_isTwinned_0 : decode cX12_isTwinned 0 = .ok (.iload_n 2, 1) := by decide +kernel
theorem dX12_isTwinned_1 : decode cX12_isTwinned 1 = .ok (.ifCond .lt 37, 3) := by decide +kernel
theorem dX12_isTwinned_4 : decode cX12_isTwinned 4 = .ok (.aload_n 0, 1) := by decide +kernel
theorem dX12_isTwinned_5 : decode cX12_isTwinned 5 = .ok (.getfield 16, 3) := by decide +kernel
theorem dX12_isTwinned_8 : decode cX12_isTwinned 8 = .ok (.iload_n 2, 1) := by decide +kernel
theorem dX12_isTwinned_9 : decode cX12_isTwinned 9 = .ok (.baload, 1) := by decide +kernel
theorem dX12_isTwinned_10 : decode cX12_isTwinned 10 = .ok (.ifCond .ne 28, 3) := by decide +kernel
theorem dX12_isTwinned_13 : decode cX12_isTwinned 13 = .ok (.aload_n 0, 1) := by decide +kernel
theorem dX12_isTwinned_14 : decode cX12_isTwinned 14 = .ok (.getfield 7, 3) := by decide +kernel
theorem dX12_isTwinned_17 : decode cX12_isTwinned 17 = .ok (.iload_n 2, 1) := by decide +kernel
theorem dX12_isTwinned_18 : decode cX12_isTwinned 18 = .ok (.iaload, 1) := by decide +kernel
theorem dX12_isTwinned_19 : decode cX12_isTwinned 19 = .ok (.bipush 8, 2) := by decide +kernel
theorem dX12_isTwinned_21 : decode cX12_isTwinned 21 = .ok (.if_icmp .eq 13, 3) := by decide +kernel
theorem dX12_isTwinned_24 : decode cX12_isTwinned 24 = .ok (.aload_n 0, 1) := by decide +kernel
theorem dX12_isTwinned_25 : decode cX12_isTwinned 25 = .ok (.getfield 30, 3) := by decide +kernel
theorem dX12_isTwinned_28 : decode cX12_isTwinned 28 = .ok (.iload_n 1, 1) := by decide +kernel
theorem dX12_isTwinned_29 : decode cX12_isTwinned 29 = .ok (.iaload, 1) := by decide +kernel
theorem dX12_isTwinned_30 : decode cX12_isTwinned 30 = .ok (.iconst 4, 1) := by decide +kernel
theorem dX12_isTwinned_31 : decode cX12_isTwinned 31 = .ok (.if_icmp .ne 7, 3) := by decide +kernel
theorem dX12_isTwinned_34 : decode cX12_isTwinned 34 = .ok (.iconst 1, 1) := by decide +kernel
theorem dX12_isTwinned_35 : decode cX12_isTwinned 35 = .ok (.goto 4, 3) := by decide +kernel
theorem dX12_isTwinned_38 : decode cX12_isTwinned 38 = .ok (.iconst 0, 1) := by decide +kernel
theorem dX12_isTwinned_39 : decode cX12_isTwinned 39 = .ok (.ireturn, 1) := by decide +kernel
def F_X12_isTwinned (d : Nat) (v0 : Option Nm) (v1 : Int32) (v2 : Int32) (h : MH) (u : Nat) (Q : Int32 → MH → Prop) : Prop :=
  if v2 < 0 then
    nz 0 ∧ Q 0 h
  else
    gR h v0 11 6 fun x1 =>
    aI .boolean h x1 v2 fun x2 =>
    if x2 = 0 then
      gR h v0 11 4 fun x3 =>
      aI .int h x3 v2 fun x4 =>
      if x4 = 8 then
        nz 1 ∧ Q 1 h
      else
        gR h v0 11 11 fun x5 =>
        aI .int h x5 v1 fun x6 =>
        if x6 = 4 then
          nz 1 ∧ Q 1 h
        else
          nz 0 ∧ Q 0 h
    else
      nz 0 ∧ Q 0 h
set_option maxRecDepth 20000 in
theorem E_X12_isTwinned {d : Nat} {v0 : Option Nm} {v1 : Int32} {v2 : Int32} {h : MH} {u : Nat} {Q : Int32 → MH → Prop} (H : F_X12_isTwinned d v0 v1 v2 h u Q) : T u_X12_isTwinned d 0 [some (jR v0), some (jI v1), some (jI v2)] [] h u (qI Q) := by
  unfold F_X12_isTwinned at H
  refine T_iload_n (pc := 0) dX12_isTwinned_0 rfl rfl ?_
  refine T_if_lt (pc := 1) (tgt := 38) dX12_isTwinned_1 (by decide) (fun hc => ?_) (fun hc => ?_)
  · rw [if_pos hc] at H
    refine T_iconst (pc := 38) (v := 0) dX12_isTwinned_38 (by decide) ?_
    exact T_ireturn (pc := 39) rfl (nz_nar H.1) dX12_isTwinned_39 H.2
  · rw [if_neg hc] at H
    refine T_aload_n (pc := 4) dX12_isTwinned_4 rfl rfl ?_
    refine T_gR (pc := 5) fa_X12_16 dX12_isTwinned_5 (gR_mono (fun x1 H => ?_) H)
    refine T_iload_n (pc := 8) dX12_isTwinned_8 rfl rfl ?_
    refine T_aZ (pc := 9) dX12_isTwinned_9 (aI_mono (fun x2 H => ?_) H)
    refine T_if_ne (pc := 10) (tgt := 38) dX12_isTwinned_10 (by decide) (fun hc => ?_) (fun hc => ?_)
    · rw [if_neg hc] at H
      refine T_iconst (pc := 38) (v := 0) dX12_isTwinned_38 (by decide) ?_
      exact T_ireturn (pc := 39) rfl (nz_nar H.1) dX12_isTwinned_39 H.2
    · rw [if_pos hc] at H
      refine T_aload_n (pc := 13) dX12_isTwinned_13 rfl rfl ?_
      refine T_gR (pc := 14) fa_X12_7 dX12_isTwinned_14 (gR_mono (fun x3 H => ?_) H)
      refine T_iload_n (pc := 17) dX12_isTwinned_17 rfl rfl ?_
      refine T_aI (pc := 18) dX12_isTwinned_18 (aI_mono (fun x4 H => ?_) H)
      refine T_bipush (pc := 19) (v := 8) dX12_isTwinned_19 (by decide) ?_
      refine T_icmp_eq (pc := 21) (tgt := 34) dX12_isTwinned_21 (by decide) (fun hc => ?_) (fun hc => ?_)
      · rw [if_pos hc] at H
        refine T_iconst (pc := 34) (v := 1) dX12_isTwinned_34 (by decide) ?_
        refine T_goto (pc := 35) (tgt := 39) dX12_isTwinned_35 (by decide) ?_
        exact T_ireturn (pc := 39) rfl (nz_nar H.1) dX12_isTwinned_39 H.2
      · rw [if_neg hc] at H
        refine T_aload_n (pc := 24) dX12_isTwinned_24 rfl rfl ?_
        refine T_gR (pc := 25) fa_X12_30 dX12_isTwinned_25 (gR_mono (fun x5 H => ?_) H)
        refine T_iload_n (pc := 28) dX12_isTwinned_28 rfl rfl ?_
        refine T_aI (pc := 29) dX12_isTwinned_29 (aI_mono (fun x6 H => ?_) H)
        refine T_iconst (pc := 30) (v := 4) dX12_isTwinned_30 (by decide) ?_
        refine T_icmp_ne (pc := 31) (tgt := 38) dX12_isTwinned_31 (by decide) (fun hc => ?_) (fun hc => ?_)
        · rw [if_neg hc] at H
          refine T_iconst (pc := 38) (v := 0) dX12_isTwinned_38 (by decide) ?_
          exact T_ireturn (pc := 39) rfl (nz_nar H.1) dX12_isTwinned_39 H.2
        · rw [if_pos hc] at H
          refine T_iconst (pc := 34) (v := 1) dX12_isTwinned_34 (by decide) ?_
          refine T_goto (pc := 35) (tgt := 39) dX12_isTwinned_35 (by decide) ?_
          exact T_ireturn (pc := 39) rfl (nz_nar H.1) dX12_isTwinned_39 H.2
theorem I_X12_isTwinned {d : Nat} {v0 : Option Nm} {v1 : Int32} {v2 : Int32} {h : MH} {u : Nat} {K : Int32 → MH → Nat → Prop} (u1 : Nat) (hu : u1 ≤ u) (H : F_X12_isTwinned d v0 v1 v2 h u1 (fun x h2 => K x h2 (u - u1))) : iI d u_X12_isTwinned [jR v0, jI v1, jI v2] h u K := inv.of u1 hu (Ct.of (by decide +kernel) rfl (Nat.le_of_ble_eq_true rfl) rfl (E_X12_isTwinned H))
theorem J_X12_isTwinned {d : Nat} {v0 : Option Nm} {v1 : Int32} {v2 : Int32} {h : MH} {u : Nat} {K : Int32 → MH → Prop} (H : F_X12_isTwinned d v0 v1 v2 h 0 K) : iI d u_X12_isTwinned [jR v0, jI v1, jI v2] h u (fun x h2 u2 => K x h2 ∧ u2 = u) := jiI (by decide +kernel) rfl (Nat.le_of_ble_eq_true rfl) rfl (E_X12_isTwinned H)
theorem dX12_newValue_0 : decode cX12_newValue 0 = .ok (.aload_n 0, 1) := by decide +kernel
theorem dX12_newValue_1 : decode cX12_newValue 1 = .ok (.getfield 66, 3) := by decide +kernel
theorem dX12_newValue_4 : decode cX12_newValue 4 = .ok (.aload_n 0, 1) := by decide +kernel
theorem dX12_newValue_5 : decode cX12_newValue 5 = .ok (.getfield 215, 3) := by decide +kernel
theorem dX12_newValue_8 : decode cX12_newValue 8 = .ok (.iload_n 1, 1) := by decide +kernel
theorem dX12_newValue_9 : decode cX12_newValue 9 = .ok (.iastore, 1) := by decide +kernel
theorem dX12_newValue_10 : decode cX12_newValue 10 = .ok (.aload_n 0, 1) := by decide +kernel
theorem dX12_newValue_11 : decode cX12_newValue 11 = .ok (.getfield 69, 3) := by decide +kernel
theorem dX12_newValue_14 : decode cX12_newValue 14 = .ok (.aload_n 0, 1) := by decide +kernel
theorem dX12_newValue_15 : decode cX12_newValue 15 = .ok (.getfield 215, 3) := by decide +kernel
theorem dX12_newValue_18 : decode cX12_newValue 18 = .ok (.aload_n 0, 1) := by decide +kernel
theorem dX12_newValue_19 : decode cX12_newValue 19 = .ok (.getfield 36, 3) := by decide +kernel
theorem dX12_newValue_22 : decode cX12_newValue 22 = .ok (.iload_n 1, 1) := by decide +kernel
theorem dX12_newValue_23 : decode cX12_newValue 23 = .ok (.iaload, 1) := by decide +kernel
theorem dX12_newValue_24 : decode cX12_newValue 24 = .ok (.iastore, 1) := by decide +kernel
theorem dX12_newValue_25 : decode cX12_newValue 25 = .ok (.aload_n 0, 1) := by decide +kernel
theorem dX12_newValue_26 : decode cX12_newValue 26 = .ok (.getfield 72, 3) := by decide +kernel
theorem dX12_newValue_29 : decode cX12_newValue 29 = .ok (.aload_n 0, 1) := by decide +kernel
theorem dX12_newValue_30 : decode cX12_newValue 30 = .ok (.getfield 215, 3) := by decide +kernel
theorem dX12_newValue_33 : decode cX12_newValue 33 = .ok (.aload_n 0, 1) := by decide +kernel
theorem dX12_newValue_34 : decode cX12_newValue 34 = .ok (.getfield 39, 3) := by decide +kernel
theorem dX12_newValue_37 : decode cX12_newValue 37 = .ok (.iload_n 1, 1) := by decide +kernel
theorem dX12_newValue_38 : decode cX12_newValue 38 = .ok (.iaload, 1) := by decide +kernel
theorem dX12_newValue_39 : decode cX12_newValue 39 = .ok (.iastore, 1) := by decide +kernel
theorem dX12_newValue_40 : decode cX12_newValue 40 = .ok (.aload_n 0, 1) := by decide +kernel
theorem dX12_newValue_41 : decode cX12_newValue 41 = .ok (.getfield 39, 3) := by decide +kernel
theorem dX12_newValue_44 : decode cX12_newValue 44 = .ok (.iload_n 1, 1) := by decide +kernel
theorem dX12_newValue_45 : decode cX12_newValue 45 = .ok (.dup2, 1) := by decide +kernel
theorem dX12_newValue_46 : decode cX12_newValue 46 = .ok (.iaload, 1) := by decide +kernel
theorem dX12_newValue_47 : decode cX12_newValue 47 = .ok (.iconst 1, 1) := by decide +kernel
theorem dX12_newValue_48 : decode cX12_newValue 48 = .ok (.iadd, 1) := by decide +kernel
theorem dX12_newValue_49 : decode cX12_newValue 49 = .ok (.iastore, 1) := by decide +kernel
theorem dX12_newValue_50 : decode cX12_newValue 50 = .ok (.aload_n 0, 1) := by decide +kernel
theorem dX12_newValue_51 : decode cX12_newValue 51 = .ok (.dup, 1) := by decide +kernel
theorem dX12_newValue_52 : decode cX12_newValue 52 = .ok (.getfield 215, 3) := by decide +kernel
theorem dX12_newValue_55 : decode cX12_newValue 55 = .ok (.iconst 1, 1) := by decide +kernel
theorem dX12_newValue_56 : decode cX12_newValue 56 = .ok (.iadd, 1) := by decide +kernel
theorem dX12_newValue_57 : decode cX12_newValue 57 = .ok (.putfield 215, 3) := by decide +kernel
theorem dX12_newValue_60 : decode cX12_newValue 60 = .ok (.aload_n 0, 1) := by decide +kernel
theorem dX12_newValue_61 : decode cX12_newValue 61 = .ok (.getfield 215, 3) := by decide +kernel
theorem dX12_newValue_64 : decode cX12_newValue 64 = .ok (.iconst 1, 1) := by decide +kernel
theorem dX12_newValue_65 : decode cX12_newValue 65 = .ok (.isub, 1) := by decide +kernel
theorem dX12_newValue_66 : decode cX12_newValue 66 = .ok (.ireturn, 1) := by decide +kernel
def F_X12_newValue (d : Nat) (v0 : Option Nm) (v1 : Int32) (h : MH) (u : Nat) (Q : Int32 → MH → Prop) : Prop :=
  gR h v0 11 25 fun x1 =>
  gI h v0 11 24 fun x2 =>
  sV .int h x1 x2 (jI v1) fun h =>
  gR h v0 11 26 fun x3 =>
  gI h v0 11 24 fun x4 =>
  gR h v0 11 13 fun x5 =>
  aI .int h x5 v1 fun x6 =>
  sV .int h x3 x4 (jI x6) fun h =>
  gR h v0 11 27 fun x7 =>
  gI h v0 11 24 fun x8 =>
  gR h v0 11 14 fun x9 =>
  aI .int h x9 v1 fun x10 =>
  sV .int h x7 x8 (jI x10) fun h =>
  gR h v0 11 14 fun x11 =>
  aI .int h x11 v1 fun x12 =>
  sV .int h x11 v1 (jI (x12 + 1)) fun h =>
  gI h v0 11 24 fun x13 =>
  pV h v0 11 24 (jI (x13 + 1)) fun h =>
  gI h v0 11 24 fun x14 =>
  Q (x14 - 1) h
set_option maxRecDepth 20000 in
theorem E_X12_newValue {d : Nat} {v0 : Option Nm} {v1 : Int32} {h : MH} {u : Nat} {Q : Int32 → MH → Prop} (H : F_X12_newValue d v0 v1 h u Q) : T u_X12_newValue d 0 [some (jR v0), some (jI v1)] [] h u (qI Q) := by
  unfold F_X12_newValue at H
  refine T_aload_n (pc := 0) dX12_newValue_0 rfl rfl ?_
  refine T_gR (pc := 1) fa_X12_66 dX12_newValue_1 (gR_mono (fun x1 H => ?_) H)
  refine T_aload_n (pc := 4) dX12_newValue_4 rfl rfl ?_
  refine T_gI (pc := 5) fa_X12_215 dX12_newValue_5 (gI_mono (fun x2 H => ?_) H)
  refine T_iload_n (pc := 8) dX12_newValue_8 rfl rfl ?_
  refine T_sI (pc := 9) dX12_newValue_9 (sV_mono (fun h H => ?_) H)
  refine T_aload_n (pc := 10) dX12_newValue_10 rfl rfl ?_
  refine T_gR (pc := 11) fa_X12_69 dX12_newValue_11 (gR_mono (fun x3 H => ?_) H)
  refine T_aload_n (pc := 14) dX12_newValue_14 rfl rfl ?_
  refine T_gI (pc := 15) fa_X12_215 dX12_newValue_15 (gI_mono (fun x4 H => ?_) H)
  refine T_aload_n (pc := 18) dX12_newValue_18 rfl rfl ?_
  refine T_gR (pc := 19) fa_X12_36 dX12_newValue_19 (gR_mono (fun x5 H => ?_) H)
  refine T_iload_n (pc := 22) dX12_newValue_22 rfl rfl ?_
  refine T_aI (pc := 23) dX12_newValue_23 (aI_mono (fun x6 H => ?_) H)
  refine T_sI (pc := 24) dX12_newValue_24 (sV_mono (fun h H => ?_) H)
  refine T_aload_n (pc := 25) dX12_newValue_25 rfl rfl ?_
  refine T_gR (pc := 26) fa_X12_72 dX12_newValue_26 (gR_mono (fun x7 H => ?_) H)
  refine T_aload_n (pc := 29) dX12_newValue_29 rfl rfl ?_
  refine T_gI (pc := 30) fa_X12_215 dX12_newValue_30 (gI_mono (fun x8 H => ?_) H)
  refine T_aload_n (pc := 33) dX12_newValue_33 rfl rfl ?_
  refine T_gR (pc := 34) fa_X12_39 dX12_newValue_34 (gR_mono (fun x9 H => ?_) H)
  refine T_iload_n (pc := 37) dX12_newValue_37 rfl rfl ?_
  refine T_aI (pc := 38) dX12_newValue_38 (aI_mono (fun x10 H => ?_) H)
  refine T_sI (pc := 39) dX12_newValue_39 (sV_mono (fun h H => ?_) H)
  refine T_aload_n (pc := 40) dX12_newValue_40 rfl rfl ?_
  refine T_gR (pc := 41) fa_X12_39 dX12_newValue_41 (gR_mono (fun x11 H => ?_) H)
  refine T_iload_n (pc := 44) dX12_newValue_44 rfl rfl ?_
  refine T_dup2 (pc := 45) rfl rfl dX12_newValue_45 ?_
  refine T_aI (pc := 46) dX12_newValue_46 (aI_mono (fun x12 H => ?_) H)
  refine T_iconst (pc := 47) (v := 1) dX12_newValue_47 (by decide) ?_
  refine T_iadd (pc := 48) dX12_newValue_48 ?_
  refine T_sI (pc := 49) dX12_newValue_49 (sV_mono (fun h H => ?_) H)
  refine T_aload_n (pc := 50) dX12_newValue_50 rfl rfl ?_
  refine T_dup (pc := 51) rfl dX12_newValue_51 ?_
  refine T_gI (pc := 52) fa_X12_215 dX12_newValue_52 (gI_mono (fun x13 H => ?_) H)
  refine T_iconst (pc := 55) (v := 1) dX12_newValue_55 (by decide) ?_
  refine T_iadd (pc := 56) dX12_newValue_56 ?_
  refine T_pV (pc := 57) fa_X12_215 dX12_newValue_57 trivial (pV_mono (fun h H => ?_) H)
  refine T_aload_n (pc := 60) dX12_newValue_60 rfl rfl ?_
  refine T_gI (pc := 61) fa_X12_215 dX12_newValue_61 (gI_mono (fun x14 H => ?_) H)
  refine T_iconst (pc := 64) (v := 1) dX12_newValue_64 (by decide) ?_
  refine T_isub (pc := 65) dX12_newValue_65 ?_
  exact T_ireturn (pc := 66) rfl rfl dX12_newValue_66 H
theorem I_X12_newValue {d : Nat} {v0 : Option Nm} {v1 : Int32} {h : MH} {u : Nat} {K : Int32 → MH → Nat → Prop} (u1 : Nat) (hu : u1 ≤ u) (H : F_X12_newValue d v0 v1 h u1 (fun x h2 => K x h2 (u - u1))) : iI d u_X12_newValue [jR v0, jI v1] h u K := inv.of u1 hu (Ct.of (by decide +kernel) rfl (Nat.le_of_ble_eq_true rfl) rfl (E_X12_newValue H))
theorem J_X12_newValue {d : Nat} {v0 : Option Nm} {v1 : Int32} {h : MH} {u : Nat} {K : Int32 → MH → Prop} (H : F_X12_newValue d v0 v1 h 0 K) : iI d u_X12_newValue [jR v0, jI v1] h u (fun x h2 u2 => K x h2 ∧ u2 = u) := jiI (by decide +kernel) rfl (Nat.le_of_ble_eq_true rfl) rfl (E_X12_newValue H)
theorem dX12_newestOf_0 : decode cX12_newestOf 0 = .ok (.iconst 4, 1) := by decide +kernel
theorem dX12_newestOf_1 : decode cX12_newestOf 1 = .ok (.iload_n 1, 1) := by decide +kernel
theorem dX12_newestOf_2 : decode cX12_newestOf 2 = .ok (.imul, 1) := by decide +kernel
theorem dX12_newestOf_3 : decode cX12_newestOf 3 = .ok (.aload_n 0, 1) := by decide +kernel
theorem dX12_newestOf_4 : decode cX12_newestOf 4 = .ok (.getfield 36, 3) := by decide +kernel
theorem dX12_newestOf_7 : decode cX12_newestOf 7 = .ok (.iload_n 1, 1) := by decide +kernel
theorem dX12_newestOf_8 : decode cX12_newestOf 8 = .ok (.iaload, 1) := by decide +kernel
theorem dX12_newestOf_9 : decode cX12_newestOf 9 = .ok (.iadd, 1) := by decide +kernel
theorem dX12_newestOf_10 : decode cX12_newestOf 10 = .ok (.ireturn, 1) := by decide +kernel
def F_X12_newestOf (d : Nat) (v0 : Option Nm) (v1 : Int32) (h : MH) (u : Nat) (Q : Int32 → MH → Prop) : Prop :=
  gR h v0 11 13 fun x1 =>
  aI .int h x1 v1 fun x2 =>
  Q ((4 * v1) + x2) h
set_option maxRecDepth 20000 in
theorem E_X12_newestOf {d : Nat} {v0 : Option Nm} {v1 : Int32} {h : MH} {u : Nat} {Q : Int32 → MH → Prop} (H : F_X12_newestOf d v0 v1 h u Q) : T u_X12_newestOf d 0 [some (jR v0), some (jI v1)] [] h u (qI Q) := by
  unfold F_X12_newestOf at H
  refine T_iconst (pc := 0) (v := 4) dX12_newestOf_0 (by decide) ?_
  refine T_iload_n (pc := 1) dX12_newestOf_1 rfl rfl ?_
  refine T_imul (pc := 2) dX12_newestOf_2 ?_
  refine T_aload_n (pc := 3) dX12_newestOf_3 rfl rfl ?_
  refine T_gR (pc := 4) fa_X12_36 dX12_newestOf_4 (gR_mono (fun x1 H => ?_) H)
  refine T_iload_n (pc := 7) dX12_newestOf_7 rfl rfl ?_
  refine T_aI (pc := 8) dX12_newestOf_8 (aI_mono (fun x2 H => ?_) H)
  refine T_iadd (pc := 9) dX12_newestOf_9 ?_
  exact T_ireturn (pc := 10) rfl rfl dX12_newestOf_10 H
theorem I_X12_newestOf {d : Nat} {v0 : Option Nm} {v1 : Int32} {h : MH} {u : Nat} {K : Int32 → MH → Nat → Prop} (u1 : Nat) (hu : u1 ≤ u) (H : F_X12_newestOf d v0 v1 h u1 (fun x h2 => K x h2 (u - u1))) : iI d u_X12_newestOf [jR v0, jI v1] h u K := inv.of u1 hu (Ct.of (by decide +kernel) rfl (Nat.le_of_ble_eq_true rfl) rfl (E_X12_newestOf H))
theorem J_X12_newestOf {d : Nat} {v0 : Option Nm} {v1 : Int32} {h : MH} {u : Nat} {K : Int32 → MH → Prop} (H : F_X12_newestOf d v0 v1 h 0 K) : iI d u_X12_newestOf [jR v0, jI v1] h u (fun x h2 u2 => K x h2 ∧ u2 = u) := jiI (by decide +kernel) rfl (Nat.le_of_ble_eq_true rfl) rfl (E_X12_newestOf H)
theorem dX12_finish_0 : decode cX12_finish 0 = .ok (.aload_n 0, 1) := by decide +kernel
theorem dX12_finish_1 : decode cX12_finish 1 = .ok (.iload_n 1, 1) := by decide +kernel
theorem dX12_finish_2 : decode cX12_finish 2 = .ok (.invokevirtual 225, 3) := by decide +kernel
theorem dX12_finish_5 : decode cX12_finish 5 = .ok (.istore_n 2, 1) := by decide +kernel
theorem dX12_finish_6 : decode cX12_finish 6 = .ok (.iconst 0, 1) := by decide +kernel
theorem dX12_finish_7 : decode cX12_finish 7 = .ok (.istore_n 3, 1) := by decide +kernel
theorem dX12_finish_8 : decode cX12_finish 8 = .ok (.iconst 0, 1) := by decide +kernel
theorem dX12_finish_9 : decode cX12_finish 9 = .ok (.istore 4, 2) := by decide +kernel
theorem dX12_finish_11 : decode cX12_finish 11 = .ok (.iload 4, 2) := by decide +kernel
theorem dX12_finish_13 : decode cX12_finish 13 = .ok (.aload_n 0, 1) := by decide +kernel
theorem dX12_finish_14 : decode cX12_finish 14 = .ok (.getfield 42, 3) := by decide +kernel
theorem dX12_finish_17 : decode cX12_finish 17 = .ok (.iload_n 2, 1) := by decide +kernel
theorem dX12_finish_18 : decode cX12_finish 18 = .ok (.iaload, 1) := by decide +kernel
theorem dX12_finish_19 : decode cX12_finish 19 = .ok (.if_icmp .ge 50, 3) := by decide +kernel
theorem dX12_finish_22 : decode cX12_finish 22 = .ok (.iload_n 3, 1) := by decide +kernel
theorem dX12_finish_23 : decode cX12_finish 23 = .ok (.aload_n 0, 1) := by decide +kernel
theorem dX12_finish_24 : decode cX12_finish 24 = .ok (.getfield 48, 3) := by decide +kernel
theorem dX12_finish_27 : decode cX12_finish 27 = .ok (.bipush 8, 2) := by decide +kernel
theorem dX12_finish_29 : decode cX12_finish 29 = .ok (.iload_n 2, 1) := by decide +kernel
theorem dX12_finish_30 : decode cX12_finish 30 = .ok (.imul, 1) := by decide +kernel
theorem dX12_finish_31 : decode cX12_finish 31 = .ok (.iload 4, 2) := by decide +kernel
theorem dX12_finish_33 : decode cX12_finish 33 = .ok (.iadd, 1) := by decide +kernel
theorem dX12_finish_34 : decode cX12_finish 34 = .ok (.iaload, 1) := by decide +kernel
theorem dX12_finish_35 : decode cX12_finish 35 = .ok (.bipush 9, 2) := by decide +kernel
theorem dX12_finish_37 : decode cX12_finish 37 = .ok (.if_icmp .ne 23, 3) := by decide +kernel
theorem dX12_finish_40 : decode cX12_finish 40 = .ok (.aload_n 0, 1) := by decide +kernel
theorem dX12_finish_41 : decode cX12_finish 41 = .ok (.iload_n 1, 1) := by decide +kernel
theorem dX12_finish_42 : decode cX12_finish 42 = .ok (.aload_n 0, 1) := by decide +kernel
theorem dX12_finish_43 : decode cX12_finish 43 = .ok (.getfield 87, 3) := by decide +kernel
theorem dX12_finish_46 : decode cX12_finish 46 = .ok (.iload 4, 2) := by decide +kernel
theorem dX12_finish_48 : decode cX12_finish 48 = .ok (.laload, 1) := by decide +kernel
theorem dX12_finish_49 : decode cX12_finish 49 = .ok (.l2i, 1) := by decide +kernel
theorem dX12_finish_50 : decode cX12_finish 50 = .ok (.invokevirtual 240, 3) := by decide +kernel
theorem dX12_finish_53 : decode cX12_finish 53 = .ok (.ifCond .eq 7, 3) := by decide +kernel
theorem dX12_finish_56 : decode cX12_finish 56 = .ok (.iconst 1, 1) := by decide +kernel
theorem dX12_finish_57 : decode cX12_finish 57 = .ok (.goto 4, 3) := by decide +kernel
theorem dX12_finish_60 : decode cX12_finish 60 = .ok (.iconst 0, 1) := by decide +kernel
theorem dX12_finish_61 : decode cX12_finish 61 = .ok (.iadd, 1) := by decide +kernel
theorem dX12_finish_62 : decode cX12_finish 62 = .ok (.istore_n 3, 1) := by decide +kernel
theorem dX12_finish_63 : decode cX12_finish 63 = .ok (.iinc 4 1, 3) := by decide +kernel
theorem dX12_finish_66 : decode cX12_finish 66 = .ok (.goto (-55), 3) := by decide +kernel
theorem dX12_finish_69 : decode cX12_finish 69 = .ok (.aload_n 0, 1) := by decide +kernel
theorem dX12_finish_70 : decode cX12_finish 70 = .ok (.getfield 153, 3) := by decide +kernel
theorem dX12_finish_73 : decode cX12_finish 73 = .ok (.iload_n 3, 1) := by decide +kernel
theorem dX12_finish_74 : decode cX12_finish 74 = .ok (.iadd, 1) := by decide +kernel
theorem dX12_finish_75 : decode cX12_finish 75 = .ok (.bipush 60, 2) := by decide +kernel
theorem dX12_finish_77 : decode cX12_finish 77 = .ok (.if_icmp .le 6, 3) := by decide +kernel
theorem dX12_finish_80 : decode cX12_finish 80 = .ok (.bipush (-4), 2) := by decide +kernel
theorem dX12_finish_82 : decode cX12_finish 82 = .ok (.ireturn, 1) := by decide +kernel
theorem dX12_finish_83 : decode cX12_finish 83 = .ok (.aload_n 0, 1) := by decide +kernel
theorem dX12_finish_84 : decode cX12_finish 84 = .ok (.iload_n 1, 1) := by decide +kernel
theorem dX12_finish_85 : decode cX12_finish 85 = .ok (.iload_n 2, 1) := by decide +kernel
theorem dX12_finish_86 : decode cX12_finish 86 = .ok (.invokevirtual 243, 3) := by decide +kernel
theorem dX12_finish_89 : decode cX12_finish 89 = .ok (.ifCond .eq 9, 3) := by decide +kernel
theorem dX12_finish_92 : decode cX12_finish 92 = .ok (.aload_n 0, 1) := by decide +kernel
theorem dX12_finish_93 : decode cX12_finish 93 = .ok (.iconst 5, 1) := by decide +kernel
theorem dX12_finish_94 : decode cX12_finish 94 = .ok (.invokevirtual 166, 3) := by decide +kernel
theorem dX12_finish_97 : decode cX12_finish 97 = .ok (.ireturn, 1) := by decide +kernel
theorem dX12_finish_98 : decode cX12_finish 98 = .ok (.aload_n 0, 1) := by decide +kernel
theorem dX12_finish_99 : decode cX12_finish 99 = .ok (.iconst 1, 1) := by decide +kernel
theorem dX12_finish_100 : decode cX12_finish 100 = .ok (.putfield 234, 3) := by decide +kernel
theorem dX12_finish_103 : decode cX12_finish 103 = .ok (.aload_n 0, 1) := by decide +kernel
theorem dX12_finish_104 : decode cX12_finish 104 = .ok (.iconst 0, 1) := by decide +kernel
theorem dX12_finish_105 : decode cX12_finish 105 = .ok (.putfield 237, 3) := by decide +kernel
theorem dX12_finish_108 : decode cX12_finish 108 = .ok (.iconst 0, 1) := by decide +kernel
theorem dX12_finish_109 : decode cX12_finish 109 = .ok (.istore 4, 2) := by decide +kernel
theorem dX12_finish_111 : decode cX12_finish 111 = .ok (.iload 4, 2) := by decide +kernel
theorem dX12_finish_113 : decode cX12_finish 113 = .ok (.aload_n 0, 1) := by decide +kernel
theorem dX12_finish_114 : decode cX12_finish 114 = .ok (.getfield 42, 3) := by decide +kernel
theorem dX12_finish_117 : decode cX12_finish 117 = .ok (.iload_n 2, 1) := by decide +kernel
theorem dX12_finish_118 : decode cX12_finish 118 = .ok (.iaload, 1) := by decide +kernel
theorem dX12_finish_119 : decode cX12_finish 119 = .ok (.if_icmp .ge 137, 3) := by decide +kernel
theorem dX12_finish_122 : decode cX12_finish 122 = .ok (.aload_n 0, 1) := by decide +kernel
theorem dX12_finish_123 : decode cX12_finish 123 = .ok (.getfield 48, 3) := by decide +kernel
theorem dX12_finish_126 : decode cX12_finish 126 = .ok (.bipush 8, 2) := by decide +kernel
theorem dX12_finish_128 : decode cX12_finish 128 = .ok (.iload_n 2, 1) := by decide +kernel
theorem dX12_finish_129 : decode cX12_finish 129 = .ok (.imul, 1) := by decide +kernel
theorem dX12_finish_130 : decode cX12_finish 130 = .ok (.iload 4, 2) := by decide +kernel
theorem dX12_finish_132 : decode cX12_finish 132 = .ok (.iadd, 1) := by decide +kernel
theorem dX12_finish_133 : decode cX12_finish 133 = .ok (.iaload, 1) := by decide +kernel
theorem dX12_finish_134 : decode cX12_finish 134 = .ok (.bipush 8, 2) := by decide +kernel
theorem dX12_finish_136 : decode cX12_finish 136 = .ok (.if_icmp .ne 17, 3) := by decide +kernel
theorem dX12_finish_139 : decode cX12_finish 139 = .ok (.aload_n 0, 1) := by decide +kernel
theorem dX12_finish_140 : decode cX12_finish 140 = .ok (.aload_n 0, 1) := by decide +kernel
theorem dX12_finish_141 : decode cX12_finish 141 = .ok (.getfield 87, 3) := by decide +kernel
theorem dX12_finish_144 : decode cX12_finish 144 = .ok (.iload 4, 2) := by decide +kernel
theorem dX12_finish_146 : decode cX12_finish 146 = .ok (.laload, 1) := by decide +kernel
theorem dX12_finish_147 : decode cX12_finish 147 = .ok (.invokevirtual 246, 3) := by decide +kernel
theorem dX12_finish_150 : decode cX12_finish 150 = .ok (.goto 100, 3) := by decide +kernel
theorem dX12_finish_153 : decode cX12_finish 153 = .ok (.aload_n 0, 1) := by decide +kernel
theorem dX12_finish_154 : decode cX12_finish 154 = .ok (.getfield 48, 3) := by decide +kernel
theorem dX12_finish_157 : decode cX12_finish 157 = .ok (.bipush 8, 2) := by decide +kernel
theorem dX12_finish_159 : decode cX12_finish 159 = .ok (.iload_n 2, 1) := by decide +kernel
theorem dX12_finish_160 : decode cX12_finish 160 = .ok (.imul, 1) := by decide +kernel
theorem dX12_finish_161 : decode cX12_finish 161 = .ok (.iload 4, 2) := by decide +kernel
theorem dX12_finish_163 : decode cX12_finish 163 = .ok (.iadd, 1) := by decide +kernel
theorem dX12_finish_164 : decode cX12_finish 164 = .ok (.iaload, 1) := by decide +kernel
theorem dX12_finish_165 : decode cX12_finish 165 = .ok (.bipush 9, 2) := by decide +kernel
theorem dX12_finish_167 : decode cX12_finish 167 = .ok (.if_icmp .ne 83, 3) := by decide +kernel
theorem dX12_finish_170 : decode cX12_finish 170 = .ok (.aload_n 0, 1) := by decide +kernel
theorem dX12_finish_171 : decode cX12_finish 171 = .ok (.getfield 87, 3) := by decide +kernel
theorem dX12_finish_174 : decode cX12_finish 174 = .ok (.iload 4, 2) := by decide +kernel
theorem dX12_finish_176 : decode cX12_finish 176 = .ok (.laload, 1) := by decide +kernel
theorem dX12_finish_177 : decode cX12_finish 177 = .ok (.lconst 0, 1) := by decide +kernel
theorem dX12_finish_178 : decode cX12_finish 178 = .ok (.lcmp, 1) := by decide +kernel
theorem dX12_finish_179 : decode cX12_finish 179 = .ok (.ifCond .lt 71, 3) := by decide +kernel
theorem dX12_finish_182 : decode cX12_finish 182 = .ok (.aload_n 0, 1) := by decide +kernel
theorem dX12_finish_183 : decode cX12_finish 183 = .ok (.getfield 7, 3) := by decide +kernel
theorem dX12_finish_186 : decode cX12_finish 186 = .ok (.aload_n 0, 1) := by decide +kernel
theorem dX12_finish_187 : decode cX12_finish 187 = .ok (.getfield 87, 3) := by decide +kernel
theorem dX12_finish_190 : decode cX12_finish 190 = .ok (.iload 4, 2) := by decide +kernel
theorem dX12_finish_192 : decode cX12_finish 192 = .ok (.laload, 1) := by decide +kernel
theorem dX12_finish_193 : decode cX12_finish 193 = .ok (.l2i, 1) := by decide +kernel
theorem dX12_finish_194 : decode cX12_finish 194 = .ok (.iaload, 1) := by decide +kernel
theorem dX12_finish_195 : decode cX12_finish 195 = .ok (.bipush 8, 2) := by decide +kernel
theorem dX12_finish_197 : decode cX12_finish 197 = .ok (.if_icmp .ne 53, 3) := by decide +kernel
theorem dX12_finish_200 : decode cX12_finish 200 = .ok (.iconst 0, 1) := by decide +kernel
theorem dX12_finish_201 : decode cX12_finish 201 = .ok (.istore 5, 2) := by decide +kernel
theorem dX12_finish_203 : decode cX12_finish 203 = .ok (.iload 5, 2) := by decide +kernel
theorem dX12_finish_205 : decode cX12_finish 205 = .ok (.aload_n 0, 1) := by decide +kernel
theorem dX12_finish_206 : decode cX12_finish 206 = .ok (.getfield 13, 3) := by decide +kernel
theorem dX12_finish_209 : decode cX12_finish 209 = .ok (.aload_n 0, 1) := by decide +kernel
theorem dX12_finish_210 : decode cX12_finish 210 = .ok (.getfield 87, 3) := by decide +kernel
theorem dX12_finish_213 : decode cX12_finish 213 = .ok (.iload 4, 2) := by decide +kernel
theorem dX12_finish_215 : decode cX12_finish 215 = .ok (.laload, 1) := by decide +kernel
theorem dX12_finish_216 : decode cX12_finish 216 = .ok (.l2i, 1) := by decide +kernel
theorem dX12_finish_217 : decode cX12_finish 217 = .ok (.iaload, 1) := by decide +kernel
theorem dX12_finish_218 : decode cX12_finish 218 = .ok (.if_icmp .ge 32, 3) := by decide +kernel
theorem dX12_finish_221 : decode cX12_finish 221 = .ok (.aload_n 0, 1) := by decide +kernel
theorem dX12_finish_222 : decode cX12_finish 222 = .ok (.aload_n 0, 1) := by decide +kernel
theorem dX12_finish_223 : decode cX12_finish 223 = .ok (.getfield 20, 3) := by decide +kernel
theorem dX12_finish_226 : decode cX12_finish 226 = .ok (.bipush 20, 2) := by decide +kernel
theorem dX12_finish_228 : decode cX12_finish 228 = .ok (.aload_n 0, 1) := by decide +kernel
theorem dX12_finish_229 : decode cX12_finish 229 = .ok (.getfield 87, 3) := by decide +kernel
theorem dX12_finish_232 : decode cX12_finish 232 = .ok (.iload 4, 2) := by decide +kernel
theorem dX12_finish_234 : decode cX12_finish 234 = .ok (.laload, 1) := by decide +kernel
theorem dX12_finish_235 : decode cX12_finish 235 = .ok (.l2i, 1) := by decide +kernel
theorem dX12_finish_236 : decode cX12_finish 236 = .ok (.imul, 1) := by decide +kernel
theorem dX12_finish_237 : decode cX12_finish 237 = .ok (.iload 5, 2) := by decide +kernel
theorem dX12_finish_239 : decode cX12_finish 239 = .ok (.iadd, 1) := by decide +kernel
theorem dX12_finish_240 : decode cX12_finish 240 = .ok (.laload, 1) := by decide +kernel
theorem dX12_finish_241 : decode cX12_finish 241 = .ok (.invokevirtual 246, 3) := by decide +kernel
theorem dX12_finish_244 : decode cX12_finish 244 = .ok (.iinc 5 1, 3) := by decide +kernel
theorem dX12_finish_247 : decode cX12_finish 247 = .ok (.goto (-44), 3) := by decide +kernel
theorem dX12_finish_250 : decode cX12_finish 250 = .ok (.iinc 4 1, 3) := by decide +kernel
theorem dX12_finish_253 : decode cX12_finish 253 = .ok (.goto (-142), 3) := by decide +kernel
theorem dX12_finish_256 : decode cX12_finish 256 = .ok (.aload_n 0, 1) := by decide +kernel
theorem dX12_finish_257 : decode cX12_finish 257 = .ok (.getfield 234, 3) := by decide +kernel
theorem dX12_finish_260 : decode cX12_finish 260 = .ok (.sipush 300, 3) := by decide +kernel
theorem dX12_finish_263 : decode cX12_finish 263 = .ok (.if_icmp .gt 14, 3) := by decide +kernel
theorem dX12_finish_266 : decode cX12_finish 266 = .ok (.aload_n 0, 1) := by decide +kernel
theorem dX12_finish_267 : decode cX12_finish 267 = .ok (.getfield 237, 3) := by decide +kernel
theorem dX12_finish_270 : decode cX12_finish 270 = .ok (.iconst 1, 1) := by decide +kernel
theorem dX12_finish_271 : decode cX12_finish 271 = .ok (.iadd, 1) := by decide +kernel
theorem dX12_finish_272 : decode cX12_finish 272 = .ok (.bipush 8, 2) := by decide +kernel
theorem dX12_finish_274 : decode cX12_finish 274 = .ok (.if_icmp .le 6, 3) := by decide +kernel
theorem dX12_finish_277 : decode cX12_finish 277 = .ok (.bipush (-4), 2) := by decide +kernel
theorem dX12_finish_279 : decode cX12_finish 279 = .ok (.ireturn, 1) := by decide +kernel
theorem dX12_finish_280 : decode cX12_finish 280 = .ok (.aload_n 0, 1) := by decide +kernel
theorem dX12_finish_281 : decode cX12_finish 281 = .ok (.iload_n 1, 1) := by decide +kernel
theorem dX12_finish_282 : decode cX12_finish 282 = .ok (.invokevirtual 212, 3) := by decide +kernel
theorem dX12_finish_285 : decode cX12_finish 285 = .ok (.istore 4, 2) := by decide +kernel
theorem dX12_finish_287 : decode cX12_finish 287 = .ok (.aload_n 0, 1) := by decide +kernel
theorem dX12_finish_288 : decode cX12_finish 288 = .ok (.getfield 75, 3) := by decide +kernel
theorem dX12_finish_291 : decode cX12_finish 291 = .ok (.iload 4, 2) := by decide +kernel
theorem dX12_finish_293 : decode cX12_finish 293 = .ok (.aload_n 0, 1) := by decide +kernel
theorem dX12_finish_294 : decode cX12_finish 294 = .ok (.getfield 234, 3) := by decide +kernel
theorem dX12_finish_297 : decode cX12_finish 297 = .ok (.iastore, 1) := by decide +kernel
theorem dX12_finish_298 : decode cX12_finish 298 = .ok (.aload_n 0, 1) := by decide +kernel
theorem dX12_finish_299 : decode cX12_finish 299 = .ok (.getfield 78, 3) := by decide +kernel
theorem dX12_finish_302 : decode cX12_finish 302 = .ok (.iload 4, 2) := by decide +kernel
theorem dX12_finish_304 : decode cX12_finish 304 = .ok (.aload_n 0, 1) := by decide +kernel
theorem dX12_finish_305 : decode cX12_finish 305 = .ok (.getfield 237, 3) := by decide +kernel
theorem dX12_finish_308 : decode cX12_finish 308 = .ok (.iconst 1, 1) := by decide +kernel
theorem dX12_finish_309 : decode cX12_finish 309 = .ok (.iadd, 1) := by decide +kernel
theorem dX12_finish_310 : decode cX12_finish 310 = .ok (.iastore, 1) := by decide +kernel
theorem dX12_finish_311 : decode cX12_finish 311 = .ok (.iconst 0, 1) := by decide +kernel
theorem dX12_finish_312 : decode cX12_finish 312 = .ok (.istore 5, 2) := by decide +kernel
theorem dX12_finish_314 : decode cX12_finish 314 = .ok (.iload 5, 2) := by decide +kernel
theorem dX12_finish_316 : decode cX12_finish 316 = .ok (.aload_n 0, 1) := by decide +kernel
theorem dX12_finish_317 : decode cX12_finish 317 = .ok (.getfield 42, 3) := by decide +kernel
theorem dX12_finish_320 : decode cX12_finish 320 = .ok (.iload_n 2, 1) := by decide +kernel
theorem dX12_finish_321 : decode cX12_finish 321 = .ok (.iaload, 1) := by decide +kernel
theorem dX12_finish_322 : decode cX12_finish 322 = .ok (.if_icmp .ge 110, 3) := by decide +kernel
theorem dX12_finish_325 : decode cX12_finish 325 = .ok (.aload_n 0, 1) := by decide +kernel
theorem dX12_finish_326 : decode cX12_finish 326 = .ok (.getfield 48, 3) := by decide +kernel
theorem dX12_finish_329 : decode cX12_finish 329 = .ok (.bipush 8, 2) := by decide +kernel
theorem dX12_finish_331 : decode cX12_finish 331 = .ok (.iload_n 2, 1) := by decide +kernel
theorem dX12_finish_332 : decode cX12_finish 332 = .ok (.imul, 1) := by decide +kernel
theorem dX12_finish_333 : decode cX12_finish 333 = .ok (.iload 5, 2) := by decide +kernel
theorem dX12_finish_335 : decode cX12_finish 335 = .ok (.iadd, 1) := by decide +kernel
theorem dX12_finish_336 : decode cX12_finish 336 = .ok (.iaload, 1) := by decide +kernel
theorem dX12_finish_337 : decode cX12_finish 337 = .ok (.bipush 9, 2) := by decide +kernel
theorem dX12_finish_339 : decode cX12_finish 339 = .ok (.if_icmp .ne 67, 3) := by decide +kernel
theorem dX12_finish_342 : decode cX12_finish 342 = .ok (.aload_n 0, 1) := by decide +kernel
theorem dX12_finish_343 : decode cX12_finish 343 = .ok (.iload_n 1, 1) := by decide +kernel
theorem dX12_finish_344 : decode cX12_finish 344 = .ok (.aload_n 0, 1) := by decide +kernel
theorem dX12_finish_345 : decode cX12_finish 345 = .ok (.getfield 87, 3) := by decide +kernel
theorem dX12_finish_348 : decode cX12_finish 348 = .ok (.iload 5, 2) := by decide +kernel
theorem dX12_finish_350 : decode cX12_finish 350 = .ok (.laload, 1) := by decide +kernel
theorem dX12_finish_351 : decode cX12_finish 351 = .ok (.l2i, 1) := by decide +kernel
theorem dX12_finish_352 : decode cX12_finish 352 = .ok (.invokevirtual 240, 3) := by decide +kernel
theorem dX12_finish_355 : decode cX12_finish 355 = .ok (.ifCond .eq 51, 3) := by decide +kernel
theorem dX12_finish_358 : decode cX12_finish 358 = .ok (.aload_n 0, 1) := by decide +kernel
theorem dX12_finish_359 : decode cX12_finish 359 = .ok (.aload_n 0, 1) := by decide +kernel
theorem dX12_finish_360 : decode cX12_finish 360 = .ok (.getfield 87, 3) := by decide +kernel
theorem dX12_finish_363 : decode cX12_finish 363 = .ok (.iload 5, 2) := by decide +kernel
theorem dX12_finish_365 : decode cX12_finish 365 = .ok (.laload, 1) := by decide +kernel
theorem dX12_finish_366 : decode cX12_finish 366 = .ok (.l2i, 1) := by decide +kernel
theorem dX12_finish_367 : decode cX12_finish 367 = .ok (.invokevirtual 196, 3) := by decide +kernel
theorem dX12_finish_370 : decode cX12_finish 370 = .ok (.istore 6, 2) := by decide +kernel
theorem dX12_finish_372 : decode cX12_finish 372 = .ok (.aload_n 0, 1) := by decide +kernel
theorem dX12_finish_373 : decode cX12_finish 373 = .ok (.getfield 16, 3) := by decide +kernel
theorem dX12_finish_376 : decode cX12_finish 376 = .ok (.iload 6, 2) := by decide +kernel
theorem dX12_finish_378 : decode cX12_finish 378 = .ok (.aload_n 0, 1) := by decide +kernel
theorem dX12_finish_379 : decode cX12_finish 379 = .ok (.getfield 7, 3) := by decide +kernel
theorem dX12_finish_382 : decode cX12_finish 382 = .ok (.iload 6, 2) := by decide +kernel
theorem dX12_finish_384 : decode cX12_finish 384 = .ok (.iaload, 1) := by decide +kernel
theorem dX12_finish_385 : decode cX12_finish 385 = .ok (.bipush 8, 2) := by decide +kernel
theorem dX12_finish_387 : decode cX12_finish 387 = .ok (.if_icmp .ne 7, 3) := by decide +kernel
theorem dX12_finish_390 : decode cX12_finish 390 = .ok (.iconst 1, 1) := by decide +kernel
theorem dX12_finish_391 : decode cX12_finish 391 = .ok (.goto 4, 3) := by decide +kernel
theorem dX12_finish_394 : decode cX12_finish 394 = .ok (.iconst 0, 1) := by decide +kernel
theorem dX12_finish_395 : decode cX12_finish 395 = .ok (.bastore, 1) := by decide +kernel
theorem dX12_finish_396 : decode cX12_finish 396 = .ok (.aload_n 0, 1) := by decide +kernel
theorem dX12_finish_397 : decode cX12_finish 397 = .ok (.getfield 87, 3) := by decide +kernel
theorem dX12_finish_400 : decode cX12_finish 400 = .ok (.iload 5, 2) := by decide +kernel
theorem dX12_finish_402 : decode cX12_finish 402 = .ok (.iload 6, 2) := by decide +kernel
theorem dX12_finish_404 : decode cX12_finish 404 = .ok (.i2l, 1) := by decide +kernel
theorem dX12_finish_405 : decode cX12_finish 405 = .ok (.lastore, 1) := by decide +kernel
theorem dX12_finish_406 : decode cX12_finish 406 = .ok (.aload_n 0, 1) := by decide +kernel
theorem dX12_finish_407 : decode cX12_finish 407 = .ok (.getfield 84, 3) := by decide +kernel
theorem dX12_finish_410 : decode cX12_finish 410 = .ok (.bipush 6, 2) := by decide +kernel
theorem dX12_finish_412 : decode cX12_finish 412 = .ok (.iload 4, 2) := by decide +kernel
theorem dX12_finish_414 : decode cX12_finish 414 = .ok (.imul, 1) := by decide +kernel
theorem dX12_finish_415 : decode cX12_finish 415 = .ok (.iload 5, 2) := by decide +kernel
theorem dX12_finish_417 : decode cX12_finish 417 = .ok (.iadd, 1) := by decide +kernel
theorem dX12_finish_418 : decode cX12_finish 418 = .ok (.aload_n 0, 1) := by decide +kernel
theorem dX12_finish_419 : decode cX12_finish 419 = .ok (.getfield 87, 3) := by decide +kernel
theorem dX12_finish_422 : decode cX12_finish 422 = .ok (.iload 5, 2) := by decide +kernel
theorem dX12_finish_424 : decode cX12_finish 424 = .ok (.laload, 1) := by decide +kernel
theorem dX12_finish_425 : decode cX12_finish 425 = .ok (.lastore, 1) := by decide +kernel
theorem dX12_finish_426 : decode cX12_finish 426 = .ok (.iinc 5 1, 3) := by decide +kernel
theorem dX12_finish_429 : decode cX12_finish 429 = .ok (.goto (-115), 3) := by decide +kernel
theorem dX12_finish_432 : decode cX12_finish 432 = .ok (.iload 4, 2) := by decide +kernel
theorem dX12_finish_434 : decode cX12_finish 434 = .ok (.ireturn, 1) := by decide +kernel
def L_X12_finish_11 (d : Nat) (v0 : Option Nm) (v1 : Int32) (v2 : Int32) (v3 : Int32) (v4 : Int32) (h : MH) (u : Nat) (Q : Int32 → MH → Prop) : Prop := T u_X12_finish (d + 4) 11 [some (jR v0), some (jI v1), some (jI v2), some (jI v3), some (jI v4), none, none] [] h u (qI Q)
def L_X12_finish_111 (d : Nat) (v0 : Option Nm) (v1 : Int32) (v2 : Int32) (v4 : Int32) (h : MH) (u : Nat) (Q : Int32 → MH → Prop) : Prop := T u_X12_finish (d + 4) 111 [some (jR v0), some (jI v1), some (jI v2), none, some (jI v4), none, none] [] h u (qI Q)
def L_X12_finish_203 (d : Nat) (v0 : Option Nm) (v1 : Int32) (v2 : Int32) (v4 : Int32) (v5 : Int32) (h : MH) (u : Nat) (Q : Int32 → MH → Prop) : Prop := T u_X12_finish (d + 4) 203 [some (jR v0), some (jI v1), some (jI v2), none, some (jI v4), some (jI v5), none] [] h u (qI Q)
def L_X12_finish_314 (d : Nat) (v0 : Option Nm) (v1 : Int32) (v2 : Int32) (v4 : Int32) (v5 : Int32) (h : MH) (u : Nat) (Q : Int32 → MH → Prop) : Prop := T u_X12_finish (d + 4) 314 [some (jR v0), some (jI v1), some (jI v2), none, some (jI v4), some (jI v5), none] [] h u (qI Q)
def F_X12_finish (d : Nat) (v0 : Option Nm) (v1 : Int32) (h : MH) (u : Nat) (Q : Int32 → MH → Prop) : Prop :=
  rc h v0 11 ∧ F_X12_newestOf (d + 3) v0 v1 h 0 fun x1 h =>
  L_X12_finish_11 d v0 v1 x1 0 0 h u Q
set_option maxRecDepth 20000 in
theorem E_X12_finish {d : Nat} {v0 : Option Nm} {v1 : Int32} {h : MH} {u : Nat} {Q : Int32 → MH → Prop} (H : F_X12_finish d v0 v1 h u Q) : T u_X12_finish (d + 4) 0 [some (jR v0), some (jI v1), none, none, none, none, none] [] h u (qI Q) := by
  unfold F_X12_finish at H
  refine T_aload_n (pc := 0) dX12_finish_0 rfl rfl ?_
  refine T_iload_n (pc := 1) dX12_finish_1 rfl rfl ?_
  obtain ⟨H0, H⟩ := H
  refine T_iV (pc := 2) (ci := 11) (av := [jI v1]) (rest := []) (o := v0) dX12_finish_2 mf_X12_newestOf c_5_210 c_5_212 pr_X12_newestOf rfl rfl (Nat.le_of_ble_eq_true rfl) rfl H0 (iI_k (iI_m0 (fun x1 h H => ?_) (J_X12_newestOf (d := (d + 3)) H)))
  refine T_istore_n (pc := 5) (ls2 := [some (jR v0), some (jI v1), some (jI x1), none, none, none, none]) dX12_finish_5 rfl (Nat.le_of_ble_eq_true rfl) rfl ?_
  refine T_iconst (pc := 6) (v := 0) dX12_finish_6 (by decide) ?_
  refine T_istore_n (pc := 7) (ls2 := [some (jR v0), some (jI v1), some (jI x1), some (jI 0), none, none, none]) dX12_finish_7 rfl (Nat.le_of_ble_eq_true rfl) rfl ?_
  refine T_iconst (pc := 8) (v := 0) dX12_finish_8 (by decide) ?_
  refine T_istore (pc := 9) (ls2 := [some (jR v0), some (jI v1), some (jI x1), some (jI 0), some (jI 0), none, none]) dX12_finish_9 (Nat.le_of_ble_eq_true rfl) rfl ?_
  exact T.forget H ⟨rfl, rfl, rfl, rfl, rfl, trivial⟩
def F_X12_finish_11 (d : Nat) (v0 : Option Nm) (v1 : Int32) (v2 : Int32) (v3 : Int32) (v4 : Int32) (h : MH) (u : Nat) (Q : Int32 → MH → Prop) : Prop :=
  gR h v0 11 15 fun x1 =>
  aI .int h x1 v2 fun x2 =>
  if x2 ≤ v4 then
    gI h v0 11 3 fun x3 =>
    if (x3 + v3) ≤ 60 then
      rc h v0 11 ∧ F_X12_breaks d v0 v1 v2 h 0 fun x4 h =>
      if x4 = 0 then
        pV h v0 11 33 (jI 1) fun h =>
        pV h v0 11 34 (jI 0) fun h =>
        L_X12_finish_111 d v0 v1 v2 0 h u Q
      else
        rc h v0 11 ∧ F_X12_fails (d + 3) v0 5 h 0 fun x5 h =>
        Q x5 h
    else
      Q (-4) h
  else
    gR h v0 11 17 fun x6 =>
    aI .int h x6 ((8 * v2) + v4) fun x7 =>
    if x7 = 9 then
      gR h v0 11 32 fun x8 =>
      aL h x8 v4 fun x9 =>
      rc h v0 11 ∧ F_X12_isTwinned (d + 3) v0 v1 (x9.toInt32) h 0 fun x10 h =>
      if x10 = 0 then
        L_X12_finish_11 d v0 v1 v2 (v3 + 0) (v4 + 1) h u Q
      else
        L_X12_finish_11 d v0 v1 v2 (v3 + 1) (v4 + 1) h u Q
    else
      L_X12_finish_11 d v0 v1 v2 (v3 + 0) (v4 + 1) h u Q
set_option maxRecDepth 20000 in
theorem E_X12_finish_11 {d : Nat} {v0 : Option Nm} {v1 : Int32} {v2 : Int32} {v3 : Int32} {v4 : Int32} {h : MH} {u : Nat} {Q : Int32 → MH → Prop} (H : F_X12_finish_11 d v0 v1 v2 v3 v4 h u Q) : T u_X12_finish (d + 4) 11 [some (jR v0), some (jI v1), some (jI v2), some (jI v3), some (jI v4), none, none] [] h u (qI Q) := by
  unfold F_X12_finish_11 at H
  refine T_iload (pc := 11) dX12_finish_11 rfl ?_
  refine T_aload_n (pc := 13) dX12_finish_13 rfl rfl ?_
  refine T_gR (pc := 14) fa_X12_42 dX12_finish_14 (gR_mono (fun x1 H => ?_) H)
  refine T_iload_n (pc := 17) dX12_finish_17 rfl rfl ?_
  refine T_aI (pc := 18) dX12_finish_18 (aI_mono (fun x2 H => ?_) H)
  refine T_icmp_ge (pc := 19) (tgt := 69) dX12_finish_19 (by decide) (fun hc => ?_) (fun hc => ?_)
  · rw [if_pos hc] at H
    refine T_aload_n (pc := 69) dX12_finish_69 rfl rfl ?_
    refine T_gI (pc := 70) fa_X12_153 dX12_finish_70 (gI_mono (fun x3 H => ?_) H)
    refine T_iload_n (pc := 73) dX12_finish_73 rfl rfl ?_
    refine T_iadd (pc := 74) dX12_finish_74 ?_
    refine T_bipush (pc := 75) (v := 60) dX12_finish_75 (by decide) ?_
    refine T_icmp_le (pc := 77) (tgt := 83) dX12_finish_77 (by decide) (fun hc => ?_) (fun hc => ?_)
    · rw [if_pos hc] at H
      refine T_aload_n (pc := 83) dX12_finish_83 rfl rfl ?_
      refine T_iload_n (pc := 84) dX12_finish_84 rfl rfl ?_
      refine T_iload_n (pc := 85) dX12_finish_85 rfl rfl ?_
      obtain ⟨H0, H⟩ := H
      refine T_iV (pc := 86) (ci := 11) (av := [jI v1, jI v2]) (rest := []) (o := v0) dX12_finish_86 mf_X12_breaks c_6_18 c_6_20 pr_X12_breaks rfl rfl (Nat.le_of_ble_eq_true rfl) rfl H0 (iI_k (iI_m0 (fun x4 h H => ?_) (J_X12_breaks (d := d) H)))
      refine T_if_eq (pc := 89) (tgt := 98) dX12_finish_89 (by decide) (fun hc => ?_) (fun hc => ?_)
      · rw [if_pos hc] at H
        refine T_aload_n (pc := 98) dX12_finish_98 rfl rfl ?_
        refine T_iconst (pc := 99) (v := 1) dX12_finish_99 (by decide) ?_
        refine T_pV (pc := 100) fa_X12_234 dX12_finish_100 trivial (pV_mono (fun h H => ?_) H)
        refine T_aload_n (pc := 103) dX12_finish_103 rfl rfl ?_
        refine T_iconst (pc := 104) (v := 0) dX12_finish_104 (by decide) ?_
        refine T_pV (pc := 105) fa_X12_237 dX12_finish_105 trivial (pV_mono (fun h H => ?_) H)
        refine T_iconst (pc := 108) (v := 0) dX12_finish_108 (by decide) ?_
        refine T_istore (pc := 109) (ls2 := [some (jR v0), some (jI v1), some (jI v2), some (jI v3), some (jI 0), none, none]) dX12_finish_109 (Nat.le_of_ble_eq_true rfl) rfl ?_
        exact T.forget H ⟨rfl, rfl, rfl, rfl, trivial⟩
      · rw [if_neg hc] at H
        refine T_aload_n (pc := 92) dX12_finish_92 rfl rfl ?_
        refine T_iconst (pc := 93) (v := 5) dX12_finish_93 (by decide) ?_
        obtain ⟨H0, H⟩ := H
        refine T_iV (pc := 94) (ci := 11) (av := [jI 5]) (rest := []) (o := v0) dX12_finish_94 mf_X12_fails c_5_89 c_5_91 pr_X12_fails rfl rfl (Nat.le_of_ble_eq_true rfl) rfl H0 (iI_k (iI_m0 (fun x5 h H => ?_) (J_X12_fails (d := (d + 3)) H)))
        exact T_ireturn (pc := 97) rfl rfl dX12_finish_97 H
    · rw [if_neg hc] at H
      refine T_bipush (pc := 80) (v := (-4)) dX12_finish_80 (by decide) ?_
      exact T_ireturn (pc := 82) rfl rfl dX12_finish_82 H
  · rw [if_neg hc] at H
    refine T_iload_n (pc := 22) dX12_finish_22 rfl rfl ?_
    refine T_aload_n (pc := 23) dX12_finish_23 rfl rfl ?_
    refine T_gR (pc := 24) fa_X12_48 dX12_finish_24 (gR_mono (fun x6 H => ?_) H)
    refine T_bipush (pc := 27) (v := 8) dX12_finish_27 (by decide) ?_
    refine T_iload_n (pc := 29) dX12_finish_29 rfl rfl ?_
    refine T_imul (pc := 30) dX12_finish_30 ?_
    refine T_iload (pc := 31) dX12_finish_31 rfl ?_
    refine T_iadd (pc := 33) dX12_finish_33 ?_
    refine T_aI (pc := 34) dX12_finish_34 (aI_mono (fun x7 H => ?_) H)
    refine T_bipush (pc := 35) (v := 9) dX12_finish_35 (by decide) ?_
    refine T_icmp_ne (pc := 37) (tgt := 60) dX12_finish_37 (by decide) (fun hc => ?_) (fun hc => ?_)
    · rw [if_neg hc] at H
      refine T_iconst (pc := 60) (v := 0) dX12_finish_60 (by decide) ?_
      refine T_iadd (pc := 61) dX12_finish_61 ?_
      refine T_istore_n (pc := 62) (ls2 := [some (jR v0), some (jI v1), some (jI v2), some (jI (v3 + 0)), some (jI v4), none, none]) dX12_finish_62 rfl (Nat.le_of_ble_eq_true rfl) rfl ?_
      refine T_iinc (pc := 63) (v := v4 + 1) (ls2 := [some (jR v0), some (jI v1), some (jI v2), some (jI (v3 + 0)), some (jI (v4 + 1)), none, none]) dX12_finish_63 rfl rfl (Nat.le_of_ble_eq_true rfl) rfl ?_
      refine T_goto (pc := 66) (tgt := 11) dX12_finish_66 (by decide) ?_
      exact T.forget H ⟨rfl, rfl, rfl, rfl, rfl, trivial⟩
    · rw [if_pos hc] at H
      refine T_aload_n (pc := 40) dX12_finish_40 rfl rfl ?_
      refine T_iload_n (pc := 41) dX12_finish_41 rfl rfl ?_
      refine T_aload_n (pc := 42) dX12_finish_42 rfl rfl ?_
      refine T_gR (pc := 43) fa_X12_87 dX12_finish_43 (gR_mono (fun x8 H => ?_) H)
      refine T_iload (pc := 46) dX12_finish_46 rfl ?_
      refine T_aL (pc := 48) dX12_finish_48 (aL_mono (fun x9 H => ?_) H)
      refine T_l2i (pc := 49) dX12_finish_49 ?_
      obtain ⟨H0, H⟩ := H
      refine T_iV (pc := 50) (ci := 11) (av := [jI v1, jI (x9.toInt32)]) (rest := [jI v3]) (o := v0) dX12_finish_50 mf_X12_isTwinned c_6_14 c_6_16 pr_X12_isTwinned rfl rfl (Nat.le_of_ble_eq_true rfl) rfl H0 (iI_k (iI_m0 (fun x10 h H => ?_) (J_X12_isTwinned (d := (d + 3)) H)))
      refine T_if_eq (pc := 53) (tgt := 60) dX12_finish_53 (by decide) (fun hc => ?_) (fun hc => ?_)
      · rw [if_pos hc] at H
        refine T_iconst (pc := 60) (v := 0) dX12_finish_60 (by decide) ?_
        refine T_iadd (pc := 61) dX12_finish_61 ?_
        refine T_istore_n (pc := 62) (ls2 := [some (jR v0), some (jI v1), some (jI v2), some (jI (v3 + 0)), some (jI v4), none, none]) dX12_finish_62 rfl (Nat.le_of_ble_eq_true rfl) rfl ?_
        refine T_iinc (pc := 63) (v := v4 + 1) (ls2 := [some (jR v0), some (jI v1), some (jI v2), some (jI (v3 + 0)), some (jI (v4 + 1)), none, none]) dX12_finish_63 rfl rfl (Nat.le_of_ble_eq_true rfl) rfl ?_
        refine T_goto (pc := 66) (tgt := 11) dX12_finish_66 (by decide) ?_
        exact T.forget H ⟨rfl, rfl, rfl, rfl, rfl, trivial⟩
      · rw [if_neg hc] at H
        refine T_iconst (pc := 56) (v := 1) dX12_finish_56 (by decide) ?_
        refine T_goto (pc := 57) (tgt := 61) dX12_finish_57 (by decide) ?_
        refine T_iadd (pc := 61) dX12_finish_61 ?_
        refine T_istore_n (pc := 62) (ls2 := [some (jR v0), some (jI v1), some (jI v2), some (jI (v3 + 1)), some (jI v4), none, none]) dX12_finish_62 rfl (Nat.le_of_ble_eq_true rfl) rfl ?_
        refine T_iinc (pc := 63) (v := v4 + 1) (ls2 := [some (jR v0), some (jI v1), some (jI v2), some (jI (v3 + 1)), some (jI (v4 + 1)), none, none]) dX12_finish_63 rfl rfl (Nat.le_of_ble_eq_true rfl) rfl ?_
        refine T_goto (pc := 66) (tgt := 11) dX12_finish_66 (by decide) ?_
        exact T.forget H ⟨rfl, rfl, rfl, rfl, rfl, trivial⟩
def F_X12_finish_111 (d : Nat) (v0 : Option Nm) (v1 : Int32) (v2 : Int32) (v4 : Int32) (h : MH) (u : Nat) (Q : Int32 → MH → Prop) : Prop :=
  gR h v0 11 15 fun x1 =>
  aI .int h x1 v2 fun x2 =>
  if x2 ≤ v4 then
    gI h v0 11 33 fun x3 =>
    if 300 < x3 then
      Q (-4) h
    else
      gI h v0 11 34 fun x4 =>
      if (x4 + 1) ≤ 8 then
        rc h v0 11 ∧ F_X12_newValue (d + 3) v0 v1 h 0 fun x5 h =>
        gR h v0 11 28 fun x6 =>
        gI h v0 11 33 fun x7 =>
        sV .int h x6 x5 (jI x7) fun h =>
        gR h v0 11 29 fun x8 =>
        gI h v0 11 34 fun x9 =>
        sV .int h x8 x5 (jI (x9 + 1)) fun h =>
        L_X12_finish_314 d v0 v1 v2 x5 0 h u Q
      else
        Q (-4) h
  else
    gR h v0 11 17 fun x10 =>
    aI .int h x10 ((8 * v2) + v4) fun x11 =>
    if x11 = 8 then
      gR h v0 11 32 fun x20 =>
      aL h x20 v4 fun x21 =>
      rc h v0 11 ∧ F_X12_counts (d + 3) v0 x21 h 0 fun h =>
      L_X12_finish_111 d v0 v1 v2 (v4 + 1) h u Q
    else
      gR h v0 11 17 fun x12 =>
      aI .int h x12 ((8 * v2) + v4) fun x13 =>
      if x13 = 9 then
        gR h v0 11 32 fun x14 =>
        aL h x14 v4 fun x15 =>
        if (lg_cmp x15 0) < 0 then
          L_X12_finish_111 d v0 v1 v2 (v4 + 1) h u Q
        else
          gR h v0 11 4 fun x16 =>
          gR h v0 11 32 fun x17 =>
          aL h x17 v4 fun x18 =>
          aI .int h x16 (x18.toInt32) fun x19 =>
          if x19 = 8 then
            L_X12_finish_203 d v0 v1 v2 v4 0 h u Q
          else
            L_X12_finish_111 d v0 v1 v2 (v4 + 1) h u Q
      else
        L_X12_finish_111 d v0 v1 v2 (v4 + 1) h u Q
set_option maxRecDepth 20000 in
theorem E_X12_finish_111 {d : Nat} {v0 : Option Nm} {v1 : Int32} {v2 : Int32} {v4 : Int32} {h : MH} {u : Nat} {Q : Int32 → MH → Prop} (H : F_X12_finish_111 d v0 v1 v2 v4 h u Q) : T u_X12_finish (d + 4) 111 [some (jR v0), some (jI v1), some (jI v2), none, some (jI v4), none, none] [] h u (qI Q) := by
  unfold F_X12_finish_111 at H
  refine T_iload (pc := 111) dX12_finish_111 rfl ?_
  refine T_aload_n (pc := 113) dX12_finish_113 rfl rfl ?_
  refine T_gR (pc := 114) fa_X12_42 dX12_finish_114 (gR_mono (fun x1 H => ?_) H)
  refine T_iload_n (pc := 117) dX12_finish_117 rfl rfl ?_
  refine T_aI (pc := 118) dX12_finish_118 (aI_mono (fun x2 H => ?_) H)
  refine T_icmp_ge (pc := 119) (tgt := 256) dX12_finish_119 (by decide) (fun hc => ?_) (fun hc => ?_)
  · rw [if_pos hc] at H
    refine T_aload_n (pc := 256) dX12_finish_256 rfl rfl ?_
    refine T_gI (pc := 257) fa_X12_234 dX12_finish_257 (gI_mono (fun x3 H => ?_) H)
    refine T_sipush (pc := 260) (v := 300) dX12_finish_260 (by decide) ?_
    refine T_icmp_gt (pc := 263) (tgt := 277) dX12_finish_263 (by decide) (fun hc => ?_) (fun hc => ?_)
    · rw [if_pos hc] at H
      refine T_bipush (pc := 277) (v := (-4)) dX12_finish_277 (by decide) ?_
      exact T_ireturn (pc := 279) rfl rfl dX12_finish_279 H
    · rw [if_neg hc] at H
      refine T_aload_n (pc := 266) dX12_finish_266 rfl rfl ?_
      refine T_gI (pc := 267) fa_X12_237 dX12_finish_267 (gI_mono (fun x4 H => ?_) H)
      refine T_iconst (pc := 270) (v := 1) dX12_finish_270 (by decide) ?_
      refine T_iadd (pc := 271) dX12_finish_271 ?_
      refine T_bipush (pc := 272) (v := 8) dX12_finish_272 (by decide) ?_
      refine T_icmp_le (pc := 274) (tgt := 280) dX12_finish_274 (by decide) (fun hc => ?_) (fun hc => ?_)
      · rw [if_pos hc] at H
        refine T_aload_n (pc := 280) dX12_finish_280 rfl rfl ?_
        refine T_iload_n (pc := 281) dX12_finish_281 rfl rfl ?_
        obtain ⟨H0, H⟩ := H
        refine T_iV (pc := 282) (ci := 11) (av := [jI v1]) (rest := []) (o := v0) dX12_finish_282 mf_X12_newValue c_5_218 c_5_220 pr_X12_newValue rfl rfl (Nat.le_of_ble_eq_true rfl) rfl H0 (iI_k (iI_m0 (fun x5 h H => ?_) (J_X12_newValue (d := (d + 3)) H)))
        refine T_istore (pc := 285) (ls2 := [some (jR v0), some (jI v1), some (jI v2), none, some (jI x5), none, none]) dX12_finish_285 (Nat.le_of_ble_eq_true rfl) rfl ?_
        refine T_aload_n (pc := 287) dX12_finish_287 rfl rfl ?_
        refine T_gR (pc := 288) fa_X12_75 dX12_finish_288 (gR_mono (fun x6 H => ?_) H)
        refine T_iload (pc := 291) dX12_finish_291 rfl ?_
        refine T_aload_n (pc := 293) dX12_finish_293 rfl rfl ?_
        refine T_gI (pc := 294) fa_X12_234 dX12_finish_294 (gI_mono (fun x7 H => ?_) H)
        refine T_sI (pc := 297) dX12_finish_297 (sV_mono (fun h H => ?_) H)
        refine T_aload_n (pc := 298) dX12_finish_298 rfl rfl ?_
        refine T_gR (pc := 299) fa_X12_78 dX12_finish_299 (gR_mono (fun x8 H => ?_) H)
        refine T_iload (pc := 302) dX12_finish_302 rfl ?_
        refine T_aload_n (pc := 304) dX12_finish_304 rfl rfl ?_
        refine T_gI (pc := 305) fa_X12_237 dX12_finish_305 (gI_mono (fun x9 H => ?_) H)
        refine T_iconst (pc := 308) (v := 1) dX12_finish_308 (by decide) ?_
        refine T_iadd (pc := 309) dX12_finish_309 ?_
        refine T_sI (pc := 310) dX12_finish_310 (sV_mono (fun h H => ?_) H)
        refine T_iconst (pc := 311) (v := 0) dX12_finish_311 (by decide) ?_
        refine T_istore (pc := 312) (ls2 := [some (jR v0), some (jI v1), some (jI v2), none, some (jI x5), some (jI 0), none]) dX12_finish_312 (Nat.le_of_ble_eq_true rfl) rfl ?_
        exact T.forget H ⟨rfl, rfl, rfl, rfl, rfl, trivial⟩
      · rw [if_neg hc] at H
        refine T_bipush (pc := 277) (v := (-4)) dX12_finish_277 (by decide) ?_
        exact T_ireturn (pc := 279) rfl rfl dX12_finish_279 H
  · rw [if_neg hc] at H
    refine T_aload_n (pc := 122) dX12_finish_122 rfl rfl ?_
    refine T_gR (pc := 123) fa_X12_48 dX12_finish_123 (gR_mono (fun x10 H => ?_) H)
    refine T_bipush (pc := 126) (v := 8) dX12_finish_126 (by decide) ?_
    refine T_iload_n (pc := 128) dX12_finish_128 rfl rfl ?_
    refine T_imul (pc := 129) dX12_finish_129 ?_
    refine T_iload (pc := 130) dX12_finish_130 rfl ?_
    refine T_iadd (pc := 132) dX12_finish_132 ?_
    refine T_aI (pc := 133) dX12_finish_133 (aI_mono (fun x11 H => ?_) H)
    refine T_bipush (pc := 134) (v := 8) dX12_finish_134 (by decide) ?_
    refine T_icmp_ne (pc := 136) (tgt := 153) dX12_finish_136 (by decide) (fun hc => ?_) (fun hc => ?_)
    · rw [if_neg hc] at H
      refine T_aload_n (pc := 153) dX12_finish_153 rfl rfl ?_
      refine T_gR (pc := 154) fa_X12_48 dX12_finish_154 (gR_mono (fun x12 H => ?_) H)
      refine T_bipush (pc := 157) (v := 8) dX12_finish_157 (by decide) ?_
      refine T_iload_n (pc := 159) dX12_finish_159 rfl rfl ?_
      refine T_imul (pc := 160) dX12_finish_160 ?_
      refine T_iload (pc := 161) dX12_finish_161 rfl ?_
      refine T_iadd (pc := 163) dX12_finish_163 ?_
      refine T_aI (pc := 164) dX12_finish_164 (aI_mono (fun x13 H => ?_) H)
      refine T_bipush (pc := 165) (v := 9) dX12_finish_165 (by decide) ?_
      refine T_icmp_ne (pc := 167) (tgt := 250) dX12_finish_167 (by decide) (fun hc => ?_) (fun hc => ?_)
      · rw [if_neg hc] at H
        refine T_iinc (pc := 250) (v := v4 + 1) (ls2 := [some (jR v0), some (jI v1), some (jI v2), none, some (jI (v4 + 1)), none, none]) dX12_finish_250 rfl rfl (Nat.le_of_ble_eq_true rfl) rfl ?_
        refine T_goto (pc := 253) (tgt := 111) dX12_finish_253 (by decide) ?_
        exact T.forget H ⟨rfl, rfl, rfl, rfl, trivial⟩
      · rw [if_pos hc] at H
        refine T_aload_n (pc := 170) dX12_finish_170 rfl rfl ?_
        refine T_gR (pc := 171) fa_X12_87 dX12_finish_171 (gR_mono (fun x14 H => ?_) H)
        refine T_iload (pc := 174) dX12_finish_174 rfl ?_
        refine T_aL (pc := 176) dX12_finish_176 (aL_mono (fun x15 H => ?_) H)
        refine T_lconst (pc := 177) (v := 0) dX12_finish_177 (by decide) ?_
        refine T_lcmp (pc := 178) dX12_finish_178 ?_
        refine T_if_lt (pc := 179) (tgt := 250) dX12_finish_179 (by decide) (fun hc => ?_) (fun hc => ?_)
        · rw [if_pos hc] at H
          refine T_iinc (pc := 250) (v := v4 + 1) (ls2 := [some (jR v0), some (jI v1), some (jI v2), none, some (jI (v4 + 1)), none, none]) dX12_finish_250 rfl rfl (Nat.le_of_ble_eq_true rfl) rfl ?_
          refine T_goto (pc := 253) (tgt := 111) dX12_finish_253 (by decide) ?_
          exact T.forget H ⟨rfl, rfl, rfl, rfl, trivial⟩
        · rw [if_neg hc] at H
          refine T_aload_n (pc := 182) dX12_finish_182 rfl rfl ?_
          refine T_gR (pc := 183) fa_X12_7 dX12_finish_183 (gR_mono (fun x16 H => ?_) H)
          refine T_aload_n (pc := 186) dX12_finish_186 rfl rfl ?_
          refine T_gR (pc := 187) fa_X12_87 dX12_finish_187 (gR_mono (fun x17 H => ?_) H)
          refine T_iload (pc := 190) dX12_finish_190 rfl ?_
          refine T_aL (pc := 192) dX12_finish_192 (aL_mono (fun x18 H => ?_) H)
          refine T_l2i (pc := 193) dX12_finish_193 ?_
          refine T_aI (pc := 194) dX12_finish_194 (aI_mono (fun x19 H => ?_) H)
          refine T_bipush (pc := 195) (v := 8) dX12_finish_195 (by decide) ?_
          refine T_icmp_ne (pc := 197) (tgt := 250) dX12_finish_197 (by decide) (fun hc => ?_) (fun hc => ?_)
          · rw [if_neg hc] at H
            refine T_iinc (pc := 250) (v := v4 + 1) (ls2 := [some (jR v0), some (jI v1), some (jI v2), none, some (jI (v4 + 1)), none, none]) dX12_finish_250 rfl rfl (Nat.le_of_ble_eq_true rfl) rfl ?_
            refine T_goto (pc := 253) (tgt := 111) dX12_finish_253 (by decide) ?_
            exact T.forget H ⟨rfl, rfl, rfl, rfl, trivial⟩
          · rw [if_pos hc] at H
            refine T_iconst (pc := 200) (v := 0) dX12_finish_200 (by decide) ?_
            refine T_istore (pc := 201) (ls2 := [some (jR v0), some (jI v1), some (jI v2), none, some (jI v4), some (jI 0), none]) dX12_finish_201 (Nat.le_of_ble_eq_true rfl) rfl ?_
            exact T.forget H ⟨rfl, rfl, rfl, rfl, rfl, trivial⟩
    · rw [if_pos hc] at H
      refine T_aload_n (pc := 139) dX12_finish_139 rfl rfl ?_
      refine T_aload_n (pc := 140) dX12_finish_140 rfl rfl ?_
      refine T_gR (pc := 141) fa_X12_87 dX12_finish_141 (gR_mono (fun x20 H => ?_) H)
      refine T_iload (pc := 144) dX12_finish_144 rfl ?_
      refine T_aL (pc := 146) dX12_finish_146 (aL_mono (fun x21 H => ?_) H)
      obtain ⟨H0, H⟩ := H
      refine T_iV (pc := 147) (ci := 11) (av := [jL x21]) (rest := []) (o := v0) dX12_finish_147 mf_X12_counts c_6_22 c_6_24 pr_X12_counts rfl rfl (Nat.le_of_ble_eq_true rfl) rfl H0 (iV_k (iV_m0 (fun h H => ?_) (J_X12_counts (d := (d + 3)) H)))
      refine T_goto (pc := 150) (tgt := 250) dX12_finish_150 (by decide) ?_
      refine T_iinc (pc := 250) (v := v4 + 1) (ls2 := [some (jR v0), some (jI v1), some (jI v2), none, some (jI (v4 + 1)), none, none]) dX12_finish_250 rfl rfl (Nat.le_of_ble_eq_true rfl) rfl ?_
      refine T_goto (pc := 253) (tgt := 111) dX12_finish_253 (by decide) ?_
      exact T.forget H ⟨rfl, rfl, rfl, rfl, trivial⟩
def F_X12_finish_203 (d : Nat) (v0 : Option Nm) (v1 : Int32) (v2 : Int32) (v4 : Int32) (v5 : Int32) (h : MH) (u : Nat) (Q : Int32 → MH → Prop) : Prop :=
  gR h v0 11 5 fun x1 =>
  gR h v0 11 32 fun x2 =>
  aL h x2 v4 fun x3 =>
  aI .int h x1 (x3.toInt32) fun x4 =>
  if x4 ≤ v5 then
    L_X12_finish_111 d v0 v1 v2 (v4 + 1) h u Q
  else
    gR h v0 11 7 fun x5 =>
    gR h v0 11 32 fun x6 =>
    aL h x6 v4 fun x7 =>
    aL h x5 ((20 * (x7.toInt32)) + v5) fun x8 =>
    rc h v0 11 ∧ F_X12_counts (d + 3) v0 x8 h 0 fun h =>
    L_X12_finish_203 d v0 v1 v2 v4 (v5 + 1) h u Q
set_option maxRecDepth 20000 in
theorem E_X12_finish_203 {d : Nat} {v0 : Option Nm} {v1 : Int32} {v2 : Int32} {v4 : Int32} {v5 : Int32} {h : MH} {u : Nat} {Q : Int32 → MH → Prop} (H : F_X12_finish_203 d v0 v1 v2 v4 v5 h u Q) : T u_X12_finish (d + 4) 203 [some (jR v0), some (jI v1), some (jI v2), none, some (jI v4), some (jI v5), none] [] h u (qI Q) := by
  unfold F_X12_finish_203 at H
  refine T_iload (pc := 203) dX12_finish_203 rfl ?_
  refine T_aload_n (pc := 205) dX12_finish_205 rfl rfl ?_
  refine T_gR (pc := 206) fa_X12_13 dX12_finish_206 (gR_mono (fun x1 H => ?_) H)
  refine T_aload_n (pc := 209) dX12_finish_209 rfl rfl ?_
  refine T_gR (pc := 210) fa_X12_87 dX12_finish_210 (gR_mono (fun x2 H => ?_) H)
  refine T_iload (pc := 213) dX12_finish_213 rfl ?_
  refine T_aL (pc := 215) dX12_finish_215 (aL_mono (fun x3 H => ?_) H)
  refine T_l2i (pc := 216) dX12_finish_216 ?_
  refine T_aI (pc := 217) dX12_finish_217 (aI_mono (fun x4 H => ?_) H)
  refine T_icmp_ge (pc := 218) (tgt := 250) dX12_finish_218 (by decide) (fun hc => ?_) (fun hc => ?_)
  · rw [if_pos hc] at H
    refine T_iinc (pc := 250) (v := v4 + 1) (ls2 := [some (jR v0), some (jI v1), some (jI v2), none, some (jI (v4 + 1)), some (jI v5), none]) dX12_finish_250 rfl rfl (Nat.le_of_ble_eq_true rfl) rfl ?_
    refine T_goto (pc := 253) (tgt := 111) dX12_finish_253 (by decide) ?_
    exact T.forget H ⟨rfl, rfl, rfl, rfl, trivial⟩
  · rw [if_neg hc] at H
    refine T_aload_n (pc := 221) dX12_finish_221 rfl rfl ?_
    refine T_aload_n (pc := 222) dX12_finish_222 rfl rfl ?_
    refine T_gR (pc := 223) fa_X12_20 dX12_finish_223 (gR_mono (fun x5 H => ?_) H)
    refine T_bipush (pc := 226) (v := 20) dX12_finish_226 (by decide) ?_
    refine T_aload_n (pc := 228) dX12_finish_228 rfl rfl ?_
    refine T_gR (pc := 229) fa_X12_87 dX12_finish_229 (gR_mono (fun x6 H => ?_) H)
    refine T_iload (pc := 232) dX12_finish_232 rfl ?_
    refine T_aL (pc := 234) dX12_finish_234 (aL_mono (fun x7 H => ?_) H)
    refine T_l2i (pc := 235) dX12_finish_235 ?_
    refine T_imul (pc := 236) dX12_finish_236 ?_
    refine T_iload (pc := 237) dX12_finish_237 rfl ?_
    refine T_iadd (pc := 239) dX12_finish_239 ?_
    refine T_aL (pc := 240) dX12_finish_240 (aL_mono (fun x8 H => ?_) H)
    obtain ⟨H0, H⟩ := H
    refine T_iV (pc := 241) (ci := 11) (av := [jL x8]) (rest := []) (o := v0) dX12_finish_241 mf_X12_counts c_6_22 c_6_24 pr_X12_counts rfl rfl (Nat.le_of_ble_eq_true rfl) rfl H0 (iV_k (iV_m0 (fun h H => ?_) (J_X12_counts (d := (d + 3)) H)))
    refine T_iinc (pc := 244) (v := v5 + 1) (ls2 := [some (jR v0), some (jI v1), some (jI v2), none, some (jI v4), some (jI (v5 + 1)), none]) dX12_finish_244 rfl rfl (Nat.le_of_ble_eq_true rfl) rfl ?_
    refine T_goto (pc := 247) (tgt := 203) dX12_finish_247 (by decide) ?_
    exact T.forget H ⟨rfl, rfl, rfl, rfl, rfl, trivial⟩
def F_X12_finish_406 (d : Nat) (v0 : Option Nm) (v1 : Int32) (v2 : Int32) (v4 : Int32) (v5 : Int32) (h : MH) (u : Nat) (Q : Int32 → MH → Prop) : Prop :=
  gR h v0 11 31 fun x1 =>
  gR h v0 11 32 fun x2 =>
  aL h x2 v5 fun x3 =>
  sV .long h x1 ((6 * v4) + v5) (jL x3) fun h =>
  L_X12_finish_314 d v0 v1 v2 v4 (v5 + 1) h u Q
set_option maxRecDepth 20000 in
theorem E_X12_finish_406 {d : Nat} {v0 : Option Nm} {v1 : Int32} {v2 : Int32} {v4 : Int32} {v5 : Int32} {h : MH} {u : Nat} {Q : Int32 → MH → Prop} (H : F_X12_finish_406 d v0 v1 v2 v4 v5 h u Q) : T u_X12_finish (d + 4) 406 [some (jR v0), some (jI v1), some (jI v2), none, some (jI v4), some (jI v5), none] [] h u (qI Q) := by
  unfold F_X12_finish_406 at H
  refine T_aload_n (pc := 406) dX12_finish_406 rfl rfl ?_
  refine T_gR (pc := 407) fa_X12_84 dX12_finish_407 (gR_mono (fun x1 H => ?_) H)
  refine T_bipush (pc := 410) (v := 6) dX12_finish_410 (by decide) ?_
  refine T_iload (pc := 412) dX12_finish_412 rfl ?_
  refine T_imul (pc := 414) dX12_finish_414 ?_
  refine T_iload (pc := 415) dX12_finish_415 rfl ?_
  refine T_iadd (pc := 417) dX12_finish_417 ?_
  refine T_aload_n (pc := 418) dX12_finish_418 rfl rfl ?_
  refine T_gR (pc := 419) fa_X12_87 dX12_finish_419 (gR_mono (fun x2 H => ?_) H)
  refine T_iload (pc := 422) dX12_finish_422 rfl ?_
  refine T_aL (pc := 424) dX12_finish_424 (aL_mono (fun x3 H => ?_) H)
  refine T_sL (pc := 425) dX12_finish_425 (sV_mono (fun h H => ?_) H)
  refine T_iinc (pc := 426) (v := v5 + 1) (ls2 := [some (jR v0), some (jI v1), some (jI v2), none, some (jI v4), some (jI (v5 + 1)), none]) dX12_finish_426 rfl rfl (Nat.le_of_ble_eq_true rfl) rfl ?_
  refine T_goto (pc := 429) (tgt := 314) dX12_finish_429 (by decide) ?_
  exact T.forget H ⟨rfl, rfl, rfl, rfl, rfl, trivial⟩
def F_X12_finish_395 (d : Nat) (v0 : Option Nm) (v1 : Int32) (v2 : Int32) (v4 : Int32) (v5 : Int32) (v6 : Int32) (s0 : Option Nm) (s1 : Int32) (s2 : Int32) (h : MH) (u : Nat) (Q : Int32 → MH → Prop) : Prop :=
  sV .boolean h s0 s1 (jI (vp_nar .boolean s2)) fun h =>
  gR h v0 11 32 fun x1 =>
  sV .long h x1 v5 (jL (v6.toInt64)) fun h =>
  F_X12_finish_406 d v0 v1 v2 v4 v5 h u Q
set_option maxRecDepth 20000 in
theorem E_X12_finish_395 {d : Nat} {v0 : Option Nm} {v1 : Int32} {v2 : Int32} {v4 : Int32} {v5 : Int32} {v6 : Int32} {s0 : Option Nm} {s1 : Int32} {s2 : Int32} {h : MH} {u : Nat} {Q : Int32 → MH → Prop} (H : F_X12_finish_395 d v0 v1 v2 v4 v5 v6 s0 s1 s2 h u Q) : T u_X12_finish (d + 4) 395 [some (jR v0), some (jI v1), some (jI v2), none, some (jI v4), some (jI v5), some (jI v6)] [jI s2, jI s1, jR s0] h u (qI Q) := by
  unfold F_X12_finish_395 at H
  refine T_sZ (pc := 395) dX12_finish_395 (sV_mono (fun h H => ?_) H)
  refine T_aload_n (pc := 396) dX12_finish_396 rfl rfl ?_
  refine T_gR (pc := 397) fa_X12_87 dX12_finish_397 (gR_mono (fun x1 H => ?_) H)
  refine T_iload (pc := 400) dX12_finish_400 rfl ?_
  refine T_iload (pc := 402) dX12_finish_402 rfl ?_
  refine T_i2l (pc := 404) dX12_finish_404 ?_
  refine T_sL (pc := 405) dX12_finish_405 (sV_mono (fun h H => ?_) H)
  exact T.forget (E_X12_finish_406 H) ⟨rfl, rfl, rfl, rfl, rfl, trivial⟩
def F_X12_finish_314 (d : Nat) (v0 : Option Nm) (v1 : Int32) (v2 : Int32) (v4 : Int32) (v5 : Int32) (h : MH) (u : Nat) (Q : Int32 → MH → Prop) : Prop :=
  gR h v0 11 15 fun x1 =>
  aI .int h x1 v2 fun x2 =>
  if x2 ≤ v5 then
    Q v4 h
  else
    gR h v0 11 17 fun x3 =>
    aI .int h x3 ((8 * v2) + v5) fun x4 =>
    if x4 = 9 then
      gR h v0 11 32 fun x5 =>
      aL h x5 v5 fun x6 =>
      rc h v0 11 ∧ F_X12_isTwinned (d + 3) v0 v1 (x6.toInt32) h 0 fun x7 h =>
      if x7 = 0 then
        F_X12_finish_406 d v0 v1 v2 v4 v5 h u Q
      else
        gR h v0 11 32 fun x8 =>
        aL h x8 v5 fun x9 =>
        rc h v0 11 ∧ F_X12_twinOf (d + 2) v0 (x9.toInt32) h 0 fun x10 h =>
        gR h v0 11 6 fun x11 =>
        gR h v0 11 4 fun x12 =>
        aI .int h x12 x10 fun x13 =>
        if x13 = 8 then
          F_X12_finish_395 d v0 v1 v2 v4 v5 x10 x11 x10 1 h u Q
        else
          F_X12_finish_395 d v0 v1 v2 v4 v5 x10 x11 x10 0 h u Q
    else
      F_X12_finish_406 d v0 v1 v2 v4 v5 h u Q
set_option maxRecDepth 20000 in
theorem E_X12_finish_314 {d : Nat} {v0 : Option Nm} {v1 : Int32} {v2 : Int32} {v4 : Int32} {v5 : Int32} {h : MH} {u : Nat} {Q : Int32 → MH → Prop} (H : F_X12_finish_314 d v0 v1 v2 v4 v5 h u Q) : T u_X12_finish (d + 4) 314 [some (jR v0), some (jI v1), some (jI v2), none, some (jI v4), some (jI v5), none] [] h u (qI Q) := by
  unfold F_X12_finish_314 at H
  refine T_iload (pc := 314) dX12_finish_314 rfl ?_
  refine T_aload_n (pc := 316) dX12_finish_316 rfl rfl ?_
  refine T_gR (pc := 317) fa_X12_42 dX12_finish_317 (gR_mono (fun x1 H => ?_) H)
  refine T_iload_n (pc := 320) dX12_finish_320 rfl rfl ?_
  refine T_aI (pc := 321) dX12_finish_321 (aI_mono (fun x2 H => ?_) H)
  refine T_icmp_ge (pc := 322) (tgt := 432) dX12_finish_322 (by decide) (fun hc => ?_) (fun hc => ?_)
  · rw [if_pos hc] at H
    refine T_iload (pc := 432) dX12_finish_432 rfl ?_
    exact T_ireturn (pc := 434) rfl rfl dX12_finish_434 H
  · rw [if_neg hc] at H
    refine T_aload_n (pc := 325) dX12_finish_325 rfl rfl ?_
    refine T_gR (pc := 326) fa_X12_48 dX12_finish_326 (gR_mono (fun x3 H => ?_) H)
    refine T_bipush (pc := 329) (v := 8) dX12_finish_329 (by decide) ?_
    refine T_iload_n (pc := 331) dX12_finish_331 rfl rfl ?_
    refine T_imul (pc := 332) dX12_finish_332 ?_
    refine T_iload (pc := 333) dX12_finish_333 rfl ?_
    refine T_iadd (pc := 335) dX12_finish_335 ?_
    refine T_aI (pc := 336) dX12_finish_336 (aI_mono (fun x4 H => ?_) H)
    refine T_bipush (pc := 337) (v := 9) dX12_finish_337 (by decide) ?_
    refine T_icmp_ne (pc := 339) (tgt := 406) dX12_finish_339 (by decide) (fun hc => ?_) (fun hc => ?_)
    · rw [if_neg hc] at H
      exact T.forget (E_X12_finish_406 H) ⟨rfl, rfl, rfl, rfl, rfl, trivial⟩
    · rw [if_pos hc] at H
      refine T_aload_n (pc := 342) dX12_finish_342 rfl rfl ?_
      refine T_iload_n (pc := 343) dX12_finish_343 rfl rfl ?_
      refine T_aload_n (pc := 344) dX12_finish_344 rfl rfl ?_
      refine T_gR (pc := 345) fa_X12_87 dX12_finish_345 (gR_mono (fun x5 H => ?_) H)
      refine T_iload (pc := 348) dX12_finish_348 rfl ?_
      refine T_aL (pc := 350) dX12_finish_350 (aL_mono (fun x6 H => ?_) H)
      refine T_l2i (pc := 351) dX12_finish_351 ?_
      obtain ⟨H0, H⟩ := H
      refine T_iV (pc := 352) (ci := 11) (av := [jI v1, jI (x6.toInt32)]) (rest := []) (o := v0) dX12_finish_352 mf_X12_isTwinned c_6_14 c_6_16 pr_X12_isTwinned rfl rfl (Nat.le_of_ble_eq_true rfl) rfl H0 (iI_k (iI_m0 (fun x7 h H => ?_) (J_X12_isTwinned (d := (d + 3)) H)))
      refine T_if_eq (pc := 355) (tgt := 406) dX12_finish_355 (by decide) (fun hc => ?_) (fun hc => ?_)
      · rw [if_pos hc] at H
        exact T.forget (E_X12_finish_406 H) ⟨rfl, rfl, rfl, rfl, rfl, trivial⟩
      · rw [if_neg hc] at H
        refine T_aload_n (pc := 358) dX12_finish_358 rfl rfl ?_
        refine T_aload_n (pc := 359) dX12_finish_359 rfl rfl ?_
        refine T_gR (pc := 360) fa_X12_87 dX12_finish_360 (gR_mono (fun x8 H => ?_) H)
        refine T_iload (pc := 363) dX12_finish_363 rfl ?_
        refine T_aL (pc := 365) dX12_finish_365 (aL_mono (fun x9 H => ?_) H)
        refine T_l2i (pc := 366) dX12_finish_366 ?_
        obtain ⟨H0, H⟩ := H
        refine T_iV (pc := 367) (ci := 11) (av := [jI (x9.toInt32)]) (rest := []) (o := v0) dX12_finish_367 mf_X12_twinOf c_5_178 c_5_180 pr_X12_twinOf rfl rfl (Nat.le_of_ble_eq_true rfl) rfl H0 (iI_k (iI_m0 (fun x10 h H => ?_) (J_X12_twinOf (d := (d + 2)) H)))
        refine T_istore (pc := 370) (ls2 := [some (jR v0), some (jI v1), some (jI v2), none, some (jI v4), some (jI v5), some (jI x10)]) dX12_finish_370 (Nat.le_of_ble_eq_true rfl) rfl ?_
        refine T_aload_n (pc := 372) dX12_finish_372 rfl rfl ?_
        refine T_gR (pc := 373) fa_X12_16 dX12_finish_373 (gR_mono (fun x11 H => ?_) H)
        refine T_iload (pc := 376) dX12_finish_376 rfl ?_
        refine T_aload_n (pc := 378) dX12_finish_378 rfl rfl ?_
        refine T_gR (pc := 379) fa_X12_7 dX12_finish_379 (gR_mono (fun x12 H => ?_) H)
        refine T_iload (pc := 382) dX12_finish_382 rfl ?_
        refine T_aI (pc := 384) dX12_finish_384 (aI_mono (fun x13 H => ?_) H)
        refine T_bipush (pc := 385) (v := 8) dX12_finish_385 (by decide) ?_
        refine T_icmp_ne (pc := 387) (tgt := 394) dX12_finish_387 (by decide) (fun hc => ?_) (fun hc => ?_)
        · rw [if_neg hc] at H
          refine T_iconst (pc := 394) (v := 0) dX12_finish_394 (by decide) ?_
          exact T.forget (E_X12_finish_395 H) ⟨rfl, rfl, rfl, rfl, rfl, rfl, trivial⟩
        · rw [if_pos hc] at H
          refine T_iconst (pc := 390) (v := 1) dX12_finish_390 (by decide) ?_
          refine T_goto (pc := 391) (tgt := 395) dX12_finish_391 (by decide) ?_
          exact T.forget (E_X12_finish_395 H) ⟨rfl, rfl, rfl, rfl, rfl, rfl, trivial⟩
theorem I_X12_finish {d : Nat} {v0 : Option Nm} {v1 : Int32} {h : MH} {u : Nat} {K : Int32 → MH → Nat → Prop} (u1 : Nat) (hu : u1 ≤ u) (H : F_X12_finish d v0 v1 h u1 (fun x h2 => K x h2 (u - u1))) : iI (d + 4) u_X12_finish [jR v0, jI v1] h u K := inv.of u1 hu (Ct.of (by decide +kernel) rfl (Nat.le_of_ble_eq_true rfl) rfl (E_X12_finish H))
theorem J_X12_finish {d : Nat} {v0 : Option Nm} {v1 : Int32} {h : MH} {u : Nat} {K : Int32 → MH → Prop} (H : F_X12_finish d v0 v1 h 0 K) : iI (d + 4) u_X12_finish [jR v0, jI v1] h u (fun x h2 u2 => K x h2 ∧ u2 = u) := jiI (by decide +kernel) rfl (Nat.le_of_ble_eq_true rfl) rfl (E_X12_finish H)
theorem dX12_isWidened_0 : decode cX12_isWidened 0 = .ok (.iload_n 0, 1) := by decide +kernel
theorem dX12_isWidened_1 : decode cX12_isWidened 1 = .ok (.iload_n 1, 1) := by decide +kernel
theorem dX12_isWidened_2 : decode cX12_isWidened 2 = .ok (.if_icmp .ne 5, 3) := by decide +kernel
theorem dX12_isWidened_5 : decode cX12_isWidened 5 = .ok (.iconst 1, 1) := by decide +kernel
theorem dX12_isWidened_6 : decode cX12_isWidened 6 = .ok (.ireturn, 1) := by decide +kernel
theorem dX12_isWidened_7 : decode cX12_isWidened 7 = .ok (.iload_n 0, 1) := by decide +kernel
theorem dX12_isWidened_8 : decode cX12_isWidened 8 = .ok (.ifCond .le 44, 3) := by decide +kernel
theorem dX12_isWidened_11 : decode cX12_isWidened 11 = .ok (.iload_n 1, 1) := by decide +kernel
theorem dX12_isWidened_12 : decode cX12_isWidened 12 = .ok (.bipush 8, 2) := by decide +kernel
theorem dX12_isWidened_14 : decode cX12_isWidened 14 = .ok (.if_icmp .ge 38, 3) := by decide +kernel
theorem dX12_isWidened_17 : decode cX12_isWidened 17 = .ok (.iload_n 0, 1) := by decide +kernel
theorem dX12_isWidened_18 : decode cX12_isWidened 18 = .ok (.iconst 1, 1) := by decide +kernel
theorem dX12_isWidened_19 : decode cX12_isWidened 19 = .ok (.if_icmp .ne 11, 3) := by decide +kernel
theorem dX12_isWidened_22 : decode cX12_isWidened 22 = .ok (.iload_n 1, 1) := by decide +kernel
theorem dX12_isWidened_23 : decode cX12_isWidened 23 = .ok (.iconst 3, 1) := by decide +kernel
theorem dX12_isWidened_24 : decode cX12_isWidened 24 = .ok (.if_icmp .lt 28, 3) := by decide +kernel
theorem dX12_isWidened_27 : decode cX12_isWidened 27 = .ok (.goto 21, 3) := by decide +kernel
theorem dX12_isWidened_30 : decode cX12_isWidened 30 = .ok (.iload_n 0, 1) := by decide +kernel
theorem dX12_isWidened_31 : decode cX12_isWidened 31 = .ok (.iconst 2, 1) := by decide +kernel
theorem dX12_isWidened_32 : decode cX12_isWidened 32 = .ok (.if_icmp .ne 11, 3) := by decide +kernel
theorem dX12_isWidened_35 : decode cX12_isWidened 35 = .ok (.iload_n 1, 1) := by decide +kernel
theorem dX12_isWidened_36 : decode cX12_isWidened 36 = .ok (.iconst 4, 1) := by decide +kernel
theorem dX12_isWidened_37 : decode cX12_isWidened 37 = .ok (.if_icmp .lt 15, 3) := by decide +kernel
theorem dX12_isWidened_40 : decode cX12_isWidened 40 = .ok (.goto 8, 3) := by decide +kernel
theorem dX12_isWidened_43 : decode cX12_isWidened 43 = .ok (.iload_n 1, 1) := by decide +kernel
theorem dX12_isWidened_44 : decode cX12_isWidened 44 = .ok (.iload_n 0, 1) := by decide +kernel
theorem dX12_isWidened_45 : decode cX12_isWidened 45 = .ok (.if_icmp .le 7, 3) := by decide +kernel
theorem dX12_isWidened_48 : decode cX12_isWidened 48 = .ok (.iconst 1, 1) := by decide +kernel
theorem dX12_isWidened_49 : decode cX12_isWidened 49 = .ok (.goto 4, 3) := by decide +kernel
theorem dX12_isWidened_52 : decode cX12_isWidened 52 = .ok (.iconst 0, 1) := by decide +kernel
theorem dX12_isWidened_53 : decode cX12_isWidened 53 = .ok (.ireturn, 1) := by decide +kernel
def F_X12_isWidened (d : Nat) (v0 : Int32) (v1 : Int32) (h : MH) (u : Nat) (Q : Int32 → MH → Prop) : Prop :=
  if v0 = v1 then
    nz 1 ∧ Q 1 h
  else
    if v0 ≤ 0 then
      nz 0 ∧ Q 0 h
    else
      if 8 ≤ v1 then
        nz 0 ∧ Q 0 h
      else
        if v0 = 1 then
          if v1 < 3 then
            nz 0 ∧ Q 0 h
          else
            nz 1 ∧ Q 1 h
        else
          if v0 = 2 then
            if v1 < 4 then
              nz 0 ∧ Q 0 h
            else
              nz 1 ∧ Q 1 h
          else
            if v1 ≤ v0 then
              nz 0 ∧ Q 0 h
            else
              nz 1 ∧ Q 1 h
set_option maxRecDepth 20000 in
theorem E_X12_isWidened {d : Nat} {v0 : Int32} {v1 : Int32} {h : MH} {u : Nat} {Q : Int32 → MH → Prop} (H : F_X12_isWidened d v0 v1 h u Q) : T u_X12_isWidened d 0 [some (jI v0), some (jI v1)] [] h u (qI Q) := by
  unfold F_X12_isWidened at H
  refine T_iload_n (pc := 0) dX12_isWidened_0 rfl rfl ?_
  refine T_iload_n (pc := 1) dX12_isWidened_1 rfl rfl ?_
  refine T_icmp_ne (pc := 2) (tgt := 7) dX12_isWidened_2 (by decide) (fun hc => ?_) (fun hc => ?_)
  · rw [if_neg hc] at H
    refine T_iload_n (pc := 7) dX12_isWidened_7 rfl rfl ?_
    refine T_if_le (pc := 8) (tgt := 52) dX12_isWidened_8 (by decide) (fun hc => ?_) (fun hc => ?_)
    · rw [if_pos hc] at H
      refine T_iconst (pc := 52) (v := 0) dX12_isWidened_52 (by decide) ?_
      exact T_ireturn (pc := 53) rfl (nz_nar H.1) dX12_isWidened_53 H.2
    · rw [if_neg hc] at H
      refine T_iload_n (pc := 11) dX12_isWidened_11 rfl rfl ?_
      refine T_bipush (pc := 12) (v := 8) dX12_isWidened_12 (by decide) ?_
      refine T_icmp_ge (pc := 14) (tgt := 52) dX12_isWidened_14 (by decide) (fun hc => ?_) (fun hc => ?_)
      · rw [if_pos hc] at H
        refine T_iconst (pc := 52) (v := 0) dX12_isWidened_52 (by decide) ?_
        exact T_ireturn (pc := 53) rfl (nz_nar H.1) dX12_isWidened_53 H.2
      · rw [if_neg hc] at H
        refine T_iload_n (pc := 17) dX12_isWidened_17 rfl rfl ?_
        refine T_iconst (pc := 18) (v := 1) dX12_isWidened_18 (by decide) ?_
        refine T_icmp_ne (pc := 19) (tgt := 30) dX12_isWidened_19 (by decide) (fun hc => ?_) (fun hc => ?_)
        · rw [if_neg hc] at H
          refine T_iload_n (pc := 30) dX12_isWidened_30 rfl rfl ?_
          refine T_iconst (pc := 31) (v := 2) dX12_isWidened_31 (by decide) ?_
          refine T_icmp_ne (pc := 32) (tgt := 43) dX12_isWidened_32 (by decide) (fun hc => ?_) (fun hc => ?_)
          · rw [if_neg hc] at H
            refine T_iload_n (pc := 43) dX12_isWidened_43 rfl rfl ?_
            refine T_iload_n (pc := 44) dX12_isWidened_44 rfl rfl ?_
            refine T_icmp_le (pc := 45) (tgt := 52) dX12_isWidened_45 (by decide) (fun hc => ?_) (fun hc => ?_)
            · rw [if_pos hc] at H
              refine T_iconst (pc := 52) (v := 0) dX12_isWidened_52 (by decide) ?_
              exact T_ireturn (pc := 53) rfl (nz_nar H.1) dX12_isWidened_53 H.2
            · rw [if_neg hc] at H
              refine T_iconst (pc := 48) (v := 1) dX12_isWidened_48 (by decide) ?_
              refine T_goto (pc := 49) (tgt := 53) dX12_isWidened_49 (by decide) ?_
              exact T_ireturn (pc := 53) rfl (nz_nar H.1) dX12_isWidened_53 H.2
          · rw [if_pos hc] at H
            refine T_iload_n (pc := 35) dX12_isWidened_35 rfl rfl ?_
            refine T_iconst (pc := 36) (v := 4) dX12_isWidened_36 (by decide) ?_
            refine T_icmp_lt (pc := 37) (tgt := 52) dX12_isWidened_37 (by decide) (fun hc => ?_) (fun hc => ?_)
            · rw [if_pos hc] at H
              refine T_iconst (pc := 52) (v := 0) dX12_isWidened_52 (by decide) ?_
              exact T_ireturn (pc := 53) rfl (nz_nar H.1) dX12_isWidened_53 H.2
            · rw [if_neg hc] at H
              refine T_goto (pc := 40) (tgt := 48) dX12_isWidened_40 (by decide) ?_
              refine T_iconst (pc := 48) (v := 1) dX12_isWidened_48 (by decide) ?_
              refine T_goto (pc := 49) (tgt := 53) dX12_isWidened_49 (by decide) ?_
              exact T_ireturn (pc := 53) rfl (nz_nar H.1) dX12_isWidened_53 H.2
        · rw [if_pos hc] at H
          refine T_iload_n (pc := 22) dX12_isWidened_22 rfl rfl ?_
          refine T_iconst (pc := 23) (v := 3) dX12_isWidened_23 (by decide) ?_
          refine T_icmp_lt (pc := 24) (tgt := 52) dX12_isWidened_24 (by decide) (fun hc => ?_) (fun hc => ?_)
          · rw [if_pos hc] at H
            refine T_iconst (pc := 52) (v := 0) dX12_isWidened_52 (by decide) ?_
            exact T_ireturn (pc := 53) rfl (nz_nar H.1) dX12_isWidened_53 H.2
          · rw [if_neg hc] at H
            refine T_goto (pc := 27) (tgt := 48) dX12_isWidened_27 (by decide) ?_
            refine T_iconst (pc := 48) (v := 1) dX12_isWidened_48 (by decide) ?_
            refine T_goto (pc := 49) (tgt := 53) dX12_isWidened_49 (by decide) ?_
            exact T_ireturn (pc := 53) rfl (nz_nar H.1) dX12_isWidened_53 H.2
  · rw [if_pos hc] at H
    refine T_iconst (pc := 5) (v := 1) dX12_isWidened_5 (by decide) ?_
    exact T_ireturn (pc := 6) rfl (nz_nar H.1) dX12_isWidened_6 H.2
theorem I_X12_isWidened {d : Nat} {v0 : Int32} {v1 : Int32} {h : MH} {u : Nat} {K : Int32 → MH → Nat → Prop} (u1 : Nat) (hu : u1 ≤ u) (H : F_X12_isWidened d v0 v1 h u1 (fun x h2 => K x h2 (u - u1))) : iI d u_X12_isWidened [jI v0, jI v1] h u K := inv.of u1 hu (Ct.of (by decide +kernel) rfl (Nat.le_of_ble_eq_true rfl) rfl (E_X12_isWidened H))
theorem J_X12_isWidened {d : Nat} {v0 : Int32} {v1 : Int32} {h : MH} {u : Nat} {K : Int32 → MH → Prop} (H : F_X12_isWidened d v0 v1 h 0 K) : iI d u_X12_isWidened [jI v0, jI v1] h u (fun x h2 u2 => K x h2 ∧ u2 = u) := jiI (by decide +kernel) rfl (Nat.le_of_ble_eq_true rfl) rfl (E_X12_isWidened H)
theorem dX12_widened_0 : decode cX12_widened 0 = .ok (.iload_n 0, 1) := by decide +kernel
theorem dX12_widened_1 : decode cX12_widened 1 = .ok (.iload_n 1, 1) := by decide +kernel
theorem dX12_widened_2 : decode cX12_widened 2 = .ok (.if_icmp .eq 9, 3) := by decide +kernel
theorem dX12_widened_5 : decode cX12_widened 5 = .ok (.iload_n 1, 1) := by decide +kernel
theorem dX12_widened_6 : decode cX12_widened 6 = .ok (.bipush 6, 2) := by decide +kernel
theorem dX12_widened_8 : decode cX12_widened 8 = .ok (.if_icmp .ge 5, 3) := by decide +kernel
theorem dX12_widened_11 : decode cX12_widened 11 = .ok (.lload_n 2, 1) := by decide +kernel
theorem dX12_widened_12 : decode cX12_widened 12 = .ok (.lreturn, 1) := by decide +kernel
theorem dX12_widened_13 : decode cX12_widened 13 = .ok (.iload_n 1, 1) := by decide +kernel
theorem dX12_widened_14 : decode cX12_widened 14 = .ok (.bipush 6, 2) := by decide +kernel
theorem dX12_widened_16 : decode cX12_widened 16 = .ok (.if_icmp .ne 10, 3) := by decide +kernel
theorem dX12_widened_19 : decode cX12_widened 19 = .ok (.lload_n 2, 1) := by decide +kernel
theorem dX12_widened_20 : decode cX12_widened 20 = .ok (.l2f, 1) := by decide +kernel
theorem dX12_widened_21 : decode cX12_widened 21 = .ok (.invokestatic 133, 3) := by decide +kernel
theorem dX12_widened_24 : decode cX12_widened 24 = .ok (.i2l, 1) := by decide +kernel
theorem dX12_widened_25 : decode cX12_widened 25 = .ok (.lreturn, 1) := by decide +kernel
theorem dX12_widened_26 : decode cX12_widened 26 = .ok (.iload_n 0, 1) := by decide +kernel
theorem dX12_widened_27 : decode cX12_widened 27 = .ok (.bipush 6, 2) := by decide +kernel
theorem dX12_widened_29 : decode cX12_widened 29 = .ok (.if_icmp .ne 12, 3) := by decide +kernel
theorem dX12_widened_32 : decode cX12_widened 32 = .ok (.lload_n 2, 1) := by decide +kernel
theorem dX12_widened_33 : decode cX12_widened 33 = .ok (.l2i, 1) := by decide +kernel
theorem dX12_widened_34 : decode cX12_widened 34 = .ok (.invokestatic 145, 3) := by decide +kernel
theorem dX12_widened_37 : decode cX12_widened 37 = .ok (.f2d, 1) := by decide +kernel
theorem dX12_widened_38 : decode cX12_widened 38 = .ok (.goto 5, 3) := by decide +kernel
theorem dX12_widened_41 : decode cX12_widened 41 = .ok (.lload_n 2, 1) := by decide +kernel
theorem dX12_widened_42 : decode cX12_widened 42 = .ok (.l2d, 1) := by decide +kernel
theorem dX12_widened_43 : decode cX12_widened 43 = .ok (.invokestatic 139, 3) := by decide +kernel
theorem dX12_widened_46 : decode cX12_widened 46 = .ok (.lreturn, 1) := by decide +kernel
def F_X12_widened (d : Nat) (v0 : Int32) (v1 : Int32) (v2 : Int64) (h : MH) (u : Nat) (Q : Int64 → MH → Prop) : Prop :=
  if v0 = v1 then
    Q v2 h
  else
    if 6 ≤ v1 then
      if v1 = 6 then
        F_Jxf58ca_floatToIntBits_5c35a d (FP.l2f v2) h 0 fun x3 h =>
        Q (x3.toInt64) h
      else
        if v0 = 6 then
          vn_sni2f (v2.toInt32) = false ∧
          vf_n64 (FP.f2d ((v2.toInt32).toUInt32)) ∧
          F_Jxe99ae_doubleToLongBits_ccdee d (FP.f2d ((v2.toInt32).toUInt32)) h 0 fun x2 h =>
          Q x2 h
        else
          F_Jxe99ae_doubleToLongBits_ccdee d (FP.l2d v2) h 0 fun x1 h =>
          Q x1 h
    else
      Q v2 h
set_option maxRecDepth 20000 in
theorem E_X12_widened {d : Nat} {v0 : Int32} {v1 : Int32} {v2 : Int64} {h : MH} {u : Nat} {Q : Int64 → MH → Prop} (H : F_X12_widened d v0 v1 v2 h u Q) : T u_X12_widened (d + 2) 0 [some (jI v0), some (jI v1), some (jL v2), none] [] h u (qL Q) := by
  unfold F_X12_widened at H
  refine T_iload_n (pc := 0) dX12_widened_0 rfl rfl ?_
  refine T_iload_n (pc := 1) dX12_widened_1 rfl rfl ?_
  refine T_icmp_eq (pc := 2) (tgt := 11) dX12_widened_2 (by decide) (fun hc => ?_) (fun hc => ?_)
  · rw [if_pos hc] at H
    refine T_lload_n (pc := 11) dX12_widened_11 rfl rfl ?_
    exact T_lreturn (pc := 12) rfl dX12_widened_12 H
  · rw [if_neg hc] at H
    refine T_iload_n (pc := 5) dX12_widened_5 rfl rfl ?_
    refine T_bipush (pc := 6) (v := 6) dX12_widened_6 (by decide) ?_
    refine T_icmp_ge (pc := 8) (tgt := 13) dX12_widened_8 (by decide) (fun hc => ?_) (fun hc => ?_)
    · rw [if_pos hc] at H
      refine T_iload_n (pc := 13) dX12_widened_13 rfl rfl ?_
      refine T_bipush (pc := 14) (v := 6) dX12_widened_14 (by decide) ?_
      refine T_icmp_ne (pc := 16) (tgt := 26) dX12_widened_16 (by decide) (fun hc => ?_) (fun hc => ?_)
      · rw [if_neg hc] at H
        refine T_iload_n (pc := 26) dX12_widened_26 rfl rfl ?_
        refine T_bipush (pc := 27) (v := 6) dX12_widened_27 (by decide) ?_
        refine T_icmp_ne (pc := 29) (tgt := 41) dX12_widened_29 (by decide) (fun hc => ?_) (fun hc => ?_)
        · rw [if_neg hc] at H
          refine T_lload_n (pc := 41) dX12_widened_41 rfl rfl ?_
          refine T_l2d (pc := 42) dX12_widened_42 ?_
          refine T_invS (pc := 43) (av := [jD (FP.l2d v2)]) (rest := []) dX12_widened_43 mf_Jxe99ae_doubleToLongBits_ccdee c_5_123 c_5_124 rfl (Nat.le_of_ble_eq_true rfl) rfl (iL_k (iL_m0 (fun x1 h H => ?_) (J_Jxe99ae_doubleToLongBits_ccdee (d := d) H)))
          exact T_lreturn (pc := 46) rfl dX12_widened_46 H
        · rw [if_pos hc] at H
          refine T_lload_n (pc := 32) dX12_widened_32 rfl rfl ?_
          refine T_l2i (pc := 33) dX12_widened_33 ?_
          obtain ⟨H0, H⟩ := H
          refine T_bits2f (pc := 34) dX12_widened_34 c_5_136 c_5_138 c_5_137 c_1_11 H0 (Nat.le_of_ble_eq_true rfl) ?_
          obtain ⟨H0, H⟩ := H
          refine T_f2d (pc := 37) dX12_widened_37 H0 ?_
          refine T_goto (pc := 38) (tgt := 43) dX12_widened_38 (by decide) ?_
          refine T_invS (pc := 43) (av := [jD (FP.f2d ((v2.toInt32).toUInt32))]) (rest := []) dX12_widened_43 mf_Jxe99ae_doubleToLongBits_ccdee c_5_123 c_5_124 rfl (Nat.le_of_ble_eq_true rfl) rfl (iL_k (iL_m0 (fun x2 h H => ?_) (J_Jxe99ae_doubleToLongBits_ccdee (d := d) H)))
          exact T_lreturn (pc := 46) rfl dX12_widened_46 H
      · rw [if_pos hc] at H
        refine T_lload_n (pc := 19) dX12_widened_19 rfl rfl ?_
        refine T_l2f (pc := 20) dX12_widened_20 ?_
        refine T_invS (pc := 21) (av := [jF (FP.l2f v2)]) (rest := []) dX12_widened_21 mf_Jxf58ca_floatToIntBits_5c35a c_5_113 c_5_114 rfl (Nat.le_of_ble_eq_true rfl) rfl (iI_k (iI_m0 (fun x3 h H => ?_) (J_Jxf58ca_floatToIntBits_5c35a (d := d) H)))
        refine T_i2l (pc := 24) dX12_widened_24 ?_
        exact T_lreturn (pc := 25) rfl dX12_widened_25 H
    · rw [if_neg hc] at H
      refine T_lload_n (pc := 11) dX12_widened_11 rfl rfl ?_
      exact T_lreturn (pc := 12) rfl dX12_widened_12 H
theorem I_X12_widened {d : Nat} {v0 : Int32} {v1 : Int32} {v2 : Int64} {h : MH} {u : Nat} {K : Int64 → MH → Nat → Prop} (u1 : Nat) (hu : u1 ≤ u) (H : F_X12_widened d v0 v1 v2 h u1 (fun x h2 => K x h2 (u - u1))) : iL (d + 2) u_X12_widened [jI v0, jI v1, jL v2] h u K := inv.of u1 hu (Ct.of (by decide +kernel) rfl (Nat.le_of_ble_eq_true rfl) rfl (E_X12_widened H))
theorem J_X12_widened {d : Nat} {v0 : Int32} {v1 : Int32} {v2 : Int64} {h : MH} {u : Nat} {K : Int64 → MH → Prop} (H : F_X12_widened d v0 v1 v2 h 0 K) : iL (d + 2) u_X12_widened [jI v0, jI v1, jL v2] h u (fun x h2 u2 => K x h2 ∧ u2 = u) := jiL (by decide +kernel) rfl (Nat.le_of_ble_eq_true rfl) rfl (E_X12_widened H)
theorem dX12_carry_0 : decode cX12_carry 0 = .ok (.aload_n 0, 1) := by decide +kernel
theorem dX12_carry_1 : decode cX12_carry 1 = .ok (.iload_n 1, 1) := by decide +kernel
theorem dX12_carry_2 : decode cX12_carry 2 = .ok (.invokevirtual 190, 3) := by decide +kernel
theorem dX12_carry_5 : decode cX12_carry 5 = .ok (.ifCond .ne 5, 3) := by decide +kernel
theorem dX12_carry_8 : decode cX12_carry 8 = .ok (.iconst (-1), 1) := by decide +kernel
theorem dX12_carry_9 : decode cX12_carry 9 = .ok (.ireturn, 1) := by decide +kernel
theorem dX12_carry_10 : decode cX12_carry 10 = .ok (.aload_n 0, 1) := by decide +kernel
theorem dX12_carry_11 : decode cX12_carry 11 = .ok (.getfield 66, 3) := by decide +kernel
theorem dX12_carry_14 : decode cX12_carry 14 = .ok (.iload_n 1, 1) := by decide +kernel
theorem dX12_carry_15 : decode cX12_carry 15 = .ok (.iaload, 1) := by decide +kernel
theorem dX12_carry_16 : decode cX12_carry 16 = .ok (.istore_n 2, 1) := by decide +kernel
theorem dX12_carry_17 : decode cX12_carry 17 = .ok (.aload_n 0, 1) := by decide +kernel
theorem dX12_carry_18 : decode cX12_carry 18 = .ok (.iload_n 2, 1) := by decide +kernel
theorem dX12_carry_19 : decode cX12_carry 19 = .ok (.invokevirtual 225, 3) := by decide +kernel
theorem dX12_carry_22 : decode cX12_carry 22 = .ok (.istore_n 3, 1) := by decide +kernel
theorem dX12_carry_23 : decode cX12_carry 23 = .ok (.aload_n 0, 1) := by decide +kernel
theorem dX12_carry_24 : decode cX12_carry 24 = .ok (.iload_n 1, 1) := by decide +kernel
theorem dX12_carry_25 : decode cX12_carry 25 = .ok (.invokevirtual 261, 3) := by decide +kernel
theorem dX12_carry_28 : decode cX12_carry 28 = .ok (.ifCond .eq 24, 3) := by decide +kernel
theorem dX12_carry_31 : decode cX12_carry 31 = .ok (.aload_n 0, 1) := by decide +kernel
theorem dX12_carry_32 : decode cX12_carry 32 = .ok (.iload_n 3, 1) := by decide +kernel
theorem dX12_carry_33 : decode cX12_carry 33 = .ok (.aload_n 0, 1) := by decide +kernel
theorem dX12_carry_34 : decode cX12_carry 34 = .ok (.getfield 81, 3) := by decide +kernel
theorem dX12_carry_37 : decode cX12_carry 37 = .ok (.iload_n 1, 1) := by decide +kernel
theorem dX12_carry_38 : decode cX12_carry 38 = .ok (.iaload, 1) := by decide +kernel
theorem dX12_carry_39 : decode cX12_carry 39 = .ok (.invokevirtual 209, 3) := by decide +kernel
theorem dX12_carry_42 : decode cX12_carry 42 = .ok (.ifCond .ge 8, 3) := by decide +kernel
theorem dX12_carry_45 : decode cX12_carry 45 = .ok (.bipush (-3), 2) := by decide +kernel
theorem dX12_carry_47 : decode cX12_carry 47 = .ok (.goto 4, 3) := by decide +kernel
theorem dX12_carry_50 : decode cX12_carry 50 = .ok (.iload_n 1, 1) := by decide +kernel
theorem dX12_carry_51 : decode cX12_carry 51 = .ok (.ireturn, 1) := by decide +kernel
theorem dX12_carry_52 : decode cX12_carry 52 = .ok (.aload_n 0, 1) := by decide +kernel
theorem dX12_carry_53 : decode cX12_carry 53 = .ok (.getfield 215, 3) := by decide +kernel
theorem dX12_carry_56 : decode cX12_carry 56 = .ok (.sipush 200, 3) := by decide +kernel
theorem dX12_carry_59 : decode cX12_carry 59 = .ok (.if_icmp .ne 6, 3) := by decide +kernel
theorem dX12_carry_62 : decode cX12_carry 62 = .ok (.bipush (-4), 2) := by decide +kernel
theorem dX12_carry_64 : decode cX12_carry 64 = .ok (.ireturn, 1) := by decide +kernel
theorem dX12_carry_65 : decode cX12_carry 65 = .ok (.iconst 0, 1) := by decide +kernel
theorem dX12_carry_66 : decode cX12_carry 66 = .ok (.istore 4, 2) := by decide +kernel
theorem dX12_carry_68 : decode cX12_carry 68 = .ok (.iload 4, 2) := by decide +kernel
theorem dX12_carry_70 : decode cX12_carry 70 = .ok (.aload_n 0, 1) := by decide +kernel
theorem dX12_carry_71 : decode cX12_carry 71 = .ok (.getfield 42, 3) := by decide +kernel
theorem dX12_carry_74 : decode cX12_carry 74 = .ok (.iload_n 3, 1) := by decide +kernel
theorem dX12_carry_75 : decode cX12_carry 75 = .ok (.iaload, 1) := by decide +kernel
theorem dX12_carry_76 : decode cX12_carry 76 = .ok (.if_icmp .ge 126, 3) := by decide +kernel
theorem dX12_carry_79 : decode cX12_carry 79 = .ok (.aload_n 0, 1) := by decide +kernel
theorem dX12_carry_80 : decode cX12_carry 80 = .ok (.getfield 48, 3) := by decide +kernel
theorem dX12_carry_83 : decode cX12_carry 83 = .ok (.bipush 8, 2) := by decide +kernel
theorem dX12_carry_85 : decode cX12_carry 85 = .ok (.iload_n 3, 1) := by decide +kernel
theorem dX12_carry_86 : decode cX12_carry 86 = .ok (.imul, 1) := by decide +kernel
theorem dX12_carry_87 : decode cX12_carry 87 = .ok (.iload 4, 2) := by decide +kernel
theorem dX12_carry_89 : decode cX12_carry 89 = .ok (.iadd, 1) := by decide +kernel
theorem dX12_carry_90 : decode cX12_carry 90 = .ok (.iaload, 1) := by decide +kernel
theorem dX12_carry_91 : decode cX12_carry 91 = .ok (.istore 5, 2) := by decide +kernel
theorem dX12_carry_93 : decode cX12_carry 93 = .ok (.aload_n 0, 1) := by decide +kernel
theorem dX12_carry_94 : decode cX12_carry 94 = .ok (.aload_n 0, 1) := by decide +kernel
theorem dX12_carry_95 : decode cX12_carry 95 = .ok (.iload_n 1, 1) := by decide +kernel
theorem dX12_carry_96 : decode cX12_carry 96 = .ok (.invokevirtual 231, 3) := by decide +kernel
theorem dX12_carry_99 : decode cX12_carry 99 = .ok (.aload_n 0, 1) := by decide +kernel
theorem dX12_carry_100 : decode cX12_carry 100 = .ok (.getfield 45, 3) := by decide +kernel
theorem dX12_carry_103 : decode cX12_carry 103 = .ok (.bipush 8, 2) := by decide +kernel
theorem dX12_carry_105 : decode cX12_carry 105 = .ok (.iload_n 3, 1) := by decide +kernel
theorem dX12_carry_106 : decode cX12_carry 106 = .ok (.imul, 1) := by decide +kernel
theorem dX12_carry_107 : decode cX12_carry 107 = .ok (.iload 4, 2) := by decide +kernel
theorem dX12_carry_109 : decode cX12_carry 109 = .ok (.iadd, 1) := by decide +kernel
theorem dX12_carry_110 : decode cX12_carry 110 = .ok (.iaload, 1) := by decide +kernel
theorem dX12_carry_111 : decode cX12_carry 111 = .ok (.invokevirtual 209, 3) := by decide +kernel
theorem dX12_carry_114 : decode cX12_carry 114 = .ok (.istore 6, 2) := by decide +kernel
theorem dX12_carry_116 : decode cX12_carry 116 = .ok (.iload 6, 2) := by decide +kernel
theorem dX12_carry_118 : decode cX12_carry 118 = .ok (.ifCond .ge 27, 3) := by decide +kernel
theorem dX12_carry_121 : decode cX12_carry 121 = .ok (.aload_n 0, 1) := by decide +kernel
theorem dX12_carry_122 : decode cX12_carry 122 = .ok (.getfield 87, 3) := by decide +kernel
theorem dX12_carry_125 : decode cX12_carry 125 = .ok (.iload 4, 2) := by decide +kernel
theorem dX12_carry_127 : decode cX12_carry 127 = .ok (.iload 5, 2) := by decide +kernel
theorem dX12_carry_129 : decode cX12_carry 129 = .ok (.bipush 8, 2) := by decide +kernel
theorem dX12_carry_131 : decode cX12_carry 131 = .ok (.if_icmp .ge 7, 3) := by decide +kernel
theorem dX12_carry_134 : decode cX12_carry 134 = .ok (.lconst 0, 1) := by decide +kernel
theorem dX12_carry_135 : decode cX12_carry 135 = .ok (.goto 6, 3) := by decide +kernel
theorem dX12_carry_138 : decode cX12_carry 138 = .ok (.ldc2_w 160, 3) := by decide +kernel
theorem dX12_carry_141 : decode cX12_carry 141 = .ok (.lastore, 1) := by decide +kernel
theorem dX12_carry_142 : decode cX12_carry 142 = .ok (.goto 54, 3) := by decide +kernel
theorem dX12_carry_145 : decode cX12_carry 145 = .ok (.aload_n 0, 1) := by decide +kernel
theorem dX12_carry_146 : decode cX12_carry 146 = .ok (.iload_n 1, 1) := by decide +kernel
theorem dX12_carry_147 : decode cX12_carry 147 = .ok (.iload 6, 2) := by decide +kernel
theorem dX12_carry_149 : decode cX12_carry 149 = .ok (.invokevirtual 256, 3) := by decide +kernel
theorem dX12_carry_152 : decode cX12_carry 152 = .ok (.istore 7, 2) := by decide +kernel
theorem dX12_carry_154 : decode cX12_carry 154 = .ok (.iload 7, 2) := by decide +kernel
theorem dX12_carry_156 : decode cX12_carry 156 = .ok (.iload 5, 2) := by decide +kernel
theorem dX12_carry_158 : decode cX12_carry 158 = .ok (.invokestatic 174, 3) := by decide +kernel
theorem dX12_carry_161 : decode cX12_carry 161 = .ok (.ifCond .ne 9, 3) := by decide +kernel
theorem dX12_carry_164 : decode cX12_carry 164 = .ok (.aload_n 0, 1) := by decide +kernel
theorem dX12_carry_165 : decode cX12_carry 165 = .ok (.iconst 3, 1) := by decide +kernel
theorem dX12_carry_166 : decode cX12_carry 166 = .ok (.invokevirtual 166, 3) := by decide +kernel
theorem dX12_carry_169 : decode cX12_carry 169 = .ok (.ireturn, 1) := by decide +kernel
theorem dX12_carry_170 : decode cX12_carry 170 = .ok (.aload_n 0, 1) := by decide +kernel
theorem dX12_carry_171 : decode cX12_carry 171 = .ok (.getfield 87, 3) := by decide +kernel
theorem dX12_carry_174 : decode cX12_carry 174 = .ok (.iload 4, 2) := by decide +kernel
theorem dX12_carry_176 : decode cX12_carry 176 = .ok (.iload 7, 2) := by decide +kernel
theorem dX12_carry_178 : decode cX12_carry 178 = .ok (.iload 5, 2) := by decide +kernel
theorem dX12_carry_180 : decode cX12_carry 180 = .ok (.aload_n 0, 1) := by decide +kernel
theorem dX12_carry_181 : decode cX12_carry 181 = .ok (.getfield 84, 3) := by decide +kernel
theorem dX12_carry_184 : decode cX12_carry 184 = .ok (.bipush 6, 2) := by decide +kernel
theorem dX12_carry_186 : decode cX12_carry 186 = .ok (.iload_n 1, 1) := by decide +kernel
theorem dX12_carry_187 : decode cX12_carry 187 = .ok (.imul, 1) := by decide +kernel
theorem dX12_carry_188 : decode cX12_carry 188 = .ok (.iload 6, 2) := by decide +kernel
theorem dX12_carry_190 : decode cX12_carry 190 = .ok (.iadd, 1) := by decide +kernel
theorem dX12_carry_191 : decode cX12_carry 191 = .ok (.laload, 1) := by decide +kernel
theorem dX12_carry_192 : decode cX12_carry 192 = .ok (.invokestatic 182, 3) := by decide +kernel
theorem dX12_carry_195 : decode cX12_carry 195 = .ok (.lastore, 1) := by decide +kernel
theorem dX12_carry_196 : decode cX12_carry 196 = .ok (.iinc 4 1, 3) := by decide +kernel
theorem dX12_carry_199 : decode cX12_carry 199 = .ok (.goto (-131), 3) := by decide +kernel
theorem dX12_carry_202 : decode cX12_carry 202 = .ok (.aload_n 0, 1) := by decide +kernel
theorem dX12_carry_203 : decode cX12_carry 203 = .ok (.iload_n 2, 1) := by decide +kernel
theorem dX12_carry_204 : decode cX12_carry 204 = .ok (.invokevirtual 253, 3) := by decide +kernel
theorem dX12_carry_207 : decode cX12_carry 207 = .ok (.ireturn, 1) := by decide +kernel
def L_X12_carry_68 (d : Nat) (v0 : Option Nm) (v1 : Int32) (v2 : Int32) (v3 : Int32) (v4 : Int32) (h : MH) (u : Nat) (Q : Int32 → MH → Prop) : Prop := T u_X12_carry (d + 5) 68 [some (jR v0), some (jI v1), some (jI v2), some (jI v3), some (jI v4), none, none, none] [] h u (qI Q)
def F_X12_carry (d : Nat) (v0 : Option Nm) (v1 : Int32) (h : MH) (u : Nat) (Q : Int32 → MH → Prop) : Prop :=
  rc h v0 11 ∧ F_X12_isValue (d + 3) v0 v1 h 0 fun x1 h =>
  if x1 = 0 then
    Q (-1) h
  else
    gR h v0 11 25 fun x2 =>
    aI .int h x2 v1 fun x3 =>
    rc h v0 11 ∧ F_X12_newestOf (d + 4) v0 x3 h 0 fun x4 h =>
    rc h v0 11 ∧ F_X12_isConstant (d + 4) v0 v1 h 0 fun x5 h =>
    if x5 = 0 then
      gI h v0 11 24 fun x6 =>
      if x6 = 200 then
        Q (-4) h
      else
        L_X12_carry_68 d v0 v1 x3 x4 0 h u Q
    else
      gR h v0 11 30 fun x7 =>
      aI .int h x7 v1 fun x8 =>
      rc h v0 11 ∧ F_X12_placeOf (d + 4) v0 x4 x8 h 0 fun x9 h =>
      if 0 ≤ x9 then
        Q v1 h
      else
        Q (-3) h
set_option maxRecDepth 20000 in
theorem E_X12_carry {d : Nat} {v0 : Option Nm} {v1 : Int32} {h : MH} {u : Nat} {Q : Int32 → MH → Prop} (H : F_X12_carry d v0 v1 h u Q) : T u_X12_carry (d + 5) 0 [some (jR v0), some (jI v1), none, none, none, none, none, none] [] h u (qI Q) := by
  unfold F_X12_carry at H
  refine T_aload_n (pc := 0) dX12_carry_0 rfl rfl ?_
  refine T_iload_n (pc := 1) dX12_carry_1 rfl rfl ?_
  obtain ⟨H0, H⟩ := H
  refine T_iV (pc := 2) (ci := 11) (av := [jI v1]) (rest := []) (o := v0) dX12_carry_2 mf_X12_isValue c_5_155 c_5_157 pr_X12_isValue rfl rfl (Nat.le_of_ble_eq_true rfl) rfl H0 (iI_k (iI_m0 (fun x1 h H => ?_) (J_X12_isValue (d := (d + 3)) H)))
  refine T_if_ne (pc := 5) (tgt := 10) dX12_carry_5 (by decide) (fun hc => ?_) (fun hc => ?_)
  · rw [if_neg hc] at H
    refine T_aload_n (pc := 10) dX12_carry_10 rfl rfl ?_
    refine T_gR (pc := 11) fa_X12_66 dX12_carry_11 (gR_mono (fun x2 H => ?_) H)
    refine T_iload_n (pc := 14) dX12_carry_14 rfl rfl ?_
    refine T_aI (pc := 15) dX12_carry_15 (aI_mono (fun x3 H => ?_) H)
    refine T_istore_n (pc := 16) (ls2 := [some (jR v0), some (jI v1), some (jI x3), none, none, none, none, none]) dX12_carry_16 rfl (Nat.le_of_ble_eq_true rfl) rfl ?_
    refine T_aload_n (pc := 17) dX12_carry_17 rfl rfl ?_
    refine T_iload_n (pc := 18) dX12_carry_18 rfl rfl ?_
    obtain ⟨H0, H⟩ := H
    refine T_iV (pc := 19) (ci := 11) (av := [jI x3]) (rest := []) (o := v0) dX12_carry_19 mf_X12_newestOf c_5_210 c_5_212 pr_X12_newestOf rfl rfl (Nat.le_of_ble_eq_true rfl) rfl H0 (iI_k (iI_m0 (fun x4 h H => ?_) (J_X12_newestOf (d := (d + 4)) H)))
    refine T_istore_n (pc := 22) (ls2 := [some (jR v0), some (jI v1), some (jI x3), some (jI x4), none, none, none, none]) dX12_carry_22 rfl (Nat.le_of_ble_eq_true rfl) rfl ?_
    refine T_aload_n (pc := 23) dX12_carry_23 rfl rfl ?_
    refine T_iload_n (pc := 24) dX12_carry_24 rfl rfl ?_
    obtain ⟨H0, H⟩ := H
    refine T_iV (pc := 25) (ci := 11) (av := [jI v1]) (rest := []) (o := v0) dX12_carry_25 mf_X12_isConstant c_6_34 c_6_36 pr_X12_isConstant rfl rfl (Nat.le_of_ble_eq_true rfl) rfl H0 (iI_k (iI_m0 (fun x5 h H => ?_) (J_X12_isConstant (d := (d + 4)) H)))
    refine T_if_eq (pc := 28) (tgt := 52) dX12_carry_28 (by decide) (fun hc => ?_) (fun hc => ?_)
    · rw [if_pos hc] at H
      refine T_aload_n (pc := 52) dX12_carry_52 rfl rfl ?_
      refine T_gI (pc := 53) fa_X12_215 dX12_carry_53 (gI_mono (fun x6 H => ?_) H)
      refine T_sipush (pc := 56) (v := 200) dX12_carry_56 (by decide) ?_
      refine T_icmp_ne (pc := 59) (tgt := 65) dX12_carry_59 (by decide) (fun hc => ?_) (fun hc => ?_)
      · rw [if_neg hc] at H
        refine T_iconst (pc := 65) (v := 0) dX12_carry_65 (by decide) ?_
        refine T_istore (pc := 66) (ls2 := [some (jR v0), some (jI v1), some (jI x3), some (jI x4), some (jI 0), none, none, none]) dX12_carry_66 (Nat.le_of_ble_eq_true rfl) rfl ?_
        exact T.forget H ⟨rfl, rfl, rfl, rfl, rfl, trivial⟩
      · rw [if_pos hc] at H
        refine T_bipush (pc := 62) (v := (-4)) dX12_carry_62 (by decide) ?_
        exact T_ireturn (pc := 64) rfl rfl dX12_carry_64 H
    · rw [if_neg hc] at H
      refine T_aload_n (pc := 31) dX12_carry_31 rfl rfl ?_
      refine T_iload_n (pc := 32) dX12_carry_32 rfl rfl ?_
      refine T_aload_n (pc := 33) dX12_carry_33 rfl rfl ?_
      refine T_gR (pc := 34) fa_X12_81 dX12_carry_34 (gR_mono (fun x7 H => ?_) H)
      refine T_iload_n (pc := 37) dX12_carry_37 rfl rfl ?_
      refine T_aI (pc := 38) dX12_carry_38 (aI_mono (fun x8 H => ?_) H)
      obtain ⟨H0, H⟩ := H
      refine T_iV (pc := 39) (ci := 11) (av := [jI x4, jI x8]) (rest := []) (o := v0) dX12_carry_39 mf_X12_placeOf c_5_202 c_5_204 pr_X12_placeOf rfl rfl (Nat.le_of_ble_eq_true rfl) rfl H0 (iI_k (iI_m0 (fun x9 h H => ?_) (J_X12_placeOf (d := (d + 4)) H)))
      refine T_if_ge (pc := 42) (tgt := 50) dX12_carry_42 (by decide) (fun hc => ?_) (fun hc => ?_)
      · rw [if_pos hc] at H
        refine T_iload_n (pc := 50) dX12_carry_50 rfl rfl ?_
        exact T_ireturn (pc := 51) rfl rfl dX12_carry_51 H
      · rw [if_neg hc] at H
        refine T_bipush (pc := 45) (v := (-3)) dX12_carry_45 (by decide) ?_
        refine T_goto (pc := 47) (tgt := 51) dX12_carry_47 (by decide) ?_
        exact T_ireturn (pc := 51) rfl rfl dX12_carry_51 H
  · rw [if_pos hc] at H
    refine T_iconst (pc := 8) (v := (-1)) dX12_carry_8 (by decide) ?_
    exact T_ireturn (pc := 9) rfl rfl dX12_carry_9 H
def F_X12_carry_141 (d : Nat) (v0 : Option Nm) (v1 : Int32) (v2 : Int32) (v3 : Int32) (v4 : Int32) (s0 : Option Nm) (s1 : Int32) (s2 : Int64) (h : MH) (u : Nat) (Q : Int32 → MH → Prop) : Prop :=
  sV .long h s0 s1 (jL s2) fun h =>
  L_X12_carry_68 d v0 v1 v2 v3 (v4 + 1) h u Q
set_option maxRecDepth 20000 in
theorem E_X12_carry_141 {d : Nat} {v0 : Option Nm} {v1 : Int32} {v2 : Int32} {v3 : Int32} {v4 : Int32} {s0 : Option Nm} {s1 : Int32} {s2 : Int64} {h : MH} {u : Nat} {Q : Int32 → MH → Prop} (H : F_X12_carry_141 d v0 v1 v2 v3 v4 s0 s1 s2 h u Q) : T u_X12_carry (d + 5) 141 [some (jR v0), some (jI v1), some (jI v2), some (jI v3), some (jI v4), none, none, none] [jL s2, jI s1, jR s0] h u (qI Q) := by
  unfold F_X12_carry_141 at H
  refine T_sL (pc := 141) dX12_carry_141 (sV_mono (fun h H => ?_) H)
  refine T_goto (pc := 142) (tgt := 196) dX12_carry_142 (by decide) ?_
  refine T_iinc (pc := 196) (v := v4 + 1) (ls2 := [some (jR v0), some (jI v1), some (jI v2), some (jI v3), some (jI (v4 + 1)), none, none, none]) dX12_carry_196 rfl rfl (Nat.le_of_ble_eq_true rfl) rfl ?_
  refine T_goto (pc := 199) (tgt := 68) dX12_carry_199 (by decide) ?_
  exact T.forget H ⟨rfl, rfl, rfl, rfl, rfl, trivial⟩
def F_X12_carry_68 (d : Nat) (v0 : Option Nm) (v1 : Int32) (v2 : Int32) (v3 : Int32) (v4 : Int32) (h : MH) (u : Nat) (Q : Int32 → MH → Prop) : Prop :=
  gR h v0 11 15 fun x1 =>
  aI .int h x1 v3 fun x2 =>
  if x2 ≤ v4 then
    rc h v0 11 ∧ F_X12_finish d v0 v2 h 0 fun x3 h =>
    Q x3 h
  else
    gR h v0 11 17 fun x4 =>
    aI .int h x4 ((8 * v3) + v4) fun x5 =>
    rc h v0 11 ∧ F_X12_editionOf (d + 4) v0 v1 h 0 fun x6 h =>
    gR h v0 11 16 fun x7 =>
    aI .int h x7 ((8 * v3) + v4) fun x8 =>
    rc h v0 11 ∧ F_X12_placeOf (d + 4) v0 x6 x8 h 0 fun x9 h =>
    if 0 ≤ x9 then
      rc h v0 11 ∧ F_X12_laneOf (d + 3) v0 v1 x9 h 0 fun x10 h =>
      F_X12_isWidened (d + 4) x10 x5 h 0 fun x11 h =>
      if x11 = 0 then
        rc h v0 11 ∧ F_X12_fails (d + 4) v0 3 h 0 fun x16 h =>
        Q x16 h
      else
        gR h v0 11 32 fun x12 =>
        gR h v0 11 31 fun x13 =>
        aL h x13 ((6 * v1) + x9) fun x14 =>
        F_X12_widened (d + 2) x10 x5 x14 h 0 fun x15 h =>
        sV .long h x12 v4 (jL x15) fun h =>
        L_X12_carry_68 d v0 v1 v2 v3 (v4 + 1) h u Q
    else
      gR h v0 11 32 fun x17 =>
      if 8 ≤ x5 then
        F_X12_carry_141 d v0 v1 v2 v3 v4 x17 v4 (-1) h u Q
      else
        F_X12_carry_141 d v0 v1 v2 v3 v4 x17 v4 0 h u Q
set_option maxRecDepth 20000 in
theorem E_X12_carry_68 {d : Nat} {v0 : Option Nm} {v1 : Int32} {v2 : Int32} {v3 : Int32} {v4 : Int32} {h : MH} {u : Nat} {Q : Int32 → MH → Prop} (H : F_X12_carry_68 d v0 v1 v2 v3 v4 h u Q) : T u_X12_carry (d + 5) 68 [some (jR v0), some (jI v1), some (jI v2), some (jI v3), some (jI v4), none, none, none] [] h u (qI Q) := by
  unfold F_X12_carry_68 at H
  refine T_iload (pc := 68) dX12_carry_68 rfl ?_
  refine T_aload_n (pc := 70) dX12_carry_70 rfl rfl ?_
  refine T_gR (pc := 71) fa_X12_42 dX12_carry_71 (gR_mono (fun x1 H => ?_) H)
  refine T_iload_n (pc := 74) dX12_carry_74 rfl rfl ?_
  refine T_aI (pc := 75) dX12_carry_75 (aI_mono (fun x2 H => ?_) H)
  refine T_icmp_ge (pc := 76) (tgt := 202) dX12_carry_76 (by decide) (fun hc => ?_) (fun hc => ?_)
  · rw [if_pos hc] at H
    refine T_aload_n (pc := 202) dX12_carry_202 rfl rfl ?_
    refine T_iload_n (pc := 203) dX12_carry_203 rfl rfl ?_
    obtain ⟨H0, H⟩ := H
    refine T_iV (pc := 204) (ci := 11) (av := [jI v2]) (rest := []) (o := v0) dX12_carry_204 mf_X12_finish c_6_10 c_6_12 pr_X12_finish rfl rfl (Nat.le_of_ble_eq_true rfl) rfl H0 (iI_k (iI_m0 (fun x3 h H => ?_) (J_X12_finish (d := d) H)))
    exact T_ireturn (pc := 207) rfl rfl dX12_carry_207 H
  · rw [if_neg hc] at H
    refine T_aload_n (pc := 79) dX12_carry_79 rfl rfl ?_
    refine T_gR (pc := 80) fa_X12_48 dX12_carry_80 (gR_mono (fun x4 H => ?_) H)
    refine T_bipush (pc := 83) (v := 8) dX12_carry_83 (by decide) ?_
    refine T_iload_n (pc := 85) dX12_carry_85 rfl rfl ?_
    refine T_imul (pc := 86) dX12_carry_86 ?_
    refine T_iload (pc := 87) dX12_carry_87 rfl ?_
    refine T_iadd (pc := 89) dX12_carry_89 ?_
    refine T_aI (pc := 90) dX12_carry_90 (aI_mono (fun x5 H => ?_) H)
    refine T_istore (pc := 91) (ls2 := [some (jR v0), some (jI v1), some (jI v2), some (jI v3), some (jI v4), some (jI x5), none, none]) dX12_carry_91 (Nat.le_of_ble_eq_true rfl) rfl ?_
    refine T_aload_n (pc := 93) dX12_carry_93 rfl rfl ?_
    refine T_aload_n (pc := 94) dX12_carry_94 rfl rfl ?_
    refine T_iload_n (pc := 95) dX12_carry_95 rfl rfl ?_
    obtain ⟨H0, H⟩ := H
    refine T_iV (pc := 96) (ci := 11) (av := [jI v1]) (rest := [jR v0]) (o := v0) dX12_carry_96 mf_X12_editionOf c_6_42 c_6_44 pr_X12_editionOf rfl rfl (Nat.le_of_ble_eq_true rfl) rfl H0 (iI_k (iI_m0 (fun x6 h H => ?_) (J_X12_editionOf (d := (d + 4)) H)))
    refine T_aload_n (pc := 99) dX12_carry_99 rfl rfl ?_
    refine T_gR (pc := 100) fa_X12_45 dX12_carry_100 (gR_mono (fun x7 H => ?_) H)
    refine T_bipush (pc := 103) (v := 8) dX12_carry_103 (by decide) ?_
    refine T_iload_n (pc := 105) dX12_carry_105 rfl rfl ?_
    refine T_imul (pc := 106) dX12_carry_106 ?_
    refine T_iload (pc := 107) dX12_carry_107 rfl ?_
    refine T_iadd (pc := 109) dX12_carry_109 ?_
    refine T_aI (pc := 110) dX12_carry_110 (aI_mono (fun x8 H => ?_) H)
    obtain ⟨H0, H⟩ := H
    refine T_iV (pc := 111) (ci := 11) (av := [jI x6, jI x8]) (rest := []) (o := v0) dX12_carry_111 mf_X12_placeOf c_5_202 c_5_204 pr_X12_placeOf rfl rfl (Nat.le_of_ble_eq_true rfl) rfl H0 (iI_k (iI_m0 (fun x9 h H => ?_) (J_X12_placeOf (d := (d + 4)) H)))
    refine T_istore (pc := 114) (ls2 := [some (jR v0), some (jI v1), some (jI v2), some (jI v3), some (jI v4), some (jI x5), some (jI x9), none]) dX12_carry_114 (Nat.le_of_ble_eq_true rfl) rfl ?_
    refine T_iload (pc := 116) dX12_carry_116 rfl ?_
    refine T_if_ge (pc := 118) (tgt := 145) dX12_carry_118 (by decide) (fun hc => ?_) (fun hc => ?_)
    · rw [if_pos hc] at H
      refine T_aload_n (pc := 145) dX12_carry_145 rfl rfl ?_
      refine T_iload_n (pc := 146) dX12_carry_146 rfl rfl ?_
      refine T_iload (pc := 147) dX12_carry_147 rfl ?_
      obtain ⟨H0, H⟩ := H
      refine T_iV (pc := 149) (ci := 11) (av := [jI v1, jI x9]) (rest := []) (o := v0) dX12_carry_149 mf_X12_laneOf c_6_50 c_6_52 pr_X12_laneOf rfl rfl (Nat.le_of_ble_eq_true rfl) rfl H0 (iI_k (iI_m0 (fun x10 h H => ?_) (J_X12_laneOf (d := (d + 3)) H)))
      refine T_istore (pc := 152) (ls2 := [some (jR v0), some (jI v1), some (jI v2), some (jI v3), some (jI v4), some (jI x5), some (jI x9), some (jI x10)]) dX12_carry_152 (Nat.le_of_ble_eq_true rfl) rfl ?_
      refine T_iload (pc := 154) dX12_carry_154 rfl ?_
      refine T_iload (pc := 156) dX12_carry_156 rfl ?_
      refine T_invS (pc := 158) (av := [jI x10, jI x5]) (rest := []) dX12_carry_158 mf_X12_isWidened c_5_106 c_5_107 rfl (Nat.le_of_ble_eq_true rfl) rfl (iI_k (iI_m0 (fun x11 h H => ?_) (J_X12_isWidened (d := (d + 4)) H)))
      refine T_if_ne (pc := 161) (tgt := 170) dX12_carry_161 (by decide) (fun hc => ?_) (fun hc => ?_)
      · rw [if_neg hc] at H
        refine T_aload_n (pc := 170) dX12_carry_170 rfl rfl ?_
        refine T_gR (pc := 171) fa_X12_87 dX12_carry_171 (gR_mono (fun x12 H => ?_) H)
        refine T_iload (pc := 174) dX12_carry_174 rfl ?_
        refine T_iload (pc := 176) dX12_carry_176 rfl ?_
        refine T_iload (pc := 178) dX12_carry_178 rfl ?_
        refine T_aload_n (pc := 180) dX12_carry_180 rfl rfl ?_
        refine T_gR (pc := 181) fa_X12_84 dX12_carry_181 (gR_mono (fun x13 H => ?_) H)
        refine T_bipush (pc := 184) (v := 6) dX12_carry_184 (by decide) ?_
        refine T_iload_n (pc := 186) dX12_carry_186 rfl rfl ?_
        refine T_imul (pc := 187) dX12_carry_187 ?_
        refine T_iload (pc := 188) dX12_carry_188 rfl ?_
        refine T_iadd (pc := 190) dX12_carry_190 ?_
        refine T_aL (pc := 191) dX12_carry_191 (aL_mono (fun x14 H => ?_) H)
        refine T_invS (pc := 192) (av := [jI x10, jI x5, jL x14]) (rest := [jI v4, jR x12]) dX12_carry_192 mf_X12_widened c_5_133 c_5_134 rfl (Nat.le_of_ble_eq_true rfl) rfl (iL_k (iL_m0 (fun x15 h H => ?_) (J_X12_widened (d := (d + 2)) H)))
        refine T_sL (pc := 195) dX12_carry_195 (sV_mono (fun h H => ?_) H)
        refine T_iinc (pc := 196) (v := v4 + 1) (ls2 := [some (jR v0), some (jI v1), some (jI v2), some (jI v3), some (jI (v4 + 1)), some (jI x5), some (jI x9), some (jI x10)]) dX12_carry_196 rfl rfl (Nat.le_of_ble_eq_true rfl) rfl ?_
        refine T_goto (pc := 199) (tgt := 68) dX12_carry_199 (by decide) ?_
        exact T.forget H ⟨rfl, rfl, rfl, rfl, rfl, trivial⟩
      · rw [if_pos hc] at H
        refine T_aload_n (pc := 164) dX12_carry_164 rfl rfl ?_
        refine T_iconst (pc := 165) (v := 3) dX12_carry_165 (by decide) ?_
        obtain ⟨H0, H⟩ := H
        refine T_iV (pc := 166) (ci := 11) (av := [jI 3]) (rest := []) (o := v0) dX12_carry_166 mf_X12_fails c_5_89 c_5_91 pr_X12_fails rfl rfl (Nat.le_of_ble_eq_true rfl) rfl H0 (iI_k (iI_m0 (fun x16 h H => ?_) (J_X12_fails (d := (d + 4)) H)))
        exact T_ireturn (pc := 169) rfl rfl dX12_carry_169 H
    · rw [if_neg hc] at H
      refine T_aload_n (pc := 121) dX12_carry_121 rfl rfl ?_
      refine T_gR (pc := 122) fa_X12_87 dX12_carry_122 (gR_mono (fun x17 H => ?_) H)
      refine T_iload (pc := 125) dX12_carry_125 rfl ?_
      refine T_iload (pc := 127) dX12_carry_127 rfl ?_
      refine T_bipush (pc := 129) (v := 8) dX12_carry_129 (by decide) ?_
      refine T_icmp_ge (pc := 131) (tgt := 138) dX12_carry_131 (by decide) (fun hc => ?_) (fun hc => ?_)
      · rw [if_pos hc] at H
        refine T_ldc2 (pc := 138) (v := (-1)) dX12_carry_138 c_5_97 ?_
        exact T.forget (E_X12_carry_141 H) ⟨rfl, rfl, rfl, rfl, rfl, trivial⟩
      · rw [if_neg hc] at H
        refine T_lconst (pc := 134) (v := 0) dX12_carry_134 (by decide) ?_
        refine T_goto (pc := 135) (tgt := 141) dX12_carry_135 (by decide) ?_
        exact T.forget (E_X12_carry_141 H) ⟨rfl, rfl, rfl, rfl, rfl, trivial⟩
theorem I_X12_carry {d : Nat} {v0 : Option Nm} {v1 : Int32} {h : MH} {u : Nat} {K : Int32 → MH → Nat → Prop} (u1 : Nat) (hu : u1 ≤ u) (H : F_X12_carry d v0 v1 h u1 (fun x h2 => K x h2 (u - u1))) : iI (d + 5) u_X12_carry [jR v0, jI v1] h u K := inv.of u1 hu (Ct.of (by decide +kernel) rfl (Nat.le_of_ble_eq_true rfl) rfl (E_X12_carry H))
theorem J_X12_carry {d : Nat} {v0 : Option Nm} {v1 : Int32} {h : MH} {u : Nat} {K : Int32 → MH → Prop} (H : F_X12_carry d v0 v1 h 0 K) : iI (d + 5) u_X12_carry [jR v0, jI v1] h u (fun x h2 u2 => K x h2 ∧ u2 = u) := jiI (by decide +kernel) rfl (Nat.le_of_ble_eq_true rfl) rfl (E_X12_carry H)
theorem dX12_compared_0 : decode cX12_compared 0 = .ok (.iload_n 0, 1) := by decide +kernel
theorem dX12_compared_1 : decode cX12_compared 1 = .ok (.bipush 6, 2) := by decide +kernel
theorem dX12_compared_3 : decode cX12_compared 3 = .ok (.if_icmp .ge 25, 3) := by decide +kernel
theorem dX12_compared_6 : decode cX12_compared 6 = .ok (.lload_n 1, 1) := by decide +kernel
theorem dX12_compared_7 : decode cX12_compared 7 = .ok (.lload_n 3, 1) := by decide +kernel
theorem dX12_compared_8 : decode cX12_compared 8 = .ok (.lcmp, 1) := by decide +kernel
theorem dX12_compared_9 : decode cX12_compared 9 = .ok (.ifCond .ge 7, 3) := by decide +kernel
theorem dX12_compared_12 : decode cX12_compared 12 = .ok (.iconst (-1), 1) := by decide +kernel
theorem dX12_compared_13 : decode cX12_compared 13 = .ok (.goto 14, 3) := by decide +kernel
theorem dX12_compared_16 : decode cX12_compared 16 = .ok (.lload_n 1, 1) := by decide +kernel
theorem dX12_compared_17 : decode cX12_compared 17 = .ok (.lload_n 3, 1) := by decide +kernel
theorem dX12_compared_18 : decode cX12_compared 18 = .ok (.lcmp, 1) := by decide +kernel
theorem dX12_compared_19 : decode cX12_compared 19 = .ok (.ifCond .le 7, 3) := by decide +kernel
theorem dX12_compared_22 : decode cX12_compared 22 = .ok (.iconst 1, 1) := by decide +kernel
theorem dX12_compared_23 : decode cX12_compared 23 = .ok (.goto 4, 3) := by decide +kernel
theorem dX12_compared_26 : decode cX12_compared 26 = .ok (.iconst 0, 1) := by decide +kernel
theorem dX12_compared_27 : decode cX12_compared 27 = .ok (.ireturn, 1) := by decide +kernel
theorem dX12_compared_28 : decode cX12_compared 28 = .ok (.iload_n 0, 1) := by decide +kernel
theorem dX12_compared_29 : decode cX12_compared 29 = .ok (.bipush 6, 2) := by decide +kernel
theorem dX12_compared_31 : decode cX12_compared 31 = .ok (.if_icmp .ne 12, 3) := by decide +kernel
theorem dX12_compared_34 : decode cX12_compared 34 = .ok (.lload_n 1, 1) := by decide +kernel
theorem dX12_compared_35 : decode cX12_compared 35 = .ok (.l2i, 1) := by decide +kernel
theorem dX12_compared_36 : decode cX12_compared 36 = .ok (.invokestatic 145, 3) := by decide +kernel
theorem dX12_compared_39 : decode cX12_compared 39 = .ok (.f2d, 1) := by decide +kernel
theorem dX12_compared_40 : decode cX12_compared 40 = .ok (.goto 7, 3) := by decide +kernel
theorem dX12_compared_43 : decode cX12_compared 43 = .ok (.lload_n 1, 1) := by decide +kernel
theorem dX12_compared_44 : decode cX12_compared 44 = .ok (.invokestatic 149, 3) := by decide +kernel
theorem dX12_compared_47 : decode cX12_compared 47 = .ok (.dstore 5, 2) := by decide +kernel
theorem dX12_compared_49 : decode cX12_compared 49 = .ok (.iload_n 0, 1) := by decide +kernel
theorem dX12_compared_50 : decode cX12_compared 50 = .ok (.bipush 6, 2) := by decide +kernel
theorem dX12_compared_52 : decode cX12_compared 52 = .ok (.if_icmp .ne 12, 3) := by decide +kernel
theorem dX12_compared_55 : decode cX12_compared 55 = .ok (.lload_n 3, 1) := by decide +kernel
theorem dX12_compared_56 : decode cX12_compared 56 = .ok (.l2i, 1) := by decide +kernel
theorem dX12_compared_57 : decode cX12_compared 57 = .ok (.invokestatic 145, 3) := by decide +kernel
theorem dX12_compared_60 : decode cX12_compared 60 = .ok (.f2d, 1) := by decide +kernel
theorem dX12_compared_61 : decode cX12_compared 61 = .ok (.goto 7, 3) := by decide +kernel
theorem dX12_compared_64 : decode cX12_compared 64 = .ok (.lload_n 3, 1) := by decide +kernel
theorem dX12_compared_65 : decode cX12_compared 65 = .ok (.invokestatic 149, 3) := by decide +kernel
theorem dX12_compared_68 : decode cX12_compared 68 = .ok (.dstore 7, 2) := by decide +kernel
theorem dX12_compared_70 : decode cX12_compared 70 = .ok (.dload 5, 2) := by decide +kernel
theorem dX12_compared_72 : decode cX12_compared 72 = .ok (.dload 7, 2) := by decide +kernel
theorem dX12_compared_74 : decode cX12_compared 74 = .ok (.dcmp .g, 1) := by decide +kernel
theorem dX12_compared_75 : decode cX12_compared 75 = .ok (.ifCond .ge 7, 3) := by decide +kernel
theorem dX12_compared_78 : decode cX12_compared 78 = .ok (.iconst (-1), 1) := by decide +kernel
theorem dX12_compared_79 : decode cX12_compared 79 = .ok (.goto 36, 3) := by decide +kernel
theorem dX12_compared_82 : decode cX12_compared 82 = .ok (.dload 5, 2) := by decide +kernel
theorem dX12_compared_84 : decode cX12_compared 84 = .ok (.dload 7, 2) := by decide +kernel
theorem dX12_compared_86 : decode cX12_compared 86 = .ok (.dcmp .l, 1) := by decide +kernel
theorem dX12_compared_87 : decode cX12_compared 87 = .ok (.ifCond .le 7, 3) := by decide +kernel
theorem dX12_compared_90 : decode cX12_compared 90 = .ok (.iconst 1, 1) := by decide +kernel
theorem dX12_compared_91 : decode cX12_compared 91 = .ok (.goto 24, 3) := by decide +kernel
theorem dX12_compared_94 : decode cX12_compared 94 = .ok (.lload_n 1, 1) := by decide +kernel
theorem dX12_compared_95 : decode cX12_compared 95 = .ok (.lload_n 3, 1) := by decide +kernel
theorem dX12_compared_96 : decode cX12_compared 96 = .ok (.lcmp, 1) := by decide +kernel
theorem dX12_compared_97 : decode cX12_compared 97 = .ok (.ifCond .ge 7, 3) := by decide +kernel
theorem dX12_compared_100 : decode cX12_compared 100 = .ok (.iconst (-1), 1) := by decide +kernel
theorem dX12_compared_101 : decode cX12_compared 101 = .ok (.goto 14, 3) := by decide +kernel
theorem dX12_compared_104 : decode cX12_compared 104 = .ok (.lload_n 1, 1) := by decide +kernel
theorem dX12_compared_105 : decode cX12_compared 105 = .ok (.lload_n 3, 1) := by decide +kernel
theorem dX12_compared_106 : decode cX12_compared 106 = .ok (.lcmp, 1) := by decide +kernel
theorem dX12_compared_107 : decode cX12_compared 107 = .ok (.ifCond .le 7, 3) := by decide +kernel
theorem dX12_compared_110 : decode cX12_compared 110 = .ok (.iconst 1, 1) := by decide +kernel
theorem dX12_compared_111 : decode cX12_compared 111 = .ok (.goto 4, 3) := by decide +kernel
theorem dX12_compared_114 : decode cX12_compared 114 = .ok (.iconst 0, 1) := by decide +kernel
theorem dX12_compared_115 : decode cX12_compared 115 = .ok (.ireturn, 1) := by decide +kernel
def F_X12_compared_68 (d : Nat) (v1 : Int64) (v3 : Int64) (v5 : UInt64) (s0 : UInt64) (h : MH) (u : Nat) (Q : Int32 → MH → Prop) : Prop :=
  if 0 ≤ (Op.cmpValue (FP.dcmp v5 s0) .g) then
    if (Op.cmpValue (FP.dcmp v5 s0) .l) ≤ 0 then
      if 0 ≤ (lg_cmp v1 v3) then
        if (lg_cmp v1 v3) ≤ 0 then
          Q 0 h
        else
          Q 1 h
      else
        Q (-1) h
    else
      Q 1 h
  else
    Q (-1) h
set_option maxRecDepth 20000 in
theorem E_X12_compared_68 {d : Nat} {v1 : Int64} {v3 : Int64} {v5 : UInt64} {s0 : UInt64} {h : MH} {u : Nat} {Q : Int32 → MH → Prop} (H : F_X12_compared_68 d v1 v3 v5 s0 h u Q) : T u_X12_compared (d + 1) 68 [none, some (jL v1), none, some (jL v3), none, some (jD v5), none, none, none] [jD s0] h u (qI Q) := by
  unfold F_X12_compared_68 at H
  refine T_dstore (pc := 68) (ls2 := [none, some (jL v1), none, some (jL v3), none, some (jD v5), none, some (jD s0), none]) dX12_compared_68 (Nat.le_of_ble_eq_true rfl) rfl ?_
  refine T_dload (pc := 70) dX12_compared_70 rfl ?_
  refine T_dload (pc := 72) dX12_compared_72 rfl ?_
  refine T_dcmp (pc := 74) dX12_compared_74 ?_
  refine T_if_ge (pc := 75) (tgt := 82) dX12_compared_75 (by decide) (fun hc => ?_) (fun hc => ?_)
  · rw [if_pos hc] at H
    refine T_dload (pc := 82) dX12_compared_82 rfl ?_
    refine T_dload (pc := 84) dX12_compared_84 rfl ?_
    refine T_dcmp (pc := 86) dX12_compared_86 ?_
    refine T_if_le (pc := 87) (tgt := 94) dX12_compared_87 (by decide) (fun hc => ?_) (fun hc => ?_)
    · rw [if_pos hc] at H
      refine T_lload_n (pc := 94) dX12_compared_94 rfl rfl ?_
      refine T_lload_n (pc := 95) dX12_compared_95 rfl rfl ?_
      refine T_lcmp (pc := 96) dX12_compared_96 ?_
      refine T_if_ge (pc := 97) (tgt := 104) dX12_compared_97 (by decide) (fun hc => ?_) (fun hc => ?_)
      · rw [if_pos hc] at H
        refine T_lload_n (pc := 104) dX12_compared_104 rfl rfl ?_
        refine T_lload_n (pc := 105) dX12_compared_105 rfl rfl ?_
        refine T_lcmp (pc := 106) dX12_compared_106 ?_
        refine T_if_le (pc := 107) (tgt := 114) dX12_compared_107 (by decide) (fun hc => ?_) (fun hc => ?_)
        · rw [if_pos hc] at H
          refine T_iconst (pc := 114) (v := 0) dX12_compared_114 (by decide) ?_
          exact T_ireturn (pc := 115) rfl rfl dX12_compared_115 H
        · rw [if_neg hc] at H
          refine T_iconst (pc := 110) (v := 1) dX12_compared_110 (by decide) ?_
          refine T_goto (pc := 111) (tgt := 115) dX12_compared_111 (by decide) ?_
          exact T_ireturn (pc := 115) rfl rfl dX12_compared_115 H
      · rw [if_neg hc] at H
        refine T_iconst (pc := 100) (v := (-1)) dX12_compared_100 (by decide) ?_
        refine T_goto (pc := 101) (tgt := 115) dX12_compared_101 (by decide) ?_
        exact T_ireturn (pc := 115) rfl rfl dX12_compared_115 H
    · rw [if_neg hc] at H
      refine T_iconst (pc := 90) (v := 1) dX12_compared_90 (by decide) ?_
      refine T_goto (pc := 91) (tgt := 115) dX12_compared_91 (by decide) ?_
      exact T_ireturn (pc := 115) rfl rfl dX12_compared_115 H
  · rw [if_neg hc] at H
    refine T_iconst (pc := 78) (v := (-1)) dX12_compared_78 (by decide) ?_
    refine T_goto (pc := 79) (tgt := 115) dX12_compared_79 (by decide) ?_
    exact T_ireturn (pc := 115) rfl rfl dX12_compared_115 H
def F_X12_compared_47 (d : Nat) (v0 : Int32) (v1 : Int64) (v3 : Int64) (s0 : UInt64) (h : MH) (u : Nat) (Q : Int32 → MH → Prop) : Prop :=
  if v0 = 6 then
    vn_sni2f (v3.toInt32) = false ∧
    vf_n64 (FP.f2d ((v3.toInt32).toUInt32)) ∧
    F_X12_compared_68 d v1 v3 s0 (FP.f2d ((v3.toInt32).toUInt32)) h u Q
  else
    vn_snl2d v3 = false ∧
    F_X12_compared_68 d v1 v3 s0 (v3.toUInt64) h u Q
set_option maxRecDepth 20000 in
theorem E_X12_compared_47 {d : Nat} {v0 : Int32} {v1 : Int64} {v3 : Int64} {s0 : UInt64} {h : MH} {u : Nat} {Q : Int32 → MH → Prop} (H : F_X12_compared_47 d v0 v1 v3 s0 h u Q) : T u_X12_compared (d + 1) 47 [some (jI v0), some (jL v1), none, some (jL v3), none, none, none, none, none] [jD s0] h u (qI Q) := by
  unfold F_X12_compared_47 at H
  refine T_dstore (pc := 47) (ls2 := [some (jI v0), some (jL v1), none, some (jL v3), none, some (jD s0), none, none, none]) dX12_compared_47 (Nat.le_of_ble_eq_true rfl) rfl ?_
  refine T_iload_n (pc := 49) dX12_compared_49 rfl rfl ?_
  refine T_bipush (pc := 50) (v := 6) dX12_compared_50 (by decide) ?_
  refine T_icmp_ne (pc := 52) (tgt := 64) dX12_compared_52 (by decide) (fun hc => ?_) (fun hc => ?_)
  · rw [if_neg hc] at H
    refine T_lload_n (pc := 64) dX12_compared_64 rfl rfl ?_
    obtain ⟨H0, H⟩ := H
    refine T_bits2d (pc := 65) dX12_compared_65 c_6_97 c_6_99 c_6_98 c_1_12 H0 (Nat.le_of_ble_eq_true rfl) ?_
    exact T.forget (E_X12_compared_68 H) ⟨rfl, rfl, rfl, trivial⟩
  · rw [if_pos hc] at H
    refine T_lload_n (pc := 55) dX12_compared_55 rfl rfl ?_
    refine T_l2i (pc := 56) dX12_compared_56 ?_
    obtain ⟨H0, H⟩ := H
    refine T_bits2f (pc := 57) dX12_compared_57 c_5_136 c_5_138 c_5_137 c_1_11 H0 (Nat.le_of_ble_eq_true rfl) ?_
    obtain ⟨H0, H⟩ := H
    refine T_f2d (pc := 60) dX12_compared_60 H0 ?_
    refine T_goto (pc := 61) (tgt := 68) dX12_compared_61 (by decide) ?_
    exact T.forget (E_X12_compared_68 H) ⟨rfl, rfl, rfl, trivial⟩
def F_X12_compared (d : Nat) (v0 : Int32) (v1 : Int64) (v3 : Int64) (h : MH) (u : Nat) (Q : Int32 → MH → Prop) : Prop :=
  if 6 ≤ v0 then
    if v0 = 6 then
      vn_sni2f (v1.toInt32) = false ∧
      vf_n64 (FP.f2d ((v1.toInt32).toUInt32)) ∧
      F_X12_compared_47 d v0 v1 v3 (FP.f2d ((v1.toInt32).toUInt32)) h u Q
    else
      vn_snl2d v1 = false ∧
      F_X12_compared_47 d v0 v1 v3 (v1.toUInt64) h u Q
  else
    if 0 ≤ (lg_cmp v1 v3) then
      if (lg_cmp v1 v3) ≤ 0 then
        Q 0 h
      else
        Q 1 h
    else
      Q (-1) h
set_option maxRecDepth 20000 in
theorem E_X12_compared {d : Nat} {v0 : Int32} {v1 : Int64} {v3 : Int64} {h : MH} {u : Nat} {Q : Int32 → MH → Prop} (H : F_X12_compared d v0 v1 v3 h u Q) : T u_X12_compared (d + 1) 0 [some (jI v0), some (jL v1), none, some (jL v3), none, none, none, none, none] [] h u (qI Q) := by
  unfold F_X12_compared at H
  refine T_iload_n (pc := 0) dX12_compared_0 rfl rfl ?_
  refine T_bipush (pc := 1) (v := 6) dX12_compared_1 (by decide) ?_
  refine T_icmp_ge (pc := 3) (tgt := 28) dX12_compared_3 (by decide) (fun hc => ?_) (fun hc => ?_)
  · rw [if_pos hc] at H
    refine T_iload_n (pc := 28) dX12_compared_28 rfl rfl ?_
    refine T_bipush (pc := 29) (v := 6) dX12_compared_29 (by decide) ?_
    refine T_icmp_ne (pc := 31) (tgt := 43) dX12_compared_31 (by decide) (fun hc => ?_) (fun hc => ?_)
    · rw [if_neg hc] at H
      refine T_lload_n (pc := 43) dX12_compared_43 rfl rfl ?_
      obtain ⟨H0, H⟩ := H
      refine T_bits2d (pc := 44) dX12_compared_44 c_6_97 c_6_99 c_6_98 c_1_12 H0 (Nat.le_of_ble_eq_true rfl) ?_
      exact T.forget (E_X12_compared_47 H) ⟨rfl, rfl, rfl, trivial⟩
    · rw [if_pos hc] at H
      refine T_lload_n (pc := 34) dX12_compared_34 rfl rfl ?_
      refine T_l2i (pc := 35) dX12_compared_35 ?_
      obtain ⟨H0, H⟩ := H
      refine T_bits2f (pc := 36) dX12_compared_36 c_5_136 c_5_138 c_5_137 c_1_11 H0 (Nat.le_of_ble_eq_true rfl) ?_
      obtain ⟨H0, H⟩ := H
      refine T_f2d (pc := 39) dX12_compared_39 H0 ?_
      refine T_goto (pc := 40) (tgt := 47) dX12_compared_40 (by decide) ?_
      exact T.forget (E_X12_compared_47 H) ⟨rfl, rfl, rfl, trivial⟩
  · rw [if_neg hc] at H
    refine T_lload_n (pc := 6) dX12_compared_6 rfl rfl ?_
    refine T_lload_n (pc := 7) dX12_compared_7 rfl rfl ?_
    refine T_lcmp (pc := 8) dX12_compared_8 ?_
    refine T_if_ge (pc := 9) (tgt := 16) dX12_compared_9 (by decide) (fun hc => ?_) (fun hc => ?_)
    · rw [if_pos hc] at H
      refine T_lload_n (pc := 16) dX12_compared_16 rfl rfl ?_
      refine T_lload_n (pc := 17) dX12_compared_17 rfl rfl ?_
      refine T_lcmp (pc := 18) dX12_compared_18 ?_
      refine T_if_le (pc := 19) (tgt := 26) dX12_compared_19 (by decide) (fun hc => ?_) (fun hc => ?_)
      · rw [if_pos hc] at H
        refine T_iconst (pc := 26) (v := 0) dX12_compared_26 (by decide) ?_
        exact T_ireturn (pc := 27) rfl rfl dX12_compared_27 H
      · rw [if_neg hc] at H
        refine T_iconst (pc := 22) (v := 1) dX12_compared_22 (by decide) ?_
        refine T_goto (pc := 23) (tgt := 27) dX12_compared_23 (by decide) ?_
        exact T_ireturn (pc := 27) rfl rfl dX12_compared_27 H
    · rw [if_neg hc] at H
      refine T_iconst (pc := 12) (v := (-1)) dX12_compared_12 (by decide) ?_
      refine T_goto (pc := 13) (tgt := 27) dX12_compared_13 (by decide) ?_
      exact T_ireturn (pc := 27) rfl rfl dX12_compared_27 H
theorem I_X12_compared {d : Nat} {v0 : Int32} {v1 : Int64} {v3 : Int64} {h : MH} {u : Nat} {K : Int32 → MH → Nat → Prop} (u1 : Nat) (hu : u1 ≤ u) (H : F_X12_compared d v0 v1 v3 h u1 (fun x h2 => K x h2 (u - u1))) : iI (d + 1) u_X12_compared [jI v0, jL v1, jL v3] h u K := inv.of u1 hu (Ct.of (by decide +kernel) rfl (Nat.le_of_ble_eq_true rfl) rfl (E_X12_compared H))
theorem J_X12_compared {d : Nat} {v0 : Int32} {v1 : Int64} {v3 : Int64} {h : MH} {u : Nat} {K : Int32 → MH → Prop} (H : F_X12_compared d v0 v1 v3 h 0 K) : iI (d + 1) u_X12_compared [jI v0, jL v1, jL v3] h u (fun x h2 u2 => K x h2 ∧ u2 = u) := jiI (by decide +kernel) rfl (Nat.le_of_ble_eq_true rfl) rfl (E_X12_compared H)
theorem dX12_traced_0 : decode cX12_traced 0 = .ok (.aload_n 0, 1) := by decide +kernel
theorem dX12_traced_1 : decode cX12_traced 1 = .ok (.bipush 31, 2) := by decide +kernel
theorem dX12_traced_3 : decode cX12_traced 3 = .ok (.aload_n 0, 1) := by decide +kernel
theorem dX12_traced_4 : decode cX12_traced 4 = .ok (.getfield 128, 3) := by decide +kernel
theorem dX12_traced_7 : decode cX12_traced 7 = .ok (.imul, 1) := by decide +kernel
theorem dX12_traced_8 : decode cX12_traced 8 = .ok (.iload_n 1, 1) := by decide +kernel
theorem dX12_traced_9 : decode cX12_traced 9 = .ok (.iadd, 1) := by decide +kernel
theorem dX12_traced_10 : decode cX12_traced 10 = .ok (.putfield 128, 3) := by decide +kernel
theorem dX12_traced_13 : decode cX12_traced 13 = .ok (.return_, 1) := by decide +kernel
def F_X12_traced (d : Nat) (v0 : Option Nm) (v1 : Int32) (h : MH) (u : Nat) (Q : MH → Prop) : Prop :=
  gI h v0 11 2 fun x1 =>
  pV h v0 11 2 (jI ((31 * x1) + v1)) fun h =>
  Q h
set_option maxRecDepth 20000 in
theorem E_X12_traced {d : Nat} {v0 : Option Nm} {v1 : Int32} {h : MH} {u : Nat} {Q : MH → Prop} (H : F_X12_traced d v0 v1 h u Q) : T u_X12_traced d 0 [some (jR v0), some (jI v1)] [] h u (qV Q) := by
  unfold F_X12_traced at H
  refine T_aload_n (pc := 0) dX12_traced_0 rfl rfl ?_
  refine T_bipush (pc := 1) (v := 31) dX12_traced_1 (by decide) ?_
  refine T_aload_n (pc := 3) dX12_traced_3 rfl rfl ?_
  refine T_gI (pc := 4) fa_X12_128 dX12_traced_4 (gI_mono (fun x1 H => ?_) H)
  refine T_imul (pc := 7) dX12_traced_7 ?_
  refine T_iload_n (pc := 8) dX12_traced_8 rfl rfl ?_
  refine T_iadd (pc := 9) dX12_traced_9 ?_
  refine T_pV (pc := 10) fa_X12_128 dX12_traced_10 trivial (pV_mono (fun h H => ?_) H)
  exact T_return (pc := 13) rfl dX12_traced_13 H
theorem I_X12_traced {d : Nat} {v0 : Option Nm} {v1 : Int32} {h : MH} {u : Nat} {K : MH → Nat → Prop} (u1 : Nat) (hu : u1 ≤ u) (H : F_X12_traced d v0 v1 h u1 (fun h2 => K h2 (u - u1))) : iV d u_X12_traced [jR v0, jI v1] h u K := inv.of u1 hu (Ct.of (by decide +kernel) rfl (Nat.le_of_ble_eq_true rfl) rfl (E_X12_traced H))
theorem J_X12_traced {d : Nat} {v0 : Option Nm} {v1 : Int32} {h : MH} {u : Nat} {K : MH → Prop} (H : F_X12_traced d v0 v1 h 0 K) : iV d u_X12_traced [jR v0, jI v1] h u (fun h2 u2 => K h2 ∧ u2 = u) := jiV (by decide +kernel) rfl (Nat.le_of_ble_eq_true rfl) rfl (E_X12_traced H)
theorem dX12_constantWeight_0 : decode cX12_constantWeight 0 = .ok (.aload_n 0, 1) := by decide +kernel
theorem dX12_constantWeight_1 : decode cX12_constantWeight 1 = .ok (.getfield 30, 3) := by decide +kernel
theorem dX12_constantWeight_4 : decode cX12_constantWeight 4 = .ok (.aload_n 0, 1) := by decide +kernel
theorem dX12_constantWeight_5 : decode cX12_constantWeight 5 = .ok (.getfield 66, 3) := by decide +kernel
theorem dX12_constantWeight_8 : decode cX12_constantWeight 8 = .ok (.iload_n 1, 1) := by decide +kernel
theorem dX12_constantWeight_9 : decode cX12_constantWeight 9 = .ok (.iaload, 1) := by decide +kernel
theorem dX12_constantWeight_10 : decode cX12_constantWeight 10 = .ok (.iaload, 1) := by decide +kernel
theorem dX12_constantWeight_11 : decode cX12_constantWeight 11 = .ok (.istore_n 2, 1) := by decide +kernel
theorem dX12_constantWeight_12 : decode cX12_constantWeight 12 = .ok (.aload_n 0, 1) := by decide +kernel
theorem dX12_constantWeight_13 : decode cX12_constantWeight 13 = .ok (.getfield 72, 3) := by decide +kernel
theorem dX12_constantWeight_16 : decode cX12_constantWeight 16 = .ok (.iload_n 1, 1) := by decide +kernel
theorem dX12_constantWeight_17 : decode cX12_constantWeight 17 = .ok (.iaload, 1) := by decide +kernel
theorem dX12_constantWeight_18 : decode cX12_constantWeight 18 = .ok (.iconst 1, 1) := by decide +kernel
theorem dX12_constantWeight_19 : decode cX12_constantWeight 19 = .ok (.iadd, 1) := by decide +kernel
theorem dX12_constantWeight_20 : decode cX12_constantWeight 20 = .ok (.istore_n 3, 1) := by decide +kernel
theorem dX12_constantWeight_21 : decode cX12_constantWeight 21 = .ok (.iload_n 2, 1) := by decide +kernel
theorem dX12_constantWeight_22 : decode cX12_constantWeight 22 = .ok (.iconst 3, 1) := by decide +kernel
theorem dX12_constantWeight_23 : decode cX12_constantWeight 23 = .ok (.if_icmp .ne 8, 3) := by decide +kernel
theorem dX12_constantWeight_26 : decode cX12_constantWeight 26 = .ok (.aload_n 0, 1) := by decide +kernel
theorem dX12_constantWeight_27 : decode cX12_constantWeight 27 = .ok (.iconst 5, 1) := by decide +kernel
theorem dX12_constantWeight_28 : decode cX12_constantWeight 28 = .ok (.invokevirtual 218, 3) := by decide +kernel
theorem dX12_constantWeight_31 : decode cX12_constantWeight 31 = .ok (.iload_n 2, 1) := by decide +kernel
theorem dX12_constantWeight_32 : decode cX12_constantWeight 32 = .ok (.ifCond .le 8, 3) := by decide +kernel
theorem dX12_constantWeight_35 : decode cX12_constantWeight 35 = .ok (.aload_n 0, 1) := by decide +kernel
theorem dX12_constantWeight_36 : decode cX12_constantWeight 36 = .ok (.iconst 4, 1) := by decide +kernel
theorem dX12_constantWeight_37 : decode cX12_constantWeight 37 = .ok (.invokevirtual 218, 3) := by decide +kernel
theorem dX12_constantWeight_40 : decode cX12_constantWeight 40 = .ok (.aload_n 0, 1) := by decide +kernel
theorem dX12_constantWeight_41 : decode cX12_constantWeight 41 = .ok (.iconst 3, 1) := by decide +kernel
theorem dX12_constantWeight_42 : decode cX12_constantWeight 42 = .ok (.invokevirtual 218, 3) := by decide +kernel
theorem dX12_constantWeight_45 : decode cX12_constantWeight 45 = .ok (.iload_n 2, 1) := by decide +kernel
theorem dX12_constantWeight_46 : decode cX12_constantWeight 46 = .ok (.ifCond .ne 7, 3) := by decide +kernel
theorem dX12_constantWeight_49 : decode cX12_constantWeight 49 = .ok (.iload_n 3, 1) := by decide +kernel
theorem dX12_constantWeight_50 : decode cX12_constantWeight 50 = .ok (.goto 20, 3) := by decide +kernel
theorem dX12_constantWeight_53 : decode cX12_constantWeight 53 = .ok (.iload_n 2, 1) := by decide +kernel
theorem dX12_constantWeight_54 : decode cX12_constantWeight 54 = .ok (.iconst 3, 1) := by decide +kernel
theorem dX12_constantWeight_55 : decode cX12_constantWeight 55 = .ok (.if_icmp .ne 12, 3) := by decide +kernel
theorem dX12_constantWeight_58 : decode cX12_constantWeight 58 = .ok (.iconst 2, 1) := by decide +kernel
theorem dX12_constantWeight_59 : decode cX12_constantWeight 59 = .ok (.iload_n 3, 1) := by decide +kernel
theorem dX12_constantWeight_60 : decode cX12_constantWeight 60 = .ok (.imul, 1) := by decide +kernel
theorem dX12_constantWeight_61 : decode cX12_constantWeight 61 = .ok (.bipush 8, 2) := by decide +kernel
theorem dX12_constantWeight_63 : decode cX12_constantWeight 63 = .ok (.iadd, 1) := by decide +kernel
theorem dX12_constantWeight_64 : decode cX12_constantWeight 64 = .ok (.goto 6, 3) := by decide +kernel
theorem dX12_constantWeight_67 : decode cX12_constantWeight 67 = .ok (.iconst 2, 1) := by decide +kernel
theorem dX12_constantWeight_68 : decode cX12_constantWeight 68 = .ok (.iload_n 3, 1) := by decide +kernel
theorem dX12_constantWeight_69 : decode cX12_constantWeight 69 = .ok (.imul, 1) := by decide +kernel
theorem dX12_constantWeight_70 : decode cX12_constantWeight 70 = .ok (.ireturn, 1) := by decide +kernel
def F_X12_constantWeight_40 (d : Nat) (v0 : Option Nm) (v2 : Int32) (v3 : Int32) (h : MH) (u : Nat) (Q : Int32 → MH → Prop) : Prop :=
  rc h v0 11 ∧ F_X12_traced d v0 3 h 0 fun h =>
  if v2 = 0 then
    Q v3 h
  else
    if v2 = 3 then
      Q ((2 * v3) + 8) h
    else
      Q (2 * v3) h
set_option maxRecDepth 20000 in
theorem E_X12_constantWeight_40 {d : Nat} {v0 : Option Nm} {v2 : Int32} {v3 : Int32} {h : MH} {u : Nat} {Q : Int32 → MH → Prop} (H : F_X12_constantWeight_40 d v0 v2 v3 h u Q) : T u_X12_constantWeight (d + 1) 40 [some (jR v0), none, some (jI v2), some (jI v3)] [] h u (qI Q) := by
  unfold F_X12_constantWeight_40 at H
  refine T_aload_n (pc := 40) dX12_constantWeight_40 rfl rfl ?_
  refine T_iconst (pc := 41) (v := 3) dX12_constantWeight_41 (by decide) ?_
  obtain ⟨H0, H⟩ := H
  refine T_iV (pc := 42) (ci := 11) (av := [jI 3]) (rest := []) (o := v0) dX12_constantWeight_42 mf_X12_traced c_6_6 c_6_8 pr_X12_traced rfl rfl (Nat.le_of_ble_eq_true rfl) rfl H0 (iV_k (iV_m0 (fun h H => ?_) (J_X12_traced (d := d) H)))
  refine T_iload_n (pc := 45) dX12_constantWeight_45 rfl rfl ?_
  refine T_if_ne (pc := 46) (tgt := 53) dX12_constantWeight_46 (by decide) (fun hc => ?_) (fun hc => ?_)
  · rw [if_neg hc] at H
    refine T_iload_n (pc := 53) dX12_constantWeight_53 rfl rfl ?_
    refine T_iconst (pc := 54) (v := 3) dX12_constantWeight_54 (by decide) ?_
    refine T_icmp_ne (pc := 55) (tgt := 67) dX12_constantWeight_55 (by decide) (fun hc => ?_) (fun hc => ?_)
    · rw [if_neg hc] at H
      refine T_iconst (pc := 67) (v := 2) dX12_constantWeight_67 (by decide) ?_
      refine T_iload_n (pc := 68) dX12_constantWeight_68 rfl rfl ?_
      refine T_imul (pc := 69) dX12_constantWeight_69 ?_
      exact T_ireturn (pc := 70) rfl rfl dX12_constantWeight_70 H
    · rw [if_pos hc] at H
      refine T_iconst (pc := 58) (v := 2) dX12_constantWeight_58 (by decide) ?_
      refine T_iload_n (pc := 59) dX12_constantWeight_59 rfl rfl ?_
      refine T_imul (pc := 60) dX12_constantWeight_60 ?_
      refine T_bipush (pc := 61) (v := 8) dX12_constantWeight_61 (by decide) ?_
      refine T_iadd (pc := 63) dX12_constantWeight_63 ?_
      refine T_goto (pc := 64) (tgt := 70) dX12_constantWeight_64 (by decide) ?_
      exact T_ireturn (pc := 70) rfl rfl dX12_constantWeight_70 H
  · rw [if_pos hc] at H
    refine T_iload_n (pc := 49) dX12_constantWeight_49 rfl rfl ?_
    refine T_goto (pc := 50) (tgt := 70) dX12_constantWeight_50 (by decide) ?_
    exact T_ireturn (pc := 70) rfl rfl dX12_constantWeight_70 H
def F_X12_constantWeight_31 (d : Nat) (v0 : Option Nm) (v2 : Int32) (v3 : Int32) (h : MH) (u : Nat) (Q : Int32 → MH → Prop) : Prop :=
  if v2 ≤ 0 then
    F_X12_constantWeight_40 d v0 v2 v3 h u Q
  else
    rc h v0 11 ∧ F_X12_traced d v0 4 h 0 fun h =>
    F_X12_constantWeight_40 d v0 v2 v3 h u Q
set_option maxRecDepth 20000 in
theorem E_X12_constantWeight_31 {d : Nat} {v0 : Option Nm} {v2 : Int32} {v3 : Int32} {h : MH} {u : Nat} {Q : Int32 → MH → Prop} (H : F_X12_constantWeight_31 d v0 v2 v3 h u Q) : T u_X12_constantWeight (d + 1) 31 [some (jR v0), none, some (jI v2), some (jI v3)] [] h u (qI Q) := by
  unfold F_X12_constantWeight_31 at H
  refine T_iload_n (pc := 31) dX12_constantWeight_31 rfl rfl ?_
  refine T_if_le (pc := 32) (tgt := 40) dX12_constantWeight_32 (by decide) (fun hc => ?_) (fun hc => ?_)
  · rw [if_pos hc] at H
    exact T.forget (E_X12_constantWeight_40 H) ⟨rfl, rfl, rfl, trivial⟩
  · rw [if_neg hc] at H
    refine T_aload_n (pc := 35) dX12_constantWeight_35 rfl rfl ?_
    refine T_iconst (pc := 36) (v := 4) dX12_constantWeight_36 (by decide) ?_
    obtain ⟨H0, H⟩ := H
    refine T_iV (pc := 37) (ci := 11) (av := [jI 4]) (rest := []) (o := v0) dX12_constantWeight_37 mf_X12_traced c_6_6 c_6_8 pr_X12_traced rfl rfl (Nat.le_of_ble_eq_true rfl) rfl H0 (iV_k (iV_m0 (fun h H => ?_) (J_X12_traced (d := d) H)))
    exact T.forget (E_X12_constantWeight_40 H) ⟨rfl, rfl, rfl, trivial⟩
def F_X12_constantWeight (d : Nat) (v0 : Option Nm) (v1 : Int32) (h : MH) (u : Nat) (Q : Int32 → MH → Prop) : Prop :=
  gR h v0 11 11 fun x1 =>
  gR h v0 11 25 fun x2 =>
  aI .int h x2 v1 fun x3 =>
  aI .int h x1 x3 fun x4 =>
  gR h v0 11 27 fun x5 =>
  aI .int h x5 v1 fun x6 =>
  if x4 = 3 then
    rc h v0 11 ∧ F_X12_traced d v0 5 h 0 fun h =>
    F_X12_constantWeight_31 d v0 x4 (x6 + 1) h u Q
  else
    F_X12_constantWeight_31 d v0 x4 (x6 + 1) h u Q
set_option maxRecDepth 20000 in
theorem E_X12_constantWeight {d : Nat} {v0 : Option Nm} {v1 : Int32} {h : MH} {u : Nat} {Q : Int32 → MH → Prop} (H : F_X12_constantWeight d v0 v1 h u Q) : T u_X12_constantWeight (d + 1) 0 [some (jR v0), some (jI v1), none, none] [] h u (qI Q) := by
  unfold F_X12_constantWeight at H
  refine T_aload_n (pc := 0) dX12_constantWeight_0 rfl rfl ?_
  refine T_gR (pc := 1) fa_X12_30 dX12_constantWeight_1 (gR_mono (fun x1 H => ?_) H)
  refine T_aload_n (pc := 4) dX12_constantWeight_4 rfl rfl ?_
  refine T_gR (pc := 5) fa_X12_66 dX12_constantWeight_5 (gR_mono (fun x2 H => ?_) H)
  refine T_iload_n (pc := 8) dX12_constantWeight_8 rfl rfl ?_
  refine T_aI (pc := 9) dX12_constantWeight_9 (aI_mono (fun x3 H => ?_) H)
  refine T_aI (pc := 10) dX12_constantWeight_10 (aI_mono (fun x4 H => ?_) H)
  refine T_istore_n (pc := 11) (ls2 := [some (jR v0), some (jI v1), some (jI x4), none]) dX12_constantWeight_11 rfl (Nat.le_of_ble_eq_true rfl) rfl ?_
  refine T_aload_n (pc := 12) dX12_constantWeight_12 rfl rfl ?_
  refine T_gR (pc := 13) fa_X12_72 dX12_constantWeight_13 (gR_mono (fun x5 H => ?_) H)
  refine T_iload_n (pc := 16) dX12_constantWeight_16 rfl rfl ?_
  refine T_aI (pc := 17) dX12_constantWeight_17 (aI_mono (fun x6 H => ?_) H)
  refine T_iconst (pc := 18) (v := 1) dX12_constantWeight_18 (by decide) ?_
  refine T_iadd (pc := 19) dX12_constantWeight_19 ?_
  refine T_istore_n (pc := 20) (ls2 := [some (jR v0), some (jI v1), some (jI x4), some (jI (x6 + 1))]) dX12_constantWeight_20 rfl (Nat.le_of_ble_eq_true rfl) rfl ?_
  refine T_iload_n (pc := 21) dX12_constantWeight_21 rfl rfl ?_
  refine T_iconst (pc := 22) (v := 3) dX12_constantWeight_22 (by decide) ?_
  refine T_icmp_ne (pc := 23) (tgt := 31) dX12_constantWeight_23 (by decide) (fun hc => ?_) (fun hc => ?_)
  · rw [if_neg hc] at H
    exact T.forget (E_X12_constantWeight_31 H) ⟨rfl, rfl, rfl, trivial⟩
  · rw [if_pos hc] at H
    refine T_aload_n (pc := 26) dX12_constantWeight_26 rfl rfl ?_
    refine T_iconst (pc := 27) (v := 5) dX12_constantWeight_27 (by decide) ?_
    obtain ⟨H0, H⟩ := H
    refine T_iV (pc := 28) (ci := 11) (av := [jI 5]) (rest := []) (o := v0) dX12_constantWeight_28 mf_X12_traced c_6_6 c_6_8 pr_X12_traced rfl rfl (Nat.le_of_ble_eq_true rfl) rfl H0 (iV_k (iV_m0 (fun h H => ?_) (J_X12_traced (d := d) H)))
    exact T.forget (E_X12_constantWeight_31 H) ⟨rfl, rfl, rfl, trivial⟩
theorem I_X12_constantWeight {d : Nat} {v0 : Option Nm} {v1 : Int32} {h : MH} {u : Nat} {K : Int32 → MH → Nat → Prop} (u1 : Nat) (hu : u1 ≤ u) (H : F_X12_constantWeight d v0 v1 h u1 (fun x h2 => K x h2 (u - u1))) : iI (d + 1) u_X12_constantWeight [jR v0, jI v1] h u K := inv.of u1 hu (Ct.of (by decide +kernel) rfl (Nat.le_of_ble_eq_true rfl) rfl (E_X12_constantWeight H))
theorem J_X12_constantWeight {d : Nat} {v0 : Option Nm} {v1 : Int32} {h : MH} {u : Nat} {K : Int32 → MH → Prop} (H : F_X12_constantWeight d v0 v1 h 0 K) : iI (d + 1) u_X12_constantWeight [jR v0, jI v1] h u (fun x h2 u2 => K x h2 ∧ u2 = u) := jiI (by decide +kernel) rfl (Nat.le_of_ble_eq_true rfl) rfl (E_X12_constantWeight H)
theorem dX12_newKind_0 : decode cX12_newKind 0 = .ok (.aload_n 0, 1) := by decide +kernel
theorem dX12_newKind_1 : decode cX12_newKind 1 = .ok (.getfield 199, 3) := by decide +kernel
theorem dX12_newKind_4 : decode cX12_newKind 4 = .ok (.bipush 16, 2) := by decide +kernel
theorem dX12_newKind_6 : decode cX12_newKind 6 = .ok (.if_icmp .ne 6, 3) := by decide +kernel
theorem dX12_newKind_9 : decode cX12_newKind 9 = .ok (.bipush (-4), 2) := by decide +kernel
theorem dX12_newKind_11 : decode cX12_newKind 11 = .ok (.ireturn, 1) := by decide +kernel
theorem dX12_newKind_12 : decode cX12_newKind 12 = .ok (.aload_n 0, 1) := by decide +kernel
theorem dX12_newKind_13 : decode cX12_newKind 13 = .ok (.getfield 27, 3) := by decide +kernel
theorem dX12_newKind_16 : decode cX12_newKind 16 = .ok (.aload_n 0, 1) := by decide +kernel
theorem dX12_newKind_17 : decode cX12_newKind 17 = .ok (.getfield 199, 3) := by decide +kernel
theorem dX12_newKind_20 : decode cX12_newKind 20 = .ok (.iload_n 1, 1) := by decide +kernel
theorem dX12_newKind_21 : decode cX12_newKind 21 = .ok (.bastore, 1) := by decide +kernel
theorem dX12_newKind_22 : decode cX12_newKind 22 = .ok (.aload_n 0, 1) := by decide +kernel
theorem dX12_newKind_23 : decode cX12_newKind 23 = .ok (.getfield 30, 3) := by decide +kernel
theorem dX12_newKind_26 : decode cX12_newKind 26 = .ok (.aload_n 0, 1) := by decide +kernel
theorem dX12_newKind_27 : decode cX12_newKind 27 = .ok (.getfield 199, 3) := by decide +kernel
theorem dX12_newKind_30 : decode cX12_newKind 30 = .ok (.iload_n 2, 1) := by decide +kernel
theorem dX12_newKind_31 : decode cX12_newKind 31 = .ok (.iastore, 1) := by decide +kernel
theorem dX12_newKind_32 : decode cX12_newKind 32 = .ok (.aload_n 0, 1) := by decide +kernel
theorem dX12_newKind_33 : decode cX12_newKind 33 = .ok (.dup, 1) := by decide +kernel
theorem dX12_newKind_34 : decode cX12_newKind 34 = .ok (.getfield 199, 3) := by decide +kernel
theorem dX12_newKind_37 : decode cX12_newKind 37 = .ok (.iconst 1, 1) := by decide +kernel
theorem dX12_newKind_38 : decode cX12_newKind 38 = .ok (.iadd, 1) := by decide +kernel
theorem dX12_newKind_39 : decode cX12_newKind 39 = .ok (.putfield 199, 3) := by decide +kernel
theorem dX12_newKind_42 : decode cX12_newKind 42 = .ok (.aload_n 0, 1) := by decide +kernel
theorem dX12_newKind_43 : decode cX12_newKind 43 = .ok (.getfield 199, 3) := by decide +kernel
theorem dX12_newKind_46 : decode cX12_newKind 46 = .ok (.iconst 1, 1) := by decide +kernel
theorem dX12_newKind_47 : decode cX12_newKind 47 = .ok (.isub, 1) := by decide +kernel
theorem dX12_newKind_48 : decode cX12_newKind 48 = .ok (.ireturn, 1) := by decide +kernel
def F_X12_newKind (d : Nat) (v0 : Option Nm) (v1 : Int32) (v2 : Int32) (h : MH) (u : Nat) (Q : Int32 → MH → Prop) : Prop :=
  gI h v0 11 9 fun x1 =>
  if x1 = 16 then
    Q (-4) h
  else
    gR h v0 11 10 fun x2 =>
    gI h v0 11 9 fun x3 =>
    sV .boolean h x2 x3 (jI (vp_nar .boolean v1)) fun h =>
    gR h v0 11 11 fun x4 =>
    gI h v0 11 9 fun x5 =>
    sV .int h x4 x5 (jI v2) fun h =>
    gI h v0 11 9 fun x6 =>
    pV h v0 11 9 (jI (x6 + 1)) fun h =>
    gI h v0 11 9 fun x7 =>
    Q (x7 - 1) h
set_option maxRecDepth 20000 in
theorem E_X12_newKind {d : Nat} {v0 : Option Nm} {v1 : Int32} {v2 : Int32} {h : MH} {u : Nat} {Q : Int32 → MH → Prop} (H : F_X12_newKind d v0 v1 v2 h u Q) : T u_X12_newKind d 0 [some (jR v0), some (jI v1), some (jI v2)] [] h u (qI Q) := by
  unfold F_X12_newKind at H
  refine T_aload_n (pc := 0) dX12_newKind_0 rfl rfl ?_
  refine T_gI (pc := 1) fa_X12_199 dX12_newKind_1 (gI_mono (fun x1 H => ?_) H)
  refine T_bipush (pc := 4) (v := 16) dX12_newKind_4 (by decide) ?_
  refine T_icmp_ne (pc := 6) (tgt := 12) dX12_newKind_6 (by decide) (fun hc => ?_) (fun hc => ?_)
  · rw [if_neg hc] at H
    refine T_aload_n (pc := 12) dX12_newKind_12 rfl rfl ?_
    refine T_gR (pc := 13) fa_X12_27 dX12_newKind_13 (gR_mono (fun x2 H => ?_) H)
    refine T_aload_n (pc := 16) dX12_newKind_16 rfl rfl ?_
    refine T_gI (pc := 17) fa_X12_199 dX12_newKind_17 (gI_mono (fun x3 H => ?_) H)
    refine T_iload_n (pc := 20) dX12_newKind_20 rfl rfl ?_
    refine T_sZ (pc := 21) dX12_newKind_21 (sV_mono (fun h H => ?_) H)
    refine T_aload_n (pc := 22) dX12_newKind_22 rfl rfl ?_
    refine T_gR (pc := 23) fa_X12_30 dX12_newKind_23 (gR_mono (fun x4 H => ?_) H)
    refine T_aload_n (pc := 26) dX12_newKind_26 rfl rfl ?_
    refine T_gI (pc := 27) fa_X12_199 dX12_newKind_27 (gI_mono (fun x5 H => ?_) H)
    refine T_iload_n (pc := 30) dX12_newKind_30 rfl rfl ?_
    refine T_sI (pc := 31) dX12_newKind_31 (sV_mono (fun h H => ?_) H)
    refine T_aload_n (pc := 32) dX12_newKind_32 rfl rfl ?_
    refine T_dup (pc := 33) rfl dX12_newKind_33 ?_
    refine T_gI (pc := 34) fa_X12_199 dX12_newKind_34 (gI_mono (fun x6 H => ?_) H)
    refine T_iconst (pc := 37) (v := 1) dX12_newKind_37 (by decide) ?_
    refine T_iadd (pc := 38) dX12_newKind_38 ?_
    refine T_pV (pc := 39) fa_X12_199 dX12_newKind_39 trivial (pV_mono (fun h H => ?_) H)
    refine T_aload_n (pc := 42) dX12_newKind_42 rfl rfl ?_
    refine T_gI (pc := 43) fa_X12_199 dX12_newKind_43 (gI_mono (fun x7 H => ?_) H)
    refine T_iconst (pc := 46) (v := 1) dX12_newKind_46 (by decide) ?_
    refine T_isub (pc := 47) dX12_newKind_47 ?_
    exact T_ireturn (pc := 48) rfl rfl dX12_newKind_48 H
  · rw [if_pos hc] at H
    refine T_bipush (pc := 9) (v := (-4)) dX12_newKind_9 (by decide) ?_
    exact T_ireturn (pc := 11) rfl rfl dX12_newKind_11 H
theorem I_X12_newKind {d : Nat} {v0 : Option Nm} {v1 : Int32} {v2 : Int32} {h : MH} {u : Nat} {K : Int32 → MH → Nat → Prop} (u1 : Nat) (hu : u1 ≤ u) (H : F_X12_newKind d v0 v1 v2 h u1 (fun x h2 => K x h2 (u - u1))) : iI d u_X12_newKind [jR v0, jI v1, jI v2] h u K := inv.of u1 hu (Ct.of (by decide +kernel) rfl (Nat.le_of_ble_eq_true rfl) rfl (E_X12_newKind H))
theorem J_X12_newKind {d : Nat} {v0 : Option Nm} {v1 : Int32} {v2 : Int32} {h : MH} {u : Nat} {K : Int32 → MH → Prop} (H : F_X12_newKind d v0 v1 v2 h 0 K) : iI d u_X12_newKind [jR v0, jI v1, jI v2] h u (fun x h2 u2 => K x h2 ∧ u2 = u) := jiI (by decide +kernel) rfl (Nat.le_of_ble_eq_true rfl) rfl (E_X12_newKind H)
theorem dX12_constants_0 : decode cX12_constants 0 = .ok (.iload_n 1, 1) := by decide +kernel
theorem dX12_constants_1 : decode cX12_constants 1 = .ok (.iconst 0, 1) := by decide +kernel
theorem dX12_constants_2 : decode cX12_constants 2 = .ok (.iconst 3, 1) := by decide +kernel
theorem dX12_constants_3 : decode cX12_constants 3 = .ok (.invokestatic 156, 3) := by decide +kernel
theorem dX12_constants_6 : decode cX12_constants 6 = .ok (.ifCond .eq 12, 3) := by decide +kernel
theorem dX12_constants_9 : decode cX12_constants 9 = .ok (.aload_n 0, 1) := by decide +kernel
theorem dX12_constants_10 : decode cX12_constants 10 = .ok (.iconst 1, 1) := by decide +kernel
theorem dX12_constants_11 : decode cX12_constants 11 = .ok (.iload_n 1, 1) := by decide +kernel
theorem dX12_constants_12 : decode cX12_constants 12 = .ok (.invokevirtual 202, 3) := by decide +kernel
theorem dX12_constants_15 : decode cX12_constants 15 = .ok (.goto 5, 3) := by decide +kernel
theorem dX12_constants_18 : decode cX12_constants 18 = .ok (.bipush (-2), 2) := by decide +kernel
theorem dX12_constants_20 : decode cX12_constants 20 = .ok (.ireturn, 1) := by decide +kernel
def F_X12_constants (d : Nat) (v0 : Option Nm) (v1 : Int32) (h : MH) (u : Nat) (Q : Int32 → MH → Prop) : Prop :=
  F_X12_in d v1 0 3 h 0 fun x1 h =>
  if x1 = 0 then
    Q (-2) h
  else
    rc h v0 11 ∧ F_X12_newKind d v0 1 v1 h 0 fun x2 h =>
    Q x2 h
set_option maxRecDepth 20000 in
theorem E_X12_constants {d : Nat} {v0 : Option Nm} {v1 : Int32} {h : MH} {u : Nat} {Q : Int32 → MH → Prop} (H : F_X12_constants d v0 v1 h u Q) : T u_X12_constants (d + 1) 0 [some (jR v0), some (jI v1)] [] h u (qI Q) := by
  unfold F_X12_constants at H
  refine T_iload_n (pc := 0) dX12_constants_0 rfl rfl ?_
  refine T_iconst (pc := 1) (v := 0) dX12_constants_1 (by decide) ?_
  refine T_iconst (pc := 2) (v := 3) dX12_constants_2 (by decide) ?_
  refine T_invS (pc := 3) (av := [jI v1, jI 0, jI 3]) (rest := []) dX12_constants_3 mf_X12_in c_5_86 c_5_87 rfl (Nat.le_of_ble_eq_true rfl) rfl (iI_k (iI_m0 (fun x1 h H => ?_) (J_X12_in (d := d) H)))
  refine T_if_eq (pc := 6) (tgt := 18) dX12_constants_6 (by decide) (fun hc => ?_) (fun hc => ?_)
  · rw [if_pos hc] at H
    refine T_bipush (pc := 18) (v := (-2)) dX12_constants_18 (by decide) ?_
    exact T_ireturn (pc := 20) rfl rfl dX12_constants_20 H
  · rw [if_neg hc] at H
    refine T_aload_n (pc := 9) dX12_constants_9 rfl rfl ?_
    refine T_iconst (pc := 10) (v := 1) dX12_constants_10 (by decide) ?_
    refine T_iload_n (pc := 11) dX12_constants_11 rfl rfl ?_
    obtain ⟨H0, H⟩ := H
    refine T_iV (pc := 12) (ci := 11) (av := [jI 1, jI v1]) (rest := []) (o := v0) dX12_constants_12 mf_X12_newKind c_5_186 c_5_188 pr_X12_newKind rfl rfl (Nat.le_of_ble_eq_true rfl) rfl H0 (iI_k (iI_m0 (fun x2 h H => ?_) (J_X12_newKind (d := d) H)))
    refine T_goto (pc := 15) (tgt := 20) dX12_constants_15 (by decide) ?_
    exact T_ireturn (pc := 20) rfl rfl dX12_constants_20 H
theorem I_X12_constants {d : Nat} {v0 : Option Nm} {v1 : Int32} {h : MH} {u : Nat} {K : Int32 → MH → Nat → Prop} (u1 : Nat) (hu : u1 ≤ u) (H : F_X12_constants d v0 v1 h u1 (fun x h2 => K x h2 (u - u1))) : iI (d + 1) u_X12_constants [jR v0, jI v1] h u K := inv.of u1 hu (Ct.of (by decide +kernel) rfl (Nat.le_of_ble_eq_true rfl) rfl (E_X12_constants H))
theorem J_X12_constants {d : Nat} {v0 : Option Nm} {v1 : Int32} {h : MH} {u : Nat} {K : Int32 → MH → Prop} (H : F_X12_constants d v0 v1 h 0 K) : iI (d + 1) u_X12_constants [jR v0, jI v1] h u (fun x h2 u2 => K x h2 ∧ u2 = u) := jiI (by decide +kernel) rfl (Nat.le_of_ble_eq_true rfl) rfl (E_X12_constants H)
theorem dX12_isBeyond_0 : decode cX12_isBeyond 0 = .ok (.iload_n 0, 1) := by decide +kernel
theorem dX12_isBeyond_1 : decode cX12_isBeyond 1 = .ok (.ifCond .lt 18, 3) := by decide +kernel
theorem dX12_isBeyond_4 : decode cX12_isBeyond 4 = .ok (.iload_n 1, 1) := by decide +kernel
theorem dX12_isBeyond_5 : decode cX12_isBeyond 5 = .ok (.ifCond .lt 14, 3) := by decide +kernel
theorem dX12_isBeyond_8 : decode cX12_isBeyond 8 = .ok (.iload_n 0, 1) := by decide +kernel
theorem dX12_isBeyond_9 : decode cX12_isBeyond 9 = .ok (.i2l, 1) := by decide +kernel
theorem dX12_isBeyond_10 : decode cX12_isBeyond 10 = .ok (.iload_n 1, 1) := by decide +kernel
theorem dX12_isBeyond_11 : decode cX12_isBeyond 11 = .ok (.i2l, 1) := by decide +kernel
theorem dX12_isBeyond_12 : decode cX12_isBeyond 12 = .ok (.ladd, 1) := by decide +kernel
theorem dX12_isBeyond_13 : decode cX12_isBeyond 13 = .ok (.iload_n 2, 1) := by decide +kernel
theorem dX12_isBeyond_14 : decode cX12_isBeyond 14 = .ok (.i2l, 1) := by decide +kernel
theorem dX12_isBeyond_15 : decode cX12_isBeyond 15 = .ok (.lcmp, 1) := by decide +kernel
theorem dX12_isBeyond_16 : decode cX12_isBeyond 16 = .ok (.ifCond .le 7, 3) := by decide +kernel
theorem dX12_isBeyond_19 : decode cX12_isBeyond 19 = .ok (.iconst 1, 1) := by decide +kernel
theorem dX12_isBeyond_20 : decode cX12_isBeyond 20 = .ok (.goto 4, 3) := by decide +kernel
theorem dX12_isBeyond_23 : decode cX12_isBeyond 23 = .ok (.iconst 0, 1) := by decide +kernel
theorem dX12_isBeyond_24 : decode cX12_isBeyond 24 = .ok (.ireturn, 1) := by decide +kernel
def F_X12_isBeyond (d : Nat) (v0 : Int32) (v1 : Int32) (v2 : Int32) (h : MH) (u : Nat) (Q : Int32 → MH → Prop) : Prop :=
  if v0 < 0 then
    nz 1 ∧ Q 1 h
  else
    if v1 < 0 then
      nz 1 ∧ Q 1 h
    else
      if (lg_cmp ((v0.toInt64) + (v1.toInt64)) (v2.toInt64)) ≤ 0 then
        nz 0 ∧ Q 0 h
      else
        nz 1 ∧ Q 1 h
set_option maxRecDepth 20000 in
theorem E_X12_isBeyond {d : Nat} {v0 : Int32} {v1 : Int32} {v2 : Int32} {h : MH} {u : Nat} {Q : Int32 → MH → Prop} (H : F_X12_isBeyond d v0 v1 v2 h u Q) : T u_X12_isBeyond d 0 [some (jI v0), some (jI v1), some (jI v2)] [] h u (qI Q) := by
  unfold F_X12_isBeyond at H
  refine T_iload_n (pc := 0) dX12_isBeyond_0 rfl rfl ?_
  refine T_if_lt (pc := 1) (tgt := 19) dX12_isBeyond_1 (by decide) (fun hc => ?_) (fun hc => ?_)
  · rw [if_pos hc] at H
    refine T_iconst (pc := 19) (v := 1) dX12_isBeyond_19 (by decide) ?_
    refine T_goto (pc := 20) (tgt := 24) dX12_isBeyond_20 (by decide) ?_
    exact T_ireturn (pc := 24) rfl (nz_nar H.1) dX12_isBeyond_24 H.2
  · rw [if_neg hc] at H
    refine T_iload_n (pc := 4) dX12_isBeyond_4 rfl rfl ?_
    refine T_if_lt (pc := 5) (tgt := 19) dX12_isBeyond_5 (by decide) (fun hc => ?_) (fun hc => ?_)
    · rw [if_pos hc] at H
      refine T_iconst (pc := 19) (v := 1) dX12_isBeyond_19 (by decide) ?_
      refine T_goto (pc := 20) (tgt := 24) dX12_isBeyond_20 (by decide) ?_
      exact T_ireturn (pc := 24) rfl (nz_nar H.1) dX12_isBeyond_24 H.2
    · rw [if_neg hc] at H
      refine T_iload_n (pc := 8) dX12_isBeyond_8 rfl rfl ?_
      refine T_i2l (pc := 9) dX12_isBeyond_9 ?_
      refine T_iload_n (pc := 10) dX12_isBeyond_10 rfl rfl ?_
      refine T_i2l (pc := 11) dX12_isBeyond_11 ?_
      refine T_ladd (pc := 12) dX12_isBeyond_12 ?_
      refine T_iload_n (pc := 13) dX12_isBeyond_13 rfl rfl ?_
      refine T_i2l (pc := 14) dX12_isBeyond_14 ?_
      refine T_lcmp (pc := 15) dX12_isBeyond_15 ?_
      refine T_if_le (pc := 16) (tgt := 23) dX12_isBeyond_16 (by decide) (fun hc => ?_) (fun hc => ?_)
      · rw [if_pos hc] at H
        refine T_iconst (pc := 23) (v := 0) dX12_isBeyond_23 (by decide) ?_
        exact T_ireturn (pc := 24) rfl (nz_nar H.1) dX12_isBeyond_24 H.2
      · rw [if_neg hc] at H
        refine T_iconst (pc := 19) (v := 1) dX12_isBeyond_19 (by decide) ?_
        refine T_goto (pc := 20) (tgt := 24) dX12_isBeyond_20 (by decide) ?_
        exact T_ireturn (pc := 24) rfl (nz_nar H.1) dX12_isBeyond_24 H.2
theorem I_X12_isBeyond {d : Nat} {v0 : Int32} {v1 : Int32} {v2 : Int32} {h : MH} {u : Nat} {K : Int32 → MH → Nat → Prop} (u1 : Nat) (hu : u1 ≤ u) (H : F_X12_isBeyond d v0 v1 v2 h u1 (fun x h2 => K x h2 (u - u1))) : iI d u_X12_isBeyond [jI v0, jI v1, jI v2] h u K := inv.of u1 hu (Ct.of (by decide +kernel) rfl (Nat.le_of_ble_eq_true rfl) rfl (E_X12_isBeyond H))
theorem J_X12_isBeyond {d : Nat} {v0 : Int32} {v1 : Int32} {v2 : Int32} {h : MH} {u : Nat} {K : Int32 → MH → Prop} (H : F_X12_isBeyond d v0 v1 v2 h 0 K) : iI d u_X12_isBeyond [jI v0, jI v1, jI v2] h u (fun x h2 u2 => K x h2 ∧ u2 = u) := jiI (by decide +kernel) rfl (Nat.le_of_ble_eq_true rfl) rfl (E_X12_isBeyond H)
theorem dX12_copy_0 : decode cX12_copy 0 = .ok (.aload_n 0, 1) := by decide +kernel
theorem dX12_copy_1 : decode cX12_copy 1 = .ok (.iload_n 1, 1) := by decide +kernel
theorem dX12_copy_2 : decode cX12_copy 2 = .ok (.invokevirtual 170, 3) := by decide +kernel
theorem dX12_copy_5 : decode cX12_copy 5 = .ok (.ifCond .eq 11, 3) := by decide +kernel
theorem dX12_copy_8 : decode cX12_copy 8 = .ok (.aload_n 0, 1) := by decide +kernel
theorem dX12_copy_9 : decode cX12_copy 9 = .ok (.iload_n 3, 1) := by decide +kernel
theorem dX12_copy_10 : decode cX12_copy 10 = .ok (.invokevirtual 170, 3) := by decide +kernel
theorem dX12_copy_13 : decode cX12_copy 13 = .ok (.ifCond .ne 5, 3) := by decide +kernel
theorem dX12_copy_16 : decode cX12_copy 16 = .ok (.iconst (-1), 1) := by decide +kernel
theorem dX12_copy_17 : decode cX12_copy 17 = .ok (.ireturn, 1) := by decide +kernel
theorem dX12_copy_18 : decode cX12_copy 18 = .ok (.aload_n 0, 1) := by decide +kernel
theorem dX12_copy_19 : decode cX12_copy 19 = .ok (.getfield 7, 3) := by decide +kernel
theorem dX12_copy_22 : decode cX12_copy 22 = .ok (.iload_n 1, 1) := by decide +kernel
theorem dX12_copy_23 : decode cX12_copy 23 = .ok (.iaload, 1) := by decide +kernel
theorem dX12_copy_24 : decode cX12_copy 24 = .ok (.aload_n 0, 1) := by decide +kernel
theorem dX12_copy_25 : decode cX12_copy 25 = .ok (.getfield 7, 3) := by decide +kernel
theorem dX12_copy_28 : decode cX12_copy 28 = .ok (.iload_n 3, 1) := by decide +kernel
theorem dX12_copy_29 : decode cX12_copy 29 = .ok (.iaload, 1) := by decide +kernel
theorem dX12_copy_30 : decode cX12_copy 30 = .ok (.if_icmp .ne 12, 3) := by decide +kernel
theorem dX12_copy_33 : decode cX12_copy 33 = .ok (.aload_n 0, 1) := by decide +kernel
theorem dX12_copy_34 : decode cX12_copy 34 = .ok (.getfield 16, 3) := by decide +kernel
theorem dX12_copy_37 : decode cX12_copy 37 = .ok (.iload_n 3, 1) := by decide +kernel
theorem dX12_copy_38 : decode cX12_copy 38 = .ok (.baload, 1) := by decide +kernel
theorem dX12_copy_39 : decode cX12_copy 39 = .ok (.ifCond .eq 6, 3) := by decide +kernel
theorem dX12_copy_42 : decode cX12_copy 42 = .ok (.bipush (-3), 2) := by decide +kernel
theorem dX12_copy_44 : decode cX12_copy 44 = .ok (.ireturn, 1) := by decide +kernel
theorem dX12_copy_45 : decode cX12_copy 45 = .ok (.iload_n 2, 1) := by decide +kernel
theorem dX12_copy_46 : decode cX12_copy 46 = .ok (.iload 5, 2) := by decide +kernel
theorem dX12_copy_48 : decode cX12_copy 48 = .ok (.aload_n 0, 1) := by decide +kernel
theorem dX12_copy_49 : decode cX12_copy 49 = .ok (.getfield 13, 3) := by decide +kernel
theorem dX12_copy_52 : decode cX12_copy 52 = .ok (.iload_n 1, 1) := by decide +kernel
theorem dX12_copy_53 : decode cX12_copy 53 = .ok (.iaload, 1) := by decide +kernel
theorem dX12_copy_54 : decode cX12_copy 54 = .ok (.invokestatic 193, 3) := by decide +kernel
theorem dX12_copy_57 : decode cX12_copy 57 = .ok (.ifCond .ne 19, 3) := by decide +kernel
theorem dX12_copy_60 : decode cX12_copy 60 = .ok (.iload 4, 2) := by decide +kernel
theorem dX12_copy_62 : decode cX12_copy 62 = .ok (.iload 5, 2) := by decide +kernel
theorem dX12_copy_64 : decode cX12_copy 64 = .ok (.aload_n 0, 1) := by decide +kernel
theorem dX12_copy_65 : decode cX12_copy 65 = .ok (.getfield 13, 3) := by decide +kernel
theorem dX12_copy_68 : decode cX12_copy 68 = .ok (.iload_n 3, 1) := by decide +kernel
theorem dX12_copy_69 : decode cX12_copy 69 = .ok (.iaload, 1) := by decide +kernel
theorem dX12_copy_70 : decode cX12_copy 70 = .ok (.invokestatic 193, 3) := by decide +kernel
theorem dX12_copy_73 : decode cX12_copy 73 = .ok (.ifCond .eq 9, 3) := by decide +kernel
theorem dX12_copy_76 : decode cX12_copy 76 = .ok (.aload_n 0, 1) := by decide +kernel
theorem dX12_copy_77 : decode cX12_copy 77 = .ok (.iconst 2, 1) := by decide +kernel
theorem dX12_copy_78 : decode cX12_copy 78 = .ok (.invokevirtual 166, 3) := by decide +kernel
theorem dX12_copy_81 : decode cX12_copy 81 = .ok (.ireturn, 1) := by decide +kernel
theorem dX12_copy_82 : decode cX12_copy 82 = .ok (.iconst 0, 1) := by decide +kernel
theorem dX12_copy_83 : decode cX12_copy 83 = .ok (.istore 6, 2) := by decide +kernel
theorem dX12_copy_85 : decode cX12_copy 85 = .ok (.iload 6, 2) := by decide +kernel
theorem dX12_copy_87 : decode cX12_copy 87 = .ok (.iload 5, 2) := by decide +kernel
theorem dX12_copy_89 : decode cX12_copy 89 = .ok (.if_icmp .ge 30, 3) := by decide +kernel
theorem dX12_copy_92 : decode cX12_copy 92 = .ok (.aload_n 0, 1) := by decide +kernel
theorem dX12_copy_93 : decode cX12_copy 93 = .ok (.getfield 24, 3) := by decide +kernel
theorem dX12_copy_96 : decode cX12_copy 96 = .ok (.iload 6, 2) := by decide +kernel
theorem dX12_copy_98 : decode cX12_copy 98 = .ok (.aload_n 0, 1) := by decide +kernel
theorem dX12_copy_99 : decode cX12_copy 99 = .ok (.getfield 20, 3) := by decide +kernel
theorem dX12_copy_102 : decode cX12_copy 102 = .ok (.bipush 20, 2) := by decide +kernel
theorem dX12_copy_104 : decode cX12_copy 104 = .ok (.iload_n 1, 1) := by decide +kernel
theorem dX12_copy_105 : decode cX12_copy 105 = .ok (.imul, 1) := by decide +kernel
theorem dX12_copy_106 : decode cX12_copy 106 = .ok (.iload_n 2, 1) := by decide +kernel
theorem dX12_copy_107 : decode cX12_copy 107 = .ok (.iadd, 1) := by decide +kernel
theorem dX12_copy_108 : decode cX12_copy 108 = .ok (.iload 6, 2) := by decide +kernel
theorem dX12_copy_110 : decode cX12_copy 110 = .ok (.iadd, 1) := by decide +kernel
theorem dX12_copy_111 : decode cX12_copy 111 = .ok (.laload, 1) := by decide +kernel
theorem dX12_copy_112 : decode cX12_copy 112 = .ok (.lastore, 1) := by decide +kernel
theorem dX12_copy_113 : decode cX12_copy 113 = .ok (.iinc 6 1, 3) := by decide +kernel
theorem dX12_copy_116 : decode cX12_copy 116 = .ok (.goto (-31), 3) := by decide +kernel
theorem dX12_copy_119 : decode cX12_copy 119 = .ok (.iconst 0, 1) := by decide +kernel
theorem dX12_copy_120 : decode cX12_copy 120 = .ok (.istore 6, 2) := by decide +kernel
theorem dX12_copy_122 : decode cX12_copy 122 = .ok (.iload 6, 2) := by decide +kernel
theorem dX12_copy_124 : decode cX12_copy 124 = .ok (.iload 5, 2) := by decide +kernel
theorem dX12_copy_126 : decode cX12_copy 126 = .ok (.if_icmp .ge 31, 3) := by decide +kernel
theorem dX12_copy_129 : decode cX12_copy 129 = .ok (.aload_n 0, 1) := by decide +kernel
theorem dX12_copy_130 : decode cX12_copy 130 = .ok (.getfield 20, 3) := by decide +kernel
theorem dX12_copy_133 : decode cX12_copy 133 = .ok (.bipush 20, 2) := by decide +kernel
theorem dX12_copy_135 : decode cX12_copy 135 = .ok (.iload_n 3, 1) := by decide +kernel
theorem dX12_copy_136 : decode cX12_copy 136 = .ok (.imul, 1) := by decide +kernel
theorem dX12_copy_137 : decode cX12_copy 137 = .ok (.iload 4, 2) := by decide +kernel
theorem dX12_copy_139 : decode cX12_copy 139 = .ok (.iadd, 1) := by decide +kernel
theorem dX12_copy_140 : decode cX12_copy 140 = .ok (.iload 6, 2) := by decide +kernel
theorem dX12_copy_142 : decode cX12_copy 142 = .ok (.iadd, 1) := by decide +kernel
theorem dX12_copy_143 : decode cX12_copy 143 = .ok (.aload_n 0, 1) := by decide +kernel
theorem dX12_copy_144 : decode cX12_copy 144 = .ok (.getfield 24, 3) := by decide +kernel
theorem dX12_copy_147 : decode cX12_copy 147 = .ok (.iload 6, 2) := by decide +kernel
theorem dX12_copy_149 : decode cX12_copy 149 = .ok (.laload, 1) := by decide +kernel
theorem dX12_copy_150 : decode cX12_copy 150 = .ok (.lastore, 1) := by decide +kernel
theorem dX12_copy_151 : decode cX12_copy 151 = .ok (.iinc 6 1, 3) := by decide +kernel
theorem dX12_copy_154 : decode cX12_copy 154 = .ok (.goto (-32), 3) := by decide +kernel
theorem dX12_copy_157 : decode cX12_copy 157 = .ok (.iload 5, 2) := by decide +kernel
theorem dX12_copy_159 : decode cX12_copy 159 = .ok (.ireturn, 1) := by decide +kernel
def L_X12_copy_85 (d : Nat) (v0 : Option Nm) (v1 : Int32) (v2 : Int32) (v3 : Int32) (v4 : Int32) (v5 : Int32) (v6 : Int32) (h : MH) (u : Nat) (Q : Int32 → MH → Prop) : Prop := T u_X12_copy (d + 2) 85 [some (jR v0), some (jI v1), some (jI v2), some (jI v3), some (jI v4), some (jI v5), some (jI v6)] [] h u (qI Q)
def L_X12_copy_122 (d : Nat) (v0 : Option Nm) (v3 : Int32) (v4 : Int32) (v5 : Int32) (v6 : Int32) (h : MH) (u : Nat) (Q : Int32 → MH → Prop) : Prop := T u_X12_copy (d + 2) 122 [some (jR v0), none, none, some (jI v3), some (jI v4), some (jI v5), some (jI v6)] [] h u (qI Q)
def F_X12_copy (d : Nat) (v0 : Option Nm) (v1 : Int32) (v2 : Int32) (v3 : Int32) (v4 : Int32) (v5 : Int32) (h : MH) (u : Nat) (Q : Int32 → MH → Prop) : Prop :=
  rc h v0 11 ∧ F_X12_isRow d v0 v1 h 0 fun x1 h =>
  if x1 = 0 then
    Q (-1) h
  else
    rc h v0 11 ∧ F_X12_isRow d v0 v3 h 0 fun x2 h =>
    if x2 = 0 then
      Q (-1) h
    else
      gR h v0 11 4 fun x3 =>
      aI .int h x3 v1 fun x4 =>
      gR h v0 11 4 fun x5 =>
      aI .int h x5 v3 fun x6 =>
      if x4 = x6 then
        gR h v0 11 6 fun x7 =>
        aI .boolean h x7 v3 fun x8 =>
        if x8 = 0 then
          gR h v0 11 5 fun x9 =>
          aI .int h x9 v1 fun x10 =>
          F_X12_isBeyond (d + 1) v2 v5 x10 h 0 fun x11 h =>
          if x11 = 0 then
            gR h v0 11 5 fun x13 =>
            aI .int h x13 v3 fun x14 =>
            F_X12_isBeyond (d + 1) v4 v5 x14 h 0 fun x15 h =>
            if x15 = 0 then
              L_X12_copy_85 d v0 v1 v2 v3 v4 v5 0 h u Q
            else
              rc h v0 11 ∧ F_X12_fails (d + 1) v0 2 h 0 fun x16 h =>
              Q x16 h
          else
            rc h v0 11 ∧ F_X12_fails (d + 1) v0 2 h 0 fun x12 h =>
            Q x12 h
        else
          Q (-3) h
      else
        Q (-3) h
set_option maxRecDepth 20000 in
theorem E_X12_copy {d : Nat} {v0 : Option Nm} {v1 : Int32} {v2 : Int32} {v3 : Int32} {v4 : Int32} {v5 : Int32} {h : MH} {u : Nat} {Q : Int32 → MH → Prop} (H : F_X12_copy d v0 v1 v2 v3 v4 v5 h u Q) : T u_X12_copy (d + 2) 0 [some (jR v0), some (jI v1), some (jI v2), some (jI v3), some (jI v4), some (jI v5), none] [] h u (qI Q) := by
  unfold F_X12_copy at H
  refine T_aload_n (pc := 0) dX12_copy_0 rfl rfl ?_
  refine T_iload_n (pc := 1) dX12_copy_1 rfl rfl ?_
  obtain ⟨H0, H⟩ := H
  refine T_iV (pc := 2) (ci := 11) (av := [jI v1]) (rest := []) (o := v0) dX12_copy_2 mf_X12_isRow c_5_102 c_5_104 pr_X12_isRow rfl rfl (Nat.le_of_ble_eq_true rfl) rfl H0 (iI_k (iI_m0 (fun x1 h H => ?_) (J_X12_isRow (d := d) H)))
  refine T_if_eq (pc := 5) (tgt := 16) dX12_copy_5 (by decide) (fun hc => ?_) (fun hc => ?_)
  · rw [if_pos hc] at H
    refine T_iconst (pc := 16) (v := (-1)) dX12_copy_16 (by decide) ?_
    exact T_ireturn (pc := 17) rfl rfl dX12_copy_17 H
  · rw [if_neg hc] at H
    refine T_aload_n (pc := 8) dX12_copy_8 rfl rfl ?_
    refine T_iload_n (pc := 9) dX12_copy_9 rfl rfl ?_
    obtain ⟨H0, H⟩ := H
    refine T_iV (pc := 10) (ci := 11) (av := [jI v3]) (rest := []) (o := v0) dX12_copy_10 mf_X12_isRow c_5_102 c_5_104 pr_X12_isRow rfl rfl (Nat.le_of_ble_eq_true rfl) rfl H0 (iI_k (iI_m0 (fun x2 h H => ?_) (J_X12_isRow (d := d) H)))
    refine T_if_ne (pc := 13) (tgt := 18) dX12_copy_13 (by decide) (fun hc => ?_) (fun hc => ?_)
    · rw [if_neg hc] at H
      refine T_aload_n (pc := 18) dX12_copy_18 rfl rfl ?_
      refine T_gR (pc := 19) fa_X12_7 dX12_copy_19 (gR_mono (fun x3 H => ?_) H)
      refine T_iload_n (pc := 22) dX12_copy_22 rfl rfl ?_
      refine T_aI (pc := 23) dX12_copy_23 (aI_mono (fun x4 H => ?_) H)
      refine T_aload_n (pc := 24) dX12_copy_24 rfl rfl ?_
      refine T_gR (pc := 25) fa_X12_7 dX12_copy_25 (gR_mono (fun x5 H => ?_) H)
      refine T_iload_n (pc := 28) dX12_copy_28 rfl rfl ?_
      refine T_aI (pc := 29) dX12_copy_29 (aI_mono (fun x6 H => ?_) H)
      refine T_icmp_ne (pc := 30) (tgt := 42) dX12_copy_30 (by decide) (fun hc => ?_) (fun hc => ?_)
      · rw [if_neg hc] at H
        refine T_bipush (pc := 42) (v := (-3)) dX12_copy_42 (by decide) ?_
        exact T_ireturn (pc := 44) rfl rfl dX12_copy_44 H
      · rw [if_pos hc] at H
        refine T_aload_n (pc := 33) dX12_copy_33 rfl rfl ?_
        refine T_gR (pc := 34) fa_X12_16 dX12_copy_34 (gR_mono (fun x7 H => ?_) H)
        refine T_iload_n (pc := 37) dX12_copy_37 rfl rfl ?_
        refine T_aZ (pc := 38) dX12_copy_38 (aI_mono (fun x8 H => ?_) H)
        refine T_if_eq (pc := 39) (tgt := 45) dX12_copy_39 (by decide) (fun hc => ?_) (fun hc => ?_)
        · rw [if_pos hc] at H
          refine T_iload_n (pc := 45) dX12_copy_45 rfl rfl ?_
          refine T_iload (pc := 46) dX12_copy_46 rfl ?_
          refine T_aload_n (pc := 48) dX12_copy_48 rfl rfl ?_
          refine T_gR (pc := 49) fa_X12_13 dX12_copy_49 (gR_mono (fun x9 H => ?_) H)
          refine T_iload_n (pc := 52) dX12_copy_52 rfl rfl ?_
          refine T_aI (pc := 53) dX12_copy_53 (aI_mono (fun x10 H => ?_) H)
          refine T_invS (pc := 54) (av := [jI v2, jI v5, jI x10]) (rest := []) dX12_copy_54 mf_X12_isBeyond c_5_171 c_5_172 rfl (Nat.le_of_ble_eq_true rfl) rfl (iI_k (iI_m0 (fun x11 h H => ?_) (J_X12_isBeyond (d := (d + 1)) H)))
          refine T_if_ne (pc := 57) (tgt := 76) dX12_copy_57 (by decide) (fun hc => ?_) (fun hc => ?_)
          · rw [if_neg hc] at H
            refine T_aload_n (pc := 76) dX12_copy_76 rfl rfl ?_
            refine T_iconst (pc := 77) (v := 2) dX12_copy_77 (by decide) ?_
            obtain ⟨H0, H⟩ := H
            refine T_iV (pc := 78) (ci := 11) (av := [jI 2]) (rest := []) (o := v0) dX12_copy_78 mf_X12_fails c_5_89 c_5_91 pr_X12_fails rfl rfl (Nat.le_of_ble_eq_true rfl) rfl H0 (iI_k (iI_m0 (fun x12 h H => ?_) (J_X12_fails (d := (d + 1)) H)))
            exact T_ireturn (pc := 81) rfl rfl dX12_copy_81 H
          · rw [if_pos hc] at H
            refine T_iload (pc := 60) dX12_copy_60 rfl ?_
            refine T_iload (pc := 62) dX12_copy_62 rfl ?_
            refine T_aload_n (pc := 64) dX12_copy_64 rfl rfl ?_
            refine T_gR (pc := 65) fa_X12_13 dX12_copy_65 (gR_mono (fun x13 H => ?_) H)
            refine T_iload_n (pc := 68) dX12_copy_68 rfl rfl ?_
            refine T_aI (pc := 69) dX12_copy_69 (aI_mono (fun x14 H => ?_) H)
            refine T_invS (pc := 70) (av := [jI v4, jI v5, jI x14]) (rest := []) dX12_copy_70 mf_X12_isBeyond c_5_171 c_5_172 rfl (Nat.le_of_ble_eq_true rfl) rfl (iI_k (iI_m0 (fun x15 h H => ?_) (J_X12_isBeyond (d := (d + 1)) H)))
            refine T_if_eq (pc := 73) (tgt := 82) dX12_copy_73 (by decide) (fun hc => ?_) (fun hc => ?_)
            · rw [if_pos hc] at H
              refine T_iconst (pc := 82) (v := 0) dX12_copy_82 (by decide) ?_
              refine T_istore (pc := 83) (ls2 := [some (jR v0), some (jI v1), some (jI v2), some (jI v3), some (jI v4), some (jI v5), some (jI 0)]) dX12_copy_83 (Nat.le_of_ble_eq_true rfl) rfl ?_
              exact T.forget H ⟨rfl, rfl, rfl, rfl, rfl, rfl, rfl, trivial⟩
            · rw [if_neg hc] at H
              refine T_aload_n (pc := 76) dX12_copy_76 rfl rfl ?_
              refine T_iconst (pc := 77) (v := 2) dX12_copy_77 (by decide) ?_
              obtain ⟨H0, H⟩ := H
              refine T_iV (pc := 78) (ci := 11) (av := [jI 2]) (rest := []) (o := v0) dX12_copy_78 mf_X12_fails c_5_89 c_5_91 pr_X12_fails rfl rfl (Nat.le_of_ble_eq_true rfl) rfl H0 (iI_k (iI_m0 (fun x16 h H => ?_) (J_X12_fails (d := (d + 1)) H)))
              exact T_ireturn (pc := 81) rfl rfl dX12_copy_81 H
        · rw [if_neg hc] at H
          refine T_bipush (pc := 42) (v := (-3)) dX12_copy_42 (by decide) ?_
          exact T_ireturn (pc := 44) rfl rfl dX12_copy_44 H
    · rw [if_pos hc] at H
      refine T_iconst (pc := 16) (v := (-1)) dX12_copy_16 (by decide) ?_
      exact T_ireturn (pc := 17) rfl rfl dX12_copy_17 H
def F_X12_copy_85 (d : Nat) (v0 : Option Nm) (v1 : Int32) (v2 : Int32) (v3 : Int32) (v4 : Int32) (v5 : Int32) (v6 : Int32) (h : MH) (u : Nat) (Q : Int32 → MH → Prop) : Prop :=
  if v5 ≤ v6 then
    L_X12_copy_122 d v0 v3 v4 v5 0 h u Q
  else
    gR h v0 11 8 fun x1 =>
    gR h v0 11 7 fun x2 =>
    aL h x2 (((20 * v1) + v2) + v6) fun x3 =>
    sV .long h x1 v6 (jL x3) fun h =>
    L_X12_copy_85 d v0 v1 v2 v3 v4 v5 (v6 + 1) h u Q
set_option maxRecDepth 20000 in
theorem E_X12_copy_85 {d : Nat} {v0 : Option Nm} {v1 : Int32} {v2 : Int32} {v3 : Int32} {v4 : Int32} {v5 : Int32} {v6 : Int32} {h : MH} {u : Nat} {Q : Int32 → MH → Prop} (H : F_X12_copy_85 d v0 v1 v2 v3 v4 v5 v6 h u Q) : T u_X12_copy (d + 2) 85 [some (jR v0), some (jI v1), some (jI v2), some (jI v3), some (jI v4), some (jI v5), some (jI v6)] [] h u (qI Q) := by
  unfold F_X12_copy_85 at H
  refine T_iload (pc := 85) dX12_copy_85 rfl ?_
  refine T_iload (pc := 87) dX12_copy_87 rfl ?_
  refine T_icmp_ge (pc := 89) (tgt := 119) dX12_copy_89 (by decide) (fun hc => ?_) (fun hc => ?_)
  · rw [if_pos hc] at H
    refine T_iconst (pc := 119) (v := 0) dX12_copy_119 (by decide) ?_
    refine T_istore (pc := 120) (ls2 := [some (jR v0), some (jI v1), some (jI v2), some (jI v3), some (jI v4), some (jI v5), some (jI 0)]) dX12_copy_120 (Nat.le_of_ble_eq_true rfl) rfl ?_
    exact T.forget H ⟨rfl, rfl, rfl, rfl, rfl, trivial⟩
  · rw [if_neg hc] at H
    refine T_aload_n (pc := 92) dX12_copy_92 rfl rfl ?_
    refine T_gR (pc := 93) fa_X12_24 dX12_copy_93 (gR_mono (fun x1 H => ?_) H)
    refine T_iload (pc := 96) dX12_copy_96 rfl ?_
    refine T_aload_n (pc := 98) dX12_copy_98 rfl rfl ?_
    refine T_gR (pc := 99) fa_X12_20 dX12_copy_99 (gR_mono (fun x2 H => ?_) H)
    refine T_bipush (pc := 102) (v := 20) dX12_copy_102 (by decide) ?_
    refine T_iload_n (pc := 104) dX12_copy_104 rfl rfl ?_
    refine T_imul (pc := 105) dX12_copy_105 ?_
    refine T_iload_n (pc := 106) dX12_copy_106 rfl rfl ?_
    refine T_iadd (pc := 107) dX12_copy_107 ?_
    refine T_iload (pc := 108) dX12_copy_108 rfl ?_
    refine T_iadd (pc := 110) dX12_copy_110 ?_
    refine T_aL (pc := 111) dX12_copy_111 (aL_mono (fun x3 H => ?_) H)
    refine T_sL (pc := 112) dX12_copy_112 (sV_mono (fun h H => ?_) H)
    refine T_iinc (pc := 113) (v := v6 + 1) (ls2 := [some (jR v0), some (jI v1), some (jI v2), some (jI v3), some (jI v4), some (jI v5), some (jI (v6 + 1))]) dX12_copy_113 rfl rfl (Nat.le_of_ble_eq_true rfl) rfl ?_
    refine T_goto (pc := 116) (tgt := 85) dX12_copy_116 (by decide) ?_
    exact T.forget H ⟨rfl, rfl, rfl, rfl, rfl, rfl, rfl, trivial⟩
def F_X12_copy_122 (d : Nat) (v0 : Option Nm) (v3 : Int32) (v4 : Int32) (v5 : Int32) (v6 : Int32) (h : MH) (u : Nat) (Q : Int32 → MH → Prop) : Prop :=
  if v5 ≤ v6 then
    Q v5 h
  else
    gR h v0 11 7 fun x1 =>
    gR h v0 11 8 fun x2 =>
    aL h x2 v6 fun x3 =>
    sV .long h x1 (((20 * v3) + v4) + v6) (jL x3) fun h =>
    L_X12_copy_122 d v0 v3 v4 v5 (v6 + 1) h u Q
set_option maxRecDepth 20000 in
theorem E_X12_copy_122 {d : Nat} {v0 : Option Nm} {v3 : Int32} {v4 : Int32} {v5 : Int32} {v6 : Int32} {h : MH} {u : Nat} {Q : Int32 → MH → Prop} (H : F_X12_copy_122 d v0 v3 v4 v5 v6 h u Q) : T u_X12_copy (d + 2) 122 [some (jR v0), none, none, some (jI v3), some (jI v4), some (jI v5), some (jI v6)] [] h u (qI Q) := by
  unfold F_X12_copy_122 at H
  refine T_iload (pc := 122) dX12_copy_122 rfl ?_
  refine T_iload (pc := 124) dX12_copy_124 rfl ?_
  refine T_icmp_ge (pc := 126) (tgt := 157) dX12_copy_126 (by decide) (fun hc => ?_) (fun hc => ?_)
  · rw [if_pos hc] at H
    refine T_iload (pc := 157) dX12_copy_157 rfl ?_
    exact T_ireturn (pc := 159) rfl rfl dX12_copy_159 H
  · rw [if_neg hc] at H
    refine T_aload_n (pc := 129) dX12_copy_129 rfl rfl ?_
    refine T_gR (pc := 130) fa_X12_20 dX12_copy_130 (gR_mono (fun x1 H => ?_) H)
    refine T_bipush (pc := 133) (v := 20) dX12_copy_133 (by decide) ?_
    refine T_iload_n (pc := 135) dX12_copy_135 rfl rfl ?_
    refine T_imul (pc := 136) dX12_copy_136 ?_
    refine T_iload (pc := 137) dX12_copy_137 rfl ?_
    refine T_iadd (pc := 139) dX12_copy_139 ?_
    refine T_iload (pc := 140) dX12_copy_140 rfl ?_
    refine T_iadd (pc := 142) dX12_copy_142 ?_
    refine T_aload_n (pc := 143) dX12_copy_143 rfl rfl ?_
    refine T_gR (pc := 144) fa_X12_24 dX12_copy_144 (gR_mono (fun x2 H => ?_) H)
    refine T_iload (pc := 147) dX12_copy_147 rfl ?_
    refine T_aL (pc := 149) dX12_copy_149 (aL_mono (fun x3 H => ?_) H)
    refine T_sL (pc := 150) dX12_copy_150 (sV_mono (fun h H => ?_) H)
    refine T_iinc (pc := 151) (v := v6 + 1) (ls2 := [some (jR v0), none, none, some (jI v3), some (jI v4), some (jI v5), some (jI (v6 + 1))]) dX12_copy_151 rfl rfl (Nat.le_of_ble_eq_true rfl) rfl ?_
    refine T_goto (pc := 154) (tgt := 122) dX12_copy_154 (by decide) ?_
    exact T.forget H ⟨rfl, rfl, rfl, rfl, rfl, trivial⟩
theorem I_X12_copy {d : Nat} {v0 : Option Nm} {v1 : Int32} {v2 : Int32} {v3 : Int32} {v4 : Int32} {v5 : Int32} {h : MH} {u : Nat} {K : Int32 → MH → Nat → Prop} (u1 : Nat) (hu : u1 ≤ u) (H : F_X12_copy d v0 v1 v2 v3 v4 v5 h u1 (fun x h2 => K x h2 (u - u1))) : iI (d + 2) u_X12_copy [jR v0, jI v1, jI v2, jI v3, jI v4, jI v5] h u K := inv.of u1 hu (Ct.of (by decide +kernel) rfl (Nat.le_of_ble_eq_true rfl) rfl (E_X12_copy H))
theorem J_X12_copy {d : Nat} {v0 : Option Nm} {v1 : Int32} {v2 : Int32} {v3 : Int32} {v4 : Int32} {v5 : Int32} {h : MH} {u : Nat} {K : Int32 → MH → Prop} (H : F_X12_copy d v0 v1 v2 v3 v4 v5 h 0 K) : iI (d + 2) u_X12_copy [jR v0, jI v1, jI v2, jI v3, jI v4, jI v5] h u (fun x h2 u2 => K x h2 ∧ u2 = u) := jiI (by decide +kernel) rfl (Nat.le_of_ble_eq_true rfl) rfl (E_X12_copy H)
