theorem dX12_editionOf_0 : decode cX12_editionOf 0 = .ok (.iconst 4, 1) := by decide +kernel
theorem dX12_editionOf_1 : decode cX12_editionOf 1 = .ok (.aload_n 0, 1) := by decide +kernel
theorem dX12_editionOf_2 : decode cX12_editionOf 2 = .ok (.getfield 66, 3) := by decide +kernel
theorem dX12_editionOf_5 : decode cX12_editionOf 5 = .ok (.iload_n 1, 1) := by decide +kernel
theorem dX12_editionOf_6 : decode cX12_editionOf 6 = .ok (.iaload, 1) := by decide +kernel
theorem dX12_editionOf_7 : decode cX12_editionOf 7 = .ok (.imul, 1) := by decide +kernel
theorem dX12_editionOf_8 : decode cX12_editionOf 8 = .ok (.aload_n 0, 1) := by decide +kernel
theorem dX12_editionOf_9 : decode cX12_editionOf 9 = .ok (.getfield 69, 3) := by decide +kernel
theorem dX12_editionOf_12 : decode cX12_editionOf 12 = .ok (.iload_n 1, 1) := by decide +kernel
theorem dX12_editionOf_13 : decode cX12_editionOf 13 = .ok (.iaload, 1) := by decide +kernel
theorem dX12_editionOf_14 : decode cX12_editionOf 14 = .ok (.iadd, 1) := by decide +kernel
theorem dX12_editionOf_15 : decode cX12_editionOf 15 = .ok (.ireturn, 1) := by decide +kernel
def F_X12_editionOf (d : Nat) (v0 : Option Nm) (v1 : Int32) (h : MH) (u : Nat) (Q : Int32 → MH → Prop) : Prop :=
  gR h v0 11 25 fun x1 =>
  aI .int h x1 v1 fun x2 =>
  gR h v0 11 26 fun x3 =>
  aI .int h x3 v1 fun x4 =>
  Q ((4 * x2) + x4) h
set_option maxRecDepth 20000 in
theorem E_X12_editionOf {d : Nat} {v0 : Option Nm} {v1 : Int32} {h : MH} {u : Nat} {Q : Int32 → MH → Prop} (H : F_X12_editionOf d v0 v1 h u Q) : T u_X12_editionOf d 0 [some (jR v0), some (jI v1)] [] h u (qI Q) := by
  unfold F_X12_editionOf at H
  refine T_iconst (pc := 0) (v := 4) dX12_editionOf_0 (by decide) ?_
  refine T_aload_n (pc := 1) dX12_editionOf_1 rfl rfl ?_
  refine T_gR (pc := 2) fa_X12_66 dX12_editionOf_2 (gR_mono (fun x1 H => ?_) H)
  refine T_iload_n (pc := 5) dX12_editionOf_5 rfl rfl ?_
  refine T_aI (pc := 6) dX12_editionOf_6 (aI_mono (fun x2 H => ?_) H)
  refine T_imul (pc := 7) dX12_editionOf_7 ?_
  refine T_aload_n (pc := 8) dX12_editionOf_8 rfl rfl ?_
  refine T_gR (pc := 9) fa_X12_69 dX12_editionOf_9 (gR_mono (fun x3 H => ?_) H)
  refine T_iload_n (pc := 12) dX12_editionOf_12 rfl rfl ?_
  refine T_aI (pc := 13) dX12_editionOf_13 (aI_mono (fun x4 H => ?_) H)
  refine T_iadd (pc := 14) dX12_editionOf_14 ?_
  exact T_ireturn (pc := 15) rfl rfl dX12_editionOf_15 H
theorem I_X12_editionOf {d : Nat} {v0 : Option Nm} {v1 : Int32} {h : MH} {u : Nat} {K : Int32 → MH → Nat → Prop} (u1 : Nat) (hu : u1 ≤ u) (H : F_X12_editionOf d v0 v1 h u1 (fun x h2 => K x h2 (u - u1))) : iI d u_X12_editionOf [jR v0, jI v1] h u K := inv.of u1 hu (Ct.of (by decide +kernel) rfl (Nat.le_of_ble_eq_true rfl) rfl (E_X12_editionOf H))
theorem J_X12_editionOf {d : Nat} {v0 : Option Nm} {v1 : Int32} {h : MH} {u : Nat} {K : Int32 → MH → Prop} (H : F_X12_editionOf d v0 v1 h 0 K) : iI d u_X12_editionOf [jR v0, jI v1] h u (fun x h2 u2 => K x h2 ∧ u2 = u) := jiI (by decide +kernel) rfl (Nat.le_of_ble_eq_true rfl) rfl (E_X12_editionOf H)
theorem dX12_isConstant_0 : decode cX12_isConstant 0 = .ok (.aload_n 0, 1) := by decide +kernel
theorem dX12_isConstant_1 : decode cX12_isConstant 1 = .ok (.getfield 27, 3) := by decide +kernel
theorem dX12_isConstant_4 : decode cX12_isConstant 4 = .ok (.aload_n 0, 1) := by decide +kernel
theorem dX12_isConstant_5 : decode cX12_isConstant 5 = .ok (.getfield 66, 3) := by decide +kernel
theorem dX12_isConstant_8 : decode cX12_isConstant 8 = .ok (.iload_n 1, 1) := by decide +kernel
theorem dX12_isConstant_9 : decode cX12_isConstant 9 = .ok (.iaload, 1) := by decide +kernel
theorem dX12_isConstant_10 : decode cX12_isConstant 10 = .ok (.baload, 1) := by decide +kernel
theorem dX12_isConstant_11 : decode cX12_isConstant 11 = .ok (.ireturn, 1) := by decide +kernel
def F_X12_isConstant (d : Nat) (v0 : Option Nm) (v1 : Int32) (h : MH) (u : Nat) (Q : Int32 → MH → Prop) : Prop :=
  gR h v0 11 10 fun x1 =>
  gR h v0 11 25 fun x2 =>
  aI .int h x2 v1 fun x3 =>
  aI .boolean h x1 x3 fun x4 =>
  nz x4 ∧ Q x4 h
set_option maxRecDepth 20000 in
theorem E_X12_isConstant {d : Nat} {v0 : Option Nm} {v1 : Int32} {h : MH} {u : Nat} {Q : Int32 → MH → Prop} (H : F_X12_isConstant d v0 v1 h u Q) : T u_X12_isConstant d 0 [some (jR v0), some (jI v1)] [] h u (qI Q) := by
  unfold F_X12_isConstant at H
  refine T_aload_n (pc := 0) dX12_isConstant_0 rfl rfl ?_
  refine T_gR (pc := 1) fa_X12_27 dX12_isConstant_1 (gR_mono (fun x1 H => ?_) H)
  refine T_aload_n (pc := 4) dX12_isConstant_4 rfl rfl ?_
  refine T_gR (pc := 5) fa_X12_66 dX12_isConstant_5 (gR_mono (fun x2 H => ?_) H)
  refine T_iload_n (pc := 8) dX12_isConstant_8 rfl rfl ?_
  refine T_aI (pc := 9) dX12_isConstant_9 (aI_mono (fun x3 H => ?_) H)
  refine T_aZ (pc := 10) dX12_isConstant_10 (aI_mono (fun x4 H => ?_) H)
  exact T_ireturn (pc := 11) rfl (nz_nar H.1) dX12_isConstant_11 H.2
theorem I_X12_isConstant {d : Nat} {v0 : Option Nm} {v1 : Int32} {h : MH} {u : Nat} {K : Int32 → MH → Nat → Prop} (u1 : Nat) (hu : u1 ≤ u) (H : F_X12_isConstant d v0 v1 h u1 (fun x h2 => K x h2 (u - u1))) : iI d u_X12_isConstant [jR v0, jI v1] h u K := inv.of u1 hu (Ct.of (by decide +kernel) rfl (Nat.le_of_ble_eq_true rfl) rfl (E_X12_isConstant H))
theorem J_X12_isConstant {d : Nat} {v0 : Option Nm} {v1 : Int32} {h : MH} {u : Nat} {K : Int32 → MH → Prop} (H : F_X12_isConstant d v0 v1 h 0 K) : iI d u_X12_isConstant [jR v0, jI v1] h u (fun x h2 u2 => K x h2 ∧ u2 = u) := jiI (by decide +kernel) rfl (Nat.le_of_ble_eq_true rfl) rfl (E_X12_isConstant H)
theorem dX12_in_0 : decode cX12_in 0 = .ok (.iload_n 0, 1) := by decide +kernel
theorem dX12_in_1 : decode cX12_in 1 = .ok (.iload_n 1, 1) := by decide +kernel
theorem dX12_in_2 : decode cX12_in 2 = .ok (.if_icmp .lt 12, 3) := by decide +kernel
theorem dX12_in_5 : decode cX12_in 5 = .ok (.iload_n 0, 1) := by decide +kernel
theorem dX12_in_6 : decode cX12_in 6 = .ok (.iload_n 2, 1) := by decide +kernel
theorem dX12_in_7 : decode cX12_in 7 = .ok (.if_icmp .gt 7, 3) := by decide +kernel
theorem dX12_in_10 : decode cX12_in 10 = .ok (.iconst 1, 1) := by decide +kernel
theorem dX12_in_11 : decode cX12_in 11 = .ok (.goto 4, 3) := by decide +kernel
theorem dX12_in_14 : decode cX12_in 14 = .ok (.iconst 0, 1) := by decide +kernel
theorem dX12_in_15 : decode cX12_in 15 = .ok (.ireturn, 1) := by decide +kernel
def F_X12_in (d : Nat) (v0 : Int32) (v1 : Int32) (v2 : Int32) (h : MH) (u : Nat) (Q : Int32 → MH → Prop) : Prop :=
  if v0 < v1 then
    nz 0 ∧ Q 0 h
  else
    if v2 < v0 then
      nz 0 ∧ Q 0 h
    else
      nz 1 ∧ Q 1 h
set_option maxRecDepth 20000 in
theorem E_X12_in {d : Nat} {v0 : Int32} {v1 : Int32} {v2 : Int32} {h : MH} {u : Nat} {Q : Int32 → MH → Prop} (H : F_X12_in d v0 v1 v2 h u Q) : T u_X12_in d 0 [some (jI v0), some (jI v1), some (jI v2)] [] h u (qI Q) := by
  unfold F_X12_in at H
  refine T_iload_n (pc := 0) dX12_in_0 rfl rfl ?_
  refine T_iload_n (pc := 1) dX12_in_1 rfl rfl ?_
  refine T_icmp_lt (pc := 2) (tgt := 14) dX12_in_2 (by decide) (fun hc => ?_) (fun hc => ?_)
  · rw [if_pos hc] at H
    refine T_iconst (pc := 14) (v := 0) dX12_in_14 (by decide) ?_
    exact T_ireturn (pc := 15) rfl (nz_nar H.1) dX12_in_15 H.2
  · rw [if_neg hc] at H
    refine T_iload_n (pc := 5) dX12_in_5 rfl rfl ?_
    refine T_iload_n (pc := 6) dX12_in_6 rfl rfl ?_
    refine T_icmp_gt (pc := 7) (tgt := 14) dX12_in_7 (by decide) (fun hc => ?_) (fun hc => ?_)
    · rw [if_pos hc] at H
      refine T_iconst (pc := 14) (v := 0) dX12_in_14 (by decide) ?_
      exact T_ireturn (pc := 15) rfl (nz_nar H.1) dX12_in_15 H.2
    · rw [if_neg hc] at H
      refine T_iconst (pc := 10) (v := 1) dX12_in_10 (by decide) ?_
      refine T_goto (pc := 11) (tgt := 15) dX12_in_11 (by decide) ?_
      exact T_ireturn (pc := 15) rfl (nz_nar H.1) dX12_in_15 H.2
theorem I_X12_in {d : Nat} {v0 : Int32} {v1 : Int32} {v2 : Int32} {h : MH} {u : Nat} {K : Int32 → MH → Nat → Prop} (u1 : Nat) (hu : u1 ≤ u) (H : F_X12_in d v0 v1 v2 h u1 (fun x h2 => K x h2 (u - u1))) : iI d u_X12_in [jI v0, jI v1, jI v2] h u K := inv.of u1 hu (Ct.of (by decide +kernel) rfl (Nat.le_of_ble_eq_true rfl) rfl (E_X12_in H))
theorem J_X12_in {d : Nat} {v0 : Int32} {v1 : Int32} {v2 : Int32} {h : MH} {u : Nat} {K : Int32 → MH → Prop} (H : F_X12_in d v0 v1 v2 h 0 K) : iI d u_X12_in [jI v0, jI v1, jI v2] h u (fun x h2 u2 => K x h2 ∧ u2 = u) := jiI (by decide +kernel) rfl (Nat.le_of_ble_eq_true rfl) rfl (E_X12_in H)
theorem dX12_isValue_0 : decode cX12_isValue 0 = .ok (.iload_n 1, 1) := by decide +kernel
theorem dX12_isValue_1 : decode cX12_isValue 1 = .ok (.iconst 0, 1) := by decide +kernel
theorem dX12_isValue_2 : decode cX12_isValue 2 = .ok (.aload_n 0, 1) := by decide +kernel
theorem dX12_isValue_3 : decode cX12_isValue 3 = .ok (.getfield 215, 3) := by decide +kernel
theorem dX12_isValue_6 : decode cX12_isValue 6 = .ok (.iconst 1, 1) := by decide +kernel
theorem dX12_isValue_7 : decode cX12_isValue 7 = .ok (.isub, 1) := by decide +kernel
theorem dX12_isValue_8 : decode cX12_isValue 8 = .ok (.invokestatic 156, 3) := by decide +kernel
theorem dX12_isValue_11 : decode cX12_isValue 11 = .ok (.ireturn, 1) := by decide +kernel
def F_X12_isValue (d : Nat) (v0 : Option Nm) (v1 : Int32) (h : MH) (u : Nat) (Q : Int32 → MH → Prop) : Prop :=
  gI h v0 11 24 fun x1 =>
  F_X12_in d v1 0 (x1 - 1) h 0 fun x2 h =>
  nz x2 ∧ Q x2 h
set_option maxRecDepth 20000 in
theorem E_X12_isValue {d : Nat} {v0 : Option Nm} {v1 : Int32} {h : MH} {u : Nat} {Q : Int32 → MH → Prop} (H : F_X12_isValue d v0 v1 h u Q) : T u_X12_isValue (d + 1) 0 [some (jR v0), some (jI v1)] [] h u (qI Q) := by
  unfold F_X12_isValue at H
  refine T_iload_n (pc := 0) dX12_isValue_0 rfl rfl ?_
  refine T_iconst (pc := 1) (v := 0) dX12_isValue_1 (by decide) ?_
  refine T_aload_n (pc := 2) dX12_isValue_2 rfl rfl ?_
  refine T_gI (pc := 3) fa_X12_215 dX12_isValue_3 (gI_mono (fun x1 H => ?_) H)
  refine T_iconst (pc := 6) (v := 1) dX12_isValue_6 (by decide) ?_
  refine T_isub (pc := 7) dX12_isValue_7 ?_
  refine T_invS (pc := 8) (av := [jI v1, jI 0, jI (x1 - 1)]) (rest := []) dX12_isValue_8 mf_X12_in c_5_86 c_5_87 rfl (Nat.le_of_ble_eq_true rfl) rfl (iI_k (iI_m0 (fun x2 h H => ?_) (J_X12_in (d := d) H)))
  exact T_ireturn (pc := 11) rfl (nz_nar H.1) dX12_isValue_11 H.2
theorem I_X12_isValue {d : Nat} {v0 : Option Nm} {v1 : Int32} {h : MH} {u : Nat} {K : Int32 → MH → Nat → Prop} (u1 : Nat) (hu : u1 ≤ u) (H : F_X12_isValue d v0 v1 h u1 (fun x h2 => K x h2 (u - u1))) : iI (d + 1) u_X12_isValue [jR v0, jI v1] h u K := inv.of u1 hu (Ct.of (by decide +kernel) rfl (Nat.le_of_ble_eq_true rfl) rfl (E_X12_isValue H))
theorem J_X12_isValue {d : Nat} {v0 : Option Nm} {v1 : Int32} {h : MH} {u : Nat} {K : Int32 → MH → Prop} (H : F_X12_isValue d v0 v1 h 0 K) : iI (d + 1) u_X12_isValue [jR v0, jI v1] h u (fun x h2 u2 => K x h2 ∧ u2 = u) := jiI (by decide +kernel) rfl (Nat.le_of_ble_eq_true rfl) rfl (E_X12_isValue H)
theorem dX12_lost_0 : decode cX12_lost 0 = .ok (.ldc2_w 115, 3) := by decide +kernel
theorem dX12_lost_3 : decode cX12_lost 3 = .ok (.lreturn, 1) := by decide +kernel
def F_X12_lost (d : Nat)  (h : MH) (u : Nat) (Q : Int64 → MH → Prop) : Prop :=
  Q (-9223372036854775808) h
set_option maxRecDepth 20000 in
theorem E_X12_lost {d : Nat}  {h : MH} {u : Nat} {Q : Int64 → MH → Prop} (H : F_X12_lost d  h u Q) : T u_X12_lost d 0 [] [] h u (qL Q) := by
  unfold F_X12_lost at H
  refine T_ldc2 (pc := 0) (v := (-9223372036854775808)) dX12_lost_0 c_5_146 ?_
  exact T_lreturn (pc := 3) rfl dX12_lost_3 H
theorem I_X12_lost {d : Nat}  {h : MH} {u : Nat} {K : Int64 → MH → Nat → Prop} (u1 : Nat) (hu : u1 ≤ u) (H : F_X12_lost d  h u1 (fun x h2 => K x h2 (u - u1))) : iL d u_X12_lost [] h u K := inv.of u1 hu (Ct.of (by decide +kernel) rfl (Nat.le_of_ble_eq_true rfl) rfl (E_X12_lost H))
theorem J_X12_lost {d : Nat}  {h : MH} {u : Nat} {K : Int64 → MH → Prop} (H : F_X12_lost d  h 0 K) : iL d u_X12_lost [] h u (fun x h2 u2 => K x h2 ∧ u2 = u) := jiL (by decide +kernel) rfl (Nat.le_of_ble_eq_true rfl) rfl (E_X12_lost H)
theorem dX12_placeOf_0 : decode cX12_placeOf 0 = .ok (.iconst (-1), 1) := by decide +kernel
theorem dX12_placeOf_1 : decode cX12_placeOf 1 = .ok (.istore_n 3, 1) := by decide +kernel
theorem dX12_placeOf_2 : decode cX12_placeOf 2 = .ok (.iconst 0, 1) := by decide +kernel
theorem dX12_placeOf_3 : decode cX12_placeOf 3 = .ok (.istore 4, 2) := by decide +kernel
theorem dX12_placeOf_5 : decode cX12_placeOf 5 = .ok (.iload 4, 2) := by decide +kernel
theorem dX12_placeOf_7 : decode cX12_placeOf 7 = .ok (.aload_n 0, 1) := by decide +kernel
theorem dX12_placeOf_8 : decode cX12_placeOf 8 = .ok (.getfield 42, 3) := by decide +kernel
theorem dX12_placeOf_11 : decode cX12_placeOf 11 = .ok (.iload_n 1, 1) := by decide +kernel
theorem dX12_placeOf_12 : decode cX12_placeOf 12 = .ok (.iaload, 1) := by decide +kernel
theorem dX12_placeOf_13 : decode cX12_placeOf 13 = .ok (.if_icmp .ge 32, 3) := by decide +kernel
theorem dX12_placeOf_16 : decode cX12_placeOf 16 = .ok (.aload_n 0, 1) := by decide +kernel
theorem dX12_placeOf_17 : decode cX12_placeOf 17 = .ok (.getfield 45, 3) := by decide +kernel
theorem dX12_placeOf_20 : decode cX12_placeOf 20 = .ok (.bipush 8, 2) := by decide +kernel
theorem dX12_placeOf_22 : decode cX12_placeOf 22 = .ok (.iload_n 1, 1) := by decide +kernel
theorem dX12_placeOf_23 : decode cX12_placeOf 23 = .ok (.imul, 1) := by decide +kernel
theorem dX12_placeOf_24 : decode cX12_placeOf 24 = .ok (.iload 4, 2) := by decide +kernel
theorem dX12_placeOf_26 : decode cX12_placeOf 26 = .ok (.iadd, 1) := by decide +kernel
theorem dX12_placeOf_27 : decode cX12_placeOf 27 = .ok (.iaload, 1) := by decide +kernel
theorem dX12_placeOf_28 : decode cX12_placeOf 28 = .ok (.iload_n 2, 1) := by decide +kernel
theorem dX12_placeOf_29 : decode cX12_placeOf 29 = .ok (.if_icmp .ne 8, 3) := by decide +kernel
theorem dX12_placeOf_32 : decode cX12_placeOf 32 = .ok (.iload 4, 2) := by decide +kernel
theorem dX12_placeOf_34 : decode cX12_placeOf 34 = .ok (.goto 4, 3) := by decide +kernel
theorem dX12_placeOf_37 : decode cX12_placeOf 37 = .ok (.iload_n 3, 1) := by decide +kernel
theorem dX12_placeOf_38 : decode cX12_placeOf 38 = .ok (.istore_n 3, 1) := by decide +kernel
theorem dX12_placeOf_39 : decode cX12_placeOf 39 = .ok (.iinc 4 1, 3) := by decide +kernel
theorem dX12_placeOf_42 : decode cX12_placeOf 42 = .ok (.goto (-37), 3) := by decide +kernel
theorem dX12_placeOf_45 : decode cX12_placeOf 45 = .ok (.iload_n 3, 1) := by decide +kernel
theorem dX12_placeOf_46 : decode cX12_placeOf 46 = .ok (.ireturn, 1) := by decide +kernel
def L_X12_placeOf_5 (d : Nat) (v0 : Option Nm) (v1 : Int32) (v2 : Int32) (v3 : Int32) (v4 : Int32) (h : MH) (u : Nat) (Q : Int32 → MH → Prop) : Prop := T u_X12_placeOf d 5 [some (jR v0), some (jI v1), some (jI v2), some (jI v3), some (jI v4)] [] h u (qI Q)
def F_X12_placeOf (d : Nat) (v0 : Option Nm) (v1 : Int32) (v2 : Int32) (h : MH) (u : Nat) (Q : Int32 → MH → Prop) : Prop :=
  L_X12_placeOf_5 d v0 v1 v2 (-1) 0 h u Q
set_option maxRecDepth 20000 in
theorem E_X12_placeOf {d : Nat} {v0 : Option Nm} {v1 : Int32} {v2 : Int32} {h : MH} {u : Nat} {Q : Int32 → MH → Prop} (H : F_X12_placeOf d v0 v1 v2 h u Q) : T u_X12_placeOf d 0 [some (jR v0), some (jI v1), some (jI v2), none, none] [] h u (qI Q) := by
  unfold F_X12_placeOf at H
  refine T_iconst (pc := 0) (v := (-1)) dX12_placeOf_0 (by decide) ?_
  refine T_istore_n (pc := 1) (ls2 := [some (jR v0), some (jI v1), some (jI v2), some (jI (-1)), none]) dX12_placeOf_1 rfl (Nat.le_of_ble_eq_true rfl) rfl ?_
  refine T_iconst (pc := 2) (v := 0) dX12_placeOf_2 (by decide) ?_
  refine T_istore (pc := 3) (ls2 := [some (jR v0), some (jI v1), some (jI v2), some (jI (-1)), some (jI 0)]) dX12_placeOf_3 (Nat.le_of_ble_eq_true rfl) rfl ?_
  exact T.forget H ⟨rfl, rfl, rfl, rfl, rfl, trivial⟩
def F_X12_placeOf_5 (d : Nat) (v0 : Option Nm) (v1 : Int32) (v2 : Int32) (v3 : Int32) (v4 : Int32) (h : MH) (u : Nat) (Q : Int32 → MH → Prop) : Prop :=
  gR h v0 11 15 fun x1 =>
  aI .int h x1 v1 fun x2 =>
  if x2 ≤ v4 then
    Q v3 h
  else
    gR h v0 11 16 fun x3 =>
    aI .int h x3 ((8 * v1) + v4) fun x4 =>
    if x4 = v2 then
      L_X12_placeOf_5 d v0 v1 v2 v4 (v4 + 1) h u Q
    else
      L_X12_placeOf_5 d v0 v1 v2 v3 (v4 + 1) h u Q
set_option maxRecDepth 20000 in
theorem E_X12_placeOf_5 {d : Nat} {v0 : Option Nm} {v1 : Int32} {v2 : Int32} {v3 : Int32} {v4 : Int32} {h : MH} {u : Nat} {Q : Int32 → MH → Prop} (H : F_X12_placeOf_5 d v0 v1 v2 v3 v4 h u Q) : T u_X12_placeOf d 5 [some (jR v0), some (jI v1), some (jI v2), some (jI v3), some (jI v4)] [] h u (qI Q) := by
  unfold F_X12_placeOf_5 at H
  refine T_iload (pc := 5) dX12_placeOf_5 rfl ?_
  refine T_aload_n (pc := 7) dX12_placeOf_7 rfl rfl ?_
  refine T_gR (pc := 8) fa_X12_42 dX12_placeOf_8 (gR_mono (fun x1 H => ?_) H)
  refine T_iload_n (pc := 11) dX12_placeOf_11 rfl rfl ?_
  refine T_aI (pc := 12) dX12_placeOf_12 (aI_mono (fun x2 H => ?_) H)
  refine T_icmp_ge (pc := 13) (tgt := 45) dX12_placeOf_13 (by decide) (fun hc => ?_) (fun hc => ?_)
  · rw [if_pos hc] at H
    refine T_iload_n (pc := 45) dX12_placeOf_45 rfl rfl ?_
    exact T_ireturn (pc := 46) rfl rfl dX12_placeOf_46 H
  · rw [if_neg hc] at H
    refine T_aload_n (pc := 16) dX12_placeOf_16 rfl rfl ?_
    refine T_gR (pc := 17) fa_X12_45 dX12_placeOf_17 (gR_mono (fun x3 H => ?_) H)
    refine T_bipush (pc := 20) (v := 8) dX12_placeOf_20 (by decide) ?_
    refine T_iload_n (pc := 22) dX12_placeOf_22 rfl rfl ?_
    refine T_imul (pc := 23) dX12_placeOf_23 ?_
    refine T_iload (pc := 24) dX12_placeOf_24 rfl ?_
    refine T_iadd (pc := 26) dX12_placeOf_26 ?_
    refine T_aI (pc := 27) dX12_placeOf_27 (aI_mono (fun x4 H => ?_) H)
    refine T_iload_n (pc := 28) dX12_placeOf_28 rfl rfl ?_
    refine T_icmp_ne (pc := 29) (tgt := 37) dX12_placeOf_29 (by decide) (fun hc => ?_) (fun hc => ?_)
    · rw [if_neg hc] at H
      refine T_iload_n (pc := 37) dX12_placeOf_37 rfl rfl ?_
      refine T_istore_n (pc := 38) (ls2 := [some (jR v0), some (jI v1), some (jI v2), some (jI v3), some (jI v4)]) dX12_placeOf_38 rfl (Nat.le_of_ble_eq_true rfl) rfl ?_
      refine T_iinc (pc := 39) (v := v4 + 1) (ls2 := [some (jR v0), some (jI v1), some (jI v2), some (jI v3), some (jI (v4 + 1))]) dX12_placeOf_39 rfl rfl (Nat.le_of_ble_eq_true rfl) rfl ?_
      refine T_goto (pc := 42) (tgt := 5) dX12_placeOf_42 (by decide) ?_
      exact T.forget H ⟨rfl, rfl, rfl, rfl, rfl, trivial⟩
    · rw [if_pos hc] at H
      refine T_iload (pc := 32) dX12_placeOf_32 rfl ?_
      refine T_goto (pc := 34) (tgt := 38) dX12_placeOf_34 (by decide) ?_
      refine T_istore_n (pc := 38) (ls2 := [some (jR v0), some (jI v1), some (jI v2), some (jI v4), some (jI v4)]) dX12_placeOf_38 rfl (Nat.le_of_ble_eq_true rfl) rfl ?_
      refine T_iinc (pc := 39) (v := v4 + 1) (ls2 := [some (jR v0), some (jI v1), some (jI v2), some (jI v4), some (jI (v4 + 1))]) dX12_placeOf_39 rfl rfl (Nat.le_of_ble_eq_true rfl) rfl ?_
      refine T_goto (pc := 42) (tgt := 5) dX12_placeOf_42 (by decide) ?_
      exact T.forget H ⟨rfl, rfl, rfl, rfl, rfl, trivial⟩
theorem I_X12_placeOf {d : Nat} {v0 : Option Nm} {v1 : Int32} {v2 : Int32} {h : MH} {u : Nat} {K : Int32 → MH → Nat → Prop} (u1 : Nat) (hu : u1 ≤ u) (H : F_X12_placeOf d v0 v1 v2 h u1 (fun x h2 => K x h2 (u - u1))) : iI d u_X12_placeOf [jR v0, jI v1, jI v2] h u K := inv.of u1 hu (Ct.of (by decide +kernel) rfl (Nat.le_of_ble_eq_true rfl) rfl (E_X12_placeOf H))
theorem J_X12_placeOf {d : Nat} {v0 : Option Nm} {v1 : Int32} {v2 : Int32} {h : MH} {u : Nat} {K : Int32 → MH → Prop} (H : F_X12_placeOf d v0 v1 v2 h 0 K) : iI d u_X12_placeOf [jR v0, jI v1, jI v2] h u (fun x h2 u2 => K x h2 ∧ u2 = u) := jiI (by decide +kernel) rfl (Nat.le_of_ble_eq_true rfl) rfl (E_X12_placeOf H)
theorem dX12_laneOf_0 : decode cX12_laneOf 0 = .ok (.aload_n 0, 1) := by decide +kernel
theorem dX12_laneOf_1 : decode cX12_laneOf 1 = .ok (.getfield 48, 3) := by decide +kernel
theorem dX12_laneOf_4 : decode cX12_laneOf 4 = .ok (.bipush 8, 2) := by decide +kernel
theorem dX12_laneOf_6 : decode cX12_laneOf 6 = .ok (.aload_n 0, 1) := by decide +kernel
theorem dX12_laneOf_7 : decode cX12_laneOf 7 = .ok (.iload_n 1, 1) := by decide +kernel
theorem dX12_laneOf_8 : decode cX12_laneOf 8 = .ok (.invokevirtual 231, 3) := by decide +kernel
theorem dX12_laneOf_11 : decode cX12_laneOf 11 = .ok (.imul, 1) := by decide +kernel
theorem dX12_laneOf_12 : decode cX12_laneOf 12 = .ok (.iload_n 2, 1) := by decide +kernel
theorem dX12_laneOf_13 : decode cX12_laneOf 13 = .ok (.iadd, 1) := by decide +kernel
theorem dX12_laneOf_14 : decode cX12_laneOf 14 = .ok (.iaload, 1) := by decide +kernel
theorem dX12_laneOf_15 : decode cX12_laneOf 15 = .ok (.ireturn, 1) := by decide +kernel
def F_X12_laneOf (d : Nat) (v0 : Option Nm) (v1 : Int32) (v2 : Int32) (h : MH) (u : Nat) (Q : Int32 → MH → Prop) : Prop :=
  gR h v0 11 17 fun x1 =>
  rc h v0 11 ∧ F_X12_editionOf d v0 v1 h 0 fun x2 h =>
  aI .int h x1 ((8 * x2) + v2) fun x3 =>
  Q x3 h
set_option maxRecDepth 20000 in
theorem E_X12_laneOf {d : Nat} {v0 : Option Nm} {v1 : Int32} {v2 : Int32} {h : MH} {u : Nat} {Q : Int32 → MH → Prop} (H : F_X12_laneOf d v0 v1 v2 h u Q) : T u_X12_laneOf (d + 1) 0 [some (jR v0), some (jI v1), some (jI v2)] [] h u (qI Q) := by
  unfold F_X12_laneOf at H
  refine T_aload_n (pc := 0) dX12_laneOf_0 rfl rfl ?_
  refine T_gR (pc := 1) fa_X12_48 dX12_laneOf_1 (gR_mono (fun x1 H => ?_) H)
  refine T_bipush (pc := 4) (v := 8) dX12_laneOf_4 (by decide) ?_
  refine T_aload_n (pc := 6) dX12_laneOf_6 rfl rfl ?_
  refine T_iload_n (pc := 7) dX12_laneOf_7 rfl rfl ?_
  obtain ⟨H0, H⟩ := H
  refine T_iV (pc := 8) (ci := 11) (av := [jI v1]) (rest := [jI 8, jR x1]) (o := v0) dX12_laneOf_8 mf_X12_editionOf c_6_42 c_6_44 pr_X12_editionOf rfl rfl (Nat.le_of_ble_eq_true rfl) rfl H0 (iI_k (iI_m0 (fun x2 h H => ?_) (J_X12_editionOf (d := d) H)))
  refine T_imul (pc := 11) dX12_laneOf_11 ?_
  refine T_iload_n (pc := 12) dX12_laneOf_12 rfl rfl ?_
  refine T_iadd (pc := 13) dX12_laneOf_13 ?_
  refine T_aI (pc := 14) dX12_laneOf_14 (aI_mono (fun x3 H => ?_) H)
  exact T_ireturn (pc := 15) rfl rfl dX12_laneOf_15 H
theorem I_X12_laneOf {d : Nat} {v0 : Option Nm} {v1 : Int32} {v2 : Int32} {h : MH} {u : Nat} {K : Int32 → MH → Nat → Prop} (u1 : Nat) (hu : u1 ≤ u) (H : F_X12_laneOf d v0 v1 v2 h u1 (fun x h2 => K x h2 (u - u1))) : iI (d + 1) u_X12_laneOf [jR v0, jI v1, jI v2] h u K := inv.of u1 hu (Ct.of (by decide +kernel) rfl (Nat.le_of_ble_eq_true rfl) rfl (E_X12_laneOf H))
theorem J_X12_laneOf {d : Nat} {v0 : Option Nm} {v1 : Int32} {v2 : Int32} {h : MH} {u : Nat} {K : Int32 → MH → Prop} (H : F_X12_laneOf d v0 v1 v2 h 0 K) : iI (d + 1) u_X12_laneOf [jR v0, jI v1, jI v2] h u (fun x h2 u2 => K x h2 ∧ u2 = u) := jiI (by decide +kernel) rfl (Nat.le_of_ble_eq_true rfl) rfl (E_X12_laneOf H)
theorem dX12_toldPart_0 : decode cX12_toldPart 0 = .ok (.aload_n 0, 1) := by decide +kernel
theorem dX12_toldPart_1 : decode cX12_toldPart 1 = .ok (.iload_n 1, 1) := by decide +kernel
theorem dX12_toldPart_2 : decode cX12_toldPart 2 = .ok (.iload_n 2, 1) := by decide +kernel
theorem dX12_toldPart_3 : decode cX12_toldPart 3 = .ok (.invokevirtual 256, 3) := by decide +kernel
theorem dX12_toldPart_6 : decode cX12_toldPart 6 = .ok (.bipush 8, 2) := by decide +kernel
theorem dX12_toldPart_8 : decode cX12_toldPart 8 = .ok (.if_icmp .lt 25, 3) := by decide +kernel
theorem dX12_toldPart_11 : decode cX12_toldPart 11 = .ok (.aload_n 0, 1) := by decide +kernel
theorem dX12_toldPart_12 : decode cX12_toldPart 12 = .ok (.getfield 84, 3) := by decide +kernel
theorem dX12_toldPart_15 : decode cX12_toldPart 15 = .ok (.bipush 6, 2) := by decide +kernel
theorem dX12_toldPart_17 : decode cX12_toldPart 17 = .ok (.iload_n 1, 1) := by decide +kernel
theorem dX12_toldPart_18 : decode cX12_toldPart 18 = .ok (.imul, 1) := by decide +kernel
theorem dX12_toldPart_19 : decode cX12_toldPart 19 = .ok (.iload_n 2, 1) := by decide +kernel
theorem dX12_toldPart_20 : decode cX12_toldPart 20 = .ok (.iadd, 1) := by decide +kernel
theorem dX12_toldPart_21 : decode cX12_toldPart 21 = .ok (.laload, 1) := by decide +kernel
theorem dX12_toldPart_22 : decode cX12_toldPart 22 = .ok (.lconst 0, 1) := by decide +kernel
theorem dX12_toldPart_23 : decode cX12_toldPart 23 = .ok (.lcmp, 1) := by decide +kernel
theorem dX12_toldPart_24 : decode cX12_toldPart 24 = .ok (.ifCond .ge 9, 3) := by decide +kernel
theorem dX12_toldPart_27 : decode cX12_toldPart 27 = .ok (.ldc2_w 259, 3) := by decide +kernel
theorem dX12_toldPart_30 : decode cX12_toldPart 30 = .ok (.goto 14, 3) := by decide +kernel
theorem dX12_toldPart_33 : decode cX12_toldPart 33 = .ok (.aload_n 0, 1) := by decide +kernel
theorem dX12_toldPart_34 : decode cX12_toldPart 34 = .ok (.getfield 84, 3) := by decide +kernel
theorem dX12_toldPart_37 : decode cX12_toldPart 37 = .ok (.bipush 6, 2) := by decide +kernel
theorem dX12_toldPart_39 : decode cX12_toldPart 39 = .ok (.iload_n 1, 1) := by decide +kernel
theorem dX12_toldPart_40 : decode cX12_toldPart 40 = .ok (.imul, 1) := by decide +kernel
theorem dX12_toldPart_41 : decode cX12_toldPart 41 = .ok (.iload_n 2, 1) := by decide +kernel
theorem dX12_toldPart_42 : decode cX12_toldPart 42 = .ok (.iadd, 1) := by decide +kernel
theorem dX12_toldPart_43 : decode cX12_toldPart 43 = .ok (.laload, 1) := by decide +kernel
theorem dX12_toldPart_44 : decode cX12_toldPart 44 = .ok (.lreturn, 1) := by decide +kernel
def F_X12_toldPart (d : Nat) (v0 : Option Nm) (v1 : Int32) (v2 : Int32) (h : MH) (u : Nat) (Q : Int64 → MH → Prop) : Prop :=
  rc h v0 11 ∧ F_X12_laneOf d v0 v1 v2 h 0 fun x1 h =>
  if x1 < 8 then
    gR h v0 11 31 fun x2 =>
    aL h x2 ((6 * v1) + v2) fun x3 =>
    Q x3 h
  else
    gR h v0 11 31 fun x4 =>
    aL h x4 ((6 * v1) + v2) fun x5 =>
    if 0 ≤ (lg_cmp x5 0) then
      gR h v0 11 31 fun x6 =>
      aL h x6 ((6 * v1) + v2) fun x7 =>
      Q x7 h
    else
      Q (-5) h
set_option maxRecDepth 20000 in
theorem E_X12_toldPart {d : Nat} {v0 : Option Nm} {v1 : Int32} {v2 : Int32} {h : MH} {u : Nat} {Q : Int64 → MH → Prop} (H : F_X12_toldPart d v0 v1 v2 h u Q) : T u_X12_toldPart (d + 2) 0 [some (jR v0), some (jI v1), some (jI v2)] [] h u (qL Q) := by
  unfold F_X12_toldPart at H
  refine T_aload_n (pc := 0) dX12_toldPart_0 rfl rfl ?_
  refine T_iload_n (pc := 1) dX12_toldPart_1 rfl rfl ?_
  refine T_iload_n (pc := 2) dX12_toldPart_2 rfl rfl ?_
  obtain ⟨H0, H⟩ := H
  refine T_iV (pc := 3) (ci := 11) (av := [jI v1, jI v2]) (rest := []) (o := v0) dX12_toldPart_3 mf_X12_laneOf c_6_50 c_6_52 pr_X12_laneOf rfl rfl (Nat.le_of_ble_eq_true rfl) rfl H0 (iI_k (iI_m0 (fun x1 h H => ?_) (J_X12_laneOf (d := d) H)))
  refine T_bipush (pc := 6) (v := 8) dX12_toldPart_6 (by decide) ?_
  refine T_icmp_lt (pc := 8) (tgt := 33) dX12_toldPart_8 (by decide) (fun hc => ?_) (fun hc => ?_)
  · rw [if_pos hc] at H
    refine T_aload_n (pc := 33) dX12_toldPart_33 rfl rfl ?_
    refine T_gR (pc := 34) fa_X12_84 dX12_toldPart_34 (gR_mono (fun x2 H => ?_) H)
    refine T_bipush (pc := 37) (v := 6) dX12_toldPart_37 (by decide) ?_
    refine T_iload_n (pc := 39) dX12_toldPart_39 rfl rfl ?_
    refine T_imul (pc := 40) dX12_toldPart_40 ?_
    refine T_iload_n (pc := 41) dX12_toldPart_41 rfl rfl ?_
    refine T_iadd (pc := 42) dX12_toldPart_42 ?_
    refine T_aL (pc := 43) dX12_toldPart_43 (aL_mono (fun x3 H => ?_) H)
    exact T_lreturn (pc := 44) rfl dX12_toldPart_44 H
  · rw [if_neg hc] at H
    refine T_aload_n (pc := 11) dX12_toldPart_11 rfl rfl ?_
    refine T_gR (pc := 12) fa_X12_84 dX12_toldPart_12 (gR_mono (fun x4 H => ?_) H)
    refine T_bipush (pc := 15) (v := 6) dX12_toldPart_15 (by decide) ?_
    refine T_iload_n (pc := 17) dX12_toldPart_17 rfl rfl ?_
    refine T_imul (pc := 18) dX12_toldPart_18 ?_
    refine T_iload_n (pc := 19) dX12_toldPart_19 rfl rfl ?_
    refine T_iadd (pc := 20) dX12_toldPart_20 ?_
    refine T_aL (pc := 21) dX12_toldPart_21 (aL_mono (fun x5 H => ?_) H)
    refine T_lconst (pc := 22) (v := 0) dX12_toldPart_22 (by decide) ?_
    refine T_lcmp (pc := 23) dX12_toldPart_23 ?_
    refine T_if_ge (pc := 24) (tgt := 33) dX12_toldPart_24 (by decide) (fun hc => ?_) (fun hc => ?_)
    · rw [if_pos hc] at H
      refine T_aload_n (pc := 33) dX12_toldPart_33 rfl rfl ?_
      refine T_gR (pc := 34) fa_X12_84 dX12_toldPart_34 (gR_mono (fun x6 H => ?_) H)
      refine T_bipush (pc := 37) (v := 6) dX12_toldPart_37 (by decide) ?_
      refine T_iload_n (pc := 39) dX12_toldPart_39 rfl rfl ?_
      refine T_imul (pc := 40) dX12_toldPart_40 ?_
      refine T_iload_n (pc := 41) dX12_toldPart_41 rfl rfl ?_
      refine T_iadd (pc := 42) dX12_toldPart_42 ?_
      refine T_aL (pc := 43) dX12_toldPart_43 (aL_mono (fun x7 H => ?_) H)
      exact T_lreturn (pc := 44) rfl dX12_toldPart_44 H
    · rw [if_neg hc] at H
      refine T_ldc2 (pc := 27) (v := (-5)) dX12_toldPart_27 c_6_54 ?_
      refine T_goto (pc := 30) (tgt := 44) dX12_toldPart_30 (by decide) ?_
      exact T_lreturn (pc := 44) rfl dX12_toldPart_44 H
theorem I_X12_toldPart {d : Nat} {v0 : Option Nm} {v1 : Int32} {v2 : Int32} {h : MH} {u : Nat} {K : Int64 → MH → Nat → Prop} (u1 : Nat) (hu : u1 ≤ u) (H : F_X12_toldPart d v0 v1 v2 h u1 (fun x h2 => K x h2 (u - u1))) : iL (d + 2) u_X12_toldPart [jR v0, jI v1, jI v2] h u K := inv.of u1 hu (Ct.of (by decide +kernel) rfl (Nat.le_of_ble_eq_true rfl) rfl (E_X12_toldPart H))
theorem J_X12_toldPart {d : Nat} {v0 : Option Nm} {v1 : Int32} {v2 : Int32} {h : MH} {u : Nat} {K : Int64 → MH → Prop} (H : F_X12_toldPart d v0 v1 v2 h 0 K) : iL (d + 2) u_X12_toldPart [jR v0, jI v1, jI v2] h u (fun x h2 u2 => K x h2 ∧ u2 = u) := jiL (by decide +kernel) rfl (Nat.le_of_ble_eq_true rfl) rfl (E_X12_toldPart H)
theorem dX12_accessor_0 : decode cX12_accessor 0 = .ok (.aload_n 0, 1) := by decide +kernel
theorem dX12_accessor_1 : decode cX12_accessor 1 = .ok (.iload_n 1, 1) := by decide +kernel
theorem dX12_accessor_2 : decode cX12_accessor 2 = .ok (.invokevirtual 190, 3) := by decide +kernel
theorem dX12_accessor_5 : decode cX12_accessor 5 = .ok (.ifCond .eq 11, 3) := by decide +kernel
theorem dX12_accessor_8 : decode cX12_accessor 8 = .ok (.aload_n 0, 1) := by decide +kernel
theorem dX12_accessor_9 : decode cX12_accessor 9 = .ok (.iload_n 1, 1) := by decide +kernel
theorem dX12_accessor_10 : decode cX12_accessor 10 = .ok (.invokevirtual 261, 3) := by decide +kernel
theorem dX12_accessor_13 : decode cX12_accessor 13 = .ok (.ifCond .eq 7, 3) := by decide +kernel
theorem dX12_accessor_16 : decode cX12_accessor 16 = .ok (.invokestatic 124, 3) := by decide +kernel
theorem dX12_accessor_19 : decode cX12_accessor 19 = .ok (.lreturn, 1) := by decide +kernel
theorem dX12_accessor_20 : decode cX12_accessor 20 = .ok (.aload_n 0, 1) := by decide +kernel
theorem dX12_accessor_21 : decode cX12_accessor 21 = .ok (.aload_n 0, 1) := by decide +kernel
theorem dX12_accessor_22 : decode cX12_accessor 22 = .ok (.iload_n 1, 1) := by decide +kernel
theorem dX12_accessor_23 : decode cX12_accessor 23 = .ok (.invokevirtual 231, 3) := by decide +kernel
theorem dX12_accessor_26 : decode cX12_accessor 26 = .ok (.iload_n 2, 1) := by decide +kernel
theorem dX12_accessor_27 : decode cX12_accessor 27 = .ok (.invokevirtual 209, 3) := by decide +kernel
theorem dX12_accessor_30 : decode cX12_accessor 30 = .ok (.istore_n 3, 1) := by decide +kernel
theorem dX12_accessor_31 : decode cX12_accessor 31 = .ok (.iload_n 3, 1) := by decide +kernel
theorem dX12_accessor_32 : decode cX12_accessor 32 = .ok (.ifCond .ge 9, 3) := by decide +kernel
theorem dX12_accessor_35 : decode cX12_accessor 35 = .ok (.invokestatic 124, 3) := by decide +kernel
theorem dX12_accessor_38 : decode cX12_accessor 38 = .ok (.goto 9, 3) := by decide +kernel
theorem dX12_accessor_41 : decode cX12_accessor 41 = .ok (.aload_n 0, 1) := by decide +kernel
theorem dX12_accessor_42 : decode cX12_accessor 42 = .ok (.iload_n 1, 1) := by decide +kernel
theorem dX12_accessor_43 : decode cX12_accessor 43 = .ok (.iload_n 3, 1) := by decide +kernel
theorem dX12_accessor_44 : decode cX12_accessor 44 = .ok (.invokevirtual 267, 3) := by decide +kernel
theorem dX12_accessor_47 : decode cX12_accessor 47 = .ok (.lreturn, 1) := by decide +kernel
def F_X12_accessor (d : Nat) (v0 : Option Nm) (v1 : Int32) (v2 : Int32) (h : MH) (u : Nat) (Q : Int64 → MH → Prop) : Prop :=
  rc h v0 11 ∧ F_X12_isValue (d + 1) v0 v1 h 0 fun x1 h =>
  if x1 = 0 then
    F_X12_lost (d + 2)  h 0 fun x2 h =>
    Q x2 h
  else
    rc h v0 11 ∧ F_X12_isConstant (d + 2) v0 v1 h 0 fun x3 h =>
    if x3 = 0 then
      rc h v0 11 ∧ F_X12_editionOf (d + 2) v0 v1 h 0 fun x4 h =>
      rc h v0 11 ∧ F_X12_placeOf (d + 2) v0 x4 v2 h 0 fun x5 h =>
      if 0 ≤ x5 then
        rc h v0 11 ∧ F_X12_toldPart d v0 v1 x5 h 0 fun x6 h =>
        Q x6 h
      else
        F_X12_lost (d + 2)  h 0 fun x7 h =>
        Q x7 h
    else
      F_X12_lost (d + 2)  h 0 fun x8 h =>
      Q x8 h
set_option maxRecDepth 20000 in
theorem E_X12_accessor {d : Nat} {v0 : Option Nm} {v1 : Int32} {v2 : Int32} {h : MH} {u : Nat} {Q : Int64 → MH → Prop} (H : F_X12_accessor d v0 v1 v2 h u Q) : T u_X12_accessor (d + 3) 0 [some (jR v0), some (jI v1), some (jI v2), none] [] h u (qL Q) := by
  unfold F_X12_accessor at H
  refine T_aload_n (pc := 0) dX12_accessor_0 rfl rfl ?_
  refine T_iload_n (pc := 1) dX12_accessor_1 rfl rfl ?_
  obtain ⟨H0, H⟩ := H
  refine T_iV (pc := 2) (ci := 11) (av := [jI v1]) (rest := []) (o := v0) dX12_accessor_2 mf_X12_isValue c_5_155 c_5_157 pr_X12_isValue rfl rfl (Nat.le_of_ble_eq_true rfl) rfl H0 (iI_k (iI_m0 (fun x1 h H => ?_) (J_X12_isValue (d := (d + 1)) H)))
  refine T_if_eq (pc := 5) (tgt := 16) dX12_accessor_5 (by decide) (fun hc => ?_) (fun hc => ?_)
  · rw [if_pos hc] at H
    refine T_invS (pc := 16) (av := []) (rest := []) dX12_accessor_16 mf_X12_lost c_5_143 c_5_144 rfl (Nat.le_of_ble_eq_true rfl) rfl (iL_k (iL_m0 (fun x2 h H => ?_) (J_X12_lost (d := (d + 2)) H)))
    exact T_lreturn (pc := 19) rfl dX12_accessor_19 H
  · rw [if_neg hc] at H
    refine T_aload_n (pc := 8) dX12_accessor_8 rfl rfl ?_
    refine T_iload_n (pc := 9) dX12_accessor_9 rfl rfl ?_
    obtain ⟨H0, H⟩ := H
    refine T_iV (pc := 10) (ci := 11) (av := [jI v1]) (rest := []) (o := v0) dX12_accessor_10 mf_X12_isConstant c_6_34 c_6_36 pr_X12_isConstant rfl rfl (Nat.le_of_ble_eq_true rfl) rfl H0 (iI_k (iI_m0 (fun x3 h H => ?_) (J_X12_isConstant (d := (d + 2)) H)))
    refine T_if_eq (pc := 13) (tgt := 20) dX12_accessor_13 (by decide) (fun hc => ?_) (fun hc => ?_)
    · rw [if_pos hc] at H
      refine T_aload_n (pc := 20) dX12_accessor_20 rfl rfl ?_
      refine T_aload_n (pc := 21) dX12_accessor_21 rfl rfl ?_
      refine T_iload_n (pc := 22) dX12_accessor_22 rfl rfl ?_
      obtain ⟨H0, H⟩ := H
      refine T_iV (pc := 23) (ci := 11) (av := [jI v1]) (rest := [jR v0]) (o := v0) dX12_accessor_23 mf_X12_editionOf c_6_42 c_6_44 pr_X12_editionOf rfl rfl (Nat.le_of_ble_eq_true rfl) rfl H0 (iI_k (iI_m0 (fun x4 h H => ?_) (J_X12_editionOf (d := (d + 2)) H)))
      refine T_iload_n (pc := 26) dX12_accessor_26 rfl rfl ?_
      obtain ⟨H0, H⟩ := H
      refine T_iV (pc := 27) (ci := 11) (av := [jI x4, jI v2]) (rest := []) (o := v0) dX12_accessor_27 mf_X12_placeOf c_5_202 c_5_204 pr_X12_placeOf rfl rfl (Nat.le_of_ble_eq_true rfl) rfl H0 (iI_k (iI_m0 (fun x5 h H => ?_) (J_X12_placeOf (d := (d + 2)) H)))
      refine T_istore_n (pc := 30) (ls2 := [some (jR v0), some (jI v1), some (jI v2), some (jI x5)]) dX12_accessor_30 rfl (Nat.le_of_ble_eq_true rfl) rfl ?_
      refine T_iload_n (pc := 31) dX12_accessor_31 rfl rfl ?_
      refine T_if_ge (pc := 32) (tgt := 41) dX12_accessor_32 (by decide) (fun hc => ?_) (fun hc => ?_)
      · rw [if_pos hc] at H
        refine T_aload_n (pc := 41) dX12_accessor_41 rfl rfl ?_
        refine T_iload_n (pc := 42) dX12_accessor_42 rfl rfl ?_
        refine T_iload_n (pc := 43) dX12_accessor_43 rfl rfl ?_
        obtain ⟨H0, H⟩ := H
        refine T_iV (pc := 44) (ci := 11) (av := [jI v1, jI x5]) (rest := []) (o := v0) dX12_accessor_44 mf_X12_toldPart c_6_46 c_6_48 pr_X12_toldPart rfl rfl (Nat.le_of_ble_eq_true rfl) rfl H0 (iL_k (iL_m0 (fun x6 h H => ?_) (J_X12_toldPart (d := d) H)))
        exact T_lreturn (pc := 47) rfl dX12_accessor_47 H
      · rw [if_neg hc] at H
        refine T_invS (pc := 35) (av := []) (rest := []) dX12_accessor_35 mf_X12_lost c_5_143 c_5_144 rfl (Nat.le_of_ble_eq_true rfl) rfl (iL_k (iL_m0 (fun x7 h H => ?_) (J_X12_lost (d := (d + 2)) H)))
        refine T_goto (pc := 38) (tgt := 47) dX12_accessor_38 (by decide) ?_
        exact T_lreturn (pc := 47) rfl dX12_accessor_47 H
    · rw [if_neg hc] at H
      refine T_invS (pc := 16) (av := []) (rest := []) dX12_accessor_16 mf_X12_lost c_5_143 c_5_144 rfl (Nat.le_of_ble_eq_true rfl) rfl (iL_k (iL_m0 (fun x8 h H => ?_) (J_X12_lost (d := (d + 2)) H)))
      exact T_lreturn (pc := 19) rfl dX12_accessor_19 H
theorem I_X12_accessor {d : Nat} {v0 : Option Nm} {v1 : Int32} {v2 : Int32} {h : MH} {u : Nat} {K : Int64 → MH → Nat → Prop} (u1 : Nat) (hu : u1 ≤ u) (H : F_X12_accessor d v0 v1 v2 h u1 (fun x h2 => K x h2 (u - u1))) : iL (d + 3) u_X12_accessor [jR v0, jI v1, jI v2] h u K := inv.of u1 hu (Ct.of (by decide +kernel) rfl (Nat.le_of_ble_eq_true rfl) rfl (E_X12_accessor H))
theorem J_X12_accessor {d : Nat} {v0 : Option Nm} {v1 : Int32} {v2 : Int32} {h : MH} {u : Nat} {K : Int64 → MH → Prop} (H : F_X12_accessor d v0 v1 v2 h 0 K) : iL (d + 3) u_X12_accessor [jR v0, jI v1, jI v2] h u (fun x h2 u2 => K x h2 ∧ u2 = u) := jiL (by decide +kernel) rfl (Nat.le_of_ble_eq_true rfl) rfl (E_X12_accessor H)
theorem dX12_adds_0 : decode cX12_adds 0 = .ok (.aload_n 0, 1) := by decide +kernel
theorem dX12_adds_1 : decode cX12_adds 1 = .ok (.getfield 271, 3) := by decide +kernel
theorem dX12_adds_4 : decode cX12_adds 4 = .ok (.iconst 1, 1) := by decide +kernel
theorem dX12_adds_5 : decode cX12_adds 5 = .ok (.isub, 1) := by decide +kernel
theorem dX12_adds_6 : decode cX12_adds 6 = .ok (.istore_n 2, 1) := by decide +kernel
theorem dX12_adds_7 : decode cX12_adds 7 = .ok (.aload_n 0, 1) := by decide +kernel
theorem dX12_adds_8 : decode cX12_adds 8 = .ok (.getfield 99, 3) := by decide +kernel
theorem dX12_adds_11 : decode cX12_adds 11 = .ok (.iload_n 2, 1) := by decide +kernel
theorem dX12_adds_12 : decode cX12_adds 12 = .ok (.iaload, 1) := by decide +kernel
theorem dX12_adds_13 : decode cX12_adds 13 = .ok (.ifCond .lt 33, 3) := by decide +kernel
theorem dX12_adds_16 : decode cX12_adds 16 = .ok (.aload_n 0, 1) := by decide +kernel
theorem dX12_adds_17 : decode cX12_adds 17 = .ok (.getfield 105, 3) := by decide +kernel
theorem dX12_adds_20 : decode cX12_adds 20 = .ok (.iload_n 2, 1) := by decide +kernel
theorem dX12_adds_21 : decode cX12_adds 21 = .ok (.bipush 31, 2) := by decide +kernel
theorem dX12_adds_23 : decode cX12_adds 23 = .ok (.aload_n 0, 1) := by decide +kernel
theorem dX12_adds_24 : decode cX12_adds 24 = .ok (.getfield 105, 3) := by decide +kernel
theorem dX12_adds_27 : decode cX12_adds 27 = .ok (.iload_n 2, 1) := by decide +kernel
theorem dX12_adds_28 : decode cX12_adds 28 = .ok (.iaload, 1) := by decide +kernel
theorem dX12_adds_29 : decode cX12_adds 29 = .ok (.imul, 1) := by decide +kernel
theorem dX12_adds_30 : decode cX12_adds 30 = .ok (.iload_n 1, 1) := by decide +kernel
theorem dX12_adds_31 : decode cX12_adds 31 = .ok (.iadd, 1) := by decide +kernel
theorem dX12_adds_32 : decode cX12_adds 32 = .ok (.iastore, 1) := by decide +kernel
theorem dX12_adds_33 : decode cX12_adds 33 = .ok (.aload_n 0, 1) := by decide +kernel
theorem dX12_adds_34 : decode cX12_adds 34 = .ok (.getfield 99, 3) := by decide +kernel
theorem dX12_adds_37 : decode cX12_adds 37 = .ok (.iload_n 2, 1) := by decide +kernel
theorem dX12_adds_38 : decode cX12_adds 38 = .ok (.dup2, 1) := by decide +kernel
theorem dX12_adds_39 : decode cX12_adds 39 = .ok (.iaload, 1) := by decide +kernel
theorem dX12_adds_40 : decode cX12_adds 40 = .ok (.iconst 1, 1) := by decide +kernel
theorem dX12_adds_41 : decode cX12_adds 41 = .ok (.iadd, 1) := by decide +kernel
theorem dX12_adds_42 : decode cX12_adds 42 = .ok (.iastore, 1) := by decide +kernel
theorem dX12_adds_43 : decode cX12_adds 43 = .ok (.goto 30, 3) := by decide +kernel
theorem dX12_adds_46 : decode cX12_adds 46 = .ok (.aload_n 0, 1) := by decide +kernel
theorem dX12_adds_47 : decode cX12_adds 47 = .ok (.getfield 102, 3) := by decide +kernel
theorem dX12_adds_50 : decode cX12_adds 50 = .ok (.iload_n 2, 1) := by decide +kernel
theorem dX12_adds_51 : decode cX12_adds 51 = .ok (.bipush 31, 2) := by decide +kernel
theorem dX12_adds_53 : decode cX12_adds 53 = .ok (.aload_n 0, 1) := by decide +kernel
theorem dX12_adds_54 : decode cX12_adds 54 = .ok (.getfield 102, 3) := by decide +kernel
theorem dX12_adds_57 : decode cX12_adds 57 = .ok (.iload_n 2, 1) := by decide +kernel
theorem dX12_adds_58 : decode cX12_adds 58 = .ok (.iaload, 1) := by decide +kernel
theorem dX12_adds_59 : decode cX12_adds 59 = .ok (.imul, 1) := by decide +kernel
theorem dX12_adds_60 : decode cX12_adds 60 = .ok (.iload_n 1, 1) := by decide +kernel
theorem dX12_adds_61 : decode cX12_adds 61 = .ok (.iadd, 1) := by decide +kernel
theorem dX12_adds_62 : decode cX12_adds 62 = .ok (.iastore, 1) := by decide +kernel
theorem dX12_adds_63 : decode cX12_adds 63 = .ok (.aload_n 0, 1) := by decide +kernel
theorem dX12_adds_64 : decode cX12_adds 64 = .ok (.getfield 96, 3) := by decide +kernel
theorem dX12_adds_67 : decode cX12_adds 67 = .ok (.iload_n 2, 1) := by decide +kernel
theorem dX12_adds_68 : decode cX12_adds 68 = .ok (.dup2, 1) := by decide +kernel
theorem dX12_adds_69 : decode cX12_adds 69 = .ok (.iaload, 1) := by decide +kernel
theorem dX12_adds_70 : decode cX12_adds 70 = .ok (.iconst 1, 1) := by decide +kernel
theorem dX12_adds_71 : decode cX12_adds 71 = .ok (.iadd, 1) := by decide +kernel
theorem dX12_adds_72 : decode cX12_adds 72 = .ok (.iastore, 1) := by decide +kernel
theorem dX12_adds_73 : decode cX12_adds 73 = .ok (.return_, 1) := by decide +kernel
def F_X12_adds (d : Nat) (v0 : Option Nm) (v1 : Int32) (h : MH) (u : Nat) (Q : MH → Prop) : Prop :=
  gI h v0 11 35 fun x1 =>
  gR h v0 11 39 fun x2 =>
  aI .int h x2 (x1 - 1) fun x3 =>
  if x3 < 0 then
    gR h v0 11 40 fun x4 =>
    gR h v0 11 40 fun x5 =>
    aI .int h x5 (x1 - 1) fun x6 =>
    sV .int h x4 (x1 - 1) (jI ((31 * x6) + v1)) fun h =>
    gR h v0 11 38 fun x7 =>
    aI .int h x7 (x1 - 1) fun x8 =>
    sV .int h x7 (x1 - 1) (jI (x8 + 1)) fun h =>
    Q h
  else
    gR h v0 11 41 fun x9 =>
    gR h v0 11 41 fun x10 =>
    aI .int h x10 (x1 - 1) fun x11 =>
    sV .int h x9 (x1 - 1) (jI ((31 * x11) + v1)) fun h =>
    gR h v0 11 39 fun x12 =>
    aI .int h x12 (x1 - 1) fun x13 =>
    sV .int h x12 (x1 - 1) (jI (x13 + 1)) fun h =>
    Q h
set_option maxRecDepth 20000 in
theorem E_X12_adds {d : Nat} {v0 : Option Nm} {v1 : Int32} {h : MH} {u : Nat} {Q : MH → Prop} (H : F_X12_adds d v0 v1 h u Q) : T u_X12_adds d 0 [some (jR v0), some (jI v1), none] [] h u (qV Q) := by
  unfold F_X12_adds at H
  refine T_aload_n (pc := 0) dX12_adds_0 rfl rfl ?_
  refine T_gI (pc := 1) fa_X12_271 dX12_adds_1 (gI_mono (fun x1 H => ?_) H)
  refine T_iconst (pc := 4) (v := 1) dX12_adds_4 (by decide) ?_
  refine T_isub (pc := 5) dX12_adds_5 ?_
  refine T_istore_n (pc := 6) (ls2 := [some (jR v0), some (jI v1), some (jI (x1 - 1))]) dX12_adds_6 rfl (Nat.le_of_ble_eq_true rfl) rfl ?_
  refine T_aload_n (pc := 7) dX12_adds_7 rfl rfl ?_
  refine T_gR (pc := 8) fa_X12_99 dX12_adds_8 (gR_mono (fun x2 H => ?_) H)
  refine T_iload_n (pc := 11) dX12_adds_11 rfl rfl ?_
  refine T_aI (pc := 12) dX12_adds_12 (aI_mono (fun x3 H => ?_) H)
  refine T_if_lt (pc := 13) (tgt := 46) dX12_adds_13 (by decide) (fun hc => ?_) (fun hc => ?_)
  · rw [if_pos hc] at H
    refine T_aload_n (pc := 46) dX12_adds_46 rfl rfl ?_
    refine T_gR (pc := 47) fa_X12_102 dX12_adds_47 (gR_mono (fun x4 H => ?_) H)
    refine T_iload_n (pc := 50) dX12_adds_50 rfl rfl ?_
    refine T_bipush (pc := 51) (v := 31) dX12_adds_51 (by decide) ?_
    refine T_aload_n (pc := 53) dX12_adds_53 rfl rfl ?_
    refine T_gR (pc := 54) fa_X12_102 dX12_adds_54 (gR_mono (fun x5 H => ?_) H)
    refine T_iload_n (pc := 57) dX12_adds_57 rfl rfl ?_
    refine T_aI (pc := 58) dX12_adds_58 (aI_mono (fun x6 H => ?_) H)
    refine T_imul (pc := 59) dX12_adds_59 ?_
    refine T_iload_n (pc := 60) dX12_adds_60 rfl rfl ?_
    refine T_iadd (pc := 61) dX12_adds_61 ?_
    refine T_sI (pc := 62) dX12_adds_62 (sV_mono (fun h H => ?_) H)
    refine T_aload_n (pc := 63) dX12_adds_63 rfl rfl ?_
    refine T_gR (pc := 64) fa_X12_96 dX12_adds_64 (gR_mono (fun x7 H => ?_) H)
    refine T_iload_n (pc := 67) dX12_adds_67 rfl rfl ?_
    refine T_dup2 (pc := 68) rfl rfl dX12_adds_68 ?_
    refine T_aI (pc := 69) dX12_adds_69 (aI_mono (fun x8 H => ?_) H)
    refine T_iconst (pc := 70) (v := 1) dX12_adds_70 (by decide) ?_
    refine T_iadd (pc := 71) dX12_adds_71 ?_
    refine T_sI (pc := 72) dX12_adds_72 (sV_mono (fun h H => ?_) H)
    exact T_return (pc := 73) rfl dX12_adds_73 H
  · rw [if_neg hc] at H
    refine T_aload_n (pc := 16) dX12_adds_16 rfl rfl ?_
    refine T_gR (pc := 17) fa_X12_105 dX12_adds_17 (gR_mono (fun x9 H => ?_) H)
    refine T_iload_n (pc := 20) dX12_adds_20 rfl rfl ?_
    refine T_bipush (pc := 21) (v := 31) dX12_adds_21 (by decide) ?_
    refine T_aload_n (pc := 23) dX12_adds_23 rfl rfl ?_
    refine T_gR (pc := 24) fa_X12_105 dX12_adds_24 (gR_mono (fun x10 H => ?_) H)
    refine T_iload_n (pc := 27) dX12_adds_27 rfl rfl ?_
    refine T_aI (pc := 28) dX12_adds_28 (aI_mono (fun x11 H => ?_) H)
    refine T_imul (pc := 29) dX12_adds_29 ?_
    refine T_iload_n (pc := 30) dX12_adds_30 rfl rfl ?_
    refine T_iadd (pc := 31) dX12_adds_31 ?_
    refine T_sI (pc := 32) dX12_adds_32 (sV_mono (fun h H => ?_) H)
    refine T_aload_n (pc := 33) dX12_adds_33 rfl rfl ?_
    refine T_gR (pc := 34) fa_X12_99 dX12_adds_34 (gR_mono (fun x12 H => ?_) H)
    refine T_iload_n (pc := 37) dX12_adds_37 rfl rfl ?_
    refine T_dup2 (pc := 38) rfl rfl dX12_adds_38 ?_
    refine T_aI (pc := 39) dX12_adds_39 (aI_mono (fun x13 H => ?_) H)
    refine T_iconst (pc := 40) (v := 1) dX12_adds_40 (by decide) ?_
    refine T_iadd (pc := 41) dX12_adds_41 ?_
    refine T_sI (pc := 42) dX12_adds_42 (sV_mono (fun h H => ?_) H)
    refine T_goto (pc := 43) (tgt := 73) dX12_adds_43 (by decide) ?_
    exact T_return (pc := 73) rfl dX12_adds_73 H
theorem I_X12_adds {d : Nat} {v0 : Option Nm} {v1 : Int32} {h : MH} {u : Nat} {K : MH → Nat → Prop} (u1 : Nat) (hu : u1 ≤ u) (H : F_X12_adds d v0 v1 h u1 (fun h2 => K h2 (u - u1))) : iV d u_X12_adds [jR v0, jI v1] h u K := inv.of u1 hu (Ct.of (by decide +kernel) rfl (Nat.le_of_ble_eq_true rfl) rfl (E_X12_adds H))
theorem J_X12_adds {d : Nat} {v0 : Option Nm} {v1 : Int32} {h : MH} {u : Nat} {K : MH → Prop} (H : F_X12_adds d v0 v1 h 0 K) : iV d u_X12_adds [jR v0, jI v1] h u (fun h2 u2 => K h2 ∧ u2 = u) := jiV (by decide +kernel) rfl (Nat.le_of_ble_eq_true rfl) rfl (E_X12_adds H)
theorem dX12_constantHash_0 : decode cX12_constantHash 0 = .ok (.bipush 7, 2) := by decide +kernel
theorem dX12_constantHash_2 : decode cX12_constantHash 2 = .ok (.aload_n 0, 1) := by decide +kernel
theorem dX12_constantHash_3 : decode cX12_constantHash 3 = .ok (.getfield 66, 3) := by decide +kernel
theorem dX12_constantHash_6 : decode cX12_constantHash 6 = .ok (.iload_n 1, 1) := by decide +kernel
theorem dX12_constantHash_7 : decode cX12_constantHash 7 = .ok (.iaload, 1) := by decide +kernel
theorem dX12_constantHash_8 : decode cX12_constantHash 8 = .ok (.imul, 1) := by decide +kernel
theorem dX12_constantHash_9 : decode cX12_constantHash 9 = .ok (.aload_n 0, 1) := by decide +kernel
theorem dX12_constantHash_10 : decode cX12_constantHash 10 = .ok (.getfield 72, 3) := by decide +kernel
theorem dX12_constantHash_13 : decode cX12_constantHash 13 = .ok (.iload_n 1, 1) := by decide +kernel
theorem dX12_constantHash_14 : decode cX12_constantHash 14 = .ok (.iaload, 1) := by decide +kernel
theorem dX12_constantHash_15 : decode cX12_constantHash 15 = .ok (.iadd, 1) := by decide +kernel
theorem dX12_constantHash_16 : decode cX12_constantHash 16 = .ok (.ireturn, 1) := by decide +kernel
def F_X12_constantHash (d : Nat) (v0 : Option Nm) (v1 : Int32) (h : MH) (u : Nat) (Q : Int32 → MH → Prop) : Prop :=
  gR h v0 11 25 fun x1 =>
  aI .int h x1 v1 fun x2 =>
  gR h v0 11 27 fun x3 =>
  aI .int h x3 v1 fun x4 =>
  Q ((7 * x2) + x4) h
set_option maxRecDepth 20000 in
theorem E_X12_constantHash {d : Nat} {v0 : Option Nm} {v1 : Int32} {h : MH} {u : Nat} {Q : Int32 → MH → Prop} (H : F_X12_constantHash d v0 v1 h u Q) : T u_X12_constantHash d 0 [some (jR v0), some (jI v1)] [] h u (qI Q) := by
  unfold F_X12_constantHash at H
  refine T_bipush (pc := 0) (v := 7) dX12_constantHash_0 (by decide) ?_
  refine T_aload_n (pc := 2) dX12_constantHash_2 rfl rfl ?_
  refine T_gR (pc := 3) fa_X12_66 dX12_constantHash_3 (gR_mono (fun x1 H => ?_) H)
  refine T_iload_n (pc := 6) dX12_constantHash_6 rfl rfl ?_
  refine T_aI (pc := 7) dX12_constantHash_7 (aI_mono (fun x2 H => ?_) H)
  refine T_imul (pc := 8) dX12_constantHash_8 ?_
  refine T_aload_n (pc := 9) dX12_constantHash_9 rfl rfl ?_
  refine T_gR (pc := 10) fa_X12_72 dX12_constantHash_10 (gR_mono (fun x3 H => ?_) H)
  refine T_iload_n (pc := 13) dX12_constantHash_13 rfl rfl ?_
  refine T_aI (pc := 14) dX12_constantHash_14 (aI_mono (fun x4 H => ?_) H)
  refine T_iadd (pc := 15) dX12_constantHash_15 ?_
  exact T_ireturn (pc := 16) rfl rfl dX12_constantHash_16 H
theorem I_X12_constantHash {d : Nat} {v0 : Option Nm} {v1 : Int32} {h : MH} {u : Nat} {K : Int32 → MH → Nat → Prop} (u1 : Nat) (hu : u1 ≤ u) (H : F_X12_constantHash d v0 v1 h u1 (fun x h2 => K x h2 (u - u1))) : iI d u_X12_constantHash [jR v0, jI v1] h u K := inv.of u1 hu (Ct.of (by decide +kernel) rfl (Nat.le_of_ble_eq_true rfl) rfl (E_X12_constantHash H))
theorem J_X12_constantHash {d : Nat} {v0 : Option Nm} {v1 : Int32} {h : MH} {u : Nat} {K : Int32 → MH → Prop} (H : F_X12_constantHash d v0 v1 h 0 K) : iI d u_X12_constantHash [jR v0, jI v1] h u (fun x h2 u2 => K x h2 ∧ u2 = u) := jiI (by decide +kernel) rfl (Nat.le_of_ble_eq_true rfl) rfl (E_X12_constantHash H)
theorem dX12_push_0 : decode cX12_push 0 = .ok (.aload_n 0, 1) := by decide +kernel
theorem dX12_push_1 : decode cX12_push 1 = .ok (.getfield 90, 3) := by decide +kernel
theorem dX12_push_4 : decode cX12_push 4 = .ok (.aload_n 0, 1) := by decide +kernel
theorem dX12_push_5 : decode cX12_push 5 = .ok (.getfield 271, 3) := by decide +kernel
theorem dX12_push_8 : decode cX12_push 8 = .ok (.iload_n 1, 1) := by decide +kernel
theorem dX12_push_9 : decode cX12_push 9 = .ok (.iastore, 1) := by decide +kernel
theorem dX12_push_10 : decode cX12_push 10 = .ok (.aload_n 0, 1) := by decide +kernel
theorem dX12_push_11 : decode cX12_push 11 = .ok (.getfield 93, 3) := by decide +kernel
theorem dX12_push_14 : decode cX12_push 14 = .ok (.aload_n 0, 1) := by decide +kernel
theorem dX12_push_15 : decode cX12_push 15 = .ok (.getfield 271, 3) := by decide +kernel
theorem dX12_push_18 : decode cX12_push 18 = .ok (.iload_n 2, 1) := by decide +kernel
theorem dX12_push_19 : decode cX12_push 19 = .ok (.iastore, 1) := by decide +kernel
theorem dX12_push_20 : decode cX12_push 20 = .ok (.aload_n 0, 1) := by decide +kernel
theorem dX12_push_21 : decode cX12_push 21 = .ok (.getfield 96, 3) := by decide +kernel
theorem dX12_push_24 : decode cX12_push 24 = .ok (.aload_n 0, 1) := by decide +kernel
theorem dX12_push_25 : decode cX12_push 25 = .ok (.getfield 271, 3) := by decide +kernel
theorem dX12_push_28 : decode cX12_push 28 = .ok (.iconst 0, 1) := by decide +kernel
theorem dX12_push_29 : decode cX12_push 29 = .ok (.iastore, 1) := by decide +kernel
theorem dX12_push_30 : decode cX12_push 30 = .ok (.aload_n 0, 1) := by decide +kernel
theorem dX12_push_31 : decode cX12_push 31 = .ok (.getfield 99, 3) := by decide +kernel
theorem dX12_push_34 : decode cX12_push 34 = .ok (.aload_n 0, 1) := by decide +kernel
theorem dX12_push_35 : decode cX12_push 35 = .ok (.getfield 271, 3) := by decide +kernel
theorem dX12_push_38 : decode cX12_push 38 = .ok (.iconst (-1), 1) := by decide +kernel
theorem dX12_push_39 : decode cX12_push 39 = .ok (.iastore, 1) := by decide +kernel
theorem dX12_push_40 : decode cX12_push 40 = .ok (.aload_n 0, 1) := by decide +kernel
theorem dX12_push_41 : decode cX12_push 41 = .ok (.getfield 102, 3) := by decide +kernel
theorem dX12_push_44 : decode cX12_push 44 = .ok (.aload_n 0, 1) := by decide +kernel
theorem dX12_push_45 : decode cX12_push 45 = .ok (.getfield 271, 3) := by decide +kernel
theorem dX12_push_48 : decode cX12_push 48 = .ok (.aload_n 0, 1) := by decide +kernel
theorem dX12_push_49 : decode cX12_push 49 = .ok (.getfield 66, 3) := by decide +kernel
theorem dX12_push_52 : decode cX12_push 52 = .ok (.iload_n 1, 1) := by decide +kernel
theorem dX12_push_53 : decode cX12_push 53 = .ok (.iaload, 1) := by decide +kernel
theorem dX12_push_54 : decode cX12_push 54 = .ok (.iastore, 1) := by decide +kernel
theorem dX12_push_55 : decode cX12_push 55 = .ok (.aload_n 0, 1) := by decide +kernel
theorem dX12_push_56 : decode cX12_push 56 = .ok (.getfield 105, 3) := by decide +kernel
theorem dX12_push_59 : decode cX12_push 59 = .ok (.aload_n 0, 1) := by decide +kernel
theorem dX12_push_60 : decode cX12_push 60 = .ok (.getfield 271, 3) := by decide +kernel
theorem dX12_push_63 : decode cX12_push 63 = .ok (.iconst 1, 1) := by decide +kernel
theorem dX12_push_64 : decode cX12_push 64 = .ok (.iastore, 1) := by decide +kernel
theorem dX12_push_65 : decode cX12_push 65 = .ok (.aload_n 0, 1) := by decide +kernel
theorem dX12_push_66 : decode cX12_push 66 = .ok (.dup, 1) := by decide +kernel
theorem dX12_push_67 : decode cX12_push 67 = .ok (.getfield 271, 3) := by decide +kernel
theorem dX12_push_70 : decode cX12_push 70 = .ok (.iconst 1, 1) := by decide +kernel
theorem dX12_push_71 : decode cX12_push 71 = .ok (.iadd, 1) := by decide +kernel
theorem dX12_push_72 : decode cX12_push 72 = .ok (.putfield 271, 3) := by decide +kernel
theorem dX12_push_75 : decode cX12_push 75 = .ok (.return_, 1) := by decide +kernel
def F_X12_push (d : Nat) (v0 : Option Nm) (v1 : Int32) (v2 : Int32) (h : MH) (u : Nat) (Q : MH → Prop) : Prop :=
  gR h v0 11 36 fun x1 =>
  gI h v0 11 35 fun x2 =>
  sV .int h x1 x2 (jI v1) fun h =>
  gR h v0 11 37 fun x3 =>
  gI h v0 11 35 fun x4 =>
  sV .int h x3 x4 (jI v2) fun h =>
  gR h v0 11 38 fun x5 =>
  gI h v0 11 35 fun x6 =>
  sV .int h x5 x6 (jI 0) fun h =>
  gR h v0 11 39 fun x7 =>
  gI h v0 11 35 fun x8 =>
  sV .int h x7 x8 (jI (-1)) fun h =>
  gR h v0 11 40 fun x9 =>
  gI h v0 11 35 fun x10 =>
  gR h v0 11 25 fun x11 =>
  aI .int h x11 v1 fun x12 =>
  sV .int h x9 x10 (jI x12) fun h =>
  gR h v0 11 41 fun x13 =>
  gI h v0 11 35 fun x14 =>
  sV .int h x13 x14 (jI 1) fun h =>
  gI h v0 11 35 fun x15 =>
  pV h v0 11 35 (jI (x15 + 1)) fun h =>
  Q h
set_option maxRecDepth 20000 in
theorem E_X12_push {d : Nat} {v0 : Option Nm} {v1 : Int32} {v2 : Int32} {h : MH} {u : Nat} {Q : MH → Prop} (H : F_X12_push d v0 v1 v2 h u Q) : T u_X12_push d 0 [some (jR v0), some (jI v1), some (jI v2)] [] h u (qV Q) := by
  unfold F_X12_push at H
  refine T_aload_n (pc := 0) dX12_push_0 rfl rfl ?_
  refine T_gR (pc := 1) fa_X12_90 dX12_push_1 (gR_mono (fun x1 H => ?_) H)
  refine T_aload_n (pc := 4) dX12_push_4 rfl rfl ?_
  refine T_gI (pc := 5) fa_X12_271 dX12_push_5 (gI_mono (fun x2 H => ?_) H)
  refine T_iload_n (pc := 8) dX12_push_8 rfl rfl ?_
  refine T_sI (pc := 9) dX12_push_9 (sV_mono (fun h H => ?_) H)
  refine T_aload_n (pc := 10) dX12_push_10 rfl rfl ?_
  refine T_gR (pc := 11) fa_X12_93 dX12_push_11 (gR_mono (fun x3 H => ?_) H)
  refine T_aload_n (pc := 14) dX12_push_14 rfl rfl ?_
  refine T_gI (pc := 15) fa_X12_271 dX12_push_15 (gI_mono (fun x4 H => ?_) H)
  refine T_iload_n (pc := 18) dX12_push_18 rfl rfl ?_
  refine T_sI (pc := 19) dX12_push_19 (sV_mono (fun h H => ?_) H)
  refine T_aload_n (pc := 20) dX12_push_20 rfl rfl ?_
  refine T_gR (pc := 21) fa_X12_96 dX12_push_21 (gR_mono (fun x5 H => ?_) H)
  refine T_aload_n (pc := 24) dX12_push_24 rfl rfl ?_
  refine T_gI (pc := 25) fa_X12_271 dX12_push_25 (gI_mono (fun x6 H => ?_) H)
  refine T_iconst (pc := 28) (v := 0) dX12_push_28 (by decide) ?_
  refine T_sI (pc := 29) dX12_push_29 (sV_mono (fun h H => ?_) H)
  refine T_aload_n (pc := 30) dX12_push_30 rfl rfl ?_
  refine T_gR (pc := 31) fa_X12_99 dX12_push_31 (gR_mono (fun x7 H => ?_) H)
  refine T_aload_n (pc := 34) dX12_push_34 rfl rfl ?_
  refine T_gI (pc := 35) fa_X12_271 dX12_push_35 (gI_mono (fun x8 H => ?_) H)
  refine T_iconst (pc := 38) (v := (-1)) dX12_push_38 (by decide) ?_
  refine T_sI (pc := 39) dX12_push_39 (sV_mono (fun h H => ?_) H)
  refine T_aload_n (pc := 40) dX12_push_40 rfl rfl ?_
  refine T_gR (pc := 41) fa_X12_102 dX12_push_41 (gR_mono (fun x9 H => ?_) H)
  refine T_aload_n (pc := 44) dX12_push_44 rfl rfl ?_
  refine T_gI (pc := 45) fa_X12_271 dX12_push_45 (gI_mono (fun x10 H => ?_) H)
  refine T_aload_n (pc := 48) dX12_push_48 rfl rfl ?_
  refine T_gR (pc := 49) fa_X12_66 dX12_push_49 (gR_mono (fun x11 H => ?_) H)
  refine T_iload_n (pc := 52) dX12_push_52 rfl rfl ?_
  refine T_aI (pc := 53) dX12_push_53 (aI_mono (fun x12 H => ?_) H)
  refine T_sI (pc := 54) dX12_push_54 (sV_mono (fun h H => ?_) H)
  refine T_aload_n (pc := 55) dX12_push_55 rfl rfl ?_
  refine T_gR (pc := 56) fa_X12_105 dX12_push_56 (gR_mono (fun x13 H => ?_) H)
  refine T_aload_n (pc := 59) dX12_push_59 rfl rfl ?_
  refine T_gI (pc := 60) fa_X12_271 dX12_push_60 (gI_mono (fun x14 H => ?_) H)
  refine T_iconst (pc := 63) (v := 1) dX12_push_63 (by decide) ?_
  refine T_sI (pc := 64) dX12_push_64 (sV_mono (fun h H => ?_) H)
  refine T_aload_n (pc := 65) dX12_push_65 rfl rfl ?_
  refine T_dup (pc := 66) rfl dX12_push_66 ?_
  refine T_gI (pc := 67) fa_X12_271 dX12_push_67 (gI_mono (fun x15 H => ?_) H)
  refine T_iconst (pc := 70) (v := 1) dX12_push_70 (by decide) ?_
  refine T_iadd (pc := 71) dX12_push_71 ?_
  refine T_pV (pc := 72) fa_X12_271 dX12_push_72 trivial (pV_mono (fun h H => ?_) H)
  exact T_return (pc := 75) rfl dX12_push_75 H
theorem I_X12_push {d : Nat} {v0 : Option Nm} {v1 : Int32} {v2 : Int32} {h : MH} {u : Nat} {K : MH → Nat → Prop} (u1 : Nat) (hu : u1 ≤ u) (H : F_X12_push d v0 v1 v2 h u1 (fun h2 => K h2 (u - u1))) : iV d u_X12_push [jR v0, jI v1, jI v2] h u K := inv.of u1 hu (Ct.of (by decide +kernel) rfl (Nat.le_of_ble_eq_true rfl) rfl (E_X12_push H))
theorem J_X12_push {d : Nat} {v0 : Option Nm} {v1 : Int32} {v2 : Int32} {h : MH} {u : Nat} {K : MH → Prop} (H : F_X12_push d v0 v1 v2 h 0 K) : iV d u_X12_push [jR v0, jI v1, jI v2] h u (fun h2 u2 => K h2 ∧ u2 = u) := jiV (by decide +kernel) rfl (Nat.le_of_ble_eq_true rfl) rfl (E_X12_push H)
theorem dX12_addsThing_0 : decode cX12_addsThing 0 = .ok (.iload_n 1, 1) := by decide +kernel
theorem dX12_addsThing_1 : decode cX12_addsThing 1 = .ok (.ifCond .ge 11, 3) := by decide +kernel
theorem dX12_addsThing_4 : decode cX12_addsThing 4 = .ok (.aload_n 0, 1) := by decide +kernel
theorem dX12_addsThing_5 : decode cX12_addsThing 5 = .ok (.iconst 0, 1) := by decide +kernel
theorem dX12_addsThing_6 : decode cX12_addsThing 6 = .ok (.invokevirtual 302, 3) := by decide +kernel
theorem dX12_addsThing_9 : decode cX12_addsThing 9 = .ok (.goto 29, 3) := by decide +kernel
theorem dX12_addsThing_12 : decode cX12_addsThing 12 = .ok (.aload_n 0, 1) := by decide +kernel
theorem dX12_addsThing_13 : decode cX12_addsThing 13 = .ok (.iload_n 1, 1) := by decide +kernel
theorem dX12_addsThing_14 : decode cX12_addsThing 14 = .ok (.invokevirtual 261, 3) := by decide +kernel
theorem dX12_addsThing_17 : decode cX12_addsThing 17 = .ok (.ifCond .eq 15, 3) := by decide +kernel
theorem dX12_addsThing_20 : decode cX12_addsThing 20 = .ok (.aload_n 0, 1) := by decide +kernel
theorem dX12_addsThing_21 : decode cX12_addsThing 21 = .ok (.aload_n 0, 1) := by decide +kernel
theorem dX12_addsThing_22 : decode cX12_addsThing 22 = .ok (.iload_n 1, 1) := by decide +kernel
theorem dX12_addsThing_23 : decode cX12_addsThing 23 = .ok (.invokevirtual 305, 3) := by decide +kernel
theorem dX12_addsThing_26 : decode cX12_addsThing 26 = .ok (.invokevirtual 302, 3) := by decide +kernel
theorem dX12_addsThing_29 : decode cX12_addsThing 29 = .ok (.goto 9, 3) := by decide +kernel
theorem dX12_addsThing_32 : decode cX12_addsThing 32 = .ok (.aload_n 0, 1) := by decide +kernel
theorem dX12_addsThing_33 : decode cX12_addsThing 33 = .ok (.iload_n 1, 1) := by decide +kernel
theorem dX12_addsThing_34 : decode cX12_addsThing 34 = .ok (.iload_n 1, 1) := by decide +kernel
theorem dX12_addsThing_35 : decode cX12_addsThing 35 = .ok (.invokevirtual 277, 3) := by decide +kernel
theorem dX12_addsThing_38 : decode cX12_addsThing 38 = .ok (.return_, 1) := by decide +kernel
def F_X12_addsThing (d : Nat) (v0 : Option Nm) (v1 : Int32) (h : MH) (u : Nat) (Q : MH → Prop) : Prop :=
  if 0 ≤ v1 then
    rc h v0 11 ∧ F_X12_isConstant d v0 v1 h 0 fun x1 h =>
    if x1 = 0 then
      rc h v0 11 ∧ F_X12_push d v0 v1 v1 h 0 fun h =>
      Q h
    else
      rc h v0 11 ∧ F_X12_constantHash d v0 v1 h 0 fun x3 h =>
      rc h v0 11 ∧ F_X12_adds d v0 x3 h 0 fun h =>
      Q h
  else
    rc h v0 11 ∧ F_X12_adds d v0 0 h 0 fun h =>
    Q h
set_option maxRecDepth 20000 in
theorem E_X12_addsThing {d : Nat} {v0 : Option Nm} {v1 : Int32} {h : MH} {u : Nat} {Q : MH → Prop} (H : F_X12_addsThing d v0 v1 h u Q) : T u_X12_addsThing (d + 1) 0 [some (jR v0), some (jI v1)] [] h u (qV Q) := by
  unfold F_X12_addsThing at H
  refine T_iload_n (pc := 0) dX12_addsThing_0 rfl rfl ?_
  refine T_if_ge (pc := 1) (tgt := 12) dX12_addsThing_1 (by decide) (fun hc => ?_) (fun hc => ?_)
  · rw [if_pos hc] at H
    refine T_aload_n (pc := 12) dX12_addsThing_12 rfl rfl ?_
    refine T_iload_n (pc := 13) dX12_addsThing_13 rfl rfl ?_
    obtain ⟨H0, H⟩ := H
    refine T_iV (pc := 14) (ci := 11) (av := [jI v1]) (rest := []) (o := v0) dX12_addsThing_14 mf_X12_isConstant c_6_34 c_6_36 pr_X12_isConstant rfl rfl (Nat.le_of_ble_eq_true rfl) rfl H0 (iI_k (iI_m0 (fun x1 h H => ?_) (J_X12_isConstant (d := d) H)))
    refine T_if_eq (pc := 17) (tgt := 32) dX12_addsThing_17 (by decide) (fun hc => ?_) (fun hc => ?_)
    · rw [if_pos hc] at H
      refine T_aload_n (pc := 32) dX12_addsThing_32 rfl rfl ?_
      refine T_iload_n (pc := 33) dX12_addsThing_33 rfl rfl ?_
      refine T_iload_n (pc := 34) dX12_addsThing_34 rfl rfl ?_
      obtain ⟨H0, H⟩ := H
      refine T_iV (pc := 35) (ci := 11) (av := [jI v1, jI v1]) (rest := []) (o := v0) dX12_addsThing_35 mf_X12_push c_6_86 c_6_88 pr_X12_push rfl rfl (Nat.le_of_ble_eq_true rfl) rfl H0 (iV_k (iV_m0 (fun h H => ?_) (J_X12_push (d := d) H)))
      exact T_return (pc := 38) rfl dX12_addsThing_38 H
    · rw [if_neg hc] at H
      refine T_aload_n (pc := 20) dX12_addsThing_20 rfl rfl ?_
      refine T_aload_n (pc := 21) dX12_addsThing_21 rfl rfl ?_
      refine T_iload_n (pc := 22) dX12_addsThing_22 rfl rfl ?_
      obtain ⟨H0, H⟩ := H
      refine T_iV (pc := 23) (ci := 11) (av := [jI v1]) (rest := [jR v0]) (o := v0) dX12_addsThing_23 mf_X12_constantHash c_6_112 c_6_114 pr_X12_constantHash rfl rfl (Nat.le_of_ble_eq_true rfl) rfl H0 (iI_k (iI_m0 (fun x3 h H => ?_) (J_X12_constantHash (d := d) H)))
      obtain ⟨H0, H⟩ := H
      refine T_iV (pc := 26) (ci := 11) (av := [jI x3]) (rest := []) (o := v0) dX12_addsThing_26 mf_X12_adds c_6_123 c_6_125 pr_X12_adds rfl rfl (Nat.le_of_ble_eq_true rfl) rfl H0 (iV_k (iV_m0 (fun h H => ?_) (J_X12_adds (d := d) H)))
      refine T_goto (pc := 29) (tgt := 38) dX12_addsThing_29 (by decide) ?_
      exact T_return (pc := 38) rfl dX12_addsThing_38 H
  · rw [if_neg hc] at H
    refine T_aload_n (pc := 4) dX12_addsThing_4 rfl rfl ?_
    refine T_iconst (pc := 5) (v := 0) dX12_addsThing_5 (by decide) ?_
    obtain ⟨H0, H⟩ := H
    refine T_iV (pc := 6) (ci := 11) (av := [jI 0]) (rest := []) (o := v0) dX12_addsThing_6 mf_X12_adds c_6_123 c_6_125 pr_X12_adds rfl rfl (Nat.le_of_ble_eq_true rfl) rfl H0 (iV_k (iV_m0 (fun h H => ?_) (J_X12_adds (d := d) H)))
    refine T_goto (pc := 9) (tgt := 38) dX12_addsThing_9 (by decide) ?_
    exact T_return (pc := 38) rfl dX12_addsThing_38 H
theorem I_X12_addsThing {d : Nat} {v0 : Option Nm} {v1 : Int32} {h : MH} {u : Nat} {K : MH → Nat → Prop} (u1 : Nat) (hu : u1 ≤ u) (H : F_X12_addsThing d v0 v1 h u1 (fun h2 => K h2 (u - u1))) : iV (d + 1) u_X12_addsThing [jR v0, jI v1] h u K := inv.of u1 hu (Ct.of (by decide +kernel) rfl (Nat.le_of_ble_eq_true rfl) rfl (E_X12_addsThing H))
theorem J_X12_addsThing {d : Nat} {v0 : Option Nm} {v1 : Int32} {h : MH} {u : Nat} {K : MH → Prop} (H : F_X12_addsThing d v0 v1 h 0 K) : iV (d + 1) u_X12_addsThing [jR v0, jI v1] h u (fun h2 u2 => K h2 ∧ u2 = u) := jiV (by decide +kernel) rfl (Nat.le_of_ble_eq_true rfl) rfl (E_X12_addsThing H)
theorem dX12_fails_0 : decode cX12_fails 0 = .ok (.aload_n 0, 1) := by decide +kernel
theorem dX12_fails_1 : decode cX12_fails 1 = .ok (.iload_n 1, 1) := by decide +kernel
theorem dX12_fails_2 : decode cX12_fails 2 = .ok (.putfield 117, 3) := by decide +kernel
theorem dX12_fails_5 : decode cX12_fails 5 = .ok (.aload_n 0, 1) := by decide +kernel
theorem dX12_fails_6 : decode cX12_fails 6 = .ok (.dup, 1) := by decide +kernel
theorem dX12_fails_7 : decode cX12_fails 7 = .ok (.getfield 121, 3) := by decide +kernel
theorem dX12_fails_10 : decode cX12_fails 10 = .ok (.iconst 1, 1) := by decide +kernel
theorem dX12_fails_11 : decode cX12_fails 11 = .ok (.iadd, 1) := by decide +kernel
theorem dX12_fails_12 : decode cX12_fails 12 = .ok (.putfield 121, 3) := by decide +kernel
theorem dX12_fails_15 : decode cX12_fails 15 = .ok (.bipush (-10), 2) := by decide +kernel
theorem dX12_fails_17 : decode cX12_fails 17 = .ok (.iload_n 1, 1) := by decide +kernel
theorem dX12_fails_18 : decode cX12_fails 18 = .ok (.isub, 1) := by decide +kernel
theorem dX12_fails_19 : decode cX12_fails 19 = .ok (.ireturn, 1) := by decide +kernel
def F_X12_fails (d : Nat) (v0 : Option Nm) (v1 : Int32) (h : MH) (u : Nat) (Q : Int32 → MH → Prop) : Prop :=
  pV h v0 11 0 (jI v1) fun h =>
  gI h v0 11 1 fun x1 =>
  pV h v0 11 1 (jI (x1 + 1)) fun h =>
  Q ((-10) - v1) h
set_option maxRecDepth 20000 in
theorem E_X12_fails {d : Nat} {v0 : Option Nm} {v1 : Int32} {h : MH} {u : Nat} {Q : Int32 → MH → Prop} (H : F_X12_fails d v0 v1 h u Q) : T u_X12_fails d 0 [some (jR v0), some (jI v1)] [] h u (qI Q) := by
  unfold F_X12_fails at H
  refine T_aload_n (pc := 0) dX12_fails_0 rfl rfl ?_
  refine T_iload_n (pc := 1) dX12_fails_1 rfl rfl ?_
  refine T_pV (pc := 2) fa_X12_117 dX12_fails_2 trivial (pV_mono (fun h H => ?_) H)
  refine T_aload_n (pc := 5) dX12_fails_5 rfl rfl ?_
  refine T_dup (pc := 6) rfl dX12_fails_6 ?_
  refine T_gI (pc := 7) fa_X12_121 dX12_fails_7 (gI_mono (fun x1 H => ?_) H)
  refine T_iconst (pc := 10) (v := 1) dX12_fails_10 (by decide) ?_
  refine T_iadd (pc := 11) dX12_fails_11 ?_
  refine T_pV (pc := 12) fa_X12_121 dX12_fails_12 trivial (pV_mono (fun h H => ?_) H)
  refine T_bipush (pc := 15) (v := (-10)) dX12_fails_15 (by decide) ?_
  refine T_iload_n (pc := 17) dX12_fails_17 rfl rfl ?_
  refine T_isub (pc := 18) dX12_fails_18 ?_
  exact T_ireturn (pc := 19) rfl rfl dX12_fails_19 H
theorem I_X12_fails {d : Nat} {v0 : Option Nm} {v1 : Int32} {h : MH} {u : Nat} {K : Int32 → MH → Nat → Prop} (u1 : Nat) (hu : u1 ≤ u) (H : F_X12_fails d v0 v1 h u1 (fun x h2 => K x h2 (u - u1))) : iI d u_X12_fails [jR v0, jI v1] h u K := inv.of u1 hu (Ct.of (by decide +kernel) rfl (Nat.le_of_ble_eq_true rfl) rfl (E_X12_fails H))
theorem J_X12_fails {d : Nat} {v0 : Option Nm} {v1 : Int32} {h : MH} {u : Nat} {K : Int32 → MH → Prop} (H : F_X12_fails d v0 v1 h 0 K) : iI d u_X12_fails [jR v0, jI v1] h u (fun x h2 u2 => K x h2 ∧ u2 = u) := jiI (by decide +kernel) rfl (Nat.le_of_ble_eq_true rfl) rfl (E_X12_fails H)
theorem dX12_partsOf_0 : decode cX12_partsOf 0 = .ok (.aload_n 0, 1) := by decide +kernel
theorem dX12_partsOf_1 : decode cX12_partsOf 1 = .ok (.getfield 42, 3) := by decide +kernel
theorem dX12_partsOf_4 : decode cX12_partsOf 4 = .ok (.aload_n 0, 1) := by decide +kernel
theorem dX12_partsOf_5 : decode cX12_partsOf 5 = .ok (.iload_n 1, 1) := by decide +kernel
theorem dX12_partsOf_6 : decode cX12_partsOf 6 = .ok (.invokevirtual 231, 3) := by decide +kernel
theorem dX12_partsOf_9 : decode cX12_partsOf 9 = .ok (.iaload, 1) := by decide +kernel
theorem dX12_partsOf_10 : decode cX12_partsOf 10 = .ok (.ireturn, 1) := by decide +kernel
def F_X12_partsOf (d : Nat) (v0 : Option Nm) (v1 : Int32) (h : MH) (u : Nat) (Q : Int32 → MH → Prop) : Prop :=
  gR h v0 11 15 fun x1 =>
  rc h v0 11 ∧ F_X12_editionOf d v0 v1 h 0 fun x2 h =>
  aI .int h x1 x2 fun x3 =>
  Q x3 h
set_option maxRecDepth 20000 in
theorem E_X12_partsOf {d : Nat} {v0 : Option Nm} {v1 : Int32} {h : MH} {u : Nat} {Q : Int32 → MH → Prop} (H : F_X12_partsOf d v0 v1 h u Q) : T u_X12_partsOf (d + 1) 0 [some (jR v0), some (jI v1)] [] h u (qI Q) := by
  unfold F_X12_partsOf at H
  refine T_aload_n (pc := 0) dX12_partsOf_0 rfl rfl ?_
  refine T_gR (pc := 1) fa_X12_42 dX12_partsOf_1 (gR_mono (fun x1 H => ?_) H)
  refine T_aload_n (pc := 4) dX12_partsOf_4 rfl rfl ?_
  refine T_iload_n (pc := 5) dX12_partsOf_5 rfl rfl ?_
  obtain ⟨H0, H⟩ := H
  refine T_iV (pc := 6) (ci := 11) (av := [jI v1]) (rest := [jR x1]) (o := v0) dX12_partsOf_6 mf_X12_editionOf c_6_42 c_6_44 pr_X12_editionOf rfl rfl (Nat.le_of_ble_eq_true rfl) rfl H0 (iI_k (iI_m0 (fun x2 h H => ?_) (J_X12_editionOf (d := d) H)))
  refine T_aI (pc := 9) dX12_partsOf_9 (aI_mono (fun x3 H => ?_) H)
  exact T_ireturn (pc := 10) rfl rfl dX12_partsOf_10 H
theorem I_X12_partsOf {d : Nat} {v0 : Option Nm} {v1 : Int32} {h : MH} {u : Nat} {K : Int32 → MH → Nat → Prop} (u1 : Nat) (hu : u1 ≤ u) (H : F_X12_partsOf d v0 v1 h u1 (fun x h2 => K x h2 (u - u1))) : iI (d + 1) u_X12_partsOf [jR v0, jI v1] h u K := inv.of u1 hu (Ct.of (by decide +kernel) rfl (Nat.le_of_ble_eq_true rfl) rfl (E_X12_partsOf H))
theorem J_X12_partsOf {d : Nat} {v0 : Option Nm} {v1 : Int32} {h : MH} {u : Nat} {K : Int32 → MH → Prop} (H : F_X12_partsOf d v0 v1 h 0 K) : iI (d + 1) u_X12_partsOf [jR v0, jI v1] h u (fun x h2 u2 => K x h2 ∧ u2 = u) := jiI (by decide +kernel) rfl (Nat.le_of_ble_eq_true rfl) rfl (E_X12_partsOf H)
theorem dX12_newRow_0 : decode cX12_newRow 0 = .ok (.aload_n 0, 1) := by decide +kernel
theorem dX12_newRow_1 : decode cX12_newRow 1 = .ok (.getfield 7, 3) := by decide +kernel
theorem dX12_newRow_4 : decode cX12_newRow 4 = .ok (.aload_n 0, 1) := by decide +kernel
theorem dX12_newRow_5 : decode cX12_newRow 5 = .ok (.getfield 153, 3) := by decide +kernel
theorem dX12_newRow_8 : decode cX12_newRow 8 = .ok (.iload_n 1, 1) := by decide +kernel
theorem dX12_newRow_9 : decode cX12_newRow 9 = .ok (.iastore, 1) := by decide +kernel
theorem dX12_newRow_10 : decode cX12_newRow 10 = .ok (.aload_n 0, 1) := by decide +kernel
theorem dX12_newRow_11 : decode cX12_newRow 11 = .ok (.getfield 13, 3) := by decide +kernel
theorem dX12_newRow_14 : decode cX12_newRow 14 = .ok (.aload_n 0, 1) := by decide +kernel
theorem dX12_newRow_15 : decode cX12_newRow 15 = .ok (.getfield 153, 3) := by decide +kernel
theorem dX12_newRow_18 : decode cX12_newRow 18 = .ok (.iload_n 2, 1) := by decide +kernel
theorem dX12_newRow_19 : decode cX12_newRow 19 = .ok (.iastore, 1) := by decide +kernel
theorem dX12_newRow_20 : decode cX12_newRow 20 = .ok (.aload_n 0, 1) := by decide +kernel
theorem dX12_newRow_21 : decode cX12_newRow 21 = .ok (.getfield 16, 3) := by decide +kernel
theorem dX12_newRow_24 : decode cX12_newRow 24 = .ok (.aload_n 0, 1) := by decide +kernel
theorem dX12_newRow_25 : decode cX12_newRow 25 = .ok (.getfield 153, 3) := by decide +kernel
theorem dX12_newRow_28 : decode cX12_newRow 28 = .ok (.iconst 0, 1) := by decide +kernel
theorem dX12_newRow_29 : decode cX12_newRow 29 = .ok (.bastore, 1) := by decide +kernel
theorem dX12_newRow_30 : decode cX12_newRow 30 = .ok (.iconst 0, 1) := by decide +kernel
theorem dX12_newRow_31 : decode cX12_newRow 31 = .ok (.istore_n 3, 1) := by decide +kernel
theorem dX12_newRow_32 : decode cX12_newRow 32 = .ok (.iload_n 3, 1) := by decide +kernel
theorem dX12_newRow_33 : decode cX12_newRow 33 = .ok (.iload_n 2, 1) := by decide +kernel
theorem dX12_newRow_34 : decode cX12_newRow 34 = .ok (.if_icmp .ge 36, 3) := by decide +kernel
theorem dX12_newRow_37 : decode cX12_newRow 37 = .ok (.aload_n 0, 1) := by decide +kernel
theorem dX12_newRow_38 : decode cX12_newRow 38 = .ok (.getfield 20, 3) := by decide +kernel
theorem dX12_newRow_41 : decode cX12_newRow 41 = .ok (.bipush 20, 2) := by decide +kernel
theorem dX12_newRow_43 : decode cX12_newRow 43 = .ok (.aload_n 0, 1) := by decide +kernel
theorem dX12_newRow_44 : decode cX12_newRow 44 = .ok (.getfield 153, 3) := by decide +kernel
theorem dX12_newRow_47 : decode cX12_newRow 47 = .ok (.imul, 1) := by decide +kernel
theorem dX12_newRow_48 : decode cX12_newRow 48 = .ok (.iload_n 3, 1) := by decide +kernel
theorem dX12_newRow_49 : decode cX12_newRow 49 = .ok (.iadd, 1) := by decide +kernel
theorem dX12_newRow_50 : decode cX12_newRow 50 = .ok (.iload_n 1, 1) := by decide +kernel
theorem dX12_newRow_51 : decode cX12_newRow 51 = .ok (.bipush 8, 2) := by decide +kernel
theorem dX12_newRow_53 : decode cX12_newRow 53 = .ok (.if_icmp .ne 9, 3) := by decide +kernel
theorem dX12_newRow_56 : decode cX12_newRow 56 = .ok (.ldc2_w 160, 3) := by decide +kernel
theorem dX12_newRow_59 : decode cX12_newRow 59 = .ok (.goto 4, 3) := by decide +kernel
theorem dX12_newRow_62 : decode cX12_newRow 62 = .ok (.lconst 0, 1) := by decide +kernel
theorem dX12_newRow_63 : decode cX12_newRow 63 = .ok (.lastore, 1) := by decide +kernel
theorem dX12_newRow_64 : decode cX12_newRow 64 = .ok (.iinc 3 1, 3) := by decide +kernel
theorem dX12_newRow_67 : decode cX12_newRow 67 = .ok (.goto (-35), 3) := by decide +kernel
theorem dX12_newRow_70 : decode cX12_newRow 70 = .ok (.aload_n 0, 1) := by decide +kernel
theorem dX12_newRow_71 : decode cX12_newRow 71 = .ok (.dup, 1) := by decide +kernel
theorem dX12_newRow_72 : decode cX12_newRow 72 = .ok (.getfield 153, 3) := by decide +kernel
theorem dX12_newRow_75 : decode cX12_newRow 75 = .ok (.iconst 1, 1) := by decide +kernel
theorem dX12_newRow_76 : decode cX12_newRow 76 = .ok (.iadd, 1) := by decide +kernel
theorem dX12_newRow_77 : decode cX12_newRow 77 = .ok (.putfield 153, 3) := by decide +kernel
theorem dX12_newRow_80 : decode cX12_newRow 80 = .ok (.aload_n 0, 1) := by decide +kernel
theorem dX12_newRow_81 : decode cX12_newRow 81 = .ok (.getfield 153, 3) := by decide +kernel
theorem dX12_newRow_84 : decode cX12_newRow 84 = .ok (.iconst 1, 1) := by decide +kernel
theorem dX12_newRow_85 : decode cX12_newRow 85 = .ok (.isub, 1) := by decide +kernel
theorem dX12_newRow_86 : decode cX12_newRow 86 = .ok (.ireturn, 1) := by decide +kernel
def L_X12_newRow_32 (d : Nat) (v0 : Option Nm) (v1 : Int32) (v2 : Int32) (v3 : Int32) (h : MH) (u : Nat) (Q : Int32 → MH → Prop) : Prop := T u_X12_newRow d 32 [some (jR v0), some (jI v1), some (jI v2), some (jI v3)] [] h u (qI Q)
def F_X12_newRow (d : Nat) (v0 : Option Nm) (v1 : Int32) (v2 : Int32) (h : MH) (u : Nat) (Q : Int32 → MH → Prop) : Prop :=
  gR h v0 11 4 fun x1 =>
  gI h v0 11 3 fun x2 =>
  sV .int h x1 x2 (jI v1) fun h =>
  gR h v0 11 5 fun x3 =>
  gI h v0 11 3 fun x4 =>
  sV .int h x3 x4 (jI v2) fun h =>
  gR h v0 11 6 fun x5 =>
  gI h v0 11 3 fun x6 =>
  sV .boolean h x5 x6 (jI (vp_nar .boolean 0)) fun h =>
  L_X12_newRow_32 d v0 v1 v2 0 h u Q
set_option maxRecDepth 20000 in
theorem E_X12_newRow {d : Nat} {v0 : Option Nm} {v1 : Int32} {v2 : Int32} {h : MH} {u : Nat} {Q : Int32 → MH → Prop} (H : F_X12_newRow d v0 v1 v2 h u Q) : T u_X12_newRow d 0 [some (jR v0), some (jI v1), some (jI v2), none] [] h u (qI Q) := by
  unfold F_X12_newRow at H
  refine T_aload_n (pc := 0) dX12_newRow_0 rfl rfl ?_
  refine T_gR (pc := 1) fa_X12_7 dX12_newRow_1 (gR_mono (fun x1 H => ?_) H)
  refine T_aload_n (pc := 4) dX12_newRow_4 rfl rfl ?_
  refine T_gI (pc := 5) fa_X12_153 dX12_newRow_5 (gI_mono (fun x2 H => ?_) H)
  refine T_iload_n (pc := 8) dX12_newRow_8 rfl rfl ?_
  refine T_sI (pc := 9) dX12_newRow_9 (sV_mono (fun h H => ?_) H)
  refine T_aload_n (pc := 10) dX12_newRow_10 rfl rfl ?_
  refine T_gR (pc := 11) fa_X12_13 dX12_newRow_11 (gR_mono (fun x3 H => ?_) H)
  refine T_aload_n (pc := 14) dX12_newRow_14 rfl rfl ?_
  refine T_gI (pc := 15) fa_X12_153 dX12_newRow_15 (gI_mono (fun x4 H => ?_) H)
  refine T_iload_n (pc := 18) dX12_newRow_18 rfl rfl ?_
  refine T_sI (pc := 19) dX12_newRow_19 (sV_mono (fun h H => ?_) H)
  refine T_aload_n (pc := 20) dX12_newRow_20 rfl rfl ?_
  refine T_gR (pc := 21) fa_X12_16 dX12_newRow_21 (gR_mono (fun x5 H => ?_) H)
  refine T_aload_n (pc := 24) dX12_newRow_24 rfl rfl ?_
  refine T_gI (pc := 25) fa_X12_153 dX12_newRow_25 (gI_mono (fun x6 H => ?_) H)
  refine T_iconst (pc := 28) (v := 0) dX12_newRow_28 (by decide) ?_
  refine T_sZ (pc := 29) dX12_newRow_29 (sV_mono (fun h H => ?_) H)
  refine T_iconst (pc := 30) (v := 0) dX12_newRow_30 (by decide) ?_
  refine T_istore_n (pc := 31) (ls2 := [some (jR v0), some (jI v1), some (jI v2), some (jI 0)]) dX12_newRow_31 rfl (Nat.le_of_ble_eq_true rfl) rfl ?_
  exact T.forget H ⟨rfl, rfl, rfl, rfl, trivial⟩
def F_X12_newRow_32 (d : Nat) (v0 : Option Nm) (v1 : Int32) (v2 : Int32) (v3 : Int32) (h : MH) (u : Nat) (Q : Int32 → MH → Prop) : Prop :=
  if v2 ≤ v3 then
    gI h v0 11 3 fun x1 =>
    pV h v0 11 3 (jI (x1 + 1)) fun h =>
    gI h v0 11 3 fun x2 =>
    Q (x2 - 1) h
  else
    gR h v0 11 7 fun x3 =>
    gI h v0 11 3 fun x4 =>
    if v1 = 8 then
      sV .long h x3 ((20 * x4) + v3) (jL (-1)) fun h =>
      L_X12_newRow_32 d v0 v1 v2 (v3 + 1) h u Q
    else
      sV .long h x3 ((20 * x4) + v3) (jL 0) fun h =>
      L_X12_newRow_32 d v0 v1 v2 (v3 + 1) h u Q
set_option maxRecDepth 20000 in
theorem E_X12_newRow_32 {d : Nat} {v0 : Option Nm} {v1 : Int32} {v2 : Int32} {v3 : Int32} {h : MH} {u : Nat} {Q : Int32 → MH → Prop} (H : F_X12_newRow_32 d v0 v1 v2 v3 h u Q) : T u_X12_newRow d 32 [some (jR v0), some (jI v1), some (jI v2), some (jI v3)] [] h u (qI Q) := by
  unfold F_X12_newRow_32 at H
  refine T_iload_n (pc := 32) dX12_newRow_32 rfl rfl ?_
  refine T_iload_n (pc := 33) dX12_newRow_33 rfl rfl ?_
  refine T_icmp_ge (pc := 34) (tgt := 70) dX12_newRow_34 (by decide) (fun hc => ?_) (fun hc => ?_)
  · rw [if_pos hc] at H
    refine T_aload_n (pc := 70) dX12_newRow_70 rfl rfl ?_
    refine T_dup (pc := 71) rfl dX12_newRow_71 ?_
    refine T_gI (pc := 72) fa_X12_153 dX12_newRow_72 (gI_mono (fun x1 H => ?_) H)
    refine T_iconst (pc := 75) (v := 1) dX12_newRow_75 (by decide) ?_
    refine T_iadd (pc := 76) dX12_newRow_76 ?_
    refine T_pV (pc := 77) fa_X12_153 dX12_newRow_77 trivial (pV_mono (fun h H => ?_) H)
    refine T_aload_n (pc := 80) dX12_newRow_80 rfl rfl ?_
    refine T_gI (pc := 81) fa_X12_153 dX12_newRow_81 (gI_mono (fun x2 H => ?_) H)
    refine T_iconst (pc := 84) (v := 1) dX12_newRow_84 (by decide) ?_
    refine T_isub (pc := 85) dX12_newRow_85 ?_
    exact T_ireturn (pc := 86) rfl rfl dX12_newRow_86 H
  · rw [if_neg hc] at H
    refine T_aload_n (pc := 37) dX12_newRow_37 rfl rfl ?_
    refine T_gR (pc := 38) fa_X12_20 dX12_newRow_38 (gR_mono (fun x3 H => ?_) H)
    refine T_bipush (pc := 41) (v := 20) dX12_newRow_41 (by decide) ?_
    refine T_aload_n (pc := 43) dX12_newRow_43 rfl rfl ?_
    refine T_gI (pc := 44) fa_X12_153 dX12_newRow_44 (gI_mono (fun x4 H => ?_) H)
    refine T_imul (pc := 47) dX12_newRow_47 ?_
    refine T_iload_n (pc := 48) dX12_newRow_48 rfl rfl ?_
    refine T_iadd (pc := 49) dX12_newRow_49 ?_
    refine T_iload_n (pc := 50) dX12_newRow_50 rfl rfl ?_
    refine T_bipush (pc := 51) (v := 8) dX12_newRow_51 (by decide) ?_
    refine T_icmp_ne (pc := 53) (tgt := 62) dX12_newRow_53 (by decide) (fun hc => ?_) (fun hc => ?_)
    · rw [if_neg hc] at H
      refine T_lconst (pc := 62) (v := 0) dX12_newRow_62 (by decide) ?_
      refine T_sL (pc := 63) dX12_newRow_63 (sV_mono (fun h H => ?_) H)
      refine T_iinc (pc := 64) (v := v3 + 1) (ls2 := [some (jR v0), some (jI v1), some (jI v2), some (jI (v3 + 1))]) dX12_newRow_64 rfl rfl (Nat.le_of_ble_eq_true rfl) rfl ?_
      refine T_goto (pc := 67) (tgt := 32) dX12_newRow_67 (by decide) ?_
      exact T.forget H ⟨rfl, rfl, rfl, rfl, trivial⟩
    · rw [if_pos hc] at H
      refine T_ldc2 (pc := 56) (v := (-1)) dX12_newRow_56 c_5_97 ?_
      refine T_goto (pc := 59) (tgt := 63) dX12_newRow_59 (by decide) ?_
      refine T_sL (pc := 63) dX12_newRow_63 (sV_mono (fun h H => ?_) H)
      refine T_iinc (pc := 64) (v := v3 + 1) (ls2 := [some (jR v0), some (jI v1), some (jI v2), some (jI (v3 + 1))]) dX12_newRow_64 rfl rfl (Nat.le_of_ble_eq_true rfl) rfl ?_
      refine T_goto (pc := 67) (tgt := 32) dX12_newRow_67 (by decide) ?_
      exact T.forget H ⟨rfl, rfl, rfl, rfl, trivial⟩
theorem I_X12_newRow {d : Nat} {v0 : Option Nm} {v1 : Int32} {v2 : Int32} {h : MH} {u : Nat} {K : Int32 → MH → Nat → Prop} (u1 : Nat) (hu : u1 ≤ u) (H : F_X12_newRow d v0 v1 v2 h u1 (fun x h2 => K x h2 (u - u1))) : iI d u_X12_newRow [jR v0, jI v1, jI v2] h u K := inv.of u1 hu (Ct.of (by decide +kernel) rfl (Nat.le_of_ble_eq_true rfl) rfl (E_X12_newRow H))
theorem J_X12_newRow {d : Nat} {v0 : Option Nm} {v1 : Int32} {v2 : Int32} {h : MH} {u : Nat} {K : Int32 → MH → Prop} (H : F_X12_newRow d v0 v1 v2 h 0 K) : iI d u_X12_newRow [jR v0, jI v1, jI v2] h u (fun x h2 u2 => K x h2 ∧ u2 = u) := jiI (by decide +kernel) rfl (Nat.le_of_ble_eq_true rfl) rfl (E_X12_newRow H)
theorem dX12_twinOf_0 : decode cX12_twinOf 0 = .ok (.aload_n 0, 1) := by decide +kernel
theorem dX12_twinOf_1 : decode cX12_twinOf 1 = .ok (.aload_n 0, 1) := by decide +kernel
theorem dX12_twinOf_2 : decode cX12_twinOf 2 = .ok (.getfield 7, 3) := by decide +kernel
theorem dX12_twinOf_5 : decode cX12_twinOf 5 = .ok (.iload_n 1, 1) := by decide +kernel
theorem dX12_twinOf_6 : decode cX12_twinOf 6 = .ok (.iaload, 1) := by decide +kernel
theorem dX12_twinOf_7 : decode cX12_twinOf 7 = .ok (.aload_n 0, 1) := by decide +kernel
theorem dX12_twinOf_8 : decode cX12_twinOf 8 = .ok (.getfield 13, 3) := by decide +kernel
theorem dX12_twinOf_11 : decode cX12_twinOf 11 = .ok (.iload_n 1, 1) := by decide +kernel
theorem dX12_twinOf_12 : decode cX12_twinOf 12 = .ok (.iaload, 1) := by decide +kernel
theorem dX12_twinOf_13 : decode cX12_twinOf 13 = .ok (.invokevirtual 162, 3) := by decide +kernel
theorem dX12_twinOf_16 : decode cX12_twinOf 16 = .ok (.istore_n 2, 1) := by decide +kernel
theorem dX12_twinOf_17 : decode cX12_twinOf 17 = .ok (.iconst 0, 1) := by decide +kernel
theorem dX12_twinOf_18 : decode cX12_twinOf 18 = .ok (.istore_n 3, 1) := by decide +kernel
theorem dX12_twinOf_19 : decode cX12_twinOf 19 = .ok (.iload_n 3, 1) := by decide +kernel
theorem dX12_twinOf_20 : decode cX12_twinOf 20 = .ok (.aload_n 0, 1) := by decide +kernel
theorem dX12_twinOf_21 : decode cX12_twinOf 21 = .ok (.getfield 13, 3) := by decide +kernel
theorem dX12_twinOf_24 : decode cX12_twinOf 24 = .ok (.iload_n 1, 1) := by decide +kernel
theorem dX12_twinOf_25 : decode cX12_twinOf 25 = .ok (.iaload, 1) := by decide +kernel
theorem dX12_twinOf_26 : decode cX12_twinOf 26 = .ok (.if_icmp .ge 31, 3) := by decide +kernel
theorem dX12_twinOf_29 : decode cX12_twinOf 29 = .ok (.aload_n 0, 1) := by decide +kernel
theorem dX12_twinOf_30 : decode cX12_twinOf 30 = .ok (.getfield 20, 3) := by decide +kernel
theorem dX12_twinOf_33 : decode cX12_twinOf 33 = .ok (.bipush 20, 2) := by decide +kernel
theorem dX12_twinOf_35 : decode cX12_twinOf 35 = .ok (.iload_n 2, 1) := by decide +kernel
theorem dX12_twinOf_36 : decode cX12_twinOf 36 = .ok (.imul, 1) := by decide +kernel
theorem dX12_twinOf_37 : decode cX12_twinOf 37 = .ok (.iload_n 3, 1) := by decide +kernel
theorem dX12_twinOf_38 : decode cX12_twinOf 38 = .ok (.iadd, 1) := by decide +kernel
theorem dX12_twinOf_39 : decode cX12_twinOf 39 = .ok (.aload_n 0, 1) := by decide +kernel
theorem dX12_twinOf_40 : decode cX12_twinOf 40 = .ok (.getfield 20, 3) := by decide +kernel
theorem dX12_twinOf_43 : decode cX12_twinOf 43 = .ok (.bipush 20, 2) := by decide +kernel
theorem dX12_twinOf_45 : decode cX12_twinOf 45 = .ok (.iload_n 1, 1) := by decide +kernel
theorem dX12_twinOf_46 : decode cX12_twinOf 46 = .ok (.imul, 1) := by decide +kernel
theorem dX12_twinOf_47 : decode cX12_twinOf 47 = .ok (.iload_n 3, 1) := by decide +kernel
theorem dX12_twinOf_48 : decode cX12_twinOf 48 = .ok (.iadd, 1) := by decide +kernel
theorem dX12_twinOf_49 : decode cX12_twinOf 49 = .ok (.laload, 1) := by decide +kernel
theorem dX12_twinOf_50 : decode cX12_twinOf 50 = .ok (.lastore, 1) := by decide +kernel
theorem dX12_twinOf_51 : decode cX12_twinOf 51 = .ok (.iinc 3 1, 3) := by decide +kernel
theorem dX12_twinOf_54 : decode cX12_twinOf 54 = .ok (.goto (-35), 3) := by decide +kernel
theorem dX12_twinOf_57 : decode cX12_twinOf 57 = .ok (.iload_n 2, 1) := by decide +kernel
theorem dX12_twinOf_58 : decode cX12_twinOf 58 = .ok (.ireturn, 1) := by decide +kernel
def L_X12_twinOf_19 (d : Nat) (v0 : Option Nm) (v1 : Int32) (v2 : Int32) (v3 : Int32) (h : MH) (u : Nat) (Q : Int32 → MH → Prop) : Prop := T u_X12_twinOf (d + 1) 19 [some (jR v0), some (jI v1), some (jI v2), some (jI v3)] [] h u (qI Q)
def F_X12_twinOf (d : Nat) (v0 : Option Nm) (v1 : Int32) (h : MH) (u : Nat) (Q : Int32 → MH → Prop) : Prop :=
  gR h v0 11 4 fun x1 =>
  aI .int h x1 v1 fun x2 =>
  gR h v0 11 5 fun x3 =>
  aI .int h x3 v1 fun x4 =>
  rc h v0 11 ∧ F_X12_newRow d v0 x2 x4 h 0 fun x5 h =>
  L_X12_twinOf_19 d v0 v1 x5 0 h u Q
set_option maxRecDepth 20000 in
theorem E_X12_twinOf {d : Nat} {v0 : Option Nm} {v1 : Int32} {h : MH} {u : Nat} {Q : Int32 → MH → Prop} (H : F_X12_twinOf d v0 v1 h u Q) : T u_X12_twinOf (d + 1) 0 [some (jR v0), some (jI v1), none, none] [] h u (qI Q) := by
  unfold F_X12_twinOf at H
  refine T_aload_n (pc := 0) dX12_twinOf_0 rfl rfl ?_
  refine T_aload_n (pc := 1) dX12_twinOf_1 rfl rfl ?_
  refine T_gR (pc := 2) fa_X12_7 dX12_twinOf_2 (gR_mono (fun x1 H => ?_) H)
  refine T_iload_n (pc := 5) dX12_twinOf_5 rfl rfl ?_
  refine T_aI (pc := 6) dX12_twinOf_6 (aI_mono (fun x2 H => ?_) H)
  refine T_aload_n (pc := 7) dX12_twinOf_7 rfl rfl ?_
  refine T_gR (pc := 8) fa_X12_13 dX12_twinOf_8 (gR_mono (fun x3 H => ?_) H)
  refine T_iload_n (pc := 11) dX12_twinOf_11 rfl rfl ?_
  refine T_aI (pc := 12) dX12_twinOf_12 (aI_mono (fun x4 H => ?_) H)
  obtain ⟨H0, H⟩ := H
  refine T_iV (pc := 13) (ci := 11) (av := [jI x2, jI x4]) (rest := []) (o := v0) dX12_twinOf_13 mf_X12_newRow c_5_93 c_5_95 pr_X12_newRow rfl rfl (Nat.le_of_ble_eq_true rfl) rfl H0 (iI_k (iI_m0 (fun x5 h H => ?_) (J_X12_newRow (d := d) H)))
  refine T_istore_n (pc := 16) (ls2 := [some (jR v0), some (jI v1), some (jI x5), none]) dX12_twinOf_16 rfl (Nat.le_of_ble_eq_true rfl) rfl ?_
  refine T_iconst (pc := 17) (v := 0) dX12_twinOf_17 (by decide) ?_
  refine T_istore_n (pc := 18) (ls2 := [some (jR v0), some (jI v1), some (jI x5), some (jI 0)]) dX12_twinOf_18 rfl (Nat.le_of_ble_eq_true rfl) rfl ?_
  exact T.forget H ⟨rfl, rfl, rfl, rfl, trivial⟩
def F_X12_twinOf_19 (d : Nat) (v0 : Option Nm) (v1 : Int32) (v2 : Int32) (v3 : Int32) (h : MH) (u : Nat) (Q : Int32 → MH → Prop) : Prop :=
  gR h v0 11 5 fun x1 =>
  aI .int h x1 v1 fun x2 =>
  if x2 ≤ v3 then
    Q v2 h
  else
    gR h v0 11 7 fun x3 =>
    gR h v0 11 7 fun x4 =>
    aL h x4 ((20 * v1) + v3) fun x5 =>
    sV .long h x3 ((20 * v2) + v3) (jL x5) fun h =>
    L_X12_twinOf_19 d v0 v1 v2 (v3 + 1) h u Q
set_option maxRecDepth 20000 in
theorem E_X12_twinOf_19 {d : Nat} {v0 : Option Nm} {v1 : Int32} {v2 : Int32} {v3 : Int32} {h : MH} {u : Nat} {Q : Int32 → MH → Prop} (H : F_X12_twinOf_19 d v0 v1 v2 v3 h u Q) : T u_X12_twinOf (d + 1) 19 [some (jR v0), some (jI v1), some (jI v2), some (jI v3)] [] h u (qI Q) := by
  unfold F_X12_twinOf_19 at H
  refine T_iload_n (pc := 19) dX12_twinOf_19 rfl rfl ?_
  refine T_aload_n (pc := 20) dX12_twinOf_20 rfl rfl ?_
  refine T_gR (pc := 21) fa_X12_13 dX12_twinOf_21 (gR_mono (fun x1 H => ?_) H)
  refine T_iload_n (pc := 24) dX12_twinOf_24 rfl rfl ?_
  refine T_aI (pc := 25) dX12_twinOf_25 (aI_mono (fun x2 H => ?_) H)
  refine T_icmp_ge (pc := 26) (tgt := 57) dX12_twinOf_26 (by decide) (fun hc => ?_) (fun hc => ?_)
  · rw [if_pos hc] at H
    refine T_iload_n (pc := 57) dX12_twinOf_57 rfl rfl ?_
    exact T_ireturn (pc := 58) rfl rfl dX12_twinOf_58 H
  · rw [if_neg hc] at H
    refine T_aload_n (pc := 29) dX12_twinOf_29 rfl rfl ?_
    refine T_gR (pc := 30) fa_X12_20 dX12_twinOf_30 (gR_mono (fun x3 H => ?_) H)
    refine T_bipush (pc := 33) (v := 20) dX12_twinOf_33 (by decide) ?_
    refine T_iload_n (pc := 35) dX12_twinOf_35 rfl rfl ?_
    refine T_imul (pc := 36) dX12_twinOf_36 ?_
    refine T_iload_n (pc := 37) dX12_twinOf_37 rfl rfl ?_
    refine T_iadd (pc := 38) dX12_twinOf_38 ?_
    refine T_aload_n (pc := 39) dX12_twinOf_39 rfl rfl ?_
    refine T_gR (pc := 40) fa_X12_20 dX12_twinOf_40 (gR_mono (fun x4 H => ?_) H)
    refine T_bipush (pc := 43) (v := 20) dX12_twinOf_43 (by decide) ?_
    refine T_iload_n (pc := 45) dX12_twinOf_45 rfl rfl ?_
    refine T_imul (pc := 46) dX12_twinOf_46 ?_
    refine T_iload_n (pc := 47) dX12_twinOf_47 rfl rfl ?_
    refine T_iadd (pc := 48) dX12_twinOf_48 ?_
    refine T_aL (pc := 49) dX12_twinOf_49 (aL_mono (fun x5 H => ?_) H)
    refine T_sL (pc := 50) dX12_twinOf_50 (sV_mono (fun h H => ?_) H)
    refine T_iinc (pc := 51) (v := v3 + 1) (ls2 := [some (jR v0), some (jI v1), some (jI v2), some (jI (v3 + 1))]) dX12_twinOf_51 rfl rfl (Nat.le_of_ble_eq_true rfl) rfl ?_
    refine T_goto (pc := 54) (tgt := 19) dX12_twinOf_54 (by decide) ?_
    exact T.forget H ⟨rfl, rfl, rfl, rfl, trivial⟩
theorem I_X12_twinOf {d : Nat} {v0 : Option Nm} {v1 : Int32} {h : MH} {u : Nat} {K : Int32 → MH → Nat → Prop} (u1 : Nat) (hu : u1 ≤ u) (H : F_X12_twinOf d v0 v1 h u1 (fun x h2 => K x h2 (u - u1))) : iI (d + 1) u_X12_twinOf [jR v0, jI v1] h u K := inv.of u1 hu (Ct.of (by decide +kernel) rfl (Nat.le_of_ble_eq_true rfl) rfl (E_X12_twinOf H))
theorem J_X12_twinOf {d : Nat} {v0 : Option Nm} {v1 : Int32} {h : MH} {u : Nat} {K : Int32 → MH → Prop} (H : F_X12_twinOf d v0 v1 h 0 K) : iI (d + 1) u_X12_twinOf [jR v0, jI v1] h u (fun x h2 u2 => K x h2 ∧ u2 = u) := jiI (by decide +kernel) rfl (Nat.le_of_ble_eq_true rfl) rfl (E_X12_twinOf H)
theorem dX12_array_0 : decode cX12_array 0 = .ok (.aload_n 0, 1) := by decide +kernel
theorem dX12_array_1 : decode cX12_array 1 = .ok (.iload_n 1, 1) := by decide +kernel
theorem dX12_array_2 : decode cX12_array 2 = .ok (.invokevirtual 190, 3) := by decide +kernel
theorem dX12_array_5 : decode cX12_array 5 = .ok (.ifCond .ne 5, 3) := by decide +kernel
theorem dX12_array_8 : decode cX12_array 8 = .ok (.iconst (-1), 1) := by decide +kernel
theorem dX12_array_9 : decode cX12_array 9 = .ok (.ireturn, 1) := by decide +kernel
theorem dX12_array_10 : decode cX12_array 10 = .ok (.aload_n 0, 1) := by decide +kernel
theorem dX12_array_11 : decode cX12_array 11 = .ok (.iload_n 1, 1) := by decide +kernel
theorem dX12_array_12 : decode cX12_array 12 = .ok (.invokevirtual 261, 3) := by decide +kernel
theorem dX12_array_15 : decode cX12_array 15 = .ok (.ifCond .eq 6, 3) := by decide +kernel
theorem dX12_array_18 : decode cX12_array 18 = .ok (.bipush (-3), 2) := by decide +kernel
theorem dX12_array_20 : decode cX12_array 20 = .ok (.ireturn, 1) := by decide +kernel
theorem dX12_array_21 : decode cX12_array 21 = .ok (.iload_n 2, 1) := by decide +kernel
theorem dX12_array_22 : decode cX12_array 22 = .ok (.iconst 0, 1) := by decide +kernel
theorem dX12_array_23 : decode cX12_array 23 = .ok (.aload_n 0, 1) := by decide +kernel
theorem dX12_array_24 : decode cX12_array 24 = .ok (.iload_n 1, 1) := by decide +kernel
theorem dX12_array_25 : decode cX12_array 25 = .ok (.invokevirtual 264, 3) := by decide +kernel
theorem dX12_array_28 : decode cX12_array 28 = .ok (.iconst 1, 1) := by decide +kernel
theorem dX12_array_29 : decode cX12_array 29 = .ok (.isub, 1) := by decide +kernel
theorem dX12_array_30 : decode cX12_array 30 = .ok (.invokestatic 156, 3) := by decide +kernel
theorem dX12_array_33 : decode cX12_array 33 = .ok (.ifCond .ne 9, 3) := by decide +kernel
theorem dX12_array_36 : decode cX12_array 36 = .ok (.aload_n 0, 1) := by decide +kernel
theorem dX12_array_37 : decode cX12_array 37 = .ok (.iconst 2, 1) := by decide +kernel
theorem dX12_array_38 : decode cX12_array 38 = .ok (.invokevirtual 166, 3) := by decide +kernel
theorem dX12_array_41 : decode cX12_array 41 = .ok (.ireturn, 1) := by decide +kernel
theorem dX12_array_42 : decode cX12_array 42 = .ok (.aload_n 0, 1) := by decide +kernel
theorem dX12_array_43 : decode cX12_array 43 = .ok (.iload_n 1, 1) := by decide +kernel
theorem dX12_array_44 : decode cX12_array 44 = .ok (.iload_n 2, 1) := by decide +kernel
theorem dX12_array_45 : decode cX12_array 45 = .ok (.invokevirtual 256, 3) := by decide +kernel
theorem dX12_array_48 : decode cX12_array 48 = .ok (.bipush 9, 2) := by decide +kernel
theorem dX12_array_50 : decode cX12_array 50 = .ok (.if_icmp .eq 9, 3) := by decide +kernel
theorem dX12_array_53 : decode cX12_array 53 = .ok (.aload_n 0, 1) := by decide +kernel
theorem dX12_array_54 : decode cX12_array 54 = .ok (.iconst 3, 1) := by decide +kernel
theorem dX12_array_55 : decode cX12_array 55 = .ok (.invokevirtual 166, 3) := by decide +kernel
theorem dX12_array_58 : decode cX12_array 58 = .ok (.ireturn, 1) := by decide +kernel
theorem dX12_array_59 : decode cX12_array 59 = .ok (.aload_n 0, 1) := by decide +kernel
theorem dX12_array_60 : decode cX12_array 60 = .ok (.getfield 84, 3) := by decide +kernel
theorem dX12_array_63 : decode cX12_array 63 = .ok (.bipush 6, 2) := by decide +kernel
theorem dX12_array_65 : decode cX12_array 65 = .ok (.iload_n 1, 1) := by decide +kernel
theorem dX12_array_66 : decode cX12_array 66 = .ok (.imul, 1) := by decide +kernel
theorem dX12_array_67 : decode cX12_array 67 = .ok (.iload_n 2, 1) := by decide +kernel
theorem dX12_array_68 : decode cX12_array 68 = .ok (.iadd, 1) := by decide +kernel
theorem dX12_array_69 : decode cX12_array 69 = .ok (.laload, 1) := by decide +kernel
theorem dX12_array_70 : decode cX12_array 70 = .ok (.l2i, 1) := by decide +kernel
theorem dX12_array_71 : decode cX12_array 71 = .ok (.istore 4, 2) := by decide +kernel
theorem dX12_array_73 : decode cX12_array 73 = .ok (.iload 4, 2) := by decide +kernel
theorem dX12_array_75 : decode cX12_array 75 = .ok (.ifCond .ge 9, 3) := by decide +kernel
theorem dX12_array_78 : decode cX12_array 78 = .ok (.aload_n 0, 1) := by decide +kernel
theorem dX12_array_79 : decode cX12_array 79 = .ok (.iconst 1, 1) := by decide +kernel
theorem dX12_array_80 : decode cX12_array 80 = .ok (.invokevirtual 166, 3) := by decide +kernel
theorem dX12_array_83 : decode cX12_array 83 = .ok (.ireturn, 1) := by decide +kernel
theorem dX12_array_84 : decode cX12_array 84 = .ok (.iload_n 3, 1) := by decide +kernel
theorem dX12_array_85 : decode cX12_array 85 = .ok (.ifCond .eq 6, 3) := by decide +kernel
theorem dX12_array_88 : decode cX12_array 88 = .ok (.iload 4, 2) := by decide +kernel
theorem dX12_array_90 : decode cX12_array 90 = .ok (.ireturn, 1) := by decide +kernel
theorem dX12_array_91 : decode cX12_array 91 = .ok (.aload_n 0, 1) := by decide +kernel
theorem dX12_array_92 : decode cX12_array 92 = .ok (.getfield 153, 3) := by decide +kernel
theorem dX12_array_95 : decode cX12_array 95 = .ok (.bipush 60, 2) := by decide +kernel
theorem dX12_array_97 : decode cX12_array 97 = .ok (.if_icmp .ne 8, 3) := by decide +kernel
theorem dX12_array_100 : decode cX12_array 100 = .ok (.bipush (-4), 2) := by decide +kernel
theorem dX12_array_102 : decode cX12_array 102 = .ok (.goto 9, 3) := by decide +kernel
theorem dX12_array_105 : decode cX12_array 105 = .ok (.aload_n 0, 1) := by decide +kernel
theorem dX12_array_106 : decode cX12_array 106 = .ok (.iload 4, 2) := by decide +kernel
theorem dX12_array_108 : decode cX12_array 108 = .ok (.invokevirtual 196, 3) := by decide +kernel
theorem dX12_array_111 : decode cX12_array 111 = .ok (.ireturn, 1) := by decide +kernel
def F_X12_array (d : Nat) (v0 : Option Nm) (v1 : Int32) (v2 : Int32) (v3 : Int32) (h : MH) (u : Nat) (Q : Int32 → MH → Prop) : Prop :=
  rc h v0 11 ∧ F_X12_isValue d v0 v1 h 0 fun x1 h =>
  if x1 = 0 then
    Q (-1) h
  else
    rc h v0 11 ∧ F_X12_isConstant (d + 1) v0 v1 h 0 fun x2 h =>
    if x2 = 0 then
      rc h v0 11 ∧ F_X12_partsOf d v0 v1 h 0 fun x3 h =>
      F_X12_in (d + 1) v2 0 (x3 - 1) h 0 fun x4 h =>
      if x4 = 0 then
        rc h v0 11 ∧ F_X12_fails (d + 1) v0 2 h 0 fun x12 h =>
        Q x12 h
      else
        rc h v0 11 ∧ F_X12_laneOf d v0 v1 v2 h 0 fun x5 h =>
        if x5 = 9 then
          gR h v0 11 31 fun x6 =>
          aL h x6 ((6 * v1) + v2) fun x7 =>
          if 0 ≤ (x7.toInt32) then
            if v3 = 0 then
              gI h v0 11 3 fun x8 =>
              if x8 = 60 then
                Q (-4) h
              else
                rc h v0 11 ∧ F_X12_twinOf d v0 (x7.toInt32) h 0 fun x9 h =>
                Q x9 h
            else
              Q (x7.toInt32) h
          else
            rc h v0 11 ∧ F_X12_fails (d + 1) v0 1 h 0 fun x10 h =>
            Q x10 h
        else
          rc h v0 11 ∧ F_X12_fails (d + 1) v0 3 h 0 fun x11 h =>
          Q x11 h
    else
      Q (-3) h
set_option maxRecDepth 20000 in
theorem E_X12_array {d : Nat} {v0 : Option Nm} {v1 : Int32} {v2 : Int32} {v3 : Int32} {h : MH} {u : Nat} {Q : Int32 → MH → Prop} (H : F_X12_array d v0 v1 v2 v3 h u Q) : T u_X12_array (d + 2) 0 [some (jR v0), some (jI v1), some (jI v2), some (jI v3), none] [] h u (qI Q) := by
  unfold F_X12_array at H
  refine T_aload_n (pc := 0) dX12_array_0 rfl rfl ?_
  refine T_iload_n (pc := 1) dX12_array_1 rfl rfl ?_
  obtain ⟨H0, H⟩ := H
  refine T_iV (pc := 2) (ci := 11) (av := [jI v1]) (rest := []) (o := v0) dX12_array_2 mf_X12_isValue c_5_155 c_5_157 pr_X12_isValue rfl rfl (Nat.le_of_ble_eq_true rfl) rfl H0 (iI_k (iI_m0 (fun x1 h H => ?_) (J_X12_isValue (d := d) H)))
  refine T_if_ne (pc := 5) (tgt := 10) dX12_array_5 (by decide) (fun hc => ?_) (fun hc => ?_)
  · rw [if_neg hc] at H
    refine T_aload_n (pc := 10) dX12_array_10 rfl rfl ?_
    refine T_iload_n (pc := 11) dX12_array_11 rfl rfl ?_
    obtain ⟨H0, H⟩ := H
    refine T_iV (pc := 12) (ci := 11) (av := [jI v1]) (rest := []) (o := v0) dX12_array_12 mf_X12_isConstant c_6_34 c_6_36 pr_X12_isConstant rfl rfl (Nat.le_of_ble_eq_true rfl) rfl H0 (iI_k (iI_m0 (fun x2 h H => ?_) (J_X12_isConstant (d := (d + 1)) H)))
    refine T_if_eq (pc := 15) (tgt := 21) dX12_array_15 (by decide) (fun hc => ?_) (fun hc => ?_)
    · rw [if_pos hc] at H
      refine T_iload_n (pc := 21) dX12_array_21 rfl rfl ?_
      refine T_iconst (pc := 22) (v := 0) dX12_array_22 (by decide) ?_
      refine T_aload_n (pc := 23) dX12_array_23 rfl rfl ?_
      refine T_iload_n (pc := 24) dX12_array_24 rfl rfl ?_
      obtain ⟨H0, H⟩ := H
      refine T_iV (pc := 25) (ci := 11) (av := [jI v1]) (rest := [jI 0, jI v2]) (o := v0) dX12_array_25 mf_X12_partsOf c_6_38 c_6_40 pr_X12_partsOf rfl rfl (Nat.le_of_ble_eq_true rfl) rfl H0 (iI_k (iI_m0 (fun x3 h H => ?_) (J_X12_partsOf (d := d) H)))
      refine T_iconst (pc := 28) (v := 1) dX12_array_28 (by decide) ?_
      refine T_isub (pc := 29) dX12_array_29 ?_
      refine T_invS (pc := 30) (av := [jI v2, jI 0, jI (x3 - 1)]) (rest := []) dX12_array_30 mf_X12_in c_5_86 c_5_87 rfl (Nat.le_of_ble_eq_true rfl) rfl (iI_k (iI_m0 (fun x4 h H => ?_) (J_X12_in (d := (d + 1)) H)))
      refine T_if_ne (pc := 33) (tgt := 42) dX12_array_33 (by decide) (fun hc => ?_) (fun hc => ?_)
      · rw [if_neg hc] at H
        refine T_aload_n (pc := 42) dX12_array_42 rfl rfl ?_
        refine T_iload_n (pc := 43) dX12_array_43 rfl rfl ?_
        refine T_iload_n (pc := 44) dX12_array_44 rfl rfl ?_
        obtain ⟨H0, H⟩ := H
        refine T_iV (pc := 45) (ci := 11) (av := [jI v1, jI v2]) (rest := []) (o := v0) dX12_array_45 mf_X12_laneOf c_6_50 c_6_52 pr_X12_laneOf rfl rfl (Nat.le_of_ble_eq_true rfl) rfl H0 (iI_k (iI_m0 (fun x5 h H => ?_) (J_X12_laneOf (d := d) H)))
        refine T_bipush (pc := 48) (v := 9) dX12_array_48 (by decide) ?_
        refine T_icmp_eq (pc := 50) (tgt := 59) dX12_array_50 (by decide) (fun hc => ?_) (fun hc => ?_)
        · rw [if_pos hc] at H
          refine T_aload_n (pc := 59) dX12_array_59 rfl rfl ?_
          refine T_gR (pc := 60) fa_X12_84 dX12_array_60 (gR_mono (fun x6 H => ?_) H)
          refine T_bipush (pc := 63) (v := 6) dX12_array_63 (by decide) ?_
          refine T_iload_n (pc := 65) dX12_array_65 rfl rfl ?_
          refine T_imul (pc := 66) dX12_array_66 ?_
          refine T_iload_n (pc := 67) dX12_array_67 rfl rfl ?_
          refine T_iadd (pc := 68) dX12_array_68 ?_
          refine T_aL (pc := 69) dX12_array_69 (aL_mono (fun x7 H => ?_) H)
          refine T_l2i (pc := 70) dX12_array_70 ?_
          refine T_istore (pc := 71) (ls2 := [some (jR v0), some (jI v1), some (jI v2), some (jI v3), some (jI (x7.toInt32))]) dX12_array_71 (Nat.le_of_ble_eq_true rfl) rfl ?_
          refine T_iload (pc := 73) dX12_array_73 rfl ?_
          refine T_if_ge (pc := 75) (tgt := 84) dX12_array_75 (by decide) (fun hc => ?_) (fun hc => ?_)
          · rw [if_pos hc] at H
            refine T_iload_n (pc := 84) dX12_array_84 rfl rfl ?_
            refine T_if_eq (pc := 85) (tgt := 91) dX12_array_85 (by decide) (fun hc => ?_) (fun hc => ?_)
            · rw [if_pos hc] at H
              refine T_aload_n (pc := 91) dX12_array_91 rfl rfl ?_
              refine T_gI (pc := 92) fa_X12_153 dX12_array_92 (gI_mono (fun x8 H => ?_) H)
              refine T_bipush (pc := 95) (v := 60) dX12_array_95 (by decide) ?_
              refine T_icmp_ne (pc := 97) (tgt := 105) dX12_array_97 (by decide) (fun hc => ?_) (fun hc => ?_)
              · rw [if_neg hc] at H
                refine T_aload_n (pc := 105) dX12_array_105 rfl rfl ?_
                refine T_iload (pc := 106) dX12_array_106 rfl ?_
                obtain ⟨H0, H⟩ := H
                refine T_iV (pc := 108) (ci := 11) (av := [jI (x7.toInt32)]) (rest := []) (o := v0) dX12_array_108 mf_X12_twinOf c_5_178 c_5_180 pr_X12_twinOf rfl rfl (Nat.le_of_ble_eq_true rfl) rfl H0 (iI_k (iI_m0 (fun x9 h H => ?_) (J_X12_twinOf (d := d) H)))
                exact T_ireturn (pc := 111) rfl rfl dX12_array_111 H
              · rw [if_pos hc] at H
                refine T_bipush (pc := 100) (v := (-4)) dX12_array_100 (by decide) ?_
                refine T_goto (pc := 102) (tgt := 111) dX12_array_102 (by decide) ?_
                exact T_ireturn (pc := 111) rfl rfl dX12_array_111 H
            · rw [if_neg hc] at H
              refine T_iload (pc := 88) dX12_array_88 rfl ?_
              exact T_ireturn (pc := 90) rfl rfl dX12_array_90 H
          · rw [if_neg hc] at H
            refine T_aload_n (pc := 78) dX12_array_78 rfl rfl ?_
            refine T_iconst (pc := 79) (v := 1) dX12_array_79 (by decide) ?_
            obtain ⟨H0, H⟩ := H
            refine T_iV (pc := 80) (ci := 11) (av := [jI 1]) (rest := []) (o := v0) dX12_array_80 mf_X12_fails c_5_89 c_5_91 pr_X12_fails rfl rfl (Nat.le_of_ble_eq_true rfl) rfl H0 (iI_k (iI_m0 (fun x10 h H => ?_) (J_X12_fails (d := (d + 1)) H)))
            exact T_ireturn (pc := 83) rfl rfl dX12_array_83 H
        · rw [if_neg hc] at H
          refine T_aload_n (pc := 53) dX12_array_53 rfl rfl ?_
          refine T_iconst (pc := 54) (v := 3) dX12_array_54 (by decide) ?_
          obtain ⟨H0, H⟩ := H
          refine T_iV (pc := 55) (ci := 11) (av := [jI 3]) (rest := []) (o := v0) dX12_array_55 mf_X12_fails c_5_89 c_5_91 pr_X12_fails rfl rfl (Nat.le_of_ble_eq_true rfl) rfl H0 (iI_k (iI_m0 (fun x11 h H => ?_) (J_X12_fails (d := (d + 1)) H)))
          exact T_ireturn (pc := 58) rfl rfl dX12_array_58 H
      · rw [if_pos hc] at H
        refine T_aload_n (pc := 36) dX12_array_36 rfl rfl ?_
        refine T_iconst (pc := 37) (v := 2) dX12_array_37 (by decide) ?_
        obtain ⟨H0, H⟩ := H
        refine T_iV (pc := 38) (ci := 11) (av := [jI 2]) (rest := []) (o := v0) dX12_array_38 mf_X12_fails c_5_89 c_5_91 pr_X12_fails rfl rfl (Nat.le_of_ble_eq_true rfl) rfl H0 (iI_k (iI_m0 (fun x12 h H => ?_) (J_X12_fails (d := (d + 1)) H)))
        exact T_ireturn (pc := 41) rfl rfl dX12_array_41 H
    · rw [if_neg hc] at H
      refine T_bipush (pc := 18) (v := (-3)) dX12_array_18 (by decide) ?_
      exact T_ireturn (pc := 20) rfl rfl dX12_array_20 H
  · rw [if_pos hc] at H
    refine T_iconst (pc := 8) (v := (-1)) dX12_array_8 (by decide) ?_
    exact T_ireturn (pc := 9) rfl rfl dX12_array_9 H
theorem I_X12_array {d : Nat} {v0 : Option Nm} {v1 : Int32} {v2 : Int32} {v3 : Int32} {h : MH} {u : Nat} {K : Int32 → MH → Nat → Prop} (u1 : Nat) (hu : u1 ≤ u) (H : F_X12_array d v0 v1 v2 v3 h u1 (fun x h2 => K x h2 (u - u1))) : iI (d + 2) u_X12_array [jR v0, jI v1, jI v2, jI v3] h u K := inv.of u1 hu (Ct.of (by decide +kernel) rfl (Nat.le_of_ble_eq_true rfl) rfl (E_X12_array H))
theorem J_X12_array {d : Nat} {v0 : Option Nm} {v1 : Int32} {v2 : Int32} {v3 : Int32} {h : MH} {u : Nat} {K : Int32 → MH → Prop} (H : F_X12_array d v0 v1 v2 v3 h 0 K) : iI (d + 2) u_X12_array [jR v0, jI v1, jI v2, jI v3] h u (fun x h2 u2 => K x h2 ∧ u2 = u) := jiI (by decide +kernel) rfl (Nat.le_of_ble_eq_true rfl) rfl (E_X12_array H)
theorem dX12_isRow_0 : decode cX12_isRow 0 = .ok (.iload_n 1, 1) := by decide +kernel
theorem dX12_isRow_1 : decode cX12_isRow 1 = .ok (.iconst 0, 1) := by decide +kernel
theorem dX12_isRow_2 : decode cX12_isRow 2 = .ok (.aload_n 0, 1) := by decide +kernel
theorem dX12_isRow_3 : decode cX12_isRow 3 = .ok (.getfield 153, 3) := by decide +kernel
theorem dX12_isRow_6 : decode cX12_isRow 6 = .ok (.iconst 1, 1) := by decide +kernel
theorem dX12_isRow_7 : decode cX12_isRow 7 = .ok (.isub, 1) := by decide +kernel
theorem dX12_isRow_8 : decode cX12_isRow 8 = .ok (.invokestatic 156, 3) := by decide +kernel
theorem dX12_isRow_11 : decode cX12_isRow 11 = .ok (.ireturn, 1) := by decide +kernel
def F_X12_isRow (d : Nat) (v0 : Option Nm) (v1 : Int32) (h : MH) (u : Nat) (Q : Int32 → MH → Prop) : Prop :=
  gI h v0 11 3 fun x1 =>
  F_X12_in d v1 0 (x1 - 1) h 0 fun x2 h =>
  nz x2 ∧ Q x2 h
set_option maxRecDepth 20000 in
theorem E_X12_isRow {d : Nat} {v0 : Option Nm} {v1 : Int32} {h : MH} {u : Nat} {Q : Int32 → MH → Prop} (H : F_X12_isRow d v0 v1 h u Q) : T u_X12_isRow (d + 1) 0 [some (jR v0), some (jI v1)] [] h u (qI Q) := by
  unfold F_X12_isRow at H
  refine T_iload_n (pc := 0) dX12_isRow_0 rfl rfl ?_
  refine T_iconst (pc := 1) (v := 0) dX12_isRow_1 (by decide) ?_
  refine T_aload_n (pc := 2) dX12_isRow_2 rfl rfl ?_
  refine T_gI (pc := 3) fa_X12_153 dX12_isRow_3 (gI_mono (fun x1 H => ?_) H)
  refine T_iconst (pc := 6) (v := 1) dX12_isRow_6 (by decide) ?_
  refine T_isub (pc := 7) dX12_isRow_7 ?_
  refine T_invS (pc := 8) (av := [jI v1, jI 0, jI (x1 - 1)]) (rest := []) dX12_isRow_8 mf_X12_in c_5_86 c_5_87 rfl (Nat.le_of_ble_eq_true rfl) rfl (iI_k (iI_m0 (fun x2 h H => ?_) (J_X12_in (d := d) H)))
  exact T_ireturn (pc := 11) rfl (nz_nar H.1) dX12_isRow_11 H.2
theorem I_X12_isRow {d : Nat} {v0 : Option Nm} {v1 : Int32} {h : MH} {u : Nat} {K : Int32 → MH → Nat → Prop} (u1 : Nat) (hu : u1 ≤ u) (H : F_X12_isRow d v0 v1 h u1 (fun x h2 => K x h2 (u - u1))) : iI (d + 1) u_X12_isRow [jR v0, jI v1] h u K := inv.of u1 hu (Ct.of (by decide +kernel) rfl (Nat.le_of_ble_eq_true rfl) rfl (E_X12_isRow H))
theorem J_X12_isRow {d : Nat} {v0 : Option Nm} {v1 : Int32} {h : MH} {u : Nat} {K : Int32 → MH → Prop} (H : F_X12_isRow d v0 v1 h 0 K) : iI (d + 1) u_X12_isRow [jR v0, jI v1] h u (fun x h2 u2 => K x h2 ∧ u2 = u) := jiI (by decide +kernel) rfl (Nat.le_of_ble_eq_true rfl) rfl (E_X12_isRow H)
theorem dX12_at_0 : decode cX12_at 0 = .ok (.aload_n 0, 1) := by decide +kernel
theorem dX12_at_1 : decode cX12_at 1 = .ok (.iload_n 1, 1) := by decide +kernel
theorem dX12_at_2 : decode cX12_at 2 = .ok (.invokevirtual 170, 3) := by decide +kernel
theorem dX12_at_5 : decode cX12_at 5 = .ok (.ifCond .ne 5, 3) := by decide +kernel
theorem dX12_at_8 : decode cX12_at 8 = .ok (.iconst (-1), 1) := by decide +kernel
theorem dX12_at_9 : decode cX12_at 9 = .ok (.ireturn, 1) := by decide +kernel
theorem dX12_at_10 : decode cX12_at 10 = .ok (.aload_n 0, 1) := by decide +kernel
theorem dX12_at_11 : decode cX12_at 11 = .ok (.getfield 7, 3) := by decide +kernel
theorem dX12_at_14 : decode cX12_at 14 = .ok (.iload_n 1, 1) := by decide +kernel
theorem dX12_at_15 : decode cX12_at 15 = .ok (.iaload, 1) := by decide +kernel
theorem dX12_at_16 : decode cX12_at 16 = .ok (.bipush 8, 2) := by decide +kernel
theorem dX12_at_18 : decode cX12_at 18 = .ok (.if_icmp .eq 9, 3) := by decide +kernel
theorem dX12_at_21 : decode cX12_at 21 = .ok (.aload_n 0, 1) := by decide +kernel
theorem dX12_at_22 : decode cX12_at 22 = .ok (.iconst 3, 1) := by decide +kernel
theorem dX12_at_23 : decode cX12_at 23 = .ok (.invokevirtual 166, 3) := by decide +kernel
theorem dX12_at_26 : decode cX12_at 26 = .ok (.ireturn, 1) := by decide +kernel
theorem dX12_at_27 : decode cX12_at 27 = .ok (.iload_n 2, 1) := by decide +kernel
theorem dX12_at_28 : decode cX12_at 28 = .ok (.iconst 0, 1) := by decide +kernel
theorem dX12_at_29 : decode cX12_at 29 = .ok (.aload_n 0, 1) := by decide +kernel
theorem dX12_at_30 : decode cX12_at 30 = .ok (.getfield 13, 3) := by decide +kernel
theorem dX12_at_33 : decode cX12_at 33 = .ok (.iload_n 1, 1) := by decide +kernel
theorem dX12_at_34 : decode cX12_at 34 = .ok (.iaload, 1) := by decide +kernel
theorem dX12_at_35 : decode cX12_at 35 = .ok (.iconst 1, 1) := by decide +kernel
theorem dX12_at_36 : decode cX12_at 36 = .ok (.isub, 1) := by decide +kernel
theorem dX12_at_37 : decode cX12_at 37 = .ok (.invokestatic 156, 3) := by decide +kernel
theorem dX12_at_40 : decode cX12_at 40 = .ok (.ifCond .ne 9, 3) := by decide +kernel
theorem dX12_at_43 : decode cX12_at 43 = .ok (.aload_n 0, 1) := by decide +kernel
theorem dX12_at_44 : decode cX12_at 44 = .ok (.iconst 2, 1) := by decide +kernel
theorem dX12_at_45 : decode cX12_at 45 = .ok (.invokevirtual 166, 3) := by decide +kernel
theorem dX12_at_48 : decode cX12_at 48 = .ok (.ireturn, 1) := by decide +kernel
theorem dX12_at_49 : decode cX12_at 49 = .ok (.aload_n 0, 1) := by decide +kernel
theorem dX12_at_50 : decode cX12_at 50 = .ok (.getfield 20, 3) := by decide +kernel
theorem dX12_at_53 : decode cX12_at 53 = .ok (.bipush 20, 2) := by decide +kernel
theorem dX12_at_55 : decode cX12_at 55 = .ok (.iload_n 1, 1) := by decide +kernel
theorem dX12_at_56 : decode cX12_at 56 = .ok (.imul, 1) := by decide +kernel
theorem dX12_at_57 : decode cX12_at 57 = .ok (.iload_n 2, 1) := by decide +kernel
theorem dX12_at_58 : decode cX12_at 58 = .ok (.iadd, 1) := by decide +kernel
theorem dX12_at_59 : decode cX12_at 59 = .ok (.laload, 1) := by decide +kernel
theorem dX12_at_60 : decode cX12_at 60 = .ok (.lconst 0, 1) := by decide +kernel
theorem dX12_at_61 : decode cX12_at 61 = .ok (.lcmp, 1) := by decide +kernel
theorem dX12_at_62 : decode cX12_at 62 = .ok (.ifCond .ge 8, 3) := by decide +kernel
theorem dX12_at_65 : decode cX12_at 65 = .ok (.bipush (-5), 2) := by decide +kernel
theorem dX12_at_67 : decode cX12_at 67 = .ok (.goto 15, 3) := by decide +kernel
theorem dX12_at_70 : decode cX12_at 70 = .ok (.aload_n 0, 1) := by decide +kernel
theorem dX12_at_71 : decode cX12_at 71 = .ok (.getfield 20, 3) := by decide +kernel
theorem dX12_at_74 : decode cX12_at 74 = .ok (.bipush 20, 2) := by decide +kernel
theorem dX12_at_76 : decode cX12_at 76 = .ok (.iload_n 1, 1) := by decide +kernel
theorem dX12_at_77 : decode cX12_at 77 = .ok (.imul, 1) := by decide +kernel
theorem dX12_at_78 : decode cX12_at 78 = .ok (.iload_n 2, 1) := by decide +kernel
theorem dX12_at_79 : decode cX12_at 79 = .ok (.iadd, 1) := by decide +kernel
theorem dX12_at_80 : decode cX12_at 80 = .ok (.laload, 1) := by decide +kernel
theorem dX12_at_81 : decode cX12_at 81 = .ok (.l2i, 1) := by decide +kernel
theorem dX12_at_82 : decode cX12_at 82 = .ok (.ireturn, 1) := by decide +kernel
def F_X12_at (d : Nat) (v0 : Option Nm) (v1 : Int32) (v2 : Int32) (h : MH) (u : Nat) (Q : Int32 → MH → Prop) : Prop :=
  rc h v0 11 ∧ F_X12_isRow d v0 v1 h 0 fun x1 h =>
  if x1 = 0 then
    Q (-1) h
  else
    gR h v0 11 4 fun x2 =>
    aI .int h x2 v1 fun x3 =>
    if x3 = 8 then
      gR h v0 11 5 fun x4 =>
      aI .int h x4 v1 fun x5 =>
      F_X12_in (d + 1) v2 0 (x5 - 1) h 0 fun x6 h =>
      if x6 = 0 then
        rc h v0 11 ∧ F_X12_fails (d + 1) v0 2 h 0 fun x11 h =>
        Q x11 h
      else
        gR h v0 11 7 fun x7 =>
        aL h x7 ((20 * v1) + v2) fun x8 =>
        if 0 ≤ (lg_cmp x8 0) then
          gR h v0 11 7 fun x9 =>
          aL h x9 ((20 * v1) + v2) fun x10 =>
          Q (x10.toInt32) h
        else
          Q (-5) h
    else
      rc h v0 11 ∧ F_X12_fails (d + 1) v0 3 h 0 fun x12 h =>
      Q x12 h
set_option maxRecDepth 20000 in
theorem E_X12_at {d : Nat} {v0 : Option Nm} {v1 : Int32} {v2 : Int32} {h : MH} {u : Nat} {Q : Int32 → MH → Prop} (H : F_X12_at d v0 v1 v2 h u Q) : T u_X12_at (d + 2) 0 [some (jR v0), some (jI v1), some (jI v2)] [] h u (qI Q) := by
  unfold F_X12_at at H
  refine T_aload_n (pc := 0) dX12_at_0 rfl rfl ?_
  refine T_iload_n (pc := 1) dX12_at_1 rfl rfl ?_
  obtain ⟨H0, H⟩ := H
  refine T_iV (pc := 2) (ci := 11) (av := [jI v1]) (rest := []) (o := v0) dX12_at_2 mf_X12_isRow c_5_102 c_5_104 pr_X12_isRow rfl rfl (Nat.le_of_ble_eq_true rfl) rfl H0 (iI_k (iI_m0 (fun x1 h H => ?_) (J_X12_isRow (d := d) H)))
  refine T_if_ne (pc := 5) (tgt := 10) dX12_at_5 (by decide) (fun hc => ?_) (fun hc => ?_)
  · rw [if_neg hc] at H
    refine T_aload_n (pc := 10) dX12_at_10 rfl rfl ?_
    refine T_gR (pc := 11) fa_X12_7 dX12_at_11 (gR_mono (fun x2 H => ?_) H)
    refine T_iload_n (pc := 14) dX12_at_14 rfl rfl ?_
    refine T_aI (pc := 15) dX12_at_15 (aI_mono (fun x3 H => ?_) H)
    refine T_bipush (pc := 16) (v := 8) dX12_at_16 (by decide) ?_
    refine T_icmp_eq (pc := 18) (tgt := 27) dX12_at_18 (by decide) (fun hc => ?_) (fun hc => ?_)
    · rw [if_pos hc] at H
      refine T_iload_n (pc := 27) dX12_at_27 rfl rfl ?_
      refine T_iconst (pc := 28) (v := 0) dX12_at_28 (by decide) ?_
      refine T_aload_n (pc := 29) dX12_at_29 rfl rfl ?_
      refine T_gR (pc := 30) fa_X12_13 dX12_at_30 (gR_mono (fun x4 H => ?_) H)
      refine T_iload_n (pc := 33) dX12_at_33 rfl rfl ?_
      refine T_aI (pc := 34) dX12_at_34 (aI_mono (fun x5 H => ?_) H)
      refine T_iconst (pc := 35) (v := 1) dX12_at_35 (by decide) ?_
      refine T_isub (pc := 36) dX12_at_36 ?_
      refine T_invS (pc := 37) (av := [jI v2, jI 0, jI (x5 - 1)]) (rest := []) dX12_at_37 mf_X12_in c_5_86 c_5_87 rfl (Nat.le_of_ble_eq_true rfl) rfl (iI_k (iI_m0 (fun x6 h H => ?_) (J_X12_in (d := (d + 1)) H)))
      refine T_if_ne (pc := 40) (tgt := 49) dX12_at_40 (by decide) (fun hc => ?_) (fun hc => ?_)
      · rw [if_neg hc] at H
        refine T_aload_n (pc := 49) dX12_at_49 rfl rfl ?_
        refine T_gR (pc := 50) fa_X12_20 dX12_at_50 (gR_mono (fun x7 H => ?_) H)
        refine T_bipush (pc := 53) (v := 20) dX12_at_53 (by decide) ?_
        refine T_iload_n (pc := 55) dX12_at_55 rfl rfl ?_
        refine T_imul (pc := 56) dX12_at_56 ?_
        refine T_iload_n (pc := 57) dX12_at_57 rfl rfl ?_
        refine T_iadd (pc := 58) dX12_at_58 ?_
        refine T_aL (pc := 59) dX12_at_59 (aL_mono (fun x8 H => ?_) H)
        refine T_lconst (pc := 60) (v := 0) dX12_at_60 (by decide) ?_
        refine T_lcmp (pc := 61) dX12_at_61 ?_
        refine T_if_ge (pc := 62) (tgt := 70) dX12_at_62 (by decide) (fun hc => ?_) (fun hc => ?_)
        · rw [if_pos hc] at H
          refine T_aload_n (pc := 70) dX12_at_70 rfl rfl ?_
          refine T_gR (pc := 71) fa_X12_20 dX12_at_71 (gR_mono (fun x9 H => ?_) H)
          refine T_bipush (pc := 74) (v := 20) dX12_at_74 (by decide) ?_
          refine T_iload_n (pc := 76) dX12_at_76 rfl rfl ?_
          refine T_imul (pc := 77) dX12_at_77 ?_
          refine T_iload_n (pc := 78) dX12_at_78 rfl rfl ?_
          refine T_iadd (pc := 79) dX12_at_79 ?_
          refine T_aL (pc := 80) dX12_at_80 (aL_mono (fun x10 H => ?_) H)
          refine T_l2i (pc := 81) dX12_at_81 ?_
          exact T_ireturn (pc := 82) rfl rfl dX12_at_82 H
        · rw [if_neg hc] at H
          refine T_bipush (pc := 65) (v := (-5)) dX12_at_65 (by decide) ?_
          refine T_goto (pc := 67) (tgt := 82) dX12_at_67 (by decide) ?_
          exact T_ireturn (pc := 82) rfl rfl dX12_at_82 H
      · rw [if_pos hc] at H
        refine T_aload_n (pc := 43) dX12_at_43 rfl rfl ?_
        refine T_iconst (pc := 44) (v := 2) dX12_at_44 (by decide) ?_
        obtain ⟨H0, H⟩ := H
        refine T_iV (pc := 45) (ci := 11) (av := [jI 2]) (rest := []) (o := v0) dX12_at_45 mf_X12_fails c_5_89 c_5_91 pr_X12_fails rfl rfl (Nat.le_of_ble_eq_true rfl) rfl H0 (iI_k (iI_m0 (fun x11 h H => ?_) (J_X12_fails (d := (d + 1)) H)))
        exact T_ireturn (pc := 48) rfl rfl dX12_at_48 H
    · rw [if_neg hc] at H
      refine T_aload_n (pc := 21) dX12_at_21 rfl rfl ?_
      refine T_iconst (pc := 22) (v := 3) dX12_at_22 (by decide) ?_
      obtain ⟨H0, H⟩ := H
      refine T_iV (pc := 23) (ci := 11) (av := [jI 3]) (rest := []) (o := v0) dX12_at_23 mf_X12_fails c_5_89 c_5_91 pr_X12_fails rfl rfl (Nat.le_of_ble_eq_true rfl) rfl H0 (iI_k (iI_m0 (fun x12 h H => ?_) (J_X12_fails (d := (d + 1)) H)))
      exact T_ireturn (pc := 26) rfl rfl dX12_at_26 H
  · rw [if_pos hc] at H
    refine T_iconst (pc := 8) (v := (-1)) dX12_at_8 (by decide) ?_
    exact T_ireturn (pc := 9) rfl rfl dX12_at_9 H
theorem I_X12_at {d : Nat} {v0 : Option Nm} {v1 : Int32} {v2 : Int32} {h : MH} {u : Nat} {K : Int32 → MH → Nat → Prop} (u1 : Nat) (hu : u1 ≤ u) (H : F_X12_at d v0 v1 v2 h u1 (fun x h2 => K x h2 (u - u1))) : iI (d + 2) u_X12_at [jR v0, jI v1, jI v2] h u K := inv.of u1 hu (Ct.of (by decide +kernel) rfl (Nat.le_of_ble_eq_true rfl) rfl (E_X12_at H))
theorem J_X12_at {d : Nat} {v0 : Option Nm} {v1 : Int32} {v2 : Int32} {h : MH} {u : Nat} {K : Int32 → MH → Prop} (H : F_X12_at d v0 v1 v2 h 0 K) : iI (d + 2) u_X12_at [jR v0, jI v1, jI v2] h u (fun x h2 u2 => K x h2 ∧ u2 = u) := jiI (by decide +kernel) rfl (Nat.le_of_ble_eq_true rfl) rfl (E_X12_at H)
theorem dX12_comes_0 : decode cX12_comes 0 = .ok (.iload_n 0, 1) := by decide +kernel
theorem dX12_comes_1 : decode cX12_comes 1 = .ok (.tableswitch 76 0 6 #[43, 47, 52, 58, 63, 67, 69], 43) := by decide +kernel
theorem dX12_comes_44 : decode cX12_comes 44 = .ok (.lload_n 1, 1) := by decide +kernel
theorem dX12_comes_45 : decode cX12_comes 45 = .ok (.lconst 1, 1) := by decide +kernel
theorem dX12_comes_46 : decode cX12_comes 46 = .ok (.land, 1) := by decide +kernel
theorem dX12_comes_47 : decode cX12_comes 47 = .ok (.lreturn, 1) := by decide +kernel
theorem dX12_comes_48 : decode cX12_comes 48 = .ok (.lload_n 1, 1) := by decide +kernel
theorem dX12_comes_49 : decode cX12_comes 49 = .ok (.l2i, 1) := by decide +kernel
theorem dX12_comes_50 : decode cX12_comes 50 = .ok (.i2b, 1) := by decide +kernel
theorem dX12_comes_51 : decode cX12_comes 51 = .ok (.i2l, 1) := by decide +kernel
theorem dX12_comes_52 : decode cX12_comes 52 = .ok (.lreturn, 1) := by decide +kernel
theorem dX12_comes_53 : decode cX12_comes 53 = .ok (.lload_n 1, 1) := by decide +kernel
theorem dX12_comes_54 : decode cX12_comes 54 = .ok (.ldc2_w 131, 3) := by decide +kernel
theorem dX12_comes_57 : decode cX12_comes 57 = .ok (.land, 1) := by decide +kernel
theorem dX12_comes_58 : decode cX12_comes 58 = .ok (.lreturn, 1) := by decide +kernel
theorem dX12_comes_59 : decode cX12_comes 59 = .ok (.lload_n 1, 1) := by decide +kernel
theorem dX12_comes_60 : decode cX12_comes 60 = .ok (.l2i, 1) := by decide +kernel
theorem dX12_comes_61 : decode cX12_comes 61 = .ok (.i2s, 1) := by decide +kernel
theorem dX12_comes_62 : decode cX12_comes 62 = .ok (.i2l, 1) := by decide +kernel
theorem dX12_comes_63 : decode cX12_comes 63 = .ok (.lreturn, 1) := by decide +kernel
theorem dX12_comes_64 : decode cX12_comes 64 = .ok (.lload_n 1, 1) := by decide +kernel
theorem dX12_comes_65 : decode cX12_comes 65 = .ok (.l2i, 1) := by decide +kernel
theorem dX12_comes_66 : decode cX12_comes 66 = .ok (.i2l, 1) := by decide +kernel
theorem dX12_comes_67 : decode cX12_comes 67 = .ok (.lreturn, 1) := by decide +kernel
theorem dX12_comes_68 : decode cX12_comes 68 = .ok (.lload_n 1, 1) := by decide +kernel
theorem dX12_comes_69 : decode cX12_comes 69 = .ok (.lreturn, 1) := by decide +kernel
theorem dX12_comes_70 : decode cX12_comes 70 = .ok (.lload_n 1, 1) := by decide +kernel
theorem dX12_comes_71 : decode cX12_comes 71 = .ok (.l2f, 1) := by decide +kernel
theorem dX12_comes_72 : decode cX12_comes 72 = .ok (.invokestatic 133, 3) := by decide +kernel
theorem dX12_comes_75 : decode cX12_comes 75 = .ok (.i2l, 1) := by decide +kernel
theorem dX12_comes_76 : decode cX12_comes 76 = .ok (.lreturn, 1) := by decide +kernel
theorem dX12_comes_77 : decode cX12_comes 77 = .ok (.lload_n 1, 1) := by decide +kernel
theorem dX12_comes_78 : decode cX12_comes 78 = .ok (.l2d, 1) := by decide +kernel
theorem dX12_comes_79 : decode cX12_comes 79 = .ok (.invokestatic 139, 3) := by decide +kernel
theorem dX12_comes_82 : decode cX12_comes 82 = .ok (.lreturn, 1) := by decide +kernel
def F_X12_comes (d : Nat) (v0 : Int32) (v1 : Int64) (h : MH) (u : Nat) (Q : Int64 → MH → Prop) : Prop :=
  if v0 = 0 then
    Q (v1 &&& 1) h
  else if v0 = 1 then
    Q (((v1.toInt32).toInt8.toInt32).toInt64) h
  else if v0 = 2 then
    Q (v1 &&& 65535) h
  else if v0 = 3 then
    Q (((v1.toInt32).toInt16.toInt32).toInt64) h
  else if v0 = 4 then
    Q ((v1.toInt32).toInt64) h
  else if v0 = 5 then
    Q v1 h
  else if v0 = 6 then
    F_Jxf58ca_floatToIntBits_5c35a d (FP.l2f v1) h 0 fun x1 h =>
    Q (x1.toInt64) h
  else 
    F_Jxe99ae_doubleToLongBits_ccdee d (FP.l2d v1) h 0 fun x2 h =>
    Q x2 h
set_option maxRecDepth 20000 in
theorem E_X12_comes {d : Nat} {v0 : Int32} {v1 : Int64} {h : MH} {u : Nat} {Q : Int64 → MH → Prop} (H : F_X12_comes d v0 v1 h u Q) : T u_X12_comes (d + 2) 0 [some (jI v0), some (jL v1), none] [] h u (qL Q) := by
  unfold F_X12_comes at H
  refine T_iload_n (pc := 0) dX12_comes_0 rfl rfl ?_
  by_cases h0 : v0 = 0
  · rw [if_pos h0] at H
    refine T_tableIn (pc := 1) (off := 43) (tgt := 44) dX12_comes_1 (by rw [h0]; decide) (by rw [h0]; decide) (by rw [h0]; rfl) (by decide) ?_
    refine T_lload_n (pc := 44) dX12_comes_44 rfl rfl ?_
    refine T_lconst (pc := 45) (v := 1) dX12_comes_45 (by decide) ?_
    refine T_land (pc := 46) dX12_comes_46 ?_
    exact T_lreturn (pc := 47) rfl dX12_comes_47 H
  rw [if_neg h0] at H
  by_cases h1 : v0 = 1
  · rw [if_pos h1] at H
    refine T_tableIn (pc := 1) (off := 47) (tgt := 48) dX12_comes_1 (by rw [h1]; decide) (by rw [h1]; decide) (by rw [h1]; rfl) (by decide) ?_
    refine T_lload_n (pc := 48) dX12_comes_48 rfl rfl ?_
    refine T_l2i (pc := 49) dX12_comes_49 ?_
    refine T_i2b (pc := 50) dX12_comes_50 ?_
    refine T_i2l (pc := 51) dX12_comes_51 ?_
    exact T_lreturn (pc := 52) rfl dX12_comes_52 H
  rw [if_neg h1] at H
  by_cases h2 : v0 = 2
  · rw [if_pos h2] at H
    refine T_tableIn (pc := 1) (off := 52) (tgt := 53) dX12_comes_1 (by rw [h2]; decide) (by rw [h2]; decide) (by rw [h2]; rfl) (by decide) ?_
    refine T_lload_n (pc := 53) dX12_comes_53 rfl rfl ?_
    refine T_ldc2 (pc := 54) (v := 65535) dX12_comes_54 c_5_112 ?_
    refine T_land (pc := 57) dX12_comes_57 ?_
    exact T_lreturn (pc := 58) rfl dX12_comes_58 H
  rw [if_neg h2] at H
  by_cases h3 : v0 = 3
  · rw [if_pos h3] at H
    refine T_tableIn (pc := 1) (off := 58) (tgt := 59) dX12_comes_1 (by rw [h3]; decide) (by rw [h3]; decide) (by rw [h3]; rfl) (by decide) ?_
    refine T_lload_n (pc := 59) dX12_comes_59 rfl rfl ?_
    refine T_l2i (pc := 60) dX12_comes_60 ?_
    refine T_i2s (pc := 61) dX12_comes_61 ?_
    refine T_i2l (pc := 62) dX12_comes_62 ?_
    exact T_lreturn (pc := 63) rfl dX12_comes_63 H
  rw [if_neg h3] at H
  by_cases h4 : v0 = 4
  · rw [if_pos h4] at H
    refine T_tableIn (pc := 1) (off := 63) (tgt := 64) dX12_comes_1 (by rw [h4]; decide) (by rw [h4]; decide) (by rw [h4]; rfl) (by decide) ?_
    refine T_lload_n (pc := 64) dX12_comes_64 rfl rfl ?_
    refine T_l2i (pc := 65) dX12_comes_65 ?_
    refine T_i2l (pc := 66) dX12_comes_66 ?_
    exact T_lreturn (pc := 67) rfl dX12_comes_67 H
  rw [if_neg h4] at H
  by_cases h5 : v0 = 5
  · rw [if_pos h5] at H
    refine T_tableIn (pc := 1) (off := 67) (tgt := 68) dX12_comes_1 (by rw [h5]; decide) (by rw [h5]; decide) (by rw [h5]; rfl) (by decide) ?_
    refine T_lload_n (pc := 68) dX12_comes_68 rfl rfl ?_
    exact T_lreturn (pc := 69) rfl dX12_comes_69 H
  rw [if_neg h5] at H
  by_cases h6 : v0 = 6
  · rw [if_pos h6] at H
    refine T_tableIn (pc := 1) (off := 69) (tgt := 70) dX12_comes_1 (by rw [h6]; decide) (by rw [h6]; decide) (by rw [h6]; rfl) (by decide) ?_
    refine T_lload_n (pc := 70) dX12_comes_70 rfl rfl ?_
    refine T_l2f (pc := 71) dX12_comes_71 ?_
    refine T_invS (pc := 72) (av := [jF (FP.l2f v1)]) (rest := []) dX12_comes_72 mf_Jxf58ca_floatToIntBits_5c35a c_5_113 c_5_114 rfl (Nat.le_of_ble_eq_true rfl) rfl (iI_k (iI_m0 (fun x1 h H => ?_) (J_Jxf58ca_floatToIntBits_5c35a (d := d) H)))
    refine T_i2l (pc := 75) dX12_comes_75 ?_
    exact T_lreturn (pc := 76) rfl dX12_comes_76 H
  rw [if_neg h6] at H
  have e0 : (v0 : Int32).toInt ≠ 0 := fun q => h0 (Int32.toInt_inj.mp (q.trans (by decide)))
  have e1 : (v0 : Int32).toInt ≠ 1 := fun q => h1 (Int32.toInt_inj.mp (q.trans (by decide)))
  have e2 : (v0 : Int32).toInt ≠ 2 := fun q => h2 (Int32.toInt_inj.mp (q.trans (by decide)))
  have e3 : (v0 : Int32).toInt ≠ 3 := fun q => h3 (Int32.toInt_inj.mp (q.trans (by decide)))
  have e4 : (v0 : Int32).toInt ≠ 4 := fun q => h4 (Int32.toInt_inj.mp (q.trans (by decide)))
  have e5 : (v0 : Int32).toInt ≠ 5 := fun q => h5 (Int32.toInt_inj.mp (q.trans (by decide)))
  have e6 : (v0 : Int32).toInt ≠ 6 := fun q => h6 (Int32.toInt_inj.mp (q.trans (by decide)))
  refine T_tableOut (pc := 1) (tgt := 77) dX12_comes_1 (by omega) (by decide) ?_
  refine T_lload_n (pc := 77) dX12_comes_77 rfl rfl ?_
  refine T_l2d (pc := 78) dX12_comes_78 ?_
  refine T_invS (pc := 79) (av := [jD (FP.l2d v1)]) (rest := []) dX12_comes_79 mf_Jxe99ae_doubleToLongBits_ccdee c_5_123 c_5_124 rfl (Nat.le_of_ble_eq_true rfl) rfl (iL_k (iL_m0 (fun x2 h H => ?_) (J_Jxe99ae_doubleToLongBits_ccdee (d := d) H)))
  exact T_lreturn (pc := 82) rfl dX12_comes_82 H
theorem I_X12_comes {d : Nat} {v0 : Int32} {v1 : Int64} {h : MH} {u : Nat} {K : Int64 → MH → Nat → Prop} (u1 : Nat) (hu : u1 ≤ u) (H : F_X12_comes d v0 v1 h u1 (fun x h2 => K x h2 (u - u1))) : iL (d + 2) u_X12_comes [jI v0, jL v1] h u K := inv.of u1 hu (Ct.of (by decide +kernel) rfl (Nat.le_of_ble_eq_true rfl) rfl (E_X12_comes H))
theorem J_X12_comes {d : Nat} {v0 : Int32} {v1 : Int64} {h : MH} {u : Nat} {K : Int64 → MH → Prop} (H : F_X12_comes d v0 v1 h 0 K) : iL (d + 2) u_X12_comes [jI v0, jL v1] h u (fun x h2 u2 => K x h2 ∧ u2 = u) := jiL (by decide +kernel) rfl (Nat.le_of_ble_eq_true rfl) rfl (E_X12_comes H)
theorem dX12_breaks_0 : decode cX12_breaks 0 = .ok (.aload_n 0, 1) := by decide +kernel
theorem dX12_breaks_1 : decode cX12_breaks 1 = .ok (.getfield 30, 3) := by decide +kernel
theorem dX12_breaks_4 : decode cX12_breaks 4 = .ok (.iload_n 1, 1) := by decide +kernel
theorem dX12_breaks_5 : decode cX12_breaks 5 = .ok (.iaload, 1) := by decide +kernel
theorem dX12_breaks_6 : decode cX12_breaks 6 = .ok (.istore_n 3, 1) := by decide +kernel
theorem dX12_breaks_7 : decode cX12_breaks 7 = .ok (.iload_n 3, 1) := by decide +kernel
theorem dX12_breaks_8 : decode cX12_breaks 8 = .ok (.iconst 3, 1) := by decide +kernel
theorem dX12_breaks_9 : decode cX12_breaks 9 = .ok (.if_icmp .ne 70, 3) := by decide +kernel
theorem dX12_breaks_12 : decode cX12_breaks 12 = .ok (.iconst 0, 1) := by decide +kernel
theorem dX12_breaks_13 : decode cX12_breaks 13 = .ok (.istore 4, 2) := by decide +kernel
theorem dX12_breaks_15 : decode cX12_breaks 15 = .ok (.iconst 0, 1) := by decide +kernel
theorem dX12_breaks_16 : decode cX12_breaks 16 = .ok (.istore 5, 2) := by decide +kernel
theorem dX12_breaks_18 : decode cX12_breaks 18 = .ok (.iload 5, 2) := by decide +kernel
theorem dX12_breaks_20 : decode cX12_breaks 20 = .ok (.aload_n 0, 1) := by decide +kernel
theorem dX12_breaks_21 : decode cX12_breaks 21 = .ok (.getfield 42, 3) := by decide +kernel
theorem dX12_breaks_24 : decode cX12_breaks 24 = .ok (.iload_n 2, 1) := by decide +kernel
theorem dX12_breaks_25 : decode cX12_breaks 25 = .ok (.iaload, 1) := by decide +kernel
theorem dX12_breaks_26 : decode cX12_breaks 26 = .ok (.if_icmp .ge 50, 3) := by decide +kernel
theorem dX12_breaks_29 : decode cX12_breaks 29 = .ok (.iload 4, 2) := by decide +kernel
theorem dX12_breaks_31 : decode cX12_breaks 31 = .ok (.ifCond .ne 32, 3) := by decide +kernel
theorem dX12_breaks_34 : decode cX12_breaks 34 = .ok (.aload_n 0, 1) := by decide +kernel
theorem dX12_breaks_35 : decode cX12_breaks 35 = .ok (.getfield 48, 3) := by decide +kernel
theorem dX12_breaks_38 : decode cX12_breaks 38 = .ok (.bipush 8, 2) := by decide +kernel
theorem dX12_breaks_40 : decode cX12_breaks 40 = .ok (.iload_n 2, 1) := by decide +kernel
theorem dX12_breaks_41 : decode cX12_breaks 41 = .ok (.imul, 1) := by decide +kernel
theorem dX12_breaks_42 : decode cX12_breaks 42 = .ok (.iload 5, 2) := by decide +kernel
theorem dX12_breaks_44 : decode cX12_breaks 44 = .ok (.iadd, 1) := by decide +kernel
theorem dX12_breaks_45 : decode cX12_breaks 45 = .ok (.iaload, 1) := by decide +kernel
theorem dX12_breaks_46 : decode cX12_breaks 46 = .ok (.bipush 8, 2) := by decide +kernel
theorem dX12_breaks_48 : decode cX12_breaks 48 = .ok (.if_icmp .lt 19, 3) := by decide +kernel
theorem dX12_breaks_51 : decode cX12_breaks 51 = .ok (.aload_n 0, 1) := by decide +kernel
theorem dX12_breaks_52 : decode cX12_breaks 52 = .ok (.getfield 87, 3) := by decide +kernel
theorem dX12_breaks_55 : decode cX12_breaks 55 = .ok (.iload 5, 2) := by decide +kernel
theorem dX12_breaks_57 : decode cX12_breaks 57 = .ok (.laload, 1) := by decide +kernel
theorem dX12_breaks_58 : decode cX12_breaks 58 = .ok (.lconst 0, 1) := by decide +kernel
theorem dX12_breaks_59 : decode cX12_breaks 59 = .ok (.lcmp, 1) := by decide +kernel
theorem dX12_breaks_60 : decode cX12_breaks 60 = .ok (.ifCond .ge 7, 3) := by decide +kernel
theorem dX12_breaks_63 : decode cX12_breaks 63 = .ok (.iconst 1, 1) := by decide +kernel
theorem dX12_breaks_64 : decode cX12_breaks 64 = .ok (.goto 4, 3) := by decide +kernel
theorem dX12_breaks_67 : decode cX12_breaks 67 = .ok (.iconst 0, 1) := by decide +kernel
theorem dX12_breaks_68 : decode cX12_breaks 68 = .ok (.istore 4, 2) := by decide +kernel
theorem dX12_breaks_70 : decode cX12_breaks 70 = .ok (.iinc 5 1, 3) := by decide +kernel
theorem dX12_breaks_73 : decode cX12_breaks 73 = .ok (.goto (-55), 3) := by decide +kernel
theorem dX12_breaks_76 : decode cX12_breaks 76 = .ok (.iload 4, 2) := by decide +kernel
theorem dX12_breaks_78 : decode cX12_breaks 78 = .ok (.ireturn, 1) := by decide +kernel
theorem dX12_breaks_79 : decode cX12_breaks 79 = .ok (.iload_n 3, 1) := by decide +kernel
theorem dX12_breaks_80 : decode cX12_breaks 80 = .ok (.iconst 1, 1) := by decide +kernel
theorem dX12_breaks_81 : decode cX12_breaks 81 = .ok (.if_icmp .eq 8, 3) := by decide +kernel
theorem dX12_breaks_84 : decode cX12_breaks 84 = .ok (.iload_n 3, 1) := by decide +kernel
theorem dX12_breaks_85 : decode cX12_breaks 85 = .ok (.iconst 2, 1) := by decide +kernel
theorem dX12_breaks_86 : decode cX12_breaks 86 = .ok (.if_icmp .ne 65, 3) := by decide +kernel
theorem dX12_breaks_89 : decode cX12_breaks 89 = .ok (.aload_n 0, 1) := by decide +kernel
theorem dX12_breaks_90 : decode cX12_breaks 90 = .ok (.getfield 42, 3) := by decide +kernel
theorem dX12_breaks_93 : decode cX12_breaks 93 = .ok (.iload_n 2, 1) := by decide +kernel
theorem dX12_breaks_94 : decode cX12_breaks 94 = .ok (.iaload, 1) := by decide +kernel
theorem dX12_breaks_95 : decode cX12_breaks 95 = .ok (.iconst 2, 1) := by decide +kernel
theorem dX12_breaks_96 : decode cX12_breaks 96 = .ok (.if_icmp .lt 55, 3) := by decide +kernel
theorem dX12_breaks_99 : decode cX12_breaks 99 = .ok (.aload_n 0, 1) := by decide +kernel
theorem dX12_breaks_100 : decode cX12_breaks 100 = .ok (.getfield 48, 3) := by decide +kernel
theorem dX12_breaks_103 : decode cX12_breaks 103 = .ok (.bipush 8, 2) := by decide +kernel
theorem dX12_breaks_105 : decode cX12_breaks 105 = .ok (.iload_n 2, 1) := by decide +kernel
theorem dX12_breaks_106 : decode cX12_breaks 106 = .ok (.imul, 1) := by decide +kernel
theorem dX12_breaks_107 : decode cX12_breaks 107 = .ok (.iaload, 1) := by decide +kernel
theorem dX12_breaks_108 : decode cX12_breaks 108 = .ok (.iconst 1, 1) := by decide +kernel
theorem dX12_breaks_109 : decode cX12_breaks 109 = .ok (.iconst 5, 1) := by decide +kernel
theorem dX12_breaks_110 : decode cX12_breaks 110 = .ok (.invokestatic 156, 3) := by decide +kernel
theorem dX12_breaks_113 : decode cX12_breaks 113 = .ok (.ifCond .eq 38, 3) := by decide +kernel
theorem dX12_breaks_116 : decode cX12_breaks 116 = .ok (.aload_n 0, 1) := by decide +kernel
theorem dX12_breaks_117 : decode cX12_breaks 117 = .ok (.getfield 48, 3) := by decide +kernel
theorem dX12_breaks_120 : decode cX12_breaks 120 = .ok (.bipush 8, 2) := by decide +kernel
theorem dX12_breaks_122 : decode cX12_breaks 122 = .ok (.iload_n 2, 1) := by decide +kernel
theorem dX12_breaks_123 : decode cX12_breaks 123 = .ok (.imul, 1) := by decide +kernel
theorem dX12_breaks_124 : decode cX12_breaks 124 = .ok (.iconst 1, 1) := by decide +kernel
theorem dX12_breaks_125 : decode cX12_breaks 125 = .ok (.iadd, 1) := by decide +kernel
theorem dX12_breaks_126 : decode cX12_breaks 126 = .ok (.iaload, 1) := by decide +kernel
theorem dX12_breaks_127 : decode cX12_breaks 127 = .ok (.iconst 1, 1) := by decide +kernel
theorem dX12_breaks_128 : decode cX12_breaks 128 = .ok (.iconst 5, 1) := by decide +kernel
theorem dX12_breaks_129 : decode cX12_breaks 129 = .ok (.invokestatic 156, 3) := by decide +kernel
theorem dX12_breaks_132 : decode cX12_breaks 132 = .ok (.ifCond .eq 19, 3) := by decide +kernel
theorem dX12_breaks_135 : decode cX12_breaks 135 = .ok (.aload_n 0, 1) := by decide +kernel
theorem dX12_breaks_136 : decode cX12_breaks 136 = .ok (.getfield 87, 3) := by decide +kernel
theorem dX12_breaks_139 : decode cX12_breaks 139 = .ok (.iconst 0, 1) := by decide +kernel
theorem dX12_breaks_140 : decode cX12_breaks 140 = .ok (.laload, 1) := by decide +kernel
theorem dX12_breaks_141 : decode cX12_breaks 141 = .ok (.aload_n 0, 1) := by decide +kernel
theorem dX12_breaks_142 : decode cX12_breaks 142 = .ok (.getfield 87, 3) := by decide +kernel
theorem dX12_breaks_145 : decode cX12_breaks 145 = .ok (.iconst 1, 1) := by decide +kernel
theorem dX12_breaks_146 : decode cX12_breaks 146 = .ok (.laload, 1) := by decide +kernel
theorem dX12_breaks_147 : decode cX12_breaks 147 = .ok (.lcmp, 1) := by decide +kernel
theorem dX12_breaks_148 : decode cX12_breaks 148 = .ok (.ifCond .gt 5, 3) := by decide +kernel
theorem dX12_breaks_151 : decode cX12_breaks 151 = .ok (.iconst 0, 1) := by decide +kernel
theorem dX12_breaks_152 : decode cX12_breaks 152 = .ok (.ireturn, 1) := by decide +kernel
theorem dX12_breaks_153 : decode cX12_breaks 153 = .ok (.iload_n 3, 1) := by decide +kernel
theorem dX12_breaks_154 : decode cX12_breaks 154 = .ok (.iconst 2, 1) := by decide +kernel
theorem dX12_breaks_155 : decode cX12_breaks 155 = .ok (.if_icmp .ne 57, 3) := by decide +kernel
theorem dX12_breaks_158 : decode cX12_breaks 158 = .ok (.aload_n 0, 1) := by decide +kernel
theorem dX12_breaks_159 : decode cX12_breaks 159 = .ok (.getfield 87, 3) := by decide +kernel
theorem dX12_breaks_162 : decode cX12_breaks 162 = .ok (.iconst 0, 1) := by decide +kernel
theorem dX12_breaks_163 : decode cX12_breaks 163 = .ok (.laload, 1) := by decide +kernel
theorem dX12_breaks_164 : decode cX12_breaks 164 = .ok (.lstore 4, 2) := by decide +kernel
theorem dX12_breaks_166 : decode cX12_breaks 166 = .ok (.aload_n 0, 1) := by decide +kernel
theorem dX12_breaks_167 : decode cX12_breaks 167 = .ok (.getfield 87, 3) := by decide +kernel
theorem dX12_breaks_170 : decode cX12_breaks 170 = .ok (.iconst 0, 1) := by decide +kernel
theorem dX12_breaks_171 : decode cX12_breaks 171 = .ok (.aload_n 0, 1) := by decide +kernel
theorem dX12_breaks_172 : decode cX12_breaks 172 = .ok (.getfield 48, 3) := by decide +kernel
theorem dX12_breaks_175 : decode cX12_breaks 175 = .ok (.bipush 8, 2) := by decide +kernel
theorem dX12_breaks_177 : decode cX12_breaks 177 = .ok (.iload_n 2, 1) := by decide +kernel
theorem dX12_breaks_178 : decode cX12_breaks 178 = .ok (.imul, 1) := by decide +kernel
theorem dX12_breaks_179 : decode cX12_breaks 179 = .ok (.iaload, 1) := by decide +kernel
theorem dX12_breaks_180 : decode cX12_breaks 180 = .ok (.aload_n 0, 1) := by decide +kernel
theorem dX12_breaks_181 : decode cX12_breaks 181 = .ok (.getfield 87, 3) := by decide +kernel
theorem dX12_breaks_184 : decode cX12_breaks 184 = .ok (.iconst 1, 1) := by decide +kernel
theorem dX12_breaks_185 : decode cX12_breaks 185 = .ok (.laload, 1) := by decide +kernel
theorem dX12_breaks_186 : decode cX12_breaks 186 = .ok (.invokestatic 178, 3) := by decide +kernel
theorem dX12_breaks_189 : decode cX12_breaks 189 = .ok (.lastore, 1) := by decide +kernel
theorem dX12_breaks_190 : decode cX12_breaks 190 = .ok (.aload_n 0, 1) := by decide +kernel
theorem dX12_breaks_191 : decode cX12_breaks 191 = .ok (.getfield 87, 3) := by decide +kernel
theorem dX12_breaks_194 : decode cX12_breaks 194 = .ok (.iconst 1, 1) := by decide +kernel
theorem dX12_breaks_195 : decode cX12_breaks 195 = .ok (.aload_n 0, 1) := by decide +kernel
theorem dX12_breaks_196 : decode cX12_breaks 196 = .ok (.getfield 48, 3) := by decide +kernel
theorem dX12_breaks_199 : decode cX12_breaks 199 = .ok (.bipush 8, 2) := by decide +kernel
theorem dX12_breaks_201 : decode cX12_breaks 201 = .ok (.iload_n 2, 1) := by decide +kernel
theorem dX12_breaks_202 : decode cX12_breaks 202 = .ok (.imul, 1) := by decide +kernel
theorem dX12_breaks_203 : decode cX12_breaks 203 = .ok (.iconst 1, 1) := by decide +kernel
theorem dX12_breaks_204 : decode cX12_breaks 204 = .ok (.iadd, 1) := by decide +kernel
theorem dX12_breaks_205 : decode cX12_breaks 205 = .ok (.iaload, 1) := by decide +kernel
theorem dX12_breaks_206 : decode cX12_breaks 206 = .ok (.lload 4, 2) := by decide +kernel
theorem dX12_breaks_208 : decode cX12_breaks 208 = .ok (.invokestatic 178, 3) := by decide +kernel
theorem dX12_breaks_211 : decode cX12_breaks 211 = .ok (.lastore, 1) := by decide +kernel
theorem dX12_breaks_212 : decode cX12_breaks 212 = .ok (.iload_n 3, 1) := by decide +kernel
theorem dX12_breaks_213 : decode cX12_breaks 213 = .ok (.iconst 1, 1) := by decide +kernel
theorem dX12_breaks_214 : decode cX12_breaks 214 = .ok (.if_icmp .ne 7, 3) := by decide +kernel
theorem dX12_breaks_217 : decode cX12_breaks 217 = .ok (.iconst 1, 1) := by decide +kernel
theorem dX12_breaks_218 : decode cX12_breaks 218 = .ok (.goto 4, 3) := by decide +kernel
theorem dX12_breaks_221 : decode cX12_breaks 221 = .ok (.iconst 0, 1) := by decide +kernel
theorem dX12_breaks_222 : decode cX12_breaks 222 = .ok (.ireturn, 1) := by decide +kernel
def L_X12_breaks_18 (d : Nat) (v0 : Option Nm) (v2 : Int32) (v4 : Int32) (v5 : Int32) (h : MH) (u : Nat) (Q : Int32 → MH → Prop) : Prop := T u_X12_breaks (d + 3) 18 [some (jR v0), none, some (jI v2), none, some (jI v4), some (jI v5)] [] h u (qI Q)
def F_X12_breaks_89 (d : Nat) (v0 : Option Nm) (v2 : Int32) (v3 : Int32) (h : MH) (u : Nat) (Q : Int32 → MH → Prop) : Prop :=
  gR h v0 11 15 fun x1 =>
  aI .int h x1 v2 fun x2 =>
  if x2 < 2 then
    nz 0 ∧ Q 0 h
  else
    gR h v0 11 17 fun x3 =>
    aI .int h x3 (8 * v2) fun x4 =>
    F_X12_in (d + 2) x4 1 5 h 0 fun x5 h =>
    if x5 = 0 then
      nz 0 ∧ Q 0 h
    else
      gR h v0 11 17 fun x6 =>
      aI .int h x6 ((8 * v2) + 1) fun x7 =>
      F_X12_in (d + 2) x7 1 5 h 0 fun x8 h =>
      if x8 = 0 then
        nz 0 ∧ Q 0 h
      else
        gR h v0 11 32 fun x9 =>
        aL h x9 0 fun x10 =>
        gR h v0 11 32 fun x11 =>
        aL h x11 1 fun x12 =>
        if 0 < (lg_cmp x10 x12) then
          if v3 = 2 then
            gR h v0 11 32 fun x13 =>
            aL h x13 0 fun x14 =>
            gR h v0 11 32 fun x15 =>
            gR h v0 11 17 fun x16 =>
            aI .int h x16 (8 * v2) fun x17 =>
            gR h v0 11 32 fun x18 =>
            aL h x18 1 fun x19 =>
            F_X12_comes d x17 x19 h 0 fun x20 h =>
            sV .long h x15 0 (jL x20) fun h =>
            gR h v0 11 32 fun x21 =>
            gR h v0 11 17 fun x22 =>
            aI .int h x22 ((8 * v2) + 1) fun x23 =>
            F_X12_comes d x23 x14 h 0 fun x24 h =>
            sV .long h x21 1 (jL x24) fun h =>
            if v3 = 1 then
              nz 1 ∧ Q 1 h
            else
              nz 0 ∧ Q 0 h
          else
            if v3 = 1 then
              nz 1 ∧ Q 1 h
            else
              nz 0 ∧ Q 0 h
        else
          nz 0 ∧ Q 0 h
set_option maxRecDepth 20000 in
theorem E_X12_breaks_89 {d : Nat} {v0 : Option Nm} {v2 : Int32} {v3 : Int32} {h : MH} {u : Nat} {Q : Int32 → MH → Prop} (H : F_X12_breaks_89 d v0 v2 v3 h u Q) : T u_X12_breaks (d + 3) 89 [some (jR v0), none, some (jI v2), some (jI v3), none, none] [] h u (qI Q) := by
  unfold F_X12_breaks_89 at H
  refine T_aload_n (pc := 89) dX12_breaks_89 rfl rfl ?_
  refine T_gR (pc := 90) fa_X12_42 dX12_breaks_90 (gR_mono (fun x1 H => ?_) H)
  refine T_iload_n (pc := 93) dX12_breaks_93 rfl rfl ?_
  refine T_aI (pc := 94) dX12_breaks_94 (aI_mono (fun x2 H => ?_) H)
  refine T_iconst (pc := 95) (v := 2) dX12_breaks_95 (by decide) ?_
  refine T_icmp_lt (pc := 96) (tgt := 151) dX12_breaks_96 (by decide) (fun hc => ?_) (fun hc => ?_)
  · rw [if_pos hc] at H
    refine T_iconst (pc := 151) (v := 0) dX12_breaks_151 (by decide) ?_
    exact T_ireturn (pc := 152) rfl (nz_nar H.1) dX12_breaks_152 H.2
  · rw [if_neg hc] at H
    refine T_aload_n (pc := 99) dX12_breaks_99 rfl rfl ?_
    refine T_gR (pc := 100) fa_X12_48 dX12_breaks_100 (gR_mono (fun x3 H => ?_) H)
    refine T_bipush (pc := 103) (v := 8) dX12_breaks_103 (by decide) ?_
    refine T_iload_n (pc := 105) dX12_breaks_105 rfl rfl ?_
    refine T_imul (pc := 106) dX12_breaks_106 ?_
    refine T_aI (pc := 107) dX12_breaks_107 (aI_mono (fun x4 H => ?_) H)
    refine T_iconst (pc := 108) (v := 1) dX12_breaks_108 (by decide) ?_
    refine T_iconst (pc := 109) (v := 5) dX12_breaks_109 (by decide) ?_
    refine T_invS (pc := 110) (av := [jI x4, jI 1, jI 5]) (rest := []) dX12_breaks_110 mf_X12_in c_5_86 c_5_87 rfl (Nat.le_of_ble_eq_true rfl) rfl (iI_k (iI_m0 (fun x5 h H => ?_) (J_X12_in (d := (d + 2)) H)))
    refine T_if_eq (pc := 113) (tgt := 151) dX12_breaks_113 (by decide) (fun hc => ?_) (fun hc => ?_)
    · rw [if_pos hc] at H
      refine T_iconst (pc := 151) (v := 0) dX12_breaks_151 (by decide) ?_
      exact T_ireturn (pc := 152) rfl (nz_nar H.1) dX12_breaks_152 H.2
    · rw [if_neg hc] at H
      refine T_aload_n (pc := 116) dX12_breaks_116 rfl rfl ?_
      refine T_gR (pc := 117) fa_X12_48 dX12_breaks_117 (gR_mono (fun x6 H => ?_) H)
      refine T_bipush (pc := 120) (v := 8) dX12_breaks_120 (by decide) ?_
      refine T_iload_n (pc := 122) dX12_breaks_122 rfl rfl ?_
      refine T_imul (pc := 123) dX12_breaks_123 ?_
      refine T_iconst (pc := 124) (v := 1) dX12_breaks_124 (by decide) ?_
      refine T_iadd (pc := 125) dX12_breaks_125 ?_
      refine T_aI (pc := 126) dX12_breaks_126 (aI_mono (fun x7 H => ?_) H)
      refine T_iconst (pc := 127) (v := 1) dX12_breaks_127 (by decide) ?_
      refine T_iconst (pc := 128) (v := 5) dX12_breaks_128 (by decide) ?_
      refine T_invS (pc := 129) (av := [jI x7, jI 1, jI 5]) (rest := []) dX12_breaks_129 mf_X12_in c_5_86 c_5_87 rfl (Nat.le_of_ble_eq_true rfl) rfl (iI_k (iI_m0 (fun x8 h H => ?_) (J_X12_in (d := (d + 2)) H)))
      refine T_if_eq (pc := 132) (tgt := 151) dX12_breaks_132 (by decide) (fun hc => ?_) (fun hc => ?_)
      · rw [if_pos hc] at H
        refine T_iconst (pc := 151) (v := 0) dX12_breaks_151 (by decide) ?_
        exact T_ireturn (pc := 152) rfl (nz_nar H.1) dX12_breaks_152 H.2
      · rw [if_neg hc] at H
        refine T_aload_n (pc := 135) dX12_breaks_135 rfl rfl ?_
        refine T_gR (pc := 136) fa_X12_87 dX12_breaks_136 (gR_mono (fun x9 H => ?_) H)
        refine T_iconst (pc := 139) (v := 0) dX12_breaks_139 (by decide) ?_
        refine T_aL (pc := 140) dX12_breaks_140 (aL_mono (fun x10 H => ?_) H)
        refine T_aload_n (pc := 141) dX12_breaks_141 rfl rfl ?_
        refine T_gR (pc := 142) fa_X12_87 dX12_breaks_142 (gR_mono (fun x11 H => ?_) H)
        refine T_iconst (pc := 145) (v := 1) dX12_breaks_145 (by decide) ?_
        refine T_aL (pc := 146) dX12_breaks_146 (aL_mono (fun x12 H => ?_) H)
        refine T_lcmp (pc := 147) dX12_breaks_147 ?_
        refine T_if_gt (pc := 148) (tgt := 153) dX12_breaks_148 (by decide) (fun hc => ?_) (fun hc => ?_)
        · rw [if_pos hc] at H
          refine T_iload_n (pc := 153) dX12_breaks_153 rfl rfl ?_
          refine T_iconst (pc := 154) (v := 2) dX12_breaks_154 (by decide) ?_
          refine T_icmp_ne (pc := 155) (tgt := 212) dX12_breaks_155 (by decide) (fun hc => ?_) (fun hc => ?_)
          · rw [if_neg hc] at H
            refine T_iload_n (pc := 212) dX12_breaks_212 rfl rfl ?_
            refine T_iconst (pc := 213) (v := 1) dX12_breaks_213 (by decide) ?_
            refine T_icmp_ne (pc := 214) (tgt := 221) dX12_breaks_214 (by decide) (fun hc => ?_) (fun hc => ?_)
            · rw [if_neg hc] at H
              refine T_iconst (pc := 221) (v := 0) dX12_breaks_221 (by decide) ?_
              exact T_ireturn (pc := 222) rfl (nz_nar H.1) dX12_breaks_222 H.2
            · rw [if_pos hc] at H
              refine T_iconst (pc := 217) (v := 1) dX12_breaks_217 (by decide) ?_
              refine T_goto (pc := 218) (tgt := 222) dX12_breaks_218 (by decide) ?_
              exact T_ireturn (pc := 222) rfl (nz_nar H.1) dX12_breaks_222 H.2
          · rw [if_pos hc] at H
            refine T_aload_n (pc := 158) dX12_breaks_158 rfl rfl ?_
            refine T_gR (pc := 159) fa_X12_87 dX12_breaks_159 (gR_mono (fun x13 H => ?_) H)
            refine T_iconst (pc := 162) (v := 0) dX12_breaks_162 (by decide) ?_
            refine T_aL (pc := 163) dX12_breaks_163 (aL_mono (fun x14 H => ?_) H)
            refine T_lstore (pc := 164) (ls2 := [some (jR v0), none, some (jI v2), some (jI v3), some (jL x14), none]) dX12_breaks_164 (Nat.le_of_ble_eq_true rfl) rfl ?_
            refine T_aload_n (pc := 166) dX12_breaks_166 rfl rfl ?_
            refine T_gR (pc := 167) fa_X12_87 dX12_breaks_167 (gR_mono (fun x15 H => ?_) H)
            refine T_iconst (pc := 170) (v := 0) dX12_breaks_170 (by decide) ?_
            refine T_aload_n (pc := 171) dX12_breaks_171 rfl rfl ?_
            refine T_gR (pc := 172) fa_X12_48 dX12_breaks_172 (gR_mono (fun x16 H => ?_) H)
            refine T_bipush (pc := 175) (v := 8) dX12_breaks_175 (by decide) ?_
            refine T_iload_n (pc := 177) dX12_breaks_177 rfl rfl ?_
            refine T_imul (pc := 178) dX12_breaks_178 ?_
            refine T_aI (pc := 179) dX12_breaks_179 (aI_mono (fun x17 H => ?_) H)
            refine T_aload_n (pc := 180) dX12_breaks_180 rfl rfl ?_
            refine T_gR (pc := 181) fa_X12_87 dX12_breaks_181 (gR_mono (fun x18 H => ?_) H)
            refine T_iconst (pc := 184) (v := 1) dX12_breaks_184 (by decide) ?_
            refine T_aL (pc := 185) dX12_breaks_185 (aL_mono (fun x19 H => ?_) H)
            refine T_invS (pc := 186) (av := [jI x17, jL x19]) (rest := [jI 0, jR x15]) dX12_breaks_186 mf_X12_comes c_5_109 c_5_110 rfl (Nat.le_of_ble_eq_true rfl) rfl (iL_k (iL_m0 (fun x20 h H => ?_) (J_X12_comes (d := d) H)))
            refine T_sL (pc := 189) dX12_breaks_189 (sV_mono (fun h H => ?_) H)
            refine T_aload_n (pc := 190) dX12_breaks_190 rfl rfl ?_
            refine T_gR (pc := 191) fa_X12_87 dX12_breaks_191 (gR_mono (fun x21 H => ?_) H)
            refine T_iconst (pc := 194) (v := 1) dX12_breaks_194 (by decide) ?_
            refine T_aload_n (pc := 195) dX12_breaks_195 rfl rfl ?_
            refine T_gR (pc := 196) fa_X12_48 dX12_breaks_196 (gR_mono (fun x22 H => ?_) H)
            refine T_bipush (pc := 199) (v := 8) dX12_breaks_199 (by decide) ?_
            refine T_iload_n (pc := 201) dX12_breaks_201 rfl rfl ?_
            refine T_imul (pc := 202) dX12_breaks_202 ?_
            refine T_iconst (pc := 203) (v := 1) dX12_breaks_203 (by decide) ?_
            refine T_iadd (pc := 204) dX12_breaks_204 ?_
            refine T_aI (pc := 205) dX12_breaks_205 (aI_mono (fun x23 H => ?_) H)
            refine T_lload (pc := 206) dX12_breaks_206 rfl ?_
            refine T_invS (pc := 208) (av := [jI x23, jL x14]) (rest := [jI 1, jR x21]) dX12_breaks_208 mf_X12_comes c_5_109 c_5_110 rfl (Nat.le_of_ble_eq_true rfl) rfl (iL_k (iL_m0 (fun x24 h H => ?_) (J_X12_comes (d := d) H)))
            refine T_sL (pc := 211) dX12_breaks_211 (sV_mono (fun h H => ?_) H)
            refine T_iload_n (pc := 212) dX12_breaks_212 rfl rfl ?_
            refine T_iconst (pc := 213) (v := 1) dX12_breaks_213 (by decide) ?_
            refine T_icmp_ne (pc := 214) (tgt := 221) dX12_breaks_214 (by decide) (fun hc => ?_) (fun hc => ?_)
            · rw [if_neg hc] at H
              refine T_iconst (pc := 221) (v := 0) dX12_breaks_221 (by decide) ?_
              exact T_ireturn (pc := 222) rfl (nz_nar H.1) dX12_breaks_222 H.2
            · rw [if_pos hc] at H
              refine T_iconst (pc := 217) (v := 1) dX12_breaks_217 (by decide) ?_
              refine T_goto (pc := 218) (tgt := 222) dX12_breaks_218 (by decide) ?_
              exact T_ireturn (pc := 222) rfl (nz_nar H.1) dX12_breaks_222 H.2
        · rw [if_neg hc] at H
          refine T_iconst (pc := 151) (v := 0) dX12_breaks_151 (by decide) ?_
          exact T_ireturn (pc := 152) rfl (nz_nar H.1) dX12_breaks_152 H.2
def F_X12_breaks (d : Nat) (v0 : Option Nm) (v1 : Int32) (v2 : Int32) (h : MH) (u : Nat) (Q : Int32 → MH → Prop) : Prop :=
  gR h v0 11 11 fun x1 =>
  aI .int h x1 v1 fun x2 =>
  if x2 = 3 then
    L_X12_breaks_18 d v0 v2 0 0 h u Q
  else
    if x2 = 1 then
      F_X12_breaks_89 d v0 v2 x2 h u Q
    else
      if x2 = 2 then
        F_X12_breaks_89 d v0 v2 x2 h u Q
      else
        nz 0 ∧ Q 0 h
set_option maxRecDepth 20000 in
theorem E_X12_breaks {d : Nat} {v0 : Option Nm} {v1 : Int32} {v2 : Int32} {h : MH} {u : Nat} {Q : Int32 → MH → Prop} (H : F_X12_breaks d v0 v1 v2 h u Q) : T u_X12_breaks (d + 3) 0 [some (jR v0), some (jI v1), some (jI v2), none, none, none] [] h u (qI Q) := by
  unfold F_X12_breaks at H
  refine T_aload_n (pc := 0) dX12_breaks_0 rfl rfl ?_
  refine T_gR (pc := 1) fa_X12_30 dX12_breaks_1 (gR_mono (fun x1 H => ?_) H)
  refine T_iload_n (pc := 4) dX12_breaks_4 rfl rfl ?_
  refine T_aI (pc := 5) dX12_breaks_5 (aI_mono (fun x2 H => ?_) H)
  refine T_istore_n (pc := 6) (ls2 := [some (jR v0), some (jI v1), some (jI v2), some (jI x2), none, none]) dX12_breaks_6 rfl (Nat.le_of_ble_eq_true rfl) rfl ?_
  refine T_iload_n (pc := 7) dX12_breaks_7 rfl rfl ?_
  refine T_iconst (pc := 8) (v := 3) dX12_breaks_8 (by decide) ?_
  refine T_icmp_ne (pc := 9) (tgt := 79) dX12_breaks_9 (by decide) (fun hc => ?_) (fun hc => ?_)
  · rw [if_neg hc] at H
    refine T_iload_n (pc := 79) dX12_breaks_79 rfl rfl ?_
    refine T_iconst (pc := 80) (v := 1) dX12_breaks_80 (by decide) ?_
    refine T_icmp_eq (pc := 81) (tgt := 89) dX12_breaks_81 (by decide) (fun hc => ?_) (fun hc => ?_)
    · rw [if_pos hc] at H
      exact T.forget (E_X12_breaks_89 H) ⟨rfl, rfl, rfl, trivial⟩
    · rw [if_neg hc] at H
      refine T_iload_n (pc := 84) dX12_breaks_84 rfl rfl ?_
      refine T_iconst (pc := 85) (v := 2) dX12_breaks_85 (by decide) ?_
      refine T_icmp_ne (pc := 86) (tgt := 151) dX12_breaks_86 (by decide) (fun hc => ?_) (fun hc => ?_)
      · rw [if_neg hc] at H
        refine T_iconst (pc := 151) (v := 0) dX12_breaks_151 (by decide) ?_
        exact T_ireturn (pc := 152) rfl (nz_nar H.1) dX12_breaks_152 H.2
      · rw [if_pos hc] at H
        exact T.forget (E_X12_breaks_89 H) ⟨rfl, rfl, rfl, trivial⟩
  · rw [if_pos hc] at H
    refine T_iconst (pc := 12) (v := 0) dX12_breaks_12 (by decide) ?_
    refine T_istore (pc := 13) (ls2 := [some (jR v0), some (jI v1), some (jI v2), some (jI x2), some (jI 0), none]) dX12_breaks_13 (Nat.le_of_ble_eq_true rfl) rfl ?_
    refine T_iconst (pc := 15) (v := 0) dX12_breaks_15 (by decide) ?_
    refine T_istore (pc := 16) (ls2 := [some (jR v0), some (jI v1), some (jI v2), some (jI x2), some (jI 0), some (jI 0)]) dX12_breaks_16 (Nat.le_of_ble_eq_true rfl) rfl ?_
    exact T.forget H ⟨rfl, rfl, rfl, rfl, trivial⟩
def F_X12_breaks_18 (d : Nat) (v0 : Option Nm) (v2 : Int32) (v4 : Int32) (v5 : Int32) (h : MH) (u : Nat) (Q : Int32 → MH → Prop) : Prop :=
  gR h v0 11 15 fun x1 =>
  aI .int h x1 v2 fun x2 =>
  if x2 ≤ v5 then
    nz v4 ∧ Q v4 h
  else
    if v4 = 0 then
      gR h v0 11 17 fun x3 =>
      aI .int h x3 ((8 * v2) + v5) fun x4 =>
      if x4 < 8 then
        L_X12_breaks_18 d v0 v2 0 (v5 + 1) h u Q
      else
        gR h v0 11 32 fun x5 =>
        aL h x5 v5 fun x6 =>
        if 0 ≤ (lg_cmp x6 0) then
          L_X12_breaks_18 d v0 v2 0 (v5 + 1) h u Q
        else
          L_X12_breaks_18 d v0 v2 1 (v5 + 1) h u Q
    else
      L_X12_breaks_18 d v0 v2 1 (v5 + 1) h u Q
set_option maxRecDepth 20000 in
theorem E_X12_breaks_18 {d : Nat} {v0 : Option Nm} {v2 : Int32} {v4 : Int32} {v5 : Int32} {h : MH} {u : Nat} {Q : Int32 → MH → Prop} (H : F_X12_breaks_18 d v0 v2 v4 v5 h u Q) : T u_X12_breaks (d + 3) 18 [some (jR v0), none, some (jI v2), none, some (jI v4), some (jI v5)] [] h u (qI Q) := by
  unfold F_X12_breaks_18 at H
  refine T_iload (pc := 18) dX12_breaks_18 rfl ?_
  refine T_aload_n (pc := 20) dX12_breaks_20 rfl rfl ?_
  refine T_gR (pc := 21) fa_X12_42 dX12_breaks_21 (gR_mono (fun x1 H => ?_) H)
  refine T_iload_n (pc := 24) dX12_breaks_24 rfl rfl ?_
  refine T_aI (pc := 25) dX12_breaks_25 (aI_mono (fun x2 H => ?_) H)
  refine T_icmp_ge (pc := 26) (tgt := 76) dX12_breaks_26 (by decide) (fun hc => ?_) (fun hc => ?_)
  · rw [if_pos hc] at H
    refine T_iload (pc := 76) dX12_breaks_76 rfl ?_
    exact T_ireturn (pc := 78) rfl (nz_nar H.1) dX12_breaks_78 H.2
  · rw [if_neg hc] at H
    refine T_iload (pc := 29) dX12_breaks_29 rfl ?_
    refine T_if_ne (pc := 31) (tgt := 63) dX12_breaks_31 (by decide) (fun hc => ?_) (fun hc => ?_)
    · rw [if_neg hc] at H
      refine T_iconst (pc := 63) (v := 1) dX12_breaks_63 (by decide) ?_
      refine T_goto (pc := 64) (tgt := 68) dX12_breaks_64 (by decide) ?_
      refine T_istore (pc := 68) (ls2 := [some (jR v0), none, some (jI v2), none, some (jI 1), some (jI v5)]) dX12_breaks_68 (Nat.le_of_ble_eq_true rfl) rfl ?_
      refine T_iinc (pc := 70) (v := v5 + 1) (ls2 := [some (jR v0), none, some (jI v2), none, some (jI 1), some (jI (v5 + 1))]) dX12_breaks_70 rfl rfl (Nat.le_of_ble_eq_true rfl) rfl ?_
      refine T_goto (pc := 73) (tgt := 18) dX12_breaks_73 (by decide) ?_
      exact T.forget H ⟨rfl, rfl, rfl, rfl, trivial⟩
    · rw [if_pos hc] at H
      refine T_aload_n (pc := 34) dX12_breaks_34 rfl rfl ?_
      refine T_gR (pc := 35) fa_X12_48 dX12_breaks_35 (gR_mono (fun x3 H => ?_) H)
      refine T_bipush (pc := 38) (v := 8) dX12_breaks_38 (by decide) ?_
      refine T_iload_n (pc := 40) dX12_breaks_40 rfl rfl ?_
      refine T_imul (pc := 41) dX12_breaks_41 ?_
      refine T_iload (pc := 42) dX12_breaks_42 rfl ?_
      refine T_iadd (pc := 44) dX12_breaks_44 ?_
      refine T_aI (pc := 45) dX12_breaks_45 (aI_mono (fun x4 H => ?_) H)
      refine T_bipush (pc := 46) (v := 8) dX12_breaks_46 (by decide) ?_
      refine T_icmp_lt (pc := 48) (tgt := 67) dX12_breaks_48 (by decide) (fun hc => ?_) (fun hc => ?_)
      · rw [if_pos hc] at H
        refine T_iconst (pc := 67) (v := 0) dX12_breaks_67 (by decide) ?_
        refine T_istore (pc := 68) (ls2 := [some (jR v0), none, some (jI v2), none, some (jI 0), some (jI v5)]) dX12_breaks_68 (Nat.le_of_ble_eq_true rfl) rfl ?_
        refine T_iinc (pc := 70) (v := v5 + 1) (ls2 := [some (jR v0), none, some (jI v2), none, some (jI 0), some (jI (v5 + 1))]) dX12_breaks_70 rfl rfl (Nat.le_of_ble_eq_true rfl) rfl ?_
        refine T_goto (pc := 73) (tgt := 18) dX12_breaks_73 (by decide) ?_
        exact T.forget H ⟨rfl, rfl, rfl, rfl, trivial⟩
      · rw [if_neg hc] at H
        refine T_aload_n (pc := 51) dX12_breaks_51 rfl rfl ?_
        refine T_gR (pc := 52) fa_X12_87 dX12_breaks_52 (gR_mono (fun x5 H => ?_) H)
        refine T_iload (pc := 55) dX12_breaks_55 rfl ?_
        refine T_aL (pc := 57) dX12_breaks_57 (aL_mono (fun x6 H => ?_) H)
        refine T_lconst (pc := 58) (v := 0) dX12_breaks_58 (by decide) ?_
        refine T_lcmp (pc := 59) dX12_breaks_59 ?_
        refine T_if_ge (pc := 60) (tgt := 67) dX12_breaks_60 (by decide) (fun hc => ?_) (fun hc => ?_)
        · rw [if_pos hc] at H
          refine T_iconst (pc := 67) (v := 0) dX12_breaks_67 (by decide) ?_
          refine T_istore (pc := 68) (ls2 := [some (jR v0), none, some (jI v2), none, some (jI 0), some (jI v5)]) dX12_breaks_68 (Nat.le_of_ble_eq_true rfl) rfl ?_
          refine T_iinc (pc := 70) (v := v5 + 1) (ls2 := [some (jR v0), none, some (jI v2), none, some (jI 0), some (jI (v5 + 1))]) dX12_breaks_70 rfl rfl (Nat.le_of_ble_eq_true rfl) rfl ?_
          refine T_goto (pc := 73) (tgt := 18) dX12_breaks_73 (by decide) ?_
          exact T.forget H ⟨rfl, rfl, rfl, rfl, trivial⟩
        · rw [if_neg hc] at H
          refine T_iconst (pc := 63) (v := 1) dX12_breaks_63 (by decide) ?_
          refine T_goto (pc := 64) (tgt := 68) dX12_breaks_64 (by decide) ?_
          refine T_istore (pc := 68) (ls2 := [some (jR v0), none, some (jI v2), none, some (jI 1), some (jI v5)]) dX12_breaks_68 (Nat.le_of_ble_eq_true rfl) rfl ?_
          refine T_iinc (pc := 70) (v := v5 + 1) (ls2 := [some (jR v0), none, some (jI v2), none, some (jI 1), some (jI (v5 + 1))]) dX12_breaks_70 rfl rfl (Nat.le_of_ble_eq_true rfl) rfl ?_
          refine T_goto (pc := 73) (tgt := 18) dX12_breaks_73 (by decide) ?_
          exact T.forget H ⟨rfl, rfl, rfl, rfl, trivial⟩
theorem I_X12_breaks {d : Nat} {v0 : Option Nm} {v1 : Int32} {v2 : Int32} {h : MH} {u : Nat} {K : Int32 → MH → Nat → Prop} (u1 : Nat) (hu : u1 ≤ u) (H : F_X12_breaks d v0 v1 v2 h u1 (fun x h2 => K x h2 (u - u1))) : iI (d + 3) u_X12_breaks [jR v0, jI v1, jI v2] h u K := inv.of u1 hu (Ct.of (by decide +kernel) rfl (Nat.le_of_ble_eq_true rfl) rfl (E_X12_breaks H))
theorem J_X12_breaks {d : Nat} {v0 : Option Nm} {v1 : Int32} {v2 : Int32} {h : MH} {u : Nat} {K : Int32 → MH → Prop} (H : F_X12_breaks d v0 v1 v2 h 0 K) : iI (d + 3) u_X12_breaks [jR v0, jI v1, jI v2] h u (fun x h2 u2 => K x h2 ∧ u2 = u) := jiI (by decide +kernel) rfl (Nat.le_of_ble_eq_true rfl) rfl (E_X12_breaks H)
theorem dX12_byteAt_0 : decode cX12_byteAt 0 = .ok (.iload_n 1, 1) := by decide +kernel
theorem dX12_byteAt_1 : decode cX12_byteAt 1 = .ok (.iconst 0, 1) := by decide +kernel
theorem dX12_byteAt_2 : decode cX12_byteAt 2 = .ok (.aload_n 0, 1) := by decide +kernel
theorem dX12_byteAt_3 : decode cX12_byteAt 3 = .ok (.getfield 349, 3) := by decide +kernel
theorem dX12_byteAt_6 : decode cX12_byteAt 6 = .ok (.iconst 1, 1) := by decide +kernel
theorem dX12_byteAt_7 : decode cX12_byteAt 7 = .ok (.isub, 1) := by decide +kernel
theorem dX12_byteAt_8 : decode cX12_byteAt 8 = .ok (.invokestatic 156, 3) := by decide +kernel
theorem dX12_byteAt_11 : decode cX12_byteAt 11 = .ok (.ifCond .eq 12, 3) := by decide +kernel
theorem dX12_byteAt_14 : decode cX12_byteAt 14 = .ok (.aload_n 0, 1) := by decide +kernel
theorem dX12_byteAt_15 : decode cX12_byteAt 15 = .ok (.getfield 112, 3) := by decide +kernel
theorem dX12_byteAt_18 : decode cX12_byteAt 18 = .ok (.iload_n 1, 1) := by decide +kernel
theorem dX12_byteAt_19 : decode cX12_byteAt 19 = .ok (.baload, 1) := by decide +kernel
theorem dX12_byteAt_20 : decode cX12_byteAt 20 = .ok (.goto 5, 3) := by decide +kernel
theorem dX12_byteAt_23 : decode cX12_byteAt 23 = .ok (.bipush (-5), 2) := by decide +kernel
theorem dX12_byteAt_25 : decode cX12_byteAt 25 = .ok (.ireturn, 1) := by decide +kernel
def F_X12_byteAt (d : Nat) (v0 : Option Nm) (v1 : Int32) (h : MH) (u : Nat) (Q : Int32 → MH → Prop) : Prop :=
  gI h v0 11 45 fun x1 =>
  F_X12_in d v1 0 (x1 - 1) h 0 fun x2 h =>
  if x2 = 0 then
    Q (-5) h
  else
    gR h v0 11 44 fun x3 =>
    aI .byte h x3 v1 fun x4 =>
    Q x4 h
set_option maxRecDepth 20000 in
theorem E_X12_byteAt {d : Nat} {v0 : Option Nm} {v1 : Int32} {h : MH} {u : Nat} {Q : Int32 → MH → Prop} (H : F_X12_byteAt d v0 v1 h u Q) : T u_X12_byteAt (d + 1) 0 [some (jR v0), some (jI v1)] [] h u (qI Q) := by
  unfold F_X12_byteAt at H
  refine T_iload_n (pc := 0) dX12_byteAt_0 rfl rfl ?_
  refine T_iconst (pc := 1) (v := 0) dX12_byteAt_1 (by decide) ?_
  refine T_aload_n (pc := 2) dX12_byteAt_2 rfl rfl ?_
  refine T_gI (pc := 3) fa_X12_349 dX12_byteAt_3 (gI_mono (fun x1 H => ?_) H)
  refine T_iconst (pc := 6) (v := 1) dX12_byteAt_6 (by decide) ?_
  refine T_isub (pc := 7) dX12_byteAt_7 ?_
  refine T_invS (pc := 8) (av := [jI v1, jI 0, jI (x1 - 1)]) (rest := []) dX12_byteAt_8 mf_X12_in c_5_86 c_5_87 rfl (Nat.le_of_ble_eq_true rfl) rfl (iI_k (iI_m0 (fun x2 h H => ?_) (J_X12_in (d := d) H)))
  refine T_if_eq (pc := 11) (tgt := 23) dX12_byteAt_11 (by decide) (fun hc => ?_) (fun hc => ?_)
  · rw [if_pos hc] at H
    refine T_bipush (pc := 23) (v := (-5)) dX12_byteAt_23 (by decide) ?_
    exact T_ireturn (pc := 25) rfl rfl dX12_byteAt_25 H
  · rw [if_neg hc] at H
    refine T_aload_n (pc := 14) dX12_byteAt_14 rfl rfl ?_
    refine T_gR (pc := 15) fa_X12_112 dX12_byteAt_15 (gR_mono (fun x3 H => ?_) H)
    refine T_iload_n (pc := 18) dX12_byteAt_18 rfl rfl ?_
    refine T_aB (pc := 19) dX12_byteAt_19 (aI_mono (fun x4 H => ?_) H)
    refine T_goto (pc := 20) (tgt := 25) dX12_byteAt_20 (by decide) ?_
    exact T_ireturn (pc := 25) rfl rfl dX12_byteAt_25 H
theorem I_X12_byteAt {d : Nat} {v0 : Option Nm} {v1 : Int32} {h : MH} {u : Nat} {K : Int32 → MH → Nat → Prop} (u1 : Nat) (hu : u1 ≤ u) (H : F_X12_byteAt d v0 v1 h u1 (fun x h2 => K x h2 (u - u1))) : iI (d + 1) u_X12_byteAt [jR v0, jI v1] h u K := inv.of u1 hu (Ct.of (by decide +kernel) rfl (Nat.le_of_ble_eq_true rfl) rfl (E_X12_byteAt H))
theorem J_X12_byteAt {d : Nat} {v0 : Option Nm} {v1 : Int32} {h : MH} {u : Nat} {K : Int32 → MH → Prop} (H : F_X12_byteAt d v0 v1 h 0 K) : iI (d + 1) u_X12_byteAt [jR v0, jI v1] h u (fun x h2 u2 => K x h2 ∧ u2 = u) := jiI (by decide +kernel) rfl (Nat.le_of_ble_eq_true rfl) rfl (E_X12_byteAt H)
theorem dX12_counts_0 : decode cX12_counts 0 = .ok (.lload_n 1, 1) := by decide +kernel
theorem dX12_counts_1 : decode cX12_counts 1 = .ok (.lconst 0, 1) := by decide +kernel
theorem dX12_counts_2 : decode cX12_counts 2 = .ok (.lcmp, 1) := by decide +kernel
theorem dX12_counts_3 : decode cX12_counts 3 = .ok (.ifCond .lt 51, 3) := by decide +kernel
theorem dX12_counts_6 : decode cX12_counts 6 = .ok (.aload_n 0, 1) := by decide +kernel
theorem dX12_counts_7 : decode cX12_counts 7 = .ok (.dup, 1) := by decide +kernel
theorem dX12_counts_8 : decode cX12_counts 8 = .ok (.getfield 234, 3) := by decide +kernel
theorem dX12_counts_11 : decode cX12_counts 11 = .ok (.aload_n 0, 1) := by decide +kernel
theorem dX12_counts_12 : decode cX12_counts 12 = .ok (.getfield 75, 3) := by decide +kernel
theorem dX12_counts_15 : decode cX12_counts 15 = .ok (.lload_n 1, 1) := by decide +kernel
theorem dX12_counts_16 : decode cX12_counts 16 = .ok (.l2i, 1) := by decide +kernel
theorem dX12_counts_17 : decode cX12_counts 17 = .ok (.iaload, 1) := by decide +kernel
theorem dX12_counts_18 : decode cX12_counts 18 = .ok (.iadd, 1) := by decide +kernel
theorem dX12_counts_19 : decode cX12_counts 19 = .ok (.putfield 234, 3) := by decide +kernel
theorem dX12_counts_22 : decode cX12_counts 22 = .ok (.aload_n 0, 1) := by decide +kernel
theorem dX12_counts_23 : decode cX12_counts 23 = .ok (.aload_n 0, 1) := by decide +kernel
theorem dX12_counts_24 : decode cX12_counts 24 = .ok (.getfield 78, 3) := by decide +kernel
theorem dX12_counts_27 : decode cX12_counts 27 = .ok (.lload_n 1, 1) := by decide +kernel
theorem dX12_counts_28 : decode cX12_counts 28 = .ok (.l2i, 1) := by decide +kernel
theorem dX12_counts_29 : decode cX12_counts 29 = .ok (.iaload, 1) := by decide +kernel
theorem dX12_counts_30 : decode cX12_counts 30 = .ok (.aload_n 0, 1) := by decide +kernel
theorem dX12_counts_31 : decode cX12_counts 31 = .ok (.getfield 237, 3) := by decide +kernel
theorem dX12_counts_34 : decode cX12_counts 34 = .ok (.if_icmp .le 13, 3) := by decide +kernel
theorem dX12_counts_37 : decode cX12_counts 37 = .ok (.aload_n 0, 1) := by decide +kernel
theorem dX12_counts_38 : decode cX12_counts 38 = .ok (.getfield 78, 3) := by decide +kernel
theorem dX12_counts_41 : decode cX12_counts 41 = .ok (.lload_n 1, 1) := by decide +kernel
theorem dX12_counts_42 : decode cX12_counts 42 = .ok (.l2i, 1) := by decide +kernel
theorem dX12_counts_43 : decode cX12_counts 43 = .ok (.iaload, 1) := by decide +kernel
theorem dX12_counts_44 : decode cX12_counts 44 = .ok (.goto 7, 3) := by decide +kernel
theorem dX12_counts_47 : decode cX12_counts 47 = .ok (.aload_n 0, 1) := by decide +kernel
theorem dX12_counts_48 : decode cX12_counts 48 = .ok (.getfield 237, 3) := by decide +kernel
theorem dX12_counts_51 : decode cX12_counts 51 = .ok (.putfield 237, 3) := by decide +kernel
theorem dX12_counts_54 : decode cX12_counts 54 = .ok (.return_, 1) := by decide +kernel
def F_X12_counts (d : Nat) (v0 : Option Nm) (v1 : Int64) (h : MH) (u : Nat) (Q : MH → Prop) : Prop :=
  if (lg_cmp v1 0) < 0 then
    Q h
  else
    gI h v0 11 33 fun x1 =>
    gR h v0 11 28 fun x2 =>
    aI .int h x2 (v1.toInt32) fun x3 =>
    pV h v0 11 33 (jI (x1 + x3)) fun h =>
    gR h v0 11 29 fun x4 =>
    aI .int h x4 (v1.toInt32) fun x5 =>
    gI h v0 11 34 fun x6 =>
    if x5 ≤ x6 then
      gI h v0 11 34 fun x7 =>
      pV h v0 11 34 (jI x7) fun h =>
      Q h
    else
      gR h v0 11 29 fun x8 =>
      aI .int h x8 (v1.toInt32) fun x9 =>
      pV h v0 11 34 (jI x9) fun h =>
      Q h
set_option maxRecDepth 20000 in
theorem E_X12_counts {d : Nat} {v0 : Option Nm} {v1 : Int64} {h : MH} {u : Nat} {Q : MH → Prop} (H : F_X12_counts d v0 v1 h u Q) : T u_X12_counts d 0 [some (jR v0), some (jL v1), none] [] h u (qV Q) := by
  unfold F_X12_counts at H
  refine T_lload_n (pc := 0) dX12_counts_0 rfl rfl ?_
  refine T_lconst (pc := 1) (v := 0) dX12_counts_1 (by decide) ?_
  refine T_lcmp (pc := 2) dX12_counts_2 ?_
  refine T_if_lt (pc := 3) (tgt := 54) dX12_counts_3 (by decide) (fun hc => ?_) (fun hc => ?_)
  · rw [if_pos hc] at H
    exact T_return (pc := 54) rfl dX12_counts_54 H
  · rw [if_neg hc] at H
    refine T_aload_n (pc := 6) dX12_counts_6 rfl rfl ?_
    refine T_dup (pc := 7) rfl dX12_counts_7 ?_
    refine T_gI (pc := 8) fa_X12_234 dX12_counts_8 (gI_mono (fun x1 H => ?_) H)
    refine T_aload_n (pc := 11) dX12_counts_11 rfl rfl ?_
    refine T_gR (pc := 12) fa_X12_75 dX12_counts_12 (gR_mono (fun x2 H => ?_) H)
    refine T_lload_n (pc := 15) dX12_counts_15 rfl rfl ?_
    refine T_l2i (pc := 16) dX12_counts_16 ?_
    refine T_aI (pc := 17) dX12_counts_17 (aI_mono (fun x3 H => ?_) H)
    refine T_iadd (pc := 18) dX12_counts_18 ?_
    refine T_pV (pc := 19) fa_X12_234 dX12_counts_19 trivial (pV_mono (fun h H => ?_) H)
    refine T_aload_n (pc := 22) dX12_counts_22 rfl rfl ?_
    refine T_aload_n (pc := 23) dX12_counts_23 rfl rfl ?_
    refine T_gR (pc := 24) fa_X12_78 dX12_counts_24 (gR_mono (fun x4 H => ?_) H)
    refine T_lload_n (pc := 27) dX12_counts_27 rfl rfl ?_
    refine T_l2i (pc := 28) dX12_counts_28 ?_
    refine T_aI (pc := 29) dX12_counts_29 (aI_mono (fun x5 H => ?_) H)
    refine T_aload_n (pc := 30) dX12_counts_30 rfl rfl ?_
    refine T_gI (pc := 31) fa_X12_237 dX12_counts_31 (gI_mono (fun x6 H => ?_) H)
    refine T_icmp_le (pc := 34) (tgt := 47) dX12_counts_34 (by decide) (fun hc => ?_) (fun hc => ?_)
    · rw [if_pos hc] at H
      refine T_aload_n (pc := 47) dX12_counts_47 rfl rfl ?_
      refine T_gI (pc := 48) fa_X12_237 dX12_counts_48 (gI_mono (fun x7 H => ?_) H)
      refine T_pV (pc := 51) fa_X12_237 dX12_counts_51 trivial (pV_mono (fun h H => ?_) H)
      exact T_return (pc := 54) rfl dX12_counts_54 H
    · rw [if_neg hc] at H
      refine T_aload_n (pc := 37) dX12_counts_37 rfl rfl ?_
      refine T_gR (pc := 38) fa_X12_78 dX12_counts_38 (gR_mono (fun x8 H => ?_) H)
      refine T_lload_n (pc := 41) dX12_counts_41 rfl rfl ?_
      refine T_l2i (pc := 42) dX12_counts_42 ?_
      refine T_aI (pc := 43) dX12_counts_43 (aI_mono (fun x9 H => ?_) H)
      refine T_goto (pc := 44) (tgt := 51) dX12_counts_44 (by decide) ?_
      refine T_pV (pc := 51) fa_X12_237 dX12_counts_51 trivial (pV_mono (fun h H => ?_) H)
      exact T_return (pc := 54) rfl dX12_counts_54 H
theorem I_X12_counts {d : Nat} {v0 : Option Nm} {v1 : Int64} {h : MH} {u : Nat} {K : MH → Nat → Prop} (u1 : Nat) (hu : u1 ≤ u) (H : F_X12_counts d v0 v1 h u1 (fun h2 => K h2 (u - u1))) : iV d u_X12_counts [jR v0, jL v1] h u K := inv.of u1 hu (Ct.of (by decide +kernel) rfl (Nat.le_of_ble_eq_true rfl) rfl (E_X12_counts H))
theorem J_X12_counts {d : Nat} {v0 : Option Nm} {v1 : Int64} {h : MH} {u : Nat} {K : MH → Prop} (H : F_X12_counts d v0 v1 h 0 K) : iV d u_X12_counts [jR v0, jL v1] h u (fun h2 u2 => K h2 ∧ u2 = u) := jiV (by decide +kernel) rfl (Nat.le_of_ble_eq_true rfl) rfl (E_X12_counts H)
