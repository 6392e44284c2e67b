theorem dJ6_bitCount_0f7a4_0 : decode cJ6_bitCount_0f7a4 0 = .ok (.iload_n 0, 1) := by decide +kernel
theorem dJ6_bitCount_0f7a4_1 : decode cJ6_bitCount_0f7a4 1 = .ok (.iload_n 0, 1) := by decide +kernel
theorem dJ6_bitCount_0f7a4_2 : decode cJ6_bitCount_0f7a4 2 = .ok (.iconst 1, 1) := by decide +kernel
theorem dJ6_bitCount_0f7a4_3 : decode cJ6_bitCount_0f7a4 3 = .ok (.iushr, 1) := by decide +kernel
theorem dJ6_bitCount_0f7a4_4 : decode cJ6_bitCount_0f7a4 4 = .ok (.ldc_w 265, 3) := by decide +kernel
theorem dJ6_bitCount_0f7a4_7 : decode cJ6_bitCount_0f7a4 7 = .ok (.iand, 1) := by decide +kernel
theorem dJ6_bitCount_0f7a4_8 : decode cJ6_bitCount_0f7a4 8 = .ok (.isub, 1) := by decide +kernel
theorem dJ6_bitCount_0f7a4_9 : decode cJ6_bitCount_0f7a4 9 = .ok (.istore_n 0, 1) := by decide +kernel
theorem dJ6_bitCount_0f7a4_10 : decode cJ6_bitCount_0f7a4 10 = .ok (.iload_n 0, 1) := by decide +kernel
theorem dJ6_bitCount_0f7a4_11 : decode cJ6_bitCount_0f7a4 11 = .ok (.ldc_w 266, 3) := by decide +kernel
theorem dJ6_bitCount_0f7a4_14 : decode cJ6_bitCount_0f7a4 14 = .ok (.iand, 1) := by decide +kernel
theorem dJ6_bitCount_0f7a4_15 : decode cJ6_bitCount_0f7a4 15 = .ok (.iload_n 0, 1) := by decide +kernel
theorem dJ6_bitCount_0f7a4_16 : decode cJ6_bitCount_0f7a4 16 = .ok (.iconst 2, 1) := by decide +kernel
theorem dJ6_bitCount_0f7a4_17 : decode cJ6_bitCount_0f7a4 17 = .ok (.iushr, 1) := by decide +kernel
theorem dJ6_bitCount_0f7a4_18 : decode cJ6_bitCount_0f7a4 18 = .ok (.ldc_w 266, 3) := by decide +kernel
theorem dJ6_bitCount_0f7a4_21 : decode cJ6_bitCount_0f7a4 21 = .ok (.iand, 1) := by decide +kernel
theorem dJ6_bitCount_0f7a4_22 : decode cJ6_bitCount_0f7a4 22 = .ok (.iadd, 1) := by decide +kernel
theorem dJ6_bitCount_0f7a4_23 : decode cJ6_bitCount_0f7a4 23 = .ok (.istore_n 0, 1) := by decide +kernel
theorem dJ6_bitCount_0f7a4_24 : decode cJ6_bitCount_0f7a4 24 = .ok (.iload_n 0, 1) := by decide +kernel
theorem dJ6_bitCount_0f7a4_25 : decode cJ6_bitCount_0f7a4 25 = .ok (.iload_n 0, 1) := by decide +kernel
theorem dJ6_bitCount_0f7a4_26 : decode cJ6_bitCount_0f7a4 26 = .ok (.iconst 4, 1) := by decide +kernel
theorem dJ6_bitCount_0f7a4_27 : decode cJ6_bitCount_0f7a4 27 = .ok (.iushr, 1) := by decide +kernel
theorem dJ6_bitCount_0f7a4_28 : decode cJ6_bitCount_0f7a4 28 = .ok (.iadd, 1) := by decide +kernel
theorem dJ6_bitCount_0f7a4_29 : decode cJ6_bitCount_0f7a4 29 = .ok (.ldc_w 267, 3) := by decide +kernel
theorem dJ6_bitCount_0f7a4_32 : decode cJ6_bitCount_0f7a4 32 = .ok (.iand, 1) := by decide +kernel
theorem dJ6_bitCount_0f7a4_33 : decode cJ6_bitCount_0f7a4 33 = .ok (.istore_n 0, 1) := by decide +kernel
theorem dJ6_bitCount_0f7a4_34 : decode cJ6_bitCount_0f7a4 34 = .ok (.iload_n 0, 1) := by decide +kernel
theorem dJ6_bitCount_0f7a4_35 : decode cJ6_bitCount_0f7a4 35 = .ok (.iload_n 0, 1) := by decide +kernel
theorem dJ6_bitCount_0f7a4_36 : decode cJ6_bitCount_0f7a4 36 = .ok (.bipush 8, 2) := by decide +kernel
theorem dJ6_bitCount_0f7a4_38 : decode cJ6_bitCount_0f7a4 38 = .ok (.iushr, 1) := by decide +kernel
theorem dJ6_bitCount_0f7a4_39 : decode cJ6_bitCount_0f7a4 39 = .ok (.iadd, 1) := by decide +kernel
theorem dJ6_bitCount_0f7a4_40 : decode cJ6_bitCount_0f7a4 40 = .ok (.istore_n 0, 1) := by decide +kernel
theorem dJ6_bitCount_0f7a4_41 : decode cJ6_bitCount_0f7a4 41 = .ok (.iload_n 0, 1) := by decide +kernel
theorem dJ6_bitCount_0f7a4_42 : decode cJ6_bitCount_0f7a4 42 = .ok (.iload_n 0, 1) := by decide +kernel
theorem dJ6_bitCount_0f7a4_43 : decode cJ6_bitCount_0f7a4 43 = .ok (.bipush 16, 2) := by decide +kernel
theorem dJ6_bitCount_0f7a4_45 : decode cJ6_bitCount_0f7a4 45 = .ok (.iushr, 1) := by decide +kernel
theorem dJ6_bitCount_0f7a4_46 : decode cJ6_bitCount_0f7a4 46 = .ok (.iadd, 1) := by decide +kernel
theorem dJ6_bitCount_0f7a4_47 : decode cJ6_bitCount_0f7a4 47 = .ok (.istore_n 0, 1) := by decide +kernel
theorem dJ6_bitCount_0f7a4_48 : decode cJ6_bitCount_0f7a4 48 = .ok (.iload_n 0, 1) := by decide +kernel
theorem dJ6_bitCount_0f7a4_49 : decode cJ6_bitCount_0f7a4 49 = .ok (.bipush 63, 2) := by decide +kernel
theorem dJ6_bitCount_0f7a4_51 : decode cJ6_bitCount_0f7a4 51 = .ok (.iand, 1) := by decide +kernel
theorem dJ6_bitCount_0f7a4_52 : decode cJ6_bitCount_0f7a4 52 = .ok (.ireturn, 1) := by decide +kernel
def F_J6_bitCount_0f7a4 (d : Nat) (v0 : Int32) (h : MH) (u : Nat) (Q : Int32 → MH → Prop) : Prop :=
  nm (v0 - (((v0.toUInt32 >>> ((1 : Int32).toUInt32 &&& Int32.toUInt32 31)).toInt32) &&& 1431655765)) fun x1 =>
  nm ((x1 &&& 858993459) + (((x1.toUInt32 >>> ((2 : Int32).toUInt32 &&& Int32.toUInt32 31)).toInt32) &&& 858993459)) fun x2 =>
  nm ((x2 + ((x2.toUInt32 >>> ((4 : Int32).toUInt32 &&& Int32.toUInt32 31)).toInt32)) &&& 252645135) fun x3 =>
  nm (x3 + ((x3.toUInt32 >>> ((8 : Int32).toUInt32 &&& Int32.toUInt32 31)).toInt32)) fun x4 =>
  nm (x4 + ((x4.toUInt32 >>> ((16 : Int32).toUInt32 &&& Int32.toUInt32 31)).toInt32)) fun x5 =>
  Q (x5 &&& 63) h
set_option maxRecDepth 20000 in
theorem E_J6_bitCount_0f7a4 {d : Nat} {v0 : Int32} {h : MH} {u : Nat} {Q : Int32 → MH → Prop} (H : F_J6_bitCount_0f7a4 d v0 h u Q) : T u_J6_bitCount_0f7a4 d 0 [some (jI v0)] [] h u (qI Q) := by
  unfold F_J6_bitCount_0f7a4 at H
  refine T_iload_n (pc := 0) dJ6_bitCount_0f7a4_0 rfl rfl ?_
  refine T_iload_n (pc := 1) dJ6_bitCount_0f7a4_1 rfl rfl ?_
  refine T_iconst (pc := 2) (v := 1) dJ6_bitCount_0f7a4_2 (by decide) ?_
  refine T_iushr (pc := 3) dJ6_bitCount_0f7a4_3 ?_
  refine T_ldcw (pc := 4) (v := 1431655765) dJ6_bitCount_0f7a4_4 c_4_16 ?_
  refine T_iand (pc := 7) dJ6_bitCount_0f7a4_7 ?_
  refine T_isub (pc := 8) dJ6_bitCount_0f7a4_8 ?_
  refine T_istoreK (pc := 9) (i := 0) (I := .nop) (len := 1) (f := fun x1 => [some (jI x1)]) (fun x1 k => T_istore_n (pc := 9) dJ6_bitCount_0f7a4_9 rfl (Nat.le_of_ble_eq_true rfl) rfl k) (nm_mono (fun x1 H => ?_) H)
  refine T_iload_n (pc := 10) dJ6_bitCount_0f7a4_10 rfl rfl ?_
  refine T_ldcw (pc := 11) (v := 858993459) dJ6_bitCount_0f7a4_11 c_4_17 ?_
  refine T_iand (pc := 14) dJ6_bitCount_0f7a4_14 ?_
  refine T_iload_n (pc := 15) dJ6_bitCount_0f7a4_15 rfl rfl ?_
  refine T_iconst (pc := 16) (v := 2) dJ6_bitCount_0f7a4_16 (by decide) ?_
  refine T_iushr (pc := 17) dJ6_bitCount_0f7a4_17 ?_
  refine T_ldcw (pc := 18) (v := 858993459) dJ6_bitCount_0f7a4_18 c_4_17 ?_
  refine T_iand (pc := 21) dJ6_bitCount_0f7a4_21 ?_
  refine T_iadd (pc := 22) dJ6_bitCount_0f7a4_22 ?_
  refine T_istoreK (pc := 23) (i := 0) (I := .nop) (len := 1) (f := fun x2 => [some (jI x2)]) (fun x2 k => T_istore_n (pc := 23) dJ6_bitCount_0f7a4_23 rfl (Nat.le_of_ble_eq_true rfl) rfl k) (nm_mono (fun x2 H => ?_) H)
  refine T_iload_n (pc := 24) dJ6_bitCount_0f7a4_24 rfl rfl ?_
  refine T_iload_n (pc := 25) dJ6_bitCount_0f7a4_25 rfl rfl ?_
  refine T_iconst (pc := 26) (v := 4) dJ6_bitCount_0f7a4_26 (by decide) ?_
  refine T_iushr (pc := 27) dJ6_bitCount_0f7a4_27 ?_
  refine T_iadd (pc := 28) dJ6_bitCount_0f7a4_28 ?_
  refine T_ldcw (pc := 29) (v := 252645135) dJ6_bitCount_0f7a4_29 c_4_18 ?_
  refine T_iand (pc := 32) dJ6_bitCount_0f7a4_32 ?_
  refine T_istoreK (pc := 33) (i := 0) (I := .nop) (len := 1) (f := fun x3 => [some (jI x3)]) (fun x3 k => T_istore_n (pc := 33) dJ6_bitCount_0f7a4_33 rfl (Nat.le_of_ble_eq_true rfl) rfl k) (nm_mono (fun x3 H => ?_) H)
  refine T_iload_n (pc := 34) dJ6_bitCount_0f7a4_34 rfl rfl ?_
  refine T_iload_n (pc := 35) dJ6_bitCount_0f7a4_35 rfl rfl ?_
  refine T_bipush (pc := 36) (v := 8) dJ6_bitCount_0f7a4_36 (by decide) ?_
  refine T_iushr (pc := 38) dJ6_bitCount_0f7a4_38 ?_
  refine T_iadd (pc := 39) dJ6_bitCount_0f7a4_39 ?_
  refine T_istoreK (pc := 40) (i := 0) (I := .nop) (len := 1) (f := fun x4 => [some (jI x4)]) (fun x4 k => T_istore_n (pc := 40) dJ6_bitCount_0f7a4_40 rfl (Nat.le_of_ble_eq_true rfl) rfl k) (nm_mono (fun x4 H => ?_) H)
  refine T_iload_n (pc := 41) dJ6_bitCount_0f7a4_41 rfl rfl ?_
  refine T_iload_n (pc := 42) dJ6_bitCount_0f7a4_42 rfl rfl ?_
  refine T_bipush (pc := 43) (v := 16) dJ6_bitCount_0f7a4_43 (by decide) ?_
  refine T_iushr (pc := 45) dJ6_bitCount_0f7a4_45 ?_
  refine T_iadd (pc := 46) dJ6_bitCount_0f7a4_46 ?_
  refine T_istoreK (pc := 47) (i := 0) (I := .nop) (len := 1) (f := fun x5 => [some (jI x5)]) (fun x5 k => T_istore_n (pc := 47) dJ6_bitCount_0f7a4_47 rfl (Nat.le_of_ble_eq_true rfl) rfl k) (nm_mono (fun x5 H => ?_) H)
  refine T_iload_n (pc := 48) dJ6_bitCount_0f7a4_48 rfl rfl ?_
  refine T_bipush (pc := 49) (v := 63) dJ6_bitCount_0f7a4_49 (by decide) ?_
  refine T_iand (pc := 51) dJ6_bitCount_0f7a4_51 ?_
  exact T_ireturn (pc := 52) rfl rfl dJ6_bitCount_0f7a4_52 H
theorem I_J6_bitCount_0f7a4 {d : Nat} {v0 : Int32} {h : MH} {u : Nat} {K : Int32 → MH → Nat → Prop} (u1 : Nat) (hu : u1 ≤ u) (H : F_J6_bitCount_0f7a4 d v0 h u1 (fun x h2 => K x h2 (u - u1))) : iI d u_J6_bitCount_0f7a4 [jI v0] h u K := inv.of u1 hu (Ct.of (by decide +kernel) rfl (Nat.le_of_ble_eq_true rfl) rfl (E_J6_bitCount_0f7a4 H))
theorem J_J6_bitCount_0f7a4 {d : Nat} {v0 : Int32} {h : MH} {u : Nat} {K : Int32 → MH → Prop} (H : F_J6_bitCount_0f7a4 d v0 h 0 K) : iI d u_J6_bitCount_0f7a4 [jI v0] h u (fun x h2 u2 => K x h2 ∧ u2 = u) := jiI (by decide +kernel) rfl (Nat.le_of_ble_eq_true rfl) rfl (E_J6_bitCount_0f7a4 H)
theorem dJ9_max_7cf53_0 : decode cJ9_max_7cf53 0 = .ok (.iload_n 0, 1) := by decide +kernel
theorem dJ9_max_7cf53_1 : decode cJ9_max_7cf53 1 = .ok (.iload_n 1, 1) := by decide +kernel
theorem dJ9_max_7cf53_2 : decode cJ9_max_7cf53 2 = .ok (.if_icmp .lt 7, 3) := by decide +kernel
theorem dJ9_max_7cf53_5 : decode cJ9_max_7cf53 5 = .ok (.iload_n 0, 1) := by decide +kernel
theorem dJ9_max_7cf53_6 : decode cJ9_max_7cf53 6 = .ok (.goto 4, 3) := by decide +kernel
theorem dJ9_max_7cf53_9 : decode cJ9_max_7cf53 9 = .ok (.iload_n 1, 1) := by decide +kernel
theorem dJ9_max_7cf53_10 : decode cJ9_max_7cf53 10 = .ok (.ireturn, 1) := by decide +kernel
def F_J9_max_7cf53 (d : Nat) (v0 : Int32) (v1 : Int32) (h : MH) (u : Nat) (Q : Int32 → MH → Prop) : Prop :=
  if v0 < v1 then
    Q v1 h
  else
    Q v0 h
set_option maxRecDepth 20000 in
theorem E_J9_max_7cf53 {d : Nat} {v0 : Int32} {v1 : Int32} {h : MH} {u : Nat} {Q : Int32 → MH → Prop} (H : F_J9_max_7cf53 d v0 v1 h u Q) : T u_J9_max_7cf53 d 0 [some (jI v0), some (jI v1)] [] h u (qI Q) := by
  unfold F_J9_max_7cf53 at H
  refine T_iload_n (pc := 0) dJ9_max_7cf53_0 rfl rfl ?_
  refine T_iload_n (pc := 1) dJ9_max_7cf53_1 rfl rfl ?_
  refine T_icmp_lt (pc := 2) (tgt := 9) dJ9_max_7cf53_2 (by decide) (fun hc => ?_) (fun hc => ?_)
  · rw [if_pos hc] at H
    refine T_iload_n (pc := 9) dJ9_max_7cf53_9 rfl rfl ?_
    exact T_ireturn (pc := 10) rfl rfl dJ9_max_7cf53_10 H
  · rw [if_neg hc] at H
    refine T_iload_n (pc := 5) dJ9_max_7cf53_5 rfl rfl ?_
    refine T_goto (pc := 6) (tgt := 10) dJ9_max_7cf53_6 (by decide) ?_
    exact T_ireturn (pc := 10) rfl rfl dJ9_max_7cf53_10 H
theorem I_J9_max_7cf53 {d : Nat} {v0 : Int32} {v1 : Int32} {h : MH} {u : Nat} {K : Int32 → MH → Nat → Prop} (u1 : Nat) (hu : u1 ≤ u) (H : F_J9_max_7cf53 d v0 v1 h u1 (fun x h2 => K x h2 (u - u1))) : iI d u_J9_max_7cf53 [jI v0, jI v1] h u K := inv.of u1 hu (Ct.of (by decide +kernel) rfl (Nat.le_of_ble_eq_true rfl) rfl (E_J9_max_7cf53 H))
theorem J_J9_max_7cf53 {d : Nat} {v0 : Int32} {v1 : Int32} {h : MH} {u : Nat} {K : Int32 → MH → Prop} (H : F_J9_max_7cf53 d v0 v1 h 0 K) : iI d u_J9_max_7cf53 [jI v0, jI v1] h u (fun x h2 u2 => K x h2 ∧ u2 = u) := jiI (by decide +kernel) rfl (Nat.le_of_ble_eq_true rfl) rfl (E_J9_max_7cf53 H)
theorem dJxe99ae_isNaN_b9ae7_0 : decode cJxe99ae_isNaN_b9ae7 0 = .ok (.dload_n 0, 1) := by decide +kernel
theorem dJxe99ae_isNaN_b9ae7_1 : decode cJxe99ae_isNaN_b9ae7 1 = .ok (.dload_n 0, 1) := by decide +kernel
theorem dJxe99ae_isNaN_b9ae7_2 : decode cJxe99ae_isNaN_b9ae7 2 = .ok (.dcmp .l, 1) := by decide +kernel
theorem dJxe99ae_isNaN_b9ae7_3 : decode cJxe99ae_isNaN_b9ae7 3 = .ok (.ifCond .eq 7, 3) := by decide +kernel
theorem dJxe99ae_isNaN_b9ae7_6 : decode cJxe99ae_isNaN_b9ae7 6 = .ok (.iconst 1, 1) := by decide +kernel
theorem dJxe99ae_isNaN_b9ae7_7 : decode cJxe99ae_isNaN_b9ae7 7 = .ok (.goto 4, 3) := by decide +kernel
theorem dJxe99ae_isNaN_b9ae7_10 : decode cJxe99ae_isNaN_b9ae7 10 = .ok (.iconst 0, 1) := by decide +kernel
theorem dJxe99ae_isNaN_b9ae7_11 : decode cJxe99ae_isNaN_b9ae7 11 = .ok (.ireturn, 1) := by decide +kernel
def F_Jxe99ae_isNaN_b9ae7 (d : Nat) (v0 : UInt64) (h : MH) (u : Nat) (Q : Int32 → MH → Prop) : Prop :=
  if (Op.cmpValue (FP.dcmp v0 v0) .l) = 0 then
    nz 0 ∧ Q 0 h
  else
    nz 1 ∧ Q 1 h
set_option maxRecDepth 20000 in
theorem E_Jxe99ae_isNaN_b9ae7 {d : Nat} {v0 : UInt64} {h : MH} {u : Nat} {Q : Int32 → MH → Prop} (H : F_Jxe99ae_isNaN_b9ae7 d v0 h u Q) : T u_Jxe99ae_isNaN_b9ae7 d 0 [some (jD v0), none] [] h u (qI Q) := by
  unfold F_Jxe99ae_isNaN_b9ae7 at H
  refine T_dload_n (pc := 0) dJxe99ae_isNaN_b9ae7_0 rfl rfl ?_
  refine T_dload_n (pc := 1) dJxe99ae_isNaN_b9ae7_1 rfl rfl ?_
  refine T_dcmp (pc := 2) dJxe99ae_isNaN_b9ae7_2 ?_
  refine T_if_eq (pc := 3) (tgt := 10) dJxe99ae_isNaN_b9ae7_3 (by decide) (fun hc => ?_) (fun hc => ?_)
  · rw [if_pos hc] at H
    refine T_iconst (pc := 10) (v := 0) dJxe99ae_isNaN_b9ae7_10 (by decide) ?_
    exact T_ireturn (pc := 11) rfl (nz_nar H.1) dJxe99ae_isNaN_b9ae7_11 H.2
  · rw [if_neg hc] at H
    refine T_iconst (pc := 6) (v := 1) dJxe99ae_isNaN_b9ae7_6 (by decide) ?_
    refine T_goto (pc := 7) (tgt := 11) dJxe99ae_isNaN_b9ae7_7 (by decide) ?_
    exact T_ireturn (pc := 11) rfl (nz_nar H.1) dJxe99ae_isNaN_b9ae7_11 H.2
theorem I_Jxe99ae_isNaN_b9ae7 {d : Nat} {v0 : UInt64} {h : MH} {u : Nat} {K : Int32 → MH → Nat → Prop} (u1 : Nat) (hu : u1 ≤ u) (H : F_Jxe99ae_isNaN_b9ae7 d v0 h u1 (fun x h2 => K x h2 (u - u1))) : iI d u_Jxe99ae_isNaN_b9ae7 [jD v0] h u K := inv.of u1 hu (Ct.of (by decide +kernel) rfl (Nat.le_of_ble_eq_true rfl) rfl (E_Jxe99ae_isNaN_b9ae7 H))
theorem J_Jxe99ae_isNaN_b9ae7 {d : Nat} {v0 : UInt64} {h : MH} {u : Nat} {K : Int32 → MH → Prop} (H : F_Jxe99ae_isNaN_b9ae7 d v0 h 0 K) : iI d u_Jxe99ae_isNaN_b9ae7 [jD v0] h u (fun x h2 u2 => K x h2 ∧ u2 = u) := jiI (by decide +kernel) rfl (Nat.le_of_ble_eq_true rfl) rfl (E_Jxe99ae_isNaN_b9ae7 H)
theorem dJxe99ae_doubleToLongBits_ccdee_0 : decode cJxe99ae_doubleToLongBits_ccdee 0 = .ok (.dload_n 0, 1) := by decide +kernel
theorem dJxe99ae_doubleToLongBits_ccdee_1 : decode cJxe99ae_doubleToLongBits_ccdee 1 = .ok (.invokestatic 122, 3) := by decide +kernel
theorem dJxe99ae_doubleToLongBits_ccdee_4 : decode cJxe99ae_doubleToLongBits_ccdee 4 = .ok (.ifCond .ne 8, 3) := by decide +kernel
theorem dJxe99ae_doubleToLongBits_ccdee_7 : decode cJxe99ae_doubleToLongBits_ccdee 7 = .ok (.dload_n 0, 1) := by decide +kernel
theorem dJxe99ae_doubleToLongBits_ccdee_8 : decode cJxe99ae_doubleToLongBits_ccdee 8 = .ok (.invokestatic 134, 3) := by decide +kernel
theorem dJxe99ae_doubleToLongBits_ccdee_11 : decode cJxe99ae_doubleToLongBits_ccdee 11 = .ok (.lreturn, 1) := by decide +kernel
theorem dJxe99ae_doubleToLongBits_ccdee_12 : decode cJxe99ae_doubleToLongBits_ccdee 12 = .ok (.ldc2_w 137, 3) := by decide +kernel
theorem dJxe99ae_doubleToLongBits_ccdee_15 : decode cJxe99ae_doubleToLongBits_ccdee 15 = .ok (.lreturn, 1) := by decide +kernel
def F_Jxe99ae_doubleToLongBits_ccdee (d : Nat) (v0 : UInt64) (h : MH) (u : Nat) (Q : Int64 → MH → Prop) : Prop :=
  F_Jxe99ae_isNaN_b9ae7 d v0 h 0 fun x1 h =>
  if x1 = 0 then
    Q (v0.toInt64) h
  else
    Q 9221120237041090560 h
set_option maxRecDepth 20000 in
theorem E_Jxe99ae_doubleToLongBits_ccdee {d : Nat} {v0 : UInt64} {h : MH} {u : Nat} {Q : Int64 → MH → Prop} (H : F_Jxe99ae_doubleToLongBits_ccdee d v0 h u Q) : T u_Jxe99ae_doubleToLongBits_ccdee (d + 1) 0 [some (jD v0), none] [] h u (qL Q) := by
  unfold F_Jxe99ae_doubleToLongBits_ccdee at H
  refine T_dload_n (pc := 0) dJxe99ae_doubleToLongBits_ccdee_0 rfl rfl ?_
  refine T_invS (pc := 1) (av := [jD v0]) (rest := []) dJxe99ae_doubleToLongBits_ccdee_1 mf_Jxe99ae_isNaN_b9ae7 c_5_126 c_5_127 rfl (Nat.le_of_ble_eq_true rfl) rfl (iI_k (iI_m0 (fun x1 h H => ?_) (J_Jxe99ae_isNaN_b9ae7 (d := d) H)))
  refine T_if_ne (pc := 4) (tgt := 12) dJxe99ae_doubleToLongBits_ccdee_4 (by decide) (fun hc => ?_) (fun hc => ?_)
  · rw [if_neg hc] at H
    refine T_ldc2 (pc := 12) (v := 9221120237041090560) dJxe99ae_doubleToLongBits_ccdee_12 c_5_132 ?_
    exact T_lreturn (pc := 15) rfl dJxe99ae_doubleToLongBits_ccdee_15 H
  · rw [if_pos hc] at H
    refine T_dload_n (pc := 7) dJxe99ae_doubleToLongBits_ccdee_7 rfl rfl ?_
    refine T_d2bits (pc := 8) dJxe99ae_doubleToLongBits_ccdee_8 c_5_129 c_5_131 c_5_130 c_1_12 (Nat.le_of_ble_eq_true rfl) ?_
    exact T_lreturn (pc := 11) rfl dJxe99ae_doubleToLongBits_ccdee_11 H
theorem I_Jxe99ae_doubleToLongBits_ccdee {d : Nat} {v0 : UInt64} {h : MH} {u : Nat} {K : Int64 → MH → Nat → Prop} (u1 : Nat) (hu : u1 ≤ u) (H : F_Jxe99ae_doubleToLongBits_ccdee d v0 h u1 (fun x h2 => K x h2 (u - u1))) : iL (d + 1) u_Jxe99ae_doubleToLongBits_ccdee [jD v0] h u K := inv.of u1 hu (Ct.of (by decide +kernel) rfl (Nat.le_of_ble_eq_true rfl) rfl (E_Jxe99ae_doubleToLongBits_ccdee H))
theorem J_Jxe99ae_doubleToLongBits_ccdee {d : Nat} {v0 : UInt64} {h : MH} {u : Nat} {K : Int64 → MH → Prop} (H : F_Jxe99ae_doubleToLongBits_ccdee d v0 h 0 K) : iL (d + 1) u_Jxe99ae_doubleToLongBits_ccdee [jD v0] h u (fun x h2 u2 => K x h2 ∧ u2 = u) := jiL (by decide +kernel) rfl (Nat.le_of_ble_eq_true rfl) rfl (E_Jxe99ae_doubleToLongBits_ccdee H)
theorem dJxf58ca_isNaN_12338_0 : decode cJxf58ca_isNaN_12338 0 = .ok (.fload_n 0, 1) := by decide +kernel
theorem dJxf58ca_isNaN_12338_1 : decode cJxf58ca_isNaN_12338 1 = .ok (.fload_n 0, 1) := by decide +kernel
theorem dJxf58ca_isNaN_12338_2 : decode cJxf58ca_isNaN_12338 2 = .ok (.fcmp .l, 1) := by decide +kernel
theorem dJxf58ca_isNaN_12338_3 : decode cJxf58ca_isNaN_12338 3 = .ok (.ifCond .eq 7, 3) := by decide +kernel
theorem dJxf58ca_isNaN_12338_6 : decode cJxf58ca_isNaN_12338 6 = .ok (.iconst 1, 1) := by decide +kernel
theorem dJxf58ca_isNaN_12338_7 : decode cJxf58ca_isNaN_12338 7 = .ok (.goto 4, 3) := by decide +kernel
theorem dJxf58ca_isNaN_12338_10 : decode cJxf58ca_isNaN_12338 10 = .ok (.iconst 0, 1) := by decide +kernel
theorem dJxf58ca_isNaN_12338_11 : decode cJxf58ca_isNaN_12338 11 = .ok (.ireturn, 1) := by decide +kernel
def F_Jxf58ca_isNaN_12338 (d : Nat) (v0 : UInt32) (h : MH) (u : Nat) (Q : Int32 → MH → Prop) : Prop :=
  if (Op.cmpValue (FP.fcmp v0 v0) .l) = 0 then
    nz 0 ∧ Q 0 h
  else
    nz 1 ∧ Q 1 h
set_option maxRecDepth 20000 in
theorem E_Jxf58ca_isNaN_12338 {d : Nat} {v0 : UInt32} {h : MH} {u : Nat} {Q : Int32 → MH → Prop} (H : F_Jxf58ca_isNaN_12338 d v0 h u Q) : T u_Jxf58ca_isNaN_12338 d 0 [some (jF v0)] [] h u (qI Q) := by
  unfold F_Jxf58ca_isNaN_12338 at H
  refine T_fload_n (pc := 0) dJxf58ca_isNaN_12338_0 rfl rfl ?_
  refine T_fload_n (pc := 1) dJxf58ca_isNaN_12338_1 rfl rfl ?_
  refine T_fcmp (pc := 2) dJxf58ca_isNaN_12338_2 ?_
  refine T_if_eq (pc := 3) (tgt := 10) dJxf58ca_isNaN_12338_3 (by decide) (fun hc => ?_) (fun hc => ?_)
  · rw [if_pos hc] at H
    refine T_iconst (pc := 10) (v := 0) dJxf58ca_isNaN_12338_10 (by decide) ?_
    exact T_ireturn (pc := 11) rfl (nz_nar H.1) dJxf58ca_isNaN_12338_11 H.2
  · rw [if_neg hc] at H
    refine T_iconst (pc := 6) (v := 1) dJxf58ca_isNaN_12338_6 (by decide) ?_
    refine T_goto (pc := 7) (tgt := 11) dJxf58ca_isNaN_12338_7 (by decide) ?_
    exact T_ireturn (pc := 11) rfl (nz_nar H.1) dJxf58ca_isNaN_12338_11 H.2
theorem I_Jxf58ca_isNaN_12338 {d : Nat} {v0 : UInt32} {h : MH} {u : Nat} {K : Int32 → MH → Nat → Prop} (u1 : Nat) (hu : u1 ≤ u) (H : F_Jxf58ca_isNaN_12338 d v0 h u1 (fun x h2 => K x h2 (u - u1))) : iI d u_Jxf58ca_isNaN_12338 [jF v0] h u K := inv.of u1 hu (Ct.of (by decide +kernel) rfl (Nat.le_of_ble_eq_true rfl) rfl (E_Jxf58ca_isNaN_12338 H))
theorem J_Jxf58ca_isNaN_12338 {d : Nat} {v0 : UInt32} {h : MH} {u : Nat} {K : Int32 → MH → Prop} (H : F_Jxf58ca_isNaN_12338 d v0 h 0 K) : iI d u_Jxf58ca_isNaN_12338 [jF v0] h u (fun x h2 u2 => K x h2 ∧ u2 = u) := jiI (by decide +kernel) rfl (Nat.le_of_ble_eq_true rfl) rfl (E_Jxf58ca_isNaN_12338 H)
theorem dJxf58ca_floatToIntBits_5c35a_0 : decode cJxf58ca_floatToIntBits_5c35a 0 = .ok (.fload_n 0, 1) := by decide +kernel
theorem dJxf58ca_floatToIntBits_5c35a_1 : decode cJxf58ca_floatToIntBits_5c35a 1 = .ok (.invokestatic 59, 3) := by decide +kernel
theorem dJxf58ca_floatToIntBits_5c35a_4 : decode cJxf58ca_floatToIntBits_5c35a 4 = .ok (.ifCond .ne 8, 3) := by decide +kernel
theorem dJxf58ca_floatToIntBits_5c35a_7 : decode cJxf58ca_floatToIntBits_5c35a 7 = .ok (.fload_n 0, 1) := by decide +kernel
theorem dJxf58ca_floatToIntBits_5c35a_8 : decode cJxf58ca_floatToIntBits_5c35a 8 = .ok (.invokestatic 74, 3) := by decide +kernel
theorem dJxf58ca_floatToIntBits_5c35a_11 : decode cJxf58ca_floatToIntBits_5c35a 11 = .ok (.ireturn, 1) := by decide +kernel
theorem dJxf58ca_floatToIntBits_5c35a_12 : decode cJxf58ca_floatToIntBits_5c35a 12 = .ok (.ldc 77, 2) := by decide +kernel
theorem dJxf58ca_floatToIntBits_5c35a_14 : decode cJxf58ca_floatToIntBits_5c35a 14 = .ok (.ireturn, 1) := by decide +kernel
def F_Jxf58ca_floatToIntBits_5c35a (d : Nat) (v0 : UInt32) (h : MH) (u : Nat) (Q : Int32 → MH → Prop) : Prop :=
  F_Jxf58ca_isNaN_12338 d v0 h 0 fun x1 h =>
  if x1 = 0 then
    Q (v0.toInt32) h
  else
    Q 2143289344 h
set_option maxRecDepth 20000 in
theorem E_Jxf58ca_floatToIntBits_5c35a {d : Nat} {v0 : UInt32} {h : MH} {u : Nat} {Q : Int32 → MH → Prop} (H : F_Jxf58ca_floatToIntBits_5c35a d v0 h u Q) : T u_Jxf58ca_floatToIntBits_5c35a (d + 1) 0 [some (jF v0)] [] h u (qI Q) := by
  unfold F_Jxf58ca_floatToIntBits_5c35a at H
  refine T_fload_n (pc := 0) dJxf58ca_floatToIntBits_5c35a_0 rfl rfl ?_
  refine T_invS (pc := 1) (av := [jF v0]) (rest := []) dJxf58ca_floatToIntBits_5c35a_1 mf_Jxf58ca_isNaN_12338 c_5_116 c_5_117 rfl (Nat.le_of_ble_eq_true rfl) rfl (iI_k (iI_m0 (fun x1 h H => ?_) (J_Jxf58ca_isNaN_12338 (d := d) H)))
  refine T_if_ne (pc := 4) (tgt := 12) dJxf58ca_floatToIntBits_5c35a_4 (by decide) (fun hc => ?_) (fun hc => ?_)
  · rw [if_neg hc] at H
    refine T_ldc (pc := 12) (v := 2143289344) dJxf58ca_floatToIntBits_5c35a_12 c_5_122 ?_
    exact T_ireturn (pc := 14) rfl rfl dJxf58ca_floatToIntBits_5c35a_14 H
  · rw [if_pos hc] at H
    refine T_fload_n (pc := 7) dJxf58ca_floatToIntBits_5c35a_7 rfl rfl ?_
    refine T_f2bits (pc := 8) dJxf58ca_floatToIntBits_5c35a_8 c_5_119 c_5_121 c_5_120 c_1_11 (Nat.le_of_ble_eq_true rfl) ?_
    exact T_ireturn (pc := 11) rfl rfl dJxf58ca_floatToIntBits_5c35a_11 H
theorem I_Jxf58ca_floatToIntBits_5c35a {d : Nat} {v0 : UInt32} {h : MH} {u : Nat} {K : Int32 → MH → Nat → Prop} (u1 : Nat) (hu : u1 ≤ u) (H : F_Jxf58ca_floatToIntBits_5c35a d v0 h u1 (fun x h2 => K x h2 (u - u1))) : iI (d + 1) u_Jxf58ca_floatToIntBits_5c35a [jF v0] h u K := inv.of u1 hu (Ct.of (by decide +kernel) rfl (Nat.le_of_ble_eq_true rfl) rfl (E_Jxf58ca_floatToIntBits_5c35a H))
theorem J_Jxf58ca_floatToIntBits_5c35a {d : Nat} {v0 : UInt32} {h : MH} {u : Nat} {K : Int32 → MH → Prop} (H : F_Jxf58ca_floatToIntBits_5c35a d v0 h 0 K) : iI (d + 1) u_Jxf58ca_floatToIntBits_5c35a [jF v0] h u (fun x h2 u2 => K x h2 ∧ u2 = u) := jiI (by decide +kernel) rfl (Nat.le_of_ble_eq_true rfl) rfl (E_Jxf58ca_floatToIntBits_5c35a H)
