theorem dX12_ordered_0 : decode cX12_ordered 0 = .ok (.aload_n 0, 1) := by decide +kernel
theorem dX12_ordered_1 : decode cX12_ordered 1 = .ok (.iconst 0, 1) := by decide +kernel
theorem dX12_ordered_2 : decode cX12_ordered 2 = .ok (.putfield 271, 3) := by decide +kernel
theorem dX12_ordered_5 : decode cX12_ordered 5 = .ok (.aload_n 0, 1) := by decide +kernel
theorem dX12_ordered_6 : decode cX12_ordered 6 = .ok (.iload_n 1, 1) := by decide +kernel
theorem dX12_ordered_7 : decode cX12_ordered 7 = .ok (.iload_n 2, 1) := by decide +kernel
theorem dX12_ordered_8 : decode cX12_ordered 8 = .ok (.invokevirtual 285, 3) := by decide +kernel
theorem dX12_ordered_11 : decode cX12_ordered 11 = .ok (.istore_n 3, 1) := by decide +kernel
theorem dX12_ordered_12 : decode cX12_ordered 12 = .ok (.iload_n 3, 1) := by decide +kernel
theorem dX12_ordered_13 : decode cX12_ordered 13 = .ok (.ifCond .ne 18, 3) := by decide +kernel
theorem dX12_ordered_16 : decode cX12_ordered 16 = .ok (.aload_n 0, 1) := by decide +kernel
theorem dX12_ordered_17 : decode cX12_ordered 17 = .ok (.getfield 271, 3) := by decide +kernel
theorem dX12_ordered_20 : decode cX12_ordered 20 = .ok (.ifCond .le 11, 3) := by decide +kernel
theorem dX12_ordered_23 : decode cX12_ordered 23 = .ok (.aload_n 0, 1) := by decide +kernel
theorem dX12_ordered_24 : decode cX12_ordered 24 = .ok (.invokevirtual 291, 3) := by decide +kernel
theorem dX12_ordered_27 : decode cX12_ordered 27 = .ok (.istore_n 3, 1) := by decide +kernel
theorem dX12_ordered_28 : decode cX12_ordered 28 = .ok (.goto (-16), 3) := by decide +kernel
theorem dX12_ordered_31 : decode cX12_ordered 31 = .ok (.iload_n 3, 1) := by decide +kernel
theorem dX12_ordered_32 : decode cX12_ordered 32 = .ok (.ireturn, 1) := by decide +kernel
def L_X12_ordered_12 (d : Nat) (v0 : Option Nm) (v3 : Int32) (h : MH) (u : Nat) (Q : Int32 → MH → Prop) : Prop := T u_X12_ordered (d + 1) 12 [some (jR v0), none, none, some (jI v3)] [] h u (qI Q)
def F_X12_ordered (d : Nat) (v0 : Option Nm) (v1 : Int32) (v2 : Int32) (h : MH) (u : Nat) (Q : Int32 → MH → Prop) : Prop :=
  pV h v0 11 35 (jI 0) fun h =>
  rc h v0 11 ∧ iI d u_X12_meet [jR v0, jI v1, jI v2] h u fun x1 h u =>
  L_X12_ordered_12 d v0 x1 h u Q
set_option maxRecDepth 20000 in
theorem E_X12_ordered {d : Nat} {v0 : Option Nm} {v1 : Int32} {v2 : Int32} {h : MH} {u : Nat} {Q : Int32 → MH → Prop} (H : F_X12_ordered d v0 v1 v2 h u Q) : T u_X12_ordered (d + 1) 0 [some (jR v0), some (jI v1), some (jI v2), none] [] h u (qI Q) := by
  unfold F_X12_ordered at H
  refine T_aload_n (pc := 0) dX12_ordered_0 rfl rfl ?_
  refine T_iconst (pc := 1) (v := 0) dX12_ordered_1 (by decide) ?_
  refine T_pV (pc := 2) fa_X12_271 dX12_ordered_2 trivial (pV_mono (fun h H => ?_) H)
  refine T_aload_n (pc := 5) dX12_ordered_5 rfl rfl ?_
  refine T_iload_n (pc := 6) dX12_ordered_6 rfl rfl ?_
  refine T_iload_n (pc := 7) dX12_ordered_7 rfl rfl ?_
  obtain ⟨H0, H⟩ := H
  refine T_iV (pc := 8) (ci := 11) (av := [jI v1, jI v2]) (rest := []) (o := v0) dX12_ordered_8 mf_X12_meet c_6_79 c_6_81 pr_X12_meet rfl rfl (Nat.le_of_ble_eq_true rfl) rfl H0 (iI_k (iI_mono (fun x1 h u H => ?_) H))
  refine T_istore_n (pc := 11) (ls2 := [some (jR v0), some (jI v1), some (jI v2), some (jI x1)]) dX12_ordered_11 rfl (Nat.le_of_ble_eq_true rfl) rfl ?_
  exact T.forget H ⟨rfl, rfl, trivial⟩
def F_X12_ordered_12 (d : Nat) (v0 : Option Nm) (v3 : Int32) (h : MH) (u : Nat) (Q : Int32 → MH → Prop) : Prop :=
  if v3 = 0 then
    gI h v0 11 35 fun x1 =>
    if x1 ≤ 0 then
      Q v3 h
    else
      rc h v0 11 ∧ iI d u_X12_step [jR v0] h u fun x2 h u =>
      L_X12_ordered_12 d v0 x2 h u Q
  else
    Q v3 h
set_option maxRecDepth 20000 in
theorem E_X12_ordered_12 {d : Nat} {v0 : Option Nm} {v3 : Int32} {h : MH} {u : Nat} {Q : Int32 → MH → Prop} (H : F_X12_ordered_12 d v0 v3 h u Q) : T u_X12_ordered (d + 1) 12 [some (jR v0), none, none, some (jI v3)] [] h u (qI Q) := by
  unfold F_X12_ordered_12 at H
  refine T_iload_n (pc := 12) dX12_ordered_12 rfl rfl ?_
  refine T_if_ne (pc := 13) (tgt := 31) dX12_ordered_13 (by decide) (fun hc => ?_) (fun hc => ?_)
  · rw [if_neg hc] at H
    refine T_iload_n (pc := 31) dX12_ordered_31 rfl rfl ?_
    exact T_ireturn (pc := 32) rfl rfl dX12_ordered_32 H
  · rw [if_pos hc] at H
    refine T_aload_n (pc := 16) dX12_ordered_16 rfl rfl ?_
    refine T_gI (pc := 17) fa_X12_271 dX12_ordered_17 (gI_mono (fun x1 H => ?_) H)
    refine T_if_le (pc := 20) (tgt := 31) dX12_ordered_20 (by decide) (fun hc => ?_) (fun hc => ?_)
    · rw [if_pos hc] at H
      refine T_iload_n (pc := 31) dX12_ordered_31 rfl rfl ?_
      exact T_ireturn (pc := 32) rfl rfl dX12_ordered_32 H
    · rw [if_neg hc] at H
      refine T_aload_n (pc := 23) dX12_ordered_23 rfl rfl ?_
      obtain ⟨H0, H⟩ := H
      refine T_iV (pc := 24) (ci := 11) (av := []) (rest := []) (o := v0) dX12_ordered_24 mf_X12_step c_6_90 c_6_92 pr_X12_step rfl rfl (Nat.le_of_ble_eq_true rfl) rfl H0 (iI_k (iI_mono (fun x2 h u H => ?_) H))
      refine T_istore_n (pc := 27) (ls2 := [some (jR v0), none, none, some (jI x2)]) dX12_ordered_27 rfl (Nat.le_of_ble_eq_true rfl) rfl ?_
      refine T_goto (pc := 28) (tgt := 12) dX12_ordered_28 (by decide) ?_
      exact T.forget H ⟨rfl, rfl, trivial⟩
theorem I_X12_ordered {d : Nat} {v0 : Option Nm} {v1 : Int32} {v2 : Int32} {h : MH} {u : Nat} {K : Int32 → MH → Nat → Prop} (u1 : Nat) (hu : u1 ≤ u) (H : F_X12_ordered d v0 v1 v2 h u1 (fun x h2 => K x h2 (u - u1))) : iI (d + 1) u_X12_ordered [jR v0, jI v1, jI v2] h u K := inv.of u1 hu (Ct.of (by decide +kernel) rfl (Nat.le_of_ble_eq_true rfl) rfl (E_X12_ordered H))
theorem dX12_equal_0 : decode cX12_equal 0 = .ok (.aload_n 0, 1) := by decide +kernel
theorem dX12_equal_1 : decode cX12_equal 1 = .ok (.iload_n 1, 1) := by decide +kernel
theorem dX12_equal_2 : decode cX12_equal 2 = .ok (.invokevirtual 190, 3) := by decide +kernel
theorem dX12_equal_5 : decode cX12_equal 5 = .ok (.ifCond .eq 11, 3) := by decide +kernel
theorem dX12_equal_8 : decode cX12_equal 8 = .ok (.aload_n 0, 1) := by decide +kernel
theorem dX12_equal_9 : decode cX12_equal 9 = .ok (.iload_n 2, 1) := by decide +kernel
theorem dX12_equal_10 : decode cX12_equal 10 = .ok (.invokevirtual 190, 3) := by decide +kernel
theorem dX12_equal_13 : decode cX12_equal 13 = .ok (.ifCond .ne 5, 3) := by decide +kernel
theorem dX12_equal_16 : decode cX12_equal 16 = .ok (.iconst (-1), 1) := by decide +kernel
theorem dX12_equal_17 : decode cX12_equal 17 = .ok (.ireturn, 1) := by decide +kernel
theorem dX12_equal_18 : decode cX12_equal 18 = .ok (.aload_n 0, 1) := by decide +kernel
theorem dX12_equal_19 : decode cX12_equal 19 = .ok (.iload_n 1, 1) := by decide +kernel
theorem dX12_equal_20 : decode cX12_equal 20 = .ok (.iload_n 2, 1) := by decide +kernel
theorem dX12_equal_21 : decode cX12_equal 21 = .ok (.invokevirtual 295, 3) := by decide +kernel
theorem dX12_equal_24 : decode cX12_equal 24 = .ok (.ifCond .ne 7, 3) := by decide +kernel
theorem dX12_equal_27 : decode cX12_equal 27 = .ok (.iconst 1, 1) := by decide +kernel
theorem dX12_equal_28 : decode cX12_equal 28 = .ok (.goto 4, 3) := by decide +kernel
theorem dX12_equal_31 : decode cX12_equal 31 = .ok (.iconst 0, 1) := by decide +kernel
theorem dX12_equal_32 : decode cX12_equal 32 = .ok (.ireturn, 1) := by decide +kernel
def F_X12_equal (d : Nat) (v0 : Option Nm) (v1 : Int32) (v2 : Int32) (h : MH) (u : Nat) (Q : Int32 → MH → Prop) : Prop :=
  rc h v0 11 ∧ iI d u_X12_isValue [jR v0, jI v1] h u fun x1 h u =>
  if x1 = 0 then
    Q (-1) h
  else
    rc h v0 11 ∧ iI d u_X12_isValue [jR v0, jI v2] h u fun x2 h u =>
    if x2 = 0 then
      Q (-1) h
    else
      rc h v0 11 ∧ iI d u_X12_ordered [jR v0, jI v1, jI v2] h u fun x3 h u =>
      if x3 = 0 then
        Q 1 h
      else
        Q 0 h
set_option maxRecDepth 20000 in
theorem E_X12_equal {d : Nat} {v0 : Option Nm} {v1 : Int32} {v2 : Int32} {h : MH} {u : Nat} {Q : Int32 → MH → Prop} (H : F_X12_equal d v0 v1 v2 h u Q) : T u_X12_equal (d + 1) 0 [some (jR v0), some (jI v1), some (jI v2)] [] h u (qI Q) := by
  unfold F_X12_equal at H
  refine T_aload_n (pc := 0) dX12_equal_0 rfl rfl ?_
  refine T_iload_n (pc := 1) dX12_equal_1 rfl rfl ?_
  obtain ⟨H0, H⟩ := H
  refine T_iV (pc := 2) (ci := 11) (av := [jI v1]) (rest := []) (o := v0) dX12_equal_2 mf_X12_isValue c_5_155 c_5_157 pr_X12_isValue rfl rfl (Nat.le_of_ble_eq_true rfl) rfl H0 (iI_k (iI_mono (fun x1 h u H => ?_) H))
  refine T_if_eq (pc := 5) (tgt := 16) dX12_equal_5 (by decide) (fun hc => ?_) (fun hc => ?_)
  · rw [if_pos hc] at H
    refine T_iconst (pc := 16) (v := (-1)) dX12_equal_16 (by decide) ?_
    exact T_ireturn (pc := 17) rfl rfl dX12_equal_17 H
  · rw [if_neg hc] at H
    refine T_aload_n (pc := 8) dX12_equal_8 rfl rfl ?_
    refine T_iload_n (pc := 9) dX12_equal_9 rfl rfl ?_
    obtain ⟨H0, H⟩ := H
    refine T_iV (pc := 10) (ci := 11) (av := [jI v2]) (rest := []) (o := v0) dX12_equal_10 mf_X12_isValue c_5_155 c_5_157 pr_X12_isValue rfl rfl (Nat.le_of_ble_eq_true rfl) rfl H0 (iI_k (iI_mono (fun x2 h u H => ?_) H))
    refine T_if_ne (pc := 13) (tgt := 18) dX12_equal_13 (by decide) (fun hc => ?_) (fun hc => ?_)
    · rw [if_neg hc] at H
      refine T_aload_n (pc := 18) dX12_equal_18 rfl rfl ?_
      refine T_iload_n (pc := 19) dX12_equal_19 rfl rfl ?_
      refine T_iload_n (pc := 20) dX12_equal_20 rfl rfl ?_
      obtain ⟨H0, H⟩ := H
      refine T_iV (pc := 21) (ci := 11) (av := [jI v1, jI v2]) (rest := []) (o := v0) dX12_equal_21 mf_X12_ordered c_6_75 c_6_77 pr_X12_ordered rfl rfl (Nat.le_of_ble_eq_true rfl) rfl H0 (iI_k (iI_mono (fun x3 h u H => ?_) H))
      refine T_if_ne (pc := 24) (tgt := 31) dX12_equal_24 (by decide) (fun hc => ?_) (fun hc => ?_)
      · rw [if_neg hc] at H
        refine T_iconst (pc := 31) (v := 0) dX12_equal_31 (by decide) ?_
        exact T_ireturn (pc := 32) rfl rfl dX12_equal_32 H
      · rw [if_pos hc] at H
        refine T_iconst (pc := 27) (v := 1) dX12_equal_27 (by decide) ?_
        refine T_goto (pc := 28) (tgt := 32) dX12_equal_28 (by decide) ?_
        exact T_ireturn (pc := 32) rfl rfl dX12_equal_32 H
    · rw [if_pos hc] at H
      refine T_iconst (pc := 16) (v := (-1)) dX12_equal_16 (by decide) ?_
      exact T_ireturn (pc := 17) rfl rfl dX12_equal_17 H
theorem I_X12_equal {d : Nat} {v0 : Option Nm} {v1 : Int32} {v2 : Int32} {h : MH} {u : Nat} {K : Int32 → MH → Nat → Prop} (u1 : Nat) (hu : u1 ≤ u) (H : F_X12_equal d v0 v1 v2 h u1 (fun x h2 => K x h2 (u - u1))) : iI (d + 1) u_X12_equal [jR v0, jI v1, jI v2] h u K := inv.of u1 hu (Ct.of (by decide +kernel) rfl (Nat.le_of_ble_eq_true rfl) rfl (E_X12_equal H))
theorem dX12_order_0 : decode cX12_order 0 = .ok (.aload_n 0, 1) := by decide +kernel
theorem dX12_order_1 : decode cX12_order 1 = .ok (.iload_n 1, 1) := by decide +kernel
theorem dX12_order_2 : decode cX12_order 2 = .ok (.invokevirtual 190, 3) := by decide +kernel
theorem dX12_order_5 : decode cX12_order 5 = .ok (.ifCond .eq 11, 3) := by decide +kernel
theorem dX12_order_8 : decode cX12_order 8 = .ok (.aload_n 0, 1) := by decide +kernel
theorem dX12_order_9 : decode cX12_order 9 = .ok (.iload_n 2, 1) := by decide +kernel
theorem dX12_order_10 : decode cX12_order 10 = .ok (.invokevirtual 190, 3) := by decide +kernel
theorem dX12_order_13 : decode cX12_order 13 = .ok (.ifCond .ne 5, 3) := by decide +kernel
theorem dX12_order_16 : decode cX12_order 16 = .ok (.iconst (-1), 1) := by decide +kernel
theorem dX12_order_17 : decode cX12_order 17 = .ok (.ireturn, 1) := by decide +kernel
theorem dX12_order_18 : decode cX12_order 18 = .ok (.aload_n 0, 1) := by decide +kernel
theorem dX12_order_19 : decode cX12_order 19 = .ok (.iload_n 1, 1) := by decide +kernel
theorem dX12_order_20 : decode cX12_order 20 = .ok (.iload_n 2, 1) := by decide +kernel
theorem dX12_order_21 : decode cX12_order 21 = .ok (.invokevirtual 295, 3) := by decide +kernel
theorem dX12_order_24 : decode cX12_order 24 = .ok (.bipush 100, 2) := by decide +kernel
theorem dX12_order_26 : decode cX12_order 26 = .ok (.isub, 1) := by decide +kernel
theorem dX12_order_27 : decode cX12_order 27 = .ok (.ireturn, 1) := by decide +kernel
def F_X12_order (d : Nat) (v0 : Option Nm) (v1 : Int32) (v2 : Int32) (h : MH) (u : Nat) (Q : Int32 → MH → Prop) : Prop :=
  rc h v0 11 ∧ iI d u_X12_isValue [jR v0, jI v1] h u fun x1 h u =>
  if x1 = 0 then
    Q (-1) h
  else
    rc h v0 11 ∧ iI d u_X12_isValue [jR v0, jI v2] h u fun x2 h u =>
    if x2 = 0 then
      Q (-1) h
    else
      rc h v0 11 ∧ iI d u_X12_ordered [jR v0, jI v1, jI v2] h u fun x3 h u =>
      Q (x3 - 100) h
set_option maxRecDepth 20000 in
theorem E_X12_order {d : Nat} {v0 : Option Nm} {v1 : Int32} {v2 : Int32} {h : MH} {u : Nat} {Q : Int32 → MH → Prop} (H : F_X12_order d v0 v1 v2 h u Q) : T u_X12_order (d + 1) 0 [some (jR v0), some (jI v1), some (jI v2)] [] h u (qI Q) := by
  unfold F_X12_order at H
  refine T_aload_n (pc := 0) dX12_order_0 rfl rfl ?_
  refine T_iload_n (pc := 1) dX12_order_1 rfl rfl ?_
  obtain ⟨H0, H⟩ := H
  refine T_iV (pc := 2) (ci := 11) (av := [jI v1]) (rest := []) (o := v0) dX12_order_2 mf_X12_isValue c_5_155 c_5_157 pr_X12_isValue rfl rfl (Nat.le_of_ble_eq_true rfl) rfl H0 (iI_k (iI_mono (fun x1 h u H => ?_) H))
  refine T_if_eq (pc := 5) (tgt := 16) dX12_order_5 (by decide) (fun hc => ?_) (fun hc => ?_)
  · rw [if_pos hc] at H
    refine T_iconst (pc := 16) (v := (-1)) dX12_order_16 (by decide) ?_
    exact T_ireturn (pc := 17) rfl rfl dX12_order_17 H
  · rw [if_neg hc] at H
    refine T_aload_n (pc := 8) dX12_order_8 rfl rfl ?_
    refine T_iload_n (pc := 9) dX12_order_9 rfl rfl ?_
    obtain ⟨H0, H⟩ := H
    refine T_iV (pc := 10) (ci := 11) (av := [jI v2]) (rest := []) (o := v0) dX12_order_10 mf_X12_isValue c_5_155 c_5_157 pr_X12_isValue rfl rfl (Nat.le_of_ble_eq_true rfl) rfl H0 (iI_k (iI_mono (fun x2 h u H => ?_) H))
    refine T_if_ne (pc := 13) (tgt := 18) dX12_order_13 (by decide) (fun hc => ?_) (fun hc => ?_)
    · rw [if_neg hc] at H
      refine T_aload_n (pc := 18) dX12_order_18 rfl rfl ?_
      refine T_iload_n (pc := 19) dX12_order_19 rfl rfl ?_
      refine T_iload_n (pc := 20) dX12_order_20 rfl rfl ?_
      obtain ⟨H0, H⟩ := H
      refine T_iV (pc := 21) (ci := 11) (av := [jI v1, jI v2]) (rest := []) (o := v0) dX12_order_21 mf_X12_ordered c_6_75 c_6_77 pr_X12_ordered rfl rfl (Nat.le_of_ble_eq_true rfl) rfl H0 (iI_k (iI_mono (fun x3 h u H => ?_) H))
      refine T_bipush (pc := 24) (v := 100) dX12_order_24 (by decide) ?_
      refine T_isub (pc := 26) dX12_order_26 ?_
      exact T_ireturn (pc := 27) rfl rfl dX12_order_27 H
    · rw [if_pos hc] at H
      refine T_iconst (pc := 16) (v := (-1)) dX12_order_16 (by decide) ?_
      exact T_ireturn (pc := 17) rfl rfl dX12_order_17 H
theorem I_X12_order {d : Nat} {v0 : Option Nm} {v1 : Int32} {v2 : Int32} {h : MH} {u : Nat} {K : Int32 → MH → Nat → Prop} (u1 : Nat) (hu : u1 ≤ u) (H : F_X12_order d v0 v1 v2 h u1 (fun x h2 => K x h2 (u - u1))) : iI (d + 1) u_X12_order [jR v0, jI v1, jI v2] h u K := inv.of u1 hu (Ct.of (by decide +kernel) rfl (Nat.le_of_ble_eq_true rfl) rfl (E_X12_order H))
theorem dX12_numberHash_0 : decode cX12_numberHash 0 = .ok (.iload_n 0, 1) := by decide +kernel
theorem dX12_numberHash_1 : decode cX12_numberHash 1 = .ok (.ifCond .ne 19, 3) := by decide +kernel
theorem dX12_numberHash_4 : decode cX12_numberHash 4 = .ok (.lload_n 1, 1) := by decide +kernel
theorem dX12_numberHash_5 : decode cX12_numberHash 5 = .ok (.lconst 1, 1) := by decide +kernel
theorem dX12_numberHash_6 : decode cX12_numberHash 6 = .ok (.lcmp, 1) := by decide +kernel
theorem dX12_numberHash_7 : decode cX12_numberHash 7 = .ok (.ifCond .ne 9, 3) := by decide +kernel
theorem dX12_numberHash_10 : decode cX12_numberHash 10 = .ok (.sipush 1231, 3) := by decide +kernel
theorem dX12_numberHash_13 : decode cX12_numberHash 13 = .ok (.goto 6, 3) := by decide +kernel
theorem dX12_numberHash_16 : decode cX12_numberHash 16 = .ok (.sipush 1237, 3) := by decide +kernel
theorem dX12_numberHash_19 : decode cX12_numberHash 19 = .ok (.ireturn, 1) := by decide +kernel
theorem dX12_numberHash_20 : decode cX12_numberHash 20 = .ok (.iload_n 0, 1) := by decide +kernel
theorem dX12_numberHash_21 : decode cX12_numberHash 21 = .ok (.iconst 5, 1) := by decide +kernel
theorem dX12_numberHash_22 : decode cX12_numberHash 22 = .ok (.if_icmp .eq 9, 3) := by decide +kernel
theorem dX12_numberHash_25 : decode cX12_numberHash 25 = .ok (.iload_n 0, 1) := by decide +kernel
theorem dX12_numberHash_26 : decode cX12_numberHash 26 = .ok (.bipush 7, 2) := by decide +kernel
theorem dX12_numberHash_28 : decode cX12_numberHash 28 = .ok (.if_icmp .ne 13, 3) := by decide +kernel
theorem dX12_numberHash_31 : decode cX12_numberHash 31 = .ok (.lload_n 1, 1) := by decide +kernel
theorem dX12_numberHash_32 : decode cX12_numberHash 32 = .ok (.lload_n 1, 1) := by decide +kernel
theorem dX12_numberHash_33 : decode cX12_numberHash 33 = .ok (.bipush 32, 2) := by decide +kernel
theorem dX12_numberHash_35 : decode cX12_numberHash 35 = .ok (.lushr, 1) := by decide +kernel
theorem dX12_numberHash_36 : decode cX12_numberHash 36 = .ok (.lxor, 1) := by decide +kernel
theorem dX12_numberHash_37 : decode cX12_numberHash 37 = .ok (.l2i, 1) := by decide +kernel
theorem dX12_numberHash_38 : decode cX12_numberHash 38 = .ok (.goto 5, 3) := by decide +kernel
theorem dX12_numberHash_41 : decode cX12_numberHash 41 = .ok (.lload_n 1, 1) := by decide +kernel
theorem dX12_numberHash_42 : decode cX12_numberHash 42 = .ok (.l2i, 1) := by decide +kernel
theorem dX12_numberHash_43 : decode cX12_numberHash 43 = .ok (.ireturn, 1) := by decide +kernel
def F_X12_numberHash (d : Nat) (v0 : Int32) (v1 : Int64) (h : MH) (u : Nat) (Q : Int32 → MH → Prop) : Prop :=
  if v0 = 0 then
    if (lg_cmp v1 1) = 0 then
      Q 1231 h
    else
      Q 1237 h
  else
    if v0 = 5 then
      Q ((v1 ^^^ ((v1.toUInt64 >>> ((32 : Int32).toInt64.toUInt64 &&& Int64.toUInt64 63)).toInt64)).toInt32) h
    else
      if v0 = 7 then
        Q ((v1 ^^^ ((v1.toUInt64 >>> ((32 : Int32).toInt64.toUInt64 &&& Int64.toUInt64 63)).toInt64)).toInt32) h
      else
        Q (v1.toInt32) h
set_option maxRecDepth 20000 in
theorem E_X12_numberHash {d : Nat} {v0 : Int32} {v1 : Int64} {h : MH} {u : Nat} {Q : Int32 → MH → Prop} (H : F_X12_numberHash d v0 v1 h u Q) : T u_X12_numberHash d 0 [some (jI v0), some (jL v1), none] [] h u (qI Q) := by
  unfold F_X12_numberHash at H
  refine T_iload_n (pc := 0) dX12_numberHash_0 rfl rfl ?_
  refine T_if_ne (pc := 1) (tgt := 20) dX12_numberHash_1 (by decide) (fun hc => ?_) (fun hc => ?_)
  · rw [if_neg hc] at H
    refine T_iload_n (pc := 20) dX12_numberHash_20 rfl rfl ?_
    refine T_iconst (pc := 21) (v := 5) dX12_numberHash_21 (by decide) ?_
    refine T_icmp_eq (pc := 22) (tgt := 31) dX12_numberHash_22 (by decide) (fun hc => ?_) (fun hc => ?_)
    · rw [if_pos hc] at H
      refine T_lload_n (pc := 31) dX12_numberHash_31 rfl rfl ?_
      refine T_lload_n (pc := 32) dX12_numberHash_32 rfl rfl ?_
      refine T_bipush (pc := 33) (v := 32) dX12_numberHash_33 (by decide) ?_
      refine T_lushr (pc := 35) dX12_numberHash_35 ?_
      refine T_lxor (pc := 36) dX12_numberHash_36 ?_
      refine T_l2i (pc := 37) dX12_numberHash_37 ?_
      refine T_goto (pc := 38) (tgt := 43) dX12_numberHash_38 (by decide) ?_
      exact T_ireturn (pc := 43) rfl rfl dX12_numberHash_43 H
    · rw [if_neg hc] at H
      refine T_iload_n (pc := 25) dX12_numberHash_25 rfl rfl ?_
      refine T_bipush (pc := 26) (v := 7) dX12_numberHash_26 (by decide) ?_
      refine T_icmp_ne (pc := 28) (tgt := 41) dX12_numberHash_28 (by decide) (fun hc => ?_) (fun hc => ?_)
      · rw [if_neg hc] at H
        refine T_lload_n (pc := 41) dX12_numberHash_41 rfl rfl ?_
        refine T_l2i (pc := 42) dX12_numberHash_42 ?_
        exact T_ireturn (pc := 43) rfl rfl dX12_numberHash_43 H
      · rw [if_pos hc] at H
        refine T_lload_n (pc := 31) dX12_numberHash_31 rfl rfl ?_
        refine T_lload_n (pc := 32) dX12_numberHash_32 rfl rfl ?_
        refine T_bipush (pc := 33) (v := 32) dX12_numberHash_33 (by decide) ?_
        refine T_lushr (pc := 35) dX12_numberHash_35 ?_
        refine T_lxor (pc := 36) dX12_numberHash_36 ?_
        refine T_l2i (pc := 37) dX12_numberHash_37 ?_
        refine T_goto (pc := 38) (tgt := 43) dX12_numberHash_38 (by decide) ?_
        exact T_ireturn (pc := 43) rfl rfl dX12_numberHash_43 H
  · rw [if_pos hc] at H
    refine T_lload_n (pc := 4) dX12_numberHash_4 rfl rfl ?_
    refine T_lconst (pc := 5) (v := 1) dX12_numberHash_5 (by decide) ?_
    refine T_lcmp (pc := 6) dX12_numberHash_6 ?_
    refine T_if_ne (pc := 7) (tgt := 16) dX12_numberHash_7 (by decide) (fun hc => ?_) (fun hc => ?_)
    · rw [if_neg hc] at H
      refine T_sipush (pc := 16) (v := 1237) dX12_numberHash_16 (by decide) ?_
      exact T_ireturn (pc := 19) rfl rfl dX12_numberHash_19 H
    · rw [if_pos hc] at H
      refine T_sipush (pc := 10) (v := 1231) dX12_numberHash_10 (by decide) ?_
      refine T_goto (pc := 13) (tgt := 19) dX12_numberHash_13 (by decide) ?_
      exact T_ireturn (pc := 19) rfl rfl dX12_numberHash_19 H
theorem I_X12_numberHash {d : Nat} {v0 : Int32} {v1 : Int64} {h : MH} {u : Nat} {K : Int32 → MH → Nat → Prop} (u1 : Nat) (hu : u1 ≤ u) (H : F_X12_numberHash d v0 v1 h u1 (fun x h2 => K x h2 (u - u1))) : iI d u_X12_numberHash [jI v0, jL v1] h u K := inv.of u1 hu (Ct.of (by decide +kernel) rfl (Nat.le_of_ble_eq_true rfl) rfl (E_X12_numberHash H))
theorem dX12_constantHash_0 : decode cX12_constantHash 0 = .ok (.bipush 7, 2) := by decide +kernel
theorem dX12_constantHash_2 : decode cX12_constantHash 2 = .ok (.aload_n 0, 1) := by decide +kernel
theorem dX12_constantHash_3 : decode cX12_constantHash 3 = .ok (.getfield 66, 3) := by decide +kernel
theorem dX12_constantHash_6 : decode cX12_constantHash 6 = .ok (.iload_n 1, 1) := by decide +kernel
theorem dX12_constantHash_7 : decode cX12_constantHash 7 = .ok (.iaload, 1) := by decide +kernel
theorem dX12_constantHash_8 : decode cX12_constantHash 8 = .ok (.imul, 1) := by decide +kernel
theorem dX12_constantHash_9 : decode cX12_constantHash 9 = .ok (.aload_n 0, 1) := by decide +kernel
theorem dX12_constantHash_10 : decode cX12_constantHash 10 = .ok (.getfield 72, 3) := by decide +kernel
theorem dX12_constantHash_13 : decode cX12_constantHash 13 = .ok (.iload_n 1, 1) := by decide +kernel
theorem dX12_constantHash_14 : decode cX12_constantHash 14 = .ok (.iaload, 1) := by decide +kernel
theorem dX12_constantHash_15 : decode cX12_constantHash 15 = .ok (.iadd, 1) := by decide +kernel
theorem dX12_constantHash_16 : decode cX12_constantHash 16 = .ok (.ireturn, 1) := by decide +kernel
def F_X12_constantHash (d : Nat) (v0 : Option Nm) (v1 : Int32) (h : MH) (u : Nat) (Q : Int32 → MH → Prop) : Prop :=
  gR h v0 11 25 fun x1 =>
  aI .int h x1 v1 fun x2 =>
  gR h v0 11 27 fun x3 =>
  aI .int h x3 v1 fun x4 =>
  Q ((7 * x2) + x4) h
set_option maxRecDepth 20000 in
theorem E_X12_constantHash {d : Nat} {v0 : Option Nm} {v1 : Int32} {h : MH} {u : Nat} {Q : Int32 → MH → Prop} (H : F_X12_constantHash d v0 v1 h u Q) : T u_X12_constantHash d 0 [some (jR v0), some (jI v1)] [] h u (qI Q) := by
  unfold F_X12_constantHash at H
  refine T_bipush (pc := 0) (v := 7) dX12_constantHash_0 (by decide) ?_
  refine T_aload_n (pc := 2) dX12_constantHash_2 rfl rfl ?_
  refine T_gR (pc := 3) fa_X12_66 dX12_constantHash_3 (gR_mono (fun x1 H => ?_) H)
  refine T_iload_n (pc := 6) dX12_constantHash_6 rfl rfl ?_
  refine T_aI (pc := 7) dX12_constantHash_7 (aI_mono (fun x2 H => ?_) H)
  refine T_imul (pc := 8) dX12_constantHash_8 ?_
  refine T_aload_n (pc := 9) dX12_constantHash_9 rfl rfl ?_
  refine T_gR (pc := 10) fa_X12_72 dX12_constantHash_10 (gR_mono (fun x3 H => ?_) H)
  refine T_iload_n (pc := 13) dX12_constantHash_13 rfl rfl ?_
  refine T_aI (pc := 14) dX12_constantHash_14 (aI_mono (fun x4 H => ?_) H)
  refine T_iadd (pc := 15) dX12_constantHash_15 ?_
  exact T_ireturn (pc := 16) rfl rfl dX12_constantHash_16 H
theorem I_X12_constantHash {d : Nat} {v0 : Option Nm} {v1 : Int32} {h : MH} {u : Nat} {K : Int32 → MH → Nat → Prop} (u1 : Nat) (hu : u1 ≤ u) (H : F_X12_constantHash d v0 v1 h u1 (fun x h2 => K x h2 (u - u1))) : iI d u_X12_constantHash [jR v0, jI v1] h u K := inv.of u1 hu (Ct.of (by decide +kernel) rfl (Nat.le_of_ble_eq_true rfl) rfl (E_X12_constantHash H))
theorem dX12_rowHash_0 : decode cX12_rowHash 0 = .ok (.iconst 1, 1) := by decide +kernel
theorem dX12_rowHash_1 : decode cX12_rowHash 1 = .ok (.istore_n 2, 1) := by decide +kernel
theorem dX12_rowHash_2 : decode cX12_rowHash 2 = .ok (.iconst 0, 1) := by decide +kernel
theorem dX12_rowHash_3 : decode cX12_rowHash 3 = .ok (.istore_n 3, 1) := by decide +kernel
theorem dX12_rowHash_4 : decode cX12_rowHash 4 = .ok (.iload_n 3, 1) := by decide +kernel
theorem dX12_rowHash_5 : decode cX12_rowHash 5 = .ok (.aload_n 0, 1) := by decide +kernel
theorem dX12_rowHash_6 : decode cX12_rowHash 6 = .ok (.getfield 13, 3) := by decide +kernel
theorem dX12_rowHash_9 : decode cX12_rowHash 9 = .ok (.iload_n 1, 1) := by decide +kernel
theorem dX12_rowHash_10 : decode cX12_rowHash 10 = .ok (.iaload, 1) := by decide +kernel
theorem dX12_rowHash_11 : decode cX12_rowHash 11 = .ok (.if_icmp .ge 35, 3) := by decide +kernel
theorem dX12_rowHash_14 : decode cX12_rowHash 14 = .ok (.bipush 31, 2) := by decide +kernel
theorem dX12_rowHash_16 : decode cX12_rowHash 16 = .ok (.iload_n 2, 1) := by decide +kernel
theorem dX12_rowHash_17 : decode cX12_rowHash 17 = .ok (.imul, 1) := by decide +kernel
theorem dX12_rowHash_18 : decode cX12_rowHash 18 = .ok (.aload_n 0, 1) := by decide +kernel
theorem dX12_rowHash_19 : decode cX12_rowHash 19 = .ok (.getfield 7, 3) := by decide +kernel
theorem dX12_rowHash_22 : decode cX12_rowHash 22 = .ok (.iload_n 1, 1) := by decide +kernel
theorem dX12_rowHash_23 : decode cX12_rowHash 23 = .ok (.iaload, 1) := by decide +kernel
theorem dX12_rowHash_24 : decode cX12_rowHash 24 = .ok (.aload_n 0, 1) := by decide +kernel
theorem dX12_rowHash_25 : decode cX12_rowHash 25 = .ok (.getfield 20, 3) := by decide +kernel
theorem dX12_rowHash_28 : decode cX12_rowHash 28 = .ok (.bipush 20, 2) := by decide +kernel
theorem dX12_rowHash_30 : decode cX12_rowHash 30 = .ok (.iload_n 1, 1) := by decide +kernel
theorem dX12_rowHash_31 : decode cX12_rowHash 31 = .ok (.imul, 1) := by decide +kernel
theorem dX12_rowHash_32 : decode cX12_rowHash 32 = .ok (.iload_n 3, 1) := by decide +kernel
theorem dX12_rowHash_33 : decode cX12_rowHash 33 = .ok (.iadd, 1) := by decide +kernel
theorem dX12_rowHash_34 : decode cX12_rowHash 34 = .ok (.laload, 1) := by decide +kernel
theorem dX12_rowHash_35 : decode cX12_rowHash 35 = .ok (.invokestatic 298, 3) := by decide +kernel
theorem dX12_rowHash_38 : decode cX12_rowHash 38 = .ok (.iadd, 1) := by decide +kernel
theorem dX12_rowHash_39 : decode cX12_rowHash 39 = .ok (.istore_n 2, 1) := by decide +kernel
theorem dX12_rowHash_40 : decode cX12_rowHash 40 = .ok (.iinc 3 1, 3) := by decide +kernel
theorem dX12_rowHash_43 : decode cX12_rowHash 43 = .ok (.goto (-39), 3) := by decide +kernel
theorem dX12_rowHash_46 : decode cX12_rowHash 46 = .ok (.iload_n 2, 1) := by decide +kernel
theorem dX12_rowHash_47 : decode cX12_rowHash 47 = .ok (.ireturn, 1) := by decide +kernel
def L_X12_rowHash_4 (d : Nat) (v0 : Option Nm) (v1 : Int32) (v2 : Int32) (v3 : Int32) (h : MH) (u : Nat) (Q : Int32 → MH → Prop) : Prop := T u_X12_rowHash (d + 1) 4 [some (jR v0), some (jI v1), some (jI v2), some (jI v3)] [] h u (qI Q)
def F_X12_rowHash (d : Nat) (v0 : Option Nm) (v1 : Int32) (h : MH) (u : Nat) (Q : Int32 → MH → Prop) : Prop :=
  L_X12_rowHash_4 d v0 v1 1 0 h u Q
set_option maxRecDepth 20000 in
theorem E_X12_rowHash {d : Nat} {v0 : Option Nm} {v1 : Int32} {h : MH} {u : Nat} {Q : Int32 → MH → Prop} (H : F_X12_rowHash d v0 v1 h u Q) : T u_X12_rowHash (d + 1) 0 [some (jR v0), some (jI v1), none, none] [] h u (qI Q) := by
  unfold F_X12_rowHash at H
  refine T_iconst (pc := 0) (v := 1) dX12_rowHash_0 (by decide) ?_
  refine T_istore_n (pc := 1) (ls2 := [some (jR v0), some (jI v1), some (jI 1), none]) dX12_rowHash_1 rfl (Nat.le_of_ble_eq_true rfl) rfl ?_
  refine T_iconst (pc := 2) (v := 0) dX12_rowHash_2 (by decide) ?_
  refine T_istore_n (pc := 3) (ls2 := [some (jR v0), some (jI v1), some (jI 1), some (jI 0)]) dX12_rowHash_3 rfl (Nat.le_of_ble_eq_true rfl) rfl ?_
  exact T.forget H ⟨rfl, rfl, rfl, rfl, trivial⟩
def F_X12_rowHash_4 (d : Nat) (v0 : Option Nm) (v1 : Int32) (v2 : Int32) (v3 : Int32) (h : MH) (u : Nat) (Q : Int32 → MH → Prop) : Prop :=
  gR h v0 11 5 fun x1 =>
  aI .int h x1 v1 fun x2 =>
  if x2 ≤ v3 then
    Q v2 h
  else
    gR h v0 11 4 fun x3 =>
    aI .int h x3 v1 fun x4 =>
    gR h v0 11 7 fun x5 =>
    aL h x5 ((20 * v1) + v3) fun x6 =>
    iI d u_X12_numberHash [jI x4, jL x6] h u fun x7 h u =>
    L_X12_rowHash_4 d v0 v1 ((31 * v2) + x7) (v3 + 1) h u Q
set_option maxRecDepth 20000 in
theorem E_X12_rowHash_4 {d : Nat} {v0 : Option Nm} {v1 : Int32} {v2 : Int32} {v3 : Int32} {h : MH} {u : Nat} {Q : Int32 → MH → Prop} (H : F_X12_rowHash_4 d v0 v1 v2 v3 h u Q) : T u_X12_rowHash (d + 1) 4 [some (jR v0), some (jI v1), some (jI v2), some (jI v3)] [] h u (qI Q) := by
  unfold F_X12_rowHash_4 at H
  refine T_iload_n (pc := 4) dX12_rowHash_4 rfl rfl ?_
  refine T_aload_n (pc := 5) dX12_rowHash_5 rfl rfl ?_
  refine T_gR (pc := 6) fa_X12_13 dX12_rowHash_6 (gR_mono (fun x1 H => ?_) H)
  refine T_iload_n (pc := 9) dX12_rowHash_9 rfl rfl ?_
  refine T_aI (pc := 10) dX12_rowHash_10 (aI_mono (fun x2 H => ?_) H)
  refine T_icmp_ge (pc := 11) (tgt := 46) dX12_rowHash_11 (by decide) (fun hc => ?_) (fun hc => ?_)
  · rw [if_pos hc] at H
    refine T_iload_n (pc := 46) dX12_rowHash_46 rfl rfl ?_
    exact T_ireturn (pc := 47) rfl rfl dX12_rowHash_47 H
  · rw [if_neg hc] at H
    refine T_bipush (pc := 14) (v := 31) dX12_rowHash_14 (by decide) ?_
    refine T_iload_n (pc := 16) dX12_rowHash_16 rfl rfl ?_
    refine T_imul (pc := 17) dX12_rowHash_17 ?_
    refine T_aload_n (pc := 18) dX12_rowHash_18 rfl rfl ?_
    refine T_gR (pc := 19) fa_X12_7 dX12_rowHash_19 (gR_mono (fun x3 H => ?_) H)
    refine T_iload_n (pc := 22) dX12_rowHash_22 rfl rfl ?_
    refine T_aI (pc := 23) dX12_rowHash_23 (aI_mono (fun x4 H => ?_) H)
    refine T_aload_n (pc := 24) dX12_rowHash_24 rfl rfl ?_
    refine T_gR (pc := 25) fa_X12_20 dX12_rowHash_25 (gR_mono (fun x5 H => ?_) H)
    refine T_bipush (pc := 28) (v := 20) dX12_rowHash_28 (by decide) ?_
    refine T_iload_n (pc := 30) dX12_rowHash_30 rfl rfl ?_
    refine T_imul (pc := 31) dX12_rowHash_31 ?_
    refine T_iload_n (pc := 32) dX12_rowHash_32 rfl rfl ?_
    refine T_iadd (pc := 33) dX12_rowHash_33 ?_
    refine T_aL (pc := 34) dX12_rowHash_34 (aL_mono (fun x6 H => ?_) H)
    refine T_invS (pc := 35) (av := [jI x4, jL x6]) (rest := [jI (31 * v2)]) dX12_rowHash_35 mf_X12_numberHash c_6_120 c_6_121 rfl (Nat.le_of_ble_eq_true rfl) rfl (iI_k (iI_mono (fun x7 h u H => ?_) H))
    refine T_iadd (pc := 38) dX12_rowHash_38 ?_
    refine T_istore_n (pc := 39) (ls2 := [some (jR v0), some (jI v1), some (jI ((31 * v2) + x7)), some (jI v3)]) dX12_rowHash_39 rfl (Nat.le_of_ble_eq_true rfl) rfl ?_
    refine T_iinc (pc := 40) (v := v3 + 1) (ls2 := [some (jR v0), some (jI v1), some (jI ((31 * v2) + x7)), some (jI (v3 + 1))]) dX12_rowHash_40 rfl rfl (Nat.le_of_ble_eq_true rfl) rfl ?_
    refine T_goto (pc := 43) (tgt := 4) dX12_rowHash_43 (by decide) ?_
    exact T.forget H ⟨rfl, rfl, rfl, rfl, trivial⟩
theorem I_X12_rowHash {d : Nat} {v0 : Option Nm} {v1 : Int32} {h : MH} {u : Nat} {K : Int32 → MH → Nat → Prop} (u1 : Nat) (hu : u1 ≤ u) (H : F_X12_rowHash d v0 v1 h u1 (fun x h2 => K x h2 (u - u1))) : iI (d + 1) u_X12_rowHash [jR v0, jI v1] h u K := inv.of u1 hu (Ct.of (by decide +kernel) rfl (Nat.le_of_ble_eq_true rfl) rfl (E_X12_rowHash H))
theorem dX12_adds_0 : decode cX12_adds 0 = .ok (.aload_n 0, 1) := by decide +kernel
theorem dX12_adds_1 : decode cX12_adds 1 = .ok (.getfield 271, 3) := by decide +kernel
theorem dX12_adds_4 : decode cX12_adds 4 = .ok (.iconst 1, 1) := by decide +kernel
theorem dX12_adds_5 : decode cX12_adds 5 = .ok (.isub, 1) := by decide +kernel
theorem dX12_adds_6 : decode cX12_adds 6 = .ok (.istore_n 2, 1) := by decide +kernel
theorem dX12_adds_7 : decode cX12_adds 7 = .ok (.aload_n 0, 1) := by decide +kernel
theorem dX12_adds_8 : decode cX12_adds 8 = .ok (.getfield 99, 3) := by decide +kernel
theorem dX12_adds_11 : decode cX12_adds 11 = .ok (.iload_n 2, 1) := by decide +kernel
theorem dX12_adds_12 : decode cX12_adds 12 = .ok (.iaload, 1) := by decide +kernel
theorem dX12_adds_13 : decode cX12_adds 13 = .ok (.ifCond .lt 33, 3) := by decide +kernel
theorem dX12_adds_16 : decode cX12_adds 16 = .ok (.aload_n 0, 1) := by decide +kernel
theorem dX12_adds_17 : decode cX12_adds 17 = .ok (.getfield 105, 3) := by decide +kernel
theorem dX12_adds_20 : decode cX12_adds 20 = .ok (.iload_n 2, 1) := by decide +kernel
theorem dX12_adds_21 : decode cX12_adds 21 = .ok (.bipush 31, 2) := by decide +kernel
theorem dX12_adds_23 : decode cX12_adds 23 = .ok (.aload_n 0, 1) := by decide +kernel
theorem dX12_adds_24 : decode cX12_adds 24 = .ok (.getfield 105, 3) := by decide +kernel
theorem dX12_adds_27 : decode cX12_adds 27 = .ok (.iload_n 2, 1) := by decide +kernel
theorem dX12_adds_28 : decode cX12_adds 28 = .ok (.iaload, 1) := by decide +kernel
theorem dX12_adds_29 : decode cX12_adds 29 = .ok (.imul, 1) := by decide +kernel
theorem dX12_adds_30 : decode cX12_adds 30 = .ok (.iload_n 1, 1) := by decide +kernel
theorem dX12_adds_31 : decode cX12_adds 31 = .ok (.iadd, 1) := by decide +kernel
theorem dX12_adds_32 : decode cX12_adds 32 = .ok (.iastore, 1) := by decide +kernel
theorem dX12_adds_33 : decode cX12_adds 33 = .ok (.aload_n 0, 1) := by decide +kernel
theorem dX12_adds_34 : decode cX12_adds 34 = .ok (.getfield 99, 3) := by decide +kernel
theorem dX12_adds_37 : decode cX12_adds 37 = .ok (.iload_n 2, 1) := by decide +kernel
theorem dX12_adds_38 : decode cX12_adds 38 = .ok (.dup2, 1) := by decide +kernel
theorem dX12_adds_39 : decode cX12_adds 39 = .ok (.iaload, 1) := by decide +kernel
theorem dX12_adds_40 : decode cX12_adds 40 = .ok (.iconst 1, 1) := by decide +kernel
theorem dX12_adds_41 : decode cX12_adds 41 = .ok (.iadd, 1) := by decide +kernel
theorem dX12_adds_42 : decode cX12_adds 42 = .ok (.iastore, 1) := by decide +kernel
theorem dX12_adds_43 : decode cX12_adds 43 = .ok (.goto 30, 3) := by decide +kernel
theorem dX12_adds_46 : decode cX12_adds 46 = .ok (.aload_n 0, 1) := by decide +kernel
theorem dX12_adds_47 : decode cX12_adds 47 = .ok (.getfield 102, 3) := by decide +kernel
theorem dX12_adds_50 : decode cX12_adds 50 = .ok (.iload_n 2, 1) := by decide +kernel
theorem dX12_adds_51 : decode cX12_adds 51 = .ok (.bipush 31, 2) := by decide +kernel
theorem dX12_adds_53 : decode cX12_adds 53 = .ok (.aload_n 0, 1) := by decide +kernel
theorem dX12_adds_54 : decode cX12_adds 54 = .ok (.getfield 102, 3) := by decide +kernel
theorem dX12_adds_57 : decode cX12_adds 57 = .ok (.iload_n 2, 1) := by decide +kernel
theorem dX12_adds_58 : decode cX12_adds 58 = .ok (.iaload, 1) := by decide +kernel
theorem dX12_adds_59 : decode cX12_adds 59 = .ok (.imul, 1) := by decide +kernel
theorem dX12_adds_60 : decode cX12_adds 60 = .ok (.iload_n 1, 1) := by decide +kernel
theorem dX12_adds_61 : decode cX12_adds 61 = .ok (.iadd, 1) := by decide +kernel
theorem dX12_adds_62 : decode cX12_adds 62 = .ok (.iastore, 1) := by decide +kernel
theorem dX12_adds_63 : decode cX12_adds 63 = .ok (.aload_n 0, 1) := by decide +kernel
theorem dX12_adds_64 : decode cX12_adds 64 = .ok (.getfield 96, 3) := by decide +kernel
theorem dX12_adds_67 : decode cX12_adds 67 = .ok (.iload_n 2, 1) := by decide +kernel
theorem dX12_adds_68 : decode cX12_adds 68 = .ok (.dup2, 1) := by decide +kernel
theorem dX12_adds_69 : decode cX12_adds 69 = .ok (.iaload, 1) := by decide +kernel
theorem dX12_adds_70 : decode cX12_adds 70 = .ok (.iconst 1, 1) := by decide +kernel
theorem dX12_adds_71 : decode cX12_adds 71 = .ok (.iadd, 1) := by decide +kernel
theorem dX12_adds_72 : decode cX12_adds 72 = .ok (.iastore, 1) := by decide +kernel
theorem dX12_adds_73 : decode cX12_adds 73 = .ok (.return_, 1) := by decide +kernel
def F_X12_adds (d : Nat) (v0 : Option Nm) (v1 : Int32) (h : MH) (u : Nat) (Q : MH → Prop) : Prop :=
  gI h v0 11 35 fun x1 =>
  gR h v0 11 39 fun x2 =>
  aI .int h x2 (x1 - 1) fun x3 =>
  if x3 < 0 then
    gR h v0 11 40 fun x4 =>
    gR h v0 11 40 fun x5 =>
    aI .int h x5 (x1 - 1) fun x6 =>
    sV .int h x4 (x1 - 1) (jI ((31 * x6) + v1)) fun h =>
    gR h v0 11 38 fun x7 =>
    aI .int h x7 (x1 - 1) fun x8 =>
    sV .int h x7 (x1 - 1) (jI (x8 + 1)) fun h =>
    Q h
  else
    gR h v0 11 41 fun x9 =>
    gR h v0 11 41 fun x10 =>
    aI .int h x10 (x1 - 1) fun x11 =>
    sV .int h x9 (x1 - 1) (jI ((31 * x11) + v1)) fun h =>
    gR h v0 11 39 fun x12 =>
    aI .int h x12 (x1 - 1) fun x13 =>
    sV .int h x12 (x1 - 1) (jI (x13 + 1)) fun h =>
    Q h
set_option maxRecDepth 20000 in
theorem E_X12_adds {d : Nat} {v0 : Option Nm} {v1 : Int32} {h : MH} {u : Nat} {Q : MH → Prop} (H : F_X12_adds d v0 v1 h u Q) : T u_X12_adds d 0 [some (jR v0), some (jI v1), none] [] h u (qV Q) := by
  unfold F_X12_adds at H
  refine T_aload_n (pc := 0) dX12_adds_0 rfl rfl ?_
  refine T_gI (pc := 1) fa_X12_271 dX12_adds_1 (gI_mono (fun x1 H => ?_) H)
  refine T_iconst (pc := 4) (v := 1) dX12_adds_4 (by decide) ?_
  refine T_isub (pc := 5) dX12_adds_5 ?_
  refine T_istore_n (pc := 6) (ls2 := [some (jR v0), some (jI v1), some (jI (x1 - 1))]) dX12_adds_6 rfl (Nat.le_of_ble_eq_true rfl) rfl ?_
  refine T_aload_n (pc := 7) dX12_adds_7 rfl rfl ?_
  refine T_gR (pc := 8) fa_X12_99 dX12_adds_8 (gR_mono (fun x2 H => ?_) H)
  refine T_iload_n (pc := 11) dX12_adds_11 rfl rfl ?_
  refine T_aI (pc := 12) dX12_adds_12 (aI_mono (fun x3 H => ?_) H)
  refine T_if_lt (pc := 13) (tgt := 46) dX12_adds_13 (by decide) (fun hc => ?_) (fun hc => ?_)
  · rw [if_pos hc] at H
    refine T_aload_n (pc := 46) dX12_adds_46 rfl rfl ?_
    refine T_gR (pc := 47) fa_X12_102 dX12_adds_47 (gR_mono (fun x4 H => ?_) H)
    refine T_iload_n (pc := 50) dX12_adds_50 rfl rfl ?_
    refine T_bipush (pc := 51) (v := 31) dX12_adds_51 (by decide) ?_
    refine T_aload_n (pc := 53) dX12_adds_53 rfl rfl ?_
    refine T_gR (pc := 54) fa_X12_102 dX12_adds_54 (gR_mono (fun x5 H => ?_) H)
    refine T_iload_n (pc := 57) dX12_adds_57 rfl rfl ?_
    refine T_aI (pc := 58) dX12_adds_58 (aI_mono (fun x6 H => ?_) H)
    refine T_imul (pc := 59) dX12_adds_59 ?_
    refine T_iload_n (pc := 60) dX12_adds_60 rfl rfl ?_
    refine T_iadd (pc := 61) dX12_adds_61 ?_
    refine T_sI (pc := 62) dX12_adds_62 (sV_mono (fun h H => ?_) H)
    refine T_aload_n (pc := 63) dX12_adds_63 rfl rfl ?_
    refine T_gR (pc := 64) fa_X12_96 dX12_adds_64 (gR_mono (fun x7 H => ?_) H)
    refine T_iload_n (pc := 67) dX12_adds_67 rfl rfl ?_
    refine T_dup2 (pc := 68) rfl rfl dX12_adds_68 ?_
    refine T_aI (pc := 69) dX12_adds_69 (aI_mono (fun x8 H => ?_) H)
    refine T_iconst (pc := 70) (v := 1) dX12_adds_70 (by decide) ?_
    refine T_iadd (pc := 71) dX12_adds_71 ?_
    refine T_sI (pc := 72) dX12_adds_72 (sV_mono (fun h H => ?_) H)
    exact T_return (pc := 73) rfl dX12_adds_73 H
  · rw [if_neg hc] at H
    refine T_aload_n (pc := 16) dX12_adds_16 rfl rfl ?_
    refine T_gR (pc := 17) fa_X12_105 dX12_adds_17 (gR_mono (fun x9 H => ?_) H)
    refine T_iload_n (pc := 20) dX12_adds_20 rfl rfl ?_
    refine T_bipush (pc := 21) (v := 31) dX12_adds_21 (by decide) ?_
    refine T_aload_n (pc := 23) dX12_adds_23 rfl rfl ?_
    refine T_gR (pc := 24) fa_X12_105 dX12_adds_24 (gR_mono (fun x10 H => ?_) H)
    refine T_iload_n (pc := 27) dX12_adds_27 rfl rfl ?_
    refine T_aI (pc := 28) dX12_adds_28 (aI_mono (fun x11 H => ?_) H)
    refine T_imul (pc := 29) dX12_adds_29 ?_
    refine T_iload_n (pc := 30) dX12_adds_30 rfl rfl ?_
    refine T_iadd (pc := 31) dX12_adds_31 ?_
    refine T_sI (pc := 32) dX12_adds_32 (sV_mono (fun h H => ?_) H)
    refine T_aload_n (pc := 33) dX12_adds_33 rfl rfl ?_
    refine T_gR (pc := 34) fa_X12_99 dX12_adds_34 (gR_mono (fun x12 H => ?_) H)
    refine T_iload_n (pc := 37) dX12_adds_37 rfl rfl ?_
    refine T_dup2 (pc := 38) rfl rfl dX12_adds_38 ?_
    refine T_aI (pc := 39) dX12_adds_39 (aI_mono (fun x13 H => ?_) H)
    refine T_iconst (pc := 40) (v := 1) dX12_adds_40 (by decide) ?_
    refine T_iadd (pc := 41) dX12_adds_41 ?_
    refine T_sI (pc := 42) dX12_adds_42 (sV_mono (fun h H => ?_) H)
    refine T_goto (pc := 43) (tgt := 73) dX12_adds_43 (by decide) ?_
    exact T_return (pc := 73) rfl dX12_adds_73 H
theorem I_X12_adds {d : Nat} {v0 : Option Nm} {v1 : Int32} {h : MH} {u : Nat} {K : MH → Nat → Prop} (u1 : Nat) (hu : u1 ≤ u) (H : F_X12_adds d v0 v1 h u1 (fun h2 => K h2 (u - u1))) : iV d u_X12_adds [jR v0, jI v1] h u K := inv.of u1 hu (Ct.of (by decide +kernel) rfl (Nat.le_of_ble_eq_true rfl) rfl (E_X12_adds H))
theorem dX12_addsThing_0 : decode cX12_addsThing 0 = .ok (.iload_n 1, 1) := by decide +kernel
theorem dX12_addsThing_1 : decode cX12_addsThing 1 = .ok (.ifCond .ge 11, 3) := by decide +kernel
theorem dX12_addsThing_4 : decode cX12_addsThing 4 = .ok (.aload_n 0, 1) := by decide +kernel
theorem dX12_addsThing_5 : decode cX12_addsThing 5 = .ok (.iconst 0, 1) := by decide +kernel
theorem dX12_addsThing_6 : decode cX12_addsThing 6 = .ok (.invokevirtual 302, 3) := by decide +kernel
theorem dX12_addsThing_9 : decode cX12_addsThing 9 = .ok (.goto 29, 3) := by decide +kernel
theorem dX12_addsThing_12 : decode cX12_addsThing 12 = .ok (.aload_n 0, 1) := by decide +kernel
theorem dX12_addsThing_13 : decode cX12_addsThing 13 = .ok (.iload_n 1, 1) := by decide +kernel
theorem dX12_addsThing_14 : decode cX12_addsThing 14 = .ok (.invokevirtual 261, 3) := by decide +kernel
theorem dX12_addsThing_17 : decode cX12_addsThing 17 = .ok (.ifCond .eq 15, 3) := by decide +kernel
theorem dX12_addsThing_20 : decode cX12_addsThing 20 = .ok (.aload_n 0, 1) := by decide +kernel
theorem dX12_addsThing_21 : decode cX12_addsThing 21 = .ok (.aload_n 0, 1) := by decide +kernel
theorem dX12_addsThing_22 : decode cX12_addsThing 22 = .ok (.iload_n 1, 1) := by decide +kernel
theorem dX12_addsThing_23 : decode cX12_addsThing 23 = .ok (.invokevirtual 305, 3) := by decide +kernel
theorem dX12_addsThing_26 : decode cX12_addsThing 26 = .ok (.invokevirtual 302, 3) := by decide +kernel
theorem dX12_addsThing_29 : decode cX12_addsThing 29 = .ok (.goto 9, 3) := by decide +kernel
theorem dX12_addsThing_32 : decode cX12_addsThing 32 = .ok (.aload_n 0, 1) := by decide +kernel
theorem dX12_addsThing_33 : decode cX12_addsThing 33 = .ok (.iload_n 1, 1) := by decide +kernel
theorem dX12_addsThing_34 : decode cX12_addsThing 34 = .ok (.iload_n 1, 1) := by decide +kernel
theorem dX12_addsThing_35 : decode cX12_addsThing 35 = .ok (.invokevirtual 277, 3) := by decide +kernel
theorem dX12_addsThing_38 : decode cX12_addsThing 38 = .ok (.return_, 1) := by decide +kernel
def F_X12_addsThing (d : Nat) (v0 : Option Nm) (v1 : Int32) (h : MH) (u : Nat) (Q : MH → Prop) : Prop :=
  if 0 ≤ v1 then
    rc h v0 11 ∧ iI d u_X12_isConstant [jR v0, jI v1] h u fun x1 h u =>
    if x1 = 0 then
      rc h v0 11 ∧ iV d u_X12_push [jR v0, jI v1, jI v1] h u fun h u =>
      Q h
    else
      rc h v0 11 ∧ iI d u_X12_constantHash [jR v0, jI v1] h u fun x3 h u =>
      rc h v0 11 ∧ iV d u_X12_adds [jR v0, jI x3] h u fun h u =>
      Q h
  else
    rc h v0 11 ∧ iV d u_X12_adds [jR v0, jI 0] h u fun h u =>
    Q h
set_option maxRecDepth 20000 in
theorem E_X12_addsThing {d : Nat} {v0 : Option Nm} {v1 : Int32} {h : MH} {u : Nat} {Q : MH → Prop} (H : F_X12_addsThing d v0 v1 h u Q) : T u_X12_addsThing (d + 1) 0 [some (jR v0), some (jI v1)] [] h u (qV Q) := by
  unfold F_X12_addsThing at H
  refine T_iload_n (pc := 0) dX12_addsThing_0 rfl rfl ?_
  refine T_if_ge (pc := 1) (tgt := 12) dX12_addsThing_1 (by decide) (fun hc => ?_) (fun hc => ?_)
  · rw [if_pos hc] at H
    refine T_aload_n (pc := 12) dX12_addsThing_12 rfl rfl ?_
    refine T_iload_n (pc := 13) dX12_addsThing_13 rfl rfl ?_
    obtain ⟨H0, H⟩ := H
    refine T_iV (pc := 14) (ci := 11) (av := [jI v1]) (rest := []) (o := v0) dX12_addsThing_14 mf_X12_isConstant c_6_34 c_6_36 pr_X12_isConstant rfl rfl (Nat.le_of_ble_eq_true rfl) rfl H0 (iI_k (iI_mono (fun x1 h u H => ?_) H))
    refine T_if_eq (pc := 17) (tgt := 32) dX12_addsThing_17 (by decide) (fun hc => ?_) (fun hc => ?_)
    · rw [if_pos hc] at H
      refine T_aload_n (pc := 32) dX12_addsThing_32 rfl rfl ?_
      refine T_iload_n (pc := 33) dX12_addsThing_33 rfl rfl ?_
      refine T_iload_n (pc := 34) dX12_addsThing_34 rfl rfl ?_
      obtain ⟨H0, H⟩ := H
      refine T_iV (pc := 35) (ci := 11) (av := [jI v1, jI v1]) (rest := []) (o := v0) dX12_addsThing_35 mf_X12_push c_6_86 c_6_88 pr_X12_push rfl rfl (Nat.le_of_ble_eq_true rfl) rfl H0 (iV_k (iV_mono (fun h u H => ?_) H))
      exact T_return (pc := 38) rfl dX12_addsThing_38 H
    · rw [if_neg hc] at H
      refine T_aload_n (pc := 20) dX12_addsThing_20 rfl rfl ?_
      refine T_aload_n (pc := 21) dX12_addsThing_21 rfl rfl ?_
      refine T_iload_n (pc := 22) dX12_addsThing_22 rfl rfl ?_
      obtain ⟨H0, H⟩ := H
      refine T_iV (pc := 23) (ci := 11) (av := [jI v1]) (rest := [jR v0]) (o := v0) dX12_addsThing_23 mf_X12_constantHash c_6_112 c_6_114 pr_X12_constantHash rfl rfl (Nat.le_of_ble_eq_true rfl) rfl H0 (iI_k (iI_mono (fun x3 h u H => ?_) H))
      obtain ⟨H0, H⟩ := H
      refine T_iV (pc := 26) (ci := 11) (av := [jI x3]) (rest := []) (o := v0) dX12_addsThing_26 mf_X12_adds c_6_123 c_6_125 pr_X12_adds rfl rfl (Nat.le_of_ble_eq_true rfl) rfl H0 (iV_k (iV_mono (fun h u H => ?_) H))
      refine T_goto (pc := 29) (tgt := 38) dX12_addsThing_29 (by decide) ?_
      exact T_return (pc := 38) rfl dX12_addsThing_38 H
  · rw [if_neg hc] at H
    refine T_aload_n (pc := 4) dX12_addsThing_4 rfl rfl ?_
    refine T_iconst (pc := 5) (v := 0) dX12_addsThing_5 (by decide) ?_
    obtain ⟨H0, H⟩ := H
    refine T_iV (pc := 6) (ci := 11) (av := [jI 0]) (rest := []) (o := v0) dX12_addsThing_6 mf_X12_adds c_6_123 c_6_125 pr_X12_adds rfl rfl (Nat.le_of_ble_eq_true rfl) rfl H0 (iV_k (iV_mono (fun h u H => ?_) H))
    refine T_goto (pc := 9) (tgt := 38) dX12_addsThing_9 (by decide) ?_
    exact T_return (pc := 38) rfl dX12_addsThing_38 H
theorem I_X12_addsThing {d : Nat} {v0 : Option Nm} {v1 : Int32} {h : MH} {u : Nat} {K : MH → Nat → Prop} (u1 : Nat) (hu : u1 ≤ u) (H : F_X12_addsThing d v0 v1 h u1 (fun h2 => K h2 (u - u1))) : iV (d + 1) u_X12_addsThing [jR v0, jI v1] h u K := inv.of u1 hu (Ct.of (by decide +kernel) rfl (Nat.le_of_ble_eq_true rfl) rfl (E_X12_addsThing H))
theorem dX12_hashPart_0 : decode cX12_hashPart 0 = .ok (.aload_n 0, 1) := by decide +kernel
theorem dX12_hashPart_1 : decode cX12_hashPart 1 = .ok (.getfield 96, 3) := by decide +kernel
theorem dX12_hashPart_4 : decode cX12_hashPart 4 = .ok (.iload_n 1, 1) := by decide +kernel
theorem dX12_hashPart_5 : decode cX12_hashPart 5 = .ok (.iaload, 1) := by decide +kernel
theorem dX12_hashPart_6 : decode cX12_hashPart 6 = .ok (.istore_n 2, 1) := by decide +kernel
theorem dX12_hashPart_7 : decode cX12_hashPart 7 = .ok (.aload_n 0, 1) := by decide +kernel
theorem dX12_hashPart_8 : decode cX12_hashPart 8 = .ok (.aload_n 0, 1) := by decide +kernel
theorem dX12_hashPart_9 : decode cX12_hashPart 9 = .ok (.getfield 90, 3) := by decide +kernel
theorem dX12_hashPart_12 : decode cX12_hashPart 12 = .ok (.iload_n 1, 1) := by decide +kernel
theorem dX12_hashPart_13 : decode cX12_hashPart 13 = .ok (.iaload, 1) := by decide +kernel
theorem dX12_hashPart_14 : decode cX12_hashPart 14 = .ok (.iload_n 2, 1) := by decide +kernel
theorem dX12_hashPart_15 : decode cX12_hashPart 15 = .ok (.invokevirtual 256, 3) := by decide +kernel
theorem dX12_hashPart_18 : decode cX12_hashPart 18 = .ok (.istore_n 3, 1) := by decide +kernel
theorem dX12_hashPart_19 : decode cX12_hashPart 19 = .ok (.aload_n 0, 1) := by decide +kernel
theorem dX12_hashPart_20 : decode cX12_hashPart 20 = .ok (.getfield 84, 3) := by decide +kernel
theorem dX12_hashPart_23 : decode cX12_hashPart 23 = .ok (.bipush 6, 2) := by decide +kernel
theorem dX12_hashPart_25 : decode cX12_hashPart 25 = .ok (.aload_n 0, 1) := by decide +kernel
theorem dX12_hashPart_26 : decode cX12_hashPart 26 = .ok (.getfield 90, 3) := by decide +kernel
theorem dX12_hashPart_29 : decode cX12_hashPart 29 = .ok (.iload_n 1, 1) := by decide +kernel
theorem dX12_hashPart_30 : decode cX12_hashPart 30 = .ok (.iaload, 1) := by decide +kernel
theorem dX12_hashPart_31 : decode cX12_hashPart 31 = .ok (.imul, 1) := by decide +kernel
theorem dX12_hashPart_32 : decode cX12_hashPart 32 = .ok (.iload_n 2, 1) := by decide +kernel
theorem dX12_hashPart_33 : decode cX12_hashPart 33 = .ok (.iadd, 1) := by decide +kernel
theorem dX12_hashPart_34 : decode cX12_hashPart 34 = .ok (.laload, 1) := by decide +kernel
theorem dX12_hashPart_35 : decode cX12_hashPart 35 = .ok (.lstore 4, 2) := by decide +kernel
theorem dX12_hashPart_37 : decode cX12_hashPart 37 = .ok (.iload_n 3, 1) := by decide +kernel
theorem dX12_hashPart_38 : decode cX12_hashPart 38 = .ok (.bipush 8, 2) := by decide +kernel
theorem dX12_hashPart_40 : decode cX12_hashPart 40 = .ok (.if_icmp .ge 16, 3) := by decide +kernel
theorem dX12_hashPart_43 : decode cX12_hashPart 43 = .ok (.aload_n 0, 1) := by decide +kernel
theorem dX12_hashPart_44 : decode cX12_hashPart 44 = .ok (.iload_n 3, 1) := by decide +kernel
theorem dX12_hashPart_45 : decode cX12_hashPart 45 = .ok (.lload 4, 2) := by decide +kernel
theorem dX12_hashPart_47 : decode cX12_hashPart 47 = .ok (.invokestatic 298, 3) := by decide +kernel
theorem dX12_hashPart_50 : decode cX12_hashPart 50 = .ok (.invokevirtual 302, 3) := by decide +kernel
theorem dX12_hashPart_53 : decode cX12_hashPart 53 = .ok (.goto 147, 3) := by decide +kernel
theorem dX12_hashPart_56 : decode cX12_hashPart 56 = .ok (.iload_n 3, 1) := by decide +kernel
theorem dX12_hashPart_57 : decode cX12_hashPart 57 = .ok (.bipush 8, 2) := by decide +kernel
theorem dX12_hashPart_59 : decode cX12_hashPart 59 = .ok (.if_icmp .ne 13, 3) := by decide +kernel
theorem dX12_hashPart_62 : decode cX12_hashPart 62 = .ok (.aload_n 0, 1) := by decide +kernel
theorem dX12_hashPart_63 : decode cX12_hashPart 63 = .ok (.lload 4, 2) := by decide +kernel
theorem dX12_hashPart_65 : decode cX12_hashPart 65 = .ok (.l2i, 1) := by decide +kernel
theorem dX12_hashPart_66 : decode cX12_hashPart 66 = .ok (.invokevirtual 308, 3) := by decide +kernel
theorem dX12_hashPart_69 : decode cX12_hashPart 69 = .ok (.goto 131, 3) := by decide +kernel
theorem dX12_hashPart_72 : decode cX12_hashPart 72 = .ok (.lload 4, 2) := by decide +kernel
theorem dX12_hashPart_74 : decode cX12_hashPart 74 = .ok (.lconst 0, 1) := by decide +kernel
theorem dX12_hashPart_75 : decode cX12_hashPart 75 = .ok (.lcmp, 1) := by decide +kernel
theorem dX12_hashPart_76 : decode cX12_hashPart 76 = .ok (.ifCond .ge 11, 3) := by decide +kernel
theorem dX12_hashPart_79 : decode cX12_hashPart 79 = .ok (.aload_n 0, 1) := by decide +kernel
theorem dX12_hashPart_80 : decode cX12_hashPart 80 = .ok (.iconst 0, 1) := by decide +kernel
theorem dX12_hashPart_81 : decode cX12_hashPart 81 = .ok (.invokevirtual 302, 3) := by decide +kernel
theorem dX12_hashPart_84 : decode cX12_hashPart 84 = .ok (.goto 116, 3) := by decide +kernel
theorem dX12_hashPart_87 : decode cX12_hashPart 87 = .ok (.aload_n 0, 1) := by decide +kernel
theorem dX12_hashPart_88 : decode cX12_hashPart 88 = .ok (.getfield 7, 3) := by decide +kernel
theorem dX12_hashPart_91 : decode cX12_hashPart 91 = .ok (.lload 4, 2) := by decide +kernel
theorem dX12_hashPart_93 : decode cX12_hashPart 93 = .ok (.l2i, 1) := by decide +kernel
theorem dX12_hashPart_94 : decode cX12_hashPart 94 = .ok (.iaload, 1) := by decide +kernel
theorem dX12_hashPart_95 : decode cX12_hashPart 95 = .ok (.bipush 8, 2) := by decide +kernel
theorem dX12_hashPart_97 : decode cX12_hashPart 97 = .ok (.if_icmp .eq 17, 3) := by decide +kernel
theorem dX12_hashPart_100 : decode cX12_hashPart 100 = .ok (.aload_n 0, 1) := by decide +kernel
theorem dX12_hashPart_101 : decode cX12_hashPart 101 = .ok (.aload_n 0, 1) := by decide +kernel
theorem dX12_hashPart_102 : decode cX12_hashPart 102 = .ok (.lload 4, 2) := by decide +kernel
theorem dX12_hashPart_104 : decode cX12_hashPart 104 = .ok (.l2i, 1) := by decide +kernel
theorem dX12_hashPart_105 : decode cX12_hashPart 105 = .ok (.invokevirtual 311, 3) := by decide +kernel
theorem dX12_hashPart_108 : decode cX12_hashPart 108 = .ok (.invokevirtual 302, 3) := by decide +kernel
theorem dX12_hashPart_111 : decode cX12_hashPart 111 = .ok (.goto 89, 3) := by decide +kernel
theorem dX12_hashPart_114 : decode cX12_hashPart 114 = .ok (.aload_n 0, 1) := by decide +kernel
theorem dX12_hashPart_115 : decode cX12_hashPart 115 = .ok (.getfield 99, 3) := by decide +kernel
theorem dX12_hashPart_118 : decode cX12_hashPart 118 = .ok (.iload_n 1, 1) := by decide +kernel
theorem dX12_hashPart_119 : decode cX12_hashPart 119 = .ok (.iaload, 1) := by decide +kernel
theorem dX12_hashPart_120 : decode cX12_hashPart 120 = .ok (.ifCond .ge 20, 3) := by decide +kernel
theorem dX12_hashPart_123 : decode cX12_hashPart 123 = .ok (.aload_n 0, 1) := by decide +kernel
theorem dX12_hashPart_124 : decode cX12_hashPart 124 = .ok (.getfield 99, 3) := by decide +kernel
theorem dX12_hashPart_127 : decode cX12_hashPart 127 = .ok (.iload_n 1, 1) := by decide +kernel
theorem dX12_hashPart_128 : decode cX12_hashPart 128 = .ok (.iconst 0, 1) := by decide +kernel
theorem dX12_hashPart_129 : decode cX12_hashPart 129 = .ok (.iastore, 1) := by decide +kernel
theorem dX12_hashPart_130 : decode cX12_hashPart 130 = .ok (.aload_n 0, 1) := by decide +kernel
theorem dX12_hashPart_131 : decode cX12_hashPart 131 = .ok (.getfield 105, 3) := by decide +kernel
theorem dX12_hashPart_134 : decode cX12_hashPart 134 = .ok (.iload_n 1, 1) := by decide +kernel
theorem dX12_hashPart_135 : decode cX12_hashPart 135 = .ok (.iconst 1, 1) := by decide +kernel
theorem dX12_hashPart_136 : decode cX12_hashPart 136 = .ok (.iastore, 1) := by decide +kernel
theorem dX12_hashPart_137 : decode cX12_hashPart 137 = .ok (.goto 63, 3) := by decide +kernel
theorem dX12_hashPart_140 : decode cX12_hashPart 140 = .ok (.aload_n 0, 1) := by decide +kernel
theorem dX12_hashPart_141 : decode cX12_hashPart 141 = .ok (.getfield 99, 3) := by decide +kernel
theorem dX12_hashPart_144 : decode cX12_hashPart 144 = .ok (.iload_n 1, 1) := by decide +kernel
theorem dX12_hashPart_145 : decode cX12_hashPart 145 = .ok (.iaload, 1) := by decide +kernel
theorem dX12_hashPart_146 : decode cX12_hashPart 146 = .ok (.aload_n 0, 1) := by decide +kernel
theorem dX12_hashPart_147 : decode cX12_hashPart 147 = .ok (.getfield 13, 3) := by decide +kernel
theorem dX12_hashPart_150 : decode cX12_hashPart 150 = .ok (.lload 4, 2) := by decide +kernel
theorem dX12_hashPart_152 : decode cX12_hashPart 152 = .ok (.l2i, 1) := by decide +kernel
theorem dX12_hashPart_153 : decode cX12_hashPart 153 = .ok (.iaload, 1) := by decide +kernel
theorem dX12_hashPart_154 : decode cX12_hashPart 154 = .ok (.if_icmp .ge 29, 3) := by decide +kernel
theorem dX12_hashPart_157 : decode cX12_hashPart 157 = .ok (.aload_n 0, 1) := by decide +kernel
theorem dX12_hashPart_158 : decode cX12_hashPart 158 = .ok (.aload_n 0, 1) := by decide +kernel
theorem dX12_hashPart_159 : decode cX12_hashPart 159 = .ok (.getfield 20, 3) := by decide +kernel
theorem dX12_hashPart_162 : decode cX12_hashPart 162 = .ok (.bipush 20, 2) := by decide +kernel
theorem dX12_hashPart_164 : decode cX12_hashPart 164 = .ok (.lload 4, 2) := by decide +kernel
theorem dX12_hashPart_166 : decode cX12_hashPart 166 = .ok (.l2i, 1) := by decide +kernel
theorem dX12_hashPart_167 : decode cX12_hashPart 167 = .ok (.imul, 1) := by decide +kernel
theorem dX12_hashPart_168 : decode cX12_hashPart 168 = .ok (.aload_n 0, 1) := by decide +kernel
theorem dX12_hashPart_169 : decode cX12_hashPart 169 = .ok (.getfield 99, 3) := by decide +kernel
theorem dX12_hashPart_172 : decode cX12_hashPart 172 = .ok (.iload_n 1, 1) := by decide +kernel
theorem dX12_hashPart_173 : decode cX12_hashPart 173 = .ok (.iaload, 1) := by decide +kernel
theorem dX12_hashPart_174 : decode cX12_hashPart 174 = .ok (.iadd, 1) := by decide +kernel
theorem dX12_hashPart_175 : decode cX12_hashPart 175 = .ok (.laload, 1) := by decide +kernel
theorem dX12_hashPart_176 : decode cX12_hashPart 176 = .ok (.l2i, 1) := by decide +kernel
theorem dX12_hashPart_177 : decode cX12_hashPart 177 = .ok (.invokevirtual 308, 3) := by decide +kernel
theorem dX12_hashPart_180 : decode cX12_hashPart 180 = .ok (.goto 20, 3) := by decide +kernel
theorem dX12_hashPart_183 : decode cX12_hashPart 183 = .ok (.aload_n 0, 1) := by decide +kernel
theorem dX12_hashPart_184 : decode cX12_hashPart 184 = .ok (.getfield 99, 3) := by decide +kernel
theorem dX12_hashPart_187 : decode cX12_hashPart 187 = .ok (.iload_n 1, 1) := by decide +kernel
theorem dX12_hashPart_188 : decode cX12_hashPart 188 = .ok (.iconst (-1), 1) := by decide +kernel
theorem dX12_hashPart_189 : decode cX12_hashPart 189 = .ok (.iastore, 1) := by decide +kernel
theorem dX12_hashPart_190 : decode cX12_hashPart 190 = .ok (.aload_n 0, 1) := by decide +kernel
theorem dX12_hashPart_191 : decode cX12_hashPart 191 = .ok (.aload_n 0, 1) := by decide +kernel
theorem dX12_hashPart_192 : decode cX12_hashPart 192 = .ok (.getfield 105, 3) := by decide +kernel
theorem dX12_hashPart_195 : decode cX12_hashPart 195 = .ok (.iload_n 1, 1) := by decide +kernel
theorem dX12_hashPart_196 : decode cX12_hashPart 196 = .ok (.iaload, 1) := by decide +kernel
theorem dX12_hashPart_197 : decode cX12_hashPart 197 = .ok (.invokevirtual 302, 3) := by decide +kernel
theorem dX12_hashPart_200 : decode cX12_hashPart 200 = .ok (.return_, 1) := by decide +kernel
def F_X12_hashPart (d : Nat) (v0 : Option Nm) (v1 : Int32) (h : MH) (u : Nat) (Q : MH → Prop) : Prop :=
  gR h v0 11 38 fun x1 =>
  aI .int h x1 v1 fun x2 =>
  gR h v0 11 36 fun x3 =>
  aI .int h x3 v1 fun x4 =>
  rc h v0 11 ∧ iI d u_X12_laneOf [jR v0, jI x4, jI x2] h u fun x5 h u =>
  gR h v0 11 31 fun x6 =>
  gR h v0 11 36 fun x7 =>
  aI .int h x7 v1 fun x8 =>
  aL h x6 ((6 * x8) + x2) fun x9 =>
  if 8 ≤ x5 then
    if x5 = 8 then
      rc h v0 11 ∧ iV d u_X12_addsThing [jR v0, jI (x9.toInt32)] h u fun h u =>
      Q h
    else
      if 0 ≤ (lg_cmp x9 0) then
        gR h v0 11 4 fun x10 =>
        aI .int h x10 (x9.toInt32) fun x11 =>
        if x11 = 8 then
          gR h v0 11 39 fun x12 =>
          aI .int h x12 v1 fun x13 =>
          if 0 ≤ x13 then
            gR h v0 11 39 fun x14 =>
            aI .int h x14 v1 fun x15 =>
            gR h v0 11 5 fun x16 =>
            aI .int h x16 (x9.toInt32) fun x17 =>
            if x17 ≤ x15 then
              gR h v0 11 39 fun x18 =>
              sV .int h x18 v1 (jI (-1)) fun h =>
              gR h v0 11 41 fun x19 =>
              aI .int h x19 v1 fun x20 =>
              rc h v0 11 ∧ iV d u_X12_adds [jR v0, jI x20] h u fun h u =>
              Q h
            else
              gR h v0 11 7 fun x22 =>
              gR h v0 11 39 fun x23 =>
              aI .int h x23 v1 fun x24 =>
              aL h x22 ((20 * (x9.toInt32)) + x24) fun x25 =>
              rc h v0 11 ∧ iV d u_X12_addsThing [jR v0, jI (x25.toInt32)] h u fun h u =>
              Q h
          else
            gR h v0 11 39 fun x27 =>
            sV .int h x27 v1 (jI 0) fun h =>
            gR h v0 11 41 fun x28 =>
            sV .int h x28 v1 (jI 1) fun h =>
            Q h
        else
          rc h v0 11 ∧ iI d u_X12_rowHash [jR v0, jI (x9.toInt32)] h u fun x29 h u =>
          rc h v0 11 ∧ iV d u_X12_adds [jR v0, jI x29] h u fun h u =>
          Q h
      else
        rc h v0 11 ∧ iV d u_X12_adds [jR v0, jI 0] h u fun h u =>
        Q h
  else
    iI d u_X12_numberHash [jI x5, jL x9] h u fun x33 h u =>
    rc h v0 11 ∧ iV d u_X12_adds [jR v0, jI x33] h u fun h u =>
    Q h
set_option maxRecDepth 20000 in
theorem E_X12_hashPart {d : Nat} {v0 : Option Nm} {v1 : Int32} {h : MH} {u : Nat} {Q : MH → Prop} (H : F_X12_hashPart d v0 v1 h u Q) : T u_X12_hashPart (d + 1) 0 [some (jR v0), some (jI v1), none, none, none, none] [] h u (qV Q) := by
  unfold F_X12_hashPart at H
  refine T_aload_n (pc := 0) dX12_hashPart_0 rfl rfl ?_
  refine T_gR (pc := 1) fa_X12_96 dX12_hashPart_1 (gR_mono (fun x1 H => ?_) H)
  refine T_iload_n (pc := 4) dX12_hashPart_4 rfl rfl ?_
  refine T_aI (pc := 5) dX12_hashPart_5 (aI_mono (fun x2 H => ?_) H)
  refine T_istore_n (pc := 6) (ls2 := [some (jR v0), some (jI v1), some (jI x2), none, none, none]) dX12_hashPart_6 rfl (Nat.le_of_ble_eq_true rfl) rfl ?_
  refine T_aload_n (pc := 7) dX12_hashPart_7 rfl rfl ?_
  refine T_aload_n (pc := 8) dX12_hashPart_8 rfl rfl ?_
  refine T_gR (pc := 9) fa_X12_90 dX12_hashPart_9 (gR_mono (fun x3 H => ?_) H)
  refine T_iload_n (pc := 12) dX12_hashPart_12 rfl rfl ?_
  refine T_aI (pc := 13) dX12_hashPart_13 (aI_mono (fun x4 H => ?_) H)
  refine T_iload_n (pc := 14) dX12_hashPart_14 rfl rfl ?_
  obtain ⟨H0, H⟩ := H
  refine T_iV (pc := 15) (ci := 11) (av := [jI x4, jI x2]) (rest := []) (o := v0) dX12_hashPart_15 mf_X12_laneOf c_6_50 c_6_52 pr_X12_laneOf rfl rfl (Nat.le_of_ble_eq_true rfl) rfl H0 (iI_k (iI_mono (fun x5 h u H => ?_) H))
  refine T_istore_n (pc := 18) (ls2 := [some (jR v0), some (jI v1), some (jI x2), some (jI x5), none, none]) dX12_hashPart_18 rfl (Nat.le_of_ble_eq_true rfl) rfl ?_
  refine T_aload_n (pc := 19) dX12_hashPart_19 rfl rfl ?_
  refine T_gR (pc := 20) fa_X12_84 dX12_hashPart_20 (gR_mono (fun x6 H => ?_) H)
  refine T_bipush (pc := 23) (v := 6) dX12_hashPart_23 (by decide) ?_
  refine T_aload_n (pc := 25) dX12_hashPart_25 rfl rfl ?_
  refine T_gR (pc := 26) fa_X12_90 dX12_hashPart_26 (gR_mono (fun x7 H => ?_) H)
  refine T_iload_n (pc := 29) dX12_hashPart_29 rfl rfl ?_
  refine T_aI (pc := 30) dX12_hashPart_30 (aI_mono (fun x8 H => ?_) H)
  refine T_imul (pc := 31) dX12_hashPart_31 ?_
  refine T_iload_n (pc := 32) dX12_hashPart_32 rfl rfl ?_
  refine T_iadd (pc := 33) dX12_hashPart_33 ?_
  refine T_aL (pc := 34) dX12_hashPart_34 (aL_mono (fun x9 H => ?_) H)
  refine T_lstore (pc := 35) (ls2 := [some (jR v0), some (jI v1), some (jI x2), some (jI x5), some (jL x9), none]) dX12_hashPart_35 (Nat.le_of_ble_eq_true rfl) rfl ?_
  refine T_iload_n (pc := 37) dX12_hashPart_37 rfl rfl ?_
  refine T_bipush (pc := 38) (v := 8) dX12_hashPart_38 (by decide) ?_
  refine T_icmp_ge (pc := 40) (tgt := 56) dX12_hashPart_40 (by decide) (fun hc => ?_) (fun hc => ?_)
  · rw [if_pos hc] at H
    refine T_iload_n (pc := 56) dX12_hashPart_56 rfl rfl ?_
    refine T_bipush (pc := 57) (v := 8) dX12_hashPart_57 (by decide) ?_
    refine T_icmp_ne (pc := 59) (tgt := 72) dX12_hashPart_59 (by decide) (fun hc => ?_) (fun hc => ?_)
    · rw [if_neg hc] at H
      refine T_lload (pc := 72) dX12_hashPart_72 rfl ?_
      refine T_lconst (pc := 74) (v := 0) dX12_hashPart_74 (by decide) ?_
      refine T_lcmp (pc := 75) dX12_hashPart_75 ?_
      refine T_if_ge (pc := 76) (tgt := 87) dX12_hashPart_76 (by decide) (fun hc => ?_) (fun hc => ?_)
      · rw [if_pos hc] at H
        refine T_aload_n (pc := 87) dX12_hashPart_87 rfl rfl ?_
        refine T_gR (pc := 88) fa_X12_7 dX12_hashPart_88 (gR_mono (fun x10 H => ?_) H)
        refine T_lload (pc := 91) dX12_hashPart_91 rfl ?_
        refine T_l2i (pc := 93) dX12_hashPart_93 ?_
        refine T_aI (pc := 94) dX12_hashPart_94 (aI_mono (fun x11 H => ?_) H)
        refine T_bipush (pc := 95) (v := 8) dX12_hashPart_95 (by decide) ?_
        refine T_icmp_eq (pc := 97) (tgt := 114) dX12_hashPart_97 (by decide) (fun hc => ?_) (fun hc => ?_)
        · rw [if_pos hc] at H
          refine T_aload_n (pc := 114) dX12_hashPart_114 rfl rfl ?_
          refine T_gR (pc := 115) fa_X12_99 dX12_hashPart_115 (gR_mono (fun x12 H => ?_) H)
          refine T_iload_n (pc := 118) dX12_hashPart_118 rfl rfl ?_
          refine T_aI (pc := 119) dX12_hashPart_119 (aI_mono (fun x13 H => ?_) H)
          refine T_if_ge (pc := 120) (tgt := 140) dX12_hashPart_120 (by decide) (fun hc => ?_) (fun hc => ?_)
          · rw [if_pos hc] at H
            refine T_aload_n (pc := 140) dX12_hashPart_140 rfl rfl ?_
            refine T_gR (pc := 141) fa_X12_99 dX12_hashPart_141 (gR_mono (fun x14 H => ?_) H)
            refine T_iload_n (pc := 144) dX12_hashPart_144 rfl rfl ?_
            refine T_aI (pc := 145) dX12_hashPart_145 (aI_mono (fun x15 H => ?_) H)
            refine T_aload_n (pc := 146) dX12_hashPart_146 rfl rfl ?_
            refine T_gR (pc := 147) fa_X12_13 dX12_hashPart_147 (gR_mono (fun x16 H => ?_) H)
            refine T_lload (pc := 150) dX12_hashPart_150 rfl ?_
            refine T_l2i (pc := 152) dX12_hashPart_152 ?_
            refine T_aI (pc := 153) dX12_hashPart_153 (aI_mono (fun x17 H => ?_) H)
            refine T_icmp_ge (pc := 154) (tgt := 183) dX12_hashPart_154 (by decide) (fun hc => ?_) (fun hc => ?_)
            · rw [if_pos hc] at H
              refine T_aload_n (pc := 183) dX12_hashPart_183 rfl rfl ?_
              refine T_gR (pc := 184) fa_X12_99 dX12_hashPart_184 (gR_mono (fun x18 H => ?_) H)
              refine T_iload_n (pc := 187) dX12_hashPart_187 rfl rfl ?_
              refine T_iconst (pc := 188) (v := (-1)) dX12_hashPart_188 (by decide) ?_
              refine T_sI (pc := 189) dX12_hashPart_189 (sV_mono (fun h H => ?_) H)
              refine T_aload_n (pc := 190) dX12_hashPart_190 rfl rfl ?_
              refine T_aload_n (pc := 191) dX12_hashPart_191 rfl rfl ?_
              refine T_gR (pc := 192) fa_X12_105 dX12_hashPart_192 (gR_mono (fun x19 H => ?_) H)
              refine T_iload_n (pc := 195) dX12_hashPart_195 rfl rfl ?_
              refine T_aI (pc := 196) dX12_hashPart_196 (aI_mono (fun x20 H => ?_) H)
              obtain ⟨H0, H⟩ := H
              refine T_iV (pc := 197) (ci := 11) (av := [jI x20]) (rest := []) (o := v0) dX12_hashPart_197 mf_X12_adds c_6_123 c_6_125 pr_X12_adds rfl rfl (Nat.le_of_ble_eq_true rfl) rfl H0 (iV_k (iV_mono (fun h u H => ?_) H))
              exact T_return (pc := 200) rfl dX12_hashPart_200 H
            · rw [if_neg hc] at H
              refine T_aload_n (pc := 157) dX12_hashPart_157 rfl rfl ?_
              refine T_aload_n (pc := 158) dX12_hashPart_158 rfl rfl ?_
              refine T_gR (pc := 159) fa_X12_20 dX12_hashPart_159 (gR_mono (fun x22 H => ?_) H)
              refine T_bipush (pc := 162) (v := 20) dX12_hashPart_162 (by decide) ?_
              refine T_lload (pc := 164) dX12_hashPart_164 rfl ?_
              refine T_l2i (pc := 166) dX12_hashPart_166 ?_
              refine T_imul (pc := 167) dX12_hashPart_167 ?_
              refine T_aload_n (pc := 168) dX12_hashPart_168 rfl rfl ?_
              refine T_gR (pc := 169) fa_X12_99 dX12_hashPart_169 (gR_mono (fun x23 H => ?_) H)
              refine T_iload_n (pc := 172) dX12_hashPart_172 rfl rfl ?_
              refine T_aI (pc := 173) dX12_hashPart_173 (aI_mono (fun x24 H => ?_) H)
              refine T_iadd (pc := 174) dX12_hashPart_174 ?_
              refine T_aL (pc := 175) dX12_hashPart_175 (aL_mono (fun x25 H => ?_) H)
              refine T_l2i (pc := 176) dX12_hashPart_176 ?_
              obtain ⟨H0, H⟩ := H
              refine T_iV (pc := 177) (ci := 11) (av := [jI (x25.toInt32)]) (rest := []) (o := v0) dX12_hashPart_177 mf_X12_addsThing c_6_127 c_6_129 pr_X12_addsThing rfl rfl (Nat.le_of_ble_eq_true rfl) rfl H0 (iV_k (iV_mono (fun h u H => ?_) H))
              refine T_goto (pc := 180) (tgt := 200) dX12_hashPart_180 (by decide) ?_
              exact T_return (pc := 200) rfl dX12_hashPart_200 H
          · rw [if_neg hc] at H
            refine T_aload_n (pc := 123) dX12_hashPart_123 rfl rfl ?_
            refine T_gR (pc := 124) fa_X12_99 dX12_hashPart_124 (gR_mono (fun x27 H => ?_) H)
            refine T_iload_n (pc := 127) dX12_hashPart_127 rfl rfl ?_
            refine T_iconst (pc := 128) (v := 0) dX12_hashPart_128 (by decide) ?_
            refine T_sI (pc := 129) dX12_hashPart_129 (sV_mono (fun h H => ?_) H)
            refine T_aload_n (pc := 130) dX12_hashPart_130 rfl rfl ?_
            refine T_gR (pc := 131) fa_X12_105 dX12_hashPart_131 (gR_mono (fun x28 H => ?_) H)
            refine T_iload_n (pc := 134) dX12_hashPart_134 rfl rfl ?_
            refine T_iconst (pc := 135) (v := 1) dX12_hashPart_135 (by decide) ?_
            refine T_sI (pc := 136) dX12_hashPart_136 (sV_mono (fun h H => ?_) H)
            refine T_goto (pc := 137) (tgt := 200) dX12_hashPart_137 (by decide) ?_
            exact T_return (pc := 200) rfl dX12_hashPart_200 H
        · rw [if_neg hc] at H
          refine T_aload_n (pc := 100) dX12_hashPart_100 rfl rfl ?_
          refine T_aload_n (pc := 101) dX12_hashPart_101 rfl rfl ?_
          refine T_lload (pc := 102) dX12_hashPart_102 rfl ?_
          refine T_l2i (pc := 104) dX12_hashPart_104 ?_
          obtain ⟨H0, H⟩ := H
          refine T_iV (pc := 105) (ci := 11) (av := [jI (x9.toInt32)]) (rest := [jR v0]) (o := v0) dX12_hashPart_105 mf_X12_rowHash c_6_131 c_6_133 pr_X12_rowHash rfl rfl (Nat.le_of_ble_eq_true rfl) rfl H0 (iI_k (iI_mono (fun x29 h u H => ?_) H))
          obtain ⟨H0, H⟩ := H
          refine T_iV (pc := 108) (ci := 11) (av := [jI x29]) (rest := []) (o := v0) dX12_hashPart_108 mf_X12_adds c_6_123 c_6_125 pr_X12_adds rfl rfl (Nat.le_of_ble_eq_true rfl) rfl H0 (iV_k (iV_mono (fun h u H => ?_) H))
          refine T_goto (pc := 111) (tgt := 200) dX12_hashPart_111 (by decide) ?_
          exact T_return (pc := 200) rfl dX12_hashPart_200 H
      · rw [if_neg hc] at H
        refine T_aload_n (pc := 79) dX12_hashPart_79 rfl rfl ?_
        refine T_iconst (pc := 80) (v := 0) dX12_hashPart_80 (by decide) ?_
        obtain ⟨H0, H⟩ := H
        refine T_iV (pc := 81) (ci := 11) (av := [jI 0]) (rest := []) (o := v0) dX12_hashPart_81 mf_X12_adds c_6_123 c_6_125 pr_X12_adds rfl rfl (Nat.le_of_ble_eq_true rfl) rfl H0 (iV_k (iV_mono (fun h u H => ?_) H))
        refine T_goto (pc := 84) (tgt := 200) dX12_hashPart_84 (by decide) ?_
        exact T_return (pc := 200) rfl dX12_hashPart_200 H
    · rw [if_pos hc] at H
      refine T_aload_n (pc := 62) dX12_hashPart_62 rfl rfl ?_
      refine T_lload (pc := 63) dX12_hashPart_63 rfl ?_
      refine T_l2i (pc := 65) dX12_hashPart_65 ?_
      obtain ⟨H0, H⟩ := H
      refine T_iV (pc := 66) (ci := 11) (av := [jI (x9.toInt32)]) (rest := []) (o := v0) dX12_hashPart_66 mf_X12_addsThing c_6_127 c_6_129 pr_X12_addsThing rfl rfl (Nat.le_of_ble_eq_true rfl) rfl H0 (iV_k (iV_mono (fun h u H => ?_) H))
      refine T_goto (pc := 69) (tgt := 200) dX12_hashPart_69 (by decide) ?_
      exact T_return (pc := 200) rfl dX12_hashPart_200 H
  · rw [if_neg hc] at H
    refine T_aload_n (pc := 43) dX12_hashPart_43 rfl rfl ?_
    refine T_iload_n (pc := 44) dX12_hashPart_44 rfl rfl ?_
    refine T_lload (pc := 45) dX12_hashPart_45 rfl ?_
    refine T_invS (pc := 47) (av := [jI x5, jL x9]) (rest := [jR v0]) dX12_hashPart_47 mf_X12_numberHash c_6_120 c_6_121 rfl (Nat.le_of_ble_eq_true rfl) rfl (iI_k (iI_mono (fun x33 h u H => ?_) H))
    obtain ⟨H0, H⟩ := H
    refine T_iV (pc := 50) (ci := 11) (av := [jI x33]) (rest := []) (o := v0) dX12_hashPart_50 mf_X12_adds c_6_123 c_6_125 pr_X12_adds rfl rfl (Nat.le_of_ble_eq_true rfl) rfl H0 (iV_k (iV_mono (fun h u H => ?_) H))
    refine T_goto (pc := 53) (tgt := 200) dX12_hashPart_53 (by decide) ?_
    exact T_return (pc := 200) rfl dX12_hashPart_200 H
theorem I_X12_hashPart {d : Nat} {v0 : Option Nm} {v1 : Int32} {h : MH} {u : Nat} {K : MH → Nat → Prop} (u1 : Nat) (hu : u1 ≤ u) (H : F_X12_hashPart d v0 v1 h u1 (fun h2 => K h2 (u - u1))) : iV (d + 1) u_X12_hashPart [jR v0, jI v1] h u K := inv.of u1 hu (Ct.of (by decide +kernel) rfl (Nat.le_of_ble_eq_true rfl) rfl (E_X12_hashPart H))
theorem dX12_hash_0 : decode cX12_hash 0 = .ok (.aload_n 0, 1) := by decide +kernel
theorem dX12_hash_1 : decode cX12_hash 1 = .ok (.iload_n 1, 1) := by decide +kernel
theorem dX12_hash_2 : decode cX12_hash 2 = .ok (.invokevirtual 190, 3) := by decide +kernel
theorem dX12_hash_5 : decode cX12_hash 5 = .ok (.ifCond .ne 7, 3) := by decide +kernel
theorem dX12_hash_8 : decode cX12_hash 8 = .ok (.invokestatic 124, 3) := by decide +kernel
theorem dX12_hash_11 : decode cX12_hash 11 = .ok (.lreturn, 1) := by decide +kernel
theorem dX12_hash_12 : decode cX12_hash 12 = .ok (.aload_n 0, 1) := by decide +kernel
theorem dX12_hash_13 : decode cX12_hash 13 = .ok (.iload_n 1, 1) := by decide +kernel
theorem dX12_hash_14 : decode cX12_hash 14 = .ok (.invokevirtual 261, 3) := by decide +kernel
theorem dX12_hash_17 : decode cX12_hash 17 = .ok (.ifCond .eq 10, 3) := by decide +kernel
theorem dX12_hash_20 : decode cX12_hash 20 = .ok (.aload_n 0, 1) := by decide +kernel
theorem dX12_hash_21 : decode cX12_hash 21 = .ok (.iload_n 1, 1) := by decide +kernel
theorem dX12_hash_22 : decode cX12_hash 22 = .ok (.invokevirtual 305, 3) := by decide +kernel
theorem dX12_hash_25 : decode cX12_hash 25 = .ok (.i2l, 1) := by decide +kernel
theorem dX12_hash_26 : decode cX12_hash 26 = .ok (.lreturn, 1) := by decide +kernel
theorem dX12_hash_27 : decode cX12_hash 27 = .ok (.aload_n 0, 1) := by decide +kernel
theorem dX12_hash_28 : decode cX12_hash 28 = .ok (.iconst 0, 1) := by decide +kernel
theorem dX12_hash_29 : decode cX12_hash 29 = .ok (.putfield 271, 3) := by decide +kernel
theorem dX12_hash_32 : decode cX12_hash 32 = .ok (.aload_n 0, 1) := by decide +kernel
theorem dX12_hash_33 : decode cX12_hash 33 = .ok (.iload_n 1, 1) := by decide +kernel
theorem dX12_hash_34 : decode cX12_hash 34 = .ok (.iload_n 1, 1) := by decide +kernel
theorem dX12_hash_35 : decode cX12_hash 35 = .ok (.invokevirtual 277, 3) := by decide +kernel
theorem dX12_hash_38 : decode cX12_hash 38 = .ok (.iconst 0, 1) := by decide +kernel
theorem dX12_hash_39 : decode cX12_hash 39 = .ok (.istore_n 2, 1) := by decide +kernel
theorem dX12_hash_40 : decode cX12_hash 40 = .ok (.aload_n 0, 1) := by decide +kernel
theorem dX12_hash_41 : decode cX12_hash 41 = .ok (.getfield 271, 3) := by decide +kernel
theorem dX12_hash_44 : decode cX12_hash 44 = .ok (.ifCond .le 69, 3) := by decide +kernel
theorem dX12_hash_47 : decode cX12_hash 47 = .ok (.aload_n 0, 1) := by decide +kernel
theorem dX12_hash_48 : decode cX12_hash 48 = .ok (.getfield 271, 3) := by decide +kernel
theorem dX12_hash_51 : decode cX12_hash 51 = .ok (.iconst 1, 1) := by decide +kernel
theorem dX12_hash_52 : decode cX12_hash 52 = .ok (.isub, 1) := by decide +kernel
theorem dX12_hash_53 : decode cX12_hash 53 = .ok (.istore_n 3, 1) := by decide +kernel
theorem dX12_hash_54 : decode cX12_hash 54 = .ok (.aload_n 0, 1) := by decide +kernel
theorem dX12_hash_55 : decode cX12_hash 55 = .ok (.getfield 96, 3) := by decide +kernel
theorem dX12_hash_58 : decode cX12_hash 58 = .ok (.iload_n 3, 1) := by decide +kernel
theorem dX12_hash_59 : decode cX12_hash 59 = .ok (.iaload, 1) := by decide +kernel
theorem dX12_hash_60 : decode cX12_hash 60 = .ok (.aload_n 0, 1) := by decide +kernel
theorem dX12_hash_61 : decode cX12_hash 61 = .ok (.aload_n 0, 1) := by decide +kernel
theorem dX12_hash_62 : decode cX12_hash 62 = .ok (.getfield 90, 3) := by decide +kernel
theorem dX12_hash_65 : decode cX12_hash 65 = .ok (.iload_n 3, 1) := by decide +kernel
theorem dX12_hash_66 : decode cX12_hash 66 = .ok (.iaload, 1) := by decide +kernel
theorem dX12_hash_67 : decode cX12_hash 67 = .ok (.invokevirtual 264, 3) := by decide +kernel
theorem dX12_hash_70 : decode cX12_hash 70 = .ok (.if_icmp .ge 11, 3) := by decide +kernel
theorem dX12_hash_73 : decode cX12_hash 73 = .ok (.aload_n 0, 1) := by decide +kernel
theorem dX12_hash_74 : decode cX12_hash 74 = .ok (.iload_n 3, 1) := by decide +kernel
theorem dX12_hash_75 : decode cX12_hash 75 = .ok (.invokevirtual 314, 3) := by decide +kernel
theorem dX12_hash_78 : decode cX12_hash 78 = .ok (.goto 32, 3) := by decide +kernel
theorem dX12_hash_81 : decode cX12_hash 81 = .ok (.aload_n 0, 1) := by decide +kernel
theorem dX12_hash_82 : decode cX12_hash 82 = .ok (.getfield 102, 3) := by decide +kernel
theorem dX12_hash_85 : decode cX12_hash 85 = .ok (.iload_n 3, 1) := by decide +kernel
theorem dX12_hash_86 : decode cX12_hash 86 = .ok (.iaload, 1) := by decide +kernel
theorem dX12_hash_87 : decode cX12_hash 87 = .ok (.istore_n 2, 1) := by decide +kernel
theorem dX12_hash_88 : decode cX12_hash 88 = .ok (.aload_n 0, 1) := by decide +kernel
theorem dX12_hash_89 : decode cX12_hash 89 = .ok (.dup, 1) := by decide +kernel
theorem dX12_hash_90 : decode cX12_hash 90 = .ok (.getfield 271, 3) := by decide +kernel
theorem dX12_hash_93 : decode cX12_hash 93 = .ok (.iconst 1, 1) := by decide +kernel
theorem dX12_hash_94 : decode cX12_hash 94 = .ok (.isub, 1) := by decide +kernel
theorem dX12_hash_95 : decode cX12_hash 95 = .ok (.putfield 271, 3) := by decide +kernel
theorem dX12_hash_98 : decode cX12_hash 98 = .ok (.aload_n 0, 1) := by decide +kernel
theorem dX12_hash_99 : decode cX12_hash 99 = .ok (.getfield 271, 3) := by decide +kernel
theorem dX12_hash_102 : decode cX12_hash 102 = .ok (.ifCond .le 8, 3) := by decide +kernel
theorem dX12_hash_105 : decode cX12_hash 105 = .ok (.aload_n 0, 1) := by decide +kernel
theorem dX12_hash_106 : decode cX12_hash 106 = .ok (.iload_n 2, 1) := by decide +kernel
theorem dX12_hash_107 : decode cX12_hash 107 = .ok (.invokevirtual 302, 3) := by decide +kernel
theorem dX12_hash_110 : decode cX12_hash 110 = .ok (.goto (-70), 3) := by decide +kernel
theorem dX12_hash_113 : decode cX12_hash 113 = .ok (.iload_n 2, 1) := by decide +kernel
theorem dX12_hash_114 : decode cX12_hash 114 = .ok (.i2l, 1) := by decide +kernel
theorem dX12_hash_115 : decode cX12_hash 115 = .ok (.lreturn, 1) := by decide +kernel
def L_X12_hash_40 (d : Nat) (v0 : Option Nm) (v2 : Int32) (h : MH) (u : Nat) (Q : Int64 → MH → Prop) : Prop := T u_X12_hash (d + 1) 40 [some (jR v0), none, some (jI v2), none] [] h u (qL Q)
def F_X12_hash (d : Nat) (v0 : Option Nm) (v1 : Int32) (h : MH) (u : Nat) (Q : Int64 → MH → Prop) : Prop :=
  rc h v0 11 ∧ iI d u_X12_isValue [jR v0, jI v1] h u fun x1 h u =>
  if x1 = 0 then
    iL d u_X12_lost [] h u fun x5 h u =>
    Q x5 h
  else
    rc h v0 11 ∧ iI d u_X12_isConstant [jR v0, jI v1] h u fun x2 h u =>
    if x2 = 0 then
      pV h v0 11 35 (jI 0) fun h =>
      rc h v0 11 ∧ iV d u_X12_push [jR v0, jI v1, jI v1] h u fun h u =>
      L_X12_hash_40 d v0 0 h u Q
    else
      rc h v0 11 ∧ iI d u_X12_constantHash [jR v0, jI v1] h u fun x4 h u =>
      Q (x4.toInt64) h
set_option maxRecDepth 20000 in
theorem E_X12_hash {d : Nat} {v0 : Option Nm} {v1 : Int32} {h : MH} {u : Nat} {Q : Int64 → MH → Prop} (H : F_X12_hash d v0 v1 h u Q) : T u_X12_hash (d + 1) 0 [some (jR v0), some (jI v1), none, none] [] h u (qL Q) := by
  unfold F_X12_hash at H
  refine T_aload_n (pc := 0) dX12_hash_0 rfl rfl ?_
  refine T_iload_n (pc := 1) dX12_hash_1 rfl rfl ?_
  obtain ⟨H0, H⟩ := H
  refine T_iV (pc := 2) (ci := 11) (av := [jI v1]) (rest := []) (o := v0) dX12_hash_2 mf_X12_isValue c_5_155 c_5_157 pr_X12_isValue rfl rfl (Nat.le_of_ble_eq_true rfl) rfl H0 (iI_k (iI_mono (fun x1 h u H => ?_) H))
  refine T_if_ne (pc := 5) (tgt := 12) dX12_hash_5 (by decide) (fun hc => ?_) (fun hc => ?_)
  · rw [if_neg hc] at H
    refine T_aload_n (pc := 12) dX12_hash_12 rfl rfl ?_
    refine T_iload_n (pc := 13) dX12_hash_13 rfl rfl ?_
    obtain ⟨H0, H⟩ := H
    refine T_iV (pc := 14) (ci := 11) (av := [jI v1]) (rest := []) (o := v0) dX12_hash_14 mf_X12_isConstant c_6_34 c_6_36 pr_X12_isConstant rfl rfl (Nat.le_of_ble_eq_true rfl) rfl H0 (iI_k (iI_mono (fun x2 h u H => ?_) H))
    refine T_if_eq (pc := 17) (tgt := 27) dX12_hash_17 (by decide) (fun hc => ?_) (fun hc => ?_)
    · rw [if_pos hc] at H
      refine T_aload_n (pc := 27) dX12_hash_27 rfl rfl ?_
      refine T_iconst (pc := 28) (v := 0) dX12_hash_28 (by decide) ?_
      refine T_pV (pc := 29) fa_X12_271 dX12_hash_29 trivial (pV_mono (fun h H => ?_) H)
      refine T_aload_n (pc := 32) dX12_hash_32 rfl rfl ?_
      refine T_iload_n (pc := 33) dX12_hash_33 rfl rfl ?_
      refine T_iload_n (pc := 34) dX12_hash_34 rfl rfl ?_
      obtain ⟨H0, H⟩ := H
      refine T_iV (pc := 35) (ci := 11) (av := [jI v1, jI v1]) (rest := []) (o := v0) dX12_hash_35 mf_X12_push c_6_86 c_6_88 pr_X12_push rfl rfl (Nat.le_of_ble_eq_true rfl) rfl H0 (iV_k (iV_mono (fun h u H => ?_) H))
      refine T_iconst (pc := 38) (v := 0) dX12_hash_38 (by decide) ?_
      refine T_istore_n (pc := 39) (ls2 := [some (jR v0), some (jI v1), some (jI 0), none]) dX12_hash_39 rfl (Nat.le_of_ble_eq_true rfl) rfl ?_
      exact T.forget H ⟨rfl, rfl, trivial⟩
    · rw [if_neg hc] at H
      refine T_aload_n (pc := 20) dX12_hash_20 rfl rfl ?_
      refine T_iload_n (pc := 21) dX12_hash_21 rfl rfl ?_
      obtain ⟨H0, H⟩ := H
      refine T_iV (pc := 22) (ci := 11) (av := [jI v1]) (rest := []) (o := v0) dX12_hash_22 mf_X12_constantHash c_6_112 c_6_114 pr_X12_constantHash rfl rfl (Nat.le_of_ble_eq_true rfl) rfl H0 (iI_k (iI_mono (fun x4 h u H => ?_) H))
      refine T_i2l (pc := 25) dX12_hash_25 ?_
      exact T_lreturn (pc := 26) rfl dX12_hash_26 H
  · rw [if_pos hc] at H
    refine T_invS (pc := 8) (av := []) (rest := []) dX12_hash_8 mf_X12_lost c_5_143 c_5_144 rfl (Nat.le_of_ble_eq_true rfl) rfl (iL_k (iL_mono (fun x5 h u H => ?_) H))
    exact T_lreturn (pc := 11) rfl dX12_hash_11 H
def F_X12_hash_40 (d : Nat) (v0 : Option Nm) (v2 : Int32) (h : MH) (u : Nat) (Q : Int64 → MH → Prop) : Prop :=
  gI h v0 11 35 fun x1 =>
  if x1 ≤ 0 then
    Q (v2.toInt64) h
  else
    gI h v0 11 35 fun x2 =>
    gR h v0 11 38 fun x3 =>
    aI .int h x3 (x2 - 1) fun x4 =>
    gR h v0 11 36 fun x5 =>
    aI .int h x5 (x2 - 1) fun x6 =>
    rc h v0 11 ∧ iI d u_X12_partsOf [jR v0, jI x6] h u fun x7 h u =>
    if x7 ≤ x4 then
      gR h v0 11 40 fun x8 =>
      aI .int h x8 (x2 - 1) fun x9 =>
      gI h v0 11 35 fun x10 =>
      pV h v0 11 35 (jI (x10 - 1)) fun h =>
      gI h v0 11 35 fun x11 =>
      if x11 ≤ 0 then
        L_X12_hash_40 d v0 x9 h u Q
      else
        rc h v0 11 ∧ iV d u_X12_adds [jR v0, jI x9] h u fun h u =>
        L_X12_hash_40 d v0 x9 h u Q
    else
      rc h v0 11 ∧ iV d u_X12_hashPart [jR v0, jI (x2 - 1)] h u fun h u =>
      L_X12_hash_40 d v0 v2 h u Q
set_option maxRecDepth 20000 in
theorem E_X12_hash_40 {d : Nat} {v0 : Option Nm} {v2 : Int32} {h : MH} {u : Nat} {Q : Int64 → MH → Prop} (H : F_X12_hash_40 d v0 v2 h u Q) : T u_X12_hash (d + 1) 40 [some (jR v0), none, some (jI v2), none] [] h u (qL Q) := by
  unfold F_X12_hash_40 at H
  refine T_aload_n (pc := 40) dX12_hash_40 rfl rfl ?_
  refine T_gI (pc := 41) fa_X12_271 dX12_hash_41 (gI_mono (fun x1 H => ?_) H)
  refine T_if_le (pc := 44) (tgt := 113) dX12_hash_44 (by decide) (fun hc => ?_) (fun hc => ?_)
  · rw [if_pos hc] at H
    refine T_iload_n (pc := 113) dX12_hash_113 rfl rfl ?_
    refine T_i2l (pc := 114) dX12_hash_114 ?_
    exact T_lreturn (pc := 115) rfl dX12_hash_115 H
  · rw [if_neg hc] at H
    refine T_aload_n (pc := 47) dX12_hash_47 rfl rfl ?_
    refine T_gI (pc := 48) fa_X12_271 dX12_hash_48 (gI_mono (fun x2 H => ?_) H)
    refine T_iconst (pc := 51) (v := 1) dX12_hash_51 (by decide) ?_
    refine T_isub (pc := 52) dX12_hash_52 ?_
    refine T_istore_n (pc := 53) (ls2 := [some (jR v0), none, some (jI v2), some (jI (x2 - 1))]) dX12_hash_53 rfl (Nat.le_of_ble_eq_true rfl) rfl ?_
    refine T_aload_n (pc := 54) dX12_hash_54 rfl rfl ?_
    refine T_gR (pc := 55) fa_X12_96 dX12_hash_55 (gR_mono (fun x3 H => ?_) H)
    refine T_iload_n (pc := 58) dX12_hash_58 rfl rfl ?_
    refine T_aI (pc := 59) dX12_hash_59 (aI_mono (fun x4 H => ?_) H)
    refine T_aload_n (pc := 60) dX12_hash_60 rfl rfl ?_
    refine T_aload_n (pc := 61) dX12_hash_61 rfl rfl ?_
    refine T_gR (pc := 62) fa_X12_90 dX12_hash_62 (gR_mono (fun x5 H => ?_) H)
    refine T_iload_n (pc := 65) dX12_hash_65 rfl rfl ?_
    refine T_aI (pc := 66) dX12_hash_66 (aI_mono (fun x6 H => ?_) H)
    obtain ⟨H0, H⟩ := H
    refine T_iV (pc := 67) (ci := 11) (av := [jI x6]) (rest := [jI x4]) (o := v0) dX12_hash_67 mf_X12_partsOf c_6_38 c_6_40 pr_X12_partsOf rfl rfl (Nat.le_of_ble_eq_true rfl) rfl H0 (iI_k (iI_mono (fun x7 h u H => ?_) H))
    refine T_icmp_ge (pc := 70) (tgt := 81) dX12_hash_70 (by decide) (fun hc => ?_) (fun hc => ?_)
    · rw [if_pos hc] at H
      refine T_aload_n (pc := 81) dX12_hash_81 rfl rfl ?_
      refine T_gR (pc := 82) fa_X12_102 dX12_hash_82 (gR_mono (fun x8 H => ?_) H)
      refine T_iload_n (pc := 85) dX12_hash_85 rfl rfl ?_
      refine T_aI (pc := 86) dX12_hash_86 (aI_mono (fun x9 H => ?_) H)
      refine T_istore_n (pc := 87) (ls2 := [some (jR v0), none, some (jI x9), some (jI (x2 - 1))]) dX12_hash_87 rfl (Nat.le_of_ble_eq_true rfl) rfl ?_
      refine T_aload_n (pc := 88) dX12_hash_88 rfl rfl ?_
      refine T_dup (pc := 89) rfl dX12_hash_89 ?_
      refine T_gI (pc := 90) fa_X12_271 dX12_hash_90 (gI_mono (fun x10 H => ?_) H)
      refine T_iconst (pc := 93) (v := 1) dX12_hash_93 (by decide) ?_
      refine T_isub (pc := 94) dX12_hash_94 ?_
      refine T_pV (pc := 95) fa_X12_271 dX12_hash_95 trivial (pV_mono (fun h H => ?_) H)
      refine T_aload_n (pc := 98) dX12_hash_98 rfl rfl ?_
      refine T_gI (pc := 99) fa_X12_271 dX12_hash_99 (gI_mono (fun x11 H => ?_) H)
      refine T_if_le (pc := 102) (tgt := 110) dX12_hash_102 (by decide) (fun hc => ?_) (fun hc => ?_)
      · rw [if_pos hc] at H
        refine T_goto (pc := 110) (tgt := 40) dX12_hash_110 (by decide) ?_
        exact T.forget H ⟨rfl, rfl, trivial⟩
      · rw [if_neg hc] at H
        refine T_aload_n (pc := 105) dX12_hash_105 rfl rfl ?_
        refine T_iload_n (pc := 106) dX12_hash_106 rfl rfl ?_
        obtain ⟨H0, H⟩ := H
        refine T_iV (pc := 107) (ci := 11) (av := [jI x9]) (rest := []) (o := v0) dX12_hash_107 mf_X12_adds c_6_123 c_6_125 pr_X12_adds rfl rfl (Nat.le_of_ble_eq_true rfl) rfl H0 (iV_k (iV_mono (fun h u H => ?_) H))
        refine T_goto (pc := 110) (tgt := 40) dX12_hash_110 (by decide) ?_
        exact T.forget H ⟨rfl, rfl, trivial⟩
    · rw [if_neg hc] at H
      refine T_aload_n (pc := 73) dX12_hash_73 rfl rfl ?_
      refine T_iload_n (pc := 74) dX12_hash_74 rfl rfl ?_
      obtain ⟨H0, H⟩ := H
      refine T_iV (pc := 75) (ci := 11) (av := [jI (x2 - 1)]) (rest := []) (o := v0) dX12_hash_75 mf_X12_hashPart c_6_116 c_6_118 pr_X12_hashPart rfl rfl (Nat.le_of_ble_eq_true rfl) rfl H0 (iV_k (iV_mono (fun h u H => ?_) H))
      refine T_goto (pc := 78) (tgt := 110) dX12_hash_78 (by decide) ?_
      refine T_goto (pc := 110) (tgt := 40) dX12_hash_110 (by decide) ?_
      exact T.forget H ⟨rfl, rfl, trivial⟩
theorem I_X12_hash {d : Nat} {v0 : Option Nm} {v1 : Int32} {h : MH} {u : Nat} {K : Int64 → MH → Nat → Prop} (u1 : Nat) (hu : u1 ≤ u) (H : F_X12_hash d v0 v1 h u1 (fun x h2 => K x h2 (u - u1))) : iL (d + 1) u_X12_hash [jR v0, jI v1] h u K := inv.of u1 hu (Ct.of (by decide +kernel) rfl (Nat.le_of_ble_eq_true rfl) rfl (E_X12_hash H))
theorem dX12_constantWeight_0 : decode cX12_constantWeight 0 = .ok (.aload_n 0, 1) := by decide +kernel
theorem dX12_constantWeight_1 : decode cX12_constantWeight 1 = .ok (.getfield 30, 3) := by decide +kernel
theorem dX12_constantWeight_4 : decode cX12_constantWeight 4 = .ok (.aload_n 0, 1) := by decide +kernel
theorem dX12_constantWeight_5 : decode cX12_constantWeight 5 = .ok (.getfield 66, 3) := by decide +kernel
theorem dX12_constantWeight_8 : decode cX12_constantWeight 8 = .ok (.iload_n 1, 1) := by decide +kernel
theorem dX12_constantWeight_9 : decode cX12_constantWeight 9 = .ok (.iaload, 1) := by decide +kernel
theorem dX12_constantWeight_10 : decode cX12_constantWeight 10 = .ok (.iaload, 1) := by decide +kernel
theorem dX12_constantWeight_11 : decode cX12_constantWeight 11 = .ok (.istore_n 2, 1) := by decide +kernel
theorem dX12_constantWeight_12 : decode cX12_constantWeight 12 = .ok (.aload_n 0, 1) := by decide +kernel
theorem dX12_constantWeight_13 : decode cX12_constantWeight 13 = .ok (.getfield 72, 3) := by decide +kernel
theorem dX12_constantWeight_16 : decode cX12_constantWeight 16 = .ok (.iload_n 1, 1) := by decide +kernel
theorem dX12_constantWeight_17 : decode cX12_constantWeight 17 = .ok (.iaload, 1) := by decide +kernel
theorem dX12_constantWeight_18 : decode cX12_constantWeight 18 = .ok (.iconst 1, 1) := by decide +kernel
theorem dX12_constantWeight_19 : decode cX12_constantWeight 19 = .ok (.iadd, 1) := by decide +kernel
theorem dX12_constantWeight_20 : decode cX12_constantWeight 20 = .ok (.istore_n 3, 1) := by decide +kernel
theorem dX12_constantWeight_21 : decode cX12_constantWeight 21 = .ok (.iload_n 2, 1) := by decide +kernel
theorem dX12_constantWeight_22 : decode cX12_constantWeight 22 = .ok (.iconst 3, 1) := by decide +kernel
theorem dX12_constantWeight_23 : decode cX12_constantWeight 23 = .ok (.if_icmp .ne 8, 3) := by decide +kernel
theorem dX12_constantWeight_26 : decode cX12_constantWeight 26 = .ok (.aload_n 0, 1) := by decide +kernel
theorem dX12_constantWeight_27 : decode cX12_constantWeight 27 = .ok (.iconst 5, 1) := by decide +kernel
theorem dX12_constantWeight_28 : decode cX12_constantWeight 28 = .ok (.invokevirtual 218, 3) := by decide +kernel
theorem dX12_constantWeight_31 : decode cX12_constantWeight 31 = .ok (.iload_n 2, 1) := by decide +kernel
theorem dX12_constantWeight_32 : decode cX12_constantWeight 32 = .ok (.ifCond .le 8, 3) := by decide +kernel
theorem dX12_constantWeight_35 : decode cX12_constantWeight 35 = .ok (.aload_n 0, 1) := by decide +kernel
theorem dX12_constantWeight_36 : decode cX12_constantWeight 36 = .ok (.iconst 4, 1) := by decide +kernel
theorem dX12_constantWeight_37 : decode cX12_constantWeight 37 = .ok (.invokevirtual 218, 3) := by decide +kernel
theorem dX12_constantWeight_40 : decode cX12_constantWeight 40 = .ok (.aload_n 0, 1) := by decide +kernel
theorem dX12_constantWeight_41 : decode cX12_constantWeight 41 = .ok (.iconst 3, 1) := by decide +kernel
theorem dX12_constantWeight_42 : decode cX12_constantWeight 42 = .ok (.invokevirtual 218, 3) := by decide +kernel
theorem dX12_constantWeight_45 : decode cX12_constantWeight 45 = .ok (.iload_n 2, 1) := by decide +kernel
theorem dX12_constantWeight_46 : decode cX12_constantWeight 46 = .ok (.ifCond .ne 7, 3) := by decide +kernel
theorem dX12_constantWeight_49 : decode cX12_constantWeight 49 = .ok (.iload_n 3, 1) := by decide +kernel
theorem dX12_constantWeight_50 : decode cX12_constantWeight 50 = .ok (.goto 20, 3) := by decide +kernel
theorem dX12_constantWeight_53 : decode cX12_constantWeight 53 = .ok (.iload_n 2, 1) := by decide +kernel
theorem dX12_constantWeight_54 : decode cX12_constantWeight 54 = .ok (.iconst 3, 1) := by decide +kernel
theorem dX12_constantWeight_55 : decode cX12_constantWeight 55 = .ok (.if_icmp .ne 12, 3) := by decide +kernel
theorem dX12_constantWeight_58 : decode cX12_constantWeight 58 = .ok (.iconst 2, 1) := by decide +kernel
theorem dX12_constantWeight_59 : decode cX12_constantWeight 59 = .ok (.iload_n 3, 1) := by decide +kernel
theorem dX12_constantWeight_60 : decode cX12_constantWeight 60 = .ok (.imul, 1) := by decide +kernel
theorem dX12_constantWeight_61 : decode cX12_constantWeight 61 = .ok (.bipush 8, 2) := by decide +kernel
theorem dX12_constantWeight_63 : decode cX12_constantWeight 63 = .ok (.iadd, 1) := by decide +kernel
theorem dX12_constantWeight_64 : decode cX12_constantWeight 64 = .ok (.goto 6, 3) := by decide +kernel
theorem dX12_constantWeight_67 : decode cX12_constantWeight 67 = .ok (.iconst 2, 1) := by decide +kernel
theorem dX12_constantWeight_68 : decode cX12_constantWeight 68 = .ok (.iload_n 3, 1) := by decide +kernel
theorem dX12_constantWeight_69 : decode cX12_constantWeight 69 = .ok (.imul, 1) := by decide +kernel
theorem dX12_constantWeight_70 : decode cX12_constantWeight 70 = .ok (.ireturn, 1) := by decide +kernel
def F_X12_constantWeight_40 (d : Nat) (v0 : Option Nm) (v2 : Int32) (v3 : Int32) (h : MH) (u : Nat) (Q : Int32 → MH → Prop) : Prop :=
  rc h v0 11 ∧ iV d u_X12_traced [jR v0, jI 3] h u fun h u =>
  if v2 = 0 then
    Q v3 h
  else
    if v2 = 3 then
      Q ((2 * v3) + 8) h
    else
      Q (2 * v3) h
set_option maxRecDepth 20000 in
theorem E_X12_constantWeight_40 {d : Nat} {v0 : Option Nm} {v2 : Int32} {v3 : Int32} {h : MH} {u : Nat} {Q : Int32 → MH → Prop} (H : F_X12_constantWeight_40 d v0 v2 v3 h u Q) : T u_X12_constantWeight (d + 1) 40 [some (jR v0), none, some (jI v2), some (jI v3)] [] h u (qI Q) := by
  unfold F_X12_constantWeight_40 at H
  refine T_aload_n (pc := 40) dX12_constantWeight_40 rfl rfl ?_
  refine T_iconst (pc := 41) (v := 3) dX12_constantWeight_41 (by decide) ?_
  obtain ⟨H0, H⟩ := H
  refine T_iV (pc := 42) (ci := 11) (av := [jI 3]) (rest := []) (o := v0) dX12_constantWeight_42 mf_X12_traced c_6_6 c_6_8 pr_X12_traced rfl rfl (Nat.le_of_ble_eq_true rfl) rfl H0 (iV_k (iV_mono (fun h u H => ?_) H))
  refine T_iload_n (pc := 45) dX12_constantWeight_45 rfl rfl ?_
  refine T_if_ne (pc := 46) (tgt := 53) dX12_constantWeight_46 (by decide) (fun hc => ?_) (fun hc => ?_)
  · rw [if_neg hc] at H
    refine T_iload_n (pc := 53) dX12_constantWeight_53 rfl rfl ?_
    refine T_iconst (pc := 54) (v := 3) dX12_constantWeight_54 (by decide) ?_
    refine T_icmp_ne (pc := 55) (tgt := 67) dX12_constantWeight_55 (by decide) (fun hc => ?_) (fun hc => ?_)
    · rw [if_neg hc] at H
      refine T_iconst (pc := 67) (v := 2) dX12_constantWeight_67 (by decide) ?_
      refine T_iload_n (pc := 68) dX12_constantWeight_68 rfl rfl ?_
      refine T_imul (pc := 69) dX12_constantWeight_69 ?_
      exact T_ireturn (pc := 70) rfl rfl dX12_constantWeight_70 H
    · rw [if_pos hc] at H
      refine T_iconst (pc := 58) (v := 2) dX12_constantWeight_58 (by decide) ?_
      refine T_iload_n (pc := 59) dX12_constantWeight_59 rfl rfl ?_
      refine T_imul (pc := 60) dX12_constantWeight_60 ?_
      refine T_bipush (pc := 61) (v := 8) dX12_constantWeight_61 (by decide) ?_
      refine T_iadd (pc := 63) dX12_constantWeight_63 ?_
      refine T_goto (pc := 64) (tgt := 70) dX12_constantWeight_64 (by decide) ?_
      exact T_ireturn (pc := 70) rfl rfl dX12_constantWeight_70 H
  · rw [if_pos hc] at H
    refine T_iload_n (pc := 49) dX12_constantWeight_49 rfl rfl ?_
    refine T_goto (pc := 50) (tgt := 70) dX12_constantWeight_50 (by decide) ?_
    exact T_ireturn (pc := 70) rfl rfl dX12_constantWeight_70 H
def F_X12_constantWeight_31 (d : Nat) (v0 : Option Nm) (v2 : Int32) (v3 : Int32) (h : MH) (u : Nat) (Q : Int32 → MH → Prop) : Prop :=
  if v2 ≤ 0 then
    F_X12_constantWeight_40 d v0 v2 v3 h u Q
  else
    rc h v0 11 ∧ iV d u_X12_traced [jR v0, jI 4] h u fun h u =>
    F_X12_constantWeight_40 d v0 v2 v3 h u Q
set_option maxRecDepth 20000 in
theorem E_X12_constantWeight_31 {d : Nat} {v0 : Option Nm} {v2 : Int32} {v3 : Int32} {h : MH} {u : Nat} {Q : Int32 → MH → Prop} (H : F_X12_constantWeight_31 d v0 v2 v3 h u Q) : T u_X12_constantWeight (d + 1) 31 [some (jR v0), none, some (jI v2), some (jI v3)] [] h u (qI Q) := by
  unfold F_X12_constantWeight_31 at H
  refine T_iload_n (pc := 31) dX12_constantWeight_31 rfl rfl ?_
  refine T_if_le (pc := 32) (tgt := 40) dX12_constantWeight_32 (by decide) (fun hc => ?_) (fun hc => ?_)
  · rw [if_pos hc] at H
    exact T.forget (E_X12_constantWeight_40 H) ⟨rfl, rfl, rfl, trivial⟩
  · rw [if_neg hc] at H
    refine T_aload_n (pc := 35) dX12_constantWeight_35 rfl rfl ?_
    refine T_iconst (pc := 36) (v := 4) dX12_constantWeight_36 (by decide) ?_
    obtain ⟨H0, H⟩ := H
    refine T_iV (pc := 37) (ci := 11) (av := [jI 4]) (rest := []) (o := v0) dX12_constantWeight_37 mf_X12_traced c_6_6 c_6_8 pr_X12_traced rfl rfl (Nat.le_of_ble_eq_true rfl) rfl H0 (iV_k (iV_mono (fun h u H => ?_) H))
    exact T.forget (E_X12_constantWeight_40 H) ⟨rfl, rfl, rfl, trivial⟩
def F_X12_constantWeight (d : Nat) (v0 : Option Nm) (v1 : Int32) (h : MH) (u : Nat) (Q : Int32 → MH → Prop) : Prop :=
  gR h v0 11 11 fun x1 =>
  gR h v0 11 25 fun x2 =>
  aI .int h x2 v1 fun x3 =>
  aI .int h x1 x3 fun x4 =>
  gR h v0 11 27 fun x5 =>
  aI .int h x5 v1 fun x6 =>
  if x4 = 3 then
    rc h v0 11 ∧ iV d u_X12_traced [jR v0, jI 5] h u fun h u =>
    F_X12_constantWeight_31 d v0 x4 (x6 + 1) h u Q
  else
    F_X12_constantWeight_31 d v0 x4 (x6 + 1) h u Q
set_option maxRecDepth 20000 in
theorem E_X12_constantWeight {d : Nat} {v0 : Option Nm} {v1 : Int32} {h : MH} {u : Nat} {Q : Int32 → MH → Prop} (H : F_X12_constantWeight d v0 v1 h u Q) : T u_X12_constantWeight (d + 1) 0 [some (jR v0), some (jI v1), none, none] [] h u (qI Q) := by
  unfold F_X12_constantWeight at H
  refine T_aload_n (pc := 0) dX12_constantWeight_0 rfl rfl ?_
  refine T_gR (pc := 1) fa_X12_30 dX12_constantWeight_1 (gR_mono (fun x1 H => ?_) H)
  refine T_aload_n (pc := 4) dX12_constantWeight_4 rfl rfl ?_
  refine T_gR (pc := 5) fa_X12_66 dX12_constantWeight_5 (gR_mono (fun x2 H => ?_) H)
  refine T_iload_n (pc := 8) dX12_constantWeight_8 rfl rfl ?_
  refine T_aI (pc := 9) dX12_constantWeight_9 (aI_mono (fun x3 H => ?_) H)
  refine T_aI (pc := 10) dX12_constantWeight_10 (aI_mono (fun x4 H => ?_) H)
  refine T_istore_n (pc := 11) (ls2 := [some (jR v0), some (jI v1), some (jI x4), none]) dX12_constantWeight_11 rfl (Nat.le_of_ble_eq_true rfl) rfl ?_
  refine T_aload_n (pc := 12) dX12_constantWeight_12 rfl rfl ?_
  refine T_gR (pc := 13) fa_X12_72 dX12_constantWeight_13 (gR_mono (fun x5 H => ?_) H)
  refine T_iload_n (pc := 16) dX12_constantWeight_16 rfl rfl ?_
  refine T_aI (pc := 17) dX12_constantWeight_17 (aI_mono (fun x6 H => ?_) H)
  refine T_iconst (pc := 18) (v := 1) dX12_constantWeight_18 (by decide) ?_
  refine T_iadd (pc := 19) dX12_constantWeight_19 ?_
  refine T_istore_n (pc := 20) (ls2 := [some (jR v0), some (jI v1), some (jI x4), some (jI (x6 + 1))]) dX12_constantWeight_20 rfl (Nat.le_of_ble_eq_true rfl) rfl ?_
  refine T_iload_n (pc := 21) dX12_constantWeight_21 rfl rfl ?_
  refine T_iconst (pc := 22) (v := 3) dX12_constantWeight_22 (by decide) ?_
  refine T_icmp_ne (pc := 23) (tgt := 31) dX12_constantWeight_23 (by decide) (fun hc => ?_) (fun hc => ?_)
  · rw [if_neg hc] at H
    exact T.forget (E_X12_constantWeight_31 H) ⟨rfl, rfl, rfl, trivial⟩
  · rw [if_pos hc] at H
    refine T_aload_n (pc := 26) dX12_constantWeight_26 rfl rfl ?_
    refine T_iconst (pc := 27) (v := 5) dX12_constantWeight_27 (by decide) ?_
    obtain ⟨H0, H⟩ := H
    refine T_iV (pc := 28) (ci := 11) (av := [jI 5]) (rest := []) (o := v0) dX12_constantWeight_28 mf_X12_traced c_6_6 c_6_8 pr_X12_traced rfl rfl (Nat.le_of_ble_eq_true rfl) rfl H0 (iV_k (iV_mono (fun h u H => ?_) H))
    exact T.forget (E_X12_constantWeight_31 H) ⟨rfl, rfl, rfl, trivial⟩
theorem I_X12_constantWeight {d : Nat} {v0 : Option Nm} {v1 : Int32} {h : MH} {u : Nat} {K : Int32 → MH → Nat → Prop} (u1 : Nat) (hu : u1 ≤ u) (H : F_X12_constantWeight d v0 v1 h u1 (fun x h2 => K x h2 (u - u1))) : iI (d + 1) u_X12_constantWeight [jR v0, jI v1] h u K := inv.of u1 hu (Ct.of (by decide +kernel) rfl (Nat.le_of_ble_eq_true rfl) rfl (E_X12_constantWeight H))
theorem dX12_recordWeight_0 : decode cX12_recordWeight 0 = .ok (.aload_n 0, 1) := by decide +kernel
theorem dX12_recordWeight_1 : decode cX12_recordWeight 1 = .ok (.iconst 1, 1) := by decide +kernel
theorem dX12_recordWeight_2 : decode cX12_recordWeight 2 = .ok (.invokevirtual 218, 3) := by decide +kernel
theorem dX12_recordWeight_5 : decode cX12_recordWeight 5 = .ok (.aload_n 0, 1) := by decide +kernel
theorem dX12_recordWeight_6 : decode cX12_recordWeight 6 = .ok (.iconst 2, 1) := by decide +kernel
theorem dX12_recordWeight_7 : decode cX12_recordWeight 7 = .ok (.invokevirtual 218, 3) := by decide +kernel
theorem dX12_recordWeight_10 : decode cX12_recordWeight 10 = .ok (.aload_n 0, 1) := by decide +kernel
theorem dX12_recordWeight_11 : decode cX12_recordWeight 11 = .ok (.iload_n 1, 1) := by decide +kernel
theorem dX12_recordWeight_12 : decode cX12_recordWeight 12 = .ok (.iload_n 1, 1) := by decide +kernel
theorem dX12_recordWeight_13 : decode cX12_recordWeight 13 = .ok (.invokevirtual 277, 3) := by decide +kernel
theorem dX12_recordWeight_16 : decode cX12_recordWeight 16 = .ok (.bipush 10, 2) := by decide +kernel
theorem dX12_recordWeight_18 : decode cX12_recordWeight 18 = .ok (.ireturn, 1) := by decide +kernel
def F_X12_recordWeight (d : Nat) (v0 : Option Nm) (v1 : Int32) (h : MH) (u : Nat) (Q : Int32 → MH → Prop) : Prop :=
  rc h v0 11 ∧ iV d u_X12_traced [jR v0, jI 1] h u fun h u =>
  rc h v0 11 ∧ iV d u_X12_traced [jR v0, jI 2] h u fun h u =>
  rc h v0 11 ∧ iV d u_X12_push [jR v0, jI v1, jI v1] h u fun h u =>
  Q 10 h
set_option maxRecDepth 20000 in
theorem E_X12_recordWeight {d : Nat} {v0 : Option Nm} {v1 : Int32} {h : MH} {u : Nat} {Q : Int32 → MH → Prop} (H : F_X12_recordWeight d v0 v1 h u Q) : T u_X12_recordWeight (d + 1) 0 [some (jR v0), some (jI v1)] [] h u (qI Q) := by
  unfold F_X12_recordWeight at H
  refine T_aload_n (pc := 0) dX12_recordWeight_0 rfl rfl ?_
  refine T_iconst (pc := 1) (v := 1) dX12_recordWeight_1 (by decide) ?_
  obtain ⟨H0, H⟩ := H
  refine T_iV (pc := 2) (ci := 11) (av := [jI 1]) (rest := []) (o := v0) dX12_recordWeight_2 mf_X12_traced c_6_6 c_6_8 pr_X12_traced rfl rfl (Nat.le_of_ble_eq_true rfl) rfl H0 (iV_k (iV_mono (fun h u H => ?_) H))
  refine T_aload_n (pc := 5) dX12_recordWeight_5 rfl rfl ?_
  refine T_iconst (pc := 6) (v := 2) dX12_recordWeight_6 (by decide) ?_
  obtain ⟨H0, H⟩ := H
  refine T_iV (pc := 7) (ci := 11) (av := [jI 2]) (rest := []) (o := v0) dX12_recordWeight_7 mf_X12_traced c_6_6 c_6_8 pr_X12_traced rfl rfl (Nat.le_of_ble_eq_true rfl) rfl H0 (iV_k (iV_mono (fun h u H => ?_) H))
  refine T_aload_n (pc := 10) dX12_recordWeight_10 rfl rfl ?_
  refine T_iload_n (pc := 11) dX12_recordWeight_11 rfl rfl ?_
  refine T_iload_n (pc := 12) dX12_recordWeight_12 rfl rfl ?_
  obtain ⟨H0, H⟩ := H
  refine T_iV (pc := 13) (ci := 11) (av := [jI v1, jI v1]) (rest := []) (o := v0) dX12_recordWeight_13 mf_X12_push c_6_86 c_6_88 pr_X12_push rfl rfl (Nat.le_of_ble_eq_true rfl) rfl H0 (iV_k (iV_mono (fun h u H => ?_) H))
  refine T_bipush (pc := 16) (v := 10) dX12_recordWeight_16 (by decide) ?_
  exact T_ireturn (pc := 18) rfl rfl dX12_recordWeight_18 H
theorem I_X12_recordWeight {d : Nat} {v0 : Option Nm} {v1 : Int32} {h : MH} {u : Nat} {K : Int32 → MH → Nat → Prop} (u1 : Nat) (hu : u1 ≤ u) (H : F_X12_recordWeight d v0 v1 h u1 (fun x h2 => K x h2 (u - u1))) : iI (d + 1) u_X12_recordWeight [jR v0, jI v1] h u K := inv.of u1 hu (Ct.of (by decide +kernel) rfl (Nat.le_of_ble_eq_true rfl) rfl (E_X12_recordWeight H))
theorem dX12_weight_0 : decode cX12_weight 0 = .ok (.aload_n 0, 1) := by decide +kernel
theorem dX12_weight_1 : decode cX12_weight 1 = .ok (.iload_n 1, 1) := by decide +kernel
theorem dX12_weight_2 : decode cX12_weight 2 = .ok (.invokevirtual 190, 3) := by decide +kernel
theorem dX12_weight_5 : decode cX12_weight 5 = .ok (.ifCond .ne 5, 3) := by decide +kernel
theorem dX12_weight_8 : decode cX12_weight 8 = .ok (.iconst (-1), 1) := by decide +kernel
theorem dX12_weight_9 : decode cX12_weight 9 = .ok (.ireturn, 1) := by decide +kernel
theorem dX12_weight_10 : decode cX12_weight 10 = .ok (.aload_n 0, 1) := by decide +kernel
theorem dX12_weight_11 : decode cX12_weight 11 = .ok (.iload_n 1, 1) := by decide +kernel
theorem dX12_weight_12 : decode cX12_weight 12 = .ok (.invokevirtual 261, 3) := by decide +kernel
theorem dX12_weight_15 : decode cX12_weight 15 = .ok (.ifCond .eq 9, 3) := by decide +kernel
theorem dX12_weight_18 : decode cX12_weight 18 = .ok (.aload_n 0, 1) := by decide +kernel
theorem dX12_weight_19 : decode cX12_weight 19 = .ok (.iload_n 1, 1) := by decide +kernel
theorem dX12_weight_20 : decode cX12_weight 20 = .ok (.invokevirtual 317, 3) := by decide +kernel
theorem dX12_weight_23 : decode cX12_weight 23 = .ok (.ireturn, 1) := by decide +kernel
theorem dX12_weight_24 : decode cX12_weight 24 = .ok (.aload_n 0, 1) := by decide +kernel
theorem dX12_weight_25 : decode cX12_weight 25 = .ok (.iconst 0, 1) := by decide +kernel
theorem dX12_weight_26 : decode cX12_weight 26 = .ok (.putfield 271, 3) := by decide +kernel
theorem dX12_weight_29 : decode cX12_weight 29 = .ok (.aload_n 0, 1) := by decide +kernel
theorem dX12_weight_30 : decode cX12_weight 30 = .ok (.iload_n 1, 1) := by decide +kernel
theorem dX12_weight_31 : decode cX12_weight 31 = .ok (.invokevirtual 320, 3) := by decide +kernel
theorem dX12_weight_34 : decode cX12_weight 34 = .ok (.istore_n 2, 1) := by decide +kernel
theorem dX12_weight_35 : decode cX12_weight 35 = .ok (.aload_n 0, 1) := by decide +kernel
theorem dX12_weight_36 : decode cX12_weight 36 = .ok (.getfield 271, 3) := by decide +kernel
theorem dX12_weight_39 : decode cX12_weight 39 = .ok (.ifCond .le 161, 3) := by decide +kernel
theorem dX12_weight_42 : decode cX12_weight 42 = .ok (.aload_n 0, 1) := by decide +kernel
theorem dX12_weight_43 : decode cX12_weight 43 = .ok (.getfield 271, 3) := by decide +kernel
theorem dX12_weight_46 : decode cX12_weight 46 = .ok (.iconst 1, 1) := by decide +kernel
theorem dX12_weight_47 : decode cX12_weight 47 = .ok (.isub, 1) := by decide +kernel
theorem dX12_weight_48 : decode cX12_weight 48 = .ok (.istore_n 3, 1) := by decide +kernel
theorem dX12_weight_49 : decode cX12_weight 49 = .ok (.aload_n 0, 1) := by decide +kernel
theorem dX12_weight_50 : decode cX12_weight 50 = .ok (.getfield 96, 3) := by decide +kernel
theorem dX12_weight_53 : decode cX12_weight 53 = .ok (.iload_n 3, 1) := by decide +kernel
theorem dX12_weight_54 : decode cX12_weight 54 = .ok (.iaload, 1) := by decide +kernel
theorem dX12_weight_55 : decode cX12_weight 55 = .ok (.istore 4, 2) := by decide +kernel
theorem dX12_weight_57 : decode cX12_weight 57 = .ok (.iload 4, 2) := by decide +kernel
theorem dX12_weight_59 : decode cX12_weight 59 = .ok (.aload_n 0, 1) := by decide +kernel
theorem dX12_weight_60 : decode cX12_weight 60 = .ok (.aload_n 0, 1) := by decide +kernel
theorem dX12_weight_61 : decode cX12_weight 61 = .ok (.getfield 90, 3) := by decide +kernel
theorem dX12_weight_64 : decode cX12_weight 64 = .ok (.iload_n 3, 1) := by decide +kernel
theorem dX12_weight_65 : decode cX12_weight 65 = .ok (.iaload, 1) := by decide +kernel
theorem dX12_weight_66 : decode cX12_weight 66 = .ok (.invokevirtual 264, 3) := by decide +kernel
theorem dX12_weight_69 : decode cX12_weight 69 = .ok (.if_icmp .ne 16, 3) := by decide +kernel
theorem dX12_weight_72 : decode cX12_weight 72 = .ok (.aload_n 0, 1) := by decide +kernel
theorem dX12_weight_73 : decode cX12_weight 73 = .ok (.dup, 1) := by decide +kernel
theorem dX12_weight_74 : decode cX12_weight 74 = .ok (.getfield 271, 3) := by decide +kernel
theorem dX12_weight_77 : decode cX12_weight 77 = .ok (.iconst 1, 1) := by decide +kernel
theorem dX12_weight_78 : decode cX12_weight 78 = .ok (.isub, 1) := by decide +kernel
theorem dX12_weight_79 : decode cX12_weight 79 = .ok (.putfield 271, 3) := by decide +kernel
theorem dX12_weight_82 : decode cX12_weight 82 = .ok (.goto (-47), 3) := by decide +kernel
theorem dX12_weight_85 : decode cX12_weight 85 = .ok (.aload_n 0, 1) := by decide +kernel
theorem dX12_weight_86 : decode cX12_weight 86 = .ok (.getfield 96, 3) := by decide +kernel
theorem dX12_weight_89 : decode cX12_weight 89 = .ok (.iload_n 3, 1) := by decide +kernel
theorem dX12_weight_90 : decode cX12_weight 90 = .ok (.dup2, 1) := by decide +kernel
theorem dX12_weight_91 : decode cX12_weight 91 = .ok (.iaload, 1) := by decide +kernel
theorem dX12_weight_92 : decode cX12_weight 92 = .ok (.iconst 1, 1) := by decide +kernel
theorem dX12_weight_93 : decode cX12_weight 93 = .ok (.iadd, 1) := by decide +kernel
theorem dX12_weight_94 : decode cX12_weight 94 = .ok (.iastore, 1) := by decide +kernel
theorem dX12_weight_95 : decode cX12_weight 95 = .ok (.aload_n 0, 1) := by decide +kernel
theorem dX12_weight_96 : decode cX12_weight 96 = .ok (.getfield 84, 3) := by decide +kernel
theorem dX12_weight_99 : decode cX12_weight 99 = .ok (.bipush 6, 2) := by decide +kernel
theorem dX12_weight_101 : decode cX12_weight 101 = .ok (.aload_n 0, 1) := by decide +kernel
theorem dX12_weight_102 : decode cX12_weight 102 = .ok (.getfield 90, 3) := by decide +kernel
theorem dX12_weight_105 : decode cX12_weight 105 = .ok (.iload_n 3, 1) := by decide +kernel
theorem dX12_weight_106 : decode cX12_weight 106 = .ok (.iaload, 1) := by decide +kernel
theorem dX12_weight_107 : decode cX12_weight 107 = .ok (.imul, 1) := by decide +kernel
theorem dX12_weight_108 : decode cX12_weight 108 = .ok (.iload 4, 2) := by decide +kernel
theorem dX12_weight_110 : decode cX12_weight 110 = .ok (.iadd, 1) := by decide +kernel
theorem dX12_weight_111 : decode cX12_weight 111 = .ok (.laload, 1) := by decide +kernel
theorem dX12_weight_112 : decode cX12_weight 112 = .ok (.l2i, 1) := by decide +kernel
theorem dX12_weight_113 : decode cX12_weight 113 = .ok (.istore 5, 2) := by decide +kernel
theorem dX12_weight_115 : decode cX12_weight 115 = .ok (.aload_n 0, 1) := by decide +kernel
theorem dX12_weight_116 : decode cX12_weight 116 = .ok (.aload_n 0, 1) := by decide +kernel
theorem dX12_weight_117 : decode cX12_weight 117 = .ok (.getfield 90, 3) := by decide +kernel
theorem dX12_weight_120 : decode cX12_weight 120 = .ok (.iload_n 3, 1) := by decide +kernel
theorem dX12_weight_121 : decode cX12_weight 121 = .ok (.iaload, 1) := by decide +kernel
theorem dX12_weight_122 : decode cX12_weight 122 = .ok (.iload 4, 2) := by decide +kernel
theorem dX12_weight_124 : decode cX12_weight 124 = .ok (.invokevirtual 256, 3) := by decide +kernel
theorem dX12_weight_127 : decode cX12_weight 127 = .ok (.istore 6, 2) := by decide +kernel
theorem dX12_weight_129 : decode cX12_weight 129 = .ok (.iload 6, 2) := by decide +kernel
theorem dX12_weight_131 : decode cX12_weight 131 = .ok (.bipush 9, 2) := by decide +kernel
theorem dX12_weight_133 : decode cX12_weight 133 = .ok (.if_icmp .ne 25, 3) := by decide +kernel
theorem dX12_weight_136 : decode cX12_weight 136 = .ok (.iload_n 2, 1) := by decide +kernel
theorem dX12_weight_137 : decode cX12_weight 137 = .ok (.iload 5, 2) := by decide +kernel
theorem dX12_weight_139 : decode cX12_weight 139 = .ok (.ifCond .ge 7, 3) := by decide +kernel
theorem dX12_weight_142 : decode cX12_weight 142 = .ok (.iconst 0, 1) := by decide +kernel
theorem dX12_weight_143 : decode cX12_weight 143 = .ok (.goto 10, 3) := by decide +kernel
theorem dX12_weight_146 : decode cX12_weight 146 = .ok (.aload_n 0, 1) := by decide +kernel
theorem dX12_weight_147 : decode cX12_weight 147 = .ok (.getfield 13, 3) := by decide +kernel
theorem dX12_weight_150 : decode cX12_weight 150 = .ok (.iload 5, 2) := by decide +kernel
theorem dX12_weight_152 : decode cX12_weight 152 = .ok (.iaload, 1) := by decide +kernel
theorem dX12_weight_153 : decode cX12_weight 153 = .ok (.iadd, 1) := by decide +kernel
theorem dX12_weight_154 : decode cX12_weight 154 = .ok (.istore_n 2, 1) := by decide +kernel
theorem dX12_weight_155 : decode cX12_weight 155 = .ok (.goto 42, 3) := by decide +kernel
theorem dX12_weight_158 : decode cX12_weight 158 = .ok (.iload 6, 2) := by decide +kernel
theorem dX12_weight_160 : decode cX12_weight 160 = .ok (.bipush 8, 2) := by decide +kernel
theorem dX12_weight_162 : decode cX12_weight 162 = .ok (.if_icmp .ne 35, 3) := by decide +kernel
theorem dX12_weight_165 : decode cX12_weight 165 = .ok (.iload 5, 2) := by decide +kernel
theorem dX12_weight_167 : decode cX12_weight 167 = .ok (.ifCond .lt 30, 3) := by decide +kernel
theorem dX12_weight_170 : decode cX12_weight 170 = .ok (.iload_n 2, 1) := by decide +kernel
theorem dX12_weight_171 : decode cX12_weight 171 = .ok (.aload_n 0, 1) := by decide +kernel
theorem dX12_weight_172 : decode cX12_weight 172 = .ok (.iload 5, 2) := by decide +kernel
theorem dX12_weight_174 : decode cX12_weight 174 = .ok (.invokevirtual 261, 3) := by decide +kernel
theorem dX12_weight_177 : decode cX12_weight 177 = .ok (.ifCond .eq 12, 3) := by decide +kernel
theorem dX12_weight_180 : decode cX12_weight 180 = .ok (.aload_n 0, 1) := by decide +kernel
theorem dX12_weight_181 : decode cX12_weight 181 = .ok (.iload 5, 2) := by decide +kernel
theorem dX12_weight_183 : decode cX12_weight 183 = .ok (.invokevirtual 317, 3) := by decide +kernel
theorem dX12_weight_186 : decode cX12_weight 186 = .ok (.goto 9, 3) := by decide +kernel
theorem dX12_weight_189 : decode cX12_weight 189 = .ok (.aload_n 0, 1) := by decide +kernel
theorem dX12_weight_190 : decode cX12_weight 190 = .ok (.iload 5, 2) := by decide +kernel
theorem dX12_weight_192 : decode cX12_weight 192 = .ok (.invokevirtual 320, 3) := by decide +kernel
theorem dX12_weight_195 : decode cX12_weight 195 = .ok (.iadd, 1) := by decide +kernel
theorem dX12_weight_196 : decode cX12_weight 196 = .ok (.istore_n 2, 1) := by decide +kernel
theorem dX12_weight_197 : decode cX12_weight 197 = .ok (.goto (-162), 3) := by decide +kernel
theorem dX12_weight_200 : decode cX12_weight 200 = .ok (.iload_n 2, 1) := by decide +kernel
theorem dX12_weight_201 : decode cX12_weight 201 = .ok (.ireturn, 1) := by decide +kernel
def L_X12_weight_35 (d : Nat) (v0 : Option Nm) (v2 : Int32) (h : MH) (u : Nat) (Q : Int32 → MH → Prop) : Prop := T u_X12_weight (d + 1) 35 [some (jR v0), none, some (jI v2), none, none, none, none] [] h u (qI Q)
def F_X12_weight (d : Nat) (v0 : Option Nm) (v1 : Int32) (h : MH) (u : Nat) (Q : Int32 → MH → Prop) : Prop :=
  rc h v0 11 ∧ iI d u_X12_isValue [jR v0, jI v1] h u fun x1 h u =>
  if x1 = 0 then
    Q (-1) h
  else
    rc h v0 11 ∧ iI d u_X12_isConstant [jR v0, jI v1] h u fun x2 h u =>
    if x2 = 0 then
      pV h v0 11 35 (jI 0) fun h =>
      rc h v0 11 ∧ iI d u_X12_recordWeight [jR v0, jI v1] h u fun x3 h u =>
      L_X12_weight_35 d v0 x3 h u Q
    else
      rc h v0 11 ∧ iI d u_X12_constantWeight [jR v0, jI v1] h u fun x4 h u =>
      Q x4 h
set_option maxRecDepth 20000 in
theorem E_X12_weight {d : Nat} {v0 : Option Nm} {v1 : Int32} {h : MH} {u : Nat} {Q : Int32 → MH → Prop} (H : F_X12_weight d v0 v1 h u Q) : T u_X12_weight (d + 1) 0 [some (jR v0), some (jI v1), none, none, none, none, none] [] h u (qI Q) := by
  unfold F_X12_weight at H
  refine T_aload_n (pc := 0) dX12_weight_0 rfl rfl ?_
  refine T_iload_n (pc := 1) dX12_weight_1 rfl rfl ?_
  obtain ⟨H0, H⟩ := H
  refine T_iV (pc := 2) (ci := 11) (av := [jI v1]) (rest := []) (o := v0) dX12_weight_2 mf_X12_isValue c_5_155 c_5_157 pr_X12_isValue rfl rfl (Nat.le_of_ble_eq_true rfl) rfl H0 (iI_k (iI_mono (fun x1 h u H => ?_) H))
  refine T_if_ne (pc := 5) (tgt := 10) dX12_weight_5 (by decide) (fun hc => ?_) (fun hc => ?_)
  · rw [if_neg hc] at H
    refine T_aload_n (pc := 10) dX12_weight_10 rfl rfl ?_
    refine T_iload_n (pc := 11) dX12_weight_11 rfl rfl ?_
    obtain ⟨H0, H⟩ := H
    refine T_iV (pc := 12) (ci := 11) (av := [jI v1]) (rest := []) (o := v0) dX12_weight_12 mf_X12_isConstant c_6_34 c_6_36 pr_X12_isConstant rfl rfl (Nat.le_of_ble_eq_true rfl) rfl H0 (iI_k (iI_mono (fun x2 h u H => ?_) H))
    refine T_if_eq (pc := 15) (tgt := 24) dX12_weight_15 (by decide) (fun hc => ?_) (fun hc => ?_)
    · rw [if_pos hc] at H
      refine T_aload_n (pc := 24) dX12_weight_24 rfl rfl ?_
      refine T_iconst (pc := 25) (v := 0) dX12_weight_25 (by decide) ?_
      refine T_pV (pc := 26) fa_X12_271 dX12_weight_26 trivial (pV_mono (fun h H => ?_) H)
      refine T_aload_n (pc := 29) dX12_weight_29 rfl rfl ?_
      refine T_iload_n (pc := 30) dX12_weight_30 rfl rfl ?_
      obtain ⟨H0, H⟩ := H
      refine T_iV (pc := 31) (ci := 11) (av := [jI v1]) (rest := []) (o := v0) dX12_weight_31 mf_X12_recordWeight c_6_143 c_6_145 pr_X12_recordWeight rfl rfl (Nat.le_of_ble_eq_true rfl) rfl H0 (iI_k (iI_mono (fun x3 h u H => ?_) H))
      refine T_istore_n (pc := 34) (ls2 := [some (jR v0), some (jI v1), some (jI x3), none, none, none, none]) dX12_weight_34 rfl (Nat.le_of_ble_eq_true rfl) rfl ?_
      exact T.forget H ⟨rfl, rfl, trivial⟩
    · rw [if_neg hc] at H
      refine T_aload_n (pc := 18) dX12_weight_18 rfl rfl ?_
      refine T_iload_n (pc := 19) dX12_weight_19 rfl rfl ?_
      obtain ⟨H0, H⟩ := H
      refine T_iV (pc := 20) (ci := 11) (av := [jI v1]) (rest := []) (o := v0) dX12_weight_20 mf_X12_constantWeight c_6_139 c_6_141 pr_X12_constantWeight rfl rfl (Nat.le_of_ble_eq_true rfl) rfl H0 (iI_k (iI_mono (fun x4 h u H => ?_) H))
      exact T_ireturn (pc := 23) rfl rfl dX12_weight_23 H
  · rw [if_pos hc] at H
    refine T_iconst (pc := 8) (v := (-1)) dX12_weight_8 (by decide) ?_
    exact T_ireturn (pc := 9) rfl rfl dX12_weight_9 H
def F_X12_weight_35 (d : Nat) (v0 : Option Nm) (v2 : Int32) (h : MH) (u : Nat) (Q : Int32 → MH → Prop) : Prop :=
  gI h v0 11 35 fun x1 =>
  if x1 ≤ 0 then
    Q v2 h
  else
    gI h v0 11 35 fun x2 =>
    gR h v0 11 38 fun x3 =>
    aI .int h x3 (x2 - 1) fun x4 =>
    gR h v0 11 36 fun x5 =>
    aI .int h x5 (x2 - 1) fun x6 =>
    rc h v0 11 ∧ iI d u_X12_partsOf [jR v0, jI x6] h u fun x7 h u =>
    if x4 = x7 then
      gI h v0 11 35 fun x22 =>
      pV h v0 11 35 (jI (x22 - 1)) fun h =>
      L_X12_weight_35 d v0 v2 h u Q
    else
      gR h v0 11 38 fun x8 =>
      aI .int h x8 (x2 - 1) fun x9 =>
      sV .int h x8 (x2 - 1) (jI (x9 + 1)) fun h =>
      gR h v0 11 31 fun x10 =>
      gR h v0 11 36 fun x11 =>
      aI .int h x11 (x2 - 1) fun x12 =>
      aL h x10 ((6 * x12) + x4) fun x13 =>
      gR h v0 11 36 fun x14 =>
      aI .int h x14 (x2 - 1) fun x15 =>
      rc h v0 11 ∧ iI d u_X12_laneOf [jR v0, jI x15, jI x4] h u fun x16 h u =>
      if x16 = 9 then
        if 0 ≤ (x13.toInt32) then
          gR h v0 11 5 fun x20 =>
          aI .int h x20 (x13.toInt32) fun x21 =>
          L_X12_weight_35 d v0 (v2 + x21) h u Q
        else
          L_X12_weight_35 d v0 (v2 + 0) h u Q
      else
        if x16 = 8 then
          if (x13.toInt32) < 0 then
            L_X12_weight_35 d v0 v2 h u Q
          else
            rc h v0 11 ∧ iI d u_X12_isConstant [jR v0, jI (x13.toInt32)] h u fun x17 h u =>
            if x17 = 0 then
              rc h v0 11 ∧ iI d u_X12_recordWeight [jR v0, jI (x13.toInt32)] h u fun x18 h u =>
              L_X12_weight_35 d v0 (v2 + x18) h u Q
            else
              rc h v0 11 ∧ iI d u_X12_constantWeight [jR v0, jI (x13.toInt32)] h u fun x19 h u =>
              L_X12_weight_35 d v0 (v2 + x19) h u Q
        else
          L_X12_weight_35 d v0 v2 h u Q
set_option maxRecDepth 20000 in
theorem E_X12_weight_35 {d : Nat} {v0 : Option Nm} {v2 : Int32} {h : MH} {u : Nat} {Q : Int32 → MH → Prop} (H : F_X12_weight_35 d v0 v2 h u Q) : T u_X12_weight (d + 1) 35 [some (jR v0), none, some (jI v2), none, none, none, none] [] h u (qI Q) := by
  unfold F_X12_weight_35 at H
  refine T_aload_n (pc := 35) dX12_weight_35 rfl rfl ?_
  refine T_gI (pc := 36) fa_X12_271 dX12_weight_36 (gI_mono (fun x1 H => ?_) H)
  refine T_if_le (pc := 39) (tgt := 200) dX12_weight_39 (by decide) (fun hc => ?_) (fun hc => ?_)
  · rw [if_pos hc] at H
    refine T_iload_n (pc := 200) dX12_weight_200 rfl rfl ?_
    exact T_ireturn (pc := 201) rfl rfl dX12_weight_201 H
  · rw [if_neg hc] at H
    refine T_aload_n (pc := 42) dX12_weight_42 rfl rfl ?_
    refine T_gI (pc := 43) fa_X12_271 dX12_weight_43 (gI_mono (fun x2 H => ?_) H)
    refine T_iconst (pc := 46) (v := 1) dX12_weight_46 (by decide) ?_
    refine T_isub (pc := 47) dX12_weight_47 ?_
    refine T_istore_n (pc := 48) (ls2 := [some (jR v0), none, some (jI v2), some (jI (x2 - 1)), none, none, none]) dX12_weight_48 rfl (Nat.le_of_ble_eq_true rfl) rfl ?_
    refine T_aload_n (pc := 49) dX12_weight_49 rfl rfl ?_
    refine T_gR (pc := 50) fa_X12_96 dX12_weight_50 (gR_mono (fun x3 H => ?_) H)
    refine T_iload_n (pc := 53) dX12_weight_53 rfl rfl ?_
    refine T_aI (pc := 54) dX12_weight_54 (aI_mono (fun x4 H => ?_) H)
    refine T_istore (pc := 55) (ls2 := [some (jR v0), none, some (jI v2), some (jI (x2 - 1)), some (jI x4), none, none]) dX12_weight_55 (Nat.le_of_ble_eq_true rfl) rfl ?_
    refine T_iload (pc := 57) dX12_weight_57 rfl ?_
    refine T_aload_n (pc := 59) dX12_weight_59 rfl rfl ?_
    refine T_aload_n (pc := 60) dX12_weight_60 rfl rfl ?_
    refine T_gR (pc := 61) fa_X12_90 dX12_weight_61 (gR_mono (fun x5 H => ?_) H)
    refine T_iload_n (pc := 64) dX12_weight_64 rfl rfl ?_
    refine T_aI (pc := 65) dX12_weight_65 (aI_mono (fun x6 H => ?_) H)
    obtain ⟨H0, H⟩ := H
    refine T_iV (pc := 66) (ci := 11) (av := [jI x6]) (rest := [jI x4]) (o := v0) dX12_weight_66 mf_X12_partsOf c_6_38 c_6_40 pr_X12_partsOf rfl rfl (Nat.le_of_ble_eq_true rfl) rfl H0 (iI_k (iI_mono (fun x7 h u H => ?_) H))
    refine T_icmp_ne (pc := 69) (tgt := 85) dX12_weight_69 (by decide) (fun hc => ?_) (fun hc => ?_)
    · rw [if_neg hc] at H
      refine T_aload_n (pc := 85) dX12_weight_85 rfl rfl ?_
      refine T_gR (pc := 86) fa_X12_96 dX12_weight_86 (gR_mono (fun x8 H => ?_) H)
      refine T_iload_n (pc := 89) dX12_weight_89 rfl rfl ?_
      refine T_dup2 (pc := 90) rfl rfl dX12_weight_90 ?_
      refine T_aI (pc := 91) dX12_weight_91 (aI_mono (fun x9 H => ?_) H)
      refine T_iconst (pc := 92) (v := 1) dX12_weight_92 (by decide) ?_
      refine T_iadd (pc := 93) dX12_weight_93 ?_
      refine T_sI (pc := 94) dX12_weight_94 (sV_mono (fun h H => ?_) H)
      refine T_aload_n (pc := 95) dX12_weight_95 rfl rfl ?_
      refine T_gR (pc := 96) fa_X12_84 dX12_weight_96 (gR_mono (fun x10 H => ?_) H)
      refine T_bipush (pc := 99) (v := 6) dX12_weight_99 (by decide) ?_
      refine T_aload_n (pc := 101) dX12_weight_101 rfl rfl ?_
      refine T_gR (pc := 102) fa_X12_90 dX12_weight_102 (gR_mono (fun x11 H => ?_) H)
      refine T_iload_n (pc := 105) dX12_weight_105 rfl rfl ?_
      refine T_aI (pc := 106) dX12_weight_106 (aI_mono (fun x12 H => ?_) H)
      refine T_imul (pc := 107) dX12_weight_107 ?_
      refine T_iload (pc := 108) dX12_weight_108 rfl ?_
      refine T_iadd (pc := 110) dX12_weight_110 ?_
      refine T_aL (pc := 111) dX12_weight_111 (aL_mono (fun x13 H => ?_) H)
      refine T_l2i (pc := 112) dX12_weight_112 ?_
      refine T_istore (pc := 113) (ls2 := [some (jR v0), none, some (jI v2), some (jI (x2 - 1)), some (jI x4), some (jI (x13.toInt32)), none]) dX12_weight_113 (Nat.le_of_ble_eq_true rfl) rfl ?_
      refine T_aload_n (pc := 115) dX12_weight_115 rfl rfl ?_
      refine T_aload_n (pc := 116) dX12_weight_116 rfl rfl ?_
      refine T_gR (pc := 117) fa_X12_90 dX12_weight_117 (gR_mono (fun x14 H => ?_) H)
      refine T_iload_n (pc := 120) dX12_weight_120 rfl rfl ?_
      refine T_aI (pc := 121) dX12_weight_121 (aI_mono (fun x15 H => ?_) H)
      refine T_iload (pc := 122) dX12_weight_122 rfl ?_
      obtain ⟨H0, H⟩ := H
      refine T_iV (pc := 124) (ci := 11) (av := [jI x15, jI x4]) (rest := []) (o := v0) dX12_weight_124 mf_X12_laneOf c_6_50 c_6_52 pr_X12_laneOf rfl rfl (Nat.le_of_ble_eq_true rfl) rfl H0 (iI_k (iI_mono (fun x16 h u H => ?_) H))
      refine T_istore (pc := 127) (ls2 := [some (jR v0), none, some (jI v2), some (jI (x2 - 1)), some (jI x4), some (jI (x13.toInt32)), some (jI x16)]) dX12_weight_127 (Nat.le_of_ble_eq_true rfl) rfl ?_
      refine T_iload (pc := 129) dX12_weight_129 rfl ?_
      refine T_bipush (pc := 131) (v := 9) dX12_weight_131 (by decide) ?_
      refine T_icmp_ne (pc := 133) (tgt := 158) dX12_weight_133 (by decide) (fun hc => ?_) (fun hc => ?_)
      · rw [if_neg hc] at H
        refine T_iload (pc := 158) dX12_weight_158 rfl ?_
        refine T_bipush (pc := 160) (v := 8) dX12_weight_160 (by decide) ?_
        refine T_icmp_ne (pc := 162) (tgt := 197) dX12_weight_162 (by decide) (fun hc => ?_) (fun hc => ?_)
        · rw [if_neg hc] at H
          refine T_goto (pc := 197) (tgt := 35) dX12_weight_197 (by decide) ?_
          exact T.forget H ⟨rfl, rfl, trivial⟩
        · rw [if_pos hc] at H
          refine T_iload (pc := 165) dX12_weight_165 rfl ?_
          refine T_if_lt (pc := 167) (tgt := 197) dX12_weight_167 (by decide) (fun hc => ?_) (fun hc => ?_)
          · rw [if_pos hc] at H
            refine T_goto (pc := 197) (tgt := 35) dX12_weight_197 (by decide) ?_
            exact T.forget H ⟨rfl, rfl, trivial⟩
          · rw [if_neg hc] at H
            refine T_iload_n (pc := 170) dX12_weight_170 rfl rfl ?_
            refine T_aload_n (pc := 171) dX12_weight_171 rfl rfl ?_
            refine T_iload (pc := 172) dX12_weight_172 rfl ?_
            obtain ⟨H0, H⟩ := H
            refine T_iV (pc := 174) (ci := 11) (av := [jI (x13.toInt32)]) (rest := [jI v2]) (o := v0) dX12_weight_174 mf_X12_isConstant c_6_34 c_6_36 pr_X12_isConstant rfl rfl (Nat.le_of_ble_eq_true rfl) rfl H0 (iI_k (iI_mono (fun x17 h u H => ?_) H))
            refine T_if_eq (pc := 177) (tgt := 189) dX12_weight_177 (by decide) (fun hc => ?_) (fun hc => ?_)
            · rw [if_pos hc] at H
              refine T_aload_n (pc := 189) dX12_weight_189 rfl rfl ?_
              refine T_iload (pc := 190) dX12_weight_190 rfl ?_
              obtain ⟨H0, H⟩ := H
              refine T_iV (pc := 192) (ci := 11) (av := [jI (x13.toInt32)]) (rest := [jI v2]) (o := v0) dX12_weight_192 mf_X12_recordWeight c_6_143 c_6_145 pr_X12_recordWeight rfl rfl (Nat.le_of_ble_eq_true rfl) rfl H0 (iI_k (iI_mono (fun x18 h u H => ?_) H))
              refine T_iadd (pc := 195) dX12_weight_195 ?_
              refine T_istore_n (pc := 196) (ls2 := [some (jR v0), none, some (jI (v2 + x18)), some (jI (x2 - 1)), some (jI x4), some (jI (x13.toInt32)), some (jI x16)]) dX12_weight_196 rfl (Nat.le_of_ble_eq_true rfl) rfl ?_
              refine T_goto (pc := 197) (tgt := 35) dX12_weight_197 (by decide) ?_
              exact T.forget H ⟨rfl, rfl, trivial⟩
            · rw [if_neg hc] at H
              refine T_aload_n (pc := 180) dX12_weight_180 rfl rfl ?_
              refine T_iload (pc := 181) dX12_weight_181 rfl ?_
              obtain ⟨H0, H⟩ := H
              refine T_iV (pc := 183) (ci := 11) (av := [jI (x13.toInt32)]) (rest := [jI v2]) (o := v0) dX12_weight_183 mf_X12_constantWeight c_6_139 c_6_141 pr_X12_constantWeight rfl rfl (Nat.le_of_ble_eq_true rfl) rfl H0 (iI_k (iI_mono (fun x19 h u H => ?_) H))
              refine T_goto (pc := 186) (tgt := 195) dX12_weight_186 (by decide) ?_
              refine T_iadd (pc := 195) dX12_weight_195 ?_
              refine T_istore_n (pc := 196) (ls2 := [some (jR v0), none, some (jI (v2 + x19)), some (jI (x2 - 1)), some (jI x4), some (jI (x13.toInt32)), some (jI x16)]) dX12_weight_196 rfl (Nat.le_of_ble_eq_true rfl) rfl ?_
              refine T_goto (pc := 197) (tgt := 35) dX12_weight_197 (by decide) ?_
              exact T.forget H ⟨rfl, rfl, trivial⟩
      · rw [if_pos hc] at H
        refine T_iload_n (pc := 136) dX12_weight_136 rfl rfl ?_
        refine T_iload (pc := 137) dX12_weight_137 rfl ?_
        refine T_if_ge (pc := 139) (tgt := 146) dX12_weight_139 (by decide) (fun hc => ?_) (fun hc => ?_)
        · rw [if_pos hc] at H
          refine T_aload_n (pc := 146) dX12_weight_146 rfl rfl ?_
          refine T_gR (pc := 147) fa_X12_13 dX12_weight_147 (gR_mono (fun x20 H => ?_) H)
          refine T_iload (pc := 150) dX12_weight_150 rfl ?_
          refine T_aI (pc := 152) dX12_weight_152 (aI_mono (fun x21 H => ?_) H)
          refine T_iadd (pc := 153) dX12_weight_153 ?_
          refine T_istore_n (pc := 154) (ls2 := [some (jR v0), none, some (jI (v2 + x21)), some (jI (x2 - 1)), some (jI x4), some (jI (x13.toInt32)), some (jI x16)]) dX12_weight_154 rfl (Nat.le_of_ble_eq_true rfl) rfl ?_
          refine T_goto (pc := 155) (tgt := 197) dX12_weight_155 (by decide) ?_
          refine T_goto (pc := 197) (tgt := 35) dX12_weight_197 (by decide) ?_
          exact T.forget H ⟨rfl, rfl, trivial⟩
        · rw [if_neg hc] at H
          refine T_iconst (pc := 142) (v := 0) dX12_weight_142 (by decide) ?_
          refine T_goto (pc := 143) (tgt := 153) dX12_weight_143 (by decide) ?_
          refine T_iadd (pc := 153) dX12_weight_153 ?_
          refine T_istore_n (pc := 154) (ls2 := [some (jR v0), none, some (jI (v2 + 0)), some (jI (x2 - 1)), some (jI x4), some (jI (x13.toInt32)), some (jI x16)]) dX12_weight_154 rfl (Nat.le_of_ble_eq_true rfl) rfl ?_
          refine T_goto (pc := 155) (tgt := 197) dX12_weight_155 (by decide) ?_
          refine T_goto (pc := 197) (tgt := 35) dX12_weight_197 (by decide) ?_
          exact T.forget H ⟨rfl, rfl, trivial⟩
    · rw [if_pos hc] at H
      refine T_aload_n (pc := 72) dX12_weight_72 rfl rfl ?_
      refine T_dup (pc := 73) rfl dX12_weight_73 ?_
      refine T_gI (pc := 74) fa_X12_271 dX12_weight_74 (gI_mono (fun x22 H => ?_) H)
      refine T_iconst (pc := 77) (v := 1) dX12_weight_77 (by decide) ?_
      refine T_isub (pc := 78) dX12_weight_78 ?_
      refine T_pV (pc := 79) fa_X12_271 dX12_weight_79 trivial (pV_mono (fun h H => ?_) H)
      refine T_goto (pc := 82) (tgt := 35) dX12_weight_82 (by decide) ?_
      exact T.forget H ⟨rfl, rfl, trivial⟩
theorem I_X12_weight {d : Nat} {v0 : Option Nm} {v1 : Int32} {h : MH} {u : Nat} {K : Int32 → MH → Nat → Prop} (u1 : Nat) (hu : u1 ≤ u) (H : F_X12_weight d v0 v1 h u1 (fun x h2 => K x h2 (u - u1))) : iI (d + 1) u_X12_weight [jR v0, jI v1] h u K := inv.of u1 hu (Ct.of (by decide +kernel) rfl (Nat.le_of_ble_eq_true rfl) rfl (E_X12_weight H))
theorem dX12_says_0 : decode cX12_says 0 = .ok (.aload_n 0, 1) := by decide +kernel
theorem dX12_says_1 : decode cX12_says 1 = .ok (.getfield 323, 3) := by decide +kernel
theorem dX12_says_4 : decode cX12_says 4 = .ok (.sipush 4000, 3) := by decide +kernel
theorem dX12_says_7 : decode cX12_says 7 = .ok (.if_icmp .gt 24, 3) := by decide +kernel
theorem dX12_says_10 : decode cX12_says 10 = .ok (.aload_n 0, 1) := by decide +kernel
theorem dX12_says_11 : decode cX12_says 11 = .ok (.getfield 108, 3) := by decide +kernel
theorem dX12_says_14 : decode cX12_says 14 = .ok (.aload_n 0, 1) := by decide +kernel
theorem dX12_says_15 : decode cX12_says 15 = .ok (.getfield 323, 3) := by decide +kernel
theorem dX12_says_18 : decode cX12_says 18 = .ok (.iload_n 1, 1) := by decide +kernel
theorem dX12_says_19 : decode cX12_says 19 = .ok (.i2b, 1) := by decide +kernel
theorem dX12_says_20 : decode cX12_says 20 = .ok (.bastore, 1) := by decide +kernel
theorem dX12_says_21 : decode cX12_says 21 = .ok (.aload_n 0, 1) := by decide +kernel
theorem dX12_says_22 : decode cX12_says 22 = .ok (.dup, 1) := by decide +kernel
theorem dX12_says_23 : decode cX12_says 23 = .ok (.getfield 323, 3) := by decide +kernel
theorem dX12_says_26 : decode cX12_says 26 = .ok (.iconst 1, 1) := by decide +kernel
theorem dX12_says_27 : decode cX12_says 27 = .ok (.iadd, 1) := by decide +kernel
theorem dX12_says_28 : decode cX12_says 28 = .ok (.putfield 323, 3) := by decide +kernel
theorem dX12_says_31 : decode cX12_says 31 = .ok (.return_, 1) := by decide +kernel
def F_X12_says (d : Nat) (v0 : Option Nm) (v1 : Int32) (h : MH) (u : Nat) (Q : MH → Prop) : Prop :=
  gI h v0 11 43 fun x1 =>
  if 4000 < x1 then
    Q h
  else
    gR h v0 11 42 fun x2 =>
    gI h v0 11 43 fun x3 =>
    sV .byte h x2 x3 (jI (v1.toInt8.toInt32).toInt8.toInt32) fun h =>
    gI h v0 11 43 fun x4 =>
    pV h v0 11 43 (jI (x4 + 1)) fun h =>
    Q h
set_option maxRecDepth 20000 in
theorem E_X12_says {d : Nat} {v0 : Option Nm} {v1 : Int32} {h : MH} {u : Nat} {Q : MH → Prop} (H : F_X12_says d v0 v1 h u Q) : T u_X12_says d 0 [some (jR v0), some (jI v1)] [] h u (qV Q) := by
  unfold F_X12_says at H
  refine T_aload_n (pc := 0) dX12_says_0 rfl rfl ?_
  refine T_gI (pc := 1) fa_X12_323 dX12_says_1 (gI_mono (fun x1 H => ?_) H)
  refine T_sipush (pc := 4) (v := 4000) dX12_says_4 (by decide) ?_
  refine T_icmp_gt (pc := 7) (tgt := 31) dX12_says_7 (by decide) (fun hc => ?_) (fun hc => ?_)
  · rw [if_pos hc] at H
    exact T_return (pc := 31) rfl dX12_says_31 H
  · rw [if_neg hc] at H
    refine T_aload_n (pc := 10) dX12_says_10 rfl rfl ?_
    refine T_gR (pc := 11) fa_X12_108 dX12_says_11 (gR_mono (fun x2 H => ?_) H)
    refine T_aload_n (pc := 14) dX12_says_14 rfl rfl ?_
    refine T_gI (pc := 15) fa_X12_323 dX12_says_15 (gI_mono (fun x3 H => ?_) H)
    refine T_iload_n (pc := 18) dX12_says_18 rfl rfl ?_
    refine T_i2b (pc := 19) dX12_says_19 ?_
    refine T_sB (pc := 20) dX12_says_20 (sV_mono (fun h H => ?_) H)
    refine T_aload_n (pc := 21) dX12_says_21 rfl rfl ?_
    refine T_dup (pc := 22) rfl dX12_says_22 ?_
    refine T_gI (pc := 23) fa_X12_323 dX12_says_23 (gI_mono (fun x4 H => ?_) H)
    refine T_iconst (pc := 26) (v := 1) dX12_says_26 (by decide) ?_
    refine T_iadd (pc := 27) dX12_says_27 ?_
    refine T_pV (pc := 28) fa_X12_323 dX12_says_28 trivial (pV_mono (fun h H => ?_) H)
    exact T_return (pc := 31) rfl dX12_says_31 H
theorem I_X12_says {d : Nat} {v0 : Option Nm} {v1 : Int32} {h : MH} {u : Nat} {K : MH → Nat → Prop} (u1 : Nat) (hu : u1 ≤ u) (H : F_X12_says d v0 v1 h u1 (fun h2 => K h2 (u - u1))) : iV d u_X12_says [jR v0, jI v1] h u K := inv.of u1 hu (Ct.of (by decide +kernel) rfl (Nat.le_of_ble_eq_true rfl) rfl (E_X12_says H))
theorem dX12_saysNumber_0 : decode cX12_saysNumber 0 = .ok (.lload_n 1, 1) := by decide +kernel
theorem dX12_saysNumber_1 : decode cX12_saysNumber 1 = .ok (.lconst 0, 1) := by decide +kernel
theorem dX12_saysNumber_2 : decode cX12_saysNumber 2 = .ok (.lcmp, 1) := by decide +kernel
theorem dX12_saysNumber_3 : decode cX12_saysNumber 3 = .ok (.ifCond .ge 7, 3) := by decide +kernel
theorem dX12_saysNumber_6 : decode cX12_saysNumber 6 = .ok (.lload_n 1, 1) := by decide +kernel
theorem dX12_saysNumber_7 : decode cX12_saysNumber 7 = .ok (.goto 5, 3) := by decide +kernel
theorem dX12_saysNumber_10 : decode cX12_saysNumber 10 = .ok (.lload_n 1, 1) := by decide +kernel
theorem dX12_saysNumber_11 : decode cX12_saysNumber 11 = .ok (.lneg, 1) := by decide +kernel
theorem dX12_saysNumber_12 : decode cX12_saysNumber 12 = .ok (.lstore_n 3, 1) := by decide +kernel
theorem dX12_saysNumber_13 : decode cX12_saysNumber 13 = .ok (.lload_n 1, 1) := by decide +kernel
theorem dX12_saysNumber_14 : decode cX12_saysNumber 14 = .ok (.lconst 0, 1) := by decide +kernel
theorem dX12_saysNumber_15 : decode cX12_saysNumber 15 = .ok (.lcmp, 1) := by decide +kernel
theorem dX12_saysNumber_16 : decode cX12_saysNumber 16 = .ok (.ifCond .ge 9, 3) := by decide +kernel
theorem dX12_saysNumber_19 : decode cX12_saysNumber 19 = .ok (.aload_n 0, 1) := by decide +kernel
theorem dX12_saysNumber_20 : decode cX12_saysNumber 20 = .ok (.bipush 45, 2) := by decide +kernel
theorem dX12_saysNumber_22 : decode cX12_saysNumber 22 = .ok (.invokevirtual 326, 3) := by decide +kernel
theorem dX12_saysNumber_25 : decode cX12_saysNumber 25 = .ok (.ldc2_w 160, 3) := by decide +kernel
theorem dX12_saysNumber_28 : decode cX12_saysNumber 28 = .ok (.lstore 5, 2) := by decide +kernel
theorem dX12_saysNumber_30 : decode cX12_saysNumber 30 = .ok (.lload_n 3, 1) := by decide +kernel
theorem dX12_saysNumber_31 : decode cX12_saysNumber 31 = .ok (.ldc2_w 329, 3) := by decide +kernel
theorem dX12_saysNumber_34 : decode cX12_saysNumber 34 = .ok (.ldiv, 1) := by decide +kernel
theorem dX12_saysNumber_35 : decode cX12_saysNumber 35 = .ok (.lload 5, 2) := by decide +kernel
theorem dX12_saysNumber_37 : decode cX12_saysNumber 37 = .ok (.lcmp, 1) := by decide +kernel
theorem dX12_saysNumber_38 : decode cX12_saysNumber 38 = .ok (.ifCond .gt 14, 3) := by decide +kernel
theorem dX12_saysNumber_41 : decode cX12_saysNumber 41 = .ok (.ldc2_w 329, 3) := by decide +kernel
theorem dX12_saysNumber_44 : decode cX12_saysNumber 44 = .ok (.lload 5, 2) := by decide +kernel
theorem dX12_saysNumber_46 : decode cX12_saysNumber 46 = .ok (.lmul, 1) := by decide +kernel
theorem dX12_saysNumber_47 : decode cX12_saysNumber 47 = .ok (.lstore 5, 2) := by decide +kernel
theorem dX12_saysNumber_49 : decode cX12_saysNumber 49 = .ok (.goto (-19), 3) := by decide +kernel
theorem dX12_saysNumber_52 : decode cX12_saysNumber 52 = .ok (.lload 5, 2) := by decide +kernel
theorem dX12_saysNumber_54 : decode cX12_saysNumber 54 = .ok (.lconst 0, 1) := by decide +kernel
theorem dX12_saysNumber_55 : decode cX12_saysNumber 55 = .ok (.lcmp, 1) := by decide +kernel
theorem dX12_saysNumber_56 : decode cX12_saysNumber 56 = .ok (.ifCond .ge 32, 3) := by decide +kernel
theorem dX12_saysNumber_59 : decode cX12_saysNumber 59 = .ok (.aload_n 0, 1) := by decide +kernel
theorem dX12_saysNumber_60 : decode cX12_saysNumber 60 = .ok (.ldc2_w 331, 3) := by decide +kernel
theorem dX12_saysNumber_63 : decode cX12_saysNumber 63 = .ok (.lload_n 3, 1) := by decide +kernel
theorem dX12_saysNumber_64 : decode cX12_saysNumber 64 = .ok (.lload 5, 2) := by decide +kernel
theorem dX12_saysNumber_66 : decode cX12_saysNumber 66 = .ok (.lneg, 1) := by decide +kernel
theorem dX12_saysNumber_67 : decode cX12_saysNumber 67 = .ok (.ldiv, 1) := by decide +kernel
theorem dX12_saysNumber_68 : decode cX12_saysNumber 68 = .ok (.ldc2_w 329, 3) := by decide +kernel
theorem dX12_saysNumber_71 : decode cX12_saysNumber 71 = .ok (.lrem, 1) := by decide +kernel
theorem dX12_saysNumber_72 : decode cX12_saysNumber 72 = .ok (.lsub, 1) := by decide +kernel
theorem dX12_saysNumber_73 : decode cX12_saysNumber 73 = .ok (.l2i, 1) := by decide +kernel
theorem dX12_saysNumber_74 : decode cX12_saysNumber 74 = .ok (.invokevirtual 326, 3) := by decide +kernel
theorem dX12_saysNumber_77 : decode cX12_saysNumber 77 = .ok (.lload 5, 2) := by decide +kernel
theorem dX12_saysNumber_79 : decode cX12_saysNumber 79 = .ok (.ldc2_w 329, 3) := by decide +kernel
theorem dX12_saysNumber_82 : decode cX12_saysNumber 82 = .ok (.ldiv, 1) := by decide +kernel
theorem dX12_saysNumber_83 : decode cX12_saysNumber 83 = .ok (.lstore 5, 2) := by decide +kernel
theorem dX12_saysNumber_85 : decode cX12_saysNumber 85 = .ok (.goto (-33), 3) := by decide +kernel
theorem dX12_saysNumber_88 : decode cX12_saysNumber 88 = .ok (.return_, 1) := by decide +kernel
def L_X12_saysNumber_30 (d : Nat) (v0 : Option Nm) (v3 : Int64) (v5 : Int64) (h : MH) (u : Nat) (Q : MH → Prop) : Prop := T u_X12_saysNumber (d + 1) 30 [some (jR v0), none, none, some (jL v3), none, some (jL v5), none] [] h u (qV Q)
def L_X12_saysNumber_52 (d : Nat) (v0 : Option Nm) (v3 : Int64) (v5 : Int64) (h : MH) (u : Nat) (Q : MH → Prop) : Prop := T u_X12_saysNumber (d + 1) 52 [some (jR v0), none, none, some (jL v3), none, some (jL v5), none] [] h u (qV Q)
def F_X12_saysNumber_12 (d : Nat) (v0 : Option Nm) (v1 : Int64) (s0 : Int64) (h : MH) (u : Nat) (Q : MH → Prop) : Prop :=
  if 0 ≤ (lg_cmp v1 0) then
    L_X12_saysNumber_30 d v0 s0 (-1) h u Q
  else
    rc h v0 11 ∧ iV d u_X12_says [jR v0, jI 45] h u fun h u =>
    L_X12_saysNumber_30 d v0 s0 (-1) h u Q
set_option maxRecDepth 20000 in
theorem E_X12_saysNumber_12 {d : Nat} {v0 : Option Nm} {v1 : Int64} {s0 : Int64} {h : MH} {u : Nat} {Q : MH → Prop} (H : F_X12_saysNumber_12 d v0 v1 s0 h u Q) : T u_X12_saysNumber (d + 1) 12 [some (jR v0), some (jL v1), none, none, none, none, none] [jL s0] h u (qV Q) := by
  unfold F_X12_saysNumber_12 at H
  refine T_lstore_n (pc := 12) (ls2 := [some (jR v0), some (jL v1), none, some (jL s0), none, none, none]) dX12_saysNumber_12 rfl (Nat.le_of_ble_eq_true rfl) rfl ?_
  refine T_lload_n (pc := 13) dX12_saysNumber_13 rfl rfl ?_
  refine T_lconst (pc := 14) (v := 0) dX12_saysNumber_14 (by decide) ?_
  refine T_lcmp (pc := 15) dX12_saysNumber_15 ?_
  refine T_if_ge (pc := 16) (tgt := 25) dX12_saysNumber_16 (by decide) (fun hc => ?_) (fun hc => ?_)
  · rw [if_pos hc] at H
    refine T_ldc2 (pc := 25) (v := (-1)) dX12_saysNumber_25 c_5_97 ?_
    refine T_lstore (pc := 28) (ls2 := [some (jR v0), some (jL v1), none, some (jL s0), none, some (jL (-1)), none]) dX12_saysNumber_28 (Nat.le_of_ble_eq_true rfl) rfl ?_
    exact T.forget H ⟨rfl, rfl, rfl, trivial⟩
  · rw [if_neg hc] at H
    refine T_aload_n (pc := 19) dX12_saysNumber_19 rfl rfl ?_
    refine T_bipush (pc := 20) (v := 45) dX12_saysNumber_20 (by decide) ?_
    obtain ⟨H0, H⟩ := H
    refine T_iV (pc := 22) (ci := 11) (av := [jI 45]) (rest := []) (o := v0) dX12_saysNumber_22 mf_X12_says c_6_155 c_6_157 pr_X12_says rfl rfl (Nat.le_of_ble_eq_true rfl) rfl H0 (iV_k (iV_mono (fun h u H => ?_) H))
    refine T_ldc2 (pc := 25) (v := (-1)) dX12_saysNumber_25 c_5_97 ?_
    refine T_lstore (pc := 28) (ls2 := [some (jR v0), some (jL v1), none, some (jL s0), none, some (jL (-1)), none]) dX12_saysNumber_28 (Nat.le_of_ble_eq_true rfl) rfl ?_
    exact T.forget H ⟨rfl, rfl, rfl, trivial⟩
def F_X12_saysNumber (d : Nat) (v0 : Option Nm) (v1 : Int64) (h : MH) (u : Nat) (Q : MH → Prop) : Prop :=
  if 0 ≤ (lg_cmp v1 0) then
    F_X12_saysNumber_12 d v0 v1 (-v1) h u Q
  else
    F_X12_saysNumber_12 d v0 v1 v1 h u Q
set_option maxRecDepth 20000 in
theorem E_X12_saysNumber {d : Nat} {v0 : Option Nm} {v1 : Int64} {h : MH} {u : Nat} {Q : MH → Prop} (H : F_X12_saysNumber d v0 v1 h u Q) : T u_X12_saysNumber (d + 1) 0 [some (jR v0), some (jL v1), none, none, none, none, none] [] h u (qV Q) := by
  unfold F_X12_saysNumber at H
  refine T_lload_n (pc := 0) dX12_saysNumber_0 rfl rfl ?_
  refine T_lconst (pc := 1) (v := 0) dX12_saysNumber_1 (by decide) ?_
  refine T_lcmp (pc := 2) dX12_saysNumber_2 ?_
  refine T_if_ge (pc := 3) (tgt := 10) dX12_saysNumber_3 (by decide) (fun hc => ?_) (fun hc => ?_)
  · rw [if_pos hc] at H
    refine T_lload_n (pc := 10) dX12_saysNumber_10 rfl rfl ?_
    refine T_lneg (pc := 11) dX12_saysNumber_11 ?_
    exact T.forget (E_X12_saysNumber_12 H) ⟨rfl, rfl, trivial⟩
  · rw [if_neg hc] at H
    refine T_lload_n (pc := 6) dX12_saysNumber_6 rfl rfl ?_
    refine T_goto (pc := 7) (tgt := 12) dX12_saysNumber_7 (by decide) ?_
    exact T.forget (E_X12_saysNumber_12 H) ⟨rfl, rfl, trivial⟩
def F_X12_saysNumber_30 (d : Nat) (v0 : Option Nm) (v3 : Int64) (v5 : Int64) (h : MH) (u : Nat) (Q : MH → Prop) : Prop :=
  if 0 < (lg_cmp (v3 / 10) v5) then
    L_X12_saysNumber_52 d v0 v3 v5 h u Q
  else
    L_X12_saysNumber_30 d v0 v3 (10 * v5) h u Q
set_option maxRecDepth 20000 in
theorem E_X12_saysNumber_30 {d : Nat} {v0 : Option Nm} {v3 : Int64} {v5 : Int64} {h : MH} {u : Nat} {Q : MH → Prop} (H : F_X12_saysNumber_30 d v0 v3 v5 h u Q) : T u_X12_saysNumber (d + 1) 30 [some (jR v0), none, none, some (jL v3), none, some (jL v5), none] [] h u (qV Q) := by
  unfold F_X12_saysNumber_30 at H
  refine T_lload_n (pc := 30) dX12_saysNumber_30 rfl rfl ?_
  refine T_ldc2 (pc := 31) (v := 10) dX12_saysNumber_31 c_6_163 ?_
  refine T_ldiv (pc := 34) dX12_saysNumber_34 (by decide) ?_
  refine T_lload (pc := 35) dX12_saysNumber_35 rfl ?_
  refine T_lcmp (pc := 37) dX12_saysNumber_37 ?_
  refine T_if_gt (pc := 38) (tgt := 52) dX12_saysNumber_38 (by decide) (fun hc => ?_) (fun hc => ?_)
  · rw [if_pos hc] at H
    exact T.forget H ⟨rfl, rfl, rfl, trivial⟩
  · rw [if_neg hc] at H
    refine T_ldc2 (pc := 41) (v := 10) dX12_saysNumber_41 c_6_163 ?_
    refine T_lload (pc := 44) dX12_saysNumber_44 rfl ?_
    refine T_lmul (pc := 46) dX12_saysNumber_46 ?_
    refine T_lstore (pc := 47) (ls2 := [some (jR v0), none, none, some (jL v3), none, some (jL (10 * v5)), none]) dX12_saysNumber_47 (Nat.le_of_ble_eq_true rfl) rfl ?_
    refine T_goto (pc := 49) (tgt := 30) dX12_saysNumber_49 (by decide) ?_
    exact T.forget H ⟨rfl, rfl, rfl, trivial⟩
def F_X12_saysNumber_52 (d : Nat) (v0 : Option Nm) (v3 : Int64) (v5 : Int64) (h : MH) (u : Nat) (Q : MH → Prop) : Prop :=
  if 0 ≤ (lg_cmp v5 0) then
    Q h
  else
    ¬ (-v5) = 0 ∧
    rc h v0 11 ∧ iV d u_X12_says [jR v0, jI ((48 - ((v3 / (-v5)) - (v3 / (-v5)) / 10 * 10)).toInt32)] h u fun h u =>
    L_X12_saysNumber_52 d v0 v3 (v5 / 10) h u Q
set_option maxRecDepth 20000 in
theorem E_X12_saysNumber_52 {d : Nat} {v0 : Option Nm} {v3 : Int64} {v5 : Int64} {h : MH} {u : Nat} {Q : MH → Prop} (H : F_X12_saysNumber_52 d v0 v3 v5 h u Q) : T u_X12_saysNumber (d + 1) 52 [some (jR v0), none, none, some (jL v3), none, some (jL v5), none] [] h u (qV Q) := by
  unfold F_X12_saysNumber_52 at H
  refine T_lload (pc := 52) dX12_saysNumber_52 rfl ?_
  refine T_lconst (pc := 54) (v := 0) dX12_saysNumber_54 (by decide) ?_
  refine T_lcmp (pc := 55) dX12_saysNumber_55 ?_
  refine T_if_ge (pc := 56) (tgt := 88) dX12_saysNumber_56 (by decide) (fun hc => ?_) (fun hc => ?_)
  · rw [if_pos hc] at H
    exact T_return (pc := 88) rfl dX12_saysNumber_88 H
  · rw [if_neg hc] at H
    refine T_aload_n (pc := 59) dX12_saysNumber_59 rfl rfl ?_
    refine T_ldc2 (pc := 60) (v := 48) dX12_saysNumber_60 c_6_164 ?_
    refine T_lload_n (pc := 63) dX12_saysNumber_63 rfl rfl ?_
    refine T_lload (pc := 64) dX12_saysNumber_64 rfl ?_
    refine T_lneg (pc := 66) dX12_saysNumber_66 ?_
    obtain ⟨H0, H⟩ := H
    refine T_ldiv (pc := 67) dX12_saysNumber_67 H0 ?_
    refine T_ldc2 (pc := 68) (v := 10) dX12_saysNumber_68 c_6_163 ?_
    refine T_lrem (pc := 71) dX12_saysNumber_71 (by decide) ?_
    refine T_lsub (pc := 72) dX12_saysNumber_72 ?_
    refine T_l2i (pc := 73) dX12_saysNumber_73 ?_
    obtain ⟨H0, H⟩ := H
    refine T_iV (pc := 74) (ci := 11) (av := [jI ((48 - ((v3 / (-v5)) - (v3 / (-v5)) / 10 * 10)).toInt32)]) (rest := []) (o := v0) dX12_saysNumber_74 mf_X12_says c_6_155 c_6_157 pr_X12_says rfl rfl (Nat.le_of_ble_eq_true rfl) rfl H0 (iV_k (iV_mono (fun h u H => ?_) H))
    refine T_lload (pc := 77) dX12_saysNumber_77 rfl ?_
    refine T_ldc2 (pc := 79) (v := 10) dX12_saysNumber_79 c_6_163 ?_
    refine T_ldiv (pc := 82) dX12_saysNumber_82 (by decide) ?_
    refine T_lstore (pc := 83) (ls2 := [some (jR v0), none, none, some (jL v3), none, some (jL (v5 / 10)), none]) dX12_saysNumber_83 (Nat.le_of_ble_eq_true rfl) rfl ?_
    refine T_goto (pc := 85) (tgt := 52) dX12_saysNumber_85 (by decide) ?_
    exact T.forget H ⟨rfl, rfl, rfl, trivial⟩
theorem I_X12_saysNumber {d : Nat} {v0 : Option Nm} {v1 : Int64} {h : MH} {u : Nat} {K : MH → Nat → Prop} (u1 : Nat) (hu : u1 ≤ u) (H : F_X12_saysNumber d v0 v1 h u1 (fun h2 => K h2 (u - u1))) : iV (d + 1) u_X12_saysNumber [jR v0, jL v1] h u K := inv.of u1 hu (Ct.of (by decide +kernel) rfl (Nat.le_of_ble_eq_true rfl) rfl (E_X12_saysNumber H))
theorem dX12_saysCell_0 : decode cX12_saysCell 0 = .ok (.iload_n 1, 1) := by decide +kernel
theorem dX12_saysCell_1 : decode cX12_saysCell 1 = .ok (.ifCond .ne 23, 3) := by decide +kernel
theorem dX12_saysCell_4 : decode cX12_saysCell 4 = .ok (.aload_n 0, 1) := by decide +kernel
theorem dX12_saysCell_5 : decode cX12_saysCell 5 = .ok (.lload_n 2, 1) := by decide +kernel
theorem dX12_saysCell_6 : decode cX12_saysCell 6 = .ok (.lconst 1, 1) := by decide +kernel
theorem dX12_saysCell_7 : decode cX12_saysCell 7 = .ok (.lcmp, 1) := by decide +kernel
theorem dX12_saysCell_8 : decode cX12_saysCell 8 = .ok (.ifCond .ne 8, 3) := by decide +kernel
theorem dX12_saysCell_11 : decode cX12_saysCell 11 = .ok (.bipush 116, 2) := by decide +kernel
theorem dX12_saysCell_13 : decode cX12_saysCell 13 = .ok (.goto 5, 3) := by decide +kernel
theorem dX12_saysCell_16 : decode cX12_saysCell 16 = .ok (.bipush 102, 2) := by decide +kernel
theorem dX12_saysCell_18 : decode cX12_saysCell 18 = .ok (.invokevirtual 326, 3) := by decide +kernel
theorem dX12_saysCell_21 : decode cX12_saysCell 21 = .ok (.goto 8, 3) := by decide +kernel
theorem dX12_saysCell_24 : decode cX12_saysCell 24 = .ok (.aload_n 0, 1) := by decide +kernel
theorem dX12_saysCell_25 : decode cX12_saysCell 25 = .ok (.lload_n 2, 1) := by decide +kernel
theorem dX12_saysCell_26 : decode cX12_saysCell 26 = .ok (.invokevirtual 333, 3) := by decide +kernel
theorem dX12_saysCell_29 : decode cX12_saysCell 29 = .ok (.return_, 1) := by decide +kernel
def F_X12_saysCell (d : Nat) (v0 : Option Nm) (v1 : Int32) (v2 : Int64) (h : MH) (u : Nat) (Q : MH → Prop) : Prop :=
  if v1 = 0 then
    if (lg_cmp v2 1) = 0 then
      rc h v0 11 ∧ iV d u_X12_says [jR v0, jI 116] h u fun h u =>
      Q h
    else
      rc h v0 11 ∧ iV d u_X12_says [jR v0, jI 102] h u fun h u =>
      Q h
  else
    rc h v0 11 ∧ iV d u_X12_saysNumber [jR v0, jL v2] h u fun h u =>
    Q h
set_option maxRecDepth 20000 in
theorem E_X12_saysCell {d : Nat} {v0 : Option Nm} {v1 : Int32} {v2 : Int64} {h : MH} {u : Nat} {Q : MH → Prop} (H : F_X12_saysCell d v0 v1 v2 h u Q) : T u_X12_saysCell (d + 1) 0 [some (jR v0), some (jI v1), some (jL v2), none] [] h u (qV Q) := by
  unfold F_X12_saysCell at H
  refine T_iload_n (pc := 0) dX12_saysCell_0 rfl rfl ?_
  refine T_if_ne (pc := 1) (tgt := 24) dX12_saysCell_1 (by decide) (fun hc => ?_) (fun hc => ?_)
  · rw [if_neg hc] at H
    refine T_aload_n (pc := 24) dX12_saysCell_24 rfl rfl ?_
    refine T_lload_n (pc := 25) dX12_saysCell_25 rfl rfl ?_
    obtain ⟨H0, H⟩ := H
    refine T_iV (pc := 26) (ci := 11) (av := [jL v2]) (rest := []) (o := v0) dX12_saysCell_26 mf_X12_saysNumber c_6_159 c_6_161 pr_X12_saysNumber rfl rfl (Nat.le_of_ble_eq_true rfl) rfl H0 (iV_k (iV_mono (fun h u H => ?_) H))
    exact T_return (pc := 29) rfl dX12_saysCell_29 H
  · rw [if_pos hc] at H
    refine T_aload_n (pc := 4) dX12_saysCell_4 rfl rfl ?_
    refine T_lload_n (pc := 5) dX12_saysCell_5 rfl rfl ?_
    refine T_lconst (pc := 6) (v := 1) dX12_saysCell_6 (by decide) ?_
    refine T_lcmp (pc := 7) dX12_saysCell_7 ?_
    refine T_if_ne (pc := 8) (tgt := 16) dX12_saysCell_8 (by decide) (fun hc => ?_) (fun hc => ?_)
    · rw [if_neg hc] at H
      refine T_bipush (pc := 16) (v := 102) dX12_saysCell_16 (by decide) ?_
      obtain ⟨H0, H⟩ := H
      refine T_iV (pc := 18) (ci := 11) (av := [jI 102]) (rest := []) (o := v0) dX12_saysCell_18 mf_X12_says c_6_155 c_6_157 pr_X12_says rfl rfl (Nat.le_of_ble_eq_true rfl) rfl H0 (iV_k (iV_mono (fun h u H => ?_) H))
      refine T_goto (pc := 21) (tgt := 29) dX12_saysCell_21 (by decide) ?_
      exact T_return (pc := 29) rfl dX12_saysCell_29 H
    · rw [if_pos hc] at H
      refine T_bipush (pc := 11) (v := 116) dX12_saysCell_11 (by decide) ?_
      refine T_goto (pc := 13) (tgt := 18) dX12_saysCell_13 (by decide) ?_
      obtain ⟨H0, H⟩ := H
      refine T_iV (pc := 18) (ci := 11) (av := [jI 116]) (rest := []) (o := v0) dX12_saysCell_18 mf_X12_says c_6_155 c_6_157 pr_X12_says rfl rfl (Nat.le_of_ble_eq_true rfl) rfl H0 (iV_k (iV_mono (fun h u H => ?_) H))
      refine T_goto (pc := 21) (tgt := 29) dX12_saysCell_21 (by decide) ?_
      exact T_return (pc := 29) rfl dX12_saysCell_29 H
theorem I_X12_saysCell {d : Nat} {v0 : Option Nm} {v1 : Int32} {v2 : Int64} {h : MH} {u : Nat} {K : MH → Nat → Prop} (u1 : Nat) (hu : u1 ≤ u) (H : F_X12_saysCell d v0 v1 v2 h u1 (fun h2 => K h2 (u - u1))) : iV (d + 1) u_X12_saysCell [jR v0, jI v1, jL v2] h u K := inv.of u1 hu (Ct.of (by decide +kernel) rfl (Nat.le_of_ble_eq_true rfl) rfl (E_X12_saysCell H))
theorem dX12_saysThing_0 : decode cX12_saysThing 0 = .ok (.iload_n 1, 1) := by decide +kernel
theorem dX12_saysThing_1 : decode cX12_saysThing 1 = .ok (.ifCond .ge 12, 3) := by decide +kernel
theorem dX12_saysThing_4 : decode cX12_saysThing 4 = .ok (.aload_n 0, 1) := by decide +kernel
theorem dX12_saysThing_5 : decode cX12_saysThing 5 = .ok (.bipush 33, 2) := by decide +kernel
theorem dX12_saysThing_7 : decode cX12_saysThing 7 = .ok (.invokevirtual 326, 3) := by decide +kernel
theorem dX12_saysThing_10 : decode cX12_saysThing 10 = .ok (.goto 54, 3) := by decide +kernel
theorem dX12_saysThing_13 : decode cX12_saysThing 13 = .ok (.aload_n 0, 1) := by decide +kernel
theorem dX12_saysThing_14 : decode cX12_saysThing 14 = .ok (.iload_n 1, 1) := by decide +kernel
theorem dX12_saysThing_15 : decode cX12_saysThing 15 = .ok (.invokevirtual 261, 3) := by decide +kernel
theorem dX12_saysThing_18 : decode cX12_saysThing 18 = .ok (.ifCond .eq 23, 3) := by decide +kernel
theorem dX12_saysThing_21 : decode cX12_saysThing 21 = .ok (.aload_n 0, 1) := by decide +kernel
theorem dX12_saysThing_22 : decode cX12_saysThing 22 = .ok (.bipush 35, 2) := by decide +kernel
theorem dX12_saysThing_24 : decode cX12_saysThing 24 = .ok (.invokevirtual 326, 3) := by decide +kernel
theorem dX12_saysThing_27 : decode cX12_saysThing 27 = .ok (.aload_n 0, 1) := by decide +kernel
theorem dX12_saysThing_28 : decode cX12_saysThing 28 = .ok (.aload_n 0, 1) := by decide +kernel
theorem dX12_saysThing_29 : decode cX12_saysThing 29 = .ok (.getfield 81, 3) := by decide +kernel
theorem dX12_saysThing_32 : decode cX12_saysThing 32 = .ok (.iload_n 1, 1) := by decide +kernel
theorem dX12_saysThing_33 : decode cX12_saysThing 33 = .ok (.iaload, 1) := by decide +kernel
theorem dX12_saysThing_34 : decode cX12_saysThing 34 = .ok (.i2l, 1) := by decide +kernel
theorem dX12_saysThing_35 : decode cX12_saysThing 35 = .ok (.invokevirtual 333, 3) := by decide +kernel
theorem dX12_saysThing_38 : decode cX12_saysThing 38 = .ok (.goto 26, 3) := by decide +kernel
theorem dX12_saysThing_41 : decode cX12_saysThing 41 = .ok (.aload_n 0, 1) := by decide +kernel
theorem dX12_saysThing_42 : decode cX12_saysThing 42 = .ok (.aload_n 0, 1) := by decide +kernel
theorem dX12_saysThing_43 : decode cX12_saysThing 43 = .ok (.getfield 66, 3) := by decide +kernel
theorem dX12_saysThing_46 : decode cX12_saysThing 46 = .ok (.iload_n 1, 1) := by decide +kernel
theorem dX12_saysThing_47 : decode cX12_saysThing 47 = .ok (.iaload, 1) := by decide +kernel
theorem dX12_saysThing_48 : decode cX12_saysThing 48 = .ok (.i2l, 1) := by decide +kernel
theorem dX12_saysThing_49 : decode cX12_saysThing 49 = .ok (.invokevirtual 333, 3) := by decide +kernel
theorem dX12_saysThing_52 : decode cX12_saysThing 52 = .ok (.aload_n 0, 1) := by decide +kernel
theorem dX12_saysThing_53 : decode cX12_saysThing 53 = .ok (.bipush 40, 2) := by decide +kernel
theorem dX12_saysThing_55 : decode cX12_saysThing 55 = .ok (.invokevirtual 326, 3) := by decide +kernel
theorem dX12_saysThing_58 : decode cX12_saysThing 58 = .ok (.aload_n 0, 1) := by decide +kernel
theorem dX12_saysThing_59 : decode cX12_saysThing 59 = .ok (.iload_n 1, 1) := by decide +kernel
theorem dX12_saysThing_60 : decode cX12_saysThing 60 = .ok (.iload_n 1, 1) := by decide +kernel
theorem dX12_saysThing_61 : decode cX12_saysThing 61 = .ok (.invokevirtual 277, 3) := by decide +kernel
theorem dX12_saysThing_64 : decode cX12_saysThing 64 = .ok (.return_, 1) := by decide +kernel
def F_X12_saysThing (d : Nat) (v0 : Option Nm) (v1 : Int32) (h : MH) (u : Nat) (Q : MH → Prop) : Prop :=
  if 0 ≤ v1 then
    rc h v0 11 ∧ iI d u_X12_isConstant [jR v0, jI v1] h u fun x1 h u =>
    if x1 = 0 then
      gR h v0 11 25 fun x2 =>
      aI .int h x2 v1 fun x3 =>
      rc h v0 11 ∧ iV d u_X12_saysNumber [jR v0, jL (x3.toInt64)] h u fun h u =>
      rc h v0 11 ∧ iV d u_X12_says [jR v0, jI 40] h u fun h u =>
      rc h v0 11 ∧ iV d u_X12_push [jR v0, jI v1, jI v1] h u fun h u =>
      Q h
    else
      rc h v0 11 ∧ iV d u_X12_says [jR v0, jI 35] h u fun h u =>
      gR h v0 11 30 fun x8 =>
      aI .int h x8 v1 fun x9 =>
      rc h v0 11 ∧ iV d u_X12_saysNumber [jR v0, jL (x9.toInt64)] h u fun h u =>
      Q h
  else
    rc h v0 11 ∧ iV d u_X12_says [jR v0, jI 33] h u fun h u =>
    Q h
set_option maxRecDepth 20000 in
theorem E_X12_saysThing {d : Nat} {v0 : Option Nm} {v1 : Int32} {h : MH} {u : Nat} {Q : MH → Prop} (H : F_X12_saysThing d v0 v1 h u Q) : T u_X12_saysThing (d + 1) 0 [some (jR v0), some (jI v1)] [] h u (qV Q) := by
  unfold F_X12_saysThing at H
  refine T_iload_n (pc := 0) dX12_saysThing_0 rfl rfl ?_
  refine T_if_ge (pc := 1) (tgt := 13) dX12_saysThing_1 (by decide) (fun hc => ?_) (fun hc => ?_)
  · rw [if_pos hc] at H
    refine T_aload_n (pc := 13) dX12_saysThing_13 rfl rfl ?_
    refine T_iload_n (pc := 14) dX12_saysThing_14 rfl rfl ?_
    obtain ⟨H0, H⟩ := H
    refine T_iV (pc := 15) (ci := 11) (av := [jI v1]) (rest := []) (o := v0) dX12_saysThing_15 mf_X12_isConstant c_6_34 c_6_36 pr_X12_isConstant rfl rfl (Nat.le_of_ble_eq_true rfl) rfl H0 (iI_k (iI_mono (fun x1 h u H => ?_) H))
    refine T_if_eq (pc := 18) (tgt := 41) dX12_saysThing_18 (by decide) (fun hc => ?_) (fun hc => ?_)
    · rw [if_pos hc] at H
      refine T_aload_n (pc := 41) dX12_saysThing_41 rfl rfl ?_
      refine T_aload_n (pc := 42) dX12_saysThing_42 rfl rfl ?_
      refine T_gR (pc := 43) fa_X12_66 dX12_saysThing_43 (gR_mono (fun x2 H => ?_) H)
      refine T_iload_n (pc := 46) dX12_saysThing_46 rfl rfl ?_
      refine T_aI (pc := 47) dX12_saysThing_47 (aI_mono (fun x3 H => ?_) H)
      refine T_i2l (pc := 48) dX12_saysThing_48 ?_
      obtain ⟨H0, H⟩ := H
      refine T_iV (pc := 49) (ci := 11) (av := [jL (x3.toInt64)]) (rest := []) (o := v0) dX12_saysThing_49 mf_X12_saysNumber c_6_159 c_6_161 pr_X12_saysNumber rfl rfl (Nat.le_of_ble_eq_true rfl) rfl H0 (iV_k (iV_mono (fun h u H => ?_) H))
      refine T_aload_n (pc := 52) dX12_saysThing_52 rfl rfl ?_
      refine T_bipush (pc := 53) (v := 40) dX12_saysThing_53 (by decide) ?_
      obtain ⟨H0, H⟩ := H
      refine T_iV (pc := 55) (ci := 11) (av := [jI 40]) (rest := []) (o := v0) dX12_saysThing_55 mf_X12_says c_6_155 c_6_157 pr_X12_says rfl rfl (Nat.le_of_ble_eq_true rfl) rfl H0 (iV_k (iV_mono (fun h u H => ?_) H))
      refine T_aload_n (pc := 58) dX12_saysThing_58 rfl rfl ?_
      refine T_iload_n (pc := 59) dX12_saysThing_59 rfl rfl ?_
      refine T_iload_n (pc := 60) dX12_saysThing_60 rfl rfl ?_
      obtain ⟨H0, H⟩ := H
      refine T_iV (pc := 61) (ci := 11) (av := [jI v1, jI v1]) (rest := []) (o := v0) dX12_saysThing_61 mf_X12_push c_6_86 c_6_88 pr_X12_push rfl rfl (Nat.le_of_ble_eq_true rfl) rfl H0 (iV_k (iV_mono (fun h u H => ?_) H))
      exact T_return (pc := 64) rfl dX12_saysThing_64 H
    · rw [if_neg hc] at H
      refine T_aload_n (pc := 21) dX12_saysThing_21 rfl rfl ?_
      refine T_bipush (pc := 22) (v := 35) dX12_saysThing_22 (by decide) ?_
      obtain ⟨H0, H⟩ := H
      refine T_iV (pc := 24) (ci := 11) (av := [jI 35]) (rest := []) (o := v0) dX12_saysThing_24 mf_X12_says c_6_155 c_6_157 pr_X12_says rfl rfl (Nat.le_of_ble_eq_true rfl) rfl H0 (iV_k (iV_mono (fun h u H => ?_) H))
      refine T_aload_n (pc := 27) dX12_saysThing_27 rfl rfl ?_
      refine T_aload_n (pc := 28) dX12_saysThing_28 rfl rfl ?_
      refine T_gR (pc := 29) fa_X12_81 dX12_saysThing_29 (gR_mono (fun x8 H => ?_) H)
      refine T_iload_n (pc := 32) dX12_saysThing_32 rfl rfl ?_
      refine T_aI (pc := 33) dX12_saysThing_33 (aI_mono (fun x9 H => ?_) H)
      refine T_i2l (pc := 34) dX12_saysThing_34 ?_
      obtain ⟨H0, H⟩ := H
      refine T_iV (pc := 35) (ci := 11) (av := [jL (x9.toInt64)]) (rest := []) (o := v0) dX12_saysThing_35 mf_X12_saysNumber c_6_159 c_6_161 pr_X12_saysNumber rfl rfl (Nat.le_of_ble_eq_true rfl) rfl H0 (iV_k (iV_mono (fun h u H => ?_) H))
      refine T_goto (pc := 38) (tgt := 64) dX12_saysThing_38 (by decide) ?_
      exact T_return (pc := 64) rfl dX12_saysThing_64 H
  · rw [if_neg hc] at H
    refine T_aload_n (pc := 4) dX12_saysThing_4 rfl rfl ?_
    refine T_bipush (pc := 5) (v := 33) dX12_saysThing_5 (by decide) ?_
    obtain ⟨H0, H⟩ := H
    refine T_iV (pc := 7) (ci := 11) (av := [jI 33]) (rest := []) (o := v0) dX12_saysThing_7 mf_X12_says c_6_155 c_6_157 pr_X12_says rfl rfl (Nat.le_of_ble_eq_true rfl) rfl H0 (iV_k (iV_mono (fun h u H => ?_) H))
    refine T_goto (pc := 10) (tgt := 64) dX12_saysThing_10 (by decide) ?_
    exact T_return (pc := 64) rfl dX12_saysThing_64 H
theorem I_X12_saysThing {d : Nat} {v0 : Option Nm} {v1 : Int32} {h : MH} {u : Nat} {K : MH → Nat → Prop} (u1 : Nat) (hu : u1 ≤ u) (H : F_X12_saysThing d v0 v1 h u1 (fun h2 => K h2 (u - u1))) : iV (d + 1) u_X12_saysThing [jR v0, jI v1] h u K := inv.of u1 hu (Ct.of (by decide +kernel) rfl (Nat.le_of_ble_eq_true rfl) rfl (E_X12_saysThing H))
theorem dX12_saysRow_0 : decode cX12_saysRow 0 = .ok (.aload_n 0, 1) := by decide +kernel
theorem dX12_saysRow_1 : decode cX12_saysRow 1 = .ok (.bipush 91, 2) := by decide +kernel
theorem dX12_saysRow_3 : decode cX12_saysRow 3 = .ok (.invokevirtual 326, 3) := by decide +kernel
theorem dX12_saysRow_6 : decode cX12_saysRow 6 = .ok (.iconst 0, 1) := by decide +kernel
theorem dX12_saysRow_7 : decode cX12_saysRow 7 = .ok (.istore_n 2, 1) := by decide +kernel
theorem dX12_saysRow_8 : decode cX12_saysRow 8 = .ok (.iload_n 2, 1) := by decide +kernel
theorem dX12_saysRow_9 : decode cX12_saysRow 9 = .ok (.aload_n 0, 1) := by decide +kernel
theorem dX12_saysRow_10 : decode cX12_saysRow 10 = .ok (.getfield 13, 3) := by decide +kernel
theorem dX12_saysRow_13 : decode cX12_saysRow 13 = .ok (.iload_n 1, 1) := by decide +kernel
theorem dX12_saysRow_14 : decode cX12_saysRow 14 = .ok (.iaload, 1) := by decide +kernel
theorem dX12_saysRow_15 : decode cX12_saysRow 15 = .ok (.if_icmp .ge 40, 3) := by decide +kernel
theorem dX12_saysRow_18 : decode cX12_saysRow 18 = .ok (.iload_n 2, 1) := by decide +kernel
theorem dX12_saysRow_19 : decode cX12_saysRow 19 = .ok (.ifCond .le 9, 3) := by decide +kernel
theorem dX12_saysRow_22 : decode cX12_saysRow 22 = .ok (.aload_n 0, 1) := by decide +kernel
theorem dX12_saysRow_23 : decode cX12_saysRow 23 = .ok (.bipush 32, 2) := by decide +kernel
theorem dX12_saysRow_25 : decode cX12_saysRow 25 = .ok (.invokevirtual 326, 3) := by decide +kernel
theorem dX12_saysRow_28 : decode cX12_saysRow 28 = .ok (.aload_n 0, 1) := by decide +kernel
theorem dX12_saysRow_29 : decode cX12_saysRow 29 = .ok (.aload_n 0, 1) := by decide +kernel
theorem dX12_saysRow_30 : decode cX12_saysRow 30 = .ok (.getfield 7, 3) := by decide +kernel
theorem dX12_saysRow_33 : decode cX12_saysRow 33 = .ok (.iload_n 1, 1) := by decide +kernel
theorem dX12_saysRow_34 : decode cX12_saysRow 34 = .ok (.iaload, 1) := by decide +kernel
theorem dX12_saysRow_35 : decode cX12_saysRow 35 = .ok (.aload_n 0, 1) := by decide +kernel
theorem dX12_saysRow_36 : decode cX12_saysRow 36 = .ok (.getfield 20, 3) := by decide +kernel
theorem dX12_saysRow_39 : decode cX12_saysRow 39 = .ok (.bipush 20, 2) := by decide +kernel
theorem dX12_saysRow_41 : decode cX12_saysRow 41 = .ok (.iload_n 1, 1) := by decide +kernel
theorem dX12_saysRow_42 : decode cX12_saysRow 42 = .ok (.imul, 1) := by decide +kernel
theorem dX12_saysRow_43 : decode cX12_saysRow 43 = .ok (.iload_n 2, 1) := by decide +kernel
theorem dX12_saysRow_44 : decode cX12_saysRow 44 = .ok (.iadd, 1) := by decide +kernel
theorem dX12_saysRow_45 : decode cX12_saysRow 45 = .ok (.laload, 1) := by decide +kernel
theorem dX12_saysRow_46 : decode cX12_saysRow 46 = .ok (.invokevirtual 336, 3) := by decide +kernel
theorem dX12_saysRow_49 : decode cX12_saysRow 49 = .ok (.iinc 2 1, 3) := by decide +kernel
theorem dX12_saysRow_52 : decode cX12_saysRow 52 = .ok (.goto (-44), 3) := by decide +kernel
theorem dX12_saysRow_55 : decode cX12_saysRow 55 = .ok (.aload_n 0, 1) := by decide +kernel
theorem dX12_saysRow_56 : decode cX12_saysRow 56 = .ok (.bipush 93, 2) := by decide +kernel
theorem dX12_saysRow_58 : decode cX12_saysRow 58 = .ok (.invokevirtual 326, 3) := by decide +kernel
theorem dX12_saysRow_61 : decode cX12_saysRow 61 = .ok (.return_, 1) := by decide +kernel
def L_X12_saysRow_8 (d : Nat) (v0 : Option Nm) (v1 : Int32) (v2 : Int32) (h : MH) (u : Nat) (Q : MH → Prop) : Prop := T u_X12_saysRow (d + 1) 8 [some (jR v0), some (jI v1), some (jI v2)] [] h u (qV Q)
def F_X12_saysRow (d : Nat) (v0 : Option Nm) (v1 : Int32) (h : MH) (u : Nat) (Q : MH → Prop) : Prop :=
  rc h v0 11 ∧ iV d u_X12_says [jR v0, jI 91] h u fun h u =>
  L_X12_saysRow_8 d v0 v1 0 h u Q
set_option maxRecDepth 20000 in
theorem E_X12_saysRow {d : Nat} {v0 : Option Nm} {v1 : Int32} {h : MH} {u : Nat} {Q : MH → Prop} (H : F_X12_saysRow d v0 v1 h u Q) : T u_X12_saysRow (d + 1) 0 [some (jR v0), some (jI v1), none] [] h u (qV Q) := by
  unfold F_X12_saysRow at H
  refine T_aload_n (pc := 0) dX12_saysRow_0 rfl rfl ?_
  refine T_bipush (pc := 1) (v := 91) dX12_saysRow_1 (by decide) ?_
  obtain ⟨H0, H⟩ := H
  refine T_iV (pc := 3) (ci := 11) (av := [jI 91]) (rest := []) (o := v0) dX12_saysRow_3 mf_X12_says c_6_155 c_6_157 pr_X12_says rfl rfl (Nat.le_of_ble_eq_true rfl) rfl H0 (iV_k (iV_mono (fun h u H => ?_) H))
  refine T_iconst (pc := 6) (v := 0) dX12_saysRow_6 (by decide) ?_
  refine T_istore_n (pc := 7) (ls2 := [some (jR v0), some (jI v1), some (jI 0)]) dX12_saysRow_7 rfl (Nat.le_of_ble_eq_true rfl) rfl ?_
  exact T.forget H ⟨rfl, rfl, rfl, trivial⟩
def F_X12_saysRow_28 (d : Nat) (v0 : Option Nm) (v1 : Int32) (v2 : Int32) (h : MH) (u : Nat) (Q : MH → Prop) : Prop :=
  gR h v0 11 4 fun x1 =>
  aI .int h x1 v1 fun x2 =>
  gR h v0 11 7 fun x3 =>
  aL h x3 ((20 * v1) + v2) fun x4 =>
  rc h v0 11 ∧ iV d u_X12_saysCell [jR v0, jI x2, jL x4] h u fun h u =>
  L_X12_saysRow_8 d v0 v1 (v2 + 1) h u Q
set_option maxRecDepth 20000 in
theorem E_X12_saysRow_28 {d : Nat} {v0 : Option Nm} {v1 : Int32} {v2 : Int32} {h : MH} {u : Nat} {Q : MH → Prop} (H : F_X12_saysRow_28 d v0 v1 v2 h u Q) : T u_X12_saysRow (d + 1) 28 [some (jR v0), some (jI v1), some (jI v2)] [] h u (qV Q) := by
  unfold F_X12_saysRow_28 at H
  refine T_aload_n (pc := 28) dX12_saysRow_28 rfl rfl ?_
  refine T_aload_n (pc := 29) dX12_saysRow_29 rfl rfl ?_
  refine T_gR (pc := 30) fa_X12_7 dX12_saysRow_30 (gR_mono (fun x1 H => ?_) H)
  refine T_iload_n (pc := 33) dX12_saysRow_33 rfl rfl ?_
  refine T_aI (pc := 34) dX12_saysRow_34 (aI_mono (fun x2 H => ?_) H)
  refine T_aload_n (pc := 35) dX12_saysRow_35 rfl rfl ?_
  refine T_gR (pc := 36) fa_X12_20 dX12_saysRow_36 (gR_mono (fun x3 H => ?_) H)
  refine T_bipush (pc := 39) (v := 20) dX12_saysRow_39 (by decide) ?_
  refine T_iload_n (pc := 41) dX12_saysRow_41 rfl rfl ?_
  refine T_imul (pc := 42) dX12_saysRow_42 ?_
  refine T_iload_n (pc := 43) dX12_saysRow_43 rfl rfl ?_
  refine T_iadd (pc := 44) dX12_saysRow_44 ?_
  refine T_aL (pc := 45) dX12_saysRow_45 (aL_mono (fun x4 H => ?_) H)
  obtain ⟨H0, H⟩ := H
  refine T_iV (pc := 46) (ci := 11) (av := [jI x2, jL x4]) (rest := []) (o := v0) dX12_saysRow_46 mf_X12_saysCell c_6_169 c_6_171 pr_X12_saysCell rfl rfl (Nat.le_of_ble_eq_true rfl) rfl H0 (iV_k (iV_mono (fun h u H => ?_) H))
  refine T_iinc (pc := 49) (v := v2 + 1) (ls2 := [some (jR v0), some (jI v1), some (jI (v2 + 1))]) dX12_saysRow_49 rfl rfl (Nat.le_of_ble_eq_true rfl) rfl ?_
  refine T_goto (pc := 52) (tgt := 8) dX12_saysRow_52 (by decide) ?_
  exact T.forget H ⟨rfl, rfl, rfl, trivial⟩
def F_X12_saysRow_8 (d : Nat) (v0 : Option Nm) (v1 : Int32) (v2 : Int32) (h : MH) (u : Nat) (Q : MH → Prop) : Prop :=
  gR h v0 11 5 fun x1 =>
  aI .int h x1 v1 fun x2 =>
  if x2 ≤ v2 then
    rc h v0 11 ∧ iV d u_X12_says [jR v0, jI 93] h u fun h u =>
    Q h
  else
    if v2 ≤ 0 then
      F_X12_saysRow_28 d v0 v1 v2 h u Q
    else
      rc h v0 11 ∧ iV d u_X12_says [jR v0, jI 32] h u fun h u =>
      F_X12_saysRow_28 d v0 v1 v2 h u Q
set_option maxRecDepth 20000 in
theorem E_X12_saysRow_8 {d : Nat} {v0 : Option Nm} {v1 : Int32} {v2 : Int32} {h : MH} {u : Nat} {Q : MH → Prop} (H : F_X12_saysRow_8 d v0 v1 v2 h u Q) : T u_X12_saysRow (d + 1) 8 [some (jR v0), some (jI v1), some (jI v2)] [] h u (qV Q) := by
  unfold F_X12_saysRow_8 at H
  refine T_iload_n (pc := 8) dX12_saysRow_8 rfl rfl ?_
  refine T_aload_n (pc := 9) dX12_saysRow_9 rfl rfl ?_
  refine T_gR (pc := 10) fa_X12_13 dX12_saysRow_10 (gR_mono (fun x1 H => ?_) H)
  refine T_iload_n (pc := 13) dX12_saysRow_13 rfl rfl ?_
  refine T_aI (pc := 14) dX12_saysRow_14 (aI_mono (fun x2 H => ?_) H)
  refine T_icmp_ge (pc := 15) (tgt := 55) dX12_saysRow_15 (by decide) (fun hc => ?_) (fun hc => ?_)
  · rw [if_pos hc] at H
    refine T_aload_n (pc := 55) dX12_saysRow_55 rfl rfl ?_
    refine T_bipush (pc := 56) (v := 93) dX12_saysRow_56 (by decide) ?_
    obtain ⟨H0, H⟩ := H
    refine T_iV (pc := 58) (ci := 11) (av := [jI 93]) (rest := []) (o := v0) dX12_saysRow_58 mf_X12_says c_6_155 c_6_157 pr_X12_says rfl rfl (Nat.le_of_ble_eq_true rfl) rfl H0 (iV_k (iV_mono (fun h u H => ?_) H))
    exact T_return (pc := 61) rfl dX12_saysRow_61 H
  · rw [if_neg hc] at H
    refine T_iload_n (pc := 18) dX12_saysRow_18 rfl rfl ?_
    refine T_if_le (pc := 19) (tgt := 28) dX12_saysRow_19 (by decide) (fun hc => ?_) (fun hc => ?_)
    · rw [if_pos hc] at H
      exact T.forget (E_X12_saysRow_28 H) ⟨rfl, rfl, rfl, trivial⟩
    · rw [if_neg hc] at H
      refine T_aload_n (pc := 22) dX12_saysRow_22 rfl rfl ?_
      refine T_bipush (pc := 23) (v := 32) dX12_saysRow_23 (by decide) ?_
      obtain ⟨H0, H⟩ := H
      refine T_iV (pc := 25) (ci := 11) (av := [jI 32]) (rest := []) (o := v0) dX12_saysRow_25 mf_X12_says c_6_155 c_6_157 pr_X12_says rfl rfl (Nat.le_of_ble_eq_true rfl) rfl H0 (iV_k (iV_mono (fun h u H => ?_) H))
      exact T.forget (E_X12_saysRow_28 H) ⟨rfl, rfl, rfl, trivial⟩
theorem I_X12_saysRow {d : Nat} {v0 : Option Nm} {v1 : Int32} {h : MH} {u : Nat} {K : MH → Nat → Prop} (u1 : Nat) (hu : u1 ≤ u) (H : F_X12_saysRow d v0 v1 h u1 (fun h2 => K h2 (u - u1))) : iV (d + 1) u_X12_saysRow [jR v0, jI v1] h u K := inv.of u1 hu (Ct.of (by decide +kernel) rfl (Nat.le_of_ble_eq_true rfl) rfl (E_X12_saysRow H))
theorem dX12_saysNext_0 : decode cX12_saysNext 0 = .ok (.aload_n 0, 1) := by decide +kernel
theorem dX12_saysNext_1 : decode cX12_saysNext 1 = .ok (.getfield 96, 3) := by decide +kernel
theorem dX12_saysNext_4 : decode cX12_saysNext 4 = .ok (.iload_n 1, 1) := by decide +kernel
theorem dX12_saysNext_5 : decode cX12_saysNext 5 = .ok (.iaload, 1) := by decide +kernel
theorem dX12_saysNext_6 : decode cX12_saysNext 6 = .ok (.istore_n 2, 1) := by decide +kernel
theorem dX12_saysNext_7 : decode cX12_saysNext 7 = .ok (.aload_n 0, 1) := by decide +kernel
theorem dX12_saysNext_8 : decode cX12_saysNext 8 = .ok (.getfield 90, 3) := by decide +kernel
theorem dX12_saysNext_11 : decode cX12_saysNext 11 = .ok (.iload_n 1, 1) := by decide +kernel
theorem dX12_saysNext_12 : decode cX12_saysNext 12 = .ok (.iaload, 1) := by decide +kernel
theorem dX12_saysNext_13 : decode cX12_saysNext 13 = .ok (.istore_n 3, 1) := by decide +kernel
theorem dX12_saysNext_14 : decode cX12_saysNext 14 = .ok (.aload_n 0, 1) := by decide +kernel
theorem dX12_saysNext_15 : decode cX12_saysNext 15 = .ok (.getfield 99, 3) := by decide +kernel
theorem dX12_saysNext_18 : decode cX12_saysNext 18 = .ok (.iload_n 1, 1) := by decide +kernel
theorem dX12_saysNext_19 : decode cX12_saysNext 19 = .ok (.iaload, 1) := by decide +kernel
theorem dX12_saysNext_20 : decode cX12_saysNext 20 = .ok (.ifCond .lt 101, 3) := by decide +kernel
theorem dX12_saysNext_23 : decode cX12_saysNext 23 = .ok (.aload_n 0, 1) := by decide +kernel
theorem dX12_saysNext_24 : decode cX12_saysNext 24 = .ok (.getfield 84, 3) := by decide +kernel
theorem dX12_saysNext_27 : decode cX12_saysNext 27 = .ok (.bipush 6, 2) := by decide +kernel
theorem dX12_saysNext_29 : decode cX12_saysNext 29 = .ok (.iload_n 3, 1) := by decide +kernel
theorem dX12_saysNext_30 : decode cX12_saysNext 30 = .ok (.imul, 1) := by decide +kernel
theorem dX12_saysNext_31 : decode cX12_saysNext 31 = .ok (.iload_n 2, 1) := by decide +kernel
theorem dX12_saysNext_32 : decode cX12_saysNext 32 = .ok (.iadd, 1) := by decide +kernel
theorem dX12_saysNext_33 : decode cX12_saysNext 33 = .ok (.laload, 1) := by decide +kernel
theorem dX12_saysNext_34 : decode cX12_saysNext 34 = .ok (.l2i, 1) := by decide +kernel
theorem dX12_saysNext_35 : decode cX12_saysNext 35 = .ok (.istore 4, 2) := by decide +kernel
theorem dX12_saysNext_37 : decode cX12_saysNext 37 = .ok (.aload_n 0, 1) := by decide +kernel
theorem dX12_saysNext_38 : decode cX12_saysNext 38 = .ok (.getfield 99, 3) := by decide +kernel
theorem dX12_saysNext_41 : decode cX12_saysNext 41 = .ok (.iload_n 1, 1) := by decide +kernel
theorem dX12_saysNext_42 : decode cX12_saysNext 42 = .ok (.iaload, 1) := by decide +kernel
theorem dX12_saysNext_43 : decode cX12_saysNext 43 = .ok (.istore 5, 2) := by decide +kernel
theorem dX12_saysNext_45 : decode cX12_saysNext 45 = .ok (.iload 5, 2) := by decide +kernel
theorem dX12_saysNext_47 : decode cX12_saysNext 47 = .ok (.aload_n 0, 1) := by decide +kernel
theorem dX12_saysNext_48 : decode cX12_saysNext 48 = .ok (.getfield 13, 3) := by decide +kernel
theorem dX12_saysNext_51 : decode cX12_saysNext 51 = .ok (.iload 4, 2) := by decide +kernel
theorem dX12_saysNext_53 : decode cX12_saysNext 53 = .ok (.iaload, 1) := by decide +kernel
theorem dX12_saysNext_54 : decode cX12_saysNext 54 = .ok (.if_icmp .ne 27, 3) := by decide +kernel
theorem dX12_saysNext_57 : decode cX12_saysNext 57 = .ok (.aload_n 0, 1) := by decide +kernel
theorem dX12_saysNext_58 : decode cX12_saysNext 58 = .ok (.bipush 93, 2) := by decide +kernel
theorem dX12_saysNext_60 : decode cX12_saysNext 60 = .ok (.invokevirtual 326, 3) := by decide +kernel
theorem dX12_saysNext_63 : decode cX12_saysNext 63 = .ok (.aload_n 0, 1) := by decide +kernel
theorem dX12_saysNext_64 : decode cX12_saysNext 64 = .ok (.getfield 99, 3) := by decide +kernel
theorem dX12_saysNext_67 : decode cX12_saysNext 67 = .ok (.iload_n 1, 1) := by decide +kernel
theorem dX12_saysNext_68 : decode cX12_saysNext 68 = .ok (.iconst (-1), 1) := by decide +kernel
theorem dX12_saysNext_69 : decode cX12_saysNext 69 = .ok (.iastore, 1) := by decide +kernel
theorem dX12_saysNext_70 : decode cX12_saysNext 70 = .ok (.aload_n 0, 1) := by decide +kernel
theorem dX12_saysNext_71 : decode cX12_saysNext 71 = .ok (.getfield 96, 3) := by decide +kernel
theorem dX12_saysNext_74 : decode cX12_saysNext 74 = .ok (.iload_n 1, 1) := by decide +kernel
theorem dX12_saysNext_75 : decode cX12_saysNext 75 = .ok (.dup2, 1) := by decide +kernel
theorem dX12_saysNext_76 : decode cX12_saysNext 76 = .ok (.iaload, 1) := by decide +kernel
theorem dX12_saysNext_77 : decode cX12_saysNext 77 = .ok (.iconst 1, 1) := by decide +kernel
theorem dX12_saysNext_78 : decode cX12_saysNext 78 = .ok (.iadd, 1) := by decide +kernel
theorem dX12_saysNext_79 : decode cX12_saysNext 79 = .ok (.iastore, 1) := by decide +kernel
theorem dX12_saysNext_80 : decode cX12_saysNext 80 = .ok (.return_, 1) := by decide +kernel
theorem dX12_saysNext_81 : decode cX12_saysNext 81 = .ok (.iload 5, 2) := by decide +kernel
theorem dX12_saysNext_83 : decode cX12_saysNext 83 = .ok (.ifCond .le 9, 3) := by decide +kernel
theorem dX12_saysNext_86 : decode cX12_saysNext 86 = .ok (.aload_n 0, 1) := by decide +kernel
theorem dX12_saysNext_87 : decode cX12_saysNext 87 = .ok (.bipush 32, 2) := by decide +kernel
theorem dX12_saysNext_89 : decode cX12_saysNext 89 = .ok (.invokevirtual 326, 3) := by decide +kernel
theorem dX12_saysNext_92 : decode cX12_saysNext 92 = .ok (.aload_n 0, 1) := by decide +kernel
theorem dX12_saysNext_93 : decode cX12_saysNext 93 = .ok (.getfield 99, 3) := by decide +kernel
theorem dX12_saysNext_96 : decode cX12_saysNext 96 = .ok (.iload_n 1, 1) := by decide +kernel
theorem dX12_saysNext_97 : decode cX12_saysNext 97 = .ok (.dup2, 1) := by decide +kernel
theorem dX12_saysNext_98 : decode cX12_saysNext 98 = .ok (.iaload, 1) := by decide +kernel
theorem dX12_saysNext_99 : decode cX12_saysNext 99 = .ok (.iconst 1, 1) := by decide +kernel
theorem dX12_saysNext_100 : decode cX12_saysNext 100 = .ok (.iadd, 1) := by decide +kernel
theorem dX12_saysNext_101 : decode cX12_saysNext 101 = .ok (.iastore, 1) := by decide +kernel
theorem dX12_saysNext_102 : decode cX12_saysNext 102 = .ok (.aload_n 0, 1) := by decide +kernel
theorem dX12_saysNext_103 : decode cX12_saysNext 103 = .ok (.aload_n 0, 1) := by decide +kernel
theorem dX12_saysNext_104 : decode cX12_saysNext 104 = .ok (.getfield 20, 3) := by decide +kernel
theorem dX12_saysNext_107 : decode cX12_saysNext 107 = .ok (.bipush 20, 2) := by decide +kernel
theorem dX12_saysNext_109 : decode cX12_saysNext 109 = .ok (.iload 4, 2) := by decide +kernel
theorem dX12_saysNext_111 : decode cX12_saysNext 111 = .ok (.imul, 1) := by decide +kernel
theorem dX12_saysNext_112 : decode cX12_saysNext 112 = .ok (.iload 5, 2) := by decide +kernel
theorem dX12_saysNext_114 : decode cX12_saysNext 114 = .ok (.iadd, 1) := by decide +kernel
theorem dX12_saysNext_115 : decode cX12_saysNext 115 = .ok (.laload, 1) := by decide +kernel
theorem dX12_saysNext_116 : decode cX12_saysNext 116 = .ok (.l2i, 1) := by decide +kernel
theorem dX12_saysNext_117 : decode cX12_saysNext 117 = .ok (.invokevirtual 340, 3) := by decide +kernel
theorem dX12_saysNext_120 : decode cX12_saysNext 120 = .ok (.return_, 1) := by decide +kernel
theorem dX12_saysNext_121 : decode cX12_saysNext 121 = .ok (.iload_n 2, 1) := by decide +kernel
theorem dX12_saysNext_122 : decode cX12_saysNext 122 = .ok (.aload_n 0, 1) := by decide +kernel
theorem dX12_saysNext_123 : decode cX12_saysNext 123 = .ok (.iload_n 3, 1) := by decide +kernel
theorem dX12_saysNext_124 : decode cX12_saysNext 124 = .ok (.invokevirtual 264, 3) := by decide +kernel
theorem dX12_saysNext_127 : decode cX12_saysNext 127 = .ok (.if_icmp .ne 20, 3) := by decide +kernel
theorem dX12_saysNext_130 : decode cX12_saysNext 130 = .ok (.aload_n 0, 1) := by decide +kernel
theorem dX12_saysNext_131 : decode cX12_saysNext 131 = .ok (.bipush 41, 2) := by decide +kernel
theorem dX12_saysNext_133 : decode cX12_saysNext 133 = .ok (.invokevirtual 326, 3) := by decide +kernel
theorem dX12_saysNext_136 : decode cX12_saysNext 136 = .ok (.aload_n 0, 1) := by decide +kernel
theorem dX12_saysNext_137 : decode cX12_saysNext 137 = .ok (.dup, 1) := by decide +kernel
theorem dX12_saysNext_138 : decode cX12_saysNext 138 = .ok (.getfield 271, 3) := by decide +kernel
theorem dX12_saysNext_141 : decode cX12_saysNext 141 = .ok (.iconst 1, 1) := by decide +kernel
theorem dX12_saysNext_142 : decode cX12_saysNext 142 = .ok (.isub, 1) := by decide +kernel
theorem dX12_saysNext_143 : decode cX12_saysNext 143 = .ok (.putfield 271, 3) := by decide +kernel
theorem dX12_saysNext_146 : decode cX12_saysNext 146 = .ok (.return_, 1) := by decide +kernel
theorem dX12_saysNext_147 : decode cX12_saysNext 147 = .ok (.iload_n 2, 1) := by decide +kernel
theorem dX12_saysNext_148 : decode cX12_saysNext 148 = .ok (.ifCond .le 9, 3) := by decide +kernel
theorem dX12_saysNext_151 : decode cX12_saysNext 151 = .ok (.aload_n 0, 1) := by decide +kernel
theorem dX12_saysNext_152 : decode cX12_saysNext 152 = .ok (.bipush 44, 2) := by decide +kernel
theorem dX12_saysNext_154 : decode cX12_saysNext 154 = .ok (.invokevirtual 326, 3) := by decide +kernel
theorem dX12_saysNext_157 : decode cX12_saysNext 157 = .ok (.aload_n 0, 1) := by decide +kernel
theorem dX12_saysNext_158 : decode cX12_saysNext 158 = .ok (.aload_n 0, 1) := by decide +kernel
theorem dX12_saysNext_159 : decode cX12_saysNext 159 = .ok (.getfield 45, 3) := by decide +kernel
theorem dX12_saysNext_162 : decode cX12_saysNext 162 = .ok (.bipush 8, 2) := by decide +kernel
theorem dX12_saysNext_164 : decode cX12_saysNext 164 = .ok (.aload_n 0, 1) := by decide +kernel
theorem dX12_saysNext_165 : decode cX12_saysNext 165 = .ok (.iload_n 3, 1) := by decide +kernel
theorem dX12_saysNext_166 : decode cX12_saysNext 166 = .ok (.invokevirtual 231, 3) := by decide +kernel
theorem dX12_saysNext_169 : decode cX12_saysNext 169 = .ok (.imul, 1) := by decide +kernel
theorem dX12_saysNext_170 : decode cX12_saysNext 170 = .ok (.iload_n 2, 1) := by decide +kernel
theorem dX12_saysNext_171 : decode cX12_saysNext 171 = .ok (.iadd, 1) := by decide +kernel
theorem dX12_saysNext_172 : decode cX12_saysNext 172 = .ok (.iaload, 1) := by decide +kernel
theorem dX12_saysNext_173 : decode cX12_saysNext 173 = .ok (.i2l, 1) := by decide +kernel
theorem dX12_saysNext_174 : decode cX12_saysNext 174 = .ok (.invokevirtual 333, 3) := by decide +kernel
theorem dX12_saysNext_177 : decode cX12_saysNext 177 = .ok (.aload_n 0, 1) := by decide +kernel
theorem dX12_saysNext_178 : decode cX12_saysNext 178 = .ok (.bipush 61, 2) := by decide +kernel
theorem dX12_saysNext_180 : decode cX12_saysNext 180 = .ok (.invokevirtual 326, 3) := by decide +kernel
theorem dX12_saysNext_183 : decode cX12_saysNext 183 = .ok (.aload_n 0, 1) := by decide +kernel
theorem dX12_saysNext_184 : decode cX12_saysNext 184 = .ok (.getfield 84, 3) := by decide +kernel
theorem dX12_saysNext_187 : decode cX12_saysNext 187 = .ok (.bipush 6, 2) := by decide +kernel
theorem dX12_saysNext_189 : decode cX12_saysNext 189 = .ok (.iload_n 3, 1) := by decide +kernel
theorem dX12_saysNext_190 : decode cX12_saysNext 190 = .ok (.imul, 1) := by decide +kernel
theorem dX12_saysNext_191 : decode cX12_saysNext 191 = .ok (.iload_n 2, 1) := by decide +kernel
theorem dX12_saysNext_192 : decode cX12_saysNext 192 = .ok (.iadd, 1) := by decide +kernel
theorem dX12_saysNext_193 : decode cX12_saysNext 193 = .ok (.laload, 1) := by decide +kernel
theorem dX12_saysNext_194 : decode cX12_saysNext 194 = .ok (.lstore 4, 2) := by decide +kernel
theorem dX12_saysNext_196 : decode cX12_saysNext 196 = .ok (.aload_n 0, 1) := by decide +kernel
theorem dX12_saysNext_197 : decode cX12_saysNext 197 = .ok (.iload_n 3, 1) := by decide +kernel
theorem dX12_saysNext_198 : decode cX12_saysNext 198 = .ok (.iload_n 2, 1) := by decide +kernel
theorem dX12_saysNext_199 : decode cX12_saysNext 199 = .ok (.invokevirtual 256, 3) := by decide +kernel
theorem dX12_saysNext_202 : decode cX12_saysNext 202 = .ok (.istore 6, 2) := by decide +kernel
theorem dX12_saysNext_204 : decode cX12_saysNext 204 = .ok (.iload 6, 2) := by decide +kernel
theorem dX12_saysNext_206 : decode cX12_saysNext 206 = .ok (.bipush 9, 2) := by decide +kernel
theorem dX12_saysNext_208 : decode cX12_saysNext 208 = .ok (.if_icmp .ne 37, 3) := by decide +kernel
theorem dX12_saysNext_211 : decode cX12_saysNext 211 = .ok (.lload 4, 2) := by decide +kernel
theorem dX12_saysNext_213 : decode cX12_saysNext 213 = .ok (.lconst 0, 1) := by decide +kernel
theorem dX12_saysNext_214 : decode cX12_saysNext 214 = .ok (.lcmp, 1) := by decide +kernel
theorem dX12_saysNext_215 : decode cX12_saysNext 215 = .ok (.ifCond .lt 30, 3) := by decide +kernel
theorem dX12_saysNext_218 : decode cX12_saysNext 218 = .ok (.aload_n 0, 1) := by decide +kernel
theorem dX12_saysNext_219 : decode cX12_saysNext 219 = .ok (.getfield 7, 3) := by decide +kernel
theorem dX12_saysNext_222 : decode cX12_saysNext 222 = .ok (.lload 4, 2) := by decide +kernel
theorem dX12_saysNext_224 : decode cX12_saysNext 224 = .ok (.l2i, 1) := by decide +kernel
theorem dX12_saysNext_225 : decode cX12_saysNext 225 = .ok (.iaload, 1) := by decide +kernel
theorem dX12_saysNext_226 : decode cX12_saysNext 226 = .ok (.bipush 8, 2) := by decide +kernel
theorem dX12_saysNext_228 : decode cX12_saysNext 228 = .ok (.if_icmp .ne 17, 3) := by decide +kernel
theorem dX12_saysNext_231 : decode cX12_saysNext 231 = .ok (.aload_n 0, 1) := by decide +kernel
theorem dX12_saysNext_232 : decode cX12_saysNext 232 = .ok (.bipush 91, 2) := by decide +kernel
theorem dX12_saysNext_234 : decode cX12_saysNext 234 = .ok (.invokevirtual 326, 3) := by decide +kernel
theorem dX12_saysNext_237 : decode cX12_saysNext 237 = .ok (.aload_n 0, 1) := by decide +kernel
theorem dX12_saysNext_238 : decode cX12_saysNext 238 = .ok (.getfield 99, 3) := by decide +kernel
theorem dX12_saysNext_241 : decode cX12_saysNext 241 = .ok (.iload_n 1, 1) := by decide +kernel
theorem dX12_saysNext_242 : decode cX12_saysNext 242 = .ok (.iconst 0, 1) := by decide +kernel
theorem dX12_saysNext_243 : decode cX12_saysNext 243 = .ok (.iastore, 1) := by decide +kernel
theorem dX12_saysNext_244 : decode cX12_saysNext 244 = .ok (.return_, 1) := by decide +kernel
theorem dX12_saysNext_245 : decode cX12_saysNext 245 = .ok (.aload_n 0, 1) := by decide +kernel
theorem dX12_saysNext_246 : decode cX12_saysNext 246 = .ok (.getfield 96, 3) := by decide +kernel
theorem dX12_saysNext_249 : decode cX12_saysNext 249 = .ok (.iload_n 1, 1) := by decide +kernel
theorem dX12_saysNext_250 : decode cX12_saysNext 250 = .ok (.dup2, 1) := by decide +kernel
theorem dX12_saysNext_251 : decode cX12_saysNext 251 = .ok (.iaload, 1) := by decide +kernel
theorem dX12_saysNext_252 : decode cX12_saysNext 252 = .ok (.iconst 1, 1) := by decide +kernel
theorem dX12_saysNext_253 : decode cX12_saysNext 253 = .ok (.iadd, 1) := by decide +kernel
theorem dX12_saysNext_254 : decode cX12_saysNext 254 = .ok (.iastore, 1) := by decide +kernel
theorem dX12_saysNext_255 : decode cX12_saysNext 255 = .ok (.iload 6, 2) := by decide +kernel
theorem dX12_saysNext_257 : decode cX12_saysNext 257 = .ok (.bipush 8, 2) := by decide +kernel
theorem dX12_saysNext_259 : decode cX12_saysNext 259 = .ok (.if_icmp .ge 14, 3) := by decide +kernel
theorem dX12_saysNext_262 : decode cX12_saysNext 262 = .ok (.aload_n 0, 1) := by decide +kernel
theorem dX12_saysNext_263 : decode cX12_saysNext 263 = .ok (.iload 6, 2) := by decide +kernel
theorem dX12_saysNext_265 : decode cX12_saysNext 265 = .ok (.lload 4, 2) := by decide +kernel
theorem dX12_saysNext_267 : decode cX12_saysNext 267 = .ok (.invokevirtual 336, 3) := by decide +kernel
theorem dX12_saysNext_270 : decode cX12_saysNext 270 = .ok (.goto 43, 3) := by decide +kernel
theorem dX12_saysNext_273 : decode cX12_saysNext 273 = .ok (.iload 6, 2) := by decide +kernel
theorem dX12_saysNext_275 : decode cX12_saysNext 275 = .ok (.bipush 8, 2) := by decide +kernel
theorem dX12_saysNext_277 : decode cX12_saysNext 277 = .ok (.if_icmp .ne 13, 3) := by decide +kernel
theorem dX12_saysNext_280 : decode cX12_saysNext 280 = .ok (.aload_n 0, 1) := by decide +kernel
theorem dX12_saysNext_281 : decode cX12_saysNext 281 = .ok (.lload 4, 2) := by decide +kernel
theorem dX12_saysNext_283 : decode cX12_saysNext 283 = .ok (.l2i, 1) := by decide +kernel
theorem dX12_saysNext_284 : decode cX12_saysNext 284 = .ok (.invokevirtual 340, 3) := by decide +kernel
theorem dX12_saysNext_287 : decode cX12_saysNext 287 = .ok (.goto 26, 3) := by decide +kernel
theorem dX12_saysNext_290 : decode cX12_saysNext 290 = .ok (.lload 4, 2) := by decide +kernel
theorem dX12_saysNext_292 : decode cX12_saysNext 292 = .ok (.lconst 0, 1) := by decide +kernel
theorem dX12_saysNext_293 : decode cX12_saysNext 293 = .ok (.lcmp, 1) := by decide +kernel
theorem dX12_saysNext_294 : decode cX12_saysNext 294 = .ok (.ifCond .ge 12, 3) := by decide +kernel
theorem dX12_saysNext_297 : decode cX12_saysNext 297 = .ok (.aload_n 0, 1) := by decide +kernel
theorem dX12_saysNext_298 : decode cX12_saysNext 298 = .ok (.bipush 33, 2) := by decide +kernel
theorem dX12_saysNext_300 : decode cX12_saysNext 300 = .ok (.invokevirtual 326, 3) := by decide +kernel
theorem dX12_saysNext_303 : decode cX12_saysNext 303 = .ok (.goto 10, 3) := by decide +kernel
theorem dX12_saysNext_306 : decode cX12_saysNext 306 = .ok (.aload_n 0, 1) := by decide +kernel
theorem dX12_saysNext_307 : decode cX12_saysNext 307 = .ok (.lload 4, 2) := by decide +kernel
theorem dX12_saysNext_309 : decode cX12_saysNext 309 = .ok (.l2i, 1) := by decide +kernel
theorem dX12_saysNext_310 : decode cX12_saysNext 310 = .ok (.invokevirtual 343, 3) := by decide +kernel
theorem dX12_saysNext_313 : decode cX12_saysNext 313 = .ok (.return_, 1) := by decide +kernel
def F_X12_saysNext_92 (d : Nat) (v0 : Option Nm) (v1 : Int32) (v4 : Int32) (v5 : Int32) (h : MH) (u : Nat) (Q : MH → Prop) : Prop :=
  gR h v0 11 39 fun x1 =>
  aI .int h x1 v1 fun x2 =>
  sV .int h x1 v1 (jI (x2 + 1)) fun h =>
  gR h v0 11 7 fun x3 =>
  aL h x3 ((20 * v4) + v5) fun x4 =>
  rc h v0 11 ∧ iV d u_X12_saysThing [jR v0, jI (x4.toInt32)] h u fun h u =>
  Q h
set_option maxRecDepth 20000 in
theorem E_X12_saysNext_92 {d : Nat} {v0 : Option Nm} {v1 : Int32} {v4 : Int32} {v5 : Int32} {h : MH} {u : Nat} {Q : MH → Prop} (H : F_X12_saysNext_92 d v0 v1 v4 v5 h u Q) : T u_X12_saysNext (d + 1) 92 [some (jR v0), some (jI v1), none, none, some (jI v4), some (jI v5), none] [] h u (qV Q) := by
  unfold F_X12_saysNext_92 at H
  refine T_aload_n (pc := 92) dX12_saysNext_92 rfl rfl ?_
  refine T_gR (pc := 93) fa_X12_99 dX12_saysNext_93 (gR_mono (fun x1 H => ?_) H)
  refine T_iload_n (pc := 96) dX12_saysNext_96 rfl rfl ?_
  refine T_dup2 (pc := 97) rfl rfl dX12_saysNext_97 ?_
  refine T_aI (pc := 98) dX12_saysNext_98 (aI_mono (fun x2 H => ?_) H)
  refine T_iconst (pc := 99) (v := 1) dX12_saysNext_99 (by decide) ?_
  refine T_iadd (pc := 100) dX12_saysNext_100 ?_
  refine T_sI (pc := 101) dX12_saysNext_101 (sV_mono (fun h H => ?_) H)
  refine T_aload_n (pc := 102) dX12_saysNext_102 rfl rfl ?_
  refine T_aload_n (pc := 103) dX12_saysNext_103 rfl rfl ?_
  refine T_gR (pc := 104) fa_X12_20 dX12_saysNext_104 (gR_mono (fun x3 H => ?_) H)
  refine T_bipush (pc := 107) (v := 20) dX12_saysNext_107 (by decide) ?_
  refine T_iload (pc := 109) dX12_saysNext_109 rfl ?_
  refine T_imul (pc := 111) dX12_saysNext_111 ?_
  refine T_iload (pc := 112) dX12_saysNext_112 rfl ?_
  refine T_iadd (pc := 114) dX12_saysNext_114 ?_
  refine T_aL (pc := 115) dX12_saysNext_115 (aL_mono (fun x4 H => ?_) H)
  refine T_l2i (pc := 116) dX12_saysNext_116 ?_
  obtain ⟨H0, H⟩ := H
  refine T_iV (pc := 117) (ci := 11) (av := [jI (x4.toInt32)]) (rest := []) (o := v0) dX12_saysNext_117 mf_X12_saysThing c_6_151 c_6_153 pr_X12_saysThing rfl rfl (Nat.le_of_ble_eq_true rfl) rfl H0 (iV_k (iV_mono (fun h u H => ?_) H))
  exact T_return (pc := 120) rfl dX12_saysNext_120 H
def F_X12_saysNext_245 (d : Nat) (v0 : Option Nm) (v1 : Int32) (v4 : Int64) (v6 : Int32) (h : MH) (u : Nat) (Q : MH → Prop) : Prop :=
  gR h v0 11 38 fun x1 =>
  aI .int h x1 v1 fun x2 =>
  sV .int h x1 v1 (jI (x2 + 1)) fun h =>
  if 8 ≤ v6 then
    if v6 = 8 then
      rc h v0 11 ∧ iV d u_X12_saysThing [jR v0, jI (v4.toInt32)] h u fun h u =>
      Q h
    else
      if 0 ≤ (lg_cmp v4 0) then
        rc h v0 11 ∧ iV d u_X12_saysRow [jR v0, jI (v4.toInt32)] h u fun h u =>
        Q h
      else
        rc h v0 11 ∧ iV d u_X12_says [jR v0, jI 33] h u fun h u =>
        Q h
  else
    rc h v0 11 ∧ iV d u_X12_saysCell [jR v0, jI v6, jL v4] h u fun h u =>
    Q h
set_option maxRecDepth 20000 in
theorem E_X12_saysNext_245 {d : Nat} {v0 : Option Nm} {v1 : Int32} {v4 : Int64} {v6 : Int32} {h : MH} {u : Nat} {Q : MH → Prop} (H : F_X12_saysNext_245 d v0 v1 v4 v6 h u Q) : T u_X12_saysNext (d + 1) 245 [some (jR v0), some (jI v1), none, none, some (jL v4), none, some (jI v6)] [] h u (qV Q) := by
  unfold F_X12_saysNext_245 at H
  refine T_aload_n (pc := 245) dX12_saysNext_245 rfl rfl ?_
  refine T_gR (pc := 246) fa_X12_96 dX12_saysNext_246 (gR_mono (fun x1 H => ?_) H)
  refine T_iload_n (pc := 249) dX12_saysNext_249 rfl rfl ?_
  refine T_dup2 (pc := 250) rfl rfl dX12_saysNext_250 ?_
  refine T_aI (pc := 251) dX12_saysNext_251 (aI_mono (fun x2 H => ?_) H)
  refine T_iconst (pc := 252) (v := 1) dX12_saysNext_252 (by decide) ?_
  refine T_iadd (pc := 253) dX12_saysNext_253 ?_
  refine T_sI (pc := 254) dX12_saysNext_254 (sV_mono (fun h H => ?_) H)
  refine T_iload (pc := 255) dX12_saysNext_255 rfl ?_
  refine T_bipush (pc := 257) (v := 8) dX12_saysNext_257 (by decide) ?_
  refine T_icmp_ge (pc := 259) (tgt := 273) dX12_saysNext_259 (by decide) (fun hc => ?_) (fun hc => ?_)
  · rw [if_pos hc] at H
    refine T_iload (pc := 273) dX12_saysNext_273 rfl ?_
    refine T_bipush (pc := 275) (v := 8) dX12_saysNext_275 (by decide) ?_
    refine T_icmp_ne (pc := 277) (tgt := 290) dX12_saysNext_277 (by decide) (fun hc => ?_) (fun hc => ?_)
    · rw [if_neg hc] at H
      refine T_lload (pc := 290) dX12_saysNext_290 rfl ?_
      refine T_lconst (pc := 292) (v := 0) dX12_saysNext_292 (by decide) ?_
      refine T_lcmp (pc := 293) dX12_saysNext_293 ?_
      refine T_if_ge (pc := 294) (tgt := 306) dX12_saysNext_294 (by decide) (fun hc => ?_) (fun hc => ?_)
      · rw [if_pos hc] at H
        refine T_aload_n (pc := 306) dX12_saysNext_306 rfl rfl ?_
        refine T_lload (pc := 307) dX12_saysNext_307 rfl ?_
        refine T_l2i (pc := 309) dX12_saysNext_309 ?_
        obtain ⟨H0, H⟩ := H
        refine T_iV (pc := 310) (ci := 11) (av := [jI (v4.toInt32)]) (rest := []) (o := v0) dX12_saysNext_310 mf_X12_saysRow c_6_173 c_6_175 pr_X12_saysRow rfl rfl (Nat.le_of_ble_eq_true rfl) rfl H0 (iV_k (iV_mono (fun h u H => ?_) H))
        exact T_return (pc := 313) rfl dX12_saysNext_313 H
      · rw [if_neg hc] at H
        refine T_aload_n (pc := 297) dX12_saysNext_297 rfl rfl ?_
        refine T_bipush (pc := 298) (v := 33) dX12_saysNext_298 (by decide) ?_
        obtain ⟨H0, H⟩ := H
        refine T_iV (pc := 300) (ci := 11) (av := [jI 33]) (rest := []) (o := v0) dX12_saysNext_300 mf_X12_says c_6_155 c_6_157 pr_X12_says rfl rfl (Nat.le_of_ble_eq_true rfl) rfl H0 (iV_k (iV_mono (fun h u H => ?_) H))
        refine T_goto (pc := 303) (tgt := 313) dX12_saysNext_303 (by decide) ?_
        exact T_return (pc := 313) rfl dX12_saysNext_313 H
    · rw [if_pos hc] at H
      refine T_aload_n (pc := 280) dX12_saysNext_280 rfl rfl ?_
      refine T_lload (pc := 281) dX12_saysNext_281 rfl ?_
      refine T_l2i (pc := 283) dX12_saysNext_283 ?_
      obtain ⟨H0, H⟩ := H
      refine T_iV (pc := 284) (ci := 11) (av := [jI (v4.toInt32)]) (rest := []) (o := v0) dX12_saysNext_284 mf_X12_saysThing c_6_151 c_6_153 pr_X12_saysThing rfl rfl (Nat.le_of_ble_eq_true rfl) rfl H0 (iV_k (iV_mono (fun h u H => ?_) H))
      refine T_goto (pc := 287) (tgt := 313) dX12_saysNext_287 (by decide) ?_
      exact T_return (pc := 313) rfl dX12_saysNext_313 H
  · rw [if_neg hc] at H
    refine T_aload_n (pc := 262) dX12_saysNext_262 rfl rfl ?_
    refine T_iload (pc := 263) dX12_saysNext_263 rfl ?_
    refine T_lload (pc := 265) dX12_saysNext_265 rfl ?_
    obtain ⟨H0, H⟩ := H
    refine T_iV (pc := 267) (ci := 11) (av := [jI v6, jL v4]) (rest := []) (o := v0) dX12_saysNext_267 mf_X12_saysCell c_6_169 c_6_171 pr_X12_saysCell rfl rfl (Nat.le_of_ble_eq_true rfl) rfl H0 (iV_k (iV_mono (fun h u H => ?_) H))
    refine T_goto (pc := 270) (tgt := 313) dX12_saysNext_270 (by decide) ?_
    exact T_return (pc := 313) rfl dX12_saysNext_313 H
def F_X12_saysNext_157 (d : Nat) (v0 : Option Nm) (v1 : Int32) (v2 : Int32) (v3 : Int32) (h : MH) (u : Nat) (Q : MH → Prop) : Prop :=
  gR h v0 11 16 fun x1 =>
  rc h v0 11 ∧ iI d u_X12_editionOf [jR v0, jI v3] h u fun x2 h u =>
  aI .int h x1 ((8 * x2) + v2) fun x3 =>
  rc h v0 11 ∧ iV d u_X12_saysNumber [jR v0, jL (x3.toInt64)] h u fun h u =>
  rc h v0 11 ∧ iV d u_X12_says [jR v0, jI 61] h u fun h u =>
  gR h v0 11 31 fun x6 =>
  aL h x6 ((6 * v3) + v2) fun x7 =>
  rc h v0 11 ∧ iI d u_X12_laneOf [jR v0, jI v3, jI v2] h u fun x8 h u =>
  if x8 = 9 then
    if (lg_cmp x7 0) < 0 then
      F_X12_saysNext_245 d v0 v1 x7 x8 h u Q
    else
      gR h v0 11 4 fun x9 =>
      aI .int h x9 (x7.toInt32) fun x10 =>
      if x10 = 8 then
        rc h v0 11 ∧ iV d u_X12_says [jR v0, jI 91] h u fun h u =>
        gR h v0 11 39 fun x12 =>
        sV .int h x12 v1 (jI 0) fun h =>
        Q h
      else
        F_X12_saysNext_245 d v0 v1 x7 x8 h u Q
  else
    F_X12_saysNext_245 d v0 v1 x7 x8 h u Q
set_option maxRecDepth 20000 in
theorem E_X12_saysNext_157 {d : Nat} {v0 : Option Nm} {v1 : Int32} {v2 : Int32} {v3 : Int32} {h : MH} {u : Nat} {Q : MH → Prop} (H : F_X12_saysNext_157 d v0 v1 v2 v3 h u Q) : T u_X12_saysNext (d + 1) 157 [some (jR v0), some (jI v1), some (jI v2), some (jI v3), none, none, none] [] h u (qV Q) := by
  unfold F_X12_saysNext_157 at H
  refine T_aload_n (pc := 157) dX12_saysNext_157 rfl rfl ?_
  refine T_aload_n (pc := 158) dX12_saysNext_158 rfl rfl ?_
  refine T_gR (pc := 159) fa_X12_45 dX12_saysNext_159 (gR_mono (fun x1 H => ?_) H)
  refine T_bipush (pc := 162) (v := 8) dX12_saysNext_162 (by decide) ?_
  refine T_aload_n (pc := 164) dX12_saysNext_164 rfl rfl ?_
  refine T_iload_n (pc := 165) dX12_saysNext_165 rfl rfl ?_
  obtain ⟨H0, H⟩ := H
  refine T_iV (pc := 166) (ci := 11) (av := [jI v3]) (rest := [jI 8, jR x1, jR v0]) (o := v0) dX12_saysNext_166 mf_X12_editionOf c_6_42 c_6_44 pr_X12_editionOf rfl rfl (Nat.le_of_ble_eq_true rfl) rfl H0 (iI_k (iI_mono (fun x2 h u H => ?_) H))
  refine T_imul (pc := 169) dX12_saysNext_169 ?_
  refine T_iload_n (pc := 170) dX12_saysNext_170 rfl rfl ?_
  refine T_iadd (pc := 171) dX12_saysNext_171 ?_
  refine T_aI (pc := 172) dX12_saysNext_172 (aI_mono (fun x3 H => ?_) H)
  refine T_i2l (pc := 173) dX12_saysNext_173 ?_
  obtain ⟨H0, H⟩ := H
  refine T_iV (pc := 174) (ci := 11) (av := [jL (x3.toInt64)]) (rest := []) (o := v0) dX12_saysNext_174 mf_X12_saysNumber c_6_159 c_6_161 pr_X12_saysNumber rfl rfl (Nat.le_of_ble_eq_true rfl) rfl H0 (iV_k (iV_mono (fun h u H => ?_) H))
  refine T_aload_n (pc := 177) dX12_saysNext_177 rfl rfl ?_
  refine T_bipush (pc := 178) (v := 61) dX12_saysNext_178 (by decide) ?_
  obtain ⟨H0, H⟩ := H
  refine T_iV (pc := 180) (ci := 11) (av := [jI 61]) (rest := []) (o := v0) dX12_saysNext_180 mf_X12_says c_6_155 c_6_157 pr_X12_says rfl rfl (Nat.le_of_ble_eq_true rfl) rfl H0 (iV_k (iV_mono (fun h u H => ?_) H))
  refine T_aload_n (pc := 183) dX12_saysNext_183 rfl rfl ?_
  refine T_gR (pc := 184) fa_X12_84 dX12_saysNext_184 (gR_mono (fun x6 H => ?_) H)
  refine T_bipush (pc := 187) (v := 6) dX12_saysNext_187 (by decide) ?_
  refine T_iload_n (pc := 189) dX12_saysNext_189 rfl rfl ?_
  refine T_imul (pc := 190) dX12_saysNext_190 ?_
  refine T_iload_n (pc := 191) dX12_saysNext_191 rfl rfl ?_
  refine T_iadd (pc := 192) dX12_saysNext_192 ?_
  refine T_aL (pc := 193) dX12_saysNext_193 (aL_mono (fun x7 H => ?_) H)
  refine T_lstore (pc := 194) (ls2 := [some (jR v0), some (jI v1), some (jI v2), some (jI v3), some (jL x7), none, none]) dX12_saysNext_194 (Nat.le_of_ble_eq_true rfl) rfl ?_
  refine T_aload_n (pc := 196) dX12_saysNext_196 rfl rfl ?_
  refine T_iload_n (pc := 197) dX12_saysNext_197 rfl rfl ?_
  refine T_iload_n (pc := 198) dX12_saysNext_198 rfl rfl ?_
  obtain ⟨H0, H⟩ := H
  refine T_iV (pc := 199) (ci := 11) (av := [jI v3, jI v2]) (rest := []) (o := v0) dX12_saysNext_199 mf_X12_laneOf c_6_50 c_6_52 pr_X12_laneOf rfl rfl (Nat.le_of_ble_eq_true rfl) rfl H0 (iI_k (iI_mono (fun x8 h u H => ?_) H))
  refine T_istore (pc := 202) (ls2 := [some (jR v0), some (jI v1), some (jI v2), some (jI v3), some (jL x7), none, some (jI x8)]) dX12_saysNext_202 (Nat.le_of_ble_eq_true rfl) rfl ?_
  refine T_iload (pc := 204) dX12_saysNext_204 rfl ?_
  refine T_bipush (pc := 206) (v := 9) dX12_saysNext_206 (by decide) ?_
  refine T_icmp_ne (pc := 208) (tgt := 245) dX12_saysNext_208 (by decide) (fun hc => ?_) (fun hc => ?_)
  · rw [if_neg hc] at H
    exact T.forget (E_X12_saysNext_245 H) ⟨rfl, rfl, rfl, rfl, trivial⟩
  · rw [if_pos hc] at H
    refine T_lload (pc := 211) dX12_saysNext_211 rfl ?_
    refine T_lconst (pc := 213) (v := 0) dX12_saysNext_213 (by decide) ?_
    refine T_lcmp (pc := 214) dX12_saysNext_214 ?_
    refine T_if_lt (pc := 215) (tgt := 245) dX12_saysNext_215 (by decide) (fun hc => ?_) (fun hc => ?_)
    · rw [if_pos hc] at H
      exact T.forget (E_X12_saysNext_245 H) ⟨rfl, rfl, rfl, rfl, trivial⟩
    · rw [if_neg hc] at H
      refine T_aload_n (pc := 218) dX12_saysNext_218 rfl rfl ?_
      refine T_gR (pc := 219) fa_X12_7 dX12_saysNext_219 (gR_mono (fun x9 H => ?_) H)
      refine T_lload (pc := 222) dX12_saysNext_222 rfl ?_
      refine T_l2i (pc := 224) dX12_saysNext_224 ?_
      refine T_aI (pc := 225) dX12_saysNext_225 (aI_mono (fun x10 H => ?_) H)
      refine T_bipush (pc := 226) (v := 8) dX12_saysNext_226 (by decide) ?_
      refine T_icmp_ne (pc := 228) (tgt := 245) dX12_saysNext_228 (by decide) (fun hc => ?_) (fun hc => ?_)
      · rw [if_neg hc] at H
        exact T.forget (E_X12_saysNext_245 H) ⟨rfl, rfl, rfl, rfl, trivial⟩
      · rw [if_pos hc] at H
        refine T_aload_n (pc := 231) dX12_saysNext_231 rfl rfl ?_
        refine T_bipush (pc := 232) (v := 91) dX12_saysNext_232 (by decide) ?_
        obtain ⟨H0, H⟩ := H
        refine T_iV (pc := 234) (ci := 11) (av := [jI 91]) (rest := []) (o := v0) dX12_saysNext_234 mf_X12_says c_6_155 c_6_157 pr_X12_says rfl rfl (Nat.le_of_ble_eq_true rfl) rfl H0 (iV_k (iV_mono (fun h u H => ?_) H))
        refine T_aload_n (pc := 237) dX12_saysNext_237 rfl rfl ?_
        refine T_gR (pc := 238) fa_X12_99 dX12_saysNext_238 (gR_mono (fun x12 H => ?_) H)
        refine T_iload_n (pc := 241) dX12_saysNext_241 rfl rfl ?_
        refine T_iconst (pc := 242) (v := 0) dX12_saysNext_242 (by decide) ?_
        refine T_sI (pc := 243) dX12_saysNext_243 (sV_mono (fun h H => ?_) H)
        exact T_return (pc := 244) rfl dX12_saysNext_244 H
def F_X12_saysNext (d : Nat) (v0 : Option Nm) (v1 : Int32) (h : MH) (u : Nat) (Q : MH → Prop) : Prop :=
  gR h v0 11 38 fun x1 =>
  aI .int h x1 v1 fun x2 =>
  gR h v0 11 36 fun x3 =>
  aI .int h x3 v1 fun x4 =>
  gR h v0 11 39 fun x5 =>
  aI .int h x5 v1 fun x6 =>
  if x6 < 0 then
    rc h v0 11 ∧ iI d u_X12_partsOf [jR v0, jI x4] h u fun x7 h u =>
    if x2 = x7 then
      rc h v0 11 ∧ iV d u_X12_says [jR v0, jI 41] h u fun h u =>
      gI h v0 11 35 fun x10 =>
      pV h v0 11 35 (jI (x10 - 1)) fun h =>
      Q h
    else
      if x2 ≤ 0 then
        F_X12_saysNext_157 d v0 v1 x2 x4 h u Q
      else
        rc h v0 11 ∧ iV d u_X12_says [jR v0, jI 44] h u fun h u =>
        F_X12_saysNext_157 d v0 v1 x2 x4 h u Q
  else
    gR h v0 11 31 fun x11 =>
    aL h x11 ((6 * x4) + x2) fun x12 =>
    gR h v0 11 39 fun x13 =>
    aI .int h x13 v1 fun x14 =>
    gR h v0 11 5 fun x15 =>
    aI .int h x15 (x12.toInt32) fun x16 =>
    if x14 = x16 then
      rc h v0 11 ∧ iV d u_X12_says [jR v0, jI 93] h u fun h u =>
      gR h v0 11 39 fun x19 =>
      sV .int h x19 v1 (jI (-1)) fun h =>
      gR h v0 11 38 fun x20 =>
      aI .int h x20 v1 fun x21 =>
      sV .int h x20 v1 (jI (x21 + 1)) fun h =>
      Q h
    else
      if x14 ≤ 0 then
        F_X12_saysNext_92 d v0 v1 (x12.toInt32) x14 h u Q
      else
        rc h v0 11 ∧ iV d u_X12_says [jR v0, jI 32] h u fun h u =>
        F_X12_saysNext_92 d v0 v1 (x12.toInt32) x14 h u Q
set_option maxRecDepth 20000 in
theorem E_X12_saysNext {d : Nat} {v0 : Option Nm} {v1 : Int32} {h : MH} {u : Nat} {Q : MH → Prop} (H : F_X12_saysNext d v0 v1 h u Q) : T u_X12_saysNext (d + 1) 0 [some (jR v0), some (jI v1), none, none, none, none, none] [] h u (qV Q) := by
  unfold F_X12_saysNext at H
  refine T_aload_n (pc := 0) dX12_saysNext_0 rfl rfl ?_
  refine T_gR (pc := 1) fa_X12_96 dX12_saysNext_1 (gR_mono (fun x1 H => ?_) H)
  refine T_iload_n (pc := 4) dX12_saysNext_4 rfl rfl ?_
  refine T_aI (pc := 5) dX12_saysNext_5 (aI_mono (fun x2 H => ?_) H)
  refine T_istore_n (pc := 6) (ls2 := [some (jR v0), some (jI v1), some (jI x2), none, none, none, none]) dX12_saysNext_6 rfl (Nat.le_of_ble_eq_true rfl) rfl ?_
  refine T_aload_n (pc := 7) dX12_saysNext_7 rfl rfl ?_
  refine T_gR (pc := 8) fa_X12_90 dX12_saysNext_8 (gR_mono (fun x3 H => ?_) H)
  refine T_iload_n (pc := 11) dX12_saysNext_11 rfl rfl ?_
  refine T_aI (pc := 12) dX12_saysNext_12 (aI_mono (fun x4 H => ?_) H)
  refine T_istore_n (pc := 13) (ls2 := [some (jR v0), some (jI v1), some (jI x2), some (jI x4), none, none, none]) dX12_saysNext_13 rfl (Nat.le_of_ble_eq_true rfl) rfl ?_
  refine T_aload_n (pc := 14) dX12_saysNext_14 rfl rfl ?_
  refine T_gR (pc := 15) fa_X12_99 dX12_saysNext_15 (gR_mono (fun x5 H => ?_) H)
  refine T_iload_n (pc := 18) dX12_saysNext_18 rfl rfl ?_
  refine T_aI (pc := 19) dX12_saysNext_19 (aI_mono (fun x6 H => ?_) H)
  refine T_if_lt (pc := 20) (tgt := 121) dX12_saysNext_20 (by decide) (fun hc => ?_) (fun hc => ?_)
  · rw [if_pos hc] at H
    refine T_iload_n (pc := 121) dX12_saysNext_121 rfl rfl ?_
    refine T_aload_n (pc := 122) dX12_saysNext_122 rfl rfl ?_
    refine T_iload_n (pc := 123) dX12_saysNext_123 rfl rfl ?_
    obtain ⟨H0, H⟩ := H
    refine T_iV (pc := 124) (ci := 11) (av := [jI x4]) (rest := [jI x2]) (o := v0) dX12_saysNext_124 mf_X12_partsOf c_6_38 c_6_40 pr_X12_partsOf rfl rfl (Nat.le_of_ble_eq_true rfl) rfl H0 (iI_k (iI_mono (fun x7 h u H => ?_) H))
    refine T_icmp_ne (pc := 127) (tgt := 147) dX12_saysNext_127 (by decide) (fun hc => ?_) (fun hc => ?_)
    · rw [if_neg hc] at H
      refine T_iload_n (pc := 147) dX12_saysNext_147 rfl rfl ?_
      refine T_if_le (pc := 148) (tgt := 157) dX12_saysNext_148 (by decide) (fun hc => ?_) (fun hc => ?_)
      · rw [if_pos hc] at H
        exact T.forget (E_X12_saysNext_157 H) ⟨rfl, rfl, rfl, rfl, trivial⟩
      · rw [if_neg hc] at H
        refine T_aload_n (pc := 151) dX12_saysNext_151 rfl rfl ?_
        refine T_bipush (pc := 152) (v := 44) dX12_saysNext_152 (by decide) ?_
        obtain ⟨H0, H⟩ := H
        refine T_iV (pc := 154) (ci := 11) (av := [jI 44]) (rest := []) (o := v0) dX12_saysNext_154 mf_X12_says c_6_155 c_6_157 pr_X12_says rfl rfl (Nat.le_of_ble_eq_true rfl) rfl H0 (iV_k (iV_mono (fun h u H => ?_) H))
        exact T.forget (E_X12_saysNext_157 H) ⟨rfl, rfl, rfl, rfl, trivial⟩
    · rw [if_pos hc] at H
      refine T_aload_n (pc := 130) dX12_saysNext_130 rfl rfl ?_
      refine T_bipush (pc := 131) (v := 41) dX12_saysNext_131 (by decide) ?_
      obtain ⟨H0, H⟩ := H
      refine T_iV (pc := 133) (ci := 11) (av := [jI 41]) (rest := []) (o := v0) dX12_saysNext_133 mf_X12_says c_6_155 c_6_157 pr_X12_says rfl rfl (Nat.le_of_ble_eq_true rfl) rfl H0 (iV_k (iV_mono (fun h u H => ?_) H))
      refine T_aload_n (pc := 136) dX12_saysNext_136 rfl rfl ?_
      refine T_dup (pc := 137) rfl dX12_saysNext_137 ?_
      refine T_gI (pc := 138) fa_X12_271 dX12_saysNext_138 (gI_mono (fun x10 H => ?_) H)
      refine T_iconst (pc := 141) (v := 1) dX12_saysNext_141 (by decide) ?_
      refine T_isub (pc := 142) dX12_saysNext_142 ?_
      refine T_pV (pc := 143) fa_X12_271 dX12_saysNext_143 trivial (pV_mono (fun h H => ?_) H)
      exact T_return (pc := 146) rfl dX12_saysNext_146 H
  · rw [if_neg hc] at H
    refine T_aload_n (pc := 23) dX12_saysNext_23 rfl rfl ?_
    refine T_gR (pc := 24) fa_X12_84 dX12_saysNext_24 (gR_mono (fun x11 H => ?_) H)
    refine T_bipush (pc := 27) (v := 6) dX12_saysNext_27 (by decide) ?_
    refine T_iload_n (pc := 29) dX12_saysNext_29 rfl rfl ?_
    refine T_imul (pc := 30) dX12_saysNext_30 ?_
    refine T_iload_n (pc := 31) dX12_saysNext_31 rfl rfl ?_
    refine T_iadd (pc := 32) dX12_saysNext_32 ?_
    refine T_aL (pc := 33) dX12_saysNext_33 (aL_mono (fun x12 H => ?_) H)
    refine T_l2i (pc := 34) dX12_saysNext_34 ?_
    refine T_istore (pc := 35) (ls2 := [some (jR v0), some (jI v1), some (jI x2), some (jI x4), some (jI (x12.toInt32)), none, none]) dX12_saysNext_35 (Nat.le_of_ble_eq_true rfl) rfl ?_
    refine T_aload_n (pc := 37) dX12_saysNext_37 rfl rfl ?_
    refine T_gR (pc := 38) fa_X12_99 dX12_saysNext_38 (gR_mono (fun x13 H => ?_) H)
    refine T_iload_n (pc := 41) dX12_saysNext_41 rfl rfl ?_
    refine T_aI (pc := 42) dX12_saysNext_42 (aI_mono (fun x14 H => ?_) H)
    refine T_istore (pc := 43) (ls2 := [some (jR v0), some (jI v1), some (jI x2), some (jI x4), some (jI (x12.toInt32)), some (jI x14), none]) dX12_saysNext_43 (Nat.le_of_ble_eq_true rfl) rfl ?_
    refine T_iload (pc := 45) dX12_saysNext_45 rfl ?_
    refine T_aload_n (pc := 47) dX12_saysNext_47 rfl rfl ?_
    refine T_gR (pc := 48) fa_X12_13 dX12_saysNext_48 (gR_mono (fun x15 H => ?_) H)
    refine T_iload (pc := 51) dX12_saysNext_51 rfl ?_
    refine T_aI (pc := 53) dX12_saysNext_53 (aI_mono (fun x16 H => ?_) H)
    refine T_icmp_ne (pc := 54) (tgt := 81) dX12_saysNext_54 (by decide) (fun hc => ?_) (fun hc => ?_)
    · rw [if_neg hc] at H
      refine T_iload (pc := 81) dX12_saysNext_81 rfl ?_
      refine T_if_le (pc := 83) (tgt := 92) dX12_saysNext_83 (by decide) (fun hc => ?_) (fun hc => ?_)
      · rw [if_pos hc] at H
        exact T.forget (E_X12_saysNext_92 H) ⟨rfl, rfl, rfl, rfl, trivial⟩
      · rw [if_neg hc] at H
        refine T_aload_n (pc := 86) dX12_saysNext_86 rfl rfl ?_
        refine T_bipush (pc := 87) (v := 32) dX12_saysNext_87 (by decide) ?_
        obtain ⟨H0, H⟩ := H
        refine T_iV (pc := 89) (ci := 11) (av := [jI 32]) (rest := []) (o := v0) dX12_saysNext_89 mf_X12_says c_6_155 c_6_157 pr_X12_says rfl rfl (Nat.le_of_ble_eq_true rfl) rfl H0 (iV_k (iV_mono (fun h u H => ?_) H))
        exact T.forget (E_X12_saysNext_92 H) ⟨rfl, rfl, rfl, rfl, trivial⟩
    · rw [if_pos hc] at H
      refine T_aload_n (pc := 57) dX12_saysNext_57 rfl rfl ?_
      refine T_bipush (pc := 58) (v := 93) dX12_saysNext_58 (by decide) ?_
      obtain ⟨H0, H⟩ := H
      refine T_iV (pc := 60) (ci := 11) (av := [jI 93]) (rest := []) (o := v0) dX12_saysNext_60 mf_X12_says c_6_155 c_6_157 pr_X12_says rfl rfl (Nat.le_of_ble_eq_true rfl) rfl H0 (iV_k (iV_mono (fun h u H => ?_) H))
      refine T_aload_n (pc := 63) dX12_saysNext_63 rfl rfl ?_
      refine T_gR (pc := 64) fa_X12_99 dX12_saysNext_64 (gR_mono (fun x19 H => ?_) H)
      refine T_iload_n (pc := 67) dX12_saysNext_67 rfl rfl ?_
      refine T_iconst (pc := 68) (v := (-1)) dX12_saysNext_68 (by decide) ?_
      refine T_sI (pc := 69) dX12_saysNext_69 (sV_mono (fun h H => ?_) H)
      refine T_aload_n (pc := 70) dX12_saysNext_70 rfl rfl ?_
      refine T_gR (pc := 71) fa_X12_96 dX12_saysNext_71 (gR_mono (fun x20 H => ?_) H)
      refine T_iload_n (pc := 74) dX12_saysNext_74 rfl rfl ?_
      refine T_dup2 (pc := 75) rfl rfl dX12_saysNext_75 ?_
      refine T_aI (pc := 76) dX12_saysNext_76 (aI_mono (fun x21 H => ?_) H)
      refine T_iconst (pc := 77) (v := 1) dX12_saysNext_77 (by decide) ?_
      refine T_iadd (pc := 78) dX12_saysNext_78 ?_
      refine T_sI (pc := 79) dX12_saysNext_79 (sV_mono (fun h H => ?_) H)
      exact T_return (pc := 80) rfl dX12_saysNext_80 H
theorem I_X12_saysNext {d : Nat} {v0 : Option Nm} {v1 : Int32} {h : MH} {u : Nat} {K : MH → Nat → Prop} (u1 : Nat) (hu : u1 ≤ u) (H : F_X12_saysNext d v0 v1 h u1 (fun h2 => K h2 (u - u1))) : iV (d + 1) u_X12_saysNext [jR v0, jI v1] h u K := inv.of u1 hu (Ct.of (by decide +kernel) rfl (Nat.le_of_ble_eq_true rfl) rfl (E_X12_saysNext H))
