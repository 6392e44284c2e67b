theorem dX2_init_0 : decode cX2_init 0 = .ok (.aload_n 0, 1) := by decide +kernel
theorem dX2_init_1 : decode cX2_init 1 = .ok (.invokespecial 3, 3) := by decide +kernel
theorem dX2_init_4 : decode cX2_init 4 = .ok (.aload_n 0, 1) := by decide +kernel
theorem dX2_init_5 : decode cX2_init 5 = .ok (.iload_n 1, 1) := by decide +kernel
theorem dX2_init_6 : decode cX2_init 6 = .ok (.putfield 9, 3) := by decide +kernel
theorem dX2_init_9 : decode cX2_init 9 = .ok (.aload_n 0, 1) := by decide +kernel
theorem dX2_init_10 : decode cX2_init 10 = .ok (.iload_n 2, 1) := by decide +kernel
theorem dX2_init_11 : decode cX2_init 11 = .ok (.newarray .int, 2) := by decide +kernel
theorem dX2_init_13 : decode cX2_init 13 = .ok (.putfield 15, 3) := by decide +kernel
theorem dX2_init_16 : decode cX2_init 16 = .ok (.aload_n 0, 1) := by decide +kernel
theorem dX2_init_17 : decode cX2_init 17 = .ok (.iload_n 2, 1) := by decide +kernel
theorem dX2_init_18 : decode cX2_init 18 = .ok (.newarray .int, 2) := by decide +kernel
theorem dX2_init_20 : decode cX2_init 20 = .ok (.putfield 19, 3) := by decide +kernel
theorem dX2_init_23 : decode cX2_init 23 = .ok (.aload_n 0, 1) := by decide +kernel
theorem dX2_init_24 : decode cX2_init 24 = .ok (.iload_n 2, 1) := by decide +kernel
theorem dX2_init_25 : decode cX2_init 25 = .ok (.newarray .int, 2) := by decide +kernel
theorem dX2_init_27 : decode cX2_init 27 = .ok (.putfield 22, 3) := by decide +kernel
theorem dX2_init_30 : decode cX2_init 30 = .ok (.return_, 1) := by decide +kernel
def F_X2_init (d : Nat) (v0 : Option Nm) (v1 : Int32) (v2 : Int32) (h : MH) (u : Nat) (Q : MH → Prop) : Prop :=
  nn v0 <|
  pV h v0 2 0 (jI v1) fun h =>
  nA .int h u v2 fun x1 h u =>
  pV h v0 2 1 (jR (some x1)) fun h =>
  nA .int h u v2 fun x2 h u =>
  pV h v0 2 2 (jR (some x2)) fun h =>
  nA .int h u v2 fun x3 h u =>
  pV h v0 2 3 (jR (some x3)) fun h =>
  Q h
set_option maxRecDepth 20000 in
theorem E_X2_init {d : Nat} {v0 : Option Nm} {v1 : Int32} {v2 : Int32} {h : MH} {u : Nat} {Q : MH → Prop} (H : F_X2_init d v0 v1 v2 h u Q) : T u_X2_init (d + 1) 0 [some (jR v0), some (jI v1), some (jI v2)] [] h u (qV Q) := by
  unfold F_X2_init at H
  refine T_aload_n (pc := 0) dX2_init_0 rfl rfl ?_
  obtain ⟨n0, H0, H⟩ := nn_out H
  refine T_objInit (pc := 1) dX2_init_1 c_2_130 c_1_25 c_1_26 H0 (Nat.le_of_ble_eq_true rfl) ?_
  refine T_aload_n (pc := 4) dX2_init_4 rfl rfl ?_
  refine T_iload_n (pc := 5) dX2_init_5 rfl rfl ?_
  refine T_pVF (pc := 6) fa_X2_9 rfl rfl dX2_init_6 trivial (pV_mono (fun h H => ?_) H)
  refine T_aload_n (pc := 9) dX2_init_9 rfl rfl ?_
  refine T_iload_n (pc := 10) dX2_init_10 rfl rfl ?_
  refine T_nA (pc := 11) dX2_init_11 rfl (by decide) c_1_65 (nA_mono (fun x1 h u H => ?_) H)
  refine T_pVF (pc := 13) fa_X2_15 rfl rfl dX2_init_13 trivial (pV_mono (fun h H => ?_) H)
  refine T_aload_n (pc := 16) dX2_init_16 rfl rfl ?_
  refine T_iload_n (pc := 17) dX2_init_17 rfl rfl ?_
  refine T_nA (pc := 18) dX2_init_18 rfl (by decide) c_1_65 (nA_mono (fun x2 h u H => ?_) H)
  refine T_pVF (pc := 20) fa_X2_19 rfl rfl dX2_init_20 trivial (pV_mono (fun h H => ?_) H)
  refine T_aload_n (pc := 23) dX2_init_23 rfl rfl ?_
  refine T_iload_n (pc := 24) dX2_init_24 rfl rfl ?_
  refine T_nA (pc := 25) dX2_init_25 rfl (by decide) c_1_65 (nA_mono (fun x3 h u H => ?_) H)
  refine T_pVF (pc := 27) fa_X2_22 rfl rfl dX2_init_27 trivial (pV_mono (fun h H => ?_) H)
  exact T_return (pc := 30) rfl dX2_init_30 H
theorem I_X2_init {d : Nat} {v0 : Option Nm} {v1 : Int32} {v2 : Int32} {h : MH} {u : Nat} {K : MH → Nat → Prop} (u1 : Nat) (hu : u1 ≤ u) (H : F_X2_init d v0 v1 v2 h u1 (fun h2 => K h2 (u - u1))) : iV (d + 1) u_X2_init [jR v0, jI v1, jI v2] h u K := inv.of u1 hu (Ct.of (by decide +kernel) rfl (Nat.le_of_ble_eq_true rfl) rfl (E_X2_init H))
theorem dX2_init__0 : decode cX2_init_ 0 = .ok (.aload_n 0, 1) := by decide +kernel
theorem dX2_init__1 : decode cX2_init_ 1 = .ok (.invokespecial 3, 3) := by decide +kernel
theorem dX2_init__4 : decode cX2_init_ 4 = .ok (.aload_n 0, 1) := by decide +kernel
theorem dX2_init__5 : decode cX2_init_ 5 = .ok (.iload_n 1, 1) := by decide +kernel
theorem dX2_init__6 : decode cX2_init_ 6 = .ok (.putfield 9, 3) := by decide +kernel
theorem dX2_init__9 : decode cX2_init_ 9 = .ok (.aload_n 0, 1) := by decide +kernel
theorem dX2_init__10 : decode cX2_init_ 10 = .ok (.aload_n 2, 1) := by decide +kernel
theorem dX2_init__11 : decode cX2_init_ 11 = .ok (.getfield 15, 3) := by decide +kernel
theorem dX2_init__14 : decode cX2_init_ 14 = .ok (.invokevirtual 25, 3) := by decide +kernel
theorem dX2_init__17 : decode cX2_init_ 17 = .ok (.checkcast 26, 3) := by decide +kernel
theorem dX2_init__20 : decode cX2_init_ 20 = .ok (.putfield 15, 3) := by decide +kernel
theorem dX2_init__23 : decode cX2_init_ 23 = .ok (.aload_n 0, 1) := by decide +kernel
theorem dX2_init__24 : decode cX2_init_ 24 = .ok (.aload_n 2, 1) := by decide +kernel
theorem dX2_init__25 : decode cX2_init_ 25 = .ok (.getfield 19, 3) := by decide +kernel
theorem dX2_init__28 : decode cX2_init_ 28 = .ok (.invokevirtual 25, 3) := by decide +kernel
theorem dX2_init__31 : decode cX2_init_ 31 = .ok (.checkcast 26, 3) := by decide +kernel
theorem dX2_init__34 : decode cX2_init_ 34 = .ok (.putfield 19, 3) := by decide +kernel
theorem dX2_init__37 : decode cX2_init_ 37 = .ok (.aload_n 0, 1) := by decide +kernel
theorem dX2_init__38 : decode cX2_init_ 38 = .ok (.aload_n 2, 1) := by decide +kernel
theorem dX2_init__39 : decode cX2_init_ 39 = .ok (.getfield 22, 3) := by decide +kernel
theorem dX2_init__42 : decode cX2_init_ 42 = .ok (.invokevirtual 25, 3) := by decide +kernel
theorem dX2_init__45 : decode cX2_init_ 45 = .ok (.checkcast 26, 3) := by decide +kernel
theorem dX2_init__48 : decode cX2_init_ 48 = .ok (.putfield 22, 3) := by decide +kernel
theorem dX2_init__51 : decode cX2_init_ 51 = .ok (.aload_n 0, 1) := by decide +kernel
theorem dX2_init__52 : decode cX2_init_ 52 = .ok (.aload_n 2, 1) := by decide +kernel
theorem dX2_init__53 : decode cX2_init_ 53 = .ok (.getfield 30, 3) := by decide +kernel
theorem dX2_init__56 : decode cX2_init_ 56 = .ok (.putfield 30, 3) := by decide +kernel
theorem dX2_init__59 : decode cX2_init_ 59 = .ok (.return_, 1) := by decide +kernel
def F_X2_init_ (d : Nat) (v0 : Option Nm) (v1 : Int32) (v2 : Option Nm) (h : MH) (u : Nat) (Q : MH → Prop) : Prop :=
  nn v0 <|
  pV h v0 2 0 (jI v1) fun h =>
  gR h v2 2 1 fun x1 =>
  cI h u x1 fun x2 h u =>
  pV h v0 2 1 (jR (some x2)) fun h =>
  gR h v2 2 2 fun x3 =>
  cI h u x3 fun x4 h u =>
  pV h v0 2 2 (jR (some x4)) fun h =>
  gR h v2 2 3 fun x5 =>
  cI h u x5 fun x6 h u =>
  pV h v0 2 3 (jR (some x6)) fun h =>
  gI h v2 2 4 fun x7 =>
  pV h v0 2 4 (jI x7) fun h =>
  Q h
set_option maxRecDepth 20000 in
theorem E_X2_init_ {d : Nat} {v0 : Option Nm} {v1 : Int32} {v2 : Option Nm} {h : MH} {u : Nat} {Q : MH → Prop} (H : F_X2_init_ d v0 v1 v2 h u Q) : T u_X2_init_ (d + 1) 0 [some (jR v0), some (jI v1), some (jR v2)] [] h u (qV Q) := by
  unfold F_X2_init_ at H
  refine T_aload_n (pc := 0) dX2_init__0 rfl rfl ?_
  obtain ⟨n0, H0, H⟩ := nn_out H
  refine T_objInit (pc := 1) dX2_init__1 c_2_130 c_1_25 c_1_26 H0 (Nat.le_of_ble_eq_true rfl) ?_
  refine T_aload_n (pc := 4) dX2_init__4 rfl rfl ?_
  refine T_iload_n (pc := 5) dX2_init__5 rfl rfl ?_
  refine T_pVF (pc := 6) fa_X2_9 rfl rfl dX2_init__6 trivial (pV_mono (fun h H => ?_) H)
  refine T_aload_n (pc := 9) dX2_init__9 rfl rfl ?_
  refine T_aload_n (pc := 10) dX2_init__10 rfl rfl ?_
  refine T_gR (pc := 11) fa_X2_15 dX2_init__11 (gR_mono (fun x1 H => ?_) H)
  refine T_cI (pc := 14) dX2_init__14 c_3_18 c_3_19 c_3_20 c_3_21 c_3_22 (by decide) ⟨26, dX2_init__17, c_3_24⟩ (Nat.le_of_ble_eq_true rfl) (cI_mono (fun x2 h u H => ?_) H)
  refine T_pVF (pc := 20) fa_X2_15 rfl rfl dX2_init__20 trivial (pV_mono (fun h H => ?_) H)
  refine T_aload_n (pc := 23) dX2_init__23 rfl rfl ?_
  refine T_aload_n (pc := 24) dX2_init__24 rfl rfl ?_
  refine T_gR (pc := 25) fa_X2_19 dX2_init__25 (gR_mono (fun x3 H => ?_) H)
  refine T_cI (pc := 28) dX2_init__28 c_3_18 c_3_19 c_3_20 c_3_21 c_3_22 (by decide) ⟨26, dX2_init__31, c_3_24⟩ (Nat.le_of_ble_eq_true rfl) (cI_mono (fun x4 h u H => ?_) H)
  refine T_pVF (pc := 34) fa_X2_19 rfl rfl dX2_init__34 trivial (pV_mono (fun h H => ?_) H)
  refine T_aload_n (pc := 37) dX2_init__37 rfl rfl ?_
  refine T_aload_n (pc := 38) dX2_init__38 rfl rfl ?_
  refine T_gR (pc := 39) fa_X2_22 dX2_init__39 (gR_mono (fun x5 H => ?_) H)
  refine T_cI (pc := 42) dX2_init__42 c_3_18 c_3_19 c_3_20 c_3_21 c_3_22 (by decide) ⟨26, dX2_init__45, c_3_24⟩ (Nat.le_of_ble_eq_true rfl) (cI_mono (fun x6 h u H => ?_) H)
  refine T_pVF (pc := 48) fa_X2_22 rfl rfl dX2_init__48 trivial (pV_mono (fun h H => ?_) H)
  refine T_aload_n (pc := 51) dX2_init__51 rfl rfl ?_
  refine T_aload_n (pc := 52) dX2_init__52 rfl rfl ?_
  refine T_gI (pc := 53) fa_X2_30 dX2_init__53 (gI_mono (fun x7 H => ?_) H)
  refine T_pV (pc := 56) fa_X2_30 dX2_init__56 trivial (pV_mono (fun h H => ?_) H)
  exact T_return (pc := 59) rfl dX2_init__59 H
theorem I_X2_init_ {d : Nat} {v0 : Option Nm} {v1 : Int32} {v2 : Option Nm} {h : MH} {u : Nat} {K : MH → Nat → Prop} (u1 : Nat) (hu : u1 ≤ u) (H : F_X2_init_ d v0 v1 v2 h u1 (fun h2 => K h2 (u - u1))) : iV (d + 1) u_X2_init_ [jR v0, jI v1, jR v2] h u K := inv.of u1 hu (Ct.of (by decide +kernel) rfl (Nat.le_of_ble_eq_true rfl) rfl (E_X2_init_ H))
theorem dX2_isFull_0 : decode cX2_isFull 0 = .ok (.aload_n 0, 1) := by decide +kernel
theorem dX2_isFull_1 : decode cX2_isFull 1 = .ok (.getfield 30, 3) := by decide +kernel
theorem dX2_isFull_4 : decode cX2_isFull 4 = .ok (.aload_n 0, 1) := by decide +kernel
theorem dX2_isFull_5 : decode cX2_isFull 5 = .ok (.getfield 15, 3) := by decide +kernel
theorem dX2_isFull_8 : decode cX2_isFull 8 = .ok (.arraylength, 1) := by decide +kernel
theorem dX2_isFull_9 : decode cX2_isFull 9 = .ok (.if_icmp .lt 7, 3) := by decide +kernel
theorem dX2_isFull_12 : decode cX2_isFull 12 = .ok (.iconst 1, 1) := by decide +kernel
theorem dX2_isFull_13 : decode cX2_isFull 13 = .ok (.goto 4, 3) := by decide +kernel
theorem dX2_isFull_16 : decode cX2_isFull 16 = .ok (.iconst 0, 1) := by decide +kernel
theorem dX2_isFull_17 : decode cX2_isFull 17 = .ok (.ireturn, 1) := by decide +kernel
def F_X2_isFull (d : Nat) (v0 : Option Nm) (h : MH) (u : Nat) (Q : Int32 → MH → Prop) : Prop :=
  gI h v0 2 4 fun x1 =>
  gR h v0 2 1 fun x2 =>
  aN h x2 fun x3 =>
  if x1 < x3 then
    nz 0 ∧ Q 0 h
  else
    nz 1 ∧ Q 1 h
set_option maxRecDepth 20000 in
theorem E_X2_isFull {d : Nat} {v0 : Option Nm} {h : MH} {u : Nat} {Q : Int32 → MH → Prop} (H : F_X2_isFull d v0 h u Q) : T u_X2_isFull d 0 [some (jR v0)] [] h u (qI Q) := by
  unfold F_X2_isFull at H
  refine T_aload_n (pc := 0) dX2_isFull_0 rfl rfl ?_
  refine T_gI (pc := 1) fa_X2_30 dX2_isFull_1 (gI_mono (fun x1 H => ?_) H)
  refine T_aload_n (pc := 4) dX2_isFull_4 rfl rfl ?_
  refine T_gR (pc := 5) fa_X2_15 dX2_isFull_5 (gR_mono (fun x2 H => ?_) H)
  refine T_aN (pc := 8) dX2_isFull_8 (aN_mono (fun x3 H => ?_) H)
  refine T_icmp_lt (pc := 9) (tgt := 16) dX2_isFull_9 (by decide) (fun hc => ?_) (fun hc => ?_)
  · rw [if_pos hc] at H
    refine T_iconst (pc := 16) (v := 0) dX2_isFull_16 (by decide) ?_
    exact T_ireturn (pc := 17) rfl (nz_nar H.1) dX2_isFull_17 H.2
  · rw [if_neg hc] at H
    refine T_iconst (pc := 12) (v := 1) dX2_isFull_12 (by decide) ?_
    refine T_goto (pc := 13) (tgt := 17) dX2_isFull_13 (by decide) ?_
    exact T_ireturn (pc := 17) rfl (nz_nar H.1) dX2_isFull_17 H.2
theorem I_X2_isFull {d : Nat} {v0 : Option Nm} {h : MH} {u : Nat} {K : Int32 → MH → Nat → Prop} (u1 : Nat) (hu : u1 ≤ u) (H : F_X2_isFull d v0 h u1 (fun x h2 => K x h2 (u - u1))) : iI d u_X2_isFull [jR v0] h u K := inv.of u1 hu (Ct.of (by decide +kernel) rfl (Nat.le_of_ble_eq_true rfl) rfl (E_X2_isFull H))
theorem dX2_find_0 : decode cX2_find 0 = .ok (.iconst 0, 1) := by decide +kernel
theorem dX2_find_1 : decode cX2_find 1 = .ok (.istore_n 2, 1) := by decide +kernel
theorem dX2_find_2 : decode cX2_find 2 = .ok (.iload_n 2, 1) := by decide +kernel
theorem dX2_find_3 : decode cX2_find 3 = .ok (.aload_n 0, 1) := by decide +kernel
theorem dX2_find_4 : decode cX2_find 4 = .ok (.getfield 30, 3) := by decide +kernel
theorem dX2_find_7 : decode cX2_find 7 = .ok (.if_icmp .ge 21, 3) := by decide +kernel
theorem dX2_find_10 : decode cX2_find 10 = .ok (.aload_n 0, 1) := by decide +kernel
theorem dX2_find_11 : decode cX2_find 11 = .ok (.getfield 15, 3) := by decide +kernel
theorem dX2_find_14 : decode cX2_find 14 = .ok (.iload_n 2, 1) := by decide +kernel
theorem dX2_find_15 : decode cX2_find 15 = .ok (.iaload, 1) := by decide +kernel
theorem dX2_find_16 : decode cX2_find 16 = .ok (.iload_n 1, 1) := by decide +kernel
theorem dX2_find_17 : decode cX2_find 17 = .ok (.if_icmp .ne 5, 3) := by decide +kernel
theorem dX2_find_20 : decode cX2_find 20 = .ok (.iload_n 2, 1) := by decide +kernel
theorem dX2_find_21 : decode cX2_find 21 = .ok (.ireturn, 1) := by decide +kernel
theorem dX2_find_22 : decode cX2_find 22 = .ok (.iinc 2 1, 3) := by decide +kernel
theorem dX2_find_25 : decode cX2_find 25 = .ok (.goto (-23), 3) := by decide +kernel
theorem dX2_find_28 : decode cX2_find 28 = .ok (.iconst (-1), 1) := by decide +kernel
theorem dX2_find_29 : decode cX2_find 29 = .ok (.ireturn, 1) := by decide +kernel
def L_X2_find_2 (d : Nat) (v0 : Option Nm) (v1 : Int32) (v2 : Int32) (h : MH) (u : Nat) (Q : Int32 → MH → Prop) : Prop := T u_X2_find d 2 [some (jR v0), some (jI v1), some (jI v2)] [] h u (qI Q)
def F_X2_find (d : Nat) (v0 : Option Nm) (v1 : Int32) (h : MH) (u : Nat) (Q : Int32 → MH → Prop) : Prop :=
  L_X2_find_2 d v0 v1 0 h u Q
set_option maxRecDepth 20000 in
theorem E_X2_find {d : Nat} {v0 : Option Nm} {v1 : Int32} {h : MH} {u : Nat} {Q : Int32 → MH → Prop} (H : F_X2_find d v0 v1 h u Q) : T u_X2_find d 0 [some (jR v0), some (jI v1), none] [] h u (qI Q) := by
  unfold F_X2_find at H
  refine T_iconst (pc := 0) (v := 0) dX2_find_0 (by decide) ?_
  refine T_istore_n (pc := 1) (ls2 := [some (jR v0), some (jI v1), some (jI 0)]) dX2_find_1 rfl (Nat.le_of_ble_eq_true rfl) rfl ?_
  exact T.forget H ⟨rfl, rfl, rfl, trivial⟩
def F_X2_find_2 (d : Nat) (v0 : Option Nm) (v1 : Int32) (v2 : Int32) (h : MH) (u : Nat) (Q : Int32 → MH → Prop) : Prop :=
  gI h v0 2 4 fun x1 =>
  if x1 ≤ v2 then
    Q (-1) h
  else
    gR h v0 2 1 fun x2 =>
    aI .int h x2 v2 fun x3 =>
    if x3 = v1 then
      Q v2 h
    else
      L_X2_find_2 d v0 v1 (v2 + 1) h u Q
set_option maxRecDepth 20000 in
theorem E_X2_find_2 {d : Nat} {v0 : Option Nm} {v1 : Int32} {v2 : Int32} {h : MH} {u : Nat} {Q : Int32 → MH → Prop} (H : F_X2_find_2 d v0 v1 v2 h u Q) : T u_X2_find d 2 [some (jR v0), some (jI v1), some (jI v2)] [] h u (qI Q) := by
  unfold F_X2_find_2 at H
  refine T_iload_n (pc := 2) dX2_find_2 rfl rfl ?_
  refine T_aload_n (pc := 3) dX2_find_3 rfl rfl ?_
  refine T_gI (pc := 4) fa_X2_30 dX2_find_4 (gI_mono (fun x1 H => ?_) H)
  refine T_icmp_ge (pc := 7) (tgt := 28) dX2_find_7 (by decide) (fun hc => ?_) (fun hc => ?_)
  · rw [if_pos hc] at H
    refine T_iconst (pc := 28) (v := (-1)) dX2_find_28 (by decide) ?_
    exact T_ireturn (pc := 29) rfl rfl dX2_find_29 H
  · rw [if_neg hc] at H
    refine T_aload_n (pc := 10) dX2_find_10 rfl rfl ?_
    refine T_gR (pc := 11) fa_X2_15 dX2_find_11 (gR_mono (fun x2 H => ?_) H)
    refine T_iload_n (pc := 14) dX2_find_14 rfl rfl ?_
    refine T_aI (pc := 15) dX2_find_15 (aI_mono (fun x3 H => ?_) H)
    refine T_iload_n (pc := 16) dX2_find_16 rfl rfl ?_
    refine T_icmp_ne (pc := 17) (tgt := 22) dX2_find_17 (by decide) (fun hc => ?_) (fun hc => ?_)
    · rw [if_neg hc] at H
      refine T_iinc (pc := 22) (v := v2 + 1) (ls2 := [some (jR v0), some (jI v1), some (jI (v2 + 1))]) dX2_find_22 rfl rfl (Nat.le_of_ble_eq_true rfl) rfl ?_
      refine T_goto (pc := 25) (tgt := 2) dX2_find_25 (by decide) ?_
      exact T.forget H ⟨rfl, rfl, rfl, trivial⟩
    · rw [if_pos hc] at H
      refine T_iload_n (pc := 20) dX2_find_20 rfl rfl ?_
      exact T_ireturn (pc := 21) rfl rfl dX2_find_21 H
theorem I_X2_find {d : Nat} {v0 : Option Nm} {v1 : Int32} {h : MH} {u : Nat} {K : Int32 → MH → Nat → Prop} (u1 : Nat) (hu : u1 ≤ u) (H : F_X2_find d v0 v1 h u1 (fun x h2 => K x h2 (u - u1))) : iI d u_X2_find [jR v0, jI v1] h u K := inv.of u1 hu (Ct.of (by decide +kernel) rfl (Nat.le_of_ble_eq_true rfl) rfl (E_X2_find H))
theorem dX2_add_0 : decode cX2_add 0 = .ok (.aload_n 0, 1) := by decide +kernel
theorem dX2_add_1 : decode cX2_add 1 = .ok (.invokevirtual 33, 3) := by decide +kernel
theorem dX2_add_4 : decode cX2_add 4 = .ok (.ifCond .eq 4, 3) := by decide +kernel
theorem dX2_add_7 : decode cX2_add 7 = .ok (.return_, 1) := by decide +kernel
theorem dX2_add_8 : decode cX2_add 8 = .ok (.aload_n 0, 1) := by decide +kernel
theorem dX2_add_9 : decode cX2_add 9 = .ok (.getfield 15, 3) := by decide +kernel
theorem dX2_add_12 : decode cX2_add 12 = .ok (.aload_n 0, 1) := by decide +kernel
theorem dX2_add_13 : decode cX2_add 13 = .ok (.getfield 30, 3) := by decide +kernel
theorem dX2_add_16 : decode cX2_add 16 = .ok (.iload_n 1, 1) := by decide +kernel
theorem dX2_add_17 : decode cX2_add 17 = .ok (.iastore, 1) := by decide +kernel
theorem dX2_add_18 : decode cX2_add 18 = .ok (.aload_n 0, 1) := by decide +kernel
theorem dX2_add_19 : decode cX2_add 19 = .ok (.getfield 19, 3) := by decide +kernel
theorem dX2_add_22 : decode cX2_add 22 = .ok (.aload_n 0, 1) := by decide +kernel
theorem dX2_add_23 : decode cX2_add 23 = .ok (.getfield 30, 3) := by decide +kernel
theorem dX2_add_26 : decode cX2_add 26 = .ok (.iload_n 2, 1) := by decide +kernel
theorem dX2_add_27 : decode cX2_add 27 = .ok (.iastore, 1) := by decide +kernel
theorem dX2_add_28 : decode cX2_add 28 = .ok (.aload_n 0, 1) := by decide +kernel
theorem dX2_add_29 : decode cX2_add 29 = .ok (.dup, 1) := by decide +kernel
theorem dX2_add_30 : decode cX2_add 30 = .ok (.getfield 30, 3) := by decide +kernel
theorem dX2_add_33 : decode cX2_add 33 = .ok (.iconst 1, 1) := by decide +kernel
theorem dX2_add_34 : decode cX2_add 34 = .ok (.iadd, 1) := by decide +kernel
theorem dX2_add_35 : decode cX2_add 35 = .ok (.putfield 30, 3) := by decide +kernel
theorem dX2_add_38 : decode cX2_add 38 = .ok (.return_, 1) := by decide +kernel
def F_X2_add (d : Nat) (v0 : Option Nm) (v1 : Int32) (v2 : Int32) (h : MH) (u : Nat) (Q : MH → Prop) : Prop :=
  rc h v0 2 ∧ iI d u_X2_isFull [jR v0] h u fun x1 h u =>
  if x1 = 0 then
    gR h v0 2 1 fun x2 =>
    gI h v0 2 4 fun x3 =>
    sV .int h x2 x3 (jI v1) fun h =>
    gR h v0 2 2 fun x4 =>
    gI h v0 2 4 fun x5 =>
    sV .int h x4 x5 (jI v2) fun h =>
    gI h v0 2 4 fun x6 =>
    pV h v0 2 4 (jI (x6 + 1)) fun h =>
    Q h
  else
    Q h
set_option maxRecDepth 20000 in
theorem E_X2_add {d : Nat} {v0 : Option Nm} {v1 : Int32} {v2 : Int32} {h : MH} {u : Nat} {Q : MH → Prop} (H : F_X2_add d v0 v1 v2 h u Q) : T u_X2_add (d + 1) 0 [some (jR v0), some (jI v1), some (jI v2)] [] h u (qV Q) := by
  unfold F_X2_add at H
  refine T_aload_n (pc := 0) dX2_add_0 rfl rfl ?_
  obtain ⟨H0, H⟩ := H
  refine T_iV (pc := 1) (ci := 2) (av := []) (rest := []) (o := v0) dX2_add_1 mf_X2_isFull c_2_229 c_2_222 c_2_223 rfl rfl (Nat.le_of_ble_eq_true rfl) rfl H0 (iI_k (iI_mono (fun x1 h u H => ?_) H))
  refine T_if_eq (pc := 4) (tgt := 8) dX2_add_4 (by decide) (fun hc => ?_) (fun hc => ?_)
  · rw [if_pos hc] at H
    refine T_aload_n (pc := 8) dX2_add_8 rfl rfl ?_
    refine T_gR (pc := 9) fa_X2_15 dX2_add_9 (gR_mono (fun x2 H => ?_) H)
    refine T_aload_n (pc := 12) dX2_add_12 rfl rfl ?_
    refine T_gI (pc := 13) fa_X2_30 dX2_add_13 (gI_mono (fun x3 H => ?_) H)
    refine T_iload_n (pc := 16) dX2_add_16 rfl rfl ?_
    refine T_sI (pc := 17) dX2_add_17 (sV_mono (fun h H => ?_) H)
    refine T_aload_n (pc := 18) dX2_add_18 rfl rfl ?_
    refine T_gR (pc := 19) fa_X2_19 dX2_add_19 (gR_mono (fun x4 H => ?_) H)
    refine T_aload_n (pc := 22) dX2_add_22 rfl rfl ?_
    refine T_gI (pc := 23) fa_X2_30 dX2_add_23 (gI_mono (fun x5 H => ?_) H)
    refine T_iload_n (pc := 26) dX2_add_26 rfl rfl ?_
    refine T_sI (pc := 27) dX2_add_27 (sV_mono (fun h H => ?_) H)
    refine T_aload_n (pc := 28) dX2_add_28 rfl rfl ?_
    refine T_dup (pc := 29) rfl dX2_add_29 ?_
    refine T_gI (pc := 30) fa_X2_30 dX2_add_30 (gI_mono (fun x6 H => ?_) H)
    refine T_iconst (pc := 33) (v := 1) dX2_add_33 (by decide) ?_
    refine T_iadd (pc := 34) dX2_add_34 ?_
    refine T_pV (pc := 35) fa_X2_30 dX2_add_35 trivial (pV_mono (fun h H => ?_) H)
    exact T_return (pc := 38) rfl dX2_add_38 H
  · rw [if_neg hc] at H
    exact T_return (pc := 7) rfl dX2_add_7 H
theorem I_X2_add {d : Nat} {v0 : Option Nm} {v1 : Int32} {v2 : Int32} {h : MH} {u : Nat} {K : MH → Nat → Prop} (u1 : Nat) (hu : u1 ≤ u) (H : F_X2_add d v0 v1 v2 h u1 (fun h2 => K h2 (u - u1))) : iV (d + 1) u_X2_add [jR v0, jI v1, jI v2] h u K := inv.of u1 hu (Ct.of (by decide +kernel) rfl (Nat.le_of_ble_eq_true rfl) rfl (E_X2_add H))
theorem dX2_drop_0 : decode cX2_drop 0 = .ok (.iload_n 1, 1) := by decide +kernel
theorem dX2_drop_1 : decode cX2_drop 1 = .ok (.ifCond .lt 11, 3) := by decide +kernel
theorem dX2_drop_4 : decode cX2_drop 4 = .ok (.iload_n 1, 1) := by decide +kernel
theorem dX2_drop_5 : decode cX2_drop 5 = .ok (.aload_n 0, 1) := by decide +kernel
theorem dX2_drop_6 : decode cX2_drop 6 = .ok (.getfield 30, 3) := by decide +kernel
theorem dX2_drop_9 : decode cX2_drop 9 = .ok (.if_icmp .lt 4, 3) := by decide +kernel
theorem dX2_drop_12 : decode cX2_drop 12 = .ok (.return_, 1) := by decide +kernel
theorem dX2_drop_13 : decode cX2_drop 13 = .ok (.iload_n 1, 1) := by decide +kernel
theorem dX2_drop_14 : decode cX2_drop 14 = .ok (.istore_n 2, 1) := by decide +kernel
theorem dX2_drop_15 : decode cX2_drop 15 = .ok (.iload_n 2, 1) := by decide +kernel
theorem dX2_drop_16 : decode cX2_drop 16 = .ok (.aload_n 0, 1) := by decide +kernel
theorem dX2_drop_17 : decode cX2_drop 17 = .ok (.getfield 30, 3) := by decide +kernel
theorem dX2_drop_20 : decode cX2_drop 20 = .ok (.iconst 1, 1) := by decide +kernel
theorem dX2_drop_21 : decode cX2_drop 21 = .ok (.isub, 1) := by decide +kernel
theorem dX2_drop_22 : decode cX2_drop 22 = .ok (.if_icmp .ge 17, 3) := by decide +kernel
theorem dX2_drop_25 : decode cX2_drop 25 = .ok (.aload_n 0, 1) := by decide +kernel
theorem dX2_drop_26 : decode cX2_drop 26 = .ok (.iload_n 2, 1) := by decide +kernel
theorem dX2_drop_27 : decode cX2_drop 27 = .ok (.iload_n 2, 1) := by decide +kernel
theorem dX2_drop_28 : decode cX2_drop 28 = .ok (.iconst 1, 1) := by decide +kernel
theorem dX2_drop_29 : decode cX2_drop 29 = .ok (.iadd, 1) := by decide +kernel
theorem dX2_drop_30 : decode cX2_drop 30 = .ok (.invokevirtual 37, 3) := by decide +kernel
theorem dX2_drop_33 : decode cX2_drop 33 = .ok (.iinc 2 1, 3) := by decide +kernel
theorem dX2_drop_36 : decode cX2_drop 36 = .ok (.goto (-21), 3) := by decide +kernel
theorem dX2_drop_39 : decode cX2_drop 39 = .ok (.aload_n 0, 1) := by decide +kernel
theorem dX2_drop_40 : decode cX2_drop 40 = .ok (.dup, 1) := by decide +kernel
theorem dX2_drop_41 : decode cX2_drop 41 = .ok (.getfield 30, 3) := by decide +kernel
theorem dX2_drop_44 : decode cX2_drop 44 = .ok (.iconst 1, 1) := by decide +kernel
theorem dX2_drop_45 : decode cX2_drop 45 = .ok (.isub, 1) := by decide +kernel
theorem dX2_drop_46 : decode cX2_drop 46 = .ok (.putfield 30, 3) := by decide +kernel
theorem dX2_drop_49 : decode cX2_drop 49 = .ok (.return_, 1) := by decide +kernel
def L_X2_drop_15 (d : Nat) (v0 : Option Nm) (v2 : Int32) (h : MH) (u : Nat) (Q : MH → Prop) : Prop := T u_X2_drop (d + 1) 15 [some (jR v0), none, some (jI v2)] [] h u (qV Q)
def F_X2_drop (d : Nat) (v0 : Option Nm) (v1 : Int32) (h : MH) (u : Nat) (Q : MH → Prop) : Prop :=
  if v1 < 0 then
    Q h
  else
    gI h v0 2 4 fun x1 =>
    if v1 < x1 then
      L_X2_drop_15 d v0 v1 h u Q
    else
      Q h
set_option maxRecDepth 20000 in
theorem E_X2_drop {d : Nat} {v0 : Option Nm} {v1 : Int32} {h : MH} {u : Nat} {Q : MH → Prop} (H : F_X2_drop d v0 v1 h u Q) : T u_X2_drop (d + 1) 0 [some (jR v0), some (jI v1), none] [] h u (qV Q) := by
  unfold F_X2_drop at H
  refine T_iload_n (pc := 0) dX2_drop_0 rfl rfl ?_
  refine T_if_lt (pc := 1) (tgt := 12) dX2_drop_1 (by decide) (fun hc => ?_) (fun hc => ?_)
  · rw [if_pos hc] at H
    exact T_return (pc := 12) rfl dX2_drop_12 H
  · rw [if_neg hc] at H
    refine T_iload_n (pc := 4) dX2_drop_4 rfl rfl ?_
    refine T_aload_n (pc := 5) dX2_drop_5 rfl rfl ?_
    refine T_gI (pc := 6) fa_X2_30 dX2_drop_6 (gI_mono (fun x1 H => ?_) H)
    refine T_icmp_lt (pc := 9) (tgt := 13) dX2_drop_9 (by decide) (fun hc => ?_) (fun hc => ?_)
    · rw [if_pos hc] at H
      refine T_iload_n (pc := 13) dX2_drop_13 rfl rfl ?_
      refine T_istore_n (pc := 14) (ls2 := [some (jR v0), some (jI v1), some (jI v1)]) dX2_drop_14 rfl (Nat.le_of_ble_eq_true rfl) rfl ?_
      exact T.forget H ⟨rfl, rfl, trivial⟩
    · rw [if_neg hc] at H
      exact T_return (pc := 12) rfl dX2_drop_12 H
def F_X2_drop_15 (d : Nat) (v0 : Option Nm) (v2 : Int32) (h : MH) (u : Nat) (Q : MH → Prop) : Prop :=
  gI h v0 2 4 fun x1 =>
  if (x1 - 1) ≤ v2 then
    gI h v0 2 4 fun x2 =>
    pV h v0 2 4 (jI (x2 - 1)) fun h =>
    Q h
  else
    rc h v0 2 ∧ iV d u_X2_exchange [jR v0, jI v2, jI (v2 + 1)] h u fun h u =>
    L_X2_drop_15 d v0 (v2 + 1) h u Q
set_option maxRecDepth 20000 in
theorem E_X2_drop_15 {d : Nat} {v0 : Option Nm} {v2 : Int32} {h : MH} {u : Nat} {Q : MH → Prop} (H : F_X2_drop_15 d v0 v2 h u Q) : T u_X2_drop (d + 1) 15 [some (jR v0), none, some (jI v2)] [] h u (qV Q) := by
  unfold F_X2_drop_15 at H
  refine T_iload_n (pc := 15) dX2_drop_15 rfl rfl ?_
  refine T_aload_n (pc := 16) dX2_drop_16 rfl rfl ?_
  refine T_gI (pc := 17) fa_X2_30 dX2_drop_17 (gI_mono (fun x1 H => ?_) H)
  refine T_iconst (pc := 20) (v := 1) dX2_drop_20 (by decide) ?_
  refine T_isub (pc := 21) dX2_drop_21 ?_
  refine T_icmp_ge (pc := 22) (tgt := 39) dX2_drop_22 (by decide) (fun hc => ?_) (fun hc => ?_)
  · rw [if_pos hc] at H
    refine T_aload_n (pc := 39) dX2_drop_39 rfl rfl ?_
    refine T_dup (pc := 40) rfl dX2_drop_40 ?_
    refine T_gI (pc := 41) fa_X2_30 dX2_drop_41 (gI_mono (fun x2 H => ?_) H)
    refine T_iconst (pc := 44) (v := 1) dX2_drop_44 (by decide) ?_
    refine T_isub (pc := 45) dX2_drop_45 ?_
    refine T_pV (pc := 46) fa_X2_30 dX2_drop_46 trivial (pV_mono (fun h H => ?_) H)
    exact T_return (pc := 49) rfl dX2_drop_49 H
  · rw [if_neg hc] at H
    refine T_aload_n (pc := 25) dX2_drop_25 rfl rfl ?_
    refine T_iload_n (pc := 26) dX2_drop_26 rfl rfl ?_
    refine T_iload_n (pc := 27) dX2_drop_27 rfl rfl ?_
    refine T_iconst (pc := 28) (v := 1) dX2_drop_28 (by decide) ?_
    refine T_iadd (pc := 29) dX2_drop_29 ?_
    obtain ⟨H0, H⟩ := H
    refine T_iV (pc := 30) (ci := 2) (av := [jI v2, jI (v2 + 1)]) (rest := []) (o := v0) dX2_drop_30 mf_X2_exchange c_3_32 c_3_34 pr_X2_exchange rfl rfl (Nat.le_of_ble_eq_true rfl) rfl H0 (iV_k (iV_mono (fun h u H => ?_) H))
    refine T_iinc (pc := 33) (v := v2 + 1) (ls2 := [some (jR v0), none, some (jI (v2 + 1))]) dX2_drop_33 rfl rfl (Nat.le_of_ble_eq_true rfl) rfl ?_
    refine T_goto (pc := 36) (tgt := 15) dX2_drop_36 (by decide) ?_
    exact T.forget H ⟨rfl, rfl, trivial⟩
theorem I_X2_drop {d : Nat} {v0 : Option Nm} {v1 : Int32} {h : MH} {u : Nat} {K : MH → Nat → Prop} (u1 : Nat) (hu : u1 ≤ u) (H : F_X2_drop d v0 v1 h u1 (fun h2 => K h2 (u - u1))) : iV (d + 1) u_X2_drop [jR v0, jI v1] h u K := inv.of u1 hu (Ct.of (by decide +kernel) rfl (Nat.le_of_ble_eq_true rfl) rfl (E_X2_drop H))
theorem dX2_changeLane_0 : decode cX2_changeLane 0 = .ok (.iload_n 1, 1) := by decide +kernel
theorem dX2_changeLane_1 : decode cX2_changeLane 1 = .ok (.ifCond .lt 18, 3) := by decide +kernel
theorem dX2_changeLane_4 : decode cX2_changeLane 4 = .ok (.iload_n 1, 1) := by decide +kernel
theorem dX2_changeLane_5 : decode cX2_changeLane 5 = .ok (.aload_n 0, 1) := by decide +kernel
theorem dX2_changeLane_6 : decode cX2_changeLane 6 = .ok (.getfield 30, 3) := by decide +kernel
theorem dX2_changeLane_9 : decode cX2_changeLane 9 = .ok (.if_icmp .ge 10, 3) := by decide +kernel
theorem dX2_changeLane_12 : decode cX2_changeLane 12 = .ok (.aload_n 0, 1) := by decide +kernel
theorem dX2_changeLane_13 : decode cX2_changeLane 13 = .ok (.getfield 19, 3) := by decide +kernel
theorem dX2_changeLane_16 : decode cX2_changeLane 16 = .ok (.iload_n 1, 1) := by decide +kernel
theorem dX2_changeLane_17 : decode cX2_changeLane 17 = .ok (.iload_n 2, 1) := by decide +kernel
theorem dX2_changeLane_18 : decode cX2_changeLane 18 = .ok (.iastore, 1) := by decide +kernel
theorem dX2_changeLane_19 : decode cX2_changeLane 19 = .ok (.return_, 1) := by decide +kernel
def F_X2_changeLane (d : Nat) (v0 : Option Nm) (v1 : Int32) (v2 : Int32) (h : MH) (u : Nat) (Q : MH → Prop) : Prop :=
  if v1 < 0 then
    Q h
  else
    gI h v0 2 4 fun x1 =>
    if x1 ≤ v1 then
      Q h
    else
      gR h v0 2 2 fun x2 =>
      sV .int h x2 v1 (jI v2) fun h =>
      Q h
set_option maxRecDepth 20000 in
theorem E_X2_changeLane {d : Nat} {v0 : Option Nm} {v1 : Int32} {v2 : Int32} {h : MH} {u : Nat} {Q : MH → Prop} (H : F_X2_changeLane d v0 v1 v2 h u Q) : T u_X2_changeLane d 0 [some (jR v0), some (jI v1), some (jI v2)] [] h u (qV Q) := by
  unfold F_X2_changeLane at H
  refine T_iload_n (pc := 0) dX2_changeLane_0 rfl rfl ?_
  refine T_if_lt (pc := 1) (tgt := 19) dX2_changeLane_1 (by decide) (fun hc => ?_) (fun hc => ?_)
  · rw [if_pos hc] at H
    exact T_return (pc := 19) rfl dX2_changeLane_19 H
  · rw [if_neg hc] at H
    refine T_iload_n (pc := 4) dX2_changeLane_4 rfl rfl ?_
    refine T_aload_n (pc := 5) dX2_changeLane_5 rfl rfl ?_
    refine T_gI (pc := 6) fa_X2_30 dX2_changeLane_6 (gI_mono (fun x1 H => ?_) H)
    refine T_icmp_ge (pc := 9) (tgt := 19) dX2_changeLane_9 (by decide) (fun hc => ?_) (fun hc => ?_)
    · rw [if_pos hc] at H
      exact T_return (pc := 19) rfl dX2_changeLane_19 H
    · rw [if_neg hc] at H
      refine T_aload_n (pc := 12) dX2_changeLane_12 rfl rfl ?_
      refine T_gR (pc := 13) fa_X2_19 dX2_changeLane_13 (gR_mono (fun x2 H => ?_) H)
      refine T_iload_n (pc := 16) dX2_changeLane_16 rfl rfl ?_
      refine T_iload_n (pc := 17) dX2_changeLane_17 rfl rfl ?_
      refine T_sI (pc := 18) dX2_changeLane_18 (sV_mono (fun h H => ?_) H)
      exact T_return (pc := 19) rfl dX2_changeLane_19 H
theorem I_X2_changeLane {d : Nat} {v0 : Option Nm} {v1 : Int32} {v2 : Int32} {h : MH} {u : Nat} {K : MH → Nat → Prop} (u1 : Nat) (hu : u1 ≤ u) (H : F_X2_changeLane d v0 v1 v2 h u1 (fun h2 => K h2 (u - u1))) : iV d u_X2_changeLane [jR v0, jI v1, jI v2] h u K := inv.of u1 hu (Ct.of (by decide +kernel) rfl (Nat.le_of_ble_eq_true rfl) rfl (E_X2_changeLane H))
theorem dX2_reverse_0 : decode cX2_reverse 0 = .ok (.iconst 0, 1) := by decide +kernel
theorem dX2_reverse_1 : decode cX2_reverse 1 = .ok (.istore_n 1, 1) := by decide +kernel
theorem dX2_reverse_2 : decode cX2_reverse 2 = .ok (.iload_n 1, 1) := by decide +kernel
theorem dX2_reverse_3 : decode cX2_reverse 3 = .ok (.aload_n 0, 1) := by decide +kernel
theorem dX2_reverse_4 : decode cX2_reverse 4 = .ok (.getfield 30, 3) := by decide +kernel
theorem dX2_reverse_7 : decode cX2_reverse 7 = .ok (.iconst 2, 1) := by decide +kernel
theorem dX2_reverse_8 : decode cX2_reverse 8 = .ok (.idiv, 1) := by decide +kernel
theorem dX2_reverse_9 : decode cX2_reverse 9 = .ok (.if_icmp .ge 22, 3) := by decide +kernel
theorem dX2_reverse_12 : decode cX2_reverse 12 = .ok (.aload_n 0, 1) := by decide +kernel
theorem dX2_reverse_13 : decode cX2_reverse 13 = .ok (.iload_n 1, 1) := by decide +kernel
theorem dX2_reverse_14 : decode cX2_reverse 14 = .ok (.aload_n 0, 1) := by decide +kernel
theorem dX2_reverse_15 : decode cX2_reverse 15 = .ok (.getfield 30, 3) := by decide +kernel
theorem dX2_reverse_18 : decode cX2_reverse 18 = .ok (.iconst 1, 1) := by decide +kernel
theorem dX2_reverse_19 : decode cX2_reverse 19 = .ok (.isub, 1) := by decide +kernel
theorem dX2_reverse_20 : decode cX2_reverse 20 = .ok (.iload_n 1, 1) := by decide +kernel
theorem dX2_reverse_21 : decode cX2_reverse 21 = .ok (.isub, 1) := by decide +kernel
theorem dX2_reverse_22 : decode cX2_reverse 22 = .ok (.invokevirtual 37, 3) := by decide +kernel
theorem dX2_reverse_25 : decode cX2_reverse 25 = .ok (.iinc 1 1, 3) := by decide +kernel
theorem dX2_reverse_28 : decode cX2_reverse 28 = .ok (.goto (-26), 3) := by decide +kernel
theorem dX2_reverse_31 : decode cX2_reverse 31 = .ok (.return_, 1) := by decide +kernel
def L_X2_reverse_2 (d : Nat) (v0 : Option Nm) (v1 : Int32) (h : MH) (u : Nat) (Q : MH → Prop) : Prop := T u_X2_reverse (d + 1) 2 [some (jR v0), some (jI v1)] [] h u (qV Q)
def F_X2_reverse (d : Nat) (v0 : Option Nm) (h : MH) (u : Nat) (Q : MH → Prop) : Prop :=
  L_X2_reverse_2 d v0 0 h u Q
set_option maxRecDepth 20000 in
theorem E_X2_reverse {d : Nat} {v0 : Option Nm} {h : MH} {u : Nat} {Q : MH → Prop} (H : F_X2_reverse d v0 h u Q) : T u_X2_reverse (d + 1) 0 [some (jR v0), none] [] h u (qV Q) := by
  unfold F_X2_reverse at H
  refine T_iconst (pc := 0) (v := 0) dX2_reverse_0 (by decide) ?_
  refine T_istore_n (pc := 1) (ls2 := [some (jR v0), some (jI 0)]) dX2_reverse_1 rfl (Nat.le_of_ble_eq_true rfl) rfl ?_
  exact T.forget H ⟨rfl, rfl, trivial⟩
def F_X2_reverse_2 (d : Nat) (v0 : Option Nm) (v1 : Int32) (h : MH) (u : Nat) (Q : MH → Prop) : Prop :=
  gI h v0 2 4 fun x1 =>
  if (x1 / 2) ≤ v1 then
    Q h
  else
    gI h v0 2 4 fun x2 =>
    rc h v0 2 ∧ iV d u_X2_exchange [jR v0, jI v1, jI ((x2 - 1) - v1)] h u fun h u =>
    L_X2_reverse_2 d v0 (v1 + 1) h u Q
set_option maxRecDepth 20000 in
theorem E_X2_reverse_2 {d : Nat} {v0 : Option Nm} {v1 : Int32} {h : MH} {u : Nat} {Q : MH → Prop} (H : F_X2_reverse_2 d v0 v1 h u Q) : T u_X2_reverse (d + 1) 2 [some (jR v0), some (jI v1)] [] h u (qV Q) := by
  unfold F_X2_reverse_2 at H
  refine T_iload_n (pc := 2) dX2_reverse_2 rfl rfl ?_
  refine T_aload_n (pc := 3) dX2_reverse_3 rfl rfl ?_
  refine T_gI (pc := 4) fa_X2_30 dX2_reverse_4 (gI_mono (fun x1 H => ?_) H)
  refine T_iconst (pc := 7) (v := 2) dX2_reverse_7 (by decide) ?_
  refine T_idiv (pc := 8) dX2_reverse_8 (by decide) ?_
  refine T_icmp_ge (pc := 9) (tgt := 31) dX2_reverse_9 (by decide) (fun hc => ?_) (fun hc => ?_)
  · rw [if_pos hc] at H
    exact T_return (pc := 31) rfl dX2_reverse_31 H
  · rw [if_neg hc] at H
    refine T_aload_n (pc := 12) dX2_reverse_12 rfl rfl ?_
    refine T_iload_n (pc := 13) dX2_reverse_13 rfl rfl ?_
    refine T_aload_n (pc := 14) dX2_reverse_14 rfl rfl ?_
    refine T_gI (pc := 15) fa_X2_30 dX2_reverse_15 (gI_mono (fun x2 H => ?_) H)
    refine T_iconst (pc := 18) (v := 1) dX2_reverse_18 (by decide) ?_
    refine T_isub (pc := 19) dX2_reverse_19 ?_
    refine T_iload_n (pc := 20) dX2_reverse_20 rfl rfl ?_
    refine T_isub (pc := 21) dX2_reverse_21 ?_
    obtain ⟨H0, H⟩ := H
    refine T_iV (pc := 22) (ci := 2) (av := [jI v1, jI ((x2 - 1) - v1)]) (rest := []) (o := v0) dX2_reverse_22 mf_X2_exchange c_3_32 c_3_34 pr_X2_exchange rfl rfl (Nat.le_of_ble_eq_true rfl) rfl H0 (iV_k (iV_mono (fun h u H => ?_) H))
    refine T_iinc (pc := 25) (v := v1 + 1) (ls2 := [some (jR v0), some (jI (v1 + 1))]) dX2_reverse_25 rfl rfl (Nat.le_of_ble_eq_true rfl) rfl ?_
    refine T_goto (pc := 28) (tgt := 2) dX2_reverse_28 (by decide) ?_
    exact T.forget H ⟨rfl, rfl, trivial⟩
theorem I_X2_reverse {d : Nat} {v0 : Option Nm} {h : MH} {u : Nat} {K : MH → Nat → Prop} (u1 : Nat) (hu : u1 ≤ u) (H : F_X2_reverse d v0 h u1 (fun h2 => K h2 (u - u1))) : iV (d + 1) u_X2_reverse [jR v0] h u K := inv.of u1 hu (Ct.of (by decide +kernel) rfl (Nat.le_of_ble_eq_true rfl) rfl (E_X2_reverse H))
theorem dX2_exchange_0 : decode cX2_exchange 0 = .ok (.aload_n 0, 1) := by decide +kernel
theorem dX2_exchange_1 : decode cX2_exchange 1 = .ok (.getfield 15, 3) := by decide +kernel
theorem dX2_exchange_4 : decode cX2_exchange 4 = .ok (.iload_n 1, 1) := by decide +kernel
theorem dX2_exchange_5 : decode cX2_exchange 5 = .ok (.iaload, 1) := by decide +kernel
theorem dX2_exchange_6 : decode cX2_exchange 6 = .ok (.istore_n 3, 1) := by decide +kernel
theorem dX2_exchange_7 : decode cX2_exchange 7 = .ok (.aload_n 0, 1) := by decide +kernel
theorem dX2_exchange_8 : decode cX2_exchange 8 = .ok (.getfield 19, 3) := by decide +kernel
theorem dX2_exchange_11 : decode cX2_exchange 11 = .ok (.iload_n 1, 1) := by decide +kernel
theorem dX2_exchange_12 : decode cX2_exchange 12 = .ok (.iaload, 1) := by decide +kernel
theorem dX2_exchange_13 : decode cX2_exchange 13 = .ok (.istore 4, 2) := by decide +kernel
theorem dX2_exchange_15 : decode cX2_exchange 15 = .ok (.aload_n 0, 1) := by decide +kernel
theorem dX2_exchange_16 : decode cX2_exchange 16 = .ok (.getfield 22, 3) := by decide +kernel
theorem dX2_exchange_19 : decode cX2_exchange 19 = .ok (.iload_n 1, 1) := by decide +kernel
theorem dX2_exchange_20 : decode cX2_exchange 20 = .ok (.iaload, 1) := by decide +kernel
theorem dX2_exchange_21 : decode cX2_exchange 21 = .ok (.istore 5, 2) := by decide +kernel
theorem dX2_exchange_23 : decode cX2_exchange 23 = .ok (.aload_n 0, 1) := by decide +kernel
theorem dX2_exchange_24 : decode cX2_exchange 24 = .ok (.getfield 15, 3) := by decide +kernel
theorem dX2_exchange_27 : decode cX2_exchange 27 = .ok (.iload_n 1, 1) := by decide +kernel
theorem dX2_exchange_28 : decode cX2_exchange 28 = .ok (.aload_n 0, 1) := by decide +kernel
theorem dX2_exchange_29 : decode cX2_exchange 29 = .ok (.getfield 15, 3) := by decide +kernel
theorem dX2_exchange_32 : decode cX2_exchange 32 = .ok (.iload_n 2, 1) := by decide +kernel
theorem dX2_exchange_33 : decode cX2_exchange 33 = .ok (.iaload, 1) := by decide +kernel
theorem dX2_exchange_34 : decode cX2_exchange 34 = .ok (.iastore, 1) := by decide +kernel
theorem dX2_exchange_35 : decode cX2_exchange 35 = .ok (.aload_n 0, 1) := by decide +kernel
theorem dX2_exchange_36 : decode cX2_exchange 36 = .ok (.getfield 19, 3) := by decide +kernel
theorem dX2_exchange_39 : decode cX2_exchange 39 = .ok (.iload_n 1, 1) := by decide +kernel
theorem dX2_exchange_40 : decode cX2_exchange 40 = .ok (.aload_n 0, 1) := by decide +kernel
theorem dX2_exchange_41 : decode cX2_exchange 41 = .ok (.getfield 19, 3) := by decide +kernel
theorem dX2_exchange_44 : decode cX2_exchange 44 = .ok (.iload_n 2, 1) := by decide +kernel
theorem dX2_exchange_45 : decode cX2_exchange 45 = .ok (.iaload, 1) := by decide +kernel
theorem dX2_exchange_46 : decode cX2_exchange 46 = .ok (.iastore, 1) := by decide +kernel
theorem dX2_exchange_47 : decode cX2_exchange 47 = .ok (.aload_n 0, 1) := by decide +kernel
theorem dX2_exchange_48 : decode cX2_exchange 48 = .ok (.getfield 22, 3) := by decide +kernel
theorem dX2_exchange_51 : decode cX2_exchange 51 = .ok (.iload_n 1, 1) := by decide +kernel
theorem dX2_exchange_52 : decode cX2_exchange 52 = .ok (.aload_n 0, 1) := by decide +kernel
theorem dX2_exchange_53 : decode cX2_exchange 53 = .ok (.getfield 22, 3) := by decide +kernel
theorem dX2_exchange_56 : decode cX2_exchange 56 = .ok (.iload_n 2, 1) := by decide +kernel
theorem dX2_exchange_57 : decode cX2_exchange 57 = .ok (.iaload, 1) := by decide +kernel
theorem dX2_exchange_58 : decode cX2_exchange 58 = .ok (.iastore, 1) := by decide +kernel
theorem dX2_exchange_59 : decode cX2_exchange 59 = .ok (.aload_n 0, 1) := by decide +kernel
theorem dX2_exchange_60 : decode cX2_exchange 60 = .ok (.getfield 15, 3) := by decide +kernel
theorem dX2_exchange_63 : decode cX2_exchange 63 = .ok (.iload_n 2, 1) := by decide +kernel
theorem dX2_exchange_64 : decode cX2_exchange 64 = .ok (.iload_n 3, 1) := by decide +kernel
theorem dX2_exchange_65 : decode cX2_exchange 65 = .ok (.iastore, 1) := by decide +kernel
theorem dX2_exchange_66 : decode cX2_exchange 66 = .ok (.aload_n 0, 1) := by decide +kernel
theorem dX2_exchange_67 : decode cX2_exchange 67 = .ok (.getfield 19, 3) := by decide +kernel
theorem dX2_exchange_70 : decode cX2_exchange 70 = .ok (.iload_n 2, 1) := by decide +kernel
theorem dX2_exchange_71 : decode cX2_exchange 71 = .ok (.iload 4, 2) := by decide +kernel
theorem dX2_exchange_73 : decode cX2_exchange 73 = .ok (.iastore, 1) := by decide +kernel
theorem dX2_exchange_74 : decode cX2_exchange 74 = .ok (.aload_n 0, 1) := by decide +kernel
theorem dX2_exchange_75 : decode cX2_exchange 75 = .ok (.getfield 22, 3) := by decide +kernel
theorem dX2_exchange_78 : decode cX2_exchange 78 = .ok (.iload_n 2, 1) := by decide +kernel
theorem dX2_exchange_79 : decode cX2_exchange 79 = .ok (.iload 5, 2) := by decide +kernel
theorem dX2_exchange_81 : decode cX2_exchange 81 = .ok (.iastore, 1) := by decide +kernel
theorem dX2_exchange_82 : decode cX2_exchange 82 = .ok (.return_, 1) := by decide +kernel
def F_X2_exchange (d : Nat) (v0 : Option Nm) (v1 : Int32) (v2 : Int32) (h : MH) (u : Nat) (Q : MH → Prop) : Prop :=
  gR h v0 2 1 fun x1 =>
  aI .int h x1 v1 fun x2 =>
  gR h v0 2 2 fun x3 =>
  aI .int h x3 v1 fun x4 =>
  gR h v0 2 3 fun x5 =>
  aI .int h x5 v1 fun x6 =>
  gR h v0 2 1 fun x7 =>
  gR h v0 2 1 fun x8 =>
  aI .int h x8 v2 fun x9 =>
  sV .int h x7 v1 (jI x9) fun h =>
  gR h v0 2 2 fun x10 =>
  gR h v0 2 2 fun x11 =>
  aI .int h x11 v2 fun x12 =>
  sV .int h x10 v1 (jI x12) fun h =>
  gR h v0 2 3 fun x13 =>
  gR h v0 2 3 fun x14 =>
  aI .int h x14 v2 fun x15 =>
  sV .int h x13 v1 (jI x15) fun h =>
  gR h v0 2 1 fun x16 =>
  sV .int h x16 v2 (jI x2) fun h =>
  gR h v0 2 2 fun x17 =>
  sV .int h x17 v2 (jI x4) fun h =>
  gR h v0 2 3 fun x18 =>
  sV .int h x18 v2 (jI x6) fun h =>
  Q h
set_option maxRecDepth 20000 in
theorem E_X2_exchange {d : Nat} {v0 : Option Nm} {v1 : Int32} {v2 : Int32} {h : MH} {u : Nat} {Q : MH → Prop} (H : F_X2_exchange d v0 v1 v2 h u Q) : T u_X2_exchange d 0 [some (jR v0), some (jI v1), some (jI v2), none, none, none] [] h u (qV Q) := by
  unfold F_X2_exchange at H
  refine T_aload_n (pc := 0) dX2_exchange_0 rfl rfl ?_
  refine T_gR (pc := 1) fa_X2_15 dX2_exchange_1 (gR_mono (fun x1 H => ?_) H)
  refine T_iload_n (pc := 4) dX2_exchange_4 rfl rfl ?_
  refine T_aI (pc := 5) dX2_exchange_5 (aI_mono (fun x2 H => ?_) H)
  refine T_istore_n (pc := 6) (ls2 := [some (jR v0), some (jI v1), some (jI v2), some (jI x2), none, none]) dX2_exchange_6 rfl (Nat.le_of_ble_eq_true rfl) rfl ?_
  refine T_aload_n (pc := 7) dX2_exchange_7 rfl rfl ?_
  refine T_gR (pc := 8) fa_X2_19 dX2_exchange_8 (gR_mono (fun x3 H => ?_) H)
  refine T_iload_n (pc := 11) dX2_exchange_11 rfl rfl ?_
  refine T_aI (pc := 12) dX2_exchange_12 (aI_mono (fun x4 H => ?_) H)
  refine T_istore (pc := 13) (ls2 := [some (jR v0), some (jI v1), some (jI v2), some (jI x2), some (jI x4), none]) dX2_exchange_13 (Nat.le_of_ble_eq_true rfl) rfl ?_
  refine T_aload_n (pc := 15) dX2_exchange_15 rfl rfl ?_
  refine T_gR (pc := 16) fa_X2_22 dX2_exchange_16 (gR_mono (fun x5 H => ?_) H)
  refine T_iload_n (pc := 19) dX2_exchange_19 rfl rfl ?_
  refine T_aI (pc := 20) dX2_exchange_20 (aI_mono (fun x6 H => ?_) H)
  refine T_istore (pc := 21) (ls2 := [some (jR v0), some (jI v1), some (jI v2), some (jI x2), some (jI x4), some (jI x6)]) dX2_exchange_21 (Nat.le_of_ble_eq_true rfl) rfl ?_
  refine T_aload_n (pc := 23) dX2_exchange_23 rfl rfl ?_
  refine T_gR (pc := 24) fa_X2_15 dX2_exchange_24 (gR_mono (fun x7 H => ?_) H)
  refine T_iload_n (pc := 27) dX2_exchange_27 rfl rfl ?_
  refine T_aload_n (pc := 28) dX2_exchange_28 rfl rfl ?_
  refine T_gR (pc := 29) fa_X2_15 dX2_exchange_29 (gR_mono (fun x8 H => ?_) H)
  refine T_iload_n (pc := 32) dX2_exchange_32 rfl rfl ?_
  refine T_aI (pc := 33) dX2_exchange_33 (aI_mono (fun x9 H => ?_) H)
  refine T_sI (pc := 34) dX2_exchange_34 (sV_mono (fun h H => ?_) H)
  refine T_aload_n (pc := 35) dX2_exchange_35 rfl rfl ?_
  refine T_gR (pc := 36) fa_X2_19 dX2_exchange_36 (gR_mono (fun x10 H => ?_) H)
  refine T_iload_n (pc := 39) dX2_exchange_39 rfl rfl ?_
  refine T_aload_n (pc := 40) dX2_exchange_40 rfl rfl ?_
  refine T_gR (pc := 41) fa_X2_19 dX2_exchange_41 (gR_mono (fun x11 H => ?_) H)
  refine T_iload_n (pc := 44) dX2_exchange_44 rfl rfl ?_
  refine T_aI (pc := 45) dX2_exchange_45 (aI_mono (fun x12 H => ?_) H)
  refine T_sI (pc := 46) dX2_exchange_46 (sV_mono (fun h H => ?_) H)
  refine T_aload_n (pc := 47) dX2_exchange_47 rfl rfl ?_
  refine T_gR (pc := 48) fa_X2_22 dX2_exchange_48 (gR_mono (fun x13 H => ?_) H)
  refine T_iload_n (pc := 51) dX2_exchange_51 rfl rfl ?_
  refine T_aload_n (pc := 52) dX2_exchange_52 rfl rfl ?_
  refine T_gR (pc := 53) fa_X2_22 dX2_exchange_53 (gR_mono (fun x14 H => ?_) H)
  refine T_iload_n (pc := 56) dX2_exchange_56 rfl rfl ?_
  refine T_aI (pc := 57) dX2_exchange_57 (aI_mono (fun x15 H => ?_) H)
  refine T_sI (pc := 58) dX2_exchange_58 (sV_mono (fun h H => ?_) H)
  refine T_aload_n (pc := 59) dX2_exchange_59 rfl rfl ?_
  refine T_gR (pc := 60) fa_X2_15 dX2_exchange_60 (gR_mono (fun x16 H => ?_) H)
  refine T_iload_n (pc := 63) dX2_exchange_63 rfl rfl ?_
  refine T_iload_n (pc := 64) dX2_exchange_64 rfl rfl ?_
  refine T_sI (pc := 65) dX2_exchange_65 (sV_mono (fun h H => ?_) H)
  refine T_aload_n (pc := 66) dX2_exchange_66 rfl rfl ?_
  refine T_gR (pc := 67) fa_X2_19 dX2_exchange_67 (gR_mono (fun x17 H => ?_) H)
  refine T_iload_n (pc := 70) dX2_exchange_70 rfl rfl ?_
  refine T_iload (pc := 71) dX2_exchange_71 rfl ?_
  refine T_sI (pc := 73) dX2_exchange_73 (sV_mono (fun h H => ?_) H)
  refine T_aload_n (pc := 74) dX2_exchange_74 rfl rfl ?_
  refine T_gR (pc := 75) fa_X2_22 dX2_exchange_75 (gR_mono (fun x18 H => ?_) H)
  refine T_iload_n (pc := 78) dX2_exchange_78 rfl rfl ?_
  refine T_iload (pc := 79) dX2_exchange_79 rfl ?_
  refine T_sI (pc := 81) dX2_exchange_81 (sV_mono (fun h H => ?_) H)
  exact T_return (pc := 82) rfl dX2_exchange_82 H
theorem I_X2_exchange {d : Nat} {v0 : Option Nm} {v1 : Int32} {v2 : Int32} {h : MH} {u : Nat} {K : MH → Nat → Prop} (u1 : Nat) (hu : u1 ≤ u) (H : F_X2_exchange d v0 v1 v2 h u1 (fun h2 => K h2 (u - u1))) : iV d u_X2_exchange [jR v0, jI v1, jI v2] h u K := inv.of u1 hu (Ct.of (by decide +kernel) rfl (Nat.le_of_ble_eq_true rfl) rfl (E_X2_exchange H))
theorem dX3_init_0 : decode cX3_init 0 = .ok (.aload_n 0, 1) := by decide +kernel
theorem dX3_init_1 : decode cX3_init 1 = .ok (.invokespecial 3, 3) := by decide +kernel
theorem dX3_init_4 : decode cX3_init 4 = .ok (.aload_n 0, 1) := by decide +kernel
theorem dX3_init_5 : decode cX3_init 5 = .ok (.iload_n 1, 1) := by decide +kernel
theorem dX3_init_6 : decode cX3_init 6 = .ok (.putfield 9, 3) := by decide +kernel
theorem dX3_init_9 : decode cX3_init 9 = .ok (.aload_n 0, 1) := by decide +kernel
theorem dX3_init_10 : decode cX3_init 10 = .ok (.iload_n 2, 1) := by decide +kernel
theorem dX3_init_11 : decode cX3_init 11 = .ok (.putfield 15, 3) := by decide +kernel
theorem dX3_init_14 : decode cX3_init 14 = .ok (.aload_n 0, 1) := by decide +kernel
theorem dX3_init_15 : decode cX3_init 15 = .ok (.iload_n 3, 1) := by decide +kernel
theorem dX3_init_16 : decode cX3_init 16 = .ok (.putfield 19, 3) := by decide +kernel
theorem dX3_init_19 : decode cX3_init 19 = .ok (.aload_n 0, 1) := by decide +kernel
theorem dX3_init_20 : decode cX3_init 20 = .ok (.iconst 4, 1) := by decide +kernel
theorem dX3_init_21 : decode cX3_init 21 = .ok (.anewarray 22, 3) := by decide +kernel
theorem dX3_init_24 : decode cX3_init 24 = .ok (.putfield 24, 3) := by decide +kernel
theorem dX3_init_27 : decode cX3_init 27 = .ok (.aload_n 0, 1) := by decide +kernel
theorem dX3_init_28 : decode cX3_init 28 = .ok (.getfield 24, 3) := by decide +kernel
theorem dX3_init_31 : decode cX3_init 31 = .ok (.iconst 0, 1) := by decide +kernel
theorem dX3_init_32 : decode cX3_init 32 = .ok (.new 22, 3) := by decide +kernel
theorem dX3_init_35 : decode cX3_init 35 = .ok (.dup, 1) := by decide +kernel
theorem dX3_init_36 : decode cX3_init 36 = .ok (.iconst 0, 1) := by decide +kernel
theorem dX3_init_37 : decode cX3_init 37 = .ok (.iload_n 2, 1) := by decide +kernel
theorem dX3_init_38 : decode cX3_init 38 = .ok (.ifCond .eq 8, 3) := by decide +kernel
theorem dX3_init_41 : decode cX3_init 41 = .ok (.bipush 8, 2) := by decide +kernel
theorem dX3_init_43 : decode cX3_init 43 = .ok (.goto 5, 3) := by decide +kernel
theorem dX3_init_46 : decode cX3_init 46 = .ok (.bipush 6, 2) := by decide +kernel
theorem dX3_init_48 : decode cX3_init 48 = .ok (.invokespecial 28, 3) := by decide +kernel
theorem dX3_init_51 : decode cX3_init 51 = .ok (.aastore, 1) := by decide +kernel
theorem dX3_init_52 : decode cX3_init 52 = .ok (.aload_n 0, 1) := by decide +kernel
theorem dX3_init_53 : decode cX3_init 53 = .ok (.iconst 1, 1) := by decide +kernel
theorem dX3_init_54 : decode cX3_init 54 = .ok (.putfield 31, 3) := by decide +kernel
theorem dX3_init_57 : decode cX3_init 57 = .ok (.return_, 1) := by decide +kernel
def F_X3_init_48 (d : Nat) (v0 : Option Nm) (s0 : Option Nm) (s1 : Int32) (s2 : Option Nm) (s3 : Option Nm) (s4 : Int32) (s5 : Int32) (h : MH) (u : Nat) (Q : MH → Prop) : Prop :=
  nn s3 <| iV d u_X2_init [jR s3, jI s4, jI s5] h u fun h u =>
  rc h s2 2 ∧ sV (.object "RecordBridge$Edition") h s0 s1 (jR s2) fun h =>
  pV h v0 3 4 (jI 1) fun h =>
  Q h
set_option maxRecDepth 20000 in
theorem E_X3_init_48 {d : Nat} {v0 : Option Nm} {s0 : Option Nm} {s1 : Int32} {s2 : Option Nm} {s3 : Option Nm} {s4 : Int32} {s5 : Int32} {h : MH} {u : Nat} {Q : MH → Prop} (H : F_X3_init_48 d v0 s0 s1 s2 s3 s4 s5 h u Q) : T u_X3_init (d + 1) 48 [some (jR v0), none, none, none] [jI s5, jI s4, jR s3, jR s2, jI s1, jR s0] h u (qV Q) := by
  unfold F_X3_init_48 at H
  obtain ⟨n0, H0, H⟩ := nn_out H
  refine T_invIo (pc := 48) (av := [jI s4, jI s5]) (rest := [jR s2, jI s1, jR s0]) H0 dX3_init_48 mf_X2_init rfl rfl c_2_127 c_2_128 rfl (Nat.le_of_ble_eq_true rfl) rfl (iV_k (iV_mono (fun h u H => ?_) H))
  refine T_sR (pc := 51) (ci := 2) dX3_init_51 rfl ⟨H.1, sV_mono (fun h H => ?_) H.2⟩
  refine T_aload_n (pc := 52) dX3_init_52 rfl rfl ?_
  refine T_iconst (pc := 53) (v := 1) dX3_init_53 (by decide) ?_
  refine T_pV (pc := 54) fa_X3_31 dX3_init_54 trivial (pV_mono (fun h H => ?_) H)
  exact T_return (pc := 57) rfl dX3_init_57 H
def F_X3_init (d : Nat) (v0 : Option Nm) (v1 : Int32) (v2 : Int32) (v3 : Int32) (h : MH) (u : Nat) (Q : MH → Prop) : Prop :=
  nn v0 <|
  pV h v0 3 0 (jI v1) fun h =>
  nz v2 ∧
  pV h v0 3 1 (jI v2) fun h =>
  pV h v0 3 2 (jI v3) fun h =>
  nA (.object "RecordBridge$Edition") h u 4 fun x1 h u =>
  pV h v0 3 3 (jR (some x1)) fun h =>
  gR h v0 3 3 fun x2 =>
  nO h u 2 [jI 0, jR none, jR none, jR none, jI 0] fun x3 h u =>
  if v2 = 0 then
    F_X3_init_48 d v0 x2 0 (some x3) (some x3) 0 6 h u Q
  else
    F_X3_init_48 d v0 x2 0 (some x3) (some x3) 0 8 h u Q
set_option maxRecDepth 20000 in
theorem E_X3_init {d : Nat} {v0 : Option Nm} {v1 : Int32} {v2 : Int32} {v3 : Int32} {h : MH} {u : Nat} {Q : MH → Prop} (H : F_X3_init d v0 v1 v2 v3 h u Q) : T u_X3_init (d + 1) 0 [some (jR v0), some (jI v1), some (jI v2), some (jI v3)] [] h u (qV Q) := by
  unfold F_X3_init at H
  refine T_aload_n (pc := 0) dX3_init_0 rfl rfl ?_
  obtain ⟨n0, H0, H⟩ := nn_out H
  refine T_objInit (pc := 1) dX3_init_1 c_2_123 c_1_25 c_1_26 H0 (Nat.le_of_ble_eq_true rfl) ?_
  refine T_aload_n (pc := 4) dX3_init_4 rfl rfl ?_
  refine T_iload_n (pc := 5) dX3_init_5 rfl rfl ?_
  refine T_pVF (pc := 6) fa_X3_9 rfl rfl dX3_init_6 trivial (pV_mono (fun h H => ?_) H)
  refine T_aload_n (pc := 9) dX3_init_9 rfl rfl ?_
  refine T_iload_n (pc := 10) dX3_init_10 rfl rfl ?_
  obtain ⟨H0, H⟩ := H
  refine T_pVF (pc := 11) fa_X3_15 rfl rfl dX3_init_11 H0 (pV_mono (fun h H => ?_) H)
  refine T_aload_n (pc := 14) dX3_init_14 rfl rfl ?_
  refine T_iload_n (pc := 15) dX3_init_15 rfl rfl ?_
  refine T_pVF (pc := 16) fa_X3_19 rfl rfl dX3_init_16 trivial (pV_mono (fun h H => ?_) H)
  refine T_aload_n (pc := 19) dX3_init_19 rfl rfl ?_
  refine T_iconst (pc := 20) (v := 4) dX3_init_20 (by decide) ?_
  refine T_nAR (pc := 21) dX3_init_21 (by decide) c_2_124 (by decide) (nA_mono (fun x1 h u H => ?_) H)
  refine T_pVF (pc := 24) fa_X3_24 rfl rfl dX3_init_24 trivial (pV_mono (fun h H => ?_) H)
  refine T_aload_n (pc := 27) dX3_init_27 rfl rfl ?_
  refine T_gR (pc := 28) fa_X3_24 dX3_init_28 (gR_mono (fun x2 H => ?_) H)
  refine T_iconst (pc := 31) (v := 0) dX3_init_31 (by decide) ?_
  refine T_nO (pc := 32) nf_X3_22 dX3_init_32 (nO_mono (fun x3 h u H => ?_) H)
  refine T_dup (pc := 35) rfl dX3_init_35 ?_
  refine T_iconst (pc := 36) (v := 0) dX3_init_36 (by decide) ?_
  refine T_iload_n (pc := 37) dX3_init_37 rfl rfl ?_
  refine T_if_eq (pc := 38) (tgt := 46) dX3_init_38 (by decide) (fun hc => ?_) (fun hc => ?_)
  · rw [if_pos hc] at H
    refine T_bipush (pc := 46) (v := 6) dX3_init_46 (by decide) ?_
    exact T.forget (E_X3_init_48 H) ⟨rfl, trivial⟩
  · rw [if_neg hc] at H
    refine T_bipush (pc := 41) (v := 8) dX3_init_41 (by decide) ?_
    refine T_goto (pc := 43) (tgt := 48) dX3_init_43 (by decide) ?_
    exact T.forget (E_X3_init_48 H) ⟨rfl, trivial⟩
theorem I_X3_init {d : Nat} {v0 : Option Nm} {v1 : Int32} {v2 : Int32} {v3 : Int32} {h : MH} {u : Nat} {K : MH → Nat → Prop} (u1 : Nat) (hu : u1 ≤ u) (H : F_X3_init d v0 v1 v2 v3 h u1 (fun h2 => K h2 (u - u1))) : iV (d + 1) u_X3_init [jR v0, jI v1, jI v2, jI v3] h u K := inv.of u1 hu (Ct.of (by decide +kernel) rfl (Nat.le_of_ble_eq_true rfl) rfl (E_X3_init H))
theorem dX3_newest_0 : decode cX3_newest 0 = .ok (.aload_n 0, 1) := by decide +kernel
theorem dX3_newest_1 : decode cX3_newest 1 = .ok (.getfield 24, 3) := by decide +kernel
theorem dX3_newest_4 : decode cX3_newest 4 = .ok (.aload_n 0, 1) := by decide +kernel
theorem dX3_newest_5 : decode cX3_newest 5 = .ok (.getfield 31, 3) := by decide +kernel
theorem dX3_newest_8 : decode cX3_newest 8 = .ok (.iconst 1, 1) := by decide +kernel
theorem dX3_newest_9 : decode cX3_newest 9 = .ok (.isub, 1) := by decide +kernel
theorem dX3_newest_10 : decode cX3_newest 10 = .ok (.aaload, 1) := by decide +kernel
theorem dX3_newest_11 : decode cX3_newest 11 = .ok (.areturn, 1) := by decide +kernel
def F_X3_newest (d : Nat) (v0 : Option Nm) (h : MH) (u : Nat) (Q : Option Nm → MH → Prop) : Prop :=
  gR h v0 3 3 fun x1 =>
  gI h v0 3 4 fun x2 =>
  aR "RecordBridge$Edition" h x1 (x2 - 1) fun x3 =>
  Q x3 h
set_option maxRecDepth 20000 in
theorem E_X3_newest {d : Nat} {v0 : Option Nm} {h : MH} {u : Nat} {Q : Option Nm → MH → Prop} (H : F_X3_newest d v0 h u Q) : T u_X3_newest d 0 [some (jR v0)] [] h u (qR Q) := by
  unfold F_X3_newest at H
  refine T_aload_n (pc := 0) dX3_newest_0 rfl rfl ?_
  refine T_gR (pc := 1) fa_X3_24 dX3_newest_1 (gR_mono (fun x1 H => ?_) H)
  refine T_aload_n (pc := 4) dX3_newest_4 rfl rfl ?_
  refine T_gI (pc := 5) fa_X3_31 dX3_newest_5 (gI_mono (fun x2 H => ?_) H)
  refine T_iconst (pc := 8) (v := 1) dX3_newest_8 (by decide) ?_
  refine T_isub (pc := 9) dX3_newest_9 ?_
  refine T_aR (pc := 10) dX3_newest_10 (aR_mono (fun x3 H => ?_) H)
  exact T_areturn (pc := 11) rfl (Or.inl ⟨_, rfl⟩) dX3_newest_11 H
theorem I_X3_newest {d : Nat} {v0 : Option Nm} {h : MH} {u : Nat} {K : Option Nm → MH → Nat → Prop} (u1 : Nat) (hu : u1 ≤ u) (H : F_X3_newest d v0 h u1 (fun x h2 => K x h2 (u - u1))) : iR d u_X3_newest [jR v0] h u K := inv.of u1 hu (Ct.of (by decide +kernel) rfl (Nat.le_of_ble_eq_true rfl) rfl (E_X3_newest H))
theorem dX3_takesLane_0 : decode cX3_takesLane 0 = .ok (.aload_n 0, 1) := by decide +kernel
theorem dX3_takesLane_1 : decode cX3_takesLane 1 = .ok (.getfield 15, 3) := by decide +kernel
theorem dX3_takesLane_4 : decode cX3_takesLane 4 = .ok (.ifCond .ne 10, 3) := by decide +kernel
theorem dX3_takesLane_7 : decode cX3_takesLane 7 = .ok (.iload_n 1, 1) := by decide +kernel
theorem dX3_takesLane_8 : decode cX3_takesLane 8 = .ok (.invokestatic 34, 3) := by decide +kernel
theorem dX3_takesLane_11 : decode cX3_takesLane 11 = .ok (.ifCond .eq 7, 3) := by decide +kernel
theorem dX3_takesLane_14 : decode cX3_takesLane 14 = .ok (.iconst 1, 1) := by decide +kernel
theorem dX3_takesLane_15 : decode cX3_takesLane 15 = .ok (.goto 4, 3) := by decide +kernel
theorem dX3_takesLane_18 : decode cX3_takesLane 18 = .ok (.iconst 0, 1) := by decide +kernel
theorem dX3_takesLane_19 : decode cX3_takesLane 19 = .ok (.ireturn, 1) := by decide +kernel
def F_X3_takesLane (d : Nat) (v0 : Option Nm) (v1 : Int32) (h : MH) (u : Nat) (Q : Int32 → MH → Prop) : Prop :=
  gI h v0 3 1 fun x1 =>
  if x1 = 0 then
    iI d u_X4_isLane [jI v1] h u fun x2 h u =>
    if x2 = 0 then
      nz 0 ∧ Q 0 h
    else
      nz 1 ∧ Q 1 h
  else
    nz 1 ∧ Q 1 h
set_option maxRecDepth 20000 in
theorem E_X3_takesLane {d : Nat} {v0 : Option Nm} {v1 : Int32} {h : MH} {u : Nat} {Q : Int32 → MH → Prop} (H : F_X3_takesLane d v0 v1 h u Q) : T u_X3_takesLane (d + 1) 0 [some (jR v0), some (jI v1)] [] h u (qI Q) := by
  unfold F_X3_takesLane at H
  refine T_aload_n (pc := 0) dX3_takesLane_0 rfl rfl ?_
  refine T_gI (pc := 1) fa_X3_15 dX3_takesLane_1 (gI_mono (fun x1 H => ?_) H)
  refine T_if_ne (pc := 4) (tgt := 14) dX3_takesLane_4 (by decide) (fun hc => ?_) (fun hc => ?_)
  · rw [if_neg hc] at H
    refine T_iconst (pc := 14) (v := 1) dX3_takesLane_14 (by decide) ?_
    refine T_goto (pc := 15) (tgt := 19) dX3_takesLane_15 (by decide) ?_
    exact T_ireturn (pc := 19) rfl (nz_nar H.1) dX3_takesLane_19 H.2
  · rw [if_pos hc] at H
    refine T_iload_n (pc := 7) dX3_takesLane_7 rfl rfl ?_
    refine T_invS (pc := 8) (av := [jI v1]) (rest := []) dX3_takesLane_8 mf_X4_isLane c_2_210 c_2_211 rfl (Nat.le_of_ble_eq_true rfl) rfl (iI_k (iI_mono (fun x2 h u H => ?_) H))
    refine T_if_eq (pc := 11) (tgt := 18) dX3_takesLane_11 (by decide) (fun hc => ?_) (fun hc => ?_)
    · rw [if_pos hc] at H
      refine T_iconst (pc := 18) (v := 0) dX3_takesLane_18 (by decide) ?_
      exact T_ireturn (pc := 19) rfl (nz_nar H.1) dX3_takesLane_19 H.2
    · rw [if_neg hc] at H
      refine T_iconst (pc := 14) (v := 1) dX3_takesLane_14 (by decide) ?_
      refine T_goto (pc := 15) (tgt := 19) dX3_takesLane_15 (by decide) ?_
      exact T_ireturn (pc := 19) rfl (nz_nar H.1) dX3_takesLane_19 H.2
theorem I_X3_takesLane {d : Nat} {v0 : Option Nm} {v1 : Int32} {h : MH} {u : Nat} {K : Int32 → MH → Nat → Prop} (u1 : Nat) (hu : u1 ≤ u) (H : F_X3_takesLane d v0 v1 h u1 (fun x h2 => K x h2 (u - u1))) : iI (d + 1) u_X3_takesLane [jR v0, jI v1] h u K := inv.of u1 hu (Ct.of (by decide +kernel) rfl (Nat.le_of_ble_eq_true rfl) rfl (E_X3_takesLane H))
theorem dX3_hasRoomForEdition_0 : decode cX3_hasRoomForEdition 0 = .ok (.aload_n 0, 1) := by decide +kernel
theorem dX3_hasRoomForEdition_1 : decode cX3_hasRoomForEdition 1 = .ok (.getfield 31, 3) := by decide +kernel
theorem dX3_hasRoomForEdition_4 : decode cX3_hasRoomForEdition 4 = .ok (.iconst 4, 1) := by decide +kernel
theorem dX3_hasRoomForEdition_5 : decode cX3_hasRoomForEdition 5 = .ok (.if_icmp .ge 7, 3) := by decide +kernel
theorem dX3_hasRoomForEdition_8 : decode cX3_hasRoomForEdition 8 = .ok (.iconst 1, 1) := by decide +kernel
theorem dX3_hasRoomForEdition_9 : decode cX3_hasRoomForEdition 9 = .ok (.goto 4, 3) := by decide +kernel
theorem dX3_hasRoomForEdition_12 : decode cX3_hasRoomForEdition 12 = .ok (.iconst 0, 1) := by decide +kernel
theorem dX3_hasRoomForEdition_13 : decode cX3_hasRoomForEdition 13 = .ok (.ireturn, 1) := by decide +kernel
def F_X3_hasRoomForEdition (d : Nat) (v0 : Option Nm) (h : MH) (u : Nat) (Q : Int32 → MH → Prop) : Prop :=
  gI h v0 3 4 fun x1 =>
  if 4 ≤ x1 then
    nz 0 ∧ Q 0 h
  else
    nz 1 ∧ Q 1 h
set_option maxRecDepth 20000 in
theorem E_X3_hasRoomForEdition {d : Nat} {v0 : Option Nm} {h : MH} {u : Nat} {Q : Int32 → MH → Prop} (H : F_X3_hasRoomForEdition d v0 h u Q) : T u_X3_hasRoomForEdition d 0 [some (jR v0)] [] h u (qI Q) := by
  unfold F_X3_hasRoomForEdition at H
  refine T_aload_n (pc := 0) dX3_hasRoomForEdition_0 rfl rfl ?_
  refine T_gI (pc := 1) fa_X3_31 dX3_hasRoomForEdition_1 (gI_mono (fun x1 H => ?_) H)
  refine T_iconst (pc := 4) (v := 4) dX3_hasRoomForEdition_4 (by decide) ?_
  refine T_icmp_ge (pc := 5) (tgt := 12) dX3_hasRoomForEdition_5 (by decide) (fun hc => ?_) (fun hc => ?_)
  · rw [if_pos hc] at H
    refine T_iconst (pc := 12) (v := 0) dX3_hasRoomForEdition_12 (by decide) ?_
    exact T_ireturn (pc := 13) rfl (nz_nar H.1) dX3_hasRoomForEdition_13 H.2
  · rw [if_neg hc] at H
    refine T_iconst (pc := 8) (v := 1) dX3_hasRoomForEdition_8 (by decide) ?_
    refine T_goto (pc := 9) (tgt := 13) dX3_hasRoomForEdition_9 (by decide) ?_
    exact T_ireturn (pc := 13) rfl (nz_nar H.1) dX3_hasRoomForEdition_13 H.2
theorem I_X3_hasRoomForEdition {d : Nat} {v0 : Option Nm} {h : MH} {u : Nat} {K : Int32 → MH → Nat → Prop} (u1 : Nat) (hu : u1 ≤ u) (H : F_X3_hasRoomForEdition d v0 h u1 (fun x h2 => K x h2 (u - u1))) : iI d u_X3_hasRoomForEdition [jR v0] h u K := inv.of u1 hu (Ct.of (by decide +kernel) rfl (Nat.le_of_ble_eq_true rfl) rfl (E_X3_hasRoomForEdition H))
theorem dX3_addEdition_0 : decode cX3_addEdition 0 = .ok (.aload_n 0, 1) := by decide +kernel
theorem dX3_addEdition_1 : decode cX3_addEdition 1 = .ok (.invokevirtual 40, 3) := by decide +kernel
theorem dX3_addEdition_4 : decode cX3_addEdition 4 = .ok (.ifCond .eq 37, 3) := by decide +kernel
theorem dX3_addEdition_7 : decode cX3_addEdition 7 = .ok (.aload_n 0, 1) := by decide +kernel
theorem dX3_addEdition_8 : decode cX3_addEdition 8 = .ok (.getfield 24, 3) := by decide +kernel
theorem dX3_addEdition_11 : decode cX3_addEdition 11 = .ok (.aload_n 0, 1) := by decide +kernel
theorem dX3_addEdition_12 : decode cX3_addEdition 12 = .ok (.getfield 31, 3) := by decide +kernel
theorem dX3_addEdition_15 : decode cX3_addEdition 15 = .ok (.new 22, 3) := by decide +kernel
theorem dX3_addEdition_18 : decode cX3_addEdition 18 = .ok (.dup, 1) := by decide +kernel
theorem dX3_addEdition_19 : decode cX3_addEdition 19 = .ok (.aload_n 0, 1) := by decide +kernel
theorem dX3_addEdition_20 : decode cX3_addEdition 20 = .ok (.getfield 31, 3) := by decide +kernel
theorem dX3_addEdition_23 : decode cX3_addEdition 23 = .ok (.aload_n 0, 1) := by decide +kernel
theorem dX3_addEdition_24 : decode cX3_addEdition 24 = .ok (.invokevirtual 44, 3) := by decide +kernel
theorem dX3_addEdition_27 : decode cX3_addEdition 27 = .ok (.invokespecial 48, 3) := by decide +kernel
theorem dX3_addEdition_30 : decode cX3_addEdition 30 = .ok (.aastore, 1) := by decide +kernel
theorem dX3_addEdition_31 : decode cX3_addEdition 31 = .ok (.aload_n 0, 1) := by decide +kernel
theorem dX3_addEdition_32 : decode cX3_addEdition 32 = .ok (.dup, 1) := by decide +kernel
theorem dX3_addEdition_33 : decode cX3_addEdition 33 = .ok (.getfield 31, 3) := by decide +kernel
theorem dX3_addEdition_36 : decode cX3_addEdition 36 = .ok (.iconst 1, 1) := by decide +kernel
theorem dX3_addEdition_37 : decode cX3_addEdition 37 = .ok (.iadd, 1) := by decide +kernel
theorem dX3_addEdition_38 : decode cX3_addEdition 38 = .ok (.putfield 31, 3) := by decide +kernel
theorem dX3_addEdition_41 : decode cX3_addEdition 41 = .ok (.aload_n 0, 1) := by decide +kernel
theorem dX3_addEdition_42 : decode cX3_addEdition 42 = .ok (.invokevirtual 44, 3) := by decide +kernel
theorem dX3_addEdition_45 : decode cX3_addEdition 45 = .ok (.areturn, 1) := by decide +kernel
def F_X3_addEdition (d : Nat) (v0 : Option Nm) (h : MH) (u : Nat) (Q : Option Nm → MH → Prop) : Prop :=
  rc h v0 3 ∧ iI d u_X3_hasRoomForEdition [jR v0] h u fun x1 h u =>
  if x1 = 0 then
    rc h v0 3 ∧ iR d u_X3_newest [jR v0] h u fun x2 h u =>
    Q x2 h
  else
    gR h v0 3 3 fun x3 =>
    gI h v0 3 4 fun x4 =>
    nO h u 2 [jI 0, jR none, jR none, jR none, jI 0] fun x5 h u =>
    gI h v0 3 4 fun x6 =>
    rc h v0 3 ∧ iR d u_X3_newest [jR v0] h u fun x7 h u =>
    iV d u_X2_init_ [jR (some x5), jI x6, jR x7] h u fun h u =>
    rc h (some x5) 2 ∧ sV (.object "RecordBridge$Edition") h x3 x4 (jR (some x5)) fun h =>
    gI h v0 3 4 fun x9 =>
    pV h v0 3 4 (jI (x9 + 1)) fun h =>
    rc h v0 3 ∧ iR d u_X3_newest [jR v0] h u fun x10 h u =>
    Q x10 h
set_option maxRecDepth 20000 in
theorem E_X3_addEdition {d : Nat} {v0 : Option Nm} {h : MH} {u : Nat} {Q : Option Nm → MH → Prop} (H : F_X3_addEdition d v0 h u Q) : T u_X3_addEdition (d + 1) 0 [some (jR v0)] [] h u (qR Q) := by
  unfold F_X3_addEdition at H
  refine T_aload_n (pc := 0) dX3_addEdition_0 rfl rfl ?_
  obtain ⟨H0, H⟩ := H
  refine T_iV (pc := 1) (ci := 3) (av := []) (rest := []) (o := v0) dX3_addEdition_1 mf_X3_hasRoomForEdition c_3_13 c_3_2 c_3_3 rfl rfl (Nat.le_of_ble_eq_true rfl) rfl H0 (iI_k (iI_mono (fun x1 h u H => ?_) H))
  refine T_if_eq (pc := 4) (tgt := 41) dX3_addEdition_4 (by decide) (fun hc => ?_) (fun hc => ?_)
  · rw [if_pos hc] at H
    refine T_aload_n (pc := 41) dX3_addEdition_41 rfl rfl ?_
    obtain ⟨H0, H⟩ := H
    refine T_iV (pc := 42) (ci := 3) (av := []) (rest := []) (o := v0) dX3_addEdition_42 mf_X3_newest c_3_14 c_2_214 c_2_215 rfl rfl (Nat.le_of_ble_eq_true rfl) rfl H0 (iR_k (iR_mono (fun x2 h u H => ?_) H))
    exact T_areturn (pc := 45) rfl (Or.inl ⟨_, rfl⟩) dX3_addEdition_45 H
  · rw [if_neg hc] at H
    refine T_aload_n (pc := 7) dX3_addEdition_7 rfl rfl ?_
    refine T_gR (pc := 8) fa_X3_24 dX3_addEdition_8 (gR_mono (fun x3 H => ?_) H)
    refine T_aload_n (pc := 11) dX3_addEdition_11 rfl rfl ?_
    refine T_gI (pc := 12) fa_X3_31 dX3_addEdition_12 (gI_mono (fun x4 H => ?_) H)
    refine T_nO (pc := 15) nf_X3_22 dX3_addEdition_15 (nO_mono (fun x5 h u H => ?_) H)
    refine T_dup (pc := 18) rfl dX3_addEdition_18 ?_
    refine T_aload_n (pc := 19) dX3_addEdition_19 rfl rfl ?_
    refine T_gI (pc := 20) fa_X3_31 dX3_addEdition_20 (gI_mono (fun x6 H => ?_) H)
    refine T_aload_n (pc := 23) dX3_addEdition_23 rfl rfl ?_
    obtain ⟨H0, H⟩ := H
    refine T_iV (pc := 24) (ci := 3) (av := []) (rest := [jI x6, jR (some x5), jR (some x5), jI x4, jR x3]) (o := v0) dX3_addEdition_24 mf_X3_newest c_3_14 c_2_214 c_2_215 rfl rfl (Nat.le_of_ble_eq_true rfl) rfl H0 (iR_k (iR_mono (fun x7 h u H => ?_) H))
    refine T_invI (pc := 27) (av := [jI x6, jR x7]) (rest := [jR (some x5), jI x4, jR x3]) dX3_addEdition_27 mf_X2_init_ rfl rfl c_3_15 c_3_16 rfl (Nat.le_of_ble_eq_true rfl) rfl (iV_k (iV_mono (fun h u H => ?_) H))
    refine T_sR (pc := 30) (ci := 2) dX3_addEdition_30 rfl ⟨H.1, sV_mono (fun h H => ?_) H.2⟩
    refine T_aload_n (pc := 31) dX3_addEdition_31 rfl rfl ?_
    refine T_dup (pc := 32) rfl dX3_addEdition_32 ?_
    refine T_gI (pc := 33) fa_X3_31 dX3_addEdition_33 (gI_mono (fun x9 H => ?_) H)
    refine T_iconst (pc := 36) (v := 1) dX3_addEdition_36 (by decide) ?_
    refine T_iadd (pc := 37) dX3_addEdition_37 ?_
    refine T_pV (pc := 38) fa_X3_31 dX3_addEdition_38 trivial (pV_mono (fun h H => ?_) H)
    refine T_aload_n (pc := 41) dX3_addEdition_41 rfl rfl ?_
    obtain ⟨H0, H⟩ := H
    refine T_iV (pc := 42) (ci := 3) (av := []) (rest := []) (o := v0) dX3_addEdition_42 mf_X3_newest c_3_14 c_2_214 c_2_215 rfl rfl (Nat.le_of_ble_eq_true rfl) rfl H0 (iR_k (iR_mono (fun x10 h u H => ?_) H))
    exact T_areturn (pc := 45) rfl (Or.inl ⟨_, rfl⟩) dX3_addEdition_45 H
theorem I_X3_addEdition {d : Nat} {v0 : Option Nm} {h : MH} {u : Nat} {K : Option Nm → MH → Nat → Prop} (u1 : Nat) (hu : u1 ≤ u) (H : F_X3_addEdition d v0 h u1 (fun x h2 => K x h2 (u - u1))) : iR (d + 1) u_X3_addEdition [jR v0] h u K := inv.of u1 hu (Ct.of (by decide +kernel) rfl (Nat.le_of_ble_eq_true rfl) rfl (E_X3_addEdition H))
theorem dX7_init_0 : decode cX7_init 0 = .ok (.aload_n 0, 1) := by decide +kernel
theorem dX7_init_1 : decode cX7_init 1 = .ok (.invokespecial 3, 3) := by decide +kernel
theorem dX7_init_4 : decode cX7_init 4 = .ok (.aload_n 0, 1) := by decide +kernel
theorem dX7_init_5 : decode cX7_init 5 = .ok (.bipush 60, 2) := by decide +kernel
theorem dX7_init_7 : decode cX7_init 7 = .ok (.anewarray 9, 3) := by decide +kernel
theorem dX7_init_10 : decode cX7_init 10 = .ok (.putfield 11, 3) := by decide +kernel
theorem dX7_init_13 : decode cX7_init 13 = .ok (.aload_n 0, 1) := by decide +kernel
theorem dX7_init_14 : decode cX7_init 14 = .ok (.sipush 200, 3) := by decide +kernel
theorem dX7_init_17 : decode cX7_init 17 = .ok (.anewarray 17, 3) := by decide +kernel
theorem dX7_init_20 : decode cX7_init 20 = .ok (.putfield 19, 3) := by decide +kernel
theorem dX7_init_23 : decode cX7_init 23 = .ok (.return_, 1) := by decide +kernel
def F_X7_init (d : Nat) (v0 : Option Nm) (h : MH) (u : Nat) (Q : MH → Prop) : Prop :=
  nn v0 <|
  nA (.object "RecordBridge$Row") h u 60 fun x1 h u =>
  pV h v0 6 0 (jR (some x1)) fun h =>
  nA (.object "RecordBridge$Value") h u 200 fun x2 h u =>
  pV h v0 6 1 (jR (some x2)) fun h =>
  Q h
set_option maxRecDepth 20000 in
theorem E_X7_init {d : Nat} {v0 : Option Nm} {h : MH} {u : Nat} {Q : MH → Prop} (H : F_X7_init d v0 h u Q) : T u_X7_init (d + 1) 0 [some (jR v0)] [] h u (qV Q) := by
  unfold F_X7_init at H
  refine T_aload_n (pc := 0) dX7_init_0 rfl rfl ?_
  obtain ⟨n0, H0, H⟩ := nn_out H
  refine T_objInit (pc := 1) dX7_init_1 c_1_32 c_1_25 c_1_26 H0 (Nat.le_of_ble_eq_true rfl) ?_
  refine T_aload_n (pc := 4) dX7_init_4 rfl rfl ?_
  refine T_bipush (pc := 5) (v := 60) dX7_init_5 (by decide) ?_
  refine T_nAR (pc := 7) dX7_init_7 (by decide) c_1_33 (by decide) (nA_mono (fun x1 h u H => ?_) H)
  refine T_pVF (pc := 10) fa_X7_11 rfl rfl dX7_init_10 trivial (pV_mono (fun h H => ?_) H)
  refine T_aload_n (pc := 13) dX7_init_13 rfl rfl ?_
  refine T_sipush (pc := 14) (v := 200) dX7_init_14 (by decide) ?_
  refine T_nAR (pc := 17) dX7_init_17 (by decide) c_1_35 (by decide) (nA_mono (fun x2 h u H => ?_) H)
  refine T_pVF (pc := 20) fa_X7_19 rfl rfl dX7_init_20 trivial (pV_mono (fun h H => ?_) H)
  exact T_return (pc := 23) rfl dX7_init_23 H
theorem I_X7_init {d : Nat} {v0 : Option Nm} {h : MH} {u : Nat} {K : MH → Nat → Prop} (u1 : Nat) (hu : u1 ≤ u) (H : F_X7_init d v0 h u1 (fun h2 => K h2 (u - u1))) : iV (d + 1) u_X7_init [jR v0] h u K := inv.of u1 hu (Ct.of (by decide +kernel) rfl (Nat.le_of_ble_eq_true rfl) rfl (E_X7_init H))
theorem dX7_findRow_0 : decode cX7_findRow 0 = .ok (.lload_n 1, 1) := by decide +kernel
theorem dX7_findRow_1 : decode cX7_findRow 1 = .ok (.lconst 0, 1) := by decide +kernel
theorem dX7_findRow_2 : decode cX7_findRow 2 = .ok (.lcmp, 1) := by decide +kernel
theorem dX7_findRow_3 : decode cX7_findRow 3 = .ok (.ifCond .lt 23, 3) := by decide +kernel
theorem dX7_findRow_6 : decode cX7_findRow 6 = .ok (.lload_n 1, 1) := by decide +kernel
theorem dX7_findRow_7 : decode cX7_findRow 7 = .ok (.aload_n 0, 1) := by decide +kernel
theorem dX7_findRow_8 : decode cX7_findRow 8 = .ok (.getfield 23, 3) := by decide +kernel
theorem dX7_findRow_11 : decode cX7_findRow 11 = .ok (.i2l, 1) := by decide +kernel
theorem dX7_findRow_12 : decode cX7_findRow 12 = .ok (.lcmp, 1) := by decide +kernel
theorem dX7_findRow_13 : decode cX7_findRow 13 = .ok (.ifCond .ge 13, 3) := by decide +kernel
theorem dX7_findRow_16 : decode cX7_findRow 16 = .ok (.aload_n 0, 1) := by decide +kernel
theorem dX7_findRow_17 : decode cX7_findRow 17 = .ok (.getfield 11, 3) := by decide +kernel
theorem dX7_findRow_20 : decode cX7_findRow 20 = .ok (.lload_n 1, 1) := by decide +kernel
theorem dX7_findRow_21 : decode cX7_findRow 21 = .ok (.l2i, 1) := by decide +kernel
theorem dX7_findRow_22 : decode cX7_findRow 22 = .ok (.aaload, 1) := by decide +kernel
theorem dX7_findRow_23 : decode cX7_findRow 23 = .ok (.goto 4, 3) := by decide +kernel
theorem dX7_findRow_26 : decode cX7_findRow 26 = .ok (.aconst_null, 1) := by decide +kernel
theorem dX7_findRow_27 : decode cX7_findRow 27 = .ok (.areturn, 1) := by decide +kernel
def F_X7_findRow (d : Nat) (v0 : Option Nm) (v1 : Int64) (h : MH) (u : Nat) (Q : Option Nm → MH → Prop) : Prop :=
  if (lg_cmp v1 0) < 0 then
    Q none h
  else
    gI h v0 6 2 fun x1 =>
    if 0 ≤ (lg_cmp v1 (x1.toInt64)) then
      Q none h
    else
      gR h v0 6 0 fun x2 =>
      aR "RecordBridge$Row" h x2 (v1.toInt32) fun x3 =>
      Q x3 h
set_option maxRecDepth 20000 in
theorem E_X7_findRow {d : Nat} {v0 : Option Nm} {v1 : Int64} {h : MH} {u : Nat} {Q : Option Nm → MH → Prop} (H : F_X7_findRow d v0 v1 h u Q) : T u_X7_findRow d 0 [some (jR v0), some (jL v1), none] [] h u (qR Q) := by
  unfold F_X7_findRow at H
  refine T_lload_n (pc := 0) dX7_findRow_0 rfl rfl ?_
  refine T_lconst (pc := 1) (v := 0) dX7_findRow_1 (by decide) ?_
  refine T_lcmp (pc := 2) dX7_findRow_2 ?_
  refine T_if_lt (pc := 3) (tgt := 26) dX7_findRow_3 (by decide) (fun hc => ?_) (fun hc => ?_)
  · rw [if_pos hc] at H
    refine T_null (pc := 26) dX7_findRow_26 ?_
    exact T_areturn (pc := 27) rfl (Or.inl ⟨_, rfl⟩) dX7_findRow_27 H
  · rw [if_neg hc] at H
    refine T_lload_n (pc := 6) dX7_findRow_6 rfl rfl ?_
    refine T_aload_n (pc := 7) dX7_findRow_7 rfl rfl ?_
    refine T_gI (pc := 8) fa_X7_23 dX7_findRow_8 (gI_mono (fun x1 H => ?_) H)
    refine T_i2l (pc := 11) dX7_findRow_11 ?_
    refine T_lcmp (pc := 12) dX7_findRow_12 ?_
    refine T_if_ge (pc := 13) (tgt := 26) dX7_findRow_13 (by decide) (fun hc => ?_) (fun hc => ?_)
    · rw [if_pos hc] at H
      refine T_null (pc := 26) dX7_findRow_26 ?_
      exact T_areturn (pc := 27) rfl (Or.inl ⟨_, rfl⟩) dX7_findRow_27 H
    · rw [if_neg hc] at H
      refine T_aload_n (pc := 16) dX7_findRow_16 rfl rfl ?_
      refine T_gR (pc := 17) fa_X7_11 dX7_findRow_17 (gR_mono (fun x2 H => ?_) H)
      refine T_lload_n (pc := 20) dX7_findRow_20 rfl rfl ?_
      refine T_l2i (pc := 21) dX7_findRow_21 ?_
      refine T_aR (pc := 22) dX7_findRow_22 (aR_mono (fun x3 H => ?_) H)
      refine T_goto (pc := 23) (tgt := 27) dX7_findRow_23 (by decide) ?_
      exact T_areturn (pc := 27) rfl (Or.inl ⟨_, rfl⟩) dX7_findRow_27 H
theorem I_X7_findRow {d : Nat} {v0 : Option Nm} {v1 : Int64} {h : MH} {u : Nat} {K : Option Nm → MH → Nat → Prop} (u1 : Nat) (hu : u1 ≤ u) (H : F_X7_findRow d v0 v1 h u1 (fun x h2 => K x h2 (u - u1))) : iR d u_X7_findRow [jR v0, jL v1] h u K := inv.of u1 hu (Ct.of (by decide +kernel) rfl (Nat.le_of_ble_eq_true rfl) rfl (E_X7_findRow H))
theorem dX7_findValue_0 : decode cX7_findValue 0 = .ok (.lload_n 1, 1) := by decide +kernel
theorem dX7_findValue_1 : decode cX7_findValue 1 = .ok (.lconst 0, 1) := by decide +kernel
theorem dX7_findValue_2 : decode cX7_findValue 2 = .ok (.lcmp, 1) := by decide +kernel
theorem dX7_findValue_3 : decode cX7_findValue 3 = .ok (.ifCond .lt 23, 3) := by decide +kernel
theorem dX7_findValue_6 : decode cX7_findValue 6 = .ok (.lload_n 1, 1) := by decide +kernel
theorem dX7_findValue_7 : decode cX7_findValue 7 = .ok (.aload_n 0, 1) := by decide +kernel
theorem dX7_findValue_8 : decode cX7_findValue 8 = .ok (.getfield 27, 3) := by decide +kernel
theorem dX7_findValue_11 : decode cX7_findValue 11 = .ok (.i2l, 1) := by decide +kernel
theorem dX7_findValue_12 : decode cX7_findValue 12 = .ok (.lcmp, 1) := by decide +kernel
theorem dX7_findValue_13 : decode cX7_findValue 13 = .ok (.ifCond .ge 13, 3) := by decide +kernel
theorem dX7_findValue_16 : decode cX7_findValue 16 = .ok (.aload_n 0, 1) := by decide +kernel
theorem dX7_findValue_17 : decode cX7_findValue 17 = .ok (.getfield 19, 3) := by decide +kernel
theorem dX7_findValue_20 : decode cX7_findValue 20 = .ok (.lload_n 1, 1) := by decide +kernel
theorem dX7_findValue_21 : decode cX7_findValue 21 = .ok (.l2i, 1) := by decide +kernel
theorem dX7_findValue_22 : decode cX7_findValue 22 = .ok (.aaload, 1) := by decide +kernel
theorem dX7_findValue_23 : decode cX7_findValue 23 = .ok (.goto 4, 3) := by decide +kernel
theorem dX7_findValue_26 : decode cX7_findValue 26 = .ok (.aconst_null, 1) := by decide +kernel
theorem dX7_findValue_27 : decode cX7_findValue 27 = .ok (.areturn, 1) := by decide +kernel
def F_X7_findValue (d : Nat) (v0 : Option Nm) (v1 : Int64) (h : MH) (u : Nat) (Q : Option Nm → MH → Prop) : Prop :=
  if (lg_cmp v1 0) < 0 then
    Q none h
  else
    gI h v0 6 3 fun x1 =>
    if 0 ≤ (lg_cmp v1 (x1.toInt64)) then
      Q none h
    else
      gR h v0 6 1 fun x2 =>
      aR "RecordBridge$Value" h x2 (v1.toInt32) fun x3 =>
      Q x3 h
set_option maxRecDepth 20000 in
theorem E_X7_findValue {d : Nat} {v0 : Option Nm} {v1 : Int64} {h : MH} {u : Nat} {Q : Option Nm → MH → Prop} (H : F_X7_findValue d v0 v1 h u Q) : T u_X7_findValue d 0 [some (jR v0), some (jL v1), none] [] h u (qR Q) := by
  unfold F_X7_findValue at H
  refine T_lload_n (pc := 0) dX7_findValue_0 rfl rfl ?_
  refine T_lconst (pc := 1) (v := 0) dX7_findValue_1 (by decide) ?_
  refine T_lcmp (pc := 2) dX7_findValue_2 ?_
  refine T_if_lt (pc := 3) (tgt := 26) dX7_findValue_3 (by decide) (fun hc => ?_) (fun hc => ?_)
  · rw [if_pos hc] at H
    refine T_null (pc := 26) dX7_findValue_26 ?_
    exact T_areturn (pc := 27) rfl (Or.inl ⟨_, rfl⟩) dX7_findValue_27 H
  · rw [if_neg hc] at H
    refine T_lload_n (pc := 6) dX7_findValue_6 rfl rfl ?_
    refine T_aload_n (pc := 7) dX7_findValue_7 rfl rfl ?_
    refine T_gI (pc := 8) fa_X7_27 dX7_findValue_8 (gI_mono (fun x1 H => ?_) H)
    refine T_i2l (pc := 11) dX7_findValue_11 ?_
    refine T_lcmp (pc := 12) dX7_findValue_12 ?_
    refine T_if_ge (pc := 13) (tgt := 26) dX7_findValue_13 (by decide) (fun hc => ?_) (fun hc => ?_)
    · rw [if_pos hc] at H
      refine T_null (pc := 26) dX7_findValue_26 ?_
      exact T_areturn (pc := 27) rfl (Or.inl ⟨_, rfl⟩) dX7_findValue_27 H
    · rw [if_neg hc] at H
      refine T_aload_n (pc := 16) dX7_findValue_16 rfl rfl ?_
      refine T_gR (pc := 17) fa_X7_19 dX7_findValue_17 (gR_mono (fun x2 H => ?_) H)
      refine T_lload_n (pc := 20) dX7_findValue_20 rfl rfl ?_
      refine T_l2i (pc := 21) dX7_findValue_21 ?_
      refine T_aR (pc := 22) dX7_findValue_22 (aR_mono (fun x3 H => ?_) H)
      refine T_goto (pc := 23) (tgt := 27) dX7_findValue_23 (by decide) ?_
      exact T_areturn (pc := 27) rfl (Or.inl ⟨_, rfl⟩) dX7_findValue_27 H
theorem I_X7_findValue {d : Nat} {v0 : Option Nm} {v1 : Int64} {h : MH} {u : Nat} {K : Option Nm → MH → Nat → Prop} (u1 : Nat) (hu : u1 ≤ u) (H : F_X7_findValue d v0 v1 h u1 (fun x h2 => K x h2 (u - u1))) : iR d u_X7_findValue [jR v0, jL v1] h u K := inv.of u1 hu (Ct.of (by decide +kernel) rfl (Nat.le_of_ble_eq_true rfl) rfl (E_X7_findValue H))
theorem dX7_hasRoomForRows_0 : decode cX7_hasRoomForRows 0 = .ok (.iload_n 1, 1) := by decide +kernel
theorem dX7_hasRoomForRows_1 : decode cX7_hasRoomForRows 1 = .ok (.bipush 60, 2) := by decide +kernel
theorem dX7_hasRoomForRows_3 : decode cX7_hasRoomForRows 3 = .ok (.aload_n 0, 1) := by decide +kernel
theorem dX7_hasRoomForRows_4 : decode cX7_hasRoomForRows 4 = .ok (.getfield 23, 3) := by decide +kernel
theorem dX7_hasRoomForRows_7 : decode cX7_hasRoomForRows 7 = .ok (.isub, 1) := by decide +kernel
theorem dX7_hasRoomForRows_8 : decode cX7_hasRoomForRows 8 = .ok (.if_icmp .gt 7, 3) := by decide +kernel
theorem dX7_hasRoomForRows_11 : decode cX7_hasRoomForRows 11 = .ok (.iconst 1, 1) := by decide +kernel
theorem dX7_hasRoomForRows_12 : decode cX7_hasRoomForRows 12 = .ok (.goto 4, 3) := by decide +kernel
theorem dX7_hasRoomForRows_15 : decode cX7_hasRoomForRows 15 = .ok (.iconst 0, 1) := by decide +kernel
theorem dX7_hasRoomForRows_16 : decode cX7_hasRoomForRows 16 = .ok (.ireturn, 1) := by decide +kernel
def F_X7_hasRoomForRows (d : Nat) (v0 : Option Nm) (v1 : Int32) (h : MH) (u : Nat) (Q : Int32 → MH → Prop) : Prop :=
  gI h v0 6 2 fun x1 =>
  if (60 - x1) < v1 then
    nz 0 ∧ Q 0 h
  else
    nz 1 ∧ Q 1 h
set_option maxRecDepth 20000 in
theorem E_X7_hasRoomForRows {d : Nat} {v0 : Option Nm} {v1 : Int32} {h : MH} {u : Nat} {Q : Int32 → MH → Prop} (H : F_X7_hasRoomForRows d v0 v1 h u Q) : T u_X7_hasRoomForRows d 0 [some (jR v0), some (jI v1)] [] h u (qI Q) := by
  unfold F_X7_hasRoomForRows at H
  refine T_iload_n (pc := 0) dX7_hasRoomForRows_0 rfl rfl ?_
  refine T_bipush (pc := 1) (v := 60) dX7_hasRoomForRows_1 (by decide) ?_
  refine T_aload_n (pc := 3) dX7_hasRoomForRows_3 rfl rfl ?_
  refine T_gI (pc := 4) fa_X7_23 dX7_hasRoomForRows_4 (gI_mono (fun x1 H => ?_) H)
  refine T_isub (pc := 7) dX7_hasRoomForRows_7 ?_
  refine T_icmp_gt (pc := 8) (tgt := 15) dX7_hasRoomForRows_8 (by decide) (fun hc => ?_) (fun hc => ?_)
  · rw [if_pos hc] at H
    refine T_iconst (pc := 15) (v := 0) dX7_hasRoomForRows_15 (by decide) ?_
    exact T_ireturn (pc := 16) rfl (nz_nar H.1) dX7_hasRoomForRows_16 H.2
  · rw [if_neg hc] at H
    refine T_iconst (pc := 11) (v := 1) dX7_hasRoomForRows_11 (by decide) ?_
    refine T_goto (pc := 12) (tgt := 16) dX7_hasRoomForRows_12 (by decide) ?_
    exact T_ireturn (pc := 16) rfl (nz_nar H.1) dX7_hasRoomForRows_16 H.2
theorem I_X7_hasRoomForRows {d : Nat} {v0 : Option Nm} {v1 : Int32} {h : MH} {u : Nat} {K : Int32 → MH → Nat → Prop} (u1 : Nat) (hu : u1 ≤ u) (H : F_X7_hasRoomForRows d v0 v1 h u1 (fun x h2 => K x h2 (u - u1))) : iI d u_X7_hasRoomForRows [jR v0, jI v1] h u K := inv.of u1 hu (Ct.of (by decide +kernel) rfl (Nat.le_of_ble_eq_true rfl) rfl (E_X7_hasRoomForRows H))
theorem dX7_hasRoomForValues_0 : decode cX7_hasRoomForValues 0 = .ok (.iload_n 1, 1) := by decide +kernel
theorem dX7_hasRoomForValues_1 : decode cX7_hasRoomForValues 1 = .ok (.sipush 200, 3) := by decide +kernel
theorem dX7_hasRoomForValues_4 : decode cX7_hasRoomForValues 4 = .ok (.aload_n 0, 1) := by decide +kernel
theorem dX7_hasRoomForValues_5 : decode cX7_hasRoomForValues 5 = .ok (.getfield 27, 3) := by decide +kernel
theorem dX7_hasRoomForValues_8 : decode cX7_hasRoomForValues 8 = .ok (.isub, 1) := by decide +kernel
theorem dX7_hasRoomForValues_9 : decode cX7_hasRoomForValues 9 = .ok (.if_icmp .gt 7, 3) := by decide +kernel
theorem dX7_hasRoomForValues_12 : decode cX7_hasRoomForValues 12 = .ok (.iconst 1, 1) := by decide +kernel
theorem dX7_hasRoomForValues_13 : decode cX7_hasRoomForValues 13 = .ok (.goto 4, 3) := by decide +kernel
theorem dX7_hasRoomForValues_16 : decode cX7_hasRoomForValues 16 = .ok (.iconst 0, 1) := by decide +kernel
theorem dX7_hasRoomForValues_17 : decode cX7_hasRoomForValues 17 = .ok (.ireturn, 1) := by decide +kernel
def F_X7_hasRoomForValues (d : Nat) (v0 : Option Nm) (v1 : Int32) (h : MH) (u : Nat) (Q : Int32 → MH → Prop) : Prop :=
  gI h v0 6 3 fun x1 =>
  if (200 - x1) < v1 then
    nz 0 ∧ Q 0 h
  else
    nz 1 ∧ Q 1 h
set_option maxRecDepth 20000 in
theorem E_X7_hasRoomForValues {d : Nat} {v0 : Option Nm} {v1 : Int32} {h : MH} {u : Nat} {Q : Int32 → MH → Prop} (H : F_X7_hasRoomForValues d v0 v1 h u Q) : T u_X7_hasRoomForValues d 0 [some (jR v0), some (jI v1)] [] h u (qI Q) := by
  unfold F_X7_hasRoomForValues at H
  refine T_iload_n (pc := 0) dX7_hasRoomForValues_0 rfl rfl ?_
  refine T_sipush (pc := 1) (v := 200) dX7_hasRoomForValues_1 (by decide) ?_
  refine T_aload_n (pc := 4) dX7_hasRoomForValues_4 rfl rfl ?_
  refine T_gI (pc := 5) fa_X7_27 dX7_hasRoomForValues_5 (gI_mono (fun x1 H => ?_) H)
  refine T_isub (pc := 8) dX7_hasRoomForValues_8 ?_
  refine T_icmp_gt (pc := 9) (tgt := 16) dX7_hasRoomForValues_9 (by decide) (fun hc => ?_) (fun hc => ?_)
  · rw [if_pos hc] at H
    refine T_iconst (pc := 16) (v := 0) dX7_hasRoomForValues_16 (by decide) ?_
    exact T_ireturn (pc := 17) rfl (nz_nar H.1) dX7_hasRoomForValues_17 H.2
  · rw [if_neg hc] at H
    refine T_iconst (pc := 12) (v := 1) dX7_hasRoomForValues_12 (by decide) ?_
    refine T_goto (pc := 13) (tgt := 17) dX7_hasRoomForValues_13 (by decide) ?_
    exact T_ireturn (pc := 17) rfl (nz_nar H.1) dX7_hasRoomForValues_17 H.2
theorem I_X7_hasRoomForValues {d : Nat} {v0 : Option Nm} {v1 : Int32} {h : MH} {u : Nat} {K : Int32 → MH → Nat → Prop} (u1 : Nat) (hu : u1 ≤ u) (H : F_X7_hasRoomForValues d v0 v1 h u1 (fun x h2 => K x h2 (u - u1))) : iI d u_X7_hasRoomForValues [jR v0, jI v1] h u K := inv.of u1 hu (Ct.of (by decide +kernel) rfl (Nat.le_of_ble_eq_true rfl) rfl (E_X7_hasRoomForValues H))
theorem dX7_addRow_0 : decode cX7_addRow 0 = .ok (.new 9, 3) := by decide +kernel
theorem dX7_addRow_3 : decode cX7_addRow 3 = .ok (.dup, 1) := by decide +kernel
theorem dX7_addRow_4 : decode cX7_addRow 4 = .ok (.aload_n 0, 1) := by decide +kernel
theorem dX7_addRow_5 : decode cX7_addRow 5 = .ok (.getfield 23, 3) := by decide +kernel
theorem dX7_addRow_8 : decode cX7_addRow 8 = .ok (.iload_n 1, 1) := by decide +kernel
theorem dX7_addRow_9 : decode cX7_addRow 9 = .ok (.iload_n 2, 1) := by decide +kernel
theorem dX7_addRow_10 : decode cX7_addRow 10 = .ok (.ifCond .ge 7, 3) := by decide +kernel
theorem dX7_addRow_13 : decode cX7_addRow 13 = .ok (.iconst 0, 1) := by decide +kernel
theorem dX7_addRow_14 : decode cX7_addRow 14 = .ok (.goto 4, 3) := by decide +kernel
theorem dX7_addRow_17 : decode cX7_addRow 17 = .ok (.iload_n 2, 1) := by decide +kernel
theorem dX7_addRow_18 : decode cX7_addRow 18 = .ok (.newarray .long, 2) := by decide +kernel
theorem dX7_addRow_20 : decode cX7_addRow 20 = .ok (.iload_n 3, 1) := by decide +kernel
theorem dX7_addRow_21 : decode cX7_addRow 21 = .ok (.invokespecial 30, 3) := by decide +kernel
theorem dX7_addRow_24 : decode cX7_addRow 24 = .ok (.astore 4, 2) := by decide +kernel
theorem dX7_addRow_26 : decode cX7_addRow 26 = .ok (.iload_n 1, 1) := by decide +kernel
theorem dX7_addRow_27 : decode cX7_addRow 27 = .ok (.bipush 8, 2) := by decide +kernel
theorem dX7_addRow_29 : decode cX7_addRow 29 = .ok (.if_icmp .ne 34, 3) := by decide +kernel
theorem dX7_addRow_32 : decode cX7_addRow 32 = .ok (.iconst 0, 1) := by decide +kernel
theorem dX7_addRow_33 : decode cX7_addRow 33 = .ok (.istore 5, 2) := by decide +kernel
theorem dX7_addRow_35 : decode cX7_addRow 35 = .ok (.iload 5, 2) := by decide +kernel
theorem dX7_addRow_37 : decode cX7_addRow 37 = .ok (.aload 4, 2) := by decide +kernel
theorem dX7_addRow_39 : decode cX7_addRow 39 = .ok (.getfield 35, 3) := by decide +kernel
theorem dX7_addRow_42 : decode cX7_addRow 42 = .ok (.arraylength, 1) := by decide +kernel
theorem dX7_addRow_43 : decode cX7_addRow 43 = .ok (.if_icmp .ge 20, 3) := by decide +kernel
theorem dX7_addRow_46 : decode cX7_addRow 46 = .ok (.aload 4, 2) := by decide +kernel
theorem dX7_addRow_48 : decode cX7_addRow 48 = .ok (.getfield 35, 3) := by decide +kernel
theorem dX7_addRow_51 : decode cX7_addRow 51 = .ok (.iload 5, 2) := by decide +kernel
theorem dX7_addRow_53 : decode cX7_addRow 53 = .ok (.ldc2_w 39, 3) := by decide +kernel
theorem dX7_addRow_56 : decode cX7_addRow 56 = .ok (.lastore, 1) := by decide +kernel
theorem dX7_addRow_57 : decode cX7_addRow 57 = .ok (.iinc 5 1, 3) := by decide +kernel
theorem dX7_addRow_60 : decode cX7_addRow 60 = .ok (.goto (-25), 3) := by decide +kernel
theorem dX7_addRow_63 : decode cX7_addRow 63 = .ok (.aload_n 0, 1) := by decide +kernel
theorem dX7_addRow_64 : decode cX7_addRow 64 = .ok (.getfield 23, 3) := by decide +kernel
theorem dX7_addRow_67 : decode cX7_addRow 67 = .ok (.bipush 60, 2) := by decide +kernel
theorem dX7_addRow_69 : decode cX7_addRow 69 = .ok (.if_icmp .ge 24, 3) := by decide +kernel
theorem dX7_addRow_72 : decode cX7_addRow 72 = .ok (.aload_n 0, 1) := by decide +kernel
theorem dX7_addRow_73 : decode cX7_addRow 73 = .ok (.getfield 11, 3) := by decide +kernel
theorem dX7_addRow_76 : decode cX7_addRow 76 = .ok (.aload_n 0, 1) := by decide +kernel
theorem dX7_addRow_77 : decode cX7_addRow 77 = .ok (.getfield 23, 3) := by decide +kernel
theorem dX7_addRow_80 : decode cX7_addRow 80 = .ok (.aload 4, 2) := by decide +kernel
theorem dX7_addRow_82 : decode cX7_addRow 82 = .ok (.aastore, 1) := by decide +kernel
theorem dX7_addRow_83 : decode cX7_addRow 83 = .ok (.aload_n 0, 1) := by decide +kernel
theorem dX7_addRow_84 : decode cX7_addRow 84 = .ok (.dup, 1) := by decide +kernel
theorem dX7_addRow_85 : decode cX7_addRow 85 = .ok (.getfield 23, 3) := by decide +kernel
theorem dX7_addRow_88 : decode cX7_addRow 88 = .ok (.iconst 1, 1) := by decide +kernel
theorem dX7_addRow_89 : decode cX7_addRow 89 = .ok (.iadd, 1) := by decide +kernel
theorem dX7_addRow_90 : decode cX7_addRow 90 = .ok (.putfield 23, 3) := by decide +kernel
theorem dX7_addRow_93 : decode cX7_addRow 93 = .ok (.aload 4, 2) := by decide +kernel
theorem dX7_addRow_95 : decode cX7_addRow 95 = .ok (.areturn, 1) := by decide +kernel
def L_X7_addRow_35 (d : Nat) (v0 : Option Nm) (v4 : Option Nm) (v5 : Int32) (h : MH) (u : Nat) (Q : Option Nm → MH → Prop) : Prop := T u_X7_addRow (d + 1) 35 [some (jR v0), none, none, none, some (jR v4), some (jI v5)] [] h u (qR Q)
def F_X7_addRow_63 (d : Nat) (v0 : Option Nm) (v4 : Option Nm) (h : MH) (u : Nat) (Q : Option Nm → MH → Prop) : Prop :=
  gI h v0 6 2 fun x1 =>
  if 60 ≤ x1 then
    Q v4 h
  else
    gR h v0 6 0 fun x2 =>
    gI h v0 6 2 fun x3 =>
    rc h v4 4 ∧ sV (.object "RecordBridge$Row") h x2 x3 (jR v4) fun h =>
    gI h v0 6 2 fun x4 =>
    pV h v0 6 2 (jI (x4 + 1)) fun h =>
    Q v4 h
set_option maxRecDepth 20000 in
theorem E_X7_addRow_63 {d : Nat} {v0 : Option Nm} {v4 : Option Nm} {h : MH} {u : Nat} {Q : Option Nm → MH → Prop} (H : F_X7_addRow_63 d v0 v4 h u Q) : T u_X7_addRow (d + 1) 63 [some (jR v0), none, none, none, some (jR v4), none] [] h u (qR Q) := by
  unfold F_X7_addRow_63 at H
  refine T_aload_n (pc := 63) dX7_addRow_63 rfl rfl ?_
  refine T_gI (pc := 64) fa_X7_23 dX7_addRow_64 (gI_mono (fun x1 H => ?_) H)
  refine T_bipush (pc := 67) (v := 60) dX7_addRow_67 (by decide) ?_
  refine T_icmp_ge (pc := 69) (tgt := 93) dX7_addRow_69 (by decide) (fun hc => ?_) (fun hc => ?_)
  · rw [if_pos hc] at H
    refine T_aload (pc := 93) dX7_addRow_93 rfl ?_
    exact T_areturn (pc := 95) rfl (Or.inl ⟨_, rfl⟩) dX7_addRow_95 H
  · rw [if_neg hc] at H
    refine T_aload_n (pc := 72) dX7_addRow_72 rfl rfl ?_
    refine T_gR (pc := 73) fa_X7_11 dX7_addRow_73 (gR_mono (fun x2 H => ?_) H)
    refine T_aload_n (pc := 76) dX7_addRow_76 rfl rfl ?_
    refine T_gI (pc := 77) fa_X7_23 dX7_addRow_77 (gI_mono (fun x3 H => ?_) H)
    refine T_aload (pc := 80) dX7_addRow_80 rfl ?_
    refine T_sR (pc := 82) (ci := 4) dX7_addRow_82 rfl ⟨H.1, sV_mono (fun h H => ?_) H.2⟩
    refine T_aload_n (pc := 83) dX7_addRow_83 rfl rfl ?_
    refine T_dup (pc := 84) rfl dX7_addRow_84 ?_
    refine T_gI (pc := 85) fa_X7_23 dX7_addRow_85 (gI_mono (fun x4 H => ?_) H)
    refine T_iconst (pc := 88) (v := 1) dX7_addRow_88 (by decide) ?_
    refine T_iadd (pc := 89) dX7_addRow_89 ?_
    refine T_pV (pc := 90) fa_X7_23 dX7_addRow_90 trivial (pV_mono (fun h H => ?_) H)
    refine T_aload (pc := 93) dX7_addRow_93 rfl ?_
    exact T_areturn (pc := 95) rfl (Or.inl ⟨_, rfl⟩) dX7_addRow_95 H
def F_X7_addRow_18 (d : Nat) (v0 : Option Nm) (v1 : Int32) (v3 : Int32) (s0 : Option Nm) (s1 : Option Nm) (s2 : Int32) (s3 : Int32) (s4 : Int32) (h : MH) (u : Nat) (Q : Option Nm → MH → Prop) : Prop :=
  nA .long h u s4 fun x1 h u =>
  nn s1 <| iV d u_X5_init [jR s1, jI s2, jI s3, jR (some x1), jI v3] h u fun h u =>
  if v1 = 8 then
    L_X7_addRow_35 d v0 s0 0 h u Q
  else
    F_X7_addRow_63 d v0 s0 h u Q
set_option maxRecDepth 20000 in
theorem E_X7_addRow_18 {d : Nat} {v0 : Option Nm} {v1 : Int32} {v3 : Int32} {s0 : Option Nm} {s1 : Option Nm} {s2 : Int32} {s3 : Int32} {s4 : Int32} {h : MH} {u : Nat} {Q : Option Nm → MH → Prop} (H : F_X7_addRow_18 d v0 v1 v3 s0 s1 s2 s3 s4 h u Q) : T u_X7_addRow (d + 1) 18 [some (jR v0), some (jI v1), none, some (jI v3), none, none] [jI s4, jI s3, jI s2, jR s1, jR s0] h u (qR Q) := by
  unfold F_X7_addRow_18 at H
  refine T_nA (pc := 18) dX7_addRow_18 rfl (by decide) c_1_66 (nA_mono (fun x1 h u H => ?_) H)
  refine T_iload_n (pc := 20) dX7_addRow_20 rfl rfl ?_
  obtain ⟨n0, H0, H⟩ := nn_out H
  refine T_invIo (pc := 21) (av := [jI s2, jI s3, jR (some x1), jI v3]) (rest := [jR s0]) H0 dX7_addRow_21 mf_X5_init rfl rfl c_1_205 c_1_206 rfl (Nat.le_of_ble_eq_true rfl) rfl (iV_k (iV_mono (fun h u H => ?_) H))
  refine T_astore (pc := 24) (ls2 := [some (jR v0), some (jI v1), none, some (jI v3), some (jR s0), none]) dX7_addRow_24 (Nat.le_of_ble_eq_true rfl) rfl ?_
  refine T_iload_n (pc := 26) dX7_addRow_26 rfl rfl ?_
  refine T_bipush (pc := 27) (v := 8) dX7_addRow_27 (by decide) ?_
  refine T_icmp_ne (pc := 29) (tgt := 63) dX7_addRow_29 (by decide) (fun hc => ?_) (fun hc => ?_)
  · rw [if_neg hc] at H
    exact T.forget (E_X7_addRow_63 H) ⟨rfl, rfl, trivial⟩
  · rw [if_pos hc] at H
    refine T_iconst (pc := 32) (v := 0) dX7_addRow_32 (by decide) ?_
    refine T_istore (pc := 33) (ls2 := [some (jR v0), some (jI v1), none, some (jI v3), some (jR s0), some (jI 0)]) dX7_addRow_33 (Nat.le_of_ble_eq_true rfl) rfl ?_
    exact T.forget H ⟨rfl, rfl, rfl, trivial⟩
def F_X7_addRow (d : Nat) (v0 : Option Nm) (v1 : Int32) (v2 : Int32) (v3 : Int32) (h : MH) (u : Nat) (Q : Option Nm → MH → Prop) : Prop :=
  nO h u 4 [jI 0, jI 0, jR none, jI 0] fun x1 h u =>
  gI h v0 6 2 fun x2 =>
  if 0 ≤ v2 then
    F_X7_addRow_18 d v0 v1 v3 (some x1) (some x1) x2 v1 v2 h u Q
  else
    F_X7_addRow_18 d v0 v1 v3 (some x1) (some x1) x2 v1 0 h u Q
set_option maxRecDepth 20000 in
theorem E_X7_addRow {d : Nat} {v0 : Option Nm} {v1 : Int32} {v2 : Int32} {v3 : Int32} {h : MH} {u : Nat} {Q : Option Nm → MH → Prop} (H : F_X7_addRow d v0 v1 v2 v3 h u Q) : T u_X7_addRow (d + 1) 0 [some (jR v0), some (jI v1), some (jI v2), some (jI v3), none, none] [] h u (qR Q) := by
  unfold F_X7_addRow at H
  refine T_nO (pc := 0) nf_X7_9 dX7_addRow_0 (nO_mono (fun x1 h u H => ?_) H)
  refine T_dup (pc := 3) rfl dX7_addRow_3 ?_
  refine T_aload_n (pc := 4) dX7_addRow_4 rfl rfl ?_
  refine T_gI (pc := 5) fa_X7_23 dX7_addRow_5 (gI_mono (fun x2 H => ?_) H)
  refine T_iload_n (pc := 8) dX7_addRow_8 rfl rfl ?_
  refine T_iload_n (pc := 9) dX7_addRow_9 rfl rfl ?_
  refine T_if_ge (pc := 10) (tgt := 17) dX7_addRow_10 (by decide) (fun hc => ?_) (fun hc => ?_)
  · rw [if_pos hc] at H
    refine T_iload_n (pc := 17) dX7_addRow_17 rfl rfl ?_
    exact T.forget (E_X7_addRow_18 H) ⟨rfl, rfl, rfl, trivial⟩
  · rw [if_neg hc] at H
    refine T_iconst (pc := 13) (v := 0) dX7_addRow_13 (by decide) ?_
    refine T_goto (pc := 14) (tgt := 18) dX7_addRow_14 (by decide) ?_
    exact T.forget (E_X7_addRow_18 H) ⟨rfl, rfl, rfl, trivial⟩
def F_X7_addRow_35 (d : Nat) (v0 : Option Nm) (v4 : Option Nm) (v5 : Int32) (h : MH) (u : Nat) (Q : Option Nm → MH → Prop) : Prop :=
  gR h v4 4 2 fun x1 =>
  aN h x1 fun x2 =>
  if x2 ≤ v5 then
    F_X7_addRow_63 d v0 v4 h u Q
  else
    gR h v4 4 2 fun x3 =>
    sV .long h x3 v5 (jL (-1)) fun h =>
    L_X7_addRow_35 d v0 v4 (v5 + 1) h u Q
set_option maxRecDepth 20000 in
theorem E_X7_addRow_35 {d : Nat} {v0 : Option Nm} {v4 : Option Nm} {v5 : Int32} {h : MH} {u : Nat} {Q : Option Nm → MH → Prop} (H : F_X7_addRow_35 d v0 v4 v5 h u Q) : T u_X7_addRow (d + 1) 35 [some (jR v0), none, none, none, some (jR v4), some (jI v5)] [] h u (qR Q) := by
  unfold F_X7_addRow_35 at H
  refine T_iload (pc := 35) dX7_addRow_35 rfl ?_
  refine T_aload (pc := 37) dX7_addRow_37 rfl ?_
  refine T_gR (pc := 39) fa_X7_35 dX7_addRow_39 (gR_mono (fun x1 H => ?_) H)
  refine T_aN (pc := 42) dX7_addRow_42 (aN_mono (fun x2 H => ?_) H)
  refine T_icmp_ge (pc := 43) (tgt := 63) dX7_addRow_43 (by decide) (fun hc => ?_) (fun hc => ?_)
  · rw [if_pos hc] at H
    exact T.forget (E_X7_addRow_63 H) ⟨rfl, rfl, trivial⟩
  · rw [if_neg hc] at H
    refine T_aload (pc := 46) dX7_addRow_46 rfl ?_
    refine T_gR (pc := 48) fa_X7_35 dX7_addRow_48 (gR_mono (fun x3 H => ?_) H)
    refine T_iload (pc := 51) dX7_addRow_51 rfl ?_
    refine T_ldc2 (pc := 53) (v := (-1)) dX7_addRow_53 c_1_236 ?_
    refine T_sL (pc := 56) dX7_addRow_56 (sV_mono (fun h H => ?_) H)
    refine T_iinc (pc := 57) (v := v5 + 1) (ls2 := [some (jR v0), none, none, none, some (jR v4), some (jI (v5 + 1))]) dX7_addRow_57 rfl rfl (Nat.le_of_ble_eq_true rfl) rfl ?_
    refine T_goto (pc := 60) (tgt := 35) dX7_addRow_60 (by decide) ?_
    exact T.forget H ⟨rfl, rfl, rfl, trivial⟩
theorem I_X7_addRow {d : Nat} {v0 : Option Nm} {v1 : Int32} {v2 : Int32} {v3 : Int32} {h : MH} {u : Nat} {K : Option Nm → MH → Nat → Prop} (u1 : Nat) (hu : u1 ≤ u) (H : F_X7_addRow d v0 v1 v2 v3 h u1 (fun x h2 => K x h2 (u - u1))) : iR (d + 1) u_X7_addRow [jR v0, jI v1, jI v2, jI v3] h u K := inv.of u1 hu (Ct.of (by decide +kernel) rfl (Nat.le_of_ble_eq_true rfl) rfl (E_X7_addRow H))
theorem dX7_addTwin_0 : decode cX7_addTwin 0 = .ok (.aload_n 0, 1) := by decide +kernel
theorem dX7_addTwin_1 : decode cX7_addTwin 1 = .ok (.aload_n 1, 1) := by decide +kernel
theorem dX7_addTwin_2 : decode cX7_addTwin 2 = .ok (.getfield 41, 3) := by decide +kernel
theorem dX7_addTwin_5 : decode cX7_addTwin 5 = .ok (.aload_n 1, 1) := by decide +kernel
theorem dX7_addTwin_6 : decode cX7_addTwin 6 = .ok (.getfield 35, 3) := by decide +kernel
theorem dX7_addTwin_9 : decode cX7_addTwin 9 = .ok (.arraylength, 1) := by decide +kernel
theorem dX7_addTwin_10 : decode cX7_addTwin 10 = .ok (.iload_n 2, 1) := by decide +kernel
theorem dX7_addTwin_11 : decode cX7_addTwin 11 = .ok (.invokevirtual 44, 3) := by decide +kernel
theorem dX7_addTwin_14 : decode cX7_addTwin 14 = .ok (.astore_n 3, 1) := by decide +kernel
theorem dX7_addTwin_15 : decode cX7_addTwin 15 = .ok (.aload_n 1, 1) := by decide +kernel
theorem dX7_addTwin_16 : decode cX7_addTwin 16 = .ok (.getfield 35, 3) := by decide +kernel
theorem dX7_addTwin_19 : decode cX7_addTwin 19 = .ok (.iconst 0, 1) := by decide +kernel
theorem dX7_addTwin_20 : decode cX7_addTwin 20 = .ok (.aload_n 3, 1) := by decide +kernel
theorem dX7_addTwin_21 : decode cX7_addTwin 21 = .ok (.getfield 35, 3) := by decide +kernel
theorem dX7_addTwin_24 : decode cX7_addTwin 24 = .ok (.iconst 0, 1) := by decide +kernel
theorem dX7_addTwin_25 : decode cX7_addTwin 25 = .ok (.aload_n 1, 1) := by decide +kernel
theorem dX7_addTwin_26 : decode cX7_addTwin 26 = .ok (.getfield 35, 3) := by decide +kernel
theorem dX7_addTwin_29 : decode cX7_addTwin 29 = .ok (.arraylength, 1) := by decide +kernel
theorem dX7_addTwin_30 : decode cX7_addTwin 30 = .ok (.invokestatic 48, 3) := by decide +kernel
theorem dX7_addTwin_33 : decode cX7_addTwin 33 = .ok (.aload_n 3, 1) := by decide +kernel
theorem dX7_addTwin_34 : decode cX7_addTwin 34 = .ok (.areturn, 1) := by decide +kernel
def F_X7_addTwin (d : Nat) (v0 : Option Nm) (v1 : Option Nm) (v2 : Int32) (h : MH) (u : Nat) (Q : Option Nm → MH → Prop) : Prop :=
  gI h v1 4 1 fun x1 =>
  gR h v1 4 2 fun x2 =>
  aN h x2 fun x3 =>
  rc h v0 6 ∧ iR d u_X7_addRow [jR v0, jI x1, jI x3, jI v2] h u fun x4 h u =>
  gR h v1 4 2 fun x5 =>
  gR h x4 4 2 fun x6 =>
  gR h v1 4 2 fun x7 =>
  aN h x7 fun x8 =>
  cpL h x5 0 x6 0 x8 fun h =>
  Q x4 h
set_option maxRecDepth 20000 in
theorem E_X7_addTwin {d : Nat} {v0 : Option Nm} {v1 : Option Nm} {v2 : Int32} {h : MH} {u : Nat} {Q : Option Nm → MH → Prop} (H : F_X7_addTwin d v0 v1 v2 h u Q) : T u_X7_addTwin (d + 1) 0 [some (jR v0), some (jR v1), some (jI v2), none] [] h u (qR Q) := by
  unfold F_X7_addTwin at H
  refine T_aload_n (pc := 0) dX7_addTwin_0 rfl rfl ?_
  refine T_aload_n (pc := 1) dX7_addTwin_1 rfl rfl ?_
  refine T_gI (pc := 2) fa_X7_41 dX7_addTwin_2 (gI_mono (fun x1 H => ?_) H)
  refine T_aload_n (pc := 5) dX7_addTwin_5 rfl rfl ?_
  refine T_gR (pc := 6) fa_X7_35 dX7_addTwin_6 (gR_mono (fun x2 H => ?_) H)
  refine T_aN (pc := 9) dX7_addTwin_9 (aN_mono (fun x3 H => ?_) H)
  refine T_iload_n (pc := 10) dX7_addTwin_10 rfl rfl ?_
  obtain ⟨H0, H⟩ := H
  refine T_iV (pc := 11) (ci := 6) (av := [jI x1, jI x3, jI v2]) (rest := []) (o := v0) dX7_addTwin_11 mf_X7_addRow c_2_109 c_1_201 c_1_202 rfl rfl (Nat.le_of_ble_eq_true rfl) rfl H0 (iR_k (iR_mono (fun x4 h u H => ?_) H))
  refine T_astore_n (pc := 14) (ls2 := [some (jR v0), some (jR v1), some (jI v2), some (jR x4)]) dX7_addTwin_14 rfl (Nat.le_of_ble_eq_true rfl) rfl ?_
  refine T_aload_n (pc := 15) dX7_addTwin_15 rfl rfl ?_
  refine T_gR (pc := 16) fa_X7_35 dX7_addTwin_16 (gR_mono (fun x5 H => ?_) H)
  refine T_iconst (pc := 19) (v := 0) dX7_addTwin_19 (by decide) ?_
  refine T_aload_n (pc := 20) dX7_addTwin_20 rfl rfl ?_
  refine T_gR (pc := 21) fa_X7_35 dX7_addTwin_21 (gR_mono (fun x6 H => ?_) H)
  refine T_iconst (pc := 24) (v := 0) dX7_addTwin_24 (by decide) ?_
  refine T_aload_n (pc := 25) dX7_addTwin_25 rfl rfl ?_
  refine T_gR (pc := 26) fa_X7_35 dX7_addTwin_26 (gR_mono (fun x7 H => ?_) H)
  refine T_aN (pc := 29) dX7_addTwin_29 (aN_mono (fun x8 H => ?_) H)
  refine T_cpL (pc := 30) dX7_addTwin_30 c_2_110 c_2_96 c_2_95 c_1_13 (Nat.le_of_ble_eq_true rfl) (cpL_mono (fun h H => ?_) H)
  refine T_aload_n (pc := 33) dX7_addTwin_33 rfl rfl ?_
  exact T_areturn (pc := 34) rfl (Or.inl ⟨_, rfl⟩) dX7_addTwin_34 H
theorem I_X7_addTwin {d : Nat} {v0 : Option Nm} {v1 : Option Nm} {v2 : Int32} {h : MH} {u : Nat} {K : Option Nm → MH → Nat → Prop} (u1 : Nat) (hu : u1 ≤ u) (H : F_X7_addTwin d v0 v1 v2 h u1 (fun x h2 => K x h2 (u - u1))) : iR (d + 1) u_X7_addTwin [jR v0, jR v1, jI v2] h u K := inv.of u1 hu (Ct.of (by decide +kernel) rfl (Nat.le_of_ble_eq_true rfl) rfl (E_X7_addTwin H))
theorem dX7_addValue_0 : decode cX7_addValue 0 = .ok (.aload_n 0, 1) := by decide +kernel
theorem dX7_addValue_1 : decode cX7_addValue 1 = .ok (.getfield 27, 3) := by decide +kernel
theorem dX7_addValue_4 : decode cX7_addValue 4 = .ok (.sipush 200, 3) := by decide +kernel
theorem dX7_addValue_7 : decode cX7_addValue 7 = .ok (.if_icmp .ge 36, 3) := by decide +kernel
theorem dX7_addValue_10 : decode cX7_addValue 10 = .ok (.aload_n 0, 1) := by decide +kernel
theorem dX7_addValue_11 : decode cX7_addValue 11 = .ok (.getfield 19, 3) := by decide +kernel
theorem dX7_addValue_14 : decode cX7_addValue 14 = .ok (.aload_n 0, 1) := by decide +kernel
theorem dX7_addValue_15 : decode cX7_addValue 15 = .ok (.getfield 27, 3) := by decide +kernel
theorem dX7_addValue_18 : decode cX7_addValue 18 = .ok (.aload_n 1, 1) := by decide +kernel
theorem dX7_addValue_19 : decode cX7_addValue 19 = .ok (.aastore, 1) := by decide +kernel
theorem dX7_addValue_20 : decode cX7_addValue 20 = .ok (.aload_n 0, 1) := by decide +kernel
theorem dX7_addValue_21 : decode cX7_addValue 21 = .ok (.dup, 1) := by decide +kernel
theorem dX7_addValue_22 : decode cX7_addValue 22 = .ok (.getfield 27, 3) := by decide +kernel
theorem dX7_addValue_25 : decode cX7_addValue 25 = .ok (.iconst 1, 1) := by decide +kernel
theorem dX7_addValue_26 : decode cX7_addValue 26 = .ok (.iadd, 1) := by decide +kernel
theorem dX7_addValue_27 : decode cX7_addValue 27 = .ok (.putfield 27, 3) := by decide +kernel
theorem dX7_addValue_30 : decode cX7_addValue 30 = .ok (.aload_n 1, 1) := by decide +kernel
theorem dX7_addValue_31 : decode cX7_addValue 31 = .ok (.getfield 54, 3) := by decide +kernel
theorem dX7_addValue_34 : decode cX7_addValue 34 = .ok (.dup, 1) := by decide +kernel
theorem dX7_addValue_35 : decode cX7_addValue 35 = .ok (.getfield 58, 3) := by decide +kernel
theorem dX7_addValue_38 : decode cX7_addValue 38 = .ok (.iconst 1, 1) := by decide +kernel
theorem dX7_addValue_39 : decode cX7_addValue 39 = .ok (.iadd, 1) := by decide +kernel
theorem dX7_addValue_40 : decode cX7_addValue 40 = .ok (.putfield 58, 3) := by decide +kernel
theorem dX7_addValue_43 : decode cX7_addValue 43 = .ok (.aload_n 1, 1) := by decide +kernel
theorem dX7_addValue_44 : decode cX7_addValue 44 = .ok (.getfield 63, 3) := by decide +kernel
theorem dX7_addValue_47 : decode cX7_addValue 47 = .ok (.ireturn, 1) := by decide +kernel
def F_X7_addValue (d : Nat) (v0 : Option Nm) (v1 : Option Nm) (h : MH) (u : Nat) (Q : Int32 → MH → Prop) : Prop :=
  gI h v0 6 3 fun x1 =>
  if 200 ≤ x1 then
    gI h v1 9 0 fun x2 =>
    Q x2 h
  else
    gR h v0 6 1 fun x3 =>
    gI h v0 6 3 fun x4 =>
    rc h v1 9 ∧ sV (.object "RecordBridge$Value") h x3 x4 (jR v1) fun h =>
    gI h v0 6 3 fun x5 =>
    pV h v0 6 3 (jI (x5 + 1)) fun h =>
    gR h v1 9 1 fun x6 =>
    gI h x6 3 6 fun x7 =>
    pV h x6 3 6 (jI (x7 + 1)) fun h =>
    gI h v1 9 0 fun x8 =>
    Q x8 h
set_option maxRecDepth 20000 in
theorem E_X7_addValue {d : Nat} {v0 : Option Nm} {v1 : Option Nm} {h : MH} {u : Nat} {Q : Int32 → MH → Prop} (H : F_X7_addValue d v0 v1 h u Q) : T u_X7_addValue d 0 [some (jR v0), some (jR v1)] [] h u (qI Q) := by
  unfold F_X7_addValue at H
  refine T_aload_n (pc := 0) dX7_addValue_0 rfl rfl ?_
  refine T_gI (pc := 1) fa_X7_27 dX7_addValue_1 (gI_mono (fun x1 H => ?_) H)
  refine T_sipush (pc := 4) (v := 200) dX7_addValue_4 (by decide) ?_
  refine T_icmp_ge (pc := 7) (tgt := 43) dX7_addValue_7 (by decide) (fun hc => ?_) (fun hc => ?_)
  · rw [if_pos hc] at H
    refine T_aload_n (pc := 43) dX7_addValue_43 rfl rfl ?_
    refine T_gI (pc := 44) fa_X7_63 dX7_addValue_44 (gI_mono (fun x2 H => ?_) H)
    exact T_ireturn (pc := 47) rfl rfl dX7_addValue_47 H
  · rw [if_neg hc] at H
    refine T_aload_n (pc := 10) dX7_addValue_10 rfl rfl ?_
    refine T_gR (pc := 11) fa_X7_19 dX7_addValue_11 (gR_mono (fun x3 H => ?_) H)
    refine T_aload_n (pc := 14) dX7_addValue_14 rfl rfl ?_
    refine T_gI (pc := 15) fa_X7_27 dX7_addValue_15 (gI_mono (fun x4 H => ?_) H)
    refine T_aload_n (pc := 18) dX7_addValue_18 rfl rfl ?_
    refine T_sR (pc := 19) (ci := 9) dX7_addValue_19 rfl ⟨H.1, sV_mono (fun h H => ?_) H.2⟩
    refine T_aload_n (pc := 20) dX7_addValue_20 rfl rfl ?_
    refine T_dup (pc := 21) rfl dX7_addValue_21 ?_
    refine T_gI (pc := 22) fa_X7_27 dX7_addValue_22 (gI_mono (fun x5 H => ?_) H)
    refine T_iconst (pc := 25) (v := 1) dX7_addValue_25 (by decide) ?_
    refine T_iadd (pc := 26) dX7_addValue_26 ?_
    refine T_pV (pc := 27) fa_X7_27 dX7_addValue_27 trivial (pV_mono (fun h H => ?_) H)
    refine T_aload_n (pc := 30) dX7_addValue_30 rfl rfl ?_
    refine T_gR (pc := 31) fa_X7_54 dX7_addValue_31 (gR_mono (fun x6 H => ?_) H)
    refine T_dup (pc := 34) rfl dX7_addValue_34 ?_
    refine T_gI (pc := 35) fa_X7_58 dX7_addValue_35 (gI_mono (fun x7 H => ?_) H)
    refine T_iconst (pc := 38) (v := 1) dX7_addValue_38 (by decide) ?_
    refine T_iadd (pc := 39) dX7_addValue_39 ?_
    refine T_pV (pc := 40) fa_X7_58 dX7_addValue_40 trivial (pV_mono (fun h H => ?_) H)
    refine T_aload_n (pc := 43) dX7_addValue_43 rfl rfl ?_
    refine T_gI (pc := 44) fa_X7_63 dX7_addValue_44 (gI_mono (fun x8 H => ?_) H)
    exact T_ireturn (pc := 47) rfl rfl dX7_addValue_47 H
theorem I_X7_addValue {d : Nat} {v0 : Option Nm} {v1 : Option Nm} {h : MH} {u : Nat} {K : Int32 → MH → Nat → Prop} (u1 : Nat) (hu : u1 ≤ u) (H : F_X7_addValue d v0 v1 h u1 (fun x h2 => K x h2 (u - u1))) : iI d u_X7_addValue [jR v0, jR v1] h u K := inv.of u1 hu (Ct.of (by decide +kernel) rfl (Nat.le_of_ble_eq_true rfl) rfl (E_X7_addValue H))
theorem dX10_init_0 : decode cX10_init 0 = .ok (.aload_n 0, 1) := by decide +kernel
theorem dX10_init_1 : decode cX10_init 1 = .ok (.invokespecial 1, 3) := by decide +kernel
theorem dX10_init_4 : decode cX10_init 4 = .ok (.aload_n 0, 1) := by decide +kernel
theorem dX10_init_5 : decode cX10_init 5 = .ok (.iload_n 1, 1) := by decide +kernel
theorem dX10_init_6 : decode cX10_init 6 = .ok (.putfield 7, 3) := by decide +kernel
theorem dX10_init_9 : decode cX10_init 9 = .ok (.aload_n 0, 1) := by decide +kernel
theorem dX10_init_10 : decode cX10_init 10 = .ok (.aload_n 2, 1) := by decide +kernel
theorem dX10_init_11 : decode cX10_init 11 = .ok (.putfield 13, 3) := by decide +kernel
theorem dX10_init_14 : decode cX10_init 14 = .ok (.aload_n 0, 1) := by decide +kernel
theorem dX10_init_15 : decode cX10_init 15 = .ok (.aload_n 2, 1) := by decide +kernel
theorem dX10_init_16 : decode cX10_init 16 = .ok (.invokevirtual 17, 3) := by decide +kernel
theorem dX10_init_19 : decode cX10_init 19 = .ok (.putfield 23, 3) := by decide +kernel
theorem dX10_init_22 : decode cX10_init 22 = .ok (.aload_n 0, 1) := by decide +kernel
theorem dX10_init_23 : decode cX10_init 23 = .ok (.aload_n 2, 1) := by decide +kernel
theorem dX10_init_24 : decode cX10_init 24 = .ok (.getfield 27, 3) := by decide +kernel
theorem dX10_init_27 : decode cX10_init 27 = .ok (.putfield 30, 3) := by decide +kernel
theorem dX10_init_30 : decode cX10_init 30 = .ok (.aload_n 0, 1) := by decide +kernel
theorem dX10_init_31 : decode cX10_init 31 = .ok (.iload_n 3, 1) := by decide +kernel
theorem dX10_init_32 : decode cX10_init 32 = .ok (.putfield 33, 3) := by decide +kernel
theorem dX10_init_35 : decode cX10_init 35 = .ok (.aload_n 0, 1) := by decide +kernel
theorem dX10_init_36 : decode cX10_init 36 = .ok (.aload 4, 2) := by decide +kernel
theorem dX10_init_38 : decode cX10_init 38 = .ok (.putfield 36, 3) := by decide +kernel
theorem dX10_init_41 : decode cX10_init 41 = .ok (.aload_n 0, 1) := by decide +kernel
theorem dX10_init_42 : decode cX10_init 42 = .ok (.iload 5, 2) := by decide +kernel
theorem dX10_init_44 : decode cX10_init 44 = .ok (.putfield 40, 3) := by decide +kernel
theorem dX10_init_47 : decode cX10_init 47 = .ok (.aload_n 0, 1) := by decide +kernel
theorem dX10_init_48 : decode cX10_init 48 = .ok (.iload 6, 2) := by decide +kernel
theorem dX10_init_50 : decode cX10_init 50 = .ok (.putfield 43, 3) := by decide +kernel
theorem dX10_init_53 : decode cX10_init 53 = .ok (.return_, 1) := by decide +kernel
def F_X10_init (d : Nat) (v0 : Option Nm) (v1 : Int32) (v2 : Option Nm) (v3 : Int32) (v4 : Option Nm) (v5 : Int32) (v6 : Int32) (h : MH) (u : Nat) (Q : MH → Prop) : Prop :=
  nn v0 <|
  pV h v0 9 0 (jI v1) fun h =>
  pV h v0 9 1 (jR v2) fun h =>
  rc h v2 3 ∧ iR d u_X3_newest [jR v2] h u fun x1 h u =>
  pV h v0 9 2 (jR x1) fun h =>
  gI h v2 3 6 fun x2 =>
  pV h v0 9 3 (jI x2) fun h =>
  pV h v0 9 4 (jI v3) fun h =>
  pV h v0 9 5 (jR v4) fun h =>
  pV h v0 9 6 (jI v5) fun h =>
  pV h v0 9 7 (jI v6) fun h =>
  Q h
set_option maxRecDepth 20000 in
theorem E_X10_init {d : Nat} {v0 : Option Nm} {v1 : Int32} {v2 : Option Nm} {v3 : Int32} {v4 : Option Nm} {v5 : Int32} {v6 : Int32} {h : MH} {u : Nat} {Q : MH → Prop} (H : F_X10_init d v0 v1 v2 v3 v4 v5 v6 h u Q) : T u_X10_init (d + 1) 0 [some (jR v0), some (jI v1), some (jR v2), some (jI v3), some (jR v4), some (jI v5), some (jI v6)] [] h u (qV Q) := by
  unfold F_X10_init at H
  refine T_aload_n (pc := 0) dX10_init_0 rfl rfl ?_
  obtain ⟨n0, H0, H⟩ := nn_out H
  refine T_objInit (pc := 1) dX10_init_1 c_3_53 c_1_25 c_1_26 H0 (Nat.le_of_ble_eq_true rfl) ?_
  refine T_aload_n (pc := 4) dX10_init_4 rfl rfl ?_
  refine T_iload_n (pc := 5) dX10_init_5 rfl rfl ?_
  refine T_pVF (pc := 6) fa_X10_7 rfl rfl dX10_init_6 trivial (pV_mono (fun h H => ?_) H)
  refine T_aload_n (pc := 9) dX10_init_9 rfl rfl ?_
  refine T_aload_n (pc := 10) dX10_init_10 rfl rfl ?_
  refine T_pVF (pc := 11) fa_X10_13 rfl rfl dX10_init_11 trivial (pV_mono (fun h H => ?_) H)
  refine T_aload_n (pc := 14) dX10_init_14 rfl rfl ?_
  refine T_aload_n (pc := 15) dX10_init_15 rfl rfl ?_
  obtain ⟨H0, H⟩ := H
  refine T_iV (pc := 16) (ci := 3) (av := []) (rest := [jR v0]) (o := v2) dX10_init_16 mf_X3_newest c_3_54 c_2_214 c_2_215 rfl rfl (Nat.le_of_ble_eq_true rfl) rfl H0 (iR_k (iR_mono (fun x1 h u H => ?_) H))
  refine T_pVF (pc := 19) fa_X10_23 rfl rfl dX10_init_19 trivial (pV_mono (fun h H => ?_) H)
  refine T_aload_n (pc := 22) dX10_init_22 rfl rfl ?_
  refine T_aload_n (pc := 23) dX10_init_23 rfl rfl ?_
  refine T_gI (pc := 24) fa_X10_27 dX10_init_24 (gI_mono (fun x2 H => ?_) H)
  refine T_pVF (pc := 27) fa_X10_30 rfl rfl dX10_init_27 trivial (pV_mono (fun h H => ?_) H)
  refine T_aload_n (pc := 30) dX10_init_30 rfl rfl ?_
  refine T_iload_n (pc := 31) dX10_init_31 rfl rfl ?_
  refine T_pVF (pc := 32) fa_X10_33 rfl rfl dX10_init_32 trivial (pV_mono (fun h H => ?_) H)
  refine T_aload_n (pc := 35) dX10_init_35 rfl rfl ?_
  refine T_aload (pc := 36) dX10_init_36 rfl ?_
  refine T_pVF (pc := 38) fa_X10_36 rfl rfl dX10_init_38 trivial (pV_mono (fun h H => ?_) H)
  refine T_aload_n (pc := 41) dX10_init_41 rfl rfl ?_
  refine T_iload (pc := 42) dX10_init_42 rfl ?_
  refine T_pVF (pc := 44) fa_X10_40 rfl rfl dX10_init_44 trivial (pV_mono (fun h H => ?_) H)
  refine T_aload_n (pc := 47) dX10_init_47 rfl rfl ?_
  refine T_iload (pc := 48) dX10_init_48 rfl ?_
  refine T_pVF (pc := 50) fa_X10_43 rfl rfl dX10_init_50 trivial (pV_mono (fun h H => ?_) H)
  exact T_return (pc := 53) rfl dX10_init_53 H
theorem I_X10_init {d : Nat} {v0 : Option Nm} {v1 : Int32} {v2 : Option Nm} {v3 : Int32} {v4 : Option Nm} {v5 : Int32} {v6 : Int32} {h : MH} {u : Nat} {K : MH → Nat → Prop} (u1 : Nat) (hu : u1 ≤ u) (H : F_X10_init d v0 v1 v2 v3 v4 v5 v6 h u1 (fun h2 => K h2 (u - u1))) : iV (d + 1) u_X10_init [jR v0, jI v1, jR v2, jI v3, jR v4, jI v5, jI v6] h u K := inv.of u1 hu (Ct.of (by decide +kernel) rfl (Nat.le_of_ble_eq_true rfl) rfl (E_X10_init H))
theorem dX10_hasPart_0 : decode cX10_hasPart 0 = .ok (.iload_n 1, 1) := by decide +kernel
theorem dX10_hasPart_1 : decode cX10_hasPart 1 = .ok (.ifCond .lt 16, 3) := by decide +kernel
theorem dX10_hasPart_4 : decode cX10_hasPart 4 = .ok (.iload_n 1, 1) := by decide +kernel
theorem dX10_hasPart_5 : decode cX10_hasPart 5 = .ok (.aload_n 0, 1) := by decide +kernel
theorem dX10_hasPart_6 : decode cX10_hasPart 6 = .ok (.getfield 36, 3) := by decide +kernel
theorem dX10_hasPart_9 : decode cX10_hasPart 9 = .ok (.arraylength, 1) := by decide +kernel
theorem dX10_hasPart_10 : decode cX10_hasPart 10 = .ok (.if_icmp .ge 7, 3) := by decide +kernel
theorem dX10_hasPart_13 : decode cX10_hasPart 13 = .ok (.iconst 1, 1) := by decide +kernel
theorem dX10_hasPart_14 : decode cX10_hasPart 14 = .ok (.goto 4, 3) := by decide +kernel
theorem dX10_hasPart_17 : decode cX10_hasPart 17 = .ok (.iconst 0, 1) := by decide +kernel
theorem dX10_hasPart_18 : decode cX10_hasPart 18 = .ok (.ireturn, 1) := by decide +kernel
def F_X10_hasPart (d : Nat) (v0 : Option Nm) (v1 : Int32) (h : MH) (u : Nat) (Q : Int32 → MH → Prop) : Prop :=
  if v1 < 0 then
    nz 0 ∧ Q 0 h
  else
    gR h v0 9 5 fun x1 =>
    aN h x1 fun x2 =>
    if x2 ≤ v1 then
      nz 0 ∧ Q 0 h
    else
      nz 1 ∧ Q 1 h
set_option maxRecDepth 20000 in
theorem E_X10_hasPart {d : Nat} {v0 : Option Nm} {v1 : Int32} {h : MH} {u : Nat} {Q : Int32 → MH → Prop} (H : F_X10_hasPart d v0 v1 h u Q) : T u_X10_hasPart d 0 [some (jR v0), some (jI v1)] [] h u (qI Q) := by
  unfold F_X10_hasPart at H
  refine T_iload_n (pc := 0) dX10_hasPart_0 rfl rfl ?_
  refine T_if_lt (pc := 1) (tgt := 17) dX10_hasPart_1 (by decide) (fun hc => ?_) (fun hc => ?_)
  · rw [if_pos hc] at H
    refine T_iconst (pc := 17) (v := 0) dX10_hasPart_17 (by decide) ?_
    exact T_ireturn (pc := 18) rfl (nz_nar H.1) dX10_hasPart_18 H.2
  · rw [if_neg hc] at H
    refine T_iload_n (pc := 4) dX10_hasPart_4 rfl rfl ?_
    refine T_aload_n (pc := 5) dX10_hasPart_5 rfl rfl ?_
    refine T_gR (pc := 6) fa_X10_36 dX10_hasPart_6 (gR_mono (fun x1 H => ?_) H)
    refine T_aN (pc := 9) dX10_hasPart_9 (aN_mono (fun x2 H => ?_) H)
    refine T_icmp_ge (pc := 10) (tgt := 17) dX10_hasPart_10 (by decide) (fun hc => ?_) (fun hc => ?_)
    · rw [if_pos hc] at H
      refine T_iconst (pc := 17) (v := 0) dX10_hasPart_17 (by decide) ?_
      exact T_ireturn (pc := 18) rfl (nz_nar H.1) dX10_hasPart_18 H.2
    · rw [if_neg hc] at H
      refine T_iconst (pc := 13) (v := 1) dX10_hasPart_13 (by decide) ?_
      refine T_goto (pc := 14) (tgt := 18) dX10_hasPart_14 (by decide) ?_
      exact T_ireturn (pc := 18) rfl (nz_nar H.1) dX10_hasPart_18 H.2
theorem I_X10_hasPart {d : Nat} {v0 : Option Nm} {v1 : Int32} {h : MH} {u : Nat} {K : Int32 → MH → Nat → Prop} (u1 : Nat) (hu : u1 ≤ u) (H : F_X10_hasPart d v0 v1 h u1 (fun x h2 => K x h2 (u - u1))) : iI d u_X10_hasPart [jR v0, jI v1] h u K := inv.of u1 hu (Ct.of (by decide +kernel) rfl (Nat.le_of_ble_eq_true rfl) rfl (E_X10_hasPart H))
theorem dX10_tellPart_0 : decode cX10_tellPart 0 = .ok (.aload_n 0, 1) := by decide +kernel
theorem dX10_tellPart_1 : decode cX10_tellPart 1 = .ok (.getfield 23, 3) := by decide +kernel
theorem dX10_tellPart_4 : decode cX10_tellPart 4 = .ok (.getfield 46, 3) := by decide +kernel
theorem dX10_tellPart_7 : decode cX10_tellPart 7 = .ok (.iload_n 1, 1) := by decide +kernel
theorem dX10_tellPart_8 : decode cX10_tellPart 8 = .ok (.iaload, 1) := by decide +kernel
theorem dX10_tellPart_9 : decode cX10_tellPart 9 = .ok (.aload_n 0, 1) := by decide +kernel
theorem dX10_tellPart_10 : decode cX10_tellPart 10 = .ok (.getfield 36, 3) := by decide +kernel
theorem dX10_tellPart_13 : decode cX10_tellPart 13 = .ok (.iload_n 1, 1) := by decide +kernel
theorem dX10_tellPart_14 : decode cX10_tellPart 14 = .ok (.laload, 1) := by decide +kernel
theorem dX10_tellPart_15 : decode cX10_tellPart 15 = .ok (.invokestatic 52, 3) := by decide +kernel
theorem dX10_tellPart_18 : decode cX10_tellPart 18 = .ok (.lreturn, 1) := by decide +kernel
def F_X10_tellPart (d : Nat) (v0 : Option Nm) (v1 : Int32) (h : MH) (u : Nat) (Q : Int64 → MH → Prop) : Prop :=
  gR h v0 9 2 fun x1 =>
  gR h x1 2 2 fun x2 =>
  aI .int h x2 v1 fun x3 =>
  gR h v0 9 5 fun x4 =>
  aL h x4 v1 fun x5 =>
  iL d u_X4_tell [jI x3, jL x5] h u fun x6 h u =>
  Q x6 h
set_option maxRecDepth 20000 in
theorem E_X10_tellPart {d : Nat} {v0 : Option Nm} {v1 : Int32} {h : MH} {u : Nat} {Q : Int64 → MH → Prop} (H : F_X10_tellPart d v0 v1 h u Q) : T u_X10_tellPart (d + 1) 0 [some (jR v0), some (jI v1)] [] h u (qL Q) := by
  unfold F_X10_tellPart at H
  refine T_aload_n (pc := 0) dX10_tellPart_0 rfl rfl ?_
  refine T_gR (pc := 1) fa_X10_23 dX10_tellPart_1 (gR_mono (fun x1 H => ?_) H)
  refine T_gR (pc := 4) fa_X10_46 dX10_tellPart_4 (gR_mono (fun x2 H => ?_) H)
  refine T_iload_n (pc := 7) dX10_tellPart_7 rfl rfl ?_
  refine T_aI (pc := 8) dX10_tellPart_8 (aI_mono (fun x3 H => ?_) H)
  refine T_aload_n (pc := 9) dX10_tellPart_9 rfl rfl ?_
  refine T_gR (pc := 10) fa_X10_36 dX10_tellPart_10 (gR_mono (fun x4 H => ?_) H)
  refine T_iload_n (pc := 13) dX10_tellPart_13 rfl rfl ?_
  refine T_aL (pc := 14) dX10_tellPart_14 (aL_mono (fun x5 H => ?_) H)
  refine T_invS (pc := 15) (av := [jI x3, jL x5]) (rest := []) dX10_tellPart_15 mf_X4_tell c_3_236 c_2_75 rfl (Nat.le_of_ble_eq_true rfl) rfl (iL_k (iL_mono (fun x6 h u H => ?_) H))
  exact T_lreturn (pc := 18) rfl dX10_tellPart_18 H
theorem I_X10_tellPart {d : Nat} {v0 : Option Nm} {v1 : Int32} {h : MH} {u : Nat} {K : Int64 → MH → Nat → Prop} (u1 : Nat) (hu : u1 ≤ u) (H : F_X10_tellPart d v0 v1 h u1 (fun x h2 => K x h2 (u - u1))) : iL (d + 1) u_X10_tellPart [jR v0, jI v1] h u K := inv.of u1 hu (Ct.of (by decide +kernel) rfl (Nat.le_of_ble_eq_true rfl) rfl (E_X10_tellPart H))
