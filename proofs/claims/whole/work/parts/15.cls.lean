theorem dX11_told_0 : decode cX11_told 0 = .ok (.iload_n 1, 1) := by decide +kernel
theorem dX11_told_1 : decode cX11_told 1 = .ok (.tableswitch 75 0 5 #[39, 47, 52, 57, 65, 70], 39) := by decide +kernel
theorem dX11_told_40 : decode cX11_told 40 = .ok (.aload_n 0, 1) := by decide +kernel
theorem dX11_told_41 : decode cX11_told 41 = .ok (.getfield 12, 3) := by decide +kernel
theorem dX11_told_44 : decode cX11_told 44 = .ok (.getfield 329, 3) := by decide +kernel
theorem dX11_told_47 : decode cX11_told 47 = .ok (.ireturn, 1) := by decide +kernel
theorem dX11_told_48 : decode cX11_told 48 = .ok (.aload_n 0, 1) := by decide +kernel
theorem dX11_told_49 : decode cX11_told 49 = .ok (.getfield 211, 3) := by decide +kernel
theorem dX11_told_52 : decode cX11_told 52 = .ok (.ireturn, 1) := by decide +kernel
theorem dX11_told_53 : decode cX11_told 53 = .ok (.aload_n 0, 1) := by decide +kernel
theorem dX11_told_54 : decode cX11_told 54 = .ok (.getfield 214, 3) := by decide +kernel
theorem dX11_told_57 : decode cX11_told 57 = .ok (.ireturn, 1) := by decide +kernel
theorem dX11_told_58 : decode cX11_told 58 = .ok (.aload_n 0, 1) := by decide +kernel
theorem dX11_told_59 : decode cX11_told 59 = .ok (.getfield 12, 3) := by decide +kernel
theorem dX11_told_62 : decode cX11_told 62 = .ok (.getfield 332, 3) := by decide +kernel
theorem dX11_told_65 : decode cX11_told 65 = .ok (.ireturn, 1) := by decide +kernel
theorem dX11_told_66 : decode cX11_told 66 = .ok (.aload_n 0, 1) := by decide +kernel
theorem dX11_told_67 : decode cX11_told 67 = .ok (.getfield 335, 3) := by decide +kernel
theorem dX11_told_70 : decode cX11_told 70 = .ok (.ireturn, 1) := by decide +kernel
theorem dX11_told_71 : decode cX11_told 71 = .ok (.aload_n 0, 1) := by decide +kernel
theorem dX11_told_72 : decode cX11_told 72 = .ok (.getfield 338, 3) := by decide +kernel
theorem dX11_told_75 : decode cX11_told 75 = .ok (.ireturn, 1) := by decide +kernel
theorem dX11_told_76 : decode cX11_told 76 = .ok (.bipush (-2), 2) := by decide +kernel
theorem dX11_told_78 : decode cX11_told 78 = .ok (.ireturn, 1) := by decide +kernel
def F_X11_told (d : Nat) (v0 : Option Nm) (v1 : Int32) (h : MH) (u : Nat) (Q : Int32 → MH → Prop) : Prop :=
  if v1 = 0 then
    gR h v0 10 0 fun x1 =>
    gI h x1 6 2 fun x2 =>
    Q x2 h
  else if v1 = 1 then
    gI h v0 10 8 fun x3 =>
    Q x3 h
  else if v1 = 2 then
    gI h v0 10 9 fun x4 =>
    Q x4 h
  else if v1 = 3 then
    gR h v0 10 0 fun x5 =>
    gI h x5 6 3 fun x6 =>
    Q x6 h
  else if v1 = 4 then
    gI h v0 10 10 fun x7 =>
    Q x7 h
  else if v1 = 5 then
    gI h v0 10 13 fun x8 =>
    Q x8 h
  else 
    Q (-2) h
set_option maxRecDepth 20000 in
theorem E_X11_told {d : Nat} {v0 : Option Nm} {v1 : Int32} {h : MH} {u : Nat} {Q : Int32 → MH → Prop} (H : F_X11_told d v0 v1 h u Q) : T u_X11_told d 0 [some (jR v0), some (jI v1)] [] h u (qI Q) := by
  unfold F_X11_told at H
  refine T_iload_n (pc := 0) dX11_told_0 rfl rfl ?_
  by_cases h0 : v1 = 0
  · rw [if_pos h0] at H
    refine T_tableIn (pc := 1) (off := 39) (tgt := 40) dX11_told_1 (by rw [h0]; decide) (by rw [h0]; decide) (by rw [h0]; rfl) (by decide) ?_
    refine T_aload_n (pc := 40) dX11_told_40 rfl rfl ?_
    refine T_gR (pc := 41) fa_X11_12 dX11_told_41 (gR_mono (fun x1 H => ?_) H)
    refine T_gI (pc := 44) fa_X11_329 dX11_told_44 (gI_mono (fun x2 H => ?_) H)
    exact T_ireturn (pc := 47) rfl rfl dX11_told_47 H
  rw [if_neg h0] at H
  by_cases h1 : v1 = 1
  · rw [if_pos h1] at H
    refine T_tableIn (pc := 1) (off := 47) (tgt := 48) dX11_told_1 (by rw [h1]; decide) (by rw [h1]; decide) (by rw [h1]; rfl) (by decide) ?_
    refine T_aload_n (pc := 48) dX11_told_48 rfl rfl ?_
    refine T_gI (pc := 49) fa_X11_211 dX11_told_49 (gI_mono (fun x3 H => ?_) H)
    exact T_ireturn (pc := 52) rfl rfl dX11_told_52 H
  rw [if_neg h1] at H
  by_cases h2 : v1 = 2
  · rw [if_pos h2] at H
    refine T_tableIn (pc := 1) (off := 52) (tgt := 53) dX11_told_1 (by rw [h2]; decide) (by rw [h2]; decide) (by rw [h2]; rfl) (by decide) ?_
    refine T_aload_n (pc := 53) dX11_told_53 rfl rfl ?_
    refine T_gI (pc := 54) fa_X11_214 dX11_told_54 (gI_mono (fun x4 H => ?_) H)
    exact T_ireturn (pc := 57) rfl rfl dX11_told_57 H
  rw [if_neg h2] at H
  by_cases h3 : v1 = 3
  · rw [if_pos h3] at H
    refine T_tableIn (pc := 1) (off := 57) (tgt := 58) dX11_told_1 (by rw [h3]; decide) (by rw [h3]; decide) (by rw [h3]; rfl) (by decide) ?_
    refine T_aload_n (pc := 58) dX11_told_58 rfl rfl ?_
    refine T_gR (pc := 59) fa_X11_12 dX11_told_59 (gR_mono (fun x5 H => ?_) H)
    refine T_gI (pc := 62) fa_X11_332 dX11_told_62 (gI_mono (fun x6 H => ?_) H)
    exact T_ireturn (pc := 65) rfl rfl dX11_told_65 H
  rw [if_neg h3] at H
  by_cases h4 : v1 = 4
  · rw [if_pos h4] at H
    refine T_tableIn (pc := 1) (off := 65) (tgt := 66) dX11_told_1 (by rw [h4]; decide) (by rw [h4]; decide) (by rw [h4]; rfl) (by decide) ?_
    refine T_aload_n (pc := 66) dX11_told_66 rfl rfl ?_
    refine T_gI (pc := 67) fa_X11_335 dX11_told_67 (gI_mono (fun x7 H => ?_) H)
    exact T_ireturn (pc := 70) rfl rfl dX11_told_70 H
  rw [if_neg h4] at H
  by_cases h5 : v1 = 5
  · rw [if_pos h5] at H
    refine T_tableIn (pc := 1) (off := 70) (tgt := 71) dX11_told_1 (by rw [h5]; decide) (by rw [h5]; decide) (by rw [h5]; rfl) (by decide) ?_
    refine T_aload_n (pc := 71) dX11_told_71 rfl rfl ?_
    refine T_gI (pc := 72) fa_X11_338 dX11_told_72 (gI_mono (fun x8 H => ?_) H)
    exact T_ireturn (pc := 75) rfl rfl dX11_told_75 H
  rw [if_neg h5] at H
  have e0 : (v1 : Int32).toInt ≠ 0 := fun q => h0 (Int32.toInt_inj.mp (q.trans (by decide)))
  have e1 : (v1 : Int32).toInt ≠ 1 := fun q => h1 (Int32.toInt_inj.mp (q.trans (by decide)))
  have e2 : (v1 : Int32).toInt ≠ 2 := fun q => h2 (Int32.toInt_inj.mp (q.trans (by decide)))
  have e3 : (v1 : Int32).toInt ≠ 3 := fun q => h3 (Int32.toInt_inj.mp (q.trans (by decide)))
  have e4 : (v1 : Int32).toInt ≠ 4 := fun q => h4 (Int32.toInt_inj.mp (q.trans (by decide)))
  have e5 : (v1 : Int32).toInt ≠ 5 := fun q => h5 (Int32.toInt_inj.mp (q.trans (by decide)))
  refine T_tableOut (pc := 1) (tgt := 76) dX11_told_1 (by omega) (by decide) ?_
  refine T_bipush (pc := 76) (v := (-2)) dX11_told_76 (by decide) ?_
  exact T_ireturn (pc := 78) rfl rfl dX11_told_78 H
theorem I_X11_told {d : Nat} {v0 : Option Nm} {v1 : Int32} {h : MH} {u : Nat} {K : Int32 → MH → Nat → Prop} (u1 : Nat) (hu : u1 ≤ u) (H : F_X11_told d v0 v1 h u1 (fun x h2 => K x h2 (u - u1))) : iI d u_X11_told [jR v0, jI v1] h u K := inv.of u1 hu (Ct.of (by decide +kernel) rfl (Nat.le_of_ble_eq_true rfl) rfl (E_X11_told H))
theorem J_X11_told {d : Nat} {v0 : Option Nm} {v1 : Int32} {h : MH} {u : Nat} {K : Int32 → MH → Prop} (H : F_X11_told d v0 v1 h 0 K) : iI d u_X11_told [jR v0, jI v1] h u (fun x h2 u2 => K x h2 ∧ u2 = u) := jiI (by decide +kernel) rfl (Nat.le_of_ble_eq_true rfl) rfl (E_X11_told H)
theorem dX11_trace_0 : decode cX11_trace 0 = .ok (.aload_n 0, 1) := by decide +kernel
theorem dX11_trace_1 : decode cX11_trace 1 = .ok (.getfield 323, 3) := by decide +kernel
theorem dX11_trace_4 : decode cX11_trace 4 = .ok (.ireturn, 1) := by decide +kernel
def F_X11_trace (d : Nat) (v0 : Option Nm) (h : MH) (u : Nat) (Q : Int32 → MH → Prop) : Prop :=
  gI h v0 10 11 fun x1 =>
  Q x1 h
set_option maxRecDepth 20000 in
theorem E_X11_trace {d : Nat} {v0 : Option Nm} {h : MH} {u : Nat} {Q : Int32 → MH → Prop} (H : F_X11_trace d v0 h u Q) : T u_X11_trace d 0 [some (jR v0)] [] h u (qI Q) := by
  unfold F_X11_trace at H
  refine T_aload_n (pc := 0) dX11_trace_0 rfl rfl ?_
  refine T_gI (pc := 1) fa_X11_323 dX11_trace_1 (gI_mono (fun x1 H => ?_) H)
  exact T_ireturn (pc := 4) rfl rfl dX11_trace_4 H
theorem I_X11_trace {d : Nat} {v0 : Option Nm} {h : MH} {u : Nat} {K : Int32 → MH → Nat → Prop} (u1 : Nat) (hu : u1 ≤ u) (H : F_X11_trace d v0 h u1 (fun x h2 => K x h2 (u - u1))) : iI d u_X11_trace [jR v0] h u K := inv.of u1 hu (Ct.of (by decide +kernel) rfl (Nat.le_of_ble_eq_true rfl) rfl (E_X11_trace H))
theorem J_X11_trace {d : Nat} {v0 : Option Nm} {h : MH} {u : Nat} {K : Int32 → MH → Prop} (H : F_X11_trace d v0 h 0 K) : iI d u_X11_trace [jR v0] h u (fun x h2 u2 => K x h2 ∧ u2 = u) := jiI (by decide +kernel) rfl (Nat.le_of_ble_eq_true rfl) rfl (E_X11_trace H)
theorem dX11_twin_0 : decode cX11_twin 0 = .ok (.aload_n 0, 1) := by decide +kernel
theorem dX11_twin_1 : decode cX11_twin 1 = .ok (.getfield 12, 3) := by decide +kernel
theorem dX11_twin_4 : decode cX11_twin 4 = .ok (.iload_n 1, 1) := by decide +kernel
theorem dX11_twin_5 : decode cX11_twin 5 = .ok (.i2l, 1) := by decide +kernel
theorem dX11_twin_6 : decode cX11_twin 6 = .ok (.invokevirtual 86, 3) := by decide +kernel
theorem dX11_twin_9 : decode cX11_twin 9 = .ok (.astore_n 2, 1) := by decide +kernel
theorem dX11_twin_10 : decode cX11_twin 10 = .ok (.aload_n 2, 1) := by decide +kernel
theorem dX11_twin_11 : decode cX11_twin 11 = .ok (.ifnonnull 5, 3) := by decide +kernel
theorem dX11_twin_14 : decode cX11_twin 14 = .ok (.iconst (-1), 1) := by decide +kernel
theorem dX11_twin_15 : decode cX11_twin 15 = .ok (.ireturn, 1) := by decide +kernel
theorem dX11_twin_16 : decode cX11_twin 16 = .ok (.aload_n 0, 1) := by decide +kernel
theorem dX11_twin_17 : decode cX11_twin 17 = .ok (.aload_n 2, 1) := by decide +kernel
theorem dX11_twin_18 : decode cX11_twin 18 = .ok (.invokevirtual 147, 3) := by decide +kernel
theorem dX11_twin_21 : decode cX11_twin 21 = .ok (.ireturn, 1) := by decide +kernel
def F_X11_twin (d : Nat) (v0 : Option Nm) (v1 : Int32) (h : MH) (u : Nat) (Q : Int32 → MH → Prop) : Prop :=
  gR h v0 10 0 fun x1 =>
  rc h x1 6 ∧ F_X7_findRow d x1 (v1.toInt64) h 0 fun x2 h =>
  nl x2 (
    Q (-1) h) (
    rc h v0 10 ∧ iI d u_X11_freeTwin [jR v0, jR x2] h u fun x3 h u =>
    Q x3 h)
set_option maxRecDepth 20000 in
theorem E_X11_twin {d : Nat} {v0 : Option Nm} {v1 : Int32} {h : MH} {u : Nat} {Q : Int32 → MH → Prop} (H : F_X11_twin d v0 v1 h u Q) : T u_X11_twin (d + 1) 0 [some (jR v0), some (jI v1), none] [] h u (qI Q) := by
  unfold F_X11_twin at H
  refine T_aload_n (pc := 0) dX11_twin_0 rfl rfl ?_
  refine T_gR (pc := 1) fa_X11_12 dX11_twin_1 (gR_mono (fun x1 H => ?_) H)
  refine T_iload_n (pc := 4) dX11_twin_4 rfl rfl ?_
  refine T_i2l (pc := 5) dX11_twin_5 ?_
  obtain ⟨H0, H⟩ := H
  refine T_iV (pc := 6) (ci := 6) (av := [jL (v1.toInt64)]) (rest := []) (o := x1) dX11_twin_6 mf_X7_findRow c_2_1 c_2_2 c_2_3 rfl rfl (Nat.le_of_ble_eq_true rfl) rfl H0 (iR_k (iR_m0 (fun x2 h H => ?_) (J_X7_findRow (d := d) H)))
  refine T_astore_n (pc := 9) (ls2 := [some (jR v0), some (jI v1), some (jR x2)]) dX11_twin_9 rfl (Nat.le_of_ble_eq_true rfl) rfl ?_
  refine T_aload_n (pc := 10) dX11_twin_10 rfl rfl ?_
  refine T_ifnonnull (pc := 11) (tgt := 16) dX11_twin_11 (by decide) (fun ho => ?_) (fun n ho => ?_)
  · replace H := nl_n ho H
    refine T_iconst (pc := 14) (v := (-1)) dX11_twin_14 (by decide) ?_
    exact T_ireturn (pc := 15) rfl rfl dX11_twin_15 H
  · replace H := nl_s ho H
    refine T_aload_n (pc := 16) dX11_twin_16 rfl rfl ?_
    refine T_aload_n (pc := 17) dX11_twin_17 rfl rfl ?_
    obtain ⟨H0, H⟩ := H
    refine T_iV (pc := 18) (ci := 10) (av := [jR x2]) (rest := []) (o := v0) dX11_twin_18 mf_X11_freeTwin c_2_101 c_2_103 pr_X11_freeTwin rfl rfl (Nat.le_of_ble_eq_true rfl) rfl H0 (iI_k (iI_mono (fun x3 h u H => ?_) H))
    exact T_ireturn (pc := 21) rfl rfl dX11_twin_21 H
theorem I_X11_twin {d : Nat} {v0 : Option Nm} {v1 : Int32} {h : MH} {u : Nat} {K : Int32 → MH → Nat → Prop} (u1 : Nat) (hu : u1 ≤ u) (H : F_X11_twin d v0 v1 h u1 (fun x h2 => K x h2 (u - u1))) : iI (d + 1) u_X11_twin [jR v0, jI v1] h u K := inv.of u1 hu (Ct.of (by decide +kernel) rfl (Nat.le_of_ble_eq_true rfl) rfl (E_X11_twin H))
theorem dX11_weighFirstBody_0 : decode cX11_weighFirstBody 0 = .ok (.aload_n 0, 1) := by decide +kernel
theorem dX11_weighFirstBody_1 : decode cX11_weighFirstBody 1 = .ok (.iconst 3, 1) := by decide +kernel
theorem dX11_weighFirstBody_2 : decode cX11_weighFirstBody 2 = .ok (.invokevirtual 366, 3) := by decide +kernel
theorem dX11_weighFirstBody_5 : decode cX11_weighFirstBody 5 = .ok (.aload_n 1, 1) := by decide +kernel
theorem dX11_weighFirstBody_6 : decode cX11_weighFirstBody 6 = .ok (.getfield 272, 3) := by decide +kernel
theorem dX11_weighFirstBody_9 : decode cX11_weighFirstBody 9 = .ok (.iconst 1, 1) := by decide +kernel
theorem dX11_weighFirstBody_10 : decode cX11_weighFirstBody 10 = .ok (.iadd, 1) := by decide +kernel
theorem dX11_weighFirstBody_11 : decode cX11_weighFirstBody 11 = .ok (.ireturn, 1) := by decide +kernel
def F_X11_weighFirstBody (d : Nat) (v0 : Option Nm) (v1 : Option Nm) (h : MH) (u : Nat) (Q : Int32 → MH → Prop) : Prop :=
  rc h v0 10 ∧ F_X11_leaveTrace d v0 3 h 0 fun h =>
  gI h v1 9 3 fun x2 =>
  Q (x2 + 1) h
set_option maxRecDepth 20000 in
theorem E_X11_weighFirstBody {d : Nat} {v0 : Option Nm} {v1 : Option Nm} {h : MH} {u : Nat} {Q : Int32 → MH → Prop} (H : F_X11_weighFirstBody d v0 v1 h u Q) : T u_X11_weighFirstBody (d + 1) 0 [some (jR v0), some (jR v1)] [] h u (qI Q) := by
  unfold F_X11_weighFirstBody at H
  refine T_aload_n (pc := 0) dX11_weighFirstBody_0 rfl rfl ?_
  refine T_iconst (pc := 1) (v := 3) dX11_weighFirstBody_1 (by decide) ?_
  obtain ⟨H0, H⟩ := H
  refine T_iV (pc := 2) (ci := 10) (av := [jI 3]) (rest := []) (o := v0) dX11_weighFirstBody_2 mf_X11_leaveTrace c_3_141 c_3_143 pr_X11_leaveTrace rfl rfl (Nat.le_of_ble_eq_true rfl) rfl H0 (iV_k (iV_m0 (fun h H => ?_) (J_X11_leaveTrace (d := d) H)))
  refine T_aload_n (pc := 5) dX11_weighFirstBody_5 rfl rfl ?_
  refine T_gI (pc := 6) fa_X11_272 dX11_weighFirstBody_6 (gI_mono (fun x2 H => ?_) H)
  refine T_iconst (pc := 9) (v := 1) dX11_weighFirstBody_9 (by decide) ?_
  refine T_iadd (pc := 10) dX11_weighFirstBody_10 ?_
  exact T_ireturn (pc := 11) rfl rfl dX11_weighFirstBody_11 H
theorem I_X11_weighFirstBody {d : Nat} {v0 : Option Nm} {v1 : Option Nm} {h : MH} {u : Nat} {K : Int32 → MH → Nat → Prop} (u1 : Nat) (hu : u1 ≤ u) (H : F_X11_weighFirstBody d v0 v1 h u1 (fun x h2 => K x h2 (u - u1))) : iI (d + 1) u_X11_weighFirstBody [jR v0, jR v1] h u K := inv.of u1 hu (Ct.of (by decide +kernel) rfl (Nat.le_of_ble_eq_true rfl) rfl (E_X11_weighFirstBody H))
theorem J_X11_weighFirstBody {d : Nat} {v0 : Option Nm} {v1 : Option Nm} {h : MH} {u : Nat} {K : Int32 → MH → Prop} (H : F_X11_weighFirstBody d v0 v1 h 0 K) : iI (d + 1) u_X11_weighFirstBody [jR v0, jR v1] h u (fun x h2 u2 => K x h2 ∧ u2 = u) := jiI (by decide +kernel) rfl (Nat.le_of_ble_eq_true rfl) rfl (E_X11_weighFirstBody H)
theorem dX11_weighSecondBody_0 : decode cX11_weighSecondBody 0 = .ok (.aload_n 0, 1) := by decide +kernel
theorem dX11_weighSecondBody_1 : decode cX11_weighSecondBody 1 = .ok (.iconst 4, 1) := by decide +kernel
theorem dX11_weighSecondBody_2 : decode cX11_weighSecondBody 2 = .ok (.invokevirtual 366, 3) := by decide +kernel
theorem dX11_weighSecondBody_5 : decode cX11_weighSecondBody 5 = .ok (.iconst 2, 1) := by decide +kernel
theorem dX11_weighSecondBody_6 : decode cX11_weighSecondBody 6 = .ok (.aload_n 0, 1) := by decide +kernel
theorem dX11_weighSecondBody_7 : decode cX11_weighSecondBody 7 = .ok (.aload_n 1, 1) := by decide +kernel
theorem dX11_weighSecondBody_8 : decode cX11_weighSecondBody 8 = .ok (.invokevirtual 409, 3) := by decide +kernel
theorem dX11_weighSecondBody_11 : decode cX11_weighSecondBody 11 = .ok (.imul, 1) := by decide +kernel
theorem dX11_weighSecondBody_12 : decode cX11_weighSecondBody 12 = .ok (.ireturn, 1) := by decide +kernel
def F_X11_weighSecondBody (d : Nat) (v0 : Option Nm) (v1 : Option Nm) (h : MH) (u : Nat) (Q : Int32 → MH → Prop) : Prop :=
  rc h v0 10 ∧ F_X11_leaveTrace (d + 1) v0 4 h 0 fun h =>
  rc h v0 10 ∧ F_X11_weighFirstBody d v0 v1 h 0 fun x2 h =>
  Q (2 * x2) h
set_option maxRecDepth 20000 in
theorem E_X11_weighSecondBody {d : Nat} {v0 : Option Nm} {v1 : Option Nm} {h : MH} {u : Nat} {Q : Int32 → MH → Prop} (H : F_X11_weighSecondBody d v0 v1 h u Q) : T u_X11_weighSecondBody (d + 2) 0 [some (jR v0), some (jR v1)] [] h u (qI Q) := by
  unfold F_X11_weighSecondBody at H
  refine T_aload_n (pc := 0) dX11_weighSecondBody_0 rfl rfl ?_
  refine T_iconst (pc := 1) (v := 4) dX11_weighSecondBody_1 (by decide) ?_
  obtain ⟨H0, H⟩ := H
  refine T_iV (pc := 2) (ci := 10) (av := [jI 4]) (rest := []) (o := v0) dX11_weighSecondBody_2 mf_X11_leaveTrace c_3_141 c_3_143 pr_X11_leaveTrace rfl rfl (Nat.le_of_ble_eq_true rfl) rfl H0 (iV_k (iV_m0 (fun h H => ?_) (J_X11_leaveTrace (d := (d + 1)) H)))
  refine T_iconst (pc := 5) (v := 2) dX11_weighSecondBody_5 (by decide) ?_
  refine T_aload_n (pc := 6) dX11_weighSecondBody_6 rfl rfl ?_
  refine T_aload_n (pc := 7) dX11_weighSecondBody_7 rfl rfl ?_
  obtain ⟨H0, H⟩ := H
  refine T_iV (pc := 8) (ci := 10) (av := [jR v1]) (rest := [jI 2]) (o := v0) dX11_weighSecondBody_8 mf_X11_weighFirstBody c_4_89 c_4_91 pr_X11_weighFirstBody rfl rfl (Nat.le_of_ble_eq_true rfl) rfl H0 (iI_k (iI_m0 (fun x2 h H => ?_) (J_X11_weighFirstBody (d := d) H)))
  refine T_imul (pc := 11) dX11_weighSecondBody_11 ?_
  exact T_ireturn (pc := 12) rfl rfl dX11_weighSecondBody_12 H
theorem I_X11_weighSecondBody {d : Nat} {v0 : Option Nm} {v1 : Option Nm} {h : MH} {u : Nat} {K : Int32 → MH → Nat → Prop} (u1 : Nat) (hu : u1 ≤ u) (H : F_X11_weighSecondBody d v0 v1 h u1 (fun x h2 => K x h2 (u - u1))) : iI (d + 2) u_X11_weighSecondBody [jR v0, jR v1] h u K := inv.of u1 hu (Ct.of (by decide +kernel) rfl (Nat.le_of_ble_eq_true rfl) rfl (E_X11_weighSecondBody H))
theorem J_X11_weighSecondBody {d : Nat} {v0 : Option Nm} {v1 : Option Nm} {h : MH} {u : Nat} {K : Int32 → MH → Prop} (H : F_X11_weighSecondBody d v0 v1 h 0 K) : iI (d + 2) u_X11_weighSecondBody [jR v0, jR v1] h u (fun x h2 u2 => K x h2 ∧ u2 = u) := jiI (by decide +kernel) rfl (Nat.le_of_ble_eq_true rfl) rfl (E_X11_weighSecondBody H)
theorem dX11_weighLastBody_0 : decode cX11_weighLastBody 0 = .ok (.aload_n 0, 1) := by decide +kernel
theorem dX11_weighLastBody_1 : decode cX11_weighLastBody 1 = .ok (.iconst 5, 1) := by decide +kernel
theorem dX11_weighLastBody_2 : decode cX11_weighLastBody 2 = .ok (.invokevirtual 366, 3) := by decide +kernel
theorem dX11_weighLastBody_5 : decode cX11_weighLastBody 5 = .ok (.aload_n 0, 1) := by decide +kernel
theorem dX11_weighLastBody_6 : decode cX11_weighLastBody 6 = .ok (.aload_n 1, 1) := by decide +kernel
theorem dX11_weighLastBody_7 : decode cX11_weighLastBody 7 = .ok (.invokevirtual 412, 3) := by decide +kernel
theorem dX11_weighLastBody_10 : decode cX11_weighLastBody 10 = .ok (.bipush 7, 2) := by decide +kernel
theorem dX11_weighLastBody_12 : decode cX11_weighLastBody 12 = .ok (.iadd, 1) := by decide +kernel
theorem dX11_weighLastBody_13 : decode cX11_weighLastBody 13 = .ok (.iconst 1, 1) := by decide +kernel
theorem dX11_weighLastBody_14 : decode cX11_weighLastBody 14 = .ok (.iadd, 1) := by decide +kernel
theorem dX11_weighLastBody_15 : decode cX11_weighLastBody 15 = .ok (.ireturn, 1) := by decide +kernel
def F_X11_weighLastBody (d : Nat) (v0 : Option Nm) (v1 : Option Nm) (h : MH) (u : Nat) (Q : Int32 → MH → Prop) : Prop :=
  rc h v0 10 ∧ F_X11_leaveTrace (d + 2) v0 5 h 0 fun h =>
  rc h v0 10 ∧ F_X11_weighSecondBody d v0 v1 h 0 fun x2 h =>
  Q ((x2 + 7) + 1) h
set_option maxRecDepth 20000 in
theorem E_X11_weighLastBody {d : Nat} {v0 : Option Nm} {v1 : Option Nm} {h : MH} {u : Nat} {Q : Int32 → MH → Prop} (H : F_X11_weighLastBody d v0 v1 h u Q) : T u_X11_weighLastBody (d + 3) 0 [some (jR v0), some (jR v1)] [] h u (qI Q) := by
  unfold F_X11_weighLastBody at H
  refine T_aload_n (pc := 0) dX11_weighLastBody_0 rfl rfl ?_
  refine T_iconst (pc := 1) (v := 5) dX11_weighLastBody_1 (by decide) ?_
  obtain ⟨H0, H⟩ := H
  refine T_iV (pc := 2) (ci := 10) (av := [jI 5]) (rest := []) (o := v0) dX11_weighLastBody_2 mf_X11_leaveTrace c_3_141 c_3_143 pr_X11_leaveTrace rfl rfl (Nat.le_of_ble_eq_true rfl) rfl H0 (iV_k (iV_m0 (fun h H => ?_) (J_X11_leaveTrace (d := (d + 2)) H)))
  refine T_aload_n (pc := 5) dX11_weighLastBody_5 rfl rfl ?_
  refine T_aload_n (pc := 6) dX11_weighLastBody_6 rfl rfl ?_
  obtain ⟨H0, H⟩ := H
  refine T_iV (pc := 7) (ci := 10) (av := [jR v1]) (rest := []) (o := v0) dX11_weighLastBody_7 mf_X11_weighSecondBody c_4_93 c_4_95 pr_X11_weighSecondBody rfl rfl (Nat.le_of_ble_eq_true rfl) rfl H0 (iI_k (iI_m0 (fun x2 h H => ?_) (J_X11_weighSecondBody (d := d) H)))
  refine T_bipush (pc := 10) (v := 7) dX11_weighLastBody_10 (by decide) ?_
  refine T_iadd (pc := 12) dX11_weighLastBody_12 ?_
  refine T_iconst (pc := 13) (v := 1) dX11_weighLastBody_13 (by decide) ?_
  refine T_iadd (pc := 14) dX11_weighLastBody_14 ?_
  exact T_ireturn (pc := 15) rfl rfl dX11_weighLastBody_15 H
theorem I_X11_weighLastBody {d : Nat} {v0 : Option Nm} {v1 : Option Nm} {h : MH} {u : Nat} {K : Int32 → MH → Nat → Prop} (u1 : Nat) (hu : u1 ≤ u) (H : F_X11_weighLastBody d v0 v1 h u1 (fun x h2 => K x h2 (u - u1))) : iI (d + 3) u_X11_weighLastBody [jR v0, jR v1] h u K := inv.of u1 hu (Ct.of (by decide +kernel) rfl (Nat.le_of_ble_eq_true rfl) rfl (E_X11_weighLastBody H))
theorem J_X11_weighLastBody {d : Nat} {v0 : Option Nm} {v1 : Option Nm} {h : MH} {u : Nat} {K : Int32 → MH → Prop} (H : F_X11_weighLastBody d v0 v1 h 0 K) : iI (d + 3) u_X11_weighLastBody [jR v0, jR v1] h u (fun x h2 u2 => K x h2 ∧ u2 = u) := jiI (by decide +kernel) rfl (Nat.le_of_ble_eq_true rfl) rfl (E_X11_weighLastBody H)
theorem dX11_weighConstant_0 : decode cX11_weighConstant 0 = .ok (.aload_n 1, 1) := by decide +kernel
theorem dX11_weighConstant_1 : decode cX11_weighConstant 1 = .ok (.getfield 252, 3) := by decide +kernel
theorem dX11_weighConstant_4 : decode cX11_weighConstant 4 = .ok (.getfield 378, 3) := by decide +kernel
theorem dX11_weighConstant_7 : decode cX11_weighConstant 7 = .ok (.tableswitch 37 0 2 #[25, 31, 31], 25) := by decide +kernel
theorem dX11_weighConstant_32 : decode cX11_weighConstant 32 = .ok (.aload_n 0, 1) := by decide +kernel
theorem dX11_weighConstant_33 : decode cX11_weighConstant 33 = .ok (.aload_n 1, 1) := by decide +kernel
theorem dX11_weighConstant_34 : decode cX11_weighConstant 34 = .ok (.invokevirtual 409, 3) := by decide +kernel
theorem dX11_weighConstant_37 : decode cX11_weighConstant 37 = .ok (.ireturn, 1) := by decide +kernel
theorem dX11_weighConstant_38 : decode cX11_weighConstant 38 = .ok (.aload_n 0, 1) := by decide +kernel
theorem dX11_weighConstant_39 : decode cX11_weighConstant 39 = .ok (.aload_n 1, 1) := by decide +kernel
theorem dX11_weighConstant_40 : decode cX11_weighConstant 40 = .ok (.invokevirtual 412, 3) := by decide +kernel
theorem dX11_weighConstant_43 : decode cX11_weighConstant 43 = .ok (.ireturn, 1) := by decide +kernel
theorem dX11_weighConstant_44 : decode cX11_weighConstant 44 = .ok (.aload_n 0, 1) := by decide +kernel
theorem dX11_weighConstant_45 : decode cX11_weighConstant 45 = .ok (.aload_n 1, 1) := by decide +kernel
theorem dX11_weighConstant_46 : decode cX11_weighConstant 46 = .ok (.invokevirtual 415, 3) := by decide +kernel
theorem dX11_weighConstant_49 : decode cX11_weighConstant 49 = .ok (.ireturn, 1) := by decide +kernel
def F_X11_weighConstant (d : Nat) (v0 : Option Nm) (v1 : Option Nm) (h : MH) (u : Nat) (Q : Int32 → MH → Prop) : Prop :=
  gR h v1 9 1 fun x1 =>
  gI h x1 3 2 fun x2 =>
  if x2 = 0 then
    rc h v0 10 ∧ F_X11_weighFirstBody (d + 2) v0 v1 h 0 fun x3 h =>
    Q x3 h
  else if x2 = 1 then
    rc h v0 10 ∧ F_X11_weighSecondBody (d + 1) v0 v1 h 0 fun x4 h =>
    Q x4 h
  else if x2 = 2 then
    rc h v0 10 ∧ F_X11_weighSecondBody (d + 1) v0 v1 h 0 fun x5 h =>
    Q x5 h
  else 
    rc h v0 10 ∧ F_X11_weighLastBody d v0 v1 h 0 fun x6 h =>
    Q x6 h
set_option maxRecDepth 20000 in
theorem E_X11_weighConstant {d : Nat} {v0 : Option Nm} {v1 : Option Nm} {h : MH} {u : Nat} {Q : Int32 → MH → Prop} (H : F_X11_weighConstant d v0 v1 h u Q) : T u_X11_weighConstant (d + 4) 0 [some (jR v0), some (jR v1)] [] h u (qI Q) := by
  unfold F_X11_weighConstant at H
  refine T_aload_n (pc := 0) dX11_weighConstant_0 rfl rfl ?_
  refine T_gR (pc := 1) fa_X11_252 dX11_weighConstant_1 (gR_mono (fun x1 H => ?_) H)
  refine T_gI (pc := 4) fa_X11_378 dX11_weighConstant_4 (gI_mono (fun x2 H => ?_) H)
  by_cases h0 : x2 = 0
  · rw [if_pos h0] at H
    refine T_tableIn (pc := 7) (off := 25) (tgt := 32) dX11_weighConstant_7 (by rw [h0]; decide) (by rw [h0]; decide) (by rw [h0]; rfl) (by decide) ?_
    refine T_aload_n (pc := 32) dX11_weighConstant_32 rfl rfl ?_
    refine T_aload_n (pc := 33) dX11_weighConstant_33 rfl rfl ?_
    obtain ⟨H0, H⟩ := H
    refine T_iV (pc := 34) (ci := 10) (av := [jR v1]) (rest := []) (o := v0) dX11_weighConstant_34 mf_X11_weighFirstBody c_4_89 c_4_91 pr_X11_weighFirstBody rfl rfl (Nat.le_of_ble_eq_true rfl) rfl H0 (iI_k (iI_m0 (fun x3 h H => ?_) (J_X11_weighFirstBody (d := (d + 2)) H)))
    exact T_ireturn (pc := 37) rfl rfl dX11_weighConstant_37 H
  rw [if_neg h0] at H
  by_cases h1 : x2 = 1
  · rw [if_pos h1] at H
    refine T_tableIn (pc := 7) (off := 31) (tgt := 38) dX11_weighConstant_7 (by rw [h1]; decide) (by rw [h1]; decide) (by rw [h1]; rfl) (by decide) ?_
    refine T_aload_n (pc := 38) dX11_weighConstant_38 rfl rfl ?_
    refine T_aload_n (pc := 39) dX11_weighConstant_39 rfl rfl ?_
    obtain ⟨H0, H⟩ := H
    refine T_iV (pc := 40) (ci := 10) (av := [jR v1]) (rest := []) (o := v0) dX11_weighConstant_40 mf_X11_weighSecondBody c_4_93 c_4_95 pr_X11_weighSecondBody rfl rfl (Nat.le_of_ble_eq_true rfl) rfl H0 (iI_k (iI_m0 (fun x4 h H => ?_) (J_X11_weighSecondBody (d := (d + 1)) H)))
    exact T_ireturn (pc := 43) rfl rfl dX11_weighConstant_43 H
  rw [if_neg h1] at H
  by_cases h2 : x2 = 2
  · rw [if_pos h2] at H
    refine T_tableIn (pc := 7) (off := 31) (tgt := 38) dX11_weighConstant_7 (by rw [h2]; decide) (by rw [h2]; decide) (by rw [h2]; rfl) (by decide) ?_
    refine T_aload_n (pc := 38) dX11_weighConstant_38 rfl rfl ?_
    refine T_aload_n (pc := 39) dX11_weighConstant_39 rfl rfl ?_
    obtain ⟨H0, H⟩ := H
    refine T_iV (pc := 40) (ci := 10) (av := [jR v1]) (rest := []) (o := v0) dX11_weighConstant_40 mf_X11_weighSecondBody c_4_93 c_4_95 pr_X11_weighSecondBody rfl rfl (Nat.le_of_ble_eq_true rfl) rfl H0 (iI_k (iI_m0 (fun x5 h H => ?_) (J_X11_weighSecondBody (d := (d + 1)) H)))
    exact T_ireturn (pc := 43) rfl rfl dX11_weighConstant_43 H
  rw [if_neg h2] at H
  have e0 : (x2 : Int32).toInt ≠ 0 := fun q => h0 (Int32.toInt_inj.mp (q.trans (by decide)))
  have e1 : (x2 : Int32).toInt ≠ 1 := fun q => h1 (Int32.toInt_inj.mp (q.trans (by decide)))
  have e2 : (x2 : Int32).toInt ≠ 2 := fun q => h2 (Int32.toInt_inj.mp (q.trans (by decide)))
  refine T_tableOut (pc := 7) (tgt := 44) dX11_weighConstant_7 (by omega) (by decide) ?_
  refine T_aload_n (pc := 44) dX11_weighConstant_44 rfl rfl ?_
  refine T_aload_n (pc := 45) dX11_weighConstant_45 rfl rfl ?_
  obtain ⟨H0, H⟩ := H
  refine T_iV (pc := 46) (ci := 10) (av := [jR v1]) (rest := []) (o := v0) dX11_weighConstant_46 mf_X11_weighLastBody c_4_97 c_4_99 pr_X11_weighLastBody rfl rfl (Nat.le_of_ble_eq_true rfl) rfl H0 (iI_k (iI_m0 (fun x6 h H => ?_) (J_X11_weighLastBody (d := d) H)))
  exact T_ireturn (pc := 49) rfl rfl dX11_weighConstant_49 H
theorem I_X11_weighConstant {d : Nat} {v0 : Option Nm} {v1 : Option Nm} {h : MH} {u : Nat} {K : Int32 → MH → Nat → Prop} (u1 : Nat) (hu : u1 ≤ u) (H : F_X11_weighConstant d v0 v1 h u1 (fun x h2 => K x h2 (u - u1))) : iI (d + 4) u_X11_weighConstant [jR v0, jR v1] h u K := inv.of u1 hu (Ct.of (by decide +kernel) rfl (Nat.le_of_ble_eq_true rfl) rfl (E_X11_weighConstant H))
theorem J_X11_weighConstant {d : Nat} {v0 : Option Nm} {v1 : Option Nm} {h : MH} {u : Nat} {K : Int32 → MH → Prop} (H : F_X11_weighConstant d v0 v1 h 0 K) : iI (d + 4) u_X11_weighConstant [jR v0, jR v1] h u (fun x h2 u2 => K x h2 ∧ u2 = u) := jiI (by decide +kernel) rfl (Nat.le_of_ble_eq_true rfl) rfl (E_X11_weighConstant H)
theorem dX11_weigh_0 : decode cX11_weigh 0 = .ok (.aload_n 1, 1) := by decide +kernel
theorem dX11_weigh_1 : decode cX11_weigh 1 = .ok (.ifnonnull 5, 3) := by decide +kernel
theorem dX11_weigh_4 : decode cX11_weigh 4 = .ok (.iconst 0, 1) := by decide +kernel
theorem dX11_weigh_5 : decode cX11_weigh 5 = .ok (.ireturn, 1) := by decide +kernel
theorem dX11_weigh_6 : decode cX11_weigh 6 = .ok (.aload_n 1, 1) := by decide +kernel
theorem dX11_weigh_7 : decode cX11_weigh 7 = .ok (.getfield 252, 3) := by decide +kernel
theorem dX11_weigh_10 : decode cX11_weigh 10 = .ok (.getfield 192, 3) := by decide +kernel
theorem dX11_weigh_13 : decode cX11_weigh 13 = .ok (.ifCond .eq 11, 3) := by decide +kernel
theorem dX11_weigh_16 : decode cX11_weigh 16 = .ok (.aload_n 0, 1) := by decide +kernel
theorem dX11_weigh_17 : decode cX11_weigh 17 = .ok (.aload_n 1, 1) := by decide +kernel
theorem dX11_weigh_18 : decode cX11_weigh 18 = .ok (.invokevirtual 399, 3) := by decide +kernel
theorem dX11_weigh_21 : decode cX11_weigh 21 = .ok (.goto 8, 3) := by decide +kernel
theorem dX11_weigh_24 : decode cX11_weigh 24 = .ok (.aload_n 0, 1) := by decide +kernel
theorem dX11_weigh_25 : decode cX11_weigh 25 = .ok (.aload_n 1, 1) := by decide +kernel
theorem dX11_weigh_26 : decode cX11_weigh 26 = .ok (.invokevirtual 402, 3) := by decide +kernel
theorem dX11_weigh_29 : decode cX11_weigh 29 = .ok (.ireturn, 1) := by decide +kernel
def F_X11_weigh (d : Nat) (v0 : Option Nm) (v1 : Option Nm) (h : MH) (u : Nat) (Q : Int32 → MH → Prop) : Prop :=
  nl v1 (
    Q 0 h) (
    gR h v1 9 1 fun x1 =>
    gI h x1 3 1 fun x2 =>
    if x2 = 0 then
      rc h v0 10 ∧ iI (d + 4) u_X11_weighRecord [jR v0, jR v1] h u fun x3 h u =>
      Q x3 h
    else
      rc h v0 10 ∧ F_X11_weighConstant d v0 v1 h 0 fun x4 h =>
      Q x4 h)
set_option maxRecDepth 20000 in
theorem E_X11_weigh {d : Nat} {v0 : Option Nm} {v1 : Option Nm} {h : MH} {u : Nat} {Q : Int32 → MH → Prop} (H : F_X11_weigh d v0 v1 h u Q) : T u_X11_weigh (d + 5) 0 [some (jR v0), some (jR v1)] [] h u (qI Q) := by
  unfold F_X11_weigh at H
  refine T_aload_n (pc := 0) dX11_weigh_0 rfl rfl ?_
  refine T_ifnonnull (pc := 1) (tgt := 6) dX11_weigh_1 (by decide) (fun ho => ?_) (fun n ho => ?_)
  · replace H := nl_n ho H
    refine T_iconst (pc := 4) (v := 0) dX11_weigh_4 (by decide) ?_
    exact T_ireturn (pc := 5) rfl rfl dX11_weigh_5 H
  · replace H := nl_s ho H
    refine T_aload_n (pc := 6) dX11_weigh_6 rfl rfl ?_
    refine T_gR (pc := 7) fa_X11_252 dX11_weigh_7 (gR_mono (fun x1 H => ?_) H)
    refine T_gI (pc := 10) fa_X11_192 dX11_weigh_10 (gI_mono (fun x2 H => ?_) H)
    refine T_if_eq (pc := 13) (tgt := 24) dX11_weigh_13 (by decide) (fun hc => ?_) (fun hc => ?_)
    · rw [if_pos hc] at H
      refine T_aload_n (pc := 24) dX11_weigh_24 rfl rfl ?_
      refine T_aload_n (pc := 25) dX11_weigh_25 rfl rfl ?_
      obtain ⟨H0, H⟩ := H
      refine T_iV (pc := 26) (ci := 10) (av := [jR v1]) (rest := []) (o := v0) dX11_weigh_26 mf_X11_weighRecord c_4_101 c_4_103 pr_X11_weighRecord rfl rfl (Nat.le_of_ble_eq_true rfl) rfl H0 (iI_k (iI_mono (fun x3 h u H => ?_) H))
      exact T_ireturn (pc := 29) rfl rfl dX11_weigh_29 H
    · rw [if_neg hc] at H
      refine T_aload_n (pc := 16) dX11_weigh_16 rfl rfl ?_
      refine T_aload_n (pc := 17) dX11_weigh_17 rfl rfl ?_
      obtain ⟨H0, H⟩ := H
      refine T_iV (pc := 18) (ci := 10) (av := [jR v1]) (rest := []) (o := v0) dX11_weigh_18 mf_X11_weighConstant c_4_85 c_4_87 pr_X11_weighConstant rfl rfl (Nat.le_of_ble_eq_true rfl) rfl H0 (iI_k (iI_m0 (fun x4 h H => ?_) (J_X11_weighConstant (d := d) H)))
      refine T_goto (pc := 21) (tgt := 29) dX11_weigh_21 (by decide) ?_
      exact T_ireturn (pc := 29) rfl rfl dX11_weigh_29 H
theorem I_X11_weigh {d : Nat} {v0 : Option Nm} {v1 : Option Nm} {h : MH} {u : Nat} {K : Int32 → MH → Nat → Prop} (u1 : Nat) (hu : u1 ≤ u) (H : F_X11_weigh d v0 v1 h u1 (fun x h2 => K x h2 (u - u1))) : iI (d + 5) u_X11_weigh [jR v0, jR v1] h u K := inv.of u1 hu (Ct.of (by decide +kernel) rfl (Nat.le_of_ble_eq_true rfl) rfl (E_X11_weigh H))
theorem dX11_weighLent_0 : decode cX11_weighLent 0 = .ok (.aload_n 0, 1) := by decide +kernel
theorem dX11_weighLent_1 : decode cX11_weighLent 1 = .ok (.iconst 2, 1) := by decide +kernel
theorem dX11_weighLent_2 : decode cX11_weighLent 2 = .ok (.invokevirtual 366, 3) := by decide +kernel
theorem dX11_weighLent_5 : decode cX11_weighLent 5 = .ok (.bipush 10, 2) := by decide +kernel
theorem dX11_weighLent_7 : decode cX11_weighLent 7 = .ok (.ireturn, 1) := by decide +kernel
def F_X11_weighLent (d : Nat) (v0 : Option Nm) (h : MH) (u : Nat) (Q : Int32 → MH → Prop) : Prop :=
  rc h v0 10 ∧ F_X11_leaveTrace d v0 2 h 0 fun h =>
  Q 10 h
set_option maxRecDepth 20000 in
theorem E_X11_weighLent {d : Nat} {v0 : Option Nm} {h : MH} {u : Nat} {Q : Int32 → MH → Prop} (H : F_X11_weighLent d v0 h u Q) : T u_X11_weighLent (d + 1) 0 [some (jR v0)] [] h u (qI Q) := by
  unfold F_X11_weighLent at H
  refine T_aload_n (pc := 0) dX11_weighLent_0 rfl rfl ?_
  refine T_iconst (pc := 1) (v := 2) dX11_weighLent_1 (by decide) ?_
  obtain ⟨H0, H⟩ := H
  refine T_iV (pc := 2) (ci := 10) (av := [jI 2]) (rest := []) (o := v0) dX11_weighLent_2 mf_X11_leaveTrace c_3_141 c_3_143 pr_X11_leaveTrace rfl rfl (Nat.le_of_ble_eq_true rfl) rfl H0 (iV_k (iV_m0 (fun h H => ?_) (J_X11_leaveTrace (d := d) H)))
  refine T_bipush (pc := 5) (v := 10) dX11_weighLent_5 (by decide) ?_
  exact T_ireturn (pc := 7) rfl rfl dX11_weighLent_7 H
theorem I_X11_weighLent {d : Nat} {v0 : Option Nm} {h : MH} {u : Nat} {K : Int32 → MH → Nat → Prop} (u1 : Nat) (hu : u1 ≤ u) (H : F_X11_weighLent d v0 h u1 (fun x h2 => K x h2 (u - u1))) : iI (d + 1) u_X11_weighLent [jR v0] h u K := inv.of u1 hu (Ct.of (by decide +kernel) rfl (Nat.le_of_ble_eq_true rfl) rfl (E_X11_weighLent H))
theorem J_X11_weighLent {d : Nat} {v0 : Option Nm} {h : MH} {u : Nat} {K : Int32 → MH → Prop} (H : F_X11_weighLent d v0 h 0 K) : iI (d + 1) u_X11_weighLent [jR v0] h u (fun x h2 u2 => K x h2 ∧ u2 = u) := jiI (by decide +kernel) rfl (Nat.le_of_ble_eq_true rfl) rfl (E_X11_weighLent H)
theorem dX11_weighRecord_0 : decode cX11_weighRecord 0 = .ok (.aload_n 0, 1) := by decide +kernel
theorem dX11_weighRecord_1 : decode cX11_weighRecord 1 = .ok (.iconst 1, 1) := by decide +kernel
theorem dX11_weighRecord_2 : decode cX11_weighRecord 2 = .ok (.invokevirtual 366, 3) := by decide +kernel
theorem dX11_weighRecord_5 : decode cX11_weighRecord 5 = .ok (.aload_n 0, 1) := by decide +kernel
theorem dX11_weighRecord_6 : decode cX11_weighRecord 6 = .ok (.invokevirtual 405, 3) := by decide +kernel
theorem dX11_weighRecord_9 : decode cX11_weighRecord 9 = .ok (.istore_n 2, 1) := by decide +kernel
theorem dX11_weighRecord_10 : decode cX11_weighRecord 10 = .ok (.iconst 0, 1) := by decide +kernel
theorem dX11_weighRecord_11 : decode cX11_weighRecord 11 = .ok (.istore_n 3, 1) := by decide +kernel
theorem dX11_weighRecord_12 : decode cX11_weighRecord 12 = .ok (.iload_n 3, 1) := by decide +kernel
theorem dX11_weighRecord_13 : decode cX11_weighRecord 13 = .ok (.aload_n 1, 1) := by decide +kernel
theorem dX11_weighRecord_14 : decode cX11_weighRecord 14 = .ok (.getfield 284, 3) := by decide +kernel
theorem dX11_weighRecord_17 : decode cX11_weighRecord 17 = .ok (.arraylength, 1) := by decide +kernel
theorem dX11_weighRecord_18 : decode cX11_weighRecord 18 = .ok (.if_icmp .ge 93, 3) := by decide +kernel
theorem dX11_weighRecord_21 : decode cX11_weighRecord 21 = .ok (.aload_n 1, 1) := by decide +kernel
theorem dX11_weighRecord_22 : decode cX11_weighRecord 22 = .ok (.getfield 264, 3) := by decide +kernel
theorem dX11_weighRecord_25 : decode cX11_weighRecord 25 = .ok (.getfield 281, 3) := by decide +kernel
theorem dX11_weighRecord_28 : decode cX11_weighRecord 28 = .ok (.iload_n 3, 1) := by decide +kernel
theorem dX11_weighRecord_29 : decode cX11_weighRecord 29 = .ok (.iaload, 1) := by decide +kernel
theorem dX11_weighRecord_30 : decode cX11_weighRecord 30 = .ok (.bipush 8, 2) := by decide +kernel
theorem dX11_weighRecord_32 : decode cX11_weighRecord 32 = .ok (.if_icmp .ne 26, 3) := by decide +kernel
theorem dX11_weighRecord_35 : decode cX11_weighRecord 35 = .ok (.iload_n 2, 1) := by decide +kernel
theorem dX11_weighRecord_36 : decode cX11_weighRecord 36 = .ok (.aload_n 0, 1) := by decide +kernel
theorem dX11_weighRecord_37 : decode cX11_weighRecord 37 = .ok (.aload_n 0, 1) := by decide +kernel
theorem dX11_weighRecord_38 : decode cX11_weighRecord 38 = .ok (.getfield 12, 3) := by decide +kernel
theorem dX11_weighRecord_41 : decode cX11_weighRecord 41 = .ok (.aload_n 1, 1) := by decide +kernel
theorem dX11_weighRecord_42 : decode cX11_weighRecord 42 = .ok (.getfield 284, 3) := by decide +kernel
theorem dX11_weighRecord_45 : decode cX11_weighRecord 45 = .ok (.iload_n 3, 1) := by decide +kernel
theorem dX11_weighRecord_46 : decode cX11_weighRecord 46 = .ok (.laload, 1) := by decide +kernel
theorem dX11_weighRecord_47 : decode cX11_weighRecord 47 = .ok (.invokevirtual 118, 3) := by decide +kernel
theorem dX11_weighRecord_50 : decode cX11_weighRecord 50 = .ok (.invokevirtual 300, 3) := by decide +kernel
theorem dX11_weighRecord_53 : decode cX11_weighRecord 53 = .ok (.iadd, 1) := by decide +kernel
theorem dX11_weighRecord_54 : decode cX11_weighRecord 54 = .ok (.istore_n 2, 1) := by decide +kernel
theorem dX11_weighRecord_55 : decode cX11_weighRecord 55 = .ok (.goto 50, 3) := by decide +kernel
theorem dX11_weighRecord_58 : decode cX11_weighRecord 58 = .ok (.aload_n 1, 1) := by decide +kernel
theorem dX11_weighRecord_59 : decode cX11_weighRecord 59 = .ok (.getfield 264, 3) := by decide +kernel
theorem dX11_weighRecord_62 : decode cX11_weighRecord 62 = .ok (.getfield 281, 3) := by decide +kernel
theorem dX11_weighRecord_65 : decode cX11_weighRecord 65 = .ok (.iload_n 3, 1) := by decide +kernel
theorem dX11_weighRecord_66 : decode cX11_weighRecord 66 = .ok (.iaload, 1) := by decide +kernel
theorem dX11_weighRecord_67 : decode cX11_weighRecord 67 = .ok (.bipush 9, 2) := by decide +kernel
theorem dX11_weighRecord_69 : decode cX11_weighRecord 69 = .ok (.if_icmp .ne 36, 3) := by decide +kernel
theorem dX11_weighRecord_72 : decode cX11_weighRecord 72 = .ok (.aload_n 0, 1) := by decide +kernel
theorem dX11_weighRecord_73 : decode cX11_weighRecord 73 = .ok (.getfield 12, 3) := by decide +kernel
theorem dX11_weighRecord_76 : decode cX11_weighRecord 76 = .ok (.aload_n 1, 1) := by decide +kernel
theorem dX11_weighRecord_77 : decode cX11_weighRecord 77 = .ok (.getfield 284, 3) := by decide +kernel
theorem dX11_weighRecord_80 : decode cX11_weighRecord 80 = .ok (.iload_n 3, 1) := by decide +kernel
theorem dX11_weighRecord_81 : decode cX11_weighRecord 81 = .ok (.laload, 1) := by decide +kernel
theorem dX11_weighRecord_82 : decode cX11_weighRecord 82 = .ok (.invokevirtual 86, 3) := by decide +kernel
theorem dX11_weighRecord_85 : decode cX11_weighRecord 85 = .ok (.astore 4, 2) := by decide +kernel
theorem dX11_weighRecord_87 : decode cX11_weighRecord 87 = .ok (.iload_n 2, 1) := by decide +kernel
theorem dX11_weighRecord_88 : decode cX11_weighRecord 88 = .ok (.aload 4, 2) := by decide +kernel
theorem dX11_weighRecord_90 : decode cX11_weighRecord 90 = .ok (.ifnonnull 7, 3) := by decide +kernel
theorem dX11_weighRecord_93 : decode cX11_weighRecord 93 = .ok (.iconst 0, 1) := by decide +kernel
theorem dX11_weighRecord_94 : decode cX11_weighRecord 94 = .ok (.goto 9, 3) := by decide +kernel
theorem dX11_weighRecord_97 : decode cX11_weighRecord 97 = .ok (.aload 4, 2) := by decide +kernel
theorem dX11_weighRecord_99 : decode cX11_weighRecord 99 = .ok (.getfield 100, 3) := by decide +kernel
theorem dX11_weighRecord_102 : decode cX11_weighRecord 102 = .ok (.arraylength, 1) := by decide +kernel
theorem dX11_weighRecord_103 : decode cX11_weighRecord 103 = .ok (.iadd, 1) := by decide +kernel
theorem dX11_weighRecord_104 : decode cX11_weighRecord 104 = .ok (.istore_n 2, 1) := by decide +kernel
theorem dX11_weighRecord_105 : decode cX11_weighRecord 105 = .ok (.iinc 3 1, 3) := by decide +kernel
theorem dX11_weighRecord_108 : decode cX11_weighRecord 108 = .ok (.goto (-96), 3) := by decide +kernel
theorem dX11_weighRecord_111 : decode cX11_weighRecord 111 = .ok (.iload_n 2, 1) := by decide +kernel
theorem dX11_weighRecord_112 : decode cX11_weighRecord 112 = .ok (.ireturn, 1) := by decide +kernel
def L_X11_weighRecord_12 (d : Nat) (v0 : Option Nm) (v1 : Option Nm) (v2 : Int32) (v3 : Int32) (h : MH) (u : Nat) (Q : Int32 → MH → Prop) : Prop := T u_X11_weighRecord (d + 2) 12 [some (jR v0), some (jR v1), some (jI v2), some (jI v3), none] [] h u (qI Q)
def F_X11_weighRecord (d : Nat) (v0 : Option Nm) (v1 : Option Nm) (h : MH) (u : Nat) (Q : Int32 → MH → Prop) : Prop :=
  rc h v0 10 ∧ F_X11_leaveTrace (d + 1) v0 1 h 0 fun h =>
  rc h v0 10 ∧ F_X11_weighLent d v0 h 0 fun x2 h =>
  L_X11_weighRecord_12 d v0 v1 x2 0 h u Q
set_option maxRecDepth 20000 in
theorem E_X11_weighRecord {d : Nat} {v0 : Option Nm} {v1 : Option Nm} {h : MH} {u : Nat} {Q : Int32 → MH → Prop} (H : F_X11_weighRecord d v0 v1 h u Q) : T u_X11_weighRecord (d + 2) 0 [some (jR v0), some (jR v1), none, none, none] [] h u (qI Q) := by
  unfold F_X11_weighRecord at H
  refine T_aload_n (pc := 0) dX11_weighRecord_0 rfl rfl ?_
  refine T_iconst (pc := 1) (v := 1) dX11_weighRecord_1 (by decide) ?_
  obtain ⟨H0, H⟩ := H
  refine T_iV (pc := 2) (ci := 10) (av := [jI 1]) (rest := []) (o := v0) dX11_weighRecord_2 mf_X11_leaveTrace c_3_141 c_3_143 pr_X11_leaveTrace rfl rfl (Nat.le_of_ble_eq_true rfl) rfl H0 (iV_k (iV_m0 (fun h H => ?_) (J_X11_leaveTrace (d := (d + 1)) H)))
  refine T_aload_n (pc := 5) dX11_weighRecord_5 rfl rfl ?_
  obtain ⟨H0, H⟩ := H
  refine T_iV (pc := 6) (ci := 10) (av := []) (rest := []) (o := v0) dX11_weighRecord_6 mf_X11_weighLent c_4_105 c_4_107 pr_X11_weighLent rfl rfl (Nat.le_of_ble_eq_true rfl) rfl H0 (iI_k (iI_m0 (fun x2 h H => ?_) (J_X11_weighLent (d := d) H)))
  refine T_istore_n (pc := 9) (ls2 := [some (jR v0), some (jR v1), some (jI x2), none, none]) dX11_weighRecord_9 rfl (Nat.le_of_ble_eq_true rfl) rfl ?_
  refine T_iconst (pc := 10) (v := 0) dX11_weighRecord_10 (by decide) ?_
  refine T_istore_n (pc := 11) (ls2 := [some (jR v0), some (jR v1), some (jI x2), some (jI 0), none]) dX11_weighRecord_11 rfl (Nat.le_of_ble_eq_true rfl) rfl ?_
  exact T.forget H ⟨rfl, rfl, rfl, rfl, trivial⟩
def F_X11_weighRecord_12 (d : Nat) (v0 : Option Nm) (v1 : Option Nm) (v2 : Int32) (v3 : Int32) (h : MH) (u : Nat) (Q : Int32 → MH → Prop) : Prop :=
  gR h v1 9 5 fun x1 =>
  aN h x1 fun x2 =>
  if x2 ≤ v3 then
    Q v2 h
  else
    gR h v1 9 2 fun x3 =>
    gR h x3 2 2 fun x4 =>
    aI .int h x4 v3 fun x5 =>
    if x5 = 8 then
      gR h v0 10 0 fun x15 =>
      gR h v1 9 5 fun x16 =>
      aL h x16 v3 fun x17 =>
      rc h x15 6 ∧ F_X7_findValue (d + 1) x15 x17 h 0 fun x18 h =>
      rc h v0 10 ∧ iI (d + 1) u_X11_weigh [jR v0, jR x18] h u fun x19 h u =>
      L_X11_weighRecord_12 d v0 v1 (v2 + x19) (v3 + 1) h u Q
    else
      gR h v1 9 2 fun x6 =>
      gR h x6 2 2 fun x7 =>
      aI .int h x7 v3 fun x8 =>
      if x8 = 9 then
        gR h v0 10 0 fun x9 =>
        gR h v1 9 5 fun x10 =>
        aL h x10 v3 fun x11 =>
        rc h x9 6 ∧ F_X7_findRow (d + 1) x9 x11 h 0 fun x12 h =>
        nl x12 (
          L_X11_weighRecord_12 d v0 v1 (v2 + 0) (v3 + 1) h u Q) (
          gR h x12 4 2 fun x13 =>
          aN h x13 fun x14 =>
          L_X11_weighRecord_12 d v0 v1 (v2 + x14) (v3 + 1) h u Q)
      else
        L_X11_weighRecord_12 d v0 v1 v2 (v3 + 1) h u Q
set_option maxRecDepth 20000 in
theorem E_X11_weighRecord_12 {d : Nat} {v0 : Option Nm} {v1 : Option Nm} {v2 : Int32} {v3 : Int32} {h : MH} {u : Nat} {Q : Int32 → MH → Prop} (H : F_X11_weighRecord_12 d v0 v1 v2 v3 h u Q) : T u_X11_weighRecord (d + 2) 12 [some (jR v0), some (jR v1), some (jI v2), some (jI v3), none] [] h u (qI Q) := by
  unfold F_X11_weighRecord_12 at H
  refine T_iload_n (pc := 12) dX11_weighRecord_12 rfl rfl ?_
  refine T_aload_n (pc := 13) dX11_weighRecord_13 rfl rfl ?_
  refine T_gR (pc := 14) fa_X11_284 dX11_weighRecord_14 (gR_mono (fun x1 H => ?_) H)
  refine T_aN (pc := 17) dX11_weighRecord_17 (aN_mono (fun x2 H => ?_) H)
  refine T_icmp_ge (pc := 18) (tgt := 111) dX11_weighRecord_18 (by decide) (fun hc => ?_) (fun hc => ?_)
  · rw [if_pos hc] at H
    refine T_iload_n (pc := 111) dX11_weighRecord_111 rfl rfl ?_
    exact T_ireturn (pc := 112) rfl rfl dX11_weighRecord_112 H
  · rw [if_neg hc] at H
    refine T_aload_n (pc := 21) dX11_weighRecord_21 rfl rfl ?_
    refine T_gR (pc := 22) fa_X11_264 dX11_weighRecord_22 (gR_mono (fun x3 H => ?_) H)
    refine T_gR (pc := 25) fa_X11_281 dX11_weighRecord_25 (gR_mono (fun x4 H => ?_) H)
    refine T_iload_n (pc := 28) dX11_weighRecord_28 rfl rfl ?_
    refine T_aI (pc := 29) dX11_weighRecord_29 (aI_mono (fun x5 H => ?_) H)
    refine T_bipush (pc := 30) (v := 8) dX11_weighRecord_30 (by decide) ?_
    refine T_icmp_ne (pc := 32) (tgt := 58) dX11_weighRecord_32 (by decide) (fun hc => ?_) (fun hc => ?_)
    · rw [if_neg hc] at H
      refine T_aload_n (pc := 58) dX11_weighRecord_58 rfl rfl ?_
      refine T_gR (pc := 59) fa_X11_264 dX11_weighRecord_59 (gR_mono (fun x6 H => ?_) H)
      refine T_gR (pc := 62) fa_X11_281 dX11_weighRecord_62 (gR_mono (fun x7 H => ?_) H)
      refine T_iload_n (pc := 65) dX11_weighRecord_65 rfl rfl ?_
      refine T_aI (pc := 66) dX11_weighRecord_66 (aI_mono (fun x8 H => ?_) H)
      refine T_bipush (pc := 67) (v := 9) dX11_weighRecord_67 (by decide) ?_
      refine T_icmp_ne (pc := 69) (tgt := 105) dX11_weighRecord_69 (by decide) (fun hc => ?_) (fun hc => ?_)
      · rw [if_neg hc] at H
        refine T_iinc (pc := 105) (v := v3 + 1) (ls2 := [some (jR v0), some (jR v1), some (jI v2), some (jI (v3 + 1)), none]) dX11_weighRecord_105 rfl rfl (Nat.le_of_ble_eq_true rfl) rfl ?_
        refine T_goto (pc := 108) (tgt := 12) dX11_weighRecord_108 (by decide) ?_
        exact T.forget H ⟨rfl, rfl, rfl, rfl, trivial⟩
      · rw [if_pos hc] at H
        refine T_aload_n (pc := 72) dX11_weighRecord_72 rfl rfl ?_
        refine T_gR (pc := 73) fa_X11_12 dX11_weighRecord_73 (gR_mono (fun x9 H => ?_) H)
        refine T_aload_n (pc := 76) dX11_weighRecord_76 rfl rfl ?_
        refine T_gR (pc := 77) fa_X11_284 dX11_weighRecord_77 (gR_mono (fun x10 H => ?_) H)
        refine T_iload_n (pc := 80) dX11_weighRecord_80 rfl rfl ?_
        refine T_aL (pc := 81) dX11_weighRecord_81 (aL_mono (fun x11 H => ?_) H)
        obtain ⟨H0, H⟩ := H
        refine T_iV (pc := 82) (ci := 6) (av := [jL x11]) (rest := []) (o := x9) dX11_weighRecord_82 mf_X7_findRow c_2_1 c_2_2 c_2_3 rfl rfl (Nat.le_of_ble_eq_true rfl) rfl H0 (iR_k (iR_m0 (fun x12 h H => ?_) (J_X7_findRow (d := (d + 1)) H)))
        refine T_astore (pc := 85) (ls2 := [some (jR v0), some (jR v1), some (jI v2), some (jI v3), some (jR x12)]) dX11_weighRecord_85 (Nat.le_of_ble_eq_true rfl) rfl ?_
        refine T_iload_n (pc := 87) dX11_weighRecord_87 rfl rfl ?_
        refine T_aload (pc := 88) dX11_weighRecord_88 rfl ?_
        refine T_ifnonnull (pc := 90) (tgt := 97) dX11_weighRecord_90 (by decide) (fun ho => ?_) (fun n ho => ?_)
        · replace H := nl_n ho H
          refine T_iconst (pc := 93) (v := 0) dX11_weighRecord_93 (by decide) ?_
          refine T_goto (pc := 94) (tgt := 103) dX11_weighRecord_94 (by decide) ?_
          refine T_iadd (pc := 103) dX11_weighRecord_103 ?_
          refine T_istore_n (pc := 104) (ls2 := [some (jR v0), some (jR v1), some (jI (v2 + 0)), some (jI v3), some (jR x12)]) dX11_weighRecord_104 rfl (Nat.le_of_ble_eq_true rfl) rfl ?_
          refine T_iinc (pc := 105) (v := v3 + 1) (ls2 := [some (jR v0), some (jR v1), some (jI (v2 + 0)), some (jI (v3 + 1)), some (jR x12)]) dX11_weighRecord_105 rfl rfl (Nat.le_of_ble_eq_true rfl) rfl ?_
          refine T_goto (pc := 108) (tgt := 12) dX11_weighRecord_108 (by decide) ?_
          exact T.forget H ⟨rfl, rfl, rfl, rfl, trivial⟩
        · replace H := nl_s ho H
          refine T_aload (pc := 97) dX11_weighRecord_97 rfl ?_
          refine T_gR (pc := 99) fa_X11_100 dX11_weighRecord_99 (gR_mono (fun x13 H => ?_) H)
          refine T_aN (pc := 102) dX11_weighRecord_102 (aN_mono (fun x14 H => ?_) H)
          refine T_iadd (pc := 103) dX11_weighRecord_103 ?_
          refine T_istore_n (pc := 104) (ls2 := [some (jR v0), some (jR v1), some (jI (v2 + x14)), some (jI v3), some (jR x12)]) dX11_weighRecord_104 rfl (Nat.le_of_ble_eq_true rfl) rfl ?_
          refine T_iinc (pc := 105) (v := v3 + 1) (ls2 := [some (jR v0), some (jR v1), some (jI (v2 + x14)), some (jI (v3 + 1)), some (jR x12)]) dX11_weighRecord_105 rfl rfl (Nat.le_of_ble_eq_true rfl) rfl ?_
          refine T_goto (pc := 108) (tgt := 12) dX11_weighRecord_108 (by decide) ?_
          exact T.forget H ⟨rfl, rfl, rfl, rfl, trivial⟩
    · rw [if_pos hc] at H
      refine T_iload_n (pc := 35) dX11_weighRecord_35 rfl rfl ?_
      refine T_aload_n (pc := 36) dX11_weighRecord_36 rfl rfl ?_
      refine T_aload_n (pc := 37) dX11_weighRecord_37 rfl rfl ?_
      refine T_gR (pc := 38) fa_X11_12 dX11_weighRecord_38 (gR_mono (fun x15 H => ?_) H)
      refine T_aload_n (pc := 41) dX11_weighRecord_41 rfl rfl ?_
      refine T_gR (pc := 42) fa_X11_284 dX11_weighRecord_42 (gR_mono (fun x16 H => ?_) H)
      refine T_iload_n (pc := 45) dX11_weighRecord_45 rfl rfl ?_
      refine T_aL (pc := 46) dX11_weighRecord_46 (aL_mono (fun x17 H => ?_) H)
      obtain ⟨H0, H⟩ := H
      refine T_iV (pc := 47) (ci := 6) (av := [jL x17]) (rest := [jR v0, jI v2]) (o := x15) dX11_weighRecord_47 mf_X7_findValue c_2_63 c_2_64 c_2_65 rfl rfl (Nat.le_of_ble_eq_true rfl) rfl H0 (iR_k (iR_m0 (fun x18 h H => ?_) (J_X7_findValue (d := (d + 1)) H)))
      obtain ⟨H0, H⟩ := H
      refine T_iV (pc := 50) (ci := 10) (av := [jR x18]) (rest := [jI v2]) (o := v0) dX11_weighRecord_50 mf_X11_weigh c_4_81 c_4_83 pr_X11_weigh rfl rfl (Nat.le_of_ble_eq_true rfl) rfl H0 (iI_k (iI_mono (fun x19 h u H => ?_) H))
      refine T_iadd (pc := 53) dX11_weighRecord_53 ?_
      refine T_istore_n (pc := 54) (ls2 := [some (jR v0), some (jR v1), some (jI (v2 + x19)), some (jI v3), none]) dX11_weighRecord_54 rfl (Nat.le_of_ble_eq_true rfl) rfl ?_
      refine T_goto (pc := 55) (tgt := 105) dX11_weighRecord_55 (by decide) ?_
      refine T_iinc (pc := 105) (v := v3 + 1) (ls2 := [some (jR v0), some (jR v1), some (jI (v2 + x19)), some (jI (v3 + 1)), none]) dX11_weighRecord_105 rfl rfl (Nat.le_of_ble_eq_true rfl) rfl ?_
      refine T_goto (pc := 108) (tgt := 12) dX11_weighRecord_108 (by decide) ?_
      exact T.forget H ⟨rfl, rfl, rfl, rfl, trivial⟩
theorem I_X11_weighRecord {d : Nat} {v0 : Option Nm} {v1 : Option Nm} {h : MH} {u : Nat} {K : Int32 → MH → Nat → Prop} (u1 : Nat) (hu : u1 ≤ u) (H : F_X11_weighRecord d v0 v1 h u1 (fun x h2 => K x h2 (u - u1))) : iI (d + 2) u_X11_weighRecord [jR v0, jR v1] h u K := inv.of u1 hu (Ct.of (by decide +kernel) rfl (Nat.le_of_ble_eq_true rfl) rfl (E_X11_weighRecord H))
theorem dX11_weight_0 : decode cX11_weight 0 = .ok (.aload_n 0, 1) := by decide +kernel
theorem dX11_weight_1 : decode cX11_weight 1 = .ok (.getfield 12, 3) := by decide +kernel
theorem dX11_weight_4 : decode cX11_weight 4 = .ok (.iload_n 1, 1) := by decide +kernel
theorem dX11_weight_5 : decode cX11_weight 5 = .ok (.i2l, 1) := by decide +kernel
theorem dX11_weight_6 : decode cX11_weight 6 = .ok (.invokevirtual 118, 3) := by decide +kernel
theorem dX11_weight_9 : decode cX11_weight 9 = .ok (.astore_n 2, 1) := by decide +kernel
theorem dX11_weight_10 : decode cX11_weight 10 = .ok (.aload_n 2, 1) := by decide +kernel
theorem dX11_weight_11 : decode cX11_weight 11 = .ok (.ifnonnull 7, 3) := by decide +kernel
theorem dX11_weight_14 : decode cX11_weight 14 = .ok (.iconst (-1), 1) := by decide +kernel
theorem dX11_weight_15 : decode cX11_weight 15 = .ok (.goto 8, 3) := by decide +kernel
theorem dX11_weight_18 : decode cX11_weight 18 = .ok (.aload_n 0, 1) := by decide +kernel
theorem dX11_weight_19 : decode cX11_weight 19 = .ok (.aload_n 2, 1) := by decide +kernel
theorem dX11_weight_20 : decode cX11_weight 20 = .ok (.invokevirtual 300, 3) := by decide +kernel
theorem dX11_weight_23 : decode cX11_weight 23 = .ok (.ireturn, 1) := by decide +kernel
def F_X11_weight (d : Nat) (v0 : Option Nm) (v1 : Int32) (h : MH) (u : Nat) (Q : Int32 → MH → Prop) : Prop :=
  gR h v0 10 0 fun x1 =>
  rc h x1 6 ∧ F_X7_findValue d x1 (v1.toInt64) h 0 fun x2 h =>
  nl x2 (
    Q (-1) h) (
    rc h v0 10 ∧ iI d u_X11_weigh [jR v0, jR x2] h u fun x3 h u =>
    Q x3 h)
set_option maxRecDepth 20000 in
theorem E_X11_weight {d : Nat} {v0 : Option Nm} {v1 : Int32} {h : MH} {u : Nat} {Q : Int32 → MH → Prop} (H : F_X11_weight d v0 v1 h u Q) : T u_X11_weight (d + 1) 0 [some (jR v0), some (jI v1), none] [] h u (qI Q) := by
  unfold F_X11_weight at H
  refine T_aload_n (pc := 0) dX11_weight_0 rfl rfl ?_
  refine T_gR (pc := 1) fa_X11_12 dX11_weight_1 (gR_mono (fun x1 H => ?_) H)
  refine T_iload_n (pc := 4) dX11_weight_4 rfl rfl ?_
  refine T_i2l (pc := 5) dX11_weight_5 ?_
  obtain ⟨H0, H⟩ := H
  refine T_iV (pc := 6) (ci := 6) (av := [jL (v1.toInt64)]) (rest := []) (o := x1) dX11_weight_6 mf_X7_findValue c_2_63 c_2_64 c_2_65 rfl rfl (Nat.le_of_ble_eq_true rfl) rfl H0 (iR_k (iR_m0 (fun x2 h H => ?_) (J_X7_findValue (d := d) H)))
  refine T_astore_n (pc := 9) (ls2 := [some (jR v0), some (jI v1), some (jR x2)]) dX11_weight_9 rfl (Nat.le_of_ble_eq_true rfl) rfl ?_
  refine T_aload_n (pc := 10) dX11_weight_10 rfl rfl ?_
  refine T_ifnonnull (pc := 11) (tgt := 18) dX11_weight_11 (by decide) (fun ho => ?_) (fun n ho => ?_)
  · replace H := nl_n ho H
    refine T_iconst (pc := 14) (v := (-1)) dX11_weight_14 (by decide) ?_
    refine T_goto (pc := 15) (tgt := 23) dX11_weight_15 (by decide) ?_
    exact T_ireturn (pc := 23) rfl rfl dX11_weight_23 H
  · replace H := nl_s ho H
    refine T_aload_n (pc := 18) dX11_weight_18 rfl rfl ?_
    refine T_aload_n (pc := 19) dX11_weight_19 rfl rfl ?_
    obtain ⟨H0, H⟩ := H
    refine T_iV (pc := 20) (ci := 10) (av := [jR x2]) (rest := []) (o := v0) dX11_weight_20 mf_X11_weigh c_4_81 c_4_83 pr_X11_weigh rfl rfl (Nat.le_of_ble_eq_true rfl) rfl H0 (iI_k (iI_mono (fun x3 h u H => ?_) H))
    exact T_ireturn (pc := 23) rfl rfl dX11_weight_23 H
theorem I_X11_weight {d : Nat} {v0 : Option Nm} {v1 : Int32} {h : MH} {u : Nat} {K : Int32 → MH → Nat → Prop} (u1 : Nat) (hu : u1 ≤ u) (H : F_X11_weight d v0 v1 h u1 (fun x h2 => K x h2 (u - u1))) : iI (d + 1) u_X11_weight [jR v0, jI v1] h u K := inv.of u1 hu (Ct.of (by decide +kernel) rfl (Nat.le_of_ble_eq_true rfl) rfl (E_X11_weight H))
theorem J_X11_weight {d : Nat} {v0 : Option Nm} {v1 : Int32} {h : MH} {u : Nat} {K : Int32 → MH → Prop} (H : F_X11_weight d v0 v1 h 0 K) : iI (d + 1) u_X11_weight [jR v0, jI v1] h u (fun x h2 u2 => K x h2 ∧ u2 = u) := jiI (by decide +kernel) rfl (Nat.le_of_ble_eq_true rfl) rfl (E_X11_weight H)
theorem dX1_init_0 : decode cX1_init 0 = .ok (.aload_n 0, 1) := by decide +kernel
theorem dX1_init_1 : decode cX1_init 1 = .ok (.invokespecial 3, 3) := by decide +kernel
theorem dX1_init_4 : decode cX1_init 4 = .ok (.aload_n 0, 1) := by decide +kernel
theorem dX1_init_5 : decode cX1_init 5 = .ok (.aload_n 1, 1) := by decide +kernel
theorem dX1_init_6 : decode cX1_init 6 = .ok (.putfield 9, 3) := by decide +kernel
theorem dX1_init_9 : decode cX1_init 9 = .ok (.aload_n 0, 1) := by decide +kernel
theorem dX1_init_10 : decode cX1_init 10 = .ok (.bipush 6, 2) := by decide +kernel
theorem dX1_init_12 : decode cX1_init 12 = .ok (.newarray .long, 2) := by decide +kernel
theorem dX1_init_14 : decode cX1_init 14 = .ok (.putfield 15, 3) := by decide +kernel
theorem dX1_init_17 : decode cX1_init 17 = .ok (.return_, 1) := by decide +kernel
def F_X1_init (d : Nat) (v0 : Option Nm) (v1 : Option Nm) (h : MH) (u : Nat) (Q : MH → Prop) : Prop :=
  nn v0 <|
  pV h v0 1 0 (jR v1) fun h =>
  nA .long h u 6 fun x1 h u =>
  pV h v0 1 1 (jR (some x1)) fun h =>
  Q h
set_option maxRecDepth 20000 in
theorem E_X1_init {d : Nat} {v0 : Option Nm} {v1 : Option Nm} {h : MH} {u : Nat} {Q : MH → Prop} (H : F_X1_init d v0 v1 h u Q) : T u_X1_init (d + 1) 0 [some (jR v0), some (jR v1)] [] h u (qV Q) := by
  unfold F_X1_init at H
  refine T_aload_n (pc := 0) dX1_init_0 rfl rfl ?_
  obtain ⟨n0, H0, H⟩ := nn_out H
  refine T_objInit (pc := 1) dX1_init_1 c_1_72 c_1_25 c_1_26 H0 (Nat.le_of_ble_eq_true rfl) ?_
  refine T_aload_n (pc := 4) dX1_init_4 rfl rfl ?_
  refine T_aload_n (pc := 5) dX1_init_5 rfl rfl ?_
  refine T_pVF (pc := 6) fa_X1_9 rfl rfl dX1_init_6 trivial (pV_mono (fun h H => ?_) H)
  refine T_aload_n (pc := 9) dX1_init_9 rfl rfl ?_
  refine T_bipush (pc := 10) (v := 6) dX1_init_10 (by decide) ?_
  refine T_nA (pc := 12) dX1_init_12 rfl (by decide) c_1_66 (nA_mono (fun x1 h u H => ?_) H)
  refine T_pVF (pc := 14) fa_X1_15 rfl rfl dX1_init_14 trivial (pV_mono (fun h H => ?_) H)
  exact T_return (pc := 17) rfl dX1_init_17 H
theorem I_X1_init {d : Nat} {v0 : Option Nm} {v1 : Option Nm} {h : MH} {u : Nat} {K : MH → Nat → Prop} (u1 : Nat) (hu : u1 ≤ u) (H : F_X1_init d v0 v1 h u1 (fun h2 => K h2 (u - u1))) : iV (d + 1) u_X1_init [jR v0, jR v1] h u K := inv.of u1 hu (Ct.of (by decide +kernel) rfl (Nat.le_of_ble_eq_true rfl) rfl (E_X1_init H))
theorem dX1_settle_0 : decode cX1_settle 0 = .ok (.aload_n 1, 1) := by decide +kernel
theorem dX1_settle_1 : decode cX1_settle 1 = .ok (.getfield 19, 3) := by decide +kernel
theorem dX1_settle_4 : decode cX1_settle 4 = .ok (.newarray .long, 2) := by decide +kernel
theorem dX1_settle_6 : decode cX1_settle 6 = .ok (.astore_n 3, 1) := by decide +kernel
theorem dX1_settle_7 : decode cX1_settle 7 = .ok (.iconst 0, 1) := by decide +kernel
theorem dX1_settle_8 : decode cX1_settle 8 = .ok (.istore 4, 2) := by decide +kernel
theorem dX1_settle_10 : decode cX1_settle 10 = .ok (.iload 4, 2) := by decide +kernel
theorem dX1_settle_12 : decode cX1_settle 12 = .ok (.aload_n 1, 1) := by decide +kernel
theorem dX1_settle_13 : decode cX1_settle 13 = .ok (.getfield 19, 3) := by decide +kernel
theorem dX1_settle_16 : decode cX1_settle 16 = .ok (.if_icmp .ge 69, 3) := by decide +kernel
theorem dX1_settle_19 : decode cX1_settle 19 = .ok (.aload_n 0, 1) := by decide +kernel
theorem dX1_settle_20 : decode cX1_settle 20 = .ok (.aload_n 1, 1) := by decide +kernel
theorem dX1_settle_21 : decode cX1_settle 21 = .ok (.iload 4, 2) := by decide +kernel
theorem dX1_settle_23 : decode cX1_settle 23 = .ok (.invokevirtual 69, 3) := by decide +kernel
theorem dX1_settle_26 : decode cX1_settle 26 = .ok (.astore 5, 2) := by decide +kernel
theorem dX1_settle_28 : decode cX1_settle 28 = .ok (.aload_n 3, 1) := by decide +kernel
theorem dX1_settle_29 : decode cX1_settle 29 = .ok (.iload 4, 2) := by decide +kernel
theorem dX1_settle_31 : decode cX1_settle 31 = .ok (.aload 5, 2) := by decide +kernel
theorem dX1_settle_33 : decode cX1_settle 33 = .ok (.iload_n 2, 1) := by decide +kernel
theorem dX1_settle_34 : decode cX1_settle 34 = .ok (.invokestatic 73, 3) := by decide +kernel
theorem dX1_settle_37 : decode cX1_settle 37 = .ok (.ifCond .eq 34, 3) := by decide +kernel
theorem dX1_settle_40 : decode cX1_settle 40 = .ok (.aload_n 0, 1) := by decide +kernel
theorem dX1_settle_41 : decode cX1_settle 41 = .ok (.getfield 9, 3) := by decide +kernel
theorem dX1_settle_44 : decode cX1_settle 44 = .ok (.aload 5, 2) := by decide +kernel
theorem dX1_settle_46 : decode cX1_settle 46 = .ok (.aload 5, 2) := by decide +kernel
theorem dX1_settle_48 : decode cX1_settle 48 = .ok (.getfield 98, 3) := by decide +kernel
theorem dX1_settle_51 : decode cX1_settle 51 = .ok (.bipush 8, 2) := by decide +kernel
theorem dX1_settle_53 : decode cX1_settle 53 = .ok (.if_icmp .ne 7, 3) := by decide +kernel
theorem dX1_settle_56 : decode cX1_settle 56 = .ok (.iconst 1, 1) := by decide +kernel
theorem dX1_settle_57 : decode cX1_settle 57 = .ok (.goto 4, 3) := by decide +kernel
theorem dX1_settle_60 : decode cX1_settle 60 = .ok (.iconst 0, 1) := by decide +kernel
theorem dX1_settle_61 : decode cX1_settle 61 = .ok (.invokevirtual 106, 3) := by decide +kernel
theorem dX1_settle_64 : decode cX1_settle 64 = .ok (.getfield 112, 3) := by decide +kernel
theorem dX1_settle_67 : decode cX1_settle 67 = .ok (.i2l, 1) := by decide +kernel
theorem dX1_settle_68 : decode cX1_settle 68 = .ok (.goto 10, 3) := by decide +kernel
theorem dX1_settle_71 : decode cX1_settle 71 = .ok (.aload_n 0, 1) := by decide +kernel
theorem dX1_settle_72 : decode cX1_settle 72 = .ok (.getfield 15, 3) := by decide +kernel
theorem dX1_settle_75 : decode cX1_settle 75 = .ok (.iload 4, 2) := by decide +kernel
theorem dX1_settle_77 : decode cX1_settle 77 = .ok (.laload, 1) := by decide +kernel
theorem dX1_settle_78 : decode cX1_settle 78 = .ok (.lastore, 1) := by decide +kernel
theorem dX1_settle_79 : decode cX1_settle 79 = .ok (.iinc 4 1, 3) := by decide +kernel
theorem dX1_settle_82 : decode cX1_settle 82 = .ok (.goto (-72), 3) := by decide +kernel
theorem dX1_settle_85 : decode cX1_settle 85 = .ok (.aload_n 3, 1) := by decide +kernel
theorem dX1_settle_86 : decode cX1_settle 86 = .ok (.areturn, 1) := by decide +kernel
def L_X1_settle_10 (d : Nat) (v0 : Option Nm) (v1 : Option Nm) (v2 : Int32) (v3 : Option Nm) (v4 : Int32) (h : MH) (u : Nat) (Q : Option Nm → MH → Prop) : Prop := T u_X1_settle (d + 2) 10 [some (jR v0), some (jR v1), some (jI v2), some (jR v3), some (jI v4), none] [] h u (qR Q)
def F_X1_settle (d : Nat) (v0 : Option Nm) (v1 : Option Nm) (v2 : Int32) (h : MH) (u : Nat) (Q : Option Nm → MH → Prop) : Prop :=
  gI h v1 2 4 fun x1 =>
  nA .long h u x1 fun x2 h u =>
  L_X1_settle_10 d v0 v1 v2 (some x2) 0 h u Q
set_option maxRecDepth 20000 in
theorem E_X1_settle {d : Nat} {v0 : Option Nm} {v1 : Option Nm} {v2 : Int32} {h : MH} {u : Nat} {Q : Option Nm → MH → Prop} (H : F_X1_settle d v0 v1 v2 h u Q) : T u_X1_settle (d + 2) 0 [some (jR v0), some (jR v1), some (jI v2), none, none, none] [] h u (qR Q) := by
  unfold F_X1_settle at H
  refine T_aload_n (pc := 0) dX1_settle_0 rfl rfl ?_
  refine T_gI (pc := 1) fa_X1_19 dX1_settle_1 (gI_mono (fun x1 H => ?_) H)
  refine T_nA (pc := 4) dX1_settle_4 rfl (by decide) c_1_66 (nA_mono (fun x2 h u H => ?_) H)
  refine T_astore_n (pc := 6) (ls2 := [some (jR v0), some (jR v1), some (jI v2), some (jR (some x2)), none, none]) dX1_settle_6 rfl (Nat.le_of_ble_eq_true rfl) rfl ?_
  refine T_iconst (pc := 7) (v := 0) dX1_settle_7 (by decide) ?_
  refine T_istore (pc := 8) (ls2 := [some (jR v0), some (jR v1), some (jI v2), some (jR (some x2)), some (jI 0), none]) dX1_settle_8 (Nat.le_of_ble_eq_true rfl) rfl ?_
  exact T.forget H ⟨rfl, rfl, rfl, rfl, rfl, trivial⟩
def F_X1_settle_61 (d : Nat) (v0 : Option Nm) (v1 : Option Nm) (v2 : Int32) (v3 : Option Nm) (v4 : Int32) (s0 : Option Nm) (s1 : Int32) (s2 : Option Nm) (s3 : Option Nm) (s4 : Int32) (h : MH) (u : Nat) (Q : Option Nm → MH → Prop) : Prop :=
  rc h s2 6 ∧ iR (d + 1) u_X7_addTwin [jR s2, jR s3, jI s4] h u fun x1 h u =>
  gI h x1 4 0 fun x2 =>
  sV .long h s0 s1 (jL (x2.toInt64)) fun h =>
  L_X1_settle_10 d v0 v1 v2 v3 (v4 + 1) h u Q
set_option maxRecDepth 20000 in
theorem E_X1_settle_61 {d : Nat} {v0 : Option Nm} {v1 : Option Nm} {v2 : Int32} {v3 : Option Nm} {v4 : Int32} {s0 : Option Nm} {s1 : Int32} {s2 : Option Nm} {s3 : Option Nm} {s4 : Int32} {h : MH} {u : Nat} {Q : Option Nm → MH → Prop} (H : F_X1_settle_61 d v0 v1 v2 v3 v4 s0 s1 s2 s3 s4 h u Q) : T u_X1_settle (d + 2) 61 [some (jR v0), some (jR v1), some (jI v2), some (jR v3), some (jI v4), none] [jI s4, jR s3, jR s2, jI s1, jR s0] h u (qR Q) := by
  unfold F_X1_settle_61 at H
  obtain ⟨H0, H⟩ := H
  refine T_iV (pc := 61) (ci := 6) (av := [jR s3, jI s4]) (rest := [jI s1, jR s0]) (o := s2) dX1_settle_61 mf_X7_addTwin c_3_215 c_2_106 c_2_107 rfl rfl (Nat.le_of_ble_eq_true rfl) rfl H0 (iR_k (iR_mono (fun x1 h u H => ?_) H))
  refine T_gI (pc := 64) fa_X1_112 dX1_settle_64 (gI_mono (fun x2 H => ?_) H)
  refine T_i2l (pc := 67) dX1_settle_67 ?_
  refine T_goto (pc := 68) (tgt := 78) dX1_settle_68 (by decide) ?_
  refine T_sL (pc := 78) dX1_settle_78 (sV_mono (fun h H => ?_) H)
  refine T_iinc (pc := 79) (v := v4 + 1) (ls2 := [some (jR v0), some (jR v1), some (jI v2), some (jR v3), some (jI (v4 + 1)), none]) dX1_settle_79 rfl rfl (Nat.le_of_ble_eq_true rfl) rfl ?_
  refine T_goto (pc := 82) (tgt := 10) dX1_settle_82 (by decide) ?_
  exact T.forget H ⟨rfl, rfl, rfl, rfl, rfl, trivial⟩
def F_X1_settle_10 (d : Nat) (v0 : Option Nm) (v1 : Option Nm) (v2 : Int32) (v3 : Option Nm) (v4 : Int32) (h : MH) (u : Nat) (Q : Option Nm → MH → Prop) : Prop :=
  gI h v1 2 4 fun x1 =>
  if x1 ≤ v4 then
    Q v3 h
  else
    rc h v0 1 ∧ F_X1_rowOf d v0 v1 v4 h 0 fun x2 h =>
    F_X1_needsTwin (d + 1) x2 v2 h 0 fun x3 h =>
    if x3 = 0 then
      gR h v0 1 1 fun x4 =>
      aL h x4 v4 fun x5 =>
      sV .long h v3 v4 (jL x5) fun h =>
      L_X1_settle_10 d v0 v1 v2 v3 (v4 + 1) h u Q
    else
      gR h v0 1 0 fun x6 =>
      gI h x2 4 1 fun x7 =>
      if x7 = 8 then
        F_X1_settle_61 d v0 v1 v2 v3 v4 v3 v4 x6 x2 1 h u Q
      else
        F_X1_settle_61 d v0 v1 v2 v3 v4 v3 v4 x6 x2 0 h u Q
set_option maxRecDepth 20000 in
theorem E_X1_settle_10 {d : Nat} {v0 : Option Nm} {v1 : Option Nm} {v2 : Int32} {v3 : Option Nm} {v4 : Int32} {h : MH} {u : Nat} {Q : Option Nm → MH → Prop} (H : F_X1_settle_10 d v0 v1 v2 v3 v4 h u Q) : T u_X1_settle (d + 2) 10 [some (jR v0), some (jR v1), some (jI v2), some (jR v3), some (jI v4), none] [] h u (qR Q) := by
  unfold F_X1_settle_10 at H
  refine T_iload (pc := 10) dX1_settle_10 rfl ?_
  refine T_aload_n (pc := 12) dX1_settle_12 rfl rfl ?_
  refine T_gI (pc := 13) fa_X1_19 dX1_settle_13 (gI_mono (fun x1 H => ?_) H)
  refine T_icmp_ge (pc := 16) (tgt := 85) dX1_settle_16 (by decide) (fun hc => ?_) (fun hc => ?_)
  · rw [if_pos hc] at H
    refine T_aload_n (pc := 85) dX1_settle_85 rfl rfl ?_
    exact T_areturn (pc := 86) rfl (Or.inr ⟨_, rfl⟩) dX1_settle_86 H
  · rw [if_neg hc] at H
    refine T_aload_n (pc := 19) dX1_settle_19 rfl rfl ?_
    refine T_aload_n (pc := 20) dX1_settle_20 rfl rfl ?_
    refine T_iload (pc := 21) dX1_settle_21 rfl ?_
    obtain ⟨H0, H⟩ := H
    refine T_iV (pc := 23) (ci := 1) (av := [jR v1, jI v4]) (rest := []) (o := v0) dX1_settle_23 mf_X1_rowOf c_3_169 c_3_171 pr_X1_rowOf rfl rfl (Nat.le_of_ble_eq_true rfl) rfl H0 (iR_k (iR_m0 (fun x2 h H => ?_) (J_X1_rowOf (d := d) H)))
    refine T_astore (pc := 26) (ls2 := [some (jR v0), some (jR v1), some (jI v2), some (jR v3), some (jI v4), some (jR x2)]) dX1_settle_26 (Nat.le_of_ble_eq_true rfl) rfl ?_
    refine T_aload_n (pc := 28) dX1_settle_28 rfl rfl ?_
    refine T_iload (pc := 29) dX1_settle_29 rfl ?_
    refine T_aload (pc := 31) dX1_settle_31 rfl ?_
    refine T_iload_n (pc := 33) dX1_settle_33 rfl rfl ?_
    refine T_invS (pc := 34) (av := [jR x2, jI v2]) (rest := [jI v4, jR v3]) dX1_settle_34 mf_X1_needsTwin c_3_174 c_3_175 rfl (Nat.le_of_ble_eq_true rfl) rfl (iI_k (iI_m0 (fun x3 h H => ?_) (J_X1_needsTwin (d := (d + 1)) H)))
    refine T_if_eq (pc := 37) (tgt := 71) dX1_settle_37 (by decide) (fun hc => ?_) (fun hc => ?_)
    · rw [if_pos hc] at H
      refine T_aload_n (pc := 71) dX1_settle_71 rfl rfl ?_
      refine T_gR (pc := 72) fa_X1_15 dX1_settle_72 (gR_mono (fun x4 H => ?_) H)
      refine T_iload (pc := 75) dX1_settle_75 rfl ?_
      refine T_aL (pc := 77) dX1_settle_77 (aL_mono (fun x5 H => ?_) H)
      refine T_sL (pc := 78) dX1_settle_78 (sV_mono (fun h H => ?_) H)
      refine T_iinc (pc := 79) (v := v4 + 1) (ls2 := [some (jR v0), some (jR v1), some (jI v2), some (jR v3), some (jI (v4 + 1)), some (jR x2)]) dX1_settle_79 rfl rfl (Nat.le_of_ble_eq_true rfl) rfl ?_
      refine T_goto (pc := 82) (tgt := 10) dX1_settle_82 (by decide) ?_
      exact T.forget H ⟨rfl, rfl, rfl, rfl, rfl, trivial⟩
    · rw [if_neg hc] at H
      refine T_aload_n (pc := 40) dX1_settle_40 rfl rfl ?_
      refine T_gR (pc := 41) fa_X1_9 dX1_settle_41 (gR_mono (fun x6 H => ?_) H)
      refine T_aload (pc := 44) dX1_settle_44 rfl ?_
      refine T_aload (pc := 46) dX1_settle_46 rfl ?_
      refine T_gI (pc := 48) fa_X1_98 dX1_settle_48 (gI_mono (fun x7 H => ?_) H)
      refine T_bipush (pc := 51) (v := 8) dX1_settle_51 (by decide) ?_
      refine T_icmp_ne (pc := 53) (tgt := 60) dX1_settle_53 (by decide) (fun hc => ?_) (fun hc => ?_)
      · rw [if_neg hc] at H
        refine T_iconst (pc := 60) (v := 0) dX1_settle_60 (by decide) ?_
        exact T.forget (E_X1_settle_61 H) ⟨rfl, rfl, rfl, rfl, rfl, trivial⟩
      · rw [if_pos hc] at H
        refine T_iconst (pc := 56) (v := 1) dX1_settle_56 (by decide) ?_
        refine T_goto (pc := 57) (tgt := 61) dX1_settle_57 (by decide) ?_
        exact T.forget (E_X1_settle_61 H) ⟨rfl, rfl, rfl, rfl, rfl, trivial⟩
theorem I_X1_settle {d : Nat} {v0 : Option Nm} {v1 : Option Nm} {v2 : Int32} {h : MH} {u : Nat} {K : Option Nm → MH → Nat → Prop} (u1 : Nat) (hu : u1 ≤ u) (H : F_X1_settle d v0 v1 v2 h u1 (fun x h2 => K x h2 (u - u1))) : iR (d + 2) u_X1_settle [jR v0, jR v1, jI v2] h u K := inv.of u1 hu (Ct.of (by decide +kernel) rfl (Nat.le_of_ble_eq_true rfl) rfl (E_X1_settle H))
theorem dX2_init_0 : decode cX2_init 0 = .ok (.aload_n 0, 1) := by decide +kernel
theorem dX2_init_1 : decode cX2_init 1 = .ok (.invokespecial 3, 3) := by decide +kernel
theorem dX2_init_4 : decode cX2_init 4 = .ok (.aload_n 0, 1) := by decide +kernel
theorem dX2_init_5 : decode cX2_init 5 = .ok (.iload_n 1, 1) := by decide +kernel
theorem dX2_init_6 : decode cX2_init 6 = .ok (.putfield 9, 3) := by decide +kernel
theorem dX2_init_9 : decode cX2_init 9 = .ok (.aload_n 0, 1) := by decide +kernel
theorem dX2_init_10 : decode cX2_init 10 = .ok (.iload_n 2, 1) := by decide +kernel
theorem dX2_init_11 : decode cX2_init 11 = .ok (.newarray .int, 2) := by decide +kernel
theorem dX2_init_13 : decode cX2_init 13 = .ok (.putfield 15, 3) := by decide +kernel
theorem dX2_init_16 : decode cX2_init 16 = .ok (.aload_n 0, 1) := by decide +kernel
theorem dX2_init_17 : decode cX2_init 17 = .ok (.iload_n 2, 1) := by decide +kernel
theorem dX2_init_18 : decode cX2_init 18 = .ok (.newarray .int, 2) := by decide +kernel
theorem dX2_init_20 : decode cX2_init 20 = .ok (.putfield 19, 3) := by decide +kernel
theorem dX2_init_23 : decode cX2_init 23 = .ok (.aload_n 0, 1) := by decide +kernel
theorem dX2_init_24 : decode cX2_init 24 = .ok (.iload_n 2, 1) := by decide +kernel
theorem dX2_init_25 : decode cX2_init 25 = .ok (.newarray .int, 2) := by decide +kernel
theorem dX2_init_27 : decode cX2_init 27 = .ok (.putfield 22, 3) := by decide +kernel
theorem dX2_init_30 : decode cX2_init 30 = .ok (.return_, 1) := by decide +kernel
def F_X2_init (d : Nat) (v0 : Option Nm) (v1 : Int32) (v2 : Int32) (h : MH) (u : Nat) (Q : MH → Prop) : Prop :=
  nn v0 <|
  pV h v0 2 0 (jI v1) fun h =>
  nA .int h u v2 fun x1 h u =>
  pV h v0 2 1 (jR (some x1)) fun h =>
  nA .int h u v2 fun x2 h u =>
  pV h v0 2 2 (jR (some x2)) fun h =>
  nA .int h u v2 fun x3 h u =>
  pV h v0 2 3 (jR (some x3)) fun h =>
  Q h
set_option maxRecDepth 20000 in
theorem E_X2_init {d : Nat} {v0 : Option Nm} {v1 : Int32} {v2 : Int32} {h : MH} {u : Nat} {Q : MH → Prop} (H : F_X2_init d v0 v1 v2 h u Q) : T u_X2_init (d + 1) 0 [some (jR v0), some (jI v1), some (jI v2)] [] h u (qV Q) := by
  unfold F_X2_init at H
  refine T_aload_n (pc := 0) dX2_init_0 rfl rfl ?_
  obtain ⟨n0, H0, H⟩ := nn_out H
  refine T_objInit (pc := 1) dX2_init_1 c_2_130 c_1_25 c_1_26 H0 (Nat.le_of_ble_eq_true rfl) ?_
  refine T_aload_n (pc := 4) dX2_init_4 rfl rfl ?_
  refine T_iload_n (pc := 5) dX2_init_5 rfl rfl ?_
  refine T_pVF (pc := 6) fa_X2_9 rfl rfl dX2_init_6 trivial (pV_mono (fun h H => ?_) H)
  refine T_aload_n (pc := 9) dX2_init_9 rfl rfl ?_
  refine T_iload_n (pc := 10) dX2_init_10 rfl rfl ?_
  refine T_nA (pc := 11) dX2_init_11 rfl (by decide) c_1_65 (nA_mono (fun x1 h u H => ?_) H)
  refine T_pVF (pc := 13) fa_X2_15 rfl rfl dX2_init_13 trivial (pV_mono (fun h H => ?_) H)
  refine T_aload_n (pc := 16) dX2_init_16 rfl rfl ?_
  refine T_iload_n (pc := 17) dX2_init_17 rfl rfl ?_
  refine T_nA (pc := 18) dX2_init_18 rfl (by decide) c_1_65 (nA_mono (fun x2 h u H => ?_) H)
  refine T_pVF (pc := 20) fa_X2_19 rfl rfl dX2_init_20 trivial (pV_mono (fun h H => ?_) H)
  refine T_aload_n (pc := 23) dX2_init_23 rfl rfl ?_
  refine T_iload_n (pc := 24) dX2_init_24 rfl rfl ?_
  refine T_nA (pc := 25) dX2_init_25 rfl (by decide) c_1_65 (nA_mono (fun x3 h u H => ?_) H)
  refine T_pVF (pc := 27) fa_X2_22 rfl rfl dX2_init_27 trivial (pV_mono (fun h H => ?_) H)
  exact T_return (pc := 30) rfl dX2_init_30 H
theorem I_X2_init {d : Nat} {v0 : Option Nm} {v1 : Int32} {v2 : Int32} {h : MH} {u : Nat} {K : MH → Nat → Prop} (u1 : Nat) (hu : u1 ≤ u) (H : F_X2_init d v0 v1 v2 h u1 (fun h2 => K h2 (u - u1))) : iV (d + 1) u_X2_init [jR v0, jI v1, jI v2] h u K := inv.of u1 hu (Ct.of (by decide +kernel) rfl (Nat.le_of_ble_eq_true rfl) rfl (E_X2_init H))
theorem dX2_init__0 : decode cX2_init_ 0 = .ok (.aload_n 0, 1) := by decide +kernel
theorem dX2_init__1 : decode cX2_init_ 1 = .ok (.invokespecial 3, 3) := by decide +kernel
theorem dX2_init__4 : decode cX2_init_ 4 = .ok (.aload_n 0, 1) := by decide +kernel
theorem dX2_init__5 : decode cX2_init_ 5 = .ok (.iload_n 1, 1) := by decide +kernel
theorem dX2_init__6 : decode cX2_init_ 6 = .ok (.putfield 9, 3) := by decide +kernel
theorem dX2_init__9 : decode cX2_init_ 9 = .ok (.aload_n 0, 1) := by decide +kernel
theorem dX2_init__10 : decode cX2_init_ 10 = .ok (.aload_n 2, 1) := by decide +kernel
theorem dX2_init__11 : decode cX2_init_ 11 = .ok (.getfield 15, 3) := by decide +kernel
theorem dX2_init__14 : decode cX2_init_ 14 = .ok (.invokevirtual 25, 3) := by decide +kernel
theorem dX2_init__17 : decode cX2_init_ 17 = .ok (.checkcast 26, 3) := by decide +kernel
theorem dX2_init__20 : decode cX2_init_ 20 = .ok (.putfield 15, 3) := by decide +kernel
theorem dX2_init__23 : decode cX2_init_ 23 = .ok (.aload_n 0, 1) := by decide +kernel
theorem dX2_init__24 : decode cX2_init_ 24 = .ok (.aload_n 2, 1) := by decide +kernel
theorem dX2_init__25 : decode cX2_init_ 25 = .ok (.getfield 19, 3) := by decide +kernel
theorem dX2_init__28 : decode cX2_init_ 28 = .ok (.invokevirtual 25, 3) := by decide +kernel
theorem dX2_init__31 : decode cX2_init_ 31 = .ok (.checkcast 26, 3) := by decide +kernel
theorem dX2_init__34 : decode cX2_init_ 34 = .ok (.putfield 19, 3) := by decide +kernel
theorem dX2_init__37 : decode cX2_init_ 37 = .ok (.aload_n 0, 1) := by decide +kernel
theorem dX2_init__38 : decode cX2_init_ 38 = .ok (.aload_n 2, 1) := by decide +kernel
theorem dX2_init__39 : decode cX2_init_ 39 = .ok (.getfield 22, 3) := by decide +kernel
theorem dX2_init__42 : decode cX2_init_ 42 = .ok (.invokevirtual 25, 3) := by decide +kernel
theorem dX2_init__45 : decode cX2_init_ 45 = .ok (.checkcast 26, 3) := by decide +kernel
theorem dX2_init__48 : decode cX2_init_ 48 = .ok (.putfield 22, 3) := by decide +kernel
theorem dX2_init__51 : decode cX2_init_ 51 = .ok (.aload_n 0, 1) := by decide +kernel
theorem dX2_init__52 : decode cX2_init_ 52 = .ok (.aload_n 2, 1) := by decide +kernel
theorem dX2_init__53 : decode cX2_init_ 53 = .ok (.getfield 30, 3) := by decide +kernel
theorem dX2_init__56 : decode cX2_init_ 56 = .ok (.putfield 30, 3) := by decide +kernel
theorem dX2_init__59 : decode cX2_init_ 59 = .ok (.return_, 1) := by decide +kernel
def F_X2_init_ (d : Nat) (v0 : Option Nm) (v1 : Int32) (v2 : Option Nm) (h : MH) (u : Nat) (Q : MH → Prop) : Prop :=
  nn v0 <|
  pV h v0 2 0 (jI v1) fun h =>
  gR h v2 2 1 fun x1 =>
  cI h u x1 fun x2 h u =>
  pV h v0 2 1 (jR (some x2)) fun h =>
  gR h v2 2 2 fun x3 =>
  cI h u x3 fun x4 h u =>
  pV h v0 2 2 (jR (some x4)) fun h =>
  gR h v2 2 3 fun x5 =>
  cI h u x5 fun x6 h u =>
  pV h v0 2 3 (jR (some x6)) fun h =>
  gI h v2 2 4 fun x7 =>
  pV h v0 2 4 (jI x7) fun h =>
  Q h
set_option maxRecDepth 20000 in
theorem E_X2_init_ {d : Nat} {v0 : Option Nm} {v1 : Int32} {v2 : Option Nm} {h : MH} {u : Nat} {Q : MH → Prop} (H : F_X2_init_ d v0 v1 v2 h u Q) : T u_X2_init_ (d + 1) 0 [some (jR v0), some (jI v1), some (jR v2)] [] h u (qV Q) := by
  unfold F_X2_init_ at H
  refine T_aload_n (pc := 0) dX2_init__0 rfl rfl ?_
  obtain ⟨n0, H0, H⟩ := nn_out H
  refine T_objInit (pc := 1) dX2_init__1 c_2_130 c_1_25 c_1_26 H0 (Nat.le_of_ble_eq_true rfl) ?_
  refine T_aload_n (pc := 4) dX2_init__4 rfl rfl ?_
  refine T_iload_n (pc := 5) dX2_init__5 rfl rfl ?_
  refine T_pVF (pc := 6) fa_X2_9 rfl rfl dX2_init__6 trivial (pV_mono (fun h H => ?_) H)
  refine T_aload_n (pc := 9) dX2_init__9 rfl rfl ?_
  refine T_aload_n (pc := 10) dX2_init__10 rfl rfl ?_
  refine T_gR (pc := 11) fa_X2_15 dX2_init__11 (gR_mono (fun x1 H => ?_) H)
  refine T_cI (pc := 14) dX2_init__14 c_3_18 c_3_19 c_3_20 c_3_21 c_3_22 (by decide) ⟨26, dX2_init__17, c_3_24⟩ (Nat.le_of_ble_eq_true rfl) (cI_mono (fun x2 h u H => ?_) H)
  refine T_pVF (pc := 20) fa_X2_15 rfl rfl dX2_init__20 trivial (pV_mono (fun h H => ?_) H)
  refine T_aload_n (pc := 23) dX2_init__23 rfl rfl ?_
  refine T_aload_n (pc := 24) dX2_init__24 rfl rfl ?_
  refine T_gR (pc := 25) fa_X2_19 dX2_init__25 (gR_mono (fun x3 H => ?_) H)
  refine T_cI (pc := 28) dX2_init__28 c_3_18 c_3_19 c_3_20 c_3_21 c_3_22 (by decide) ⟨26, dX2_init__31, c_3_24⟩ (Nat.le_of_ble_eq_true rfl) (cI_mono (fun x4 h u H => ?_) H)
  refine T_pVF (pc := 34) fa_X2_19 rfl rfl dX2_init__34 trivial (pV_mono (fun h H => ?_) H)
  refine T_aload_n (pc := 37) dX2_init__37 rfl rfl ?_
  refine T_aload_n (pc := 38) dX2_init__38 rfl rfl ?_
  refine T_gR (pc := 39) fa_X2_22 dX2_init__39 (gR_mono (fun x5 H => ?_) H)
  refine T_cI (pc := 42) dX2_init__42 c_3_18 c_3_19 c_3_20 c_3_21 c_3_22 (by decide) ⟨26, dX2_init__45, c_3_24⟩ (Nat.le_of_ble_eq_true rfl) (cI_mono (fun x6 h u H => ?_) H)
  refine T_pVF (pc := 48) fa_X2_22 rfl rfl dX2_init__48 trivial (pV_mono (fun h H => ?_) H)
  refine T_aload_n (pc := 51) dX2_init__51 rfl rfl ?_
  refine T_aload_n (pc := 52) dX2_init__52 rfl rfl ?_
  refine T_gI (pc := 53) fa_X2_30 dX2_init__53 (gI_mono (fun x7 H => ?_) H)
  refine T_pV (pc := 56) fa_X2_30 dX2_init__56 trivial (pV_mono (fun h H => ?_) H)
  exact T_return (pc := 59) rfl dX2_init__59 H
theorem I_X2_init_ {d : Nat} {v0 : Option Nm} {v1 : Int32} {v2 : Option Nm} {h : MH} {u : Nat} {K : MH → Nat → Prop} (u1 : Nat) (hu : u1 ≤ u) (H : F_X2_init_ d v0 v1 v2 h u1 (fun h2 => K h2 (u - u1))) : iV (d + 1) u_X2_init_ [jR v0, jI v1, jR v2] h u K := inv.of u1 hu (Ct.of (by decide +kernel) rfl (Nat.le_of_ble_eq_true rfl) rfl (E_X2_init_ H))
theorem dX3_addEdition_0 : decode cX3_addEdition 0 = .ok (.aload_n 0, 1) := by decide +kernel
theorem dX3_addEdition_1 : decode cX3_addEdition 1 = .ok (.invokevirtual 40, 3) := by decide +kernel
theorem dX3_addEdition_4 : decode cX3_addEdition 4 = .ok (.ifCond .eq 37, 3) := by decide +kernel
theorem dX3_addEdition_7 : decode cX3_addEdition 7 = .ok (.aload_n 0, 1) := by decide +kernel
theorem dX3_addEdition_8 : decode cX3_addEdition 8 = .ok (.getfield 24, 3) := by decide +kernel
theorem dX3_addEdition_11 : decode cX3_addEdition 11 = .ok (.aload_n 0, 1) := by decide +kernel
theorem dX3_addEdition_12 : decode cX3_addEdition 12 = .ok (.getfield 31, 3) := by decide +kernel
theorem dX3_addEdition_15 : decode cX3_addEdition 15 = .ok (.new 22, 3) := by decide +kernel
theorem dX3_addEdition_18 : decode cX3_addEdition 18 = .ok (.dup, 1) := by decide +kernel
theorem dX3_addEdition_19 : decode cX3_addEdition 19 = .ok (.aload_n 0, 1) := by decide +kernel
theorem dX3_addEdition_20 : decode cX3_addEdition 20 = .ok (.getfield 31, 3) := by decide +kernel
theorem dX3_addEdition_23 : decode cX3_addEdition 23 = .ok (.aload_n 0, 1) := by decide +kernel
theorem dX3_addEdition_24 : decode cX3_addEdition 24 = .ok (.invokevirtual 44, 3) := by decide +kernel
theorem dX3_addEdition_27 : decode cX3_addEdition 27 = .ok (.invokespecial 48, 3) := by decide +kernel
theorem dX3_addEdition_30 : decode cX3_addEdition 30 = .ok (.aastore, 1) := by decide +kernel
theorem dX3_addEdition_31 : decode cX3_addEdition 31 = .ok (.aload_n 0, 1) := by decide +kernel
theorem dX3_addEdition_32 : decode cX3_addEdition 32 = .ok (.dup, 1) := by decide +kernel
theorem dX3_addEdition_33 : decode cX3_addEdition 33 = .ok (.getfield 31, 3) := by decide +kernel
theorem dX3_addEdition_36 : decode cX3_addEdition 36 = .ok (.iconst 1, 1) := by decide +kernel
theorem dX3_addEdition_37 : decode cX3_addEdition 37 = .ok (.iadd, 1) := by decide +kernel
theorem dX3_addEdition_38 : decode cX3_addEdition 38 = .ok (.putfield 31, 3) := by decide +kernel
theorem dX3_addEdition_41 : decode cX3_addEdition 41 = .ok (.aload_n 0, 1) := by decide +kernel
theorem dX3_addEdition_42 : decode cX3_addEdition 42 = .ok (.invokevirtual 44, 3) := by decide +kernel
theorem dX3_addEdition_45 : decode cX3_addEdition 45 = .ok (.areturn, 1) := by decide +kernel
def F_X3_addEdition (d : Nat) (v0 : Option Nm) (h : MH) (u : Nat) (Q : Option Nm → MH → Prop) : Prop :=
  rc h v0 3 ∧ F_X3_hasRoomForEdition d v0 h 0 fun x1 h =>
  if x1 = 0 then
    rc h v0 3 ∧ F_X3_newest d v0 h 0 fun x2 h =>
    Q x2 h
  else
    gR h v0 3 3 fun x3 =>
    gI h v0 3 4 fun x4 =>
    nO h u 2 [jI 0, jR none, jR none, jR none, jI 0] fun x5 h u =>
    gI h v0 3 4 fun x6 =>
    rc h v0 3 ∧ F_X3_newest d v0 h 0 fun x7 h =>
    iV d u_X2_init_ [jR (some x5), jI x6, jR x7] h u fun h u =>
    rc h (some x5) 2 ∧ sV (.object "RecordBridge$Edition") h x3 x4 (jR (some x5)) fun h =>
    gI h v0 3 4 fun x9 =>
    pV h v0 3 4 (jI (x9 + 1)) fun h =>
    rc h v0 3 ∧ F_X3_newest d v0 h 0 fun x10 h =>
    Q x10 h
set_option maxRecDepth 20000 in
theorem E_X3_addEdition {d : Nat} {v0 : Option Nm} {h : MH} {u : Nat} {Q : Option Nm → MH → Prop} (H : F_X3_addEdition d v0 h u Q) : T u_X3_addEdition (d + 1) 0 [some (jR v0)] [] h u (qR Q) := by
  unfold F_X3_addEdition at H
  refine T_aload_n (pc := 0) dX3_addEdition_0 rfl rfl ?_
  obtain ⟨H0, H⟩ := H
  refine T_iV (pc := 1) (ci := 3) (av := []) (rest := []) (o := v0) dX3_addEdition_1 mf_X3_hasRoomForEdition c_3_13 c_3_2 c_3_3 rfl rfl (Nat.le_of_ble_eq_true rfl) rfl H0 (iI_k (iI_m0 (fun x1 h H => ?_) (J_X3_hasRoomForEdition (d := d) H)))
  refine T_if_eq (pc := 4) (tgt := 41) dX3_addEdition_4 (by decide) (fun hc => ?_) (fun hc => ?_)
  · rw [if_pos hc] at H
    refine T_aload_n (pc := 41) dX3_addEdition_41 rfl rfl ?_
    obtain ⟨H0, H⟩ := H
    refine T_iV (pc := 42) (ci := 3) (av := []) (rest := []) (o := v0) dX3_addEdition_42 mf_X3_newest c_3_14 c_2_214 c_2_215 rfl rfl (Nat.le_of_ble_eq_true rfl) rfl H0 (iR_k (iR_m0 (fun x2 h H => ?_) (J_X3_newest (d := d) H)))
    exact T_areturn (pc := 45) rfl (Or.inl ⟨_, rfl⟩) dX3_addEdition_45 H
  · rw [if_neg hc] at H
    refine T_aload_n (pc := 7) dX3_addEdition_7 rfl rfl ?_
    refine T_gR (pc := 8) fa_X3_24 dX3_addEdition_8 (gR_mono (fun x3 H => ?_) H)
    refine T_aload_n (pc := 11) dX3_addEdition_11 rfl rfl ?_
    refine T_gI (pc := 12) fa_X3_31 dX3_addEdition_12 (gI_mono (fun x4 H => ?_) H)
    refine T_nO (pc := 15) nf_X3_22 dX3_addEdition_15 (nO_mono (fun x5 h u H => ?_) H)
    refine T_dup (pc := 18) rfl dX3_addEdition_18 ?_
    refine T_aload_n (pc := 19) dX3_addEdition_19 rfl rfl ?_
    refine T_gI (pc := 20) fa_X3_31 dX3_addEdition_20 (gI_mono (fun x6 H => ?_) H)
    refine T_aload_n (pc := 23) dX3_addEdition_23 rfl rfl ?_
    obtain ⟨H0, H⟩ := H
    refine T_iV (pc := 24) (ci := 3) (av := []) (rest := [jI x6, jR (some x5), jR (some x5), jI x4, jR x3]) (o := v0) dX3_addEdition_24 mf_X3_newest c_3_14 c_2_214 c_2_215 rfl rfl (Nat.le_of_ble_eq_true rfl) rfl H0 (iR_k (iR_m0 (fun x7 h H => ?_) (J_X3_newest (d := d) H)))
    refine T_invI (pc := 27) (av := [jI x6, jR x7]) (rest := [jR (some x5), jI x4, jR x3]) dX3_addEdition_27 mf_X2_init_ rfl rfl c_3_15 c_3_16 rfl (Nat.le_of_ble_eq_true rfl) rfl (iV_k (iV_mono (fun h u H => ?_) H))
    refine T_sR (pc := 30) (ci := 2) dX3_addEdition_30 rfl ⟨H.1, sV_mono (fun h H => ?_) H.2⟩
    refine T_aload_n (pc := 31) dX3_addEdition_31 rfl rfl ?_
    refine T_dup (pc := 32) rfl dX3_addEdition_32 ?_
    refine T_gI (pc := 33) fa_X3_31 dX3_addEdition_33 (gI_mono (fun x9 H => ?_) H)
    refine T_iconst (pc := 36) (v := 1) dX3_addEdition_36 (by decide) ?_
    refine T_iadd (pc := 37) dX3_addEdition_37 ?_
    refine T_pV (pc := 38) fa_X3_31 dX3_addEdition_38 trivial (pV_mono (fun h H => ?_) H)
    refine T_aload_n (pc := 41) dX3_addEdition_41 rfl rfl ?_
    obtain ⟨H0, H⟩ := H
    refine T_iV (pc := 42) (ci := 3) (av := []) (rest := []) (o := v0) dX3_addEdition_42 mf_X3_newest c_3_14 c_2_214 c_2_215 rfl rfl (Nat.le_of_ble_eq_true rfl) rfl H0 (iR_k (iR_m0 (fun x10 h H => ?_) (J_X3_newest (d := d) H)))
    exact T_areturn (pc := 45) rfl (Or.inl ⟨_, rfl⟩) dX3_addEdition_45 H
theorem I_X3_addEdition {d : Nat} {v0 : Option Nm} {h : MH} {u : Nat} {K : Option Nm → MH → Nat → Prop} (u1 : Nat) (hu : u1 ≤ u) (H : F_X3_addEdition d v0 h u1 (fun x h2 => K x h2 (u - u1))) : iR (d + 1) u_X3_addEdition [jR v0] h u K := inv.of u1 hu (Ct.of (by decide +kernel) rfl (Nat.le_of_ble_eq_true rfl) rfl (E_X3_addEdition H))
theorem dX3_init_0 : decode cX3_init 0 = .ok (.aload_n 0, 1) := by decide +kernel
theorem dX3_init_1 : decode cX3_init 1 = .ok (.invokespecial 3, 3) := by decide +kernel
theorem dX3_init_4 : decode cX3_init 4 = .ok (.aload_n 0, 1) := by decide +kernel
theorem dX3_init_5 : decode cX3_init 5 = .ok (.iload_n 1, 1) := by decide +kernel
theorem dX3_init_6 : decode cX3_init 6 = .ok (.putfield 9, 3) := by decide +kernel
theorem dX3_init_9 : decode cX3_init 9 = .ok (.aload_n 0, 1) := by decide +kernel
theorem dX3_init_10 : decode cX3_init 10 = .ok (.iload_n 2, 1) := by decide +kernel
theorem dX3_init_11 : decode cX3_init 11 = .ok (.putfield 15, 3) := by decide +kernel
theorem dX3_init_14 : decode cX3_init 14 = .ok (.aload_n 0, 1) := by decide +kernel
theorem dX3_init_15 : decode cX3_init 15 = .ok (.iload_n 3, 1) := by decide +kernel
theorem dX3_init_16 : decode cX3_init 16 = .ok (.putfield 19, 3) := by decide +kernel
theorem dX3_init_19 : decode cX3_init 19 = .ok (.aload_n 0, 1) := by decide +kernel
theorem dX3_init_20 : decode cX3_init 20 = .ok (.iconst 4, 1) := by decide +kernel
theorem dX3_init_21 : decode cX3_init 21 = .ok (.anewarray 22, 3) := by decide +kernel
theorem dX3_init_24 : decode cX3_init 24 = .ok (.putfield 24, 3) := by decide +kernel
theorem dX3_init_27 : decode cX3_init 27 = .ok (.aload_n 0, 1) := by decide +kernel
theorem dX3_init_28 : decode cX3_init 28 = .ok (.getfield 24, 3) := by decide +kernel
theorem dX3_init_31 : decode cX3_init 31 = .ok (.iconst 0, 1) := by decide +kernel
theorem dX3_init_32 : decode cX3_init 32 = .ok (.new 22, 3) := by decide +kernel
theorem dX3_init_35 : decode cX3_init 35 = .ok (.dup, 1) := by decide +kernel
theorem dX3_init_36 : decode cX3_init 36 = .ok (.iconst 0, 1) := by decide +kernel
theorem dX3_init_37 : decode cX3_init 37 = .ok (.iload_n 2, 1) := by decide +kernel
theorem dX3_init_38 : decode cX3_init 38 = .ok (.ifCond .eq 8, 3) := by decide +kernel
theorem dX3_init_41 : decode cX3_init 41 = .ok (.bipush 8, 2) := by decide +kernel
theorem dX3_init_43 : decode cX3_init 43 = .ok (.goto 5, 3) := by decide +kernel
theorem dX3_init_46 : decode cX3_init 46 = .ok (.bipush 6, 2) := by decide +kernel
theorem dX3_init_48 : decode cX3_init 48 = .ok (.invokespecial 28, 3) := by decide +kernel
theorem dX3_init_51 : decode cX3_init 51 = .ok (.aastore, 1) := by decide +kernel
theorem dX3_init_52 : decode cX3_init 52 = .ok (.aload_n 0, 1) := by decide +kernel
theorem dX3_init_53 : decode cX3_init 53 = .ok (.iconst 1, 1) := by decide +kernel
theorem dX3_init_54 : decode cX3_init 54 = .ok (.putfield 31, 3) := by decide +kernel
theorem dX3_init_57 : decode cX3_init 57 = .ok (.return_, 1) := by decide +kernel
def F_X3_init_48 (d : Nat) (v0 : Option Nm) (s0 : Option Nm) (s1 : Int32) (s2 : Option Nm) (s3 : Option Nm) (s4 : Int32) (s5 : Int32) (h : MH) (u : Nat) (Q : MH → Prop) : Prop :=
  nn s3 <| iV d u_X2_init [jR s3, jI s4, jI s5] h u fun h u =>
  rc h s2 2 ∧ sV (.object "RecordBridge$Edition") h s0 s1 (jR s2) fun h =>
  pV h v0 3 4 (jI 1) fun h =>
  Q h
set_option maxRecDepth 20000 in
theorem E_X3_init_48 {d : Nat} {v0 : Option Nm} {s0 : Option Nm} {s1 : Int32} {s2 : Option Nm} {s3 : Option Nm} {s4 : Int32} {s5 : Int32} {h : MH} {u : Nat} {Q : MH → Prop} (H : F_X3_init_48 d v0 s0 s1 s2 s3 s4 s5 h u Q) : T u_X3_init (d + 1) 48 [some (jR v0), none, none, none] [jI s5, jI s4, jR s3, jR s2, jI s1, jR s0] h u (qV Q) := by
  unfold F_X3_init_48 at H
  obtain ⟨n0, H0, H⟩ := nn_out H
  refine T_invIo (pc := 48) (av := [jI s4, jI s5]) (rest := [jR s2, jI s1, jR s0]) H0 dX3_init_48 mf_X2_init rfl rfl c_2_127 c_2_128 rfl (Nat.le_of_ble_eq_true rfl) rfl (iV_k (iV_mono (fun h u H => ?_) H))
  refine T_sR (pc := 51) (ci := 2) dX3_init_51 rfl ⟨H.1, sV_mono (fun h H => ?_) H.2⟩
  refine T_aload_n (pc := 52) dX3_init_52 rfl rfl ?_
  refine T_iconst (pc := 53) (v := 1) dX3_init_53 (by decide) ?_
  refine T_pV (pc := 54) fa_X3_31 dX3_init_54 trivial (pV_mono (fun h H => ?_) H)
  exact T_return (pc := 57) rfl dX3_init_57 H
def F_X3_init (d : Nat) (v0 : Option Nm) (v1 : Int32) (v2 : Int32) (v3 : Int32) (h : MH) (u : Nat) (Q : MH → Prop) : Prop :=
  nn v0 <|
  pV h v0 3 0 (jI v1) fun h =>
  nz v2 ∧
  pV h v0 3 1 (jI v2) fun h =>
  pV h v0 3 2 (jI v3) fun h =>
  nA (.object "RecordBridge$Edition") h u 4 fun x1 h u =>
  pV h v0 3 3 (jR (some x1)) fun h =>
  gR h v0 3 3 fun x2 =>
  nO h u 2 [jI 0, jR none, jR none, jR none, jI 0] fun x3 h u =>
  if v2 = 0 then
    F_X3_init_48 d v0 x2 0 (some x3) (some x3) 0 6 h u Q
  else
    F_X3_init_48 d v0 x2 0 (some x3) (some x3) 0 8 h u Q
set_option maxRecDepth 20000 in
theorem E_X3_init {d : Nat} {v0 : Option Nm} {v1 : Int32} {v2 : Int32} {v3 : Int32} {h : MH} {u : Nat} {Q : MH → Prop} (H : F_X3_init d v0 v1 v2 v3 h u Q) : T u_X3_init (d + 1) 0 [some (jR v0), some (jI v1), some (jI v2), some (jI v3)] [] h u (qV Q) := by
  unfold F_X3_init at H
  refine T_aload_n (pc := 0) dX3_init_0 rfl rfl ?_
  obtain ⟨n0, H0, H⟩ := nn_out H
  refine T_objInit (pc := 1) dX3_init_1 c_2_123 c_1_25 c_1_26 H0 (Nat.le_of_ble_eq_true rfl) ?_
  refine T_aload_n (pc := 4) dX3_init_4 rfl rfl ?_
  refine T_iload_n (pc := 5) dX3_init_5 rfl rfl ?_
  refine T_pVF (pc := 6) fa_X3_9 rfl rfl dX3_init_6 trivial (pV_mono (fun h H => ?_) H)
  refine T_aload_n (pc := 9) dX3_init_9 rfl rfl ?_
  refine T_iload_n (pc := 10) dX3_init_10 rfl rfl ?_
  obtain ⟨H0, H⟩ := H
  refine T_pVF (pc := 11) fa_X3_15 rfl rfl dX3_init_11 H0 (pV_mono (fun h H => ?_) H)
  refine T_aload_n (pc := 14) dX3_init_14 rfl rfl ?_
  refine T_iload_n (pc := 15) dX3_init_15 rfl rfl ?_
  refine T_pVF (pc := 16) fa_X3_19 rfl rfl dX3_init_16 trivial (pV_mono (fun h H => ?_) H)
  refine T_aload_n (pc := 19) dX3_init_19 rfl rfl ?_
  refine T_iconst (pc := 20) (v := 4) dX3_init_20 (by decide) ?_
  refine T_nAR (pc := 21) dX3_init_21 (by decide) c_2_124 (by decide) (nA_mono (fun x1 h u H => ?_) H)
  refine T_pVF (pc := 24) fa_X3_24 rfl rfl dX3_init_24 trivial (pV_mono (fun h H => ?_) H)
  refine T_aload_n (pc := 27) dX3_init_27 rfl rfl ?_
  refine T_gR (pc := 28) fa_X3_24 dX3_init_28 (gR_mono (fun x2 H => ?_) H)
  refine T_iconst (pc := 31) (v := 0) dX3_init_31 (by decide) ?_
  refine T_nO (pc := 32) nf_X3_22 dX3_init_32 (nO_mono (fun x3 h u H => ?_) H)
  refine T_dup (pc := 35) rfl dX3_init_35 ?_
  refine T_iconst (pc := 36) (v := 0) dX3_init_36 (by decide) ?_
  refine T_iload_n (pc := 37) dX3_init_37 rfl rfl ?_
  refine T_if_eq (pc := 38) (tgt := 46) dX3_init_38 (by decide) (fun hc => ?_) (fun hc => ?_)
  · rw [if_pos hc] at H
    refine T_bipush (pc := 46) (v := 6) dX3_init_46 (by decide) ?_
    exact T.forget (E_X3_init_48 H) ⟨rfl, trivial⟩
  · rw [if_neg hc] at H
    refine T_bipush (pc := 41) (v := 8) dX3_init_41 (by decide) ?_
    refine T_goto (pc := 43) (tgt := 48) dX3_init_43 (by decide) ?_
    exact T.forget (E_X3_init_48 H) ⟨rfl, trivial⟩
theorem I_X3_init {d : Nat} {v0 : Option Nm} {v1 : Int32} {v2 : Int32} {v3 : Int32} {h : MH} {u : Nat} {K : MH → Nat → Prop} (u1 : Nat) (hu : u1 ≤ u) (H : F_X3_init d v0 v1 v2 v3 h u1 (fun h2 => K h2 (u - u1))) : iV (d + 1) u_X3_init [jR v0, jI v1, jI v2, jI v3] h u K := inv.of u1 hu (Ct.of (by decide +kernel) rfl (Nat.le_of_ble_eq_true rfl) rfl (E_X3_init H))
theorem dX5_init_0 : decode cX5_init 0 = .ok (.aload_n 0, 1) := by decide +kernel
theorem dX5_init_1 : decode cX5_init 1 = .ok (.invokespecial 1, 3) := by decide +kernel
theorem dX5_init_4 : decode cX5_init 4 = .ok (.aload_n 0, 1) := by decide +kernel
theorem dX5_init_5 : decode cX5_init 5 = .ok (.iload_n 1, 1) := by decide +kernel
theorem dX5_init_6 : decode cX5_init 6 = .ok (.putfield 7, 3) := by decide +kernel
theorem dX5_init_9 : decode cX5_init 9 = .ok (.aload_n 0, 1) := by decide +kernel
theorem dX5_init_10 : decode cX5_init 10 = .ok (.iload_n 2, 1) := by decide +kernel
theorem dX5_init_11 : decode cX5_init 11 = .ok (.putfield 13, 3) := by decide +kernel
theorem dX5_init_14 : decode cX5_init 14 = .ok (.aload_n 0, 1) := by decide +kernel
theorem dX5_init_15 : decode cX5_init 15 = .ok (.aload_n 3, 1) := by decide +kernel
theorem dX5_init_16 : decode cX5_init 16 = .ok (.putfield 16, 3) := by decide +kernel
theorem dX5_init_19 : decode cX5_init 19 = .ok (.aload_n 0, 1) := by decide +kernel
theorem dX5_init_20 : decode cX5_init 20 = .ok (.iload 4, 2) := by decide +kernel
theorem dX5_init_22 : decode cX5_init 22 = .ok (.putfield 20, 3) := by decide +kernel
theorem dX5_init_25 : decode cX5_init 25 = .ok (.return_, 1) := by decide +kernel
def F_X5_init (d : Nat) (v0 : Option Nm) (v1 : Int32) (v2 : Int32) (v3 : Option Nm) (v4 : Int32) (h : MH) (u : Nat) (Q : MH → Prop) : Prop :=
  nn v0 <|
  pV h v0 4 0 (jI v1) fun h =>
  pV h v0 4 1 (jI v2) fun h =>
  pV h v0 4 2 (jR v3) fun h =>
  nz v4 ∧
  pV h v0 4 3 (jI v4) fun h =>
  Q h
set_option maxRecDepth 20000 in
theorem E_X5_init {d : Nat} {v0 : Option Nm} {v1 : Int32} {v2 : Int32} {v3 : Option Nm} {v4 : Int32} {h : MH} {u : Nat} {Q : MH → Prop} (H : F_X5_init d v0 v1 v2 v3 v4 h u Q) : T u_X5_init (d + 1) 0 [some (jR v0), some (jI v1), some (jI v2), some (jR v3), some (jI v4)] [] h u (qV Q) := by
  unfold F_X5_init at H
  refine T_aload_n (pc := 0) dX5_init_0 rfl rfl ?_
  obtain ⟨n0, H0, H⟩ := nn_out H
  refine T_objInit (pc := 1) dX5_init_1 c_1_208 c_1_25 c_1_26 H0 (Nat.le_of_ble_eq_true rfl) ?_
  refine T_aload_n (pc := 4) dX5_init_4 rfl rfl ?_
  refine T_iload_n (pc := 5) dX5_init_5 rfl rfl ?_
  refine T_pVF (pc := 6) fa_X5_7 rfl rfl dX5_init_6 trivial (pV_mono (fun h H => ?_) H)
  refine T_aload_n (pc := 9) dX5_init_9 rfl rfl ?_
  refine T_iload_n (pc := 10) dX5_init_10 rfl rfl ?_
  refine T_pVF (pc := 11) fa_X5_13 rfl rfl dX5_init_11 trivial (pV_mono (fun h H => ?_) H)
  refine T_aload_n (pc := 14) dX5_init_14 rfl rfl ?_
  refine T_aload_n (pc := 15) dX5_init_15 rfl rfl ?_
  refine T_pVF (pc := 16) fa_X5_16 rfl rfl dX5_init_16 trivial (pV_mono (fun h H => ?_) H)
  refine T_aload_n (pc := 19) dX5_init_19 rfl rfl ?_
  refine T_iload (pc := 20) dX5_init_20 rfl ?_
  obtain ⟨H0, H⟩ := H
  refine T_pVF (pc := 22) fa_X5_20 rfl rfl dX5_init_22 H0 (pV_mono (fun h H => ?_) H)
  exact T_return (pc := 25) rfl dX5_init_25 H
theorem I_X5_init {d : Nat} {v0 : Option Nm} {v1 : Int32} {v2 : Int32} {v3 : Option Nm} {v4 : Int32} {h : MH} {u : Nat} {K : MH → Nat → Prop} (u1 : Nat) (hu : u1 ≤ u) (H : F_X5_init d v0 v1 v2 v3 v4 h u1 (fun h2 => K h2 (u - u1))) : iV (d + 1) u_X5_init [jR v0, jI v1, jI v2, jR v3, jI v4] h u K := inv.of u1 hu (Ct.of (by decide +kernel) rfl (Nat.le_of_ble_eq_true rfl) rfl (E_X5_init H))
theorem J_X5_init {d : Nat} {v0 : Option Nm} {v1 : Int32} {v2 : Int32} {v3 : Option Nm} {v4 : Int32} {h : MH} {u : Nat} {K : MH → Prop} (H : F_X5_init d v0 v1 v2 v3 v4 h 0 K) : iV (d + 1) u_X5_init [jR v0, jI v1, jI v2, jR v3, jI v4] h u (fun h2 u2 => K h2 ∧ u2 = u) := jiV (by decide +kernel) rfl (Nat.le_of_ble_eq_true rfl) rfl (E_X5_init H)
theorem dX6_init_0 : decode cX6_init 0 = .ok (.aload_n 0, 1) := by decide +kernel
theorem dX6_init_1 : decode cX6_init 1 = .ok (.invokespecial 1, 3) := by decide +kernel
theorem dX6_init_4 : decode cX6_init 4 = .ok (.aload_n 0, 1) := by decide +kernel
theorem dX6_init_5 : decode cX6_init 5 = .ok (.aload_n 1, 1) := by decide +kernel
theorem dX6_init_6 : decode cX6_init 6 = .ok (.putfield 7, 3) := by decide +kernel
theorem dX6_init_9 : decode cX6_init 9 = .ok (.aload_n 0, 1) := by decide +kernel
theorem dX6_init_10 : decode cX6_init 10 = .ok (.new 13, 3) := by decide +kernel
theorem dX6_init_13 : decode cX6_init 13 = .ok (.dup, 1) := by decide +kernel
theorem dX6_init_14 : decode cX6_init 14 = .ok (.invokespecial 15, 3) := by decide +kernel
theorem dX6_init_17 : decode cX6_init 17 = .ok (.putfield 16, 3) := by decide +kernel
theorem dX6_init_20 : decode cX6_init 20 = .ok (.aload_n 0, 1) := by decide +kernel
theorem dX6_init_21 : decode cX6_init 21 = .ok (.new 13, 3) := by decide +kernel
theorem dX6_init_24 : decode cX6_init 24 = .ok (.dup, 1) := by decide +kernel
theorem dX6_init_25 : decode cX6_init 25 = .ok (.invokespecial 15, 3) := by decide +kernel
theorem dX6_init_28 : decode cX6_init 28 = .ok (.putfield 20, 3) := by decide +kernel
theorem dX6_init_31 : decode cX6_init 31 = .ok (.return_, 1) := by decide +kernel
def F_X6_init (d : Nat) (v0 : Option Nm) (v1 : Option Nm) (h : MH) (u : Nat) (Q : MH → Prop) : Prop :=
  nn v0 <|
  pV h v0 5 0 (jR v1) fun h =>
  nO h u 7 [jR none, jR none, jI 0, jI 0] fun x1 h u =>
  iV d u_X8_init [jR (some x1)] h u fun h u =>
  pV h v0 5 1 (jR (some x1)) fun h =>
  nO h u 7 [jR none, jR none, jI 0, jI 0] fun x3 h u =>
  iV d u_X8_init [jR (some x3)] h u fun h u =>
  pV h v0 5 2 (jR (some x3)) fun h =>
  Q h
set_option maxRecDepth 20000 in
theorem E_X6_init {d : Nat} {v0 : Option Nm} {v1 : Option Nm} {h : MH} {u : Nat} {Q : MH → Prop} (H : F_X6_init d v0 v1 h u Q) : T u_X6_init (d + 1) 0 [some (jR v0), some (jR v1)] [] h u (qV Q) := by
  unfold F_X6_init at H
  refine T_aload_n (pc := 0) dX6_init_0 rfl rfl ?_
  obtain ⟨n0, H0, H⟩ := nn_out H
  refine T_objInit (pc := 1) dX6_init_1 c_1_103 c_1_25 c_1_26 H0 (Nat.le_of_ble_eq_true rfl) ?_
  refine T_aload_n (pc := 4) dX6_init_4 rfl rfl ?_
  refine T_aload_n (pc := 5) dX6_init_5 rfl rfl ?_
  refine T_pVF (pc := 6) fa_X6_7 rfl rfl dX6_init_6 trivial (pV_mono (fun h H => ?_) H)
  refine T_aload_n (pc := 9) dX6_init_9 rfl rfl ?_
  refine T_nO (pc := 10) nf_X6_13 dX6_init_10 (nO_mono (fun x1 h u H => ?_) H)
  refine T_dup (pc := 13) rfl dX6_init_13 ?_
  refine T_invI (pc := 14) (av := []) (rest := [jR (some x1), jR v0]) dX6_init_14 mf_X8_init rfl rfl c_1_106 c_1_107 rfl (Nat.le_of_ble_eq_true rfl) rfl (iV_k (iV_mono (fun h u H => ?_) H))
  refine T_pV (pc := 17) fa_X6_16 dX6_init_17 trivial (pV_mono (fun h H => ?_) H)
  refine T_aload_n (pc := 20) dX6_init_20 rfl rfl ?_
  refine T_nO (pc := 21) nf_X6_13 dX6_init_21 (nO_mono (fun x3 h u H => ?_) H)
  refine T_dup (pc := 24) rfl dX6_init_24 ?_
  refine T_invI (pc := 25) (av := []) (rest := [jR (some x3), jR v0]) dX6_init_25 mf_X8_init rfl rfl c_1_106 c_1_107 rfl (Nat.le_of_ble_eq_true rfl) rfl (iV_k (iV_mono (fun h u H => ?_) H))
  refine T_pV (pc := 28) fa_X6_20 dX6_init_28 trivial (pV_mono (fun h H => ?_) H)
  exact T_return (pc := 31) rfl dX6_init_31 H
theorem I_X6_init {d : Nat} {v0 : Option Nm} {v1 : Option Nm} {h : MH} {u : Nat} {K : MH → Nat → Prop} (u1 : Nat) (hu : u1 ≤ u) (H : F_X6_init d v0 v1 h u1 (fun h2 => K h2 (u - u1))) : iV (d + 1) u_X6_init [jR v0, jR v1] h u K := inv.of u1 hu (Ct.of (by decide +kernel) rfl (Nat.le_of_ble_eq_true rfl) rfl (E_X6_init H))
theorem dX8_addSign_0 : decode cX8_addSign 0 = .ok (.aload_n 0, 1) := by decide +kernel
theorem dX8_addSign_1 : decode cX8_addSign 1 = .ok (.getfield 19, 3) := by decide +kernel
theorem dX8_addSign_4 : decode cX8_addSign 4 = .ok (.sipush 4000, 3) := by decide +kernel
theorem dX8_addSign_7 : decode cX8_addSign 7 = .ok (.if_icmp .ge 27, 3) := by decide +kernel
theorem dX8_addSign_10 : decode cX8_addSign 10 = .ok (.aload_n 0, 1) := by decide +kernel
theorem dX8_addSign_11 : decode cX8_addSign 11 = .ok (.getfield 9, 3) := by decide +kernel
theorem dX8_addSign_14 : decode cX8_addSign 14 = .ok (.aload_n 0, 1) := by decide +kernel
theorem dX8_addSign_15 : decode cX8_addSign 15 = .ok (.getfield 19, 3) := by decide +kernel
theorem dX8_addSign_18 : decode cX8_addSign 18 = .ok (.iload_n 1, 1) := by decide +kernel
theorem dX8_addSign_19 : decode cX8_addSign 19 = .ok (.i2b, 1) := by decide +kernel
theorem dX8_addSign_20 : decode cX8_addSign 20 = .ok (.bastore, 1) := by decide +kernel
theorem dX8_addSign_21 : decode cX8_addSign 21 = .ok (.aload_n 0, 1) := by decide +kernel
theorem dX8_addSign_22 : decode cX8_addSign 22 = .ok (.dup, 1) := by decide +kernel
theorem dX8_addSign_23 : decode cX8_addSign 23 = .ok (.getfield 19, 3) := by decide +kernel
theorem dX8_addSign_26 : decode cX8_addSign 26 = .ok (.iconst 1, 1) := by decide +kernel
theorem dX8_addSign_27 : decode cX8_addSign 27 = .ok (.iadd, 1) := by decide +kernel
theorem dX8_addSign_28 : decode cX8_addSign 28 = .ok (.putfield 19, 3) := by decide +kernel
theorem dX8_addSign_31 : decode cX8_addSign 31 = .ok (.goto 8, 3) := by decide +kernel
theorem dX8_addSign_34 : decode cX8_addSign 34 = .ok (.aload_n 0, 1) := by decide +kernel
theorem dX8_addSign_35 : decode cX8_addSign 35 = .ok (.iconst 1, 1) := by decide +kernel
theorem dX8_addSign_36 : decode cX8_addSign 36 = .ok (.putfield 23, 3) := by decide +kernel
theorem dX8_addSign_39 : decode cX8_addSign 39 = .ok (.return_, 1) := by decide +kernel
def F_X8_addSign (d : Nat) (v0 : Option Nm) (v1 : Int32) (h : MH) (u : Nat) (Q : MH → Prop) : Prop :=
  gI h v0 7 2 fun x1 =>
  if 4000 ≤ x1 then
    nz 1 ∧
    pV h v0 7 3 (jI 1) fun h =>
    Q h
  else
    gR h v0 7 0 fun x2 =>
    gI h v0 7 2 fun x3 =>
    sV .byte h x2 x3 (jI (v1.toInt8.toInt32).toInt8.toInt32) fun h =>
    gI h v0 7 2 fun x4 =>
    pV h v0 7 2 (jI (x4 + 1)) fun h =>
    Q h
set_option maxRecDepth 20000 in
theorem E_X8_addSign {d : Nat} {v0 : Option Nm} {v1 : Int32} {h : MH} {u : Nat} {Q : MH → Prop} (H : F_X8_addSign d v0 v1 h u Q) : T u_X8_addSign d 0 [some (jR v0), some (jI v1)] [] h u (qV Q) := by
  unfold F_X8_addSign at H
  refine T_aload_n (pc := 0) dX8_addSign_0 rfl rfl ?_
  refine T_gI (pc := 1) fa_X8_19 dX8_addSign_1 (gI_mono (fun x1 H => ?_) H)
  refine T_sipush (pc := 4) (v := 4000) dX8_addSign_4 (by decide) ?_
  refine T_icmp_ge (pc := 7) (tgt := 34) dX8_addSign_7 (by decide) (fun hc => ?_) (fun hc => ?_)
  · rw [if_pos hc] at H
    refine T_aload_n (pc := 34) dX8_addSign_34 rfl rfl ?_
    refine T_iconst (pc := 35) (v := 1) dX8_addSign_35 (by decide) ?_
    obtain ⟨H0, H⟩ := H
    refine T_pV (pc := 36) fa_X8_23 dX8_addSign_36 H0 (pV_mono (fun h H => ?_) H)
    exact T_return (pc := 39) rfl dX8_addSign_39 H
  · rw [if_neg hc] at H
    refine T_aload_n (pc := 10) dX8_addSign_10 rfl rfl ?_
    refine T_gR (pc := 11) fa_X8_9 dX8_addSign_11 (gR_mono (fun x2 H => ?_) H)
    refine T_aload_n (pc := 14) dX8_addSign_14 rfl rfl ?_
    refine T_gI (pc := 15) fa_X8_19 dX8_addSign_15 (gI_mono (fun x3 H => ?_) H)
    refine T_iload_n (pc := 18) dX8_addSign_18 rfl rfl ?_
    refine T_i2b (pc := 19) dX8_addSign_19 ?_
    refine T_sB (pc := 20) dX8_addSign_20 (sV_mono (fun h H => ?_) H)
    refine T_aload_n (pc := 21) dX8_addSign_21 rfl rfl ?_
    refine T_dup (pc := 22) rfl dX8_addSign_22 ?_
    refine T_gI (pc := 23) fa_X8_19 dX8_addSign_23 (gI_mono (fun x4 H => ?_) H)
    refine T_iconst (pc := 26) (v := 1) dX8_addSign_26 (by decide) ?_
    refine T_iadd (pc := 27) dX8_addSign_27 ?_
    refine T_pV (pc := 28) fa_X8_19 dX8_addSign_28 trivial (pV_mono (fun h H => ?_) H)
    refine T_goto (pc := 31) (tgt := 39) dX8_addSign_31 (by decide) ?_
    exact T_return (pc := 39) rfl dX8_addSign_39 H
theorem I_X8_addSign {d : Nat} {v0 : Option Nm} {v1 : Int32} {h : MH} {u : Nat} {K : MH → Nat → Prop} (u1 : Nat) (hu : u1 ≤ u) (H : F_X8_addSign d v0 v1 h u1 (fun h2 => K h2 (u - u1))) : iV d u_X8_addSign [jR v0, jI v1] h u K := inv.of u1 hu (Ct.of (by decide +kernel) rfl (Nat.le_of_ble_eq_true rfl) rfl (E_X8_addSign H))
theorem J_X8_addSign {d : Nat} {v0 : Option Nm} {v1 : Int32} {h : MH} {u : Nat} {K : MH → Prop} (H : F_X8_addSign d v0 v1 h 0 K) : iV d u_X8_addSign [jR v0, jI v1] h u (fun h2 u2 => K h2 ∧ u2 = u) := jiV (by decide +kernel) rfl (Nat.le_of_ble_eq_true rfl) rfl (E_X8_addSign H)
theorem dX8_addNumber_0 : decode cX8_addNumber 0 = .ok (.lload_n 1, 1) := by decide +kernel
theorem dX8_addNumber_1 : decode cX8_addNumber 1 = .ok (.lconst 0, 1) := by decide +kernel
theorem dX8_addNumber_2 : decode cX8_addNumber 2 = .ok (.lcmp, 1) := by decide +kernel
theorem dX8_addNumber_3 : decode cX8_addNumber 3 = .ok (.ifCond .ge 9, 3) := by decide +kernel
theorem dX8_addNumber_6 : decode cX8_addNumber 6 = .ok (.aload_n 0, 1) := by decide +kernel
theorem dX8_addNumber_7 : decode cX8_addNumber 7 = .ok (.bipush 45, 2) := by decide +kernel
theorem dX8_addNumber_9 : decode cX8_addNumber 9 = .ok (.invokevirtual 27, 3) := by decide +kernel
theorem dX8_addNumber_12 : decode cX8_addNumber 12 = .ok (.lload_n 1, 1) := by decide +kernel
theorem dX8_addNumber_13 : decode cX8_addNumber 13 = .ok (.lconst 0, 1) := by decide +kernel
theorem dX8_addNumber_14 : decode cX8_addNumber 14 = .ok (.lcmp, 1) := by decide +kernel
theorem dX8_addNumber_15 : decode cX8_addNumber 15 = .ok (.ifCond .ge 7, 3) := by decide +kernel
theorem dX8_addNumber_18 : decode cX8_addNumber 18 = .ok (.lload_n 1, 1) := by decide +kernel
theorem dX8_addNumber_19 : decode cX8_addNumber 19 = .ok (.goto 5, 3) := by decide +kernel
theorem dX8_addNumber_22 : decode cX8_addNumber 22 = .ok (.lload_n 1, 1) := by decide +kernel
theorem dX8_addNumber_23 : decode cX8_addNumber 23 = .ok (.lneg, 1) := by decide +kernel
theorem dX8_addNumber_24 : decode cX8_addNumber 24 = .ok (.lstore_n 3, 1) := by decide +kernel
theorem dX8_addNumber_25 : decode cX8_addNumber 25 = .ok (.iconst 0, 1) := by decide +kernel
theorem dX8_addNumber_26 : decode cX8_addNumber 26 = .ok (.istore 5, 2) := by decide +kernel
theorem dX8_addNumber_28 : decode cX8_addNumber 28 = .ok (.aload_n 0, 1) := by decide +kernel
theorem dX8_addNumber_29 : decode cX8_addNumber 29 = .ok (.getfield 15, 3) := by decide +kernel
theorem dX8_addNumber_32 : decode cX8_addNumber 32 = .ok (.iload 5, 2) := by decide +kernel
theorem dX8_addNumber_34 : decode cX8_addNumber 34 = .ok (.ldc2_w 31, 3) := by decide +kernel
theorem dX8_addNumber_37 : decode cX8_addNumber 37 = .ok (.lload_n 3, 1) := by decide +kernel
theorem dX8_addNumber_38 : decode cX8_addNumber 38 = .ok (.ldc2_w 33, 3) := by decide +kernel
theorem dX8_addNumber_41 : decode cX8_addNumber 41 = .ok (.lrem, 1) := by decide +kernel
theorem dX8_addNumber_42 : decode cX8_addNumber 42 = .ok (.lsub, 1) := by decide +kernel
theorem dX8_addNumber_43 : decode cX8_addNumber 43 = .ok (.l2i, 1) := by decide +kernel
theorem dX8_addNumber_44 : decode cX8_addNumber 44 = .ok (.i2c, 1) := by decide +kernel
theorem dX8_addNumber_45 : decode cX8_addNumber 45 = .ok (.castore, 1) := by decide +kernel
theorem dX8_addNumber_46 : decode cX8_addNumber 46 = .ok (.lload_n 3, 1) := by decide +kernel
theorem dX8_addNumber_47 : decode cX8_addNumber 47 = .ok (.ldc2_w 33, 3) := by decide +kernel
theorem dX8_addNumber_50 : decode cX8_addNumber 50 = .ok (.ldiv, 1) := by decide +kernel
theorem dX8_addNumber_51 : decode cX8_addNumber 51 = .ok (.lstore_n 3, 1) := by decide +kernel
theorem dX8_addNumber_52 : decode cX8_addNumber 52 = .ok (.iinc 5 1, 3) := by decide +kernel
theorem dX8_addNumber_55 : decode cX8_addNumber 55 = .ok (.lload_n 3, 1) := by decide +kernel
theorem dX8_addNumber_56 : decode cX8_addNumber 56 = .ok (.lconst 0, 1) := by decide +kernel
theorem dX8_addNumber_57 : decode cX8_addNumber 57 = .ok (.lcmp, 1) := by decide +kernel
theorem dX8_addNumber_58 : decode cX8_addNumber 58 = .ok (.ifCond .eq 10, 3) := by decide +kernel
theorem dX8_addNumber_61 : decode cX8_addNumber 61 = .ok (.iload 5, 2) := by decide +kernel
theorem dX8_addNumber_63 : decode cX8_addNumber 63 = .ok (.bipush 20, 2) := by decide +kernel
theorem dX8_addNumber_65 : decode cX8_addNumber 65 = .ok (.if_icmp .lt (-37), 3) := by decide +kernel
theorem dX8_addNumber_68 : decode cX8_addNumber 68 = .ok (.iload 5, 2) := by decide +kernel
theorem dX8_addNumber_70 : decode cX8_addNumber 70 = .ok (.iconst 1, 1) := by decide +kernel
theorem dX8_addNumber_71 : decode cX8_addNumber 71 = .ok (.isub, 1) := by decide +kernel
theorem dX8_addNumber_72 : decode cX8_addNumber 72 = .ok (.istore 6, 2) := by decide +kernel
theorem dX8_addNumber_74 : decode cX8_addNumber 74 = .ok (.iload 6, 2) := by decide +kernel
theorem dX8_addNumber_76 : decode cX8_addNumber 76 = .ok (.ifCond .lt 20, 3) := by decide +kernel
theorem dX8_addNumber_79 : decode cX8_addNumber 79 = .ok (.aload_n 0, 1) := by decide +kernel
theorem dX8_addNumber_80 : decode cX8_addNumber 80 = .ok (.aload_n 0, 1) := by decide +kernel
theorem dX8_addNumber_81 : decode cX8_addNumber 81 = .ok (.getfield 15, 3) := by decide +kernel
theorem dX8_addNumber_84 : decode cX8_addNumber 84 = .ok (.iload 6, 2) := by decide +kernel
theorem dX8_addNumber_86 : decode cX8_addNumber 86 = .ok (.caload, 1) := by decide +kernel
theorem dX8_addNumber_87 : decode cX8_addNumber 87 = .ok (.invokevirtual 27, 3) := by decide +kernel
theorem dX8_addNumber_90 : decode cX8_addNumber 90 = .ok (.iinc 6 (-1), 3) := by decide +kernel
theorem dX8_addNumber_93 : decode cX8_addNumber 93 = .ok (.goto (-19), 3) := by decide +kernel
theorem dX8_addNumber_96 : decode cX8_addNumber 96 = .ok (.return_, 1) := by decide +kernel
def L_X8_addNumber_28 (d : Nat) (v0 : Option Nm) (v3 : Int64) (v5 : Int32) (h : MH) (u : Nat) (Q : MH → Prop) : Prop := T u_X8_addNumber (d + 1) 28 [some (jR v0), none, none, some (jL v3), none, some (jI v5), none] [] h u (qV Q)
def L_X8_addNumber_74 (d : Nat) (v0 : Option Nm) (v6 : Int32) (h : MH) (u : Nat) (Q : MH → Prop) : Prop := T u_X8_addNumber (d + 1) 74 [some (jR v0), none, none, none, none, none, some (jI v6)] [] h u (qV Q)
def F_X8_addNumber_12 (d : Nat) (v0 : Option Nm) (v1 : Int64) (h : MH) (u : Nat) (Q : MH → Prop) : Prop :=
  if 0 ≤ (lg_cmp v1 0) then
    L_X8_addNumber_28 d v0 (-v1) 0 h u Q
  else
    L_X8_addNumber_28 d v0 v1 0 h u Q
set_option maxRecDepth 20000 in
theorem E_X8_addNumber_12 {d : Nat} {v0 : Option Nm} {v1 : Int64} {h : MH} {u : Nat} {Q : MH → Prop} (H : F_X8_addNumber_12 d v0 v1 h u Q) : T u_X8_addNumber (d + 1) 12 [some (jR v0), some (jL v1), none, none, none, none, none] [] h u (qV Q) := by
  unfold F_X8_addNumber_12 at H
  refine T_lload_n (pc := 12) dX8_addNumber_12 rfl rfl ?_
  refine T_lconst (pc := 13) (v := 0) dX8_addNumber_13 (by decide) ?_
  refine T_lcmp (pc := 14) dX8_addNumber_14 ?_
  refine T_if_ge (pc := 15) (tgt := 22) dX8_addNumber_15 (by decide) (fun hc => ?_) (fun hc => ?_)
  · rw [if_pos hc] at H
    refine T_lload_n (pc := 22) dX8_addNumber_22 rfl rfl ?_
    refine T_lneg (pc := 23) dX8_addNumber_23 ?_
    refine T_lstore_n (pc := 24) (ls2 := [some (jR v0), some (jL v1), none, some (jL (-v1)), none, none, none]) dX8_addNumber_24 rfl (Nat.le_of_ble_eq_true rfl) rfl ?_
    refine T_iconst (pc := 25) (v := 0) dX8_addNumber_25 (by decide) ?_
    refine T_istore (pc := 26) (ls2 := [some (jR v0), some (jL v1), none, some (jL (-v1)), none, some (jI 0), none]) dX8_addNumber_26 (Nat.le_of_ble_eq_true rfl) rfl ?_
    exact T.forget H ⟨rfl, rfl, rfl, trivial⟩
  · rw [if_neg hc] at H
    refine T_lload_n (pc := 18) dX8_addNumber_18 rfl rfl ?_
    refine T_goto (pc := 19) (tgt := 24) dX8_addNumber_19 (by decide) ?_
    refine T_lstore_n (pc := 24) (ls2 := [some (jR v0), some (jL v1), none, some (jL v1), none, none, none]) dX8_addNumber_24 rfl (Nat.le_of_ble_eq_true rfl) rfl ?_
    refine T_iconst (pc := 25) (v := 0) dX8_addNumber_25 (by decide) ?_
    refine T_istore (pc := 26) (ls2 := [some (jR v0), some (jL v1), none, some (jL v1), none, some (jI 0), none]) dX8_addNumber_26 (Nat.le_of_ble_eq_true rfl) rfl ?_
    exact T.forget H ⟨rfl, rfl, rfl, trivial⟩
def F_X8_addNumber (d : Nat) (v0 : Option Nm) (v1 : Int64) (h : MH) (u : Nat) (Q : MH → Prop) : Prop :=
  if 0 ≤ (lg_cmp v1 0) then
    F_X8_addNumber_12 d v0 v1 h u Q
  else
    rc h v0 7 ∧ F_X8_addSign d v0 45 h 0 fun h =>
    F_X8_addNumber_12 d v0 v1 h u Q
set_option maxRecDepth 20000 in
theorem E_X8_addNumber {d : Nat} {v0 : Option Nm} {v1 : Int64} {h : MH} {u : Nat} {Q : MH → Prop} (H : F_X8_addNumber d v0 v1 h u Q) : T u_X8_addNumber (d + 1) 0 [some (jR v0), some (jL v1), none, none, none, none, none] [] h u (qV Q) := by
  unfold F_X8_addNumber at H
  refine T_lload_n (pc := 0) dX8_addNumber_0 rfl rfl ?_
  refine T_lconst (pc := 1) (v := 0) dX8_addNumber_1 (by decide) ?_
  refine T_lcmp (pc := 2) dX8_addNumber_2 ?_
  refine T_if_ge (pc := 3) (tgt := 12) dX8_addNumber_3 (by decide) (fun hc => ?_) (fun hc => ?_)
  · rw [if_pos hc] at H
    exact T.forget (E_X8_addNumber_12 H) ⟨rfl, rfl, trivial⟩
  · rw [if_neg hc] at H
    refine T_aload_n (pc := 6) dX8_addNumber_6 rfl rfl ?_
    refine T_bipush (pc := 7) (v := 45) dX8_addNumber_7 (by decide) ?_
    obtain ⟨H0, H⟩ := H
    refine T_iV (pc := 9) (ci := 7) (av := [jI 45]) (rest := []) (o := v0) dX8_addNumber_9 mf_X8_addSign c_4_133 c_4_126 c_4_127 rfl rfl (Nat.le_of_ble_eq_true rfl) rfl H0 (iV_k (iV_m0 (fun h H => ?_) (J_X8_addSign (d := d) H)))
    exact T.forget (E_X8_addNumber_12 H) ⟨rfl, rfl, trivial⟩
def F_X8_addNumber_28 (d : Nat) (v0 : Option Nm) (v3 : Int64) (v5 : Int32) (h : MH) (u : Nat) (Q : MH → Prop) : Prop :=
  gR h v0 7 1 fun x1 =>
  sV .char h x1 v5 (jI (vp_nar .char ((((48 - (v3 - v3 / 10 * 10)).toInt32).toUInt32 % 65536).toInt32))) fun h =>
  if (lg_cmp (v3 / 10) 0) = 0 then
    L_X8_addNumber_74 d v0 ((v5 + 1) - 1) h u Q
  else
    if (v5 + 1) < 20 then
      L_X8_addNumber_28 d v0 (v3 / 10) (v5 + 1) h u Q
    else
      L_X8_addNumber_74 d v0 ((v5 + 1) - 1) h u Q
set_option maxRecDepth 20000 in
theorem E_X8_addNumber_28 {d : Nat} {v0 : Option Nm} {v3 : Int64} {v5 : Int32} {h : MH} {u : Nat} {Q : MH → Prop} (H : F_X8_addNumber_28 d v0 v3 v5 h u Q) : T u_X8_addNumber (d + 1) 28 [some (jR v0), none, none, some (jL v3), none, some (jI v5), none] [] h u (qV Q) := by
  unfold F_X8_addNumber_28 at H
  refine T_aload_n (pc := 28) dX8_addNumber_28 rfl rfl ?_
  refine T_gR (pc := 29) fa_X8_15 dX8_addNumber_29 (gR_mono (fun x1 H => ?_) H)
  refine T_iload (pc := 32) dX8_addNumber_32 rfl ?_
  refine T_ldc2 (pc := 34) (v := 48) dX8_addNumber_34 c_4_134 ?_
  refine T_lload_n (pc := 37) dX8_addNumber_37 rfl rfl ?_
  refine T_ldc2 (pc := 38) (v := 10) dX8_addNumber_38 c_4_135 ?_
  refine T_lrem (pc := 41) dX8_addNumber_41 (by decide) ?_
  refine T_lsub (pc := 42) dX8_addNumber_42 ?_
  refine T_l2i (pc := 43) dX8_addNumber_43 ?_
  refine T_i2c (pc := 44) dX8_addNumber_44 ?_
  refine T_sC (pc := 45) dX8_addNumber_45 (sV_mono (fun h H => ?_) H)
  refine T_lload_n (pc := 46) dX8_addNumber_46 rfl rfl ?_
  refine T_ldc2 (pc := 47) (v := 10) dX8_addNumber_47 c_4_135 ?_
  refine T_ldiv (pc := 50) dX8_addNumber_50 (by decide) ?_
  refine T_lstore_n (pc := 51) (ls2 := [some (jR v0), none, none, some (jL (v3 / 10)), none, some (jI v5), none]) dX8_addNumber_51 rfl (Nat.le_of_ble_eq_true rfl) rfl ?_
  refine T_iinc (pc := 52) (v := v5 + 1) (ls2 := [some (jR v0), none, none, some (jL (v3 / 10)), none, some (jI (v5 + 1)), none]) dX8_addNumber_52 rfl rfl (Nat.le_of_ble_eq_true rfl) rfl ?_
  refine T_lload_n (pc := 55) dX8_addNumber_55 rfl rfl ?_
  refine T_lconst (pc := 56) (v := 0) dX8_addNumber_56 (by decide) ?_
  refine T_lcmp (pc := 57) dX8_addNumber_57 ?_
  refine T_if_eq (pc := 58) (tgt := 68) dX8_addNumber_58 (by decide) (fun hc => ?_) (fun hc => ?_)
  · rw [if_pos hc] at H
    refine T_iload (pc := 68) dX8_addNumber_68 rfl ?_
    refine T_iconst (pc := 70) (v := 1) dX8_addNumber_70 (by decide) ?_
    refine T_isub (pc := 71) dX8_addNumber_71 ?_
    refine T_istore (pc := 72) (ls2 := [some (jR v0), none, none, some (jL (v3 / 10)), none, some (jI (v5 + 1)), some (jI ((v5 + 1) - 1))]) dX8_addNumber_72 (Nat.le_of_ble_eq_true rfl) rfl ?_
    exact T.forget H ⟨rfl, rfl, trivial⟩
  · rw [if_neg hc] at H
    refine T_iload (pc := 61) dX8_addNumber_61 rfl ?_
    refine T_bipush (pc := 63) (v := 20) dX8_addNumber_63 (by decide) ?_
    refine T_icmp_lt (pc := 65) (tgt := 28) dX8_addNumber_65 (by decide) (fun hc => ?_) (fun hc => ?_)
    · rw [if_pos hc] at H
      exact T.forget H ⟨rfl, rfl, rfl, trivial⟩
    · rw [if_neg hc] at H
      refine T_iload (pc := 68) dX8_addNumber_68 rfl ?_
      refine T_iconst (pc := 70) (v := 1) dX8_addNumber_70 (by decide) ?_
      refine T_isub (pc := 71) dX8_addNumber_71 ?_
      refine T_istore (pc := 72) (ls2 := [some (jR v0), none, none, some (jL (v3 / 10)), none, some (jI (v5 + 1)), some (jI ((v5 + 1) - 1))]) dX8_addNumber_72 (Nat.le_of_ble_eq_true rfl) rfl ?_
      exact T.forget H ⟨rfl, rfl, trivial⟩
def F_X8_addNumber_74 (d : Nat) (v0 : Option Nm) (v6 : Int32) (h : MH) (u : Nat) (Q : MH → Prop) : Prop :=
  if v6 < 0 then
    Q h
  else
    gR h v0 7 1 fun x1 =>
    aI .char h x1 v6 fun x2 =>
    rc h v0 7 ∧ F_X8_addSign d v0 x2 h 0 fun h =>
    L_X8_addNumber_74 d v0 (v6 + (-1)) h u Q
set_option maxRecDepth 20000 in
theorem E_X8_addNumber_74 {d : Nat} {v0 : Option Nm} {v6 : Int32} {h : MH} {u : Nat} {Q : MH → Prop} (H : F_X8_addNumber_74 d v0 v6 h u Q) : T u_X8_addNumber (d + 1) 74 [some (jR v0), none, none, none, none, none, some (jI v6)] [] h u (qV Q) := by
  unfold F_X8_addNumber_74 at H
  refine T_iload (pc := 74) dX8_addNumber_74 rfl ?_
  refine T_if_lt (pc := 76) (tgt := 96) dX8_addNumber_76 (by decide) (fun hc => ?_) (fun hc => ?_)
  · rw [if_pos hc] at H
    exact T_return (pc := 96) rfl dX8_addNumber_96 H
  · rw [if_neg hc] at H
    refine T_aload_n (pc := 79) dX8_addNumber_79 rfl rfl ?_
    refine T_aload_n (pc := 80) dX8_addNumber_80 rfl rfl ?_
    refine T_gR (pc := 81) fa_X8_15 dX8_addNumber_81 (gR_mono (fun x1 H => ?_) H)
    refine T_iload (pc := 84) dX8_addNumber_84 rfl ?_
    refine T_aC (pc := 86) dX8_addNumber_86 (aI_mono (fun x2 H => ?_) H)
    obtain ⟨H0, H⟩ := H
    refine T_iV (pc := 87) (ci := 7) (av := [jI x2]) (rest := []) (o := v0) dX8_addNumber_87 mf_X8_addSign c_4_133 c_4_126 c_4_127 rfl rfl (Nat.le_of_ble_eq_true rfl) rfl H0 (iV_k (iV_m0 (fun h H => ?_) (J_X8_addSign (d := d) H)))
    refine T_iinc (pc := 90) (v := v6 + (-1)) (ls2 := [some (jR v0), none, none, none, none, none, some (jI (v6 + (-1)))]) dX8_addNumber_90 rfl rfl (Nat.le_of_ble_eq_true rfl) rfl ?_
    refine T_goto (pc := 93) (tgt := 74) dX8_addNumber_93 (by decide) ?_
    exact T.forget H ⟨rfl, rfl, trivial⟩
theorem I_X8_addNumber {d : Nat} {v0 : Option Nm} {v1 : Int64} {h : MH} {u : Nat} {K : MH → Nat → Prop} (u1 : Nat) (hu : u1 ≤ u) (H : F_X8_addNumber d v0 v1 h u1 (fun h2 => K h2 (u - u1))) : iV (d + 1) u_X8_addNumber [jR v0, jL v1] h u K := inv.of u1 hu (Ct.of (by decide +kernel) rfl (Nat.le_of_ble_eq_true rfl) rfl (E_X8_addNumber H))
theorem J_X8_addNumber {d : Nat} {v0 : Option Nm} {v1 : Int64} {h : MH} {u : Nat} {K : MH → Prop} (H : F_X8_addNumber d v0 v1 h 0 K) : iV (d + 1) u_X8_addNumber [jR v0, jL v1] h u (fun h2 u2 => K h2 ∧ u2 = u) := jiV (by decide +kernel) rfl (Nat.le_of_ble_eq_true rfl) rfl (E_X8_addNumber H)
theorem dX6_writeAny_0 : decode cX6_writeAny 0 = .ok (.iload_n 1, 1) := by decide +kernel
theorem dX6_writeAny_1 : decode cX6_writeAny 1 = .ok (.lookupswitch 88 #[(0, 35), (8, 58), (9, 73)], 35) := by decide +kernel
theorem dX6_writeAny_36 : decode cX6_writeAny 36 = .ok (.aload_n 0, 1) := by decide +kernel
theorem dX6_writeAny_37 : decode cX6_writeAny 37 = .ok (.getfield 20, 3) := by decide +kernel
theorem dX6_writeAny_40 : decode cX6_writeAny 40 = .ok (.lload_n 2, 1) := by decide +kernel
theorem dX6_writeAny_41 : decode cX6_writeAny 41 = .ok (.lconst 0, 1) := by decide +kernel
theorem dX6_writeAny_42 : decode cX6_writeAny 42 = .ok (.lcmp, 1) := by decide +kernel
theorem dX6_writeAny_43 : decode cX6_writeAny 43 = .ok (.ifCond .eq 8, 3) := by decide +kernel
theorem dX6_writeAny_46 : decode cX6_writeAny 46 = .ok (.bipush 116, 2) := by decide +kernel
theorem dX6_writeAny_48 : decode cX6_writeAny 48 = .ok (.goto 5, 3) := by decide +kernel
theorem dX6_writeAny_51 : decode cX6_writeAny 51 = .ok (.bipush 102, 2) := by decide +kernel
theorem dX6_writeAny_53 : decode cX6_writeAny 53 = .ok (.invokevirtual 34, 3) := by decide +kernel
theorem dX6_writeAny_56 : decode cX6_writeAny 56 = .ok (.goto 41, 3) := by decide +kernel
theorem dX6_writeAny_59 : decode cX6_writeAny 59 = .ok (.aload_n 0, 1) := by decide +kernel
theorem dX6_writeAny_60 : decode cX6_writeAny 60 = .ok (.aload_n 0, 1) := by decide +kernel
theorem dX6_writeAny_61 : decode cX6_writeAny 61 = .ok (.getfield 7, 3) := by decide +kernel
theorem dX6_writeAny_64 : decode cX6_writeAny 64 = .ok (.lload_n 2, 1) := by decide +kernel
theorem dX6_writeAny_65 : decode cX6_writeAny 65 = .ok (.invokevirtual 84, 3) := by decide +kernel
theorem dX6_writeAny_68 : decode cX6_writeAny 68 = .ok (.invokevirtual 26, 3) := by decide +kernel
theorem dX6_writeAny_71 : decode cX6_writeAny 71 = .ok (.goto 26, 3) := by decide +kernel
theorem dX6_writeAny_74 : decode cX6_writeAny 74 = .ok (.aload_n 0, 1) := by decide +kernel
theorem dX6_writeAny_75 : decode cX6_writeAny 75 = .ok (.aload_n 0, 1) := by decide +kernel
theorem dX6_writeAny_76 : decode cX6_writeAny 76 = .ok (.getfield 7, 3) := by decide +kernel
theorem dX6_writeAny_79 : decode cX6_writeAny 79 = .ok (.lload_n 2, 1) := by decide +kernel
theorem dX6_writeAny_80 : decode cX6_writeAny 80 = .ok (.invokevirtual 90, 3) := by decide +kernel
theorem dX6_writeAny_83 : decode cX6_writeAny 83 = .ok (.invokevirtual 94, 3) := by decide +kernel
theorem dX6_writeAny_86 : decode cX6_writeAny 86 = .ok (.goto 11, 3) := by decide +kernel
theorem dX6_writeAny_89 : decode cX6_writeAny 89 = .ok (.aload_n 0, 1) := by decide +kernel
theorem dX6_writeAny_90 : decode cX6_writeAny 90 = .ok (.getfield 20, 3) := by decide +kernel
theorem dX6_writeAny_93 : decode cX6_writeAny 93 = .ok (.lload_n 2, 1) := by decide +kernel
theorem dX6_writeAny_94 : decode cX6_writeAny 94 = .ok (.invokevirtual 53, 3) := by decide +kernel
theorem dX6_writeAny_97 : decode cX6_writeAny 97 = .ok (.return_, 1) := by decide +kernel
def F_X6_writeAny (d : Nat) (v0 : Option Nm) (v1 : Int32) (v2 : Int64) (h : MH) (u : Nat) (Q : MH → Prop) : Prop :=
  if v1 = 0 then
    gR h v0 5 2 fun x1 =>
    if (lg_cmp v2 0) = 0 then
      rc h x1 7 ∧ F_X8_addSign (d + 1) x1 102 h 0 fun h =>
      Q h
    else
      rc h x1 7 ∧ F_X8_addSign (d + 1) x1 116 h 0 fun h =>
      Q h
  else if v1 = 8 then
    gR h v0 5 0 fun x4 =>
    rc h x4 6 ∧ F_X7_findValue (d + 1) x4 v2 h 0 fun x5 h =>
    rc h v0 5 ∧ iV (d + 1) u_X6_writeValue [jR v0, jR x5] h u fun h u =>
    Q h
  else if v1 = 9 then
    gR h v0 5 0 fun x7 =>
    rc h x7 6 ∧ F_X7_findRow (d + 1) x7 v2 h 0 fun x8 h =>
    rc h v0 5 ∧ iV (d + 1) u_X6_writeRow [jR v0, jR x8] h u fun h u =>
    Q h
  else 
    gR h v0 5 2 fun x10 =>
    rc h x10 7 ∧ F_X8_addNumber d x10 v2 h 0 fun h =>
    Q h
set_option maxRecDepth 20000 in
theorem E_X6_writeAny {d : Nat} {v0 : Option Nm} {v1 : Int32} {v2 : Int64} {h : MH} {u : Nat} {Q : MH → Prop} (H : F_X6_writeAny d v0 v1 v2 h u Q) : T u_X6_writeAny (d + 2) 0 [some (jR v0), some (jI v1), some (jL v2), none] [] h u (qV Q) := by
  unfold F_X6_writeAny at H
  refine T_iload_n (pc := 0) dX6_writeAny_0 rfl rfl ?_
  by_cases h0 : v1 = 0
  · rw [if_pos h0] at H
    refine T_lookup (pc := 1) (off := 35) (tgt := 36) dX6_writeAny_1 (by decide) (by rw [h0]; decide) (by decide) ?_
    refine T_aload_n (pc := 36) dX6_writeAny_36 rfl rfl ?_
    refine T_gR (pc := 37) fa_X6_20 dX6_writeAny_37 (gR_mono (fun x1 H => ?_) H)
    refine T_lload_n (pc := 40) dX6_writeAny_40 rfl rfl ?_
    refine T_lconst (pc := 41) (v := 0) dX6_writeAny_41 (by decide) ?_
    refine T_lcmp (pc := 42) dX6_writeAny_42 ?_
    refine T_if_eq (pc := 43) (tgt := 51) dX6_writeAny_43 (by decide) (fun hc => ?_) (fun hc => ?_)
    · rw [if_pos hc] at H
      refine T_bipush (pc := 51) (v := 102) dX6_writeAny_51 (by decide) ?_
      obtain ⟨H0, H⟩ := H
      refine T_iV (pc := 53) (ci := 7) (av := [jI 102]) (rest := []) (o := x1) dX6_writeAny_53 mf_X8_addSign c_4_125 c_4_126 c_4_127 rfl rfl (Nat.le_of_ble_eq_true rfl) rfl H0 (iV_k (iV_m0 (fun h H => ?_) (J_X8_addSign (d := (d + 1)) H)))
      refine T_goto (pc := 56) (tgt := 97) dX6_writeAny_56 (by decide) ?_
      exact T_return (pc := 97) rfl dX6_writeAny_97 H
    · rw [if_neg hc] at H
      refine T_bipush (pc := 46) (v := 116) dX6_writeAny_46 (by decide) ?_
      refine T_goto (pc := 48) (tgt := 53) dX6_writeAny_48 (by decide) ?_
      obtain ⟨H0, H⟩ := H
      refine T_iV (pc := 53) (ci := 7) (av := [jI 116]) (rest := []) (o := x1) dX6_writeAny_53 mf_X8_addSign c_4_125 c_4_126 c_4_127 rfl rfl (Nat.le_of_ble_eq_true rfl) rfl H0 (iV_k (iV_m0 (fun h H => ?_) (J_X8_addSign (d := (d + 1)) H)))
      refine T_goto (pc := 56) (tgt := 97) dX6_writeAny_56 (by decide) ?_
      exact T_return (pc := 97) rfl dX6_writeAny_97 H
  rw [if_neg h0] at H
  by_cases h1 : v1 = 8
  · rw [if_pos h1] at H
    refine T_lookup (pc := 1) (off := 58) (tgt := 59) dX6_writeAny_1 (by decide) (by rw [h1]; decide) (by decide) ?_
    refine T_aload_n (pc := 59) dX6_writeAny_59 rfl rfl ?_
    refine T_aload_n (pc := 60) dX6_writeAny_60 rfl rfl ?_
    refine T_gR (pc := 61) fa_X6_7 dX6_writeAny_61 (gR_mono (fun x4 H => ?_) H)
    refine T_lload_n (pc := 64) dX6_writeAny_64 rfl rfl ?_
    obtain ⟨H0, H⟩ := H
    refine T_iV (pc := 65) (ci := 6) (av := [jL v2]) (rest := [jR v0]) (o := x4) dX6_writeAny_65 mf_X7_findValue c_4_144 c_2_64 c_2_65 rfl rfl (Nat.le_of_ble_eq_true rfl) rfl H0 (iR_k (iR_m0 (fun x5 h H => ?_) (J_X7_findValue (d := (d + 1)) H)))
    obtain ⟨H0, H⟩ := H
    refine T_iV (pc := 68) (ci := 5) (av := [jR x5]) (rest := []) (o := v0) dX6_writeAny_68 mf_X6_writeValue c_4_121 c_4_123 pr_X6_writeValue rfl rfl (Nat.le_of_ble_eq_true rfl) rfl H0 (iV_k (iV_mono (fun h u H => ?_) H))
    refine T_goto (pc := 71) (tgt := 97) dX6_writeAny_71 (by decide) ?_
    exact T_return (pc := 97) rfl dX6_writeAny_97 H
  rw [if_neg h1] at H
  by_cases h2 : v1 = 9
  · rw [if_pos h2] at H
    refine T_lookup (pc := 1) (off := 73) (tgt := 74) dX6_writeAny_1 (by decide) (by rw [h2]; decide) (by decide) ?_
    refine T_aload_n (pc := 74) dX6_writeAny_74 rfl rfl ?_
    refine T_aload_n (pc := 75) dX6_writeAny_75 rfl rfl ?_
    refine T_gR (pc := 76) fa_X6_7 dX6_writeAny_76 (gR_mono (fun x7 H => ?_) H)
    refine T_lload_n (pc := 79) dX6_writeAny_79 rfl rfl ?_
    obtain ⟨H0, H⟩ := H
    refine T_iV (pc := 80) (ci := 6) (av := [jL v2]) (rest := [jR v0]) (o := x7) dX6_writeAny_80 mf_X7_findRow c_4_145 c_2_2 c_2_3 rfl rfl (Nat.le_of_ble_eq_true rfl) rfl H0 (iR_k (iR_m0 (fun x8 h H => ?_) (J_X7_findRow (d := (d + 1)) H)))
    obtain ⟨H0, H⟩ := H
    refine T_iV (pc := 83) (ci := 5) (av := [jR x8]) (rest := []) (o := v0) dX6_writeAny_83 mf_X6_writeRow c_4_146 c_4_148 pr_X6_writeRow rfl rfl (Nat.le_of_ble_eq_true rfl) rfl H0 (iV_k (iV_mono (fun h u H => ?_) H))
    refine T_goto (pc := 86) (tgt := 97) dX6_writeAny_86 (by decide) ?_
    exact T_return (pc := 97) rfl dX6_writeAny_97 H
  rw [if_neg h2] at H
  have e0 : ¬ ((0 : Int) = (v1 : Int32).toInt) := fun q => h0 (Int32.toInt_inj.mp (q.symm.trans (by decide)))
  have e1 : ¬ ((8 : Int) = (v1 : Int32).toInt) := fun q => h1 (Int32.toInt_inj.mp (q.symm.trans (by decide)))
  have e2 : ¬ ((9 : Int) = (v1 : Int32).toInt) := fun q => h2 (Int32.toInt_inj.mp (q.symm.trans (by decide)))
  refine T_lookup (pc := 1) (off := 88) (tgt := 89) dX6_writeAny_1 (by decide) (by simp [Op.lookupswitch.offset, e0, e1, e2, Ne.symm e0, Ne.symm e1, Ne.symm e2]) (by decide) ?_
  refine T_aload_n (pc := 89) dX6_writeAny_89 rfl rfl ?_
  refine T_gR (pc := 90) fa_X6_20 dX6_writeAny_90 (gR_mono (fun x10 H => ?_) H)
  refine T_lload_n (pc := 93) dX6_writeAny_93 rfl rfl ?_
  obtain ⟨H0, H⟩ := H
  refine T_iV (pc := 94) (ci := 7) (av := [jL v2]) (rest := []) (o := x10) dX6_writeAny_94 mf_X8_addNumber c_4_129 c_4_130 c_4_131 rfl rfl (Nat.le_of_ble_eq_true rfl) rfl H0 (iV_k (iV_m0 (fun h H => ?_) (J_X8_addNumber (d := d) H)))
  exact T_return (pc := 97) rfl dX6_writeAny_97 H
theorem I_X6_writeAny {d : Nat} {v0 : Option Nm} {v1 : Int32} {v2 : Int64} {h : MH} {u : Nat} {K : MH → Nat → Prop} (u1 : Nat) (hu : u1 ≤ u) (H : F_X6_writeAny d v0 v1 v2 h u1 (fun h2 => K h2 (u - u1))) : iV (d + 2) u_X6_writeAny [jR v0, jI v1, jL v2] h u K := inv.of u1 hu (Ct.of (by decide +kernel) rfl (Nat.le_of_ble_eq_true rfl) rfl (E_X6_writeAny H))
theorem dX6_writeRecord_0 : decode cX6_writeRecord 0 = .ok (.aload_n 0, 1) := by decide +kernel
theorem dX6_writeRecord_1 : decode cX6_writeRecord 1 = .ok (.getfield 20, 3) := by decide +kernel
theorem dX6_writeRecord_4 : decode cX6_writeRecord 4 = .ok (.aload_n 1, 1) := by decide +kernel
theorem dX6_writeRecord_5 : decode cX6_writeRecord 5 = .ok (.getfield 38, 3) := by decide +kernel
theorem dX6_writeRecord_8 : decode cX6_writeRecord 8 = .ok (.getfield 60, 3) := by decide +kernel
theorem dX6_writeRecord_11 : decode cX6_writeRecord 11 = .ok (.i2l, 1) := by decide +kernel
theorem dX6_writeRecord_12 : decode cX6_writeRecord 12 = .ok (.invokevirtual 53, 3) := by decide +kernel
theorem dX6_writeRecord_15 : decode cX6_writeRecord 15 = .ok (.aload_n 0, 1) := by decide +kernel
theorem dX6_writeRecord_16 : decode cX6_writeRecord 16 = .ok (.getfield 20, 3) := by decide +kernel
theorem dX6_writeRecord_19 : decode cX6_writeRecord 19 = .ok (.bipush 40, 2) := by decide +kernel
theorem dX6_writeRecord_21 : decode cX6_writeRecord 21 = .ok (.invokevirtual 34, 3) := by decide +kernel
theorem dX6_writeRecord_24 : decode cX6_writeRecord 24 = .ok (.iconst 0, 1) := by decide +kernel
theorem dX6_writeRecord_25 : decode cX6_writeRecord 25 = .ok (.istore_n 2, 1) := by decide +kernel
theorem dX6_writeRecord_26 : decode cX6_writeRecord 26 = .ok (.iload_n 2, 1) := by decide +kernel
theorem dX6_writeRecord_27 : decode cX6_writeRecord 27 = .ok (.aload_n 1, 1) := by decide +kernel
theorem dX6_writeRecord_28 : decode cX6_writeRecord 28 = .ok (.getfield 63, 3) := by decide +kernel
theorem dX6_writeRecord_31 : decode cX6_writeRecord 31 = .ok (.arraylength, 1) := by decide +kernel
theorem dX6_writeRecord_32 : decode cX6_writeRecord 32 = .ok (.if_icmp .ge 77, 3) := by decide +kernel
theorem dX6_writeRecord_35 : decode cX6_writeRecord 35 = .ok (.aload_n 0, 1) := by decide +kernel
theorem dX6_writeRecord_36 : decode cX6_writeRecord 36 = .ok (.getfield 20, 3) := by decide +kernel
theorem dX6_writeRecord_39 : decode cX6_writeRecord 39 = .ok (.getfield 30, 3) := by decide +kernel
theorem dX6_writeRecord_42 : decode cX6_writeRecord 42 = .ok (.ifCond .ne 67, 3) := by decide +kernel
theorem dX6_writeRecord_45 : decode cX6_writeRecord 45 = .ok (.iload_n 2, 1) := by decide +kernel
theorem dX6_writeRecord_46 : decode cX6_writeRecord 46 = .ok (.ifCond .le 12, 3) := by decide +kernel
theorem dX6_writeRecord_49 : decode cX6_writeRecord 49 = .ok (.aload_n 0, 1) := by decide +kernel
theorem dX6_writeRecord_50 : decode cX6_writeRecord 50 = .ok (.getfield 20, 3) := by decide +kernel
theorem dX6_writeRecord_53 : decode cX6_writeRecord 53 = .ok (.bipush 44, 2) := by decide +kernel
theorem dX6_writeRecord_55 : decode cX6_writeRecord 55 = .ok (.invokevirtual 34, 3) := by decide +kernel
theorem dX6_writeRecord_58 : decode cX6_writeRecord 58 = .ok (.aload_n 0, 1) := by decide +kernel
theorem dX6_writeRecord_59 : decode cX6_writeRecord 59 = .ok (.getfield 20, 3) := by decide +kernel
theorem dX6_writeRecord_62 : decode cX6_writeRecord 62 = .ok (.aload_n 1, 1) := by decide +kernel
theorem dX6_writeRecord_63 : decode cX6_writeRecord 63 = .ok (.getfield 67, 3) := by decide +kernel
theorem dX6_writeRecord_66 : decode cX6_writeRecord 66 = .ok (.getfield 71, 3) := by decide +kernel
theorem dX6_writeRecord_69 : decode cX6_writeRecord 69 = .ok (.iload_n 2, 1) := by decide +kernel
theorem dX6_writeRecord_70 : decode cX6_writeRecord 70 = .ok (.iaload, 1) := by decide +kernel
theorem dX6_writeRecord_71 : decode cX6_writeRecord 71 = .ok (.i2l, 1) := by decide +kernel
theorem dX6_writeRecord_72 : decode cX6_writeRecord 72 = .ok (.invokevirtual 53, 3) := by decide +kernel
theorem dX6_writeRecord_75 : decode cX6_writeRecord 75 = .ok (.aload_n 0, 1) := by decide +kernel
theorem dX6_writeRecord_76 : decode cX6_writeRecord 76 = .ok (.getfield 20, 3) := by decide +kernel
theorem dX6_writeRecord_79 : decode cX6_writeRecord 79 = .ok (.bipush 61, 2) := by decide +kernel
theorem dX6_writeRecord_81 : decode cX6_writeRecord 81 = .ok (.invokevirtual 34, 3) := by decide +kernel
theorem dX6_writeRecord_84 : decode cX6_writeRecord 84 = .ok (.aload_n 0, 1) := by decide +kernel
theorem dX6_writeRecord_85 : decode cX6_writeRecord 85 = .ok (.aload_n 1, 1) := by decide +kernel
theorem dX6_writeRecord_86 : decode cX6_writeRecord 86 = .ok (.getfield 67, 3) := by decide +kernel
theorem dX6_writeRecord_89 : decode cX6_writeRecord 89 = .ok (.getfield 77, 3) := by decide +kernel
theorem dX6_writeRecord_92 : decode cX6_writeRecord 92 = .ok (.iload_n 2, 1) := by decide +kernel
theorem dX6_writeRecord_93 : decode cX6_writeRecord 93 = .ok (.iaload, 1) := by decide +kernel
theorem dX6_writeRecord_94 : decode cX6_writeRecord 94 = .ok (.aload_n 1, 1) := by decide +kernel
theorem dX6_writeRecord_95 : decode cX6_writeRecord 95 = .ok (.getfield 63, 3) := by decide +kernel
theorem dX6_writeRecord_98 : decode cX6_writeRecord 98 = .ok (.iload_n 2, 1) := by decide +kernel
theorem dX6_writeRecord_99 : decode cX6_writeRecord 99 = .ok (.laload, 1) := by decide +kernel
theorem dX6_writeRecord_100 : decode cX6_writeRecord 100 = .ok (.invokevirtual 80, 3) := by decide +kernel
theorem dX6_writeRecord_103 : decode cX6_writeRecord 103 = .ok (.iinc 2 1, 3) := by decide +kernel
theorem dX6_writeRecord_106 : decode cX6_writeRecord 106 = .ok (.goto (-80), 3) := by decide +kernel
theorem dX6_writeRecord_109 : decode cX6_writeRecord 109 = .ok (.aload_n 0, 1) := by decide +kernel
theorem dX6_writeRecord_110 : decode cX6_writeRecord 110 = .ok (.getfield 20, 3) := by decide +kernel
theorem dX6_writeRecord_113 : decode cX6_writeRecord 113 = .ok (.bipush 41, 2) := by decide +kernel
theorem dX6_writeRecord_115 : decode cX6_writeRecord 115 = .ok (.invokevirtual 34, 3) := by decide +kernel
theorem dX6_writeRecord_118 : decode cX6_writeRecord 118 = .ok (.return_, 1) := by decide +kernel
def L_X6_writeRecord_26 (d : Nat) (v0 : Option Nm) (v1 : Option Nm) (v2 : Int32) (h : MH) (u : Nat) (Q : MH → Prop) : Prop := T u_X6_writeRecord (d + 2) 26 [some (jR v0), some (jR v1), some (jI v2)] [] h u (qV Q)
def F_X6_writeRecord (d : Nat) (v0 : Option Nm) (v1 : Option Nm) (h : MH) (u : Nat) (Q : MH → Prop) : Prop :=
  gR h v0 5 2 fun x1 =>
  gR h v1 9 1 fun x2 =>
  gI h x2 3 0 fun x3 =>
  rc h x1 7 ∧ F_X8_addNumber d x1 (x3.toInt64) h 0 fun h =>
  gR h v0 5 2 fun x5 =>
  rc h x5 7 ∧ F_X8_addSign (d + 1) x5 40 h 0 fun h =>
  L_X6_writeRecord_26 d v0 v1 0 h u Q
set_option maxRecDepth 20000 in
theorem E_X6_writeRecord {d : Nat} {v0 : Option Nm} {v1 : Option Nm} {h : MH} {u : Nat} {Q : MH → Prop} (H : F_X6_writeRecord d v0 v1 h u Q) : T u_X6_writeRecord (d + 2) 0 [some (jR v0), some (jR v1), none] [] h u (qV Q) := by
  unfold F_X6_writeRecord at H
  refine T_aload_n (pc := 0) dX6_writeRecord_0 rfl rfl ?_
  refine T_gR (pc := 1) fa_X6_20 dX6_writeRecord_1 (gR_mono (fun x1 H => ?_) H)
  refine T_aload_n (pc := 4) dX6_writeRecord_4 rfl rfl ?_
  refine T_gR (pc := 5) fa_X6_38 dX6_writeRecord_5 (gR_mono (fun x2 H => ?_) H)
  refine T_gI (pc := 8) fa_X6_60 dX6_writeRecord_8 (gI_mono (fun x3 H => ?_) H)
  refine T_i2l (pc := 11) dX6_writeRecord_11 ?_
  obtain ⟨H0, H⟩ := H
  refine T_iV (pc := 12) (ci := 7) (av := [jL (x3.toInt64)]) (rest := []) (o := x1) dX6_writeRecord_12 mf_X8_addNumber c_4_129 c_4_130 c_4_131 rfl rfl (Nat.le_of_ble_eq_true rfl) rfl H0 (iV_k (iV_m0 (fun h H => ?_) (J_X8_addNumber (d := d) H)))
  refine T_aload_n (pc := 15) dX6_writeRecord_15 rfl rfl ?_
  refine T_gR (pc := 16) fa_X6_20 dX6_writeRecord_16 (gR_mono (fun x5 H => ?_) H)
  refine T_bipush (pc := 19) (v := 40) dX6_writeRecord_19 (by decide) ?_
  obtain ⟨H0, H⟩ := H
  refine T_iV (pc := 21) (ci := 7) (av := [jI 40]) (rest := []) (o := x5) dX6_writeRecord_21 mf_X8_addSign c_4_125 c_4_126 c_4_127 rfl rfl (Nat.le_of_ble_eq_true rfl) rfl H0 (iV_k (iV_m0 (fun h H => ?_) (J_X8_addSign (d := (d + 1)) H)))
  refine T_iconst (pc := 24) (v := 0) dX6_writeRecord_24 (by decide) ?_
  refine T_istore_n (pc := 25) (ls2 := [some (jR v0), some (jR v1), some (jI 0)]) dX6_writeRecord_25 rfl (Nat.le_of_ble_eq_true rfl) rfl ?_
  exact T.forget H ⟨rfl, rfl, rfl, trivial⟩
def F_X6_writeRecord_58 (d : Nat) (v0 : Option Nm) (v1 : Option Nm) (v2 : Int32) (h : MH) (u : Nat) (Q : MH → Prop) : Prop :=
  gR h v0 5 2 fun x1 =>
  gR h v1 9 2 fun x2 =>
  gR h x2 2 1 fun x3 =>
  aI .int h x3 v2 fun x4 =>
  rc h x1 7 ∧ F_X8_addNumber d x1 (x4.toInt64) h 0 fun h =>
  gR h v0 5 2 fun x6 =>
  rc h x6 7 ∧ F_X8_addSign (d + 1) x6 61 h 0 fun h =>
  gR h v1 9 2 fun x8 =>
  gR h x8 2 2 fun x9 =>
  aI .int h x9 v2 fun x10 =>
  gR h v1 9 5 fun x11 =>
  aL h x11 v2 fun x12 =>
  rc h v0 5 ∧ iV (d + 1) u_X6_writeAny [jR v0, jI x10, jL x12] h u fun h u =>
  L_X6_writeRecord_26 d v0 v1 (v2 + 1) h u Q
set_option maxRecDepth 20000 in
theorem E_X6_writeRecord_58 {d : Nat} {v0 : Option Nm} {v1 : Option Nm} {v2 : Int32} {h : MH} {u : Nat} {Q : MH → Prop} (H : F_X6_writeRecord_58 d v0 v1 v2 h u Q) : T u_X6_writeRecord (d + 2) 58 [some (jR v0), some (jR v1), some (jI v2)] [] h u (qV Q) := by
  unfold F_X6_writeRecord_58 at H
  refine T_aload_n (pc := 58) dX6_writeRecord_58 rfl rfl ?_
  refine T_gR (pc := 59) fa_X6_20 dX6_writeRecord_59 (gR_mono (fun x1 H => ?_) H)
  refine T_aload_n (pc := 62) dX6_writeRecord_62 rfl rfl ?_
  refine T_gR (pc := 63) fa_X6_67 dX6_writeRecord_63 (gR_mono (fun x2 H => ?_) H)
  refine T_gR (pc := 66) fa_X6_71 dX6_writeRecord_66 (gR_mono (fun x3 H => ?_) H)
  refine T_iload_n (pc := 69) dX6_writeRecord_69 rfl rfl ?_
  refine T_aI (pc := 70) dX6_writeRecord_70 (aI_mono (fun x4 H => ?_) H)
  refine T_i2l (pc := 71) dX6_writeRecord_71 ?_
  obtain ⟨H0, H⟩ := H
  refine T_iV (pc := 72) (ci := 7) (av := [jL (x4.toInt64)]) (rest := []) (o := x1) dX6_writeRecord_72 mf_X8_addNumber c_4_129 c_4_130 c_4_131 rfl rfl (Nat.le_of_ble_eq_true rfl) rfl H0 (iV_k (iV_m0 (fun h H => ?_) (J_X8_addNumber (d := d) H)))
  refine T_aload_n (pc := 75) dX6_writeRecord_75 rfl rfl ?_
  refine T_gR (pc := 76) fa_X6_20 dX6_writeRecord_76 (gR_mono (fun x6 H => ?_) H)
  refine T_bipush (pc := 79) (v := 61) dX6_writeRecord_79 (by decide) ?_
  obtain ⟨H0, H⟩ := H
  refine T_iV (pc := 81) (ci := 7) (av := [jI 61]) (rest := []) (o := x6) dX6_writeRecord_81 mf_X8_addSign c_4_125 c_4_126 c_4_127 rfl rfl (Nat.le_of_ble_eq_true rfl) rfl H0 (iV_k (iV_m0 (fun h H => ?_) (J_X8_addSign (d := (d + 1)) H)))
  refine T_aload_n (pc := 84) dX6_writeRecord_84 rfl rfl ?_
  refine T_aload_n (pc := 85) dX6_writeRecord_85 rfl rfl ?_
  refine T_gR (pc := 86) fa_X6_67 dX6_writeRecord_86 (gR_mono (fun x8 H => ?_) H)
  refine T_gR (pc := 89) fa_X6_77 dX6_writeRecord_89 (gR_mono (fun x9 H => ?_) H)
  refine T_iload_n (pc := 92) dX6_writeRecord_92 rfl rfl ?_
  refine T_aI (pc := 93) dX6_writeRecord_93 (aI_mono (fun x10 H => ?_) H)
  refine T_aload_n (pc := 94) dX6_writeRecord_94 rfl rfl ?_
  refine T_gR (pc := 95) fa_X6_63 dX6_writeRecord_95 (gR_mono (fun x11 H => ?_) H)
  refine T_iload_n (pc := 98) dX6_writeRecord_98 rfl rfl ?_
  refine T_aL (pc := 99) dX6_writeRecord_99 (aL_mono (fun x12 H => ?_) H)
  obtain ⟨H0, H⟩ := H
  refine T_iV (pc := 100) (ci := 5) (av := [jI x10, jL x12]) (rest := []) (o := v0) dX6_writeRecord_100 mf_X6_writeAny c_4_140 c_4_142 pr_X6_writeAny rfl rfl (Nat.le_of_ble_eq_true rfl) rfl H0 (iV_k (iV_mono (fun h u H => ?_) H))
  refine T_iinc (pc := 103) (v := v2 + 1) (ls2 := [some (jR v0), some (jR v1), some (jI (v2 + 1))]) dX6_writeRecord_103 rfl rfl (Nat.le_of_ble_eq_true rfl) rfl ?_
  refine T_goto (pc := 106) (tgt := 26) dX6_writeRecord_106 (by decide) ?_
  exact T.forget H ⟨rfl, rfl, rfl, trivial⟩
def F_X6_writeRecord_109 (d : Nat) (v0 : Option Nm) (h : MH) (u : Nat) (Q : MH → Prop) : Prop :=
  gR h v0 5 2 fun x1 =>
  rc h x1 7 ∧ F_X8_addSign (d + 1) x1 41 h 0 fun h =>
  Q h
set_option maxRecDepth 20000 in
theorem E_X6_writeRecord_109 {d : Nat} {v0 : Option Nm} {h : MH} {u : Nat} {Q : MH → Prop} (H : F_X6_writeRecord_109 d v0 h u Q) : T u_X6_writeRecord (d + 2) 109 [some (jR v0), none, none] [] h u (qV Q) := by
  unfold F_X6_writeRecord_109 at H
  refine T_aload_n (pc := 109) dX6_writeRecord_109 rfl rfl ?_
  refine T_gR (pc := 110) fa_X6_20 dX6_writeRecord_110 (gR_mono (fun x1 H => ?_) H)
  refine T_bipush (pc := 113) (v := 41) dX6_writeRecord_113 (by decide) ?_
  obtain ⟨H0, H⟩ := H
  refine T_iV (pc := 115) (ci := 7) (av := [jI 41]) (rest := []) (o := x1) dX6_writeRecord_115 mf_X8_addSign c_4_125 c_4_126 c_4_127 rfl rfl (Nat.le_of_ble_eq_true rfl) rfl H0 (iV_k (iV_m0 (fun h H => ?_) (J_X8_addSign (d := (d + 1)) H)))
  exact T_return (pc := 118) rfl dX6_writeRecord_118 H
def F_X6_writeRecord_26 (d : Nat) (v0 : Option Nm) (v1 : Option Nm) (v2 : Int32) (h : MH) (u : Nat) (Q : MH → Prop) : Prop :=
  gR h v1 9 5 fun x1 =>
  aN h x1 fun x2 =>
  if x2 ≤ v2 then
    F_X6_writeRecord_109 d v0 h u Q
  else
    gR h v0 5 2 fun x3 =>
    gI h x3 7 3 fun x4 =>
    if x4 = 0 then
      if v2 ≤ 0 then
        F_X6_writeRecord_58 d v0 v1 v2 h u Q
      else
        gR h v0 5 2 fun x5 =>
        rc h x5 7 ∧ F_X8_addSign (d + 1) x5 44 h 0 fun h =>
        F_X6_writeRecord_58 d v0 v1 v2 h u Q
    else
      F_X6_writeRecord_109 d v0 h u Q
set_option maxRecDepth 20000 in
theorem E_X6_writeRecord_26 {d : Nat} {v0 : Option Nm} {v1 : Option Nm} {v2 : Int32} {h : MH} {u : Nat} {Q : MH → Prop} (H : F_X6_writeRecord_26 d v0 v1 v2 h u Q) : T u_X6_writeRecord (d + 2) 26 [some (jR v0), some (jR v1), some (jI v2)] [] h u (qV Q) := by
  unfold F_X6_writeRecord_26 at H
  refine T_iload_n (pc := 26) dX6_writeRecord_26 rfl rfl ?_
  refine T_aload_n (pc := 27) dX6_writeRecord_27 rfl rfl ?_
  refine T_gR (pc := 28) fa_X6_63 dX6_writeRecord_28 (gR_mono (fun x1 H => ?_) H)
  refine T_aN (pc := 31) dX6_writeRecord_31 (aN_mono (fun x2 H => ?_) H)
  refine T_icmp_ge (pc := 32) (tgt := 109) dX6_writeRecord_32 (by decide) (fun hc => ?_) (fun hc => ?_)
  · rw [if_pos hc] at H
    exact T.forget (E_X6_writeRecord_109 H) ⟨rfl, trivial⟩
  · rw [if_neg hc] at H
    refine T_aload_n (pc := 35) dX6_writeRecord_35 rfl rfl ?_
    refine T_gR (pc := 36) fa_X6_20 dX6_writeRecord_36 (gR_mono (fun x3 H => ?_) H)
    refine T_gI (pc := 39) fa_X6_30 dX6_writeRecord_39 (gI_mono (fun x4 H => ?_) H)
    refine T_if_ne (pc := 42) (tgt := 109) dX6_writeRecord_42 (by decide) (fun hc => ?_) (fun hc => ?_)
    · rw [if_neg hc] at H
      exact T.forget (E_X6_writeRecord_109 H) ⟨rfl, trivial⟩
    · rw [if_pos hc] at H
      refine T_iload_n (pc := 45) dX6_writeRecord_45 rfl rfl ?_
      refine T_if_le (pc := 46) (tgt := 58) dX6_writeRecord_46 (by decide) (fun hc => ?_) (fun hc => ?_)
      · rw [if_pos hc] at H
        exact T.forget (E_X6_writeRecord_58 H) ⟨rfl, rfl, rfl, trivial⟩
      · rw [if_neg hc] at H
        refine T_aload_n (pc := 49) dX6_writeRecord_49 rfl rfl ?_
        refine T_gR (pc := 50) fa_X6_20 dX6_writeRecord_50 (gR_mono (fun x5 H => ?_) H)
        refine T_bipush (pc := 53) (v := 44) dX6_writeRecord_53 (by decide) ?_
        obtain ⟨H0, H⟩ := H
        refine T_iV (pc := 55) (ci := 7) (av := [jI 44]) (rest := []) (o := x5) dX6_writeRecord_55 mf_X8_addSign c_4_125 c_4_126 c_4_127 rfl rfl (Nat.le_of_ble_eq_true rfl) rfl H0 (iV_k (iV_m0 (fun h H => ?_) (J_X8_addSign (d := (d + 1)) H)))
        exact T.forget (E_X6_writeRecord_58 H) ⟨rfl, rfl, rfl, trivial⟩
theorem I_X6_writeRecord {d : Nat} {v0 : Option Nm} {v1 : Option Nm} {h : MH} {u : Nat} {K : MH → Nat → Prop} (u1 : Nat) (hu : u1 ≤ u) (H : F_X6_writeRecord d v0 v1 h u1 (fun h2 => K h2 (u - u1))) : iV (d + 2) u_X6_writeRecord [jR v0, jR v1] h u K := inv.of u1 hu (Ct.of (by decide +kernel) rfl (Nat.le_of_ble_eq_true rfl) rfl (E_X6_writeRecord H))
theorem dX6_writeRow_0 : decode cX6_writeRow 0 = .ok (.aload_n 1, 1) := by decide +kernel
theorem dX6_writeRow_1 : decode cX6_writeRow 1 = .ok (.ifnonnull 13, 3) := by decide +kernel
theorem dX6_writeRow_4 : decode cX6_writeRow 4 = .ok (.aload_n 0, 1) := by decide +kernel
theorem dX6_writeRow_5 : decode cX6_writeRow 5 = .ok (.getfield 20, 3) := by decide +kernel
theorem dX6_writeRow_8 : decode cX6_writeRow 8 = .ok (.bipush 33, 2) := by decide +kernel
theorem dX6_writeRow_10 : decode cX6_writeRow 10 = .ok (.invokevirtual 34, 3) := by decide +kernel
theorem dX6_writeRow_13 : decode cX6_writeRow 13 = .ok (.return_, 1) := by decide +kernel
theorem dX6_writeRow_14 : decode cX6_writeRow 14 = .ok (.aload_n 0, 1) := by decide +kernel
theorem dX6_writeRow_15 : decode cX6_writeRow 15 = .ok (.getfield 20, 3) := by decide +kernel
theorem dX6_writeRow_18 : decode cX6_writeRow 18 = .ok (.bipush 91, 2) := by decide +kernel
theorem dX6_writeRow_20 : decode cX6_writeRow 20 = .ok (.invokevirtual 34, 3) := by decide +kernel
theorem dX6_writeRow_23 : decode cX6_writeRow 23 = .ok (.iconst 0, 1) := by decide +kernel
theorem dX6_writeRow_24 : decode cX6_writeRow 24 = .ok (.istore_n 2, 1) := by decide +kernel
theorem dX6_writeRow_25 : decode cX6_writeRow 25 = .ok (.iload_n 2, 1) := by decide +kernel
theorem dX6_writeRow_26 : decode cX6_writeRow 26 = .ok (.aload_n 1, 1) := by decide +kernel
theorem dX6_writeRow_27 : decode cX6_writeRow 27 = .ok (.getfield 98, 3) := by decide +kernel
theorem dX6_writeRow_30 : decode cX6_writeRow 30 = .ok (.arraylength, 1) := by decide +kernel
theorem dX6_writeRow_31 : decode cX6_writeRow 31 = .ok (.if_icmp .ge 46, 3) := by decide +kernel
theorem dX6_writeRow_34 : decode cX6_writeRow 34 = .ok (.aload_n 0, 1) := by decide +kernel
theorem dX6_writeRow_35 : decode cX6_writeRow 35 = .ok (.getfield 20, 3) := by decide +kernel
theorem dX6_writeRow_38 : decode cX6_writeRow 38 = .ok (.getfield 30, 3) := by decide +kernel
theorem dX6_writeRow_41 : decode cX6_writeRow 41 = .ok (.ifCond .ne 36, 3) := by decide +kernel
theorem dX6_writeRow_44 : decode cX6_writeRow 44 = .ok (.iload_n 2, 1) := by decide +kernel
theorem dX6_writeRow_45 : decode cX6_writeRow 45 = .ok (.ifCond .le 12, 3) := by decide +kernel
theorem dX6_writeRow_48 : decode cX6_writeRow 48 = .ok (.aload_n 0, 1) := by decide +kernel
theorem dX6_writeRow_49 : decode cX6_writeRow 49 = .ok (.getfield 20, 3) := by decide +kernel
theorem dX6_writeRow_52 : decode cX6_writeRow 52 = .ok (.bipush 32, 2) := by decide +kernel
theorem dX6_writeRow_54 : decode cX6_writeRow 54 = .ok (.invokevirtual 34, 3) := by decide +kernel
theorem dX6_writeRow_57 : decode cX6_writeRow 57 = .ok (.aload_n 0, 1) := by decide +kernel
theorem dX6_writeRow_58 : decode cX6_writeRow 58 = .ok (.aload_n 1, 1) := by decide +kernel
theorem dX6_writeRow_59 : decode cX6_writeRow 59 = .ok (.getfield 103, 3) := by decide +kernel
theorem dX6_writeRow_62 : decode cX6_writeRow 62 = .ok (.aload_n 1, 1) := by decide +kernel
theorem dX6_writeRow_63 : decode cX6_writeRow 63 = .ok (.getfield 98, 3) := by decide +kernel
theorem dX6_writeRow_66 : decode cX6_writeRow 66 = .ok (.iload_n 2, 1) := by decide +kernel
theorem dX6_writeRow_67 : decode cX6_writeRow 67 = .ok (.laload, 1) := by decide +kernel
theorem dX6_writeRow_68 : decode cX6_writeRow 68 = .ok (.invokevirtual 80, 3) := by decide +kernel
theorem dX6_writeRow_71 : decode cX6_writeRow 71 = .ok (.iinc 2 1, 3) := by decide +kernel
theorem dX6_writeRow_74 : decode cX6_writeRow 74 = .ok (.goto (-49), 3) := by decide +kernel
theorem dX6_writeRow_77 : decode cX6_writeRow 77 = .ok (.aload_n 0, 1) := by decide +kernel
theorem dX6_writeRow_78 : decode cX6_writeRow 78 = .ok (.getfield 20, 3) := by decide +kernel
theorem dX6_writeRow_81 : decode cX6_writeRow 81 = .ok (.bipush 93, 2) := by decide +kernel
theorem dX6_writeRow_83 : decode cX6_writeRow 83 = .ok (.invokevirtual 34, 3) := by decide +kernel
theorem dX6_writeRow_86 : decode cX6_writeRow 86 = .ok (.return_, 1) := by decide +kernel
def L_X6_writeRow_25 (d : Nat) (v0 : Option Nm) (v1 : Option Nm) (v2 : Int32) (h : MH) (u : Nat) (Q : MH → Prop) : Prop := T u_X6_writeRow (d + 1) 25 [some (jR v0), some (jR v1), some (jI v2)] [] h u (qV Q)
def F_X6_writeRow (d : Nat) (v0 : Option Nm) (v1 : Option Nm) (h : MH) (u : Nat) (Q : MH → Prop) : Prop :=
  nl v1 (
    gR h v0 5 2 fun x1 =>
    rc h x1 7 ∧ F_X8_addSign d x1 33 h 0 fun h =>
    Q h) (
    gR h v0 5 2 fun x3 =>
    rc h x3 7 ∧ F_X8_addSign d x3 91 h 0 fun h =>
    L_X6_writeRow_25 d v0 v1 0 h u Q)
set_option maxRecDepth 20000 in
theorem E_X6_writeRow {d : Nat} {v0 : Option Nm} {v1 : Option Nm} {h : MH} {u : Nat} {Q : MH → Prop} (H : F_X6_writeRow d v0 v1 h u Q) : T u_X6_writeRow (d + 1) 0 [some (jR v0), some (jR v1), none] [] h u (qV Q) := by
  unfold F_X6_writeRow at H
  refine T_aload_n (pc := 0) dX6_writeRow_0 rfl rfl ?_
  refine T_ifnonnull (pc := 1) (tgt := 14) dX6_writeRow_1 (by decide) (fun ho => ?_) (fun n ho => ?_)
  · replace H := nl_n ho H
    refine T_aload_n (pc := 4) dX6_writeRow_4 rfl rfl ?_
    refine T_gR (pc := 5) fa_X6_20 dX6_writeRow_5 (gR_mono (fun x1 H => ?_) H)
    refine T_bipush (pc := 8) (v := 33) dX6_writeRow_8 (by decide) ?_
    obtain ⟨H0, H⟩ := H
    refine T_iV (pc := 10) (ci := 7) (av := [jI 33]) (rest := []) (o := x1) dX6_writeRow_10 mf_X8_addSign c_4_125 c_4_126 c_4_127 rfl rfl (Nat.le_of_ble_eq_true rfl) rfl H0 (iV_k (iV_m0 (fun h H => ?_) (J_X8_addSign (d := d) H)))
    exact T_return (pc := 13) rfl dX6_writeRow_13 H
  · replace H := nl_s ho H
    refine T_aload_n (pc := 14) dX6_writeRow_14 rfl rfl ?_
    refine T_gR (pc := 15) fa_X6_20 dX6_writeRow_15 (gR_mono (fun x3 H => ?_) H)
    refine T_bipush (pc := 18) (v := 91) dX6_writeRow_18 (by decide) ?_
    obtain ⟨H0, H⟩ := H
    refine T_iV (pc := 20) (ci := 7) (av := [jI 91]) (rest := []) (o := x3) dX6_writeRow_20 mf_X8_addSign c_4_125 c_4_126 c_4_127 rfl rfl (Nat.le_of_ble_eq_true rfl) rfl H0 (iV_k (iV_m0 (fun h H => ?_) (J_X8_addSign (d := d) H)))
    refine T_iconst (pc := 23) (v := 0) dX6_writeRow_23 (by decide) ?_
    refine T_istore_n (pc := 24) (ls2 := [some (jR v0), some (jR v1), some (jI 0)]) dX6_writeRow_24 rfl (Nat.le_of_ble_eq_true rfl) rfl ?_
    exact T.forget H ⟨rfl, rfl, rfl, trivial⟩
def F_X6_writeRow_57 (d : Nat) (v0 : Option Nm) (v1 : Option Nm) (v2 : Int32) (h : MH) (u : Nat) (Q : MH → Prop) : Prop :=
  gI h v1 4 1 fun x1 =>
  gR h v1 4 2 fun x2 =>
  aL h x2 v2 fun x3 =>
  rc h v0 5 ∧ iV d u_X6_writeAny [jR v0, jI x1, jL x3] h u fun h u =>
  L_X6_writeRow_25 d v0 v1 (v2 + 1) h u Q
set_option maxRecDepth 20000 in
theorem E_X6_writeRow_57 {d : Nat} {v0 : Option Nm} {v1 : Option Nm} {v2 : Int32} {h : MH} {u : Nat} {Q : MH → Prop} (H : F_X6_writeRow_57 d v0 v1 v2 h u Q) : T u_X6_writeRow (d + 1) 57 [some (jR v0), some (jR v1), some (jI v2)] [] h u (qV Q) := by
  unfold F_X6_writeRow_57 at H
  refine T_aload_n (pc := 57) dX6_writeRow_57 rfl rfl ?_
  refine T_aload_n (pc := 58) dX6_writeRow_58 rfl rfl ?_
  refine T_gI (pc := 59) fa_X6_103 dX6_writeRow_59 (gI_mono (fun x1 H => ?_) H)
  refine T_aload_n (pc := 62) dX6_writeRow_62 rfl rfl ?_
  refine T_gR (pc := 63) fa_X6_98 dX6_writeRow_63 (gR_mono (fun x2 H => ?_) H)
  refine T_iload_n (pc := 66) dX6_writeRow_66 rfl rfl ?_
  refine T_aL (pc := 67) dX6_writeRow_67 (aL_mono (fun x3 H => ?_) H)
  obtain ⟨H0, H⟩ := H
  refine T_iV (pc := 68) (ci := 5) (av := [jI x1, jL x3]) (rest := []) (o := v0) dX6_writeRow_68 mf_X6_writeAny c_4_140 c_4_142 pr_X6_writeAny rfl rfl (Nat.le_of_ble_eq_true rfl) rfl H0 (iV_k (iV_mono (fun h u H => ?_) H))
  refine T_iinc (pc := 71) (v := v2 + 1) (ls2 := [some (jR v0), some (jR v1), some (jI (v2 + 1))]) dX6_writeRow_71 rfl rfl (Nat.le_of_ble_eq_true rfl) rfl ?_
  refine T_goto (pc := 74) (tgt := 25) dX6_writeRow_74 (by decide) ?_
  exact T.forget H ⟨rfl, rfl, rfl, trivial⟩
def F_X6_writeRow_77 (d : Nat) (v0 : Option Nm) (h : MH) (u : Nat) (Q : MH → Prop) : Prop :=
  gR h v0 5 2 fun x1 =>
  rc h x1 7 ∧ F_X8_addSign d x1 93 h 0 fun h =>
  Q h
set_option maxRecDepth 20000 in
theorem E_X6_writeRow_77 {d : Nat} {v0 : Option Nm} {h : MH} {u : Nat} {Q : MH → Prop} (H : F_X6_writeRow_77 d v0 h u Q) : T u_X6_writeRow (d + 1) 77 [some (jR v0), none, none] [] h u (qV Q) := by
  unfold F_X6_writeRow_77 at H
  refine T_aload_n (pc := 77) dX6_writeRow_77 rfl rfl ?_
  refine T_gR (pc := 78) fa_X6_20 dX6_writeRow_78 (gR_mono (fun x1 H => ?_) H)
  refine T_bipush (pc := 81) (v := 93) dX6_writeRow_81 (by decide) ?_
  obtain ⟨H0, H⟩ := H
  refine T_iV (pc := 83) (ci := 7) (av := [jI 93]) (rest := []) (o := x1) dX6_writeRow_83 mf_X8_addSign c_4_125 c_4_126 c_4_127 rfl rfl (Nat.le_of_ble_eq_true rfl) rfl H0 (iV_k (iV_m0 (fun h H => ?_) (J_X8_addSign (d := d) H)))
  exact T_return (pc := 86) rfl dX6_writeRow_86 H
def F_X6_writeRow_25 (d : Nat) (v0 : Option Nm) (v1 : Option Nm) (v2 : Int32) (h : MH) (u : Nat) (Q : MH → Prop) : Prop :=
  gR h v1 4 2 fun x1 =>
  aN h x1 fun x2 =>
  if x2 ≤ v2 then
    F_X6_writeRow_77 d v0 h u Q
  else
    gR h v0 5 2 fun x3 =>
    gI h x3 7 3 fun x4 =>
    if x4 = 0 then
      if v2 ≤ 0 then
        F_X6_writeRow_57 d v0 v1 v2 h u Q
      else
        gR h v0 5 2 fun x5 =>
        rc h x5 7 ∧ F_X8_addSign d x5 32 h 0 fun h =>
        F_X6_writeRow_57 d v0 v1 v2 h u Q
    else
      F_X6_writeRow_77 d v0 h u Q
set_option maxRecDepth 20000 in
theorem E_X6_writeRow_25 {d : Nat} {v0 : Option Nm} {v1 : Option Nm} {v2 : Int32} {h : MH} {u : Nat} {Q : MH → Prop} (H : F_X6_writeRow_25 d v0 v1 v2 h u Q) : T u_X6_writeRow (d + 1) 25 [some (jR v0), some (jR v1), some (jI v2)] [] h u (qV Q) := by
  unfold F_X6_writeRow_25 at H
  refine T_iload_n (pc := 25) dX6_writeRow_25 rfl rfl ?_
  refine T_aload_n (pc := 26) dX6_writeRow_26 rfl rfl ?_
  refine T_gR (pc := 27) fa_X6_98 dX6_writeRow_27 (gR_mono (fun x1 H => ?_) H)
  refine T_aN (pc := 30) dX6_writeRow_30 (aN_mono (fun x2 H => ?_) H)
  refine T_icmp_ge (pc := 31) (tgt := 77) dX6_writeRow_31 (by decide) (fun hc => ?_) (fun hc => ?_)
  · rw [if_pos hc] at H
    exact T.forget (E_X6_writeRow_77 H) ⟨rfl, trivial⟩
  · rw [if_neg hc] at H
    refine T_aload_n (pc := 34) dX6_writeRow_34 rfl rfl ?_
    refine T_gR (pc := 35) fa_X6_20 dX6_writeRow_35 (gR_mono (fun x3 H => ?_) H)
    refine T_gI (pc := 38) fa_X6_30 dX6_writeRow_38 (gI_mono (fun x4 H => ?_) H)
    refine T_if_ne (pc := 41) (tgt := 77) dX6_writeRow_41 (by decide) (fun hc => ?_) (fun hc => ?_)
    · rw [if_neg hc] at H
      exact T.forget (E_X6_writeRow_77 H) ⟨rfl, trivial⟩
    · rw [if_pos hc] at H
      refine T_iload_n (pc := 44) dX6_writeRow_44 rfl rfl ?_
      refine T_if_le (pc := 45) (tgt := 57) dX6_writeRow_45 (by decide) (fun hc => ?_) (fun hc => ?_)
      · rw [if_pos hc] at H
        exact T.forget (E_X6_writeRow_57 H) ⟨rfl, rfl, rfl, trivial⟩
      · rw [if_neg hc] at H
        refine T_aload_n (pc := 48) dX6_writeRow_48 rfl rfl ?_
        refine T_gR (pc := 49) fa_X6_20 dX6_writeRow_49 (gR_mono (fun x5 H => ?_) H)
        refine T_bipush (pc := 52) (v := 32) dX6_writeRow_52 (by decide) ?_
        obtain ⟨H0, H⟩ := H
        refine T_iV (pc := 54) (ci := 7) (av := [jI 32]) (rest := []) (o := x5) dX6_writeRow_54 mf_X8_addSign c_4_125 c_4_126 c_4_127 rfl rfl (Nat.le_of_ble_eq_true rfl) rfl H0 (iV_k (iV_m0 (fun h H => ?_) (J_X8_addSign (d := d) H)))
        exact T.forget (E_X6_writeRow_57 H) ⟨rfl, rfl, rfl, trivial⟩
theorem I_X6_writeRow {d : Nat} {v0 : Option Nm} {v1 : Option Nm} {h : MH} {u : Nat} {K : MH → Nat → Prop} (u1 : Nat) (hu : u1 ≤ u) (H : F_X6_writeRow d v0 v1 h u1 (fun h2 => K h2 (u - u1))) : iV (d + 1) u_X6_writeRow [jR v0, jR v1] h u K := inv.of u1 hu (Ct.of (by decide +kernel) rfl (Nat.le_of_ble_eq_true rfl) rfl (E_X6_writeRow H))
theorem dX6_writeValue_0 : decode cX6_writeValue 0 = .ok (.aload_n 1, 1) := by decide +kernel
theorem dX6_writeValue_1 : decode cX6_writeValue 1 = .ok (.ifnonnull 15, 3) := by decide +kernel
theorem dX6_writeValue_4 : decode cX6_writeValue 4 = .ok (.aload_n 0, 1) := by decide +kernel
theorem dX6_writeValue_5 : decode cX6_writeValue 5 = .ok (.getfield 20, 3) := by decide +kernel
theorem dX6_writeValue_8 : decode cX6_writeValue 8 = .ok (.bipush 33, 2) := by decide +kernel
theorem dX6_writeValue_10 : decode cX6_writeValue 10 = .ok (.invokevirtual 34, 3) := by decide +kernel
theorem dX6_writeValue_13 : decode cX6_writeValue 13 = .ok (.goto 42, 3) := by decide +kernel
theorem dX6_writeValue_16 : decode cX6_writeValue 16 = .ok (.aload_n 1, 1) := by decide +kernel
theorem dX6_writeValue_17 : decode cX6_writeValue 17 = .ok (.getfield 38, 3) := by decide +kernel
theorem dX6_writeValue_20 : decode cX6_writeValue 20 = .ok (.getfield 44, 3) := by decide +kernel
theorem dX6_writeValue_23 : decode cX6_writeValue 23 = .ok (.ifCond .eq 27, 3) := by decide +kernel
theorem dX6_writeValue_26 : decode cX6_writeValue 26 = .ok (.aload_n 0, 1) := by decide +kernel
theorem dX6_writeValue_27 : decode cX6_writeValue 27 = .ok (.getfield 20, 3) := by decide +kernel
theorem dX6_writeValue_30 : decode cX6_writeValue 30 = .ok (.bipush 35, 2) := by decide +kernel
theorem dX6_writeValue_32 : decode cX6_writeValue 32 = .ok (.invokevirtual 34, 3) := by decide +kernel
theorem dX6_writeValue_35 : decode cX6_writeValue 35 = .ok (.aload_n 0, 1) := by decide +kernel
theorem dX6_writeValue_36 : decode cX6_writeValue 36 = .ok (.getfield 20, 3) := by decide +kernel
theorem dX6_writeValue_39 : decode cX6_writeValue 39 = .ok (.aload_n 1, 1) := by decide +kernel
theorem dX6_writeValue_40 : decode cX6_writeValue 40 = .ok (.getfield 49, 3) := by decide +kernel
theorem dX6_writeValue_43 : decode cX6_writeValue 43 = .ok (.i2l, 1) := by decide +kernel
theorem dX6_writeValue_44 : decode cX6_writeValue 44 = .ok (.invokevirtual 53, 3) := by decide +kernel
theorem dX6_writeValue_47 : decode cX6_writeValue 47 = .ok (.goto 8, 3) := by decide +kernel
theorem dX6_writeValue_50 : decode cX6_writeValue 50 = .ok (.aload_n 0, 1) := by decide +kernel
theorem dX6_writeValue_51 : decode cX6_writeValue 51 = .ok (.aload_n 1, 1) := by decide +kernel
theorem dX6_writeValue_52 : decode cX6_writeValue 52 = .ok (.invokevirtual 57, 3) := by decide +kernel
theorem dX6_writeValue_55 : decode cX6_writeValue 55 = .ok (.return_, 1) := by decide +kernel
def F_X6_writeValue (d : Nat) (v0 : Option Nm) (v1 : Option Nm) (h : MH) (u : Nat) (Q : MH → Prop) : Prop :=
  nl v1 (
    gR h v0 5 2 fun x1 =>
    rc h x1 7 ∧ F_X8_addSign (d + 1) x1 33 h 0 fun h =>
    Q h) (
    gR h v1 9 1 fun x3 =>
    gI h x3 3 1 fun x4 =>
    if x4 = 0 then
      rc h v0 5 ∧ iV (d + 1) u_X6_writeRecord [jR v0, jR v1] h u fun h u =>
      Q h
    else
      gR h v0 5 2 fun x6 =>
      rc h x6 7 ∧ F_X8_addSign (d + 1) x6 35 h 0 fun h =>
      gR h v0 5 2 fun x8 =>
      gI h v1 9 4 fun x9 =>
      rc h x8 7 ∧ F_X8_addNumber d x8 (x9.toInt64) h 0 fun h =>
      Q h)
set_option maxRecDepth 20000 in
theorem E_X6_writeValue {d : Nat} {v0 : Option Nm} {v1 : Option Nm} {h : MH} {u : Nat} {Q : MH → Prop} (H : F_X6_writeValue d v0 v1 h u Q) : T u_X6_writeValue (d + 2) 0 [some (jR v0), some (jR v1)] [] h u (qV Q) := by
  unfold F_X6_writeValue at H
  refine T_aload_n (pc := 0) dX6_writeValue_0 rfl rfl ?_
  refine T_ifnonnull (pc := 1) (tgt := 16) dX6_writeValue_1 (by decide) (fun ho => ?_) (fun n ho => ?_)
  · replace H := nl_n ho H
    refine T_aload_n (pc := 4) dX6_writeValue_4 rfl rfl ?_
    refine T_gR (pc := 5) fa_X6_20 dX6_writeValue_5 (gR_mono (fun x1 H => ?_) H)
    refine T_bipush (pc := 8) (v := 33) dX6_writeValue_8 (by decide) ?_
    obtain ⟨H0, H⟩ := H
    refine T_iV (pc := 10) (ci := 7) (av := [jI 33]) (rest := []) (o := x1) dX6_writeValue_10 mf_X8_addSign c_4_125 c_4_126 c_4_127 rfl rfl (Nat.le_of_ble_eq_true rfl) rfl H0 (iV_k (iV_m0 (fun h H => ?_) (J_X8_addSign (d := (d + 1)) H)))
    refine T_goto (pc := 13) (tgt := 55) dX6_writeValue_13 (by decide) ?_
    exact T_return (pc := 55) rfl dX6_writeValue_55 H
  · replace H := nl_s ho H
    refine T_aload_n (pc := 16) dX6_writeValue_16 rfl rfl ?_
    refine T_gR (pc := 17) fa_X6_38 dX6_writeValue_17 (gR_mono (fun x3 H => ?_) H)
    refine T_gI (pc := 20) fa_X6_44 dX6_writeValue_20 (gI_mono (fun x4 H => ?_) H)
    refine T_if_eq (pc := 23) (tgt := 50) dX6_writeValue_23 (by decide) (fun hc => ?_) (fun hc => ?_)
    · rw [if_pos hc] at H
      refine T_aload_n (pc := 50) dX6_writeValue_50 rfl rfl ?_
      refine T_aload_n (pc := 51) dX6_writeValue_51 rfl rfl ?_
      obtain ⟨H0, H⟩ := H
      refine T_iV (pc := 52) (ci := 5) (av := [jR v1]) (rest := []) (o := v0) dX6_writeValue_52 mf_X6_writeRecord c_4_136 c_4_138 pr_X6_writeRecord rfl rfl (Nat.le_of_ble_eq_true rfl) rfl H0 (iV_k (iV_mono (fun h u H => ?_) H))
      exact T_return (pc := 55) rfl dX6_writeValue_55 H
    · rw [if_neg hc] at H
      refine T_aload_n (pc := 26) dX6_writeValue_26 rfl rfl ?_
      refine T_gR (pc := 27) fa_X6_20 dX6_writeValue_27 (gR_mono (fun x6 H => ?_) H)
      refine T_bipush (pc := 30) (v := 35) dX6_writeValue_30 (by decide) ?_
      obtain ⟨H0, H⟩ := H
      refine T_iV (pc := 32) (ci := 7) (av := [jI 35]) (rest := []) (o := x6) dX6_writeValue_32 mf_X8_addSign c_4_125 c_4_126 c_4_127 rfl rfl (Nat.le_of_ble_eq_true rfl) rfl H0 (iV_k (iV_m0 (fun h H => ?_) (J_X8_addSign (d := (d + 1)) H)))
      refine T_aload_n (pc := 35) dX6_writeValue_35 rfl rfl ?_
      refine T_gR (pc := 36) fa_X6_20 dX6_writeValue_36 (gR_mono (fun x8 H => ?_) H)
      refine T_aload_n (pc := 39) dX6_writeValue_39 rfl rfl ?_
      refine T_gI (pc := 40) fa_X6_49 dX6_writeValue_40 (gI_mono (fun x9 H => ?_) H)
      refine T_i2l (pc := 43) dX6_writeValue_43 ?_
      obtain ⟨H0, H⟩ := H
      refine T_iV (pc := 44) (ci := 7) (av := [jL (x9.toInt64)]) (rest := []) (o := x8) dX6_writeValue_44 mf_X8_addNumber c_4_129 c_4_130 c_4_131 rfl rfl (Nat.le_of_ble_eq_true rfl) rfl H0 (iV_k (iV_m0 (fun h H => ?_) (J_X8_addNumber (d := d) H)))
      refine T_goto (pc := 47) (tgt := 55) dX6_writeValue_47 (by decide) ?_
      exact T_return (pc := 55) rfl dX6_writeValue_55 H
theorem I_X6_writeValue {d : Nat} {v0 : Option Nm} {v1 : Option Nm} {h : MH} {u : Nat} {K : MH → Nat → Prop} (u1 : Nat) (hu : u1 ≤ u) (H : F_X6_writeValue d v0 v1 h u1 (fun h2 => K h2 (u - u1))) : iV (d + 2) u_X6_writeValue [jR v0, jR v1] h u K := inv.of u1 hu (Ct.of (by decide +kernel) rfl (Nat.le_of_ble_eq_true rfl) rfl (E_X6_writeValue H))
theorem dX7_addRow_0 : decode cX7_addRow 0 = .ok (.new 9, 3) := by decide +kernel
theorem dX7_addRow_3 : decode cX7_addRow 3 = .ok (.dup, 1) := by decide +kernel
theorem dX7_addRow_4 : decode cX7_addRow 4 = .ok (.aload_n 0, 1) := by decide +kernel
theorem dX7_addRow_5 : decode cX7_addRow 5 = .ok (.getfield 23, 3) := by decide +kernel
theorem dX7_addRow_8 : decode cX7_addRow 8 = .ok (.iload_n 1, 1) := by decide +kernel
theorem dX7_addRow_9 : decode cX7_addRow 9 = .ok (.iload_n 2, 1) := by decide +kernel
theorem dX7_addRow_10 : decode cX7_addRow 10 = .ok (.ifCond .ge 7, 3) := by decide +kernel
theorem dX7_addRow_13 : decode cX7_addRow 13 = .ok (.iconst 0, 1) := by decide +kernel
theorem dX7_addRow_14 : decode cX7_addRow 14 = .ok (.goto 4, 3) := by decide +kernel
theorem dX7_addRow_17 : decode cX7_addRow 17 = .ok (.iload_n 2, 1) := by decide +kernel
theorem dX7_addRow_18 : decode cX7_addRow 18 = .ok (.newarray .long, 2) := by decide +kernel
theorem dX7_addRow_20 : decode cX7_addRow 20 = .ok (.iload_n 3, 1) := by decide +kernel
theorem dX7_addRow_21 : decode cX7_addRow 21 = .ok (.invokespecial 30, 3) := by decide +kernel
theorem dX7_addRow_24 : decode cX7_addRow 24 = .ok (.astore 4, 2) := by decide +kernel
theorem dX7_addRow_26 : decode cX7_addRow 26 = .ok (.iload_n 1, 1) := by decide +kernel
theorem dX7_addRow_27 : decode cX7_addRow 27 = .ok (.bipush 8, 2) := by decide +kernel
theorem dX7_addRow_29 : decode cX7_addRow 29 = .ok (.if_icmp .ne 34, 3) := by decide +kernel
theorem dX7_addRow_32 : decode cX7_addRow 32 = .ok (.iconst 0, 1) := by decide +kernel
theorem dX7_addRow_33 : decode cX7_addRow 33 = .ok (.istore 5, 2) := by decide +kernel
theorem dX7_addRow_35 : decode cX7_addRow 35 = .ok (.iload 5, 2) := by decide +kernel
theorem dX7_addRow_37 : decode cX7_addRow 37 = .ok (.aload 4, 2) := by decide +kernel
theorem dX7_addRow_39 : decode cX7_addRow 39 = .ok (.getfield 35, 3) := by decide +kernel
theorem dX7_addRow_42 : decode cX7_addRow 42 = .ok (.arraylength, 1) := by decide +kernel
theorem dX7_addRow_43 : decode cX7_addRow 43 = .ok (.if_icmp .ge 20, 3) := by decide +kernel
theorem dX7_addRow_46 : decode cX7_addRow 46 = .ok (.aload 4, 2) := by decide +kernel
theorem dX7_addRow_48 : decode cX7_addRow 48 = .ok (.getfield 35, 3) := by decide +kernel
theorem dX7_addRow_51 : decode cX7_addRow 51 = .ok (.iload 5, 2) := by decide +kernel
theorem dX7_addRow_53 : decode cX7_addRow 53 = .ok (.ldc2_w 39, 3) := by decide +kernel
theorem dX7_addRow_56 : decode cX7_addRow 56 = .ok (.lastore, 1) := by decide +kernel
theorem dX7_addRow_57 : decode cX7_addRow 57 = .ok (.iinc 5 1, 3) := by decide +kernel
theorem dX7_addRow_60 : decode cX7_addRow 60 = .ok (.goto (-25), 3) := by decide +kernel
theorem dX7_addRow_63 : decode cX7_addRow 63 = .ok (.aload_n 0, 1) := by decide +kernel
theorem dX7_addRow_64 : decode cX7_addRow 64 = .ok (.getfield 23, 3) := by decide +kernel
theorem dX7_addRow_67 : decode cX7_addRow 67 = .ok (.bipush 60, 2) := by decide +kernel
theorem dX7_addRow_69 : decode cX7_addRow 69 = .ok (.if_icmp .ge 24, 3) := by decide +kernel
theorem dX7_addRow_72 : decode cX7_addRow 72 = .ok (.aload_n 0, 1) := by decide +kernel
theorem dX7_addRow_73 : decode cX7_addRow 73 = .ok (.getfield 11, 3) := by decide +kernel
theorem dX7_addRow_76 : decode cX7_addRow 76 = .ok (.aload_n 0, 1) := by decide +kernel
theorem dX7_addRow_77 : decode cX7_addRow 77 = .ok (.getfield 23, 3) := by decide +kernel
theorem dX7_addRow_80 : decode cX7_addRow 80 = .ok (.aload 4, 2) := by decide +kernel
theorem dX7_addRow_82 : decode cX7_addRow 82 = .ok (.aastore, 1) := by decide +kernel
theorem dX7_addRow_83 : decode cX7_addRow 83 = .ok (.aload_n 0, 1) := by decide +kernel
theorem dX7_addRow_84 : decode cX7_addRow 84 = .ok (.dup, 1) := by decide +kernel
theorem dX7_addRow_85 : decode cX7_addRow 85 = .ok (.getfield 23, 3) := by decide +kernel
theorem dX7_addRow_88 : decode cX7_addRow 88 = .ok (.iconst 1, 1) := by decide +kernel
theorem dX7_addRow_89 : decode cX7_addRow 89 = .ok (.iadd, 1) := by decide +kernel
theorem dX7_addRow_90 : decode cX7_addRow 90 = .ok (.putfield 23, 3) := by decide +kernel
theorem dX7_addRow_93 : decode cX7_addRow 93 = .ok (.aload 4, 2) := by decide +kernel
theorem dX7_addRow_95 : decode cX7_addRow 95 = .ok (.areturn, 1) := by decide +kernel
def L_X7_addRow_35 (d : Nat) (v0 : Option Nm) (v4 : Option Nm) (v5 : Int32) (h : MH) (u : Nat) (Q : Option Nm → MH → Prop) : Prop := T u_X7_addRow (d + 2) 35 [some (jR v0), none, none, none, some (jR v4), some (jI v5)] [] h u (qR Q)
def F_X7_addRow_63 (d : Nat) (v0 : Option Nm) (v4 : Option Nm) (h : MH) (u : Nat) (Q : Option Nm → MH → Prop) : Prop :=
  gI h v0 6 2 fun x1 =>
  if 60 ≤ x1 then
    Q v4 h
  else
    gR h v0 6 0 fun x2 =>
    gI h v0 6 2 fun x3 =>
    rc h v4 4 ∧ sV (.object "RecordBridge$Row") h x2 x3 (jR v4) fun h =>
    gI h v0 6 2 fun x4 =>
    pV h v0 6 2 (jI (x4 + 1)) fun h =>
    Q v4 h
set_option maxRecDepth 20000 in
theorem E_X7_addRow_63 {d : Nat} {v0 : Option Nm} {v4 : Option Nm} {h : MH} {u : Nat} {Q : Option Nm → MH → Prop} (H : F_X7_addRow_63 d v0 v4 h u Q) : T u_X7_addRow (d + 2) 63 [some (jR v0), none, none, none, some (jR v4), none] [] h u (qR Q) := by
  unfold F_X7_addRow_63 at H
  refine T_aload_n (pc := 63) dX7_addRow_63 rfl rfl ?_
  refine T_gI (pc := 64) fa_X7_23 dX7_addRow_64 (gI_mono (fun x1 H => ?_) H)
  refine T_bipush (pc := 67) (v := 60) dX7_addRow_67 (by decide) ?_
  refine T_icmp_ge (pc := 69) (tgt := 93) dX7_addRow_69 (by decide) (fun hc => ?_) (fun hc => ?_)
  · rw [if_pos hc] at H
    refine T_aload (pc := 93) dX7_addRow_93 rfl ?_
    exact T_areturn (pc := 95) rfl (Or.inl ⟨_, rfl⟩) dX7_addRow_95 H
  · rw [if_neg hc] at H
    refine T_aload_n (pc := 72) dX7_addRow_72 rfl rfl ?_
    refine T_gR (pc := 73) fa_X7_11 dX7_addRow_73 (gR_mono (fun x2 H => ?_) H)
    refine T_aload_n (pc := 76) dX7_addRow_76 rfl rfl ?_
    refine T_gI (pc := 77) fa_X7_23 dX7_addRow_77 (gI_mono (fun x3 H => ?_) H)
    refine T_aload (pc := 80) dX7_addRow_80 rfl ?_
    refine T_sR (pc := 82) (ci := 4) dX7_addRow_82 rfl ⟨H.1, sV_mono (fun h H => ?_) H.2⟩
    refine T_aload_n (pc := 83) dX7_addRow_83 rfl rfl ?_
    refine T_dup (pc := 84) rfl dX7_addRow_84 ?_
    refine T_gI (pc := 85) fa_X7_23 dX7_addRow_85 (gI_mono (fun x4 H => ?_) H)
    refine T_iconst (pc := 88) (v := 1) dX7_addRow_88 (by decide) ?_
    refine T_iadd (pc := 89) dX7_addRow_89 ?_
    refine T_pV (pc := 90) fa_X7_23 dX7_addRow_90 trivial (pV_mono (fun h H => ?_) H)
    refine T_aload (pc := 93) dX7_addRow_93 rfl ?_
    exact T_areturn (pc := 95) rfl (Or.inl ⟨_, rfl⟩) dX7_addRow_95 H
def F_X7_addRow_18 (d : Nat) (v0 : Option Nm) (v1 : Int32) (v3 : Int32) (s0 : Option Nm) (s1 : Option Nm) (s2 : Int32) (s3 : Int32) (s4 : Int32) (h : MH) (u : Nat) (Q : Option Nm → MH → Prop) : Prop :=
  nA .long h u s4 fun x1 h u =>
  nn s1 <| F_X5_init d s1 s2 s3 (some x1) v3 h 0 fun h =>
  if v1 = 8 then
    L_X7_addRow_35 d v0 s0 0 h u Q
  else
    F_X7_addRow_63 d v0 s0 h u Q
set_option maxRecDepth 20000 in
theorem E_X7_addRow_18 {d : Nat} {v0 : Option Nm} {v1 : Int32} {v3 : Int32} {s0 : Option Nm} {s1 : Option Nm} {s2 : Int32} {s3 : Int32} {s4 : Int32} {h : MH} {u : Nat} {Q : Option Nm → MH → Prop} (H : F_X7_addRow_18 d v0 v1 v3 s0 s1 s2 s3 s4 h u Q) : T u_X7_addRow (d + 2) 18 [some (jR v0), some (jI v1), none, some (jI v3), none, none] [jI s4, jI s3, jI s2, jR s1, jR s0] h u (qR Q) := by
  unfold F_X7_addRow_18 at H
  refine T_nA (pc := 18) dX7_addRow_18 rfl (by decide) c_1_66 (nA_mono (fun x1 h u H => ?_) H)
  refine T_iload_n (pc := 20) dX7_addRow_20 rfl rfl ?_
  obtain ⟨n0, H0, H⟩ := nn_out H
  refine T_invIo (pc := 21) (av := [jI s2, jI s3, jR (some x1), jI v3]) (rest := [jR s0]) H0 dX7_addRow_21 mf_X5_init rfl rfl c_1_205 c_1_206 rfl (Nat.le_of_ble_eq_true rfl) rfl (iV_k (iV_m0 (fun h H => ?_) (J_X5_init (d := d) H)))
  refine T_astore (pc := 24) (ls2 := [some (jR v0), some (jI v1), none, some (jI v3), some (jR s0), none]) dX7_addRow_24 (Nat.le_of_ble_eq_true rfl) rfl ?_
  refine T_iload_n (pc := 26) dX7_addRow_26 rfl rfl ?_
  refine T_bipush (pc := 27) (v := 8) dX7_addRow_27 (by decide) ?_
  refine T_icmp_ne (pc := 29) (tgt := 63) dX7_addRow_29 (by decide) (fun hc => ?_) (fun hc => ?_)
  · rw [if_neg hc] at H
    exact T.forget (E_X7_addRow_63 H) ⟨rfl, rfl, trivial⟩
  · rw [if_pos hc] at H
    refine T_iconst (pc := 32) (v := 0) dX7_addRow_32 (by decide) ?_
    refine T_istore (pc := 33) (ls2 := [some (jR v0), some (jI v1), none, some (jI v3), some (jR s0), some (jI 0)]) dX7_addRow_33 (Nat.le_of_ble_eq_true rfl) rfl ?_
    exact T.forget H ⟨rfl, rfl, rfl, trivial⟩
def F_X7_addRow (d : Nat) (v0 : Option Nm) (v1 : Int32) (v2 : Int32) (v3 : Int32) (h : MH) (u : Nat) (Q : Option Nm → MH → Prop) : Prop :=
  nO h u 4 [jI 0, jI 0, jR none, jI 0] fun x1 h u =>
  gI h v0 6 2 fun x2 =>
  if 0 ≤ v2 then
    F_X7_addRow_18 d v0 v1 v3 (some x1) (some x1) x2 v1 v2 h u Q
  else
    F_X7_addRow_18 d v0 v1 v3 (some x1) (some x1) x2 v1 0 h u Q
set_option maxRecDepth 20000 in
theorem E_X7_addRow {d : Nat} {v0 : Option Nm} {v1 : Int32} {v2 : Int32} {v3 : Int32} {h : MH} {u : Nat} {Q : Option Nm → MH → Prop} (H : F_X7_addRow d v0 v1 v2 v3 h u Q) : T u_X7_addRow (d + 2) 0 [some (jR v0), some (jI v1), some (jI v2), some (jI v3), none, none] [] h u (qR Q) := by
  unfold F_X7_addRow at H
  refine T_nO (pc := 0) nf_X7_9 dX7_addRow_0 (nO_mono (fun x1 h u H => ?_) H)
  refine T_dup (pc := 3) rfl dX7_addRow_3 ?_
  refine T_aload_n (pc := 4) dX7_addRow_4 rfl rfl ?_
  refine T_gI (pc := 5) fa_X7_23 dX7_addRow_5 (gI_mono (fun x2 H => ?_) H)
  refine T_iload_n (pc := 8) dX7_addRow_8 rfl rfl ?_
  refine T_iload_n (pc := 9) dX7_addRow_9 rfl rfl ?_
  refine T_if_ge (pc := 10) (tgt := 17) dX7_addRow_10 (by decide) (fun hc => ?_) (fun hc => ?_)
  · rw [if_pos hc] at H
    refine T_iload_n (pc := 17) dX7_addRow_17 rfl rfl ?_
    exact T.forget (E_X7_addRow_18 H) ⟨rfl, rfl, rfl, trivial⟩
  · rw [if_neg hc] at H
    refine T_iconst (pc := 13) (v := 0) dX7_addRow_13 (by decide) ?_
    refine T_goto (pc := 14) (tgt := 18) dX7_addRow_14 (by decide) ?_
    exact T.forget (E_X7_addRow_18 H) ⟨rfl, rfl, rfl, trivial⟩
def F_X7_addRow_35 (d : Nat) (v0 : Option Nm) (v4 : Option Nm) (v5 : Int32) (h : MH) (u : Nat) (Q : Option Nm → MH → Prop) : Prop :=
  gR h v4 4 2 fun x1 =>
  aN h x1 fun x2 =>
  if x2 ≤ v5 then
    F_X7_addRow_63 d v0 v4 h u Q
  else
    gR h v4 4 2 fun x3 =>
    sV .long h x3 v5 (jL (-1)) fun h =>
    L_X7_addRow_35 d v0 v4 (v5 + 1) h u Q
set_option maxRecDepth 20000 in
theorem E_X7_addRow_35 {d : Nat} {v0 : Option Nm} {v4 : Option Nm} {v5 : Int32} {h : MH} {u : Nat} {Q : Option Nm → MH → Prop} (H : F_X7_addRow_35 d v0 v4 v5 h u Q) : T u_X7_addRow (d + 2) 35 [some (jR v0), none, none, none, some (jR v4), some (jI v5)] [] h u (qR Q) := by
  unfold F_X7_addRow_35 at H
  refine T_iload (pc := 35) dX7_addRow_35 rfl ?_
  refine T_aload (pc := 37) dX7_addRow_37 rfl ?_
  refine T_gR (pc := 39) fa_X7_35 dX7_addRow_39 (gR_mono (fun x1 H => ?_) H)
  refine T_aN (pc := 42) dX7_addRow_42 (aN_mono (fun x2 H => ?_) H)
  refine T_icmp_ge (pc := 43) (tgt := 63) dX7_addRow_43 (by decide) (fun hc => ?_) (fun hc => ?_)
  · rw [if_pos hc] at H
    exact T.forget (E_X7_addRow_63 H) ⟨rfl, rfl, trivial⟩
  · rw [if_neg hc] at H
    refine T_aload (pc := 46) dX7_addRow_46 rfl ?_
    refine T_gR (pc := 48) fa_X7_35 dX7_addRow_48 (gR_mono (fun x3 H => ?_) H)
    refine T_iload (pc := 51) dX7_addRow_51 rfl ?_
    refine T_ldc2 (pc := 53) (v := (-1)) dX7_addRow_53 c_1_236 ?_
    refine T_sL (pc := 56) dX7_addRow_56 (sV_mono (fun h H => ?_) H)
    refine T_iinc (pc := 57) (v := v5 + 1) (ls2 := [some (jR v0), none, none, none, some (jR v4), some (jI (v5 + 1))]) dX7_addRow_57 rfl rfl (Nat.le_of_ble_eq_true rfl) rfl ?_
    refine T_goto (pc := 60) (tgt := 35) dX7_addRow_60 (by decide) ?_
    exact T.forget H ⟨rfl, rfl, rfl, trivial⟩
theorem I_X7_addRow {d : Nat} {v0 : Option Nm} {v1 : Int32} {v2 : Int32} {v3 : Int32} {h : MH} {u : Nat} {K : Option Nm → MH → Nat → Prop} (u1 : Nat) (hu : u1 ≤ u) (H : F_X7_addRow d v0 v1 v2 v3 h u1 (fun x h2 => K x h2 (u - u1))) : iR (d + 2) u_X7_addRow [jR v0, jI v1, jI v2, jI v3] h u K := inv.of u1 hu (Ct.of (by decide +kernel) rfl (Nat.le_of_ble_eq_true rfl) rfl (E_X7_addRow H))
theorem dX7_addTwin_0 : decode cX7_addTwin 0 = .ok (.aload_n 0, 1) := by decide +kernel
theorem dX7_addTwin_1 : decode cX7_addTwin 1 = .ok (.aload_n 1, 1) := by decide +kernel
theorem dX7_addTwin_2 : decode cX7_addTwin 2 = .ok (.getfield 41, 3) := by decide +kernel
theorem dX7_addTwin_5 : decode cX7_addTwin 5 = .ok (.aload_n 1, 1) := by decide +kernel
theorem dX7_addTwin_6 : decode cX7_addTwin 6 = .ok (.getfield 35, 3) := by decide +kernel
theorem dX7_addTwin_9 : decode cX7_addTwin 9 = .ok (.arraylength, 1) := by decide +kernel
theorem dX7_addTwin_10 : decode cX7_addTwin 10 = .ok (.iload_n 2, 1) := by decide +kernel
theorem dX7_addTwin_11 : decode cX7_addTwin 11 = .ok (.invokevirtual 44, 3) := by decide +kernel
theorem dX7_addTwin_14 : decode cX7_addTwin 14 = .ok (.astore_n 3, 1) := by decide +kernel
theorem dX7_addTwin_15 : decode cX7_addTwin 15 = .ok (.aload_n 1, 1) := by decide +kernel
theorem dX7_addTwin_16 : decode cX7_addTwin 16 = .ok (.getfield 35, 3) := by decide +kernel
theorem dX7_addTwin_19 : decode cX7_addTwin 19 = .ok (.iconst 0, 1) := by decide +kernel
theorem dX7_addTwin_20 : decode cX7_addTwin 20 = .ok (.aload_n 3, 1) := by decide +kernel
theorem dX7_addTwin_21 : decode cX7_addTwin 21 = .ok (.getfield 35, 3) := by decide +kernel
theorem dX7_addTwin_24 : decode cX7_addTwin 24 = .ok (.iconst 0, 1) := by decide +kernel
theorem dX7_addTwin_25 : decode cX7_addTwin 25 = .ok (.aload_n 1, 1) := by decide +kernel
theorem dX7_addTwin_26 : decode cX7_addTwin 26 = .ok (.getfield 35, 3) := by decide +kernel
theorem dX7_addTwin_29 : decode cX7_addTwin 29 = .ok (.arraylength, 1) := by decide +kernel
theorem dX7_addTwin_30 : decode cX7_addTwin 30 = .ok (.invokestatic 48, 3) := by decide +kernel
theorem dX7_addTwin_33 : decode cX7_addTwin 33 = .ok (.aload_n 3, 1) := by decide +kernel
theorem dX7_addTwin_34 : decode cX7_addTwin 34 = .ok (.areturn, 1) := by decide +kernel
def F_X7_addTwin (d : Nat) (v0 : Option Nm) (v1 : Option Nm) (v2 : Int32) (h : MH) (u : Nat) (Q : Option Nm → MH → Prop) : Prop :=
  gI h v1 4 1 fun x1 =>
  gR h v1 4 2 fun x2 =>
  aN h x2 fun x3 =>
  rc h v0 6 ∧ iR d u_X7_addRow [jR v0, jI x1, jI x3, jI v2] h u fun x4 h u =>
  gR h v1 4 2 fun x5 =>
  gR h x4 4 2 fun x6 =>
  gR h v1 4 2 fun x7 =>
  aN h x7 fun x8 =>
  cpL h x5 0 x6 0 x8 fun h =>
  Q x4 h
set_option maxRecDepth 20000 in
theorem E_X7_addTwin {d : Nat} {v0 : Option Nm} {v1 : Option Nm} {v2 : Int32} {h : MH} {u : Nat} {Q : Option Nm → MH → Prop} (H : F_X7_addTwin d v0 v1 v2 h u Q) : T u_X7_addTwin (d + 1) 0 [some (jR v0), some (jR v1), some (jI v2), none] [] h u (qR Q) := by
  unfold F_X7_addTwin at H
  refine T_aload_n (pc := 0) dX7_addTwin_0 rfl rfl ?_
  refine T_aload_n (pc := 1) dX7_addTwin_1 rfl rfl ?_
  refine T_gI (pc := 2) fa_X7_41 dX7_addTwin_2 (gI_mono (fun x1 H => ?_) H)
  refine T_aload_n (pc := 5) dX7_addTwin_5 rfl rfl ?_
  refine T_gR (pc := 6) fa_X7_35 dX7_addTwin_6 (gR_mono (fun x2 H => ?_) H)
  refine T_aN (pc := 9) dX7_addTwin_9 (aN_mono (fun x3 H => ?_) H)
  refine T_iload_n (pc := 10) dX7_addTwin_10 rfl rfl ?_
  obtain ⟨H0, H⟩ := H
  refine T_iV (pc := 11) (ci := 6) (av := [jI x1, jI x3, jI v2]) (rest := []) (o := v0) dX7_addTwin_11 mf_X7_addRow c_2_109 c_1_201 c_1_202 rfl rfl (Nat.le_of_ble_eq_true rfl) rfl H0 (iR_k (iR_mono (fun x4 h u H => ?_) H))
  refine T_astore_n (pc := 14) (ls2 := [some (jR v0), some (jR v1), some (jI v2), some (jR x4)]) dX7_addTwin_14 rfl (Nat.le_of_ble_eq_true rfl) rfl ?_
  refine T_aload_n (pc := 15) dX7_addTwin_15 rfl rfl ?_
  refine T_gR (pc := 16) fa_X7_35 dX7_addTwin_16 (gR_mono (fun x5 H => ?_) H)
  refine T_iconst (pc := 19) (v := 0) dX7_addTwin_19 (by decide) ?_
  refine T_aload_n (pc := 20) dX7_addTwin_20 rfl rfl ?_
  refine T_gR (pc := 21) fa_X7_35 dX7_addTwin_21 (gR_mono (fun x6 H => ?_) H)
  refine T_iconst (pc := 24) (v := 0) dX7_addTwin_24 (by decide) ?_
  refine T_aload_n (pc := 25) dX7_addTwin_25 rfl rfl ?_
  refine T_gR (pc := 26) fa_X7_35 dX7_addTwin_26 (gR_mono (fun x7 H => ?_) H)
  refine T_aN (pc := 29) dX7_addTwin_29 (aN_mono (fun x8 H => ?_) H)
  refine T_cpL (pc := 30) dX7_addTwin_30 c_2_110 c_2_96 c_2_95 c_1_13 (Nat.le_of_ble_eq_true rfl) (cpL_mono (fun h H => ?_) H)
  refine T_aload_n (pc := 33) dX7_addTwin_33 rfl rfl ?_
  exact T_areturn (pc := 34) rfl (Or.inl ⟨_, rfl⟩) dX7_addTwin_34 H
theorem I_X7_addTwin {d : Nat} {v0 : Option Nm} {v1 : Option Nm} {v2 : Int32} {h : MH} {u : Nat} {K : Option Nm → MH → Nat → Prop} (u1 : Nat) (hu : u1 ≤ u) (H : F_X7_addTwin d v0 v1 v2 h u1 (fun x h2 => K x h2 (u - u1))) : iR (d + 1) u_X7_addTwin [jR v0, jR v1, jI v2] h u K := inv.of u1 hu (Ct.of (by decide +kernel) rfl (Nat.le_of_ble_eq_true rfl) rfl (E_X7_addTwin H))
theorem dX7_init_0 : decode cX7_init 0 = .ok (.aload_n 0, 1) := by decide +kernel
theorem dX7_init_1 : decode cX7_init 1 = .ok (.invokespecial 3, 3) := by decide +kernel
theorem dX7_init_4 : decode cX7_init 4 = .ok (.aload_n 0, 1) := by decide +kernel
theorem dX7_init_5 : decode cX7_init 5 = .ok (.bipush 60, 2) := by decide +kernel
theorem dX7_init_7 : decode cX7_init 7 = .ok (.anewarray 9, 3) := by decide +kernel
theorem dX7_init_10 : decode cX7_init 10 = .ok (.putfield 11, 3) := by decide +kernel
theorem dX7_init_13 : decode cX7_init 13 = .ok (.aload_n 0, 1) := by decide +kernel
theorem dX7_init_14 : decode cX7_init 14 = .ok (.sipush 200, 3) := by decide +kernel
theorem dX7_init_17 : decode cX7_init 17 = .ok (.anewarray 17, 3) := by decide +kernel
theorem dX7_init_20 : decode cX7_init 20 = .ok (.putfield 19, 3) := by decide +kernel
theorem dX7_init_23 : decode cX7_init 23 = .ok (.return_, 1) := by decide +kernel
def F_X7_init (d : Nat) (v0 : Option Nm) (h : MH) (u : Nat) (Q : MH → Prop) : Prop :=
  nn v0 <|
  nA (.object "RecordBridge$Row") h u 60 fun x1 h u =>
  pV h v0 6 0 (jR (some x1)) fun h =>
  nA (.object "RecordBridge$Value") h u 200 fun x2 h u =>
  pV h v0 6 1 (jR (some x2)) fun h =>
  Q h
set_option maxRecDepth 20000 in
theorem E_X7_init {d : Nat} {v0 : Option Nm} {h : MH} {u : Nat} {Q : MH → Prop} (H : F_X7_init d v0 h u Q) : T u_X7_init (d + 1) 0 [some (jR v0)] [] h u (qV Q) := by
  unfold F_X7_init at H
  refine T_aload_n (pc := 0) dX7_init_0 rfl rfl ?_
  obtain ⟨n0, H0, H⟩ := nn_out H
  refine T_objInit (pc := 1) dX7_init_1 c_1_32 c_1_25 c_1_26 H0 (Nat.le_of_ble_eq_true rfl) ?_
  refine T_aload_n (pc := 4) dX7_init_4 rfl rfl ?_
  refine T_bipush (pc := 5) (v := 60) dX7_init_5 (by decide) ?_
  refine T_nAR (pc := 7) dX7_init_7 (by decide) c_1_33 (by decide) (nA_mono (fun x1 h u H => ?_) H)
  refine T_pVF (pc := 10) fa_X7_11 rfl rfl dX7_init_10 trivial (pV_mono (fun h H => ?_) H)
  refine T_aload_n (pc := 13) dX7_init_13 rfl rfl ?_
  refine T_sipush (pc := 14) (v := 200) dX7_init_14 (by decide) ?_
  refine T_nAR (pc := 17) dX7_init_17 (by decide) c_1_35 (by decide) (nA_mono (fun x2 h u H => ?_) H)
  refine T_pVF (pc := 20) fa_X7_19 rfl rfl dX7_init_20 trivial (pV_mono (fun h H => ?_) H)
  exact T_return (pc := 23) rfl dX7_init_23 H
theorem I_X7_init {d : Nat} {v0 : Option Nm} {h : MH} {u : Nat} {K : MH → Nat → Prop} (u1 : Nat) (hu : u1 ≤ u) (H : F_X7_init d v0 h u1 (fun h2 => K h2 (u - u1))) : iV (d + 1) u_X7_init [jR v0] h u K := inv.of u1 hu (Ct.of (by decide +kernel) rfl (Nat.le_of_ble_eq_true rfl) rfl (E_X7_init H))
theorem dX8_init_0 : decode cX8_init 0 = .ok (.aload_n 0, 1) := by decide +kernel
theorem dX8_init_1 : decode cX8_init 1 = .ok (.invokespecial 3, 3) := by decide +kernel
theorem dX8_init_4 : decode cX8_init 4 = .ok (.aload_n 0, 1) := by decide +kernel
theorem dX8_init_5 : decode cX8_init 5 = .ok (.sipush 4000, 3) := by decide +kernel
theorem dX8_init_8 : decode cX8_init 8 = .ok (.newarray .byte, 2) := by decide +kernel
theorem dX8_init_10 : decode cX8_init 10 = .ok (.putfield 9, 3) := by decide +kernel
theorem dX8_init_13 : decode cX8_init 13 = .ok (.aload_n 0, 1) := by decide +kernel
theorem dX8_init_14 : decode cX8_init 14 = .ok (.bipush 20, 2) := by decide +kernel
theorem dX8_init_16 : decode cX8_init 16 = .ok (.newarray .char, 2) := by decide +kernel
theorem dX8_init_18 : decode cX8_init 18 = .ok (.putfield 15, 3) := by decide +kernel
theorem dX8_init_21 : decode cX8_init 21 = .ok (.return_, 1) := by decide +kernel
def F_X8_init (d : Nat) (v0 : Option Nm) (h : MH) (u : Nat) (Q : MH → Prop) : Prop :=
  nn v0 <|
  nA .byte h u 4000 fun x1 h u =>
  pV h v0 7 0 (jR (some x1)) fun h =>
  nA .char h u 20 fun x2 h u =>
  pV h v0 7 1 (jR (some x2)) fun h =>
  Q h
set_option maxRecDepth 20000 in
theorem E_X8_init {d : Nat} {v0 : Option Nm} {h : MH} {u : Nat} {Q : MH → Prop} (H : F_X8_init d v0 h u Q) : T u_X8_init (d + 1) 0 [some (jR v0)] [] h u (qV Q) := by
  unfold F_X8_init at H
  refine T_aload_n (pc := 0) dX8_init_0 rfl rfl ?_
  obtain ⟨n0, H0, H⟩ := nn_out H
  refine T_objInit (pc := 1) dX8_init_1 c_1_109 c_1_25 c_1_26 H0 (Nat.le_of_ble_eq_true rfl) ?_
  refine T_aload_n (pc := 4) dX8_init_4 rfl rfl ?_
  refine T_sipush (pc := 5) (v := 4000) dX8_init_5 (by decide) ?_
  refine T_nA (pc := 8) dX8_init_8 rfl (by decide) c_1_126 (nA_mono (fun x1 h u H => ?_) H)
  refine T_pVF (pc := 10) fa_X8_9 rfl rfl dX8_init_10 trivial (pV_mono (fun h H => ?_) H)
  refine T_aload_n (pc := 13) dX8_init_13 rfl rfl ?_
  refine T_bipush (pc := 14) (v := 20) dX8_init_14 (by decide) ?_
  refine T_nA (pc := 16) dX8_init_16 rfl (by decide) c_1_127 (nA_mono (fun x2 h u H => ?_) H)
  refine T_pVF (pc := 18) fa_X8_15 rfl rfl dX8_init_18 trivial (pV_mono (fun h H => ?_) H)
  exact T_return (pc := 21) rfl dX8_init_21 H
theorem I_X8_init {d : Nat} {v0 : Option Nm} {h : MH} {u : Nat} {K : MH → Nat → Prop} (u1 : Nat) (hu : u1 ≤ u) (H : F_X8_init d v0 h u1 (fun h2 => K h2 (u - u1))) : iV (d + 1) u_X8_init [jR v0] h u K := inv.of u1 hu (Ct.of (by decide +kernel) rfl (Nat.le_of_ble_eq_true rfl) rfl (E_X8_init H))
theorem dX9_init_0 : decode cX9_init 0 = .ok (.aload_n 0, 1) := by decide +kernel
theorem dX9_init_1 : decode cX9_init 1 = .ok (.invokespecial 3, 3) := by decide +kernel
theorem dX9_init_4 : decode cX9_init 4 = .ok (.aload_n 0, 1) := by decide +kernel
theorem dX9_init_5 : decode cX9_init 5 = .ok (.bipush 6, 2) := by decide +kernel
theorem dX9_init_7 : decode cX9_init 7 = .ok (.newarray .int, 2) := by decide +kernel
theorem dX9_init_9 : decode cX9_init 9 = .ok (.putfield 9, 3) := by decide +kernel
theorem dX9_init_12 : decode cX9_init 12 = .ok (.aload_n 0, 1) := by decide +kernel
theorem dX9_init_13 : decode cX9_init 13 = .ok (.bipush 6, 2) := by decide +kernel
theorem dX9_init_15 : decode cX9_init 15 = .ok (.newarray .long, 2) := by decide +kernel
theorem dX9_init_17 : decode cX9_init 17 = .ok (.putfield 15, 3) := by decide +kernel
theorem dX9_init_20 : decode cX9_init 20 = .ok (.iconst 0, 1) := by decide +kernel
theorem dX9_init_21 : decode cX9_init 21 = .ok (.istore_n 1, 1) := by decide +kernel
theorem dX9_init_22 : decode cX9_init 22 = .ok (.iload_n 1, 1) := by decide +kernel
theorem dX9_init_23 : decode cX9_init 23 = .ok (.bipush 6, 2) := by decide +kernel
theorem dX9_init_25 : decode cX9_init 25 = .ok (.if_icmp .ge 16, 3) := by decide +kernel
theorem dX9_init_28 : decode cX9_init 28 = .ok (.aload_n 0, 1) := by decide +kernel
theorem dX9_init_29 : decode cX9_init 29 = .ok (.getfield 9, 3) := by decide +kernel
theorem dX9_init_32 : decode cX9_init 32 = .ok (.iload_n 1, 1) := by decide +kernel
theorem dX9_init_33 : decode cX9_init 33 = .ok (.iconst (-1), 1) := by decide +kernel
theorem dX9_init_34 : decode cX9_init 34 = .ok (.iastore, 1) := by decide +kernel
theorem dX9_init_35 : decode cX9_init 35 = .ok (.iinc 1 1, 3) := by decide +kernel
theorem dX9_init_38 : decode cX9_init 38 = .ok (.goto (-16), 3) := by decide +kernel
theorem dX9_init_41 : decode cX9_init 41 = .ok (.return_, 1) := by decide +kernel
def L_X9_init_22 (d : Nat) (v0 : Option Nm) (v1 : Int32) (h : MH) (u : Nat) (Q : MH → Prop) : Prop := T u_X9_init (d + 1) 22 [some (jR v0), some (jI v1)] [] h u (qV Q)
def F_X9_init (d : Nat) (v0 : Option Nm) (h : MH) (u : Nat) (Q : MH → Prop) : Prop :=
  nn v0 <|
  nA .int h u 6 fun x1 h u =>
  pV h v0 8 0 (jR (some x1)) fun h =>
  nA .long h u 6 fun x2 h u =>
  pV h v0 8 1 (jR (some x2)) fun h =>
  L_X9_init_22 d v0 0 h u Q
set_option maxRecDepth 20000 in
theorem E_X9_init {d : Nat} {v0 : Option Nm} {h : MH} {u : Nat} {Q : MH → Prop} (H : F_X9_init d v0 h u Q) : T u_X9_init (d + 1) 0 [some (jR v0), none] [] h u (qV Q) := by
  unfold F_X9_init at H
  refine T_aload_n (pc := 0) dX9_init_0 rfl rfl ?_
  obtain ⟨n0, H0, H⟩ := nn_out H
  refine T_objInit (pc := 1) dX9_init_1 c_1_57 c_1_25 c_1_26 H0 (Nat.le_of_ble_eq_true rfl) ?_
  refine T_aload_n (pc := 4) dX9_init_4 rfl rfl ?_
  refine T_bipush (pc := 5) (v := 6) dX9_init_5 (by decide) ?_
  refine T_nA (pc := 7) dX9_init_7 rfl (by decide) c_1_65 (nA_mono (fun x1 h u H => ?_) H)
  refine T_pVF (pc := 9) fa_X9_9 rfl rfl dX9_init_9 trivial (pV_mono (fun h H => ?_) H)
  refine T_aload_n (pc := 12) dX9_init_12 rfl rfl ?_
  refine T_bipush (pc := 13) (v := 6) dX9_init_13 (by decide) ?_
  refine T_nA (pc := 15) dX9_init_15 rfl (by decide) c_1_66 (nA_mono (fun x2 h u H => ?_) H)
  refine T_pVF (pc := 17) fa_X9_15 rfl rfl dX9_init_17 trivial (pV_mono (fun h H => ?_) H)
  refine T_iconst (pc := 20) (v := 0) dX9_init_20 (by decide) ?_
  refine T_istore_n (pc := 21) (ls2 := [some (jR v0), some (jI 0)]) dX9_init_21 rfl (Nat.le_of_ble_eq_true rfl) rfl ?_
  exact T.forget H ⟨rfl, rfl, trivial⟩
def F_X9_init_22 (d : Nat) (v0 : Option Nm) (v1 : Int32) (h : MH) (u : Nat) (Q : MH → Prop) : Prop :=
  if 6 ≤ v1 then
    Q h
  else
    gR h v0 8 0 fun x1 =>
    sV .int h x1 v1 (jI (-1)) fun h =>
    L_X9_init_22 d v0 (v1 + 1) h u Q
set_option maxRecDepth 20000 in
theorem E_X9_init_22 {d : Nat} {v0 : Option Nm} {v1 : Int32} {h : MH} {u : Nat} {Q : MH → Prop} (H : F_X9_init_22 d v0 v1 h u Q) : T u_X9_init (d + 1) 22 [some (jR v0), some (jI v1)] [] h u (qV Q) := by
  unfold F_X9_init_22 at H
  refine T_iload_n (pc := 22) dX9_init_22 rfl rfl ?_
  refine T_bipush (pc := 23) (v := 6) dX9_init_23 (by decide) ?_
  refine T_icmp_ge (pc := 25) (tgt := 41) dX9_init_25 (by decide) (fun hc => ?_) (fun hc => ?_)
  · rw [if_pos hc] at H
    exact T_return (pc := 41) rfl dX9_init_41 H
  · rw [if_neg hc] at H
    refine T_aload_n (pc := 28) dX9_init_28 rfl rfl ?_
    refine T_gR (pc := 29) fa_X9_9 dX9_init_29 (gR_mono (fun x1 H => ?_) H)
    refine T_iload_n (pc := 32) dX9_init_32 rfl rfl ?_
    refine T_iconst (pc := 33) (v := (-1)) dX9_init_33 (by decide) ?_
    refine T_sI (pc := 34) dX9_init_34 (sV_mono (fun h H => ?_) H)
    refine T_iinc (pc := 35) (v := v1 + 1) (ls2 := [some (jR v0), some (jI (v1 + 1))]) dX9_init_35 rfl rfl (Nat.le_of_ble_eq_true rfl) rfl ?_
    refine T_goto (pc := 38) (tgt := 22) dX9_init_38 (by decide) ?_
    exact T.forget H ⟨rfl, rfl, trivial⟩
theorem I_X9_init {d : Nat} {v0 : Option Nm} {h : MH} {u : Nat} {K : MH → Nat → Prop} (u1 : Nat) (hu : u1 ≤ u) (H : F_X9_init d v0 h u1 (fun h2 => K h2 (u - u1))) : iV (d + 1) u_X9_init [jR v0] h u K := inv.of u1 hu (Ct.of (by decide +kernel) rfl (Nat.le_of_ble_eq_true rfl) rfl (E_X9_init H))
