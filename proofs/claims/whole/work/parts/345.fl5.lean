section Fl5
variable {d u : Nat} {h : MH}
/-- a normal float as a double -/
theorem f2d_norm {x : UInt32} (h1 : 1 ≤ x.toNat / 8388608 % 256) (h2 : x.toNat / 8388608 % 256 ≤ 254) : (FP.Core.f2d x).toNat = (x.toNat / 2147483648) * 9223372036854775808 + (x.toNat % 2147483648) * 536870912 + 4035225266123964416 := by
  have hx := x.toNat_lt
  obtain ⟨X, hX⟩ : ∃ X, X = x.toNat := ⟨_, rfl⟩
  rw [← hX] at h1 h2 hx ⊢
  have eE : FP.Core.fieldE FP.Core.b32 X = X / 8388608 % 256 := rfl
  have eT : FP.Core.fieldT FP.Core.b32 X = X % 8388608 := rfl
  have hd : FP.Core.decode FP.Core.b32 X = .fin (FP.Core.fieldS FP.Core.b32 X) (8388608 + X % 8388608) (-149 + (((X / 8388608 % 256 : Nat) : Int) - 1)) := by
    unfold FP.Core.decode
    rw [eE, eT, if_neg (by rw [show FP.Core.b32.exps - 1 = 255 from rfl]; omega), if_neg (by omega)]
    rfl
  obtain ⟨c, hc⟩ : ∃ c, c = 8388608 + X % 8388608 := ⟨_, rfl⟩
  obtain ⟨q, hq⟩ : ∃ q : Int, q = -149 + (((X / 8388608 % 256 : Nat) : Int) - 1) := ⟨_, rfl⟩
  obtain ⟨s, hs⟩ : ∃ s, s = FP.Core.fieldS FP.Core.b32 X := ⟨_, rfl⟩
  rw [← hc, ← hq, ← hs] at hd
  have qn : FP.Core.b64.qmin = -1074 := by decide +kernel
  have qx : FP.Core.b64.qmax = 971 := by decide +kernel
  have tl : FP.Core.b64.tails = 4503599627370496 := by decide +kernel
  have hfit : FP.Core.fits FP.Core.b64 (.fin s (c * 536870912) (q - 29)) := by
    refine ⟨?_, ?_, ?_, Or.inr ?_⟩
    · show c * 536870912 < 9007199254740992
      omega
    · rw [qn]; omega
    · rw [qx]; omega
    · rw [tl]; omega
  have hr : FP.Core.round FP.Core.b64 (.fin s c q) = .fin s (c * 536870912) (q - 29) := by
    refine FP.Core.roundRatio_exact FP.Core.good_b64 (by decide) hfit ?_
    rw [show (q - (q - 29)).toNat = 29 by omega, show (q - 29 - q).toNat = 0 by omega]
    omega
  have hv : (FP.Core.f2d x).toNat = FP.Core.encode FP.Core.b64 (.fin s (c * 536870912) (q - 29)) := by
    have := FP.Core.toNat_of64 hfit
    rw [← this]
    unfold FP.Core.f2d FP.Core.convert FP.Core.of64
    rw [← hX, hd, hr]
  rw [hv]
  unfold FP.Core.encode
  simp only
  rw [tl, if_neg (by omega)]
  unfold FP.Core.assemble
  rw [tl, qn, show FP.Core.b64.exps = 2048 from rfl, show (q - 29 - -1074).toNat + 1 = X / 8388608 % 256 + 896 by omega]
  have es : s.toNat = X / 2147483648 := by
    rw [hs]
    unfold FP.Core.fieldS
    rw [show FP.Core.b32.tails = 8388608 from rfl, show FP.Core.b32.exps = 256 from rfl, Nat.div_div_eq_div_mul]
    rcases (show X / (8388608 * 256) = 0 ∨ X / (8388608 * 256) = 1 by omega) with z | z
    · rw [z]; show 0 = _; omega
    · rw [z]; show 1 = _; omega
  rw [es, hc]
  omega
theorem l2f_0 {w : Int64} (hw : w.toInt = 0) : FP.l2f w = 0 := by
  have : w = 0 := Int64.toInt_inj.mp (hw.trans rfl)
  rw [this]; decide +kernel
theorem l2f_nz {w : Int64} (hw : w.toInt ≠ 0) : 1065353216 ≤ (FP.l2f w).toNat % 2147483648 ∧ (FP.l2f w).toNat % 2147483648 < 2139095040 := FP.Core.l2f_big hw
theorem f2d_ok {w : Int64} : FP.f2d (FP.l2f w) = FP.Core.f2d (FP.l2f w) := by
  unfold FP.f2d
  rw [FP.Core.FFin.notNaN (FP.Core.l2f_fin w)]; rfl
theorem f2d_n {w : Int64} : (FP.f2d (FP.l2f w)).toNat = if w.toInt = 0 then 0 else ((FP.l2f w).toNat / 2147483648) * 9223372036854775808 + ((FP.l2f w).toNat % 2147483648) * 536870912 + 4035225266123964416 := by
  by_cases hw : w.toInt = 0
  · rw [if_pos hw, l2f_0 hw]; decide +kernel
  · rw [if_neg hw, f2d_ok]
    have := l2f_nz hw
    exact f2d_norm (by omega) (by omega)
theorem f2d_nn {w : Int64} : FP.Core.val64 (FP.f2d (FP.l2f w)) ≠ .nan := by
  rw [f2d_ok]
  exact FP.Core.DFin.ne_nan (FP.Core.f2d_fin (FP.Core.l2f_fin w))
theorem fB_32 {w : Int64} : (fB w).toInt32 = (FP.l2f w).toInt32 := by
  unfold fB
  simp
theorem fB_u {w : Int64} : (fB w).toInt32.toUInt32 = FP.l2f w := by rw [fB_32]; rfl
theorem uM_int {x : Int32} : x.toInt = if uM x < 2147483648 then (uM x : Int) else (uM x : Int) - 4294967296 := by
  have : x.toInt = if 2 * uM x < 2 ^ 32 then (uM x : Int) else (uM x : Int) - ((2 ^ 32 : Nat) : Int) := rfl
  rw [this]
  split <;> split <;> omega
theorem uN_64 {x : Int32} : uN x.toInt64 = if uM x < 2147483648 then uM x else uM x + 18446744069414584320 := by
  have e : x.toInt64.toInt = x.toInt := by simp
  rw [uN_int, uM_int] at e
  have h1 := uN_lt x.toInt64
  have h2 : uM x < 4294967296 := x.toUInt32.toNat_lt
  split at e <;> split at e <;> split <;> omega
theorem uN_fB {w : Int64} : uN (fB w) = if (FP.l2f w).toNat < 2147483648 then (FP.l2f w).toNat else (FP.l2f w).toNat + 18446744069414584320 := uN_64 (x := (FP.l2f w).toInt32)
theorem uN_gB {w : Int64} : uN (gB (fB w)) = (FP.f2d (FP.l2f w)).toNat := by
  unfold gB
  rw [fB_u]; rfl
theorem l2f_neg0 {w : Int64} (hw : w.toInt = 0) : fB w = 0 ∧ gB (fB w) = 0 := by
  have : w = 0 := Int64.toInt_inj.mp (hw.trans rfl)
  subst this
  exact ⟨by decide +kernel, by decide +kernel⟩
theorem s_dOf {w : Int64} {Q : Int64 → MH → Prop} (H : Q (gB (fB w)) h) : F_X4_doubleOfFloat d (fB w) h u Q := by
  by_cases hw : w.toInt = 0
  · rw [(l2f_neg0 hw).2] at H
    rw [(l2f_neg0 hw).1]
    unfold F_X4_doubleOfFloat F_X4_doubleOfFloat_13 nm
    rw [if_pos (by decide)]
    dsimp only
    rw [if_pos (by decide)]
    exact H
  · have hb := l2f_nz hw
    have hX := (FP.l2f w).toNat_lt
    obtain ⟨X, hXd⟩ : ∃ X, X = (FP.l2f w).toNat := ⟨_, rfl⟩
    have hg : uN (gB (fB w)) = (X / 2147483648) * 9223372036854775808 + (X % 2147483648) * 536870912 + 4035225266123964416 := by
      rw [uN_gB, f2d_n, if_neg hw, hXd]
    have hv := uN_fB (w := w)
    rw [← hXd] at hb hX hv
    obtain ⟨v, hvd⟩ : ∃ v, v = fB w := ⟨_, rfl⟩
    rw [← hvd] at hv hg ⊢ H
    obtain ⟨E, hE⟩ : ∃ E, E = X / 8388608 % 256 := ⟨_, rfl⟩
    obtain ⟨T, hT⟩ : ∃ T, T = X % 8388608 := ⟨_, rfl⟩
    have nE : uN (((v.toUInt64 >>> ((23 : Int32).toInt64.toUInt64 &&& Int64.toUInt64 63)).toInt64) &&& 255) = E := by
      rw [uN_and, show uN ((v.toUInt64 >>> ((23 : Int32).toInt64.toUInt64 &&& Int64.toUInt64 63)).toInt64) = uN v / 2 ^ 23 from uN_shr (k := 23) (by decide), show uN 255 = 2 ^ 8 - 1 from rfl, Nat.and_two_pow_sub_one_eq_mod, hv, hE]
      split <;> omega
    have fin : ∀ s0 : Int64, uN s0 = (X / 2147483648) * 9223372036854775808 → F_X4_doubleOfFloat_13 d v s0 h u Q := by
      intro s0 hs0
      unfold F_X4_doubleOfFloat_13 nm
      simp only [lg_cmp_eq]
      obtain ⟨x1, hx1⟩ : ∃ x1, x1 = (((v.toUInt64 >>> ((23 : Int32).toInt64.toUInt64 &&& Int64.toUInt64 63)).toInt64) &&& 255) := ⟨_, rfl⟩
      rw [← hx1] at nE ⊢
      rw [if_neg (fun z => by rw [uN_0, nE] at z; omega)]
      have n2 : uN (((x1 - 127) + 1023) <<< ((52 : Int32).toInt64 &&& 63)) = (E + 896) * 4503599627370496 := by
        rw [show uN (((x1 - 127) + 1023) <<< ((52 : Int32).toInt64 &&& 63)) = uN ((x1 - 127) + 1023) * 2 ^ 52 % 18446744073709551616 from uN_shl (k := 52) (by decide), uN_add, uN_sub, nE, show uN 127 = 127 from rfl, show uN 1023 = 1023 from rfl]
        omega
      have nT : uN ((v &&& 8388607) <<< ((29 : Int32).toInt64 &&& 63)) = T * 536870912 := by
        rw [show uN ((v &&& 8388607) <<< ((29 : Int32).toInt64 &&& 63)) = uN (v &&& 8388607) * 2 ^ 29 % 18446744073709551616 from uN_shl (k := 29) (by decide), uN_and, show uN 8388607 = 2 ^ 23 - 1 from rfl, Nat.and_two_pow_sub_one_eq_mod, hv]
        split <;> omega
      have nO1 : uN (s0 ||| (((x1 - 127) + 1023) <<< ((52 : Int32).toInt64 &&& 63))) = 2 ^ 52 * (X / 2147483648 * 2048 + E + 896) := by
        rw [uN_or, hs0, n2]
        rcases (show X / 2147483648 = 0 ∨ X / 2147483648 = 1 by omega) with z | z
        · rw [z, Nat.zero_mul, Nat.zero_or]; omega
        · rw [z, Nat.one_mul, Nat.or_comm, show (9223372036854775808 : Nat) = 2 ^ 63 from rfl, or_top (by omega)]; omega
      have : (s0 ||| (((x1 - 127) + 1023) <<< ((52 : Int32).toInt64 &&& 63))) ||| ((v &&& 8388607) <<< ((29 : Int32).toInt64 &&& 63)) = gB v := uN_inj (by
        rw [uN_or, nO1, nT, ← Nat.two_pow_add_eq_or_of_lt (by omega), hg]
        omega)
      rw [this]
      exact H
    unfold F_X4_doubleOfFloat
    simp only [lg_cmp_ge, ge0, uN_int]
    by_cases z : X < 2147483648
    · rw [if_pos z] at hv
      rw [if_pos (by rw [hv, if_pos (by omega)]; omega)]
      exact fin 0 (by rw [show uN 0 = 0 from rfl]; omega)
    · rw [if_neg z] at hv
      rw [if_neg (by rw [hv, if_neg (by omega)]; omega)]
      exact fin _ (by rw [show uN (-9223372036854775808) = 9223372036854775808 from rfl]; omega)
end Fl5
