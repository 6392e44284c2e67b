section Fl4
variable {d u : Nat} {h : MH}
def uM (x : Int32) : Nat := x.toUInt32.toNat
theorem uM_inj {x y : Int32} (h : uM x = uM y) : x = y := by
  have : x.toUInt32 = y.toUInt32 := UInt32.toNat_inj.mp h
  cases x; cases y; cases this; rfl
theorem uM_32 {x : Int64} : uM x.toInt32 = uN x % 4294967296 := by
  show (x.toBitVec.signExtend 32).toNat = _
  rw [BitVec.signExtend_eq_setWidth_of_le _ (by decide), BitVec.toNat_setWidth]; rfl
theorem uM_or {x y : Int32} : uM (x ||| y) = uM x ||| uM y := UInt32.toNat_or x.toUInt32 y.toUInt32
theorem or_top {i b : Nat} (hb : b < 2 ^ i) : b ||| 2 ^ i = 2 ^ i + b := by
  have := Nat.two_pow_add_eq_or_of_lt hb 1
  rw [Nat.mul_one] at this
  rw [Nat.or_comm, ← this]
theorem uN_dB {v : Int64} : uN (dB v) = FP.Core.fromInt FP.Core.b64 v.toInt := FP.Core.toNat_l2d v
theorem uM_l2f {v : Int64} : uM (FP.l2f v).toInt32 = FP.Core.fromInt FP.Core.b32 v.toInt := FP.Core.toNat_l2f v
theorem ge0 {v : Int64} : 0 ≤ v ↔ ¬ v.toInt < 0 := by
  rw [Int64.le_iff_toInt_le, show (0 : Int64).toInt = 0 from rfl]; omega
theorem s_doubleBits {v : Int64} {Q : Int64 → MH → Prop} (H : Q (dB v) h) : F_X4_doubleBits d v h u Q := by
  unfold F_X4_doubleBits
  refine s_bits (f := FP.Core.b64) (P := 52) (E := 1023) FP.Core.good_b64 rfl (by decide +kernel) (by decide) (by decide) (by decide) (by decide +kernel) (by decide +kernel) (fun r _ r0 r1 => ?_)
  simp only [lg_cmp_ge, ge0]
  by_cases z : v.toInt = 0
  · have hv : v = 0 := Int64.toInt_inj.mp (z.trans rfl)
    rw [if_pos (by omega)]
    have : r = dB v := uN_inj (by rw [r0 z, hv]; decide +kernel)
    rw [this]
    exact H
  · obtain ⟨e1, e2, -⟩ := r1 z
    have e3 : FP.Core.b64.exps * FP.Core.b64.tails = 9223372036854775808 := by decide +kernel
    rw [Nat.mul_assoc, e3] at e1
    by_cases n : v.toInt < 0
    · rw [if_neg (fun q => q n)]
      have : r ||| (-9223372036854775808) = dB v := uN_inj (by
        rw [uN_or, show uN (-9223372036854775808) = 2 ^ 63 from rfl, or_top (by omega), uN_dB, e1]
        simp [n])
      rw [this]
      exact H
    · rw [if_pos n]
      have : r = dB v := uN_inj (by
        rw [uN_dB, e1]
        simp [n])
      rw [this]
      exact H
theorem s_floatBits {v : Int64} {Q : Int64 → MH → Prop} (H : Q (fB v) h) : F_X4_floatBits d v h u Q := by
  unfold F_X4_floatBits
  refine s_bits (f := FP.Core.b32) (P := 23) (E := 127) FP.Core.good_b32 rfl (by decide +kernel) (by decide) (by decide) (by decide) (by decide +kernel) (by decide +kernel) (fun r _ r0 r1 => ?_)
  simp only [lg_cmp_ge, ge0]
  unfold fB at H
  by_cases z : v.toInt = 0
  · have hv : v = 0 := Int64.toInt_inj.mp (z.trans rfl)
    rw [if_pos (by omega)]
    have : r.toInt32 = (FP.l2f v).toInt32 := uM_inj (by rw [uM_32, r0 z, hv]; decide +kernel)
    rw [this]
    exact H
  · obtain ⟨e1, -, e2⟩ := r1 z
    have e3 : FP.Core.b32.exps * FP.Core.b32.tails = 2147483648 := by decide +kernel
    rw [Nat.mul_assoc, e3] at e1
    have hr : uN r < 2147483648 := by omega
    by_cases n : v.toInt < 0
    · rw [if_neg (fun q => q n)]
      have : r.toInt32 ||| (-2147483648) = (FP.l2f v).toInt32 := uM_inj (by
        rw [uM_or, uM_32, Nat.mod_eq_of_lt (by omega), show uM (-2147483648) = 2 ^ 31 from rfl, or_top (by omega), uM_l2f, e1]
        simp [n])
      rw [this]
      exact H
    · rw [if_pos n]
      have : r.toInt32 = (FP.l2f v).toInt32 := uM_inj (by
        rw [uM_32, Nat.mod_eq_of_lt (by omega), uM_l2f, e1]
        simp [n])
      rw [this]
      exact H
theorem j_f2i {x : UInt32} (hx : FP.Core.val32 x ≠ .nan) {Q : Int32 → MH → Prop} (H : Q x.toInt32 h) : F_Jxf58ca_floatToIntBits_5c35a d x h u Q := by
  unfold F_Jxf58ca_floatToIntBits_5c35a F_Jxf58ca_isNaN_12338
  rw [show FP.fcmp x x = some .eq from FP.Core.fcmp_self hx, if_pos (by decide)]
  refine ⟨nz_0, ?_⟩
  show (if (0 : Int32) = 0 then _ else _)
  rw [if_pos rfl]
  exact H
theorem j_d2l {x : UInt64} (hx : FP.Core.val64 x ≠ .nan) {Q : Int64 → MH → Prop} (H : Q x.toInt64 h) : F_Jxe99ae_doubleToLongBits_ccdee d x h u Q := by
  unfold F_Jxe99ae_doubleToLongBits_ccdee F_Jxe99ae_isNaN_b9ae7
  rw [show FP.dcmp x x = some .eq from FP.Core.dcmp_self hx, if_pos (by decide)]
  refine ⟨nz_0, ?_⟩
  show (if (0 : Int32) = 0 then _ else _)
  rw [if_pos rfl]
  exact H
theorem fl_lane {l : Int32} (hl : wi l 0 7 = true) (h0 : ¬ l = 0) (h1 : ¬ l = 1) (h2 : ¬ l = 2) (h3 : ¬ l = 3) (h4 : ¬ l = 4) (h5 : ¬ l = 5) (h6 : ¬ l = 6) : l = 7 := by
  unfold wi at hl
  simp only [Bool.and_eq_true, decide_eq_true_eq, Int32.le_iff_toInt_le] at hl
  have e : ∀ k : Nat, k < 8 → l.toInt = (k : Int) → l = nI k := fun k hk z => Int32.toInt_inj.mp (by rw [z, nI_toInt (by omega)])
  have e7 : (7 : Int32).toInt = 7 := rfl
  have e0 : (0 : Int32).toInt = 0 := rfl
  have n0 : l.toInt ≠ 0 := fun z => h0 (e 0 (by decide) z)
  have n1 : l.toInt ≠ 1 := fun z => h1 (e 1 (by decide) z)
  have n2 : l.toInt ≠ 2 := fun z => h2 (e 2 (by decide) z)
  have n3 : l.toInt ≠ 3 := fun z => h3 (e 3 (by decide) z)
  have n4 : l.toInt ≠ 4 := fun z => h4 (e 4 (by decide) z)
  have n5 : l.toInt ≠ 5 := fun z => h5 (e 5 (by decide) z)
  have n6 : l.toInt ≠ 6 := fun z => h6 (e 6 (by decide) z)
  exact e 7 (by decide) (by omega)
theorem z_come {l : Int32} {v : Int64} {Q : Int64 → MH → Prop} (hl : wi l 0 7 = true) (hq : Q (cm l v) h) : F_X4_come d l v h u Q := by
  unfold F_X4_come
  unfold cm at hq
  by_cases h0 : l = 0
  · rw [if_pos h0] at hq ⊢; exact hq
  rw [if_neg h0] at hq ⊢
  by_cases h1 : l = 1
  · rw [if_pos h1] at hq ⊢; exact hq
  rw [if_neg h1] at hq ⊢
  by_cases h2 : l = 2
  · rw [if_pos h2] at hq ⊢; exact hq
  rw [if_neg h2] at hq ⊢
  by_cases h3 : l = 3
  · rw [if_pos h3] at hq ⊢; exact hq
  rw [if_neg h3] at hq ⊢
  by_cases h4 : l = 4
  · rw [if_pos h4] at hq ⊢; exact hq
  rw [if_neg h4] at hq ⊢
  by_cases h5 : l = 5
  · rw [if_pos h5] at hq ⊢; exact hq
  rw [if_neg h5] at hq ⊢
  by_cases h6 : l = 6
  · rw [if_pos h6] at hq ⊢; exact s_floatBits hq
  rw [if_neg h6] at hq ⊢
  rw [if_pos (fl_lane hl h0 h1 h2 h3 h4 h5 h6)]
  exact s_doubleBits hq
theorem z_comes {l : Int32} {v : Int64} {Q : Int64 → MH → Prop} (hq : Q (cm l v) h) : F_X12_comes d l v h u Q := by
  unfold F_X12_comes
  unfold cm at hq
  by_cases h0 : l = 0
  · rw [if_pos h0] at hq ⊢; exact hq
  rw [if_neg h0] at hq ⊢
  by_cases h1 : l = 1
  · rw [if_pos h1] at hq ⊢; exact hq
  rw [if_neg h1] at hq ⊢
  by_cases h2 : l = 2
  · rw [if_pos h2] at hq ⊢; exact hq
  rw [if_neg h2] at hq ⊢
  by_cases h3 : l = 3
  · rw [if_pos h3] at hq ⊢; exact hq
  rw [if_neg h3] at hq ⊢
  by_cases h4 : l = 4
  · rw [if_pos h4] at hq ⊢; exact hq
  rw [if_neg h4] at hq ⊢
  by_cases h5 : l = 5
  · rw [if_pos h5] at hq ⊢; exact hq
  rw [if_neg h5] at hq ⊢
  by_cases h6 : l = 6
  · rw [if_pos h6] at hq ⊢; exact j_f2i (FP.Core.FFin.ne_nan (FP.Core.l2f_fin v)) hq
  rw [if_neg h6] at hq ⊢
  exact j_d2l (FP.Core.DFin.ne_nan (FP.Core.l2d_fin v)) hq
theorem z_cm_ok {l : Int32} {v : Int64} : numOK l (cm l v) := by
  refine ⟨fun e => ?_, fun e => ⟨v, ?_⟩, fun e => Or.inl ⟨v, ?_⟩⟩
  · subst e
    unfold cm
    rw [if_pos rfl]
    have : uN (v &&& 1) = uN v % 2 := by rw [uN_and, show uN 1 = 1 from rfl, Nat.and_one_is_mod]
    rcases Nat.mod_two_eq_zero_or_one (uN v) with z | z
    · exact Or.inl (uN_inj (by rw [this, z]; rfl))
    · exact Or.inr (uN_inj (by rw [this, z]; rfl))
  · subst e; rfl
  · subst e; rfl
end Fl4
