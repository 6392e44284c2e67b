section Fl6
variable {d u : Nat} {h : MH}
theorem sn32_ok {x : UInt32} (hx : FP.Core.val32 x ≠ .nan) : vn_sni2f x.toInt32 = false := by
  have h1 := (FP.Core.ne_nan32 x).mp hx
  have : ¬ (x &&& 0x7fffffff > 0x7f800000) := by
    intro z
    have z2 : (0x7f800000 : UInt32).toNat < (x &&& 0x7fffffff).toNat := UInt32.lt_iff_toNat_lt.mp z
    rw [UInt32.toNat_and, show (0x7fffffff : UInt32).toNat = 2 ^ 31 - 1 from rfl, Nat.and_two_pow_sub_one_eq_mod, show (0x7f800000 : UInt32).toNat = 2139095040 from rfl] at z2
    omega
  unfold vn_sni2f
  rw [show x.toInt32.toUInt32 = x from rfl]
  simp only [this, decide_false, Bool.false_and]
theorem m63 {x : UInt64} (hx : FP.Core.val64 x ≠ .nan) : (x &&& 0x7fffffffffffffff).toNat ≤ 9218868437227405312 := by
  have h1 := (FP.Core.ne_nan x).mp hx
  rw [UInt64.toNat_and, show (0x7fffffffffffffff : UInt64).toNat = 2 ^ 63 - 1 from rfl, Nat.and_two_pow_sub_one_eq_mod]
  exact h1
theorem sn64_ok {x : UInt64} (hx : FP.Core.val64 x ≠ .nan) : vn_snl2d x.toInt64 = false := by
  have : ¬ (x &&& 0x7fffffffffffffff > 0x7ff0000000000000) := by
    intro z
    have z2 : (0x7ff0000000000000 : UInt64).toNat < (x &&& 0x7fffffffffffffff).toNat := UInt64.lt_iff_toNat_lt.mp z
    have := m63 hx
    rw [show (0x7ff0000000000000 : UInt64).toNat = 9218868437227405312 from rfl] at z2
    omega
  unfold vn_snl2d
  rw [show x.toInt64.toUInt64 = x from rfl]
  simp only [this, decide_false, Bool.false_and]
theorem n64_ok {x : UInt64} (hx : FP.Core.val64 x ≠ .nan) : vf_n64 x := by
  unfold vf_n64
  rw [UInt64.le_iff_toNat_le]
  exact m63 hx
theorem z_widen {a b : Int32} {v : Int64} {Q : Int64 → MH → Prop} (hb : wi b 0 7 = true) (hv : numOK a v) (hq : Q (wd a b v) h) : F_X4_widen d a b v h u Q := by
  unfold F_X4_widen
  unfold wd at hq
  by_cases e : a = b
  · rw [if_pos e] at hq ⊢; exact hq
  rw [if_neg e] at hq ⊢
  have h56 : (5 < b) ↔ 6 ≤ b := by
    rw [Int32.lt_iff_toInt_lt, Int32.le_iff_toInt_le, show (5 : Int32).toInt = 5 from rfl, show (6 : Int32).toInt = 6 from rfl]; omega
  by_cases h6 : 6 ≤ b
  · rw [if_pos h6] at hq
    rw [if_pos (h56.mpr h6)]
    by_cases a6 : a = 6
    · rw [if_pos a6]
      obtain ⟨w, rfl⟩ := hv.2.1 a6
      rw [if_neg (fun z => e (a6.trans z.symm)), if_pos a6] at hq
      exact s_dOf hq
    · rw [if_neg a6]
      rw [if_neg a6] at hq
      refine z_come hb ?_
      by_cases b6 : b = 6
      · subst b6; exact hq
      · rw [if_neg b6] at hq
        have b7 : b = 7 := by
          have t := h6
          rw [Int32.le_iff_toInt_le, show (6 : Int32).toInt = 6 from rfl] at t
          have n : ∀ k : Nat, k < 6 → ¬ b = nI k := fun k hk z => by rw [z, nI_toInt (by omega)] at t; omega
          exact fl_lane hb (n 0 (by decide)) (n 1 (by decide)) (n 2 (by decide)) (n 3 (by decide)) (n 4 (by decide)) (n 5 (by decide)) b6
        subst b7; exact hq
  · rw [if_neg h6] at hq
    rw [if_neg (fun z => h6 (h56.mp z))]
    exact hq
theorem z_widened {a b : Int32} {v : Int64} {Q : Int64 → MH → Prop} (hv : numOK a v) (hq : Q (wd a b v) h) : F_X12_widened d a b v h u Q := by
  unfold F_X12_widened
  unfold wd at hq
  by_cases e : a = b
  · rw [if_pos e] at hq ⊢; exact hq
  rw [if_neg e] at hq ⊢
  by_cases h6 : 6 ≤ b
  · rw [if_pos h6] at hq ⊢
    by_cases b6 : b = 6
    · rw [if_pos b6] at hq ⊢
      exact j_f2i (FP.Core.FFin.ne_nan (FP.Core.l2f_fin v)) hq
    · rw [if_neg b6] at hq ⊢
      by_cases a6 : a = 6
      · rw [if_pos a6] at hq ⊢
        obtain ⟨w, rfl⟩ := hv.2.1 a6
        unfold gB at hq
        rw [fB_32]
        rw [fB_32] at hq
        refine ⟨sn32_ok (FP.Core.FFin.ne_nan (FP.Core.l2f_fin w)), n64_ok f2d_nn, j_d2l f2d_nn hq⟩
      · rw [if_neg a6] at hq ⊢
        exact j_d2l (FP.Core.DFin.ne_nan (FP.Core.l2d_fin v)) hq
  · rw [if_neg h6] at hq ⊢; exact hq
theorem z_wd_ok {a b : Int32} {v : Int64} (hw : isW a b = true) (hv : numOK a v) : numOK b (wd a b v) := by
  unfold wd
  by_cases e : a = b
  · rw [if_pos e, ← e]; exact hv
  rw [if_neg e]
  refine ⟨fun z => ?_, fun z => ?_, fun z => ?_⟩
  · exfalso
    unfold isW at hw
    simp only [e, decide_false, Bool.false_or, Bool.and_eq_true, decide_eq_true_eq, Int32.le_iff_toInt_le, show (1 : Int32).toInt = 1 from rfl] at hw
    rw [z, show (0 : Int32).toInt = 0 from rfl] at hw
    omega
  · rw [z, if_pos (by decide), if_pos rfl]
    exact ⟨v, rfl⟩
  · rw [z, if_pos (by decide), if_neg (by decide)]
    by_cases a6 : a = 6
    · rw [if_pos a6]
      obtain ⟨w, rfl⟩ := hv.2.1 a6
      exact Or.inr ⟨w, rfl⟩
    · rw [if_neg a6]
      exact Or.inl ⟨v, rfl⟩
end Fl6
