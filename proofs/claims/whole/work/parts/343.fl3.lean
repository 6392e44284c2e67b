section Fl3
variable {d u : Nat} {h : MH}
theorem uN_nI : ∀ k, k < 2048 → uN (nI k).toInt64 = k := by decide +kernel
/-- the class's rounding of a magnitude -/
theorem s_rB {v : Int64} {a t P E c : Nat} (ha : uN v = a) (h1 : 2 ^ t ≤ a) (h2 : a < 2 ^ (t + 1)) (ht : t ≤ 63) (hP : 1 ≤ P) (hP2 : P ≤ 52) (hE : E ≤ 1023) (hc : c = if t ≤ P then a * 2 ^ (P - t) else FP.Core.nearest a (2 ^ (t - P))) (c1 : 2 ^ P ≤ c) (c2 : c ≤ 2 * 2 ^ P) {Q : Int64 → MH → Prop} (H : ∀ r, uN r = (t + E) * 2 ^ P + (c - 2 ^ P) → Q r h) : F_X4_roundedBits_20 d (nI P) (nI E) v h u Q := by
  have pP : 2 ^ P ≤ 2 ^ 52 := Nat.pow_le_pow_right (by decide) hP2
  have e52 : (2 : Nat) ^ 52 = 4503599627370496 := by decide
  have hA : (t + E) * 2 ^ P ≤ 1086 * 2 ^ 52 := Nat.mul_le_mul (by omega) pP
  rw [e52] at pP hA
  have fin : ∀ s0 : Int64, uN s0 = c → F_X4_roundedBits_54 d (nI P) (nI E) (nI t) s0 h u Q := by
    intro s0 hs0
    unfold F_X4_roundedBits_54
    refine H _ ?_
    rw [uN_add, uN_shl (by omega), uN_sub, uN_shl (by omega), hs0, nI_add, uN_nI (t + E) (by omega), show uN 1 = 1 from rfl, Nat.one_mul]
    omega
  unfold F_X4_roundedBits_20 F_X4_topBit
  refine s_top (d := d) (u := 0) ha h1 h2 ?_ 63 ht (Nat.le_refl _)
  by_cases hlt : t ≤ P
  · rw [if_pos hlt] at hc
    rw [if_neg (show ¬ nI P < nI t from nI_nlt (by omega) (by omega))]
    refine fin _ ?_
    have e : nI P - nI t = nI (P - t) := by
      have := nI_add (P - t) t
      rw [show P - t + t = P by omega] at this
      rw [← this, Int32.add_sub_cancel]
    rw [e, uN_shl (by omega), ha, ← hc]
    omega
  · rw [if_neg hlt] at hc
    rw [if_pos (show nI P < nI t from nI_lt (by omega) (by omega))]
    have e : nI t - nI P = nI (t - P) := by
      have := nI_add (t - P) P
      rw [show t - P + P = t by omega] at this
      rw [← this, Int32.add_sub_cancel]
    rw [e]
    exact s_rOff ha (by omega) (by omega) (fun r hr => fin r (by rw [hr, ← hc]))
theorem log2_top {a : Nat} (h : a ≠ 0) : 2 ^ a.log2 ≤ a ∧ a < 2 ^ (a.log2 + 1) := ⟨Nat.log2_self_le h, Nat.lt_log2_self⟩
/-- the bits of a whole number, both sides -/
theorem s_bits {f : FP.Core.Fmt} (hf : FP.Core.Good f) {v : Int64} {P E : Nat} (hp : f.p - 1 = P) (hE : f.emax = E) (hP : 1 ≤ P) (hP2 : P ≤ 52) (hE2 : E ≤ 1023) (hq : f.qmin ≤ -(P : Int)) (hm : 64 - (P : Int) ≤ f.qmax) {Q : Int64 → MH → Prop} (H : ∀ r, v.toInt = 0 ∨ v.toInt ≠ 0 → (v.toInt = 0 → uN r = 0) → (v.toInt ≠ 0 → FP.Core.fromInt f v.toInt = (decide (v.toInt < 0)).toNat * f.exps * f.tails + uN r ∧ uN r < 1088 * 2 ^ P ∧ uN r < (64 + E + 1) * 2 ^ P) → Q r h) : F_X4_roundedBits d v (nI P) (nI E) h u Q := by
  have hvl := uN_lt v
  unfold F_X4_roundedBits
  simp only [lg_cmp_eq, lg_cmp_ge]
  by_cases h0 : v = 0
  · rw [if_pos h0]
    subst h0
    exact H 0 (Or.inl rfl) (fun _ => rfl) (fun z => absurd rfl z)
  · rw [if_neg h0]
    have hne : v.toInt ≠ 0 := fun z => h0 (Int64.toInt_inj.mp (z.trans rfl))
    have key : ∀ w : Int64, uN w = v.toInt.natAbs → F_X4_roundedBits_20 d (nI P) (nI E) w h u Q := by
      intro w hw
      have hwl := uN_lt w
      obtain ⟨t1, t2⟩ := log2_top (a := v.toInt.natAbs) (by omega)
      obtain ⟨t, htd⟩ : ∃ t, t = v.toInt.natAbs.log2 := ⟨_, rfl⟩
      rw [← htd] at t1 t2
      have ht : t ≤ 63 := by
        rcases Nat.lt_or_ge t 64 with z | z
        · omega
        · have : (2 : Nat) ^ 64 ≤ 2 ^ t := Nat.pow_le_pow_right (by decide) z
          have e64 : (2 : Nat) ^ 64 = 18446744073709551616 := by decide
          omega
      have hp2 := hf.2
      obtain ⟨c1, c2, c3⟩ := fi_val hf (i := v.toInt) (t := t) (c := _) t1 t2 (by omega) (by omega) rfl
      have htl : f.tails = 2 ^ P := by rw [← hp]; rfl
      rw [hp] at c1 c2 c3
      rw [htl] at c1 c2 c3
      refine s_rB hw t1 t2 ht hP hP2 hE2 rfl c1 c2 (fun r hr => H r (Or.inr hne) (fun z => absurd z hne) (fun _ => ?_))
      rw [c3, hr, htl, hE]
      have hb : (t + E) * 2 ^ P ≤ 1086 * 2 ^ P := Nat.mul_le_mul_right _ (by omega)
      have hb2 : (t + E) * 2 ^ P ≤ (63 + E) * 2 ^ P := Nat.mul_le_mul_right _ (by omega)
      have e3 : (64 + E + 1) * 2 ^ P = (63 + E) * 2 ^ P + 2 * 2 ^ P := by rw [← Nat.add_mul]; congr 1; omega
      have pp : 0 < 2 ^ P := Nat.two_pow_pos P
      refine ⟨?_, by omega, by omega⟩
      rw [Nat.add_mul, Nat.add_assoc]
    by_cases hn : 0 ≤ v
    · rw [if_pos hn]
      refine key v ?_
      rw [Int64.le_iff_toInt_le] at hn
      have e0 : (0 : Int64).toInt = 0 := rfl
      rw [e0, uN_int] at hn
      rw [uN_int]
      split at hn <;> rename_i z
      · rw [if_pos z]; rfl
      · omega
    · rw [if_neg hn]
      refine key (-v) ?_
      rw [Int64.le_iff_toInt_le] at hn
      have e0 : (0 : Int64).toInt = 0 := rfl
      rw [e0, uN_int] at hn
      rw [uN_neg, uN_int]
      split at hn <;> rename_i z
      · omega
      · rw [if_neg z]; omega
end Fl3
