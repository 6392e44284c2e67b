section Fl1
theorem fi_val {f : FP.Core.Fmt} (hf : FP.Core.Good f) {i : Int} {t c : Nat} (h1 : 2 ^ t ≤ i.natAbs) (h2 : i.natAbs < 2 ^ (t + 1)) (hq : f.qmin ≤ (t : Int) - ((f.p : Int) - 1)) (hm : (t : Int) - ((f.p : Int) - 1) + 1 ≤ f.qmax) (hc : c = if t ≤ f.p - 1 then i.natAbs * 2 ^ (f.p - 1 - t) else FP.Core.nearest i.natAbs (2 ^ (t - (f.p - 1)))) :
    f.tails ≤ c ∧ c ≤ 2 * f.tails ∧ FP.Core.fromInt f i = ((decide (i < 0)).toNat * f.exps + (t + f.emax)) * f.tails + (c - f.tails) := by
  have hp := hf.2
  obtain ⟨a, ha⟩ : ∃ a, a = i.natAbs := ⟨_, rfl⟩
  rw [← ha] at h1 h2 hc
  have hpos : 0 < a := Nat.lt_of_lt_of_le (Nat.two_pow_pos t) h1
  obtain ⟨q, hqd⟩ : ∃ q, q = (t : Int) - ((f.p : Int) - 1) := ⟨_, rfl⟩
  rw [← hqd] at hq hm
  have hqe : FP.Core.quantum f a 1 0 = q := by
    refine FP.Core.quantum_eq hpos (by decide) hq ?_ (Or.inr ?_)
    · rw [show q - 0 + (f.p : Int) = ((t + 1 : Nat) : Int) - ((0 : Nat) : Int) by omega, FP.Core.below_iff]
      simpa using h2
    · rw [show q - 0 + ((f.p : Int) - 1) = ((t : Nat) : Int) - ((0 : Nat) : Int) by omega, FP.Core.below_iff]
      simpa using h1
  have htl : f.tails = 2 ^ (f.p - 1) := rfl
  have hn : FP.Core.nearest (FP.Core.unitsNum a 0 q) (FP.Core.unitsDen 1 0 q) = c ∧ f.tails ≤ c ∧ c ≤ 2 * f.tails := by
    unfold FP.Core.unitsNum FP.Core.unitsDen
    by_cases ht : t ≤ f.p - 1
    · rw [if_pos ht] at hc
      have e1 : (0 - q).toNat = f.p - 1 - t := by omega
      have e2 : (q - 0).toNat = 0 := by omega
      rw [e1, e2, ← hc]
      have eP : 2 ^ (f.p - 1) = 2 ^ t * 2 ^ (f.p - 1 - t) := by rw [← Nat.pow_add]; congr 1; omega
      have hx := FP.Core.nearest_exact c (B := 1) (by decide)
      rw [Nat.mul_one] at hx
      refine ⟨hx, ?_, ?_⟩
      · rw [htl, eP, hc]; exact Nat.mul_le_mul_right _ h1
      · rw [htl, eP, hc, ← Nat.mul_assoc, Nat.mul_comm 2 (2 ^ t), ← Nat.pow_succ]; exact Nat.mul_le_mul_right _ (Nat.le_of_lt h2)
    · rw [if_neg ht] at hc
      have e1 : (0 - q).toNat = 0 := by omega
      have e2 : (q - 0).toNat = t - (f.p - 1) := by omega
      rw [e1, e2, Nat.pow_zero, Nat.mul_one, Nat.one_mul]
      have eP : 2 ^ t = 2 ^ (f.p - 1) * 2 ^ (t - (f.p - 1)) := by rw [← Nat.pow_add]; congr 1; omega
      refine ⟨hc.symm, ?_, ?_⟩
      · rw [htl, hc]; exact FP.Core.nearest_ge (Nat.two_pow_pos _) (by rw [← eP]; exact h1)
      · rw [htl, hc]; exact FP.Core.nearest_le (Nat.two_pow_pos _) (by rw [Nat.mul_assoc, ← eP, Nat.mul_comm, ← Nat.pow_succ]; exact Nat.le_of_lt h2)
  obtain ⟨n1, n2, n3⟩ := hn
  refine ⟨n2, n3, ?_⟩
  unfold FP.Core.fromInt FP.Core.round FP.Core.ofInt
  simp only [FP.Core.roundRatio, ← ha]
  rw [if_neg (by omega), hqe]
  unfold FP.Core.roundAt
  rw [n1]
  unfold FP.Core.settle
  have hqm : f.qmin = 2 - (f.emax : Int) - (f.p : Int) := rfl
  rw [FP.Core.two_tails hf]
  by_cases hlt : c < 2 * f.tails
  · rw [if_pos hlt]
    unfold FP.Core.bound
    rw [if_pos (by omega)]
    unfold FP.Core.encode
    simp only
    rw [if_neg (by omega)]
    unfold FP.Core.assemble
    rw [show (q - f.qmin).toNat + 1 = t + f.emax by omega]
  · rw [if_neg hlt]
    have : c = 2 * f.tails := by omega
    unfold FP.Core.bound
    rw [if_pos (by omega)]
    unfold FP.Core.encode
    simp only
    rw [if_neg (by omega)]
    unfold FP.Core.assemble
    rw [show (q + 1 - f.qmin).toNat + 1 = t + f.emax + 1 by omega, this, ← Nat.add_assoc, Nat.add_mul]
    omega
end Fl1
