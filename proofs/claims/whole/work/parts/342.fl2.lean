section Fl2
def uN (x : Int64) : Nat := x.toUInt64.toNat
theorem uN_lt (x : Int64) : uN x < 18446744073709551616 := x.toUInt64.toNat_lt
theorem uN_inj {x y : Int64} (h : uN x = uN y) : x = y := by
  have : x.toUInt64 = y.toUInt64 := UInt64.toNat_inj.mp h
  cases x; cases y; cases this; rfl
theorem uN_add {x y : Int64} : uN (x + y) = (uN x + uN y) % 18446744073709551616 := UInt64.toNat_add x.toUInt64 y.toUInt64
theorem uN_sub {x y : Int64} : uN (x - y) = (18446744073709551616 - uN y + uN x) % 18446744073709551616 := UInt64.toNat_sub x.toUInt64 y.toUInt64
theorem uN_neg {x : Int64} : uN (-x) = (18446744073709551616 - uN x) % 18446744073709551616 := by
  have e : -x = 0 - x := by rw [Int64.zero_sub]
  rw [e, uN_sub, show uN 0 = 0 from rfl, Nat.add_zero]
theorem uN_and {x y : Int64} : uN (x &&& y) = uN x &&& uN y := UInt64.toNat_and x.toUInt64 y.toUInt64
theorem uN_or {x y : Int64} : uN (x ||| y) = uN x ||| uN y := UInt64.toNat_or x.toUInt64 y.toUInt64
theorem uN_int {x : Int64} : x.toInt = if uN x < 9223372036854775808 then (uN x : Int) else (uN x : Int) - 18446744073709551616 := by
  have : x.toInt = if 2 * uN x < 2 ^ 64 then (uN x : Int) else (uN x : Int) - ((2 ^ 64 : Nat) : Int) := rfl
  rw [this]
  have := uN_lt x
  split <;> split <;> omega
theorem shr_k : ∀ k, k < 64 → ((nI k).toInt64.toUInt64 &&& Int64.toUInt64 63).toNat = k := by decide +kernel
theorem uN_shr {x : Int64} {k : Nat} (hk : k < 64) : uN ((x.toUInt64 >>> ((nI k).toInt64.toUInt64 &&& Int64.toUInt64 63)).toInt64) = uN x / 2 ^ k := by
  show (x.toUInt64 >>> ((nI k).toInt64.toUInt64 &&& Int64.toUInt64 63)).toNat = _
  rw [UInt64.toNat_shiftRight, shr_k k hk, Nat.mod_eq_of_lt hk, Nat.shiftRight_eq_div_pow]; rfl
theorem shl_k : ∀ k, k < 64 → (((nI k).toInt64 &&& 63).toBitVec.smod 64).toNat = k := by decide +kernel
theorem uN_shl {x : Int64} {k : Nat} (hk : k < 64) : uN (x <<< ((nI k).toInt64 &&& 63)) = uN x * 2 ^ k % 18446744073709551616 := by
  show (x.toBitVec <<< (((nI k).toInt64 &&& 63).toBitVec.smod 64)).toNat = _
  rw [BitVec.shiftLeft_eq', BitVec.toNat_shiftLeft, shl_k k hk, Nat.shiftLeft_eq]; rfl
theorem uN_0 {x : Int64} : x = 0 ↔ uN x = 0 := ⟨fun h => by rw [h]; rfl, fun h => uN_inj (h.trans rfl)⟩
theorem z_pm1 {n : Nat} : nI (n + 1) - 1 = nI n := by rw [← nI_1, nI_1, nI_pred]
theorem nIm1 {k : Nat} : nI (k + 1) + (-1) = nI k := by
  have := z_pm1 (n := k)
  rw [← this]
  rw [Int32.sub_eq_add_neg]
variable {d u : Nat} {h : MH}
theorem s_top {v : Int64} {a t : Nat} (ha : uN v = a) (h1 : 2 ^ t ≤ a) (h2 : a < 2 ^ (t + 1)) {Q : Int32 → MH → Prop} (H : Q (nI t) h) : ∀ k, t ≤ k → k ≤ 63 → L_X4_topBit_3 d v (nI k) h u Q := by
  intro k
  induction k with
  | zero =>
    intro hk _
    unfold L_X4_topBit_3
    refine E_X4_topBit_3 ?_
    unfold F_X4_topBit_3
    rw [if_pos (show nI 0 ≤ (0 : Int32) by decide)]
    have : t = 0 := by omega
    subst this
    exact H
  | succ k ih =>
    intro hk h63
    unfold L_X4_topBit_3
    refine E_X4_topBit_3 ?_
    unfold F_X4_topBit_3
    rw [if_neg (show ¬ nI (k + 1) ≤ (0 : Int32) from nI_ge (a := 0) (by omega) (by omega))]
    simp only [lg_cmp_eq]
    by_cases e : t = k + 1
    · subst e
      rw [if_neg (fun z => by
        rw [uN_0, uN_shr (by omega), ha, Nat.div_eq_zero_iff] at z
        have := Nat.two_pow_pos (k + 1)
        omega)]
      exact H
    · have hle : 2 ^ (t + 1) ≤ 2 ^ (k + 1) := Nat.pow_le_pow_right (by decide) (by omega)
      rw [if_pos (by
        rw [uN_0, uN_shr (by omega), ha, Nat.div_eq_zero_iff]
        right; omega), nIm1]
      exact ih (by omega) (by omega)
theorem uN_slt {x y : Int64} (hx : uN x < 9223372036854775808) (hy : uN y < 9223372036854775808) : x < y ↔ uN x < uN y := by
  rw [Int64.lt_iff_toInt_lt, uN_int, uN_int, if_pos hx, if_pos hy]
  omega
theorem s_rOff {v : Int64} {a k : Nat} (ha : uN v = a) (hk : 1 ≤ k) (hk2 : k ≤ 62) {Q : Int64 → MH → Prop} (H : ∀ r, uN r = FP.Core.nearest a (2 ^ k) → Q r h) : F_X4_roundedOff d v (nI k) h u Q := by
  have hlt := uN_lt v
  rw [ha] at hlt
  have p62 : 2 ^ k ≤ 2 ^ 62 := Nat.pow_le_pow_right (by decide) hk2
  have pk : 2 ^ k = 2 * 2 ^ (k - 1) := by rw [← Nat.pow_succ']; congr 1; omega
  have ppos : 0 < 2 ^ (k - 1) := Nat.two_pow_pos _
  have e62 : (2 : Nat) ^ 62 = 4611686018427387904 := by decide
  rw [e62] at p62
  obtain ⟨x1, hx1⟩ : ∃ x1, x1 = ((v.toUInt64 >>> ((nI k).toInt64.toUInt64 &&& Int64.toUInt64 63)).toInt64) := ⟨_, rfl⟩
  obtain ⟨x2, hx2⟩ : ∃ x2, x2 = (v &&& (((1 : Int64) <<< ((nI k).toInt64 &&& 63)) - 1)) := ⟨_, rfl⟩
  obtain ⟨x3, hx3⟩ : ∃ x3, x3 = ((1 : Int64) <<< ((nI k - 1).toInt64 &&& 63)) := ⟨_, rfl⟩
  have n1 : uN x1 = a / 2 ^ k := by rw [hx1, uN_shr (by omega), ha]
  have nm1 : uN (((1 : Int64) <<< ((nI k).toInt64 &&& 63)) - 1) = 2 ^ k - 1 := by
    rw [uN_sub, uN_shl (by omega), show uN 1 = 1 from rfl, Nat.one_mul]
    omega
  have n2 : uN x2 = a % 2 ^ k := by
    rw [hx2, uN_and, nm1, ha, Nat.and_two_pow_sub_one_eq_mod]
  have n3 : uN x3 = 2 ^ (k - 1) := by
    rw [hx3, show nI k - 1 = nI (k - 1) by
      obtain ⟨j, rfl⟩ : ∃ j, k = j + 1 := ⟨k - 1, by omega⟩
      exact z_pm1, uN_shl (by omega), show uN 1 = 1 from rfl, Nat.one_mul]
    omega
  have hmod : a % 2 ^ k < 2 ^ k := Nat.mod_lt _ (Nat.two_pow_pos k)
  have hdiv : a / 2 ^ k < 9223372036854775808 := by
    have : a / 2 ^ k ≤ a / 2 := Nat.div_le_div_left (by omega) (by decide)
    omega
  unfold F_X4_roundedOff nm
  rw [← hx1, ← hx2, ← hx3]
  simp only [lg_cmp_gt, lg_cmp_eq]
  unfold F_X4_roundedOff_44 F_X4_roundedOff_48 F_X4_roundedOff_49
  have hs : x3 < x2 ↔ 2 ^ (k - 1) < a % 2 ^ k := by rw [uN_slt (by omega) (by omega), n2, n3]
  have he : x2 = x3 ↔ a % 2 ^ k = 2 ^ (k - 1) := ⟨fun z => by rw [← n2, ← n3, z], fun z => uN_inj (by rw [n2, n3, z])⟩
  have ho : x1 &&& 1 = 0 ↔ a / 2 ^ k % 2 = 0 := by
    rw [uN_0, uN_and, show uN 1 = 1 from rfl, Nat.and_one_is_mod, n1]
  have hup : uN (x1 + 1) = a / 2 ^ k + 1 := by
    rw [uN_add, n1, show uN 1 = 1 from rfl]; omega
  simp only [hs, he, ho]
  have hnear : FP.Core.nearest a (2 ^ k) = if 2 * (a % 2 ^ k) < 2 ^ k then a / 2 ^ k else if 2 ^ k < 2 * (a % 2 ^ k) then a / 2 ^ k + 1 else a / 2 ^ k + a / 2 ^ k % 2 := rfl
  by_cases g : 2 ^ (k - 1) < a % 2 ^ k
  · rw [if_pos g, if_neg (by decide)]
    exact H _ (by rw [hup, hnear, if_neg (by omega), if_pos (by omega)])
  · rw [if_neg g]
    by_cases e : a % 2 ^ k = 2 ^ (k - 1)
    · rw [if_pos e]
      by_cases o : a / 2 ^ k % 2 = 0
      · rw [if_pos o, if_pos trivial]
        exact H _ (by rw [n1, hnear, if_neg (by omega), if_neg (by omega), o, Nat.add_zero])
      · rw [if_neg o, if_neg (by decide)]
        exact H _ (by rw [hup, hnear, if_neg (by omega), if_neg (by omega)]; omega)
    · rw [if_neg e, if_pos trivial]
      exact H _ (by rw [n1, hnear, if_pos (by omega)])
end Fl2
