section Fl7
variable {d u : Nat} {h : MH}
def kD (n : Nat) : Int := if 9223372036854775808 ≤ n then -((n % 9223372036854775808 : Nat) : Int) else ((n % 9223372036854775808 : Nat) : Int)
theorem kD_key {n : Nat} : FP.Core.key FP.Core.b64 n = kD n := by
  unfold FP.Core.key kD FP.Core.mag
  rw [show FP.Core.half FP.Core.b64 = 9223372036854775808 from FP.Core.half_b64]
  unfold FP.Core.signed
  by_cases z : 9223372036854775808 ≤ n
  · simp [z]
  · simp [z]
theorem dcmp_kD {x y : UInt64} (hx : FP.Core.val64 x ≠ .nan) (hy : FP.Core.val64 y ≠ .nan) : FP.dcmp x y = some (compare (kD x.toNat) (kD y.toNat)) := by
  rw [← kD_key, ← kD_key]
  exact FP.Core.cmp_key FP.Core.good_b64 (FP.Core.lt_full64 x) (FP.Core.lt_full64 y) hx hy
theorem s_c68 {a b : Int64} {x y : UInt64} {Q : Int32 → MH → Prop} (hx : FP.Core.val64 x ≠ .nan) (hy : FP.Core.val64 y ≠ .nan) (H : Q (if kD x.toNat < kD y.toNat then -1 else if kD y.toNat < kD x.toNat then 1 else lsf a b) h) : F_X12_compared_68 d a b x y h u Q := by
  unfold F_X12_compared_68
  rw [dcmp_kD hx hy]
  obtain ⟨i, hi⟩ : ∃ i, i = kD x.toNat := ⟨_, rfl⟩
  obtain ⟨j, hj⟩ : ∃ j, j = kD y.toNat := ⟨_, rfl⟩
  rw [← hi, ← hj] at H ⊢
  rcases Int.lt_trichotomy i j with z | z | z
  · rw [if_pos z] at H
    rw [show compare i j = .lt by simp only [compare, compareOfLessAndEq, z, if_true], if_neg (by decide)]
    exact H
  · subst z
    rw [if_neg (Int.lt_irrefl i), if_neg (Int.lt_irrefl i)] at H
    rw [show compare i i = .eq by simp only [compare, compareOfLessAndEq, Int.lt_irrefl, if_false, if_true], if_pos (by decide), if_pos (by decide)]
    unfold lsf at H
    simp only [lg_cmp_ge, lg_cmp_le]
    by_cases e : a = b
    · rw [if_pos e] at H
      rw [if_pos (by rw [e]; exact Int64.le_refl _), if_pos (by rw [e]; exact Int64.le_refl _)]
      exact H
    · rw [if_neg e] at H
      by_cases g : b ≤ a
      · rw [if_pos g] at H ⊢
        rw [if_neg (fun z => e (by rw [Int64.le_iff_toInt_le] at g z; exact Int64.toInt_inj.mp (by omega)))]
        exact H
      · rw [if_neg g] at H ⊢
        exact H
  · rw [if_neg (by omega), if_pos z] at H
    have n1 : ¬ i < j := by omega
    have n2 : ¬ i = j := by omega
    rw [show compare i j = .gt by simp only [compare, compareOfLessAndEq, n1, n2, if_false], if_pos (by decide), if_neg (by decide)]
    exact H
theorem xor_max {n : Nat} (h1 : 9223372036854775808 ≤ n) (h2 : n < 18446744073709551616) : n ^^^ 9223372036854775807 = 27670116110564327423 - n := by
  obtain ⟨m, rfl⟩ : ∃ m, n = 2 ^ 63 + m := ⟨n - 9223372036854775808, by omega⟩
  have hm : m < 2 ^ 63 := by omega
  rw [show (9223372036854775807 : Nat) = 2 ^ 63 - 1 from rfl, show 27670116110564327423 - (2 ^ 63 + m) = 2 ^ 64 - (m + 1) by omega]
  apply Nat.eq_of_testBit_eq
  intro i
  rw [Nat.testBit_xor, Nat.testBit_two_pow_sub_one, Nat.testBit_two_pow_sub_succ (by omega)]
  rcases Nat.lt_trichotomy i 63 with z | z | z
  · rw [Nat.testBit_two_pow_add_gt z m]
    have : i < 64 := by omega
    simp [z, this]
  · subst z
    rw [Nat.testBit_two_pow_add_eq, Nat.testBit_lt_two_pow hm]
    decide
  · have p : (2 : Nat) ^ 64 ≤ 2 ^ i := Nat.pow_le_pow_right (by decide) (by omega)
    rw [Nat.testBit_lt_two_pow (show 2 ^ 63 + m < 2 ^ i by omega)]
    have a1 : ¬ i < 63 := by omega
    have a2 : ¬ i < 64 := by omega
    simp [a1, a2]
theorem rnk_int {l : Int32} {x : Int64} (hl : l = 6 ∨ l = 7) : (rnk l x).toInt = if uN x < 9223372036854775808 then (uN x : Int) else 9223372036854775807 - (uN x : Int) := by
  have hx := uN_lt x
  have g : 0 ≤ x ↔ uN x < 9223372036854775808 := by
    rw [ge0, uN_int]
    by_cases z : uN x < 9223372036854775808
    · rw [if_pos z]; omega
    · rw [if_neg z]; omega
  unfold rnk
  by_cases z : uN x < 9223372036854775808
  · rw [if_pos z, if_neg (fun q => q.2 (g.mpr z)), uN_int, if_pos z]
  · rw [if_neg z, if_pos ⟨hl, fun q => z (g.mp q)⟩]
    have : uN (x ^^^ 9223372036854775807) = 27670116110564327423 - uN x := by
      rw [show uN (x ^^^ 9223372036854775807) = uN x ^^^ 9223372036854775807 from UInt64.toNat_xor x.toUInt64 _]
      exact xor_max (by omega) hx
    rw [uN_int, this, if_neg (by omega)]
    omega
theorem lsf_int {a b : Int64} : lsf a b = if a.toInt = b.toInt then 0 else if b.toInt ≤ a.toInt then 1 else -1 := by
  unfold lsf
  simp only [Int64.le_iff_toInt_le]
  by_cases e : a = b
  · rw [if_pos e, if_pos (by rw [e])]
  · rw [if_neg e, if_neg (fun z => e (Int64.toInt_inj.mp z))]
theorem cN_of {l : Int32} {a b : Int64} {i j : Int} (h1 : i < j → (rnk l a).toInt < (rnk l b).toInt) (h2 : j < i → (rnk l b).toInt < (rnk l a).toInt) (h3 : i = j → lsf a b = cN l a b) : (if i < j then -1 else if j < i then 1 else lsf a b) = cN l a b := by
  rcases Int.lt_trichotomy i j with z | z | z
  · have := h1 z
    rw [if_pos z]
    unfold cN
    rw [lsf_int, if_neg (by omega), if_neg (by omega)]
  · rw [if_neg (by omega), if_neg (by omega)]
    exact h3 z
  · have := h2 z
    rw [if_neg (by omega), if_pos z]
    unfold cN
    rw [lsf_int, if_neg (by omega), if_pos (by omega)]
theorem z_cmpF {l : Int32} {a b : Int64} (hl : l = 6 ∨ l = 7) (ha : numOK l a) (hb : numOK l b) {Q : Int32 → MH → Prop} (H : Q (cN l a b) h) : F_X12_compared d l a b h u Q := by
  have hal := uN_lt a
  have hbl := uN_lt b
  have ra := rnk_int (x := a) hl
  have rb := rnk_int (x := b) hl
  unfold F_X12_compared F_X12_compared_47
  rcases hl with e | e
  · rw [e, if_pos (by decide), if_pos rfl, if_pos rfl]
    obtain ⟨v, hav⟩ := ha.2.1 e
    obtain ⟨w, hbw⟩ := hb.2.1 e
    have ua := uN_fB (w := v)
    have ub := uN_fB (w := w)
    rw [← hav] at ua
    rw [← hbw] at ub
    have ea : a.toInt32.toUInt32 = FP.l2f v := by rw [hav]; exact fB_u
    have eb : b.toInt32.toUInt32 = FP.l2f w := by rw [hbw]; exact fB_u
    have ea2 : a.toInt32 = (FP.l2f v).toInt32 := by rw [hav]; exact fB_32
    have eb2 : b.toInt32 = (FP.l2f w).toInt32 := by rw [hbw]; exact fB_32
    rw [ea, eb, ea2, eb2]
    refine ⟨sn32_ok (FP.Core.FFin.ne_nan (FP.Core.l2f_fin v)), n64_ok f2d_nn, sn32_ok (FP.Core.FFin.ne_nan (FP.Core.l2f_fin w)), n64_ok f2d_nn, s_c68 f2d_nn f2d_nn ?_⟩
    have da := f2d_n (w := v)
    have db := f2d_n (w := w)
    have xa := (FP.l2f v).toNat_lt
    have xb := (FP.l2f w).toNat_lt
    obtain ⟨X, hX⟩ : ∃ X, X = (FP.l2f v).toNat := ⟨_, rfl⟩
    obtain ⟨Y, hY⟩ : ∃ Y, Y = (FP.l2f w).toNat := ⟨_, rfl⟩
    obtain ⟨M, hM⟩ : ∃ M, M = (FP.f2d (FP.l2f v)).toNat := ⟨_, rfl⟩
    obtain ⟨N, hN⟩ : ∃ N, N = (FP.f2d (FP.l2f w)).toNat := ⟨_, rfl⟩
    have fa : (M = 0 ∧ X = 0) ∨ (1065353216 ≤ X % 2147483648 ∧ X % 2147483648 < 2139095040 ∧ M = (X / 2147483648) * 9223372036854775808 + (X % 2147483648) * 536870912 + 4035225266123964416) := by
      by_cases z : v.toInt = 0
      · left
        rw [if_pos z] at da
        exact ⟨by omega, by rw [hX, l2f_0 z]; rfl⟩
      · right
        rw [if_neg z] at da
        have := l2f_nz z
        rw [hM, hX]
        exact ⟨this.1, this.2, da⟩
    have fb : (N = 0 ∧ Y = 0) ∨ (1065353216 ≤ Y % 2147483648 ∧ Y % 2147483648 < 2139095040 ∧ N = (Y / 2147483648) * 9223372036854775808 + (Y % 2147483648) * 536870912 + 4035225266123964416) := by
      by_cases z : w.toInt = 0
      · left
        rw [if_pos z] at db
        exact ⟨by omega, by rw [hY, l2f_0 z]; rfl⟩
      · right
        rw [if_neg z] at db
        have := l2f_nz z
        rw [hN, hY]
        exact ⟨this.1, this.2, db⟩
    rw [← hM, ← hN]
    rw [← hX] at ua xa
    rw [← hY] at ub xb
    have key : ∀ (X M : Nat) (ux : Nat) (r : Int), X < 2 ^ 32 → ux = (if X < 2147483648 then X else X + 18446744069414584320) → r = (if ux < 9223372036854775808 then (ux : Int) else 9223372036854775807 - (ux : Int)) → ((M = 0 ∧ X = 0) ∨ (1065353216 ≤ X % 2147483648 ∧ X % 2147483648 < 2139095040 ∧ M = (X / 2147483648) * 9223372036854775808 + (X % 2147483648) * 536870912 + 4035225266123964416)) → (X = 0 ∧ r = 0 ∧ kD M = 0) ∨ (1065353216 ≤ X ∧ X < 2139095040 ∧ r = X ∧ kD M = (X : Int) * 536870912 + 4035225266123964416) ∨ (2147483648 + 1065353216 ≤ X ∧ X < 2147483648 + 2139095040 ∧ r = - (9223372036854775808 : Int) + (4294967295 - (X : Int)) ∧ kD M = - (((X : Int) - 2147483648) * 536870912 + 4035225266123964416)) := by
      intro X M ux r hX h1 h2 h3
      unfold kD
      rcases h3 with ⟨z1, z2⟩ | ⟨z1, z2, z3⟩
      · left
        subst z1 z2
        rw [if_pos (by decide)] at h1
        subst h1
        rw [if_pos (by decide)] at h2
        exact ⟨rfl, h2, by decide⟩
      · by_cases q : X < 2147483648
        · right; left
          rw [if_pos q] at h1
          subst h1
          rw [if_pos (by omega)] at h2
          refine ⟨by omega, by omega, h2, ?_⟩
          rw [if_neg (by omega)]
          omega
        · right; right
          rw [if_neg q] at h1
          rw [if_neg (by omega)] at h2
          refine ⟨by omega, by omega, by omega, ?_⟩
          rw [if_pos (by omega)]
          omega
    have ka := key X M (uN a) _ (by omega) ua ra fa
    have kb := key Y N (uN b) _ (by omega) ub rb fb
    have hc : (if kD M < kD N then -1 else if kD N < kD M then 1 else lsf a b) = cN l a b := by
      refine cN_of ?_ ?_ ?_
      · intro z
        rcases ka with ⟨p1, p2, p3⟩ | ⟨p1, p2, p3, p4⟩ | ⟨p1, p2, p3, p4⟩ <;> rcases kb with ⟨q1, q2, q3⟩ | ⟨q1, q2, q3, q4⟩ | ⟨q1, q2, q3, q4⟩ <;> omega
      · intro z
        rcases ka with ⟨p1, p2, p3⟩ | ⟨p1, p2, p3, p4⟩ | ⟨p1, p2, p3, p4⟩ <;> rcases kb with ⟨q1, q2, q3⟩ | ⟨q1, q2, q3, q4⟩ | ⟨q1, q2, q3, q4⟩ <;> omega
      · intro z
        have : X = Y := by
          rcases ka with ⟨p1, p2, p3⟩ | ⟨p1, p2, p3, p4⟩ | ⟨p1, p2, p3, p4⟩ <;> rcases kb with ⟨q1, q2, q3⟩ | ⟨q1, q2, q3, q4⟩ | ⟨q1, q2, q3, q4⟩ <;> omega
        have hab : a = b := uN_inj (by rw [ua, ub, this])
        unfold cN
        rw [hab, lsf_int, lsf_int, if_pos rfl, if_pos rfl]
    rw [hc]
    exact H
  · rw [e, if_pos (by decide), if_neg (by decide), if_neg (by decide)]
    have nn : ∀ x, numOK l x → FP.Core.val64 x.toUInt64 ≠ .nan := by
      intro x hx
      rcases hx.2.2 e with ⟨v, rfl⟩ | ⟨v, rfl⟩
      · exact FP.Core.DFin.ne_nan (FP.Core.l2d_fin v)
      · have : (gB (fB v)).toUInt64 = FP.f2d (FP.l2f v) := by unfold gB; rw [fB_u]; rfl
        rw [this]
        exact f2d_nn
    refine ⟨sn64_ok (nn a ha), sn64_ok (nn b hb), s_c68 (nn a ha) (nn b hb) ?_⟩
    have hc : (if kD (uN a) < kD (uN b) then -1 else if kD (uN b) < kD (uN a) then 1 else lsf a b) = cN l a b := by
      have ia := uN_int (x := a)
      have ib := uN_int (x := b)
      unfold kD
      refine cN_of ?_ ?_ ?_
      · rw [ra, rb]
        intro z
        split at z <;> split at z <;> split <;> split <;> omega
      · rw [ra, rb]
        intro z
        split at z <;> split at z <;> split <;> split <;> omega
      · intro z
        unfold cN
        rw [lsf_int, lsf_int, ra, rb, ia, ib]
        split at z <;> split at z <;> split <;> split <;> split <;> (try split) <;> (try split) <;> (try split) <;> (try rfl) <;> omega
    have : (if kD a.toUInt64.toNat < kD b.toUInt64.toNat then -1 else if kD b.toUInt64.toNat < kD a.toUInt64.toNat then 1 else lsf a b) = cN l a b := hc
    rw [this]
    exact H
end Fl7
