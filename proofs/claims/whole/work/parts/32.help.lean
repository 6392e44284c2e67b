/-! numbers as places -/
def ix (v : Int32) (n : Nat) : Option Nat := if ¬ v < 0 ∧ v.toNatClampNeg < n then some v.toNatClampNeg else none
def ixL (v : Int64) (n : Nat) : Option Nat := if 0 ≤ v.toInt ∧ v.toInt < n then some v.toInt.toNat else none
def wi (v lo hi : Int32) : Bool := decide (lo ≤ v) && decide (v ≤ hi)
theorem i32_rng (v : Int32) : -2147483648 ≤ v.toInt ∧ v.toInt < 2147483648 := ⟨v.le_toInt, v.toInt_lt⟩
theorem clampI (v : Int32) : v.toNatClampNeg = v.toInt.toNat := rfl
theorem i32_neg {v : Int32} : v < 0 ↔ v.toInt < 0 := by rw [Int32.lt_iff_toInt_lt]; rfl
theorem nI_toClamp {v : Int32} (h : ¬ v < 0) : v = nI v.toNatClampNeg := by
  obtain ⟨j, h1, h2⟩ := nI_of h
  rw [h2, nI_clamp h1]
theorem ix_some {v : Int32} {n j : Nat} (h : ix v n = some j) : j < n ∧ v = nI j ∧ ¬ v < 0 ∧ v.toNatClampNeg = j := by
  unfold ix at h
  split at h
  · rename_i q
    cases h
    exact ⟨q.2, nI_toClamp q.1, q.1, rfl⟩
  · cases h
theorem ix_none {v : Int32} {n : Nat} (h : ix v n = none) : v < 0 ∨ n ≤ v.toNatClampNeg := by
  unfold ix at h
  split at h
  · cases h
  · rename_i q
    by_cases a : v < 0
    · exact Or.inl a
    · exact Or.inr (Nat.not_lt.mp (fun b => q ⟨a, b⟩))
theorem ix_nI {n j : Nat} (h : j < n) (hn : n < 2 ^ 31) : ix (nI j) n = some j := by
  unfold ix
  rw [if_pos ⟨nI_pos (by omega), by rw [nI_clamp (by omega)]; exact h⟩, nI_clamp (by omega)]
theorem ixL_i (v : Int32) (n : Nat) : ixL v.toInt64 n = ix v n := by
  unfold ixL ix
  rw [Int32.toInt_toInt64]
  simp only [i32_neg, clampI]
  by_cases a : v.toInt < 0
  · rw [if_neg (by omega), if_neg (by omega)]
  · by_cases b : v.toInt < n
    · rw [if_pos (by omega), if_pos (by omega)]
    · rw [if_neg (by omega), if_neg (by omega)]
theorem ixL_some {v : Int64} {n j : Nat} (h : ixL v n = some j) : j < n ∧ v.toInt = j := by
  unfold ixL at h
  split at h
  · cases h; omega
  · cases h
theorem wi_ix {v : Int32} {n : Nat} (hn : n < 2 ^ 30) : wi v 0 (nI n - 1) = (ix v n).isSome := by
  have h1 : (nI n - 1).toInt = (n : Int) - 1 := pk_sub_toInt (a := n) (b := 1) hn (by omega)
  unfold wi ix
  simp only [i32_neg, clampI, Int32.le_iff_toInt_le, h1, Int32.toInt_zero]
  by_cases a : v.toInt < 0
  · rw [if_neg (by omega)]; simp; omega
  · by_cases b : v.toInt < n
    · rw [if_pos (by omega)]; simp; omega
    · rw [if_neg (by omega)]; simp; omega
theorem inb_ix {α : Type} {l : List α} {v : Int32} : inb l v ↔ (ix v l.length).isSome := by
  unfold inb ix
  split
  · rename_i q; simp [q.1, q.2]
  · rename_i q
    simp only [Option.isSome_none, Bool.false_eq_true, iff_false]
    exact q
theorem inb_nI {α : Type} {l : List α} {j : Nat} (hj : j < 2 ^ 31) : inb l (nI j) ↔ j < l.length := by
  unfold inb
  rw [nI_clamp hj]
  simp [nI_pos hj]
theorem rdI_nI {l : List Int32} {j : Nat} (hj : j < 2 ^ 31) : rdI l (nI j) = l.getD j 0 := by unfold rdI; rw [nI_clamp hj]
theorem rdL_nI {l : List Int64} {j : Nat} (hj : j < 2 ^ 31) : rdL l (nI j) = l.getD j 0 := by unfold rdL; rw [nI_clamp hj]
theorem if_b2i {b : Bool} {A B : Prop} : (if b2i b = 0 then A else B) ↔ (if b = false then A else B) := by cases b <;> simp [b2i]
theorem nl_none {A B : Prop} : nl none A B ↔ A := Iff.rfl
theorem nl_some {n : Nm} {A B : Prop} : nl (some n) A B ↔ B := Iff.rfl
theorem nl_map {o : Option Nat} {f : Nat → Nm} {A B : Prop} : nl (o.map f) A B ↔ (match o with
  | none => A
  | some _ => B) := by cases o <;> rfl
/-! small methods of the class -/
section H1
variable {d u : Nat} {h : MH}
theorem f_isWithin {a b c : Int32} {Q : Int32 → MH → Prop} : F_X11_isWithin d a b c h u Q ↔ Q (b2i (wi a b c)) h := by
  unfold F_X11_isWithin wi
  simp only [nz_0, nz_1, true_and]
  by_cases p : a < b
  · rw [if_pos p]
    have : ¬ b ≤ a := by rw [Int32.le_iff_toInt_le]; rw [Int32.lt_iff_toInt_lt] at p; omega
    simp [this, b2i]
  · rw [if_neg p]
    have p1 : b ≤ a := by rw [Int32.le_iff_toInt_le]; rw [Int32.lt_iff_toInt_lt] at p; omega
    by_cases q : c < a
    · rw [if_pos q]
      have : ¬ a ≤ c := by rw [Int32.le_iff_toInt_le]; rw [Int32.lt_iff_toInt_lt] at q; omega
      simp [this, b2i]
    · rw [if_neg q]
      have q1 : a ≤ c := by rw [Int32.le_iff_toInt_le]; rw [Int32.lt_iff_toInt_lt] at q; omega
      simp [p1, q1, b2i]
theorem f_isLabel {a : Int32} {Q : Int32 → MH → Prop} : F_X11_isLabel d a h u Q ↔ Q (b2i (wi a 1 99)) h := by
  unfold F_X11_isLabel
  simp only [f_isWithin, nz_b2i, true_and]
theorem f_isPlace {a : Int32} {Q : Int32 → MH → Prop} : F_X11_isPlace d a h u Q ↔ Q (b2i (wi a 0 5)) h := by
  unfold F_X11_isPlace
  simp only [f_isWithin, nz_b2i, true_and]
theorem f_isNumber {a : Int32} {Q : Int32 → MH → Prop} : F_X4_isNumber d a h u Q ↔ Q (b2i (wi a 0 7)) h := f_isWithin (d := d) (u := u) (a := a) (b := 0) (c := 7)
theorem f_isLane {a : Int32} {Q : Int32 → MH → Prop} : F_X4_isLane d a h u Q ↔ Q (b2i (wi a 0 9)) h := f_isWithin (d := d) (u := u) (a := a) (b := 0) (c := 9)
theorem f_oneIf {b : Bool} {Q : Int32 → MH → Prop} : F_X11_oneIf d (b2i b) h u Q ↔ Q (b2i b) h := by
  unfold F_X11_oneIf
  cases b <;> simp [b2i]
theorem f_in {a b c : Int32} {Q : Int32 → MH → Prop} : F_X12_in d a b c h u Q ↔ Q (b2i (wi a b c)) h := f_isWithin (d := d) (u := u) (a := a) (b := b) (c := c)
/-- whether a number of one lane is widened to another -/
def isW (a b : Int32) : Bool := decide (a = b) || (decide (1 ≤ a) && decide (a ≤ b) && decide (b ≤ 7) && !decide (b = 2) && !(decide (a = 2) && decide (b = 3)))
theorem f_isWidened {a b : Int32} {Q : Int32 → MH → Prop} : F_X4_isWidened d a b h u Q ↔ Q (b2i (isW a b)) h := by
  unfold F_X4_isWidened isW
  simp only [nz_0, nz_1, true_and]
  by_cases e : a = b
  · simp [e, b2i]
  · rw [if_neg e]
    by_cases p1 : a < 1
    · have : ¬ (1 : Int32) ≤ a := by rw [Int32.le_iff_toInt_le]; rw [Int32.lt_iff_toInt_lt] at p1; omega
      simp [p1, e, this, b2i]
    · have q1 : (1 : Int32) ≤ a := by rw [Int32.le_iff_toInt_le]; rw [Int32.lt_iff_toInt_lt] at p1; omega
      by_cases p2 : b < a
      · have : ¬ a ≤ b := by rw [Int32.le_iff_toInt_le]; rw [Int32.lt_iff_toInt_lt] at p2; omega
        simp [p1, p2, e, this, b2i]
      · have q2 : a ≤ b := by rw [Int32.le_iff_toInt_le]; rw [Int32.lt_iff_toInt_lt] at p2; omega
        by_cases p3 : 7 < b
        · have : ¬ b ≤ 7 := by rw [Int32.le_iff_toInt_le]; rw [Int32.lt_iff_toInt_lt] at p3; omega
          simp [p1, p2, p3, e, this, b2i]
        · have q3 : b ≤ 7 := by rw [Int32.le_iff_toInt_le]; rw [Int32.lt_iff_toInt_lt] at p3; omega
          by_cases p4 : b = 2
          · have e2 : ¬ a = 2 := fun z => e (z.trans p4.symm)
            simp [p1, p2, p3, p4, e2, b2i]
          · by_cases p5 : a = 2
            · by_cases p6 : b = 3
              · subst p5; subst p6; simp [b2i]
              · subst p5
                simp [p2, p3, p4, p6, e, q2, q3, b2i]
            · simp [p1, p2, p3, p4, p5, e, q1, q2, q3, b2i]
theorem f_widM {a b : Int32} {Q : Int32 → MH → Prop} : F_X12_isWidened d a b h u Q ↔ Q (b2i (isW a b)) h := by
  have key : isW a b = (decide (a = b) || (!decide (a ≤ 0) && !decide (8 ≤ b) && (if a = 1 then !decide (b < 3) else if a = 2 then !decide (b < 4) else !decide (b ≤ a)))) := by
    unfold isW
    have ha := i32_rng a
    have hb := i32_rng b
    have e1 : (a = b) ↔ a.toInt = b.toInt := Int32.toInt_inj.symm
    have e2 : (a = 1) ↔ a.toInt = 1 := by rw [← Int32.toInt_inj]; rfl
    have e3 : (a = 2) ↔ a.toInt = 2 := by rw [← Int32.toInt_inj]; rfl
    have e4 : (b = 2) ↔ b.toInt = 2 := by rw [← Int32.toInt_inj]; rfl
    have e5 : (b = 3) ↔ b.toInt = 3 := by rw [← Int32.toInt_inj]; rfl
    have l1 : (1 ≤ a) ↔ 1 ≤ a.toInt := by rw [Int32.le_iff_toInt_le]; rfl
    have l2 : (a ≤ b) ↔ a.toInt ≤ b.toInt := Int32.le_iff_toInt_le
    have l3 : (b ≤ 7) ↔ b.toInt ≤ 7 := by rw [Int32.le_iff_toInt_le]; rfl
    have l4 : (a ≤ 0) ↔ a.toInt ≤ 0 := by rw [Int32.le_iff_toInt_le]; rfl
    have l5 : (8 ≤ b) ↔ 8 ≤ b.toInt := by rw [Int32.le_iff_toInt_le]; rfl
    have l6 : (b < 3) ↔ b.toInt < 3 := by rw [Int32.lt_iff_toInt_lt]; rfl
    have l7 : (b < 4) ↔ b.toInt < 4 := by rw [Int32.lt_iff_toInt_lt]; rfl
    have l8 : (b ≤ a) ↔ b.toInt ≤ a.toInt := Int32.le_iff_toInt_le
    rw [Bool.eq_iff_iff]
    simp only [e1, e2, e3, e4, e5, l1, l2, l3, l4, l5, l6, l7, l8]
    generalize a.toInt = x at *
    generalize b.toInt = y at *
    by_cases c1 : x = 1
    · simp [c1]; omega
    · by_cases c2 : x = 2
      · simp [c2]; omega
      · simp [c1, c2]; omega
  rw [key]
  unfold F_X12_isWidened
  simp only [nz_0, nz_1, true_and]
  by_cases c0 : a = b
  · simp [c0, b2i]
  · by_cases c1 : a ≤ 0
    · simp [c0, c1, b2i]
    · by_cases c2 : 8 ≤ b
      · simp [c0, c1, c2, b2i]
      · by_cases c3 : a = 1
        · by_cases c4 : b < 3 <;> simp [c0, c1, c2, c3, c4, b2i] <;> (subst c3; simp [c0])
        · by_cases c5 : a = 2
          · by_cases c6 : b < 4 <;> simp [c0, c1, c2, c3, c5, c6, b2i] <;> (subst c5; simp [c0])
          · by_cases c7 : b ≤ a <;> simp [c0, c1, c2, c3, c5, c7, b2i]
end H1
