section CmpF
variable {rs : List RowT} {ks : List KindT} {vs : List ValT} {tl : Nat → Nat → Nat → List Int32} {sc : Nat → Int32} {wI : Nat → List Int32} {wL : Nat → List Int64} {m : MS} {d d2 u : Nat} {v1 v2 v3 v5 v6 : Int32} {v4 : Int64} {W : Prop → Prop}
variable {cp mp h : MH}
theorem g_cmpF {l : Int32} {a b : Int64} (hl : l = 6 ∨ l = 7) (ha : numOK l a) (hb : numOK l b) {Q : Int32 → MH → Prop} (H : Q (cN l a b) h) : F_X12_compared d l a b h u Q := z_cmpF hl ha hb H
theorem g_compared {l : Int32} {a b : Int64} (hl : wi l 0 7 = true) (ha : numOK l a) (hb : numOK l b) {Q : Int32 → MH → Prop} (H : Q (cN l a b) h) : F_X12_compared d l a b h u Q := by
  by_cases h67 : l = 6 ∨ l = 7
  · exact g_cmpF h67 ha hb H
  · have hlt : ¬ 6 ≤ l := by
      intro z
      apply h67
      unfold wi at hl
      simp only [Bool.and_eq_true, decide_eq_true_eq, Int32.le_iff_toInt_le] at hl z
      have : (6 : Int32).toInt = 6 := rfl
      have : (7 : Int32).toInt = 7 := rfl
      rcases (show l.toInt = 6 ∨ l.toInt = 7 by omega) with y | y
      · exact Or.inl (Int32.toInt_inj.mp y)
      · exact Or.inr (Int32.toInt_inj.mp y)
    have er : ∀ x, rnk l x = x := fun x => if_neg (fun z => h67 z.1)
    unfold F_X12_compared
    rw [if_neg hlt]
    unfold cN at H
    rw [er, er] at H
    unfold lsf at H
    simp only [lg_cmp_ge, lg_cmp_le]
    by_cases e : a = b
    · rw [if_pos e] at H
      rw [if_pos (by rw [e]; exact Int64.le_refl _), if_pos (by rw [e]; exact Int64.le_refl _)]
      exact H
    · rw [if_neg e] at H
      by_cases g : b ≤ a
      · rw [if_pos g] at H ⊢
        rw [if_neg (fun z => e (by rw [Int64.le_iff_toInt_le] at g z; exact Int64.toInt_inj.mp (by omega)))]
        exact H
      · rw [if_neg g] at H ⊢
        exact H
end CmpF
