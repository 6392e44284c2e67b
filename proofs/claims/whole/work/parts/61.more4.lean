section OpMore4
variable {rs : List RowT} {ks : List KindT} {vs : List ValT} {tl : Nat → Nat → Nat → List Int32} {sc : Nat → Int32} {wI : Nat → List Int32} {wL : Nat → List Int64} {m : MS} {d d2 u : Nat} {v1 v2 v3 v5 v6 : Int32} {v4 : Int64} {W : Prop → Prop}
variable {cp mp h : MH}
theorem f_takesLane {j : Nat} {k : KindT} (hk : ks[j]? = some k) {l : Int32} {Q : Int32 → MH → Prop} : F_X3_takesLane d (some (23, j, 0)) l (hJ (hC rs ks vs tl sc wI wL) mp) u Q ↔ Q (b2i (k.1 || wi l 0 9)) (hJ (hC rs ks vs tl sc wI wL) mp) := by
  unfold F_X3_takesLane
  simp only [c_g23_1, hk, wr_some, f_isLane, nz_0, nz_1, true_and, if_b2i]
  cases k.1
  · simp only [if_true, Bool.false_or]
    cases wi l 0 9 <;> simp [b2i]
  · simp [b2i]
end OpMore4
