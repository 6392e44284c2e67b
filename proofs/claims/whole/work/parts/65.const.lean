section Const
variable {rs : List RowT} {ks : List KindT} {vs : List ValT} {tl : Nat → Nat → Nat → List Int32} {sc : Nat → Int32} {wI : Nat → List Int32} {wL : Nat → List Int64} {m : MS} {d d2 u : Nat} {v1 v2 v3 v5 v6 : Int32} {v4 : Int64} {W : Prop → Prop}
variable {cp mp h : MH}
def kCon (k : KindT) (e i : Nat) (t : List ET) (x : ET) (n : Nat) : KindT := (k.1, k.2.1, k.2.2.1, k.2.2.2.1 + 1, k.2.2.2.2.set e (t.set i (x.1, x.2.1, nI n)))
def mCon (m : MS) (n j e i made : Nat) (l : Int32) : MS := mA (mA (mA (mA (mI (mA (mA (mA (mA m 25 ((m.2.1 25).set n (nI j))) 26 ((m.2.1 26).set n (nI e))) 27 ((m.2.1 27).set n (nI made))) 14 ((m.2.1 14).set j (nI made + 1))) 24 (nI n + 1)) 30 ((m.2.1 30).set n l)) 28 ((m.2.1 28).set n 1)) 29 ((m.2.1 29).set n 1)) 18 ((m.2.1 18).set (8 * (4 * j + e) + i) (nI n))
theorem partOK.val {rs : List RowT} {vs : List ValT} {j dp : Nat} {l : Int32} {x : Int64} {w : ValT} (h : partOK rs vs j l x dp) : partOK rs (vs ++ [w]) j l x dp := by
  obtain ⟨h1, h2, h3⟩ := h
  refine ⟨h1, fun e => ?_, fun e => ?_⟩
  · rcases h2 e with z | ⟨i, v, z1, z2, z3, z4⟩
    · exact Or.inl z
    · exact Or.inr ⟨i, v, z1, z2, app_get z3, z4⟩
  · rcases h3 e with z | ⟨i, r, z1, z2, z3⟩
    · exact Or.inl z
    · refine Or.inr ⟨i, r, z1, z2, fun z => ⟨(z3 z).1, fun y hy => ?_⟩⟩
      rcases (z3 z).2 y hy with w1 | ⟨q, v, w1, w2, w3, w4⟩
      · exact Or.inl w1
      · exact Or.inr ⟨q, v, w1, w2, app_get w3, w4⟩
theorem refOK.mono {x : Int64} {a b : Nat} (h : refOK x a) (hab : a ≤ b) : refOK x b := by
  rcases h with z | ⟨j, z1, z2⟩
  · exact Or.inl z
  · exact Or.inr ⟨j, by omega, z2⟩
theorem RowsOK.mono {a b : Nat} (h : RowsOK rs a) (hab : a ≤ b) : RowsOK rs b := by
  refine ⟨h.1, fun r hr => ?_⟩
  obtain ⟨h1, h2, h3, h4⟩ := h.2 r hr
  exact ⟨h1, h2, fun x hx => ⟨(h3 x hx).1, fun z => ((h3 x hx).2 z).mono hab⟩, h4⟩
theorem TrayOK.mono {n a b : Nat} (h : TrayOK wI wL n a) (hab : a ≤ b) : TrayOK wI wL n b := by
  intro i hi
  rcases h i hi with z | z | ⟨z, j, z1, z2⟩ | z
  · exact Or.inl z
  · exact Or.inr (Or.inl z)
  · exact Or.inr (Or.inr (Or.inl ⟨z, j, by omega, z2⟩))
  · exact Or.inr (Or.inr (Or.inr z))
theorem KindOK.mono {k : KindT} {a b : Nat} (h : KindOK k a) (hab : a ≤ b) : KindOK k b := by
  obtain ⟨a1, a2, a3, a4, a5, a6, a7⟩ := h
  refine ⟨a1, a2, a3, a4, by omega, a6, fun z1 z2 t ht x hx => ?_⟩
  obtain ⟨j, y1, y2⟩ := a7 z1 z2 t ht x hx
  exact ⟨j, by omega, y2⟩
end Const
