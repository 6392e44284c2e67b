section OpMore
variable {rs : List RowT} {ks : List KindT} {vs : List ValT} {tl : Nat → Nat → Nat → List Int32} {sc : Nat → Int32} {wI : Nat → List Int32} {wL : Nat → List Int64} {m : MS} {d d2 u : Nat} {v1 v2 v3 v5 v6 : Int32} {v4 : Int64} {W : Prop → Prop}
variable {cp mp h : MH}
def tlD (tl : Nat → Nat → Nat → List Int32) (j e : Nat) : Nat → Nat → Nat → List Int32 := fun j' e' i => if j' = j ∧ e' = e then (tl j e i).tail else tl j' e' i
def kEd (k : KindT) (e : Nat) (t : List ET) : KindT := (k.1, k.2.1, k.2.2.1, k.2.2.2.1, k.2.2.2.2.set e t)
theorem arr_grow {α : Type} {l r : List Int32} {a x : Int32} {t : List α} {f : α → Int32} {y : α} (hl : l = a :: r) (hy : f y = x) : ((t.map f ++ l).map jI).set t.length (jI x) = ((t ++ [y]).map f ++ l.tail).map jI := by
  subst hl
  subst hy
  simp [List.set_append]
theorem hC_more {j e : Nat} {k : KindT} {t : List ET} {l n a0 a1 a2 : Int32} {r0 r1 r2 : List Int32} (hk : ks[j]? = some k) (ht : k.2.2.2.2[e]? = some t) (x0 : tl j e 0 = a0 :: r0) (x1 : tl j e 1 = a1 :: r1) (x2 : tl j e 2 = a2 :: r2) :
    hset (hset (hset (hJ (hC rs ks vs tl sc wI wL) mp) (26, j, e) (.inr (.int, ((eL t (tl j e 0)).map jI).set t.length (jI l)))) (27, j, e) (.inr (.int, ((eN t (tl j e 1)).map jI).set t.length (jI n)))) (25, j, e) (.inl (2, [jI (nI e), jR (some (26, j, e)), jR (some (27, j, e)), jR (some (28, j, e)), jI (nI t.length + 1)])) = hJ (hC rs (ks.set j (kEd k e (t ++ [(l, n, a2)]))) vs (tlD tl j e) sc wI wL) mp := by
  have hl := (List.getElem?_eq_some_iff.mp hk).1
  have he := (List.getElem?_eq_some_iff.mp ht).1
  have e2 : (ks.set j (kEd k e (t ++ [(l, n, a2)])))[j]? = some (kEd k e (t ++ [(l, n, a2)])) := List.getElem?_set_self hl
  have e4 : (kEd k e (t ++ [(l, n, a2)])).2.2.2.2[e]? = some (t ++ [(l, n, a2)]) := List.getElem?_set_self he
  have e3 : ∀ q, q ≠ j → (ks.set j (kEd k e (t ++ [(l, n, a2)])))[q]? = ks[q]? := fun q hq => List.getElem?_set_ne (Ne.symm hq)
  have e5 : ∀ q, q ≠ e → (kEd k e (t ++ [(l, n, a2)])).2.2.2.2[q]? = k.2.2.2.2[q]? := fun q hq => List.getElem?_set_ne (Ne.symm hq)
  have e6 : (kEd k e (t ++ [(l, n, a2)])).2.2.2.2.length = k.2.2.2.2.length := List.length_set
  have t1 : ∀ i, tlD tl j e j e i = (tl j e i).tail := fun i => if_pos ⟨rfl, rfl⟩
  have t2 : ∀ j' e' i, ¬ (j' = j ∧ e' = e) → tlD tl j e j' e' i = tl j' e' i := fun j' e' i q => if_neg q
  rw [hJ_setC (show 26 < 40 by decide), hJ_setC (show 27 < 40 by decide), hJ_setC (show 25 < 40 by decide)]
  congr 1
  funext q
  by_cases k1 : q = (25, j, e)
  · subst k1; rw [hs_s]; simp only [hC, e2, e4, Option.bind_some, Option.map_some, oEd, List.length_append, List.length_cons, List.length_nil, nI_1]
  rw [hs_n k1]
  by_cases k2 : q = (27, j, e)
  · subst k2; rw [hs_s]; simp only [hC, e2, e4, Option.bind_some, Option.map_some, t1, eN]; rw [arr_grow (y := (l, n, a2)) x1 rfl]
  rw [hs_n k2]
  by_cases k3 : q = (26, j, e)
  · subst k3; rw [hs_s]; simp only [hC, e2, e4, Option.bind_some, Option.map_some, t1, eL]; rw [arr_grow (y := (l, n, a2)) x0 rfl]
  rw [hs_n k3]
  unfold hC
  split <;> first | rfl | (simp only [List.length_set]; done) | skip
  · rename_i j'
    by_cases z : j' = j
    · subst z; rw [e2, hk]; simp only [Option.map_some, oKind, e6]; rfl
    · rw [e3 j' z]
  · rename_i j'
    by_cases z : j' = j
    · subst z; rw [e2, hk]; simp only [Option.map_some, oEds, e6]
    · rw [e3 j' z]
  · rename_i j' e'
    by_cases z : j' = j
    · subst z
      rw [e2, hk]
      simp only [Option.bind_some]
      rw [e5 e' (fun y => k1 (by rw [y]))]
    · rw [e3 j' z]
  · rename_i j' e'
    by_cases z : j' = j
    · subst z
      have y : ¬ e' = e := fun y => k3 (by rw [y])
      rw [e2, hk]
      simp only [Option.bind_some]
      rw [e5 e' y, t2 _ _ _ (fun w => y w.2)]
    · rw [e3 j' z, t2 _ _ _ (fun w => z w.1)]
  · rename_i j' e'
    by_cases z : j' = j
    · subst z
      have y : ¬ e' = e := fun y => k2 (by rw [y])
      rw [e2, hk]
      simp only [Option.bind_some]
      rw [e5 e' y, t2 _ _ _ (fun w => y w.2)]
    · rw [e3 j' z, t2 _ _ _ (fun w => z w.1)]
  · rename_i j' e'
    by_cases z : j' = j
    · subst z
      rw [e2, hk]
      simp only [Option.bind_some]
      by_cases y : e' = e
      · subst y
        rw [e4, ht]
        simp only [Option.map_some, t1, x2, eM, List.tail_cons, List.map_append, List.map_cons, List.map_nil, List.append_assoc, List.cons_append, List.nil_append]
      · rw [e5 e' y, t2 _ _ _ (fun w => y w.2)]
    · rw [e3 j' z, t2 _ _ _ (fun w => z w.1)]
end OpMore
