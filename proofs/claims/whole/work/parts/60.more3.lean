section OpMore3
variable {rs : List RowT} {ks : List KindT} {vs : List ValT} {tl : Nat → Nat → Nat → List Int32} {sc : Nat → Int32} {wI : Nat → List Int32} {wL : Nat → List Int64} {m : MS} {d d2 u : Nat} {v1 v2 v3 v5 v6 : Int32} {v4 : Int64} {W : Prop → Prop}
variable {cp mp h : MH}
theorem set_get {α : Type} {l : List α} {i q : Nat} {x y : α} (h : (l.set i x)[q]? = some y) : (q = i ∧ y = x) ∨ (q ≠ i ∧ l[q]? = some y) := by
  by_cases e : q = i
  · subst e
    have := (List.getElem?_eq_some_iff.mp h).1
    rw [List.getElem?_set_self (by simpa using this)] at h
    cases h; exact Or.inl ⟨rfl, rfl⟩
  · rw [List.getElem?_set_ne (Ne.symm e)] at h
    exact Or.inr ⟨e, h⟩
def mMore (m : MS) (p q : Nat) (l n : Int32) (c : Int32) : MS := mA (mA (mA m 16 ((m.2.1 16).set q l)) 17 ((m.2.1 17).set q n)) 15 ((m.2.1 15).set p c)
theorem filt_set {l : List KindT} {j : Nat} {k k' : KindT} (hk : l[j]? = some k) (h : k'.2.2.1 = k.2.2.1) : ((l.set j k').filter (fun k => k.2.2.1)).length = (l.filter (fun k => k.2.2.1)).length := by
  induction l generalizing j with
  | nil => cases hk
  | cons a l ih =>
    cases j with
    | zero =>
      simp at hk
      subst hk
      simp only [List.set_cons_zero, List.filter_cons, h]
      split <;> simp
    | succ j =>
      simp at hk
      simp only [List.set_cons_succ, List.filter_cons]
      split <;> simp [ih hk]
theorem Inv.more (I : Inv rs ks vs tl sc wI wL m) {j : Nat} {k : KindT} {t : List ET} {l n a0 a1 a2 : Int32} {r0 r1 r2 : List Int32} (hk : ks[j]? = some k) (hS : k.2.2.1 = false) (ht : k.2.2.2.2[0]? = some t) (hl : ∀ x ∈ t, x.1 ≠ l) (hn : k.1 = false → wi n 0 9 = true) (x0 : tl j 0 0 = a0 :: r0) (x1 : tl j 0 1 = a1 :: r1) (x2 : tl j 0 2 = a2 :: r2) :
    Inv rs (ks.set j (kEd k 0 (t ++ [(l, n, a2)]))) vs (tlD tl j 0) sc wI wL (mMore m (4 * j) (8 * (4 * j) + t.length) l n (nI t.length + 1)) := by
  obtain ⟨⟨a1', a2', a3, a4, a5, a6⟩, b1, b2, b3, b4⟩ := I
  have hj := (List.getElem?_eq_some_iff.mp hk).1
  have hkm := a2'.2 k (List.mem_of_getElem? hk)
  obtain ⟨k1, k2, k3, k4, k5, k6, k7⟩ := hkm
  obtain ⟨k31, k32⟩ := k3 hS
  have hlen := a3 j k hk 0 t ht 0 (by omega)
  rw [x0] at hlen
  have hEd := k4 t (List.mem_of_getElem? ht)
  have hT8 : t.length < 8 := by
    have : t.length + (r0.length + 1) = (if k.1 then 8 else 6) := by simpa using hlen
    split at this <;> omega
  refine ⟨⟨a1', ⟨by rw [List.length_set]; exact a2'.1, fun k' hk' => ?_⟩, fun j' k' hk' e t' ht' i hi => ?_, ⟨a4.1, fun q v hv => ?_⟩, ?_, a6⟩, by simpa [mMore, mRows, mA, up] using b1, ?_, by simpa [mMore, mVals, mA, up] using b3, by simpa [mMore, mMisc, mA, up] using b4⟩
  · rcases List.mem_or_eq_of_mem_set hk' with z | z
    · exact a2'.2 k' z
    · subst z
      refine ⟨by simpa [kEd] using k1, by simpa [kEd] using k2, fun _ => ⟨by simpa [kEd] using k31, k32⟩, fun t' ht' => ?_, k5, k6, fun _ z => ?_⟩
      · rcases List.mem_or_eq_of_mem_set ht' with z | z
        · exact k4 t' z
        · subst z
          refine ⟨?_, ?_, fun hc x hx => ?_⟩
          · show (t ++ [(l, n, a2)]).length ≤ (if k.1 then 8 else 6)
            have : t.length + (r0.length + 1) = (if k.1 then 8 else 6) := by simpa using hlen
            rw [List.length_append, ← this]; simp
          · rw [List.map_append, List.nodup_append]
            refine ⟨hEd.2.1, by simp, fun a ha b hb => ?_⟩
            obtain ⟨x, hx, rfl⟩ := List.mem_map.mp ha
            have : b = l := by simpa using hb
            subst this
            exact hl x hx
          · rcases List.mem_append.mp hx with z | z
            · exact hEd.2.2 hc x z
            · rw [List.mem_singleton.mp z]; exact hn hc
      · have : k.2.2.1 = true := z
        rw [hS] at this; cases this
  · rcases set_get hk' with ⟨rfl, rfl⟩ | ⟨z1, z2⟩
    · rcases set_get ht' with ⟨rfl, rfl⟩ | ⟨z1, z2⟩
      · have g := a3 j' k hk 0 t ht i hi
        have g0 : t.length + (r0.length + 1) = (if k.1 then 8 else 6) := by simpa using hlen
        show (t ++ [(l, n, a2)]).length + (tlD tl j' 0 j' 0 i).length = (if k.1 then 8 else 6)
        unfold tlD
        rw [if_pos ⟨rfl, rfl⟩, List.length_tail, List.length_append]
        simp only [List.length_cons, List.length_nil]
        omega
      · unfold tlD
        rw [if_neg (fun w => z1 w.2)]
        exact a3 j' k hk e t' z2 i hi
    · unfold tlD
      rw [if_neg (fun w => z1 w.1)]
      exact a3 j' k' z2 e t' ht' i hi
  · obtain ⟨k', t', h1, h2, h3, h4⟩ := a4.2 q v hv
    have : v.1 ≠ j := fun z => by
      rw [z, hk] at h1
      cases h1
      rw [hS] at h3; cases h3
    exact ⟨k', t', by rw [List.getElem?_set_ne (Ne.symm this)]; exact h1, h2, h3, h4⟩
  · obtain ⟨w0, w1, w2, q0, q1, w3, w4, w5, w6, s1, s2, s3⟩ := a5
    exact ⟨w0, w1, w2, q0, q1, w3, w4, w5, w6, s1, by rw [filt_set (k' := kEd k 0 (t ++ [(l, n, a2)])) hk rfl]; exact s2, s3⟩
  · obtain ⟨c0, c1, c2, c3, c4, c5, c6, c7, c8, c9, c10, c11⟩ := b2
    have hj16 := a2'.1
    simp only [mMore, mKinds, mA_1, mB_1, mI_1, mI_21, mI_22, mA_21, mA_22, mB_21, mB_22, Nat.reduceEqDiff, Nat.reduceEqDiff, reduceCtorEq, if_false, if_true, List.length_set]
    refine ⟨c0, c1, c2, c3, c4, c5, c6, c7, c8, c9, fun j' k' hk' => ?_, fun j' h1 h2 => ?_⟩
    · simp only [lset_getD]
      rcases set_get hk' with ⟨rfl, rfl⟩ | ⟨z1, z2⟩
      · obtain ⟨d1, d2, d3, d4, d5, d6⟩ := c10 j' k hk
        refine ⟨d1, d2, d3, by simpa [kEd] using d4, d5, fun e t' ht' => ?_⟩
        rcases set_get ht' with ⟨rfl, rfl⟩ | ⟨y1, y2⟩
        · rw [if_pos ⟨rfl, by omega⟩]
          refine ⟨by simp [nI_1], fun i x hx => ?_⟩
          rcases app_case hx with y | ⟨rfl, rfl⟩
          · have hi := (List.getElem?_eq_some_iff.mp y).1
            rw [if_neg (by omega), if_neg (by omega)]
            obtain ⟨f1, f2, f3⟩ := (d6 0 t ht).2 i x y
            exact ⟨f1, f2, f3⟩
          · rw [if_pos ⟨rfl, by omega⟩, if_pos ⟨rfl, by omega⟩]
            refine ⟨rfl, rfl, fun _ z => ?_⟩
            have : k.2.2.1 = true := z
            rw [hS] at this; cases this
        · have := (List.getElem?_eq_some_iff.mp y2).1
          omega
      · obtain ⟨d1, d2, d3, d4, d5, d6⟩ := c10 j' k' z2
        have hk8 := a2'.2 k' (List.mem_of_getElem? z2)
        refine ⟨d1, d2, d3, d4, d5, fun e t' ht' => ?_⟩
        have he := (List.getElem?_eq_some_iff.mp ht').1
        have h4 := hk8.2.1
        have h8 : t'.length ≤ 8 := by have := (hk8.2.2.2.1 t' (List.mem_of_getElem? ht')).1; split at this <;> omega
        rw [if_neg (by omega)]
        refine ⟨(d6 e t' ht').1, fun i x hx => ?_⟩
        have hi := (List.getElem?_eq_some_iff.mp hx).1
        rw [if_neg (by omega), if_neg (by omega)]
        exact (d6 e t' ht').2 i x hx
    · simp only [lset_getD]
      rw [if_neg (by omega)]
      exact c11 j' h1 h2
end OpMore3
