section Con2
variable {rs : List RowT} {ks : List KindT} {vs : List ValT} {tl : Nat → Nat → Nat → List Int32} {sc : Nat → Int32} {wI : Nat → List Int32} {wL : Nat → List Int64} {m : MS} {d d2 u : Nat} {v1 v2 v3 v5 v6 : Int32} {v4 : Int64} {W : Prop → Prop}
variable {cp mp h : MH}
theorem ValsOK.con {j e i : Nat} {k : KindT} {t : List ET} {x : ET} (h : ValsOK rs ks vs) (hk : ks[j]? = some k) (hc : k.1 = true) (hs : k.2.2.1 = true) (ht : k.2.2.2.2[e]? = some t) (hx : t[i]? = some x) (hn : vs.length < 200) : ValsOK rs (ks.set j (kCon k e i t x vs.length)) (vs ++ [(j, e, k.2.2.2.1, x.1, 1, 1, [])]) := by
  have hl := (List.getElem?_eq_some_iff.mp hk).1
  have hel := (List.getElem?_eq_some_iff.mp ht).1
  have f2 : (ks.set j (kCon k e i t x vs.length))[j]? = some (kCon k e i t x vs.length) := List.getElem?_set_self hl
  refine ⟨by simp; omega, fun q v hv => ?_⟩
  rcases app_case hv with z | ⟨rfl, rfl⟩
  · obtain ⟨k', t', a1, a2, a3, a4, a5, a6, a7, a8, a9⟩ := h.2 q v z
    by_cases y : v.1 = j
    · rw [y] at a1
      cases hk.symm.trans a1
      by_cases y2 : v.2.1 = e
      · exact ⟨kCon k e i t x vs.length, t.set i (x.1, x.2.1, nI vs.length), by rw [y]; exact f2, by rw [y2]; exact List.getElem?_set_self hel, hs, Nat.lt_succ_of_lt a4, a5, a6, a7, a8, fun z => by rw [show k.1 = false from z] at hc; cases hc⟩
      · exact ⟨kCon k e i t x vs.length, t', by rw [y]; exact f2, by show (k.2.2.2.2.set e _)[v.2.1]? = _; rw [List.getElem?_set_ne (Ne.symm y2)]; exact a2, hs, Nat.lt_succ_of_lt a4, a5, a6, a7, a8, fun z => by rw [show k.1 = false from z] at hc; cases hc⟩
    · refine ⟨k', t', by rw [List.getElem?_set_ne (Ne.symm y)]; exact a1, a2, a3, a4, a5, a6, a7, a8, fun z => ?_⟩
      obtain ⟨b1, b2, b3⟩ := a9 z
      exact ⟨b1, b2, fun p x' y' hx' hy' => (b3 p x' y' hx' hy').val⟩
  · refine ⟨kCon k e i t x vs.length, t.set i (x.1, x.2.1, nI vs.length), f2, List.getElem?_set_self hel, hs, Nat.lt_succ_self _, Nat.le_refl _, by show 1 ≤ 8; omega, by show 1 ≤ 300; omega, fun _ => rfl, fun z => ?_⟩
    rw [show k.1 = false from z] at hc; cases hc
theorem TlOK.con {j e i n : Nat} {k : KindT} {t : List ET} {x : ET} (h : TlOK ks tl) (hk : ks[j]? = some k) (ht : k.2.2.2.2[e]? = some t) : TlOK (ks.set j (kCon k e i t x n)) tl := by
  intro q k' hq e' t' ht' p hp
  rcases set_get hq with ⟨rfl, rfl⟩ | ⟨z1, z2⟩
  · rcases set_get ht' with ⟨rfl, rfl⟩ | ⟨z1, z2⟩
    · rw [List.length_set]; exact h q k hk e' t ht p hp
    · exact h q k hk e' t' z2 p hp
  · exact h q k' z2 e' t' ht' p hp
theorem mKindsW.con {j e i n : Nat} {k : KindT} {t : List ET} {x : ET} (h : mKindsW ks m j i) (h16 : ks.length ≤ 16) (hall : ∀ (q : Nat) (k' : KindT), ks[q]? = some k' → k'.2.2.2.2.length ≤ 4 ∧ ∀ t' ∈ k'.2.2.2.2, t'.length ≤ 8) (hk : ks[j]? = some k) (ht : k.2.2.2.2[e]? = some t) (he : e + 1 = k.2.2.2.2.length) (hx : t[i]? = some x) (l : Int32) : mKindsW (ks.set j (kCon k e i t x n)) (mCon m n j e i k.2.2.2.1 l) j (i + 1) := by
  obtain ⟨c0, c1, c2, c3, c4, c5, c6, c7, c8, c9, c10, c11⟩ := h
  have hj := (List.getElem?_eq_some_iff.mp hk).1
  have hi := (List.getElem?_eq_some_iff.mp hx).1
  have hkk := hall j k hk
  have ht8 := hkk.2 t (List.mem_of_getElem? ht)
  simp only [mCon, mKindsW, mA_1, mB_1, mI_1, mI_21, mI_22, mA_21, mA_22, mB_21, mB_22, Nat.reduceEqDiff, Nat.reduceEqDiff, reduceCtorEq, if_false, if_true, List.length_set]
  refine ⟨c0, c1, c2, c3, c4, c5, c6, c7, c8, c9, fun q k' hq => ?_, fun q h1 h2 => ?_⟩
  · simp only [lset_getD]
    rcases set_get hq with ⟨rfl, rfl⟩ | ⟨z1, z2⟩
    · obtain ⟨d1, d2, d3, d4, d5, d6⟩ := c10 q k hk
      rw [if_pos ⟨rfl, by omega⟩]
      refine ⟨d1, d2, d3, by simpa [kCon] using d4, by show nI k.2.2.2.1 + 1 = nI (k.2.2.2.1 + 1); rw [nI_1], fun e' t' ht' => ?_⟩
      have hlen : (kCon k e i t x n).2.2.2.2.length = k.2.2.2.2.length := List.length_set
      rw [hlen]
      rcases set_get ht' with ⟨rfl, rfl⟩ | ⟨y1, y2⟩
      · refine ⟨by rw [List.length_set]; exact (d6 e' t ht).1, fun p y hy => ?_⟩
        rcases set_get hy with ⟨rfl, rfl⟩ | ⟨w1, w2⟩
        · obtain ⟨f1, f2, -⟩ := (d6 e' t ht).2 p x hx
          refine ⟨f1, f2, fun _ _ _ => ?_⟩
          rw [if_pos ⟨rfl, by omega⟩]
        · obtain ⟨f1, f2, f3⟩ := (d6 e' t ht).2 p y w2
          refine ⟨f1, f2, fun z1 z2 z3 => ?_⟩
          rw [if_neg (by omega)]
          exact f3 z1 z2 (fun _ => by rcases z3 rfl with z | z <;> omega)
      · have hl2 := (List.getElem?_eq_some_iff.mp y2).1
        have h8 := hkk.2 t' (List.mem_of_getElem? y2)
        refine ⟨(d6 e' t' y2).1, fun p y hy => ?_⟩
        have hp := (List.getElem?_eq_some_iff.mp hy).1
        obtain ⟨f1, f2, f3⟩ := (d6 e' t' y2).2 p y hy
        refine ⟨f1, f2, fun z1 z2 z3 => ?_⟩
        rw [if_neg (by omega)]
        exact f3 z1 z2 (fun _ => Or.inl (by omega))
    · obtain ⟨d1, d2, d3, d4, d5, d6⟩ := c10 q k' z2
      have hq2 := hall q k' z2
      rw [if_neg (by omega)]
      refine ⟨d1, d2, d3, d4, d5, fun e' t' ht' => ⟨(d6 e' t' ht').1, fun p y hy => ?_⟩⟩
      have hl2 := (List.getElem?_eq_some_iff.mp ht').1
      have hp := (List.getElem?_eq_some_iff.mp hy).1
      have h8 := hq2.2 t' (List.mem_of_getElem? ht')
      have h4 := hq2.1
      obtain ⟨f1, f2, f3⟩ := (d6 e' t' ht').2 p y hy
      refine ⟨f1, f2, fun w1 w2 _ => ?_⟩
      have h4e := hkk.1
      rw [if_neg (by omega)]
      exact f3 w1 w2 (fun z => absurd z z1)
  · simp only [lset_getD]
    rw [if_neg (by omega)]
    exact c11 q h1 h2
end Con2
