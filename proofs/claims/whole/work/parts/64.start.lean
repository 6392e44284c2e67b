section Start
variable {rs : List RowT} {ks : List KindT} {vs : List ValT} {tl : Nat → Nat → Nat → List Int32} {sc : Nat → Int32} {wI : Nat → List Int32} {wL : Nat → List Int64} {m : MS} {d d2 u : Nat} {v1 v2 v3 v5 v6 : Int32} {v4 : Int64} {W : Prop → Prop}
variable {cp mp h : MH}
/-- a kind whose newest edition has its members only below place i -/
def KindW (k : KindT) (nv i : Nat) : Prop := 1 ≤ k.2.2.2.2.length ∧ k.2.2.2.2.length ≤ 4 ∧ (k.2.2.1 = false → k.2.2.2.2.length = 1 ∧ k.2.2.2.1 = 0) ∧ (∀ t ∈ k.2.2.2.2, EdOK k.1 t) ∧ k.2.2.2.1 ≤ nv ∧ (if k.1 then wi k.2.1 0 3 else wi k.2.1 0 4) = true ∧ (k.1 = true → k.2.2.1 = true → ∀ e t, k.2.2.2.2[e]? = some t → ∀ q x, t[q]? = some x → (e + 1 < k.2.2.2.2.length ∨ q < i) → ∃ j : Nat, j < nv ∧ x.2.2 = nI j)
theorem KindOK.w {k : KindT} {nv : Nat} (h : KindOK k nv) (i : Nat) : KindW k nv i := by
  obtain ⟨a1, a2, a3, a4, a5, a6, a7⟩ := h
  exact ⟨a1, a2, a3, a4, a5, a6, fun z1 z2 e t ht q x hx _ => a7 z1 z2 t (List.mem_of_getElem? ht) x (List.mem_of_getElem? hx)⟩
theorem KindW.ok {k : KindT} {nv i : Nat} (h : KindW k nv i) (hi : ∀ t, k.2.2.2.2[k.2.2.2.2.length - 1]? = some t → t.length ≤ i) : KindOK k nv := by
  obtain ⟨a1, a2, a3, a4, a5, a6, a7⟩ := h
  refine ⟨a1, a2, a3, a4, a5, a6, fun z1 z2 t ht x hx => ?_⟩
  obtain ⟨e, he⟩ := List.getElem?_of_mem ht
  obtain ⟨q, hq⟩ := List.getElem?_of_mem hx
  have hl := (List.getElem?_eq_some_iff.mp he).1
  have hql := (List.getElem?_eq_some_iff.mp hq).1
  refine a7 z1 z2 e t he q x hq ?_
  by_cases y : e + 1 < k.2.2.2.2.length
  · exact Or.inl y
  · have : e = k.2.2.2.2.length - 1 := (by omega)
    subst this
    exact Or.inr (Nat.lt_of_lt_of_le hql (hi t he))
def KindsW (ks : List KindT) (nv j i : Nat) : Prop := ks.length ≤ 16 ∧ ∀ q k, ks[q]? = some k → if q = j then KindW k nv i else KindOK k nv
def mKindsW (ks : List KindT) (m : MS) (jj ii : Nat) : Prop := m.1 9 = nI ks.length ∧ (m.2.1 10).length = 16 ∧ (m.2.1 11).length = 16 ∧ (m.2.1 12).length = 16 ∧ (m.2.1 13).length = 16 ∧ (m.2.1 14).length = 16 ∧ (m.2.1 15).length = 64 ∧ (m.2.1 16).length = 512 ∧ (m.2.1 17).length = 512 ∧ (m.2.1 18).length = 512 ∧
  (∀ j k, ks[j]? = some k → (m.2.1 10).getD j 0 = b2i k.1 ∧ (m.2.1 11).getD j 0 = k.2.1 ∧ (m.2.1 12).getD j 0 = b2i k.2.2.1 ∧ (m.2.1 13).getD j 0 = nI (k.2.2.2.2.length - 1) ∧ (m.2.1 14).getD j 0 = nI k.2.2.2.1 ∧
    ∀ e t, k.2.2.2.2[e]? = some t → (m.2.1 15).getD (4 * j + e) 0 = nI t.length ∧ ∀ i x, t[i]? = some x → (m.2.1 16).getD (8 * (4 * j + e) + i) 0 = x.1 ∧ (m.2.1 17).getD (8 * (4 * j + e) + i) 0 = x.2.1 ∧ (k.1 = true → k.2.2.1 = true → (j = jj → e + 1 < k.2.2.2.2.length ∨ i < ii) → (m.2.1 18).getD (8 * (4 * j + e) + i) 0 = x.2.2)) ∧
  ∀ j, ks.length ≤ j → j < 16 → (m.2.1 12).getD j 0 = 0 ∧ (m.2.1 13).getD j 0 = 0 ∧ (m.2.1 14).getD j 0 = 0 ∧ (m.2.1 15).getD (4 * j) 0 = 0
def WInv (rs : List RowT) (ks : List KindT) (vs : List ValT) (tl : Nat → Nat → Nat → List Int32) (sc : Nat → Int32) (wI : Nat → List Int32) (wL : Nat → List Int64) (m : MS) (j i : Nat) : Prop :=
  (RowsOK rs vs.length ∧ KindsW ks vs.length j i ∧ TlOK ks tl ∧ ValsOK rs ks vs ∧ MiscOK sc wI wL ks ∧ TrayOK wI wL rs.length vs.length) ∧ mRows rs m ∧ mKindsW ks m j i ∧ mVals vs m ∧ mMisc sc wI wL m
theorem WInv.inv {j i : Nat} {k : KindT} (I : WInv rs ks vs tl sc wI wL m j i) (hk : ks[j]? = some k) (hi : ∀ t, k.2.2.2.2[k.2.2.2.2.length - 1]? = some t → t.length ≤ i) : Inv rs ks vs tl sc wI wL m := by
  obtain ⟨⟨a1, a2, a3, a4, a5, a6⟩, b1, b2, b3, b4⟩ := I
  refine ⟨⟨a1, ⟨a2.1, fun k' hk' => ?_⟩, a3, a4, a5, a6⟩, b1, ?_, b3, b4⟩
  · obtain ⟨q, hq⟩ := List.getElem?_of_mem hk'
    have := a2.2 q k' hq
    by_cases z : q = j
    · subst z
      rw [if_pos rfl] at this
      cases hk.symm.trans hq
      exact this.ok hi
    · rw [if_neg z] at this; exact this
  · obtain ⟨c0, c1, c2, c3, c4, c5, c6, c7, c8, c9, c10, c11⟩ := b2
    refine ⟨c0, c1, c2, c3, c4, c5, c6, c7, c8, c9, fun q k' hq => ?_, c11⟩
    obtain ⟨d1, d2, d3, d4, d5, d6⟩ := c10 q k' hq
    refine ⟨d1, d2, d3, d4, d5, fun e t ht => ?_⟩
    obtain ⟨f1, f2⟩ := d6 e t ht
    refine ⟨f1, fun p x hx => ?_⟩
    obtain ⟨g1, g2, g3⟩ := f2 p x hx
    refine ⟨g1, g2, fun z1 z2 => g3 z1 z2 (fun z => ?_)⟩
    subst z
    cases hk.symm.trans hq
    have hl := (List.getElem?_eq_some_iff.mp ht).1
    have hpl := (List.getElem?_eq_some_iff.mp hx).1
    by_cases y : e + 1 < k.2.2.2.2.length
    · exact Or.inl y
    · have : e = k.2.2.2.2.length - 1 := (by omega)
      subst this
      exact Or.inr (Nat.lt_of_lt_of_le hpl (hi t ht))
theorem Inv.w (I : Inv rs ks vs tl sc wI wL m) (j i : Nat) : WInv rs ks vs tl sc wI wL m j i := by
  obtain ⟨⟨a1, a2, a3, a4, a5, a6⟩, b1, b2, b3, b4⟩ := I
  refine ⟨⟨a1, ⟨a2.1, fun q k' hk' => ?_⟩, a3, a4, a5, a6⟩, b1, ?_, b3, b4⟩
  · have := a2.2 k' (List.mem_of_getElem? hk')
    by_cases z : q = j
    · rw [if_pos z]; exact this.w i
    · rw [if_neg z]; exact this
  · obtain ⟨c0, c1, c2, c3, c4, c5, c6, c7, c8, c9, c10, c11⟩ := b2
    refine ⟨c0, c1, c2, c3, c4, c5, c6, c7, c8, c9, fun q k' hq => ?_, c11⟩
    obtain ⟨d1, d2, d3, d4, d5, d6⟩ := c10 q k' hq
    refine ⟨d1, d2, d3, d4, d5, fun e t ht => ⟨(d6 e t ht).1, fun p x hx => ?_⟩⟩
    obtain ⟨g1, g2, g3⟩ := (d6 e t ht).2 p x hx
    exact ⟨g1, g2, fun z1 z2 _ => g3 z1 z2⟩
end Start
