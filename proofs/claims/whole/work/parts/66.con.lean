section Con
variable {rs : List RowT} {ks : List KindT} {vs : List ValT} {tl : Nat → Nat → Nat → List Int32} {sc : Nat → Int32} {wI : Nat → List Int32} {wL : Nat → List Int64} {m : MS} {d d2 u : Nat} {v1 v2 v3 v5 v6 : Int32} {v4 : Int64} {W : Prop → Prop}
variable {cp mp h : MH}
theorem map_set_fst {t : List ET} {i : Nat} {x y : ET} (hx : t[i]? = some x) (hy : y.1 = x.1) : (t.set i y).map (fun x => x.1) = t.map (fun x => x.1) := by
  rw [List.map_set, hy]
  apply List.ext_getElem?
  intro q
  rw [List.getElem?_set]
  by_cases e : i = q
  · subst e
    have := (List.getElem?_eq_some_iff.mp hx).1
    rw [if_pos rfl, if_pos (by simpa using this), List.getElem?_map, hx]; rfl
  · rw [if_neg e]
theorem KindW.con {k : KindT} {nv e i : Nat} {t : List ET} {x : ET} (h : KindW k nv i) (hc : k.1 = true) (hs : k.2.2.1 = true) (ht : k.2.2.2.2[e]? = some t) (he : e + 1 = k.2.2.2.2.length) (hx : t[i]? = some x) : KindW (kCon k e i t x nv) (nv + 1) (i + 1) := by
  obtain ⟨a1, a2, a3, a4, a5, a6, a7⟩ := h
  have hel := (List.getElem?_eq_some_iff.mp ht).1
  refine ⟨by simpa [kCon] using a1, by simpa [kCon] using a2, fun z => ?_, fun t' ht' => ?_, by show k.2.2.2.1 + 1 ≤ nv + 1; omega, a6, fun z1 z2 e' t' ht' q y hy hq => ?_⟩
  · have : k.2.2.1 = false := z
    rw [hs] at this; cases this
  · rcases List.mem_or_eq_of_mem_set ht' with z | z
    · exact a4 t' z
    · subst z
      obtain ⟨b1, b2, b3⟩ := a4 t (List.mem_of_getElem? ht)
      refine ⟨by rw [List.length_set]; exact b1, by rw [map_set_fst (y := (x.1, x.2.1, nI nv)) hx rfl]; exact b2, fun z => ?_⟩
      have : k.1 = false := z
      rw [hc] at this; cases this
  · have hlen : (kCon k e i t x nv).2.2.2.2.length = k.2.2.2.2.length := List.length_set
    rw [hlen] at hq
    rcases set_get ht' with ⟨rfl, rfl⟩ | ⟨w1, w2⟩
    · rcases set_get hy with ⟨rfl, rfl⟩ | ⟨w3, w4⟩
      · exact ⟨nv, by omega, rfl⟩
      · obtain ⟨jj, y1, y2⟩ := a7 hc hs e' t ht q y w4 (Or.inr (by omega))
        exact ⟨jj, by omega, y2⟩
    · have h5 := (List.getElem?_eq_some_iff.mp w2).1
      obtain ⟨jj, y1, y2⟩ := a7 hc hs e' t' w2 q y hy (Or.inl (by omega))
      exact ⟨jj, by omega, y2⟩
end Con
