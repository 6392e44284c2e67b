section EdSet
variable {rs : List RowT} {ks : List KindT} {vs : List ValT} {tl : Nat → Nat → Nat → List Int32} {sc : Nat → Int32} {wI : Nat → List Int32} {wL : Nat → List Int64} {m : MS} {d d2 u : Nat} {v1 v2 v3 v5 v6 : Int32} {v4 : Int64} {W : Prop → Prop}
variable {cp mp h : MH}
def tlS (tl : Nat → Nat → Nat → List Int32) (j e : Nat) (l0 l1 l2 : List Int32) : Nat → Nat → Nat → List Int32 := fun j' e' i => if j' = j ∧ e' = e then (if i = 0 then l0 else if i = 1 then l1 else if i = 2 then l2 else tl j e i) else tl j' e' i
def oArr (l : List Int32) : MC := .inr (.int, l.map jI)
theorem hC_ed {j e : Nat} {k : KindT} {t t' : List ET} {l0 l1 l2 : List Int32} (hk : ks[j]? = some k) (ht : k.2.2.2.2[e]? = some t) :
    hset (hset (hset (hset (hJ (hC rs ks vs tl sc wI wL) mp) (26, j, e) (oArr (eL t' l0))) (27, j, e) (oArr (eN t' l1))) (28, j, e) (oArr (eM t' l2))) (25, j, e) (oEd j e t') = hJ (hC rs (ks.set j (kEd k e t')) vs (tlS tl j e l0 l1 l2) sc wI wL) mp := by
  have hl := (List.getElem?_eq_some_iff.mp hk).1
  have he := (List.getElem?_eq_some_iff.mp ht).1
  have e2 : (ks.set j (kEd k e t'))[j]? = some (kEd k e t') := List.getElem?_set_self hl
  have e4 : (kEd k e t').2.2.2.2[e]? = some t' := List.getElem?_set_self he
  have e3 : ∀ q, q ≠ j → (ks.set j (kEd k e t'))[q]? = ks[q]? := fun q hq => List.getElem?_set_ne (Ne.symm hq)
  have e5 : ∀ q, q ≠ e → (kEd k e t').2.2.2.2[q]? = k.2.2.2.2[q]? := fun q hq => List.getElem?_set_ne (Ne.symm hq)
  have e6 : (kEd k e t').2.2.2.2.length = k.2.2.2.2.length := List.length_set
  have t0 : tlS tl j e l0 l1 l2 j e 0 = l0 := by simp [tlS]
  have t1 : tlS tl j e l0 l1 l2 j e 1 = l1 := by simp [tlS]
  have t2 : tlS tl j e l0 l1 l2 j e 2 = l2 := by simp [tlS]
  have t9 : ∀ j' e' i, ¬ (j' = j ∧ e' = e) → tlS tl j e l0 l1 l2 j' e' i = tl j' e' i := fun j' e' i q => if_neg q
  rw [hJ_setC (show 26 < 40 by decide), hJ_setC (show 27 < 40 by decide), hJ_setC (show 28 < 40 by decide), hJ_setC (show 25 < 40 by decide)]
  congr 1
  funext q
  by_cases k1 : q = (25, j, e)
  · subst k1; rw [hs_s]; simp only [hC, e2, e4, Option.bind_some, Option.map_some]
  rw [hs_n k1]
  by_cases k2 : q = (28, j, e)
  · subst k2; rw [hs_s]; simp only [hC, e2, e4, Option.bind_some, Option.map_some, t2, oArr]
  rw [hs_n k2]
  by_cases k3 : q = (27, j, e)
  · subst k3; rw [hs_s]; simp only [hC, e2, e4, Option.bind_some, Option.map_some, t1, oArr]
  rw [hs_n k3]
  by_cases k4 : q = (26, j, e)
  · subst k4; rw [hs_s]; simp only [hC, e2, e4, Option.bind_some, Option.map_some, t0, oArr]
  rw [hs_n k4]
  unfold hC
  split <;> first | rfl | (simp only [List.length_set]; done) | skip
  · rename_i j'
    by_cases z : j' = j
    · subst z; rw [e2, hk]; simp only [Option.map_some, oKind, e6]; rfl
    · rw [e3 j' z]
  · rename_i j'
    by_cases z : j' = j
    · subst z; rw [e2, hk]; simp only [Option.map_some, oEds, e6]
    · rw [e3 j' z]
  · rename_i j' e'
    by_cases z : j' = j
    · subst z
      rw [e2, hk]
      simp only [Option.bind_some]
      rw [e5 e' (fun y => k1 (by rw [y]))]
    · rw [e3 j' z]
  · rename_i j' e'
    by_cases z : j' = j
    · subst z
      have y : ¬ e' = e := fun y => k4 (by rw [y])
      rw [e2, hk]
      simp only [Option.bind_some]
      rw [e5 e' y, t9 _ _ _ (fun w => y w.2)]
    · rw [e3 j' z, t9 _ _ _ (fun w => z w.1)]
  · rename_i j' e'
    by_cases z : j' = j
    · subst z
      have y : ¬ e' = e := fun y => k3 (by rw [y])
      rw [e2, hk]
      simp only [Option.bind_some]
      rw [e5 e' y, t9 _ _ _ (fun w => y w.2)]
    · rw [e3 j' z, t9 _ _ _ (fun w => z w.1)]
  · rename_i j' e'
    by_cases z : j' = j
    · subst z
      have y : ¬ e' = e := fun y => k2 (by rw [y])
      rw [e2, hk]
      simp only [Option.bind_some]
      rw [e5 e' y, t9 _ _ _ (fun w => y w.2)]
    · rw [e3 j' z, t9 _ _ _ (fun w => z w.1)]
theorem mapJ_at {f : ET → Int32} {t : List ET} {l : List Int32} {i : Nat} {x : ET} (hx : t[i]? = some x) : ((t.map f ++ l).map jI)[i]? = some (jI (f x)) := by
  have hi := (List.getElem?_eq_some_iff.mp hx).1
  rw [List.getElem?_map, List.getElem?_append_left (by simpa using hi), List.getElem?_map, hx]; rfl
theorem tlS_id {j e : Nat} : tlS tl j e (tl j e 0) (tl j e 1) (tl j e 2) = tl := by
  funext j' e' i
  unfold tlS
  by_cases q : j' = j ∧ e' = e
  · obtain ⟨rfl, rfl⟩ := q
    rw [if_pos ⟨rfl, rfl⟩]
    by_cases i0 : i = 0
    · rw [if_pos i0, i0]
    · rw [if_neg i0]
      by_cases i1 : i = 1
      · rw [if_pos i1, i1]
      · rw [if_neg i1]
        by_cases i2 : i = 2
        · rw [if_pos i2, i2]
        · rw [if_neg i2]
  · rw [if_neg q]
theorem o_25 {j e : Nat} {k : KindT} {t : List ET} (hk : ks[j]? = some k) (ht : k.2.2.2.2[e]? = some t) : (hJ (hC rs ks vs tl sc wI wL) mp) (25, j, e) = some (oEd j e t) := by
  show Option.bind (ks[j]?) _ = _; rw [hk]; simp only [Option.bind_some, ht]; rfl
theorem o_26 {j e : Nat} {k : KindT} {t : List ET} (hk : ks[j]? = some k) (ht : k.2.2.2.2[e]? = some t) : (hJ (hC rs ks vs tl sc wI wL) mp) (26, j, e) = some (oArr (eL t (tl j e 0))) := by
  show Option.bind (ks[j]?) _ = _; rw [hk]; simp only [Option.bind_some, ht]; rfl
theorem o_27 {j e : Nat} {k : KindT} {t : List ET} (hk : ks[j]? = some k) (ht : k.2.2.2.2[e]? = some t) : (hJ (hC rs ks vs tl sc wI wL) mp) (27, j, e) = some (oArr (eN t (tl j e 1))) := by
  show Option.bind (ks[j]?) _ = _; rw [hk]; simp only [Option.bind_some, ht]; rfl
theorem o_28 {j e : Nat} {k : KindT} {t : List ET} (hk : ks[j]? = some k) (ht : k.2.2.2.2[e]? = some t) : (hJ (hC rs ks vs tl sc wI wL) mp) (28, j, e) = some (oArr (eM t (tl j e 2))) := by
  show Option.bind (ks[j]?) _ = _; rw [hk]; simp only [Option.bind_some, ht]; rfl
theorem o_23 {j : Nat} {k : KindT} (hk : ks[j]? = some k) : (hJ (hC rs ks vs tl sc wI wL) mp) (23, j, 0) = some (oKind j k) := by
  show Option.map _ (ks[j]?) = _; rw [hk]; rfl
theorem o_24 {j : Nat} {k : KindT} (hk : ks[j]? = some k) : (hJ (hC rs ks vs tl sc wI wL) mp) (24, j, 0) = some (oEds j k) := by
  show Option.map _ (ks[j]?) = _; rw [hk]; rfl
theorem o_29n : (hJ (hC rs ks vs tl sc wI wL) mp) (29, vs.length, 0) = none := by
  show Option.map _ (vs[vs.length]?) = _; rw [List.getElem?_eq_none (Nat.le_refl _)]; rfl
theorem o_30n : (hJ (hC rs ks vs tl sc wI wL) mp) (30, vs.length, 0) = none := by
  show Option.map _ (vs[vs.length]?) = _; rw [List.getElem?_eq_none (Nat.le_refl _)]; rfl
/-- one member of an edition -/
theorem hC_mem {j e i : Nat} {k : KindT} {t : List ET} {x : ET} {n : Int32} (hk : ks[j]? = some k) (ht : k.2.2.2.2[e]? = some t) (hx : t[i]? = some x) : hset (hJ (hC rs ks vs tl sc wI wL) mp) (28, j, e) (.inr (.int, ((eM t (tl j e 2)).map jI).set i (jI n))) = hJ (hC rs (ks.set j (kEd k e (t.set i (x.1, x.2.1, n)))) vs tl sc wI wL) mp := by
  have hi := (List.getElem?_eq_some_iff.mp hx).1
  have m1 : eL (t.set i (x.1, x.2.1, n)) (tl j e 0) = eL t (tl j e 0) := by unfold eL; rw [map_set_fst (y := (x.1, x.2.1, n)) hx rfl]
  have m2 : eN (t.set i (x.1, x.2.1, n)) (tl j e 1) = eN t (tl j e 1) := by
    unfold eN
    congr 1
    apply List.ext_getElem?
    intro q
    rw [List.getElem?_map, List.getElem?_map, List.getElem?_set]
    by_cases z : i = q
    · subst z; rw [if_pos rfl, if_pos hi, hx]; rfl
    · rw [if_neg z]
  have m3 : oArr (eM (t.set i (x.1, x.2.1, n)) (tl j e 2)) = .inr (.int, ((eM t (tl j e 2)).map jI).set i (jI n)) := by
    unfold oArr eM
    congr 2
    rw [List.map_set, List.map_append, List.map_append, List.map_set, List.set_append]
    simp [hi]
  have := hC_ed (rs := rs) (vs := vs) (tl := tl) (sc := sc) (wI := wI) (wL := wL) (mp := mp) (t' := t.set i (x.1, x.2.1, n)) (l0 := tl j e 0) (l1 := tl j e 1) (l2 := tl j e 2) hk ht
  rw [tlS_id] at this
  rw [← this, m1, m2, m3]
  have q1 : oEd j e (t.set i (x.1, x.2.1, n)) = oEd j e t := by unfold oEd; rw [List.length_set]
  rw [q1, hset_same (o_26 hk ht), hset_same (o_27 hk ht)]
  exact (hset_same (by rw [hs_n (ne_fst rfl)]; exact o_25 hk ht)).symm
theorem kCon_eq {j e i n : Nat} {k : KindT} {t : List ET} {x : ET} : (ks.set j (kMade k)).set j (kEd (kMade k) e (t.set i (x.1, x.2.1, nI n))) = ks.set j (kCon k e i t x n) := by rw [List.set_set]; rfl
theorem s_addConstant {j e i : Nat} {k : KindT} {t : List ET} {x : ET} (hk : ks[j]? = some k) (ht : k.2.2.2.2[e]? = some t) (he : e + 1 = k.2.2.2.2.length) (h4 : k.2.2.2.2.length ≤ 4) (hx : t[i]? = some x) (h8 : t.length ≤ 8) (hn : vs.length < 200) (hu : 10 ≤ u) {K : MH → Nat → Prop} (H : K (hJ (hC rs (ks.set j (kCon k e i t x vs.length)) (vs ++ [(j, e, k.2.2.2.1, x.1, 1, 1, [])]) tl sc wI wL) mp) (u - 10)) : iV (d + 2) u_X11_addConstant [jR br, jR (some (23, j, 0)), jI (nI i)] (hJ (hC rs ks vs tl sc wI wL) mp) u K := by
  have hi := (List.getElem?_eq_some_iff.mp hx).1
  have hj := (List.getElem?_eq_some_iff.mp hk).1
  have ee : k.2.2.2.2.length - 1 = e := by omega
  refine I_X11_addConstant 10 hu ?_
  unfold F_X11_addConstant
  refine ⟨rc_raw (o_23 hk), s_newest (o_23 hk) (o_24 hk) (by omega) h4 ?_⟩
  rw [ee]
  refine gR_raw (o_25 hk ht) rfl (gR_raw (n := (1, 0, 0)) rfl rfl ?_)
  refine nO_raw (29, vs.length, 0) (by simp) o_29n (by simp) ?_
  refine gR_raw (n := (1, 0, 0)) (by rw [hs_n (ne_fst rfl)]; rfl) rfl ?_
  refine gI_raw (n := (2, 0, 0)) (by rw [hs_n (ne_fst rfl)]; rfl) rfl ?_
  refine gR_raw (by rw [hs_n (ne_fst rfl)]; exact o_25 hk ht) rfl ?_
  refine aI_raw (x := x.1) (by rw [hs_n (ne_fst rfl)]; exact o_26 hk ht) (by omega) (mapJ_at hx) ?_
  refine nA_raw (len := 0) (30, vs.length, 0) (by omega) (by simp) (by rw [hs_n (ne_fst rfl)]; exact o_30n) (by simp) ?_
  refine s_valInit (k := k) (s := 1) (dp := 1) (ps := []) (by rw [hs_n (ne_fst rfl), hs_s]) (by rw [hs_n (ne_fst rfl), hs_n (ne_fst rfl)]; exact o_23 hk) (by rw [hs_n (ne_fst rfl), hs_n (ne_fst rfl)]; exact o_24 hk) (by omega) h4 ?_
  rw [hs_mid (ne_fst rfl), ee]
  refine ⟨rc_raw (n := (2, 0, 0)) (by rw [hs_n (ne_fst rfl), hs_n (ne_fst rfl)]; rfl), ?_⟩
  refine f_addValue (v := (j, e, k.2.2.2.1, x.1, 1, 1, [])) (k := k) hk hn ?_
  have hk2 : (ks.set j (kMade k))[j]? = some (kMade k) := List.getElem?_set_self hj
  refine sV_raw (o_28 hk2 ht) (by simp [eM]; omega) (by omega) ?_
  have := hC_mem (rs := rs) (vs := vs ++ [(j, e, k.2.2.2.1, x.1, 1, 1, [])]) (tl := tl) (sc := sc) (wI := wI) (wL := wL) (mp := mp) (n := nI vs.length) hk2 ht hx
  unfold oArr at *
  rw [this, kCon_eq]
  exact H
end EdSet
