section EdChg2
variable {rs : List RowT} {ks : List KindT} {vs : List ValT} {tl : Nat → Nat → Nat → List Int32} {sc : Nat → Int32} {wI : Nat → List Int32} {wL : Nat → List Int64} {m : MS} {d d2 u : Nat} {v1 v2 v3 v5 v6 : Int32} {v4 : Int64} {W : Prop → Prop}
variable {cp mp h : MH}
/-- what an edition has after a change -/
def edNew (what w l : Int32) (t t' : List ET) : Prop := (what = 0 ∧ ∃ a, t' = t ++ [(w, l, a)]) ∨ (what = 1 ∧ ∃ p, plc t w = some p ∧ t' = t.eraseIdx p) ∨ (what = 2 ∧ ∃ p x, plc t w = some p ∧ t[p]? = some x ∧ t' = t.set p (x.1, l, x.2.2)) ∨ (what = 3 ∧ t' = t.reverse)
theorem tlS_off {j e : Nat} {l0 l1 l2 : List Int32} {j' e' i : Nat} (h : ¬ (j' = j ∧ e' = e)) : tlS tl j e l0 l1 l2 j' e' i = tl j' e' i := if_neg h
theorem tlS_on {j e : Nat} {l0 l1 l2 : List Int32} : tlS tl j e l0 l1 l2 j e 0 = l0 ∧ tlS tl j e l0 l1 l2 j e 1 = l1 ∧ tlS tl j e l0 l1 l2 j e 2 = l2 := by simp [tlS]
theorem s_change {j e c : Nat} {k : KindT} {t : List ET} {what w l : Int32} (hk : ks[j]? = some k) (ht : k.2.2.2.2[e]? = some t) (hc : c ≤ 8) (hT : ∀ i, i < 3 → t.length + (tl j e i).length = c) (hw : what = 0 ∨ what = 1 ∨ what = 2 ∨ what = 3) (h0 : what = 0 → t.length < c) (h1 : what = 1 ∨ what = 2 → plc t w ≠ none) {Q : MH → Prop} (H : ∀ t' tl', edNew what w l t t' → (∀ j' e' i, ¬ (j' = j ∧ e' = e) → tl' j' e' i = tl j' e' i) → (∀ i, i < 3 → t'.length + (tl' j e i).length = c) → Q (hJ (hC rs (ks.set j (kEd k e t')) vs tl' sc wI wL) mp)) : F_X11_change d (some (25, j, e)) what w l (hJ (hC rs ks vs tl sc wI wL) mp) u Q := by
  have t0 := hT 0 (by omega)
  have t1 := hT 1 (by omega)
  have t2 := hT 2 (by omega)
  have s5 := o_25 (rs := rs) (vs := vs) (tl := tl) (sc := sc) (wI := wI) (wL := wL) (mp := mp) hk ht
  unfold F_X11_change
  refine ⟨rc_raw s5, f_find hk ht (by omega) ?_⟩
  rcases hw with rfl | rfl | rfl | rfl
  · rw [if_pos rfl]
    have h0 := h0 rfl
    rcases y0 : tl j e 0 with _ | ⟨b0, r0⟩
    · rw [y0] at t0; simp at t0; omega
    · rcases y1 : tl j e 1 with _ | ⟨b1, r1⟩
      · rw [y1] at t1; simp at t1; omega
      · rcases y2 : tl j e 2 with _ | ⟨b2, r2⟩
        · rw [y2] at t2; simp at t2; omega
        · refine ⟨rc_raw s5, f_edAdd hk ht (by omega) y0 y1 y2 (H _ _ (Or.inl ⟨rfl, b2, rfl⟩) (fun j' e' i z => if_neg z) (fun i hi => ?_))⟩
          unfold tlD
          rw [if_pos ⟨rfl, rfl⟩, List.length_tail, List.length_append]
          have := hT i hi
          have hlt : 0 < (tl j e i).length := by omega
          simp only [List.length_cons, List.length_nil]
          omega
  · rw [if_neg (by decide), if_pos rfl]
    obtain ⟨p, hp⟩ := Option.ne_none_iff_exists'.mp (h1 (Or.inl rfl))
    have hpl := plc_lt hp
    obtain ⟨x, hx⟩ := get_lt hpl
    have et : t = t.take p ++ x :: t.drop (p + 1) := by
      have := List.getElem?_eq_some_iff.mp hx
      rw [← this.2]
      simp
    have lp : (t.take p).length = p := by simp; omega
    rw [hp]
    refine ⟨rc_raw s5, ?_⟩
    unfold F_X2_drop
    rw [if_neg (show ¬ pI (some p) < 0 from nI_pos (by omega))]
    refine gI_raw s5 rfl ?_
    rw [if_pos (show pI (some p) < nI t.length from nI_lt hpl (by omega))]
    have := s_drop15 (rs := rs) (vs := vs) (tl := tl) (sc := sc) (wI := wI) (wL := wL) (mp := mp) (d := d) (u := 0) (x := x) hk ht (Q := Q) (t.drop (p + 1)) (t.take p) (by rw [← et]; omega) (by
      refine H _ _ (Or.inr (Or.inl ⟨rfl, p, hp, (List.eraseIdx_eq_take_drop_succ t p).symm⟩)) (fun j' e' i z => tlS_off z) (fun i hi => ?_)
      have l1 : (t.take p ++ t.drop (p + 1)).length + 1 = t.length := by simp; omega
      unfold tlG
      obtain ⟨q0, q1, q2⟩ := tlS_on (tl := tl) (j := j) (e := e) (l0 := x.1 :: tl j e 0) (l1 := x.2.1 :: tl j e 1) (l2 := x.2.2 :: tl j e 2)
      match i, hi with
      | 0, _ => rw [q0]; simp only [List.length_cons]; omega
      | 1, _ => rw [q1]; simp only [List.length_cons]; omega
      | 2, _ => rw [q2]; simp only [List.length_cons]; omega)
    rw [← et, kEd_same hk ht, lp] at this
    exact this
  · rw [if_neg (by decide), if_neg (by decide), if_pos rfl]
    obtain ⟨p, hp⟩ := Option.ne_none_iff_exists'.mp (h1 (Or.inr rfl))
    have hpl := plc_lt hp
    obtain ⟨x, hx⟩ := get_lt hpl
    rw [hp]
    refine ⟨rc_raw s5, ?_⟩
    unfold F_X2_changeLane
    rw [if_neg (show ¬ pI (some p) < 0 from nI_pos (by omega))]
    refine gI_raw s5 rfl ?_
    rw [if_neg (show ¬ nI t.length ≤ pI (some p) from nI_ge hpl (by omega))]
    refine gR_raw s5 rfl (sV_raw (o_27 hk ht) (by simp [eN]; omega) (by omega) ?_)
    have eq := hC_ed (rs := rs) (vs := vs) (tl := tl) (sc := sc) (wI := wI) (wL := wL) (mp := mp) (t' := t.set p (x.1, l, x.2.2)) (l0 := tl j e 0) (l1 := tl j e 1) (l2 := tl j e 2) hk ht
    rw [tlS_id] at eq
    have m6 : eL (t.set p (x.1, l, x.2.2)) (tl j e 0) = eL t (tl j e 0) := by unfold eL; rw [map_set_fst (y := (x.1, l, x.2.2)) hx rfl]
    have m8 : eM (t.set p (x.1, l, x.2.2)) (tl j e 2) = eM t (tl j e 2) := by
      unfold eM
      congr 1
      apply List.ext_getElem?
      intro q
      rw [List.getElem?_map, List.getElem?_map, List.getElem?_set]
      by_cases z : p = q
      · subst z; rw [if_pos rfl, if_pos hpl, hx]; rfl
      · rw [if_neg z]
    have m7 : oArr (eN (t.set p (x.1, l, x.2.2)) (tl j e 1)) = .inr (.int, ((eN t (tl j e 1)).map jI).set p (jI l)) := by
      unfold oArr eN
      congr 2
      rw [List.map_set, List.map_append, List.map_append, List.map_set, List.set_append]
      simp [hpl]
    have q5 : oEd j e (t.set p (x.1, l, x.2.2)) = oEd j e t := by unfold oEd; rw [List.length_set]
    rw [m6, m7, m8, q5, hset_same (o_26 hk ht), hset_same (n := (25, j, e)) (by rw [hs_n (ne_fst rfl), hs_n (ne_fst rfl)]; exact s5), hset_same (n := (28, j, e)) (by rw [hs_n (ne_fst rfl)]; exact o_28 hk ht)] at eq
    have := H _ tl (Or.inr (Or.inr (Or.inl ⟨rfl, p, x, hp, hx, rfl⟩))) (fun _ _ _ _ => rfl) (fun i hi => by rw [List.length_set]; exact hT i hi)
    rw [← eq] at this
    exact this
  · rw [if_neg (by decide), if_neg (by decide), if_neg (by decide)]
    refine ⟨rc_raw s5, ?_⟩
    unfold F_X2_reverse
    have := s_reverse2 (rs := rs) (vs := vs) (tl := tl) (sc := sc) (wI := wI) (wL := wL) (mp := mp) (d := d) (u := 0) hk ht (Q := Q) t.length [] t [] (Nat.le_refl _) rfl (by simp; omega) (by
      have := H t.reverse tl (Or.inr (Or.inr (Or.inr ⟨rfl, rfl⟩))) (fun _ _ _ _ => rfl) (fun i hi => by rw [List.length_reverse]; exact hT i hi)
      simpa using this)
    simp only [List.nil_append, List.append_nil] at this
    rw [kEd_same hk ht] at this
    exact this
end EdChg2
