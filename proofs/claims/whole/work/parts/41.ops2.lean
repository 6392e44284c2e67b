/-! a cell of a row is written -/
section W22
variable {rs : List RowT} {ks : List KindT} {vs : List ValT} {tl : Nat → Nat → Nat → List Int32} {sc : Nat → Int32} {wI : Nat → List Int32} {wL : Nat → List Int64} {mp : MH} {m : MS}
theorem hC_rowset {j : Nat} {r r' : RowT} (hj : rs[j]? = some r) (h1 : r'.1 = r.1) (h2 : r'.2.1 = r.2.1) {k : Nm} (hk : k ≠ (22, j, 0)) : hC (rs.set j r') ks vs tl sc wI wL k = hC rs ks vs tl sc wI wL k := by
  have hl := (List.getElem?_eq_some_iff.mp hj).1
  unfold hC
  split <;> first
    | rfl
    | (simp only [List.length_set]; done)
    | (rename_i j'
       by_cases e : j = j'
       · subst e
         first
           | exact absurd rfl hk
           | (simp only [List.getElem?_set_self hl, hj, Option.map_some, oRow, h1, h2]; done)
       · simp only [List.getElem?_set_ne e]; done)
theorem c_s22 {j : Nat} {r : RowT} (hj : rs[j]? = some r) {i : Int32} {x : Int64} {K : MH → Prop} : sV .long (hJ (hC rs ks vs tl sc wI wL) mp) (some (22, j, 0)) i (jL x) K ↔ inb r.2.2 i ∧ K (hJ (hC (rs.set j (r.1, r.2.1, r.2.2.set i.toNatClampNeg x)) ks vs tl sc wI wL) mp) := by
  have hl := (List.getElem?_eq_some_iff.mp hj).1
  refine sL_arr (l := r.2.2) (by simp [hJ, hC, hj, oCells, Nat.blt, Nat.ble]) (hC_split (show 22 < 40 by decide) ?_ (fun k hk => hC_rowset (r' := (r.1, r.2.1, r.2.2.set i.toNatClampNeg x)) hj rfl rfl hk))
  simp [hC, oCells, hl]
theorem lset_getD {α : Type} {l : List α} {i j : Nat} {x d : α} : (l.set i x).getD j d = if i = j ∧ j < l.length then x else l.getD j d := by
  simp only [List.getD_eq_getElem?_getD, List.getElem?_set]
  by_cases e : i = j
  · subst e
    by_cases h : i < l.length
    · simp [h]
    · simp [h]
  · simp [e]
theorem Inv.cell (I : Inv rs ks vs tl sc wI wL m) {j i : Nat} {r : RowT} {x : Int64} (hj : rs[j]? = some r) (hk : r.2.1 = false) (hi : i < r.2.2.length) (hx : cellOK r.1 x vs.length) : Inv (rs.set j (r.1, r.2.1, r.2.2.set i x)) ks vs tl sc wI wL (mB m 7 ((m.2.2 7).set (20 * j + i) x)) := by
  obtain ⟨⟨⟨a1, a1'⟩, a2, a3, ⟨a4, a4'⟩, a5, a6⟩, b1, b2, b3, b4⟩ := I
  have hl := (List.getElem?_eq_some_iff.mp hj).1
  have hrm : r ∈ rs := List.mem_of_getElem? hj
  obtain ⟨r1, r2, r3, r4⟩ := a1' r hrm
  refine ⟨⟨⟨by rw [List.length_set]; exact a1, fun q hq => ?_⟩, a2, a3, ⟨a4, fun n v hv => ?_⟩, a5, by rw [List.length_set]; exact a6⟩, ?_, ?_, ?_, ?_⟩
  · rcases List.mem_or_eq_of_mem_set hq with h | h
    · exact a1' q h
    · subst h
      refine ⟨r1, by rw [List.length_set]; exact r2, fun y hy => ?_, r4⟩
      rcases List.mem_or_eq_of_mem_set hy with h | h
      · exact r3 y h
      · subst h; exact hx
  · obtain ⟨k, t, e1, e2, e3, e4, e5, e6, e7, e8, e9⟩ := a4' n v hv
    refine ⟨k, t, e1, e2, e3, e4, e5, e6, e7, e8, fun hc => ?_⟩
    obtain ⟨f1, f2, f3⟩ := e9 hc
    refine ⟨f1, f2, fun i' x' y hx' hy => ?_⟩
    obtain ⟨g1, g2, g3⟩ := f3 i' x' y hx' hy
    refine ⟨g1, g2, fun h9 => ?_⟩
    rcases g3 h9 with g | ⟨q, rq, g4, g5, g6⟩
    · exact Or.inl g
    · by_cases e : j = q
      · subst e
        cases hj.symm.trans g5
        refine Or.inr ⟨j, (r.1, r.2.1, r.2.2.set i x), g4, by rw [List.getElem?_set_self hl], fun h8 => ?_⟩
        rw [(g6 h8).1] at hk
        cases hk
      · exact Or.inr ⟨q, rq, g4, by rw [List.getElem?_set_ne e]; exact g5, g6⟩
  · obtain ⟨c1, c2, c3, c4, c5, c6, c7⟩ := b1
    refine ⟨by rw [List.length_set]; exact c1, c2, c3, c4, by simp [mB, up, c5], by simpa [mB, up] using c6, fun q rq hq => ?_⟩
    have hq60 : q < rs.length := by have := (List.getElem?_eq_some_iff.mp hq).1; simpa using this
    have hA : (mB m 7 ((m.2.2 7).set (20 * j + i) x)).2.1 = m.2.1 := rfl
    have hB : (mB m 7 ((m.2.2 7).set (20 * j + i) x)).2.2 7 = (m.2.2 7).set (20 * j + i) x := by simp [mB, up]
    rw [hA, hB]
    by_cases e : j = q
    · subst e
      rw [List.getElem?_set_self hl] at hq
      cases hq
      obtain ⟨d1, d2, d3, d4⟩ := c7 j r hj
      refine ⟨d1, by rw [List.length_set]; exact d2, d3, fun i' x' hx' => ?_⟩
      rw [lset_getD]
      replace hx' : (r.2.2.set i x)[i']? = some x' := hx'
      rw [List.getElem?_set] at hx'
      by_cases e2 : i = i'
      · subst e2
        rw [if_pos rfl, if_pos hi] at hx'
        cases hx'
        rw [if_pos ⟨rfl, by omega⟩]
      · rw [if_neg e2] at hx'
        rw [if_neg (by omega)]
        exact d4 i' x' hx'
    · rw [List.getElem?_set_ne e] at hq
      obtain ⟨d1, d2, d3, d4⟩ := c7 q rq hq
      refine ⟨d1, d2, d3, fun i' x' hx' => ?_⟩
      rw [lset_getD, if_neg]
      · exact d4 i' x' hx'
      · have := (a1' rq (List.mem_of_getElem? hq)).2.1
        have h7 := (List.getElem?_eq_some_iff.mp hx').1
        omega
  · simpa [mKinds, mB] using b2
  · simpa [mVals, mB, up] using b3
  · simpa [mMisc, mB, up] using b4
end W22
section Ops2
variable {rs : List RowT} {ks : List KindT} {vs : List ValT} {tl : Nat → Nat → Nat → List Int32} {sc : Nat → Int32} {wI : Nat → List Int32} {wL : Nat → List Int64} {m : MS} {d d2 u : Nat} {v1 v2 v3 : Int32} {v4 : Int64} {W : Prop → Prop}
/-- what a call may leave behind -/
abbrev KI (K : Int32 → Int32 → MH → Prop) : Prop := ∀ a rs ks vs tl sc wI wL m, Inv rs ks vs tl sc wI wL m → K a a (hX rs ks vs tl sc wI wL m)
abbrev KL (K : Int64 → Int64 → MH → Prop) : Prop := ∀ a rs ks vs tl sc wI wL m, Inv rs ks vs tl sc wI wL m → K a a (hX rs ks vs tl sc wI wL m)
theorem g_tell {h : MH} {x : Int64} {Q : Int64 → MH → Prop} : F_X4_tell d 8 x h u Q ↔ Q (if x = -1 then -5 else x) h := by
  unfold F_X4_tell
  simp only [show ¬ (8 : Int32) < 8 by decide, if_false, lg_cmp_eq]
  by_cases e : x = -1
  · simp [e]
  · simp [e]
theorem op_at (I : Inv rs ks vs tl sc wI wL m) (hW : ∀ X, X → W X) {K : Int32 → Int32 → MH → Prop} (hK : KI K) : F_X11_at d br v1 v2 (hX rs ks vs tl sc wI wL m) u (fun a h => W (rc h mo 11 ∧ F_X12_at d2 mo v1 v2 h 0 (fun b h => K a b h))) := by
  have hR := I.1.1.1
  have hM := I.2.1
  unfold F_X11_at
  simp only [c_g1_0, c_rc2, true_and, f_findRow hR, ixL_i]
  rcases hx : ix v1 rs.length with _ | j
  · simp only [Option.map_none, nl_none]
    refine hW _ ⟨m_rc, ?_⟩
    unfold F_X12_at
    simp only [m_rcT, true_and, g_isRow hR hM.1, hx, if_b2i, Option.isSome_none, if_true]
    exact hK _ _ _ _ _ _ _ _ _ I
  · obtain ⟨h1, rfl, -, -⟩ := ix_some hx
    obtain ⟨r, hj⟩ := get_lt h1
    obtain ⟨rl, r20, rc8, -⟩ := I.1.1.2 r (List.mem_of_getElem? hj)
    obtain ⟨hj60, ⟨a1, a2⟩, ⟨a3, a4⟩, ⟨a5, a6⟩, a7⟩ := hM.at hR hj
    simp only [Option.map_some, nl_some]
    unfold F_X11_thingFault
    simp only [c_g21_1, c_rc21, hj, wr_some, true_and, f_hasCell hj r20, if_b2i]
    by_cases e8 : r.1 = 8
    · simp only [e8, if_true]
      rcases hy : ix v2 r.2.2.length with _ | i
      · simp only [Option.isSome_none, if_true, show ¬ (2 : Int32) = 0 by decide, if_false, c_rc1, true_and, f_failed]
        refine hW _ ⟨m_rc, ?_⟩
        unfold F_X12_at
        simp only [m_rcT, true_and, g_isRow hR hM.1, hx, if_b2i, Option.isSome_some, m_g4, m_a4, a1, a2, e8, if_true, m_g5, m_a5, a3, a4, f_in, wi_ix (show r.2.2.length < 2 ^ 30 by omega), hy, Option.isSome_none, g_fails, if_false, Bool.true_eq_false]
        exact hK _ _ _ _ _ _ _ _ _ (I.fault 2)
      · obtain ⟨i1, rfl, -, i4⟩ := ix_some hy
        obtain ⟨b1, b2⟩ := a7 i i1 r20
        simp only [Option.isSome_some, Bool.true_eq_false, if_false, if_true, c_g21_2, c_a22, hj, wr_some, g_tell, inb_ix, hy, true_and, e8]
        refine hW _ ⟨m_rc, ?_⟩
        unfold F_X12_at
        simp only [m_rcT, true_and, g_isRow hR hM.1, hx, if_b2i, Option.isSome_some, m_g4, m_a4, a1, a2, e8, if_true, m_g5, m_a5, a3, a4, f_in, wi_ix (show r.2.2.length < 2 ^ 30 by omega), hy, if_false, Bool.true_eq_false, m_g7, m_a7, b1, b2, lg_cmp_ge]
        have hv : rdL r.2.2 (nI i) = r.2.2.getD i 0 := rdL_nI (by omega)
        rw [hv]
        have hmem : r.2.2.getD i 0 ∈ r.2.2 := by
          rw [List.getD_eq_getElem?_getD, List.getElem?_eq_getElem i1]
          exact List.getElem_mem i1
        rcases (rc8 _ hmem).2 e8 with q | ⟨q, q1, q2⟩
        · rw [q]
          simp only [if_true, show ¬ (0 : Int64) ≤ -1 by decide, if_false]
          exact hK _ _ _ _ _ _ _ _ _ I
        · rw [q2]
          have q3 : (0 : Int64) ≤ lN q := by rw [Int64.le_iff_toInt_le, lN_toInt (by have := I.1.2.2.2.1.1; omega)]; simp
          have q4 : ¬ lN q = -1 := by
            intro z
            have := congrArg Int64.toInt z
            rw [lN_toInt (by have := I.1.2.2.2.1.1; omega)] at this
            simp at this
            try omega
          simp only [q3, q4, if_true, if_false]
          exact hK _ _ _ _ _ _ _ _ _ I
    · simp only [e8, if_false, show ¬ (3 : Int32) = 0 by decide, c_rc1, true_and, f_failed]
      refine hW _ ⟨m_rc, ?_⟩
      unfold F_X12_at
      simp only [m_rcT, true_and, g_isRow hR hM.1, hx, if_b2i, Option.isSome_some, m_g4, m_a4, a1, a2, e8, if_false, g_fails, Bool.true_eq_false]
      exact hK _ _ _ _ _ _ _ _ _ (I.fault 3)
end Ops2
