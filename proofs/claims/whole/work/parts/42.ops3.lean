section Ops3
variable {rs : List RowT} {ks : List KindT} {vs : List ValT} {tl : Nat → Nat → Nat → List Int32} {sc : Nat → Int32} {wI : Nat → List Int32} {wL : Nat → List Int64} {m : MS} {d d2 u : Nat} {v1 v2 v3 : Int32} {v4 : Int64} {W : Prop → Prop}
abbrev sF (sc : Nat → Int32) (f : Int32) : Nat → Int32 := up (up sc 3 f) 4 (sc 4 + 1)
abbrev mF (m : MS) (f : Int32) : MS := mI (mI m 0 f) 1 (m.1 1 + 1)
theorem f_lay35 {mp : MH} {j : Nat} {r : RowT} (hj : rs[j]? = some r) (r20 : r.2.2.length ≤ 20) {Q : Int32 → MH → Prop} : F_X11_lay_35 d br v2 v3 (some (21, j, 0)) (hJ (hC rs ks vs tl sc wI wL) mp) u Q ↔
    (if r.2.1 = true then Q (-3) (hJ (hC rs ks vs tl sc wI wL) mp) else if r.1 = 8 then (match ix v2 r.2.2.length with
      | none => Q (-12) (hJ (hC rs ks vs tl (sF sc 2) wI wL) mp)
      | some i => Q 1 (hJ (hC (rs.set j (r.1, r.2.1, r.2.2.set i v3.toInt64)) ks vs tl sc wI wL) mp)) else Q (-13) (hJ (hC rs ks vs tl (sF sc 3) wI wL) mp)) := by
  unfold F_X11_lay_35 F_X11_thingFault
  simp only [c_g21_3, hj, wr_some, if_b2i, c_g21_1, c_rc21, true_and, f_hasCell hj r20]
  by_cases e1 : r.2.1 = true
  · simp [e1]
  · simp only [Bool.not_eq_true] at e1
    simp only [e1, if_true, Bool.false_eq_true, if_false]
    by_cases e8 : r.1 = 8
    · simp only [e8, if_true]
      rcases hy : ix v2 r.2.2.length with _ | i
      · simp only [Option.isSome_none, if_true, show ¬ (2 : Int32) = 0 by decide, if_false, c_rc1, true_and, f_failed]
        exact Iff.rfl
      · obtain ⟨i1, rfl, i3, i4⟩ := ix_some hy
        simp only [Option.isSome_some, Bool.true_eq_false, if_false, if_true, c_g21_2, hj, wr_some, c_s22 hj, inb_ix, hy, true_and, i4, e1, e8]
    · simp only [e8, if_false, show ¬ (3 : Int32) = 0 by decide, c_rc1, true_and, f_failed]
      exact Iff.rfl
theorem g_lay23 {cp : MH} {j : Nat} {r : RowT} (hR : rs.length ≤ 60) (hRm : mRows rs m) (hj : rs[j]? = some r) (r20 : r.2.2.length ≤ 20) {Q : Int32 → MH → Prop} : F_X12_lay_23 d mo (nI j) v2 v3 (hJ cp (hM m)) u Q ↔
    (if r.2.1 = true then Q (-3) (hJ cp (hM m)) else if r.1 = 8 then (match ix v2 r.2.2.length with
      | none => Q (-12) (hJ cp (hM (mF m 2)))
      | some i => Q 1 (hJ cp (hM (mB m 7 ((m.2.2 7).set (20 * j + i) v3.toInt64))))) else Q (-13) (hJ cp (hM (mF m 3)))) := by
  obtain ⟨hj60, ⟨a1, a2⟩, ⟨a3, a4⟩, ⟨a5, a6⟩, a7⟩ := hRm.at hR hj
  unfold F_X12_lay_23
  simp only [m_g6, m_a6, a5, a6, true_and, if_b2i, m_g4, m_a4, a1, a2, m_g5, m_a5, a3, a4, f_in, wi_ix (show r.2.2.length < 2 ^ 30 by omega)]
  by_cases e1 : r.2.1 = true
  · simp [e1]
  · simp only [Bool.not_eq_true] at e1
    simp only [e1, if_true, Bool.false_eq_true, if_false]
    by_cases e8 : r.1 = 8
    · simp only [e8, if_true]
      rcases hy : ix v2 r.2.2.length with _ | i
      · simp only [Option.isSome_none, if_true, m_rcT, true_and, g_fails]
        exact Iff.rfl
      · obtain ⟨i1, rfl, i3, i4⟩ := ix_some hy
        obtain ⟨b1, b2⟩ := a7 i i1 r20
        simp only [Option.isSome_some, Bool.true_eq_false, if_false, m_g7, m_s7, b1, true_and]
        rw [idx20, nI_clamp (by omega)]
    · simp only [e8, if_false, m_rcT, true_and, g_fails]
      exact Iff.rfl
theorem refOK_ix {n : Nat} {v : Int32} {j : Nat} (h : ix v n = some j) (hn : n < 2 ^ 31) : refOK v.toInt64 n := by
  obtain ⟨h1, rfl, -, -⟩ := ix_some h
  exact Or.inr ⟨j, h1, nI_l (by omega)⟩
theorem op_lay (I : Inv rs ks vs tl sc wI wL m) (hW : ∀ X, X → W X) {K : Int32 → Int32 → MH → Prop} (hK : KI K) : F_X11_lay d br v1 v2 v3 (hX rs ks vs tl sc wI wL m) u (fun a h => W (rc h mo 11 ∧ F_X12_lay d2 mo v1 v2 v3 h 0 (fun b h => K a b h))) := by
  have hR := I.1.1.1
  have hV := I.1.2.2.2.1.1
  have hRm := I.2.1
  have hMv := I.2.2.2.1.1
  unfold F_X11_lay
  simp only [c_g1_0, c_rc2, true_and, f_findRow hR, ixL_i, f_findValue hV]
  rcases hx : ix v1 rs.length with _ | j
  · simp only [Option.map_none, nl_none]
    refine hW _ ⟨m_rc, ?_⟩
    unfold F_X12_lay
    simp only [m_rcT, true_and, g_isRow hR hRm.1, hx, if_b2i, Option.isSome_none, if_true]
    exact hK _ _ _ _ _ _ _ _ _ I
  · obtain ⟨h1, rfl, -, -⟩ := ix_some hx
    obtain ⟨r, hj⟩ := get_lt h1
    obtain ⟨rl, r20, rc8, -⟩ := I.1.1.2 r (List.mem_of_getElem? hj)
    simp only [Option.map_some, nl_some, f_lay35 hj r20]
    have core : refOK v3.toInt64 vs.length → (∀ (a : Int32) (cp : MH) (Q : Int32 → MH → Prop), F_X12_lay_23 d2 mo (nI j) v2 v3 (hJ cp (hM m)) 0 Q → F_X12_lay d2 mo (nI j) v2 v3 (hJ cp (hM m)) 0 Q) →
        (if r.2.1 = true then W (rc (hX rs ks vs tl sc wI wL m) mo 11 ∧ F_X12_lay d2 mo (nI j) v2 v3 (hX rs ks vs tl sc wI wL m) 0 (fun b h => K (-3) b h)) else if r.1 = 8 then (match ix v2 r.2.2.length with
          | none => W (rc (hX rs ks vs tl (sF sc 2) wI wL m) mo 11 ∧ F_X12_lay d2 mo (nI j) v2 v3 (hX rs ks vs tl (sF sc 2) wI wL m) 0 (fun b h => K (-12) b h))
          | some i => W (rc (hX (rs.set j (r.1, r.2.1, r.2.2.set i v3.toInt64)) ks vs tl sc wI wL m) mo 11 ∧ F_X12_lay d2 mo (nI j) v2 v3 (hX (rs.set j (r.1, r.2.1, r.2.2.set i v3.toInt64)) ks vs tl sc wI wL m) 0 (fun b h => K 1 b h))) else W (rc (hX rs ks vs tl (sF sc 3) wI wL m) mo 11 ∧ F_X12_lay d2 mo (nI j) v2 v3 (hX rs ks vs tl (sF sc 3) wI wL m) 0 (fun b h => K (-13) b h))) := by
      intro hv hsub
      by_cases e1 : r.2.1 = true
      · rw [if_pos e1]
        refine hW _ ⟨m_rc, hsub 0 _ _ ((g_lay23 hR hRm hj r20).mpr ?_)⟩
        rw [if_pos e1]
        exact hK _ _ _ _ _ _ _ _ _ I
      · rw [if_neg e1]
        by_cases e8 : r.1 = 8
        · rw [if_pos e8]
          rcases hy : ix v2 r.2.2.length with _ | i
          · refine hW _ ⟨m_rc, hsub 0 _ _ ((g_lay23 hR hRm hj r20).mpr ?_)⟩
            rw [if_neg e1, if_pos e8, hy]
            exact hK _ _ _ _ _ _ _ _ _ (I.fault 2)
          · refine hW _ ⟨m_rc, hsub 0 _ _ ((g_lay23 hR hRm hj r20).mpr ?_)⟩
            rw [if_neg e1, if_pos e8, hy]
            obtain ⟨i1, -, -, -⟩ := ix_some hy
            refine hK _ _ _ _ _ _ _ _ _ (I.cell hj (by simpa using e1) i1 ⟨fun q => ?_, fun _ => hv⟩)
            rw [e8] at q
            exact absurd q (by decide)
        · rw [if_neg e8]
          refine hW _ ⟨m_rc, hsub 0 _ _ ((g_lay23 hR hRm hj r20).mpr ?_)⟩
          rw [if_neg e1, if_neg e8]
          exact hK _ _ _ _ _ _ _ _ _ (I.fault 3)
    by_cases e : v3 = -1
    · subst e
      simp only [if_true]
      refine core (Or.inl (by decide)) (fun a cp Q h => ?_)
      unfold F_X12_lay
      simp only [m_rcT, true_and, g_isRow hR hRm.1, hx, if_b2i, Option.isSome_some, Bool.true_eq_false, if_false, if_true]
      exact h
    · simp only [e, if_false]
      rcases hz : ix v3 vs.length with _ | q
      · simp only [Option.map_none, nl_none]
        refine hW _ ⟨m_rc, ?_⟩
        unfold F_X12_lay
        simp only [m_rcT, true_and, g_isRow hR hRm.1, hx, if_b2i, Option.isSome_some, Bool.true_eq_false, if_false, e, g_isValue hV hMv, hz, Option.isSome_none, if_true]
        exact hK _ _ _ _ _ _ _ _ _ I
      · simp only [Option.map_some, nl_some]
        refine core (refOK_ix hz (by omega)) (fun a cp Q h => ?_)
        unfold F_X12_lay
        simp only [m_rcT, true_and, g_isRow hR hRm.1, hx, if_b2i, Option.isSome_some, Bool.true_eq_false, if_false, e, g_isValue hV hMv, hz]
        exact h
end Ops3
