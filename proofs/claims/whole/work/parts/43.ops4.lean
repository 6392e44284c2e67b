section Ops4
variable {rs : List RowT} {ks : List KindT} {vs : List ValT} {tl : Nat → Nat → Nat → List Int32} {sc : Nat → Int32} {wI : Nat → List Int32} {wL : Nat → List Int64} {m : MS} {d d2 u : Nat} {v1 v2 v3 v5 v6 : Int32} {v4 : Int64} {W : Prop → Prop}
theorem wi_le {l a b c : Int32} (h : wi l a b = true) (hb : b ≤ c) : wi l a c = true := by
  unfold wi at h ⊢
  simp only [Bool.and_eq_true, decide_eq_true_eq] at h ⊢
  refine ⟨h.1, ?_⟩
  have := h.2
  rw [Int32.le_iff_toInt_le] at *
  omega
theorem wi7_of8 {l : Int32} (h : wi l 0 8 = true) (h8 : ¬ l = 8) : wi l 0 7 = true := by
  unfold wi at h ⊢
  simp only [Bool.and_eq_true, decide_eq_true_eq] at h ⊢
  refine ⟨h.1, ?_⟩
  have h2 := h.2
  rw [Int32.le_iff_toInt_le] at *
  have : l.toInt ≠ (8 : Int32).toInt := fun q => h8 (Int32.toInt_inj.mp q)
  have e8 : (8 : Int32).toInt = 8 := by decide
  have e7 : (7 : Int32).toInt = 7 := by decide
  omega
theorem op_get (I : Inv rs ks vs tl sc wI wL m) (hW : ∀ X, X → W X) {K : Int64 → Int64 → MH → Prop} (hK : KL K) : F_X11_get d br v1 v2 v3 (hX rs ks vs tl sc wI wL m) u (fun a h => W (rc h mo 11 ∧ F_X12_get d2 mo v1 v2 v3 h 0 (fun b h => K a b h))) := by
  have hR := I.1.1.1; have hV := I.1.2.2.2.1.1; have hKd := I.1.2.1.1; have hRm := I.2.1; have hKm := I.2.2.1; have hVm := I.2.2.2.1; have hMm := I.2.2.2.2
  unfold F_X11_get
  simp only [c_g1_0, c_rc2, c_rc1, true_and, f_findRow hR, ixL_i, f_isNumber, if_b2i, Option.isSome_some, Option.isSome_none, Bool.true_eq_false, Bool.false_eq_true, if_false, if_true, true_and]
  rcases hx : ix v1 rs.length with _ | j
  · simp only [Option.map_none, nl_none]
    refine hW _ ⟨m_rc, ?_⟩
    unfold F_X12_get
    simp only [m_rcT, g_isRow hR hRm.1, hx, g_lost, if_b2i, Option.isSome_some, Option.isSome_none, Bool.true_eq_false, Bool.false_eq_true, if_false, if_true, true_and]
    exact hK _ _ _ _ _ _ _ _ _ I
  · obtain ⟨h1, rfl, -, -⟩ := ix_some hx
    obtain ⟨r, hj⟩ := get_lt h1
    obtain ⟨rl, r20, rc8, -⟩ := I.1.1.2 r (List.mem_of_getElem? hj)
    obtain ⟨hj60, ⟨a1, a2⟩, ⟨a3, a4⟩, ⟨a5, a6⟩, a7⟩ := hRm.at hR hj
    simp only [Option.map_some, nl_some]
    rcases hn : wi v3 0 7 with _ | _
    · simp only [if_true]
      refine hW _ ⟨m_rc, ?_⟩
      unfold F_X12_get
      simp only [m_rcT, g_isRow hR hRm.1, hx, m_g4, m_a4, m_g5, m_a5, m_g7, f_in, hn, g_lost, g_failsLong, g_fails, f_widM, if_b2i, Option.isSome_some, Option.isSome_none, Bool.true_eq_false, Bool.false_eq_true, if_false, if_true, true_and]
      exact hK _ _ _ _ _ _ _ _ _ I
    · unfold F_X11_numberFault
      simp only [if_b2i, Option.isSome_some, Option.isSome_none, Bool.true_eq_false, Bool.false_eq_true, if_false, if_true, true_and, c_g21_1, c_rc21, hj, wr_some, f_hasCell hj r20, f_isWidened]
      by_cases e8 : r.1 = 8
      · simp only [e8, if_true, show ¬ (3 : Int32) = 0 by decide, if_false, c_rc1, true_and, f_lost]
        refine hW _ ⟨m_rc, ?_⟩
        unfold F_X12_get
        simp only [m_rcT, g_isRow hR hRm.1, hx, m_g4, m_a4, m_g5, m_a5, m_g7, f_in, hn, g_lost, g_failsLong, g_fails, f_widM, if_b2i, Option.isSome_some, Option.isSome_none, Bool.true_eq_false, Bool.false_eq_true, if_false, if_true, true_and, a1, a2, e8]
        exact hK _ _ _ _ _ _ _ _ _ (I.fault 3)
      · simp only [e8, if_false]
        rcases hy : ix v2 r.2.2.length with _ | i
        · simp only [if_b2i, Option.isSome_some, Option.isSome_none, Bool.true_eq_false, Bool.false_eq_true, if_false, if_true, true_and, show ¬ (2 : Int32) = 0 by decide, c_rc1, f_lost]
          refine hW _ ⟨m_rc, ?_⟩
          unfold F_X12_get
          simp only [m_rcT, g_isRow hR hRm.1, hx, m_g4, m_a4, m_g5, m_a5, m_g7, f_in, hn, g_lost, g_failsLong, g_fails, f_widM, if_b2i, Option.isSome_some, Option.isSome_none, Bool.true_eq_false, Bool.false_eq_true, if_false, if_true, true_and, a1, a2, e8, a3, a4, wi_ix (show r.2.2.length < 2 ^ 30 by omega), hy]
          exact hK _ _ _ _ _ _ _ _ _ (I.fault 2)
        · obtain ⟨i1, rfl, -, i4⟩ := ix_some hy
          obtain ⟨b1, b2⟩ := a7 i i1 r20
          rcases hw : isW r.1 v3 with _ | _
          · simp only [if_b2i, Option.isSome_some, Option.isSome_none, Bool.true_eq_false, Bool.false_eq_true, if_false, if_true, true_and, show ¬ (3 : Int32) = 0 by decide, c_rc1, f_lost]
            refine hW _ ⟨m_rc, ?_⟩
            unfold F_X12_get
            simp only [m_rcT, g_isRow hR hRm.1, hx, m_g4, m_a4, m_g5, m_a5, m_g7, f_in, hn, g_lost, g_failsLong, g_fails, f_widM, if_b2i, Option.isSome_some, Option.isSome_none, Bool.true_eq_false, Bool.false_eq_true, if_false, if_true, true_and, a1, a2, e8, a3, a4, wi_ix (show r.2.2.length < 2 ^ 30 by omega), hy, hw]
            exact hK _ _ _ _ _ _ _ _ _ (I.fault 3)
          · have hv : rdL r.2.2 (nI i) = r.2.2.getD i 0 := rdL_nI (by omega)
            have hmem : r.2.2.getD i 0 ∈ r.2.2 := by
              rw [List.getD_eq_getElem?_getD, List.getElem?_eq_getElem i1]
              exact List.getElem_mem i1
            have hno : numOK r.1 (r.2.2.getD i 0) := (rc8 _ hmem).1 (wi7_of8 rl e8)
            simp only [if_b2i, Option.isSome_some, Option.isSome_none, Bool.true_eq_false, Bool.false_eq_true, if_false, if_true, true_and, c_g21_2, c_a22, hj, wr_some, inb_ix, hy, hv]
            refine f_widen (wi7_of8 rl e8) hn hw hno ?_
            refine hW _ ⟨m_rc, ?_⟩
            unfold F_X12_get
            simp only [m_rcT, g_isRow hR hRm.1, hx, m_g4, m_a4, m_g5, m_a5, m_g7, f_in, hn, g_lost, g_failsLong, g_fails, f_widM, if_b2i, Option.isSome_some, Option.isSome_none, Bool.true_eq_false, Bool.false_eq_true, if_false, if_true, true_and, a1, a2, e8, a3, a4, wi_ix (show r.2.2.length < 2 ^ 30 by omega), hy, hw, m_a7, b1, b2]
            refine g_widened (wi7_of8 rl e8) hn hw hno ?_
            exact hK _ _ _ _ _ _ _ _ _ I
theorem op_put (I : Inv rs ks vs tl sc wI wL m) (hW : ∀ X, X → W X) {K : Int32 → Int32 → MH → Prop} (hK : KI K) : F_X11_put d br v1 v2 v3 v4 (hX rs ks vs tl sc wI wL m) u (fun a h => W (rc h mo 11 ∧ F_X12_put d2 mo v1 v2 v3 v4 h 0 (fun b h => K a b h))) := by
  have hR := I.1.1.1; have hV := I.1.2.2.2.1.1; have hKd := I.1.2.1.1; have hRm := I.2.1; have hKm := I.2.2.1; have hVm := I.2.2.2.1; have hMm := I.2.2.2.2
  unfold F_X11_put
  simp only [c_g1_0, c_rc2, c_rc1, true_and, f_findRow hR, ixL_i, f_isNumber, if_b2i, Option.isSome_some, Option.isSome_none, Bool.true_eq_false, Bool.false_eq_true, if_false, if_true, true_and]
  rcases hx : ix v1 rs.length with _ | j
  · simp only [Option.map_none, nl_none]
    refine hW _ ⟨m_rc, ?_⟩
    unfold F_X12_put
    simp only [m_rcT, g_isRow hR hRm.1, hx, g_lost, if_b2i, Option.isSome_some, Option.isSome_none, Bool.true_eq_false, Bool.false_eq_true, if_false, if_true, true_and]
    exact hK _ _ _ _ _ _ _ _ _ I
  · obtain ⟨h1, rfl, -, -⟩ := ix_some hx
    obtain ⟨r, hj⟩ := get_lt h1
    obtain ⟨rl, r20, rc8, rk⟩ := I.1.1.2 r (List.mem_of_getElem? hj)
    obtain ⟨hj60, ⟨a1, a2⟩, ⟨a3, a4⟩, ⟨a5, a6⟩, a7⟩ := hRm.at hR hj
    simp only [Option.map_some, nl_some]
    rcases hn : wi v3 0 7 with _ | _
    · simp only [if_true]
      refine hW _ ⟨m_rc, ?_⟩
      unfold F_X12_put
      simp only [m_rcT, g_isRow hR hRm.1, hx, m_g4, m_a4, m_g5, m_a5, m_g7, f_in, hn, g_lost, g_failsLong, g_fails, f_widM, if_b2i, Option.isSome_some, Option.isSome_none, Bool.true_eq_false, Bool.false_eq_true, if_false, if_true, true_and]
      exact hK _ _ _ _ _ _ _ _ _ I
    · unfold F_X11_numberFault
      simp only [if_b2i, Option.isSome_some, Option.isSome_none, Bool.true_eq_false, Bool.false_eq_true, if_false, if_true, true_and, c_g21_1, c_rc21, hj, wr_some, f_hasCell hj r20, f_isWidened]
      by_cases e8 : r.1 = 8
      · simp only [e8, if_true, show ¬ (3 : Int32) = 0 by decide, if_false, c_rc1, true_and, f_failed]
        refine hW _ ⟨m_rc, ?_⟩
        unfold F_X12_put
        simp only [m_rcT, g_isRow hR hRm.1, hx, m_g4, m_a4, m_g5, m_a5, m_g7, f_in, hn, g_lost, g_failsLong, g_fails, f_widM, if_b2i, Option.isSome_some, Option.isSome_none, Bool.true_eq_false, Bool.false_eq_true, if_false, if_true, true_and, a1, a2, e8]
        exact hK _ _ _ _ _ _ _ _ _ (I.fault 3)
      · simp only [e8, if_false]
        have hkf : r.2.1 = false := by
          cases hk : r.2.1 with
          | false => rfl
          | true => exact absurd (rk hk) e8
        rcases hy : ix v2 r.2.2.length with _ | i
        · simp only [if_b2i, Option.isSome_some, Option.isSome_none, Bool.true_eq_false, Bool.false_eq_true, if_false, if_true, true_and, show ¬ (2 : Int32) = 0 by decide, c_rc1, f_failed]
          refine hW _ ⟨m_rc, ?_⟩
          unfold F_X12_put
          simp only [m_rcT, g_isRow hR hRm.1, hx, m_g4, m_a4, m_g5, m_a5, m_g7, f_in, hn, g_lost, g_failsLong, g_fails, f_widM, if_b2i, Option.isSome_some, Option.isSome_none, Bool.true_eq_false, Bool.false_eq_true, if_false, if_true, true_and, a1, a2, e8, a3, a4, wi_ix (show r.2.2.length < 2 ^ 30 by omega), hy]
          exact hK _ _ _ _ _ _ _ _ _ (I.fault 2)
        · obtain ⟨i1, rfl, -, i4⟩ := ix_some hy
          obtain ⟨b1, b2⟩ := a7 i i1 r20
          rcases hw : isW v3 r.1 with _ | _
          · simp only [if_b2i, Option.isSome_some, Option.isSome_none, Bool.true_eq_false, Bool.false_eq_true, if_false, if_true, true_and, show ¬ (3 : Int32) = 0 by decide, c_rc1, f_failed]
            refine hW _ ⟨m_rc, ?_⟩
            unfold F_X12_put
            simp only [m_rcT, g_isRow hR hRm.1, hx, m_g4, m_a4, m_g5, m_a5, m_g7, f_in, hn, g_lost, g_failsLong, g_fails, f_widM, if_b2i, Option.isSome_some, Option.isSome_none, Bool.true_eq_false, Bool.false_eq_true, if_false, if_true, true_and, a1, a2, e8, a3, a4, wi_ix (show r.2.2.length < 2 ^ 30 by omega), hy, hw]
            exact hK _ _ _ _ _ _ _ _ _ (I.fault 3)
          · simp only [if_b2i, Option.isSome_some, Option.isSome_none, Bool.true_eq_false, Bool.false_eq_true, if_false, if_true, true_and, c_g21_2, c_g21_1, hj, wr_some]
            refine f_come hn ?_
            refine f_widen hn (wi7_of8 rl e8) hw (cm_ok hn) ?_
            simp only [c_s22 hj, inb_ix, hy, i4, if_b2i, Option.isSome_some, Option.isSome_none, Bool.true_eq_false, Bool.false_eq_true, if_false, if_true, true_and]
            refine hW _ ⟨m_rc, ?_⟩
            unfold F_X12_put
            simp only [m_rcT, g_isRow hR hRm.1, hx, m_g4, m_a4, m_g5, m_a5, m_g7, f_in, hn, g_lost, g_failsLong, g_fails, f_widM, if_b2i, Option.isSome_some, Option.isSome_none, Bool.true_eq_false, Bool.false_eq_true, if_false, if_true, true_and, a1, a2, e8, a3, a4, wi_ix (show r.2.2.length < 2 ^ 30 by omega), hy, hw]
            refine g_comes hn ?_
            refine g_widened hn (wi7_of8 rl e8) hw (cm_ok hn) ?_
            simp only [m_s7, b1, true_and]
            rw [idx20, nI_clamp (by omega)]
            exact hK _ _ _ _ _ _ _ _ _ (I.cell hj hkf i1 ⟨fun _ => wd_ok hn (wi7_of8 rl e8) hw (cm_ok hn), fun q => absurd q e8⟩)
end Ops4
