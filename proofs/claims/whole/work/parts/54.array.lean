section OpArray
variable {rs : List RowT} {ks : List KindT} {vs : List ValT} {tl : Nat → Nat → Nat → List Int32} {sc : Nat → Int32} {wI : Nat → List Int32} {wL : Nat → List Int64} {m : MS} {d d2 u : Nat} {v1 v2 v3 v5 v6 : Int32} {v4 : Int64} {W : Prop → Prop}
variable {cp mp : MH}
theorem ixL_m1 {n : Nat} : ixL (-1) n = none := by
  unfold ixL
  rw [if_neg (fun z => absurd z.1 (by decide))]
theorem ixL_lN {n i : Nat} (h : i < n) (hn : n < 2 ^ 31) : ixL (lN i) n = some i := by
  unfold ixL
  rw [lN_toInt (by omega), if_pos (by omega)]
  simp
theorem lN_32 {i : Nat} (h : i < 2 ^ 31) : (lN i).toInt32 = nI i := by
  rw [← nI_l h]; simp
theorem s_freeTwin {j : Nat} {r : RowT} (hR : rs.length ≤ 60) (hj : rs[j]? = some r) (hc : r.2.2.length ≤ 20) (hu : 200 ≤ u) {K : Int32 → MH → Nat → Prop} (H1 : rs.length = 60 → K (-4) (hJ (hC rs ks vs tl sc wI wL) mp) (u - 200)) (H2 : ¬ rs.length = 60 → K (nI rs.length) (hJ (hC (rs ++ [(r.1, false, r.2.2)]) ks vs tl sc wI wL) mp) (u - 200)) : iI (d + 4) u_X11_freeTwin [jR br, jR (some (21, j, 0))] (hJ (hC rs ks vs tl sc wI wL) mp) u K := by
  refine I_X11_freeTwin (d := d + 3) 200 hu ?_
  unfold F_X11_freeTwin F_X7_hasRoomForRows
  simp only [c_g1_0, c_rc2, c_g2_2, true_and, nz_0, nz_1, if_true, if_false, room60 rs.length hR]
  by_cases q : rs.length = 60
  · rw [if_pos q]
    exact H1 q
  · rw [if_neg q, if_neg (by decide)]
    refine s_addTwin (b := false) (by omega) hj hc (by omega) ?_
    simp only [c_g21_0, app_len, wr_some]
    exact H2 q
theorem op_array (I : Inv rs ks vs tl sc wI wL m) (hW : ∀ X, X → W X) {K : Int32 → Int32 → MH → Prop} (hK : KI K) (hu : 200 ≤ u) : F_X11_array (d + 4) br v1 v2 v3 (hX rs ks vs tl sc wI wL m) u (fun a h => W (rc h mo 11 ∧ F_X12_array d2 mo v1 v2 v3 h 0 (fun b h => K a b h))) := by
  have hR := I.1.1.1; have hV := I.1.2.2.2.1.1; have hKd := I.1.2.1.1; have hRm := I.2.1; have hKm := I.2.2.1; have hVm := I.2.2.2.1; have hMm := I.2.2.2.2
  unfold F_X11_array
  simp only [c_g1_0, c_rc2, f_findValue hV, ixL_i, true_and]
  rcases hx : ix v1 vs.length with _ | j
  · simp only [Option.map_none, nl_none]
    refine hW _ ⟨m_rc, ?_⟩
    unfold F_X12_array
    simp only [m_rcT, g_isValue hV hVm.1, hx, if_b2i, Option.isSome_some, Option.isSome_none, Bool.true_eq_false, Bool.false_eq_true, if_false, if_true, true_and]
    exact hK _ _ _ _ _ _ _ _ _ I
  · obtain ⟨h1, rfl, -, -⟩ := ix_some hx
    obtain ⟨v, hj⟩ := get_lt h1
    obtain ⟨k, t, hk, ht, hkk, hed, hval⟩ := I.val hj
    have h4 := hkk.2.1
    simp only [Option.map_some, nl_some, c_g29_1, c_rc29, hj, wr_some, c_g23_1, hk, if_b2i]
    obtain ⟨k', t', q1, q2, -, -, -, -, -, p1, p2⟩ := hval
    cases hk.symm.trans q1
    cases ht.symm.trans q2
    rcases hc : k.1 with _ | _
    · obtain ⟨-, p4, p5⟩ := p2 hc
      have h6 : t.length ≤ 6 := by have := hed.1; rw [hc] at this; simpa using this
      simp only [if_true, true_and, f_hasPart hj (show v.2.2.2.2.2.2.length ≤ 6 by omega), p4, if_b2i]
      rcases hy : ix v2 t.length with _ | i
      · unfold F_X11_failed
        simp only [if_b2i, Option.isSome_some, Option.isSome_none, Bool.true_eq_false, Bool.false_eq_true, if_false, if_true, true_and, c_rc1, c_p1_12, c_g1_13, c_p1_13]
        refine hW _ ⟨m_rc, ?_⟩
        unfold F_X12_array F_X12_fails
        simp only [m_rcT, g_isValue hV hVm.1, hx, if_b2i, Option.isSome_some, Option.isSome_none, Bool.true_eq_false, Bool.false_eq_true, if_false, if_true, true_and, g_isConstant hVm hV hj hKm hKd hk, hc, g_partsOf hVm hV hj hKm hKd hk h4 ht, f_in, wi_ix (show t.length < 2 ^ 30 by omega), hy, m_p0, m_g1, m_p1, mA_1, mB_1, mI_1, mI_21, mI_22, mA_21, mA_22, mB_21, mB_22, Nat.reduceEqDiff, Nat.reduceEqDiff, reduceCtorEq, if_false, if_true]
        exact hK _ _ _ _ _ _ _ _ _ (I.fault 2)
      · obtain ⟨i1, rfl, -, -⟩ := ix_some hy
        obtain ⟨y, hyy⟩ := get_lt (show i < v.2.2.2.2.2.2.length by omega)
        obtain ⟨x, hxx⟩ := get_lt (show i < t.length by omega)
        have hpo := p5 i x y hxx hyy
        obtain ⟨a1, a2⟩ := eN_at (l := tl v.1 v.2.1 1) hxx (by omega)
        have b1 : inb v.2.2.2.2.2.2 (nI i) := (inb_nI (by omega)).mpr (by omega)
        have b2 : rdL v.2.2.2.2.2.2 (nI i) = y := by
          rw [rdL_nI (by omega), List.getD_eq_getElem?_getD, hyy]; rfl
        obtain ⟨-, -, -, -, -, -, -, g⟩ := hVm.at hV hj
        obtain ⟨g1, g2⟩ := g i y hyy (by omega)
        simp only [if_b2i, Option.isSome_some, Option.isSome_none, Bool.true_eq_false, Bool.false_eq_true, if_false, if_true, true_and, c_g29_2, hj, wr_some, c_g25_2, hk, ht, c_a27, a1, a2, true_and]
        have tail : ∀ a cp', F_X12_array d2 mo (nI j) (nI i) v3 (hJ cp' (hM m)) 0 (fun b h => K a b h) ↔ (if x.2.1 = 9 then (if 0 ≤ y.toInt32 then (if v3 = 0 then (if nI rs.length = 60 then K a (-4) (hJ cp' (hM m)) else F_X12_twinOf d2 mo y.toInt32 (hJ cp' (hM m)) 0 (fun b h => K a b h)) else K a y.toInt32 (hJ cp' (hM m))) else K a (-11) (hJ cp' (hM (mI (mI m 0 1) 1 (m.1 1 + 1))))) else K a (-13) (hJ cp' (hM (mI (mI m 0 3) 1 (m.1 1 + 1))))) := by
          intro a cp'
          unfold F_X12_array F_X12_fails
          simp only [m_rcT, g_isValue hV hVm.1, hx, if_b2i, Option.isSome_some, Option.isSome_none, Bool.true_eq_false, Bool.false_eq_true, if_false, if_true, true_and, g_isConstant hVm hV hj hKm hKd hk, hc, g_partsOf hVm hV hj hKm hKd hk h4 ht, f_in, wi_ix (show t.length < 2 ^ 30 by omega), hy, g_laneOf hVm hV hj hKm hKd hk h4 ht (show t.length ≤ 8 by omega) hxx, m_g31, m_a31, idx6, g1, g2, m_g3, hRm.1, m_p0, m_g1, m_p1, mA_1, mB_1, mI_1, mI_21, mI_22, mA_21, mA_22, mB_21, mB_22, Nat.reduceEqDiff, Nat.reduceEqDiff, reduceCtorEq, if_false, if_true]
          rfl
        by_cases e9 : x.2.1 = 9
        · rw [if_pos e9]
          simp only [c_g1_0, c_g29_5, hj, wr_some, c_a30, b1, b2, c_rc2, true_and, f_findRow hR]
          rcases hpo.2.2 e9 with z | ⟨q, r, z1, z2, -⟩
          · rw [z, ixL_m1]
            unfold F_X11_failed
            simp only [Option.map_none, nl_none, c_rc1, true_and, c_p1_12, c_g1_13, c_p1_13]
            refine hW _ ⟨m_rc, (tail _ _).mpr ?_⟩
            rw [if_pos e9, if_neg (by rw [z]; decide)]
            exact hK _ _ _ _ _ _ _ _ _ (I.fault 1)
          · have hq := (List.getElem?_eq_some_iff.mp z2).1
            obtain ⟨r1, r2, r3, r4⟩ := I.1.1.2 r (List.mem_of_getElem? z2)
            have y32 : y.toInt32 = nI q := by rw [z1, lN_i]
            have y0 : 0 ≤ y.toInt32 := by rw [y32]; exact nI_pos' (by omega)
            rw [z1, ixL_lN hq (by omega)]
            simp only [Option.map_some, nl_some]
            by_cases w0 : v3 = 0
            · rw [if_pos w0]
              simp only [c_rc1, true_and]
              refine s_freeTwin hR z2 r2 hu (fun q60 => ?_) (fun q60 => ?_)
              · refine hW _ ⟨m_rc, (tail _ _).mpr ?_⟩
                rw [if_pos e9, if_pos y0, if_pos w0, if_pos (by rw [q60]; rfl)]
                exact hK _ _ _ _ _ _ _ _ _ I
              · refine hW _ ⟨m_rc, (tail _ _).mpr ?_⟩
                rw [if_pos e9, if_pos y0, if_pos w0, if_neg (show ¬ nI rs.length = 60 from fun e => q60 ((nI_eq (by omega) (by omega)).mp e)), y32]
                refine g_twinOf hRm (by omega) z2 r2 ?_
                exact hK _ _ _ _ _ _ _ _ _ (I.twin (by omega) z2 false (by intro z; cases z))
            · rw [if_neg w0]
              simp only [c_g21_0, z2, wr_some]
              refine hW _ ⟨m_rc, (tail _ _).mpr ?_⟩
              rw [if_pos e9, if_pos y0, if_neg w0, y32]
              exact hK _ _ _ _ _ _ _ _ _ I
        · rw [if_neg e9]
          unfold F_X11_failed
          simp only [c_rc1, true_and, c_p1_12, c_g1_13, c_p1_13]
          refine hW _ ⟨m_rc, (tail _ _).mpr ?_⟩
          rw [if_neg e9]
          exact hK _ _ _ _ _ _ _ _ _ (I.fault 3)
    · simp only [if_b2i, Option.isSome_some, Option.isSome_none, Bool.true_eq_false, Bool.false_eq_true, if_false, if_true, true_and]
      refine hW _ ⟨m_rc, ?_⟩
      unfold F_X12_array
      simp only [m_rcT, g_isValue hV hVm.1, hx, if_b2i, Option.isSome_some, Option.isSome_none, Bool.true_eq_false, Bool.false_eq_true, if_false, if_true, true_and, g_isConstant hVm hV hj hKm hKd hk, hc]
      exact hK _ _ _ _ _ _ _ _ _ I
end OpArray
