section OpCopy2
variable {rs : List RowT} {ks : List KindT} {vs : List ValT} {tl : Nat → Nat → Nat → List Int32} {sc : Nat → Int32} {wI : Nat → List Int32} {wL : Nat → List Int64} {m : MS} {d d2 u : Nat} {v1 v2 v3 v5 v6 : Int32} {v4 : Int64} {W : Prop → Prop}
variable {cp mp : MH}
theorem mB_id {k : Nat} : mB m k (m.2.2 k) = m := by unfold mB; rw [up_id]
theorem idx20b (j a i : Nat) : (20 : Int32) * nI j + nI a + nI i = nI (20 * j + a + i) := by rw [idx20, nI_add]
theorem g_copy122 {k b n : Nat} (hk : k < 60) (hb : b + n ≤ 20) (h7 : (m.2.2 7).length = 1200) (h8 : (m.2.2 8).length = 20) {Q : Int32 → MH → Prop} (H : Q (nI n) (hJ cp (hM (mB m 7 (cpyS (m.2.2 8) (m.2.2 7) 0 (20 * k + b) n))))) : L_X12_copy_122 d mo (nI k) (nI b) (nI n) 0 (hJ cp (hM m)) u Q := by
  have key : ∀ r i : Nat, i + r = n → L_X12_copy_122 d mo (nI k) (nI b) (nI n) (nI i) (hJ cp (hM (mB m 7 (cpyS (m.2.2 8) (m.2.2 7) 0 (20 * k + b) i)))) u Q := by
    intro r
    induction r with
    | zero =>
      intro i hi
      have : i = n := (by omega)
      subst this
      unfold L_X12_copy_122
      refine E_X12_copy_122 ?_
      unfold F_X12_copy_122
      rw [if_pos (nI_le (Nat.le_refl _) (by omega))]
      exact H
    | succ r ih =>
      intro i hi
      unfold L_X12_copy_122
      refine E_X12_copy_122 ?_
      unfold F_X12_copy_122
      rw [if_neg (nI_ge (by omega) (by omega))]
      simp only [m_g7, m_g8, m_a8, m_s7, mA_1, mB_1, mI_1, mI_21, mI_22, mA_21, mA_22, mB_21, mB_22, Nat.reduceEqDiff, Nat.reduceEqDiff, reduceCtorEq, if_false, if_true, idx20b, nI_1, inb_nI (show 20 * k + b + i < 2 ^ 31 by omega), inb_nI (show i < 2 ^ 31 by omega), cpyS_len, h7, h8, nI_clamp (show 20 * k + b + i < 2 ^ 31 by omega), rdL_nI (show i < 2 ^ 31 by omega), mB_mB]
      refine ⟨by omega, by omega, ?_⟩
      have := ih (i + 1) (by omega)
      simp only [cpyS, Nat.zero_add] at this
      exact this
  have := key n 0 (by omega)
  simpa [nI_0, cpyS, mB_id] using this
theorem g_copy85 {j k a b n : Nat} (hj : j < 60) (hk : k < 60) (ha : a + n ≤ 20) (hb : b + n ≤ 20) (h7 : (m.2.2 7).length = 1200) (h8 : (m.2.2 8).length = 20) {Q : Int32 → MH → Prop} (H : Q (nI n) (hJ cp (hM (mB (mB m 8 (cpyS (m.2.2 7) (m.2.2 8) (20 * j + a) 0 n)) 7 (cpyS (cpyS (m.2.2 7) (m.2.2 8) (20 * j + a) 0 n) (m.2.2 7) 0 (20 * k + b) n))))) : L_X12_copy_85 d mo (nI j) (nI a) (nI k) (nI b) (nI n) 0 (hJ cp (hM m)) u Q := by
  have key : ∀ r i : Nat, i + r = n → L_X12_copy_85 d mo (nI j) (nI a) (nI k) (nI b) (nI n) (nI i) (hJ cp (hM (mB m 8 (cpyS (m.2.2 7) (m.2.2 8) (20 * j + a) 0 i)))) u Q := by
    intro r
    induction r with
    | zero =>
      intro i hi
      have : i = n := (by omega)
      subst this
      unfold L_X12_copy_85
      refine E_X12_copy_85 ?_
      unfold F_X12_copy_85
      rw [if_pos (nI_le (Nat.le_refl _) (by omega))]
      refine g_copy122 (m := mB m 8 (cpyS (m.2.2 7) (m.2.2 8) (20 * j + a) 0 i)) hk hb h7 (by simp only [mA_1, mB_1, mI_1, mI_21, mI_22, mA_21, mA_22, mB_21, mB_22, Nat.reduceEqDiff, Nat.reduceEqDiff, reduceCtorEq, if_false, if_true, cpyS_len]; exact h8) ?_
      simp only [mA_1, mB_1, mI_1, mI_21, mI_22, mA_21, mA_22, mB_21, mB_22, Nat.reduceEqDiff, Nat.reduceEqDiff, reduceCtorEq, if_false, if_true]
      exact H
    | succ r ih =>
      intro i hi
      unfold L_X12_copy_85
      refine E_X12_copy_85 ?_
      unfold F_X12_copy_85
      rw [if_neg (nI_ge (by omega) (by omega))]
      simp only [m_g7, m_g8, m_a7, m_s8, mA_1, mB_1, mI_1, mI_21, mI_22, mA_21, mA_22, mB_21, mB_22, Nat.reduceEqDiff, Nat.reduceEqDiff, reduceCtorEq, if_false, if_true, idx20b, nI_1, inb_nI (show 20 * j + a + i < 2 ^ 31 by omega), inb_nI (show i < 2 ^ 31 by omega), cpyS_len, h7, h8, nI_clamp (show i < 2 ^ 31 by omega), rdL_nI (show 20 * j + a + i < 2 ^ 31 by omega), mB_mB]
      refine ⟨by omega, by omega, ?_⟩
      have := ih (i + 1) (by omega)
      simp only [cpyS, Nat.zero_add] at this
      exact this
  have := key n 0 (by omega)
  simpa [nI_0, cpyS, mB_id] using this
theorem Inv.scr8 (I : Inv rs ks vs tl sc wI wL m) {l : List Int64} (hl : l.length = 20) : Inv rs ks vs tl sc wI wL (mB m 8 l) := by
  obtain ⟨a, b1, b2, b3, b4⟩ := I
  obtain ⟨c0, c1, c2, c3, c4, c5, c6⟩ := b1
  exact ⟨a, ⟨c0, c1, c2, c3, by simpa [mB, up] using c4, by simpa [mB, up] using hl, by simpa [mB, up] using c6⟩, by simpa [mKinds, mB, up] using b2, by simpa [mVals, mB, up] using b3, by simpa [mMisc, mB, up] using b4⟩
theorem Inv.cells (I : Inv rs ks vs tl sc wI wL m) {k b a n : Nat} {s : RowT} {X L : List Int64} (hk : rs[k]? = some s) (hs : s.2.1 = false) (hb : b + n ≤ s.2.2.length) (hx : ∀ c, c < n → L.getD c 0 = X.getD (a + c) 0 ∧ cellOK s.1 (X.getD (a + c) 0) vs.length) : ∀ c, c ≤ n → Inv (rs.set k (s.1, s.2.1, cpyS X s.2.2 a b c)) ks vs tl sc wI wL (mB m 7 (cpyS L (m.2.2 7) 0 (20 * k + b) c)) := by
  have hl := (List.getElem?_eq_some_iff.mp hk).1
  intro c
  induction c with
  | zero =>
    intro _
    have e : rs.set k (s.1, s.2.1, s.2.2) = rs := by
      apply List.ext_getElem?
      intro i
      rw [List.getElem?_set]
      by_cases q : k = i
      · subst q; rw [if_pos rfl, if_pos hl, hk]
      · rw [if_neg q]
    simp only [cpyS, e, mB_id]
    exact I
  | succ c ih =>
    intro hc
    have J := ih (by omega)
    obtain ⟨x1, x2⟩ := hx c (by omega)
    have := J.cell (j := k) (i := b + c) (r := (s.1, s.2.1, cpyS X s.2.2 a b c)) (x := X.getD (a + c) 0) (List.getElem?_set_self hl) hs (by show b + c < (cpyS X s.2.2 a b c).length; rw [cpyS_len]; omega) x2
    simp only [List.set_set, mB_mB, mA_1, mB_1, mI_1, mI_21, mI_22, mA_21, mA_22, mB_21, mB_22, Nat.reduceEqDiff, Nat.reduceEqDiff, reduceCtorEq, if_false, if_true] at this
    simp only [cpyS, Nat.zero_add, x1, Nat.add_assoc]
    exact this
theorem op_copy (I : Inv rs ks vs tl sc wI wL m) (hW : ∀ X, X → W X) {K : Int32 → Int32 → MH → Prop} (hK : KI K) {w : Int32} : F_X11_copy d br v1 v2 v3 w v5 (hX rs ks vs tl sc wI wL m) u (fun a h => W (rc h mo 11 ∧ F_X12_copy d2 mo v1 v2 v3 w v5 h 0 (fun b h => K a b h))) := by
  have hR := I.1.1.1; have hV := I.1.2.2.2.1.1; have hKd := I.1.2.1.1; have hRm := I.2.1; have hKm := I.2.2.1; have hVm := I.2.2.2.1; have hMm := I.2.2.2.2
  unfold F_X11_copy
  simp only [c_g1_0, c_rc2, f_findRow hR, ixL_i, true_and]
  rcases hx : ix v1 rs.length with _ | j
  · simp only [Option.map_none, nl_none]
    refine hW _ ⟨m_rc, ?_⟩
    unfold F_X12_copy
    simp only [m_rcT, g_isRow hR hRm.1, hx, if_b2i, Option.isSome_some, Option.isSome_none, Bool.true_eq_false, Bool.false_eq_true, if_false, if_true, true_and]
    exact hK _ _ _ _ _ _ _ _ _ I
  · obtain ⟨h1, rfl, -, -⟩ := ix_some hx
    obtain ⟨r, hj⟩ := get_lt h1
    simp only [Option.map_some, nl_some]
    rcases hy : ix v3 rs.length with _ | k
    · simp only [Option.map_none, nl_none]
      refine hW _ ⟨m_rc, ?_⟩
      unfold F_X12_copy
      simp only [m_rcT, g_isRow hR hRm.1, hx, hy, if_b2i, Option.isSome_some, Option.isSome_none, Bool.true_eq_false, Bool.false_eq_true, if_false, if_true, true_and]
      exact hK _ _ _ _ _ _ _ _ _ I
    · obtain ⟨h2, rfl, -, -⟩ := ix_some hy
      obtain ⟨s, hk⟩ := get_lt h2
      obtain ⟨r1, r2, r3, r4⟩ := I.1.1.2 r (List.mem_of_getElem? hj)
      obtain ⟨s1, s2, s3, s4⟩ := I.1.1.2 s (List.mem_of_getElem? hk)
      obtain ⟨-, ⟨a1, a2⟩, ⟨a3, a4⟩, -⟩ := hRm.at hR hj
      obtain ⟨-, ⟨b1, b2⟩, ⟨b3, b4⟩, ⟨b5, b6⟩, -⟩ := hRm.at hR hk
      simp only [Option.map_some, nl_some, c_g21_1, c_g21_3, hj, hk, wr_some, c_rc1, c_rc21, true_and, f_hasRun hj r2, f_hasRun hk s2, if_b2i]
      have tail : ∀ a cp', (if r.1 = s.1 then (if s.2.1 = false then (if run v2 v5 r.2.2.length = true then (if run w v5 s.2.2.length = true then L_X12_copy_85 d2 mo (nI j) v2 (nI k) w v5 0 (hJ cp' (hM m)) 0 (fun b h => K a b h) else K a (-12) (hJ cp' (hM (mI (mI m 0 2) 1 (m.1 1 + 1))))) else K a (-12) (hJ cp' (hM (mI (mI m 0 2) 1 (m.1 1 + 1))))) else K a (-3) (hJ cp' (hM m))) else K a (-3) (hJ cp' (hM m))) → F_X12_copy d2 mo (nI j) v2 (nI k) w v5 (hJ cp' (hM m)) 0 (fun b h => K a b h) := by
        intro a cp' ha
        unfold F_X12_copy F_X12_fails
        simp only [m_rcT, g_isRow hR hRm.1, hx, hy, if_b2i, Option.isSome_some, Option.isSome_none, Bool.true_eq_false, Bool.false_eq_true, if_false, if_true, true_and, m_g4, m_a4, a1, a2, b1, b2, m_g6, m_a6, b5, b6, m_g5, m_a5, a3, a4, b3, b4, g_isBeyond r2, g_isBeyond s2, m_p0, m_g1, m_p1, mA_1, mB_1, mI_1, mI_21, mI_22, mA_21, mA_22, mB_21, mB_22, Nat.reduceEqDiff, Nat.reduceEqDiff, reduceCtorEq, if_false, if_true]
        by_cases e1 : r.1 = s.1
        · rw [if_pos e1] at ha ⊢
          rcases e2 : s.2.1 with _ | _
          · simp only [e2, if_true] at ha ⊢
            rcases e3 : run v2 v5 r.2.2.length with _ | _
            · simpa [e3] using ha
            · rcases e4 : run w v5 s.2.2.length with _ | _
              · simpa [e3, e4] using ha
              · simpa [e3, e4] using ha
          · simpa [e2] using ha
        · rw [if_neg e1] at ha ⊢
          exact ha
      by_cases e1 : r.1 = s.1
      · rw [if_pos e1]
        rcases e2 : s.2.1 with _ | _
        · rw [if_pos rfl]
          rcases e3 : run v2 v5 r.2.2.length with _ | _
          · rw [if_pos rfl]
            unfold F_X11_failed
            simp only [c_p1_12, c_g1_13, c_p1_13]
            refine hW _ ⟨m_rc, tail _ _ ?_⟩
            rw [if_pos e1, if_pos e2, if_neg (by rw [e3]; decide)]
            exact hK _ _ _ _ _ _ _ _ _ (I.fault 2)
          · rw [if_neg (by decide)]
            rcases e4 : run w v5 s.2.2.length with _ | _
            · rw [if_pos rfl]
              unfold F_X11_failed
              simp only [c_p1_12, c_g1_13, c_p1_13]
              refine hW _ ⟨m_rc, tail _ _ ?_⟩
              rw [if_pos e1, if_pos e2, if_pos e3, if_neg (by rw [e4]; decide)]
              exact hK _ _ _ _ _ _ _ _ _ (I.fault 2)
            · rw [if_neg (by decide)]
              obtain ⟨a, n, rfl, rfl, hra⟩ := run_some e3
              obtain ⟨b, n', rfl, hn, hsb⟩ := run_some e4
              have hn20 : n < 21 := (by omega)
              have hn20' : n' < 21 := (by omega)
              have : n' = n := ((nI_eq (by omega) (by omega)).mp hn).symm
              subst this
              simp only [c_g21_2, hj, hk, wr_some]
              refine c_cp hj hk hra hsb (by omega) (by omega) (hW _ ⟨m_rc, tail _ _ ?_⟩)
              rw [if_pos e1, if_pos e2, if_pos e3, if_pos e4]
              have l7 := hRm.2.2.2.2.1
              have l8 := hRm.2.2.2.2.2.1
              refine g_copy85 (by omega) (by omega) (by omega) (by omega) l7 l8 ?_
              rw [cpN_S hra hsb]
              have I2 := I.scr8 (l := cpyS (m.2.2 7) (m.2.2 8) (20 * j + a) 0 n') (by rw [cpyS_len]; exact l8)
              refine hK _ _ _ _ _ _ _ _ _ (I2.cells (a := a) (X := r.2.2) hk e2 hsb (fun c hc => ?_) n' (Nat.le_refl _))
              obtain ⟨x, hx2⟩ := get_lt (show a + c < r.2.2.length by omega)
              have e5 : r.2.2.getD (a + c) 0 = x := by rw [List.getD_eq_getElem?_getD, hx2]; rfl
              rw [e5, cpyS_at, if_pos (by omega), ← e1]
              refine ⟨?_, r3 x (List.mem_of_getElem? hx2)⟩
              have := (hRm.2.2.2.2.2.2 j r hj).2.2.2 (a + c) x hx2
              rw [show 20 * j + a + (c - 0) = 20 * j + (a + c) by omega]
              exact this
        · rw [if_neg (by decide)]
          refine hW _ ⟨m_rc, tail _ _ ?_⟩
          rw [if_pos e1, if_neg (by rw [e2]; decide)]
          exact hK _ _ _ _ _ _ _ _ _ I
      · rw [if_neg e1]
        refine hW _ ⟨m_rc, tail _ _ ?_⟩
        rw [if_neg e1]
        exact hK _ _ _ _ _ _ _ _ _ I
end OpCopy2
