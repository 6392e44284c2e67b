section OpTwin
variable {rs : List RowT} {ks : List KindT} {vs : List ValT} {tl : Nat → Nat → Nat → List Int32} {sc : Nat → Int32} {wI : Nat → List Int32} {wL : Nat → List Int64} {m : MS} {d d2 u : Nat} {v1 v2 v3 v5 v6 : Int32} {v4 : Int64} {W : Prop → Prop}
variable {cp mp : MH}
def cpN (src dst : List Int64) (sp dp n : Nat) : List Int64 := dst.take dp ++ (src.drop sp).take n ++ dst.drop (dp + n)
theorem cpN_map {s t : List Int64} {a b n : Nat} : cpyL (s.map jL) (t.map jL) a b n = (cpN s t a b n).map jL := by simp [cpyL, cpN, List.map_take, List.map_drop]
theorem cpN_all {s t : List Int64} {n : Nat} (h1 : s.length = n) (h2 : t.length = n) : cpN s t 0 0 n = s := by
  unfold cpN
  simp [List.take_of_length_le (show s.length ≤ n by omega), List.drop_of_length_le (show t.length ≤ n by omega)]
theorem c_cp {j k a b n : Nat} {r s : RowT} (hj : rs[j]? = some r) (hk : rs[k]? = some s) (ha : a + n ≤ r.2.2.length) (hb : b + n ≤ s.2.2.length) (hr : r.2.2.length < 2 ^ 31) (hs : s.2.2.length < 2 ^ 31) {K : MH → Prop} (H : K (hJ (hC (rs.set k (s.1, s.2.1, cpN r.2.2 s.2.2 a b n)) ks vs tl sc wI wL) mp)) : cpL (hJ (hC rs ks vs tl sc wI wL) mp) (some (22, j, 0)) (nI a) (some (22, k, 0)) (nI b) (nI n) K := by
  have ea : (hJ (hC rs ks vs tl sc wI wL) mp) (22, j, 0) = some (oCells r) := by show Option.map _ (rs[j]?) = _; rw [hj]; rfl
  have eb : (hJ (hC rs ks vs tl sc wI wL) mp) (22, k, 0) = some (oCells s) := by show Option.map _ (rs[k]?) = _; rw [hk]; rfl
  have hl := (List.getElem?_eq_some_iff.mp hk).1
  unfold cpL
  simp only [ea, eb, oCells, nI_clamp (show a < 2 ^ 31 by omega), nI_clamp (show b < 2 ^ 31 by omega), nI_clamp (show n < 2 ^ 31 by omega), cpN_map, List.length_map]
  refine ⟨trivial, trivial, fun v hv => ?_, nI_pos (by omega), nI_pos (by omega), nI_pos (by omega), ha, hb, ?_⟩
  · obtain ⟨x, -, rfl⟩ := List.mem_map.mp hv
    exact ⟨x, rfl⟩
  · have e : hset (hJ (hC rs ks vs tl sc wI wL) mp) (22, k, 0) (.inr (.long, (cpN r.2.2 s.2.2 a b n).map jL)) = hJ (hC (rs.set k (s.1, s.2.1, cpN r.2.2 s.2.2 a b n)) ks vs tl sc wI wL) mp := hC_split (show 22 < 40 by decide) (by simp [hC, oCells, hl]) (fun q hq => hC_rowset (r' := (s.1, s.2.1, cpN r.2.2 s.2.2 a b n)) hk rfl rfl hq)
    rw [e]
    exact H
theorem app_set {α : Type} {l : List α} {x y : α} : (l ++ [x]).set l.length y = l ++ [y] := by simp
theorem s_addTwin {b : Bool} {j : Nat} {r : RowT} (hr : rs.length < 60) (hj : rs[j]? = some r) (hc : r.2.2.length ≤ 20) (hu : r.2.2.length + 6 ≤ u) {K : Option Nm → MH → Nat → Prop} (H : K (some (21, rs.length, 0)) (hJ (hC (rs ++ [(r.1, b, r.2.2)]) ks vs tl sc wI wL) mp) (u - (r.2.2.length + 6))) : iR (d + 3) u_X7_addTwin [jR sto, jR (some (21, j, 0)), jI (b2i b)] (hJ (hC rs ks vs tl sc wI wL) mp) u K := by
  refine I_X7_addTwin (d := d + 2) (r.2.2.length + 6) hu ?_
  unfold F_X7_addTwin
  simp only [c_g21_1, c_g21_2, c_n22, hj, wr_some, c_rc2, true_and]
  refine s_addRow hr hc (Nat.le_refl _) ?_
  simp only [c_g21_2, c_n22, app_get hj, app_len, wr_some]
  refine c_cp (a := 0) (b := 0) (app_get hj) app_len (by simp) (by simp) (by omega) (by simp; omega) ?_
  rw [app_set, cpN_all rfl (by simp)]
  exact H
def cpyM (l : List Int64) (s t : Nat) : Nat → List Int64
  | 0 => l
  | c + 1 => (cpyM l s t c).set (t + c) (l.getD (s + c) 0)
theorem cpyM_len {l : List Int64} {s t c : Nat} : (cpyM l s t c).length = l.length := by
  induction c with
  | zero => rfl
  | succ c ih => simp [cpyM, ih]
theorem cpyM_at {l : List Int64} {s t c i : Nat} : (cpyM l s t c).getD i 0 = if t ≤ i ∧ i < t + c ∧ i < l.length then l.getD (s + (i - t)) 0 else l.getD i 0 := by
  induction c with
  | zero => rw [if_neg (by omega)]; rfl
  | succ c ih =>
    simp only [cpyM, lset_getD, cpyM_len, ih]
    by_cases e : t + c = i ∧ i < l.length
    · rw [if_pos e, if_pos (by omega), show i - t = c by omega]
    · rw [if_neg e]
      by_cases q : t ≤ i ∧ i < t + c ∧ i < l.length
      · rw [if_pos q, if_pos (by omega)]
      · rw [if_neg q, if_neg (by omega)]
theorem g_twinOf19 {j n c : Nat} (hjn : j < n) (hn : n < 60) (hc : c ≤ 20) (h5 : inb (m.2.1 5) (nI j) ∧ rdI (m.2.1 5) (nI j) = nI c) (h7 : (m.2.2 7).length = 1200) {Q : Int32 → MH → Prop} (H : Q (nI n) (hJ cp (hM (mB m 7 (cpyM (m.2.2 7) (20 * j) (20 * n) c))))) : L_X12_twinOf_19 d mo (nI j) (nI n) 0 (hJ cp (hM m)) u Q := by
  have key : ∀ r i : Nat, i + r = c → L_X12_twinOf_19 d mo (nI j) (nI n) (nI i) (hJ cp (hM (mB m 7 (cpyM (m.2.2 7) (20 * j) (20 * n) i)))) u Q := by
    intro r
    induction r with
    | zero =>
      intro i hi
      have : i = c := (by omega)
      subst this
      unfold L_X12_twinOf_19
      refine E_X12_twinOf_19 ?_
      unfold F_X12_twinOf_19
      simp only [m_g5, m_a5, mA_1, mB_1, mI_1, mI_21, mI_22, mA_21, mA_22, mB_21, mB_22, Nat.reduceEqDiff, Nat.reduceEqDiff, reduceCtorEq, if_false, if_true, h5.1, h5.2, true_and]
      rw [if_pos (nI_le (Nat.le_refl _) (by omega))]
      exact H
    | succ r ih =>
      intro i hi
      unfold L_X12_twinOf_19
      refine E_X12_twinOf_19 ?_
      unfold F_X12_twinOf_19
      simp only [m_g5, m_a5, mA_1, mB_1, mI_1, mI_21, mI_22, mA_21, mA_22, mB_21, mB_22, Nat.reduceEqDiff, Nat.reduceEqDiff, reduceCtorEq, if_false, if_true, h5.1, h5.2, true_and]
      rw [if_neg (nI_ge (by omega) (by omega))]
      simp only [m_g7, m_a7, m_s7, mA_1, mB_1, mI_1, mI_21, mI_22, mA_21, mA_22, mB_21, mB_22, Nat.reduceEqDiff, Nat.reduceEqDiff, reduceCtorEq, if_false, if_true, idx20, nI_1, inb_nI (show 20 * n + i < 2 ^ 31 by omega), inb_nI (show 20 * j + i < 2 ^ 31 by omega), cpyM_len, h7, nI_clamp (show 20 * n + i < 2 ^ 31 by omega), rdL_nI (show 20 * j + i < 2 ^ 31 by omega), mB_mB]
      refine ⟨by omega, by omega, ?_⟩
      rw [cpyM_at, if_neg (by omega)]
      exact ih (i + 1) (by omega)
  have := key c 0 (by omega)
  have e7 : mB m 7 (m.2.2 7) = m := by unfold mB; rw [up_id]
  simpa [nI_0, cpyM, e7] using this
theorem mRowAdd_7 {n c : Nat} {l k : Int32} {a b : List Int64} : mB (mRowAdd m n l c k a) 7 b = mRowAdd m n l c k b := by
  unfold mRowAdd mB mI mA
  simp only [up_u]
theorem Inv.twin (I : Inv rs ks vs tl sc wI wL m) (hr : rs.length < 60) {j : Nat} {r : RowT} (hj : rs[j]? = some r) (b : Bool) (hb : b = true → r.1 = 8) : Inv (rs ++ [(r.1, b, r.2.2)]) ks vs tl sc wI wL (mRowAdd m rs.length r.1 r.2.2.length (b2i b) (cpyM (fillL (m.2.2 7) (20 * rs.length) (if r.1 = 8 then -1 else 0) r.2.2.length) (20 * j) (20 * rs.length) r.2.2.length)) := by
  have h7 := I.2.1.2.2.2.2.1
  obtain ⟨r1, r2, r3, r4⟩ := I.1.1.2 r (List.mem_of_getElem? hj)
  have hlt := (List.getElem?_eq_some_iff.mp hj).1
  obtain ⟨-, -, -, d4⟩ := I.2.1.2.2.2.2.2.2 j r hj
  refine I.row (r.1, b, r.2.2) hr ⟨r1, r2, r3, hb⟩ _ (by rw [cpyM_len, fillL_len]; exact h7) (fun i hi => by rw [cpyM_at, if_neg (by omega), fillL_at, if_neg (by omega)]) (fun i x hx => ?_)
  have hi := (List.getElem?_eq_some_iff.mp hx).1
  have hi2 : i < r.2.2.length := hi
  rw [cpyM_at, if_pos (by rw [fillL_len]; omega), fillL_at, if_neg (by omega), show 20 * j + (20 * rs.length + i - 20 * rs.length) = 20 * j + i by omega]
  exact d4 i x hx
theorem g_twinOf (I : mRows rs m) (hR : rs.length < 60) {j : Nat} {r : RowT} (hj : rs[j]? = some r) (hc : r.2.2.length ≤ 20) {Q : Int32 → MH → Prop} (H : Q (nI rs.length) (hJ cp (hM (mRowAdd m rs.length r.1 r.2.2.length 0 (cpyM (fillL (m.2.2 7) (20 * rs.length) (if r.1 = 8 then -1 else 0) r.2.2.length) (20 * j) (20 * rs.length) r.2.2.length))))) : F_X12_twinOf d mo (nI j) (hJ cp (hM m)) u Q := by
  obtain ⟨h60, ⟨a1, a2⟩, ⟨a3, a4⟩, -⟩ := I.at (by omega) hj
  have hlt := (List.getElem?_eq_some_iff.mp hj).1
  unfold F_X12_twinOf
  simp only [m_g4, m_a4, a1, a2, m_g5, m_a5, a3, a4, true_and, m_rcT]
  refine g_newRow (rs := rs) hR hc I rfl ?_
  refine g_twinOf19 hlt hR hc ?_ ?_ ?_
  · simp only [mRowAdd, mA_1, mB_1, mI_1, mI_21, mI_22, mA_21, mA_22, mB_21, mB_22, Nat.reduceEqDiff, Nat.reduceEqDiff, reduceCtorEq, if_false, if_true]
    rw [inb_nI (by omega), rdI_nI (by omega), lset_getD, if_neg (by omega), List.length_set]
    rw [inb_nI (by omega)] at a3
    rw [rdI_nI (by omega)] at a4
    exact ⟨a3, a4⟩
  · simp only [mRowAdd, mA_1, mB_1, mI_1, mI_21, mI_22, mA_21, mA_22, mB_21, mB_22, Nat.reduceEqDiff, Nat.reduceEqDiff, reduceCtorEq, if_false, if_true]
    rw [fillL_len]
    exact I.2.2.2.2.1
  · rw [mRowAdd_7]
    simp only [mRowAdd, mA_1, mB_1, mI_1, mI_21, mI_22, mA_21, mA_22, mB_21, mB_22, Nat.reduceEqDiff, Nat.reduceEqDiff, reduceCtorEq, if_false, if_true] at H ⊢
    exact H
theorem op_twin (I : Inv rs ks vs tl sc wI wL m) (hW : ∀ X, X → W X) {K : Int32 → Int32 → MH → Prop} (hK : KI K) (hu : 200 ≤ u) : F_X11_twin (d + 4) br v1 (hX rs ks vs tl sc wI wL m) u (fun a h => W (rc h mo 11 ∧ F_X12_twin d2 mo v1 h 0 (fun b h => K a b h))) := by
  have hR := I.1.1.1; have hV := I.1.2.2.2.1.1; have hKd := I.1.2.1.1; have hRm := I.2.1; have hKm := I.2.2.1; have hVm := I.2.2.2.1; have hMm := I.2.2.2.2
  unfold F_X11_twin
  simp only [c_g1_0, c_rc2, f_findRow hR, ixL_i, true_and]
  rcases hx : ix v1 rs.length with _ | j
  · simp only [Option.map_none, nl_none]
    refine hW _ ⟨m_rc, ?_⟩
    unfold F_X12_twin
    simp only [m_rcT, g_isRow hR hRm.1, hx, if_b2i, Option.isSome_some, Option.isSome_none, Bool.true_eq_false, Bool.false_eq_true, if_false, if_true, true_and]
    exact hK _ _ _ _ _ _ _ _ _ I
  · obtain ⟨h1, rfl, -, -⟩ := ix_some hx
    obtain ⟨r, hj⟩ := get_lt h1
    obtain ⟨r1, r2, r3, r4⟩ := I.1.1.2 r (List.mem_of_getElem? hj)
    simp only [Option.map_some, nl_some, c_rc1, true_and]
    refine I_X11_freeTwin (d := d + 3) 200 hu ?_
    unfold F_X11_freeTwin F_X7_hasRoomForRows
    simp only [c_g1_0, c_rc2, c_g2_2, true_and, nz_0, nz_1, if_true, if_false, room60 rs.length hR]
    by_cases q : rs.length = 60
    · rw [if_pos q]
      refine hW _ ⟨m_rc, ?_⟩
      unfold F_X12_twin
      simp only [m_rcT, g_isRow hR hRm.1, hx, if_b2i, Option.isSome_some, Option.isSome_none, Bool.true_eq_false, Bool.false_eq_true, if_false, if_true, true_and, m_g3, hRm.1]
      rw [if_pos (by rw [q]; rfl)]
      exact hK _ _ _ _ _ _ _ _ _ I
    · rw [if_neg q, if_neg (by decide)]
      have n60 : ¬ nI rs.length = 60 := fun e => q ((nI_eq (by omega) (by omega)).mp e)
      refine s_addTwin (b := false) (by omega) hj r2 (by omega) ?_
      simp only [c_g21_0, app_len, wr_some]
      refine hW _ ⟨m_rc, ?_⟩
      unfold F_X12_twin
      simp only [m_rcT, g_isRow hR hRm.1, hx, if_b2i, Option.isSome_some, Option.isSome_none, Bool.true_eq_false, Bool.false_eq_true, if_false, if_true, true_and, m_g3, hRm.1]
      rw [if_neg n60]
      refine g_twinOf hRm (by omega) hj r2 ?_
      exact hK _ _ _ _ _ _ _ _ _ (I.twin (by omega) hj false (by intro z; cases z))
end OpTwin
