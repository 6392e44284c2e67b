section OpRow
variable {rs : List RowT} {ks : List KindT} {vs : List ValT} {tl : Nat → Nat → Nat → List Int32} {sc : Nat → Int32} {wI : Nat → List Int32} {wL : Nat → List Int64} {m : MS} {d d2 u : Nat} {v1 v2 v3 v5 v6 : Int32} {v4 : Int64} {W : Prop → Prop}
variable {cp mp : MH}
theorem mB_mB {k : Nat} {a b : List Int64} : mB (mB m k a) k b = mB m k b := by unfold mB; simp only [up_u]
theorem mA_mA {k : Nat} {a b : List Int32} : mA (mA m k a) k b = mA m k b := by unfold mA; simp only [up_u]
def fillL (l : List Int64) (s : Nat) (x : Int64) : Nat → List Int64
  | 0 => l
  | c + 1 => (fillL l s x c).set (s + c) x
theorem fillL_len {l : List Int64} {s c : Nat} {x : Int64} : (fillL l s x c).length = l.length := by
  induction c with
  | zero => rfl
  | succ c ih => simp [fillL, ih]
theorem fillL_at {l : List Int64} {s c i : Nat} {x : Int64} : (fillL l s x c).getD i 0 = if s ≤ i ∧ i < s + c ∧ i < l.length then x else l.getD i 0 := by
  induction c with
  | zero => rw [if_neg (by omega)]; rfl
  | succ c ih =>
    simp only [fillL, lset_getD, fillL_len, ih]
    by_cases e : s + c = i ∧ i < l.length
    · rw [if_pos e, if_pos (by omega)]
    · rw [if_neg e]
      by_cases q : s ≤ i ∧ i < s + c ∧ i < l.length
      · rw [if_pos q, if_pos (by omega)]
      · rw [if_neg q, if_neg (by omega)]
theorem app_get {α : Type} {l : List α} {x r : α} {i : Nat} (h : l[i]? = some x) : (l ++ [r])[i]? = some x := by
  rw [List.getElem?_append_left (List.getElem?_eq_some_iff.mp h).1]; exact h
theorem app_case {α : Type} {l : List α} {x r : α} {i : Nat} (h : (l ++ [r])[i]? = some x) : l[i]? = some x ∨ (i = l.length ∧ x = r) := by
  by_cases q : i < l.length
  · rw [List.getElem?_append_left q] at h; exact Or.inl h
  · rw [List.getElem?_append_right (by omega)] at h
    by_cases z : i = l.length
    · subst z; simp at h; exact Or.inr ⟨rfl, h.symm⟩
    · rw [List.getElem?_eq_none (by simp; omega)] at h; cases h
theorem partOK.row {j dp : Nat} {l : Int32} {x : Int64} {r : RowT} (h : partOK rs vs j l x dp) : partOK (rs ++ [r]) vs j l x dp := by
  obtain ⟨h1, h2, h3⟩ := h
  refine ⟨h1, h2, fun e => ?_⟩
  rcases h3 e with z | ⟨i, r', z1, z2, z3⟩
  · exact Or.inl z
  · exact Or.inr ⟨i, r', z1, app_get z2, z3⟩
theorem ValsOK.row {r : RowT} (h : ValsOK rs ks vs) : ValsOK (rs ++ [r]) ks vs := by
  refine ⟨h.1, fun j v hj => ?_⟩
  obtain ⟨k, t, a1, a2, a3, a4, a5, a6, a7, a8, a9⟩ := h.2 j v hj
  refine ⟨k, t, a1, a2, a3, a4, a5, a6, a7, a8, fun e => ?_⟩
  obtain ⟨b1, b2, b3⟩ := a9 e
  exact ⟨b1, b2, fun i x y hx hy => (b3 i x y hx hy).row⟩
def mRowAdd (m : MS) (n : Nat) (l : Int32) (c : Nat) (k : Int32) (l7 : List Int64) : MS := mI (mB (mA (mA (mA m 4 ((m.2.1 4).set n l)) 5 ((m.2.1 5).set n (nI c))) 6 ((m.2.1 6).set n k)) 7 l7) 3 (nI n + 1)
/-- a row more -/
theorem Inv.row (I : Inv rs ks vs tl sc wI wL m) (r : RowT) (hr : rs.length < 60) (hO : RowOK r vs.length) (l7 : List Int64) (h7 : l7.length = 1200) (h7a : ∀ i, i < 20 * rs.length → l7.getD i 0 = (m.2.2 7).getD i 0) (h7b : ∀ i x, r.2.2[i]? = some x → l7.getD (20 * rs.length + i) 0 = x) :
    Inv (rs ++ [r]) ks vs tl sc wI wL (mRowAdd m rs.length r.1 r.2.2.length (b2i r.2.1) l7) := by
  obtain ⟨⟨a1, a2, a3, a4, a5, a6⟩, b1, b2, b3, b4⟩ := I
  refine ⟨⟨⟨by simp; omega, fun r' hr' => ?_⟩, a2, a3, a4.row, a5, fun i hi => ?_⟩, ?_, by simpa [mRowAdd, mKinds, mI, mA, mB, up] using b2, by simpa [mRowAdd, mVals, mI, mA, mB, up] using b3, by simpa [mRowAdd, mMisc, mI, mA, mB, up] using b4⟩
  · rcases List.mem_append.mp hr' with z | z
    · exact a1.2 r' z
    · rw [List.mem_singleton.mp z]; exact hO
  · rcases a6 i hi with z | z | z | ⟨z, j, z1, z2⟩
    · exact Or.inl z
    · exact Or.inr (Or.inl z)
    · exact Or.inr (Or.inr (Or.inl z))
    · exact Or.inr (Or.inr (Or.inr ⟨z, j, by simp; omega, z2⟩))
  · obtain ⟨c0, c1, c2, c3, c4, c5, c6⟩ := b1
    simp only [mRowAdd, mRows, mA_1, mB_1, mI_1, mI_21, mI_22, mA_21, mA_22, mB_21, mB_22, Nat.reduceEqDiff, Nat.reduceEqDiff, reduceCtorEq, if_false, if_true]
    refine ⟨by simp [nI_1], by simpa using c1, by simpa using c2, by simpa using c3, h7, c5, fun j r' hj => ?_⟩
    simp only [lset_getD]
    rcases app_case hj with z | ⟨rfl, rfl⟩
    · have hlt := (List.getElem?_eq_some_iff.mp z).1
      rw [if_neg (by omega), if_neg (by omega), if_neg (by omega)]
      obtain ⟨d1, d2, d3, d4⟩ := c6 j r' z
      have hc := (a1.2 r' (List.mem_of_getElem? z)).2.1
      refine ⟨d1, d2, d3, fun i x hx => ?_⟩
      have := (List.getElem?_eq_some_iff.mp hx).1
      rw [h7a _ (by omega)]
      exact d4 i x hx
    · rw [if_pos ⟨rfl, by omega⟩, if_pos ⟨rfl, by omega⟩, if_pos ⟨rfl, by omega⟩]
      exact ⟨rfl, rfl, rfl, h7b⟩
theorem g_newRow32 {n c : Nat} (hn : n < 60) (hc : c ≤ 20) (h3 : m.1 3 = nI n) (h7 : (m.2.2 7).length = 1200) {Q : Int32 → MH → Prop} (H : Q (nI n) (hJ cp (hM (mI (mB m 7 (fillL (m.2.2 7) (20 * n) (if v1 = 8 then -1 else 0) c)) 3 (nI n + 1))))) : L_X12_newRow_32 d mo v1 (nI c) 0 (hJ cp (hM m)) u Q := by
  have key : ∀ r i : Nat, i + r = c → L_X12_newRow_32 d mo v1 (nI c) (nI i) (hJ cp (hM (mB m 7 (fillL (m.2.2 7) (20 * n) (if v1 = 8 then -1 else 0) i)))) u Q := by
    intro r
    induction r with
    | zero =>
      intro i hi
      have : i = c := (by omega)
      subst this
      unfold L_X12_newRow_32
      refine E_X12_newRow_32 ?_
      unfold F_X12_newRow_32
      rw [if_pos (nI_le (Nat.le_refl _) (by omega))]
      simp only [m_g3, m_p3, mA_1, mB_1, mI_1, mI_21, mI_22, mA_21, mA_22, mB_21, mB_22, Nat.reduceEqDiff, Nat.reduceEqDiff, reduceCtorEq, if_false, if_true, h3]
      rw [show nI n + 1 - 1 = nI n by rw [nI_1, nI_pred]]
      exact H
    | succ r ih =>
      intro i hi
      unfold L_X12_newRow_32
      refine E_X12_newRow_32 ?_
      unfold F_X12_newRow_32
      rw [if_neg (nI_ge (by omega) (by omega))]
      have e20 : (20 : Int32) * nI n + nI i = nI (20 * n + i) := idx20 n i
      have e := ih (i + 1) (by omega)
      simp only [m_g7, m_g3, m_s7, mA_1, mB_1, mI_1, mI_21, mI_22, mA_21, mA_22, mB_21, mB_22, Nat.reduceEqDiff, Nat.reduceEqDiff, reduceCtorEq, if_false, if_true, h3, e20, nI_1, inb_nI (show 20 * n + i < 2 ^ 31 by omega), fillL_len, h7, nI_clamp (show 20 * n + i < 2 ^ 31 by omega), mB_mB]
      by_cases q : v1 = 8
      · simp only [q, if_true] at e ⊢
        exact ⟨by omega, e⟩
      · simp only [q, if_false] at e ⊢
        exact ⟨by omega, e⟩
  have := key c 0 (by omega)
  have e7 : mB m 7 (m.2.2 7) = m := by unfold mB; rw [up_id]
  simpa [nI_0, fillL, e7] using this
theorem g_newRow {n c : Nat} (hn : n < 60) (hc : c ≤ 20) (h : mRows rs m) (hl : rs.length = n) {Q : Int32 → MH → Prop} (H : Q (nI n) (hJ cp (hM (mRowAdd m n v1 c 0 (fillL (m.2.2 7) (20 * n) (if v1 = 8 then -1 else 0) c))))) : F_X12_newRow d mo v1 (nI c) (hJ cp (hM m)) u Q := by
  obtain ⟨c0, c1, c2, c3, c4, -⟩ := h
  rw [hl] at c0
  unfold F_X12_newRow
  simp only [m_g4, m_g3, m_s4, c0, inb_nI (show n < 2 ^ 31 by omega), c1, m_g5, m_s5, c2, m_g6, m_s6, c3, hn, true_and, nI_clamp (show n < 2 ^ 31 by omega), mA_1, mB_1, mI_1, mI_21, mI_22, mA_21, mA_22, mB_21, mB_22, Nat.reduceEqDiff, Nat.reduceEqDiff, reduceCtorEq, if_false, if_true]
  exact g_newRow32 (m := mA (mA (mA m 4 ((m.2.1 4).set n v1)) 5 ((m.2.1 5).set n (nI c))) 6 ((m.2.1 6).set n 0)) hn hc c0 c4 H
theorem app_len {α : Type} {l : List α} {r : α} : (l ++ [r])[l.length]? = some r := by simp
theorem fB_0 : fB 0 = 0 := by decide +kernel
theorem dB_0 : dB 0 = 0 := by decide +kernel
theorem num0 (l : Int32) : numOK l 0 := ⟨fun _ => Or.inl rfl, fun _ => ⟨0, fB_0.symm⟩, fun _ => Or.inl ⟨0, dB_0.symm⟩⟩
theorem room60 : ∀ n : Nat, n ≤ 60 → (((60 : Int32) - nI n < 1) ↔ n = 60) := by decide +kernel
theorem Inv.newRow (I : Inv rs ks vs tl sc wI wL m) {c : Nat} (hr : rs.length < 60) (hc : c ≤ 20) (hl : wi v1 0 8 = true) : Inv (rs ++ [(v1, false, List.replicate c (if v1 = 8 then -1 else 0))]) ks vs tl sc wI wL (mRowAdd m rs.length v1 c 0 (fillL (m.2.2 7) (20 * rs.length) (if v1 = 8 then -1 else 0) c)) := by
  have h7 := I.2.1.2.2.2.2.1
  have := I.row (v1, false, List.replicate c (if v1 = 8 then -1 else 0)) hr ⟨hl, by simpa using hc, fun x hx => ?_, fun z => by cases z⟩ (fillL (m.2.2 7) (20 * rs.length) (if v1 = 8 then -1 else 0) c) (by rw [fillL_len]; exact h7) (fun i hi => by rw [fillL_at, if_neg (by omega)]) (fun i x hx => ?_)
  · simpa [b2i] using this
  · rw [List.eq_of_mem_replicate hx]
    refine ⟨fun z => ?_, fun z => ?_⟩
    · have z' : wi v1 0 7 = true := z
      rw [if_neg (fun e => by rw [show v1 = 8 from e] at z'; exact absurd z' (by decide))]
      exact num0 _
    · show refOK _ _
      rw [if_pos z]
      exact Or.inl rfl
  · rw [List.getElem?_replicate] at hx
    by_cases q : i < c
    · rw [if_pos q] at hx
      cases hx
      rw [fillL_at, if_pos (by omega)]
    · rw [if_neg q] at hx; cases hx
theorem op_row (I : Inv rs ks vs tl sc wI wL m) (hW : ∀ X, X → W X) {K : Int32 → Int32 → MH → Prop} (hK : KI K) (hu : 200 ≤ u) : F_X11_row (d + 2) br v1 v2 (hX rs ks vs tl sc wI wL m) u (fun a h => W (rc h mo 11 ∧ F_X12_row d2 mo v1 v2 h 0 (fun b h => K a b h))) := by
  have hR := I.1.1.1; have hV := I.1.2.2.2.1.1; have hKd := I.1.2.1.1; have hRm := I.2.1; have hKm := I.2.2.1; have hVm := I.2.2.2.1; have hMm := I.2.2.2.2
  unfold F_X11_row
  simp only [f_isWithin, if_b2i]
  rcases hl : wi v1 0 8 with _ | _
  · simp only [if_b2i, Option.isSome_some, Option.isSome_none, Bool.true_eq_false, Bool.false_eq_true, if_false, if_true, true_and]
    refine hW _ ⟨m_rc, ?_⟩
    unfold F_X12_row
    simp only [f_in, hl, if_b2i, Option.isSome_some, Option.isSome_none, Bool.true_eq_false, Bool.false_eq_true, if_false, if_true, true_and]
    exact hK _ _ _ _ _ _ _ _ _ I
  · simp only [if_b2i, Option.isSome_some, Option.isSome_none, Bool.true_eq_false, Bool.false_eq_true, if_false, if_true, true_and]
    by_cases h2 : v2 ≤ 20
    · rw [if_pos h2]
      unfold F_X7_hasRoomForRows
      simp only [c_g1_0, c_rc2, c_g2_2, true_and, nz_0, nz_1, if_true, if_false, room60 rs.length hR]
      by_cases q : rs.length = 60
      · rw [if_pos q]
        refine hW _ ⟨m_rc, ?_⟩
        unfold F_X12_row
        simp only [f_in, hl, if_b2i, Option.isSome_some, Option.isSome_none, Bool.true_eq_false, Bool.false_eq_true, if_false, if_true, true_and, m_g3, hRm.1]
        rw [if_pos h2, if_pos (by rw [q]; rfl)]
        exact hK _ _ _ _ _ _ _ _ _ I
      · rw [if_neg q, if_neg (by decide)]
        have n60 : ¬ nI rs.length = 60 := fun e => q ((nI_eq (by omega) (by omega)).mp e)
        by_cases h0 : 0 ≤ v2
        · rw [if_pos h0]
          have hv : ¬ v2 < 0 := (by rw [Int32.lt_iff_toInt_lt]; rw [Int32.le_iff_toInt_le] at h0; omega)
          obtain ⟨c, hc, rfl⟩ := nI_of2 (M := 20) (n := 20) (by decide) hv h2
          refine s_addRow (b := false) (by omega) hc (by omega) ?_
          simp only [c_g21_0, app_len, wr_some]
          refine hW _ ⟨m_rc, ?_⟩
          unfold F_X12_row
          simp only [f_in, hl, if_b2i, Option.isSome_some, Option.isSome_none, Bool.true_eq_false, Bool.false_eq_true, if_false, if_true, true_and, m_g3, hRm.1, m_rcT]
          rw [if_pos h2, if_neg n60, if_pos h0]
          refine g_newRow (rs := rs) (by omega) hc hRm rfl ?_
          exact hK _ _ _ _ _ _ _ _ _ (I.newRow (by omega) hc hl)
        · rw [if_neg h0]
          unfold F_X11_failed
          simp only [c_rc1, true_and, c_p1_12, c_g1_13, c_p1_13]
          refine hW _ ⟨m_rc, ?_⟩
          unfold F_X12_row
          simp only [f_in, hl, if_b2i, Option.isSome_some, Option.isSome_none, Bool.true_eq_false, Bool.false_eq_true, if_false, if_true, true_and, m_g3, hRm.1, m_rcT]
          rw [if_pos h2, if_neg n60, if_neg h0]
          unfold F_X12_fails
          simp only [m_p0, m_g1, m_p1, mA_1, mB_1, mI_1, mI_21, mI_22, mA_21, mA_22, mB_21, mB_22, Nat.reduceEqDiff, Nat.reduceEqDiff, reduceCtorEq, if_false, if_true]
          exact hK _ _ _ _ _ _ _ _ _ (I.fault 4)
    · rw [if_neg h2]
      refine hW _ ⟨m_rc, ?_⟩
      unfold F_X12_row
      simp only [f_in, hl, if_b2i, Option.isSome_some, Option.isSome_none, Bool.true_eq_false, Bool.false_eq_true, if_false, if_true, true_and]
      rw [if_neg h2]
      exact hK _ _ _ _ _ _ _ _ _ I
end OpRow
