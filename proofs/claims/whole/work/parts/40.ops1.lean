/-! CALLS that read and write rows -/
theorem idx20 (j i : Nat) : (20 : Int32) * nI j + nI i = nI (20 * j + i) := by rw [show (20 : Int32) = nI 20 from rfl, pk_mul, nI_add]
section Ops1
variable {rs : List RowT} {ks : List KindT} {vs : List ValT} {tl : Nat → Nat → Nat → List Int32} {sc : Nat → Int32} {wI : Nat → List Int32} {wL : Nat → List Int64} {m : MS} {d d2 u : Nat} {v1 v2 v3 : Int32} {W : Prop → Prop}
/-- what the reference's arrays tell of a row -/
theorem mRows.at {j : Nat} {r : RowT} (h : mRows rs m) (hr : rs.length ≤ 60) (hj : rs[j]? = some r) :
    j < 60 ∧ (inb (m.2.1 4) (nI j) ∧ rdI (m.2.1 4) (nI j) = r.1) ∧ (inb (m.2.1 5) (nI j) ∧ rdI (m.2.1 5) (nI j) = nI r.2.2.length) ∧ (inb (m.2.1 6) (nI j) ∧ rdI (m.2.1 6) (nI j) = b2i r.2.1) ∧
    ∀ i, i < r.2.2.length → r.2.2.length ≤ 20 → inb (m.2.2 7) (20 * nI j + nI i) ∧ rdL (m.2.2 7) (20 * nI j + nI i) = r.2.2.getD i 0 := by
  obtain ⟨h3, l4, l5, l6, l7, -, hh⟩ := h
  have hj60 : j < 60 := by have := (List.getElem?_eq_some_iff.mp hj).1; omega
  obtain ⟨a4, a5, a6, a7⟩ := hh j r hj
  refine ⟨hj60, ⟨(inb_nI (by omega)).mpr (by omega), by rw [rdI_nI (by omega), a4]⟩, ⟨(inb_nI (by omega)).mpr (by omega), by rw [rdI_nI (by omega), a5]⟩, ⟨(inb_nI (by omega)).mpr (by omega), by rw [rdI_nI (by omega), a6]⟩, fun i hi hl => ?_⟩
  rw [idx20]
  refine ⟨(inb_nI (by omega)).mpr (by omega), ?_⟩
  rw [rdL_nI (by omega), a7 i _ (List.getElem?_eq_getElem hi)]
  simp [List.getD_eq_getElem?_getD, hi]
theorem get_lt {α : Type} {l : List α} {j : Nat} (h : j < l.length) : ∃ r, l[j]? = some r := ⟨_, List.getElem?_eq_getElem h⟩
theorem op_trace (I : Inv rs ks vs tl sc wI wL m) (hW : ∀ X, X → W X) {K : Int32 → Int32 → MH → Prop} (hK : ∀ a, K a a (hX rs ks vs tl sc wI wL m)) : F_X11_trace d br (hX rs ks vs tl sc wI wL m) u (fun a h => W (rc h mo 11 ∧ F_X12_trace d2 mo h 0 (fun b h => K a b h))) := by
  unfold F_X11_trace
  simp only [c_g1_11]
  refine hW _ ⟨m_rc, ?_⟩
  unfold F_X12_trace
  simp only [m_g2, I.2.2.2.2.2.2.1]
  exact hK _
theorem op_fault (I : Inv rs ks vs tl sc wI wL m) (hW : ∀ X, X → W X) {K : Int32 → Int32 → MH → Prop} (hK : ∀ a, K a a (hX rs ks vs tl sc wI wL m)) : F_X11_fault d br (hX rs ks vs tl sc wI wL m) u (fun a h => W (rc h mo 11 ∧ F_X12_fault d2 mo h 0 (fun b h => K a b h))) := by
  unfold F_X11_fault
  simp only [c_g1_12]
  refine hW _ ⟨m_rc, ?_⟩
  unfold F_X12_fault
  simp only [m_g0, I.2.2.2.2.1]
  exact hK _
theorem op_length (I : Inv rs ks vs tl sc wI wL m) (hW : ∀ X, X → W X) {K : Int32 → Int32 → MH → Prop} (hK : ∀ a, K a a (hX rs ks vs tl sc wI wL m)) : F_X11_length d br v1 v2 (hX rs ks vs tl sc wI wL m) u (fun a h => W (rc h mo 11 ∧ F_X12_length d2 mo v1 v2 h 0 (fun b h => K a b h))) := by
  have hR := I.1.1.1
  have hM := I.2.1
  unfold F_X11_length
  simp only [c_g1_0, c_rc2, true_and, f_findRow hR, ixL_i]
  rcases hx : ix v1 rs.length with _ | j
  · simp only [Option.map_none, nl_none]
    refine hW _ ⟨m_rc, ?_⟩
    unfold F_X12_length
    simp only [m_rcT, true_and, g_isRow hR hM.1, hx, if_b2i, Option.isSome_none, if_true]
    exact hK _
  · obtain ⟨h1, rfl, -, -⟩ := ix_some hx
    obtain ⟨r, hj⟩ := get_lt h1
    obtain ⟨hj60, ⟨a1, a2⟩, ⟨a3, a4⟩, ⟨a5, a6⟩, -⟩ := hM.at hR hj
    have tail : ∀ a, (F_X12_length d2 mo (nI j) v2 (hX rs ks vs tl sc wI wL m) 0 (fun b h => K a b h)) ↔ K a (if v2 = 0 then r.1 else if v2 = 1 then nI r.2.2.length else if v2 = 2 then b2i r.2.1 else -2) (hX rs ks vs tl sc wI wL m) := by
      intro a
      unfold F_X12_length
      simp only [m_rcT, true_and, g_isRow hR hM.1, hx, if_b2i, Option.isSome_some, m_g4, m_a4, m_g5, m_a5, m_g6, m_a6, a1, a2, a3, a4, a5, a6]
      by_cases e0 : v2 = 0
      · simp [e0]
      · by_cases e1 : v2 = 1
        · simp [e1]
        · by_cases e2 : v2 = 2
          · simp only [e2]; cases r.2.1 <;> simp [b2i]
          · simp [e0, e1, e2]
    simp only [Option.map_some, nl_some, c_g21_1, c_g21_2, c_n22, c_g21_3, hj, wr_some, f_oneIf]
    by_cases e0 : v2 = 0
    · rw [if_pos e0]; refine hW _ ⟨m_rc, (tail _).mpr ?_⟩; rw [if_pos e0]; exact hK _
    · rw [if_neg e0]
      by_cases e1 : v2 = 1
      · rw [if_pos e1]; refine hW _ ⟨m_rc, (tail _).mpr ?_⟩; rw [if_neg e0, if_pos e1]; exact hK _
      · rw [if_neg e1]
        by_cases e2 : v2 = 2
        · rw [if_pos e2]; refine hW _ ⟨m_rc, (tail _).mpr ?_⟩; rw [if_neg e0, if_neg e1, if_pos e2]; exact hK _
        · rw [if_neg e2]; refine hW _ ⟨m_rc, (tail _).mpr ?_⟩; rw [if_neg e0, if_neg e1, if_neg e2]; exact hK _
end Ops1
