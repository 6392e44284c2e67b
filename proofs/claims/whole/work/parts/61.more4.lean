section OpMore4
variable {rs : List RowT} {ks : List KindT} {vs : List ValT} {tl : Nat → Nat → Nat → List Int32} {sc : Nat → Int32} {wI : Nat → List Int32} {wL : Nat → List Int64} {m : MS} {d d2 u : Nat} {v1 v2 v3 v5 v6 : Int32} {v4 : Int64} {W : Prop → Prop}
variable {cp mp h : MH}
theorem f_takesLane {j : Nat} {k : KindT} (hk : ks[j]? = some k) {l : Int32} {Q : Int32 → MH → Prop} : F_X3_takesLane d (some (23, j, 0)) l (hJ (hC rs ks vs tl sc wI wL) mp) u Q ↔ Q (b2i (k.1 || wi l 0 9)) (hJ (hC rs ks vs tl sc wI wL) mp) := by
  unfold F_X3_takesLane
  simp only [c_g23_1, hk, wr_some, f_isLane, nz_0, nz_1, true_and, if_b2i]
  cases k.1
  · simp only [if_true, Bool.false_or]
    cases wi l 0 9 <;> simp [b2i]
  · simp [b2i]
theorem g_more92 {j : Nat} {k : KindT} {t : List ET} {c : Nat} (hKm : mKinds ks m) (hKd : ks.length ≤ 16) (hk : ks[j]? = some k) (h4 : k.2.2.2.2.length ≤ 4) (ht : k.2.2.2.2[0]? = some t) (hc : c ≤ 8) (htc : t.length ≤ c) {l n : Int32} {Q : Int32 → MH → Prop} (H1 : t.length = c → Q (-4) (hJ cp (hM m))) (H2 : t.length < c → Q (nI t.length + 1) (hJ cp (hM (mMore m (4 * j) (8 * (4 * j) + t.length) l n (nI t.length + 1))))) : F_X12_more_92 d mo l n (nI (4 * j)) (nI t.length) (nI c) (hJ cp (hM m)) u Q := by
  obtain ⟨e64, ⟨e1, e2⟩, -⟩ := hKm.ed hKd hk h4 ht
  obtain ⟨-, -, -, -, -, -, l15, l16, l17, -⟩ := hKm
  have hj16 : j < 16 := by have := (List.getElem?_eq_some_iff.mp hk).1; omega
  unfold F_X12_more_92
  by_cases q : t.length = c
  · rw [if_pos (by rw [q])]; exact H1 q
  · rw [if_neg (fun z => q ((nI_eq (by omega) (by omega)).mp z))]
    have g1 : inb (m.2.1 15) (nI (4 * j)) := (inb_nI (by omega)).mpr (by omega)
    have g2 : rdI (m.2.1 15) (nI (4 * j)) = nI t.length := e2
    simp only [m_g16, m_g15, m_a15, g1, g2, true_and, idx8, m_s16, inb_nI (show 8 * (4 * j) + t.length < 2 ^ 31 by omega), l16, nI_clamp (show 8 * (4 * j) + t.length < 2 ^ 31 by omega), m_g17, m_s17, l17, m_s15, nI_clamp (show 4 * j < 2 ^ 31 by omega), mA_1, mB_1, mI_1, mI_21, mI_22, mA_21, mA_22, mB_21, mB_22, Nat.reduceEqDiff, Nat.reduceEqDiff, reduceCtorEq, if_false, if_true]
    refine ⟨by omega, by omega, ?_⟩
    have g3 : inb ((m.2.1 15).set (4 * j) (nI t.length + 1)) (nI (4 * j)) := (inb_nI (by omega)).mpr (by rw [List.length_set]; omega)
    have g4 : rdI ((m.2.1 15).set (4 * j) (nI t.length + 1)) (nI (4 * j)) = nI t.length + 1 := by rw [rdI_nI (by omega), lset_getD, if_pos ⟨rfl, by omega⟩]
    simp only [g3, g4, true_and]
    exact H2 (by omega)
end OpMore4
