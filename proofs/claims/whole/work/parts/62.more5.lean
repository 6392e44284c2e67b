section OpMore5
variable {rs : List RowT} {ks : List KindT} {vs : List ValT} {tl : Nat → Nat → Nat → List Int32} {sc : Nat → Int32} {wI : Nat → List Int32} {wL : Nat → List Int64} {m : MS} {d d2 u : Nat} {v1 v2 v3 v5 v6 : Int32} {v4 : Int64} {W : Prop → Prop}
theorem pI_m1 {o : Option Nat} (h : ∀ i, o = some i → i < 100) : (pI o = -1 ↔ o = none) ∧ (pI o < 0 ↔ o = none) := by
  cases o with
  | none => exact ⟨⟨fun _ => rfl, fun _ => rfl⟩, ⟨fun _ => rfl, fun _ => by decide⟩⟩
  | some i =>
    have hi := h i rfl
    refine ⟨⟨fun z => ?_, fun z => by cases z⟩, ⟨fun z => absurd z (nI_pos (by omega)), fun z => by cases z⟩⟩
    have z' : nI i = -1 := z
    have : nI i < 0 := by rw [z']; decide
    exact absurd this (nI_pos (by omega))
theorem op_more (I : Inv rs ks vs tl sc wI wL m) (hW : ∀ X, X → W X) {K : Int32 → Int32 → MH → Prop} (hK : KI K) : F_X11_more d br v1 v2 v3 (hX rs ks vs tl sc wI wL m) u (fun a h => W (rc h mo 11 ∧ F_X12_more d2 mo v1 v2 v3 h 0 (fun b h => K a b h))) := by
  have hR := I.1.1.1; have hV := I.1.2.2.2.1.1; have hKd := I.1.2.1.1; have hRm := I.2.1; have hKm := I.2.2.1; have hVm := I.2.2.2.1; have hMm := I.2.2.2.2
  unfold F_X11_more
  simp only [c_rc1, true_and, f_findKind hKd]
  rcases hx : ix v1 ks.length with _ | j
  · simp only [Option.map_none, nl_none]
    refine hW _ ⟨m_rc, ?_⟩
    unfold F_X12_more
    simp only [m_rcT, g_isKind hKd hKm.1, hx, if_b2i, Option.isSome_some, Option.isSome_none, Bool.true_eq_false, Bool.false_eq_true, if_false, if_true, true_and]
    exact hK _ _ _ _ _ _ _ _ _ I
  · obtain ⟨h1, rfl, -, -⟩ := ix_some hx
    obtain ⟨k, hk⟩ := get_lt h1
    obtain ⟨k1, k2, k3, k4, k5, k6, k7⟩ := I.1.2.1.2 k (List.mem_of_getElem? hk)
    obtain ⟨hj16, ⟨a1, a2⟩, -, ⟨a3, a4⟩, -⟩ := hKm.at hKd hk
    simp only [Option.map_some, nl_some, f_isLabel, if_b2i]
    rcases hlb : wi v2 1 99 with _ | _
    · simp only [if_b2i, Option.isSome_some, Option.isSome_none, Bool.true_eq_false, Bool.false_eq_true, if_false, if_true, true_and]
      refine hW _ ⟨m_rc, ?_⟩
      unfold F_X12_more
      simp only [m_rcT, g_isKind hKd hKm.1, hx, f_in, hlb, if_b2i, Option.isSome_some, Option.isSome_none, Bool.true_eq_false, Bool.false_eq_true, if_false, if_true, true_and]
      exact hK _ _ _ _ _ _ _ _ _ I
    · simp only [if_b2i, Option.isSome_some, Option.isSome_none, Bool.true_eq_false, Bool.false_eq_true, if_false, if_true, true_and, c_rc23, hk, wr_some, f_takesLane hk, if_b2i]
      rcases hln : (k.1 || wi v3 0 9) with _ | _
      · simp only [if_b2i, Option.isSome_some, Option.isSome_none, Bool.true_eq_false, Bool.false_eq_true, if_false, if_true, true_and]
        refine hW _ ⟨m_rc, ?_⟩
        have c1 : k.1 = false := by cases hq : k.1 <;> simp [hq] at hln ⊢
        have c2 : wi v3 0 9 = false := by simpa [c1] using hln
        unfold F_X12_more
        simp only [m_rcT, g_isKind hKd hKm.1, hx, f_in, hlb, c2, if_b2i, Option.isSome_some, Option.isSome_none, Bool.true_eq_false, Bool.false_eq_true, if_false, if_true, true_and, m_g10, m_a10, a1, a2, c1]
        exact hK _ _ _ _ _ _ _ _ _ I
      · have tail : ∀ a cp', F_X12_more d2 mo (nI j) v2 v3 (hJ cp' (hM m)) 0 (fun b h => K a b h) ↔ F_X12_more_42 d2 mo (nI j) v2 v3 (hJ cp' (hM m)) 0 (fun b h => K a b h) := by
          intro a cp'
          unfold F_X12_more
          simp only [m_rcT, g_isKind hKd hKm.1, hx, f_in, hlb, if_b2i, Option.isSome_some, Option.isSome_none, Bool.true_eq_false, Bool.false_eq_true, if_false, if_true, true_and, m_g10, m_a10, a1, a2]
          cases hq : k.1
          · have c2 : wi v3 0 9 = true := by simpa [hq] using hln
            simp [c2]
          · simp
        simp only [if_b2i, Option.isSome_some, Option.isSome_none, Bool.true_eq_false, Bool.false_eq_true, if_false, if_true, true_and, f_newest hk k1 k2, c_g23_5, hk, wr_some]
        rcases hs : k.2.2.1 with _ | _
        · obtain ⟨k31, k32⟩ := k3 hs
          obtain ⟨t, ht⟩ := get_lt (show 0 < k.2.2.2.2.length by omega)
          obtain ⟨ed1, ed2, ed3⟩ := k4 t (List.mem_of_getElem? ht)
          have hT := I.1.2.2.1 j k hk 0 t ht
          have h8 : t.length ≤ 8 := by split at ed1 <;> omega
          have h08 : t.length + (tl j 0 0).length ≤ 8 := by rw [hT 0 (by omega)]; split <;> omega
          obtain ⟨p1, p2⟩ := pI_m1 (o := plc t v2) (fun i hi => by have := plc_lt hi; omega)
          rw [show k.2.2.2.2.length - 1 = 0 by omega]
          simp only [if_b2i, Option.isSome_some, Option.isSome_none, Bool.true_eq_false, Bool.false_eq_true, if_false, if_true, true_and, c_rc25, hk, ht, wr_some]
          refine f_find hk ht h8 ?_
          simp only [p1]
          have e40 : (4 : Int32) * nI j = nI (4 * j) := by have := idx4 j 0; simpa [nI_0] using this
          obtain ⟨-, ⟨g1, g2⟩, -⟩ := hKm.ed hKd hk k2 ht
          have g1' : inb (m.2.1 15) (nI (4 * j)) := g1
          have g2' : rdI (m.2.1 15) (nI (4 * j)) = nI t.length := g2
          have tail2 : ∀ a cp', (if plc t v2 = none then (if k.1 = false then F_X12_more_92 d2 mo v2 v3 (nI (4 * j)) (nI t.length) 6 (hJ cp' (hM m)) 0 (fun b h => K a b h) else F_X12_more_92 d2 mo v2 v3 (nI (4 * j)) (nI t.length) 8 (hJ cp' (hM m)) 0 (fun b h => K a b h)) else K a (-3) (hJ cp' (hM m))) → F_X12_more_42 d2 mo (nI j) v2 v3 (hJ cp' (hM m)) 0 (fun b h => K a b h) := by
            intro a cp' ha
            unfold F_X12_more_42
            simp only [m_g12, m_a12, a3, a4, hs, if_b2i, Option.isSome_some, Option.isSome_none, Bool.true_eq_false, Bool.false_eq_true, if_false, if_true, true_and, m_rcT, e40]
            refine g_placeOf (e := 0) hKm hKd hk k2 ht h8 ed2 ?_
            simp only [p2, m_g15, m_a15, g1', g2', m_g10, m_a10, a1, a2, true_and, if_b2i]
            exact ha
          by_cases hp : plc t v2 = none
          · rw [if_pos hp]
            simp only [c_rc25, hk, ht, wr_some, true_and, f_isFull hk ht h08, if_b2i]
            have tail3 : ∀ a cp', (t.length = cK k.1 → K a (-4) (hJ cp' (hM m))) → (t.length < cK k.1 → K a (nI t.length + 1) (hJ cp' (hM (mMore m (4 * j) (8 * (4 * j) + t.length) v2 v3 (nI t.length + 1))))) → F_X12_more_42 d2 mo (nI j) v2 v3 (hJ cp' (hM m)) 0 (fun b h => K a b h) := by
              intro a cp' q1 q2
              refine tail2 a cp' ?_
              rw [if_pos hp]
              cases hq : k.1
              · rw [hq] at q1 q2 ed1
                rw [if_pos rfl]
                exact g_more92 (c := 6) hKm hKd hk k2 ht (by omega) (by simpa using ed1) q1 q2
              · rw [hq] at q1 q2 ed1
                rw [if_neg (by decide)]
                exact g_more92 (c := 8) hKm hKd hk k2 ht (by omega) (by simpa using ed1) q1 q2
            have hcK : ∀ i, i < 3 → t.length + (tl j 0 i).length = cK k.1 := fun i hi => hT i hi
            rcases y0 : tl j 0 0 with _ | ⟨b0, r0⟩
            · have := hcK 0 (by omega)
              rw [y0] at this
              simp only [List.isEmpty_nil, Bool.true_eq_false, if_false]
              refine hW _ ⟨m_rc, (tail _ _).mpr (tail3 _ _ (fun _ => ?_) (fun z => absurd z (by simp at this; omega)))⟩
              exact hK _ _ _ _ _ _ _ _ _ I
            · have q0 := hcK 0 (by omega)
              rw [y0] at q0
              have q1 := hcK 1 (by omega)
              have q2 := hcK 2 (by omega)
              simp only [List.length_cons] at q0
              rcases y1 : tl j 0 1 with _ | ⟨b1, r1⟩
              · rw [y1] at q1; simp at q1; omega
              · rcases y2 : tl j 0 2 with _ | ⟨b2, r2⟩
                · rw [y2] at q2; simp at q2; omega
                · simp only [List.isEmpty_cons, if_true]
                  refine f_edAdd hk ht h08 y0 y1 y2 ?_
                  have hl := (List.getElem?_eq_some_iff.mp hk).1
                  have he := (List.getElem?_eq_some_iff.mp ht).1
                  have z1 : (ks.set j (kEd k 0 (t ++ [(v2, v3, b2)])))[j]? = some (kEd k 0 (t ++ [(v2, v3, b2)])) := List.getElem?_set_self hl
                  have z2 : (kEd k 0 (t ++ [(v2, v3, b2)])).2.2.2.2[0]? = some (t ++ [(v2, v3, b2)]) := List.getElem?_set_self he
                  simp only [c_g25_4, z1, z2, wr_some]
                  refine hW _ ⟨m_rc, (tail _ _).mpr (tail3 _ _ (fun z => absurd z (by omega)) (fun _ => ?_))⟩
                  rw [show nI (t ++ [(v2, v3, b2)]).length = nI t.length + 1 by simp [nI_1]]
                  exact hK _ _ _ _ _ _ _ _ _ (I.more hk hs ht (fun x hx2 => by obtain ⟨i, hi⟩ := List.getElem?_of_mem hx2; exact plc_none hp hi) (fun hq => by simpa [hq] using hln) y0 y1 y2)
          · rw [if_neg hp]
            refine hW _ ⟨m_rc, (tail _ _).mpr (tail2 _ _ ?_)⟩
            rw [if_neg hp]
            exact hK _ _ _ _ _ _ _ _ _ I
        · simp only [if_b2i, Option.isSome_some, Option.isSome_none, Bool.true_eq_false, Bool.false_eq_true, if_false, if_true, true_and]
          refine hW _ ⟨m_rc, (tail _ _).mpr ?_⟩
          unfold F_X12_more_42
          simp only [m_g12, m_a12, a3, a4, hs, if_b2i, Option.isSome_some, Option.isSome_none, Bool.true_eq_false, Bool.false_eq_true, if_false, if_true, true_and]
          exact hK _ _ _ _ _ _ _ _ _ I
end OpMore5
