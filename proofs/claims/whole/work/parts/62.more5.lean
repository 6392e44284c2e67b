section OpMore5
variable {rs : List RowT} {ks : List KindT} {vs : List ValT} {tl : Nat → Nat → Nat → List Int32} {sc : Nat → Int32} {wI : Nat → List Int32} {wL : Nat → List Int64} {m : MS} {d d2 u : Nat} {v1 v2 v3 v5 v6 : Int32} {v4 : Int64} {W : Prop → Prop}
theorem pI_m1 {o : Option Nat} (h : ∀ i, o = some i → i < 100) : (pI o = -1 ↔ o = none) ∧ (pI o < 0 ↔ o = none) := by
  cases o with
  | none => exact ⟨⟨fun _ => rfl, fun _ => rfl⟩, ⟨fun _ => rfl, fun _ => by decide⟩⟩
  | some i =>
    have hi := h i rfl
    refine ⟨⟨fun z => ?_, fun z => by cases z⟩, ⟨fun z => absurd z (nI_pos (by omega)), fun z => by cases z⟩⟩
    have z' : nI i = -1 := z
    have : nI i < 0 := by rw [z']; decide
    exact absurd this (nI_pos (by omega))
theorem op_more (I : Inv rs ks vs tl sc wI wL m) (hW : ∀ X, X → W X) {K : Int32 → Int32 → MH → Prop} (hK : KI K) : F_X11_more d br v1 v2 v3 (hX rs ks vs tl sc wI wL m) u (fun a h => W (rc h mo 11 ∧ F_X12_more d2 mo v1 v2 v3 h 0 (fun b h => K a b h))) := by
  have hR := I.1.1.1; have hV := I.1.2.2.2.1.1; have hKd := I.1.2.1.1; have hRm := I.2.1; have hKm := I.2.2.1; have hVm := I.2.2.2.1; have hMm := I.2.2.2.2
  unfold F_X11_more
  simp only [c_rc1, true_and, f_findKind hKd]
  rcases hx : ix v1 ks.length with _ | j
  · simp only [Option.map_none, nl_none]
    refine hW _ ⟨m_rc, ?_⟩
    unfold F_X12_more
    simp only [m_rcT, g_isKind hKd hKm.1, hx, if_b2i, Option.isSome_some, Option.isSome_none, Bool.true_eq_false, Bool.false_eq_true, if_false, if_true, true_and]
    exact hK _ _ _ _ _ _ _ _ _ I
  · obtain ⟨h1, rfl, -, -⟩ := ix_some hx
    obtain ⟨k, hk⟩ := get_lt h1
    obtain ⟨k1, k2, k3, k4, k5, k6, k7⟩ := I.1.2.1.2 k (List.mem_of_getElem? hk)
    obtain ⟨hj16, ⟨a1, a2⟩, -, ⟨a3, a4⟩, -⟩ := hKm.at hKd hk
    simp only [Option.map_some, nl_some, f_isLabel, if_b2i]
    rcases hlb : wi v2 1 99 with _ | _
    · simp only [if_b2i, Option.isSome_some, Option.isSome_none, Bool.true_eq_false, Bool.false_eq_true, if_false, if_true, true_and]
      refine hW _ ⟨m_rc, ?_⟩
      unfold F_X12_more
      simp only [m_rcT, g_isKind hKd hKm.1, hx, f_in, hlb, if_b2i, Option.isSome_some, Option.isSome_none, Bool.true_eq_false, Bool.false_eq_true, if_false, if_true, true_and]
      exact hK _ _ _ _ _ _ _ _ _ I
    · simp only [if_b2i, Option.isSome_some, Option.isSome_none, Bool.true_eq_false, Bool.false_eq_true, if_false, if_true, true_and, c_rc23, hk, wr_some, f_takesLane hk, if_b2i]
      rcases hln : (k.1 || wi v3 0 9) with _ | _
      · simp only [if_b2i, Option.isSome_some, Option.isSome_none, Bool.true_eq_false, Bool.false_eq_true, if_false, if_true, true_and]
        refine hW _ ⟨m_rc, ?_⟩
        have c1 : k.1 = false := by cases hq : k.1 <;> simp [hq] at hln ⊢
        have c2 : wi v3 0 9 = false := by simpa [c1] using hln
        unfold F_X12_more
        simp only [m_rcT, g_isKind hKd hKm.1, hx, f_in, hlb, c2, if_b2i, Option.isSome_some, Option.isSome_none, Bool.true_eq_false, Bool.false_eq_true, if_false, if_true, true_and, m_g10, m_a10, a1, a2, c1]
        exact hK _ _ _ _ _ _ _ _ _ I
      · have tail : ∀ a cp', F_X12_more d2 mo (nI j) v2 v3 (hJ cp' (hM m)) 0 (fun b h => K a b h) ↔ F_X12_more_42 d2 mo (nI j) v2 v3 (hJ cp' (hM m)) 0 (fun b h => K a b h) := by
          intro a cp'
          unfold F_X12_more
          simp only [m_rcT, g_isKind hKd hKm.1, hx, f_in, hlb, if_b2i, Option.isSome_some, Option.isSome_none, Bool.true_eq_false, Bool.false_eq_true, if_false, if_true, true_and, m_g10, m_a10, a1, a2]
          cases hq : k.1
          · have c2 : wi v3 0 9 = true := by simpa [hq] using hln
            simp [c2]
          · simp
        simp only [if_b2i, Option.isSome_some, Option.isSome_none, Bool.true_eq_false, Bool.false_eq_true, if_false, if_true, true_and, f_newest hk k1 k2, c_g23_5, hk, wr_some]
        rcases hs : k.2.2.1 with _ | _
        · sorry
        · simp only [if_b2i, Option.isSome_some, Option.isSome_none, Bool.true_eq_false, Bool.false_eq_true, if_false, if_true, true_and]
          refine hW _ ⟨m_rc, (tail _ _).mpr ?_⟩
          unfold F_X12_more_42
          simp only [m_g12, m_a12, a3, a4, hs, if_b2i, Option.isSome_some, Option.isSome_none, Bool.true_eq_false, Bool.false_eq_true, if_false, if_true, true_and]
          exact hK _ _ _ _ _ _ _ _ _ I
end OpMore5
