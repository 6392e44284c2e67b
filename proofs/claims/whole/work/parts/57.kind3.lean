section OpKind3
variable {rs : List RowT} {ks : List KindT} {vs : List ValT} {tl : Nat → Nat → Nat → List Int32} {sc : Nat → Int32} {wI : Nat → List Int32} {wL : Nat → List Int64} {m : MS} {d d2 u : Nat} {v1 v2 v3 v5 v6 : Int32} {v4 : Int64} {W : Prop → Prop}
variable {cp mp h : MH}
theorem ValsOK.kind {k : KindT} (h : ValsOK rs ks vs) : ValsOK rs (ks ++ [k]) vs := by
  refine ⟨h.1, fun j v hj => ?_⟩
  obtain ⟨k', t, a1, a2⟩ := h.2 j v hj
  exact ⟨k', t, app_get a1, a2⟩
def mKindAdd (m : MS) (n : Nat) (b w : Int32) : MS := mI (mA (mA m 10 ((m.2.1 10).set n b)) 11 ((m.2.1 11).set n w)) 9 (nI n + 1)
theorem Inv.kind (I : Inv rs ks vs tl sc wI wL m) {b : Bool} {w : Int32} (hr : ks.length < 16) (hw : (if b then wi w 0 3 else wi w 0 4) = true) : Inv rs (ks ++ [(b, w, false, 0, [[]])]) vs (tlN tl ks.length (cK b)) sc wI wL (mKindAdd m ks.length (b2i b) w) := by
  obtain ⟨⟨a1, a2, a3, a4, a5, a6⟩, b1, b2, b3, b4⟩ := I
  refine ⟨⟨a1, ⟨by simp; omega, fun k hk => ?_⟩, fun j k hk e t ht i hi => ?_, a4.kind, ?_, a6⟩, by simpa [mKindAdd, mRows, mI, mA, up] using b1, ?_, by simpa [mKindAdd, mVals, mI, mA, up] using b3, by simpa [mKindAdd, mMisc, mI, mA, up] using b4⟩
  · rcases List.mem_append.mp hk with z | z
    · exact a2.2 k z
    · rw [List.mem_singleton.mp z]
      refine ⟨by simp, by simp, fun _ => ⟨rfl, rfl⟩, fun t ht => ?_, Nat.zero_le _, hw, fun _ z => by cases z⟩
      have : t = [] := by simpa using ht
      subst this
      exact ⟨Nat.zero_le _, List.nodup_nil, fun _ x hx => by cases hx⟩
  · rcases app_case hk with z | ⟨rfl, rfl⟩
    · have := (List.getElem?_eq_some_iff.mp z).1
      unfold tlN
      rw [if_neg (by omega)]
      exact a3 j k z e t ht i hi
    · have : t = [] := by
        have := List.mem_of_getElem? ht
        simpa using this
      subst this
      simp [tlN, cK]
  · obtain ⟨w0, w1, w2, q0, q1, w3, w4, w5, w6, s1, s2, s3⟩ := a5
    exact ⟨w0, w1, w2, q0, q1, w3, w4, w5, w6, s1, by simpa [List.filter_append] using s2, s3⟩
  · obtain ⟨c0, c1, c2, c3, c4, c5, c6, c7, c8, c9, c10, c11⟩ := b2
    simp only [mKindAdd, mKinds, mA_1, mB_1, mI_1, mI_21, mI_22, mA_21, mA_22, mB_21, mB_22, Nat.reduceEqDiff, Nat.reduceEqDiff, reduceCtorEq, if_false, if_true]
    refine ⟨by simp [nI_1], by simpa using c1, by simpa using c2, c3, c4, c5, c6, c7, c8, c9, fun j k hk => ?_, fun j h1 h2 => ?_⟩
    · simp only [lset_getD]
      rcases app_case hk with z | ⟨rfl, rfl⟩
      · have hlt := (List.getElem?_eq_some_iff.mp z).1
        rw [if_neg (by omega), if_neg (by omega)]
        exact c10 j k z
      · rw [if_pos ⟨rfl, by omega⟩, if_pos ⟨rfl, by omega⟩]
        obtain ⟨d1, d2, d3, d4⟩ := c11 ks.length (Nat.le_refl _) hr
        refine ⟨rfl, rfl, d1, d2, d3, fun e t ht => ?_⟩
        have he : e = 0 := by
          have := (List.getElem?_eq_some_iff.mp ht).1
          simpa using this
        subst he
        have : t = [] := by
          have := List.mem_of_getElem? ht
          simpa using this
        subst this
        exact ⟨d4, fun i x hx => by cases hx⟩
    · have : ks.length + 1 ≤ j := by simpa using h1
      exact c11 j (by omega) h2
theorem g_newKind (hm : mKinds ks m) (hk : ks.length ≤ 16) {b : Bool} {w : Int32} {Q : Int32 → MH → Prop} (H1 : ks.length = 16 → Q (-4) (hJ cp (hM m))) (H2 : ks.length < 16 → Q (nI ks.length) (hJ cp (hM (mKindAdd m ks.length (b2i b) w)))) : F_X12_newKind d mo (b2i b) w (hJ cp (hM m)) u Q := by
  obtain ⟨c0, c1, c2, -⟩ := hm
  unfold F_X12_newKind
  simp only [m_g9, c0]
  by_cases q : ks.length = 16
  · rw [if_pos (by rw [q]; rfl)]; exact H1 q
  · rw [if_neg (show ¬ nI ks.length = 16 from fun e => q ((nI_eq (by omega) (by omega)).mp e))]
    have eb : vp_nar .boolean (b2i b) = b2i b := by cases b <;> rfl
    simp only [m_g10, m_g9, m_s10, c0, inb_nI (show ks.length < 2 ^ 31 by omega), c1, m_g11, m_s11, c2, m_p9, nI_clamp (show ks.length < 2 ^ 31 by omega), mA_1, mB_1, mI_1, mI_21, mI_22, mA_21, mA_22, mB_21, mB_22, Nat.reduceEqDiff, Nat.reduceEqDiff, reduceCtorEq, if_false, if_true, eb]
    refine ⟨by omega, by omega, ?_⟩
    rw [show nI ks.length + 1 - 1 = nI ks.length by rw [nI_1, nI_pred]]
    exact H2 (by omega)
theorem op_record (I : Inv rs ks vs tl sc wI wL m) (hW : ∀ X, X → W X) {K : Int32 → Int32 → MH → Prop} (hK : KI K) (hu : 200 ≤ u) : F_X11_record (d + 3) br v1 (hX rs ks vs tl sc wI wL m) u (fun a h => W (rc h mo 11 ∧ F_X12_record d2 mo v1 h 0 (fun b h => K a b h))) := by
  have hR := I.1.1.1; have hV := I.1.2.2.2.1.1; have hKd := I.1.2.1.1; have hRm := I.2.1; have hKm := I.2.2.1; have hVm := I.2.2.2.1; have hMm := I.2.2.2.2
  unfold F_X11_record
  simp only [f_isWithin, if_b2i]
  rcases hl : wi v1 0 4 with _ | _
  · simp only [if_b2i, Option.isSome_some, Option.isSome_none, Bool.true_eq_false, Bool.false_eq_true, if_false, if_true, true_and]
    refine hW _ ⟨m_rc, ?_⟩
    unfold F_X12_record
    simp only [f_in, hl, if_b2i, Option.isSome_some, Option.isSome_none, Bool.true_eq_false, Bool.false_eq_true, if_false, if_true, true_and]
    exact hK _ _ _ _ _ _ _ _ _ I
  · simp only [if_b2i, Option.isSome_some, Option.isSome_none, Bool.true_eq_false, Bool.false_eq_true, if_false, if_true, true_and, c_rc1]
    refine s_newKind (b := false) hKd hu (fun q => ?_) (fun q => ?_)
    · refine hW _ ⟨m_rc, ?_⟩
      unfold F_X12_record
      simp only [f_in, hl, if_b2i, Option.isSome_some, Option.isSome_none, Bool.true_eq_false, Bool.false_eq_true, if_false, if_true, true_and, m_rcT]
      refine g_newKind (b := false) hKm hKd (fun _ => ?_) (fun z => absurd z (by omega))
      exact hK _ _ _ _ _ _ _ _ _ I
    · refine hW _ ⟨m_rc, ?_⟩
      unfold F_X12_record
      simp only [f_in, hl, if_b2i, Option.isSome_some, Option.isSome_none, Bool.true_eq_false, Bool.false_eq_true, if_false, if_true, true_and, m_rcT]
      refine g_newKind (b := false) hKm hKd (fun z => absurd z (by omega)) (fun _ => ?_)
      exact hK _ _ _ _ _ _ _ _ _ (I.kind q (by simpa using hl))
theorem op_constants (I : Inv rs ks vs tl sc wI wL m) (hW : ∀ X, X → W X) {K : Int32 → Int32 → MH → Prop} (hK : KI K) (hu : 200 ≤ u) : F_X11_constants (d + 3) br v1 (hX rs ks vs tl sc wI wL m) u (fun a h => W (rc h mo 11 ∧ F_X12_constants d2 mo v1 h 0 (fun b h => K a b h))) := by
  have hR := I.1.1.1; have hV := I.1.2.2.2.1.1; have hKd := I.1.2.1.1; have hRm := I.2.1; have hKm := I.2.2.1; have hVm := I.2.2.2.1; have hMm := I.2.2.2.2
  unfold F_X11_constants
  simp only [f_isWithin, if_b2i]
  rcases hl : wi v1 0 3 with _ | _
  · simp only [if_b2i, Option.isSome_some, Option.isSome_none, Bool.true_eq_false, Bool.false_eq_true, if_false, if_true, true_and]
    refine hW _ ⟨m_rc, ?_⟩
    unfold F_X12_constants
    simp only [f_in, hl, if_b2i, Option.isSome_some, Option.isSome_none, Bool.true_eq_false, Bool.false_eq_true, if_false, if_true, true_and]
    exact hK _ _ _ _ _ _ _ _ _ I
  · simp only [if_b2i, Option.isSome_some, Option.isSome_none, Bool.true_eq_false, Bool.false_eq_true, if_false, if_true, true_and, c_rc1]
    refine s_newKind (b := true) hKd hu (fun q => ?_) (fun q => ?_)
    · refine hW _ ⟨m_rc, ?_⟩
      unfold F_X12_constants
      simp only [f_in, hl, if_b2i, Option.isSome_some, Option.isSome_none, Bool.true_eq_false, Bool.false_eq_true, if_false, if_true, true_and, m_rcT]
      refine g_newKind (b := true) hKm hKd (fun _ => ?_) (fun z => absurd z (by omega))
      exact hK _ _ _ _ _ _ _ _ _ I
    · refine hW _ ⟨m_rc, ?_⟩
      unfold F_X12_constants
      simp only [f_in, hl, if_b2i, Option.isSome_some, Option.isSome_none, Bool.true_eq_false, Bool.false_eq_true, if_false, if_true, true_and, m_rcT]
      refine g_newKind (b := true) hKm hKd (fun z => absurd z (by omega)) (fun _ => ?_)
      exact hK _ _ _ _ _ _ _ _ _ (I.kind q (by simpa using hl))
end OpKind3
