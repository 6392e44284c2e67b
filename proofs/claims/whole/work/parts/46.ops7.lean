section Ops7
variable {rs : List RowT} {ks : List KindT} {vs : List ValT} {tl : Nat → Nat → Nat → List Int32} {sc : Nat → Int32} {wI : Nat → List Int32} {wL : Nat → List Int64} {m : MS} {d d2 u : Nat} {v1 v2 v3 v5 v6 : Int32} {v4 : Int64} {W : Prop → Prop}
variable {cp mp : MH}
theorem g_told4 (h : mKinds ks m) (hKd : ks.length ≤ 16) {Q : Int32 → MH → Prop} (hq : Q (nI (ks.filter (fun k => k.2.2.1)).length) (hJ cp (hM m))) : L_X12_told_64 d mo 0 0 (hJ cp (hM m)) u Q := by
  have key : ∀ n i : Nat, i + n = ks.length → L_X12_told_64 d mo (nI ((ks.take i).filter (fun k => k.2.2.1)).length) (nI i) (hJ cp (hM m)) u Q := by
    intro n
    induction n with
    | zero =>
      intro i hi
      unfold L_X12_told_64
      refine E_X12_told_64 ?_
      unfold F_X12_told_64
      simp only [m_g9, h.1]
      rw [if_pos (nI_le (by omega) (by omega)), List.take_of_length_le (by omega)]
      exact hq
    | succ n ih =>
      intro i hi
      unfold L_X12_told_64
      refine E_X12_told_64 ?_
      unfold F_X12_told_64
      obtain ⟨k, hk⟩ := get_lt (show i < ks.length by omega)
      obtain ⟨-, -, -, ⟨a3, a4⟩, -⟩ := h.at hKd hk
      simp only [m_g9, h.1, m_g12, m_a12, a3, a4, true_and, if_b2i]
      rw [if_neg (nI_ge (by omega) (by omega))]
      have ih2 := ih (i + 1) (by omega)
      have hi2 := List.getElem?_eq_some_iff.mp hk
      rw [List.take_add_one, hk, List.filter_append, List.length_append] at ih2
      rcases hs : k.2.2.1 with _ | _
      · simp only [if_true]
        rw [show ∀ x : Int32, x + 0 = x from fun x => by simp, nI_1]
        simpa [hs] using ih2
      · simp only [Bool.true_eq_false, if_false]
        rw [nI_1, nI_1]
        simpa [hs] using ih2
  have := key ks.length 0 (by omega)
  simpa [nI_0] using this
theorem op_told (I : Inv rs ks vs tl sc wI wL m) (hW : ∀ X, X → W X) {K : Int32 → Int32 → MH → Prop} (hK : KI K) : F_X11_told d br v1 (hX rs ks vs tl sc wI wL m) u (fun a h => W (rc h mo 11 ∧ F_X12_told d2 mo v1 h 0 (fun b h => K a b h))) := by
  have hR := I.1.1.1; have hV := I.1.2.2.2.1.1; have hKd := I.1.2.1.1; have hRm := I.2.1; have hKm := I.2.2.1; have hVm := I.2.2.2.1; have hMm := I.2.2.2.2
  have hS := I.1.2.2.2.2.1.2.2.2.2.2.2.2.2.2.2.1
  unfold F_X11_told
  simp only [c_g1_0, c_g2_2, c_g2_3, c_g1_8, c_g1_9, c_g1_10, c_g1_13]
  have tail : ∀ a, K a (if v1 = 0 then nI rs.length else if v1 = 1 then nI ks.length else if v1 = 2 then sc 0 else if v1 = 3 then nI vs.length else if v1 = 4 then sc 1 else if v1 = 5 then sc 4 else -2) (hX rs ks vs tl sc wI wL m) → (F_X12_told d2 mo v1 (hX rs ks vs tl sc wI wL m) 0 (fun b h => K a b h)) := by
    intro a ha
    unfold F_X12_told
    simp only [m_g3, hRm.1, m_g9, hKm.1, m_g19, hMm.2.2.2.1, m_g24, hVm.1, m_g1, hMm.2.1]
    by_cases e4 : v1 = 4
    · subst e4
      simp only [show ¬ (4 : Int32) = 0 by decide, show ¬ (4 : Int32) = 1 by decide, show ¬ (4 : Int32) = 2 by decide, show ¬ (4 : Int32) = 3 by decide, if_true, if_false] at ha ⊢
      rw [hS] at ha
      exact g_told4 hKm hKd ha
    · simp only [e4, if_false] at ha ⊢
      by_cases e0 : v1 = 0
      · simpa [e0] using ha
      · by_cases e1 : v1 = 1
        · simpa [e1] using ha
        · by_cases e2 : v1 = 2
          · simpa [e2] using ha
          · by_cases e3 : v1 = 3
            · simpa [e3] using ha
            · by_cases e5 : v1 = 5
              · simpa [e5] using ha
              · simpa [e0, e1, e2, e3, e5] using ha
  by_cases e0 : v1 = 0
  · rw [if_pos e0]; refine hW _ ⟨m_rc, tail _ ?_⟩; rw [if_pos e0]; exact hK _ _ _ _ _ _ _ _ _ I
  · rw [if_neg e0]
    by_cases e1 : v1 = 1
    · rw [if_pos e1]; refine hW _ ⟨m_rc, tail _ ?_⟩; rw [if_neg e0, if_pos e1]; exact hK _ _ _ _ _ _ _ _ _ I
    · rw [if_neg e1]
      by_cases e2 : v1 = 2
      · rw [if_pos e2]; refine hW _ ⟨m_rc, tail _ ?_⟩; rw [if_neg e0, if_neg e1, if_pos e2]; exact hK _ _ _ _ _ _ _ _ _ I
      · rw [if_neg e2]
        by_cases e3 : v1 = 3
        · rw [if_pos e3]; refine hW _ ⟨m_rc, tail _ ?_⟩; rw [if_neg e0, if_neg e1, if_neg e2, if_pos e3]; exact hK _ _ _ _ _ _ _ _ _ I
        · rw [if_neg e3]
          by_cases e4 : v1 = 4
          · rw [if_pos e4]; refine hW _ ⟨m_rc, tail _ ?_⟩; rw [if_neg e0, if_neg e1, if_neg e2, if_neg e3, if_pos e4]; exact hK _ _ _ _ _ _ _ _ _ I
          · rw [if_neg e4]
            by_cases e5 : v1 = 5
            · rw [if_pos e5]; refine hW _ ⟨m_rc, tail _ ?_⟩; rw [if_neg e0, if_neg e1, if_neg e2, if_neg e3, if_neg e4, if_pos e5]; exact hK _ _ _ _ _ _ _ _ _ I
            · rw [if_neg e5]; refine hW _ ⟨m_rc, tail _ ?_⟩; rw [if_neg e0, if_neg e1, if_neg e2, if_neg e3, if_neg e4, if_neg e5]; exact hK _ _ _ _ _ _ _ _ _ I
theorem op_byteAt (I : Inv rs ks vs tl sc wI wL m) (hW : ∀ X, X → W X) {K : Int32 → Int32 → MH → Prop} (hK : KI K) : F_X11_byteAt d br v1 (hX rs ks vs tl sc wI wL m) u (fun a h => W (rc h mo 11 ∧ F_X12_byteAt d2 mo v1 h 0 (fun b h => K a b h))) := by
  have hR := I.1.1.1; have hV := I.1.2.2.2.1.1; have hKd := I.1.2.1.1; have hRm := I.2.1; have hKm := I.2.2.1; have hVm := I.2.2.2.1; have hMm := I.2.2.2.2
  obtain ⟨-, -, -, -, -, l3, -, l5, -, -, -, n, n4, hn⟩ := I.1.2.2.2.2.1
  obtain ⟨-, -, -, -, -, -, -, -, -, -, -, -, -, -, -, -, l44, m45, mtx⟩ := hMm
  rw [hn] at m45
  unfold F_X11_byteAt
  simp only [c_g1_4, c_g11_1]
  have tail : ∀ a cp', (match ix v1 n with
      | none => K a (-5) (hJ cp' (hM m))
      | some i => K a (((if sc 7 = 0 then wI 3 else wI 5) : List Int32).getD i 0) (hJ cp' (hM m))) → (F_X12_byteAt d2 mo v1 (hJ cp' (hM m)) 0 (fun b h => K a b h)) := by
    intro a cp' ha
    unfold F_X12_byteAt
    simp only [m_g45, m45, f_in, wi_ix (show n < 2 ^ 30 by omega), if_b2i]
    rcases hx : ix v1 n with _ | i
    · rw [hx] at ha; simp only [if_b2i, Option.isSome_some, Option.isSome_none, Bool.true_eq_false, Bool.false_eq_true, if_false, if_true, true_and]; exact ha
    · rw [hx] at ha
      obtain ⟨h1, rfl, -, -⟩ := ix_some hx
      simp only [if_b2i, Option.isSome_some, Option.isSome_none, Bool.true_eq_false, Bool.false_eq_true, if_false, if_true, true_and, m_g44, m_a44]
      refine ⟨(inb_nI (by omega)).mpr (by omega), ?_⟩
      rw [rdI_nI (by omega), mtx i (by rw [m45]; exact nI_lt h1 (by omega)) (by omega)]
      exact ha
  by_cases e7 : sc 7 = 0
  · simp only [e7, if_true] at hn tail ⊢
    simp only [c_g12_2, hn, f_isWithin, wi_ix (show n < 2 ^ 30 by omega), if_b2i]
    rcases hx : ix v1 n with _ | i
    · simp only [if_b2i, Option.isSome_some, Option.isSome_none, Bool.true_eq_false, Bool.false_eq_true, if_false, if_true, true_and]
      refine hW _ ⟨m_rc, tail _ _ ?_⟩
      rw [hx]; exact hK _ _ _ _ _ _ _ _ _ I
    · obtain ⟨h1, rfl, -, -⟩ := ix_some hx
      simp only [if_b2i, Option.isSome_some, Option.isSome_none, Bool.true_eq_false, Bool.false_eq_true, if_false, if_true, true_and, c_g12_0, c_a13]
      refine ⟨(inb_nI (by omega)).mpr (by omega), hW _ ⟨m_rc, tail _ _ ?_⟩⟩
      rw [hx, rdI_nI (by omega)]
      exact hK _ _ _ _ _ _ _ _ _ I
  · simp only [e7, if_false] at hn tail ⊢
    simp only [c_g15_2, hn, f_isWithin, wi_ix (show n < 2 ^ 30 by omega), if_b2i]
    rcases hx : ix v1 n with _ | i
    · simp only [if_b2i, Option.isSome_some, Option.isSome_none, Bool.true_eq_false, Bool.false_eq_true, if_false, if_true, true_and]
      refine hW _ ⟨m_rc, tail _ _ ?_⟩
      rw [hx]; exact hK _ _ _ _ _ _ _ _ _ I
    · obtain ⟨h1, rfl, -, -⟩ := ix_some hx
      simp only [if_b2i, Option.isSome_some, Option.isSome_none, Bool.true_eq_false, Bool.false_eq_true, if_false, if_true, true_and, c_g15_0, c_a16]
      refine ⟨(inb_nI (by omega)).mpr (by omega), hW _ ⟨m_rc, tail _ _ ?_⟩⟩
      rw [hx, rdI_nI (by omega)]
      exact hK _ _ _ _ _ _ _ _ _ I
theorem wi_05 {v : Int32} : wi v 0 5 = (ix v 6).isSome := wi_ix (n := 6) (by omega)
/-- a place of the tray gets something -/
theorem Inv.tray (I : Inv rs ks vs tl sc wI wL m) {i : Nat} (hi : i < 6) (l lm : Int32) (x xm : Int64) (hl : lm = (if l = -1 then -5 else l)) (hx : l ≠ -1 → xm = x) (ho : l = -1 ∨ (wi l 0 7 = true ∧ numOK l x) ∨ (l = 8 ∧ ∃ j : Nat, j < vs.length ∧ x = lN j) ∨ (l = 9 ∧ ∃ j : Nat, j < rs.length ∧ x = lN j)) :
    Inv rs ks vs tl sc (up wI 2 ((wI 2).set i l)) (up wL 0 ((wL 0).set i x)) (mB (mA m 22 ((m.2.1 22).set i lm)) 23 ((m.2.2 23).set i xm)) := by
  obtain ⟨⟨a1, a2, a3, a4, a5, a6⟩, b1, b2, b3, b4⟩ := I
  obtain ⟨w0, w1, w2, q0, q1, w3, w4, w5, w6, s1, s2, s3⟩ := a5
  obtain ⟨c1, c2, c3, c4, c5, c6, c7, c8, c9, c10⟩ := b4
  refine ⟨⟨a1, a2, a3, a4, ⟨by simpa [up] using w0, by simpa [up] using w1, by simp [up, w2], by simp [up, q0], by simpa [up] using q1, by simpa [up] using w3, by simpa [up] using w4, by simpa [up] using w5, by simpa [up] using w6, by simpa [up] using s1, s2, s3⟩, fun n hn => ?_⟩, by simpa [mRows, mB, mA, up] using b1, by simpa [mKinds, mB, mA, up] using b2, by simpa [mVals, mB, mA, up] using b3, ⟨c1, c2, c3, c4, by simpa [mB, mA, up] using c5, by simpa [mB, mA, up] using c6, by simp [mB, mA, up, c7], by simp [mB, mA, up, c8], fun n hn => ?_, by simpa [mB, mA, up] using c10⟩⟩
  · simp only [up_s, lset_getD]
    by_cases e : i = n
    · subst e
      rw [if_pos ⟨rfl, by omega⟩, if_pos ⟨rfl, by omega⟩]
      exact ho
    · rw [if_neg (fun z => e z.1), if_neg (fun z => e z.1)]
      exact a6 n hn
  · show ((up m.2.1 22 ((m.2.1 22).set i lm)) 22).getD n 0 = _ ∧ (_ → ((up m.2.2 23 ((m.2.2 23).set i xm)) 23).getD n 0 = _)
    simp only [up_s, lset_getD]
    by_cases e : i = n
    · subst e
      simp only [c7, c8, w2, q0, hi, eq_self_iff_true, and_self, if_true]
      exact ⟨hl, hx⟩
    · simp only [e, false_and, if_false]
      exact c9 n hn
theorem up_id {α : Type} {f : Nat → α} {k : Nat} : up f k (f k) = f := by funext j; by_cases h : j = k <;> simp [up, h]
theorem op_give (I : Inv rs ks vs tl sc wI wL m) (hW : ∀ X, X → W X) {K : Int32 → Int32 → MH → Prop} (hK : KI K) : F_X11_give d br v1 v2 v4 (hX rs ks vs tl sc wI wL m) u (fun a h => W (rc h mo 11 ∧ F_X12_give d2 mo v1 v2 v4 h 0 (fun b h => K a b h))) := by
  have hR := I.1.1.1; have hV := I.1.2.2.2.1.1; have hKd := I.1.2.1.1; have hRm := I.2.1; have hKm := I.2.2.1; have hVm := I.2.2.2.1; have hMm := I.2.2.2.2
  obtain ⟨-, -, w2, q0, -⟩ := I.1.2.2.2.2.1
  have c7 := hMm.2.2.2.2.2.2.1
  have c8 := hMm.2.2.2.2.2.2.2.1
  unfold F_X11_give
  simp only [f_isPlace, f_isNumber, if_b2i, wi_05]
  rcases hx : ix v1 6 with _ | i
  · simp only [if_b2i, Option.isSome_some, Option.isSome_none, Bool.true_eq_false, Bool.false_eq_true, if_false, if_true, true_and]
    refine hW _ ⟨m_rc, ?_⟩
    unfold F_X12_give
    simp only [f_in, wi_05, hx, if_b2i, Option.isSome_some, Option.isSome_none, Bool.true_eq_false, Bool.false_eq_true, if_false, if_true, true_and]
    exact hK _ _ _ _ _ _ _ _ _ I
  · obtain ⟨h1, rfl, -, h4⟩ := ix_some hx
    rcases hn : wi v2 0 7 with _ | _
    · simp only [if_b2i, Option.isSome_some, Option.isSome_none, Bool.true_eq_false, Bool.false_eq_true, if_false, if_true, true_and]
      refine hW _ ⟨m_rc, ?_⟩
      unfold F_X12_give
      simp only [f_in, wi_05, hx, hn, if_b2i, Option.isSome_some, Option.isSome_none, Bool.true_eq_false, Bool.false_eq_true, if_false, if_true, true_and]
      exact hK _ _ _ _ _ _ _ _ _ I
    · simp only [if_b2i, Option.isSome_some, Option.isSome_none, Bool.true_eq_false, Bool.false_eq_true, if_false, if_true, true_and, c_g1_1]
      refine f_come hn ?_
      unfold F_X9_place
      simp only [c_rc5, c_g5_0, c_g5_1, c_s6, c_s7, inb_ix, w2, q0, hx, h4, if_b2i, Option.isSome_some, Option.isSome_none, Bool.true_eq_false, Bool.false_eq_true, if_false, if_true, true_and]
      refine hW _ ⟨m_rc, ?_⟩
      unfold F_X12_give
      simp only [f_in, wi_05, hx, hn, if_b2i, Option.isSome_some, Option.isSome_none, Bool.true_eq_false, Bool.false_eq_true, if_false, if_true, true_and, m_g22, m_s22, inb_ix, c7, h4, m_g23]
      refine g_comes hn ?_
      have e23 : (mA m 22 ((m.2.1 22).set i v2)).2.2 23 = m.2.2 23 := rfl
      simp only [m_s23, inb_ix, e23, c8, hx, h4, if_b2i, Option.isSome_some, Option.isSome_none, Bool.true_eq_false, Bool.false_eq_true, if_false, if_true, true_and]
      refine hK _ _ _ _ _ _ _ _ _ (I.tray h1 v2 v2 _ _ ?_ (fun _ => rfl) (Or.inr (Or.inl ⟨hn, cm_ok hn⟩)))
      rw [if_neg]
      intro z
      rw [z] at hn
      exact absurd hn (by decide)
theorem f_hand97 {i : Nat} {l : Int32} (hi : i < 6) (w2 : (wI 2).length = 6) (q0 : (wL 0).length = 6) {Q : Int32 → MH → Prop} : F_X11_hand_97 d v2 (some (5, 0, 0)) (nI i) l (hJ (hC rs ks vs tl sc wI wL) mp) u Q ↔ Q 1 (hJ (hC rs ks vs tl sc (up wI 2 ((wI 2).set i l)) (up wL 0 ((wL 0).set i v2.toInt64))) mp) := by
  unfold F_X11_hand_97 F_X9_place
  have h4 : (nI i).toNatClampNeg = i := nI_clamp (by omega)
  simp only [c_rc5, c_g5_0, c_g5_1, c_s6, c_s7, inb_ix, w2, q0, ix_nI hi (by omega), h4, if_b2i, Option.isSome_some, Option.isSome_none, Bool.true_eq_false, Bool.false_eq_true, if_false, if_true, true_and]
theorem g_hand67 {i : Nat} {l : Int32} (hi : i < 6) (c7 : (m.2.1 22).length = 6) (c8 : (m.2.2 23).length = 6) {Q : Int32 → MH → Prop} : F_X12_hand_67 d mo (nI i) v2 (some (41, 22, 0)) (nI i) l (hJ cp (hM m)) u Q ↔ Q 1 (hJ cp (hM (mB (mA m 22 ((m.2.1 22).set i l)) 23 ((m.2.2 23).set i v2.toInt64)))) := by
  unfold F_X12_hand_67
  have h4 : (nI i).toNatClampNeg = i := nI_clamp (by omega)
  have e23 : (mA m 22 ((m.2.1 22).set i l)).2.2 23 = m.2.2 23 := rfl
  simp only [m_s22, m_g23, m_s23, inb_ix, e23, c7, c8, ix_nI hi (show 6 < 2 ^ 31 by omega), h4, if_b2i, Option.isSome_some, Option.isSome_none, Bool.true_eq_false, Bool.false_eq_true, if_false, if_true, true_and]
theorem op_hand (I : Inv rs ks vs tl sc wI wL m) (hW : ∀ X, X → W X) {K : Int32 → Int32 → MH → Prop} (hK : KI K) : F_X11_hand d br v1 v2 v3 (hX rs ks vs tl sc wI wL m) u (fun a h => W (rc h mo 11 ∧ F_X12_hand d2 mo v1 v2 v3 h 0 (fun b h => K a b h))) := by
  have hR := I.1.1.1; have hV := I.1.2.2.2.1.1; have hKd := I.1.2.1.1; have hRm := I.2.1; have hKm := I.2.2.1; have hVm := I.2.2.2.1; have hMm := I.2.2.2.2
  obtain ⟨-, -, w2, q0, -⟩ := I.1.2.2.2.2.1
  have c7 := hMm.2.2.2.2.2.2.1
  have c8 := hMm.2.2.2.2.2.2.2.1
  -- behind the look at the number
  have core : (v2 = -1 ∨ (v3 = 0 ∧ (ix v2 vs.length).isSome) ∨ (¬ v3 = 0 ∧ (ix v2 rs.length).isSome)) → (∀ (cp' : MH) (Q : Int32 → MH → Prop), F_X12_hand_30 d2 mo v1 v2 v3 (hJ cp' (hM m)) 0 Q → F_X12_hand d2 mo v1 v2 v3 (hJ cp' (hM m)) 0 Q) → F_X11_hand_55 d br v1 v2 v3 (hX rs ks vs tl sc wI wL m) u (fun a h => W (rc h mo 11 ∧ F_X12_hand d2 mo v1 v2 v3 h 0 (fun b h => K a b h))) := by
    intro hv hsub
    unfold F_X11_hand_55
    simp only [f_isPlace, if_b2i, wi_05, c_g1_1]
    rcases hx : ix v1 6 with _ | i
    · simp only [if_b2i, Option.isSome_some, Option.isSome_none, Bool.true_eq_false, Bool.false_eq_true, if_false, if_true, true_and]
      refine hW _ ⟨m_rc, hsub _ _ ?_⟩
      unfold F_X12_hand_30
      simp only [f_in, wi_05, hx, if_b2i, Option.isSome_some, Option.isSome_none, Bool.true_eq_false, Bool.false_eq_true, if_false, if_true, true_and]
      exact hK _ _ _ _ _ _ _ _ _ I
    · obtain ⟨h1, rfl, -, h4⟩ := ix_some hx
      simp only [if_b2i, Option.isSome_some, Option.isSome_none, Bool.true_eq_false, Bool.false_eq_true, if_false, if_true, true_and, f_hand97 h1 w2 q0]
      by_cases e : v2 = -1
      · subst e
        unfold F_X9_empty
        simp only [if_true, c_rc5, c_g5_0, c_s6, inb_ix, w2, hx, h4, if_b2i, Option.isSome_some, Option.isSome_none, Bool.true_eq_false, Bool.false_eq_true, if_false, if_true, true_and]
        refine hW _ ⟨m_rc, hsub _ _ ?_⟩
        unfold F_X12_hand_30
        simp only [f_in, wi_05, hx, if_b2i, Option.isSome_some, Option.isSome_none, Bool.true_eq_false, Bool.false_eq_true, if_false, if_true, true_and, m_g22, show ¬ (0 : Int32) ≤ -1 by decide, g_hand67 h1 c7 c8]
        have := I.tray h1 (-1) (-5) ((wL 0).getD i 0) ((-1 : Int32).toInt64) (by simp) (fun z => absurd rfl z) (Or.inl rfl)
        have e0 : (wL 0).set i ((wL 0).getD i 0) = wL 0 := by
          apply List.ext_getElem?
          intro q
          rw [List.getElem?_set]
          by_cases eq : i = q
          · subst eq; simp [q0, h1, List.getD_eq_getElem?_getD]
          · rw [if_neg eq]
        rw [e0, up_id] at this
        exact hK _ _ _ _ _ _ _ _ _ this
      · simp only [e, if_false]
        have tail : ∀ (l : Int32) (cp' : MH) (Q : Int32 → MH → Prop), l = (if v3 = 0 then 8 else 9) → Q 1 (hJ cp' (hM (mB (mA m 22 ((m.2.1 22).set i l)) 23 ((m.2.2 23).set i v2.toInt64)))) → F_X12_hand_30 d2 mo (nI i) v2 v3 (hJ cp' (hM m)) 0 Q := by
          intro l cp' Q hl hq
          unfold F_X12_hand_30
          have hpos : (0 : Int32) ≤ v2 := by
            rcases hv with z | ⟨-, z⟩ | ⟨-, z⟩
            · exact absurd z e
            · obtain ⟨q, hq⟩ := Option.isSome_iff_exists.mp z
              obtain ⟨z1, rfl, -, -⟩ := ix_some hq
              exact nI_pos' (by omega)
            · obtain ⟨q, hq⟩ := Option.isSome_iff_exists.mp z
              obtain ⟨z1, rfl, -, -⟩ := ix_some hq
              exact nI_pos' (by omega)
          simp only [f_in, wi_05, hx, if_b2i, Option.isSome_some, Option.isSome_none, Bool.true_eq_false, Bool.false_eq_true, if_false, if_true, true_and, m_g22, hpos, g_hand67 h1 c7 c8]
          subst hl
          by_cases e3 : v3 = 0
          · simpa [e3] using hq
          · simpa [e3] using hq
        by_cases e3 : v3 = 0
        · simp only [e3, if_true] at *
          refine hW _ ⟨m_rc, hsub _ _ (tail 8 _ _ rfl ?_)⟩
          rcases hv with z | z | ⟨z, -⟩
          · exact absurd z e
          · obtain ⟨q, hq⟩ := Option.isSome_iff_exists.mp z.2
            obtain ⟨z1, rfl, -, -⟩ := ix_some hq
            refine hK _ _ _ _ _ _ _ _ _ (I.tray h1 8 8 _ _ (by decide) (fun _ => rfl) (Or.inr (Or.inr (Or.inl ⟨rfl, q, z1, nI_l (by omega)⟩))))
          · exact absurd trivial z
        · simp only [e3, if_false] at *
          refine hW _ ⟨m_rc, hsub _ _ (tail 9 _ _ rfl ?_)⟩
          rcases hv with z | z | ⟨-, z⟩
          · exact absurd z e
          · exact absurd z.1 (by simp)
          · obtain ⟨q, hq⟩ := Option.isSome_iff_exists.mp z
            obtain ⟨z1, rfl, -, -⟩ := ix_some hq
            refine hK _ _ _ _ _ _ _ _ _ (I.tray h1 9 9 _ _ (by decide) (fun _ => rfl) (Or.inr (Or.inr (Or.inr ⟨rfl, q, z1, nI_l (by omega)⟩))))
  have unk : ¬ v2 = -1 → (v3 = 0 → ix v2 vs.length = none) → (¬ v3 = 0 → ix v2 rs.length = none) → W (rc (hX rs ks vs tl sc wI wL m) mo 11 ∧ F_X12_hand d2 mo v1 v2 v3 (hX rs ks vs tl sc wI wL m) 0 (fun b h => K (-1) b h)) := by
    intro e z1 z2
    refine hW _ ⟨m_rc, ?_⟩
    unfold F_X12_hand
    simp only [e, if_false, m_rcT, g_isValue hV hVm.1, g_isRow hR hRm.1, if_b2i, Option.isSome_some, Option.isSome_none, Bool.true_eq_false, Bool.false_eq_true, if_false, if_true, true_and]
    by_cases e3 : v3 = 0
    · simp only [e3, z1 e3, if_b2i, Option.isSome_some, Option.isSome_none, Bool.true_eq_false, Bool.false_eq_true, if_false, if_true, true_and]; exact hK _ _ _ _ _ _ _ _ _ I
    · simp only [e3, z2 e3, if_b2i, Option.isSome_some, Option.isSome_none, Bool.true_eq_false, Bool.false_eq_true, if_false, if_true, true_and]; exact hK _ _ _ _ _ _ _ _ _ I
  unfold F_X11_hand F_X11_hand_41
  simp only [c_g1_0, c_rc2, true_and, f_findRow hR, f_findValue hV, ixL_i]
  by_cases e : v2 = -1
  · have hcore := core (Or.inl e) (fun cp' Q h => by unfold F_X12_hand; rw [if_pos e]; exact h)
    simp only [e, if_true] at hcore ⊢
    by_cases e3 : v3 = 0
    · simp only [e3, if_true] at hcore ⊢
      cases ix (-1) vs.length <;> exact hcore
    · simp only [e3, if_false]
      cases ix (-1) rs.length <;> exact hcore
  · simp only [e, if_false]
    by_cases e3 : v3 = 0
    · rw [if_pos e3]
      rcases hx : ix v2 vs.length with _ | q
      · simp only [Option.map_none, nl_none, if_true]
        exact unk e (fun _ => hx) (fun z => absurd e3 z)
      · simp only [Option.map_some, nl_some, show ¬ (1 : Int32) = 0 by decide, if_false]
        refine core (Or.inr (Or.inl ⟨e3, by rw [hx]; rfl⟩)) (fun cp' Q h => ?_)
        unfold F_X12_hand
        simp only [e, if_false, e3, if_true, m_rcT, g_isValue hV hVm.1, hx, if_b2i, Option.isSome_some, Option.isSome_none, Bool.true_eq_false, Bool.false_eq_true, if_false, if_true, true_and]
        rw [e3] at h
        exact h
    · rw [if_neg e3]
      rcases hx : ix v2 rs.length with _ | q
      · simp only [Option.map_none, nl_none, if_true]
        exact unk e (fun z => absurd z e3) (fun _ => hx)
      · simp only [Option.map_some, nl_some, show ¬ (1 : Int32) = 0 by decide, if_false]
        refine core (Or.inr (Or.inr ⟨e3, by rw [hx]; rfl⟩)) (fun cp' Q h => ?_)
        unfold F_X12_hand
        simp only [e, if_false, e3, m_rcT, g_isRow hR hRm.1, hx, if_b2i, Option.isSome_some, Option.isSome_none, Bool.true_eq_false, Bool.false_eq_true, if_false, if_true, true_and]
        exact h
end Ops7
