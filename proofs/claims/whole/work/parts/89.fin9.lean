section Fin9
variable {rs : List RowT} {ks : List KindT} {vs : List ValT} {tl : Nat → Nat → Nat → List Int32} {sc : Nat → Int32} {wI : Nat → List Int32} {wL : Nat → List Int64} {m : MS} {d d2 u : Nat} {v1 v2 v3 v5 v6 : Int32} {v4 : Int64} {W : Prop → Prop}
variable {cp mp h : MH}
theorem pfit_15 {l : Int32} {x : Int64} (h : wi l 1 5 = true) : pfit rs vs l x := by
  have ne : ∀ c : Int32, wi c 1 5 = false → ¬ l = c := fun c hc z => by rw [z, hc] at h; cases h
  exact ⟨fun _ => ⟨fun z => absurd z (ne 0 (by decide)), fun z => absurd z (ne 6 (by decide)), fun z => absurd z (ne 7 (by decide))⟩, fun z => absurd z (ne 8 (by decide)), fun z => absurd z (ne 9 (by decide))⟩
theorem pfit_ruled {rule : Int32} {n : Nat} {L : Nat → Int32} {P P' : Nat → Int64} (h : ruled rule n L P = some P') {q : Nat} (hf : pfit rs vs (L q) (P q)) : pfit rs vs (L q) (P' q) := by
  by_cases hw : wi (L q) 1 5 = true
  · exact pfit_15 hw
  · rw [ruled_9 h hw]; exact hf
theorem g_finish (I : Inv rs ks vs tl sc wI wL m) {j e : Nat} {k : KindT} {t : List ET} {P : Nat → Int64} (hk : ks[j]? = some k) (hc : k.1 = false) (hs : k.2.2.1 = true) (ht : k.2.2.2.2[e]? = some t) (he : e + 1 = k.2.2.2.2.length) (h6 : t.length ≤ 6) (ho : ∀ x ∈ t, wi x.2.1 0 9 = true) (hP : ∀ q, q < t.length → (m.2.2 32).getD q 0 = P q) (hf : ∀ q, q < t.length → pfit rs vs (lnT t q) (P q)) (hV : vs.length < 200) {Q : Int32 → MH → Prop}
    (H1 : 60 < rs.length + cTw rs k.2.1 (lnT t) P t.length → Q (-4) (hJ cp (hM m)))
    (H2 : rs.length + cTw rs k.2.1 (lnT t) P t.length ≤ 60 → ruled k.2.1 t.length (lnT t) P = none → Q (-15) (hJ cp (hM (mI (mI m 0 5) 1 (m.1 1 + 1)))))
    (H3 : rs.length + cTw rs k.2.1 (lnT t) P t.length ≤ 60 → ∀ P', ruled k.2.1 t.length (lnT t) P = some P' → (300 < (accP rs vs (lnT t) P' t.length).1 ∨ 8 ≤ (accP rs vs (lnT t) P' t.length).2) → ∀ m', Inv rs ks vs tl sc wI wL m' → Q (-4) (hJ cp (hM m')))
    (H4 : rs.length + cTw rs k.2.1 (lnT t) P t.length ≤ 60 → ∀ P', ruled k.2.1 t.length (lnT t) P = some P' → (accP rs vs (lnT t) P' t.length).1 ≤ 300 → (accP rs vs (lnT t) P' t.length).2 < 8 → ∀ m', Inv (rsN rs k.2.1 (lnT t) P' t.length) (ks.set j (kMade k)) (vs ++ [newV rs vs j e k.2.2.2.1 k.2.1 t.length (lnT t) P']) tl sc wI wL m' → Q (nI vs.length) (hJ cp (hM m'))) : F_X12_finish d mo (nI j) (hJ cp (hM m)) u Q := by
  have hR := I.1.1.1
  have hKd := I.1.2.1.1
  have hj := (List.getElem?_eq_some_iff.mp hk).1
  obtain ⟨k1, k2, k3, k4, k5, k6, k7⟩ := I.1.2.1.2 k (List.mem_of_getElem? hk)
  have hcl := cTw_le (rs := rs) (rule := k.2.1) (L := lnT t) (P := P) t.length
  unfold F_X12_finish
  refine ⟨m_rc, (g_newestOf I.2.2.1 hKd hk).mpr ?_⟩
  rw [show k.2.2.2.2.length - 1 = e by omega]
  -- the end of the first loop
  have fin : F_X12_finish_11 d mo (nI j) (nI (4 * j + e)) (nI (cTw rs k.2.1 (lnT t) P t.length)) (nI t.length) (hJ cp (hM m)) u Q := by
    unfold F_X12_finish_11
    refine g_cnt I hk ht ?_
    rw [if_pos (nI_le (Nat.le_refl _) (by omega))]
    simp only [m_g3, I.2.1.1, nI_add]
    by_cases r60 : rs.length + cTw rs k.2.1 (lnT t) P t.length ≤ 60
    · rw [if_pos (show nI _ ≤ (60 : Int32) from nI_le (b := 60) r60 (by omega))]
      refine ⟨m_rc, g_breaks I hk ht h6 ho hP hf (fun hn => ?_) (fun P' hP' l hl hlP => ?_)⟩
      · rw [if_neg (by decide)]
        exact ⟨m_rc, g_fails.mpr (H2 r60 hn)⟩
      · rw [if_pos rfl]
        have I2 := I.scr (scr_P (m := m) hl)
        have hP2 : ∀ q, q < t.length → ((mB m 32 l).2.2 32).getD q 0 = P' q := fun q hq => by simp only [mA_1, mB_1, mI_1, mI_21, mI_22, mA_21, mA_22, mB_21, mB_22, Nat.reduceEqDiff, Nat.reduceEqDiff, reduceCtorEq, if_false, if_true]; exact hlP q hq
        have hf' : ∀ q, q < t.length → pfit rs vs (lnT t q) (P' q) := fun q hq => pfit_ruled hP' (hf q hq)
        have r60' : rs.length + cTw rs k.2.1 (lnT t) P' t.length ≤ 60 := by rw [cTw_ruled hP']; exact r60
        simp only [m_p33, m_p34]
        obtain ⟨b1, b2⟩ := accP_le (L := lnT t) (P := P') I.vDeep I.r20 t.length
        refine g_fin111 I2 hk ht h6 hP2 hf' ?_
        have J := I2.scr (scr_M (a := accP rs vs (lnT t) P' t.length) I2.l32)
        have e33 : (mM (mB m 32 l) (accP rs vs (lnT t) P' t.length)).1 33 = nI (accP rs vs (lnT t) P' t.length).1 := by simp [mM, mI, up]
        have e34 : (mM (mB m 32 l) (accP rs vs (lnT t) P' t.length)).1 34 = nI (accP rs vs (lnT t) P' t.length).2 := by simp [mM, mI, up]
        unfold F_X12_finish_111
        refine g_cnt J hk ht ?_
        rw [if_pos (nI_le (Nat.le_refl _) (by omega))]
        simp only [m_g33, e33, m_g34, e34, nI_1]
        by_cases s3 : 300 < (accP rs vs (lnT t) P' t.length).1
        · rw [if_pos (show (300 : Int32) < nI _ from nI_lt (a := 300) s3 (by omega))]
          exact H3 r60 P' hP' (Or.inl s3) _ J
        · rw [if_neg (show ¬ (300 : Int32) < nI _ from nI_nlt (a := 300) (by omega) (by omega))]
          by_cases d8 : (accP rs vs (lnT t) P' t.length).2 < 8
          · rw [if_pos (show nI _ ≤ (8 : Int32) from nI_le (b := 8) (by omega) (by omega))]
            obtain ⟨c0, c1, c2, c3, c4, c5, c6, c7, c8, c9, c10, c11⟩ := J.2.2.1
            obtain ⟨d1, d2, d3, d4, d5, d6⟩ := c10 j k hk
            obtain ⟨v0, v1, v2, v3, v4, v5, v6, v7, v8, v9, v10⟩ := J.2.2.2.1
            refine ⟨m_rc, g_newValue (n := vs.length) (e := e) (made := k.2.2.2.1) hV (by omega) v0 v1 v2 v3 c4 c5 (by rw [d4, show k.2.2.2.2.length - 1 = e by omega]) d5 ?_⟩
            have e33' : (mVal (mM (mB m 32 l) (accP rs vs (lnT t) P' t.length)) vs.length j e k.2.2.2.1).1 33 = nI (accP rs vs (lnT t) P' t.length).1 := by simp [mVal, mA, mM, mI, up]
            refine m_g28.mpr (m_g33.mpr ?_)
            rw [e33']
            refine m_s28.mpr ⟨(inb_nI (by omega)).mpr (by simp only [mVal, mA_1, mB_1, mI_1, mI_21, mI_22, mA_21, mA_22, mB_21, mB_22, Nat.reduceEqDiff, Nat.reduceEqDiff, reduceCtorEq, if_false, if_true]; omega), ?_⟩
            rw [nI_clamp (by omega)]
            refine m_g29.mpr (m_g34.mpr ?_)
            rw [show (mA (mVal (mM (mB m 32 l) (accP rs vs (lnT t) P' t.length)) vs.length j e k.2.2.2.1) 28 (((mVal (mM (mB m 32 l) (accP rs vs (lnT t) P' t.length)) vs.length j e k.2.2.2.1).2.1 28).set vs.length (nI (accP rs vs (lnT t) P' t.length).1))).1 34 = nI (accP rs vs (lnT t) P' t.length).2 by simp [mVal, mA, mM, mI, up], nI_1]
            refine m_s29.mpr ⟨(inb_nI (by omega)).mpr (by simp only [mVal, mA_1, mB_1, mI_1, mI_21, mI_22, mA_21, mA_22, mB_21, mB_22, Nat.reduceEqDiff, Nat.reduceEqDiff, reduceCtorEq, if_false, if_true]; omega), ?_⟩
            rw [nI_clamp (by omega)]
            have hm0 : mScr m (mM (mB m 32 l) (accP rs vs (lnT t) P' t.length)) := scr_tr (scr_P (m := m) hl) (scr_M (m := mB m 32 l) (by simp [mB, up, hl]))
            have hkj : (ks.set j (kMade k))[j]? = some (kMade k) := List.getElem?_set_self hj
            have hm0eq : mA (mA (mVal (mM (mB m 32 l) (accP rs vs (lnT t) P' t.length)) vs.length j e k.2.2.2.1) 28 (((mVal (mM (mB m 32 l) (accP rs vs (lnT t) P' t.length)) vs.length j e k.2.2.2.1).2.1 28).set vs.length (nI (accP rs vs (lnT t) P' t.length).1))) 29 (((mA (mVal (mM (mB m 32 l) (accP rs vs (lnT t) P' t.length)) vs.length j e k.2.2.2.1) 28 (((mVal (mM (mB m 32 l) (accP rs vs (lnT t) P' t.length)) vs.length j e k.2.2.2.1).2.1 28).set vs.length (nI (accP rs vs (lnT t) P' t.length).1))).2.1 29).set vs.length (nI ((accP rs vs (lnT t) P' t.length).2 + 1))) = mA (mA (mVal (mM (mB m 32 l) (accP rs vs (lnT t) P' t.length)) vs.length j e k.2.2.2.1) 28 (((mM (mB m 32 l) (accP rs vs (lnT t) P' t.length)).2.1 28).set vs.length (nI (accP rs vs (lnT t) P' t.length).1))) 29 (((mM (mB m 32 l) (accP rs vs (lnT t) P' t.length)).2.1 29).set vs.length (nI ((accP rs vs (lnT t) P' t.length).2 + 1))) := by
              simp only [mVal, mA_1, mB_1, mI_1, mI_21, mI_22, mA_21, mA_22, mB_21, mB_22, Nat.reduceEqDiff, Nat.reduceEqDiff, reduceCtorEq, if_false, if_true]
            rw [hm0eq]
            refine g_fin314 (m0 := mA (mA (mVal (mM (mB m 32 l) (accP rs vs (lnT t) P' t.length)) vs.length j e k.2.2.2.1) 28 (((mM (mB m 32 l) (accP rs vs (lnT t) P' t.length)).2.1 28).set vs.length (nI (accP rs vs (lnT t) P' t.length).1))) 29 (((mM (mB m 32 l) (accP rs vs (lnT t) P' t.length)).2.1 29).set vs.length (nI ((accP rs vs (lnT t) P' t.length).2 + 1)))) (ks := ks.set j (kMade k)) (k := kMade k) (P := P') hV ?_ (by rw [List.length_set]; exact hKd) hkj k2 ht h6 I.r20 r60' (fun q hq l9 => (hf' q hq).2.2 l9) (fun m' hS => ?_) t.length 0 _ (by omega) ?_
            · simp only [mVal, mKinds, mA_1, mB_1, mI_1, mI_21, mI_22, mA_21, mA_22, mB_21, mB_22, Nat.reduceEqDiff, Nat.reduceEqDiff, reduceCtorEq, if_false, if_true, List.length_set]
              refine ⟨c0, c1, c2, c3, c4, c5, c6, c7, c8, c9, fun q k' hq => ?_, fun q h1 h2 => ?_⟩
              · simp only [lset_getD]
                rcases set_get hq with ⟨rfl, rfl⟩ | ⟨z1, z2⟩
                · rw [if_pos ⟨rfl, by omega⟩]
                  exact ⟨d1, d2, d3, d4, by show nI k.2.2.2.1 + 1 = nI (k.2.2.2.1 + 1); rw [nI_1], d6⟩
                · obtain ⟨d1, d2, d3, d4, d5, d6⟩ := c10 q k' z2
                  rw [if_neg (by omega)]
                  exact ⟨d1, d2, d3, d4, d5, d6⟩
              · simp only [lset_getD]
                rw [if_neg (by omega)]
                exact c11 q h1 h2
            · exact H4 r60 P' hP' (by omega) d8 m' (I.fin hm0 hk hc hs ht he h6 hf' hV r60' (by omega) d8 hS)
            · refine ⟨?_, fun _ _ => rfl, fun _ _ _ _ => rfl, fun _ _ _ _ => rfl, ?_, ?_, fun _ _ => rfl, fun p hp => absurd hp (Nat.not_lt_zero p), fun p _ hp => ?_⟩
              · have := J.2.1
                show mRows rs _
                simpa [mRows, mVal, mA, mI, up] using this
              · simp only [mVal, mA_1, mB_1, mI_1, mI_21, mI_22, mA_21, mA_22, mB_21, mB_22, Nat.reduceEqDiff, Nat.reduceEqDiff, reduceCtorEq, if_false, if_true]; exact v7
              · simp only [mVal, mA_1, mB_1, mI_1, mI_21, mI_22, mA_21, mA_22, mB_21, mB_22, Nat.reduceEqDiff, Nat.reduceEqDiff, reduceCtorEq, if_false, if_true]; exact v8
              · simp only [mVal, mA_1, mB_1, mI_1, mI_21, mI_22, mA_21, mA_22, mB_21, mB_22, Nat.reduceEqDiff, Nat.reduceEqDiff, reduceCtorEq, if_false, if_true]
                exact hP2 p hp
          · rw [if_neg (show ¬ nI _ ≤ (8 : Int32) from nI_ge (a := 8) (by omega) (by omega))]
            exact H3 r60 P' hP' (Or.inr (by omega)) _ J
    · rw [if_neg (show ¬ nI _ ≤ (60 : Int32) from nI_ge (a := 60) (by omega) (by omega))]
      exact H1 (by omega)
  have key : ∀ r q : Nat, q + r = t.length → L_X12_finish_11 d mo (nI j) (nI (4 * j + e)) (nI (cTw rs k.2.1 (lnT t) P q)) (nI q) (hJ cp (hM m)) u Q := by
    intro r
    induction r with
    | zero =>
      intro q hq
      have : q = t.length := by omega
      subst this
      unfold L_X12_finish_11
      exact E_X12_finish_11 fin
    | succ r ih =>
      intro q hq
      have ih2 := ih (q + 1) (by omega)
      rw [cTw] at ih2
      unfold L_X12_finish_11
      refine E_X12_finish_11 ?_
      unfold F_X12_finish_11
      refine g_cnt I hk ht ?_
      rw [if_neg (nI_ge (by omega) (by omega))]
      refine g_L I hk ht (by omega) ?_
      rw [show ∀ x : Int32, x + 0 = x from fun x => by simp, nI_1, nI_1]
      by_cases l9 : lnT t q = 9
      · rw [if_pos l9]
        refine g_P I.l32 (by omega) ⟨m_rc, ?_⟩
        rw [hP q (by omega)]
        refine g_isTwinned I hk ((hf q (by omega)).2.2 l9) ?_
        rw [l9] at ih2
        cases hb : (twn rs k.2.1 9 (P q)).isSome
        · rw [if_pos (show b2i false = 0 from rfl)]
          rw [hb] at ih2
          simpa using ih2
        · rw [if_neg (show ¬ b2i true = 0 by decide)]
          rw [hb] at ih2
          simpa using ih2
      · rw [if_neg l9]
        have hT' : twn rs k.2.1 (lnT t q) (P q) = none := by unfold twn; rw [if_neg l9]
        rw [hT'] at ih2
        simpa using ih2
  exact key t.length 0 (by omega)
end Fin9
