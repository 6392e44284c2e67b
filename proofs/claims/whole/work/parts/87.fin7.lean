section Fin7
variable {rs : List RowT} {ks : List KindT} {vs : List ValT} {tl : Nat → Nat → Nat → List Int32} {sc : Nat → Int32} {wI : Nat → List Int32} {wL : Nat → List Int64} {m : MS} {d d2 u : Nat} {v1 v2 v3 v5 v6 : Int32} {v4 : Int64} {W : Prop → Prop}
variable {cp mp h : MH}
theorem mRows.add (b1 : mRows rs m) (hR : rs.length < 60) (h20 : ∀ r ∈ rs, r.2.2.length ≤ 20) (r : RowT) (l7 : List Int64) (h7 : l7.length = 1200) (h7a : ∀ i, i < 20 * rs.length → l7.getD i 0 = (m.2.2 7).getD i 0) (h7b : ∀ i x, r.2.2[i]? = some x → l7.getD (20 * rs.length + i) 0 = x) : mRows (rs ++ [r]) (mRowAdd m rs.length r.1 r.2.2.length (b2i r.2.1) l7) := by
  obtain ⟨c0, c1, c2, c3, c4, c5, c6⟩ := b1
  simp only [mRowAdd, mRows, mA_1, mB_1, mI_1, mI_21, mI_22, mA_21, mA_22, mB_21, mB_22, Nat.reduceEqDiff, Nat.reduceEqDiff, reduceCtorEq, if_false, if_true]
  refine ⟨by simp [nI_1], by simpa using c1, by simpa using c2, by simpa using c3, h7, c5, fun j r' hj => ?_⟩
  simp only [lset_getD]
  rcases app_case hj with z | ⟨rfl, rfl⟩
  · have hlt := (List.getElem?_eq_some_iff.mp z).1
    rw [if_neg (by omega), if_neg (by omega), if_neg (by omega)]
    obtain ⟨d1, d2, d3, d4⟩ := c6 j r' z
    have hc := h20 r' (List.mem_of_getElem? z)
    refine ⟨d1, d2, d3, fun i x hx => ?_⟩
    have := (List.getElem?_eq_some_iff.mp hx).1
    rw [h7a _ (by omega)]
    exact d4 i x hx
  · rw [if_pos ⟨rfl, by omega⟩, if_pos ⟨rfl, by omega⟩, if_pos ⟨rfl, by omega⟩]
    exact ⟨rfl, rfl, rfl, h7b⟩
theorem mRows.twin (b1 : mRows rs m) (hR : rs.length < 60) (h20 : ∀ r ∈ rs, r.2.2.length ≤ 20) {j : Nat} {r : RowT} (hj : rs[j]? = some r) (b : Bool) : mRows (rs ++ [(r.1, b, r.2.2)]) (mRowAdd m rs.length r.1 r.2.2.length (b2i b) (cpyM (fillL (m.2.2 7) (20 * rs.length) (if r.1 = 8 then -1 else 0) r.2.2.length) (20 * j) (20 * rs.length) r.2.2.length)) := by
  have h7 := b1.2.2.2.2.1
  have r2 := h20 r (List.mem_of_getElem? hj)
  have hlt := (List.getElem?_eq_some_iff.mp hj).1
  obtain ⟨-, -, -, d4⟩ := b1.2.2.2.2.2.2 j r hj
  refine b1.add hR h20 (r.1, b, r.2.2) _ (by rw [cpyM_len, fillL_len]; exact h7) (fun i hi => by rw [cpyM_at, if_neg (by omega), fillL_at, if_neg (by omega)]) (fun i x hx => ?_)
  have hi := (List.getElem?_eq_some_iff.mp hx).1
  have hi2 : i < r.2.2.length := hi
  rw [cpyM_at, if_pos (by rw [fillL_len]; omega), fillL_at, if_neg (by omega), show 20 * j + (20 * rs.length + i - 20 * rs.length) = 20 * j + i by omega]
  exact d4 i x hx
/-- the reference while it settles the parts of value V -/
def StR (m0 : MS) (V n : Nat) (rsq : List RowT) (pn P : Nat → Int64) (q : Nat) (mq : MS) : Prop :=
  mRows rsq mq ∧ (∀ k, k ≠ 3 → mq.1 k = m0.1 k) ∧ (∀ k, k ≠ 4 → k ≠ 5 → k ≠ 6 → mq.2.1 k = m0.2.1 k) ∧ (∀ k, k ≠ 7 → k ≠ 31 → k ≠ 32 → mq.2.2 k = m0.2.2 k) ∧ (mq.2.2 31).length = 1200 ∧ (mq.2.2 32).length = 6 ∧ (∀ i, i < 6 * V → (mq.2.2 31).getD i 0 = (m0.2.2 31).getD i 0) ∧ (∀ p, p < q → (mq.2.2 31).getD (6 * V + p) 0 = pn p) ∧ ∀ p, q ≤ p → p < n → (mq.2.2 32).getD p 0 = P p
theorem mKinds.keep {m0 mq : MS} (h : mKinds ks m0) (h1 : ∀ k, k ≠ 3 → mq.1 k = m0.1 k) (h2 : ∀ k, k ≠ 4 → k ≠ 5 → k ≠ 6 → mq.2.1 k = m0.2.1 k) : mKinds ks mq := by
  unfold mKinds at h ⊢
  rw [h1 9 (by decide), h2 10 (by decide) (by decide) (by decide), h2 11 (by decide) (by decide) (by decide), h2 12 (by decide) (by decide) (by decide), h2 13 (by decide) (by decide) (by decide), h2 14 (by decide) (by decide) (by decide), h2 15 (by decide) (by decide) (by decide), h2 16 (by decide) (by decide) (by decide), h2 17 (by decide) (by decide) (by decide), h2 18 (by decide) (by decide) (by decide)]
  exact h
theorem rsN_20 {rule : Int32} {L : Nat → Int32} {P : Nat → Int64} (h20 : ∀ r ∈ rs, r.2.2.length ≤ 20) : ∀ q, ∀ r ∈ rsN rs rule L P q, r.2.2.length ≤ 20
  | 0 => h20
  | q + 1 => by
    have ih := rsN_20 (rule := rule) (L := L) (P := P) h20 q
    unfold rsN
    rcases hT : twn rs rule (L q) (P q) with _ | z
    · exact ih
    · intro r hr
      rcases List.mem_append.mp hr with y | y
      · exact ih r y
      · rw [List.mem_singleton.mp y]
        exact h20 z.2 (List.mem_of_getElem? (twn_some hT).2.2.1)
theorem g_fin314 {m0 : MS} {V j e : Nat} {k : KindT} {t : List ET} {P : Nat → Int64} (hV : V < 200) (hK : mKinds ks m0) (h16 : ks.length ≤ 16) (hk : ks[j]? = some k) (h4 : k.2.2.2.2.length ≤ 4) (ht : k.2.2.2.2[e]? = some t) (h6 : t.length ≤ 6) (h20 : ∀ r ∈ rs, r.2.2.length ≤ 20) (hR : rs.length + cTw rs k.2.1 (lnT t) P t.length ≤ 60) (hx9 : ∀ q, q < t.length → lnT t q = 9 → refOK (P q) rs.length) {Q : Int32 → MH → Prop} (H : ∀ m', StR m0 V t.length (rsN rs k.2.1 (lnT t) P t.length) (pN rs k.2.1 (lnT t) P) P t.length m' → Q (nI V) (hJ cp (hM m'))) : ∀ (r q : Nat) (mq : MS), q + r = t.length → StR m0 V t.length (rsN rs k.2.1 (lnT t) P q) (pN rs k.2.1 (lnT t) P) P q mq → L_X12_finish_314 d mo (nI j) (nI (4 * j + e)) (nI V) (nI q) (hJ cp (hM mq)) u Q := by
  have mono : ∀ r q, cTw rs k.2.1 (lnT t) P q ≤ cTw rs k.2.1 (lnT t) P (q + r) := by
    intro r
    induction r with
    | zero => intro q; exact Nat.le_refl _
    | succ r ih => intro q; have := ih q; rw [← Nat.add_assoc, cTw]; omega
  intro r
  induction r with
  | zero =>
    intro q mq hq hS
    have : q = t.length := by omega
    subst this
    have hKq := hK.keep hS.2.1 hS.2.2.1
    unfold L_X12_finish_314
    refine E_X12_finish_314 ?_
    unfold F_X12_finish_314
    refine k_cnt hKq h16 hk h4 ht ?_
    rw [if_pos (nI_le (Nat.le_refl _) (by omega))]
    exact H mq hS
  | succ r ih =>
    intro q mq hq hS
    have hKq := hK.keep hS.2.1 hS.2.2.1
    obtain ⟨s1, s2, s3, s4, s5, s6, s7, s8, s9⟩ := hS
    have hlen := rsN_len (rs := rs) (rule := k.2.1) (L := lnT t) (P := P) q
    have hm := mono (r + 1) q
    rw [hq] at hm
    have e6 : (6 : Int32) * nI V + nI q = nI (6 * V + q) := idx6 V q
    -- the part goes into its place
    have s406 : ∀ (mq2 : MS) (rs2 : List RowT), mRows rs2 mq2 → (∀ k, k ≠ 3 → mq2.1 k = m0.1 k) → (∀ k, k ≠ 4 → k ≠ 5 → k ≠ 6 → mq2.2.1 k = m0.2.1 k) → (∀ k, k ≠ 7 → k ≠ 31 → k ≠ 32 → mq2.2.2 k = m0.2.2 k) → mq2.2.2 31 = mq.2.2 31 → (mq2.2.2 32).length = 6 → (mq2.2.2 32).getD q 0 = pN rs k.2.1 (lnT t) P q → (∀ p, q + 1 ≤ p → p < t.length → (mq2.2.2 32).getD p 0 = P p) → rs2 = rsN rs k.2.1 (lnT t) P (q + 1) → F_X12_finish_406 d mo (nI j) (nI (4 * j + e)) (nI V) (nI q) (hJ cp (hM mq2)) u Q := by
      intro mq2 rs2 z1 z2 z3 z4 z5 z6 z7 z8 z9
      subst z9
      unfold F_X12_finish_406
      refine m_g31.mpr (g_P z6 (by omega) ?_)
      rw [z7, e6]
      refine m_s31.mpr ⟨(inb_nI (by omega)).mpr (by rw [z5]; omega), ?_⟩
      rw [nI_clamp (by omega), nI_1]
      refine ih (q + 1) _ (by omega) ⟨?_, fun k hk => z2 k hk, fun k a b c => z3 k a b c, fun k a b c => ?_, ?_, ?_, fun i hi => ?_, fun p hp => ?_, fun p h1 h2 => ?_⟩
      · simpa [mRows, mB, up] using z1
      · simp only [mB, up_if]
        rw [if_neg b]
        exact z4 k a b c
      · simp only [mA_1, mB_1, mI_1, mI_21, mI_22, mA_21, mA_22, mB_21, mB_22, Nat.reduceEqDiff, Nat.reduceEqDiff, reduceCtorEq, if_false, if_true, List.length_set]; rw [z5]; exact s5
      · simp only [mA_1, mB_1, mI_1, mI_21, mI_22, mA_21, mA_22, mB_21, mB_22, Nat.reduceEqDiff, Nat.reduceEqDiff, reduceCtorEq, if_false, if_true]; exact z6
      · simp only [mA_1, mB_1, mI_1, mI_21, mI_22, mA_21, mA_22, mB_21, mB_22, Nat.reduceEqDiff, Nat.reduceEqDiff, reduceCtorEq, if_false, if_true, lset_getD]
        rw [if_neg (by omega), z5]
        exact s7 i hi
      · simp only [mA_1, mB_1, mI_1, mI_21, mI_22, mA_21, mA_22, mB_21, mB_22, Nat.reduceEqDiff, Nat.reduceEqDiff, reduceCtorEq, if_false, if_true, lset_getD]
        by_cases y : p = q
        · subst y
          rw [if_pos ⟨rfl, by rw [z5]; omega⟩]
        · rw [if_neg (by omega), z5]
          exact s8 p (by omega)
      · simp only [mA_1, mB_1, mI_1, mI_21, mI_22, mA_21, mA_22, mB_21, mB_22, Nat.reduceEqDiff, Nat.reduceEqDiff, reduceCtorEq, if_false, if_true]; exact z8 p h1 h2
    unfold L_X12_finish_314
    refine E_X12_finish_314 ?_
    unfold F_X12_finish_314
    refine k_cnt hKq h16 hk h4 ht ?_
    rw [if_neg (nI_ge (by omega) (by omega))]
    refine k_L hKq h16 hk h4 (by omega) ht (by omega) ?_
    by_cases l9 : lnT t q = 9
    · rw [if_pos l9]
      refine g_P s6 (by omega) ⟨m_rc, ?_⟩
      have href := hx9 q (by omega) l9
      rw [s9 q (Nat.le_refl _) (by omega)]
      refine k_isTwinned s1 (by omega) hKq h16 hk (href.mono (by omega)) ?_
      have htw := twn_ext (rs := rs) (rule := k.2.1) (l := 9) (x := P q) (rs2 := rsN rs k.2.1 (lnT t) P q) (fun _ => href) (by omega) (by omega) (fun r row hr => rsN_get hr q)
      rw [htw]
      rcases hT : twn rs k.2.1 9 (P q) with _ | y
      · have hT' : twn rs k.2.1 (lnT t q) (P q) = none := by rw [l9]; exact hT
        rw [if_pos (show b2i (none : Option (Nat × RowT)).isSome = 0 from rfl)]
        exact s406 mq _ s1 s2 s3 s4 rfl s6 (by rw [s9 q (Nat.le_refl _) (by omega)]; unfold pN; rw [hT']) (fun p h1 h2 => s9 p (by omega) h2) (by rw [rsN, hT'])
      · have hT' : twn rs k.2.1 (lnT t q) (P q) = some y := by rw [l9]; exact hT
        rw [if_neg (show ¬ b2i (some y).isSome = 0 from (by decide : ¬ b2i true = 0))]
        obtain ⟨y1, y2, y3, y4, y5⟩ := twn_some hT'
        have hyl := (List.getElem?_eq_some_iff.mp y3).1
        have y3' := rsN_get (rule := k.2.1) (L := lnT t) (P := P) y3 q
        have yl := h20 y.2 (List.mem_of_getElem? y3)
        have hcnt : cTw rs k.2.1 (lnT t) P (q + 1) = cTw rs k.2.1 (lnT t) P q + 1 := by rw [cTw, hT']; rfl
        have hm2 := mono r (q + 1)
        rw [show q + 1 + r = t.length by omega] at hm2
        have ey : P q = lN y.1 := by
          rcases href with z | ⟨i, z1, z2⟩
          · rw [z, ixL_m1] at y2; cases y2
          · rw [z2, ixL_lN z1 (by omega)] at y2
            cases y2; exact z2
        refine g_P s6 (by omega) ⟨m_rc, ?_⟩
        rw [s9 q (Nat.le_refl _) (by omega), ey, lN_32 (by omega)]
        refine g_twinOf s1 (by omega) y3' yl ?_
        have l6 := s1.2.2.2.1
        have l4 := s1.2.1
        have s395 : ∀ x : Int32, x = b2i (decide (y.2.1 = 8)) → F_X12_finish_395 d mo (nI j) (nI (4 * j + e)) (nI V) (nI q) (nI (rsN rs k.2.1 (lnT t) P q).length) (some (41, 6, 0)) (nI (rsN rs k.2.1 (lnT t) P q).length) x (hJ cp (hM (mRowAdd mq (rsN rs k.2.1 (lnT t) P q).length y.2.1 y.2.2.2.length 0 (cpyM (fillL (mq.2.2 7) (20 * (rsN rs k.2.1 (lnT t) P q).length) (if y.2.1 = 8 then -1 else 0) y.2.2.2.length) (20 * y.1) (20 * (rsN rs k.2.1 (lnT t) P q).length) y.2.2.2.length)))) u Q := by
          intro x hx
          unfold F_X12_finish_395
          refine m_s6.mpr ⟨(inb_nI (by omega)).mpr (by simp only [mRowAdd, mA_1, mB_1, mI_1, mI_21, mI_22, mA_21, mA_22, mB_21, mB_22, Nat.reduceEqDiff, Nat.reduceEqDiff, reduceCtorEq, if_false, if_true, List.length_set]; omega), ?_⟩
          rw [nI_clamp (by omega)]
          refine m_g32.mpr (m_s32.mpr ⟨(inb_nI (by omega)).mpr (by simp only [mRowAdd, mA_1, mB_1, mI_1, mI_21, mI_22, mA_21, mA_22, mB_21, mB_22, Nat.reduceEqDiff, Nat.reduceEqDiff, reduceCtorEq, if_false, if_true]; omega), ?_⟩)
          rw [nI_clamp (by omega), nI_64 (by omega)]
          have ev : vp_nar .boolean x = b2i (decide (y.2.1 = 8)) := by
            rw [hx]
            cases decide (y.2.1 = 8) <;> rfl
          have et := s1.twin (by omega) (rsN_20 h20 q) y3' (decide (y.2.1 = 8))
          refine s406 _ (rsN rs k.2.1 (lnT t) P q ++ [(y.2.1, decide (y.2.1 = 8), y.2.2.2)]) ?_ (fun k hk => ?_) (fun k a b c => ?_) (fun k a b c => ?_) ?_ ?_ ?_ (fun p h1 h2 => ?_) (by rw [rsN, hT'])
          · simp only [mRows, mRowAdd, mA_1, mB_1, mI_1, mI_21, mI_22, mA_21, mA_22, mB_21, mB_22, Nat.reduceEqDiff, Nat.reduceEqDiff, reduceCtorEq, if_false, if_true, ev, List.set_set] at et ⊢
            exact et
          · simp only [mRowAdd, mA_1, mB_1, mI_1, mI_21, mI_22, mA_21, mA_22, mB_21, mB_22, Nat.reduceEqDiff, Nat.reduceEqDiff, reduceCtorEq, if_false, if_true]
            rw [if_neg hk]
            exact s2 k hk
          · simp only [mRowAdd, mA_1, mB_1, mI_1, mI_21, mI_22, mA_21, mA_22, mB_21, mB_22, Nat.reduceEqDiff, Nat.reduceEqDiff, reduceCtorEq, if_false, if_true]
            rw [if_neg c, if_neg c, if_neg b, if_neg a]
            exact s3 k a b c
          · simp only [mRowAdd, mA_1, mB_1, mI_1, mI_21, mI_22, mA_21, mA_22, mB_21, mB_22, Nat.reduceEqDiff, Nat.reduceEqDiff, reduceCtorEq, if_false, if_true]
            rw [if_neg c, if_neg a]
            exact s4 k a b c
          · simp only [mRowAdd, mA_1, mB_1, mI_1, mI_21, mI_22, mA_21, mA_22, mB_21, mB_22, Nat.reduceEqDiff, Nat.reduceEqDiff, reduceCtorEq, if_false, if_true]
          · simp only [mRowAdd, mA_1, mB_1, mI_1, mI_21, mI_22, mA_21, mA_22, mB_21, mB_22, Nat.reduceEqDiff, Nat.reduceEqDiff, reduceCtorEq, if_false, if_true, List.length_set]
            exact s6
          · simp only [mRowAdd, mA_1, mB_1, mI_1, mI_21, mI_22, mA_21, mA_22, mB_21, mB_22, Nat.reduceEqDiff, Nat.reduceEqDiff, reduceCtorEq, if_false, if_true, lset_getD]
            rw [if_pos ⟨trivial, by omega⟩]
            unfold pN
            rw [hT']
          · simp only [mRowAdd, mA_1, mB_1, mI_1, mI_21, mI_22, mA_21, mA_22, mB_21, mB_22, Nat.reduceEqDiff, Nat.reduceEqDiff, reduceCtorEq, if_false, if_true, lset_getD]
            rw [if_neg (by omega)]
            exact s9 p (by omega) h2
        refine m_g6.mpr (m_g4.mpr (m_a4.mpr ⟨(inb_nI (by omega)).mpr (by simp only [mRowAdd, mA_1, mB_1, mI_1, mI_21, mI_22, mA_21, mA_22, mB_21, mB_22, Nat.reduceEqDiff, Nat.reduceEqDiff, reduceCtorEq, if_false, if_true, List.length_set]; omega), ?_⟩))
        rw [rdI_nI (by omega)]
        have e4 : ((mRowAdd mq (rsN rs k.2.1 (lnT t) P q).length y.2.1 y.2.2.2.length 0 (cpyM (fillL (mq.2.2 7) (20 * (rsN rs k.2.1 (lnT t) P q).length) (if y.2.1 = 8 then -1 else 0) y.2.2.2.length) (20 * y.1) (20 * (rsN rs k.2.1 (lnT t) P q).length) y.2.2.2.length)).2.1 4).getD (rsN rs k.2.1 (lnT t) P q).length 0 = y.2.1 := by
          simp only [mRowAdd, mA_1, mB_1, mI_1, mI_21, mI_22, mA_21, mA_22, mB_21, mB_22, Nat.reduceEqDiff, Nat.reduceEqDiff, reduceCtorEq, if_false, if_true, lset_getD]
          rw [if_pos ⟨trivial, by omega⟩]
        rw [e4]
        by_cases y8 : y.2.1 = 8
        · rw [if_pos y8]
          exact s395 1 (by simp [y8, b2i])
        · rw [if_neg y8]
          exact s395 0 (by simp [y8, b2i])
    · rw [if_neg l9]
      have hT' : twn rs k.2.1 (lnT t q) (P q) = none := by unfold twn; rw [if_neg l9]
      exact s406 mq _ s1 s2 s3 s4 rfl s6 (by rw [s9 q (Nat.le_refl _) (by omega)]; unfold pN; rw [hT']) (fun p h1 h2 => s9 p (by omega) h2) (by rw [rsN, hT'])
end Fin7
