section Make2
variable {rs : List RowT} {ks : List KindT} {vs : List ValT} {tl : Nat → Nat → Nat → List Int32} {sc : Nat → Int32} {wI : Nat → List Int32} {wL : Nat → List Int64} {m : MS} {d d2 u : Nat} {v1 v2 v3 v5 v6 : Int32} {v4 : Int64} {W : Prop → Prop}
variable {cp mp h : MH}
theorem Inv.cdr (I : Inv rs ks vs tl sc wI wL m) {a : Nat × Nat} {l : List Int64} (hl : l.length = 6) : Inv rs ks vs tl (scM sc a) wI (up wL 1 l) m := by
  obtain ⟨⟨a1, a2, a3, a4, a5, a6⟩, b1, b2, b3, b4⟩ := I
  refine ⟨⟨a1, a2, a3, a4, ?_, ?_⟩, b1, b2, b3, ?_⟩
  · obtain ⟨w0, w1, w2, q0, q1, w3, w4, w5, w6, x1, x2, x3⟩ := a5
    exact ⟨w0, w1, w2, by rw [up_n (by decide)]; exact q0, by rw [up_s]; exact hl, w3, w4, w5, w6, by simpa [scM, up] using x1, by simpa [scM, up] using x2, by simpa [scM, up] using x3⟩
  · intro i hi
    rw [up_n (by decide)]
    exact a6 i hi
  · simpa [mMisc, scM, up] using b4
theorem Inv.cdr1 (I : Inv rs ks vs tl sc wI wL m) {l : List Int64} (hl : l.length = 6) : Inv rs ks vs tl sc wI (up wL 1 l) m := by
  obtain ⟨⟨a1, a2, a3, a4, a5, a6⟩, b1, b2, b3, b4⟩ := I
  refine ⟨⟨a1, a2, a3, a4, ?_, ?_⟩, b1, b2, b3, ?_⟩
  · obtain ⟨w0, w1, w2, q0, q1, w3, w4, w5, w6, x1, x2, x3⟩ := a5
    exact ⟨w0, w1, w2, by rw [up_n (by decide)]; exact q0, by rw [up_s]; exact hl, w3, w4, w5, w6, x1, x2, x3⟩
  · intro i hi
    rw [up_n (by decide)]
    exact a6 i hi
  · simpa [mMisc, up] using b4
theorem Inv.empty (I : Inv rs ks vs tl sc wI wL m) {l l' : List Int32} (hl : l.length = 6) (hl' : l'.length = 6) (h1 : ∀ p, p < 6 → l.getD p 0 = -1) (h2 : ∀ p, p < 6 → l'.getD p 0 = -5) : Inv rs ks vs tl sc (up wI 2 l) wL (mA m 22 l') := by
  obtain ⟨⟨a1, a2, a3, a4, a5, a6⟩, b1, b2, b3, b4⟩ := I
  refine ⟨⟨a1, a2, a3, a4, ?_, ?_⟩, by simpa [mRows, mA, up] using b1, by simpa [mKinds, mA, up] using b2, by simpa [mVals, mA, up] using b3, ?_⟩
  · obtain ⟨w0, w1, w2, q0, q1, w3, w4, w5, w6, x1, x2, x3⟩ := a5
    exact ⟨by rw [up_n (by decide)]; exact w0, by rw [up_n (by decide)]; exact w1, by rw [up_s]; exact hl, q0, q1, by rw [up_n (by decide)]; exact w3, by rw [up_n (by decide)]; exact w4, by rw [up_n (by decide)]; exact w5, by rw [up_n (by decide)]; exact w6, by rw [up_n (by decide)]; exact x1, x2, x3⟩
  · intro i hi
    rw [up_s]
    exact Or.inl (h1 i hi)
  · obtain ⟨c1, c2, c3, c4, c5, c6, c7, c8, c9, c10⟩ := b4
    refine ⟨c1, c2, c3, c4, by simpa [mA, up] using c5, by simpa [mA, up] using c6, by simpa [mA, up] using hl', by simpa [mA, up] using c8, fun i hi => ?_, by simpa [mA, up] using c10⟩
    simp only [mA_1, mB_1, mI_1, mI_21, mI_22, mA_21, mA_22, mB_21, mB_22, Nat.reduceEqDiff, Nat.reduceEqDiff, reduceCtorEq, if_false, if_true, up_s]
    rw [h1 i hi, h2 i hi]
    exact ⟨rfl, fun z => absurd rfl z⟩
theorem s_emptyAll (w2 : (wI 2).length = 6) {Q : MH → Prop} (H : ∀ l : List Int32, l.length = 6 → (∀ p, p < 6 → l.getD p 0 = -1) → Q (hJ (hC rs ks vs tl sc (up wI 2 l) wL) mp)) : F_X9_emptyAll d (some (5, 0, 0)) (hJ (hC rs ks vs tl sc wI wL) mp) u Q := by
  have key : ∀ (r i : Nat) (l : List Int32), i + r = 6 → l.length = 6 → (∀ p, p < i → l.getD p 0 = -1) → L_X9_emptyAll_2 d (some (5, 0, 0)) (nI i) (hJ (hC rs ks vs tl sc (up wI 2 l) wL) mp) u Q := by
    intro r
    induction r with
    | zero =>
      intro i l hi hl hp
      have : i = 6 := by omega
      subst this
      unfold L_X9_emptyAll_2
      refine E_X9_emptyAll_2 ?_
      unfold F_X9_emptyAll_2
      rw [if_pos (show (6 : Int32) ≤ nI 6 by decide)]
      exact H l hl hp
    | succ r ih =>
      intro i l hi hl hp
      unfold L_X9_emptyAll_2
      refine E_X9_emptyAll_2 ?_
      unfold F_X9_emptyAll_2
      rw [if_neg (show ¬ (6 : Int32) ≤ nI i from nI_ge (b := 6) (by omega) (by omega))]
      refine c_g5_0.mpr (c_s6.mpr ⟨(inb_nI (by omega)).mpr (by rw [up_s]; omega), ?_⟩)
      rw [nI_clamp (by omega), up_s, up_u, nI_1]
      refine ih (i + 1) _ (by omega) (by rw [List.length_set]; exact hl) (fun p hp2 => ?_)
      rw [lset_getD]
      by_cases y : i = p
      · rw [if_pos ⟨y, by omega⟩]
      · rw [if_neg (by omega)]; exact hp p (by omega)
  have := key 6 0 (wI 2) rfl w2 (fun p hp => absurd hp (Nat.not_lt_zero p))
  rw [up_id] at this
  exact this
theorem g_make212 {v : Int32} (hv : ¬ v < 0) (l22 : (m.2.1 22).length = 6) {Q : Int32 → MH → Prop} (H : ∀ l : List Int32, l.length = 6 → (∀ p, p < 6 → l.getD p 0 = -5) → Q v (hJ cp (hM (mA m 22 l)))) : L_X12_make_212 d mo v 0 (hJ cp (hM m)) u Q := by
  have key : ∀ (r i : Nat) (l : List Int32), i + r = 6 → l.length = 6 → (∀ p, p < i → l.getD p 0 = -5) → L_X12_make_212 d mo v (nI i) (hJ cp (hM (mA m 22 l))) u Q := by
    intro r
    induction r with
    | zero =>
      intro i l hi hl hp
      have : i = 6 := by omega
      subst this
      unfold L_X12_make_212
      refine E_X12_make_212 ?_
      unfold F_X12_make_212
      rw [if_pos (show (6 : Int32) ≤ nI 6 by decide)]
      exact H l hl hp
    | succ r ih =>
      intro i l hi hl hp
      unfold L_X12_make_212
      refine E_X12_make_212 ?_
      unfold F_X12_make_212
      rw [if_neg (show ¬ (6 : Int32) ≤ nI i from nI_ge (b := 6) (by omega) (by omega)), if_neg hv]
      refine m_g22.mpr (m_s22.mpr ⟨(inb_nI (by omega)).mpr (by simp only [mA_1, mB_1, mI_1, mI_21, mI_22, mA_21, mA_22, mB_21, mB_22, Nat.reduceEqDiff, Nat.reduceEqDiff, reduceCtorEq, if_false, if_true]; omega), ?_⟩)
      rw [nI_clamp (by omega), nI_1]
      simp only [mA_1, mB_1, mI_1, mI_21, mI_22, mA_21, mA_22, mB_21, mB_22, Nat.reduceEqDiff, Nat.reduceEqDiff, reduceCtorEq, if_false, if_true, mA_mA]
      refine ih (i + 1) _ (by omega) (by rw [List.length_set]; exact hl) (fun p hp2 => ?_)
      rw [lset_getD]
      by_cases y : i = p
      · rw [if_pos ⟨y, by omega⟩]
      · rw [if_neg (by omega)]; exact hp p (by omega)
  have := key 6 0 (m.2.1 22) rfl l22 (fun p hp => absurd hp (Nat.not_lt_zero p))
  have e : mA m 22 (m.2.1 22) = m := by unfold mA; rw [up_id]
  rw [e] at this
  exact this
theorem g_make212n {v : Int32} (hv : v < 0) {Q : Int32 → MH → Prop} (H : Q v (hJ cp (hM m))) : L_X12_make_212 d mo v 0 (hJ cp (hM m)) u Q := by
  unfold L_X12_make_212
  refine E_X12_make_212 ?_
  unfold F_X12_make_212
  rw [if_neg (by decide), if_pos hv]
  exact H
theorem g_make51 (I : Inv rs ks vs tl sc wI wL m) {j e : Nat} {k : KindT} {t : List ET} (hk : ks[j]? = some k) (ht : k.2.2.2.2[e]? = some t) (h6 : t.length ≤ 6) (ho : ∀ x ∈ t, wi x.2.1 0 9 = true) {Q : Int32 → MH → Prop}
    (H1 : ∀ f, firstF (fun q => tkF (lnT t q) ((wI 2).getD q 0)) t.length 0 = f → ¬ f = 0 → ∀ m', Inv rs ks vs tl sc wI wL m' → Q (-10 - f) (hJ cp (hM (mI (mI m' 0 f) 1 (m'.1 1 + 1)))))
    (H2 : firstF (fun q => tkF (lnT t q) ((wI 2).getD q 0)) t.length 0 = 0 → ∀ m', Inv rs ks vs tl sc wI wL m' → (∀ p, p < t.length → (m'.2.2 32).getD p 0 = tkV (lnT t p) ((wI 2).getD p 0) ((wL 0).getD p 0)) → F_X12_finish d mo (nI j) (hJ cp (hM m')) 0 (fun x3 h => L_X12_make_212 d mo x3 0 h u Q)) : L_X12_make_51 d mo (nI j) (nI (4 * j + e)) 0 (hJ cp (hM m)) u Q := by
  have key : ∀ (r q : Nat) (l : List Int64), q + r = t.length → l.length = 6 → (∀ p, p < q → l.getD p 0 = tkV (lnT t p) ((wI 2).getD p 0) ((wL 0).getD p 0)) → firstF (fun q => tkF (lnT t q) ((wI 2).getD q 0)) t.length 0 = firstF (fun q => tkF (lnT t q) ((wI 2).getD q 0)) r q → L_X12_make_51 d mo (nI j) (nI (4 * j + e)) (nI q) (hJ cp (hM (mB m 32 l))) u Q := by
    intro r
    induction r with
    | zero =>
      intro q l hq hl hp hf
      have : q = t.length := by omega
      subst this
      have J := I.scr (scr_P (m := m) hl)
      unfold L_X12_make_51
      refine E_X12_make_51 ?_
      unfold F_X12_make_51
      refine g_cnt J hk ht ?_
      rw [if_pos (nI_le (Nat.le_refl _) (by omega))]
      exact ⟨m_rc, H2 hf _ J (fun p hp2 => by simp only [mA_1, mB_1, mI_1, mI_21, mI_22, mA_21, mA_22, mB_21, mB_22, Nat.reduceEqDiff, Nat.reduceEqDiff, reduceCtorEq, if_false, if_true]; exact hp p hp2)⟩
    | succ r ih =>
      intro q l hq hl hp hf
      have hq6 : q < 6 := by omega
      have J := I.scr (scr_P (m := m) hl)
      have htq : trOK rs.length vs.length ((wI 2).getD q 0) ((wL 0).getD q 0) := J.1.2.2.2.2.2 q hq6
      obtain ⟨c1, c2, c3, c4, c5, c6, c7, c8, c9, c10⟩ := J.2.2.2.2
      obtain ⟨g1, g2⟩ := c9 q hq6
      obtain ⟨l1, l2⟩ := lane_lt8 (lnT_9 ho (show q < t.length by omega))
      have hle : (8 ≤ lnT t q) ↔ ¬ wi (lnT t q) 0 7 = true := by
        rw [← l1]
        rw [Int32.le_iff_toInt_le, Int32.lt_iff_toInt_lt]; omega
      rw [firstF_s] at hf
      -- a fault
      have bad : ∀ f : Int32, tkF (lnT t q) ((wI 2).getD q 0) = f → ¬ f = 0 → rc (hJ cp (hM (mB m 32 l))) mo 11 ∧ F_X12_fails (d + 4) mo f (hJ cp (hM (mB m 32 l))) 0 (fun x h => Q x h) := by
        intro f hff hn
        rw [if_neg (by rw [hff]; exact hn)] at hf
        exact ⟨m_rc, g_fails.mpr (H1 f (by rw [hf]; exact hff) hn _ J)⟩
      -- a part
      have next : ∀ y, y = tkV (lnT t q) ((wI 2).getD q 0) ((wL 0).getD q 0) → tkF (lnT t q) ((wI 2).getD q 0) = 0 → sV .long (hJ cp (hM (mB m 32 l))) (some (41, 32, 0)) (nI q) (jL y) (fun h => L_X12_make_51 d mo (nI j) (nI (4 * j + e)) (nI q + 1) h u Q) := by
        intro y hy h0
        rw [if_pos h0] at hf
        refine m_s32.mpr ⟨(inb_nI (by omega)).mpr (by simp only [mA_1, mB_1, mI_1, mI_21, mI_22, mA_21, mA_22, mB_21, mB_22, Nat.reduceEqDiff, Nat.reduceEqDiff, reduceCtorEq, if_false, if_true]; omega), ?_⟩
        rw [nI_clamp (by omega), nI_1, mB_mB]
        simp only [mA_1, mB_1, mI_1, mI_21, mI_22, mA_21, mA_22, mB_21, mB_22, Nat.reduceEqDiff, Nat.reduceEqDiff, reduceCtorEq, if_false, if_true]
        refine ih (q + 1) _ (by omega) (by rw [List.length_set]; exact hl) (fun p hp2 => ?_) hf
        rw [lset_getD]
        by_cases z : q = p
        · subst z
          rw [if_pos ⟨rfl, by omega⟩, hy]
        · rw [if_neg (by omega)]
          exact hp p (by omega)
      unfold L_X12_make_51
      refine E_X12_make_51 ?_
      unfold F_X12_make_51
      refine g_cnt J hk ht ?_
      rw [if_neg (nI_ge (by omega) (by omega))]
      refine g_L J hk ht (by omega) ?_
      refine m_g22.mpr (m_a22.mpr ⟨(inb_nI (by omega)).mpr (by rw [c7]; omega), ?_⟩)
      rw [rdI_nI (by omega), g1]
      have l23 : ((mB m 32 l).2.2 23).length = 6 := c8
      by_cases a1 : (wI 2).getD q 0 = -1
      · rw [if_pos a1]
        by_cases hw : wi (lnT t q) 0 7 = true
        · rw [if_neg (fun z => hle.mp z hw), if_pos rfl]
          exact bad 1 (by unfold tkF; rw [if_pos a1, hw]; rfl) (by decide)
        · rw [if_pos (hle.mpr hw)]
          unfold F_X12_make_102 F_X12_make_149
          rw [if_pos (hle.mpr hw), if_pos rfl]
          refine m_g32.mpr ?_
          rw [if_pos rfl]
          exact next (-1) (by unfold tkV; rw [if_pos a1]) (by unfold tkF; rw [if_pos a1]; simp [hw])
      · rw [if_neg a1]
        have g2 := g2 a1
        have h5 : ¬ (wI 2).getD q 0 = -5 := by
          rcases htq with z | ⟨z, -⟩ | ⟨z, -⟩ | ⟨z, -⟩
          · exact absurd z a1
          · intro y; rw [y] at z; exact absurd z (by decide)
          · rw [z]; decide
          · rw [z]; decide
        have m102 : F_X12_make_102 d mo (nI j) (nI (4 * j + e)) (nI q) (lnT t q) ((wI 2).getD q 0) (hJ cp (hM (mB m 32 l))) u Q := by
          unfold F_X12_make_102
          by_cases hw : wi (lnT t q) 0 7 = true
          · rw [if_neg (fun z => hle.mp z hw)]
            rcases htq with z | ⟨z1, z2⟩ | ⟨z, -⟩ | ⟨z, -⟩
            · exact absurd z a1
            · have ha8 : ¬ (8 : Int32) ≤ (wI 2).getD q 0 := by
                unfold wi at z1
                simp only [Bool.and_eq_true, decide_eq_true_eq, Int32.le_iff_toInt_le] at z1
                rw [Int32.le_iff_toInt_le]
                have : (8 : Int32).toInt = 8 := rfl
                have : (7 : Int32).toInt = 7 := rfl
                omega
              rw [if_neg ha8]
              simp only [f_widM, if_b2i]
              cases hq2 : isW ((wI 2).getD q 0) (lnT t q)
              · rw [if_pos rfl]
                exact bad 3 (by unfold tkF; rw [if_neg a1, hq2]; rfl) (by decide)
              · rw [if_neg (by decide)]
                unfold F_X12_make_149
                refine m_g32.mpr ?_
                rw [if_neg h5, if_neg (fun z => hle.mp z hw)]
                refine m_g23.mpr (m_a23.mpr ⟨(inb_nI (by omega)).mpr (by omega), ?_⟩)
                rw [rdL_nI (by omega), g2]
                refine g_widened z1 hw hq2 z2 ?_
                exact next _ (by unfold tkV; rw [if_neg a1]) (by unfold tkF; rw [if_neg a1, hq2]; rfl)
            · rw [if_pos (show (8 : Int32) ≤ (wI 2).getD q 0 by rw [z]; decide)]
              refine bad 3 ?_ (by decide)
              unfold tkF
              rw [if_neg a1]
              cases hq2 : isW ((wI 2).getD q 0) (lnT t q)
              · rfl
              · exact (w_num hq2 hw (Or.inl z)).elim
            · rw [if_pos (show (8 : Int32) ≤ (wI 2).getD q 0 by rw [z]; decide)]
              refine bad 3 ?_ (by decide)
              unfold tkF
              rw [if_neg a1]
              cases hq2 : isW ((wI 2).getD q 0) (lnT t q)
              · rfl
              · exact (w_num hq2 hw (Or.inr z)).elim
          · rw [if_pos (hle.mpr hw), if_neg h5]
            by_cases ea : (wI 2).getD q 0 = lnT t q
            · rw [if_pos ea]
              unfold F_X12_make_149
              refine m_g32.mpr ?_
              rw [if_neg h5, if_pos (hle.mpr hw)]
              refine m_g23.mpr (m_a23.mpr ⟨(inb_nI (by omega)).mpr (by omega), ?_⟩)
              rw [rdL_nI (by omega), g2]
              exact next _ (by unfold tkV; rw [if_neg a1, ea, wd_self]) (by unfold tkF; rw [if_neg a1, ea]; simp [isW])
            · rw [if_neg ea]
              refine bad 3 ?_ (by decide)
              unfold tkF
              rw [if_neg a1]
              cases hq2 : isW ((wI 2).getD q 0) (lnT t q)
              · rfl
              · exfalso
                rcases htq with z | ⟨z1, z2⟩ | ⟨z, -⟩ | ⟨z, -⟩
                · exact a1 z
                · exact hw (isW_7 hq2 z1)
                · rw [z] at hq2 ea; exact ea (isW_8 hq2).symm
                · rw [z] at hq2 ea; exact ea (isW_9 hq2).symm
        by_cases h8 : 8 ≤ lnT t q
        · rw [if_pos h8]; exact m102
        · rw [if_neg h8, if_neg h5]; exact m102
  have := key t.length 0 (m.2.2 32) (by omega) I.l32 (fun p hp => absurd hp (Nat.not_lt_zero p)) rfl
  rw [mB_id] at this
  exact this
end Make2
