section Order4
variable {rs : List RowT} {ks : List KindT} {vs : List ValT} {tl : Nat → Nat → Nat → List Int32} {sc : Nat → Int32} {wI : Nat → List Int32} {wL : Nat → List Int64} {m : MS} {d d2 u : Nat} {v1 v2 v3 v5 v6 : Int32} {v4 : Int64} {W : Prop → Prop}
variable {cp mp h : MH}
theorem r_ordS {m0 : MS} (I : Inv rs ks vs tl sc wI wL m0) {Q : Int32 → MH → Prop} {n : Nat} (IH : ∀ n', n = n' + 1 → rOrd rs ks vs (fun m' => Inv rs ks vs tl sc wI wL m') m0 d cp u Q n') : rOrd rs ks vs (fun m' => Inv rs ks vs tl sc wI wL m') m0 d cp u Q n := by
  have hV := I.1.2.2.2.1.1
  have hRl := I.1.1.1
  intro i j v w k t R R' ek ee hdv hdw fs m s r hp hn H0 H1
  have h6 := R.2.2.2.2.2.1
  have ho := R.2.2.2.2.2.2.1
  have h12 : fs.length < 12 := by omega
  have key : ∀ (p q : Nat) (m : MS), q + p = t.length → firstF (cRec rs (cVal rs ks vs n) t v w) t.length 0 = firstF (cRec rs (cVal rs ks vs n) t v w) p q → Pil m0 m (fs ++ [(nI i, nI j, nI q, -1, s, r)]) → L_X12_ordered_12 d mo 0 (hJ cp (hM m)) u Q := by
    intro p
    induction p with
    | zero =>
      intro q m hq hf hp
      have : q = t.length := by omega
      subst this
      have J := I.pil hp
      obtain ⟨⟨a1, a2⟩, -, ⟨c1, c2⟩, -, -, -, g1, g2⟩ := hp.at h12
      unfold L_X12_ordered_12
      refine E_X12_ordered_12 ?_
      unfold F_X12_ordered_12
      rw [if_pos rfl]
      simp only [m_g35, g2]
      rw [if_neg (show ¬ nI (fs.length + 1) ≤ (0 : Int32) from nI_ge (a := 0) (by omega) (by omega))]
      refine ⟨m_rc, ?_⟩
      unfold F_X12_step
      simp only [m_g35, g2, pm1, m_g38, m_a38, c1, c2, m_g36, m_a36, a1, a2, true_and, m_rcT, R.partsOf J, m_p35, if_true]
      exact H0 hf _ hp.pop
    | succ p ih =>
      intro q m hq hf hp
      rw [firstF_s] at hf
      have hpa := part_aOK (R.2.2.2.2.2.2.2.2 q (by omega)) hdv
      have hpb := part_aOK (R'.2.2.2.2.2.2.2.2 q (by omega)) hdw
      have hl9 := lnT_9 ho (show q < t.length by omega)
      obtain ⟨l1, l2⟩ := lane_lt8 hl9
      have hle : (8 ≤ lnT t q) ↔ ¬ wi (lnT t q) 0 7 = true := by
        rw [← l1]
        rw [Int32.le_iff_toInt_le, Int32.lt_iff_toInt_lt]; omega
      have next : cRec rs (cVal rs ks vs n) t v w q = 0 → ∀ m', Pil m0 m' (fs ++ [(nI i, nI j, nI (q + 1), -1, s, r)]) → L_X12_ordered_12 d mo 0 (hJ cp (hM m')) u Q := by
        intro z m' hm'
        rw [if_pos z] at hf
        exact ih (q + 1) m' (by omega) hf hm'
      have stop : ¬ cRec rs (cVal rs ks vs n) t v w q = 0 → ∀ m', Inv rs ks vs tl sc wI wL m' → Q (cRec rs (cVal rs ks vs n) t v w q) (hJ cp (hM m')) := by
        intro z m' hm'
        rw [if_neg z] at hf
        have := H1 (by rw [hf]; exact z) m' hm'
        rw [hf] at this
        exact this
      -- an answer for this part is there
      have ret : ∀ (b : Int32) (m' : MS), b = cRec rs (cVal rs ks vs n) t v w q → Pil m0 m' (fs ++ [(nI i, nI j, nI (q + 1), -1, s, r)]) → L_X12_ordered_12 d mo b (hJ cp (hM m')) u Q := by
        intro b m' hb hm'
        subst hb
        exact o_ret (fun z => next z m' hm') (fun z => stop z m' (I.pil hm'))
      -- the step's beginning, whatever the cell is
      have begn : ∀ (m : MS) (z : Int32), Pil m0 m (fs ++ [(nI i, nI j, nI q, z, s, r)]) → (if lnT t q = 9 then (if v.2.2.2.2.2.2.getD q 0 < 0 then F_X12_step_115 d mo (nI fs.length) (v.2.2.2.2.2.2.getD q 0) (w.2.2.2.2.2.2.getD q 0) (lnT t q) (hJ cp (hM m)) 0 (fun x2 h => L_X12_ordered_12 d mo x2 h u Q) else if w.2.2.2.2.2.2.getD q 0 < 0 then F_X12_step_115 d mo (nI fs.length) (v.2.2.2.2.2.2.getD q 0) (w.2.2.2.2.2.2.getD q 0) (lnT t q) (hJ cp (hM m)) 0 (fun x2 h => L_X12_ordered_12 d mo x2 h u Q) else if v.2.2.2.2.2.2.getD q 0 = w.2.2.2.2.2.2.getD q 0 then F_X12_step_115 d mo (nI fs.length) (v.2.2.2.2.2.2.getD q 0) (w.2.2.2.2.2.2.getD q 0) (lnT t q) (hJ cp (hM m)) 0 (fun x2 h => L_X12_ordered_12 d mo x2 h u Q) else (
          gR (hJ cp (hM m)) mo 11 4 fun x18 => aI .int (hJ cp (hM m)) x18 (v.2.2.2.2.2.2.getD q 0).toInt32 fun x19 => gR (hJ cp (hM m)) mo 11 4 fun x20 => aI .int (hJ cp (hM m)) x20 (w.2.2.2.2.2.2.getD q 0).toInt32 fun x21 =>
          if x19 = x21 then gR (hJ cp (hM m)) mo 11 4 fun x22 => aI .int (hJ cp (hM m)) x22 (v.2.2.2.2.2.2.getD q 0).toInt32 fun x23 => if x23 = 8 then gR (hJ cp (hM m)) mo 11 39 fun x24 => aI .int (hJ cp (hM m)) x24 (nI fs.length) fun x25 => sV .int (hJ cp (hM m)) x24 (nI fs.length) (jI (x25 + 1)) fun h => gR h mo 11 39 fun x26 => aI .int h x26 (nI fs.length) fun x27 => gR h mo 11 5 fun x28 => aI .int h x28 (v.2.2.2.2.2.2.getD q 0).toInt32 fun x29 => if x29 ≤ x27 then F_X12_step_346 d mo (nI fs.length) (v.2.2.2.2.2.2.getD q 0).toInt32 (w.2.2.2.2.2.2.getD q 0).toInt32 h 0 (fun x2 h => L_X12_ordered_12 d mo x2 h u Q) else gR h mo 11 5 fun x30 => aI .int h x30 (w.2.2.2.2.2.2.getD q 0).toInt32 fun x31 => if x31 ≤ x27 then F_X12_step_346 d mo (nI fs.length) (v.2.2.2.2.2.2.getD q 0).toInt32 (w.2.2.2.2.2.2.getD q 0).toInt32 h 0 (fun x2 h => L_X12_ordered_12 d mo x2 h u Q) else gR h mo 11 7 fun x32 => aL h x32 ((20 * (v.2.2.2.2.2.2.getD q 0).toInt32) + x27) fun x33 => gR h mo 11 7 fun x34 => aL h x34 ((20 * (w.2.2.2.2.2.2.getD q 0).toInt32) + x27) fun x35 => rc h mo 11 ∧ F_X12_meet (d + 1) mo (x33.toInt32) (x35.toInt32) h 0 fun x36 h => L_X12_ordered_12 d mo x36 h u Q
            else gR (hJ cp (hM m)) mo 11 38 fun x37 => aI .int (hJ cp (hM m)) x37 (nI fs.length) fun x38 => sV .int (hJ cp (hM m)) x37 (nI fs.length) (jI (x38 + 1)) fun h => rc h mo 11 ∧ F_X12_numbers d mo (v.2.2.2.2.2.2.getD q 0).toInt32 (w.2.2.2.2.2.2.getD q 0).toInt32 h 0 fun x39 h => L_X12_ordered_12 d mo x39 h u Q
          else gR (hJ cp (hM m)) mo 11 4 fun x40 => aI .int (hJ cp (hM m)) x40 (v.2.2.2.2.2.2.getD q 0).toInt32 fun x41 => gR (hJ cp (hM m)) mo 11 4 fun x42 => aI .int (hJ cp (hM m)) x42 (w.2.2.2.2.2.2.getD q 0).toInt32 fun x43 => F_X12_sign (d + 2) x41 x43 (hJ cp (hM m)) 0 fun x44 h => L_X12_ordered_12 d mo x44 h u Q))
        else F_X12_step_115 d mo (nI fs.length) (v.2.2.2.2.2.2.getD q 0) (w.2.2.2.2.2.2.getD q 0) (lnT t q) (hJ cp (hM m)) 0 (fun x2 h => L_X12_ordered_12 d mo x2 h u Q)) → L_X12_ordered_12 d mo 0 (hJ cp (hM m)) u Q := by
        intro m z hp hh
        have J := I.pil hp
        obtain ⟨⟨a1, a2⟩, ⟨b1, b2⟩, ⟨c1, c2⟩, -, -, -, g1, g2⟩ := hp.at h12
        obtain ⟨p1, p2⟩ := R.p31 J (show q < t.length by omega)
        obtain ⟨p3, p4⟩ := R'.p31 J (show q < t.length by omega)
        unfold L_X12_ordered_12
        refine E_X12_ordered_12 ?_
        unfold F_X12_ordered_12
        rw [if_pos rfl]
        simp only [m_g35, g2]
        rw [if_neg (show ¬ nI (fs.length + 1) ≤ (0 : Int32) from nI_ge (a := 0) (by omega) (by omega))]
        refine ⟨m_rc, ?_⟩
        unfold F_X12_step
        simp only [m_g35, g2, pm1, m_g38, m_a38, c1, c2, m_g36, m_a36, a1, a2, true_and, m_rcT, R.partsOf J, m_g31, m_a31, p1, p2, m_g37, m_a37, b1, b2, p3, p4, R.laneOf J (show q < t.length by omega)]
        rw [if_neg (fun z => by have := (nI_eq (by omega) (by omega)).mp z; omega)]
        simp only [lg_cmp_lt, lg_cmp_eq]
        simp only [m_g38, m_a38, c1, c2, true_and, m_rcT] at hh
        exact hh
      -- goPart
      have adv : ∀ (m : MS) (z : Int32), Pil m0 m (fs ++ [(nI i, nI j, nI q, z, s, r)]) → ∀ K : MH → Prop, (∀ m', Pil m0 m' (fs ++ [(nI i, nI j, nI (q + 1), z, s, r)]) → K (hJ cp (hM m'))) → gR (hJ cp (hM m)) mo 11 38 fun x1 => aI .int (hJ cp (hM m)) x1 (nI fs.length) fun x2 => sV .int (hJ cp (hM m)) x1 (nI fs.length) (jI (x2 + 1)) K := by
        intro m z hp K hK
        obtain ⟨-, -, ⟨c1, c2⟩, -⟩ := hp.at h12
        refine m_g38.mpr (m_a38.mpr ⟨c1, m_s38.mpr ⟨c1, ?_⟩⟩)
        rw [c2, nI_clamp (by omega), nI_1]
        exact hK _ (hp.set h12 (k := 38) (Or.inr (Or.inr (Or.inl ⟨rfl, rfl⟩))))
      by_cases l9 : lnT t q = 9
      · have eA : cRec rs (cVal rs ks vs n) t v w q = cRef rs (cVal rs ks vs n) (v.2.2.2.2.2.2.getD q 0) (w.2.2.2.2.2.2.getD q 0) := by
          unfold cRec cAny
          rw [if_neg (by rw [l9]; decide), if_pos l9]
        have h7 : ¬ wi (lnT t q) 0 7 = true := by rw [l9]; decide
        -- the plain end of a row part
        have s115 : ∀ b : Int32, b = cRec rs (cVal rs ks vs n) t v w q → b = (if v.2.2.2.2.2.2.getD q 0 = w.2.2.2.2.2.2.getD q 0 then 0 else if 0 ≤ v.2.2.2.2.2.2.getD q 0 then (if 0 ≤ w.2.2.2.2.2.2.getD q 0 then 0 else 1) else -1) → F_X12_step_115 d mo (nI fs.length) (v.2.2.2.2.2.2.getD q 0) (w.2.2.2.2.2.2.getD q 0) (lnT t q) (hJ cp (hM m)) 0 (fun x2 h => L_X12_ordered_12 d mo x2 h u Q) := by
          intro b hb hb2
          unfold F_X12_step_115
          refine adv m (-1) hp _ (fun m' hm' => ?_)
          rw [if_pos (hle.mpr h7), if_neg (by rw [l9]; decide)]
          simp only [lg_cmp_eq, lg_cmp_ge]
          by_cases x1 : v.2.2.2.2.2.2.getD q 0 = w.2.2.2.2.2.2.getD q 0
          · rw [if_pos x1] at hb2 ⊢
            exact ret 0 m' (hb2.symm.trans hb) hm'
          · rw [if_neg x1] at hb2 ⊢
            by_cases x2 : 0 ≤ v.2.2.2.2.2.2.getD q 0
            · rw [if_pos x2] at hb2 ⊢
              by_cases x3 : 0 ≤ w.2.2.2.2.2.2.getD q 0
              · rw [if_pos x3] at hb2 ⊢
                exact ret 0 m' (hb2.symm.trans hb) hm'
              · rw [if_neg x3] at hb2 ⊢
                exact ret 1 m' (hb2.symm.trans hb) hm'
            · rw [if_neg x2] at hb2 ⊢
              exact ret (-1) m' (hb2.symm.trans hb) hm'
        rcases hpa.2.2 l9 with za | ⟨ra', ra, za, hra, hca⟩
        · refine begn m (-1) hp ?_
          rw [if_pos l9, if_pos (by rw [za]; decide)]
          rcases hpb.2.2 l9 with zb | ⟨rb', rb, zb, hrb, hcb⟩
          · refine s115 0 ?_ ?_
            · rw [eA, za, zb]; exact (cRef_self (cVal_self n)).symm
            · rw [if_pos (by rw [za, zb])]
          · have hrbl := (List.getElem?_eq_some_iff.mp hrb).1
            refine s115 (-1) ?_ ?_
            · rw [eA, za, zb]
              unfold cRef
              rw [ixL_m1, ixL_lN hrbl (by omega)]
            · rw [if_neg (by
                rw [za, zb]
                intro e
                have := congrArg Int64.toInt e
                rw [lN_toInt (by omega)] at this
                have e1 : (-1 : Int64).toInt = -1 := by decide
                omega), if_neg (by rw [za]; decide)]
        · have hral := (List.getElem?_eq_some_iff.mp hra).1
          have n0a : ¬ lN ra' < 0 := by rw [Int64.lt_iff_toInt_lt, lN_toInt (by omega)]; simp
          have p0a : (0 : Int64) ≤ lN ra' := by rw [Int64.le_iff_toInt_le, lN_toInt (by omega)]; simp
          rcases hpb.2.2 l9 with zb | ⟨rb', rb, zb, hrb, hcb⟩
          · refine begn m (-1) hp ?_
            rw [if_pos l9, if_neg (by rw [za]; exact n0a), if_pos (by rw [zb]; decide)]
            refine s115 1 ?_ ?_
            · rw [eA, za, zb]
              unfold cRef
              rw [ixL_m1, ixL_lN hral (by omega)]
            · rw [if_neg (by
                rw [za, zb]
                intro e
                have := congrArg Int64.toInt e
                rw [lN_toInt (by omega)] at this
                have e1 : (-1 : Int64).toInt = -1 := by decide
                omega), if_pos (by rw [za]; exact p0a), if_neg (by rw [zb]; decide)]
          · have hrbl := (List.getElem?_eq_some_iff.mp hrb).1
            have n0b : ¬ lN rb' < 0 := by rw [Int64.lt_iff_toInt_lt, lN_toInt (by omega)]; simp
            by_cases eab : ra' = rb'
            · refine begn m (-1) hp ?_
              rw [if_pos l9, if_neg (by rw [za]; exact n0a), if_neg (by rw [zb]; exact n0b), if_pos (by rw [za, zb, eab])]
              refine s115 0 ?_ ?_
              · rw [eA, za, zb, eab]; exact (cRef_self (cVal_self n)).symm
              · rw [if_pos (by rw [za, zb, eab])]
            · have neab : ¬ v.2.2.2.2.2.2.getD q 0 = w.2.2.2.2.2.2.getD q 0 := by
                rw [za, zb]
                intro e
                have := congrArg Int64.toInt e
                rw [lN_toInt (by omega), lN_toInt (by omega)] at this
                omega
              have eR : cRec rs (cVal rs ks vs n) t v w q = cRows (cVal rs ks vs n) ra rb := by
                rw [eA, za, zb]
                unfold cRef
                rw [ixL_lN hral (by omega), ixL_lN hrbl (by omega)]
                simp only [hra, hrb]
              have t32a : (v.2.2.2.2.2.2.getD q 0).toInt32 = nI ra' := by rw [za]; exact lN_32 (by omega)
              have t32b : (w.2.2.2.2.2.2.getD q 0).toInt32 = nI rb' := by rw [zb]; exact lN_32 (by omega)
              obtain ⟨oka, h20a, oka3, -⟩ := I.1.1.2 ra (List.mem_of_getElem? hra)
              obtain ⟨okb, h20b, okb3, -⟩ := I.1.1.2 rb (List.mem_of_getElem? hrb)
              by_cases el : ra.1 = rb.1
              · by_cases r8 : ra.1 = 8
                · have r8b : rb.1 = 8 := el.symm.trans r8
                  have eC : cRows (cVal rs ks vs n) ra rb = if firstF (fun c => cG (cVal rs ks vs n) ra.1 (ra.2.2.getD c 0) (rb.2.2.getD c 0)) (min ra.2.2.length rb.2.2.length) 0 = 0 then lsf (nI ra.2.2.length).toInt64 (nI rb.2.2.length).toInt64 else firstF (fun c => cG (cVal rs ks vs n) ra.1 (ra.2.2.getD c 0) (rb.2.2.getD c 0)) (min ra.2.2.length rb.2.2.length) 0 := by
                    unfold cRows
                    rw [if_pos (by rw [el]; exact lsf_self)]
                  have cells : ∀ (pc c : Nat) (z : Int32) (m : MS), z + 1 = nI c → c + pc = min ra.2.2.length rb.2.2.length → firstF (fun c => cG (cVal rs ks vs n) ra.1 (ra.2.2.getD c 0) (rb.2.2.getD c 0)) (min ra.2.2.length rb.2.2.length) 0 = firstF (fun c => cG (cVal rs ks vs n) ra.1 (ra.2.2.getD c 0) (rb.2.2.getD c 0)) pc c → Pil m0 m (fs ++ [(nI i, nI j, nI q, z, s, r)]) → L_X12_ordered_12 d mo 0 (hJ cp (hM m)) u Q := by
                    intro pc
                    induction pc with
                    | zero =>
                      intro c z m hz hc hfc hp
                      have J := I.pil hp
                      obtain ⟨-, -, -, ⟨d1, d2⟩, -⟩ := hp.at h12
                      obtain ⟨-, ⟨a1, a2⟩, -⟩ := J.2.1.at hRl hra
                      obtain ⟨-, ⟨b1, b2⟩, -⟩ := J.2.1.at hRl hrb
                      refine begn m z hp ?_
                      rw [if_pos l9, if_neg (by rw [za]; exact n0a), if_neg (by rw [zb]; exact n0b), if_neg neab]
                      simp only [t32a, t32b, m_g4, m_a4, a1, a2, b1, b2, true_and]
                      rw [if_pos el, if_pos r8]
                      simp only [m_g39, m_a39, d1, d2, true_and]
                      refine m_s39.mpr ⟨d1, ?_⟩
                      rw [nI_clamp (by omega), hz]
                      have hp2 := hp.set h12 (k := 39) (x := nI c) (Or.inr (Or.inr (Or.inr (Or.inl ⟨rfl, rfl⟩))))
                      have J2 := I.pil hp2
                      obtain ⟨-, -, -, ⟨d3, d4⟩, -⟩ := hp2.at h12
                      obtain ⟨-, -, ⟨a3, a4⟩, -, -⟩ := J2.2.1.at hRl hra
                      obtain ⟨-, -, ⟨b3, b4⟩, -, -⟩ := J2.2.1.at hRl hrb
                      simp only [m_g39, m_a39, d3, d4, m_g5, m_a5, a3, a4, b3, b4, true_and]
                      have s346 : F_X12_step_346 d mo (nI fs.length) (nI ra') (nI rb') (hJ cp (hM (mA m 39 ((m.2.1 39).set fs.length (nI c))))) 0 (fun x2 h => L_X12_ordered_12 d mo x2 h u Q) := by
                        unfold F_X12_step_346
                        refine m_g39.mpr (m_s39.mpr ⟨d3, ?_⟩)
                        rw [nI_clamp (by omega)]
                        have hp3 := hp2.set h12 (k := 39) (x := -1) (Or.inr (Or.inr (Or.inr (Or.inl ⟨rfl, rfl⟩))))
                        refine adv _ (-1) hp3 _ (fun m' hm' => ?_)
                        have J3 := I.pil hm'
                        obtain ⟨-, -, ⟨a5, a6⟩, -, -⟩ := J3.2.1.at hRl hra
                        obtain ⟨-, -, ⟨b5, b6⟩, -, -⟩ := J3.2.1.at hRl hrb
                        simp only [m_g5, m_a5, a5, a6, b5, b6, true_and, g_sign]
                        refine ret _ m' ?_ hm'
                        rw [eR, eC, if_pos (by rw [hfc]; rfl)]
                      by_cases y1 : ra.2.2.length ≤ c
                      · rw [if_pos (nI_le y1 (by omega))]
                        exact s346
                      · rw [if_neg (nI_ge (by omega) (by omega)), if_pos (nI_le (by omega) (by omega))]
                        exact s346
                    | succ pc ihc =>
                      intro c z m hz hc hfc hp
                      obtain ⟨ya, hya⟩ := get_lt (show c < ra.2.2.length by omega)
                      obtain ⟨yb, hyb⟩ := get_lt (show c < rb.2.2.length by omega)
                      rw [firstF_s] at hfc
                      have ea : ra.2.2.getD c 0 = ya := by simp [List.getD_eq_getElem?_getD, hya]
                      have eb : rb.2.2.getD c 0 = yb := by simp [List.getD_eq_getElem?_getD, hyb]
                      have eG : cG (cVal rs ks vs n) ra.1 (ra.2.2.getD c 0) (rb.2.2.getD c 0) = cVal rs ks vs n ya yb := by
                        unfold cG
                        rw [if_pos r8, ea, eb]
                      rw [eG] at hfc
                      have J := I.pil hp
                      obtain ⟨-, -, -, ⟨d1, d2⟩, -⟩ := hp.at h12
                      obtain ⟨-, ⟨a1, a2⟩, -⟩ := J.2.1.at hRl hra
                      obtain ⟨-, ⟨b1, b2⟩, -⟩ := J.2.1.at hRl hrb
                      refine begn m z hp ?_
                      rw [if_pos l9, if_neg (by rw [za]; exact n0a), if_neg (by rw [zb]; exact n0b), if_neg neab]
                      simp only [t32a, t32b, m_g4, m_a4, a1, a2, b1, b2, true_and]
                      rw [if_pos el, if_pos r8]
                      simp only [m_g39, m_a39, d1, d2, true_and]
                      refine m_s39.mpr ⟨d1, ?_⟩
                      rw [nI_clamp (by omega), hz]
                      have hp2 := hp.set h12 (k := 39) (x := nI c) (Or.inr (Or.inr (Or.inr (Or.inl ⟨rfl, rfl⟩))))
                      have J2 := I.pil hp2
                      obtain ⟨-, -, -, ⟨d3, d4⟩, -⟩ := hp2.at h12
                      obtain ⟨-, -, ⟨a3, a4⟩, -, a7⟩ := J2.2.1.at hRl hra
                      obtain ⟨-, -, ⟨b3, b4⟩, -, b7⟩ := J2.2.1.at hRl hrb
                      obtain ⟨e1, e2⟩ := a7 c (by omega) h20a
                      obtain ⟨e3, e4⟩ := b7 c (by omega) h20b
                      simp only [m_g39, m_a39, d3, d4, m_g5, m_a5, a3, a4, b3, b4, true_and]
                      rw [if_neg (nI_ge (by omega) (by omega)), if_neg (nI_ge (by omega) (by omega))]
                      simp only [m_g7, m_a7, e1, e2, e3, e4, true_and, ea, eb, m_rcT]
                      refine g_meet I IH hp2 (hca r8 ya (List.mem_of_getElem? hya)) (hcb r8b yb (List.mem_of_getElem? hyb)) (by simp; omega) (fun zz m' hm' => ?_) (fun zz m' hm' => ?_)
                      · rw [if_pos zz] at hfc
                        exact ihc (c + 1) (nI c) m' (by rw [nI_1]) (by omega) hfc hm'
                      · rw [if_neg zz] at hfc
                        have e9 : cRec rs (cVal rs ks vs n) t v w q = cVal rs ks vs n ya yb := by rw [eR, eC, hfc, if_neg zz]
                        have := stop (by rw [e9]; exact zz) m' hm'
                        rw [e9] at this
                        exact this
                  exact cells (min ra.2.2.length rb.2.2.length) 0 (-1) m (by decide) (by omega) rfl hp
                · have J := I.pil hp
                  obtain ⟨-, ⟨a1, a2⟩, -⟩ := J.2.1.at hRl hra
                  obtain ⟨-, ⟨b1, b2⟩, -⟩ := J.2.1.at hRl hrb
                  refine begn m (-1) hp ?_
                  rw [if_pos l9, if_neg (by rw [za]; exact n0a), if_neg (by rw [zb]; exact n0b), if_neg neab]
                  simp only [t32a, t32b, m_g4, m_a4, a1, a2, b1, b2, true_and]
                  rw [if_pos el, if_neg r8]
                  refine adv m (-1) hp _ (fun m' hm' => ⟨m_rc, ?_⟩)
                  refine g_numbers (f := cVal rs ks vs n) (I.pil hm') hra hrb el.symm r8 ?_
                  exact ret _ m' eR.symm hm'
              · have J := I.pil hp
                obtain ⟨-, ⟨a1, a2⟩, -⟩ := J.2.1.at hRl hra
                obtain ⟨-, ⟨b1, b2⟩, -⟩ := J.2.1.at hRl hrb
                refine begn m (-1) hp ?_
                rw [if_pos l9, if_neg (by rw [za]; exact n0a), if_neg (by rw [zb]; exact n0b), if_neg neab]
                simp only [t32a, t32b, m_g4, m_a4, a1, a2, b1, b2, true_and]
                rw [if_neg el]
                simp only [g_sign]
                have hl0 : ¬ lsf ra.1.toInt64 rb.1.toInt64 = 0 := by
                  unfold lsf
                  rw [if_neg (fun e => el (by rw [← Int64.toInt_inj, Int32.toInt_toInt64, Int32.toInt_toInt64, Int32.toInt_inj] at e; exact e))]
                  split <;> decide
                have e9 : cRec rs (cVal rs ks vs n) t v w q = lsf ra.1.toInt64 rb.1.toInt64 := by
                  rw [eR]
                  unfold cRows
                  rw [if_neg hl0]
                refine o_ret (fun z => absurd z hl0) (fun _ => ?_)
                have := stop (by rw [e9]; exact hl0) m J
                rw [e9] at this
                exact this
      · refine begn m (-1) hp ?_
        rw [if_neg l9]
        unfold F_X12_step_115
        refine adv m (-1) hp _ (fun m' hm' => ?_)
        by_cases h7 : wi (lnT t q) 0 7 = true
        · rw [if_neg (fun z => hle.mp z h7)]
          refine g_compared h7 (hpa.1 h7) (hpb.1 h7) (ret _ m' ?_ hm')
          unfold cRec cAny
          rw [if_neg (fun z => by rw [z] at h7; exact absurd h7 (by decide)), if_neg l9]
        · have l8 : lnT t q = 8 := by rcases l2 h7 with z | z; exact z; exact absurd z l9
          rw [if_pos (hle.mpr h7), if_pos l8]
          have e9 : cRec rs (cVal rs ks vs n) t v w q = cVal rs ks vs n (v.2.2.2.2.2.2.getD q 0) (w.2.2.2.2.2.2.getD q 0) := by
            unfold cRec cAny
            rw [if_pos l8]
          rw [e9] at next stop
          exact ⟨m_rc, g_meet I IH hm' (hpa.2.1 l8) (hpb.2.1 l8) (by simp; omega) next stop⟩
  exact key t.length 0 m (by omega) rfl hp
theorem r_ord {m0 : MS} (I : Inv rs ks vs tl sc wI wL m0) {Q : Int32 → MH → Prop} : ∀ n, rOrd rs ks vs (fun m' => Inv rs ks vs tl sc wI wL m') m0 d cp u Q n
  | 0 => r_ordS I (fun n' h => by omega)
  | n + 1 => r_ordS I (fun n' h => by
    have : n' = n := by omega
    subst this
    exact r_ord I n')
theorem g_ordered (I : Inv rs ks vs tl sc wI wL m) {i j : Nat} {v w : ValT} (hi : vs[i]? = some v) (hj : vs[j]? = some w) {Q : Int32 → MH → Prop} (H : ∀ m', Inv rs ks vs tl sc wI wL m' → Q (cVal rs ks vs 8 (lN i) (lN j)) (hJ cp (hM m'))) : F_X12_ordered d mo (nI i) (nI j) (hJ cp (hM m)) u Q := by
  have hV := I.1.2.2.2.1.1
  have hil := (List.getElem?_eq_some_iff.mp hi).1
  have hjl := (List.getElem?_eq_some_iff.mp hj).1
  obtain ⟨_, _, -, -, -, -, -, dv2, -⟩ := I.1.2.2.2.1.2 i v hi
  obtain ⟨_, _, -, -, -, -, -, dw2, -⟩ := I.1.2.2.2.1.2 j w hj
  unfold F_X12_ordered
  refine m_p35.mpr ⟨m_rc, ?_⟩
  have := g_meet (d := d) (u := u) (cp := cp) (Q := Q) (d1 := d + 2) (n := 8) I (fun n' _ => r_ord I n') I.pil0 (Or.inr ⟨i, v, rfl, hi, dv2⟩) (Or.inr ⟨j, w, rfl, hj, dw2⟩) (by simp) (fun z m' hm' => ?_) (fun z m' hm' => ?_)
  · rw [lN_32 (by omega), lN_32 (by omega)] at this
    exact this
  · unfold L_X12_ordered_12
    refine E_X12_ordered_12 ?_
    unfold F_X12_ordered_12
    rw [if_pos rfl]
    refine m_g35.mpr ?_
    rw [hm'.len, if_pos (by decide)]
    have := H m' (I.pil hm')
    rw [z] at this
    exact this
  · exact H m' hm'
theorem op_order (I : Inv rs ks vs tl sc wI wL m) (hW : ∀ X, X → W X) {K : Int32 → Int32 → MH → Prop} (hK : KI K) : F_X11_order (d + 45) br v1 v2 (hX rs ks vs tl sc wI wL m) u (fun a h => W (rc h mo 11 ∧ F_X12_order d2 mo v1 v2 h 0 (fun b h => K a b h))) := by
  have hR := I.1.1.1; have hV := I.1.2.2.2.1.1; have hKd := I.1.2.1.1; have hRm := I.2.1; have hKm := I.2.2.1; have hVm := I.2.2.2.1; have hMm := I.2.2.2.2
  unfold F_X11_order
  simp only [c_g1_0, c_rc2, true_and, f_findValue hV, ixL_i]
  rcases hx : ix v1 vs.length with _ | i
  · simp only [Option.map_none, nl_none]
    refine hW _ ⟨m_rc, ?_⟩
    unfold F_X12_order
    simp only [m_rcT, g_isValue hV hVm.1, hx, if_b2i, Option.isSome_some, Option.isSome_none, Bool.true_eq_false, Bool.false_eq_true, if_false, if_true, true_and]
    exact hK _ _ _ _ _ _ _ _ _ I
  obtain ⟨h1, rfl, -, -⟩ := ix_some hx
  obtain ⟨v, hi⟩ := get_lt h1
  simp only [Option.map_some, nl_some]
  rcases hy : ix v2 vs.length with _ | j
  · simp only [Option.map_none, nl_none]
    refine hW _ ⟨m_rc, ?_⟩
    unfold F_X12_order
    simp only [m_rcT, g_isValue hV hVm.1, hx, hy, if_b2i, Option.isSome_some, Option.isSome_none, Bool.true_eq_false, Bool.false_eq_true, if_false, if_true, true_and]
    exact hK _ _ _ _ _ _ _ _ _ I
  obtain ⟨h2, rfl, -, -⟩ := ix_some hy
  obtain ⟨w, hj⟩ := get_lt h2
  obtain ⟨_, _, -, -, -, -, -, dv2, -⟩ := I.1.2.2.2.1.2 i v hi
  obtain ⟨_, _, -, -, -, -, -, dw2, -⟩ := I.1.2.2.2.1.2 j w hj
  simp only [Option.map_some, nl_some, c_g1_3]
  refine ⟨rfl, ?_⟩
  have hs := s_cmpValues (mp := hM m) I 8 (lN i) (lN j) (Or.inr ⟨i, v, rfl, hi, dv2⟩) (Or.inr ⟨j, w, rfl, hj, dw2⟩) (d + 43) u (fun x4 h u => (fun a h => W (rc h mo 11 ∧ F_X12_order d2 mo (nI i) (nI j) h 0 (fun b h => K a b h))) (x4 - 100) h) (by omega)
  unfold rfV at hs
  rw [ixL_lN h1 (by omega), ixL_lN h2 (by omega)] at hs
  refine hs ?_
  refine hW _ ⟨m_rc, ?_⟩
  unfold F_X12_order
  simp only [m_rcT, g_isValue hV hVm.1, hx, hy, if_b2i, Option.isSome_some, Option.isSome_none, Bool.true_eq_false, Bool.false_eq_true, if_false, if_true, true_and]
  refine g_ordered I hi hj (fun m' hm' => ?_)
  exact hK _ _ _ _ _ _ _ _ _ hm'
theorem op_equal (I : Inv rs ks vs tl sc wI wL m) (hW : ∀ X, X → W X) {K : Int32 → Int32 → MH → Prop} (hK : KI K) : F_X11_equal (d + 45) br v1 v2 (hX rs ks vs tl sc wI wL m) u (fun a h => W (rc h mo 11 ∧ F_X12_equal d2 mo v1 v2 h 0 (fun b h => K a b h))) := by
  have hR := I.1.1.1; have hV := I.1.2.2.2.1.1; have hKd := I.1.2.1.1; have hRm := I.2.1; have hKm := I.2.2.1; have hVm := I.2.2.2.1; have hMm := I.2.2.2.2
  unfold F_X11_equal
  simp only [c_g1_0, c_rc2, true_and, f_findValue hV, ixL_i]
  rcases hx : ix v1 vs.length with _ | i
  · simp only [Option.map_none, nl_none]
    refine hW _ ⟨m_rc, ?_⟩
    unfold F_X12_equal
    simp only [m_rcT, g_isValue hV hVm.1, hx, if_b2i, Option.isSome_some, Option.isSome_none, Bool.true_eq_false, Bool.false_eq_true, if_false, if_true, true_and]
    exact hK _ _ _ _ _ _ _ _ _ I
  obtain ⟨h1, rfl, -, -⟩ := ix_some hx
  obtain ⟨v, hi⟩ := get_lt h1
  simp only [Option.map_some, nl_some]
  rcases hy : ix v2 vs.length with _ | j
  · simp only [Option.map_none, nl_none]
    refine hW _ ⟨m_rc, ?_⟩
    unfold F_X12_equal
    simp only [m_rcT, g_isValue hV hVm.1, hx, hy, if_b2i, Option.isSome_some, Option.isSome_none, Bool.true_eq_false, Bool.false_eq_true, if_false, if_true, true_and]
    exact hK _ _ _ _ _ _ _ _ _ I
  obtain ⟨h2, rfl, -, -⟩ := ix_some hy
  obtain ⟨w, hj⟩ := get_lt h2
  obtain ⟨_, _, -, -, -, -, -, dv2, -⟩ := I.1.2.2.2.1.2 i v hi
  obtain ⟨_, _, -, -, -, -, -, dw2, -⟩ := I.1.2.2.2.1.2 j w hj
  simp only [Option.map_some, nl_some, c_g1_3]
  refine ⟨rfl, ?_⟩
  have o0 : ∀ {d : Nat} {Q : Int32 → MH → Prop} {h : MH}, F_X11_oneIf d 0 h 0 Q ↔ Q 0 h := f_oneIf (b := false)
  have o1 : ∀ {d : Nat} {Q : Int32 → MH → Prop} {h : MH}, F_X11_oneIf d 1 h 0 Q ↔ Q 1 h := f_oneIf (b := true)
  simp only [o0, o1]
  have hs := s_cmpValues (mp := hM m) I 8 (lN i) (lN j) (Or.inr ⟨i, v, rfl, hi, dv2⟩) (Or.inr ⟨j, w, rfl, hj, dw2⟩) (d + 43) u (fun x6 h u => if x6 = 0 then (fun a h => W (rc h mo 11 ∧ F_X12_equal d2 mo (nI i) (nI j) h 0 (fun b h => K a b h))) 1 h else (fun a h => W (rc h mo 11 ∧ F_X12_equal d2 mo (nI i) (nI j) h 0 (fun b h => K a b h))) 0 h) (by omega)
  unfold rfV at hs
  rw [ixL_lN h1 (by omega), ixL_lN h2 (by omega)] at hs
  refine hs ?_
  by_cases z : cVal rs ks vs 8 (lN i) (lN j) = 0
  · rw [if_pos z]
    refine hW _ ⟨m_rc, ?_⟩
    unfold F_X12_equal
    simp only [m_rcT, g_isValue hV hVm.1, hx, hy, if_b2i, Option.isSome_some, Option.isSome_none, Bool.true_eq_false, Bool.false_eq_true, if_false, if_true, true_and]
    refine g_ordered I hi hj (fun m' hm' => ?_)
    rw [z, if_pos rfl]
    exact hK _ _ _ _ _ _ _ _ _ hm'
  · rw [if_neg z]
    refine hW _ ⟨m_rc, ?_⟩
    unfold F_X12_equal
    simp only [m_rcT, g_isValue hV hVm.1, hx, hy, if_b2i, Option.isSome_some, Option.isSome_none, Bool.true_eq_false, Bool.false_eq_true, if_false, if_true, true_and]
    refine g_ordered I hi hj (fun m' hm' => ?_)
    rw [if_neg z]
    exact hK _ _ _ _ _ _ _ _ _ hm'
end Order4
