section Show
variable {rs : List RowT} {ks : List KindT} {vs : List ValT} {tl : Nat → Nat → Nat → List Int32} {sc : Nat → Int32} {wI : Nat → List Int32} {wL : Nat → List Int64} {m : MS} {d d2 u : Nat} {v1 v2 v3 v5 v6 : Int32} {v4 : Int64} {W : Prop → Prop}
variable {cp mp h : MH} {m0 : MS} {X : TS} {fs : List Fr}
theorem tAdd_pre {s f : List Int32} (h : s <+: f) (hn : tAdd X s = none) : tAdd X f = none := by
  obtain ⟨r, rfl⟩ := h
  rw [← tAdd_app, hn]; rfl
theorem sPs_pre {f : Int64 → List Int32} {t : List ET} {ps : List Int64} {q q' : Nat} (h : q ≤ q') : sPs rs f t ps q <+: sPs rs f t ps q' := by
  induction q' with
  | zero => rw [show q = 0 by omega]; exact List.prefix_refl _
  | succ q' ih =>
    rcases Nat.lt_or_ge q (q' + 1) with z | z
    · exact (ih (by omega)).trans (List.prefix_append _ _)
    · rw [show q = q' + 1 by omega]; exact List.prefix_refl _
theorem sCl_pre {f : Int64 → List Int32} {row : RowT} {q q' : Nat} (h : q ≤ q') : sCl f row q <+: sCl f row q' := by
  induction q' with
  | zero => rw [show q = 0 by omega]; exact List.prefix_refl _
  | succ q' ih =>
    rcases Nat.lt_or_ge q (q' + 1) with z | z
    · exact (ih (by omega)).trans (List.prefix_append _ _)
    · rw [show q = q' + 1 by omega]; exact List.prefix_refl _
/-- too long: the loop ends -/
theorem l_none (hD : DP m0 m none) (hp : Pil m m fs) (h12 : fs.length ≤ 12) {Q : Int32 → MH → Prop} (H : Q (-4) (hJ cp (hM m))) : L_X12_show_25 d mo (hJ cp (hM m)) u Q := by
  have e43 : m.1 43 = nI 4001 := hD.2.2.2.2
  unfold L_X12_show_25
  refine E_X12_show_25 ?_
  unfold F_X12_show_25
  simp only [m_g35, hp.len, m_g43, e43]
  rw [if_neg (show ¬ nI 4001 ≤ (4000 : Int32) by decide), if_pos (show (4000 : Int32) < nI 4001 by decide)]
  split
  · exact H
  · exact H
def rShow (rs : List RowT) (ks : List KindT) (vs : List ValT) (m0 : MS) (d : Nat) (cp : MH) (u : Nat) (Q : Int32 → MH → Prop) (G : Prop) (n : Nat) : Prop := ∀ (i : Nat) (v : ValT) (k : KindT) (t : List ET), RecV rs ks vs i v k t → v.2.2.2.2.2.1 ≤ n + 1 → ∀ (fs : List Fr) (m : MS) (X : TS) (b s r : Int32), DP m0 m X → Pil m m (fs ++ [(nI i, b, 0, -1, s, r)]) → fs.length + 1 + n ≤ 12 → (tAdd X (sPs rs (sVal rs ks vs n) t v.2.2.2.2.2.2 t.length ++ [41]) = none → G) → (∀ m', DP m0 m' (tAdd X (sPs rs (sVal rs ks vs n) t v.2.2.2.2.2.2 t.length ++ [41])) → Pil m' m' fs → L_X12_show_25 d mo (hJ cp (hM m')) u Q) → L_X12_show_25 d mo (hJ cp (hM m)) u Q
theorem g_saysThing (I : Inv rs ks vs tl sc wI wL m0) {G : Prop} {Q : Int32 → MH → Prop} {n d1 : Nat} (IH : ∀ n', n = n' + 1 → rShow rs ks vs m0 d cp u Q G n') {x : Int64} (hD : DP m0 m X) (hp : Pil m m fs) (hx : tOK vs n x) (hn : fs.length + n ≤ 12) (hG : tAdd X (sVal rs ks vs n x) = none → G) (H : ∀ m', DP m0 m' (tAdd X (sVal rs ks vs n x)) → Pil m' m' fs → L_X12_show_25 d mo (hJ cp (hM m')) u Q) : F_X12_saysThing d1 mo x.toInt32 (hJ cp (hM m)) 0 (fun h => L_X12_show_25 d mo h u Q) := by
  have J := I.dp hD hp
  have hV := I.1.2.2.2.1.1
  unfold F_X12_saysThing
  rcases hx with rfl | ⟨i, v, rfl, hi, hdv⟩
  · rw [if_neg (by decide)]
    rw [sVal_m1] at H
    exact ⟨m_rc, g_says (bK (by decide)) hD hp H⟩
  · have hil := (List.getElem?_eq_some_iff.mp hi).1
    obtain ⟨k, t, hk, hR⟩ := I.rec hi
    obtain ⟨n', rfl⟩ : ∃ n', n = n' + 1 := by
      obtain ⟨_, _, -, -, -, -, v1, -⟩ := I.1.2.2.2.1.2 i v hi
      exact ⟨n - 1, by omega⟩
    rw [lN_32 (by omega), if_pos (show (0 : Int32) ≤ nI i from nI_le (a := 0) (Nat.zero_le _) (by omega))]
    refine ⟨m_rc, (RecV.isC hi hk J).mpr ?_⟩
    obtain ⟨-, ⟨a1, a2⟩, -⟩ := J.2.2.2.1.at hV hi
    cases hc : k.1
    · rw [if_pos (show b2i false = 0 from rfl)]
      rw [sVal_rec (hR hc) (by omega)] at H
      simp only [m_g25, m_a25, a1, a2, true_and]
      refine ⟨m_rc, g_saysNumber hD hp (fun m1 hD1 hp1 => ⟨m_rc, g_says (bK (by decide)) hD1 hp1 (fun m2 hD2 hp2 => ⟨m_rc, ?_⟩)⟩)⟩
      refine g_push (I.dp hD2 hp2) hp2 (by omega) hi (fun m3 hm3 => ?_)
      refine IH n' rfl i v k t (hR hc) hdv fs m3 _ (nI i) _ _ (hD2.pil hm3) hm3.self (by omega) (fun e => hG (by
        rw [sVal_rec (hR hc) (by omega)]
        rw [tAdd_app, tAdd_app] at e
        exact e)) (fun m4 hD4 hp4 => H m4 ?_ hp4)
      rw [tAdd_app, tAdd_app] at hD4
      exact hD4
    · rw [if_neg (show ¬ b2i true = 0 by decide)]
      rw [sVal_con hi hk hc (by omega)] at H
      refine ⟨m_rc, g_says (bK (by decide)) hD hp (fun m1 hD1 hp1 => ?_)⟩
      have J1 := I.dp hD1 hp1
      obtain ⟨-, -, -, -, -, -, ⟨b1, b2⟩, -⟩ := J1.2.2.2.1.at hV hi
      simp only [m_g30, m_a30, b1, b2, true_and]
      refine ⟨m_rc, g_saysNumber hD1 hp1 (fun m2 hD2 hp2 => H m2 ?_ hp2)⟩
      rw [tAdd_app] at hD2
      exact hD2
theorem r_showS (I : Inv rs ks vs tl sc wI wL m0) {G : Prop} {Q : Int32 → MH → Prop} (HN : G → ∀ m', Inv rs ks vs tl sc wI wL m' → Q (-4) (hJ cp (hM m'))) {n : Nat} (IH : ∀ n', n = n' + 1 → rShow rs ks vs m0 d cp u Q G n') : rShow rs ks vs m0 d cp u Q G n := by
  have hV := I.1.2.2.2.1.1
  have hRl := I.1.1.1
  have hKd := I.1.2.1.1
  intro i v k t R hd fs m X b s r hD hp hn hG H
  have hP : ∀ s', s' <+: sPs rs (sVal rs ks vs n) t v.2.2.2.2.2.2 t.length → tAdd X s' = none → G := fun s' h1 h2 => hG (tAdd_pre (h1.trans (List.prefix_append _ _)) h2)
  have h6 := R.2.2.2.2.2.1
  have ho := R.2.2.2.2.2.2.1
  have h12 : fs.length < 12 := by omega
  have key : ∀ (p q : Nat) (m : MS) (Y : TS), q + p = t.length → DP m0 m Y → Pil m m (fs ++ [(nI i, b, nI q, -1, s, r)]) → Y = tAdd X (sPs rs (sVal rs ks vs n) t v.2.2.2.2.2.2 q) → L_X12_show_25 d mo (hJ cp (hM m)) u Q := by
    intro p
    induction p with
    | zero =>
      intro q m Y hq hD hp hY
      have : q = t.length := by omega
      subst this
      have J := I.dp hD hp
      cases Y with
      | none => exact l_none hD hp (by simp; omega) (HN (hP _ (List.prefix_refl _) hY.symm) m J)
      | some o =>
        obtain ⟨⟨a1, a2⟩, -, ⟨c1, c2⟩, ⟨d1, d2⟩, -, -, g1, g2⟩ := hp.at h12
        obtain ⟨o1, o2, -⟩ := hD.2.2.2.2
        unfold L_X12_show_25
        refine E_X12_show_25 ?_
        unfold F_X12_show_25
        simp only [m_g35, g2, pm1, m_g43, o2]
        rw [if_neg (show ¬ nI (fs.length + 1) ≤ (0 : Int32) from nI_ge (a := 0) (by omega) (by omega)), if_neg (show ¬ (4000 : Int32) < nI o.length from nI_nlt (a := 4000) (by omega) (by omega))]
        refine ⟨m_rc, ?_⟩
        unfold F_X12_saysNext
        simp only [m_g38, m_a38, c1, c2, m_g36, m_a36, a1, a2, m_g39, m_a39, d1, d2, true_and, m_rcT, R.partsOf J]
        rw [if_pos (show (-1 : Int32) < 0 by decide), if_pos trivial]
        refine g_says (bK (by decide)) hD hp (fun m1 hD1 hp1 => ?_)
        have e35 := (hp1.at h12).2.2.2.2.2.2.2
        refine m_g35.mpr (m_p35.mpr ?_)
        rw [e35, pm1]
        have hpop := hp1.pop
        refine H _ ?_ hpop.self
        have := hD1.pil hpop
        rw [hY, tAdd_app] at this
        exact this
    | succ p ih =>
      intro q m Y hq hD hp hY
      have J := I.dp hD hp
      have hpart := part_aOK (R.2.2.2.2.2.2.2.2 q (by omega)) hd
      have hl9 := lnT_9 ho (show q < t.length by omega)
      obtain ⟨l1, l2⟩ := lane_lt8 hl9
      have hle : (8 ≤ lnT t q) ↔ ¬ wi (lnT t q) 0 7 = true := by
        rw [← l1]
        rw [Int32.le_iff_toInt_le, Int32.lt_iff_toInt_lt]; omega
      cases Y with
      | none => exact l_none hD hp (by simp; omega) (HN (hP _ (sPs_pre (by omega)) hY.symm) m J)
      | some o =>
        obtain ⟨⟨a1, a2⟩, -, ⟨c1, c2⟩, ⟨d1, d2⟩, -, -, g1, g2⟩ := hp.at h12
        obtain ⟨o1, o2, -⟩ := hD.2.2.2.2
        -- the part's text is out
        have next : ∀ (m' : MS) (Z : TS), DP m0 m' Z → Pil m' m' (fs ++ [(nI i, b, nI (q + 1), -1, s, r)]) → Z = tAdd X (sPs rs (sVal rs ks vs n) t v.2.2.2.2.2.2 q ++ ((if q = 0 then [] else [44]) ++ (nStr (lbT t q).toInt64 ++ ([61] ++ sAny rs (sVal rs ks vs n) (lnT t q) (v.2.2.2.2.2.2.getD q 0))))) → L_X12_show_25 d mo (hJ cp (hM m')) u Q := by
          intro m' Z hD' hp' hZ
          exact ih (q + 1) m' Z (by omega) hD' hp' hZ
        -- the plain end of a part
        have s245 : ∀ (m : MS) (Z : TS), DP m0 m Z → Pil m m (fs ++ [(nI i, b, nI q, -1, s, r)]) → Z = tAdd X (sPs rs (sVal rs ks vs n) t v.2.2.2.2.2.2 q ++ ((if q = 0 then [] else [44]) ++ (nStr (lbT t q).toInt64 ++ [61]))) → ¬ (lnT t q = 9 ∧ ∃ rr row, v.2.2.2.2.2.2.getD q 0 = lN rr ∧ rs[rr]? = some row ∧ row.1 = 8) → F_X12_saysNext_245 d mo (nI fs.length) (v.2.2.2.2.2.2.getD q 0) (lnT t q) (hJ cp (hM m)) 0 (fun h => L_X12_show_25 d mo h u Q) := by
          intro m Z hD hp hZ hno
          obtain ⟨-, -, ⟨c1, c2⟩, -⟩ := hp.at h12
          unfold F_X12_saysNext_245
          refine m_g38.mpr (m_a38.mpr ⟨c1, m_s38.mpr ⟨c1, ?_⟩⟩)
          rw [c2, nI_clamp (by omega), nI_1]
          have hp2 := hp.set h12 (k := 38) (x := nI (q + 1)) (Or.inr (Or.inr (Or.inl ⟨rfl, rfl⟩)))
          have hD2 := hD.pil hp2
          have hp3 := hp2.self
          have eZ : ∀ s', tAdd Z s' = tAdd X (sPs rs (sVal rs ks vs n) t v.2.2.2.2.2.2 q ++ ((if q = 0 then [] else [44]) ++ (nStr (lbT t q).toInt64 ++ ([61] ++ s')))) := by
            intro s'
            rw [hZ, tAdd_app]
            simp only [List.append_assoc]
          by_cases h7 : wi (lnT t q) 0 7 = true
          · rw [if_neg (fun z => hle.mp z h7)]
            refine ⟨m_rc, g_saysCell (fun l0 => (hpart.1 h7).1 l0) hD2 hp3 (fun m' hD' hp' => next m' _ hD' hp' ?_)⟩
            rw [eZ]
            unfold sAny
            rw [if_neg (show ¬ lnT t q = 8 from fun z => by rw [z] at h7; exact absurd h7 (by decide)), if_neg (show ¬ lnT t q = 9 from fun z => by rw [z] at h7; exact absurd h7 (by decide))]
          · rw [if_pos (hle.mpr h7)]
            by_cases l8 : lnT t q = 8
            · rw [if_pos l8]
              refine ⟨m_rc, g_saysThing I IH hD2 hp3 (hpart.2.1 l8) (by simp; omega) (fun e => hP _ (sPs_pre (show q + 1 ≤ t.length by omega)) (by
                rw [eZ] at e
                rw [sPs]
                unfold sAny
                rw [if_pos l8]
                exact e)) (fun m' hD' hp' => next m' _ hD' hp' ?_)⟩
              rw [eZ]
              unfold sAny
              rw [if_pos l8]
            · rw [if_neg l8]
              have l9 : lnT t q = 9 := by rcases l2 h7 with z | z; exact absurd z l8; exact z
              simp only [lg_cmp_ge]
              rcases hpart.2.2 l9 with z | ⟨rr, row, z, hrow, hcells⟩
              · rw [z, if_neg (by decide)]
                refine ⟨m_rc, g_says (bK (by decide)) hD2 hp3 (fun m' hD' hp' => next m' _ hD' hp' ?_)⟩
                rw [eZ, z]
                unfold sAny
                rw [if_neg l8, if_pos l9, ixL_m1]
              · have hrl := (List.getElem?_eq_some_iff.mp hrow).1
                have h0z : (0 : Int64) ≤ lN rr := by rw [Int64.le_iff_toInt_le, lN_toInt (by omega)]; simp
                rw [z, if_pos h0z, lN_32 (by omega)]
                refine ⟨m_rc, g_saysRow (f := sVal rs ks vs n) I hrow (fun r8 => hno ⟨l9, rr, row, z, hrow, r8⟩) hD2 hp3 (fun m' hD' hp' => next m' _ hD' hp' ?_)⟩
                rw [eZ, z]
                unfold sAny
                rw [if_neg l8, if_pos l9, ixL_lN hrl (by omega)]
                simp only [hrow]
        -- behind the comma
        have s157 : ∀ (m : MS) (Z : TS), DP m0 m Z → Pil m m (fs ++ [(nI i, b, nI q, -1, s, r)]) → Z = tAdd X (sPs rs (sVal rs ks vs n) t v.2.2.2.2.2.2 q ++ (if q = 0 then [] else [44])) → F_X12_saysNext_157 d mo (nI fs.length) (nI q) (nI i) (hJ cp (hM m)) 0 (fun h => L_X12_show_25 d mo h u Q) := by
          intro m Z hD hp hZ
          have J := I.dp hD hp
          obtain ⟨x, hx⟩ := get_lt (show q < t.length by omega)
          obtain ⟨-, -, b3⟩ := J.2.2.1.ed hKd R.2.1 R.2.2.2.2.1 R.2.2.1
          obtain ⟨⟨e1, e2⟩, -⟩ := b3 q x hx (by omega)
          unfold F_X12_saysNext_157
          simp only [m_g16, m_rcT, true_and, g_editionOf J.2.2.2.1 hV R.1, m_a16, idx8, e1, e2]
          rw [← lbT_at hx]
          refine g_saysNumber hD hp (fun m1 hD1 hp1 => ⟨m_rc, g_says (bK (by decide)) hD1 hp1 (fun m2 hD2 hp2 => ?_)⟩)
          have J2 := I.dp hD2 hp2
          obtain ⟨p1, p2⟩ := R.p31 J2 (show q < t.length by omega)
          have hZ2 : tAdd (tAdd Z (nStr (lbT t q).toInt64)) [61] = tAdd X (sPs rs (sVal rs ks vs n) t v.2.2.2.2.2.2 q ++ ((if q = 0 then [] else [44]) ++ (nStr (lbT t q).toInt64 ++ [61]))) := by
            rw [hZ, tAdd_app, tAdd_app]
            simp only [List.append_assoc]
          simp only [m_g31, m_a31, p1, p2, true_and, m_rcT, R.laneOf J2 (show q < t.length by omega)]
          by_cases l9 : lnT t q = 9
          · rw [if_pos l9]
            simp only [lg_cmp_lt]
            rcases hpart.2.2 l9 with z | ⟨rr, row, z, hrow, hcells⟩
            · rw [if_pos (by rw [z]; decide)]
              exact s245 m2 _ hD2 hp2 hZ2 (fun ⟨_, rr, row, e1, _, _⟩ => by
                rw [z] at e1
                have := congrArg Int64.toInt e1
                rename_i hrow' _
                rw [lN_toInt (by have := (List.getElem?_eq_some_iff.mp hrow').1; omega)] at this
                have e9 : (-1 : Int64).toInt = -1 := by decide
                omega)
            · have hrl := (List.getElem?_eq_some_iff.mp hrow).1
              obtain ⟨ok1, h20, ok3, -⟩ := I.1.1.2 row (List.mem_of_getElem? hrow)
              have n0 : ¬ lN rr < 0 := by rw [Int64.lt_iff_toInt_lt, lN_toInt (by omega)]; simp
              have t32 : (v.2.2.2.2.2.2.getD q 0).toInt32 = nI rr := by rw [z]; exact lN_32 (by omega)
              rw [if_neg (by rw [z]; exact n0), t32]
              obtain ⟨-, ⟨ra1, ra2⟩, -⟩ := J2.2.1.at hRl hrow
              simp only [m_g4, m_a4, ra1, ra2, true_and]
              by_cases r8 : row.1 = 8
              · rw [if_pos r8]
                refine g_says (bK (by decide)) hD2 hp2 (fun m3 hD3 hp3 => ?_)
                obtain ⟨-, -, -, ⟨d3, d4⟩, -⟩ := hp3.at h12
                refine m_g39.mpr (m_s39.mpr ⟨d3, ?_⟩)
                rw [nI_clamp (by omega)]
                have hp4 := hp3.set h12 (k := 39) (x := 0) (Or.inr (Or.inr (Or.inr (Or.inl ⟨rfl, rfl⟩))))
                have eA : sAny rs (sVal rs ks vs n) (lnT t q) (v.2.2.2.2.2.2.getD q 0) = sRow (sVal rs ks vs n) row := by
                  unfold sAny
                  rw [if_neg (by rw [l9]; decide), if_pos l9, z, ixL_lN hrl (by omega)]
                  simp only [hrow]
                have hPc : ∀ c, c ≤ row.2.2.length → tAdd X (sPs rs (sVal rs ks vs n) t v.2.2.2.2.2.2 q ++ ((if q = 0 then [] else [44]) ++ (nStr (lbT t q).toInt64 ++ ([61] ++ ([91] ++ sCl (sVal rs ks vs n) row c))))) = none → G := by
                  intro c hc e
                  refine hP _ (sPs_pre (show q + 1 ≤ t.length by omega)) (tAdd_pre ?_ e)
                  rw [sPs, eA]
                  unfold sRow
                  simp only [List.prefix_append_right_inj]
                  exact (sCl_pre hc).trans (List.prefix_append _ _)
                have cells : ∀ (pc c : Nat) (m : MS) (Z : TS), c + pc = row.2.2.length → DP m0 m Z → Pil m m (fs ++ [(nI i, b, nI q, nI c, s, r)]) → Z = tAdd X (sPs rs (sVal rs ks vs n) t v.2.2.2.2.2.2 q ++ ((if q = 0 then [] else [44]) ++ (nStr (lbT t q).toInt64 ++ ([61] ++ ([91] ++ sCl (sVal rs ks vs n) row c))))) → L_X12_show_25 d mo (hJ cp (hM m)) u Q := by
                  intro pc
                  induction pc with
                  | zero =>
                    intro c m Z hc hD hp hZ
                    have : c = row.2.2.length := by omega
                    subst this
                    have J := I.dp hD hp
                    cases Z with
                    | none => exact l_none hD hp (by simp; omega) (HN (hPc _ (Nat.le_refl _) hZ.symm) m J)
                    | some o =>
                      obtain ⟨⟨a1, a2⟩, -, ⟨c1, c2⟩, ⟨d1, d2⟩, -, -, g1, g2⟩ := hp.at h12
                      obtain ⟨o1, o2, -⟩ := hD.2.2.2.2
                      obtain ⟨p1, p2⟩ := R.p31 J (show q < t.length by omega)
                      obtain ⟨-, -, ⟨ra3, ra4⟩, -, -⟩ := J.2.1.at hRl hrow
                      unfold L_X12_show_25
                      refine E_X12_show_25 ?_
                      unfold F_X12_show_25
                      simp only [m_g35, g2, pm1, m_g43, o2]
                      rw [if_neg (show ¬ nI (fs.length + 1) ≤ (0 : Int32) from nI_ge (a := 0) (by omega) (by omega)), if_neg (show ¬ (4000 : Int32) < nI o.length from nI_nlt (a := 4000) (by omega) (by omega))]
                      refine ⟨m_rc, ?_⟩
                      unfold F_X12_saysNext
                      simp only [m_g38, m_a38, c1, c2, m_g36, m_a36, a1, a2, m_g39, m_a39, d1, d2, true_and]
                      rw [if_neg (nI_pos (by omega))]
                      simp only [m_g31, m_a31, p1, p2, true_and, t32, m_g5, m_a5, ra3, ra4, if_true]
                      refine ⟨m_rc, g_says (bK (by decide)) hD hp (fun m5 hD5 hp5 => ?_)⟩
                      obtain ⟨-, -, -, ⟨d5, d6⟩, -⟩ := hp5.at h12
                      refine m_g39.mpr (m_s39.mpr ⟨d5, ?_⟩)
                      rw [nI_clamp (by omega)]
                      have hp6 := hp5.set h12 (k := 39) (x := -1) (Or.inr (Or.inr (Or.inr (Or.inl ⟨rfl, rfl⟩))))
                      obtain ⟨-, -, ⟨c5, c6⟩, -⟩ := hp6.at h12
                      refine m_g38.mpr (m_a38.mpr ⟨c5, m_s38.mpr ⟨c5, ?_⟩⟩)
                      rw [c6, nI_clamp (by omega), nI_1]
                      have hp7 := hp6.set h12 (k := 38) (x := nI (q + 1)) (Or.inr (Or.inr (Or.inl ⟨rfl, rfl⟩)))
                      refine next _ _ (hD5.pil hp7) hp7.self ?_
                      rw [hZ, tAdd_app, eA]
                      unfold sRow
                      simp only [List.append_assoc]
                  | succ pc ihc =>
                    intro c m Z hc hD hp hZ
                    obtain ⟨y, hy⟩ := get_lt (show c < row.2.2.length by omega)
                    have ey : row.2.2.getD c 0 = y := by simp [List.getD_eq_getElem?_getD, hy]
                    have J := I.dp hD hp
                    cases Z with
                    | none => exact l_none hD hp (by simp; omega) (HN (hPc _ (by omega) hZ.symm) m J)
                    | some o =>
                      obtain ⟨⟨a1, a2⟩, -, ⟨c1, c2⟩, ⟨d1, d2⟩, -, -, g1, g2⟩ := hp.at h12
                      obtain ⟨o1, o2, -⟩ := hD.2.2.2.2
                      obtain ⟨p1, p2⟩ := R.p31 J (show q < t.length by omega)
                      obtain ⟨-, -, ⟨ra3, ra4⟩, -, -⟩ := J.2.1.at hRl hrow
                      unfold L_X12_show_25
                      refine E_X12_show_25 ?_
                      unfold F_X12_show_25
                      simp only [m_g35, g2, pm1, m_g43, o2]
                      rw [if_neg (show ¬ nI (fs.length + 1) ≤ (0 : Int32) from nI_ge (a := 0) (by omega) (by omega)), if_neg (show ¬ (4000 : Int32) < nI o.length from nI_nlt (a := 4000) (by omega) (by omega))]
                      refine ⟨m_rc, ?_⟩
                      unfold F_X12_saysNext
                      simp only [m_g38, m_a38, c1, c2, m_g36, m_a36, a1, a2, m_g39, m_a39, d1, d2, true_and]
                      rw [if_neg (nI_pos (by omega))]
                      simp only [m_g31, m_a31, p1, p2, true_and, t32, m_g5, m_a5, ra3, ra4]
                      rw [if_neg (fun e => by have := (nI_eq (by omega) (by omega)).mp e; omega)]
                      have s92 : ∀ (m : MS) (Z : TS), DP m0 m Z → Pil m m (fs ++ [(nI i, b, nI q, nI c, s, r)]) → Z = tAdd X (sPs rs (sVal rs ks vs n) t v.2.2.2.2.2.2 q ++ ((if q = 0 then [] else [44]) ++ (nStr (lbT t q).toInt64 ++ ([61] ++ ([91] ++ (sCl (sVal rs ks vs n) row c ++ (if c = 0 then [] else [32]))))))) → F_X12_saysNext_92 d mo (nI fs.length) (nI rr) (nI c) (hJ cp (hM m)) 0 (fun h => L_X12_show_25 d mo h u Q) := by
                        intro m Z hD hp hZ
                        obtain ⟨-, -, -, ⟨d1, d2⟩, -⟩ := hp.at h12
                        unfold F_X12_saysNext_92
                        refine m_g39.mpr (m_a39.mpr ⟨d1, m_s39.mpr ⟨d1, ?_⟩⟩)
                        rw [d2, nI_clamp (by omega), nI_1]
                        have hp5 := hp.set h12 (k := 39) (x := nI (c + 1)) (Or.inr (Or.inr (Or.inr (Or.inl ⟨rfl, rfl⟩))))
                        have hD5 := hD.pil hp5
                        have J5 := I.dp hD5 hp5.self
                        obtain ⟨-, -, -, -, ra7⟩ := J5.2.1.at hRl hrow
                        obtain ⟨rb1, rb2⟩ := ra7 c (by omega) h20
                        simp only [m_g7, m_a7, rb1, rb2, true_and, ey]
                        refine ⟨m_rc, g_saysThing I IH hD5 hp5.self (hcells r8 y (List.mem_of_getElem? hy)) (by simp; omega) (fun e => hPc (c + 1) (by omega) (by
                          rw [hZ, tAdd_app] at e
                          rw [sCl, if_pos r8, ey]
                          simp only [List.append_assoc] at e ⊢
                          exact e)) (fun m6 hD6 hp6 => ?_)⟩
                        refine ihc (c + 1) m6 _ (by omega) hD6 hp6 ?_
                        rw [hZ, tAdd_app, sCl, if_pos r8, ey]
                        simp only [List.append_assoc]
                      by_cases c0 : c = 0
                      · subst c0
                        rw [if_pos (show nI 0 ≤ (0 : Int32) by decide)]
                        exact s92 m _ hD hp (by rw [hZ, if_pos rfl, List.append_nil])
                      · rw [if_neg (show ¬ nI c ≤ (0 : Int32) from nI_ge (a := 0) (by omega) (by omega))]
                        refine ⟨m_rc, g_says (bK (by decide)) hD hp (fun m6 hD6 hp6 => s92 m6 _ hD6 hp6 ?_)⟩
                        rw [hZ, tAdd_app, if_neg c0]
                        simp only [List.append_assoc]
                refine cells row.2.2.length 0 _ _ (by omega) (hD3.pil hp4) hp4.self ?_
                rw [hZ2, tAdd_app, show sCl (sVal rs ks vs n) row 0 = [] from rfl, List.append_nil]
                simp only [List.append_assoc]
              · rw [if_neg r8]
                have := s245 m2 _ hD2 hp2 hZ2 (fun ⟨_, rr2, row2, e1, e2, e3⟩ => by
                  rw [z] at e1
                  have h9 := congrArg Int64.toInt e1
                  have hr2l := (List.getElem?_eq_some_iff.mp e2).1
                  rw [lN_toInt (by omega), lN_toInt (by omega)] at h9
                  have : rr2 = rr := by omega
                  subst this
                  cases hrow.symm.trans e2
                  exact r8 e3)
                exact this
          · rw [if_neg l9]
            exact s245 m2 _ hD2 hp2 hZ2 (fun z => l9 z.1)
        unfold L_X12_show_25
        refine E_X12_show_25 ?_
        unfold F_X12_show_25
        simp only [m_g35, g2, pm1, m_g43, o2]
        rw [if_neg (show ¬ nI (fs.length + 1) ≤ (0 : Int32) from nI_ge (a := 0) (by omega) (by omega)), if_neg (show ¬ (4000 : Int32) < nI o.length from nI_nlt (a := 4000) (by omega) (by omega))]
        refine ⟨m_rc, ?_⟩
        unfold F_X12_saysNext
        simp only [m_g38, m_a38, c1, c2, m_g36, m_a36, a1, a2, m_g39, m_a39, d1, d2, true_and, m_rcT, R.partsOf J]
        rw [if_pos (show (-1 : Int32) < 0 by decide), if_neg (fun e => by have := (nI_eq (by omega) (by omega)).mp e; omega)]
        by_cases q0 : q = 0
        · subst q0
          rw [if_pos (show nI 0 ≤ (0 : Int32) by decide)]
          exact s157 m _ hD hp (by rw [hY, if_pos rfl, List.append_nil])
        · rw [if_neg (show ¬ nI q ≤ (0 : Int32) from nI_ge (a := 0) (by omega) (by omega))]
          refine g_says (bK (by decide)) hD hp (fun m1 hD1 hp1 => s157 m1 _ hD1 hp1 ?_)
          rw [hY, tAdd_app, if_neg q0]
  exact key t.length 0 m X (by omega) hD hp (by
    rw [show sPs rs (sVal rs ks vs n) t v.2.2.2.2.2.2 0 = [] from rfl]
    cases X with
    | none => rfl
    | some o => rw [tAdd_some, if_pos (by simpa using hD.2.2.2.2.1), List.append_nil])
theorem r_show (I : Inv rs ks vs tl sc wI wL m0) {G : Prop} {Q : Int32 → MH → Prop} (HN : G → ∀ m', Inv rs ks vs tl sc wI wL m' → Q (-4) (hJ cp (hM m'))) : ∀ n, rShow rs ks vs m0 d cp u Q G n
  | 0 => r_showS I HN (fun n' h => by omega)
  | n + 1 => r_showS I HN (fun n' h => by
    have : n' = n := by omega
    subst this
    exact r_show I HN n')
end Show
