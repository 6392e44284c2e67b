section Hash2
variable {rs : List RowT} {ks : List KindT} {vs : List ValT} {tl : Nat → Nat → Nat → List Int32} {sc : Nat → Int32} {wI : Nat → List Int32} {wL : Nat → List Int64} {m : MS} {d d2 u : Nat} {v1 v2 v3 v5 v6 : Int32} {v4 : Int64} {W : Prop → Prop}
variable {cp mp h : MH}
theorem pm1 {n : Nat} : nI (n + 1) - 1 = nI n := by rw [← nI_1, nI_1, nI_pred]
def addF (f : Fr) (x : Int32) : Fr := if f.2.2.2.1 < 0 then (f.1, f.2.1, f.2.2.1 + 1, f.2.2.2.1, 31 * f.2.2.2.2.1 + x, f.2.2.2.2.2) else (f.1, f.2.1, f.2.2.1, f.2.2.2.1 + 1, f.2.2.2.2.1, 31 * f.2.2.2.2.2 + x)
theorem g_adds {m0 : MS} {fs : List Fr} {f : Fr} {x : Int32} (hp : Pil m0 m (fs ++ [f])) (h12 : fs.length < 12) {Q : MH → Prop} (H : ∀ m', Pil m0 m' (fs ++ [addF f x]) → Q (hJ cp (hM m'))) : F_X12_adds d mo x (hJ cp (hM m)) u Q := by
  obtain ⟨⟨a1, a2⟩, ⟨b1, b2⟩, ⟨c1, c2⟩, ⟨d1, d2⟩, ⟨e1, e2⟩, ⟨f1, f2⟩, g1, g2⟩ := hp.at h12
  have b31 : fs.length < 2 ^ 31 := by omega
  unfold F_X12_adds
  simp only [m_g35, m_g39, m_a39, g1, d1, d2, true_and]
  unfold addF at H
  by_cases hn : f.2.2.2.1 < 0
  · rw [if_pos hn] at H ⊢
    simp only [m_g40, m_a40, e1, e2, true_and]
    refine m_s40.mpr ⟨e1, ?_⟩
    rw [nI_clamp b31]
    have hp2 := hp.set h12 (k := 40) (x := 31 * f.2.2.2.2.1 + x) (Or.inr (Or.inr (Or.inr (Or.inr (Or.inl ⟨rfl, rfl⟩)))))
    obtain ⟨-, -, ⟨c3, c4⟩, -⟩ := hp2.at h12
    refine m_g38.mpr (m_a38.mpr ⟨c3, m_s38.mpr ⟨c3, ?_⟩⟩)
    rw [c4, nI_clamp b31]
    exact H _ (hp2.set h12 (k := 38) (Or.inr (Or.inr (Or.inl ⟨rfl, rfl⟩))))
  · rw [if_neg hn] at H ⊢
    simp only [m_g41, m_a41, f1, f2, true_and]
    refine m_s41.mpr ⟨f1, ?_⟩
    rw [nI_clamp b31]
    have hp2 := hp.set h12 (k := 41) (x := 31 * f.2.2.2.2.2 + x) (Or.inr (Or.inr (Or.inr (Or.inr (Or.inr ⟨rfl, rfl⟩)))))
    obtain ⟨-, -, -, ⟨c3, c4⟩, -⟩ := hp2.at h12
    refine m_g39.mpr (m_a39.mpr ⟨c3, m_s39.mpr ⟨c3, ?_⟩⟩)
    rw [c4, nI_clamp b31]
    exact H _ (hp2.set h12 (k := 39) (Or.inr (Or.inr (Or.inr (Or.inl ⟨rfl, rfl⟩)))))
/-- what the loop does once a frame is through -/
def hPop (d : Nat) (cp : MH) (u : Nat) (Q : Int64 → MH → Prop) (fs : List Fr) (s : Int32) (m' : MS) : Prop := if fs.length = 0 then L_X12_hash_40 d mo s (hJ cp (hM m')) u Q else F_X12_adds (d + 2) mo s (hJ cp (hM m')) 0 (fun h => L_X12_hash_40 d mo s h u Q)
def rHash (rs : List RowT) (ks : List KindT) (vs : List ValT) (m0 : MS) (d : Nat) (cp : MH) (u : Nat) (Q : Int64 → MH → Prop) (n : Nat) : Prop := ∀ (i : Nat) (v : ValT) (k : KindT) (t : List ET), RecV rs ks vs i v k t → v.2.2.2.2.2.1 ≤ n → ∀ (fs : List Fr) (m : MS) (h0 b : Int32), Pil m0 m (fs ++ [(nI i, b, 0, -1, nI v.1, 1)]) → fs.length + n ≤ 12 → (∀ m', Pil m0 m' fs → hPop d cp u Q fs (hVal rs ks vs n (lN i)) m') → L_X12_hash_40 d mo h0 (hJ cp (hM m)) u Q
theorem g_addsThing {m0 : MS} (I : Inv rs ks vs tl sc wI wL m0) {Q : Int64 → MH → Prop} {n : Nat} (IH : rHash rs ks vs m0 d cp u Q n) {fs : List Fr} {f : Fr} {x : Int64} {h0 : Int32} (hp : Pil m0 m (fs ++ [f])) (hx : tOK vs n x) (hn : fs.length + 1 + n ≤ 12) (H : ∀ m' h1, Pil m0 m' (fs ++ [addF f (hVal rs ks vs n x)]) → L_X12_hash_40 d mo h1 (hJ cp (hM m')) u Q) : F_X12_addsThing d mo x.toInt32 (hJ cp (hM m)) 0 (fun h => L_X12_hash_40 d mo h0 h u Q) := by
  have J := I.pil hp
  have hV := I.1.2.2.2.1.1
  unfold F_X12_addsThing
  rcases hx with rfl | ⟨i, v, rfl, hi, hdv⟩
  · rw [if_neg (by decide)]
    rw [hVal_m1] at H
    exact ⟨m_rc, g_adds hp (by omega) (fun m' hm' => H m' h0 hm')⟩
  · have hil := (List.getElem?_eq_some_iff.mp hi).1
    obtain ⟨k, t, hk, hR⟩ := I.rec hi
    rw [lN_32 (by omega), if_pos (show (0 : Int32) ≤ nI i from nI_le (a := 0) (Nat.zero_le _) (by omega))]
    refine ⟨m_rc, (RecV.isC hi hk J).mpr ?_⟩
    cases hc : k.1
    · rw [if_pos (show b2i false = 0 from rfl)]
      obtain ⟨_, _, -, -, -, -, dv1, -⟩ := I.1.2.2.2.1.2 i v hi
      refine ⟨m_rc, g_push I hp (by simp; omega) hi (fun m' hm' => ?_)⟩
      refine IH i v k t (hR hc) hdv (fs ++ [f]) m' h0 (nI i) hm' (by simp; omega) (fun m2 hm2 => ?_)
      unfold hPop
      rw [if_neg (by simp)]
      exact g_adds hm2 (by omega) (fun m3 hm3 => H m3 _ hm3)
    · rw [if_neg (show ¬ b2i true = 0 by decide)]
      refine ⟨m_rc, ?_⟩
      obtain ⟨-, ⟨a1, a2⟩, -, ⟨b1, b2⟩, -⟩ := J.2.2.2.1.at hV hi
      unfold F_X12_constantHash
      simp only [m_g25, m_a25, a1, a2, m_g27, m_a27, b1, b2, true_and, m_rcT]
      obtain ⟨n', rfl⟩ : ∃ n', n = n' + 1 := by
        obtain ⟨_, _, -, -, -, -, v1, -⟩ := I.1.2.2.2.1.2 i v hi
        exact ⟨n - 1, by omega⟩
      rw [hVal_con hi hk hc (by omega)] at H
      exact g_adds hp (by omega) (fun m' hm' => H m' h0 hm')
theorem g_rowHash (I : Inv rs ks vs tl sc wI wL m) {r : Nat} {row : RowT} {f : Int64 → Int32} (hr : rs[r]? = some row) (r8 : ¬ row.1 = 8) {Q : Int32 → MH → Prop} (H : Q (hRow f row row.2.2) (hJ cp (hM m))) : F_X12_rowHash d mo (nI r) (hJ cp (hM m)) u Q := by
  have hR := I.1.1.1
  obtain ⟨ok1, h20, ok3, -⟩ := I.1.1.2 row (List.mem_of_getElem? hr)
  obtain ⟨-, ⟨a1, a2⟩, ⟨a3, a4⟩, -, a7⟩ := I.2.1.at hR hr
  have h7 : wi row.1 0 7 = true := wi7_of8 ok1 r8
  have key : ∀ p c : Nat, c + p = row.2.2.length → L_X12_rowHash_4 d mo (nI r) (hRow f row (row.2.2.take c)) (nI c) (hJ cp (hM m)) u Q := by
    intro p
    induction p with
    | zero =>
      intro c hc
      unfold L_X12_rowHash_4
      refine E_X12_rowHash_4 ?_
      unfold F_X12_rowHash_4
      simp only [m_g5, m_a5, a3, a4, true_and]
      rw [if_pos (nI_le (by omega) (by omega)), List.take_of_length_le (by omega)]
      exact H
    | succ p ih =>
      intro c hc
      obtain ⟨y, hy⟩ := get_lt (show c < row.2.2.length by omega)
      have ih2 := ih (c + 1) (by omega)
      obtain ⟨b1, b2⟩ := a7 c (by omega) h20
      unfold L_X12_rowHash_4
      refine E_X12_rowHash_4 ?_
      unfold F_X12_rowHash_4
      simp only [m_g5, m_a5, a3, a4, true_and]
      rw [if_neg (nI_ge (by omega) (by omega))]
      simp only [m_g4, m_a4, a1, a2, m_g7, m_a7, b1, b2, true_and]
      have ey : row.2.2.getD c 0 = y := by simp [List.getD_eq_getElem?_getD, hy]
      rw [ey]
      refine (g_numberHash (fun l0 => ((ok3 y (List.mem_of_getElem? hy)).1 h7).1 l0)).mpr ?_
      rw [take_s hy] at ih2
      unfold hRow at ih2 ⊢
      rw [List.foldl_append] at ih2
      simp only [List.foldl_cons, List.foldl_nil, if_neg r8] at ih2 ⊢
      rw [nI_1]
      exact ih2
  exact key row.2.2.length 0 (by omega)
theorem r_hash {m0 : MS} (I : Inv rs ks vs tl sc wI wL m0) {Q : Int64 → MH → Prop} : ∀ n, rHash rs ks vs m0 d cp u Q n := by
  have hV := I.1.2.2.2.1.1
  have hRl := I.1.1.1
  intro n
  induction n with
  | zero =>
    intro i v k t R hd
    obtain ⟨_, _, -, -, -, -, v1, -⟩ := I.1.2.2.2.1.2 i v R.1
    omega
  | succ n IH =>
    intro i v k t R hd fs m h0 b hp hn H
    have h6 := R.2.2.2.2.2.1
    have ho := R.2.2.2.2.2.2.1
    rw [hVal_rec R (by omega)] at H
    have key : ∀ (p q : Nat) (m : MS) (h0 r0 : Int32), q + p = t.length → Pil m0 m (fs ++ [(nI i, b, nI q, -1, hSum rs (hVal rs ks vs n) t v.2.2.2.2.2.2 (nI v.1) q, r0)]) → L_X12_hash_40 d mo h0 (hJ cp (hM m)) u Q := by
      intro p
      induction p with
      | zero =>
        intro q m h0 r0 hq hp
        have : q = t.length := by omega
        subst this
        have J := I.pil hp
        obtain ⟨⟨a1, a2⟩, -, ⟨c1, c2⟩, -, ⟨e1, e2⟩, -, g1, g2⟩ := hp.at (by omega)
        unfold L_X12_hash_40
        refine E_X12_hash_40 ?_
        unfold F_X12_hash_40
        simp only [m_g35, g2, pm1, m_g38, m_a38, c1, c2, m_g36, m_a36, a1, a2, true_and, m_rcT, R.partsOf J]
        rw [if_neg (show ¬ nI (fs.length + 1) ≤ (0 : Int32) from nI_ge (a := 0) (by omega) (by omega)), if_pos (nI_le (Nat.le_refl _) (by omega))]
        simp only [m_g40, m_a40, e1, e2, true_and, m_p35]
        have hpop := hp.pop
        have hh := H _ hpop
        unfold hPop at hh
        have e35 : (mI m 35 (nI (fs.length + 1) - 1)).1 35 = nI fs.length := by
          simp only [mA_1, mB_1, mI_1, mI_21, mI_22, mA_21, mA_22, mB_21, mB_22, Nat.reduceEqDiff, Nat.reduceEqDiff, reduceCtorEq, if_false, if_true]
          rw [← nI_1, nI_1, nI_pred]
        rw [pm1] at e35
        refine m_g35.mpr ?_
        rw [e35]
        by_cases z : fs.length = 0
        · rw [if_pos z] at hh
          rw [if_pos (show nI fs.length ≤ (0 : Int32) from nI_le (b := 0) (by omega) (by omega))]
          exact hh
        · rw [if_neg z] at hh
          rw [if_neg (show ¬ nI fs.length ≤ (0 : Int32) from nI_ge (a := 0) (by omega) (by omega))]
          exact ⟨m_rc, hh⟩
      | succ p ih =>
        intro q m h0 r0 hq hp
        have J := I.pil hp
        have h12 : fs.length < 12 := by omega
        obtain ⟨⟨a1, a2⟩, -, ⟨c1, c2⟩, ⟨d1, d2⟩, ⟨e1, e2⟩, -, g1, g2⟩ := hp.at h12
        obtain ⟨p1, p2⟩ := R.p31 J (show q < t.length by omega)
        have hpart := part_aOK (R.2.2.2.2.2.2.2.2 q (by omega)) hd
        have hl9 := lnT_9 ho (show q < t.length by omega)
        obtain ⟨l1, l2⟩ := lane_lt8 hl9
        have hle : (8 ≤ lnT t q) ↔ ¬ wi (lnT t q) 0 7 = true := by
          rw [← l1]
          rw [Int32.le_iff_toInt_le, Int32.lt_iff_toInt_lt]; omega
        -- the part is done
        have nextP : ∀ (m' : MS) (h1 : Int32) (r1 x : Int32), x = hAny rs (hVal rs ks vs n) (lnT t q) (v.2.2.2.2.2.2.getD q 0) → Pil m0 m' (fs ++ [addF (nI i, b, nI q, -1, hSum rs (hVal rs ks vs n) t v.2.2.2.2.2.2 (nI v.1) q, r1) x]) → L_X12_hash_40 d mo h1 (hJ cp (hM m')) u Q := by
          intro m' h1 r1 x hx hm'
          subst hx
          unfold addF at hm'
          rw [if_pos (show (-1 : Int32) < 0 by decide)] at hm'
          simp only [nI_1] at hm'
          exact ih (q + 1) m' h1 r1 (by omega) hm'
        unfold L_X12_hash_40
        refine E_X12_hash_40 ?_
        unfold F_X12_hash_40
        simp only [m_g35, g2, pm1, m_g38, m_a38, c1, c2, m_g36, m_a36, a1, a2, true_and, m_rcT, R.partsOf J]
        rw [if_neg (show ¬ nI (fs.length + 1) ≤ (0 : Int32) from nI_ge (a := 0) (by omega) (by omega)), if_neg (nI_ge (by omega) (by omega))]
        unfold F_X12_hashPart
        simp only [m_g38, m_a38, c1, c2, m_g36, m_a36, a1, a2, true_and, m_rcT, R.laneOf J (show q < t.length by omega), m_g31, m_a31, p1, p2]
        by_cases h7 : wi (lnT t q) 0 7 = true
        · rw [if_neg (fun z => hle.mp z h7)]
          refine (g_numberHash (fun l0 => (hpart.1 h7).1 l0)).mpr ?_
          refine ⟨m_rc, g_adds hp h12 (fun m' hm' => nextP m' h0 r0 _ ?_ hm')⟩
          unfold hAny
          rw [if_neg (fun z => by rw [z] at h7; exact absurd h7 (by decide)), if_neg (fun z => by rw [z] at h7; exact absurd h7 (by decide))]
        · rw [if_pos (hle.mpr h7)]
          by_cases l8 : lnT t q = 8
          · rw [if_pos l8]
            refine g_addsThing I IH hp (hpart.2.1 l8) (by omega) (fun m' h1 hm' => nextP m' h1 r0 _ ?_ hm')
            unfold hAny
            rw [if_pos l8]
          · rw [if_neg l8]
            have l9 : lnT t q = 9 := by rcases l2 h7 with z | z; exact absurd z l8; exact z
            have eA : hAny rs (hVal rs ks vs n) (lnT t q) (v.2.2.2.2.2.2.getD q 0) = (match ixL (v.2.2.2.2.2.2.getD q 0) rs.length with
              | some r => (match rs[r]? with
                | some row => hRow (hVal rs ks vs n) row row.2.2
                | none => 0)
              | none => 0) := by unfold hAny; rw [if_neg l8, if_pos l9]; rfl
            simp only [lg_cmp_ge]
            rcases hpart.2.2 l9 with z | ⟨rr, row, z, hrow, hcells⟩
            · rw [z] at eA ⊢
              rw [if_neg (by decide)]
              refine g_adds hp h12 (fun m' hm' => nextP m' h0 r0 _ ?_ hm')
              rw [z, eA, ixL_m1]
            · have hrl := (List.getElem?_eq_some_iff.mp hrow).1
              obtain ⟨ok1, h20, ok3, -⟩ := I.1.1.2 row (List.mem_of_getElem? hrow)
              rw [z, ixL_lN hrl (by omega)] at eA
              simp only [hrow] at eA
              have h0z : (0 : Int64) ≤ lN rr := by rw [Int64.le_iff_toInt_le, lN_toInt (by omega)]; simp
              rw [z, if_pos h0z, lN_32 (by omega)]
              obtain ⟨-, ⟨ra1, ra2⟩, ⟨ra3, ra4⟩, -, ra7⟩ := J.2.1.at hRl hrow
              simp only [m_g4, m_a4, ra1, ra2, true_and]
              by_cases r8 : row.1 = 8
              · rw [if_pos r8]
                simp only [m_g39, m_a39, d1, d2, true_and]
                rw [if_neg (by decide)]
                refine m_s39.mpr ⟨d1, ?_⟩
                rw [nI_clamp (by omega)]
                have hp2 := hp.set h12 (k := 39) (x := 0) (Or.inr (Or.inr (Or.inr (Or.inl ⟨rfl, rfl⟩))))
                obtain ⟨-, -, -, -, -, ⟨f1, f2⟩, -, -⟩ := hp2.at h12
                refine m_g41.mpr (m_s41.mpr ⟨f1, ?_⟩)
                rw [nI_clamp (by omega)]
                have hp3 := hp2.set h12 (k := 41) (x := 1) (Or.inr (Or.inr (Or.inr (Or.inr (Or.inr ⟨rfl, rfl⟩)))))
                -- the cells
                have cells : ∀ (pc c : Nat) (m : MS) (h0 : Int32), c + pc = row.2.2.length → Pil m0 m (fs ++ [(nI i, b, nI q, nI c, hSum rs (hVal rs ks vs n) t v.2.2.2.2.2.2 (nI v.1) q, hRow (hVal rs ks vs n) row (row.2.2.take c))]) → L_X12_hash_40 d mo h0 (hJ cp (hM m)) u Q := by
                  intro pc
                  induction pc with
                  | zero =>
                    intro c m h0 hc hp
                    have J := I.pil hp
                    obtain ⟨⟨a1, a2⟩, -, ⟨c1, c2⟩, ⟨d1, d2⟩, ⟨e1, e2⟩, ⟨f1, f2⟩, g1, g2⟩ := hp.at h12
                    obtain ⟨p1, p2⟩ := R.p31 J (show q < t.length by omega)
                    obtain ⟨-, ⟨ra1, ra2⟩, ⟨ra3, ra4⟩, -, ra7⟩ := J.2.1.at hRl hrow
                    unfold L_X12_hash_40
                    refine E_X12_hash_40 ?_
                    unfold F_X12_hash_40
                    simp only [m_g35, g2, pm1, m_g38, m_a38, c1, c2, m_g36, m_a36, a1, a2, true_and, m_rcT, R.partsOf J]
                    rw [if_neg (show ¬ nI (fs.length + 1) ≤ (0 : Int32) from nI_ge (a := 0) (by omega) (by omega)), if_neg (nI_ge (by omega) (by omega))]
                    unfold F_X12_hashPart
                    simp only [m_g38, m_a38, c1, c2, m_g36, m_a36, a1, a2, true_and, m_rcT, R.laneOf J (show q < t.length by omega), m_g31, m_a31, p1, p2]
                    rw [if_pos (hle.mpr h7), if_neg l8]
                    simp only [lg_cmp_ge, z, h0z, if_true, lN_32 (show rr < 2 ^ 31 by omega), m_g4, m_a4, ra1, ra2, true_and, r8, m_g39, m_a39, d1, d2, m_g5, m_a5, ra3, ra4]
                    rw [if_pos (show (0 : Int32) ≤ nI c from nI_le (a := 0) (Nat.zero_le _) (by omega)), if_pos (nI_le (by omega) (by omega))]
                    refine m_s39.mpr ⟨d1, ?_⟩
                    rw [nI_clamp (by omega)]
                    have hp2 := hp.set h12 (k := 39) (x := -1) (Or.inr (Or.inr (Or.inr (Or.inl ⟨rfl, rfl⟩))))
                    obtain ⟨-, -, -, -, -, ⟨f3, f4⟩, -, -⟩ := hp2.at h12
                    simp only [m_g41, m_a41, f3, f4, true_and, m_rcT]
                    refine g_adds hp2 h12 (fun m' hm' => nextP m' h0 _ _ ?_ hm')
                    rw [z, eA, List.take_of_length_le (by omega)]
                  | succ pc ihc =>
                    intro c m h0 hc hp
                    obtain ⟨y, hy⟩ := get_lt (show c < row.2.2.length by omega)
                    have J := I.pil hp
                    obtain ⟨⟨a1, a2⟩, -, ⟨c1, c2⟩, ⟨d1, d2⟩, ⟨e1, e2⟩, ⟨f1, f2⟩, g1, g2⟩ := hp.at h12
                    obtain ⟨p1, p2⟩ := R.p31 J (show q < t.length by omega)
                    obtain ⟨-, ⟨ra1, ra2⟩, ⟨ra3, ra4⟩, -, ra7⟩ := J.2.1.at hRl hrow
                    obtain ⟨rb1, rb2⟩ := ra7 c (by omega) h20
                    have ey : row.2.2.getD c 0 = y := by simp [List.getD_eq_getElem?_getD, hy]
                    unfold L_X12_hash_40
                    refine E_X12_hash_40 ?_
                    unfold F_X12_hash_40
                    simp only [m_g35, g2, pm1, m_g38, m_a38, c1, c2, m_g36, m_a36, a1, a2, true_and, m_rcT, R.partsOf J]
                    rw [if_neg (show ¬ nI (fs.length + 1) ≤ (0 : Int32) from nI_ge (a := 0) (by omega) (by omega)), if_neg (nI_ge (by omega) (by omega))]
                    unfold F_X12_hashPart
                    simp only [m_g38, m_a38, c1, c2, m_g36, m_a36, a1, a2, true_and, m_rcT, R.laneOf J (show q < t.length by omega), m_g31, m_a31, p1, p2]
                    rw [if_pos (hle.mpr h7), if_neg l8]
                    simp only [lg_cmp_ge, z, h0z, if_true, lN_32 (show rr < 2 ^ 31 by omega), m_g4, m_a4, ra1, ra2, true_and, r8, m_g39, m_a39, d1, d2, m_g5, m_a5, ra3, ra4]
                    rw [if_pos (show (0 : Int32) ≤ nI c from nI_le (a := 0) (Nat.zero_le _) (by omega)), if_neg (nI_ge (by omega) (by omega))]
                    simp only [m_g7, m_a7, rb1, rb2, true_and, ey]
                    refine g_addsThing I IH hp (hcells r8 y (List.mem_of_getElem? hy)) (by omega) (fun m' h1 hm' => ?_)
                    unfold addF at hm'
                    rw [if_neg (show ¬ nI c < 0 from nI_pos (by omega))] at hm'
                    simp only [nI_1] at hm'
                    refine ihc (c + 1) m' h1 (by omega) ?_
                    rw [take_s hy]
                    unfold hRow at hm' ⊢
                    rw [List.foldl_append]
                    simp only [List.foldl_cons, List.foldl_nil, if_pos r8] at hm' ⊢
                    exact hm'
                exact cells row.2.2.length 0 _ h0 (by omega) hp3
              · rw [if_neg r8]
                refine g_rowHash (f := hVal rs ks vs n) J hrow r8 ?_
                refine ⟨m_rc, g_adds hp h12 (fun m' hm' => nextP m' h0 r0 _ ?_ hm')⟩
                rw [z, eA]
    exact key t.length 0 m h0 1 (by omega) hp
theorem op_hash (I : Inv rs ks vs tl sc wI wL m) (hW : ∀ X, X → W X) {K : Int64 → Int64 → MH → Prop} (hK : KL K) : F_X11_hash (d + 40) br v1 (hX rs ks vs tl sc wI wL m) u (fun a h => W (rc h mo 11 ∧ F_X12_hash d2 mo v1 h 0 (fun b h => K a b h))) := by
  have hR := I.1.1.1; have hV := I.1.2.2.2.1.1; have hKd := I.1.2.1.1; have hRm := I.2.1; have hKm := I.2.2.1; have hVm := I.2.2.2.1; have hMm := I.2.2.2.2
  unfold F_X11_hash
  simp only [c_g1_0, c_rc2, true_and, f_findValue hV, ixL_i]
  rcases hx : ix v1 vs.length with _ | i
  · simp only [Option.map_none, nl_none]
    refine hW _ ⟨m_rc, ?_⟩
    unfold F_X12_hash
    simp only [m_rcT, g_isValue hV hVm.1, hx, if_b2i, Option.isSome_some, Option.isSome_none, Bool.true_eq_false, Bool.false_eq_true, if_false, if_true, true_and, g_lost]
    exact hK _ _ _ _ _ _ _ _ _ I
  obtain ⟨h1, rfl, -, -⟩ := ix_some hx
  obtain ⟨v, hi⟩ := get_lt h1
  obtain ⟨k, t, hk, hRR⟩ := I.rec hi
  obtain ⟨_, _, -, -, -, -, dv1, dv2, -⟩ := I.1.2.2.2.1.2 i v hi
  simp only [Option.map_some, nl_some, c_g1_3]
  refine ⟨rfl, ?_⟩
  have hs := s_hashValue (mp := hM m) I 8 (lN i) (Or.inr ⟨i, v, rfl, hi, dv2⟩) (d + 39) u (fun x4 h u => (fun a h => W (rc h mo 11 ∧ F_X12_hash d2 mo (nI i) h 0 (fun b h => K a b h))) x4.toInt64 h) (by omega)
  rw [ixL_lN h1 (by omega)] at hs
  refine hs ?_
  refine hW _ ⟨m_rc, ?_⟩
  unfold F_X12_hash
  simp only [m_rcT, g_isValue hV hVm.1, hx, if_b2i, Option.isSome_some, Option.isSome_none, Bool.true_eq_false, Bool.false_eq_true, if_false, if_true, true_and, RecV.isC hi hk I]
  cases hc : k.1
  · simp only [if_true, m_p35]
    have hp0 := I.pil0
    refine ⟨m_rc, g_push I hp0 (by simp) hi (fun m' hm' => ?_)⟩
    refine r_hash I 8 i v k t (hRR hc) dv2 [] m' 0 (nI i) hm' (by simp) (fun m2 hm2 => ?_)
    unfold hPop
    simp only [List.length_nil, if_true]
    unfold L_X12_hash_40
    refine E_X12_hash_40 ?_
    unfold F_X12_hash_40
    simp only [m_g35, hm2.len]
    rw [if_pos (by decide)]
    exact hK _ _ _ _ _ _ _ _ _ (I.pil hm2)
  · simp only [Bool.true_eq_false, if_false]
    obtain ⟨-, ⟨a1, a2⟩, -, ⟨b1, b2⟩, -⟩ := hVm.at hV hi
    unfold F_X12_constantHash
    simp only [m_g25, m_a25, a1, a2, m_g27, m_a27, b1, b2, true_and]
    rw [hVal_con hi hk hc (by omega)]
    exact hK _ _ _ _ _ _ _ _ _ I
end Hash2
