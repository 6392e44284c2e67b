section Order3
variable {rs : List RowT} {ks : List KindT} {vs : List ValT} {tl : Nat → Nat → Nat → List Int32} {sc : Nat → Int32} {wI : Nat → List Int32} {wL : Nat → List Int64} {m : MS} {d d2 u : Nat} {v1 v2 v3 v5 v6 : Int32} {v4 : Int64} {W : Prop → Prop}
variable {cp mp h : MH}
theorem g_sign {a b : Int32} {Q : Int32 → MH → Prop} : F_X12_sign d a b h u Q ↔ Q (lsf a.toInt64 b.toInt64) h := by
  unfold F_X12_sign lsf
  simp only [Int32.le_iff_toInt_le, Int64.le_iff_toInt_le, ← Int64.toInt_inj, Int32.toInt_toInt64]
  by_cases h1 : b.toInt ≤ a.toInt
  · rw [if_pos h1, if_pos h1]
    by_cases h2 : a.toInt ≤ b.toInt
    · rw [if_pos h2, if_pos (by omega)]
    · rw [if_neg h2, if_neg (by omega)]
  · rw [if_neg h1, if_neg h1, if_neg (by omega)]
/-- the loop with an answer in hand -/
theorem o_ret {b : Int32} {Q : Int32 → MH → Prop} (H0 : b = 0 → L_X12_ordered_12 d mo 0 (hJ cp (hM m)) u Q) (H1 : ¬ b = 0 → Q b (hJ cp (hM m))) : L_X12_ordered_12 d mo b (hJ cp (hM m)) u Q := by
  by_cases z : b = 0
  · rw [z]; exact H0 z
  · unfold L_X12_ordered_12
    refine E_X12_ordered_12 ?_
    unfold F_X12_ordered_12
    rw [if_neg z]
    exact H1 z
def rOrd (rs : List RowT) (ks : List KindT) (vs : List ValT) (J : MS → Prop) (m0 : MS) (d : Nat) (cp : MH) (u : Nat) (Q : Int32 → MH → Prop) (n : Nat) : Prop := ∀ (i j : Nat) (v w : ValT) (k : KindT) (t : List ET), RecV rs ks vs i v k t → RecV rs ks vs j w k t → w.1 = v.1 → w.2.1 = v.2.1 → v.2.2.2.2.2.1 ≤ n + 1 → w.2.2.2.2.2.1 ≤ n + 1 → ∀ (fs : List Fr) (m : MS) (s r : Int32), Pil m0 m (fs ++ [(nI i, nI j, 0, -1, s, r)]) → fs.length + 1 + n ≤ 12 → (firstF (cRec rs (cVal rs ks vs n) t v w) t.length 0 = 0 → ∀ m', Pil m0 m' fs → L_X12_ordered_12 d mo 0 (hJ cp (hM m')) u Q) → (¬ firstF (cRec rs (cVal rs ks vs n) t v w) t.length 0 = 0 → ∀ m', J m' → Q (firstF (cRec rs (cVal rs ks vs n) t v w) t.length 0) (hJ cp (hM m'))) → L_X12_ordered_12 d mo 0 (hJ cp (hM m)) u Q
theorem g_meet {m0 : MS} (I : Inv rs ks vs tl sc wI wL m0) {Q : Int32 → MH → Prop} {n d1 : Nat} (IH : ∀ n', n = n' + 1 → rOrd rs ks vs (fun m' => Inv rs ks vs tl sc wI wL m') m0 d cp u Q n') {fs : List Fr} {x y : Int64} (hp : Pil m0 m fs) (hx : tOK vs n x) (hy : tOK vs n y) (hn : fs.length + n ≤ 12) (H0 : cVal rs ks vs n x y = 0 → ∀ m', Pil m0 m' fs → L_X12_ordered_12 d mo 0 (hJ cp (hM m')) u Q) (H1 : ¬ cVal rs ks vs n x y = 0 → ∀ m', Inv rs ks vs tl sc wI wL m' → Q (cVal rs ks vs n x y) (hJ cp (hM m'))) : F_X12_meet d1 mo x.toInt32 y.toInt32 (hJ cp (hM m)) 0 (fun b h => L_X12_ordered_12 d mo b h u Q) := by
  have J := I.pil hp
  have hV := I.1.2.2.2.1.1
  have hKd := I.1.2.1.1
  -- an answer is there
  have ret : ∀ b, b = cVal rs ks vs n x y → L_X12_ordered_12 d mo b (hJ cp (hM m)) u Q := by
    intro b hb
    subst hb
    exact o_ret (fun z => H0 z m hp) (fun z => H1 z m J)
  unfold F_X12_meet F_X12_meet_13
  rcases tOK_ix hx (by omega) with ⟨z1, rfl⟩ | ⟨i, v, z1, rfl, hi, hdv⟩
  · rw [if_pos (show (-1 : Int64).toInt32 < 0 by decide)]
    rcases tOK_ix hy (by omega) with ⟨z2, rfl⟩ | ⟨j, w, z2, rfl, hj, hdw⟩
    · rw [if_pos rfl]
      exact ret 0 (by rw [cVal_none (Or.inl z1), z1]; rfl)
    · rw [lN_32 (by have := (List.getElem?_eq_some_iff.mp hj).1; omega)]
      rw [if_neg (fun e => absurd (show nI j < 0 by rw [← e]; decide) (nI_pos (by have := (List.getElem?_eq_some_iff.mp hj).1; omega))), if_neg (by decide)]
      exact ret (-1) (by rw [cVal_none (Or.inl z1), z1, z2]; rfl)
  · have hil := (List.getElem?_eq_some_iff.mp hi).1
    rw [lN_32 (by omega), if_neg (nI_pos (by omega))]
    rcases tOK_ix hy (by omega) with ⟨z2, rfl⟩ | ⟨j, w, z2, rfl, hj, hdw⟩
    · rw [if_pos (show (-1 : Int64).toInt32 < 0 by decide)]
      rw [if_neg (fun e => absurd (show nI i < 0 by rw [e]; decide) (nI_pos (by omega))), if_pos (show (0 : Int32) ≤ nI i from nI_le (a := 0) (Nat.zero_le _) (by omega))]
      exact ret 1 (by rw [cVal_none (Or.inr z2), z1, z2]; rfl)
    · have hjl := (List.getElem?_eq_some_iff.mp hj).1
      rw [lN_32 (by omega), if_neg (nI_pos (by omega))]
      by_cases e : i = j
      · subst e
        rw [if_pos rfl, if_pos rfl]
        exact ret 0 (by rw [cVal_self])
      · rw [if_neg (fun z => e ((nI_eq (by omega) (by omega)).mp z))]
        obtain ⟨-, ⟨a1, a2⟩, ⟨a3, a4⟩, ⟨a5, a6⟩, -⟩ := J.2.2.2.1.at hV hi
        obtain ⟨-, ⟨b1, b2⟩, ⟨b3, b4⟩, ⟨b5, b6⟩, -⟩ := J.2.2.2.1.at hV hj
        obtain ⟨k, t, hk, hR⟩ := I.rec hi
        obtain ⟨k', t', hk', hR'⟩ := I.rec hj
        have hkl := (List.getElem?_eq_some_iff.mp hk).1
        have hkl' := (List.getElem?_eq_some_iff.mp hk').1
        obtain ⟨ka, tv, hka, htv, hkok, -⟩ := I.val hi
        obtain ⟨kb, tw, hkb, htw, hkokb, -⟩ := I.val hj
        have hvl := (List.getElem?_eq_some_iff.mp htv).1
        have hwl := (List.getElem?_eq_some_iff.mp htw).1
        have h4a := hkok.2.1
        have h4b := hkokb.2.1
        obtain ⟨n', rfl⟩ : ∃ n', n = n' + 1 := by
          obtain ⟨_, _, -, -, -, -, v1, -⟩ := I.1.2.2.2.1.2 i v hi
          exact ⟨n - 1, by omega⟩
        have ecv := cVal_some (rs := rs) (ks := ks) (n := n') hi hj (show vs.length < 2 ^ 31 by omega)
        unfold cVV at ecv
        simp only [m_g25, m_a25, a1, a2, b1, b2, true_and, g_sign, m_g26, m_a26, a3, a4, b3, b4]
        unfold F_X12_meet_71
        by_cases e1 : lsf (nI v.1).toInt64 (nI w.1).toInt64 = 0
        · rw [if_pos e1] at ecv ⊢
          have ek := (lsf_n (by omega) (by omega)).mp e1
          by_cases e2 : lsf (nI v.2.1).toInt64 (nI w.2.1).toInt64 = 0
          · rw [if_pos e2] at ecv
            have ee := (lsf_n (by omega) (by omega)).mp e2
            rw [if_pos e2]
            simp only [hk] at ecv
            refine ⟨m_rc, (RecV.isC hi hk J).mpr ?_⟩
            rw [← ek] at hk'
            cases hk.symm.trans hk'
            cases hc : k.1
            · rw [if_pos (show b2i false = 0 from rfl)]
              have R := hR hc
              have R' := hR' hc
              have htt : t' = t := by
                have a := R.2.2.1
                have b := R'.2.2.1
                rw [← ee] at b
                exact Option.some.inj (b.symm.trans a)
              subst htt
              rw [hc] at ecv
              simp only [R.2.2.1, Bool.false_eq_true, if_false] at ecv
              refine ⟨m_rc, g_push I hp (by omega) hi (fun m' hm' => ?_)⟩
              rw [ecv] at H0 H1
              exact IH n' rfl i j v w k t' R R' ek.symm ee.symm hdv hdw fs m' _ _ hm' (by omega) H0 H1
            · rw [if_neg (show ¬ b2i true = 0 by decide)]
              rw [hc] at ecv
              simp only [if_true] at ecv
              simp only [m_g27, m_a27, a5, a6, b5, b6, true_and, g_sign]
              exact ret _ ecv.symm
          · rw [if_neg e2] at ecv
            rw [if_neg e2]
            exact ret _ ecv.symm
        · rw [if_neg e1] at ecv ⊢
          rw [if_neg e1]
          exact ret _ ecv.symm
theorem g_numbers (I : Inv rs ks vs tl sc wI wL m) {r s : Nat} {ra rb : RowT} {f : Int64 → Int64 → Int32} (hra : rs[r]? = some ra) (hrb : rs[s]? = some rb) (hl : rb.1 = ra.1) (h8 : ¬ ra.1 = 8) {Q : Int32 → MH → Prop} (H : Q (cRows f ra rb) (hJ cp (hM m))) : F_X12_numbers d mo (nI r) (nI s) (hJ cp (hM m)) u Q := by
  have hR := I.1.1.1
  obtain ⟨oka, h20a, oka3, -⟩ := I.1.1.2 ra (List.mem_of_getElem? hra)
  obtain ⟨okb, h20b, okb3, -⟩ := I.1.1.2 rb (List.mem_of_getElem? hrb)
  obtain ⟨-, ⟨a1, a2⟩, ⟨a3, a4⟩, -, a7⟩ := I.2.1.at hR hra
  obtain ⟨-, -, ⟨b3, b4⟩, -, b7⟩ := I.2.1.at hR hrb
  have h7 : wi ra.1 0 7 = true := wi7_of8 oka h8
  unfold cRows at H
  rw [if_pos (by rw [hl]; exact lsf_self)] at H
  have fin : F_X12_numbers_69 d mo (nI r) (nI s) (hJ cp (hM m)) u Q ↔ Q (lsf (nI ra.2.2.length).toInt64 (nI rb.2.2.length).toInt64) (hJ cp (hM m)) := by
    unfold F_X12_numbers_69
    simp only [m_g5, m_a5, a3, a4, b3, b4, true_and, g_sign]
  have key : ∀ p c : Nat, c + p = min ra.2.2.length rb.2.2.length → firstF (fun c => cG f ra.1 (ra.2.2.getD c 0) (rb.2.2.getD c 0)) (min ra.2.2.length rb.2.2.length) 0 = firstF (fun c => cG f ra.1 (ra.2.2.getD c 0) (rb.2.2.getD c 0)) p c → L_X12_numbers_2 d mo (nI r) (nI s) (nI c) (hJ cp (hM m)) u Q := by
    intro p
    induction p with
    | zero =>
      intro c hc hf
      rw [hf, firstF, if_pos rfl] at H
      unfold L_X12_numbers_2
      refine E_X12_numbers_2 ?_
      unfold F_X12_numbers_2
      simp only [m_g5, m_a5, a3, a4, b3, b4, true_and, fin]
      by_cases y1 : ra.2.2.length ≤ c
      · rw [if_pos (nI_le y1 (by omega))]
        exact H
      · rw [if_neg (nI_ge (by omega) (by omega)), if_pos (nI_le (by omega) (by omega))]
        exact H
    | succ p ih =>
      intro c hc hf
      obtain ⟨ya, hya⟩ := get_lt (show c < ra.2.2.length by omega)
      obtain ⟨yb, hyb⟩ := get_lt (show c < rb.2.2.length by omega)
      obtain ⟨c1, c2⟩ := a7 c (by omega) h20a
      obtain ⟨c3, c4⟩ := b7 c (by omega) h20b
      rw [firstF_s] at hf
      have ea : ra.2.2.getD c 0 = ya := by simp [List.getD_eq_getElem?_getD, hya]
      have eb : rb.2.2.getD c 0 = yb := by simp [List.getD_eq_getElem?_getD, hyb]
      simp only [ea, eb] at hf
      unfold L_X12_numbers_2
      refine E_X12_numbers_2 ?_
      unfold F_X12_numbers_2
      simp only [m_g5, m_a5, a3, a4, b3, b4, true_and]
      rw [if_neg (nI_ge (by omega) (by omega)), if_neg (nI_ge (by omega) (by omega))]
      simp only [m_g4, m_a4, a1, a2, m_g7, m_a7, c1, c2, c3, c4, true_and, ea, eb]
      refine g_compared h7 ((oka3 ya (List.mem_of_getElem? hya)).1 h7) (by
        have := (okb3 yb (List.mem_of_getElem? hyb)).1 (by rw [hl]; exact h7)
        rw [hl] at this; exact this) ?_
      unfold cG at hf
      simp only [if_neg h8] at hf
      by_cases z : cN ra.1 ya yb = 0
      · rw [if_pos z] at hf ⊢
        rw [nI_1]
        refine ih (c + 1) (by omega) ?_
        unfold cG
        simp only [if_neg h8]
        exact hf
      · rw [if_neg z] at hf ⊢
        have e9 : firstF (fun c => cG f ra.1 (ra.2.2.getD c 0) (rb.2.2.getD c 0)) (min ra.2.2.length rb.2.2.length) 0 = cN ra.1 ya yb := by
          unfold cG
          simp only [if_neg h8]
          exact hf
        rw [e9, if_neg z] at H
        exact H
  exact key (min ra.2.2.length rb.2.2.length) 0 (by omega) rfl
end Order3
