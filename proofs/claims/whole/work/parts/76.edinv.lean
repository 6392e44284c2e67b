section EdInv
variable {rs : List RowT} {ks : List KindT} {vs : List ValT} {tl : Nat → Nat → Nat → List Int32} {sc : Nat → Int32} {wI : Nat → List Int32} {wL : Nat → List Int64} {m : MS} {d d2 u : Nat} {v1 v2 v3 v5 v6 : Int32} {v4 : Int64} {W : Prop → Prop}
variable {cp mp h : MH}
def mEd (m : MS) (j n E : Nat) (c : Int32) (A B C : List Int32) : MS := mA (mA (mA (mA (mA m 13 ((m.2.1 13).set j (nI n))) 16 A) 17 B) 18 C) 15 ((m.2.1 15).set E c)
/-- the reference's arrays while an edition is written -/
def EdW (m : MS) (b : Bool) (E i : Nat) (ts : List ET) (A B C : List Int32) : Prop := A.length = 512 ∧ B.length = 512 ∧ C.length = 512 ∧ (∀ q, (q < 8 * E ∨ 8 * E + 8 ≤ q) → A.getD q 0 = (m.2.1 16).getD q 0 ∧ B.getD q 0 = (m.2.1 17).getD q 0 ∧ C.getD q 0 = (m.2.1 18).getD q 0) ∧ ∀ q x, ts[q]? = some x → A.getD (8 * E + q) 0 = x.1 ∧ B.getD (8 * E + q) 0 = x.2.1 ∧ (b = true → q < i → C.getD (8 * E + q) 0 = x.2.2)
theorem EdW.push {b : Bool} {E i : Nat} {ts : List ET} {A B C : List Int32} (H : EdW m b E i ts A B C) (hl : ts.length < 8) (hE : 8 * E + 8 ≤ 512) (y : ET) (c : Int32) (hc : b = true → ts.length < i → c = y.2.2) : EdW m b E i (ts ++ [y]) (A.set (8 * E + ts.length) y.1) (B.set (8 * E + ts.length) y.2.1) (C.set (8 * E + ts.length) c) := by
  obtain ⟨h1, h2, h3, h4, h5⟩ := H
  refine ⟨by rw [List.length_set]; exact h1, by rw [List.length_set]; exact h2, by rw [List.length_set]; exact h3, fun q hq => ?_, fun q x hx => ?_⟩
  · simp only [lset_getD]
    rw [if_neg (by omega), if_neg (by omega), if_neg (by omega)]
    exact h4 q hq
  · simp only [lset_getD]
    rcases app_case hx with z | ⟨rfl, rfl⟩
    · have := (List.getElem?_eq_some_iff.mp z).1
      rw [if_neg (by omega), if_neg (by omega), if_neg (by omega)]
      exact h5 q x z
    · rw [if_pos ⟨rfl, by omega⟩, if_pos ⟨rfl, by omega⟩, if_pos ⟨rfl, by omega⟩]
      exact ⟨rfl, rfl, hc⟩
theorem WInv.ed (I : Inv rs ks vs tl sc wI wL m) {j e i : Nat} {k : KindT} {t' : List ET} {tl' : Nat → Nat → Nat → List Int32} {A B C : List Int32} (hk : ks[j]? = some k) (hs : k.2.2.1 = true) (he : e + 1 = k.2.2.2.2.length) (h4 : k.2.2.2.2.length < 4) (hE : EdOK k.1 t') (htl : ∀ j' e' p, ¬ (j' = j ∧ e' = e + 1) → tl' j' e' p = tl j' e' p) (hti : ∀ p, p < 3 → t'.length + (tl' j (e + 1) p).length = (if k.1 then 8 else 6)) (hW : EdW m k.1 (4 * j + (e + 1)) i t' A B C) (hm : k.1 = true → ∀ q x, t'[q]? = some x → q < i → ∃ jj : Nat, jj < vs.length ∧ x.2.2 = nI jj) : WInv rs (ks.set j (kAdd k t')) vs tl' sc wI wL (mEd m j (e + 1) (4 * j + (e + 1)) (nI t'.length) A B C) j i := by
  obtain ⟨⟨a1, a2, a3, a4, a5, a6⟩, b1, b2, b3, b4⟩ := I
  have hj := (List.getElem?_eq_some_iff.mp hk).1
  obtain ⟨k1, k2, k3, k4, k5, k6, k7⟩ := a2.2 k (List.mem_of_getElem? hk)
  have hlen : (kAdd k t').2.2.2.2.length = e + 2 := by show (k.2.2.2.2 ++ [t']).length = _; simp; omega
  have h16 := a2.1
  refine ⟨⟨a1, ⟨by rw [List.length_set]; exact a2.1, fun q k' hq => ?_⟩, fun q k' hq e' t2 ht2 p hp => ?_, ⟨a4.1, fun q v hv => ?_⟩, ?_, a6⟩, by simpa [mEd, mRows, mI, mA, up] using b1, ?_, by simpa [mEd, mVals, mI, mA, up] using b3, by simpa [mEd, mMisc, mI, mA, up] using b4⟩
  · rcases set_get hq with ⟨rfl, rfl⟩ | ⟨z1, z2⟩
    · rw [if_pos rfl]
      refine ⟨by omega, by omega, fun z => ?_, fun t2 ht2 => ?_, k5, k6, fun z1 _ e' t2 ht2 p x hx hh => ?_⟩
      · have : k.2.2.1 = false := z
        rw [hs] at this; cases this
      · rcases List.mem_append.mp ht2 with z | z
        · exact k4 t2 z
        · rw [List.mem_singleton.mp z]; exact hE
      · rcases app_case ht2 with z | ⟨z, rfl⟩
        · exact k7 z1 hs t2 (List.mem_of_getElem? z) x (List.mem_of_getElem? hx)
        · rw [hlen] at hh
          exact hm z1 p x hx (by omega)
    · rw [if_neg z1]; exact a2.2 k' (List.mem_of_getElem? z2)
  · rcases set_get hq with ⟨rfl, rfl⟩ | ⟨z1, z2⟩
    · rcases app_case ht2 with z | ⟨z, rfl⟩
      · have := (List.getElem?_eq_some_iff.mp z).1
        rw [htl _ _ _ (by omega)]
        exact a3 q k hk e' t2 z p hp
      · rw [z, ← he]; exact hti p hp
    · rw [htl _ _ _ (fun w => z1 w.1)]
      exact a3 q k' z2 e' t2 ht2 p hp
  · obtain ⟨k', t2, h1, h2, h3⟩ := a4.2 q v hv
    by_cases z : v.1 = j
    · rw [z] at h1
      cases hk.symm.trans h1
      exact ⟨kAdd k t', t2, by rw [z]; exact List.getElem?_set_self hj, app_get h2, h3⟩
    · exact ⟨k', t2, by rw [List.getElem?_set_ne (Ne.symm z)]; exact h1, h2, h3⟩
  · obtain ⟨w0, w1, w2, q0, q1, w3, w4, w5, w6, s1, s2, s3⟩ := a5
    exact ⟨w0, w1, w2, q0, q1, w3, w4, w5, w6, s1, by rw [filt_set (k' := kAdd k t') hk rfl]; exact s2, s3⟩
  · obtain ⟨c0, c1, c2, c3, c4, c5, c6, c7, c8, c9, c10, c11⟩ := b2
    obtain ⟨w1, w2, w3, w4, w5⟩ := hW
    simp only [mEd, mKindsW, mA_1, mB_1, mI_1, mI_21, mI_22, mA_21, mA_22, mB_21, mB_22, Nat.reduceEqDiff, Nat.reduceEqDiff, reduceCtorEq, if_false, if_true, List.length_set]
    refine ⟨c0, c1, c2, c3, c4, c5, c6, w1, w2, w3, fun q k' hq => ?_, fun q h1 h2 => ?_⟩
    · simp only [lset_getD]
      rcases set_get hq with ⟨rfl, rfl⟩ | ⟨z1, z2⟩
      · obtain ⟨d1, d2, d3, d4, d5, d6⟩ := c10 q k hk
        rw [if_pos ⟨rfl, by omega⟩, hlen]
        refine ⟨d1, d2, d3, rfl, d5, fun e' t2 ht2 => ?_⟩
        rcases app_case ht2 with z | ⟨z, rfl⟩
        · have hl2 := (List.getElem?_eq_some_iff.mp z).1
          have h8 : t2.length ≤ 8 := by have := (k4 t2 (List.mem_of_getElem? z)).1; split at this <;> omega
          rw [if_neg (by omega)]
          refine ⟨(d6 e' t2 z).1, fun p x hx => ?_⟩
          have hp := (List.getElem?_eq_some_iff.mp hx).1
          obtain ⟨v1, v2, v3⟩ := w4 (8 * (4 * q + e') + p) (by omega)
          rw [v1, v2, v3]
          obtain ⟨g1, g2, g3⟩ := (d6 e' t2 z).2 p x hx
          exact ⟨g1, g2, fun y1 y2 _ => g3 y1 y2⟩
        · rw [z, ← he, if_pos ⟨rfl, by omega⟩]
          refine ⟨rfl, fun p x hx => ?_⟩
          obtain ⟨g1, g2, g3⟩ := w5 p x hx
          refine ⟨g1, g2, fun y1 _ y3 => g3 y1 ?_⟩
          have := y3 rfl
          omega
      · obtain ⟨d1, d2, d3, d4, d5, d6⟩ := c10 q k' z2
        have hkk := a2.2 k' (List.mem_of_getElem? z2)
        have hk4 := hkk.2.1
        rw [if_neg (by omega)]
        refine ⟨d1, d2, d3, d4, d5, fun e' t2 ht2 => ?_⟩
        have hl2 := (List.getElem?_eq_some_iff.mp ht2).1
        have h8 : t2.length ≤ 8 := by have := (hkk.2.2.2.1 t2 (List.mem_of_getElem? ht2)).1; split at this <;> omega
        rw [if_neg (by omega)]
        refine ⟨(d6 e' t2 ht2).1, fun p x hx => ?_⟩
        have hp := (List.getElem?_eq_some_iff.mp hx).1
        obtain ⟨v1, v2, v3⟩ := w4 (8 * (4 * q + e') + p) (by omega)
        rw [v1, v2, v3]
        obtain ⟨g1, g2, g3⟩ := (d6 e' t2 ht2).2 p x hx
        exact ⟨g1, g2, fun y1 y2 _ => g3 y1 y2⟩
    · simp only [lset_getD]
      rw [if_neg (by omega), if_neg (by omega)]
      exact c11 q h1 h2
/-- what the reference has written after q steps -/
def edOut (what pl l : Int32) (t : List ET) : Nat → List ET
  | 0 => []
  | q + 1 => edOut what pl l t q ++ (match t[if what = 3 then t.length - 1 - q else q]? with
    | some y => if what = 1 ∧ nI q = pl then [] else [(y.1, if what = 2 ∧ nI q = pl then l else y.2.1, y.2.2)]
    | none => [])
theorem edOut_len {what pl l : Int32} {t : List ET} : ∀ q, (edOut what pl l t q).length ≤ q
  | 0 => Nat.le_refl _
  | q + 1 => by
    have := edOut_len (what := what) (pl := pl) (l := l) (t := t) q
    unfold edOut
    rw [List.length_append]
    split
    · split <;> simp <;> omega
    · simp; omega
theorem g_ed211 (I : Inv rs ks vs tl sc wI wL m) {j e : Nat} {k : KindT} {t : List ET} {what w l pl : Int32} {X : List Int32} (hk : ks[j]? = some k) (hs : k.2.2.1 = true) (ht : k.2.2.2.2[e]? = some t) (he : e + 1 = k.2.2.2.2.length) (h4 : k.2.2.2.2.length < 4) {Q : Int32 → MH → Prop} : ∀ (r q : Nat) (A B C : List Int32), q + r = t.length → EdW m k.1 (4 * j + (e + 1)) 8 (edOut what pl l t q) A B C → (∀ A B C, EdW m k.1 (4 * j + (e + 1)) 8 (edOut what pl l t t.length) A B C → F_X12_edition_211 d mo (nI j) what w l (b2i k.1) (nI (4 * j + e)) pl (nI (edOut what pl l t t.length).length) (nI t.length) (hJ cp (hM (mA (mA (mA (mA m 13 X) 16 A) 17 B) 18 C))) u Q) → L_X12_edition_211 d mo (nI j) what w l (b2i k.1) (nI (4 * j + e)) pl (nI (edOut what pl l t q).length) (nI q) (hJ cp (hM (mA (mA (mA (mA m 13 X) 16 A) 17 B) 18 C))) u Q := by
  intro r
  have hKd := I.1.2.1.1
  have hj := (List.getElem?_eq_some_iff.mp hk).1
  obtain ⟨k1, k2, k3, k4, k5, k6, k7⟩ := I.1.2.1.2 k (List.mem_of_getElem? hk)
  have h8 : t.length ≤ 8 := by have := (k4 t (List.mem_of_getElem? ht)).1; split at this <;> omega
  obtain ⟨c0, c1, c2, c3, c4, c5, c6, c7, c8, c9, c10, c11⟩ := I.2.2.1
  obtain ⟨d1, d2, d3, d4, d5, d6⟩ := c10 j k hk
  obtain ⟨f1, f2⟩ := d6 e t ht
  induction r with
  | zero =>
    intro q A B C hq hE H
    have : q = t.length := by omega
    subst this
    unfold L_X12_edition_211
    exact E_X12_edition_211 (H A B C hE)
  | succ r ih =>
    intro q A B C hq hE H
    obtain ⟨w1, w2, w3, w4, w5⟩ := hE
    have hlq := edOut_len (what := what) (pl := pl) (l := l) (t := t) q
    unfold L_X12_edition_211
    refine E_X12_edition_211 ?_
    unfold F_X12_edition_211
    simp only [m_g15, m_a15, mA_1, mB_1, mI_1, mI_21, mI_22, mA_21, mA_22, mB_21, mB_22, Nat.reduceEqDiff, Nat.reduceEqDiff, reduceCtorEq, if_false, if_true, inb_nI (show 4 * j + e < 2 ^ 31 by omega), rdI_nI (show 4 * j + e < 2 ^ 31 by omega), c6, f1]
    refine ⟨by omega, ?_⟩
    rw [if_neg (nI_ge (by omega) (by omega))]
    -- one step from the place fr
    have step : ∀ fr y, t[fr]? = some y → (if what = 3 then t.length - 1 - q else q) = fr → F_X12_edition_250 d mo (nI j) what w l (b2i k.1) (nI (4 * j + e)) pl (nI (edOut what pl l t q).length) (nI q) (nI (8 * (4 * j + e))) (nI fr) (hJ cp (hM (mA (mA (mA (mA m 13 X) 16 A) 17 B) 18 C))) u Q := by
      intro fr y hy hfr
      have hfl := (List.getElem?_eq_some_iff.mp hy).1
      obtain ⟨v1, v2, v3⟩ := w4 (8 * (4 * j + e) + fr) (by omega)
      obtain ⟨g1, g2, g3⟩ := f2 fr y hy
      have eo : edOut what pl l t (q + 1) = edOut what pl l t q ++ (if what = 1 ∧ nI q = pl then [] else [(y.1, if what = 2 ∧ nI q = pl then l else y.2.1, y.2.2)]) := by
        rw [edOut, hfr, hy]
      have e8 : (8 : Int32) * (nI (4 * j + e) + 1) + nI (edOut what pl l t q).length = nI (8 * (4 * j + (e + 1)) + (edOut what pl l t q).length) := by rw [nI_1, idx8]; rfl
      have b512 : 8 * (4 * j + (e + 1)) + 8 ≤ 512 := by omega
      have s268 : ¬ (what = 1 ∧ nI q = pl) → F_X12_edition_268 d mo (nI j) what w l (b2i k.1) (nI (4 * j + e)) pl (nI (edOut what pl l t q).length) (nI q) (nI (8 * (4 * j + e)) + nI fr) (hJ cp (hM (mA (mA (mA (mA m 13 X) 16 A) 17 B) 18 C))) u Q := by
        intro hn
        rw [if_neg hn] at eo
        unfold F_X12_edition_268
        simp only [nI_add, m_g16, m_a16, mA_1, mB_1, mI_1, mI_21, mI_22, mA_21, mA_22, mB_21, mB_22, Nat.reduceEqDiff, Nat.reduceEqDiff, reduceCtorEq, if_false, if_true, inb_nI (show 8 * (4 * j + e) + fr < 2 ^ 31 by omega), rdI_nI (show 8 * (4 * j + e) + fr < 2 ^ 31 by omega), w1, v1, g1, e8, m_s16, inb_nI (show 8 * (4 * j + (e + 1)) + (edOut what pl l t q).length < 2 ^ 31 by omega), nI_clamp (show 8 * (4 * j + (e + 1)) + (edOut what pl l t q).length < 2 ^ 31 by omega), m_g17]
        refine ⟨by omega, by omega, ?_⟩
        have s324 : ∀ x, x = (if what = 2 ∧ nI q = pl then l else y.2.1) → ∀ m9, m9 = mA (mA (mA (mA (mA m 13 X) 16 A) 17 B) 18 C) 16 (A.set (8 * (4 * j + (e + 1)) + (edOut what pl l t q).length) y.1) → F_X12_edition_324 d mo (nI j) what w l (b2i k.1) (nI (4 * j + e)) pl (nI (edOut what pl l t q).length) (nI q) (nI (8 * (4 * j + e) + fr)) (nI (8 * (4 * j + (e + 1)) + (edOut what pl l t q).length)) (some (41, 17, 0)) (nI (8 * (4 * j + (e + 1)) + (edOut what pl l t q).length)) x (hJ cp (hM m9)) u Q := by
          intro x hx m9 hm9
          subst hm9
          unfold F_X12_edition_324
          simp only [m_s17, mA_1, mB_1, mI_1, mI_21, mI_22, mA_21, mA_22, mB_21, mB_22, Nat.reduceEqDiff, Nat.reduceEqDiff, reduceCtorEq, if_false, if_true, inb_nI (show 8 * (4 * j + (e + 1)) + (edOut what pl l t q).length < 2 ^ 31 by omega), nI_clamp (show 8 * (4 * j + (e + 1)) + (edOut what pl l t q).length < 2 ^ 31 by omega), w2, m_g18, m_a18, inb_nI (show 8 * (4 * j + e) + fr < 2 ^ 31 by omega), rdI_nI (show 8 * (4 * j + e) + fr < 2 ^ 31 by omega), w3, v3, m_s18]
          refine ⟨by omega, by omega, by omega, ?_⟩
          have hp := EdW.push (y := (y.1, x, y.2.2)) (c := (m.2.1 18).getD (8 * (4 * j + e) + fr) 0) ⟨w1, w2, w3, w4, w5⟩ (by omega) b512 (fun z1 _ => g3 z1 hs)
          have hln : (edOut what pl l t (q + 1)).length = (edOut what pl l t q).length + 1 := by rw [eo]; simp
          have := ih (q + 1) _ _ _ (by omega) (by rw [eo, ← hx]; exact hp) H
          rw [hln, ← nI_1, ← nI_1] at this
          have e9 : mA (mA (mA (mA (mA (mA (mA m 13 X) 16 A) 17 B) 18 C) 16 (A.set (8 * (4 * j + (e + 1)) + (edOut what pl l t q).length) y.1)) 17 (B.set (8 * (4 * j + (e + 1)) + (edOut what pl l t q).length) x)) 18 (C.set (8 * (4 * j + (e + 1)) + (edOut what pl l t q).length) ((m.2.1 18).getD (8 * (4 * j + e) + fr) 0)) = mA (mA (mA (mA m 13 X) 16 (A.set (8 * (4 * j + (e + 1)) + (edOut what pl l t q).length) y.1)) 17 (B.set (8 * (4 * j + (e + 1)) + (edOut what pl l t q).length) x)) 18 (C.set (8 * (4 * j + (e + 1)) + (edOut what pl l t q).length) ((m.2.1 18).getD (8 * (4 * j + e) + fr) 0)) := by
            unfold mA
            refine Prod.ext rfl (Prod.ext (funext fun z => ?_) rfl)
            simp only [up_if]
            by_cases z8 : z = 18
            · simp [z8]
            · by_cases z7 : z = 17
              · simp [z7]
              · by_cases z6 : z = 16
                · simp [z6]
                · simp [z8, z7, z6]
          rw [e9]
          exact this
        by_cases y2 : what = 2
        · rw [if_pos y2]
          by_cases y3 : nI q = pl
          · rw [if_pos y3]
            exact s324 _ (by rw [if_pos ⟨y2, y3⟩]) _ rfl
          · rw [if_neg y3]
            unfold F_X12_edition_317
            simp only [m_g17, m_a17, mA_1, mB_1, mI_1, mI_21, mI_22, mA_21, mA_22, mB_21, mB_22, Nat.reduceEqDiff, Nat.reduceEqDiff, reduceCtorEq, if_false, if_true, inb_nI (show 8 * (4 * j + e) + fr < 2 ^ 31 by omega), rdI_nI (show 8 * (4 * j + e) + fr < 2 ^ 31 by omega), w2, v2, g2]
            exact ⟨by omega, s324 _ (by rw [if_neg (fun z => y3 z.2)]) _ rfl⟩
        · rw [if_neg y2]
          unfold F_X12_edition_317
          simp only [m_g17, m_a17, mA_1, mB_1, mI_1, mI_21, mI_22, mA_21, mA_22, mB_21, mB_22, Nat.reduceEqDiff, Nat.reduceEqDiff, reduceCtorEq, if_false, if_true, inb_nI (show 8 * (4 * j + e) + fr < 2 ^ 31 by omega), rdI_nI (show 8 * (4 * j + e) + fr < 2 ^ 31 by omega), w2, v2, g2]
          exact ⟨by omega, s324 _ (by rw [if_neg (fun z => y2 z.1)]) _ rfl⟩
      unfold F_X12_edition_250
      by_cases y1 : what = 1
      · rw [if_pos y1]
        by_cases y3 : nI q = pl
        · rw [if_pos y3]
          rw [if_pos ⟨y1, y3⟩, List.append_nil] at eo
          have := ih (q + 1) A B C (by omega) (by rw [eo]; exact ⟨w1, w2, w3, w4, w5⟩) H
          rw [eo, ← nI_1] at this
          exact this
        · rw [if_neg y3]; exact s268 (fun z => y3 z.2)
      · rw [if_neg y1]; exact s268 (fun z => y1 z.1)
    have e80 : (8 : Int32) * nI (4 * j + e) = nI (8 * (4 * j + e)) := by have := idx8 (4 * j + e) 0; simpa [nI_0] using this
    rw [e80]
    by_cases y : what = 3
    · rw [if_pos y]
      obtain ⟨z, hz⟩ := get_lt (show t.length - 1 - q < t.length by omega)
      refine ⟨by omega, ?_⟩
      rw [show nI t.length - 1 - nI q = nI (t.length - 1 - q) by
        have a1 := pk_sub (a := t.length) (b := 1) (by omega)
        have a2 := pk_sub (a := t.length - 1) (b := q) (by omega)
        rw [show (1 : Int32) = nI 1 from rfl, a1, a2]]
      exact step _ z hz (if_pos y)
    · rw [if_neg y]
      obtain ⟨z, hz⟩ := get_lt (show q < t.length by omega)
      exact step _ z hz (if_neg y)
end EdInv
