section EdRef
variable {rs : List RowT} {ks : List KindT} {vs : List ValT} {tl : Nat → Nat → Nat → List Int32} {sc : Nat → Int32} {wI : Nat → List Int32} {wL : Nat → List Int64} {m : MS} {d d2 u : Nat} {v1 v2 v3 v5 v6 : Int32} {v4 : Int64} {W : Prop → Prop}
variable {cp mp h : MH}
theorem take_s {α : Type} {t : List α} {q : Nat} {y : α} (h : t[q]? = some y) : t.take (q + 1) = t.take q ++ [y] := by
  rw [List.take_add_one, h]; rfl
theorem edOut_0 {pl l : Int32} {t : List ET} : ∀ q, q ≤ t.length → edOut 0 pl l t q = t.take q
  | 0, _ => by simp [edOut]
  | q + 1, h => by
    obtain ⟨y, hy⟩ := get_lt (show q < t.length by omega)
    rw [edOut, edOut_0 q (by omega), take_s hy]
    simp only [show ¬ (0 : Int32) = 3 by decide, show ¬ (0 : Int32) = 1 by decide, show ¬ (0 : Int32) = 2 by decide, false_and, if_false, hy]
theorem edOut_1 {l : Int32} {t : List ET} {p : Nat} (h8 : t.length ≤ 8) (hp : p < t.length) : ∀ q, q ≤ t.length → edOut 1 (nI p) l t q = (t.take q).eraseIdx p
  | 0, _ => by simp [edOut]
  | q + 1, h => by
    obtain ⟨y, hy⟩ := get_lt (show q < t.length by omega)
    rw [edOut, edOut_1 h8 hp q (by omega), take_s hy]
    have lq : (t.take q).length = q := by simp; omega
    simp only [show ¬ (1 : Int32) = 3 by decide, show ¬ (1 : Int32) = 2 by decide, false_and, if_false, hy, true_and, nI_eq (show q < 2 ^ 31 by omega) (show p < 2 ^ 31 by omega)]
    by_cases e : q = p
    · subst e
      rw [if_pos rfl, List.append_nil, List.eraseIdx_append_of_length_le (by omega), lq, Nat.sub_self]
      simp [List.eraseIdx_of_length_le (show (t.take q).length ≤ q by omega)]
    · rw [if_neg e]
      by_cases e2 : p < q
      · rw [List.eraseIdx_append_of_lt_length (by omega)]
      · rw [List.eraseIdx_append_of_length_le (by omega), List.eraseIdx_of_length_le (show (t.take q).length ≤ p by omega), lq]
        rw [List.eraseIdx_of_length_le (by simp; omega)]
theorem edOut_2 {l : Int32} {t : List ET} {p : Nat} {x : ET} (h8 : t.length ≤ 8) (hx : t[p]? = some x) : ∀ q, q ≤ t.length → edOut 2 (nI p) l t q = (t.set p (x.1, l, x.2.2)).take q
  | 0, _ => by simp [edOut]
  | q + 1, h => by
    obtain ⟨y, hy⟩ := get_lt (show q < t.length by omega)
    have hp := (List.getElem?_eq_some_iff.mp hx).1
    rw [edOut, edOut_2 h8 hx q (by omega)]
    simp only [show ¬ (2 : Int32) = 3 by decide, show ¬ (2 : Int32) = 1 by decide, false_and, if_false, hy, true_and, nI_eq (show q < 2 ^ 31 by omega) (show p < 2 ^ 31 by omega)]
    by_cases e : q = p
    · subst e
      cases hx.symm.trans hy
      rw [if_pos rfl, take_s (y := (x.1, l, x.2.2)) (List.getElem?_set_self hp)]
    · rw [if_neg e, take_s (y := y) (by rw [List.getElem?_set_ne (Ne.symm e)]; exact hy)]
theorem edOut_3 {pl l : Int32} {t : List ET} : ∀ q, q ≤ t.length → edOut 3 pl l t q = t.reverse.take q
  | 0, _ => by simp [edOut]
  | q + 1, h => by
    obtain ⟨y, hy⟩ := get_lt (show t.length - 1 - q < t.length by omega)
    rw [edOut, edOut_3 q (by omega), take_s (y := y) (by rw [List.getElem?_reverse (by omega)]; exact hy)]
    simp only [if_true, show ¬ (3 : Int32) = 1 by decide, show ¬ (3 : Int32) = 2 by decide, false_and, if_false, hy]
def edPl (what w : Int32) (t : List ET) : Int32 := if what = 3 then -1 else pI (plc t w)
theorem edOut_new {what w l : Int32} {t t' : List ET} (h8 : t.length ≤ 8) (h : edNew what w l t t') : if what = 0 then edOut what (edPl what w t) l t t.length = t else edOut what (edPl what w t) l t t.length = t' := by
  rcases h with ⟨rfl, -⟩ | ⟨rfl, p, hp, rfl⟩ | ⟨rfl, p, x, hp, hx, rfl⟩ | ⟨rfl, rfl⟩
  · rw [if_pos rfl, edOut_0 _ (Nat.le_refl _), List.take_of_length_le (Nat.le_refl _)]
  · rw [if_neg (by decide)]
    unfold edPl
    rw [if_neg (by decide), hp, show pI (some p) = nI p from rfl, edOut_1 h8 (plc_lt hp) _ (Nat.le_refl _), List.take_of_length_le (Nat.le_refl _)]
  · rw [if_neg (by decide)]
    unfold edPl
    rw [if_neg (by decide), hp, show pI (some p) = nI p from rfl, edOut_2 h8 hx _ (Nat.le_refl _), List.take_of_length_le (by rw [List.length_set]; exact Nat.le_refl _)]
  · rw [if_neg (by decide), edOut_3 _ (Nat.le_refl _), List.take_of_length_le (by rw [List.length_reverse]; exact Nat.le_refl _)]
theorem edNew_ok {what w l : Int32} {b : Bool} {t t' : List ET} (h : edNew what w l t t') (ho : EdOK b t) (h0 : what = 0 → t.length < (if b then 8 else 6) ∧ plc t w = none) (hl : what = 0 ∨ what = 2 → b = false → wi l 0 9 = true) : EdOK b t' := by
  obtain ⟨o1, o2, o3⟩ := ho
  rcases h with ⟨rfl, a, rfl⟩ | ⟨rfl, p, hp, rfl⟩ | ⟨rfl, p, x, hp, hx, rfl⟩ | ⟨rfl, rfl⟩
  · obtain ⟨q1, q2⟩ := h0 rfl
    refine ⟨by rw [List.length_append]; exact q1, ?_, fun hb x hx => ?_⟩
    · rw [List.map_append, List.nodup_append]
      refine ⟨o2, by simp, fun a' ha b' hb => ?_⟩
      obtain ⟨x, hx, rfl⟩ := List.mem_map.mp ha
      have : b' = w := by simpa using hb
      subst this
      obtain ⟨i, hi⟩ := List.getElem?_of_mem hx
      exact plc_none q2 hi
    · rcases List.mem_append.mp hx with z | z
      · exact o3 hb x z
      · rw [List.mem_singleton.mp z]; exact hl (Or.inl rfl) hb
  · refine ⟨Nat.le_trans (List.length_eraseIdx_le t p) o1, ?_, fun hb x hx => o3 hb x (List.mem_of_mem_eraseIdx hx)⟩
    exact List.Pairwise.sublist ((List.eraseIdx_sublist t p).map _) o2
  · refine ⟨by rw [List.length_set]; exact o1, by rw [map_set_fst (y := (x.1, l, x.2.2)) hx rfl]; exact o2, fun hb y hy => ?_⟩
    rcases List.mem_or_eq_of_mem_set hy with z | z
    · exact o3 hb y z
    · rw [z]; exact hl (Or.inr rfl) hb
  · refine ⟨by rw [List.length_reverse]; exact o1, ?_, fun hb x hx => o3 hb x (List.mem_reverse.mp hx)⟩
    rw [List.map_reverse]
    exact List.pairwise_reverse.mpr (List.Pairwise.imp (fun h => Ne.symm h) o2)
theorem edNew_mem {what w l : Int32} {t t' : List ET} (h : edNew what w l t t') (h2 : what ≠ 2) {q : Nat} {x : ET} (hx : t'[q]? = some x) (hq : what = 0 → q < t.length) : x ∈ t := by
  rcases h with ⟨rfl, a, rfl⟩ | ⟨rfl, p, hp, rfl⟩ | ⟨rfl, p, x, hp, hx, rfl⟩ | ⟨rfl, rfl⟩
  · rw [List.getElem?_append_left (hq rfl)] at hx
    exact List.mem_of_getElem? hx
  · exact List.mem_of_mem_eraseIdx (List.mem_of_getElem? hx)
  · exact absurd rfl h2
  · exact List.mem_reverse.mp (List.mem_of_getElem? hx)
theorem EdW.push0 {b : Bool} {E i : Nat} {ts : List ET} {A B C : List Int32} (H : EdW m b E 8 ts A B C) (hl : ts.length < 8) (hi : i ≤ ts.length) (hE : 8 * E + 8 ≤ 512) (y : ET) : EdW m b E i (ts ++ [y]) (A.set (8 * E + ts.length) y.1) (B.set (8 * E + ts.length) y.2.1) C := by
  obtain ⟨h1, h2, h3, h4, h5⟩ := H
  refine ⟨by rw [List.length_set]; exact h1, by rw [List.length_set]; exact h2, h3, fun q hq => ?_, fun q x hx => ?_⟩
  · simp only [lset_getD]
    rw [if_neg (by omega), if_neg (by omega)]
    exact h4 q hq
  · simp only [lset_getD]
    rcases app_case hx with z | ⟨rfl, rfl⟩
    · have := (List.getElem?_eq_some_iff.mp z).1
      rw [if_neg (by omega), if_neg (by omega)]
      obtain ⟨g1, g2, g3⟩ := h5 q x z
      exact ⟨g1, g2, fun y1 _ => g3 y1 (by omega)⟩
    · rw [if_pos ⟨rfl, by omega⟩, if_pos ⟨rfl, by omega⟩]
      exact ⟨rfl, rfl, fun _ z => absurd z (by omega)⟩
def edV (j e made : Nat) (w : Int32) : ValT := (j, e, made, w, 1, 1, [])
theorem g_ed195 (I : Inv rs ks vs tl sc wI wL m) {j e : Nat} {k : KindT} {t t' : List ET} {tl' : Nat → Nat → Nat → List Int32} {what w l : Int32} (hk : ks[j]? = some k) (hs : k.2.2.1 = true) (ht : k.2.2.2.2[e]? = some t) (he : e + 1 = k.2.2.2.2.length) (h4 : k.2.2.2.2.length < 4) (hn : edNew what w l t t') (htl : ∀ j' e' p, ¬ (j' = j ∧ e' = e + 1) → tl' j' e' p = tl j' e' p) (hti : ∀ p, p < 3 → t'.length + (tl' j (e + 1) p).length = (if k.1 then 8 else 6)) (h0 : what = 0 → t.length < (if k.1 then 8 else 6) ∧ plc t w = none) (h00 : what = 0 → k.1 = true → vs.length < 200) (hl : what = 0 ∨ what = 2 → k.1 = false → wi l 0 9 = true) (h2 : what = 2 → k.1 = false) {Q : Int32 → MH → Prop}
    (H1 : ¬ (what = 0 ∧ k.1 = true) → ∀ m', Inv rs (ks.set j (kAdd k t')) vs tl' sc wI wL m' → Q (nI (e + 1)) (hJ cp (hM m')))
    (H2 : what = 0 → k.1 = true → ∀ x, t'[t.length]? = some x → ∀ m', Inv rs (ks.set j (kCon (kAdd k t') (e + 1) t.length t' x vs.length)) (vs ++ [(j, e + 1, k.2.2.2.1, x.1, 1, 1, [])]) tl' sc wI wL m' → Q (nI (e + 1)) (hJ cp (hM m'))) : F_X12_edition_195 d mo (nI j) what w l (b2i k.1) (nI (4 * j + e)) (edPl what w t) (hJ cp (hM m)) u Q := by
  have hKd := I.1.2.1.1
  have hj := (List.getElem?_eq_some_iff.mp hk).1
  obtain ⟨k1, k2, k3, k4, k5, k6, k7⟩ := I.1.2.1.2 k (List.mem_of_getElem? hk)
  have hEd := k4 t (List.mem_of_getElem? ht)
  have h8 : t.length ≤ 8 := by have := hEd.1; split at this <;> omega
  have hE' := edNew_ok hn hEd h0 hl
  have h8' : t'.length ≤ 8 := by have := hE'.1; split at this <;> omega
  have hV := I.2.2.2.1
  obtain ⟨c0, c1, c2, c3, c4, c5, c6, c7, c8, c9, c10, c11⟩ := I.2.2.1
  obtain ⟨d1, d2', d3, d4, d5, d6⟩ := c10 j k hk
  obtain ⟨f1, f2⟩ := d6 e t ht
  have b512 : 8 * (4 * j + (e + 1)) + 8 ≤ 512 := by omega
  have hk2 : ∀ t2, (ks.set j (kAdd k t2))[j]? = some (kAdd k t2) := fun t2 => List.getElem?_set_self hj
  have hl2 : ∀ t2, (kAdd k t2).2.2.2.2.length = e + 2 := by intro t2; show (k.2.2.2.2 ++ [t2]).length = _; simp; omega
  have ha2 : ∀ t2, (kAdd k t2).2.2.2.2[e + 1]? = some t2 := by intro t2; show (k.2.2.2.2 ++ [t2])[e + 1]? = _; rw [he]; simp
  unfold F_X12_edition_195
  simp only [m_g13, m_a13, m_s13, inb_nI (show j < 2 ^ 31 by omega), rdI_nI (show j < 2 ^ 31 by omega), nI_clamp (show j < 2 ^ 31 by omega), c4, d4]
  refine ⟨by omega, by omega, ?_⟩
  rw [show nI (k.2.2.2.2.length - 1) + 1 = nI (e + 1) by rw [nI_1]; congr 1; omega]
  have e0 : mA m 13 ((m.2.1 13).set j (nI (e + 1))) = mA (mA (mA (mA m 13 ((m.2.1 13).set j (nI (e + 1)))) 16 (m.2.1 16)) 17 (m.2.1 17)) 18 (m.2.1 18) := by
    unfold mA
    refine Prod.ext rfl (Prod.ext (funext fun z => ?_) rfl)
    simp only [up_if]
    by_cases z8 : z = 18
    · simp [z8]
    · by_cases z7 : z = 17
      · simp [z7]
      · by_cases z6 : z = 16
        · simp [z6]
        · simp [z8, z7, z6]
  rw [e0]
  have loop := g_ed211 (d := d) (u := u) (cp := cp) (Q := Q) (what := what) (w := w) (l := l) (pl := edPl what w t) (X := (m.2.1 13).set j (nI (e + 1))) I hk hs ht he h4 t.length 0 (m.2.1 16) (m.2.1 17) (m.2.1 18) (by omega) ⟨c7, c8, c9, fun _ _ => ⟨rfl, rfl, rfl⟩, fun q x hx => by cases hx⟩
  refine loop ?_
  intro A B C hW
  have hnew := edOut_new h8 hn
  -- the last step: how many
  have s406 : ∀ (n : Nat) (m9 : MS), (m9.2.1 15).length = 64 → (m9.2.1 13).length = 16 → (m9.2.1 13).getD j 0 = nI (e + 1) → Q (nI (e + 1)) (hJ cp (hM (mA m9 15 ((m9.2.1 15).set (4 * j + (e + 1)) (nI n))))) → F_X12_edition_406 d mo (nI j) (nI (4 * j + e)) (nI n) (hJ cp (hM m9)) u Q := by
    intro n m9 l15 l13 g13 hq
    unfold F_X12_edition_406
    rw [nI_1]
    simp only [m_g15, m_s15, inb_nI (show 4 * j + e + 1 < 2 ^ 31 by omega), nI_clamp (show 4 * j + e + 1 < 2 ^ 31 by omega), l15, m_g13, m_a13, mA_1, mB_1, mI_1, mI_21, mI_22, mA_21, mA_22, mB_21, mB_22, Nat.reduceEqDiff, Nat.reduceEqDiff, reduceCtorEq, if_false, if_true, inb_nI (show j < 2 ^ 31 by omega), rdI_nI (show j < 2 ^ 31 by omega), l13, g13]
    exact ⟨by omega, by omega, hq⟩
  have g13 : ((m.2.1 13).set j (nI (e + 1))).getD j 0 = nI (e + 1) := by rw [lset_getD, if_pos ⟨rfl, by omega⟩]
  unfold F_X12_edition_211
  simp only [m_g15, m_a15, mA_1, mB_1, mI_1, mI_21, mI_22, mA_21, mA_22, mB_21, mB_22, Nat.reduceEqDiff, Nat.reduceEqDiff, reduceCtorEq, if_false, if_true, inb_nI (show 4 * j + e < 2 ^ 31 by omega), rdI_nI (show 4 * j + e < 2 ^ 31 by omega), c6, f1]
  refine ⟨by omega, ?_⟩
  rw [if_pos (nI_le (Nat.le_refl _) (by omega))]
  by_cases w0 : what = 0
  · rw [if_pos w0] at hnew ⊢
    rw [hnew] at hW ⊢
    obtain ⟨a, rfl⟩ : ∃ a, t' = t ++ [(w, l, a)] := by
      rcases hn with ⟨-, a, z⟩ | ⟨z, -⟩ | ⟨z, -⟩ | ⟨z, -⟩
      · exact ⟨a, z⟩
      · rw [w0] at z; exact absurd z (by decide)
      · rw [w0] at z; exact absurd z (by decide)
      · rw [w0] at z; exact absurd z (by decide)
    have ht8 : t.length < 8 := by have := (h0 w0).1; split at this <;> omega
    have e8 : (8 : Int32) * (nI (4 * j + e) + 1) + nI t.length = nI (8 * (4 * j + (e + 1)) + t.length) := by rw [nI_1, idx8]; rfl
    have wA := hW.1
    have wB := hW.2.1
    have wC := hW.2.2.1
    simp only [e8, m_g16, m_s16, mA_1, mB_1, mI_1, mI_21, mI_22, mA_21, mA_22, mB_21, mB_22, Nat.reduceEqDiff, Nat.reduceEqDiff, reduceCtorEq, if_false, if_true, inb_nI (show 8 * (4 * j + (e + 1)) + t.length < 2 ^ 31 by omega), nI_clamp (show 8 * (4 * j + (e + 1)) + t.length < 2 ^ 31 by omega), wA, m_g17, m_s17, wB, m_g18]
    refine ⟨by omega, by omega, ?_⟩
    cases hc : k.1
    · rw [if_pos (show b2i false = 0 from rfl)]
      unfold F_X12_edition_402
      simp only [m_s18, mA_1, mB_1, mI_1, mI_21, mI_22, mA_21, mA_22, mB_21, mB_22, Nat.reduceEqDiff, Nat.reduceEqDiff, reduceCtorEq, if_false, if_true, inb_nI (show 8 * (4 * j + (e + 1)) + t.length < 2 ^ 31 by omega), nI_clamp (show 8 * (4 * j + (e + 1)) + t.length < 2 ^ 31 by omega), wC]
      refine ⟨by omega, ?_⟩
      rw [nI_1]
      refine s406 _ _ (by simp only [mA_1, mB_1, mI_1, mI_21, mI_22, mA_21, mA_22, mB_21, mB_22, Nat.reduceEqDiff, Nat.reduceEqDiff, reduceCtorEq, if_false, if_true]; exact c6) (by simp only [mA_1, mB_1, mI_1, mI_21, mI_22, mA_21, mA_22, mB_21, mB_22, Nat.reduceEqDiff, Nat.reduceEqDiff, reduceCtorEq, if_false, if_true, List.length_set]; exact c4) (by simp only [mA_1, mB_1, mI_1, mI_21, mI_22, mA_21, mA_22, mB_21, mB_22, Nat.reduceEqDiff, Nat.reduceEqDiff, reduceCtorEq, if_false, if_true]; exact g13) ?_
      have hW2 := EdW.push (i := 8) (c := 0) hW ht8 b512 (w, l, a) (fun z _ => by rw [hc] at z; cases z)
      have I2 := (WInv.ed (e := e) I hk hs he h4 hE' htl hti hW2 (fun z => by rw [hc] at z; cases z)).inv (hk2 _) (fun t2 ht2 => by
        rw [hl2, show e + 2 - 1 = e + 1 by omega, ha2] at ht2
        cases ht2; exact h8')
      refine cast ?_ (H1 (fun z => by rw [hc] at z; exact absurd z.2 (by decide)) _ I2)
      refine congrArg (fun z => Q (nI (e + 1)) (hJ cp (hM z))) ?_
      unfold mEd mA
      refine Prod.ext rfl (Prod.ext (funext fun z => ?_) rfl)
      simp only [up_if, List.length_append, List.length_cons, List.length_nil]
      by_cases z5 : z = 15
      · simp [z5]
      · by_cases z8 : z = 18
        · simp [z8]
        · by_cases z7 : z = 17
          · simp [z7]
          · by_cases z6 : z = 16
            · simp [z6]
            · simp [z5, z8, z7, z6]
    · rw [if_neg (show ¬ b2i true = 0 by decide)]
      have hvl := h00 w0 hc
      obtain ⟨v0, v1, v2, v3, v4, v5, v6, -⟩ := hV
      refine ⟨m_rc, g_newConstant (n := vs.length) (e := e + 1) (made := k.2.2.2.1) hvl (by omega) (by simp only [mA_1, mB_1, mI_1, mI_21, mI_22, mA_21, mA_22, mB_21, mB_22, Nat.reduceEqDiff, Nat.reduceEqDiff, reduceCtorEq, if_false, if_true]; exact v0) (by simp only [mA_1, mB_1, mI_1, mI_21, mI_22, mA_21, mA_22, mB_21, mB_22, Nat.reduceEqDiff, Nat.reduceEqDiff, reduceCtorEq, if_false, if_true]; exact v1) (by simp only [mA_1, mB_1, mI_1, mI_21, mI_22, mA_21, mA_22, mB_21, mB_22, Nat.reduceEqDiff, Nat.reduceEqDiff, reduceCtorEq, if_false, if_true]; exact v2) (by simp only [mA_1, mB_1, mI_1, mI_21, mI_22, mA_21, mA_22, mB_21, mB_22, Nat.reduceEqDiff, Nat.reduceEqDiff, reduceCtorEq, if_false, if_true]; exact v3) (by simp only [mA_1, mB_1, mI_1, mI_21, mI_22, mA_21, mA_22, mB_21, mB_22, Nat.reduceEqDiff, Nat.reduceEqDiff, reduceCtorEq, if_false, if_true]; exact v4) (by simp only [mA_1, mB_1, mI_1, mI_21, mI_22, mA_21, mA_22, mB_21, mB_22, Nat.reduceEqDiff, Nat.reduceEqDiff, reduceCtorEq, if_false, if_true]; exact v5) (by simp only [mA_1, mB_1, mI_1, mI_21, mI_22, mA_21, mA_22, mB_21, mB_22, Nat.reduceEqDiff, Nat.reduceEqDiff, reduceCtorEq, if_false, if_true]; exact v6) (by simp only [mA_1, mB_1, mI_1, mI_21, mI_22, mA_21, mA_22, mB_21, mB_22, Nat.reduceEqDiff, Nat.reduceEqDiff, reduceCtorEq, if_false, if_true, List.length_set]; exact c4) (by simp only [mA_1, mB_1, mI_1, mI_21, mI_22, mA_21, mA_22, mB_21, mB_22, Nat.reduceEqDiff, Nat.reduceEqDiff, reduceCtorEq, if_false, if_true]; exact c5) (by simp only [mA_1, mB_1, mI_1, mI_21, mI_22, mA_21, mA_22, mB_21, mB_22, Nat.reduceEqDiff, Nat.reduceEqDiff, reduceCtorEq, if_false, if_true]; exact g13) (by simp only [mA_1, mB_1, mI_1, mI_21, mI_22, mA_21, mA_22, mB_21, mB_22, Nat.reduceEqDiff, Nat.reduceEqDiff, reduceCtorEq, if_false, if_true]; exact d5) ?_⟩
      unfold F_X12_edition_402
      simp only [m_s18, mVal, mA_1, mB_1, mI_1, mI_21, mI_22, mA_21, mA_22, mB_21, mB_22, Nat.reduceEqDiff, Nat.reduceEqDiff, reduceCtorEq, if_false, if_true, inb_nI (show 8 * (4 * j + (e + 1)) + t.length < 2 ^ 31 by omega), nI_clamp (show 8 * (4 * j + (e + 1)) + t.length < 2 ^ 31 by omega), wC]
      refine ⟨by omega, ?_⟩
      rw [show nI t.length + 1 = nI (t.length + 1) from nI_1 _]
      refine s406 _ _ (by simp only [mA_1, mB_1, mI_1, mI_21, mI_22, mA_21, mA_22, mB_21, mB_22, Nat.reduceEqDiff, Nat.reduceEqDiff, reduceCtorEq, if_false, if_true]; exact c6) (by simp only [mA_1, mB_1, mI_1, mI_21, mI_22, mA_21, mA_22, mB_21, mB_22, Nat.reduceEqDiff, Nat.reduceEqDiff, reduceCtorEq, if_false, if_true, List.length_set]; exact c4) (by simp only [mA_1, mB_1, mI_1, mI_21, mI_22, mA_21, mA_22, mB_21, mB_22, Nat.reduceEqDiff, Nat.reduceEqDiff, reduceCtorEq, if_false, if_true]; exact g13) ?_
      have hW2 := EdW.push0 (i := t.length) hW ht8 (Nat.le_refl _) b512 (w, l, a)
      have I2 := WInv.ed (e := e) I hk hs he h4 hE' htl hti hW2 (fun z q x hx hq => k7 z hs t (List.mem_of_getElem? ht) x (edNew_mem (Or.inl ⟨w0, a, rfl⟩) (by rw [w0]; decide) hx (fun _ => hq)))
      have I3 := I2.con (e := e + 1) (x := (w, l, a)) (hk2 _) hc hs (ha2 _) (by rw [hl2]) (by simp) hvl
      have I4 := I3.inv (k := kCon (kAdd k (t ++ [(w, l, a)])) (e + 1) t.length (t ++ [(w, l, a)]) (w, l, a) vs.length) (by rw [List.getElem?_set_self (by rw [List.length_set]; exact hj)]) (fun t2 ht2 => by
        have e1 : (kCon (kAdd k (t ++ [(w, l, a)])) (e + 1) t.length (t ++ [(w, l, a)]) (w, l, a) vs.length).2.2.2.2.length = e + 2 := by show (List.set _ _ _).length = _; rw [List.length_set]; exact hl2 _
        rw [e1, show e + 2 - 1 = e + 1 by omega] at ht2
        rcases set_get ht2 with ⟨-, rfl⟩ | ⟨z, -⟩
        · simp
        · exact absurd rfl z)
      rw [List.set_set] at I4
      refine cast ?_ (H2 w0 hc (w, l, a) (by simp) _ I4)
      refine congrArg (fun z => Q (nI (e + 1)) (hJ cp (hM z))) ?_
      unfold mCon mEd mA mI
      refine Prod.ext (funext fun z => ?_) (Prod.ext (funext fun z => ?_) rfl)
      · simp only [up_if]
      · simp only [up_if, List.length_append, List.length_cons, List.length_nil, kAdd]
        by_cases z5 : z = 15
        · simp [z5]
        · by_cases z8 : z = 18
          · simp [z8]
          · by_cases z7 : z = 17
            · simp [z7]
            · by_cases z6 : z = 16
              · simp [z6]
              · simp [z5, z8, z7, z6]
  · rw [if_neg w0] at hnew ⊢
    rw [hnew] at hW ⊢
    refine s406 _ _ (by simp only [mA_1, mB_1, mI_1, mI_21, mI_22, mA_21, mA_22, mB_21, mB_22, Nat.reduceEqDiff, Nat.reduceEqDiff, reduceCtorEq, if_false, if_true]; exact c6) (by simp only [mA_1, mB_1, mI_1, mI_21, mI_22, mA_21, mA_22, mB_21, mB_22, Nat.reduceEqDiff, Nat.reduceEqDiff, reduceCtorEq, if_false, if_true, List.length_set]; exact c4) (by simp only [mA_1, mB_1, mI_1, mI_21, mI_22, mA_21, mA_22, mB_21, mB_22, Nat.reduceEqDiff, Nat.reduceEqDiff, reduceCtorEq, if_false, if_true]; exact g13) ?_
    have I2 := (WInv.ed (e := e) I hk hs he h4 hE' htl hti hW (fun z q x hx hq => k7 z hs t (List.mem_of_getElem? ht) x (edNew_mem hn (fun y => by rw [h2 y] at z; cases z) hx (fun y => absurd y w0)))).inv (hk2 _) (fun t2 ht2 => by
      rw [hl2, show e + 2 - 1 = e + 1 by omega, ha2] at ht2
      cases ht2; exact h8')
    exact H1 (fun z => w0 z.1) _ I2
end EdRef
