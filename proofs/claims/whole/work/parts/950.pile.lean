section Pile
variable {rs : List RowT} {ks : List KindT} {vs : List ValT} {tl : Nat → Nat → Nat → List Int32} {sc : Nat → Int32} {wI : Nat → List Int32} {wL : Nat → List Int64} {m : MS} {d d2 u : Nat} {v1 v2 v3 v5 v6 : Int32} {v4 : Int64} {W : Prop → Prop}
variable {cp mp h : MH}
/-! THE PILE of the reference: frames (a, b, part, cell, sum, row) -/
abbrev Fr : Type := Int32 × Int32 × Int32 × Int32 × Int32 × Int32
def Pil (m0 m : MS) (fs : List Fr) : Prop := (∀ k, k ≠ 35 → m.1 k = m0.1 k) ∧ (∀ k, (k < 36 ∨ 41 < k) → m.2.1 k = m0.2.1 k) ∧ m.2.2 = m0.2.2 ∧ m.1 35 = nI fs.length ∧ (m.2.1 36).length = 12 ∧ (m.2.1 37).length = 12 ∧ (m.2.1 38).length = 12 ∧ (m.2.1 39).length = 12 ∧ (m.2.1 40).length = 12 ∧ (m.2.1 41).length = 12 ∧
  ∀ (t : Nat) (f : Fr), fs[t]? = some f → (m.2.1 36).getD t 0 = f.1 ∧ (m.2.1 37).getD t 0 = f.2.1 ∧ (m.2.1 38).getD t 0 = f.2.2.1 ∧ (m.2.1 39).getD t 0 = f.2.2.2.1 ∧ (m.2.1 40).getD t 0 = f.2.2.2.2.1 ∧ (m.2.1 41).getD t 0 = f.2.2.2.2.2
theorem Inv.pil {m' : MS} {fs : List Fr} (I : Inv rs ks vs tl sc wI wL m) (h : Pil m m' fs) : Inv rs ks vs tl sc wI wL m' := by
  obtain ⟨a, b1, b2, b3, b4⟩ := I
  obtain ⟨h1, h2, h3, h4, l36, l37, l38, l39, l40, l41, -⟩ := h
  refine ⟨a, ?_, ?_, ?_, ?_⟩
  · unfold mRows at b1 ⊢
    rw [h1 3 (by decide), h2 4 (by decide), h2 5 (by decide), h2 6 (by decide), h3]
    exact b1
  · unfold mKinds at b2 ⊢
    rw [h1 9 (by decide), h2 10 (by decide), h2 11 (by decide), h2 12 (by decide), h2 13 (by decide), h2 14 (by decide), h2 15 (by decide), h2 16 (by decide), h2 17 (by decide), h2 18 (by decide)]
    exact b2
  · unfold mVals at b3 ⊢
    rw [h1 24 (by decide), h2 25 (by decide), h2 26 (by decide), h2 27 (by decide), h2 28 (by decide), h2 29 (by decide), h2 30 (by decide), h3]
    exact b3
  · unfold mMisc at b4 ⊢
    rw [h1 0 (by decide), h1 1 (by decide), h1 2 (by decide), h1 19 (by decide), h1 45 (by decide), h2 20 (by decide), h2 21 (by decide), h2 22 (by decide), h2 42 (by decide), h2 44 (by decide), h3]
    obtain ⟨c1, c2, c3, c4, c5, c6, c7, c8, c9, -, -, -, -, -, -, c10⟩ := b4
    exact ⟨c1, c2, c3, c4, c5, c6, c7, c8, c9, l36, l37, l38, l39, l40, l41, c10⟩
theorem Inv.pil0 (I : Inv rs ks vs tl sc wI wL m) : Pil m (mI m 35 0) [] := by
  obtain ⟨c1, c2, c3, c4, c5, c6, c7, c8, c9, d1, d2, d3, d4, d5, d6, -⟩ := I.2.2.2.2
  exact ⟨fun k hk => by simp [mI, up, hk], fun k _ => rfl, rfl, by simp [mI, up, nI_0], d1, d2, d3, d4, d5, d6, fun t f hf => by cases hf⟩
theorem Pil.len {m0 : MS} {fs : List Fr} (h : Pil m0 m fs) : m.1 35 = nI fs.length := h.2.2.2.1
theorem Pil.at {m0 : MS} {fs : List Fr} {f : Fr} (h : Pil m0 m (fs ++ [f])) (h12 : fs.length < 12) : (inb (m.2.1 36) (nI fs.length) ∧ rdI (m.2.1 36) (nI fs.length) = f.1) ∧ (inb (m.2.1 37) (nI fs.length) ∧ rdI (m.2.1 37) (nI fs.length) = f.2.1) ∧ (inb (m.2.1 38) (nI fs.length) ∧ rdI (m.2.1 38) (nI fs.length) = f.2.2.1) ∧ (inb (m.2.1 39) (nI fs.length) ∧ rdI (m.2.1 39) (nI fs.length) = f.2.2.2.1) ∧ (inb (m.2.1 40) (nI fs.length) ∧ rdI (m.2.1 40) (nI fs.length) = f.2.2.2.2.1) ∧ (inb (m.2.1 41) (nI fs.length) ∧ rdI (m.2.1 41) (nI fs.length) = f.2.2.2.2.2) ∧ m.1 35 - 1 = nI fs.length ∧ m.1 35 = nI (fs.length + 1) := by
  obtain ⟨h1, h2, h3, h4, l36, l37, l38, l39, l40, l41, hh⟩ := h
  obtain ⟨a1, a2, a3, a4, a5, a6⟩ := hh fs.length f (by simp)
  have b : fs.length < 2 ^ 31 := by omega
  have e35 : m.1 35 = nI (fs.length + 1) := by rw [h4]; simp
  refine ⟨⟨(inb_nI b).mpr (by omega), by rw [rdI_nI b, a1]⟩, ⟨(inb_nI b).mpr (by omega), by rw [rdI_nI b, a2]⟩, ⟨(inb_nI b).mpr (by omega), by rw [rdI_nI b, a3]⟩, ⟨(inb_nI b).mpr (by omega), by rw [rdI_nI b, a4]⟩, ⟨(inb_nI b).mpr (by omega), by rw [rdI_nI b, a5]⟩, ⟨(inb_nI b).mpr (by omega), by rw [rdI_nI b, a6]⟩, by rw [e35, ← nI_1, nI_1, nI_pred], e35⟩
theorem Pil.pop {m0 : MS} {fs : List Fr} {f : Fr} (h : Pil m0 m (fs ++ [f])) : Pil m0 (mI m 35 (nI fs.length)) fs := by
  obtain ⟨h1, h2, h3, h4, l36, l37, l38, l39, l40, l41, hh⟩ := h
  exact ⟨fun k hk => by simp only [mI_1]; rw [if_neg hk]; exact h1 k hk, h2, h3, by simp [mI, up], l36, l37, l38, l39, l40, l41, fun t g hg => hh t g (app_get hg)⟩
/-- one array of the pile is written at its top -/
theorem Pil.set {m0 : MS} {fs : List Fr} {f g : Fr} (h : Pil m0 m (fs ++ [f])) (h12 : fs.length < 12) {k : Nat} {x : Int32} (hk : (k = 36 ∧ g = (x, f.2)) ∨ (k = 37 ∧ g = (f.1, x, f.2.2)) ∨ (k = 38 ∧ g = (f.1, f.2.1, x, f.2.2.2)) ∨ (k = 39 ∧ g = (f.1, f.2.1, f.2.2.1, x, f.2.2.2.2)) ∨ (k = 40 ∧ g = (f.1, f.2.1, f.2.2.1, f.2.2.2.1, x, f.2.2.2.2.2)) ∨ (k = 41 ∧ g = (f.1, f.2.1, f.2.2.1, f.2.2.2.1, f.2.2.2.2.1, x))) : Pil m0 (mA m k ((m.2.1 k).set fs.length x)) (fs ++ [g]) := by
  obtain ⟨h1, h2, h3, h4, l36, l37, l38, l39, l40, l41, hh⟩ := h
  obtain ⟨a1, a2, a3, a4, a5, a6⟩ := hh fs.length f (by simp)
  have old : ∀ t f', (fs ++ [g])[t]? = some f' → t ≠ fs.length → (fs ++ [f])[t]? = some f' := by
    intro t f' ht hn
    rcases app_case ht with z | ⟨z, -⟩
    · exact app_get z
    · exact absurd z hn
  have top : ∀ f', (fs ++ [g])[fs.length]? = some f' → f' = g := by
    intro f' ht
    simpa using ht.symm
  rcases hk with ⟨rfl, rfl⟩ | ⟨rfl, rfl⟩ | ⟨rfl, rfl⟩ | ⟨rfl, rfl⟩ | ⟨rfl, rfl⟩ | ⟨rfl, rfl⟩
  all_goals
    refine ⟨fun q hq => h1 q hq, fun q hq => by simp only [mA_21]; rw [if_neg (by omega)]; exact h2 q hq, h3, by show m.1 35 = _; simpa using h4, ?_, ?_, ?_, ?_, ?_, ?_, fun t f' ht => ?_⟩
    · simp only [mA_1, mB_1, mI_1, mI_21, mI_22, mA_21, mA_22, mB_21, mB_22, Nat.reduceEqDiff, Nat.reduceEqDiff, reduceCtorEq, if_false, if_true, List.length_set]; exact l36
    · simp only [mA_1, mB_1, mI_1, mI_21, mI_22, mA_21, mA_22, mB_21, mB_22, Nat.reduceEqDiff, Nat.reduceEqDiff, reduceCtorEq, if_false, if_true, List.length_set]; exact l37
    · simp only [mA_1, mB_1, mI_1, mI_21, mI_22, mA_21, mA_22, mB_21, mB_22, Nat.reduceEqDiff, Nat.reduceEqDiff, reduceCtorEq, if_false, if_true, List.length_set]; exact l38
    · simp only [mA_1, mB_1, mI_1, mI_21, mI_22, mA_21, mA_22, mB_21, mB_22, Nat.reduceEqDiff, Nat.reduceEqDiff, reduceCtorEq, if_false, if_true, List.length_set]; exact l39
    · simp only [mA_1, mB_1, mI_1, mI_21, mI_22, mA_21, mA_22, mB_21, mB_22, Nat.reduceEqDiff, Nat.reduceEqDiff, reduceCtorEq, if_false, if_true, List.length_set]; exact l40
    · simp only [mA_1, mB_1, mI_1, mI_21, mI_22, mA_21, mA_22, mB_21, mB_22, Nat.reduceEqDiff, Nat.reduceEqDiff, reduceCtorEq, if_false, if_true, List.length_set]; exact l41
    · simp only [mA_1, mB_1, mI_1, mI_21, mI_22, mA_21, mA_22, mB_21, mB_22, Nat.reduceEqDiff, Nat.reduceEqDiff, reduceCtorEq, if_false, if_true, lset_getD]
      by_cases e : t = fs.length
      · subst e
        rw [if_pos ⟨rfl, by omega⟩, top f' ht]
        simp only [a1, a2, a3, a4, a5, a6, and_self]
      · rw [if_neg (by omega)]
        exact hh t f' (old t f' ht e)
theorem Pil.grow {m0 : MS} {fs : List Fr} (h : Pil m0 m fs) (h12 : fs.length < 12) (f : Fr) : Pil m0 (mI (mA (mA (mA (mA (mA (mA m 36 ((m.2.1 36).set fs.length f.1)) 37 ((m.2.1 37).set fs.length f.2.1)) 38 ((m.2.1 38).set fs.length f.2.2.1)) 39 ((m.2.1 39).set fs.length f.2.2.2.1)) 40 ((m.2.1 40).set fs.length f.2.2.2.2.1)) 41 ((m.2.1 41).set fs.length f.2.2.2.2.2)) 35 (nI fs.length + 1)) (fs ++ [f]) := by
  obtain ⟨h1, h2, h3, h4, l36, l37, l38, l39, l40, l41, hh⟩ := h
  refine ⟨fun q hq => by simp only [mA_1, mB_1, mI_1, mI_21, mI_22, mA_21, mA_22, mB_21, mB_22, Nat.reduceEqDiff, Nat.reduceEqDiff, reduceCtorEq, if_false, if_true]; rw [if_neg hq]; exact h1 q hq, fun q hq => ?_, h3, by simp [mI, up, nI_1], ?_, ?_, ?_, ?_, ?_, ?_, fun t f' ht => ?_⟩
  · simp only [mA_1, mB_1, mI_1, mI_21, mI_22, mA_21, mA_22, mB_21, mB_22, Nat.reduceEqDiff, Nat.reduceEqDiff, reduceCtorEq, if_false, if_true]
    rw [if_neg (by omega), if_neg (by omega), if_neg (by omega), if_neg (by omega), if_neg (by omega), if_neg (by omega)]
    exact h2 q hq
  · simp only [mA_1, mB_1, mI_1, mI_21, mI_22, mA_21, mA_22, mB_21, mB_22, Nat.reduceEqDiff, Nat.reduceEqDiff, reduceCtorEq, if_false, if_true, List.length_set]; exact l36
  · simp only [mA_1, mB_1, mI_1, mI_21, mI_22, mA_21, mA_22, mB_21, mB_22, Nat.reduceEqDiff, Nat.reduceEqDiff, reduceCtorEq, if_false, if_true, List.length_set]; exact l37
  · simp only [mA_1, mB_1, mI_1, mI_21, mI_22, mA_21, mA_22, mB_21, mB_22, Nat.reduceEqDiff, Nat.reduceEqDiff, reduceCtorEq, if_false, if_true, List.length_set]; exact l38
  · simp only [mA_1, mB_1, mI_1, mI_21, mI_22, mA_21, mA_22, mB_21, mB_22, Nat.reduceEqDiff, Nat.reduceEqDiff, reduceCtorEq, if_false, if_true, List.length_set]; exact l39
  · simp only [mA_1, mB_1, mI_1, mI_21, mI_22, mA_21, mA_22, mB_21, mB_22, Nat.reduceEqDiff, Nat.reduceEqDiff, reduceCtorEq, if_false, if_true, List.length_set]; exact l40
  · simp only [mA_1, mB_1, mI_1, mI_21, mI_22, mA_21, mA_22, mB_21, mB_22, Nat.reduceEqDiff, Nat.reduceEqDiff, reduceCtorEq, if_false, if_true, List.length_set]; exact l41
  · simp only [mA_1, mB_1, mI_1, mI_21, mI_22, mA_21, mA_22, mB_21, mB_22, Nat.reduceEqDiff, Nat.reduceEqDiff, reduceCtorEq, if_false, if_true, lset_getD]
    rcases app_case ht with z | ⟨rfl, rfl⟩
    · have := (List.getElem?_eq_some_iff.mp z).1
      rw [if_neg (by omega), if_neg (by omega), if_neg (by omega), if_neg (by omega), if_neg (by omega), if_neg (by omega)]
      exact hh t f' z
    · rw [if_pos ⟨rfl, by omega⟩, if_pos ⟨rfl, by omega⟩, if_pos ⟨rfl, by omega⟩, if_pos ⟨rfl, by omega⟩, if_pos ⟨rfl, by omega⟩, if_pos ⟨rfl, by omega⟩]
      exact ⟨rfl, rfl, rfl, rfl, rfl, rfl⟩
/-- a record value, its kind and edition -/
def RecV (rs : List RowT) (ks : List KindT) (vs : List ValT) (i : Nat) (v : ValT) (k : KindT) (t : List ET) : Prop := vs[i]? = some v ∧ ks[v.1]? = some k ∧ k.2.2.2.2[v.2.1]? = some t ∧ k.1 = false ∧ k.2.2.2.2.length ≤ 4 ∧ t.length ≤ 6 ∧ (∀ x ∈ t, wi x.2.1 0 9 = true) ∧ v.2.2.2.2.2.2.length = t.length ∧ ∀ q, q < t.length → partOK rs vs i (lnT t q) (v.2.2.2.2.2.2.getD q 0) v.2.2.2.2.2.1
theorem Inv.rec (I : Inv rs ks vs tl sc wI wL m) {i : Nat} {v : ValT} (hi : vs[i]? = some v) : ∃ k t, ks[v.1]? = some k ∧ (k.1 = false → RecV rs ks vs i v k t) := by
  obtain ⟨k, t, hk, ht, hkok, hed, hvok⟩ := I.val hi
  refine ⟨k, t, hk, fun hc => ?_⟩
  obtain ⟨k', t', z1, z2, hs, z4, z5, z6, z7, hcp, hrp⟩ := hvok
  cases hk.symm.trans z1
  cases ht.symm.trans z2
  obtain ⟨-, hlen, hparts⟩ := hrp hc
  refine ⟨hi, hk, ht, hc, hkok.2.1, ?_, hed.2.2 hc, hlen, fun q hq => ?_⟩
  · have := hed.1
    rw [hc] at this
    simpa using this
  · obtain ⟨x, hx⟩ := get_lt hq
    obtain ⟨y, hy⟩ := get_lt (show q < v.2.2.2.2.2.2.length by omega)
    rw [lnT_at hx, show v.2.2.2.2.2.2.getD q 0 = y by simp [List.getD_eq_getElem?_getD, hy]]
    exact hparts q x y hx hy
theorem RecV.partsOf {i : Nat} {v : ValT} {k : KindT} {t : List ET} (R : RecV rs ks vs i v k t) (I : Inv rs ks vs tl sc wI wL m) {Q : Int32 → MH → Prop} : F_X12_partsOf d mo (nI i) (hJ cp (hM m)) u Q ↔ Q (nI t.length) (hJ cp (hM m)) := g_partsOf I.2.2.2.1 I.1.2.2.2.1.1 R.1 I.2.2.1 I.1.2.1.1 R.2.1 R.2.2.2.2.1 R.2.2.1
theorem RecV.laneOf {i q : Nat} {v : ValT} {k : KindT} {t : List ET} (R : RecV rs ks vs i v k t) (I : Inv rs ks vs tl sc wI wL m) (hq : q < t.length) {Q : Int32 → MH → Prop} : F_X12_laneOf d mo (nI i) (nI q) (hJ cp (hM m)) u Q ↔ Q (lnT t q) (hJ cp (hM m)) := by
  obtain ⟨x, hx⟩ := get_lt hq
  have h6 := R.2.2.2.2.2.1
  rw [g_laneOf I.2.2.2.1 I.1.2.2.2.1.1 R.1 I.2.2.1 I.1.2.1.1 R.2.1 R.2.2.2.2.1 R.2.2.1 (by omega) hx, lnT_at hx]
theorem RecV.p31 {i q : Nat} {v : ValT} {k : KindT} {t : List ET} (R : RecV rs ks vs i v k t) (I : Inv rs ks vs tl sc wI wL m) (hq : q < t.length) : inb (m.2.2 31) (6 * nI i + nI q) ∧ rdL (m.2.2 31) (6 * nI i + nI q) = v.2.2.2.2.2.2.getD q 0 := by
  have h6 := R.2.2.2.2.2.1
  have hl := R.2.2.2.2.2.2.2.1
  obtain ⟨y, hy⟩ := get_lt (show q < v.2.2.2.2.2.2.length by omega)
  obtain ⟨-, -, -, -, -, -, -, hh⟩ := I.2.2.2.1.at I.1.2.2.2.1.1 R.1
  rw [idx6]
  obtain ⟨b1, b2⟩ := hh q y hy (by omega)
  exact ⟨b1, by rw [b2]; simp [List.getD_eq_getElem?_getD, hy]⟩
theorem RecV.isC {i : Nat} {v : ValT} {k : KindT} (hi : vs[i]? = some v) (hk : ks[v.1]? = some k) (I : Inv rs ks vs tl sc wI wL m) {Q : Int32 → MH → Prop} : F_X12_isConstant d mo (nI i) (hJ cp (hM m)) u Q ↔ Q (b2i k.1) (hJ cp (hM m)) := g_isConstant I.2.2.2.1 I.1.2.2.2.1.1 hi I.2.2.1 I.1.2.1.1 hk
theorem g_push {m0 : MS} (I : Inv rs ks vs tl sc wI wL m0) {fs : List Fr} (hp : Pil m0 m fs) (h12 : fs.length < 12) {a : Nat} {v : ValT} {b : Int32} (hi : vs[a]? = some v) {Q : MH → Prop} (H : ∀ m', Pil m0 m' (fs ++ [(nI a, b, 0, -1, nI v.1, 1)]) → Q (hJ cp (hM m'))) : F_X12_push d mo (nI a) b (hJ cp (hM m)) u Q := by
  have J := I.pil hp
  obtain ⟨-, ⟨a1, a2⟩, -⟩ := J.2.2.2.1.at J.1.2.2.2.1.1 hi
  have hgr := H _ (hp.grow h12 (nI a, b, 0, -1, nI v.1, 1))
  obtain ⟨h1, h2, h3, h4, l36, l37, l38, l39, l40, l41, hh⟩ := hp
  unfold F_X12_push
  simp only [m_g36, m_g35, m_s36, h4, inb_nI (show fs.length < 2 ^ 31 by omega), nI_clamp (show fs.length < 2 ^ 31 by omega), l36, m_g37, m_s37, l37, m_g38, m_s38, l38, m_g39, m_s39, l39, m_g40, m_g25, m_a25, a1, a2, m_s40, l40, m_g41, m_s41, l41, m_p35, mA_1, mB_1, mI_1, mI_21, mI_22, mA_21, mA_22, mB_21, mB_22, Nat.reduceEqDiff, Nat.reduceEqDiff, reduceCtorEq, if_false, if_true, true_and]
  exact ⟨h12, h12, h12, h12, h12, h12, hgr⟩
end Pile
