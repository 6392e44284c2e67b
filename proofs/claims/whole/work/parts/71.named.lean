section Named
variable {rs : List RowT} {ks : List KindT} {vs : List ValT} {tl : Nat → Nat → Nat → List Int32} {sc : Nat → Int32} {wI : Nat → List Int32} {wL : Nat → List Int64} {m : MS} {d d2 u : Nat} {v1 v2 v3 v5 v6 : Int32} {v4 : Int64} {W : Prop → Prop}
variable {cp mp h : MH}
def stK (k : KindT) : KindT := (k.1, k.2.1, true, k.2.2.2.1, k.2.2.2.2)
def stSc (sc : Nat → Int32) (j : Nat) : Nat → Int32 := up (up sc 1 (sc 1 + 1)) 2 (31 * sc 2 + (100 + nI j))
def stM (m : MS) (j : Nat) : MS := mI (mA m 12 ((m.2.1 12).set j 1)) 2 (31 * m.1 2 + (100 + nI j))
theorem filt_start {l : List KindT} {j : Nat} {k : KindT} (hk : l[j]? = some k) (h : k.2.2.1 = false) : ((l.set j (stK k)).filter (fun k => k.2.2.1)).length = (l.filter (fun k => k.2.2.1)).length + 1 := by
  induction l generalizing j with
  | nil => cases hk
  | cons a l ih =>
    cases j with
    | zero =>
      simp at hk
      subst hk
      simp [stK, h]
    | succ j =>
      simp at hk
      simp only [List.set_cons_succ, List.filter_cons]
      split <;> simp [ih hk]
theorem WInv.start (I : Inv rs ks vs tl sc wI wL m) {j i : Nat} {k : KindT} (hk : ks[j]? = some k) (hs : k.2.2.1 = false) (hi : k.1 = true → i = 0) : WInv rs (ks.set j (stK k)) vs tl (stSc sc j) wI wL (stM m j) j i := by
  obtain ⟨⟨a1, a2, a3, a4, a5, a6⟩, b1, b2, b3, b4⟩ := I
  have hj := (List.getElem?_eq_some_iff.mp hk).1
  obtain ⟨k1, k2, k3, k4, k5, k6, k7⟩ := a2.2 k (List.mem_of_getElem? hk)
  obtain ⟨k31, k32⟩ := k3 hs
  refine ⟨⟨a1, ⟨by rw [List.length_set]; exact a2.1, fun q k' hq => ?_⟩, fun q k' hq => ?_, ⟨a4.1, fun q v hv => ?_⟩, ?_, a6⟩, by simpa [stM, mRows, mI, mA, up] using b1, ?_, by simpa [stM, mVals, mI, mA, up] using b3, ?_⟩
  · rcases set_get hq with ⟨rfl, rfl⟩ | ⟨z1, z2⟩
    · rw [if_pos rfl]
      refine ⟨k1, k2, fun z => (by cases z), k4, k5, k6, fun z1 _ e t ht q x hx hh => ?_⟩
      have he := (List.getElem?_eq_some_iff.mp ht).1
      have e1 : (stK k).2.2.2.2.length = 1 := k31
      have := hi z1
      omega
    · rw [if_neg z1]; exact a2.2 k' (List.mem_of_getElem? z2)
  · rcases set_get hq with ⟨rfl, rfl⟩ | ⟨z1, z2⟩
    · exact a3 q k hk
    · exact a3 q k' z2
  · obtain ⟨k', t', h1, h2, h3, h4⟩ := a4.2 q v hv
    have : v.1 ≠ j := fun z => by
      rw [z, hk] at h1
      cases h1
      rw [hs] at h3; cases h3
    exact ⟨k', t', by rw [List.getElem?_set_ne (Ne.symm this)]; exact h1, h2, h3, h4⟩
  · obtain ⟨w0, w1, w2, q0, q1, w3, w4, w5, w6, s1, s2, s3⟩ := a5
    refine ⟨w0, w1, w2, q0, q1, w3, w4, w5, w6, by simpa [stSc, up] using s1, ?_, by simpa [stSc, up] using s3⟩
    rw [filt_start hk hs]
    simp only [stSc, up_if, Nat.reduceEqDiff, Nat.reduceEqDiff, reduceCtorEq, if_false, if_true]
    rw [s2, nI_1]
  · obtain ⟨c0, c1, c2, c3, c4, c5, c6, c7, c8, c9, c10, c11⟩ := b2
    have h16 := a2.1
    simp only [stM, mKindsW, mA_1, mB_1, mI_1, mI_21, mI_22, mA_21, mA_22, mB_21, mB_22, Nat.reduceEqDiff, Nat.reduceEqDiff, reduceCtorEq, if_false, if_true, List.length_set]
    refine ⟨c0, c1, c2, c3, c4, c5, c6, c7, c8, c9, fun q k' hq => ?_, fun q h1 h2 => ?_⟩
    · simp only [lset_getD]
      rcases set_get hq with ⟨rfl, rfl⟩ | ⟨z1, z2⟩
      · obtain ⟨d1, d2, d3, d4, d5, d6⟩ := c10 q k hk
        rw [if_pos ⟨rfl, by omega⟩]
        refine ⟨d1, d2, rfl, d4, d5, fun e t ht => ⟨(d6 e t ht).1, fun p x hx => ?_⟩⟩
        obtain ⟨g1, g2, -⟩ := (d6 e t ht).2 p x hx
        refine ⟨g1, g2, fun z1 _ z3 => ?_⟩
        have he := (List.getElem?_eq_some_iff.mp ht).1
        have e1 : (stK k).2.2.2.2.length = 1 := k31
        have := hi z1
        have := z3 rfl
        omega
      · obtain ⟨d1, d2, d3, d4, d5, d6⟩ := c10 q k' z2
        rw [if_neg (by omega)]
        refine ⟨d1, d2, d3, d4, d5, fun e t ht => ⟨(d6 e t ht).1, fun p x hx => ?_⟩⟩
        obtain ⟨g1, g2, g3⟩ := (d6 e t ht).2 p x hx
        exact ⟨g1, g2, fun y1 y2 _ => g3 y1 y2⟩
    · simp only [lset_getD]
      rw [if_neg (by omega)]
      exact c11 q h1 h2
  · obtain ⟨c1, c2, c3, c4, c5⟩ := b4
    refine ⟨by simpa [stM, stSc, mI, mA, up] using c1, by simpa [stM, stSc, mI, mA, up] using c2, by simp [stM, stSc, mI, mA, up, c3], by simpa [stM, stSc, mI, mA, up] using c4, by simpa [stM, stSc, mI, mA, up] using c5⟩
theorem hC_kset {j : Nat} {k k' : KindT} (hk : ks[j]? = some k) (he : k'.2.2.2.2 = k.2.2.2.2) : hset (hJ (hC rs ks vs tl sc wI wL) mp) (23, j, 0) (oKind j k') = hJ (hC rs (ks.set j k') vs tl sc wI wL) mp := by
  have hl := (List.getElem?_eq_some_iff.mp hk).1
  have f2 : (ks.set j k')[j]? = some k' := List.getElem?_set_self hl
  have f3 : ∀ q, q ≠ j → (ks.set j k')[q]? = ks[q]? := fun q hq => List.getElem?_set_ne (Ne.symm hq)
  rw [hJ_setC (show 23 < 40 by decide)]
  congr 1
  funext q
  by_cases k0 : q = (23, j, 0)
  · subst k0; rw [hs_s]; simp only [hC, f2, Option.map_some]
  rw [hs_n k0]
  unfold hC
  split <;> first | rfl | (simp only [List.length_set]; done) | skip
  · rename_i j'; rw [f3 j' (fun z => k0 (by rw [z]))]
  · rename_i j'
    by_cases z : j' = j
    · subst z; rw [f2, hk]; simp only [Option.map_some, oEds, he]
    · rw [f3 j' z]
  · rename_i j' e
    by_cases z : j' = j
    · subst z; rw [f2, hk]; simp only [Option.bind_some, he]
    · rw [f3 j' z]
  · rename_i j' e
    by_cases z : j' = j
    · subst z; rw [f2, hk]; simp only [Option.bind_some, he]
    · rw [f3 j' z]
  · rename_i j' e
    by_cases z : j' = j
    · subst z; rw [f2, hk]; simp only [Option.bind_some, he]
    · rw [f3 j' z]
  · rename_i j' e
    by_cases z : j' = j
    · subst z; rw [f2, hk]; simp only [Option.bind_some, he]
    · rw [f3 j' z]
theorem conN_at {j : Nat} : ∀ (n i : Nat) (ks : List KindT) (vs : List ValT) (k : KindT) (t : List ET), ks[j]? = some k → k.2.2.2.2 = [t] → i + n = t.length → ∃ k' t', (conN j i n (ks, vs)).1[j]? = some k' ∧ k'.2.2.2.2 = [t'] ∧ t'.length = t.length ∧ k'.1 = k.1 ∧ k'.2.2.1 = k.2.2.1 := by
  intro n
  induction n with
  | zero => intro i ks vs k t a b _; exact ⟨k, t, a, b, rfl, rfl, rfl⟩
  | succ n ih =>
    intro i ks vs k t a b c
    obtain ⟨x, hx⟩ := get_lt (show i < t.length by omega)
    have hjl := (List.getElem?_eq_some_iff.mp a).1
    rw [conN_s a (by rw [b]; rfl) hx]
    obtain ⟨k', t', e1, e2, e3, e4, e5⟩ := ih (i + 1) (ks.set j (kCon k 0 i t x vs.length)) (vs ++ [(j, 0, k.2.2.2.1, x.1, 1, 1, [])]) (kCon k 0 i t x vs.length) (t.set i (x.1, x.2.1, nI vs.length)) (List.getElem?_set_self hjl) (by simp [kCon, b]) (by rw [List.length_set]; omega)
    exact ⟨k', t', e1, e2, by rw [e3, List.length_set], e4, e5⟩
/-- the class starts a kind -/
theorem s_start (I : Inv rs ks vs tl sc wI wL m) {j : Nat} {k : KindT} (hk : ks[j]? = some k) (hu : 90 ≤ u) {K : MH → Nat → Prop}
    (H1 : k.2.2.1 = true → K (hJ (hC rs ks vs tl sc wI wL) mp) (u - 90))
    (H2 : k.2.2.1 = false → k.1 = false → K (hJ (hC rs (ks.set j (stK k)) vs tl (stSc sc j) wI wL) mp) (u - 90))
    (H3 : k.2.2.1 = false → k.1 = true → ∀ t, k.2.2.2.2 = [t] → vs.length + t.length ≤ 200 ∧ K (hJ (hC rs (conN j 0 t.length (ks.set j (stK k), vs)).1 (conN j 0 t.length (ks.set j (stK k), vs)).2 tl (stSc sc j) wI wL) mp) (u - 90)) : iV (d + 3) u_X11_start [jR br, jR (some (23, j, 0))] (hJ (hC rs ks vs tl sc wI wL) mp) u K := by
  refine I_X11_start (d := d + 2) 90 hu ?_
  unfold F_X11_start
  refine gI_raw (o_23 hk) rfl ?_
  obtain ⟨k1, k2, k3, k4, k5, k6, k7⟩ := I.1.2.1.2 k (List.mem_of_getElem? hk)
  have hj := (List.getElem?_eq_some_iff.mp hk).1
  cases hs : k.2.2.1
  · rw [if_pos (show b2i false = 0 from rfl)]
    obtain ⟨k31, k32⟩ := k3 hs
    obtain ⟨t, ht⟩ : ∃ t, k.2.2.2.2 = [t] := by
      match hq : k.2.2.2.2, k31 with
      | [t], _ => exact ⟨t, rfl⟩
    refine ⟨nz_1, pV_raw (o_23 hk) ?_⟩
    have e1 := hC_kset (rs := rs) (vs := vs) (tl := tl) (sc := sc) (wI := wI) (wL := wL) (mp := mp) (k' := stK k) hk rfl
    have hk2 : (ks.set j (stK k))[j]? = some (stK k) := List.getElem?_set_self hj
    rw [show (Sum.inl (3, [jI (nI j), jI (b2i k.1), jI k.2.1, jR (some (24, j, 0)), jI (nI k.2.2.2.2.length), jI (b2i k.2.2.1), jI (nI k.2.2.2.1)].set 5 (jI 1)) : MC) = oKind j (stK k) from rfl, e1]
    simp only [c_g1_10, c_p1_10, c_g23_0, hk2, wr_some, c_rc1, true_and, f_leaveTrace, c_g23_1]
    rw [show up (up sc 1 (sc 1 + 1)) 2 (31 * up sc 1 (sc 1 + 1) 2 + (100 + nI j)) = stSc sc j by simp [stSc, up]]
    cases hc : k.1
    · rw [if_pos (show b2i (stK k).1 = 0 by show b2i k.1 = 0; rw [hc]; rfl)]
      exact H2 hs hc
    · rw [if_neg (show ¬ b2i (stK k).1 = 0 by show ¬ b2i k.1 = 0; rw [hc]; decide)]
      obtain ⟨hv, H3⟩ := H3 hs hc t ht
      have ht0 : (stK k).2.2.2.2[0]? = some t := by show k.2.2.2.2[0]? = some t; rw [ht]; rfl
      have ht8 : t.length ≤ 8 := by
        have := (k4 t (by rw [ht]; simp)).1
        split at this <;> omega
      refine ⟨(c_rc23).mpr (by rw [hk2]; trivial), (f_newest hk2 k1 k2).mpr ?_⟩
      rw [show (stK k).2.2.2.2.length - 1 = 0 by show k.2.2.2.2.length - 1 = 0; omega]
      simp only [c_g25_4, hk2, ht0, wr_some]
      have I2 := WInv.start I (i := 0) hk hs (fun _ => rfl)
      have := s_start51 (d := d) (Q := fun h2 => K h2 (u - 90)) (mp := mp) t.length 0 _ vs _ (stK k) t 90 I2 hk2 hc rfl ht (by omega) (by omega) (by omega) H3
      exact this
  · rw [if_neg (show ¬ b2i true = 0 by decide)]
    exact H1 hs
theorem g_starts (I : Inv rs ks vs tl sc wI wL m) {j : Nat} {k : KindT} (hk : ks[j]? = some k) {Q : Int32 → MH → Prop}
    (H1 : k.2.2.1 = true → Q 1 (hJ cp (hM m)))
    (H2 : k.2.2.1 = false → k.1 = false → ∀ m', Inv rs (ks.set j (stK k)) vs tl (stSc sc j) wI wL m' → Q 1 (hJ cp (hM m')))
    (H3 : k.2.2.1 = false → k.1 = true → ∀ t, k.2.2.2.2 = [t] → if vs.length + t.length ≤ 200 then (∀ m', Inv rs (conN j 0 t.length (ks.set j (stK k), vs)).1 (conN j 0 t.length (ks.set j (stK k), vs)).2 tl (stSc sc j) wI wL m' → Q 1 (hJ cp (hM m'))) else Q 0 (hJ cp (hM m))) : F_X12_starts d mo (nI j) (hJ cp (hM m)) u Q := by
  have hV := I.1.2.2.2.1.1
  have hKd := I.1.2.1.1
  obtain ⟨k1, k2, k3, k4, k5, k6, k7⟩ := I.1.2.1.2 k (List.mem_of_getElem? hk)
  have hj := (List.getElem?_eq_some_iff.mp hk).1
  obtain ⟨hj16, ⟨a1, a2⟩, -, ⟨a3, a4⟩, -⟩ := I.2.2.1.at hKd hk
  have l12 := I.2.2.1.2.2.2.1
  have hk2 : (ks.set j (stK k))[j]? = some (stK k) := List.getElem?_set_self hj
  unfold F_X12_starts
  simp only [m_g12, m_a12, a3, a4, m_g10, m_a10, a1, a2, true_and]
  cases hs : k.2.2.1
  · rw [if_pos (show b2i false = 0 from rfl)]
    obtain ⟨k31, k32⟩ := k3 hs
    obtain ⟨t, ht⟩ : ∃ t, k.2.2.2.2 = [t] := by
      match hq : k.2.2.2.2, k31 with
      | [t], _ => exact ⟨t, rfl⟩
    have ht8 : t.length ≤ 8 := by
      have := (k4 t (by rw [ht]; simp)).1
      split at this <;> omega
    have e40 : (4 : Int32) * nI j = nI (4 * j) := by have := idx4 j 0; simpa [nI_0] using this
    have s43 : ∀ Q' : Int32 → MH → Prop, L_X12_starts_60 d mo (nI j) (nI (4 * j)) 0 (hJ cp (hM (stM m j))) u Q' → F_X12_starts_43 d mo (nI j) (nI (4 * j)) (hJ cp (hM m)) u Q' := by
      intro Q' hq
      unfold F_X12_starts_43
      simp only [m_g12, m_s12, inb_nI (show j < 2 ^ 31 by omega), l12, nI_clamp (show j < 2 ^ 31 by omega), m_rcT, true_and, g_traced, mA_1, mB_1, mI_1, mI_21, mI_22, mA_21, mA_22, mB_21, mB_22, Nat.reduceEqDiff, Nat.reduceEqDiff, reduceCtorEq, if_false, if_true]
      exact ⟨by omega, hq⟩
    cases hc : k.1
    · rw [if_pos (show b2i false = 0 from rfl), e40]
      refine s43 _ ?_
      have I2 := WInv.start I (i := t.length) hk hs (fun z => by rw [hc] at z; cases z)
      have I3 := I2.inv hk2 (fun t' ht' => by
        have : (stK k).2.2.2.2 = [t] := ht
        rw [this] at ht'
        simp at ht'
        rw [ht']; exact Nat.le_refl _)
      unfold L_X12_starts_60
      refine E_X12_starts_60 ?_
      unfold F_X12_starts_60
      obtain ⟨-, ⟨z1, z2⟩, -⟩ := I3.2.2.1.at (by rw [List.length_set]; exact hKd) hk2
      simp only [m_g10, m_a10, z1, z2, true_and]
      rw [if_pos (show b2i (stK k).1 = 0 by show b2i k.1 = 0; rw [hc]; rfl)]
      exact ⟨nz_1, H2 hs hc _ I3⟩
    · rw [if_neg (show ¬ b2i true = 0 by decide)]
      have H3 := H3 hs hc t ht
      obtain ⟨-, ⟨g1, g2⟩, -⟩ := I.2.2.1.ed hKd hk k2 (e := 0) (t := t) (by rw [ht]; rfl)
      simp only [m_g24, I.2.2.2.1.1, m_g15, m_a15, e40]
      refine ⟨g1, ?_⟩
      rw [show rdI (m.2.1 15) (nI (4 * j)) = nI t.length from g2, nI_add, show (200 : Int32) = nI 200 from rfl]
      by_cases hv : vs.length + t.length ≤ 200
      · rw [if_pos (nI_le hv (by omega))]
        rw [if_pos hv] at H3
        refine s43 _ ?_
        have I2 := WInv.start I (i := 0) hk hs (fun _ => rfl)
        have := g_starts60 (d := d) (u := u) (cp := cp) (Q := Q) t.length 0 _ vs _ (stK k) t I2 hk2 hc rfl ht (by omega) (by omega) (fun m' hm' => H3 m' ?_)
        · exact this
        · obtain ⟨k', t', e1, e2, e3, -⟩ := conN_at t.length 0 (ks.set j (stK k)) vs (stK k) t hk2 ht (by omega)
          refine hm'.inv e1 (fun t2 ht2 => ?_)
          rw [e2] at ht2
          simp at ht2
          rw [← ht2, e3]; exact Nat.le_refl _
      · rw [if_neg (by rw [Int32.le_iff_toInt_le, nI_toInt (by omega), nI_toInt (by omega)]; omega)]
        rw [if_neg hv] at H3
        exact ⟨nz_0, H3⟩
  · rw [if_neg (show ¬ b2i true = 0 by decide)]
    exact ⟨nz_1, H1 hs⟩
end Named
