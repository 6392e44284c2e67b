section Fin8
variable {rs : List RowT} {ks : List KindT} {vs : List ValT} {tl : Nat → Nat → Nat → List Int32} {sc : Nat → Int32} {wI : Nat → List Int32} {wL : Nat → List Int64} {m : MS} {d d2 u : Nat} {v1 v2 v3 v5 v6 : Int32} {v4 : Int64} {W : Prop → Prop}
variable {cp mp h : MH}
theorem partOK.ext {rs2 : List RowT} {vs2 : List ValT} {j dp : Nat} {l : Int32} {x : Int64} (h : partOK rs vs j l x dp) (hr : ∀ (r : Nat) (row : RowT), rs[r]? = some row → rs2[r]? = some row) (hv : ∀ (r : Nat) (v : ValT), vs[r]? = some v → vs2[r]? = some v) : partOK rs2 vs2 j l x dp := by
  obtain ⟨h1, h2, h3⟩ := h
  refine ⟨h1, fun e => ?_, fun e => ?_⟩
  · rcases h2 e with z | ⟨i, v, z1, z2, z3, z4⟩
    · exact Or.inl z
    · exact Or.inr ⟨i, v, z1, z2, hv _ _ z3, z4⟩
  · rcases h3 e with z | ⟨i, r, z1, z2, z3⟩
    · exact Or.inl z
    · refine Or.inr ⟨i, r, z1, hr _ _ z2, fun z => ⟨(z3 z).1, fun y hy => ?_⟩⟩
      rcases (z3 z).2 y hy with w1 | ⟨q, v, w1, w2, w3, w4⟩
      · exact Or.inl w1
      · exact Or.inr ⟨q, v, w1, w2, hv _ _ w3, w4⟩
/-! how deep things are under what was measured -/
theorem accT_ge {a : Nat × Nat} {x : Int64} : a.2 ≤ (accT vs a x).2 := by
  unfold accT
  rcases ixL x vs.length with _ | v
  · exact Nat.le_refl _
  · simp only
    cases vs[v]? with
    | none => exact Nat.le_refl _
    | some w => exact Nat.le_max_left _ _
theorem accF_ge : ∀ (l : List Int64) (a : Nat × Nat), a.2 ≤ (l.foldl (accT vs) a).2
  | [], a => Nat.le_refl _
  | x :: l, a => Nat.le_trans (accT_ge (x := x)) (accF_ge l _)
theorem accT_has {a : Nat × Nat} {i : Nat} {w : ValT} (hi : vs[i]? = some w) (hv : vs.length < 2 ^ 31) : w.2.2.2.2.2.1 ≤ (accT vs a (lN i)).2 := by
  unfold accT
  rw [ixL_lN (List.getElem?_eq_some_iff.mp hi).1 hv]
  simp only [hi]
  exact Nat.le_max_right _ _
theorem accF_has (hv : vs.length < 2 ^ 31) : ∀ (l : List Int64) (a : Nat × Nat) (i : Nat) (w : ValT), lN i ∈ l → vs[i]? = some w → w.2.2.2.2.2.1 ≤ (l.foldl (accT vs) a).2
  | x :: l, a, i, w, hm, hi => by
    rcases List.mem_cons.mp hm with rfl | z
    · exact Nat.le_trans (accT_has hi hv) (accF_ge l _)
    · exact accF_has hv l _ i w z hi
theorem accQ_ge {l : Int32} {x : Int64} {a : Nat × Nat} : a.2 ≤ (accQ rs vs l x a).2 := by
  unfold accQ
  by_cases l8 : l = 8
  · rw [if_pos l8]; exact accT_ge
  · rw [if_neg l8]
    by_cases l9 : l = 9
    · rw [if_pos l9]
      rcases ixL x rs.length with _ | r
      · exact Nat.le_refl _
      · simp only
        cases rs[r]? with
        | none => exact Nat.le_refl _
        | some row =>
          simp only
          by_cases r8 : row.1 = 8
          · rw [if_pos r8]; exact accF_ge _ _
          · rw [if_neg r8]; exact Nat.le_refl _
    · rw [if_neg l9]; exact Nat.le_refl _
theorem accP_mono {L : Nat → Int32} {P : Nat → Int64} {q : Nat} : ∀ r, (accP rs vs L P q).2 ≤ (accP rs vs L P (q + r)).2
  | 0 => Nat.le_refl _
  | r + 1 => Nat.le_trans (accP_mono r) (by rw [← Nat.add_assoc, accP]; exact accQ_ge)
theorem accP_8 {L : Nat → Int32} {P : Nat → Int64} {q n i : Nat} {w : ValT} (hv : vs.length < 2 ^ 31) (hq : q < n) (l8 : L q = 8) (hP : P q = lN i) (hi : vs[i]? = some w) : w.2.2.2.2.2.1 ≤ (accP rs vs L P n).2 := by
  have h1 := accP_mono (rs := rs) (vs := vs) (L := L) (P := P) (q := q + 1) (n - (q + 1))
  rw [show q + 1 + (n - (q + 1)) = n by omega] at h1
  refine Nat.le_trans ?_ h1
  rw [accP]
  unfold accQ
  rw [if_pos l8, hP]
  exact accT_has hi hv
theorem accP_9 {L : Nat → Int32} {P : Nat → Int64} {q n r i : Nat} {row : RowT} {w : ValT} (hv : vs.length < 2 ^ 31) (hr31 : rs.length < 2 ^ 31) (hq : q < n) (l9 : L q = 9) (hP : P q = lN r) (hr : rs[r]? = some row) (r8 : row.1 = 8) (hm : lN i ∈ row.2.2) (hi : vs[i]? = some w) : w.2.2.2.2.2.1 ≤ (accP rs vs L P n).2 := by
  have h1 := accP_mono (rs := rs) (vs := vs) (L := L) (P := P) (q := q + 1) (n - (q + 1))
  rw [show q + 1 + (n - (q + 1)) = n by omega] at h1
  refine Nat.le_trans ?_ h1
  rw [accP]
  unfold accQ
  rw [if_neg (by rw [l9]; decide), if_pos l9, hP, ixL_lN (List.getElem?_eq_some_iff.mp hr).1 hr31]
  simp only [hr]
  rw [if_pos r8]
  exact accF_has hv _ _ i w hm hi
theorem rsN_cases {rule : Int32} {L : Nat → Int32} {P : Nat → Int64} : ∀ q, ∀ row ∈ rsN rs rule L P q, row ∈ rs ∨ ∃ r ∈ rs, row = (r.1, decide (r.1 = 8), r.2.2)
  | 0 => fun row h => Or.inl h
  | q + 1 => by
    have ih := rsN_cases (rule := rule) (L := L) (P := P) q
    unfold rsN
    rcases hT : twn rs rule (L q) (P q) with _ | z
    · exact ih
    · intro row hr
      rcases List.mem_append.mp hr with y | y
      · exact ih row y
      · exact Or.inr ⟨z.2, List.mem_of_getElem? (twn_some hT).2.2.1, List.mem_singleton.mp y⟩
theorem rsN_new {rule : Int32} {L : Nat → Int32} {P : Nat → Int64} {q : Nat} {z : Nat × RowT} (hT : twn rs rule (L q) (P q) = some z) : ∀ r, (rsN rs rule L P (q + 1 + r))[(rsN rs rule L P q).length]? = some (z.2.1, decide (z.2.1 = 8), z.2.2.2)
  | 0 => by
    show (rsN rs rule L P (q + 1))[_]? = _
    rw [rsN, hT]
    simp
  | r + 1 => by
    have ih := rsN_new hT r
    show (rsN rs rule L P (q + 1 + r + 1))[_]? = _
    rw [rsN]
    rcases twn rs rule (L (q + 1 + r)) (P (q + 1 + r)) with _ | y
    · exact ih
    · exact app_get ih
/-- the parts of the new value are as they must be -/
theorem part_new {rule : Int32} {L : Nat → Int32} {P : Nat → Int64} {n q : Nat} (hR : RowsOK rs vs.length) (hr60 : rs.length + cTw rs rule L P n ≤ 60) (hV : vs.length < 200) (hq : q < n) (hf : pfit rs vs (L q) (P q)) {w : ValT} : partOK (rsN rs rule L P n) (vs ++ [w]) vs.length (L q) (pN rs rule L P q) ((accP rs vs L P n).2 + 1) := by
  have h31 : rs.length < 2 ^ 31 := by omega
  obtain ⟨f1, f2, f3⟩ := hf
  have hn9 : ¬ L q = 9 → pN rs rule L P q = P q := by
    intro l9
    have hT : twn rs rule (L q) (P q) = none := by unfold twn; rw [if_neg l9]
    unfold pN; rw [hT]
  refine ⟨fun h7 => ?_, fun l8 => ?_, fun l9 => ?_⟩
  · rw [hn9 (fun z => by rw [z] at h7; exact absurd h7 (by decide))]
    exact f1 h7
  · rw [hn9 (fun z => by rw [z] at l8; exact absurd l8 (by decide))]
    rcases f2 l8 with z | ⟨i, z1, z2⟩
    · exact Or.inl z
    · obtain ⟨v, hv⟩ := get_lt z1
      exact Or.inr ⟨i, v, z1, z2, app_get hv, Nat.lt_succ_of_le (accP_8 (by omega) hq l8 z2 hv)⟩
  · have cells : ∀ r row, P q = lN r → rs[r]? = some row → row.1 = 8 → ∀ y ∈ row.2.2, y = -1 ∨ ∃ i v, i < vs.length ∧ y = lN i ∧ (vs ++ [w])[i]? = some v ∧ v.2.2.2.2.2.1 < (accP rs vs L P n).2 + 1 := by
      intro r row e1 e2 e3 y hy
      obtain ⟨-, -, ok3, -⟩ := hR.2 row (List.mem_of_getElem? e2)
      rcases (ok3 y hy).2 e3 with z | ⟨i, z1, z2⟩
      · exact Or.inl z
      · obtain ⟨v, hv⟩ := get_lt z1
        exact Or.inr ⟨i, v, z1, z2, app_get hv, Nat.lt_succ_of_le (accP_9 (by omega) h31 hq l9 e1 e2 e3 (by rw [← z2]; exact hy) hv)⟩
    rcases hT : twn rs rule (L q) (P q) with _ | z
    · have ep : pN rs rule L P q = P q := by unfold pN; rw [hT]
      rw [ep]
      rcases f3 l9 with z | ⟨i, z1, z2⟩
      · exact Or.inl z
      · obtain ⟨row, hrow⟩ := get_lt z1
        refine Or.inr ⟨i, row, z2, rsN_get hrow n, fun r8 => ⟨?_, cells i row z2 hrow r8⟩⟩
        unfold twn at hT
        rw [if_pos l9, z2, ixL_lN z1 h31] at hT
        simp only [hrow] at hT
        cases hb : row.2.1
        · rw [if_pos ⟨hb, Or.inl r8⟩] at hT; cases hT
        · rfl
    · have ep : pN rs rule L P q = lN (rsN rs rule L P q).length := by unfold pN; rw [hT]
      rw [ep]
      obtain ⟨-, y2, y3, -, -⟩ := twn_some hT
      have hnew := rsN_new hT (n - (q + 1))
      rw [show q + 1 + (n - (q + 1)) = n by omega] at hnew
      have ez : P q = lN z.1 := by
        rcases f3 l9 with y | ⟨i, z1, z2⟩
        · rw [y, ixL_m1] at y2; cases y2
        · rw [z2, ixL_lN z1 h31] at y2
          cases y2; exact z2
      refine Or.inr ⟨_, _, rfl, hnew, fun r8 => ⟨?_, cells z.1 z.2 ez y3 r8⟩⟩
      have : z.2.1 = 8 := r8
      simp [this]
theorem Inv.fin (I : Inv rs ks vs tl sc wI wL m) {m2 m' : MS} (hm2 : mScr m m2) {j e : Nat} {k : KindT} {t : List ET} {P : Nat → Int64} (hk : ks[j]? = some k) (hc : k.1 = false) (hs : k.2.2.1 = true) (ht : k.2.2.2.2[e]? = some t) (he : e + 1 = k.2.2.2.2.length) (h6 : t.length ≤ 6) (hf : ∀ q, q < t.length → pfit rs vs (lnT t q) (P q)) (hV : vs.length < 200) (hr60 : rs.length + cTw rs k.2.1 (lnT t) P t.length ≤ 60) (h300 : (accP rs vs (lnT t) P t.length).1 ≤ 300) (h8 : (accP rs vs (lnT t) P t.length).2 < 8)
    (hS : StR (mA (mA (mVal m2 vs.length j e k.2.2.2.1) 28 ((m2.2.1 28).set vs.length (nI (accP rs vs (lnT t) P t.length).1))) 29 ((m2.2.1 29).set vs.length (nI ((accP rs vs (lnT t) P t.length).2 + 1)))) vs.length t.length (rsN rs k.2.1 (lnT t) P t.length) (pN rs k.2.1 (lnT t) P) P t.length m') : Inv (rsN rs k.2.1 (lnT t) P t.length) (ks.set j (kMade k)) (vs ++ [newV rs vs j e k.2.2.2.1 k.2.1 t.length (lnT t) P]) tl sc wI wL m' := by
  obtain ⟨⟨a1, a2, a3, a4, a5, a6⟩, b1, b2, b3, b4⟩ := I.scr hm2
  obtain ⟨s1, s2, s3, s4, s5, s6, s7, s8, -⟩ := hS
  have hj := (List.getElem?_eq_some_iff.mp hk).1
  have hkm := a2.2 k (List.mem_of_getElem? hk)
  obtain ⟨k1, k2, k3, k4, k5, k6, k7⟩ := hkm
  have hlenR := rsN_len (rs := rs) (rule := k.2.1) (L := lnT t) (P := P) t.length
  have hlen : (vs ++ [newV rs vs j e k.2.2.2.1 k.2.1 t.length (lnT t) P]).length = vs.length + 1 := by simp
  have hkj : (ks.set j (kMade k))[j]? = some (kMade k) := List.getElem?_set_self hj
  have h16 := a2.1
  refine ⟨⟨⟨by omega, fun row hrow => ?_⟩, ⟨by rw [List.length_set]; exact a2.1, fun k' hk' => ?_⟩, fun q k' hq => ?_, ⟨by rw [hlen]; omega, fun q v hv => ?_⟩, ?_, ?_⟩, s1, ?_, ?_, ?_⟩
  · rw [hlen]
    rcases rsN_cases t.length row hrow with z | ⟨r, z1, z2⟩
    · exact (a1.mono (b := vs.length + 1) (by omega)).2 row z
    · obtain ⟨o1, o2, o3, o4⟩ := (a1.mono (b := vs.length + 1) (by omega)).2 r z1
      rw [z2]
      exact ⟨o1, o2, o3, fun y => by simpa using y⟩
  · rw [hlen]
    rcases List.mem_or_eq_of_mem_set hk' with z | z
    · exact (a2.2 k' z).mono (by omega)
    · rw [z]
      refine ⟨k1, k2, fun y => ?_, k4, by show k.2.2.2.1 + 1 ≤ _; omega, k6, fun y => ?_⟩
      · have : k.2.2.1 = false := y
        rw [hs] at this; cases this
      · have : k.1 = true := y
        rw [hc] at this; cases this
  · rcases set_get hq with ⟨rfl, rfl⟩ | ⟨z1, z2⟩
    · exact a3 q k hk
    · exact a3 q k' z2
  · rcases app_case hv with z | ⟨rfl, rfl⟩
    · obtain ⟨k', t', h1, h2, h3, h4, h5, h6', h7, h8', h9⟩ := a4.2 q v z
      have hparts : k'.1 = false → v.2.2.2.1 = 0 ∧ v.2.2.2.2.2.2.length = t'.length ∧ ∀ (i : Nat) (x : ET) (y : Int64), t'[i]? = some x → v.2.2.2.2.2.2[i]? = some y → partOK (rsN rs k.2.1 (lnT t) P t.length) (vs ++ [newV rs vs j e k.2.2.2.1 k.2.1 t.length (lnT t) P]) q x.2.1 y v.2.2.2.2.2.1 := by
        intro y
        obtain ⟨g1, g2, g3⟩ := h9 y
        exact ⟨g1, g2, fun i x y' hx hy => (g3 i x y' hx hy).ext (fun r row hr => rsN_get hr _) (fun r v hv => app_get hv)⟩
      by_cases y : v.1 = j
      · rw [y] at h1
        cases hk.symm.trans h1
        exact ⟨kMade k, t', by rw [y]; exact hkj, h2, h3, Nat.lt_succ_of_lt h4, h5, h6', h7, h8', hparts⟩
      · exact ⟨k', t', by rw [List.getElem?_set_ne (Ne.symm y)]; exact h1, h2, h3, h4, h5, h6', h7, h8', hparts⟩
    · refine ⟨kMade k, t, hkj, ht, hs, Nat.lt_succ_self _, Nat.le_add_left _ _, h8, h300, fun y => ?_, fun _ => ⟨rfl, by simp [newV], fun i x y hx hy => ?_⟩⟩
      · have : k.1 = true := y
        rw [hc] at this; cases this
      · have hi := (List.getElem?_eq_some_iff.mp hx).1
        have ey : pN rs k.2.1 (lnT t) P i = y := by
          have hy' : ((List.range t.length).map (pN rs k.2.1 (lnT t) P))[i]? = some y := hy
          rw [List.getElem?_map, List.getElem?_range hi] at hy'
          simpa using hy'
        rw [← ey, ← lnT_at hx]
        exact part_new a1 hr60 hV hi (hf i hi)
  · obtain ⟨w0, w1, w2, q0, q1, w3, w4, w5, w6, x1, x2, x3⟩ := a5
    exact ⟨w0, w1, w2, q0, q1, w3, w4, w5, w6, x1, by rw [filt_set (k' := kMade k) hk rfl]; exact x2, x3⟩
  · rw [hlen]
    intro i hi
    rcases a6 i hi with y | y | ⟨y, jj, y1, y2⟩ | ⟨y, jj, y1, y2⟩
    · exact Or.inl y
    · exact Or.inr (Or.inl y)
    · exact Or.inr (Or.inr (Or.inl ⟨y, jj, by omega, y2⟩))
    · exact Or.inr (Or.inr (Or.inr ⟨y, jj, by omega, y2⟩))
  · refine mKinds.keep (m0 := mA (mA (mVal m2 vs.length j e k.2.2.2.1) 28 ((m2.2.1 28).set vs.length (nI (accP rs vs (lnT t) P t.length).1))) 29 ((m2.2.1 29).set vs.length (nI ((accP rs vs (lnT t) P t.length).2 + 1)))) ?_ s2 s3
    obtain ⟨c0, c1, c2, c3, c4, c5, c6, c7, c8, c9, c10, c11⟩ := b2
    simp only [mVal, mKinds, mA_1, mB_1, mI_1, mI_21, mI_22, mA_21, mA_22, mB_21, mB_22, Nat.reduceEqDiff, Nat.reduceEqDiff, reduceCtorEq, if_false, if_true, List.length_set]
    refine ⟨c0, c1, c2, c3, c4, c5, c6, c7, c8, c9, fun q k' hq => ?_, fun q h1 h2 => ?_⟩
    · simp only [lset_getD]
      rcases set_get hq with ⟨rfl, rfl⟩ | ⟨z1, z2⟩
      · obtain ⟨d1, d2, d3, d4, d5, d6⟩ := c10 q k hk
        rw [if_pos ⟨rfl, by omega⟩]
        exact ⟨d1, d2, d3, d4, by show nI k.2.2.2.1 + 1 = nI (k.2.2.2.1 + 1); rw [nI_1], d6⟩
      · obtain ⟨d1, d2, d3, d4, d5, d6⟩ := c10 q k' z2
        rw [if_neg (by omega)]
        exact ⟨d1, d2, d3, d4, d5, d6⟩
    · simp only [lset_getD]
      rw [if_neg (by omega)]
      exact c11 q h1 h2
  · obtain ⟨c0, c1, c2, c3, c4, c5, c6, c7, c8, c9, c10⟩ := b3
    unfold mVals
    rw [s2 24 (by decide), s3 25 (by decide) (by decide) (by decide), s3 26 (by decide) (by decide) (by decide), s3 27 (by decide) (by decide) (by decide), s3 28 (by decide) (by decide) (by decide), s3 29 (by decide) (by decide) (by decide), s3 30 (by decide) (by decide) (by decide)]
    simp only [mVal, mA_1, mB_1, mI_1, mI_21, mI_22, mA_21, mA_22, mB_21, mB_22, Nat.reduceEqDiff, Nat.reduceEqDiff, reduceCtorEq, if_false, if_true, List.length_set]
    refine ⟨by rw [hlen, nI_1], c1, c2, c3, c4, c5, c6, s5, s6, fun q v hv => ?_, fun q h1 h2 => ?_⟩
    · simp only [lset_getD]
      rcases app_case hv with z | ⟨rfl, rfl⟩
      · have hl := (List.getElem?_eq_some_iff.mp z).1
        simp only [show ¬ (vs.length = q ∧ q < (m2.2.1 25).length) by omega, show ¬ (vs.length = q ∧ q < (m2.2.1 26).length) by omega, show ¬ (vs.length = q ∧ q < (m2.2.1 27).length) by omega, show ¬ (vs.length = q ∧ q < (m2.2.1 28).length) by omega, show ¬ (vs.length = q ∧ q < (m2.2.1 29).length) by omega, if_false]
        obtain ⟨e1, e2, e3, e4, e5, e6, e7⟩ := c9 q v z
        refine ⟨e1, e2, e3, e4, e5, e6, fun i x hx => ?_⟩
        have hi := (List.getElem?_eq_some_iff.mp hx).1
        have hvl : v.2.2.2.2.2.2.length ≤ 6 := by
          obtain ⟨k', t', h1, h2, -, -, -, -, -, h8', h9⟩ := a4.2 q v z
          have hk' := a2.2 k' (List.mem_of_getElem? h1)
          cases hq : k'.1
          · rw [(h9 hq).2.1]
            have := (hk'.2.2.2.1 t' (List.mem_of_getElem? h2)).1
            rw [hq] at this
            simpa using this
          · rw [h8' hq]; simp
        rw [s7 (6 * q + i) (by omega)]
        simp only [mVal, mA_1, mB_1, mI_1, mI_21, mI_22, mA_21, mA_22, mB_21, mB_22, Nat.reduceEqDiff, Nat.reduceEqDiff, reduceCtorEq, if_false, if_true]
        exact e7 i x hx
      · simp only [show vs.length < (m2.2.1 25).length by omega, show vs.length < (m2.2.1 26).length by omega, show vs.length < (m2.2.1 27).length by omega, show vs.length < (m2.2.1 28).length by omega, show vs.length < (m2.2.1 29).length by omega, and_self, if_true]
        refine ⟨rfl, rfl, rfl, rfl, rfl, c10 vs.length (Nat.le_refl _) (by omega), fun i x hx => ?_⟩
        have hx' : ((List.range t.length).map (pN rs k.2.1 (lnT t) P))[i]? = some x := hx
        have hi : i < t.length := by
          have := (List.getElem?_eq_some_iff.mp hx').1
          simpa using this
        rw [s8 i hi]
        rw [List.getElem?_map, List.getElem?_range hi] at hx'
        simpa using hx'
    · rw [hlen] at h1
      exact c10 q (by omega) h2
  · unfold mMisc at b4 ⊢
    rw [s2 0 (by decide), s2 1 (by decide), s2 2 (by decide), s2 19 (by decide), s2 45 (by decide), s3 20 (by decide) (by decide) (by decide), s3 21 (by decide) (by decide) (by decide), s3 22 (by decide) (by decide) (by decide), s3 36 (by decide) (by decide) (by decide), s3 37 (by decide) (by decide) (by decide), s3 38 (by decide) (by decide) (by decide), s3 39 (by decide) (by decide) (by decide), s3 40 (by decide) (by decide) (by decide), s3 41 (by decide) (by decide) (by decide), s3 42 (by decide) (by decide) (by decide), s3 44 (by decide) (by decide) (by decide), s4 23 (by decide) (by decide) (by decide)]
    simp only [mVal, mA_1, mB_1, mI_1, mI_21, mI_22, mA_21, mA_22, mB_21, mB_22, Nat.reduceEqDiff, Nat.reduceEqDiff, reduceCtorEq, if_false, if_true]
    exact b4
end Fin8
