/-! a label's place in an edition -/
def plc (t : List ET) (v : Int32) : Option Nat := t.findIdx? (fun x => decide (x.1 = v))
def pI (o : Option Nat) : Int32 := match o with
  | some i => nI i
  | none => -1
theorem plc_some {t : List ET} {v : Int32} {i : Nat} (h : plc t v = some i) : ∃ x, t[i]? = some x ∧ x.1 = v := by
  unfold plc at h
  obtain ⟨h1, h2, -⟩ := List.findIdx?_eq_some_iff_getElem.mp h
  exact ⟨t[i], List.getElem?_eq_getElem h1, by simpa using h2⟩
theorem plc_none {t : List ET} {v : Int32} (h : plc t v = none) {i : Nat} {x : ET} (hx : t[i]? = some x) : ¬ x.1 = v := by
  unfold plc at h
  have := List.findIdx?_eq_none_iff.mp h x (List.mem_of_getElem? hx)
  simpa using this
theorem plc_at {t : List ET} {v : Int32} {i : Nat} {x : ET} (hn : (t.map (fun x => x.1)).Nodup) (hx : t[i]? = some x) (he : x.1 = v) : plc t v = some i := by
  cases h : plc t v with
  | none => exact absurd he (plc_none h hx)
  | some j =>
    obtain ⟨y, h1, h2⟩ := plc_some h
    have h3 : (t.map (fun x => x.1))[i]? = some v := by rw [List.getElem?_map, hx]; simp [he]
    have h4 : (t.map (fun x => x.1))[j]? = some v := by rw [List.getElem?_map, h1]; simp [h2]
    have hi := (List.getElem?_eq_some_iff.mp h3).1
    have := (List.getElem?_inj hi hn).mp (h3.trans h4.symm)
    rw [this]
theorem plc_lt {t : List ET} {v : Int32} {i : Nat} (h : plc t v = some i) : i < t.length := by
  obtain ⟨x, h1, -⟩ := plc_some h
  exact (List.getElem?_eq_some_iff.mp h1).1
section Ops6
variable {rs : List RowT} {ks : List KindT} {vs : List ValT} {tl : Nat → Nat → Nat → List Int32} {sc : Nat → Int32} {wI : Nat → List Int32} {wL : Nat → List Int64} {m : MS} {d d2 u : Nat} {v1 v2 v3 v5 v6 : Int32} {v4 : Int64} {W : Prop → Prop}
variable {cp mp : MH}
theorem eL_at {t : List ET} {l : List Int32} {i : Nat} (hi : i < t.length) (h31 : t.length < 2 ^ 31) : inb (eL t l) (nI i) ∧ ∃ x, t[i]? = some x ∧ rdI (eL t l) (nI i) = x.1 := by
  refine ⟨(inb_nI (by omega)).mpr (by simp [eL]; omega), t[i], List.getElem?_eq_getElem hi, ?_⟩
  rw [rdI_nI (by omega)]
  simp [eL, List.getD_eq_getElem?_getD, List.getElem?_append_left, hi]
theorem eN_at {t : List ET} {l : List Int32} {i : Nat} {x : ET} (hx : t[i]? = some x) (h31 : t.length < 2 ^ 31) : inb (eN t l) (nI i) ∧ rdI (eN t l) (nI i) = x.2.1 := by
  have hi := (List.getElem?_eq_some_iff.mp hx).1
  refine ⟨(inb_nI (by omega)).mpr (by simp [eN]; omega), ?_⟩
  rw [rdI_nI (by omega)]
  have : t[i] = x := (List.getElem?_eq_some_iff.mp hx).2
  simp [eN, List.getD_eq_getElem?_getD, List.getElem?_append_left, hi, this]
theorem f_find {j e : Nat} {k : KindT} {t : List ET} (hk : ks[j]? = some k) (ht : k.2.2.2.2[e]? = some t) (h8 : t.length ≤ 8) {v : Int32} {Q : Int32 → MH → Prop} (hq : Q (pI (plc t v)) (hJ (hC rs ks vs tl sc wI wL) mp)) : F_X2_find d (some (25, j, e)) v (hJ (hC rs ks vs tl sc wI wL) mp) u Q := by
  unfold F_X2_find
  have key : ∀ n i : Nat, i + n = t.length → (∀ q x, q < i → t[q]? = some x → ¬ x.1 = v) → L_X2_find_2 d (some (25, j, e)) v (nI i) (hJ (hC rs ks vs tl sc wI wL) mp) u Q := by
    intro n
    induction n with
    | zero =>
      intro i hi hno
      unfold L_X2_find_2
      refine E_X2_find_2 ?_
      unfold F_X2_find_2
      simp only [c_g25_4, hk, wr_some, ht]
      rw [if_pos (nI_le (by omega) (by omega))]
      cases hp : plc t v with
      | none => rw [hp] at hq; exact hq
      | some q =>
        obtain ⟨x, h1, h2⟩ := plc_some hp
        exact absurd h2 (hno q x (by have := plc_lt hp; omega) h1)
    | succ n ih =>
      intro i hi hno
      unfold L_X2_find_2
      refine E_X2_find_2 ?_
      unfold F_X2_find_2
      obtain ⟨a1, x, hx, a2⟩ := eL_at (t := t) (l := tl j e 0) (i := i) (by omega) (by omega)
      simp only [c_g25_4, c_g25_1, c_a26, hk, wr_some, ht, a1, a2, true_and]
      rw [if_neg (nI_ge (by omega) (by omega))]
      by_cases e1 : x.1 = v
      · rw [if_pos e1]
        have hp : plc t v = some i := by
          unfold plc
          have hi2 := (List.getElem?_eq_some_iff.mp hx)
          refine List.findIdx?_eq_some_iff_getElem.mpr ⟨hi2.1, by simpa [hi2.2] using e1, fun q hq2 => ?_⟩
          have := hno q t[q] hq2 (List.getElem?_eq_getElem (by omega))
          simpa using this
        rw [hp] at hq
        exact hq
      · rw [if_neg e1, nI_1]
        refine ih (i + 1) (by omega) (fun q y hq2 hy => ?_)
        by_cases e2 : q = i
        · subst e2; cases hx.symm.trans hy; exact e1
        · exact hno q y (by omega) hy
  have := key t.length 0 (by omega) (fun q x h => absurd h (by omega))
  rwa [nI_0] at this
theorem g_placeOf {j e : Nat} {k : KindT} {t : List ET} (h : mKinds ks m) (hKd : ks.length ≤ 16) (hk : ks[j]? = some k) (h4 : k.2.2.2.2.length ≤ 4) (ht : k.2.2.2.2[e]? = some t) (h8 : t.length ≤ 8) (hn : (t.map (fun x => x.1)).Nodup) {v : Int32} {Q : Int32 → MH → Prop} (hq : Q (pI (plc t v)) (hJ cp (hM m))) : F_X12_placeOf d mo (nI (4 * j + e)) v (hJ cp (hM m)) u Q := by
  unfold F_X12_placeOf
  obtain ⟨h64, ⟨a1, a2⟩, a3⟩ := h.ed hKd hk h4 ht
  have key : ∀ n i : Nat, ∀ p : Int32, i + n = t.length → (match plc t v with
      | some q => p = if q < i then nI q else -1
      | none => p = -1) → L_X12_placeOf_5 d mo (nI (4 * j + e)) v p (nI i) (hJ cp (hM m)) u Q := by
    intro n
    induction n with
    | zero =>
      intro i p hi hp
      unfold L_X12_placeOf_5
      refine E_X12_placeOf_5 ?_
      unfold F_X12_placeOf_5
      simp only [m_g15, m_a15, a1, a2, true_and]
      rw [if_pos (nI_le (by omega) (by omega))]
      cases hpl : plc t v with
      | none => rw [hpl] at hq hp; simp only at hp; rw [hp]; exact hq
      | some q =>
        rw [hpl] at hq hp
        have := plc_lt hpl
        simp only at hp
        rw [if_pos (by omega)] at hp
        rw [hp]; exact hq
    | succ n ih =>
      intro i p hi hp
      unfold L_X12_placeOf_5
      refine E_X12_placeOf_5 ?_
      unfold F_X12_placeOf_5
      obtain ⟨x, hx⟩ := get_lt (show i < t.length by omega)
      obtain ⟨⟨b1, b2⟩, -⟩ := a3 i x hx h8
      simp only [m_g15, m_a15, a1, a2, m_g16, m_a16, idx8, b1, b2, true_and]
      rw [if_neg (nI_ge (by omega) (by omega)), nI_1]
      by_cases e1 : x.1 = v
      · rw [if_pos e1]
        refine ih (i + 1) _ (by omega) ?_
        rw [plc_at hn hx e1]
        simp
      · rw [if_neg e1]
        refine ih (i + 1) _ (by omega) ?_
        cases hpl : plc t v with
        | none => rw [hpl] at hp; exact hp
        | some q =>
          rw [hpl] at hp
          simp only at hp ⊢
          rw [hp]
          obtain ⟨y, h1, h2⟩ := plc_some hpl
          have : q ≠ i := fun z => by subst z; cases hx.symm.trans h1; exact e1 h2
          by_cases e3 : q < i
          · rw [if_pos e3, if_pos (by omega)]
          · rw [if_neg e3, if_neg (by omega)]
  have := key t.length 0 (-1) (by omega) (by cases plc t v <;> simp)
  rwa [nI_0] at this
/-- a part, told -/
def tld (l : Int32) (x : Int64) : Int64 := if l < 8 then x else if x = -1 then -5 else x
theorem f_tell {h : MH} {l : Int32} {x : Int64} {Q : Int64 → MH → Prop} : F_X4_tell d l x h u Q ↔ Q (tld l x) h := by
  unfold F_X4_tell tld
  by_cases e : l < 8
  · simp [e]
  · by_cases e2 : x = -1
    · subst e2; simp [e, lg_cmp_eq]
    · simp [e, e2, lg_cmp_eq]
theorem f_tellPart {j i : Nat} {v : ValT} {k : KindT} {t : List ET} {x : ET} {y : Int64} (hj : vs[j]? = some v) (hk : ks[v.1]? = some k) (ht : k.2.2.2.2[v.2.1]? = some t) (h8 : t.length ≤ 8) (hx : t[i]? = some x) (hy : v.2.2.2.2.2.2[i]? = some y) {Q : Int64 → MH → Prop} : F_X10_tellPart d (some (29, j, 0)) (nI i) (hJ (hC rs ks vs tl sc wI wL) mp) u Q ↔ Q (tld x.2.1 y) (hJ (hC rs ks vs tl sc wI wL) mp) := by
  obtain ⟨a1, a2⟩ := eN_at (l := tl v.1 v.2.1 1) hx (by omega)
  have hi := (List.getElem?_eq_some_iff.mp hx).1
  have hi2 := (List.getElem?_eq_some_iff.mp hy).1
  have b1 : inb v.2.2.2.2.2.2 (nI i) := (inb_nI (by omega)).mpr hi2
  have b2 : rdL v.2.2.2.2.2.2 (nI i) = y := by
    rw [rdL_nI (by omega), List.getD_eq_getElem?_getD, hy]; rfl
  unfold F_X10_tellPart
  simp only [c_g29_2, hj, wr_some, c_g25_2, hk, ht, c_a27, a1, a2, true_and, c_g29_5, c_a30, b1, b2, f_tell]
theorem neg_of {x : Int64} {n : Nat} (h : refOK x n) (hn : n < 2 ^ 31) : (0 ≤ x ↔ ¬ x = -1) := by
  rcases h with rfl | ⟨j, h1, rfl⟩
  · decide
  · constructor
    · intro _ z
      have := congrArg Int64.toInt z
      rw [lN_toInt (by omega)] at this
      simp at this
      try omega
    · intro _
      rw [Int64.le_iff_toInt_le, lN_toInt (by omega)]; simp
theorem partOK.ref {l : Int32} {x : Int64} {j dp : Nat} (h : partOK rs vs j l x dp) (hl : ¬ l < 8) (h9 : wi l 0 9 = true) (hr : rs.length ≤ 60) (hv : vs.length ≤ 200) : refOK x 200 := by
  have : l = 8 ∨ l = 9 := by
    unfold wi at h9
    simp only [Bool.and_eq_true, decide_eq_true_eq] at h9
    have h2 := h9.2
    rw [Int32.lt_iff_toInt_lt] at hl
    rw [Int32.le_iff_toInt_le] at h2
    have e8 : (8 : Int32).toInt = 8 := by decide
    have e9 : (9 : Int32).toInt = 9 := by decide
    by_cases q : l.toInt = 8
    · exact Or.inl (Int32.toInt_inj.mp (by rw [q, e8]))
    · exact Or.inr (Int32.toInt_inj.mp (by rw [e9]; omega))
  rcases this with q | q
  · rcases h.2.1 q with z | ⟨i, v, h1, h2, h3, -⟩
    · exact Or.inl z
    · exact Or.inr ⟨i, by have := (List.getElem?_eq_some_iff.mp h3).1; omega, h2⟩
  · rcases h.2.2 q with z | ⟨i, r, h1, h2, -⟩
    · exact Or.inl z
    · exact Or.inr ⟨i, by have := (List.getElem?_eq_some_iff.mp h2).1; omega, h1⟩
theorem g_toldPart {j i : Nat} {v : ValT} {k : KindT} {t : List ET} {x : ET} {y : Int64} (h : mVals vs m) (hV : vs.length ≤ 200) (hj : vs[j]? = some v) (h2 : mKinds ks m) (hKd : ks.length ≤ 16) (hk : ks[v.1]? = some k) (h4 : k.2.2.2.2.length ≤ 4) (ht : k.2.2.2.2[v.2.1]? = some t) (h6 : t.length ≤ 6) (hx : t[i]? = some x) (hy : v.2.2.2.2.2.2[i]? = some y) (hr : ¬ x.2.1 < 8 → refOK y 200) {Q : Int64 → MH → Prop} : F_X12_toldPart d mo (nI j) (nI i) (hJ cp (hM m)) u Q ↔ Q (tld x.2.1 y) (hJ cp (hM m)) := by
  obtain ⟨-, -, -, -, -, -, -, a⟩ := h.at hV hj
  have hi := (List.getElem?_eq_some_iff.mp hx).1
  obtain ⟨a1, a2⟩ := a i y hy (by omega)
  unfold F_X12_toldPart tld
  simp only [m_rcT, g_laneOf h hV hj h2 hKd hk h4 ht (by omega) hx, m_g31, m_a31, idx6, a1, a2, true_and, lg_cmp_ge]
  by_cases e : x.2.1 < 8
  · simp [e]
  · have := neg_of (hr e) (by omega)
    by_cases e2 : y = -1
    · have h0 : ¬ 0 ≤ y := fun z => (this.mp z) e2
      simp [e, e2, h0]
    · have h0 : 0 ≤ y := this.mpr e2
      simp [e, e2, h0]
theorem op_part (I : Inv rs ks vs tl sc wI wL m) (hW : ∀ X, X → W X) {K : Int64 → Int64 → MH → Prop} (hK : KL K) : F_X11_part d br v1 v2 (hX rs ks vs tl sc wI wL m) u (fun a h => W (rc h mo 11 ∧ F_X12_part d2 mo v1 v2 h 0 (fun b h => K a b h))) := by
  have hR := I.1.1.1; have hV := I.1.2.2.2.1.1; have hKd := I.1.2.1.1; have hRm := I.2.1; have hKm := I.2.2.1; have hVm := I.2.2.2.1; have hMm := I.2.2.2.2
  unfold F_X11_part
  simp only [c_g1_0, c_rc2, f_findValue hV, ixL_i, true_and]
  rcases hx : ix v1 vs.length with _ | j
  · simp only [Option.map_none, nl_none]
    refine hW _ ⟨m_rc, ?_⟩
    unfold F_X12_part
    simp only [m_rcT, g_isValue hV hVm.1, hx, g_lost, if_b2i, Option.isSome_some, Option.isSome_none, Bool.true_eq_false, Bool.false_eq_true, if_false, if_true, true_and]
    exact hK _ _ _ _ _ _ _ _ _ I
  · obtain ⟨h1, rfl, -, -⟩ := ix_some hx
    obtain ⟨v, hj⟩ := get_lt h1
    obtain ⟨k, t, hk, ht, hkk, hed, hval⟩ := I.val hj
    have h4 := hkk.2.1
    simp only [Option.map_some, nl_some, c_g29_1, c_rc29, hj, wr_some, c_g23_1, hk, if_b2i]
    obtain ⟨k', t', q1, q2, -, -, -, -, -, p1, p2⟩ := hval
    cases hk.symm.trans q1
    cases ht.symm.trans q2
    rcases hc : k.1 with _ | _
    · obtain ⟨-, p4, p5⟩ := p2 hc
      have h6 : t.length ≤ 6 := by have := hed.1; rw [hc] at this; simpa using this
      simp only [if_true, true_and, f_hasPart hj (show v.2.2.2.2.2.2.length ≤ 6 by omega), p4, if_b2i]
      rcases hy : ix v2 t.length with _ | i
      · simp only [if_b2i, Option.isSome_some, Option.isSome_none, Bool.true_eq_false, Bool.false_eq_true, if_false, if_true, true_and, c_rc1, f_lost]
        refine hW _ ⟨m_rc, ?_⟩
        unfold F_X12_part
        simp only [m_rcT, g_isValue hV hVm.1, hx, if_b2i, Option.isSome_some, Option.isSome_none, Bool.true_eq_false, Bool.false_eq_true, if_false, if_true, true_and, g_isConstant hVm hV hj hKm hKd hk, hc, g_partsOf hVm hV hj hKm hKd hk h4 ht, f_in, wi_ix (show t.length < 2 ^ 30 by omega), hy, g_failsLong]
        exact hK _ _ _ _ _ _ _ _ _ (I.fault 2)
      · obtain ⟨i1, rfl, -, -⟩ := ix_some hy
        obtain ⟨y, hyy⟩ := get_lt (show i < v.2.2.2.2.2.2.length by omega)
        obtain ⟨x, hxx⟩ := get_lt (show i < t.length by omega)
        have hpo := p5 i x y hxx hyy
        have hw9 := hed.2.2 hc x (List.mem_of_getElem? hxx)
        simp only [if_b2i, Option.isSome_some, Option.isSome_none, Bool.true_eq_false, Bool.false_eq_true, if_false, if_true, true_and, c_rc29, hj, wr_some, f_tellPart hj hk ht (by omega) hxx hyy]
        refine hW _ ⟨m_rc, ?_⟩
        unfold F_X12_part
        simp only [m_rcT, g_isValue hV hVm.1, hx, if_b2i, Option.isSome_some, Option.isSome_none, Bool.true_eq_false, Bool.false_eq_true, if_false, if_true, true_and, g_isConstant hVm hV hj hKm hKd hk, hc, g_partsOf hVm hV hj hKm hKd hk h4 ht, f_in, wi_ix (show t.length < 2 ^ 30 by omega), hy, g_toldPart hVm hV hj hKm hKd hk h4 ht h6 hxx hyy (fun q => hpo.ref q hw9 hR hV)]
        exact hK _ _ _ _ _ _ _ _ _ I
    · simp only [if_b2i, Option.isSome_some, Option.isSome_none, Bool.true_eq_false, Bool.false_eq_true, if_false, if_true, true_and]
      refine hW _ ⟨m_rc, ?_⟩
      unfold F_X12_part
      simp only [m_rcT, g_isValue hV hVm.1, hx, if_b2i, Option.isSome_some, Option.isSome_none, Bool.true_eq_false, Bool.false_eq_true, if_false, if_true, true_and, g_isConstant hVm hV hj hKm hKd hk, hc, g_lost]
      exact hK _ _ _ _ _ _ _ _ _ I
theorem op_accessor (I : Inv rs ks vs tl sc wI wL m) (hW : ∀ X, X → W X) {K : Int64 → Int64 → MH → Prop} (hK : KL K) : F_X11_accessor d br v1 v2 (hX rs ks vs tl sc wI wL m) u (fun a h => W (rc h mo 11 ∧ F_X12_accessor d2 mo v1 v2 h 0 (fun b h => K a b h))) := by
  have hR := I.1.1.1; have hV := I.1.2.2.2.1.1; have hKd := I.1.2.1.1; have hRm := I.2.1; have hKm := I.2.2.1; have hVm := I.2.2.2.1; have hMm := I.2.2.2.2
  unfold F_X11_accessor
  simp only [c_g1_0, c_rc2, f_findValue hV, ixL_i, true_and]
  rcases hx : ix v1 vs.length with _ | j
  · simp only [Option.map_none, nl_none]
    refine hW _ ⟨m_rc, ?_⟩
    unfold F_X12_accessor
    simp only [m_rcT, g_isValue hV hVm.1, hx, g_lost, if_b2i, Option.isSome_some, Option.isSome_none, Bool.true_eq_false, Bool.false_eq_true, if_false, if_true, true_and]
    exact hK _ _ _ _ _ _ _ _ _ I
  · obtain ⟨h1, rfl, -, -⟩ := ix_some hx
    obtain ⟨v, hj⟩ := get_lt h1
    obtain ⟨k, t, hk, ht, hkk, hed, hval⟩ := I.val hj
    have h4 := hkk.2.1
    simp only [Option.map_some, nl_some, c_g29_1, c_g29_2, c_rc29, c_rc25, hj, wr_some, c_g23_1, hk, ht, if_b2i]
    obtain ⟨k', t', q1, q2, -, -, -, -, -, p1, p2⟩ := hval
    cases hk.symm.trans q1
    cases ht.symm.trans q2
    rcases hc : k.1 with _ | _
    · obtain ⟨-, p4, p5⟩ := p2 hc
      have h6 : t.length ≤ 6 := by have := hed.1; rw [hc] at this; simpa using this
      simp only [if_true, true_and]
      refine f_find hk ht (by omega) ?_
      rcases hp : plc t v2 with _ | i
      · simp only [pI, if_true]
        refine hW _ ⟨m_rc, ?_⟩
        unfold F_X12_accessor
        simp only [m_rcT, g_isValue hV hVm.1, hx, if_b2i, Option.isSome_some, Option.isSome_none, Bool.true_eq_false, Bool.false_eq_true, if_false, if_true, true_and, g_isConstant hVm hV hj hKm hKd hk, hc, g_editionOf hVm hV hj]
        refine g_placeOf hKm hKd hk h4 ht (by omega) hed.2.1 ?_
        rw [hp]
        simp only [pI, show ¬ (0 : Int32) ≤ -1 by decide, if_false, g_lost]
        exact hK _ _ _ _ _ _ _ _ _ I
      · have i1 := plc_lt hp
        obtain ⟨y, hyy⟩ := get_lt (show i < v.2.2.2.2.2.2.length by omega)
        obtain ⟨x, hxx⟩ := get_lt i1
        have hpo := p5 i x y hxx hyy
        have hw9 := hed.2.2 hc x (List.mem_of_getElem? hxx)
        have hne : ¬ nI i = -1 := by
          intro z
          have := congrArg Int32.toInt z
          rw [nI_toInt (by omega)] at this
          simp at this
          try omega
        simp only [pI, hne, if_false, c_rc29, hj, wr_some, true_and, f_tellPart hj hk ht (by omega) hxx hyy]
        refine hW _ ⟨m_rc, ?_⟩
        unfold F_X12_accessor
        simp only [m_rcT, g_isValue hV hVm.1, hx, if_b2i, Option.isSome_some, Option.isSome_none, Bool.true_eq_false, Bool.false_eq_true, if_false, if_true, true_and, g_isConstant hVm hV hj hKm hKd hk, hc, g_editionOf hVm hV hj]
        refine g_placeOf hKm hKd hk h4 ht (by omega) hed.2.1 ?_
        rw [hp]
        simp only [pI, nI_pos' (show i < 2 ^ 31 by omega), if_true, m_rcT, true_and, g_toldPart hVm hV hj hKm hKd hk h4 ht h6 hxx hyy (fun q => hpo.ref q hw9 hR hV)]
        exact hK _ _ _ _ _ _ _ _ _ I
    · simp only [if_b2i, Option.isSome_some, Option.isSome_none, Bool.true_eq_false, Bool.false_eq_true, if_false, if_true, true_and]
      refine hW _ ⟨m_rc, ?_⟩
      unfold F_X12_accessor
      simp only [m_rcT, g_isValue hV hVm.1, hx, if_b2i, Option.isSome_some, Option.isSome_none, Bool.true_eq_false, Bool.false_eq_true, if_false, if_true, true_and, g_isConstant hVm hV hj hKm hKd hk, hc, g_lost]
      exact hK _ _ _ _ _ _ _ _ _ I
end Ops6
