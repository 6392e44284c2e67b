theorem idx4 (j i : Nat) : (4 : Int32) * nI j + nI i = nI (4 * j + i) := by rw [show (4 : Int32) = nI 4 from rfl, pk_mul, nI_add]
theorem idx6 (j i : Nat) : (6 : Int32) * nI j + nI i = nI (6 * j + i) := by rw [show (6 : Int32) = nI 6 from rfl, pk_mul, nI_add]
theorem idx8 (j i : Nat) : (8 : Int32) * nI j + nI i = nI (8 * j + i) := by rw [show (8 : Int32) = nI 8 from rfl, pk_mul, nI_add]
section Ops5
variable {rs : List RowT} {ks : List KindT} {vs : List ValT} {tl : Nat → Nat → Nat → List Int32} {sc : Nat → Int32} {wI : Nat → List Int32} {wL : Nat → List Int64} {m : MS} {d d2 u : Nat} {v1 v2 v3 v5 v6 : Int32} {v4 : Int64} {W : Prop → Prop}
variable {cp mp : MH}
theorem mKinds.at {j : Nat} {k : KindT} (h : mKinds ks m) (hk : ks.length ≤ 16) (hj : ks[j]? = some k) :
    j < 16 ∧ (inb (m.2.1 10) (nI j) ∧ rdI (m.2.1 10) (nI j) = b2i k.1) ∧ (inb (m.2.1 11) (nI j) ∧ rdI (m.2.1 11) (nI j) = k.2.1) ∧ (inb (m.2.1 12) (nI j) ∧ rdI (m.2.1 12) (nI j) = b2i k.2.2.1) ∧ (inb (m.2.1 13) (nI j) ∧ rdI (m.2.1 13) (nI j) = nI (k.2.2.2.2.length - 1)) ∧ (inb (m.2.1 14) (nI j) ∧ rdI (m.2.1 14) (nI j) = nI k.2.2.2.1) := by
  obtain ⟨h3, l10, l11, l12, l13, l14, -, -, -, -, hh, -⟩ := h
  have hj16 : j < 16 := by have := (List.getElem?_eq_some_iff.mp hj).1; omega
  obtain ⟨a1, a2, a3, a4, a5, -⟩ := hh j k hj
  exact ⟨hj16, ⟨(inb_nI (by omega)).mpr (by omega), by rw [rdI_nI (by omega), a1]⟩, ⟨(inb_nI (by omega)).mpr (by omega), by rw [rdI_nI (by omega), a2]⟩, ⟨(inb_nI (by omega)).mpr (by omega), by rw [rdI_nI (by omega), a3]⟩, ⟨(inb_nI (by omega)).mpr (by omega), by rw [rdI_nI (by omega), a4]⟩, ⟨(inb_nI (by omega)).mpr (by omega), by rw [rdI_nI (by omega), a5]⟩⟩
theorem mKinds.ed {j e : Nat} {k : KindT} {t : List ET} (h : mKinds ks m) (hk : ks.length ≤ 16) (hj : ks[j]? = some k) (h4 : k.2.2.2.2.length ≤ 4) (he : k.2.2.2.2[e]? = some t) :
    4 * j + e < 64 ∧ (inb (m.2.1 15) (nI (4 * j + e)) ∧ rdI (m.2.1 15) (nI (4 * j + e)) = nI t.length) ∧ ∀ i x, t[i]? = some x → t.length ≤ 8 → (inb (m.2.1 16) (nI (8 * (4 * j + e) + i)) ∧ rdI (m.2.1 16) (nI (8 * (4 * j + e) + i)) = x.1) ∧ (inb (m.2.1 17) (nI (8 * (4 * j + e) + i)) ∧ rdI (m.2.1 17) (nI (8 * (4 * j + e) + i)) = x.2.1) ∧ inb (m.2.1 18) (nI (8 * (4 * j + e) + i)) ∧ (k.1 = true → k.2.2.1 = true → rdI (m.2.1 18) (nI (8 * (4 * j + e) + i)) = x.2.2) := by
  obtain ⟨h3, l10, l11, l12, l13, l14, l15, l16, l17, l18, hh, -⟩ := h
  have hj16 : j < 16 := by have := (List.getElem?_eq_some_iff.mp hj).1; omega
  have he4 : e < 4 := by have := (List.getElem?_eq_some_iff.mp he).1; omega
  obtain ⟨-, -, -, -, -, a6⟩ := hh j k hj
  obtain ⟨b1, b2⟩ := a6 e t he
  refine ⟨by omega, ⟨(inb_nI (by omega)).mpr (by omega), by rw [rdI_nI (by omega), b1]⟩, fun i x hx h8 => ?_⟩
  have hi : i < t.length := (List.getElem?_eq_some_iff.mp hx).1
  obtain ⟨c1, c2, c3⟩ := b2 i x hx
  exact ⟨⟨(inb_nI (by omega)).mpr (by omega), by rw [rdI_nI (by omega), c1]⟩, ⟨(inb_nI (by omega)).mpr (by omega), by rw [rdI_nI (by omega), c2]⟩, (inb_nI (by omega)).mpr (by omega), fun q1 q2 => by rw [rdI_nI (by omega), c3 q1 q2]⟩
theorem mVals.at {j : Nat} {v : ValT} (h : mVals vs m) (hk : vs.length ≤ 200) (hj : vs[j]? = some v) :
    j < 200 ∧ (inb (m.2.1 25) (nI j) ∧ rdI (m.2.1 25) (nI j) = nI v.1) ∧ (inb (m.2.1 26) (nI j) ∧ rdI (m.2.1 26) (nI j) = nI v.2.1) ∧ (inb (m.2.1 27) (nI j) ∧ rdI (m.2.1 27) (nI j) = nI v.2.2.1) ∧ (inb (m.2.1 28) (nI j) ∧ rdI (m.2.1 28) (nI j) = nI v.2.2.2.2.1) ∧ (inb (m.2.1 29) (nI j) ∧ rdI (m.2.1 29) (nI j) = nI v.2.2.2.2.2.1) ∧ (inb (m.2.1 30) (nI j) ∧ rdI (m.2.1 30) (nI j) = v.2.2.2.1) ∧ ∀ i x, v.2.2.2.2.2.2[i]? = some x → i < 6 → inb (m.2.2 31) (nI (6 * j + i)) ∧ rdL (m.2.2 31) (nI (6 * j + i)) = x := by
  obtain ⟨h3, l25, l26, l27, l28, l29, l30, l31, l32, hh, -⟩ := h
  have hj2 : j < 200 := by have := (List.getElem?_eq_some_iff.mp hj).1; omega
  obtain ⟨a1, a2, a3, a4, a5, a6, a7⟩ := hh j v hj
  exact ⟨hj2, ⟨(inb_nI (by omega)).mpr (by omega), by rw [rdI_nI (by omega), a1]⟩, ⟨(inb_nI (by omega)).mpr (by omega), by rw [rdI_nI (by omega), a2]⟩, ⟨(inb_nI (by omega)).mpr (by omega), by rw [rdI_nI (by omega), a3]⟩, ⟨(inb_nI (by omega)).mpr (by omega), by rw [rdI_nI (by omega), a4]⟩, ⟨(inb_nI (by omega)).mpr (by omega), by rw [rdI_nI (by omega), a5]⟩, ⟨(inb_nI (by omega)).mpr (by omega), by rw [rdI_nI (by omega), a6]⟩, fun i x hx hi => ⟨(inb_nI (by omega)).mpr (by omega), by rw [rdL_nI (by omega), a7 i x hx]⟩⟩
theorem g_newestOf {j : Nat} {k : KindT} (h : mKinds ks m) (hk : ks.length ≤ 16) (hj : ks[j]? = some k) {Q : Int32 → MH → Prop} : F_X12_newestOf d mo (nI j) (hJ cp (hM m)) u Q ↔ Q (nI (4 * j + (k.2.2.2.2.length - 1))) (hJ cp (hM m)) := by
  obtain ⟨-, -, -, -, ⟨a1, a2⟩, -⟩ := h.at hk hj
  unfold F_X12_newestOf
  simp only [m_g13, m_a13, a1, a2, true_and, idx4]
theorem g_editionOf {j : Nat} {v : ValT} (h : mVals vs m) (hk : vs.length ≤ 200) (hj : vs[j]? = some v) {Q : Int32 → MH → Prop} : F_X12_editionOf d mo (nI j) (hJ cp (hM m)) u Q ↔ Q (nI (4 * v.1 + v.2.1)) (hJ cp (hM m)) := by
  obtain ⟨-, ⟨a1, a2⟩, ⟨a3, a4⟩, -⟩ := h.at hk hj
  unfold F_X12_editionOf
  simp only [m_g25, m_a25, m_g26, m_a26, a1, a2, a3, a4, true_and, idx4]
theorem g_isConstant {j : Nat} {v : ValT} {k : KindT} (h : mVals vs m) (hk : vs.length ≤ 200) (hj : vs[j]? = some v) (h2 : mKinds ks m) (hk2 : ks.length ≤ 16) (hj2 : ks[v.1]? = some k) {Q : Int32 → MH → Prop} : F_X12_isConstant d mo (nI j) (hJ cp (hM m)) u Q ↔ Q (b2i k.1) (hJ cp (hM m)) := by
  obtain ⟨-, ⟨a1, a2⟩, -⟩ := h.at hk hj
  obtain ⟨-, ⟨b1, b2⟩, -⟩ := h2.at hk2 hj2
  unfold F_X12_isConstant
  simp only [m_g25, m_a25, m_g10, m_a10, a1, a2, b1, b2, true_and, nz_b2i]
theorem g_partsOf {j : Nat} {v : ValT} {k : KindT} {t : List ET} (h : mVals vs m) (hk : vs.length ≤ 200) (hj : vs[j]? = some v) (h2 : mKinds ks m) (hk2 : ks.length ≤ 16) (hj2 : ks[v.1]? = some k) (h4 : k.2.2.2.2.length ≤ 4) (he : k.2.2.2.2[v.2.1]? = some t) {Q : Int32 → MH → Prop} : F_X12_partsOf d mo (nI j) (hJ cp (hM m)) u Q ↔ Q (nI t.length) (hJ cp (hM m)) := by
  obtain ⟨-, ⟨b1, b2⟩, -⟩ := h2.ed hk2 hj2 h4 he
  unfold F_X12_partsOf
  simp only [m_g15, m_rcT, g_editionOf h hk hj, m_a15, b1, b2, true_and]
theorem g_laneOf {j i : Nat} {v : ValT} {k : KindT} {t : List ET} {x : ET} (h : mVals vs m) (hk : vs.length ≤ 200) (hj : vs[j]? = some v) (h2 : mKinds ks m) (hk2 : ks.length ≤ 16) (hj2 : ks[v.1]? = some k) (h4 : k.2.2.2.2.length ≤ 4) (he : k.2.2.2.2[v.2.1]? = some t) (ht : t.length ≤ 8) (hx : t[i]? = some x) {Q : Int32 → MH → Prop} : F_X12_laneOf d mo (nI j) (nI i) (hJ cp (hM m)) u Q ↔ Q x.2.1 (hJ cp (hM m)) := by
  obtain ⟨-, -, b3⟩ := h2.ed hk2 hj2 h4 he
  obtain ⟨-, ⟨b1, b2⟩, -⟩ := b3 i x hx ht
  unfold F_X12_laneOf
  simp only [m_g17, m_rcT, g_editionOf h hk hj, m_a17, idx8, b1, b2, true_and]
/-- a value, with its kind and its edition -/
theorem Inv.val (I : Inv rs ks vs tl sc wI wL m) {j : Nat} {v : ValT} (hj : vs[j]? = some v) : ∃ k t, ks[v.1]? = some k ∧ k.2.2.2.2[v.2.1]? = some t ∧ KindOK k vs.length ∧ EdOK k.1 t ∧ ValOK rs ks vs j v := by
  have hv := I.1.2.2.2.1.2 j v hj
  obtain ⟨k, t, h1, h2, -⟩ := id hv
  have hk := I.1.2.1.2 k (List.mem_of_getElem? h1)
  exact ⟨k, t, h1, h2, hk, hk.2.2.2.1 t (List.mem_of_getElem? h2), hv⟩
theorem op_info (I : Inv rs ks vs tl sc wI wL m) (hW : ∀ X, X → W X) {K : Int32 → Int32 → MH → Prop} (hK : KI K) : F_X11_info d br v1 v2 (hX rs ks vs tl sc wI wL m) u (fun a h => W (rc h mo 11 ∧ F_X12_info d2 mo v1 v2 h 0 (fun b h => K a b h))) := by
  have hR := I.1.1.1; have hV := I.1.2.2.2.1.1; have hKd := I.1.2.1.1; have hRm := I.2.1; have hKm := I.2.2.1; have hVm := I.2.2.2.1; have hMm := I.2.2.2.2
  unfold F_X11_info
  simp only [c_rc1, f_findKind hKd, true_and]
  rcases hx : ix v1 ks.length with _ | j
  · simp only [Option.map_none, nl_none]
    refine hW _ ⟨m_rc, ?_⟩
    unfold F_X12_info
    simp only [m_rcT, g_isKind hKd hKm.1, hx, if_b2i, Option.isSome_some, Option.isSome_none, Bool.true_eq_false, Bool.false_eq_true, if_false, if_true, true_and]
    exact hK _ _ _ _ _ _ _ _ _ I
  · obtain ⟨h1, rfl, -, -⟩ := ix_some hx
    obtain ⟨k, hj⟩ := get_lt h1
    obtain ⟨k1, k4, -⟩ := I.1.2.1.2 k (List.mem_of_getElem? hj)
    obtain ⟨t, ht⟩ := get_lt (show k.2.2.2.2.length - 1 < k.2.2.2.2.length by omega)
    obtain ⟨-, ⟨a1, a2⟩, -, ⟨a3, a4⟩, ⟨a5, a6⟩, ⟨a7, a8⟩⟩ := hKm.at hKd hj
    obtain ⟨-, ⟨b1, b2⟩, -⟩ := hKm.ed hKd hj k4 ht
    have tail : ∀ a, (F_X12_info d2 mo (nI j) v2 (hX rs ks vs tl sc wI wL m) 0 (fun b h => K a b h)) ↔ K a (if v2 = 0 then b2i k.1 else if v2 = 1 then nI t.length else if v2 = 2 then nI (k.2.2.2.2.length - 1) else if v2 = 3 then b2i k.2.2.1 else if v2 = 4 then nI k.2.2.2.1 else -2) (hX rs ks vs tl sc wI wL m) := by
      intro a
      unfold F_X12_info
      simp only [m_rcT, g_isKind hKd hKm.1, hx, if_b2i, Option.isSome_some, Option.isSome_none, Bool.true_eq_false, Bool.false_eq_true, if_false, if_true, true_and, m_g10, m_a10, a1, a2, m_g15, g_newestOf hKm hKd hj, m_a15, b1, b2, m_g13, m_a13, a5, a6, m_g12, m_a12, a3, a4, m_g14, m_a14, a7, a8]
      by_cases e0 : v2 = 0
      · simp only [e0, if_true]; cases k.1 <;> simp [b2i]
      · by_cases e1 : v2 = 1
        · simp [e1]
        · by_cases e2 : v2 = 2
          · simp [e2]
          · by_cases e3 : v2 = 3
            · simp only [e3]; cases k.2.2.1 <;> simp [b2i]
            · by_cases e4 : v2 = 4
              · simp [e4]
              · simp [e0, e1, e2, e3, e4]
    simp only [Option.map_some, nl_some, c_g23_1, c_rc23, c_g23_5, c_g23_6, hj, wr_some, f_oneIf, f_newest hj k1 k4, c_g25_4, c_g25_0, ht, true_and]
    by_cases e0 : v2 = 0
    · rw [if_pos e0]; refine hW _ ⟨m_rc, (tail _).mpr ?_⟩; rw [if_pos e0]; exact hK _ _ _ _ _ _ _ _ _ I
    · rw [if_neg e0]
      by_cases e1 : v2 = 1
      · rw [if_pos e1]; refine hW _ ⟨m_rc, (tail _).mpr ?_⟩; rw [if_neg e0, if_pos e1]; exact hK _ _ _ _ _ _ _ _ _ I
      · rw [if_neg e1]
        by_cases e2 : v2 = 2
        · rw [if_pos e2]; refine hW _ ⟨m_rc, (tail _).mpr ?_⟩; rw [if_neg e0, if_neg e1, if_pos e2]; exact hK _ _ _ _ _ _ _ _ _ I
        · rw [if_neg e2]
          by_cases e3 : v2 = 3
          · rw [if_pos e3]; refine hW _ ⟨m_rc, (tail _).mpr ?_⟩; rw [if_neg e0, if_neg e1, if_neg e2, if_pos e3]; exact hK _ _ _ _ _ _ _ _ _ I
          · rw [if_neg e3]
            by_cases e4 : v2 = 4
            · rw [if_pos e4]; refine hW _ ⟨m_rc, (tail _).mpr ?_⟩; rw [if_neg e0, if_neg e1, if_neg e2, if_neg e3, if_pos e4]; exact hK _ _ _ _ _ _ _ _ _ I
            · rw [if_neg e4]; refine hW _ ⟨m_rc, (tail _).mpr ?_⟩; rw [if_neg e0, if_neg e1, if_neg e2, if_neg e3, if_neg e4]; exact hK _ _ _ _ _ _ _ _ _ I
theorem op_of (I : Inv rs ks vs tl sc wI wL m) (hW : ∀ X, X → W X) {K : Int32 → Int32 → MH → Prop} (hK : KI K) : F_X11_of d br v1 v2 (hX rs ks vs tl sc wI wL m) u (fun a h => W (rc h mo 11 ∧ F_X12_of d2 mo v1 v2 h 0 (fun b h => K a b h))) := by
  have hR := I.1.1.1; have hV := I.1.2.2.2.1.1; have hKd := I.1.2.1.1; have hRm := I.2.1; have hKm := I.2.2.1; have hVm := I.2.2.2.1; have hMm := I.2.2.2.2
  unfold F_X11_of
  simp only [c_g1_0, c_rc2, f_findValue hV, ixL_i, true_and]
  rcases hx : ix v1 vs.length with _ | j
  · simp only [Option.map_none, nl_none]
    refine hW _ ⟨m_rc, ?_⟩
    unfold F_X12_of
    simp only [m_rcT, g_isValue hV hVm.1, hx, if_b2i, Option.isSome_some, Option.isSome_none, Bool.true_eq_false, Bool.false_eq_true, if_false, if_true, true_and]
    exact hK _ _ _ _ _ _ _ _ _ I
  · obtain ⟨h1, rfl, -, -⟩ := ix_some hx
    obtain ⟨v, hj⟩ := get_lt h1
    obtain ⟨k, t, hk, ht, -⟩ := I.val hj
    obtain ⟨-, ⟨a1, a2⟩, ⟨a3, a4⟩, ⟨a5, a6⟩, ⟨a7, a8⟩, ⟨a9, a10⟩, ⟨a11, a12⟩, -⟩ := hVm.at hV hj
    have tail : ∀ a, (F_X12_of d2 mo (nI j) v2 (hX rs ks vs tl sc wI wL m) 0 (fun b h => K a b h)) ↔ K a (if v2 = 0 then nI v.1 else if v2 = 1 then nI v.2.1 else if v2 = 2 then nI v.2.2.2.2.1 else if v2 = 3 then nI v.2.2.1 else if v2 = 4 then v.2.2.2.1 else if v2 = 5 then nI v.2.2.2.2.2.1 else -2) (hX rs ks vs tl sc wI wL m) := by
      intro a
      unfold F_X12_of
      simp only [m_rcT, g_isValue hV hVm.1, hx, if_b2i, Option.isSome_some, Option.isSome_none, Bool.true_eq_false, Bool.false_eq_true, if_false, if_true, true_and, m_g25, m_a25, a1, a2, m_g26, m_a26, a3, a4, m_g27, m_a27, a5, a6, m_g28, m_a28, a7, a8, m_g29, m_a29, a9, a10, m_g30, m_a30, a11, a12]
      split <;> first | rfl | skip
      split <;> first | rfl | skip
      split <;> first | rfl | skip
      split <;> first | rfl | skip
      split <;> first | rfl | skip
      split <;> rfl
    simp only [Option.map_some, nl_some, c_g29_1, c_g29_2, c_g29_3, c_g29_4, c_g29_6, c_g29_7, hj, wr_some, c_g23_0, hk, c_g25_0, ht]
    by_cases e0 : v2 = 0
    · rw [if_pos e0]; refine hW _ ⟨m_rc, (tail _).mpr ?_⟩; rw [if_pos e0]; exact hK _ _ _ _ _ _ _ _ _ I
    · rw [if_neg e0]
      by_cases e1 : v2 = 1
      · rw [if_pos e1]; refine hW _ ⟨m_rc, (tail _).mpr ?_⟩; rw [if_neg e0, if_pos e1]; exact hK _ _ _ _ _ _ _ _ _ I
      · rw [if_neg e1]
        by_cases e2 : v2 = 2
        · rw [if_pos e2]; refine hW _ ⟨m_rc, (tail _).mpr ?_⟩; rw [if_neg e0, if_neg e1, if_pos e2]; exact hK _ _ _ _ _ _ _ _ _ I
        · rw [if_neg e2]
          by_cases e3 : v2 = 3
          · rw [if_pos e3]; refine hW _ ⟨m_rc, (tail _).mpr ?_⟩; rw [if_neg e0, if_neg e1, if_neg e2, if_pos e3]; exact hK _ _ _ _ _ _ _ _ _ I
          · rw [if_neg e3]
            by_cases e4 : v2 = 4
            · rw [if_pos e4]; refine hW _ ⟨m_rc, (tail _).mpr ?_⟩; rw [if_neg e0, if_neg e1, if_neg e2, if_neg e3, if_pos e4]; exact hK _ _ _ _ _ _ _ _ _ I
            · rw [if_neg e4]
              by_cases e5 : v2 = 5
              · rw [if_pos e5]; refine hW _ ⟨m_rc, (tail _).mpr ?_⟩; rw [if_neg e0, if_neg e1, if_neg e2, if_neg e3, if_neg e4, if_pos e5]; exact hK _ _ _ _ _ _ _ _ _ I
              · rw [if_neg e5]; refine hW _ ⟨m_rc, (tail _).mpr ?_⟩; rw [if_neg e0, if_neg e1, if_neg e2, if_neg e3, if_neg e4, if_neg e5]; exact hK _ _ _ _ _ _ _ _ _ I
end Ops5
