section OpEd
variable {rs : List RowT} {ks : List KindT} {vs : List ValT} {tl : Nat → Nat → Nat → List Int32} {sc : Nat → Int32} {wI : Nat → List Int32} {wL : Nat → List Int64} {m : MS} {d d2 u : Nat} {v1 v2 v3 v5 v6 : Int32} {v4 : Int64} {W : Prop → Prop}
variable {cp mp h : MH}
def edFit (what w l : Int32) (b : Bool) : Bool := wi what 0 3 && (decide (what = 3) || wi w 1 99) && (decide (what = 1) || decide (what = 3) || b || wi l 0 9)
def edRoom (what : Int32) (n : Nat) (full b : Bool) (nv : Nat) : Bool := decide (n < 4) && (!decide (what = 0) || (!full && (!b || decide (nv < 200))))
theorem wi03 {v : Int32} (h : wi v 0 3 = true) : v = 0 ∨ v = 1 ∨ v = 2 ∨ v = 3 := by
  have e := wi_ix (v := v) (n := 4) (by omega)
  have e2 : wi v 0 (nI 4 - 1) = wi v 0 3 := rfl
  rw [e2, h] at e
  obtain ⟨j, hj⟩ := Option.isSome_iff_exists.mp e.symm
  obtain ⟨h1, rfl, -, -⟩ := ix_some hj
  match j, h1 with
  | 0, _ => exact Or.inl rfl
  | 1, _ => exact Or.inr (Or.inl rfl)
  | 2, _ => exact Or.inr (Or.inr (Or.inl rfl))
  | 3, _ => exact Or.inr (Or.inr (Or.inr rfl))
theorem f_isChange {j : Nat} {k : KindT} (hk : ks[j]? = some k) {what w l : Int32} {Q : Int32 → MH → Prop} : F_X11_isChange d (some (23, j, 0)) what w l (hJ (hC rs ks vs tl sc wI wL) mp) u Q ↔ Q (b2i (edFit what w l k.1)) (hJ (hC rs ks vs tl sc wI wL) mp) := by
  unfold F_X11_isChange edFit
  simp only [f_isWithin, if_b2i, f_isLabel]
  cases h0 : wi what 0 3
  · simp [b2i, nz_0]
  · rcases wi03 h0 with rfl | rfl | rfl | rfl
    · cases h1 : wi w 1 99 <;> cases h2 : k.1 <;> cases h3 : wi l 0 9 <;> simp [F_X11_isChange_23, F_X11_isChange_28, F_X11_isChange_48, F_X11_isChange_53, c_rc23, hk, wr_some, f_takesLane hk, h2, h3, b2i, nz_0, nz_1]
    · cases h1 : wi w 1 99 <;> simp [F_X11_isChange_23, F_X11_isChange_28, F_X11_isChange_48, F_X11_isChange_53, b2i, nz_0, nz_1]
    · cases h1 : wi w 1 99 <;> cases h2 : k.1 <;> cases h3 : wi l 0 9 <;> simp [F_X11_isChange_23, F_X11_isChange_28, F_X11_isChange_48, F_X11_isChange_53, c_rc23, hk, wr_some, f_takesLane hk, h2, h3, b2i, nz_0, nz_1]
    · simp [F_X11_isChange_23, F_X11_isChange_28, F_X11_isChange_48, F_X11_isChange_53, b2i, nz_0, nz_1]
theorem f_roomC {j e : Nat} {k : KindT} {t : List ET} (hk : ks[j]? = some k) (ht : k.2.2.2.2[e]? = some t) (he : e + 1 = k.2.2.2.2.length) (h4 : k.2.2.2.2.length ≤ 4) (h8 : t.length + (tl j e 0).length ≤ 8) (hv : vs.length ≤ 200) {what : Int32} {Q : Int32 → MH → Prop} : F_X11_hasRoomForChange d br (some (23, j, 0)) what (hJ (hC rs ks vs tl sc wI wL) mp) u Q ↔ Q (b2i (edRoom what k.2.2.2.2.length (tl j e 0).isEmpty k.1 vs.length)) (hJ (hC rs ks vs tl sc wI wL) mp) := by
  unfold F_X11_hasRoomForChange edRoom
  simp only [c_rc23, hk, wr_some, true_and, f_roomE hk h4, if_b2i]
  by_cases q : k.2.2.2.2.length < 4
  · simp only [q, decide_true, Bool.true_eq_false, if_false, Bool.true_and]
    by_cases y : what = 0
    · simp only [y, if_true, f_newest hk (by omega) h4, show k.2.2.2.2.length - 1 = e by omega, c_rc25, hk, ht, wr_some, true_and, f_isFull hk ht h8, if_b2i, c_g23_1, c_g1_0, c_rc2, decide_true, Bool.not_true, Bool.false_or]
      have hv1 : F_X7_hasRoomForValues d sto 1 (hJ (hC rs ks vs tl sc wI wL) mp) 0 (fun x6 h => if x6 = 0 then nz 0 ∧ Q 0 h else nz 1 ∧ Q 1 h) ↔ _ := f_roomV (rs := rs) (ks := ks) (tl := tl) (sc := sc) (wI := wI) (wL := wL) (mp := mp) (d := d) (u := 0) (n := 1) (by omega) hv (Q := fun x6 h => if x6 = 0 then nz 0 ∧ Q 0 h else nz 1 ∧ Q 1 h)
      cases hf : (tl j e 0).isEmpty
      · cases hc : k.1
        · simp [b2i, nz_1]
        · simp only [if_true, Bool.true_eq_false, if_false]
          rw [hv1]
          by_cases z : vs.length < 200
          · simp [show vs.length + 1 ≤ 200 by omega, z, b2i, nz_1]
          · simp [show ¬ vs.length + 1 ≤ 200 by omega, z, b2i, nz_0]
      · simp [b2i, nz_0]
    · simp [y, b2i, nz_1]
  · simp [q, b2i, nz_0]
theorem g_edition (I : Inv rs ks vs tl sc wI wL m) {j e : Nat} {k : KindT} {t : List ET} {what w l : Int32} (hk : ks[j]? = some k) (ht : k.2.2.2.2[e]? = some t) (he : e + 1 = k.2.2.2.2.length) {Q : Int32 → MH → Prop} (H : if edFit what w l k.1 = false then Q (-2) (hJ cp (hM m)) else if k.2.2.1 = false ∨ (what = 2 ∧ k.1 = true) then Q (-3) (hJ cp (hM m)) else if what ≠ 3 ∧ ((plc t w = none) ↔ ¬ what = 0) then Q (-3) (hJ cp (hM m)) else if edRoom what k.2.2.2.2.length (decide (t.length = (if k.1 then 8 else 6))) k.1 vs.length = false then Q (-4) (hJ cp (hM m)) else F_X12_edition_195 d mo (nI j) what w l (b2i k.1) (nI (4 * j + e)) (edPl what w t) (hJ cp (hM m)) u Q) : F_X12_edition d mo (nI j) what w l (hJ cp (hM m)) u Q := by
  have hKd := I.1.2.1.1
  have hV := I.1.2.2.2.1.1
  have hKm := I.2.2.1
  have hVm := I.2.2.2.1
  have hj := (List.getElem?_eq_some_iff.mp hk).1
  obtain ⟨k1, k2, k3, k4, k5, k6, k7⟩ := I.1.2.1.2 k (List.mem_of_getElem? hk)
  obtain ⟨ed1, ed2, ed3⟩ := k4 t (List.mem_of_getElem? ht)
  have h8 : t.length ≤ 8 := by split at ed1 <;> omega
  obtain ⟨p1, p2⟩ := pI_m1 (o := plc t w) (fun i hi => by have := plc_lt hi; omega)
  obtain ⟨hj16, ⟨a1, a2⟩, -, ⟨a3, a4⟩, -⟩ := hKm.at hKd hk
  obtain ⟨e64, ⟨g1, g2⟩, -⟩ := hKm.ed hKd hk k2 ht
  obtain ⟨c0, c1, c2, c3, c4, -, -, -, -, -, c10, -⟩ := hKm
  obtain ⟨-, -, -, d4, -⟩ := c10 j k hk
  have hxx : ix (nI j) ks.length = some j := ix_nI hj (by omega)
  have p0 : (0 ≤ pI (plc t w)) ↔ ¬ plc t w = none := by
    cases hp : plc t w with
    | none => simp [pI]
    | some i =>
      have := plc_lt hp
      simp only [reduceCtorEq, not_false_iff, iff_true]
      exact nI_le (a := 0) (Nat.zero_le _) (by omega)
  -- room, and what comes
  have s141 : (if edRoom what k.2.2.2.2.length (decide (t.length = (if k.1 then 8 else 6))) k.1 vs.length = false then Q (-4) (hJ cp (hM m)) else F_X12_edition_195 d mo (nI j) what w l (b2i k.1) (nI (4 * j + e)) (edPl what w t) (hJ cp (hM m)) u Q) → F_X12_edition_141 d mo (nI j) what w l (b2i k.1) (nI (4 * j + e)) (edPl what w t) (hJ cp (hM m)) u Q := by
    intro H9
    unfold F_X12_edition_141
    simp only [m_g13, m_a13, inb_nI (show j < 2 ^ 31 by omega), rdI_nI (show j < 2 ^ 31 by omega), c4, d4]
    refine ⟨by omega, ?_⟩
    unfold edRoom at H9
    by_cases q : k.2.2.2.2.length < 4
    · rw [if_neg (show ¬ nI (k.2.2.2.2.length - 1) = 3 from fun z => by
        have := (nI_eq (a := k.2.2.2.2.length - 1) (b := 3) (by omega) (by omega)).mp z
        omega)]
      simp only [q, decide_true, Bool.true_and] at H9
      by_cases y : what = 0
      · rw [if_pos y]
        simp only [y, decide_true, Bool.not_true, Bool.false_or] at H9
        subst y
        simp only [m_g15, m_a15, g1, g2, true_and]
        have s174 : ∀ c : Nat, c ≤ 8 → c = (if k.1 then 8 else 6) → F_X12_edition_174 d mo (nI j) 0 w l (b2i k.1) (nI (4 * j + e)) (edPl 0 w t) (nI t.length) (nI c) (hJ cp (hM m)) u Q := by
          intro c hc8 hc
          unfold F_X12_edition_174
          rw [← hc] at H9
          by_cases z : t.length = c
          · rw [if_pos (by rw [z])]
            simpa [z] using H9
          · rw [if_neg (fun q => z ((nI_eq (by omega) (by omega)).mp q))]
            simp only [z, decide_false, Bool.not_false, Bool.true_and] at H9
            simp only [if_b2i, m_g24, hVm.1]
            cases hq : k.1
            · rw [hq] at H9
              simpa using H9
            · rw [hq] at H9
              simp only [Bool.not_true, Bool.false_or, decide_eq_false_iff_not] at H9
              simp only [Bool.true_eq_false, if_false]
              by_cases zz : vs.length < 200
              · rw [if_neg (show ¬ nI vs.length = 200 from fun z => by
                  have := (nI_eq (a := vs.length) (b := 200) (by omega) (by omega)).mp z
                  omega)]
                rw [if_neg (fun q => q zz)] at H9
                exact H9
              · rw [if_pos (show nI vs.length = 200 by rw [show vs.length = 200 by omega]; rfl)]
                rw [if_pos zz] at H9
                exact H9
        cases hq : k.1
        · rw [if_pos (show b2i false = 0 from rfl)]
          have := s174 6 (by omega) (by rw [hq]; rfl)
          rw [hq] at this; exact this
        · rw [if_neg (show ¬ b2i true = 0 by decide)]
          have := s174 8 (by omega) (by rw [hq]; rfl)
          rw [hq] at this; exact this
      · rw [if_neg y]
        simpa [y] using H9
    · rw [if_pos (show nI (k.2.2.2.2.length - 1) = 3 by rw [show k.2.2.2.2.length - 1 = 3 by omega]; rfl)]
      simpa [q] using H9
  -- whether it may be
  have s93 : (if k.2.2.1 = false ∨ (what = 2 ∧ k.1 = true) then Q (-3) (hJ cp (hM m)) else if what ≠ 3 ∧ ((plc t w = none) ↔ ¬ what = 0) then Q (-3) (hJ cp (hM m)) else if edRoom what k.2.2.2.2.length (decide (t.length = (if k.1 then 8 else 6))) k.1 vs.length = false then Q (-4) (hJ cp (hM m)) else F_X12_edition_195 d mo (nI j) what w l (b2i k.1) (nI (4 * j + e)) (edPl what w t) (hJ cp (hM m)) u Q) → (what = 0 ∨ what = 1 ∨ what = 2 ∨ what = 3) → F_X12_edition_93 d mo (nI j) what w l (b2i k.1) (nI (4 * j + e)) (edPl what w t) (hJ cp (hM m)) u Q := by
    intro H hw
    unfold F_X12_edition_93
    simp only [m_g12, m_a12, a3, a4, true_and, if_b2i]
    cases hs : k.2.2.1
    · rw [if_pos (Or.inl hs)] at H
      simpa using H
    · rw [hs] at H
      simp only [Bool.true_eq_false, false_or, if_false] at H ⊢
      have s114 : (if what ≠ 3 ∧ ((plc t w = none) ↔ ¬ what = 0) then Q (-3) (hJ cp (hM m)) else if edRoom what k.2.2.2.2.length (decide (t.length = (if k.1 then 8 else 6))) k.1 vs.length = false then Q (-4) (hJ cp (hM m)) else F_X12_edition_195 d mo (nI j) what w l (b2i k.1) (nI (4 * j + e)) (edPl what w t) (hJ cp (hM m)) u Q) → F_X12_edition_114 d mo (nI j) what w l (b2i k.1) (nI (4 * j + e)) (edPl what w t) (hJ cp (hM m)) u Q := by
        intro H
        unfold F_X12_edition_114 F_X12_edition_123 F_X12_edition_133
        rcases hw with rfl | rfl | rfl | rfl
        · rw [if_pos rfl]
          simp only [show edPl 0 w t = pI (plc t w) from if_neg (by decide), p0] at H s141 ⊢
          by_cases hp : plc t w = none
          · rw [if_neg (by simp [hp])] at H
            simp only [hp, not_true_eq_false, if_false, show ¬ (0 : Int32) = 1 by decide, show ¬ (0 : Int32) = 2 by decide]
            rw [hp] at s141 H
            exact s141 H
          · rw [if_pos ⟨by decide, by simp [hp]⟩] at H
            simp only [hp, not_false_iff, if_true]
            exact H
        · simp only [show edPl 1 w t = pI (plc t w) from if_neg (by decide), p0, show ¬ (1 : Int32) = 0 by decide, if_false, if_true] at H s141 ⊢
          by_cases hp : plc t w = none
          · rw [if_pos ⟨by decide, by simp [hp]⟩] at H
            simp only [hp, not_true_eq_false, if_false]
            exact H
          · rw [if_neg (by simp [hp])] at H
            simp only [hp, not_false_iff, if_true]
            exact s141 H
        · simp only [show edPl 2 w t = pI (plc t w) from if_neg (by decide), p0, show ¬ (2 : Int32) = 0 by decide, show ¬ (2 : Int32) = 1 by decide, if_false, if_true] at H s141 ⊢
          by_cases hp : plc t w = none
          · rw [if_pos ⟨by decide, by simp [hp]⟩] at H
            simp only [hp, not_true_eq_false, if_false]
            exact H
          · rw [if_neg (by simp [hp])] at H
            simp only [hp, not_false_iff, if_true]
            exact s141 H
        · simp only [show ¬ (3 : Int32) = 0 by decide, show ¬ (3 : Int32) = 1 by decide, show ¬ (3 : Int32) = 2 by decide, if_false] at H s141 ⊢
          rw [if_neg (fun z => z.1 rfl)] at H
          exact s141 H
      cases hc : k.1
      · simp only [hc, Bool.false_eq_true, and_false, if_false] at H
        rw [if_pos rfl]
        have := s114
        simp only [hc] at this
        exact this H
      · simp only [Bool.true_eq_false, if_false]
        by_cases y : what = 2
        · rw [if_pos y]
          rw [if_pos ⟨y, hc⟩] at H
          exact H
        · rw [if_neg y]
          rw [if_neg (fun z => y z.1)] at H
          have := s114 H
          rw [hc] at this
          exact this
  -- the numbers
  have s70 : (if k.2.2.1 = false ∨ (what = 2 ∧ k.1 = true) then Q (-3) (hJ cp (hM m)) else if what ≠ 3 ∧ ((plc t w = none) ↔ ¬ what = 0) then Q (-3) (hJ cp (hM m)) else if edRoom what k.2.2.2.2.length (decide (t.length = (if k.1 then 8 else 6))) k.1 vs.length = false then Q (-4) (hJ cp (hM m)) else F_X12_edition_195 d mo (nI j) what w l (b2i k.1) (nI (4 * j + e)) (edPl what w t) (hJ cp (hM m)) u Q) → (what = 0 ∨ what = 1 ∨ what = 2 ∨ what = 3) → F_X12_edition_70 d mo (nI j) what w l (b2i k.1) (hJ cp (hM m)) u Q := by
    intro H hw
    have := s93 H hw
    unfold F_X12_edition_70
    refine ⟨m_rc, (g_newestOf I.2.2.1 hKd hk).mpr ?_⟩
    rw [show k.2.2.2.2.length - 1 = e by omega]
    by_cases y : what = 3
    · rw [if_pos y]
      rw [show edPl what w t = -1 from if_pos y] at this
      exact this
    · rw [if_neg y]
      refine ⟨m_rc, g_placeOf I.2.2.1 hKd hk k2 ht h8 ed2 ?_⟩
      rw [show edPl what w t = pI (plc t w) from if_neg y] at this
      exact this
  unfold F_X12_edition
  simp only [m_rcT, true_and, g_isKind hKd c0, hxx, if_b2i, Option.isSome_some, Option.isSome_none, Bool.true_eq_false, Bool.false_eq_true, if_false, if_true, true_and, m_g10, m_a10, a1, a2, f_in]
  cases h0 : wi what 0 3
  · rw [if_pos (by unfold edFit; rw [h0]; rfl)] at H
    simpa using H
  · have hw := wi03 h0
    simp only [Bool.true_eq_false, if_false]
    have s42 : (decide (what = 3) || wi w 1 99) = true → F_X12_edition_42 d mo (nI j) what w l (b2i k.1) (hJ cp (hM m)) u Q := by
      intro hf
      unfold F_X12_edition_42 F_X12_edition_56
      have e1 : edFit what w l k.1 = (decide (what = 1) || decide (what = 3) || k.1 || wi l 0 9) := by unfold edFit; rw [h0, hf]; rfl
      rw [e1] at H
      simp only [if_b2i, f_in]
      cases hc : k.1
      · simp only [if_true]
        rw [hc] at H s70
        rcases hw with rfl | rfl | rfl | rfl
        · cases hl : wi l 0 9
          · simpa [hl] using H
          · simp only [if_true, Bool.true_eq_false, if_false]
            rw [if_neg (by simp [hl])] at H
            exact s70 H (Or.inl rfl)
        · rw [if_neg (by simp)] at H
          simp only [show ¬ (1 : Int32) = 0 by decide, show ¬ (1 : Int32) = 2 by decide, if_false]
          exact s70 H (Or.inr (Or.inl rfl))
        · cases hl : wi l 0 9
          · simpa [hl] using H
          · simp only [if_true, Bool.true_eq_false, show ¬ (2 : Int32) = 0 by decide, if_false]
            rw [if_neg (by simp [hl])] at H
            exact s70 H (Or.inr (Or.inr (Or.inl rfl)))
        · rw [if_neg (by simp)] at H
          simp only [show ¬ (3 : Int32) = 0 by decide, show ¬ (3 : Int32) = 2 by decide, if_false]
          exact s70 H (Or.inr (Or.inr (Or.inr rfl)))
      · simp only [Bool.true_eq_false, if_false]
        rw [if_neg (by simp [hc])] at H
        have := s70 H hw
        rw [hc] at this; exact this
    by_cases y : what = 3
    · rw [if_pos y]
      exact s42 (by simp [y])
    · rw [if_neg y]
      cases hl : wi w 1 99
      · rw [if_pos (by unfold edFit; rw [hl]; simp [y])] at H
        simpa using H
      · simp only [Bool.true_eq_false, if_false]
        exact s42 (by simp [hl])
end OpEd
