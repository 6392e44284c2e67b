section Carry
variable {rs : List RowT} {ks : List KindT} {vs : List ValT} {tl : Nat → Nat → Nat → List Int32} {sc : Nat → Int32} {wI : Nat → List Int32} {wL : Nat → List Int64} {m : MS} {d d2 u : Nat} {v1 v2 v3 v5 v6 : Int32} {v4 : Int64} {W : Prop → Prop}
variable {cp mp h : MH}
def lbT (t : List ET) (q : Nat) : Int32 := (t.getD q (0, 0, 0)).1
theorem lbT_at {t : List ET} {q : Nat} {x : ET} (hx : t[q]? = some x) : lbT t q = x.1 := by simp [lbT, List.getD_eq_getElem?_getD, hx]
def cvF (tv t : List ET) (q : Nat) : Int32 := match plc tv (lbT t q) with
  | none => 0
  | some p => if isW (lnT tv p) (lnT t q) then 0 else 3
def cvV (tv t : List ET) (ps : List Int64) (q : Nat) : Int64 := match plc tv (lbT t q) with
  | none => if wi (lnT t q) 0 7 then 0 else -1
  | some p => wd (lnT tv p) (lnT t q) (ps.getD p 0)
theorem lane_3 {l : Int32} (h : wi l 0 9 = true) : wi l 0 7 = true ∨ l = 8 ∨ l = 9 := by
  obtain ⟨-, l2⟩ := lane_lt8 h
  by_cases hw : wi l 0 7 = true
  · exact Or.inl hw
  · exact Or.inr (l2 hw)
theorem part_fit {i dp : Nat} {l : Int32} {x : Int64} (h : partOK rs vs i l x dp) (hi : i ≤ vs.length) : pfit rs vs l x := by
  obtain ⟨h1, h2, h3⟩ := h
  refine ⟨h1, fun e => ?_, fun e => ?_⟩
  · rcases h2 e with z | ⟨q, v, z1, z2, z3, -⟩
    · exact Or.inl z
    · exact Or.inr ⟨q, by omega, z2⟩
  · rcases h3 e with z | ⟨q, r, z1, z2, -⟩
    · exact Or.inl z
    · exact Or.inr ⟨q, (List.getElem?_eq_some_iff.mp z2).1, z1⟩
theorem wd_fit {a l : Int32} {y : Int64} (ha : wi a 0 9 = true) (hw : isW a l = true) (hf : pfit rs vs a y) : pfit rs vs l (wd a l y) := by
  rcases lane_3 ha with z | rfl | rfl
  · have hl7 := isW_7 hw z
    exact ⟨fun _ => wd_ok z hl7 hw (hf.1 z), fun e => by rw [e] at hl7; exact absurd hl7 (by decide), fun e => by rw [e] at hl7; exact absurd hl7 (by decide)⟩
  · have := isW_8 hw
    subst this
    rw [wd_self]; exact hf
  · have := isW_9 hw
    subst this
    rw [wd_self]; exact hf
theorem c_lab {j e q : Nat} {k : KindT} {t : List ET} (hk : ks[j]? = some k) (ht : k.2.2.2.2[e]? = some t) (hq : q < t.length) (h8 : t.length ≤ 8) {K : Int32 → Prop} (H : K (lbT t q)) : gR (hJ (hC rs ks vs tl sc wI wL) mp) (some (25, j, e)) 2 1 (fun x => aI .int (hJ (hC rs ks vs tl sc wI wL) mp) x (nI q) K) := by
  obtain ⟨x, hx⟩ := get_lt hq
  rw [lbT_at hx] at H
  exact gR_raw (o_25 hk ht) rfl (aI_raw (o_26 hk ht) (by omega) (mapJ_at hx) H)
theorem o_29 {i : Nat} {v : ValT} (hi : vs[i]? = some v) : (hJ (hC rs ks vs tl sc wI wL) mp) (29, i, 0) = some (oVal i v) := by show Option.map _ (vs[i]?) = _; rw [hi]; rfl
theorem o_30 {i : Nat} {v : ValT} (hi : vs[i]? = some v) : (hJ (hC rs ks vs tl sc wI wL) mp) (30, i, 0) = some (oPs v) := by show Option.map _ (vs[i]?) = _; rw [hi]; rfl
theorem f_widenA {a l : Int32} {y : Int64} (ha : wi a 0 9 = true) (hw : isW a l = true) (hf : pfit rs vs a y) {Q : Int64 → MH → Prop} (H : Q (wd a l y) h) : F_X4_widen d a l y h u Q := by
  rcases lane_3 ha with z | rfl | rfl
  · exact f_widen z (isW_7 hw z) hw (hf.1 z) H
  · have := isW_8 hw
    subst this
    unfold F_X4_widen
    rw [if_pos rfl]
    rw [wd_self] at H; exact H
  · have := isW_9 hw
    subst this
    unfold F_X4_widen
    rw [if_pos rfl]
    rw [wd_self] at H; exact H
theorem g_widenA {a l : Int32} {y : Int64} (ha : wi a 0 9 = true) (hw : isW a l = true) (hf : pfit rs vs a y) {Q : Int64 → MH → Prop} (H : Q (wd a l y) h) : F_X12_widened d a l y h u Q := by
  rcases lane_3 ha with z | rfl | rfl
  · exact g_widened z (isW_7 hw z) hw (hf.1 z) H
  · have := isW_8 hw
    subst this
    unfold F_X12_widened
    rw [if_pos rfl]
    rw [wd_self] at H; exact H
  · have := isW_9 hw
    subst this
    unfold F_X12_widened
    rw [if_pos rfl]
    rw [wd_self] at H; exact H
theorem s_takeValue {i e : Nat} {v : ValT} {k : KindT} {t tv : List ET} (hi : vs[i]? = some v) (hk : ks[v.1]? = some k) (ht : k.2.2.2.2[e]? = some t) (htv : k.2.2.2.2[v.2.1]? = some tv) (h6 : t.length ≤ 6) (h6v : tv.length ≤ 6) (hov : ∀ x ∈ tv, wi x.2.1 0 9 = true) (hlen : v.2.2.2.2.2.2.length = tv.length) (hpf : ∀ p, p < tv.length → pfit rs vs (lnT tv p) (v.2.2.2.2.2.2.getD p 0)) (hD : (wL 1).length = 6) {Q : Int32 → MH → Prop} (H : ∀ l1 : List Int64, l1.length = 6 → (firstF (cvF tv t) t.length 0 = 0 → ∀ p, p < t.length → l1.getD p 0 = cvV tv t v.2.2.2.2.2.2 p) → Q (firstF (cvF tv t) t.length 0) (hJ (hC rs ks vs tl sc wI (up wL 1 l1)) mp)) : F_X1_takeValue d (some (8, 0, 0)) (some (29, i, 0)) (some (25, v.1, e)) (hJ (hC rs ks vs tl sc wI wL) mp) u Q := by
  have key : ∀ (r q : Nat) (l1 : List Int64), q + r = t.length → l1.length = 6 → (∀ p, p < q → l1.getD p 0 = cvV tv t v.2.2.2.2.2.2 p) → firstF (cvF tv t) t.length 0 = firstF (cvF tv t) r q → L_X1_takeValue_2 d (some (8, 0, 0)) (some (29, i, 0)) (some (25, v.1, e)) (nI q) (hJ (hC rs ks vs tl sc wI (up wL 1 l1)) mp) u Q := by
    intro r
    induction r with
    | zero =>
      intro q l1 hq hl hp hf
      have : q = t.length := by omega
      subst this
      unfold L_X1_takeValue_2
      refine E_X1_takeValue_2 ?_
      unfold F_X1_takeValue_2
      refine c_cnt hk ht ?_
      rw [if_pos (nI_le (Nat.le_refl _) (by omega))]
      have := H l1 hl (fun _ => hp)
      rw [hf] at this
      exact this
    | succ r ih =>
      intro q l1 hq hl hp hf
      have hq6 : q < 6 := by omega
      rw [firstF_s] at hf
      unfold L_X1_takeValue_2
      refine E_X1_takeValue_2 ?_
      unfold F_X1_takeValue_2
      refine c_cnt hk ht ?_
      rw [if_neg (nI_ge (by omega) (by omega))]
      have next : ∀ y, y = cvV tv t v.2.2.2.2.2.2 q → cvF tv t q = 0 → sV .long (hJ (hC rs ks vs tl sc wI (up wL 1 l1)) mp) (some (9, 0, 0)) (nI q) (jL y) (fun h => L_X1_takeValue_2 d (some (8, 0, 0)) (some (29, i, 0)) (some (25, v.1, e)) (nI q + 1) h u Q) := by
        intro y hy h0
        rw [if_pos h0] at hf
        refine c_s9.mpr ⟨(inb_nI (by omega)).mpr (by rw [up_s]; omega), ?_⟩
        rw [nI_clamp (by omega), up_s, up_u, nI_1]
        refine ih (q + 1) _ (by omega) (by rw [List.length_set]; exact hl) (fun p hp2 => ?_) hf
        rw [lset_getD]
        by_cases z : q = p
        · subst z
          rw [if_pos ⟨rfl, by omega⟩, hy]
        · rw [if_neg (by omega)]
          exact hp p (by omega)
      refine c_L hk ht (by omega) (by omega) (gR_raw (o_29 hi) rfl (c_lab hk ht (by omega) (by omega) ⟨rc_raw (o_25 hk htv), f_find hk htv (by omega) ?_⟩))
      rcases hpl : plc tv (lbT t q) with _ | p
      · rw [if_pos (show pI none = -1 from rfl)]
        have h0 : cvF tv t q = 0 := by unfold cvF; rw [hpl]
        refine c_g8_1.mpr (f_isNumber.mpr ?_)
        unfold F_X1_takeValue_59
        cases hw : wi (lnT t q) 0 7
        · rw [if_pos (show b2i false = 0 from rfl)]
          exact next (-1) (by unfold cvV; rw [hpl, hw]; rfl) h0
        · rw [if_neg (show ¬ b2i true = 0 by decide)]
          exact next 0 (by unfold cvV; rw [hpl, hw]; rfl) h0
      · have hpv := plc_lt hpl
        rw [if_neg (show ¬ pI (some p) = -1 from fun z => by
          have : nI p < 0 := by rw [show nI p = -1 from z]; decide
          exact nI_pos (by omega) this)]
        show gR _ (some (29, i, 0)) 9 2 _
        refine gR_raw (o_29 hi) rfl (c_L hk htv hpv (by omega) (f_isWidened.mpr ?_))
        cases hw : isW (lnT tv p) (lnT t q)
        · rw [if_pos (show b2i false = 0 from rfl)]
          have h3 : cvF tv t q = 3 := by unfold cvF; rw [hpl]; simp [hw]
          rw [if_neg (by rw [h3]; decide), h3] at hf
          have := H l1 hl (fun z => absurd (hf.symm.trans z) (by decide))
          rw [hf] at this
          exact this
        · rw [if_neg (show ¬ b2i true = 0 by decide)]
          have h0 : cvF tv t q = 0 := by unfold cvF; rw [hpl]; simp [hw]
          refine c_g8_1.mpr (gR_raw (o_29 hi) rfl (c_L hk htv hpv (by omega) (gR_raw (o_29 hi) rfl ?_)))
          obtain ⟨y, hy⟩ := get_lt (show p < v.2.2.2.2.2.2.length by omega)
          refine aL_raw (x := v.2.2.2.2.2.2.getD p 0) (o_30 hi) (by omega) (by rw [List.getElem?_map, hy]; simp [List.getD_eq_getElem?_getD, hy]) ?_
          refine f_widenA (lnT_9 hov hpv) hw (hpf p hpv) ?_
          exact next _ (by unfold cvV; rw [hpl]) h0
  have := key t.length 0 (wL 1) (by omega) hD (fun p hp => absurd hp (Nat.not_lt_zero p)) rfl
  rw [up_id] at this
  exact this
theorem g_lab (I : Inv rs ks vs tl sc wI wL m) {j e q : Nat} {k : KindT} {t : List ET} (hk : ks[j]? = some k) (ht : k.2.2.2.2[e]? = some t) (hq : q < t.length) {K : Int32 → Prop} (H : K (lbT t q)) : gR (hJ cp (hM m)) mo 11 16 (fun x => aI .int (hJ cp (hM m)) x (8 * nI (4 * j + e) + nI q) K) := by
  obtain ⟨x, hx⟩ := get_lt hq
  have hKd := I.1.2.1.1
  have hj := (List.getElem?_eq_some_iff.mp hk).1
  have hel := (List.getElem?_eq_some_iff.mp ht).1
  obtain ⟨k1, k2, k3, k4, -⟩ := I.1.2.1.2 k (List.mem_of_getElem? hk)
  have h8 : t.length ≤ 8 := by have := (k4 t (List.mem_of_getElem? ht)).1; split at this <;> omega
  obtain ⟨c0, c1, c2, c3, c4, c5, c6, c7, c8, c9, c10, c11⟩ := I.2.2.1
  obtain ⟨-, -, -, -, -, d6⟩ := c10 j k hk
  obtain ⟨g1, -, -⟩ := (d6 e t ht).2 q x hx
  rw [lbT_at hx] at H
  simp only [m_g16, m_a16, idx8, inb_nI (show 8 * (4 * j + e) + q < 2 ^ 31 by omega), rdI_nI (show 8 * (4 * j + e) + q < 2 ^ 31 by omega), c7, g1]
  exact ⟨by omega, H⟩
theorem g_carry68 (I : Inv rs ks vs tl sc wI wL m) {i e : Nat} {v : ValT} {k : KindT} {t tv : List ET} (hi : vs[i]? = some v) (hk : ks[v.1]? = some k) (ht : k.2.2.2.2[e]? = some t) (htv : k.2.2.2.2[v.2.1]? = some tv) (h6 : t.length ≤ 6) (h6v : tv.length ≤ 6) (ho : ∀ x ∈ t, wi x.2.1 0 9 = true) (hov : ∀ x ∈ tv, wi x.2.1 0 9 = true) (hnd : (tv.map (fun x => x.1)).Nodup) (hlen : v.2.2.2.2.2.2.length = tv.length) (hpf : ∀ p, p < tv.length → pfit rs vs (lnT tv p) (v.2.2.2.2.2.2.getD p 0)) {Q : Int32 → MH → Prop}
    (H1 : ∀ f, firstF (cvF tv t) t.length 0 = f → ¬ f = 0 → ∀ m', Inv rs ks vs tl sc wI wL m' → Q (-10 - f) (hJ cp (hM (mI (mI m' 0 f) 1 (m'.1 1 + 1)))))
    (H2 : firstF (cvF tv t) t.length 0 = 0 → ∀ m', Inv rs ks vs tl sc wI wL m' → (∀ p, p < t.length → (m'.2.2 32).getD p 0 = cvV tv t v.2.2.2.2.2.2 p) → F_X12_finish d mo (nI v.1) (hJ cp (hM m')) 0 (fun x3 h => Q x3 h)) : L_X12_carry_68 d mo (nI i) (nI v.1) (nI (4 * v.1 + e)) 0 (hJ cp (hM m)) u Q := by
  have hV := I.1.2.2.2.1.1
  have hKd := I.1.2.1.1
  have hil := (List.getElem?_eq_some_iff.mp hi).1
  obtain ⟨k1, k2, k3, k4, k5, k6, k7⟩ := I.1.2.1.2 k (List.mem_of_getElem? hk)
  have key : ∀ (r q : Nat) (l : List Int64), q + r = t.length → l.length = 6 → (∀ p, p < q → l.getD p 0 = cvV tv t v.2.2.2.2.2.2 p) → firstF (cvF tv t) t.length 0 = firstF (cvF tv t) r q → L_X12_carry_68 d mo (nI i) (nI v.1) (nI (4 * v.1 + e)) (nI q) (hJ cp (hM (mB m 32 l))) u Q := by
    intro r
    induction r with
    | zero =>
      intro q l hq hl hp hf
      have : q = t.length := by omega
      subst this
      have J := I.scr (scr_P (m := m) hl)
      unfold L_X12_carry_68
      refine E_X12_carry_68 ?_
      unfold F_X12_carry_68
      refine g_cnt J hk ht ?_
      rw [if_pos (nI_le (Nat.le_refl _) (by omega))]
      exact ⟨m_rc, H2 hf _ J (fun p hp2 => by simp only [mA_1, mB_1, mI_1, mI_21, mI_22, mA_21, mA_22, mB_21, mB_22, Nat.reduceEqDiff, Nat.reduceEqDiff, reduceCtorEq, if_false, if_true]; exact hp p hp2)⟩
    | succ r ih =>
      intro q l hq hl hp hf
      have hq6 : q < 6 := by omega
      have J := I.scr (scr_P (m := m) hl)
      rw [firstF_s] at hf
      obtain ⟨l1, l2⟩ := lane_lt8 (lnT_9 ho (show q < t.length by omega))
      have hle : (8 ≤ lnT t q) ↔ ¬ wi (lnT t q) 0 7 = true := by
        rw [← l1]
        rw [Int32.le_iff_toInt_le, Int32.lt_iff_toInt_lt]; omega
      have next : ∀ y, y = cvV tv t v.2.2.2.2.2.2 q → cvF tv t q = 0 → sV .long (hJ cp (hM (mB m 32 l))) (some (41, 32, 0)) (nI q) (jL y) (fun h => L_X12_carry_68 d mo (nI i) (nI v.1) (nI (4 * v.1 + e)) (nI q + 1) h u Q) := by
        intro y hy h0
        rw [if_pos h0] at hf
        refine m_s32.mpr ⟨(inb_nI (by omega)).mpr (by simp only [mA_1, mB_1, mI_1, mI_21, mI_22, mA_21, mA_22, mB_21, mB_22, Nat.reduceEqDiff, Nat.reduceEqDiff, reduceCtorEq, if_false, if_true]; omega), ?_⟩
        rw [nI_clamp (by omega), nI_1, mB_mB]
        simp only [mA_1, mB_1, mI_1, mI_21, mI_22, mA_21, mA_22, mB_21, mB_22, Nat.reduceEqDiff, Nat.reduceEqDiff, reduceCtorEq, if_false, if_true]
        refine ih (q + 1) _ (by omega) (by rw [List.length_set]; exact hl) (fun p hp2 => ?_) hf
        rw [lset_getD]
        by_cases z : q = p
        · subst z
          rw [if_pos ⟨rfl, by omega⟩, hy]
        · rw [if_neg (by omega)]
          exact hp p (by omega)
      unfold L_X12_carry_68
      refine E_X12_carry_68 ?_
      unfold F_X12_carry_68
      refine g_cnt J hk ht ?_
      rw [if_neg (nI_ge (by omega) (by omega))]
      refine g_L J hk ht (by omega) ⟨m_rc, (g_editionOf J.2.2.2.1 hV hi).mpr (g_lab J hk ht (by omega) ⟨m_rc, g_placeOf J.2.2.1 hKd hk k2 htv (by omega) hnd ?_⟩)⟩
      rcases hpl : plc tv (lbT t q) with _ | p
      · rw [if_neg (by decide)]
        have h0 : cvF tv t q = 0 := by unfold cvF; rw [hpl]
        refine m_g32.mpr ?_
        unfold F_X12_carry_141
        cases hw : wi (lnT t q) 0 7
        · rw [if_pos (hle.mpr (by rw [hw]; decide))]
          exact next (-1) (by unfold cvV; rw [hpl, hw]; rfl) h0
        · rw [if_neg (fun z => hle.mp z hw)]
          exact next 0 (by unfold cvV; rw [hpl, hw]; rfl) h0
      · have hpv := plc_lt hpl
        obtain ⟨x, hx⟩ := get_lt hpv
        rw [if_pos (show 0 ≤ pI (some p) from nI_le (a := 0) (Nat.zero_le _) (by omega))]
        refine ⟨m_rc, (g_laneOf J.2.2.2.1 hV hi J.2.2.1 hKd hk k2 htv (by omega) hx).mpr ?_⟩
        rw [← lnT_at hx]
        refine f_widM.mpr ?_
        cases hw : isW (lnT tv p) (lnT t q)
        · rw [if_pos (show b2i false = 0 from rfl)]
          have h3 : cvF tv t q = 3 := by unfold cvF; rw [hpl]; simp [hw]
          rw [if_neg (by rw [h3]; decide), h3] at hf
          exact ⟨m_rc, g_fails.mpr (H1 3 hf (by decide) _ J)⟩
        · rw [if_neg (show ¬ b2i true = 0 by decide)]
          have h0 : cvF tv t q = 0 := by unfold cvF; rw [hpl]; simp [hw]
          obtain ⟨c0, c1, c2, c3, c4, c5, c6, c7, c8, c9, c10⟩ := J.2.2.2.1
          obtain ⟨y, hy⟩ := get_lt (show p < v.2.2.2.2.2.2.length by omega)
          have g7 := (c9 i v hi).2.2.2.2.2.2 p y hy
          refine m_g32.mpr (m_g31.mpr ?_)
          have e6 : (6 : Int32) * nI i + pI (some p) = nI (6 * i + p) := idx6 i p
          rw [e6]
          refine m_a31.mpr ⟨(inb_nI (by omega)).mpr (by omega), ?_⟩
          rw [rdL_nI (by omega), g7, show y = v.2.2.2.2.2.2.getD p 0 by simp [List.getD_eq_getElem?_getD, hy]]
          refine g_widenA (lnT_9 hov hpv) hw (hpf p hpv) ?_
          exact next _ (by unfold cvV; rw [hpl]) h0
  have := key t.length 0 (m.2.2 32) (by omega) I.l32 (fun p hp => absurd hp (Nat.not_lt_zero p)) rfl
  rw [mB_id] at this
  exact this
end Carry
