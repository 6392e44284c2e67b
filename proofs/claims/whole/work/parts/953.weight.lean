section Weight
variable {rs : List RowT} {ks : List KindT} {vs : List ValT} {tl : Nat → Nat → Nat → List Int32} {sc : Nat → Int32} {wI : Nat → List Int32} {wL : Nat → List Int64} {m : MS} {d d2 u : Nat} {v1 v2 v3 v5 v6 : Int32} {v4 : Int64} {W : Prop → Prop}
variable {cp mp h : MH}
def wCon (b : Int32) (man : Nat) (tr : Int32) : Int32 × Int32 := if b = 0 then (nI man + 1, 31 * tr + 3) else if b = 3 then (2 * (nI man + 1) + 7 + 1, 31 * (31 * (31 * tr + 5) + 4) + 3) else (2 * (nI man + 1), 31 * (31 * tr + 4) + 3)
def wLen (rs : List RowT) (x : Int64) : Int32 := match ixL x rs.length with
  | some r => (match rs[r]? with
    | some row => nI row.2.2.length
    | none => 0)
  | none => 0
def wPart (rs : List RowT) (f : Int64 → Int32 → Int32 × Int32) (l : Int32) (x : Int64) (a : Int32 × Int32) : Int32 × Int32 := if l = 8 then (a.1 + (f x a.2).1, (f x a.2).2) else if l = 9 then (a.1 + wLen rs x, a.2) else a
def wSum (rs : List RowT) (f : Int64 → Int32 → Int32 × Int32) (t : List ET) (ps : List Int64) (a : Int32 × Int32) : Nat → Int32 × Int32
  | 0 => a
  | q + 1 => wPart rs f (lnT t q) (ps.getD q 0) (wSum rs f t ps a q)
def wVal (rs : List RowT) (ks : List KindT) (vs : List ValT) : Nat → Int64 → Int32 → Int32 × Int32
  | 0, _, tr => (0, tr)
  | n + 1, x, tr => match ixL x vs.length with
    | none => (0, tr)
    | some i => (match vs[i]? with
      | none => (0, tr)
      | some v => (match ks[v.1]? with
        | none => (0, tr)
        | some k => if k.1 = true then wCon k.2.1 v.2.2.1 tr else (match k.2.2.2.2[v.2.1]? with
          | none => (0, tr)
          | some t => wSum rs (wVal rs ks vs n) t v.2.2.2.2.2.2 (10, 31 * (31 * tr + 1) + 2) t.length)))
theorem wVal_m1 {n : Nat} {tr : Int32} : wVal rs ks vs n (-1) tr = (0, tr) := by
  cases n with
  | zero => rfl
  | succ n => rw [wVal, ixL_m1]
theorem wVal_con {n i : Nat} {v : ValT} {k : KindT} {tr : Int32} (hi : vs[i]? = some v) (hk : ks[v.1]? = some k) (hc : k.1 = true) (hV : vs.length < 2 ^ 31) : wVal rs ks vs (n + 1) (lN i) tr = wCon k.2.1 v.2.2.1 tr := by
  rw [wVal, ixL_lN (List.getElem?_eq_some_iff.mp hi).1 hV]
  simp only [hi, hk]
  rw [if_pos hc]
theorem wVal_rec {n i : Nat} {v : ValT} {k : KindT} {t : List ET} {tr : Int32} (R : RecV rs ks vs i v k t) (hV : vs.length < 2 ^ 31) : wVal rs ks vs (n + 1) (lN i) tr = wSum rs (wVal rs ks vs n) t v.2.2.2.2.2.2 (10, 31 * (31 * tr + 1) + 2) t.length := by
  rw [wVal, ixL_lN (List.getElem?_eq_some_iff.mp R.1).1 hV]
  simp only [R.1, R.2.1, R.2.2.1]
  rw [if_neg (by rw [R.2.2.2.1]; decide)]
theorem wi03b {v : Int32} (h : wi v 0 3 = true) : v = 0 ∨ v = 1 ∨ v = 2 ∨ v = 3 := wi03 h
/-! the class -/
theorem s_weighConstant {i : Nat} {v : ValT} {k : KindT} {tr : Int32} (hi : vs[i]? = some v) (hk : ks[v.1]? = some k) (hb : wi k.2.1 0 3 = true) {Q : Int32 → MH → Prop} (H : Q (wCon k.2.1 v.2.2.1 tr).1 (hJ (hC rs ks vs tl (up sc 2 (wCon k.2.1 v.2.2.1 tr).2) wI wL) mp)) : F_X11_weighConstant d br (some (29, i, 0)) (hJ (hC rs ks vs tl (up sc 2 tr) wI wL) mp) u Q := by
  unfold F_X11_weighConstant F_X11_weighLastBody F_X11_weighSecondBody F_X11_weighFirstBody
  unfold wCon at H
  simp only [c_g29_1, c_g29_3, c_g23_2, hi, hk, wr_some, c_rc1, true_and, f_leaveTrace, up_s, up_u]
  rcases wi03 hb with z | z | z | z
  · rw [z] at H ⊢
    simpa using H
  · rw [z] at H ⊢
    simpa using H
  · rw [z] at H ⊢
    simpa using H
  · rw [z] at H ⊢
    simpa using H
theorem s_weigh (I : Inv rs ks vs tl sc wI wL m) : ∀ n x, tOK vs n x → ∀ (d u : Nat) (tr : Int32) (K : Int32 → MH → Nat → Prop), 2 * n ≤ d → K (wVal rs ks vs n x tr).1 (hJ (hC rs ks vs tl (up sc 2 (wVal rs ks vs n x tr).2) wI wL) mp) u → iI (d + 5) u_X11_weigh [jR br, jR ((ixL x vs.length).map (fun i => (29, i, 0)))] (hJ (hC rs ks vs tl (up sc 2 tr) wI wL) mp) u K := by
  have hV := I.1.2.2.2.1.1
  have hRl := I.1.1.1
  intro n
  induction n with
  | zero =>
    intro x hx d u tr K hd H
    rcases hx with rfl | ⟨i, v, rfl, hi, hdv⟩
    · rw [ixL_m1]
      refine I_X11_weigh 0 (Nat.zero_le _) ?_
      unfold F_X11_weigh
      exact H
    · obtain ⟨k, t, -, -, -, -, v1, -⟩ := I.1.2.2.2.1.2 i v hi
      omega
  | succ n ih =>
    intro x hx d u tr K hd H
    rcases hx with rfl | ⟨i, v, rfl, hi, hdv⟩
    · rw [ixL_m1]
      rw [wVal_m1] at H
      refine I_X11_weigh 0 (Nat.zero_le _) ?_
      unfold F_X11_weigh
      exact H
    · have hil := (List.getElem?_eq_some_iff.mp hi).1
      obtain ⟨k, t, hk, hR⟩ := I.rec hi
      rw [ixL_lN hil (by omega), Option.map_some]
      refine I_X11_weigh 0 (Nat.zero_le _) ?_
      unfold F_X11_weigh
      rw [nl_some]
      refine gR_raw (o_29 hi) rfl (gI_raw (o_23 hk) rfl ?_)
      cases hc : k.1
      · rw [if_pos (show b2i false = 0 from rfl)]
        have R := hR hc
        rw [wVal_rec R (by omega)] at H
        obtain ⟨-, -, ht, -, h4, h6, ho, hlen, hp⟩ := R
        refine ⟨rfl, I_X11_weighRecord (d := d + 2) 0 (Nat.zero_le _) ?_⟩
        unfold F_X11_weighRecord F_X11_weighLent
        simp only [c_rc1, true_and, f_leaveTrace, up_s, up_u]
        have key : ∀ p q : Nat, q + p = t.length → L_X11_weighRecord_12 (d + 2) br (some (29, i, 0)) (wSum rs (wVal rs ks vs n) t v.2.2.2.2.2.2 (10, 31 * (31 * tr + 1) + 2) q).1 (nI q) (hJ (hC rs ks vs tl (up sc 2 (wSum rs (wVal rs ks vs n) t v.2.2.2.2.2.2 (10, 31 * (31 * tr + 1) + 2) q).2) wI wL) mp) 0 (fun x h2 => K x h2 u) := by
          intro p
          induction p with
          | zero =>
            intro q hq
            have : q = t.length := by omega
            subst this
            unfold L_X11_weighRecord_12
            refine E_X11_weighRecord_12 ?_
            unfold F_X11_weighRecord_12
            refine gR_raw (o_29 hi) rfl (aN_raw (o_30 hi) ?_)
            rw [List.length_map, hlen, if_pos (nI_le (Nat.le_refl _) (by omega))]
            exact H
          | succ p ih2 =>
            intro q hq
            have ih3 := ih2 (q + 1) (by omega)
            have hpart := part_aOK (hp q (by omega)) hdv
            obtain ⟨y, hy⟩ := get_lt (show q < v.2.2.2.2.2.2.length by omega)
            have ey : ((v.2.2.2.2.2.2).map jL)[q]? = some (jL (v.2.2.2.2.2.2.getD q 0)) := by rw [List.getElem?_map, hy]; simp [List.getD_eq_getElem?_getD, hy]
            rw [wSum] at ih3
            unfold wPart at ih3
            unfold L_X11_weighRecord_12
            refine E_X11_weighRecord_12 ?_
            unfold F_X11_weighRecord_12
            refine gR_raw (o_29 hi) rfl (aN_raw (o_30 hi) ?_)
            rw [List.length_map, hlen, if_neg (nI_ge (by omega) (by omega))]
            refine gR_raw (o_29 hi) rfl (c_L hk ht (by omega) (by omega) ?_)
            rw [nI_1]
            by_cases l8 : lnT t q = 8
            · rw [if_pos l8] at ih3 ⊢
              refine c_g1_0.mpr (gR_raw (o_29 hi) rfl (aL_raw (o_30 hi) (by omega) ey ⟨rfl, (f_findValue hV).mpr ⟨rfl, ?_⟩⟩))
              obtain ⟨r, rfl⟩ : ∃ r, d = r + 2 := ⟨d - 2, by omega⟩
              exact ih _ (hpart.2.1 l8) r 0 _ _ (by omega) ih3
            · rw [if_neg l8] at ih3 ⊢
              refine gR_raw (o_29 hi) rfl (c_L hk ht (by omega) (by omega) ?_)
              by_cases l9 : lnT t q = 9
              · rw [if_pos l9] at ih3 ⊢
                refine c_g1_0.mpr (gR_raw (o_29 hi) rfl (aL_raw (o_30 hi) (by omega) ey ⟨rfl, (f_findRow hRl).mpr ?_⟩))
                unfold wLen at ih3
                rcases hpart.2.2 l9 with z | ⟨rr, row, z, hrow, -⟩
                · rw [z, ixL_m1] at ih3 ⊢
                  rw [Option.map_none, nl_none]
                  exact ih3
                · have hrl := (List.getElem?_eq_some_iff.mp hrow).1
                  rw [z, ixL_lN hrl (by omega)] at ih3 ⊢
                  simp only [hrow] at ih3
                  rw [Option.map_some, nl_some]
                  refine gR_raw (o_21 hrow) rfl (aN_raw (o_22 hrow) ?_)
                  rw [List.length_map]
                  exact ih3
              · rw [if_neg l9] at ih3 ⊢
                exact ih3
        exact key t.length 0 (by omega)
      · rw [if_neg (show ¬ b2i true = 0 by decide)]
        rw [wVal_con hi hk hc (by omega)] at H
        have hb := (I.1.2.1.2 k (List.mem_of_getElem? hk)).2.2.2.2.2.1
        rw [hc] at hb
        exact ⟨rfl, s_weighConstant hi hk (by simpa using hb) H⟩
/-! the reference -/
theorem Inv.tr (I : Inv rs ks vs tl sc wI wL m) (x : Int32) : Inv rs ks vs tl (up sc 2 x) wI wL (mI m 2 x) := by
  obtain ⟨⟨a1, a2, a3, a4, a5, a6⟩, b1, b2, b3, b4⟩ := I
  refine ⟨⟨a1, a2, a3, a4, ?_, a6⟩, ?_, ?_, ?_, ?_⟩
  · simpa [MiscOK, up] using a5
  · simpa [mRows, mI, up] using b1
  · simpa [mKinds, mI, up] using b2
  · simpa [mVals, mI, up] using b3
  · obtain ⟨c1, c2, c3, c4, c5⟩ := b4
    exact ⟨by simpa [mI, up] using c1, by simpa [mI, up] using c2, by simp [mI, up], by simpa [mI, up] using c4, by simpa [mI, up] using c5⟩
theorem Pil.tr {m0 : MS} {fs : List Fr} {a b : Int32} (h : Pil (mI m0 2 a) m fs) : Pil (mI m0 2 b) (mI m 2 b) fs := by
  obtain ⟨h1, h2, h3, h4, h5⟩ := h
  refine ⟨fun k hk => ?_, h2, h3, by simpa [mI, up] using h4, h5⟩
  simp only [mI_1]
  by_cases k2 : k = 2
  · rw [if_pos k2, if_pos k2]
  · rw [if_neg k2, if_neg k2]
    have := h1 k hk
    rw [mI_1, if_neg k2] at this
    exact this
theorem Pil.t2 {m0 : MS} {fs : List Fr} {a : Int32} (h : Pil (mI m0 2 a) m fs) : m.1 2 = a := by
  rw [h.1 2 (by decide)]; simp [mI, up]
theorem mI_mI {k : Nat} {a b : Int32} : mI (mI m k a) k b = mI m k b := by unfold mI; simp only [up_u]
theorem g_constantWeight (J : Inv rs ks vs tl sc wI wL m) {tr : Int32} (t2 : m.1 2 = tr) {i : Nat} {v : ValT} {k : KindT} (hi : vs[i]? = some v) (hk : ks[v.1]? = some k) (hb : wi k.2.1 0 3 = true) {Q : Int32 → MH → Prop} (H : Q (wCon k.2.1 v.2.2.1 tr).1 (hJ cp (hM (mI m 2 (wCon k.2.1 v.2.2.1 tr).2)))) : F_X12_constantWeight d mo (nI i) (hJ cp (hM m)) u Q := by
  have hV := J.1.2.2.2.1.1
  obtain ⟨-, ⟨a1, a2⟩, -, ⟨b1, b2⟩, -⟩ := J.2.2.2.1.at hV hi
  obtain ⟨-, -, ⟨r1, r2⟩, -⟩ := J.2.2.1.at J.1.2.1.1 hk
  unfold F_X12_constantWeight F_X12_constantWeight_31 F_X12_constantWeight_40
  simp only [m_g11, m_g25, m_a25, a1, a2, m_a11, r1, r2, m_g27, m_a27, b1, b2, true_and, m_rcT, g_traced, t2]
  have e5 : (mI m 2 (31 * tr + 5)).1 2 = 31 * tr + 5 := by simp [mI, up]
  have e54 : (mI m 2 (31 * (31 * tr + 5) + 4)).1 2 = 31 * (31 * tr + 5) + 4 := by simp [mI, up]
  have e4 : (mI m 2 (31 * tr + 4)).1 2 = 31 * tr + 4 := by simp [mI, up]
  unfold wCon at H
  rcases wi03 hb with z | z | z | z
  · rw [z] at H ⊢
    simp only [show ¬ (0 : Int32) = 3 by decide, if_false, show (0 : Int32) ≤ 0 by decide, if_true] at H ⊢
    exact H
  · rw [z] at H ⊢
    simp only [show ¬ (1 : Int32) = 3 by decide, show ¬ (1 : Int32) = 0 by decide, if_false, show ¬ (1 : Int32) ≤ 0 by decide, e4, mI_mI] at H ⊢
    exact H
  · rw [z] at H ⊢
    simp only [show ¬ (2 : Int32) = 3 by decide, show ¬ (2 : Int32) = 0 by decide, if_false, show ¬ (2 : Int32) ≤ 0 by decide, e4, mI_mI] at H ⊢
    exact H
  · rw [z] at H ⊢
    simp only [show ¬ (3 : Int32) = 0 by decide, if_false, show ¬ (3 : Int32) ≤ 0 by decide, if_true, e5, mI_mI, e54] at H ⊢
    rw [show (2 : Int32) * (nI v.2.2.1 + 1) + 8 = 2 * (nI v.2.2.1 + 1) + 7 + 1 by rw [Int32.add_assoc]; rfl]
    exact H
theorem g_recordWeight {m0 : MS} (I : Inv rs ks vs tl sc wI wL m0) {tr : Int32} {fs : List Fr} (hp : Pil (mI m0 2 tr) m fs) (h12 : fs.length < 12) {i : Nat} {v : ValT} (hi : vs[i]? = some v) {Q : Int32 → MH → Prop} (H : ∀ m', Pil (mI m0 2 (31 * (31 * tr + 1) + 2)) m' (fs ++ [(nI i, nI i, 0, -1, nI v.1, 1)]) → Q 10 (hJ cp (hM m'))) : F_X12_recordWeight d mo (nI i) (hJ cp (hM m)) u Q := by
  have t2 := hp.t2
  unfold F_X12_recordWeight
  simp only [m_rcT, true_and, g_traced, t2]
  have e1 : (mI m 2 (31 * tr + 1)).1 2 = 31 * tr + 1 := by simp [mI, up]
  rw [e1]
  exact g_push (I.tr (31 * (31 * tr + 1) + 2)) (Pil.tr (Pil.tr (b := 31 * tr + 1) hp)) h12 hi H
def rWeight (rs : List RowT) (ks : List KindT) (vs : List ValT) (m0 : MS) (d : Nat) (cp : MH) (u : Nat) (Q : Int32 → MH → Prop) (n : Nat) : Prop := ∀ (i : Nat) (v : ValT) (k : KindT) (t : List ET), RecV rs ks vs i v k t → v.2.2.2.2.2.1 ≤ n + 1 → ∀ (fs : List Fr) (m : MS) (A tr b s r : Int32), Pil (mI m0 2 tr) m (fs ++ [(nI i, b, 0, -1, s, r)]) → fs.length + 1 + n ≤ 12 → (∀ m', Pil (mI m0 2 (wSum rs (wVal rs ks vs n) t v.2.2.2.2.2.2 (10, tr) t.length).2) m' fs → L_X12_weight_35 d mo (A + (wSum rs (wVal rs ks vs n) t v.2.2.2.2.2.2 (10, tr) t.length).1) (hJ cp (hM m')) u Q) → L_X12_weight_35 d mo (A + 10) (hJ cp (hM m)) u Q
theorem r_weightS {m0 : MS} (I : Inv rs ks vs tl sc wI wL m0) {Q : Int32 → MH → Prop} {n : Nat} (IH : ∀ n', n = n' + 1 → rWeight rs ks vs m0 d cp u Q n') : rWeight rs ks vs m0 d cp u Q n := by
    have hV := I.1.2.2.2.1.1
    have hRl := I.1.1.1
    intro i v k t R hd fs m A tr b s r hp hn H
    have h6 := R.2.2.2.2.2.1
    have ho := R.2.2.2.2.2.2.1
    have h12 : fs.length < 12 := by omega
    have key : ∀ (p q : Nat) (m : MS), q + p = t.length → Pil (mI m0 2 (wSum rs (wVal rs ks vs n) t v.2.2.2.2.2.2 (10, tr) q).2) m (fs ++ [(nI i, b, nI q, -1, s, r)]) → L_X12_weight_35 d mo (A + (wSum rs (wVal rs ks vs n) t v.2.2.2.2.2.2 (10, tr) q).1) (hJ cp (hM m)) u Q := by
      intro p
      induction p with
      | zero =>
        intro q m hq hp
        have : q = t.length := by omega
        subst this
        have J := (I.tr _).pil hp
        obtain ⟨⟨a1, a2⟩, -, ⟨c1, c2⟩, -, -, -, g1, g2⟩ := hp.at h12
        unfold L_X12_weight_35
        refine E_X12_weight_35 ?_
        unfold F_X12_weight_35
        simp only [m_g35, g2, pm1, m_g38, m_a38, c1, c2, m_g36, m_a36, a1, a2, true_and, m_rcT, R.partsOf J, m_p35]
        rw [if_neg (show ¬ nI (fs.length + 1) ≤ (0 : Int32) from nI_ge (a := 0) (by omega) (by omega)), if_pos trivial]
        exact H _ hp.pop
      | succ p ih =>
        intro q m hq hp
        have J := (I.tr _).pil hp
        obtain ⟨⟨a1, a2⟩, -, ⟨c1, c2⟩, -, -, -, g1, g2⟩ := hp.at h12
        have hpart := part_aOK (R.2.2.2.2.2.2.2.2 q (by omega)) hd
        unfold L_X12_weight_35
        refine E_X12_weight_35 ?_
        unfold F_X12_weight_35
        simp only [m_g35, g2, pm1, m_g38, m_a38, c1, c2, m_g36, m_a36, a1, a2, true_and, m_rcT, R.partsOf J]
        rw [if_neg (show ¬ nI (fs.length + 1) ≤ (0 : Int32) from nI_ge (a := 0) (by omega) (by omega)), if_neg (fun z => by have := (nI_eq (by omega) (by omega)).mp z; omega)]
        refine m_s38.mpr ⟨c1, ?_⟩
        rw [nI_clamp (by omega), nI_1]
        have hp2 := hp.set h12 (k := 38) (x := nI (q + 1)) (Or.inr (Or.inr (Or.inl ⟨rfl, rfl⟩)))
        have J2 := (I.tr _).pil hp2
        obtain ⟨⟨a3, a4⟩, -, -, -, -, -, -, -⟩ := hp2.at h12
        obtain ⟨p1, p2⟩ := R.p31 J2 (show q < t.length by omega)
        simp only [m_g31, m_g36, m_a36, a3, a4, true_and, m_a31, p1, p2, m_rcT, R.laneOf J2 (show q < t.length by omega)]
        have ih2 := fun m' => ih (q + 1) m' (by omega)
        rw [wSum] at ih2
        unfold wPart at ih2
        by_cases l9 : lnT t q = 9
        · rw [if_pos l9]
          simp only [if_neg (show ¬ lnT t q = 8 by rw [l9]; decide), if_pos l9] at ih2
          unfold wLen at ih2
          rcases hpart.2.2 l9 with z | ⟨rr, row, z, hrow, -⟩
          · rw [z]
            rw [z, ixL_m1] at ih2
            rw [if_neg (by decide)]
            have := ih2 _ hp2
            simpa using this
          · have hrl := (List.getElem?_eq_some_iff.mp hrow).1
            rw [z, ixL_lN hrl (by omega)] at ih2
            simp only [hrow] at ih2
            rw [z, lN_32 (by omega), if_pos (show (0 : Int32) ≤ nI rr from nI_le (a := 0) (Nat.zero_le _) (by omega))]
            obtain ⟨-, -, ⟨ra3, ra4⟩, -⟩ := J2.2.1.at hRl hrow
            simp only [m_g5, m_a5, ra3, ra4, true_and]
            rw [Int32.add_assoc]
            exact ih2 _ hp2
        · rw [if_neg l9]
          by_cases l8 : lnT t q = 8
          · rw [if_pos l8]
            simp only [if_pos l8] at ih2
            rcases hpart.2.1 l8 with z | ⟨i2, v2, z, hi2, hd2⟩
            · rw [z]
              rw [z, wVal_m1] at ih2
              rw [if_pos (by decide)]
              have := ih2 _ hp2
              simpa using this
            · have hil2 := (List.getElem?_eq_some_iff.mp hi2).1
              obtain ⟨k2, t2, hk2, hR2⟩ := I.rec hi2
              obtain ⟨_, _, -, -, -, -, dv1, -⟩ := I.1.2.2.2.1.2 i2 v2 hi2
              obtain ⟨n', rfl⟩ : ∃ n', n = n' + 1 := ⟨n - 1, by omega⟩
              rw [z, lN_32 (by omega), if_neg (nI_pos (by omega))]
              refine (RecV.isC hi2 hk2 J2).mpr ?_
              rw [z] at ih2
              cases hc2 : k2.1
              · rw [if_pos (show b2i false = 0 from rfl)]
                rw [wVal_rec (hR2 hc2) (by omega)] at ih2
                refine ⟨m_rc, g_recordWeight I hp2 (by simp; omega) hi2 (fun m' hm' => ?_)⟩
                refine IH n' rfl i2 v2 k2 t2 (hR2 hc2) hd2 _ m' _ _ (nI i2) _ _ hm' (by simp; omega) (fun m3 hm3 => ?_)
                rw [Int32.add_assoc]
                exact ih2 _ hm3
              · rw [if_neg (show ¬ b2i true = 0 by decide)]
                rw [wVal_con hi2 hk2 hc2 (by omega)] at ih2
                have hb := (I.1.2.1.2 k2 (List.mem_of_getElem? hk2)).2.2.2.2.2.1
                rw [hc2] at hb
                refine ⟨m_rc, g_constantWeight J2 hp2.t2 hi2 hk2 (by simpa using hb) ?_⟩
                rw [Int32.add_assoc]
                exact ih2 _ hp2.tr
          · rw [if_neg l8]
            simp only [if_neg l8, if_neg l9] at ih2
            exact ih2 _ hp2
    exact key t.length 0 m (by omega) hp
theorem r_weight {m0 : MS} (I : Inv rs ks vs tl sc wI wL m0) {Q : Int32 → MH → Prop} : ∀ n, rWeight rs ks vs m0 d cp u Q n
  | 0 => r_weightS I (fun n' h => by omega)
  | n + 1 => r_weightS I (fun n' h => by
    have : n' = n := by omega
    subst this
    exact r_weight I n')
theorem op_weight (I : Inv rs ks vs tl sc wI wL m) (hW : ∀ X, X → W X) {K : Int32 → Int32 → MH → Prop} (hK : KI K) : F_X11_weight (d + 25) br v1 (hX rs ks vs tl sc wI wL m) u (fun a h => W (rc h mo 11 ∧ F_X12_weight d2 mo v1 h 0 (fun b h => K a b h))) := by
  have hR := I.1.1.1; have hV := I.1.2.2.2.1.1; have hKd := I.1.2.1.1; have hRm := I.2.1; have hKm := I.2.2.1; have hVm := I.2.2.2.1; have hMm := I.2.2.2.2
  unfold F_X11_weight
  simp only [c_g1_0, c_rc2, true_and, f_findValue hV, ixL_i]
  rcases hx : ix v1 vs.length with _ | i
  · simp only [Option.map_none, nl_none]
    refine hW _ ⟨m_rc, ?_⟩
    unfold F_X12_weight
    simp only [m_rcT, g_isValue hV hVm.1, hx, if_b2i, Option.isSome_some, Option.isSome_none, Bool.true_eq_false, Bool.false_eq_true, if_false, if_true, true_and]
    exact hK _ _ _ _ _ _ _ _ _ I
  obtain ⟨h1, rfl, -, -⟩ := ix_some hx
  obtain ⟨v, hi⟩ := get_lt h1
  obtain ⟨k, t, hk, hRR⟩ := I.rec hi
  obtain ⟨_, _, -, -, -, -, dv1, dv2, -⟩ := I.1.2.2.2.1.2 i v hi
  simp only [Option.map_some, nl_some]
  refine ⟨rfl, ?_⟩
  have hs := s_weigh (mp := hM m) I 8 (lN i) (Or.inr ⟨i, v, rfl, hi, dv2⟩) (d + 20) u (sc 2) (fun x4 h u => (fun a h => W (rc h mo 11 ∧ F_X12_weight d2 mo (nI i) h 0 (fun b h => K a b h))) x4 h) (by omega)
  rw [ixL_lN h1 (by omega), up_id] at hs
  refine hs ?_
  refine hW _ ⟨m_rc, ?_⟩
  have t2 : m.1 2 = sc 2 := hMm.2.2.1
  have eid : mI m 2 (sc 2) = m := by unfold mI; rw [← t2, up_id]
  unfold F_X12_weight
  simp only [m_rcT, g_isValue hV hVm.1, hx, if_b2i, Option.isSome_some, Option.isSome_none, Bool.true_eq_false, Bool.false_eq_true, if_false, if_true, true_and, RecV.isC hi hk I]
  cases hc : k.1
  · simp only [if_true, m_p35]
    have hp0 : Pil (mI m 2 (sc 2)) (mI m 35 0) [] := by rw [eid]; exact I.pil0
    refine ⟨m_rc, g_recordWeight I hp0 (by simp) hi (fun m' hm' => ?_)⟩
    have hw := wVal_rec (n := 7) (tr := sc 2) (hRR hc) (show vs.length < 2 ^ 31 by omega)
    have := r_weight (d := d2) (cp := hC rs ks vs tl (up sc 2 (wVal rs ks vs 8 (lN i) (sc 2)).2) wI wL) (u := 0) (Q := fun b h => K (wVal rs ks vs 8 (lN i) (sc 2)).1 b h) I 7 i v k t (hRR hc) dv2 [] m' 0 _ (nI i) _ _ hm' (by simp) (fun m2 hm2 => ?_)
    · simpa using this
    · unfold L_X12_weight_35
      refine E_X12_weight_35 ?_
      unfold F_X12_weight_35
      simp only [m_g35, hm2.len]
      rw [if_pos (by decide), Int32.zero_add, ← hw]
      rw [← hw] at hm2
      exact hK _ _ _ _ _ _ _ _ _ ((I.tr _).pil hm2)
  · simp only [Bool.true_eq_false, if_false]
    have hb := (I.1.2.1.2 k (List.mem_of_getElem? hk)).2.2.2.2.2.1
    rw [hc] at hb
    rw [wVal_con hi hk hc (by omega)]
    refine g_constantWeight I t2 hi hk (by simpa using hb) ?_
    exact hK _ _ _ _ _ _ _ _ _ (I.tr _)
end Weight
