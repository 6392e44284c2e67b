section Fin2
variable {rs : List RowT} {ks : List KindT} {vs : List ValT} {tl : Nat → Nat → Nat → List Int32} {sc : Nat → Int32} {wI : Nat → List Int32} {wL : Nat → List Int64} {m : MS} {d d2 u : Nat} {v1 v2 v3 v5 v6 : Int32} {v4 : Int64} {W : Prop → Prop}
variable {cp mp h : MH}
theorem nI_64 {n : Nat} (h : n < 2 ^ 31) : (nI n).toInt64 = lN n := by
  rw [← Int64.toInt_inj, Int32.toInt_toInt64, nI_toInt h, lN_toInt h]
/-! size and depth -/
def accT (vs : List ValT) (a : Nat × Nat) (x : Int64) : Nat × Nat := match ixL x vs.length with
  | some v => (match vs[v]? with
    | some w => (a.1 + w.2.2.2.2.1, max a.2 w.2.2.2.2.2.1)
    | none => a)
  | none => a
def accQ (rs : List RowT) (vs : List ValT) (l : Int32) (x : Int64) (a : Nat × Nat) : Nat × Nat := if l = 8 then accT vs a x else if l = 9 then (match ixL x rs.length with
  | some r => (match rs[r]? with
    | some row => if row.1 = 8 then row.2.2.foldl (accT vs) a else a
    | none => a)
  | none => a) else a
def accP (rs : List RowT) (vs : List ValT) (L : Nat → Int32) (P : Nat → Int64) : Nat → Nat × Nat
  | 0 => (1, 0)
  | q + 1 => accQ rs vs (L q) (P q) (accP rs vs L P q)
def vDeep (vs : List ValT) : Prop := ∀ (v : ValT), v ∈ vs → v.2.2.2.2.2.1 ≤ 8 ∧ v.2.2.2.2.1 ≤ 300
theorem accT_le {a : Nat × Nat} {x : Int64} {b : Nat} (hd : vDeep vs) (h1 : a.1 ≤ b) (h2 : a.2 ≤ 8) : (accT vs a x).1 ≤ b + 300 ∧ (accT vs a x).2 ≤ 8 := by
  unfold accT
  rcases hx : ixL x vs.length with _ | v
  · exact ⟨by simp only; omega, h2⟩
  · obtain ⟨w, hw⟩ := get_lt (ixL_some hx).1
    have := hd w (List.mem_of_getElem? hw)
    simp only [hw]
    exact ⟨by omega, by omega⟩
theorem accF_le (hd : vDeep vs) : ∀ (l : List Int64) (a : Nat × Nat) (b : Nat), a.1 ≤ b → a.2 ≤ 8 → (l.foldl (accT vs) a).1 ≤ b + 300 * l.length ∧ (l.foldl (accT vs) a).2 ≤ 8
  | [], a, b, h1, h2 => ⟨by simpa using h1, h2⟩
  | x :: l, a, b, h1, h2 => by
    obtain ⟨q1, q2⟩ := accT_le (x := x) hd h1 h2
    have := accF_le hd l (accT vs a x) (b + 300) q1 q2
    simp only [List.foldl_cons, List.length_cons]
    exact ⟨by omega, this.2⟩
theorem accQ_le {l : Int32} {x : Int64} {a : Nat × Nat} {b : Nat} (hd : vDeep vs) (hr : ∀ r ∈ rs, r.2.2.length ≤ 20) (h1 : a.1 ≤ b) (h2 : a.2 ≤ 8) : (accQ rs vs l x a).1 ≤ b + 6000 ∧ (accQ rs vs l x a).2 ≤ 8 := by
  unfold accQ
  by_cases l8 : l = 8
  · rw [if_pos l8]
    have := accT_le (x := x) hd h1 h2
    exact ⟨by omega, this.2⟩
  · rw [if_neg l8]
    by_cases l9 : l = 9
    · rw [if_pos l9]
      rcases hx : ixL x rs.length with _ | r
      · exact ⟨by simp only; omega, h2⟩
      · obtain ⟨row, hw⟩ := get_lt (ixL_some hx).1
        have := hr row (List.mem_of_getElem? hw)
        simp only [hw]
        by_cases r8 : row.1 = 8
        · rw [if_pos r8]
          have := accF_le hd row.2.2 a b h1 h2
          exact ⟨by omega, this.2⟩
        · rw [if_neg r8]
          exact ⟨by omega, h2⟩
    · rw [if_neg l9]
      exact ⟨by omega, h2⟩
theorem accP_le {L : Nat → Int32} {P : Nat → Int64} (hd : vDeep vs) (hr : ∀ r ∈ rs, r.2.2.length ≤ 20) : ∀ q, (accP rs vs L P q).1 ≤ 1 + 6000 * q ∧ (accP rs vs L P q).2 ≤ 8
  | 0 => ⟨Nat.le_refl _, Nat.zero_le _⟩
  | q + 1 => by
    obtain ⟨h1, h2⟩ := accP_le (L := L) (P := P) hd hr q
    have := accQ_le (l := L q) (x := P q) hd hr h1 h2
    exact ⟨by show (accQ rs vs (L q) (P q) (accP rs vs L P q)).1 ≤ _; omega, this.2⟩
def scM (sc : Nat → Int32) (a : Nat × Nat) : Nat → Int32 := up (up sc 5 (nI a.1)) 6 (nI (a.2 + 1))
theorem f_measureThing {a : Nat × Nat} {x : Int64} (hV : vs.length ≤ 200) (hd : vDeep vs) (ha : a.2 ≤ 8) {Q : MH → Prop} (H : Q (hJ (hC rs ks vs tl (scM sc (accT vs a x)) wI wL) mp)) : F_X1_measureThing d (some (8, 0, 0)) x (hJ (hC rs ks vs tl (scM sc a) wI wL) mp) u Q := by
  unfold F_X1_measureThing
  simp only [c_g8_0, c_rc2, true_and, f_findValue hV]
  unfold accT at H
  rcases hx : ixL x vs.length with _ | v
  · simp only [Option.map_none, nl_none]
    rw [hx] at H
    exact H
  · obtain ⟨w, hw⟩ := get_lt (ixL_some hx).1
    have hw8 := (hd w (List.mem_of_getElem? hw)).1
    rw [hx] at H
    simp only [hw] at H
    simp only [Option.map_some, nl_some, c_g8_2, c_g29_6, hw, wr_some, c_p8_2, c_g8_3, c_g29_7, c_p8_3, F_J9_max_7cf53]
    have e5 : scM sc a 5 = nI a.1 := by simp [scM, up]
    have e6 : up (scM sc a) 5 (scM sc a 5 + nI w.2.2.2.2.1) 6 = nI (a.2 + 1) := by simp [scM, up]
    rw [e6, e5, nI_add, nI_1]
    have e7 : ∀ z : Int32, up (up (scM sc a) 5 (nI (a.1 + w.2.2.2.2.1))) 6 z = up (up sc 5 (nI (a.1 + w.2.2.2.2.1))) 6 z := by
      intro z
      funext k
      simp only [scM, up_if]
      by_cases k6 : k = 6
      · simp [k6]
      · by_cases k5 : k = 5
        · simp [k5]
        · simp [k6, k5]
    by_cases q : a.2 < w.2.2.2.2.2.1
    · rw [if_pos (nI_lt (by omega) (by omega)), e7]
      unfold scM at H
      rw [show max a.2 w.2.2.2.2.2.1 = w.2.2.2.2.2.1 by omega] at H
      exact H
    · rw [if_neg (nI_nlt (by omega) (by omega)), e7]
      unfold scM at H
      rw [show max a.2 w.2.2.2.2.2.1 = a.2 by omega] at H
      exact H
theorem s_measure64 {j e q rr : Nat} {row : RowT} {a : Nat × Nat} (hV : vs.length ≤ 200) (hd : vDeep vs) (ha : a.2 ≤ 8) (hr : rs[rr]? = some row) (h20 : row.2.2.length ≤ 20) {Q : MH → Prop} (H : L_X1_measure_12 d (some (8, 0, 0)) (some (25, j, e)) (nI q + 1) (hJ (hC rs ks vs tl (scM sc (row.2.2.foldl (accT vs) a)) wI wL) mp) u Q) : ∀ n i : Nat, i + n = row.2.2.length → L_X1_measure_64 d (some (8, 0, 0)) (some (25, j, e)) (nI q) (some (21, rr, 0)) (nI i) (hJ (hC rs ks vs tl (scM sc ((row.2.2.take i).foldl (accT vs) a)) wI wL) mp) u Q := by
  intro n
  induction n with
  | zero =>
    intro i hi
    unfold L_X1_measure_64
    refine E_X1_measure_64 ?_
    unfold F_X1_measure_64
    refine gR_raw (o_21 hr) rfl (aN_raw (o_22 hr) ?_)
    rw [List.length_map, if_pos (nI_le (by omega) (by omega)), List.take_of_length_le (by omega)]
    exact H
  | succ n ih =>
    intro i hi
    obtain ⟨y, hy⟩ := get_lt (show i < row.2.2.length by omega)
    unfold L_X1_measure_64
    refine E_X1_measure_64 ?_
    unfold F_X1_measure_64
    refine gR_raw (o_21 hr) rfl (aN_raw (o_22 hr) ?_)
    rw [List.length_map, if_neg (nI_ge (by omega) (by omega))]
    refine gR_raw (o_21 hr) rfl (aL_raw (x := y) (o_22 hr) (by omega) (by rw [List.getElem?_map, hy]; rfl) ⟨rfl, ?_⟩)
    refine f_measureThing hV hd (accF_le hd _ a a.1 (Nat.le_refl _) ha).2 ?_
    have := ih (i + 1) (by omega)
    rw [take_s hy, List.foldl_append] at this
    rw [nI_1]
    exact this
theorem s_measure {j e : Nat} {k : KindT} {t : List ET} (hR : rs.length ≤ 60) (hr20 : ∀ r ∈ rs, r.2.2.length ≤ 20) (hV : vs.length ≤ 200) (hd : vDeep vs) (hk : ks[j]? = some k) (ht : k.2.2.2.2[e]? = some t) (h6 : t.length ≤ 6) (hD : (wL 1).length = 6) {Q : MH → Prop} (H : Q (hJ (hC rs ks vs tl (scM sc (accP rs vs (lnT t) (fun q => (wL 1).getD q 0) t.length)) wI wL) mp)) : F_X1_measure d (some (8, 0, 0)) (some (25, j, e)) (hJ (hC rs ks vs tl sc wI wL) mp) u Q := by
  have key : ∀ r q : Nat, q + r = t.length → L_X1_measure_12 d (some (8, 0, 0)) (some (25, j, e)) (nI q) (hJ (hC rs ks vs tl (scM sc (accP rs vs (lnT t) (fun q => (wL 1).getD q 0) q)) wI wL) mp) u Q := by
    intro r
    induction r with
    | zero =>
      intro q hq
      have : q = t.length := by omega
      subst this
      unfold L_X1_measure_12
      refine E_X1_measure_12 ?_
      unfold F_X1_measure_12
      refine c_cnt hk ht ?_
      rw [if_pos (nI_le (Nat.le_refl _) (by omega))]
      exact H
    | succ r ih =>
      intro q hq
      have ih2 := ih (q + 1) (by omega)
      obtain ⟨b1, b2⟩ := accP_le (L := lnT t) (P := fun q => (wL 1).getD q 0) hd hr20 q
      rw [accP] at ih2
      unfold accQ at ih2
      unfold L_X1_measure_12
      refine E_X1_measure_12 ?_
      unfold F_X1_measure_12
      refine c_cnt hk ht ?_
      rw [if_neg (nI_ge (by omega) (by omega))]
      refine c_L hk ht (by omega) (by omega) ?_
      by_cases l8 : lnT t q = 8
      · rw [if_pos l8] at ih2 ⊢
        refine (c_g8_1).mpr (c_P (by omega) hD ⟨rfl, f_measureThing hV hd b2 ?_⟩)
        unfold F_X1_measure_41
        refine ⟨rfl, f_rowOf hR hk ht h6 hD (by omega) ?_⟩
        unfold rwo
        rw [if_neg (by rw [l8]; decide), nl_none, nI_1]
        exact ih2
      · rw [if_neg l8] at ih2 ⊢
        unfold F_X1_measure_41
        refine ⟨rfl, f_rowOf hR hk ht h6 hD (by omega) ?_⟩
        unfold rwo
        by_cases l9 : lnT t q = 9
        · rw [if_pos l9] at ih2 ⊢
          rcases hx : ixL ((wL 1).getD q 0) rs.length with _ | rr
          · rw [hx] at ih2
            rw [Option.map_none, nl_none, nI_1]
            exact ih2
          · obtain ⟨row, hrow⟩ := get_lt (ixL_some hx).1
            rw [hx] at ih2
            simp only [hrow] at ih2
            rw [Option.map_some, nl_some]
            refine gI_raw (o_21 hrow) rfl ?_
            by_cases r8 : row.1 = 8
            · rw [if_pos r8] at ih2 ⊢
              have := s_measure64 (d := d) (u := u) (rs := rs) (ks := ks) (tl := tl) (sc := sc) (wI := wI) (wL := wL) (mp := mp) (j := j) (e := e) (q := q) (a := accP rs vs (lnT t) (fun q => (wL 1).getD q 0) q) (Q := Q) hV hd b2 hrow (hr20 row (List.mem_of_getElem? hrow)) (by rw [nI_1]; exact ih2) row.2.2.length 0 (by omega)
              exact this
            · rw [if_neg r8] at ih2 ⊢
              rw [nI_1]
              exact ih2
        · rw [if_neg l9] at ih2 ⊢
          rw [nl_none, nI_1]
          exact ih2
  unfold F_X1_measure
  simp only [c_p8_2, c_p8_3]
  exact key t.length 0 (by omega)
/-! rows that come in -/
def rsN (rs : List RowT) (rule : Int32) (L : Nat → Int32) (P : Nat → Int64) : Nat → List RowT
  | 0 => rs
  | q + 1 => match twn rs rule (L q) (P q) with
    | some z => rsN rs rule L P q ++ [(z.2.1, decide (z.2.1 = 8), z.2.2.2)]
    | none => rsN rs rule L P q
def pN (rs : List RowT) (rule : Int32) (L : Nat → Int32) (P : Nat → Int64) (q : Nat) : Int64 := match twn rs rule (L q) (P q) with
  | some _ => lN (rsN rs rule L P q).length
  | none => P q
theorem rsN_len {rule : Int32} {L : Nat → Int32} {P : Nat → Int64} : ∀ q, (rsN rs rule L P q).length = rs.length + cTw rs rule L P q
  | 0 => rfl
  | q + 1 => by
    have := rsN_len (rule := rule) (L := L) (P := P) q
    unfold rsN cTw
    cases twn rs rule (L q) (P q) with
    | none => simpa using this
    | some z => simp [this]; omega
theorem rsN_get {rule : Int32} {L : Nat → Int32} {P : Nat → Int64} {r : Nat} {row : RowT} (h : rs[r]? = some row) : ∀ q, (rsN rs rule L P q)[r]? = some row
  | 0 => h
  | q + 1 => by
    have := rsN_get (rule := rule) (L := L) (P := P) h q
    unfold rsN
    cases twn rs rule (L q) (P q) with
    | none => exact this
    | some z => exact app_get this
theorem twn_some {rule l : Int32} {x : Int64} {z : Nat × RowT} (h : twn rs rule l x = some z) : l = 9 ∧ ixL x rs.length = some z.1 ∧ rs[z.1]? = some z.2 ∧ z.2.2.1 = false ∧ (z.2.1 = 8 ∨ rule = 4) := by
  unfold twn at h
  by_cases l9 : l = 9
  · rw [if_pos l9] at h
    rcases hx : ixL x rs.length with _ | r
    · rw [hx] at h; cases h
    · obtain ⟨row, hrow⟩ := get_lt (ixL_some hx).1
      rw [hx] at h
      simp only [hrow] at h
      by_cases c : row.2.1 = false ∧ (row.1 = 8 ∨ rule = 4)
      · rw [if_pos c] at h
        cases h
        exact ⟨l9, rfl, hrow, c⟩
      · rw [if_neg c] at h; cases h
  · rw [if_neg l9] at h; cases h
theorem ixL_ref {x : Int64} {a b : Nat} (h : refOK x a) (hab : a ≤ b) (hb : b < 2 ^ 31) : ixL x b = ixL x a := by
  rcases h with rfl | ⟨i, h1, rfl⟩
  · rw [ixL_m1, ixL_m1]
  · rw [ixL_lN h1 (by omega), ixL_lN (by omega) hb]
theorem twn_ext {rule l : Int32} {x : Int64} {rs2 : List RowT} (hx : l = 9 → refOK x rs.length) (hl : rs.length ≤ rs2.length) (h31 : rs2.length < 2 ^ 31) (hg : ∀ (r : Nat) (row : RowT), rs[r]? = some row → rs2[r]? = some row) : twn rs2 rule l x = twn rs rule l x := by
  unfold twn
  by_cases l9 : l = 9
  · rw [if_pos l9, if_pos l9, ixL_ref (hx l9) hl h31]
    rcases hq : ixL x rs.length with _ | r
    · rfl
    · obtain ⟨row, hrow⟩ := get_lt (ixL_some hq).1
      simp only [hrow, hg r row hrow]
  · rw [if_neg l9, if_neg l9]
end Fin2
