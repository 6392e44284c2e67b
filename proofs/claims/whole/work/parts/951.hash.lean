section Hash
variable {rs : List RowT} {ks : List KindT} {vs : List ValT} {tl : Nat → Nat → Nat → List Int32} {sc : Nat → Int32} {wI : Nat → List Int32} {wL : Nat → List Int64} {m : MS} {d d2 u : Nat} {v1 v2 v3 v5 v6 : Int32} {v4 : Int64} {W : Prop → Prop}
variable {cp mp h : MH}
def hN (l : Int32) (x : Int64) : Int32 := if l = 0 then (if x = 0 then 1237 else 1231) else if l = 5 ∨ l = 7 then ((x ^^^ ((x.toUInt64 >>> ((32 : Int32).toInt64.toUInt64 &&& Int64.toUInt64 63)).toInt64)).toInt32) else x.toInt32
theorem f_hashNumber {l : Int32} {x : Int64} {Q : Int32 → MH → Prop} : F_X4_hashNumber d l x h u Q ↔ Q (hN l x) h := by
  unfold F_X4_hashNumber hN
  simp only [lg_cmp_eq]
  by_cases l0 : l = 0
  · rw [if_pos l0, if_pos l0]
    by_cases x0 : x = 0
    · rw [if_pos x0, if_pos x0]
    · rw [if_neg x0, if_neg x0]
  · rw [if_neg l0, if_neg l0]
    by_cases l5 : l = 5
    · rw [if_pos l5, if_pos (Or.inl l5)]
    · rw [if_neg l5]
      by_cases l7 : l = 7
      · rw [if_pos l7, if_pos (Or.inr l7)]
      · rw [if_neg l7, if_neg (fun z => by rcases z with z | z; exact l5 z; exact l7 z)]
theorem g_numberHash {l : Int32} {x : Int64} (hx : l = 0 → x = 0 ∨ x = 1) {Q : Int32 → MH → Prop} : F_X12_numberHash d l x h u Q ↔ Q (hN l x) h := by
  unfold F_X12_numberHash hN
  simp only [lg_cmp_eq]
  by_cases l0 : l = 0
  · rw [if_pos l0, if_pos l0]
    rcases hx l0 with rfl | rfl
    · rw [if_neg (by decide), if_pos rfl]
    · rw [if_pos rfl, if_neg (by decide)]
  · rw [if_neg l0, if_neg l0]
    by_cases l5 : l = 5
    · rw [if_pos l5, if_pos (Or.inl l5)]
    · rw [if_neg l5]
      by_cases l7 : l = 7
      · rw [if_pos l7, if_pos (Or.inr l7)]
      · rw [if_neg l7, if_neg (fun z => by rcases z with z | z; exact l5 z; exact l7 z)]
def hRow (f : Int64 → Int32) (row : RowT) (l : List Int64) : Int32 := l.foldl (fun s c => 31 * s + (if row.1 = 8 then f c else hN row.1 c)) 1
def hAny (rs : List RowT) (f : Int64 → Int32) (l : Int32) (x : Int64) : Int32 := if l = 8 then f x else if l = 9 then (match ixL x rs.length with
  | some r => (match rs[r]? with
    | some row => hRow f row row.2.2
    | none => 0)
  | none => 0) else hN l x
def hSum (rs : List RowT) (f : Int64 → Int32) (t : List ET) (ps : List Int64) (s : Int32) : Nat → Int32
  | 0 => s
  | q + 1 => 31 * hSum rs f t ps s q + hAny rs f (lnT t q) (ps.getD q 0)
def hVal (rs : List RowT) (ks : List KindT) (vs : List ValT) : Nat → Int64 → Int32
  | 0, _ => 0
  | n + 1, x => match ixL x vs.length with
    | none => 0
    | some i => (match vs[i]? with
      | none => 0
      | some v => (match ks[v.1]? with
        | none => 0
        | some k => if k.1 = true then 7 * nI v.1 + nI v.2.2.1 else (match k.2.2.2.2[v.2.1]? with
          | none => 0
          | some t => hSum rs (hVal rs ks vs n) t v.2.2.2.2.2.2 (nI v.1) t.length)))
/-- a thing, at most n deep; a part whose things are -/
def tOK (vs : List ValT) (n : Nat) (x : Int64) : Prop := x = -1 ∨ ∃ i v, x = lN i ∧ vs[i]? = some v ∧ v.2.2.2.2.2.1 ≤ n
def aOK (rs : List RowT) (vs : List ValT) (n : Nat) (l : Int32) (x : Int64) : Prop := (wi l 0 7 = true → numOK l x) ∧ (l = 8 → tOK vs n x) ∧ (l = 9 → x = -1 ∨ ∃ r row, x = lN r ∧ rs[r]? = some row ∧ (row.1 = 8 → ∀ y ∈ row.2.2, tOK vs n y))
theorem part_aOK {i dp n : Nat} {l : Int32} {x : Int64} (h : partOK rs vs i l x dp) (hd : dp ≤ n + 1) : aOK rs vs n l x := by
  obtain ⟨h1, h2, h3⟩ := h
  refine ⟨h1, fun e => ?_, fun e => ?_⟩
  · rcases h2 e with z | ⟨q, v, z1, z2, z3, z4⟩
    · exact Or.inl z
    · exact Or.inr ⟨q, v, z2, z3, by omega⟩
  · rcases h3 e with z | ⟨q, r, z1, z2, z3⟩
    · exact Or.inl z
    · refine Or.inr ⟨q, r, z1, z2, fun r8 y hy => ?_⟩
      rcases (z3 r8).2 y hy with w | ⟨p, v, w1, w2, w3, w4⟩
      · exact Or.inl w
      · exact Or.inr ⟨p, v, w2, w3, by omega⟩
theorem hVal_m1 {n : Nat} : hVal rs ks vs n (-1) = 0 := by
  cases n with
  | zero => rfl
  | succ n => rw [hVal, ixL_m1]
theorem hVal_con {n i : Nat} {v : ValT} {k : KindT} (hi : vs[i]? = some v) (hk : ks[v.1]? = some k) (hc : k.1 = true) (hV : vs.length < 2 ^ 31) : hVal rs ks vs (n + 1) (lN i) = 7 * nI v.1 + nI v.2.2.1 := by
  rw [hVal, ixL_lN (List.getElem?_eq_some_iff.mp hi).1 hV]
  simp only [hi, hk]
  rw [if_pos hc]
theorem hVal_rec {n i : Nat} {v : ValT} {k : KindT} {t : List ET} (R : RecV rs ks vs i v k t) (hV : vs.length < 2 ^ 31) : hVal rs ks vs (n + 1) (lN i) = hSum rs (hVal rs ks vs n) t v.2.2.2.2.2.2 (nI v.1) t.length := by
  rw [hVal, ixL_lN (List.getElem?_eq_some_iff.mp R.1).1 hV]
  simp only [R.1, R.2.1, R.2.2.1]
  rw [if_neg (by rw [R.2.2.2.1]; decide)]
abbrev cmpr : Option Nm := some (10, 0, 0)
/-! the class -/
theorem s_hashAny (I : Inv rs ks vs tl sc wI wL m) {n : Nat} (IH : ∀ x, tOK vs n x → ∀ (d u : Nat) (K : Int32 → MH → Nat → Prop), 4 * n ≤ d → K (hVal rs ks vs n x) (hJ (hC rs ks vs tl sc wI wL) mp) u → iI (d + 1) u_X0_hashValue [jR cmpr, jR ((ixL x vs.length).map (fun i => (29, i, 0)))] (hJ (hC rs ks vs tl sc wI wL) mp) u K) {l : Int32} {x : Int64} (ha : aOK rs vs n l x) {K : Int32 → MH → Nat → Prop} (hd : 4 * n + 3 ≤ d) (H : K (hAny rs (hVal rs ks vs n) l x) (hJ (hC rs ks vs tl sc wI wL) mp) u) : iI (d + 1) u_X0_hashAny [jR cmpr, jI l, jL x] (hJ (hC rs ks vs tl sc wI wL) mp) u K := by
  have hR := I.1.1.1
  have hV := I.1.2.2.2.1.1
  refine I_X0_hashAny 0 (Nat.zero_le _) ?_
  unfold F_X0_hashAny
  unfold hAny at H
  by_cases l8 : l = 8
  · rw [if_pos l8] at H ⊢
    simp only [c_g10_0, c_rc2, true_and, f_findValue hV]
    obtain ⟨r, rfl⟩ : ∃ r, d = r + 1 := ⟨d - 1, by omega⟩
    exact ⟨rfl, IH x (ha.2.1 l8) r 0 _ (by omega) H⟩
  · rw [if_neg l8] at H ⊢
    by_cases l9 : l = 9
    · rw [if_pos l9] at H ⊢
      simp only [c_g10_0, c_rc2, true_and, f_findRow hR]
      refine ⟨rfl, ?_⟩
      obtain ⟨r, rfl⟩ : ∃ r, d = r + 3 := ⟨d - 3, by omega⟩
      refine I_X0_hashRow (d := r + 2) 0 (Nat.zero_le _) ?_
      unfold F_X0_hashRow
      rcases ha.2.2 l9 with rfl | ⟨rr, row, rfl, hrow, hcells⟩
      · rw [ixL_m1] at H ⊢
        exact H
      · have hrl := (List.getElem?_eq_some_iff.mp hrow).1
        have h20 := I.r20 row (List.mem_of_getElem? hrow)
        have hrok := (I.1.1.2 row (List.mem_of_getElem? hrow)).1
        rw [ixL_lN hrl (by omega)] at H ⊢
        simp only [hrow] at H
        rw [Option.map_some, nl_some]
        have key : ∀ p c : Nat, c + p = row.2.2.length → L_X0_hashRow_10 (r + 2) cmpr (some (21, rr, 0)) (hRow (hVal rs ks vs n) row (row.2.2.take c)) (nI c) (hJ (hC rs ks vs tl sc wI wL) mp) 0 (fun x h2 => K x h2 u) := by
          intro p
          induction p with
          | zero =>
            intro c hcp
            unfold L_X0_hashRow_10
            refine E_X0_hashRow_10 ?_
            unfold F_X0_hashRow_10
            refine gR_raw (o_21 hrow) rfl (aN_raw (o_22 hrow) ?_)
            rw [List.length_map, if_pos (nI_le (by omega) (by omega)), List.take_of_length_le (by omega)]
            exact H
          | succ p ih =>
            intro c hcp
            obtain ⟨y, hy⟩ := get_lt (show c < row.2.2.length by omega)
            have ih2 := ih (c + 1) (by omega)
            unfold L_X0_hashRow_10
            refine E_X0_hashRow_10 ?_
            unfold F_X0_hashRow_10
            refine gR_raw (o_21 hrow) rfl (aN_raw (o_22 hrow) ?_)
            rw [List.length_map, if_neg (nI_ge (by omega) (by omega))]
            refine gI_raw (o_21 hrow) rfl (gR_raw (o_21 hrow) rfl (aL_raw (x := y) (o_22 hrow) (by omega) (by rw [List.getElem?_map, hy]; rfl) ⟨rfl, ?_⟩))
            refine I_X0_hashAny (d := r + 1) 0 (Nat.zero_le _) ?_
            unfold F_X0_hashAny
            rw [take_s hy] at ih2
            unfold hRow at ih2 ⊢
            rw [List.foldl_append] at ih2
            simp only [List.foldl_cons, List.foldl_nil] at ih2
            rw [nI_1]
            by_cases r8 : row.1 = 8
            · rw [if_pos r8] at ih2 ⊢
              simp only [c_g10_0, c_rc2, true_and, f_findValue hV]
              exact ⟨rfl, IH y (hcells r8 y (List.mem_of_getElem? hy)) r 0 _ (by omega) ih2⟩
            · rw [if_neg r8] at ih2 ⊢
              rw [if_neg (fun z => by rw [z] at hrok; exact absurd hrok (by decide))]
              exact f_hashNumber.mpr ih2
        exact key row.2.2.length 0 (by omega)
    · rw [if_neg l9] at H ⊢
      exact f_hashNumber.mpr H
theorem s_hashValue (I : Inv rs ks vs tl sc wI wL m) : ∀ n x, tOK vs n x → ∀ (d u : Nat) (K : Int32 → MH → Nat → Prop), 4 * n ≤ d → K (hVal rs ks vs n x) (hJ (hC rs ks vs tl sc wI wL) mp) u → iI (d + 1) u_X0_hashValue [jR cmpr, jR ((ixL x vs.length).map (fun i => (29, i, 0)))] (hJ (hC rs ks vs tl sc wI wL) mp) u K := by
  have hV := I.1.2.2.2.1.1
  intro n
  induction n with
  | zero =>
    intro x hx d u K hd H
    rcases hx with rfl | ⟨i, v, rfl, hi, hdv⟩
    · rw [ixL_m1]
      refine I_X0_hashValue 0 (Nat.zero_le _) ?_
      unfold F_X0_hashValue
      exact H
    · obtain ⟨k, t, -, -, -, -, v1, -⟩ := I.1.2.2.2.1.2 i v hi
      omega
  | succ n ih =>
    intro x hx d u K hd H
    rcases hx with rfl | ⟨i, v, rfl, hi, hdv⟩
    · rw [ixL_m1]
      rw [hVal_m1] at H
      refine I_X0_hashValue 0 (Nat.zero_le _) ?_
      unfold F_X0_hashValue
      exact H
    · have hil := (List.getElem?_eq_some_iff.mp hi).1
      obtain ⟨k, t, hk, hR⟩ := I.rec hi
      rw [ixL_lN hil (by omega), Option.map_some]
      refine I_X0_hashValue 0 (Nat.zero_le _) ?_
      unfold F_X0_hashValue
      rw [nl_some]
      refine gR_raw (o_29 hi) rfl (gI_raw (o_23 hk) rfl ?_)
      cases hc : k.1
      · rw [if_pos (show b2i false = 0 from rfl)]
        have R := hR hc
        rw [hVal_rec R (by omega)] at H
        obtain ⟨-, -, ht, -, h4, h6, ho, hlen, hp⟩ := R
        refine gR_raw (o_29 hi) rfl (gI_raw (o_23 hk) rfl ?_)
        have key : ∀ p q : Nat, q + p = t.length → L_X0_hashValue_42 d cmpr (some (29, i, 0)) (hSum rs (hVal rs ks vs n) t v.2.2.2.2.2.2 (nI v.1) q) (nI q) (hJ (hC rs ks vs tl sc wI wL) mp) 0 (fun x h2 => K x h2 u) := by
          intro p
          induction p with
          | zero =>
            intro q hq
            have : q = t.length := by omega
            subst this
            unfold L_X0_hashValue_42
            refine E_X0_hashValue_42 ?_
            unfold F_X0_hashValue_42
            refine gR_raw (o_29 hi) rfl (aN_raw (o_30 hi) ?_)
            rw [List.length_map, hlen, if_pos (nI_le (Nat.le_refl _) (by omega))]
            exact H
          | succ p ih2 =>
            intro q hq
            have ih3 := ih2 (q + 1) (by omega)
            obtain ⟨y, hy⟩ := get_lt (show q < v.2.2.2.2.2.2.length by omega)
            unfold L_X0_hashValue_42
            refine E_X0_hashValue_42 ?_
            unfold F_X0_hashValue_42
            refine gR_raw (o_29 hi) rfl (aN_raw (o_30 hi) ?_)
            rw [List.length_map, hlen, if_neg (nI_ge (by omega) (by omega))]
            refine gR_raw (o_29 hi) rfl (c_L hk ht (by omega) (by omega) (gR_raw (o_29 hi) rfl (aL_raw (x := v.2.2.2.2.2.2.getD q 0) (o_30 hi) (by omega) (by rw [List.getElem?_map, hy]; simp [List.getD_eq_getElem?_getD, hy]) ⟨rfl, ?_⟩)))
            obtain ⟨r, rfl⟩ : ∃ r, d = r + 1 := ⟨d - 1, by omega⟩
            refine s_hashAny I ih (part_aOK (hp q (by omega)) hdv) (by omega) ?_
            rw [nI_1]
            exact ih3
        exact key t.length 0 (by omega)
      · rw [if_neg (show ¬ b2i true = 0 by decide)]
        rw [hVal_con hi hk hc (by omega)] at H
        exact gR_raw (o_29 hi) rfl (gI_raw (o_23 hk) rfl (gI_raw (o_29 hi) rfl H))
end Hash
