section Write
variable {rs : List RowT} {ks : List KindT} {vs : List ValT} {tl : Nat → Nat → Nat → List Int32} {sc : Nat → Int32} {wI : Nat → List Int32} {wL : Nat → List Int64} {m : MS} {d d2 u : Nat} {v1 v2 v3 v5 v6 : Int32} {v4 : Int64} {W : Prop → Prop}
variable {cp mp h : MH}
def sNum (l : Int32) (x : Int64) : List Int32 := if l = 0 then (if x = 0 then [102] else [116]) else nStr x
def sCl (f : Int64 → List Int32) (row : RowT) : Nat → List Int32
  | 0 => []
  | c + 1 => sCl f row c ++ ((if c = 0 then [] else [32]) ++ (if row.1 = 8 then f (row.2.2.getD c 0) else sNum row.1 (row.2.2.getD c 0)))
def sRow (f : Int64 → List Int32) (row : RowT) : List Int32 := [91] ++ (sCl f row row.2.2.length ++ [93])
def sAny (rs : List RowT) (f : Int64 → List Int32) (l : Int32) (x : Int64) : List Int32 := if l = 8 then f x else if l = 9 then (match ixL x rs.length with
  | some r => (match rs[r]? with
    | some row => sRow f row
    | none => [33])
  | none => [33]) else sNum l x
def sPs (rs : List RowT) (f : Int64 → List Int32) (t : List ET) (ps : List Int64) : Nat → List Int32
  | 0 => []
  | q + 1 => sPs rs f t ps q ++ ((if q = 0 then [] else [44]) ++ (nStr (lbT t q).toInt64 ++ ([61] ++ sAny rs f (lnT t q) (ps.getD q 0))))
def sVal (rs : List RowT) (ks : List KindT) (vs : List ValT) : Nat → Int64 → List Int32
  | 0, _ => [33]
  | n + 1, x => match ixL x vs.length with
    | none => [33]
    | some i => (match vs[i]? with
      | none => [33]
      | some v => (match ks[v.1]? with
        | none => [33]
        | some k => if k.1 = true then [35] ++ nStr v.2.2.2.1.toInt64 else (match k.2.2.2.2[v.2.1]? with
          | none => [33]
          | some t => nStr (nI v.1).toInt64 ++ ([40] ++ (sPs rs (sVal rs ks vs n) t v.2.2.2.2.2.2 t.length ++ [41])))))
theorem sVal_m1 {n : Nat} : sVal rs ks vs n (-1) = [33] := by
  cases n with
  | zero => rfl
  | succ n => rw [sVal, ixL_m1]
theorem sVal_con {n i : Nat} {v : ValT} {k : KindT} (hi : vs[i]? = some v) (hk : ks[v.1]? = some k) (hc : k.1 = true) (hV : vs.length < 2 ^ 31) : sVal rs ks vs (n + 1) (lN i) = [35] ++ nStr v.2.2.2.1.toInt64 := by
  rw [sVal, ixL_lN (List.getElem?_eq_some_iff.mp hi).1 hV]
  simp only [hi, hk]
  rw [if_pos hc]
theorem sVal_rec {n i : Nat} {v : ValT} {k : KindT} {t : List ET} (R : RecV rs ks vs i v k t) (hV : vs.length < 2 ^ 31) : sVal rs ks vs (n + 1) (lN i) = nStr (nI v.1).toInt64 ++ ([40] ++ (sPs rs (sVal rs ks vs n) t v.2.2.2.2.2.2 t.length ++ [41])) := by
  rw [sVal, ixL_lN (List.getElem?_eq_some_iff.mp R.1).1 hV]
  simp only [R.1, R.2.1, R.2.2.1]
  rw [if_neg (by rw [R.2.2.2.1]; decide)]
abbrev scb : Option Nm := some (11, 0, 0)
section S
variable {b : Bool} {sc0 : Nat → Int32} {wI0 : Nat → List Int32} {X : TS}
theorem x_next (hb : (if sc0 7 = 0 then ((15, 0, 0) : Nm) else (12, 0, 0)) = tN b) (hS : SX sc0 wI0 b X sc wI) {K : Option Nm → Prop} : gR (hJ (hC rs ks vs tl sc wI wL) mp) scb 5 2 K ↔ K (some (tN b)) := by
  rw [c_g11_2, hS.1 7 (by cases b <;> decide) (by cases b <;> decide), hb]
theorem x_over (hS : SX sc0 wI0 b X sc wI) : sc (oIx b) = 0 ↔ X ≠ none := by
  obtain ⟨-, -, -, -, s5⟩ := hS
  cases X with
  | none => rw [s5.1]; exact ⟨fun z => absurd z (by decide), fun z => absurd rfl z⟩
  | some o => exact ⟨fun _ z => (by cases z), fun _ => s5.2.2.1⟩
def sWr (rs : List RowT) (ks : List KindT) (vs : List ValT) (tl : Nat → Nat → Nat → List Int32) (wL : Nat → List Int64) (mp : MH) (sc0 : Nat → Int32) (wI0 : Nat → List Int32) (b : Bool) (n : Nat) : Prop := ∀ x, tOK vs n x → ∀ (d u : Nat) (sc : Nat → Int32) (wI : Nat → List Int32) (X : TS) (K : MH → Nat → Prop), 5 * n ≤ d → SX sc0 wI0 b X sc wI → (∀ sc' wI', SX sc0 wI0 b (tAdd X (sVal rs ks vs n x)) sc' wI' → K (hJ (hC rs ks vs tl sc' wI' wL) mp) u) → iV (d + 2) u_X6_writeValue [jR scb, jR (rfV vs x)] (hJ (hC rs ks vs tl sc wI wL) mp) u K
theorem s_writeAny {sc9 : Nat → Int32} {wI9 : Nat → List Int32} (I : Inv rs ks vs tl sc9 wI9 wL m) (hb : (if sc0 7 = 0 then ((15, 0, 0) : Nm) else (12, 0, 0)) = tN b) {n : Nat} (IH : sWr rs ks vs tl wL mp sc0 wI0 b n) {l : Int32} {x : Int64} (ha : aOK rs vs n l x) (hl9 : wi l 0 9 = true) (hS : SX sc0 wI0 b X sc wI) {K : MH → Nat → Prop} (hd : 5 * n + 3 ≤ d) (H : ∀ sc' wI', SX sc0 wI0 b (tAdd X (sAny rs (sVal rs ks vs n) l x)) sc' wI' → K (hJ (hC rs ks vs tl sc' wI' wL) mp) u) : iV (d + 2) u_X6_writeAny [jR scb, jI l, jL x] (hJ (hC rs ks vs tl sc wI wL) mp) u K := by
  have hR := I.1.1.1
  have hV := I.1.2.2.2.1.1
  -- a plain cell
  have plain : ∀ {d u : Nat} {l : Int32} {x : Int64} {sc : Nat → Int32} {wI : Nat → List Int32} {X : TS} {Q : MH → Prop}, ¬ l = 8 → ¬ l = 9 → SX sc0 wI0 b X sc wI → (∀ sc' wI', SX sc0 wI0 b (tAdd X (sNum l x)) sc' wI' → Q (hJ (hC rs ks vs tl sc' wI' wL) mp)) → F_X6_writeAny d scb l x (hJ (hC rs ks vs tl sc wI wL) mp) u Q := by
    intro d u l x sc wI X Q l8 l9 hS H
    unfold F_X6_writeAny
    unfold sNum at H
    by_cases l0 : l = 0
    · rw [if_pos l0]
      simp only [if_pos l0] at H
      refine (x_next hb hS).mpr ?_
      simp only [lg_cmp_eq]
      by_cases x0 : x = 0
      · rw [if_pos x0]
        simp only [if_pos x0] at H
        exact ⟨x_rc, s_addSign hS (bK (by decide)) (fun sc' wI' h1 _ => H sc' wI' h1)⟩
      · rw [if_neg x0]
        simp only [if_neg x0] at H
        exact ⟨x_rc, s_addSign hS (bK (by decide)) (fun sc' wI' h1 _ => H sc' wI' h1)⟩
    · rw [if_neg l0, if_neg l8, if_neg l9]
      simp only [if_neg l0] at H
      exact (x_next hb hS).mpr ⟨x_rc, s_addNumber hS H⟩
  refine I_X6_writeAny 0 (Nat.zero_le _) ?_
  by_cases l8 : l = 8
  · unfold F_X6_writeAny
    unfold sAny at H
    simp only [if_pos l8] at H
    rw [if_neg (by rw [l8]; decide), if_pos l8]
    simp only [c_g11_0, c_rc2, true_and, f_findValue hV]
    obtain ⟨r, rfl⟩ : ∃ r, d = r + 1 := ⟨d - 1, by omega⟩
    exact ⟨rfl, IH x (ha.2.1 l8) r 0 sc wI X _ (by omega) hS H⟩
  · by_cases l9 : l = 9
    · unfold F_X6_writeAny
      unfold sAny at H
      simp only [if_neg l8, if_pos l9] at H
      rw [if_neg (by rw [l9]; decide), if_neg l8, if_pos l9]
      simp only [c_g11_0, c_rc2, true_and, f_findRow hR]
      refine ⟨rfl, ?_⟩
      obtain ⟨r, rfl⟩ : ∃ r, d = r + 3 := ⟨d - 3, by omega⟩
      refine I_X6_writeRow (d := r + 3) 0 (Nat.zero_le _) ?_
      unfold F_X6_writeRow
      rcases ha.2.2 l9 with rfl | ⟨rr, row, rfl, hrow, hcells⟩
      · simp only [ixL_m1] at H
        rw [ixL_m1, Option.map_none, nl_none]
        exact (x_next hb hS).mpr ⟨x_rc, s_addSign hS (bK (by decide)) (fun sc' wI' h1 _ => H sc' wI' h1)⟩
      · have hrl := (List.getElem?_eq_some_iff.mp hrow).1
        have h20 := I.r20 row (List.mem_of_getElem? hrow)
        have hrok := (I.1.1.2 row (List.mem_of_getElem? hrow)).1
        simp only [ixL_lN hrl (show rs.length < 2 ^ 31 by omega), hrow] at H
        rw [ixL_lN hrl (by omega), Option.map_some, nl_some]
        refine (x_next hb hS).mpr ⟨x_rc, s_addSign hS (bK (by decide)) (fun sc1 wI1 hS1 _ => ?_)⟩
        have fin : ∀ (sc : Nat → Int32) (wI : Nat → List Int32) (Y : TS), SX sc0 wI0 b Y sc wI → tAdd Y [93] = tAdd X (sRow (sVal rs ks vs n) row) → F_X6_writeRow_77 (r + 3) scb (hJ (hC rs ks vs tl sc wI wL) mp) 0 (fun h2 => K h2 u) := by
          intro sc wI Y hY hE
          unfold F_X6_writeRow_77
          refine (x_next hb hY).mpr ⟨x_rc, s_addSign hY (bK (by decide)) (fun sc' wI' h1 _ => H sc' wI' ?_)⟩
          rw [← hE]; exact h1
        have key : ∀ (p c : Nat) (sc : Nat → Int32) (wI : Nat → List Int32) (Y : TS), c + p = row.2.2.length → SX sc0 wI0 b Y sc wI → Y = tAdd X ([91] ++ sCl (sVal rs ks vs n) row c) → L_X6_writeRow_25 (r + 3) scb (some (21, rr, 0)) (nI c) (hJ (hC rs ks vs tl sc wI wL) mp) 0 (fun h2 => K h2 u) := by
          intro p
          induction p with
          | zero =>
            intro c sc wI Y hc hY hE
            have : c = row.2.2.length := by omega
            subst this
            unfold L_X6_writeRow_25
            refine E_X6_writeRow_25 ?_
            unfold F_X6_writeRow_25
            refine gR_raw (o_21 hrow) rfl (aN_raw (o_22 hrow) ?_)
            rw [List.length_map, if_pos (nI_le (by omega) (by omega))]
            refine fin sc wI Y hY ?_
            rw [hE, tAdd_app]
            unfold sRow
            rw [List.append_assoc]
          | succ p ih =>
            intro c sc wI Y hc hY hE
            obtain ⟨y, hy⟩ := get_lt (show c < row.2.2.length by omega)
            have ey : row.2.2.getD c 0 = y := by simp [List.getD_eq_getElem?_getD, hy]
            unfold L_X6_writeRow_25
            refine E_X6_writeRow_25 ?_
            unfold F_X6_writeRow_25
            refine gR_raw (o_21 hrow) rfl (aN_raw (o_22 hrow) ?_)
            rw [List.length_map, if_neg (nI_ge (by omega) (by omega))]
            refine (x_next hb hY).mpr (x_g3.mpr ?_)
            by_cases hn : Y = none
            · rw [if_neg (fun z => (x_over hY).mp z hn)]
              refine fin sc wI Y hY ?_
              have e9 : tAdd X (sRow (sVal rs ks vs n) row) = none := by
                unfold sRow
                have : ∀ q, tAdd X ([91] ++ sCl (sVal rs ks vs n) row (c + q)) = none := by
                  intro q
                  induction q with
                  | zero => rw [Nat.add_zero, ← hE]; exact hn
                  | succ q ihq =>
                    have : sCl (sVal rs ks vs n) row (c + (q + 1)) = sCl (sVal rs ks vs n) row (c + q) ++ _ := rfl
                    rw [this, ← List.append_assoc, ← tAdd_app, ihq]; rfl
                rw [← List.append_assoc, ← tAdd_app, show row.2.2.length = c + (p + 1) by omega, this]; rfl
              rw [e9, hn]; rfl
            · rw [if_pos ((x_over hY).mpr hn)]
              have s57 : ∀ (sc : Nat → Int32) (wI : Nat → List Int32) (Z : TS), SX sc0 wI0 b Z sc wI → Z = tAdd X ([91] ++ sCl (sVal rs ks vs n) row c ++ (if c = 0 then [] else [32])) → F_X6_writeRow_57 (r + 3) scb (some (21, rr, 0)) (nI c) (hJ (hC rs ks vs tl sc wI wL) mp) 0 (fun h2 => K h2 u) := by
                intro sc wI Z hZ hEZ
                unfold F_X6_writeRow_57
                refine gI_raw (o_21 hrow) rfl (gR_raw (o_21 hrow) rfl (aL_raw (x := y) (o_22 hrow) (by omega) (by rw [List.getElem?_map, hy]; rfl) ⟨rfl, ?_⟩))
                refine I_X6_writeAny (d := r + 1) 0 (Nat.zero_le _) ?_
                rw [nI_1]
                by_cases r8 : row.1 = 8
                · unfold F_X6_writeAny
                  rw [if_neg (by rw [r8]; decide), if_pos r8]
                  simp only [c_g11_0, c_rc2, true_and, f_findValue hV]
                  refine ⟨rfl, IH y (hcells r8 y (List.mem_of_getElem? hy)) r 0 sc wI Z _ (by omega) hZ (fun sc' wI' h1 => ?_)⟩
                  refine ih (c + 1) sc' wI' _ (by omega) h1 ?_
                  rw [hEZ, tAdd_app, sCl, if_pos r8, ey]
                  simp only [List.append_assoc]
                · refine plain r8 (fun z => by rw [z] at hrok; exact absurd hrok (by decide)) hZ (fun sc' wI' h1 => ?_)
                  refine ih (c + 1) sc' wI' _ (by omega) h1 ?_
                  rw [hEZ, tAdd_app, sCl, if_neg r8, ey]
                  simp only [List.append_assoc]
              by_cases c0 : c = 0
              · subst c0
                rw [if_pos (show nI 0 ≤ (0 : Int32) by decide)]
                exact s57 sc wI Y hY (by rw [hE, if_pos rfl, List.append_nil])
              · rw [if_neg (show ¬ nI c ≤ (0 : Int32) from nI_ge (a := 0) (by omega) (by omega))]
                refine (x_next hb hY).mpr ⟨x_rc, s_addSign hY (bK (by decide)) (fun sc' wI' h1 _ => s57 sc' wI' _ h1 ?_)⟩
                rw [hE, tAdd_app, if_neg c0]
        exact key row.2.2.length 0 sc1 wI1 _ (by omega) hS1 (by rw [show sCl (sVal rs ks vs n) row 0 = [] from rfl, List.append_nil])
    · unfold sAny at H
      simp only [if_neg l8, if_neg l9] at H
      exact plain l8 l9 hS H
theorem s_writeValue {sc9 : Nat → Int32} {wI9 : Nat → List Int32} (I : Inv rs ks vs tl sc9 wI9 wL m) (hb : (if sc0 7 = 0 then ((15, 0, 0) : Nm) else (12, 0, 0)) = tN b) : ∀ n, sWr rs ks vs tl wL mp sc0 wI0 b n := by
  have hV := I.1.2.2.2.1.1
  intro n
  induction n with
  | zero =>
    intro x hx d u sc wI X K hd hS H
    rcases hx with rfl | ⟨i, v, rfl, hi, hdv⟩
    · unfold rfV
      rw [ixL_m1]
      refine I_X6_writeValue 0 (Nat.zero_le _) ?_
      unfold F_X6_writeValue
      rw [Option.map_none, nl_none]
      exact (x_next hb hS).mpr ⟨x_rc, s_addSign hS (bK (by decide)) (fun sc' wI' h1 _ => H sc' wI' h1)⟩
    · obtain ⟨k, t, -, -, -, -, v1, -⟩ := I.1.2.2.2.1.2 i v hi
      omega
  | succ n ih =>
    intro x hx d u sc wI X K hd hS H
    rcases hx with rfl | ⟨i, v, rfl, hi, hdv⟩
    · unfold rfV
      rw [ixL_m1]
      rw [sVal_m1] at H
      refine I_X6_writeValue 0 (Nat.zero_le _) ?_
      unfold F_X6_writeValue
      rw [Option.map_none, nl_none]
      exact (x_next hb hS).mpr ⟨x_rc, s_addSign hS (bK (by decide)) (fun sc' wI' h1 _ => H sc' wI' h1)⟩
    · have hil := (List.getElem?_eq_some_iff.mp hi).1
      obtain ⟨k, t, hk, hRR⟩ := I.rec hi
      unfold rfV
      rw [ixL_lN hil (by omega), Option.map_some]
      refine I_X6_writeValue 0 (Nat.zero_le _) ?_
      unfold F_X6_writeValue
      rw [nl_some]
      refine gR_raw (o_29 hi) rfl (gI_raw (o_23 hk) rfl ?_)
      cases hc : k.1
      · rw [if_pos (show b2i false = 0 from rfl)]
        have R := hRR hc
        rw [sVal_rec R (by omega)] at H
        obtain ⟨-, -, ht, -, h4, h6, ho, hlen, hp⟩ := R
        obtain ⟨r, rfl⟩ : ∃ r, d = r + 2 := ⟨d - 2, by omega⟩
        refine ⟨rfl, I_X6_writeRecord (d := r + 1) 0 (Nat.zero_le _) ?_⟩
        unfold F_X6_writeRecord
        refine (x_next hb hS).mpr (gR_raw (o_29 hi) rfl (gI_raw (o_23 hk) rfl ⟨x_rc, s_addNumber hS (fun sc2 wI2 hS2 => ?_)⟩))
        refine (x_next hb hS2).mpr ⟨x_rc, s_addSign hS2 (bK (by decide)) (fun sc3 wI3 hS3 _ => ?_)⟩
        rw [tAdd_app] at hS3
        have fin : ∀ (sc : Nat → Int32) (wI : Nat → List Int32) (Y : TS), SX sc0 wI0 b Y sc wI → tAdd Y [41] = tAdd X (nStr (nI v.1).toInt64 ++ ([40] ++ (sPs rs (sVal rs ks vs n) t v.2.2.2.2.2.2 t.length ++ [41]))) → F_X6_writeRecord_109 (r + 1) scb (hJ (hC rs ks vs tl sc wI wL) mp) 0 (fun h2 => K h2 u) := by
          intro sc wI Y hY hE
          unfold F_X6_writeRecord_109
          refine (x_next hb hY).mpr ⟨x_rc, s_addSign hY (bK (by decide)) (fun sc' wI' h1 _ => H sc' wI' ?_)⟩
          rw [← hE]; exact h1
        have key : ∀ (p q : Nat) (sc : Nat → Int32) (wI : Nat → List Int32) (Y : TS), q + p = t.length → SX sc0 wI0 b Y sc wI → Y = tAdd X (nStr (nI v.1).toInt64 ++ [40] ++ sPs rs (sVal rs ks vs n) t v.2.2.2.2.2.2 q) → L_X6_writeRecord_26 (r + 1) scb (some (29, i, 0)) (nI q) (hJ (hC rs ks vs tl sc wI wL) mp) 0 (fun h2 => K h2 u) := by
          intro p
          induction p with
          | zero =>
            intro q sc wI Y hq hY hE
            have : q = t.length := by omega
            subst this
            unfold L_X6_writeRecord_26
            refine E_X6_writeRecord_26 ?_
            unfold F_X6_writeRecord_26
            refine gR_raw (o_29 hi) rfl (aN_raw (o_30 hi) ?_)
            rw [List.length_map, hlen, if_pos (nI_le (Nat.le_refl _) (by omega))]
            refine fin sc wI Y hY ?_
            rw [hE, tAdd_app]
            simp only [List.append_assoc]
          | succ p ih2 =>
            intro q sc wI Y hq hY hE
            obtain ⟨y, hy⟩ := get_lt (show q < v.2.2.2.2.2.2.length by omega)
            have ey : ((v.2.2.2.2.2.2).map jL)[q]? = some (jL (v.2.2.2.2.2.2.getD q 0)) := by rw [List.getElem?_map, hy]; simp [List.getD_eq_getElem?_getD, hy]
            unfold L_X6_writeRecord_26
            refine E_X6_writeRecord_26 ?_
            unfold F_X6_writeRecord_26
            refine gR_raw (o_29 hi) rfl (aN_raw (o_30 hi) ?_)
            rw [List.length_map, hlen, if_neg (nI_ge (by omega) (by omega))]
            refine (x_next hb hY).mpr (x_g3.mpr ?_)
            by_cases hn : Y = none
            · rw [if_neg (fun z => (x_over hY).mp z hn)]
              refine fin sc wI Y hY ?_
              have e9 : tAdd X (nStr (nI v.1).toInt64 ++ [40] ++ sPs rs (sVal rs ks vs n) t v.2.2.2.2.2.2 t.length) = none := by
                have : ∀ z, tAdd X (nStr (nI v.1).toInt64 ++ [40] ++ sPs rs (sVal rs ks vs n) t v.2.2.2.2.2.2 (q + z)) = none := by
                  intro z
                  induction z with
                  | zero => rw [Nat.add_zero, ← hE]; exact hn
                  | succ z ihz =>
                    have : sPs rs (sVal rs ks vs n) t v.2.2.2.2.2.2 (q + (z + 1)) = sPs rs (sVal rs ks vs n) t v.2.2.2.2.2.2 (q + z) ++ _ := rfl
                    rw [this, ← List.append_assoc, ← tAdd_app, ihz]; rfl
                rw [show t.length = q + (p + 1) by omega]
                exact this (p + 1)
              rw [hn, show nStr (nI v.1).toInt64 ++ ([40] ++ (sPs rs (sVal rs ks vs n) t v.2.2.2.2.2.2 t.length ++ [41])) = (nStr (nI v.1).toInt64 ++ [40] ++ sPs rs (sVal rs ks vs n) t v.2.2.2.2.2.2 t.length) ++ [41] by simp only [List.append_assoc], ← tAdd_app, e9]
            · rw [if_pos ((x_over hY).mpr hn)]
              have s58 : ∀ (sc : Nat → Int32) (wI : Nat → List Int32) (Z : TS), SX sc0 wI0 b Z sc wI → Z = tAdd X (nStr (nI v.1).toInt64 ++ [40] ++ sPs rs (sVal rs ks vs n) t v.2.2.2.2.2.2 q ++ (if q = 0 then [] else [44])) → F_X6_writeRecord_58 (r + 1) scb (some (29, i, 0)) (nI q) (hJ (hC rs ks vs tl sc wI wL) mp) 0 (fun h2 => K h2 u) := by
                intro sc wI Z hZ hEZ
                unfold F_X6_writeRecord_58
                refine (x_next hb hZ).mpr (gR_raw (o_29 hi) rfl (c_lab hk ht (by omega) (by omega) ⟨x_rc, s_addNumber hZ (fun sc4 wI4 hS4 => ?_)⟩))
                refine (x_next hb hS4).mpr ⟨x_rc, s_addSign hS4 (bK (by decide)) (fun sc5 wI5 hS5 _ => ?_)⟩
                refine gR_raw (o_29 hi) rfl (c_L hk ht (by omega) (by omega) (gR_raw (o_29 hi) rfl (aL_raw (o_30 hi) (by omega) ey ⟨rfl, ?_⟩)))
                refine s_writeAny I hb ih (part_aOK (hp q (by omega)) hdv) (lnT_9 ho (by omega)) hS5 (by omega) (fun sc6 wI6 hS6 => ?_)
                rw [nI_1]
                refine ih2 (q + 1) sc6 wI6 _ (by omega) hS6 ?_
                rw [hEZ, tAdd_app, tAdd_app, tAdd_app, sPs]
                simp only [List.append_assoc]
              by_cases q0 : q = 0
              · subst q0
                rw [if_pos (show nI 0 ≤ (0 : Int32) by decide)]
                exact s58 sc wI Y hY (by rw [hE, if_pos rfl, List.append_nil])
              · rw [if_neg (show ¬ nI q ≤ (0 : Int32) from nI_ge (a := 0) (by omega) (by omega))]
                refine (x_next hb hY).mpr ⟨x_rc, s_addSign hY (bK (by decide)) (fun sc' wI' h1 _ => s58 sc' wI' _ h1 ?_)⟩
                rw [hE, tAdd_app, if_neg q0]
        exact key t.length 0 sc3 wI3 _ (by omega) hS3 (by rw [show sPs rs (sVal rs ks vs n) t v.2.2.2.2.2.2 0 = [] from rfl, List.append_nil])
      · rw [if_neg (show ¬ b2i true = 0 by decide)]
        rw [sVal_con hi hk hc (by omega)] at H
        refine (x_next hb hS).mpr ⟨x_rc, s_addSign hS (bK (by decide)) (fun sc2 wI2 hS2 _ => ?_)⟩
        refine (x_next hb hS2).mpr (gI_raw (o_29 hi) rfl ⟨x_rc, s_addNumber hS2 (fun sc3 wI3 hS3 => H sc3 wI3 ?_)⟩)
        rw [← tAdd_app]
        exact hS3
end S
end Write
