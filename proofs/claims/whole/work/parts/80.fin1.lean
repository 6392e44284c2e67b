section Fin1
variable {rs : List RowT} {ks : List KindT} {vs : List ValT} {tl : Nat → Nat → Nat → List Int32} {sc : Nat → Int32} {wI : Nat → List Int32} {wL : Nat → List Int64} {m : MS} {d d2 u : Nat} {v1 v2 v3 v5 v6 : Int32} {v4 : Int64} {W : Prop → Prop}
variable {cp mp h : MH}
def lnT (t : List ET) (q : Nat) : Int32 := (t.getD q (0, 0, 0)).2.1
theorem lnT_at {t : List ET} {q : Nat} {x : ET} (hx : t[q]? = some x) : lnT t q = x.2.1 := by simp [lnT, List.getD_eq_getElem?_getD, hx]
/-- the row that a part brings in as a twin -/
def twn (rs : List RowT) (rule l : Int32) (x : Int64) : Option (Nat × RowT) := if l = 9 then (match ixL x rs.length with
  | some r => (match rs[r]? with
    | some row => if row.2.1 = false ∧ (row.1 = 8 ∨ rule = 4) then some (r, row) else none
    | none => none)
  | none => none) else none
def cTw (rs : List RowT) (rule : Int32) (L : Nat → Int32) (P : Nat → Int64) : Nat → Nat
  | 0 => 0
  | q + 1 => cTw rs rule L P q + (if (twn rs rule (L q) (P q)).isSome = true then 1 else 0)
theorem cTw_le {rule : Int32} {L : Nat → Int32} {P : Nat → Int64} : ∀ q, cTw rs rule L P q ≤ q
  | 0 => Nat.le_refl _
  | q + 1 => by
    have := cTw_le (rule := rule) (L := L) (P := P) q
    unfold cTw
    split <;> omega
theorem c_L {j e q : Nat} {k : KindT} {t : List ET} (hk : ks[j]? = some k) (ht : k.2.2.2.2[e]? = some t) (hq : q < t.length) (h8 : t.length ≤ 8) {K : Int32 → Prop} (H : K (lnT t q)) : gR (hJ (hC rs ks vs tl sc wI wL) mp) (some (25, j, e)) 2 2 (fun x => aI .int (hJ (hC rs ks vs tl sc wI wL) mp) x (nI q) K) := by
  obtain ⟨x, hx⟩ := get_lt hq
  rw [lnT_at hx] at H
  exact gR_raw (o_25 hk ht) rfl (aI_raw (o_27 hk ht) (by omega) (mapJ_at hx) H)
theorem c_cnt {j e : Nat} {k : KindT} {t : List ET} (hk : ks[j]? = some k) (ht : k.2.2.2.2[e]? = some t) {K : Int32 → Prop} (H : K (nI t.length)) : gI (hJ (hC rs ks vs tl sc wI wL) mp) (some (25, j, e)) 2 4 K := gI_raw (o_25 hk ht) rfl H
theorem c_P {q : Nat} (hq : q < 6) (hD : (wL 1).length = 6) {K : Int64 → Prop} (H : K ((wL 1).getD q 0)) : aL (hJ (hC rs ks vs tl sc wI wL) mp) (some (9, 0, 0)) (nI q) K := by
  refine c_a9.mpr ⟨(inb_nI (by omega)).mpr (by omega), ?_⟩
  rw [rdL_nI (by omega)]; exact H
def rwo (rs : List RowT) (l : Int32) (x : Int64) : Option Nm := if l = 9 then (ixL x rs.length).map (fun j => (21, j, 0)) else none
theorem f_rowOf {j e q : Nat} {k : KindT} {t : List ET} (hR : rs.length ≤ 60) (hk : ks[j]? = some k) (ht : k.2.2.2.2[e]? = some t) (h6 : t.length ≤ 6) (hD : (wL 1).length = 6) (hq : q < t.length) {Q : Option Nm → MH → Prop} (H : Q (rwo rs (lnT t q) ((wL 1).getD q 0)) (hJ (hC rs ks vs tl sc wI wL) mp)) : F_X1_rowOf d (some (8, 0, 0)) (some (25, j, e)) (nI q) (hJ (hC rs ks vs tl sc wI wL) mp) u Q := by
  unfold F_X1_rowOf
  refine c_L hk ht hq (by omega) ?_
  unfold rwo at H
  by_cases l9 : lnT t q = 9
  · rw [if_pos l9] at H ⊢
    simp only [c_g8_0, c_g8_1, c_a9, inb_nI (show q < 2 ^ 31 by omega), hD, rdL_nI (show q < 2 ^ 31 by omega), c_rc2, true_and, f_findRow hR]
    exact ⟨by omega, H⟩
  · rw [if_neg l9] at H ⊢; exact H
theorem f_needs {rule l : Int32} {x : Int64} {Q : Int32 → MH → Prop} : F_X1_needsTwin d (rwo rs l x) rule (hJ (hC rs ks vs tl sc wI wL) mp) u Q ↔ Q (b2i (twn rs rule l x).isSome) (hJ (hC rs ks vs tl sc wI wL) mp) := by
  unfold F_X1_needsTwin twn rwo
  by_cases l9 : l = 9
  · rw [if_pos l9, if_pos l9]
    rcases hx : ixL x rs.length with _ | r
    · simp only [Option.map_none, nl_none, nz_0, true_and, Option.isSome_none]; rfl
    · obtain ⟨row, hr⟩ := get_lt (ixL_some hx).1
      simp only [Option.map_some, nl_some, c_g21_3, c_g21_1, hr, wr_some, if_b2i, nz_0, nz_1, true_and]
      cases hb : row.2.1
      · simp only [if_true, true_and]
        by_cases a : row.1 = 8
        · simp [a, b2i]
        · by_cases b : rule = 4
          · simp [a, b, b2i]
          · simp [a, b, b2i]
      · simp [b2i]
  · rw [if_neg l9, if_neg l9]
    simp only [nl_none, nz_0, true_and, Option.isSome_none]; rfl
theorem s_countTwins {j e : Nat} {k : KindT} {t : List ET} {rule : Int32} (hR : rs.length ≤ 60) (hk : ks[j]? = some k) (ht : k.2.2.2.2[e]? = some t) (h6 : t.length ≤ 6) (hD : (wL 1).length = 6) {Q : Int32 → MH → Prop} (H : Q (nI (cTw rs rule (lnT t) (fun q => (wL 1).getD q 0) t.length)) (hJ (hC rs ks vs tl sc wI wL) mp)) : F_X1_countTwins d (some (8, 0, 0)) (some (25, j, e)) rule (hJ (hC rs ks vs tl sc wI wL) mp) u Q := by
  have key : ∀ r q : Nat, q + r = t.length → L_X1_countTwins_5 d (some (8, 0, 0)) (some (25, j, e)) rule (nI (cTw rs rule (lnT t) (fun q => (wL 1).getD q 0) q)) (nI q) (hJ (hC rs ks vs tl sc wI wL) mp) u Q := by
    intro r
    induction r with
    | zero =>
      intro q hq
      have : q = t.length := by omega
      subst this
      unfold L_X1_countTwins_5
      refine E_X1_countTwins_5 ?_
      unfold F_X1_countTwins_5
      refine c_cnt hk ht ?_
      rw [if_pos (nI_le (Nat.le_refl _) (by omega))]
      exact H
    | succ r ih =>
      intro q hq
      unfold L_X1_countTwins_5
      refine E_X1_countTwins_5 ?_
      unfold F_X1_countTwins_5
      refine c_cnt hk ht ?_
      rw [if_neg (nI_ge (by omega) (by omega))]
      refine ⟨rfl, f_rowOf hR hk ht h6 hD (by omega) (f_needs.mpr ?_)⟩
      have ih2 := ih (q + 1) (by omega)
      unfold cTw at ih2
      rw [nI_1, nI_1]
      cases hb : (twn rs rule (lnT t q) ((wL 1).getD q 0)).isSome
      · rw [if_pos (show b2i false = 0 from rfl)]
        rw [hb] at ih2
        simpa using ih2
      · rw [if_neg (show ¬ b2i true = 0 by decide)]
        rw [hb] at ih2
        simpa using ih2
  have := key t.length 0 (by omega)
  exact this
/-! the rules -/
def fallN (n : Nat) (L : Nat → Int32) (P : Nat → Int64) : Bool := decide (2 ≤ n) && wi (L 0) 1 5 && wi (L 1) 1 5 && decide (P 1 < P 0)
def exP (L : Nat → Int32) (P : Nat → Int64) : Nat → Int64 := fun q => if q = 0 then cm (L 0) (P 1) else if q = 1 then cm (L 1) (P 0) else P q
def lackN (L : Nat → Int32) (P : Nat → Int64) : Nat → Bool
  | 0 => false
  | q + 1 => lackN L P q || (!wi (L q) 0 7 && decide (P q = -1))
theorem f_isWhole {a : Int32} {h : MH} {Q : Int32 → MH → Prop} : F_X4_isWhole d a h u Q ↔ Q (b2i (wi a 1 5)) h := f_isWithin (d := d) (u := u) (a := a) (b := 1) (c := 5)
theorem s_isFalling {j e : Nat} {k : KindT} {t : List ET} (hk : ks[j]? = some k) (ht : k.2.2.2.2[e]? = some t) (h6 : t.length ≤ 6) (hD : (wL 1).length = 6) {Q : Int32 → MH → Prop} (H : Q (b2i (fallN t.length (lnT t) (fun q => (wL 1).getD q 0))) (hJ (hC rs ks vs tl sc wI wL) mp)) : F_X1_isFalling d (some (8, 0, 0)) (some (25, j, e)) (hJ (hC rs ks vs tl sc wI wL) mp) u Q := by
  unfold F_X1_isFalling F_X1_isFalling_36 F_X1_isFalling_37
  unfold fallN at H
  refine c_cnt hk ht ?_
  by_cases n2 : t.length < 2
  · rw [if_pos (show nI t.length < 2 from nI_lt (b := 2) n2 (by omega)), if_pos rfl]
    rw [show decide (2 ≤ t.length) = false by simp; omega] at H
    exact ⟨nz_0, H⟩
  · rw [if_neg (show ¬ nI t.length < 2 from nI_nlt (b := 2) (by omega) (by omega))]
    rw [show decide (2 ≤ t.length) = true by simp; omega] at H
    refine c_L (q := 0) hk ht (by omega) (by omega) ?_
    simp only [f_isWhole, if_b2i, Bool.true_and] at H ⊢
    cases h0 : wi (lnT t 0) 1 5
    · rw [h0] at H
      simp only [if_true]
      exact ⟨nz_0, H⟩
    · rw [h0] at H
      simp only [Bool.true_eq_false, if_false]
      refine c_L (q := 1) hk ht (by omega) (by omega) ?_
      cases h1 : wi (lnT t 1) 1 5
      · rw [h1] at H
        simp only [if_true]
        exact ⟨nz_0, H⟩
      · rw [h1] at H
        simp only [Bool.true_eq_false, if_false, show ¬ (1 : Int32) = 0 by decide, c_g8_1]
        refine c_P (q := 0) (by omega) hD (c_P (q := 1) (by omega) hD ?_)
        simp only [lg_cmp_le]
        by_cases c : (wL 1).getD 0 0 ≤ (wL 1).getD 1 0
        · rw [if_pos c]
          rw [show decide ((wL 1).getD 1 0 < (wL 1).getD 0 0) = false by simpa using c] at H
          exact ⟨nz_0, H⟩
        · rw [if_neg c]
          rw [show decide ((wL 1).getD 1 0 < (wL 1).getD 0 0) = true by simpa using c] at H
          exact ⟨nz_1, H⟩
theorem s_hasEvery {j e : Nat} {k : KindT} {t : List ET} (hk : ks[j]? = some k) (ht : k.2.2.2.2[e]? = some t) (h6 : t.length ≤ 6) (hD : (wL 1).length = 6) {Q : Int32 → MH → Prop} (H : Q (b2i (!lackN (lnT t) (fun q => (wL 1).getD q 0) t.length)) (hJ (hC rs ks vs tl sc wI wL) mp)) : F_X1_hasEveryPart d (some (8, 0, 0)) (some (25, j, e)) (hJ (hC rs ks vs tl sc wI wL) mp) u Q := by
  have mono : ∀ r q, lackN (lnT t) (fun q => (wL 1).getD q 0) q = true → lackN (lnT t) (fun q => (wL 1).getD q 0) (q + r) = true := by
    intro r
    induction r with
    | zero => intro q h; exact h
    | succ r ih => intro q h; rw [← Nat.add_assoc, lackN, ih q h]; rfl
  have key : ∀ r q : Nat, q + r = t.length → lackN (lnT t) (fun q => (wL 1).getD q 0) q = false → L_X1_hasEveryPart_2 d (some (8, 0, 0)) (some (25, j, e)) (nI q) (hJ (hC rs ks vs tl sc wI wL) mp) u Q := by
    intro r
    induction r with
    | zero =>
      intro q hq hf
      have : q = t.length := by omega
      subst this
      unfold L_X1_hasEveryPart_2
      refine E_X1_hasEveryPart_2 ?_
      unfold F_X1_hasEveryPart_2
      refine c_cnt hk ht ?_
      rw [if_pos (nI_le (Nat.le_refl _) (by omega))]
      rw [hf] at H
      exact ⟨nz_1, H⟩
    | succ r ih =>
      intro q hq hf
      unfold L_X1_hasEveryPart_2
      refine E_X1_hasEveryPart_2 ?_
      unfold F_X1_hasEveryPart_2
      refine c_cnt hk ht ?_
      rw [if_neg (nI_ge (by omega) (by omega))]
      refine c_L hk ht (by omega) (by omega) ?_
      have e1 : lackN (lnT t) (fun q => (wL 1).getD q 0) (q + 1) = (!wi (lnT t q) 0 7 && decide ((wL 1).getD q 0 = -1)) := by rw [lackN, hf]; rfl
      simp only [f_isNumber, if_b2i]
      rw [nI_1]
      cases hw : wi (lnT t q) 0 7
      · simp only [if_true, c_g8_1, c_a9, inb_nI (show q < 2 ^ 31 by omega), hD, rdL_nI (show q < 2 ^ 31 by omega), lg_cmp_eq]
        refine ⟨by omega, ?_⟩
        by_cases z : (wL 1).getD q 0 = -1
        · rw [if_pos z]
          have e2 := mono r (q + 1) (by rw [e1, hw, z]; rfl)
          rw [show q + 1 + r = t.length by omega] at e2
          rw [e2] at H
          exact ⟨nz_0, H⟩
        · rw [if_neg z]
          exact ih (q + 1) (by omega) (by rw [e1, decide_eq_false z, Bool.and_false])
      · simp only [Bool.true_eq_false, if_false]
        exact ih (q + 1) (by omega) (by rw [e1, hw]; rfl)
  exact key t.length 0 (by omega) rfl
theorem s_exchange {j e : Nat} {k : KindT} {t : List ET} (hk : ks[j]? = some k) (ht : k.2.2.2.2[e]? = some t) (h6 : t.length ≤ 6) (h2 : 2 ≤ t.length) (hD : (wL 1).length = 6) (l0 : wi (lnT t 0) 1 5 = true) (l1 : wi (lnT t 1) 1 5 = true) {Q : MH → Prop} (H : Q (hJ (hC rs ks vs tl sc wI (up wL 1 (((wL 1).set 0 (cm (lnT t 0) ((wL 1).getD 1 0))).set 1 (cm (lnT t 1) ((wL 1).getD 0 0))))) mp)) : F_X1_exchange d (some (8, 0, 0)) (some (25, j, e)) (hJ (hC rs ks vs tl sc wI wL) mp) u Q := by
  have w7 : ∀ l : Int32, wi l 1 5 = true → wi l 0 7 = true := by
    intro l hl
    unfold wi at hl ⊢
    simp only [Bool.and_eq_true, decide_eq_true_eq, Int32.le_iff_toInt_le] at hl ⊢
    have : (1 : Int32).toInt = 1 := rfl
    have : (5 : Int32).toInt = 5 := rfl
    have : (0 : Int32).toInt = 0 := rfl
    have : (7 : Int32).toInt = 7 := rfl
    omega
  have a0 : ∀ {wL : Nat → List Int64} {K : Int64 → Prop}, (wL 1).length = 6 → K ((wL 1).getD 0 0) → aL (hJ (hC rs ks vs tl sc wI wL) mp) (some (9, 0, 0)) 0 K := by
    intro wL K hD hk
    refine (c_a9 (i := nI 0)).mpr ⟨(inb_nI (by omega)).mpr (by omega), ?_⟩
    rw [rdL_nI (by omega)]; exact hk
  have a1 : ∀ {wL : Nat → List Int64} {K : Int64 → Prop}, (wL 1).length = 6 → K ((wL 1).getD 1 0) → aL (hJ (hC rs ks vs tl sc wI wL) mp) (some (9, 0, 0)) 1 K := by
    intro wL K hD hk
    refine (c_a9 (i := nI 1)).mpr ⟨(inb_nI (by omega)).mpr (by omega), ?_⟩
    rw [rdL_nI (by omega)]; exact hk
  unfold F_X1_exchange
  simp only [c_g8_1]
  refine a0 hD ?_
  refine c_L (q := 0) hk ht (by omega) (by omega) ?_
  refine a1 hD ?_
  refine f_come (w7 _ l0) ?_
  refine (c_s9 (i := nI 0)).mpr ⟨(inb_nI (by omega)).mpr (by omega), ?_⟩
  simp only [c_g8_1, nI_clamp (show 0 < 2 ^ 31 by omega)]
  refine c_L (q := 1) hk ht (by omega) (by omega) ?_
  refine f_come (w7 _ l1) ?_
  refine (c_s9 (i := nI 1)).mpr ⟨(inb_nI (by omega)).mpr (by rw [up_s, List.length_set]; omega), ?_⟩
  simp only [nI_clamp (show 1 < 2 ^ 31 by omega), up_s, up_u]
  exact H
/-- what the rules leave of the parts; none: thrown -/
def ruled (rule : Int32) (n : Nat) (L : Nat → Int32) (P : Nat → Int64) : Option (Nat → Int64) := if rule = 1 then (if fallN n L P then none else some P) else if rule = 2 then (if fallN n L P then some (exP L P) else some P) else if rule = 3 then (if lackN L P n then none else some P) else some P
theorem s_obeys {j e : Nat} {k : KindT} {t : List ET} {rule : Int32} (hk : ks[j]? = some k) (ht : k.2.2.2.2[e]? = some t) (h6 : t.length ≤ 6) (hD : (wL 1).length = 6) {Q : Int32 → MH → Prop} (H1 : ruled rule t.length (lnT t) (fun q => (wL 1).getD q 0) = none → Q 0 (hJ (hC rs ks vs tl sc wI wL) mp)) (H2 : ∀ P', ruled rule t.length (lnT t) (fun q => (wL 1).getD q 0) = some P' → ∀ l1 : List Int64, l1.length = 6 → (∀ q, q < t.length → l1.getD q 0 = P' q) → Q 1 (hJ (hC rs ks vs tl sc wI (up wL 1 l1)) mp)) : F_X1_obeys d (some (8, 0, 0)) (some (25, j, e)) rule (hJ (hC rs ks vs tl sc wI wL) mp) u Q := by
  have same : ∀ P', (fun q => (wL 1).getD q 0) = P' → (∀ l1 : List Int64, l1.length = 6 → (∀ q, q < t.length → l1.getD q 0 = P' q) → Q 1 (hJ (hC rs ks vs tl sc wI (up wL 1 l1)) mp)) → Q 1 (hJ (hC rs ks vs tl sc wI wL) mp) := by
    intro P' hP hh
    have := hh (wL 1) hD (fun q _ => by rw [← hP])
    rw [up_id] at this
    exact this
  unfold F_X1_obeys
  unfold ruled at H1 H2
  by_cases r1 : rule = 1
  · rw [if_pos r1] at H1 H2 ⊢
    refine ⟨rfl, s_isFalling hk ht h6 hD ?_⟩
    cases hf : fallN t.length (lnT t) (fun q => (wL 1).getD q 0)
    · rw [hf] at H2
      rw [if_pos (show b2i false = 0 from rfl)]
      exact ⟨nz_1, same _ rfl (H2 _ rfl)⟩
    · rw [hf] at H1
      rw [if_neg (show ¬ b2i true = 0 by decide)]
      exact ⟨nz_0, H1 rfl⟩
  · rw [if_neg r1] at H1 H2 ⊢
    by_cases r2 : rule = 2
    · rw [if_pos r2] at H1 H2 ⊢
      refine ⟨rfl, s_isFalling hk ht h6 hD ?_⟩
      cases hf : fallN t.length (lnT t) (fun q => (wL 1).getD q 0)
      · rw [hf] at H2
        rw [if_pos (show b2i false = 0 from rfl)]
        exact ⟨nz_1, same _ rfl (H2 _ rfl)⟩
      · rw [hf] at H2
        rw [if_neg (show ¬ b2i true = 0 by decide)]
        have hf2 := hf
        unfold fallN at hf2
        simp only [Bool.and_eq_true, decide_eq_true_eq] at hf2
        refine ⟨rfl, s_exchange hk ht h6 hf2.1.1.1 hD hf2.1.1.2 hf2.1.2 ⟨nz_1, ?_⟩⟩
        refine H2 _ rfl _ (by simp [hD]) (fun q hq => ?_)
        simp only [lset_getD, List.length_set, exP]
        by_cases q0 : q = 0
        · subst q0
          rw [if_neg (by omega), if_pos ⟨rfl, by omega⟩, if_pos rfl]
        · rw [if_neg q0]
          by_cases q1 : q = 1
          · subst q1
            rw [if_pos ⟨rfl, by omega⟩, if_pos rfl]
          · rw [if_neg (by omega), if_neg (by omega), if_neg q1]
    · rw [if_neg r2] at H1 H2 ⊢
      by_cases r3 : rule = 3
      · rw [if_pos r3] at H1 H2 ⊢
        refine ⟨rfl, s_hasEvery hk ht h6 hD ?_⟩
        cases hf : lackN (lnT t) (fun q => (wL 1).getD q 0) t.length
        · rw [hf] at H2
          exact ⟨nz_1, same _ rfl (H2 _ rfl)⟩
        · rw [hf] at H1
          exact ⟨nz_0, H1 rfl⟩
      · rw [if_neg r3] at H1 H2 ⊢
        exact ⟨nz_1, same _ rfl (H2 _ rfl)⟩
end Fin1
