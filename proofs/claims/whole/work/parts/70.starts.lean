section Starts
variable {rs : List RowT} {ks : List KindT} {vs : List ValT} {tl : Nat → Nat → Nat → List Int32} {sc : Nat → Int32} {wI : Nat → List Int32} {wL : Nat → List Int64} {m : MS} {d d2 u : Nat} {v1 v2 v3 v5 v6 : Int32} {v4 : Int64} {W : Prop → Prop}
variable {cp mp h : MH}
def mVal (m : MS) (n j e made : Nat) : MS := mI (mA (mA (mA (mA m 25 ((m.2.1 25).set n (nI j))) 26 ((m.2.1 26).set n (nI e))) 27 ((m.2.1 27).set n (nI made))) 14 ((m.2.1 14).set j (nI made + 1))) 24 (nI n + 1)
theorem g_newValue {n j e made : Nat} (hn : n < 200) (hj : j < 16) (h24 : m.1 24 = nI n) (l25 : (m.2.1 25).length = 200) (l26 : (m.2.1 26).length = 200) (l27 : (m.2.1 27).length = 200) (l13 : (m.2.1 13).length = 16) (l14 : (m.2.1 14).length = 16) (e13 : (m.2.1 13).getD j 0 = nI e) (e14 : (m.2.1 14).getD j 0 = nI made) {Q : Int32 → MH → Prop} (H : Q (nI n) (hJ cp (hM (mVal m n j e made)))) : F_X12_newValue d mo (nI j) (hJ cp (hM m)) u Q := by
  unfold F_X12_newValue
  simp only [m_g25, m_g24, m_s25, h24, inb_nI (show n < 2 ^ 31 by omega), l25, nI_clamp (show n < 2 ^ 31 by omega), m_g26, m_g13, m_a13, inb_nI (show j < 2 ^ 31 by omega), l13, rdI_nI (show j < 2 ^ 31 by omega), e13, m_s26, l26, m_g27, m_g14, m_a14, l14, e14, m_s27, l27, m_s14, nI_clamp (show j < 2 ^ 31 by omega), m_p24, mA_1, mB_1, mI_1, mI_21, mI_22, mA_21, mA_22, mB_21, mB_22, Nat.reduceEqDiff, Nat.reduceEqDiff, reduceCtorEq, if_false, if_true]
  refine ⟨hn, hj, hn, hj, hn, hj, hj, ?_⟩
  rw [show nI n + 1 - 1 = nI n by rw [nI_1, nI_pred]]
  exact H
theorem g_newConstant {n j e made : Nat} {l : Int32} (hn : n < 200) (hj : j < 16) (h24 : m.1 24 = nI n) (l25 : (m.2.1 25).length = 200) (l26 : (m.2.1 26).length = 200) (l27 : (m.2.1 27).length = 200) (l28 : (m.2.1 28).length = 200) (l29 : (m.2.1 29).length = 200) (l30 : (m.2.1 30).length = 200) (l13 : (m.2.1 13).length = 16) (l14 : (m.2.1 14).length = 16) (e13 : (m.2.1 13).getD j 0 = nI e) (e14 : (m.2.1 14).getD j 0 = nI made) {Q : Int32 → MH → Prop} (H : Q (nI n) (hJ cp (hM (mA (mA (mA (mVal m n j e made) 30 ((m.2.1 30).set n l)) 28 ((m.2.1 28).set n 1)) 29 ((m.2.1 29).set n 1))))) : F_X12_newConstant d mo (nI j) l (hJ cp (hM m)) u Q := by
  unfold F_X12_newConstant
  refine ⟨m_rc, g_newValue hn hj h24 l25 l26 l27 l13 l14 e13 e14 ?_⟩
  simp only [m_g30, m_s30, inb_nI (show n < 2 ^ 31 by omega), nI_clamp (show n < 2 ^ 31 by omega), m_g28, m_s28, m_g29, m_s29, mVal, mA_1, mB_1, mI_1, mI_21, mI_22, mA_21, mA_22, mB_21, mB_22, Nat.reduceEqDiff, Nat.reduceEqDiff, reduceCtorEq, if_false, if_true]
  refine ⟨by omega, by omega, by omega, ?_⟩
  exact H
def conN (j : Nat) : Nat → Nat → List KindT × List ValT → List KindT × List ValT
  | _, 0, s => s
  | i, n + 1, s => match s.1[j]? with
    | some k => match k.2.2.2.2[0]? with
      | some t => match t[i]? with
        | some x => conN j (i + 1) n (s.1.set j (kCon k 0 i t x s.2.length), s.2 ++ [(j, 0, k.2.2.2.1, x.1, 1, 1, [])])
        | none => s
      | none => s
    | none => s
theorem conN_s {j i n : Nat} {k : KindT} {t : List ET} {x : ET} (hk : ks[j]? = some k) (ht : k.2.2.2.2[0]? = some t) (hx : t[i]? = some x) : conN j i (n + 1) (ks, vs) = conN j (i + 1) n (ks.set j (kCon k 0 i t x vs.length), vs ++ [(j, 0, k.2.2.2.1, x.1, 1, 1, [])]) := by
  rw [conN]
  simp only [hk, ht, hx]
theorem g_starts60 {j : Nat} {Q : Int32 → MH → Prop} : ∀ (n i : Nat) (ks : List KindT) (vs : List ValT) (m : MS) (k : KindT) (t : List ET), WInv rs ks vs tl sc wI wL m j i → ks[j]? = some k → k.1 = true → k.2.2.1 = true → k.2.2.2.2 = [t] → i + n = t.length → vs.length + n ≤ 200 → (∀ m', WInv rs (conN j i n (ks, vs)).1 (conN j i n (ks, vs)).2 tl sc wI wL m' j t.length → Q 1 (hJ cp (hM m'))) → L_X12_starts_60 d mo (nI j) (nI (4 * j)) (nI i) (hJ cp (hM m)) u Q := by
  intro n
  induction n with
  | zero =>
    intro i ks vs m k t I hk hc hs hkt hin hvn H
    have hj := (List.getElem?_eq_some_iff.mp hk).1
    have hK16 := I.1.2.1.1
    obtain ⟨c0, c1, c2, c3, c4, c5, c6, c7, c8, c9, c10, c11⟩ := I.2.2.1
    obtain ⟨d1, d2, d3, d4, d5, d6⟩ := c10 j k hk
    obtain ⟨f1, f2⟩ := d6 0 t (by rw [hkt]; rfl)
    unfold L_X12_starts_60
    refine E_X12_starts_60 ?_
    unfold F_X12_starts_60
    have ht8 : t.length ≤ 8 := by
      have := I.1.2.1.2 j k hk
      rw [if_pos rfl] at this
      have := (this.2.2.2.1 t (by rw [hkt]; simp)).1
      split at this <;> omega
    simp only [m_g10, m_a10, inb_nI (show j < 2 ^ 31 by omega), rdI_nI (show j < 2 ^ 31 by omega), c1, d1, hc, m_g15, m_a15, inb_nI (show 4 * j < 2 ^ 31 by omega), rdI_nI (show 4 * j < 2 ^ 31 by omega), c6]
    refine ⟨by omega, ?_⟩
    rw [if_neg (by decide)]
    refine ⟨by omega, ?_⟩
    rw [show (m.2.1 15).getD (4 * j) 0 = nI t.length from f1, if_pos (nI_le (by omega) (by omega))]
    refine ⟨nz_1, H m ?_⟩
    have : i = t.length := by omega
    rw [← this]
    exact I
  | succ n ih =>
    intro i ks vs m k t I hk hc hs hkt hin hvn H
    have hj := (List.getElem?_eq_some_iff.mp hk).1
    have hK16 := I.1.2.1.1
    obtain ⟨c0, c1, c2, c3, c4, c5, c6, c7, c8, c9, c10, c11⟩ := I.2.2.1
    obtain ⟨d1, d2, d3, d4, d5, d6⟩ := c10 j k hk
    have ht0 : k.2.2.2.2[0]? = some t := by rw [hkt]; rfl
    obtain ⟨f1, f2⟩ := d6 0 t ht0
    obtain ⟨x, hx⟩ := get_lt (show i < t.length by omega)
    obtain ⟨g1, g2, -⟩ := f2 i x hx
    obtain ⟨v0, v1, v2, v3, v4, v5, v6, -⟩ := I.2.2.2.1
    have ht8 : t.length ≤ 8 := by
      have := I.1.2.1.2 j k hk
      rw [if_pos rfl] at this
      have := (this.2.2.2.1 t (by rw [hkt]; simp)).1
      split at this <;> omega
    unfold L_X12_starts_60
    refine E_X12_starts_60 ?_
    unfold F_X12_starts_60
    simp only [m_g10, m_a10, inb_nI (show j < 2 ^ 31 by omega), rdI_nI (show j < 2 ^ 31 by omega), c1, d1, hc, m_g15, m_a15, inb_nI (show 4 * j < 2 ^ 31 by omega), rdI_nI (show 4 * j < 2 ^ 31 by omega), c6]
    refine ⟨by omega, ?_⟩
    rw [if_neg (by decide)]
    refine ⟨by omega, ?_⟩
    rw [show (m.2.1 15).getD (4 * j) 0 = nI t.length from f1, if_neg (nI_ge (by omega) (by omega))]
    simp only [m_g18, m_g16, m_a16, idx8, inb_nI (show 8 * (4 * j) + i < 2 ^ 31 by omega), rdI_nI (show 8 * (4 * j) + i < 2 ^ 31 by omega), c7]
    refine ⟨by omega, m_rc, ?_⟩
    rw [show (m.2.1 16).getD (8 * (4 * j) + i) 0 = x.1 from g1]
    refine g_newConstant (n := vs.length) (e := 0) (made := k.2.2.2.1) (by omega) (by omega) v0 v1 v2 v3 v4 v5 v6 c4 c5 (by rw [d4, hkt]; rfl) d5 ?_
    simp only [m_s18, inb_nI (show 8 * (4 * j) + i < 2 ^ 31 by omega), nI_clamp (show 8 * (4 * j) + i < 2 ^ 31 by omega), mVal, mA_1, mB_1, mI_1, mI_21, mI_22, mA_21, mA_22, mB_21, mB_22, Nat.reduceEqDiff, Nat.reduceEqDiff, reduceCtorEq, if_false, if_true, c9]
    refine ⟨by omega, ?_⟩
    have I2 := I.con (e := 0) hk hc hs ht0 (by rw [hkt]; rfl) hx (by omega)
    rw [nI_1]
    refine ih (i + 1) _ _ _ (kCon k 0 i t x vs.length) (t.set i (x.1, x.2.1, nI vs.length)) I2 (List.getElem?_set_self hj) hc hs (by simp [kCon, hkt]) (by rw [List.length_set]; omega) (by simp; omega) (fun m' hm' => H m' ?_)
    rw [conN_s hk ht0 hx]
    rw [List.length_set] at hm'
    exact hm'
theorem s_start51 {j : Nat} {Q : MH → Prop} : ∀ (n i : Nat) (ks : List KindT) (vs : List ValT) (m : MS) (k : KindT) (t : List ET) (u : Nat), WInv rs ks vs tl sc wI wL m j i → ks[j]? = some k → k.1 = true → k.2.2.1 = true → k.2.2.2.2 = [t] → i + n = t.length → vs.length + n ≤ 200 → 10 * n ≤ u → Q (hJ (hC rs (conN j i n (ks, vs)).1 (conN j i n (ks, vs)).2 tl sc wI wL) mp) → L_X11_start_51 (d + 2) br (some (23, j, 0)) (nI t.length) (nI i) (hJ (hC rs ks vs tl sc wI wL) mp) u Q := by
  intro n
  induction n with
  | zero =>
    intro i ks vs m k t u I hk hc hs hkt hin hvn hu H
    have ht8 : t.length ≤ 8 := by
      have := I.1.2.1.2 j k hk
      rw [if_pos rfl] at this
      have := (this.2.2.2.1 t (by rw [hkt]; simp)).1
      split at this <;> omega
    unfold L_X11_start_51
    refine E_X11_start_51 ?_
    unfold F_X11_start_51
    rw [if_pos (nI_le (by omega) (by omega))]
    exact H
  | succ n ih =>
    intro i ks vs m k t u I hk hc hs hkt hin hvn hu H
    have hj := (List.getElem?_eq_some_iff.mp hk).1
    have ht8 : t.length ≤ 8 := by
      have := I.1.2.1.2 j k hk
      rw [if_pos rfl] at this
      have := (this.2.2.2.1 t (by rw [hkt]; simp)).1
      split at this <;> omega
    have ht0 : k.2.2.2.2[0]? = some t := by rw [hkt]; rfl
    obtain ⟨x, hx⟩ := get_lt (show i < t.length by omega)
    unfold L_X11_start_51
    refine E_X11_start_51 ?_
    unfold F_X11_start_51
    rw [if_neg (nI_ge (by omega) (by omega))]
    refine ⟨rfl, s_addConstant hk ht0 (by rw [hkt]; rfl) (by rw [hkt]; simp) hx ht8 (by omega) (by omega) ?_⟩
    rw [nI_1]
    have I2 := I.con (e := 0) hk hc hs ht0 (by rw [hkt]; rfl) hx (by omega)
    have := ih (i + 1) _ _ _ (kCon k 0 i t x vs.length) (t.set i (x.1, x.2.1, nI vs.length)) (u - 10) I2 (List.getElem?_set_self hj) hc hs (by simp [kCon, hkt]) (by rw [List.length_set]; omega) (by simp; omega) (by omega) (by rw [conN_s hk ht0 hx] at H; exact H)
    rw [List.length_set] at this
    exact this
end Starts
