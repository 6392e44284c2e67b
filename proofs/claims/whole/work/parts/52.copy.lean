section OpCopy
variable {rs : List RowT} {ks : List KindT} {vs : List ValT} {tl : Nat → Nat → Nat → List Int32} {sc : Nat → Int32} {wI : Nat → List Int32} {wL : Nat → List Int64} {m : MS} {d d2 u : Nat} {v1 v2 v3 v5 v6 : Int32} {v4 : Int64} {W : Prop → Prop}
variable {cp mp : MH}
def cpyS (src l : List Int64) (s t : Nat) : Nat → List Int64
  | 0 => l
  | c + 1 => (cpyS src l s t c).set (t + c) (src.getD (s + c) 0)
theorem cpyS_len {src l : List Int64} {s t c : Nat} : (cpyS src l s t c).length = l.length := by
  induction c with
  | zero => rfl
  | succ c ih => simp [cpyS, ih]
theorem cpyS_at {src l : List Int64} {s t c i : Nat} : (cpyS src l s t c).getD i 0 = if t ≤ i ∧ i < t + c ∧ i < l.length then src.getD (s + (i - t)) 0 else l.getD i 0 := by
  induction c with
  | zero => rw [if_neg (by omega)]; rfl
  | succ c ih =>
    simp only [cpyS, lset_getD, cpyS_len, ih]
    by_cases e : t + c = i ∧ i < l.length
    · rw [if_pos e, if_pos (by omega), show i - t = c by omega]
    · rw [if_neg e]
      by_cases q : t ≤ i ∧ i < t + c ∧ i < l.length
      · rw [if_pos q, if_pos (by omega)]
      · rw [if_neg q, if_neg (by omega)]
theorem ext_getD {l k : List Int64} (h1 : l.length = k.length) (h2 : ∀ i, i < l.length → l.getD i 0 = k.getD i 0) : l = k := by
  apply List.ext_getElem h1
  intro i hi hi'
  have := h2 i hi
  simpa [List.getD_eq_getElem?_getD, hi, hi'] using this
theorem cpN_S {src l : List Int64} {a b n : Nat} (h1 : a + n ≤ src.length) (h2 : b + n ≤ l.length) : cpN src l a b n = cpyS src l a b n := by
  apply ext_getD
  · rw [cpyS_len]; simp [cpN]; omega
  · intro i hi
    rw [cpyS_at]
    have hl : (cpN src l a b n).length = l.length := by simp [cpN]; omega
    rw [hl] at hi
    unfold cpN
    simp only [List.getD_eq_getElem?_getD]
    by_cases q : i < b
    · rw [if_neg (by omega), List.append_assoc, List.getElem?_append_left (by simp; omega), List.getElem?_take_of_lt q]
    · by_cases z : i < b + n
      · rw [if_pos (by omega), List.append_assoc, List.getElem?_append_right (by simp; omega), List.getElem?_append_left (by simp; omega), List.getElem?_take_of_lt (by simp; omega), List.getElem?_drop]
        simp only [List.length_take]
        rw [show a + (i - min b l.length) = a + (i - b) by omega]
      · rw [if_neg (by omega), List.getElem?_append_right (by simp; omega), List.getElem?_drop]
        simp only [List.length_append, List.length_take, List.length_drop]
        rw [show b + n + (i - (min b l.length + min n (src.length - a))) = i by omega]
def run (a n : Int32) (len : Nat) : Bool := decide (¬ a < 0 ∧ ¬ n < 0 ∧ a.toNatClampNeg + n.toNatClampNeg ≤ len)
theorem run_some {a n : Int32} {len : Nat} (h : run a n len = true) : ∃ a' n' : Nat, a = nI a' ∧ n = nI n' ∧ a' + n' ≤ len := by
  have := of_decide_eq_true h
  exact ⟨_, _, nI_toClamp this.1, nI_toClamp this.2.1, this.2.2⟩
theorem f_hasRun {j : Nat} {r : RowT} (hj : rs[j]? = some r) (hr : r.2.2.length ≤ 20) {a n : Int32} {Q : Int32 → MH → Prop} : F_X5_hasRun d (some (21, j, 0)) a n (hJ (hC rs ks vs tl sc wI wL) mp) u Q ↔ Q (b2i (run a n r.2.2.length)) (hJ (hC rs ks vs tl sc wI wL) mp) := by
  unfold F_X5_hasRun run
  simp only [nz_0, nz_1, true_and, c_g21_2, c_n22, hj, wr_some]
  by_cases h1 : a < 0
  · rw [if_pos h1, decide_eq_false (fun z => z.1 h1)]; rfl
  · rw [if_neg h1]
    by_cases h2 : n < 0
    · rw [if_pos h2, decide_eq_false (fun z => z.2.1 h2)]; rfl
    · rw [if_neg h2]
      obtain ⟨a', ha, rfl⟩ := nI_of h1
      obtain ⟨n', hn, rfl⟩ := nI_of h2
      rw [nI_clamp ha, nI_clamp hn]
      by_cases h3 : r.2.2.length < a'
      · rw [if_pos (nI_lt h3 ha), decide_eq_false (fun z => by omega)]; rfl
      · rw [if_neg (nI_nlt (by omega) (by omega))]
        have e : (nI r.2.2.length - nI a').toInt = (r.2.2.length : Int) - a' := pk_sub_toInt (by omega) (by omega)
        have e2 : (nI r.2.2.length - nI a' < nI n') ↔ r.2.2.length < a' + n' := by
          rw [Int32.lt_iff_toInt_lt, e, nI_toInt hn]; omega
        simp only [e2]
        by_cases h4 : r.2.2.length < a' + n'
        · rw [if_pos h4, decide_eq_false (fun z => by omega)]; rfl
        · rw [if_neg h4, decide_eq_true ⟨h1, h2, by omega⟩]; rfl
theorem g_isBeyond {len : Nat} (hl : len ≤ 20) {a n : Int32} {h : MH} {Q : Int32 → MH → Prop} : F_X12_isBeyond d a n (nI len) h u Q ↔ Q (b2i (!run a n len)) h := by
  unfold F_X12_isBeyond run
  simp only [nz_0, nz_1, true_and]
  by_cases h1 : a < 0
  · rw [if_pos h1, decide_eq_false (fun z => z.1 h1)]; rfl
  · rw [if_neg h1]
    by_cases h2 : n < 0
    · rw [if_pos h2, decide_eq_false (fun z => z.2.1 h2)]; rfl
    · rw [if_neg h2]
      obtain ⟨a', ha, rfl⟩ := nI_of h1
      obtain ⟨n', hn, rfl⟩ := nI_of h2
      rw [nI_clamp ha, nI_clamp hn]
      have e2 : (lg_cmp ((nI a').toInt64 + (nI n').toInt64) (nI len).toInt64 ≤ 0) ↔ a' + n' ≤ len := by
        have e3 : ((nI a').toInt64 + (nI n').toInt64).toInt = (a' : Int) + n' := by
          rw [Int64.toInt_add, Int32.toInt_toInt64, Int32.toInt_toInt64, nI_toInt ha, nI_toInt hn]
          apply Int.bmod_eq_of_le <;> omega
        have e4 : (nI len).toInt64.toInt = len := by rw [Int32.toInt_toInt64, nI_toInt (by omega)]
        unfold lg_cmp
        simp only [gt_iff_lt, Int64.lt_iff_toInt_lt, ← Int64.toInt_inj, e3, e4]
        by_cases q : (len : Int) < a' + n'
        · rw [if_pos q]
          constructor
          · intro z; exact absurd z (by decide)
          · intro z; omega
        · rw [if_neg q]
          constructor
          · intro; omega
          · intro; split <;> decide
      simp only [e2]
      by_cases h4 : a' + n' ≤ len
      · rw [if_pos h4, decide_eq_true ⟨h1, h2, h4⟩]; rfl
      · rw [if_neg h4, decide_eq_false (fun z => by omega)]; rfl
end OpCopy
