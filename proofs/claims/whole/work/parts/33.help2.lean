/-! methods that read the state -/
theorem lt64_0 (v : Int64) : v < 0 ↔ v.toInt < 0 := by rw [Int64.lt_iff_toInt_lt]; rfl
theorem le64_n (v : Int64) {n : Nat} (hn : n < 2 ^ 31) : (nI n).toInt64 ≤ v ↔ (n : Int) ≤ v.toInt := by rw [Int64.le_iff_toInt_le, Int32.toInt_toInt64, nI_toInt hn]
theorem l2i_nat {v : Int64} {j : Nat} (h : v.toInt = j) (hj : j < 2 ^ 31) : v.toInt32 = nI j := by
  have : v = lN j := by
    rw [← Int64.toInt_inj, h, lN_toInt hj]
  rw [this, lN_i]
section H2
variable {rs : List RowT} {ks : List KindT} {vs : List ValT} {tl : Nat → Nat → Nat → List Int32} {sc : Nat → Int32} {wI : Nat → List Int32} {wL : Nat → List Int64} {mp : MH} {d u : Nat}
theorem f_findRow (hr : rs.length ≤ 60) {v : Int64} {Q : Option Nm → MH → Prop} : F_X7_findRow d sto v (hJ (hC rs ks vs tl sc wI wL) mp) u Q ↔ Q ((ixL v rs.length).map (fun j => (21, j, 0))) (hJ (hC rs ks vs tl sc wI wL) mp) := by
  unfold F_X7_findRow
  simp only [lg_cmp_lt, lg_cmp_ge, c_g2_2, c_g2_0, c_a3, lt64_0, le64_n v (show rs.length < 2 ^ 31 by omega)]
  by_cases a : v.toInt < 0
  · rw [if_pos a]; simp [ixL]; rw [if_neg (by omega)]
  · rw [if_neg a]
    by_cases b : (rs.length : Int) ≤ v.toInt
    · rw [if_pos b]; simp [ixL]; rw [if_neg (by omega)]
    · rw [if_neg b]
      obtain ⟨j, hj⟩ : ∃ j : Nat, v.toInt = j := ⟨v.toInt.toNat, by omega⟩
      have hjl : j < rs.length := by omega
      rw [l2i_nat hj (by omega), nI_clamp (by omega)]
      unfold ixL
      rw [if_pos hjl, if_pos (show 0 ≤ v.toInt ∧ v.toInt < (rs.length : Int) by omega), hj]
      simp [nI_pos (show j < 2 ^ 31 by omega), show j < 60 by omega]
theorem f_findValue (hr : vs.length ≤ 200) {v : Int64} {Q : Option Nm → MH → Prop} : F_X7_findValue d sto v (hJ (hC rs ks vs tl sc wI wL) mp) u Q ↔ Q ((ixL v vs.length).map (fun j => (29, j, 0))) (hJ (hC rs ks vs tl sc wI wL) mp) := by
  unfold F_X7_findValue
  simp only [lg_cmp_lt, lg_cmp_ge, c_g2_3, c_g2_1, c_a4, lt64_0, le64_n v (show vs.length < 2 ^ 31 by omega)]
  by_cases a : v.toInt < 0
  · rw [if_pos a]; simp [ixL]; rw [if_neg (by omega)]
  · rw [if_neg a]
    by_cases b : (vs.length : Int) ≤ v.toInt
    · rw [if_pos b]; simp [ixL]; rw [if_neg (by omega)]
    · rw [if_neg b]
      obtain ⟨j, hj⟩ : ∃ j : Nat, v.toInt = j := ⟨v.toInt.toNat, by omega⟩
      have hjl : j < vs.length := by omega
      rw [l2i_nat hj (by omega), nI_clamp (by omega)]
      unfold ixL
      rw [if_pos hjl, if_pos (show 0 ≤ v.toInt ∧ v.toInt < (vs.length : Int) by omega), hj]
      simp [nI_pos (show j < 2 ^ 31 by omega), show j < 200 by omega]
theorem f_findKind (hr : ks.length ≤ 16) {v : Int32} {Q : Option Nm → MH → Prop} : F_X11_findKind d br v (hJ (hC rs ks vs tl sc wI wL) mp) u Q ↔ Q ((ix v ks.length).map (fun j => (23, j, 0))) (hJ (hC rs ks vs tl sc wI wL) mp) := by
  unfold F_X11_findKind
  simp only [c_g1_8, f_isWithin, wi_ix (show ks.length < 2 ^ 30 by omega), if_b2i, c_g1_5, c_a18]
  cases hx : ix v ks.length with
  | none => simp
  | some j =>
    obtain ⟨h1, h2, h3, h4⟩ := ix_some hx
    simp [h3, h4, h1, show j < 16 by omega]
theorem f_newest {j : Nat} {k : KindT} (hk : ks[j]? = some k) (h1 : 1 ≤ k.2.2.2.2.length) (h4 : k.2.2.2.2.length ≤ 4) {Q : Option Nm → MH → Prop} : F_X3_newest d (some (23, j, 0)) (hJ (hC rs ks vs tl sc wI wL) mp) u Q ↔ Q (some (25, j, k.2.2.2.2.length - 1)) (hJ (hC rs ks vs tl sc wI wL) mp) := by
  unfold F_X3_newest
  simp only [c_g23_3, c_g23_4, hk, wr_some, c_a24]
  have e : nI k.2.2.2.2.length - 1 = nI (k.2.2.2.2.length - 1) := pk_sub (a := k.2.2.2.2.length) (b := 1) h1
  rw [e, nI_clamp (by omega)]
  simp [nI_pos (show k.2.2.2.2.length - 1 < 2 ^ 31 by omega), show k.2.2.2.2.length - 1 < 4 by omega, show k.2.2.2.2.length - 1 < k.2.2.2.2.length by omega]
theorem f_failed {f : Int32} {Q : Int32 → MH → Prop} : F_X11_failed d br f (hJ (hC rs ks vs tl sc wI wL) mp) u Q ↔ Q (-10 - f) (hJ (hC rs ks vs tl (up (up sc 3 f) 4 (sc 4 + 1)) wI wL) mp) := by
  unfold F_X11_failed
  simp only [c_p1_12, c_g1_13, c_p1_13]
  rw [up_n (show 4 ≠ 3 by decide)]
theorem f_lost {f : Int32} {Q : Int64 → MH → Prop} : F_X11_lost d br f (hJ (hC rs ks vs tl sc wI wL) mp) u Q ↔ Q (-9223372036854775808) (hJ (hC rs ks vs tl (up (up sc 3 f) 4 (sc 4 + 1)) wI wL) mp) := by
  unfold F_X11_lost
  simp only [c_rc1, f_failed, true_and]
theorem f_leaveTrace {n : Int32} {Q : MH → Prop} : F_X11_leaveTrace d br n (hJ (hC rs ks vs tl sc wI wL) mp) u Q ↔ Q (hJ (hC rs ks vs tl (up sc 2 (31 * sc 2 + n)) wI wL) mp) := by
  unfold F_X11_leaveTrace
  simp only [c_g1_11, c_p1_11]
theorem le_ix {n : Nat} {v : Int32} (hn : n < 2 ^ 31) (h0 : ¬ v < 0) : nI n ≤ v ↔ ix v n = none := by
  rw [Int32.le_iff_toInt_le, nI_toInt hn]
  rw [i32_neg] at h0
  unfold ix
  simp only [i32_neg, clampI]
  by_cases b : v.toInt < n
  · rw [if_pos (by omega)]; simp; omega
  · rw [if_neg (by omega)]; simp; omega
theorem neg_ix {n : Nat} {v : Int32} (h0 : v < 0) : ix v n = none := by
  unfold ix
  rw [if_neg (fun q => q.1 h0)]
theorem f_hasCell {j : Nat} {r : RowT} (hj : rs[j]? = some r) (hl : r.2.2.length ≤ 20) {v : Int32} {Q : Int32 → MH → Prop} : F_X5_hasCell d (some (21, j, 0)) v (hJ (hC rs ks vs tl sc wI wL) mp) u Q ↔ Q (b2i (ix v r.2.2.length).isSome) (hJ (hC rs ks vs tl sc wI wL) mp) := by
  unfold F_X5_hasCell
  simp only [c_g21_2, c_n22, hj, wr_some, nz_0, nz_1, true_and]
  by_cases a : v < 0
  · rw [if_pos a, neg_ix a]; simp [b2i]
  · rw [if_neg a]
    simp only [le_ix (show r.2.2.length < 2 ^ 31 by omega) a]
    cases hx : ix v r.2.2.length <;> simp [b2i]
theorem f_hasPart {j : Nat} {v0 : ValT} (hj : vs[j]? = some v0) (hl : v0.2.2.2.2.2.2.length ≤ 6) {v : Int32} {Q : Int32 → MH → Prop} : F_X10_hasPart d (some (29, j, 0)) v (hJ (hC rs ks vs tl sc wI wL) mp) u Q ↔ Q (b2i (ix v v0.2.2.2.2.2.2.length).isSome) (hJ (hC rs ks vs tl sc wI wL) mp) := by
  unfold F_X10_hasPart
  simp only [c_g29_5, c_n30, hj, wr_some, nz_0, nz_1, true_and]
  by_cases a : v < 0
  · rw [if_pos a, neg_ix a]; simp [b2i]
  · rw [if_neg a]
    simp only [le_ix (show v0.2.2.2.2.2.2.length < 2 ^ 31 by omega) a]
    cases hx : ix v v0.2.2.2.2.2.2.length <;> simp [b2i]
end H2
/-! the same of the reference -/
section H3
variable {cp : MH} {m : MS} {d u : Nat}
theorem g_isRow {n : Nat} (hn : n ≤ 60) (h3 : m.1 3 = nI n) {v : Int32} {Q : Int32 → MH → Prop} : F_X12_isRow d mo v (hJ cp (hM m)) u Q ↔ Q (b2i (ix v n).isSome) (hJ cp (hM m)) := by
  unfold F_X12_isRow
  simp only [m_g3, f_in, h3, wi_ix (show n < 2 ^ 30 by omega), nz_b2i, true_and]
theorem g_isKind {n : Nat} (hn : n ≤ 16) (h3 : m.1 9 = nI n) {v : Int32} {Q : Int32 → MH → Prop} : F_X12_isKind d mo v (hJ cp (hM m)) u Q ↔ Q (b2i (ix v n).isSome) (hJ cp (hM m)) := by
  unfold F_X12_isKind
  simp only [m_g9, f_in, h3, wi_ix (show n < 2 ^ 30 by omega), nz_b2i, true_and]
theorem g_isValue {n : Nat} (hn : n ≤ 200) (h3 : m.1 24 = nI n) {v : Int32} {Q : Int32 → MH → Prop} : F_X12_isValue d mo v (hJ cp (hM m)) u Q ↔ Q (b2i (ix v n).isSome) (hJ cp (hM m)) := by
  unfold F_X12_isValue
  simp only [m_g24, f_in, h3, wi_ix (show n < 2 ^ 30 by omega), nz_b2i, true_and]
theorem g_fails {f : Int32} {Q : Int32 → MH → Prop} : F_X12_fails d mo f (hJ cp (hM m)) u Q ↔ Q (-10 - f) (hJ cp (hM (mI (mI m 0 f) 1 (m.1 1 + 1)))) := by
  unfold F_X12_fails
  simp only [m_p0, m_g1, m_p1]
  rw [show (mI m 0 f).1 1 = m.1 1 by simp [mI, up]]
theorem g_lost {Q : Int64 → MH → Prop} {h : MH} : F_X12_lost d h u Q ↔ Q (-9223372036854775808) h := Iff.rfl
theorem g_failsLong {f : Int32} {Q : Int64 → MH → Prop} : F_X12_failsLong d mo f (hJ cp (hM m)) u Q ↔ Q (-9223372036854775808) (hJ cp (hM (mI (mI m 0 f) 1 (m.1 1 + 1)))) := by
  unfold F_X12_failsLong
  simp only [m_p0, m_g1, m_p1, g_lost]
  rw [show (mI m 0 f).1 1 = m.1 1 by simp [mI, up]]
theorem g_traced {n : Int32} {Q : MH → Prop} : F_X12_traced d mo n (hJ cp (hM m)) u Q ↔ Q (hJ cp (hM (mI m 2 (31 * m.1 2 + n)))) := by
  unfold F_X12_traced
  simp only [m_g2, m_p2]
end H3
