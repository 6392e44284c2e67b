section Says
variable {rs : List RowT} {ks : List KindT} {vs : List ValT} {tl : Nat → Nat → Nat → List Int32} {sc : Nat → Int32} {wI : Nat → List Int32} {wL : Nat → List Int64} {m : MS} {d d2 u : Nat} {v1 v2 v3 v5 v6 : Int32} {v4 : Int64} {W : Prop → Prop}
variable {cp mp h : MH} {m0 : MS} {X : TS} {fs : List Fr}
/-- the reference's draft -/
def DP (m0 m : MS) (X : TS) : Prop := (∀ k, k ≠ 35 → k ≠ 43 → m.1 k = m0.1 k) ∧ (∀ k, (k < 36 ∨ 41 < k) → k ≠ 42 → m.2.1 k = m0.2.1 k) ∧ m.2.2 = m0.2.2 ∧ (m.2.1 42).length = 4200 ∧ match X with
  | some o => o.length ≤ 4000 ∧ m.1 43 = nI o.length ∧ (∀ x ∈ o, bOK x) ∧ ∀ i x, o[i]? = some x → (m.2.1 42).getD i 0 = x
  | none => m.1 43 = nI 4001
theorem Pil.self {m' : MS} (h : Pil m m' fs) : Pil m' m' fs := ⟨fun _ _ => rfl, fun _ _ => rfl, rfl, h.2.2.2⟩
theorem DP.pil {m' : MS} (h : DP m0 m X) (hp : Pil m m' fs) : DP m0 m' X := by
  obtain ⟨h1, h2, h3, h4, h5⟩ := h
  obtain ⟨p1, p2, p3, -⟩ := hp
  refine ⟨fun k a b => (p1 k a).trans (h1 k a b), fun k a b => (p2 k a).trans (h2 k a b), p3.trans h3, by rw [p2 42 (by decide)]; exact h4, ?_⟩
  rw [p1 43 (by decide), p2 42 (by decide)]
  exact h5
theorem Inv.dp (I : Inv rs ks vs tl sc wI wL m0) (h : DP m0 m X) (hp : Pil m m fs) : Inv rs ks vs tl sc wI wL m := by
  obtain ⟨a, b1, b2, b3, b4⟩ := I
  obtain ⟨h1, h2, h3, h4, -⟩ := h
  obtain ⟨-, -, -, -, l36, l37, l38, l39, l40, l41, -⟩ := hp
  refine ⟨a, ?_, ?_, ?_, ?_⟩
  · unfold mRows at b1 ⊢
    rw [h1 3 (by decide) (by decide), h2 4 (by decide) (by decide), h2 5 (by decide) (by decide), h2 6 (by decide) (by decide), h3]
    exact b1
  · unfold mKinds at b2 ⊢
    rw [h1 9 (by decide) (by decide), h2 10 (by decide) (by decide), h2 11 (by decide) (by decide), h2 12 (by decide) (by decide), h2 13 (by decide) (by decide), h2 14 (by decide) (by decide), h2 15 (by decide) (by decide), h2 16 (by decide) (by decide), h2 17 (by decide) (by decide), h2 18 (by decide) (by decide)]
    exact b2
  · unfold mVals at b3 ⊢
    rw [h1 24 (by decide) (by decide), h2 25 (by decide) (by decide), h2 26 (by decide) (by decide), h2 27 (by decide) (by decide), h2 28 (by decide) (by decide), h2 29 (by decide) (by decide), h2 30 (by decide) (by decide), h3]
    exact b3
  · unfold mMisc at b4 ⊢
    rw [h1 0 (by decide) (by decide), h1 1 (by decide) (by decide), h1 2 (by decide) (by decide), h1 19 (by decide) (by decide), h1 45 (by decide) (by decide), h2 20 (by decide) (by decide), h2 21 (by decide) (by decide), h2 22 (by decide) (by decide), h2 44 (by decide) (by decide), h3]
    obtain ⟨c1, c2, c3, c4, c5, c6, c7, c8, c9, -, -, -, -, -, -, -, c10⟩ := b4
    exact ⟨c1, c2, c3, c4, c5, c6, c7, c8, c9, l36, l37, l38, l39, l40, l41, h4, c10⟩
theorem g_says {c : Int32} (hc : bOK c) (hD : DP m0 m X) (hp : Pil m m fs) {Q : MH → Prop} (H : ∀ m', DP m0 m' (tAdd X [c]) → Pil m' m' fs → Q (hJ cp (hM m'))) : F_X12_says d mo c (hJ cp (hM m)) u Q := by
  have hcc : c.toInt8.toInt32 = c := hc
  obtain ⟨h1, h2, h3, h4, h5⟩ := hD
  unfold F_X12_says
  cases X with
  | none =>
    simp only [m_g43, show m.1 43 = nI 4001 from h5]
    rw [if_pos (by decide)]
    exact H m ⟨h1, h2, h3, h4, h5⟩ hp
  | some o =>
    obtain ⟨o1, o2, o3, o4⟩ := h5
    have hp' : ∀ (l : List Int32) (x : Int32), Pil (mI (mA m 42 l) 43 x) (mI (mA m 42 l) 43 x) fs := by
      intro l x
      obtain ⟨-, -, -, p4, p5⟩ := hp
      exact ⟨fun _ _ => rfl, fun _ _ => rfl, rfl, by simpa [mI, mA, up] using p4, by simpa [mI, mA, up] using p5⟩
    have b31 : o.length < 2 ^ 31 := by omega
    simp only [m_g43, o2, m_g42, m_s42, inb_nI b31, nI_clamp b31, h4, m_p43, mA_1, mB_1, mI_1, mI_21, mI_22, mA_21, mA_22, mB_21, mB_22, Nat.reduceEqDiff, Nat.reduceEqDiff, reduceCtorEq, if_false, if_true, hcc]
    rw [if_neg (show ¬ (4000 : Int32) < nI o.length from nI_nlt (a := 4000) (by omega) (by omega))]
    refine ⟨by omega, H _ ⟨fun k a b => ?_, fun k a b => ?_, h3, ?_, ?_⟩ (hp' _ _)⟩
    · simp only [mA_1, mB_1, mI_1, mI_21, mI_22, mA_21, mA_22, mB_21, mB_22, Nat.reduceEqDiff, Nat.reduceEqDiff, reduceCtorEq, if_false, if_true]; rw [if_neg b]; exact h1 k a b
    · simp only [mA_1, mB_1, mI_1, mI_21, mI_22, mA_21, mA_22, mB_21, mB_22, Nat.reduceEqDiff, Nat.reduceEqDiff, reduceCtorEq, if_false, if_true]; rw [if_neg b]; exact h2 k a b
    · simp only [mA_1, mB_1, mI_1, mI_21, mI_22, mA_21, mA_22, mB_21, mB_22, Nat.reduceEqDiff, Nat.reduceEqDiff, reduceCtorEq, if_false, if_true, List.length_set]; exact h4
    · by_cases hl : o.length = 4000
      · rw [show tAdd (some o) [c] = none by rw [tAdd_some, if_neg (by simp; omega)]]
        show _ = _
        simp only [mA_1, mB_1, mI_1, mI_21, mI_22, mA_21, mA_22, mB_21, mB_22, Nat.reduceEqDiff, Nat.reduceEqDiff, reduceCtorEq, if_false, if_true]
        rw [hl, nI_1]
      · rw [show tAdd (some o) [c] = some (o ++ [c]) by rw [tAdd_some, if_pos (by simp; omega)]]
        show _ ∧ _ ∧ _ ∧ _
        simp only [mA_1, mB_1, mI_1, mI_21, mI_22, mA_21, mA_22, mB_21, mB_22, Nat.reduceEqDiff, Nat.reduceEqDiff, reduceCtorEq, if_false, if_true]
        refine ⟨by simp; omega, by simp [nI_1], fun x hx => ?_, fun i x hx => ?_⟩
        · rcases List.mem_append.mp hx with z | z
          · exact o3 x z
          · rw [List.mem_singleton.mp z]; exact hc
        · rw [lset_getD]
          rcases app_case hx with z | ⟨rfl, rfl⟩
          · have := (List.getElem?_eq_some_iff.mp z).1
            rw [if_neg (by omega)]
            exact o4 i x z
          · rw [if_pos ⟨rfl, by omega⟩]
theorem g_saysNumber {x : Int64} (hD : DP m0 m X) (hp : Pil m m fs) {Q : MH → Prop} (H : ∀ m', DP m0 m' (tAdd X (nStr x)) → Pil m' m' fs → Q (hJ cp (hM m'))) : F_X12_saysNumber d mo x (hJ cp (hM m)) u Q := by
  have hxr : -9223372036854775808 ≤ x.toInt ∧ x.toInt < 9223372036854775808 := ⟨x.le_toInt, x.toInt_lt⟩
  obtain ⟨a, ha⟩ : ∃ a, a = x.toInt.natAbs := ⟨_, rfl⟩
  have ha2 : a ≤ 9223372036854775808 := by omega
  -- the digits go out
  have out : ∀ (j : Nat) (m : MS) (Y : TS) (y un : Int64), 10 ^ j ≤ 9223372036854775807 → y.toInt = -(a : Int) → un.toInt = -((10 ^ j : Nat) : Int) → DP m0 m Y → Pil m m fs → tAdd Y (decJ a j) = tAdd X (nStr x) → L_X12_saysNumber_52 d mo y un (hJ cp (hM m)) u Q := by
    intro j
    induction j with
    | zero =>
      intro m Y y un hj hy hu hD hp hY
      have hneg : (-un).toInt = ((1 : Nat) : Int) := by rw [Int64.toInt_neg, hu, bm64 (by simp) (by simp)]; simp
      have hdv := ng_div hy ha2 hneg (by omega) (fun _ => Or.inr trivial)
      rw [Nat.div_one] at hdv
      unfold L_X12_saysNumber_52
      refine E_X12_saysNumber_52 ?_
      unfold F_X12_saysNumber_52
      simp only [lg_cmp_ge]
      rw [if_neg (by rw [Int64.le_iff_toInt_le, hu]; simp)]
      refine ⟨fun z => ?_, m_rc, ?_⟩
      · rw [z] at hneg; exact absurd hneg (by decide)
      rw [ng_dig hdv ha2]
      refine g_says (dgt_b _ (Nat.mod_lt _ (by decide))) hD hp (fun m' hD' hp' => ?_)
      have hu2 : (un / 10).toInt = 0 := by
        have := ng_div (x := un) (a := 1) (by simpa using hu) (by omega) ten64 (by omega) (fun _ => Or.inr trivial)
        simpa using this
      unfold L_X12_saysNumber_52
      refine E_X12_saysNumber_52 ?_
      unfold F_X12_saysNumber_52
      simp only [lg_cmp_ge]
      rw [if_pos (by rw [Int64.le_iff_toInt_le, hu2]; simp)]
      refine H m' ?_ hp'
      rw [← hY]
      have e : decJ a 0 = [nI (48 + a % 10)] := by
        unfold decJ dgt
        simp
      rw [e]
      exact hD'
    | succ j ih =>
      intro m Y y un hj hy hu hD hp hY
      have hpj : 10 ^ j ≤ 9223372036854775807 := Nat.le_trans (Nat.pow_le_pow_right (by decide) (Nat.le_succ j)) hj
      have hpos : 0 < 10 ^ (j + 1) := Nat.pow_pos (by decide)
      obtain ⟨P, hP⟩ : ∃ P, P = 10 ^ (j + 1) := ⟨_, rfl⟩
      have hneg : (-un).toInt = ((10 ^ (j + 1) : Nat) : Int) := by
        rw [Int64.toInt_neg, hu, ← hP]
        rw [← hP] at hj hpos
        rw [bm64 (by omega) (by omega)]
        omega
      have hdv := ng_div hy ha2 hneg hpos (fun _ => Or.inr trivial)
      have hdl : a / 10 ^ (j + 1) ≤ 9223372036854775808 := Nat.le_trans (Nat.div_le_self _ _) ha2
      unfold L_X12_saysNumber_52
      refine E_X12_saysNumber_52 ?_
      unfold F_X12_saysNumber_52
      simp only [lg_cmp_ge]
      rw [if_neg (by
        rw [Int64.le_iff_toInt_le, hu, ← hP, Int64.toInt_zero]
        rw [← hP] at hpos
        omega)]
      refine ⟨fun z => ?_, m_rc, ?_⟩
      · rw [z, Int64.toInt_zero, ← hP] at hneg
        rw [← hP] at hpos
        omega
      rw [ng_dig hdv hdl]
      refine g_says (dgt_b _ (Nat.mod_lt _ (by decide))) hD hp (fun m' hD' hp' => ?_)
      have hu2 : (un / 10).toInt = -((10 ^ j : Nat) : Int) := by
        have := ng_div (x := un) (a := 10 ^ (j + 1)) hu (by omega) ten64 (by omega) (fun _ => Or.inr trivial)
        rw [Nat.pow_succ, Nat.mul_div_cancel _ (by decide)] at this
        exact this
      refine ih m' _ y (un / 10) hpj hy hu2 hD' hp' ?_
      rw [tAdd_app]
      exact hY
  -- the unit is found
  have unit : ∀ (r j : Nat) (m : MS) (Y : TS) (y un : Int64), j + r = 19 → 10 ^ j ≤ 9223372036854775807 → (j = 0 ∨ ¬ a / 10 ^ j = 0) → y.toInt = -(a : Int) → un.toInt = -((10 ^ j : Nat) : Int) → DP m0 m Y → Pil m m fs → ndF a 19 0 = ndF a r j → tAdd Y (decJ a (ndF a 19 0)) = tAdd X (nStr x) → L_X12_saysNumber_30 d mo y un (hJ cp (hM m)) u Q := by
    intro r
    induction r with
    | zero =>
      intro j m Y y un hj hj2 h0 hy hu hD hp hn hY
      have : j = 19 := by omega
      subst this
      exact absurd hj2 (by decide)
    | succ r ih =>
      intro j m Y y un hj hj2 h0 hy hu hD hp hn hY
      have hdv := ng_div hy ha2 ten64 (by omega) (fun _ => Or.inr trivial)
      rw [show ndF a (r + 1) j = if a / 10 ^ (j + 1) = 0 then j else ndF a r (j + 1) from rfl] at hn
      have e10 : a / 10 / 10 ^ j = a / 10 ^ (j + 1) := by rw [Nat.div_div_eq_div_mul, Nat.pow_succ, Nat.mul_comm]
      have hpos : 0 < 10 ^ j := Nat.pow_pos (by decide)
      have hz : (un < y / 10) ↔ a / 10 ^ (j + 1) = 0 := by
        rw [Int64.lt_iff_toInt_lt, hdv, hu, ← e10, Nat.div_eq_zero_iff]
        obtain ⟨P, hP⟩ : ∃ P, P = 10 ^ j := ⟨_, rfl⟩
        rw [← hP] at hpos ⊢
        omega
      unfold L_X12_saysNumber_30
      refine E_X12_saysNumber_30 ?_
      unfold F_X12_saysNumber_30
      simp only [lg_cmp_gt, hz]
      by_cases e : a / 10 ^ (j + 1) = 0
      · rw [if_pos e] at hn ⊢
        rw [hn] at hY
        exact out j m Y y un hj2 hy hu hD hp hY
      · rw [if_neg e] at hn ⊢
        have hle : 10 ^ (j + 1) ≤ a := by
          rw [Nat.div_eq_zero_iff] at e
          omega
        have hj18 : j + 1 ≤ 18 := by
          rcases Nat.lt_or_ge (j + 1) 19 with z | z
          · omega
          · have : (10 : Nat) ^ 19 ≤ 10 ^ (j + 1) := Nat.pow_le_pow_right (by decide) z
            omega
        have hp18 : (10 : Nat) ^ (j + 1) ≤ 10 ^ 18 := Nat.pow_le_pow_right (by decide) hj18
        refine ih (j + 1) m Y y _ (by omega) (Nat.le_trans hp18 (by decide)) (Or.inr e) hy ?_ hD hp hn hY
        rw [Int64.toInt_mul, hu, ten64]
        have e9 : (10 : Nat) ^ (j + 1) = 10 * 10 ^ j := by rw [Nat.pow_succ, Nat.mul_comm]
        obtain ⟨P, hP⟩ : ∃ P, P = 10 ^ j := ⟨_, rfl⟩
        rw [e9, ← hP] at hp18 ⊢
        rw [bm64 (by omega) (by omega)]
        omega
  have start : ∀ (m : MS) (Y : TS) (y : Int64), y.toInt = -(a : Int) → DP m0 m Y → Pil m m fs → tAdd Y (decJ a (ndF a 19 0)) = tAdd X (nStr x) → L_X12_saysNumber_30 d mo y (-1) (hJ cp (hM m)) u Q := by
    intro m Y y hy hD hp hY
    exact unit 19 0 m Y y (-1) rfl (by decide) (Or.inl rfl) hy (by decide) hD hp rfl hY
  unfold F_X12_saysNumber F_X12_saysNumber_12
  simp only [lg_cmp_ge]
  by_cases h0 : 0 ≤ x
  · rw [if_pos h0, if_pos h0]
    have hx0 : 0 ≤ x.toInt := by rw [Int64.le_iff_toInt_le] at h0; simpa using h0
    refine start m X (-x) (by rw [Int64.toInt_neg, bm64 (by omega) (by omega)]; omega) hD hp ?_
    unfold nStr
    rw [if_pos h0, ← ha, List.nil_append]
  · rw [if_neg h0, if_neg h0]
    have hx0 : x.toInt < 0 := by rw [Int64.le_iff_toInt_le] at h0; simpa using h0
    refine ⟨m_rc, g_says (bK (by decide)) hD hp (fun m' hD' hp' => ?_)⟩
    refine start m' _ x (by omega) hD' hp' ?_
    rw [tAdd_app]
    unfold nStr
    rw [if_neg h0, ← ha]
theorem g_saysCell {l : Int32} {x : Int64} (hx : l = 0 → x = 0 ∨ x = 1) (hD : DP m0 m X) (hp : Pil m m fs) {Q : MH → Prop} (H : ∀ m', DP m0 m' (tAdd X (sNum l x)) → Pil m' m' fs → Q (hJ cp (hM m'))) : F_X12_saysCell d mo l x (hJ cp (hM m)) u Q := by
  unfold F_X12_saysCell
  unfold sNum at H
  by_cases l0 : l = 0
  · rw [if_pos l0]
    simp only [if_pos l0] at H
    simp only [lg_cmp_eq]
    rcases hx l0 with rfl | rfl
    · rw [if_neg (by decide)]
      simp only [if_true] at H
      exact ⟨m_rc, g_says (bK (by decide)) hD hp H⟩
    · rw [if_pos rfl]
      simp only [show ¬ (1 : Int64) = 0 by decide, if_false] at H
      exact ⟨m_rc, g_says (bK (by decide)) hD hp H⟩
  · rw [if_neg l0]
    simp only [if_neg l0] at H
    exact ⟨m_rc, g_saysNumber hD hp H⟩
theorem g_saysRow (I : Inv rs ks vs tl sc wI wL m0) {r : Nat} {row : RowT} {f : Int64 → List Int32} (hr : rs[r]? = some row) (r8 : ¬ row.1 = 8) (hD : DP m0 m X) (hp : Pil m m fs) {Q : MH → Prop} (H : ∀ m', DP m0 m' (tAdd X (sRow f row)) → Pil m' m' fs → Q (hJ cp (hM m'))) : F_X12_saysRow d mo (nI r) (hJ cp (hM m)) u Q := by
  have hR := I.1.1.1
  obtain ⟨ok1, h20, ok3, -⟩ := I.1.1.2 row (List.mem_of_getElem? hr)
  have h7 : wi row.1 0 7 = true := wi7_of8 ok1 r8
  unfold F_X12_saysRow
  refine ⟨m_rc, g_says (bK (by decide)) hD hp (fun m1 hD1 hp1 => ?_)⟩
  have key : ∀ (p c : Nat) (m : MS) (Y : TS), c + p = row.2.2.length → DP m0 m Y → Pil m m fs → Y = tAdd X ([91] ++ sCl f row c) → L_X12_saysRow_8 d mo (nI r) (nI c) (hJ cp (hM m)) u Q := by
    intro p
    induction p with
    | zero =>
      intro c m Y hc hD hp hY
      have : c = row.2.2.length := by omega
      subst this
      have J := I.dp hD hp
      obtain ⟨-, -, ⟨a3, a4⟩, -, -⟩ := J.2.1.at hR hr
      unfold L_X12_saysRow_8
      refine E_X12_saysRow_8 ?_
      unfold F_X12_saysRow_8
      simp only [m_g5, m_a5, a3, a4, true_and]
      rw [if_pos (nI_le (Nat.le_refl _) (by omega))]
      refine ⟨m_rc, g_says (bK (by decide)) hD hp (fun m' hD' hp' => H m' ?_ hp')⟩
      rw [hY, tAdd_app] at hD'
      unfold sRow
      rw [List.append_assoc] at hD'
      exact hD'
    | succ p ih =>
      intro c m Y hc hD hp hY
      obtain ⟨y, hy⟩ := get_lt (show c < row.2.2.length by omega)
      have ey : row.2.2.getD c 0 = y := by simp [List.getD_eq_getElem?_getD, hy]
      have J := I.dp hD hp
      obtain ⟨-, -, ⟨a3, a4⟩, -, -⟩ := J.2.1.at hR hr
      unfold L_X12_saysRow_8
      refine E_X12_saysRow_8 ?_
      unfold F_X12_saysRow_8
      simp only [m_g5, m_a5, a3, a4, true_and]
      rw [if_neg (nI_ge (by omega) (by omega))]
      have s28 : ∀ (m : MS) (Z : TS), DP m0 m Z → Pil m m fs → Z = tAdd X ([91] ++ sCl f row c ++ (if c = 0 then [] else [32])) → F_X12_saysRow_28 d mo (nI r) (nI c) (hJ cp (hM m)) u Q := by
        intro m Z hD hp hZ
        have J := I.dp hD hp
        obtain ⟨-, ⟨a1, a2⟩, -, -, a7⟩ := J.2.1.at hR hr
        obtain ⟨b1, b2⟩ := a7 c (by omega) h20
        unfold F_X12_saysRow_28
        simp only [m_g4, m_a4, a1, a2, m_g7, m_a7, b1, b2, true_and, ey]
        refine ⟨m_rc, g_saysCell (fun l0 => ((ok3 y (List.mem_of_getElem? hy)).1 h7).1 l0) hD hp (fun m' hD' hp' => ?_)⟩
        rw [nI_1]
        refine ih (c + 1) m' _ (by omega) hD' hp' ?_
        rw [hZ, tAdd_app, sCl, if_neg r8, ey]
        simp only [List.append_assoc]
      by_cases c0 : c = 0
      · subst c0
        rw [if_pos (show nI 0 ≤ (0 : Int32) by decide)]
        exact s28 m Y hD hp (by rw [hY, if_pos rfl, List.append_nil])
      · rw [if_neg (show ¬ nI c ≤ (0 : Int32) from nI_ge (a := 0) (by omega) (by omega))]
        refine ⟨m_rc, g_says (bK (by decide)) hD hp (fun m' hD' hp' => s28 m' _ hD' hp' ?_)⟩
        rw [hY, tAdd_app, if_neg c0]
  exact key row.2.2.length 0 m1 _ (by omega) hD1 hp1 (by rw [show sCl f row 0 = [] from rfl, List.append_nil])
end Says
