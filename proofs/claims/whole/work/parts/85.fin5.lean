section Fin5
variable {rs : List RowT} {ks : List KindT} {vs : List ValT} {tl : Nat → Nat → Nat → List Int32} {sc : Nat → Int32} {wI : Nat → List Int32} {wL : Nat → List Int64} {m : MS} {d d2 u : Nat} {v1 v2 v3 v5 v6 : Int32} {v4 : Int64} {W : Prop → Prop}
variable {cp mp h : MH}
/-- the reference's scratch: 32, 33, 34 -/
def mScr (m m' : MS) : Prop := (∀ k, k ≠ 33 → k ≠ 34 → m'.1 k = m.1 k) ∧ m'.2.1 = m.2.1 ∧ (∀ k, k ≠ 32 → m'.2.2 k = m.2.2 k) ∧ (m'.2.2 32).length = 6
theorem Inv.scr {m' : MS} (I : Inv rs ks vs tl sc wI wL m) (h : mScr m m') : Inv rs ks vs tl sc wI wL m' := by
  obtain ⟨a, b1, b2, b3, b4⟩ := I
  obtain ⟨h1, h2, h3, h4⟩ := h
  refine ⟨a, ?_, ?_, ?_, ?_⟩
  · unfold mRows at b1 ⊢
    rw [h1 3 (by decide) (by decide), h2, h3 7 (by decide), h3 8 (by decide)]
    exact b1
  · unfold mKinds at b2 ⊢
    rw [h1 9 (by decide) (by decide), h2]
    exact b2
  · unfold mVals at b3 ⊢
    rw [h1 24 (by decide) (by decide), h2, h3 31 (by decide)]
    obtain ⟨c1, c2, c3, c4, c5, c6, c7, c8, -, c9⟩ := b3
    exact ⟨c1, c2, c3, c4, c5, c6, c7, c8, h4, c9⟩
  · unfold mMisc at b4 ⊢
    rw [h1 0 (by decide) (by decide), h1 1 (by decide) (by decide), h1 2 (by decide) (by decide), h1 19 (by decide) (by decide), h1 45 (by decide) (by decide), h2, h3 23 (by decide)]
    exact b4
def mM (m : MS) (a : Nat × Nat) : MS := mI (mI m 33 (nI a.1)) 34 (nI a.2)
theorem scr_M {a : Nat × Nat} (h : (m.2.2 32).length = 6) : mScr m (mM m a) := ⟨fun k h1 h2 => by simp [mM, mI, up, h1, h2], rfl, fun k _ => rfl, h⟩
theorem scr_P {l : List Int64} (h : l.length = 6) : mScr m (mB m 32 l) := ⟨fun k _ _ => rfl, rfl, fun k hk => by simp [mB, up, hk], by simp [mB, up, h]⟩
theorem scr_id (h : (m.2.2 32).length = 6) : mScr m m := ⟨fun k _ _ => rfl, rfl, fun k _ => rfl, h⟩
theorem scr_tr {m1 m2 : MS} (h : mScr m m1) (k : mScr m1 m2) : mScr m m2 := ⟨fun q a b => (k.1 q a b).trans (h.1 q a b), k.2.1.trans h.2.1, fun q a => (k.2.2.1 q a).trans (h.2.2.1 q a), k.2.2.2⟩
theorem Inv.l32 (I : Inv rs ks vs tl sc wI wL m) : (m.2.2 32).length = 6 := I.2.2.2.1.2.2.2.2.2.2.2.2.1
theorem g_cnt (I : Inv rs ks vs tl sc wI wL m) {j e : Nat} {k : KindT} {t : List ET} (hk : ks[j]? = some k) (ht : k.2.2.2.2[e]? = some t) {K : Int32 → Prop} (H : K (nI t.length)) : gR (hJ cp (hM m)) mo 11 15 (fun x => aI .int (hJ cp (hM m)) x (nI (4 * j + e)) K) := by
  obtain ⟨k1, k2, -⟩ := I.1.2.1.2 k (List.mem_of_getElem? hk)
  obtain ⟨-, ⟨g1, g2⟩, -⟩ := I.2.2.1.ed I.1.2.1.1 hk k2 ht
  simp only [m_g15, m_a15, g1, g2, true_and]
  exact H
theorem g_L (I : Inv rs ks vs tl sc wI wL m) {j e q : Nat} {k : KindT} {t : List ET} (hk : ks[j]? = some k) (ht : k.2.2.2.2[e]? = some t) (hq : q < t.length) {K : Int32 → Prop} (H : K (lnT t q)) : gR (hJ cp (hM m)) mo 11 17 (fun x => aI .int (hJ cp (hM m)) x (8 * nI (4 * j + e) + nI q) K) := by
  obtain ⟨x, hx⟩ := get_lt hq
  have hKd := I.1.2.1.1
  have hj := (List.getElem?_eq_some_iff.mp hk).1
  have hel := (List.getElem?_eq_some_iff.mp ht).1
  obtain ⟨k1, k2, k3, k4, -⟩ := I.1.2.1.2 k (List.mem_of_getElem? hk)
  have h8 : t.length ≤ 8 := by have := (k4 t (List.mem_of_getElem? ht)).1; split at this <;> omega
  obtain ⟨c0, c1, c2, c3, c4, c5, c6, c7, c8, c9, c10, c11⟩ := I.2.2.1
  obtain ⟨-, -, -, -, -, d6⟩ := c10 j k hk
  obtain ⟨-, g2, -⟩ := (d6 e t ht).2 q x hx
  rw [lnT_at hx] at H
  simp only [m_g17, m_a17, idx8, inb_nI (show 8 * (4 * j + e) + q < 2 ^ 31 by omega), rdI_nI (show 8 * (4 * j + e) + q < 2 ^ 31 by omega), c8, g2]
  exact ⟨by omega, H⟩
theorem g_L0 (I : Inv rs ks vs tl sc wI wL m) {j e : Nat} {k : KindT} {t : List ET} (hk : ks[j]? = some k) (ht : k.2.2.2.2[e]? = some t) (hq : 0 < t.length) {K : Int32 → Prop} (H : K (lnT t 0)) : gR (hJ cp (hM m)) mo 11 17 (fun x => aI .int (hJ cp (hM m)) x (8 * nI (4 * j + e)) K) := by
  have := g_L (cp := cp) (q := 0) I hk ht hq H
  rw [show (8 : Int32) * nI (4 * j + e) + nI 0 = 8 * nI (4 * j + e) by simp [nI_0]] at this
  exact this
theorem g_P (l32 : (m.2.2 32).length = 6) {q : Nat} (hq : q < 6) {K : Int64 → Prop} (H : K ((m.2.2 32).getD q 0)) : gR (hJ cp (hM m)) mo 11 32 (fun x => aL (hJ cp (hM m)) x (nI q) K) := by
  simp only [m_g32, m_a32, inb_nI (show q < 2 ^ 31 by omega), rdL_nI (show q < 2 ^ 31 by omega), l32]
  exact ⟨hq, H⟩
theorem g_isTwinned (I : Inv rs ks vs tl sc wI wL m) {j : Nat} {k : KindT} (hk : ks[j]? = some k) {x : Int64} (hx : refOK x rs.length) {Q : Int32 → MH → Prop} (H : Q (b2i (twn rs k.2.1 9 x).isSome) (hJ cp (hM m))) : F_X12_isTwinned d mo (nI j) x.toInt32 (hJ cp (hM m)) u Q := by
  have hR := I.1.1.1
  unfold twn at H
  rw [if_pos rfl] at H
  unfold F_X12_isTwinned
  rcases hx with rfl | ⟨i, hi, rfl⟩
  · rw [ixL_m1] at H
    rw [if_pos (by decide)]
    exact ⟨nz_0, H⟩
  · obtain ⟨row, hrow⟩ := get_lt hi
    rw [ixL_lN hi (by omega)] at H
    simp only [hrow] at H
    rw [lN_32 (by omega), if_neg (nI_pos (by omega))]
    obtain ⟨-, ⟨a1, a2⟩, -, ⟨a5, a6⟩, -⟩ := I.2.1.at hR hrow
    obtain ⟨hj16, -, ⟨r1, r2⟩, -⟩ := I.2.2.1.at I.1.2.1.1 hk
    simp only [m_g6, m_a6, a5, a6, true_and, m_g4, m_a4, a1, a2, m_g11, m_a11, r1, r2]
    cases hb : row.2.1
    · rw [if_pos (show b2i false = 0 from rfl)]
      by_cases a : row.1 = 8
      · rw [if_pos a]
        rw [if_pos ⟨hb, Or.inl a⟩] at H
        exact ⟨nz_1, H⟩
      · rw [if_neg a]
        by_cases b : k.2.1 = 4
        · rw [if_pos b]
          rw [if_pos ⟨hb, Or.inr b⟩] at H
          exact ⟨nz_1, H⟩
        · rw [if_neg b]
          rw [if_neg (fun y => by rcases y.2 with y | y; exact a y; exact b y)] at H
          exact ⟨nz_0, H⟩
    · rw [if_neg (show ¬ b2i true = 0 by decide)]
      rw [if_neg (fun y => by rw [hb] at y; exact absurd y.1 (by decide))] at H
      exact ⟨nz_0, H⟩
/-- a part fits its lane -/
def pfit (rs : List RowT) (vs : List ValT) (l : Int32) (x : Int64) : Prop := (wi l 0 7 = true → numOK l x) ∧ (l = 8 → refOK x vs.length) ∧ (l = 9 → refOK x rs.length)
theorem lane_lt8 {l : Int32} (h : wi l 0 9 = true) : (l < 8 ↔ wi l 0 7 = true) ∧ (¬ wi l 0 7 = true → l = 8 ∨ l = 9) := by
  have e := wi_ix (v := l) (n := 10) (by omega)
  have e2 : wi l 0 (nI 10 - 1) = wi l 0 9 := rfl
  rw [e2, h] at e
  obtain ⟨j, hj⟩ := Option.isSome_iff_exists.mp e.symm
  obtain ⟨h1, rfl, -, -⟩ := ix_some hj
  have : ∀ j : Nat, j < 10 → (nI j < 8 ↔ wi (nI j) 0 7 = true) ∧ (¬ wi (nI j) 0 7 = true → nI j = 8 ∨ nI j = 9) := by decide +kernel
  exact this j h1
theorem lnT_9 {t : List ET} (ho : ∀ x ∈ t, wi x.2.1 0 9 = true) {q : Nat} (hq : q < t.length) : wi (lnT t q) 0 9 = true := by
  obtain ⟨x, hx⟩ := get_lt hq
  rw [lnT_at hx]
  exact ho x (List.mem_of_getElem? hx)
theorem neg64 {x : Int64} {n : Nat} (h : refOK x n) (hn : n < 2 ^ 31) : (x < 0 ↔ x = -1) ∧ (0 ≤ x ↔ ¬ x = -1) := by
  have := neg_of h hn
  refine ⟨?_, this⟩
  constructor
  · intro a
    by_cases b : x = -1
    · exact b
    · have c := this.mpr b
      rw [Int64.lt_iff_toInt_lt] at a
      rw [Int64.le_iff_toInt_le] at c
      omega
  · rintro rfl; decide
/-- the reference on rules 3 -/
theorem g_breaks18 (I : Inv rs ks vs tl sc wI wL m) {j e : Nat} {k : KindT} {t : List ET} (hk : ks[j]? = some k) (ht : k.2.2.2.2[e]? = some t) (h6 : t.length ≤ 6) (ho : ∀ x ∈ t, wi x.2.1 0 9 = true) {P : Nat → Int64} (hP : ∀ q, q < t.length → (m.2.2 32).getD q 0 = P q) (hf : ∀ q, q < t.length → pfit rs vs (lnT t q) (P q)) {Q : Int32 → MH → Prop} (H : Q (b2i (lackN (lnT t) P t.length)) (hJ cp (hM m))) : L_X12_breaks_18 d mo (nI (4 * j + e)) 0 0 (hJ cp (hM m)) u Q := by
  have hR := I.1.1.1
  have hV := I.1.2.2.2.1.1
  have key : ∀ r q : Nat, q + r = t.length → L_X12_breaks_18 d mo (nI (4 * j + e)) (b2i (lackN (lnT t) P q)) (nI q) (hJ cp (hM m)) u Q := by
    intro r
    induction r with
    | zero =>
      intro q hq
      have : q = t.length := by omega
      subst this
      unfold L_X12_breaks_18
      refine E_X12_breaks_18 ?_
      unfold F_X12_breaks_18
      refine g_cnt I hk ht ?_
      rw [if_pos (nI_le (Nat.le_refl _) (by omega))]
      exact ⟨nz_b2i _, H⟩
    | succ r ih =>
      intro q hq
      have ih2 := ih (q + 1) (by omega)
      unfold L_X12_breaks_18
      refine E_X12_breaks_18 ?_
      unfold F_X12_breaks_18
      refine g_cnt I hk ht ?_
      rw [if_neg (nI_ge (by omega) (by omega)), nI_1]
      rw [lackN] at ih2
      cases hl : lackN (lnT t) P q
      · rw [hl, Bool.false_or] at ih2
        rw [if_pos (show b2i false = 0 from rfl)]
        refine g_L I hk ht (by omega) ?_
        obtain ⟨l1, l2⟩ := lane_lt8 (lnT_9 ho (show q < t.length by omega))
        by_cases hw : wi (lnT t q) 0 7 = true
        · rw [if_pos (l1.mpr hw)]
          rw [hw] at ih2
          exact ih2
        · rw [if_neg (fun z => hw (l1.mp z))]
          refine g_P I.l32 (by omega) ?_
          rw [hP q (by omega)]
          have hfq := hf q (by omega)
          have href : refOK (P q) 200 := by
            rcases l2 hw with z | z
            · exact (hfq.2.1 z).mono (by omega)
            · exact (hfq.2.2 z).mono (by omega)
          simp only [lg_cmp_ge, (neg64 href (by omega)).2]
          rw [Bool.not_eq_true] at hw
          rw [hw] at ih2
          by_cases hp : P q = -1
          · rw [if_neg (fun z => z hp)]
            rw [decide_eq_true hp] at ih2
            exact ih2
          · rw [if_pos hp]
            rw [decide_eq_false hp] at ih2
            exact ih2
      · rw [hl, Bool.true_or] at ih2
        rw [if_neg (show ¬ b2i true = 0 by decide)]
        exact ih2
  exact key t.length 0 (by omega)
theorem g_breaks (I : Inv rs ks vs tl sc wI wL m) {j e : Nat} {k : KindT} {t : List ET} (hk : ks[j]? = some k) (ht : k.2.2.2.2[e]? = some t) (h6 : t.length ≤ 6) (ho : ∀ x ∈ t, wi x.2.1 0 9 = true) {P : Nat → Int64} (hP : ∀ q, q < t.length → (m.2.2 32).getD q 0 = P q) (hf : ∀ q, q < t.length → pfit rs vs (lnT t q) (P q)) {Q : Int32 → MH → Prop} (H1 : ruled k.2.1 t.length (lnT t) P = none → Q 1 (hJ cp (hM m))) (H2 : ∀ P', ruled k.2.1 t.length (lnT t) P = some P' → ∀ l : List Int64, l.length = 6 → (∀ q, q < t.length → l.getD q 0 = P' q) → Q 0 (hJ cp (hM (mB m 32 l)))) : F_X12_breaks d mo (nI j) (nI (4 * j + e)) (hJ cp (hM m)) u Q := by
  have l32 := I.l32
  have hKd := I.1.2.1.1
  have hj := (List.getElem?_eq_some_iff.mp hk).1
  obtain ⟨hj16, -, ⟨r1, r2⟩, -⟩ := I.2.2.1.at hKd hk
  have same : ruled k.2.1 t.length (lnT t) P = some P → Q 0 (hJ cp (hM m)) := by
    intro z
    have := H2 P z (m.2.2 32) l32 hP
    rw [mB_id] at this
    exact this
  have s89 : k.2.1 = 1 ∨ k.2.1 = 2 → F_X12_breaks_89 d mo (nI (4 * j + e)) k.2.1 (hJ cp (hM m)) u Q := by
    intro h12
    have rl : ruled k.2.1 t.length (lnT t) P = if fallN t.length (lnT t) P then (if k.2.1 = 1 then none else some (exP (lnT t) P)) else some P := by
      unfold ruled
      rcases h12 with z | z
      · rw [if_pos z]; simp only [z, if_true]
      · rw [z]; simp only [show ¬ (2 : Int32) = 1 by decide, if_false, if_true]
    have nofall : fallN t.length (lnT t) P = false → nz 0 ∧ Q 0 (hJ cp (hM m)) := by
      intro hn
      rw [hn] at rl
      exact ⟨nz_0, same rl⟩
    unfold F_X12_breaks_89
    refine g_cnt I hk ht ?_
    by_cases n2 : t.length < 2
    · rw [if_pos (show nI t.length < 2 from nI_lt (b := 2) n2 (by omega))]
      exact nofall (by unfold fallN; rw [decide_eq_false (by omega : ¬ 2 ≤ t.length)]; rfl)
    · rw [if_neg (show ¬ nI t.length < 2 from nI_nlt (b := 2) (by omega) (by omega))]
      refine g_L0 I hk ht (by omega) ?_
      simp only [f_in, if_b2i]
      cases w0 : wi (lnT t 0) 1 5
      · rw [if_pos rfl]
        exact nofall (by unfold fallN; rw [w0]; simp)
      · rw [if_neg (by decide)]
        refine g_L (q := 1) I hk ht (by omega) ?_
        cases w1 : wi (lnT t 1) 1 5
        · rw [if_pos rfl]
          exact nofall (by unfold fallN; rw [w1]; simp)
        · rw [if_neg (by decide)]
          refine g_P (q := 0) l32 (by omega) (g_P (q := 1) l32 (by omega) ?_)
          rw [hP 0 (by omega), hP 1 (by omega)]
          simp only [lg_cmp_gt]
          by_cases hl : P 1 < P 0
          · rw [if_pos hl]
            have hfall : fallN t.length (lnT t) P = true := by
              unfold fallN
              rw [w0, w1, decide_eq_true hl, decide_eq_true (by omega : 2 ≤ t.length)]; rfl
            rw [hfall] at rl
            simp only [if_true] at rl
            rcases h12 with z | z
            · rw [if_neg (by rw [z]; decide), if_pos z]
              rw [if_pos z] at rl
              exact ⟨nz_1, H1 rl⟩
            · rw [if_pos z]
              rw [if_neg (by rw [z]; decide)] at rl
              have w7 : ∀ l : Int32, wi l 1 5 = true → wi l 0 7 = true := by
                intro l hl
                unfold wi at hl ⊢
                simp only [Bool.and_eq_true, decide_eq_true_eq, Int32.le_iff_toInt_le] at hl ⊢
                have : (1 : Int32).toInt = 1 := rfl
                have : (5 : Int32).toInt = 5 := rfl
                have : (0 : Int32).toInt = 0 := rfl
                have : (7 : Int32).toInt = 7 := rfl
                omega
              refine g_P (q := 0) l32 (by omega) ?_
              refine m_g32.mpr (g_L0 I hk ht (by omega) (g_P (q := 1) l32 (by omega) ?_))
              rw [hP 0 (by omega), hP 1 (by omega)]
              refine g_comes (w7 _ w0) ?_
              refine (m_s32 (i := nI 0)).mpr ⟨(inb_nI (by omega)).mpr (by omega), ?_⟩
              rw [nI_clamp (by omega)]
              have I2 := I.scr (scr_P (m := m) (l := (m.2.2 32).set 0 (cm (lnT t 0) (P 1))) (by rw [List.length_set]; exact l32))
              refine m_g32.mpr (g_L (q := 1) I2 hk ht (by omega) ?_)
              refine g_comes (w7 _ w1) ?_
              refine (m_s32 (i := nI 1)).mpr ⟨(inb_nI (by omega)).mpr (by simp only [mA_1, mB_1, mI_1, mI_21, mI_22, mA_21, mA_22, mB_21, mB_22, Nat.reduceEqDiff, Nat.reduceEqDiff, reduceCtorEq, if_false, if_true]; rw [List.length_set]; omega), ?_⟩
              rw [nI_clamp (by omega), if_neg (by rw [z]; decide), mB_mB]
              simp only [mA_1, mB_1, mI_1, mI_21, mI_22, mA_21, mA_22, mB_21, mB_22, Nat.reduceEqDiff, Nat.reduceEqDiff, reduceCtorEq, if_false, if_true]
              refine ⟨nz_0, H2 _ rl _ (by simp [l32]) (fun q hq => ?_)⟩
              simp only [lset_getD, List.length_set, exP]
              by_cases q0 : q = 0
              · subst q0
                rw [if_neg (by omega), if_pos ⟨rfl, by omega⟩, if_pos rfl]
              · rw [if_neg q0]
                by_cases q1 : q = 1
                · subst q1
                  rw [if_pos ⟨rfl, by omega⟩, if_pos rfl]
                · rw [if_neg (by omega), if_neg (by omega), if_neg q1]
                  exact hP q hq
          · rw [if_neg hl]
            exact nofall (by unfold fallN; rw [decide_eq_false hl]; simp)
  unfold F_X12_breaks
  simp only [m_g11, m_a11, r1, r2, true_and]
  by_cases r3 : k.2.1 = 3
  · rw [if_pos r3]
    refine g_breaks18 I hk ht h6 ho hP hf ?_
    have rl : ruled k.2.1 t.length (lnT t) P = if lackN (lnT t) P t.length then none else some P := by
      unfold ruled
      rw [if_neg (by rw [r3]; decide), if_neg (by rw [r3]; decide), if_pos r3]
    cases hl : lackN (lnT t) P t.length
    · rw [hl] at rl
      exact same rl
    · rw [hl] at rl
      exact H1 rl
  · rw [if_neg r3]
    by_cases h1 : k.2.1 = 1
    · rw [if_pos h1]; exact s89 (Or.inl h1)
    · rw [if_neg h1]
      by_cases h2 : k.2.1 = 2
      · rw [if_pos h2]; exact s89 (Or.inr h2)
      · rw [if_neg h2]
        refine ⟨nz_0, same ?_⟩
        unfold ruled
        rw [if_neg h1, if_neg h2, if_neg r3]
end Fin5
