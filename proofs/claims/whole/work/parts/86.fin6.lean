section Fin6
variable {rs : List RowT} {ks : List KindT} {vs : List ValT} {tl : Nat → Nat → Nat → List Int32} {sc : Nat → Int32} {wI : Nat → List Int32} {wL : Nat → List Int64} {m : MS} {d d2 u : Nat} {v1 v2 v3 v5 v6 : Int32} {v4 : Int64} {W : Prop → Prop}
variable {cp mp h : MH}
theorem mM_up {a b : Nat × Nat} {x y : Int32} (hx : x = nI b.1) (hy : y = nI b.2) : mI (mI (mM m a) 33 x) 34 y = mM m b := by
  subst hx hy
  unfold mM mI
  refine Prod.ext (funext fun k => ?_) rfl
  simp only [up_if]
  by_cases k4 : k = 34
  · simp [k4]
  · by_cases k3 : k = 33
    · simp [k3]
    · simp [k4, k3]
theorem g_counts (I : Inv rs ks vs tl sc wI wL m) {a : Nat × Nat} {x : Int64} (hx : refOK x vs.length) (ha : a.2 ≤ 8) {Q : MH → Prop} (H : Q (hJ cp (hM (mM m (accT vs a x))))) : F_X12_counts d mo x (hJ cp (hM (mM m a))) u Q := by
  have hV := I.1.2.2.2.1.1
  unfold F_X12_counts
  simp only [lg_cmp_lt]
  unfold accT at H
  rcases hx with rfl | ⟨i, hi, rfl⟩
  · rw [ixL_m1] at H
    rw [if_pos (by decide)]
    exact H
  · obtain ⟨w, hw⟩ := get_lt hi
    rw [ixL_lN hi (by omega)] at H
    simp only [hw] at H
    have h0 : ¬ lN i < 0 := by rw [Int64.lt_iff_toInt_lt, lN_toInt (by omega)]; simp
    rw [if_neg h0, lN_32 (by omega)]
    obtain ⟨c0, c1, c2, c3, c4, c5, c6, c7, c8, c9, c10⟩ := I.2.2.2.1
    obtain ⟨-, -, -, d4, d5, -⟩ := c9 i w hw
    obtain ⟨k, t, -, -, -, -, v1, v2, v3, -⟩ := I.1.2.2.2.1.2 i w hw
    have e33 : (mM m a).1 33 = nI a.1 := by simp [mM, mI, up]
    have e34 : ∀ z, (mI (mM m a) 33 z).1 34 = nI a.2 := by intro z; simp [mM, mI, up]
    have l28 : (mM m a).2.1 28 = m.2.1 28 := rfl
    have l29 : ∀ z, (mI (mM m a) 33 z).2.1 29 = m.2.1 29 := fun z => rfl
    simp only [m_g33, e33, m_g28, m_a28, l28, inb_nI (show i < 2 ^ 31 by omega), rdI_nI (show i < 2 ^ 31 by omega), c4, d4, m_p33, m_g29, m_a29, l29, c5, d5, m_g34, e34, m_p34, nI_add]
    refine ⟨by omega, by omega, ?_⟩
    by_cases q : w.2.2.2.2.2.1 ≤ a.2
    · rw [if_pos (nI_le q (by omega)), mM_up (b := (a.1 + w.2.2.2.2.1, a.2)) rfl rfl]
      rw [show max a.2 w.2.2.2.2.2.1 = a.2 by omega] at H
      exact H
    · rw [if_neg (nI_ge (by omega) (by omega)), mM_up (b := (a.1 + w.2.2.2.2.1, w.2.2.2.2.2.1)) rfl rfl]
      rw [show max a.2 w.2.2.2.2.2.1 = w.2.2.2.2.2.1 by omega] at H
      exact ⟨by omega, H⟩
theorem Inv.vDeep (I : Inv rs ks vs tl sc wI wL m) : vDeep vs := by
  intro v hv
  obtain ⟨i, hi⟩ := List.getElem?_of_mem hv
  obtain ⟨k, t, -, -, -, -, v1, v2, v3, -⟩ := I.1.2.2.2.1.2 i v hi
  exact ⟨v2, v3⟩
theorem Inv.r20 (I : Inv rs ks vs tl sc wI wL m) : ∀ r ∈ rs, r.2.2.length ≤ 20 := fun r hr => (I.1.1.2 r hr).2.1
theorem g_fin203 (I : Inv rs ks vs tl sc wI wL m) {j e q rr : Nat} {row : RowT} {a : Nat × Nat} (hq : q < 6) (hP : (m.2.2 32).getD q 0 = lN rr) (hr : rs[rr]? = some row) (r8 : row.1 = 8) (ha : a.2 ≤ 8) {Q : Int32 → MH → Prop} (H : L_X12_finish_111 d mo (nI j) (nI e) (nI q + 1) (hJ cp (hM (mM m (row.2.2.foldl (accT vs) a)))) u Q) : ∀ n i : Nat, i + n = row.2.2.length → L_X12_finish_203 d mo (nI j) (nI e) (nI q) (nI i) (hJ cp (hM (mM m ((row.2.2.take i).foldl (accT vs) a)))) u Q := by
  have hR := I.1.1.1
  have hrl := (List.getElem?_eq_some_iff.mp hr).1
  obtain ⟨ok1, h20, ok3, -⟩ := I.1.1.2 row (List.mem_of_getElem? hr)
  have hd := I.vDeep
  intro n
  induction n with
  | zero =>
    intro i hi
    have J := I.scr (scr_M (a := (row.2.2.take i).foldl (accT vs) a) I.l32)
    obtain ⟨-, -, ⟨a3, a4⟩, -, -⟩ := J.2.1.at hR hr
    unfold L_X12_finish_203
    refine E_X12_finish_203 ?_
    unfold F_X12_finish_203
    refine m_g5.mpr (g_P J.l32 hq ?_)
    rw [show ((mM m ((row.2.2.take i).foldl (accT vs) a)).2.2 32).getD q 0 = lN rr from hP, lN_32 (by omega)]
    simp only [m_a5, a3, a4, true_and]
    rw [if_pos (nI_le (by omega) (by omega)), List.take_of_length_le (by omega)]
    exact H
  | succ n ih =>
    intro i hi
    obtain ⟨y, hy⟩ := get_lt (show i < row.2.2.length by omega)
    have J := I.scr (scr_M (a := (row.2.2.take i).foldl (accT vs) a) I.l32)
    obtain ⟨-, -, ⟨a3, a4⟩, -, a7⟩ := J.2.1.at hR hr
    obtain ⟨b1, b2⟩ := a7 i (by omega) h20
    unfold L_X12_finish_203
    refine E_X12_finish_203 ?_
    unfold F_X12_finish_203
    refine m_g5.mpr (g_P J.l32 hq ?_)
    rw [show ((mM m ((row.2.2.take i).foldl (accT vs) a)).2.2 32).getD q 0 = lN rr from hP, lN_32 (by omega)]
    simp only [m_a5, a3, a4, true_and]
    rw [if_neg (nI_ge (by omega) (by omega))]
    refine m_g7.mpr (g_P J.l32 hq ?_)
    rw [show ((mM m ((row.2.2.take i).foldl (accT vs) a)).2.2 32).getD q 0 = lN rr from hP, lN_32 (by omega)]
    simp only [m_a7, b1, b2, true_and]
    refine ⟨m_rc, ?_⟩
    have ey : row.2.2.getD i 0 = y := by simp [List.getD_eq_getElem?_getD, hy]
    rw [ey]
    refine g_counts I ((ok3 y (List.mem_of_getElem? hy)).2 r8) (accF_le hd _ a a.1 (Nat.le_refl _) ha).2 ?_
    have := ih (i + 1) (by omega)
    rw [take_s hy, List.foldl_append] at this
    rw [nI_1]
    exact this
theorem g_fin111 (I : Inv rs ks vs tl sc wI wL m) {j e : Nat} {k : KindT} {t : List ET} (hk : ks[j]? = some k) (ht : k.2.2.2.2[e]? = some t) (h6 : t.length ≤ 6) {P : Nat → Int64} (hP : ∀ q, q < t.length → (m.2.2 32).getD q 0 = P q) (hf : ∀ q, q < t.length → pfit rs vs (lnT t q) (P q)) {Q : Int32 → MH → Prop} (H : F_X12_finish_111 d mo (nI j) (nI (4 * j + e)) (nI t.length) (hJ cp (hM (mM m (accP rs vs (lnT t) P t.length)))) u Q) : L_X12_finish_111 d mo (nI j) (nI (4 * j + e)) 0 (hJ cp (hM (mM m (1, 0)))) u Q := by
  have hR := I.1.1.1
  have hV := I.1.2.2.2.1.1
  have hd := I.vDeep
  have hr20 := I.r20
  have key : ∀ r q : Nat, q + r = t.length → L_X12_finish_111 d mo (nI j) (nI (4 * j + e)) (nI q) (hJ cp (hM (mM m (accP rs vs (lnT t) P q)))) u Q := by
    intro r
    induction r with
    | zero =>
      intro q hq
      have : q = t.length := by omega
      subst this
      unfold L_X12_finish_111
      exact E_X12_finish_111 H
    | succ r ih =>
      intro q hq
      have ih2 := ih (q + 1) (by omega)
      obtain ⟨b1, b2⟩ := accP_le (L := lnT t) (P := P) hd hr20 q
      have hfq := hf q (by omega)
      rw [accP] at ih2
      unfold accQ at ih2
      have J := I.scr (scr_M (a := accP rs vs (lnT t) P q) I.l32)
      have hPq : ((mM m (accP rs vs (lnT t) P q)).2.2 32).getD q 0 = P q := hP q (by omega)
      unfold L_X12_finish_111
      refine E_X12_finish_111 ?_
      unfold F_X12_finish_111
      refine g_cnt J hk ht ?_
      rw [if_neg (nI_ge (by omega) (by omega))]
      refine g_L J hk ht (by omega) ?_
      by_cases l8 : lnT t q = 8
      · rw [if_pos l8] at ih2 ⊢
        refine g_P J.l32 (by omega) ⟨m_rc, ?_⟩
        rw [hPq]
        refine g_counts I (hfq.2.1 l8) b2 ?_
        rw [nI_1]
        exact ih2
      · rw [if_neg l8] at ih2 ⊢
        refine g_L J hk ht (by omega) ?_
        by_cases l9 : lnT t q = 9
        · rw [if_pos l9] at ih2 ⊢
          refine g_P J.l32 (by omega) ?_
          rw [hPq]
          simp only [lg_cmp_lt]
          rcases hfq.2.2 l9 with z | ⟨rr, z1, z2⟩
          · rw [z]
            rw [z, ixL_m1] at ih2
            rw [if_pos (by decide), nI_1]
            exact ih2
          · obtain ⟨row, hrow⟩ := get_lt z1
            rw [z2, ixL_lN z1 (by omega)] at ih2
            simp only [hrow] at ih2
            have h0 : ¬ lN rr < 0 := by rw [Int64.lt_iff_toInt_lt, lN_toInt (by omega)]; simp
            rw [z2, if_neg h0]
            refine m_g4.mpr (g_P J.l32 (by omega) ?_)
            rw [hPq, z2, lN_32 (by omega)]
            obtain ⟨-, ⟨a1, a2⟩, -⟩ := J.2.1.at hR hrow
            simp only [m_a4, a1, a2, true_and]
            by_cases r8 : row.1 = 8
            · rw [if_pos r8] at ih2 ⊢
              have := g_fin203 (d := d) (u := u) (cp := cp) (Q := Q) (e := 4 * j + e) (j := j) (a := accP rs vs (lnT t) P q) I (show q < 6 by omega) ((hP q (by omega)).trans z2) hrow r8 b2 (by rw [nI_1]; exact ih2) row.2.2.length 0 (by omega)
              exact this
            · rw [if_neg r8] at ih2 ⊢
              rw [nI_1]
              exact ih2
        · rw [if_neg l9] at ih2 ⊢
          rw [nI_1]
          exact ih2
  exact key t.length 0 (by omega)
/-! the same reads, of kinds alone -/
theorem k_cnt (hK : mKinds ks m) (h16 : ks.length ≤ 16) {j e : Nat} {k : KindT} {t : List ET} (hk : ks[j]? = some k) (k2 : k.2.2.2.2.length ≤ 4) (ht : k.2.2.2.2[e]? = some t) {K : Int32 → Prop} (H : K (nI t.length)) : gR (hJ cp (hM m)) mo 11 15 (fun x => aI .int (hJ cp (hM m)) x (nI (4 * j + e)) K) := by
  obtain ⟨-, ⟨g1, g2⟩, -⟩ := hK.ed h16 hk k2 ht
  simp only [m_g15, m_a15, g1, g2, true_and]
  exact H
theorem k_L (hK : mKinds ks m) (h16 : ks.length ≤ 16) {j e q : Nat} {k : KindT} {t : List ET} (hk : ks[j]? = some k) (k2 : k.2.2.2.2.length ≤ 4) (h8 : t.length ≤ 8) (ht : k.2.2.2.2[e]? = some t) (hq : q < t.length) {K : Int32 → Prop} (H : K (lnT t q)) : gR (hJ cp (hM m)) mo 11 17 (fun x => aI .int (hJ cp (hM m)) x (8 * nI (4 * j + e) + nI q) K) := by
  obtain ⟨x, hx⟩ := get_lt hq
  have hj := (List.getElem?_eq_some_iff.mp hk).1
  have hel := (List.getElem?_eq_some_iff.mp ht).1
  obtain ⟨c0, c1, c2, c3, c4, c5, c6, c7, c8, c9, c10, c11⟩ := hK
  obtain ⟨-, -, -, -, -, d6⟩ := c10 j k hk
  obtain ⟨-, g2, -⟩ := (d6 e t ht).2 q x hx
  rw [lnT_at hx] at H
  simp only [m_g17, m_a17, idx8, inb_nI (show 8 * (4 * j + e) + q < 2 ^ 31 by omega), rdI_nI (show 8 * (4 * j + e) + q < 2 ^ 31 by omega), c8, g2]
  exact ⟨by omega, H⟩
theorem k_isTwinned (hRm : mRows rs m) (hR : rs.length ≤ 60) (hK : mKinds ks m) (h16 : ks.length ≤ 16) {j : Nat} {k : KindT} (hk : ks[j]? = some k) {x : Int64} (hx : refOK x rs.length) {Q : Int32 → MH → Prop} (H : Q (b2i (twn rs k.2.1 9 x).isSome) (hJ cp (hM m))) : F_X12_isTwinned d mo (nI j) x.toInt32 (hJ cp (hM m)) u Q := by
  unfold twn at H
  rw [if_pos rfl] at H
  unfold F_X12_isTwinned
  rcases hx with rfl | ⟨i, hi, rfl⟩
  · rw [ixL_m1] at H
    rw [if_pos (by decide)]
    exact ⟨nz_0, H⟩
  · obtain ⟨row, hrow⟩ := get_lt hi
    rw [ixL_lN hi (by omega)] at H
    simp only [hrow] at H
    rw [lN_32 (by omega), if_neg (nI_pos (by omega))]
    obtain ⟨-, ⟨a1, a2⟩, -, ⟨a5, a6⟩, -⟩ := hRm.at hR hrow
    obtain ⟨hj16, -, ⟨r1, r2⟩, -⟩ := hK.at h16 hk
    simp only [m_g6, m_a6, a5, a6, true_and, m_g4, m_a4, a1, a2, m_g11, m_a11, r1, r2]
    cases hb : row.2.1
    · rw [if_pos (show b2i false = 0 from rfl)]
      by_cases a : row.1 = 8
      · rw [if_pos a]
        rw [if_pos ⟨hb, Or.inl a⟩] at H
        exact ⟨nz_1, H⟩
      · rw [if_neg a]
        by_cases b : k.2.1 = 4
        · rw [if_pos b]
          rw [if_pos ⟨hb, Or.inr b⟩] at H
          exact ⟨nz_1, H⟩
        · rw [if_neg b]
          rw [if_neg (fun y => by rcases y.2 with y | y; exact a y; exact b y)] at H
          exact ⟨nz_0, H⟩
    · rw [if_neg (show ¬ b2i true = 0 by decide)]
      rw [if_neg (fun y => by rw [hb] at y; exact absurd y.1 (by decide))] at H
      exact ⟨nz_0, H⟩
end Fin6
