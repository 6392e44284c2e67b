section Make3
variable {rs : List RowT} {ks : List KindT} {vs : List ValT} {tl : Nat → Nat → Nat → List Int32} {sc : Nat → Int32} {wI : Nat → List Int32} {wL : Nat → List Int64} {m : MS} {d d2 u : Nat} {v1 v2 v3 v5 v6 : Int32} {v4 : Int64} {W : Prop → Prop}
variable {cp mp h : MH}
/-- the class behind the start, the reference behind its own -/
theorem make_rest (I : Inv rs ks vs tl sc wI wL m) {j e : Nat} {k : KindT} {t : List ET} (hk : ks[j]? = some k) (hc : k.1 = false) (hs : k.2.2.1 = true) (ht : k.2.2.2.2[e]? = some t) (he : e + 1 = k.2.2.2.2.length) (hV : vs.length < 200) {K : Int32 → Int32 → MH → Prop} (hK : KI K) (hu : 190 ≤ u) {Q : Int32 → MH → Prop} (HQ : ∀ a cp', (∀ m1, Inv rs ks vs tl sc wI wL m1 → L_X12_make_51 d2 mo (nI j) (nI (4 * j + e)) 0 (hJ cp' (hM m1)) 0 (fun b h => K a b h)) → Q a (hJ cp' mp)) :
    gR (hJ (hC rs ks vs tl sc wI wL) mp) br 10 2 fun x6 => gR (hJ (hC rs ks vs tl sc wI wL) mp) br 10 1 fun x7 => rc (hJ (hC rs ks vs tl sc wI wL) mp) (some (23, j, 0)) 3 ∧ F_X3_newest (d + 6) (some (23, j, 0)) (hJ (hC rs ks vs tl sc wI wL) mp) 0 fun x8 h => rc h x6 1 ∧ F_X1_takeTray d x6 x7 x8 h 0 fun x9 h => if x9 = 0 then rc h br 10 ∧ iI (d + 6) u_X11_finish [jR br, jR (some (23, j, 0))] h u fun x10 h u => if x10 < 0 then Q x10 h else gR h br 10 1 fun x11 => rc h x11 8 ∧ F_X9_emptyAll (d + 6) x11 h 0 fun h => Q x10 h else rc h br 10 ∧ F_X11_failed (d + 6) br x9 h 0 fun x13 h => Q x13 h := by
  obtain ⟨k1, k2, k3, k4, k5, k6, k7⟩ := I.1.2.1.2 k (List.mem_of_getElem? hk)
  obtain ⟨ed1, ed2, ed3⟩ := k4 t (List.mem_of_getElem? ht)
  have h6 : t.length ≤ 6 := by rw [hc] at ed1; simpa using ed1
  have ho := ed3 hc
  obtain ⟨w0, w1, w2, q0, q1, w3, w4, w5, w6, x1, x2, x3⟩ := I.1.2.2.2.2.1
  have htr := I.1.2.2.2.2.2
  simp only [c_g1_2, c_g1_1]
  refine ⟨rc_raw (o_23 hk), s_newest (o_23 hk) (o_24 hk) k1 k2 ?_⟩
  rw [show k.2.2.2.2.length - 1 = e by omega]
  refine ⟨rfl, s_takeTray hk ht h6 w2 q0 q1 htr (fun l1 hl1 hlV => ?_)⟩
  by_cases f0 : firstF (fun q => tkF (lnT t q) ((wI 2).getD q 0)) t.length 0 = 0
  · rw [f0, if_pos rfl]
    have hV1 := hlV f0
    have hg := firstF_0 t.length 0 f0
    have hP0 : ∀ q, (fun q => (up wL 1 l1 1).getD q 0) q = l1.getD q 0 := fun q => by rw [up_s]
    have hf : ∀ q, q < t.length → pfit rs vs (lnT t q) ((up wL 1 l1 1).getD q 0) := by
      intro q hq
      rw [show (up wL 1 l1 1).getD q 0 = l1.getD q 0 from hP0 q, hV1 q hq]
      exact tk_fit (lnT_9 ho hq) (htr q (by omega)) (hg q (Nat.zero_le _) (by omega))
    -- the reference's end, for each end of the class
    have ref : ∀ a cp', (∀ m1, Inv rs ks vs tl sc wI wL m1 → (∀ p, p < t.length → (m1.2.2 32).getD p 0 = (fun q => (up wL 1 l1 1).getD q 0) p) → F_X12_finish d2 mo (nI j) (hJ cp' (hM m1)) 0 (fun x3 h => L_X12_make_212 d2 mo x3 0 h 0 (fun b h => K a b h))) → Q a (hJ cp' mp) := by
      intro a cp' hh
      refine HQ a cp' (fun m1 I1 => ?_)
      refine g_make51 I1 hk ht h6 ho (fun f z1 z2 => absurd (z1.symm.trans f0) z2) (fun _ m' I' hp => hh m' I' (fun p hp2 => ?_))
      rw [hp p hp2]
      show _ = (up wL 1 l1 1).getD p 0
      rw [show (up wL 1 l1 1).getD p 0 = l1.getD p 0 from hP0 p, hV1 p hp2]
    have I1 := I.cdr1 hl1
    refine ⟨rfl, s_finish I.1.1.1 I.r20 hV I.vDeep hk ht he k2 h6 (by rw [up_s]; exact hl1) (fun q hq l9 => (hf q hq).2.2 l9) hu (fun z => ?_) (fun z zr => ?_) (fun z P' zr l2 hl2 zo => ?_) (fun z P' zr l2 hl2 z3 z8 => ?_)⟩
    · rw [if_pos (by decide)]
      refine ref _ _ (fun m1 J hp => ?_)
      refine g_finish (J.cdr1 hl1) hk hc hs ht he h6 ho hp hf hV (fun _ => ?_) (fun y => absurd z (by omega)) (fun y => absurd z (by omega)) (fun y => absurd z (by omega))
      refine g_make212n (by decide) ?_
      exact hK _ _ _ _ _ _ _ _ _ (J.cdr1 hl1)
    · rw [if_pos (by decide)]
      refine ref _ _ (fun m1 J hp => ?_)
      refine g_finish (J.cdr1 hl1) hk hc hs ht he h6 ho hp hf hV (fun y => absurd y (by omega)) (fun _ _ => ?_) (fun _ P' y => by rw [zr] at y; cases y) (fun _ P' y => by rw [zr] at y; cases y)
      refine g_make212n (by decide) ?_
      exact hK _ _ _ _ _ _ _ _ _ ((J.cdr1 hl1).fault 5)
    · rw [if_pos (by decide)]
      refine ref _ _ (fun m1 J hp => ?_)
      refine g_finish (J.cdr1 hl1) hk hc hs ht he h6 ho hp hf hV (fun y => absurd y (by omega)) (fun _ y => by rw [zr] at y; cases y) (fun _ P2 y _ m' I' => ?_) (fun _ P2 y y3 y8 => ?_)
      · refine g_make212n (by decide) ?_
        exact hK _ _ _ _ _ _ _ _ _ (I'.cdr hl2)
      · cases zr.symm.trans y
        rcases zo with w | w
        · omega
        · omega
    · rw [if_neg (nI_pos (by omega))]
      refine c_g1_1.mpr ⟨rfl, s_emptyAll (by exact w2) (fun l hl hlm => ?_)⟩
      refine ref _ _ (fun m1 J hp => ?_)
      refine g_finish (J.cdr1 hl1) hk hc hs ht he h6 ho hp hf hV (fun y => absurd y (by omega)) (fun _ y => by rw [zr] at y; cases y) (fun _ P2 y yo => ?_) (fun _ P2 y _ _ m' I' => ?_)
      · cases zr.symm.trans y
        rcases yo with w | w
        · omega
        · omega
      · cases zr.symm.trans y
        have I2 := I'.cdr (a := accP rs vs (lnT t) P' t.length) hl2
        refine g_make212 (nI_pos (by omega)) I2.2.2.2.2.2.2.2.2.2.2.1 (fun l' hl' hlm' => ?_)
        exact hK _ _ _ _ _ _ _ _ _ (I2.empty hl hl' hlm hlm')
  · rw [if_neg f0]
    refine ⟨rfl, f_failed.mpr ?_⟩
    refine HQ _ _ (fun m1 J => ?_)
    refine g_make51 J hk ht h6 ho (fun f z1 z2 m' I' => ?_) (fun z => absurd z f0)
    rw [z1]
    exact hK _ _ _ _ _ _ _ _ _ ((I'.cdr1 hl1).fault f)
theorem op_make (I : Inv rs ks vs tl sc wI wL m) (hW : ∀ X, X → W X) {K : Int32 → Int32 → MH → Prop} (hK : KI K) (hu : 300 ≤ u) : F_X11_make d br v1 (hX rs ks vs tl sc wI wL m) u (fun a h => W (rc h mo 11 ∧ F_X12_make d2 mo v1 h 0 (fun b h => K a b h))) := by
  have hR := I.1.1.1; have hV := I.1.2.2.2.1.1; have hKd := I.1.2.1.1; have hRm := I.2.1; have hKm := I.2.2.1; have hVm := I.2.2.2.1; have hMm := I.2.2.2.2
  unfold F_X11_make
  simp only [c_rc1, true_and, f_findKind hKd]
  rcases hx : ix v1 ks.length with _ | j
  · simp only [Option.map_none, nl_none]
    refine hW _ ⟨m_rc, ?_⟩
    unfold F_X12_make
    simp only [m_rcT, g_isKind hKd hKm.1, hx, if_b2i, Option.isSome_some, Option.isSome_none, Bool.true_eq_false, Bool.false_eq_true, if_false, if_true, true_and]
    exact hK _ _ _ _ _ _ _ _ _ I
  obtain ⟨h1, rfl, -, -⟩ := ix_some hx
  obtain ⟨k, hk⟩ := get_lt h1
  obtain ⟨k1, k2, k3, k4, k5, k6, k7⟩ := I.1.2.1.2 k (List.mem_of_getElem? hk)
  obtain ⟨hj16, ⟨a1, a2⟩, -, ⟨a3, a4⟩, -⟩ := hKm.at hKd hk
  obtain ⟨e, he⟩ : ∃ e, e + 1 = k.2.2.2.2.length := ⟨k.2.2.2.2.length - 1, by omega⟩
  obtain ⟨t, ht⟩ := get_lt (show e < k.2.2.2.2.length by omega)
  rw [Option.map_some, nl_some]
  refine gI_raw (o_23 hk) rfl ?_
  cases hc : k.1
  · rw [if_pos (show b2i false = 0 from rfl)]
    refine c_g1_0.mpr ⟨rfl, (f_roomV (n := 1) (by omega) hV).mpr ?_⟩
    -- the reference up to its start
    have tail : ∀ a cp', vs.length < 200 → F_X12_starts (d2 + 2) mo (nI j) (hJ cp' (hM m)) 0 (fun x5 h => if x5 = 0 then K a (-4) h else rc h mo 11 ∧ F_X12_newestOf (d2 + 4) mo (nI j) h 0 fun x6 h => L_X12_make_51 d2 mo (nI j) x6 0 h 0 (fun b h => K a b h)) → F_X12_make d2 mo (nI j) (hJ cp' (hM m)) 0 (fun b h => K a b h) := by
      intro a cp' hv ha
      unfold F_X12_make
      simp only [m_rcT, g_isKind hKd hKm.1, hx, if_b2i, Option.isSome_some, Option.isSome_none, Bool.true_eq_false, Bool.false_eq_true, if_false, if_true, true_and, m_g10, m_a10, a1, a2, hc, m_g24, hVm.1]
      rw [if_neg (show ¬ nI vs.length = 200 from fun z => by
        have := (nI_eq (a := vs.length) (b := 200) (by omega) (by omega)).mp z
        omega)]
      exact ha
    by_cases hr : vs.length < 200
    · rw [show decide (vs.length + 1 ≤ 200) = true from decide_eq_true hr, if_neg (show ¬ b2i true = 0 by decide)]
      refine ⟨rfl, s_start I hk (by omega) (fun hs => ?_) (fun hs _ => ?_) (fun _ z => by rw [hc] at z; cases z)⟩
      · refine make_rest (d2 := d2) I hk hc hs ht he hr hK (by omega) (fun a cp' hh => ?_)
        refine hW _ ⟨m_rc, tail _ _ hr ?_⟩
        refine g_starts I hk (fun _ => ?_) (fun z => by rw [hs] at z; cases z) (fun z => by rw [hs] at z; cases z)
        rw [if_neg (by decide)]
        refine ⟨m_rc, (g_newestOf hKm hKd hk).mpr ?_⟩
        rw [show k.2.2.2.2.length - 1 = e by omega]
        exact hh m I
      · have hk2 : (ks.set j (stK k))[j]? = some (stK k) := List.getElem?_set_self h1
        have I2 := WInv.start I (i := t.length) hk hs (fun z => by rw [hc] at z; cases z)
        have I3 := I2.inv hk2 (fun t' ht' => by
          have e1 : (stK k).2.2.2.2.length - 1 = e := by show k.2.2.2.2.length - 1 = e; omega
          rw [e1] at ht'
          cases ht.symm.trans ht'
          exact Nat.le_refl _)
        refine make_rest (d2 := d2) I3 hk2 hc rfl ht he hr hK (by omega) (fun a cp' hh => ?_)
        refine hW _ ⟨m_rc, tail _ _ hr ?_⟩
        refine g_starts I hk (fun z => by rw [hs] at z; cases z) (fun _ _ m' I' => ?_) (fun _ z => by rw [hc] at z; cases z)
        rw [if_neg (by decide)]
        refine ⟨m_rc, (g_newestOf I'.2.2.1 (by rw [List.length_set]; exact hKd) hk2).mpr ?_⟩
        rw [show (stK k).2.2.2.2.length - 1 = e by show k.2.2.2.2.length - 1 = e; omega]
        exact hh m' I'
    · rw [show decide (vs.length + 1 ≤ 200) = false from decide_eq_false hr, if_pos (show b2i false = 0 from rfl)]
      refine hW _ ⟨m_rc, ?_⟩
      unfold F_X12_make
      simp only [m_rcT, g_isKind hKd hKm.1, hx, if_b2i, Option.isSome_some, Option.isSome_none, Bool.true_eq_false, Bool.false_eq_true, if_false, if_true, true_and, m_g10, m_a10, a1, a2, hc, m_g24, hVm.1]
      rw [if_pos (show nI vs.length = 200 by rw [show vs.length = 200 by omega]; rfl)]
      exact hK _ _ _ _ _ _ _ _ _ I
  · rw [if_neg (show ¬ b2i true = 0 by decide)]
    refine hW _ ⟨m_rc, ?_⟩
    unfold F_X12_make
    simp only [m_rcT, g_isKind hKd hKm.1, hx, if_b2i, Option.isSome_some, Option.isSome_none, Bool.true_eq_false, Bool.false_eq_true, if_false, if_true, true_and, m_g10, m_a10, a1, a2, hc]
    exact hK _ _ _ _ _ _ _ _ _ I
end Make3
