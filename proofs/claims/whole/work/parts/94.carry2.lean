section Carry2
variable {rs : List RowT} {ks : List KindT} {vs : List ValT} {tl : Nat → Nat → Nat → List Int32} {sc : Nat → Int32} {wI : Nat → List Int32} {wL : Nat → List Int64} {m : MS} {d d2 u : Nat} {v1 v2 v3 v5 v6 : Int32} {v4 : Int64} {W : Prop → Prop}
variable {cp mp h : MH}
theorem op_carry (I : Inv rs ks vs tl sc wI wL m) (hW : ∀ X, X → W X) {K : Int32 → Int32 → MH → Prop} (hK : KI K) (hu : 200 ≤ u) : F_X11_carry (d + 1) br v1 (hX rs ks vs tl sc wI wL m) u (fun a h => W (rc h mo 11 ∧ F_X12_carry d2 mo v1 h 0 (fun b h => K a b h))) := by
  have hR := I.1.1.1; have hV := I.1.2.2.2.1.1; have hKd := I.1.2.1.1; have hRm := I.2.1; have hKm := I.2.2.1; have hVm := I.2.2.2.1; have hMm := I.2.2.2.2
  unfold F_X11_carry
  simp only [c_g1_0, c_rc2, true_and, f_findValue hV, ixL_i]
  rcases hx : ix v1 vs.length with _ | i
  · simp only [Option.map_none, nl_none]
    refine hW _ ⟨m_rc, ?_⟩
    unfold F_X12_carry
    simp only [m_rcT, g_isValue hV hVm.1, hx, if_b2i, Option.isSome_some, Option.isSome_none, Bool.true_eq_false, Bool.false_eq_true, if_false, if_true, true_and]
    exact hK _ _ _ _ _ _ _ _ _ I
  obtain ⟨h1, rfl, -, -⟩ := ix_some hx
  obtain ⟨v, hi⟩ := get_lt h1
  obtain ⟨k, tv, hk, htv, hkok, hedv, hvok⟩ := I.val hi
  obtain ⟨k1, k2, k3, k4, k5, k6, k7⟩ := hkok
  obtain ⟨e, he⟩ : ∃ e, e + 1 = k.2.2.2.2.length := ⟨k.2.2.2.2.length - 1, by omega⟩
  obtain ⟨t, ht⟩ := get_lt (show e < k.2.2.2.2.length by omega)
  obtain ⟨ed1, ed2, ed3⟩ := k4 t (List.mem_of_getElem? ht)
  have h8 : t.length ≤ 8 := by split at ed1 <;> omega
  obtain ⟨k', t', z1, z2, hs, z4, z5, z6, z7, hcp, hrp⟩ := hvok
  cases hk.symm.trans z1
  cases htv.symm.trans z2
  obtain ⟨c0, c1, c2, c3, c4, c5, c6, c7, c8, c9, c10⟩ := hVm
  obtain ⟨e1, e2, e3, e4, e5, e6, e7⟩ := c9 i v hi
  rw [Option.map_some, nl_some]
  refine gR_raw (o_29 hi) rfl (gI_raw (o_23 hk) rfl ?_)
  have hbeg : ∀ a cp', (if k.1 = false then (if vs.length = 200 then K a (-4) (hJ cp' (hM m)) else L_X12_carry_68 d2 mo (nI i) (nI v.1) (nI (4 * v.1 + e)) 0 (hJ cp' (hM m)) 0 (fun b h => K a b h)) else if plc t v.2.2.2.1 = none then K a (-3) (hJ cp' (hM m)) else K a (nI i) (hJ cp' (hM m))) → F_X12_carry d2 mo (nI i) (hJ cp' (hM m)) 0 (fun b h => K a b h) := by
    intro a cp' ha
    unfold F_X12_carry
    simp only [m_rcT, g_isValue hV c0, hx, if_b2i, Option.isSome_some, Option.isSome_none, Bool.true_eq_false, Bool.false_eq_true, if_false, if_true, true_and, m_g25, m_a25, inb_nI (show i < 2 ^ 31 by omega), rdI_nI (show i < 2 ^ 31 by omega), c1, e1]
    refine ⟨by omega, (g_newestOf hKm hKd hk).mpr ?_⟩
    rw [show k.2.2.2.2.length - 1 = e by omega]
    refine ⟨m_rc, (g_isConstant (vs := vs) ⟨c0, c1, c2, c3, c4, c5, c6, c7, c8, c9, c10⟩ hV hi hKm hKd hk).mpr ?_⟩
    simp only [if_b2i, m_g24, c0]
    cases hc : k.1
    · rw [hc, if_pos rfl] at ha
      rw [if_pos rfl]
      by_cases hv : vs.length = 200
      · rw [if_pos hv] at ha
        rw [if_pos (by rw [hv]; rfl)]
        exact ha
      · rw [if_neg hv] at ha
        rw [if_neg (show ¬ nI vs.length = 200 from fun z => hv ((nI_eq (a := vs.length) (b := 200) (by omega) (by omega)).mp z))]
        exact ha
    · rw [hc, if_neg (by decide)] at ha
      rw [if_neg (by decide)]
      refine m_g30.mpr (m_a30.mpr ⟨(inb_nI (by omega)).mpr (by omega), ?_⟩)
      rw [rdI_nI (by omega), e6]
      refine ⟨m_rc, g_placeOf hKm hKd hk k2 ht h8 ed2 ?_⟩
      by_cases hp : plc t v.2.2.2.1 = none
      · rw [if_pos hp] at ha
        rw [hp, if_neg (by decide)]
        exact ha
      · rw [if_neg hp] at ha
        obtain ⟨p, hpp⟩ := Option.ne_none_iff_exists'.mp hp
        rw [hpp, if_pos (show 0 ≤ pI (some p) from nI_le (a := 0) (Nat.zero_le _) (by have := plc_lt hpp; omega))]
        exact ha
  cases hc : k.1
  · rw [if_pos (show b2i false = 0 from rfl)]
    obtain ⟨-, hlen, hparts⟩ := hrp hc
    have h6 : t.length ≤ 6 := by rw [hc] at ed1; simpa using ed1
    have h6v : tv.length ≤ 6 := by have := hedv.1; rw [hc] at this; simpa using this
    have ho := ed3 hc
    have hov := hedv.2.2 hc
    have hpf : ∀ p, p < tv.length → pfit rs vs (lnT tv p) (v.2.2.2.2.2.2.getD p 0) := by
      intro p hp
      obtain ⟨x, hx'⟩ := get_lt hp
      obtain ⟨y, hy⟩ := get_lt (show p < v.2.2.2.2.2.2.length by omega)
      rw [lnT_at hx', show v.2.2.2.2.2.2.getD p 0 = y by simp [List.getD_eq_getElem?_getD, hy]]
      exact part_fit (hparts p x y hx' hy) (by omega)
    refine (f_roomV (n := 1) (by omega) hV).mpr ?_
    by_cases hr : vs.length < 200
    · rw [show decide (vs.length + 1 ≤ 200) = true from decide_eq_true hr, if_neg (show ¬ b2i true = 0 by decide)]
      refine c_g1_2.mpr ⟨rc_raw (o_23 hk), s_newest (o_23 hk) (o_24 hk) k1 k2 ?_⟩
      rw [show k.2.2.2.2.length - 1 = e by omega]
      have q1 : (wL 1).length = 6 := I.1.2.2.2.2.1.2.2.2.2.1
      refine ⟨rfl, s_takeValue hi hk ht htv h6 h6v hov hlen hpf q1 (fun l1 hl1 hlV => ?_)⟩
      by_cases f0 : firstF (cvF tv t) t.length 0 = 0
      · rw [f0, if_pos rfl]
        have hV1 := hlV f0
        have hg := firstF_0 t.length 0 f0
        have hP0 : ∀ q, (fun q => (up wL 1 l1 1).getD q 0) q = l1.getD q 0 := fun q => by rw [up_s]
        have hf : ∀ q, q < t.length → pfit rs vs (lnT t q) ((up wL 1 l1 1).getD q 0) := by
          intro q hq
          rw [show (up wL 1 l1 1).getD q 0 = l1.getD q 0 from hP0 q, hV1 q hq]
          have hgq := hg q (Nat.zero_le _) (by omega)
          unfold cvF at hgq
          unfold cvV
          rcases hpl : plc tv (lbT t q) with _ | p
          · simp only
            cases hw : wi (lnT t q) 0 7
            · rcases lane_3 (lnT_9 ho hq) with y | y | y
              · rw [hw] at y; cases y
              · exact ⟨fun y2 => (by rw [hw] at y2; cases y2), fun _ => Or.inl rfl, fun _ => Or.inl rfl⟩
              · exact ⟨fun y2 => (by rw [hw] at y2; cases y2), fun _ => Or.inl rfl, fun _ => Or.inl rfl⟩
            · exact ⟨fun _ => num0 _, fun y => by rw [y] at hw; exact absurd hw (by decide), fun y => by rw [y] at hw; exact absurd hw (by decide)⟩
          · rw [hpl] at hgq
            simp only at hgq ⊢
            cases hw : isW (lnT tv p) (lnT t q)
            · rw [hw] at hgq; exact absurd hgq (by decide)
            · exact wd_fit (lnT_9 hov (plc_lt hpl)) hw (hpf p (plc_lt hpl))
        have ref : ∀ a cp', (∀ m1, Inv rs ks vs tl sc wI wL m1 → (∀ p, p < t.length → (m1.2.2 32).getD p 0 = (fun q => (up wL 1 l1 1).getD q 0) p) → F_X12_finish d2 mo (nI v.1) (hJ cp' (hM m1)) 0 (fun b h => K a b h)) → W (rc (hJ cp' (hM m)) mo 11 ∧ F_X12_carry d2 mo (nI i) (hJ cp' (hM m)) 0 (fun b h => K a b h)) := by
          intro a cp' hh
          refine hW _ ⟨m_rc, hbeg _ _ ?_⟩
          rw [if_pos hc, if_neg (by omega)]
          refine g_carry68 I hi hk ht htv h6 h6v ho hov hedv.2.1 hlen hpf (fun f y1 y2 => absurd (y1.symm.trans f0) y2) (fun _ m' I' hp => hh m' I' (fun p hp2 => ?_))
          rw [hp p hp2]
          show _ = (up wL 1 l1 1).getD p 0
          rw [show (up wL 1 l1 1).getD p 0 = l1.getD p 0 from hP0 p, hV1 p hp2]
        refine ⟨rfl, s_finish hR I.r20 hr I.vDeep hk ht he k2 h6 (by rw [up_s]; exact hl1) (fun q hq l9 => (hf q hq).2.2 l9) (by omega) (fun z => ?_) (fun z zr => ?_) (fun z P' zr l2 hl2 zo => ?_) (fun z P' zr l2 hl2 z3 z8 => ?_)⟩
        · refine ref _ _ (fun m1 J hp => ?_)
          refine g_finish (J.cdr1 hl1) hk hc hs ht he h6 ho hp hf hr (fun _ => ?_) (fun y => absurd z (by omega)) (fun y => absurd z (by omega)) (fun y => absurd z (by omega))
          exact hK _ _ _ _ _ _ _ _ _ (J.cdr1 hl1)
        · refine ref _ _ (fun m1 J hp => ?_)
          refine g_finish (J.cdr1 hl1) hk hc hs ht he h6 ho hp hf hr (fun y => absurd y (by omega)) (fun _ _ => ?_) (fun _ P' y => by rw [zr] at y; cases y) (fun _ P' y => by rw [zr] at y; cases y)
          exact hK _ _ _ _ _ _ _ _ _ ((J.cdr1 hl1).fault 5)
        · refine ref _ _ (fun m1 J hp => ?_)
          refine g_finish (J.cdr1 hl1) hk hc hs ht he h6 ho hp hf hr (fun y => absurd y (by omega)) (fun _ y => by rw [zr] at y; cases y) (fun _ P2 y _ m' I' => ?_) (fun _ P2 y y3 y8 => ?_)
          · exact hK _ _ _ _ _ _ _ _ _ (I'.cdr hl2)
          · cases zr.symm.trans y
            rcases zo with w | w
            · omega
            · omega
        · refine ref _ _ (fun m1 J hp => ?_)
          refine g_finish (J.cdr1 hl1) hk hc hs ht he h6 ho hp hf hr (fun y => absurd y (by omega)) (fun _ y => by rw [zr] at y; cases y) (fun _ P2 y yo => ?_) (fun _ P2 y _ _ m' I' => ?_)
          · cases zr.symm.trans y
            rcases yo with w | w
            · omega
            · omega
          · cases zr.symm.trans y
            exact hK _ _ _ _ _ _ _ _ _ (I'.cdr hl2)
      · rw [if_neg f0]
        refine ⟨rfl, f_failed.mpr ?_⟩
        refine hW _ ⟨m_rc, hbeg _ _ ?_⟩
        rw [if_pos hc, if_neg (by omega)]
        refine g_carry68 I hi hk ht htv h6 h6v ho hov hedv.2.1 hlen hpf (fun f y1 y2 m' I' => ?_) (fun y => absurd y f0)
        rw [y1]
        exact hK _ _ _ _ _ _ _ _ _ ((I'.cdr1 hl1).fault f)
    · rw [show decide (vs.length + 1 ≤ 200) = false from decide_eq_false hr, if_pos (show b2i false = 0 from rfl)]
      refine hW _ ⟨m_rc, hbeg _ _ ?_⟩
      rw [if_pos hc, if_pos (by omega)]
      exact hK _ _ _ _ _ _ _ _ _ I
  · rw [if_neg (show ¬ b2i true = 0 by decide)]
    refine ⟨rc_raw (o_23 hk), s_newest (o_23 hk) (o_24 hk) k1 k2 ?_⟩
    rw [show k.2.2.2.2.length - 1 = e by omega]
    refine gI_raw (o_29 hi) rfl ⟨rc_raw (o_25 hk ht), f_find hk ht h8 ?_⟩
    obtain ⟨p1, p2⟩ := pI_m1 (o := plc t v.2.2.2.1) (fun i hi => by have := plc_lt hi; omega)
    by_cases hp : plc t v.2.2.2.1 = none
    · rw [if_pos (p1.mpr hp)]
      refine hW _ ⟨m_rc, hbeg _ _ ?_⟩
      rw [if_neg (by rw [hc]; decide), if_pos hp]
      exact hK _ _ _ _ _ _ _ _ _ I
    · rw [if_neg (fun y => hp (p1.mp y))]
      refine gI_raw (o_29 hi) rfl ?_
      refine hW _ ⟨m_rc, hbeg _ _ ?_⟩
      rw [if_neg (by rw [hc]; decide), if_neg hp]
      exact hK _ _ _ _ _ _ _ _ _ I
end Carry2
