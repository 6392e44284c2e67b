section Show2
variable {rs : List RowT} {ks : List KindT} {vs : List ValT} {tl : Nat → Nat → Nat → List Int32} {sc : Nat → Int32} {wI : Nat → List Int32} {wL : Nat → List Int64} {m : MS} {d d2 u : Nat} {v1 v2 v3 v5 v6 : Int32} {v4 : Int64} {W : Prop → Prop}
variable {cp mp h : MH}
theorem Inv.sx {b : Bool} {X : TS} {sc' : Nat → Int32} {wI' : Nat → List Int32} (I : Inv rs ks vs tl sc wI wL m) (hb : b = decide (sc 7 = 0)) (hS : SX sc wI b X sc' wI') : Inv rs ks vs tl sc' wI' wL m := by
  obtain ⟨⟨a1, a2, a3, a4, a5, a6⟩, b1, b2, b3, b4⟩ := I
  obtain ⟨s1, s2, s3, s4, -⟩ := hS
  have e7 : sc' 7 = sc 7 := s1 7 (by cases b <;> decide) (by cases b <;> decide)
  have esh : (if sc' 7 = 0 then sc' 8 else sc' 10) = (if sc 7 = 0 then sc 8 else sc 10) := by
    rw [e7]
    by_cases z : sc 7 = 0
    · have : b = true := by rw [hb]; simpa using z
      subst this
      rw [if_pos z, if_pos z]
      exact s1 8 (by decide) (by decide)
    · have : b = false := by rw [hb]; simpa using z
      subst this
      rw [if_neg z, if_neg z]
      exact s1 10 (by decide) (by decide)
  have eby : ((if sc' 7 = 0 then wI' 3 else wI' 5) : List Int32) = (if sc 7 = 0 then wI 3 else wI 5) := by
    rw [e7]
    by_cases z : sc 7 = 0
    · have : b = true := by rw [hb]; simpa using z
      subst this
      rw [if_pos z, if_pos z]
      exact s2 3 (by decide) (by decide)
    · have : b = false := by rw [hb]; simpa using z
      subst this
      rw [if_neg z, if_neg z]
      exact s2 5 (by decide) (by decide)
  have w : ∀ k, k < 3 → wI' k = wI k := fun k hk => s2 k (by cases b <;> simp [bIx] <;> omega) (by cases b <;> simp [dIx] <;> omega)
  have c : ∀ k, k < 8 → sc' k = sc k := fun k hk => s1 k (by cases b <;> simp [cIx] <;> omega) (by cases b <;> simp [oIx] <;> omega)
  refine ⟨⟨a1, a2, a3, a4, ?_, ?_⟩, b1, b2, b3, ?_⟩
  · obtain ⟨w0, w1, w2, q0, q1, w3, w4, w5, w6, x1, x2, x3⟩ := a5
    refine ⟨by rw [w 0 (by omega)]; exact w0, by rw [w 1 (by omega)]; exact w1, by rw [w 2 (by omega)]; exact w2, q0, q1, ?_, ?_, ?_, ?_, by rw [c 0 (by omega), w 1 (by omega)]; exact x1, by rw [c 1 (by omega)]; exact x2, by rw [esh]; exact x3⟩
    · cases b
      · exact s3
      · rw [s2 3 (by decide) (by decide)]; exact w3
    · cases b
      · exact s4
      · rw [s2 4 (by decide) (by decide)]; exact w4
    · cases b
      · rw [s2 5 (by decide) (by decide)]; exact w5
      · exact s3
    · cases b
      · rw [s2 6 (by decide) (by decide)]; exact w6
      · exact s4
  · intro i hi
    rw [w 2 (by omega)]
    exact a6 i hi
  · unfold mMisc at b4 ⊢
    rw [c 3 (by omega), c 4 (by omega), c 2 (by omega), c 0 (by omega), w 0 (by omega), w 1 (by omega), w 2 (by omega), esh, eby]
    exact b4
theorem Inv.swap {b : Bool} {o : List Int32} {sc' : Nat → Int32} {wI' : Nat → List Int32} {l44 : List Int32} {x : Int32} (I : Inv rs ks vs tl sc wI wL m) (hb : b = decide (sc 7 = 0)) (hS : SX sc wI b (some o) sc' wI') (hx : x = if sc 7 = 0 then 1 else 0) (h44 : l44.length = 4000) (hl : ∀ i y, o[i]? = some y → l44.getD i 0 = y) : Inv rs ks vs tl (up sc' 7 x) wI' wL (mI (mA m 44 l44) 45 (nI o.length)) := by
  have I2 := I.sx hb hS
  obtain ⟨s1, s2, s3, s4, s5⟩ := hS
  obtain ⟨o1, o2, o3, o4, o5⟩ := s5
  have enew : (if up sc' 7 x 7 = 0 then up sc' 7 x 8 else up sc' 7 x 10) = nI o.length := by
    rw [up_s, up_n (by decide), up_n (by decide), hx]
    by_cases z : sc 7 = 0
    · have : b = true := by rw [hb]; simpa using z
      subst this
      rw [if_pos z, if_neg (by decide)]
      exact o2
    · have : b = false := by rw [hb]; simpa using z
      subst this
      rw [if_neg z, if_pos rfl]
      exact o2
  have eby : ((if up sc' 7 x 7 = 0 then wI' 3 else wI' 5) : List Int32) = wI' (bIx b) := by
    rw [up_s, hx]
    by_cases z : sc 7 = 0
    · have : b = true := by rw [hb]; simpa using z
      subst this
      rw [if_pos z, if_neg (by decide)]
      rfl
    · have : b = false := by rw [hb]; simpa using z
      subst this
      rw [if_neg z, if_pos rfl]
      rfl
  obtain ⟨⟨a1, a2, a3, a4, a5, a6⟩, b1, b2, b3, b4⟩ := I2
  refine ⟨⟨a1, a2, a3, a4, ?_, a6⟩, by simpa [mRows, mI, mA, up] using b1, by simpa [mKinds, mI, mA, up] using b2, by simpa [mVals, mI, mA, up] using b3, ?_⟩
  · obtain ⟨w0, w1, w2, q0, q1, w3, w4, w5, w6, x1, x2, x3⟩ := a5
    exact ⟨w0, w1, w2, q0, q1, w3, w4, w5, w6, by rw [up_n (by decide)]; exact x1, by rw [up_n (by decide)]; exact x2, ⟨o.length, o1, enew⟩⟩
  · obtain ⟨c1, c2, c3, c4, c5, c6, c7, c8, c9, d1, d2, d3, d4, d5, d6, d7, d8, d9, d10⟩ := b4
    unfold mMisc
    rw [enew, eby]
    simp only [mA_1, mB_1, mI_1, mI_21, mI_22, mA_21, mA_22, mB_21, mB_22, Nat.reduceEqDiff, Nat.reduceEqDiff, reduceCtorEq, if_false, if_true]
    rw [up_n (by decide), up_n (by decide), up_n (by decide), up_n (by decide)]
    refine ⟨c1, c2, c3, c4, c5, c6, c7, c8, c9, d1, d2, d3, d4, d5, d6, d7, h44, trivial, fun i h1 h2 => ?_⟩
    have hi : i < o.length := by
      rw [Int32.lt_iff_toInt_lt, nI_toInt (by omega), nI_toInt (by omega)] at h1
      omega
    obtain ⟨y, hy⟩ := get_lt hi
    rw [hl i y hy, o5 i y hy]
theorem hC_sel {x : Int32} : hset (hJ (hC rs ks vs tl sc wI wL) mp) (11, 0, 0) (.inl (5, [jR (some (2, 0, 0)), jR (some (if x = 0 then (12, 0, 0) else (15, 0, 0))), jR (some (if x = 0 then (15, 0, 0) else (12, 0, 0)))])) = hJ (hC rs ks vs tl (up sc 7 x) wI wL) mp :=
  hC_split (rs' := rs) (ks' := ks) (vs' := vs) (tl' := tl) (sc' := up sc 7 x) (wI' := wI) (wL' := wL) (by decide) rfl (fun k hk => by
    unfold hC
    split <;> first | rfl | exact absurd rfl hk)
theorem g_show70 {m0 : MS} {o : List Int32} (hD : DP m0 m (some o)) (h44 : (m.2.1 44).length = 4000) {Q : Int32 → MH → Prop} (H : ∀ l44 : List Int32, l44.length = 4000 → (∀ i y, o[i]? = some y → l44.getD i 0 = y) → Q (nI o.length) (hJ cp (hM (mI (mA m 44 l44) 45 (nI o.length))))) : L_X12_show_70 d mo 0 (hJ cp (hM m)) u Q := by
  obtain ⟨-, -, -, h42, o1, o2, o3, o4⟩ := hD
  have key : ∀ (p i : Nat) (l : List Int32), i + p = o.length → l.length = 4000 → (∀ q y, q < i → o[q]? = some y → l.getD q 0 = y) → L_X12_show_70 d mo (nI i) (hJ cp (hM (mA m 44 l))) u Q := by
    intro p
    induction p with
    | zero =>
      intro i l hi hl hh
      unfold L_X12_show_70
      refine E_X12_show_70 ?_
      unfold F_X12_show_70
      simp only [m_g43, mA_1, mB_1, mI_1, mI_21, mI_22, mA_21, mA_22, mB_21, mB_22, Nat.reduceEqDiff, Nat.reduceEqDiff, reduceCtorEq, if_false, if_true, o2, m_p45, m_g45]
      rw [if_pos (nI_le (by omega) (by omega))]
      exact H l hl (fun q y hy => hh q y (by have := (List.getElem?_eq_some_iff.mp hy).1; omega) hy)
    | succ p ih =>
      intro i l hi hl hh
      obtain ⟨y, hy⟩ := get_lt (show i < o.length by omega)
      have hyb : y.toInt8.toInt32 = y := o3 y (List.mem_of_getElem? hy)
      unfold L_X12_show_70
      refine E_X12_show_70 ?_
      unfold F_X12_show_70
      simp only [m_g43, mA_1, mB_1, mI_1, mI_21, mI_22, mA_21, mA_22, mB_21, mB_22, Nat.reduceEqDiff, Nat.reduceEqDiff, reduceCtorEq, if_false, if_true, o2]
      rw [if_neg (nI_ge (by omega) (by omega))]
      simp only [m_g44, m_g42, m_a42, mA_1, mB_1, mI_1, mI_21, mI_22, mA_21, mA_22, mB_21, mB_22, Nat.reduceEqDiff, Nat.reduceEqDiff, reduceCtorEq, if_false, if_true, inb_nI (show i < 2 ^ 31 by omega), rdI_nI (show i < 2 ^ 31 by omega), h42, o4 i y hy, hyb, m_s44, nI_clamp (show i < 2 ^ 31 by omega), hl, nI_1, mA_mA]
      refine ⟨by omega, by omega, ?_⟩
      refine ih (i + 1) _ (by omega) (by rw [List.length_set]; exact hl) (fun q y' hq hy' => ?_)
      rw [lset_getD]
      by_cases e : i = q
      · subst e
        rw [if_pos ⟨rfl, by omega⟩]
        exact Option.some.inj (hy.symm.trans hy')
      · rw [if_neg (by omega)]
        exact hh q y' (by omega) hy'
  have := key o.length 0 (m.2.1 44) (by omega) h44 (fun q y hq => absurd hq (Nat.not_lt_zero q))
  have e : mA m 44 (m.2.1 44) = m := by unfold mA; rw [up_id]
  rw [e] at this
  exact this
theorem g_showAll (I : Inv rs ks vs tl sc wI wL m) {i n : Nat} {v : ValT} {T : TS} (hi : vs[i]? = some v) (hn : v.2.2.2.2.2.1 ≤ n) (hn8 : n ≤ 12) (hT : tAdd (some []) (sVal rs ks vs n (lN i)) = T) {Q : Int32 → MH → Prop} (H1 : ∀ o, T = some o → ∀ m', Inv rs ks vs tl sc wI wL m' → ∀ l44 : List Int32, l44.length = 4000 → (∀ i y, o[i]? = some y → l44.getD i 0 = y) → Q (nI o.length) (hJ cp (hM (mI (mA m' 44 l44) 45 (nI o.length))))) (H2 : T = none → ∀ m', Inv rs ks vs tl sc wI wL m' → Q (-4) (hJ cp (hM m'))) : F_X12_show d mo (nI i) (hJ cp (hM m)) u Q := by
  have hV := I.1.2.2.2.1.1
  have hil := (List.getElem?_eq_some_iff.mp hi).1
  unfold F_X12_show
  simp only [m_rcT, g_isValue hV I.2.2.2.1.1, ix_nI hil (show vs.length < 2 ^ 31 by omega), if_b2i, Option.isSome_some, Option.isSome_none, Bool.true_eq_false, Bool.false_eq_true, if_false, if_true, true_and, m_p43, m_p35, true_and]
  have hp0 : Pil (mI m 43 0) (mI (mI m 43 0) 35 0) [] := by
    obtain ⟨-, -, -, -, -, -, -, -, -, e1, e2, e3, e4, e5, e6, -⟩ := I.2.2.2.2
    exact ⟨fun k hk => (by simp [mI, up, hk]), fun k _ => rfl, rfl, (by simp [mI, up, nI_0]), e1, e2, e3, e4, e5, e6, fun t f hf => (by cases hf)⟩
  have hD0 : DP m (mI m 43 0) (some []) := by
    obtain ⟨-, -, -, -, -, -, -, -, -, e1, e2, e3, e4, e5, e6, e7, -⟩ := I.2.2.2.2
    exact ⟨fun k _ hk => (by simp [mI, up, hk]), fun k _ _ => rfl, rfl, e7, by simp, (by simp [mI, up, nI_0]), fun x hx => (by cases hx), fun i x hx => (by cases hx)⟩
  have hD1 := hD0.pil hp0
  have := g_saysThing (d := d) (u := u) (cp := cp) (n := n) (d1 := d + 2) (Q := Q) (G := T = none) I (fun n' _ => r_show I (fun g m' J => H2 g m' J) n') hD1 hp0.self (Or.inr ⟨i, v, rfl, hi, hn⟩) (by simpa using hn8) (fun e => hT.symm.trans e) (fun m' hD' hp' => ?_)
  · rw [lN_32 (by omega)] at this
    exact this
  · rw [hT] at hD'
    have J := I.dp hD' hp'
    rcases T with _ | o
    · exact l_none hD' hp' (by simp) (H2 rfl m' J)
    · obtain ⟨o1, o2, -⟩ := hD'.2.2.2.2
      unfold L_X12_show_25
      refine E_X12_show_25 ?_
      unfold F_X12_show_25
      simp only [m_g35, hp'.len, m_g43, o2]
      rw [if_pos (show nI ([] : List Fr).length ≤ 0 by decide), if_pos (show nI o.length ≤ (4000 : Int32) from nI_le (a := o.length) (b := 4000) (by omega) (by omega))]
      exact g_show70 hD' (by
        obtain ⟨-, -, -, -, -, -, -, -, -, -, -, -, -, -, -, -, e, -⟩ := J.2.2.2.2
        exact e) (H1 o rfl m' J)
theorem op_show (I : Inv rs ks vs tl sc wI wL m) (hW : ∀ X, X → W X) {K : Int32 → Int32 → MH → Prop} (hK : KI K) : F_X11_show (d + 45) br v1 (hX rs ks vs tl sc wI wL m) u (fun a h => W (rc h mo 11 ∧ F_X12_show d2 mo v1 h 0 (fun b h => K a b h))) := by
  have hR := I.1.1.1; have hV := I.1.2.2.2.1.1; have hKd := I.1.2.1.1; have hRm := I.2.1; have hKm := I.2.2.1; have hVm := I.2.2.2.1; have hMm := I.2.2.2.2
  unfold F_X11_show
  simp only [c_g1_0, c_rc2, true_and, f_findValue hV, ixL_i]
  rcases hx : ix v1 vs.length with _ | i
  · simp only [Option.map_none, nl_none]
    refine hW _ ⟨m_rc, ?_⟩
    unfold F_X12_show
    simp only [m_rcT, g_isValue hV hVm.1, hx, if_b2i, Option.isSome_some, Option.isSome_none, Bool.true_eq_false, Bool.false_eq_true, if_false, if_true, true_and]
    exact hK _ _ _ _ _ _ _ _ _ I
  obtain ⟨h1, rfl, -, -⟩ := ix_some hx
  obtain ⟨v, hi⟩ := get_lt h1
  obtain ⟨k, t, hk, hRR⟩ := I.rec hi
  obtain ⟨_, _, -, -, -, -, dv1, dv2, -⟩ := I.1.2.2.2.1.2 i v hi
  obtain ⟨w0, w1, w2, q0, q1, w3, w4, w5, w6, x1, x2, x3⟩ := I.1.2.2.2.2.1
  simp only [Option.map_some, nl_some, c_g1_4]
  refine ⟨rfl, ?_⟩
  obtain ⟨b, hb⟩ : ∃ b, b = decide (sc 7 = 0) := ⟨_, rfl⟩
  have hbN : (if sc 7 = 0 then ((15, 0, 0) : Nm) else (12, 0, 0)) = tN b := by
    by_cases z : sc 7 = 0
    · have : b = true := by rw [hb]; simpa using z
      subst this
      rw [if_pos z]; rfl
    · have : b = false := by rw [hb]; simpa using z
      subst this
      rw [if_neg z]; rfl
  unfold F_X6_writes F_X8_clear
  refine c_g11_2.mpr ?_
  rw [hbN]
  refine ⟨x_rc, x_p2.mpr ⟨nz_0, x_p3.mpr ⟨rfl, ?_⟩⟩⟩
  have hS0 : SX sc wI b (some []) (up (up sc (cIx b) 0) (oIx b) 0) wI := by
    refine ⟨fun k a c => by rw [up_n c, up_n a], fun k _ _ => rfl, ?_, ?_, ?_⟩
    · cases b
      · exact w3
      · exact w5
    · cases b
      · exact w4
      · exact w6
    · show _ ∧ _ ∧ _ ∧ _ ∧ _
      rw [up_s, up_n co_ne, up_s]
      exact ⟨by simp, rfl, rfl, fun x hx => (by cases hx), fun i x hx => (by cases hx)⟩
  generalize hn8 : (8 : Nat) = n8 at dv2
  obtain ⟨T, hT⟩ : ∃ T, tAdd (some []) (sVal rs ks vs n8 (lN i)) = T := ⟨_, rfl⟩
  have J0 := fun (sc' : Nat → Int32) (wI' : Nat → List Int32) (hS : SX sc wI b T sc' wI') => I.sx hb hS
  have eV : rfV vs (lN i) = some (29, i, 0) := by
    unfold rfV
    rw [ixL_lN h1 (by omega), Option.map_some]
  rw [← eV]
  refine s_writeValue (sc0 := sc) (wI0 := wI) (mp := hM m) I hbN n8 (lN i) (Or.inr ⟨i, v, rfl, hi, dv2⟩) (d + 43) _ _ _ _ _ (by omega) hS0 (fun sc' wI' hS => ?_)
  rw [hT] at hS
  refine (x_next hbN hS).mpr (x_g3.mpr ?_)
  have Js := I.sx hb hS
  have n12 : n8 ≤ 12 := by omega
  rcases T with _ | o
  · rw [if_neg (fun z => (x_over hS).mp z rfl)]
    refine ⟨nz_0, ?_⟩
    show (if (0 : Int32) = 0 then _ else _)
    rw [if_pos rfl]
    exact hW _ ⟨m_rc, g_showAll Js hi dv2 n12 hT (fun o e => by cases e) (fun _ m' J => hK _ _ _ _ _ _ _ _ _ J)⟩
  · rw [if_pos ((x_over hS).mpr (by simp))]
    have e11 : (hJ (hC rs ks vs tl sc' wI' wL) (hM m)) (11, 0, 0) = some (.inl (5, [jR (some (2, 0, 0)), jR (some (if sc' 7 = 0 then (12, 0, 0) else (15, 0, 0))), jR (some (if sc' 7 = 0 then (15, 0, 0) else (12, 0, 0)))])) := rfl
    have e7 : sc' 7 = sc 7 := hS.1 7 (by cases b <;> decide) (by cases b <;> decide)
    rw [e7] at e11
    refine gR_raw e11 rfl (gR_raw e11 rfl (pV_raw e11 (pV_raw hs_s ⟨nz_1, ?_⟩)))
    show (if (1 : Int32) = 0 then _ else _)
    rw [if_neg (by decide), hs_hs]
    obtain ⟨x, hx9⟩ : ∃ x : Int32, x = if sc 7 = 0 then 1 else 0 := ⟨_, rfl⟩
    have el : ((([jR (some (2, 0, 0)), jR (some (if sc 7 = 0 then (12, 0, 0) else (15, 0, 0))), jR (some (if sc 7 = 0 then (15, 0, 0) else (12, 0, 0)))] : List MV).set 1 (jR (some (if sc 7 = 0 then (15, 0, 0) else (12, 0, 0))))).set 2 (jR (some (if sc 7 = 0 then (12, 0, 0) else (15, 0, 0))))) = [jR (some (2, 0, 0)), jR (some (if x = 0 then (12, 0, 0) else (15, 0, 0))), jR (some (if x = 0 then (15, 0, 0) else (12, 0, 0)))] := by
      by_cases z : sc 7 = 0
      · rw [if_pos z] at hx9
        rw [if_pos z, if_pos z, hx9, if_neg (by decide), if_neg (by decide)]; rfl
      · rw [if_neg z] at hx9
        rw [if_neg z, if_neg z, hx9, if_pos rfl, if_pos rfl]; rfl
    rw [el, hC_sel]
    have e9 : (if x = 0 then ((12, 0, 0) : Nm) else (15, 0, 0)) = tN b := by
      by_cases z : sc 7 = 0
      · have : b = true := by rw [hb]; simpa using z
        subst this
        rw [if_pos z] at hx9
        rw [hx9]; rfl
      · have : b = false := by rw [hb]; simpa using z
        subst this
        rw [if_neg z] at hx9
        rw [hx9]; rfl
    refine c_g1_4.mpr (c_g11_1.mpr ?_)
    rw [up_s, e9]
    refine x_g2.mpr ?_
    have eC : up sc' 7 x (cIx b) = nI o.length := by
      rw [up_n (by cases b <;> decide)]
      exact hS.2.2.2.2.2.1
    rw [eC]
    exact hW _ ⟨m_rc, g_showAll I hi dv2 n12 hT (fun o' e m' J l44 h44 hl => by
      cases e
      exact hK _ _ _ _ _ _ _ _ _ (Inv.swap J hb hS hx9 h44 hl)) (fun e => by cases e)⟩
end Show2
