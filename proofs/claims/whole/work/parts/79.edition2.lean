section OpEd2
variable {rs : List RowT} {ks : List KindT} {vs : List ValT} {tl : Nat → Nat → Nat → List Int32} {sc : Nat → Int32} {wI : Nat → List Int32} {wL : Nat → List Int64} {m : MS} {d d2 u : Nat} {v1 v2 v3 v5 v6 : Int32} {v4 : Int64} {W : Prop → Prop}
variable {cp mp h : MH}
theorem kAdd_kEd {j e : Nat} {k : KindT} {t t' : List ET} (he : e + 1 = k.2.2.2.2.length) : (ks.set j (kAdd k t)).set j (kEd (kAdd k t) (e + 1) t') = ks.set j (kAdd k t') := by
  rw [List.set_set]
  congr 1
  unfold kEd kAdd
  rw [he]
  simp only [app_set]
theorem op_edition (I : Inv rs ks vs tl sc wI wL m) (hW : ∀ X, X → W X) {K : Int32 → Int32 → MH → Prop} (hK : KI K) (hu : 200 ≤ u) : F_X11_edition d br v1 v2 v3 v5 (hX rs ks vs tl sc wI wL m) u (fun a h => W (rc h mo 11 ∧ F_X12_edition d2 mo v1 v2 v3 v5 h 0 (fun b h => K a b h))) := by
  have hR := I.1.1.1; have hV := I.1.2.2.2.1.1; have hKd := I.1.2.1.1; have hRm := I.2.1; have hKm := I.2.2.1; have hVm := I.2.2.2.1; have hMm := I.2.2.2.2
  unfold F_X11_edition
  simp only [c_rc1, true_and, f_findKind hKd]
  rcases hx : ix v1 ks.length with _ | j
  · simp only [Option.map_none, nl_none]
    refine hW _ ⟨m_rc, ?_⟩
    unfold F_X12_edition
    simp only [m_rcT, g_isKind hKd hKm.1, hx, if_b2i, Option.isSome_some, Option.isSome_none, Bool.true_eq_false, Bool.false_eq_true, if_false, if_true, true_and]
    exact hK _ _ _ _ _ _ _ _ _ I
  obtain ⟨h1, rfl, -, -⟩ := ix_some hx
  obtain ⟨k, hk⟩ := get_lt h1
  obtain ⟨k1, k2, k3, k4, k5, k6, k7⟩ := I.1.2.1.2 k (List.mem_of_getElem? hk)
  obtain ⟨e, he⟩ : ∃ e, e + 1 = k.2.2.2.2.length := ⟨k.2.2.2.2.length - 1, by omega⟩
  obtain ⟨t, ht⟩ := get_lt (show e < k.2.2.2.2.length by omega)
  obtain ⟨ed1, ed2, ed3⟩ := k4 t (List.mem_of_getElem? ht)
  have h8 : t.length ≤ 8 := by split at ed1 <;> omega
  have hT := I.1.2.2.1 j k hk e t ht
  have t0 := hT 0 (by omega)
  have hcap : (if k.1 then 8 else 6) ≤ 8 := by split <;> omega
  obtain ⟨p1, p2⟩ := pI_m1 (o := plc t v3) (fun i hi => by have := plc_lt hi; omega)
  have hfull : (tl j e 0).isEmpty = decide (t.length = (if k.1 then 8 else 6)) := by
    rw [← t0]
    cases tl j e 0 <;> simp
  simp only [Option.map_some, nl_some, f_isChange hk, if_b2i]
  cases hf : edFit v2 v3 v5 k.1
  · simp only [if_true]
    refine hW _ ⟨m_rc, g_edition I hk ht he ?_⟩
    rw [if_pos hf]
    exact hK _ _ _ _ _ _ _ _ _ I
  simp only [Bool.true_eq_false, if_false]
  have hw0 : wi v2 0 3 = true := by
    unfold edFit at hf
    cases hq : wi v2 0 3
    · rw [hq] at hf; simp at hf
    · rfl
  have hw := wi03 hw0
  have hwl : v2 = 0 ∨ v2 = 2 → k.1 = false → wi v5 0 9 = true := by
    intro a b
    unfold edFit at hf
    rw [b, hw0, Bool.and_eq_true] at hf
    rcases a with rfl | rfl
    · simpa using hf.2
    · simpa using hf.2
  -- refusals
  have no : (k.2.2.1 = false ∨ (v2 = 2 ∧ k.1 = true)) ∨ (v2 ≠ 3 ∧ ((plc t v3 = none) ↔ ¬ v2 = 0)) → W (rc (hX rs ks vs tl sc wI wL m) mo 11 ∧ F_X12_edition d2 mo (nI j) v2 v3 v5 (hX rs ks vs tl sc wI wL m) 0 (fun b h => K (-3) b h)) := by
    intro q
    refine hW _ ⟨m_rc, g_edition I hk ht he ?_⟩
    rw [if_neg (by rw [hf]; decide)]
    by_cases q1 : k.2.2.1 = false ∨ (v2 = 2 ∧ k.1 = true)
    · rw [if_pos q1]; exact hK _ _ _ _ _ _ _ _ _ I
    · rw [if_neg q1]
      rcases q with q | q
      · exact absurd q q1
      · rw [if_pos q]; exact hK _ _ _ _ _ _ _ _ _ I
  -- the change
  have go : k.2.2.1 = true → ¬ (v2 = 2 ∧ k.1 = true) → ¬ (v2 ≠ 3 ∧ ((plc t v3 = none) ↔ ¬ v2 = 0)) → F_X11_edition_95 d br v2 v3 v5 (some (23, j, 0)) (hX rs ks vs tl sc wI wL m) u (fun a h => W (rc h mo 11 ∧ F_X12_edition d2 mo (nI j) v2 v3 v5 h 0 (fun b h => K a b h))) := by
    intro hs h2c hpl
    unfold F_X11_edition_95
    refine ⟨rfl, (f_roomC hk ht he k2 (by omega) hV).mpr ?_⟩
    rw [hfull]
    cases hr : edRoom v2 k.2.2.2.2.length (decide (t.length = (if k.1 then 8 else 6))) k.1 vs.length
    · rw [if_pos (show b2i false = 0 from rfl)]
      refine hW _ ⟨m_rc, g_edition I hk ht he ?_⟩
      rw [if_neg (by rw [hf]; decide), if_neg (by rw [hs]; simpa using h2c), if_neg hpl, if_pos hr]
      exact hK _ _ _ _ _ _ _ _ _ I
    · rw [if_neg (show ¬ b2i true = 0 by decide)]
      have hlt : k.2.2.2.2.length < 4 := by
        unfold edRoom at hr
        simp at hr
        exact hr.1
      have hr0 : v2 = 0 → t.length < (if k.1 then 8 else 6) ∧ (k.1 = true → vs.length < 200) := by
        intro z
        unfold edRoom at hr
        rw [Bool.and_eq_true] at hr
        have h9 := hr.2
        simp only [z, decide_true, Bool.not_true, Bool.false_or, Bool.and_eq_true, Bool.not_eq_true', decide_eq_false_iff_not, Bool.or_eq_true, decide_eq_true_eq] at h9
        refine ⟨Nat.lt_of_le_of_ne ed1 h9.1, fun q => ?_⟩
        rcases h9.2 with y | y
        · rw [q] at y; cases y
        · exact y
      have hp0 : v2 = 0 → plc t v3 = none := by
        intro z
        by_cases y : plc t v3 = none
        · exact y
        · exact absurd ⟨by rw [z]; decide, by simp [y, z]⟩ hpl
      have hp1 : v2 = 1 ∨ v2 = 2 → plc t v3 ≠ none := by
        intro z y
        refine hpl ⟨?_, ?_⟩
        · rcases z with rfl | rfl <;> decide
        · rcases z with rfl | rfl <;> simp [y]
      refine ⟨rc_raw (o_23 hk), s_addEdition hk ht he hlt (fun i hi => ?_) (by omega) ?_⟩
      · have := hT i hi
        omega
      have hk1 : (ks.set j (kAdd k t))[j]? = some (kAdd k t) := List.getElem?_set_self h1
      have ht1 : (kAdd k t).2.2.2.2[e + 1]? = some t := by show (k.2.2.2.2 ++ [t])[e + 1]? = _; rw [he]; simp
      refine s_change (c := if k.1 then 8 else 6) hk1 ht1 hcap (fun i hi => ?_) hw (fun z => (hr0 z).1) hp1 (fun t' tl' hn htl hti => ?_)
      · unfold tlC
        rw [if_pos ⟨rfl, rfl⟩]
        exact hT i hi
      rw [kAdd_kEd he]
      have htl' : ∀ j' e' p, ¬ (j' = j ∧ e' = e + 1) → tl' j' e' p = tl j' e' p := fun j' e' p z => by
        rw [htl j' e' p z]
        unfold tlC
        rw [if_neg z]
      have hk3 : (ks.set j (kAdd k t'))[j]? = some (kAdd k t') := List.getElem?_set_self h1
      have ht3 : (kAdd k t').2.2.2.2[e + 1]? = some t' := by show (k.2.2.2.2 ++ [t'])[e + 1]? = _; rw [he]; simp
      have hl3 : (kAdd k t').2.2.2.2.length = e + 2 := by show (k.2.2.2.2 ++ [t']).length = _; simp; omega
      have fin1 : ¬ (v2 = 0 ∧ k.1 = true) → W (rc (hJ (hC rs (ks.set j (kAdd k t')) vs tl' sc wI wL) (hM m)) mo 11 ∧ F_X12_edition d2 mo (nI j) v2 v3 v5 (hJ (hC rs (ks.set j (kAdd k t')) vs tl' sc wI wL) (hM m)) 0 (fun b h => K (nI (e + 1)) b h)) := by
        intro hnc
        refine hW _ ⟨m_rc, g_edition I hk ht he ?_⟩
        rw [if_neg (by rw [hf]; decide), if_neg (by rw [hs]; simpa using h2c), if_neg hpl, if_neg (by rw [hr]; decide)]
        refine g_ed195 I hk hs ht he hlt hn htl' hti (fun z => ⟨(hr0 z).1, hp0 z⟩) (fun z => (hr0 z).2) hwl (fun z => by cases hq : k.1; rfl; exact absurd ⟨z, hq⟩ h2c) (fun _ m' I' => ?_) (fun z1 z2 => absurd ⟨z1, z2⟩ hnc)
        exact hK _ _ _ _ _ _ _ _ _ I'
      by_cases z0 : v2 = 0
      · rw [if_pos z0]
        refine gI_raw (o_23 hk3) rfl ?_
        cases hc : k.1
        · rw [if_pos (show b2i (kAdd k t').1 = 0 by show b2i k.1 = 0; rw [hc]; rfl)]
          refine gI_raw (o_25 hk3 ht3) rfl ?_
          exact fin1 (fun z => by rw [hc] at z; exact absurd z.2 (by decide))
        · rw [if_neg (show ¬ b2i (kAdd k t').1 = 0 by show ¬ b2i k.1 = 0; rw [hc]; decide)]
          obtain ⟨a, rfl⟩ : ∃ a, t' = t ++ [(v3, v5, a)] := by
            rcases hn with ⟨-, a, z⟩ | ⟨z, -⟩ | ⟨z, -⟩ | ⟨z, -⟩
            · exact ⟨a, z⟩
            · rw [z0] at z; exact absurd z (by decide)
            · rw [z0] at z; exact absurd z (by decide)
            · rw [z0] at z; exact absurd z (by decide)
          have hx3 : (t ++ [(v3, v5, a)])[t.length]? = some (v3, v5, a) := by simp
          have l8 : (t ++ [(v3, v5, a)]).length ≤ 8 := by
            have := (hr0 z0).1
            rw [List.length_append]; simp only [List.length_cons, List.length_nil]; omega
          refine gI_raw (o_25 hk3 ht3) rfl ⟨rfl, ?_⟩
          rw [show nI (t ++ [(v3, v5, a)]).length - 1 = nI t.length by rw [show (t ++ [(v3, v5, a)]).length = t.length + 1 by simp, ← nI_1, nI_1, nI_pred]]
          refine s_addConstant hk3 ht3 (by rw [hl3]) (by omega) hx3 l8 ((hr0 z0).2 hc) (by omega) ?_
          rw [List.set_set]
          have hk4 : (ks.set j (kCon (kAdd k (t ++ [(v3, v5, a)])) (e + 1) t.length (t ++ [(v3, v5, a)]) (v3, v5, a) vs.length))[j]? = some _ := List.getElem?_set_self h1
          have ht4 : (kCon (kAdd k (t ++ [(v3, v5, a)])) (e + 1) t.length (t ++ [(v3, v5, a)]) (v3, v5, a) vs.length).2.2.2.2[e + 1]? = some _ := List.getElem?_set_self (by rw [hl3]; omega)
          refine gI_raw (o_25 hk4 ht4) rfl ?_
          refine hW _ ⟨m_rc, g_edition I hk ht he ?_⟩
          rw [if_neg (by rw [hf]; decide), if_neg (by rw [hs]; simpa using h2c), if_neg hpl, if_neg (by rw [hr]; decide)]
          refine g_ed195 I hk hs ht he hlt hn htl' hti (fun z => ⟨(hr0 z).1, hp0 z⟩) (fun z => (hr0 z).2) hwl (fun z => by cases hq : k.1; rfl; exact absurd ⟨z, hq⟩ h2c) (fun z => absurd ⟨z0, hc⟩ z) (fun _ _ x hxx m' I' => ?_)
          rw [hx3] at hxx
          cases hxx
          exact hK _ _ _ _ _ _ _ _ _ I'
      · rw [if_neg z0]
        refine gI_raw (o_25 hk3 ht3) rfl ?_
        exact fin1 (fun z => z0 z.1)
  refine gI_raw (o_23 hk) rfl ?_
  cases hs : k.2.2.1
  · rw [if_pos (show b2i false = 0 from rfl)]
    exact no (Or.inl (Or.inl hs))
  · rw [if_neg (show ¬ b2i true = 0 by decide)]
    have s53 : ¬ (v2 = 2 ∧ k.1 = true) → F_X11_edition_53 d br v2 v3 v5 (some (23, j, 0)) (hX rs ks vs tl sc wI wL m) u (fun a h => W (rc h mo 11 ∧ F_X12_edition d2 mo (nI j) v2 v3 v5 h 0 (fun b h => K a b h))) := by
      intro h2c
      unfold F_X11_edition_53
      refine ⟨rc_raw (o_23 hk), s_newest (o_23 hk) (o_24 hk) k1 k2 ?_⟩
      rw [show k.2.2.2.2.length - 1 = e by omega]
      refine ⟨rc_raw (o_25 hk ht), f_find hk ht h8 ?_⟩
      simp only [p1]
      unfold F_X11_edition_71 F_X11_edition_89
      by_cases y3 : v2 = 3
      · simp only [y3, if_true, ite_self] at go ⊢
        exact go hs (by simpa [y3] using h2c) (fun z => z.1 rfl)
      · simp only [y3, if_false]
        by_cases hp : plc t v3 = none
        · rw [if_pos hp]
          by_cases y0 : v2 = 0
          · rw [if_pos y0, if_neg (by decide)]
            exact go hs h2c (by simp [hp, y0])
          · rw [if_neg y0, if_pos trivial]
            exact no (Or.inr ⟨y3, by simp [hp, y0]⟩)
        · rw [if_neg hp]
          by_cases y0 : v2 = 0
          · rw [if_pos y0, if_pos trivial]
            exact no (Or.inr ⟨y3, by simp [hp, y0]⟩)
          · rw [if_neg y0, if_neg (by decide)]
            exact go hs h2c (by simp [hp, y0])
    by_cases y2 : v2 = 2
    · rw [if_pos y2]
      refine gI_raw (o_23 hk) rfl ?_
      cases hc : k.1
      · rw [if_pos (show b2i false = 0 from rfl)]
        exact s53 (fun z => by rw [hc] at z; exact absurd z.2 (by decide))
      · rw [if_neg (show ¬ b2i true = 0 by decide)]
        exact no (Or.inl (Or.inr ⟨y2, hc⟩))
    · rw [if_neg y2]
      exact s53 (fun z => y2 z.1)
end OpEd2
