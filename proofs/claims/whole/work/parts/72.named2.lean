section Named2
variable {rs : List RowT} {ks : List KindT} {vs : List ValT} {tl : Nat → Nat → Nat → List Int32} {sc : Nat → Int32} {wI : Nat → List Int32} {wL : Nat → List Int64} {m : MS} {d d2 u : Nat} {v1 v2 v3 v5 v6 : Int32} {v4 : Int64} {W : Prop → Prop}
variable {cp mp h : MH}
theorem f_roomV {n : Nat} (hn : n ≤ 200) (hv : vs.length ≤ 200) {Q : Int32 → MH → Prop} : F_X7_hasRoomForValues d sto (nI n) (hJ (hC rs ks vs tl sc wI wL) mp) u Q ↔ Q (b2i (decide (vs.length + n ≤ 200))) (hJ (hC rs ks vs tl sc wI wL) mp) := by
  unfold F_X7_hasRoomForValues
  simp only [c_g2_3, nz_0, nz_1, true_and]
  have e : (200 : Int32) - nI vs.length = nI (200 - vs.length) := pk_sub (a := 200) (b := vs.length) hv
  rw [e]
  by_cases q : vs.length + n ≤ 200
  · rw [if_neg (nI_nlt (by omega) (by omega))]; simp [q, b2i]
  · rw [if_pos (nI_lt (by omega) (by omega))]; simp [q, b2i]
theorem op_named (I : Inv rs ks vs tl sc wI wL m) (hW : ∀ X, X → W X) {K : Int32 → Int32 → MH → Prop} (hK : KI K) (hu : 200 ≤ u) : F_X11_named (d + 2) br v1 v2 (hX rs ks vs tl sc wI wL m) u (fun a h => W (rc h mo 11 ∧ F_X12_named d2 mo v1 v2 h 0 (fun b h => K a b h))) := by
  have hR := I.1.1.1; have hV := I.1.2.2.2.1.1; have hKd := I.1.2.1.1; have hRm := I.2.1; have hKm := I.2.2.1; have hVm := I.2.2.2.1; have hMm := I.2.2.2.2
  unfold F_X11_named
  simp only [c_rc1, true_and, f_findKind hKd]
  rcases hx : ix v1 ks.length with _ | j
  · simp only [Option.map_none, nl_none]
    refine hW _ ⟨m_rc, ?_⟩
    unfold F_X12_named
    simp only [m_rcT, g_isKind hKd hKm.1, hx, if_b2i, Option.isSome_some, Option.isSome_none, Bool.true_eq_false, Bool.false_eq_true, if_false, if_true, true_and]
    exact hK _ _ _ _ _ _ _ _ _ I
  · obtain ⟨h1, rfl, -, -⟩ := ix_some hx
    obtain ⟨k, hk⟩ := get_lt h1
    obtain ⟨k1, k2, k3, k4, k5, k6, k7⟩ := I.1.2.1.2 k (List.mem_of_getElem? hk)
    obtain ⟨hj16, ⟨a1, a2⟩, -, ⟨a3, a4⟩, -⟩ := hKm.at hKd hk
    obtain ⟨t, ht⟩ := get_lt (show k.2.2.2.2.length - 1 < k.2.2.2.2.length by omega)
    obtain ⟨ed1, ed2, ed3⟩ := k4 t (List.mem_of_getElem? ht)
    have h8 : t.length ≤ 8 := by split at ed1 <;> omega
    obtain ⟨p1, p2⟩ := pI_m1 (o := plc t v2) (fun i hi => by have := plc_lt hi; omega)
    simp only [Option.map_some, nl_some, c_rc23, hk, wr_some, true_and, f_newest hk k1 k2, c_rc25, ht]
    refine f_find hk ht h8 ?_
    simp only [c_g23_1, hk, wr_some, if_b2i, p1]
    have tail : ∀ a cp', (if k.1 = false then K a (-3) (hJ cp' (hM m)) else if plc t v2 = none then K a (-3) (hJ cp' (hM m)) else F_X12_starts d2 mo (nI j) (hJ cp' (hM m)) 0 (fun x6 h => if x6 = 0 then K a (-4) h else gR h mo 11 18 fun x7 => rc h mo 11 ∧ F_X12_newestOf (d2 + 2) mo (nI j) h 0 fun x8 h => aI .int h x7 ((8 * x8) + pI (plc t v2)) fun x9 => K a x9 h)) → F_X12_named d2 mo (nI j) v2 (hJ cp' (hM m)) 0 (fun b h => K a b h) := by
      intro a cp' ha
      unfold F_X12_named
      simp only [m_rcT, g_isKind hKd hKm.1, hx, if_b2i, Option.isSome_some, Option.isSome_none, Bool.true_eq_false, Bool.false_eq_true, if_false, if_true, true_and, g_newestOf hKm hKd hk]
      refine g_placeOf hKm hKd hk k2 ht h8 ed2 ?_
      simp only [m_g10, m_a10, a1, a2, true_and, if_b2i]
      cases hc : k.1
      · rw [hc, if_pos rfl] at ha
        rw [if_pos rfl]
        exact ha
      · rw [hc] at ha
        simp only [Bool.true_eq_false, if_false] at ha ⊢
        by_cases hp : plc t v2 = none
        · rw [if_pos hp] at ha
          rw [if_neg (by rw [hp]; decide)]
          exact ha
        · rw [if_neg hp] at ha
          rw [if_pos]
          · exact ⟨m_rc, ha⟩
          · obtain ⟨i, hi⟩ := Option.ne_none_iff_exists'.mp hp
            rw [hi]
            exact nI_le (a := 0) (Nat.zero_le _) (by have := plc_lt hi; omega)
    cases hc : k.1
    · rw [if_pos rfl]
      refine hW _ ⟨m_rc, tail _ _ ?_⟩
      rw [hc, if_pos rfl]
      exact hK _ _ _ _ _ _ _ _ _ I
    · simp only [Bool.true_eq_false, if_false]
      rcases hp : plc t v2 with _ | i
      · rw [if_pos rfl]
        refine hW _ ⟨m_rc, tail _ _ ?_⟩
        rw [hc, if_neg (by decide), if_pos hp]
        exact hK _ _ _ _ _ _ _ _ _ I
      · rw [if_neg (by simp)]
        have hil := plc_lt hp
        -- the end of the call, from any state in which the kind stands started
        have fin : ∀ (ks' : List KindT) (vs' : List ValT) (sc' : Nat → Int32) (m' : MS) (k' : KindT) (t' : List ET), Inv rs ks' vs' tl sc' wI wL m' → ks'[j]? = some k' → k'.1 = true → k'.2.2.1 = true → k'.2.2.2.2.length = k.2.2.2.2.length → k'.2.2.2.2[k.2.2.2.2.length - 1]? = some t' → t'.length = t.length → ∃ c, (∀ (mp' : MH) (Q : Int32 → MH → Prop), Q c (hJ (hC rs ks' vs' tl sc' wI wL) mp') → gR (hJ (hC rs ks' vs' tl sc' wI wL) mp') (some (25, j, k.2.2.2.2.length - 1)) 2 3 fun x2 => aI .int (hJ (hC rs ks' vs' tl sc' wI wL) mp') x2 (nI i) fun x3 => Q x3 (hJ (hC rs ks' vs' tl sc' wI wL) mp')) ∧ ∀ (cp' : MH) (Q : Int32 → MH → Prop), Q c (hJ cp' (hM m')) → gR (hJ cp' (hM m')) mo 11 18 fun x7 => rc (hJ cp' (hM m')) mo 11 ∧ F_X12_newestOf (d2 + 2) mo (nI j) (hJ cp' (hM m')) 0 fun x8 h => aI .int h x7 ((8 * x8) + nI i) fun x9 => Q x9 h := by
          intro ks' vs' sc' m' k' t' I' hk' hc' hs' hl' ht' hlen'
          obtain ⟨x, hx'⟩ := get_lt (show i < t'.length by omega)
          obtain ⟨c0, c1, c2, c3, c4, c5, c6, c7, c8, c9, c10, c11⟩ := I'.2.2.1
          obtain ⟨d1, d2', d3, d4, d5, d6⟩ := c10 j k' hk'
          obtain ⟨g1, g2, g3⟩ := (d6 _ t' ht').2 i x hx'
          refine ⟨x.2.2, fun mp' Q hq => ?_, fun cp' Q hq => ?_⟩
          · refine gR_raw (o_25 hk' ht') rfl (aI_raw (x := x.2.2) (o_28 hk' ht') (by omega) (mapJ_at hx') hq)
          · simp only [m_g18, m_rcT, true_and, g_newestOf I'.2.2.1 I'.1.2.1.1 hk', m_a18, idx8]
            rw [inb_nI (by omega), rdI_nI (by omega), hl', g3 hc' hs', c9]
            exact ⟨by omega, hq⟩
        cases hs : k.2.2.1
        · obtain ⟨k31, k32⟩ := k3 hs
          have hkt : k.2.2.2.2 = [t] := by
            match hq : k.2.2.2.2, k31 with
            | [t2], _ => rw [hq] at ht; simp at ht; rw [ht]
          have e0 : k.2.2.2.2.length - 1 = 0 := by omega
          simp only [c_g23_5, hk, wr_some, hs, if_b2i, if_true, c_g1_0, c_g25_4, ht, c_rc2, true_and, f_roomV (show t.length ≤ 200 by omega) hV]
          by_cases hr : vs.length + t.length ≤ 200
          · have eD : decide (vs.length + t.length ≤ 200) = true := by simp [hr]
            rw [eD, if_neg (by decide)]
            unfold F_X11_named_67
            simp only [c_rc1, true_and]
            have hj := (List.getElem?_eq_some_iff.mp hk).1
            have hk2 : (ks.set j (stK k))[j]? = some (stK k) := List.getElem?_set_self hj
            obtain ⟨k', t', e1, e2, e3, e4, e5⟩ := conN_at t.length 0 (ks.set j (stK k)) vs (stK k) t hk2 hkt (by omega)
            refine s_start I hk (by omega) (fun z => by rw [hs] at z; cases z) (fun _ z => by rw [hc] at z; cases z) (fun _ _ t2 ht2 => ?_)
            have : t2 = t := by rw [hkt] at ht2; simpa using ht2.symm
            subst this
            refine ⟨hr, ?_⟩
            -- some m' goes with it
            have hex : ∃ m', Inv rs (conN j 0 t2.length (ks.set j (stK k), vs)).1 (conN j 0 t2.length (ks.set j (stK k), vs)).2 tl (stSc sc j) wI wL m' := by
              have key : ∀ (n i : Nat) (ks : List KindT) (vs : List ValT) (m : MS) (k : KindT) (t : List ET), WInv rs ks vs tl (stSc sc j) wI wL m j i → ks[j]? = some k → k.1 = true → k.2.2.1 = true → k.2.2.2.2 = [t] → i + n = t.length → vs.length + n ≤ 200 → ∃ m', WInv rs (conN j i n (ks, vs)).1 (conN j i n (ks, vs)).2 tl (stSc sc j) wI wL m' j t.length := by
                intro n
                induction n with
                | zero =>
                  intro i ks vs m k t I hk hc hs hkt hin hvn
                  have : i = t.length := by omega
                  exact ⟨m, by rw [← this]; exact I⟩
                | succ n ih =>
                  intro i ks vs m k t I hk hc hs hkt hin hvn
                  have hj := (List.getElem?_eq_some_iff.mp hk).1
                  have ht0 : k.2.2.2.2[0]? = some t := by rw [hkt]; rfl
                  obtain ⟨x, hx⟩ := get_lt (show i < t.length by omega)
                  have I2 := I.con (e := 0) hk hc hs ht0 (by rw [hkt]; rfl) hx (by omega)
                  rw [conN_s hk ht0 hx]
                  have := ih (i + 1) _ _ _ (kCon k 0 i t x vs.length) (t.set i (x.1, x.2.1, nI vs.length)) I2 (List.getElem?_set_self hj) hc hs (by simp [kCon, hkt]) (by rw [List.length_set]; omega) (by simp; omega)
                  rw [List.length_set] at this
                  exact this
              obtain ⟨m', hm'⟩ := key t2.length 0 _ vs _ (stK k) t2 (WInv.start I (i := 0) hk hs (fun _ => rfl)) hk2 hc rfl hkt (by omega) hr
              refine ⟨m', hm'.inv e1 (fun t3 ht3 => ?_)⟩
              rw [e2] at ht3
              simp at ht3
              rw [← ht3, e3]; exact Nat.le_refl _
            obtain ⟨m0, hm0⟩ := hex
            obtain ⟨c, fc, -⟩ := fin _ _ _ m0 k' t' hm0 e1 (e4.trans hc) (e5.trans rfl) (by rw [e2, hkt]; rfl) (by rw [e0, e2]; rfl) e3
            refine fc _ (fun a h => W (rc h mo 11 ∧ F_X12_named d2 mo (nI j) v2 h 0 (fun b h => K a b h))) (hW _ ⟨m_rc, tail _ _ ?_⟩)
            rw [hc, if_neg (by decide), if_neg (by rw [hp]; simp)]
            refine g_starts I hk (fun z => by rw [hs] at z; cases z) (fun _ z => by rw [hc] at z; cases z) (fun _ _ t3 ht3 => ?_)
            have : t3 = t2 := by rw [hkt] at ht3; simpa using ht3.symm
            subst this
            rw [if_pos hr]
            intro m' hm'
            rw [if_neg (by decide), hp]
            obtain ⟨c', fc', fm'⟩ := fin _ _ _ m' k' t' hm' e1 (e4.trans hc) (e5.trans rfl) (by rw [e2, hkt]; rfl) (by rw [e0, e2]; rfl) e3
            refine fm' _ (fun a h => K c a h) ?_
            have ec : c' = c := by
              have q1 := fc (fun _ => none) (fun a _ => a = c) rfl
              have q2 := fc' (fun _ => none) (fun a _ => a = c') rfl
              obtain ⟨x, hx'⟩ := get_lt (show i < t'.length by omega)
              have ht'0 : k'.2.2.2.2[k.2.2.2.2.length - 1]? = some t' := by rw [e0, e2]; rfl
              simp only [c_g25_3, e1, ht'0, wr_some, c_a28] at q1 q2
              rw [← q1.2, ← q2.2]
            rw [ec]
            exact hK _ _ _ _ _ _ _ _ _ hm'
          · have e2 : decide (vs.length + t.length ≤ 200) = false := by simp [hr]
            rw [e2, if_pos rfl]
            refine hW _ ⟨m_rc, tail _ _ ?_⟩
            rw [hc, if_neg (by decide), if_neg (by rw [hp]; simp)]
            refine g_starts I hk (fun z => by rw [hs] at z; cases z) (fun _ z => by rw [hc] at z; cases z) (fun _ _ t3 ht3 => ?_)
            have : t3 = t := by rw [hkt] at ht3; simpa using ht3.symm
            subst this
            rw [if_neg hr, if_pos rfl]
            exact hK _ _ _ _ _ _ _ _ _ I
        · simp only [c_g23_5, hk, wr_some, hs, if_b2i, Bool.true_eq_false, if_false]
          unfold F_X11_named_67
          simp only [c_rc1, true_and]
          refine s_start I hk (by omega) (fun _ => ?_) (fun z => by rw [hs] at z; cases z) (fun z => by rw [hs] at z; cases z)
          obtain ⟨c, fc, fm⟩ := fin ks vs sc m k t I hk hc hs rfl ht rfl
          refine fc _ (fun a h => W (rc h mo 11 ∧ F_X12_named d2 mo (nI j) v2 h 0 (fun b h => K a b h))) (hW _ ⟨m_rc, tail _ _ ?_⟩)
          rw [hc, if_neg (by decide), if_neg (by rw [hp]; simp)]
          refine g_starts I hk (fun _ => ?_) (fun z => by rw [hs] at z; cases z) (fun z => by rw [hs] at z; cases z)
          rw [if_neg (by decide), hp]
          refine fm _ (fun a h => K c a h) ?_
          exact hK _ _ _ _ _ _ _ _ _ I
end Named2
