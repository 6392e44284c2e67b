section Con3
variable {rs : List RowT} {ks : List KindT} {vs : List ValT} {tl : Nat → Nat → Nat → List Int32} {sc : Nat → Int32} {wI : Nat → List Int32} {wL : Nat → List Int64} {m : MS} {d d2 u : Nat} {v1 v2 v3 v5 v6 : Int32} {v4 : Int64} {W : Prop → Prop}
variable {cp mp h : MH}
theorem WInv.con {j e i : Nat} {k : KindT} {t : List ET} {x : ET} (I : WInv rs ks vs tl sc wI wL m j i) (hk : ks[j]? = some k) (hc : k.1 = true) (hs : k.2.2.1 = true) (ht : k.2.2.2.2[e]? = some t) (he : e + 1 = k.2.2.2.2.length) (hx : t[i]? = some x) (hn : vs.length < 200) : WInv rs (ks.set j (kCon k e i t x vs.length)) (vs ++ [(j, e, k.2.2.2.1, x.1, 1, 1, [])]) tl sc wI wL (mCon m vs.length j e i k.2.2.2.1 x.1) j (i + 1) := by
  obtain ⟨⟨a1, a2, a3, a4, a5, a6⟩, b1, b2, b3, b4⟩ := I
  have hlen : (vs ++ [(j, e, k.2.2.2.1, x.1, 1, 1, [])] : List ValT).length = vs.length + 1 := by simp
  have hkw := a2.2 j k hk
  rw [if_pos rfl] at hkw
  have hall : ∀ (q : Nat) (k' : KindT), ks[q]? = some k' → k'.2.2.2.2.length ≤ 4 ∧ ∀ t' ∈ k'.2.2.2.2, t'.length ≤ 8 := by
    intro q k' hq
    have := a2.2 q k' hq
    have g : k'.2.2.2.2.length ≤ 4 ∧ ∀ t ∈ k'.2.2.2.2, EdOK k'.1 t := by
      by_cases z : q = j
      · rw [if_pos z] at this; exact ⟨this.2.1, this.2.2.2.1⟩
      · rw [if_neg z] at this; exact ⟨this.2.1, this.2.2.2.1⟩
    refine ⟨g.1, fun t' ht' => ?_⟩
    have := (g.2 t' ht').1
    split at this <;> omega
  refine ⟨⟨by rw [hlen]; exact a1.mono (by omega), ⟨by rw [List.length_set]; exact a2.1, fun q k' hq => ?_⟩, a3.con hk ht, a4.con hk hc hs ht hx hn, ?_, by rw [hlen]; exact a6.mono (by omega)⟩, by simpa [mCon, mRows, mI, mA, up] using b1, b2.con a2.1 hall hk ht he hx _, ?_, by simpa [mCon, mMisc, mI, mA, up] using b4⟩
  · rw [hlen]
    rcases set_get hq with ⟨rfl, rfl⟩ | ⟨z1, z2⟩
    · rw [if_pos rfl]; exact hkw.con hc hs ht he hx
    · rw [if_neg z1]
      have := a2.2 q k' z2
      rw [if_neg z1] at this
      exact this.mono (by omega)
  · obtain ⟨w0, w1, w2, q0, q1, w3, w4, w5, w6, s1, s2, s3⟩ := a5
    exact ⟨w0, w1, w2, q0, q1, w3, w4, w5, w6, s1, by rw [filt_set (k' := kCon k e i t x vs.length) hk rfl]; exact s2, s3⟩
  · obtain ⟨c0, c1, c2, c3, c4, c5, c6, c7, c8, c9, c10⟩ := b3
    simp only [mCon, mVals, mA_1, mB_1, mI_1, mI_21, mI_22, mA_21, mA_22, mB_21, mB_22, Nat.reduceEqDiff, Nat.reduceEqDiff, reduceCtorEq, if_false, if_true, List.length_set]
    refine ⟨by rw [hlen, nI_1], c1, c2, c3, c4, c5, c6, c7, c8, fun q v hv => ?_, fun q h1 h2 => ?_⟩
    · simp only [lset_getD]
      rcases app_case hv with z | ⟨rfl, rfl⟩
      · have hl := (List.getElem?_eq_some_iff.mp z).1
        simp only [show ¬ (vs.length = q ∧ q < (m.2.1 25).length) by omega, show ¬ (vs.length = q ∧ q < (m.2.1 26).length) by omega, show ¬ (vs.length = q ∧ q < (m.2.1 27).length) by omega, show ¬ (vs.length = q ∧ q < (m.2.1 28).length) by omega, show ¬ (vs.length = q ∧ q < (m.2.1 29).length) by omega, show ¬ (vs.length = q ∧ q < (m.2.1 30).length) by omega, if_false]
        exact c9 q v z
      · simp only [show vs.length < (m.2.1 25).length by omega, show vs.length < (m.2.1 26).length by omega, show vs.length < (m.2.1 27).length by omega, show vs.length < (m.2.1 28).length by omega, show vs.length < (m.2.1 29).length by omega, show vs.length < (m.2.1 30).length by omega, and_self, if_true, true_and]
        exact ⟨rfl, rfl, fun i x hx => by cases hx⟩
    · simp only [lset_getD]
      rw [hlen] at h1
      rw [if_neg (by omega)]
      exact c10 q (by omega) h2
theorem hset_same {n : Nm} {c : MC} (e : h n = some c) : hset h n c = h := by
  funext k
  unfold hset
  by_cases q : k = n
  · subst q; rw [if_pos rfl, e]
  · rw [if_neg q]
theorem hs_mid {a b : Nm} {x y z : MC} (e : b ≠ a) : hset (hset (hset h a x) b y) a z = hset (hset h b y) a z := by rw [hs_sw e, hs_hs]
theorem aR_raw {n : Nm} {cn : String} {es : List MV} {i : Nat} {x : Option Nm} {K : Option Nm → Prop} (e : h n = some (.inr (.object cn, es))) (hl : i < 2 ^ 31) (e2 : es[i]? = some (jR x)) (H : K x) : aR cn h (some n) (nI i) K := by
  unfold aR; simp only [e, nI_clamp hl, e2]; exact ⟨trivial, nI_pos hl, H⟩
theorem aI_raw {n : Nm} {ty : FieldType} {es : List MV} {i : Nat} {x : Int32} {K : Int32 → Prop} (e : h n = some (.inr (ty, es))) (hl : i < 2 ^ 31) (e2 : es[i]? = some (jI x)) (H : K x) : aI ty h (some n) (nI i) K := by
  unfold aI; simp only [e, nI_clamp hl, e2]; exact ⟨trivial, nI_pos hl, H⟩
theorem aL_raw {n : Nm} {es : List MV} {i : Nat} {x : Int64} {K : Int64 → Prop} (e : h n = some (.inr (.long, es))) (hl : i < 2 ^ 31) (e2 : es[i]? = some (jL x)) (H : K x) : aL h (some n) (nI i) K := by
  unfold aL; simp only [e, nI_clamp hl, e2]; exact ⟨trivial, nI_pos hl, H⟩
theorem refE_at {j e n : Nat} (h : e < n) (h4 : e < 4) : (refE j n)[e]? = some (jR (some (25, j, e))) := by
  unfold refE
  rw [List.getElem?_map, List.getElem?_range h4]
  simp [h]
theorem s_newest {j : Nat} {k : KindT} (h3 : h (23, j, 0) = some (oKind j k)) (h4 : h (24, j, 0) = some (oEds j k)) (k1 : 1 ≤ k.2.2.2.2.length) (k4 : k.2.2.2.2.length ≤ 4) {Q : Option Nm → MH → Prop} (H : Q (some (25, j, k.2.2.2.2.length - 1)) h) : F_X3_newest d (some (23, j, 0)) h u Q := by
  unfold F_X3_newest
  refine gR_raw h3 rfl (gI_raw h3 rfl ?_)
  have e : nI k.2.2.2.2.length - 1 = nI (k.2.2.2.2.length - 1) := pk_sub (a := k.2.2.2.2.length) (b := 1) k1
  rw [e]
  exact aR_raw h4 (by omega) (refE_at (by omega) (by omega)) H
theorem s_valInit {n j s dp : Nat} {k : KindT} {l : Int32} {ps : List Int64} (h9 : h (29, n, 0) = some (.inl (9, [jI 0, jR none, jR none, jI 0, jI 0, jR none, jI 0, jI 0]))) (h3 : h (23, j, 0) = some (oKind j k)) (h4 : h (24, j, 0) = some (oEds j k)) (k1 : 1 ≤ k.2.2.2.2.length) (k4 : k.2.2.2.2.length ≤ 4) {Q : MH → Prop} (H : Q (hset h (29, n, 0) (oVal n (j, k.2.2.2.2.length - 1, k.2.2.2.1, l, s, dp, ps)))) : F_X10_init d (some (29, n, 0)) (nI n) (some (23, j, 0)) l (some (30, n, 0)) (nI s) (nI dp) h u Q := by
  unfold F_X10_init
  refine nn_in (pV_raw h9 (pV_raw hs_s ?_))
  refine ⟨rc_raw (by rw [hs_n (ne_fst rfl), hs_n (ne_fst rfl)]; exact h3), s_newest (k := k) (by rw [hs_n (ne_fst rfl), hs_n (ne_fst rfl)]; exact h3) (by rw [hs_n (ne_fst rfl), hs_n (ne_fst rfl)]; exact h4) k1 k4 ?_⟩
  refine pV_raw hs_s (gI_raw (by rw [hs_n (ne_fst rfl), hs_n (ne_fst rfl), hs_n (ne_fst rfl)]; exact h3) rfl ?_)
  refine pV_raw hs_s (pV_raw hs_s (pV_raw hs_s (pV_raw hs_s (pV_raw hs_s ?_))))
  simp only [hs_hs]
  exact H
end Con3
