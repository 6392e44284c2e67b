section Order2
variable {rs : List RowT} {ks : List KindT} {vs : List ValT} {tl : Nat → Nat → Nat → List Int32} {sc : Nat → Int32} {wI : Nat → List Int32} {wL : Nat → List Int64} {m : MS} {d d2 u : Nat} {v1 v2 v3 v5 v6 : Int32} {v4 : Int64} {W : Prop → Prop}
variable {cp mp h : MH}
theorem cVal_some {n i j : Nat} {v w : ValT} (hi : vs[i]? = some v) (hj : vs[j]? = some w) (hV : vs.length < 2 ^ 31) : cVal rs ks vs (n + 1) (lN i) (lN j) = cVV rs ks (cVal rs ks vs n) v w := by
  rw [cVal, ixL_lN (List.getElem?_eq_some_iff.mp hi).1 hV, ixL_lN (List.getElem?_eq_some_iff.mp hj).1 hV]
  simp only [hi, hj]
theorem cVal_none {n : Nat} {x y : Int64} (h : ixL x vs.length = none ∨ ixL y vs.length = none) : cVal rs ks vs n x y = ntg (ixL x vs.length) (ixL y vs.length) := by
  cases n with
  | zero =>
    rw [cVal]
    rcases ixL x vs.length with _ | i
    · rcases ixL y vs.length with _ | j <;> rfl
    · rcases ixL y vs.length with _ | j <;> rfl
  | succ n =>
    rw [cVal]
    rcases h1 : ixL x vs.length with _ | i
    · rcases ixL y vs.length with _ | j <;> rfl
    · rcases h2 : ixL y vs.length with _ | j
      · rfl
      · rw [h1, h2] at h
        rcases h with z | z <;> cases z
theorem tOK_ix {n : Nat} {x : Int64} (h : tOK vs n x) (hV : vs.length < 2 ^ 31) : (ixL x vs.length = none ∧ x = -1) ∨ ∃ i v, ixL x vs.length = some i ∧ x = lN i ∧ vs[i]? = some v ∧ v.2.2.2.2.2.1 ≤ n := by
  rcases h with rfl | ⟨i, v, rfl, hi, hd⟩
  · exact Or.inl ⟨ixL_m1, rfl⟩
  · exact Or.inr ⟨i, v, ixL_lN (List.getElem?_eq_some_iff.mp hi).1 hV, rfl, hi, hd⟩
theorem lsf_n {a b : Nat} (ha : a < 2 ^ 31) (hb : b < 2 ^ 31) : lsf (nI a).toInt64 (nI b).toInt64 = 0 ↔ a = b := by
  unfold lsf
  have e : ((nI a).toInt64 = (nI b).toInt64) ↔ a = b := by
    rw [← Int64.toInt_inj, Int32.toInt_toInt64, Int32.toInt_toInt64, nI_toInt ha, nI_toInt hb]
    omega
  by_cases z : a = b
  · rw [if_pos (e.mpr z)]; simp [z]
  · rw [if_neg (fun q => z (e.mp q))]
    split
    · simp [z]
    · simp [z]
theorem s_cmpValues (I : Inv rs ks vs tl sc wI wL m) : ∀ n x y, tOK vs n x → tOK vs n y → ∀ (d u : Nat) (K : Int32 → MH → Nat → Prop), 5 * n ≤ d → K (cVal rs ks vs n x y) (hJ (hC rs ks vs tl sc wI wL) mp) u → iI (d + 2) u_X0_compareValues [jR cmpr, jR (rfV vs x), jR (rfV vs y)] (hJ (hC rs ks vs tl sc wI wL) mp) u K := by
  have hV := I.1.2.2.2.1.1
  have hKd := I.1.2.1.1
  intro n x y hx hy d u K hd H
  have nothing : (ixL x vs.length = none ∨ ixL y vs.length = none) → iI (d + 2) u_X0_compareValues [jR cmpr, jR (rfV vs x), jR (rfV vs y)] (hJ (hC rs ks vs tl sc wI wL) mp) u K := by
    intro hn
    rw [cVal_none hn] at H
    refine I_X0_compareValues 0 (Nat.zero_le _) ?_
    unfold F_X0_compareValues F_X0_compareValues_8 F_X0_compareValues_17
    have := s_nothing (f := fun i => ((29, i, 0) : Nm)) (g := fun i => ((29, i, 0) : Nm)) (d := d) (h := (hJ (hC rs ks vs tl sc wI wL) mp)) (Q := fun x h => K x h u) hn H
    unfold rfV
    rcases h1 : ixL x vs.length with _ | i
    · rw [h1] at this
      exact this
    · rcases h2 : ixL y vs.length with _ | j
      · rw [h1, h2] at this
        exact this
      · rw [h1, h2] at hn
        rcases hn with z | z <;> cases z
  induction n generalizing x y d u K with
  | zero =>
    rcases tOK_ix hx (by omega) with ⟨z, -⟩ | ⟨i, v, -, -, hi, hdv⟩
    · exact nothing (Or.inl z)
    · obtain ⟨k, t, -, -, -, -, v1, -⟩ := I.1.2.2.2.1.2 i v hi
      omega
  | succ n ih =>
    rcases tOK_ix hx (by omega) with ⟨z, -⟩ | ⟨i, v, z1, rfl, hi, hdv⟩
    · exact nothing (Or.inl z)
    · rcases tOK_ix hy (by omega) with ⟨z, -⟩ | ⟨j, w, z2, rfl, hj, hdw⟩
      · exact nothing (Or.inr z)
      · have IH : ∀ x y, tOK vs n x → tOK vs n y → ∀ (d u : Nat) (K : Int32 → MH → Nat → Prop), 5 * n ≤ d → K (cVal rs ks vs n x y) (hJ (hC rs ks vs tl sc wI wL) mp) u → iI (d + 2) u_X0_compareValues [jR cmpr, jR (rfV vs x), jR (rfV vs y)] (hJ (hC rs ks vs tl sc wI wL) mp) u K := by
          intro x y hx hy d u K hd H
          refine ih x y hx hy d u K hd H (fun hn => ?_)
          rw [cVal_none hn] at H
          refine I_X0_compareValues 0 (Nat.zero_le _) ?_
          unfold F_X0_compareValues F_X0_compareValues_8 F_X0_compareValues_17
          have := s_nothing (f := fun i => ((29, i, 0) : Nm)) (g := fun i => ((29, i, 0) : Nm)) (d := d) (h := (hJ (hC rs ks vs tl sc wI wL) mp)) (Q := fun x h => K x h u) hn H
          unfold rfV
          rcases h1 : ixL x vs.length with _ | i
          · rw [h1] at this
            exact this
          · rcases h2 : ixL y vs.length with _ | j
            · rw [h1, h2] at this
              exact this
            · rw [h1, h2] at hn
              rcases hn with z | z <;> cases z
        rw [cVal_some hi hj (by omega)] at H
        have hil := (List.getElem?_eq_some_iff.mp hi).1
        have hjl := (List.getElem?_eq_some_iff.mp hj).1
        obtain ⟨k, t, hk, hR⟩ := I.rec hi
        obtain ⟨k', t', hk', hR'⟩ := I.rec hj
        have hkl := (List.getElem?_eq_some_iff.mp hk).1
        have hkl' := (List.getElem?_eq_some_iff.mp hk').1
        obtain ⟨_, tv, hka, htv, hkok, -⟩ := I.val hi
        obtain ⟨_, tw, hkb, htw, -, -⟩ := I.val hj
        unfold rfV
        rw [z1, z2, Option.map_some, Option.map_some]
        refine I_X0_compareValues 0 (Nat.zero_le _) ?_
        unfold F_X0_compareValues
        rw [nl_some, nl_some]
        refine gR_raw (o_29 hi) rfl (gI_raw (o_23 hk) rfl (gR_raw (o_29 hj) rfl (gI_raw (o_23 hk') rfl (f_lsf.mpr ?_))))
        unfold cVV at H
        by_cases e1 : lsf (nI v.1).toInt64 (nI w.1).toInt64 = 0
        · rw [if_pos e1] at H ⊢
          have ek := (lsf_n (by omega) (by omega)).mp e1
          rw [← ek] at hk' hkb
          cases hk.symm.trans hk'
          refine gR_raw (o_29 hi) rfl (gI_raw (n := (25, v.1, v.2.1)) (o_25 hka htv) rfl (gR_raw (o_29 hj) rfl ?_))
          rw [← ek]
          refine gI_raw (n := (25, v.1, w.2.1)) (o_25 hkb htw) rfl (f_lsf.mpr ?_)
          have hkok' := hkok.2.1
          have hvl := (List.getElem?_eq_some_iff.mp htv).1
          have hwl := (List.getElem?_eq_some_iff.mp htw).1
          cases hk.symm.trans hka
          cases hk.symm.trans hkb
          by_cases e2 : lsf (nI v.2.1).toInt64 (nI w.2.1).toInt64 = 0
          · rw [if_pos e2] at H ⊢
            have ee := (lsf_n (by omega) (by omega)).mp e2
            simp only [hk] at H
            refine gR_raw (o_29 hi) rfl (gI_raw (o_23 hk) rfl ?_)
            cases hc : k.1
            · rw [if_pos (show b2i false = 0 from rfl)]
              rw [hc] at H
              have R := hR hc
              have R' := hR' hc
              have htt : t' = t := by
                have a := R.2.2.1
                have b := R'.2.2.1
                rw [← ee] at b
                exact Option.some.inj (b.symm.trans a)
              subst htt
              obtain ⟨-, -, ht, -, h4, h6, ho, hlen, hp⟩ := R
              obtain ⟨-, -, -, -, -, -, -, hlen', hp'⟩ := R'
              simp only [ht, Bool.false_eq_true, if_false] at H
              refine ⟨rfl, I_X0_compareParts 0 (Nat.zero_le _) ?_⟩
              unfold F_X0_compareParts
              have key : ∀ p q : Nat, q + p = t'.length → firstF (cRec rs (cVal rs ks vs n) t' v w) t'.length 0 = firstF (cRec rs (cVal rs ks vs n) t' v w) p q → L_X0_compareParts_2 d cmpr (some (29, i, 0)) (some (29, j, 0)) (nI q) (hJ (hC rs ks vs tl sc wI wL) mp) 0 (fun x h2 => K x h2 u) := by
                intro p
                induction p with
                | zero =>
                  intro q hq hf
                  have : q = t'.length := by omega
                  subst this
                  rw [hf, firstF] at H
                  unfold L_X0_compareParts_2
                  refine E_X0_compareParts_2 ?_
                  unfold F_X0_compareParts_2
                  refine gR_raw (o_29 hi) rfl (aN_raw (o_30 hi) ?_)
                  rw [List.length_map, hlen, if_pos (nI_le (Nat.le_refl _) (by omega))]
                  exact H
                | succ p ih2 =>
                  intro q hq hf
                  rw [firstF_s] at hf
                  obtain ⟨y1, hy1⟩ := get_lt (show q < v.2.2.2.2.2.2.length by omega)
                  obtain ⟨y2, hy2⟩ := get_lt (show q < w.2.2.2.2.2.2.length by omega)
                  have ey1 : ((v.2.2.2.2.2.2).map jL)[q]? = some (jL (v.2.2.2.2.2.2.getD q 0)) := by rw [List.getElem?_map, hy1]; simp [List.getD_eq_getElem?_getD, hy1]
                  have ey2 : ((w.2.2.2.2.2.2).map jL)[q]? = some (jL (w.2.2.2.2.2.2.getD q 0)) := by rw [List.getElem?_map, hy2]; simp [List.getD_eq_getElem?_getD, hy2]
                  unfold L_X0_compareParts_2
                  refine E_X0_compareParts_2 ?_
                  unfold F_X0_compareParts_2
                  refine gR_raw (o_29 hi) rfl (aN_raw (o_30 hi) ?_)
                  rw [List.length_map, hlen, if_neg (nI_ge (by omega) (by omega))]
                  refine gR_raw (o_29 hj) rfl (aN_raw (o_30 hj) ?_)
                  rw [List.length_map, hlen', if_neg (nI_ge (by omega) (by omega))]
                  refine gR_raw (o_29 hi) rfl (c_L hk ht (by omega) (by omega) (gR_raw (o_29 hi) rfl (aL_raw (o_30 hi) (by omega) ey1 (gR_raw (o_29 hj) rfl (aL_raw (o_30 hj) (by omega) ey2 ⟨rfl, ?_⟩)))))
                  obtain ⟨r, rfl⟩ : ∃ r, d = r + 1 := ⟨d - 1, by omega⟩
                  refine s_cmpAny I IH (part_aOK (hp q (by omega)) hdv) (part_aOK (hp' q (by omega)) hdw) (by omega) ?_
                  show if cRec rs (cVal rs ks vs n) t' v w q = 0 then _ else _
                  by_cases z : cRec rs (cVal rs ks vs n) t' v w q = 0
                  · rw [if_pos z] at hf ⊢
                    rw [nI_1]
                    exact ih2 (q + 1) (by omega) hf
                  · rw [if_neg z] at hf ⊢
                    rw [hf] at H
                    exact H
              exact key t'.length 0 (by omega) rfl
            · rw [if_neg (show ¬ b2i true = 0 by decide)]
              rw [hc] at H
              simp only [if_true] at H
              exact gI_raw (o_29 hi) rfl (gI_raw (o_29 hj) rfl (f_lsf.mpr H))
          · rw [if_neg e2] at H ⊢
            exact H
        · rw [if_neg e1] at H ⊢
          exact H
end Order2
