section EdChg
variable {rs : List RowT} {ks : List KindT} {vs : List ValT} {tl : Nat → Nat → Nat → List Int32} {sc : Nat → Int32} {wI : Nat → List Int32} {wL : Nat → List Int64} {m : MS} {d d2 u : Nat} {v1 v2 v3 v5 v6 : Int32} {v4 : Int64} {W : Prop → Prop}
variable {cp mp h : MH}
theorem kEd_kEd {j e : Nat} {k : KindT} {t t' : List ET} : (ks.set j (kEd k e t)).set j (kEd (kEd k e t) e t') = ks.set j (kEd k e t') := by
  rw [List.set_set]; simp [kEd]
theorem kEd_at {j e : Nat} {k : KindT} {t t' : List ET} (hk : ks[j]? = some k) (ht : k.2.2.2.2[e]? = some t) : (ks.set j (kEd k e t'))[j]? = some (kEd k e t') ∧ (kEd k e t').2.2.2.2[e]? = some t' :=
  ⟨List.getElem?_set_self (List.getElem?_eq_some_iff.mp hk).1, List.getElem?_set_self (List.getElem?_eq_some_iff.mp ht).1⟩
theorem kEd_same {j e : Nat} {k : KindT} {t : List ET} (hk : ks[j]? = some k) (ht : k.2.2.2.2[e]? = some t) : ks.set j (kEd k e t) = ks := by
  have e1 : k.2.2.2.2.set e t = k.2.2.2.2 := by
    obtain ⟨a, b⟩ := List.getElem?_eq_some_iff.mp ht
    rw [← b]; exact List.set_getElem_self a
  have e2 : kEd k e t = k := by unfold kEd; rw [e1]
  rw [e2]
  obtain ⟨a, b⟩ := List.getElem?_eq_some_iff.mp hk
  rw [← b]; exact List.set_getElem_self a
/-- an array of an edition, two of its places exchanged -/
theorem arr_ex {f : ET → Int32} {A B : List ET} {x y : ET} {M : List ET} {l : List Int32} : ((((A ++ x :: M ++ y :: B).map f ++ l).map jI).set A.length (jI (f y))).set (A.length + M.length + 1) (jI (f x)) = ((A ++ y :: M ++ x :: B).map f ++ l).map jI := by
  simp [List.set_append, show ¬ (A.length + M.length + 1 - A.length < 0 + 0) by omega]
  simp [show A.length + M.length + 1 - A.length = M.length + 1 by omega, List.set_append]
  omega
theorem f_exchange {j e : Nat} {k : KindT} {A M B : List ET} {x y : ET} (hk : ks[j]? = some k) (ht : k.2.2.2.2[e]? = some (A ++ x :: M ++ y :: B)) (h8 : (A ++ x :: M ++ y :: B).length ≤ 8) {Q : MH → Prop} (H : Q (hJ (hC rs (ks.set j (kEd k e (A ++ y :: M ++ x :: B))) vs tl sc wI wL) mp)) : F_X2_exchange d (some (25, j, e)) (nI A.length) (nI (A.length + M.length + 1)) (hJ (hC rs ks vs tl sc wI wL) mp) u Q := by
  have l8 : A.length + M.length + B.length + 2 ≤ 8 := by simp at h8; omega
  have gx : (A ++ x :: M ++ y :: B)[A.length]? = some x := by simp
  have gy : (A ++ x :: M ++ y :: B)[A.length + M.length + 1]? = some y := by
    rw [List.getElem?_append_right (by simp; omega)]
    simp [show A.length + M.length + 1 - (A.length + (M.length + 1)) = 0 by omega]
  have b1 : A.length < 2 ^ 31 := by omega
  have b2 : A.length + M.length + 1 < 2 ^ 31 := by omega
  have gy' : ∀ {f : ET → Int32} {l : List Int32} {v : MV}, ((((A ++ x :: M ++ y :: B).map f ++ l).map jI).set A.length v)[A.length + M.length + 1]? = some (jI (f y)) := by
    intro f l v
    rw [List.getElem?_set_ne (by omega)]
    exact mapJ_at gy
  have s6 := o_26 (rs := rs) (vs := vs) (tl := tl) (sc := sc) (wI := wI) (wL := wL) (mp := mp) hk ht
  have s7 := o_27 (rs := rs) (vs := vs) (tl := tl) (sc := sc) (wI := wI) (wL := wL) (mp := mp) hk ht
  have s8 := o_28 (rs := rs) (vs := vs) (tl := tl) (sc := sc) (wI := wI) (wL := wL) (mp := mp) hk ht
  have s5 := o_25 (rs := rs) (vs := vs) (tl := tl) (sc := sc) (wI := wI) (wL := wL) (mp := mp) hk ht
  unfold F_X2_exchange
  refine gR_raw s5 rfl (aI_raw (x := x.1) s6 b1 (mapJ_at gx) ?_)
  refine gR_raw s5 rfl (aI_raw (x := x.2.1) s7 b1 (mapJ_at gx) ?_)
  refine gR_raw s5 rfl (aI_raw (x := x.2.2) s8 b1 (mapJ_at gx) ?_)
  refine gR_raw s5 rfl (gR_raw s5 rfl (aI_raw (x := y.1) s6 b2 (mapJ_at gy) ?_))
  refine sV_raw s6 (by simp [eL]) b1 ?_
  refine gR_raw (by rw [hs_n (ne_fst rfl)]; exact s5) rfl (gR_raw (by rw [hs_n (ne_fst rfl)]; exact s5) rfl (aI_raw (x := y.2.1) (by rw [hs_n (ne_fst rfl)]; exact s7) b2 (mapJ_at gy) ?_))
  refine sV_raw (by rw [hs_n (ne_fst rfl)]; exact s7) (by simp [eN]) b1 ?_
  refine gR_raw (by rw [hs_n (ne_fst rfl), hs_n (ne_fst rfl)]; exact s5) rfl (gR_raw (by rw [hs_n (ne_fst rfl), hs_n (ne_fst rfl)]; exact s5) rfl (aI_raw (x := y.2.2) (by rw [hs_n (ne_fst rfl), hs_n (ne_fst rfl)]; exact s8) b2 (mapJ_at gy) ?_))
  refine sV_raw (by rw [hs_n (ne_fst rfl), hs_n (ne_fst rfl)]; exact s8) (by simp [eM]) b1 ?_
  refine gR_raw (by rw [hs_n (ne_fst rfl), hs_n (ne_fst rfl), hs_n (ne_fst rfl)]; exact s5) rfl ?_
  refine sV_raw (by rw [hs_n (ne_fst rfl), hs_n (ne_fst rfl), hs_s]) (by simp [eL]; omega) b2 ?_
  refine gR_raw (by rw [hs_n (ne_fst rfl), hs_n (ne_fst rfl), hs_n (ne_fst rfl), hs_n (ne_fst rfl)]; exact s5) rfl ?_
  refine sV_raw (by rw [hs_n (ne_fst rfl), hs_n (ne_fst rfl), hs_s]) (by simp [eN]; omega) b2 ?_
  refine gR_raw (by rw [hs_n (ne_fst rfl), hs_n (ne_fst rfl), hs_n (ne_fst rfl), hs_n (ne_fst rfl), hs_n (ne_fst rfl)]; exact s5) rfl ?_
  refine sV_raw (by rw [hs_n (ne_fst rfl), hs_n (ne_fst rfl), hs_s]) (by simp [eM]; omega) b2 ?_
  have eq := hC_ed (rs := rs) (vs := vs) (tl := tl) (sc := sc) (wI := wI) (wL := wL) (mp := mp) (t' := A ++ y :: M ++ x :: B) (l0 := tl j e 0) (l1 := tl j e 1) (l2 := tl j e 2) hk ht
  rw [tlS_id] at eq
  refine cast (congrArg Q ?_) H
  rw [← eq]
  unfold oArr eL eN eM
  simp only [arr_ex]
  have q5 : oEd j e (A ++ y :: M ++ x :: B) = oEd j e (A ++ x :: M ++ y :: B) := by unfold oEd; simp
  rw [q5]
  funext q
  unfold hset
  by_cases a5 : q = (25, j, e)
  · subst a5; simpa using s5.symm
  · by_cases a6 : q = (26, j, e)
    · subst a6; simp
    · by_cases a7 : q = (27, j, e)
      · subst a7; simp
      · by_cases a8 : q = (28, j, e)
        · subst a8; simp
        · simp [a5, a6, a7, a8]
/-- the tails grow by the one that goes -/
def tlG (tl : Nat → Nat → Nat → List Int32) (j e : Nat) (x : ET) : Nat → Nat → Nat → List Int32 := tlS tl j e (x.1 :: tl j e 0) (x.2.1 :: tl j e 1) (x.2.2 :: tl j e 2)
theorem hC_pop {j e : Nat} {k : KindT} {t : List ET} {x : ET} (hk : ks[j]? = some k) (ht : k.2.2.2.2[e]? = some (t ++ [x])) : hset (hJ (hC rs ks vs tl sc wI wL) mp) (25, j, e) (oEd j e t) = hJ (hC rs (ks.set j (kEd k e t)) vs (tlG tl j e x) sc wI wL) mp := by
  have eq := hC_ed (rs := rs) (vs := vs) (tl := tl) (sc := sc) (wI := wI) (wL := wL) (mp := mp) (t' := t) (l0 := x.1 :: tl j e 0) (l1 := x.2.1 :: tl j e 1) (l2 := x.2.2 :: tl j e 2) hk ht
  unfold tlG
  rw [← eq]
  have m6 : eL t (x.1 :: tl j e 0) = eL (t ++ [x]) (tl j e 0) := by simp [eL]
  have m7 : eN t (x.2.1 :: tl j e 1) = eN (t ++ [x]) (tl j e 1) := by simp [eN]
  have m8 : eM t (x.2.2 :: tl j e 2) = eM (t ++ [x]) (tl j e 2) := by simp [eM]
  rw [m6, m7, m8, hset_same (o_26 hk ht), hset_same (o_27 hk ht), hset_same (o_28 hk ht)]
theorem s_drop15 {j e : Nat} {k : KindT} {t0 : List ET} {x : ET} (hk : ks[j]? = some k) (ht : k.2.2.2.2[e]? = some t0) {Q : MH → Prop} : ∀ (B A : List ET), (A ++ x :: B).length ≤ 8 → Q (hJ (hC rs (ks.set j (kEd k e (A ++ B))) vs (tlG tl j e x) sc wI wL) mp) → L_X2_drop_15 d (some (25, j, e)) (nI A.length) (hJ (hC rs (ks.set j (kEd k e (A ++ x :: B))) vs tl sc wI wL) mp) u Q := by
  intro B
  induction B with
  | nil =>
    intro A h8 H
    obtain ⟨hk2, ht2⟩ := kEd_at (t' := A ++ [x]) hk ht
    have l8 : A.length + 1 ≤ 8 := by simpa using h8
    have s5 := o_25 (rs := rs) (vs := vs) (tl := tl) (sc := sc) (wI := wI) (wL := wL) (mp := mp) hk2 ht2
    unfold L_X2_drop_15
    refine E_X2_drop_15 ?_
    unfold F_X2_drop_15
    refine gI_raw s5 rfl ?_
    have e1 : nI (A ++ [x]).length - 1 = nI A.length := by rw [show (A ++ [x]).length = A.length + 1 by simp, ← nI_1, nI_1, nI_pred]
    rw [e1, if_pos (nI_le (Nat.le_refl _) (by omega))]
    refine gI_raw s5 rfl (pV_raw s5 ?_)
    rw [e1]
    have := hC_pop (rs := rs) (vs := vs) (tl := tl) (sc := sc) (wI := wI) (wL := wL) (mp := mp) hk2 ht2
    rw [kEd_kEd] at this
    rw [List.append_nil] at H
    rw [← this] at H
    exact H
  | cons y B ih =>
    intro A h8 H
    obtain ⟨hk2, ht2⟩ := kEd_at (t' := A ++ x :: y :: B) hk ht
    have l8 : A.length + B.length + 2 ≤ 8 := by simp at h8; omega
    have s5 := o_25 (rs := rs) (vs := vs) (tl := tl) (sc := sc) (wI := wI) (wL := wL) (mp := mp) hk2 ht2
    unfold L_X2_drop_15
    refine E_X2_drop_15 ?_
    unfold F_X2_drop_15
    refine gI_raw s5 rfl ?_
    have e1 : nI (A ++ x :: y :: B).length - 1 = nI (A.length + B.length + 1) := by rw [show (A ++ x :: y :: B).length = (A.length + B.length + 1) + 1 by simp; omega, ← nI_1, nI_1, nI_pred]
    rw [e1, if_neg (nI_ge (by omega) (by omega)), nI_1]
    refine ⟨rc_raw s5, ?_⟩
    have hx := f_exchange (rs := rs) (vs := vs) (tl := tl) (sc := sc) (wI := wI) (wL := wL) (mp := mp) (d := d) (u := 0) (A := A) (M := []) (B := B) (x := x) (y := y) (Q := fun h => L_X2_drop_15 d (some (25, j, e)) (nI (A.length + 1)) h u Q) hk2 (by simpa using ht2) (by simpa using h8)
    refine hx ?_
    rw [kEd_kEd]
    have := ih (A ++ [y]) (by simp at h8 ⊢; omega) (by simpa using H)
    simpa using this
theorem s_reverse2 {j e : Nat} {k : KindT} {t0 : List ET} (hk : ks[j]? = some k) (ht : k.2.2.2.2[e]? = some t0) {Q : MH → Prop} : ∀ (n : Nat) (A M B : List ET), M.length ≤ n → A.length = B.length → (A ++ M ++ B).length ≤ 8 → Q (hJ (hC rs (ks.set j (kEd k e (A ++ M.reverse ++ B))) vs tl sc wI wL) mp) → L_X2_reverse_2 d (some (25, j, e)) (nI A.length) (hJ (hC rs (ks.set j (kEd k e (A ++ M ++ B))) vs tl sc wI wL) mp) u Q := by
  have half : ∀ n : Nat, n ≤ 8 → (nI n / 2 : Int32) = nI (n / 2) := by decide +kernel
  intro n
  induction n with
  | zero =>
    intro A M B hM hAB h8 H
    have : M = [] := List.length_eq_zero_iff.mp (by omega)
    subst this
    obtain ⟨hk2, ht2⟩ := kEd_at (t' := A ++ [] ++ B) hk ht
    have s5 := o_25 (rs := rs) (vs := vs) (tl := tl) (sc := sc) (wI := wI) (wL := wL) (mp := mp) hk2 ht2
    have l8 : A.length + B.length ≤ 8 := by simpa using h8
    unfold L_X2_reverse_2
    refine E_X2_reverse_2 ?_
    unfold F_X2_reverse_2
    refine gI_raw s5 rfl ?_
    rw [half _ h8, if_pos (nI_le (by simp; omega) (by omega))]
    exact H
  | succ n ih =>
    intro A M B hM hAB h8 H
    obtain ⟨hk2, ht2⟩ := kEd_at (t' := A ++ M ++ B) hk ht
    have s5 := o_25 (rs := rs) (vs := vs) (tl := tl) (sc := sc) (wI := wI) (wL := wL) (mp := mp) hk2 ht2
    have l8 : A.length + M.length + B.length ≤ 8 := by simp at h8; omega
    unfold L_X2_reverse_2
    refine E_X2_reverse_2 ?_
    unfold F_X2_reverse_2
    refine gI_raw s5 rfl ?_
    rw [half _ h8]
    by_cases hm : M.length ≤ 1
    · rw [if_pos (nI_le (by simp; omega) (by omega))]
      have : M.reverse = M := by
        match M, hm with
        | [], _ => rfl
        | [_], _ => rfl
      rw [this] at H
      exact H
    · obtain ⟨x, M1, y, rfl⟩ : ∃ x M1 y, M = x :: M1 ++ [y] := by
        match M, hm with
        | [], h => exact absurd (Nat.zero_le _) h
        | [_], h => exact absurd (Nat.le_refl _) h
        | x :: z :: M2, _ =>
          refine ⟨x, (z :: M2).dropLast, (z :: M2).getLast (by simp), ?_⟩
          rw [List.cons_append, List.dropLast_concat_getLast]
      rw [if_neg (nI_ge (by simp at l8 ⊢; omega) (by omega))]
      refine gI_raw s5 rfl ⟨rc_raw s5, ?_⟩
      have lM : (x :: M1 ++ [y]).length = M1.length + 2 := by simp
      have e1 : nI (A ++ (x :: M1 ++ [y]) ++ B).length - 1 - nI A.length = nI (A.length + M1.length + 1) := by
        rw [show (A ++ (x :: M1 ++ [y]) ++ B).length = (A.length + (A.length + M1.length + 1)) + 1 by simp; omega, ← nI_1, nI_1, nI_pred]
        have := pk_sub (a := A.length + (A.length + M1.length + 1)) (b := A.length) (by omega)
        rw [this]; congr 1; omega
      rw [e1, nI_1]
      have hx := f_exchange (rs := rs) (vs := vs) (tl := tl) (sc := sc) (wI := wI) (wL := wL) (mp := mp) (d := d) (u := 0) (A := A) (M := M1) (B := B) (x := x) (y := y) (Q := fun h => L_X2_reverse_2 d (some (25, j, e)) (nI (A.length + 1)) h u Q) hk2 (by simpa using ht2) (by simpa using h8)
      refine hx ?_
      rw [kEd_kEd]
      have := ih (A ++ [y]) M1 (x :: B) (by rw [lM] at hM; omega) (by simp; omega) (by simp at h8 ⊢; omega) (by simpa using H)
      simpa using this
end EdChg
