section Val
variable {rs : List RowT} {ks : List KindT} {vs : List ValT} {tl : Nat → Nat → Nat → List Int32} {sc : Nat → Int32} {wI : Nat → List Int32} {wL : Nat → List Int64} {m : MS} {d d2 u : Nat} {v1 v2 v3 v5 v6 : Int32} {v4 : Int64} {W : Prop → Prop}
variable {cp mp h : MH}
def kMade (k : KindT) : KindT := (k.1, k.2.1, k.2.2.1, k.2.2.2.1 + 1, k.2.2.2.2)
def gVal (h : MH) (n : Nat) (v : ValT) : MH := hset (hset h (30, n, 0) (oPs v)) (29, n, 0) (oVal n v)
/-- a value more -/
theorem hC_val {v : ValT} {k : KindT} (hk : ks[v.1]? = some k) (hr : vs.length < 200) : hset (hset (hset (gVal (hJ (hC rs ks vs tl sc wI wL) mp) vs.length v) (4, 0, 0) (.inr (.object "RecordBridge$Value", (refs 200 29 vs.length).set vs.length (jR (some (29, vs.length, 0)))))) (2, 0, 0) (.inl (6, [jR (some (3, 0, 0)), jR (some (4, 0, 0)), jI (nI rs.length), jI (nI vs.length + 1)]))) (23, v.1, 0) (oKind v.1 (kMade k)) = hJ (hC rs (ks.set v.1 (kMade k)) (vs ++ [v]) tl sc wI wL) mp := by
  have hl := (List.getElem?_eq_some_iff.mp hk).1
  have f2 : (ks.set v.1 (kMade k))[v.1]? = some (kMade k) := List.getElem?_set_self hl
  have f3 : ∀ q, q ≠ v.1 → (ks.set v.1 (kMade k))[q]? = ks[q]? := fun q hq => List.getElem?_set_ne (Ne.symm hq)
  have e1 : (vs ++ [v]).length = vs.length + 1 := by simp
  have e2 : (vs ++ [v])[vs.length]? = some v := by simp
  have e3 : ∀ j, j ≠ vs.length → (vs ++ [v])[j]? = vs[j]? := by
    intro j hj
    by_cases q : j < vs.length
    · rw [List.getElem?_append_left q]
    · rw [List.getElem?_eq_none (by simp; omega), List.getElem?_eq_none (by omega)]
  unfold gVal
  rw [refs_set hr, hJ_setC (show 30 < 40 by decide), hJ_setC (show 29 < 40 by decide), hJ_setC (show 4 < 40 by decide), hJ_setC (show 2 < 40 by decide), hJ_setC (show 23 < 40 by decide)]
  congr 1
  funext q
  by_cases k0 : q = (23, v.1, 0)
  · subst k0; rw [hs_s]; simp only [hC, f2, Option.map_some]
  rw [hs_n k0]
  by_cases k1 : q = (2, 0, 0)
  · subst k1; rw [hs_s]; simp only [hC, e1, nI_1]
  rw [hs_n k1]
  by_cases k2 : q = (4, 0, 0)
  · subst k2; rw [hs_s]; simp only [hC, e1]
  rw [hs_n k2]
  by_cases k3 : q = (29, vs.length, 0)
  · subst k3; rw [hs_s]; simp only [hC, e2, Option.map_some]
  rw [hs_n k3]
  by_cases k4 : q = (30, vs.length, 0)
  · subst k4; rw [hs_s]; simp only [hC, e2, Option.map_some]
  rw [hs_n k4]
  unfold hC
  split <;> first | rfl | exact absurd rfl k1 | exact absurd rfl k2 | (simp only [List.length_set]; done) | skip
  · rename_i j; rw [f3 j (fun z => k0 (by rw [z]))]
  · rename_i j
    by_cases z : j = v.1
    · subst z; rw [f2, hk]; rfl
    · rw [f3 j z]
  · rename_i j e
    by_cases z : j = v.1
    · subst z; rw [f2, hk]; rfl
    · rw [f3 j z]
  · rename_i j e
    by_cases z : j = v.1
    · subst z; rw [f2, hk]; rfl
    · rw [f3 j z]
  · rename_i j e
    by_cases z : j = v.1
    · subst z; rw [f2, hk]; rfl
    · rw [f3 j z]
  · rename_i j e
    by_cases z : j = v.1
    · subst z; rw [f2, hk]; rfl
    · rw [f3 j z]
  · rename_i j; rw [e3 j (fun z => k3 (by rw [z]))]
  · rename_i j; rw [e3 j (fun z => k4 (by rw [z]))]
theorem f_addValue {v : ValT} {k : KindT} (hk : ks[v.1]? = some k) (hr : vs.length < 200) {Q : Int32 → MH → Prop} (H : Q (nI vs.length) (hJ (hC rs (ks.set v.1 (kMade k)) (vs ++ [v]) tl sc wI wL) mp)) : F_X7_addValue d sto (some (29, vs.length, 0)) (gVal (hJ (hC rs ks vs tl sc wI wL) mp) vs.length v) u Q := by
  have e2 : gVal (hJ (hC rs ks vs tl sc wI wL) mp) vs.length v (2, 0, 0) = some (.inl (6, [jR (some (3, 0, 0)), jR (some (4, 0, 0)), jI (nI rs.length), jI (nI vs.length)])) := by
    unfold gVal; rw [hs_n (ne_fst rfl), hs_n (ne_fst rfl)]; rfl
  have e4 : gVal (hJ (hC rs ks vs tl sc wI wL) mp) vs.length v (4, 0, 0) = some (.inr (.object "RecordBridge$Value", refs 200 29 vs.length)) := by
    unfold gVal; rw [hs_n (ne_fst rfl), hs_n (ne_fst rfl)]; rfl
  have e3 : gVal (hJ (hC rs ks vs tl sc wI wL) mp) vs.length v (23, v.1, 0) = some (oKind v.1 k) := by
    unfold gVal; rw [hs_n (ne_fst rfl), hs_n (ne_fst rfl)]; show Option.map _ (ks[v.1]?) = _; rw [hk]; rfl
  have e9 : gVal (hJ (hC rs ks vs tl sc wI wL) mp) vs.length v (29, vs.length, 0) = some (oVal vs.length v) := hs_s
  unfold F_X7_addValue
  refine gI_raw e2 rfl ?_
  rw [if_neg (by rw [show (200 : Int32) = nI 200 by decide]; exact nI_ge hr (by omega))]
  refine gR_raw e2 rfl (gI_raw e2 rfl ⟨rc_raw e9, sV_raw e4 (by rw [refs_len]; exact hr) (by omega) ?_⟩)
  refine gI_raw (by rw [hs_n (by decide)]; exact e2) rfl (pV_raw (by rw [hs_n (by decide)]; exact e2) ?_)
  refine gR_raw (by rw [hs_n (ne_fst rfl), hs_n (ne_fst rfl)]; exact e9) rfl ?_
  refine gI_raw (by rw [hs_n (ne_fst rfl), hs_n (ne_fst rfl)]; exact e3) rfl ?_
  refine pV_raw (by rw [hs_n (ne_fst rfl), hs_n (ne_fst rfl)]; exact e3) ?_
  refine gI_raw (by rw [hs_n (ne_fst rfl), hs_n (ne_fst rfl), hs_n (ne_fst rfl)]; exact e9) rfl ?_
  have := hC_val (rs := rs) (tl := tl) (sc := sc) (wI := wI) (wL := wL) (mp := mp) hk hr
  rw [← this] at H
  rw [nI_1]
  simp only [oKind, kMade, ← nI_1] at H ⊢
  exact H
end Val
