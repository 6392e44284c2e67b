section OpMore2
variable {rs : List RowT} {ks : List KindT} {vs : List ValT} {tl : Nat → Nat → Nat → List Int32} {sc : Nat → Int32} {wI : Nat → List Int32} {wL : Nat → List Int64} {m : MS} {d d2 u : Nat} {v1 v2 v3 v5 v6 : Int32} {v4 : Int64} {W : Prop → Prop}
variable {cp mp h : MH}
theorem f_isFull {j e : Nat} {k : KindT} {t : List ET} (hk : ks[j]? = some k) (ht : k.2.2.2.2[e]? = some t) (h8 : t.length + (tl j e 0).length ≤ 8) {Q : Int32 → MH → Prop} : F_X2_isFull d (some (25, j, e)) (hJ (hC rs ks vs tl sc wI wL) mp) u Q ↔ Q (b2i (tl j e 0).isEmpty) (hJ (hC rs ks vs tl sc wI wL) mp) := by
  unfold F_X2_isFull
  simp only [c_g25_4, c_g25_1, c_n26, hk, ht, wr_some, nz_0, nz_1, true_and, eL, List.length_append, List.length_map]
  rcases hx : tl j e 0 with _ | ⟨a, r⟩
  · rw [if_neg (nI_nlt (by simp) (by simp; omega))]; rfl
  · rw [hx] at h8
    rw [if_pos (nI_lt (by simp) (by simp at h8 ⊢; omega))]; rfl
theorem f_edAdd {j e : Nat} {k : KindT} {t : List ET} {v1 v2 a0 a1 a2 : Int32} {r0 r1 r2 : List Int32} (hk : ks[j]? = some k) (ht : k.2.2.2.2[e]? = some t) (h8 : t.length + (tl j e 0).length ≤ 8) (x0 : tl j e 0 = a0 :: r0) (x1 : tl j e 1 = a1 :: r1) (x2 : tl j e 2 = a2 :: r2) {Q : MH → Prop} (H : Q (hJ (hC rs (ks.set j (kEd k e (t ++ [(v1, v2, a2)]))) vs (tlD tl j e) sc wI wL) mp)) : F_X2_add d (some (25, j, e)) v1 v2 (hJ (hC rs ks vs tl sc wI wL) mp) u Q := by
  have o5 : (hJ (hC rs ks vs tl sc wI wL) mp) (25, j, e) = some (.inl (2, [jI (nI e), jR (some (26, j, e)), jR (some (27, j, e)), jR (some (28, j, e)), jI (nI t.length)])) := by
    show Option.bind (ks[j]?) _ = _; rw [hk]; simp only [Option.bind_some, ht]; rfl
  have o6 : (hJ (hC rs ks vs tl sc wI wL) mp) (26, j, e) = some (.inr (.int, (eL t (tl j e 0)).map jI)) := by
    show Option.bind (ks[j]?) _ = _; rw [hk]; simp only [Option.bind_some, ht]; rfl
  have o7 : (hJ (hC rs ks vs tl sc wI wL) mp) (27, j, e) = some (.inr (.int, (eN t (tl j e 1)).map jI)) := by
    show Option.bind (ks[j]?) _ = _; rw [hk]; simp only [Option.bind_some, ht]; rfl
  have l0 : t.length < 8 := by rw [x0] at h8; simp at h8; omega
  unfold F_X2_add
  refine ⟨rc_raw o5, (f_isFull hk ht h8).mpr ?_⟩
  rw [if_pos (by rw [x0]; rfl)]
  refine gR_raw o5 rfl (gI_raw o5 rfl (sV_raw o6 (by rw [x0]; simp [eL]) (by omega) ?_))
  refine gR_raw (by rw [hs_n (ne_fst rfl)]; exact o5) rfl (gI_raw (by rw [hs_n (ne_fst rfl)]; exact o5) rfl (sV_raw (by rw [hs_n (ne_fst rfl)]; exact o7) (by rw [x1]; simp [eN]) (by omega) ?_))
  refine gI_raw (by rw [hs_n (ne_fst rfl), hs_n (ne_fst rfl)]; exact o5) rfl (pV_raw (by rw [hs_n (ne_fst rfl), hs_n (ne_fst rfl)]; exact o5) ?_)
  have := hC_more (rs := rs) (vs := vs) (sc := sc) (wI := wI) (wL := wL) (mp := mp) (l := v1) (n := v2) hk ht x0 x1 x2
  rw [← this] at H
  exact H
end OpMore2
