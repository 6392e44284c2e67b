section EdCls
variable {rs : List RowT} {ks : List KindT} {vs : List ValT} {tl : Nat → Nat → Nat → List Int32} {sc : Nat → Int32} {wI : Nat → List Int32} {wL : Nat → List Int64} {m : MS} {d d2 u : Nat} {v1 v2 v3 v5 v6 : Int32} {v4 : Int64} {W : Prop → Prop}
variable {cp mp h : MH}
def kAdd (k : KindT) (t : List ET) : KindT := (k.1, k.2.1, k.2.2.1, k.2.2.2.1, k.2.2.2.2 ++ [t])
def tlC (tl : Nat → Nat → Nat → List Int32) (j e : Nat) : Nat → Nat → Nat → List Int32 := fun j' e' i => if j' = j ∧ e' = e + 1 then tl j e i else tl j' e' i
theorem refE_set {j n : Nat} (hn : n < 4) : (refE j n).set n (jR (some (25, j, n))) = refE j (n + 1) := by
  apply List.ext_getElem?
  intro i
  rw [List.getElem?_set]
  simp only [refE, List.getElem?_map, List.length_map, List.length_range]
  by_cases e : n = i
  · subst e
    rw [if_pos rfl, if_pos hn, List.getElem?_range hn]
    simp
  · rw [if_neg e]
    by_cases hi : i < 4
    · rw [List.getElem?_range hi]
      simp only [Option.map_some]
      congr 2
      by_cases q : i < n
      · rw [if_pos q, if_pos (by omega)]
      · rw [if_neg q, if_neg (by omega)]
    · rw [List.getElem?_eq_none (by simp; omega)]; rfl
/-- an edition more, like the newest one -/
theorem hC_add {j e : Nat} {k : KindT} {t : List ET} (hk : ks[j]? = some k) (ht : k.2.2.2.2[e]? = some t) (he : e + 1 = k.2.2.2.2.length) :
    hset (hset (hset (hset (hset (hset (hJ (hC rs ks vs tl sc wI wL) mp) (26, j, e + 1) (oArr (eL t (tl j e 0)))) (27, j, e + 1) (oArr (eN t (tl j e 1)))) (28, j, e + 1) (oArr (eM t (tl j e 2)))) (25, j, e + 1) (oEd j (e + 1) t)) (24, j, 0) (oEds j (kAdd k t))) (23, j, 0) (oKind j (kAdd k t)) = hJ (hC rs (ks.set j (kAdd k t)) vs (tlC tl j e) sc wI wL) mp := by
  have hl := (List.getElem?_eq_some_iff.mp hk).1
  have e2 : (ks.set j (kAdd k t))[j]? = some (kAdd k t) := List.getElem?_set_self hl
  have e4 : (kAdd k t).2.2.2.2[e + 1]? = some t := by show (k.2.2.2.2 ++ [t])[e + 1]? = _; rw [he]; simp
  have e3 : ∀ q, q ≠ j → (ks.set j (kAdd k t))[q]? = ks[q]? := fun q hq => List.getElem?_set_ne (Ne.symm hq)
  have e5 : ∀ q, q ≠ e + 1 → (kAdd k t).2.2.2.2[q]? = k.2.2.2.2[q]? := by
    intro q hq
    show (k.2.2.2.2 ++ [t])[q]? = _
    by_cases z : q < k.2.2.2.2.length
    · rw [List.getElem?_append_left z]
    · rw [List.getElem?_eq_none (by simp; omega), List.getElem?_eq_none (by omega)]
  have t1 : ∀ i, tlC tl j e j (e + 1) i = tl j e i := fun i => if_pos ⟨rfl, rfl⟩
  have t9 : ∀ j' e' i, ¬ (j' = j ∧ e' = e + 1) → tlC tl j e j' e' i = tl j' e' i := fun j' e' i q => if_neg q
  rw [hJ_setC (show 26 < 40 by decide), hJ_setC (show 27 < 40 by decide), hJ_setC (show 28 < 40 by decide), hJ_setC (show 25 < 40 by decide), hJ_setC (show 24 < 40 by decide), hJ_setC (show 23 < 40 by decide)]
  congr 1
  funext q
  by_cases k5 : q = (23, j, 0)
  · subst k5; rw [hs_s]; simp only [hC, e2, Option.map_some]
  rw [hs_n k5]
  by_cases k6 : q = (24, j, 0)
  · subst k6; rw [hs_s]; simp only [hC, e2, Option.map_some]
  rw [hs_n k6]
  by_cases k1 : q = (25, j, e + 1)
  · subst k1; rw [hs_s]; simp only [hC, e2, e4, Option.bind_some, Option.map_some]
  rw [hs_n k1]
  by_cases k2 : q = (28, j, e + 1)
  · subst k2; rw [hs_s]; simp only [hC, e2, e4, Option.bind_some, Option.map_some, t1, oArr]
  rw [hs_n k2]
  by_cases k3 : q = (27, j, e + 1)
  · subst k3; rw [hs_s]; simp only [hC, e2, e4, Option.bind_some, Option.map_some, t1, oArr]
  rw [hs_n k3]
  by_cases k4 : q = (26, j, e + 1)
  · subst k4; rw [hs_s]; simp only [hC, e2, e4, Option.bind_some, Option.map_some, t1, oArr]
  rw [hs_n k4]
  unfold hC
  split <;> first | rfl | (simp only [List.length_set]; done) | skip
  · rename_i j'; rw [e3 j' (fun z => k5 (by rw [z]))]
  · rename_i j'; rw [e3 j' (fun z => k6 (by rw [z]))]
  · rename_i j' e'
    by_cases z : j' = j
    · subst z
      rw [e2, hk]
      simp only [Option.bind_some]
      rw [e5 e' (fun y => k1 (by rw [y]))]
    · rw [e3 j' z]
  · rename_i j' e'
    by_cases z : j' = j
    · subst z
      have y : ¬ e' = e + 1 := fun y => k4 (by rw [y])
      rw [e2, hk]
      simp only [Option.bind_some]
      rw [e5 e' y, t9 _ _ _ (fun w => y w.2)]
    · rw [e3 j' z, t9 _ _ _ (fun w => z w.1)]
  · rename_i j' e'
    by_cases z : j' = j
    · subst z
      have y : ¬ e' = e + 1 := fun y => k3 (by rw [y])
      rw [e2, hk]
      simp only [Option.bind_some]
      rw [e5 e' y, t9 _ _ _ (fun w => y w.2)]
    · rw [e3 j' z, t9 _ _ _ (fun w => z w.1)]
  · rename_i j' e'
    by_cases z : j' = j
    · subst z
      have y : ¬ e' = e + 1 := fun y => k2 (by rw [y])
      rw [e2, hk]
      simp only [Option.bind_some]
      rw [e5 e' y, t9 _ _ _ (fun w => y w.2)]
    · rw [e3 j' z, t9 _ _ _ (fun w => z w.1)]
theorem cI_raw {n n' : Nm} {l : List Int32} {K : Nm → MH → Nat → Prop} (e : h n = some (oArr l)) (hu : l.length + 1 ≤ u) (hn : h n' = none) (hs : n'.1 ≠ 0) (H : K n' (hset h n' (oArr l)) (u - (l.length + 1))) : cI h u (some n) K := by
  unfold cI
  unfold oArr at e
  simp only [e, true_and]
  refine ⟨fun v hv => ?_, by simpa using hu, n', hn, fun z => hs (by rw [z]), ?_⟩
  · obtain ⟨x, -, rfl⟩ := List.mem_map.mp hv; exact ⟨x, rfl⟩
  · simpa [oArr] using H
theorem s_edCopy {j e c : Nat} {t : List ET} {l0 l1 l2 : List Int32} (hc : c ≤ 8) (c0 : l0.length = c) (c1 : l1.length = c) (c2 : l2.length = c) (hu : 27 ≤ u) (h5 : h (25, j, e + 1) = some (.inl (2, [jI 0, jR none, jR none, jR none, jI 0]))) (h6 : h (26, j, e + 1) = none) (h7 : h (27, j, e + 1) = none) (h8 : h (28, j, e + 1) = none) (g5 : h (25, j, e) = some (oEd j e t)) (g6 : h (26, j, e) = some (oArr l0)) (g7 : h (27, j, e) = some (oArr l1)) (g8 : h (28, j, e) = some (oArr l2)) {K : MH → Nat → Prop} (H : K (hset (hset (hset (hset h (26, j, e + 1) (oArr l0)) (27, j, e + 1) (oArr l1)) (28, j, e + 1) (oArr l2)) (25, j, e + 1) (oEd j (e + 1) t)) (u - 27)) : iV (d + 1) u_X2_init_ [jR (some (25, j, e + 1)), jI (nI (e + 1)), jR (some (25, j, e))] h u K := by
  have ne1 : ∀ a : Nat, ((a, j, e) : Nm) ≠ (a, j, e + 1) := fun a z => by have := congrArg (fun q => q.2.2) z; simp at this
  refine I_X2_init_ 27 hu ?_
  unfold F_X2_init_
  refine nn_in (pV_raw h5 ?_)
  refine gR_raw (by rw [hs_n (ne1 25)]; exact g5) rfl ?_
  refine cI_raw (n' := (26, j, e + 1)) (by rw [hs_n (ne_fst rfl)]; exact g6) (by omega) (by rw [hs_n (ne_fst rfl)]; exact h6) (by simp) ?_
  refine pV_raw (by rw [hs_n (ne_fst rfl), hs_s]) ?_
  refine gR_raw (by rw [hs_n (ne1 25), hs_n (ne_fst rfl), hs_n (ne1 25)]; exact g5) rfl ?_
  refine cI_raw (n' := (27, j, e + 1)) (by rw [hs_n (ne_fst rfl), hs_n (ne_fst rfl), hs_n (ne_fst rfl)]; exact g7) (by omega) (by rw [hs_n (ne_fst rfl), hs_n (ne_fst rfl), hs_n (ne_fst rfl)]; exact h7) (by simp) ?_
  refine pV_raw (by rw [hs_n (ne_fst rfl), hs_s]) ?_
  refine gR_raw (by rw [hs_n (ne1 25), hs_n (ne_fst rfl), hs_n (ne1 25), hs_n (ne_fst rfl), hs_n (ne1 25)]; exact g5) rfl ?_
  refine cI_raw (n' := (28, j, e + 1)) (by rw [hs_n (ne_fst rfl), hs_n (ne_fst rfl), hs_n (ne_fst rfl), hs_n (ne_fst rfl), hs_n (ne_fst rfl)]; exact g8) (by omega) (by rw [hs_n (ne_fst rfl), hs_n (ne_fst rfl), hs_n (ne_fst rfl), hs_n (ne_fst rfl), hs_n (ne_fst rfl)]; exact h8) (by simp) ?_
  refine pV_raw (by rw [hs_n (ne_fst rfl), hs_s]) ?_
  refine gI_raw (by rw [hs_n (ne1 25), hs_n (ne_fst rfl), hs_n (ne1 25), hs_n (ne_fst rfl), hs_n (ne1 25), hs_n (ne_fst rfl), hs_n (ne1 25)]; exact g5) rfl ?_
  refine pV_raw hs_s ?_
  refine cast (congrArg (fun z => K z (u - 27)) ?_) H
  funext k
  unfold hset
  by_cases a : k = (25, j, e + 1)
  · subst a; simp [oEd]
  · by_cases b : k = (26, j, e + 1)
    · subst b; simp
    · by_cases b7 : k = (27, j, e + 1)
      · subst b7; simp
      · by_cases b8 : k = (28, j, e + 1)
        · subst b8; simp
        · simp [a, b, b7, b8]
theorem f_roomE {j : Nat} {k : KindT} (hk : ks[j]? = some k) (h4 : k.2.2.2.2.length ≤ 4) {Q : Int32 → MH → Prop} : F_X3_hasRoomForEdition d (some (23, j, 0)) (hJ (hC rs ks vs tl sc wI wL) mp) u Q ↔ Q (b2i (decide (k.2.2.2.2.length < 4))) (hJ (hC rs ks vs tl sc wI wL) mp) := by
  unfold F_X3_hasRoomForEdition
  simp only [c_g23_4, hk, wr_some, nz_0, nz_1, true_and]
  by_cases q : k.2.2.2.2.length < 4
  · rw [if_neg (by rw [show (4 : Int32) = nI 4 from rfl]; exact nI_ge q (by omega))]; simp [q, b2i]
  · rw [if_pos (by rw [show (4 : Int32) = nI 4 from rfl]; exact nI_le (by omega) (by omega))]; simp [q, b2i]
theorem s_addEdition {j e : Nat} {k : KindT} {t : List ET} (hk : ks[j]? = some k) (ht : k.2.2.2.2[e]? = some t) (he : e + 1 = k.2.2.2.2.length) (h4 : k.2.2.2.2.length < 4) (hT : ∀ i, i < 3 → t.length + (tl j e i).length ≤ 8 ∧ (tl j e i).length = (tl j e 0).length) (hu : 40 ≤ u) {K : Option Nm → MH → Nat → Prop} (H : K (some (25, j, e + 1)) (hJ (hC rs (ks.set j (kAdd k t)) vs (tlC tl j e) sc wI wL) mp) (u - 40)) : iR (d + 2) u_X3_addEdition [jR (some (23, j, 0))] (hJ (hC rs ks vs tl sc wI wL) mp) u K := by
  have hj := (List.getElem?_eq_some_iff.mp hk).1
  have o5 : k.2.2.2.2[e + 1]? = none := List.getElem?_eq_none (by omega)
  have n5 : (hJ (hC rs ks vs tl sc wI wL) mp) (25, j, e + 1) = none := by show Option.bind (ks[j]?) _ = _; rw [hk]; simp only [Option.bind_some, o5]; rfl
  have n6 : (hJ (hC rs ks vs tl sc wI wL) mp) (26, j, e + 1) = none := by show Option.bind (ks[j]?) _ = _; rw [hk]; simp only [Option.bind_some, o5]; rfl
  have n7 : (hJ (hC rs ks vs tl sc wI wL) mp) (27, j, e + 1) = none := by show Option.bind (ks[j]?) _ = _; rw [hk]; simp only [Option.bind_some, o5]; rfl
  have n8 : (hJ (hC rs ks vs tl sc wI wL) mp) (28, j, e + 1) = none := by show Option.bind (ks[j]?) _ = _; rw [hk]; simp only [Option.bind_some, o5]; rfl
  have ne1 : ∀ a : Nat, ((a, j, e) : Nm) ≠ (a, j, e + 1) := fun a z => by have := congrArg (fun q => q.2.2) z; simp at this
  refine I_X3_addEdition (d := d + 1) 40 hu ?_
  unfold F_X3_addEdition
  refine ⟨rc_raw (o_23 hk), (f_roomE hk (by omega)).mpr ?_⟩
  rw [show decide (k.2.2.2.2.length < 4) = true by simp [h4], if_neg (by decide)]
  refine gR_raw (o_23 hk) rfl (gI_raw (o_23 hk) rfl ?_)
  refine nO_raw (25, j, e + 1) (by simp) n5 (by simp) ?_
  refine gI_raw (by rw [hs_n (ne_fst rfl)]; exact o_23 hk) rfl ?_
  refine ⟨rc_raw (by rw [hs_n (ne_fst rfl)]; exact o_23 hk), s_newest (k := k) (by rw [hs_n (ne_fst rfl)]; exact o_23 hk) (by rw [hs_n (ne_fst rfl)]; exact o_24 hk) (by omega) (by omega) ?_⟩
  rw [show k.2.2.2.2.length - 1 = e by omega, ← he]
  have t0 := hT 0 (by omega)
  have t1 := hT 1 (by omega)
  have t2 := hT 2 (by omega)
  refine s_edCopy (c := t.length + (tl j e 0).length) (t := t) (l0 := eL t (tl j e 0)) (l1 := eN t (tl j e 1)) (l2 := eM t (tl j e 2)) t0.1 (by simp [eL]) (by simp [eN, t1.2]) (by simp [eM, t2.2]) (by simp) hs_s (by rw [hs_n (ne_fst rfl)]; exact n6) (by rw [hs_n (ne_fst rfl)]; exact n7) (by rw [hs_n (ne_fst rfl)]; exact n8) (by rw [hs_n (ne1 25)]; exact o_25 hk ht) (by rw [hs_n (ne_fst rfl)]; exact o_26 hk ht) (by rw [hs_n (ne_fst rfl)]; exact o_27 hk ht) (by rw [hs_n (ne_fst rfl)]; exact o_28 hk ht) ?_
  refine ⟨rc_raw hs_s, sV_raw (by rw [hs_n (ne_fst rfl), hs_n (ne_fst rfl), hs_n (ne_fst rfl), hs_n (ne_fst rfl), hs_n (ne_fst rfl)]; exact o_24 hk) (by simp [refE]; omega) (by omega) ?_⟩
  refine gI_raw (by rw [hs_n (ne_fst rfl), hs_n (ne_fst rfl), hs_n (ne_fst rfl), hs_n (ne_fst rfl), hs_n (ne_fst rfl), hs_n (ne_fst rfl)]; exact o_23 hk) rfl ?_
  refine pV_raw (by rw [hs_n (ne_fst rfl), hs_n (ne_fst rfl), hs_n (ne_fst rfl), hs_n (ne_fst rfl), hs_n (ne_fst rfl), hs_n (ne_fst rfl)]; exact o_23 hk) ?_
  have eq := hC_add (rs := rs) (vs := vs) (tl := tl) (sc := sc) (wI := wI) (wL := wL) (mp := mp) hk ht he
  have hk2 : (ks.set j (kAdd k t))[j]? = some (kAdd k t) := List.getElem?_set_self hj
  have e1 : (kAdd k t).2.2.2.2.length = e + 2 := by show (k.2.2.2.2 ++ [t]).length = _; simp; omega
  have e9 : oEds j (kAdd k t) = .inr (.object "RecordBridge$Edition", (refE j k.2.2.2.2.length).set (e + 1) (jR (some (25, j, e + 1)))) := by
    unfold oEds
    rw [e1, ← he, refE_set (by omega)]
  have e8 : oKind j (kAdd k t) = .inl (3, [jI (nI j), jI (b2i k.1), jI k.2.1, jR (some (24, j, 0)), jI (nI k.2.2.2.2.length), jI (b2i k.2.2.1), jI (nI k.2.2.2.1)].set 4 (jI (nI k.2.2.2.2.length + 1))) := by
    unfold oKind
    rw [e1, ← he, nI_1]
    rfl
  have eq2 : hset (hset (hset (hset (hset (hset (hset (hJ (hC rs ks vs tl sc wI wL) mp) (25, j, e + 1) (.inl (2, [jI 0, jR none, jR none, jR none, jI 0]))) (26, j, e + 1) (oArr (eL t (tl j e 0)))) (27, j, e + 1) (oArr (eN t (tl j e 1)))) (28, j, e + 1) (oArr (eM t (tl j e 2)))) (25, j, e + 1) (oEd j (e + 1) t)) (24, j, 0) (oEds j (kAdd k t))) (23, j, 0) (oKind j (kAdd k t)) = hJ (hC rs (ks.set j (kAdd k t)) vs (tlC tl j e) sc wI wL) mp := by
    rw [← eq]
    congr 2
    funext q
    unfold hset
    by_cases a : q = (25, j, e + 1)
    · rw [if_pos a, if_pos a]
    · simp only [a, if_false]
  rw [e9, e8] at eq2
  rw [← he] at eq2 ⊢
  unfold oEds at *
  refine ⟨?_, ?_⟩
  · rw [eq2]; exact (c_rc23).mpr (by rw [hk2]; trivial)
  · rw [eq2]
    refine (f_newest hk2 (by omega) (by omega)).mpr ?_
    rw [e1]
    exact H
end EdCls
