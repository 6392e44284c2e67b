section Raw
variable {rs : List RowT} {ks : List KindT} {vs : List ValT} {tl : Nat → Nat → Nat → List Int32} {sc : Nat → Int32} {wI : Nat → List Int32} {wL : Nat → List Int64} {m : MS} {d d2 u : Nat} {v1 v2 v3 v5 v6 : Int32} {v4 : Int64} {W : Prop → Prop}
variable {cp mp h : MH}
/-! cells named one by one -/
theorem nn_in {n : Nm} {A : Prop} (H : A) : nn (some n) A := H
theorem hs_s {n : Nm} {c : MC} : hset h n c n = some c := if_pos rfl
theorem hs_n {n k : Nm} {c : MC} (e : k ≠ n) : hset h n c k = h k := if_neg e
theorem hs_hs {n : Nm} {a b : MC} : hset (hset h n a) n b = hset h n b := by
  funext k
  unfold hset
  by_cases e : k = n
  · rw [if_pos e, if_pos e]
  · rw [if_neg e, if_neg e, if_neg e]
theorem hs_sw {n k : Nm} {a b : MC} (e : k ≠ n) : hset (hset h n a) k b = hset (hset h k b) n a := by
  funext j
  unfold hset
  by_cases e1 : j = k
  · rw [if_pos e1, if_neg (fun z => e (e1.symm.trans z)), if_pos e1]
  · by_cases e2 : j = n
    · rw [if_neg e1, if_pos e2, if_pos e2]
    · rw [if_neg e1, if_neg e2, if_neg e2, if_neg e1]
theorem gI_raw {n : Nm} {ci k : Nat} {fs : List MV} {x : Int32} {K : Int32 → Prop} (e : h n = some (.inl (ci, fs))) (e2 : fs[k]? = some (jI x)) (H : K x) : gI h (some n) ci k K := by
  unfold gI; simp only [e, e2]; exact ⟨trivial, H⟩
theorem gR_raw {n : Nm} {ci k : Nat} {fs : List MV} {x : Option Nm} {K : Option Nm → Prop} (e : h n = some (.inl (ci, fs))) (e2 : fs[k]? = some (jR x)) (H : K x) : gR h (some n) ci k K := by
  unfold gR; simp only [e, e2]; exact ⟨trivial, H⟩
theorem pV_raw {n : Nm} {ci k : Nat} {fs : List MV} {v : MV} {K : MH → Prop} (e : h n = some (.inl (ci, fs))) (H : K (hset h n (.inl (ci, fs.set k v)))) : pV h (some n) ci k v K := by
  unfold pV; simp only [e]; exact ⟨trivial, H⟩
theorem rc_raw {n : Nm} {ci : Nat} {fs : List MV} (e : h n = some (.inl (ci, fs))) : rc h (some n) ci := by
  unfold rc; simp only [e]
theorem aN_raw {n : Nm} {ty : FieldType} {es : List MV} {K : Int32 → Prop} (e : h n = some (.inr (ty, es))) (H : K (nI es.length)) : aN h (some n) K := by
  unfold aN; simp only [e]; exact H
theorem sV_raw {n : Nm} {ty : FieldType} {es : List MV} {i : Nat} {v : MV} {K : MH → Prop} (e : h n = some (.inr (ty, es))) (hi : i < es.length) (hl : i < 2 ^ 31) (H : K (hset h n (.inr (ty, es.set i v)))) : sV ty h (some n) (nI i) v K := by
  unfold sV; simp only [e, nI_clamp hl]; exact ⟨trivial, nI_pos hl, hi, H⟩
theorem nO_raw {u ci : Nat} {fs : List MV} {K : Nm → MH → Nat → Prop} (n : Nm) (hu : fs.length + 1 ≤ u) (hn : h n = none) (hs : n.1 ≠ 0) (H : K n (hset h n (.inl (ci, fs))) (u - (fs.length + 1))) : nO h u ci fs K :=
  ⟨hu, n, hn, fun e => hs (by rw [e]), H⟩
theorem nA_raw {ty : FieldType} {u len : Nat} {K : Nm → MH → Nat → Prop} (n : Nm) (hl : len ≤ 65536) (hu : len + 1 ≤ u) (hn : h n = none) (hs : n.1 ≠ 0) (H : K n (hset h n (.inr (ty, List.replicate len (dflt ty)))) (u - (len + 1))) : nA ty h u (nI len) K := by
  unfold nA
  rw [nI_clamp (by omega)]
  exact ⟨nI_pos (by omega), hl, hu, n, hn, fun e => hs (by rw [e]), H⟩
theorem refs_set {cap a n : Nat} (hn : n < cap) : (refs cap a n).set n (jR (some (a, n, 0))) = refs cap a (n + 1) := by
  apply List.ext_getElem?
  intro i
  rw [List.getElem?_set]
  simp only [refs, List.getElem?_map, List.length_map, List.length_range]
  by_cases e : n = i
  · subst e
    rw [if_pos rfl, if_pos hn, List.getElem?_range hn]
    simp
  · rw [if_neg e]
    by_cases hi : i < cap
    · rw [List.getElem?_range hi]
      simp only [Option.map_some]
      congr 2
      by_cases q : i < n
      · rw [if_pos q, if_pos (by omega)]
      · rw [if_neg q, if_neg (by omega)]
    · rw [List.getElem?_eq_none (by simp; omega)]; rfl
theorem refs_len {cap a n : Nat} : (refs cap a n).length = cap := by simp [refs]
/-- a row more -/
theorem hC_row {r : RowT} (hr : rs.length < 60) : hset (hset (hset (hset (hJ (hC rs ks vs tl sc wI wL) mp) (22, rs.length, 0) (oCells r)) (21, rs.length, 0) (oRow rs.length r)) (3, 0, 0) (.inr (.object "RecordBridge$Row", (refs 60 21 rs.length).set rs.length (jR (some (21, rs.length, 0)))))) (2, 0, 0) (.inl (6, [jR (some (3, 0, 0)), jR (some (4, 0, 0)), jI (nI rs.length + 1), jI (nI vs.length)])) = hJ (hC (rs ++ [r]) ks vs tl sc wI wL) mp := by
  have e1 : (rs ++ [r]).length = rs.length + 1 := by simp
  have e2 : (rs ++ [r])[rs.length]? = some r := by simp
  have e3 : ∀ j, j ≠ rs.length → (rs ++ [r])[j]? = rs[j]? := by
    intro j hj
    by_cases q : j < rs.length
    · rw [List.getElem?_append_left q]
    · rw [List.getElem?_eq_none (by simp; omega), List.getElem?_eq_none (by omega)]
  rw [refs_set hr, hJ_setC (show 22 < 40 by decide), hJ_setC (show 21 < 40 by decide), hJ_setC (show 3 < 40 by decide), hJ_setC (show 2 < 40 by decide)]
  congr 1
  funext k
  by_cases k1 : k = (2, 0, 0)
  · subst k1; rw [hs_s]; simp only [hC, e1, nI_1]
  · rw [hs_n k1]
    by_cases k2 : k = (3, 0, 0)
    · subst k2; rw [hs_s]; simp only [hC, e1]
    · rw [hs_n k2]
      by_cases k3 : k = (21, rs.length, 0)
      · subst k3; rw [hs_s]; simp only [hC, e2, Option.map_some]
      · rw [hs_n k3]
        by_cases k4 : k = (22, rs.length, 0)
        · subst k4; rw [hs_s]; simp only [hC, e2, Option.map_some]
        · rw [hs_n k4]
          unfold hC
          split <;> first | rfl | exact absurd rfl k1 | exact absurd rfl k2 | skip
          · rename_i j; rw [e3 j (fun z => k3 (by rw [z]))]
          · rename_i j; rw [e3 j (fun z => k4 (by rw [z]))]
theorem ne_fst {a b : Nat} {x y : Nat × Nat} (h : Nat.beq a b = false) : ((a, x) : Nm) ≠ (b, y) := fun z => by
  have := congrArg Prod.fst z
  have e : a = b := this
  subst e
  rw [Nat.beq_refl] at h
  cases h
/-- the row that is being made, not yet in the table -/
def gRow (h : MH) (n : Nat) (r : RowT) : MH := hset (hset h (22, n, 0) (oCells r)) (21, n, 0) (oRow n r)
theorem f_addRow63 {r : RowT} (hr : rs.length < 60) {Q : Option Nm → MH → Prop} (H : Q (some (21, rs.length, 0)) (hJ (hC (rs ++ [r]) ks vs tl sc wI wL) mp)) : F_X7_addRow_63 d sto (some (21, rs.length, 0)) (gRow (hJ (hC rs ks vs tl sc wI wL) mp) rs.length r) u Q := by
  have e2 : gRow (hJ (hC rs ks vs tl sc wI wL) mp) rs.length r (2, 0, 0) = some (.inl (6, [jR (some (3, 0, 0)), jR (some (4, 0, 0)), jI (nI rs.length), jI (nI vs.length)])) := by
    unfold gRow; rw [hs_n (ne_fst rfl), hs_n (ne_fst rfl)]; rfl
  have e3 : gRow (hJ (hC rs ks vs tl sc wI wL) mp) rs.length r (3, 0, 0) = some (.inr (.object "RecordBridge$Row", refs 60 21 rs.length)) := by
    unfold gRow; rw [hs_n (ne_fst rfl), hs_n (ne_fst rfl)]; rfl
  unfold F_X7_addRow_63
  refine gI_raw e2 rfl ?_
  rw [if_neg (by rw [show (60 : Int32) = nI 60 by decide]; exact nI_ge hr (by omega))]
  refine gR_raw e2 rfl (gI_raw e2 rfl ⟨rc_raw (hs_s), sV_raw e3 (by rw [refs_len]; exact hr) (by omega) ?_⟩)
  refine gI_raw (by rw [hs_n (by decide)]; exact e2) rfl (pV_raw (by rw [hs_n (by decide)]; exact e2) ?_)
  show Q _ (hset (hset (gRow (hJ (hC rs ks vs tl sc wI wL) mp) rs.length r) (3, 0, 0) _) (2, 0, 0) (.inl (6, [jR (some (3, 0, 0)), jR (some (4, 0, 0)), jI (nI rs.length + 1), jI (nI vs.length)])))
  unfold gRow
  rw [hC_row hr]
  exact H
theorem f_addRow35 {l : Int32} {b : Bool} {c : Nat} (hr : rs.length < 60) (hc : c ≤ 20) {Q : Option Nm → MH → Prop} (H : Q (some (21, rs.length, 0)) (hJ (hC (rs ++ [(l, b, List.replicate c (-1))]) ks vs tl sc wI wL) mp)) : L_X7_addRow_35 d sto (some (21, rs.length, 0)) 0 (gRow (hJ (hC rs ks vs tl sc wI wL) mp) rs.length (l, b, List.replicate c 0)) u Q := by
  have key : ∀ n i : Nat, i + n = c → L_X7_addRow_35 d sto (some (21, rs.length, 0)) (nI i) (gRow (hJ (hC rs ks vs tl sc wI wL) mp) rs.length (l, b, List.replicate i (-1) ++ List.replicate n 0)) u Q := by
    intro n
    induction n with
    | zero =>
      intro i hi
      have : i = c := (by omega)
      subst this
      unfold L_X7_addRow_35
      refine E_X7_addRow_35 ?_
      unfold F_X7_addRow_35
      refine gR_raw hs_s rfl (aN_raw (by unfold gRow; rw [hs_n (ne_fst rfl), hs_s]; rfl) ?_)
      rw [if_pos (by simpa using nI_le (Nat.le_refl i) (by omega))]
      refine f_addRow63 hr ?_
      simpa using H
    | succ n ih =>
      intro i hi
      unfold L_X7_addRow_35
      refine E_X7_addRow_35 ?_
      unfold F_X7_addRow_35
      refine gR_raw hs_s rfl (aN_raw (by unfold gRow; rw [hs_n (ne_fst rfl), hs_s]; rfl) ?_)
      rw [if_neg (by simpa using nI_ge (show i < i + (n + 1) by omega) (by omega))]
      refine gR_raw hs_s rfl (sV_raw (by unfold gRow; rw [hs_n (ne_fst rfl), hs_s]; rfl) (by simp) (by omega) ?_)
      have e : hset (gRow (hJ (hC rs ks vs tl sc wI wL) mp) rs.length (l, b, List.replicate i (-1) ++ List.replicate (n + 1) 0)) (22, rs.length, 0) (.inr (.long, ((List.replicate i (-1) ++ List.replicate (n + 1) (0 : Int64)).map jL).set i (jL (-1)))) = gRow (hJ (hC rs ks vs tl sc wI wL) mp) rs.length (l, b, List.replicate (i + 1) (-1) ++ List.replicate n 0) := by
        unfold gRow
        rw [hs_sw (ne_fst rfl), hs_hs]
        rw [← List.map_set, List.set_append, if_neg (by simp), List.length_replicate, Nat.sub_self, List.replicate_succ (n := n), List.set_cons_zero, List.replicate_succ' (n := i), List.append_assoc]
        rfl
      rw [e, nI_1]
      exact ih (i + 1) (by omega)
  have := key c 0 (by omega)
  simpa [nI_0] using this
theorem s_addRow {b : Bool} {c : Nat} (hr : rs.length < 60) (hc : c ≤ 20) (hu : c + 6 ≤ u) {K : Option Nm → MH → Nat → Prop} (H : K (some (21, rs.length, 0)) (hJ (hC (rs ++ [(v1, b, List.replicate c (if v1 = 8 then -1 else 0))]) ks vs tl sc wI wL) mp) (u - (c + 6))) : iR (d + 2) u_X7_addRow [jR sto, jI v1, jI (nI c), jI (b2i b)] (hJ (hC rs ks vs tl sc wI wL) mp) u K := by
  refine I_X7_addRow (c + 6) hu ?_
  have n1 : (hJ (hC rs ks vs tl sc wI wL) mp) (21, rs.length, 0) = none := by show Option.map _ (rs[rs.length]?) = none; simp
  have n2 : (hJ (hC rs ks vs tl sc wI wL) mp) (22, rs.length, 0) = none := by show Option.map _ (rs[rs.length]?) = none; simp
  unfold F_X7_addRow
  refine nO_raw (21, rs.length, 0) (by simp) n1 (by simp) ?_
  refine gI_raw (by rw [hs_n (ne_fst rfl)]; rfl) rfl ?_
  rw [if_pos (nI_pos' (by omega))]
  unfold F_X7_addRow_18
  refine nA_raw (22, rs.length, 0) (by omega) (by simp) (by rw [hs_n (ne_fst rfl)]; exact n2) (by simp) ?_
  refine nn_in ?_
  unfold F_X5_init
  refine nn_in ?_
  refine pV_raw (by rw [hs_n (ne_fst rfl), hs_s]) ?_
  refine pV_raw hs_s (pV_raw hs_s ⟨nz_b2i b, pV_raw hs_s ?_⟩)
  simp only [hs_hs]
  have e : hset (hset (hset (hJ (hC rs ks vs tl sc wI wL) mp) (21, rs.length, 0) (.inl (4, [jI 0, jI 0, jR none, jI 0]))) (22, rs.length, 0) (.inr (.long, List.replicate c (dflt .long)))) (21, rs.length, 0) (oRow rs.length (v1, b, List.replicate c 0)) = gRow (hJ (hC rs ks vs tl sc wI wL) mp) rs.length (v1, b, List.replicate c 0) := by
    unfold gRow
    rw [hs_sw (ne_fst rfl), hs_hs, ← hs_sw (ne_fst rfl)]
    congr 2
    simp [oCells, dflt]
  by_cases q : v1 = 8
  · rw [if_pos q]
    rw [if_pos q] at H
    have := f_addRow35 (d := d) (u := c + 6 - (([jI 0, jI 0, jR none, jI 0] : List MV).length + 1) - (c + 1)) (l := v1) (b := b) hr hc (Q := fun x h2 => K x h2 (u - (c + 6))) H
    rw [← e] at this
    exact this
  · rw [if_neg q]
    rw [if_neg q] at H
    have := f_addRow63 (d := d) (u := c + 6 - (([jI 0, jI 0, jR none, jI 0] : List MV).length + 1) - (c + 1)) (r := (v1, b, List.replicate c 0)) hr (Q := fun x h2 => K x h2 (u - (c + 6))) H
    rw [← e] at this
    exact this
end Raw
