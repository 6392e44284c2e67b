section Frame
variable {rs : List RowT} {ks : List KindT} {vs : List ValT} {tl : Nat → Nat → Nat → List Int32} {sc : Nat → Int32} {wI : Nat → List Int32} {wL : Nat → List Int64} {m : MS} {d d2 u : Nat} {v1 v2 v3 v5 v6 : Int32} {v4 : Int64} {W : Prop → Prop}
variable {cp mp h : MH} {w : Nat} {z : MC}
theorem hC_rowZ {r : RowT} (hr : rs.length < 60) : hset (hset (hset (hset (hset (hJ (hC rs ks vs tl sc wI wL) mp) (30, w, 0) z) (22, rs.length, 0) (oCells r)) (21, rs.length, 0) (oRow rs.length r)) (3, 0, 0) (.inr (.object "RecordBridge$Row", (refs 60 21 rs.length).set rs.length (jR (some (21, rs.length, 0)))))) (2, 0, 0) (.inl (6, [jR (some (3, 0, 0)), jR (some (4, 0, 0)), jI (nI rs.length + 1), jI (nI vs.length)])) = hset (hJ (hC (rs ++ [r]) ks vs tl sc wI wL) mp) (30, w, 0) z := by
  rw [hs_sw (n := (30, w, 0)) (k := (22, rs.length, 0)) (ne_fst rfl), hs_sw (n := (30, w, 0)) (k := (21, rs.length, 0)) (ne_fst rfl), hs_sw (n := (30, w, 0)) (k := (3, 0, 0)) (ne_fst rfl), hs_sw (n := (30, w, 0)) (k := (2, 0, 0)) (ne_fst rfl), hC_row hr]
theorem z_addRow63 {r : RowT} (hr : rs.length < 60) {Q : Option Nm → MH → Prop} (H : Q (some (21, rs.length, 0)) (hset (hJ (hC (rs ++ [r]) ks vs tl sc wI wL) mp) (30, w, 0) z)) : F_X7_addRow_63 d sto (some (21, rs.length, 0)) (gRow (hset (hJ (hC rs ks vs tl sc wI wL) mp) (30, w, 0) z) rs.length r) u Q := by
  have e2 : gRow (hset (hJ (hC rs ks vs tl sc wI wL) mp) (30, w, 0) z) rs.length r (2, 0, 0) = some (.inl (6, [jR (some (3, 0, 0)), jR (some (4, 0, 0)), jI (nI rs.length), jI (nI vs.length)])) := by
    unfold gRow; rw [hs_n (ne_fst rfl), hs_n (ne_fst rfl), hs_n (ne_fst rfl)]; rfl
  have e3 : gRow (hset (hJ (hC rs ks vs tl sc wI wL) mp) (30, w, 0) z) rs.length r (3, 0, 0) = some (.inr (.object "RecordBridge$Row", refs 60 21 rs.length)) := by
    unfold gRow; rw [hs_n (ne_fst rfl), hs_n (ne_fst rfl), hs_n (ne_fst rfl)]; rfl
  unfold F_X7_addRow_63
  refine gI_raw e2 rfl ?_
  rw [if_neg (by rw [show (60 : Int32) = nI 60 by decide]; exact nI_ge hr (by omega))]
  refine gR_raw e2 rfl (gI_raw e2 rfl ⟨rc_raw (hs_s), sV_raw e3 (by rw [refs_len]; exact hr) (by omega) ?_⟩)
  refine gI_raw (by rw [hs_n (by decide)]; exact e2) rfl (pV_raw (by rw [hs_n (by decide)]; exact e2) ?_)
  show Q _ (hset (hset (gRow (hset (hJ (hC rs ks vs tl sc wI wL) mp) (30, w, 0) z) rs.length r) (3, 0, 0) _) (2, 0, 0) (.inl (6, [jR (some (3, 0, 0)), jR (some (4, 0, 0)), jI (nI rs.length + 1), jI (nI vs.length)])))
  unfold gRow
  rw [hC_rowZ hr]
  exact H
theorem z_addRow35 {l : Int32} {b : Bool} {c : Nat} (hr : rs.length < 60) (hc : c ≤ 20) {Q : Option Nm → MH → Prop} (H : Q (some (21, rs.length, 0)) (hset (hJ (hC (rs ++ [(l, b, List.replicate c (-1))]) ks vs tl sc wI wL) mp) (30, w, 0) z)) : L_X7_addRow_35 d sto (some (21, rs.length, 0)) 0 (gRow (hset (hJ (hC rs ks vs tl sc wI wL) mp) (30, w, 0) z) rs.length (l, b, List.replicate c 0)) u Q := by
  have key : ∀ n i : Nat, i + n = c → L_X7_addRow_35 d sto (some (21, rs.length, 0)) (nI i) (gRow (hset (hJ (hC rs ks vs tl sc wI wL) mp) (30, w, 0) z) rs.length (l, b, List.replicate i (-1) ++ List.replicate n 0)) u Q := by
    intro n
    induction n with
    | zero =>
      intro i hi
      have : i = c := (by omega)
      subst this
      unfold L_X7_addRow_35
      refine E_X7_addRow_35 ?_
      unfold F_X7_addRow_35
      refine gR_raw hs_s rfl (aN_raw (by unfold gRow; rw [hs_n (ne_fst rfl), hs_s]; rfl) ?_)
      rw [if_pos (by simpa using nI_le (Nat.le_refl i) (by omega))]
      refine z_addRow63 hr ?_
      simpa using H
    | succ n ih =>
      intro i hi
      unfold L_X7_addRow_35
      refine E_X7_addRow_35 ?_
      unfold F_X7_addRow_35
      refine gR_raw hs_s rfl (aN_raw (by unfold gRow; rw [hs_n (ne_fst rfl), hs_s]; rfl) ?_)
      rw [if_neg (by simpa using nI_ge (show i < i + (n + 1) by omega) (by omega))]
      refine gR_raw hs_s rfl (sV_raw (by unfold gRow; rw [hs_n (ne_fst rfl), hs_s]; rfl) (by simp) (by omega) ?_)
      have e : hset (gRow (hset (hJ (hC rs ks vs tl sc wI wL) mp) (30, w, 0) z) rs.length (l, b, List.replicate i (-1) ++ List.replicate (n + 1) 0)) (22, rs.length, 0) (.inr (.long, ((List.replicate i (-1) ++ List.replicate (n + 1) (0 : Int64)).map jL).set i (jL (-1)))) = gRow (hset (hJ (hC rs ks vs tl sc wI wL) mp) (30, w, 0) z) rs.length (l, b, List.replicate (i + 1) (-1) ++ List.replicate n 0) := by
        unfold gRow
        rw [hs_sw (ne_fst rfl), hs_hs]
        rw [← List.map_set, List.set_append, if_neg (by simp), List.length_replicate, Nat.sub_self, List.replicate_succ (n := n), List.set_cons_zero, List.replicate_succ' (n := i), List.append_assoc]
        rfl
      rw [e, nI_1]
      exact ih (i + 1) (by omega)
  have := key c 0 (by omega)
  simpa [nI_0] using this
theorem z_addRow {b : Bool} {c : Nat} (hr : rs.length < 60) (hc : c ≤ 20) (hu : c + 6 ≤ u) {K : Option Nm → MH → Nat → Prop} (H : K (some (21, rs.length, 0)) (hset (hJ (hC (rs ++ [(v1, b, List.replicate c (if v1 = 8 then -1 else 0))]) ks vs tl sc wI wL) mp) (30, w, 0) z) (u - (c + 6))) : iR (d + 2) u_X7_addRow [jR sto, jI v1, jI (nI c), jI (b2i b)] (hset (hJ (hC rs ks vs tl sc wI wL) mp) (30, w, 0) z) u K := by
  refine I_X7_addRow (c + 6) hu ?_
  have n1 : (hset (hJ (hC rs ks vs tl sc wI wL) mp) (30, w, 0) z) (21, rs.length, 0) = none := by rw [hs_n (ne_fst rfl)]; show Option.map _ (rs[rs.length]?) = none; simp
  have n2 : (hset (hJ (hC rs ks vs tl sc wI wL) mp) (30, w, 0) z) (22, rs.length, 0) = none := by rw [hs_n (ne_fst rfl)]; show Option.map _ (rs[rs.length]?) = none; simp
  unfold F_X7_addRow
  refine nO_raw (21, rs.length, 0) (by simp) n1 (by simp) ?_
  refine gI_raw (by rw [hs_n (ne_fst rfl), hs_n (ne_fst rfl)]; rfl) rfl ?_
  rw [if_pos (nI_pos' (by omega))]
  unfold F_X7_addRow_18
  refine nA_raw (22, rs.length, 0) (by omega) (by simp) (by rw [hs_n (ne_fst rfl)]; exact n2) (by simp) ?_
  refine nn_in ?_
  unfold F_X5_init
  refine nn_in ?_
  refine pV_raw (by rw [hs_n (ne_fst rfl), hs_s]) ?_
  refine pV_raw hs_s (pV_raw hs_s ⟨nz_b2i b, pV_raw hs_s ?_⟩)
  simp only [hs_hs]
  have e : hset (hset (hset (hset (hJ (hC rs ks vs tl sc wI wL) mp) (30, w, 0) z) (21, rs.length, 0) (.inl (4, [jI 0, jI 0, jR none, jI 0]))) (22, rs.length, 0) (.inr (.long, List.replicate c (dflt .long)))) (21, rs.length, 0) (oRow rs.length (v1, b, List.replicate c 0)) = gRow (hset (hJ (hC rs ks vs tl sc wI wL) mp) (30, w, 0) z) rs.length (v1, b, List.replicate c 0) := by
    unfold gRow
    rw [hs_sw (ne_fst rfl), hs_hs, ← hs_sw (ne_fst rfl)]
    congr 2
    simp [oCells, dflt]
  by_cases q : v1 = 8
  · rw [if_pos q]
    rw [if_pos q] at H
    have := z_addRow35 (d := d) (u := c + 6 - (([jI 0, jI 0, jR none, jI 0] : List MV).length + 1) - (c + 1)) (l := v1) (b := b) hr hc (Q := fun x h2 => K x h2 (u - (c + 6))) H
    rw [← e] at this
    exact this
  · rw [if_neg q]
    rw [if_neg q] at H
    have := z_addRow63 (d := d) (u := c + 6 - (([jI 0, jI 0, jR none, jI 0] : List MV).length + 1) - (c + 1)) (r := (v1, b, List.replicate c 0)) hr (Q := fun x h2 => K x h2 (u - (c + 6))) H
    rw [← e] at this
    exact this
theorem o_21 {j : Nat} {r : RowT} (hj : rs[j]? = some r) : (hJ (hC rs ks vs tl sc wI wL) mp) (21, j, 0) = some (oRow j r) := by show Option.map _ (rs[j]?) = _; rw [hj]; rfl
theorem o_22 {j : Nat} {r : RowT} (hj : rs[j]? = some r) : (hJ (hC rs ks vs tl sc wI wL) mp) (22, j, 0) = some (oCells r) := by show Option.map _ (rs[j]?) = _; rw [hj]; rfl
theorem z_cp {j k a b n : Nat} {r s : RowT} (hj : rs[j]? = some r) (hk : rs[k]? = some s) (ha : a + n ≤ r.2.2.length) (hb : b + n ≤ s.2.2.length) (hr : r.2.2.length < 2 ^ 31) (hs : s.2.2.length < 2 ^ 31) {K : MH → Prop} (H : K (hset (hJ (hC (rs.set k (s.1, s.2.1, cpN r.2.2 s.2.2 a b n)) ks vs tl sc wI wL) mp) (30, w, 0) z)) : cpL (hset (hJ (hC rs ks vs tl sc wI wL) mp) (30, w, 0) z) (some (22, j, 0)) (nI a) (some (22, k, 0)) (nI b) (nI n) K := by
  have ea : (hset (hJ (hC rs ks vs tl sc wI wL) mp) (30, w, 0) z) (22, j, 0) = some (oCells r) := by rw [hs_n (ne_fst rfl)]; exact o_22 hj
  have eb : (hset (hJ (hC rs ks vs tl sc wI wL) mp) (30, w, 0) z) (22, k, 0) = some (oCells s) := by rw [hs_n (ne_fst rfl)]; exact o_22 hk
  have hl := (List.getElem?_eq_some_iff.mp hk).1
  unfold cpL
  simp only [ea, eb, oCells, nI_clamp (show a < 2 ^ 31 by omega), nI_clamp (show b < 2 ^ 31 by omega), nI_clamp (show n < 2 ^ 31 by omega), cpN_map, List.length_map]
  refine ⟨trivial, trivial, fun v hv => ?_, nI_pos (by omega), nI_pos (by omega), nI_pos (by omega), ha, hb, ?_⟩
  · obtain ⟨x, -, rfl⟩ := List.mem_map.mp hv
    exact ⟨x, rfl⟩
  · have e : hset (hJ (hC rs ks vs tl sc wI wL) mp) (22, k, 0) (.inr (.long, (cpN r.2.2 s.2.2 a b n).map jL)) = hJ (hC (rs.set k (s.1, s.2.1, cpN r.2.2 s.2.2 a b n)) ks vs tl sc wI wL) mp := hC_split (show 22 < 40 by decide) (by simp [hC, oCells, hl]) (fun q hq => hC_rowset (r' := (s.1, s.2.1, cpN r.2.2 s.2.2 a b n)) hk rfl rfl hq)
    rw [hs_sw (n := (30, w, 0)) (k := (22, k, 0)) (ne_fst rfl), e]
    exact H
theorem z_addTwin {b : Bool} {j : Nat} {r : RowT} (hr : rs.length < 60) (hj : rs[j]? = some r) (hc : r.2.2.length ≤ 20) (hu : r.2.2.length + 6 ≤ u) {K : Option Nm → MH → Nat → Prop} (H : K (some (21, rs.length, 0)) (hset (hJ (hC (rs ++ [(r.1, b, r.2.2)]) ks vs tl sc wI wL) mp) (30, w, 0) z) (u - (r.2.2.length + 6))) : iR (d + 3) u_X7_addTwin [jR sto, jR (some (21, j, 0)), jI (b2i b)] (hset (hJ (hC rs ks vs tl sc wI wL) mp) (30, w, 0) z) u K := by
  refine I_X7_addTwin (d := d + 2) (r.2.2.length + 6) hu ?_
  unfold F_X7_addTwin
  refine gI_raw (by rw [hs_n (ne_fst rfl)]; exact o_21 hj) rfl (gR_raw (by rw [hs_n (ne_fst rfl)]; exact o_21 hj) rfl (aN_raw (by rw [hs_n (ne_fst rfl)]; exact o_22 hj) ?_))
  rw [List.length_map]
  refine ⟨rc_raw (n := (2, 0, 0)) (by rw [hs_n (ne_fst rfl)]; rfl), z_addRow hr hc (Nat.le_refl _) ?_⟩
  refine gR_raw (by rw [hs_n (ne_fst rfl)]; exact o_21 (app_get hj)) rfl (gR_raw (by rw [hs_n (ne_fst rfl)]; exact o_21 app_len) rfl (gR_raw (by rw [hs_n (ne_fst rfl)]; exact o_21 (app_get hj)) rfl (aN_raw (by rw [hs_n (ne_fst rfl)]; exact o_22 (app_get hj)) ?_)))
  rw [List.length_map]
  refine z_cp (a := 0) (b := 0) (app_get hj) app_len (by simp) (by simp) (by omega) (by simp; omega) ?_
  rw [app_set, cpN_all rfl (by simp)]
  exact H
end Frame
