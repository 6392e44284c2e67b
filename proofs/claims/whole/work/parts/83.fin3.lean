section Fin3
variable {rs : List RowT} {ks : List KindT} {vs : List ValT} {tl : Nat → Nat → Nat → List Int32} {sc : Nat → Int32} {wI : Nat → List Int32} {wL : Nat → List Int64} {m : MS} {d d2 u : Nat} {v1 v2 v3 v5 v6 : Int32} {v4 : Int64} {W : Prop → Prop}
variable {cp mp h : MH} {w : Nat} {z : MC}
theorem refs_at {cap a n j : Nat} (h : j < n) (h2 : j < cap) : (refs cap a n)[j]? = some (jR (some (a, j, 0))) := by
  unfold refs
  rw [List.getElem?_map, List.getElem?_range h2]
  simp [h]
theorem z_findRow (hR : rs.length ≤ 60) {x : Int64} {Q : Option Nm → MH → Prop} (H : Q ((ixL x rs.length).map (fun j => (21, j, 0))) (hset (hJ (hC rs ks vs tl sc wI wL) mp) (30, w, 0) z)) : F_X7_findRow d sto x (hset (hJ (hC rs ks vs tl sc wI wL) mp) (30, w, 0) z) u Q := by
  unfold F_X7_findRow
  simp only [lg_cmp_lt, lg_cmp_ge, lt64_0]
  by_cases a : x.toInt < 0
  · rw [if_pos a]
    unfold ixL at H
    rw [if_neg (by omega)] at H
    exact H
  · rw [if_neg a]
    refine gI_raw (n := (2, 0, 0)) (by rw [hs_n (ne_fst rfl)]; rfl) rfl ?_
    simp only [le64_n x (show rs.length < 2 ^ 31 by omega)]
    by_cases b : (rs.length : Int) ≤ x.toInt
    · rw [if_pos b]
      unfold ixL at H
      rw [if_neg (by omega)] at H
      exact H
    · rw [if_neg b]
      obtain ⟨j, hj⟩ : ∃ j : Nat, x.toInt = j := ⟨x.toInt.toNat, by omega⟩
      refine gR_raw (n := (2, 0, 0)) (by rw [hs_n (ne_fst rfl)]; rfl) rfl ?_
      rw [l2i_nat hj (by omega)]
      unfold ixL at H
      rw [if_pos (show 0 ≤ x.toInt ∧ x.toInt < (rs.length : Int) by omega), hj] at H
      refine aR_raw (n := (3, 0, 0)) (by rw [hs_n (ne_fst rfl)]; rfl) (by omega) (refs_at (by omega) (by omega)) ?_
      simpa using H
theorem z_rowOf {j e q : Nat} {k : KindT} {t : List ET} (hR : rs.length ≤ 60) (hk : ks[j]? = some k) (ht : k.2.2.2.2[e]? = some t) (h6 : t.length ≤ 6) (hD : (wL 1).length = 6) (hq : q < t.length) {Q : Option Nm → MH → Prop} (H : Q (rwo rs (lnT t q) ((wL 1).getD q 0)) (hset (hJ (hC rs ks vs tl sc wI wL) mp) (30, w, 0) z)) : F_X1_rowOf d (some (8, 0, 0)) (some (25, j, e)) (nI q) (hset (hJ (hC rs ks vs tl sc wI wL) mp) (30, w, 0) z) u Q := by
  unfold F_X1_rowOf
  obtain ⟨x, hx⟩ := get_lt hq
  refine gR_raw (by rw [hs_n (ne_fst rfl)]; exact o_25 hk ht) rfl (aI_raw (x := lnT t q) (by rw [hs_n (ne_fst rfl)]; exact o_27 hk ht) (by omega) (by rw [lnT_at hx]; exact mapJ_at hx) ?_)
  unfold rwo at H
  by_cases l9 : lnT t q = 9
  · rw [if_pos l9] at H ⊢
    refine gR_raw (n := (8, 0, 0)) (by rw [hs_n (ne_fst rfl)]; rfl) rfl (gR_raw (n := (8, 0, 0)) (by rw [hs_n (ne_fst rfl)]; rfl) rfl ?_)
    obtain ⟨y, hy⟩ := get_lt (show q < (wL 1).length by omega)
    refine aL_raw (x := (wL 1).getD q 0) (n := (9, 0, 0)) (by rw [hs_n (ne_fst rfl)]; rfl) (by omega) (by rw [List.getElem?_map, hy]; simp [List.getD_eq_getElem?_getD, hy]) ?_
    exact ⟨rc_raw (n := (2, 0, 0)) (by rw [hs_n (ne_fst rfl)]; rfl), z_findRow hR H⟩
  · rw [if_neg l9] at H ⊢; exact H
theorem z_needs {rule l : Int32} {x : Int64} {Q : Int32 → MH → Prop} (H : Q (b2i (twn rs rule l x).isSome) (hset (hJ (hC rs ks vs tl sc wI wL) mp) (30, w, 0) z)) : F_X1_needsTwin d (rwo rs l x) rule (hset (hJ (hC rs ks vs tl sc wI wL) mp) (30, w, 0) z) u Q := by
  unfold F_X1_needsTwin
  unfold twn at H
  unfold rwo
  by_cases l9 : l = 9
  · rw [if_pos l9] at H ⊢
    rcases hx : ixL x rs.length with _ | r
    · rw [hx] at H
      exact ⟨nz_0, H⟩
    · obtain ⟨row, hr⟩ := get_lt (ixL_some hx).1
      rw [hx] at H
      simp only [hr] at H
      rw [Option.map_some, nl_some]
      refine gI_raw (by rw [hs_n (ne_fst rfl)]; exact o_21 hr) rfl ?_
      cases hb : row.2.1
      · rw [if_pos (show b2i false = 0 from rfl)]
        refine gI_raw (by rw [hs_n (ne_fst rfl)]; exact o_21 hr) rfl ?_
        by_cases a : row.1 = 8
        · rw [if_pos a]
          rw [if_pos ⟨hb, Or.inl a⟩] at H
          exact ⟨nz_1, H⟩
        · rw [if_neg a]
          by_cases b : rule = 4
          · rw [if_pos b]
            rw [if_pos ⟨hb, Or.inr b⟩] at H
            exact ⟨nz_1, H⟩
          · rw [if_neg b]
            rw [if_neg (fun y => by rcases y.2 with y | y; exact a y; exact b y)] at H
            exact ⟨nz_0, H⟩
      · rw [if_neg (show ¬ b2i true = 0 by decide)]
        rw [if_neg (fun y => by rw [hb] at y; exact absurd y.1 (by decide))] at H
        exact ⟨nz_0, H⟩
  · rw [if_neg l9] at H ⊢
    exact ⟨nz_0, H⟩
def sArr (rs : List RowT) (rule : Int32) (L : Nat → Int32) (P : Nat → Int64) (n q : Nat) : MC := .inr (.long, ((List.range q).map (pN rs rule L P) ++ List.replicate (n - q) 0).map jL)
theorem sArr_set {rule : Int32} {L : Nat → Int32} {P : Nat → Int64} {n q : Nat} (hq : q < n) : (Sum.inr (.long, (((List.range q).map (pN rs rule L P) ++ List.replicate (n - q) (0 : Int64)).map jL).set q (jL (pN rs rule L P q))) : MC) = sArr rs rule L P n (q + 1) := by
  unfold sArr
  congr 2
  rw [← List.map_set]
  congr 1
  rw [List.set_append, if_neg (by simp), List.length_map, List.length_range, Nat.sub_self, show n - q = (n - (q + 1)) + 1 by omega, List.replicate_succ, List.set_cons_zero, List.range_succ, List.map_append]
  simp
theorem s_settle10 {j e : Nat} {k : KindT} {t : List ET} {rule : Int32} (hk : ks[j]? = some k) (ht : k.2.2.2.2[e]? = some t) (h6 : t.length ≤ 6) (hD : (wL 1).length = 6) (hR : rs.length + cTw rs rule (lnT t) (fun q => (wL 1).getD q 0) t.length ≤ 60) (h20 : ∀ r ∈ rs, r.2.2.length ≤ 20) (hx9 : ∀ q, q < t.length → lnT t q = 9 → refOK ((wL 1).getD q 0) rs.length) {Q : Option Nm → MH → Prop} (H : Q (some (30, w, 0)) (hset (hJ (hC (rsN rs rule (lnT t) (fun q => (wL 1).getD q 0) t.length) ks vs tl sc wI wL) mp) (30, w, 0) (sArr rs rule (lnT t) (fun q => (wL 1).getD q 0) t.length t.length))) : ∀ r q u : Nat, q + r = t.length → 26 * r ≤ u → L_X1_settle_10 (d + 2) (some (8, 0, 0)) (some (25, j, e)) rule (some (30, w, 0)) (nI q) (hset (hJ (hC (rsN rs rule (lnT t) (fun q => (wL 1).getD q 0) q) ks vs tl sc wI wL) mp) (30, w, 0) (sArr rs rule (lnT t) (fun q => (wL 1).getD q 0) t.length q)) u Q := by
  have mono : ∀ r q, cTw rs rule (lnT t) (fun q => (wL 1).getD q 0) q ≤ cTw rs rule (lnT t) (fun q => (wL 1).getD q 0) (q + r) := by
    intro r
    induction r with
    | zero => intro q; exact Nat.le_refl _
    | succ r ih => intro q; have := ih q; rw [← Nat.add_assoc, cTw]; omega
  intro r
  induction r with
  | zero =>
    intro q u hq hu
    have : q = t.length := by omega
    subst this
    unfold L_X1_settle_10
    refine E_X1_settle_10 ?_
    unfold F_X1_settle_10
    refine gI_raw (by rw [hs_n (ne_fst rfl)]; exact o_25 hk ht) rfl ?_
    rw [if_pos (nI_le (Nat.le_refl _) (by omega))]
    exact H
  | succ r ih =>
    intro q u hq hu
    have hlen := rsN_len (rs := rs) (rule := rule) (L := lnT t) (P := fun q => (wL 1).getD q 0) q
    have hm := mono (r + 1) q
    rw [hq] at hm
    have htw := twn_ext (rs := rs) (rule := rule) (l := lnT t q) (x := (wL 1).getD q 0) (rs2 := rsN rs rule (lnT t) (fun q => (wL 1).getD q 0) q) (hx9 q (by omega)) (by omega) (by omega) (fun r row hr => rsN_get hr q)
    unfold L_X1_settle_10
    refine E_X1_settle_10 ?_
    unfold F_X1_settle_10
    refine gI_raw (by rw [hs_n (ne_fst rfl)]; exact o_25 hk ht) rfl ?_
    rw [if_neg (nI_ge (by omega) (by omega))]
    refine ⟨rc_raw (n := (8, 0, 0)) (by rw [hs_n (ne_fst rfl)]; rfl), z_rowOf (by omega) hk ht h6 hD (by omega) (z_needs ?_)⟩
    rw [htw]
    have ihn := ih (q + 1)
    rcases hT : twn rs rule (lnT t q) ((wL 1).getD q 0) with _ | y
    · rw [if_pos (show b2i (none : Option (Nat × RowT)).isSome = 0 from rfl)]
      have e1 : pN rs rule (lnT t) (fun q => (wL 1).getD q 0) q = (wL 1).getD q 0 := by unfold pN; rw [hT]
      have e2 : rsN rs rule (lnT t) (fun q => (wL 1).getD q 0) (q + 1) = rsN rs rule (lnT t) (fun q => (wL 1).getD q 0) q := by rw [rsN, hT]
      obtain ⟨y, hy⟩ := get_lt (show q < (wL 1).length by omega)
      refine gR_raw (n := (8, 0, 0)) (by rw [hs_n (ne_fst rfl)]; rfl) rfl (aL_raw (x := (wL 1).getD q 0) (n := (9, 0, 0)) (by rw [hs_n (ne_fst rfl)]; rfl) (by omega) (by rw [List.getElem?_map, hy]; simp [List.getD_eq_getElem?_getD, hy]) ?_)
      refine sV_raw hs_s (by simp; omega) (by omega) ?_
      have := ihn u (by omega) (by omega)
      rw [e2, ← sArr_set (by omega), e1] at this
      rw [hs_hs, nI_1]
      exact this
    · rw [if_neg (show ¬ b2i (some y).isSome = 0 from (by decide : ¬ b2i true = 0))]
      obtain ⟨y1, y2, y3, y4, y5⟩ := twn_some hT
      have y3' := rsN_get (rule := rule) (L := lnT t) (P := fun q => (wL 1).getD q 0) y3 q
      have yl := h20 y.2 (List.mem_of_getElem? y3)
      have hcnt : cTw rs rule (lnT t) (fun q => (wL 1).getD q 0) (q + 1) = cTw rs rule (lnT t) (fun q => (wL 1).getD q 0) q + 1 := by rw [cTw, hT]; rfl
      have hm2 := mono r (q + 1)
      rw [show q + 1 + r = t.length by omega] at hm2
      have e1 : pN rs rule (lnT t) (fun q => (wL 1).getD q 0) q = lN (rsN rs rule (lnT t) (fun q => (wL 1).getD q 0) q).length := by unfold pN; rw [hT]
      have e2 : rsN rs rule (lnT t) (fun q => (wL 1).getD q 0) (q + 1) = rsN rs rule (lnT t) (fun q => (wL 1).getD q 0) q ++ [(y.2.1, decide (y.2.1 = 8), y.2.2.2)] := by rw [rsN, hT]
      have er : rwo (rsN rs rule (lnT t) (fun q => (wL 1).getD q 0) q) (lnT t q) ((wL 1).getD q 0) = some (21, y.1, 0) := by
        unfold rwo
        rw [if_pos y1, ixL_ref (hx9 q (by omega) y1) (by omega) (by omega), y2]
        rfl
      rw [er]
      refine gR_raw (n := (8, 0, 0)) (by rw [hs_n (ne_fst rfl)]; rfl) rfl (gI_raw (by rw [hs_n (ne_fst rfl)]; exact o_21 y3') rfl ?_)
      have s61 : F_X1_settle_61 (d + 2) (some (8, 0, 0)) (some (25, j, e)) rule (some (30, w, 0)) (nI q) (some (30, w, 0)) (nI q) sto (some (21, y.1, 0)) (b2i (decide (y.2.1 = 8))) (hset (hJ (hC (rsN rs rule (lnT t) (fun q => (wL 1).getD q 0) q) ks vs tl sc wI wL) mp) (30, w, 0) (sArr rs rule (lnT t) (fun q => (wL 1).getD q 0) t.length q)) u Q := by
        unfold F_X1_settle_61
        refine ⟨rc_raw (n := (2, 0, 0)) (by rw [hs_n (ne_fst rfl)]; rfl), z_addTwin (by omega) y3' yl (by omega) ?_⟩
        refine gI_raw (by rw [hs_n (ne_fst rfl)]; exact o_21 app_len) rfl ?_
        refine sV_raw hs_s (by simp; omega) (by omega) ?_
        have := ihn (u - (y.2.2.2.length + 6)) (by omega) (by omega)
        rw [e2, ← sArr_set (by omega), e1] at this
        rw [hs_hs, nI_1, nI_64 (by omega)]
        exact this
      by_cases y8 : y.2.1 = 8
      · rw [if_pos y8]
        rw [show b2i (decide (y.2.1 = 8)) = 1 by simp [y8, b2i]] at s61
        exact s61
      · rw [if_neg y8]
        rw [show b2i (decide (y.2.1 = 8)) = 0 by simp [y8, b2i]] at s61
        exact s61
theorem ruled_9 {rule : Int32} {n : Nat} {L : Nat → Int32} {P P' : Nat → Int64} (h : ruled rule n L P = some P') {q : Nat} (hq : ¬ wi (L q) 1 5 = true) : P' q = P q := by
  unfold ruled at h
  by_cases r1 : rule = 1
  · rw [if_pos r1] at h
    split at h <;> cases h
    rfl
  · rw [if_neg r1] at h
    by_cases r2 : rule = 2
    · rw [if_pos r2] at h
      split at h
      · rename_i hf
        cases h
        unfold fallN at hf
        simp only [Bool.and_eq_true, decide_eq_true_eq] at hf
        unfold exP
        rw [if_neg (fun z => by rw [z] at hq; exact hq hf.1.1.2), if_neg (fun z => by rw [z] at hq; exact hq hf.1.2)]
      · cases h; rfl
    · rw [if_neg r2] at h
      by_cases r3 : rule = 3
      · rw [if_pos r3] at h
        split at h <;> cases h
        rfl
      · rw [if_neg r3] at h
        cases h; rfl
theorem w15_9 : ¬ wi (9 : Int32) 1 5 = true := by decide
theorem w15_8 : ¬ wi (8 : Int32) 1 5 = true := by decide
theorem twn_ruled {rule : Int32} {n : Nat} {L : Nat → Int32} {P P' : Nat → Int64} (h : ruled rule n L P = some P') (q : Nat) : twn rs rule (L q) (P' q) = twn rs rule (L q) (P q) := by
  by_cases l9 : L q = 9
  · rw [ruled_9 h (by rw [l9]; exact w15_9)]
  · unfold twn; rw [if_neg l9, if_neg l9]
theorem cTw_ruled {rule : Int32} {n : Nat} {L : Nat → Int32} {P P' : Nat → Int64} (h : ruled rule n L P = some P') : ∀ q, cTw rs rule L P' q = cTw rs rule L P q
  | 0 => rfl
  | q + 1 => by rw [cTw, cTw, cTw_ruled h q, twn_ruled h q]
theorem cTw_congr {rule : Int32} {L : Nat → Int32} {P P' : Nat → Int64} : ∀ n, (∀ q, q < n → P' q = P q) → cTw rs rule L P' n = cTw rs rule L P n
  | 0, _ => rfl
  | n + 1, h => by rw [cTw, cTw, cTw_congr n (fun q hq => h q (by omega)), h n (by omega)]
theorem rsN_congr {rule : Int32} {L : Nat → Int32} {P P' : Nat → Int64} : ∀ n, (∀ q, q < n → P' q = P q) → rsN rs rule L P' n = rsN rs rule L P n
  | 0, _ => rfl
  | n + 1, h => by rw [rsN, rsN, rsN_congr n (fun q hq => h q (by omega)), h n (by omega)]
theorem pN_congr {rule : Int32} {L : Nat → Int32} {P P' : Nat → Int64} {n q : Nat} (hq : q < n) (h : ∀ q, q < n → P' q = P q) : pN rs rule L P' q = pN rs rule L P q := by
  unfold pN
  rw [rsN_congr q (fun p hp => h p (by omega)), h q hq]
theorem accP_congr {L : Nat → Int32} {P P' : Nat → Int64} : ∀ n, (∀ q, q < n → P' q = P q) → accP rs vs L P' n = accP rs vs L P n
  | 0, _ => rfl
  | n + 1, h => by rw [accP, accP, accP_congr n (fun q hq => h q (by omega)), h n (by omega)]
end Fin3
