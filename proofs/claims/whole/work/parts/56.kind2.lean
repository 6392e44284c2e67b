section OpKind2
variable {rs : List RowT} {ks : List KindT} {vs : List ValT} {tl : Nat → Nat → Nat → List Int32} {sc : Nat → Int32} {wI : Nat → List Int32} {wL : Nat → List Int64} {m : MS} {d d2 u : Nat} {v1 v2 v3 v5 v6 : Int32} {v4 : Int64} {W : Prop → Prop}
variable {cp mp h : MH}
theorem s_edInit {j e c : Nat} (hc : c ≤ 8) (hu : 3 * (c + 1) ≤ u) (h5 : h (25, j, e) = some (.inl (2, [jI 0, jR none, jR none, jR none, jI 0]))) (h6 : h (26, j, e) = none) (h7 : h (27, j, e) = none) (h8 : h (28, j, e) = none) {K : MH → Nat → Prop} (H : K (hset (hset (hset (hset h (26, j, e) (nArr c)) (27, j, e) (nArr c)) (28, j, e) (nArr c)) (25, j, e) (.inl (2, [jI (nI e), jR (some (26, j, e)), jR (some (27, j, e)), jR (some (28, j, e)), jI 0]))) (u - 3 * (c + 1))) : iV (d + 1) u_X2_init [jR (some (25, j, e)), jI (nI e), jI (nI c)] h u K := by
  refine I_X2_init (3 * (c + 1)) hu ?_
  unfold F_X2_init
  refine nn_in (pV_raw h5 ?_)
  refine nA_raw (26, j, e) (by omega) (by omega) (by rw [hs_n (ne_fst rfl)]; exact h6) (by simp) ?_
  refine pV_raw (by rw [hs_n (ne_fst rfl), hs_s]) ?_
  refine nA_raw (27, j, e) (by omega) (by omega) (by rw [hs_n (ne_fst rfl), hs_n (ne_fst rfl), hs_n (ne_fst rfl)]; exact h7) (by simp) ?_
  refine pV_raw (by rw [hs_n (ne_fst rfl), hs_s]) ?_
  refine nA_raw (28, j, e) (by omega) (by omega) (by rw [hs_n (ne_fst rfl), hs_n (ne_fst rfl), hs_n (ne_fst rfl), hs_n (ne_fst rfl), hs_n (ne_fst rfl)]; exact h8) (by simp) ?_
  refine pV_raw (by rw [hs_n (ne_fst rfl), hs_s]) ?_
  refine cast (congrArg (fun z => K z (u - 3 * (c + 1))) ?_) H
  funext k
  unfold hset
  by_cases a : k = (25, j, e)
  · subst a; simp
  · by_cases b : k = (26, j, e)
    · subst b; simp [nArr, dflt]
    · by_cases b7 : k = (27, j, e)
      · subst b7; simp [nArr, dflt]
      · by_cases b8 : k = (28, j, e)
        · subst b8; simp [nArr, dflt]
        · simp [a, b, b7, b8]
def cK (b : Bool) : Nat := if b then 8 else 6
def gKind (h : MH) (n : Nat) (b : Bool) (w : Int32) : MH := hset (hset (hset (hset (hset (hset h (26, n, 0) (nArr (cK b))) (27, n, 0) (nArr (cK b))) (28, n, 0) (nArr (cK b))) (25, n, 0) (nEd n (cK b))) (24, n, 0) (.inr (.object "RecordBridge$Edition", [jR (some (25, n, 0)), jR none, jR none, jR none]))) (23, n, 0) (.inl (3, [jI (nI n), jI (b2i b), jI w, jR (some (24, n, 0)), jI 1, jI 0, jI 0]))
theorem s_kindInit {n : Nat} {b : Bool} {w : Int32} (hu : 60 ≤ u) (h3 : h (23, n, 0) = some (.inl (3, [jI 0, jI 0, jI 0, jR none, jI 0, jI 0, jI 0]))) (h4 : h (24, n, 0) = none) (h5 : h (25, n, 0) = none) (h6 : h (26, n, 0) = none) (h7 : h (27, n, 0) = none) (h8 : h (28, n, 0) = none) {K : MH → Nat → Prop} (H : K (gKind h n b w) (u - 60)) : iV (d + 2) u_X3_init [jR (some (23, n, 0)), jI (nI n), jI (b2i b), jI w] h u K := by
  have hc : cK b ≤ 8 := by unfold cK; split <;> omega
  refine I_X3_init (d := d + 1) 60 hu ?_
  unfold F_X3_init
  refine nn_in (pV_raw h3 ⟨nz_b2i b, pV_raw hs_s (pV_raw hs_s ?_)⟩)
  refine nA_raw (len := 4) (24, n, 0) (by omega) (by omega) (by rw [hs_n (ne_fst rfl), hs_n (ne_fst rfl), hs_n (ne_fst rfl)]; exact h4) (by simp) ?_
  refine pV_raw (by rw [hs_n (ne_fst rfl), hs_s]) ?_
  refine gR_raw hs_s rfl ?_
  refine nO_raw (25, n, 0) (by simp) (by rw [hs_n (ne_fst rfl), hs_n (ne_fst rfl), hs_n (ne_fst rfl), hs_n (ne_fst rfl), hs_n (ne_fst rfl)]; exact h5) (by simp) ?_
  have key : ∀ u2, 30 ≤ u2 → ∀ hh, hh (25, n, 0) = some (.inl (2, [jI 0, jR none, jR none, jR none, jI 0])) → hh (26, n, 0) = none → hh (27, n, 0) = none → hh (28, n, 0) = none → hh (24, n, 0) = some (.inr (.object "RecordBridge$Edition", List.replicate 4 (jR none))) → hh (23, n, 0) = some (.inl (3, [jI (nI n), jI (b2i b), jI w, jR (some (24, n, 0)), jI 0, jI 0, jI 0])) → (∀ k, k ≠ (23, n, 0) → k ≠ (24, n, 0) → k ≠ (25, n, 0) → hh k = h k) → F_X3_init_48 (d + 1) (some (23, n, 0)) (some (24, n, 0)) 0 (some (25, n, 0)) (some (25, n, 0)) 0 (nI (cK b)) hh u2 (fun h2 => K h2 (u - 60)) := by
    intro u2 hu2 hh q5 q6 q7 q8 q4 q3 qq
    unfold F_X3_init_48
    refine nn_in (s_edInit (d := d) (e := 0) hc (by omega) q5 q6 q7 q8 ?_)
    refine ⟨rc_raw hs_s, sV_raw (i := 0) (by rw [hs_n (ne_fst rfl), hs_n (ne_fst rfl), hs_n (ne_fst rfl), hs_n (ne_fst rfl)]; exact q4) (by simp) (by omega) ?_⟩
    refine pV_raw (by rw [hs_n (ne_fst rfl), hs_n (ne_fst rfl), hs_n (ne_fst rfl), hs_n (ne_fst rfl), hs_n (ne_fst rfl)]; exact q3) ?_
    refine cast (congrArg (fun z => K z (u - 60)) ?_) H
    funext k
    unfold gKind hset
    by_cases a3 : k = (23, n, 0)
    · subst a3; simp
    · by_cases a4 : k = (24, n, 0)
      · subst a4; simp [List.replicate]
      · by_cases a5 : k = (25, n, 0)
        · subst a5; simp [nEd, nI_0]
        · simp [a3, a4, a5, qq k a3 a4 a5]
  have key2 := key 49 (by omega) (hset (hset (hset (hset (hset (hset h (23, n, 0) (.inl (3, [jI 0, jI 0, jI 0, jR none, jI 0, jI 0, jI 0].set 0 (jI (nI n))))) (23, n, 0) (.inl (3, ([jI 0, jI 0, jI 0, jR none, jI 0, jI 0, jI 0].set 0 (jI (nI n))).set 1 (jI (b2i b))))) (23, n, 0) (.inl (3, (([jI 0, jI 0, jI 0, jR none, jI 0, jI 0, jI 0].set 0 (jI (nI n))).set 1 (jI (b2i b))).set 2 (jI w)))) (24, n, 0) (.inr (.object "RecordBridge$Edition", List.replicate 4 (dflt (.object "RecordBridge$Edition"))))) (23, n, 0) (.inl (3, ((([jI 0, jI 0, jI 0, jR none, jI 0, jI 0, jI 0].set 0 (jI (nI n))).set 1 (jI (b2i b))).set 2 (jI w)).set 3 (jR (some (24, n, 0)))))) (25, n, 0) (.inl (2, [jI 0, jR none, jR none, jR none, jI 0]))) hs_s (by simp [hset, h6]) (by simp [hset, h7]) (by simp [hset, h8]) (by simp [hset, dflt]) (by simp [hset]) (fun k a3 a4 a5 => by simp [hset, a3, a4, a5])
  cases b
  · rw [if_pos (show b2i false = 0 from rfl)]
    exact key2
  · rw [if_neg (show ¬ b2i true = 0 by decide)]
    exact key2
theorem c16_lt {n : Nat} (h : n < 16) : nI n < 16 := by rw [show (16 : Int32) = nI 16 by decide]; exact nI_lt h (by omega)
theorem s_newKind {b : Bool} {w : Int32} (hk : ks.length ≤ 16) (hu : 200 ≤ u) {K : Int32 → MH → Nat → Prop} (H1 : ks.length = 16 → K (-4) (hJ (hC rs ks vs tl sc wI wL) mp) (u - 200)) (H2 : ks.length < 16 → K (nI ks.length) (hJ (hC rs (ks ++ [(b, w, false, 0, [[]])]) vs (tlN tl ks.length (cK b)) sc wI wL) mp) (u - 200)) : iI (d + 3) u_X11_newKind [jR br, jI (b2i b), jI w] (hJ (hC rs ks vs tl sc wI wL) mp) u K := by
  have o0 : ks[ks.length]? = none := by simp
  refine I_X11_newKind (d := d + 2) 200 hu ?_
  unfold F_X11_newKind
  simp only [c_g1_8, c_g1_5]
  by_cases q : ks.length < 16
  · rw [if_pos (c16_lt q)]
    refine nO_raw (23, ks.length, 0) (by simp) (by show Option.map _ (ks[ks.length]?) = none; rw [o0]; rfl) (by simp) ?_
    refine gI_raw (n := (1, 0, 0)) (by rw [hs_n (ne_fst rfl)]; rfl) rfl ?_
    refine s_kindInit (by simp) hs_s (by rw [hs_n (ne_fst rfl)]; show Option.map _ (ks[ks.length]?) = none; rw [o0]; rfl) (by rw [hs_n (ne_fst rfl)]; show Option.bind (ks[ks.length]?) _ = none; rw [o0]; rfl) (by rw [hs_n (ne_fst rfl)]; show Option.bind (ks[ks.length]?) _ = none; rw [o0]; rfl) (by rw [hs_n (ne_fst rfl)]; show Option.bind (ks[ks.length]?) _ = none; rw [o0]; rfl) (by rw [hs_n (ne_fst rfl)]; show Option.bind (ks[ks.length]?) _ = none; rw [o0]; rfl) ?_
    have e1 : ∀ a : Nm, a.1 < 23 → gKind (hset (hJ (hC rs ks vs tl sc wI wL) mp) (23, ks.length, 0) (.inl (3, [jI 0, jI 0, jI 0, jR none, jI 0, jI 0, jI 0]))) ks.length b w a = (hJ (hC rs ks vs tl sc wI wL) mp) a := by
      intro a ha
      unfold gKind
      rw [hs_n (fun z => by rw [z] at ha; exact absurd ha (by simp)), hs_n (fun z => by rw [z] at ha; exact absurd ha (by simp)), hs_n (fun z => by rw [z] at ha; exact absurd ha (by simp)), hs_n (fun z => by rw [z] at ha; exact absurd ha (by simp)), hs_n (fun z => by rw [z] at ha; exact absurd ha (by simp)), hs_n (fun z => by rw [z] at ha; exact absurd ha (by simp)), hs_n (fun z => by rw [z] at ha; exact absurd ha (by simp))]
    refine ⟨rc_raw hs_s, sV_raw (by rw [e1 _ (by decide)]; rfl) (by rw [refs_len]; exact q) (by omega) ?_⟩
    refine gI_raw (n := (1, 0, 0)) (by rw [hs_n (by decide), e1 _ (by decide)]; rfl) rfl ?_
    refine pV_raw (by rw [hs_n (by decide), e1 _ (by decide)]; rfl) ?_
    refine gI_raw (n := (1, 0, 0)) hs_s rfl ?_
    have e2 := hC_kind (rs := rs) (vs := vs) (tl := tl) (sc := sc) (wI := wI) (wL := wL) (mp := mp) (b := b) (w := w) (c := cK b) q
    rw [show nI ks.length + 1 - 1 = nI ks.length by rw [nI_1, nI_pred]]
    refine cast (congrArg (fun z => K (nI ks.length) z (u - 200)) ?_) (H2 q)
    rw [← e2]
    funext k
    unfold gKind hset
    by_cases a : k = (23, ks.length, 0)
    · subst a; simp
    · simp [a]
  · rw [if_neg (by rw [show (16 : Int32) = nI 16 by decide]; exact nI_nlt (by omega) (by omega))]
    exact H1 (by omega)
end OpKind2
