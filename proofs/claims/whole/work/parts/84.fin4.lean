section Fin4
variable {rs : List RowT} {ks : List KindT} {vs : List ValT} {tl : Nat → Nat → Nat → List Int32} {sc : Nat → Int32} {wI : Nat → List Int32} {wL : Nat → List Int64} {m : MS} {d d2 u : Nat} {v1 v2 v3 v5 v6 : Int32} {v4 : Int64} {W : Prop → Prop}
variable {cp mp h : MH}
theorem f_roomR {n : Nat} (hn : n ≤ 60) (hR : rs.length ≤ 60) {Q : Int32 → MH → Prop} : F_X7_hasRoomForRows d sto (nI n) (hJ (hC rs ks vs tl sc wI wL) mp) u Q ↔ Q (b2i (decide (rs.length + n ≤ 60))) (hJ (hC rs ks vs tl sc wI wL) mp) := by
  unfold F_X7_hasRoomForRows
  simp only [c_g2_2, nz_0, nz_1, true_and]
  have e : (60 : Int32) - nI rs.length = nI (60 - rs.length) := pk_sub (a := 60) (b := rs.length) hR
  rw [e]
  by_cases q : rs.length + n ≤ 60
  · rw [if_neg (nI_nlt (by omega) (by omega))]; simp [q, b2i]
  · rw [if_pos (nI_lt (by omega) (by omega))]; simp [q, b2i]
/-- the value that is made -/
def newV (rs : List RowT) (vs : List ValT) (j e made : Nat) (rule : Int32) (n : Nat) (L : Nat → Int32) (P : Nat → Int64) : ValT := (j, e, made, 0, (accP rs vs L P n).1, (accP rs vs L P n).2 + 1, (List.range n).map (pN rs rule L P))
theorem sArr_end {rule : Int32} {L : Nat → Int32} {P : Nat → Int64} {n j e made : Nat} : sArr rs rule L P n n = oPs (newV rs vs j e made rule n L P) := by
  unfold sArr oPs newV
  simp
theorem newV_congr {rule : Int32} {L : Nat → Int32} {P P' : Nat → Int64} {n j e made : Nat} (h : ∀ q, q < n → P' q = P q) : newV rs vs j e made rule n L P' = newV rs vs j e made rule n L P := by
  unfold newV
  rw [accP_congr n h]
  congr 6
  exact List.map_congr_left (fun q hq => pN_congr (List.mem_range.mp hq) h)
theorem s_finish {j e : Nat} {k : KindT} {t : List ET} (hR : rs.length ≤ 60) (h20 : ∀ r ∈ rs, r.2.2.length ≤ 20) (hV : vs.length < 200) (hd : vDeep vs) (hk : ks[j]? = some k) (ht : k.2.2.2.2[e]? = some t) (he : e + 1 = k.2.2.2.2.length) (h4 : k.2.2.2.2.length ≤ 4) (h6 : t.length ≤ 6) (hD : (wL 1).length = 6) (hx9 : ∀ q, q < t.length → lnT t q = 9 → refOK ((wL 1).getD q 0) rs.length) (hu : 190 ≤ u) {K : Int32 → MH → Nat → Prop}
    (H1 : 60 < rs.length + cTw rs k.2.1 (lnT t) (fun q => (wL 1).getD q 0) t.length → K (-4) (hJ (hC rs ks vs tl sc wI wL) mp) (u - 190))
    (H2 : rs.length + cTw rs k.2.1 (lnT t) (fun q => (wL 1).getD q 0) t.length ≤ 60 → ruled k.2.1 t.length (lnT t) (fun q => (wL 1).getD q 0) = none → K (-15) (hJ (hC rs ks vs tl (up (up sc 3 5) 4 (sc 4 + 1)) wI wL) mp) (u - 190))
    (H3 : rs.length + cTw rs k.2.1 (lnT t) (fun q => (wL 1).getD q 0) t.length ≤ 60 → ∀ P', ruled k.2.1 t.length (lnT t) (fun q => (wL 1).getD q 0) = some P' → ∀ l1 : List Int64, l1.length = 6 → (300 < (accP rs vs (lnT t) P' t.length).1 ∨ 8 ≤ (accP rs vs (lnT t) P' t.length).2) → K (-4) (hJ (hC rs ks vs tl (scM sc (accP rs vs (lnT t) P' t.length)) wI (up wL 1 l1)) mp) (u - 190))
    (H4 : rs.length + cTw rs k.2.1 (lnT t) (fun q => (wL 1).getD q 0) t.length ≤ 60 → ∀ P', ruled k.2.1 t.length (lnT t) (fun q => (wL 1).getD q 0) = some P' → ∀ l1 : List Int64, l1.length = 6 → (accP rs vs (lnT t) P' t.length).1 ≤ 300 → (accP rs vs (lnT t) P' t.length).2 < 8 → K (nI vs.length) (hJ (hC (rsN rs k.2.1 (lnT t) P' t.length) (ks.set j (kMade k)) (vs ++ [newV rs vs j e k.2.2.2.1 k.2.1 t.length (lnT t) P']) tl (scM sc (accP rs vs (lnT t) P' t.length)) wI (up wL 1 l1)) mp) (u - 190)) : iI (d + 6) u_X11_finish [jR br, jR (some (23, j, 0))] (hJ (hC rs ks vs tl sc wI wL) mp) u K := by
  refine I_X11_finish 190 hu ?_
  unfold F_X11_finish
  refine ⟨rc_raw (o_23 hk), s_newest (o_23 hk) (o_24 hk) (by omega) h4 ?_⟩
  rw [show k.2.2.2.2.length - 1 = e by omega]
  simp only [c_g1_0, c_g1_2]
  refine gI_raw (o_23 hk) rfl ⟨rfl, s_countTwins hR hk ht h6 hD ?_⟩
  have hcl := cTw_le (rs := rs) (rule := k.2.1) (L := lnT t) (P := fun q => (wL 1).getD q 0) t.length
  refine ⟨rfl, (f_roomR (by omega) hR).mpr ?_⟩
  by_cases r60 : rs.length + cTw rs k.2.1 (lnT t) (fun q => (wL 1).getD q 0) t.length ≤ 60
  · rw [show decide (rs.length + cTw rs k.2.1 (lnT t) (fun q => (wL 1).getD q 0) t.length ≤ 60) = true by simpa using r60, if_neg (show ¬ b2i true = 0 by decide)]
    simp only [c_g1_2]
    refine gI_raw (o_23 hk) rfl ⟨rfl, s_obeys hk ht h6 hD (fun hn => ?_) (fun P' hP l1 hl1 hl1P => ?_)⟩
    · rw [if_pos rfl]
      refine ⟨rfl, f_failed.mpr ?_⟩
      exact H2 r60 hn
    · rw [if_neg (by decide)]
      simp only [c_g1_2]
      have hP1 : ∀ q, q < t.length → (fun q => (up wL 1 l1 1).getD q 0) q = P' q := fun q hq => by rw [up_s]; exact hl1P q hq
      have hD1 : (up wL 1 l1 1).length = 6 := by rw [up_s]; exact hl1
      refine ⟨rfl, s_measure hR h20 (by omega) hd hk ht h6 hD1 ?_⟩
      rw [accP_congr t.length hP1]
      obtain ⟨b1, b2⟩ := accP_le (L := lnT t) (P := P') hd h20 t.length
      simp only [c_g1_2, c_g8_2, c_g8_3]
      have e5 : scM sc (accP rs vs (lnT t) P' t.length) 5 = nI (accP rs vs (lnT t) P' t.length).1 := by simp [scM, up]
      have e6 : scM sc (accP rs vs (lnT t) P' t.length) 6 = nI ((accP rs vs (lnT t) P' t.length).2 + 1) := by simp [scM, up]
      rw [e5, e6]
      by_cases s3 : 300 < (accP rs vs (lnT t) P' t.length).1
      · rw [if_pos (show (300 : Int32) < nI _ from nI_lt (a := 300) s3 (by omega))]
        exact H3 r60 P' hP l1 hl1 (Or.inl s3)
      · rw [if_neg (show ¬ (300 : Int32) < nI _ from nI_nlt (a := 300) (by omega) (by omega))]
        by_cases d8 : (accP rs vs (lnT t) P' t.length).2 < 8
        · rw [if_pos (show nI _ ≤ (8 : Int32) from nI_le (b := 8) (by omega) (by omega))]
          refine gI_raw (o_23 hk) rfl ⟨rfl, ?_⟩
          have hc1 : cTw rs k.2.1 (lnT t) (fun q => (up wL 1 l1 1).getD q 0) t.length = cTw rs k.2.1 (lnT t) (fun q => (wL 1).getD q 0) t.length := by
            rw [cTw_congr t.length hP1, cTw_ruled hP]
          refine I_X1_settle (d := d + 3) 170 (by omega) ?_
          unfold F_X1_settle
          refine c_cnt hk ht ?_
          refine nA_raw (30, vs.length, 0) (by omega) (by omega) o_30n (by simp) ?_
          have e0 : (Sum.inr (.long, List.replicate t.length (dflt .long)) : MC) = sArr rs k.2.1 (lnT t) (fun q => (up wL 1 l1 1).getD q 0) t.length 0 := by simp [sArr, dflt]
          rw [e0]
          refine s_settle10 (d := d + 1) hk ht h6 hD1 (by rw [hc1]; exact r60) h20 (fun q hq l9 => by
            rw [show (up wL 1 l1 1).getD q 0 = P' q from hP1 q hq, ruled_9 hP (by rw [l9]; exact w15_9)]
            exact hx9 q hq l9) ?_ t.length 0 _ (by omega) (by omega)
          rw [sArr_end (vs := vs) (j := j) (e := e) (made := k.2.2.2.1), newV_congr hP1, rsN_congr t.length hP1]
          refine gR_raw (n := (1, 0, 0)) (by rw [hs_n (ne_fst rfl)]; rfl) rfl ?_
          refine nO_raw (29, vs.length, 0) (by simp) (by rw [hs_n (ne_fst rfl)]; exact o_29n) (by simp) ?_
          refine gR_raw (n := (1, 0, 0)) (by rw [hs_n (ne_fst rfl), hs_n (ne_fst rfl)]; rfl) rfl ?_
          refine gI_raw (n := (2, 0, 0)) (by rw [hs_n (ne_fst rfl), hs_n (ne_fst rfl)]; rfl) rfl ?_
          refine gR_raw (n := (1, 0, 0)) (by rw [hs_n (ne_fst rfl), hs_n (ne_fst rfl)]; rfl) rfl ?_
          refine gI_raw (n := (8, 0, 0)) (by rw [hs_n (ne_fst rfl), hs_n (ne_fst rfl)]; rfl) rfl ?_
          refine gR_raw (n := (1, 0, 0)) (by rw [hs_n (ne_fst rfl), hs_n (ne_fst rfl)]; rfl) rfl ?_
          refine gI_raw (n := (8, 0, 0)) (by rw [hs_n (ne_fst rfl), hs_n (ne_fst rfl)]; rfl) rfl ?_
          rw [e5, e6]
          refine s_valInit (k := k) (ps := (List.range t.length).map (pN rs k.2.1 (lnT t) P')) hs_s (by rw [hs_n (ne_fst rfl), hs_n (ne_fst rfl)]; exact o_23 hk) (by rw [hs_n (ne_fst rfl), hs_n (ne_fst rfl)]; exact o_24 hk) (by omega) h4 ?_
          rw [hs_hs, show k.2.2.2.2.length - 1 = e by omega]
          refine ⟨rc_raw (n := (2, 0, 0)) (by rw [hs_n (ne_fst rfl), hs_n (ne_fst rfl)]; rfl), ?_⟩
          refine f_addValue (v := newV rs vs j e k.2.2.2.1 k.2.1 t.length (lnT t) P') (k := k) hk hV ?_
          exact H4 r60 P' hP l1 hl1 (by omega) d8
        · rw [if_neg (show ¬ nI _ ≤ (8 : Int32) from nI_ge (a := 8) (by omega) (by omega))]
          exact H3 r60 P' hP l1 hl1 (Or.inr (by omega))
  · rw [show decide (rs.length + cTw rs k.2.1 (lnT t) (fun q => (wL 1).getD q 0) t.length ≤ 60) = false by simpa using r60, if_pos (show b2i false = 0 from rfl)]
    exact H1 (by omega)
end Fin4
