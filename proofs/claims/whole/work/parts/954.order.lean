section Order
variable {rs : List RowT} {ks : List KindT} {vs : List ValT} {tl : Nat → Nat → Nat → List Int32} {sc : Nat → Int32} {wI : Nat → List Int32} {wL : Nat → List Int64} {m : MS} {d d2 u : Nat} {v1 v2 v3 v5 v6 : Int32} {v4 : Int64} {W : Prop → Prop}
variable {cp mp h : MH}
def lsf (a b : Int64) : Int32 := if a = b then 0 else if b ≤ a then 1 else -1
theorem f_lsf {a b : Int64} {Q : Int32 → MH → Prop} : F_X0_lesserFirst d a b h u Q ↔ Q (lsf a b) h := by
  unfold F_X0_lesserFirst lsf
  simp only [lg_cmp_eq, lg_cmp_ge]
  by_cases e : a = b
  · rw [if_pos e, if_pos e]
  · rw [if_neg e, if_neg e]
    by_cases l : b ≤ a
    · rw [if_pos l, if_pos l]
    · rw [if_neg l, if_neg l]
theorem lsf_self {a : Int64} : lsf a a = 0 := if_pos rfl
def rnk (l : Int32) (x : Int64) : Int64 := if (l = 6 ∨ l = 7) ∧ ¬ 0 ≤ x then x ^^^ 9223372036854775807 else x
theorem f_rank {l : Int32} {x : Int64} {Q : Int64 → MH → Prop} : F_X4_rank d l x h u Q ↔ Q (rnk l x) h := by
  unfold F_X4_rank F_X4_rank_12 F_X4_rank_17 rnk
  simp only [lg_cmp_ge]
  by_cases l6 : l = 6
  · by_cases x0 : 0 ≤ x <;> simp [l6, x0]
  · by_cases l7 : l = 7
    · by_cases x0 : 0 ≤ x <;> simp [l7, x0]
    · simp [l6, l7]
def cN (l : Int32) (a b : Int64) : Int32 := lsf (rnk l a) (rnk l b)
def cG (f : Int64 → Int64 → Int32) (l : Int32) (a b : Int64) : Int32 := if l = 8 then f a b else cN l a b
def cRows (f : Int64 → Int64 → Int32) (ra rb : RowT) : Int32 := if lsf ra.1.toInt64 rb.1.toInt64 = 0 then (if firstF (fun c => cG f ra.1 (ra.2.2.getD c 0) (rb.2.2.getD c 0)) (min ra.2.2.length rb.2.2.length) 0 = 0 then lsf (nI ra.2.2.length).toInt64 (nI rb.2.2.length).toInt64 else firstF (fun c => cG f ra.1 (ra.2.2.getD c 0) (rb.2.2.getD c 0)) (min ra.2.2.length rb.2.2.length) 0) else lsf ra.1.toInt64 rb.1.toInt64
def cRef (rs : List RowT) (f : Int64 → Int64 → Int32) (x y : Int64) : Int32 := match ixL x rs.length, ixL y rs.length with
  | some r, some s => (match rs[r]?, rs[s]? with
    | some ra, some rb => cRows f ra rb
    | _, _ => 0)
  | none, some _ => -1
  | some _, none => 1
  | none, none => 0
def cAny (rs : List RowT) (f : Int64 → Int64 → Int32) (l : Int32) (x y : Int64) : Int32 := if l = 8 then f x y else if l = 9 then cRef rs f x y else cN l x y
def cRec (rs : List RowT) (f : Int64 → Int64 → Int32) (t : List ET) (v w : ValT) : Nat → Int32 := fun q => cAny rs f (lnT t q) (v.2.2.2.2.2.2.getD q 0) (w.2.2.2.2.2.2.getD q 0)
def cVV (rs : List RowT) (ks : List KindT) (f : Int64 → Int64 → Int32) (v w : ValT) : Int32 := if lsf (nI v.1).toInt64 (nI w.1).toInt64 = 0 then (if lsf (nI v.2.1).toInt64 (nI w.2.1).toInt64 = 0 then (match ks[v.1]? with
  | some k => if k.1 = true then lsf (nI v.2.2.1).toInt64 (nI w.2.2.1).toInt64 else (match k.2.2.2.2[v.2.1]? with
    | some t => firstF (cRec rs f t v w) t.length 0
    | none => 0)
  | none => 0) else lsf (nI v.2.1).toInt64 (nI w.2.1).toInt64) else lsf (nI v.1).toInt64 (nI w.1).toInt64
def cVal (rs : List RowT) (ks : List KindT) (vs : List ValT) : Nat → Int64 → Int64 → Int32
  | 0, x, y => (match ixL x vs.length, ixL y vs.length with
    | some _, some _ => 0
    | none, some _ => -1
    | some _, none => 1
    | none, none => 0)
  | n + 1, x, y => (match ixL x vs.length, ixL y vs.length with
    | some i, some j => (match vs[i]?, vs[j]? with
      | some v, some w => cVV rs ks (cVal rs ks vs n) v w
      | _, _ => 0)
    | none, some _ => -1
    | some _, none => 1
    | none, none => 0)
/-! nothing differs from itself -/
theorem firstF_all0 {g : Nat → Int32} (h : ∀ q, g q = 0) : ∀ r q, firstF g r q = 0
  | 0, _ => rfl
  | r + 1, q => by rw [firstF_s, if_pos (h q)]; exact firstF_all0 h r (q + 1)
theorem cG_self {f : Int64 → Int64 → Int32} (hf : ∀ x, f x x = 0) {l : Int32} {a : Int64} : cG f l a a = 0 := by
  unfold cG cN
  split
  · exact hf a
  · exact lsf_self
theorem cRows_self {f : Int64 → Int64 → Int32} (hf : ∀ x, f x x = 0) {ra : RowT} : cRows f ra ra = 0 := by
  unfold cRows
  rw [if_pos lsf_self, if_pos (firstF_all0 (fun q => cG_self hf) _ _), lsf_self]
theorem cRef_self {f : Int64 → Int64 → Int32} (hf : ∀ x, f x x = 0) {x : Int64} : cRef rs f x x = 0 := by
  unfold cRef
  rcases ixL x rs.length with _ | r
  · rfl
  · simp only
    cases rs[r]? with
    | none => rfl
    | some ra => exact cRows_self hf
theorem cVal_self : ∀ n x, cVal rs ks vs n x x = 0
  | 0, x => by
    rw [cVal]
    rcases ixL x vs.length with _ | i <;> rfl
  | n + 1, x => by
    have ih := cVal_self n
    rw [cVal]
    rcases ixL x vs.length with _ | i
    · rfl
    · simp only
      cases vs[i]? with
      | none => rfl
      | some v =>
        simp only
        unfold cVV
        rw [if_pos lsf_self, if_pos lsf_self]
        cases ks[v.1]? with
        | none => rfl
        | some k =>
          simp only
          split
          · exact lsf_self
          · cases k.2.2.2.2[v.2.1]? with
            | none => rfl
            | some t =>
              refine firstF_all0 (fun q => ?_) _ _
              unfold cRec cAny
              split
              · exact ih _
              · split
                · exact cRef_self ih
                · exact lsf_self
/-! the class -/
def ntg (a b : Option Nat) : Int32 := match a, b with
  | some _, some _ => 0
  | none, some _ => -1
  | some _, none => 1
  | none, none => 0
theorem s_nothing {a b : Option Nat} {f g : Nat → Nm} (hab : a = none ∨ b = none) {Q : Int32 → MH → Prop} (H : Q (ntg a b) h) : nl (a.map f) (nl (b.map g) (F_X0_nothingFirst d 0 0 h 0 fun x1 h => Q x1 h) (F_X0_nothingFirst d 0 1 h 0 fun x2 h => Q x2 h)) (nl (b.map g) (F_X0_nothingFirst d 1 0 h 0 fun x1 h => Q x1 h) (F_X0_nothingFirst d 1 1 h 0 fun x2 h => Q x2 h)) := by
  have o0 : ∀ {Q : Int32 → MH → Prop} {h : MH}, F_X11_oneIf d 0 h 0 Q ↔ Q 0 h := f_oneIf (b := false)
  have o1 : ∀ {Q : Int32 → MH → Prop} {h : MH}, F_X11_oneIf d 1 h 0 Q ↔ Q 1 h := f_oneIf (b := true)
  unfold F_X0_nothingFirst
  simp only [o0, o1]
  cases a with
  | none =>
    cases b with
    | none => exact H
    | some j => exact H
  | some i =>
    cases b with
    | none => exact H
    | some j => rcases hab with z | z <;> cases z
abbrev rfV (vs : List ValT) (x : Int64) : Option Nm := (ixL x vs.length).map (fun i => (29, i, 0))
theorem s_cmpAny (I : Inv rs ks vs tl sc wI wL m) {n : Nat} (IH : ∀ x y, tOK vs n x → tOK vs n y → ∀ (d u : Nat) (K : Int32 → MH → Nat → Prop), 5 * n ≤ d → K (cVal rs ks vs n x y) (hJ (hC rs ks vs tl sc wI wL) mp) u → iI (d + 2) u_X0_compareValues [jR cmpr, jR (rfV vs x), jR (rfV vs y)] (hJ (hC rs ks vs tl sc wI wL) mp) u K) {l : Int32} {x y : Int64} (ha : aOK rs vs n l x) (hb : aOK rs vs n l y) {K : Int32 → MH → Nat → Prop} (hd : 5 * n + 4 ≤ d) (H : K (cAny rs (cVal rs ks vs n) l x y) (hJ (hC rs ks vs tl sc wI wL) mp) u) : iI (d + 1) u_X0_compareAny [jR cmpr, jI l, jL x, jL y] (hJ (hC rs ks vs tl sc wI wL) mp) u K := by
  have hR := I.1.1.1
  have hV := I.1.2.2.2.1.1
  refine I_X0_compareAny 0 (Nat.zero_le _) ?_
  unfold F_X0_compareAny
  unfold cAny at H
  by_cases l8 : l = 8
  · rw [if_pos l8] at H ⊢
    simp only [c_g10_0, c_rc2, true_and, f_findValue hV]
    obtain ⟨r, rfl⟩ : ∃ r, d = r + 2 := ⟨d - 2, by omega⟩
    exact ⟨rfl, IH x y (ha.2.1 l8) (hb.2.1 l8) r 0 _ (by omega) H⟩
  · rw [if_neg l8] at H ⊢
    by_cases l9 : l = 9
    · rw [if_pos l9] at H ⊢
      simp only [c_g10_0, c_rc2, true_and, f_findRow hR]
      refine ⟨rfl, ?_⟩
      obtain ⟨r, rfl⟩ : ∃ r, d = r + 4 := ⟨d - 4, by omega⟩
      refine I_X0_compareRows (d := r + 2) 0 (Nat.zero_le _) ?_
      unfold F_X0_compareRows F_X0_compareRows_8 F_X0_compareRows_17
      unfold cRef at H
      have nothing : ∀ a b : Option Nat, (a = none ∨ b = none) → K (ntg a b) (hJ (hC rs ks vs tl sc wI wL) mp) u → nl (a.map (fun j => ((21, j, 0) : Nm))) (nl (b.map (fun j => ((21, j, 0) : Nm))) (F_X0_nothingFirst (r + 2) 0 0 (hJ (hC rs ks vs tl sc wI wL) mp) 0 fun x1 h => K x1 h (u - 0)) (F_X0_nothingFirst (r + 2) 0 1 (hJ (hC rs ks vs tl sc wI wL) mp) 0 fun x2 h => K x2 h (u - 0))) (nl (b.map (fun j => ((21, j, 0) : Nm))) (F_X0_nothingFirst (r + 2) 1 0 (hJ (hC rs ks vs tl sc wI wL) mp) 0 fun x1 h => K x1 h (u - 0)) (F_X0_nothingFirst (r + 2) 1 1 (hJ (hC rs ks vs tl sc wI wL) mp) 0 fun x2 h => K x2 h (u - 0))) := by
        intro a b hab hk
        exact s_nothing (Q := fun x h => K x h u) hab hk
      rcases ha.2.2 l9 with rfl | ⟨rr, ra, rfl, hra, hca⟩
      · rw [ixL_m1] at H ⊢
        have := nothing none (ixL y rs.length) (Or.inl rfl) (by
          rcases hy : ixL y rs.length with _ | s
          · rw [hy] at H; exact H
          · rw [hy] at H; exact H)
        exact this
      · have hral := (List.getElem?_eq_some_iff.mp hra).1
        rw [ixL_lN hral (by omega)] at H ⊢
        rcases hb.2.2 l9 with rfl | ⟨rr2, rb, rfl, hrb, hcb⟩
        · rw [ixL_m1] at H ⊢
          exact nothing (some rr) none (Or.inr rfl) H
        · have hrbl := (List.getElem?_eq_some_iff.mp hrb).1
          rw [ixL_lN hrbl (by omega)] at H ⊢
          simp only [hra, hrb] at H
          have h20a := I.r20 ra (List.mem_of_getElem? hra)
          have h20b := I.r20 rb (List.mem_of_getElem? hrb)
          have hrok := (I.1.1.2 ra (List.mem_of_getElem? hra)).1
          rw [Option.map_some, Option.map_some, nl_some, nl_some]
          refine gI_raw (o_21 hra) rfl (gI_raw (o_21 hrb) rfl (f_lsf.mpr ?_))
          unfold cRows at H
          by_cases hl : lsf ra.1.toInt64 rb.1.toInt64 = 0
          · rw [if_pos hl] at H ⊢
            have e8 : ra.1 = 8 → rb.1 = 8 := by
              intro z
              unfold lsf at hl
              split at hl
              · rename_i e
                rw [← Int64.toInt_inj, Int32.toInt_toInt64, Int32.toInt_toInt64, Int32.toInt_inj] at e
                rw [← e]; exact z
              · split at hl
                · exact absurd hl (by decide)
                · exact absurd hl (by decide)
            have fin : F_X0_compareRows_111 (r + 2) (some (21, rr, 0)) (some (21, rr2, 0)) (hJ (hC rs ks vs tl sc wI wL) mp) 0 (fun x h2 => K x h2 u) ↔ K (lsf (nI ra.2.2.length).toInt64 (nI rb.2.2.length).toInt64) (hJ (hC rs ks vs tl sc wI wL) mp) u := by
              unfold F_X0_compareRows_111
              simp only [c_g21_2, c_n22, hra, hrb, wr_some, f_lsf]
            have key : ∀ p c : Nat, c + p = min ra.2.2.length rb.2.2.length → firstF (fun c => cG (cVal rs ks vs n) ra.1 (ra.2.2.getD c 0) (rb.2.2.getD c 0)) (min ra.2.2.length rb.2.2.length) 0 = firstF (fun c => cG (cVal rs ks vs n) ra.1 (ra.2.2.getD c 0) (rb.2.2.getD c 0)) p c → L_X0_compareRows_53 (r + 2) cmpr (some (21, rr, 0)) (some (21, rr2, 0)) (nI c) (hJ (hC rs ks vs tl sc wI wL) mp) 0 (fun x h2 => K x h2 u) := by
              intro p
              induction p with
              | zero =>
                intro c hcp hf
                rw [hf, firstF, if_pos rfl] at H
                unfold L_X0_compareRows_53
                refine E_X0_compareRows_53 ?_
                unfold F_X0_compareRows_53
                refine gR_raw (o_21 hra) rfl (aN_raw (o_22 hra) ?_)
                rw [List.length_map]
                by_cases y1 : ra.2.2.length ≤ c
                · rw [if_pos (nI_le y1 (by omega))]
                  exact fin.mpr H
                · rw [if_neg (nI_ge (by omega) (by omega))]
                  refine gR_raw (o_21 hrb) rfl (aN_raw (o_22 hrb) ?_)
                  rw [List.length_map, if_pos (nI_le (by omega) (by omega))]
                  exact fin.mpr H
              | succ p ih =>
                intro c hcp hf
                obtain ⟨ya, hya⟩ := get_lt (show c < ra.2.2.length by omega)
                obtain ⟨yb, hyb⟩ := get_lt (show c < rb.2.2.length by omega)
                rw [firstF_s] at hf
                have ea : ra.2.2.getD c 0 = ya := by simp [List.getD_eq_getElem?_getD, hya]
                have eb : rb.2.2.getD c 0 = yb := by simp [List.getD_eq_getElem?_getD, hyb]
                simp only [ea, eb] at hf
                unfold L_X0_compareRows_53
                refine E_X0_compareRows_53 ?_
                unfold F_X0_compareRows_53
                refine gR_raw (o_21 hra) rfl (aN_raw (o_22 hra) ?_)
                rw [List.length_map, if_neg (nI_ge (by omega) (by omega))]
                refine gR_raw (o_21 hrb) rfl (aN_raw (o_22 hrb) ?_)
                rw [List.length_map, if_neg (nI_ge (by omega) (by omega))]
                refine gI_raw (o_21 hra) rfl (gR_raw (o_21 hra) rfl (aL_raw (x := ya) (o_22 hra) (by omega) (by rw [List.getElem?_map, hya]; rfl) (gR_raw (o_21 hrb) rfl (aL_raw (x := yb) (o_22 hrb) (by omega) (by rw [List.getElem?_map, hyb]; rfl) ⟨rfl, ?_⟩))))
                refine I_X0_compareAny (d := r + 2) 0 (Nat.zero_le _) ?_
                unfold F_X0_compareAny
                have go : (if cG (cVal rs ks vs n) ra.1 ya yb = 0 then L_X0_compareRows_53 (r + 2) cmpr (some (21, rr, 0)) (some (21, rr2, 0)) (nI c + 1) (hJ (hC rs ks vs tl sc wI wL) mp) 0 (fun x h2 => K x h2 u) else K (cG (cVal rs ks vs n) ra.1 ya yb) (hJ (hC rs ks vs tl sc wI wL) mp) u) := by
                  by_cases z : cG (cVal rs ks vs n) ra.1 ya yb = 0
                  · rw [if_pos z] at hf ⊢
                    rw [nI_1]
                    exact ih (c + 1) (by omega) hf
                  · rw [if_neg z] at hf ⊢
                    rw [hf, if_neg z] at H
                    exact H
                unfold cG at go
                by_cases r8 : ra.1 = 8
                · rw [if_pos r8] at go ⊢
                  simp only [c_g10_0, c_rc2, true_and, f_findValue hV]
                  exact ⟨rfl, IH ya yb (hca r8 ya (List.mem_of_getElem? hya)) (hcb (e8 r8) yb (List.mem_of_getElem? hyb)) r 0 _ (by omega) go⟩
                · rw [if_neg r8] at go ⊢
                  rw [if_neg (fun z => by rw [z] at hrok; exact absurd hrok (by decide))]
                  simp only [f_rank, f_lsf]
                  exact go
            exact key (min ra.2.2.length rb.2.2.length) 0 (by omega) rfl
          · rw [if_neg hl] at H ⊢
            exact H
    · rw [if_neg l9] at H ⊢
      simp only [f_rank, f_lsf]
      exact H
end Order
