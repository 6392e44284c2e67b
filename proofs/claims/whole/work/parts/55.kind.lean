section OpKind
variable {rs : List RowT} {ks : List KindT} {vs : List ValT} {tl : Nat → Nat → Nat → List Int32} {sc : Nat → Int32} {wI : Nat → List Int32} {wL : Nat → List Int64} {m : MS} {d d2 u : Nat} {v1 v2 v3 v5 v6 : Int32} {v4 : Int64} {W : Prop → Prop}
variable {cp mp : MH}
def tlN (tl : Nat → Nat → Nat → List Int32) (n c : Nat) : Nat → Nat → Nat → List Int32 := fun j e i => if j = n then List.replicate c 0 else tl j e i
def nEd (n c : Nat) : MC := .inl (2, [jI 0, jR (some (26, n, 0)), jR (some (27, n, 0)), jR (some (28, n, 0)), jI 0])
def nArr (c : Nat) : MC := .inr (.int, List.replicate c (jI 0))
/-- a kind more -/
theorem hC_kind {b : Bool} {w : Int32} {c : Nat} (hr : ks.length < 16) :
    hset (hset (hset (hset (hset (hset (hset (hset (hJ (hC rs ks vs tl sc wI wL) mp) (26, ks.length, 0) (nArr c)) (27, ks.length, 0) (nArr c)) (28, ks.length, 0) (nArr c)) (25, ks.length, 0) (nEd ks.length c)) (24, ks.length, 0) (.inr (.object "RecordBridge$Edition", [jR (some (25, ks.length, 0)), jR none, jR none, jR none]))) (23, ks.length, 0) (.inl (3, [jI (nI ks.length), jI (b2i b), jI w, jR (some (24, ks.length, 0)), jI 1, jI 0, jI 0]))) (18, 0, 0) (.inr (.object "RecordBridge$Kind", (refs 16 23 ks.length).set ks.length (jR (some (23, ks.length, 0)))))) (1, 0, 0) (.inl (10, [jR (some (2, 0, 0)), jR (some (5, 0, 0)), jR (some (8, 0, 0)), jR (some (10, 0, 0)), jR (some (11, 0, 0)), jR (some (18, 0, 0)), jR (some (19, 0, 0)), jR (some (20, 0, 0)), jI (nI ks.length + 1), jI (sc 0), jI (sc 1), jI (sc 2), jI (sc 3), jI (sc 4)])) = hJ (hC rs (ks ++ [(b, w, false, 0, [[]])]) vs (tlN tl ks.length c) sc wI wL) mp := by
  have e1 : (ks ++ [(b, w, false, 0, [[]])]).length = ks.length + 1 := by simp
  have e2 : (ks ++ [((b, w, false, 0, [[]]) : KindT)])[ks.length]? = some (b, w, false, 0, [[]]) := by simp
  have e3 : ∀ j, j ≠ ks.length → (ks ++ [((b, w, false, 0, [[]]) : KindT)])[j]? = ks[j]? := by
    intro j hj
    by_cases q : j < ks.length
    · rw [List.getElem?_append_left q]
    · rw [List.getElem?_eq_none (by simp; omega), List.getElem?_eq_none (by omega)]
  rw [refs_set hr, hJ_setC (show 26 < 40 by decide), hJ_setC (show 27 < 40 by decide), hJ_setC (show 28 < 40 by decide), hJ_setC (show 25 < 40 by decide), hJ_setC (show 24 < 40 by decide), hJ_setC (show 23 < 40 by decide), hJ_setC (show 18 < 40 by decide), hJ_setC (show 1 < 40 by decide)]
  congr 1
  funext k
  by_cases k1 : k = (1, 0, 0)
  · subst k1; rw [hs_s]; simp only [hC, e1, nI_1]
  rw [hs_n k1]
  by_cases k2 : k = (18, 0, 0)
  · subst k2; rw [hs_s]; simp only [hC, e1]
  rw [hs_n k2]
  by_cases k3 : k = (23, ks.length, 0)
  · subst k3; rw [hs_s]; simp only [hC, e2, Option.map_some]; rfl
  rw [hs_n k3]
  by_cases k4 : k = (24, ks.length, 0)
  · subst k4; rw [hs_s]; simp only [hC, e2, Option.map_some]; rfl
  rw [hs_n k4]
  by_cases k5 : k = (25, ks.length, 0)
  · subst k5; rw [hs_s]; simp only [hC, e2, Option.bind_some]; rfl
  rw [hs_n k5]
  by_cases k8 : k = (28, ks.length, 0)
  · subst k8; rw [hs_s]; simp [hC, e2, eM, tlN, nArr]
  rw [hs_n k8]
  by_cases k7 : k = (27, ks.length, 0)
  · subst k7; rw [hs_s]; simp [hC, e2, eN, tlN, nArr]
  rw [hs_n k7]
  by_cases k6 : k = (26, ks.length, 0)
  · subst k6; rw [hs_s]; simp [hC, e2, eL, tlN, nArr]
  rw [hs_n k6]
  have o0 : ks[ks.length]? = none := by simp
  unfold hC
  split <;> first | rfl | exact absurd rfl k1 | exact absurd rfl k2 | skip
  · rename_i j; rw [e3 j (fun z => k3 (by rw [z]))]
  · rename_i j; rw [e3 j (fun z => k4 (by rw [z]))]
  · rename_i j e
    by_cases z : j = ks.length
    · subst z
      have : e ≠ 0 := fun y => k5 (by rw [y])
      rw [e2, o0]
      cases e
      · exact absurd rfl this
      · rfl
    · rw [e3 j z]
  · rename_i j e
    by_cases z : j = ks.length
    · subst z
      have : e ≠ 0 := fun y => k6 (by rw [y])
      rw [e2, o0]
      cases e
      · exact absurd rfl this
      · rfl
    · rw [e3 j z]; simp only [tlN, z, if_false]
  · rename_i j e
    by_cases z : j = ks.length
    · subst z
      have : e ≠ 0 := fun y => k7 (by rw [y])
      rw [e2, o0]
      cases e
      · exact absurd rfl this
      · rfl
    · rw [e3 j z]; simp only [tlN, z, if_false]
  · rename_i j e
    by_cases z : j = ks.length
    · subst z
      have : e ≠ 0 := fun y => k8 (by rw [y])
      rw [e2, o0]
      cases e
      · exact absurd rfl this
      · rfl
    · rw [e3 j z]; simp only [tlN, z, if_false]
end OpKind
