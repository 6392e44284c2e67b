section Make
variable {rs : List RowT} {ks : List KindT} {vs : List ValT} {tl : Nat → Nat → Nat → List Int32} {sc : Nat → Int32} {wI : Nat → List Int32} {wL : Nat → List Int64} {m : MS} {d d2 u : Nat} {v1 v2 v3 v5 v6 : Int32} {v4 : Int64} {W : Prop → Prop}
variable {cp mp h : MH}
/-! what lies on the tray, part by part -/
def tkF (l a : Int32) : Int32 := if a = -1 then (if wi l 0 7 then 1 else 0) else if isW a l then 0 else 3
def tkV (l a : Int32) (y : Int64) : Int64 := if a = -1 then -1 else wd a l y
def firstF (g : Nat → Int32) : Nat → Nat → Int32
  | 0, _ => 0
  | r + 1, q => if g q = 0 then firstF g r (q + 1) else g q
theorem firstF_s {g : Nat → Int32} {r q : Nat} : firstF g (r + 1) q = if g q = 0 then firstF g r (q + 1) else g q := rfl
theorem firstF_0 {g : Nat → Int32} : ∀ r q, firstF g r q = 0 → ∀ p, q ≤ p → p < q + r → g p = 0
  | 0, q, _, p, h1, h2 => by omega
  | r + 1, q, h, p, h1, h2 => by
    unfold firstF at h
    by_cases z : g q = 0
    · rw [if_pos z] at h
      by_cases y : p = q
      · rw [y]; exact z
      · exact firstF_0 r (q + 1) h p (by omega) (by omega)
    · rw [if_neg z] at h; exact absurd h z
def trOK (nr nv : Nat) (a : Int32) (y : Int64) : Prop := a = -1 ∨ (wi a 0 7 = true ∧ numOK a y) ∨ (a = 8 ∧ ∃ j : Nat, j < nv ∧ y = lN j) ∨ (a = 9 ∧ ∃ j : Nat, j < nr ∧ y = lN j)
theorem isW_8 {l : Int32} (h : isW 8 l = true) : l = 8 := by
  unfold isW at h
  simp only [Bool.or_eq_true, decide_eq_true_eq, Bool.and_eq_true] at h
  rcases h with h | h
  · exact h.symm
  · have a := h.1.1.1.2
    have b := h.1.1.2
    rw [Int32.le_iff_toInt_le] at a b
    have : (8 : Int32).toInt = 8 := rfl
    have : (7 : Int32).toInt = 7 := rfl
    omega
theorem isW_9 {l : Int32} (h : isW 9 l = true) : l = 9 := by
  unfold isW at h
  simp only [Bool.or_eq_true, decide_eq_true_eq, Bool.and_eq_true] at h
  rcases h with h | h
  · exact h.symm
  · have a := h.1.1.1.2
    have b := h.1.1.2
    rw [Int32.le_iff_toInt_le] at a b
    have : (9 : Int32).toInt = 9 := rfl
    have : (7 : Int32).toInt = 7 := rfl
    omega
theorem isW_7 {a l : Int32} (h : isW a l = true) (ha : wi a 0 7 = true) : wi l 0 7 = true := by
  unfold isW at h
  simp only [Bool.or_eq_true, decide_eq_true_eq, Bool.and_eq_true] at h
  rcases h with h | h
  · rw [← h]; exact ha
  · have a1 := h.1.1.1.2
    have b := h.1.1.2
    unfold wi at ha ⊢
    simp only [Bool.and_eq_true, decide_eq_true_eq, Int32.le_iff_toInt_le] at ha a1 b ⊢
    have : (0 : Int32).toInt = 0 := rfl
    have : (7 : Int32).toInt = 7 := rfl
    omega
theorem wd_self {a : Int32} {y : Int64} : wd a a y = y := by unfold wd; rw [if_pos rfl]
theorem tk_fit {l a : Int32} {y : Int64} (hl : wi l 0 9 = true) (ht : trOK rs.length vs.length a y) (h0 : tkF l a = 0) : pfit rs vs l (tkV l a y) := by
  unfold tkF at h0
  unfold tkV
  by_cases a1 : a = -1
  · rw [if_pos a1] at h0 ⊢
    cases hw : wi l 0 7
    · exact ⟨fun z => (by rw [hw] at z; cases z), fun _ => Or.inl rfl, fun _ => Or.inl rfl⟩
    · rw [hw] at h0; exact absurd h0 (by decide)
  · rw [if_neg a1] at h0 ⊢
    cases hw : isW a l
    · rw [hw] at h0; exact absurd h0 (by decide)
    · rcases ht with z | ⟨z1, z2⟩ | ⟨rfl, j, z1, z2⟩ | ⟨rfl, j, z1, z2⟩
      · exact absurd z a1
      · have hl7 := isW_7 hw z1
        exact ⟨fun _ => wd_ok z1 hl7 hw z2, fun z => by rw [z] at hl7; exact absurd hl7 (by decide), fun z => by rw [z] at hl7; exact absurd hl7 (by decide)⟩
      · have := isW_8 hw
        subst this
        rw [wd_self]
        exact ⟨fun z => absurd z (by decide), fun _ => Or.inr ⟨j, z1, z2⟩, fun z => absurd z (by decide)⟩
      · have := isW_9 hw
        subst this
        rw [wd_self]
        exact ⟨fun z => absurd z (by decide), fun z => absurd z (by decide), fun _ => Or.inr ⟨j, z1, z2⟩⟩
theorem w_num {a l : Int32} (h : isW a l = true) (hl : wi l 0 7 = true) (ha : a = 8 ∨ a = 9) : False := by
  rcases ha with rfl | rfl
  · rw [isW_8 h] at hl; exact absurd hl (by decide)
  · rw [isW_9 h] at hl; exact absurd hl (by decide)
theorem s_takeTray {j e : Nat} {k : KindT} {t : List ET} (hk : ks[j]? = some k) (ht : k.2.2.2.2[e]? = some t) (h6 : t.length ≤ 6) (w2 : (wI 2).length = 6) (q0 : (wL 0).length = 6) (hD : (wL 1).length = 6) (htr : TrayOK wI wL rs.length vs.length) {Q : Int32 → MH → Prop} (H : ∀ l1 : List Int64, l1.length = 6 → (firstF (fun q => tkF (lnT t q) ((wI 2).getD q 0)) t.length 0 = 0 → ∀ p, p < t.length → l1.getD p 0 = tkV (lnT t p) ((wI 2).getD p 0) ((wL 0).getD p 0)) → Q (firstF (fun q => tkF (lnT t q) ((wI 2).getD q 0)) t.length 0) (hJ (hC rs ks vs tl sc wI (up wL 1 l1)) mp)) : F_X1_takeTray d (some (8, 0, 0)) (some (5, 0, 0)) (some (25, j, e)) (hJ (hC rs ks vs tl sc wI wL) mp) u Q := by
  have key : ∀ (r q : Nat) (l1 : List Int64), q + r = t.length → l1.length = 6 → (∀ p, p < q → l1.getD p 0 = tkV (lnT t p) ((wI 2).getD p 0) ((wL 0).getD p 0)) → firstF (fun q => tkF (lnT t q) ((wI 2).getD q 0)) t.length 0 = firstF (fun q => tkF (lnT t q) ((wI 2).getD q 0)) r q → L_X1_takeTray_2 d (some (8, 0, 0)) (some (5, 0, 0)) (some (25, j, e)) (nI q) (hJ (hC rs ks vs tl sc wI (up wL 1 l1)) mp) u Q := by
    intro r
    induction r with
    | zero =>
      intro q l1 hq hl hp hf
      have : q = t.length := by omega
      subst this
      unfold L_X1_takeTray_2
      refine E_X1_takeTray_2 ?_
      unfold F_X1_takeTray_2
      refine c_cnt hk ht ?_
      rw [if_pos (nI_le (Nat.le_refl _) (by omega))]
      have := H l1 hl (fun _ => hp)
      rw [hf] at this
      exact this
    | succ r ih =>
      intro q l1 hq hl hp hf
      have hq6 : q < 6 := by omega
      have htq := htr q hq6
      have e0 : up wL 1 l1 0 = wL 0 := up_n (by decide)
      unfold L_X1_takeTray_2
      refine E_X1_takeTray_2 ?_
      unfold F_X1_takeTray_2
      refine c_cnt hk ht ?_
      rw [if_neg (nI_ge (by omega) (by omega))]
      refine c_L hk ht (by omega) (by omega) ⟨rfl, ?_⟩
      have s9 : F_X9_faultFor (d + 4) (some (5, 0, 0)) (nI q) (lnT t q) (hJ (hC rs ks vs tl sc wI (up wL 1 l1)) mp) 0 (fun x4 h => if x4 = 0 then gR h (some (8, 0, 0)) 1 1 fun x5 => gR h (some (25, j, e)) 2 2 fun x6 => aI .int h x6 (nI q) fun x7 => rc h (some (5, 0, 0)) 8 ∧ F_X9_widenedTo d (some (5, 0, 0)) (nI q) x7 h 0 fun x8 h => sV .long h x5 (nI q) (jL x8) fun h => L_X1_takeTray_2 d (some (8, 0, 0)) (some (5, 0, 0)) (some (25, j, e)) (nI q + 1) h u Q else Q x4 h) ↔ (fun x4 h => if x4 = 0 then gR h (some (8, 0, 0)) 1 1 fun x5 => gR h (some (25, j, e)) 2 2 fun x6 => aI .int h x6 (nI q) fun x7 => rc h (some (5, 0, 0)) 8 ∧ F_X9_widenedTo d (some (5, 0, 0)) (nI q) x7 h 0 fun x8 h => sV .long h x5 (nI q) (jL x8) fun h => L_X1_takeTray_2 d (some (8, 0, 0)) (some (5, 0, 0)) (some (25, j, e)) (nI q + 1) h u Q else Q x4 h) (tkF (lnT t q) ((wI 2).getD q 0)) (hJ (hC rs ks vs tl sc wI (up wL 1 l1)) mp) := by
        unfold F_X9_faultFor tkF
        simp only [c_g5_0, c_a6, inb_nI (show q < 2 ^ 31 by omega), w2, hq6, rdI_nI (show q < 2 ^ 31 by omega), true_and, f_isNumber, f_isWidened, if_b2i]
        by_cases a1 : (wI 2).getD q 0 = -1
        · rw [if_pos a1, if_pos a1]
          cases wi (lnT t q) 0 7 <;> simp
        · rw [if_neg a1, if_neg a1]
          cases isW ((wI 2).getD q 0) (lnT t q) <;> simp
      refine s9.mpr ?_
      rw [firstF_s] at hf
      by_cases f0 : tkF (lnT t q) ((wI 2).getD q 0) = 0
      · rw [if_pos f0] at hf
        simp only [f0, if_true]
        refine (c_g8_1).mpr (c_L hk ht (by omega) (by omega) ⟨rfl, ?_⟩)
        have next : sV .long (hJ (hC rs ks vs tl sc wI (up wL 1 l1)) mp) (some (9, 0, 0)) (nI q) (jL (tkV (lnT t q) ((wI 2).getD q 0) ((wL 0).getD q 0))) (fun h => L_X1_takeTray_2 d (some (8, 0, 0)) (some (5, 0, 0)) (some (25, j, e)) (nI q + 1) h u Q) := by
          refine c_s9.mpr ⟨(inb_nI (by omega)).mpr (by rw [up_s]; omega), ?_⟩
          rw [nI_clamp (by omega), up_s, up_u, nI_1]
          refine ih (q + 1) _ (by omega) (by rw [List.length_set]; exact hl) (fun p hp2 => ?_) hf
          rw [lset_getD]
          by_cases y : q = p
          · subst y
            rw [if_pos ⟨rfl, by omega⟩]
          · rw [if_neg (by omega)]
            exact hp p (by omega)
        unfold F_X9_widenedTo
        simp only [c_g5_0, c_a6, inb_nI (show q < 2 ^ 31 by omega), w2, hq6, rdI_nI (show q < 2 ^ 31 by omega), true_and, c_g5_1, c_a7, e0, q0, rdL_nI (show q < 2 ^ 31 by omega)]
        unfold tkF at f0
        unfold tkV at next
        by_cases a1 : (wI 2).getD q 0 = -1
        · rw [if_pos a1] at next ⊢
          exact next
        · rw [if_neg a1] at f0 next ⊢
          cases hw : isW ((wI 2).getD q 0) (lnT t q)
          · rw [hw] at f0; exact absurd f0 (by decide)
          · rcases htq with z | ⟨z1, z2⟩ | ⟨z, z2⟩ | ⟨z, z2⟩
            · exact absurd z a1
            · exact f_widen z1 (isW_7 hw z1) hw z2 next
            · have e8 := hw
              rw [z] at e8
              have e9 := isW_8 e8
              unfold F_X4_widen
              rw [e9, z] at next ⊢
              rw [if_pos rfl]
              rw [wd_self] at next
              exact next
            · have e8 := hw
              rw [z] at e8
              have e9 := isW_9 e8
              unfold F_X4_widen
              rw [e9, z] at next ⊢
              rw [if_pos rfl]
              rw [wd_self] at next
              exact next
      · rw [if_neg f0] at hf
        simp only [f0, if_false]
        have := H l1 hl (fun z => absurd (hf.symm.trans z) f0)
        rw [hf] at this
        exact this
  have := key t.length 0 (wL 1) (by omega) hD (fun p hp => absurd hp (Nat.not_lt_zero p)) rfl
  rw [up_id] at this
  exact this
end Make
