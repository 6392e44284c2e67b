section Ops8
variable {rs : List RowT} {ks : List KindT} {vs : List ValT} {tl : Nat → Nat → Nat → List Int32} {sc : Nat → Int32} {wI : Nat → List Int32} {wL : Nat → List Int64} {m : MS} {d d2 u : Nat} {v1 v2 v3 v5 v6 : Int32} {v4 : Int64} {W : Prop → Prop}
theorem mA_1 {k : Nat} {l : List Int32} : (mA m k l).1 = m.1 := rfl
theorem mB_1 {k : Nat} {l : List Int64} : (mB m k l).1 = m.1 := rfl
theorem mI_1 {k j : Nat} {x : Int32} : (mI m k x).1 j = if j = k then x else m.1 j := rfl
theorem mI_21 {k : Nat} {x : Int32} : (mI m k x).2.1 = m.2.1 := rfl
theorem mI_22 {k : Nat} {x : Int32} : (mI m k x).2.2 = m.2.2 := rfl
theorem mA_21 {k j : Nat} {l : List Int32} : (mA m k l).2.1 j = if j = k then l else m.2.1 j := rfl
theorem mA_22 {k : Nat} {l : List Int32} : (mA m k l).2.2 = m.2.2 := rfl
theorem mB_21 {k : Nat} {l : List Int64} : (mB m k l).2.1 = m.2.1 := rfl
theorem mB_22 {k j : Nat} {l : List Int64} : (mB m k l).2.2 j = if j = k then l else m.2.2 j := rfl
theorem up_if {α : Type} {f : Nat → α} {k j : Nat} {x : α} : up f k x j = if j = k then x else f j := rfl
theorem nz_and1 (x : Int32) : nz (x &&& 1) := by
  have h : (x &&& 1).toBitVec = if x.toBitVec.getLsbD 0 then 1#32 else 0#32 := by
    show x.toBitVec &&& 1#32 = _
    have := BitVec.and_twoPow x.toBitVec 0
    exact this
  unfold nz
  rcases hb : x.toBitVec.getLsbD 0 with _ | _
  · left; rw [hb] at h; exact Int32.toBitVec_inj.mp h
  · right; rw [hb] at h; exact Int32.toBitVec_inj.mp h
theorem nz_narB (x : Int32) : nz (vp_nar .boolean x) := nz_and1 x
theorem fam_c : ∀ n : Nat, n < 17 → ((((1 : Int32) <<< (nI n &&& 31)) - 1) ^^^ (-1)).toBitVec = BitVec.allOnes 32 <<< n := by decide +kernel
theorem fam_d : ∀ n : Nat, n < 17 → ((nI n).toUInt32 &&& Int32.toUInt32 31).toBitVec % 32 = BitVec.ofNat 32 n := by decide +kernel
theorem fam_bits (x : BitVec 32) (n : Nat) : x &&& (BitVec.allOnes 32 <<< n) = 0#32 ↔ x >>> n = 0#32 := by
  constructor
  · intro h
    apply BitVec.eq_of_getLsbD_eq
    intro i hi
    have := congrArg (fun y : BitVec 32 => y.getLsbD (n + i)) h
    simp only [BitVec.getLsbD_and, BitVec.getLsbD_shiftLeft, BitVec.getLsbD_allOnes, BitVec.getLsbD_zero, BitVec.getLsbD_ushiftRight] at this ⊢
    by_cases q : n + i < 32
    · rw [show n + i - n = i by omega] at this
      simpa [q, hi, show ¬ n + i < n by omega] using this
    · exact BitVec.getLsbD_of_ge _ _ (by omega)
  · intro h
    apply BitVec.eq_of_getLsbD_eq
    intro i hi
    simp only [BitVec.getLsbD_and, BitVec.getLsbD_shiftLeft, BitVec.getLsbD_zero]
    by_cases q : i < n
    · simp [q]
    · have := congrArg (fun y : BitVec 32 => y.getLsbD (i - n)) h
      simp only [BitVec.getLsbD_zero, BitVec.getLsbD_ushiftRight] at this
      rw [show n + (i - n) = i by omega] at this
      simp [this]
theorem fam_iff (v : Int32) {n : Nat} (hn : n < 17) : (v &&& ((((1 : Int32) <<< (nI n &&& 31)) - 1) ^^^ (-1))) = 0 ↔ ((v.toUInt32 >>> ((nI n).toUInt32 &&& Int32.toUInt32 31)).toInt32) = 0 := by
  rw [← Int32.toBitVec_inj, ← Int32.toBitVec_inj]
  show v.toBitVec &&& _ = 0#32 ↔ v.toBitVec >>> (((nI n).toUInt32 &&& Int32.toUInt32 31).toBitVec % 32) = 0#32
  rw [fam_c n hn, fam_d n hn, fam_bits]
  rw [BitVec.ushiftRight_eq', BitVec.toNat_ofNat, Nat.mod_eq_of_lt (by omega)]
/-- a family more -/
theorem Inv.family (I : Inv rs ks vs tl sc wI wL m) {n : Nat} (hn : n < 8) (h0 : sc 0 = nI n) (x y : Int32) (hy : nz y) :
    Inv rs ks vs tl (up sc 0 (nI n + 1)) (up (up wI 0 ((wI 0).set n x)) 1 ((wI 1).set n y)) wL (mI (mA (mA m 20 ((m.2.1 20).set n x)) 21 ((m.2.1 21).set n y)) 19 (nI n + 1)) := by
  obtain ⟨⟨a1, a2, a3, a4, a5, a6⟩, b1, b2, b3, b4⟩ := I
  obtain ⟨w0, w1, w2, q0, q1, w3, w4, w5, w6, ⟨n', s0, s1, s2⟩, s3, s4⟩ := a5
  have e : n' = n := by rw [h0] at s1; exact ((nI_eq (by omega) (by omega)).mp s1).symm
  subst e
  obtain ⟨c1, c2, c3, c4, c5, c6, c7⟩ := b4
  refine ⟨⟨a1, a2, a3, a4, ⟨by simp [up, w0], by simp [up, w1], by simpa [up] using w2, q0, q1, by simpa [up] using w3, by simpa [up] using w4, by simpa [up] using w5, by simpa [up] using w6, ⟨n' + 1, by omega, by simp [up, nI_1], fun i hi => ?_⟩, by simpa [up] using s3, by simpa [up] using s4⟩, by simpa [TrayOK, up] using a6⟩, by simpa [mRows, mI, mA, up] using b1, by simpa [mKinds, mI, mA, up] using b2, by simpa [mVals, mI, mA, up] using b3, ⟨by simpa [mI, mA, up] using c1, by simpa [mI, mA, up] using c2, by simpa [mI, mA, up] using c3, by simp [mI, mA, up], by simp [mI, mA, up, c5], by simp [mI, mA, up, c6], by simpa [mI, mA, up] using c7⟩⟩
  simp only [up_s, lset_getD]
  by_cases e : n' = i
  · rw [if_pos ⟨e, by omega⟩]; exact hy
  · rw [if_neg (fun z => e z.1)]; exact s2 i (by omega)
theorem op_family (I : Inv rs ks vs tl sc wI wL m) (hW : ∀ X, X → W X) {K : Int32 → Int32 → MH → Prop} (hK : KI K) : F_X11_family d br v1 v2 (hX rs ks vs tl sc wI wL m) u (fun a h => W (rc h mo 11 ∧ F_X12_family d2 mo v1 v2 h 0 (fun b h => K a b h))) := by
  have hR := I.1.1.1; have hV := I.1.2.2.2.1.1; have hKd := I.1.2.1.1; have hRm := I.2.1; have hKm := I.2.2.1; have hVm := I.2.2.2.1; have hMm := I.2.2.2.2
  obtain ⟨n, hn, h0, -⟩ := I.1.2.2.2.2.1.2.2.2.2.2.2.2.2.2.1
  have w0 := I.1.2.2.2.2.1.1
  have w1 := I.1.2.2.2.2.1.2.1
  have h19 : m.1 19 = nI n := by rw [hMm.2.2.2.1, h0]
  have w20 : (m.2.1 20).length = 8 := by rw [hMm.2.2.2.2.1, w0]
  have w21 : (m.2.1 21).length = 8 := by rw [hMm.2.2.2.2.2.1, w1]
  have fi := fam_iff v1 (show ks.length < 17 by omega)
  have n8 : (8 : Int32) = nI 8 := by decide
  unfold F_X11_family nm
  simp only [c_g1_8]
  by_cases e : (v1 &&& ((((1 : Int32) <<< (nI ks.length &&& 31)) - 1) ^^^ (-1))) = 0
  · rw [if_pos e]
    simp only [c_g1_9, h0]
    by_cases q : n < 8
    · rw [if_pos (by rw [n8]; exact nI_lt q (by omega))]
      simp only [c_g1_6, c_g1_7, c_g1_9, c_s19, c_s20, c_p1_9, h0]
      refine ⟨(inb_nI (by omega)).mpr (by omega), ?_⟩
      simp only [c_g1_7, c_g1_9, c_s20, c_p1_9, h0, nI_clamp (show n < 2 ^ 31 by omega), up_if, Nat.reduceEqDiff, Nat.reduceEqDiff, reduceCtorEq, if_false, if_true]
      refine ⟨(inb_nI (by omega)).mpr (by omega), hW _ ⟨m_rc, ?_⟩⟩
      unfold F_X12_family
      simp only [m_g9, hKm.1]
      rw [if_pos (fi.mp e)]
      simp only [m_g19, h19]
      rw [if_neg (by rw [n8, nI_eq (by omega) (by omega)]; omega)]
      simp only [m_g20, m_s20, m_g19, h19]
      refine ⟨(inb_nI (by omega)).mpr (by omega), ?_⟩
      simp only [m_g21, m_s21, m_g19, h19, m_p19, nI_clamp (show n < 2 ^ 31 by omega), mA_1, mB_1, mI_1, mI_21, mI_22, mA_21, mA_22, mB_21, mB_22, Nat.reduceEqDiff, Nat.reduceEqDiff, reduceCtorEq, if_false, if_true]
      refine ⟨(inb_nI (by omega)).mpr (by omega), ?_⟩
      exact hK _ _ _ _ _ _ _ _ _ (I.family q h0 v1 (vp_nar .boolean v2) (nz_narB v2))
    · rw [if_neg (by rw [n8]; exact nI_nlt (by omega) (by omega))]
      refine hW _ ⟨m_rc, ?_⟩
      unfold F_X12_family
      simp only [m_g9, hKm.1]
      rw [if_pos (fi.mp e)]
      simp only [m_g19, h19]
      rw [if_pos (by rw [n8, show n = 8 by omega])]
      exact hK _ _ _ _ _ _ _ _ _ I
  · rw [if_neg e]
    refine hW _ ⟨m_rc, ?_⟩
    unfold F_X12_family
    simp only [m_g9, hKm.1]
    rw [if_neg (fun z => e (fi.mpr z))]
    exact hK _ _ _ _ _ _ _ _ _ I
end Ops8
