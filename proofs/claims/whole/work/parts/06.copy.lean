/-! COPIES of arrays: clone() of ints, System.arraycopy of longs -/
def cpyL (src dst : List MV) (sp dp n : Nat) : List MV := dst.take dp ++ (src.drop sp).take n ++ dst.drop (dp + n)
theorem cpyL_len {src dst : List MV} {sp dp n : Nat} (h1 : sp + n ≤ src.length) (h2 : dp + n ≤ dst.length) : (cpyL src dst sp dp n).length = dst.length := by
  simp [cpyL]; omega
theorem cpyL_at {ad : AD} {src dst : List MV} {f g : Nat → Value} {sp dp n : Nat} (h1 : sp + n ≤ src.length) (h2 : dp + n ≤ dst.length) (hf : ∀ i v, src[i]? = some v → VR ad v (f i)) (hg : ∀ i v, dst[i]? = some v → VR ad v (g i)) :
    ∀ i v, (cpyL src dst sp dp n)[i]? = some v → VR ad v (va_cpy f g sp dp n i) := by
  intro i v hv
  unfold cpyL at hv
  have l1 : (dst.take dp).length = dp := by simp; omega
  have l2 : ((src.drop sp).take n).length = n := by simp; omega
  unfold va_cpy
  by_cases a : i < dp
  · rw [if_neg (by omega)]
    rw [List.append_assoc, List.getElem?_append_left (by omega), List.getElem?_take, if_pos a] at hv
    exact hg i v hv
  · by_cases b : i < dp + n
    · rw [if_pos (by omega)]
      rw [List.append_assoc, List.getElem?_append_right (by omega), List.getElem?_append_left (by omega), l1, List.getElem?_take, if_pos (by omega), List.getElem?_drop] at hv
      exact hf _ v hv
    · rw [if_neg (by omega)]
      rw [List.getElem?_append_right (by rw [List.length_append]; omega), List.length_append, l1, l2, List.getElem?_drop] at hv
      rw [show dp + n + (i - (dp + n)) = i by omega] at hv
      exact hg i v hv
section Copy
variable {μ : MU} {d pc : Nat} {ls : List (Option MV)} {st : List MV} {h : MH} {u : Nat} {Q : Option MV → MH → Prop}
theorem T_clone {idx : Nat} {n : Nm} {es : List MV} (n' : Nm) (hd : decode μ.2.1 pc = .ok (.invokevirtual idx, 3)) (hw : Cond.methodLink μ.1.cls idx ⟨"[I", "clone", "()Ljava/lang/Object;"⟩ ∈ gTbl) (hw2 : Cond.sameMethod "[I" "java/lang/Object" "clone" "()Ljava/lang/Object;" ∈ gTbl)
    (hw3 : Cond.native ⟨"java/lang/Object", "clone", "()Ljava/lang/Object;"⟩ ∈ gTbl) (hw4 : Cond.instanceMethod ⟨"java/lang/Object", "clone", "()Ljava/lang/Object;"⟩ ∈ gTbl) (hw5 : Cond.selects "[I" ⟨"[I", "clone", "()Ljava/lang/Object;"⟩ ⟨"java/lang/Object", "clone", "()Ljava/lang/Object;"⟩ ∈ gTbl) (hw6 : Cond.castable "[I" "java/lang/Cloneable" ∈ NG)
    (hln : st.length ≤ 4) (hn : h n = some (.inr (.int, es))) (hall : ∀ v ∈ es, ∃ x, v = jI x) (hn' : h n' = none) (hns : n' ≠ scr) (hu : es.length + 1 ≤ u)
    (kk : T μ (d + 1) (pc + 3) ls (jR (some n') :: st) (hset h n' (.inr (.int, es))) (u - (es.length + 1)) Q) : T μ (d + 1) pc ls (jR (some n) :: st) h u Q := by
  intro p l e R s m args below meth c D B0 ad0 Z C S0 O ad H locs cells slots lsR stR hH hA hL hc hs hl hst
  obtain ⟨w1, t1, e1, ⟨a0, ha0, v1⟩, hst⟩ := hst
  subst e1; subst v1
  obtain ⟨a, ha, hty, f, q1, hV⟩ := hH.at hn
  cases ha0.symm.trans ha
  have hts := C.2.2.2.2.2.1
  have hK := C.2.2.2.2.2.2.2.2.1
  have hnm : s.vm.findClass "[I" = some (D.2.2 .int) := (hK.2.1 .int hty).2
  have hcl : va_Nw (.castable "[I" "java/lang/Cloneable") s := hK.2.2 _ hw6
  obtain ⟨c0, t0', f1, f2, f3⟩ := Cond.castable_spec (va_Nw.use (A := args) rfl hcl)
  cases hnm.symm.trans f1
  have had : ad n' = none := hH.fr hn' hns
  have hself : adset ad n' H.size n' = some H.size := by simp [adset]
  obtain ⟨-, -, c3, -, -, -, -, -, -, c10, c11⟩ := id C
  have hsum := hst.catSum
  have hsz : lsR.size = c.maxLocals := by obtain ⟨lv, q, -⟩ := hl; rw [c3]; exact q.1
  generalize hcell : arrV (D.2.2 .int) es.length f = cell at q1
  have hvm0 : cell.vm = .none := by rw [← hcell]; rfl
  have hcl0 : cell.cls = D.2.2 .int := by rw [← hcell]; rfl
  have hcs : cell.slots.size = es.length := by rw [← hcell]; exact arrV_size _ _ _
  have hcellE : ({ cls := cell.cls, slots := cell.slots } : Cell) = cell := by rw [← hcell]; rfl
  intro TT hT X
  obtain ⟨-, kA, hkA, comp, hkind⟩ := State.isArrayOf_alike X.warmed.alike ((hK.2.1 .int hty).1 0 (fun _ => .null))
  obtain ⟨-, kS, hkS, compS, hkindS⟩ := (hK.2.1 .int hty).1 0 (fun _ => .null)
  obtain ⟨vm', X', st'⟩ := X.cloneArray C.1 C.2.2.2.2.1 (hts _ hw) (hts _ hw2) (hts _ hw3) (hts _ hw4) (hts _ hw5) (a := a0) (cell := cell) (by rw [hT]; exact q1) (fun k h => by rw [hvm0] at h; cases h) (by rw [hvm0]; exact fun h => by cases h) (by rw [hcl0]; exact hnm) f2 (by rw [hcl0]; exact f3)
    (fun i v hv => by
      rw [hcl0]
      have hk' : TT.vm.classes[D.2.2 .int]? = some kA := hkA
      have hi : i < es.length := by rw [← hcs]; exact (Array.getElem?_eq_some_iff.mp hv).1
      rw [← hcell, arrV_read _ _ hi] at hv
      cases hv
      obtain ⟨x, hx⟩ := hall es[i] (List.getElem_mem hi)
      have h9 := hV i es[i] (List.getElem?_eq_getElem hi)
      rw [hx] at h9
      have h9 : f i = .int x := h9
      simp [State.fitsSlot, State.slotType?, hk', hkind, h9, fits])
    (g := F0 m pc lsR (.ref a0 :: t1)) rfl hsz rfl (by rw [C.2.1]; exact hd) (by omega) (by show 2 * 0 + _ + 14 ≤ _; omega) (by omega) (by rw [hcs]; omega) (hloader := by rw [hcl0]; exact Vm.clonesLoader_of_array hkS hkindS)
  rw [hcellE, hcs] at X'
  generalize hH1 : H.push cell = H1
  have z1 : H1.size = H.size + 1 := by rw [← hH1, Array.size_push]
  have e1 : H1[H.size]? = some cell := by rw [← hH1, Array.getElem?_push_size]
  have o1 : ∀ q : Nat, q < H.size → H1[q]? = H[q]? := fun q hq => by rw [← hH1, Array.getElem?_push, if_neg (Nat.ne_of_lt hq)]
  obtain ⟨t, b1, b2⟩ := kk p l e R s m args below meth c D B0 ad0 Z C S0 O (adset ad n' H.size) H1 locs (cells + 1) (slots + es.length) lsR _ (hH.push hn' hns z1 o1 ⟨hty, f, by rw [hcell]; exact e1, fun i v hv => (hV i v hv).mono (adset_le had)⟩) (hA.tr (adset_le had)) hL (by omega) (by omega) (hl.mono (adset_le had)) ⟨_, _, rfl, ⟨_, hself, rfl⟩, hst.mono (adset_le had)⟩
    ((TT.setVm vm').pushCell cell) (by rw [← hH1, ← hT]; rfl) X'
  refine ⟨t, st' t ?_, b2⟩
  rw [hcellE, hT]
  exact b1
theorem T_arraycopy {idx : Nat} {ns nd : Nm} {es ed : List MV} {sp dp n : Int32} (hd : decode μ.2.1 pc = .ok (.invokestatic idx, 3)) (hw : Cond.methodLink μ.1.cls idx arraycopyName ∈ gTbl) (hw2 : Cond.native arraycopyName ∈ gTbl) (hw3 : Cond.static arraycopyName ∈ gTbl) (hw4 : Cond.initialized "java/lang/System" ∈ gTbl)
    (hln : st.length ≤ 4) (hn0 : h ns = some (.inr (.long, es))) (hn1 : h nd = some (.inr (.long, ed))) (hall : ∀ v ∈ es, ∃ x, v = jL x) (h1 : ¬ sp < 0) (h2 : ¬ dp < 0) (h3 : ¬ n < 0) (h4 : sp.toNatClampNeg + n.toNatClampNeg ≤ es.length) (h5 : dp.toNatClampNeg + n.toNatClampNeg ≤ ed.length)
    (kk : T μ (d + 1) (pc + 3) ls st (hset h nd (.inr (.long, cpyL es ed sp.toNatClampNeg dp.toNatClampNeg n.toNatClampNeg))) u Q) : T μ (d + 1) pc ls (jI n :: jI dp :: jR (some nd) :: jI sp :: jR (some ns) :: st) h u Q := by
  intro p l e R s m args below meth c D B0 ad0 Z C S0 O ad H locs cells slots lsR stR hH hA hL hc hs hl hst
  obtain ⟨w1, t1, e1, v1, hst⟩ := hst
  obtain ⟨w2, t2, e2, v2, hst⟩ := hst
  obtain ⟨w3, t3, e3, ⟨a1, ha1, v3⟩, hst⟩ := hst
  obtain ⟨w4, t4, e4, v4, hst⟩ := hst
  obtain ⟨w5, t5, e5, ⟨a0, ha0, v5⟩, hst⟩ := hst
  subst e1; subst e2; subst e3; subst e4; subst e5; subst v3; subst v5; cases v1; cases v2; cases v4
  obtain ⟨b0, hb0, hty, f, q0, hV0⟩ := hH.at hn0
  cases ha0.symm.trans hb0
  obtain ⟨b1, hb1, -, g, q1, hV1⟩ := hH.at hn1
  cases ha1.symm.trans hb1
  have hts := C.2.2.2.2.2.1
  have hK := C.2.2.2.2.2.2.2.2.1
  have nn : ∀ z : Int32, ¬ z < 0 → z.toInt = (z.toNatClampNeg : Int) := by
    intro z hz
    have hz0 : (0 : Int) ≤ z.toInt := by
      have := Int32.not_lt.mp hz
      simpa using Int32.le_iff_toInt_le.mp this
    show z.toInt = ((z.toInt.toNat : Nat) : Int)
    omega
  obtain ⟨-, -, c3, -, -, -, -, -, -, c10, c11⟩ := id C
  have hsum := hst.catSum
  have hsz : lsR.size = c.maxLocals := by obtain ⟨lv, q, -⟩ := hl; rw [c3]; exact q.1
  have hwords : nativeFrameWords "java/lang/System" "arraycopy" 5 ≤ 20 := by decide
  have hfl : ∀ j : Nat, j < es.length → ∃ x, f j = .long x := by
    intro j hj
    obtain ⟨x, hx⟩ := hall es[j] (List.getElem_mem hj)
    have h9 := hV0 j es[j] (List.getElem?_eq_getElem hj)
    rw [hx] at h9
    exact ⟨x, h9⟩
  intro TT hT X
  obtain ⟨-, k0, hk0, cm0, hkk0⟩ := (hK.2.1 .long hty).1 es.length f
  obtain ⟨-, k1, hk1, cm1, hkk1⟩ := (hK.2.1 .long hty).1 ed.length g
  obtain ⟨vm', X', step⟩ := X.arraycopy C.1 C.2.2.2.2.1 (hts _ hw) (hts _ hw2) (hts _ hw3) (hts _ hw4) (src := a0) (dst := a1) (cs := arrV (D.2.2 .long) es.length f) (cd := arrV (D.2.2 .long) ed.length g) (srcPos := sp) (destPos := dp) (n := n) (by rw [hT]; exact q0) (by rw [hT]; exact q1)
    (fun _ h => by cases h) (fun _ h => by cases h) (fun h => by cases h) (fun h => by cases h) hk0 hk1 hkk0 hkk1 (by simp [refKind]) h1 h2 h3
    (by rw [nn sp h1, nn n h3, arrV_size]; omega)
    (by rw [nn dp h2, nn n h3, arrV_size]; omega)
    (fun vm₁ _ i hi => by
      obtain ⟨x, hx⟩ := hfl (sp.toNatClampNeg + i) (by omega)
      have e : (arrV (D.2.2 .long) es.length f).slots.getD (sp.toNatClampNeg + i) .null = .long x := by
        rw [Array.getD_eq_getD_getElem?, arrV_read _ _ (by omega), hx]
        rfl
      refine ⟨?_, ?_⟩
      · rw [e]; rfl
      · rw [e]; exact trivial)
    (g := F0 m pc lsR (.int n :: .int dp :: .ref a1 :: .int sp :: .ref a0 :: t5)) rfl hsz (rest := t5) rfl (by rw [C.2.1]; exact hd) (by omega) (by show 2 * 0 + _ + _ ≤ _; omega)
  have e1 : copied (arrV (D.2.2 .long) es.length f) (arrV (D.2.2 .long) ed.length g) sp dp n = arrV (D.2.2 .long) ed.length (va_cpy f g sp.toNatClampNeg dp.toNatClampNeg n.toNatClampNeg) := va_copied (fun z => z) (D.2.2 .long) (D.2.2 .long) f g h4
  rw [e1] at X' step
  have hlt : a1 < H.size := (Array.getElem?_eq_some_iff.mp q1).1
  have hheap : ((TT.setVm vm').setCell a1 (arrV (D.2.2 .long) ed.length (va_cpy f g sp.toNatClampNeg dp.toNatClampNeg n.toNatClampNeg))).heap = H.setIfInBounds a1 (arrV (D.2.2 .long) ed.length (va_cpy f g sp.toNatClampNeg dp.toNatClampNeg n.toNatClampNeg)) := by rw [← hT]; rfl
  obtain ⟨t, b1, b2⟩ := kk p l e R s m args below meth c D B0 ad0 Z C S0 O ad _ _ cells slots lsR _ (hH.set (H1 := H.setIfInBounds a1 (arrV (D.2.2 .long) ed.length (va_cpy f g sp.toNatClampNeg dp.toNatClampNeg n.toNatClampNeg))) hn1 ha1 (by simp) (fun q hq => by simp [Array.getElem?_setIfInBounds, Ne.symm hq]) ⟨hty, va_cpy f g sp.toNatClampNeg dp.toNatClampNeg n.toNatClampNeg, by simp only [cpyL_len h4 h5, Array.getElem?_setIfInBounds, if_pos hlt]; simp, cpyL_at h4 h5 hV0 hV1⟩) hA (fun q hq => by
      rcases List.mem_append.mp hq with h9 | h9
      · exact hL q h9
      · obtain ⟨z, -, hz⟩ := List.mem_map.mp h9
        rw [← hz]
        exact hH.2.2.2.2.1.1 nd a1 ha1 (hH.ns hn1)) hc hs hl hst _ hheap X'
  exact ⟨t, step t b1, b2⟩
end Copy
