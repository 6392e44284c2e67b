/-! CALLS, and a method's contract out of its walk -/
/-- what the tables say of a method that is called -/
def MF (ν : MU) (n : Nat) : Prop := Cond.code ν.1 ν.2.1 ν.2.2.1 ν.2.2.2.1 ∈ gTbl ∧ Cond.initialized ν.1.cls ∈ gTbl ∧ (ν.1.cls ≠ "java/lang/invoke/MethodHandle" ∧ ν.1.cls ≠ "java/lang/invoke/VarHandle" ∧ (parseMethodDescriptor ν.1.desc).map (fun d => d.parameters.length) = some n) ∧ ν.2.2.1 ≤ 40
def catS : List MV → Nat
  | [] => 0
  | v :: vs => (if cat2 v then 2 else 1) + catS vs
theorem SR.catS {ad : AD} : ∀ {st : List MV} {ws : List Value}, SR ad st ws → (ws.map fun v => v.category).sum = catS st
  | [], _, k => by cases k; rfl
  | v :: st, _, ⟨w, ws', e, k1, k2⟩ => by
    subst e
    have := SR.catS k2
    have h2 := k1.cat
    show w.category + (ws'.map fun v => v.category).sum = (if cat2 v then 2 else 1) + _
    rw [h2, this]
theorem gTbl_good {ν : MU} (h : Cond.code ν.1 ν.2.1 ν.2.2.1 ν.2.2.2.1 ∈ gTbl) : GoodIn gTbl (wsOf ν) := by
  intro w hw
  rcases List.mem_cons.mp hw with rfl | hw
  · exact ⟨h, good_of_word (List.mem_filter.mp h).2⟩
  · exact ⟨hw, good_of_word (List.mem_filter.mp hw).2⟩
theorem Ct_blind (ad : AD) (av : List MV) (D : DD) (B0 : Heap) (h : MH) : FrameBlind (fun a U => SR ad av a.toList ∧ HR D B0 ad h U.heap ∧ KK D U) :=
  fun a U g mk q => ⟨q.1, q.2.1, KK.same (u := U) (U := U.calling g mk a) (show U.vm = (U.calling g mk a).vm from rfl) q.2.2⟩
section Calls5
variable {p : Program} {l : Launch} {e : Env} {R : Room} {s : State} {m : MethodId} {args : Array Value} {below : List Frame} {meth : Method} {c : Code} {H : Heap} {locs : List Loc} {cells slots : Nat} {Z : State → Prop}
/-- behind a call: the walk goes on -/
theorem call_on {μ : MU} {d pc : Nat} {ls : List (Option MV)} {rest : List MV} {u u1 : Nat} {Q : Option MV → MH → Prop} {D : DD} {B0 : Heap} {ad0 ad : AD} {lsR : Array Slot} {stR restR : List Value} {a : Array Value}
    (C : CX μ (d + 1) D p R s m args meth c) (S0 : SCX μ.2.2.2.2 B0 ad0 s) (O : RO μ D B0 ad0 p l e R s m args below meth c Q Z) (hA : AdLe ad0 ad) (hL : ∀ q ∈ locs, B0.size ≤ q.base) (hu : u1 ≤ u) (hc : cells + u ≤ R.cells) (hs : slots + u ≤ R.slots) (hl : LR ad μ.2.2.1 ls lsR) (hst : SR ad rest restR)
    (hr : va_Run p l e R s m args below meth c H locs cells slots u1 u1 (F0 m pc lsR stR) restR ((fun (_ : Array Value) (_ : State) o t => ∃ (v : Option MV) (h' : MH) (ad' : AD) (w : Option Value), (T μ (d + 1) (pc + 3) ls (v.toList ++ rest) h' (u - u1) Q) ∧ AdLe ad ad' ∧ HR D B0 ad' h' t.heap ∧ OVR ad' v w ∧ o = .returned w) a) (fun q => B0.size ≤ q)) :
    W p l e R s m args below meth c H locs cells slots Z (F0 m pc lsR stR) := by
  intro TT hT X
  obtain ⟨v, st₀, t, T', L, h0, X', hL2, e1, e2, ⟨v1, h', ad', w, hK, hle, hHR, hov, ho⟩, st⟩ := hr TT hT X
  cases ho
  have hst2 : SR ad' (v1.toList ++ rest) (v.toList ++ restR) := by
    match v1, v, hov with
    | none, _, hov => cases hov; exact hst.mono hle
    | some x, _, ⟨y, e, hv⟩ => cases e; exact ⟨y, restR, rfl, hv, hst.mono hle⟩
  rw [← e1] at hHR
  obtain ⟨t2, a1, b1⟩ := hK p l e R s m args below meth c D B0 ad0 Z C S0 O ad' T'.heap (locs ++ L) (cells + u1) (slots + u1) lsR _ hHR (hA.tr hle) (fun q hq => by
    rcases List.mem_append.mp hq with h9 | h9
    · exact hL q h9
    · exact hL2 q h9) (by omega) (by omega) (hl.mono hle) hst2 T' rfl X'
  exact ⟨t2, st t2 a1, b1⟩
end Calls5
section Calls6
variable {μ ν : MU} {d pc : Nat} {ls : List (Option MV)} {st : List MV} {h : MH} {u : Nat} {Q : Option MV → MH → Prop}
theorem T_invS {idx n : Nat} {av rest : List MV} (hd : decode μ.2.1 pc = .ok (.invokestatic idx, 3)) (hm : MF ν n) (hw : Cond.methodLink μ.1.cls idx ν.1 ∈ gTbl) (hw2 : Cond.static ν.1 ∈ gTbl) (hn : av.length = n) (hr : catS rest ≤ 8) (he : st = av.reverse ++ rest)
    (k : inv d ν av h u (fun v h' u' => T μ (d + 1) (pc + 3) ls (v.toList ++ rest) h' u' Q)) : T μ (d + 1) pc ls st h u Q := by
  intro p l e R s m args below meth c D B0 ad0 Z C S0 O ad H locs cells slots lsR stR hH hA hL hc hs hl hst
  subst he
  obtain ⟨x, y, hxy, hst1, hst2⟩ := hst.split
  subst hxy
  obtain ⟨u1, hu, hC⟩ := k
  obtain ⟨m1, m2, m3, m4⟩ := hm
  obtain ⟨c1, c2, c3, c4, c5, c6, c7, c8, c9, c10, c11⟩ := id C
  have hsz : lsR.size = μ.2.2.1 := by obtain ⟨lv, q, -⟩ := hl; exact q.1
  have hrv := hst1.rev
  rw [List.reverse_reverse] at hrv
  have hsum := hst2.catS
  have hav : x.reverse.length = n := by rw [SR.len hrv, hn]
  refine call_on (a := x.reverse.toArray) C S0 O hA hL hu hc hs hl hst2 (va_runS (As := x.reverse) (rest := y) (n := n) (S := ⟨c1, c2, c3, c5, c6⟩) (hC l D B0 ad) ⟨callB_of n c6 (gTbl_good m1) rfl rfl rfl (c6 _ m2) (c6 _ hw) m3 ⟨c10, ?_⟩, c6 _ hw2⟩ ⟨Ct_blind _ _ _ _ _, fun U hU hW => ⟨hrv, by rw [hU]; exact hH, c9.moved hW⟩⟩ rfl hav hsz (by rw [List.reverse_reverse]) ?_ hd ⟨by omega, by omega⟩)
  · show 8 + (ν.2.2.1 + 11) + 80 * d ≤ R.locals
    omega
  · exact lv_room (by omega)
theorem T_invV {idx n ci : Nat} {av rest fs : List MV} {nm : Nm} (hd : decode μ.2.1 pc = .ok (.invokevirtual idx, 3)) (hm : MF ν n) (hw : Cond.methodLink μ.1.cls idx ν.1 ∈ gTbl) (hw2 : Cond.instanceMethod ν.1 ∈ gTbl) (hw3 : Cond.selects ν.1.cls ν.1 ν.1 ∈ gTbl) (hci : (vwCl[ci]?).map (fun q => q.1) = some ν.1.cls) (hn : av.length = n) (hr : catS rest ≤ 8) (ho : h nm = some (.inl (ci, fs))) (he : st = av.reverse ++ jR (some nm) :: rest)
    (k : inv d ν (jR (some nm) :: av) h u (fun v h' u' => T μ (d + 1) (pc + 3) ls (v.toList ++ rest) h' u' Q)) : T μ (d + 1) pc ls st h u Q := by
  intro p l e R s m args below meth c D B0 ad0 Z C S0 O ad H locs cells slots lsR stR hH hA hL hc hs hl hst
  subst he
  obtain ⟨x, y, hxy, hst1, hst2⟩ := hst.split
  subst hxy
  obtain ⟨w0, y0, e0, ⟨a0, ha0, v0⟩, hst2⟩ := hst2
  subst e0; subst v0
  obtain ⟨u1, hu, hC⟩ := k
  obtain ⟨m1, m2, m3, m4⟩ := hm
  obtain ⟨c1, c2, c3, c4, c5, c6, c7, c8, c9, c10, c11⟩ := id C
  have hsz : lsR.size = μ.2.2.1 := by obtain ⟨lv, q, -⟩ := hl; exact q.1
  have hrv := hst1.rev
  rw [List.reverse_reverse] at hrv
  have hsum := hst2.catS
  have hav : x.reverse.length = n := by rw [SR.len hrv, hn]
  obtain ⟨a, ha, r, V, r1, r2, ⟨cell, q1, q2, q3, q4⟩, hV⟩ := hH.at ho
  cases ha0.symm.trans ha
  have hcls := (c9.1 ci r r1).2.1
  rw [r1] at hci
  have hci : r.1 = ν.1.cls := Option.some.inj hci
  rw [hci] at hcls
  refine call_on (a := (Value.ref a0 :: x.reverse).toArray) C S0 O hA hL hu hc hs hl hst2 (va_runV (As := x.reverse) (rest := y0) (b := a0) (C := ν.1.cls) (n := n) (S := ⟨c1, c2, c3, c5, c6⟩) (hC l D B0 ad) ⟨callB_of n c6 (gTbl_good m1) rfl rfl rfl (c6 _ m2) (c6 _ hw) m3 ⟨c10, ?_⟩, c6 _ hw2, c6 _ hw3⟩ ⟨Ct_blind _ _ _ _ _, ⟨cell, q1, by rw [q3]; rfl, by rw [q2]; exact hcls⟩, fun U hU hW => ⟨⟨_, _, rfl, ⟨a0, ha0, rfl⟩, hrv⟩, by rw [hU]; exact hH, c9.moved hW⟩⟩ rfl hav hsz (by rw [List.reverse_reverse]) ?_ hd ⟨by omega, by omega⟩)
  · show 8 + (ν.2.2.1 + 11) + 80 * d ≤ R.locals
    omega
  · exact lv_room (by omega)
theorem T_invI {idx n : Nat} {av rest : List MV} {nm : Nm} (hd : decode μ.2.1 pc = .ok (.invokespecial idx, 3)) (hm : MF ν n) (hret : ν.2.2.2.1 = none) (hin : ν.1.name = "<init>") (hw : Cond.methodLink μ.1.cls idx ν.1 ∈ gTbl) (hw2 : Cond.instanceMethod ν.1 ∈ gTbl) (hn : av.length = n) (hr : catS rest ≤ 8) (he : st = av.reverse ++ jR (some nm) :: rest)
    (k : inv d ν (jR (some nm) :: av) h u (fun v h' u' => T μ (d + 1) (pc + 3) ls (v.toList ++ rest) h' u' Q)) : T μ (d + 1) pc ls st h u Q := by
  intro p l e R s m args below meth c D B0 ad0 Z C S0 O ad H locs cells slots lsR stR hH hA hL hc hs hl hst
  subst he
  obtain ⟨x, y, hxy, hst1, hst2⟩ := hst.split
  subst hxy
  obtain ⟨w0, y0, e0, ⟨a0, ha0, v0⟩, hst2⟩ := hst2
  subst e0; subst v0
  obtain ⟨u1, hu, hC⟩ := k
  obtain ⟨ν1, ν2, ν3, ν4, ν5⟩ := ν
  dsimp only at hret
  subst hret
  obtain ⟨m1, m2, m3, m4⟩ := hm
  obtain ⟨c1, c2, c3, c4, c5, c6, c7, c8, c9, c10, c11⟩ := id C
  have hsz : lsR.size = μ.2.2.1 := by obtain ⟨lv, q, -⟩ := hl; exact q.1
  have hrv := hst1.rev
  rw [List.reverse_reverse] at hrv
  have hsum := hst2.catS
  have hav : x.reverse.length = n := by rw [SR.len hrv, hn]
  refine call_on (a := (Value.ref a0 :: x.reverse).toArray) C S0 O hA hL hu hc hs hl hst2 (va_runI (As := x.reverse) (rest := y0) (b := a0) (n := n) (S := ⟨c1, c2, c3, c5, c6⟩) (hC l D B0 ad) ⟨callB_of n c6 (gTbl_good m1) rfl rfl rfl (c6 _ m2) (c6 _ hw) m3 ⟨c10, ?_⟩, hin, c6 _ hw2⟩ ⟨Ct_blind _ _ _ _ _, fun U hU hW => ⟨⟨_, _, rfl, ⟨a0, ha0, rfl⟩, hrv⟩, by rw [hU]; exact hH, c9.moved hW⟩⟩ rfl hav hsz (by rw [List.reverse_reverse]) ?_ hd ⟨by omega, by omega⟩)
  · show 8 + (ν3 + 11) + 80 * d ≤ R.locals
    have m4 : ν3 ≤ 40 := m4
    omega
  · exact lv_room (by omega)
theorem T_invIo {idx n : Nat} {av rest : List MV} {o : Option Nm} {nm : Nm} (ho : o = some nm) (hd : decode μ.2.1 pc = .ok (.invokespecial idx, 3)) (hm : MF ν n) (hret : ν.2.2.2.1 = none) (hin : ν.1.name = "<init>") (hw : Cond.methodLink μ.1.cls idx ν.1 ∈ gTbl) (hw2 : Cond.instanceMethod ν.1 ∈ gTbl) (hn : av.length = n) (hr : catS rest ≤ 8) (he : st = av.reverse ++ jR o :: rest)
    (k : inv d ν (jR o :: av) h u (fun v h' u' => T μ (d + 1) (pc + 3) ls (v.toList ++ rest) h' u' Q)) : T μ (d + 1) pc ls st h u Q := by
  subst ho
  exact T_invI hd hm hret hin hw hw2 hn hr he k
theorem T_invN {idx n : Nat} {av rest : List MV} (hd : decode μ.2.1 pc = .ok (.invokestatic idx, 3)) (hm : MF ν n) {host : String} (hw : Cond.methodLinkNest μ.1.cls idx ν.1 host ∈ NG) (hw2 : Cond.static ν.1 ∈ gTbl) (hn : av.length = n) (hr : catS rest ≤ 8) (he : st = av.reverse ++ rest)
    (k : inv d ν av h u (fun v h' u' => T μ (d + 1) (pc + 3) ls (v.toList ++ rest) h' u' Q)) : T μ (d + 1) pc ls st h u Q := by
  intro p l e R s m args below meth c D B0 ad0 Z C S0 O ad H locs cells slots lsR stR hH hA hL hc hs hl hst
  subst he
  obtain ⟨x, y, hxy, hst1, hst2⟩ := hst.split
  subst hxy
  obtain ⟨u1, hu, hC⟩ := k
  obtain ⟨m1, m2, m3, m4⟩ := hm
  obtain ⟨c1, c2, c3, c4, c5, c6, c7, c8, c9, c10, c11⟩ := id C
  have hsz : lsR.size = μ.2.2.1 := by obtain ⟨lv, q, -⟩ := hl; exact q.1
  have hrv := hst1.rev
  rw [List.reverse_reverse] at hrv
  have hsum := hst2.catS
  have hav : x.reverse.length = n := by rw [SR.len hrv, hn]
  refine call_on (a := x.reverse.toArray) C S0 O hA hL hu hc hs hl hst2 (va_runSN (As := x.reverse) (rest := y) (n := n) (S := ⟨c1, c2, c3, c5, c6⟩) (hC l D B0 ad) ⟨va_cnB n c6 (gTbl_good m1) rfl rfl rfl (c9.2.2 _ hw) (c6 _ m2) m3 ⟨c10, ?_⟩, c6 _ hw2, trivial⟩ ⟨Ct_blind _ _ _ _ _, fun U hU hW => ⟨hrv, by rw [hU]; exact hH, c9.moved hW⟩⟩ rfl hav hsz (by rw [List.reverse_reverse]) ?_ hd ⟨by omega, by omega⟩)
  · show 8 + (ν.2.2.1 + 11) + 80 * d ≤ R.locals
    omega
  · exact lv_room (by omega)
/-- the locals at a method's entry -/
def entL : List MV → List (Option MV)
  | [] => []
  | v :: vs => if cat2 v then some v :: none :: entL vs else some v :: entL vs
theorem entL_ok {ad : AD} : ∀ {av : List MV} {vs : List Value} (o : Nat), SR ad av vs → ∀ i v, (entL av)[i]? = some (some v) → ∃ w, (o + i, w) ∈ lv_args o vs ∧ VR ad v w
  | [], _, o, _, i, v, hv => by simp [entL] at hv
  | x :: av, _, o, ⟨w, vs', e, h1, h2⟩, i, v, hv => by
    subst e
    have hc := h1.cat
    unfold entL at hv
    by_cases hx : cat2 x = true
    · rw [if_pos hx] at hv hc
      match i, hv with
      | 0, hv => cases hv; exact ⟨w, by simp [lv_args], h1⟩
      | 1, hv => cases hv
      | i + 2, hv =>
        obtain ⟨y, a, b⟩ := entL_ok (o + 2) h2 i v (by simpa using hv)
        refine ⟨y, ?_, b⟩
        unfold lv_args
        rw [if_pos hc]
        exact List.mem_cons_of_mem _ (by rw [show o + (i + 2) = o + 2 + i by omega]; exact a)
    · rw [if_neg hx] at hv hc
      match i, hv with
      | 0, hv => cases hv; exact ⟨w, by simp [lv_args], h1⟩
      | i + 1, hv =>
        obtain ⟨y, a, b⟩ := entL_ok (o + 1) h2 i v (by simpa using hv)
        refine ⟨y, ?_, b⟩
        unfold lv_args
        rw [if_neg (by omega)]
        exact List.mem_cons_of_mem _ (by rw [show o + (i + 1) = o + 1 + i by omega]; exact a)
theorem entL_len {ad : AD} : ∀ {av : List MV} {vs : List Value}, SR ad av vs → (lg_sl vs).length = (entL av).length
  | [], _, h => by cases h; rfl
  | x :: av, _, ⟨w, vs', e, h1, h2⟩ => by
    subst e
    have ih := entL_len h2
    have hc := h1.cat
    unfold entL lg_sl
    rw [List.flatMap_cons]
    unfold lg_sl at ih
    by_cases hx : cat2 x = true
    · rw [if_pos hx] at hc ⊢
      rw [if_pos hc]
      simp [ih]
    · rw [if_neg hx] at hc ⊢
      rw [if_neg (by omega)]
      simp [ih]
/-- a method's contract out of its walk from the entry on -/
theorem Ct.of {av : List MV} {ls : List (Option MV)} (hp : plainFor μ.1 = true) (hno : μ.2.2.2.2 = none) (hlen : ls.length ≤ μ.2.2.1) (hls : entL av ++ List.replicate (ls.length - (entL av).length) none = ls) (k : T μ d 0 ls [] h u Q) : Ct μ d u av h Q := by
  intro l D B0 ad
  refine va_MetF (cc := μ.2.1) (maxL := μ.2.2.1) (ret := μ.2.2.2.1) hp rfl ?_
  intro p e s m args below meth c s₁ B hml hv
  obtain ⟨h1, h2, h3⟩ := hv
  have hlocks := B.notSynchronized
  have hts := atoms_spec (ws := wsOf μ) B.pre
  obtain ⟨vs, rfl⟩ : ∃ vs : List Value, args = vs.toArray := ⟨args.toList, by simp⟩
  simp only [List.toList_toArray] at h1
  rw [lg_entry_eq]
  have hle : (entL av).length ≤ ls.length := by rw [← hls]; simp
  have hll := entL_len h1
  have hent := lv_entry vs (n := μ.2.2.1) (by omega)
  refine k p l e _ s m _ below meth c D B0 ad _ ⟨B.exec, B.bytes, hml, B.returns, findClass_of_methodNamed B.named, fun w hw => hts w (List.mem_cons_of_mem _ hw), hlocks, fun q => by rw [← q]; exact (name_of_methodNamed B.named B.method).1, h3, Nat.le_refl _, Nat.le_refl _⟩ (by rw [hno]; trivial) ?_ ad s.heap [] 0 0 _ [] h2 (AdLe.rf ad) (fun q hq => by cases hq) (by show 0 + u ≤ u; omega) (by show 0 + u ≤ u; omega) ⟨_, hent, fun i v hi => ?_⟩ rfl
  · intro ad' h' H locs cells slots v w i pc lsR a1 a2 a3 a4 a5 hQ a6 a7 a8
    have hret := B.returns
    refine W.widen a4 a5 ?_
    have post : ∀ t : State, t.heap = H → s.WarmedH t.vm → ∃ (v : Option MV) (h' : MH) (ad' : AD) (w2 : Option Value), Q v h' ∧ AdLe ad ad' ∧ HR D B0 ad' h' t.heap ∧ OVR ad' v w2 ∧ Outcome.returned w = .returned w2 := fun t ht _ => ⟨v, h', ad', w, hQ, a2, by rw [ht]; exact a1, a6, rfl⟩
    rcases a7 with ⟨rfl, x, ty, rfl, e2, e3⟩ | ⟨rfl, x, rfl, e2⟩ | ⟨rfl, o, rt, rfl, e2, e3⟩ | ⟨rfl, rfl, e2⟩
    · obtain ⟨y, rfl, hy⟩ := a6
      cases hy
      exact W.zret B.exec B.bytes (hret.trans e2) e3 post a3 a8
    · obtain ⟨y, rfl, hy⟩ := a6
      cases hy
      exact W.lret B.exec B.bytes (hret.trans e2) post a3 a8
    · obtain ⟨y, rfl, hy⟩ := a6
      refine W.aret B.exec B.bytes (hret.trans e2) e3 ?_ post a3 a8
      cases o with
      | none => cases hy; exact Or.inl rfl
      | some n => obtain ⟨b, -, e⟩ := hy; exact Or.inr ⟨b, e⟩
    · cases a6
      exact W.vret B.exec B.bytes (hret.trans e2) post a3 a8
  · rw [← hls] at hi
    have hlt : i < (entL av).length := by
      rcases Nat.lt_or_ge i (entL av).length with q | q
      · exact q
      · rw [List.getElem?_append_right q, List.getElem?_replicate] at hi
        split at hi
        · cases hi
        · cases hi
    rw [List.getElem?_append_left hlt] at hi
    obtain ⟨w, a, b⟩ := entL_ok 0 h1 i v hi
    exact ⟨w, by simpa using a, b⟩
theorem inv.of {av : List MV} {K : Option MV → MH → Nat → Prop} (u1 : Nat) (hu : u1 ≤ u) (k : Ct μ d u1 av h (fun v h' => K v h' (u - u1))) : inv d μ av h u K := ⟨u1, hu, k⟩
theorem Ct.mono {av : List MV} {Q' : Option MV → MH → Prop} (hq : ∀ v h, Q v h → Q' v h) (k : Ct μ d u av h Q) : Ct μ d u av h Q' := by
  intro l D B0 ad p e ha hc hk s m args below hf
  intro a1 a2 a3
  obtain ⟨k1, o, h1, h2, h3, ⟨v, h', ad', w, q, r⟩, h4⟩ := k l D B0 ad p e ha hc hk s m args below hf a1 a2 a3
  exact ⟨k1, o, h1, h2, h3, ⟨v, h', ad', w, hq _ _ q, r⟩, h4⟩
theorem inv.mono {av : List MV} {K K' : Option MV → MH → Nat → Prop} (hk : ∀ v h u, K v h u → K' v h u) (k : inv d μ av h u K) : inv d μ av h u K' := by
  obtain ⟨u1, hu, k⟩ := k
  exact ⟨u1, hu, k.mono (fun v h q => hk _ _ _ q)⟩
end Calls6
