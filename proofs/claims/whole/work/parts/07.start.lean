-- ===== the law's words =====
/-! THE CLAIM OUT OF ONE WALK OF THE LAW'S BODY. Your part is whole_start (and what it stands on); all else here is the same for every law, but numbers. -/
def R_law : String := "RecordBridgeLaw"
def lw_P (b : Addr) (xs : List Int32) (args : Array Value) (s : State) : Prop := args = #[.ref b] ∧ s.IntsAt b xs ∧ xs.length ≤ 3072 ∧ (Jvm.Cond.and given_1 narrow_1).before args s = true
/-- what a walk over the start with the record d0 says of its end, said of the start itself -/
theorem lw_closed {s t : State} {o : Outcome} {d0 : Drawn} {L : List Loc} {k n : Nat} (hd0 : s.drawn.sameBut d0 lw_cs) (hv : ∃ v, o = .returned v) (hW : (s.setDrawn d0).WarmedH t.vm) (hs : (s.setDrawn d0).sameButNew ({ t with vm := s.vm } : State) L k n) : State.butDraws s t lw_cs (fun t1 => Framed s o t1 L k n) := by
  have h2 : t.drawn = d0 := congrArg State.drawn hs.1
  refine ⟨⟨hv, hW, State.sameButNew.setDrawn hs s.drawn⟩, ?_, by decide⟩
  rw [h2]
  exact hd0
def lw_Q (_ : Array Value) (s : State) (o : Outcome) (t : State) : Prop := o = .returned (some (.int 1)) ∧ State.butDraws s t lw_cs (fun t1 => Framed s o t1 [] 600000 7302250)
def lw_Z (below : List Frame) (a : Array Value) (s : State) : State → Prop := fun t => ∃ o, t.status = .running ∧ Ended t below o ∧ lw_Q a s o t
/-- the law's own end, with 1 on the stack, nothing written that was there before, its room as the claim has it; d0: the record of draws at this point (at the entry s.drawn: begin with 'refine W.base ?_' and 'have hd0 := Drawn.sameBut.refl s.drawn lw_cs') -/
theorem lw_ret {p : Program} {l : Launch} {e : Env} {s : State} {m : MethodId} {below : List Frame} {meth : Method} {c : Code} {b : Nat} {d0 : Drawn} (hd0 : s.drawn.sameBut d0 lw_cs) (hx : p.tables.exec = Jvm.exec) (hb : c.code = code) (hr : meth.sig.returnType = ret) (hlocks : meth.locks = false) {pc : Nat} {H : Heap} {ls : Array Slot} (hdg : decode code pc = .ok (.ireturn, 1)) : W p l e room_1 (s.setDrawn d0) m #[Value.ref b] below meth c H [] 600000 7302250 (lw_Z below #[Value.ref b] s) (F0 m pc ls [.int 1]) := by
  intro T hT X
  obtain ⟨fs, hret, hrun, hended, hW, hframe⟩ := X.leave (v := some (.int 1)) (hlocks := hlocks) (fun h => by rw [hr] at h; cases h)
  have hmeth' : T.vm.method? m = some meth := X.method'
  refine ⟨T.setFrames fs, ?_, .returned (some (.int 1)), hrun, hended, rfl, lw_closed hd0 ⟨_, rfl⟩ hW hframe⟩
  jvm_step X.here [X.here.top, hx, hb, hdg, hmeth', hr, ret, narrow_b1]
  (try refine ⟨rfl, ?_⟩); (try refine ⟨rfl, ?_⟩)
  first | (intro acts; rw [hret _ acts rfl rfl rfl]) | rw [hret _ _ rfl rfl rfl]
  exact Steps.refl _
/-- what holds at the law's entry: the machine, the code, the tables' words (any of lw_tbl by 'hts w (by decide +kernel)'), the script of L ints xs at the cell b, what the Statement gives of the start (any of its parts by flat_of_before) -/
def lw_At (p : Program) (s : State) (m : MethodId) (meth : Method) (c : Code) (b L : Nat) (xs : Nat → Int32) : Prop :=
  p.tables.exec = Jvm.exec ∧ c.code = code ∧ meth.sig.returnType = ret ∧ c.maxLocals = 4 ∧ s.vm.findClass R_law = some m.cls ∧ (∀ w ∈ lw_tbl, w.before #[Value.ref b] s = true) ∧ va_X b L xs s s.heap ∧ b < s.heap.size ∧ meth.locks = false ∧ (Jvm.Cond.and given_1 narrow_1).before #[Value.ref b] s = true

theorem in_X0 : ∀ w ∈ wsX00, w ∈ gTbl := by decide +kernel
theorem in_X1 : ∀ w ∈ wsX10, w ∈ gTbl := by decide +kernel
theorem in_X2 : ∀ w ∈ wsX20, w ∈ gTbl := by decide +kernel
theorem in_X3 : ∀ w ∈ wsX30, w ∈ gTbl := by decide +kernel
theorem in_X5 : ∀ w ∈ wsX50, w ∈ gTbl := by decide +kernel
theorem in_X6 : ∀ w ∈ wsX60, w ∈ gTbl := by decide +kernel
theorem in_X7 : ∀ w ∈ wsX70, w ∈ gTbl := by decide +kernel
theorem in_X8 : ∀ w ∈ wsX80, w ∈ gTbl := by decide +kernel
theorem in_X9 : ∀ w ∈ wsX90, w ∈ gTbl := by decide +kernel
theorem in_X10 : ∀ w ∈ wsX100, w ∈ gTbl := by decide +kernel
theorem in_X11 : ∀ w ∈ wsX110, w ∈ gTbl := by decide +kernel
theorem in_X12 : ∀ w ∈ wsX120, w ∈ gTbl := by decide +kernel
section Scr
variable {μ : MU} {d pc : Nat} {ls : List (Option MV)} {st : List MV} {h : MH} {u : Nat} {Q : Option MV → MH → Prop}
theorem T_sld {L : Nat} {xs : Nat → Int32} {i : Int32} (hm : μ.2.2.2.2 = some (L, xs)) (hd : decode μ.2.1 pc = .ok (.iaload, 1)) (hi : vp_in i L) (kk : T μ d (pc + 1) ls (jI (xs i.toNatClampNeg) :: st) h u Q) : T μ d pc ls (jI i :: jR (some scr) :: st) h u Q := by
  intro p l e R s m args below meth c D B0 ad0 Z C S0 O ad H locs cells slots lsR stR hH hA hL hc hs hl hst
  obtain ⟨w0, t0, e0, v0, hst⟩ := hst
  obtain ⟨w1, t1, e1, ⟨a0, ha0, v1⟩, hst⟩ := hst
  subst e0; subst e1; subst v1; cases v0
  have S1 := S0
  rw [hm] at S1
  obtain ⟨b, hb, ⟨cell, g1, g2, g3, g4, g5⟩, hlt⟩ := S1
  cases ha0.symm.trans (hA _ _ hb)
  have hcell : H[a0]? = some cell := (hH.2.1 a0 hlt).trans g1
  have hil : i.toNatClampNeg < L := Nat.not_le.mp fun q => hi (Or.inr q)
  exact W.iald C.1 C.2.1 hcell g2 g3 (by rw [g4]; exact hi) (g5 _ hil) rfl rfl hd (kk p l e R s m args below meth c D B0 ad0 Z C S0 O ad H locs cells slots lsR _ hH hA hL hc hs hl ⟨_, _, rfl, rfl, hst⟩)
theorem T_slen {L : Nat} {xs : Nat → Int32} (hm : μ.2.2.2.2 = some (L, xs)) (hd : decode μ.2.1 pc = .ok (.arraylength, 1)) (kk : T μ d (pc + 1) ls (jI (Int32.ofNat L) :: st) h u Q) : T μ d pc ls (jR (some scr) :: st) h u Q := by
  intro p l e R s m args below meth c D B0 ad0 Z C S0 O ad H locs cells slots lsR stR hH hA hL hc hs hl hst
  obtain ⟨w1, t1, e1, ⟨a0, ha0, v1⟩, hst⟩ := hst
  subst e1; subst v1
  have S1 := S0
  rw [hm] at S1
  obtain ⟨b, hb, ⟨cell, g1, g2, g3, g4, g5⟩, hlt⟩ := S1
  cases ha0.symm.trans (hA _ _ hb)
  have hcell : H[a0]? = some cell := (hH.2.1 a0 hlt).trans g1
  exact W.alen (n := Int32.ofNat L) C.1 C.2.1 hcell g2 (by rw [g4]) rfl rfl hd (kk p l e R s m args below meth c D B0 ad0 Z C S0 O ad H locs cells slots lsR _ hH hA hL hc hs hl ⟨_, _, rfl, rfl, hst⟩)
end Scr
abbrev uL (L : Nat) (xs : Nat → Int32) : MU := (x, code, 4, ret, some (L, xs))
theorem kk_cls {s : State} {args : Array Value} (hts : ∀ w ∈ gTbl, w.before args s = true) : ∀ q ∈ vwCl, ∃ (cC : ClassId) (iS : Nat → Nat), u_Kn s q.1 q.2.1 q.2.2 cC iS := by
  intro q hq
  simp only [vwCl, List.mem_cons, List.not_mem_nil, or_false] at hq
  rcases hq with rfl | rfl | rfl | rfl | rfl | rfl | rfl | rfl | rfl | rfl | rfl | rfl
  · exact u_known (n := 1) hts in_X0 (hts (.instantiable RX0 1) (by decide +kernel))
  · exact u_known (n := 4) hts in_X1 (hts (.instantiable RX1 4) (by decide +kernel))
  · exact u_known (n := 5) hts in_X2 (hts (.instantiable RX2 5) (by decide +kernel))
  · exact u_known (n := 7) hts in_X3 (hts (.instantiable RX3 7) (by decide +kernel))
  · exact u_known (n := 4) hts in_X5 (hts (.instantiable RX5 4) (by decide +kernel))
  · exact u_known (n := 3) hts in_X6 (hts (.instantiable RX6 3) (by decide +kernel))
  · exact u_known (n := 4) hts in_X7 (hts (.instantiable RX7 4) (by decide +kernel))
  · exact u_known (n := 4) hts in_X8 (hts (.instantiable RX8 4) (by decide +kernel))
  · exact u_known (n := 2) hts in_X9 (hts (.instantiable RX9 2) (by decide +kernel))
  · exact u_known (n := 8) hts in_X10 (hts (.instantiable RX10 8) (by decide +kernel))
  · exact u_known (n := 14) hts in_X11 (hts (.instantiable RX11 14) (by decide +kernel))
  · exact u_known (n := 46) hts in_X12 (hts (.instantiable RX12 46) (by decide +kernel))
theorem kk_prim {s : State} {args : Array Value} {ty : FieldType} (h : (Cond.arrayClass ty).before args s = true) (hp : ∀ n, ty ≠ .object n) : ∃ cA, ArrOfT s cA ty ∧ va_RA s cA ty := by
  obtain ⟨c, k, comp, h1, h2, h3⟩ := Cond.arrayClass_spec h
  refine ⟨c, fun n z => ⟨fun k h => (by cases h), k, h2, comp, h3⟩, ?_⟩
  cases ty with
  | object n => exact absurd rfl (hp n)
  | _ => exact h1
theorem kk_obj {s : State} {n : String} (h : va_AO n s) : ∃ cA, ArrOfT s cA (.object n) ∧ va_RA s cA (.object n) := by
  obtain ⟨comp, c, k, h1, h2, h3, h4, h5⟩ := Cond.arrayOver_spec h
  exact ⟨c, fun n z => ⟨fun k h => (by cases h), k, h3, comp, h4⟩, k, comp, h3, h4, h1, h5⟩
theorem NG_in : ∀ w ∈ NG, w ∈ lw_tbl := by decide +kernel
theorem kk_of {s : State} {args : Array Value} (hts : ∀ w ∈ lw_tbl, w.before args s = true) : ∃ D : DD, KK D s := by
  have htg : ∀ w ∈ gTbl, w.before args s = true := fun w hw => hts w (List.mem_filter.mp hw).1
  have hng : ∀ w ∈ NG, va_Nw w s := by
    intro w hw
    have h1 := hts w (NG_in w hw)
    simp only [NG, List.mem_cons, List.not_mem_nil, or_false] at hw
    rcases hw with rfl | rfl | rfl | rfl | rfl | rfl
    · exact va_AO.of h1
    · exact va_AO.of h1
    · exact va_AO.of h1
    · exact va_AO.of h1
    · exact va_Nw.of rfl h1
    · exact va_Nw.of rfl h1
  have hcl : ∀ c : Nat, ∃ x : ClassId × (Nat → Nat), ∀ q, vwCl[c]? = some q → u_Kn s q.1 q.2.1 q.2.2 x.1 x.2 := by
    intro c
    cases hq : vwCl[c]? with
    | none => exact ⟨(0, fun _ => 0), fun q h => by cases h⟩
    | some q =>
      obtain ⟨cC, iS, hk⟩ := kk_cls htg q (List.mem_of_getElem? hq)
      exact ⟨(cC, iS), fun q' h => by cases h; exact hk⟩
  have har : ∀ ty : FieldType, ∃ cA : ClassId, ty ∈ aTys → ArrOfT s cA ty ∧ va_RA s cA ty := by
    intro ty
    by_cases hm : ty ∈ aTys
    · have : ∃ cA, ArrOfT s cA ty ∧ va_RA s cA ty := by
        simp only [aTys, List.mem_cons, List.not_mem_nil, or_false] at hm
        rcases hm with rfl | rfl | rfl | rfl | rfl | rfl | rfl | rfl | rfl
        · exact kk_prim (hts (.arrayClass .int) (by decide +kernel)) (fun n h => by cases h)
        · exact kk_prim (hts (.arrayClass .long) (by decide +kernel)) (fun n h => by cases h)
        · exact kk_prim (hts (.arrayClass .boolean) (by decide +kernel)) (fun n h => by cases h)
        · exact kk_prim (hts (.arrayClass .byte) (by decide +kernel)) (fun n h => by cases h)
        · exact kk_prim (hts (.arrayClass .char) (by decide +kernel)) (fun n h => by cases h)
        · exact kk_obj (hng (.arrayOver (.object "RecordBridge$Row")) (by decide +kernel))
        · exact kk_obj (hng (.arrayOver (.object "RecordBridge$Value")) (by decide +kernel))
        · exact kk_obj (hng (.arrayOver (.object "RecordBridge$Kind")) (by decide +kernel))
        · exact kk_obj (hng (.arrayOver (.object "RecordBridge$Edition")) (by decide +kernel))
      obtain ⟨cA, h⟩ := this
      exact ⟨cA, fun _ => h⟩
    · exact ⟨0, fun h => absurd h hm⟩
  refine ⟨(fun c => (Classical.choose (hcl c)).1, fun c => (Classical.choose (hcl c)).2, fun ty => Classical.choose (har ty)), ?_, ?_, hng⟩
  · intro c q hq
    exact Classical.choose_spec (hcl c) q hq
  · intro ty hty
    exact Classical.choose_spec (har ty) hty
/-- the law's start out of its walk over the smaller machine, which begins with an empty heap -/
theorem start_of {p : Program} {e : Env} {s : State} {m : MethodId} {below : List Frame} {meth : Method} {c : Code} (l : Launch) {b L : Nat} {xs : Nat → Int32} (C0 : lw_At p s m meth c b L xs)
    (k : T (uL L xs) 100 0 [some (jR (some scr)), none, none, none] [] (fun _ => none) 600000 (fun v _ => v = some (jI 1))) : W p l e room_1 s m #[Value.ref b] below meth c s.heap [] 0 0 (lw_Z below #[Value.ref b] s) (entryFrame m ([Value.ref b] : List Value).toArray 4) := by
  obtain ⟨hx, hb, hr, hml, hown, hts, hX, hbl, hlocks, hgv⟩ := id C0
  obtain ⟨D, hK⟩ := kk_of hts
  have htg : ∀ w ∈ gTbl, w.before #[Value.ref b] s = true := fun w hw => hts w (List.mem_filter.mp hw).1
  rw [lg_entry_eq]
  refine W.base ?_
  have hd0 := Drawn.sameBut.refl s.drawn lw_cs
  have ad1 : adset (fun _ => none) scr b scr = some b := by simp [adset]
  have adn : ∀ n, n ≠ scr → adset (fun _ => none) scr b n = none := fun n h => by simp [adset, h]
  have hent := lv_entry [Value.ref b] (n := 4) (Nat.le_of_ble_eq_true rfl)
  refine k p l e room_1 (s.setDrawn s.drawn) m #[Value.ref b] below meth c D s.heap (adset (fun _ => none) scr b) (lw_Z below #[Value.ref b] s) ⟨hx, hb, hml, hr, hown, dr_words htg _, hlocks, fun h => absurd h (show ¬ x.name = "<init>" by decide), KK.same (u := s) rfl hK, by decide, by decide⟩ ⟨b, ad1, va_X.moved (u := s) (U := s.setDrawn s.drawn) (Vm.Alike.refl s.vm) hX, hbl⟩ ?_ (adset (fun _ => none) scr b) s.heap [] 0 0 _ [] ⟨Nat.le_refl _, fun q _ => rfl, fun n => ?_, fun n n' a h1 h2 => ?_, ⟨fun n a h1 h2 => ?_, fun a h1 => ?_⟩, fun n c a h1 h2 => by cases h1⟩ (AdLe.rf _) (fun q hq => by cases hq) (by decide) (by decide) ⟨_, hent, fun i v hv => ?_⟩ rfl
  · intro ad h H locs cells slots v w i pc lsR a1 a2 a3 a4 a5 hQ a6 a7 a8
    subst hQ
    obtain ⟨y, rfl, hy⟩ := a6
    cases hy
    rcases a7 with ⟨rfl, x, ty, e1, e2, e3⟩ | ⟨rfl, x, e1, e2⟩ | ⟨rfl, o, rt, e1, e2, e3⟩ | ⟨rfl, e1, e2⟩
    · refine va_forget a3 ?_
      refine W.widen a4 a5 ?_
      exact lw_ret hd0 hx hb hr hlocks a8
    · cases e1
    · cases e1
    · cases e1
  · by_cases h : n = scr
    · simp [h]
    · simp [adn n h]
  · by_cases q1 : n = scr
    · by_cases q2 : n' = scr
      · rw [q1, q2]
      · rw [adn n' q2] at h2; cases h2
    · rw [adn n q1] at h1; cases h1
  · rw [adn n h2] at h1; cases h1
  · rw [ad1] at h1; cases h1; exact hbl
  · match i, hv with
    | 0, hv => cases hv; exact ⟨.ref b, by simp [lv_args], b, ad1, rfl⟩
    | 1, hv => cases hv
    | 2, hv => cases hv
    | 3, hv => cases hv
    | i + 4, hv => simp at hv
