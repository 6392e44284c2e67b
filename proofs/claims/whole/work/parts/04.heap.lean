/-! THE RULES for cells -/
/-- a field, by the pool's number: its kind's number, its place, its type -/
def FA (own : String) (idx ci k : Nat) (ty : FieldType) (fin : Bool) (dcl : String) : Prop :=
  ∃ (Cn : String) (Tb : u_T) (N : Nat) (tyf : Nat → FieldType), vwCl[ci]? = some (Cn, Tb, N) ∧ (∀ w ∈ u_ws Cn Tb N, w ∈ gTbl) ∧ (∀ k, k < N → parseFieldDescriptor (Tb k).2.2.1 = some (tyf k)) ∧ (∀ a, a < N → ∀ b, b < N → a ≠ b → (Tb a).2.1 ≠ (Tb b).2.1) ∧ k < N ∧ Cond.fieldLink own idx (Tb k).1 (Tb k).2.1 (Tb k).2.2.1 ∈ gTbl ∧ tyf k = ty ∧ (Tb k).2.2.2 = fin ∧ (Tb k).1 = dcl
def dflt : FieldType → MV
  | .long => jL 0
  | .float => jF 0
  | .double => jD 0
  | .object _ => jR none
  | .array _ => jR none
  | _ => jI 0
theorem VR_dflt (ad : AD) (ty : FieldType) : VR ad (dflt ty) (defaultValue ty) := by cases ty <;> rfl
/-- what a field of this type may hold -/
def fitsV : FieldType → MV → Prop
  | .int, .inl _ => True
  | .boolean, .inl x => x = 0 ∨ x = 1
  | .long, .inr (.inl _) => True
  | .object _, .inr (.inr (.inr (.inr _))) => True
  | .array _, .inr (.inr (.inr (.inr _))) => True
  | _, _ => False
theorem fitsV_ok {ad : AD} {ty : FieldType} {v : MV} {w : Value} (hf : fitsV ty v) (hv : VR ad v w) : narrow ty w = w ∧ fits ty w = true := by
  match ty, v, hf, hv with
  | .int, .inl x, _, hv => cases hv; exact ⟨rfl, rfl⟩
  | .boolean, .inl x, hf, hv => cases hv; rcases hf with rfl | rfl <;> exact ⟨by decide, by decide⟩
  | .long, .inr (.inl x), _, hv => cases hv; exact ⟨rfl, rfl⟩
  | .object n, .inr (.inr (.inr (.inr none))), _, hv => cases hv; exact ⟨rfl, rfl⟩
  | .object n, .inr (.inr (.inr (.inr (some m)))), _, hv => obtain ⟨a, -, e⟩ := hv; subst e; exact ⟨rfl, rfl⟩
  | .array n, .inr (.inr (.inr (.inr none))), _, hv => cases hv; exact ⟨rfl, rfl⟩
  | .array n, .inr (.inr (.inr (.inr (some m)))), _, hv => obtain ⟨a, -, e⟩ := hv; subst e; exact ⟨rfl, rfl⟩
/-- a kind that an instruction makes -/
def NF (own : String) (idx ci : Nat) (fs : List MV) : Prop :=
  ∃ (Cn : String) (Tb : u_T) (N : Nat) (tyf : Nat → FieldType), vwCl[ci]? = some (Cn, Tb, N) ∧ (∀ w ∈ u_ws Cn Tb N, w ∈ gTbl) ∧ (∀ k, k < N → parseFieldDescriptor (Tb k).2.2.1 = some (tyf k)) ∧ Cond.classLink own idx Cn ∈ gTbl ∧ Cond.instantiable Cn N ∈ gTbl ∧ Cond.initialized Cn ∈ gTbl ∧ fs = (List.range N).map (fun k => dflt (tyf k))
theorem set_at {l : List MV} {i j : Nat} {v x : MV} (h : (l.set i v)[j]? = some x) : (j = i ∧ v = x) ∨ (j ≠ i ∧ l[j]? = some x) := by
  rw [List.getElem?_set] at h
  by_cases e : i = j
  · rw [if_pos e] at h
    split at h
    · exact Or.inl ⟨e.symm, Option.some.inj h⟩
    · cases h
  · rw [if_neg e] at h
    exact Or.inr ⟨fun q => e q.symm, h⟩
theorem VR_set {ad : AD} {l : List MV} {V : Nat → Value} (h : ∀ i v, l[i]? = some v → VR ad v (V i)) {k : Nat} {v : MV} {w : Value} (hv : VR ad v w) : ∀ i x, (l.set k v)[i]? = some x → VR ad x (updV V k w i) := by
  intro i x hx
  rcases set_at hx with ⟨e1, e2⟩ | ⟨e1, e2⟩
  · subst e1; subst e2; simpa [updV] using hv
  · simpa [updV, e1] using h i x e2
theorem KK.vaK {D : DD} {s : State} (h : KK D s) : va_K (D.1, D.2.1) vwCl [] s := ⟨h.1, fun k q hk => by simp at hk⟩
theorem clamp_lt {es : List MV} {i : Nat} {v : MV} (h : es[i]? = some v) : i < es.length := (List.getElem?_eq_some_iff.mp h).1
section Heap
variable {μ : MU} {d pc : Nat} {ls : List (Option MV)} {st : List MV} {h : MH} {u : Nat} {Q : Option MV → MH → Prop}
theorem T_getV {idx ci k : Nat} {ty : FieldType} {fin : Bool} {dcl : String} {n : Nm} {fs : List MV} {v : MV} (hf : FA μ.1.cls idx ci k ty fin dcl) (hd : decode μ.2.1 pc = .ok (.getfield idx, 3)) (hn : h n = some (.inl (ci, fs))) (hk : fs[k]? = some v) (kk : T μ d (pc + 3) ls (v :: st) h u Q) : T μ d pc ls (jR (some n) :: st) h u Q := by
  intro p l e R s m args below meth c D B0 ad0 Z C S0 O ad H locs cells slots lsR stR hH hA hL hc hs hl hst
  obtain ⟨w0, t0, e0, ⟨a0, ha0, v0⟩, hst⟩ := hst
  subst e0; subst v0
  obtain ⟨Cn, Tb, N, tyf, f1, f2, f3, f4, f5, f6, -⟩ := hf
  obtain ⟨a, ha, r, V, r1, r2, ⟨cell, q1, q2, q3, q4⟩, hV⟩ := hH.at hn
  cases ha0.symm.trans ha
  cases r1.symm.trans f1
  have hts := C.2.2.2.2.2.1
  obtain ⟨hS, hfc, kC, hkC, hkind⟩ := C.2.2.2.2.2.2.2.2.1.1 ci _ f1
  obtain ⟨cf, kf, fi, f, hi, hsl⟩ := hS k f5
  refine W.getf C.1 C.2.1 C.2.2.2.2.1 (hts _ f6) hi (u_facts hfc hkC (u_lays hts f2 f5) hi).1 q1 (by rw [q3]; exact fun h => by cases h) (v := V k) ?_ rfl rfl hd (kk p l e R s m args below meth c D B0 ad0 Z C S0 O ad H locs cells slots lsR _ hH hA hL hc hs hl ⟨_, _, rfl, hV k v hk, hst⟩)
  rw [hsl, q4 k f5]
theorem T_putV {idx ci k : Nat} {ty : FieldType} {dcl : String} {n : Nm} {fs : List MV} {v : MV} (hf : FA μ.1.cls idx ci k ty false dcl) (hd : decode μ.2.1 pc = .ok (.putfield idx, 3)) (hn : h n = some (.inl (ci, fs))) (hv : fitsV ty v) (kk : T μ d (pc + 3) ls st (hset h n (.inl (ci, fs.set k v))) u Q) : T μ d pc ls (v :: jR (some n) :: st) h u Q := by
  intro p l e R s m args below meth c D B0 ad0 Z C S0 O ad H locs cells slots lsR stR hH hA hL hc hs hl hst
  obtain ⟨w0, t0, e0, v0, hst⟩ := hst
  obtain ⟨w1, t1, e1, ⟨a0, ha0, v1⟩, hst⟩ := hst
  subst e0; subst e1; subst v1
  obtain ⟨Cn, Tb, N, tyf, f1, f2, f3, f4, f5, f6, f7, f8, f9⟩ := hf
  obtain ⟨a, ha, r, V, r1, r2, ⟨cell, q1, q2, q3, q4⟩, hV⟩ := hH.at hn
  cases ha0.symm.trans ha
  cases r1.symm.trans f1
  have hts := C.2.2.2.2.2.1
  have hK := C.2.2.2.2.2.2.2.2.1
  have hap := va_apart (own := μ.1.cls) hts f2 tyf f3 f4 hK.vaK f1
  obtain ⟨hS, hfc, kC, hkC, hkind⟩ := hK.1 ci _ f1
  obtain ⟨cf, kf, fi, f, hi, hsl⟩ := hS k f5
  have hlay := hts _ (f2 _ (u_in_lay f5))
  unfold u_lay at hlay
  have hst0 := (u_facts hfc hkC (u_lays hts f2 f5) hi).1
  have hft := fitsV_ok hv v0
  have hty := f3 k f5
  rw [f7] at hty
  rw [if_neg (by rw [f8]; decide)] at hlay
  have h6 := u_store hfc hkC hkind hlay hi hty hft.1 hft.2
  refine W.putK C.1 C.2.1 (f := f) ⟨C.2.2.2.2.1, hts _ f6, ⟨_, _, _, hi⟩, hst0⟩ (by rw [q2]; exact h6) q1 q3 (by rw [hsl]; exact k2_hasslot (q4 k f5)) rfl rfl hd fun H' e1 e2 e3 => ?_
  rw [hsl] at e1 ⊢
  exact kk p l e R s m args below meth c D B0 ad0 Z C S0 O ad H' _ cells slots lsR _ (hH.set hn ha e2 e3 ⟨_, updV V k w0, f1, by rw [List.length_set]; exact r2, ⟨_, e1, q2, q3, t_set q4 hap f5 w0⟩, VR_set hV v0⟩) hA (fun q hq => by rcases List.mem_append.mp hq with h9 | h9; exact hL q h9; cases List.mem_singleton.mp h9; exact hH.2.2.2.2.1.1 n a0 ha0 (hH.ns hn)) hc hs hl hst
theorem T_putF {idx ci k : Nat} {ty : FieldType} {dcl : String} {n : Nm} {fs : List MV} {v : MV} (hf : FA μ.1.cls idx ci k ty true dcl) (hin : μ.1.name = "<init>") (hdcl : dcl = μ.1.cls) (hd : decode μ.2.1 pc = .ok (.putfield idx, 3)) (hn : h n = some (.inl (ci, fs))) (hv : fitsV ty v) (kk : T μ d (pc + 3) ls st (hset h n (.inl (ci, fs.set k v))) u Q) : T μ d pc ls (v :: jR (some n) :: st) h u Q := by
  intro p l e R s m args below meth c D B0 ad0 Z C S0 O ad H locs cells slots lsR stR hH hA hL hc hs hl hst
  obtain ⟨w0, t0, e0, v0, hst⟩ := hst
  obtain ⟨w1, t1, e1, ⟨a0, ha0, v1⟩, hst⟩ := hst
  subst e0; subst e1; subst v1
  obtain ⟨Cn, Tb, N, tyf, f1, f2, f3, f4, f5, f6, f7, f8, f9⟩ := hf
  obtain ⟨a, ha, r, V, r1, r2, ⟨cell, q1, q2, q3, q4⟩, hV⟩ := hH.at hn
  cases ha0.symm.trans ha
  cases r1.symm.trans f1
  have hts := C.2.2.2.2.2.1
  have hK := C.2.2.2.2.2.2.2.2.1
  have hap := va_apart (own := μ.1.cls) hts f2 tyf f3 f4 hK.vaK f1
  obtain ⟨hS, hfc, kC, hkC, hkind⟩ := hK.1 ci _ f1
  obtain ⟨cf, kf, fi, f, hi, hsl⟩ := hS k f5
  have hlay := hts _ (f2 _ (u_in_lay f5))
  unfold u_lay at hlay
  have hst0 := (u_facts hfc hkC (u_lays hts f2 f5) hi).1
  have hft := fitsV_ok hv v0
  have hty := f3 k f5
  rw [f7] at hty
  rw [if_pos f8] at hlay
  have hcf : m.cls = cf := by
    obtain ⟨_, _, c', _, _, _, -, -, hf', -, -, -, hown2, -⟩ := Cond.laysFinal_spec hlay
    have e1 : c' = cf := by have := hi.symm.trans hf'; simp at this; exact this.1.symm
    rw [f9, hdcl] at hown2
    rw [← e1]; exact Option.some.inj (C.2.2.2.2.1.symm.trans hown2)
  have h6 := u_fits hfc hkC hkind (Or.inr hlay) hi hty hft.1 hft.2
  refine W.putFinK C.1 C.2.1 C.2.2.2.2.1 (hts _ f6) hi hst0 hcf (C.2.2.2.2.2.2.2.1 hin) (by rw [q2]; exact h6) q1 q3 (by rw [hsl]; exact k2_hasslot (q4 k f5)) rfl rfl hd fun H' e1 e2 e3 => ?_
  rw [hsl] at e1 ⊢
  exact kk p l e R s m args below meth c D B0 ad0 Z C S0 O ad H' _ cells slots lsR _ (hH.set hn ha e2 e3 ⟨_, updV V k w0, f1, by rw [List.length_set]; exact r2, ⟨_, e1, q2, q3, t_set q4 hap f5 w0⟩, VR_set hV v0⟩) hA (fun q hq => by rcases List.mem_append.mp hq with h9 | h9; exact hL q h9; cases List.mem_singleton.mp h9; exact hH.2.2.2.2.1.1 n a0 ha0 (hH.ns hn)) hc hs hl hst
theorem T_iaload {n : Nm} {es : List MV} {i : Int32} {v : MV} (hd : decode μ.2.1 pc = .ok (.iaload, 1)) (hn : h n = some (.inr (.int, es))) (hi : ¬ i < 0) (he : es[i.toNatClampNeg]? = some v) (kk : T μ d (pc + 1) ls (v :: st) h u Q) : T μ d pc ls (jI i :: jR (some n) :: st) h u Q := by
  intro p l e R s m args below meth c D B0 ad0 Z C S0 O ad H locs cells slots lsR stR hH hA hL hc hs hl hst
  obtain ⟨w0, t0, e0, v0, hst⟩ := hst
  obtain ⟨w1, t1, e1, ⟨a0, ha0, v1⟩, hst⟩ := hst
  subst e0; subst e1; subst v1; cases v0
  obtain ⟨a, ha, hty, f, q1, hV⟩ := hH.at hn
  cases ha0.symm.trans ha
  have hlt := clamp_lt he
  exact W.iald C.1 C.2.1 q1 ((C.2.2.2.2.2.2.2.2.1.2.1 _ hty).1 _ _) (fun q => by cases q) (by rw [arrV_size]; exact fun q => q.elim hi (Nat.not_le.mpr hlt)) (arrV_read _ _ hlt) rfl rfl hd (kk p l e R s m args below meth c D B0 ad0 Z C S0 O ad H locs cells slots lsR _ hH hA hL hc hs hl ⟨_, _, rfl, hV _ _ he, hst⟩)
theorem T_laload {n : Nm} {es : List MV} {i : Int32} {v : MV} (hd : decode μ.2.1 pc = .ok (.laload, 1)) (hn : h n = some (.inr (.long, es))) (hi : ¬ i < 0) (he : es[i.toNatClampNeg]? = some v) (kk : T μ d (pc + 1) ls (v :: st) h u Q) : T μ d pc ls (jI i :: jR (some n) :: st) h u Q := by
  intro p l e R s m args below meth c D B0 ad0 Z C S0 O ad H locs cells slots lsR stR hH hA hL hc hs hl hst
  obtain ⟨w0, t0, e0, v0, hst⟩ := hst
  obtain ⟨w1, t1, e1, ⟨a0, ha0, v1⟩, hst⟩ := hst
  subst e0; subst e1; subst v1; cases v0
  obtain ⟨a, ha, hty, f, q1, hV⟩ := hH.at hn
  cases ha0.symm.trans ha
  have hlt := clamp_lt he
  exact W.lald C.1 C.2.1 q1 ((C.2.2.2.2.2.2.2.2.1.2.1 _ hty).1 _ _) (fun q => by cases q) (by rw [arrV_size]; exact fun q => q.elim hi (Nat.not_le.mpr hlt)) (arrV_read _ _ hlt) rfl rfl hd (kk p l e R s m args below meth c D B0 ad0 Z C S0 O ad H locs cells slots lsR _ hH hA hL hc hs hl ⟨_, _, rfl, hV _ _ he, hst⟩)
theorem T_caload {n : Nm} {es : List MV} {i : Int32} {v : MV} (hd : decode μ.2.1 pc = .ok (.caload, 1)) (hn : h n = some (.inr (.char, es))) (hi : ¬ i < 0) (he : es[i.toNatClampNeg]? = some v) (kk : T μ d (pc + 1) ls (v :: st) h u Q) : T μ d pc ls (jI i :: jR (some n) :: st) h u Q := by
  intro p l e R s m args below meth c D B0 ad0 Z C S0 O ad H locs cells slots lsR stR hH hA hL hc hs hl hst
  obtain ⟨w0, t0, e0, v0, hst⟩ := hst
  obtain ⟨w1, t1, e1, ⟨a0, ha0, v1⟩, hst⟩ := hst
  subst e0; subst e1; subst v1; cases v0
  obtain ⟨a, ha, hty, f, q1, hV⟩ := hH.at hn
  cases ha0.symm.trans ha
  have hlt := clamp_lt he
  exact W.cald C.1 C.2.1 q1 ((C.2.2.2.2.2.2.2.2.1.2.1 _ hty).1 _ _) (fun q => by cases q) (by rw [arrV_size]; exact fun q => q.elim hi (Nat.not_le.mpr hlt)) (arrV_read _ _ hlt) rfl rfl hd (kk p l e R s m args below meth c D B0 ad0 Z C S0 O ad H locs cells slots lsR _ hH hA hL hc hs hl ⟨_, _, rfl, hV _ _ he, hst⟩)
theorem T_baloadB {n : Nm} {es : List MV} {i : Int32} {v : MV} (hd : decode μ.2.1 pc = .ok (.baload, 1)) (hn : h n = some (.inr (.byte, es))) (hi : ¬ i < 0) (he : es[i.toNatClampNeg]? = some v) (kk : T μ d (pc + 1) ls (v :: st) h u Q) : T μ d pc ls (jI i :: jR (some n) :: st) h u Q := by
  intro p l e R s m args below meth c D B0 ad0 Z C S0 O ad H locs cells slots lsR stR hH hA hL hc hs hl hst
  obtain ⟨w0, t0, e0, v0, hst⟩ := hst
  obtain ⟨w1, t1, e1, ⟨a0, ha0, v1⟩, hst⟩ := hst
  subst e0; subst e1; subst v1; cases v0
  obtain ⟨a, ha, hty, f, q1, hV⟩ := hH.at hn
  cases ha0.symm.trans ha
  have hlt := clamp_lt he
  exact W.bald C.1 C.2.1 q1 ((C.2.2.2.2.2.2.2.2.1.2.1 _ hty).1 _ _) (fun q => by cases q) (by rw [arrV_size]; exact fun q => q.elim hi (Nat.not_le.mpr hlt)) (arrV_read _ _ hlt) rfl rfl hd (kk p l e R s m args below meth c D B0 ad0 Z C S0 O ad H locs cells slots lsR _ hH hA hL hc hs hl ⟨_, _, rfl, hV _ _ he, hst⟩)
theorem T_baloadZ {n : Nm} {es : List MV} {i : Int32} {v : MV} (hd : decode μ.2.1 pc = .ok (.baload, 1)) (hn : h n = some (.inr (.boolean, es))) (hi : ¬ i < 0) (he : es[i.toNatClampNeg]? = some v) (kk : T μ d (pc + 1) ls (v :: st) h u Q) : T μ d pc ls (jI i :: jR (some n) :: st) h u Q := by
  intro p l e R s m args below meth c D B0 ad0 Z C S0 O ad H locs cells slots lsR stR hH hA hL hc hs hl hst
  obtain ⟨w0, t0, e0, v0, hst⟩ := hst
  obtain ⟨w1, t1, e1, ⟨a0, ha0, v1⟩, hst⟩ := hst
  subst e0; subst e1; subst v1; cases v0
  obtain ⟨a, ha, hty, f, q1, hV⟩ := hH.at hn
  cases ha0.symm.trans ha
  have hlt := clamp_lt he
  exact W.zald C.1 C.2.1 q1 ((C.2.2.2.2.2.2.2.2.1.2.1 _ hty).1 _ _) (fun q => by cases q) (by rw [arrV_size]; exact fun q => q.elim hi (Nat.not_le.mpr hlt)) (arrV_read _ _ hlt) rfl rfl hd (kk p l e R s m args below meth c D B0 ad0 Z C S0 O ad H locs cells slots lsR _ hH hA hL hc hs hl ⟨_, _, rfl, hV _ _ he, hst⟩)
theorem T_aaload {cn : String} {n : Nm} {es : List MV} {i : Int32} {v : MV} (hd : decode μ.2.1 pc = .ok (.aaload, 1)) (hn : h n = some (.inr (.object cn, es))) (hi : ¬ i < 0) (he : es[i.toNatClampNeg]? = some v) (kk : T μ d (pc + 1) ls (v :: st) h u Q) : T μ d pc ls (jI i :: jR (some n) :: st) h u Q := by
  intro p l e R s m args below meth c D B0 ad0 Z C S0 O ad H locs cells slots lsR stR hH hA hL hc hs hl hst
  obtain ⟨w0, t0, e0, v0, hst⟩ := hst
  obtain ⟨w1, t1, e1, ⟨a0, ha0, v1⟩, hst⟩ := hst
  subst e0; subst e1; subst v1; cases v0
  obtain ⟨a, ha, hty, f, q1, hV⟩ := hH.at hn
  cases ha0.symm.trans ha
  have hlt := clamp_lt he
  exact W.aald C.1 C.2.1 q1 ((C.2.2.2.2.2.2.2.2.1.2.1 _ hty).1 _ _) rfl (fun q => by cases q) (by rw [arrV_size]; exact fun q => q.elim hi (Nat.not_le.mpr hlt)) (arrV_read _ _ hlt) rfl rfl hd (kk p l e R s m args below meth c D B0 ad0 Z C S0 O ad H locs cells slots lsR _ hH hA hL hc hs hl ⟨_, _, rfl, hV _ _ he, hst⟩)
theorem T_alen {n : Nm} {ty : FieldType} {es : List MV} (hd : decode μ.2.1 pc = .ok (.arraylength, 1)) (hn : h n = some (.inr (ty, es))) (kk : T μ d (pc + 1) ls (jI (Int32.ofNat es.length) :: st) h u Q) : T μ d pc ls (jR (some n) :: st) h u Q := by
  intro p l e R s m args below meth c D B0 ad0 Z C S0 O ad H locs cells slots lsR stR hH hA hL hc hs hl hst
  obtain ⟨w1, t1, e1, ⟨a0, ha0, v1⟩, hst⟩ := hst
  subst e1; subst v1
  obtain ⟨a, ha, hty, f, q1, hV⟩ := hH.at hn
  cases ha0.symm.trans ha
  exact W.alen (n := Int32.ofNat es.length) C.1 C.2.1 q1 ((C.2.2.2.2.2.2.2.2.1.2.1 _ hty).1 _ _) (by rw [arrV_size]) rfl rfl hd (kk p l e R s m args below meth c D B0 ad0 Z C S0 O ad H locs cells slots lsR _ hH hA hL hc hs hl ⟨_, _, rfl, rfl, hst⟩)
theorem T_iastore {n : Nm} {es : List MV} {i : Int32} {x : Int32} (hd : decode μ.2.1 pc = .ok (.iastore, 1)) (hn : h n = some (.inr (.int, es))) (hi : ¬ i < 0) (hlt : i.toNatClampNeg < es.length) (kk : T μ d (pc + 1) ls st (hset h n (.inr (.int, es.set i.toNatClampNeg (jI (x))))) u Q) : T μ d pc ls (jI x :: jI i :: jR (some n) :: st) h u Q := by
  intro p l e R s m args below meth c D B0 ad0 Z C S0 O ad H locs cells slots lsR stR hH hA hL hc hs hl hst
  obtain ⟨w0, t0, e0, v0, hst⟩ := hst
  obtain ⟨w2, t2, e2, v2, hst⟩ := hst
  obtain ⟨w1, t1, e1, ⟨a0, ha0, v1⟩, hst⟩ := hst
  subst e0; subst e2; subst e1; subst v1; cases v0; cases v2
  obtain ⟨a, ha, hty, f, q1, hV⟩ := hH.at hn
  cases ha0.symm.trans ha
  refine W.iast C.1 C.2.1 q1 ((C.2.2.2.2.2.2.2.2.1.2.1 _ hty).1 _ _) (fun q => by cases q) (by rw [arrV_size]; exact fun q => q.elim hi (Nat.not_le.mpr hlt)) rfl rfl hd fun H' e1 e2 e3 => ?_
  rw [arrV_store] at e1
  exact kk p l e R s m args below meth c D B0 ad0 Z C S0 O ad H' _ cells slots lsR _ (hH.set hn ha e2 e3 ⟨hty, updV f i.toNatClampNeg (.int x), by rw [List.length_set]; exact e1, VR_set hV rfl⟩) hA (fun q hq => by rcases List.mem_append.mp hq with h9 | h9; exact hL q h9; cases List.mem_singleton.mp h9; exact hH.2.2.2.2.1.1 n a0 ha0 (hH.ns hn)) hc hs hl hst
theorem T_lastore {n : Nm} {es : List MV} {i : Int32} {x : Int64} (hd : decode μ.2.1 pc = .ok (.lastore, 1)) (hn : h n = some (.inr (.long, es))) (hi : ¬ i < 0) (hlt : i.toNatClampNeg < es.length) (kk : T μ d (pc + 1) ls st (hset h n (.inr (.long, es.set i.toNatClampNeg (jL (x))))) u Q) : T μ d pc ls (jL x :: jI i :: jR (some n) :: st) h u Q := by
  intro p l e R s m args below meth c D B0 ad0 Z C S0 O ad H locs cells slots lsR stR hH hA hL hc hs hl hst
  obtain ⟨w0, t0, e0, v0, hst⟩ := hst
  obtain ⟨w2, t2, e2, v2, hst⟩ := hst
  obtain ⟨w1, t1, e1, ⟨a0, ha0, v1⟩, hst⟩ := hst
  subst e0; subst e2; subst e1; subst v1; cases v0; cases v2
  obtain ⟨a, ha, hty, f, q1, hV⟩ := hH.at hn
  cases ha0.symm.trans ha
  refine W.last C.1 C.2.1 q1 ((C.2.2.2.2.2.2.2.2.1.2.1 _ hty).1 _ _) (fun q => by cases q) (by rw [arrV_size]; exact fun q => q.elim hi (Nat.not_le.mpr hlt)) rfl rfl hd fun H' e1 e2 e3 => ?_
  rw [arrV_store] at e1
  exact kk p l e R s m args below meth c D B0 ad0 Z C S0 O ad H' _ cells slots lsR _ (hH.set hn ha e2 e3 ⟨hty, updV f i.toNatClampNeg (.long x), by rw [List.length_set]; exact e1, VR_set hV rfl⟩) hA (fun q hq => by rcases List.mem_append.mp hq with h9 | h9; exact hL q h9; cases List.mem_singleton.mp h9; exact hH.2.2.2.2.1.1 n a0 ha0 (hH.ns hn)) hc hs hl hst
theorem T_bastoreB {n : Nm} {es : List MV} {i : Int32} {x : Int32} (hd : decode μ.2.1 pc = .ok (.bastore, 1)) (hn : h n = some (.inr (.byte, es))) (hi : ¬ i < 0) (hlt : i.toNatClampNeg < es.length) (kk : T μ d (pc + 1) ls st (hset h n (.inr (.byte, es.set i.toNatClampNeg (jI (x.toInt8.toInt32))))) u Q) : T μ d pc ls (jI x :: jI i :: jR (some n) :: st) h u Q := by
  intro p l e R s m args below meth c D B0 ad0 Z C S0 O ad H locs cells slots lsR stR hH hA hL hc hs hl hst
  obtain ⟨w0, t0, e0, v0, hst⟩ := hst
  obtain ⟨w2, t2, e2, v2, hst⟩ := hst
  obtain ⟨w1, t1, e1, ⟨a0, ha0, v1⟩, hst⟩ := hst
  subst e0; subst e2; subst e1; subst v1; cases v0; cases v2
  obtain ⟨a, ha, hty, f, q1, hV⟩ := hH.at hn
  cases ha0.symm.trans ha
  refine W.bast C.1 C.2.1 q1 ((C.2.2.2.2.2.2.2.2.1.2.1 _ hty).1 _ _) (fun q => by cases q) (by rw [arrV_size]; exact fun q => q.elim hi (Nat.not_le.mpr hlt)) rfl rfl hd fun H' e1 e2 e3 => ?_
  rw [arrV_store] at e1
  exact kk p l e R s m args below meth c D B0 ad0 Z C S0 O ad H' _ cells slots lsR _ (hH.set hn ha e2 e3 ⟨hty, updV f i.toNatClampNeg (.int x.toInt8.toInt32), by rw [List.length_set]; exact e1, VR_set hV rfl⟩) hA (fun q hq => by rcases List.mem_append.mp hq with h9 | h9; exact hL q h9; cases List.mem_singleton.mp h9; exact hH.2.2.2.2.1.1 n a0 ha0 (hH.ns hn)) hc hs hl hst
theorem T_bastoreZ {n : Nm} {es : List MV} {i : Int32} {x : Int32} (hd : decode μ.2.1 pc = .ok (.bastore, 1)) (hn : h n = some (.inr (.boolean, es))) (hi : ¬ i < 0) (hlt : i.toNatClampNeg < es.length) (kk : T μ d (pc + 1) ls st (hset h n (.inr (.boolean, es.set i.toNatClampNeg (jI (vp_nar .boolean x))))) u Q) : T μ d pc ls (jI x :: jI i :: jR (some n) :: st) h u Q := by
  intro p l e R s m args below meth c D B0 ad0 Z C S0 O ad H locs cells slots lsR stR hH hA hL hc hs hl hst
  obtain ⟨w0, t0, e0, v0, hst⟩ := hst
  obtain ⟨w2, t2, e2, v2, hst⟩ := hst
  obtain ⟨w1, t1, e1, ⟨a0, ha0, v1⟩, hst⟩ := hst
  subst e0; subst e2; subst e1; subst v1; cases v0; cases v2
  obtain ⟨a, ha, hty, f, q1, hV⟩ := hH.at hn
  cases ha0.symm.trans ha
  refine W.zast C.1 C.2.1 q1 ((C.2.2.2.2.2.2.2.2.1.2.1 _ hty).1 _ _) (fun q => by cases q) (by rw [arrV_size]; exact fun q => q.elim hi (Nat.not_le.mpr hlt)) rfl rfl hd fun H' e1 e2 e3 => ?_
  rw [arrV_store] at e1
  exact kk p l e R s m args below meth c D B0 ad0 Z C S0 O ad H' _ cells slots lsR _ (hH.set hn ha e2 e3 ⟨hty, updV f i.toNatClampNeg (.int (vp_nar .boolean x)), by rw [List.length_set]; exact e1, VR_set hV rfl⟩) hA (fun q hq => by rcases List.mem_append.mp hq with h9 | h9; exact hL q h9; cases List.mem_singleton.mp h9; exact hH.2.2.2.2.1.1 n a0 ha0 (hH.ns hn)) hc hs hl hst
theorem T_castore {n : Nm} {es : List MV} {i : Int32} {x : Int32} (hd : decode μ.2.1 pc = .ok (.castore, 1)) (hn : h n = some (.inr (.char, es))) (hi : ¬ i < 0) (hlt : i.toNatClampNeg < es.length) (kk : T μ d (pc + 1) ls st (hset h n (.inr (.char, es.set i.toNatClampNeg (jI (vp_nar .char x))))) u Q) : T μ d pc ls (jI x :: jI i :: jR (some n) :: st) h u Q := by
  intro p l e R s m args below meth c D B0 ad0 Z C S0 O ad H locs cells slots lsR stR hH hA hL hc hs hl hst
  obtain ⟨w0, t0, e0, v0, hst⟩ := hst
  obtain ⟨w2, t2, e2, v2, hst⟩ := hst
  obtain ⟨w1, t1, e1, ⟨a0, ha0, v1⟩, hst⟩ := hst
  subst e0; subst e2; subst e1; subst v1; cases v0; cases v2
  obtain ⟨a, ha, hty, f, q1, hV⟩ := hH.at hn
  cases ha0.symm.trans ha
  refine W.cast C.1 C.2.1 q1 ((C.2.2.2.2.2.2.2.2.1.2.1 _ hty).1 _ _) (fun q => by cases q) (by rw [arrV_size]; exact fun q => q.elim hi (Nat.not_le.mpr hlt)) rfl rfl hd fun H' e1 e2 e3 => ?_
  rw [arrV_store] at e1
  exact kk p l e R s m args below meth c D B0 ad0 Z C S0 O ad H' _ cells slots lsR _ (hH.set hn ha e2 e3 ⟨hty, updV f i.toNatClampNeg (.int (vp_nar .char x)), by rw [List.length_set]; exact e1, VR_set hV rfl⟩) hA (fun q hq => by rcases List.mem_append.mp hq with h9 | h9; exact hL q h9; cases List.mem_singleton.mp h9; exact hH.2.2.2.2.1.1 n a0 ha0 (hH.ns hn)) hc hs hl hst
theorem T_aastore {n m2 : Nm} {ci : Nat} {cn : String} {fs es : List MV} {i : Int32} (hd : decode μ.2.1 pc = .ok (.aastore, 1)) (hn : h n = some (.inr (.object cn, es))) (hm : h m2 = some (.inl (ci, fs))) (hcn : (vwCl[ci]?).map (fun q => q.1) = some cn) (hi : ¬ i < 0) (hlt : i.toNatClampNeg < es.length) (kk : T μ d (pc + 1) ls st (hset h n (.inr (.object cn, es.set i.toNatClampNeg (jR (some m2))))) u Q) : T μ d pc ls (jR (some m2) :: jI i :: jR (some n) :: st) h u Q := by
  intro p l e R s m args below meth c D B0 ad0 Z C S0 O ad H locs cells slots lsR stR hH hA hL hc hs hl hst
  obtain ⟨w0, t0, e0, ⟨av, hav, v0⟩, hst⟩ := hst
  obtain ⟨w2, t2, e2, v2, hst⟩ := hst
  obtain ⟨w1, t1, e1, ⟨a0, ha0, v1⟩, hst⟩ := hst
  subst e0; subst e2; subst e1; subst v1; subst v0; cases v2
  obtain ⟨a, ha, hty, f, q1, hV⟩ := hH.at hn
  cases ha0.symm.trans ha
  obtain ⟨bv, hbv, r, V, r1, r2, ⟨cellV, g1, g2, g3, -⟩, -⟩ := hH.at hm
  cases hav.symm.trans hbv
  have hK := C.2.2.2.2.2.2.2.2.1
  have hcls := (hK.1 ci r r1).2
  rw [r1] at hcn
  cases hcn
  obtain ⟨kA, comp, k1, k2, k3, -⟩ := (hK.2.1 _ hty).2
  cases k3.symm.trans hcls.1
  have hcl2 := hcls
  obtain ⟨kC, hkC, -⟩ := hcls.2
  refine W.aast C.1 C.2.1 q1 (fun q h => by cases h) (fun h => by cases h) k1 k2 rfl hkC ⟨hi, by rw [arrV_size]; exact hlt⟩ g1 (fun q h => by rw [g3] at h; cases h) (by rw [g2]; exact hkC) (by rw [g2]; exact va_assign hcl2) rfl rfl hd fun H' e1 e2 e3 => ?_
  rw [arrV_store] at e1
  exact kk p l e R s m args below meth c D B0 ad0 Z C S0 O ad H' _ cells slots lsR _ (hH.set hn ha e2 e3 ⟨hty, updV f i.toNatClampNeg (.ref av), by rw [List.length_set]; exact e1, VR_set hV ⟨av, hav, rfl⟩⟩) hA (fun q hq => by rcases List.mem_append.mp hq with h9 | h9; exact hL q h9; cases List.mem_singleton.mp h9; exact hH.2.2.2.2.1.1 n a0 ha0 (hH.ns hn)) hc hs hl hst
theorem T_new {idx ci : Nat} {fs : List MV} (n : Nm) (hf : NF μ.1.cls idx ci fs) (hd : decode μ.2.1 pc = .ok (.new idx, 3)) (hn : h n = none) (hns : n ≠ scr) (hu : fs.length + 1 ≤ u) (kk : T μ d (pc + 3) ls (jR (some n) :: st) (hset h n (.inl (ci, fs))) (u - (fs.length + 1)) Q) : T μ d pc ls st h u Q := by
  intro p l e R s m args below meth c D B0 ad0 Z C S0 O ad H locs cells slots lsR stR hH hA hL hc hs hl hst
  obtain ⟨Cn, Tb, N, tyf, f1, f2, f3, f4, f5, f6, f7⟩ := hf
  have hlen : fs.length = N := by rw [f7]; simp
  rw [hlen] at hu kk
  have hts := C.2.2.2.2.2.1
  have hKn := C.2.2.2.2.2.2.2.2.1.1 ci _ f1
  refine W.newcK C.1 C.2.1 C.2.2.2.2.1 (hts _ f4) (hts _ f5) (hts _ f6) rfl hd (by omega) (by omega) hKn.2.1 rfl fun H' kC hkC e1 z1 o1 => ?_
  have had : ad n = none := hH.fr hn hns
  have hself : adset ad n H.size n = some H.size := by simp [adset]
  refine kk p l e R s m args below meth c D B0 ad0 Z C S0 O (adset ad n H.size) H' locs (cells + 1) (slots + N) lsR _ (hH.push hn hns z1 o1 ⟨_, _, f1, hlen, u_born tyf hts f2 hKn hkC e1 f3, fun i v hv => ?_⟩) (hA.tr (adset_le had)) hL (by omega) (by omega) (hl.mono (adset_le had)) ⟨_, _, rfl, ⟨_, hself, rfl⟩, hst.mono (adset_le had)⟩
  rw [f7, List.getElem?_map] at hv
  cases hr : (List.range N)[i]? with
  | none => rw [hr] at hv; cases hv
  | some j =>
    rw [hr] at hv
    cases hv
    have hj : i < N := by simpa using (List.getElem?_eq_some_iff.mp hr).1
    rw [List.getElem?_range hj] at hr
    cases hr
    exact VR_dflt _ _
theorem T_newarray {atype : ArrayType} {ty : FieldType} {len : Int32} (n : Nm) (hd : decode μ.2.1 pc = .ok (.newarray atype, 2)) (hty : newarray.typeOf atype = ty) (hin : ty ∈ aTys) (hw : Cond.arrayClass ty ∈ gTbl) (hl0 : ¬ len < 0) (hb : len.toNatClampNeg ≤ 65536) (hn : h n = none) (hns : n ≠ scr) (hu : len.toNatClampNeg + 1 ≤ u) (kk : T μ d (pc + 2) ls (jR (some n) :: st) (hset h n (.inr (ty, List.replicate len.toNatClampNeg (dflt ty)))) (u - (len.toNatClampNeg + 1)) Q) : T μ d pc ls (jI len :: st) h u Q := by
  intro p l e R s m args below meth c D B0 ad0 Z C S0 O ad H locs cells slots lsR stR hH hA hL hc hs hl hst
  obtain ⟨w0, t0, e0, v0, hst⟩ := hst
  subst e0; cases v0
  subst hty
  have hts := C.2.2.2.2.2.1
  have hra := (C.2.2.2.2.2.2.2.2.1.2.1 _ hin).2
  have hcb : componentBytes (newarray.typeOf atype) ≤ 8 := by cases atype <;> decide
  have hcb2 : len.toNatClampNeg * componentBytes (newarray.typeOf atype) ≤ 65536 * 8 := Nat.mul_le_mul hb hcb
  refine va_newaK C.1 C.2.1 (hts _ hw) rfl hd rfl hl0 rfl (by omega) (by omega) (by omega) rfl fun H' cA e1 z1 o1 hAr hNm => ?_
  have hcA : cA = D.2.2 (newarray.typeOf atype) := by
    have hra2 : s.vm.findClass ("[" ++ (newarray.typeOf atype).toString) = some (D.2.2 (newarray.typeOf atype)) := by cases atype <;> exact hra
    exact Option.some.inj (hNm.symm.trans hra2)
  subst hcA
  have had : ad n = none := hH.fr hn hns
  have hself : adset ad n H.size n = some H.size := by simp [adset]
  refine kk p l e R s m args below meth c D B0 ad0 Z C S0 O (adset ad n H.size) H' locs (cells + 1) (slots + len.toNatClampNeg) lsR _ (hH.push hn hns z1 o1 ⟨hin, fun _ => defaultValue (newarray.typeOf atype), by rw [List.length_replicate]; exact e1, fun i v hv => ?_⟩) (hA.tr (adset_le had)) hL (by omega) (by omega) (hl.mono (adset_le had)) ⟨_, _, rfl, ⟨_, hself, rfl⟩, hst.mono (adset_le had)⟩
  rw [List.getElem?_replicate] at hv
  split at hv
  · cases hv; exact VR_dflt _ _
  · cases hv
theorem T_anewarray {idx : Nat} {cn : String} {len : Int32} (n : Nm) (hd : decode μ.2.1 pc = .ok (.anewarray idx, 3)) (hin : FieldType.object cn ∈ aTys) (hw : Cond.classLink μ.1.cls idx cn ∈ gTbl) (hw2 : Cond.arrayOver (.object cn) ∈ NG) (hl0 : ¬ len < 0) (hb : len.toNatClampNeg ≤ 65536) (hn : h n = none) (hns : n ≠ scr) (hu : len.toNatClampNeg + 1 ≤ u) (kk : T μ d (pc + 3) ls (jR (some n) :: st) (hset h n (.inr (.object cn, List.replicate len.toNatClampNeg (jR none)))) (u - (len.toNatClampNeg + 1)) Q) : T μ d pc ls (jI len :: st) h u Q := by
  intro p l e R s m args below meth c D B0 ad0 Z C S0 O ad H locs cells slots lsR stR hH hA hL hc hs hl hst
  obtain ⟨w0, t0, e0, v0, hst⟩ := hst
  subst e0; cases v0
  have hts := C.2.2.2.2.2.1
  obtain ⟨kA0, comp0, b1, b2, b3, b4⟩ := (C.2.2.2.2.2.2.2.2.1.2.1 _ hin).2
  refine W.anew C.1 C.2.1 C.2.2.2.2.1 (hts _ hw) (va_AO.use (C.2.2.2.2.2.2.2.2.1.2.2 _ hw2)) rfl hd rfl hl0 (by omega) (by omega) (by omega) fun cA kA comp f1 f2 f3 f4 => ?_
  have hcA : cA = D.2.2 (.object cn) := Option.some.inj (f1.symm.trans b4)
  subst hcA
  generalize hH1 : H.push ({ cls := D.2.2 (.object cn), slots := Array.replicate len.toNatClampNeg .null, vm := .none } : Cell) = H'
  have z1 : H'.size = H.size + 1 := by rw [← hH1, Array.size_push]
  have e1 : H'[H.size]? = some (arrV (D.2.2 (.object cn)) len.toNatClampNeg (fun _ => defaultValue (.object cn))) := by rw [← hH1, Array.getElem?_push_size, arrV_new]; rfl
  have o1 : ∀ q : Nat, q < H.size → H'[q]? = H[q]? := fun q hq => by rw [← hH1, Array.getElem?_push, if_neg (Nat.ne_of_lt hq)]
  have had : ad n = none := hH.fr hn hns
  have hself : adset ad n H.size n = some H.size := by simp [adset]
  refine kk p l e R s m args below meth c D B0 ad0 Z C S0 O (adset ad n H.size) H' locs (cells + 1) (slots + len.toNatClampNeg) lsR _ (hH.push hn hns z1 o1 ⟨hin, fun _ => defaultValue (.object cn), by rw [List.length_replicate]; exact e1, fun i v hv => ?_⟩) (hA.tr (adset_le had)) hL (by omega) (by omega) (hl.mono (adset_le had)) ⟨_, _, rfl, ⟨_, hself, rfl⟩, hst.mono (adset_le had)⟩
  rw [List.getElem?_replicate] at hv
  split at hv
  · cases hv; rfl
  · cases hv
theorem T_objInit {idx : Nat} {o : Option Nm} (hd : decode μ.2.1 pc = .ok (.invokespecial idx, 3)) (hw : Cond.methodLink μ.1.cls idx Lib.objectInit ∈ gTbl) (hw2 : Cond.instanceMethod Lib.objectInit ∈ gTbl) (hw3 : Cond.code Lib.objectInit ⟨#[0xb1]⟩ 1 none ∈ gTbl) {n : Nm} (ho : o = some n) (hln : st.length ≤ 4) (kk : T μ (d + 1) (pc + 3) ls st h u Q) : T μ (d + 1) pc ls (jR o :: st) h u Q := by
  intro p l e R s m args below meth c D B0 ad0 Z C S0 O ad H locs cells slots lsR stR hH hA hL hc hs hl hst
  subst ho
  obtain ⟨w1, t1, e1, ⟨a0, ha0, v1⟩, hst⟩ := hst
  subst e1; subst v1
  have hts := C.2.2.2.2.2.1
  obtain ⟨-, -, c3, -, -, -, -, -, -, c10, c11⟩ := id C
  have hsum := hst.catSum
  have hsz : lsR.size = c.maxLocals := by obtain ⟨lv, q, -⟩ := hl; rw [c3]; exact q.1
  exact W.objInit C.1 C.2.1 C.2.2.2.2.1 (hts _ hw) (hts _ hw2) (hts _ hw3) rfl hsz rfl hd (by omega) (by show 2 * 0 + _ + 12 ≤ _; omega) (kk p l e R s m args below meth c D B0 ad0 Z C S0 O ad H locs cells slots lsR _ hH hA hL hc hs hl hst)
theorem T_castI {idx : Nat} {n : Nm} {es : List MV} (hd : decode μ.2.1 pc = .ok (.checkcast idx, 3)) (hw : Cond.classLink μ.1.cls idx "[I" ∈ gTbl) (hn : h n = some (.inr (.int, es))) (kk : T μ d (pc + 3) ls (jR (some n) :: st) h u Q) : T μ d pc ls (jR (some n) :: st) h u Q := by
  intro p l e R s m args below meth c D B0 ad0 Z C S0 O ad H locs cells slots lsR stR hH hA hL hc hs hl hst
  obtain ⟨w1, t1, e1, ⟨a0, ha0, v1⟩, hst⟩ := hst
  subst e1; subst v1
  obtain ⟨a, ha, hty, f, q1, hV⟩ := hH.at hn
  cases ha0.symm.trans ha
  have hts := C.2.2.2.2.2.1
  have hnm : s.vm.findClass "[I" = some (D.2.2 .int) := (C.2.2.2.2.2.2.2.2.1.2.1 .int hty).2
  have k0 := kk p l e R s m args below meth c D B0 ad0 Z C S0 O ad H locs cells slots lsR _ hH hA hL hc hs hl ⟨_, _, rfl, ⟨a0, ha0, rfl⟩, hst⟩
  intro TT hT X
  obtain ⟨vm', X', st'⟩ := X.checkcastYes C.1 C.2.2.2.2.1 (hts _ hw) (by rw [hT]; exact q1) rfl hnm (va_asg _ _) (g := F0 m pc lsR (.ref a0 :: t1)) rfl rfl (by rw [C.2.1]; exact hd)
  obtain ⟨t, a1, b1⟩ := k0 (TT.setVm vm') hT X'
  exact ⟨t, st' t a1, b1⟩
theorem T_d2bits {idx : Nat} {b : UInt64} (hd : decode μ.2.1 pc = .ok (.invokestatic idx, 3)) (hw : Cond.methodLink μ.1.cls idx ⟨"java/lang/Double", "doubleToRawLongBits", "(D)J"⟩ ∈ gTbl) (hw2 : Cond.native ⟨"java/lang/Double", "doubleToRawLongBits", "(D)J"⟩ ∈ gTbl) (hw3 : Cond.static ⟨"java/lang/Double", "doubleToRawLongBits", "(D)J"⟩ ∈ gTbl) (hw4 : Cond.initialized "java/lang/Double" ∈ gTbl)  (hln : st.length ≤ 4) (kk : T μ (d + 1) (pc + 3) ls (jL (b.toInt64) :: st) h u Q) : T μ (d + 1) pc ls (jD b :: st) h u Q := by
  intro p l e R s m args below meth c D B0 ad0 Z C S0 O ad H locs cells slots lsR stR hH hA hL hc hs hl hst
  obtain ⟨w0, t0, e0, v0, hst⟩ := hst
  subst e0; cases v0
  have hts := C.2.2.2.2.2.1
  obtain ⟨-, -, c3, -, -, -, -, -, -, c10, c11⟩ := id C
  have hsum := hst.catSum
  have hsz : c.maxLocals = lsR.size := by obtain ⟨lv, q, -⟩ := hl; rw [c3]; exact q.1.symm
  exact vn_d2l C.1 C.2.1 hsz C.2.2.2.2.1 (hts _ hw) (hts _ hw2) (hts _ hw3) (hts _ hw4) (by omega) (by omega) hd (kk p l e R s m args below meth c D B0 ad0 Z C S0 O ad H locs cells slots lsR _ hH hA hL hc hs hl ⟨_, _, rfl, rfl, hst⟩)
theorem T_bits2d {idx : Nat} {b : Int64} (hd : decode μ.2.1 pc = .ok (.invokestatic idx, 3)) (hw : Cond.methodLink μ.1.cls idx ⟨"java/lang/Double", "longBitsToDouble", "(J)D"⟩ ∈ gTbl) (hw2 : Cond.native ⟨"java/lang/Double", "longBitsToDouble", "(J)D"⟩ ∈ gTbl) (hw3 : Cond.static ⟨"java/lang/Double", "longBitsToDouble", "(J)D"⟩ ∈ gTbl) (hw4 : Cond.initialized "java/lang/Double" ∈ gTbl) (hv : vn_snl2d b = false) (hln : st.length ≤ 4) (kk : T μ (d + 1) (pc + 3) ls (jD (b.toUInt64) :: st) h u Q) : T μ (d + 1) pc ls (jL b :: st) h u Q := by
  intro p l e R s m args below meth c D B0 ad0 Z C S0 O ad H locs cells slots lsR stR hH hA hL hc hs hl hst
  obtain ⟨w0, t0, e0, v0, hst⟩ := hst
  subst e0; cases v0
  have hts := C.2.2.2.2.2.1
  obtain ⟨-, -, c3, -, -, -, -, -, -, c10, c11⟩ := id C
  have hsum := hst.catSum
  have hsz : c.maxLocals = lsR.size := by obtain ⟨lv, q, -⟩ := hl; rw [c3]; exact q.1.symm
  exact vn_l2d C.1 C.2.1 hsz C.2.2.2.2.1 (hts _ hw) (hts _ hw2) (hts _ hw3) (hts _ hw4) hv (by omega) (by omega) hd (kk p l e R s m args below meth c D B0 ad0 Z C S0 O ad H locs cells slots lsR _ hH hA hL hc hs hl ⟨_, _, rfl, rfl, hst⟩)
theorem T_f2bits {idx : Nat} {b : UInt32} (hd : decode μ.2.1 pc = .ok (.invokestatic idx, 3)) (hw : Cond.methodLink μ.1.cls idx ⟨"java/lang/Float", "floatToRawIntBits", "(F)I"⟩ ∈ gTbl) (hw2 : Cond.native ⟨"java/lang/Float", "floatToRawIntBits", "(F)I"⟩ ∈ gTbl) (hw3 : Cond.static ⟨"java/lang/Float", "floatToRawIntBits", "(F)I"⟩ ∈ gTbl) (hw4 : Cond.initialized "java/lang/Float" ∈ gTbl)  (hln : st.length ≤ 4) (kk : T μ (d + 1) (pc + 3) ls (jI (b.toInt32) :: st) h u Q) : T μ (d + 1) pc ls (jF b :: st) h u Q := by
  intro p l e R s m args below meth c D B0 ad0 Z C S0 O ad H locs cells slots lsR stR hH hA hL hc hs hl hst
  obtain ⟨w0, t0, e0, v0, hst⟩ := hst
  subst e0; cases v0
  have hts := C.2.2.2.2.2.1
  obtain ⟨-, -, c3, -, -, -, -, -, -, c10, c11⟩ := id C
  have hsum := hst.catSum
  have hsz : c.maxLocals = lsR.size := by obtain ⟨lv, q, -⟩ := hl; rw [c3]; exact q.1.symm
  exact vn_f2i C.1 C.2.1 hsz C.2.2.2.2.1 (hts _ hw) (hts _ hw2) (hts _ hw3) (hts _ hw4) (by omega) (by omega) hd (kk p l e R s m args below meth c D B0 ad0 Z C S0 O ad H locs cells slots lsR _ hH hA hL hc hs hl ⟨_, _, rfl, rfl, hst⟩)
theorem T_bits2f {idx : Nat} {b : Int32} (hd : decode μ.2.1 pc = .ok (.invokestatic idx, 3)) (hw : Cond.methodLink μ.1.cls idx ⟨"java/lang/Float", "intBitsToFloat", "(I)F"⟩ ∈ gTbl) (hw2 : Cond.native ⟨"java/lang/Float", "intBitsToFloat", "(I)F"⟩ ∈ gTbl) (hw3 : Cond.static ⟨"java/lang/Float", "intBitsToFloat", "(I)F"⟩ ∈ gTbl) (hw4 : Cond.initialized "java/lang/Float" ∈ gTbl) (hv : vn_sni2f b = false) (hln : st.length ≤ 4) (kk : T μ (d + 1) (pc + 3) ls (jF (b.toUInt32) :: st) h u Q) : T μ (d + 1) pc ls (jI b :: st) h u Q := by
  intro p l e R s m args below meth c D B0 ad0 Z C S0 O ad H locs cells slots lsR stR hH hA hL hc hs hl hst
  obtain ⟨w0, t0, e0, v0, hst⟩ := hst
  subst e0; cases v0
  have hts := C.2.2.2.2.2.1
  obtain ⟨-, -, c3, -, -, -, -, -, -, c10, c11⟩ := id C
  have hsum := hst.catSum
  have hsz : c.maxLocals = lsR.size := by obtain ⟨lv, q, -⟩ := hl; rw [c3]; exact q.1.symm
  exact vn_i2f C.1 C.2.1 hsz C.2.2.2.2.1 (hts _ hw) (hts _ hw2) (hts _ hw3) (hts _ hw4) hv (by omega) (by omega) hd (kk p l e R s m args below meth c D B0 ad0 Z C S0 O ad H locs cells slots lsR _ hH hA hL hc hs hl ⟨_, _, rfl, rfl, hst⟩)
end Heap
