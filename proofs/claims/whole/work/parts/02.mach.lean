/-! A SMALLER MACHINE: names for addresses, a heap of named cells, judged by what the kit's rows say of W. -/
abbrev Nm : Type := Nat × Nat × Nat
abbrev MV : Type := Int32 ⊕ Int64 ⊕ UInt32 ⊕ UInt64 ⊕ Option Nm
abbrev jI (x : Int32) : MV := .inl x
abbrev jL (x : Int64) : MV := .inr (.inl x)
abbrev jF (x : UInt32) : MV := .inr (.inr (.inl x))
abbrev jD (x : UInt64) : MV := .inr (.inr (.inr (.inl x)))
abbrev jR (x : Option Nm) : MV := .inr (.inr (.inr (.inr x)))
/-- a cell: an object (number of its kind, fields) or an array (type, elements) -/
abbrev MC : Type := (Nat × List MV) ⊕ (FieldType × List MV)
abbrev MH : Type := Nm → Option MC
abbrev AD : Type := Nm → Option Nat
abbrev scr : Nm := (0, 0, 0)
def hset (h : MH) (n : Nm) (c : MC) : MH := fun k => if k = n then some c else h k
def adset (ad : AD) (n : Nm) (a : Nat) : AD := fun k => if k = n then some a else ad k
def VR (ad : AD) : MV → Value → Prop
  | .inl x, w => w = .int x
  | .inr (.inl x), w => w = .long x
  | .inr (.inr (.inl x)), w => w = .float x
  | .inr (.inr (.inr (.inl x))), w => w = .double x
  | .inr (.inr (.inr (.inr none))), w => w = .null
  | .inr (.inr (.inr (.inr (some n)))), w => ∃ a, ad n = some a ∧ w = .ref a
def cat2 : MV → Bool
  | .inr (.inl _) => true
  | .inr (.inr (.inr (.inl _))) => true
  | _ => false
abbrev DD : Type := (Nat → ClassId) × (Nat → Nat → Nat) × (FieldType → ClassId)
/-- the tables' words that go over a call as they stand -/
def gTbl : List Cond := lw_tbl.filter goodWord
/-- those that don't -/
def NG : List Cond := [.arrayOver (.object "RecordBridge$Row"), .arrayOver (.object "RecordBridge$Value"), .arrayOver (.object "RecordBridge$Kind"), .arrayOver (.object "RecordBridge$Edition"), .castable "[I" "java/lang/Cloneable", .methodLinkNest "RecordBridge$Comparer" 109 ⟨"RecordBridge", "oneIf", "(Z)I"⟩ "RecordBridge"]
abbrev aTys : List FieldType := [.int, .long, .boolean, .byte, .char, .object "RecordBridge$Row", .object "RecordBridge$Value", .object "RecordBridge$Kind", .object "RecordBridge$Edition"]
def CR (D : DD) (ad : AD) (a : Nat) (c : MC) (H : Heap) : Prop := match c with
  | .inl o => ∃ (r : vw_C) (V : Nat → Value), vwCl[o.1]? = some r ∧ o.2.length = r.2.2 ∧ t_OB a (D.1 o.1) r.2.2 (D.2.1 o.1) H V ∧ ∀ i v, o.2[i]? = some v → VR ad v (V i)
  | .inr o => o.1 ∈ aTys ∧ ∃ f : Nat → Value, H[a]? = some (arrV (D.2.2 o.1) o.2.length f) ∧ ∀ i v, o.2[i]? = some v → VR ad v (f i)
def KK (D : DD) (U : State) : Prop := (∀ (c : Nat) (q : vw_C), vwCl[c]? = some q → u_Kn U q.1 q.2.1 q.2.2 (D.1 c) (D.2.1 c)) ∧ (∀ ty ∈ aTys, ArrOfT U (D.2.2 ty) ty ∧ va_RA U (D.2.2 ty) ty) ∧ ∀ w ∈ NG, va_Nw w U
def HR (D : DD) (B0 : Heap) (ad : AD) (h : MH) (H : Heap) : Prop :=
  B0.size ≤ H.size ∧ (∀ q, q < B0.size → H[q]? = B0[q]?) ∧ (∀ n, h n = none ↔ (ad n = none ∨ n = scr)) ∧ (∀ n n' a, ad n = some a → ad n' = some a → n = n') ∧ ((∀ n a, ad n = some a → n ≠ scr → B0.size ≤ a) ∧ ∀ a, ad scr = some a → a < B0.size) ∧ ∀ n c a, h n = some c → ad n = some a → CR D ad a c H
def LR (ad : AD) (nL : Nat) (ls : List (Option MV)) (arr : Array Slot) : Prop :=
  ∃ lv : List (Nat × Value), lv_has arr nL lv ∧ ∀ i v, ls[i]? = some (some v) → ∃ w, (i, w) ∈ lv ∧ VR ad v w
def SR (ad : AD) : List MV → List Value → Prop
  | [], ws => ws = []
  | v :: vs, ws => ∃ w ws', ws = w :: ws' ∧ VR ad v w ∧ SR ad vs ws'
def OVR (ad : AD) : Option MV → Option Value → Prop
  | none, w => w = none
  | some v, w => ∃ x, w = some x ∧ VR ad v x
def AdLe (ad ad' : AD) : Prop := ∀ n a, ad n = some a → ad' n = some a
/-- a method: its name, code, locals, answer; the last: the script, of the law alone -/
abbrev MU : Type := MethodName × ByteArray × Nat × Option FieldType × Option (Nat × (Nat → Int32))
def SCX (o : Option (Nat × (Nat → Int32))) (B0 : Heap) (ad0 : AD) (s : State) : Prop := match o with
  | none => True
  | some q => ∃ b, ad0 scr = some b ∧ va_X b q.1 q.2 s B0 ∧ b < B0.size
/-- which instruction ends a method, with which answer -/
def RI (ret : Option FieldType) (i : Instr) (v : Option MV) : Prop :=
  (i = .ireturn ∧ ∃ x ty, v = some (jI x) ∧ ret = some ty ∧ narrow ty (.int x) = .int x) ∨
  (i = .lreturn ∧ ∃ x, v = some (jL x) ∧ ret = some .long) ∨
  (i = .areturn ∧ ∃ o rt, v = some (jR o) ∧ ret = some rt ∧ ((∃ n, rt = .object n) ∨ ∃ t, rt = .array t)) ∨
  (i = .return_ ∧ v = none ∧ ret = none)
def CX (μ : MU) (d : Nat) (D : DD) (p : Program) (R : Room) (s : State) (m : MethodId) (args : Array Value) (meth : Method) (c : Code) : Prop :=
  p.tables.exec = Jvm.exec ∧ c.code = μ.2.1 ∧ c.maxLocals = μ.2.2.1 ∧ meth.sig.returnType = μ.2.2.2.1 ∧ s.vm.findClass μ.1.cls = some m.cls ∧ (∀ w ∈ gTbl, w.before args s = true) ∧ meth.locks = false ∧ (μ.1.name = "<init>" → meth.name = "<init>") ∧ KK D s ∧ d ≤ R.frames ∧ 80 * d ≤ R.locals
def RO (μ : MU) (D : DD) (B0 : Heap) (ad0 : AD) (p : Program) (l : Launch) (e : Env) (R : Room) (s : State) (m : MethodId) (args : Array Value) (below : List Frame) (meth : Method) (c : Code) (Q : Option MV → MH → Prop) (Z : State → Prop) : Prop :=
  ∀ (ad : AD) (h : MH) (H : Heap) (locs : List Loc) (cells slots : Nat) (v : Option MV) (w : Option Value) (i : Instr) (pc : Nat) (lsR : Array Slot),
    HR D B0 ad h H → AdLe ad0 ad → (∀ q ∈ locs, B0.size ≤ q.base) → cells ≤ R.cells → slots ≤ R.slots → Q v h → OVR ad v w → RI μ.2.2.2.1 i v → decode μ.2.1 pc = .ok (i, 1) →
    W p l e R s m args below meth c H locs cells slots Z (F0 m pc lsR w.toList)
/-- THE JUDGEMENT: from pc on, with these locals, this stack, this heap and the room u, the method comes to its end with Q -/
def T (μ : MU) (d : Nat) (pc : Nat) (ls : List (Option MV)) (st : List MV) (h : MH) (u : Nat) (Q : Option MV → MH → Prop) : Prop :=
  ∀ (p : Program) (l : Launch) (e : Env) (R : Room) (s : State) (m : MethodId) (args : Array Value) (below : List Frame) (meth : Method) (c : Code) (D : DD) (B0 : Heap) (ad0 : AD) (Z : State → Prop),
    CX μ d D p R s m args meth c → SCX μ.2.2.2.2 B0 ad0 s → RO μ D B0 ad0 p l e R s m args below meth c Q Z →
    ∀ (ad : AD) (H : Heap) (locs : List Loc) (cells slots : Nat) (lsR : Array Slot) (stR : List Value),
      HR D B0 ad h H → AdLe ad0 ad → (∀ q ∈ locs, B0.size ≤ q.base) → cells + u ≤ R.cells → slots + u ≤ R.slots → LR ad μ.2.2.1 ls lsR → SR ad st stR →
      W p l e R s m args below meth c H locs cells slots Z (F0 m pc lsR stR)
abbrev rmOf (d u : Nat) : Room := { frames := d, cells := u, slots := u, locals := 80 * d }
abbrev wsOf (μ : MU) : List Cond := .code μ.1 μ.2.1 μ.2.2.1 μ.2.2.2.1 :: gTbl
def Ct (μ : MU) (d u : Nat) (av : List MV) (h : MH) (Q : Option MV → MH → Prop) : Prop :=
  ∀ (l : Launch) (D : DD) (B0 : Heap) (ad : AD), Met l μ.1 (wsOf μ) (rmOf d u)
    (fun a U => SR ad av a.toList ∧ HR D B0 ad h U.heap ∧ KK D U)
    (fun _ _ o t => ∃ (v : Option MV) (h' : MH) (ad' : AD) (w : Option Value), Q v h' ∧ AdLe ad ad' ∧ HR D B0 ad' h' t.heap ∧ OVR ad' v w ∧ o = .returned w) u u (fun q => B0.size ≤ q)
/-- a call with the room u: what is left behind it goes on -/
def inv (d : Nat) (μ : MU) (av : List MV) (h : MH) (u : Nat) (K : Option MV → MH → Nat → Prop) : Prop := ∃ u1, u1 ≤ u ∧ Ct μ d u1 av h (fun v h' => K v h' (u - u1))

theorem AdLe.rf (ad : AD) : AdLe ad ad := fun _ _ h => h
theorem AdLe.tr {a b c : AD} (h : AdLe a b) (k : AdLe b c) : AdLe a c := fun n x q => k n x (h n x q)
theorem VR.mono {ad ad' : AD} (h : AdLe ad ad') {v : MV} {w : Value} (k : VR ad v w) : VR ad' v w := by
  match v, k with
  | .inl x, k => exact k
  | .inr (.inl x), k => exact k
  | .inr (.inr (.inl x)), k => exact k
  | .inr (.inr (.inr (.inl x))), k => exact k
  | .inr (.inr (.inr (.inr none))), k => exact k
  | .inr (.inr (.inr (.inr (some n)))), ⟨a, k1, k2⟩ => exact ⟨a, h n a k1, k2⟩
theorem VR.cat {ad : AD} {v : MV} {w : Value} (k : VR ad v w) : w.category = if cat2 v then 2 else 1 := by
  match v, k with
  | .inl x, k => cases k; rfl
  | .inr (.inl x), k => cases k; rfl
  | .inr (.inr (.inl x)), k => cases k; rfl
  | .inr (.inr (.inr (.inl x))), k => cases k; rfl
  | .inr (.inr (.inr (.inr none))), k => cases k; rfl
  | .inr (.inr (.inr (.inr (some n)))), ⟨a, k1, k2⟩ => cases k2; rfl
theorem SR.mono {ad ad' : AD} (h : AdLe ad ad') : ∀ {st : List MV} {ws : List Value}, SR ad st ws → SR ad' st ws
  | [], _, k => k
  | _ :: _, _, ⟨w, ws', e, k1, k2⟩ => ⟨w, ws', e, k1.mono h, SR.mono h k2⟩
theorem OVR.mono {ad ad' : AD} (h : AdLe ad ad') : ∀ {v : Option MV} {w : Option Value}, OVR ad v w → OVR ad' v w
  | none, _, k => k
  | some _, _, ⟨x, e, k⟩ => ⟨x, e, k.mono h⟩
theorem LR.mono {ad ad' : AD} (h : AdLe ad ad') {nL : Nat} {ls : List (Option MV)} {arr : Array Slot} (k : LR ad nL ls arr) : LR ad' nL ls arr := by
  obtain ⟨lv, h1, h2⟩ := k
  refine ⟨lv, h1, fun i v hv => ?_⟩
  obtain ⟨w, a, b⟩ := h2 i v hv
  exact ⟨w, a, b.mono h⟩
theorem SR.len {ad : AD} : ∀ {st : List MV} {ws : List Value}, SR ad st ws → ws.length = st.length
  | [], _, k => by cases k; rfl
  | _ :: st, _, ⟨w, ws', e, _, k2⟩ => by subst e; simp [SR.len k2]
theorem SR.catSum {ad : AD} : ∀ {st : List MV} {ws : List Value}, SR ad st ws → (ws.map fun v => v.category).sum ≤ 2 * st.length
  | [], _, k => by cases k; simp
  | v :: st, _, ⟨w, ws', e, k1, k2⟩ => by
    subst e
    have := SR.catSum k2
    have h2 := k1.cat
    simp only [List.map_cons, List.sum_cons, List.length_cons]
    split at h2 <;> omega
theorem SR.app {ad : AD} : ∀ {a b : List MV} {x y : List Value}, SR ad a x → SR ad b y → SR ad (a ++ b) (x ++ y)
  | [], _, _, _, h, k => by cases h; exact k
  | _ :: _, _, _, _, ⟨w, ws', e, h1, h2⟩, k => by subst e; exact ⟨w, ws' ++ _, rfl, h1, SR.app h2 k⟩
theorem SR.split {ad : AD} : ∀ {a b : List MV} {z : List Value}, SR ad (a ++ b) z → ∃ x y, z = x ++ y ∧ SR ad a x ∧ SR ad b y
  | [], _, z, h => ⟨[], z, rfl, rfl, h⟩
  | _ :: a, _, _, ⟨w, ws', e, h1, h2⟩ => by
    obtain ⟨x, y, e2, k1, k2⟩ := SR.split (a := a) h2
    exact ⟨w :: x, y, by rw [e, e2]; rfl, ⟨w, x, rfl, h1, k1⟩, k2⟩
theorem SR.rev {ad : AD} : ∀ {a : List MV} {x : List Value}, SR ad a x → SR ad a.reverse x.reverse
  | [], _, h => by cases h; rfl
  | v :: a, _, ⟨w, ws', e, h1, h2⟩ => by
    subst e
    rw [List.reverse_cons, List.reverse_cons]
    exact SR.app (SR.rev h2) ⟨w, [], rfl, h1, rfl⟩
theorem KK.same {D : DD} {u U : State} (hvm : u.vm = U.vm) (h : KK D u) : KK D U :=
  ⟨fun c q hq => u_Kn_moved (hvm ▸ Vm.Alike.refl u.vm) (h.1 c q hq), fun ty ht => ⟨arrOfT_moved (hvm ▸ Vm.Alike.refl u.vm) (h.2.1 ty ht).1, (h.2.1 ty ht).2.moved (hvm ▸ Vm.Alike.refl u.vm)⟩, fun w hw => by
    have h1 := h.2.2 w hw
    simp only [NG, List.mem_cons, List.not_mem_nil, or_false] at hw
    rcases hw with rfl | rfl | rfl | rfl | rfl | rfl
    · exact va_AO.moved (hvm ▸ Vm.Alike.refl u.vm) h1
    · exact va_AO.moved (hvm ▸ Vm.Alike.refl u.vm) h1
    · exact va_AO.moved (hvm ▸ Vm.Alike.refl u.vm) h1
    · exact va_AO.moved (hvm ▸ Vm.Alike.refl u.vm) h1
    · exact va_Nw.same rfl hvm h1
    · exact va_Nw.same rfl hvm h1⟩
theorem KK.moved {D : DD} {u U : State} (hW : u.WarmedH U.vm) (h : KK D u) : KK D U :=
  ⟨fun c q hq => u_Kn_moved hW.alike (h.1 c q hq), fun ty ht => ⟨arrOfT_moved hW.alike (h.2.1 ty ht).1, (h.2.1 ty ht).2.moved hW.alike⟩, fun w hw => by
    have h1 := h.2.2 w hw
    simp only [NG, List.mem_cons, List.not_mem_nil, or_false] at hw
    rcases hw with rfl | rfl | rfl | rfl | rfl | rfl
    · exact va_AO.moved hW.alike h1
    · exact va_AO.moved hW.alike h1
    · exact va_AO.moved hW.alike h1
    · exact va_AO.moved hW.alike h1
    · exact va_Nw.warmC hW h1
    · exact va_Nw.warmM hW h1⟩
theorem CR.kept {D : DD} {ad : AD} {a : Nat} {c : MC} {H H1 : Heap} (h : CR D ad a c H) (hq : H1[a]? = H[a]?) : CR D ad a c H1 := by
  cases c with
  | inl o => obtain ⟨r, V, h1, h2, h3, h4⟩ := h; exact ⟨r, V, h1, h2, h3.kept hq, h4⟩
  | inr o => obtain ⟨h0, f, h1, h2⟩ := h; exact ⟨h0, f, hq.trans h1, h2⟩
theorem CR.mono {D : DD} {ad ad' : AD} (hle : AdLe ad ad') {a : Nat} {c : MC} {H : Heap} (h : CR D ad a c H) : CR D ad' a c H := by
  cases c with
  | inl o => obtain ⟨r, V, h1, h2, h3, h4⟩ := h; exact ⟨r, V, h1, h2, h3, fun i v hv => (h4 i v hv).mono hle⟩
  | inr o => obtain ⟨h0, f, h1, h2⟩ := h; exact ⟨h0, f, h1, fun i v hv => (h2 i v hv).mono hle⟩
theorem CR.lt {D : DD} {ad : AD} {a : Nat} {c : MC} {H : Heap} (h : CR D ad a c H) : a < H.size := by
  cases c with
  | inl o => obtain ⟨r, V, h1, h2, ⟨cell, h3, -⟩, h4⟩ := h; exact (Array.getElem?_eq_some_iff.mp h3).1
  | inr o => obtain ⟨h0, f, h1, h2⟩ := h; exact (Array.getElem?_eq_some_iff.mp h1).1
theorem HR.at {D : DD} {B0 : Heap} {ad : AD} {h : MH} {H : Heap} (k : HR D B0 ad h H) {n : Nm} {c : MC} (hn : h n = some c) : ∃ a, ad n = some a ∧ CR D ad a c H := by
  cases ha : ad n with
  | none => rw [(k.2.2.1 n).mpr (Or.inl ha)] at hn; cases hn
  | some a => exact ⟨a, rfl, k.2.2.2.2.2 n c a hn ha⟩
theorem HR.ns {D : DD} {B0 : Heap} {ad : AD} {h : MH} {H : Heap} (k : HR D B0 ad h H) {n : Nm} {c : MC} (hn : h n = some c) : n ≠ scr := fun e => by rw [(k.2.2.1 n).mpr (Or.inr e)] at hn; cases hn
theorem HR.fr {D : DD} {B0 : Heap} {ad : AD} {h : MH} {H : Heap} (k : HR D B0 ad h H) {n : Nm} (hn : h n = none) (hs : n ≠ scr) : ad n = none := ((k.2.2.1 n).mp hn).elim id (fun e => absurd e hs)
/-- one cell is written -/
theorem HR.set {D : DD} {B0 : Heap} {ad : AD} {h : MH} {H H1 : Heap} (k : HR D B0 ad h H) {n : Nm} {c c' : MC} {a : Nat} (hn : h n = some c) (ha : ad n = some a) (hz : H1.size = H.size) (oq : ∀ q, q ≠ a → H1[q]? = H[q]?) (hc : CR D ad a c' H1) : HR D B0 ad (hset h n c') H1 := by
  have hs := k.ns hn
  obtain ⟨k1, k2, k3, k4, k5, k6⟩ := k
  refine ⟨by omega, fun q hq => ?_, fun m => ?_, k4, k5, fun m c2 a2 hm ha2 => ?_⟩
  · have := k5.1 n a ha hs
    rw [oq q (by omega)]
    exact k2 q hq
  · unfold hset
    by_cases e : m = n
    · subst e
      rw [if_pos rfl, ha]
      simp [hs]
    · rw [if_neg e]; exact k3 m
  · unfold hset at hm
    by_cases e : m = n
    · subst e
      rw [if_pos rfl] at hm
      cases hm
      cases ha.symm.trans ha2
      exact hc
    · rw [if_neg e] at hm
      refine (k6 m c2 a2 hm ha2).kept (oq a2 (fun q => e ?_))
      subst q
      exact k4 m n a2 ha2 ha
theorem adset_le {ad : AD} {n : Nm} {a : Nat} (h : ad n = none) : AdLe ad (adset ad n a) := fun m b hm => by
  unfold adset
  by_cases e : m = n
  · subst e; rw [h] at hm; cases hm
  · rw [if_neg e]; exact hm
/-- one cell is made -/
theorem HR.push {D : DD} {B0 : Heap} {ad : AD} {h : MH} {H H1 : Heap} (k : HR D B0 ad h H) {n : Nm} {c : MC} (hn : h n = none) (hs : n ≠ scr) (hz : H1.size = H.size + 1) (oq : ∀ q, q < H.size → H1[q]? = H[q]?) (hc : CR D (adset ad n H.size) H.size c H1) : HR D B0 (adset ad n H.size) (hset h n c) H1 := by
  obtain ⟨k1, k2, k3, k4, ⟨k5, k7⟩, k6⟩ := k
  have hadn : ad n = none := ((k3 n).mp hn).elim id (fun e => absurd e hs)
  have hlt : ∀ m b, ad m = some b → b < H.size := by
    intro m b hb
    by_cases hms : m = scr
    · subst hms; exact Nat.lt_of_lt_of_le (k7 b hb) k1
    cases hm : h m with
    | none => rcases (k3 m).mp hm with q | q; rw [q] at hb; cases hb; exact absurd q hms
    | some c2 => exact (k6 m c2 b hm hb).lt
  refine ⟨by omega, fun q hq => ?_, fun m => ?_, fun m m' b h1 h2 => ?_, ⟨fun m b h1 h2 => ?_, fun b h1 => ?_⟩, fun m c2 b h1 h2 => ?_⟩
  · rw [oq q (by omega)]; exact k2 q hq
  · unfold hset adset
    by_cases e : m = n
    · rw [if_pos e, if_pos e]; simp [e, hs]
    · rw [if_neg e, if_neg e]; exact k3 m
  · unfold adset at h1 h2
    by_cases e : m = n
    · rw [if_pos e] at h1
      cases h1
      by_cases e' : m' = n
      · rw [e, e']
      · rw [if_neg e'] at h2
        exact absurd (hlt m' _ h2) (by omega)
    · rw [if_neg e] at h1
      by_cases e' : m' = n
      · rw [if_pos e'] at h2
        cases h2
        exact absurd (hlt m _ h1) (by omega)
      · rw [if_neg e'] at h2
        exact k4 m m' b h1 h2
  · unfold adset at h1
    by_cases e : m = n
    · rw [if_pos e] at h1; cases h1; exact k1
    · rw [if_neg e] at h1; exact k5 m b h1 h2
  · unfold adset at h1
    rw [if_neg (fun e => hs e.symm)] at h1
    exact k7 b h1
  · unfold hset at h1
    unfold adset at h2
    by_cases e : m = n
    · rw [if_pos e] at h1 h2
      cases h1; cases h2
      exact hc
    · rw [if_neg e] at h1 h2
      exact ((k6 m c2 b h1 h2).kept (oq b (hlt m b h2))).mono (adset_le hadn)
