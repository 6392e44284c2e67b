/-! WHAT A WALK ASKS FOR: a formula, read off the bytecode by a program; these are its words -/
def gI (h : MH) (o : Option Nm) (ci k : Nat) (K : Int32 → Prop) : Prop := match o with
  | none => False
  | some n => match h n with
    | some (.inl (c, fs)) => c = ci ∧ (match fs[k]? with
      | some (.inl x) => K x
      | _ => False)
    | _ => False
def gR (h : MH) (o : Option Nm) (ci k : Nat) (K : Option Nm → Prop) : Prop := match o with
  | none => False
  | some n => match h n with
    | some (.inl (c, fs)) => c = ci ∧ (match fs[k]? with
      | some (.inr (.inr (.inr (.inr x)))) => K x
      | _ => False)
    | _ => False
def pV (h : MH) (o : Option Nm) (ci k : Nat) (v : MV) (K : MH → Prop) : Prop := match o with
  | none => False
  | some n => match h n with
    | some (.inl (c, fs)) => c = ci ∧ K (hset h n (.inl (c, fs.set k v)))
    | _ => False
def aI (ty : FieldType) (h : MH) (o : Option Nm) (i : Int32) (K : Int32 → Prop) : Prop := match o with
  | none => False
  | some n => match h n with
    | some (.inr (t, es)) => t = ty ∧ ¬ i < 0 ∧ (match es[i.toNatClampNeg]? with
      | some (.inl x) => K x
      | _ => False)
    | _ => False
def aL (h : MH) (o : Option Nm) (i : Int32) (K : Int64 → Prop) : Prop := match o with
  | none => False
  | some n => match h n with
    | some (.inr (t, es)) => t = .long ∧ ¬ i < 0 ∧ (match es[i.toNatClampNeg]? with
      | some (.inr (.inl x)) => K x
      | _ => False)
    | _ => False
def aR (cn : String) (h : MH) (o : Option Nm) (i : Int32) (K : Option Nm → Prop) : Prop := match o with
  | none => False
  | some n => match h n with
    | some (.inr (t, es)) => t = .object cn ∧ ¬ i < 0 ∧ (match es[i.toNatClampNeg]? with
      | some (.inr (.inr (.inr (.inr x)))) => K x
      | _ => False)
    | _ => False
def aN (h : MH) (o : Option Nm) (K : Int32 → Prop) : Prop := match o with
  | none => False
  | some n => match h n with
    | some (.inr (_, es)) => K (Int32.ofNat es.length)
    | _ => False
def sV (ty : FieldType) (h : MH) (o : Option Nm) (i : Int32) (v : MV) (K : MH → Prop) : Prop := match o with
  | none => False
  | some n => match h n with
    | some (.inr (t, es)) => t = ty ∧ ¬ i < 0 ∧ i.toNatClampNeg < es.length ∧ K (hset h n (.inr (t, es.set i.toNatClampNeg v)))
    | _ => False
/-- o is an object of kind ci -/
def rc (h : MH) (o : Option Nm) (ci : Nat) : Prop := match o with
  | none => False
  | some n => match h n with
    | some (.inl (c, _)) => c = ci
    | _ => False
def nO (h : MH) (u ci : Nat) (fs : List MV) (K : Nm → MH → Nat → Prop) : Prop := fs.length + 1 ≤ u ∧ ∃ n, h n = none ∧ n ≠ scr ∧ K n (hset h n (.inl (ci, fs))) (u - (fs.length + 1))
def nA (ty : FieldType) (h : MH) (u : Nat) (len : Int32) (K : Nm → MH → Nat → Prop) : Prop := ¬ len < 0 ∧ len.toNatClampNeg ≤ 65536 ∧ len.toNatClampNeg + 1 ≤ u ∧ ∃ n, h n = none ∧ n ≠ scr ∧ K n (hset h n (.inr (ty, List.replicate len.toNatClampNeg (dflt ty)))) (u - (len.toNatClampNeg + 1))
def cI (h : MH) (u : Nat) (o : Option Nm) (K : Nm → MH → Nat → Prop) : Prop := match o with
  | none => False
  | some n => match h n with
    | some (.inr (t, es)) => t = .int ∧ (∀ v ∈ es, ∃ x, v = jI x) ∧ es.length + 1 ≤ u ∧ ∃ n', h n' = none ∧ n' ≠ scr ∧ K n' (hset h n' (.inr (.int, es))) (u - (es.length + 1))
    | _ => False
def cpL (h : MH) (src : Option Nm) (sp : Int32) (dst : Option Nm) (dp n : Int32) (K : MH → Prop) : Prop := match src, dst with
  | some a, some b => match h a, h b with
    | some (.inr (t, es)), some (.inr (t', ed)) => t = .long ∧ t' = .long ∧ (∀ v ∈ es, ∃ x, v = jL x) ∧ ¬ sp < 0 ∧ ¬ dp < 0 ∧ ¬ n < 0 ∧ sp.toNatClampNeg + n.toNatClampNeg ≤ es.length ∧ dp.toNatClampNeg + n.toNatClampNeg ≤ ed.length ∧ K (hset h b (.inr (.long, cpyL es ed sp.toNatClampNeg dp.toNatClampNeg n.toNatClampNeg)))
    | _, _ => False
  | _, _ => False
/-- a value gets a name -/
def nm {α : Type} (e : α) (K : α → Prop) : Prop := K e
def nl (o : Option Nm) (A B : Prop) : Prop := match o with
  | none => A
  | some _ => B
def qI (Q : Int32 → MH → Prop) : Option MV → MH → Prop := fun v h => match v with
  | some (.inl x) => Q x h
  | _ => False
def qL (Q : Int64 → MH → Prop) : Option MV → MH → Prop := fun v h => match v with
  | some (.inr (.inl x)) => Q x h
  | _ => False
def qR (Q : Option Nm → MH → Prop) : Option MV → MH → Prop := fun v h => match v with
  | some (.inr (.inr (.inr (.inr x)))) => Q x h
  | _ => False
def qV (Q : MH → Prop) : Option MV → MH → Prop := fun v h => match v with
  | none => Q h
  | _ => False
def iI (d : Nat) (μ : MU) (av : List MV) (h : MH) (u : Nat) (K : Int32 → MH → Nat → Prop) : Prop := inv d μ av h u (fun v h' u' => qI (fun x h2 => K x h2 u') v h')
def iL (d : Nat) (μ : MU) (av : List MV) (h : MH) (u : Nat) (K : Int64 → MH → Nat → Prop) : Prop := inv d μ av h u (fun v h' u' => qL (fun x h2 => K x h2 u') v h')
def iR (d : Nat) (μ : MU) (av : List MV) (h : MH) (u : Nat) (K : Option Nm → MH → Nat → Prop) : Prop := inv d μ av h u (fun v h' u' => qR (fun x h2 => K x h2 u') v h')
def iV (d : Nat) (μ : MU) (av : List MV) (h : MH) (u : Nat) (K : MH → Nat → Prop) : Prop := inv d μ av h u (fun v h' u' => qV (fun h2 => K h2 u') v h')
def nz (x : Int32) : Prop := x = 0 ∨ x = 1
theorem nz_nar {x : Int32} (h : nz x) : narrow .boolean (.int x) = .int x := by rcases h with rfl | rfl <;> decide
def LLe : List (Option MV) → List (Option MV) → Prop
  | [], _ => True
  | none :: a, [] => LLe a []
  | none :: a, _ :: b => LLe a b
  | some _ :: _, [] => False
  | some v :: a, w :: b => w = some v ∧ LLe a b
theorem LLe.at : ∀ {a b : List (Option MV)}, LLe a b → ∀ (i : Nat) (v : MV), a[i]? = some (some v) → b[i]? = some (some v)
  | [], _, _, i, v, hv => by simp at hv
  | none :: a, [], h, i, v, hv => by
    cases i with
    | zero => cases hv
    | succ i => have := LLe.at (a := a) (b := []) h i v (by simpa using hv); simp at this
  | none :: a, _ :: b, h, i, v, hv => by
    cases i with
    | zero => cases hv
    | succ i => simpa using LLe.at (a := a) (b := b) h i v (by simpa using hv)
  | some _ :: _, [], h, i, v, hv => by cases h
  | some x :: a, w :: b, h, i, v, hv => by
    cases i with
    | zero => cases hv; rw [h.1]; rfl
    | succ i => simpa using LLe.at (a := a) (b := b) h.2 i v (by simpa using hv)
section WP
variable {μ ν : MU} {d pc : Nat} {ls : List (Option MV)} {st : List MV} {h : MH} {u : Nat} {Q : Option MV → MH → Prop}
theorem T.forget {ls2 : List (Option MV)} (k : T μ d pc ls2 st h u Q) (hle : LLe ls2 ls) : T μ d pc ls st h u Q := by
  intro p l e R s m args below meth c D B0 ad0 Z C S0 O ad H locs cells slots lsR stR hH hA hL hc hs hl hst
  obtain ⟨lv, h1, h2⟩ := hl
  exact k p l e R s m args below meth c D B0 ad0 Z C S0 O ad H locs cells slots lsR stR hH hA hL hc hs ⟨lv, h1, fun i v hv => h2 i v (hle.at i v hv)⟩ hst
theorem gI_mono {o : Option Nm} {ci k : Nat} {K K' : Int32 → Prop} (hk : ∀ x, K x → K' x) (H : gI h o ci k K) : gI h o ci k K' := by
  unfold gI at H ⊢
  split at H
  · cases H
  · split at H
    · refine ⟨H.1, ?_⟩
      have H := H.2
      split at H
      · exact hk _ H
      · cases H
    · cases H
theorem gR_mono {o : Option Nm} {ci k : Nat} {K K' : Option Nm → Prop} (hk : ∀ x, K x → K' x) (H : gR h o ci k K) : gR h o ci k K' := by
  unfold gR at H ⊢
  split at H
  · cases H
  · split at H
    · refine ⟨H.1, ?_⟩
      have H := H.2
      split at H
      · exact hk _ H
      · cases H
    · cases H
theorem T_gI {idx ci k : Nat} {ty : FieldType} {fin : Bool} {dcl : String} {o : Option Nm} (hf : FA μ.1.cls idx ci k ty fin dcl) (hd : decode μ.2.1 pc = .ok (.getfield idx, 3)) (H : gI h o ci k (fun x => T μ d (pc + 3) ls (jI x :: st) h u Q)) : T μ d pc ls (jR o :: st) h u Q := by
  unfold gI at H
  split at H
  · cases H
  · split at H
    · rename_i hn
      obtain ⟨rfl, H⟩ := H
      split at H
      · rename_i hk; exact T_getV hf hd hn hk H
      · cases H
    · cases H
theorem T_gR {idx ci k : Nat} {ty : FieldType} {fin : Bool} {dcl : String} {o : Option Nm} (hf : FA μ.1.cls idx ci k ty fin dcl) (hd : decode μ.2.1 pc = .ok (.getfield idx, 3)) (H : gR h o ci k (fun x => T μ d (pc + 3) ls (jR x :: st) h u Q)) : T μ d pc ls (jR o :: st) h u Q := by
  unfold gR at H
  split at H
  · cases H
  · split at H
    · rename_i hn
      obtain ⟨rfl, H⟩ := H
      split at H
      · rename_i hk; exact T_getV hf hd hn hk H
      · cases H
    · cases H
theorem pV_mono {o : Option Nm} {ci k : Nat} {v : MV} {K K' : MH → Prop} (hk : ∀ x, K x → K' x) (H : pV h o ci k v K) : pV h o ci k v K' := by
  unfold pV at H ⊢
  split at H
  · cases H
  · split at H
    · exact ⟨H.1, hk _ H.2⟩
    · cases H
theorem T_pV {idx ci k : Nat} {ty : FieldType} {dcl : String} {o : Option Nm} {v : MV} (hf : FA μ.1.cls idx ci k ty false dcl) (hd : decode μ.2.1 pc = .ok (.putfield idx, 3)) (hv : fitsV ty v) (H : pV h o ci k v (fun h => T μ d (pc + 3) ls st h u Q)) : T μ d pc ls (v :: jR o :: st) h u Q := by
  unfold pV at H
  split at H
  · cases H
  · split at H
    · rename_i hn
      obtain ⟨rfl, H⟩ := H
      exact T_putV hf hd hn hv H
    · cases H
theorem T_pVF {idx ci k : Nat} {ty : FieldType} {dcl : String} {o : Option Nm} {v : MV} (hf : FA μ.1.cls idx ci k ty true dcl) (hin : μ.1.name = "<init>") (hdcl : dcl = μ.1.cls) (hd : decode μ.2.1 pc = .ok (.putfield idx, 3)) (hv : fitsV ty v) (H : pV h o ci k v (fun h => T μ d (pc + 3) ls st h u Q)) : T μ d pc ls (v :: jR o :: st) h u Q := by
  unfold pV at H
  split at H
  · cases H
  · split at H
    · rename_i hn
      obtain ⟨rfl, H⟩ := H
      exact T_putF hf hin hdcl hd hn hv H
    · cases H
theorem aI_mono {ty : FieldType} {o : Option Nm} {i : Int32} {K K' : Int32 → Prop} (hk : ∀ x, K x → K' x) (H : aI ty h o i K) : aI ty h o i K' := by
  unfold aI at H ⊢
  split at H
  · cases H
  · split at H
    · refine ⟨H.1, H.2.1, ?_⟩
      have H := H.2.2
      split at H
      · exact hk _ H
      · cases H
    · cases H
theorem aL_mono {o : Option Nm} {i : Int32} {K K' : Int64 → Prop} (hk : ∀ x, K x → K' x) (H : aL h o i K) : aL h o i K' := by
  unfold aL at H ⊢
  split at H
  · cases H
  · split at H
    · refine ⟨H.1, H.2.1, ?_⟩
      have H := H.2.2
      split at H
      · exact hk _ H
      · cases H
    · cases H
theorem aR_mono {cn : String} {o : Option Nm} {i : Int32} {K K' : Option Nm → Prop} (hk : ∀ x, K x → K' x) (H : aR cn h o i K) : aR cn h o i K' := by
  unfold aR at H ⊢
  split at H
  · cases H
  · split at H
    · refine ⟨H.1, H.2.1, ?_⟩
      have H := H.2.2
      split at H
      · exact hk _ H
      · cases H
    · cases H
theorem aN_mono {o : Option Nm} {K K' : Int32 → Prop} (hk : ∀ x, K x → K' x) (H : aN h o K) : aN h o K' := by
  unfold aN at H ⊢
  split at H
  · cases H
  · split at H
    · exact hk _ H
    · cases H
theorem T_aI {o : Option Nm} {i : Int32} (hd : decode μ.2.1 pc = .ok (.iaload, 1)) (H : aI .int h o i (fun x => T μ d (pc + 1) ls (jI x :: st) h u Q)) : T μ d pc ls (jI i :: jR o :: st) h u Q := by
  unfold aI at H
  split at H
  · cases H
  · split at H
    · rename_i hn
      obtain ⟨rfl, hi, H⟩ := H
      split at H
      · rename_i hk; exact T_iaload hd hn hi hk H
      · cases H
    · cases H
theorem T_aB {o : Option Nm} {i : Int32} (hd : decode μ.2.1 pc = .ok (.baload, 1)) (H : aI .byte h o i (fun x => T μ d (pc + 1) ls (jI x :: st) h u Q)) : T μ d pc ls (jI i :: jR o :: st) h u Q := by
  unfold aI at H
  split at H
  · cases H
  · split at H
    · rename_i hn
      obtain ⟨rfl, hi, H⟩ := H
      split at H
      · rename_i hk; exact T_baloadB hd hn hi hk H
      · cases H
    · cases H
theorem T_aZ {o : Option Nm} {i : Int32} (hd : decode μ.2.1 pc = .ok (.baload, 1)) (H : aI .boolean h o i (fun x => T μ d (pc + 1) ls (jI x :: st) h u Q)) : T μ d pc ls (jI i :: jR o :: st) h u Q := by
  unfold aI at H
  split at H
  · cases H
  · split at H
    · rename_i hn
      obtain ⟨rfl, hi, H⟩ := H
      split at H
      · rename_i hk; exact T_baloadZ hd hn hi hk H
      · cases H
    · cases H
theorem T_aC {o : Option Nm} {i : Int32} (hd : decode μ.2.1 pc = .ok (.caload, 1)) (H : aI .char h o i (fun x => T μ d (pc + 1) ls (jI x :: st) h u Q)) : T μ d pc ls (jI i :: jR o :: st) h u Q := by
  unfold aI at H
  split at H
  · cases H
  · split at H
    · rename_i hn
      obtain ⟨rfl, hi, H⟩ := H
      split at H
      · rename_i hk; exact T_caload hd hn hi hk H
      · cases H
    · cases H
theorem T_aL {o : Option Nm} {i : Int32} (hd : decode μ.2.1 pc = .ok (.laload, 1)) (H : aL h o i (fun x => T μ d (pc + 1) ls (jL x :: st) h u Q)) : T μ d pc ls (jI i :: jR o :: st) h u Q := by
  unfold aL at H
  split at H
  · cases H
  · split at H
    · rename_i hn
      obtain ⟨rfl, hi, H⟩ := H
      split at H
      · rename_i hk; exact T_laload hd hn hi hk H
      · cases H
    · cases H
theorem T_aR {cn : String} {o : Option Nm} {i : Int32} (hd : decode μ.2.1 pc = .ok (.aaload, 1)) (H : aR cn h o i (fun x => T μ d (pc + 1) ls (jR x :: st) h u Q)) : T μ d pc ls (jI i :: jR o :: st) h u Q := by
  unfold aR at H
  split at H
  · cases H
  · split at H
    · rename_i hn
      obtain ⟨rfl, hi, H⟩ := H
      split at H
      · rename_i hk; exact T_aaload hd hn hi hk H
      · cases H
    · cases H
theorem T_aN {o : Option Nm} (hd : decode μ.2.1 pc = .ok (.arraylength, 1)) (H : aN h o (fun x => T μ d (pc + 1) ls (jI x :: st) h u Q)) : T μ d pc ls (jR o :: st) h u Q := by
  unfold aN at H
  split at H
  · cases H
  · split at H
    · rename_i hn
      exact T_alen hd hn H
    · cases H
theorem sV_mono {ty : FieldType} {o : Option Nm} {i : Int32} {v : MV} {K K' : MH → Prop} (hk : ∀ x, K x → K' x) (H : sV ty h o i v K) : sV ty h o i v K' := by
  unfold sV at H ⊢
  split at H
  · cases H
  · split at H
    · exact ⟨H.1, H.2.1, H.2.2.1, hk _ H.2.2.2⟩
    · cases H
theorem T_sI {o : Option Nm} {i x : Int32} (hd : decode μ.2.1 pc = .ok (.iastore, 1)) (H : sV .int h o i (jI x) (fun h => T μ d (pc + 1) ls st h u Q)) : T μ d pc ls (jI x :: jI i :: jR o :: st) h u Q := by
  unfold sV at H
  split at H
  · cases H
  · split at H
    · rename_i hn; obtain ⟨rfl, h1, h2, H⟩ := H; exact T_iastore hd hn h1 h2 H
    · cases H
theorem T_sL {o : Option Nm} {i : Int32} {x : Int64} (hd : decode μ.2.1 pc = .ok (.lastore, 1)) (H : sV .long h o i (jL x) (fun h => T μ d (pc + 1) ls st h u Q)) : T μ d pc ls (jL x :: jI i :: jR o :: st) h u Q := by
  unfold sV at H
  split at H
  · cases H
  · split at H
    · rename_i hn; obtain ⟨rfl, h1, h2, H⟩ := H; exact T_lastore hd hn h1 h2 H
    · cases H
theorem T_sB {o : Option Nm} {i x : Int32} (hd : decode μ.2.1 pc = .ok (.bastore, 1)) (H : sV .byte h o i (jI x.toInt8.toInt32) (fun h => T μ d (pc + 1) ls st h u Q)) : T μ d pc ls (jI x :: jI i :: jR o :: st) h u Q := by
  unfold sV at H
  split at H
  · cases H
  · split at H
    · rename_i hn; obtain ⟨rfl, h1, h2, H⟩ := H; exact T_bastoreB hd hn h1 h2 H
    · cases H
theorem T_sZ {o : Option Nm} {i x : Int32} (hd : decode μ.2.1 pc = .ok (.bastore, 1)) (H : sV .boolean h o i (jI (vp_nar .boolean x)) (fun h => T μ d (pc + 1) ls st h u Q)) : T μ d pc ls (jI x :: jI i :: jR o :: st) h u Q := by
  unfold sV at H
  split at H
  · cases H
  · split at H
    · rename_i hn; obtain ⟨rfl, h1, h2, H⟩ := H; exact T_bastoreZ hd hn h1 h2 H
    · cases H
theorem T_sC {o : Option Nm} {i x : Int32} (hd : decode μ.2.1 pc = .ok (.castore, 1)) (H : sV .char h o i (jI (vp_nar .char x)) (fun h => T μ d (pc + 1) ls st h u Q)) : T μ d pc ls (jI x :: jI i :: jR o :: st) h u Q := by
  unfold sV at H
  split at H
  · cases H
  · split at H
    · rename_i hn; obtain ⟨rfl, h1, h2, H⟩ := H; exact T_castore hd hn h1 h2 H
    · cases H
theorem rc_out {o : Option Nm} {ci : Nat} (H : rc h o ci) : ∃ n fs, o = some n ∧ h n = some (.inl (ci, fs)) := by
  unfold rc at H
  split at H
  · cases H
  · split at H
    · rename_i hn; subst H; exact ⟨_, _, rfl, hn⟩
    · cases H
theorem T_sR {cn : String} {ci : Nat} {o r : Option Nm} {i : Int32} (hd : decode μ.2.1 pc = .ok (.aastore, 1)) (hcn : (vwCl[ci]?).map (fun q => q.1) = some cn) (H : rc h r ci ∧ sV (.object cn) h o i (jR r) (fun h => T μ d (pc + 1) ls st h u Q)) : T μ d pc ls (jR r :: jI i :: jR o :: st) h u Q := by
  obtain ⟨H0, H⟩ := H
  obtain ⟨m2, fs, rfl, hm⟩ := rc_out H0
  unfold sV at H
  split at H
  · cases H
  · split at H
    · rename_i hn; obtain ⟨rfl, h1, h2, H⟩ := H; exact T_aastore hd hn hm hcn h1 h2 H
    · cases H
theorem nO_mono {ci : Nat} {fs : List MV} {K K' : Nm → MH → Nat → Prop} (hk : ∀ n h u, K n h u → K' n h u) (H : nO h u ci fs K) : nO h u ci fs K' := by
  obtain ⟨a, n, b, c, H⟩ := H
  exact ⟨a, n, b, c, hk _ _ _ H⟩
theorem T_nO {idx ci : Nat} {fs : List MV} (hf : NF μ.1.cls idx ci fs) (hd : decode μ.2.1 pc = .ok (.new idx, 3)) (H : nO h u ci fs (fun n h u => T μ d (pc + 3) ls (jR (some n) :: st) h u Q)) : T μ d pc ls st h u Q := by
  obtain ⟨a, n, b, c, H⟩ := H
  exact T_new n hf hd b c a H
theorem nA_mono {ty : FieldType} {len : Int32} {K K' : Nm → MH → Nat → Prop} (hk : ∀ n h u, K n h u → K' n h u) (H : nA ty h u len K) : nA ty h u len K' := by
  obtain ⟨a, a2, a3, n, b, c, H⟩ := H
  exact ⟨a, a2, a3, n, b, c, hk _ _ _ H⟩
theorem T_nA {atype : ArrayType} {ty : FieldType} {len : Int32} (hd : decode μ.2.1 pc = .ok (.newarray atype, 2)) (hty : newarray.typeOf atype = ty) (hin : ty ∈ aTys) (hw : Cond.arrayClass ty ∈ gTbl) (H : nA ty h u len (fun n h u => T μ d (pc + 2) ls (jR (some n) :: st) h u Q)) : T μ d pc ls (jI len :: st) h u Q := by
  obtain ⟨a, a2, a3, n, b, c, H⟩ := H
  exact T_newarray n hd hty hin hw a a2 b c a3 H
theorem T_nAR {idx : Nat} {cn : String} {len : Int32} (hd : decode μ.2.1 pc = .ok (.anewarray idx, 3)) (hin : FieldType.object cn ∈ aTys) (hw : Cond.classLink μ.1.cls idx cn ∈ gTbl) (hw2 : Cond.arrayOver (.object cn) ∈ NG) (H : nA (.object cn) h u len (fun n h u => T μ d (pc + 3) ls (jR (some n) :: st) h u Q)) : T μ d pc ls (jI len :: st) h u Q := by
  obtain ⟨a, a2, a3, n, b, c, H⟩ := H
  exact T_anewarray n hd hin hw hw2 a a2 b c a3 H
theorem cI_mono {o : Option Nm} {K K' : Nm → MH → Nat → Prop} (hk : ∀ n h u, K n h u → K' n h u) (H : cI h u o K) : cI h u o K' := by
  unfold cI at H ⊢
  split at H
  · cases H
  · split at H
    · obtain ⟨a, b, c, n, e, f, H⟩ := H; exact ⟨a, b, c, n, e, f, hk _ _ _ H⟩
    · cases H
theorem T_cI {idx : Nat} {o : Option Nm} (hd : decode μ.2.1 pc = .ok (.invokevirtual idx, 3)) (hw : Cond.methodLink μ.1.cls idx ⟨"[I", "clone", "()Ljava/lang/Object;"⟩ ∈ gTbl) (hw2 : Cond.sameMethod "[I" "java/lang/Object" "clone" "()Ljava/lang/Object;" ∈ gTbl)
    (hw3 : Cond.native ⟨"java/lang/Object", "clone", "()Ljava/lang/Object;"⟩ ∈ gTbl) (hw4 : Cond.instanceMethod ⟨"java/lang/Object", "clone", "()Ljava/lang/Object;"⟩ ∈ gTbl) (hw5 : Cond.selects "[I" ⟨"[I", "clone", "()Ljava/lang/Object;"⟩ ⟨"java/lang/Object", "clone", "()Ljava/lang/Object;"⟩ ∈ gTbl) (hw6 : Cond.castable "[I" "java/lang/Cloneable" ∈ NG)
    (hd2 : ∃ i2, decode μ.2.1 (pc + 3) = .ok (.checkcast i2, 3) ∧ Cond.classLink μ.1.cls i2 "[I" ∈ gTbl) (hln : st.length ≤ 4) (H : cI h u o (fun n h u => T μ (d + 1) (pc + 3 + 3) ls (jR (some n) :: st) h u Q)) : T μ (d + 1) pc ls (jR o :: st) h u Q := by
  unfold cI at H
  split at H
  · cases H
  · split at H
    · rename_i hn
      obtain ⟨rfl, b, c, n, e, f, H⟩ := H
      obtain ⟨i2, k1, k2⟩ := hd2
      exact T_clone n hd hw hw2 hw3 hw4 hw5 hw6 hln hn b e f c (T_castI (es := _) k1 k2 (by simp only [hset, if_pos]; rfl) H)
    · cases H
theorem cpL_mono {src dst : Option Nm} {sp dp n : Int32} {K K' : MH → Prop} (hk : ∀ x, K x → K' x) (H : cpL h src sp dst dp n K) : cpL h src sp dst dp n K' := by
  unfold cpL at H ⊢
  split at H
  · split at H
    · obtain ⟨a1, a2, a3, a4, a5, a6, a7, a8, H⟩ := H; exact ⟨a1, a2, a3, a4, a5, a6, a7, a8, hk _ H⟩
    · cases H
  · cases H
theorem T_cpL {idx : Nat} {src dst : Option Nm} {sp dp n : Int32} (hd : decode μ.2.1 pc = .ok (.invokestatic idx, 3)) (hw : Cond.methodLink μ.1.cls idx arraycopyName ∈ gTbl) (hw2 : Cond.native arraycopyName ∈ gTbl) (hw3 : Cond.static arraycopyName ∈ gTbl) (hw4 : Cond.initialized "java/lang/System" ∈ gTbl) (hln : st.length ≤ 4)
    (H : cpL h src sp dst dp n (fun h => T μ (d + 1) (pc + 3) ls st h u Q)) : T μ (d + 1) pc ls (jI n :: jI dp :: jR dst :: jI sp :: jR src :: st) h u Q := by
  unfold cpL at H
  split at H
  · split at H
    · rename_i hn0 hn1
      obtain ⟨rfl, rfl, a3, a4, a5, a6, a7, a8, H⟩ := H
      exact T_arraycopy hd hw hw2 hw3 hw4 hln hn0 hn1 a3 a4 a5 a6 a7 a8 H
    · cases H
  · cases H
theorem nm_mono {α : Type} {e : α} {K K' : α → Prop} (hk : ∀ x, K x → K' x) (H : nm e K) : nm e K' := hk _ H
theorem nl_n {o : Option Nm} {A B : Prop} (ho : o = none) (H : nl o A B) : A := by subst ho; exact H
theorem nl_s {o : Option Nm} {A B : Prop} {n : Nm} (ho : o = some n) (H : nl o A B) : B := by subst ho; exact H
theorem iI_mono {av : List MV} {K K' : Int32 → MH → Nat → Prop} (hk : ∀ x h u, K x h u → K' x h u) (H : iI d ν av h u K) : iI d ν av h u K' := inv.mono (fun v h u q => by
  unfold qI at q ⊢
  split at q
  · exact hk _ _ _ q
  · cases q) H
theorem iL_mono {av : List MV} {K K' : Int64 → MH → Nat → Prop} (hk : ∀ x h u, K x h u → K' x h u) (H : iL d ν av h u K) : iL d ν av h u K' := inv.mono (fun v h u q => by
  unfold qL at q ⊢
  split at q
  · exact hk _ _ _ q
  · cases q) H
theorem iR_mono {av : List MV} {K K' : Option Nm → MH → Nat → Prop} (hk : ∀ x h u, K x h u → K' x h u) (H : iR d ν av h u K) : iR d ν av h u K' := inv.mono (fun v h u q => by
  unfold qR at q ⊢
  split at q
  · exact hk _ _ _ q
  · cases q) H
theorem iV_mono {av : List MV} {K K' : MH → Nat → Prop} (hk : ∀ h u, K h u → K' h u) (H : iV d ν av h u K) : iV d ν av h u K' := inv.mono (fun v h u q => by
  unfold qV at q ⊢
  split at q
  · exact hk _ _ q
  · cases q) H
/-- a call's answer on the stack, by its sort -/
theorem iI_k {av rest : List MV} (H : iI d ν av h u (fun x h u => T μ (d + 1) (pc + 3) ls (jI x :: rest) h u Q)) : inv d ν av h u (fun v h' u' => T μ (d + 1) (pc + 3) ls (v.toList ++ rest) h' u' Q) := inv.mono (fun v h u q => by
  unfold qI at q
  split at q
  · exact q
  · cases q) H
theorem iL_k {av rest : List MV} (H : iL d ν av h u (fun x h u => T μ (d + 1) (pc + 3) ls (jL x :: rest) h u Q)) : inv d ν av h u (fun v h' u' => T μ (d + 1) (pc + 3) ls (v.toList ++ rest) h' u' Q) := inv.mono (fun v h u q => by
  unfold qL at q
  split at q
  · exact q
  · cases q) H
theorem iR_k {av rest : List MV} (H : iR d ν av h u (fun x h u => T μ (d + 1) (pc + 3) ls (jR x :: rest) h u Q)) : inv d ν av h u (fun v h' u' => T μ (d + 1) (pc + 3) ls (v.toList ++ rest) h' u' Q) := inv.mono (fun v h u q => by
  unfold qR at q
  split at q
  · exact q
  · cases q) H
theorem iV_k {av rest : List MV} (H : iV d ν av h u (fun h u => T μ (d + 1) (pc + 3) ls rest h u Q)) : inv d ν av h u (fun v h' u' => T μ (d + 1) (pc + 3) ls (v.toList ++ rest) h' u' Q) := inv.mono (fun v h u q => by
  unfold qV at q
  split at q
  · exact q
  · cases q) H
theorem T_iV {idx n ci : Nat} {av rest : List MV} {o : Option Nm} (hd : decode μ.2.1 pc = .ok (.invokevirtual idx, 3)) (hm : MF ν n) (hw : Cond.methodLink μ.1.cls idx ν.1 ∈ gTbl) (hw2 : Cond.instanceMethod ν.1 ∈ gTbl) (hw3 : Cond.selects ν.1.cls ν.1 ν.1 ∈ gTbl) (hci : (vwCl[ci]?).map (fun q => q.1) = some ν.1.cls) (hn : av.length = n) (hr : catS rest ≤ 8) (he : st = av.reverse ++ jR o :: rest) (h0 : rc h o ci)
    (k : inv d ν (jR o :: av) h u (fun v h' u' => T μ (d + 1) (pc + 3) ls (v.toList ++ rest) h' u' Q)) : T μ (d + 1) pc ls st h u Q := by
  obtain ⟨n0, fs, rfl, ho⟩ := rc_out h0
  exact T_invV hd hm hw hw2 hw3 hci hn hr ho he k
theorem T_istoreK {i len : Nat} {I : Instr} {e : Int32} {f : Int32 → List (Option MV)} (hT : ∀ y, T μ d (pc + len) (f y) st h u Q → T μ d pc ls (jI y :: st) h u Q) (H : nm e (fun y => T μ d (pc + len) (f y) st h u Q)) : T μ d pc ls (jI e :: st) h u Q := hT e H
theorem T_lstoreK {i len : Nat} {I : Instr} {e : Int64} {f : Int64 → List (Option MV)} (hT : ∀ y, T μ d (pc + len) (f y) st h u Q → T μ d pc ls (jL y :: st) h u Q) (H : nm e (fun y => T μ d (pc + len) (f y) st h u Q)) : T μ d pc ls (jL e :: st) h u Q := hT e H
end WP
section JJ
variable {μ : MU} {d : Nat} {h : MH} {u : Nat} {av : List MV} {ls : List (Option MV)}
theorem jiI {K : Int32 → MH → Prop} (hp : plainFor μ.1 = true) (hno : μ.2.2.2.2 = none) (hlen : ls.length ≤ μ.2.2.1) (hls : entL av ++ List.replicate (ls.length - (entL av).length) none = ls) (k : T μ d 0 ls [] h 0 (qI K)) : iI d μ av h u (fun x h2 u2 => K x h2 ∧ u2 = u) :=
  inv.of 0 (Nat.zero_le _) (Ct.of hp hno hlen hls (k.mono fun v h q => by
    unfold qI at q ⊢
    split at q
    · exact ⟨q, rfl⟩
    · cases q))
theorem jiL {K : Int64 → MH → Prop} (hp : plainFor μ.1 = true) (hno : μ.2.2.2.2 = none) (hlen : ls.length ≤ μ.2.2.1) (hls : entL av ++ List.replicate (ls.length - (entL av).length) none = ls) (k : T μ d 0 ls [] h 0 (qL K)) : iL d μ av h u (fun x h2 u2 => K x h2 ∧ u2 = u) :=
  inv.of 0 (Nat.zero_le _) (Ct.of hp hno hlen hls (k.mono fun v h q => by
    unfold qL at q ⊢
    split at q
    · exact ⟨q, rfl⟩
    · cases q))
theorem jiR {K : Option Nm → MH → Prop} (hp : plainFor μ.1 = true) (hno : μ.2.2.2.2 = none) (hlen : ls.length ≤ μ.2.2.1) (hls : entL av ++ List.replicate (ls.length - (entL av).length) none = ls) (k : T μ d 0 ls [] h 0 (qR K)) : iR d μ av h u (fun x h2 u2 => K x h2 ∧ u2 = u) :=
  inv.of 0 (Nat.zero_le _) (Ct.of hp hno hlen hls (k.mono fun v h q => by
    unfold qR at q ⊢
    split at q
    · exact ⟨q, rfl⟩
    · cases q))
theorem jiV {K : MH → Prop} (hp : plainFor μ.1 = true) (hno : μ.2.2.2.2 = none) (hlen : ls.length ≤ μ.2.2.1) (hls : entL av ++ List.replicate (ls.length - (entL av).length) none = ls) (k : T μ d 0 ls [] h 0 (qV K)) : iV d μ av h u (fun h2 u2 => K h2 ∧ u2 = u) :=
  inv.of 0 (Nat.zero_le _) (Ct.of hp hno hlen hls (k.mono fun v h q => by
    unfold qV at q ⊢
    split at q
    · exact ⟨q, rfl⟩
    · cases q))
end JJ
theorem iI_m0 {ν : MU} {d : Nat} {h : MH} {u : Nat} {av : List MV} {K : Int32 → MH → Prop} {K' : Int32 → MH → Nat → Prop} (hk : ∀ x h, K x h → K' x h u) (H : iI d ν av h u (fun x h2 u2 => K x h2 ∧ u2 = u)) : iI d ν av h u K' := iI_mono (fun x h u2 q => by rw [q.2]; exact hk _ _ q.1) H
theorem iL_m0 {ν : MU} {d : Nat} {h : MH} {u : Nat} {av : List MV} {K : Int64 → MH → Prop} {K' : Int64 → MH → Nat → Prop} (hk : ∀ x h, K x h → K' x h u) (H : iL d ν av h u (fun x h2 u2 => K x h2 ∧ u2 = u)) : iL d ν av h u K' := iL_mono (fun x h u2 q => by rw [q.2]; exact hk _ _ q.1) H
theorem iR_m0 {ν : MU} {d : Nat} {h : MH} {u : Nat} {av : List MV} {K : Option Nm → MH → Prop} {K' : Option Nm → MH → Nat → Prop} (hk : ∀ x h, K x h → K' x h u) (H : iR d ν av h u (fun x h2 u2 => K x h2 ∧ u2 = u)) : iR d ν av h u K' := iR_mono (fun x h u2 q => by rw [q.2]; exact hk _ _ q.1) H
theorem iV_m0 {ν : MU} {d : Nat} {h : MH} {u : Nat} {av : List MV} {K : MH → Prop} {K' : MH → Nat → Prop} (hk : ∀ h, K h → K' h u) (H : iV d ν av h u (fun h2 u2 => K h2 ∧ u2 = u)) : iV d ν av h u K' := iV_mono (fun h u2 q => by rw [q.2]; exact hk _ q.1) H
/-- o is no null -/
def nn (o : Option Nm) (A : Prop) : Prop := match o with
  | none => False
  | some _ => A
theorem nn_out {o : Option Nm} {A : Prop} (H : nn o A) : ∃ n, o = some n ∧ A := by
  cases o with
  | none => cases H
  | some n => exact ⟨n, rfl, H⟩
theorem tb1 {w : Cond} (i : Nat) (h : tables_1_1[i]? = some w) (hg : goodWord w = true) : w ∈ gTbl := List.mem_filter.mpr ⟨List.mem_append_right _ (List.mem_append_left _ (List.mem_of_getElem? h)), hg⟩
theorem tb2 {w : Cond} (i : Nat) (h : tables_1_2[i]? = some w) (hg : goodWord w = true) : w ∈ gTbl := List.mem_filter.mpr ⟨List.mem_append_right _ (List.mem_append_right _ (List.mem_append_left _ (List.mem_of_getElem? h))), hg⟩
theorem tb3 {w : Cond} (i : Nat) (h : tables_1_3[i]? = some w) (hg : goodWord w = true) : w ∈ gTbl := List.mem_filter.mpr ⟨List.mem_append_right _ (List.mem_append_right _ (List.mem_append_right _ (List.mem_append_left _ (List.mem_of_getElem? h)))), hg⟩
theorem tb4 {w : Cond} (i : Nat) (h : tables_1_4[i]? = some w) (hg : goodWord w = true) : w ∈ gTbl := List.mem_filter.mpr ⟨List.mem_append_right _ (List.mem_append_right _ (List.mem_append_right _ (List.mem_append_right _ (List.mem_append_left _ (List.mem_of_getElem? h))))), hg⟩
theorem tb5 {w : Cond} (i : Nat) (h : tables_1_5[i]? = some w) (hg : goodWord w = true) : w ∈ gTbl := List.mem_filter.mpr ⟨List.mem_append_right _ (List.mem_append_right _ (List.mem_append_right _ (List.mem_append_right _ (List.mem_append_right _ (List.mem_append_left _ (List.mem_of_getElem? h)))))), hg⟩
theorem tb6 {w : Cond} (i : Nat) (h : tables_1_6[i]? = some w) (hg : goodWord w = true) : w ∈ gTbl := List.mem_filter.mpr ⟨List.mem_append_right _ (List.mem_append_right _ (List.mem_append_right _ (List.mem_append_right _ (List.mem_append_right _ (List.mem_append_right _ (List.mem_of_getElem? h)))))), hg⟩
theorem tbp {y : MethodName} {n : Nat} (i : Nat) (h : lw_privs[i]? = some (y, n)) : Cond.selects y.cls y y ∈ gTbl := List.mem_filter.mpr ⟨List.mem_append_left _ (List.mem_map.mpr ⟨(y, n), List.mem_of_getElem? h, rfl⟩), rfl⟩
