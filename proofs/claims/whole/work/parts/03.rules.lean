/-! THE RULES: an instruction, a row -/
theorem LR.get {ad : AD} {nL : Nat} {ls : List (Option MV)} {arr : Array Slot} (h : LR ad nL ls arr) {i : Nat} {v : MV} (hi : ls[i]? = some (some v)) : ∃ w, arr[i]? = some (.val w) ∧ VR ad v w := by
  obtain ⟨lv, h1, h2⟩ := h
  obtain ⟨w, a, b⟩ := h2 i v hi
  exact ⟨w, h1.2.2 _ a, b⟩
def clob (ls : List (Option MV)) (i : Nat) : List (Option MV) := match i with
  | 0 => ls
  | j + 1 => match ls[j]? with
    | some (some x) => if cat2 x then ls.set j none else ls
    | _ => ls
def st1 (ls : List (Option MV)) (i : Nat) (v : MV) : List (Option MV) := (clob ls i).set i (some v)
def st2 (ls : List (Option MV)) (i : Nat) (v : MV) : List (Option MV) := ((clob ls i).set i (some v)).set (i + 1) none
theorem set_some {l : List (Option MV)} {i j : Nat} {v : Option MV} {x : MV} (h : (l.set i v)[j]? = some (some x)) : (j = i ∧ v = some x) ∨ (j ≠ i ∧ l[j]? = some (some x)) := by
  rw [List.getElem?_set] at h
  by_cases e : i = j
  · rw [if_pos e] at h
    split at h
    · exact Or.inl ⟨e.symm, Option.some.inj h⟩
    · cases h
  · rw [if_neg e] at h
    exact Or.inr ⟨fun q => e q.symm, h⟩
theorem clob_at {ls : List (Option MV)} {i j : Nat} {x : MV} (h : (clob ls i)[j]? = some (some x)) : ls[j]? = some (some x) ∧ ¬ (j + 1 = i ∧ cat2 x = true) := by
  cases i with
  | zero => exact ⟨h, fun q => by omega⟩
  | succ i =>
    unfold clob at h
    simp only at h
    split at h
    · rename_i y hy
      split at h
      · rename_i hc
        rcases set_some h with ⟨e1, e2⟩ | ⟨e1, e2⟩
        · cases e2
        · exact ⟨e2, fun q => by omega⟩
      · rename_i hc
        refine ⟨h, fun q => ?_⟩
        have : j = i := by omega
        subst this
        rw [hy] at h
        cases h
        exact hc q.2
    · rename_i hy
      refine ⟨h, fun q => ?_⟩
      have : j = i := by omega
      subst this
      exact hy x h
theorem st1_ok {ad : AD} {ls : List (Option MV)} {lv : List (Nat × Value)} (h : ∀ i v, ls[i]? = some (some v) → ∃ w, (i, w) ∈ lv ∧ VR ad v w) {i : Nat} {v : MV} {w : Value} (hv : VR ad v w) :
    ∀ j x, (st1 ls i v)[j]? = some (some x) → ∃ y, (j, y) ∈ ((i, w) :: lv.filter (fun q => !(q.1 == i) && !(q.1 + 1 == i && q.2.category == 2))) ∧ VR ad x y := by
  intro j x hj
  rcases set_some hj with ⟨e1, e2⟩ | ⟨e1, e2⟩
  · cases e2
    subst e1
    exact ⟨w, List.mem_cons_self, hv⟩
  · obtain ⟨h1, h2⟩ := clob_at e2
    obtain ⟨y, h3, h4⟩ := h j x h1
    refine ⟨y, List.mem_cons_of_mem _ (List.mem_filter.mpr ⟨h3, ?_⟩), h4⟩
    have hc := h4.cat
    simp only [Bool.and_eq_true, Bool.not_eq_true', beq_eq_false_iff_ne, ne_eq, Bool.and_eq_false_iff]
    refine ⟨e1, ?_⟩
    by_cases e : j + 1 = i
    · right
      have : ¬ cat2 x = true := fun q => h2 ⟨e, q⟩
      rw [if_neg this] at hc
      simp [hc]
    · left; exact e
theorem st2_ok {ad : AD} {ls : List (Option MV)} {lv : List (Nat × Value)} (h : ∀ i v, ls[i]? = some (some v) → ∃ w, (i, w) ∈ lv ∧ VR ad v w) {i : Nat} {v : MV} {w : Value} (hv : VR ad v w) :
    ∀ j x, (st2 ls i v)[j]? = some (some x) → ∃ y, (j, y) ∈ ((i, w) :: lv.filter (fun q => !(q.1 == i) && (!(q.1 == i + 1) && !(q.1 + 1 == i && q.2.category == 2)))) ∧ VR ad x y := by
  intro j x hj
  rcases set_some hj with ⟨e1, e2⟩ | ⟨e0, hj⟩
  · cases e2
  rcases set_some hj with ⟨e1, e2⟩ | ⟨e1, e2⟩
  · cases e2
    subst e1
    exact ⟨w, List.mem_cons_self, hv⟩
  · obtain ⟨h1, h2⟩ := clob_at e2
    obtain ⟨y, h3, h4⟩ := h j x h1
    refine ⟨y, List.mem_cons_of_mem _ (List.mem_filter.mpr ⟨h3, ?_⟩), h4⟩
    have hc := h4.cat
    simp only [Bool.and_eq_true, Bool.not_eq_true', beq_eq_false_iff_ne, ne_eq, Bool.and_eq_false_iff]
    refine ⟨e1, e0, ?_⟩
    by_cases e : j + 1 = i
    · right
      have : ¬ cat2 x = true := fun q => h2 ⟨e, q⟩
      rw [if_neg this] at hc
      simp [hc]
    · left; exact e
section Rules
variable {μ : MU} {d pc : Nat} {ls : List (Option MV)} {st : List MV} {h : MH} {u : Nat} {Q : Option MV → MH → Prop}
theorem T_iadd  {y : Int32} {x : Int32} (hd : decode μ.2.1 pc = .ok (.iadd, 1))  (k : T μ d (pc + 1) ls (jI (x + y) :: st) h u Q) : T μ d pc ls (jI y :: jI x :: st) h u Q := by
  intro p l e R s m args below meth c D B0 ad0 Z C S0 O ad H locs cells slots lsR stR hH hA hL hc hs hl hst
  obtain ⟨w0, t0, e0, v0, hst⟩ := hst
  obtain ⟨w1, t1, e1, v1, hst⟩ := hst
  subst e0; cases v0
  subst e1; cases v1
  exact lv_iadd C.1 C.2.1 hd  (k p l e R s m args below meth c D B0 ad0 Z C S0 O ad H locs cells slots lsR _ hH hA hL hc hs hl ⟨_, _, rfl, rfl, hst⟩)
theorem T_isub  {y : Int32} {x : Int32} (hd : decode μ.2.1 pc = .ok (.isub, 1))  (k : T μ d (pc + 1) ls (jI (x - y) :: st) h u Q) : T μ d pc ls (jI y :: jI x :: st) h u Q := by
  intro p l e R s m args below meth c D B0 ad0 Z C S0 O ad H locs cells slots lsR stR hH hA hL hc hs hl hst
  obtain ⟨w0, t0, e0, v0, hst⟩ := hst
  obtain ⟨w1, t1, e1, v1, hst⟩ := hst
  subst e0; cases v0
  subst e1; cases v1
  exact lv_isub C.1 C.2.1 hd  (k p l e R s m args below meth c D B0 ad0 Z C S0 O ad H locs cells slots lsR _ hH hA hL hc hs hl ⟨_, _, rfl, rfl, hst⟩)
theorem T_imul  {y : Int32} {x : Int32} (hd : decode μ.2.1 pc = .ok (.imul, 1))  (k : T μ d (pc + 1) ls (jI (x * y) :: st) h u Q) : T μ d pc ls (jI y :: jI x :: st) h u Q := by
  intro p l e R s m args below meth c D B0 ad0 Z C S0 O ad H locs cells slots lsR stR hH hA hL hc hs hl hst
  obtain ⟨w0, t0, e0, v0, hst⟩ := hst
  obtain ⟨w1, t1, e1, v1, hst⟩ := hst
  subst e0; cases v0
  subst e1; cases v1
  exact lv_imul C.1 C.2.1 hd  (k p l e R s m args below meth c D B0 ad0 Z C S0 O ad H locs cells slots lsR _ hH hA hL hc hs hl ⟨_, _, rfl, rfl, hst⟩)
theorem T_iand  {y : Int32} {x : Int32} (hd : decode μ.2.1 pc = .ok (.iand, 1))  (k : T μ d (pc + 1) ls (jI (x &&& y) :: st) h u Q) : T μ d pc ls (jI y :: jI x :: st) h u Q := by
  intro p l e R s m args below meth c D B0 ad0 Z C S0 O ad H locs cells slots lsR stR hH hA hL hc hs hl hst
  obtain ⟨w0, t0, e0, v0, hst⟩ := hst
  obtain ⟨w1, t1, e1, v1, hst⟩ := hst
  subst e0; cases v0
  subst e1; cases v1
  exact lv_iand C.1 C.2.1 hd  (k p l e R s m args below meth c D B0 ad0 Z C S0 O ad H locs cells slots lsR _ hH hA hL hc hs hl ⟨_, _, rfl, rfl, hst⟩)
theorem T_ior  {y : Int32} {x : Int32} (hd : decode μ.2.1 pc = .ok (.ior, 1))  (k : T μ d (pc + 1) ls (jI (x ||| y) :: st) h u Q) : T μ d pc ls (jI y :: jI x :: st) h u Q := by
  intro p l e R s m args below meth c D B0 ad0 Z C S0 O ad H locs cells slots lsR stR hH hA hL hc hs hl hst
  obtain ⟨w0, t0, e0, v0, hst⟩ := hst
  obtain ⟨w1, t1, e1, v1, hst⟩ := hst
  subst e0; cases v0
  subst e1; cases v1
  exact lv_ior C.1 C.2.1 hd  (k p l e R s m args below meth c D B0 ad0 Z C S0 O ad H locs cells slots lsR _ hH hA hL hc hs hl ⟨_, _, rfl, rfl, hst⟩)
theorem T_ixor  {y : Int32} {x : Int32} (hd : decode μ.2.1 pc = .ok (.ixor, 1))  (k : T μ d (pc + 1) ls (jI (x ^^^ y) :: st) h u Q) : T μ d pc ls (jI y :: jI x :: st) h u Q := by
  intro p l e R s m args below meth c D B0 ad0 Z C S0 O ad H locs cells slots lsR stR hH hA hL hc hs hl hst
  obtain ⟨w0, t0, e0, v0, hst⟩ := hst
  obtain ⟨w1, t1, e1, v1, hst⟩ := hst
  subst e0; cases v0
  subst e1; cases v1
  exact lv_ixor C.1 C.2.1 hd  (k p l e R s m args below meth c D B0 ad0 Z C S0 O ad H locs cells slots lsR _ hH hA hL hc hs hl ⟨_, _, rfl, rfl, hst⟩)
theorem T_ishl  {y : Int32} {x : Int32} (hd : decode μ.2.1 pc = .ok (.ishl, 1))  (k : T μ d (pc + 1) ls (jI (x <<< (y &&& 31)) :: st) h u Q) : T μ d pc ls (jI y :: jI x :: st) h u Q := by
  intro p l e R s m args below meth c D B0 ad0 Z C S0 O ad H locs cells slots lsR stR hH hA hL hc hs hl hst
  obtain ⟨w0, t0, e0, v0, hst⟩ := hst
  obtain ⟨w1, t1, e1, v1, hst⟩ := hst
  subst e0; cases v0
  subst e1; cases v1
  exact lv_ishl C.1 C.2.1 hd  (k p l e R s m args below meth c D B0 ad0 Z C S0 O ad H locs cells slots lsR _ hH hA hL hc hs hl ⟨_, _, rfl, rfl, hst⟩)
theorem T_ishr  {y : Int32} {x : Int32} (hd : decode μ.2.1 pc = .ok (.ishr, 1))  (k : T μ d (pc + 1) ls (jI (x >>> (y &&& 31)) :: st) h u Q) : T μ d pc ls (jI y :: jI x :: st) h u Q := by
  intro p l e R s m args below meth c D B0 ad0 Z C S0 O ad H locs cells slots lsR stR hH hA hL hc hs hl hst
  obtain ⟨w0, t0, e0, v0, hst⟩ := hst
  obtain ⟨w1, t1, e1, v1, hst⟩ := hst
  subst e0; cases v0
  subst e1; cases v1
  exact lv_ishr C.1 C.2.1 hd  (k p l e R s m args below meth c D B0 ad0 Z C S0 O ad H locs cells slots lsR _ hH hA hL hc hs hl ⟨_, _, rfl, rfl, hst⟩)
theorem T_iushr  {y : Int32} {x : Int32} (hd : decode μ.2.1 pc = .ok (.iushr, 1))  (k : T μ d (pc + 1) ls (jI ((x.toUInt32 >>> (y.toUInt32 &&& Int32.toUInt32 31)).toInt32) :: st) h u Q) : T μ d pc ls (jI y :: jI x :: st) h u Q := by
  intro p l e R s m args below meth c D B0 ad0 Z C S0 O ad H locs cells slots lsR stR hH hA hL hc hs hl hst
  obtain ⟨w0, t0, e0, v0, hst⟩ := hst
  obtain ⟨w1, t1, e1, v1, hst⟩ := hst
  subst e0; cases v0
  subst e1; cases v1
  exact lv_iushr C.1 C.2.1 hd rfl (k p l e R s m args below meth c D B0 ad0 Z C S0 O ad H locs cells slots lsR _ hH hA hL hc hs hl ⟨_, _, rfl, rfl, hst⟩)
theorem T_idiv  {y : Int32} {x : Int32} (hd : decode μ.2.1 pc = .ok (.idiv, 1)) (hne : ¬ y = 0) (k : T μ d (pc + 1) ls (jI (x / y) :: st) h u Q) : T μ d pc ls (jI y :: jI x :: st) h u Q := by
  intro p l e R s m args below meth c D B0 ad0 Z C S0 O ad H locs cells slots lsR stR hH hA hL hc hs hl hst
  obtain ⟨w0, t0, e0, v0, hst⟩ := hst
  obtain ⟨w1, t1, e1, v1, hst⟩ := hst
  subst e0; cases v0
  subst e1; cases v1
  exact lv_idiv C.1 C.2.1 hd hne (k p l e R s m args below meth c D B0 ad0 Z C S0 O ad H locs cells slots lsR _ hH hA hL hc hs hl ⟨_, _, rfl, rfl, hst⟩)
theorem T_ladd  {y : Int64} {x : Int64} (hd : decode μ.2.1 pc = .ok (.ladd, 1))  (k : T μ d (pc + 1) ls (jL (x + y) :: st) h u Q) : T μ d pc ls (jL y :: jL x :: st) h u Q := by
  intro p l e R s m args below meth c D B0 ad0 Z C S0 O ad H locs cells slots lsR stR hH hA hL hc hs hl hst
  obtain ⟨w0, t0, e0, v0, hst⟩ := hst
  obtain ⟨w1, t1, e1, v1, hst⟩ := hst
  subst e0; cases v0
  subst e1; cases v1
  exact lv_ladd C.1 C.2.1 hd  (k p l e R s m args below meth c D B0 ad0 Z C S0 O ad H locs cells slots lsR _ hH hA hL hc hs hl ⟨_, _, rfl, rfl, hst⟩)
theorem T_lsub  {y : Int64} {x : Int64} (hd : decode μ.2.1 pc = .ok (.lsub, 1))  (k : T μ d (pc + 1) ls (jL (x - y) :: st) h u Q) : T μ d pc ls (jL y :: jL x :: st) h u Q := by
  intro p l e R s m args below meth c D B0 ad0 Z C S0 O ad H locs cells slots lsR stR hH hA hL hc hs hl hst
  obtain ⟨w0, t0, e0, v0, hst⟩ := hst
  obtain ⟨w1, t1, e1, v1, hst⟩ := hst
  subst e0; cases v0
  subst e1; cases v1
  exact lv_lsub C.1 C.2.1 hd  (k p l e R s m args below meth c D B0 ad0 Z C S0 O ad H locs cells slots lsR _ hH hA hL hc hs hl ⟨_, _, rfl, rfl, hst⟩)
theorem T_lmul  {y : Int64} {x : Int64} (hd : decode μ.2.1 pc = .ok (.lmul, 1))  (k : T μ d (pc + 1) ls (jL (x * y) :: st) h u Q) : T μ d pc ls (jL y :: jL x :: st) h u Q := by
  intro p l e R s m args below meth c D B0 ad0 Z C S0 O ad H locs cells slots lsR stR hH hA hL hc hs hl hst
  obtain ⟨w0, t0, e0, v0, hst⟩ := hst
  obtain ⟨w1, t1, e1, v1, hst⟩ := hst
  subst e0; cases v0
  subst e1; cases v1
  exact lv_lmul C.1 C.2.1 hd  (k p l e R s m args below meth c D B0 ad0 Z C S0 O ad H locs cells slots lsR _ hH hA hL hc hs hl ⟨_, _, rfl, rfl, hst⟩)
theorem T_land  {y : Int64} {x : Int64} (hd : decode μ.2.1 pc = .ok (.land, 1))  (k : T μ d (pc + 1) ls (jL (x &&& y) :: st) h u Q) : T μ d pc ls (jL y :: jL x :: st) h u Q := by
  intro p l e R s m args below meth c D B0 ad0 Z C S0 O ad H locs cells slots lsR stR hH hA hL hc hs hl hst
  obtain ⟨w0, t0, e0, v0, hst⟩ := hst
  obtain ⟨w1, t1, e1, v1, hst⟩ := hst
  subst e0; cases v0
  subst e1; cases v1
  exact lv_land C.1 C.2.1 hd  (k p l e R s m args below meth c D B0 ad0 Z C S0 O ad H locs cells slots lsR _ hH hA hL hc hs hl ⟨_, _, rfl, rfl, hst⟩)
theorem T_lor  {y : Int64} {x : Int64} (hd : decode μ.2.1 pc = .ok (.lor, 1))  (k : T μ d (pc + 1) ls (jL (x ||| y) :: st) h u Q) : T μ d pc ls (jL y :: jL x :: st) h u Q := by
  intro p l e R s m args below meth c D B0 ad0 Z C S0 O ad H locs cells slots lsR stR hH hA hL hc hs hl hst
  obtain ⟨w0, t0, e0, v0, hst⟩ := hst
  obtain ⟨w1, t1, e1, v1, hst⟩ := hst
  subst e0; cases v0
  subst e1; cases v1
  exact lv_lor C.1 C.2.1 hd  (k p l e R s m args below meth c D B0 ad0 Z C S0 O ad H locs cells slots lsR _ hH hA hL hc hs hl ⟨_, _, rfl, rfl, hst⟩)
theorem T_lxor  {y : Int64} {x : Int64} (hd : decode μ.2.1 pc = .ok (.lxor, 1))  (k : T μ d (pc + 1) ls (jL (x ^^^ y) :: st) h u Q) : T μ d pc ls (jL y :: jL x :: st) h u Q := by
  intro p l e R s m args below meth c D B0 ad0 Z C S0 O ad H locs cells slots lsR stR hH hA hL hc hs hl hst
  obtain ⟨w0, t0, e0, v0, hst⟩ := hst
  obtain ⟨w1, t1, e1, v1, hst⟩ := hst
  subst e0; cases v0
  subst e1; cases v1
  exact lv_lxor C.1 C.2.1 hd  (k p l e R s m args below meth c D B0 ad0 Z C S0 O ad H locs cells slots lsR _ hH hA hL hc hs hl ⟨_, _, rfl, rfl, hst⟩)
theorem T_ldiv  {y : Int64} {x : Int64} (hd : decode μ.2.1 pc = .ok (.ldiv, 1)) (hne : ¬ y = 0) (k : T μ d (pc + 1) ls (jL (x / y) :: st) h u Q) : T μ d pc ls (jL y :: jL x :: st) h u Q := by
  intro p l e R s m args below meth c D B0 ad0 Z C S0 O ad H locs cells slots lsR stR hH hA hL hc hs hl hst
  obtain ⟨w0, t0, e0, v0, hst⟩ := hst
  obtain ⟨w1, t1, e1, v1, hst⟩ := hst
  subst e0; cases v0
  subst e1; cases v1
  exact lv_ldiv C.1 C.2.1 hd hne (k p l e R s m args below meth c D B0 ad0 Z C S0 O ad H locs cells slots lsR _ hH hA hL hc hs hl ⟨_, _, rfl, rfl, hst⟩)
theorem T_lrem  {y : Int64} {x : Int64} (hd : decode μ.2.1 pc = .ok (.lrem, 1)) (hne : ¬ y = 0) (k : T μ d (pc + 1) ls (jL (x - x / y * y) :: st) h u Q) : T μ d pc ls (jL y :: jL x :: st) h u Q := by
  intro p l e R s m args below meth c D B0 ad0 Z C S0 O ad H locs cells slots lsR stR hH hA hL hc hs hl hst
  obtain ⟨w0, t0, e0, v0, hst⟩ := hst
  obtain ⟨w1, t1, e1, v1, hst⟩ := hst
  subst e0; cases v0
  subst e1; cases v1
  exact lv_lrem C.1 C.2.1 hd hne (k p l e R s m args below meth c D B0 ad0 Z C S0 O ad H locs cells slots lsR _ hH hA hL hc hs hl ⟨_, _, rfl, rfl, hst⟩)
theorem T_lneg  {x : Int64} (hd : decode μ.2.1 pc = .ok (.lneg, 1))  (k : T μ d (pc + 1) ls (jL (-x) :: st) h u Q) : T μ d pc ls (jL x :: st) h u Q := by
  intro p l e R s m args below meth c D B0 ad0 Z C S0 O ad H locs cells slots lsR stR hH hA hL hc hs hl hst
  obtain ⟨w0, t0, e0, v0, hst⟩ := hst
  subst e0; cases v0
  exact lv_lneg C.1 C.2.1 hd  (k p l e R s m args below meth c D B0 ad0 Z C S0 O ad H locs cells slots lsR _ hH hA hL hc hs hl ⟨_, _, rfl, rfl, hst⟩)
theorem T_lshl  {y : Int32} {x : Int64} (hd : decode μ.2.1 pc = .ok (.lshl, 1))  (k : T μ d (pc + 1) ls (jL (x <<< (y.toInt64 &&& 63)) :: st) h u Q) : T μ d pc ls (jI y :: jL x :: st) h u Q := by
  intro p l e R s m args below meth c D B0 ad0 Z C S0 O ad H locs cells slots lsR stR hH hA hL hc hs hl hst
  obtain ⟨w0, t0, e0, v0, hst⟩ := hst
  obtain ⟨w1, t1, e1, v1, hst⟩ := hst
  subst e0; cases v0
  subst e1; cases v1
  exact lv_lshl C.1 C.2.1 hd rfl (k p l e R s m args below meth c D B0 ad0 Z C S0 O ad H locs cells slots lsR _ hH hA hL hc hs hl ⟨_, _, rfl, rfl, hst⟩)
theorem T_lushr  {y : Int32} {x : Int64} (hd : decode μ.2.1 pc = .ok (.lushr, 1))  (k : T μ d (pc + 1) ls (jL ((x.toUInt64 >>> (y.toInt64.toUInt64 &&& Int64.toUInt64 63)).toInt64) :: st) h u Q) : T μ d pc ls (jI y :: jL x :: st) h u Q := by
  intro p l e R s m args below meth c D B0 ad0 Z C S0 O ad H locs cells slots lsR stR hH hA hL hc hs hl hst
  obtain ⟨w0, t0, e0, v0, hst⟩ := hst
  obtain ⟨w1, t1, e1, v1, hst⟩ := hst
  subst e0; cases v0
  subst e1; cases v1
  exact lv_lushr C.1 C.2.1 hd rfl (k p l e R s m args below meth c D B0 ad0 Z C S0 O ad H locs cells slots lsR _ hH hA hL hc hs hl ⟨_, _, rfl, rfl, hst⟩)
theorem T_i2l  {x : Int32} (hd : decode μ.2.1 pc = .ok (.i2l, 1))  (k : T μ d (pc + 1) ls (jL (x.toInt64) :: st) h u Q) : T μ d pc ls (jI x :: st) h u Q := by
  intro p l e R s m args below meth c D B0 ad0 Z C S0 O ad H locs cells slots lsR stR hH hA hL hc hs hl hst
  obtain ⟨w0, t0, e0, v0, hst⟩ := hst
  subst e0; cases v0
  exact lv_i2l C.1 C.2.1 hd rfl (k p l e R s m args below meth c D B0 ad0 Z C S0 O ad H locs cells slots lsR _ hH hA hL hc hs hl ⟨_, _, rfl, rfl, hst⟩)
theorem T_l2i  {x : Int64} (hd : decode μ.2.1 pc = .ok (.l2i, 1))  (k : T μ d (pc + 1) ls (jI (x.toInt32) :: st) h u Q) : T μ d pc ls (jL x :: st) h u Q := by
  intro p l e R s m args below meth c D B0 ad0 Z C S0 O ad H locs cells slots lsR stR hH hA hL hc hs hl hst
  obtain ⟨w0, t0, e0, v0, hst⟩ := hst
  subst e0; cases v0
  exact lv_l2i C.1 C.2.1 hd rfl (k p l e R s m args below meth c D B0 ad0 Z C S0 O ad H locs cells slots lsR _ hH hA hL hc hs hl ⟨_, _, rfl, rfl, hst⟩)
theorem T_i2b  {x : Int32} (hd : decode μ.2.1 pc = .ok (.i2b, 1))  (k : T μ d (pc + 1) ls (jI (x.toInt8.toInt32) :: st) h u Q) : T μ d pc ls (jI x :: st) h u Q := by
  intro p l e R s m args below meth c D B0 ad0 Z C S0 O ad H locs cells slots lsR stR hH hA hL hc hs hl hst
  obtain ⟨w0, t0, e0, v0, hst⟩ := hst
  subst e0; cases v0
  exact lv_i2b C.1 C.2.1 hd rfl (k p l e R s m args below meth c D B0 ad0 Z C S0 O ad H locs cells slots lsR _ hH hA hL hc hs hl ⟨_, _, rfl, rfl, hst⟩)
theorem T_i2s  {x : Int32} (hd : decode μ.2.1 pc = .ok (.i2s, 1))  (k : T μ d (pc + 1) ls (jI (x.toInt16.toInt32) :: st) h u Q) : T μ d pc ls (jI x :: st) h u Q := by
  intro p l e R s m args below meth c D B0 ad0 Z C S0 O ad H locs cells slots lsR stR hH hA hL hc hs hl hst
  obtain ⟨w0, t0, e0, v0, hst⟩ := hst
  subst e0; cases v0
  exact lv_i2s C.1 C.2.1 hd rfl (k p l e R s m args below meth c D B0 ad0 Z C S0 O ad H locs cells slots lsR _ hH hA hL hc hs hl ⟨_, _, rfl, rfl, hst⟩)
theorem T_i2c  {x : Int32} (hd : decode μ.2.1 pc = .ok (.i2c, 1))  (k : T μ d (pc + 1) ls (jI ((x.toUInt32 % 65536).toInt32) :: st) h u Q) : T μ d pc ls (jI x :: st) h u Q := by
  intro p l e R s m args below meth c D B0 ad0 Z C S0 O ad H locs cells slots lsR stR hH hA hL hc hs hl hst
  obtain ⟨w0, t0, e0, v0, hst⟩ := hst
  subst e0; cases v0
  exact lv_i2c C.1 C.2.1 hd rfl (k p l e R s m args below meth c D B0 ad0 Z C S0 O ad H locs cells slots lsR _ hH hA hL hc hs hl ⟨_, _, rfl, rfl, hst⟩)
theorem T_l2f  {x : Int64} (hd : decode μ.2.1 pc = .ok (.l2f, 1))  (k : T μ d (pc + 1) ls (jF (FP.l2f x) :: st) h u Q) : T μ d pc ls (jL x :: st) h u Q := by
  intro p l e R s m args below meth c D B0 ad0 Z C S0 O ad H locs cells slots lsR stR hH hA hL hc hs hl hst
  obtain ⟨w0, t0, e0, v0, hst⟩ := hst
  subst e0; cases v0
  exact lv_l2f C.1 C.2.1 hd  (k p l e R s m args below meth c D B0 ad0 Z C S0 O ad H locs cells slots lsR _ hH hA hL hc hs hl ⟨_, _, rfl, rfl, hst⟩)
theorem T_l2d  {x : Int64} (hd : decode μ.2.1 pc = .ok (.l2d, 1))  (k : T μ d (pc + 1) ls (jD (FP.l2d x) :: st) h u Q) : T μ d pc ls (jL x :: st) h u Q := by
  intro p l e R s m args below meth c D B0 ad0 Z C S0 O ad H locs cells slots lsR stR hH hA hL hc hs hl hst
  obtain ⟨w0, t0, e0, v0, hst⟩ := hst
  subst e0; cases v0
  exact lv_l2d C.1 C.2.1 hd  (k p l e R s m args below meth c D B0 ad0 Z C S0 O ad H locs cells slots lsR _ hH hA hL hc hs hl ⟨_, _, rfl, rfl, hst⟩)
theorem T_f2d  {x : UInt32} (hd : decode μ.2.1 pc = .ok (.f2d, 1)) (hne : vf_n64 (FP.f2d x)) (k : T μ d (pc + 1) ls (jD (FP.f2d x) :: st) h u Q) : T μ d pc ls (jF x :: st) h u Q := by
  intro p l e R s m args below meth c D B0 ad0 Z C S0 O ad H locs cells slots lsR stR hH hA hL hc hs hl hst
  obtain ⟨w0, t0, e0, v0, hst⟩ := hst
  subst e0; cases v0
  exact lv_f2d C.1 C.2.1 hd hne (k p l e R s m args below meth c D B0 ad0 Z C S0 O ad H locs cells slots lsR _ hH hA hL hc hs hl ⟨_, _, rfl, rfl, hst⟩)
theorem T_lcmp  {y : Int64} {x : Int64} (hd : decode μ.2.1 pc = .ok (.lcmp, 1))  (k : T μ d (pc + 1) ls (jI (lg_cmp x y) :: st) h u Q) : T μ d pc ls (jL y :: jL x :: st) h u Q := by
  intro p l e R s m args below meth c D B0 ad0 Z C S0 O ad H locs cells slots lsR stR hH hA hL hc hs hl hst
  obtain ⟨w0, t0, e0, v0, hst⟩ := hst
  obtain ⟨w1, t1, e1, v1, hst⟩ := hst
  subst e0; cases v0
  subst e1; cases v1
  exact W.lcmp C.1 C.2.1 hd  (k p l e R s m args below meth c D B0 ad0 Z C S0 O ad H locs cells slots lsR _ hH hA hL hc hs hl ⟨_, _, rfl, rfl, hst⟩)
theorem T_fcmp {op : CmpOp} {y : UInt32} {x : UInt32} (hd : decode μ.2.1 pc = .ok (.fcmp op, 1))  (k : T μ d (pc + 1) ls (jI (Op.cmpValue (FP.fcmp x y) op) :: st) h u Q) : T μ d pc ls (jF y :: jF x :: st) h u Q := by
  intro p l e R s m args below meth c D B0 ad0 Z C S0 O ad H locs cells slots lsR stR hH hA hL hc hs hl hst
  obtain ⟨w0, t0, e0, v0, hst⟩ := hst
  obtain ⟨w1, t1, e1, v1, hst⟩ := hst
  subst e0; cases v0
  subst e1; cases v1
  exact lv_fcmp C.1 C.2.1 hd  (k p l e R s m args below meth c D B0 ad0 Z C S0 O ad H locs cells slots lsR _ hH hA hL hc hs hl ⟨_, _, rfl, rfl, hst⟩)
theorem T_dcmp {op : CmpOp} {y : UInt64} {x : UInt64} (hd : decode μ.2.1 pc = .ok (.dcmp op, 1))  (k : T μ d (pc + 1) ls (jI (Op.cmpValue (FP.dcmp x y) op) :: st) h u Q) : T μ d pc ls (jD y :: jD x :: st) h u Q := by
  intro p l e R s m args below meth c D B0 ad0 Z C S0 O ad H locs cells slots lsR stR hH hA hL hc hs hl hst
  obtain ⟨w0, t0, e0, v0, hst⟩ := hst
  obtain ⟨w1, t1, e1, v1, hst⟩ := hst
  subst e0; cases v0
  subst e1; cases v1
  exact lv_dcmp C.1 C.2.1 hd  (k p l e R s m args below meth c D B0 ad0 Z C S0 O ad H locs cells slots lsR _ hH hA hL hc hs hl ⟨_, _, rfl, rfl, hst⟩)
theorem T_iconst {n : Int} {v : Int32}  (hd : decode μ.2.1 pc = .ok (.iconst n, 1)) (hv : Int32.ofInt n = v) (k : T μ d (pc + 1) ls (jI (v) :: st) h u Q) : T μ d pc ls (st) h u Q := by
  intro p l e R s m args below meth c D B0 ad0 Z C S0 O ad H locs cells slots lsR stR hH hA hL hc hs hl hst
  exact lv_iconst C.1 C.2.1 hd hv (k p l e R s m args below meth c D B0 ad0 Z C S0 O ad H locs cells slots lsR _ hH hA hL hc hs hl ⟨_, _, rfl, rfl, hst⟩)
theorem T_bipush {n : Int} {v : Int32}  (hd : decode μ.2.1 pc = .ok (.bipush n, 2)) (hv : (Int8.ofInt n).toInt32 = v) (k : T μ d (pc + 2) ls (jI (v) :: st) h u Q) : T μ d pc ls (st) h u Q := by
  intro p l e R s m args below meth c D B0 ad0 Z C S0 O ad H locs cells slots lsR stR hH hA hL hc hs hl hst
  exact lv_bipush C.1 C.2.1 hd hv (k p l e R s m args below meth c D B0 ad0 Z C S0 O ad H locs cells slots lsR _ hH hA hL hc hs hl ⟨_, _, rfl, rfl, hst⟩)
theorem T_sipush {n : Int} {v : Int32}  (hd : decode μ.2.1 pc = .ok (.sipush n, 3)) (hv : (Int16.ofInt n).toInt32 = v) (k : T μ d (pc + 3) ls (jI (v) :: st) h u Q) : T μ d pc ls (st) h u Q := by
  intro p l e R s m args below meth c D B0 ad0 Z C S0 O ad H locs cells slots lsR stR hH hA hL hc hs hl hst
  exact lv_sipush C.1 C.2.1 hd hv (k p l e R s m args below meth c D B0 ad0 Z C S0 O ad H locs cells slots lsR _ hH hA hL hc hs hl ⟨_, _, rfl, rfl, hst⟩)
theorem T_lconst {n : Fin 2} {v : Int64}  (hd : decode μ.2.1 pc = .ok (.lconst n, 1)) (hv : Int64.ofNat (n : Nat) = v) (k : T μ d (pc + 1) ls (jL (v) :: st) h u Q) : T μ d pc ls (st) h u Q := by
  intro p l e R s m args below meth c D B0 ad0 Z C S0 O ad H locs cells slots lsR stR hH hA hL hc hs hl hst
  exact lv_lconst C.1 C.2.1 hd hv (k p l e R s m args below meth c D B0 ad0 Z C S0 O ad H locs cells slots lsR _ hH hA hL hc hs hl ⟨_, _, rfl, rfl, hst⟩)
theorem T_ldc {i : Nat} {v : Int32} (hd : decode μ.2.1 pc = .ok (.ldc i, 2)) (hw : Cond.constant μ.1.cls i v ∈ gTbl) (k : T μ d (pc + 2) ls (jI v :: st) h u Q) : T μ d pc ls st h u Q := by
  intro p l e R s m args below meth c D B0 ad0 Z C S0 O ad H locs cells slots lsR stR hH hA hL hc hs hl hst
  exact lv_ldc C.1 C.2.1 C.2.2.2.2.1 (C.2.2.2.2.2.1 _ hw) hd (k p l e R s m args below meth c D B0 ad0 Z C S0 O ad H locs cells slots lsR _ hH hA hL hc hs hl ⟨_, _, rfl, rfl, hst⟩)
theorem T_ldcw {i : Nat} {v : Int32} (hd : decode μ.2.1 pc = .ok (.ldc_w i, 3)) (hw : Cond.constant μ.1.cls i v ∈ gTbl) (k : T μ d (pc + 3) ls (jI v :: st) h u Q) : T μ d pc ls st h u Q := by
  intro p l e R s m args below meth c D B0 ad0 Z C S0 O ad H locs cells slots lsR stR hH hA hL hc hs hl hst
  exact lv_ldcw C.1 C.2.1 C.2.2.2.2.1 (C.2.2.2.2.2.1 _ hw) hd (k p l e R s m args below meth c D B0 ad0 Z C S0 O ad H locs cells slots lsR _ hH hA hL hc hs hl ⟨_, _, rfl, rfl, hst⟩)
theorem T_ldc2 {i : Nat} {v : Int64} (hd : decode μ.2.1 pc = .ok (.ldc2_w i, 3)) (hw : Cond.constantLong μ.1.cls i v ∈ gTbl) (k : T μ d (pc + 3) ls (jL v :: st) h u Q) : T μ d pc ls st h u Q := by
  intro p l e R s m args below meth c D B0 ad0 Z C S0 O ad H locs cells slots lsR stR hH hA hL hc hs hl hst
  exact lv_ldc2 C.1 C.2.1 C.2.2.2.2.1 (C.2.2.2.2.2.1 _ hw) hd (k p l e R s m args below meth c D B0 ad0 Z C S0 O ad H locs cells slots lsR _ hH hA hL hc hs hl ⟨_, _, rfl, rfl, hst⟩)
theorem T_iload_n {j : Fin 4} {i : Nat} {x : Int32} (hd : decode μ.2.1 pc = .ok (.iload_n j, 1)) (hi : (j : Nat) = i) (hx : ls[i]? = some (some (jI x))) (k : T μ d (pc + 1) ls (jI x :: st) h u Q) : T μ d pc ls st h u Q := by
  intro p l e R s m args below meth c D B0 ad0 Z C S0 O ad H locs cells slots lsR stR hH hA hL hc hs hl hst
  obtain ⟨w, hw, hv⟩ := hl.get hx
  cases hv
  exact lv_iload_n C.1 C.2.1 hd hi hw (k p l e R s m args below meth c D B0 ad0 Z C S0 O ad H locs cells slots lsR _ hH hA hL hc hs hl ⟨_, _, rfl, rfl, hst⟩)
theorem T_iload {i : Nat} {x : Int32} (hd : decode μ.2.1 pc = .ok (.iload i, 2)) (hx : ls[i]? = some (some (jI x))) (k : T μ d (pc + 2) ls (jI x :: st) h u Q) : T μ d pc ls st h u Q := by
  intro p l e R s m args below meth c D B0 ad0 Z C S0 O ad H locs cells slots lsR stR hH hA hL hc hs hl hst
  obtain ⟨w, hw, hv⟩ := hl.get hx
  cases hv
  exact lv_iload C.1 C.2.1 hd hw (k p l e R s m args below meth c D B0 ad0 Z C S0 O ad H locs cells slots lsR _ hH hA hL hc hs hl ⟨_, _, rfl, rfl, hst⟩)
theorem T_lload_n {j : Fin 4} {i : Nat} {x : Int64} (hd : decode μ.2.1 pc = .ok (.lload_n j, 1)) (hi : (j : Nat) = i) (hx : ls[i]? = some (some (jL x))) (k : T μ d (pc + 1) ls (jL x :: st) h u Q) : T μ d pc ls st h u Q := by
  intro p l e R s m args below meth c D B0 ad0 Z C S0 O ad H locs cells slots lsR stR hH hA hL hc hs hl hst
  obtain ⟨w, hw, hv⟩ := hl.get hx
  cases hv
  exact lv_lload_n C.1 C.2.1 hd hi hw (k p l e R s m args below meth c D B0 ad0 Z C S0 O ad H locs cells slots lsR _ hH hA hL hc hs hl ⟨_, _, rfl, rfl, hst⟩)
theorem T_lload {i : Nat} {x : Int64} (hd : decode μ.2.1 pc = .ok (.lload i, 2)) (hx : ls[i]? = some (some (jL x))) (k : T μ d (pc + 2) ls (jL x :: st) h u Q) : T μ d pc ls st h u Q := by
  intro p l e R s m args below meth c D B0 ad0 Z C S0 O ad H locs cells slots lsR stR hH hA hL hc hs hl hst
  obtain ⟨w, hw, hv⟩ := hl.get hx
  cases hv
  exact lv_lload C.1 C.2.1 hd hw (k p l e R s m args below meth c D B0 ad0 Z C S0 O ad H locs cells slots lsR _ hH hA hL hc hs hl ⟨_, _, rfl, rfl, hst⟩)
theorem T_fload_n {j : Fin 4} {i : Nat} {x : UInt32} (hd : decode μ.2.1 pc = .ok (.fload_n j, 1)) (hi : (j : Nat) = i) (hx : ls[i]? = some (some (jF x))) (k : T μ d (pc + 1) ls (jF x :: st) h u Q) : T μ d pc ls st h u Q := by
  intro p l e R s m args below meth c D B0 ad0 Z C S0 O ad H locs cells slots lsR stR hH hA hL hc hs hl hst
  obtain ⟨w, hw, hv⟩ := hl.get hx
  cases hv
  exact lv_fload_n C.1 C.2.1 hd hi hw (k p l e R s m args below meth c D B0 ad0 Z C S0 O ad H locs cells slots lsR _ hH hA hL hc hs hl ⟨_, _, rfl, rfl, hst⟩)
theorem T_fload {i : Nat} {x : UInt32} (hd : decode μ.2.1 pc = .ok (.fload i, 2)) (hx : ls[i]? = some (some (jF x))) (k : T μ d (pc + 2) ls (jF x :: st) h u Q) : T μ d pc ls st h u Q := by
  intro p l e R s m args below meth c D B0 ad0 Z C S0 O ad H locs cells slots lsR stR hH hA hL hc hs hl hst
  obtain ⟨w, hw, hv⟩ := hl.get hx
  cases hv
  exact lv_fload C.1 C.2.1 hd hw (k p l e R s m args below meth c D B0 ad0 Z C S0 O ad H locs cells slots lsR _ hH hA hL hc hs hl ⟨_, _, rfl, rfl, hst⟩)
theorem T_dload_n {j : Fin 4} {i : Nat} {x : UInt64} (hd : decode μ.2.1 pc = .ok (.dload_n j, 1)) (hi : (j : Nat) = i) (hx : ls[i]? = some (some (jD x))) (k : T μ d (pc + 1) ls (jD x :: st) h u Q) : T μ d pc ls st h u Q := by
  intro p l e R s m args below meth c D B0 ad0 Z C S0 O ad H locs cells slots lsR stR hH hA hL hc hs hl hst
  obtain ⟨w, hw, hv⟩ := hl.get hx
  cases hv
  exact lv_dload_n C.1 C.2.1 hd hi hw (k p l e R s m args below meth c D B0 ad0 Z C S0 O ad H locs cells slots lsR _ hH hA hL hc hs hl ⟨_, _, rfl, rfl, hst⟩)
theorem T_dload {i : Nat} {x : UInt64} (hd : decode μ.2.1 pc = .ok (.dload i, 2)) (hx : ls[i]? = some (some (jD x))) (k : T μ d (pc + 2) ls (jD x :: st) h u Q) : T μ d pc ls st h u Q := by
  intro p l e R s m args below meth c D B0 ad0 Z C S0 O ad H locs cells slots lsR stR hH hA hL hc hs hl hst
  obtain ⟨w, hw, hv⟩ := hl.get hx
  cases hv
  exact lv_dload C.1 C.2.1 hd hw (k p l e R s m args below meth c D B0 ad0 Z C S0 O ad H locs cells slots lsR _ hH hA hL hc hs hl ⟨_, _, rfl, rfl, hst⟩)
theorem T_aload_n {j : Fin 4} {i : Nat} {o : Option Nm} (hd : decode μ.2.1 pc = .ok (.aload_n j, 1)) (hi : (j : Nat) = i) (hx : ls[i]? = some (some (jR o))) (k : T μ d (pc + 1) ls (jR o :: st) h u Q) : T μ d pc ls st h u Q := by
  intro p l e R s m args below meth c D B0 ad0 Z C S0 O ad H locs cells slots lsR stR hH hA hL hc hs hl hst
  obtain ⟨w, hw, hv⟩ := hl.get hx
  cases o with
  | none => cases hv; exact lv_aload_nN C.1 C.2.1 hd hi hw (k p l e R s m args below meth c D B0 ad0 Z C S0 O ad H locs cells slots lsR _ hH hA hL hc hs hl ⟨_, _, rfl, rfl, hst⟩)
  | some n => obtain ⟨a, ha, e⟩ := hv; subst e; exact lv_aload_n C.1 C.2.1 hd hi hw (k p l e R s m args below meth c D B0 ad0 Z C S0 O ad H locs cells slots lsR _ hH hA hL hc hs hl ⟨_, _, rfl, ⟨a, ha, rfl⟩, hst⟩)
theorem T_aload {i : Nat} {o : Option Nm} (hd : decode μ.2.1 pc = .ok (.aload i, 2))  (hx : ls[i]? = some (some (jR o))) (k : T μ d (pc + 2) ls (jR o :: st) h u Q) : T μ d pc ls st h u Q := by
  intro p l e R s m args below meth c D B0 ad0 Z C S0 O ad H locs cells slots lsR stR hH hA hL hc hs hl hst
  obtain ⟨w, hw, hv⟩ := hl.get hx
  cases o with
  | none => cases hv; exact lv_aloadN C.1 C.2.1 hd hw (k p l e R s m args below meth c D B0 ad0 Z C S0 O ad H locs cells slots lsR _ hH hA hL hc hs hl ⟨_, _, rfl, rfl, hst⟩)
  | some n => obtain ⟨a, ha, e⟩ := hv; subst e; exact lv_aload C.1 C.2.1 hd hw (k p l e R s m args below meth c D B0 ad0 Z C S0 O ad H locs cells slots lsR _ hH hA hL hc hs hl ⟨_, _, rfl, ⟨a, ha, rfl⟩, hst⟩)
theorem T_istore_n {j : Fin 4} {i : Nat} {x : Int32} {ls2 : List (Option MV)} (hd : decode μ.2.1 pc = .ok (.istore_n j, 1)) (hi : (j : Nat) = i) (hn : i < μ.2.2.1) (he : st1 ls i (jI x) = ls2) (k : T μ d (pc + 1) ls2 st h u Q) : T μ d pc ls (jI x :: st) h u Q := by
  intro p l e R s m args below meth c D B0 ad0 Z C S0 O ad H locs cells slots lsR stR hH hA hL hc hs hl hst
  obtain ⟨w0, t0, e0, v0, hst⟩ := hst
  subst e0; cases v0; subst he
  obtain ⟨lv, h1, h2⟩ := hl
  exact lv_istore_n C.1 C.2.1 hd hi h1 hn rfl (fun ls3 h3 => k p l e R s m args below meth c D B0 ad0 Z C S0 O ad H locs cells slots ls3 _ hH hA hL hc hs ⟨_, h3, st1_ok h2 rfl⟩ hst)
theorem T_istore {i : Nat} {x : Int32} {ls2 : List (Option MV)} (hd : decode μ.2.1 pc = .ok (.istore i, 2))  (hn : i < μ.2.2.1) (he : st1 ls i (jI x) = ls2) (k : T μ d (pc + 2) ls2 st h u Q) : T μ d pc ls (jI x :: st) h u Q := by
  intro p l e R s m args below meth c D B0 ad0 Z C S0 O ad H locs cells slots lsR stR hH hA hL hc hs hl hst
  obtain ⟨w0, t0, e0, v0, hst⟩ := hst
  subst e0; cases v0; subst he
  obtain ⟨lv, h1, h2⟩ := hl
  exact lv_istore C.1 C.2.1 hd h1 hn rfl (fun ls3 h3 => k p l e R s m args below meth c D B0 ad0 Z C S0 O ad H locs cells slots ls3 _ hH hA hL hc hs ⟨_, h3, st1_ok h2 rfl⟩ hst)
theorem T_lstore_n {j : Fin 4} {i : Nat} {x : Int64} {ls2 : List (Option MV)} (hd : decode μ.2.1 pc = .ok (.lstore_n j, 1)) (hi : (j : Nat) = i) (hn : i + 1 < μ.2.2.1) (he : st2 ls i (jL x) = ls2) (k : T μ d (pc + 1) ls2 st h u Q) : T μ d pc ls (jL x :: st) h u Q := by
  intro p l e R s m args below meth c D B0 ad0 Z C S0 O ad H locs cells slots lsR stR hH hA hL hc hs hl hst
  obtain ⟨w0, t0, e0, v0, hst⟩ := hst
  subst e0; cases v0; subst he
  obtain ⟨lv, h1, h2⟩ := hl
  exact lv_lstore_n C.1 C.2.1 hd hi h1 hn rfl (fun ls3 h3 => k p l e R s m args below meth c D B0 ad0 Z C S0 O ad H locs cells slots ls3 _ hH hA hL hc hs ⟨_, h3, st2_ok h2 rfl⟩ hst)
theorem T_lstore {i : Nat} {x : Int64} {ls2 : List (Option MV)} (hd : decode μ.2.1 pc = .ok (.lstore i, 2))  (hn : i + 1 < μ.2.2.1) (he : st2 ls i (jL x) = ls2) (k : T μ d (pc + 2) ls2 st h u Q) : T μ d pc ls (jL x :: st) h u Q := by
  intro p l e R s m args below meth c D B0 ad0 Z C S0 O ad H locs cells slots lsR stR hH hA hL hc hs hl hst
  obtain ⟨w0, t0, e0, v0, hst⟩ := hst
  subst e0; cases v0; subst he
  obtain ⟨lv, h1, h2⟩ := hl
  exact lv_lstore C.1 C.2.1 hd h1 hn rfl (fun ls3 h3 => k p l e R s m args below meth c D B0 ad0 Z C S0 O ad H locs cells slots ls3 _ hH hA hL hc hs ⟨_, h3, st2_ok h2 rfl⟩ hst)
theorem T_dstore_n {j : Fin 4} {i : Nat} {x : UInt64} {ls2 : List (Option MV)} (hd : decode μ.2.1 pc = .ok (.dstore_n j, 1)) (hi : (j : Nat) = i) (hn : i + 1 < μ.2.2.1) (he : st2 ls i (jD x) = ls2) (k : T μ d (pc + 1) ls2 st h u Q) : T μ d pc ls (jD x :: st) h u Q := by
  intro p l e R s m args below meth c D B0 ad0 Z C S0 O ad H locs cells slots lsR stR hH hA hL hc hs hl hst
  obtain ⟨w0, t0, e0, v0, hst⟩ := hst
  subst e0; cases v0; subst he
  obtain ⟨lv, h1, h2⟩ := hl
  exact lv_dstore_n C.1 C.2.1 hd hi h1 hn rfl (fun ls3 h3 => k p l e R s m args below meth c D B0 ad0 Z C S0 O ad H locs cells slots ls3 _ hH hA hL hc hs ⟨_, h3, st2_ok h2 rfl⟩ hst)
theorem T_dstore {i : Nat} {x : UInt64} {ls2 : List (Option MV)} (hd : decode μ.2.1 pc = .ok (.dstore i, 2))  (hn : i + 1 < μ.2.2.1) (he : st2 ls i (jD x) = ls2) (k : T μ d (pc + 2) ls2 st h u Q) : T μ d pc ls (jD x :: st) h u Q := by
  intro p l e R s m args below meth c D B0 ad0 Z C S0 O ad H locs cells slots lsR stR hH hA hL hc hs hl hst
  obtain ⟨w0, t0, e0, v0, hst⟩ := hst
  subst e0; cases v0; subst he
  obtain ⟨lv, h1, h2⟩ := hl
  exact lv_dstore C.1 C.2.1 hd h1 hn rfl (fun ls3 h3 => k p l e R s m args below meth c D B0 ad0 Z C S0 O ad H locs cells slots ls3 _ hH hA hL hc hs ⟨_, h3, st2_ok h2 rfl⟩ hst)
theorem T_astore_n {j : Fin 4} {i : Nat} {o : Option Nm} {ls2 : List (Option MV)} (hd : decode μ.2.1 pc = .ok (.astore_n j, 1)) (hi : (j : Nat) = i) (hn : i < μ.2.2.1) (he : st1 ls i (jR o) = ls2) (k : T μ d (pc + 1) ls2 st h u Q) : T μ d pc ls (jR o :: st) h u Q := by
  intro p l e R s m args below meth c D B0 ad0 Z C S0 O ad H locs cells slots lsR stR hH hA hL hc hs hl hst
  obtain ⟨w0, t0, e0, v0, hst⟩ := hst
  subst e0; subst he
  obtain ⟨lv, h1, h2⟩ := hl
  cases o with
  | none => cases v0; exact lv_astore_nN C.1 C.2.1 hd hi h1 hn rfl (fun ls3 h3 => k p l e R s m args below meth c D B0 ad0 Z C S0 O ad H locs cells slots ls3 _ hH hA hL hc hs ⟨_, h3, st1_ok h2 rfl⟩ hst)
  | some n => obtain ⟨a, ha, e⟩ := v0; subst e; exact lv_astore_n C.1 C.2.1 hd hi h1 hn rfl (fun ls3 h3 => k p l e R s m args below meth c D B0 ad0 Z C S0 O ad H locs cells slots ls3 _ hH hA hL hc hs ⟨_, h3, st1_ok h2 ⟨a, ha, rfl⟩⟩ hst)
theorem T_astore {i : Nat} {o : Option Nm} {ls2 : List (Option MV)} (hd : decode μ.2.1 pc = .ok (.astore i, 2))  (hn : i < μ.2.2.1) (he : st1 ls i (jR o) = ls2) (k : T μ d (pc + 2) ls2 st h u Q) : T μ d pc ls (jR o :: st) h u Q := by
  intro p l e R s m args below meth c D B0 ad0 Z C S0 O ad H locs cells slots lsR stR hH hA hL hc hs hl hst
  obtain ⟨w0, t0, e0, v0, hst⟩ := hst
  subst e0; subst he
  obtain ⟨lv, h1, h2⟩ := hl
  cases o with
  | none => cases v0; exact lv_astoreN C.1 C.2.1 hd h1 hn rfl (fun ls3 h3 => k p l e R s m args below meth c D B0 ad0 Z C S0 O ad H locs cells slots ls3 _ hH hA hL hc hs ⟨_, h3, st1_ok h2 rfl⟩ hst)
  | some n => obtain ⟨a, ha, e⟩ := v0; subst e; exact lv_astore C.1 C.2.1 hd h1 hn rfl (fun ls3 h3 => k p l e R s m args below meth c D B0 ad0 Z C S0 O ad H locs cells slots ls3 _ hH hA hL hc hs ⟨_, h3, st1_ok h2 ⟨a, ha, rfl⟩⟩ hst)
theorem T_iinc {i : Nat} {n : Int} {x v : Int32} {ls2 : List (Option MV)} (hd : decode μ.2.1 pc = .ok (.iinc i n, 3)) (hx : ls[i]? = some (some (jI x))) (hv : x + Int32.ofInt n = v) (hn : i < μ.2.2.1) (he : st1 ls i (jI v) = ls2) (k : T μ d (pc + 3) ls2 st h u Q) : T μ d pc ls st h u Q := by
  intro p l e R s m args below meth c D B0 ad0 Z C S0 O ad H locs cells slots lsR stR hH hA hL hc hs hl hst
  subst he
  obtain ⟨lv, h1, h2⟩ := hl
  obtain ⟨w, hw, hv2⟩ := h2 i _ hx
  cases hv2
  obtain ⟨q, hq⟩ := List.getElem?_of_mem hw
  exact lv_iinc C.1 C.2.1 hd h1 hq hv hn rfl (fun ls3 h3 => k p l e R s m args below meth c D B0 ad0 Z C S0 O ad H locs cells slots ls3 _ hH hA hL hc hs ⟨_, h3, st1_ok h2 rfl⟩ hst)
theorem T_if_eq {x : Int32} {off : Int} {tgt : Nat} (hd : decode μ.2.1 pc = .ok (.ifCond .eq off, 3)) (ht : (pc : Int) + off = (tgt : Int)) (kt : x = 0 → T μ d tgt ls st h u Q) (kf : ¬ x = 0 → T μ d (pc + 3) ls st h u Q) : T μ d pc ls (jI x :: st) h u Q := by
  intro p l e R s m args below meth c D B0 ad0 Z C S0 O ad H locs cells slots lsR stR hH hA hL hc hs hl hst
  obtain ⟨w0, t0, e0, v0, hst⟩ := hst
  subst e0; cases v0
  exact lv_if_eq C.1 C.2.1 hd ht (fun q => kt q p l e R s m args below meth c D B0 ad0 Z C S0 O ad H locs cells slots lsR _ hH hA hL hc hs hl hst) (fun q => kf q p l e R s m args below meth c D B0 ad0 Z C S0 O ad H locs cells slots lsR _ hH hA hL hc hs hl hst)
theorem T_icmp_eq {x y : Int32} {off : Int} {tgt : Nat} (hd : decode μ.2.1 pc = .ok (.if_icmp .eq off, 3)) (ht : (pc : Int) + off = (tgt : Int)) (kt : x = y → T μ d tgt ls st h u Q) (kf : ¬ x = y → T μ d (pc + 3) ls st h u Q) : T μ d pc ls (jI y :: jI x :: st) h u Q := by
  intro p l e R s m args below meth c D B0 ad0 Z C S0 O ad H locs cells slots lsR stR hH hA hL hc hs hl hst
  obtain ⟨w0, t0, e0, v0, hst⟩ := hst
  obtain ⟨w1, t1, e1, v1, hst⟩ := hst
  subst e0; cases v0
  subst e1; cases v1
  exact lv_icmp_eq C.1 C.2.1 hd ht (fun q => kt q p l e R s m args below meth c D B0 ad0 Z C S0 O ad H locs cells slots lsR _ hH hA hL hc hs hl hst) (fun q => kf q p l e R s m args below meth c D B0 ad0 Z C S0 O ad H locs cells slots lsR _ hH hA hL hc hs hl hst)
theorem T_if_ne {x : Int32} {off : Int} {tgt : Nat} (hd : decode μ.2.1 pc = .ok (.ifCond .ne off, 3)) (ht : (pc : Int) + off = (tgt : Int)) (kt : ¬ x = 0 → T μ d tgt ls st h u Q) (kf : x = 0 → T μ d (pc + 3) ls st h u Q) : T μ d pc ls (jI x :: st) h u Q := by
  intro p l e R s m args below meth c D B0 ad0 Z C S0 O ad H locs cells slots lsR stR hH hA hL hc hs hl hst
  obtain ⟨w0, t0, e0, v0, hst⟩ := hst
  subst e0; cases v0
  exact lv_if_ne C.1 C.2.1 hd ht (fun q => kt q p l e R s m args below meth c D B0 ad0 Z C S0 O ad H locs cells slots lsR _ hH hA hL hc hs hl hst) (fun q => kf q p l e R s m args below meth c D B0 ad0 Z C S0 O ad H locs cells slots lsR _ hH hA hL hc hs hl hst)
theorem T_icmp_ne {x y : Int32} {off : Int} {tgt : Nat} (hd : decode μ.2.1 pc = .ok (.if_icmp .ne off, 3)) (ht : (pc : Int) + off = (tgt : Int)) (kt : ¬ x = y → T μ d tgt ls st h u Q) (kf : x = y → T μ d (pc + 3) ls st h u Q) : T μ d pc ls (jI y :: jI x :: st) h u Q := by
  intro p l e R s m args below meth c D B0 ad0 Z C S0 O ad H locs cells slots lsR stR hH hA hL hc hs hl hst
  obtain ⟨w0, t0, e0, v0, hst⟩ := hst
  obtain ⟨w1, t1, e1, v1, hst⟩ := hst
  subst e0; cases v0
  subst e1; cases v1
  exact lv_icmp_ne C.1 C.2.1 hd ht (fun q => kt q p l e R s m args below meth c D B0 ad0 Z C S0 O ad H locs cells slots lsR _ hH hA hL hc hs hl hst) (fun q => kf q p l e R s m args below meth c D B0 ad0 Z C S0 O ad H locs cells slots lsR _ hH hA hL hc hs hl hst)
theorem T_if_lt {x : Int32} {off : Int} {tgt : Nat} (hd : decode μ.2.1 pc = .ok (.ifCond .lt off, 3)) (ht : (pc : Int) + off = (tgt : Int)) (kt : x < 0 → T μ d tgt ls st h u Q) (kf : ¬ x < 0 → T μ d (pc + 3) ls st h u Q) : T μ d pc ls (jI x :: st) h u Q := by
  intro p l e R s m args below meth c D B0 ad0 Z C S0 O ad H locs cells slots lsR stR hH hA hL hc hs hl hst
  obtain ⟨w0, t0, e0, v0, hst⟩ := hst
  subst e0; cases v0
  exact lv_if_lt C.1 C.2.1 hd ht (fun q => kt q p l e R s m args below meth c D B0 ad0 Z C S0 O ad H locs cells slots lsR _ hH hA hL hc hs hl hst) (fun q => kf q p l e R s m args below meth c D B0 ad0 Z C S0 O ad H locs cells slots lsR _ hH hA hL hc hs hl hst)
theorem T_icmp_lt {x y : Int32} {off : Int} {tgt : Nat} (hd : decode μ.2.1 pc = .ok (.if_icmp .lt off, 3)) (ht : (pc : Int) + off = (tgt : Int)) (kt : x < y → T μ d tgt ls st h u Q) (kf : ¬ x < y → T μ d (pc + 3) ls st h u Q) : T μ d pc ls (jI y :: jI x :: st) h u Q := by
  intro p l e R s m args below meth c D B0 ad0 Z C S0 O ad H locs cells slots lsR stR hH hA hL hc hs hl hst
  obtain ⟨w0, t0, e0, v0, hst⟩ := hst
  obtain ⟨w1, t1, e1, v1, hst⟩ := hst
  subst e0; cases v0
  subst e1; cases v1
  exact lv_icmp_lt C.1 C.2.1 hd ht (fun q => kt q p l e R s m args below meth c D B0 ad0 Z C S0 O ad H locs cells slots lsR _ hH hA hL hc hs hl hst) (fun q => kf q p l e R s m args below meth c D B0 ad0 Z C S0 O ad H locs cells slots lsR _ hH hA hL hc hs hl hst)
theorem T_if_ge {x : Int32} {off : Int} {tgt : Nat} (hd : decode μ.2.1 pc = .ok (.ifCond .ge off, 3)) (ht : (pc : Int) + off = (tgt : Int)) (kt : 0 ≤ x → T μ d tgt ls st h u Q) (kf : ¬ 0 ≤ x → T μ d (pc + 3) ls st h u Q) : T μ d pc ls (jI x :: st) h u Q := by
  intro p l e R s m args below meth c D B0 ad0 Z C S0 O ad H locs cells slots lsR stR hH hA hL hc hs hl hst
  obtain ⟨w0, t0, e0, v0, hst⟩ := hst
  subst e0; cases v0
  exact lv_if_ge C.1 C.2.1 hd ht (fun q => kt q p l e R s m args below meth c D B0 ad0 Z C S0 O ad H locs cells slots lsR _ hH hA hL hc hs hl hst) (fun q => kf q p l e R s m args below meth c D B0 ad0 Z C S0 O ad H locs cells slots lsR _ hH hA hL hc hs hl hst)
theorem T_icmp_ge {x y : Int32} {off : Int} {tgt : Nat} (hd : decode μ.2.1 pc = .ok (.if_icmp .ge off, 3)) (ht : (pc : Int) + off = (tgt : Int)) (kt : y ≤ x → T μ d tgt ls st h u Q) (kf : ¬ y ≤ x → T μ d (pc + 3) ls st h u Q) : T μ d pc ls (jI y :: jI x :: st) h u Q := by
  intro p l e R s m args below meth c D B0 ad0 Z C S0 O ad H locs cells slots lsR stR hH hA hL hc hs hl hst
  obtain ⟨w0, t0, e0, v0, hst⟩ := hst
  obtain ⟨w1, t1, e1, v1, hst⟩ := hst
  subst e0; cases v0
  subst e1; cases v1
  exact lv_icmp_ge C.1 C.2.1 hd ht (fun q => kt q p l e R s m args below meth c D B0 ad0 Z C S0 O ad H locs cells slots lsR _ hH hA hL hc hs hl hst) (fun q => kf q p l e R s m args below meth c D B0 ad0 Z C S0 O ad H locs cells slots lsR _ hH hA hL hc hs hl hst)
theorem T_if_gt {x : Int32} {off : Int} {tgt : Nat} (hd : decode μ.2.1 pc = .ok (.ifCond .gt off, 3)) (ht : (pc : Int) + off = (tgt : Int)) (kt : 0 < x → T μ d tgt ls st h u Q) (kf : ¬ 0 < x → T μ d (pc + 3) ls st h u Q) : T μ d pc ls (jI x :: st) h u Q := by
  intro p l e R s m args below meth c D B0 ad0 Z C S0 O ad H locs cells slots lsR stR hH hA hL hc hs hl hst
  obtain ⟨w0, t0, e0, v0, hst⟩ := hst
  subst e0; cases v0
  exact lv_if_gt C.1 C.2.1 hd ht (fun q => kt q p l e R s m args below meth c D B0 ad0 Z C S0 O ad H locs cells slots lsR _ hH hA hL hc hs hl hst) (fun q => kf q p l e R s m args below meth c D B0 ad0 Z C S0 O ad H locs cells slots lsR _ hH hA hL hc hs hl hst)
theorem T_icmp_gt {x y : Int32} {off : Int} {tgt : Nat} (hd : decode μ.2.1 pc = .ok (.if_icmp .gt off, 3)) (ht : (pc : Int) + off = (tgt : Int)) (kt : y < x → T μ d tgt ls st h u Q) (kf : ¬ y < x → T μ d (pc + 3) ls st h u Q) : T μ d pc ls (jI y :: jI x :: st) h u Q := by
  intro p l e R s m args below meth c D B0 ad0 Z C S0 O ad H locs cells slots lsR stR hH hA hL hc hs hl hst
  obtain ⟨w0, t0, e0, v0, hst⟩ := hst
  obtain ⟨w1, t1, e1, v1, hst⟩ := hst
  subst e0; cases v0
  subst e1; cases v1
  exact lv_icmp_gt C.1 C.2.1 hd ht (fun q => kt q p l e R s m args below meth c D B0 ad0 Z C S0 O ad H locs cells slots lsR _ hH hA hL hc hs hl hst) (fun q => kf q p l e R s m args below meth c D B0 ad0 Z C S0 O ad H locs cells slots lsR _ hH hA hL hc hs hl hst)
theorem T_if_le {x : Int32} {off : Int} {tgt : Nat} (hd : decode μ.2.1 pc = .ok (.ifCond .le off, 3)) (ht : (pc : Int) + off = (tgt : Int)) (kt : x ≤ 0 → T μ d tgt ls st h u Q) (kf : ¬ x ≤ 0 → T μ d (pc + 3) ls st h u Q) : T μ d pc ls (jI x :: st) h u Q := by
  intro p l e R s m args below meth c D B0 ad0 Z C S0 O ad H locs cells slots lsR stR hH hA hL hc hs hl hst
  obtain ⟨w0, t0, e0, v0, hst⟩ := hst
  subst e0; cases v0
  exact lv_if_le C.1 C.2.1 hd ht (fun q => kt q p l e R s m args below meth c D B0 ad0 Z C S0 O ad H locs cells slots lsR _ hH hA hL hc hs hl hst) (fun q => kf q p l e R s m args below meth c D B0 ad0 Z C S0 O ad H locs cells slots lsR _ hH hA hL hc hs hl hst)
theorem T_icmp_le {x y : Int32} {off : Int} {tgt : Nat} (hd : decode μ.2.1 pc = .ok (.if_icmp .le off, 3)) (ht : (pc : Int) + off = (tgt : Int)) (kt : x ≤ y → T μ d tgt ls st h u Q) (kf : ¬ x ≤ y → T μ d (pc + 3) ls st h u Q) : T μ d pc ls (jI y :: jI x :: st) h u Q := by
  intro p l e R s m args below meth c D B0 ad0 Z C S0 O ad H locs cells slots lsR stR hH hA hL hc hs hl hst
  obtain ⟨w0, t0, e0, v0, hst⟩ := hst
  obtain ⟨w1, t1, e1, v1, hst⟩ := hst
  subst e0; cases v0
  subst e1; cases v1
  exact lv_icmp_le C.1 C.2.1 hd ht (fun q => kt q p l e R s m args below meth c D B0 ad0 Z C S0 O ad H locs cells slots lsR _ hH hA hL hc hs hl hst) (fun q => kf q p l e R s m args below meth c D B0 ad0 Z C S0 O ad H locs cells slots lsR _ hH hA hL hc hs hl hst)
theorem T_goto {off : Int} {tgt : Nat} (hd : decode μ.2.1 pc = .ok (.goto off, 3)) (ht : (pc : Int) + off = (tgt : Int)) (k : T μ d tgt ls st h u Q) : T μ d pc ls st h u Q := by
  intro p l e R s m args below meth c D B0 ad0 Z C S0 O ad H locs cells slots lsR stR hH hA hL hc hs hl hst
  exact lv_goto C.1 C.2.1 hd ht (k p l e R s m args below meth c D B0 ad0 Z C S0 O ad H locs cells slots lsR _ hH hA hL hc hs hl hst)
theorem T_ifnull {o : Option Nm} {off : Int} {tgt : Nat} (hd : decode μ.2.1 pc = .ok (.ifnull off, 3)) (ht : (pc : Int) + off = (tgt : Int)) (kn : o = none → T μ d (tgt) ls st h u Q) (ks : ∀ n, o = some n → T μ d (pc + 3) ls st h u Q) : T μ d pc ls (jR o :: st) h u Q := by
  intro p l e R s m args below meth c D B0 ad0 Z C S0 O ad H locs cells slots lsR stR hH hA hL hc hs hl hst
  obtain ⟨w0, t0, e0, v0, hst⟩ := hst
  subst e0
  cases o with
  | none => cases v0; exact lv_ifnullN C.1 C.2.1 hd ht (kn rfl p l e R s m args below meth c D B0 ad0 Z C S0 O ad H locs cells slots lsR _ hH hA hL hc hs hl hst)
  | some n => obtain ⟨a, ha, e⟩ := v0; subst e; exact lv_ifnull C.1 C.2.1 hd (ks n rfl p l e R s m args below meth c D B0 ad0 Z C S0 O ad H locs cells slots lsR _ hH hA hL hc hs hl hst)
theorem T_ifnonnull {o : Option Nm} {off : Int} {tgt : Nat} (hd : decode μ.2.1 pc = .ok (.ifnonnull off, 3)) (ht : (pc : Int) + off = (tgt : Int)) (kn : o = none → T μ d (pc + 3) ls st h u Q) (ks : ∀ n, o = some n → T μ d (tgt) ls st h u Q) : T μ d pc ls (jR o :: st) h u Q := by
  intro p l e R s m args below meth c D B0 ad0 Z C S0 O ad H locs cells slots lsR stR hH hA hL hc hs hl hst
  obtain ⟨w0, t0, e0, v0, hst⟩ := hst
  subst e0
  cases o with
  | none => cases v0; exact lv_ifnonnullN C.1 C.2.1 hd (kn rfl p l e R s m args below meth c D B0 ad0 Z C S0 O ad H locs cells slots lsR _ hH hA hL hc hs hl hst)
  | some n => obtain ⟨a, ha, e⟩ := v0; subst e; exact lv_ifnonnull C.1 C.2.1 hd ht (ks n rfl p l e R s m args below meth c D B0 ad0 Z C S0 O ad H locs cells slots lsR _ hH hA hL hc hs hl hst)
theorem T_null (hd : decode μ.2.1 pc = .ok (.aconst_null, 1)) (k : T μ d (pc + 1) ls (jR none :: st) h u Q) : T μ d pc ls st h u Q := by
  intro p l e R s m args below meth c D B0 ad0 Z C S0 O ad H locs cells slots lsR stR hH hA hL hc hs hl hst
  exact lv_null C.1 C.2.1 hd (k p l e R s m args below meth c D B0 ad0 Z C S0 O ad H locs cells slots lsR _ hH hA hL hc hs hl ⟨_, _, rfl, rfl, hst⟩)
theorem T_tableIn {dflt lo hi : Int} {offs : Array Int} {len : Nat} {x : Int32} {off : Int} {tgt : Nat} (hd : decode μ.2.1 pc = .ok (.tableswitch dflt lo hi offs, len)) (h1 : ¬ x.toInt < lo) (h2 : ¬ hi < x.toInt) (ho : offs[(x.toInt - lo).toNat]? = some off) (ht : (pc : Int) + off = (tgt : Int)) (k : T μ d tgt ls st h u Q) : T μ d pc ls (jI x :: st) h u Q := by
  intro p l e R s m args below meth c D B0 ad0 Z C S0 O ad H locs cells slots lsR stR hH hA hL hc hs hl hst
  obtain ⟨w0, t0, e0, v0, hst⟩ := hst
  subst e0; cases v0
  exact lv_tableIn C.1 C.2.1 hd h1 h2 ho ht (k p l e R s m args below meth c D B0 ad0 Z C S0 O ad H locs cells slots lsR _ hH hA hL hc hs hl hst)
theorem T_tableOut {dflt lo hi : Int} {offs : Array Int} {len : Nat} {x : Int32} {tgt : Nat} (hd : decode μ.2.1 pc = .ok (.tableswitch dflt lo hi offs, len)) (hx : x.toInt < lo ∨ hi < x.toInt) (ht : (pc : Int) + dflt = (tgt : Int)) (k : T μ d tgt ls st h u Q) : T μ d pc ls (jI x :: st) h u Q := by
  intro p l e R s m args below meth c D B0 ad0 Z C S0 O ad H locs cells slots lsR stR hH hA hL hc hs hl hst
  obtain ⟨w0, t0, e0, v0, hst⟩ := hst
  subst e0; cases v0
  exact lv_tableOut C.1 C.2.1 hd hx ht (k p l e R s m args below meth c D B0 ad0 Z C S0 O ad H locs cells slots lsR _ hH hA hL hc hs hl hst)
theorem T_lookup {dflt : Int} {ps : Array (Int × Int)} {len : Nat} {x : Int32} {off : Int} {tgt : Nat} (hd : decode μ.2.1 pc = .ok (.lookupswitch dflt ps, len)) (hp : (ps.toList.zip (ps.toList.drop 1)).all (fun (a, next) => a.1 < next.1) = true) (ho : Op.lookupswitch.offset ps.toList dflt x.toInt = off) (ht : (pc : Int) + off = (tgt : Int)) (k : T μ d tgt ls st h u Q) : T μ d pc ls (jI x :: st) h u Q := by
  intro p l e R s m args below meth c D B0 ad0 Z C S0 O ad H locs cells slots lsR stR hH hA hL hc hs hl hst
  obtain ⟨w0, t0, e0, v0, hst⟩ := hst
  subst e0; cases v0
  exact lv_lookup C.1 C.2.1 hd hp ho ht (k p l e R s m args below meth c D B0 ad0 Z C S0 O ad H locs cells slots lsR _ hH hA hL hc hs hl hst)
theorem T_dup {v : MV} (hv : cat2 v = false) (hd : decode μ.2.1 pc = .ok (.dup, 1)) (k : T μ d (pc + 1) ls (v :: v :: st) h u Q) : T μ d pc ls (v :: st) h u Q := by
  intro p l e R s m args below meth c D B0 ad0 Z C S0 O ad H locs cells slots lsR stR hH hA hL hc hs hl hst
  obtain ⟨w0, t0, e0, v0, hst⟩ := hst
  subst e0
  have hca := v0.cat
  rw [hv] at hca
  exact lv_dup C.1 C.2.1 hd hca (k p l e R s m args below meth c D B0 ad0 Z C S0 O ad H locs cells slots lsR _ hH hA hL hc hs hl ⟨_, _, rfl, v0, _, _, rfl, v0, hst⟩)
theorem T_pop {v : MV} (hv : cat2 v = false) (hd : decode μ.2.1 pc = .ok (.pop, 1)) (k : T μ d (pc + 1) ls st h u Q) : T μ d pc ls (v :: st) h u Q := by
  intro p l e R s m args below meth c D B0 ad0 Z C S0 O ad H locs cells slots lsR stR hH hA hL hc hs hl hst
  obtain ⟨w0, t0, e0, v0, hst⟩ := hst
  subst e0
  have hca := v0.cat
  rw [hv] at hca
  exact lv_pop C.1 C.2.1 hd hca (k p l e R s m args below meth c D B0 ad0 Z C S0 O ad H locs cells slots lsR _ hH hA hL hc hs hl hst)
theorem T_dup2 {v w : MV} (hv : cat2 v = false) (hw : cat2 w = false) (hd : decode μ.2.1 pc = .ok (.dup2, 1)) (k : T μ d (pc + 1) ls (v :: w :: v :: w :: st) h u Q) : T μ d pc ls (v :: w :: st) h u Q := by
  intro p l e R s m args below meth c D B0 ad0 Z C S0 O ad H locs cells slots lsR stR hH hA hL hc hs hl hst
  obtain ⟨w0, t0, e0, v0, hst⟩ := hst
  obtain ⟨w1, t1, e1, v1, hst⟩ := hst
  subst e0; subst e1
  have hca := v0.cat
  rw [hv] at hca
  have hc1 := v1.cat
  rw [hw] at hc1
  exact lv_dup2_11 C.1 C.2.1 hd hca hc1 (k p l e R s m args below meth c D B0 ad0 Z C S0 O ad H locs cells slots lsR _ hH hA hL hc hs hl ⟨_, _, rfl, v0, _, _, rfl, v1, _, _, rfl, v0, _, _, rfl, v1, hst⟩)
theorem T_ireturn {x : Int32} {ty : FieldType} (hr : μ.2.2.2.1 = some ty) (hn : narrow ty (.int x) = .int x) (hd : decode μ.2.1 pc = .ok (.ireturn, 1)) (q : Q (some (jI x)) h) : T μ d pc ls [jI x] h u Q := by
  intro p l e R s m args below meth c D B0 ad0 Z C S0 O ad H locs cells slots lsR stR hH hA hL hc hs hl hst
  obtain ⟨w0, t0, e0, v0, hst⟩ := hst
  cases hst; subst e0; cases v0
  exact O ad h H locs cells slots (some (jI x)) (some (.int x)) .ireturn pc lsR hH hA hL (by omega) (by omega) q ⟨_, rfl, rfl⟩ (Or.inl ⟨rfl, x, ty, rfl, hr, hn⟩) hd
theorem T_lreturn {x : Int64} (hr : μ.2.2.2.1 = some .long) (hd : decode μ.2.1 pc = .ok (.lreturn, 1)) (q : Q (some (jL x)) h) : T μ d pc ls [jL x] h u Q := by
  intro p l e R s m args below meth c D B0 ad0 Z C S0 O ad H locs cells slots lsR stR hH hA hL hc hs hl hst
  obtain ⟨w0, t0, e0, v0, hst⟩ := hst
  cases hst; subst e0; cases v0
  exact O ad h H locs cells slots (some (jL x)) (some (.long x)) .lreturn pc lsR hH hA hL (by omega) (by omega) q ⟨_, rfl, rfl⟩ (Or.inr (Or.inl ⟨rfl, x, rfl, hr⟩)) hd
theorem T_areturn {o : Option Nm} {rt : FieldType} (hr : μ.2.2.2.1 = some rt) (hrt : (∃ n, rt = .object n) ∨ ∃ t, rt = .array t) (hd : decode μ.2.1 pc = .ok (.areturn, 1)) (q : Q (some (jR o)) h) : T μ d pc ls [jR o] h u Q := by
  intro p l e R s m args below meth c D B0 ad0 Z C S0 O ad H locs cells slots lsR stR hH hA hL hc hs hl hst
  obtain ⟨w0, t0, e0, v0, hst⟩ := hst
  cases hst; subst e0
  exact O ad h H locs cells slots (some (jR o)) (some w0) .areturn pc lsR hH hA hL (by omega) (by omega) q ⟨_, rfl, v0⟩ (Or.inr (Or.inr (Or.inl ⟨rfl, o, rt, rfl, hr, hrt⟩))) hd
theorem T_return (hr : μ.2.2.2.1 = none) (hd : decode μ.2.1 pc = .ok (.return_, 1)) (q : Q none h) : T μ d pc ls [] h u Q := by
  intro p l e R s m args below meth c D B0 ad0 Z C S0 O ad H locs cells slots lsR stR hH hA hL hc hs hl hst
  cases hst
  exact O ad h H locs cells slots none none .return_ pc lsR hH hA hL (by omega) (by omega) q rfl (Or.inr (Or.inr (Or.inr ⟨rfl, rfl, hr⟩))) hd
theorem T.mono {Q' : Option MV → MH → Prop} (hq : ∀ v h, Q v h → Q' v h) (k : T μ d pc ls st h u Q) : T μ d pc ls st h u Q' := by
  intro p l e R s m args below meth c D B0 ad0 Z C S0 O ad H locs cells slots lsR stR hH hA hL hc hs hl hst
  exact k p l e R s m args below meth c D B0 ad0 Z C S0 (fun ad h H locs cells slots v w i pc lsR a1 a2 a3 a4 a5 q a6 a7 a8 => O ad h H locs cells slots v w i pc lsR a1 a2 a3 a4 a5 (hq v h q) a6 a7 a8) ad H locs cells slots lsR stR hH hA hL hc hs hl hst
theorem T.roomy {u2 : Nat} (hu : u2 ≤ u) (k : T μ d pc ls st h u2 Q) : T μ d pc ls st h u Q := by
  intro p l e R s m args below meth c D B0 ad0 Z C S0 O ad H locs cells slots lsR stR hH hA hL hc hs hl hst
  exact k p l e R s m args below meth c D B0 ad0 Z C S0 O ad H locs cells slots lsR stR hH hA hL (by omega) (by omega) hl hst
end Rules
