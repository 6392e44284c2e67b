/-! THE STATE: what the heap holds, as a function -/
def up {α : Type} (f : Nat → α) (k : Nat) (x : α) : Nat → α := fun j => if j = k then x else f j
theorem up_s {α : Type} {f : Nat → α} {k : Nat} {x : α} : up f k x k = x := by simp [up]
theorem up_n {α : Type} {f : Nat → α} {k j : Nat} {x : α} (h : j ≠ k) : up f k x j = f j := by simp [up, h]
theorem up_u {α : Type} {f : Nat → α} {k : Nat} {x y : α} : up (up f k x) k y = up f k y := by funext j; by_cases h : j = k <;> simp [up, h]
def b2i (b : Bool) : Int32 := if b then 1 else 0
theorem b2i_t : b2i true = 1 := rfl
theorem b2i_f : b2i false = 0 := rfl
theorem b2i_0 {b : Bool} : b2i b = 0 ↔ b = false := by cases b <;> decide
theorem b2i_1 {b : Bool} : b2i b = 1 ↔ b = true := by cases b <;> decide
theorem nz_b2i (b : Bool) : nz (b2i b) := by cases b <;> simp [b2i, nz]
theorem nz_0 : nz 0 := Or.inl rfl
theorem nz_1 : nz 1 := Or.inr rfl
/-- an array's cell by an int -/
def inb {α : Type} (l : List α) (i : Int32) : Prop := ¬ i < 0 ∧ i.toNatClampNeg < l.length
def rdI (l : List Int32) (i : Int32) : Int32 := l.getD i.toNatClampNeg 0
def rdL (l : List Int64) (i : Int32) : Int64 := l.getD i.toNatClampNeg 0
def hJ (cp mp : MH) : MH := fun n => bif Nat.blt n.1 40 then cp n else mp n
theorem hJ_setC {cp mp : MH} {n : Nm} {c : MC} (h : n.1 < 40) : hset (hJ cp mp) n c = hJ (hset cp n c) mp := by
  funext m
  unfold hset hJ
  by_cases e : m = n
  · subst e; simp [Nat.blt_eq.mpr h]
  · simp [e]
theorem hJ_setM {cp mp : MH} {n : Nm} {c : MC} (h : ¬ n.1 < 40) : hset (hJ cp mp) n c = hJ cp (hset mp n c) := by
  funext m
  unfold hset hJ
  by_cases e : m = n
  · subst e
    have : Nat.blt m.1 40 = false := by
      cases hb : Nat.blt m.1 40 with
      | false => rfl
      | true => exact absurd (Nat.blt_eq.mp hb) h
    simp [this]
  · simp [e]
theorem aI_arr {ty : FieldType} {h : MH} {n : Nm} {l : List Int32} {i : Int32} {K : Int32 → Prop} (hn : h n = some (.inr (ty, l.map jI))) : aI ty h (some n) i K ↔ inb l i ∧ K (rdI l i) := by
  simp only [aI, hn, inb, rdI, List.getElem?_map]
  by_cases hl : i.toNatClampNeg < l.length
  · simp [List.getElem?_eq_getElem hl, hl]
  · simp [List.getElem?_eq_none (Nat.not_lt.mp hl), hl]
theorem aL_arr {h : MH} {n : Nm} {l : List Int64} {i : Int32} {K : Int64 → Prop} (hn : h n = some (.inr (.long, l.map jL))) : aL h (some n) i K ↔ inb l i ∧ K (rdL l i) := by
  simp only [aL, hn, inb, rdL, List.getElem?_map]
  by_cases hl : i.toNatClampNeg < l.length
  · simp [List.getElem?_eq_getElem hl, hl]
  · simp [List.getElem?_eq_none (Nat.not_lt.mp hl), hl]
theorem sI_arr {ty : FieldType} {h h2 : MH} {n : Nm} {l : List Int32} {i x : Int32} {K : MH → Prop} (hn : h n = some (.inr (ty, l.map jI))) (h2e : hset h n (.inr (ty, (l.set i.toNatClampNeg x).map jI)) = h2) : sV ty h (some n) i (jI x) K ↔ inb l i ∧ K h2 := by
  subst h2e
  simp only [sV, hn, inb, List.length_map, List.map_set]
  simp [and_assoc]
theorem sL_arr {h h2 : MH} {n : Nm} {l : List Int64} {i : Int32} {x : Int64} {K : MH → Prop} (hn : h n = some (.inr (.long, l.map jL))) (h2e : hset h n (.inr (.long, (l.set i.toNatClampNeg x).map jL)) = h2) : sV .long h (some n) i (jL x) K ↔ inb l i ∧ K h2 := by
  subst h2e
  simp only [sV, hn, inb, List.length_map, List.map_set]
  simp [and_assoc]
/-! the reference's part -/
abbrev MS : Type := (Nat → Int32) × (Nat → List Int32) × (Nat → List Int64)
def mTy : Nat → Option FieldType
  | 4 => some .int
  | 5 => some .int
  | 6 => some .boolean
  | 7 => some .long
  | 8 => some .long
  | 10 => some .boolean
  | 11 => some .int
  | 12 => some .boolean
  | 13 => some .int
  | 14 => some .int
  | 15 => some .int
  | 16 => some .int
  | 17 => some .int
  | 18 => some .int
  | 20 => some .int
  | 21 => some .boolean
  | 22 => some .int
  | 23 => some .long
  | 25 => some .int
  | 26 => some .int
  | 27 => some .int
  | 28 => some .int
  | 29 => some .int
  | 30 => some .int
  | 31 => some .long
  | 32 => some .long
  | 36 => some .int
  | 37 => some .int
  | 38 => some .int
  | 39 => some .int
  | 40 => some .int
  | 41 => some .int
  | 42 => some .byte
  | 44 => some .byte
  | _ => none
def mFs (I : Nat → Int32) : List MV := (List.range 46).map (fun k => match mTy k with
  | none => jI (I k)
  | some _ => jR (some (41, k, 0)))
def hMa (m : MS) (k : Nat) : Option MC := match mTy k with
  | none => none
  | some .long => some (.inr (.long, (m.2.2 k).map jL))
  | some t => some (.inr (t, (m.2.1 k).map jI))
def hM (m : MS) : MH := fun n => match n with
  | (40, 0, 0) => some (.inl (11, mFs m.1))
  | (41, k, 0) => hMa m k
  | _ => none
def mI (m : MS) (k : Nat) (x : Int32) : MS := (up m.1 k x, m.2)
def mA (m : MS) (k : Nat) (l : List Int32) : MS := (m.1, up m.2.1 k l, m.2.2)
def mB (m : MS) (k : Nat) (l : List Int64) : MS := (m.1, m.2.1, up m.2.2 k l)
theorem mFs_set {I : Nat → Int32} {k : Nat} {x : Int32} (hk : mTy k = none) : (mFs I).set k (jI x) = mFs (up I k x) := by
  apply List.ext_getElem?
  intro j
  rw [List.getElem?_set]
  by_cases e : k = j
  · subst e
    rw [if_pos rfl]
    unfold mFs
    rw [List.getElem?_map]
    by_cases hl : k < 46
    · rw [List.getElem?_range hl]
      simp [hl, hk, up]
    · simp [hl]
  · rw [if_neg e]
    unfold mFs
    rw [List.getElem?_map, List.getElem?_map]
    by_cases hl : j < 46
    · rw [List.getElem?_range hl]
      simp [up, Ne.symm e]
    · simp [hl]
theorem hM_setI {m : MS} {k : Nat} {x : Int32} (hk : mTy k = none) : hset (hM m) (40, 0, 0) (.inl (11, (mFs m.1).set k (jI x))) = hM (mI m k x) := by
  rw [mFs_set hk]
  funext n
  unfold hset
  by_cases e : n = (40, 0, 0)
  · subst e; simp [hM, mI]
  · rw [if_neg e]
    unfold hM
    split
    · exact absurd rfl e
    · rfl
    · rfl
theorem hM_setA {m : MS} {k : Nat} {l : List Int32} {t : FieldType} (hk : mTy k = some t) (ht : t ≠ .long) : hset (hM m) (41, k, 0) (.inr (t, l.map jI)) = hM (mA m k l) := by
  funext n
  unfold hset
  by_cases e : n = (41, k, 0)
  · subst e
    rw [if_pos rfl]
    show _ = hMa (mA m k l) k
    unfold hMa
    rw [hk]
    split
    · rename_i q; cases q
    · rename_i q; cases q; exact absurd rfl ht
    · rename_i q; cases q; simp [mA, up]
  · rw [if_neg e]
    unfold hM
    split
    · rfl
    · rename_i j
      have hj : j ≠ k := fun q => e (by rw [q])
      unfold hMa
      simp only [mA, up_n hj]
    · rfl
theorem hM_setB {m : MS} {k : Nat} {l : List Int64} (hk : mTy k = some .long) : hset (hM m) (41, k, 0) (.inr (.long, l.map jL)) = hM (mB m k l) := by
  funext n
  unfold hset
  by_cases e : n = (41, k, 0)
  · subst e
    rw [if_pos rfl]
    show _ = hMa (mB m k l) k
    unfold hMa
    rw [hk]
    simp [mB, up]
  · rw [if_neg e]
    unfold hM
    split
    · rfl
    · rename_i j
      have hj : j ≠ k := fun q => e (by rw [q])
      unfold hMa
      simp only [mB, up_n hj]
    · rfl
abbrev mo : Option Nm := some (40, 0, 0)
section ModelRW
variable {cp : MH} {m : MS}
theorem m_rc : rc (hJ cp (hM m)) mo 11 := rfl
theorem m_rcT : rc (hJ cp (hM m)) mo 11 ↔ True := ⟨fun _ => trivial, fun _ => rfl⟩
theorem m_g0 {K : Int32 → Prop} : gI (hJ cp (hM m)) mo 11 0 K ↔ K (m.1 0) := by show (11 = 11 ∧ K (m.1 0)) ↔ _; simp
theorem m_p0 {x : Int32} {K : MH → Prop} : pV (hJ cp (hM m)) mo 11 0 (jI x) K ↔ K (hJ cp (hM (mI m 0 x))) := by show (11 = 11 ∧ K (hset (hJ cp (hM m)) (40, 0, 0) (.inl (11, (mFs m.1).set 0 (jI x))))) ↔ _; rw [hJ_setM (by decide), hM_setI rfl]; simp
theorem m_g1 {K : Int32 → Prop} : gI (hJ cp (hM m)) mo 11 1 K ↔ K (m.1 1) := by show (11 = 11 ∧ K (m.1 1)) ↔ _; simp
theorem m_p1 {x : Int32} {K : MH → Prop} : pV (hJ cp (hM m)) mo 11 1 (jI x) K ↔ K (hJ cp (hM (mI m 1 x))) := by show (11 = 11 ∧ K (hset (hJ cp (hM m)) (40, 0, 0) (.inl (11, (mFs m.1).set 1 (jI x))))) ↔ _; rw [hJ_setM (by decide), hM_setI rfl]; simp
theorem m_g2 {K : Int32 → Prop} : gI (hJ cp (hM m)) mo 11 2 K ↔ K (m.1 2) := by show (11 = 11 ∧ K (m.1 2)) ↔ _; simp
theorem m_p2 {x : Int32} {K : MH → Prop} : pV (hJ cp (hM m)) mo 11 2 (jI x) K ↔ K (hJ cp (hM (mI m 2 x))) := by show (11 = 11 ∧ K (hset (hJ cp (hM m)) (40, 0, 0) (.inl (11, (mFs m.1).set 2 (jI x))))) ↔ _; rw [hJ_setM (by decide), hM_setI rfl]; simp
theorem m_g3 {K : Int32 → Prop} : gI (hJ cp (hM m)) mo 11 3 K ↔ K (m.1 3) := by show (11 = 11 ∧ K (m.1 3)) ↔ _; simp
theorem m_p3 {x : Int32} {K : MH → Prop} : pV (hJ cp (hM m)) mo 11 3 (jI x) K ↔ K (hJ cp (hM (mI m 3 x))) := by show (11 = 11 ∧ K (hset (hJ cp (hM m)) (40, 0, 0) (.inl (11, (mFs m.1).set 3 (jI x))))) ↔ _; rw [hJ_setM (by decide), hM_setI rfl]; simp
theorem m_g4 {K : Option Nm → Prop} : gR (hJ cp (hM m)) mo 11 4 K ↔ K (some (41, 4, 0)) := by show (11 = 11 ∧ K (some (41, 4, 0))) ↔ _; simp
theorem m_a4 {i : Int32} {K : Int32 → Prop} : aI .int (hJ cp (hM m)) (some (41, 4, 0)) i K ↔ inb (m.2.1 4) i ∧ K (rdI (m.2.1 4) i) := aI_arr rfl
theorem m_s4 {i x : Int32} {K : MH → Prop} : sV .int (hJ cp (hM m)) (some (41, 4, 0)) i (jI x) K ↔ inb (m.2.1 4) i ∧ K (hJ cp (hM (mA m 4 ((m.2.1 4).set i.toNatClampNeg x)))) := sI_arr rfl (by rw [hJ_setM (by decide), hM_setA rfl (by decide)])
theorem m_g5 {K : Option Nm → Prop} : gR (hJ cp (hM m)) mo 11 5 K ↔ K (some (41, 5, 0)) := by show (11 = 11 ∧ K (some (41, 5, 0))) ↔ _; simp
theorem m_a5 {i : Int32} {K : Int32 → Prop} : aI .int (hJ cp (hM m)) (some (41, 5, 0)) i K ↔ inb (m.2.1 5) i ∧ K (rdI (m.2.1 5) i) := aI_arr rfl
theorem m_s5 {i x : Int32} {K : MH → Prop} : sV .int (hJ cp (hM m)) (some (41, 5, 0)) i (jI x) K ↔ inb (m.2.1 5) i ∧ K (hJ cp (hM (mA m 5 ((m.2.1 5).set i.toNatClampNeg x)))) := sI_arr rfl (by rw [hJ_setM (by decide), hM_setA rfl (by decide)])
theorem m_g6 {K : Option Nm → Prop} : gR (hJ cp (hM m)) mo 11 6 K ↔ K (some (41, 6, 0)) := by show (11 = 11 ∧ K (some (41, 6, 0))) ↔ _; simp
theorem m_a6 {i : Int32} {K : Int32 → Prop} : aI .boolean (hJ cp (hM m)) (some (41, 6, 0)) i K ↔ inb (m.2.1 6) i ∧ K (rdI (m.2.1 6) i) := aI_arr rfl
theorem m_s6 {i x : Int32} {K : MH → Prop} : sV .boolean (hJ cp (hM m)) (some (41, 6, 0)) i (jI x) K ↔ inb (m.2.1 6) i ∧ K (hJ cp (hM (mA m 6 ((m.2.1 6).set i.toNatClampNeg x)))) := sI_arr rfl (by rw [hJ_setM (by decide), hM_setA rfl (by decide)])
theorem m_g7 {K : Option Nm → Prop} : gR (hJ cp (hM m)) mo 11 7 K ↔ K (some (41, 7, 0)) := by show (11 = 11 ∧ K (some (41, 7, 0))) ↔ _; simp
theorem m_a7 {i : Int32} {K : Int64 → Prop} : aL (hJ cp (hM m)) (some (41, 7, 0)) i K ↔ inb (m.2.2 7) i ∧ K (rdL (m.2.2 7) i) := aL_arr rfl
theorem m_s7 {i : Int32} {x : Int64} {K : MH → Prop} : sV .long (hJ cp (hM m)) (some (41, 7, 0)) i (jL x) K ↔ inb (m.2.2 7) i ∧ K (hJ cp (hM (mB m 7 ((m.2.2 7).set i.toNatClampNeg x)))) := sL_arr rfl (by rw [hJ_setM (by decide), hM_setB rfl])
theorem m_g8 {K : Option Nm → Prop} : gR (hJ cp (hM m)) mo 11 8 K ↔ K (some (41, 8, 0)) := by show (11 = 11 ∧ K (some (41, 8, 0))) ↔ _; simp
theorem m_a8 {i : Int32} {K : Int64 → Prop} : aL (hJ cp (hM m)) (some (41, 8, 0)) i K ↔ inb (m.2.2 8) i ∧ K (rdL (m.2.2 8) i) := aL_arr rfl
theorem m_s8 {i : Int32} {x : Int64} {K : MH → Prop} : sV .long (hJ cp (hM m)) (some (41, 8, 0)) i (jL x) K ↔ inb (m.2.2 8) i ∧ K (hJ cp (hM (mB m 8 ((m.2.2 8).set i.toNatClampNeg x)))) := sL_arr rfl (by rw [hJ_setM (by decide), hM_setB rfl])
theorem m_g9 {K : Int32 → Prop} : gI (hJ cp (hM m)) mo 11 9 K ↔ K (m.1 9) := by show (11 = 11 ∧ K (m.1 9)) ↔ _; simp
theorem m_p9 {x : Int32} {K : MH → Prop} : pV (hJ cp (hM m)) mo 11 9 (jI x) K ↔ K (hJ cp (hM (mI m 9 x))) := by show (11 = 11 ∧ K (hset (hJ cp (hM m)) (40, 0, 0) (.inl (11, (mFs m.1).set 9 (jI x))))) ↔ _; rw [hJ_setM (by decide), hM_setI rfl]; simp
theorem m_g10 {K : Option Nm → Prop} : gR (hJ cp (hM m)) mo 11 10 K ↔ K (some (41, 10, 0)) := by show (11 = 11 ∧ K (some (41, 10, 0))) ↔ _; simp
theorem m_a10 {i : Int32} {K : Int32 → Prop} : aI .boolean (hJ cp (hM m)) (some (41, 10, 0)) i K ↔ inb (m.2.1 10) i ∧ K (rdI (m.2.1 10) i) := aI_arr rfl
theorem m_s10 {i x : Int32} {K : MH → Prop} : sV .boolean (hJ cp (hM m)) (some (41, 10, 0)) i (jI x) K ↔ inb (m.2.1 10) i ∧ K (hJ cp (hM (mA m 10 ((m.2.1 10).set i.toNatClampNeg x)))) := sI_arr rfl (by rw [hJ_setM (by decide), hM_setA rfl (by decide)])
theorem m_g11 {K : Option Nm → Prop} : gR (hJ cp (hM m)) mo 11 11 K ↔ K (some (41, 11, 0)) := by show (11 = 11 ∧ K (some (41, 11, 0))) ↔ _; simp
theorem m_a11 {i : Int32} {K : Int32 → Prop} : aI .int (hJ cp (hM m)) (some (41, 11, 0)) i K ↔ inb (m.2.1 11) i ∧ K (rdI (m.2.1 11) i) := aI_arr rfl
theorem m_s11 {i x : Int32} {K : MH → Prop} : sV .int (hJ cp (hM m)) (some (41, 11, 0)) i (jI x) K ↔ inb (m.2.1 11) i ∧ K (hJ cp (hM (mA m 11 ((m.2.1 11).set i.toNatClampNeg x)))) := sI_arr rfl (by rw [hJ_setM (by decide), hM_setA rfl (by decide)])
theorem m_g12 {K : Option Nm → Prop} : gR (hJ cp (hM m)) mo 11 12 K ↔ K (some (41, 12, 0)) := by show (11 = 11 ∧ K (some (41, 12, 0))) ↔ _; simp
theorem m_a12 {i : Int32} {K : Int32 → Prop} : aI .boolean (hJ cp (hM m)) (some (41, 12, 0)) i K ↔ inb (m.2.1 12) i ∧ K (rdI (m.2.1 12) i) := aI_arr rfl
theorem m_s12 {i x : Int32} {K : MH → Prop} : sV .boolean (hJ cp (hM m)) (some (41, 12, 0)) i (jI x) K ↔ inb (m.2.1 12) i ∧ K (hJ cp (hM (mA m 12 ((m.2.1 12).set i.toNatClampNeg x)))) := sI_arr rfl (by rw [hJ_setM (by decide), hM_setA rfl (by decide)])
theorem m_g13 {K : Option Nm → Prop} : gR (hJ cp (hM m)) mo 11 13 K ↔ K (some (41, 13, 0)) := by show (11 = 11 ∧ K (some (41, 13, 0))) ↔ _; simp
theorem m_a13 {i : Int32} {K : Int32 → Prop} : aI .int (hJ cp (hM m)) (some (41, 13, 0)) i K ↔ inb (m.2.1 13) i ∧ K (rdI (m.2.1 13) i) := aI_arr rfl
theorem m_s13 {i x : Int32} {K : MH → Prop} : sV .int (hJ cp (hM m)) (some (41, 13, 0)) i (jI x) K ↔ inb (m.2.1 13) i ∧ K (hJ cp (hM (mA m 13 ((m.2.1 13).set i.toNatClampNeg x)))) := sI_arr rfl (by rw [hJ_setM (by decide), hM_setA rfl (by decide)])
theorem m_g14 {K : Option Nm → Prop} : gR (hJ cp (hM m)) mo 11 14 K ↔ K (some (41, 14, 0)) := by show (11 = 11 ∧ K (some (41, 14, 0))) ↔ _; simp
theorem m_a14 {i : Int32} {K : Int32 → Prop} : aI .int (hJ cp (hM m)) (some (41, 14, 0)) i K ↔ inb (m.2.1 14) i ∧ K (rdI (m.2.1 14) i) := aI_arr rfl
theorem m_s14 {i x : Int32} {K : MH → Prop} : sV .int (hJ cp (hM m)) (some (41, 14, 0)) i (jI x) K ↔ inb (m.2.1 14) i ∧ K (hJ cp (hM (mA m 14 ((m.2.1 14).set i.toNatClampNeg x)))) := sI_arr rfl (by rw [hJ_setM (by decide), hM_setA rfl (by decide)])
theorem m_g15 {K : Option Nm → Prop} : gR (hJ cp (hM m)) mo 11 15 K ↔ K (some (41, 15, 0)) := by show (11 = 11 ∧ K (some (41, 15, 0))) ↔ _; simp
theorem m_a15 {i : Int32} {K : Int32 → Prop} : aI .int (hJ cp (hM m)) (some (41, 15, 0)) i K ↔ inb (m.2.1 15) i ∧ K (rdI (m.2.1 15) i) := aI_arr rfl
theorem m_s15 {i x : Int32} {K : MH → Prop} : sV .int (hJ cp (hM m)) (some (41, 15, 0)) i (jI x) K ↔ inb (m.2.1 15) i ∧ K (hJ cp (hM (mA m 15 ((m.2.1 15).set i.toNatClampNeg x)))) := sI_arr rfl (by rw [hJ_setM (by decide), hM_setA rfl (by decide)])
theorem m_g16 {K : Option Nm → Prop} : gR (hJ cp (hM m)) mo 11 16 K ↔ K (some (41, 16, 0)) := by show (11 = 11 ∧ K (some (41, 16, 0))) ↔ _; simp
theorem m_a16 {i : Int32} {K : Int32 → Prop} : aI .int (hJ cp (hM m)) (some (41, 16, 0)) i K ↔ inb (m.2.1 16) i ∧ K (rdI (m.2.1 16) i) := aI_arr rfl
theorem m_s16 {i x : Int32} {K : MH → Prop} : sV .int (hJ cp (hM m)) (some (41, 16, 0)) i (jI x) K ↔ inb (m.2.1 16) i ∧ K (hJ cp (hM (mA m 16 ((m.2.1 16).set i.toNatClampNeg x)))) := sI_arr rfl (by rw [hJ_setM (by decide), hM_setA rfl (by decide)])
theorem m_g17 {K : Option Nm → Prop} : gR (hJ cp (hM m)) mo 11 17 K ↔ K (some (41, 17, 0)) := by show (11 = 11 ∧ K (some (41, 17, 0))) ↔ _; simp
theorem m_a17 {i : Int32} {K : Int32 → Prop} : aI .int (hJ cp (hM m)) (some (41, 17, 0)) i K ↔ inb (m.2.1 17) i ∧ K (rdI (m.2.1 17) i) := aI_arr rfl
theorem m_s17 {i x : Int32} {K : MH → Prop} : sV .int (hJ cp (hM m)) (some (41, 17, 0)) i (jI x) K ↔ inb (m.2.1 17) i ∧ K (hJ cp (hM (mA m 17 ((m.2.1 17).set i.toNatClampNeg x)))) := sI_arr rfl (by rw [hJ_setM (by decide), hM_setA rfl (by decide)])
theorem m_g18 {K : Option Nm → Prop} : gR (hJ cp (hM m)) mo 11 18 K ↔ K (some (41, 18, 0)) := by show (11 = 11 ∧ K (some (41, 18, 0))) ↔ _; simp
theorem m_a18 {i : Int32} {K : Int32 → Prop} : aI .int (hJ cp (hM m)) (some (41, 18, 0)) i K ↔ inb (m.2.1 18) i ∧ K (rdI (m.2.1 18) i) := aI_arr rfl
theorem m_s18 {i x : Int32} {K : MH → Prop} : sV .int (hJ cp (hM m)) (some (41, 18, 0)) i (jI x) K ↔ inb (m.2.1 18) i ∧ K (hJ cp (hM (mA m 18 ((m.2.1 18).set i.toNatClampNeg x)))) := sI_arr rfl (by rw [hJ_setM (by decide), hM_setA rfl (by decide)])
theorem m_g19 {K : Int32 → Prop} : gI (hJ cp (hM m)) mo 11 19 K ↔ K (m.1 19) := by show (11 = 11 ∧ K (m.1 19)) ↔ _; simp
theorem m_p19 {x : Int32} {K : MH → Prop} : pV (hJ cp (hM m)) mo 11 19 (jI x) K ↔ K (hJ cp (hM (mI m 19 x))) := by show (11 = 11 ∧ K (hset (hJ cp (hM m)) (40, 0, 0) (.inl (11, (mFs m.1).set 19 (jI x))))) ↔ _; rw [hJ_setM (by decide), hM_setI rfl]; simp
theorem m_g20 {K : Option Nm → Prop} : gR (hJ cp (hM m)) mo 11 20 K ↔ K (some (41, 20, 0)) := by show (11 = 11 ∧ K (some (41, 20, 0))) ↔ _; simp
theorem m_a20 {i : Int32} {K : Int32 → Prop} : aI .int (hJ cp (hM m)) (some (41, 20, 0)) i K ↔ inb (m.2.1 20) i ∧ K (rdI (m.2.1 20) i) := aI_arr rfl
theorem m_s20 {i x : Int32} {K : MH → Prop} : sV .int (hJ cp (hM m)) (some (41, 20, 0)) i (jI x) K ↔ inb (m.2.1 20) i ∧ K (hJ cp (hM (mA m 20 ((m.2.1 20).set i.toNatClampNeg x)))) := sI_arr rfl (by rw [hJ_setM (by decide), hM_setA rfl (by decide)])
theorem m_g21 {K : Option Nm → Prop} : gR (hJ cp (hM m)) mo 11 21 K ↔ K (some (41, 21, 0)) := by show (11 = 11 ∧ K (some (41, 21, 0))) ↔ _; simp
theorem m_a21 {i : Int32} {K : Int32 → Prop} : aI .boolean (hJ cp (hM m)) (some (41, 21, 0)) i K ↔ inb (m.2.1 21) i ∧ K (rdI (m.2.1 21) i) := aI_arr rfl
theorem m_s21 {i x : Int32} {K : MH → Prop} : sV .boolean (hJ cp (hM m)) (some (41, 21, 0)) i (jI x) K ↔ inb (m.2.1 21) i ∧ K (hJ cp (hM (mA m 21 ((m.2.1 21).set i.toNatClampNeg x)))) := sI_arr rfl (by rw [hJ_setM (by decide), hM_setA rfl (by decide)])
theorem m_g22 {K : Option Nm → Prop} : gR (hJ cp (hM m)) mo 11 22 K ↔ K (some (41, 22, 0)) := by show (11 = 11 ∧ K (some (41, 22, 0))) ↔ _; simp
theorem m_a22 {i : Int32} {K : Int32 → Prop} : aI .int (hJ cp (hM m)) (some (41, 22, 0)) i K ↔ inb (m.2.1 22) i ∧ K (rdI (m.2.1 22) i) := aI_arr rfl
theorem m_s22 {i x : Int32} {K : MH → Prop} : sV .int (hJ cp (hM m)) (some (41, 22, 0)) i (jI x) K ↔ inb (m.2.1 22) i ∧ K (hJ cp (hM (mA m 22 ((m.2.1 22).set i.toNatClampNeg x)))) := sI_arr rfl (by rw [hJ_setM (by decide), hM_setA rfl (by decide)])
theorem m_g23 {K : Option Nm → Prop} : gR (hJ cp (hM m)) mo 11 23 K ↔ K (some (41, 23, 0)) := by show (11 = 11 ∧ K (some (41, 23, 0))) ↔ _; simp
theorem m_a23 {i : Int32} {K : Int64 → Prop} : aL (hJ cp (hM m)) (some (41, 23, 0)) i K ↔ inb (m.2.2 23) i ∧ K (rdL (m.2.2 23) i) := aL_arr rfl
theorem m_s23 {i : Int32} {x : Int64} {K : MH → Prop} : sV .long (hJ cp (hM m)) (some (41, 23, 0)) i (jL x) K ↔ inb (m.2.2 23) i ∧ K (hJ cp (hM (mB m 23 ((m.2.2 23).set i.toNatClampNeg x)))) := sL_arr rfl (by rw [hJ_setM (by decide), hM_setB rfl])
theorem m_g24 {K : Int32 → Prop} : gI (hJ cp (hM m)) mo 11 24 K ↔ K (m.1 24) := by show (11 = 11 ∧ K (m.1 24)) ↔ _; simp
theorem m_p24 {x : Int32} {K : MH → Prop} : pV (hJ cp (hM m)) mo 11 24 (jI x) K ↔ K (hJ cp (hM (mI m 24 x))) := by show (11 = 11 ∧ K (hset (hJ cp (hM m)) (40, 0, 0) (.inl (11, (mFs m.1).set 24 (jI x))))) ↔ _; rw [hJ_setM (by decide), hM_setI rfl]; simp
theorem m_g25 {K : Option Nm → Prop} : gR (hJ cp (hM m)) mo 11 25 K ↔ K (some (41, 25, 0)) := by show (11 = 11 ∧ K (some (41, 25, 0))) ↔ _; simp
theorem m_a25 {i : Int32} {K : Int32 → Prop} : aI .int (hJ cp (hM m)) (some (41, 25, 0)) i K ↔ inb (m.2.1 25) i ∧ K (rdI (m.2.1 25) i) := aI_arr rfl
theorem m_s25 {i x : Int32} {K : MH → Prop} : sV .int (hJ cp (hM m)) (some (41, 25, 0)) i (jI x) K ↔ inb (m.2.1 25) i ∧ K (hJ cp (hM (mA m 25 ((m.2.1 25).set i.toNatClampNeg x)))) := sI_arr rfl (by rw [hJ_setM (by decide), hM_setA rfl (by decide)])
theorem m_g26 {K : Option Nm → Prop} : gR (hJ cp (hM m)) mo 11 26 K ↔ K (some (41, 26, 0)) := by show (11 = 11 ∧ K (some (41, 26, 0))) ↔ _; simp
theorem m_a26 {i : Int32} {K : Int32 → Prop} : aI .int (hJ cp (hM m)) (some (41, 26, 0)) i K ↔ inb (m.2.1 26) i ∧ K (rdI (m.2.1 26) i) := aI_arr rfl
theorem m_s26 {i x : Int32} {K : MH → Prop} : sV .int (hJ cp (hM m)) (some (41, 26, 0)) i (jI x) K ↔ inb (m.2.1 26) i ∧ K (hJ cp (hM (mA m 26 ((m.2.1 26).set i.toNatClampNeg x)))) := sI_arr rfl (by rw [hJ_setM (by decide), hM_setA rfl (by decide)])
theorem m_g27 {K : Option Nm → Prop} : gR (hJ cp (hM m)) mo 11 27 K ↔ K (some (41, 27, 0)) := by show (11 = 11 ∧ K (some (41, 27, 0))) ↔ _; simp
theorem m_a27 {i : Int32} {K : Int32 → Prop} : aI .int (hJ cp (hM m)) (some (41, 27, 0)) i K ↔ inb (m.2.1 27) i ∧ K (rdI (m.2.1 27) i) := aI_arr rfl
theorem m_s27 {i x : Int32} {K : MH → Prop} : sV .int (hJ cp (hM m)) (some (41, 27, 0)) i (jI x) K ↔ inb (m.2.1 27) i ∧ K (hJ cp (hM (mA m 27 ((m.2.1 27).set i.toNatClampNeg x)))) := sI_arr rfl (by rw [hJ_setM (by decide), hM_setA rfl (by decide)])
theorem m_g28 {K : Option Nm → Prop} : gR (hJ cp (hM m)) mo 11 28 K ↔ K (some (41, 28, 0)) := by show (11 = 11 ∧ K (some (41, 28, 0))) ↔ _; simp
theorem m_a28 {i : Int32} {K : Int32 → Prop} : aI .int (hJ cp (hM m)) (some (41, 28, 0)) i K ↔ inb (m.2.1 28) i ∧ K (rdI (m.2.1 28) i) := aI_arr rfl
theorem m_s28 {i x : Int32} {K : MH → Prop} : sV .int (hJ cp (hM m)) (some (41, 28, 0)) i (jI x) K ↔ inb (m.2.1 28) i ∧ K (hJ cp (hM (mA m 28 ((m.2.1 28).set i.toNatClampNeg x)))) := sI_arr rfl (by rw [hJ_setM (by decide), hM_setA rfl (by decide)])
theorem m_g29 {K : Option Nm → Prop} : gR (hJ cp (hM m)) mo 11 29 K ↔ K (some (41, 29, 0)) := by show (11 = 11 ∧ K (some (41, 29, 0))) ↔ _; simp
theorem m_a29 {i : Int32} {K : Int32 → Prop} : aI .int (hJ cp (hM m)) (some (41, 29, 0)) i K ↔ inb (m.2.1 29) i ∧ K (rdI (m.2.1 29) i) := aI_arr rfl
theorem m_s29 {i x : Int32} {K : MH → Prop} : sV .int (hJ cp (hM m)) (some (41, 29, 0)) i (jI x) K ↔ inb (m.2.1 29) i ∧ K (hJ cp (hM (mA m 29 ((m.2.1 29).set i.toNatClampNeg x)))) := sI_arr rfl (by rw [hJ_setM (by decide), hM_setA rfl (by decide)])
theorem m_g30 {K : Option Nm → Prop} : gR (hJ cp (hM m)) mo 11 30 K ↔ K (some (41, 30, 0)) := by show (11 = 11 ∧ K (some (41, 30, 0))) ↔ _; simp
theorem m_a30 {i : Int32} {K : Int32 → Prop} : aI .int (hJ cp (hM m)) (some (41, 30, 0)) i K ↔ inb (m.2.1 30) i ∧ K (rdI (m.2.1 30) i) := aI_arr rfl
theorem m_s30 {i x : Int32} {K : MH → Prop} : sV .int (hJ cp (hM m)) (some (41, 30, 0)) i (jI x) K ↔ inb (m.2.1 30) i ∧ K (hJ cp (hM (mA m 30 ((m.2.1 30).set i.toNatClampNeg x)))) := sI_arr rfl (by rw [hJ_setM (by decide), hM_setA rfl (by decide)])
theorem m_g31 {K : Option Nm → Prop} : gR (hJ cp (hM m)) mo 11 31 K ↔ K (some (41, 31, 0)) := by show (11 = 11 ∧ K (some (41, 31, 0))) ↔ _; simp
theorem m_a31 {i : Int32} {K : Int64 → Prop} : aL (hJ cp (hM m)) (some (41, 31, 0)) i K ↔ inb (m.2.2 31) i ∧ K (rdL (m.2.2 31) i) := aL_arr rfl
theorem m_s31 {i : Int32} {x : Int64} {K : MH → Prop} : sV .long (hJ cp (hM m)) (some (41, 31, 0)) i (jL x) K ↔ inb (m.2.2 31) i ∧ K (hJ cp (hM (mB m 31 ((m.2.2 31).set i.toNatClampNeg x)))) := sL_arr rfl (by rw [hJ_setM (by decide), hM_setB rfl])
theorem m_g32 {K : Option Nm → Prop} : gR (hJ cp (hM m)) mo 11 32 K ↔ K (some (41, 32, 0)) := by show (11 = 11 ∧ K (some (41, 32, 0))) ↔ _; simp
theorem m_a32 {i : Int32} {K : Int64 → Prop} : aL (hJ cp (hM m)) (some (41, 32, 0)) i K ↔ inb (m.2.2 32) i ∧ K (rdL (m.2.2 32) i) := aL_arr rfl
theorem m_s32 {i : Int32} {x : Int64} {K : MH → Prop} : sV .long (hJ cp (hM m)) (some (41, 32, 0)) i (jL x) K ↔ inb (m.2.2 32) i ∧ K (hJ cp (hM (mB m 32 ((m.2.2 32).set i.toNatClampNeg x)))) := sL_arr rfl (by rw [hJ_setM (by decide), hM_setB rfl])
theorem m_g33 {K : Int32 → Prop} : gI (hJ cp (hM m)) mo 11 33 K ↔ K (m.1 33) := by show (11 = 11 ∧ K (m.1 33)) ↔ _; simp
theorem m_p33 {x : Int32} {K : MH → Prop} : pV (hJ cp (hM m)) mo 11 33 (jI x) K ↔ K (hJ cp (hM (mI m 33 x))) := by show (11 = 11 ∧ K (hset (hJ cp (hM m)) (40, 0, 0) (.inl (11, (mFs m.1).set 33 (jI x))))) ↔ _; rw [hJ_setM (by decide), hM_setI rfl]; simp
theorem m_g34 {K : Int32 → Prop} : gI (hJ cp (hM m)) mo 11 34 K ↔ K (m.1 34) := by show (11 = 11 ∧ K (m.1 34)) ↔ _; simp
theorem m_p34 {x : Int32} {K : MH → Prop} : pV (hJ cp (hM m)) mo 11 34 (jI x) K ↔ K (hJ cp (hM (mI m 34 x))) := by show (11 = 11 ∧ K (hset (hJ cp (hM m)) (40, 0, 0) (.inl (11, (mFs m.1).set 34 (jI x))))) ↔ _; rw [hJ_setM (by decide), hM_setI rfl]; simp
theorem m_g35 {K : Int32 → Prop} : gI (hJ cp (hM m)) mo 11 35 K ↔ K (m.1 35) := by show (11 = 11 ∧ K (m.1 35)) ↔ _; simp
theorem m_p35 {x : Int32} {K : MH → Prop} : pV (hJ cp (hM m)) mo 11 35 (jI x) K ↔ K (hJ cp (hM (mI m 35 x))) := by show (11 = 11 ∧ K (hset (hJ cp (hM m)) (40, 0, 0) (.inl (11, (mFs m.1).set 35 (jI x))))) ↔ _; rw [hJ_setM (by decide), hM_setI rfl]; simp
theorem m_g36 {K : Option Nm → Prop} : gR (hJ cp (hM m)) mo 11 36 K ↔ K (some (41, 36, 0)) := by show (11 = 11 ∧ K (some (41, 36, 0))) ↔ _; simp
theorem m_a36 {i : Int32} {K : Int32 → Prop} : aI .int (hJ cp (hM m)) (some (41, 36, 0)) i K ↔ inb (m.2.1 36) i ∧ K (rdI (m.2.1 36) i) := aI_arr rfl
theorem m_s36 {i x : Int32} {K : MH → Prop} : sV .int (hJ cp (hM m)) (some (41, 36, 0)) i (jI x) K ↔ inb (m.2.1 36) i ∧ K (hJ cp (hM (mA m 36 ((m.2.1 36).set i.toNatClampNeg x)))) := sI_arr rfl (by rw [hJ_setM (by decide), hM_setA rfl (by decide)])
theorem m_g37 {K : Option Nm → Prop} : gR (hJ cp (hM m)) mo 11 37 K ↔ K (some (41, 37, 0)) := by show (11 = 11 ∧ K (some (41, 37, 0))) ↔ _; simp
theorem m_a37 {i : Int32} {K : Int32 → Prop} : aI .int (hJ cp (hM m)) (some (41, 37, 0)) i K ↔ inb (m.2.1 37) i ∧ K (rdI (m.2.1 37) i) := aI_arr rfl
theorem m_s37 {i x : Int32} {K : MH → Prop} : sV .int (hJ cp (hM m)) (some (41, 37, 0)) i (jI x) K ↔ inb (m.2.1 37) i ∧ K (hJ cp (hM (mA m 37 ((m.2.1 37).set i.toNatClampNeg x)))) := sI_arr rfl (by rw [hJ_setM (by decide), hM_setA rfl (by decide)])
theorem m_g38 {K : Option Nm → Prop} : gR (hJ cp (hM m)) mo 11 38 K ↔ K (some (41, 38, 0)) := by show (11 = 11 ∧ K (some (41, 38, 0))) ↔ _; simp
theorem m_a38 {i : Int32} {K : Int32 → Prop} : aI .int (hJ cp (hM m)) (some (41, 38, 0)) i K ↔ inb (m.2.1 38) i ∧ K (rdI (m.2.1 38) i) := aI_arr rfl
theorem m_s38 {i x : Int32} {K : MH → Prop} : sV .int (hJ cp (hM m)) (some (41, 38, 0)) i (jI x) K ↔ inb (m.2.1 38) i ∧ K (hJ cp (hM (mA m 38 ((m.2.1 38).set i.toNatClampNeg x)))) := sI_arr rfl (by rw [hJ_setM (by decide), hM_setA rfl (by decide)])
theorem m_g39 {K : Option Nm → Prop} : gR (hJ cp (hM m)) mo 11 39 K ↔ K (some (41, 39, 0)) := by show (11 = 11 ∧ K (some (41, 39, 0))) ↔ _; simp
theorem m_a39 {i : Int32} {K : Int32 → Prop} : aI .int (hJ cp (hM m)) (some (41, 39, 0)) i K ↔ inb (m.2.1 39) i ∧ K (rdI (m.2.1 39) i) := aI_arr rfl
theorem m_s39 {i x : Int32} {K : MH → Prop} : sV .int (hJ cp (hM m)) (some (41, 39, 0)) i (jI x) K ↔ inb (m.2.1 39) i ∧ K (hJ cp (hM (mA m 39 ((m.2.1 39).set i.toNatClampNeg x)))) := sI_arr rfl (by rw [hJ_setM (by decide), hM_setA rfl (by decide)])
theorem m_g40 {K : Option Nm → Prop} : gR (hJ cp (hM m)) mo 11 40 K ↔ K (some (41, 40, 0)) := by show (11 = 11 ∧ K (some (41, 40, 0))) ↔ _; simp
theorem m_a40 {i : Int32} {K : Int32 → Prop} : aI .int (hJ cp (hM m)) (some (41, 40, 0)) i K ↔ inb (m.2.1 40) i ∧ K (rdI (m.2.1 40) i) := aI_arr rfl
theorem m_s40 {i x : Int32} {K : MH → Prop} : sV .int (hJ cp (hM m)) (some (41, 40, 0)) i (jI x) K ↔ inb (m.2.1 40) i ∧ K (hJ cp (hM (mA m 40 ((m.2.1 40).set i.toNatClampNeg x)))) := sI_arr rfl (by rw [hJ_setM (by decide), hM_setA rfl (by decide)])
theorem m_g41 {K : Option Nm → Prop} : gR (hJ cp (hM m)) mo 11 41 K ↔ K (some (41, 41, 0)) := by show (11 = 11 ∧ K (some (41, 41, 0))) ↔ _; simp
theorem m_a41 {i : Int32} {K : Int32 → Prop} : aI .int (hJ cp (hM m)) (some (41, 41, 0)) i K ↔ inb (m.2.1 41) i ∧ K (rdI (m.2.1 41) i) := aI_arr rfl
theorem m_s41 {i x : Int32} {K : MH → Prop} : sV .int (hJ cp (hM m)) (some (41, 41, 0)) i (jI x) K ↔ inb (m.2.1 41) i ∧ K (hJ cp (hM (mA m 41 ((m.2.1 41).set i.toNatClampNeg x)))) := sI_arr rfl (by rw [hJ_setM (by decide), hM_setA rfl (by decide)])
theorem m_g42 {K : Option Nm → Prop} : gR (hJ cp (hM m)) mo 11 42 K ↔ K (some (41, 42, 0)) := by show (11 = 11 ∧ K (some (41, 42, 0))) ↔ _; simp
theorem m_a42 {i : Int32} {K : Int32 → Prop} : aI .byte (hJ cp (hM m)) (some (41, 42, 0)) i K ↔ inb (m.2.1 42) i ∧ K (rdI (m.2.1 42) i) := aI_arr rfl
theorem m_s42 {i x : Int32} {K : MH → Prop} : sV .byte (hJ cp (hM m)) (some (41, 42, 0)) i (jI x) K ↔ inb (m.2.1 42) i ∧ K (hJ cp (hM (mA m 42 ((m.2.1 42).set i.toNatClampNeg x)))) := sI_arr rfl (by rw [hJ_setM (by decide), hM_setA rfl (by decide)])
theorem m_g43 {K : Int32 → Prop} : gI (hJ cp (hM m)) mo 11 43 K ↔ K (m.1 43) := by show (11 = 11 ∧ K (m.1 43)) ↔ _; simp
theorem m_p43 {x : Int32} {K : MH → Prop} : pV (hJ cp (hM m)) mo 11 43 (jI x) K ↔ K (hJ cp (hM (mI m 43 x))) := by show (11 = 11 ∧ K (hset (hJ cp (hM m)) (40, 0, 0) (.inl (11, (mFs m.1).set 43 (jI x))))) ↔ _; rw [hJ_setM (by decide), hM_setI rfl]; simp
theorem m_g44 {K : Option Nm → Prop} : gR (hJ cp (hM m)) mo 11 44 K ↔ K (some (41, 44, 0)) := by show (11 = 11 ∧ K (some (41, 44, 0))) ↔ _; simp
theorem m_a44 {i : Int32} {K : Int32 → Prop} : aI .byte (hJ cp (hM m)) (some (41, 44, 0)) i K ↔ inb (m.2.1 44) i ∧ K (rdI (m.2.1 44) i) := aI_arr rfl
theorem m_s44 {i x : Int32} {K : MH → Prop} : sV .byte (hJ cp (hM m)) (some (41, 44, 0)) i (jI x) K ↔ inb (m.2.1 44) i ∧ K (hJ cp (hM (mA m 44 ((m.2.1 44).set i.toNatClampNeg x)))) := sI_arr rfl (by rw [hJ_setM (by decide), hM_setA rfl (by decide)])
theorem m_g45 {K : Int32 → Prop} : gI (hJ cp (hM m)) mo 11 45 K ↔ K (m.1 45) := by show (11 = 11 ∧ K (m.1 45)) ↔ _; simp
theorem m_p45 {x : Int32} {K : MH → Prop} : pV (hJ cp (hM m)) mo 11 45 (jI x) K ↔ K (hJ cp (hM (mI m 45 x))) := by show (11 = 11 ∧ K (hset (hJ cp (hM m)) (40, 0, 0) (.inl (11, (mFs m.1).set 45 (jI x))))) ↔ _; rw [hJ_setM (by decide), hM_setI rfl]; simp
end ModelRW
