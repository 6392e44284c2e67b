/-! the class's part -/
abbrev RowT : Type := Int32 × Bool × List Int64
abbrev ET : Type := Int32 × Int32 × Int32
abbrev KindT : Type := Bool × Int32 × Bool × Nat × List (List ET)
abbrev ValT : Type := Nat × Nat × Nat × Int32 × Nat × Nat × List Int64
def refs (cap a len : Nat) : List MV := (List.range cap).map (fun i => jR (if i < len then some (a, i, 0) else none))
def refE (j len : Nat) : List MV := (List.range 4).map (fun e => jR (if e < len then some (25, j, e) else none))
def oRow (j : Nat) (r : RowT) : MC := .inl (4, [jI (nI j), jI r.1, jR (some (22, j, 0)), jI (b2i r.2.1)])
def oCells (r : RowT) : MC := .inr (.long, r.2.2.map jL)
def oKind (j : Nat) (k : KindT) : MC := .inl (3, [jI (nI j), jI (b2i k.1), jI k.2.1, jR (some (24, j, 0)), jI (nI k.2.2.2.2.length), jI (b2i k.2.2.1), jI (nI k.2.2.2.1)])
def oEds (j : Nat) (k : KindT) : MC := .inr (.object "RecordBridge$Edition", refE j k.2.2.2.2.length)
def oEd (j e : Nat) (t : List ET) : MC := .inl (2, [jI (nI e), jR (some (26, j, e)), jR (some (27, j, e)), jR (some (28, j, e)), jI (nI t.length)])
def eL (t : List ET) (tl : List Int32) : List Int32 := t.map (fun x => x.1) ++ tl
def eN (t : List ET) (tl : List Int32) : List Int32 := t.map (fun x => x.2.1) ++ tl
def eM (t : List ET) (tl : List Int32) : List Int32 := t.map (fun x => x.2.2) ++ tl
def oVal (j : Nat) (v : ValT) : MC := .inl (9, [jI (nI j), jR (some (23, v.1, 0)), jR (some (25, v.1, v.2.1)), jI (nI v.2.2.1), jI v.2.2.2.1, jR (some (30, j, 0)), jI (nI v.2.2.2.2.1), jI (nI v.2.2.2.2.2.1)])
def oPs (v : ValT) : MC := .inr (.long, v.2.2.2.2.2.2.map jL)
def hC (rs : List RowT) (ks : List KindT) (vs : List ValT) (tl : Nat → Nat → Nat → List Int32) (sc : Nat → Int32) (wI : Nat → List Int32) (wL : Nat → List Int64) : MH := fun n => match n with
  | (1, 0, 0) => some (.inl (10, [jR (some (2, 0, 0)), jR (some (5, 0, 0)), jR (some (8, 0, 0)), jR (some (10, 0, 0)), jR (some (11, 0, 0)), jR (some (18, 0, 0)), jR (some (19, 0, 0)), jR (some (20, 0, 0)), jI (nI ks.length), jI (sc 0), jI (sc 1), jI (sc 2), jI (sc 3), jI (sc 4)]))
  | (2, 0, 0) => some (.inl (6, [jR (some (3, 0, 0)), jR (some (4, 0, 0)), jI (nI rs.length), jI (nI vs.length)]))
  | (3, 0, 0) => some (.inr (.object "RecordBridge$Row", refs 60 21 rs.length))
  | (4, 0, 0) => some (.inr (.object "RecordBridge$Value", refs 200 29 vs.length))
  | (5, 0, 0) => some (.inl (8, [jR (some (6, 0, 0)), jR (some (7, 0, 0))]))
  | (6, 0, 0) => some (.inr (.int, (wI 2).map jI))
  | (7, 0, 0) => some (.inr (.long, (wL 0).map jL))
  | (8, 0, 0) => some (.inl (1, [jR (some (2, 0, 0)), jR (some (9, 0, 0)), jI (sc 5), jI (sc 6)]))
  | (9, 0, 0) => some (.inr (.long, (wL 1).map jL))
  | (10, 0, 0) => some (.inl (0, [jR (some (2, 0, 0))]))
  | (11, 0, 0) => some (.inl (5, [jR (some (2, 0, 0)), jR (some (if sc 7 = 0 then (12, 0, 0) else (15, 0, 0))), jR (some (if sc 7 = 0 then (15, 0, 0) else (12, 0, 0)))]))
  | (12, 0, 0) => some (.inl (7, [jR (some (13, 0, 0)), jR (some (14, 0, 0)), jI (sc 8), jI (sc 9)]))
  | (13, 0, 0) => some (.inr (.byte, (wI 3).map jI))
  | (14, 0, 0) => some (.inr (.char, (wI 4).map jI))
  | (15, 0, 0) => some (.inl (7, [jR (some (16, 0, 0)), jR (some (17, 0, 0)), jI (sc 10), jI (sc 11)]))
  | (16, 0, 0) => some (.inr (.byte, (wI 5).map jI))
  | (17, 0, 0) => some (.inr (.char, (wI 6).map jI))
  | (18, 0, 0) => some (.inr (.object "RecordBridge$Kind", refs 16 23 ks.length))
  | (19, 0, 0) => some (.inr (.int, (wI 0).map jI))
  | (20, 0, 0) => some (.inr (.boolean, (wI 1).map jI))
  | (21, j, 0) => (rs[j]?).map (oRow j)
  | (22, j, 0) => (rs[j]?).map oCells
  | (23, j, 0) => (ks[j]?).map (oKind j)
  | (24, j, 0) => (ks[j]?).map (oEds j)
  | (25, j, e) => (ks[j]?).bind (fun k => (k.2.2.2.2[e]?).map (oEd j e))
  | (26, j, e) => (ks[j]?).bind (fun k => (k.2.2.2.2[e]?).map (fun t => .inr (.int, (eL t (tl j e 0)).map jI)))
  | (27, j, e) => (ks[j]?).bind (fun k => (k.2.2.2.2[e]?).map (fun t => .inr (.int, (eN t (tl j e 1)).map jI)))
  | (28, j, e) => (ks[j]?).bind (fun k => (k.2.2.2.2[e]?).map (fun t => .inr (.int, (eM t (tl j e 2)).map jI)))
  | (29, j, 0) => (vs[j]?).map (oVal j)
  | (30, j, 0) => (vs[j]?).map oPs
  | _ => none
def wr {α : Type} (o : Option α) (K : α → Prop) : Prop := match o with
  | some x => K x
  | none => False
theorem wr_some {α : Type} {x : α} {K : α → Prop} : wr (some x) K ↔ K x := Iff.rfl
abbrev br : Option Nm := some (1, 0, 0)
abbrev sto : Option Nm := some (2, 0, 0)
section ClsR
variable {rs : List RowT} {ks : List KindT} {vs : List ValT} {tl : Nat → Nat → Nat → List Int32} {sc : Nat → Int32} {wI : Nat → List Int32} {wL : Nat → List Int64} {mp : MH}
theorem c_rc1 : rc (hJ (hC rs ks vs tl sc wI wL) mp) (some (1, 0, 0)) 10 ↔ True := ⟨fun _ => trivial, fun _ => rfl⟩
theorem c_g1_0 {K : Option Nm → Prop} : gR (hJ (hC rs ks vs tl sc wI wL) mp) (some (1, 0, 0)) 10 0 K ↔ K (some ((2, 0, 0))) := by show (10 = 10 ∧ K (some ((2, 0, 0)))) ↔ _; simp
theorem c_g1_1 {K : Option Nm → Prop} : gR (hJ (hC rs ks vs tl sc wI wL) mp) (some (1, 0, 0)) 10 1 K ↔ K (some ((5, 0, 0))) := by show (10 = 10 ∧ K (some ((5, 0, 0)))) ↔ _; simp
theorem c_g1_2 {K : Option Nm → Prop} : gR (hJ (hC rs ks vs tl sc wI wL) mp) (some (1, 0, 0)) 10 2 K ↔ K (some ((8, 0, 0))) := by show (10 = 10 ∧ K (some ((8, 0, 0)))) ↔ _; simp
theorem c_g1_3 {K : Option Nm → Prop} : gR (hJ (hC rs ks vs tl sc wI wL) mp) (some (1, 0, 0)) 10 3 K ↔ K (some ((10, 0, 0))) := by show (10 = 10 ∧ K (some ((10, 0, 0)))) ↔ _; simp
theorem c_g1_4 {K : Option Nm → Prop} : gR (hJ (hC rs ks vs tl sc wI wL) mp) (some (1, 0, 0)) 10 4 K ↔ K (some ((11, 0, 0))) := by show (10 = 10 ∧ K (some ((11, 0, 0)))) ↔ _; simp
theorem c_g1_5 {K : Option Nm → Prop} : gR (hJ (hC rs ks vs tl sc wI wL) mp) (some (1, 0, 0)) 10 5 K ↔ K (some ((18, 0, 0))) := by show (10 = 10 ∧ K (some ((18, 0, 0)))) ↔ _; simp
theorem c_g1_6 {K : Option Nm → Prop} : gR (hJ (hC rs ks vs tl sc wI wL) mp) (some (1, 0, 0)) 10 6 K ↔ K (some ((19, 0, 0))) := by show (10 = 10 ∧ K (some ((19, 0, 0)))) ↔ _; simp
theorem c_g1_7 {K : Option Nm → Prop} : gR (hJ (hC rs ks vs tl sc wI wL) mp) (some (1, 0, 0)) 10 7 K ↔ K (some ((20, 0, 0))) := by show (10 = 10 ∧ K (some ((20, 0, 0)))) ↔ _; simp
theorem c_g1_8 {K : Int32 → Prop} : gI (hJ (hC rs ks vs tl sc wI wL) mp) (some (1, 0, 0)) 10 8 K ↔ K (nI ks.length) := by show (10 = 10 ∧ K (nI ks.length)) ↔ _; simp
theorem c_g1_9 {K : Int32 → Prop} : gI (hJ (hC rs ks vs tl sc wI wL) mp) (some (1, 0, 0)) 10 9 K ↔ K (sc 0) := by show (10 = 10 ∧ K (sc 0)) ↔ _; simp
theorem c_g1_10 {K : Int32 → Prop} : gI (hJ (hC rs ks vs tl sc wI wL) mp) (some (1, 0, 0)) 10 10 K ↔ K (sc 1) := by show (10 = 10 ∧ K (sc 1)) ↔ _; simp
theorem c_g1_11 {K : Int32 → Prop} : gI (hJ (hC rs ks vs tl sc wI wL) mp) (some (1, 0, 0)) 10 11 K ↔ K (sc 2) := by show (10 = 10 ∧ K (sc 2)) ↔ _; simp
theorem c_g1_12 {K : Int32 → Prop} : gI (hJ (hC rs ks vs tl sc wI wL) mp) (some (1, 0, 0)) 10 12 K ↔ K (sc 3) := by show (10 = 10 ∧ K (sc 3)) ↔ _; simp
theorem c_g1_13 {K : Int32 → Prop} : gI (hJ (hC rs ks vs tl sc wI wL) mp) (some (1, 0, 0)) 10 13 K ↔ K (sc 4) := by show (10 = 10 ∧ K (sc 4)) ↔ _; simp
theorem c_rc2 : rc (hJ (hC rs ks vs tl sc wI wL) mp) (some (2, 0, 0)) 6 ↔ True := ⟨fun _ => trivial, fun _ => rfl⟩
theorem c_g2_0 {K : Option Nm → Prop} : gR (hJ (hC rs ks vs tl sc wI wL) mp) (some (2, 0, 0)) 6 0 K ↔ K (some ((3, 0, 0))) := by show (6 = 6 ∧ K (some ((3, 0, 0)))) ↔ _; simp
theorem c_g2_1 {K : Option Nm → Prop} : gR (hJ (hC rs ks vs tl sc wI wL) mp) (some (2, 0, 0)) 6 1 K ↔ K (some ((4, 0, 0))) := by show (6 = 6 ∧ K (some ((4, 0, 0)))) ↔ _; simp
theorem c_g2_2 {K : Int32 → Prop} : gI (hJ (hC rs ks vs tl sc wI wL) mp) (some (2, 0, 0)) 6 2 K ↔ K (nI rs.length) := by show (6 = 6 ∧ K (nI rs.length)) ↔ _; simp
theorem c_g2_3 {K : Int32 → Prop} : gI (hJ (hC rs ks vs tl sc wI wL) mp) (some (2, 0, 0)) 6 3 K ↔ K (nI vs.length) := by show (6 = 6 ∧ K (nI vs.length)) ↔ _; simp
theorem c_rc5 : rc (hJ (hC rs ks vs tl sc wI wL) mp) (some (5, 0, 0)) 8 ↔ True := ⟨fun _ => trivial, fun _ => rfl⟩
theorem c_g5_0 {K : Option Nm → Prop} : gR (hJ (hC rs ks vs tl sc wI wL) mp) (some (5, 0, 0)) 8 0 K ↔ K (some ((6, 0, 0))) := by show (8 = 8 ∧ K (some ((6, 0, 0)))) ↔ _; simp
theorem c_g5_1 {K : Option Nm → Prop} : gR (hJ (hC rs ks vs tl sc wI wL) mp) (some (5, 0, 0)) 8 1 K ↔ K (some ((7, 0, 0))) := by show (8 = 8 ∧ K (some ((7, 0, 0)))) ↔ _; simp
theorem c_rc8 : rc (hJ (hC rs ks vs tl sc wI wL) mp) (some (8, 0, 0)) 1 ↔ True := ⟨fun _ => trivial, fun _ => rfl⟩
theorem c_g8_0 {K : Option Nm → Prop} : gR (hJ (hC rs ks vs tl sc wI wL) mp) (some (8, 0, 0)) 1 0 K ↔ K (some ((2, 0, 0))) := by show (1 = 1 ∧ K (some ((2, 0, 0)))) ↔ _; simp
theorem c_g8_1 {K : Option Nm → Prop} : gR (hJ (hC rs ks vs tl sc wI wL) mp) (some (8, 0, 0)) 1 1 K ↔ K (some ((9, 0, 0))) := by show (1 = 1 ∧ K (some ((9, 0, 0)))) ↔ _; simp
theorem c_g8_2 {K : Int32 → Prop} : gI (hJ (hC rs ks vs tl sc wI wL) mp) (some (8, 0, 0)) 1 2 K ↔ K (sc 5) := by show (1 = 1 ∧ K (sc 5)) ↔ _; simp
theorem c_g8_3 {K : Int32 → Prop} : gI (hJ (hC rs ks vs tl sc wI wL) mp) (some (8, 0, 0)) 1 3 K ↔ K (sc 6) := by show (1 = 1 ∧ K (sc 6)) ↔ _; simp
theorem c_rc10 : rc (hJ (hC rs ks vs tl sc wI wL) mp) (some (10, 0, 0)) 0 ↔ True := ⟨fun _ => trivial, fun _ => rfl⟩
theorem c_g10_0 {K : Option Nm → Prop} : gR (hJ (hC rs ks vs tl sc wI wL) mp) (some (10, 0, 0)) 0 0 K ↔ K (some ((2, 0, 0))) := by show (0 = 0 ∧ K (some ((2, 0, 0)))) ↔ _; simp
theorem c_rc11 : rc (hJ (hC rs ks vs tl sc wI wL) mp) (some (11, 0, 0)) 5 ↔ True := ⟨fun _ => trivial, fun _ => rfl⟩
theorem c_g11_0 {K : Option Nm → Prop} : gR (hJ (hC rs ks vs tl sc wI wL) mp) (some (11, 0, 0)) 5 0 K ↔ K (some ((2, 0, 0))) := by show (5 = 5 ∧ K (some ((2, 0, 0)))) ↔ _; simp
theorem c_g11_1 {K : Option Nm → Prop} : gR (hJ (hC rs ks vs tl sc wI wL) mp) (some (11, 0, 0)) 5 1 K ↔ K (some (if sc 7 = 0 then (12, 0, 0) else (15, 0, 0))) := by show (5 = 5 ∧ K (some (if sc 7 = 0 then (12, 0, 0) else (15, 0, 0)))) ↔ _; simp
theorem c_g11_2 {K : Option Nm → Prop} : gR (hJ (hC rs ks vs tl sc wI wL) mp) (some (11, 0, 0)) 5 2 K ↔ K (some (if sc 7 = 0 then (15, 0, 0) else (12, 0, 0))) := by show (5 = 5 ∧ K (some (if sc 7 = 0 then (15, 0, 0) else (12, 0, 0)))) ↔ _; simp
theorem c_rc12 : rc (hJ (hC rs ks vs tl sc wI wL) mp) (some (12, 0, 0)) 7 ↔ True := ⟨fun _ => trivial, fun _ => rfl⟩
theorem c_g12_0 {K : Option Nm → Prop} : gR (hJ (hC rs ks vs tl sc wI wL) mp) (some (12, 0, 0)) 7 0 K ↔ K (some ((13, 0, 0))) := by show (7 = 7 ∧ K (some ((13, 0, 0)))) ↔ _; simp
theorem c_g12_1 {K : Option Nm → Prop} : gR (hJ (hC rs ks vs tl sc wI wL) mp) (some (12, 0, 0)) 7 1 K ↔ K (some ((14, 0, 0))) := by show (7 = 7 ∧ K (some ((14, 0, 0)))) ↔ _; simp
theorem c_g12_2 {K : Int32 → Prop} : gI (hJ (hC rs ks vs tl sc wI wL) mp) (some (12, 0, 0)) 7 2 K ↔ K (sc 8) := by show (7 = 7 ∧ K (sc 8)) ↔ _; simp
theorem c_g12_3 {K : Int32 → Prop} : gI (hJ (hC rs ks vs tl sc wI wL) mp) (some (12, 0, 0)) 7 3 K ↔ K (sc 9) := by show (7 = 7 ∧ K (sc 9)) ↔ _; simp
theorem c_rc15 : rc (hJ (hC rs ks vs tl sc wI wL) mp) (some (15, 0, 0)) 7 ↔ True := ⟨fun _ => trivial, fun _ => rfl⟩
theorem c_g15_0 {K : Option Nm → Prop} : gR (hJ (hC rs ks vs tl sc wI wL) mp) (some (15, 0, 0)) 7 0 K ↔ K (some ((16, 0, 0))) := by show (7 = 7 ∧ K (some ((16, 0, 0)))) ↔ _; simp
theorem c_g15_1 {K : Option Nm → Prop} : gR (hJ (hC rs ks vs tl sc wI wL) mp) (some (15, 0, 0)) 7 1 K ↔ K (some ((17, 0, 0))) := by show (7 = 7 ∧ K (some ((17, 0, 0)))) ↔ _; simp
theorem c_g15_2 {K : Int32 → Prop} : gI (hJ (hC rs ks vs tl sc wI wL) mp) (some (15, 0, 0)) 7 2 K ↔ K (sc 10) := by show (7 = 7 ∧ K (sc 10)) ↔ _; simp
theorem c_g15_3 {K : Int32 → Prop} : gI (hJ (hC rs ks vs tl sc wI wL) mp) (some (15, 0, 0)) 7 3 K ↔ K (sc 11) := by show (7 = 7 ∧ K (sc 11)) ↔ _; simp
theorem c_a6 {i : Int32} {K : Int32 → Prop} : aI .int (hJ (hC rs ks vs tl sc wI wL) mp) (some (6, 0, 0)) i K ↔ inb (wI 2) i ∧ K (rdI (wI 2) i) := aI_arr rfl
theorem c_a13 {i : Int32} {K : Int32 → Prop} : aI .byte (hJ (hC rs ks vs tl sc wI wL) mp) (some (13, 0, 0)) i K ↔ inb (wI 3) i ∧ K (rdI (wI 3) i) := aI_arr rfl
theorem c_a14 {i : Int32} {K : Int32 → Prop} : aI .char (hJ (hC rs ks vs tl sc wI wL) mp) (some (14, 0, 0)) i K ↔ inb (wI 4) i ∧ K (rdI (wI 4) i) := aI_arr rfl
theorem c_a16 {i : Int32} {K : Int32 → Prop} : aI .byte (hJ (hC rs ks vs tl sc wI wL) mp) (some (16, 0, 0)) i K ↔ inb (wI 5) i ∧ K (rdI (wI 5) i) := aI_arr rfl
theorem c_a17 {i : Int32} {K : Int32 → Prop} : aI .char (hJ (hC rs ks vs tl sc wI wL) mp) (some (17, 0, 0)) i K ↔ inb (wI 6) i ∧ K (rdI (wI 6) i) := aI_arr rfl
theorem c_a19 {i : Int32} {K : Int32 → Prop} : aI .int (hJ (hC rs ks vs tl sc wI wL) mp) (some (19, 0, 0)) i K ↔ inb (wI 0) i ∧ K (rdI (wI 0) i) := aI_arr rfl
theorem c_a20 {i : Int32} {K : Int32 → Prop} : aI .boolean (hJ (hC rs ks vs tl sc wI wL) mp) (some (20, 0, 0)) i K ↔ inb (wI 1) i ∧ K (rdI (wI 1) i) := aI_arr rfl
theorem c_a7 {i : Int32} {K : Int64 → Prop} : aL (hJ (hC rs ks vs tl sc wI wL) mp) (some (7, 0, 0)) i K ↔ inb (wL 0) i ∧ K (rdL (wL 0) i) := aL_arr rfl
theorem c_a9 {i : Int32} {K : Int64 → Prop} : aL (hJ (hC rs ks vs tl sc wI wL) mp) (some (9, 0, 0)) i K ↔ inb (wL 1) i ∧ K (rdL (wL 1) i) := aL_arr rfl
theorem c_rc21 {j : Nat} : rc (hJ (hC rs ks vs tl sc wI wL) mp) (some (21, j, 0)) 4 ↔ wr (rs[j]?) (fun r => True) := by
  unfold rc hJ hC
  simp only [Nat.blt, Nat.ble, cond_true]
  cases h9 : rs[j]? <;> simp [wr, oRow, oKind, oEd, oVal]
theorem c_g21_0 {j : Nat} {K : Int32 → Prop} : gI (hJ (hC rs ks vs tl sc wI wL) mp) (some (21, j, 0)) 4 0 K ↔ wr (rs[j]?) (fun r => K (nI j)) := by
  unfold gI hJ hC
  simp only [Nat.blt, Nat.ble, cond_true]
  cases h9 : rs[j]? <;> simp [wr, oRow, oKind, oEd, oVal]
theorem c_g21_1 {j : Nat} {K : Int32 → Prop} : gI (hJ (hC rs ks vs tl sc wI wL) mp) (some (21, j, 0)) 4 1 K ↔ wr (rs[j]?) (fun r => K (r.1)) := by
  unfold gI hJ hC
  simp only [Nat.blt, Nat.ble, cond_true]
  cases h9 : rs[j]? <;> simp [wr, oRow, oKind, oEd, oVal]
theorem c_g21_2 {j : Nat} {K : Option Nm → Prop} : gR (hJ (hC rs ks vs tl sc wI wL) mp) (some (21, j, 0)) 4 2 K ↔ wr (rs[j]?) (fun r => K (some ((22, j, 0)))) := by
  unfold gR hJ hC
  simp only [Nat.blt, Nat.ble, cond_true]
  cases h9 : rs[j]? <;> simp [wr, oRow, oKind, oEd, oVal]
theorem c_g21_3 {j : Nat} {K : Int32 → Prop} : gI (hJ (hC rs ks vs tl sc wI wL) mp) (some (21, j, 0)) 4 3 K ↔ wr (rs[j]?) (fun r => K (b2i r.2.1)) := by
  unfold gI hJ hC
  simp only [Nat.blt, Nat.ble, cond_true]
  cases h9 : rs[j]? <;> simp [wr, oRow, oKind, oEd, oVal]
theorem c_rc23 {j : Nat} : rc (hJ (hC rs ks vs tl sc wI wL) mp) (some (23, j, 0)) 3 ↔ wr (ks[j]?) (fun k => True) := by
  unfold rc hJ hC
  simp only [Nat.blt, Nat.ble, cond_true]
  cases h9 : ks[j]? <;> simp [wr, oRow, oKind, oEd, oVal]
theorem c_g23_0 {j : Nat} {K : Int32 → Prop} : gI (hJ (hC rs ks vs tl sc wI wL) mp) (some (23, j, 0)) 3 0 K ↔ wr (ks[j]?) (fun k => K (nI j)) := by
  unfold gI hJ hC
  simp only [Nat.blt, Nat.ble, cond_true]
  cases h9 : ks[j]? <;> simp [wr, oRow, oKind, oEd, oVal]
theorem c_g23_1 {j : Nat} {K : Int32 → Prop} : gI (hJ (hC rs ks vs tl sc wI wL) mp) (some (23, j, 0)) 3 1 K ↔ wr (ks[j]?) (fun k => K (b2i k.1)) := by
  unfold gI hJ hC
  simp only [Nat.blt, Nat.ble, cond_true]
  cases h9 : ks[j]? <;> simp [wr, oRow, oKind, oEd, oVal]
theorem c_g23_2 {j : Nat} {K : Int32 → Prop} : gI (hJ (hC rs ks vs tl sc wI wL) mp) (some (23, j, 0)) 3 2 K ↔ wr (ks[j]?) (fun k => K (k.2.1)) := by
  unfold gI hJ hC
  simp only [Nat.blt, Nat.ble, cond_true]
  cases h9 : ks[j]? <;> simp [wr, oRow, oKind, oEd, oVal]
theorem c_g23_3 {j : Nat} {K : Option Nm → Prop} : gR (hJ (hC rs ks vs tl sc wI wL) mp) (some (23, j, 0)) 3 3 K ↔ wr (ks[j]?) (fun k => K (some ((24, j, 0)))) := by
  unfold gR hJ hC
  simp only [Nat.blt, Nat.ble, cond_true]
  cases h9 : ks[j]? <;> simp [wr, oRow, oKind, oEd, oVal]
theorem c_g23_4 {j : Nat} {K : Int32 → Prop} : gI (hJ (hC rs ks vs tl sc wI wL) mp) (some (23, j, 0)) 3 4 K ↔ wr (ks[j]?) (fun k => K (nI k.2.2.2.2.length)) := by
  unfold gI hJ hC
  simp only [Nat.blt, Nat.ble, cond_true]
  cases h9 : ks[j]? <;> simp [wr, oRow, oKind, oEd, oVal]
theorem c_g23_5 {j : Nat} {K : Int32 → Prop} : gI (hJ (hC rs ks vs tl sc wI wL) mp) (some (23, j, 0)) 3 5 K ↔ wr (ks[j]?) (fun k => K (b2i k.2.2.1)) := by
  unfold gI hJ hC
  simp only [Nat.blt, Nat.ble, cond_true]
  cases h9 : ks[j]? <;> simp [wr, oRow, oKind, oEd, oVal]
theorem c_g23_6 {j : Nat} {K : Int32 → Prop} : gI (hJ (hC rs ks vs tl sc wI wL) mp) (some (23, j, 0)) 3 6 K ↔ wr (ks[j]?) (fun k => K (nI k.2.2.2.1)) := by
  unfold gI hJ hC
  simp only [Nat.blt, Nat.ble, cond_true]
  cases h9 : ks[j]? <;> simp [wr, oRow, oKind, oEd, oVal]
theorem c_rc25 {j e : Nat} : rc (hJ (hC rs ks vs tl sc wI wL) mp) (some (25, j, e)) 2 ↔ wr (ks[j]?) (fun k => wr (k.2.2.2.2[e]?) (fun t => True)) := by
  unfold rc hJ hC
  simp only [Nat.blt, Nat.ble, cond_true]
  cases h9 : ks[j]? with
  | none => simp [wr]
  | some k => cases h8 : k.2.2.2.2[e]? <;> simp [wr, h8, oRow, oKind, oEd, oVal]
theorem c_g25_0 {j e : Nat} {K : Int32 → Prop} : gI (hJ (hC rs ks vs tl sc wI wL) mp) (some (25, j, e)) 2 0 K ↔ wr (ks[j]?) (fun k => wr (k.2.2.2.2[e]?) (fun t => K (nI e))) := by
  unfold gI hJ hC
  simp only [Nat.blt, Nat.ble, cond_true]
  cases h9 : ks[j]? with
  | none => simp [wr]
  | some k => cases h8 : k.2.2.2.2[e]? <;> simp [wr, h8, oRow, oKind, oEd, oVal]
theorem c_g25_1 {j e : Nat} {K : Option Nm → Prop} : gR (hJ (hC rs ks vs tl sc wI wL) mp) (some (25, j, e)) 2 1 K ↔ wr (ks[j]?) (fun k => wr (k.2.2.2.2[e]?) (fun t => K (some ((26, j, e))))) := by
  unfold gR hJ hC
  simp only [Nat.blt, Nat.ble, cond_true]
  cases h9 : ks[j]? with
  | none => simp [wr]
  | some k => cases h8 : k.2.2.2.2[e]? <;> simp [wr, h8, oRow, oKind, oEd, oVal]
theorem c_g25_2 {j e : Nat} {K : Option Nm → Prop} : gR (hJ (hC rs ks vs tl sc wI wL) mp) (some (25, j, e)) 2 2 K ↔ wr (ks[j]?) (fun k => wr (k.2.2.2.2[e]?) (fun t => K (some ((27, j, e))))) := by
  unfold gR hJ hC
  simp only [Nat.blt, Nat.ble, cond_true]
  cases h9 : ks[j]? with
  | none => simp [wr]
  | some k => cases h8 : k.2.2.2.2[e]? <;> simp [wr, h8, oRow, oKind, oEd, oVal]
theorem c_g25_3 {j e : Nat} {K : Option Nm → Prop} : gR (hJ (hC rs ks vs tl sc wI wL) mp) (some (25, j, e)) 2 3 K ↔ wr (ks[j]?) (fun k => wr (k.2.2.2.2[e]?) (fun t => K (some ((28, j, e))))) := by
  unfold gR hJ hC
  simp only [Nat.blt, Nat.ble, cond_true]
  cases h9 : ks[j]? with
  | none => simp [wr]
  | some k => cases h8 : k.2.2.2.2[e]? <;> simp [wr, h8, oRow, oKind, oEd, oVal]
theorem c_g25_4 {j e : Nat} {K : Int32 → Prop} : gI (hJ (hC rs ks vs tl sc wI wL) mp) (some (25, j, e)) 2 4 K ↔ wr (ks[j]?) (fun k => wr (k.2.2.2.2[e]?) (fun t => K (nI t.length))) := by
  unfold gI hJ hC
  simp only [Nat.blt, Nat.ble, cond_true]
  cases h9 : ks[j]? with
  | none => simp [wr]
  | some k => cases h8 : k.2.2.2.2[e]? <;> simp [wr, h8, oRow, oKind, oEd, oVal]
theorem c_rc29 {j : Nat} : rc (hJ (hC rs ks vs tl sc wI wL) mp) (some (29, j, 0)) 9 ↔ wr (vs[j]?) (fun v => True) := by
  unfold rc hJ hC
  simp only [Nat.blt, Nat.ble, cond_true]
  cases h9 : vs[j]? <;> simp [wr, oRow, oKind, oEd, oVal]
theorem c_g29_0 {j : Nat} {K : Int32 → Prop} : gI (hJ (hC rs ks vs tl sc wI wL) mp) (some (29, j, 0)) 9 0 K ↔ wr (vs[j]?) (fun v => K (nI j)) := by
  unfold gI hJ hC
  simp only [Nat.blt, Nat.ble, cond_true]
  cases h9 : vs[j]? <;> simp [wr, oRow, oKind, oEd, oVal]
theorem c_g29_1 {j : Nat} {K : Option Nm → Prop} : gR (hJ (hC rs ks vs tl sc wI wL) mp) (some (29, j, 0)) 9 1 K ↔ wr (vs[j]?) (fun v => K (some ((23, v.1, 0)))) := by
  unfold gR hJ hC
  simp only [Nat.blt, Nat.ble, cond_true]
  cases h9 : vs[j]? <;> simp [wr, oRow, oKind, oEd, oVal]
theorem c_g29_2 {j : Nat} {K : Option Nm → Prop} : gR (hJ (hC rs ks vs tl sc wI wL) mp) (some (29, j, 0)) 9 2 K ↔ wr (vs[j]?) (fun v => K (some ((25, v.1, v.2.1)))) := by
  unfold gR hJ hC
  simp only [Nat.blt, Nat.ble, cond_true]
  cases h9 : vs[j]? <;> simp [wr, oRow, oKind, oEd, oVal]
theorem c_g29_3 {j : Nat} {K : Int32 → Prop} : gI (hJ (hC rs ks vs tl sc wI wL) mp) (some (29, j, 0)) 9 3 K ↔ wr (vs[j]?) (fun v => K (nI v.2.2.1)) := by
  unfold gI hJ hC
  simp only [Nat.blt, Nat.ble, cond_true]
  cases h9 : vs[j]? <;> simp [wr, oRow, oKind, oEd, oVal]
theorem c_g29_4 {j : Nat} {K : Int32 → Prop} : gI (hJ (hC rs ks vs tl sc wI wL) mp) (some (29, j, 0)) 9 4 K ↔ wr (vs[j]?) (fun v => K (v.2.2.2.1)) := by
  unfold gI hJ hC
  simp only [Nat.blt, Nat.ble, cond_true]
  cases h9 : vs[j]? <;> simp [wr, oRow, oKind, oEd, oVal]
theorem c_g29_5 {j : Nat} {K : Option Nm → Prop} : gR (hJ (hC rs ks vs tl sc wI wL) mp) (some (29, j, 0)) 9 5 K ↔ wr (vs[j]?) (fun v => K (some ((30, j, 0)))) := by
  unfold gR hJ hC
  simp only [Nat.blt, Nat.ble, cond_true]
  cases h9 : vs[j]? <;> simp [wr, oRow, oKind, oEd, oVal]
theorem c_g29_6 {j : Nat} {K : Int32 → Prop} : gI (hJ (hC rs ks vs tl sc wI wL) mp) (some (29, j, 0)) 9 6 K ↔ wr (vs[j]?) (fun v => K (nI v.2.2.2.2.1)) := by
  unfold gI hJ hC
  simp only [Nat.blt, Nat.ble, cond_true]
  cases h9 : vs[j]? <;> simp [wr, oRow, oKind, oEd, oVal]
theorem c_g29_7 {j : Nat} {K : Int32 → Prop} : gI (hJ (hC rs ks vs tl sc wI wL) mp) (some (29, j, 0)) 9 7 K ↔ wr (vs[j]?) (fun v => K (nI v.2.2.2.2.2.1)) := by
  unfold gI hJ hC
  simp only [Nat.blt, Nat.ble, cond_true]
  cases h9 : vs[j]? <;> simp [wr, oRow, oKind, oEd, oVal]
theorem c_a22 {j : Nat} {i : Int32} {K : Int64 → Prop} : aL (hJ (hC rs ks vs tl sc wI wL) mp) (some (22, j, 0)) i K ↔ wr (rs[j]?) (fun r => inb r.2.2 i ∧ K (rdL r.2.2 i)) := by
  cases h9 : rs[j]? with
  | none => simp [wr, aL, hJ, hC, h9, Nat.blt, Nat.ble]
  | some r => exact aL_arr (by simp [hJ, hC, h9, oCells, Nat.blt, Nat.ble])
theorem c_n22 {j : Nat} {K : Int32 → Prop} : aN (hJ (hC rs ks vs tl sc wI wL) mp) (some (22, j, 0)) K ↔ wr (rs[j]?) (fun r => K (nI r.2.2.length)) := by
  cases h9 : rs[j]? with
  | none => simp [wr, aN, hJ, hC, h9, Nat.blt, Nat.ble]
  | some r => simp [wr, aN, hJ, hC, h9, oCells, Nat.blt, Nat.ble, nI]
theorem c_a30 {j : Nat} {i : Int32} {K : Int64 → Prop} : aL (hJ (hC rs ks vs tl sc wI wL) mp) (some (30, j, 0)) i K ↔ wr (vs[j]?) (fun v => inb v.2.2.2.2.2.2 i ∧ K (rdL v.2.2.2.2.2.2 i)) := by
  cases h9 : vs[j]? with
  | none => simp [wr, aL, hJ, hC, h9, Nat.blt, Nat.ble]
  | some r => exact aL_arr (by simp [hJ, hC, h9, oPs, Nat.blt, Nat.ble])
theorem c_n30 {j : Nat} {K : Int32 → Prop} : aN (hJ (hC rs ks vs tl sc wI wL) mp) (some (30, j, 0)) K ↔ wr (vs[j]?) (fun v => K (nI v.2.2.2.2.2.2.length)) := by
  cases h9 : vs[j]? with
  | none => simp [wr, aN, hJ, hC, h9, Nat.blt, Nat.ble]
  | some r => simp [wr, aN, hJ, hC, h9, oPs, Nat.blt, Nat.ble, nI]
theorem c_a26 {j e : Nat} {i : Int32} {K : Int32 → Prop} : aI .int (hJ (hC rs ks vs tl sc wI wL) mp) (some (26, j, e)) i K ↔ wr (ks[j]?) (fun k => wr (k.2.2.2.2[e]?) (fun t => inb (eL t (tl j e 0)) i ∧ K (rdI (eL t (tl j e 0)) i))) := by
  cases h9 : ks[j]? with
  | none => simp [wr, aI, hJ, hC, h9, Nat.blt, Nat.ble]
  | some k =>
    cases h8 : k.2.2.2.2[e]? with
    | none => simp [wr, aI, hJ, hC, h9, h8, Nat.blt, Nat.ble]
    | some t => simp only [wr, h8]; exact aI_arr (by simp [hJ, hC, h9, h8, Nat.blt, Nat.ble])
theorem c_n26 {j e : Nat} {K : Int32 → Prop} : aN (hJ (hC rs ks vs tl sc wI wL) mp) (some (26, j, e)) K ↔ wr (ks[j]?) (fun k => wr (k.2.2.2.2[e]?) (fun t => K (nI (eL t (tl j e 0)).length))) := by
  cases h9 : ks[j]? with
  | none => simp [wr, aN, hJ, hC, h9, Nat.blt, Nat.ble]
  | some k =>
    cases h8 : k.2.2.2.2[e]? with
    | none => simp [wr, aN, hJ, hC, h9, h8, Nat.blt, Nat.ble]
    | some t => simp [wr, aN, hJ, hC, h9, h8, Nat.blt, Nat.ble, nI]
theorem c_a27 {j e : Nat} {i : Int32} {K : Int32 → Prop} : aI .int (hJ (hC rs ks vs tl sc wI wL) mp) (some (27, j, e)) i K ↔ wr (ks[j]?) (fun k => wr (k.2.2.2.2[e]?) (fun t => inb (eN t (tl j e 1)) i ∧ K (rdI (eN t (tl j e 1)) i))) := by
  cases h9 : ks[j]? with
  | none => simp [wr, aI, hJ, hC, h9, Nat.blt, Nat.ble]
  | some k =>
    cases h8 : k.2.2.2.2[e]? with
    | none => simp [wr, aI, hJ, hC, h9, h8, Nat.blt, Nat.ble]
    | some t => simp only [wr, h8]; exact aI_arr (by simp [hJ, hC, h9, h8, Nat.blt, Nat.ble])
theorem c_n27 {j e : Nat} {K : Int32 → Prop} : aN (hJ (hC rs ks vs tl sc wI wL) mp) (some (27, j, e)) K ↔ wr (ks[j]?) (fun k => wr (k.2.2.2.2[e]?) (fun t => K (nI (eN t (tl j e 1)).length))) := by
  cases h9 : ks[j]? with
  | none => simp [wr, aN, hJ, hC, h9, Nat.blt, Nat.ble]
  | some k =>
    cases h8 : k.2.2.2.2[e]? with
    | none => simp [wr, aN, hJ, hC, h9, h8, Nat.blt, Nat.ble]
    | some t => simp [wr, aN, hJ, hC, h9, h8, Nat.blt, Nat.ble, nI]
theorem c_a28 {j e : Nat} {i : Int32} {K : Int32 → Prop} : aI .int (hJ (hC rs ks vs tl sc wI wL) mp) (some (28, j, e)) i K ↔ wr (ks[j]?) (fun k => wr (k.2.2.2.2[e]?) (fun t => inb (eM t (tl j e 2)) i ∧ K (rdI (eM t (tl j e 2)) i))) := by
  cases h9 : ks[j]? with
  | none => simp [wr, aI, hJ, hC, h9, Nat.blt, Nat.ble]
  | some k =>
    cases h8 : k.2.2.2.2[e]? with
    | none => simp [wr, aI, hJ, hC, h9, h8, Nat.blt, Nat.ble]
    | some t => simp only [wr, h8]; exact aI_arr (by simp [hJ, hC, h9, h8, Nat.blt, Nat.ble])
theorem c_n28 {j e : Nat} {K : Int32 → Prop} : aN (hJ (hC rs ks vs tl sc wI wL) mp) (some (28, j, e)) K ↔ wr (ks[j]?) (fun k => wr (k.2.2.2.2[e]?) (fun t => K (nI (eM t (tl j e 2)).length))) := by
  cases h9 : ks[j]? with
  | none => simp [wr, aN, hJ, hC, h9, Nat.blt, Nat.ble]
  | some k =>
    cases h8 : k.2.2.2.2[e]? with
    | none => simp [wr, aN, hJ, hC, h9, h8, Nat.blt, Nat.ble]
    | some t => simp [wr, aN, hJ, hC, h9, h8, Nat.blt, Nat.ble, nI]
theorem c_a3 {i : Int32} {K : Option Nm → Prop} : aR "RecordBridge$Row" (hJ (hC rs ks vs tl sc wI wL) mp) (some (3, 0, 0)) i K ↔ ¬ i < 0 ∧ i.toNatClampNeg < 60 ∧ K (if i.toNatClampNeg < rs.length then some (21, i.toNatClampNeg, 0) else none) := by
  show (_ = _ ∧ _) ↔ _
  simp only [refs, List.getElem?_map, true_and]
  by_cases hl : i.toNatClampNeg < 60
  · simp [List.getElem?_range hl, hl]
  · simp [hl]
theorem c_a4 {i : Int32} {K : Option Nm → Prop} : aR "RecordBridge$Value" (hJ (hC rs ks vs tl sc wI wL) mp) (some (4, 0, 0)) i K ↔ ¬ i < 0 ∧ i.toNatClampNeg < 200 ∧ K (if i.toNatClampNeg < vs.length then some (29, i.toNatClampNeg, 0) else none) := by
  show (_ = _ ∧ _) ↔ _
  simp only [refs, List.getElem?_map, true_and]
  by_cases hl : i.toNatClampNeg < 200
  · simp [List.getElem?_range hl, hl]
  · simp [hl]
theorem c_a18 {i : Int32} {K : Option Nm → Prop} : aR "RecordBridge$Kind" (hJ (hC rs ks vs tl sc wI wL) mp) (some (18, 0, 0)) i K ↔ ¬ i < 0 ∧ i.toNatClampNeg < 16 ∧ K (if i.toNatClampNeg < ks.length then some (23, i.toNatClampNeg, 0) else none) := by
  show (_ = _ ∧ _) ↔ _
  simp only [refs, List.getElem?_map, true_and]
  by_cases hl : i.toNatClampNeg < 16
  · simp [List.getElem?_range hl, hl]
  · simp [hl]
theorem c_a24 {j : Nat} {i : Int32} {K : Option Nm → Prop} : aR "RecordBridge$Edition" (hJ (hC rs ks vs tl sc wI wL) mp) (some (24, j, 0)) i K ↔ wr (ks[j]?) (fun k => ¬ i < 0 ∧ i.toNatClampNeg < 4 ∧ K (if i.toNatClampNeg < k.2.2.2.2.length then some (25, j, i.toNatClampNeg) else none)) := by
  cases h9 : ks[j]? with
  | none => simp [wr, aR, hJ, hC, h9, Nat.blt, Nat.ble]
  | some k =>
    simp only [wr, aR, hJ, hC, h9, Nat.blt, Nat.ble, cond_true, Option.map_some, oEds, refE, List.getElem?_map, true_and]
    by_cases hl : i.toNatClampNeg < 4
    · simp [List.getElem?_range hl, hl]
    · simp [hl]
theorem hC_split {rs' : List RowT} {ks' : List KindT} {vs' : List ValT} {tl' : Nat → Nat → Nat → List Int32} {sc' : Nat → Int32} {wI' : Nat → List Int32} {wL' : Nat → List Int64} {n : Nm} {c : MC} (hn : n.1 < 40) (h1 : hC rs' ks' vs' tl' sc' wI' wL' n = some c) (h2 : ∀ k, k ≠ n → hC rs' ks' vs' tl' sc' wI' wL' k = hC rs ks vs tl sc wI wL k) : hset (hJ (hC rs ks vs tl sc wI wL) mp) n c = hJ (hC rs' ks' vs' tl' sc' wI' wL') mp := by
  rw [hJ_setC hn]
  congr 1
  funext k
  unfold hset
  by_cases e : k = n
  · subst e; rw [if_pos rfl, h1]
  · rw [if_neg e, h2 k e]
theorem c_p1_9 {x : Int32} {K : MH → Prop} : pV (hJ (hC rs ks vs tl sc wI wL) mp) (some (1, 0, 0)) 10 9 (jI x) K ↔ K (hJ (hC rs ks vs tl (up sc 0 x) wI wL) mp) := by
  show (10 = 10 ∧ K (hset (hJ (hC rs ks vs tl sc wI wL) mp) (1, 0, 0) _)) ↔ _
  rw [hC_split (rs' := rs) (ks' := ks) (vs' := vs) (tl' := tl) (sc' := up sc 0 x) (wI' := wI) (wL' := wL) (by decide) rfl (fun k hk => by
    unfold hC
    split <;> first | rfl | exact absurd rfl hk)]
  simp
theorem c_p1_10 {x : Int32} {K : MH → Prop} : pV (hJ (hC rs ks vs tl sc wI wL) mp) (some (1, 0, 0)) 10 10 (jI x) K ↔ K (hJ (hC rs ks vs tl (up sc 1 x) wI wL) mp) := by
  show (10 = 10 ∧ K (hset (hJ (hC rs ks vs tl sc wI wL) mp) (1, 0, 0) _)) ↔ _
  rw [hC_split (rs' := rs) (ks' := ks) (vs' := vs) (tl' := tl) (sc' := up sc 1 x) (wI' := wI) (wL' := wL) (by decide) rfl (fun k hk => by
    unfold hC
    split <;> first | rfl | exact absurd rfl hk)]
  simp
theorem c_p1_11 {x : Int32} {K : MH → Prop} : pV (hJ (hC rs ks vs tl sc wI wL) mp) (some (1, 0, 0)) 10 11 (jI x) K ↔ K (hJ (hC rs ks vs tl (up sc 2 x) wI wL) mp) := by
  show (10 = 10 ∧ K (hset (hJ (hC rs ks vs tl sc wI wL) mp) (1, 0, 0) _)) ↔ _
  rw [hC_split (rs' := rs) (ks' := ks) (vs' := vs) (tl' := tl) (sc' := up sc 2 x) (wI' := wI) (wL' := wL) (by decide) rfl (fun k hk => by
    unfold hC
    split <;> first | rfl | exact absurd rfl hk)]
  simp
theorem c_p1_12 {x : Int32} {K : MH → Prop} : pV (hJ (hC rs ks vs tl sc wI wL) mp) (some (1, 0, 0)) 10 12 (jI x) K ↔ K (hJ (hC rs ks vs tl (up sc 3 x) wI wL) mp) := by
  show (10 = 10 ∧ K (hset (hJ (hC rs ks vs tl sc wI wL) mp) (1, 0, 0) _)) ↔ _
  rw [hC_split (rs' := rs) (ks' := ks) (vs' := vs) (tl' := tl) (sc' := up sc 3 x) (wI' := wI) (wL' := wL) (by decide) rfl (fun k hk => by
    unfold hC
    split <;> first | rfl | exact absurd rfl hk)]
  simp
theorem c_p1_13 {x : Int32} {K : MH → Prop} : pV (hJ (hC rs ks vs tl sc wI wL) mp) (some (1, 0, 0)) 10 13 (jI x) K ↔ K (hJ (hC rs ks vs tl (up sc 4 x) wI wL) mp) := by
  show (10 = 10 ∧ K (hset (hJ (hC rs ks vs tl sc wI wL) mp) (1, 0, 0) _)) ↔ _
  rw [hC_split (rs' := rs) (ks' := ks) (vs' := vs) (tl' := tl) (sc' := up sc 4 x) (wI' := wI) (wL' := wL) (by decide) rfl (fun k hk => by
    unfold hC
    split <;> first | rfl | exact absurd rfl hk)]
  simp
theorem c_p8_2 {x : Int32} {K : MH → Prop} : pV (hJ (hC rs ks vs tl sc wI wL) mp) (some (8, 0, 0)) 1 2 (jI x) K ↔ K (hJ (hC rs ks vs tl (up sc 5 x) wI wL) mp) := by
  show (1 = 1 ∧ K (hset (hJ (hC rs ks vs tl sc wI wL) mp) (8, 0, 0) _)) ↔ _
  rw [hC_split (rs' := rs) (ks' := ks) (vs' := vs) (tl' := tl) (sc' := up sc 5 x) (wI' := wI) (wL' := wL) (by decide) rfl (fun k hk => by
    unfold hC
    split <;> first | rfl | exact absurd rfl hk)]
  simp
theorem c_p8_3 {x : Int32} {K : MH → Prop} : pV (hJ (hC rs ks vs tl sc wI wL) mp) (some (8, 0, 0)) 1 3 (jI x) K ↔ K (hJ (hC rs ks vs tl (up sc 6 x) wI wL) mp) := by
  show (1 = 1 ∧ K (hset (hJ (hC rs ks vs tl sc wI wL) mp) (8, 0, 0) _)) ↔ _
  rw [hC_split (rs' := rs) (ks' := ks) (vs' := vs) (tl' := tl) (sc' := up sc 6 x) (wI' := wI) (wL' := wL) (by decide) rfl (fun k hk => by
    unfold hC
    split <;> first | rfl | exact absurd rfl hk)]
  simp
theorem c_p12_2 {x : Int32} {K : MH → Prop} : pV (hJ (hC rs ks vs tl sc wI wL) mp) (some (12, 0, 0)) 7 2 (jI x) K ↔ K (hJ (hC rs ks vs tl (up sc 8 x) wI wL) mp) := by
  show (7 = 7 ∧ K (hset (hJ (hC rs ks vs tl sc wI wL) mp) (12, 0, 0) _)) ↔ _
  rw [hC_split (rs' := rs) (ks' := ks) (vs' := vs) (tl' := tl) (sc' := up sc 8 x) (wI' := wI) (wL' := wL) (by decide) rfl (fun k hk => by
    unfold hC
    split <;> first | rfl | exact absurd rfl hk)]
  simp
theorem c_p12_3 {x : Int32} {K : MH → Prop} : pV (hJ (hC rs ks vs tl sc wI wL) mp) (some (12, 0, 0)) 7 3 (jI x) K ↔ K (hJ (hC rs ks vs tl (up sc 9 x) wI wL) mp) := by
  show (7 = 7 ∧ K (hset (hJ (hC rs ks vs tl sc wI wL) mp) (12, 0, 0) _)) ↔ _
  rw [hC_split (rs' := rs) (ks' := ks) (vs' := vs) (tl' := tl) (sc' := up sc 9 x) (wI' := wI) (wL' := wL) (by decide) rfl (fun k hk => by
    unfold hC
    split <;> first | rfl | exact absurd rfl hk)]
  simp
theorem c_p15_2 {x : Int32} {K : MH → Prop} : pV (hJ (hC rs ks vs tl sc wI wL) mp) (some (15, 0, 0)) 7 2 (jI x) K ↔ K (hJ (hC rs ks vs tl (up sc 10 x) wI wL) mp) := by
  show (7 = 7 ∧ K (hset (hJ (hC rs ks vs tl sc wI wL) mp) (15, 0, 0) _)) ↔ _
  rw [hC_split (rs' := rs) (ks' := ks) (vs' := vs) (tl' := tl) (sc' := up sc 10 x) (wI' := wI) (wL' := wL) (by decide) rfl (fun k hk => by
    unfold hC
    split <;> first | rfl | exact absurd rfl hk)]
  simp
theorem c_p15_3 {x : Int32} {K : MH → Prop} : pV (hJ (hC rs ks vs tl sc wI wL) mp) (some (15, 0, 0)) 7 3 (jI x) K ↔ K (hJ (hC rs ks vs tl (up sc 11 x) wI wL) mp) := by
  show (7 = 7 ∧ K (hset (hJ (hC rs ks vs tl sc wI wL) mp) (15, 0, 0) _)) ↔ _
  rw [hC_split (rs' := rs) (ks' := ks) (vs' := vs) (tl' := tl) (sc' := up sc 11 x) (wI' := wI) (wL' := wL) (by decide) rfl (fun k hk => by
    unfold hC
    split <;> first | rfl | exact absurd rfl hk)]
  simp
theorem c_s6 {i x : Int32} {K : MH → Prop} : sV .int (hJ (hC rs ks vs tl sc wI wL) mp) (some (6, 0, 0)) i (jI x) K ↔ inb (wI 2) i ∧ K (hJ (hC rs ks vs tl sc (up wI 2 ((wI 2).set i.toNatClampNeg x)) wL) mp) :=
  sI_arr rfl (hC_split (by decide) rfl (fun k hk => by
    unfold hC
    split <;> first | rfl | exact absurd rfl hk))
theorem c_s13 {i x : Int32} {K : MH → Prop} : sV .byte (hJ (hC rs ks vs tl sc wI wL) mp) (some (13, 0, 0)) i (jI x) K ↔ inb (wI 3) i ∧ K (hJ (hC rs ks vs tl sc (up wI 3 ((wI 3).set i.toNatClampNeg x)) wL) mp) :=
  sI_arr rfl (hC_split (by decide) rfl (fun k hk => by
    unfold hC
    split <;> first | rfl | exact absurd rfl hk))
theorem c_s14 {i x : Int32} {K : MH → Prop} : sV .char (hJ (hC rs ks vs tl sc wI wL) mp) (some (14, 0, 0)) i (jI x) K ↔ inb (wI 4) i ∧ K (hJ (hC rs ks vs tl sc (up wI 4 ((wI 4).set i.toNatClampNeg x)) wL) mp) :=
  sI_arr rfl (hC_split (by decide) rfl (fun k hk => by
    unfold hC
    split <;> first | rfl | exact absurd rfl hk))
theorem c_s16 {i x : Int32} {K : MH → Prop} : sV .byte (hJ (hC rs ks vs tl sc wI wL) mp) (some (16, 0, 0)) i (jI x) K ↔ inb (wI 5) i ∧ K (hJ (hC rs ks vs tl sc (up wI 5 ((wI 5).set i.toNatClampNeg x)) wL) mp) :=
  sI_arr rfl (hC_split (by decide) rfl (fun k hk => by
    unfold hC
    split <;> first | rfl | exact absurd rfl hk))
theorem c_s17 {i x : Int32} {K : MH → Prop} : sV .char (hJ (hC rs ks vs tl sc wI wL) mp) (some (17, 0, 0)) i (jI x) K ↔ inb (wI 6) i ∧ K (hJ (hC rs ks vs tl sc (up wI 6 ((wI 6).set i.toNatClampNeg x)) wL) mp) :=
  sI_arr rfl (hC_split (by decide) rfl (fun k hk => by
    unfold hC
    split <;> first | rfl | exact absurd rfl hk))
theorem c_s19 {i x : Int32} {K : MH → Prop} : sV .int (hJ (hC rs ks vs tl sc wI wL) mp) (some (19, 0, 0)) i (jI x) K ↔ inb (wI 0) i ∧ K (hJ (hC rs ks vs tl sc (up wI 0 ((wI 0).set i.toNatClampNeg x)) wL) mp) :=
  sI_arr rfl (hC_split (by decide) rfl (fun k hk => by
    unfold hC
    split <;> first | rfl | exact absurd rfl hk))
theorem c_s20 {i x : Int32} {K : MH → Prop} : sV .boolean (hJ (hC rs ks vs tl sc wI wL) mp) (some (20, 0, 0)) i (jI x) K ↔ inb (wI 1) i ∧ K (hJ (hC rs ks vs tl sc (up wI 1 ((wI 1).set i.toNatClampNeg x)) wL) mp) :=
  sI_arr rfl (hC_split (by decide) rfl (fun k hk => by
    unfold hC
    split <;> first | rfl | exact absurd rfl hk))
theorem c_s7 {i : Int32} {x : Int64} {K : MH → Prop} : sV .long (hJ (hC rs ks vs tl sc wI wL) mp) (some (7, 0, 0)) i (jL x) K ↔ inb (wL 0) i ∧ K (hJ (hC rs ks vs tl sc wI (up wL 0 ((wL 0).set i.toNatClampNeg x))) mp) :=
  sL_arr rfl (hC_split (by decide) rfl (fun k hk => by
    unfold hC
    split <;> first | rfl | exact absurd rfl hk))
theorem c_s9 {i : Int32} {x : Int64} {K : MH → Prop} : sV .long (hJ (hC rs ks vs tl sc wI wL) mp) (some (9, 0, 0)) i (jL x) K ↔ inb (wL 1) i ∧ K (hJ (hC rs ks vs tl sc wI (up wL 1 ((wL 1).set i.toNatClampNeg x))) mp) :=
  sL_arr rfl (hC_split (by decide) rfl (fun k hk => by
    unfold hC
    split <;> first | rfl | exact absurd rfl hk))
end ClsR
