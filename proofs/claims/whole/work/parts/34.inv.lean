/-! THE INVARIANT between the class's state and the reference's -/
/-- the bits of a whole number as a float, as a double; of a float as a double -/
def fB (v : Int64) : Int64 := (FP.l2f v).toInt32.toInt64
def dB (v : Int64) : Int64 := (FP.l2d v).toInt64
def gB (x : Int64) : Int64 := (FP.f2d x.toInt32.toUInt32).toInt64
/-- a number that comes to a lane; a number of a lane widened to another -/
def cm (l : Int32) (v : Int64) : Int64 := if l = 0 then v &&& 1 else if l = 1 then v.toInt32.toInt8.toInt32.toInt64 else if l = 2 then v &&& 65535 else if l = 3 then v.toInt32.toInt16.toInt32.toInt64 else if l = 4 then v.toInt32.toInt64 else if l = 5 then v else if l = 6 then fB v else dB v
def wd (a b : Int32) (v : Int64) : Int64 := if a = b then v else if 6 ≤ b then (if b = 6 then fB v else if a = 6 then gB v else dB v) else v
def fOK (x : Int64) : Prop := ∃ v, x = fB v
def dOK (x : Int64) : Prop := (∃ v, x = dB v) ∨ ∃ v, x = gB (fB v)
def numOK (l : Int32) (x : Int64) : Prop := (l = 0 → x = 0 ∨ x = 1) ∧ (l = 6 → fOK x) ∧ (l = 7 → dOK x)
/-- nothing, or the number of one of n things -/
def refOK (x : Int64) (n : Nat) : Prop := x = -1 ∨ ∃ j : Nat, j < n ∧ x = lN j
def cellOK (l : Int32) (x : Int64) (nv : Nat) : Prop := (wi l 0 7 = true → numOK l x) ∧ (l = 8 → refOK x nv)
def RowOK (r : RowT) (nv : Nat) : Prop := wi r.1 0 8 = true ∧ r.2.2.length ≤ 20 ∧ (∀ x ∈ r.2.2, cellOK r.1 x nv) ∧ (r.2.1 = true → r.1 = 8)
def RowsOK (rs : List RowT) (nv : Nat) : Prop := rs.length ≤ 60 ∧ ∀ r ∈ rs, RowOK r nv
def EdOK (isC : Bool) (t : List ET) : Prop := t.length ≤ (if isC then 8 else 6) ∧ (t.map (fun x => x.1)).Nodup ∧ (isC = false → ∀ x ∈ t, wi x.2.1 0 9 = true)
def KindOK (k : KindT) (nv : Nat) : Prop := 1 ≤ k.2.2.2.2.length ∧ k.2.2.2.2.length ≤ 4 ∧ (k.2.2.1 = false → k.2.2.2.2.length = 1 ∧ k.2.2.2.1 = 0) ∧ (∀ t ∈ k.2.2.2.2, EdOK k.1 t) ∧ k.2.2.2.1 ≤ nv ∧ (if k.1 then wi k.2.1 0 3 else wi k.2.1 0 4) = true ∧ (k.1 = true → k.2.2.1 = true → ∀ t ∈ k.2.2.2.2, ∀ x ∈ t, ∃ j : Nat, j < nv ∧ x.2.2 = nI j)
def KindsOK (ks : List KindT) (nv : Nat) : Prop := ks.length ≤ 16 ∧ ∀ k ∈ ks, KindOK k nv
/-- the arrays of an edition are as long as its kind's -/
def TlOK (ks : List KindT) (tl : Nat → Nat → Nat → List Int32) : Prop := ∀ j k, ks[j]? = some k → ∀ e t, k.2.2.2.2[e]? = some t → ∀ i, i < 3 → t.length + (tl j e i).length = (if k.1 then 8 else 6)
/-- a part of a value: of its lane; things are earlier ones, less deep -/
def partOK (rs : List RowT) (vs : List ValT) (j : Nat) (l : Int32) (x : Int64) (dp : Nat) : Prop :=
  (wi l 0 7 = true → numOK l x) ∧
  (l = 8 → x = -1 ∨ ∃ i v, i < j ∧ x = lN i ∧ vs[i]? = some v ∧ v.2.2.2.2.2.1 < dp) ∧
  (l = 9 → x = -1 ∨ ∃ i r, x = lN i ∧ rs[i]? = some r ∧ (r.1 = 8 → r.2.1 = true ∧ ∀ y ∈ r.2.2, y = -1 ∨ ∃ q v, q < j ∧ y = lN q ∧ vs[q]? = some v ∧ v.2.2.2.2.2.1 < dp))
def ValOK (rs : List RowT) (ks : List KindT) (vs : List ValT) (j : Nat) (v : ValT) : Prop :=
  ∃ k t, ks[v.1]? = some k ∧ k.2.2.2.2[v.2.1]? = some t ∧ k.2.2.1 = true ∧ v.2.2.1 < k.2.2.2.1 ∧ 1 ≤ v.2.2.2.2.2.1 ∧ v.2.2.2.2.2.1 ≤ 8 ∧ v.2.2.2.2.1 ≤ 300 ∧
  (k.1 = true → v.2.2.2.2.2.2 = []) ∧ (k.1 = false → v.2.2.2.1 = 0 ∧ v.2.2.2.2.2.2.length = t.length ∧ ∀ (i : Nat) (x : ET) (y : Int64), t[i]? = some x → v.2.2.2.2.2.2[i]? = some y → partOK rs vs j x.2.1 y v.2.2.2.2.2.1)
def ValsOK (rs : List RowT) (ks : List KindT) (vs : List ValT) : Prop := vs.length ≤ 200 ∧ ∀ j v, vs[j]? = some v → ValOK rs ks vs j v
def MiscOK (sc : Nat → Int32) (wI : Nat → List Int32) (wL : Nat → List Int64) (ks : List KindT) : Prop :=
  (wI 0).length = 8 ∧ (wI 1).length = 8 ∧ (wI 2).length = 6 ∧ (wL 0).length = 6 ∧ (wL 1).length = 6 ∧ (wI 3).length = 4000 ∧ (wI 4).length = 20 ∧ (wI 5).length = 4000 ∧ (wI 6).length = 20 ∧
  (∃ n : Nat, n ≤ 8 ∧ sc 0 = nI n ∧ ∀ i, i < n → nz ((wI 1).getD i 0)) ∧
  sc 1 = nI (ks.filter (fun k => k.2.2.1)).length ∧ (∃ n : Nat, n ≤ 4000 ∧ (if sc 7 = 0 then sc 8 else sc 10) = nI n)
def TrayOK (wI : Nat → List Int32) (wL : Nat → List Int64) (nr nv : Nat) : Prop := ∀ i, i < 6 → (wI 2).getD i 0 = -1 ∨ (wi ((wI 2).getD i 0) 0 7 = true ∧ numOK ((wI 2).getD i 0) ((wL 0).getD i 0)) ∨ ((wI 2).getD i 0 = 8 ∧ ∃ j : Nat, j < nv ∧ (wL 0).getD i 0 = lN j) ∨ ((wI 2).getD i 0 = 9 ∧ ∃ j : Nat, j < nr ∧ (wL 0).getD i 0 = lN j)
/-! the reference's arrays hold the same -/
def mRows (rs : List RowT) (m : MS) : Prop := m.1 3 = nI rs.length ∧ (m.2.1 4).length = 60 ∧ (m.2.1 5).length = 60 ∧ (m.2.1 6).length = 60 ∧ (m.2.2 7).length = 1200 ∧ (m.2.2 8).length = 20 ∧
  ∀ j r, rs[j]? = some r → (m.2.1 4).getD j 0 = r.1 ∧ (m.2.1 5).getD j 0 = nI r.2.2.length ∧ (m.2.1 6).getD j 0 = b2i r.2.1 ∧ ∀ i x, r.2.2[i]? = some x → (m.2.2 7).getD (20 * j + i) 0 = x
def mKinds (ks : List KindT) (m : MS) : Prop := m.1 9 = nI ks.length ∧ (m.2.1 10).length = 16 ∧ (m.2.1 11).length = 16 ∧ (m.2.1 12).length = 16 ∧ (m.2.1 13).length = 16 ∧ (m.2.1 14).length = 16 ∧ (m.2.1 15).length = 64 ∧ (m.2.1 16).length = 512 ∧ (m.2.1 17).length = 512 ∧ (m.2.1 18).length = 512 ∧
  (∀ j k, ks[j]? = some k → (m.2.1 10).getD j 0 = b2i k.1 ∧ (m.2.1 11).getD j 0 = k.2.1 ∧ (m.2.1 12).getD j 0 = b2i k.2.2.1 ∧ (m.2.1 13).getD j 0 = nI (k.2.2.2.2.length - 1) ∧ (m.2.1 14).getD j 0 = nI k.2.2.2.1 ∧
    ∀ e t, k.2.2.2.2[e]? = some t → (m.2.1 15).getD (4 * j + e) 0 = nI t.length ∧ ∀ i x, t[i]? = some x → (m.2.1 16).getD (8 * (4 * j + e) + i) 0 = x.1 ∧ (m.2.1 17).getD (8 * (4 * j + e) + i) 0 = x.2.1 ∧ (k.1 = true → k.2.2.1 = true → (m.2.1 18).getD (8 * (4 * j + e) + i) 0 = x.2.2)) ∧
  ∀ j, ks.length ≤ j → j < 16 → (m.2.1 12).getD j 0 = 0 ∧ (m.2.1 13).getD j 0 = 0 ∧ (m.2.1 14).getD j 0 = 0 ∧ (m.2.1 15).getD (4 * j) 0 = 0
def mVals (vs : List ValT) (m : MS) : Prop := m.1 24 = nI vs.length ∧ (m.2.1 25).length = 200 ∧ (m.2.1 26).length = 200 ∧ (m.2.1 27).length = 200 ∧ (m.2.1 28).length = 200 ∧ (m.2.1 29).length = 200 ∧ (m.2.1 30).length = 200 ∧ (m.2.2 31).length = 1200 ∧ (m.2.2 32).length = 6 ∧
  (∀ j v, vs[j]? = some v → (m.2.1 25).getD j 0 = nI v.1 ∧ (m.2.1 26).getD j 0 = nI v.2.1 ∧ (m.2.1 27).getD j 0 = nI v.2.2.1 ∧ (m.2.1 28).getD j 0 = nI v.2.2.2.2.1 ∧ (m.2.1 29).getD j 0 = nI v.2.2.2.2.2.1 ∧ (m.2.1 30).getD j 0 = v.2.2.2.1 ∧ ∀ i x, v.2.2.2.2.2.2[i]? = some x → (m.2.2 31).getD (6 * j + i) 0 = x) ∧
  ∀ j, vs.length ≤ j → j < 200 → (m.2.1 30).getD j 0 = 0
def mMisc (sc : Nat → Int32) (wI : Nat → List Int32) (wL : Nat → List Int64) (m : MS) : Prop := m.1 0 = sc 3 ∧ m.1 1 = sc 4 ∧ m.1 2 = sc 2 ∧ m.1 19 = sc 0 ∧ m.2.1 20 = wI 0 ∧ m.2.1 21 = wI 1 ∧ (m.2.1 22).length = 6 ∧ (m.2.2 23).length = 6 ∧
  (∀ i, i < 6 → (m.2.1 22).getD i 0 = (if (wI 2).getD i 0 = -1 then -5 else (wI 2).getD i 0) ∧ ((wI 2).getD i 0 ≠ -1 → (m.2.2 23).getD i 0 = (wL 0).getD i 0)) ∧
  (m.2.1 36).length = 12 ∧ (m.2.1 37).length = 12 ∧ (m.2.1 38).length = 12 ∧ (m.2.1 39).length = 12 ∧ (m.2.1 40).length = 12 ∧ (m.2.1 41).length = 12 ∧ (m.2.1 42).length = 4200 ∧ (m.2.1 44).length = 4000 ∧
  m.1 45 = (if sc 7 = 0 then sc 8 else sc 10) ∧ ∀ i : Nat, nI i < m.1 45 → i < 4000 → (m.2.1 44).getD i 0 = ((if sc 7 = 0 then wI 3 else wI 5) : List Int32).getD i 0
def Inv (rs : List RowT) (ks : List KindT) (vs : List ValT) (tl : Nat → Nat → Nat → List Int32) (sc : Nat → Int32) (wI : Nat → List Int32) (wL : Nat → List Int64) (m : MS) : Prop :=
  (RowsOK rs vs.length ∧ KindsOK ks vs.length ∧ TlOK ks tl ∧ ValsOK rs ks vs ∧ MiscOK sc wI wL ks ∧ TrayOK wI wL rs.length vs.length) ∧ mRows rs m ∧ mKinds ks m ∧ mVals vs m ∧ mMisc sc wI wL m
abbrev hX (rs : List RowT) (ks : List KindT) (vs : List ValT) (tl : Nat → Nat → Nat → List Int32) (sc : Nat → Int32) (wI : Nat → List Int32) (wL : Nat → List Int64) (m : MS) : MH := hJ (hC rs ks vs tl sc wI wL) (hM m)
/-- a refused call, a fault: the counters alone -/
theorem Inv.fault {rs : List RowT} {ks : List KindT} {vs : List ValT} {tl : Nat → Nat → Nat → List Int32} {sc : Nat → Int32} {wI : Nat → List Int32} {wL : Nat → List Int64} {m : MS} (I : Inv rs ks vs tl sc wI wL m) (f : Int32) : Inv rs ks vs tl (up (up sc 3 f) 4 (sc 4 + 1)) wI wL (mI (mI m 0 f) 1 (m.1 1 + 1)) := by
  obtain ⟨⟨a1, a2, a3, a4, a5, a6⟩, b1, b2, b3, b4⟩ := I
  refine ⟨⟨a1, a2, a3, a4, ?_, a6⟩, ?_, ?_, ?_, ?_⟩
  · simpa [MiscOK, up] using a5
  · simpa [mRows, mI, up] using b1
  · simpa [mKinds, mI, up] using b2
  · simpa [mVals, mI, up] using b3
  · obtain ⟨c1, c2, c3, c4, c5⟩ := b4
    refine ⟨by simp [mI, up], by simp [mI, up, c2], by simpa [mI, up] using c3, by simpa [mI, up] using c4, by simpa [mI, up] using c5⟩
