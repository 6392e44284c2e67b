section Law
variable {rs : List RowT} {ks : List KindT} {vs : List ValT} {tl : Nat → Nat → Nat → List Int32} {sc : Nat → Int32} {wI : Nat → List Int32} {wL : Nat → List Int64} {m : MS} {d d2 u : Nat} {v1 v2 v3 v5 v6 : Int32} {v4 : Int64} {W : Prop → Prop}
variable {L : Nat} {xs : Nat → Int32} {w : Int32} {Q : Int32 → MH → Prop}
/-- the rest of the script -/
def lGo (L : Nat) (xs : Nat → Int32) (w : Int32) (u : Nat) (Q : Int32 → MH → Prop) : Prop := ∀ rs ks vs tl sc wI wL m u1, Inv rs ks vs tl sc wI wL m → u ≤ u1 + 300 → L_L_law_18 L xs 94 br mo (w + 6) (hX rs ks vs tl sc wI wL m) u1 Q
theorem law_row (I : Inv rs ks vs tl sc wI wL m) (h1 : vp_in (w + 1) L) (h2 : vp_in (w + 2) L) (h3 : vp_in (w + 3) L) (h4 : vp_in (w + 4) L) (h5 : vp_in (w + 5) L) (hu : 300 ≤ u) (go : lGo L xs w u Q) : F_L_law_180 L xs 94 br mo w (hX rs ks vs tl sc wI wL m) u Q := by
  unfold F_L_law_180
  simp only [h1, h2, h3, h4, h5, true_and]
  exact ⟨rfl, I_X11_row (d := 98) 300 hu (op_row (d := 96) (W := fun X => X) I (fun _ h => h) (fun a rs ks vs tl sc wI wL m J => by rw [if_pos rfl]; exact go _ _ _ _ _ _ _ _ _ J (by omega)) (by decide))⟩
theorem law_put (I : Inv rs ks vs tl sc wI wL m) (h1 : vp_in (w + 1) L) (h2 : vp_in (w + 2) L) (h3 : vp_in (w + 3) L) (h4 : vp_in (w + 4) L) (h5 : vp_in (w + 5) L) (hu : 300 ≤ u) (go : lGo L xs w u Q) : F_L_law_213 L xs 94 br mo w (hX rs ks vs tl sc wI wL m) u Q := by
  unfold F_L_law_213
  simp only [h1, h2, h3, h4, h5, true_and]
  exact ⟨rfl, op_put (W := fun X => X) I (fun _ h => h) (fun a rs ks vs tl sc wI wL m J => by rw [if_pos rfl]; exact go _ _ _ _ _ _ _ _ _ J (by omega))⟩
theorem law_get (I : Inv rs ks vs tl sc wI wL m) (h1 : vp_in (w + 1) L) (h2 : vp_in (w + 2) L) (h3 : vp_in (w + 3) L) (h4 : vp_in (w + 4) L) (h5 : vp_in (w + 5) L) (hu : 300 ≤ u) (go : lGo L xs w u Q) : F_L_law_296 L xs 94 br mo w (hX rs ks vs tl sc wI wL m) u Q := by
  unfold F_L_law_296
  simp only [h1, h2, h3, h4, h5, true_and]
  exact ⟨rfl, op_get (W := fun X => X) I (fun _ h => h) (fun a rs ks vs tl sc wI wL m J => by rw [if_pos (by simp only [lg_cmp_eq])]; exact go _ _ _ _ _ _ _ _ _ J (by omega))⟩
theorem law_lay (I : Inv rs ks vs tl sc wI wL m) (h1 : vp_in (w + 1) L) (h2 : vp_in (w + 2) L) (h3 : vp_in (w + 3) L) (h4 : vp_in (w + 4) L) (h5 : vp_in (w + 5) L) (hu : 300 ≤ u) (go : lGo L xs w u Q) : F_L_law_340 L xs 94 br mo w (hX rs ks vs tl sc wI wL m) u Q := by
  unfold F_L_law_340
  simp only [h1, h2, h3, h4, h5, true_and]
  exact ⟨rfl, op_lay (W := fun X => X) I (fun _ h => h) (fun a rs ks vs tl sc wI wL m J => by rw [if_pos rfl]; exact go _ _ _ _ _ _ _ _ _ J (by omega))⟩
theorem law_at (I : Inv rs ks vs tl sc wI wL m) (h1 : vp_in (w + 1) L) (h2 : vp_in (w + 2) L) (h3 : vp_in (w + 3) L) (h4 : vp_in (w + 4) L) (h5 : vp_in (w + 5) L) (hu : 300 ≤ u) (go : lGo L xs w u Q) : F_L_law_383 L xs 94 br mo w (hX rs ks vs tl sc wI wL m) u Q := by
  unfold F_L_law_383
  simp only [h1, h2, h3, h4, h5, true_and]
  exact ⟨rfl, op_at (W := fun X => X) I (fun _ h => h) (fun a rs ks vs tl sc wI wL m J => by rw [if_pos rfl]; exact go _ _ _ _ _ _ _ _ _ J (by omega))⟩
theorem law_length (I : Inv rs ks vs tl sc wI wL m) (h1 : vp_in (w + 1) L) (h2 : vp_in (w + 2) L) (h3 : vp_in (w + 3) L) (h4 : vp_in (w + 4) L) (h5 : vp_in (w + 5) L) (hu : 300 ≤ u) (go : lGo L xs w u Q) : F_L_law_416 L xs 94 br mo w (hX rs ks vs tl sc wI wL m) u Q := by
  unfold F_L_law_416
  simp only [h1, h2, h3, h4, h5, true_and]
  exact ⟨rfl, op_length (W := fun X => X) I (fun _ h => h) (fun a => by rw [if_pos rfl]; exact go _ _ _ _ _ _ _ _ _ I (by omega))⟩
theorem law_copy (I : Inv rs ks vs tl sc wI wL m) (h1 : vp_in (w + 1) L) (h2 : vp_in (w + 2) L) (h3 : vp_in (w + 3) L) (h4 : vp_in (w + 4) L) (h5 : vp_in (w + 5) L) (hu : 300 ≤ u) (go : lGo L xs w u Q) : F_L_law_449 L xs 94 br mo w (hX rs ks vs tl sc wI wL m) u Q := by
  unfold F_L_law_449
  simp only [h1, h2, h3, h4, h5, true_and]
  exact ⟨rfl, op_copy (W := fun X => X) I (fun _ h => h) (fun a rs ks vs tl sc wI wL m J => by rw [if_pos rfl]; exact go _ _ _ _ _ _ _ _ _ J (by omega))⟩
theorem law_twin (I : Inv rs ks vs tl sc wI wL m) (h1 : vp_in (w + 1) L) (h2 : vp_in (w + 2) L) (h3 : vp_in (w + 3) L) (h4 : vp_in (w + 4) L) (h5 : vp_in (w + 5) L) (hu : 300 ≤ u) (go : lGo L xs w u Q) : F_L_law_512 L xs 94 br mo w (hX rs ks vs tl sc wI wL m) u Q := by
  unfold F_L_law_512
  simp only [h1, h2, h3, h4, h5, true_and]
  exact ⟨rfl, I_X11_twin (d := 98) 300 hu (op_twin (d := 94) (W := fun X => X) I (fun _ h => h) (fun a rs ks vs tl sc wI wL m J => by rw [if_pos rfl]; exact go _ _ _ _ _ _ _ _ _ J (by omega)) (by decide))⟩
theorem law_record (I : Inv rs ks vs tl sc wI wL m) (h1 : vp_in (w + 1) L) (h2 : vp_in (w + 2) L) (h3 : vp_in (w + 3) L) (h4 : vp_in (w + 4) L) (h5 : vp_in (w + 5) L) (hu : 300 ≤ u) (go : lGo L xs w u Q) : F_L_law_535 L xs 94 br mo w (hX rs ks vs tl sc wI wL m) u Q := by
  unfold F_L_law_535
  simp only [h1, h2, h3, h4, h5, true_and]
  exact ⟨rfl, I_X11_record (d := 98) 300 hu (op_record (d := 95) (W := fun X => X) I (fun _ h => h) (fun a rs ks vs tl sc wI wL m J => by rw [if_pos rfl]; exact go _ _ _ _ _ _ _ _ _ J (by omega)) (by decide))⟩
theorem law_constants (I : Inv rs ks vs tl sc wI wL m) (h1 : vp_in (w + 1) L) (h2 : vp_in (w + 2) L) (h3 : vp_in (w + 3) L) (h4 : vp_in (w + 4) L) (h5 : vp_in (w + 5) L) (hu : 300 ≤ u) (go : lGo L xs w u Q) : F_L_law_558 L xs 94 br mo w (hX rs ks vs tl sc wI wL m) u Q := by
  unfold F_L_law_558
  simp only [h1, h2, h3, h4, h5, true_and]
  exact ⟨rfl, I_X11_constants (d := 98) 300 hu (op_constants (d := 95) (W := fun X => X) I (fun _ h => h) (fun a rs ks vs tl sc wI wL m J => by rw [if_pos rfl]; exact go _ _ _ _ _ _ _ _ _ J (by omega)) (by decide))⟩
theorem law_more (I : Inv rs ks vs tl sc wI wL m) (h1 : vp_in (w + 1) L) (h2 : vp_in (w + 2) L) (h3 : vp_in (w + 3) L) (h4 : vp_in (w + 4) L) (h5 : vp_in (w + 5) L) (hu : 300 ≤ u) (go : lGo L xs w u Q) : F_L_law_581 L xs 94 br mo w (hX rs ks vs tl sc wI wL m) u Q := by
  unfold F_L_law_581
  simp only [h1, h2, h3, h4, h5, true_and]
  exact ⟨rfl, op_more (W := fun X => X) I (fun _ h => h) (fun a rs ks vs tl sc wI wL m J => by rw [if_pos rfl]; exact go _ _ _ _ _ _ _ _ _ J (by omega))⟩
theorem law_edition (I : Inv rs ks vs tl sc wI wL m) (h1 : vp_in (w + 1) L) (h2 : vp_in (w + 2) L) (h3 : vp_in (w + 3) L) (h4 : vp_in (w + 4) L) (h5 : vp_in (w + 5) L) (hu : 300 ≤ u) (go : lGo L xs w u Q) : F_L_law_624 L xs 94 br mo w (hX rs ks vs tl sc wI wL m) u Q := by
  unfold F_L_law_624
  simp only [h1, h2, h3, h4, h5, true_and]
  exact ⟨rfl, I_X11_edition (d := 96) 300 hu (op_edition (d := 96) (W := fun X => X) I (fun _ h => h) (fun a rs ks vs tl sc wI wL m J => by rw [if_pos rfl]; exact go _ _ _ _ _ _ _ _ _ J (by omega)) (by decide))⟩
theorem law_family (I : Inv rs ks vs tl sc wI wL m) (h1 : vp_in (w + 1) L) (h2 : vp_in (w + 2) L) (h3 : vp_in (w + 3) L) (h4 : vp_in (w + 4) L) (h5 : vp_in (w + 5) L) (hu : 300 ≤ u) (go : lGo L xs w u Q) : F_L_law_677 L xs 94 br mo w (hX rs ks vs tl sc wI wL m) u Q := by
  unfold F_L_law_677 F_L_law_696 F_L_law_718
  simp only [h1, h2, h3, h4, h5, true_and]
  by_cases z : xs (w + 2).toNatClampNeg = 0
  · simp only [if_pos z]
    exact ⟨rfl, op_family (W := fun X => X) I (fun _ h => h) (fun a rs ks vs tl sc wI wL m J => by rw [if_pos rfl]; exact go _ _ _ _ _ _ _ _ _ J (by omega))⟩
  · simp only [if_neg z]
    exact ⟨rfl, op_family (W := fun X => X) I (fun _ h => h) (fun a rs ks vs tl sc wI wL m J => by rw [if_pos rfl]; exact go _ _ _ _ _ _ _ _ _ J (by omega))⟩
theorem law_info (I : Inv rs ks vs tl sc wI wL m) (h1 : vp_in (w + 1) L) (h2 : vp_in (w + 2) L) (h3 : vp_in (w + 3) L) (h4 : vp_in (w + 4) L) (h5 : vp_in (w + 5) L) (hu : 300 ≤ u) (go : lGo L xs w u Q) : F_L_law_726 L xs 94 br mo w (hX rs ks vs tl sc wI wL m) u Q := by
  unfold F_L_law_726
  simp only [h1, h2, h3, h4, h5, true_and]
  exact ⟨rfl, op_info (W := fun X => X) I (fun _ h => h) (fun a rs ks vs tl sc wI wL m J => by rw [if_pos rfl]; exact go _ _ _ _ _ _ _ _ _ J (by omega))⟩
theorem law_give (I : Inv rs ks vs tl sc wI wL m) (h1 : vp_in (w + 1) L) (h2 : vp_in (w + 2) L) (h3 : vp_in (w + 3) L) (h4 : vp_in (w + 4) L) (h5 : vp_in (w + 5) L) (hu : 300 ≤ u) (go : lGo L xs w u Q) : F_L_law_759 L xs 94 br mo w (hX rs ks vs tl sc wI wL m) u Q := by
  unfold F_L_law_759
  simp only [h1, h2, h3, h4, h5, true_and]
  exact ⟨rfl, op_give (W := fun X => X) I (fun _ h => h) (fun a rs ks vs tl sc wI wL m J => by rw [if_pos rfl]; exact go _ _ _ _ _ _ _ _ _ J (by omega))⟩
theorem law_hand (I : Inv rs ks vs tl sc wI wL m) (h1 : vp_in (w + 1) L) (h2 : vp_in (w + 2) L) (h3 : vp_in (w + 3) L) (h4 : vp_in (w + 4) L) (h5 : vp_in (w + 5) L) (hu : 300 ≤ u) (go : lGo L xs w u Q) : F_L_law_832 L xs 94 br mo w (hX rs ks vs tl sc wI wL m) u Q := by
  unfold F_L_law_832 F_L_law_856 F_L_law_883
  simp only [h1, h2, h3, h4, h5, true_and]
  by_cases z : xs (w + 3).toNatClampNeg = 0
  · simp only [if_pos z]
    exact ⟨rfl, op_hand (W := fun X => X) I (fun _ h => h) (fun a rs ks vs tl sc wI wL m J => by rw [if_pos rfl]; exact go _ _ _ _ _ _ _ _ _ J (by omega))⟩
  · simp only [if_neg z]
    exact ⟨rfl, op_hand (W := fun X => X) I (fun _ h => h) (fun a rs ks vs tl sc wI wL m J => by rw [if_pos rfl]; exact go _ _ _ _ _ _ _ _ _ J (by omega))⟩
theorem law_make (I : Inv rs ks vs tl sc wI wL m) (h1 : vp_in (w + 1) L) (h2 : vp_in (w + 2) L) (h3 : vp_in (w + 3) L) (h4 : vp_in (w + 4) L) (h5 : vp_in (w + 5) L) (hu : 300 ≤ u) (go : lGo L xs w u Q) : F_L_law_891 L xs 94 br mo w (hX rs ks vs tl sc wI wL m) u Q := by
  unfold F_L_law_891
  simp only [h1, h2, h3, h4, h5, true_and]
  exact ⟨rfl, I_X11_make (d := 92) 300 hu (op_make (d := 92) (W := fun X => X) I (fun _ h => h) (fun a rs ks vs tl sc wI wL m J => by rw [if_pos rfl]; exact go _ _ _ _ _ _ _ _ _ J (by omega)) (by decide))⟩
theorem law_named (I : Inv rs ks vs tl sc wI wL m) (h1 : vp_in (w + 1) L) (h2 : vp_in (w + 2) L) (h3 : vp_in (w + 3) L) (h4 : vp_in (w + 4) L) (h5 : vp_in (w + 5) L) (hu : 300 ≤ u) (go : lGo L xs w u Q) : F_L_law_914 L xs 94 br mo w (hX rs ks vs tl sc wI wL m) u Q := by
  unfold F_L_law_914
  simp only [h1, h2, h3, h4, h5, true_and]
  exact ⟨rfl, I_X11_named (d := 97) 300 hu (op_named (d := 95) (W := fun X => X) I (fun _ h => h) (fun a rs ks vs tl sc wI wL m J => by rw [if_pos rfl]; exact go _ _ _ _ _ _ _ _ _ J (by omega)) (by decide))⟩
theorem law_part (I : Inv rs ks vs tl sc wI wL m) (h1 : vp_in (w + 1) L) (h2 : vp_in (w + 2) L) (h3 : vp_in (w + 3) L) (h4 : vp_in (w + 4) L) (h5 : vp_in (w + 5) L) (hu : 300 ≤ u) (go : lGo L xs w u Q) : F_L_law_947 L xs 94 br mo w (hX rs ks vs tl sc wI wL m) u Q := by
  unfold F_L_law_947
  simp only [h1, h2, h3, h4, h5, true_and]
  exact ⟨rfl, op_part (W := fun X => X) I (fun _ h => h) (fun a rs ks vs tl sc wI wL m J => by rw [if_pos (by simp only [lg_cmp_eq])]; exact go _ _ _ _ _ _ _ _ _ J (by omega))⟩
theorem law_accessor (I : Inv rs ks vs tl sc wI wL m) (h1 : vp_in (w + 1) L) (h2 : vp_in (w + 2) L) (h3 : vp_in (w + 3) L) (h4 : vp_in (w + 4) L) (h5 : vp_in (w + 5) L) (hu : 300 ≤ u) (go : lGo L xs w u Q) : F_L_law_981 L xs 94 br mo w (hX rs ks vs tl sc wI wL m) u Q := by
  unfold F_L_law_981
  simp only [h1, h2, h3, h4, h5, true_and]
  exact ⟨rfl, op_accessor (W := fun X => X) I (fun _ h => h) (fun a rs ks vs tl sc wI wL m J => by rw [if_pos (by simp only [lg_cmp_eq])]; exact go _ _ _ _ _ _ _ _ _ J (by omega))⟩
theorem law_of (I : Inv rs ks vs tl sc wI wL m) (h1 : vp_in (w + 1) L) (h2 : vp_in (w + 2) L) (h3 : vp_in (w + 3) L) (h4 : vp_in (w + 4) L) (h5 : vp_in (w + 5) L) (hu : 300 ≤ u) (go : lGo L xs w u Q) : F_L_law_1015 L xs 94 br mo w (hX rs ks vs tl sc wI wL m) u Q := by
  unfold F_L_law_1015
  simp only [h1, h2, h3, h4, h5, true_and]
  exact ⟨rfl, op_of (W := fun X => X) I (fun _ h => h) (fun a rs ks vs tl sc wI wL m J => by rw [if_pos rfl]; exact go _ _ _ _ _ _ _ _ _ J (by omega))⟩
theorem law_array (I : Inv rs ks vs tl sc wI wL m) (h1 : vp_in (w + 1) L) (h2 : vp_in (w + 2) L) (h3 : vp_in (w + 3) L) (h4 : vp_in (w + 4) L) (h5 : vp_in (w + 5) L) (hu : 300 ≤ u) (go : lGo L xs w u Q) : F_L_law_1048 L xs 94 br mo w (hX rs ks vs tl sc wI wL m) u Q := by
  unfold F_L_law_1048 F_L_law_1072 F_L_law_1099
  simp only [h1, h2, h3, h4, h5, true_and]
  by_cases z : xs (w + 3).toNatClampNeg = 0
  · simp only [if_pos z]
    exact ⟨rfl, I_X11_array (d := 98) 300 hu (op_array (d := 94) (W := fun X => X) I (fun _ h => h) (fun a rs ks vs tl sc wI wL m J => by rw [if_pos rfl]; exact go _ _ _ _ _ _ _ _ _ J (by omega)) (by decide))⟩
  · simp only [if_neg z]
    exact ⟨rfl, I_X11_array (d := 98) 300 hu (op_array (d := 94) (W := fun X => X) I (fun _ h => h) (fun a rs ks vs tl sc wI wL m J => by rw [if_pos rfl]; exact go _ _ _ _ _ _ _ _ _ J (by omega)) (by decide))⟩
theorem law_match (I : Inv rs ks vs tl sc wI wL m) (h1 : vp_in (w + 1) L) (h2 : vp_in (w + 2) L) (h3 : vp_in (w + 3) L) (h4 : vp_in (w + 4) L) (h5 : vp_in (w + 5) L) (hu : 300 ≤ u) (go : lGo L xs w u Q) : F_L_law_1107 L xs 94 br mo w (hX rs ks vs tl sc wI wL m) u Q := by
  unfold F_L_law_1107
  simp only [h1, h2, h3, h4, h5, true_and]
  exact ⟨rfl, op_match (W := fun X => X) I (fun _ h => h) (fun a rs ks vs tl sc wI wL m J => by rw [if_pos rfl]; exact go _ _ _ _ _ _ _ _ _ J (by omega))⟩
theorem law_equal (I : Inv rs ks vs tl sc wI wL m) (h1 : vp_in (w + 1) L) (h2 : vp_in (w + 2) L) (h3 : vp_in (w + 3) L) (h4 : vp_in (w + 4) L) (h5 : vp_in (w + 5) L) (hu : 300 ≤ u) (go : lGo L xs w u Q) : F_L_law_1140 L xs 94 br mo w (hX rs ks vs tl sc wI wL m) u Q := by
  unfold F_L_law_1140
  simp only [h1, h2, h3, h4, h5, true_and]
  exact ⟨rfl, op_equal (d := 53) (W := fun X => X) I (fun _ h => h) (fun a rs ks vs tl sc wI wL m J => by rw [if_pos rfl]; exact go _ _ _ _ _ _ _ _ _ J (by omega))⟩
theorem law_order (I : Inv rs ks vs tl sc wI wL m) (h1 : vp_in (w + 1) L) (h2 : vp_in (w + 2) L) (h3 : vp_in (w + 3) L) (h4 : vp_in (w + 4) L) (h5 : vp_in (w + 5) L) (hu : 300 ≤ u) (go : lGo L xs w u Q) : F_L_law_1173 L xs 94 br mo w (hX rs ks vs tl sc wI wL m) u Q := by
  unfold F_L_law_1173
  simp only [h1, h2, h3, h4, h5, true_and]
  exact ⟨rfl, op_order (d := 53) (W := fun X => X) I (fun _ h => h) (fun a rs ks vs tl sc wI wL m J => by rw [if_pos rfl]; exact go _ _ _ _ _ _ _ _ _ J (by omega))⟩
theorem law_hash (I : Inv rs ks vs tl sc wI wL m) (h1 : vp_in (w + 1) L) (h2 : vp_in (w + 2) L) (h3 : vp_in (w + 3) L) (h4 : vp_in (w + 4) L) (h5 : vp_in (w + 5) L) (hu : 300 ≤ u) (go : lGo L xs w u Q) : F_L_law_1206 L xs 94 br mo w (hX rs ks vs tl sc wI wL m) u Q := by
  unfold F_L_law_1206
  simp only [h1, h2, h3, h4, h5, true_and]
  exact ⟨rfl, op_hash (d := 58) (W := fun X => X) I (fun _ h => h) (fun a rs ks vs tl sc wI wL m J => by rw [if_pos (by simp only [lg_cmp_eq])]; exact go _ _ _ _ _ _ _ _ _ J (by omega))⟩
theorem law_weight (I : Inv rs ks vs tl sc wI wL m) (h1 : vp_in (w + 1) L) (h2 : vp_in (w + 2) L) (h3 : vp_in (w + 3) L) (h4 : vp_in (w + 4) L) (h5 : vp_in (w + 5) L) (hu : 300 ≤ u) (go : lGo L xs w u Q) : F_L_law_1230 L xs 94 br mo w (hX rs ks vs tl sc wI wL m) u Q := by
  unfold F_L_law_1230
  simp only [h1, h2, h3, h4, h5, true_and]
  exact ⟨rfl, op_weight (d := 73) (W := fun X => X) I (fun _ h => h) (fun a rs ks vs tl sc wI wL m J => by rw [if_pos rfl]; exact go _ _ _ _ _ _ _ _ _ J (by omega))⟩
theorem law_show (I : Inv rs ks vs tl sc wI wL m) (h1 : vp_in (w + 1) L) (h2 : vp_in (w + 2) L) (h3 : vp_in (w + 3) L) (h4 : vp_in (w + 4) L) (h5 : vp_in (w + 5) L) (hu : 300 ≤ u) (go : lGo L xs w u Q) : F_L_law_1253 L xs 94 br mo w (hX rs ks vs tl sc wI wL m) u Q := by
  unfold F_L_law_1253
  simp only [h1, h2, h3, h4, h5, true_and]
  exact ⟨rfl, op_show (d := 52) (W := fun X => X) I (fun _ h => h) (fun a rs ks vs tl sc wI wL m J => by rw [if_pos rfl]; exact go _ _ _ _ _ _ _ _ _ J (by omega))⟩
theorem law_byteAt (I : Inv rs ks vs tl sc wI wL m) (h1 : vp_in (w + 1) L) (h2 : vp_in (w + 2) L) (h3 : vp_in (w + 3) L) (h4 : vp_in (w + 4) L) (h5 : vp_in (w + 5) L) (hu : 300 ≤ u) (go : lGo L xs w u Q) : F_L_law_1276 L xs 94 br mo w (hX rs ks vs tl sc wI wL m) u Q := by
  unfold F_L_law_1276
  simp only [h1, h2, h3, h4, h5, true_and]
  exact ⟨rfl, op_byteAt (W := fun X => X) I (fun _ h => h) (fun a rs ks vs tl sc wI wL m J => by rw [if_pos rfl]; exact go _ _ _ _ _ _ _ _ _ J (by omega))⟩
theorem law_carry (I : Inv rs ks vs tl sc wI wL m) (h1 : vp_in (w + 1) L) (h2 : vp_in (w + 2) L) (h3 : vp_in (w + 3) L) (h4 : vp_in (w + 4) L) (h5 : vp_in (w + 5) L) (hu : 300 ≤ u) (go : lGo L xs w u Q) : F_L_law_1299 L xs 94 br mo w (hX rs ks vs tl sc wI wL m) u Q := by
  unfold F_L_law_1299
  simp only [h1, h2, h3, h4, h5, true_and]
  exact ⟨rfl, I_X11_carry (d := 93) 300 hu (op_carry (d := 92) (W := fun X => X) I (fun _ h => h) (fun a rs ks vs tl sc wI wL m J => by rw [if_pos rfl]; exact go _ _ _ _ _ _ _ _ _ J (by omega)) (by decide))⟩
theorem law_trace (I : Inv rs ks vs tl sc wI wL m) (h1 : vp_in (w + 1) L) (h2 : vp_in (w + 2) L) (h3 : vp_in (w + 3) L) (h4 : vp_in (w + 4) L) (h5 : vp_in (w + 5) L) (hu : 300 ≤ u) (go : lGo L xs w u Q) : F_L_law_1322 L xs 94 br mo w (hX rs ks vs tl sc wI wL m) u Q := by
  unfold F_L_law_1322
  exact ⟨rfl, op_trace (W := fun X => X) I (fun _ h => h) (fun a => by rw [if_pos rfl]; exact go _ _ _ _ _ _ _ _ _ I (by omega))⟩
theorem law_fault (I : Inv rs ks vs tl sc wI wL m) (h1 : vp_in (w + 1) L) (h2 : vp_in (w + 2) L) (h3 : vp_in (w + 3) L) (h4 : vp_in (w + 4) L) (h5 : vp_in (w + 5) L) (hu : 300 ≤ u) (go : lGo L xs w u Q) : F_L_law_1335 L xs 94 br mo w (hX rs ks vs tl sc wI wL m) u Q := by
  unfold F_L_law_1335
  exact ⟨rfl, op_fault (W := fun X => X) I (fun _ h => h) (fun a => by rw [if_pos rfl]; exact go _ _ _ _ _ _ _ _ _ I (by omega))⟩
theorem law_told (I : Inv rs ks vs tl sc wI wL m) (h1 : vp_in (w + 1) L) (h2 : vp_in (w + 2) L) (h3 : vp_in (w + 3) L) (h4 : vp_in (w + 4) L) (h5 : vp_in (w + 5) L) (hu : 300 ≤ u) (go : lGo L xs w u Q) : F_L_law_1348 L xs 94 br mo w (hX rs ks vs tl sc wI wL m) u Q := by
  unfold F_L_law_1348
  simp only [h1, h2, h3, h4, h5, true_and]
  exact ⟨rfl, op_told (W := fun X => X) I (fun _ h => h) (fun a rs ks vs tl sc wI wL m J => by rw [if_pos rfl]; exact go _ _ _ _ _ _ _ _ _ J (by omega))⟩
theorem ite_both {c A B : Prop} [Decidable c] (ha : A) (hb : B) : if c then A else B := by
  by_cases h : c
  · rw [if_pos h]; exact ha
  · rw [if_neg h]; exact hb
theorem law_len {j : Nat} (hL : L ≤ 3072) (hj : j ≤ 4000) : (Int32.ofNat L) - 6 < nI j ↔ L < j + 6 := by
  have e : ((Int32.ofNat L) - 6).toInt = (L : Int) - 6 := by
    rw [Int32.toInt_sub, show (Int32.ofNat L).toInt = (L : Int) from nI_toInt (by omega), show (6 : Int32).toInt = 6 by decide]
    exact Int.bmod_eq_of_le (by omega) (by omega)
  rw [Int32.lt_iff_toInt_lt, e, nI_toInt (by omega)]
  omega
theorem law_step (hL : L ≤ 3072) {i : Nat} (hi : 6 * i + 6 ≤ L) (I : Inv rs ks vs tl sc wI wL m) (hu : 300 ≤ u) (go : lGo L xs (nI (6 * i)) u Q) (hQ : ∀ h, Q 1 h) : F_L_law_18 L xs 94 br mo (nI (6 * i)) (hX rs ks vs tl sc wI wL m) u Q := by
  have hk : ∀ k, k ≤ 5 → vp_in (nI (6 * i) + nI k) L := fun k hk => by
    rw [nI_add]
    exact vp_in_nI (by omega) (by omega)
  have h0 : vp_in (nI (6 * i)) L := vp_in_nI (by omega) (by omega)
  have h1 := hk 1 (by decide)
  have h2 := hk 2 (by decide)
  have h3 := hk 3 (by decide)
  have h4 := hk 4 (by decide)
  have h5 := hk 5 (by decide)
  unfold F_L_law_18
  rw [if_neg (by rw [law_len hL (by omega)]; omega)]
  refine ⟨h0, ?_⟩
  refine ite_both (law_row I h1 h2 h3 h4 h5 hu go) ?_
  refine ite_both (law_put I h1 h2 h3 h4 h5 hu go) ?_
  refine ite_both (law_get I h1 h2 h3 h4 h5 hu go) ?_
  refine ite_both (law_lay I h1 h2 h3 h4 h5 hu go) ?_
  refine ite_both (law_at I h1 h2 h3 h4 h5 hu go) ?_
  refine ite_both (law_length I h1 h2 h3 h4 h5 hu go) ?_
  refine ite_both (law_copy I h1 h2 h3 h4 h5 hu go) ?_
  refine ite_both (law_twin I h1 h2 h3 h4 h5 hu go) ?_
  refine ite_both (law_record I h1 h2 h3 h4 h5 hu go) ?_
  refine ite_both (law_constants I h1 h2 h3 h4 h5 hu go) ?_
  refine ite_both (law_more I h1 h2 h3 h4 h5 hu go) ?_
  refine ite_both (law_edition I h1 h2 h3 h4 h5 hu go) ?_
  refine ite_both (law_family I h1 h2 h3 h4 h5 hu go) ?_
  refine ite_both (law_info I h1 h2 h3 h4 h5 hu go) ?_
  refine ite_both (law_give I h1 h2 h3 h4 h5 hu go) ?_
  refine ite_both (law_hand I h1 h2 h3 h4 h5 hu go) ?_
  refine ite_both (law_make I h1 h2 h3 h4 h5 hu go) ?_
  refine ite_both (law_named I h1 h2 h3 h4 h5 hu go) ?_
  refine ite_both (law_part I h1 h2 h3 h4 h5 hu go) ?_
  refine ite_both (law_accessor I h1 h2 h3 h4 h5 hu go) ?_
  refine ite_both (law_of I h1 h2 h3 h4 h5 hu go) ?_
  refine ite_both (law_array I h1 h2 h3 h4 h5 hu go) ?_
  refine ite_both (law_match I h1 h2 h3 h4 h5 hu go) ?_
  refine ite_both (law_equal I h1 h2 h3 h4 h5 hu go) ?_
  refine ite_both (law_order I h1 h2 h3 h4 h5 hu go) ?_
  refine ite_both (law_hash I h1 h2 h3 h4 h5 hu go) ?_
  refine ite_both (law_weight I h1 h2 h3 h4 h5 hu go) ?_
  refine ite_both (law_show I h1 h2 h3 h4 h5 hu go) ?_
  refine ite_both (law_byteAt I h1 h2 h3 h4 h5 hu go) ?_
  refine ite_both (law_carry I h1 h2 h3 h4 h5 hu go) ?_
  refine ite_both (law_trace I h1 h2 h3 h4 h5 hu go) ?_
  refine ite_both (law_fault I h1 h2 h3 h4 h5 hu go) ?_
  refine ite_both (law_told I h1 h2 h3 h4 h5 hu go) ?_
  exact go _ _ _ _ _ _ _ _ _ I (by omega)
theorem law_loop (hL : L ≤ 3072) (hQ : ∀ h, Q 1 h) : ∀ (n i : Nat), i + n = 512 → ∀ rs ks vs tl sc wI wL m u, Inv rs ks vs tl sc wI wL m → 300 * n ≤ u → L_L_law_18 L xs 94 br mo (nI (6 * i)) (hX rs ks vs tl sc wI wL m) u Q := by
  intro n
  induction n with
  | zero =>
    intro i hi rs ks vs tl sc wI wL m u I hu
    unfold L_L_law_18
    refine E_L_law_18 ?_
    unfold F_L_law_18
    rw [if_pos ((law_len hL (by omega)).mpr (by omega))]
    exact ⟨nz_1, hQ _⟩
  | succ n ih =>
    intro i hi rs ks vs tl sc wI wL m u I hu
    unfold L_L_law_18
    refine E_L_law_18 ?_
    rcases Nat.lt_or_ge L (6 * i + 6) with z | z
    · unfold F_L_law_18
      rw [if_pos ((law_len hL (by omega)).mpr (by omega))]
      exact ⟨nz_1, hQ _⟩
    · refine law_step hL z I (by omega) (fun rs ks vs tl sc wI wL m u1 J hu1 => ?_) hQ
      rw [show nI (6 * i) + 6 = nI (6 * (i + 1)) from nI_add (6 * i) 6]
      exact ih (i + 1) (by omega) _ _ _ _ _ _ _ _ _ J (by omega)
end Law
