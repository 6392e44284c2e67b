section Ctor2
variable {rs : List RowT} {ks : List KindT} {vs : List ValT} {tl : Nat → Nat → Nat → List Int32} {sc : Nat → Int32} {wI : Nat → List Int32} {wL : Nat → List Int64} {m : MS} {d d2 u : Nat} {v1 v2 v3 v5 v6 : Int32} {v4 : Int64} {W : Prop → Prop}
variable {cp mp h : MH}
/-- the reference half built -/
def hMp (fs : List MV) (j : Nat) (m : MS) : MH := fun n => match n with
  | (40, 0, 0) => some (.inl (11, fs))
  | (41, k, 0) => bif Nat.blt k j then hMa m k else none
  | _ => none
def mLen : Nat → Nat
  | 4 => 60
  | 5 => 60
  | 6 => 60
  | 7 => 1200
  | 8 => 20
  | 10 => 16
  | 11 => 16
  | 12 => 16
  | 13 => 16
  | 14 => 16
  | 15 => 64
  | 16 => 512
  | 17 => 512
  | 18 => 512
  | 20 => 8
  | 21 => 8
  | 22 => 6
  | 23 => 6
  | 25 => 200
  | 26 => 200
  | 27 => 200
  | 28 => 200
  | 29 => 200
  | 30 => 200
  | 31 => 1200
  | 32 => 6
  | 36 => 12
  | 37 => 12
  | 38 => 12
  | 39 => 12
  | 40 => 12
  | 41 => 12
  | 42 => 4200
  | 44 => 4000
  | _ => 0
def m0 : MS := (fun _ => 0, fun k => List.replicate (mLen k) 0, fun k => List.replicate (mLen k) 0)
theorem hMp_end {fs : List MV} (e : fs = mFs m.1) : hMp fs 45 m = hM m := by
  funext n
  unfold hMp hM
  split
  · rw [e]; rfl
  · rename_i k
    cases hb : Nat.blt k 45 with
    | true => rfl
    | false =>
      have : ¬ k < 45 := fun z => by rw [Nat.blt_eq.mpr z] at hb; cases hb
      have hn : mTy k = none := by
        unfold mTy
        split <;> first | rfl | omega
      show none = hMa m k
      unfold hMa
      rw [hn]
  · rename_i h1 h2
    split
    · exact absurd rfl h1
    · exact absurd rfl (h2 _)
    · rfl
theorem hMp_set {fs : List MV} {j k : Nat} {c : MC} (hj : j ≤ k) (gap : ∀ q, q < k → j ≤ q → (mTy q).isNone = true) (hv : hMa m k = some c) : hset (hMp fs j m) (41, k, 0) c = hMp fs (k + 1) m := by
  funext n
  unfold hset
  by_cases e : n = (41, k, 0)
  · subst e
    rw [if_pos rfl]
    show some c = bif Nat.blt k (k + 1) then hMa m k else none
    rw [Nat.blt_eq.mpr (Nat.lt_succ_self k), hv]; rfl
  · rw [if_neg e]
    unfold hMp
    split
    · rfl
    · rename_i q
      have hq : q ≠ k := fun z => e (by rw [z])
      rcases Nat.lt_or_ge q j with z | z
      · rw [Nat.blt_eq.mpr z, Nat.blt_eq.mpr (show q < k + 1 by omega)]
      · have b1 : Nat.blt q j = false := by
          cases hb : Nat.blt q j with
          | false => rfl
          | true => have := Nat.blt_eq.mp hb; omega
        rw [b1]
        rcases Nat.lt_or_ge q k with z2 | z2
        · rw [Nat.blt_eq.mpr (show q < k + 1 by omega)]
          have := gap q z2 z
          have hn : mTy q = none := by
            cases hm : mTy q with
            | none => rfl
            | some t => rw [hm] at this; cases this
          show none = hMa m q
          unfold hMa
          rw [hn]
        · have b2 : Nat.blt q (k + 1) = false := by
            cases hb : Nat.blt q (k + 1) with
            | false => rfl
            | true => have := Nat.blt_eq.mp hb; omega
          rw [b2]
    · rfl
theorem r_step {j k len : Nat} {ty : FieldType} {fs : List MV} {K : MH → Nat → Prop} (hj : j ≤ k) (gap : ∀ q, q < k → j ≤ q → (mTy q).isNone = true) (hv : hMa m k = some (.inr (ty, List.replicate len (dflt ty)))) (hl : len ≤ 65536) (hu : len + 1 ≤ u) (H : K (hJ cp (hMp (fs.set k (jR (some (41, k, 0)))) (k + 1) m)) (u - (len + 1))) : nA ty (hJ cp (hMp fs j m)) u (nI len) fun x h u => pV h mo 11 k (jR (some x)) fun h => K h u := by
  have b1 : Nat.blt k j = false := by
    cases hb : Nat.blt k j with
    | false => rfl
    | true => have := Nat.blt_eq.mp hb; omega
  refine nA_raw (41, k, 0) hl hu (by
    show (bif Nat.blt k j then hMa m k else none) = none
    rw [b1]; rfl) (by show 41 ≠ 0; decide) ?_
  rw [hJ_setM (by show ¬ 41 < 40; decide), hMp_set hj gap hv]
  refine pV_raw (fs := fs) rfl ?_
  rw [hJ_setM (by show ¬ 40 < 40; decide)]
  have e : hset (hMp fs (k + 1) m) (40, 0, 0) (.inl (11, fs.set k (jR (some (41, k, 0))))) = hMp (fs.set k (jR (some (41, k, 0)))) (k + 1) m := by
    funext n
    unfold hset
    by_cases e : n = (40, 0, 0)
    · subst e; rw [if_pos rfl]; rfl
    · rw [if_neg e]
      unfold hMp
      split
      · exact absurd rfl e
      · rfl
      · rfl
  rw [e]
  exact H
theorem m0_I {k len : Nat} {ty : FieldType} (ht : mTy k = some ty) (hl : ty ≠ .long) (hd : dflt ty = jI 0) (he : mLen k = len) : hMa m0 k = some (.inr (ty, List.replicate len (dflt ty))) := by
  unfold hMa
  rw [ht]
  split
  · rename_i q; cases q
  · rename_i q; cases q; exact absurd rfl hl
  · rename_i q; cases q
    show (some (Sum.inr (ty, (List.replicate (mLen k) (0 : Int32)).map jI)) : Option MC) = _
    rw [List.map_replicate, he, hd]
theorem m0_L {k len : Nat} (ht : mTy k = some .long) (he : mLen k = len) : hMa m0 k = some (.inr (.long, List.replicate len (dflt .long))) := by
  unfold hMa
  rw [ht]
  show (some (Sum.inr (.long, (List.replicate (mLen k) (0 : Int64)).map jL)) : Option MC) = _
  rw [List.map_replicate, he]; rfl
theorem r_tray {Q : MH → Prop} (H : ∀ l : List Int32, l.length = 6 → (∀ q, q < 6 → l.getD q 0 = -5) → Q (hJ cp (hM (mA m 22 l)))) : ∀ (p i : Nat) (l : List Int32), i + p = 6 → l.length = 6 → (∀ q, q < i → l.getD q 0 = -5) → L_X12_init_291 d mo (nI i) (hJ cp (hM (mA m 22 l))) u Q := by
  intro p
  induction p with
  | zero =>
    intro i l hi hl hh
    unfold L_X12_init_291
    refine E_X12_init_291 ?_
    unfold F_X12_init_291
    rw [if_pos (show (6 : Int32) ≤ nI i from nI_le (a := 6) (by omega) (by omega))]
    exact H l hl (fun q hq => hh q (by omega))
  | succ p ih =>
    intro i l hi hl hh
    unfold L_X12_init_291
    refine E_X12_init_291 ?_
    unfold F_X12_init_291
    rw [if_neg (show ¬ (6 : Int32) ≤ nI i from nI_ge (b := 6) (by omega) (by omega))]
    simp only [m_g22, m_s22, mA_1, mB_1, mI_1, mI_21, mI_22, mA_21, mA_22, mB_21, mB_22, Nat.reduceEqDiff, Nat.reduceEqDiff, reduceCtorEq, if_false, if_true, inb_nI (show i < 2 ^ 31 by omega), nI_clamp (show i < 2 ^ 31 by omega), hl, nI_1, mA_mA]
    refine ⟨by omega, ih (i + 1) _ (by omega) (by rw [List.length_set]; exact hl) (fun q hq => ?_)⟩
    rw [lset_getD]
    by_cases e : i = q
    · rw [if_pos ⟨e, by omega⟩]
    · rw [if_neg (by omega)]
      exact hh q (by omega)

set_option maxRecDepth 4000 in
theorem r_init {Q : MH → Prop} {fs : List MV} (hfs : fs = [jI 0, jI 0, jI 0, jI 0, jR none, jR none, jR none, jR none, jR none, jI 0, jR none, jR none, jR none, jR none, jR none, jR none, jR none, jR none, jR none, jI 0, jR none, jR none, jR none, jR none, jI 0, jR none, jR none, jR none, jR none, jR none, jR none, jR none, jR none, jI 0, jI 0, jI 0, jR none, jR none, jR none, jR none, jR none, jR none, jR none, jI 0, jR none, jI 0]) (H : ∀ l : List Int32, l.length = 6 → (∀ q, q < 6 → l.getD q 0 = -5) → Q (hJ cp (hM (mA m0 22 l)))) : F_X12_init d mo (hJ cp (hMp fs 0 m0)) 20000 Q := by
  unfold F_X12_init
  refine nn_in ?_
  refine r_step (k := 4) (len := 60) (by decide) (by decide) (m0_I rfl (by decide) rfl rfl) (by decide) (by decide) ?_
  refine r_step (k := 5) (len := 60) (by decide) (by decide) (m0_I rfl (by decide) rfl rfl) (by decide) (by decide) ?_
  refine r_step (k := 6) (len := 60) (by decide) (by decide) (m0_I rfl (by decide) rfl rfl) (by decide) (by decide) ?_
  refine r_step (k := 7) (len := 1200) (by decide) (by decide) (m0_L rfl rfl) (by decide) (by decide) ?_
  refine r_step (k := 8) (len := 20) (by decide) (by decide) (m0_L rfl rfl) (by decide) (by decide) ?_
  refine r_step (k := 10) (len := 16) (by decide) (by decide) (m0_I rfl (by decide) rfl rfl) (by decide) (by decide) ?_
  refine r_step (k := 11) (len := 16) (by decide) (by decide) (m0_I rfl (by decide) rfl rfl) (by decide) (by decide) ?_
  refine r_step (k := 12) (len := 16) (by decide) (by decide) (m0_I rfl (by decide) rfl rfl) (by decide) (by decide) ?_
  refine r_step (k := 13) (len := 16) (by decide) (by decide) (m0_I rfl (by decide) rfl rfl) (by decide) (by decide) ?_
  refine r_step (k := 14) (len := 16) (by decide) (by decide) (m0_I rfl (by decide) rfl rfl) (by decide) (by decide) ?_
  refine r_step (k := 15) (len := 64) (by decide) (by decide) (m0_I rfl (by decide) rfl rfl) (by decide) (by decide) ?_
  refine r_step (k := 16) (len := 512) (by decide) (by decide) (m0_I rfl (by decide) rfl rfl) (by decide) (by decide) ?_
  refine r_step (k := 17) (len := 512) (by decide) (by decide) (m0_I rfl (by decide) rfl rfl) (by decide) (by decide) ?_
  refine r_step (k := 18) (len := 512) (by decide) (by decide) (m0_I rfl (by decide) rfl rfl) (by decide) (by decide) ?_
  refine r_step (k := 20) (len := 8) (by decide) (by decide) (m0_I rfl (by decide) rfl rfl) (by decide) (by decide) ?_
  refine r_step (k := 21) (len := 8) (by decide) (by decide) (m0_I rfl (by decide) rfl rfl) (by decide) (by decide) ?_
  refine r_step (k := 22) (len := 6) (by decide) (by decide) (m0_I rfl (by decide) rfl rfl) (by decide) (by decide) ?_
  refine r_step (k := 23) (len := 6) (by decide) (by decide) (m0_L rfl rfl) (by decide) (by decide) ?_
  refine r_step (k := 25) (len := 200) (by decide) (by decide) (m0_I rfl (by decide) rfl rfl) (by decide) (by decide) ?_
  refine r_step (k := 26) (len := 200) (by decide) (by decide) (m0_I rfl (by decide) rfl rfl) (by decide) (by decide) ?_
  refine r_step (k := 27) (len := 200) (by decide) (by decide) (m0_I rfl (by decide) rfl rfl) (by decide) (by decide) ?_
  refine r_step (k := 28) (len := 200) (by decide) (by decide) (m0_I rfl (by decide) rfl rfl) (by decide) (by decide) ?_
  refine r_step (k := 29) (len := 200) (by decide) (by decide) (m0_I rfl (by decide) rfl rfl) (by decide) (by decide) ?_
  refine r_step (k := 30) (len := 200) (by decide) (by decide) (m0_I rfl (by decide) rfl rfl) (by decide) (by decide) ?_
  refine r_step (k := 31) (len := 1200) (by decide) (by decide) (m0_L rfl rfl) (by decide) (by decide) ?_
  refine r_step (k := 32) (len := 6) (by decide) (by decide) (m0_L rfl rfl) (by decide) (by decide) ?_
  refine r_step (k := 36) (len := 12) (by decide) (by decide) (m0_I rfl (by decide) rfl rfl) (by decide) (by decide) ?_
  refine r_step (k := 37) (len := 12) (by decide) (by decide) (m0_I rfl (by decide) rfl rfl) (by decide) (by decide) ?_
  refine r_step (k := 38) (len := 12) (by decide) (by decide) (m0_I rfl (by decide) rfl rfl) (by decide) (by decide) ?_
  refine r_step (k := 39) (len := 12) (by decide) (by decide) (m0_I rfl (by decide) rfl rfl) (by decide) (by decide) ?_
  refine r_step (k := 40) (len := 12) (by decide) (by decide) (m0_I rfl (by decide) rfl rfl) (by decide) (by decide) ?_
  refine r_step (k := 41) (len := 12) (by decide) (by decide) (m0_I rfl (by decide) rfl rfl) (by decide) (by decide) ?_
  refine r_step (k := 42) (len := 4200) (by decide) (by decide) (m0_I rfl (by decide) rfl rfl) (by decide) (by decide) ?_
  refine r_step (k := 44) (len := 4000) (by decide) (by decide) (m0_I rfl (by decide) rfl rfl) (by decide) (by decide) ?_
  rw [hMp_end (by subst hfs; rfl)]
  have e : mA m0 22 (m0.2.1 22) = m0 := by unfold mA; rw [up_id]
  have key : ∀ u1, L_X12_init_291 d mo (nI 0) (hJ cp (hM m0)) u1 Q := fun u1 => by
    have := r_tray (cp := cp) (m := m0) (d := d) (u := u1) H 6 0 (m0.2.1 22) (by decide) (by decide) (fun q hq => absurd hq (Nat.not_lt_zero q))
    rw [e] at this
    exact this
  exact key _
end Ctor2
