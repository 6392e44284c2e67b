section Start
theorem inv0 {l : List Int32} (hl : l.length = 6) (h5 : ∀ q, q < 6 → l.getD q 0 = -5) : Inv [] [] [] (fun _ _ _ => []) (fun _ => 0) wI0 (fun _ => List.replicate 6 0) (mA m0 22 l) := by
  have rl : ∀ k, ((m0.2.1 k).length = mLen k) := fun k => List.length_replicate
  have rl2 : ∀ k, ((m0.2.2 k).length = mLen k) := fun k => List.length_replicate
  have rg : ∀ k j, (m0.2.1 k).getD j 0 = 0 := fun k j => by
    show (List.replicate (mLen k) (0 : Int32)).getD j 0 = 0
    rw [List.getD_eq_getElem?_getD, List.getElem?_replicate]
    split <;> rfl
  have nI0 : nI 0 = 0 := rfl
  refine ⟨⟨⟨by simp, fun r hr => (by cases hr)⟩, ⟨by simp, fun r hr => (by cases hr)⟩, fun j k hk => (by cases hk), ⟨by simp, fun j v hv => (by cases hv)⟩, ?_, ?_⟩, ?_, ?_, ?_, ?_⟩
  · exact ⟨List.length_replicate, List.length_replicate, List.length_replicate, List.length_replicate, List.length_replicate, List.length_replicate, List.length_replicate, List.length_replicate, List.length_replicate, ⟨0, by decide, rfl, fun i hi => absurd hi (Nat.not_lt_zero i)⟩, rfl, ⟨0, by decide, rfl⟩⟩
  · intro i hi
    refine Or.inl ?_
    show (List.replicate 6 (-1 : Int32)).getD i 0 = -1
    rw [List.getD_eq_getElem?_getD, List.getElem?_replicate, if_pos hi]; rfl
  · unfold mRows
    simp only [mA_1, mB_1, mI_1, mI_21, mI_22, mA_21, mA_22, mB_21, mB_22, Nat.reduceEqDiff, Nat.reduceEqDiff, reduceCtorEq, if_false, if_true, rl, rl2]
    exact ⟨rfl, rfl, rfl, rfl, rfl, rfl, fun j r hr => (by cases hr)⟩
  · unfold mKinds
    simp only [mA_1, mB_1, mI_1, mI_21, mI_22, mA_21, mA_22, mB_21, mB_22, Nat.reduceEqDiff, Nat.reduceEqDiff, reduceCtorEq, if_false, if_true, rl, rl2, rg]
    exact ⟨rfl, rfl, rfl, rfl, rfl, rfl, rfl, rfl, rfl, rfl, fun j r hr => (by cases hr), fun j _ _ => ⟨trivial, trivial, trivial, trivial⟩⟩
  · unfold mVals
    simp only [mA_1, mB_1, mI_1, mI_21, mI_22, mA_21, mA_22, mB_21, mB_22, Nat.reduceEqDiff, Nat.reduceEqDiff, reduceCtorEq, if_false, if_true, rl, rl2, rg]
    exact ⟨rfl, rfl, rfl, rfl, rfl, rfl, rfl, rfl, rfl, fun j r hr => (by cases hr), fun j _ _ => trivial⟩
  · unfold mMisc
    simp only [mA_1, mB_1, mI_1, mI_21, mI_22, mA_21, mA_22, mB_21, mB_22, Nat.reduceEqDiff, Nat.reduceEqDiff, reduceCtorEq, if_false, if_true, rl, rl2, rg, hl]
    refine ⟨rfl, rfl, rfl, rfl, rfl, rfl, trivial, rfl, fun i hi => ?_, rfl, rfl, rfl, rfl, rfl, rfl, rfl, rfl, rfl, fun i h1 h2 => ?_⟩
    · have e : (wI0 2).getD i 0 = -1 := by
        show (List.replicate 6 (-1 : Int32)).getD i 0 = -1
        rw [List.getD_eq_getElem?_getD, List.getElem?_replicate, if_pos hi]; rfl
      rw [e, if_pos rfl]
      exact ⟨h5 i hi, fun z => absurd rfl z⟩
    · show 0 = (List.replicate 4000 (0 : Int32)).getD i 0
      rw [List.getD_eq_getElem?_getD, List.getElem?_replicate]
      split <;> rfl
theorem law_T {L : Nat} {xs : Nat → Int32} (hL : L ≤ 3072) : T (uL L xs) 100 0 [some (jR (some scr)), none, none, none] [] (fun _ => none) 600000 (fun v _ => v = some (jI 1)) := by
  have key : T (uL L xs) (94 + 6) 0 [some (jR (some scr)), none, none, none] [] (fun _ => none) 600000 (qI (fun x _ => x = 1)) := by
    refine E_L_law ?_
    unfold F_L_law
    show nO (al []) _ _ _ _
    refine a_nO (l' := [((1, 0, 0), .inl (10, [jR none, jR none, jR none, jR none, jR none, jR none, jR none, jR none, jI 0, jI 0, jI 0, jI 0, jI 0, jI 0]))]) (1, 0, 0) (by decide) rfl (by decide) rfl ?_
    refine I_X11_init (d := 97) 9000 (by decide) (c_init (d := 95) (fun l hl => ?_))
    rw [hl]
    have e0 : hC [] [] [] (fun _ _ _ => []) (fun _ => 0) wI0 (fun _ => List.replicate 6 0) = hJ (hC [] [] [] (fun _ _ _ => []) (fun _ => 0) wI0 (fun _ => List.replicate 6 0)) (fun _ => none) := by
      funext n
      unfold hJ
      cases hb : Nat.blt n.1 40 with
      | true => rfl
      | false =>
        have h40 : ¬ n.1 < 40 := fun z => by rw [Nat.blt_eq.mpr z] at hb; cases hb
        show _ = none
        unfold hC
        split <;> first | rfl | exact absurd (by decide) h40
    rw [e0]
    refine nO_raw (40, 0, 0) (by decide) rfl (by decide) ?_
    rw [hJ_setM (by decide)]
    have e1 : ∀ fs : List MV, hset (fun _ => none) (40, 0, 0) (.inl (11, fs)) = hMp fs 0 m0 := by
      intro fs
      funext n
      unfold hset hMp
      by_cases e : n = (40, 0, 0)
      · subst e; rw [if_pos rfl]; rfl
      · rw [if_neg e]
        split
        · exact absurd rfl e
        · rfl
        · rfl
    rw [e1]
    refine I_X12_init (d := 98) 20000 (by decide) (r_init rfl (fun l h6 h5 => ?_))
    exact law_loop hL (fun _ => rfl) 512 0 (by decide) _ _ _ _ _ _ _ _ _ (inv0 h6 h5) (by decide)
  refine T.mono (fun v h hv => ?_) key
  unfold qI at hv
  split at hv
  · rw [hv]
  · exact absurd hv id
end Start
