section Text
variable {rs : List RowT} {ks : List KindT} {vs : List ValT} {tl : Nat → Nat → Nat → List Int32} {sc : Nat → Int32} {wI : Nat → List Int32} {wL : Nat → List Int64} {m : MS} {d d2 u : Nat} {v1 v2 v3 v5 v6 : Int32} {v4 : Int64} {W : Prop → Prop}
variable {cp mp h : MH}
/-! numbers in tens -/
theorem bm64 {x : Int} (h1 : -9223372036854775808 ≤ x) (h2 : x < 9223372036854775808) : x.bmod (2 ^ 64) = x := Int.bmod_eq_of_le (by omega) (by omega)
theorem ng_div {x y : Int64} {a c : Nat} (hx : x.toInt = -(a : Int)) (ha : a ≤ 9223372036854775808) (hy : y.toInt = (c : Int)) (hc : 0 < c) (h1 : c = 1 → a < 9223372036854775808 ∨ True) : (x / y).toInt = -((a / c : Nat) : Int) := by
  rw [Int64.toInt_div, hx, hy, Int.neg_tdiv, ← Int.ofNat_tdiv]
  have h9 : a / c ≤ a := Nat.div_le_self a c
  obtain ⟨q, hq⟩ : ∃ q, q = a / c := ⟨_, rfl⟩
  rw [← hq] at h9 ⊢
  exact bm64 (by omega) (by omega)
theorem ten64 : (10 : Int64).toInt = ((10 : Nat) : Int) := by decide
theorem ng_rem {x : Int64} {a : Nat} (hx : x.toInt = -(a : Int)) (ha : a ≤ 9223372036854775808) : (x - x / 10 * 10).toInt = -((a % 10 : Nat) : Int) := by
  have hd := ng_div hx ha ten64 (by omega) (fun _ => Or.inr trivial)
  have hm : (x / 10 * 10).toInt = -((a / 10 * 10 : Nat) : Int) := by
    rw [Int64.toInt_mul, hd, ten64]
    rw [bm64 (by omega) (by omega)]
    omega
  rw [Int64.toInt_sub, hx, hm, bm64 (by omega) (by omega)]
  omega
theorem ng_dig {x : Int64} {a : Nat} (hx : x.toInt = -(a : Int)) (ha : a ≤ 9223372036854775808) : (48 - (x - x / 10 * 10)).toInt32 = nI (48 + a % 10) := by
  have hr := ng_rem hx ha
  have e48 : (48 : Int64).toInt = 48 := by decide
  have : (48 - (x - x / 10 * 10)).toInt = ((48 + a % 10 : Nat) : Int) := by
    rw [Int64.toInt_sub, hr, e48, bm64 (by omega) (by omega)]
    omega
  exact l2i_nat this (by omega)
def dgt (a j : Nat) : Int32 := nI (48 + a / 10 ^ j % 10)
def decJ (a : Nat) : Nat → List Int32
  | 0 => [dgt a 0]
  | j + 1 => dgt a (j + 1) :: decJ a j
def ndF (a : Nat) : Nat → Nat → Nat
  | 0, j => j
  | r + 1, j => if a / 10 ^ (j + 1) = 0 then j else ndF a r (j + 1)
def nStr (x : Int64) : List Int32 := (if 0 ≤ x then [] else [45]) ++ decJ x.toInt.natAbs (ndF x.toInt.natAbs 19 0)
def bOK (x : Int32) : Prop := x.toInt8.toInt32 = x
theorem bK {c : Int32} (h : c.toInt8.toInt32 = c) : bOK c := h
theorem dgt_b : ∀ k : Nat, k < 10 → bOK (nI (48 + k)) := by
  have : ∀ k : Nat, k < 10 → (nI (48 + k)).toInt8.toInt32 = nI (48 + k) := by decide +kernel
  exact this
theorem dgt_ok {a j : Nat} : bOK (dgt a j) := dgt_b _ (Nat.mod_lt _ (by decide))
theorem dgt_c : ∀ k : Nat, k < 10 → vp_nar .char (((nI (48 + k)).toUInt32 % 65536).toInt32) = nI (48 + k) := by decide +kernel
/-! what is written, up to 4000 bytes -/
abbrev TS : Type := Option (List Int32)
def tAdd (X : TS) (s : List Int32) : TS := match X with
  | none => none
  | some o => if o.length + s.length ≤ 4000 then some (o ++ s) else none
theorem tAdd_some {o s : List Int32} : tAdd (some o) s = if o.length + s.length ≤ 4000 then some (o ++ s) else none := rfl
theorem tAdd_app {X : TS} {s r : List Int32} : tAdd (tAdd X s) r = tAdd X (s ++ r) := by
  cases X with
  | none => rfl
  | some o =>
    unfold tAdd
    by_cases h : o.length + s.length ≤ 4000
    · simp only [if_pos h]
      simp only [List.length_append, List.append_assoc, Nat.add_assoc]
    · simp only [if_neg h]
      rw [if_neg (by simp; omega)]
theorem tAdd_none {s : List Int32} : tAdd none s = none := rfl
def cIx (b : Bool) : Nat := if b then 10 else 8
def oIx (b : Bool) : Nat := if b then 11 else 9
def bIx (b : Bool) : Nat := if b then 5 else 3
def dIx (b : Bool) : Nat := if b then 6 else 4
def tN (b : Bool) : Nm := if b then (15, 0, 0) else (12, 0, 0)
def bN (b : Bool) : Nm := if b then (16, 0, 0) else (13, 0, 0)
def dN (b : Bool) : Nm := if b then (17, 0, 0) else (14, 0, 0)
section T
variable {b : Bool}
theorem x_rc : rc (hJ (hC rs ks vs tl sc wI wL) mp) (some (tN b)) 7 := by cases b <;> rfl
theorem x_g0 {K : Option Nm → Prop} : gR (hJ (hC rs ks vs tl sc wI wL) mp) (some (tN b)) 7 0 K ↔ K (some (bN b)) := by cases b; exact c_g12_0; exact c_g15_0
theorem x_g1 {K : Option Nm → Prop} : gR (hJ (hC rs ks vs tl sc wI wL) mp) (some (tN b)) 7 1 K ↔ K (some (dN b)) := by cases b; exact c_g12_1; exact c_g15_1
theorem x_g2 {K : Int32 → Prop} : gI (hJ (hC rs ks vs tl sc wI wL) mp) (some (tN b)) 7 2 K ↔ K (sc (cIx b)) := by cases b; exact c_g12_2; exact c_g15_2
theorem x_g3 {K : Int32 → Prop} : gI (hJ (hC rs ks vs tl sc wI wL) mp) (some (tN b)) 7 3 K ↔ K (sc (oIx b)) := by cases b; exact c_g12_3; exact c_g15_3
theorem x_p2 {x : Int32} {K : MH → Prop} : pV (hJ (hC rs ks vs tl sc wI wL) mp) (some (tN b)) 7 2 (jI x) K ↔ K (hJ (hC rs ks vs tl (up sc (cIx b) x) wI wL) mp) := by cases b; exact c_p12_2; exact c_p15_2
theorem x_p3 {x : Int32} {K : MH → Prop} : pV (hJ (hC rs ks vs tl sc wI wL) mp) (some (tN b)) 7 3 (jI x) K ↔ K (hJ (hC rs ks vs tl (up sc (oIx b) x) wI wL) mp) := by cases b; exact c_p12_3; exact c_p15_3
theorem x_sB {i x : Int32} {K : MH → Prop} : sV .byte (hJ (hC rs ks vs tl sc wI wL) mp) (some (bN b)) i (jI x) K ↔ inb (wI (bIx b)) i ∧ K (hJ (hC rs ks vs tl sc (up wI (bIx b) ((wI (bIx b)).set i.toNatClampNeg x)) wL) mp) := by cases b; exact c_s13; exact c_s16
theorem x_sD {i x : Int32} {K : MH → Prop} : sV .char (hJ (hC rs ks vs tl sc wI wL) mp) (some (dN b)) i (jI x) K ↔ inb (wI (dIx b)) i ∧ K (hJ (hC rs ks vs tl sc (up wI (dIx b) ((wI (dIx b)).set i.toNatClampNeg x)) wL) mp) := by cases b; exact c_s14; exact c_s17
theorem x_aD {i : Int32} {K : Int32 → Prop} : aI .char (hJ (hC rs ks vs tl sc wI wL) mp) (some (dN b)) i K ↔ inb (wI (dIx b)) i ∧ K (rdI (wI (dIx b)) i) := by cases b; exact c_a14; exact c_a17
/-- the class's text that is being written -/
def SX (sc0 : Nat → Int32) (wI0 : Nat → List Int32) (b : Bool) (X : TS) (sc : Nat → Int32) (wI : Nat → List Int32) : Prop := (∀ k, k ≠ cIx b → k ≠ oIx b → sc k = sc0 k) ∧ (∀ k, k ≠ bIx b → k ≠ dIx b → wI k = wI0 k) ∧ (wI (bIx b)).length = 4000 ∧ (wI (dIx b)).length = 20 ∧ match X with
  | some o => o.length ≤ 4000 ∧ sc (cIx b) = nI o.length ∧ sc (oIx b) = 0 ∧ (∀ x ∈ o, bOK x) ∧ ∀ i x, o[i]? = some x → (wI (bIx b)).getD i 0 = x
  | none => sc (oIx b) = 1 ∧ sc (cIx b) = nI 4000
variable {sc0 : Nat → Int32} {wI0 : Nat → List Int32} {X : TS}
theorem co_ne : cIx b ≠ oIx b := by cases b <;> decide
theorem bd_ne : bIx b ≠ dIx b := by cases b <;> decide
theorem s_addSign {c : Int32} (hS : SX sc0 wI0 b X sc wI) (hc : bOK c) {Q : MH → Prop} (H : ∀ sc' wI', SX sc0 wI0 b (tAdd X [c]) sc' wI' → wI' (dIx b) = wI (dIx b) → Q (hJ (hC rs ks vs tl sc' wI' wL) mp)) : F_X8_addSign d (some (tN b)) c (hJ (hC rs ks vs tl sc wI wL) mp) u Q := by
  obtain ⟨s1, s2, s3, s4, s5⟩ := hS
  have hcc : c.toInt8.toInt32 = c := hc
  unfold F_X8_addSign
  refine x_g2.mpr ?_
  cases X with
  | none =>
    simp only at s5
    rw [s5.2, if_pos (show (4000 : Int32) ≤ nI 4000 by decide)]
    refine ⟨nz_1, x_p3.mpr (H _ _ ⟨fun k h1 h2 => by rw [up_n h2]; exact s1 k h1 h2, s2, s3, s4, ?_⟩ rfl)⟩
    show _ ∧ _
    rw [up_s, up_n co_ne]
    exact ⟨rfl, s5.2⟩
  | some o =>
    simp only at s5
    obtain ⟨o1, o2, o3, o4, o5⟩ := s5
    rw [o2]
    by_cases h4 : o.length = 4000
    · rw [if_pos (show (4000 : Int32) ≤ nI o.length by rw [h4]; decide)]
      refine ⟨nz_1, x_p3.mpr (H _ _ ⟨fun k h1 h2 => by rw [up_n h2]; exact s1 k h1 h2, s2, s3, s4, ?_⟩ rfl)⟩
      have e : tAdd (some o) [c] = none := by rw [tAdd_some, if_neg (by simp; omega)]
      rw [e]
      show _ ∧ _
      rw [up_s, up_n co_ne, o2, h4]
      exact ⟨rfl, rfl⟩
    · rw [if_neg (show ¬ (4000 : Int32) ≤ nI o.length from nI_ge (b := 4000) (by omega) (by omega))]
      refine x_g0.mpr (x_g2.mpr ?_)
      rw [o2]
      refine x_sB.mpr ⟨(inb_nI (by omega)).mpr (by omega), x_g2.mpr (x_p2.mpr (H _ _ ⟨fun k h1 h2 => by rw [up_n h1]; exact s1 k h1 h2, fun k h1 h2 => by rw [up_n h1]; exact s2 k h1 h2, by rw [up_s, List.length_set]; exact s3, by rw [up_n bd_ne.symm]; exact s4, ?_⟩ (by rw [up_n bd_ne.symm])))⟩
      have e : tAdd (some o) [c] = some (o ++ [c]) := by rw [tAdd_some, if_pos (by simp; omega)]
      rw [e]
      show _ ∧ _ ∧ _ ∧ _ ∧ _
      rw [up_s, up_n co_ne.symm, up_s, nI_clamp (by omega), hcc, hcc, o2]
      refine ⟨by simp; omega, by simp [nI_1], o3, fun x hx => ?_, fun i x hx => ?_⟩
      · rcases List.mem_append.mp hx with z | z
        · exact o4 x z
        · rw [List.mem_singleton.mp z]; exact hc
      · rw [lset_getD]
        rcases app_case hx with z | ⟨rfl, rfl⟩
        · have := (List.getElem?_eq_some_iff.mp z).1
          rw [if_neg (by omega)]
          exact o5 i x z
        · rw [if_pos ⟨rfl, by omega⟩]
theorem s_addNumber {x : Int64} (hS : SX sc0 wI0 b X sc wI) {Q : MH → Prop} (H : ∀ sc' wI', SX sc0 wI0 b (tAdd X (nStr x)) sc' wI' → Q (hJ (hC rs ks vs tl sc' wI' wL) mp)) : F_X8_addNumber d (some (tN b)) x (hJ (hC rs ks vs tl sc wI wL) mp) u Q := by
  have hxr : -9223372036854775808 ≤ x.toInt ∧ x.toInt < 9223372036854775808 := ⟨x.le_toInt, x.toInt_lt⟩
  obtain ⟨a, ha⟩ : ∃ a, a = x.toInt.natAbs := ⟨_, rfl⟩
  have ha2 : a ≤ 9223372036854775808 := by omega
  -- the digits go out
  have out : ∀ (j : Nat) (sc : Nat → Int32) (wI : Nat → List Int32) (Y : TS), j < 20 → SX sc0 wI0 b Y sc wI → (∀ i, i ≤ j → (wI (dIx b)).getD i 0 = dgt a i) → tAdd Y (decJ a j) = tAdd X (nStr x) → L_X8_addNumber_74 d (some (tN b)) (nI j) (hJ (hC rs ks vs tl sc wI wL) mp) u Q := by
    intro j
    induction j with
    | zero =>
      intro sc wI Y hj hS hD hY
      unfold L_X8_addNumber_74
      refine E_X8_addNumber_74 ?_
      unfold F_X8_addNumber_74
      rw [if_neg (nI_pos (by omega))]
      refine x_g1.mpr (x_aD.mpr ⟨(inb_nI (by omega)).mpr (by rw [hS.2.2.2.1]; omega), x_rc, ?_⟩)
      rw [rdI_nI (by omega), hD 0 (Nat.le_refl _)]
      refine s_addSign hS dgt_ok (fun sc' wI' hS' _ => ?_)
      unfold L_X8_addNumber_74
      refine E_X8_addNumber_74 ?_
      unfold F_X8_addNumber_74
      rw [if_pos (by decide)]
      refine H sc' wI' ?_
      rw [← hY]
      exact hS'
    | succ j ih =>
      intro sc wI Y hj hS hD hY
      unfold L_X8_addNumber_74
      refine E_X8_addNumber_74 ?_
      unfold F_X8_addNumber_74
      rw [if_neg (nI_pos (by omega))]
      refine x_g1.mpr (x_aD.mpr ⟨(inb_nI (by omega)).mpr (by rw [hS.2.2.2.1]; omega), x_rc, ?_⟩)
      rw [rdI_nI (by omega), hD (j + 1) (Nat.le_refl _)]
      refine s_addSign hS dgt_ok (fun sc' wI' hS' hd' => ?_)
      rw [show nI (j + 1) + -1 = nI j by rw [← Int32.sub_eq_add_neg]; exact pm1]
      refine ih sc' wI' _ (by omega) hS' (fun i hi => by rw [hd']; exact hD i (by omega)) ?_
      rw [tAdd_app]
      exact hY
  -- the digits are found
  have dig : ∀ (r j : Nat) (y : Int64) (sc : Nat → Int32) (wI : Nat → List Int32) (Y : TS), j + r = 19 → (j = 0 ∨ ¬ a / 10 ^ j = 0) → y.toInt = -((a / 10 ^ j : Nat) : Int) → SX sc0 wI0 b Y sc wI → (∀ i, i < j → (wI (dIx b)).getD i 0 = dgt a i) → ndF a 19 0 = ndF a r j → tAdd Y (decJ a (ndF a 19 0)) = tAdd X (nStr x) → L_X8_addNumber_28 d (some (tN b)) y (nI j) (hJ (hC rs ks vs tl sc wI wL) mp) u Q := by
    intro r
    induction r with
    | zero =>
      intro j y sc wI Y hj h0 hy hS hD hn hY
      have : j = 19 := by omega
      subst this
      rcases h0 with z | z
      · omega
      · exact absurd (Nat.div_eq_of_lt (by omega)) z
    | succ r ih =>
      intro j y sc wI Y hj h0 hy hS hD hn hY
      have hdl : a / 10 ^ j ≤ 9223372036854775808 := Nat.le_trans (Nat.div_le_self _ _) ha2
      have hdv := ng_div hy hdl ten64 (by omega) (fun _ => Or.inr trivial)
      have e10 : a / 10 ^ j / 10 = a / 10 ^ (j + 1) := by rw [Nat.div_div_eq_div_mul, Nat.pow_succ]
      rw [e10] at hdv
      rw [show ndF a (r + 1) j = if a / 10 ^ (j + 1) = 0 then j else ndF a r (j + 1) from rfl] at hn
      unfold L_X8_addNumber_28
      refine E_X8_addNumber_28 ?_
      unfold F_X8_addNumber_28
      refine x_g1.mpr (x_sD.mpr ⟨(inb_nI (by omega)).mpr (by rw [hS.2.2.2.1]; omega), ?_⟩)
      rw [ng_dig hy hdl, dgt_c _ (Nat.mod_lt _ (by decide)), nI_clamp (by omega)]
      have hS2 : SX sc0 wI0 b Y sc (up wI (dIx b) ((wI (dIx b)).set j (nI (48 + a / 10 ^ j % 10)))) := by
        obtain ⟨s1, s2, s3, s4, s5⟩ := hS
        refine ⟨s1, fun k h1 h2 => by rw [up_n h2]; exact s2 k h1 h2, by rw [up_n bd_ne]; exact s3, by rw [up_s, List.length_set]; exact s4, ?_⟩
        rw [up_n bd_ne]
        exact s5
      have hD2 : ∀ i, i < j + 1 → ((up wI (dIx b) ((wI (dIx b)).set j (nI (48 + a / 10 ^ j % 10)))) (dIx b)).getD i 0 = dgt a i := by
        intro i hi
        rw [up_s, lset_getD]
        by_cases e : j = i
        · subst e
          rw [if_pos ⟨rfl, by rw [hS.2.2.2.1]; omega⟩]
          rfl
        · rw [if_neg (by omega)]
          exact hD i (by omega)
      have hz : (y / 10 = 0) ↔ a / 10 ^ (j + 1) = 0 := by
        rw [← Int64.toInt_inj, hdv, Int64.toInt_zero]
        omega
      simp only [lg_cmp_eq, hz, nI_1, pm1]
      by_cases e : a / 10 ^ (j + 1) = 0
      · rw [if_pos e] at hn ⊢
        rw [hn] at hY
        exact out j _ _ Y (by omega) hS2 (fun i hi => hD2 i (by omega)) hY
      · rw [if_neg e] at hn ⊢
        have hj18 : j + 1 < 19 ∨ j + 1 = 19 := by omega
        rcases hj18 with z | z
        · rw [if_pos (show nI (j + 1) < 20 from nI_lt (b := 20) (by omega) (by omega))]
          exact ih (j + 1) _ _ _ Y (by omega) (Or.inr e) hdv hS2 hD2 hn hY
        · exfalso
          rw [z] at e
          exact e (Nat.div_eq_of_lt (by omega))
  have start : ∀ (sc : Nat → Int32) (wI : Nat → List Int32) (Y : TS) (y : Int64), y.toInt = -(a : Int) → SX sc0 wI0 b Y sc wI → tAdd Y (decJ a (ndF a 19 0)) = tAdd X (nStr x) → L_X8_addNumber_28 d (some (tN b)) y 0 (hJ (hC rs ks vs tl sc wI wL) mp) u Q := by
    intro sc wI Y y hy hS hY
    exact dig 19 0 y sc wI Y rfl (Or.inl rfl) (by simpa using hy) hS (fun i hi => absurd hi (Nat.not_lt_zero i)) rfl hY
  unfold F_X8_addNumber
  simp only [lg_cmp_ge]
  by_cases h0 : 0 ≤ x
  · rw [if_pos h0]
    unfold F_X8_addNumber_12
    simp only [lg_cmp_ge]
    rw [if_pos h0]
    have hx0 : 0 ≤ x.toInt := by rw [Int64.le_iff_toInt_le] at h0; simpa using h0
    refine start sc wI X (-x) (by rw [Int64.toInt_neg, bm64 (by omega) (by omega)]; omega) hS ?_
    unfold nStr
    rw [if_pos h0, ← ha, List.nil_append]
  · rw [if_neg h0]
    have hx0 : x.toInt < 0 := by rw [Int64.le_iff_toInt_le] at h0; simpa using h0
    refine ⟨x_rc, s_addSign hS (bK (by decide)) (fun sc' wI' hS' _ => ?_)⟩
    unfold F_X8_addNumber_12
    simp only [lg_cmp_ge]
    rw [if_neg h0]
    refine start sc' wI' _ x (by omega) hS' ?_
    rw [tAdd_app]
    unfold nStr
    rw [if_neg h0, ← ha]
end T
end Text
