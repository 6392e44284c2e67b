section Ops9
variable {rs : List RowT} {ks : List KindT} {vs : List ValT} {tl : Nat → Nat → Nat → List Int32} {sc : Nat → Int32} {wI : Nat → List Int32} {wL : Nat → List Int64} {m : MS} {d d2 u : Nat} {v1 v2 v3 v5 v6 : Int32} {v4 : Int64} {W : Prop → Prop}
variable {cp mp : MH}
/-! counting bits -/
def Nn (x : Int32) : Nat := x.toBitVec.toNat
theorem Nn_inj {x y : Int32} (h : Nn x = Nn y) : x = y := Int32.toBitVec_inj.mp (BitVec.eq_of_toNat_eq h)
theorem Nn_lt (x : Int32) : Nn x < 4294967296 := x.toBitVec.isLt
theorem Nn_add (x y : Int32) : Nn (x + y) = (Nn x + Nn y) % 4294967296 := BitVec.toNat_add _ _
theorem Nn_sub (x y : Int32) : Nn (x - y) = (4294967296 - Nn y + Nn x) % 4294967296 := BitVec.toNat_sub _ _
theorem Nn_and (x y : Int32) : Nn (x &&& y) = Nn x &&& Nn y := BitVec.toNat_and _ _
theorem Nn_shr (x c : Int32) (n : Nat) (h : (c.toUInt32 &&& Int32.toUInt32 31).toBitVec % 32 = BitVec.ofNat 32 n) (hn : n < 32) : Nn ((x.toUInt32 >>> (c.toUInt32 &&& Int32.toUInt32 31)).toInt32) = Nn x >>> n := by
  show (x.toBitVec >>> ((c.toUInt32 &&& Int32.toUInt32 31).toBitVec % 32)).toNat = _
  rw [h, BitVec.ushiftRight_eq', BitVec.toNat_ofNat, Nat.mod_eq_of_lt (by omega), BitVec.toNat_ushiftRight]
  rfl
theorem Nn_nI {n : Nat} (h : n < 4294967296) : Nn (nI n) = n := by
  show (BitVec.ofNat 32 n).toNat = n
  rw [BitVec.toNat_ofNat]
  exact Nat.mod_eq_of_lt h
def pc1 (v : Nat) : Nat := (4294967296 - ((v >>> 1) &&& 1431655765) + v) % 4294967296
def pc2 (x : Nat) : Nat := ((x &&& 858993459) + ((x >>> 2) &&& 858993459)) % 4294967296
def pc3 (x : Nat) : Nat := ((x + (x >>> 4)) % 4294967296) &&& 252645135
def pc4 (x : Nat) : Nat := (x + (x >>> 8)) % 4294967296
def pc5 (x : Nat) : Nat := (x + (x >>> 16)) % 4294967296
def pcN (v : Nat) : Nat := (pc5 (pc4 (pc3 (pc2 (pc1 v))))) &&& 63
def trN : Nat → Nat → Nat → Bool
  | 0, y, c => Nat.beq (pcN y) c
  | n + 1, y, c => trN n (2 * y) c && trN n (2 * y + 1) (c + 1)
def bitsN : Nat → Nat → Nat
  | 0, _ => 0
  | n + 1, z => z / 2 ^ n + bitsN n (z % 2 ^ n)
theorem trN_ok : ∀ n y c, trN n y c = true → ∀ z, z < 2 ^ n → pcN (y * 2 ^ n + z) = c + bitsN n z := by
  intro n
  induction n with
  | zero =>
    intro y c h z hz
    have : z = 0 := by omega
    subst this
    have := Nat.eq_of_beq_eq_true h
    simpa [bitsN] using this
  | succ n ih =>
    intro y c h z hz
    simp only [trN, Bool.and_eq_true] at h
    have e2 : 2 ^ (n + 1) = 2 * 2 ^ n := by rw [Nat.pow_succ, Nat.mul_comm]
    have hp : 0 < 2 ^ n := Nat.two_pow_pos n
    by_cases q : z < 2 ^ n
    · have := ih (2 * y) c h.1 z q
      rw [show bitsN (n + 1) z = bitsN n z by simp [bitsN, Nat.div_eq_of_lt q, Nat.mod_eq_of_lt q], ← this, e2]
      congr 2
      rw [← Nat.mul_assoc, Nat.mul_comm y 2]
    · have := ih (2 * y + 1) (c + 1) h.2 (z - 2 ^ n) (by omega)
      have d1 : z / 2 ^ n = 1 := by
        rw [Nat.div_eq_sub_div hp (by omega), Nat.div_eq_of_lt (by omega)]
      have d2 : z % 2 ^ n = z - 2 ^ n := by
        rw [Nat.mod_eq_sub_mod (by omega), Nat.mod_eq_of_lt (by omega)]
      rw [show bitsN (n + 1) z = 1 + bitsN n (z - 2 ^ n) by simp [bitsN, d1, d2], ← Nat.add_assoc, ← this, e2]
      congr 1
      rw [Nat.add_mul, ← Nat.mul_assoc, Nat.mul_comm y 2]
      omega
set_option maxRecDepth 100000 in
theorem trN_15 : trN 15 0 0 = true := by decide +kernel
theorem bitsN_lt : ∀ n k z, k ≤ n → z < 2 ^ k → bitsN n z = bitsN k z := by
  intro n
  induction n with
  | zero => intro k z h hz; have : k = 0 := (by omega); subst this; rfl
  | succ n ih =>
    intro k z h hz
    by_cases q : k = n + 1
    · subst q; rfl
    · have hz2 : z < 2 ^ n := Nat.lt_of_lt_of_le hz (Nat.pow_le_pow_right (by omega) (by omega))
      rw [show bitsN (n + 1) z = bitsN n z by simp [bitsN, Nat.div_eq_of_lt hz2, Nat.mod_eq_of_lt hz2]]
      exact ih k z (by omega) hz
theorem pcN_bits {k z : Nat} (hk : k ≤ 15) (hz : z < 2 ^ k) : pcN z = bitsN k z := by
  have := trN_ok 15 0 0 trN_15 z (Nat.lt_of_lt_of_le hz (Nat.pow_le_pow_right (by omega) hk))
  rw [← bitsN_lt 15 k z hk hz]
  simpa using this
theorem bitsN_succ (k w : Nat) : bitsN (k + 1) (w % 2 ^ (k + 1)) = w / 2 ^ k % 2 + bitsN k (w % 2 ^ k) := by
  simp only [bitsN]
  rw [Nat.mod_mod_of_dvd w (Nat.pow_dvd_pow 2 (Nat.le_succ k)), Nat.pow_succ, Nat.mod_mul_right_div_self]
theorem f_bitCount {x : Int32} {h : MH} {Q : Int32 → MH → Prop} : F_J6_bitCount_0f7a4 d x h u Q ↔ Q (nI (pcN (Nn x))) h := by
  unfold F_J6_bitCount_0f7a4 nm
  show Q _ h ↔ Q _ h
  refine iff_of_eq (congrArg (fun z => Q z h) (Nn_inj ?_))
  rw [Nn_nI (by unfold pcN; exact Nat.lt_of_le_of_lt Nat.and_le_right (by omega))]
  simp only [Nn_and, Nn_add, Nn_sub, Nn_shr _ 1 1 (by decide) (by omega), Nn_shr _ 2 2 (by decide) (by omega), Nn_shr _ 4 4 (by decide) (by omega), Nn_shr _ 8 8 (by decide) (by omega), Nn_shr _ 16 16 (by decide) (by omega)]
  rfl
theorem sh_c : ∀ k : Nat, k < 16 → (nI k &&& 31).toBitVec.smod 32 = BitVec.ofNat 32 k := by decide +kernel
theorem sh_1 : ∀ k : Nat, k < 16 → ((1 : Int32) <<< (nI k &&& 31)).toBitVec = BitVec.twoPow 32 k := by decide +kernel
theorem sh_m : ∀ k : Nat, k < 16 → Nn (((1 : Int32) <<< (nI k &&& 31)) - 1) = 2 ^ k - 1 := by decide +kernel
theorem bit_eq (w : Int32) {k : Nat} (hk : k < 16) : (w >>> (nI k &&& 31)) &&& 1 = nI (Nn w / 2 ^ k % 2) := by
  have e : ((w >>> (nI k &&& 31)) &&& 1).toBitVec = if w.toBitVec.getLsbD k then 1#32 else 0#32 := by
    show (w.toBitVec.sshiftRight' ((nI k &&& 31).toBitVec.smod 32)) &&& 1#32 = _
    rw [sh_c k hk]
    have := BitVec.and_twoPow (w.toBitVec.sshiftRight' (BitVec.ofNat 32 k)) 0
    rw [show BitVec.twoPow 32 0 = 1#32 from rfl] at this
    rw [this]
    congr 1
    rw [show w.toBitVec.sshiftRight' (BitVec.ofNat 32 k) = w.toBitVec.sshiftRight (BitVec.ofNat 32 k).toNat from rfl, BitVec.toNat_ofNat, Nat.mod_eq_of_lt (by omega), BitVec.getLsbD_sshiftRight]
    simp
    intro; omega
  apply Int32.toBitVec_inj.mp
  rw [e]
  have g : w.toBitVec.getLsbD k = decide (Nn w / 2 ^ k % 2 = 1) := by
    show Nat.testBit (Nn w) k = _
    rw [Nat.testBit_eq_decide_div_mod_eq]
  rw [g]
  rcases Nat.mod_two_eq_zero_or_one (Nn w / 2 ^ k) with z | z <;> rw [z] <;> rfl
theorem has_bit (w : Int32) {k : Nat} (hk : k < 16) : (w &&& ((1 : Int32) <<< (nI k &&& 31))) = 0 ↔ ¬ (Nn w / 2 ^ k % 2 = 1) := by
  rw [← Int32.toBitVec_inj]
  show w.toBitVec &&& _ = 0#32 ↔ _
  rw [sh_1 k hk, BitVec.and_twoPow]
  have g : w.toBitVec.getLsbD k = decide (Nn w / 2 ^ k % 2 = 1) := by
    show Nat.testBit (Nn w) k = _
    rw [Nat.testBit_eq_decide_div_mod_eq]
  rw [g]
  by_cases z : Nn w / 2 ^ k % 2 = 1
  · simp only [z, decide_true, if_true, not_true, iff_false]
    have : ∀ k : Nat, k < 16 → ¬ BitVec.twoPow 32 k = 0#32 := by decide +kernel
    exact this k hk
  · simp [z]
theorem cnt_eq (w : Int32) {k : Nat} (hk : k < 16) : pcN (Nn (w &&& (((1 : Int32) <<< (nI k &&& 31)) - 1))) = bitsN k (Nn w % 2 ^ k) := by
  rw [Nn_and, sh_m k hk, Nat.and_two_pow_sub_one_eq_mod]
  exact pcN_bits (by omega) (Nat.mod_lt _ (Nat.two_pow_pos k))
theorem g_match29 (hV : mVals vs m) (hVl : vs.length ≤ 200) {j n : Nat} {v : ValT} (hj : vs[j]? = some v) (hk : v.1 < 16) (hn : n < 8) (w20 : (m.2.1 20).length = 8) (w21 : (m.2.1 21).length = 8) {Q : Int32 → MH → Prop} (hq : Q (if Nn ((m.2.1 20).getD n 0) / 2 ^ v.1 % 2 = 1 then nI (bitsN v.1 (Nn ((m.2.1 20).getD n 0) % 2 ^ v.1)) else if (m.2.1 21).getD n 0 = 0 then -5 else -3) (hJ cp (hM m))) : L_X12_match_29 d mo (nI n) (nI j) 0 0 (hJ cp (hM m)) u Q := by
  obtain ⟨-, ⟨a1, a2⟩, -⟩ := hV.at hVl hj
  have i20 : inb (m.2.1 20) (nI n) := (inb_nI (by omega)).mpr (by omega)
  have i21 : inb (m.2.1 21) (nI n) := (inb_nI (by omega)).mpr (by omega)
  have key : ∀ r i : Nat, i + r = v.1 → L_X12_match_29 d mo (nI n) (nI j) (nI (bitsN i (Nn ((m.2.1 20).getD n 0) % 2 ^ i))) (nI i) (hJ cp (hM m)) u Q := by
    intro r
    induction r with
    | zero =>
      intro i hi
      have : i = v.1 := (by omega)
      subst this
      unfold L_X12_match_29
      refine E_X12_match_29 ?_
      unfold F_X12_match_29
      simp only [m_g25, m_a25, a1, a2, true_and]
      rw [if_pos (nI_le (by omega) (by omega))]
      simp only [m_g20, m_a20, m_g25, m_a25, m_g21, m_a21, a1, a2, i20, i21, true_and, rdI_nI (show n < 2 ^ 31 by omega), bit_eq _ hk]
      by_cases z : Nn ((m.2.1 20).getD n 0) / 2 ^ v.1 % 2 = 1
      · rw [if_pos z] at hq
        rw [if_pos (by rw [z]; rfl)]
        exact hq
      · rw [if_neg z] at hq
        have z0 : Nn ((m.2.1 20).getD n 0) / 2 ^ v.1 % 2 = 0 := (by omega)
        rw [if_neg (by rw [z0]; decide)]
        by_cases y : (m.2.1 21).getD n 0 = 0
        · rw [if_pos y] at hq ⊢; exact hq
        · rw [if_neg y] at hq ⊢; exact hq
    | succ r ih =>
      intro i hi
      unfold L_X12_match_29
      refine E_X12_match_29 ?_
      unfold F_X12_match_29 nm
      simp only [m_g25, m_a25, a1, a2, true_and]
      rw [if_neg (nI_ge (by omega) (by omega))]
      simp only [m_g20, m_a20, i20, true_and, rdI_nI (show n < 2 ^ 31 by omega), bit_eq _ (show i < 16 by omega), nI_add, nI_1]
      have := ih (i + 1) (by omega)
      rw [bitsN_succ, Nat.add_comm] at this
      exact this
  have := key v.1 0 (by omega)
  simpa [nI_0, bitsN] using this
theorem op_match (I : Inv rs ks vs tl sc wI wL m) (hW : ∀ X, X → W X) {K : Int32 → Int32 → MH → Prop} (hK : KI K) : F_X11_match d br v1 v2 (hX rs ks vs tl sc wI wL m) u (fun a h => W (rc h mo 11 ∧ F_X12_match d2 mo v1 v2 h 0 (fun b h => K a b h))) := by
  have hR := I.1.1.1; have hV := I.1.2.2.2.1.1; have hKd := I.1.2.1.1; have hRm := I.2.1; have hKm := I.2.2.1; have hVm := I.2.2.2.1; have hMm := I.2.2.2.2
  obtain ⟨n, hn, h0, -⟩ := I.1.2.2.2.2.1.2.2.2.2.2.2.2.2.2.1
  have w0 := I.1.2.2.2.2.1.1
  have w1 := I.1.2.2.2.2.1.2.1
  have h19 : m.1 19 = nI n := by rw [hMm.2.2.2.1, h0]
  have e20 := hMm.2.2.2.2.1
  have e21 := hMm.2.2.2.2.2.1
  unfold F_X11_match nm
  simp only [c_g1_0, c_rc2, f_findValue hV, ixL_i, true_and, c_g1_9, h0, f_isWithin, wi_ix (show n < 2 ^ 30 by omega), if_b2i]
  rcases hx : ix v1 n with _ | i
  · simp only [if_b2i, Option.isSome_some, Option.isSome_none, Bool.true_eq_false, Bool.false_eq_true, if_false, if_true, true_and]
    refine hW _ ⟨m_rc, ?_⟩
    unfold F_X12_match
    simp only [m_g19, h19, f_in, wi_ix (show n < 2 ^ 30 by omega), hx, if_b2i, Option.isSome_some, Option.isSome_none, Bool.true_eq_false, Bool.false_eq_true, if_false, if_true, true_and]
    exact hK _ _ _ _ _ _ _ _ _ I
  · obtain ⟨h1, rfl, -, -⟩ := ix_some hx
    simp only [if_b2i, Option.isSome_some, Option.isSome_none, Bool.true_eq_false, Bool.false_eq_true, if_false, if_true, true_and]
    rcases hy : ix v2 vs.length with _ | j
    · simp only [Option.map_none, nl_none]
      refine hW _ ⟨m_rc, ?_⟩
      unfold F_X12_match
      simp only [m_g19, h19, f_in, wi_ix (show n < 2 ^ 30 by omega), hx, m_rcT, g_isValue hV hVm.1, hy, if_b2i, Option.isSome_some, Option.isSome_none, Bool.true_eq_false, Bool.false_eq_true, if_false, if_true, true_and]
      exact hK _ _ _ _ _ _ _ _ _ I
    · obtain ⟨h2, rfl, -, -⟩ := ix_some hy
      obtain ⟨v, hj⟩ := get_lt h2
      obtain ⟨k, t, hk, ht, -⟩ := I.val hj
      have hk16 : v.1 < 16 := Nat.lt_of_lt_of_le (List.getElem?_eq_some_iff.mp hk).1 hKd
      have i0 : inb (wI 0) (nI i) := (inb_nI (by omega)).mpr (by omega)
      have i1 : inb (wI 1) (nI i) := (inb_nI (by omega)).mpr (by omega)
      simp only [Option.map_some, nl_some, c_g29_1, hj, wr_some, c_g23_0, hk, c_g1_6, c_g1_7, c_a19, c_a20, i0, i1, true_and, rdI_nI (show i < 2 ^ 31 by omega), has_bit _ hk16, f_bitCount, cnt_eq _ hk16]
      have tail : ∀ a, K a (if Nn ((wI 0).getD i 0) / 2 ^ v.1 % 2 = 1 then nI (bitsN v.1 (Nn ((wI 0).getD i 0) % 2 ^ v.1)) else if (wI 1).getD i 0 = 0 then -5 else -3) (hX rs ks vs tl sc wI wL m) → F_X12_match d2 mo (nI i) (nI j) (hX rs ks vs tl sc wI wL m) 0 (fun b h => K a b h) := by
        intro a ha
        unfold F_X12_match
        simp only [m_g19, h19, f_in, wi_ix (show n < 2 ^ 30 by omega), hx, m_rcT, g_isValue hV hVm.1, hy, if_b2i, Option.isSome_some, Option.isSome_none, Bool.true_eq_false, Bool.false_eq_true, if_false, if_true, true_and]
        refine g_match29 hVm hV hj hk16 (by omega) (by rw [e20]; exact w0) (by rw [e21]; exact w1) ?_
        rw [e20, e21]
        exact ha
      by_cases z : Nn ((wI 0).getD i 0) / 2 ^ v.1 % 2 = 1
      · rw [if_neg (fun c => c z)]
        refine hW _ ⟨m_rc, tail _ ?_⟩
        rw [if_pos z]
        exact hK _ _ _ _ _ _ _ _ _ I
      · rw [if_pos z]
        by_cases y : (wI 1).getD i 0 = 0
        · rw [if_pos y]; refine hW _ ⟨m_rc, tail _ ?_⟩; rw [if_neg z, if_pos y]; exact hK _ _ _ _ _ _ _ _ _ I
        · rw [if_neg y]; refine hW _ ⟨m_rc, tail _ ?_⟩; rw [if_neg z, if_neg y]; exact hK _ _ _ _ _ _ _ _ _ I
end Ops9
