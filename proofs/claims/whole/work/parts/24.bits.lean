/-! SETS AS BITS; arguments from outside -/
theorem sh_amt : ∀ n, n < 32 → ((nI n &&& nI 31).toBitVec.smod 32).toNat = n := by decide +kernel
theorem n_pow {i : Nat} (h : i < 31) : nI 1 <<< (nI i &&& nI 31) = nI (2 ^ i) := by
  have h2 : 2 ^ i ≤ 2 ^ 30 := Nat.pow_le_pow_right (by omega) (by omega)
  rw [pk_shlN (nI i &&& nI 31) i (sh_amt i (by omega)) (by omega), Nat.one_mul]
theorem n_shr {a i : Nat} (ha : a < 2147483648) (h : i < 31) : nI a >>> (nI i &&& nI 31) = nI (a / 2 ^ i) := pk_shrN (by omega) _ _ (sh_amt i (by omega))
theorem n_and1 {a : Nat} (ha : a < 2147483648) : nI a &&& nI 1 = nI (a % 2) := pk_andN (by omega) 1 (by decide)
theorem nI_bv (n : Nat) : (nI n).toBitVec = BitVec.ofNat 32 n := rfl
theorem n_or (a b : Nat) : nI a ||| nI b = nI (a ||| b) := by
  apply Int32.toBitVec_inj.mp
  rw [Int32.toBitVec_or, nI_bv, nI_bv, nI_bv]
  apply BitVec.eq_of_getLsbD_eq
  intro i hi
  simp [BitVec.getLsbD_or, hi]
theorem n_and (a b : Nat) : nI a &&& nI b = nI (a &&& b) := by
  apply Int32.toBitVec_inj.mp
  rw [Int32.toBitVec_and, nI_bv, nI_bv, nI_bv]
  apply BitVec.eq_of_getLsbD_eq
  intro i hi
  simp [BitVec.getLsbD_and, hi]
theorem n_xor (a b : Nat) : nI a ^^^ nI b = nI (a ^^^ b) := by
  apply Int32.toBitVec_inj.mp
  rw [Int32.toBitVec_xor, nI_bv, nI_bv, nI_bv]
  apply BitVec.eq_of_getLsbD_eq
  intro i hi
  simp [BitVec.getLsbD_xor, hi]
theorem bit_mod {a i : Nat} : a / 2 ^ i % 2 = (a.testBit i).toNat := by
  rw [Nat.toNat_testBit]
/-- a set of those below n that have f -/
def bts (f : Nat → Bool) (n : Nat) : Nat := itr (fun i a => a ||| (if f i = true then 2 ^ i else 0)) n 0
theorem bts_s (f : Nat → Bool) (n : Nat) : bts f (n + 1) = bts f n ||| (if f n = true then 2 ^ n else 0) := rfl
theorem bts_bit (f : Nat → Bool) (n i : Nat) : (bts f n).testBit i = (decide (i < n) && f i) := by
  induction n with
  | zero => simp [bts, itr]
  | succ n ih =>
    rw [bts_s, Nat.testBit_or, ih]
    by_cases hf : f n = true
    · rw [if_pos hf, Nat.testBit_two_pow]
      by_cases hi : n = i
      · subst hi; simp [hf]
      · have : (decide (i < n + 1)) = decide (i < n) := by
          by_cases h : i < n
          · simp [h]; omega
          · simp [h]; omega
        rw [this]; simp [hi]
    · rw [if_neg hf]
      by_cases hi : i = n
      · subst hi; simp [hf]
      · have : (decide (i < n + 1)) = decide (i < n) := by
          by_cases h : i < n
          · simp [h]; omega
          · simp [h]; omega
        rw [this]; simp
theorem bts_cong {f g : Nat → Bool} {n : Nat} (h : ∀ i, i < n → f i = g i) : bts f n = bts g n := by
  apply Nat.eq_of_testBit_eq
  intro i
  rw [bts_bit, bts_bit]
  by_cases hi : i < n
  · rw [h i hi]
  · simp [hi]
theorem bts_more {f : Nat → Bool} {n m : Nat} (h : n ≤ m) (hz : ∀ i, n ≤ i → f i = false) : bts f m = bts f n := by
  apply Nat.eq_of_testBit_eq
  intro i
  rw [bts_bit, bts_bit]
  by_cases hi : i < n
  · have : i < m := by omega
    simp [hi, this]
  · simp [hi, hz i (by omega)]
theorem bts_lt (f : Nat → Bool) (n : Nat) : bts f n < 2 ^ n := by
  apply Nat.lt_pow_two_of_testBit
  intro i hi
  rw [bts_bit]
  have : ¬ i < n := by omega
  simp [this]
theorem bts_lt8 (f : Nat → Bool) {n : Nat} (h : n ≤ 8) : bts f n < 256 := Nat.lt_of_lt_of_le (bts_lt f n) (by
  have := Nat.pow_le_pow_right (n := 2) (by omega) h
  omega)
/-- a number from outside that is one of n things -/
def inN (a : Int32) (n : Nat) : Bool := decide (¬ a < nI 0 ∧ ¬ nI n ≤ a)
theorem inN_t {a : Int32} {n : Nat} (hn : n < 2147483648) (h : inN a n = true) : ∃ j, j < n ∧ a = nI j := by
  have h := of_decide_eq_true h
  obtain ⟨j, hj, rfl⟩ := nI_of (x := a) h.1
  refine ⟨j, ?_, rfl⟩
  have h2 := h.2
  rw [nI_leI (by omega) (by omega)] at h2
  omega
theorem inN_n {j n : Nat} (hj : j < 2147483648) (hn : n < 2147483648) : inN (nI j) n = decide (j < n) := by
  unfold inN
  by_cases h : j < n
  · rw [decide_eq_true h]
    exact decide_eq_true ⟨nI_pos (by omega), by rw [nI_leI (by omega) (by omega)]; omega⟩
  · rw [decide_eq_false h]
    exact decide_eq_false (fun z => z.2 (nI_le (by omega) (by omega)))
section XB
variable {d k w l B : Nat} {s : mS} {T : aT} {S : aS} {a : Int32}
theorem x_hasWall (hT : XT T s) : ev d 149 0 [.inr 6, .inl a] [] s = some (0, bI (inN a (tN T)), s) := by
  rw [E149_0]
  have h := hT.2.1
  simp (disch := omega) only [h, E149_16, E149_17, lit, nI_add, pk_mul, n_sub, n_addneg, nle_t, nle_f, nlt_t, nlt_f, neq_t, neq_f, n_inb, n_ix, bnd_some, if_true, if_false, ite_tt, ite_ff, not_true_eq_false, not_false_eq_true, eq_self, false_or, or_false, true_or, or_true]
  unfold inN
  by_cases h1 : a < nI 0
  · rw [if_pos h1]; simp [h1, bI]
  · by_cases h2 : nI (tN T) ≤ a
    · rw [if_neg h1, if_pos h2]; simp [h1, h2, bI]
    · rw [if_neg h1, if_neg h2]; simp [h1, h2, bI]
theorem x_tHasWord (hT : XT T s) : ev d 148 0 [.inr 6, .inl a] [] s = some (0, bI (inN a (tW T)), s) := by
  rw [E148_0]
  have h := hT.1
  simp (disch := omega) only [h, E148_16, E148_17, lit, nI_add, pk_mul, n_sub, n_addneg, nle_t, nle_f, nlt_t, nlt_f, neq_t, neq_f, n_inb, n_ix, bnd_some, if_true, if_false, ite_tt, ite_ff, not_true_eq_false, not_false_eq_true, eq_self, false_or, or_false, true_or, or_true]
  unfold inN
  by_cases h1 : a < nI 0
  · rw [if_pos h1]; simp [h1, bI]
  · by_cases h2 : nI (tW T) ≤ a
    · rw [if_neg h1, if_pos h2]; simp [h1, h2, bI]
    · rw [if_neg h1, if_neg h2]; simp [h1, h2, bI]
theorem x_isLetter : ev d 218 0 [.inl a] [] s = some (0, bI (inN a 10), s) := by
  rw [E218_0]
  simp (disch := omega) only [E218_14, E218_15, lit, nI_add, pk_mul, n_sub, n_addneg, nle_t, nle_f, nlt_t, nlt_f, neq_t, neq_f, n_inb, n_ix, bnd_some, if_true, if_false, ite_tt, ite_ff, not_true_eq_false, not_false_eq_true, eq_self, false_or, or_false, true_or, or_true]
  unfold inN
  by_cases h1 : a < nI 0
  · rw [if_pos h1]; simp [h1, bI]
  · by_cases h2 : nI 10 ≤ a
    · rw [if_neg h1, if_pos h2]; simp [h1, h2, bI]
    · rw [if_neg h1, if_neg h2]; simp [h1, h2, bI]
theorem lt_n (a : Int32) (n : Nat) (hn : n + 1 < 2147483648) : (nI n < a) ↔ nI (n + 1) ≤ a := by
  rw [Int32.lt_iff_toInt_lt, Int32.le_iff_toInt_le, toI (by omega), toI hn]
  omega
theorem x_isSpan : ev d 220 0 [.inl a] [] s = some (0, bI (inN a 61), s) := by
  rw [E220_0]
  simp (disch := omega) only [E220_14, E220_15, lit, nI_add, pk_mul, n_sub, n_addneg, nle_t, nle_f, nlt_t, nlt_f, neq_t, neq_f, n_inb, n_ix, bnd_some, if_true, if_false, ite_tt, ite_ff, not_true_eq_false, not_false_eq_true, eq_self, false_or, or_false, true_or, or_true]
  unfold inN
  have hl := lt_n a 60 (by omega)
  by_cases h1 : a < nI 0
  · rw [if_pos h1]; simp [h1, bI]
  · by_cases h2 : nI 60 < a
    · rw [if_neg h1, if_pos h2]
      have h3 := hl.mp h2
      simp [h1, h3, bI]
    · rw [if_neg h1, if_neg h2]
      have h3 : ¬ nI (60 + 1) ≤ a := fun z => h2 (hl.mpr z)
      simp [h1, h3, bI]
theorem x_has {x i : Nat} (hx : x < 2147483648) (hi : i < 31) : ev d 219 0 [.inl (nI x), .inl (nI i)] [] s = some (0, bI (x.testBit i), s) := by
  rw [E219_0]
  have hm : x / 2 ^ i % 2 = (x.testBit i).toNat := bit_mod
  have hlt : x / 2 ^ i < 2147483648 := Nat.lt_of_le_of_lt (Nat.div_le_self _ _) hx
  rw [lit 31, lit 1, lit 0, n_shr hx hi, n_and1 hlt, hm]
  cases x.testBit i with
  | false => simp (disch := omega) only [E219_13, Bool.toNat, lit, nI_add, pk_mul, n_sub, n_addneg, nle_t, nle_f, nlt_t, nlt_f, neq_t, neq_f, n_inb, n_ix, bnd_some, if_true, if_false, ite_tt, ite_ff, not_true_eq_false, not_false_eq_true, eq_self, false_or, or_false, true_or, or_true]; rfl
  | true => simp (disch := omega) only [E219_13, Bool.toNat, lit, nI_add, pk_mul, n_sub, n_addneg, nle_t, nle_f, nlt_t, nlt_f, neq_t, neq_f, n_inb, n_ix, bnd_some, if_true, if_false, ite_tt, ite_ff, not_true_eq_false, not_false_eq_true, eq_self, false_or, or_false, true_or, or_true]; rfl
theorem x_length {x : Nat} (ht : tOk T) (hT : XT T s) (hx : x < tW T) : ev d 154 0 [.inr 6, .inl (nI x)] [] s = some (0, nI (tLen T x), s) := by
  rw [E154_0]
  have h := (hT.2.2.1 x hx).1
  have := ht.1
  simp (disch := omega) only [h, lit, nI_add, pk_mul, n_sub, n_addneg, nle_t, nle_f, nlt_t, nlt_f, neq_t, neq_f, n_inb, n_ix, bnd_some, if_true, if_false, ite_tt, ite_ff, not_true_eq_false, not_false_eq_true, eq_self, false_or, or_false, true_or, or_true]
theorem x_sense {x : Nat} (ht : tOk T) (hT : XT T s) (hx : x < tW T) : ev d 155 0 [.inr 6, .inl (nI x)] [] s = some (0, nI (tSen T x), s) := by
  rw [E155_0]
  have h := (hT.2.2.1 x hx).2.1
  have := ht.1
  simp (disch := omega) only [h, lit, nI_add, pk_mul, n_sub, n_addneg, nle_t, nle_f, nlt_t, nlt_f, neq_t, neq_f, n_inb, n_ix, bnd_some, if_true, if_false, ite_tt, ite_ff, not_true_eq_false, not_false_eq_true, eq_self, false_or, or_false, true_or, or_true]
theorem x_letterAt {x i : Nat} (ht : tOk T) (hT : XT T s) (hx : x < tW T) (hi : i < tLen T x) : ev d 156 0 [.inr 6, .inl (nI x), .inl (nI i)] [] s = some (0, nI (tSp T x i), s) := by
  rw [E156_0]
  have h := (hT.2.2.1 x hx).2.2.1 i hi
  have := ht.1
  have := (ht.2.2.1 x hx).2.1
  simp (disch := omega) only [h, lit, nI_add, pk_mul, n_sub, n_addneg, nle_t, nle_f, nlt_t, nlt_f, neq_t, neq_f, n_inb, n_ix, bnd_some, if_true, if_false, ite_tt, ite_ff, not_true_eq_false, not_false_eq_true, eq_self, false_or, or_false, true_or, or_true]
theorem x_worth (ht : tOk T) (hT : XT T s) (hw : w < tN T) : ev d 158 0 [.inr 6, .inl (nI w)] [] s = some (0, nI (tWo T w), s) := by
  rw [E158_0]
  have h := (hT.2.2.2 w hw).1
  have := ht.2.1
  simp (disch := omega) only [h, lit, nI_add, pk_mul, n_sub, n_addneg, nle_t, nle_f, nlt_t, nlt_f, neq_t, neq_f, n_inb, n_ix, bnd_some, if_true, if_false, ite_tt, ite_ff, not_true_eq_false, not_false_eq_true, eq_self, false_or, or_false, true_or, or_true]
theorem x_term (ht : tOk T) (hT : XT T s) (hw : w < tN T) : ev d 159 0 [.inr 6, .inl (nI w)] [] s = some (0, nI (tTe T w), s) := by
  rw [E159_0]
  have h := (hT.2.2.2 w hw).2
  have := ht.2.1
  simp (disch := omega) only [h, lit, nI_add, pk_mul, n_sub, n_addneg, nle_t, nle_f, nlt_t, nlt_f, neq_t, neq_f, n_inb, n_ix, bnd_some, if_true, if_false, ite_tt, ite_ff, not_true_eq_false, not_false_eq_true, eq_self, false_or, or_false, true_or, or_true]
theorem x_words (hT : XT T s) : ev d 150 0 [.inr 6] [] s = some (0, nI (tW T), s) := by
  rw [E150_0, hT.1]
theorem x_walls (hT : XT T s) : ev d 151 0 [.inr 6] [] s = some (0, nI (tN T), s) := by
  rw [E151_0, hT.2.1]
theorem x_place : ev d 93 0 [.inr 36] [] s = some (0, nI 6, s) := E93_0
theorem isU_none (h : sH S w = none) : isU T S w = false := by unfold isU isW; rw [h]; rfl
theorem isU_lt (ho : sOk T S B) (h : isU T S w = true) : ∃ x, sH S w = some x ∧ w < tN T ∧ x < tW T := by
  cases hn : sH S w with
  | none => rw [isU_none hn] at h; cases h
  | some x => exact ⟨x, rfl, (wOk_s (ho.1 w) hn).1, (wOk_s (ho.1 w) hn).2.1⟩
theorem isQ_lt (ho : sOk T S B) (h : isQ T S w = true) : ∃ x, sH S w = some x ∧ w < tN T ∧ x < tW T := by
  cases hn : sH S w with
  | none => unfold isQ mis at h; rw [hn] at h; cases h
  | some x => exact ⟨x, rfl, (wOk_s (ho.1 w) hn).1, (wOk_s (ho.1 w) hn).2.1⟩
theorem isW_lt (ho : sOk T S B) (h : isW S w = true) : ∃ x, sH S w = some x ∧ w < tN T ∧ x < tW T := by
  cases hn : sH S w with
  | none => unfold isW at h; rw [hn] at h; cases h
  | some x => exact ⟨x, rfl, (wOk_s (ho.1 w) hn).1, (wOk_s (ho.1 w) hn).2.1⟩
theorem x_worded (ht : tOk T) (ho : sOk T S B) (hc : XC T S (s 37)) : ev (d + 1) 108 0 [.inr 36, .inr 0, .inr 0] [] s = some (0, nI (bts (isW S) 8), s) := by
  have hk : isK 36 := Or.inl rfl
  have hc : XC T S (s (mRf 36 1)) := hc
  rw [E108_0]
  have h := loopU (fun i a => ev (d + 1) 108 4 [.inr 36, .inl (nI a), .inl (nI i)] [] s) (fun i a => a ||| (if isW S i = true then 2 ^ i else 0)) 8 (fun i a hi => by
    rw [E108_4]
    simp (disch := omega) only [x_hasWord ht (ho.1 i) hk hc hi, lit, nI_add, pk_mul, n_sub, n_addneg, nle_t, nle_f, nlt_t, nlt_f, neq_t, neq_f, n_inb, n_ix, bnd_some, if_true, if_false, ite_tt, ite_ff, not_true_eq_false, not_false_eq_true, eq_self, false_or, or_false, true_or, or_true]
    cases isW S i with
    | true => simp (disch := omega) only [bI_t, E108_26, n_pow, n_or, lit, nI_add, pk_mul, n_sub, n_addneg, nle_t, nle_f, nlt_t, nlt_f, neq_t, neq_f, n_inb, n_ix, bnd_some, if_true, if_false, ite_tt, ite_ff, not_true_eq_false, not_false_eq_true, eq_self, false_or, or_false, true_or, or_true]
    | false => simp (disch := omega) only [bI_f, E108_26, n_or, Bool.false_eq_true, lit, nI_add, pk_mul, n_sub, n_addneg, nle_t, nle_f, nlt_t, nlt_f, neq_t, neq_f, n_inb, n_ix, bnd_some, if_true, if_false, ite_tt, ite_ff, not_true_eq_false, not_false_eq_true, eq_self, false_or, or_false, true_or, or_true]) 0
  simp (disch := omega) only [lit, nI_add, pk_mul, n_sub, n_addneg, nle_t, nle_f, nlt_t, nlt_f, neq_t, neq_f, n_inb, n_ix, bnd_some, if_true, if_false, ite_tt, ite_ff, not_true_eq_false, not_false_eq_true, eq_self, false_or, or_false, true_or, or_true]
  rw [h, E108_4]
  simp (disch := omega) only [lit, nI_add, pk_mul, n_sub, n_addneg, nle_t, nle_f, nlt_t, nlt_f, neq_t, neq_f, n_inb, n_ix, bnd_some, if_true, if_false, ite_tt, ite_ff, not_true_eq_false, not_false_eq_true, eq_self, false_or, or_false, true_or, or_true]
  rfl
theorem x_up (ht : tOk T) (ho : sOk T S B) (hk : isK k) (hc : XC T S (s (mRf k 1))) : ev (d + 1) 109 0 [.inr k, .inr 0, .inr 0] [] s = some (0, nI (bts (isU T S) 8), s) := by
  rw [E109_0 (hk0 := hk)]
  have h := loopU (fun i a => ev (d + 1) 109 4 [.inr k, .inl (nI a), .inl (nI i)] [] s) (fun i a => a ||| (if isU T S i = true then 2 ^ i else 0)) 8 (fun i a hi => by
    rw [E109_4 (hk0 := hk)]
    simp (disch := omega) only [x_isUp ht (ho.1 i) hk hc hi, lit, nI_add, pk_mul, n_sub, n_addneg, nle_t, nle_f, nlt_t, nlt_f, neq_t, neq_f, n_inb, n_ix, bnd_some, if_true, if_false, ite_tt, ite_ff, not_true_eq_false, not_false_eq_true, eq_self, false_or, or_false, true_or, or_true]
    cases isU T S i with
    | true => simp (disch := omega) only [bI_t, E109_26 (hk0 := hk), n_pow, n_or, lit, nI_add, pk_mul, n_sub, n_addneg, nle_t, nle_f, nlt_t, nlt_f, neq_t, neq_f, n_inb, n_ix, bnd_some, if_true, if_false, ite_tt, ite_ff, not_true_eq_false, not_false_eq_true, eq_self, false_or, or_false, true_or, or_true]
    | false => simp (disch := omega) only [bI_f, E109_26 (hk0 := hk), n_or, Bool.false_eq_true, lit, nI_add, pk_mul, n_sub, n_addneg, nle_t, nle_f, nlt_t, nlt_f, neq_t, neq_f, n_inb, n_ix, bnd_some, if_true, if_false, ite_tt, ite_ff, not_true_eq_false, not_false_eq_true, eq_self, false_or, or_false, true_or, or_true]) 0
  simp (disch := omega) only [lit, nI_add, pk_mul, n_sub, n_addneg, nle_t, nle_f, nlt_t, nlt_f, neq_t, neq_f, n_inb, n_ix, bnd_some, if_true, if_false, ite_tt, ite_ff, not_true_eq_false, not_false_eq_true, eq_self, false_or, or_false, true_or, or_true]
  rw [h, E109_4 (hk0 := hk)]
  simp (disch := omega) only [lit, nI_add, pk_mul, n_sub, n_addneg, nle_t, nle_f, nlt_t, nlt_f, neq_t, neq_f, n_inb, n_ix, bnd_some, if_true, if_false, ite_tt, ite_ff, not_true_eq_false, not_false_eq_true, eq_self, false_or, or_false, true_or, or_true]
  rfl
theorem x_waiting (ht : tOk T) (ho : sOk T S B) (hk : isK k) (hc : XC T S (s (mRf k 1))) : ev (d + 1) 110 0 [.inr k, .inr 0, .inr 0] [] s = some (0, nI (bts (isQ T S) 8), s) := by
  rw [E110_0 (hk0 := hk)]
  have h := loopU (fun i a => ev (d + 1) 110 4 [.inr k, .inl (nI a), .inl (nI i)] [] s) (fun i a => a ||| (if isQ T S i = true then 2 ^ i else 0)) 8 (fun i a hi => by
    rw [E110_4 (hk0 := hk)]
    simp (disch := omega) only [x_waits ht (ho.1 i) hk hc hi, lit, nI_add, pk_mul, n_sub, n_addneg, nle_t, nle_f, nlt_t, nlt_f, neq_t, neq_f, n_inb, n_ix, bnd_some, if_true, if_false, ite_tt, ite_ff, not_true_eq_false, not_false_eq_true, eq_self, false_or, or_false, true_or, or_true]
    cases isQ T S i with
    | true => simp (disch := omega) only [bI_t, E110_26 (hk0 := hk), n_pow, n_or, lit, nI_add, pk_mul, n_sub, n_addneg, nle_t, nle_f, nlt_t, nlt_f, neq_t, neq_f, n_inb, n_ix, bnd_some, if_true, if_false, ite_tt, ite_ff, not_true_eq_false, not_false_eq_true, eq_self, false_or, or_false, true_or, or_true]
    | false => simp (disch := omega) only [bI_f, E110_26 (hk0 := hk), n_or, Bool.false_eq_true, lit, nI_add, pk_mul, n_sub, n_addneg, nle_t, nle_f, nlt_t, nlt_f, neq_t, neq_f, n_inb, n_ix, bnd_some, if_true, if_false, ite_tt, ite_ff, not_true_eq_false, not_false_eq_true, eq_self, false_or, or_false, true_or, or_true]) 0
  simp (disch := omega) only [lit, nI_add, pk_mul, n_sub, n_addneg, nle_t, nle_f, nlt_t, nlt_f, neq_t, neq_f, n_inb, n_ix, bnd_some, if_true, if_false, ite_tt, ite_ff, not_true_eq_false, not_false_eq_true, eq_self, false_or, or_false, true_or, or_true]
  rw [h, E110_4 (hk0 := hk)]
  simp (disch := omega) only [lit, nI_add, pk_mul, n_sub, n_addneg, nle_t, nle_f, nlt_t, nlt_f, neq_t, neq_f, n_inb, n_ix, bnd_some, if_true, if_false, ite_tt, ite_ff, not_true_eq_false, not_false_eq_true, eq_self, false_or, or_false, true_or, or_true]
  rfl
theorem x_wallsWith (ht : tOk T) (ho : sOk T S B) (hc : XC T S (s 37)) (hl : l < 10) : ev (d + 1) 112 0 [.inr 36, .inl (nI l), .inr 0, .inr 0] [] s = some (0, nI (bts (fun w => decide (0 < sG S w l)) 8), s) := by
  have hk : isK 36 := Or.inl rfl
  have hc : XC T S (s (mRf 36 1)) := hc
  rw [E112_0]
  have h := loopU (fun i a => ev (d + 1) 112 4 [.inr 36, .inl (nI l), .inl (nI a), .inl (nI i)] [] s) (fun i a => a ||| (if decide (0 < sG S i l) = true then 2 ^ i else 0)) 8 (fun i a hi => by
    rw [E112_4]
    have hg := sG_le (l := l) ht (ho.1 i)
    simp (disch := omega) only [x_hung hk hc hi hl, lit, nI_add, pk_mul, n_sub, n_addneg, nle_t, nle_f, nlt_t, nlt_f, neq_t, neq_f, n_inb, n_ix, bnd_some, if_true, if_false, ite_tt, ite_ff, not_true_eq_false, not_false_eq_true, eq_self, false_or, or_false, true_or, or_true]
    by_cases hz : 0 < sG S i l
    · simp (disch := omega) only [E112_27, n_pow, n_or, decide_eq_true hz, lit, nI_add, pk_mul, n_sub, n_addneg, nle_t, nle_f, nlt_t, nlt_f, neq_t, neq_f, n_inb, n_ix, bnd_some, if_true, if_false, ite_tt, ite_ff, not_true_eq_false, not_false_eq_true, eq_self, false_or, or_false, true_or, or_true]
    · simp (disch := omega) only [E112_27, n_or, decide_eq_false hz, Bool.false_eq_true, lit, nI_add, pk_mul, n_sub, n_addneg, nle_t, nle_f, nlt_t, nlt_f, neq_t, neq_f, n_inb, n_ix, bnd_some, if_true, if_false, ite_tt, ite_ff, not_true_eq_false, not_false_eq_true, eq_self, false_or, or_false, true_or, or_true]) 0
  simp (disch := omega) only [lit, nI_add, pk_mul, n_sub, n_addneg, nle_t, nle_f, nlt_t, nlt_f, neq_t, neq_f, n_inb, n_ix, bnd_some, if_true, if_false, ite_tt, ite_ff, not_true_eq_false, not_false_eq_true, eq_self, false_or, or_false, true_or, or_true]
  rw [h, E112_4]
  simp (disch := omega) only [lit, nI_add, pk_mul, n_sub, n_addneg, nle_t, nle_f, nlt_t, nlt_f, neq_t, neq_f, n_inb, n_ix, bnd_some, if_true, if_false, ite_tt, ite_ff, not_true_eq_false, not_false_eq_true, eq_self, false_or, or_false, true_or, or_true]
  rfl
/-- the worth of what is up -/
def wUp (T : aT) (S : aS) : Nat := sm (fun w => if isU T S w = true then tWo T w else 0) 8
theorem x_worthUp (ht : tOk T) (hT : XT T s) (ho : sOk T S B) (hk : isK k) (hc : XC T S (s (mRf k 1))) : ev (d + 1) 111 0 [.inr k, .inr 0, .inr 0] [] s = some (0, nI (wUp T S), s) := by
  rw [E111_0 (hk0 := hk)]
  have h := loopU (fun i a => ev (d + 1) 111 4 [.inr k, .inl (nI a), .inl (nI i)] [] s) (fun i a => a + (if isU T S i = true then tWo T i else 0)) 8 (fun i a hi => by
    rw [E111_4 (hk0 := hk)]
    simp (disch := omega) only [x_isUp ht (ho.1 i) hk hc hi, lit, nI_add, pk_mul, n_sub, n_addneg, nle_t, nle_f, nlt_t, nlt_f, neq_t, neq_f, n_inb, n_ix, bnd_some, if_true, if_false, ite_tt, ite_ff, not_true_eq_false, not_false_eq_true, eq_self, false_or, or_false, true_or, or_true]
    cases hu : isU T S i with
    | true =>
      obtain ⟨x, -, hw, -⟩ := isU_lt ho hu
      simp (disch := omega) only [bI_t, E111_31 (hk0 := hk), x_worth ht hT hw, lit, nI_add, pk_mul, n_sub, n_addneg, nle_t, nle_f, nlt_t, nlt_f, neq_t, neq_f, n_inb, n_ix, bnd_some, if_true, if_false, ite_tt, ite_ff, not_true_eq_false, not_false_eq_true, eq_self, false_or, or_false, true_or, or_true]
    | false => simp (disch := omega) only [bI_f, E111_31 (hk0 := hk), Bool.false_eq_true, lit, nI_add, pk_mul, n_sub, n_addneg, nle_t, nle_f, nlt_t, nlt_f, neq_t, neq_f, n_inb, n_ix, bnd_some, if_true, if_false, ite_tt, ite_ff, not_true_eq_false, not_false_eq_true, eq_self, false_or, or_false, true_or, or_true]) 0
  simp (disch := omega) only [lit, nI_add, pk_mul, n_sub, n_addneg, nle_t, nle_f, nlt_t, nlt_f, neq_t, neq_f, n_inb, n_ix, bnd_some, if_true, if_false, ite_tt, ite_ff, not_true_eq_false, not_false_eq_true, eq_self, false_or, or_false, true_or, or_true]
  rw [h, E111_4 (hk0 := hk)]
  simp (disch := omega) only [lit, nI_add, pk_mul, n_sub, n_addneg, nle_t, nle_f, nlt_t, nlt_f, neq_t, neq_f, n_inb, n_ix, bnd_some, if_true, if_false, ite_tt, ite_ff, not_true_eq_false, not_false_eq_true, eq_self, false_or, or_false, true_or, or_true]
  rfl
theorem x_hungInAll (hc : XC T S (s 37)) (hl : l < 10) : ev (d + 1) 113 0 [.inr 36, .inl (nI l), .inr 0, .inr 0] [] s = some (0, nI (hal S l), s) := by
  have hk : isK 36 := Or.inl rfl
  have hc : XC T S (s (mRf 36 1)) := hc
  rw [E113_0]
  have h := loopU (fun i a => ev (d + 1) 113 4 [.inr 36, .inl (nI l), .inl (nI a), .inl (nI i)] [] s) (fun i a => a + sG S i l) 8 (fun i a hi => by
    rw [E113_4]
    simp (disch := omega) only [x_hung hk hc hi hl, lit, nI_add, pk_mul, n_sub, n_addneg, nle_t, nle_f, nlt_t, nlt_f, neq_t, neq_f, n_inb, n_ix, bnd_some, if_true, if_false, ite_tt, ite_ff, not_true_eq_false, not_false_eq_true, eq_self, false_or, or_false, true_or, or_true]) 0
  simp (disch := omega) only [lit, nI_add, pk_mul, n_sub, n_addneg, nle_t, nle_f, nlt_t, nlt_f, neq_t, neq_f, n_inb, n_ix, bnd_some, if_true, if_false, ite_tt, ite_ff, not_true_eq_false, not_false_eq_true, eq_self, false_or, or_false, true_or, or_true]
  rw [h, E113_4]
  simp (disch := omega) only [lit, nI_add, pk_mul, n_sub, n_addneg, nle_t, nle_f, nlt_t, nlt_f, neq_t, neq_f, n_inb, n_ix, bnd_some, if_true, if_false, ite_tt, ite_ff, not_true_eq_false, not_false_eq_true, eq_self, false_or, or_false, true_or, or_true]
  rfl
end XB
