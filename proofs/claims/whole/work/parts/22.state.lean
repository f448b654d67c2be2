/-! THE CLASS's STATE, read -/
def bI (b : Bool) : Int32 := nI b.toNat
theorem bI_t : bI true = nI 1 := rfl
theorem bI_f : bI false = nI 0 := rfl
theorem bI_z {b : Bool} : (bI b = nI 0) = (b = false) := by cases b <;> simp [bI] <;> decide
theorem bI_01 {b : Bool} : (bI b = nI 0 ∨ bI b = nI 1) = True := by cases b <;> simp [bI]
theorem oc_none : oc none = -nI 1 := rfl
theorem oc_some {x : Nat} : oc (some x) = nI x := rfl
theorem oc_eq {T : aT} {S : aS} {w : Nat} (ht : tOk T) (h : wOk T S w) : (oc (sH S w) = -nI 1) = (sH S w = none) := by
  cases hn : sH S w with
  | none => simp [oc]
  | some x =>
    have := (wOk_s h hn).2.1
    have := ht.1
    rw [oc_some, nneg_f (by omega) (by omega) (by omega)]
    simp
section XST
variable {d k w l B : Nat} {s : mS} {T : aT} {S : aS}
theorem x_hung (hk : isK k) (hc : XC T S (s (mRf k 1))) (hw : w < 8) (hl : l < 10) : ev d 104 0 [.inr k, .inl (nI w), .inl (nI l)] [] s = some (0, nI (sG S w l), s) := by
  rw [E104_0 (hk0 := hk)]
  have h := (hc.1 w hw).2.2.2.2 l hl
  simp (disch := omega) only [h, lit, nI_add, pk_mul, n_sub, n_addneg, nle_t, nle_f, nlt_t, nlt_f, neq_t, neq_f, n_inb, n_ix, bnd_some, if_true, if_false, ite_tt, ite_ff, not_true_eq_false, not_false_eq_true, eq_self, false_or, or_false, true_or, or_true]
theorem x_wordOf (hk : isK k) (hc : XC T S (s (mRf k 1))) (hw : w < 8) : ev d 94 0 [.inr k, .inl (nI w)] [] s = some (0, oc (sH S w), s) := by
  rw [E94_0 (hk0 := hk)]
  have h := (hc.1 w hw).1
  simp (disch := omega) only [h, Nat.zero_add, lit, nI_add, pk_mul, n_sub, n_addneg, nle_t, nle_f, nlt_t, nlt_f, neq_t, neq_f, n_inb, n_ix, bnd_some, if_true, if_false, ite_tt, ite_ff, not_true_eq_false, not_false_eq_true, eq_self, false_or, or_false, true_or, or_true]
theorem x_missing (hk : isK k) (hc : XC T S (s (mRf k 1))) (hw : w < 8) : ev d 96 0 [.inr k, .inl (nI w)] [] s = some (0, nI (mis T S w), s) := by
  rw [E96_0 (hk0 := hk)]
  have h := (hc.1 w hw).2.1
  simp (disch := omega) only [h, lit, nI_add, pk_mul, n_sub, n_addneg, nle_t, nle_f, nlt_t, nlt_f, neq_t, neq_f, n_inb, n_ix, bnd_some, if_true, if_false, ite_tt, ite_ff, not_true_eq_false, not_false_eq_true, eq_self, false_or, or_false, true_or, or_true]
theorem x_waited (hk : isK k) (hc : XC T S (s (mRf k 1))) (hw : w < 8) : ev d 99 0 [.inr k, .inl (nI w)] [] s = some (0, nI (sQ S w), s) := by
  rw [E99_0 (hk0 := hk)]
  have h := (hc.1 w hw).2.2.1
  simp (disch := omega) only [h, lit, nI_add, pk_mul, n_sub, n_addneg, nle_t, nle_f, nlt_t, nlt_f, neq_t, neq_f, n_inb, n_ix, bnd_some, if_true, if_false, ite_tt, ite_ff, not_true_eq_false, not_false_eq_true, eq_self, false_or, or_false, true_or, or_true]
theorem x_shown (hk : isK k) (hc : XC T S (s (mRf k 1))) (hw : w < 8) : ev d 100 0 [.inr k, .inl (nI w)] [] s = some (0, nI (sU S w), s) := by
  rw [E100_0 (hk0 := hk)]
  have h := (hc.1 w hw).2.2.2.1
  simp (disch := omega) only [h, lit, nI_add, pk_mul, n_sub, n_addneg, nle_t, nle_f, nlt_t, nlt_f, neq_t, neq_f, n_inb, n_ix, bnd_some, if_true, if_false, ite_tt, ite_ff, not_true_eq_false, not_false_eq_true, eq_self, false_or, or_false, true_or, or_true]
theorem x_inChest (hk : isK k) (hc : XC T S (s (mRf k 1))) (hl : l < 10) : ev d 101 0 [.inr k, .inl (nI l)] [] s = some (0, nI (sL S l), s) := by
  rw [E101_0 (hk0 := hk)]
  have h := hc.2.1 l hl
  simp (disch := omega) only [h, lit, nI_add, pk_mul, n_sub, n_addneg, nle_t, nle_f, nlt_t, nlt_f, neq_t, neq_f, n_inb, n_ix, bnd_some, if_true, if_false, ite_tt, ite_ff, not_true_eq_false, not_false_eq_true, eq_self, false_or, or_false, true_or, or_true]
theorem x_leftInAll (hk : isK k) (hc : XC T S (s (mRf k 1))) : ev d 102 0 [.inr k] [] s = some (0, nI (sm (sL S) 10), s) := by
  rw [E102_0 (hk0 := hk)]
  have h := hc.2.2.1
  simp (disch := omega) only [h, lit, nI_add, pk_mul, n_sub, n_addneg, nle_t, nle_f, nlt_t, nlt_f, neq_t, neq_f, n_inb, n_ix, bnd_some, if_true, if_false, ite_tt, ite_ff, not_true_eq_false, not_false_eq_true, eq_self, false_or, or_false, true_or, or_true]
theorem x_weeksGone (hc : XC T S (s 37)) : ev d 103 0 [.inr 36] [] s = some (0, nI (sK S), s) := by
  rw [E103_0]
  have h := hc.2.2.2
  simp (disch := omega) only [h, lit, nI_add, pk_mul, n_sub, n_addneg, nle_t, nle_f, nlt_t, nlt_f, neq_t, neq_f, n_inb, n_ix, bnd_some, if_true, if_false, ite_tt, ite_ff, not_true_eq_false, not_false_eq_true, eq_self, false_or, or_false, true_or, or_true]
theorem x_hasWord (ht : tOk T) (ho : wOk T S w) (hk : isK k) (hc : XC T S (s (mRf k 1))) (hw : w < 8) : ev d 95 0 [.inr k, .inl (nI w)] [] s = some (0, bI (isW S w), s) := by
  rw [E95_0 (hk0 := hk)]
  have h := (hc.1 w hw).1
  have h2 := oc_eq ht ho
  simp (disch := omega) only [h, Nat.zero_add, E95_17, h2, lit, nI_add, pk_mul, n_sub, n_addneg, nle_t, nle_f, nlt_t, nlt_f, neq_t, neq_f, n_inb, n_ix, bnd_some, if_true, if_false, ite_tt, ite_ff, not_true_eq_false, not_false_eq_true, eq_self, false_or, or_false, true_or, or_true]
  unfold isW
  cases sH S w with
  | none => rfl
  | some x => rfl
theorem x_isUp (ht : tOk T) (ho : wOk T S w) (hk : isK k) (hc : XC T S (s (mRf k 1))) (hw : w < 8) : ev d 97 0 [.inr k, .inl (nI w)] [] s = some (0, bI (isU T S w), s) := by
  rw [E97_0 (hk0 := hk)]
  have h := (hc.1 w hw).1
  have h1 := (hc.1 w hw).2.1
  have h2 := oc_eq ht ho
  have h3 := mis_le ht ho
  simp (disch := omega) only [h, h1, Nat.zero_add, E97_28, E97_29, h2, lit, nI_add, pk_mul, n_sub, n_addneg, nle_t, nle_f, nlt_t, nlt_f, neq_t, neq_f, n_inb, n_ix, bnd_some, if_true, if_false, ite_tt, ite_ff, not_true_eq_false, not_false_eq_true, eq_self, false_or, or_false, true_or, or_true]
  unfold isU isW
  cases sH S w with
  | none => rfl
  | some x =>
    by_cases hm : mis T S w = 0
    · simp (disch := omega) only [hm, lit, nI_add, pk_mul, n_sub, n_addneg, nle_t, nle_f, nlt_t, nlt_f, neq_t, neq_f, n_inb, n_ix, bnd_some, if_true, if_false, ite_tt, ite_ff, not_true_eq_false, not_false_eq_true, eq_self, false_or, or_false, true_or, or_true]; rfl
    · simp (disch := omega) only [lit, nI_add, pk_mul, n_sub, n_addneg, nle_t, nle_f, nlt_t, nlt_f, neq_t, neq_f, n_inb, n_ix, bnd_some, if_true, if_false, ite_tt, ite_ff, not_true_eq_false, not_false_eq_true, eq_self, false_or, or_false, true_or, or_true]
      simp [hm, bI]
theorem x_waits (ht : tOk T) (ho : wOk T S w) (hk : isK k) (hc : XC T S (s (mRf k 1))) (hw : w < 8) : ev d 98 0 [.inr k, .inl (nI w)] [] s = some (0, bI (isQ T S w), s) := by
  rw [E98_0 (hk0 := hk)]
  have h1 := (hc.1 w hw).2.1
  have h3 := mis_le ht ho
  simp (disch := omega) only [h1, E98_17, lit, nI_add, pk_mul, n_sub, n_addneg, nle_t, nle_f, nlt_t, nlt_f, neq_t, neq_f, n_inb, n_ix, bnd_some, if_true, if_false, ite_tt, ite_ff, not_true_eq_false, not_false_eq_true, eq_self, false_or, or_false, true_or, or_true]
  unfold isQ
  by_cases hm : mis T S w = 0
  · simp (disch := omega) only [hm, lit, nI_add, pk_mul, n_sub, n_addneg, nle_t, nle_f, nlt_t, nlt_f, neq_t, neq_f, n_inb, n_ix, bnd_some, if_true, if_false, ite_tt, ite_ff, not_true_eq_false, not_false_eq_true, eq_self, false_or, or_false, true_or, or_true]; rfl
  · simp (disch := omega) only [lit, nI_add, pk_mul, n_sub, n_addneg, nle_t, nle_f, nlt_t, nlt_f, neq_t, neq_f, n_inb, n_ix, bnd_some, if_true, if_false, ite_tt, ite_ff, not_true_eq_false, not_false_eq_true, eq_self, false_or, or_false, true_or, or_true]
    have : 0 < mis T S w := by omega
    simp [this, bI]
theorem x_tneed {x : Nat} (ht : tOk T) (hT : XT T s) (hx : x < tW T) (hl : l < 10) : ev d 157 0 [.inr 6, .inl (nI x), .inl (nI l)] [] s = some (0, nI (nd T x l), s) := by
  rw [E157_0]
  have h := (hT.2.2.1 x hx).2.2.2 l hl
  have := ht.1
  simp (disch := omega) only [h, lit, nI_add, pk_mul, n_sub, n_addneg, nle_t, nle_f, nlt_t, nlt_f, neq_t, neq_f, n_inb, n_ix, bnd_some, if_true, if_false, ite_tt, ite_ff, not_true_eq_false, not_false_eq_true, eq_self, false_or, or_false, true_or, or_true]
theorem x_lack (ht : tOk T) (hT : XT T s) (ho : wOk T S w) (hk : isK k) (hc : XC T S (s (mRf k 1))) (hw : w < 8) (hl : l < 10) : ev (d + 1) 107 0 [.inr k, .inl (nI w), .inl (nI l)] [] s = some (0, nI (lck T S w l), s) := by
  rw [E107_0 (hk0 := hk), x_hasWord ht ho hk hc hw, bnd_some]
  unfold lck isW
  cases hn : sH S w with
  | none => simp (disch := omega) only [Option.isSome, bI_f, E107_32, lit, nI_add, pk_mul, n_sub, n_addneg, nle_t, nle_f, nlt_t, nlt_f, neq_t, neq_f, n_inb, n_ix, bnd_some, if_true, if_false, ite_tt, ite_ff, not_true_eq_false, not_false_eq_true, eq_self, false_or, or_false, true_or, or_true]
  | some x =>
    obtain ⟨h1, h2, h3, -⟩ := wOk_s ho hn
    have h4 := h3 l
    simp (disch := omega) only [Option.isSome, bI_t, x_wordOf hk hc hw, hn, oc_some, x_tneed ht hT h2 hl, x_hung hk hc hw hl, E107_32, lit, nI_add, pk_mul, n_sub, n_addneg, nle_t, nle_f, nlt_t, nlt_f, neq_t, neq_f, n_inb, n_ix, bnd_some, if_true, if_false, ite_tt, ite_ff, not_true_eq_false, not_false_eq_true, eq_self, false_or, or_false, true_or, or_true]
theorem x_need (ht : tOk T) (hT : XT T s) (ho : wOk T S w) (hc : XC T S (s 37)) (hw : w < 8) (hl : l < 10) : ev (d + 1) 106 0 [.inr 36, .inl (nI w), .inl (nI l)] [] s = some (0, nI (match sH S w with | none => 0 | some x => nd T x l), s) := by
  have hk : isK 36 := Or.inl rfl
  have hc : XC T S (s (mRf 36 1)) := hc
  rw [E106_0, x_hasWord ht ho hk hc hw, bnd_some]
  unfold isW
  cases hn : sH S w with
  | none => simp (disch := omega) only [Option.isSome, bI_f, E106_25, lit, nI_add, pk_mul, n_sub, n_addneg, nle_t, nle_f, nlt_t, nlt_f, neq_t, neq_f, n_inb, n_ix, bnd_some, if_true, if_false, ite_tt, ite_ff, not_true_eq_false, not_false_eq_true, eq_self, false_or, or_false, true_or, or_true]
  | some x =>
    obtain ⟨h1, h2, h3, -⟩ := wOk_s ho hn
    simp (disch := omega) only [Option.isSome, bI_t, x_wordOf hk hc hw, hn, oc_some, x_tneed ht hT h2 hl, E106_25, lit, nI_add, pk_mul, n_sub, n_addneg, nle_t, nle_f, nlt_t, nlt_f, neq_t, neq_f, n_inb, n_ix, bnd_some, if_true, if_false, ite_tt, ite_ff, not_true_eq_false, not_false_eq_true, eq_self, false_or, or_false, true_or, or_true]
theorem x_hanging (hc : XC T S (s 37)) (hw : w < 8) : ev (d + 1) 105 0 [.inr 36, .inl (nI w), .inr 0, .inr 0] [] s = some (0, nI (hgs S w), s) := by
  have hk : isK 36 := Or.inl rfl
  have hc : XC T S (s (mRf 36 1)) := hc
  rw [E105_0]
  have h := loopU (fun i a => ev (d + 1) 105 4 [.inr 36, .inl (nI w), .inl (nI a), .inl (nI i)] [] s) (fun i a => a + sG S w i) 10 (fun i a hi => by
    rw [E105_4]
    simp (disch := omega) only [x_hung hk hc hw hi, lit, nI_add, pk_mul, n_sub, n_addneg, nle_t, nle_f, nlt_t, nlt_f, neq_t, neq_f, n_inb, n_ix, bnd_some, if_true, if_false, ite_tt, ite_ff, not_true_eq_false, not_false_eq_true, eq_self, false_or, or_false, true_or, or_true]) 0
  simp (disch := omega) only [lit, nI_add, pk_mul, n_sub, n_addneg, nle_t, nle_f, nlt_t, nlt_f, neq_t, neq_f, n_inb, n_ix, bnd_some, if_true, if_false, ite_tt, ite_ff, not_true_eq_false, not_false_eq_true, eq_self, false_or, or_false, true_or, or_true]
  rw [h, E105_4]
  simp (disch := omega) only [lit, nI_add, pk_mul, n_sub, n_addneg, nle_t, nle_f, nlt_t, nlt_f, neq_t, neq_f, n_inb, n_ix, bnd_some, if_true, if_false, ite_tt, ite_ff, not_true_eq_false, not_false_eq_true, eq_self, false_or, or_false, true_or, or_true]
  rfl
end XST
