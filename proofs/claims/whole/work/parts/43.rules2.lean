/-! CALLS: rules, the whole -/
section XC8
variable {d B : Nat} {s s' : mS} {A : aA} {a : Int32}
theorem X_rules (h : XI A B s) (hB : B + 60 < 2147483000) : ∃ s', ev (d + 1 + 1 + 1 + 1 + 1 + 1) 187 0 [.inr 1, .inl a, .inr 0, .inr 0, .inr 0, .inr 0, .inr 0, .inr 0] [] s = some (0, (o_rules A a).2, s') ∧ XI (o_rules A a).1 B s' ∧ fX s s' := by
  have ha := h.1
  unfold o_rules
  by_cases hi : inN a 61 = false
  · rw [if_pos hi]
    refine ⟨s, ?_, h, fun _ _ => rfl⟩
    rw [E187_0, x_isSpan, hi]
    simp (disch := omega) only [bI_f, lit, nI_add, pk_mul, n_sub, n_addneg, nle_t, nle_f, nlt_t, nlt_f, neq_t, neq_f, n_inb, n_ix, bnd_some, if_true, if_false, ite_tt, ite_ff, not_true_eq_false, not_false_eq_true, eq_self, false_or, or_false, true_or, or_true]
  have hi' : inN a 61 = true := by simpa using hi
  rw [if_neg hi]
  obtain ⟨n, hn, rfl⟩ := inN_t (by omega) hi'
  rw [n_ix (by omega)]
  have m0 : mRf 16 3 = 18 := by decide +kernel
  have m1 : mRf 22 3 = 24 := by decide +kernel
  have m2 : mRf 25 3 = 27 := by decide +kernel
  have m3 : mRf 28 3 = 30 := by decide +kernel
  obtain ⟨s1, e1, q1⟩ := x_worthIf (d := d) (kr := 16) ha.1 h.2.2.1 ha.2.1 hB (Or.inl rfl) h.2.2.2.2.2.2.1.1 h.2.1 (show n ≤ 60 by omega)
  rw [m0] at q1
  have h1 := XI_same h q1 (by decide) (by decide)
  obtain ⟨s2, e2, q2⟩ := x_worthIf (d := d) (kr := 22) ha.1 h1.2.2.1 ha.2.1 hB (Or.inr (Or.inl rfl)) h1.2.2.2.2.2.2.1.2.1 h1.2.1 (show n ≤ 60 by omega)
  rw [m1] at q2
  have h2 := XI_same h1 q2 (by decide) (by decide)
  obtain ⟨s3, e3, q3⟩ := x_worthIf (d := d) (kr := 25) ha.1 h2.2.2.1 ha.2.1 hB (Or.inr (Or.inr (Or.inl rfl))) h2.2.2.2.2.2.2.1.2.2.1 h2.2.1 (show n ≤ 60 by omega)
  rw [m2] at q3
  have h3 := XI_same h2 q3 (by decide) (by decide)
  obtain ⟨s4, e4, q4⟩ := x_worthIf (d := d) (kr := 28) ha.1 h3.2.2.1 ha.2.1 hB (Or.inr (Or.inr (Or.inr rfl))) h3.2.2.2.2.2.2.1.2.2.2 h3.2.1 (show n ≤ 60 by omega)
  rw [m3] at q4
  have h4 := XI_same h3 q4 (by decide) (by decide)
  obtain ⟨s5, s6, s7, r1, r2, r3, -, -, p3, w3⟩ := x_add3 (d := d + 1 + 1 + 1 + 1 + 1) (s := s4) (a := ruV A n 0) (b := ruV A n 1) (c := ruV A n 2)
  obtain ⟨s8, r4, w4, p4⟩ := x_add (d := d + 1 + 1 + 1 + 1 + 1) (a := ruV A n 3) w3 (by simp)
  have w4 : XW [ruV A n 0, ruV A n 1, ruV A n 2, ruV A n 3] s8 := w4
  have h5 := XI_row h4 (p3.tr p4) (by decide) (by decide) w4 (by simp)
  refine ⟨s8, ?_, h5, ((((fX_q q1 (by decide)).tr (fX_q q2 (by decide))).tr (fX_q q3 (by decide))).tr (fX_q q4 (by decide))).tr (fX_q (p3.tr p4) (by decide))⟩
  have e1 : ev (d + 1 + 1 + 1 + 1 + 1) 223 0 [.inr 1, .inr 16, .inl (nI n), .inr 0, .inr 0] [] s = some (0, ruV A n 0, s1) := e1
  have e2 : ev (d + 1 + 1 + 1 + 1 + 1) 223 0 [.inr 1, .inr 22, .inl (nI n), .inr 0, .inr 0] [] s1 = some (0, ruV A n 1, s2) := e2
  have e3 : ev (d + 1 + 1 + 1 + 1 + 1) 223 0 [.inr 1, .inr 25, .inl (nI n), .inr 0, .inr 0] [] s2 = some (0, ruV A n 2, s3) := e3
  have e4 : ev (d + 1 + 1 + 1 + 1 + 1) 223 0 [.inr 1, .inr 28, .inl (nI n), .inr 0, .inr 0] [] s3 = some (0, ruV A n 3, s4) := e4
  simp only [lit] at r1
  have hat : ∀ i, i < 4 → ev (d + 1 + 1 + 1 + 1 + 1) 52 0 [.inr 4, .inl (nI i)] [] s8 = some (0, ruV A n i, s8) := fun i hi => by
    rw [x_rat w4 (by simp) (by simpa using hi)]
    have : ∀ i, i < 4 → [ruV A n 0, ruV A n 1, ruV A n 2, ruV A n 3].getD i 0 = ruV A n i := fun i hi => by
      match i, hi with
      | 0, _ => rfl
      | 1, _ => rfl
      | 2, _ => rfl
      | 3, _ => rfl
    rw [this i hi]
  have hsz := x_rsize (d := d + 1 + 1 + 1 + 1 + 1) w4
  have hsz : ev (d + 1 + 1 + 1 + 1 + 1) 51 0 [.inr 4] [] s8 = some (0, nI 4, s8) := hsz
  have key : ∀ j, j ≤ 3 → ev (d + 1 + 1 + 1 + 1 + 1 + 1) 187 83 [.inr 1, .inr 0, .inr 0, .inr 0, .inr 0, .inr 0, .inl (nI 0), .inl (nI 1)] [] s8 = ev (d + 1 + 1 + 1 + 1 + 1 + 1) 187 83 [.inr 1, .inr 0, .inr 0, .inr 0, .inr 0, .inr 0, .inl (nI (bstR (ruV A n) j)), .inl (nI (j + 1))] [] s8 := by
    intro j
    induction j with
    | zero => intro _; rfl
    | succ j ih =>
      intro hj
      have hb := bstR_le (v := ruV A n) (n := j)
      rw [ih (by omega), E187_83, bstR_s]
      simp (disch := omega) only [hsz, hat, lit, nI_add, pk_mul, n_sub, n_addneg, nle_t, nle_f, nlt_t, nlt_f, neq_t, neq_f, n_inb, n_ix, bnd_some, if_true, if_false, ite_tt, ite_ff, not_true_eq_false, not_false_eq_true, eq_self, false_or, or_false, true_or, or_true]
      by_cases hv : ruV A n (j + 1) ≤ ruV A n (bstR (ruV A n) j)
      · rw [if_pos hv, if_pos hv, E187_120]
        simp (disch := omega) only [lit, nI_add, pk_mul, n_sub, n_addneg, nle_t, nle_f, nlt_t, nlt_f, neq_t, neq_f, n_inb, n_ix, bnd_some, if_true, if_false, ite_tt, ite_ff, not_true_eq_false, not_false_eq_true, eq_self, false_or, or_false, true_or, or_true]
      · rw [if_neg hv, if_neg hv, E187_120]
        simp (disch := omega) only [lit, nI_add, pk_mul, n_sub, n_addneg, nle_t, nle_f, nlt_t, nlt_f, neq_t, neq_f, n_inb, n_ix, bnd_some, if_true, if_false, ite_tt, ite_ff, not_true_eq_false, not_false_eq_true, eq_self, false_or, or_false, true_or, or_true]
  rw [E187_0, x_isSpan, hi']
  simp (disch := omega) only [bI_t, e1, e2, e3, e4, x_clear, r1, r2, r3, r4, lit, nI_add, pk_mul, n_sub, n_addneg, nle_t, nle_f, nlt_t, nlt_f, neq_t, neq_f, n_inb, n_ix, bnd_some, if_true, if_false, ite_tt, ite_ff, not_true_eq_false, not_false_eq_true, eq_self, false_or, or_false, true_or, or_true]
  rw [key 3 (Nat.le_refl _), E187_83]
  simp (disch := omega) only [hsz, lit, nI_add, pk_mul, n_sub, n_addneg, nle_t, nle_f, nlt_t, nlt_f, neq_t, neq_f, n_inb, n_ix, bnd_some, if_true, if_false, ite_tt, ite_ff, not_true_eq_false, not_false_eq_true, eq_self, false_or, or_false, true_or, or_true]
end XC8
