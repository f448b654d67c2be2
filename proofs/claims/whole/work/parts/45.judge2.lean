/-! CALLS: judge, the whole -/
theorem inN_f {a : Int32} {n : Nat} (h : inN a n = false) : a < nI 0 ∨ nI n ≤ a := by
  have h := of_decide_eq_false h
  by_cases h1 : a < nI 0
  · exact Or.inl h1
  · by_cases h2 : nI n ≤ a
    · exact Or.inr h2
    · exact absurd ⟨h1, h2⟩ h
theorem nle_of {a : Int32} {n : Nat} (hn : n + 1 < 2147483648) (h : nI (n + 1) ≤ a) : ¬ a ≤ nI n := fun z => Int32.not_le.mpr ((lt_n a n hn).mpr h) z
section XCA
variable {d B : Nat} {s s' : mS} {T : aT} {S : aS} {A : aA} {f t l a b n : Int32}
theorem X_judge (h : XI A B s) : ∃ s', ev (d + 1 + 1 + 1 + 1) 189 0 [.inr 1, .inl n, .inl a, .inr 0, .inr 0, .inr 0] [] s = some (0, (o_judge A n a).2, s') ∧ XI (o_judge A n a).1 B s' ∧ fX s s' := by
  have ha := h.1
  have et : mRf 40 1 = 41 := by decide +kernel
  unfold o_judge
  by_cases hi : inN n 4 = false
  · rw [if_pos hi]
    refine ⟨s, ?_, h, fun _ _ => rfl⟩
    rw [E189_0, E189_9]
    rcases inN_f hi with h1 | h1
    · simp only [lit, h1, if_true, if_false, not_true_eq_false, not_false_eq_true]
    · by_cases h2 : n < nI 0
      · simp only [lit, h2, if_true, if_false, not_true_eq_false, not_false_eq_true]
      · simp only [lit, h2, nle_of (n := 3) (by omega) h1, if_true, if_false, not_true_eq_false, not_false_eq_true]
  have hi' : inN n 4 = true := by simpa using hi
  rw [if_neg hi]
  obtain ⟨m, hm, rfl⟩ := inN_t (by omega) hi'
  rw [n_ix (by omega)]
  obtain ⟨c', e1, i1⟩ := x_copy (d := d + 1 + 1 + 1) (s := s)
  have q1 : Eqx [41] s (setA s 41 c') := Eqx.rf.set (by simp)
  have h1 := XI_same h q1 (by decide) (by decide)
  obtain ⟨s2, e2, c2, o2, q2⟩ := x_judL (d := d) (a := a) ha.1 h1.2.2.1 ha.2.1 (by rw [setA_at]; exact XC_congr h.2.1 i1) (show m ≤ 3 by omega) m (Nat.le_refl m)
  have h2 := XI_same h1 q2 (by decide) (by decide)
  have q3 : Eqx [4, 5] s2 (up s2 4 1 0) := Eqx.rf.up (by simp)
  have e3 := x_up (d := d + 1 + 1) (s := up s2 4 1 0) ha.1 o2 (Or.inr rfl : isK 40) (by rw [et, up_ne (by decide)]; exact c2)
  obtain ⟨s4, e4, w4, q4⟩ := x_add (d := d + 1 + 1 + 1) (a := nI (bts (isU (gT A) (judN (gT A) (gS A) a m).2) 8)) (XW_nil (s := s2)) (by decide)
  simp only [lit] at e3 e4
  have fin : ∀ r : Int32, ev (d + 1 + 1 + 1 + 1) 189 85 [.inr 1, .inr 0, .inr 0, .inl r, .inr 0, .inr 0] [] s2 = some (0, r, s4) := fun r => by
    rw [E189_85]
    simp (disch := omega) only [x_clear, e3, e4, lit, nI_add, pk_mul, n_sub, n_addneg, nle_t, nle_f, nlt_t, nlt_f, neq_t, neq_f, n_inb, n_ix, bnd_some, if_true, if_false, ite_tt, ite_ff, not_true_eq_false, not_false_eq_true, eq_self, false_or, or_false, true_or, or_true]
  refine ⟨s4, ?_, XI_row h2 (q3.tr q4) (by decide) (by decide) w4 (by simp), ((fX_q q1 (by decide)).tr (fX_q q2 (by decide))).tr (fX_q (q3.tr q4) (by decide))⟩
  have hneg : (nI 0 ≤ -nI 2) = False := eq_false (by decide +kernel)
  rw [E189_0]
  simp (disch := omega) only [lit, nI_add, pk_mul, n_sub, n_addneg, nle_t, nle_f, nlt_t, nlt_f, neq_t, neq_f, n_inb, n_ix, bnd_some, if_true, if_false, ite_tt, ite_ff, not_true_eq_false, not_false_eq_true, eq_self, false_or, or_false, true_or, or_true]
  rw [e1, bnd_some, e2]
  cases hr : (judN (gT A) (gS A) a m).1 with
  | some k => exact fin _
  | none =>
    show ev (d + 1 + 1 + 1 + 1) 189 28 [.inr 1, .inl (nI m), .inl a, .inl (-nI 2), .inl (nI m), .inr 0] [] s2 = _
    rw [E189_28]
    simp (disch := omega) only [lit, nI_add, pk_mul, n_sub, n_addneg, nle_t, nle_f, nlt_t, nlt_f, neq_t, neq_f, n_inb, n_ix, bnd_some, if_true, if_false, ite_tt, ite_ff, not_true_eq_false, not_false_eq_true, eq_self, false_or, or_false, true_or, or_true]
    exact fin _
end XCA
