/-! CALLS: weeks, the whole -/
section XC5
variable {d B : Nat} {s s' : mS} {A : aA} {a : Int32}
theorem X_weeks (h : XI A B s) (hB : B + 60 < 2147483000) : ∃ s', ev (d + 1 + 1 + 1 + 1 + 1) 184 0 [.inr 1, .inl a, .inr 0, .inr 0, .inr 0] [] s = some (0, (o_weeks A a).2, s') ∧ XI (o_weeks A a).1 (B + 60) s' ∧ fX s s' := by
  have hk : isK 36 := Or.inl rfl
  unfold o_weeks
  by_cases hi : inN a 61 = false
  · rw [if_pos hi]
    refine ⟨s, ?_, XI_mono h (by omega), fun _ _ => rfl⟩
    rw [E184_0, x_isSpan, hi]
    simp (disch := omega) only [bI_f, lit, nI_add, pk_mul, n_sub, n_addneg, nle_t, nle_f, nlt_t, nlt_f, neq_t, neq_f, n_inb, n_ix, bnd_some, if_true, if_false, ite_tt, ite_ff, not_true_eq_false, not_false_eq_true, eq_self, false_or, or_false, true_or, or_true]
  have hi' : inN a 61 = true := by simpa using hi
  rw [if_neg hi]
  obtain ⟨n, hn, rfl⟩ := inN_t (by omega) hi'
  rw [n_ix (by omega)]
  have step : ∀ (s1 : mS) (A1 : aA), XI A1 (B + 60) s1 → sOk (gT A) (gS A) B → True := fun _ _ _ _ => trivial
  have ha := h.1
  -- the store behind the putting aside
  have h1 : ∃ s1, ev (d + 1 + 1 + 1 + 1 + 1) 184 0 [.inr 1, .inl (nI n), .inr 0, .inr 0, .inr 0] [] s = ev (d + 1 + 1 + 1 + 1 + 1) 184 31 [.inr 1, .inl (nI n), .inl (nI 0), .inl (nI 0), .inl (nI 0)] [] s1 ∧ XJ (if n = 0 then A else wU A (pushU A)) s1 ∧ XC (gT A) (gS A) (s1 37) ∧ fX s s1 := by
    by_cases h0 : n = 0
    · rw [if_pos h0]
      refine ⟨s, ?_, h.2.2, h.2.1, fun _ _ => rfl⟩
      rw [E184_0, x_isSpan, hi']
      simp (disch := omega) only [bI_t, E184_24, lit, nI_add, pk_mul, n_sub, n_addneg, nle_t, nle_f, nlt_t, nlt_f, neq_t, neq_f, n_inb, n_ix, bnd_some, if_true, if_false, ite_tt, ite_ff, not_true_eq_false, not_false_eq_true, eq_self, false_or, or_false, true_or, or_true]
    · rw [if_neg h0]
      obtain ⟨s1, e1, j1, c1, q1⟩ := x_pushA (d := d + 1 + 1 + 1) h
      refine ⟨s1, ?_, j1, c1, fX_q q1 (by decide)⟩
      rw [E184_0, x_isSpan, hi']
      simp (disch := omega) only [bI_t, e1, E184_24, lit, nI_add, pk_mul, n_sub, n_addneg, nle_t, nle_f, nlt_t, nlt_f, neq_t, neq_f, n_inb, n_ix, bnd_some, if_true, if_false, ite_tt, ite_ff, not_true_eq_false, not_false_eq_true, eq_self, false_or, or_false, true_or, or_true]
  obtain ⟨s1, e1, j1, c1, f1⟩ := h1
  have hT1 : XT (gT A) s1 := by
    have := j1.1
    by_cases h0 : n = 0
    · rw [if_pos h0] at this; exact this
    · rw [if_neg h0] at this; exact this
  have hR1 : XR (gR A) 16 s1 := by
    have := j1.2.2.2.2.1.1
    by_cases h0 : n = 0
    · rw [if_pos h0] at this; exact this
    · rw [if_neg h0] at this; exact this
  obtain ⟨s2, e2, c2, o2, q2⟩ := x_weeksL (d := d) (a := nI 0) ha.1 hT1 ha.2.1 hB hR1 c1 (show n ≤ 60 by omega) n (Nat.le_refl _)
  have o2' : sOk (gT A) (weR A n).1 (B + 60) := ⟨o2.1, o2.2.1, Nat.le_trans o2.2.2 (by omega)⟩
  have i2 : XI (if n = 0 then wS A (weR A n).1 else goS A (weR A n).1) (B + 60) s2 := by
    by_cases h0 : n = 0
    · rw [if_pos h0] at j1 ⊢
      subst h0
      exact ⟨(XI_mono h (by omega)).1, c2, XJ_q j1 q2 (by decide)⟩
    · rw [if_neg h0] at j1 ⊢
      exact XI_go ha (by omega) (XJ_q j1 q2 (by decide)) c2 (fun l _ => stk_wkN) o2'
  have ec : mRf 36 1 = 37 := by decide +kernel
  obtain ⟨s3, s4, s5, r1, r2, r3, q3, q4, q5, w5⟩ := x_add3 (d := d + 1 + 1 + 1 + 1) (s := s2) (a := nI (bts (isU (gT A) (weR A n).1) 8)) (b := nI (bts (isQ (gT A) (weR A n).1) 8)) (c := nI (weR A n).2.2)
  have q0 : Eqx [4, 5] s2 (up s2 4 1 0) := Eqx.rf.up (by simp)
  have u0 := x_up (d := d + 1 + 1 + 1) (s := up s2 4 1 0) ha.1 o2' hk (by rw [ec, q0 _ (by decide)]; exact c2)
  have u1 := x_waiting (d := d + 1 + 1 + 1) (s := s3) ha.1 o2' hk (by rw [ec, q3 _ (by decide)]; exact c2)
  refine ⟨s5, ?_, XI_row i2 q5 (by decide) (by decide) w5 (by simp), (f1.tr (fX_q q2 (by decide))).tr (fX_q q5 (by decide))⟩
  rw [e1, e2, E184_31]
  simp only [lit] at r1 u0
  have r3 : ev (d + 1 + 1 + 1 + 1) 50 0 [.inr 4, .inl (nI (wkN (gT A) (gR A) (gS A) n).2.2)] [] s4 = _ := r3
  simp (disch := omega) only [x_clear, u0, r1, u1, r2, r3, lit, nI_add, pk_mul, n_sub, n_addneg, nle_t, nle_f, nlt_t, nlt_f, neq_t, neq_f, n_inb, n_ix, bnd_some, if_true, if_false, ite_tt, ite_ff, not_true_eq_false, not_false_eq_true, eq_self, false_or, or_false, true_or, or_true]
  rfl
end XC5
