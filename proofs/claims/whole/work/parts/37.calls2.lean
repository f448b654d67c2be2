/-! CALLS: lend, undo, keep, again -/
section XC2
variable {d B B' : Nat} {s s' s1 : mS} {T : aT} {S S' : aS} {A : aA} {P : List Nat} {w x l f t a : Int32}
theorem rfs_0 (hN : tN T ≤ 8) (h : ¬ (rfs T S f t l < nI 0)) : ∃ f' t' l' : Nat, f = nI f' ∧ t = nI t' ∧ l = nI l' ∧ f' < 8 ∧ t' < 8 ∧ l' < 10 ∧ f' ≠ t' ∧ 0 < sG S f' l' ∧ 0 < lck T S t' l' ∧ rfs T S f t l = nI 0 := by
  unfold rfs at h ⊢
  by_cases h1 : inN f (tN T) = false ∨ inN t (tN T) = false ∨ f = t ∨ inN l 10 = false
  · rw [if_pos h1] at h; exact absurd (by decide +kernel) h
  rw [if_neg h1] at h ⊢
  have hf : inN f (tN T) = true := by cases hh : inN f (tN T) with
    | true => rfl
    | false => exact absurd (Or.inl hh) h1
  have htt : inN t (tN T) = true := by cases hh : inN t (tN T) with
    | true => rfl
    | false => exact absurd (Or.inr (Or.inl hh)) h1
  have hl : inN l 10 = true := by cases hh : inN l 10 with
    | true => rfl
    | false => exact absurd (Or.inr (Or.inr (Or.inr hh))) h1
  obtain ⟨f', hf', rfl⟩ := inN_t (by omega) hf
  obtain ⟨t', ht', rfl⟩ := inN_t (by omega) htt
  obtain ⟨l', hl', rfl⟩ := inN_t (by omega) hl
  rw [n_ix (by omega), n_ix (by omega), n_ix (by omega)] at h ⊢
  by_cases h2 : sG S f' l' = 0
  · rw [if_pos h2] at h; exact absurd (by decide +kernel) h
  rw [if_neg h2] at h ⊢
  by_cases h3 : lck T S t' l' = 0
  · rw [if_pos h3] at h; exact absurd (by decide +kernel) h
  rw [if_neg h3] at h ⊢
  exact ⟨f', t', l', rfl, rfl, rfl, by omega, by omega, hl', fun z => h1 (Or.inr (Or.inr (Or.inl (congrArg nI z)))), by omega, by omega, rfl⟩
def o_lend (A : aA) (f t l : Int32) : aA × Int32 := if rfs (gT A) (gS A) f t l < nI 0 then (A, rfs (gT A) (gS A) f t l) else (goS A (lendW (gS A) (ix f) (ix t) (ix l)), nI (lck (gT A) (gS A) (ix t) (ix l) - 1))
theorem X_lend (h : XI A B s) : ∃ s', ev (d + 1 + 1 + 1) 183 0 [.inr 1, .inl f, .inl t, .inl l, .inr 0] [] s = some (0, (o_lend A f t l).2, s') ∧ XI (o_lend A f t l).1 B s' ∧ fX s s' := by
  have hT := h.2.2.1
  have hc := h.2.1
  have ha := h.1
  have hk : isK 36 := Or.inl rfl
  have er : mRf 36 1 = 37 := by decide +kernel
  have e0 := x_lending (d := d) (f := f) (t := t) (l := l) ha.1 hT ha.2.1 hk hc
  unfold o_lend
  by_cases h0 : rfs (gT A) (gS A) f t l < nI 0
  · rw [if_pos h0]
    refine ⟨s, ?_, h, fun _ _ => rfl⟩
    have h1 : ¬ nI 0 ≤ rfs (gT A) (gS A) f t l := Int32.not_le.mpr h0
    rw [E183_0, e0, bnd_some]
    simp only [lit]
    exact if_neg h1
  · rw [if_neg h0]
    obtain ⟨f', t', l', rfl, rfl, rfl, hf, htt, hl, hne, g1, g2, e3⟩ := rfs_0 ha.1.2.1 h0
    rw [n_ix (by omega), n_ix (by omega), n_ix (by omega)]
    obtain ⟨s1, e1, j1, c1, q1⟩ := x_pushA (d := d + 1) h
    obtain ⟨c', e2, i2, o2, -⟩ := x_lendL (d := d) ha.1 j1.1 ha.2.1 hk c1 hf htt hne hl g1 g2
    rw [er] at e2
    have q2 : Eqx [37] s1 (setA s1 37 c') := Eqx.rf.set (by simp)
    refine ⟨_, ?_, XI_go ha (Nat.le_refl _) (XJ_q j1 q2 (by decide)) (by rw [setA_at]; exact i2) (fun l _ => stk_lendW hf htt hne g1) o2, (fX_q q1 (by decide)).tr (fX_q q2 (by decide))⟩
    rw [E183_0, e0, e3]
    simp (disch := omega) only [e1, e2, lit, nI_add, pk_mul, n_sub, n_addneg, nle_t, nle_f, nlt_t, nlt_f, neq_t, neq_f, n_inb, n_ix, bnd_some, if_true, if_false, ite_tt, ite_ff, not_true_eq_false, not_false_eq_true, eq_self, false_or, or_false, true_or, or_true]
def o_undo (A : aA) : aA × Int32 := match gU A with
  | [] => (A, -nI 1)
  | U :: L => (wS (wU A L) U, nI L.length)
theorem X_undo (h : XI A B s) : ∃ s', ev (d + 1 + 1) 188 0 [.inr 1] [] s = some (0, (o_undo A).2, s') ∧ XI (o_undo A).1 B s' ∧ fX s s' := by
  obtain ⟨ha, hc, h1, h2, h3, h4, h5, h6, h7, h8⟩ := h
  unfold o_undo
  cases hU : gU A with
  | nil =>
    rw [hU] at h6
    refine ⟨s, ?_, ⟨ha, hc, h1, h2, h3, h4, h5, by rw [hU]; exact h6, h7, h8⟩, fun _ _ => rfl⟩
    rw [E188_0, x_pastPop0 h6]
    simp (disch := omega) only [E188_25, lit, nI_add, pk_mul, n_sub, n_addneg, nle_t, nle_f, nlt_t, nlt_f, neq_t, neq_f, n_inb, n_ix, bnd_some, if_true, if_false, ite_tt, ite_ff, not_true_eq_false, not_false_eq_true, eq_self, false_or, or_false, true_or, or_true]
  | cons U L =>
    rw [hU] at h6
    obtain ⟨a1, a2, a3, a4, a5, a6⟩ := ha
    rw [hU] at a3 a5
    have hU' := a3 U (List.mem_cons_self ..)
    have hl : L.length < 12 := by have : (U :: L).length = L.length + 1 := rfl; omega
    obtain ⟨s1, e1, u1, c1, q1, k1⟩ := x_pastPop (d := d) h6 hl
    have go : ∀ V, gd (gT A) (gS A) B V → gd (gT A) U B V := fun V hV => gd_go hV (Nat.le_refl _) hU'.2
    refine ⟨s1, ?_, ⟨⟨a1, hU'.1, fun V hV => go V (a3 V (List.mem_cons_of_mem _ hV)), fun i V hV => go V (a4 i V hV), Nat.le_of_lt hl, a6⟩, c1, XT_q h1 q1 (by decide), fun l hl => ?_, XX_q h3 q1 (by decide) (by decide), XW_q h4 q1 (by decide) (by decide), XRs_q h5 q1 (by decide), u1, ⟨k1.trans h7.1, by rw [q1 _ (by decide)]; exact h7.2⟩, XN_q h8 q1 (by decide)⟩, fX_q q1 (by decide)⟩
    · rw [E188_0, e1]
      simp (disch := omega) only [x_psize u1, E188_25, lit, nI_add, pk_mul, n_sub, n_addneg, nle_t, nle_f, nlt_t, nlt_f, neq_t, neq_f, n_inb, n_ix, bnd_some, if_true, if_false, ite_tt, ite_ff, not_true_eq_false, not_false_eq_true, eq_self, false_or, or_false, true_or, or_true]
    · show s1 7 l = nI (stk U l)
      rw [hU'.2 l hl, q1 _ (by decide)]
      exact h2 l hl
def o_keep (A : aA) (a : Int32) : aA × Int32 := if inN a 2 = false then (A, nI 0) else (wK A (kpU (gK A) (ix a) (gS A)), nI 1)
theorem X_keep (h : XI A B s) : ∃ s', ev (d + 1 + 1) 214 0 [.inr 1, .inl a] [] s = some (0, (o_keep A a).2, s') ∧ XI (o_keep A a).1 B s' ∧ fX s s' := by
  have hh := h
  obtain ⟨ha, hc, h1, h2, h3, h4, h5, h6, h7, h8⟩ := h
  unfold o_keep
  by_cases hi : inN a 2 = false
  · rw [if_pos hi]
    refine ⟨s, ?_, hh, fun _ _ => rfl⟩
    rw [E214_0, x_store0 hi]
    simp (disch := omega) only [lit, nI_add, pk_mul, n_sub, n_addneg, nle_t, nle_f, nlt_t, nlt_f, neq_t, neq_f, n_inb, n_ix, bnd_some, if_true, if_false, ite_tt, ite_ff, not_true_eq_false, not_false_eq_true, eq_self, false_or, or_false, true_or, or_true]
  · have hi' : inN a 2 = true := by simpa using hi
    rw [if_neg hi]
    obtain ⟨i, hi2, rfl⟩ := inN_t (by omega) hi'
    rw [n_ix (by omega)]
    obtain ⟨s1, e1, k1, q1, p1, p2⟩ := x_store (d := d) h7 hi2 hc
    obtain ⟨nx, n1, n2, n3, n4⟩ := h6
    obtain ⟨a1, a2, a3, a4, a5⟩ := ha
    refine ⟨s1, ?_, ⟨⟨a1, a2, a3, fun j U hU => ?_, a5⟩, by rw [q1 _ (by decide)]; exact hc, XT_q h1 q1 (by decide), XSt_q h2 q1 (by decide), XX_q h3 q1 (by decide) (by decide), XW_q h4 q1 (by decide) (by decide), XRs_q h5 q1 (by decide), ⟨nx, n1, p1.trans n2, p2.trans n3, by rw [q1 _ (by decide)]; exact n4⟩, k1, XN_q h8 q1 (by decide)⟩, fX_q q1 (by decide)⟩
    · rw [E214_0, e1]
      simp (disch := omega) only [lit, nI_add, pk_mul, n_sub, n_addneg, nle_t, nle_f, nlt_t, nlt_f, neq_t, neq_f, n_inb, n_ix, bnd_some, if_true, if_false, ite_tt, ite_ff, not_true_eq_false, not_false_eq_true, eq_self, false_or, or_false, true_or, or_true]
    · have hU : (if j = i then some (gS A) else gK A j) = some U := hU
      by_cases hj : j = i
      · rw [if_pos hj] at hU; cases hU; exact gd_self a2
      · rw [if_neg hj] at hU; exact a4 j U hU
def o_again (A : aA) (a : Int32) : aA × Int32 := if inN a 2 = false then (A, nI 0) else match gK A (ix a) with
  | none => (A, nI 0)
  | some U => (wS (wU A []) U, nI 1)
theorem X_again (h : XI A B s) : ∃ s', ev (d + 1 + 1) 215 0 [.inr 1, .inl a] [] s = some (0, (o_again A a).2, s') ∧ XI (o_again A a).1 B s' ∧ fX s s' := by
  have hh := h
  obtain ⟨ha, hc, h1, h2, h3, h4, h5, h6, h7, h8⟩ := h
  unfold o_again
  by_cases hi : inN a 2 = false
  · rw [if_pos hi]
    refine ⟨s, ?_, hh, fun _ _ => rfl⟩
    rw [E215_0, x_restore0 hi]
    simp (disch := omega) only [lit, nI_add, pk_mul, n_sub, n_addneg, nle_t, nle_f, nlt_t, nlt_f, neq_t, neq_f, n_inb, n_ix, bnd_some, if_true, if_false, ite_tt, ite_ff, not_true_eq_false, not_false_eq_true, eq_self, false_or, or_false, true_or, or_true]
  · have hi' : inN a 2 = true := by simpa using hi
    rw [if_neg hi]
    obtain ⟨i, hi2, rfl⟩ := inN_t (by omega) hi'
    rw [n_ix (by omega)]
    cases hK : gK A i with
    | none =>
      refine ⟨s, ?_, hh, fun _ _ => rfl⟩
      rw [E215_0, x_restore1 h7 hi2 hK]
      simp (disch := omega) only [lit, nI_add, pk_mul, n_sub, n_addneg, nle_t, nle_f, nlt_t, nlt_f, neq_t, neq_f, n_inb, n_ix, bnd_some, if_true, if_false, ite_tt, ite_ff, not_true_eq_false, not_false_eq_true, eq_self, false_or, or_false, true_or, or_true]
    | some U =>
      obtain ⟨s1, e1, c1, q1, p1, p2, p4⟩ := x_restore (d := d) h7 hi2 hK
      obtain ⟨nx, n1, n2, n3, n4⟩ := h6
      obtain ⟨a1, a2, a3, a4, a5, a6⟩ := ha
      have hU' := a4 i U hK
      have go : ∀ V, gd (gT A) (gS A) B V → gd (gT A) U B V := fun V hV => gd_go hV (Nat.le_refl _) hU'.2
      refine ⟨s1, ?_, ⟨⟨a1, hU'.1, fun V hV => absurd hV (by intro z; cases z), fun j V hV => go V (a4 j V hV), Nat.zero_le _, a6⟩, c1, XT_q h1 q1 (by decide), fun l hl => ?_, XX_q h3 q1 (by decide) (by decide), XW_q h4 q1 (by decide) (by decide), XRs_q h5 q1 (by decide), ⟨nx, n1, p1.trans n2, p2, fun j V hV => absurd hV (by intro z; cases z)⟩, ⟨p4.trans h7.1, by rw [q1 _ (by decide)]; exact h7.2⟩, XN_q h8 q1 (by decide)⟩, fX_q q1 (by decide)⟩
      · rw [E215_0, e1]
        simp (disch := omega) only [lit, nI_add, pk_mul, n_sub, n_addneg, nle_t, nle_f, nlt_t, nlt_f, neq_t, neq_f, n_inb, n_ix, bnd_some, if_true, if_false, ite_tt, ite_ff, not_true_eq_false, not_false_eq_true, eq_self, false_or, or_false, true_or, or_true]
      · show s1 7 l = nI (stk U l)
        rw [hU'.2 l hl, q1 _ (by decide)]
        exact h2 l hl
end XC2
