/-! CALLS: best, the whole -/
section XBF
variable {d B l w v x y n j D : Nat} {s s' s1 : mS} {T : aT} {S : aS} {A : aA}
theorem x_dearW (ht : tOk T) (hT : XT T s) (ho : sOk T S B) (hst : XSt S s) (hc : XC T S (s 37)) : ∃ s', ev (D + 2 * tN T + 1 + 1 + 1 + 1) 37 0 [.inr 53, .inr 36, .inr 0, .inr 0] [] s = some (0, mI (bsD T S (tN T) 0 (stk S) 0 (fun _ => 0) (none, fun _ => 0)).1, s') ∧ (∀ k, k < tN T → s' 56 k = (bsD T S (tN T) 0 (stk S) 0 (fun _ => 0) (none, fun _ => 0)).2 k) ∧ Eqx (57 :: rQ) s s' := by
  have hN := ht.2.1
  have hk : isK 36 := Or.inl rfl
  -- the pool
  have k1 : ∀ n, n ≤ 10 → ∃ s', ev (D + 2 * tN T + 1 + 1 + 1 + 1) 37 7 [.inr 53, .inr 36, .inr 6, .inl (nI 0)] [] s = ev (D + 2 * tN T + 1 + 1 + 1 + 1) 37 7 [.inr 53, .inr 36, .inr 6, .inl (nI n)] [] s' ∧ (∀ l, l < n → s' 54 l = nI (stk S l)) ∧ Eqx [54] s s' := by
    intro n
    induction n with
    | zero => intro _; exact ⟨s, rfl, fun l hl => by omega, Eqx.rf⟩
    | succ n ih =>
      intro hn
      obtain ⟨s1, e1, i1, q1⟩ := ih (by omega)
      refine ⟨up s1 54 n (nI (stk S n)), ?_, fun l hl => ?_, q1.up (by simp)⟩
      · rw [e1, E37_7]
        simp (disch := omega) only [lit, nle_f, if_false, x_tstock (XSt_q hst q1 (by decide)) (show n < 10 by omega), bnd_some, n_inb, if_true, n_ix, nI_add]
      · by_cases hz : l = n
        · subst hz; exact up_in
        · rw [up_out hz]; exact i1 l (by omega)
  obtain ⟨s1, e1, i1, q1⟩ := k1 10 (Nat.le_refl _)
  have q1r : Eqx (57 :: rQ) s s1 := q1.mono (by decide)
  obtain ⟨s2, hs2⟩ : ∃ s2, s2 = up s1 57 (tN T) (nI 0) := ⟨_, rfl⟩
  have q2 : Eqx (57 :: rQ) s s2 := by rw [hs2]; exact q1r.up (by decide)
  -- the worth from each wall on
  have k2 : ∀ n, n ≤ tN T → ∀ (s3 : mS), Eqx (57 :: rQ) s s3 → XPo (stk S) s3 → (∀ v, n ≤ v → v ≤ tN T → s3 57 v = nI (wfT T S v)) → ∃ s4, ev (D + 2 * tN T + 1 + 1 + 1 + 1) 37 47 [.inr 53, .inr 36, .inr 6, .inl (nI n + -nI 1)] [] s3 = ev (D + 2 * tN T + 1 + 1 + 1 + 1) 37 47 [.inr 53, .inr 36, .inr 6, .inl (nI 0 + -nI 1)] [] s4 ∧ XPo (stk S) s4 ∧ (∀ v, v ≤ tN T → s4 57 v = nI (wfT T S v)) ∧ Eqx (57 :: rQ) s s4 := by
    intro n
    induction n with
    | zero => intro _ s3 q3 p3 h3; exact ⟨s3, rfl, p3, fun v hv => h3 v (Nat.zero_le _) hv, q3⟩
    | succ n ih =>
      intro hn s3 q3 p3 h3
      have hT3 := XT_q hT q3 (by decide)
      have hc3 : XC T S (s3 (mRf 36 1)) := by rw [show mRf 36 1 = 37 by decide +kernel, q3 _ (by decide)]; exact hc
      have eh := x_hasWord (d := D + 2 * tN T + 1 + 1 + 1) ht (ho.1 n) hk hc3 (show n < 8 by omega)
      have e57 := h3 (n + 1) (Nat.le_refl _) hn
      have ewo := x_worth (d := D + 2 * tN T + 1 + 1 + 1) ht hT3 (show n < tN T by omega)
      have wv := wfT_s (S := S) (show n < tN T by omega)
      obtain ⟨s4, e4, p4, h4, q4⟩ := ih (by omega) (up s3 57 n (nI (wfT T S n))) (q3.up (by decide)) (fun l hl => by rw [up_ne (by decide)]; exact p3 l hl) (fun v h1 h2 => by
        by_cases hz : v = n
        · subst hz; exact up_in
        · rw [up_out hz]; exact h3 v (by omega) h2)
      refine ⟨s4, ?_, p4, h4, q4⟩
      rw [← e4, E37_47, n_addneg (by omega), Nat.add_sub_cancel]
      cases hb : isW S n with
      | true =>
        rw [hb] at eh wv
        rw [if_pos rfl] at wv
        simp (disch := omega) only [lit, nlt_f, if_false, nI_add, n_inb, if_true, eh, bnd_some, bIt0, n_ix, e57, ewo]
        rw [E37_81]
        simp (disch := omega) only [lit, n_inb, if_true, n_ix, nI_add]
        rw [wv, Nat.add_comm (tWo T n)]
      | false =>
        rw [hb] at eh wv
        rw [if_neg (by simp), Nat.zero_add] at wv
        simp (disch := omega) only [lit, nlt_f, if_false, nI_add, n_inb, if_true, eh, bnd_some, bIf0, n_ix, e57]
        rw [E37_81]
        simp (disch := omega) only [lit, n_inb, if_true, n_ix, nI_add]
        rw [wv, Nat.add_zero (wfT T S (n + 1))]
  have p2 : XPo (stk S) s2 := fun l hl => by
    rw [hs2, up_ne (by decide)]
    exact ⟨i1 l hl, ho.2.1 l hl⟩
  obtain ⟨s3, e3, p3, h3, q3⟩ := k2 (tN T) (Nat.le_refl _) s2 q2 p2 (fun v h1 h2 => by
    have : v = tN T := by omega
    subst this
    rw [hs2, up_in, wfT_0])
  obtain ⟨s4, hs4⟩ : ∃ s4, s4 = up s3 53 4 (-nI 1) := ⟨_, rfl⟩
  have q4 : Eqx (57 :: rQ) s s4 := by rw [hs4]; exact q3.up (by decide)
  obtain ⟨s5, e5, p5, c5, x5, q5⟩ := x_decide (d := D) ht ho (tN T) 0 s4 (stk S) 0 (fun _ => 0) (none, fun _ => 0) (by omega) (XT_q hT q4 (by decide)) (by rw [q4 _ (by decide)]; exact hc) (fun v hv => by rw [hs4, up_ne (by decide)]; exact h3 v hv) (fun l hl => by rw [hs4, up_ne (by decide)]; exact p3 l hl) (Nat.le_refl _) (fun k hk => by omega) ⟨by rw [hs4, up_in]; rfl, fun h => (by cases h), fun m hm => (by cases hm)⟩
  refine ⟨s5, ?_, x5.2.1 bsD_some, q4.tr (q5.mono (by decide))⟩
  have hneg : (nI 0 + -nI 1 < nI 0) = True := eq_true (by decide +kernel)
  rw [E37_0]
  simp only [lit, x_place, bnd_some, if_true]
  rw [e1, E37_7]
  simp (disch := omega) only [lit, nle_t, if_true, x_walls (XT_q hT q1r (by decide)), bnd_some, n_inb, n_ix]
  rw [← hs2, x_walls (XT_q hT q2 (by decide)), bnd_some]
  rw [show nI (tN T) - nI 1 = nI (tN T) + -nI 1 from Int32.sub_eq_add_neg _ _, e3, E37_47]
  simp only [lit, hneg, if_true]
  rw [← hs4, e5, bnd_some, x5.1]
  rfl
theorem X_best (h : XI A B s) : ∃ s', ev (d + 16 + 1 + 1 + 1 + 1 + 1) 199 0 [.inr 1, .inr 0, .inr 0] [] s = some (0, (o_best A).2, s') ∧ XI (o_best A).1 B s' ∧ fX s s' := by
  have ha := h.1
  have hN := ha.1.2.1
  have e0 := x_isSmall (d := d + 16 + 1 + 1) ha.1 h.2.2.1 ha.2.1 h.2.1
  unfold o_best
  by_cases hb : 20000 < prW (gT A) (gS A) (tN (gT A))
  · rw [if_pos hb]
    rw [decide_eq_false (by omega)] at e0
    refine ⟨s, ?_, h, fun _ _ => rfl⟩
    rw [E199_0]
    simp only [lit, e0, bnd_some, bIf0, not_true_eq_false, if_false]
  · rw [if_neg hb]
    rw [decide_eq_true (by omega)] at e0
    obtain ⟨s1, e1, c1, q1⟩ := x_dearW (D := d + 2 * (8 - tN (gT A))) ha.1 h.2.2.1 ha.2.1 h.2.2.2.1 h.2.1
    have hlev : d + 16 = d + 2 * (8 - tN (gT A)) + 2 * tN (gT A) := by omega
    rw [← hlev] at e1
    have er : bsA A = bsD (gT A) (gS A) (tN (gT A)) 0 (stk (gS A)) 0 (fun _ => 0) (none, fun _ => 0) := rfl
    rw [← er] at e1 c1
    have i1 := XI_same h q1 (by decide) (by decide)
    have key : ∀ n, n ≤ tN (gT A) → ∃ s', ev (d + 16 + 1 + 1 + 1 + 1 + 1) 199 39 [.inr 1, .inl (mI (bsA A).1), .inl (nI 0)] [] (up s1 4 1 (nI 0)) = ev (d + 16 + 1 + 1 + 1 + 1 + 1) 199 39 [.inr 1, .inl (mI (bsA A).1), .inl (nI n)] [] s' ∧ XW (rowN (bsA A).2 n) s' ∧ Eqx [4, 5] s1 s' := by
      intro n
      induction n with
      | zero => intro _; exact ⟨_, rfl, XW_nil, Eqx.rf.up (by simp)⟩
      | succ n ih =>
        intro hn
        obtain ⟨s2, e2, w2, q2⟩ := ih (by omega)
        have ch : s2 56 n = (bsA A).2 n := by rw [q2 _ (by decide)]; exact c1 n (by omega)
        obtain ⟨s3, e3, w3, q3⟩ := x_add (d := d + 16 + 1 + 1 + 1 + 1) (a := (bsA A).2 n) w2 (by rw [rowN_len]; omega)
        refine ⟨s3, ?_, w3, q2.tr q3⟩
        rw [e2, E199_39, x_walls (XT_q i1.2.2.1 q2 (by decide))]
        simp (disch := omega) only [E38_0, lit, bnd_some, nle_f, if_false, n_inb, if_true, n_ix, ch, e3, nI_add]
    obtain ⟨s2, e2, w2, q2⟩ := key _ (Nat.le_refl _)
    refine ⟨s2, ?_, XI_row i1 q2 (by decide) (by decide) w2 (by rw [rowN_len]; omega), (fX_q q1 (by decide)).tr (fX_q q2 (by decide))⟩
    rw [E199_0]
    simp only [lit, e0, bnd_some, bIt0, not_false_eq_true, if_true, e1, x_clear]
    rw [e2, E199_39, x_walls (XT_q i1.2.2.1 q2 (by decide))]
    simp (disch := omega) only [bnd_some, nle_t, if_true]
end XBF
