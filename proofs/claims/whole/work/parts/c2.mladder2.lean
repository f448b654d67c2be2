/-! THE MODEL: ladder, the whole -/
section MUC
variable {d B B' l w v x y n j a b c k i m o len : Nat} {s s' s1 s2 : mS} {T : aT} {S : aS} {A : aA} {p q : Int32} {W : List Int32} {P : Nat → Bool}
/-- the row back -/
theorem m_ladR (ht : tOk T) (hT : MT T s) (hy : y < tW T) (hx : x < tW T) (hF : XFa T y (tW T) s) : ∀ k z (r : mS) W, z < tW T → (lyr T y (k + 1)).1.testBit z = true → Eqm [80] [17] s r → MW W r → W.length + k ≤ 16 → ∃ r', ev (d + 1) 316 183 [.inr 67, .inl (nI x), .inr 0, .inl (nI z), .inl (nI k), .inr 0] [] r = some (0, s 92 x, r') ∧ MW (W ++ laR T y z k) r' ∧ Eqm [80] [17] s r' := by
  have hW := ht.1
  intro k
  induction k with
  | zero =>
    intro z r W hz hL hq hw hl
    refine ⟨r, ?_, by rw [show laR T y z 0 = [] from rfl, List.append_nil]; exact hw, hq⟩
    rw [E316_183, hq.1 _ (by decide) (by decide)]
    simp (disch := omega) only [lit, nI_add, pk_mul, n_sub, n_addneg, nle_t, nle_f, nlt_t, nlt_f, neq_t, neq_f, n_inb, n_ix, bnd_some, if_true, if_false, ite_tt, ite_ff, not_true_eq_false, not_false_eq_true, eq_self, false_or, or_false, true_or, or_true]
  | succ k ih =>
    intro z r W hz hL hq hw hl
    -- one of the layer before is beside
    rw [L_s, Bool.and_eq_true] at hL
    obtain ⟨u, u1, u2, u3⟩ := besA_bit.mp hL.1
    obtain ⟨u4, u5, u6⟩ := bes_iff.mp u3
    have hk1 := L_lt ht hy u2
    have hu : (bes T z &&& (lyr T y (k + 1)).1).testBit u = true := by
      rw [Nat.testBit_and, u2, bes_iff.mpr ⟨hz, u4, by rw [isSt_comm]; exact u6⟩]
      rfl
    obtain ⟨h1, h2⟩ := leB_ok u1 hu
    unfold laR
    generalize leB (bes T z &&& (lyr T y (k + 1)).1) = N at h1 h2 ⊢
    rw [Nat.testBit_and, Bool.and_eq_true] at h1
    have hN := L_W hy h1.2
    have hsN := (bes_iff.mp h1.1).2.2
    have hTr := MT_q hT hq (by decide) (by decide)
    have far : ∀ o, o < tW T → r 92 o = nI (fv T y (tW T) o) := fun o ho => by rw [hq.1 _ (by decide) (by decide)]; exact hF o ho
    have fle : ∀ o, fv T y (tW T) o ≤ 1000000 := fun o => fv_le (by omega)
    have fN := (fv_iff (T := T) (y := y) (n := tW T) (o := N) (k := k + 1) (by omega) (by omega)).mpr h1.2
    have pass : ∀ n, n ≤ N → ev (d + 1) 316 191 [.inr 67, .inl (nI x), .inr 0, .inl (nI z), .inl (nI (k + 1)), .inl (nI 0)] [] r = ev (d + 1) 316 191 [.inr 67, .inl (nI x), .inr 0, .inl (nI z), .inl (nI (k + 1)), .inl (nI n)] [] r := by
      intro n
      induction n with
      | zero => intro _; rfl
      | succ n ihn =>
        intro hn
        have e213 : ev (d + 1) 316 213 [.inr 67, .inl (nI x), .inr 0, .inl (nI z), .inl (nI (k + 1)), .inl (nI n)] [] r = ev (d + 1) 316 191 [.inr 67, .inl (nI x), .inr 0, .inl (nI z), .inl (nI (k + 1)), .inl (nI (n + 1))] [] r := by
          rw [E316_213]
          simp (disch := omega) only [lit, nI_add, pk_mul, n_sub, n_addneg, nle_t, nle_f, nlt_t, nlt_f, neq_t, neq_f, n_inb, n_ix, bnd_some, if_true, if_false, ite_tt, ite_ff, not_true_eq_false, not_false_eq_true, eq_self, false_or, or_false, true_or, or_true]
        have fn := far n (by omega)
        have fl := fle n
        have es := m_steps (d := d) (x := z) (y := n) ht hTr hz (by omega)
        have hno := h2 n (by omega)
        rw [Nat.testBit_and, bes_bit, decide_eq_true hz, decide_eq_true (show n < tW T by omega), Bool.true_and, Bool.true_and] at hno
        rw [ihn (by omega), E316_191]
        by_cases hf : fv T y (tW T) n = k + 1
        · have hLn := (fv_iff (T := T) (y := y) (n := tW T) (o := n) (k := k + 1) (by omega) (by omega)).mp hf
          rw [hLn, Bool.and_true] at hno
          rw [hno] at es
          simp (disch := omega) only [fn, hf, es, bIf0, lit, nI_add, pk_mul, n_sub, n_addneg, nle_t, nle_f, nlt_t, nlt_f, neq_t, neq_f, n_inb, n_ix, bnd_some, if_true, if_false, ite_tt, ite_ff, not_true_eq_false, not_false_eq_true, eq_self, false_or, or_false, true_or, or_true]
          exact e213
        · simp (disch := omega) only [fn, lit, nI_add, pk_mul, n_sub, n_addneg, nle_t, nle_f, nlt_t, nlt_f, neq_t, neq_f, n_inb, n_ix, bnd_some, if_true, if_false, ite_tt, ite_ff, not_true_eq_false, not_false_eq_true, eq_self, false_or, or_false, true_or, or_true]
          exact e213
    have fn := far N hN
    rw [fN] at fn
    have es := m_steps (d := d) (x := z) (y := N) ht hTr hz hN
    rw [hsN] at es
    obtain ⟨r2, f2, w2, c2⟩ := m_tell (d := d) (p := nI N) hw (by omega)
    obtain ⟨r3, f3, w3, c3⟩ := ih N r2 (W ++ [nI N]) hN h1.2 (hq.tr c2) w2 (by rw [List.length_append]; show W.length + 1 + k ≤ 16; omega)
    rw [List.append_assoc] at w3
    refine ⟨r3, ?_, w3, c3⟩
    rw [← f3, E316_183]
    simp (disch := omega) only [lit, nI_add, pk_mul, n_sub, n_addneg, nle_t, nle_f, nlt_t, nlt_f, neq_t, neq_f, n_inb, n_ix, bnd_some, if_true, if_false, ite_tt, ite_ff, not_true_eq_false, not_false_eq_true, eq_self, false_or, or_false, true_or, or_true]
    rw [pass N (Nat.le_refl _), E316_191]
    simp (disch := omega) only [fn, es, bIt0, f2, Nat.add_sub_cancel, lit, nI_add, pk_mul, n_sub, n_addneg, nle_t, nle_f, nlt_t, nlt_f, neq_t, neq_f, n_inb, n_ix, bnd_some, if_true, if_false, ite_tt, ite_ff, not_true_eq_false, not_false_eq_true, eq_self, false_or, or_false, true_or, or_true]
theorem Y_ladder (ha : AOk A B) (h : MJ A B' s) : ∃ s', ev (d + 1 + 1) 316 0 [.inr 67, .inl p, .inl q, .inr 0, .inr 0, .inr 0] [] s = some (0, (o_ladder A p q).2, s') ∧ MJ (o_ladder A p q).1 B' s' ∧ gM s s' := by
  obtain ⟨h0, g0⟩ := m_th h
  obtain ⟨s0, hs0⟩ : ∃ s0, s0 = up s 67 18 (nI 0) := ⟨_, rfl⟩
  rw [← hs0] at h0 g0
  have ht := ha.1
  have hT := h0.1
  have hW := ht.1
  have w1 := m_isWord (d := d) (p := p) hT hW
  have w2 := m_isWord (d := d) (p := q) hT hW
  have e21 : ev (d + 1 + 1) 316 21 [.inr 0, .inr 0, .inr 0, .inr 0, .inr 0, .inr 0] [] s0 = some (0, -nI 1, s0) := E316_21
  unfold o_ladder
  by_cases hp : inN p (tW (gT A)) = false
  · rw [if_pos (Or.inl hp)]
    rw [hp] at w1
    refine ⟨s0, ?_, h0, g0⟩
    rw [E316_0, show up s 67 18 0 = s0 from hs0.symm, w1]
    simp (disch := omega) only [bIf0, lit, nI_add, pk_mul, n_sub, n_addneg, nle_t, nle_f, nlt_t, nlt_f, neq_t, neq_f, n_inb, n_ix, bnd_some, if_true, if_false, ite_tt, ite_ff, not_true_eq_false, not_false_eq_true, eq_self, false_or, or_false, true_or, or_true]
    exact e21
  by_cases hq : inN q (tW (gT A)) = false
  · have hp' : inN p (tW (gT A)) = true := by simpa using hp
    rw [if_pos (Or.inr hq)]
    rw [hp'] at w1
    rw [hq] at w2
    refine ⟨s0, ?_, h0, g0⟩
    rw [E316_0, show up s 67 18 0 = s0 from hs0.symm, w1]
    simp (disch := omega) only [bIt0, w2, bIf0, lit, nI_add, pk_mul, n_sub, n_addneg, nle_t, nle_f, nlt_t, nlt_f, neq_t, neq_f, n_inb, n_ix, bnd_some, if_true, if_false, ite_tt, ite_ff, not_true_eq_false, not_false_eq_true, eq_self, false_or, or_false, true_or, or_true]
    exact e21
  have hp' : inN p (tW (gT A)) = true := by simpa using hp
  have hq' : inN q (tW (gT A)) = true := by simpa using hq
  rw [if_neg (fun z => z.elim hp hq)]
  rw [hp'] at w1
  rw [hq'] at w2
  obtain ⟨x, hx, rfl⟩ := inN_t (by omega) hp'
  obtain ⟨y, hy, rfl⟩ := inN_t (by omega) hq'
  rw [n_ix (by omega), n_ix (by omega)]
  -- the first layer
  have key : ∀ n, n ≤ tW (gT A) → ∃ s1, ev (d + 1 + 1) 316 25 [.inr 67, .inl (nI x), .inl (nI y), .inl (nI 0), .inr 0, .inr 0] [] s0 = ev (d + 1 + 1) 316 25 [.inr 67, .inl (nI x), .inl (nI y), .inl (nI n), .inr 0, .inr 0] [] s1 ∧ (∀ o, o < n → s1 92 o = nI (fv (gT A) y 0 o)) ∧ Eqm [92] [] s0 s1 := by
    intro n
    induction n with
    | zero => intro _; exact ⟨s0, rfl, fun o ho => by omega, Eqm.rf⟩
    | succ n ih =>
      intro hn
      obtain ⟨s1, e1, i1, q1⟩ := ih (by omega)
      have e1w := (MT_q hT q1 (by decide) (by decide)).1
      refine ⟨up s1 92 n (nI (fv (gT A) y 0 n)), ?_, fun o ho => ?_, q1.pu (by simp) (by decide)⟩
      · by_cases hz : n = y
        · have hf : fv (gT A) y 0 n = 0 := fv_some (k := 0) (by
            show (2 ^ y).testBit n = true
            rw [Nat.testBit_two_pow, decide_eq_true hz.symm]) (Nat.le_refl _)
          rw [e1, E316_25, e1w, hf]
          simp (disch := omega) only [E316_50, lit, nI_add, pk_mul, n_sub, n_addneg, nle_t, nle_f, nlt_t, nlt_f, neq_t, neq_f, n_inb, n_ix, bnd_some, if_true, if_false, ite_tt, ite_ff, not_true_eq_false, not_false_eq_true, eq_self, false_or, or_false, true_or, or_true]
        · have hf : fv (gT A) y 0 n = 1000000 := fv_none (fun k hk => by
            have : k = 0 := by omega
            subst this
            show (2 ^ y).testBit n = false
            rw [Nat.testBit_two_pow, decide_eq_false (fun u => hz u.symm)])
          rw [e1, E316_25, e1w, hf]
          simp (disch := omega) only [E316_50, lit, nI_add, pk_mul, n_sub, n_addneg, nle_t, nle_f, nlt_t, nlt_f, neq_t, neq_f, n_inb, n_ix, bnd_some, if_true, if_false, ite_tt, ite_ff, not_true_eq_false, not_false_eq_true, eq_self, false_or, or_false, true_or, or_true]
      · by_cases hz : o = n
        · subst hz; rw [up_in]
        · rw [up_out hz]; exact i1 o (by omega)
  obtain ⟨s1, e1, i1, q1⟩ := key (tW (gT A)) (Nat.le_refl _)
  have rounds : ∀ n, n ≤ tW (gT A) → ∃ s2, ev (d + 1 + 1) 316 59 [.inr 67, .inl (nI x), .inr 0, .inl (nI 0), .inr 0, .inr 0] [] s1 = ev (d + 1 + 1) 316 59 [.inr 67, .inl (nI x), .inr 0, .inl (nI n), .inr 0, .inr 0] [] s2 ∧ XFa (gT A) y n s2 ∧ Eqm [92] [] s0 s2 := by
    intro n
    induction n with
    | zero => intro _; exact ⟨s1, rfl, i1, q1⟩
    | succ n ih =>
      intro hn
      obtain ⟨s2, e2, i2, q2⟩ := ih (by omega)
      have hT2 := MT_q hT q2 (by decide) (by decide)
      have e2w := hT2.1
      obtain ⟨s3, e3, i3, q3⟩ := m_round (d := d + 1) (z := nI x) ht hT2 hy (show n < tW (gT A) by omega) i2
      refine ⟨s3, ?_, i3, q2.tr q3⟩
      rw [e2, E316_59, e2w]
      simp (disch := omega) only [lit, nI_add, pk_mul, n_sub, n_addneg, nle_t, nle_f, nlt_t, nlt_f, neq_t, neq_f, n_inb, n_ix, bnd_some, if_true, if_false, ite_tt, ite_ff, not_true_eq_false, not_false_eq_true, eq_self, false_or, or_false, true_or, or_true]
      exact e3
  obtain ⟨s2, e2, i2, q2⟩ := rounds (tW (gT A)) (Nat.le_refl _)
  have hT2 := MT_q hT q2 (by decide) (by decide)
  have e2w := hT2.1
  have e1w := (MT_q hT q1 (by decide) (by decide)).1
  have st : ev (d + 1 + 1) 316 0 [.inr 67, .inl (nI x), .inl (nI y), .inr 0, .inr 0, .inr 0] [] s = ev (d + 1 + 1) 316 59 [.inr 67, .inl (nI x), .inr 0, .inl (nI (tW (gT A))), .inr 0, .inr 0] [] s2 := by
    rw [E316_0, show up s 67 18 0 = s0 from hs0.symm, w1]
    simp (disch := omega) only [bIt0, w2, lit, nI_add, pk_mul, n_sub, n_addneg, nle_t, nle_f, nlt_t, nlt_f, neq_t, neq_f, n_inb, n_ix, bnd_some, if_true, if_false, ite_tt, ite_ff, not_true_eq_false, not_false_eq_true, eq_self, false_or, or_false, true_or, or_true]
    rw [e1, E316_25, e1w]
    simp (disch := omega) only [lit, nI_add, pk_mul, n_sub, n_addneg, nle_t, nle_f, nlt_t, nlt_f, neq_t, neq_f, n_inb, n_ix, bnd_some, if_true, if_false, ite_tt, ite_ff, not_true_eq_false, not_false_eq_true, eq_self, false_or, or_false, true_or, or_true]
    exact e2
  rw [st]
  have fx := i2 x hx
  cases hf : fnd (fun k => (lyr (gT A) y k).1.testBit x) 12 with
  | none =>
    have no := fnd_no hf
    have hfar : fv (gT A) y (tW (gT A)) x = 1000000 := fv_none (fun k hk => by
      cases hb : (lyr (gT A) y k).1.testBit x with
      | false => rfl
      | true =>
        have hlt := L_lt ht hy hb
        have := no k (by omega)
        rw [hb] at this; cases this)
    rw [hfar] at fx
    dsimp only
    have q3 : MJ A B' s2 := MJ_q h0 q2 (by decide) (by decide)
    refine ⟨s2, ?_, q3, g0.tr (q2.g (by decide))⟩
    rw [E316_59, e2w]
    simp (disch := omega) only [fx, lit, nI_add, pk_mul, n_sub, n_addneg, nle_t, nle_f, nlt_t, nlt_f, neq_t, neq_f, n_inb, n_ix, bnd_some, if_true, if_false, ite_tt, ite_ff, not_true_eq_false, not_false_eq_true, eq_self, false_or, or_false, true_or, or_true]
  | some k =>
    obtain ⟨k1, k2, k3⟩ := fnd_ok hf
    have hlt := L_lt ht hy k2
    have hfar := fv_some k2 (show k ≤ tW (gT A) by omega)
    rw [hfar] at fx
    dsimp only
    obtain ⟨s3, hs3⟩ : ∃ s3, s3 = up s2 67 17 (nI 0) := ⟨_, rfl⟩
    have q3 : Eqm [] [17] s2 s3 := by rw [hs3]; exact Eqm.rf.pf (by simp)
    have fx3 : s3 92 x = nI k := by rw [q3.1 _ (by decide) (by decide)]; exact fx
    have hT3 := MT_q hT2 q3 (by decide) (by decide)
    have i3 : XFa (gT A) y (tW (gT A)) s3 := fun o ho => by rw [q3.1 _ (by decide) (by decide)]; exact i2 o ho
    have w3 : MW [] s3 := by rw [hs3]; exact MW_nil
    have to : ev (d + 1 + 1) 316 59 [.inr 67, .inl (nI x), .inr 0, .inl (nI (tW (gT A))), .inr 0, .inr 0] [] s2 = ev (d + 1 + 1) 316 183 [.inr 67, .inl (nI x), .inr 0, .inl (nI x), .inl (nI k - nI 1), .inr 0] [] s3 := by
      rw [E316_59, e2w]
      simp (disch := omega) only [fx, lit, nI_add, pk_mul, n_sub, n_addneg, nle_t, nle_f, nlt_t, nlt_f, neq_t, neq_f, n_inb, n_ix, bnd_some, if_true, if_false, ite_tt, ite_ff, not_true_eq_false, not_false_eq_true, eq_self, false_or, or_false, true_or, or_true]
      rw [← hs3, fx3]
    cases k with
    | zero =>
      have q4 : Eqm [92, 80] [17] s0 s3 := (q2.mono (by simp) (by simp)).tr (q3.mono (by simp) (by simp))
      refine ⟨s3, ?_, MJ_row h0 q4 (by decide) (by decide) w3, g0.tr (q4.g (by decide))⟩
      have hneg : nI 0 - nI 1 ≤ nI 0 := by decide +kernel
      rw [to, E316_183]
      simp (disch := omega) only [hneg, fx3, lit, nI_add, pk_mul, n_sub, n_addneg, nle_t, nle_f, nlt_t, nlt_f, neq_t, neq_f, n_inb, n_ix, bnd_some, if_true, if_false, ite_tt, ite_ff, not_true_eq_false, not_false_eq_true, eq_self, false_or, or_false, true_or, or_true]
    | succ k =>
      obtain ⟨s4, e4, w4, q4⟩ := m_ladR (d := d + 1) ht hT3 hy hx i3 k x s3 [] hx k2 Eqm.rf w3 (by simp; omega)
      rw [List.nil_append] at w4
      have q5 : Eqm [92, 80] [17] s0 s4 := ((q2.mono (by simp) (by simp)).tr (q3.mono (by simp) (by simp))).tr (q4.mono (by simp) (by simp))
      refine ⟨s4, ?_, MJ_row h0 q5 (by decide) (by decide) w4, g0.tr (q5.g (by decide))⟩
      rw [to, n_sub (by omega), Nat.add_sub_cancel, e4, fx3]
end MUC
