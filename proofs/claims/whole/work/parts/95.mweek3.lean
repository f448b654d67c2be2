/-! THE MODEL: weeks, soon -/
def wkF : List Nat := [13, 19, 20, 21, 22, 23, 28]
def wkPp : List Nat := [68, 75, 76, 77, 78, 86]
section MSD
variable {d B B' w l x y n m c own : Nat} {s s' s1 s2 : mS} {T : aT} {S S' : aS} {A : aA} {φ : aR} {P F : List Nat} {p q r : Int32} {W : List Int32}
theorem m_tell3 {p q r : Int32} : ∃ s1 s2 s3, ev d 231 0 [.inr 67, .inl p] [] (up s 67 17 (nI 0)) = some (0, nI 0, s1) ∧ ev d 231 0 [.inr 67, .inl q] [] s1 = some (0, nI 0, s2) ∧ ev d 231 0 [.inr 67, .inl r] [] s2 = some (0, nI 0, s3) ∧ Eqm [80] [17] s s1 ∧ Eqm [80] [17] s s2 ∧ Eqm [80] [17] s s3 ∧ MW [p, q, r] s3 := by
  obtain ⟨s1, s2, e1, e2, q1, q2, w2⟩ := m_tell2 (d := d) (s := s) (p := p) (q := q)
  obtain ⟨s3, e3, w3, q3⟩ := m_tell (d := d) (p := r) w2 (by simp)
  exact ⟨s1, s2, s3, e1, e2, e3, q1, q2, q2.tr q3, w3⟩
theorem m_worthOf (hN : tN T ≤ 8) (hT : MT T s) (hx : x < 2147483648) : ev (d + 1) 281 0 [.inr 67, .inl (nI x), .inr 0, .inr 0] [] s = some (0, nI (sm (fun w => if x.testBit w = true then tWo T w else 0) (tN T)), s) := by
  have g := loopU (fun i a => ev (d + 1) 281 4 [.inr 67, .inl (nI x), .inl (nI a), .inl (nI i)] [] s) (fun w a => a + (if x.testBit w = true then tWo T w else 0)) (tN T) (fun w a hw => by
    have e1 := m_isIn (d := d) (x := x) (i := w) (s := s) hx (by omega)
    have t1 := (hT.2.2.2 w hw).1
    rw [E281_4, hT.2.1]
    cases hb : x.testBit w with
    | false =>
      rw [hb] at e1
      simp (disch := omega) only [e1, bIf0, E281_31, Bool.false_eq_true, lit, nI_add, pk_mul, n_sub, n_addneg, nle_t, nle_f, nlt_t, nlt_f, neq_t, neq_f, n_inb, n_ix, bnd_some, if_true, if_false, ite_tt, ite_ff, not_true_eq_false, not_false_eq_true, eq_self, false_or, or_false, true_or, or_true]
    | true =>
      rw [hb] at e1
      simp (disch := omega) only [e1, bIt0, t1, E281_31, lit, nI_add, pk_mul, n_sub, n_addneg, nle_t, nle_f, nlt_t, nlt_f, neq_t, neq_f, n_inb, n_ix, bnd_some, if_true, if_false, ite_tt, ite_ff, not_true_eq_false, not_false_eq_true, eq_self, false_or, or_false, true_or, or_true]) 0
  rw [E281_0]
  simp only [lit]
  refine g.trans ?_
  rw [E281_4, hT.2.1]
  simp (disch := omega) only [lit, nI_add, pk_mul, n_sub, n_addneg, nle_t, nle_f, nlt_t, nlt_f, neq_t, neq_f, n_inb, n_ix, bnd_some, if_true, if_false, ite_tt, ite_ff, not_true_eq_false, not_false_eq_true, eq_self, false_or, or_false, true_or, or_true]
  rfl
theorem m_wUp (ht : tOk T) (ho : sOk T S B) (hT : MT T s) : ev (d + 1) 281 0 [.inr 67, .inl (nI (bts (isU T S) 8)), .inr 0, .inr 0] [] s = some (0, nI (wUp T S), s) := by
  have hN := ht.2.1
  have lt8 := bts_lt8 (isU T S) (n := 8) (by omega)
  rw [m_worthOf hN hT (by omega)]
  have e : sm (fun w => if (bts (isU T S) 8).testBit w = true then tWo T w else 0) (tN T) = wUp T S := by
    unfold wUp
    rw [sm_more hN (fun i h1 _ => by rw [isU_out ho h1]; rfl)]
    exact sm_cong (fun w hw => by rw [bts_bit, decide_eq_true (by omega : w < 8), Bool.true_and])
  rw [e]
theorem sOk_wkN (ht : tOk T) (h : sOk T S B) : ∀ n, sOk T (wkN T φ S n).1 (B + n) := by
  intro n
  induction n with
  | zero => exact h
  | succ n ih => exact sOk_wkS ht ih
theorem sOk_wkI (ht : tOk T) (h : sOk T S B) : ∀ n, sOk T (wkI T φ S n) (B + n) := by
  intro n
  induction n with
  | zero => exact h
  | succ n ih => exact sOk_wkS ht ih
theorem m_weeksL (ht : tOk T) (ho : sOk T S B) (hB : B + 60 < 2147483000) (hT : MT T s) (h : MSt T S s) (hR : MRb φ s) (hm : m ≤ 60) : ∀ n, n ≤ m → ∃ s', ev (d + 44 * 5 + 2 + 1 + 1 + 1) 282 32 [.inr 67, .inl (nI m), .inl (nI 0), .inl (nI 0), .inl (nI 0)] [] s = ev (d + 44 * 5 + 2 + 1 + 1 + 1) 282 32 [.inr 67, .inl (nI m), .inl (nI (wkN T φ S n).2.1), .inl (nI (wkN T φ S n).2.2), .inl (nI n)] [] s' ∧ MSt T (wkN T φ S n).1 s' ∧ Eqm wkP wkF s s' := by
  intro n
  induction n with
  | zero => intro _; exact ⟨s, rfl, h, Eqm.rf⟩
  | succ n ih =>
    intro hn
    obtain ⟨s1, e1, m1, q1⟩ := ih (by omega)
    have hT1 := MT_q hT q1 (by decide) (by decide)
    have o1 := sOk_wkN (φ := φ) ht ho n
    obtain ⟨s2, e2, m2, q2⟩ := m_week (d := d) ht o1 (by omega) hT1 m1 (MRb_q hR q1 (by decide) (by decide))
    have hT2 := MT_q hT1 q2 (by decide) (by decide)
    have o2 := sOk_wkS (φ := φ) ht o1
    have e3 : ev (d + 44 * 5 + 2 + 1 + 1) 259 0 [.inr 67, .inr 0, .inr 0] [] s2 = some (0, nI (bts (isU T (wkS T φ (wkN T φ S n).1)) 8), s2) := m_ups (d := d + 44 * 5 + 1) ht o2 hT2 m2
    have e4 : ev (d + 44 * 5 + 2 + 1 + 1) 281 0 [.inr 67, .inl (nI (bts (isU T (wkS T φ (wkN T φ S n).1)) 8)), .inr 0, .inr 0] [] s2 = some (0, nI (wUp T (wkS T φ (wkN T φ S n).1)), s2) := m_wUp ht o2 hT2
    refine ⟨s2, ?_, m2, q1.tr q2⟩
    rw [e1, E282_32]
    simp (disch := omega) only [e2, e3, e4, lit, nI_add, pk_mul, n_sub, n_addneg, nle_t, nle_f, nlt_t, nlt_f, neq_t, neq_f, n_inb, n_ix, bnd_some, if_true, if_false, ite_tt, ite_ff, not_true_eq_false, not_false_eq_true, eq_self, false_or, or_false, true_or, or_true]
    rfl
theorem MJ_st (h : MJ A B s) (q : Eqm wkPp wkF s s') (hS : MSt (gT A) S' s') : MJ (wS A S') B s' := by
  obtain ⟨h1, h2, h3, h4, h5, h6, h7, h8⟩ := h
  exact ⟨MT_q h1 q (by decide) (by decide), hS, MX_q h3 q (by decide) (by decide), MW_q h4 q (by decide) (by decide), MRl_q h5 q (by decide) (by decide), MU_q h6 q (by decide) (by decide), MK_q h7 q (by decide) (by decide), MN_q h8 q (by decide) (by decide)⟩
theorem MJ_goW (h : MJ A B s) (e1 : MU (gT A) (pushU A) s1) (q1 : Eqm [84] [31] s s1) (q2 : Eqm wkP wkF s1 s2) (hS : MSt (gT A) S' s2) : MJ (goS A S') B s2 := by
  obtain ⟨h1, h2, h3, h4, h5, h6, h7, h8⟩ := h
  have q : Eqm (84 :: wkP) (31 :: wkF) s s2 := (q1.mono (by decide) (by decide)).tr (q2.mono (by decide) (by decide))
  exact ⟨MT_q h1 q (by decide) (by decide), hS, MX_q h3 q (by decide) (by decide), MW_q h4 q (by decide) (by decide), MRl_q h5 q (by decide) (by decide), MU_q e1 q2 (by decide) (by decide), MK_q h7 q (by decide) (by decide), MN_q h8 q (by decide) (by decide)⟩
theorem Y_weeks (ha : AOk A B) (hB : B + 60 < 2147483000) (h : MJ A B' s) : ∃ s', ev (d + 44 * 5 + 2 + 1 + 1 + 1) 282 0 [.inr 67, .inl p, .inr 0, .inr 0, .inr 0] [] s = some (0, (o_weeks A p).2, s') ∧ MJ (o_weeks A p).1 B' s' ∧ gM s s' := by
  obtain ⟨h0, g0⟩ := m_th h
  obtain ⟨s0, hs0⟩ : ∃ s0, s0 = up s 67 18 (nI 0) := ⟨_, rfl⟩
  rw [← hs0] at h0 g0
  have hN := ha.1.2.1
  have ei : ev (d + 44 * 5 + 2 + 1 + 1) 228 0 [.inl p, .inl 0, .inl 60] [] s0 = some (0, bI (inN p 61), s0) := m_inB (n := 60) (by omega)
  unfold o_weeks
  by_cases hi : inN p 61 = false
  · rw [if_pos hi]
    rw [hi] at ei
    refine ⟨s0, ?_, h0, g0⟩
    rw [E282_0, show up s 67 18 0 = s0 from hs0.symm, ei, bnd_some, if_neg (show ¬ ¬ bI false = 0 from not_not_intro rfl)]
    rfl
  have hi' : inN p 61 = true := by simpa using hi
  rw [if_neg hi]
  rw [hi'] at ei
  obtain ⟨n, hn, rfl⟩ := inN_t (by omega) hi'
  rw [n_ix (by omega)]
  have h1 : ∃ s2, ev (d + 44 * 5 + 2 + 1 + 1 + 1) 282 0 [.inr 67, .inl (nI n), .inr 0, .inr 0, .inr 0] [] s = ev (d + 44 * 5 + 2 + 1 + 1 + 1) 282 32 [.inr 67, .inl (nI n), .inl (nI (weR A n).2.1), .inl (nI (weR A n).2.2), .inl (nI n)] [] s2 ∧ MJ (if n = 0 then wS A (weR A n).1 else goS A (weR A n).1) B' s2 ∧ gM s0 s2 := by
    have st : ev (d + 44 * 5 + 2 + 1 + 1 + 1) 282 0 [.inr 67, .inl (nI n), .inr 0, .inr 0, .inr 0] [] s = (if nI n ≤ 0 then ev (d + 44 * 5 + 2 + 1 + 1 + 1) 282 25 [.inr 67, .inl (nI n), .inr 0, .inr 0, .inr 0] [] s0 else bnd (ev (d + 44 * 5 + 2 + 1 + 1) 269 0 [.inr 67, .inr 0] [] s0) (fun _ s2 => ev (d + 44 * 5 + 2 + 1 + 1 + 1) 282 25 [.inr 67, .inl (nI n), .inr 0, .inr 0, .inr 0] [] s2)) := by
      rw [E282_0, show up s 67 18 0 = s0 from hs0.symm, ei, bnd_some, if_pos (show ¬ bI true = 0 by decide +kernel)]
    by_cases hz : n = 0
    · subst hz
      rw [if_pos rfl]
      refine ⟨s0, ?_, h0, fun _ _ => rfl⟩
      rw [st, if_pos (show nI 0 ≤ 0 by decide +kernel), E282_25]
      rfl
    · rw [if_neg hz]
      obtain ⟨s1, e1, u1, q1⟩ := m_remember (d := d + 44 * 5 + 2 + 1) h0.2.1 h0.2.2.2.2.2.1 hN ha.2.2.2.2.1
      obtain ⟨s2, e2, m2, q2⟩ := m_weeksL (d := d) (m := n) ha.1 ha.2.1 hB (MT_q h0.1 q1 (by decide) (by decide)) (MSt_q h0.2.1 q1 (by decide) (by decide)) (Or.inl (MRl_q h0.2.2.2.2.1 q1 (by decide) (by decide))) (by omega) n (Nat.le_refl _)
      refine ⟨s2, ?_, MJ_goW h0 u1 q1 q2 m2, (q1.g (by decide)).tr (q2.g (by decide))⟩
      rw [st, if_neg (show ¬ nI n ≤ 0 from (nI_ge (by omega) (by omega) : ¬ nI n ≤ nI 0)), e1, bnd_some, E282_25]
      exact e2
  obtain ⟨s2, e2, j2, g2⟩ := h1
  have o2 : sOk (gT A) (weR A n).1 (B + n) := sOk_wkN ha.1 ha.2.1 n
  have t2 : MT (gT A) s2 := by
    have := j2.1
    by_cases hz : n = 0
    · rw [if_pos hz] at this; exact this
    · rw [if_neg hz] at this; exact this
  have m2 : MSt (gT A) (weR A n).1 s2 := by
    by_cases hz : n = 0
    · rw [if_pos hz] at j2; exact j2.2.1
    · rw [if_neg hz] at j2; exact j2.2.1
  obtain ⟨s3, s4, s5, r1, r2, r3, q3, q4, q5, w5⟩ := m_tell3 (d := d + 44 * 5 + 2 + 1 + 1) (s := s2) (p := nI (bts (isU (gT A) (weR A n).1) 8)) (q := nI (bts (isQ (gT A) (weR A n).1) 8)) (r := nI (weR A n).2.2)
  have q0 : Eqm [80] [17] s2 (up s2 67 17 (nI 0)) := Eqm.rf.pf (by simp)
  have u0 : ev (d + 44 * 5 + 2 + 1 + 1) 259 0 [.inr 67, .inr 0, .inr 0] [] (up s2 67 17 (nI 0)) = _ := m_ups (d := d + 44 * 5 + 1) ha.1 o2 (MT_q t2 q0 (by decide) (by decide)) (MSt_q m2 q0 (by decide) (by decide))
  have u1 : ev (d + 44 * 5 + 2 + 1 + 1) 260 0 [.inr 67, .inr 0, .inr 0] [] s3 = _ := m_waiters (d := d + 44 * 5 + 1) ha.1 o2 (MT_q t2 q3 (by decide) (by decide)) (MSt_q m2 q3 (by decide) (by decide))
  refine ⟨s5, ?_, MJ_row j2 q5 (by decide) (by decide) w5, g0.tr (g2.tr (q5.g (by decide)))⟩
  rw [e2, E282_32]
  simp (disch := omega) only [u0, r1, u1, r2, r3, lit, nI_add, pk_mul, n_sub, n_addneg, nle_t, nle_f, nlt_t, nlt_f, neq_t, neq_f, n_inb, n_ix, bnd_some, if_true, if_false, ite_tt, ite_ff, not_true_eq_false, not_false_eq_true, eq_self, false_or, or_false, true_or, or_true]
/-! a state laid by -/
theorem m_put (h : MSt T S s) (hN : tN T ≤ 8) : ∃ s1, ev d 267 0 [.inr 67, .inr 86, .inl (nI 0), .inr 0, .inr 0] [] s = some (0, nI 0, s1) ∧ MLd T S (s1 86) ∧ Eqm [86] [] s s1 := by
  obtain ⟨s2, e2, r1, r2, r3, r4, r5, r6⟩ := m_lay (d := d) (s := s) (k := 86) (o := 0) (by decide) (by decide)
  refine ⟨s2, e2, ?_, fun a ha hb => r1 a (by simpa using ha), fun f _ => by rw [r1 _ (by decide)]⟩
  have g : MLd T S (fun j => s2 86 (0 + j)) := MLd_of h hN (fun w hw => r3 w hw) r4 r5 r6
  exact MLd_c g hN (fun j _ => by rw [Nat.zero_add])
theorem m_unput (h : MLd T S (s 86)) (hN : tN T ≤ 8) : ∃ s1, ev d 268 0 [.inr 67, .inr 86, .inl (nI 0), .inr 0, .inr 0] [] s = some (0, nI 0, s1) ∧ MSt T S s1 ∧ Eqm wkP [13] s s1 := by
  obtain ⟨s2, e2, q2, r3, r4, r5, r6⟩ := m_back (d := d) (s := s) (k := 86) (o := 0) (by decide) (by decide)
  have g : MLd T S (fun j => s 86 (0 + j)) := MLd_c h hN (fun j _ => by rw [Nat.zero_add])
  exact ⟨s2, e2, MSt_of g hN (fun w hw => r3 w hw) r4 r5 r6, q2⟩
theorem noWord_wk (h : sH S w = none) : sH (wkS T φ S) w = none := by
  have e1 : ∀ n, sH (expN T S n) w = none := by
    intro n
    induction n with
    | zero => exact h
    | succ n ih =>
      show sH (expS T (expN T S n) n) w = none
      unfold expS
      split
      · show (if w = n then none else sH (itr (fun l S => bringL S n l) 10 (expN T S n)) w) = none
        by_cases z : w = n
        · rw [if_pos z]
        · rw [if_neg z, bringL_H]; exact ih
      · exact ih
  have e2 : ∀ n done (S : aS) c, sH S w = none → sH (trn T φ n done S c).1 w = none := by
    intro n
    induction n with
    | zero => intro done S c h; exact h
    | succ n ih =>
      intro done S c h
      rw [trn_s]
      cases hp : pickW T φ S done with
      | none => exact h
      | some w' => exact ih _ _ _ (by rw [takeW_H]; exact h)
  exact e2 8 _ _ 0 (e1 8)
theorem noWord_wkI (h : sH S w = none) : ∀ n, sH (wkI T φ S n) w = none := by
  intro n
  induction n with
  | zero => exact h
  | succ n ih => exact noWord_wk ih
theorem first_or {p : Nat → Bool} : ∀ n, (∀ i, i < n → p i = false) ∨ ∃ i, i < n ∧ p i = true ∧ ∀ j, j < i → p j = false := by
  intro n
  induction n with
  | zero => exact Or.inl (fun i hi => absurd hi (Nat.not_lt_zero _))
  | succ n ih =>
    rcases ih with h | ⟨i, h1, h2⟩
    · cases hp : p n with
      | false =>
        refine Or.inl (fun i hi => ?_)
        by_cases z : i = n
        · rw [z]; exact hp
        · exact h i (by omega)
      | true => exact Or.inr ⟨n, by omega, hp, h⟩
    · exact Or.inr ⟨i, by omega, h2⟩
theorem m_soonL (ht : tOk T) (ho : sOk T S B) (hB : B + 61 < 2147483000) (hT : MT T s) (h : MSt T S s) (hR : MRb φ s) (hw : w < tN T) : ∀ n, n ≤ 61 → (∀ i, i < n → isU T (wkI T φ S i) w = false) → ∃ s', ev (d + 44 * 5 + 2 + 1 + 1 + 1) 286 29 [.inr 67, .inl (nI w), .inl (-nI 2), .inl (nI 0)] [] s = ev (d + 44 * 5 + 2 + 1 + 1 + 1) 286 29 [.inr 67, .inl (nI w), .inl (-nI 2), .inl (nI n)] [] s' ∧ MSt T (wkI T φ S n) s' ∧ Eqm wkP wkF s s' := by
  intro n
  induction n with
  | zero => intro _ _; exact ⟨s, rfl, h, Eqm.rf⟩
  | succ n ih =>
    intro hn hp
    obtain ⟨s1, e1, m1, q1⟩ := ih (by omega) (fun i hi => hp i (by omega))
    have hT1 := MT_q hT q1 (by decide) (by decide)
    have o1 := sOk_wkI (φ := φ) ht ho n
    obtain ⟨s2, e2, m2, q2⟩ := m_week (d := d) ht o1 (by omega) hT1 m1 (MRb_q hR q1 (by decide) (by decide))
    have e3 : ev (d + 44 * 5 + 2 + 1 + 1) 257 0 [.inr 67, .inl (nI w)] [] s1 = some (0, bI (isU T (wkI T φ S n) w), s1) := m_isUp (d := d + 44 * 5 + 2) ht o1 hT1 m1 hw
    rw [hp n (by omega)] at e3
    have hneg : (nI 0 ≤ -nI 2) = False := eq_false (by decide +kernel)
    refine ⟨s2, ?_, m2, q1.tr q2⟩
    rw [e1, E286_29]
    simp (disch := omega) only [hneg, e3, bIf0, e2, E286_57, lit, nI_add, pk_mul, n_sub, n_addneg, nle_t, nle_f, nlt_t, nlt_f, neq_t, neq_f, n_inb, n_ix, bnd_some, if_true, if_false, ite_tt, ite_ff, not_true_eq_false, not_false_eq_true, eq_self, false_or, or_false, true_or, or_true]
theorem Y_soon (ha : AOk A B) (hB : B + 61 < 2147483000) (h : MJ A B' s) : ∃ s', ev (d + 44 * 5 + 2 + 1 + 1 + 1) 286 0 [.inr 67, .inl p, .inr 0, .inr 0] [] s = some (0, o_soon A p, s') ∧ MJ A B' s' ∧ gM s s' := by
  obtain ⟨h0, g0⟩ := m_th h
  obtain ⟨s0, hs0⟩ : ∃ s0, s0 = up s 67 18 (nI 0) := ⟨_, rfl⟩
  rw [← hs0] at h0 g0
  have hN := ha.1.2.1
  have ew : ev (d + 44 * 5 + 2 + 1 + 1) 232 0 [.inr 67, .inl p] [] s0 = some (0, bI (inN p (tN (gT A))), s0) := m_isWall h0.1 hN
  unfold o_soon
  by_cases hw : inN p (tN (gT A)) = false
  · rw [if_pos hw]
    rw [hw] at ew
    refine ⟨s0, ?_, h0, g0⟩
    rw [E286_0, show up s 67 18 0 = s0 from hs0.symm, ew]
    simp (disch := omega) only [bIf0, lit, nI_add, pk_mul, n_sub, n_addneg, nle_t, nle_f, nlt_t, nlt_f, neq_t, neq_f, n_inb, n_ix, bnd_some, if_true, if_false, ite_tt, ite_ff, not_true_eq_false, not_false_eq_true, eq_self, false_or, or_false, true_or, or_true]
  have hw' : inN p (tN (gT A)) = true := by simpa using hw
  rw [if_neg hw]
  rw [hw'] at ew
  obtain ⟨w, hw2, rfl⟩ := inN_t (by omega) hw'
  rw [n_ix (by omega)]
  obtain ⟨s1, e1, l1, q1⟩ := m_put (d := d + 44 * 5 + 2 + 1 + 1) h0.2.1 hN
  have hT1 := MT_q h0.1 q1 (by decide) (by decide)
  have m1 := MSt_q h0.2.1 q1 (by decide) (by decide)
  have hR1 : MRb (gR A) s1 := Or.inl (MRl_q h0.2.2.2.2.1 q1 (by decide) (by decide))
  have st : ev (d + 44 * 5 + 2 + 1 + 1 + 1) 286 0 [.inr 67, .inl (nI w), .inr 0, .inr 0] [] s = ev (d + 44 * 5 + 2 + 1 + 1 + 1) 286 29 [.inr 67, .inl (nI w), .inl (-nI 2), .inl (nI 0)] [] s1 := by
    rw [E286_0, show up s 67 18 0 = s0 from hs0.symm, ew]
    simp (disch := omega) only [bIt0, e1, lit, nI_add, pk_mul, n_sub, n_addneg, nle_t, nle_f, nlt_t, nlt_f, neq_t, neq_f, n_inb, n_ix, bnd_some, if_true, if_false, ite_tt, ite_ff, not_true_eq_false, not_false_eq_true, eq_self, false_or, or_false, true_or, or_true]
  have fin : ∀ {s2 : mS} {v : Int32}, Eqm wkP wkF s1 s2 → ∃ s', ev (d + 44 * 5 + 2 + 1 + 1 + 1) 286 63 [.inr 67, .inr 0, .inl v, .inr 0] [] s2 = some (0, v, s') ∧ MJ A B' s' ∧ gM s s' := fun {s2 v} q2 => by
    obtain ⟨s3, e3, m3, q3⟩ := m_unput (d := d + 44 * 5 + 2 + 1 + 1) (s := s2) (T := gT A) (S := gS A) (by rw [q2.1 _ (by decide) (by decide)]; exact l1) hN
    have q : Eqm wkPp wkF s0 s3 := (q1.mono (by decide) (by decide)).tr ((q2.mono (by decide) (by decide)).tr (q3.mono (by decide) (by decide)))
    refine ⟨s3, ?_, MJ_st h0 q m3, g0.tr (q.g (by decide))⟩
    rw [E286_63]
    simp (disch := omega) only [e3, lit, nI_add, pk_mul, n_sub, n_addneg, nle_t, nle_f, nlt_t, nlt_f, neq_t, neq_f, n_inb, n_ix, bnd_some, if_true, if_false, ite_tt, ite_ff, not_true_eq_false, not_false_eq_true, eq_self, false_or, or_false, true_or, or_true]
  have hneg : (nI 0 ≤ -nI 2) = False := eq_false (by decide +kernel)
  rw [st]
  rcases first_or (p := fun i => isU (gT A) (wkI (gT A) (gR A) (gS A) i) w) 61 with hall | ⟨i, hi, hp, hj⟩
  · obtain ⟨s2, e2, m2, q2⟩ := m_soonL (d := d) ha.1 ha.2.1 hB hT1 m1 hR1 hw2 61 (Nat.le_refl _) hall
    obtain ⟨s3, e3, r⟩ := fin (v := -nI 2) q2
    rw [fnd_none hall]
    simp only [ite_self]
    refine ⟨s3, ?_, r⟩
    rw [e2, E286_29]
    simp (disch := omega) only [e3, lit, nI_add, pk_mul, n_sub, n_addneg, nle_t, nle_f, nlt_t, nlt_f, neq_t, neq_f, n_inb, n_ix, bnd_some, if_true, if_false, ite_tt, ite_ff, not_true_eq_false, not_false_eq_true, eq_self, false_or, or_false, true_or, or_true]
  · obtain ⟨s2, e2, m2, q2⟩ := m_soonL (d := d) ha.1 ha.2.1 hB hT1 m1 hR1 hw2 i (by omega) hj
    obtain ⟨s3, e3, r⟩ := fin (v := nI i) q2
    have hWw : ¬ isW (gS A) w = false := fun z => by
      have hn : sH (gS A) w = none := by
        unfold isW at z
        cases e : sH (gS A) w with
        | none => rfl
        | some x => rw [e] at z; cases z
      have hp : isU (gT A) (wkI (gT A) (gR A) (gS A) i) w = true := hp
      rw [isU_none (noWord_wkI hn i)] at hp
      cases hp
    have hT2 := MT_q hT1 q2 (by decide) (by decide)
    have e4 : ev (d + 44 * 5 + 2 + 1 + 1) 257 0 [.inr 67, .inl (nI w)] [] s2 = some (0, bI (isU (gT A) (wkI (gT A) (gR A) (gS A) i) w), s2) := m_isUp (d := d + 44 * 5 + 2) ha.1 (sOk_wkI ha.1 ha.2.1 i) hT2 m2 hw2
    have hp : isU (gT A) (wkI (gT A) (gR A) (gS A) i) w = true := hp
    rw [hp] at e4
    rw [if_neg hWw, fnd_some hi hj hp]
    refine ⟨s3, ?_, r⟩
    rw [e2, E286_29]
    simp (disch := omega) only [hneg, e4, bIt0, E286_57, lit, nI_add, pk_mul, n_sub, n_addneg, nle_t, nle_f, nlt_t, nlt_f, neq_t, neq_f, n_inb, n_ix, bnd_some, if_true, if_false, ite_tt, ite_ff, not_true_eq_false, not_false_eq_true, eq_self, false_or, or_false, true_or, or_true]
    rw [E286_29]
    by_cases h60 : 60 < i + 1
    · simp (disch := omega) only [e3, lit, nI_add, pk_mul, n_sub, n_addneg, nle_t, nle_f, nlt_t, nlt_f, neq_t, neq_f, n_inb, n_ix, bnd_some, if_true, if_false, ite_tt, ite_ff, not_true_eq_false, not_false_eq_true, eq_self, false_or, or_false, true_or, or_true]
    · simp (disch := omega) only [e3, lit, nI_add, pk_mul, n_sub, n_addneg, nle_t, nle_f, nlt_t, nlt_f, neq_t, neq_f, n_inb, n_ix, bnd_some, if_true, if_false, ite_tt, ite_ff, not_true_eq_false, not_false_eq_true, eq_self, false_or, or_false, true_or, or_true]
end MSD
