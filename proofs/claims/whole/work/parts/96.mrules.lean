/-! THE MODEL: rules, judge -/
def phR (ρ : aR) (i : Nat) : aR := if i = 0 then ρ else if i = 1 then (fun e => e (nI 119)) else if i = 2 then (fun e => -(e (nI 109))) else (fun e => e (nI 113))
def ruF : List Nat := [17, 29, 13, 19, 20, 21, 22, 23, 28]
def ruP : List Nat := [80, 68, 75, 76, 77, 78]
section MSE
variable {d B B' w l x y n m c own i f t : Nat} {s s' s1 s2 : mS} {T : aT} {S S' : aS} {A : aA} {φ ρ : aR} {P F : List Nat} {p q r a b2 b3 b4 : Int32} {W : List Int32}
theorem MRl_up (h : MRl φ s) (q : Eqm P F s s') (hp : 83 ∉ P) (hf : 27 ∉ F) : MRl φ (up s' 67 29 (nI 0)) := by
  obtain ⟨-, Y, h1, h2, h3⟩ := h
  exact ⟨up_in, Y, by rw [up_out (by decide), q.2 _ hf]; exact h1, fun i hi => by rw [up_ne (by decide), q.1 _ hp (by decide)]; exact h2 i hi, h3⟩
theorem m_rulesL (ht : tOk T) (ho : sOk T S B) (hB : B + 60 < 2147483000) (hT : MT T s) (h : MSt T S s) (hR : MRb φ s) (hm : m ≤ 60) : ∀ n, n ≤ m → ∃ s', ev (d + 44 * 5 + 2 + 1 + 1 + 1) 287 56 [.inr 67, .inl (nI m), .inl b2, .inl b3, .inl b4, .inl (nI 0), .inl (nI 0)] [] s = ev (d + 44 * 5 + 2 + 1 + 1 + 1) 287 56 [.inr 67, .inl (nI m), .inl b2, .inl b3, .inl b4, .inl (nI (wkN T φ S n).2.2), .inl (nI n)] [] s' ∧ MSt T (wkN T φ S n).1 s' ∧ Eqm wkP wkF s s' := by
  intro n
  induction n with
  | zero => intro _; exact ⟨s, rfl, h, Eqm.rf⟩
  | succ n ih =>
    intro hn
    obtain ⟨s1, e1, m1, q1⟩ := ih (by omega)
    have hT1 := MT_q hT q1 (by decide) (by decide)
    have o1 := sOk_wkN (φ := φ) ht ho n
    obtain ⟨s2, e2, m2, q2⟩ := m_week (d := d) ht o1 (by omega) hT1 m1 (MRb_q hR q1 (by decide) (by decide))
    have hT2 := MT_q hT1 q2 (by decide) (by decide)
    have o2 := sOk_wkS (φ := φ) ht o1
    have e3 : ev (d + 44 * 5 + 2 + 1 + 1) 259 0 [.inr 67, .inr 0, .inr 0] [] s2 = some (0, nI (bts (isU T (wkS T φ (wkN T φ S n).1)) 8), s2) := m_ups (d := d + 44 * 5 + 1) ht o2 hT2 m2
    have e4 : ev (d + 44 * 5 + 2 + 1 + 1) 281 0 [.inr 67, .inl (nI (bts (isU T (wkS T φ (wkN T φ S n).1)) 8)), .inr 0, .inr 0] [] s2 = some (0, nI (wUp T (wkS T φ (wkN T φ S n).1)), s2) := m_wUp ht o2 hT2
    refine ⟨s2, ?_, m2, q1.tr q2⟩
    rw [e1, E287_56]
    simp (disch := omega) only [e2, e3, e4, lit, nI_add, pk_mul, n_sub, n_addneg, nle_t, nle_f, nlt_t, nlt_f, neq_t, neq_f, n_inb, n_ix, bnd_some, if_true, if_false, ite_tt, ite_ff, not_true_eq_false, not_false_eq_true, eq_self, false_or, or_false, true_or, or_true]
    rfl
theorem m_rstep (ht : tOk T) (ho : sOk T S B) (hB : B + 60 < 2147483000) (hT : MT T s) (h : MSt T S s) (hL : MLd T S (s 86)) (hW : MW W s) (hl : W.length < 16) (hR : MRl ρ (up s 67 29 (nI 0))) (hi : i < 4) (hm : m ≤ 60) : ∃ s', ev (d + 44 * 5 + 2 + 1 + 1 + 1) 287 38 [.inr 67, .inl (nI m), .inl b2, .inl b3, .inl (nI i), .inr 0, .inr 0] [] s = ev (d + 44 * 5 + 2 + 1 + 1 + 1) 287 38 [.inr 67, .inl (nI m), .inl (if i = 0 ∨ b3 < nI (wkN T (phR ρ i) S m).2.2 then nI i else b2), .inl (if i = 0 ∨ b3 < nI (wkN T (phR ρ i) S m).2.2 then nI (wkN T (phR ρ i) S m).2.2 else b3), .inl (nI (i + 1)), .inr 0, .inr 0] [] s' ∧ MSt T S s' ∧ MW (W ++ [nI (wkN T (phR ρ i) S m).2.2]) s' ∧ Eqm ruP ruF s s' := by
  have hN := ht.2.1
  have q0 : Eqm [] [29] s (up s 67 29 (nI i)) := Eqm.rf.pf (by simp)
  have hb : MRb (phR ρ i) (up s 67 29 (nI i)) := by
    have : i = 0 ∨ i = 1 ∨ i = 2 ∨ i = 3 := by omega
    rcases this with rfl | rfl | rfl | rfl
    · exact Or.inl hR
    · exact Or.inr (Or.inl ⟨up_in, rfl⟩)
    · exact Or.inr (Or.inr (Or.inl ⟨up_in, rfl⟩))
    · exact Or.inr (Or.inr (Or.inr ⟨up_in, rfl⟩))
  obtain ⟨s2, e2, m2, q2⟩ := m_rulesL (d := d) (m := m) (b2 := b2) (b3 := b3) (b4 := nI i) ht ho hB (MT_q hT q0 (by decide) (by decide)) (MSt_q h q0 (by decide) (by decide)) hb hm m (Nat.le_refl _)
  have q02 : Eqm wkP (29 :: wkF) s s2 := (q0.mono (by decide) (by decide)).tr (q2.mono (by decide) (by decide))
  obtain ⟨s3, e3, m3, q3⟩ := m_unput (d := d + 44 * 5 + 2 + 1 + 1) (s := s2) (T := T) (S := S) (by rw [q02.1 _ (by decide) (by decide)]; exact hL) hN
  have q03 : Eqm wkP (29 :: wkF) s s3 := q02.tr (q3.mono (by decide) (by decide))
  obtain ⟨s4, e4, w4, q4⟩ := m_tell (d := d + 44 * 5 + 2 + 1 + 1) (p := nI (wkN T (phR ρ i) S m).2.2) (MW_q hW q03 (by decide) (by decide)) hl
  refine ⟨s4, ?_, MSt_q m3 q4 (by decide) (by decide), w4, (q03.mono (by decide) (by decide)).tr (q4.mono (by decide) (by decide))⟩
  rw [E287_38]
  simp (disch := omega) only [lit, nI_add, pk_mul, n_sub, n_addneg, nle_t, nle_f, nlt_t, nlt_f, neq_t, neq_f, n_inb, n_ix, bnd_some, if_true, if_false, ite_tt, ite_ff, not_true_eq_false, not_false_eq_true, eq_self, false_or, or_false, true_or, or_true]
  rw [e2, E287_56]
  simp (disch := omega) only [e3, e4, lit, nI_add, pk_mul, n_sub, n_addneg, nle_t, nle_f, nlt_t, nlt_f, neq_t, neq_f, n_inb, n_ix, bnd_some, if_true, if_false, ite_tt, ite_ff, not_true_eq_false, not_false_eq_true, eq_self, false_or, or_false, true_or, or_true]
  by_cases hz : i = 0
  · subst hz
    simp (disch := omega) only [E287_115, E287_121, lit, nI_add, pk_mul, n_sub, n_addneg, nle_t, nle_f, nlt_t, nlt_f, neq_t, neq_f, n_inb, n_ix, bnd_some, if_true, if_false, ite_tt, ite_ff, not_true_eq_false, not_false_eq_true, eq_self, false_or, or_false, true_or, or_true]
  · by_cases hv : b3 < nI (wkN T (phR ρ i) S m).2.2
    · rw [if_pos (show i = 0 ∨ b3 < nI (wkN T (phR ρ i) S m).2.2 from Or.inr hv), if_pos (show i = 0 ∨ b3 < nI (wkN T (phR ρ i) S m).2.2 from Or.inr hv), if_pos hv]
      simp (disch := omega) only [E287_115, E287_121, lit, nI_add, pk_mul, n_sub, n_addneg, nle_t, nle_f, nlt_t, nlt_f, neq_t, neq_f, n_inb, n_ix, bnd_some, if_true, if_false, ite_tt, ite_ff, not_true_eq_false, not_false_eq_true, eq_self, false_or, or_false, true_or, or_true]
    · have hno : ¬ (i = 0 ∨ b3 < nI (wkN T (phR ρ i) S m).2.2) := fun z => z.elim hz hv
      rw [if_neg hno, if_neg hno, if_neg hv]
      simp (disch := omega) only [E287_121, lit, nI_add, pk_mul, n_sub, n_addneg, nle_t, nle_f, nlt_t, nlt_f, neq_t, neq_f, n_inb, n_ix, bnd_some, if_true, if_false, ite_tt, ite_ff, not_true_eq_false, not_false_eq_true, eq_self, false_or, or_false, true_or, or_true]
theorem Y_rules (ha : AOk A B) (hB : B + 60 < 2147483000) (h : MJ A B' s) : ∃ s', ev (d + 44 * 5 + 2 + 1 + 1 + 1) 287 0 [.inr 67, .inl p, .inr 0, .inr 0, .inr 0, .inr 0, .inr 0] [] s = some (0, (o_rules A p).2, s') ∧ MJ (o_rules A p).1 B' s' ∧ gM s s' := by
  obtain ⟨h0, g0⟩ := m_th h
  obtain ⟨s0, hs0⟩ : ∃ s0, s0 = up s 67 18 (nI 0) := ⟨_, rfl⟩
  rw [← hs0] at h0 g0
  have hN := ha.1.2.1
  have ei : ev (d + 44 * 5 + 2 + 1 + 1) 228 0 [.inl p, .inl 0, .inl 60] [] s0 = some (0, bI (inN p 61), s0) := m_inB (n := 60) (by omega)
  unfold o_rules
  by_cases hi : inN p 61 = false
  · rw [if_pos hi]
    rw [hi] at ei
    refine ⟨s0, ?_, h0, g0⟩
    rw [E287_0, show up s 67 18 0 = s0 from hs0.symm, ei, bnd_some, if_neg (show ¬ ¬ bI false = 0 from not_not_intro rfl)]
    rfl
  have hi' : inN p 61 = true := by simpa using hi
  rw [if_neg hi]
  rw [hi'] at ei
  obtain ⟨n, hn, rfl⟩ := inN_t (by omega) hi'
  rw [n_ix (by omega)]
  have qr : Eqm [] [17] s0 (up s0 67 17 (nI 0)) := Eqm.rf.pf (by simp)
  obtain ⟨s1, e1, l1, q1⟩ := m_put (d := d + 44 * 5 + 2 + 1 + 1) (MSt_q h0.2.1 qr (by decide) (by decide)) hN
  have q01 : Eqm [86] [17] s0 s1 := (qr.mono (by decide) (by decide)).tr (q1.mono (by decide) (by decide))
  have hT1 := MT_q h0.1 q01 (by decide) (by decide)
  have m1 := MSt_q h0.2.1 q01 (by decide) (by decide)
  have w1 : MW [] s1 := MW_q MW_nil q1 (by decide) (by decide)
  obtain ⟨s2, e2, m2, w2, q2⟩ := m_rstep (d := d) (m := n) (i := 0) (b2 := nI 0) (b3 := nI 0) (ρ := gR A) ha.1 ha.2.1 hB hT1 m1 l1 w1 (by simp) (MRl_up h0.2.2.2.2.1 q01 (by decide) (by decide)) (by omega) (by omega)
  have q02 : Eqm (86 :: ruP) ruF s0 s2 := (q01.mono (by decide) (by decide)).tr (q2.mono (by decide) (by decide))
  have l2 : MLd (gT A) (gS A) (s2 86) := by rw [q2.1 _ (by decide) (by decide)]; exact l1
  obtain ⟨s3, e3, m3, w3, q3⟩ := m_rstep (d := d) (m := n) (i := 1) (b2 := nI 0) (b3 := ruV A n 0) (ρ := gR A) ha.1 ha.2.1 hB (MT_q h0.1 q02 (by decide) (by decide)) m2 l2 w2 (by simp) (MRl_up h0.2.2.2.2.1 q02 (by decide) (by decide)) (by omega) (by omega)
  have q03 : Eqm (86 :: ruP) ruF s0 s3 := q02.tr (q3.mono (by decide) (by decide))
  have l3 : MLd (gT A) (gS A) (s3 86) := by rw [q3.1 _ (by decide) (by decide)]; exact l2
  obtain ⟨s4, e4, m4, w4, q4⟩ := m_rstep (d := d) (m := n) (i := 2) (b2 := nI (bstR (ruV A n) 1)) (b3 := ruV A n (bstR (ruV A n) 1)) (ρ := gR A) ha.1 ha.2.1 hB (MT_q h0.1 q03 (by decide) (by decide)) m3 l3 w3 (by simp) (MRl_up h0.2.2.2.2.1 q03 (by decide) (by decide)) (by omega) (by omega)
  have q04 : Eqm (86 :: ruP) ruF s0 s4 := q03.tr (q4.mono (by decide) (by decide))
  have l4 : MLd (gT A) (gS A) (s4 86) := by rw [q4.1 _ (by decide) (by decide)]; exact l3
  obtain ⟨s5, e5, m5, w5, q5⟩ := m_rstep (d := d) (m := n) (i := 3) (b2 := nI (bstR (ruV A n) 2)) (b3 := ruV A n (bstR (ruV A n) 2)) (ρ := gR A) ha.1 ha.2.1 hB (MT_q h0.1 q04 (by decide) (by decide)) m4 l4 w4 (by simp) (MRl_up h0.2.2.2.2.1 q04 (by decide) (by decide)) (by omega) (by omega)
  have q05 : Eqm (86 :: ruP) ruF s0 s5 := q04.tr (q5.mono (by decide) (by decide))
  have bs : ∀ i, i ≠ 0 → (if i = 0 ∨ ruV A n (bstR (ruV A n) (i - 1)) < ruV A n i then nI i else nI (bstR (ruV A n) (i - 1))) = nI (bstR (ruV A n) i) ∧ (if i = 0 ∨ ruV A n (bstR (ruV A n) (i - 1)) < ruV A n i then ruV A n i else ruV A n (bstR (ruV A n) (i - 1))) = ruV A n (bstR (ruV A n) i) := fun i hi => by
    obtain ⟨j, rfl⟩ : ∃ j, i = j + 1 := ⟨i - 1, by omega⟩
    rw [bstR_s, show j + 1 - 1 = j from rfl]
    by_cases hv : ruV A n (j + 1) ≤ ruV A n (bstR (ruV A n) j)
    · have hno : ¬ (j + 1 = 0 ∨ ruV A n (bstR (ruV A n) j) < ruV A n (j + 1)) := fun z => z.elim (by omega) (Int32.not_lt.mpr hv)
      rw [if_neg hno, if_neg hno, if_pos hv]
      exact ⟨rfl, rfl⟩
    · have hyes : (j + 1 = 0 ∨ ruV A n (bstR (ruV A n) j) < ruV A n (j + 1)) := Or.inr (Int32.not_le.mp hv)
      rw [if_pos hyes, if_pos hyes, if_neg hv]
      exact ⟨rfl, rfl⟩
  have e3' : _ = ev (d + 44 * 5 + 2 + 1 + 1 + 1) 287 38 [.inr 67, .inl (nI n), .inl (if 1 = 0 ∨ ruV A n (bstR (ruV A n) (1 - 1)) < ruV A n 1 then nI 1 else nI (bstR (ruV A n) (1 - 1))), .inl (if 1 = 0 ∨ ruV A n (bstR (ruV A n) (1 - 1)) < ruV A n 1 then ruV A n 1 else ruV A n (bstR (ruV A n) (1 - 1))), .inl (nI 2), .inr 0, .inr 0] [] s3 := e3
  have e4' : _ = ev (d + 44 * 5 + 2 + 1 + 1 + 1) 287 38 [.inr 67, .inl (nI n), .inl (if 2 = 0 ∨ ruV A n (bstR (ruV A n) (2 - 1)) < ruV A n 2 then nI 2 else nI (bstR (ruV A n) (2 - 1))), .inl (if 2 = 0 ∨ ruV A n (bstR (ruV A n) (2 - 1)) < ruV A n 2 then ruV A n 2 else ruV A n (bstR (ruV A n) (2 - 1))), .inl (nI 3), .inr 0, .inr 0] [] s4 := e4
  have e5' : _ = ev (d + 44 * 5 + 2 + 1 + 1 + 1) 287 38 [.inr 67, .inl (nI n), .inl (if 3 = 0 ∨ ruV A n (bstR (ruV A n) (3 - 1)) < ruV A n 3 then nI 3 else nI (bstR (ruV A n) (3 - 1))), .inl (if 3 = 0 ∨ ruV A n (bstR (ruV A n) (3 - 1)) < ruV A n 3 then ruV A n 3 else ruV A n (bstR (ruV A n) (3 - 1))), .inl (nI 4), .inr 0, .inr 0] [] s5 := e5
  rw [(bs 1 (by omega)).1, (bs 1 (by omega)).2] at e3'
  rw [(bs 2 (by omega)).1, (bs 2 (by omega)).2] at e4'
  rw [(bs 3 (by omega)).1, (bs 3 (by omega)).2] at e5'
  have e2' : ev (d + 44 * 5 + 2 + 1 + 1 + 1) 287 38 [.inr 67, .inl (nI n), .inl (nI 0), .inl (nI 0), .inl (nI 0), .inr 0, .inr 0] [] s1 = ev (d + 44 * 5 + 2 + 1 + 1 + 1) 287 38 [.inr 67, .inl (nI n), .inl (nI 0), .inl (ruV A n 0), .inl (nI 1), .inr 0, .inr 0] [] s2 := by
    rw [e2, if_pos (Or.inl rfl), if_pos (Or.inl rfl)]
    rfl
  have hw5 : MW [ruV A n 0, ruV A n 1, ruV A n 2, ruV A n 3] s5 := w5
  have q6 : Eqm [] [29] s5 (up s5 67 29 (nI 0)) := Eqm.rf.pf (by simp)
  have q06 : Eqm (86 :: ruP) ruF s0 (up s5 67 29 (nI 0)) := q05.tr (q6.mono (by decide) (by decide))
  obtain ⟨h1, h2, h3, h4, h5, h6, h7, h8⟩ := h0
  refine ⟨up s5 67 29 (nI 0), ?_, ⟨MT_q h1 q06 (by decide) (by decide), MSt_q m5 q6 (by decide) (by decide), MX_q h3 q06 (by decide) (by decide), MW_q hw5 q6 (by decide) (by decide), MRl_up h5 q05 (by decide) (by decide), MU_q h6 q06 (by decide) (by decide), MK_q h7 q06 (by decide) (by decide), MN_q h8 q06 (by decide) (by decide)⟩, g0.tr (q06.g (by decide))⟩
  rw [E287_0, show up s 67 18 0 = s0 from hs0.symm, ei, bnd_some, if_pos (show ¬ bI true = 0 by decide +kernel)]
  simp only [lit]
  rw [e1, bnd_some, e2', e3', e4', e5', E287_38]
  simp (disch := omega) only [lit, nI_add, pk_mul, n_sub, n_addneg, nle_t, nle_f, nlt_t, nlt_f, neq_t, neq_f, n_inb, n_ix, bnd_some, if_true, if_false, ite_tt, ite_ff, not_true_eq_false, not_false_eq_true, eq_self, false_or, or_false, true_or, or_true]
/-! judge -/
theorem bits10 : ∀ i, i < 32 → (1023#32).getLsbD i = decide (i < 10) := by decide +kernel
theorem jv_m (hk : i < 3) : (a >>> (nI 10 * nI i &&& nI 31)) &&& nI 1023 = jv a (nI i) := by
  have key : ∀ z : Nat, z < 22 → ∀ b : Int32, ((b &&& nI 31).toBitVec.smod 32).toNat = z → ((b.toUInt32 &&& Int32.toUInt32 31).toBitVec % 32).toNat = z → (a >>> (b &&& nI 31)) &&& nI 1023 = ((a.toUInt32 >>> (b.toUInt32 &&& Int32.toUInt32 31)).toInt32) &&& 1023 := by
    intro z hz b h1 h2
    apply Int32.toBitVec_inj.mp
    have e0 : (nI 1023).toBitVec = 1023#32 := by decide +kernel
    have e00 : (1023 : Int32).toBitVec = 1023#32 := by decide +kernel
    have e1 : (a >>> (b &&& nI 31)).toBitVec = a.toBitVec.sshiftRight z := by
      rw [Int32.toBitVec_shiftRight, BitVec.sshiftRight_eq', h1]
    have e2 : ((a.toUInt32 >>> (b.toUInt32 &&& Int32.toUInt32 31)).toInt32).toBitVec = a.toBitVec >>> z := by
      show (a.toUInt32 >>> (b.toUInt32 &&& Int32.toUInt32 31)).toBitVec = _
      rw [UInt32.toBitVec_shiftRight, BitVec.ushiftRight_eq', h2]
      rfl
    rw [Int32.toBitVec_and, Int32.toBitVec_and, e0, e00, e1, e2]
    apply BitVec.eq_of_getLsbD_eq
    intro j hj
    rw [BitVec.getLsbD_and, BitVec.getLsbD_and, bits10 j hj, BitVec.getLsbD_sshiftRight, BitVec.getLsbD_ushiftRight]
    by_cases h10 : j < 10
    · rw [if_pos (show z + j < 32 by omega), decide_eq_false (by omega : ¬ 32 ≤ j), Bool.not_false, Bool.true_and]
    · rw [decide_eq_false h10, Bool.and_false, Bool.and_false]
  unfold jv
  have : i = 0 ∨ i = 1 ∨ i = 2 := by omega
  rcases this with rfl | rfl | rfl
  · exact key 0 (by omega) (nI 10 * nI 0) (by decide +kernel) (by decide +kernel)
  · exact key 10 (by omega) (nI 10 * nI 1) (by decide +kernel) (by decide +kernel)
  · exact key 20 (by omega) (nI 10 * nI 2) (by decide +kernel) (by decide +kernel)
theorem sOk_lendW (ht : tOk T) (h : sOk T S B) (hf : f < 8) (htt : t < 8) (hft : f ≠ t) (h1 : 0 < sG S f l) (h2 : 0 < lck T S t l) : sOk T (lendW S f t l) B := by
  have o1 : sOk T (mvS S f l (sL S l + 1) (sG S f l - 1)) B := mvS_ok ht h hf (by omega) (by
    have h3 := h.1 f
    cases hn : sH S f with
    | none =>
      have := (wOk_n h3 hn).1 l
      show sG S f l - 1 = 0
      omega
    | some x =>
      have := (wOk_s h3 hn).2.2.1 l
      show sG S f l - 1 ≤ nd T x l
      omega)
  refine mvS_ok ht o1 htt ?_ ?_
  · rw [mvS_L, if_pos rfl, mvS_G, if_neg (fun z => hft z.1.symm)]; omega
  · have h3 := h.1 t
    show match sH S t with
      | none => sG S t l + 1 = 0
      | some x => sG S t l + 1 ≤ nd T x l
    unfold lck at h2
    cases hn : sH S t with
    | none => rw [hn] at h2; exact absurd h2 (Nat.lt_irrefl _)
    | some x =>
      rw [hn] at h2
      have h2 : 0 < nd T x l - sG S t l := h2
      show sG S t l + 1 ≤ nd T x l
      omega
theorem m_judL (ht : tOk T) (hT : MT T s) (ho : sOk T S B) (h : MSt T S s) (hm : m ≤ 3) : ∀ n, n ≤ m → ∃ s', (ev (d + 1 + 1 + 1 + 1) 289 31 [.inr 67, .inl (nI m), .inl a, .inl (-nI 2), .inl (nI 0), .inr 0] [] s = match (judN T S a n).1 with
      | some k => ev (d + 1 + 1 + 1 + 1) 289 115 [.inr 67, .inr 0, .inr 0, .inl (nI k), .inr 0, .inr 0] [] s'
      | none => ev (d + 1 + 1 + 1 + 1) 289 31 [.inr 67, .inl (nI m), .inl a, .inl (-nI 2), .inl (nI n), .inr 0] [] s') ∧ MSt T (judN T S a n).2 s' ∧ sOk T (judN T S a n).2 B ∧ Eqm [76] [] s s' := by
  have hN := ht.2.1
  intro n
  induction n with
  | zero => intro _; exact ⟨s, rfl, h, ho, Eqm.rf⟩
  | succ n ih =>
    intro hn
    obtain ⟨s1, e1, c1, o1, q1⟩ := ih (by omega)
    rw [judN_s]
    unfold judS
    generalize judN T S a n = r at e1 c1 o1 ⊢
    obtain ⟨r1, S1⟩ := r
    cases r1 with
    | some k => exact ⟨s1, e1, c1, o1, q1⟩
    | none =>
      have e1 : ev (d + 1 + 1 + 1 + 1) 289 31 [.inr 67, .inl (nI m), .inl a, .inl (-nI 2), .inl (nI 0), .inr 0] [] s = ev (d + 1 + 1 + 1 + 1) 289 31 [.inr 67, .inl (nI m), .inl a, .inl (-nI 2), .inl (nI n), .inr 0] [] s1 := e1
      have c1 : MSt T S1 s1 := c1
      have o1 : sOk T S1 B := o1
      have hT1 := MT_q hT q1 (by decide) (by decide)
      have g := m_refusal (d := d + 1) (p := jF a (nI n)) (q := jT a (nI n)) (r := jL a (nI n)) ht o1 c1 hT1
      have ejv : (a >>> ((10 : Int32) * nI n &&& 31)) &&& 1023 = jv a (nI n) := jv_m (a := a) (i := n) (by omega)
      dsimp only
      by_cases h0 : rfs T S1 (jF a (nI n)) (jT a (nI n)) (jL a (nI n)) < nI 0
      · rw [if_pos h0]
        have hno : ¬ nI 0 ≤ rfs T S1 (jF a (nI n)) (jT a (nI n)) (jL a (nI n)) := Int32.not_le.mpr h0
        refine ⟨s1, ?_, c1, o1, q1⟩
        show _ = ev (d + 1 + 1 + 1 + 1) 289 115 [.inr 67, .inr 0, .inr 0, .inl (nI n), .inr 0, .inr 0] [] s1
        rw [e1, E289_31]
        simp only [ejv]
        simp only [← jF_d, ← jT_d, ← jL_d]
        simp (disch := omega) only [g, hno, lit, nI_add, pk_mul, n_sub, n_addneg, nle_t, nle_f, nlt_t, nlt_f, neq_t, neq_f, n_inb, n_ix, bnd_some, if_true, if_false, ite_tt, ite_ff, not_true_eq_false, not_false_eq_true, eq_self, false_or, or_false, true_or, or_true]
        rw [E289_109, E289_31]
        have n2 : ¬ (nI n = -nI 2) := fun z => cast (nneg_f (a := n) (b := 2) (by omega) (by omega) (by omega)) z
        by_cases hle : m ≤ n + 1
        · simp (disch := omega) only [lit, nI_add, pk_mul, n_sub, n_addneg, nle_t, nle_f, nlt_t, nlt_f, neq_t, neq_f, n_inb, n_ix, bnd_some, if_true, if_false, ite_tt, ite_ff, not_true_eq_false, not_false_eq_true, eq_self, false_or, or_false, true_or, or_true]
        · simp (disch := omega) only [n2, lit, nI_add, pk_mul, n_sub, n_addneg, nle_t, nle_f, nlt_t, nlt_f, neq_t, neq_f, n_inb, n_ix, bnd_some, if_true, if_false, ite_tt, ite_ff, not_true_eq_false, not_false_eq_true, eq_self, false_or, or_false, true_or, or_true]
      · obtain ⟨r1, r2, r3, r4, r5, r6, r7⟩ := rfs_ok h0
        rw [if_neg h0]
        obtain ⟨f, hf, ef⟩ := inN_t (by omega) r1
        obtain ⟨t, ht2, et⟩ := inN_t (by omega) r2
        obtain ⟨l, hl, el⟩ := inN_t (by omega) r4
        rw [r7] at g
        rw [ef, et, el, n_ix (by omega), n_ix (by omega), n_ix (by omega)]
        rw [ef, el, n_ix (by omega), n_ix (by omega)] at r5
        rw [et, el, n_ix (by omega), n_ix (by omega)] at r6
        have hne : f ≠ t := fun z => r3 (by rw [ef, et, z])
        have b1 := sG_le (l := l) ht (o1.1 f)
        have b2 := sG_le (l := l) ht (o1.1 t)
        obtain ⟨s2, e2, m2, q2⟩ := m_lends (d := d + 1 + 1 + 1) hN c1 hf ht2 hl hne (by omega) (by omega) (by omega)
        refine ⟨s2, ?_, m2, sOk_lendW ht o1 (by omega) (by omega) hne (by omega) (by omega), q1.tr q2⟩
        show _ = ev (d + 1 + 1 + 1 + 1) 289 31 [.inr 67, .inl (nI m), .inl a, .inl (-nI 2), .inl (nI (n + 1)), .inr 0] [] s2
        rw [e1, E289_31]
        simp only [ejv]
        simp only [← jF_d, ← jT_d, ← jL_d]
        rw [ef, et, el] at g ⊢
        simp (disch := omega) only [g, e2, E289_109, lit, nI_add, pk_mul, n_sub, n_addneg, nle_t, nle_f, nlt_t, nlt_f, neq_t, neq_f, n_inb, n_ix, bnd_some, if_true, if_false, ite_tt, ite_ff, not_true_eq_false, not_false_eq_true, eq_self, false_or, or_false, true_or, or_true]
theorem Y_judge (ha : AOk A B) (h : MJ A B' s) : ∃ s', ev (d + 1 + 1 + 1 + 1) 289 0 [.inr 67, .inl p, .inl a, .inr 0, .inr 0, .inr 0] [] s = some (0, (o_judge A p a).2, s') ∧ MJ (o_judge A p a).1 B' s' ∧ gM s s' := by
  obtain ⟨h0, g0⟩ := m_th h
  obtain ⟨s0, hs0⟩ : ∃ s0, s0 = up s 67 18 (nI 0) := ⟨_, rfl⟩
  rw [← hs0] at h0 g0
  have hN := ha.1.2.1
  have ei : ev (d + 1 + 1 + 1) 228 0 [.inl p, .inl 0, .inl 3] [] s0 = some (0, bI (inN p 4), s0) := m_inB (n := 3) (by omega)
  unfold o_judge
  by_cases hi : inN p 4 = false
  · rw [if_pos hi]
    rw [hi] at ei
    refine ⟨s0, ?_, h0, g0⟩
    rw [E289_0, show up s 67 18 0 = s0 from hs0.symm, ei, bnd_some, if_neg (show ¬ ¬ bI false = 0 from not_not_intro rfl)]
    rfl
  have hi' : inN p 4 = true := by simpa using hi
  rw [if_neg hi]
  rw [hi'] at ei
  obtain ⟨n, hn, rfl⟩ := inN_t (by omega) hi'
  rw [n_ix (by omega)]
  obtain ⟨s1, e1, l1, q1⟩ := m_put (d := d + 1 + 1 + 1) h0.2.1 hN
  have hT1 := MT_q h0.1 q1 (by decide) (by decide)
  obtain ⟨s2, e2, m2, o2, q2⟩ := m_judL (d := d) (a := a) (m := n) ha.1 hT1 ha.2.1 (MSt_q h0.2.1 q1 (by decide) (by decide)) (by omega) n (Nat.le_refl _)
  have hT2 := MT_q hT1 q2 (by decide) (by decide)
  have e3 := m_ups (d := d) ha.1 o2 hT2 m2
  obtain ⟨s3, e4, m3, q3⟩ := m_unput (d := d + 1 + 1 + 1) (s := s2) (T := gT A) (S := gS A) (by rw [q2.1 _ (by decide) (by decide)]; exact l1) hN
  have q : Eqm wkPp wkF s0 s3 := (q1.mono (by decide) (by decide)).tr ((q2.mono (by decide) (by decide)).tr (q3.mono (by decide) (by decide)))
  have j3 := MJ_st h0 q m3
  have j3 : MJ A B' s3 := j3
  obtain ⟨s4, e5, q4, w4⟩ := m_tell1 (d := d + 1 + 1 + 1) (s := s3) (p := nI (bts (isU (gT A) (judN (gT A) (gS A) a n).2) 8))
  have fin : ∀ v : Int32, ev (d + 1 + 1 + 1 + 1) 289 115 [.inr 67, .inr 0, .inr 0, .inl v, .inr 0, .inr 0] [] s2 = some (0, v, s4) := fun v => by
    rw [E289_115]
    simp (disch := omega) only [e3, e4, e5, lit, nI_add, pk_mul, n_sub, n_addneg, nle_t, nle_f, nlt_t, nlt_f, neq_t, neq_f, n_inb, n_ix, bnd_some, if_true, if_false, ite_tt, ite_ff, not_true_eq_false, not_false_eq_true, eq_self, false_or, or_false, true_or, or_true]
  refine ⟨s4, ?_, MJ_row j3 q4 (by decide) (by decide) w4, g0.tr ((q.g (by decide)).tr (q4.g (by decide)))⟩
  have st : ev (d + 1 + 1 + 1 + 1) 289 0 [.inr 67, .inl (nI n), .inl a, .inr 0, .inr 0, .inr 0] [] s = ev (d + 1 + 1 + 1 + 1) 289 31 [.inr 67, .inl (nI n), .inl a, .inl (-nI 2), .inl (nI 0), .inr 0] [] s1 := by
    rw [E289_0, show up s 67 18 0 = s0 from hs0.symm, ei, bnd_some, if_pos (show ¬ bI true = 0 by decide +kernel)]
    simp (disch := omega) only [e1, lit, nI_add, pk_mul, n_sub, n_addneg, nle_t, nle_f, nlt_t, nlt_f, neq_t, neq_f, n_inb, n_ix, bnd_some, if_true, if_false, ite_tt, ite_ff, not_true_eq_false, not_false_eq_true, eq_self, false_or, or_false, true_or, or_true]
  rw [st, e2]
  cases hj : (judN (gT A) (gS A) a n).1 with
  | some k => exact fin _
  | none =>
    dsimp only
    rw [E289_31]
    simp (disch := omega) only [lit, nI_add, pk_mul, n_sub, n_addneg, nle_t, nle_f, nlt_t, nlt_f, neq_t, neq_f, n_inb, n_ix, bnd_some, if_true, if_false, ite_tt, ite_ff, not_true_eq_false, not_false_eq_true, eq_self, false_or, or_false, true_or, or_true]
    exact fin _
end MSE
