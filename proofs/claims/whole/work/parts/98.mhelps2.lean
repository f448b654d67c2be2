/-! THE MODEL: helps, the call -/
section MSG
variable {d B B' w l x y n m c f t j k : Nat} {s s' s1 s2 : mS} {T : aT} {S S' X : aS} {A : aA} {p q r a v : Int32} {W M : List Int32}
theorem wnt_le (ht : tOk T) (ho : sOk T S B) : wnt T S w l ≤ 8 := by
  have := lck_le (l := l) ht (ho.1 w)
  unfold wnt; omega
theorem m_wants (ht : tOk T) (ho : sOk T S B) (hT : MT T s) (h : MSt T S s) (hw : w < tN T) (hl : l < 10) : ev d 277 0 [.inr 67, .inl (nI w), .inl (nI l)] [] s = some (0, nI (lck T S w l), s) ∧ mmax (nI 0) (nI (lck T S w l) - s 68 l) = nI (wnt T S w l) := by
  refine ⟨m_lacks ht h hw hl hT (fun x hx => ⟨(wOk_s (ho.1 w) hx).2.1, (wOk_s (ho.1 w) hx).2.2.1 l⟩), ?_⟩
  have b1 := lck_le (l := l) ht (ho.1 w)
  have b2 := (hal_le ho hl).2
  rw [h.2.1 l hl]
  exact mmax0 (by omega) (by omega)
theorem m_oth (ht : tOk T) (ho : sOk T S B) (hT : MT T s) (h : MSt T S s) (hw : w < tN T) (hl : l < 10) : ev (d + 1 + 1 + 1) 290 42 [.inr 67, .inl (nI w), .inl v, .inl (nI l), .inl (nI 0), .inl (nI 0), .inr 0] [] s = ev (d + 1 + 1 + 1) 290 42 [.inr 67, .inl (nI w), .inl v, .inl (nI l), .inl (nI (oth T S w l)), .inl (nI (tN T)), .inr 0] [] s := by
  have hN := ht.2.1
  exact loopU (fun i a => ev (d + 1 + 1 + 1) 290 42 [.inr 67, .inl (nI w), .inl v, .inl (nI l), .inl (nI a), .inl (nI i), .inr 0] [] s) (fun f a => a + (if f ≠ w ∧ isQ T S f = true then sG S f l else 0)) (tN T) (fun i a hi => by
    rw [E290_42, hT.2.1]
    by_cases hiw : i = w
    · rw [if_neg (show ¬ (i ≠ w ∧ isQ T S i = true) from fun z => z.1 hiw)]
      simp (disch := omega) only [E290_83, E290_84, lit, nI_add, pk_mul, n_sub, n_addneg, nle_t, nle_f, nlt_t, nlt_f, neq_t, neq_f, n_inb, n_ix, bnd_some, if_true, if_false, ite_tt, ite_ff, not_true_eq_false, not_false_eq_true, eq_self, false_or, or_false, true_or, or_true]
    · have e1 := m_isWaiting (d := d) ht ho hT h hi
      have e2 := m_hung h hi hl
      cases hq : isQ T S i with
      | false =>
        rw [hq] at e1
        rw [if_neg (show ¬ (i ≠ w ∧ false = true) from fun z => by cases z.2)]
        simp (disch := omega) only [e1, bIf0, E290_83, E290_84, lit, nI_add, pk_mul, n_sub, n_addneg, nle_t, nle_f, nlt_t, nlt_f, neq_t, neq_f, n_inb, n_ix, bnd_some, if_true, if_false, ite_tt, ite_ff, not_true_eq_false, not_false_eq_true, eq_self, false_or, or_false, true_or, or_true]
      | true =>
        rw [hq] at e1
        rw [if_pos (show i ≠ w ∧ true = true from ⟨hiw, rfl⟩)]
        simp (disch := omega) only [e1, bIt0, e2, E290_84, lit, nI_add, pk_mul, n_sub, n_addneg, nle_t, nle_f, nlt_t, nlt_f, neq_t, neq_f, n_inb, n_ix, bnd_some, if_true, if_false, ite_tt, ite_ff, not_true_eq_false, not_false_eq_true, eq_self, false_or, or_false, true_or, or_true]) 0
theorem m_helpsK (ht : tOk T) (ho : sOk T S B) (hT : MT T s) (h : MSt T S s) (hw : w < tN T) (hf : f < tN T) (hfw : f ≠ w) (hq : isQ T S f = true) (hl : l < 10) (hm : m < 100) (hW : MW (M.take 10) s) : ∀ k, k ≤ min (sG S f l) m → ∃ s', ev (d + 1 + 1 + 1) 290 180 [.inr 67, .inl (nI w), .inl v, .inl (nI l), .inl (nI m), .inl (nI f), .inl (nI 0)] [] s = ev (d + 1 + 1 + 1) 290 180 [.inr 67, .inl (nI w), .inl v, .inl (nI l), .inl (nI (m - k)), .inl (nI f), .inl (nI k)] [] s' ∧ MW ((M ++ List.replicate k (nI (100 * f + 10 * w + l))).take 10) s' ∧ Eqm [80] [17] s s' := by
  have hN := ht.2.1
  intro k
  induction k with
  | zero => intro _; exact ⟨s, rfl, by simpa using hW, Eqm.rf⟩
  | succ k ih =>
    intro hk
    obtain ⟨s1, e1, w1, q1⟩ := ih (by omega)
    have hT1 := MT_q hT q1 (by decide) (by decide)
    have m1 := MSt_q h q1 (by decide) (by decide)
    have e2 := m_isWaiting (d := d) ht ho hT1 m1 hf
    rw [hq] at e2
    have e3 := m_hung m1 hf hl
    have b1 := sG_le (l := l) ht (ho.1 f)
    have er : M ++ List.replicate (k + 1) (nI (100 * f + 10 * w + l)) = (M ++ List.replicate k (nI (100 * f + 10 * w + l))) ++ [nI (100 * f + 10 * w + l)] := by
      rw [List.append_assoc, List.replicate_succ']
    rw [er]
    have lt : ((M ++ List.replicate k (nI (100 * f + 10 * w + l))).take 10).length ≤ 10 := by rw [List.length_take]; exact Nat.min_le_left _ _
    have c17 := w1.1
    generalize M ++ List.replicate k (nI (100 * f + 10 * w + l)) = L at w1 lt c17 ⊢
    by_cases h10 : (L.take 10).length < 10
    · obtain ⟨s4, e4, w4, q4⟩ := m_tell (d := d + 1 + 1) (p := nI (100 * f + 10 * w + l)) w1 (by omega)
      have hM : L.take 10 = L := List.take_of_length_le (by rw [List.length_take] at h10; omega)
      refine ⟨s4, ?_, ?_, q1.tr q4⟩
      · rw [e1, E290_180]
        simp (disch := omega) only [e2, bIt0, e3, c17, e4, E290_242, lit, nI_add, pk_mul, n_sub, n_addneg, nle_t, nle_f, nlt_t, nlt_f, neq_t, neq_f, n_inb, n_ix, bnd_some, if_true, if_false, ite_tt, ite_ff, not_true_eq_false, not_false_eq_true, eq_self, false_or, or_false, true_or, or_true]
        rw [show m - k - 1 = m - (k + 1) by omega]
      · have : (L ++ [nI (100 * f + 10 * w + l)]).take 10 = L.take 10 ++ [nI (100 * f + 10 * w + l)] := by
          rw [hM, List.take_of_length_le]
          rw [hM] at h10
          simp; omega
        rw [this]; exact w4
    · refine ⟨s1, ?_, ?_, q1⟩
      · rw [e1, E290_180]
        simp (disch := omega) only [e2, bIt0, e3, c17, E290_242, lit, nI_add, pk_mul, n_sub, n_addneg, nle_t, nle_f, nlt_t, nlt_f, neq_t, neq_f, n_inb, n_ix, bnd_some, if_true, if_false, ite_tt, ite_ff, not_true_eq_false, not_false_eq_true, eq_self, false_or, or_false, true_or, or_true]
        rw [show m - k - 1 = m - (k + 1) by omega]
      · have : (L ++ [nI (100 * f + 10 * w + l)]).take 10 = L.take 10 := by
          rw [List.length_take] at h10
          rw [List.take_append_of_le_length (by omega)]
        rw [this]; exact w1
theorem mhL_le {r : List Int32 × Nat} : ∀ n, (mhL T S w l n r).2 ≤ r.2 := by
  intro n
  induction n with
  | zero => exact Nat.le_refl _
  | succ n ih =>
    rw [mhL_s]
    unfold mhS
    split
    · show (mhL T S w l n r).2 - _ ≤ r.2
      omega
    · exact ih
theorem m_helpsF (ht : tOk T) (ho : sOk T S B) (hT : MT T s) (h : MSt T S s) (hw : w < tN T) (hl : l < 10) (hm : m < 100) (hW : MW (M.take 10) s) : ∀ n, n ≤ tN T → ∃ s', ev (d + 1 + 1 + 1) 290 168 [.inr 67, .inl (nI w), .inl v, .inl (nI l), .inl (nI m), .inl (nI 0), .inr 0] [] s = ev (d + 1 + 1 + 1) 290 168 [.inr 67, .inl (nI w), .inl v, .inl (nI l), .inl (nI (mhL T S w l n (M, m)).2), .inl (nI n), .inr 0] [] s' ∧ MW ((mhL T S w l n (M, m)).1.take 10) s' ∧ Eqm [80] [17] s s' := by
  have hN := ht.2.1
  intro n
  induction n with
  | zero => intro _; exact ⟨s, rfl, hW, Eqm.rf⟩
  | succ n ih =>
    intro hn
    obtain ⟨s1, e1, w1, q1⟩ := ih (by omega)
    have hle := mhL_le (T := T) (S := S) (w := w) (l := l) (r := (M, m)) n
    rw [mhL_s]
    generalize mhL T S w l n (M, m) = r at e1 w1 hle ⊢
    obtain ⟨M1, v1⟩ := r
    dsimp only at e1 w1 hle
    have hT1 := MT_q hT q1 (by decide) (by decide)
    have m1 := MSt_q h q1 (by decide) (by decide)
    have e2 := m_isWaiting (d := d) ht ho hT1 m1 (show n < tN T by omega)
    unfold mhS
    dsimp only
    by_cases hnw : n = w
    · rw [if_neg (show ¬ (n ≠ w ∧ isQ T S n = true) from fun z => z.1 hnw)]
      refine ⟨s1, ?_, w1, q1⟩
      rw [e1, E290_168, hT1.2.1]
      simp (disch := omega) only [lit, nI_add, pk_mul, n_sub, n_addneg, nle_t, nle_f, nlt_t, nlt_f, neq_t, neq_f, n_inb, n_ix, bnd_some, if_true, if_false, ite_tt, ite_ff, not_true_eq_false, not_false_eq_true, eq_self, false_or, or_false, true_or, or_true]
      rw [E290_180]
      simp (disch := omega) only [E290_251, lit, nI_add, pk_mul, n_sub, n_addneg, nle_t, nle_f, nlt_t, nlt_f, neq_t, neq_f, n_inb, n_ix, bnd_some, if_true, if_false, ite_tt, ite_ff, not_true_eq_false, not_false_eq_true, eq_self, false_or, or_false, true_or, or_true]
    · cases hq : isQ T S n with
      | false =>
        rw [hq] at e2
        rw [if_neg (show ¬ (n ≠ w ∧ false = true) from fun z => by cases z.2)]
        refine ⟨s1, ?_, w1, q1⟩
        rw [e1, E290_168, hT1.2.1]
        simp (disch := omega) only [lit, nI_add, pk_mul, n_sub, n_addneg, nle_t, nle_f, nlt_t, nlt_f, neq_t, neq_f, n_inb, n_ix, bnd_some, if_true, if_false, ite_tt, ite_ff, not_true_eq_false, not_false_eq_true, eq_self, false_or, or_false, true_or, or_true]
        rw [E290_180]
        simp (disch := omega) only [e2, bIf0, E290_251, lit, nI_add, pk_mul, n_sub, n_addneg, nle_t, nle_f, nlt_t, nlt_f, neq_t, neq_f, n_inb, n_ix, bnd_some, if_true, if_false, ite_tt, ite_ff, not_true_eq_false, not_false_eq_true, eq_self, false_or, or_false, true_or, or_true]
      | true =>
        rw [if_pos (show n ≠ w ∧ true = true from ⟨hnw, rfl⟩)]
        obtain ⟨s2, e3, w3, q3⟩ := m_helpsK (d := d) (v := v) (m := v1) ht ho hT1 m1 hw (show n < tN T by omega) hnw hq hl (by omega) w1 (min (sG S n l) v1) (Nat.le_refl _)
        have hT2 := MT_q hT1 q3 (by decide) (by decide)
        have m2 := MSt_q m1 q3 (by decide) (by decide)
        have e4 := m_isWaiting (d := d) ht ho hT2 m2 (show n < tN T by omega)
        rw [hq] at e4
        have e5 := m_hung m2 (show n < tN T by omega) hl
        have b1 := sG_le (l := l) ht (ho.1 n)
        refine ⟨s2, ?_, w3, q1.tr q3⟩
        rw [e1, E290_168, hT1.2.1]
        simp (disch := omega) only [lit, nI_add, pk_mul, n_sub, n_addneg, nle_t, nle_f, nlt_t, nlt_f, neq_t, neq_f, n_inb, n_ix, bnd_some, if_true, if_false, ite_tt, ite_ff, not_true_eq_false, not_false_eq_true, eq_self, false_or, or_false, true_or, or_true]
        rw [e3, E290_180]
        simp (disch := omega) only [e4, bIt0, e5, lit, nI_add, pk_mul, n_sub, n_addneg, nle_t, nle_f, nlt_t, nlt_f, neq_t, neq_f, n_inb, n_ix, bnd_some, if_true, if_false, ite_tt, ite_ff, not_true_eq_false, not_false_eq_true, eq_self, false_or, or_false, true_or, or_true]
        by_cases h5 : sG S n l ≤ min (sG S n l) v1
        · simp (disch := omega) only [E290_251, lit, nI_add, pk_mul, n_sub, n_addneg, nle_t, nle_f, nlt_t, nlt_f, neq_t, neq_f, n_inb, n_ix, bnd_some, if_true, if_false, ite_tt, ite_ff, not_true_eq_false, not_false_eq_true, eq_self, false_or, or_false, true_or, or_true]
        · have h6 : v1 - min (sG S n l) v1 = 0 := by omega
          simp (disch := omega) only [h6, E290_251, lit, nI_add, pk_mul, n_sub, n_addneg, nle_t, nle_f, nlt_t, nlt_f, neq_t, neq_f, n_inb, n_ix, bnd_some, if_true, if_false, ite_tt, ite_ff, not_true_eq_false, not_false_eq_true, eq_self, false_or, or_false, true_or, or_true]
theorem m_helpsA (ht : tOk T) (ho : sOk T S B) (hT : MT T s) (h : MSt T S s) (hw : w < tN T) (hW : MW (M.take 10) s) : ∀ n, n ≤ 10 → ∃ s', ev (d + 1 + 1 + 1) 290 140 [.inr 67, .inl (nI w), .inl v, .inl (nI 0), .inr 0, .inr 0, .inr 0] [] s = ev (d + 1 + 1 + 1) 290 140 [.inr 67, .inl (nI w), .inl v, .inl (nI n), .inr 0, .inr 0, .inr 0] [] s' ∧ MW ((mhA T S w n M).take 10) s' ∧ Eqm [80] [17] s s' := by
  have hN := ht.2.1
  intro n
  induction n with
  | zero => intro _; exact ⟨s, rfl, hW, Eqm.rf⟩
  | succ n ih =>
    intro hn
    obtain ⟨s1, e1, w1, q1⟩ := ih (by omega)
    have hT1 := MT_q hT q1 (by decide) (by decide)
    have m1 := MSt_q h q1 (by decide) (by decide)
    rw [mhA_s]
    generalize mhA T S w n M = M1 at w1 ⊢
    obtain ⟨e2, e3⟩ := m_wants (d := d + 1 + 1) ht ho hT1 m1 hw (show n < 10 by omega)
    have b1 := wnt_le (w := w) (l := n) ht ho
    obtain ⟨s2, e4, w4, q4⟩ := m_helpsF (d := d) (v := v) (m := wnt T S w n) ht ho hT1 m1 hw (show n < 10 by omega) (by omega) w1 (tN T) (Nat.le_refl _)
    have hT2 := MT_q hT1 q4 (by decide) (by decide)
    refine ⟨s2, ?_, w4, q1.tr q4⟩
    rw [e1, E290_140]
    simp (disch := omega) only [e2, e3, lit, nI_add, pk_mul, n_sub, n_addneg, nle_t, nle_f, nlt_t, nlt_f, neq_t, neq_f, n_inb, n_ix, bnd_some, if_true, if_false, ite_tt, ite_ff, not_true_eq_false, not_false_eq_true, eq_self, false_or, or_false, true_or, or_true]
    rw [e4, E290_168, hT2.2.1]
    simp (disch := omega) only [lit, nI_add, pk_mul, n_sub, n_addneg, nle_t, nle_f, nlt_t, nlt_f, neq_t, neq_f, n_inb, n_ix, bnd_some, if_true, if_false, ite_tt, ite_ff, not_true_eq_false, not_false_eq_true, eq_self, false_or, or_false, true_or, or_true]
theorem m_helps1 (ht : tOk T) (ho : sOk T S B) (hT : MT T s) (h : MSt T S s) (hw : w < tN T) : ∀ n, n ≤ 10 → (∀ l, l < n → decide (wnt T S w l ≤ oth T S w l) = true) → ev (d + 1 + 1 + 1) 290 30 [.inr 67, .inl (nI w), .inl (nI 0), .inl (nI 0), .inr 0, .inr 0, .inr 0] [] s = ev (d + 1 + 1 + 1) 290 30 [.inr 67, .inl (nI w), .inl (nI (sm (wnt T S w) n)), .inl (nI n), .inr 0, .inr 0, .inr 0] [] s := by
  have hN := ht.2.1
  intro n
  induction n with
  | zero => intro _ _; rfl
  | succ n ih =>
    intro hn hp
    obtain ⟨e2, e3⟩ := m_wants (d := d + 1 + 1) ht ho hT h hw (show n < 10 by omega)
    have hle := of_decide_eq_true (hp n (by omega))
    have b1 : oth T S w n ≤ tN T * 8 := sm_le (fun f _ => by
      have := sG_le (l := n) ht (ho.1 f)
      show (if _ then _ else 0) ≤ 8
      split <;> omega)
    rw [ih (by omega) (fun l hl => hp l (by omega)), E290_30]
    simp (disch := omega) only [lit, nI_add, pk_mul, n_sub, n_addneg, nle_t, nle_f, nlt_t, nlt_f, neq_t, neq_f, n_inb, n_ix, bnd_some, if_true, if_false, ite_tt, ite_ff, not_true_eq_false, not_false_eq_true, eq_self, false_or, or_false, true_or, or_true]
    rw [m_oth ht ho hT h hw (show n < 10 by omega), E290_42, hT.2.1]
    simp (disch := omega) only [e2, e3, lit, nI_add, pk_mul, n_sub, n_addneg, nle_t, nle_f, nlt_t, nlt_f, neq_t, neq_f, n_inb, n_ix, bnd_some, if_true, if_false, ite_tt, ite_ff, not_true_eq_false, not_false_eq_true, eq_self, false_or, or_false, true_or, or_true]
    rfl
theorem Y_helps (ha : AOk A B) (h : MJ A B' s) : ∃ s', ev (d + 1 + 1 + 1) 290 0 [.inr 67, .inl p, .inr 0, .inr 0, .inr 0, .inr 0, .inr 0] [] s = some (0, (o_helps A p).2, s') ∧ MJ (o_helps A p).1 B' s' ∧ gM s s' := by
  obtain ⟨h0, g0⟩ := m_th h
  obtain ⟨s0, hs0⟩ : ∃ s0, s0 = up s 67 18 (nI 0) := ⟨_, rfl⟩
  rw [← hs0] at h0 g0
  have hN := ha.1.2.1
  have ew := m_isWall (d := d + 1) (p := p) h0.1 hN
  unfold o_helps
  by_cases hw : inN p (tN (gT A)) = false
  · rw [if_pos hw]
    rw [hw] at ew
    refine ⟨s0, ?_, h0, g0⟩
    rw [E290_0, show up s 67 18 0 = s0 from hs0.symm, ew]
    simp (disch := omega) only [bIf0, lit, nI_add, pk_mul, n_sub, n_addneg, nle_t, nle_f, nlt_t, nlt_f, neq_t, neq_f, n_inb, n_ix, bnd_some, if_true, if_false, ite_tt, ite_ff, not_true_eq_false, not_false_eq_true, eq_self, false_or, or_false, true_or, or_true]
  have hw' : inN p (tN (gT A)) = true := by simpa using hw
  rw [if_neg hw]
  rw [hw'] at ew
  obtain ⟨w, hw2, rfl⟩ := inN_t (by omega) hw'
  rw [n_ix (by omega)]
  have e0 := m_isWaiting (d := d) ha.1 ha.2.1 h0.1 h0.2.1 hw2
  cases hq : isQ (gT A) (gS A) w with
  | false =>
    rw [if_pos rfl]
    rw [hq] at e0
    refine ⟨s0, ?_, h0, g0⟩
    rw [E290_0, show up s 67 18 0 = s0 from hs0.symm, ew]
    simp (disch := omega) only [bIt0, e0, bIf0, lit, nI_add, pk_mul, n_sub, n_addneg, nle_t, nle_f, nlt_t, nlt_f, neq_t, neq_f, n_inb, n_ix, bnd_some, if_true, if_false, ite_tt, ite_ff, not_true_eq_false, not_false_eq_true, eq_self, false_or, or_false, true_or, or_true]
  | true =>
    rw [if_neg (show ¬ (true = false) by simp)]
    rw [hq] at e0
    rw [helps_can ha.1 ha.2.1]
    have st : ev (d + 1 + 1 + 1) 290 0 [.inr 67, .inl (nI w), .inr 0, .inr 0, .inr 0, .inr 0, .inr 0] [] s = ev (d + 1 + 1 + 1) 290 30 [.inr 67, .inl (nI w), .inl (nI 0), .inl (nI 0), .inr 0, .inr 0, .inr 0] [] s0 := by
      rw [E290_0, show up s 67 18 0 = s0 from hs0.symm, ew]
      simp (disch := omega) only [bIt0, e0, lit, nI_add, pk_mul, n_sub, n_addneg, nle_t, nle_f, nlt_t, nlt_f, neq_t, neq_f, n_inb, n_ix, bnd_some, if_true, if_false, ite_tt, ite_ff, not_true_eq_false, not_false_eq_true, eq_self, false_or, or_false, true_or, or_true]
    rw [st]
    rcases first_or (p := fun l => !decide (wnt (gT A) (gS A) w l ≤ oth (gT A) (gS A) w l)) 10 with hall | ⟨i, hi, hp, hj⟩
    · have hall : ∀ l, l < 10 → decide (wnt (gT A) (gS A) w l ≤ oth (gT A) (gS A) w l) = true := fun l hl => by
        have := hall l hl
        simpa using this
      rw [allN_iff.mpr hall, if_neg (show ¬ (true = false) by simp)]
      have qr : Eqm [80] [17] s0 (up s0 67 17 (nI 0)) := Eqm.rf.pf (by simp)
      obtain ⟨s4, e4, w4, q4⟩ := m_helpsA (d := d) (M := []) (w := w) (v := nI (sm (wnt (gT A) (gS A) w) 10)) ha.1 ha.2.1 (MT_q h0.1 qr (by decide) (by decide)) (MSt_q h0.2.1 qr (by decide) (by decide)) hw2 MW_nil 10 (Nat.le_refl _)
      rw [helps_row ha.1 ha.2.1 (by omega), helps_sum ha.1 ha.2.1 (by omega)]
      refine ⟨s4, ?_, MJ_row h0 (qr.tr q4) (by decide) (by decide) w4, g0.tr ((qr.tr q4).g (by decide))⟩
      rw [m_helps1 ha.1 ha.2.1 h0.1 h0.2.1 hw2 10 (Nat.le_refl _) hall, E290_30]
      simp (disch := omega) only [lit, nI_add, pk_mul, n_sub, n_addneg, nle_t, nle_f, nlt_t, nlt_f, neq_t, neq_f, n_inb, n_ix, bnd_some, if_true, if_false, ite_tt, ite_ff, not_true_eq_false, not_false_eq_true, eq_self, false_or, or_false, true_or, or_true]
      rw [e4, E290_140]
      simp (disch := omega) only [lit, nI_add, pk_mul, n_sub, n_addneg, nle_t, nle_f, nlt_t, nlt_f, neq_t, neq_f, n_inb, n_ix, bnd_some, if_true, if_false, ite_tt, ite_ff, not_true_eq_false, not_false_eq_true, eq_self, false_or, or_false, true_or, or_true]
    · have hp : decide (wnt (gT A) (gS A) w i ≤ oth (gT A) (gS A) w i) = false := by simpa using hp
      have hj : ∀ l, l < i → decide (wnt (gT A) (gS A) w l ≤ oth (gT A) (gS A) w l) = true := fun l hl => by
        have := hj l hl
        simpa using this
      rw [allN_f hi hp, if_pos rfl]
      refine ⟨s0, ?_, h0, g0⟩
      have hgt := of_decide_eq_false hp
      obtain ⟨e2, e3⟩ := m_wants (d := d + 1 + 1) ha.1 ha.2.1 h0.1 h0.2.1 hw2 hi
      have b1 := wnt_le (w := w) (l := i) ha.1 ha.2.1
      rw [m_helps1 ha.1 ha.2.1 h0.1 h0.2.1 hw2 i (by omega) hj, E290_30]
      simp (disch := omega) only [lit, nI_add, pk_mul, n_sub, n_addneg, nle_t, nle_f, nlt_t, nlt_f, neq_t, neq_f, n_inb, n_ix, bnd_some, if_true, if_false, ite_tt, ite_ff, not_true_eq_false, not_false_eq_true, eq_self, false_or, or_false, true_or, or_true]
      rw [m_oth ha.1 ha.2.1 h0.1 h0.2.1 hw2 hi, E290_42, h0.1.2.1]
      simp (disch := omega) only [e2, e3, lit, nI_add, pk_mul, n_sub, n_addneg, nle_t, nle_f, nlt_t, nlt_f, neq_t, neq_f, n_inb, n_ix, bnd_some, if_true, if_false, ite_tt, ite_ff, not_true_eq_false, not_false_eq_true, eq_self, false_or, or_false, true_or, or_true]
end MSG
