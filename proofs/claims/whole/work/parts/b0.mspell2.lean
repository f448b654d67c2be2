/-! THE MODEL: spell, the call -/
section MTY
variable {d E p f v B B' n i j l m : Nat} {s s' s1 s2 sX : mS} {X : aX} {A : aA} {S : aS}
theorem hd_in (h : p < E) : hd X E p = X.2 p := if_pos h
theorem Y_spell (ha : AOk A B) (h : MJ A B' s) : ∃ s', ev (d + 1 + 1) 309 0 [.inr 67, .inr 0, .inr 0] [] s = some (0, (o_spell A).2, s') ∧ MJ (o_spell A).1 B' s' ∧ gM s s' := by
  obtain ⟨h0, g0⟩ := m_th h
  obtain ⟨s0, hs0⟩ : ∃ s0, s0 = up s 67 18 (nI 0) := ⟨_, rfl⟩
  rw [← hs0] at h0 g0
  have hx1 := h0.2.2.1.1
  have hx2 := h0.2.2.1.2
  have b80 := ha.2.2.2.2.2.1
  have b256 := ha.2.2.2.2.2.2.1
  obtain ⟨s1, hs1⟩ : ∃ s1, s1 = up s0 67 15 (nI 0) := ⟨_, rfl⟩
  have q1 : Eqm [] [15] s0 s1 := by rw [hs1]; exact Eqm.rf.pf (by simp)
  have f15 : s1 67 15 = nI 0 := by rw [hs1, up_in]
  have hx : ∀ i, i < (gX A).1 → s1 79 i = bB ((gX A).2 i) := fun i hi => by rw [q1.1 _ (by decide) (by decide)]; exact hx2 i hi
  have j1 := MJ_x0 h0 (q1.mono (by decide) (by decide)) f15
  have g1 := q1.g (by decide)
  obtain ⟨m1, m2, m3⟩ := lts_le (X := gX A) (E := min (gX A).1 76) (m := 76) (p := 0) (Nat.zero_le _)
  have m4 := lts_st (X := gX A) (E := min (gX A).1 76) 76 0
  have st : ev (d + 1 + 1) 309 0 [.inr 67, .inr 0, .inr 0] [] s = ev (d + 1 + 1) 309 17 [.inr 67, .inl (nI (gX A).1), .inl (nI 0)] [] s1 := by
    rw [E309_0, show up s 67 18 0 = s0 from hs0.symm, hx1]
    simp only [lit]
    rw [← hs1]
  unfold o_spell
  generalize lts (gX A) (min (gX A).1 76) 76 0 = m at m1 m2 m3 m4 ⊢
  rw [Nat.zero_add] at m2 m4
  have hL : ∀ i, i < m → isL ((gX A).2 i) = true := fun i hi => by
    have := m3 i hi
    rw [Nat.zero_add, hd_in (by omega)] at this
    exact this
  have il : ∀ i, i < (gX A).1 → ev (d + 1) 234 0 [.inl (s1 79 i - nI 97)] [] s1 = some (0, bI (isL ((gX A).2 i)), s1) := fun i hi => by
    rw [m_isLetter, hx i hi, sp_L _ (b256 i)]
  have key : ∀ k, k ≤ m → ev (d + 1 + 1) 309 17 [.inr 67, .inl (nI (gX A).1), .inl (nI 0)] [] s1 = ev (d + 1 + 1) 309 17 [.inr 67, .inl (nI (gX A).1), .inl (nI k)] [] s1 := by
    intro k
    induction k with
    | zero => intro _; rfl
    | succ k ih =>
      intro hk
      have e1 := il k (by omega)
      rw [hL k (by omega)] at e1
      rw [ih (by omega), E309_17]
      simp (disch := omega) only [e1, bIt0, lit, nI_add, pk_mul, n_sub, n_addneg, nle_t, nle_f, nlt_t, nlt_f, neq_t, neq_f, n_inb, n_ix, bnd_some, if_true, if_false, ite_tt, ite_ff, not_true_eq_false, not_false_eq_true, eq_self, false_or, or_false, true_or, or_true]
  rw [st, key m (Nat.le_refl _)]
  by_cases hlt : m < (gX A).1
  · rw [if_pos hlt]
    refine ⟨s1, ?_, j1, g0.tr g1⟩
    have e43 : ev (d + 1 + 1) 309 43 [.inr 0, .inr 0, .inl (nI m)] [] s1 = some (0, -nI (m + 1), s1) := by
      have e : (-1 : Int32) - nI m = -nI (m + 1) := by
        show -nI 1 - nI m = -nI (m + 1)
        rw [Nat.add_comm m 1, ← nI_add, Int32.neg_add, Int32.sub_eq_add_neg]
      rw [E309_43, e]
    rw [E309_17]
    by_cases h76 : m = 76
    · subst h76
      simp (disch := omega) only [e43, lit, nI_add, pk_mul, n_sub, n_addneg, nle_t, nle_f, nlt_t, nlt_f, neq_t, neq_f, n_inb, n_ix, bnd_some, if_true, if_false, ite_tt, ite_ff, not_true_eq_false, not_false_eq_true, eq_self, false_or, or_false, true_or, or_true]
    · have hno : isL ((gX A).2 m) = false := by
        rcases m4 with z | z
        · exact absurd z.symm h76
        · rw [hd_in (by omega)] at z
          exact z
      have e1 := il m hlt
      rw [hno] at e1
      simp (disch := omega) only [e1, bIf0, e43, lit, nI_add, pk_mul, n_sub, n_addneg, nle_t, nle_f, nlt_t, nlt_f, neq_t, neq_f, n_inb, n_ix, bnd_some, if_true, if_false, ite_tt, ite_ff, not_true_eq_false, not_false_eq_true, eq_self, false_or, or_false, true_or, or_true]
  · have hmn : m = (gX A).1 := by omega
    subst hmn
    rw [if_neg hlt]
    have k2 : ∀ k, k ≤ 10 → ∃ s', ev (d + 1 + 1) 309 55 [.inr 67, .inl (nI (gX A).1), .inl (nI 0)] [] s1 = ev (d + 1 + 1) 309 55 [.inr 67, .inl (nI (gX A).1), .inl (nI k)] [] s' ∧ (∀ l, l < k → s' 90 l = nI (sL (gS A) l)) ∧ Eqm [90] [] s1 s' := by
      intro k
      induction k with
      | zero => intro _; exact ⟨s1, rfl, fun l hl => absurd hl (Nat.not_lt_zero _), Eqm.rf⟩
      | succ k ih =>
        intro hk
        obtain ⟨s2, e2, r2, q2⟩ := ih (by omega)
        have c1 : s2 68 k = nI (sL (gS A) k) := by rw [q2.1 _ (by decide) (by decide)]; exact j1.2.1.2.1 k (by omega)
        refine ⟨up s2 90 k (nI (sL (gS A) k)), ?_, fun l hl => ?_, q2.pu (by simp) (by decide)⟩
        · rw [e2, E309_55]
          simp (disch := omega) only [c1, lit, nI_add, pk_mul, n_sub, n_addneg, nle_t, nle_f, nlt_t, nlt_f, neq_t, neq_f, n_inb, n_ix, bnd_some, if_true, if_false, ite_tt, ite_ff, not_true_eq_false, not_false_eq_true, eq_self, false_or, or_false, true_or, or_true]
        · by_cases z : l = k
          · subst z; exact up_in
          · rw [up_out z]; exact r2 l (by omega)
    obtain ⟨s2, e2, r2, q2⟩ := k2 10 (Nat.le_refl _)
    have h20 : ∀ l, l < 10 → sL (gS A) l ≤ 20 := fun l hl => (hal_le ha.2.1 hl).2
    have hxs : ∀ i, i < (gX A).1 → s2 79 i = bB ((gX A).2 i) := fun i hi => by rw [q2.1 _ (by decide) (by decide)]; exact hx i hi
    have go : ev (d + 1 + 1) 309 17 [.inr 67, .inl (nI (gX A).1), .inl (nI (gX A).1)] [] s1 = ev (d + 1 + 1) 309 81 [.inr 67, .inl (nI (gX A).1), .inl (nI 0)] [] s2 := by
      rw [E309_17]
      simp (disch := omega) only [lit, nI_add, pk_mul, n_sub, n_addneg, nle_t, nle_f, nlt_t, nlt_f, neq_t, neq_f, n_inb, n_ix, bnd_some, if_true, if_false, ite_tt, ite_ff, not_true_eq_false, not_false_eq_true, eq_self, false_or, or_false, true_or, or_true]
      rw [e2, E309_55]
      simp (disch := omega) only [lit, nI_add, pk_mul, n_sub, n_addneg, nle_t, nle_f, nlt_t, nlt_f, neq_t, neq_f, n_inb, n_ix, bnd_some, if_true, if_false, ite_tt, ite_ff, not_true_eq_false, not_false_eq_true, eq_self, false_or, or_false, true_or, or_true]
    have sp := fun k hk hb => m_spell2 (d := d + 1) (s := s2) (X := gX A) (S := gS A) (n := (gX A).1) b80 hxs hL h20 r2 k hk hb
    rw [go]
    rcases first_or (p := fun i => !(spC (gS A) (gX A) (i + 1)).2) (gX A).1 with hall | ⟨i, hi, hp, hj⟩
    · have hb : (spC (gS A) (gX A) (gX A).1).2 = true := by
        by_cases hz : (gX A).1 = 0
        · rw [hz]; rfl
        · have := hall ((gX A).1 - 1) (by omega)
          rw [show (gX A).1 - 1 + 1 = (gX A).1 by omega] at this
          simpa using this
      obtain ⟨s3, e3, r3, q3⟩ := sp (gX A).1 (Nat.le_refl _) hb
      refine ⟨s3, ?_, MJ_q j1 (q2.tr q3) (by decide) (by decide), g0.tr (g1.tr ((q2.tr q3).g (by decide)))⟩
      rw [e3, E309_81, spC_ok hb]
      simp (disch := omega) only [lit, nI_add, pk_mul, n_sub, n_addneg, nle_t, nle_f, nlt_t, nlt_f, neq_t, neq_f, n_inb, n_ix, bnd_some, if_true, if_false, ite_tt, ite_ff, not_true_eq_false, not_false_eq_true, eq_self, false_or, or_false, true_or, or_true]
    · have hp : (spC (gS A) (gX A) (i + 1)).2 = false := by simpa using hp
      have hb : (spC (gS A) (gX A) i).2 = true := by
        by_cases hz : i = 0
        · rw [hz]; rfl
        · have := hj (i - 1) (by omega)
          rw [show i - 1 + 1 = i by omega] at this
          simpa using this
      obtain ⟨s3, e3, r3, q3⟩ := sp i (by omega) hb
      have hc : ¬ occ (gX A) ((gX A).2 i - 97) i < sL (gS A) ((gX A).2 i - 97) := fun z => by
        rw [spC_s] at hp
        unfold spS at hp
        rw [hb, if_pos rfl, if_pos z] at hp
        cases hp
      have e1 : spC (gS A) (gX A) (i + 1) = (i, false) := by
        rw [spC_s]
        unfold spS
        rw [hb, if_pos rfl, if_neg hc, spC_ok hb]
      have hl := of_decide_eq_true (hL i (by omega))
      obtain ⟨y, hy⟩ : ∃ y, y = (gX A).2 i - 97 := ⟨_, rfl⟩
      rw [← hy] at hc
      obtain ⟨t1, t2⟩ := r3 y (by omega)
      have c1 : s3 79 i = nI ((gX A).2 i) := by
        rw [q3.1 _ (by decide) (by decide), hxs i (by omega)]
        unfold bB
        rw [if_pos (by omega)]
      have sub : nI ((gX A).2 i) - nI 97 = nI y := by rw [hy]; exact n_sub (by omega)
      have tz : sL (gS A) y - occ (gX A) y i = 0 := by omega
      rw [tz] at t1
      refine ⟨s3, ?_, MJ_q j1 (q2.tr q3) (by decide) (by decide), g0.tr (g1.tr ((q2.tr q3).g (by decide)))⟩
      rw [e3, E309_81, spC_st hp (gX A).1 (by omega), e1]
      simp (disch := omega) only [c1, sub, t1, lit, nI_add, pk_mul, n_sub, n_addneg, nle_t, nle_f, nlt_t, nlt_f, neq_t, neq_f, n_inb, n_ix, bnd_some, if_true, if_false, ite_tt, ite_ff, not_true_eq_false, not_false_eq_true, eq_self, false_or, or_false, true_or, or_true]
end MTY
