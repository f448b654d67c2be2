/-! THE MODEL: nearest, shortest, wall -/
section MSA
variable {d B B' w l x y n own : Nat} {s s' : mS} {T : aT} {S : aS} {A : aA} {p q : Int32}
theorem Y_other {b : Bool} (ha : AOk A B) (h : MJ A B' s) : ∃ s', ev (d + 1 + 1) 303 0 [.inr 67, .inl p, .inl (bI (!b)), .inr 0, .inr 0, .inr 0, .inr 0] [] s = some (0, (o_other A p b).2, s') ∧ MJ (o_other A p b).1 B' s' ∧ gM s s' := by
  have hN := ha.1.2.1
  have hW := ha.1.1
  have ew := m_isWall (d := d) (p := p) h.1 hN
  unfold o_other
  by_cases hw : inN p (tN (gT A)) = false
  · rw [if_pos hw]
    rw [hw] at ew
    refine ⟨s, ?_, h, fun _ _ => rfl⟩
    rw [E303_0, ew]
    simp (disch := omega) only [bIf0, lit, nI_add, pk_mul, n_sub, n_addneg, nle_t, nle_f, nlt_t, nlt_f, neq_t, neq_f, n_inb, n_ix, bnd_some, if_true, if_false, ite_tt, ite_ff, not_true_eq_false, not_false_eq_true, eq_self, false_or, or_false, true_or, or_true]
  have hw' : inN p (tN (gT A)) = true := by simpa using hw
  rw [if_neg hw]
  rw [hw'] at ew
  obtain ⟨w, hw2, rfl⟩ := inN_t (by omega) hw'
  rw [n_ix (by omega)]
  have e0 := (h.2.1.1 w hw2).1
  cases hn : sH (gS A) w with
  | none =>
    rw [hn, oc_none] at e0
    refine ⟨s, ?_, h, fun _ _ => rfl⟩
    rw [E303_0, ew]
    simp (disch := omega) only [bIt0, e0, lit, nI_add, pk_mul, n_sub, n_addneg, nle_t, nle_f, nlt_t, nlt_f, neq_t, neq_f, n_inb, n_ix, bnd_some, if_true, if_false, ite_tt, ite_ff, not_true_eq_false, not_false_eq_true, eq_self, false_or, or_false, true_or, or_true]
  | some own =>
    rw [hn, oc_some] at e0
    have hown := (wOk_s (ha.2.1.1 w) hn).2.1
    have e2 := m_other (d := d + 1) (b := b) ha.1 h.1 ha.2.1 h.2.1 hw2 hn (tW (gT A)) (Nat.le_refl _)
    have st : ev (d + 1 + 1) 303 0 [.inr 67, .inl (nI w), .inl (bI (!b)), .inr 0, .inr 0, .inr 0, .inr 0] [] s = ev (d + 1 + 1) 303 31 [.inr 67, .inl (nI w), .inl (bI (!b)), .inl (-nI 1), .inl (nI 0), .inl (nI 0), .inr 0] [] s := by
      rw [E303_0, ew]
      simp (disch := omega) only [bIt0, e0, nneg_f, lit, nI_add, pk_mul, n_sub, n_addneg, nle_t, nle_f, nlt_t, nlt_f, neq_t, neq_f, n_inb, n_ix, bnd_some, if_true, if_false, ite_tt, ite_ff, not_true_eq_false, not_false_eq_true, eq_self, false_or, or_false, true_or, or_true]
    rw [st, e2, E303_31, h.1.1]
    have hlt := fun x m => otN_lt (p := othP (gT A) (gS A) w own) (c := othC (gT A) b own) (n := tW (gT A)) (x := x) (m := m)
    dsimp only
    generalize otN (othP (gT A) (gS A) w own) (othC (gT A) b own) (tW (gT A)) = r at hlt ⊢
    cases r with
    | none =>
      refine ⟨s, ?_, h, fun _ _ => rfl⟩
      dsimp only [otM, otL]
      simp (disch := omega) only [lit, nI_add, pk_mul, n_sub, n_addneg, nle_t, nle_f, nlt_t, nlt_f, neq_t, neq_f, n_inb, n_ix, bnd_some, if_true, if_false, ite_tt, ite_ff, not_true_eq_false, not_false_eq_true, eq_self, false_or, or_false, true_or, or_true]
    | some q =>
      obtain ⟨x, m⟩ := q
      have hx := (hlt x m rfl).1
      obtain ⟨s1, r1, q1, w1⟩ := m_tell1 (d := d + 1) (s := s) (p := nI m)
      refine ⟨s1, ?_, MJ_row h q1 (by decide) (by decide) w1, q1.g (by decide)⟩
      dsimp only [otM, otL]
      simp (disch := omega) only [r1, nneg_f, lit, nI_add, pk_mul, n_sub, n_addneg, nle_t, nle_f, nlt_t, nlt_f, neq_t, neq_f, n_inb, n_ix, bnd_some, if_true, if_false, ite_tt, ite_ff, not_true_eq_false, not_false_eq_true, eq_self, false_or, or_false, true_or, or_true]
theorem Y_nearest (ha : AOk A B) (h : MJ A B' s) : ∃ s', ev (d + 1 + 1 + 1) 304 0 [.inr 67, .inl p] [] s = some (0, (o_other A p true).2, s') ∧ MJ (o_other A p true).1 B' s' ∧ gM s s' := by
  obtain ⟨h0, g0⟩ := m_th h
  obtain ⟨s', e, r, g⟩ := Y_other (d := d) (p := p) (b := true) ha h0
  refine ⟨s', ?_, r, g0.tr g⟩
  have e : ev (d + 1 + 1) 303 0 [.inr 67, .inl p, .inl 0, .inr 0, .inr 0, .inr 0, .inr 0] [] (up s 67 18 0) = some (0, (o_other A p true).2, s') := e
  rw [E304_0, e, bnd_some]
theorem Y_shortest (ha : AOk A B) (h : MJ A B' s) : ∃ s', ev (d + 1 + 1 + 1) 305 0 [.inr 67, .inl p] [] s = some (0, (o_other A p false).2, s') ∧ MJ (o_other A p false).1 B' s' ∧ gM s s' := by
  obtain ⟨h0, g0⟩ := m_th h
  obtain ⟨s', e, r, g⟩ := Y_other (d := d) (p := p) (b := false) ha h0
  refine ⟨s', ?_, r, g0.tr g⟩
  have e : ev (d + 1 + 1) 303 0 [.inr 67, .inl p, .inl 1, .inr 0, .inr 0, .inr 0, .inr 0] [] (up s 67 18 0) = some (0, (o_other A p false).2, s') := e
  rw [E305_0, e, bnd_some]
theorem Y_wall (ha : AOk A B) (h : MJ A B' s) : ∃ s', (match o_wall A p q with
    | some v => ev (d + 44 * 5 + 2 + 1 + 1) 263 0 [.inr 67, .inl p, .inl q] [] s = some (0, v, s') ∧ s' 67 18 = nI 0
    | none => ev (d + 44 * 5 + 2 + 1 + 1) 263 0 [.inr 67, .inl p, .inl q] [] s = some (0, nI 0, s') ∧ s' 67 18 = nI 1) ∧ MJ A B' s' ∧ gM s s' := by
  obtain ⟨h0, g0⟩ := m_th h
  obtain ⟨s0, hs0⟩ : ∃ s0, s0 = up s 67 18 (nI 0) := ⟨_, rfl⟩
  rw [← hs0] at h0 g0
  have h18 : s0 67 18 = nI 0 := by rw [hs0, up_in]
  have hN := ha.1.2.1
  have ew : ev (d + 44 * 5 + 2 + 1) 232 0 [.inr 67, .inl p] [] s0 = some (0, bI (inN p (tN (gT A))), s0) := m_isWall h0.1 hN
  have er : ev (d + 44 * 5 + 2 + 1) 228 0 [.inl q, .inl 0, .inl 8] [] s0 = some (0, bI (inN q 9), s0) := m_inB (n := 8) (by omega)
  have q1 : Eqm [] [18] s0 (up s0 67 18 (nI 1)) := Eqm.rf.pf (by simp)
  have lost : ev (d + 44 * 5 + 2 + 1 + 1) 263 23 [.inr 67, .inr 0, .inr 0] [] s0 = some (0, nI 0, up s0 67 18 (nI 1)) := by
    rw [E263_23, E230_0]
    rfl
  have bt : ¬ bI true = 0 := by decide +kernel
  rw [E263_0, show up s 67 18 0 = s0 from hs0.symm, ew, bnd_some]
  unfold o_wall
  by_cases hw : inN p (tN (gT A)) = false
  · rw [if_pos hw, hw, if_pos (show bI false = 0 from rfl), lost]
    exact ⟨_, And.intro rfl up_in, MJ_q h0 q1 (by decide) (by decide), g0.tr (q1.g (by decide))⟩
  have hw' : inN p (tN (gT A)) = true := by simpa using hw
  rw [if_neg hw, hw', if_neg bt, er, bnd_some]
  have all9 : ∀ k, k < 9 → inN (nI k) 9 = true := by decide +kernel
  by_cases hq : inN q 9 = false
  · have ne : ∀ k, k < 9 → ¬ q = nI k := fun k hk z => by rw [z, all9 k hk] at hq; cases hq
    rw [if_neg (ne 0 (by omega)), if_neg (ne 1 (by omega)), if_neg (ne 2 (by omega)), if_neg (ne 3 (by omega)), if_neg (ne 4 (by omega)), if_neg (ne 5 (by omega)), if_neg (ne 6 (by omega)), if_neg (ne 7 (by omega)), if_neg (ne 8 (by omega)), hq, if_neg (show ¬ ¬ bI false = 0 from not_not_intro rfl), lost]
    exact ⟨_, And.intro rfl up_in, MJ_q h0 q1 (by decide) (by decide), g0.tr (q1.g (by decide))⟩
  have hq' : inN q 9 = true := by simpa using hq
  rw [hq', if_pos bt]
  obtain ⟨w, hw2, rfl⟩ := inN_t (by omega) hw'
  have hb8 : inb (nI w) 8 = true := n_inb (by omega) (by omega)
  have hx : ix (nI w) = w := n_ix (by omega)
  rw [hx]
  have t1 := h0.1.2.2.2 w hw2
  have t2 := h0.2.1.1 w hw2
  by_cases c0 : q = nI 0
  · rw [if_pos (show q = 0 from c0), if_pos c0, if_pos hb8, t1.1]
    exact ⟨s0, And.intro rfl h18, h0, g0⟩
  rw [if_neg (show ¬ q = 0 from c0), if_neg c0]
  by_cases c1 : q = nI 1
  · rw [if_pos (show q = 1 from c1), if_pos c1, if_pos hb8, t1.2]
    exact ⟨s0, And.intro rfl h18, h0, g0⟩
  rw [if_neg (show ¬ q = 1 from c1), if_neg c1]
  by_cases c2 : q = nI 2
  · rw [if_pos (show q = 2 from c2), if_pos c2, if_pos hb8, t2.1]
    exact ⟨s0, And.intro rfl h18, h0, g0⟩
  rw [if_neg (show ¬ q = 2 from c2), if_neg c2]
  by_cases c3 : q = nI 3
  · rw [if_pos (show q = 3 from c3), if_pos c3, m_hangsOn hN h0.2.1 hw2]
    exact ⟨s0, And.intro rfl h18, h0, g0⟩
  rw [if_neg (show ¬ q = 3 from c3), if_neg c3]
  by_cases c4 : q = nI 4
  · have r4 : ev (d + 44 * 5 + 2 + 1) 256 0 [.inr 67, .inl (nI w)] [] s0 = some (0, nI (mis (gT A) (gS A) w), s0) := m_lacking ha.1 ha.2.1 h0.1 h0.2.1 hw2
    rw [if_pos (show q = 4 from c4), if_pos c4, r4]
    exact ⟨s0, And.intro rfl h18, h0, g0⟩
  rw [if_neg (show ¬ q = 4 from c4), if_neg c4]
  by_cases c5 : q = nI 5
  · have r5 : ev (d + 44 * 5 + 2 + 1) 257 0 [.inr 67, .inl (nI w)] [] s0 = some (0, bI (isU (gT A) (gS A) w), s0) := m_isUp (d := d + 44 * 5 + 1) ha.1 ha.2.1 h0.1 h0.2.1 hw2
    rw [if_pos (show q = 5 from c5), if_pos c5, r5, bnd_some, E263_122, E263_122]
    refine ⟨s0, And.intro ?_ h18, h0, g0⟩
    cases isU (gT A) (gS A) w <;> rfl
  rw [if_neg (show ¬ q = 5 from c5), if_neg c5]
  by_cases c6 : q = nI 6
  · rw [if_pos (show q = 6 from c6), if_pos c6, if_pos hb8, t2.2.1]
    exact ⟨s0, And.intro rfl h18, h0, g0⟩
  rw [if_neg (show ¬ q = 6 from c6), if_neg c6]
  by_cases c7 : q = nI 7
  · rw [if_pos (show q = 7 from c7), if_pos c7, if_pos hb8, t2.2.2.1]
    exact ⟨s0, And.intro rfl h18, h0, g0⟩
  rw [if_neg (show ¬ q = 7 from c7), if_neg c7]
  have c8 : q = nI 8 := by
    obtain ⟨j, hj, rfl⟩ := inN_t (by omega) hq'
    have : j = 8 := by
      rcases Nat.lt_or_ge j 8 with hlt | hge
      · exfalso
        have : j = 0 ∨ j = 1 ∨ j = 2 ∨ j = 3 ∨ j = 4 ∨ j = 5 ∨ j = 6 ∨ j = 7 := by omega
        rcases this with rfl | rfl | rfl | rfl | rfl | rfl | rfl | rfl
        · exact c0 rfl
        · exact c1 rfl
        · exact c2 rfl
        · exact c3 rfl
        · exact c4 rfl
        · exact c5 rfl
        · exact c6 rfl
        · exact c7 rfl
      · omega
    rw [this]
  rw [if_pos c8, if_pos hb8, t2.1]
  unfold isW
  cases hn : sH (gS A) w with
  | none =>
    rw [if_neg (show ¬ (none : Option Nat).isSome = true by simp), if_neg (show ¬ ¬ oc none = -1 from not_not_intro rfl), E263_156]
    exact ⟨s0, And.intro rfl h18, h0, g0⟩
  | some x =>
    have hW := ha.1.1
    have hx2 := (wOk_s (ha.2.1.1 w) hn).2.1
    obtain ⟨s1, e1, q2⟩ := m_ruleFor (d := d) ha.1 ha.2.1 h0.1 h0.2.1 h0.2.2.2.2.1 hw2 hn
    rw [if_pos (show (some x).isSome = true from rfl), if_pos (show ¬ oc (some x) = -1 from oc_ne.resolve_right (by omega)), e1, bnd_some, E263_156]
    exact ⟨s1, And.intro rfl (by rw [q2.2 _ (by decide)]; exact h18), MJ_q h0 q2 (by decide) (by decide), g0.tr (q2.g (by decide))⟩
end MSA
