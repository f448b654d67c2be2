/-! THE MODEL: a rule is told -/
section MRY
variable {d E p c m f a i v k w x l B B' n dp L : Nat} {s s' s1 : mS} {X : aX} {T : aT} {S : aS} {A : aA} {P F : List Nat} {t u0 : Int32} {φ : aR}
theorem by_by : ∀ q, q < 256 → vp_nar .byte (bB q) = bB q := by decide +kernel
theorem m_rule71 (h1 : ∀ i, i < X.1 → s 79 i = bB (X.2 i)) (h2 : ∀ i, X.2 i < 256) (h3 : X.1 ≤ 40) : ∃ s', ev (d + 1) 252 71 [.inr 67, .inl (nI X.1), .inr 0] [] s = some (0, nI 0, s') ∧ s' 67 27 = nI X.1 ∧ (∀ i, i < X.1 → s' 83 i = bB (X.2 i)) ∧ Eqm [83] [27] s s' := by
  have key : ∀ n, n ≤ X.1 → ∃ s', ev (d + 1) 252 73 [.inr 67, .inl (nI X.1), .inl (nI 0)] [] s = ev (d + 1) 252 73 [.inr 67, .inl (nI X.1), .inl (nI n)] [] s' ∧ (∀ i, i < n → s' 83 i = bB (X.2 i)) ∧ Eqm [83] [] s s' := by
    intro n
    induction n with
    | zero => intro _; exact ⟨s, rfl, fun i hi => absurd hi (Nat.not_lt_zero _), Eqm.rf⟩
    | succ n ih =>
      intro hn
      obtain ⟨s1, e1, r1, q1⟩ := ih (by omega)
      have g : s1 79 n = bB (X.2 n) := by rw [q1.1 _ (by decide) (by decide)]; exact h1 n (by omega)
      refine ⟨up s1 83 n (bB (X.2 n)), ?_, fun i hi => ?_, q1.pu (by simp) (by decide)⟩
      · rw [e1, E252_73]
        simp (disch := omega) only [g, by_by _ (h2 n), lit, nI_add, pk_mul, n_sub, n_addneg, nle_t, nle_f, nlt_t, nlt_f, neq_t, neq_f, n_inb, n_ix, bnd_some, if_true, if_false, ite_tt, ite_ff, not_true_eq_false, not_false_eq_true, eq_self, false_or, or_false, true_or, or_true]
      · by_cases z : i = n
        · subst z; rw [up_in]
        · rw [up_out z]; exact r1 i (by omega)
  obtain ⟨s1, e1, r1, q1⟩ := key _ (Nat.le_refl _)
  refine ⟨up s1 67 27 (nI X.1), ?_, up_in, fun i hi => by rw [up_ne (by decide)]; exact r1 i hi, (q1.mono (by simp) (by simp)).pf (by simp)⟩
  rw [E252_71]
  simp only [lit]
  rw [e1, E252_73]
  simp (disch := omega) only [lit, nI_add, pk_mul, n_sub, n_addneg, nle_t, nle_f, nlt_t, nlt_f, neq_t, neq_f, n_inb, n_ix, bnd_some, if_true, if_false, ite_tt, ite_ff, not_true_eq_false, not_false_eq_true, eq_self, false_or, or_false, true_or, or_true]
/-- the text is done with, the rule as it was -/
theorem MJ_x0 (h : MJ A B s) (q : Eqm [] [15, 19, 20, 21, 22, 23, 28] s s') (h15 : s' 67 15 = nI 0) : MJ (wX A (x0 A)) B s' := by
  obtain ⟨h1, h2, h3, h4, h5, h6, h7, h8⟩ := h
  exact ⟨MT_q h1 q (by decide) (by decide), MSt_q h2 q (by decide) (by decide), ⟨h15, fun i hi => absurd hi (Nat.not_lt_zero _)⟩, MW_q h4 q (by decide) (by decide), MRl_q h5 q (by decide) (by decide), MU_q h6 q (by decide) (by decide), MK_q h7 q (by decide) (by decide), MN_q h8 q (by decide) (by decide)⟩
theorem MJ_rul (h : MJ A B s) (q : Eqm [] [15, 19, 20, 21, 22, 23, 28] s s1) (q2 : Eqm [83] [27] s1 s') (h15 : s1 67 15 = nI 0) (h27 : s' 67 27 = nI (gX A).1) (hb : ∀ i, i < (gX A).1 → s' 83 i = bB ((gX A).2 i)) (h256 : ∀ i, (gX A).2 i < 256) (h40 : (gX A).1 ≤ 40) (hr : rul (gX A) = .inr φ) : MJ (wX (wR A φ) (x0 A)) B s' := by
  obtain ⟨h1, h2, h3, h4, h5, h6, h7, h8⟩ := h
  have q3 : Eqm [83] [15, 19, 20, 21, 22, 23, 28, 27] s s' := (q.mono (by simp) (by decide)).tr (q2.mono (by simp) (by decide))
  refine ⟨MT_q h1 q3 (by decide) (by decide), MSt_q h2 q3 (by decide) (by decide), ⟨by rw [q2.2 _ (by decide)]; exact h15, fun i hi => absurd hi (Nat.not_lt_zero _)⟩, MW_q h4 q3 (by decide) (by decide), ⟨by rw [q3.2 _ (by decide)]; exact h5.1, gX A, h27, hb, h256, h40, hr⟩, MU_q h6 q3 (by decide) (by decide), MK_q h7 q3 (by decide) (by decide), MN_q h8 q3 (by decide) (by decide)⟩
theorem Y_rule (ha : AOk A B) (h : MJ A B' s) : ∃ s', ev (d + 44 * 5 + 2 + 1) 252 0 [.inr 67, .inr 0, .inr 0] [] s = some (0, (o_rule A).2, s') ∧ MJ (o_rule A).1 B' s' ∧ gM s s' := by
  obtain ⟨h0, g0⟩ := m_th h
  obtain ⟨s0, hs0⟩ : ∃ s0, s0 = up s 67 18 (nI 0) := ⟨_, rfl⟩
  rw [← hs0] at h0 g0
  have hx1 := h0.2.2.1.1
  have hx2 := h0.2.2.1.2
  have b80 := ha.2.2.2.2.2.1
  have b256 := ha.2.2.2.2.2.2.1
  obtain ⟨s1, hs1⟩ : ∃ s1, s1 = up (up (up (up (up (up (up s0 67 19 (nI 79)) 67 20 (nI (gX A).1)) 67 21 40) 67 22 0) 67 23 (-1)) 67 15 0) 67 28 (-1) := ⟨_, rfl⟩
  have q1 : Eqm [] [15, 19, 20, 21, 22, 23, 28] s0 s1 := by rw [hs1]; exact ((((((Eqm.rf.pf (by simp)).pf (by simp)).pf (by simp)).pf (by simp)).pf (by simp)).pf (by simp)).pf (by simp)
  have f15 : s1 67 15 = nI 0 := by rw [hs1, up_out (by decide), up_in]; rfl
  have f19 : s1 67 19 = nI 79 := by rw [hs1, up_out (by decide), up_out (by decide), up_out (by decide), up_out (by decide), up_out (by decide), up_out (by decide), up_in]
  have f20 : s1 67 20 = nI (gX A).1 := by rw [hs1, up_out (by decide), up_out (by decide), up_out (by decide), up_out (by decide), up_out (by decide), up_in]
  have f21 : s1 67 21 = nI 40 := by rw [hs1, up_out (by decide), up_out (by decide), up_out (by decide), up_out (by decide), up_in]; rfl
  have f22 : s1 67 22 = nI 0 := by rw [hs1, up_out (by decide), up_out (by decide), up_out (by decide), up_in]; rfl
  have f23 : s1 67 23 = wI none := by rw [hs1, up_out (by decide), up_out (by decide), up_in]; rfl
  have f28 : s1 67 28 = -nI 1 := by rw [hs1, up_in]; rfl
  have bt : ∀ i, i < (gX A).1 → s1 79 i = bB ((gX A).2 i) := fun i hi => by rw [q1.1 _ (by simp) (by decide)]; exact hx2 i hi
  have st : ev (d + 44 * 5 + 2 + 1) 252 0 [.inr 67, .inr 0, .inr 0] [] s = (if nI (gX A).1 ≤ 0 then ev (d + 44 * 5 + 2 + 1) 252 71 [.inr 67, .inl (nI (gX A).1), .inr 0] [] s1 else bnd (ev (d + 44 * 5 + 2) 247 0 [.inr 67, .inl 0, .inr 0] [] s1) (fun _ s2 => (if nI (gX A).1 ≤ (s2 67 22) then ev (d + 44 * 5 + 2 + 1) 252 57 [.inr 67, .inl (nI (gX A).1), .inr 0] [] s2 else bnd (ev (d + 44 * 5 + 2) 240 0 [.inr 67, .inl (s2 67 22)] [] s2) (fun _ s3 => ev (d + 44 * 5 + 2 + 1) 252 57 [.inr 67, .inl (nI (gX A).1), .inr 0] [] s3)))) := by
    rw [E252_0, show up s 67 18 0 = s0 from hs0.symm, hx1, E237_0 (Or.inl rfl), bnd_some, ← hs1]
  unfold o_rule rul
  by_cases hz : (gX A).1 = 0
  · have hr : rul (gX A) = .inr (fun e => e (nI 119)) := if_pos hz
    rw [if_pos hz]
    obtain ⟨s2, e2, r1, r2, q2⟩ := m_rule71 (d := d + 44 * 5 + 2) (X := gX A) bt b256 (by omega)
    refine ⟨s2, ?_, MJ_rul h0 q1 q2 f15 r1 r2 b256 (by omega) hr, g0.tr ((q1.g (by decide)).tr (q2.g (by decide)))⟩
    rw [st, if_pos (show nI (gX A).1 ≤ 0 by rw [hz]; decide +kernel)]
    exact e2
  · rw [if_neg hz]
    have npos : ¬ nI (gX A).1 ≤ 0 := (show ¬ nI (gX A).1 ≤ nI 0 from nI_ge (by omega) (by omega))
    rw [if_neg npos] at st
    have hsz : min (gX A).1 40 ≤ (mSh 79).2 := by show _ ≤ 80; omega
    have hm : RME none (gT A) (gS A) B (gX A) (min (gX A).1 40) 79 s1 := ⟨ha.1, ha.2.1, ⟨Or.inl rfl, f19, ⟨(gX A).1, 40, f20, f21, rfl, by omega, by omega⟩, hsz, fun i hi => bt i (by omega), b256⟩, MT_q h0.1 q1 (by decide) (by decide), MSt_q h0.2.1 q1 (by decide) (by decide), by omega, f28⟩
    have g := RM_pE hm 4 (Nat.le_refl _) d 0 (Nat.zero_le _)
    have es := mcu_self f22 f23
    have hrul : rul (gX A) = match pE (gX A) (min (gX A).1 40) 4 0 with
      | .inl f => .inl f
      | .inr (p, φ) => if p < (gX A).1 then .inl p else .inr φ := if_neg hz
    have q15 : ∀ q w, mcu s1 q w 67 15 = nI 0 := fun q w => (mcu_f (by decide) (by decide)).trans f15
    have qq : ∀ q w, Eqm [] [15, 19, 20, 21, 22, 23, 28] s0 (mcu s1 q w) := fun q w => q1.tr (mcu_q.mono (by simp) (by simp))
    have bad : ∀ f, f ≤ 1000 → ∀ q, ev (d + 44 * 5 + 2 + 1) 252 57 [.inr 67, .inl (nI (gX A).1), .inr 0] [] (mcu s1 q (some f)) = some (0, -nI (f + 1), mcu s1 q (some f)) := fun f hf q => by
      have e : (-1 : Int32) - wI (some f) = -nI (f + 1) := by
        show -nI 1 - nI (min f 1000) = -nI (f + 1)
        rw [Nat.min_eq_left hf, Nat.add_comm f 1, ← nI_add, Int32.neg_add, Int32.sub_eq_add_neg]
      rw [E252_57, m_fine, bnd_some, decide_eq_false (by simp), if_neg (show ¬ ¬ bI false = 0 from not_not_intro rfl), mcu_23, e]
    revert hrul g
    cases pE (gX A) (min (gX A).1 40) 4 0 with
    | inl f =>
      intro g hrul
      obtain ⟨hf, v, q, hq, e⟩ := g
      rw [es] at e
      have e : ev (d + 44 * 5 + 2) 247 0 [.inr 67, .inl 0, .inr 0] [] s1 = some (0, v, mcu s1 q (some f)) := e
      refine ⟨mcu s1 q (some f), ?_, MJ_x0 h0 (qq q (some f)) (q15 q (some f)), g0.tr ((qq q (some f)).g (by decide))⟩
      rw [st, e, bnd_some, mcu_22]
      by_cases hc : nI (gX A).1 ≤ nI q
      · rw [if_pos hc]; exact bad f (by omega) q
      · have ef : ev (d + 44 * 5 + 2) 240 0 [.inr 67, .inl (nI q)] [] (mcu s1 q (some f)) = some (0, nI 0, mcu s1 q (some f)) := m_fault (d := d + 44 * 5 + 1) (by omega)
        rw [if_neg hc, ef, bnd_some]; exact bad f (by omega) q
    | inr z =>
      obtain ⟨q, ψ⟩ := z
      intro g hrul
      dsimp only at g hrul ⊢
      obtain ⟨-, hq, v, e, -⟩ := g
      rw [es] at e
      have e : ev (d + 44 * 5 + 2) 247 0 [.inr 67, .inl 0, .inr 0] [] s1 = some (0, v, mcu s1 q none) := e
      by_cases hlt : q < (gX A).1
      · rw [if_pos hlt]
        refine ⟨mcu s1 q (some q), ?_, MJ_x0 h0 (qq q (some q)) (q15 q (some q)), g0.tr ((qq q (some q)).g (by decide))⟩
        have ef : ev (d + 44 * 5 + 2) 240 0 [.inr 67, .inl (nI q)] [] (mcu s1 q none) = some (0, nI 0, mcu s1 q (some q)) := m_fault (d := d + 44 * 5 + 1) (by omega)
        rw [st, e, bnd_some, mcu_22, if_neg (nI_ge hlt (by omega)), ef, bnd_some]
        exact bad q (by omega) q
      · rw [if_neg hlt] at hrul
        rw [if_neg hlt]
        have btc : ∀ i, i < (gX A).1 → mcu s1 q none 79 i = bB ((gX A).2 i) := fun i hi => by rw [mcu_ne (by decide)]; exact bt i hi
        obtain ⟨s2, e2, r1, r2, q2⟩ := m_rule71 (d := d + 44 * 5 + 2) (X := gX A) btc b256 (by omega)
        refine ⟨s2, ?_, MJ_rul h0 (qq q none) q2 (q15 q none) r1 r2 b256 (by omega) hrul, g0.tr (((qq q none).g (by decide)).tr (q2.g (by decide)))⟩
        rw [st, e, bnd_some, mcu_22, if_pos (nI_le (by omega) (by omega)), E252_57, m_fine, bnd_some, decide_eq_true rfl, if_pos (show ¬ bI true = 0 by decide +kernel)]
        exact e2
end MRY
