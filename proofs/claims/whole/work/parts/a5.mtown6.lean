/-! THE MODEL: town, the call -/
section MTT
variable {d E p f a v x l B B' n : Nat} {s s' s1 s2 : mS} {X : aX} {T T' T0 : aT} {S : aS} {A : aA} {c c' : Nat → Nat} {b1 b2 b3 : Int32}
/-- a town read: what is told of it is put down -/
theorem m_town251 (ha : AOk A B) (hB : B' < 2147483000) (h : MJ A B' s) (q : Eqm tlP tfF s s1) (h15 : s1 67 15 = nI 0) (hP : MP T' c' (gS A) s1) (ht : tOk T') (he : Ext (gT A) T') : ∃ s', ev (d + 1) 245 251 [.inr 67, .inl (nI (tW T')), .inl (nI (tN T')), .inl b3, .inr 0, .inl (nI (tW (gT A))), .inr 0] [] s1 = some (0, b3, s') ∧ MJ (wX (wK (wU (wS (wT A T') (refS (gS A) c')) []) (fun _ => none)) (x0 A)) (B' + 1) s' ∧ gM s s' := by
  obtain ⟨h1, h2, h3, h4, h5, h6, h7, h8⟩ := h
  have hN := ht.2.1
  have h12 := ht.1
  have ew := he.1
  have en := he.2.1
  obtain ⟨s2, e2, r2, u2, q2⟩ := m_needs (d := d) (b2 := nI (tN T')) (b3 := b3) ht (MP_w hP) ew (tW T' - tW (gT A)) (by omega)
  rw [show tW (gT A) + (tW T' - tW (gT A)) = tW T' by omega] at e2 r2
  have c6 : s2 67 6 = nI (tN (gT A)) := by rw [q2.2 _ (by simp), q.2 _ (by decide)]; exact h1.2.1
  obtain ⟨s3, e3, r3, u3, q3⟩ := m_walls0 (d := d) (T := T') (b1 := nI (tW T')) (b3 := b3) (s := s2) hN en (tN T' - tN (gT A)) (by omega)
  rw [show tN (gT A) + (tN T' - tN (gT A)) = tN T' by omega] at e3 r3
  have q13 : Eqm [72, 75, 76, 77, 78] [] s1 s3 := (q2.mono (by decide) (by decide)).tr (q3.mono (by decide) (by decide))
  have l68 : ∀ l, l < 10 → s3 68 l = nI (sL (gS A) l) := fun l hl => by rw [q13.1 _ (by decide) (by decide), q.1 _ (by decide) (by decide)]; exact h2.2.1 l hl
  have l81 : ∀ l, l < 10 → s3 81 l = nI (c' l - stk (gS A) l) := fun l hl => by rw [q13.1 _ (by decide) (by decide)]; exact (hP.2.2 l hl).2.2
  obtain ⟨s4, e4, r4, q4⟩ := m_come (d := d) (b1 := nI (tW T')) (b2 := nI (tN T')) (b3 := b3) l68 l81 10 (Nat.le_refl _)
  have q14 : Eqm [72, 75, 76, 77, 78, 68] [] s1 s4 := (q13.mono (by decide) (by decide)).tr (q4.mono (by decide) (by decide))
  obtain ⟨s5, hs5⟩ : ∃ s5, s5 = up (up (up s4 67 1 (nI (tW T'))) 67 6 (nI (tN T'))) 67 31 (nI 0) := ⟨_, rfl⟩
  have q5 : Eqm [] [1, 6, 31] s4 s5 := by rw [hs5]; exact ((Eqm.rf.pf (by simp)).pf (by simp)).pf (by simp)
  obtain ⟨s6, hs6⟩ : ∃ s6, s6 = up s5 67 43 (s5 67 43 + nI 1) := ⟨_, rfl⟩
  have q6 : Eqm [] [43] s5 s6 := by rw [hs6]; exact Eqm.rf.pf (by simp)
  have q46 : Eqm [] [1, 6, 31, 43] s4 s6 := (q5.mono (by decide) (by decide)).tr (q6.mono (by decide) (by decide))
  have qa5 : Eqm (72 :: 75 :: 76 :: 77 :: 78 :: 68 :: tlP) ([1, 6, 31] ++ tfF) s s5 := (q.mono (by decide) (by decide)).tr ((q14.mono (by decide) (by decide)).tr (q5.mono (by decide) (by decide)))
  have qa6 : Eqm (72 :: 75 :: 76 :: 77 :: 78 :: 68 :: tlP) ([1, 6, 31, 43] ++ tfF) s s6 := (qa5.mono (by decide) (by decide)).tr (q6.mono (by decide) (by decide))
  have f1 : s6 67 1 = nI (tW T') := by rw [q6.2 _ (by decide), hs5, up_out (by decide), up_out (by decide), up_in]
  have f6 : s6 67 6 = nI (tN T') := by rw [q6.2 _ (by decide), hs5, up_out (by decide), up_in]
  have f31 : s6 67 31 = nI 0 := by rw [q6.2 _ (by decide), hs5, up_in]
  have w16 := MPw_q (MPw_q (MP_w hP) q14 (by decide)) q46 (by decide)
  have a72 : s6 72 = s2 72 := by rw [q46.1 _ (by decide) (by decide), q4.1 _ (by decide) (by decide), q3.1 _ (by decide) (by decide)]
  have a75 : s6 75 = s3 75 := by rw [q46.1 _ (by decide) (by decide), q4.1 _ (by decide) (by decide)]
  have a76 : s6 76 = s3 76 := by rw [q46.1 _ (by decide) (by decide), q4.1 _ (by decide) (by decide)]
  have a77 : s6 77 = s3 77 := by rw [q46.1 _ (by decide) (by decide), q4.1 _ (by decide) (by decide)]
  have a78 : s6 78 = s3 78 := by rw [q46.1 _ (by decide) (by decide), q4.1 _ (by decide) (by decide)]
  have b2x : ∀ k, k = 75 ∨ k = 76 ∨ k = 77 ∨ k = 78 → s2 k = s k := fun k hk => by
    rcases hk with rfl | rfl | rfl | rfl
    · rw [q2.1 _ (by decide) (by decide), q.1 _ (by decide) (by decide)]
    · rw [q2.1 _ (by decide) (by decide), q.1 _ (by decide) (by decide)]
    · rw [q2.1 _ (by decide) (by decide), q.1 _ (by decide) (by decide)]
    · rw [q2.1 _ (by decide) (by decide), q.1 _ (by decide) (by decide)]
  refine ⟨s6, ?_, ⟨⟨f1, f6, fun x hx => ?_, w16.2⟩, ⟨fun w hw => ?_, fun l hl => ?_, ?_⟩, ⟨?_, fun i hi => absurd hi (Nat.not_lt_zero _)⟩, MW_q h4 qa6 (by decide) (by decide), MRl_q h5 qa6 (by decide) (by decide), ⟨f31, fun i U hi => by cases hi⟩, ?_, MN_q h8 qa6 (by decide) (by decide)⟩, qa6.g (by decide)⟩
  · rw [e2, E245_251]
    simp (disch := omega) only [lit, nle_t, if_true]
    rw [c6, e3, E245_348]
    simp (disch := omega) only [lit, nle_t, if_true]
    rw [e4, E245_417]
    simp (disch := omega) only [lit, nle_t, if_true]
    rw [← hs5, ← hs6]
  · obtain ⟨g1, g2, g3⟩ := w16.1 x hx
    refine ⟨g1, g2, g3, fun l hl => ?_⟩
    show _ = nI (nd T' x l)
    rw [a72]
    by_cases z : x < tW (gT A)
    · rw [u2 _ (by omega), q.1 _ (by decide) (by decide), nd_ext he z]
      exact (h1.2.2.1 x z).2.2.2 l hl
    · exact r2 x l (by omega) hx hl
  · rw [a75, a76, a77, a78]
    show _ = oc (sH (gS A) w) ∧ _ = nI (sQ (gS A) w) ∧ _ = nI (sU (gS A) w) ∧ ∀ l, l < 10 → _ = nI (sG (gS A) w l)
    by_cases z : w < tN (gT A)
    · obtain ⟨g1, g2, g3, g4⟩ := u3 w z
      obtain ⟨d1, d2, d3, d4⟩ := h2.1 w z
      refine ⟨g1.trans ?_, g2.trans ?_, g3.trans ?_, fun l hl => (g4 l hl).trans ?_⟩
      · rw [b2x _ (by simp)]; exact d1
      · rw [b2x _ (by simp)]; exact d2
      · rw [b2x _ (by simp)]; exact d3
      · rw [b2x _ (by simp)]; exact d4 l hl
    · obtain ⟨g1, g2, g3, g4⟩ := r3 w (by omega) hw
      have hn := (sG_out (l := 0) ha.2.1 (show tN (gT A) ≤ w by omega)).2
      have ho := wOk_n (ha.2.1.1 w) hn
      rw [hn, ho.2.1, ho.2.2]
      exact ⟨g1, g2, g3, fun l hl => by rw [ho.1 l]; exact g4 l hl⟩
  · rw [q46.1 _ (by decide) (by decide), r4 l hl, if_pos hl]
    show nI (sL (gS A) l + (c' l - stk (gS A) l)) = nI (c' l - hal (gS A) l)
    have := (hP.2.2 l hl).1
    have e : stk (gS A) l = sL (gS A) l + hal (gS A) l := rfl
    congr 1
    omega
  · rw [q46.2 _ (by decide), q14.2 _ (by simp), q.2 _ (by decide)]
    exact h2.2.2
  · rw [q46.2 _ (by decide), q14.2 _ (by simp)]; exact h15
  · rw [hs6]
    exact MK_came2 h7 qa5 (by decide) (by decide)
theorem Y_town (ha : AOk A B) (hB : B' < 2147483000) (h : MJ A B' s) : ∃ s', ev (d + 1 + 1 + 1 + 1) 245 0 [.inr 67, .inr 0, .inr 0, .inr 0, .inr 0, .inr 0, .inr 0] [] s = some (0, (o_town A).2, s') ∧ MJ (o_town A).1 (B' + 1) s' ∧ gM s s' := by
  obtain ⟨h0, g0⟩ := m_th h
  obtain ⟨s0, hs0⟩ : ∃ s0, s0 = up s 67 18 (nI 0) := ⟨_, rfl⟩
  rw [← hs0] at h0 g0
  have hN := ha.1.2.1
  have hx1 := h0.2.2.1.1
  have hx2 := h0.2.2.1.2
  have b80 := ha.2.2.2.2.2.1
  have b256 := ha.2.2.2.2.2.2.1
  obtain ⟨s1, hs1⟩ : ∃ s1, s1 = up (up (up (up (up (up s0 67 19 (nI 79)) 67 20 (nI (gX A).1)) 67 21 76) 67 22 0) 67 23 (-1)) 67 15 0 := ⟨_, rfl⟩
  have q1 : Eqm [] tfF s0 s1 := by rw [hs1]; exact (((((Eqm.rf.pf (by decide)).pf (by decide)).pf (by decide)).pf (by decide)).pf (by decide)).pf (by decide)
  have f15 : s1 67 15 = nI 0 := by rw [hs1, up_in]; rfl
  have f19 : s1 67 19 = nI 79 := by rw [hs1, up_out (by decide), up_out (by decide), up_out (by decide), up_out (by decide), up_out (by decide), up_in]
  have f20 : s1 67 20 = nI (gX A).1 := by rw [hs1, up_out (by decide), up_out (by decide), up_out (by decide), up_out (by decide), up_in]
  have f21 : s1 67 21 = nI 76 := by rw [hs1, up_out (by decide), up_out (by decide), up_out (by decide), up_in]; rfl
  have f22 : s1 67 22 = nI 0 := by rw [hs1, up_out (by decide), up_out (by decide), up_in]; rfl
  have f23 : s1 67 23 = wI none := by rw [hs1, up_out (by decide), up_in]; rfl
  have st : ev (d + 1 + 1 + 1 + 1) 245 0 [.inr 67, .inr 0, .inr 0, .inr 0, .inr 0, .inr 0, .inr 0] [] s = (if ¬ nI (gX A).1 = 0 then ev (d + 1 + 1 + 1 + 1) 245 35 [.inr 67, .inl 0, .inr 0, .inr 0, .inr 0, .inr 0, .inr 0] [] s1 else some (0, 0, s1)) := by
    rw [E245_0, show up s 67 18 0 = s0 from hs0.symm, hx1, E237_0 (Or.inl rfl), bnd_some, ← hs1, f20]
  unfold o_town twn
  by_cases hz : (gX A).1 = 0
  · rw [if_pos hz]
    dsimp only
    rw [if_pos rfl]
    refine ⟨s1, ?_, MJ_mono (MJ_x0 h0 (q1.mono (by decide) (by decide)) f15) (Nat.le_succ _), g0.tr (q1.g (by decide))⟩
    rw [st, hz, if_neg (show ¬ ¬ nI 0 = 0 from not_not_intro rfl)]
    rfl
  · rw [if_neg hz]
    rw [if_pos (show ¬ nI (gX A).1 = 0 from fun z => hz ((nI_eq (by omega) (by omega)).mp z))] at st
    have key : ∀ n, n ≤ 10 → ∃ s', ev (d + 1 + 1 + 1 + 1) 245 35 [.inr 67, .inl (nI 0), .inr 0, .inr 0, .inr 0, .inr 0, .inr 0] [] s1 = ev (d + 1 + 1 + 1 + 1) 245 35 [.inr 67, .inl (nI n), .inr 0, .inr 0, .inr 0, .inr 0, .inr 0] [] s' ∧ (∀ l, l < n → s' 81 l = nI 0) ∧ Eqm [81] [] s1 s' := by
      intro n
      induction n with
      | zero => intro _; exact ⟨s1, rfl, fun l hl => absurd hl (Nat.not_lt_zero _), Eqm.rf⟩
      | succ n ih =>
        intro hn
        obtain ⟨s2, e2, r2, q2⟩ := ih (by omega)
        refine ⟨up s2 81 n (nI 0), ?_, fun l hl => ?_, q2.pu (by simp) (by decide)⟩
        · rw [e2, E245_35]
          simp (disch := omega) only [lit, nI_add, pk_mul, n_sub, n_addneg, nle_t, nle_f, nlt_t, nlt_f, neq_t, neq_f, n_inb, n_ix, bnd_some, if_true, if_false, ite_tt, ite_ff, not_true_eq_false, not_false_eq_true, eq_self, false_or, or_false, true_or, or_true]
        · by_cases z : l = n
          · subst z; exact up_in
          · rw [up_out z]; exact r2 l (by omega)
    obtain ⟨s2, e2, r2, q2⟩ := key 10 (Nat.le_refl _)
    have q02 : Eqm tlP tfF s0 s2 := (q1.mono (by decide) (by decide)).tr (q2.mono (by decide) (by decide))
    have q02' : Eqm [81] tfF s0 s2 := (q1.mono (by decide) (by decide)).tr (q2.mono (by decide) (by decide))
    have hT2 := MT_q h0.1 q02' (by decide) (by decide)
    have hS2 := MSt_q h0.2.1 q02' (by decide) (by decide)
    have g2 : ∀ f, s2 67 f = s1 67 f := fun f => q2.2 f (by simp)
    have es : mcu s2 0 none = s2 := mcu_self (by rw [g2]; exact f22) (by rw [g2]; exact f23)
    have hC : MC (gX A) (min (gX A).1 76) 79 s2 := ⟨Or.inl rfl, by rw [g2]; exact f19, ⟨(gX A).1, 76, by rw [g2]; exact f20, by rw [g2]; exact f21, rfl, by omega, by omega⟩, by show _ ≤ 80; omega, fun i hi => by rw [q02'.1 _ (by decide) (by decide)]; exact hx2 i (by omega), b256⟩
    have hP : MP (gT A) (stk (gS A)) (gS A) s2 := ⟨fun x hx => ⟨(hT2.2.2.1 x hx).1, (hT2.2.2.1 x hx).2.1, (hT2.2.2.1 x hx).2.2.1⟩, hT2.2.2.2, fun l hl => ⟨Nat.le_refl _, ha.2.1.2.1 l hl, by rw [Nat.sub_self]; exact r2 l hl⟩⟩
    obtain ⟨s3, g, q3⟩ := m_lns (d := d) hN ha.2.1 (show min (gX A).1 76 ≤ 80 by omega) 76 0 0 (gT A) (stk (gS A)) s2 (by omega) (by omega) (Nat.zero_le _) hT2 hS2 Ext.rf hC hP ha.1
    rw [es] at g
    have st2 : ev (d + 1 + 1 + 1 + 1) 245 0 [.inr 67, .inr 0, .inr 0, .inr 0, .inr 0, .inr 0, .inr 0] [] s = ev (d + 1 + 1 + 1 + 1) 245 69 [.inr 67, .inl (nI (tW (gT A))), .inl (nI (tN (gT A))), .inl (nI 0), .inl (nI 1), .inr 0, .inr 0] [] s2 := by
      have e2' : ev (d + 1 + 1 + 1 + 1) 245 35 [.inr 67, .inl 0, .inr 0, .inr 0, .inr 0, .inr 0, .inr 0] [] s1 = _ := e2
      rw [st, e2', E245_35, if_pos (show 10 ≤ nI 10 by decide +kernel), hT2.1, hT2.2.1]
      rfl
    have q03 : Eqm tlP tfF s0 s3 := q02.tr (q3.mono (by decide) (by decide))
    have qm : ∀ p w, Eqm tlP tfF s0 (mcu s3 p w) := fun p w => q03.tr (mcu_q.mono (by decide) (by decide))
    have f15' : ∀ p w, mcu s3 p w 67 15 = nI 0 := fun p w => by rw [mcu_f (by decide) (by decide), q3.2 _ (by simp), g2]; exact f15
    have f20' : ∀ p w, mcu s3 p w 67 20 = nI (gX A).1 := fun p w => by rw [mcu_f (by decide) (by decide), q3.2 _ (by simp), g2]; exact f20
    have bad : ∀ (f q : Nat) (a1 a2 a3 : Int32), f ≤ 1000 → ev (d + 1 + 1 + 1 + 1) 245 231 [.inr 67, .inl a1, .inl a2, .inl a3, .inr 0, .inr 0, .inr 0] [] (mcu s3 q (some f)) = some (0, -nI (f + 1), mcu s3 q (some f)) := fun f q a1 a2 a3 hf => by
      have e : (-1 : Int32) - wI (some f) = -nI (f + 1) := by
        show -nI 1 - nI (min f 1000) = -nI (f + 1)
        rw [Nat.min_eq_left hf, Nat.add_comm f 1, ← nI_add, Int32.neg_add, Int32.sub_eq_add_neg]
      rw [E245_231, m_fine, bnd_some, decide_eq_false (by simp), if_neg (show ¬ ¬ bI false = 0 from not_not_intro rfl), mcu_23, e]
    revert g
    cases lns (gX A) (min (gX A).1 76) 76 0 0 (gT A) (stk (gS A)) with
    | inl f =>
      intro g
      obtain ⟨a1, a2, a3, q, T', e3, hf, hq, hW, he⟩ := g
      dsimp only
      have hT3 : MT (gT A) (mcu s3 q (some f)) := MT_ext4 h0.1 (qm q (some f)) Ext.rf (MPw_q hW (mcu_q (p := q) (w := some f)) (by decide)) he (by decide)
      refine ⟨mcu s3 q (some f), ?_, MJ_mono (MJ_bad h0 (qm q (some f)) hT3 (f15' q (some f))) (Nat.le_succ _), g0.tr ((qm q (some f)).g (by decide))⟩
      rw [st2, e3, E245_212, f20', mcu_22]
      by_cases hc : nI (gX A).1 ≤ nI q
      · rw [if_pos hc]; exact bad f q _ _ _ (by omega)
      · have ef : ev (d + 1 + 1 + 1) 240 0 [.inr 67, .inl (nI q)] [] (mcu s3 q (some f)) = some (0, nI 0, mcu s3 q (some f)) := m_fault (d := d + 1 + 1) (by omega)
        rw [if_neg hc, ef, bnd_some]; exact bad f q _ _ _ (by omega)
    | inr r =>
      obtain ⟨p', n', T', c'⟩ := r
      dsimp only
      intro g
      obtain ⟨e3, hP3, ht3, hp3, he3, hn3⟩ := g
      by_cases hp : p' < (gX A).1
      · rw [if_pos hp]
        dsimp only
        have hT3 : MT (gT A) (mcu s3 p' (some p')) := MT_ext4 h0.1 (qm p' (some p')) Ext.rf (MPw_q (MP_w hP3) (mcu_q (p := p') (w := some p')) (by decide)) he3 (by decide)
        refine ⟨mcu s3 p' (some p'), ?_, MJ_mono (MJ_bad h0 (qm p' (some p')) hT3 (f15' p' (some p'))) (Nat.le_succ _), g0.tr ((qm p' (some p')).g (by decide))⟩
        have ef : ev (d + 1 + 1 + 1) 240 0 [.inr 67, .inl (nI p')] [] (mcu s3 p' none) = some (0, nI 0, mcu s3 p' (some p')) := m_fault (d := d + 1 + 1) (by omega)
        rw [st2, e3, E245_212, f20', mcu_22, if_neg (nI_ge hp (by omega)), ef, bnd_some]
        exact bad p' p' _ _ _ (by omega)
      · rw [if_neg hp]
        dsimp only
        rw [if_neg (show ¬ n' = 0 by omega)]
        obtain ⟨s4, e4, j4, g4⟩ := m_town251 (d := d + 1 + 1 + 1) (b3 := nI n') ha hB h0 (qm p' none) (f15' p' none) (MP_q hP3 (mcu_q (p := p') (w := none)) (by decide)) ht3 he3
        refine ⟨s4, ?_, j4, g0.tr g4⟩
        have t1 : mcu s3 p' none 67 1 = nI (tW (gT A)) := by rw [mcu_f (by decide) (by decide), q3.2 _ (by simp)]; exact hT2.1
        rw [st2, e3, E245_212, f20', mcu_22, if_pos (nI_le (by omega) (by omega)), E245_231, m_fine, bnd_some, decide_eq_true rfl, if_pos (show ¬ bI true = 0 by decide +kernel), t1]
        exact e4
end MTT
