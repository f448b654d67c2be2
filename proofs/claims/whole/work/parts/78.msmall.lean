/-! THE MODEL: left, word, hangs, set, count, row, end, forget, same, unlike -/
section MD2
variable {d B B' l w v x y n a b i : Nat} {s s' s1 s'' : mS} {T : aT} {S : aS} {A : aA} {p q r : Int32} {W : List Int32} {P F : List Nat} {C : List (Nat × Nat × Nat)}
theorem m_th (h : MJ A B s) : MJ A B (up s 67 18 (nI 0)) ∧ gM s (up s 67 18 (nI 0)) := by
  have q : Eqm [] [18] s (up s 67 18 (nI 0)) := Eqm.rf.pf (by simp)
  exact ⟨MJ_q h q (by decide) (by decide), q.g (by decide)⟩
theorem m_tell1 {p : Int32} : ∃ s1, ev d 231 0 [.inr 67, .inl p] [] (up s 67 17 (nI 0)) = some (0, nI 0, s1) ∧ Eqm [80] [17] s s1 ∧ MW [p] s1 := by
  obtain ⟨s1, e1, w1, q1⟩ := m_tell (d := d) (p := p) (MW_nil (s := s)) (by decide)
  exact ⟨s1, e1, (Eqm.rf.pf (by simp)).tr q1, w1⟩
theorem m_tell2 {p q : Int32} : ∃ s1 s2, ev d 231 0 [.inr 67, .inl p] [] (up s 67 17 (nI 0)) = some (0, nI 0, s1) ∧ ev d 231 0 [.inr 67, .inl q] [] s1 = some (0, nI 0, s2) ∧ Eqm [80] [17] s s1 ∧ Eqm [80] [17] s s2 ∧ MW [p, q] s2 := by
  obtain ⟨s1, e1, q1, w1⟩ := m_tell1 (d := d) (s := s) (p := p)
  obtain ⟨s2, e2, w2, q2⟩ := m_tell (d := d) (p := q) w1 (by simp)
  exact ⟨s1, s2, e1, e2, q1, q1.tr q2, w2⟩
theorem Y_left (ha : AOk A B) (h : MJ A B' s) : ∃ s', ev (d + 1 + 1) 261 0 [.inr 67, .inl p, .inr 0, .inr 0] [] s = some (0, (o_left A p).2, s') ∧ MJ (o_left A p).1 B' s' ∧ gM s s' := by
  obtain ⟨h0, g0⟩ := m_th h
  have hN := ha.1.2.1
  obtain ⟨s0, hs0⟩ : ∃ s0, s0 = up s 67 18 (nI 0) := ⟨_, rfl⟩
  rw [← hs0] at h0 g0
  unfold o_left
  by_cases hi : inN p 10 = false
  · rw [if_pos hi]
    refine ⟨s0, ?_, h0, g0⟩
    rw [E261_0, m_isLetter, hi]
    simp only [lit, bnd_some, bIf0, not_true_eq_false, if_false, hs0]
  have hi' : inN p 10 = true := by simpa using hi
  rw [if_neg hi]
  obtain ⟨l, hl, rfl⟩ := inN_t (by omega) hi'
  rw [n_ix (by omega)]
  have g := loopU (fun i a => ev (d + 1 + 1) 261 18 [.inr 67, .inl (nI l), .inl (nI a), .inl (nI i)] [] s0) (fun w a => a ||| (if decide (0 < sG (gS A) w l) = true then 2 ^ w else 0)) (tN (gT A)) (fun w a hw => by
    have hg := m_hung h0.2.1 hw hl
    have hb := sG_le (l := l) ha.1 (ha.2.1.1 w)
    rw [E261_18, h0.1.2.1]
    by_cases hz : 0 < sG (gS A) w l
    · simp (disch := omega) only [hg, E261_48, n_pow, n_or, decide_eq_true hz, lit, nI_add, pk_mul, n_sub, n_addneg, nle_t, nle_f, nlt_t, nlt_f, neq_t, neq_f, n_inb, n_ix, bnd_some, if_true, if_false, ite_tt, ite_ff, not_true_eq_false, not_false_eq_true, eq_self, false_or, or_false, true_or, or_true]
    · simp (disch := omega) only [hg, E261_48, n_or, decide_eq_false hz, Bool.false_eq_true, lit, nI_add, pk_mul, n_sub, n_addneg, nle_t, nle_f, nlt_t, nlt_f, neq_t, neq_f, n_inb, n_ix, bnd_some, if_true, if_false, ite_tt, ite_ff, not_true_eq_false, not_false_eq_true, eq_self, false_or, or_false, true_or, or_true]) 0
  have eb : bts (fun w => decide (0 < sG (gS A) w l)) 8 = bts (fun w => decide (0 < sG (gS A) w l)) (tN (gT A)) := bts_more hN (fun i h => by rw [(sG_out (l := l) ha.2.1 h).1]; rfl)
  rw [eb]
  obtain ⟨s1, s2, e1, e2, q1, q2, w2⟩ := m_tell2 (d := d + 1) (s := s0) (p := nI (stk (gS A) l)) (q := nI (bts (fun w => decide (0 < sG (gS A) w l)) (tN (gT A))))
  have qr : Eqm [80] [17] s0 (up s0 67 17 (nI 0)) := Eqm.rf.pf (by simp)
  have es := m_stockOf (d := d + 1) (l := l) hN ha.2.1 (MT_q h0.1 qr (by decide) (by decide)) (MSt_q h0.2.1 qr (by decide) (by decide)) hl
  have el := (MSt_q h0.2.1 q2 (by decide) (by decide)).2.1 l hl
  refine ⟨s2, ?_, MJ_row h0 q2 (by decide) (by decide) w2, g0.tr (q2.g (by decide))⟩
  rw [E261_0, m_isLetter, hi']
  simp only [lit, bnd_some, bIt0, not_false_eq_true, if_true]
  rw [← hs0]
  refine g.trans ?_
  rw [E261_18, h0.1.2.1]
  have eg : itr (fun w a => a ||| (if decide (0 < sG (gS A) w l) = true then 2 ^ w else 0)) (tN (gT A)) 0 = bts (fun w => decide (0 < sG (gS A) w l)) (tN (gT A)) := rfl
  rw [eg]
  simp (disch := omega) only [lit, nle_t, if_true, es, bnd_some, e1, e2, n_inb, n_ix, el]
theorem Y_word (ha : AOk A B) (h : MJ A B' s) : ∃ s', ev (d + 1 + 1) 262 0 [.inr 67, .inl p, .inr 0] [] s = some (0, (o_word A p).2, s') ∧ MJ (o_word A p).1 B' s' ∧ gM s s' := by
  obtain ⟨h0, g0⟩ := m_th h
  have hW := ha.1.1
  obtain ⟨s0, hs0⟩ : ∃ s0, s0 = up s 67 18 (nI 0) := ⟨_, rfl⟩
  rw [← hs0] at h0 g0
  have ew := m_isWord (d := d) (p := p) h0.1 hW
  unfold o_word
  by_cases hi : inN p (tW (gT A)) = false
  · rw [if_pos hi]
    rw [hi] at ew
    refine ⟨s0, ?_, h0, g0⟩
    rw [E262_0]
    simp only [lit]
    rw [← hs0, ew]
    simp only [bnd_some, bIf0, not_true_eq_false, if_false]
  have hi' : inN p (tW (gT A)) = true := by simpa using hi
  rw [if_neg hi]
  rw [hi'] at ew
  obtain ⟨x, hx, rfl⟩ := inN_t (by omega) hi'
  rw [n_ix (by omega)]
  have hlen := (ha.1.2.2.1 x hx).2.1
  obtain ⟨t1, t2, t3, t4⟩ := h0.1.2.2.1 x hx
  have key : ∀ n, n ≤ tLen (gT A) x → ∃ s', ev (d + 1 + 1) 262 22 [.inr 67, .inl (nI x), .inl (nI 0)] [] (up s0 67 17 (nI 0)) = ev (d + 1 + 1) 262 22 [.inr 67, .inl (nI x), .inl (nI n)] [] s' ∧ MW (rowN (fun i => nI (tSp (gT A) x i)) n) s' ∧ Eqm [80] [17] s0 s' := by
    intro n
    induction n with
    | zero => intro _; exact ⟨_, rfl, MW_nil, Eqm.rf.pf (by simp)⟩
    | succ n ih =>
      intro hn
      obtain ⟨s1, e1, w1, q1⟩ := ih (by omega)
      obtain ⟨u1, u2, u3, u4⟩ := (MT_q h0.1 q1 (by decide) (by decide)).2.2.1 x hx
      have hsp := u3 n (by omega)
      obtain ⟨s2, e2, w2, q2⟩ := m_tell (d := d + 1) (p := nI (tSp (gT A) x n)) w1 (by rw [rowN_len]; omega)
      refine ⟨s2, ?_, w2, q1.tr q2⟩
      rw [e1, E262_22]
      simp (disch := omega) only [u1, hsp, e2, lit, nI_add, pk_mul, n_sub, n_addneg, nle_t, nle_f, nlt_t, nlt_f, neq_t, neq_f, n_inb, n_ix, bnd_some, if_true, if_false, ite_tt, ite_ff, not_true_eq_false, not_false_eq_true, eq_self, false_or, or_false, true_or, or_true]
  obtain ⟨s', e1, w1, q1⟩ := key _ (Nat.le_refl _)
  obtain ⟨u1, u2, u3, u4⟩ := (MT_q h0.1 q1 (by decide) (by decide)).2.2.1 x hx
  refine ⟨s', ?_, MJ_row h0 q1 (by decide) (by decide) w1, g0.tr (q1.g (by decide))⟩
  rw [E262_0]
  simp only [lit]
  rw [← hs0, ew]
  simp only [bnd_some, bIt0, not_false_eq_true, if_true]
  rw [e1, E262_22]
  simp (disch := omega) only [u1, u2, lit, nI_add, pk_mul, n_sub, n_addneg, nle_t, nle_f, nlt_t, nlt_f, neq_t, neq_f, n_inb, n_ix, bnd_some, if_true, if_false, ite_tt, ite_ff, not_true_eq_false, not_false_eq_true, eq_self, false_or, or_false, true_or, or_true]
theorem Y_hangs (ha : AOk A B) (h : MJ A B' s) : ∃ s', ev (d + 1 + 1) 264 0 [.inr 67, .inl p, .inl q] [] s = some (0, o_hangs A p q, s') ∧ MJ A B' s' ∧ gM s s' := by
  obtain ⟨h0, g0⟩ := m_th h
  have hN := ha.1.2.1
  obtain ⟨s0, hs0⟩ : ∃ s0, s0 = up s 67 18 (nI 0) := ⟨_, rfl⟩
  rw [← hs0] at h0 g0
  have ew := m_isWall (d := d) (p := p) h0.1 hN
  refine ⟨s0, ?_, h0, g0⟩
  unfold o_hangs
  rw [E264_0]
  simp only [lit]
  rw [← hs0, ew, bnd_some]
  by_cases hw : inN p (tN (gT A)) = false
  · rw [if_pos (Or.inl hw), hw]
    simp only [bIf0, if_true]
    rw [E264_34, E264_35]
    rfl
  have hw' : inN p (tN (gT A)) = true := by simpa using hw
  by_cases hl : inN q 10 = false
  · rw [if_pos (Or.inr hl), hw']
    simp only [bIt0, if_false, m_isLetter, hl, bnd_some, bIf0, if_true]
    rw [E264_34, E264_35]
    rfl
  have hl' : inN q 10 = true := by simpa using hl
  obtain ⟨w, hw2, rfl⟩ := inN_t (by omega) hw'
  obtain ⟨l, hl2, rfl⟩ := inN_t (by omega) hl'
  have hg := m_hung h0.2.1 hw2 hl2
  rw [if_neg (by simp [hw', hl']), n_ix (by omega), n_ix (by omega), hw']
  simp (disch := omega) only [bIt0, m_isLetter, hl', hg, E264_35, lit, nI_add, pk_mul, n_sub, n_addneg, nle_t, nle_f, nlt_t, nlt_f, neq_t, neq_f, n_inb, n_ix, bnd_some, if_true, if_false, ite_tt, ite_ff, not_true_eq_false, not_false_eq_true, eq_self, false_or, or_false, true_or, or_true]
theorem Y_count (ha : AOk A B) (h : MJ A B' s) : ∃ s', ev (d + 1 + 1 + 1 + 1) 329 0 [.inr 67, .inl p] [] s = some (0, o_count A p, s') ∧ MJ A B' s' ∧ gM s s' := by
  obtain ⟨h0, g0⟩ := m_th h
  obtain ⟨s0, hs0⟩ : ∃ s0, s0 = up s 67 18 (nI 0) := ⟨_, rfl⟩
  rw [← hs0] at h0 g0
  refine ⟨s0, ?_, h0, g0⟩
  have r2 := m_ups (d := d) ha.1 ha.2.1 h0.1 h0.2.1
  have r3 := m_waiters (d := d) ha.1 ha.2.1 h0.1 h0.2.1
  have r4 := m_allLeft (d := d + 1 + 1 + 1) h0.2.1
  have r0 := h0.1.1
  have r1 := h0.1.2.1
  have r5 := h0.2.1.2.2
  have r6 := h0.2.2.2.2.2.1.1
  have r7 := h0.2.2.2.2.2.2.2.1
  have r8 := h0.2.2.2.1.1
  have r9 := h0.2.2.1.1
  unfold o_count
  rw [E329_0, show up s 67 18 0 = s0 from hs0.symm, r0, r1, r2, r3, r4, r5, r6, r7, r8, r9]
  simp only [bnd_some]
  by_cases g : p = nI 0
  · rw [if_pos g]; exact if_pos g
  rw [if_neg g, if_neg (show ¬ p = 0 from g)]
  by_cases g : p = nI 1
  · rw [if_pos g]; exact if_pos g
  rw [if_neg g, if_neg (show ¬ p = 1 from g)]
  by_cases g : p = nI 2
  · rw [if_pos g]; exact if_pos g
  rw [if_neg g, if_neg (show ¬ p = 2 from g)]
  by_cases g : p = nI 3
  · rw [if_pos g]; exact if_pos g
  rw [if_neg g, if_neg (show ¬ p = 3 from g)]
  by_cases g : p = nI 4
  · rw [if_pos g]; exact if_pos g
  rw [if_neg g, if_neg (show ¬ p = 4 from g)]
  by_cases g : p = nI 5
  · rw [if_pos g]; exact if_pos g
  rw [if_neg g, if_neg (show ¬ p = 5 from g)]
  by_cases g : p = nI 6
  · rw [if_pos g]; exact if_pos g
  rw [if_neg g, if_neg (show ¬ p = 6 from g)]
  by_cases g : p = nI 7
  · rw [if_pos g]; exact if_pos g
  rw [if_neg g, if_neg (show ¬ p = 7 from g)]
  by_cases g : p = nI 8
  · rw [if_pos g]; exact if_pos g
  rw [if_neg g, if_neg (show ¬ p = 8 from g)]
  by_cases g : p = nI 9
  · rw [if_pos g]; exact if_pos g
  rw [if_neg g, if_neg (show ¬ p = 9 from g)]
  rfl
theorem Y_row (ha : AOk A B) (h : MJ A B' s) : ∃ s', (match o_row A p with
    | some v => ev (d + 1) 330 0 [.inr 67, .inl p] [] s = some (0, v, s') ∧ s' 67 18 = nI 0
    | none => ev (d + 1) 330 0 [.inr 67, .inl p] [] s = some (0, nI 0, s') ∧ s' 67 18 = nI 1) ∧ MJ A B' s' ∧ gM s s' := by
  obtain ⟨h0, g0⟩ := m_th h
  obtain ⟨s0, hs0⟩ : ∃ s0, s0 = up s 67 18 (nI 0) := ⟨_, rfl⟩
  rw [← hs0] at h0 g0
  have hl := ha.2.2.2.2.2.2.2.1
  have r8 := h0.2.2.2.1
  have e0 : ev d 228 0 [.inl p, .inl 0, .inl (s0 67 17 - 1)] [] s0 = some (0, bI (inN p (gW A).length), s0) := by
    rw [r8.1, m_in, in_iff' (by omega)]
  unfold o_row
  by_cases hi : inN p (gW A).length = false
  · rw [if_pos hi]
    rw [hi] at e0
    have q1 : Eqm [] [18] s0 (up s0 67 18 (nI 1)) := Eqm.rf.pf (by simp)
    refine ⟨up s0 67 18 (nI 1), ⟨?_, up_in⟩, MJ_q h0 q1 (by decide) (by decide), g0.tr (q1.g (by decide))⟩
    rw [E330_0, show up s 67 18 0 = s0 from hs0.symm, e0]
    simp only [lit, bnd_some, bIf0, if_true, E230_0, E330_32]
  · rw [if_neg hi]
    have hi' : inN p (gW A).length = true := by simpa using hi
    rw [hi'] at e0
    obtain ⟨i, hi2, rfl⟩ := inN_t (by omega) hi'
    rw [n_ix (by omega)]
    have hv := r8.2 i hi2
    refine ⟨s0, ⟨?_, by rw [hs0, up_in]⟩, h0, g0⟩
    rw [E330_0, show up s 67 18 0 = s0 from hs0.symm, e0]
    simp (disch := omega) only [bIt0, hv, E330_32, lit, nI_add, pk_mul, n_sub, n_addneg, nle_t, nle_f, nlt_t, nlt_f, neq_t, neq_f, n_inb, n_ix, bnd_some, if_true, if_false, ite_tt, ite_ff, not_true_eq_false, not_false_eq_true, eq_self, false_or, or_false, true_or, or_true]
theorem Y_forget (h : MJ A B' s) : ∃ s', ev d 326 0 [.inr 67, .inr 0] [] s = some (0, nI (gC A).length, s') ∧ MJ (wC A []) B' s' ∧ gM s s' := by
  obtain ⟨h0, g0⟩ := m_th h
  obtain ⟨s0, hs0⟩ : ∃ s0, s0 = up s 67 18 (nI 0) := ⟨_, rfl⟩
  rw [← hs0] at h0 g0
  have q1 : Eqm [] [42] s0 (up s0 67 42 (nI 0)) := Eqm.rf.pf (by simp)
  obtain ⟨h1, h2, h3, h4, h5, h6, h7, h8⟩ := h0
  refine ⟨up s0 67 42 (nI 0), ?_, ⟨MT_q h1 q1 (by decide) (by decide), MSt_q h2 q1 (by decide) (by decide), MX_q h3 q1 (by decide) (by decide), MW_q h4 q1 (by decide) (by decide), MRl_q h5 q1 (by decide) (by decide), MU_q h6 q1 (by decide) (by decide), MK_q h7 q1 (by decide) (by decide), ⟨up_in, fun i c hi => by cases hi⟩⟩, g0.tr (q1.g (by decide))⟩
  rw [E326_0, show up s 67 18 0 = s0 from hs0.symm, h8.1]
  rfl
theorem Y_end (ha : AOk A B) (h : MJ A B' s) : ∃ s', ev (d + 1) 236 0 [.inr 67, .inl p] [] s = some (0, (o_end A p).2, s') ∧ MJ (o_end A p).1 B' s' ∧ gM s s' := by
  obtain ⟨h0, g0⟩ := m_th h
  obtain ⟨s0, hs0⟩ : ∃ s0, s0 = up s 67 18 (nI 0) := ⟨_, rfl⟩
  rw [← hs0] at h0 g0
  have h80 := ha.2.2.2.2.2.1
  have r9 := h0.2.2.1
  have e0 : ev d 228 0 [.inl p, .inl 0, .inl (s0 67 15)] [] s0 = some (0, bI (inN p ((gX A).1 + 1)), s0) := by
    rw [r9.1]
    exact m_inB (by omega)
  unfold o_end
  by_cases hi : inN p ((gX A).1 + 1) = false
  · rw [if_pos hi]
    rw [hi] at e0
    refine ⟨s0, ?_, h0, g0⟩
    rw [E236_0, show up s 67 18 0 = s0 from hs0.symm, e0]
    simp only [lit, bnd_some, bIf0, not_true_eq_false, if_false]
  · rw [if_neg hi]
    have hi' : inN p ((gX A).1 + 1) = true := by simpa using hi
    rw [hi'] at e0
    obtain ⟨n, hn, rfl⟩ := inN_t (by omega) hi'
    rw [n_ix (by omega)]
    have q1 : Eqm [] [15] s0 (up s0 67 15 (nI n)) := Eqm.rf.pf (by simp)
    obtain ⟨h1, h2, h3, h4, h5, h6, h7, h8⟩ := h0
    refine ⟨up s0 67 15 (nI n), ?_, ⟨MT_q h1 q1 (by decide) (by decide), MSt_q h2 q1 (by decide) (by decide), ⟨up_in, fun i hi => ?_⟩, MW_q h4 q1 (by decide) (by decide), MRl_q h5 q1 (by decide) (by decide), MU_q h6 q1 (by decide) (by decide), MK_q h7 q1 (by decide) (by decide), MN_q h8 q1 (by decide) (by decide)⟩, g0.tr (q1.g (by decide))⟩
    · rw [E236_0, show up s 67 18 0 = s0 from hs0.symm, e0]
      simp only [lit, bnd_some, bIt0, not_false_eq_true, if_true]
    · rw [up_ne (by decide)]
      have hi : i < n := hi
      exact h3.2 i (by omega)
theorem m_unlike (ht : tOk T) (hT : MT T s) (hx : x < tW T) (hy : y < tW T) : ev d 301 0 [.inr 67, .inl (nI x), .inl (nI y), .inr 0, .inr 0] [] s = some (0, nI (dif T x y), s) := by
  have hW := ht.1
  have g := loopU (fun i a => ev d 301 5 [.inr 67, .inl (nI x), .inl (nI y), .inl (nI a), .inl (nI i)] [] s) (fun l a => a + ((nd T x l - nd T y l) + (nd T y l - nd T x l))) 10 (fun l a hl => by
    have b1 := nd_le T x l
    have b2 := nd_le T y l
    have b3 := (ht.2.2.1 x hx).2.1
    have b4 := (ht.2.2.1 y hy).2.1
    have e1 := (hT.2.2.1 x hx).2.2.2 l hl
    have e2 := (hT.2.2.1 y hy).2.2.2 l hl
    have em := mabs_n (a := nd T x l) (b := nd T y l) (by omega) (by omega)
    rw [E301_5]
    simp (disch := omega) only [lit, nle_f, if_false, pk_mul, nI_add, n_inb, if_true, n_ix, e1, e2, em]) 0
  rw [E301_0]
  simp only [lit]
  refine g.trans ?_
  rw [E301_5]
  simp (disch := omega) only [lit, nI_add, pk_mul, n_sub, n_addneg, nle_t, nle_f, nlt_t, nlt_f, neq_t, neq_f, n_inb, n_ix, bnd_some, if_true, if_false, ite_tt, ite_ff, not_true_eq_false, not_false_eq_true, eq_self, false_or, or_false, true_or, or_true]
  rfl
theorem Y_unlike (ha : AOk A B) (h : MJ A B' s) : ∃ s', ev (d + 1 + 1) 310 0 [.inr 67, .inl p, .inl q] [] s = some (0, o_unlike A p q, s') ∧ MJ A B' s' ∧ gM s s' := by
  obtain ⟨h0, g0⟩ := m_th h
  have hW := ha.1.1
  obtain ⟨s0, hs0⟩ : ∃ s0, s0 = up s 67 18 (nI 0) := ⟨_, rfl⟩
  rw [← hs0] at h0 g0
  refine ⟨s0, ?_, h0, g0⟩
  unfold o_unlike
  rw [E310_0, show up s 67 18 0 = s0 from hs0.symm, m_isWord h0.1 hW, bnd_some]
  by_cases hx : inN p (tW (gT A)) = false
  · rw [if_pos (Or.inl hx), hx]
    simp only [lit, bIf0, if_true]
    rw [E310_30, E310_31]
    rfl
  have hx' : inN p (tW (gT A)) = true := by simpa using hx
  by_cases hy : inN q (tW (gT A)) = false
  · rw [if_pos (Or.inr hy), hx']
    simp only [lit, bIt0, if_false, m_isWord h0.1 hW, hy, bnd_some, bIf0, if_true]
    rw [E310_30, E310_31]
    rfl
  have hy' : inN q (tW (gT A)) = true := by simpa using hy
  obtain ⟨x, hx2, rfl⟩ := inN_t (by omega) hx'
  obtain ⟨y, hy2, rfl⟩ := inN_t (by omega) hy'
  rw [if_neg (show ¬ (inN (nI x) (tW (gT A)) = false ∨ inN (nI y) (tW (gT A)) = false) by simp [hx', hy']), n_ix (by omega), n_ix (by omega), hx']
  simp only [lit, bIt0, if_false, m_isWord h0.1 hW, hy', bnd_some, m_unlike ha.1 h0.1 hx2 hy2]
  rw [E310_31]
theorem Y_same (ha : AOk A B) (h : MJ A B' s) : ∃ s', ev (d + 1 + 1) 308 0 [.inr 67, .inl p, .inr 0, .inr 0] [] s = some (0, o_same A p, s') ∧ MJ A B' s' ∧ gM s s' := by
  obtain ⟨h0, g0⟩ := m_th h
  have hW := ha.1.1
  obtain ⟨s0, hs0⟩ : ∃ s0, s0 = up s 67 18 (nI 0) := ⟨_, rfl⟩
  rw [← hs0] at h0 g0
  refine ⟨s0, ?_, h0, g0⟩
  unfold o_same
  rw [E308_0, show up s 67 18 0 = s0 from hs0.symm, m_isWord h0.1 hW, bnd_some]
  by_cases hx : inN p (tW (gT A)) = false
  · rw [if_pos hx, hx]
    simp only [lit, bIf0, not_true_eq_false, if_false]
  have hx' : inN p (tW (gT A)) = true := by simpa using hx
  rw [if_neg hx, hx']
  obtain ⟨x, hx2, rfl⟩ := inN_t (by omega) hx'
  rw [n_ix (by omega)]
  have difc : ∀ y, dif (gT A) y x = dif (gT A) x y := fun y => sm_cong (fun l _ => by omega)
  have g := loopU (fun i a => ev (d + 1 + 1) 308 19 [.inr 67, .inl (nI x), .inl (nI a), .inl (nI i)] [] s0) (fun y a => a ||| (if (decide (y ≠ x) && decide (dif (gT A) x y = 0)) = true then 2 ^ y else 0)) (tW (gT A)) (fun y a hy => by
    have b1 := dif_le (T := gT A) (x := x) (y := y) (ha.1.2.2.1 x hx2).2.1 (ha.1.2.2.1 y hy).2.1
    have eu := m_unlike (d := d + 1) ha.1 h0.1 hy hx2
    rw [difc] at eu
    rw [E308_19, h0.1.1]
    by_cases hz : y = x
    · have e : (decide (y ≠ x) && decide (dif (gT A) x y = 0)) = false := by simp [hz]
      rw [e]
      simp (disch := omega) only [lit, nle_f, if_false, neq_t, if_true, E308_48, E308_49, n_or, nI_add, Bool.false_eq_true]
    · by_cases hd : dif (gT A) x y = 0
      · have e : (decide (y ≠ x) && decide (dif (gT A) x y = 0)) = true := by simp [hz, hd]
        rw [e]
        simp (disch := omega) only [lit, nle_f, if_false, neq_f, eu, bnd_some, hd, not_true_eq_false, E308_49, n_pow, n_or, nI_add, if_true]
      · have e : (decide (y ≠ x) && decide (dif (gT A) x y = 0)) = false := by simp [hd]
        rw [e]
        simp (disch := omega) only [lit, nle_f, if_false, neq_f, eu, bnd_some, not_false_eq_true, if_true, E308_48, E308_49, n_or, nI_add, Bool.false_eq_true]) 0
  simp only [lit, bIt0, not_false_eq_true, if_true]
  refine g.trans ?_
  rw [E308_19, h0.1.1]
  simp (disch := omega) only [lit, nI_add, pk_mul, n_sub, n_addneg, nle_t, nle_f, nlt_t, nlt_f, neq_t, neq_f, n_inb, n_ix, bnd_some, if_true, if_false, ite_tt, ite_ff, not_true_eq_false, not_false_eq_true, eq_self, false_or, or_false, true_or, or_true]
  rfl
end MD2
