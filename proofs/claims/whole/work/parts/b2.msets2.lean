/-! THE MODEL: most, together, rob -/
section MU2
variable {d B B' l w n a b c k i : Nat} {s s' s1 s2 : mS} {T : aT} {S : aS} {A : aA} {p q : Int32}
theorem Y_most (ha : AOk A B) (h : MJ A B' s) : ∃ s', ev (d + 1 + 1 + 1) 295 0 [.inr 67, .inr 0, .inr 0, .inr 0] [] s = some (0, (o_most A).2, s') ∧ MJ (o_most A).1 B' s' ∧ gM s s' := by
  obtain ⟨h0, g0⟩ := m_th h
  obtain ⟨s0, hs0⟩ : ∃ s0, s0 = up s 67 18 (nI 0) := ⟨_, rfl⟩
  rw [← hs0] at h0 g0
  have ht := ha.1
  have ho := ha.2.1
  have hT := h0.1
  have hS := h0.2.1
  have hN := ht.2.1
  obtain ⟨p1, p2⟩ := p8 hN
  have hwl := wd_lt ho hN
  have e6 := hT.2.1
  have ew : ev (d + 1 + 1) 292 0 [.inr 67, .inr 0, .inr 0] [] s0 = some (0, nI (wdS2 (gS A)), s0) := m_wd hN ht.1 ho hT hS
  have epow : nI 1 <<< (nI (tN (gT A)) &&& nI 31) = nI (2 ^ tN (gT A)) := n_pow (by omega)
  generalize hP : 2 ^ tN (gT A) = P at p1 p2 hwl epow
  have key : ∀ n, n + 1 ≤ P → ev (d + 1 + 1 + 1) 295 9 [.inr 67, .inl (nI 0), .inl (nI 1), .inr 0] [] s0 = ev (d + 1 + 1 + 1) 295 9 [.inr 67, .inl (nI (moN (gT A) (fW A) (wdS2 (gS A)) (stk (gS A)) n)), .inl (nI (n + 1)), .inr 0] [] s0 := by
    intro n
    induction n with
    | zero => intro _; rfl
    | succ n ih =>
      intro hn
      obtain ⟨b1, b2⟩ := moN_ok (T := gT A) (f := fW A) (am := wdS2 (gS A)) (pl := stk (gS A)) (n := n)
      rw [ih (by omega), moN_s]
      generalize moN (gT A) (fW A) (wdS2 (gS A)) (stk (gS A)) n = b at b1 b2 ⊢
      have ns := n_sub0 (a := n + 1) (b := wdS2 (gS A)) (by omega)
      unfold moB fitS
      cases hs : subS (n + 1) (wdS2 (gS A)) with
      | false =>
        rw [if_neg (fun z => by cases z.1)]
        have ns' : ¬ (nI (n + 1) &&& (nI (wdS2 (gS A)) ^^^ -nI 1) = nI 0) := by rw [ns, hs]; simp
        rw [E295_9, e6]
        simp (disch := omega) only [epow, ew, ns', E295_74, lit, nI_add, pk_mul, n_sub, n_addneg, nle_t, nle_f, nlt_t, nlt_f, neq_t, neq_f, n_inb, n_ix, bnd_some, if_true, if_false, ite_tt, ite_ff, not_true_eq_false, not_false_eq_true, eq_self, false_or, or_false, true_or, or_true]
      | true =>
        have ns' : (nI (n + 1) &&& (nI (wdS2 (gS A)) ^^^ -nI 1) = nI 0) := by rw [ns, hs]
        have f1 := m_wS (d := d + 1) hN hT (show n + 1 < 256 by omega) (sub_tN ho hs)
        have f2 := m_wS (d := d + 1) hN hT (show b < 256 by omega) (sub_tN ho b2)
        have f3 : ev (d + 1 + 1) 293 0 [.inr 67, .inl (nI (n + 1)), .inr 0, .inr 0] [] s0 = some (0, nI (lkA (fW A) (stk (gS A)) (n + 1)), s0) := m_missing (d := d) ht ho hT hS (show n + 1 < 256 by omega) hs
        have f4 : ev (d + 1 + 1) 331 0 [.inl (nI (n + 1))] [] s0 = some (0, nI (pc (n + 1)), s0) := x_bc (by omega)
        have f5 : ev (d + 1 + 1) 331 0 [.inl (nI b)] [] s0 = some (0, nI (pc b), s0) := x_bc (by omega)
        have w1 := wo_le ht (sub_tN ho hs)
        have w2 := wo_le ht (sub_tN ho b2)
        have w3 := lkA_le (f := fW A) (pl := stk (gS A)) (a := n + 1) (ndF_le ht ho)
        have c1 := pc_le (n + 1)
        have c2 := pc_le b
        by_cases hk : lkA (fW A) (stk (gS A)) (n + 1) = 0
        · rw [hk] at f3
          by_cases g1 : pc b < pc (n + 1)
          · rw [if_pos ⟨by rw [decide_eq_true hk]; rfl, Or.inl g1⟩, E295_9, e6]
            simp (disch := omega) only [epow, ew, ns', f3, f4, f5, E295_72, E295_74, lit, nI_add, pk_mul, n_sub, n_addneg, nle_t, nle_f, nlt_t, nlt_f, neq_t, neq_f, n_inb, n_ix, bnd_some, if_true, if_false, ite_tt, ite_ff, not_true_eq_false, not_false_eq_true, eq_self, false_or, or_false, true_or, or_true]
          · by_cases g2 : pc b = pc (n + 1)
            · have z0 : nI (pc (n + 1)) - nI (pc (n + 1)) = nI 0 := by rw [n_sub (Nat.le_refl _), Nat.sub_self]
              by_cases g3 : wOf (gT A) b < wOf (gT A) (n + 1)
              · rw [if_pos ⟨by rw [decide_eq_true hk]; rfl, Or.inr ⟨g2, g3⟩⟩, E295_9, e6]
                simp (disch := omega) only [epow, ew, ns', f3, f4, f5, g2, z0, f1, f2, E295_72, E295_74, lit, nI_add, pk_mul, n_sub, n_addneg, nle_t, nle_f, nlt_t, nlt_f, neq_t, neq_f, n_inb, n_ix, bnd_some, if_true, if_false, ite_tt, ite_ff, not_true_eq_false, not_false_eq_true, eq_self, false_or, or_false, true_or, or_true]
              · rw [if_neg (fun z => z.2.elim g1 (fun y => g3 y.2)), E295_9, e6]
                simp (disch := omega) only [epow, ew, ns', f3, f4, f5, g2, z0, f1, f2, E295_74, lit, nI_add, pk_mul, n_sub, n_addneg, nle_t, nle_f, nlt_t, nlt_f, neq_t, neq_f, n_inb, n_ix, bnd_some, if_true, if_false, ite_tt, ite_ff, not_true_eq_false, not_false_eq_true, eq_self, false_or, or_false, true_or, or_true]
            · rw [if_neg (fun z => z.2.elim g1 (fun y => g2 y.1)), E295_9, e6]
              have hneg : nI (pc (n + 1)) - nI (pc b) = -nI (pc b - pc (n + 1)) := by
                rw [← pk_sub (show pc (n + 1) ≤ pc b by omega), Int32.neg_sub]
              have n1 : ¬ nI 0 < -nI (pc b - pc (n + 1)) := fun z => by
                rw [Int32.lt_iff_toInt_lt, negI (by omega), toI (by omega)] at z
                omega
              have n2 : ¬ -nI (pc b - pc (n + 1)) = nI 0 := fun z => by
                have := congrArg Int32.toInt z
                rw [negI (by omega), toI (by omega)] at this
                omega
              simp (disch := omega) only [epow, ew, ns', f3, f4, f5, hneg, n1, n2, E295_74, lit, nI_add, pk_mul, n_sub, n_addneg, nle_t, nle_f, nlt_t, nlt_f, neq_t, neq_f, n_inb, n_ix, bnd_some, if_true, if_false, ite_tt, ite_ff, not_true_eq_false, not_false_eq_true, eq_self, false_or, or_false, true_or, or_true]
        · rw [if_neg (fun z => by rw [decide_eq_false hk] at z; cases z.1), E295_9, e6]
          simp (disch := omega) only [epow, ew, ns', f3, E295_74, lit, nI_add, pk_mul, n_sub, n_addneg, nle_t, nle_f, nlt_t, nlt_f, neq_t, neq_f, n_inb, n_ix, bnd_some, if_true, if_false, ite_tt, ite_ff, not_true_eq_false, not_false_eq_true, eq_self, false_or, or_false, true_or, or_true]
  obtain ⟨b1, b2⟩ := moN_ok (T := gT A) (f := fW A) (am := wdS2 (gS A)) (pl := stk (gS A)) (n := 255)
  unfold o_most
  have k1 := key (P - 1) (by omega)
  rw [← moN_more (T := gT A) (f := fW A) (am := wdS2 (gS A)) (pl := stk (gS A)) (n := P - 1) (k := 255) (by omega) (by omega), show P - 1 + 1 = P by omega] at k1
  generalize moN (gT A) (fW A) (wdS2 (gS A)) (stk (gS A)) 255 = b at b1 b2 k1
  obtain ⟨s1, r1, q1, w1⟩ := m_tell1 (d := d + 1 + 1) (s := s0) (p := nI b)
  have f5 : ev (d + 1 + 1) 331 0 [.inl (nI b)] [] s1 = some (0, nI (pc b), s1) := x_bc (by omega)
  refine ⟨s1, ?_, MJ_row h0 q1 (by decide) (by decide) w1, g0.tr (q1.g (by decide))⟩
  rw [E295_0, show up s 67 18 0 = s0 from hs0.symm]
  simp only [lit]
  rw [k1, E295_9, e6]
  simp (disch := omega) only [epow, r1, f5, lit, nI_add, pk_mul, n_sub, n_addneg, nle_t, nle_f, nlt_t, nlt_f, neq_t, neq_f, n_inb, n_ix, bnd_some, if_true, if_false, ite_tt, ite_ff, not_true_eq_false, not_false_eq_true, eq_self, false_or, or_false, true_or, or_true]
theorem Y_together (ha : AOk A B) (h : MJ A B' s) : ∃ s', ev (d + 1 + 1) 294 0 [.inr 67, .inl p, .inr 0, .inr 0] [] s = some (0, (o_together A p).2, s') ∧ MJ (o_together A p).1 B' s' ∧ gM s s' := by
  obtain ⟨h0, g0⟩ := m_th h
  obtain ⟨s0, hs0⟩ : ∃ s0, s0 = up s 67 18 (nI 0) := ⟨_, rfl⟩
  rw [← hs0] at h0 g0
  have ht := ha.1
  have ho := ha.2.1
  have hT := h0.1
  have hS := h0.2.1
  have hN := ht.2.1
  obtain ⟨p1, p2⟩ := p8 hN
  have hwl := wd_lt ho hN
  have e6 := hT.2.1
  have ew : ev (d + 1) 292 0 [.inr 67, .inr 0, .inr 0] [] s0 = some (0, nI (wdS2 (gS A)), s0) := m_wd hN ht.1 ho hT hS
  have epow : (1 : Int32) <<< (nI (tN (gT A)) &&& 31) - 1 = nI (2 ^ tN (gT A)) - nI 1 := by
    have : nI 1 <<< (nI (tN (gT A)) &&& nI 31) = nI (2 ^ tN (gT A)) := n_pow (by omega)
    rw [← this]
    rfl
  have er : ev (d + 1) 228 0 [.inl p, .inl 0, .inl (nI (2 ^ tN (gT A)) - nI 1)] [] s0 = some (0, bI (inN p (2 ^ tN (gT A))), s0) := by
    rw [m_in]
    exact congrArg (fun b => some ((0 : Nat), bI b, s0)) (in_iff (t := p) (n := 2 ^ tN (gT A)) (by omega))
  have st : ev (d + 1 + 1) 294 0 [.inr 67, .inl p, .inr 0, .inr 0] [] s = (if bI (inN p (2 ^ tN (gT A))) = 0 then ev (d + 1 + 1) 294 32 [.inr 0, .inr 0, .inr 0, .inr 0] [] s0 else (if p &&& (nI (wdS2 (gS A)) ^^^ -nI 1) = nI 0 then ev (d + 1 + 1) 294 38 [.inr 67, .inl p, .inl (nI 0), .inl (nI 0)] [] s0 else ev (d + 1 + 1) 294 32 [.inr 0, .inr 0, .inr 0, .inr 0] [] s0)) := by
    rw [E294_0, show up s 67 18 0 = s0 from hs0.symm, e6, epow, er, bnd_some, ew, bnd_some]
    rfl
  have e32 : ev (d + 1 + 1) 294 32 [.inr 0, .inr 0, .inr 0, .inr 0] [] s0 = some (0, -nI 1, s0) := E294_32
  unfold o_together
  rw [st]
  by_cases hz : p &&& (nI (wdS2 (gS A)) ^^^ -nI 1) = nI 0
  · rw [if_neg (not_not_intro hz), if_pos hz]
    obtain ⟨k, rfl, hk, hs⟩ := and_not (by omega) hz
    have hle := sub_le hs
    have hin : inN (nI k) (2 ^ tN (gT A)) = true := by
      rw [inN_n (by omega) (by omega)]
      exact decide_eq_true (by omega)
    rw [hin, if_neg (show ¬ bI true = 0 by decide +kernel), n_ix (by omega)]
    have key := loopU (fun i v => ev (d + 1 + 1) 294 38 [.inr 67, .inl (nI k), .inl (nI v), .inl (nI i)] [] s0) (fun l v => v ||| (if decide (0 < lkS (fW A) (stk (gS A)) k l) = true then 2 ^ l else 0)) 10 (fun i v hi => by
      have e1 := m_needS (d := d) ht ho hT hS hk hi hs
      have e2 := m_stockOf (d := d + 1) (l := i) hN ho hT hS hi
      have b1 := sumS_le (f := fun w => ndL (gT A) (gS A) false w i) (a := k) (c := 8) (fun w => ndF_le ht ho w i)
      have b2 := ho.2.1 i hi
      have hl : lkS (fW A) (stk (gS A)) k i = sumS (fun w => ndL (gT A) (gS A) false w i) k - stk (gS A) i := rfl
      rw [E294_38]
      by_cases hc : sumS (fun w => ndL (gT A) (gS A) false w i) k ≤ stk (gS A) i
      · rw [decide_eq_false (by omega : ¬ 0 < lkS (fW A) (stk (gS A)) k i)]
        simp (disch := omega) only [e1, e2, E294_66, n_or, Bool.false_eq_true, lit, nI_add, pk_mul, n_sub, n_addneg, nle_t, nle_f, nlt_t, nlt_f, neq_t, neq_f, n_inb, n_ix, bnd_some, if_true, if_false, ite_tt, ite_ff, not_true_eq_false, not_false_eq_true, eq_self, false_or, or_false, true_or, or_true]
      · rw [decide_eq_true (by omega : 0 < lkS (fW A) (stk (gS A)) k i)]
        simp (disch := omega) only [e1, e2, E294_66, n_or, n_pow, lit, nI_add, pk_mul, n_sub, n_addneg, nle_t, nle_f, nlt_t, nlt_f, neq_t, neq_f, n_inb, n_ix, bnd_some, if_true, if_false, ite_tt, ite_ff, not_true_eq_false, not_false_eq_true, eq_self, false_or, or_false, true_or, or_true]) 0
    have eb : itr (fun l v => v ||| (if decide (0 < lkS (fW A) (stk (gS A)) k l) = true then 2 ^ l else 0)) 10 0 = bts (fun l => decide (0 < lkS (fW A) (stk (gS A)) k l)) 10 := rfl
    rw [eb] at key
    have hb := bts_lt (fun l => decide (0 < lkS (fW A) (stk (gS A)) k l)) 10
    generalize bts (fun l => decide (0 < lkS (fW A) (stk (gS A)) k l)) 10 = b at key hb
    obtain ⟨s1, r1, q1, w1⟩ := m_tell1 (d := d + 1) (s := s0) (p := nI b)
    refine ⟨s1, ?_, MJ_row h0 q1 (by decide) (by decide) w1, g0.tr (q1.g (by decide))⟩
    refine key.trans ?_
    rw [E294_38]
    by_cases hb0 : b = 0
    · rw [if_pos hb0]
      rw [hb0] at r1 ⊢
      simp (disch := omega) only [r1, E294_93, lit, nI_add, pk_mul, n_sub, n_addneg, nle_t, nle_f, nlt_t, nlt_f, neq_t, neq_f, n_inb, n_ix, bnd_some, if_true, if_false, ite_tt, ite_ff, not_true_eq_false, not_false_eq_true, eq_self, false_or, or_false, true_or, or_true]
    · rw [if_neg hb0]
      simp (disch := omega) only [r1, E294_93, lit, nI_add, pk_mul, n_sub, n_addneg, nle_t, nle_f, nlt_t, nlt_f, neq_t, neq_f, n_inb, n_ix, bnd_some, if_true, if_false, ite_tt, ite_ff, not_true_eq_false, not_false_eq_true, eq_self, false_or, or_false, true_or, or_true]
  · rw [if_pos hz, if_neg hz, e32]
    refine ⟨s0, ?_, h0, g0⟩
    exact ite_self _
end MU2
