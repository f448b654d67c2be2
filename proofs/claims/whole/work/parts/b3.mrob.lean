/-! THE MODEL: rob -/
section MU3
variable {d B B' l w v x y n a b c k i u : Nat} {s s' s1 s2 : mS} {T : aT} {S : aS} {A : aA} {p q : Int32}
theorem n_orn (x u w : Nat) (hx : x < 2147483648) : (nI x &&& (nI u ||| (nI w ^^^ -nI 1)) = nI 0) = ((x &&& u) ||| (x &&& (x ^^^ w)) = 0) := by
  have e : nI x &&& (nI u ||| (nI w ^^^ -nI 1)) = nI ((x &&& u) ||| (x &&& (x ^^^ w))) := by
    rw [← n_or, ← n_and, ← n_andn]
    apply Int32.toBitVec_inj.mp
    simp only [Int32.toBitVec_and, Int32.toBitVec_or]
    apply BitVec.eq_of_getLsbD_eq
    intro i hi
    simp only [BitVec.getLsbD_and, BitVec.getLsbD_or]
    cases (nI x).toBitVec.getLsbD i <;> cases (nI u).toBitVec.getLsbD i <;> cases (nI w ^^^ -nI 1).toBitVec.getLsbD i <;> rfl
  rw [e]
  have h1 : x &&& u ≤ x := Nat.and_le_left
  have h2 : x &&& (x ^^^ w) ≤ x := Nat.and_le_left
  have hb : ((x &&& u) ||| (x &&& (x ^^^ w))) < 2147483648 := Nat.or_lt_two_pow (n := 31) (by omega) (by omega)
  exact propext (nI_eq hb (by omega))
theorem isQ_eq (T : aT) (S : aS) (w : Nat) : isQ T S w = (isW S w && !isU T S w) := by
  unfold isQ isU mis isW
  cases hn : sH S w with
  | none => rfl
  | some x =>
    simp only [Option.isSome, Bool.true_and]
    by_cases z : tLen T x - hgs S w = 0
    · rw [decide_eq_true z, decide_eq_false (by omega)]; rfl
    · rw [decide_eq_false z, decide_eq_true (by omega)]; rfl
theorem rob_sub : ((x &&& bts (isU T S) 8) ||| (x &&& (x ^^^ wdS2 S)) = 0) = (subS x (bts (isQ T S) 8) = true) := by
  apply propext
  rw [subS_iff]
  constructor
  · intro h i hi
    have e : ((x &&& bts (isU T S) 8) ||| (x &&& (x ^^^ wdS2 S))).testBit i = false := by rw [h]; exact Nat.zero_testBit i
    unfold wdS2 at e
    rw [Nat.testBit_or, Nat.testBit_and, Nat.testBit_and, Nat.testBit_xor, hi, bts_bit, bts_bit] at e
    rw [bts_bit, isQ_eq]
    cases h8 : decide (i < 8) <;> cases h1 : isU T S i <;> cases h2 : isW S i <;> rw [h8, h1, h2] at e <;> first | rfl | cases e
  · intro h
    apply Nat.eq_of_testBit_eq
    intro i
    rw [Nat.zero_testBit]
    unfold wdS2
    rw [Nat.testBit_or, Nat.testBit_and, Nat.testBit_and, Nat.testBit_xor, bts_bit, bts_bit]
    cases hi : x.testBit i with
    | false => rfl
    | true =>
      have e := h i hi
      rw [bts_bit, isQ_eq] at e
      cases h8 : decide (i < 8) <;> cases h1 : isU T S i <;> cases h2 : isW S i <;> rw [h8, h1, h2] at e <;> first | rfl | cases e
/-- on a wall that is up hangs just what its word needs -/
theorem up_has (ht : tOk T) (ho : sOk T S B) (hu : isU T S w = true) (hl : l < 10) : ndL T S false w l = sG S w l := by
  obtain ⟨x, hn, -, -⟩ := isU_lt ho hu
  have hg := (wOk_s (ho.1 w) hn).2.2.1 l
  have hm : mis T S w = 0 := by
    unfold isU at hu
    rw [Bool.and_eq_true] at hu
    exact of_decide_eq_true hu.2
  rw [mis_sum ht (ho.1 w)] at hm
  have hz := sm_allz hm l hl
  unfold lck at hz
  unfold ndL ndH
  rw [hn] at hz ⊢
  show nd T x l = sG S w l
  have hz : nd T x l - sG S w l = 0 := hz
  omega
theorem up_need (ht : tOk T) (ho : sOk T S B) (hl : l < 10) : sumS (fun w => ndL T S false w l) (bts (isU T S) 8) = sm (fun w => if isU T S w = true then sG S w l else 0) 8 := by
  unfold sumS
  refine sm_cong (fun w hw => ?_)
  show (if (bts (isU T S) 8).testBit w = true then ndL T S false w l else 0) = _
  rw [bts_bit, decide_eq_true hw, Bool.true_and]
  by_cases z : isU T S w = true
  · rw [if_pos z, if_pos z, up_has ht ho z hl]
  · rw [if_neg z, if_neg z]
theorem up_le : sm (fun w => if isU T S w = true then sG S w l else 0) 8 ≤ stk S l := by
  have e1 : sm (fun w => if isU T S w = true then sG S w l else 0) 8 ≤ sm (fun w => sG S w l) 8 := sm_le2 (fun i _ => by
    show (if _ then _ else 0) ≤ _
    split <;> omega)
  have e2 : sm (fun w => sG S w l) 8 ≤ stk S l := Nat.le_add_left _ _
  omega
theorem rob_can (ht : tOk T) (ho : sOk T S B) : (lkA (ndL T S false) (plU T S 8) a ≤ 0) = (allN (fun l => decide (sumS (fun w => ndL T S false w l) a + sumS (fun w => ndL T S false w l) (bts (isU T S) 8) ≤ stk S l)) 10 = true) := by
  apply propext
  rw [allN_iff]
  have e : ∀ l, l < 10 → (lkS (ndL T S false) (plU T S 8) a l = 0 ↔ sumS (fun w => ndL T S false w l) a + sumS (fun w => ndL T S false w l) (bts (isU T S) 8) ≤ stk S l) := fun l hl => by
    rw [up_need ht ho hl]
    unfold lkS plU
    have := up_le (T := T) (S := S) (l := l)
    omega
  constructor
  · intro h l hl
    exact decide_eq_true ((e l hl).mp (sm_allz (Nat.le_zero.mp h) l hl))
  · intro h
    refine Nat.le_of_eq ?_
    exact sm_zero (fun l hl => (e l hl).mpr (of_decide_eq_true (h l hl)))
theorem subS_trans {a b c : Nat} (h1 : subS a b = true) (h2 : subS b c = true) : subS a c = true := subS_iff.mpr (fun i hi => subS_iff.mp h2 i (subS_iff.mp h1 i hi))
theorem isQ_sub : subS (bts (isQ T S) 8) (wdS2 S) = true := subS_iff.mpr (fun i hi => by
  unfold wdS2
  rw [bts_bit, isQ_eq] at hi
  rw [bts_bit]
  cases h8 : decide (i < 8) <;> cases h2 : isW S i <;> rw [h8, h2] at hi <;> first | rfl | cases hi)
theorem isU_sub : subS (bts (isU T S) 8) (wdS2 S) = true := subS_iff.mpr (fun i hi => by
  unfold wdS2
  rw [bts_bit] at hi
  rw [bts_bit]
  unfold isU at hi
  cases h8 : decide (i < 8) <;> cases h2 : isW S i <;> rw [h8, h2] at hi <;> first | rfl | cases hi)
theorem Y_rob (ha : AOk A B) (h : MJ A B' s) : ∃ s', ev (d + 1 + 1 + 1 + 1) 299 0 [.inr 67, .inr 0, .inr 0, .inr 0, .inr 0, .inr 0] [] s = some (0, (o_rob A).2, s') ∧ MJ (o_rob A).1 B' s' ∧ gM s s' := by
  obtain ⟨h0, g0⟩ := m_th h
  obtain ⟨s0, hs0⟩ : ∃ s0, s0 = up s 67 18 (nI 0) := ⟨_, rfl⟩
  rw [← hs0] at h0 g0
  have ht := ha.1
  have ho := ha.2.1
  have hT := h0.1
  have hS := h0.2.1
  have hN := ht.2.1
  obtain ⟨p1, p2⟩ := p8 hN
  have hwl := wd_lt ho hN
  have e6 := hT.2.1
  have hul := bts_lt8 (isU (gT A) (gS A)) (n := 8) (by omega)
  have eu := m_ups (d := d) ht ho hT hS
  have ew : ev (d + 1 + 1 + 1) 292 0 [.inr 67, .inr 0, .inr 0] [] s0 = some (0, nI (wdS2 (gS A)), s0) := m_wd hN ht.1 ho hT hS
  have epow : nI 1 <<< (nI (tN (gT A)) &&& nI 31) = nI (2 ^ tN (gT A)) := n_pow (by omega)
  have hql : bts (isQ (gT A) (gS A)) 8 < 2 ^ tN (gT A) := by
    have := sub_le (isQ_sub (T := gT A) (S := gS A))
    omega
  generalize hP : 2 ^ tN (gT A) = P at p1 p2 hwl epow hql
  have can : ∀ a b, a < 256 → subS a (wdS2 (gS A)) = true → ev (d + 1 + 1 + 1 + 1) 299 59 [.inr 67, .inl (nI (bts (isU (gT A) (gS A)) 8)), .inl (nI b), .inl (nI a), .inl (nI 1), .inl (nI 0)] [] s0 = if allN (fun l => decide (sumS (fun w => ndL (gT A) (gS A) false w l) a + sumS (fun w => ndL (gT A) (gS A) false w l) (bts (isU (gT A) (gS A)) 8) ≤ stk (gS A) l)) 10 = true then ev (d + 1 + 1 + 1 + 1) 299 115 [.inr 67, .inl (nI (bts (isU (gT A) (gS A)) 8)), .inl (nI a), .inl (nI a), .inr 0, .inr 0] [] s0 else ev (d + 1 + 1 + 1 + 1) 299 115 [.inr 67, .inl (nI (bts (isU (gT A) (gS A)) 8)), .inl (nI b), .inl (nI a), .inr 0, .inr 0] [] s0 := by
    intro a b hlt hs
    generalize hU : bts (isU (gT A) (gS A)) 8 = U at hul
    have e := loopA (fun i => ev (d + 1 + 1 + 1 + 1) 299 59 [.inr 67, .inl (nI U), .inl (nI b), .inl (nI a), .inl (nI 1), .inl (nI i)] [] s0) (fun l => decide (sumS (fun w => ndL (gT A) (gS A) false w l) a + sumS (fun w => ndL (gT A) (gS A) false w l) U ≤ stk (gS A) l)) (ev (d + 1 + 1 + 1 + 1) 299 115 [.inr 67, .inl (nI U), .inl (nI b), .inl (nI a), .inr 0, .inr 0] [] s0) 10 (fun i hi hp => by
        have hp := of_decide_eq_true hp
        have f1 := m_needS (d := d + 1 + 1) ht ho hT hS hlt hi hs
        have f2 := m_needS (d := d + 1 + 1) (a := U) ht ho hT hS hul hi (by rw [← hU]; exact isU_sub)
        have f3 := m_stockOf (d := d + 1 + 1 + 1) (l := i) hN ho hT hS hi
        have b2 := ho.2.1 i hi
        rw [E299_59]
        simp (disch := omega) only [f1, f2, f3, E299_100, lit, nI_add, pk_mul, n_sub, n_addneg, nle_t, nle_f, nlt_t, nlt_f, neq_t, neq_f, n_inb, n_ix, bnd_some, if_true, if_false, ite_tt, ite_ff, not_true_eq_false, not_false_eq_true, eq_self, false_or, or_false, true_or, or_true]) (fun i hi hp => by
        have hp := of_decide_eq_false hp
        have f1 := m_needS (d := d + 1 + 1) ht ho hT hS hlt hi hs
        have f2 := m_needS (d := d + 1 + 1) (a := U) ht ho hT hS hul hi (by rw [← hU]; exact isU_sub)
        have f3 := m_stockOf (d := d + 1 + 1 + 1) (l := i) hN ho hT hS hi
        have b1 := sumS_le (f := fun w => ndL (gT A) (gS A) false w i) (a := a) (c := 8) (fun w => ndF_le ht ho w i)
        have b2 := sumS_le (f := fun w => ndL (gT A) (gS A) false w i) (a := U) (c := 8) (fun w => ndF_le ht ho w i)
        rw [E299_59]
        simp (disch := omega) only [f1, f2, f3, E299_100, lit, nI_add, pk_mul, n_sub, n_addneg, nle_t, nle_f, nlt_t, nlt_f, neq_t, neq_f, n_inb, n_ix, bnd_some, if_true, if_false, ite_tt, ite_ff, not_true_eq_false, not_false_eq_true, eq_self, false_or, or_false, true_or, or_true]
        rw [E299_59]
        simp (disch := omega) only [E299_108, lit, nI_add, pk_mul, n_sub, n_addneg, nle_t, nle_f, nlt_t, nlt_f, neq_t, neq_f, n_inb, n_ix, bnd_some, if_true, if_false, ite_tt, ite_ff, not_true_eq_false, not_false_eq_true, eq_self, false_or, or_false, true_or, or_true]
        exact ite_self _)
    refine e.trans ?_
    by_cases z : allN (fun l => decide (sumS (fun w => ndL (gT A) (gS A) false w l) a + sumS (fun w => ndL (gT A) (gS A) false w l) U ≤ stk (gS A) l)) 10 = true
    · rw [if_pos z, if_pos z, E299_59]
      simp (disch := omega) only [E299_108, lit, nI_add, pk_mul, n_sub, n_addneg, nle_t, nle_f, nlt_t, nlt_f, neq_t, neq_f, n_inb, n_ix, bnd_some, if_true, if_false, ite_tt, ite_ff, not_true_eq_false, not_false_eq_true, eq_self, false_or, or_false, true_or, or_true]
    · rw [if_neg z, if_neg z]
  have key : ∀ n, n + 1 ≤ P → ev (d + 1 + 1 + 1 + 1) 299 14 [.inr 67, .inl (nI (bts (isU (gT A) (gS A)) 8)), .inl (nI 0), .inl (nI 1), .inr 0, .inr 0] [] s0 = ev (d + 1 + 1 + 1 + 1) 299 14 [.inr 67, .inl (nI (bts (isU (gT A) (gS A)) 8)), .inl (nI (drN (gT A) (fW A) (bts (isQ (gT A) (gS A)) 8) (plU (gT A) (gS A) 8) 0 n)), .inl (nI (n + 1)), .inr 0, .inr 0] [] s0 := by
    intro n
    induction n with
    | zero => intro _; rfl
    | succ n ih =>
      intro hn
      obtain ⟨b1, b2⟩ := drN_ok (T := gT A) (f := fW A) (am := bts (isQ (gT A) (gS A)) 8) (pl := plU (gT A) (gS A) 8) (c := 0) (n := n)
      rw [ih (by omega), drN_s]
      generalize drN (gT A) (fW A) (bts (isQ (gT A) (gS A)) 8) (plU (gT A) (gS A) 8) 0 n = b at b1 b2 ⊢
      have ns : (nI (n + 1) &&& (nI (bts (isU (gT A) (gS A)) 8) ||| (nI (wdS2 (gS A)) ^^^ -nI 1)) = nI 0) = (subS (n + 1) (bts (isQ (gT A) (gS A)) 8) = true) := (n_orn (n + 1) _ _ (by omega)).trans rob_sub
      unfold drB
      have e115 : ∀ b, ev (d + 1 + 1 + 1 + 1) 299 115 [.inr 67, .inl (nI (bts (isU (gT A) (gS A)) 8)), .inl (nI b), .inl (nI (n + 1)), .inr 0, .inr 0] [] s0 = ev (d + 1 + 1 + 1 + 1) 299 14 [.inr 67, .inl (nI (bts (isU (gT A) (gS A)) 8)), .inl (nI b), .inl (nI (n + 1 + 1)), .inr 0, .inr 0] [] s0 := fun b => by
        rw [E299_115]
        simp (disch := omega) only [lit, nI_add, pk_mul, n_sub, n_addneg, nle_t, nle_f, nlt_t, nlt_f, neq_t, neq_f, n_inb, n_ix, bnd_some, if_true, if_false, ite_tt, ite_ff, not_true_eq_false, not_false_eq_true, eq_self, false_or, or_false, true_or, or_true]
      cases hs : subS (n + 1) (bts (isQ (gT A) (gS A)) 8) with
      | false =>
        rw [if_neg (fun z => by cases z.1)]
        have ns' : ¬ (nI (n + 1) &&& (nI (bts (isU (gT A) (gS A)) 8) ||| (nI (wdS2 (gS A)) ^^^ -nI 1)) = nI 0) := by rw [ns, hs]; simp
        rw [E299_14, e6]
        simp (disch := omega) only [epow, ew, ns', e115, lit, nI_add, pk_mul, n_sub, n_addneg, nle_t, nle_f, nlt_t, nlt_f, neq_t, neq_f, n_inb, n_ix, bnd_some, if_true, if_false, ite_tt, ite_ff, not_true_eq_false, not_false_eq_true, eq_self, false_or, or_false, true_or, or_true]
      | true =>
        have ns' : (nI (n + 1) &&& (nI (bts (isU (gT A) (gS A)) 8) ||| (nI (wdS2 (gS A)) ^^^ -nI 1)) = nI 0) := by rw [ns, hs]
        have hs2 := subS_trans hs isQ_sub
        have b3 := subS_trans b2 isQ_sub
        have f1 := m_wS (d := d + 1 + 1) hN hT (show n + 1 < 256 by omega) (sub_tN ho hs2)
        have f2 := m_wS (d := d + 1 + 1) hN hT (show b < 256 by omega) (sub_tN ho b3)
        have w1 := wo_le ht (sub_tN ho hs2)
        have w2 := wo_le ht (sub_tN ho b3)
        have cn := can (n + 1) b (by omega) hs2
        have rc := rob_can (a := n + 1) ht ho
        rw [e115, e115] at cn
        by_cases hw : wOf (gT A) b < wOf (gT A) (n + 1)
        · by_cases hk : lkA (fW A) (plU (gT A) (gS A) 8) (n + 1) ≤ 0
          · rw [if_pos ⟨rfl, hw, hk⟩, E299_14, e6]
            rw [if_pos (rc.mp hk)] at cn
            simp (disch := omega) only [epow, ew, ns', f1, f2, cn, lit, nI_add, pk_mul, n_sub, n_addneg, nle_t, nle_f, nlt_t, nlt_f, neq_t, neq_f, n_inb, n_ix, bnd_some, if_true, if_false, ite_tt, ite_ff, not_true_eq_false, not_false_eq_true, eq_self, false_or, or_false, true_or, or_true]
          · rw [if_neg (fun z => hk z.2.2), E299_14, e6]
            rw [if_neg (fun z => hk (rc.mpr z))] at cn
            simp (disch := omega) only [epow, ew, ns', f1, f2, cn, lit, nI_add, pk_mul, n_sub, n_addneg, nle_t, nle_f, nlt_t, nlt_f, neq_t, neq_f, n_inb, n_ix, bnd_some, if_true, if_false, ite_tt, ite_ff, not_true_eq_false, not_false_eq_true, eq_self, false_or, or_false, true_or, or_true]
        · rw [if_neg (fun z => hw z.2.1), E299_14, e6]
          simp (disch := omega) only [epow, ew, ns', f1, f2, e115, lit, nI_add, pk_mul, n_sub, n_addneg, nle_t, nle_f, nlt_t, nlt_f, neq_t, neq_f, n_inb, n_ix, bnd_some, if_true, if_false, ite_tt, ite_ff, not_true_eq_false, not_false_eq_true, eq_self, false_or, or_false, true_or, or_true]
  obtain ⟨b1, b2⟩ := drN_ok (T := gT A) (f := fW A) (am := bts (isQ (gT A) (gS A)) 8) (pl := plU (gT A) (gS A) 8) (c := 0) (n := 255)
  unfold o_rob roB
  have k1 := key (P - 1) (by omega)
  rw [← drN_more (T := gT A) (f := fW A) (am := bts (isQ (gT A) (gS A)) 8) (pl := plU (gT A) (gS A) 8) (c := 0) (n := P - 1) (k := 255) (by omega) (by omega), show P - 1 + 1 = P by omega] at k1
  generalize drN (gT A) (fW A) (bts (isQ (gT A) (gS A)) 8) (plU (gT A) (gS A) 8) 0 255 = b at b1 b2 k1
  obtain ⟨s1, r1, q1, w1⟩ := m_tell1 (d := d + 1 + 1 + 1) (s := s0) (p := nI b)
  have f5 := m_wS (d := d + 1 + 1) (s := s1) (a := b) hN (MT_q hT q1 (by decide) (by decide)) (by omega) (sub_tN ho (subS_trans b2 isQ_sub))
  refine ⟨s1, ?_, MJ_row h0 q1 (by decide) (by decide) w1, g0.tr (q1.g (by decide))⟩
  rw [E299_0, show up s 67 18 0 = s0 from hs0.symm, eu, bnd_some]
  simp only [lit]
  rw [k1, E299_14, e6]
  simp (disch := omega) only [epow, r1, f5, lit, nI_add, pk_mul, n_sub, n_addneg, nle_t, nle_f, nlt_t, nlt_f, neq_t, neq_f, n_inb, n_ix, bnd_some, if_true, if_false, ite_tt, ite_ff, not_true_eq_false, not_false_eq_true, eq_self, false_or, or_false, true_or, or_true]
end MU3
