/-! THE MODEL: sets of walls -/
section MU1
variable {d B B' l w n a b c k i : Nat} {s s' s1 s2 : mS} {T : aT} {S : aS} {A : aA} {p q : Int32}
theorem wd_eq (ho : sOk T S B) (hN : tN T ≤ 8) : wdS2 S = bts (isW S) (tN T) := bts_more hN (fun i hi => isW_out ho hi)
theorem wd_lt (ho : sOk T S B) (hN : tN T ≤ 8) : wdS2 S < 2 ^ tN T := by rw [wd_eq ho hN]; exact bts_lt _ _
theorem p8 (hN : n ≤ 8) : 1 ≤ 2 ^ n ∧ 2 ^ n ≤ 256 := ⟨Nat.pow_pos (by omega), by have := Nat.pow_le_pow_right (n := 2) (by omega) hN; omega⟩
theorem m_wd (hN : tN T ≤ 8) (hW : tW T ≤ 12) (ho : sOk T S B) (hT : MT T s) (h : MSt T S s) : ev d 292 0 [.inr 67, .inr 0, .inr 0] [] s = some (0, nI (wdS2 S), s) := by
  rw [m_wordy hN hW ho hT h, wd_eq ho hN]
theorem n_sub0 (ha : a < 256) : (nI a &&& (nI b ^^^ -nI 1) = nI 0) = (subS a b = true) := by
  rw [n_andn]
  unfold subS
  rw [decide_eq_true_eq]
  have hle : a &&& (a ^^^ b) ≤ a := Nat.and_le_left
  exact propext (nI_eq (by omega) (by omega))
theorem sub_bit (hs : subS a b = true) (h : a.testBit i = true) : b.testBit i = true := subS_iff.mp hs i h
theorem m_needS (ht : tOk T) (ho : sOk T S B) (hT : MT T s) (h : MSt T S s) (ha : a < 256) (hl : l < 10) (hs : subS a (wdS2 S) = true) : ev (d + 1) 291 0 [.inr 67, .inl (nI a), .inl (nI l), .inr 0, .inr 0] [] s = some (0, nI (sumS (fun w => ndL T S false w l) a), s) := by
  have hN := ht.2.1
  have hb : ∀ w, a.testBit w = true → isW S w = true ∧ w < tN T := fun w hw => by
    have h1 := sub_bit hs hw
    refine ⟨?_, wd_am ho w h1⟩
    unfold wdS2 at h1
    rw [bts_bit, Bool.and_eq_true] at h1
    exact h1.2
  rw [m_needOf ht ho hT h (by omega) hl (fun w _ hw => (hb w hw).1)]
  have e : sm (fun w => if a.testBit w = true then ndH T S w l else 0) (tN T) = sumS (fun w => ndL T S false w l) a := by
    unfold sumS
    rw [sm_more hN (f := fun w => if a.testBit w = true then ndL T S false w l else 0) (fun i h1 _ => by
      show (if a.testBit i = true then ndL T S false i l else 0) = 0
      rw [if_neg (fun z => by have := (hb i z).2; omega)])]
    rfl
  rw [e]
theorem ndF_le (ht : tOk T) (ho : sOk T S B) : ∀ w l, ndL T S false w l ≤ 8 := fun _ _ => ndL_le ht ho
theorem m_missing (ht : tOk T) (ho : sOk T S B) (hT : MT T s) (h : MSt T S s) (ha : a < 256) (hs : subS a (wdS2 S) = true) : ev (d + 1 + 1) 293 0 [.inr 67, .inl (nI a), .inr 0, .inr 0] [] s = some (0, nI (lkA (ndL T S false) (stk S) a), s) := by
  have hN := ht.2.1
  have g := loopU (fun i v => ev (d + 1 + 1) 293 4 [.inr 67, .inl (nI a), .inl (nI v), .inl (nI i)] [] s) (fun l v => v + lkS (ndL T S false) (stk S) a l) 10 (fun i v hi => by
    have e1 := m_needS (d := d) ht ho hT h ha hi hs
    have e2 := m_stockOf (d := d + 1) (l := i) hN ho hT h hi
    have b1 := sumS_le (f := fun w => ndL T S false w i) (a := a) (c := 8) (fun w => ndF_le ht ho w i)
    have b2 := ho.2.1 i hi
    have em := mmax0 (a := sumS (fun w => ndL T S false w i) a) (b := stk S i) (by omega) (by omega)
    rw [E293_4]
    simp (disch := omega) only [e1, e2, em, lit, nI_add, pk_mul, n_sub, n_addneg, nle_t, nle_f, nlt_t, nlt_f, neq_t, neq_f, n_inb, n_ix, bnd_some, if_true, if_false, ite_tt, ite_ff, not_true_eq_false, not_false_eq_true, eq_self, false_or, or_false, true_or, or_true]
    rfl) 0
  rw [E293_0]
  simp only [lit]
  refine g.trans ?_
  rw [E293_4]
  simp (disch := omega) only [lit, nI_add, pk_mul, n_sub, n_addneg, nle_t, nle_f, nlt_t, nlt_f, neq_t, neq_f, n_inb, n_ix, bnd_some, if_true, if_false, ite_tt, ite_ff, not_true_eq_false, not_false_eq_true, eq_self, false_or, or_false, true_or, or_true]
  rfl
theorem m_wS (hN : tN T ≤ 8) (hT : MT T s) (ha : a < 256) (hb : ∀ w, a.testBit w = true → w < tN T) : ev (d + 1) 281 0 [.inr 67, .inl (nI a), .inr 0, .inr 0] [] s = some (0, nI (wOf T a), s) := by
  rw [m_worthOf hN hT (by omega)]
  have e : sm (fun w => if a.testBit w = true then tWo T w else 0) (tN T) = wOf T a := by
    unfold wOf sumS
    rw [sm_more hN (f := fun w => if a.testBit w = true then tWo T w else 0) (fun i h1 _ => by
      show (if a.testBit i = true then tWo T i else 0) = 0
      rw [if_neg (fun z => by have := hb i z; omega)])]
  rw [e]
theorem wo_le (ht : tOk T) (hb : ∀ w, a.testBit w = true → w < tN T) : wOf T a ≤ 792 := by
  unfold wOf sumS
  have := sm_le (f := fun w => if a.testBit w = true then tWo T w else 0) (c := 99) (n := 8) (fun w _ => by
    show (if a.testBit w = true then tWo T w else 0) ≤ 99
    by_cases z : a.testBit w = true
    · rw [if_pos z]; exact (ht.2.2.2 w (hb w z)).2.1
    · rw [if_neg z]; exact Nat.zero_le _)
  omega
theorem sub_tN (ho : sOk T S B) (hs : subS a (wdS2 S) = true) : ∀ w, a.testBit w = true → w < tN T := fun w hw => wd_am ho w (sub_bit hs hw)
theorem itr_moreM {α : Type} {g : Nat → α → α} {n m : Nat} {v : α} (h : n ≤ m) (hz : ∀ i b, n ≤ i → g i b = b) : itr g m v = itr g n v := by
  induction h with
  | refl => rfl
  | step hm ih => exact (hz _ _ hm).trans ih
theorem drN_more {f : Nat → Nat → Nat} {am : Nat} {pl : Nat → Nat} (h : n ≤ k) (hm : am ≤ n) : drN T f am pl c k = drN T f am pl c n := itr_moreM h (fun i b hi => by
  unfold drB
  rw [if_neg (fun z => by have := sub_le z.1; omega)])
theorem moN_more {f : Nat → Nat → Nat} {am : Nat} {pl : Nat → Nat} (h : n ≤ k) (hm : am ≤ n) : moN T f am pl k = moN T f am pl n := itr_moreM h (fun i b hi => by
  unfold moB fitS
  rw [if_neg (fun z => by
    have := sub_le ((Bool.and_eq_true_iff.mp z.1).1)
    omega)])
theorem m_findD (ht : tOk T) (ho : sOk T S B) (hT : MT T s) (h : MSt T S s) (hc : c < 1000) : ev (d + 1 + 1 + 1) 296 0 [.inr 67, .inl (nI c), .inr 0, .inr 0] [] s = some (0, nI (drN T (ndL T S false) (wdS2 S) (stk S) c 255), s) := by
  have hN := ht.2.1
  obtain ⟨p1, p2⟩ := p8 hN
  have hwl := wd_lt ho hN
  have e6 := hT.2.1
  have ew : ev (d + 1 + 1) 292 0 [.inr 67, .inr 0, .inr 0] [] s = some (0, nI (wdS2 S), s) := m_wd hN ht.1 ho hT h
  have epow : nI 1 <<< (nI (tN T) &&& nI 31) = nI (2 ^ tN T) := n_pow (by omega)
  generalize hP : 2 ^ tN T = P at p1 p2 hwl epow
  have key : ∀ n, n + 1 ≤ P → ev (d + 1 + 1 + 1) 296 4 [.inr 67, .inl (nI c), .inl (nI 0), .inl (nI 1)] [] s = ev (d + 1 + 1 + 1) 296 4 [.inr 67, .inl (nI c), .inl (nI (drN T (ndL T S false) (wdS2 S) (stk S) c n)), .inl (nI (n + 1))] [] s := by
    intro n
    induction n with
    | zero => intro _; rfl
    | succ n ih =>
      intro hn
      obtain ⟨b1, b2⟩ := drN_ok (T := T) (f := ndL T S false) (am := wdS2 S) (pl := stk S) (c := c) (n := n)
      rw [ih (by omega), drN_s]
      generalize drN T (ndL T S false) (wdS2 S) (stk S) c n = b at b1 b2 ⊢
      have ns := n_sub0 (a := n + 1) (b := wdS2 S) (by omega)
      unfold drB
      cases hs : subS (n + 1) (wdS2 S) with
      | false =>
        rw [if_neg (fun z => by cases z.1)]
        have ns' : ¬ (nI (n + 1) &&& (nI (wdS2 S) ^^^ -nI 1) = nI 0) := by rw [ns, hs]; simp
        rw [E296_4, e6]
        simp (disch := omega) only [epow, ew, ns', E296_49, lit, nI_add, pk_mul, n_sub, n_addneg, nle_t, nle_f, nlt_t, nlt_f, neq_t, neq_f, n_inb, n_ix, bnd_some, if_true, if_false, ite_tt, ite_ff, not_true_eq_false, not_false_eq_true, eq_self, false_or, or_false, true_or, or_true]
      | true =>
        have ns' : (nI (n + 1) &&& (nI (wdS2 S) ^^^ -nI 1) = nI 0) := by rw [ns, hs]
        have f1 := m_wS (d := d + 1) hN hT (show n + 1 < 256 by omega) (sub_tN ho hs)
        have f2 := m_wS (d := d + 1) hN hT (show b < 256 by omega) (sub_tN ho b2)
        have f3 := m_missing (d := d) ht ho hT h (show n + 1 < 256 by omega) hs
        have w1 := wo_le ht (sub_tN ho hs)
        have w2 := wo_le ht (sub_tN ho b2)
        have w3 := lkA_le (pl := stk S) (a := n + 1) (ndF_le ht ho)
        by_cases hw : wOf T b < wOf T (n + 1)
        · by_cases hk : lkA (ndL T S false) (stk S) (n + 1) ≤ c
          · rw [if_pos ⟨rfl, hw, hk⟩, E296_4, e6]
            simp (disch := omega) only [epow, ew, ns', f1, f2, f3, E296_49, lit, nI_add, pk_mul, n_sub, n_addneg, nle_t, nle_f, nlt_t, nlt_f, neq_t, neq_f, n_inb, n_ix, bnd_some, if_true, if_false, ite_tt, ite_ff, not_true_eq_false, not_false_eq_true, eq_self, false_or, or_false, true_or, or_true]
          · rw [if_neg (fun z => hk z.2.2), E296_4, e6]
            simp (disch := omega) only [epow, ew, ns', f1, f2, f3, E296_49, lit, nI_add, pk_mul, n_sub, n_addneg, nle_t, nle_f, nlt_t, nlt_f, neq_t, neq_f, n_inb, n_ix, bnd_some, if_true, if_false, ite_tt, ite_ff, not_true_eq_false, not_false_eq_true, eq_self, false_or, or_false, true_or, or_true]
        · rw [if_neg (fun z => hw z.2.1), E296_4, e6]
          simp (disch := omega) only [epow, ew, ns', f1, f2, E296_49, lit, nI_add, pk_mul, n_sub, n_addneg, nle_t, nle_f, nlt_t, nlt_f, neq_t, neq_f, n_inb, n_ix, bnd_some, if_true, if_false, ite_tt, ite_ff, not_true_eq_false, not_false_eq_true, eq_self, false_or, or_false, true_or, or_true]
  rw [E296_0]
  simp only [lit]
  rw [key (P - 1) (by omega), E296_4, e6, drN_more (n := P - 1) (k := 255) (by omega) (by omega), show P - 1 + 1 = P by omega]
  simp (disch := omega) only [epow, lit, nI_add, pk_mul, n_sub, n_addneg, nle_t, nle_f, nlt_t, nlt_f, neq_t, neq_f, n_inb, n_ix, bnd_some, if_true, if_false, ite_tt, ite_ff, not_true_eq_false, not_false_eq_true, eq_self, false_or, or_false, true_or, or_true]
theorem deB_ok (A : aA) (c : Nat) : deB A c ≤ 255 ∧ subS (deB A c) (wdS2 (gS A)) = true := drN_ok
theorem Y_dearest (ha : AOk A B) (h : MJ A B' s) : ∃ s', ev (d + 1 + 1 + 1 + 1) 297 0 [.inr 67, .inr 0] [] s = some (0, (o_dearest A).2, s') ∧ MJ (o_dearest A).1 B' s' ∧ gM s s' := by
  obtain ⟨h0, g0⟩ := m_th h
  obtain ⟨s0, hs0⟩ : ∃ s0, s0 = up s 67 18 (nI 0) := ⟨_, rfl⟩
  rw [← hs0] at h0 g0
  have e1 := m_findD (d := d) (c := 0) ha.1 ha.2.1 h0.1 h0.2.1 (by omega)
  obtain ⟨b1, b2⟩ := deB_ok A 0
  unfold o_dearest
  have e1 : ev (d + 1 + 1 + 1) 296 0 [.inr 67, .inl 0, .inr 0, .inr 0] [] s0 = some (0, nI (deB A 0), s0) := e1
  generalize deB A 0 = b at e1 b1 b2
  obtain ⟨s1, r1, q1, w1⟩ := m_tell1 (d := d + 1 + 1 + 1) (s := s0) (p := nI b)
  have r1 : ev (d + 1 + 1 + 1) 231 0 [.inr 67, .inl (nI b)] [] (up s0 67 17 0) = some (0, nI 0, s1) := r1
  have e2 := m_wS (d := d + 1 + 1) (s := s1) (a := b) ha.1.2.1 (MT_q h0.1 q1 (by decide) (by decide)) (by omega) (sub_tN ha.2.1 b2)
  refine ⟨s1, ?_, MJ_row h0 q1 (by decide) (by decide) w1, g0.tr (q1.g (by decide))⟩
  rw [E297_0, show up s 67 18 0 = s0 from hs0.symm, e1, bnd_some, r1, bnd_some, e2, bnd_some]
theorem Y_cast (ha : AOk A B) (h : MJ A B' s) : ∃ s', ev (d + 1 + 1 + 1 + 1) 298 0 [.inr 67, .inl p, .inr 0, .inr 0] [] s = some (0, (o_cast A p).2, s') ∧ MJ (o_cast A p).1 B' s' ∧ gM s s' := by
  obtain ⟨h0, g0⟩ := m_th h
  obtain ⟨s0, hs0⟩ : ∃ s0, s0 = up s 67 18 (nI 0) := ⟨_, rfl⟩
  rw [← hs0] at h0 g0
  have hN := ha.1.2.1
  have ei : ev (d + 1 + 1 + 1) 228 0 [.inl p, .inl 0, .inl 99] [] s0 = some (0, bI (inN p 100), s0) := m_inB (n := 99) (by omega)
  unfold o_cast
  by_cases hi : inN p 100 = false
  · rw [if_pos hi]
    rw [hi] at ei
    refine ⟨s0, ?_, h0, g0⟩
    rw [E298_0, show up s 67 18 0 = s0 from hs0.symm, ei, bnd_some, if_neg (show ¬ ¬ bI false = 0 from not_not_intro rfl)]
    rfl
  have hi' : inN p 100 = true := by simpa using hi
  rw [if_neg hi]
  rw [hi'] at ei
  obtain ⟨n, hn, rfl⟩ := inN_t (by omega) hi'
  rw [n_ix (by omega)]
  have e1 := m_findD (d := d) (c := n) ha.1 ha.2.1 h0.1 h0.2.1 (by omega)
  obtain ⟨b1, b2⟩ := deB_ok A n
  have e1 : ev (d + 1 + 1 + 1) 296 0 [.inr 67, .inl (nI n), .inr 0, .inr 0] [] s0 = some (0, nI (deB A n), s0) := e1
  generalize deB A n = b at e1 b1 b2
  obtain ⟨s1, r1, q1, w1⟩ := m_tell1 (d := d + 1 + 1 + 1) (s := s0) (p := nI b)
  have r1 : ev (d + 1 + 1 + 1) 231 0 [.inr 67, .inl (nI b)] [] (up s0 67 17 0) = some (0, nI 0, s1) := r1
  have key : ∀ n, n ≤ 10 → ∃ s', ev (d + 1 + 1 + 1 + 1) 298 35 [.inr 67, .inr 0, .inl (nI b), .inl (nI 0)] [] s1 = ev (d + 1 + 1 + 1 + 1) 298 35 [.inr 67, .inr 0, .inl (nI b), .inl (nI n)] [] s' ∧ MW ([nI b] ++ rowN (fun l => nI (lkS (fW A) (stk (gS A)) b l)) n) s' ∧ Eqm [80] [17] s0 s' := by
    intro n
    induction n with
    | zero => intro _; exact ⟨s1, rfl, w1, q1⟩
    | succ n ih =>
      intro hn
      obtain ⟨s2, e2, w2, q2⟩ := ih (by omega)
      have hT2 := MT_q h0.1 q2 (by decide) (by decide)
      have hS2 := MSt_q h0.2.1 q2 (by decide) (by decide)
      have f1 := m_needS (d := d + 1 + 1) (a := b) (l := n) ha.1 ha.2.1 hT2 hS2 (by omega) (by omega) b2
      have f2 := m_stockOf (d := d + 1 + 1 + 1) (l := n) hN ha.2.1 hT2 hS2 (by omega)
      have c1 := sumS_le (f := fun w => ndL (gT A) (gS A) false w n) (a := b) (c := 8) (fun w => ndF_le ha.1 ha.2.1 w n)
      have c2 := ha.2.1.2.1 n (by omega)
      have em := mmax0 (a := sumS (fun w => ndL (gT A) (gS A) false w n) b) (b := stk (gS A) n) (by omega) (by omega)
      obtain ⟨s3, e3, w3, q3⟩ := m_tell (d := d + 1 + 1 + 1) (p := nI (lkS (fW A) (stk (gS A)) b n)) w2 (by rw [List.length_append, rowN_len]; simp; omega)
      have e3 : ev (d + 1 + 1 + 1) 231 0 [.inr 67, .inl (nI (sumS (fun w => ndL (gT A) (gS A) false w n) b - stk (gS A) n))] [] s2 = some (0, nI 0, s3) := e3
      refine ⟨s3, ?_, ?_, q2.tr q3⟩
      · rw [e2, E298_35]
        simp (disch := omega) only [f1, f2, em, e3, lit, nI_add, pk_mul, n_sub, n_addneg, nle_t, nle_f, nlt_t, nlt_f, neq_t, neq_f, n_inb, n_ix, bnd_some, if_true, if_false, ite_tt, ite_ff, not_true_eq_false, not_false_eq_true, eq_self, false_or, or_false, true_or, or_true]
      · rw [List.append_assoc] at w3
        exact w3
  obtain ⟨s2, e2, w2, q2⟩ := key 10 (Nat.le_refl _)
  have e4 := m_wS (d := d + 1 + 1) (s := s2) (a := b) ha.1.2.1 (MT_q h0.1 q2 (by decide) (by decide)) (by omega) (sub_tN ha.2.1 b2)
  refine ⟨s2, ?_, MJ_row h0 q2 (by decide) (by decide) w2, g0.tr (q2.g (by decide))⟩
  rw [E298_0, show up s 67 18 0 = s0 from hs0.symm, ei, bnd_some, if_pos (show ¬ bI true = 0 by decide +kernel), e1, bnd_some, r1, bnd_some]
  simp only [lit]
  rw [e2, E298_35]
  simp (disch := omega) only [e4, lit, nI_add, pk_mul, n_sub, n_addneg, nle_t, nle_f, nlt_t, nlt_f, neq_t, neq_f, n_inb, n_ix, bnd_some, if_true, if_false, ite_tt, ite_ff, not_true_eq_false, not_false_eq_true, eq_self, false_or, or_false, true_or, or_true]
end MU1
