/-! THE MODEL: hoards -/
section MU5
variable {d B B' l w v x y n a b c k i o : Nat} {s s' s1 s2 : mS} {T : aT} {S : aS} {A : aA} {p q : Int32} {f : Nat → Nat → Nat} {am : Nat} {pl pl' : Nat → Nat}
theorem sub_del {q w : Nat} : (subS a (q &&& (q ^^^ 2 ^ w)) = true) = (subS a q = true ∧ a.testBit w = false) := by
  apply propext
  rw [subS_iff, subS_iff]
  constructor
  · intro h
    refine ⟨fun i hi => ?_, ?_⟩
    · have := h i hi
      rw [Nat.testBit_and, Bool.and_eq_true] at this
      exact this.1
    · cases hw : a.testBit w with
      | false => rfl
      | true =>
        have := h w hw
        rw [Nat.testBit_and, Nat.testBit_xor, Nat.testBit_two_pow, decide_eq_true rfl] at this
        cases hq : q.testBit w <;> rw [hq] at this <;> cases this
  · rintro ⟨h1, h2⟩ i hi
    have hne : ¬ w = i := fun z => by rw [z, hi] at h2; cases h2
    rw [Nat.testBit_and, Nat.testBit_xor, Nat.testBit_two_pow, decide_eq_false hne, h1 i hi]
    rfl
theorem fit_all : fitS f pl am a = (subS a am && allN (fun l => decide (sumS (fun w => f w l) a ≤ pl l)) 10) := by
  unfold fitS
  cases subS a am with
  | false => rfl
  | true =>
    show decide (lkA f pl a = 0) = allN _ 10
    cases h : allN (fun l => decide (sumS (fun w => f w l) a ≤ pl l)) 10 with
    | true =>
      refine decide_eq_true (sm_zero (fun l hl => ?_))
      have := of_decide_eq_true (allN_iff.mp h l hl)
      unfold lkS; omega
    | false =>
      refine decide_eq_false (fun z => ?_)
      have : allN (fun l => decide (sumS (fun w => f w l) a ≤ pl l)) 10 = true := allN_iff.mpr (fun l hl => decide_eq_true (by
        have := sm_allz z l hl
        unfold lkS at this; omega))
      rw [this] at h; cases h
theorem mwN_more (h : n ≤ k) (hm : ∀ i, n ≤ i → subS (i + 1) am = true → (i + 1).testBit w = true) : mwN f am pl w k = mwN f am pl w n := itr_moreM h (fun i b hi => by
  show (if _ then _ else _) = _
  rw [if_neg]
  rintro ⟨z1, -, z3⟩
  unfold fitS at z3
  rw [Bool.and_eq_true] at z3
  rw [hm i hi z3.1] at z1
  cases z1)
/-- what the walls of a set want of a letter, one behind the other -/
theorem m_freedS (ht : tOk T) (ho : sOk T S B) (hT : MT T s) (h : MSt T S s) (hw : w < tN T) (ha : a < 256) (hs : ∀ w, a.testBit w = true → w < tN T) (hl : l < 10) {p q : Int32} : ev (d + 1) 320 67 [.inr 67, .inl (nI w), .inl p, .inl q, .inl (nI a), .inr 0, .inl (nI l), .inl (nI 0), .inl (nI 0)] [] s = ev (d + 1) 320 49 [.inr 67, .inl (nI w), .inl p, .inl q, .inl (nI a), .inl (bI (decide (sumS (fun w => ndL T S true w l) a ≤ sL S l + sG S w l))), .inl (nI (l + 1)), .inr 0, .inr 0] [] s := by
  have hN := ht.2.1
  have g := loopU (fun i v => ev (d + 1) 320 67 [.inr 67, .inl (nI w), .inl p, .inl q, .inl (nI a), .inr 0, .inl (nI l), .inl (nI v), .inl (nI i)] [] s) (fun o v => v + (if a.testBit o = true then ndL T S true o l else 0)) (tN T) (fun o v hi => by
    have e1 := m_isIn (d := d) (x := a) (i := o) (s := s) (by omega) (by omega)
    have e2 := m_lacks (d := d) ht h hi hl hT (fun x hx => ⟨(wOk_s (ho.1 o) hx).2.1, (wOk_s (ho.1 o) hx).2.2.1 l⟩)
    rw [E320_67, hT.2.1]
    cases hb : a.testBit o with
    | false =>
      rw [hb] at e1
      simp (disch := omega) only [e1, bIf0, E320_100, Bool.false_eq_true, lit, nI_add, pk_mul, n_sub, n_addneg, nle_t, nle_f, nlt_t, nlt_f, neq_t, neq_f, n_inb, n_ix, bnd_some, if_true, if_false, ite_tt, ite_ff, not_true_eq_false, not_false_eq_true, eq_self, false_or, or_false, true_or, or_true]
    | true =>
      rw [hb] at e1
      simp (disch := omega) only [e1, bIt0, e2, E320_100, lit, nI_add, pk_mul, n_sub, n_addneg, nle_t, nle_f, nlt_t, nlt_f, neq_t, neq_f, n_inb, n_ix, bnd_some, if_true, if_false, ite_tt, ite_ff, not_true_eq_false, not_false_eq_true, eq_self, false_or, or_false, true_or, or_true]
      rfl) 0
  have e0 : itr (fun o v => v + (if a.testBit o = true then ndL T S true o l else 0)) (tN T) 0 = sumS (fun w => ndL T S true w l) a := by
    unfold sumS
    rw [sm_more hN (f := fun w => if a.testBit w = true then ndL T S true w l else 0) (fun i h1 _ => by
      show (if a.testBit i = true then ndL T S true i l else 0) = 0
      rw [if_neg (fun z => by have := hs i z; omega)])]
    rfl
  rw [e0] at g
  refine g.trans ?_
  have b1 := sumS_le (f := fun w => ndL T S true w l) (a := a) (c := 8) (fun w => ndL_le ht ho)
  have b2 := (hal_le ho hl).2
  have b3 := sG_le (l := l) ht (ho.1 w)
  have c1 := h.2.1 l hl
  have c2 := (h.1 w hw).2.2.2 l hl
  generalize sumS (fun w => ndL T S true w l) a = z at b1
  rw [E320_67, hT.2.1]
  by_cases hz : z ≤ sL S l + sG S w l
  · rw [decide_eq_true hz]
    simp (disch := omega) only [c1, c2, E320_139, lit, nI_add, pk_mul, n_sub, n_addneg, nle_t, nle_f, nlt_t, nlt_f, neq_t, neq_f, n_inb, n_ix, bnd_some, if_true, if_false, ite_tt, ite_ff, not_true_eq_false, not_false_eq_true, eq_self, false_or, or_false, true_or, or_true]
    rfl
  · rw [decide_eq_false hz]
    simp (disch := omega) only [c1, c2, E320_139, lit, nI_add, pk_mul, n_sub, n_addneg, nle_t, nle_f, nlt_t, nlt_f, neq_t, neq_f, n_inb, n_ix, bnd_some, if_true, if_false, ite_tt, ite_ff, not_true_eq_false, not_false_eq_true, eq_self, false_or, or_false, true_or, or_true]
    rfl
theorem m_freed (ht : tOk T) (ho : sOk T S B) (hT : MT T s) (h : MSt T S s) (hw : w < tN T) : ev (d + 1 + 1 + 1 + 1) 320 0 [.inr 67, .inl (nI w), .inr 0, .inr 0, .inr 0, .inr 0, .inr 0, .inr 0, .inr 0] [] s = some (0, nI (mwN (ndL T S true) (bts (isQ T S) 8) (fun l => sL S l + sG S w l) w 255), s) := by
  have hN := ht.2.1
  have eq := m_waiters (d := d) ht ho hT h
  have hql := bts_lt8 (isQ T S) (n := 8) (by omega)
  have hqN := wq_am (T := T) ho
  have epow : nI 1 <<< (nI w &&& nI 31) = nI (2 ^ w) := n_pow (by omega)
  generalize hQ : bts (isQ T S) 8 = Q at eq hql hqN
  obtain ⟨O, hO⟩ : ∃ O, O = Q &&& (Q ^^^ 2 ^ w) := ⟨_, rfl⟩
  have hOle : O ≤ Q := by rw [hO]; exact Nat.and_le_left
  have hsub : ∀ a, (subS a O = true) = (subS a Q = true ∧ a.testBit w = false) := fun a => by rw [hO]; exact sub_del
  have e158 : ∀ m n : Nat, ev (d + 1 + 1 + 1 + 1) 320 158 [.inr 67, .inl (nI w), .inl (nI O), .inl (nI m), .inl (nI n), .inr 0, .inr 0, .inr 0, .inr 0] [] s = ev (d + 1 + 1 + 1 + 1) 320 16 [.inr 67, .inl (nI w), .inl (nI O), .inl (nI m), .inl (nI (n + 1)), .inr 0, .inr 0, .inr 0, .inr 0] [] s := fun m n => by
    rw [E320_158]
    simp (disch := omega) only [lit, nI_add, pk_mul, n_sub, n_addneg, nle_t, nle_f, nlt_t, nlt_f, neq_t, neq_f, n_inb, n_ix, bnd_some, if_true, if_false, ite_tt, ite_ff, not_true_eq_false, not_false_eq_true, eq_self, false_or, or_false, true_or, or_true]
  have can : ∀ a m, a < 256 → subS a Q = true → ev (d + 1 + 1 + 1 + 1) 320 49 [.inr 67, .inl (nI w), .inl (nI O), .inl (nI m), .inl (nI a), .inl (nI 1), .inl (nI 0), .inr 0, .inr 0] [] s = if allN (fun l => decide (sumS (fun w => ndL T S true w l) a ≤ sL S l + sG S w l)) 10 = true then ev (d + 1 + 1 + 1 + 1) 320 158 [.inr 67, .inl (nI w), .inl (nI O), .inl (nI (pc a)), .inl (nI a), .inr 0, .inr 0, .inr 0, .inr 0] [] s else ev (d + 1 + 1 + 1 + 1) 320 158 [.inr 67, .inl (nI w), .inl (nI O), .inl (nI m), .inl (nI a), .inr 0, .inr 0, .inr 0, .inr 0] [] s := by
    intro a m hlt hs
    have hbt : ∀ w, a.testBit w = true → w < tN T := fun w hw => hqN w (sub_bit hs hw)
    have e := loopA (fun i => ev (d + 1 + 1 + 1 + 1) 320 49 [.inr 67, .inl (nI w), .inl (nI O), .inl (nI m), .inl (nI a), .inl (nI 1), .inl (nI i), .inr 0, .inr 0] [] s) (fun l => decide (sumS (fun w => ndL T S true w l) a ≤ sL S l + sG S w l)) (ev (d + 1 + 1 + 1 + 1) 320 158 [.inr 67, .inl (nI w), .inl (nI O), .inl (nI m), .inl (nI a), .inr 0, .inr 0, .inr 0, .inr 0] [] s) 10 (fun i hi hp => by
        have f1 := m_freedS (d := d + 1 + 1 + 1) (p := nI O) (q := nI m) ht ho hT h hw hlt hbt hi
        rw [hp] at f1
        rw [E320_49]
        simp (disch := omega) only [lit, nI_add, pk_mul, n_sub, n_addneg, nle_t, nle_f, nlt_t, nlt_f, neq_t, neq_f, n_inb, n_ix, bnd_some, if_true, if_false, ite_tt, ite_ff, not_true_eq_false, not_false_eq_true, eq_self, false_or, or_false, true_or, or_true]
        refine f1.trans rfl) (fun i hi hp => by
        have f1 := m_freedS (d := d + 1 + 1 + 1) (p := nI O) (q := nI m) ht ho hT h hw hlt hbt hi
        rw [hp] at f1
        rw [E320_49]
        simp (disch := omega) only [lit, nI_add, pk_mul, n_sub, n_addneg, nle_t, nle_f, nlt_t, nlt_f, neq_t, neq_f, n_inb, n_ix, bnd_some, if_true, if_false, ite_tt, ite_ff, not_true_eq_false, not_false_eq_true, eq_self, false_or, or_false, true_or, or_true]
        refine f1.trans ?_
        rw [E320_49]
        simp (disch := omega) only [bIf0, E320_147, lit, nI_add, pk_mul, n_sub, n_addneg, nle_t, nle_f, nlt_t, nlt_f, neq_t, neq_f, n_inb, n_ix, bnd_some, if_true, if_false, ite_tt, ite_ff, not_true_eq_false, not_false_eq_true, eq_self, false_or, or_false, true_or, or_true]
        exact ite_self _)
    refine e.trans ?_
    by_cases z : allN (fun l => decide (sumS (fun w => ndL T S true w l) a ≤ sL S l + sG S w l)) 10 = true
    · have eb : ev (d + 1 + 1 + 1) 331 0 [.inl (nI a)] [] s = some (0, nI (pc a), s) := x_bc (by omega)
      rw [if_pos z, if_pos z, E320_49]
      simp (disch := omega) only [E320_147, eb, lit, nI_add, pk_mul, n_sub, n_addneg, nle_t, nle_f, nlt_t, nlt_f, neq_t, neq_f, n_inb, n_ix, bnd_some, if_true, if_false, ite_tt, ite_ff, not_true_eq_false, not_false_eq_true, eq_self, false_or, or_false, true_or, or_true]
    · rw [if_neg z, if_neg z]
  have key : ∀ n, n ≤ O → ev (d + 1 + 1 + 1 + 1) 320 16 [.inr 67, .inl (nI w), .inl (nI O), .inl (nI 0), .inl (nI 0), .inr 0, .inr 0, .inr 0, .inr 0] [] s = ev (d + 1 + 1 + 1 + 1) 320 16 [.inr 67, .inl (nI w), .inl (nI O), .inl (nI (mwN (ndL T S true) Q (fun l => sL S l + sG S w l) w n)), .inl (nI (n + 1)), .inr 0, .inr 0, .inr 0, .inr 0] [] s := by
    intro n
    induction n with
    | zero =>
      intro _
      have eb : ev (d + 1 + 1 + 1) 331 0 [.inl (nI 0)] [] s = some (0, nI 0, s) := x_bc (by omega)
      have ns : (nI 0 &&& (nI O ^^^ -nI 1) = nI 0) := by rw [n_sub0 (by omega)]; exact subS_0
      show _ = ev (d + 1 + 1 + 1 + 1) 320 16 [.inr 67, .inl (nI w), .inl (nI O), .inl (nI 0), .inl (nI (0 + 1)), .inr 0, .inr 0, .inr 0, .inr 0] [] s
      rw [E320_16]
      simp (disch := omega) only [ns, eb, e158, lit, nI_add, pk_mul, n_sub, n_addneg, nle_t, nle_f, nlt_t, nlt_f, neq_t, neq_f, n_inb, n_ix, bnd_some, if_true, if_false, ite_tt, ite_ff, not_true_eq_false, not_false_eq_true, eq_self, false_or, or_false, true_or, or_true]
    | succ n ih =>
      intro hn
      have hm := mwN_le (f := ndL T S true) (am := Q) (pl := fun l => sL S l + sG S w l) (w := w) (n := n)
      rw [ih (by omega), mwN_s, fit_all]
      generalize mwN (ndL T S true) Q (fun l => sL S l + sG S w l) w n = m at hm
      have ns := n_sub0 (a := n + 1) (b := O) (by omega)
      rw [hsub] at ns
      have eb : ev (d + 1 + 1 + 1) 331 0 [.inl (nI (n + 1))] [] s = some (0, nI (pc (n + 1)), s) := x_bc (by omega)
      have hpc := pc_le (n + 1)
      by_cases hs : subS (n + 1) Q = true ∧ (n + 1).testBit w = false
      · have ns' : nI (n + 1) &&& (nI O ^^^ -nI 1) = nI 0 := by rw [ns]; exact hs
        rw [hs.1, Bool.true_and]
        by_cases hb : m < pc (n + 1)
        · have cn := can (n + 1) m (by omega) hs.1
          rw [e158, e158] at cn
          by_cases hf : allN (fun l => decide (sumS (fun w => ndL T S true w l) (n + 1) ≤ sL S l + sG S w l)) 10 = true
          · rw [if_pos hf] at cn
            rw [if_pos ⟨hs.2, hb, hf⟩, E320_16]
            simp (disch := omega) only [ns', eb, cn, lit, nI_add, pk_mul, n_sub, n_addneg, nle_t, nle_f, nlt_t, nlt_f, neq_t, neq_f, n_inb, n_ix, bnd_some, if_true, if_false, ite_tt, ite_ff, not_true_eq_false, not_false_eq_true, eq_self, false_or, or_false, true_or, or_true]
          · rw [if_neg hf] at cn
            rw [if_neg (fun z => hf z.2.2), E320_16]
            simp (disch := omega) only [ns', eb, cn, lit, nI_add, pk_mul, n_sub, n_addneg, nle_t, nle_f, nlt_t, nlt_f, neq_t, neq_f, n_inb, n_ix, bnd_some, if_true, if_false, ite_tt, ite_ff, not_true_eq_false, not_false_eq_true, eq_self, false_or, or_false, true_or, or_true]
        · rw [if_neg (fun z => hb z.2.1), E320_16]
          simp (disch := omega) only [ns', eb, e158, lit, nI_add, pk_mul, n_sub, n_addneg, nle_t, nle_f, nlt_t, nlt_f, neq_t, neq_f, n_inb, n_ix, bnd_some, if_true, if_false, ite_tt, ite_ff, not_true_eq_false, not_false_eq_true, eq_self, false_or, or_false, true_or, or_true]
      · have ns' : ¬ nI (n + 1) &&& (nI O ^^^ -nI 1) = nI 0 := by rw [ns]; exact hs
        rw [if_neg (fun z => hs ⟨(Bool.and_eq_true_iff.mp z.2.2).1, z.1⟩), E320_16]
        simp (disch := omega) only [ns', e158, lit, nI_add, pk_mul, n_sub, n_addneg, nle_t, nle_f, nlt_t, nlt_f, neq_t, neq_f, n_inb, n_ix, bnd_some, if_true, if_false, ite_tt, ite_ff, not_true_eq_false, not_false_eq_true, eq_self, false_or, or_false, true_or, or_true]
  have k1 := key O (Nat.le_refl _)
  have hO255 : O ≤ 255 := by omega
  rw [← mwN_more (f := ndL T S true) (am := Q) (pl := fun l => sL S l + sG S w l) (w := w) (n := O) (k := 255) hO255 (fun i hi hs => by
    cases hb : (i + 1).testBit w with
    | true => rfl
    | false =>
      have h1 : subS (i + 1) O = true := by rw [hsub]; exact ⟨hs, hb⟩
      have := sub_le h1
      omega)] at k1
  rw [E320_0, eq, bnd_some]
  have em : nI Q &&& ((1 : Int32) <<< (nI w &&& 31) ^^^ -1) = nI O := by
    have : nI Q &&& (nI (2 ^ w) ^^^ -nI 1) = nI O := by rw [n_andn, hO]
    rw [← epow] at this
    exact this
  rw [em]
  simp only [lit]
  rw [k1, E320_16]
  simp (disch := omega) only [lit, nI_add, pk_mul, n_sub, n_addneg, nle_t, nle_f, nlt_t, nlt_f, neq_t, neq_f, n_inb, n_ix, bnd_some, if_true, if_false, ite_tt, ite_ff, not_true_eq_false, not_false_eq_true, eq_self, false_or, or_false, true_or, or_true]
theorem hoV_le : hoV A w ≤ 12 := mwN_le
theorem Y_hoards (ha : AOk A B) (h : MJ A B' s) : ∃ s', ev (d + 1 + 1 + 1 + 1 + 1) 321 0 [.inr 67, .inr 0, .inr 0, .inr 0, .inr 0] [] s = some (0, (o_hoards A).2, s') ∧ MJ (o_hoards A).1 B' s' ∧ gM s s' := by
  obtain ⟨h0, g0⟩ := m_th h
  obtain ⟨s0, hs0⟩ : ∃ s0, s0 = up s 67 18 (nI 0) := ⟨_, rfl⟩
  rw [← hs0] at h0 g0
  have ht := ha.1
  have ho := ha.2.1
  have hT := h0.1
  have hS := h0.2.1
  have hN := ht.2.1
  have e6 := hT.2.1
  unfold o_hoards
  by_cases hz : tN (gT A) = 0
  · rw [if_pos hz]
    rw [hz] at e6
    refine ⟨s0, ?_, h0, g0⟩
    rw [E321_0, show up s 67 18 0 = s0 from hs0.symm, e6]
    simp (disch := omega) only [lit, nI_add, pk_mul, n_sub, n_addneg, nle_t, nle_f, nlt_t, nlt_f, neq_t, neq_f, n_inb, n_ix, bnd_some, if_true, if_false, ite_tt, ite_ff, not_true_eq_false, not_false_eq_true, eq_self, false_or, or_false, true_or, or_true]
  rw [if_neg hz]
  have st : ∀ w (a1 a2 : Int32), w < tN (gT A) → ev (d + 1 + 1 + 1 + 1 + 1) 321 21 [.inr 67, .inl a1, .inl a2, .inl (nI w), .inr 0] [] s0 = if a2 < nI (hoV A w) then ev (d + 1 + 1 + 1 + 1 + 1) 321 21 [.inr 67, .inl (nI w), .inl (nI (hoV A w)), .inl (nI (w + 1)), .inr 0] [] s0 else ev (d + 1 + 1 + 1 + 1 + 1) 321 21 [.inr 67, .inl a1, .inl a2, .inl (nI (w + 1)), .inr 0] [] s0 := by
    intro w a1 a2 hw
    have f1 : ev (d + 1 + 1 + 1 + 1) 320 0 [.inr 67, .inl (nI w), .inr 0, .inr 0, .inr 0, .inr 0, .inr 0, .inr 0, .inr 0] [] s0 = some (0, nI (hoV A w), s0) := m_freed ht ho hT hS hw
    rw [E321_21, e6]
    simp (disch := omega) only [f1, lit, nI_add, pk_mul, n_sub, n_addneg, nle_t, nle_f, nlt_t, nlt_f, neq_t, neq_f, n_inb, n_ix, bnd_some, if_true, if_false, ite_tt, ite_ff, not_true_eq_false, not_false_eq_true, eq_self, false_or, or_false, true_or, or_true]
    rw [E321_50, E321_50]
    simp only [lit, nI_add]
  have key : ∀ n, n + 1 ≤ tN (gT A) → ev (d + 1 + 1 + 1 + 1 + 1) 321 21 [.inr 67, .inl (nI 0), .inl (-nI 1), .inl (nI 0), .inr 0] [] s0 = ev (d + 1 + 1 + 1 + 1 + 1) 321 21 [.inr 67, .inl (nI (bstR (fun w => nI (hoV A w)) n)), .inl (nI (hoV A (bstR (fun w => nI (hoV A w)) n))), .inl (nI (n + 1)), .inr 0] [] s0 := by
    intro n
    induction n with
    | zero =>
      intro _
      have z1 := hoV_le (A := A) (w := 0)
      have z2 : -nI 1 < nI (hoV A 0) := by rw [nnegl (by omega) (by omega) (by omega)]; trivial
      rw [st 0 _ _ (by omega), if_pos z2]
      rfl
    | succ n ih =>
      intro hn
      have hb := bstR_le (v := fun w => nI (hoV A w)) (n := n)
      have z1 := hoV_le (A := A) (w := n + 1)
      have z2 := hoV_le (A := A) (w := bstR (fun w => nI (hoV A w)) n)
      rw [ih (by omega), st (n + 1) _ _ (by omega), bstR_s]
      generalize bstR (fun w => nI (hoV A w)) n = b at hb z2 ⊢
      by_cases hv : hoV A (n + 1) ≤ hoV A b
      · have y1 : nI (hoV A (n + 1)) ≤ nI (hoV A b) := by rw [nle_t hv (by omega)]; trivial
        have y2 : ¬ nI (hoV A b) < nI (hoV A (n + 1)) := by rw [nlt_f hv (by omega)]; exact not_false
        rw [if_pos y1, if_neg y2]
      · have y1 : ¬ nI (hoV A (n + 1)) ≤ nI (hoV A b) := by rw [nle_f (by omega) (by omega)]; exact not_false
        have y2 : nI (hoV A b) < nI (hoV A (n + 1)) := by rw [nlt_t (by omega) (by omega)]; trivial
        rw [if_neg y1, if_pos y2]
  have k1 := key (tN (gT A) - 1) (by omega)
  rw [show tN (gT A) - 1 + 1 = tN (gT A) by omega] at k1
  obtain ⟨s1, r1, q1, w1⟩ := m_tell1 (d := d + 1 + 1 + 1 + 1) (s := s0) (p := nI (hoV A (bstR (fun w => nI (hoV A w)) (tN (gT A) - 1))))
  refine ⟨s1, ?_, MJ_row h0 q1 (by decide) (by decide) w1, g0.tr (q1.g (by decide))⟩
  have hz' : ¬ nI (tN (gT A)) = nI 0 := fun z => hz ((nI_eq (by omega) (by omega)).mp z)
  rw [E321_0, show up s 67 18 0 = s0 from hs0.symm, e6]
  refine (if_pos hz').trans ?_
  simp only [lit]
  rw [k1, E321_21, e6]
  simp (disch := omega) only [r1, lit, nI_add, pk_mul, n_sub, n_addneg, nle_t, nle_f, nlt_t, nlt_f, neq_t, neq_f, n_inb, n_ix, bnd_some, if_true, if_false, ite_tt, ite_ff, not_true_eq_false, not_false_eq_true, eq_self, false_or, or_false, true_or, or_true]
end MU5
