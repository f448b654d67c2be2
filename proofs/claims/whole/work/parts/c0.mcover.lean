/-! THE MODEL: cover -/
section MUA
variable {d B B' l w v x y n j a b c k i m len : Nat} {s s' s1 s2 : mS} {T : aT} {S : aS} {A : aA}
theorem n_subn (h : a ≤ b) : nI a - nI b = -nI (b - a) := by rw [← pk_sub h, Int32.neg_sub]
theorem itr_or {g : Nat → Nat} : itr (fun l v => v ||| g l) n v = v ||| itr (fun l v => v ||| g l) n 0 := by
  induction n with
  | zero => show v = v ||| 0; rw [Nat.or_zero]
  | succ n ih =>
    show itr (fun l v => v ||| g l) n v ||| g n = v ||| (itr (fun l v => v ||| g l) n 0 ||| g n)
    rw [ih, Nat.or_assoc]
theorem m_letIn (ht : tOk T) (hT : MT T s) (ha : a < 2147483648) : ev (d + 1) 313 0 [.inr 67, .inl (nI a), .inr 0, .inr 0, .inr 0] [] s = some (0, nI (ltS T a), s) := by
  have hW := ht.1
  have g := loopU (fun i v => ev (d + 1) 313 4 [.inr 67, .inl (nI a), .inl (nI v), .inl (nI i), .inr 0] [] s) (fun w b => b ||| (if a.testBit w = true then ltW T w else 0)) (tW T) (fun x v hx => by
    have e1 := m_isIn (d := d) (x := a) (i := x) (s := s) ha (by omega)
    have g2 := loopU (fun i v => ev (d + 1) 313 15 [.inr 67, .inl (nI a), .inl (nI v), .inl (nI x), .inl (nI i)] [] s) (fun l v => v ||| (if a.testBit x = true then (if decide (0 < nd T x l) = true then 2 ^ l else 0) else 0)) 10 (fun l v hl => by
      have e2 := (hT.2.2.1 x hx).2.2.2 l hl
      have b2 := nd_le T x l
      have b3 := (ht.2.2.1 x hx).2.1
      rw [E313_15]
      cases hb : a.testBit x with
      | false =>
        rw [hb] at e1
        simp (disch := omega) only [e1, bIf0, E313_53, E313_54, n_or, Bool.false_eq_true, lit, nI_add, pk_mul, n_sub, n_addneg, nle_t, nle_f, nlt_t, nlt_f, neq_t, neq_f, n_inb, n_ix, bnd_some, if_true, if_false, ite_tt, ite_ff, not_true_eq_false, not_false_eq_true, eq_self, false_or, or_false, true_or, or_true]
      | true =>
        rw [hb] at e1
        by_cases hz : 0 < nd T x l
        · rw [decide_eq_true hz]
          simp (disch := omega) only [e1, bIt0, e2, E313_54, n_or, n_pow, lit, nI_add, pk_mul, n_sub, n_addneg, nle_t, nle_f, nlt_t, nlt_f, neq_t, neq_f, n_inb, n_ix, bnd_some, if_true, if_false, ite_tt, ite_ff, not_true_eq_false, not_false_eq_true, eq_self, false_or, or_false, true_or, or_true]
        · rw [decide_eq_false hz]
          simp (disch := omega) only [e1, bIt0, e2, E313_53, E313_54, n_or, Bool.false_eq_true, lit, nI_add, pk_mul, n_sub, n_addneg, nle_t, nle_f, nlt_t, nlt_f, neq_t, neq_f, n_inb, n_ix, bnd_some, if_true, if_false, ite_tt, ite_ff, not_true_eq_false, not_false_eq_true, eq_self, false_or, or_false, true_or, or_true]) v
    have e3 : itr (fun l v => v ||| (if a.testBit x = true then (if decide (0 < nd T x l) = true then 2 ^ l else 0) else 0)) 10 v = v ||| (if a.testBit x = true then ltW T x else 0) := by
      rw [itr_or]
      congr 1
      cases hb : a.testBit x with
      | false =>
        simp only [Bool.false_eq_true, if_false]
        have : ∀ n, itr (fun (_ : Nat) v => v ||| 0) n 0 = 0 := fun n => by
          induction n with
          | zero => rfl
          | succ n ih =>
            show itr (fun (_ : Nat) v => v ||| 0) n 0 ||| 0 = 0
            rw [ih]
            rfl
        exact this 10
      | true =>
        simp only [if_true]
        rfl
    rw [e3] at g2
    rw [E313_4, hT.1]
    simp (disch := omega) only [lit, nI_add, pk_mul, n_sub, n_addneg, nle_t, nle_f, nlt_t, nlt_f, neq_t, neq_f, n_inb, n_ix, bnd_some, if_true, if_false, ite_tt, ite_ff, not_true_eq_false, not_false_eq_true, eq_self, false_or, or_false, true_or, or_true]
    refine g2.trans ?_
    rw [E313_15]
    simp (disch := omega) only [lit, nI_add, pk_mul, n_sub, n_addneg, nle_t, nle_f, nlt_t, nlt_f, neq_t, neq_f, n_inb, n_ix, bnd_some, if_true, if_false, ite_tt, ite_ff, not_true_eq_false, not_false_eq_true, eq_self, false_or, or_false, true_or, or_true]) 0
  rw [E313_0]
  simp only [lit]
  refine g.trans ?_
  rw [E313_4, hT.1]
  simp (disch := omega) only [lit, nI_add, pk_mul, n_sub, n_addneg, nle_t, nle_f, nlt_t, nlt_f, neq_t, neq_f, n_inb, n_ix, bnd_some, if_true, if_false, ite_tt, ite_ff, not_true_eq_false, not_false_eq_true, eq_self, false_or, or_false, true_or, or_true]
  rfl
theorem ltS_full : ltS T (2 ^ tW T - 1) = ltA T (tW T) := by
  unfold ltS ltA
  have : ∀ n, n ≤ tW T → itr (fun w b => b ||| (if (2 ^ tW T - 1).testBit w = true then ltW T w else 0)) n 0 = itr (fun x a => a ||| ltW T x) n 0 := by
    intro n
    induction n with
    | zero => intro _; rfl
    | succ n ih =>
      intro hn
      show itr (fun w b => b ||| (if (2 ^ tW T - 1).testBit w = true then ltW T w else 0)) n 0 ||| (if (2 ^ tW T - 1).testBit n = true then ltW T n else 0) = itr (fun x a => a ||| ltW T x) n 0 ||| ltW T n
      rw [ih (by omega), Nat.testBit_two_pow_sub_one, decide_eq_true (show n < tW T by omega), if_pos rfl]
  exact this _ (Nat.le_refl _)
theorem pc_full (hW : n ≤ 12) (ha : a < 2 ^ n) (h : pc a = pc (2 ^ n - 1)) : a = 2 ^ n - 1 := by
  have e : pc a + sm (fun i => ((2 ^ n - 1).testBit i).toNat - (a.testBit i).toNat) 12 = pc (2 ^ n - 1) := by
    unfold pc
    rw [← sm_add]
    refine sm_cong (fun i hi => ?_)
    show (a.testBit i).toNat + (((2 ^ n - 1).testBit i).toNat - (a.testBit i).toNat) = ((2 ^ n - 1).testBit i).toNat
    rw [Nat.testBit_two_pow_sub_one]
    by_cases hin : i < n
    · rw [decide_eq_true hin]
      cases a.testBit i <;> rfl
    · rw [decide_eq_false hin, tb_hi ha (by omega)]
      rfl
  have z := sm_allz (show sm (fun i => ((2 ^ n - 1).testBit i).toNat - (a.testBit i).toNat) 12 = 0 by omega)
  refine Nat.eq_of_testBit_eq (fun i => ?_)
  rw [Nat.testBit_two_pow_sub_one]
  by_cases hin : i < n
  · have zi := z i (by omega)
    rw [Nat.testBit_two_pow_sub_one, decide_eq_true hin] at zi
    rw [decide_eq_true hin]
    cases hb : a.testBit i with
    | true => rfl
    | false => rw [hb] at zi; cases zi
  · rw [decide_eq_false hin, tb_hi ha (by omega)]
theorem Y_cover (ha : AOk A B) (h : MJ A B' s) : ∃ s', ev (d + 1 + 1) 315 0 [.inr 67, .inr 0, .inr 0, .inr 0, .inr 0, .inr 0] [] s = some (0, (o_cover A).2, s') ∧ MJ (o_cover A).1 B' s' ∧ gM s s' := by
  obtain ⟨h0, g0⟩ := m_th h
  obtain ⟨s0, hs0⟩ : ∃ s0, s0 = up s 67 18 (nI 0) := ⟨_, rfl⟩
  rw [← hs0] at h0 g0
  have ht := ha.1
  have hT := h0.1
  have hW := ht.1
  have e1w := hT.1
  have hP : 2 ^ tW (gT A) ≤ 4096 := by
    have := Nat.pow_le_pow_right (n := 2) (by omega) hW
    omega
  have hP1 : 1 ≤ 2 ^ tW (gT A) := Nat.pos_of_ne_zero (by simp)
  have epow : nI 1 <<< (nI (tW (gT A)) &&& nI 31) = nI (2 ^ tW (gT A)) := n_pow (by omega)
  have epow1 : (1 : Int32) <<< (nI (tW (gT A)) &&& 31) - 1 = nI (2 ^ tW (gT A) - 1) := by
    rw [← n_sub hP1, ← epow]
    rfl
  have el := m_letIn (d := d) (a := 2 ^ tW (gT A) - 1) (s := s0) ht hT (by omega)
  rw [ltS_full] at el
  have full := fun a => pc_full (n := tW (gT A)) (a := a) hW
  have key : ∀ n, n ≤ 2 ^ tW (gT A) → ev (d + 1 + 1) 315 29 [.inr 67, .inl (nI (ltA (gT A) (tW (gT A)))), .inl (nI (2 ^ tW (gT A) - 1)), .inl (nI 0), .inr 0, .inr 0] [] s0 = ev (d + 1 + 1) 315 29 [.inr 67, .inl (nI (ltA (gT A) (tW (gT A)))), .inl (nI (coN (gT A) n)), .inl (nI n), .inr 0, .inr 0] [] s0 ∧ (coN (gT A) n < n ∨ coN (gT A) n = 2 ^ tW (gT A) - 1) := by
    intro n
    induction n with
    | zero => intro _; exact ⟨rfl, Or.inr rfl⟩
    | succ n ih =>
      intro hn
      obtain ⟨i1, i2⟩ := ih (by omega)
      have i3 : coN (gT A) n ≤ 2 ^ tW (gT A) - 1 := by omega
      rw [i1, coN_s]
      generalize coN (gT A) n = b at i2 i3
      have f1 : ev (d + 1) 331 0 [.inl (nI n)] [] s0 = some (0, nI (pc n), s0) := x_bc (by omega)
      have f2 : ev (d + 1) 331 0 [.inl (nI b)] [] s0 = some (0, nI (pc b), s0) := x_bc (by omega)
      have f3 := m_lenOf (d := d) (a := n) (s := s0) ht hT (by omega)
      have f4 := m_lenOf (d := d) (a := b) (s := s0) ht hT (by omega)
      have f5 := m_letIn (d := d) (a := n) (s := s0) ht hT (by omega)
      have b1 := pc_le n
      have b2 := pc_le b
      have b3 := lnSt_le (a := n) ht
      have b4 := lnSt_le (a := b) ht
      have hlS : ∀ a, ltS (gT A) a < 1024 := fun a => by
        unfold ltS
        have : ∀ n, itr (fun w b => b ||| (if a.testBit w = true then ltW (gT A) w else 0)) n 0 < 2 ^ 10 := fun n => by
          induction n with
          | zero => exact Nat.pow_pos (by omega)
          | succ n ih =>
            show itr (fun w b => b ||| (if a.testBit w = true then ltW (gT A) w else 0)) n 0 ||| (if a.testBit n = true then ltW (gT A) n else 0) < 2 ^ 10
            refine Nat.or_lt_two_pow ih ?_
            split
            · exact bts_lt _ _
            · exact Nat.pow_pos (by omega)
        exact this _
      have hA : ltA (gT A) (tW (gT A)) < 1024 := by rw [← ltS_full]; exact hlS _
      have e114 : ∀ b, ev (d + 1 + 1) 315 114 [.inr 67, .inl (nI (ltA (gT A) (tW (gT A)))), .inl (nI b), .inl (nI n), .inr 0, .inr 0] [] s0 = ev (d + 1 + 1) 315 29 [.inr 67, .inl (nI (ltA (gT A) (tW (gT A)))), .inl (nI b), .inl (nI (n + 1)), .inr 0, .inr 0] [] s0 := fun b => by
        rw [E315_114]
        simp (disch := omega) only [lit, nI_add, pk_mul, n_sub, n_addneg, nle_t, nle_f, nlt_t, nlt_f, neq_t, neq_f, n_inb, n_ix, bnd_some, if_true, if_false, ite_tt, ite_ff, not_true_eq_false, not_false_eq_true, eq_self, false_or, or_false, true_or, or_true]
      have e95 : ev (d + 1 + 1) 315 95 [.inr 67, .inl (nI (ltA (gT A) (tW (gT A)))), .inl (nI b), .inl (nI n), .inr 0, .inr 0] [] s0 = ev (d + 1 + 1) 315 29 [.inr 67, .inl (nI (ltA (gT A) (tW (gT A)))), .inl (nI b), .inl (nI (n + 1)), .inr 0, .inr 0] [] s0 := by
        rw [E315_95, E315_96]
        simp (disch := omega) only [e114, lit, nI_add, pk_mul, n_sub, n_addneg, nle_t, nle_f, nlt_t, nlt_f, neq_t, neq_f, n_inb, n_ix, bnd_some, if_true, if_false, ite_tt, ite_ff, not_true_eq_false, not_false_eq_true, eq_self, false_or, or_false, true_or, or_true]
      have e91 : ev (d + 1 + 1) 315 91 [.inr 67, .inl (nI (ltA (gT A) (tW (gT A)))), .inl (nI b), .inl (nI n), .inr 0, .inr 0] [] s0 = ev (d + 1 + 1) 315 29 [.inr 67, .inl (nI (ltA (gT A) (tW (gT A)))), .inl (nI (if ltS (gT A) n = ltA (gT A) (tW (gT A)) then n else b)), .inl (nI (n + 1)), .inr 0, .inr 0] [] s0 := by
        have hs := hlS n
        rw [E315_91, E315_96]
        by_cases z : ltS (gT A) n = ltA (gT A) (tW (gT A))
        · rw [if_pos z]
          simp (disch := omega) only [f5, z, e114, lit, nI_add, pk_mul, n_sub, n_addneg, nle_t, nle_f, nlt_t, nlt_f, neq_t, neq_f, n_inb, n_ix, bnd_some, if_true, if_false, ite_tt, ite_ff, not_true_eq_false, not_false_eq_true, eq_self, false_or, or_false, true_or, or_true]
        · rw [if_neg z]
          simp (disch := omega) only [f5, e114, lit, nI_add, pk_mul, n_sub, n_addneg, nle_t, nle_f, nlt_t, nlt_f, neq_t, neq_f, n_inb, n_ix, bnd_some, if_true, if_false, ite_tt, ite_ff, not_true_eq_false, not_false_eq_true, eq_self, false_or, or_false, true_or, or_true]
      unfold coB
      have res : ∀ P : Prop, (h : P ↔ (pc n < pc b ∨ pc n = pc b ∧ lnSt (gT A) n < lnSt (gT A) b)) → (P → (if (pc n < pc b ∨ pc n = pc b ∧ lnSt (gT A) n < lnSt (gT A) b) ∧ ltS (gT A) n = ltA (gT A) (tW (gT A)) then n else b) = if ltS (gT A) n = ltA (gT A) (tW (gT A)) then n else b) ∧ (¬ P → (if (pc n < pc b ∨ pc n = pc b ∧ lnSt (gT A) n < lnSt (gT A) b) ∧ ltS (gT A) n = ltA (gT A) (tW (gT A)) then n else b) = b) := fun P h => by
        refine ⟨fun z => ?_, fun z => if_neg (fun y => z (h.mpr y.1))⟩
        by_cases y : ltS (gT A) n = ltA (gT A) (tW (gT A))
        · rw [if_pos ⟨h.mp z, y⟩, if_pos y]
        · rw [if_neg (fun u => y u.2), if_neg y]
      refine ⟨?_, by
        by_cases z : (pc n < pc b ∨ pc n = pc b ∧ lnSt (gT A) n < lnSt (gT A) b) ∧ ltS (gT A) n = ltA (gT A) (tW (gT A))
        · rw [if_pos z]; omega
        · rw [if_neg z]; omega⟩
      by_cases c1 : pc n < pc b
      · rw [((res True (by simp [c1])).1 trivial), ← e91, E315_29, e1w]
        have hneg : -nI (pc b - pc n) < nI 0 := by
          rw [Int32.lt_iff_toInt_lt, negI (by omega), toI (by omega)]
          omega
        simp (disch := omega) only [epow, f1, f2, n_subn, hneg, lit, nI_add, pk_mul, n_sub, n_addneg, nle_t, nle_f, nlt_t, nlt_f, neq_t, neq_f, n_inb, n_ix, bnd_some, if_true, if_false, ite_tt, ite_ff, not_true_eq_false, not_false_eq_true, eq_self, false_or, or_false, true_or, or_true]
      · by_cases c2 : pc n = pc b
        · have z0 : nI (pc b) - nI (pc b) = nI 0 := by rw [n_sub (Nat.le_refl _), Nat.sub_self]
          by_cases c3 : lnSt (gT A) n < lnSt (gT A) b
          · rw [((res True (by simp [c2, c3])).1 trivial), ← e91, E315_29, e1w]
            simp (disch := omega) only [epow, f1, f2, c2, z0, f3, f4, lit, nI_add, pk_mul, n_sub, n_addneg, nle_t, nle_f, nlt_t, nlt_f, neq_t, neq_f, n_inb, n_ix, bnd_some, if_true, if_false, ite_tt, ite_ff, not_true_eq_false, not_false_eq_true, eq_self, false_or, or_false, true_or, or_true]
          · rw [((res False (by simp [c1, c3])).2 (fun z => z)), ← e95, E315_29, e1w]
            by_cases c4 : lnSt (gT A) n = lnSt (gT A) b
            · have hbn : b ≤ n := by
                rcases i2 with z | z
                · omega
                · rw [z] at c2
                  have := full n (by omega) c2
                  omega
              have hln : nI (lnSt (gT A) n) = nI (lnSt (gT A) b) := by rw [c4]
              have f3' := f3
              rw [c4] at f3'
              simp (disch := omega) only [epow, f1, f2, c2, z0, f3', f4, lit, nI_add, pk_mul, n_sub, n_addneg, nle_t, nle_f, nlt_t, nlt_f, neq_t, neq_f, n_inb, n_ix, bnd_some, if_true, if_false, ite_tt, ite_ff, not_true_eq_false, not_false_eq_true, eq_self, false_or, or_false, true_or, or_true]
            · simp (disch := omega) only [epow, f1, f2, c2, z0, f3, f4, lit, nI_add, pk_mul, n_sub, n_addneg, nle_t, nle_f, nlt_t, nlt_f, neq_t, neq_f, n_inb, n_ix, bnd_some, if_true, if_false, ite_tt, ite_ff, not_true_eq_false, not_false_eq_true, eq_self, false_or, or_false, true_or, or_true]
        · rw [((res False (by simp [c1, c2])).2 (fun z => z)), ← e95, E315_29, e1w]
          simp (disch := omega) only [epow, f1, f2, lit, nI_add, pk_mul, n_sub, n_addneg, nle_t, nle_f, nlt_t, nlt_f, neq_t, neq_f, n_inb, n_ix, bnd_some, if_true, if_false, ite_tt, ite_ff, not_true_eq_false, not_false_eq_true, eq_self, false_or, or_false, true_or, or_true]
  obtain ⟨k1, k2⟩ := key _ (Nat.le_refl _)
  unfold o_cover
  have hb : coN (gT A) (2 ^ tW (gT A)) < 4096 := by omega
  generalize coN (gT A) (2 ^ tW (gT A)) = b at k1 k2 hb
  obtain ⟨s1, r1, q1, w1⟩ := m_tell1 (d := d + 1) (s := s0) (p := nI b)
  have f2 : ev (d + 1) 331 0 [.inl (nI b)] [] s1 = some (0, nI (pc b), s1) := x_bc hb
  refine ⟨s1, ?_, MJ_row h0 q1 (by decide) (by decide) w1, g0.tr (q1.g (by decide))⟩
  rw [E315_0, show up s 67 18 0 = s0 from hs0.symm, e1w, epow1, el, bnd_some, e1w, epow1]
  simp only [lit]
  rw [k1, E315_29, e1w]
  simp (disch := omega) only [epow, r1, f2, lit, nI_add, pk_mul, n_sub, n_addneg, nle_t, nle_f, nlt_t, nlt_f, neq_t, neq_f, n_inb, n_ix, bnd_some, if_true, if_false, ite_tt, ite_ff, not_true_eq_false, not_false_eq_true, eq_self, false_or, or_false, true_or, or_true]
end MUA
