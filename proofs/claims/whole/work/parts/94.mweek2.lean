/-! THE MODEL: a week -/
def mostV (v : Nat → Int32) : Option Nat → Int32
  | none => nI 0
  | some x => v x
def wkP : List Nat := [68, 75, 76, 77, 78]
section MSC
variable {d B w l x y n c own : Nat} {s s' : mS} {T : aT} {S : aS} {A : aA} {φ : aR} {P F : List Nat} {done : Nat → Bool} {a : Int32}
theorem m_exp (ht : tOk T) (ho : sOk T S B) (hB : B < 2147483000) (hT : MT T s) (h : MSt T S s) : ∀ n, n ≤ tN T → ∃ s', ev (d + 1 + 1 + 1) 280 2 [.inr 67, .inl (nI 0), .inr 0, .inr 0, .inr 0, .inr 0, .inr 0] [] s = ev (d + 1 + 1 + 1) 280 2 [.inr 67, .inl (nI n), .inr 0, .inr 0, .inr 0, .inr 0, .inr 0] [] s' ∧ MSt T (expN T S n) s' ∧ Eqm wkP [] s s' := by
  have hN := ht.2.1
  intro n
  induction n with
  | zero => intro _; exact ⟨s, rfl, h, Eqm.rf⟩
  | succ n ih =>
    intro hn
    obtain ⟨s1, e1, m1, q1⟩ := ih (by omega)
    have o1 := sOk_expN (n := n) ht ho (by omega)
    have hT1 := MT_q hT q1 (by decide) (by decide)
    have e2 := m_isUp (d := d) ht o1 hT1 m1 (show n < tN T by omega)
    have t1 := (hT1.2.2.2 n (by omega)).2
    have t2 := (m1.1 n (by omega)).2.2.1
    have b1 := ht.2.2.2 n (by omega)
    have hu := (sU_le (w := n) o1).1
    rw [show expN T S (n + 1) = expS T (expN T S n) n from rfl]
    unfold expS
    cases hup : isU T (expN T S n) n with
    | false =>
      rw [hup] at e2
      rw [if_neg (fun z => by cases z.1)]
      refine ⟨s1, ?_, m1, q1⟩
      rw [e1, E280_2, hT1.2.1]
      simp (disch := omega) only [e2, bIf0, E280_47, lit, nI_add, pk_mul, n_sub, n_addneg, nle_t, nle_f, nlt_t, nlt_f, neq_t, neq_f, n_inb, n_ix, bnd_some, if_true, if_false, ite_tt, ite_ff, not_true_eq_false, not_false_eq_true, eq_self, false_or, or_false, true_or, or_true]
    | true =>
      rw [hup] at e2
      by_cases hle : tTe T n ≤ sU (expN T S n) n
      · rw [if_pos ⟨rfl, hle⟩]
        obtain ⟨s2, e3, m2, q2⟩ := m_bringAll (d := d + 1) hN m1 (show n < tN T by omega) hT1
        obtain ⟨s3, e4, m3, q3⟩ := m_noWord (d := d + 1 + 1) (w := n) m2 (by omega)
        refine ⟨s3, ?_, m3, (q1.tr (q2.mono (by decide) (by decide))).tr (q3.mono (by decide) (by decide))⟩
        rw [e1, E280_2, hT1.2.1]
        simp (disch := omega) only [e2, bIt0, t1, t2, e3, e4, E280_47, lit, nI_add, pk_mul, n_sub, n_addneg, nle_t, nle_f, nlt_t, nlt_f, neq_t, neq_f, n_inb, n_ix, bnd_some, if_true, if_false, ite_tt, ite_ff, not_true_eq_false, not_false_eq_true, eq_self, false_or, or_false, true_or, or_true]
      · rw [if_neg (fun z => hle z.2)]
        refine ⟨s1, ?_, m1, q1⟩
        rw [e1, E280_2, hT1.2.1]
        simp (disch := omega) only [e2, bIt0, t1, t2, E280_47, lit, nI_add, pk_mul, n_sub, n_addneg, nle_t, nle_f, nlt_t, nlt_f, neq_t, neq_f, n_inb, n_ix, bnd_some, if_true, if_false, ite_tt, ite_ff, not_true_eq_false, not_false_eq_true, eq_self, false_or, or_false, true_or, or_true]
/-- the greatest of those that wait -/
theorem m_pick (ht : tOk T) (ho : sOk T S B) (hT : MT T s) (h : MSt T S s) (hR : MRb φ s) : ∀ n, n ≤ tN T → ∃ s', ev (d + 44 * 5 + 2 + 1 + 1) 280 72 [.inr 67, .inl (nI (bts done 8)), .inl (nI c), .inl (-nI 1), .inl (nI 0), .inl (nI 0), .inr 0] [] s = ev (d + 44 * 5 + 2 + 1 + 1) 280 72 [.inr 67, .inl (nI (bts done 8)), .inl (nI c), .inl (oc (fg (notD (isQ T S) done) (fun w => φ (envT T S w)) n)), .inl (mostV (fun w => φ (envT T S w)) (fg (notD (isQ T S) done) (fun w => φ (envT T S w)) n)), .inl (nI n), .inr 0] [] s' ∧ Eqm [] [19, 20, 21, 22, 23, 28] s s' := by
  have hN := ht.2.1
  intro n
  induction n with
  | zero => intro _; exact ⟨s, rfl, Eqm.rf⟩
  | succ n ih =>
    intro hn
    obtain ⟨s1, e1, q1⟩ := ih (by omega)
    have hT1 := MT_q hT q1 (by decide) (by decide)
    have m1 := MSt_q h q1 (by decide) (by decide)
    have hR1 := MRb_q hR q1 (by decide) (by decide)
    have hlt := fun x => fg_lt (p := notD (isQ T S) done) (v := fun w => φ (envT T S w)) (n := n) x
    have e2 : ev (d + 44 * 5 + 2 + 1) 258 0 [.inr 67, .inl (nI n)] [] s1 = some (0, bI (isQ T S n), s1) := m_isWaiting (d := d + 44 * 5 + 1) ht ho hT1 m1 (show n < tN T by omega)
    have lt8 := bts_lt8 done (n := 8) (by omega)
    have e3 : ev (d + 44 * 5 + 2 + 1) 229 0 [.inl (nI (bts done 8)), .inl (nI n)] [] s1 = some (0, bI (done n), s1) := by
      rw [m_isIn (by omega) (by omega), bts_bit, decide_eq_true (by omega : n < 8), Bool.true_and]
    rw [fg_s]
    generalize fg (notD (isQ T S) done) (fun w => φ (envT T S w)) n = r at e1 hlt ⊢
    cases hq : isQ T S n with
    | false =>
      rw [hq] at e2
      have hp : notD (isQ T S) done n = false := by unfold notD; rw [hq]; rfl
      refine ⟨s1, ?_, q1⟩
      rw [e1, E280_72, hT1.2.1, fgs_w hp]
      simp (disch := omega) only [e2, bIf0, E280_132, lit, nI_add, pk_mul, n_sub, n_addneg, nle_t, nle_f, nlt_t, nlt_f, neq_t, neq_f, n_inb, n_ix, bnd_some, if_true, if_false, ite_tt, ite_ff, not_true_eq_false, not_false_eq_true, eq_self, false_or, or_false, true_or, or_true]
    | true =>
      rw [hq] at e2
      cases hd : done n with
      | true =>
        rw [hd] at e3
        have hp : notD (isQ T S) done n = false := by unfold notD; rw [hd, Bool.not_true, Bool.and_false]
        refine ⟨s1, ?_, q1⟩
        rw [e1, E280_72, hT1.2.1, fgs_w hp]
        simp (disch := omega) only [e2, bIt0, e3, E280_132, lit, nI_add, pk_mul, n_sub, n_addneg, nle_t, nle_f, nlt_t, nlt_f, neq_t, neq_f, n_inb, n_ix, bnd_some, if_true, if_false, ite_tt, ite_ff, not_true_eq_false, not_false_eq_true, eq_self, false_or, or_false, true_or, or_true]
      | false =>
        rw [hd] at e3
        have hp : notD (isQ T S) done n = true := by unfold notD; rw [hq, hd]; rfl
        obtain ⟨x, hx, -⟩ := isQ_lt ho hq
        obtain ⟨s2, e4, q2⟩ := m_ruleBy (d := d) ht ho hT1 m1 hR1 (show n < tN T by omega) hx
        refine ⟨s2, ?_, q1.tr q2⟩
        rw [e1, E280_72, hT1.2.1]
        unfold fgs
        rw [if_pos hp]
        cases r with
        | none =>
          dsimp only [mostV]
          simp (disch := omega) only [e2, bIt0, e3, bIf0, e4, oc_none, oc_some, E280_125, E280_132, lit, nI_add, pk_mul, n_sub, n_addneg, nle_t, nle_f, nlt_t, nlt_f, neq_t, neq_f, n_inb, n_ix, bnd_some, if_true, if_false, ite_tt, ite_ff, not_true_eq_false, not_false_eq_true, eq_self, false_or, or_false, true_or, or_true]
        | some y =>
          have hy := (hlt y rfl).1
          dsimp only [mostV]
          simp (disch := omega) only [e2, bIt0, e3, bIf0, e4, oc_some, nneg_f, lit, nI_add, pk_mul, n_sub, n_addneg, nle_t, nle_f, nlt_t, nlt_f, neq_t, neq_f, n_inb, n_ix, bnd_some, if_true, if_false, ite_tt, ite_ff, not_true_eq_false, not_false_eq_true, eq_self, false_or, or_false, true_or, or_true]
          by_cases hv : φ (envT T S n) ≤ φ (envT T S y)
          · have hl : ¬ φ (envT T S y) < φ (envT T S n) := Int32.not_lt.mpr hv
            simp only [hl, if_false, hv, if_true]
            rw [E280_132]
            simp (disch := omega) only [oc_some, lit, nI_add, pk_mul, n_sub, n_addneg, nle_t, nle_f, nlt_t, nlt_f, neq_t, neq_f, n_inb, n_ix, bnd_some, if_true, if_false, ite_tt, ite_ff, not_true_eq_false, not_false_eq_true, eq_self, false_or, or_false, true_or, or_true]
          · have hl : φ (envT T S y) < φ (envT T S n) := Int32.not_le.mp hv
            simp only [hl, if_false, hv, if_true]
            rw [E280_125, E280_132]
            simp (disch := omega) only [oc_some, lit, nI_add, pk_mul, n_sub, n_addneg, nle_t, nle_f, nlt_t, nlt_f, neq_t, neq_f, n_inb, n_ix, bnd_some, if_true, if_false, ite_tt, ite_ff, not_true_eq_false, not_false_eq_true, eq_self, false_or, or_false, true_or, or_true]
theorem m_turns (ht : tOk T) : ∀ (n : Nat) (s : mS) (S : aS) (done : Nat → Bool) (c x : Nat), x < 8 → MT T s → sOk T S B → MSt T S s → MRb φ s → undn done ≤ n →
    ∃ s', ev (d + 44 * 5 + 2 + 1 + 1) 280 59 [.inr 67, .inl (nI (bts done 8)), .inl (nI c), .inl (nI x), .inr 0, .inr 0, .inr 0] [] s = ev (d + 44 * 5 + 2 + 1 + 1) 280 179 [.inr 67, .inr 0, .inl (nI (trn T φ n done S c).2), .inr 0, .inl (nI 0), .inr 0, .inr 0] [] s' ∧ MSt T (trn T φ n done S c).1 s' ∧ Eqm wkP [19, 20, 21, 22, 23, 28] s s' := by
  have hN := ht.2.1
  have st0 : ∀ {s : mS} {c x : Nat} {done : Nat → Bool}, x < 8 → ev (d + 44 * 5 + 2 + 1 + 1) 280 59 [.inr 67, .inl (nI (bts done 8)), .inl (nI c), .inl (nI x), .inr 0, .inr 0, .inr 0] [] s = ev (d + 44 * 5 + 2 + 1 + 1) 280 72 [.inr 67, .inl (nI (bts done 8)), .inl (nI c), .inl (-nI 1), .inl (nI 0), .inl (nI 0), .inr 0] [] s := fun hx => by
    rw [E280_59]
    simp (disch := omega) only [nneg_f, lit, nI_add, pk_mul, n_sub, n_addneg, nle_t, nle_f, nlt_t, nlt_f, neq_t, neq_f, n_inb, n_ix, bnd_some, if_true, if_false, ite_tt, ite_ff, not_true_eq_false, not_false_eq_true, eq_self, false_or, or_false, true_or, or_true]
  have pk : ∀ {S : aS} {done : Nat → Bool}, sOk T S B → pickW T φ S done = fg (notD (isQ T S) done) (fun w => φ (envT T S w)) (tN T) := fun ho => fg_more hN (fun i hi => by unfold notD; rw [isQ_out ho hi]; rfl)
  have fin : ∀ {s : mS} {S : aS} {done : Nat → Bool} {c x : Nat}, x < 8 → MT T s → sOk T S B → MSt T S s → MRb φ s → pickW T φ S done = none → ∃ s', ev (d + 44 * 5 + 2 + 1 + 1) 280 59 [.inr 67, .inl (nI (bts done 8)), .inl (nI c), .inl (nI x), .inr 0, .inr 0, .inr 0] [] s = ev (d + 44 * 5 + 2 + 1 + 1) 280 179 [.inr 67, .inr 0, .inl (nI c), .inr 0, .inl (nI 0), .inr 0, .inr 0] [] s' ∧ MSt T S s' ∧ Eqm wkP [19, 20, 21, 22, 23, 28] s s' := fun {s S done c x} hx hT ho h hR hp => by
    obtain ⟨s1, e1, q1⟩ := m_pick (d := d) (c := c) (done := done) ht ho hT h hR (tN T) (Nat.le_refl _)
    rw [← pk ho, hp] at e1
    refine ⟨s1, ?_, MSt_q h q1 (by decide) (by decide), q1.mono (by decide) (by decide)⟩
    have t6 := (MT_q hT q1 (by decide) (by decide)).2.1
    rw [st0 hx, e1, E280_72, t6]
    simp (disch := omega) only [oc_none, E280_59, lit, nI_add, pk_mul, n_sub, n_addneg, nle_t, nle_f, nlt_t, nlt_f, neq_t, neq_f, n_inb, n_ix, bnd_some, if_true, if_false, ite_tt, ite_ff, not_true_eq_false, not_false_eq_true, eq_self, false_or, or_false, true_or, or_true]
  intro n
  induction n with
  | zero =>
    intro s S done c x hx hT ho h hR hu
    exact fin hx hT ho h hR (fg_none.mpr (fun i hi => by unfold notD; rw [undn_z (done := done) (by omega) hi, Bool.not_true, Bool.and_false]))
  | succ n ih =>
    intro s S done c x hx hT ho h hR hu
    rw [trn_s]
    cases hp : pickW T φ S done with
    | none => exact fin hx hT ho h hR hp
    | some w =>
      have hw := fg_lt w hp
      have hd : done w = false := by
        have h2 := hw.2
        unfold notD at h2
        cases hz : done w with
        | true => rw [hz, Bool.not_true, Bool.and_false] at h2; cases h2
        | false => rfl
      obtain ⟨y, hy, hwn, -⟩ := isQ_lt ho (notD_x hw.2)
      obtain ⟨s1, e1, q1⟩ := m_pick (d := d) (c := c) (done := done) ht ho hT h hR (tN T) (Nat.le_refl _)
      rw [← pk ho, hp] at e1
      have hT1 := MT_q hT q1 (by decide) (by decide)
      obtain ⟨s2, e2, m2, q2⟩ := m_takeAll (d := d + 44 * 5 + 2 + 1) ht ho (MSt_q h q1 (by decide) (by decide)) hwn hT1 hy
      have q12 : Eqm wkP [19, 20, 21, 22, 23, 28] s s2 := (q1.mono (by decide) (by decide)).tr (q2.mono (by decide) (by decide))
      have o2 := sOk_takeW (w := w) ht ho hw.1
      have e3 : ev (d + 44 * 5 + 2 + 1) 257 0 [.inr 67, .inl (nI w)] [] s2 = some (0, bI (isU T (takeW T S w) w), s2) := m_isUp (d := d + 44 * 5 + 1) ht o2 (MT_q hT1 q2 (by decide) (by decide)) m2 hwn
      have hi : isU T (takeW T S w) w = decide (mis T (takeW T S w) w = 0) := by
        unfold isU isW
        rw [takeW_H, hy]; rfl
      rw [hi] at e3
      obtain ⟨s3, e4, m3, q3⟩ := ih s2 (takeW T S w) (fun j => done j || decide (j = w)) (c + if mis T (takeW T S w) w = 0 then 1 else 0) w hw.1 (MT_q hT q12 (by decide) (by decide)) o2 m2 (MRb_q hR q12 (by decide) (by decide)) (by have := undn_ins hw.1 hd; omega)
      refine ⟨s3, ?_, m3, q12.tr q3⟩
      have hw8 := hw.1
      refine Eq.trans ?_ e4
      rw [st0 hx, e1, E280_72, hT1.2.1, ← bts_insD hw8]
      dsimp only [mostV]
      by_cases hm : mis T (takeW T S w) w = 0
      · rw [decide_eq_true hm] at e3
        rw [if_pos hm]
        simp (disch := omega) only [oc_some, nneg_f, e2, e3, bIt0, n_pow, n_or, E280_171, lit, nI_add, pk_mul, n_sub, n_addneg, nle_t, nle_f, nlt_t, nlt_f, neq_t, neq_f, n_inb, n_ix, bnd_some, if_true, if_false, ite_tt, ite_ff, not_true_eq_false, not_false_eq_true, eq_self, false_or, or_false, true_or, or_true]
      · rw [decide_eq_false hm] at e3
        rw [if_neg hm]
        simp (disch := omega) only [oc_some, nneg_f, e2, e3, bIf0, n_pow, n_or, E280_171, lit, nI_add, pk_mul, n_sub, n_addneg, nle_t, nle_f, nlt_t, nlt_f, neq_t, neq_f, n_inb, n_ix, bnd_some, if_true, if_false, ite_tt, ite_ff, not_true_eq_false, not_false_eq_true, eq_self, false_or, or_false, true_or, or_true]
theorem m_ages (ht : tOk T) (ho : sOk T S B) (hT : MT T s) (h : MSt T S s) : ∀ n, n ≤ tN T → ∃ s', ev (d + 1 + 1 + 1) 280 179 [.inr 67, .inr 0, .inl a, .inr 0, .inl (nI 0), .inr 0, .inr 0] [] s = ev (d + 1 + 1 + 1) 280 179 [.inr 67, .inr 0, .inl a, .inr 0, .inl (nI n), .inr 0, .inr 0] [] s' ∧ (∀ w, w < tN T → s' 77 w = nI (sQ (ageN T S n) w) ∧ s' 78 w = nI (sU (ageN T S n) w)) ∧ Eqm [77, 78] [] s s' := by
  have hN := ht.2.1
  intro n
  induction n with
  | zero => intro _; exact ⟨s, rfl, fun w hw => by rw [ageN_0]; exact ⟨(h.1 w hw).2.1, (h.1 w hw).2.2.1⟩, Eqm.rf⟩
  | succ n ih =>
    intro hn
    obtain ⟨s1, e1, r1, q1⟩ := ih (by omega)
    have hT1 := MT_q hT q1 (by decide) (by decide)
    have l1 := MWl_q (MWl_of h (show n < tN T by omega)) q1 (by decide) (by decide)
    have e2 := g_isUp (d := d) ht ho hT1 l1 (by omega)
    have b := ageN_big (T := T) (S := S) (Nat.le_refl n)
    have c1 := r1 n (by omega)
    rw [b.1, b.2] at c1
    have eQ : sQ (ageN T S (n + 1)) n = if n < n + 1 ∧ isU T S n = false ∧ isQ T S n = true then sQ S n + 1 else sQ S n := rfl
    have eU : sU (ageN T S (n + 1)) n = if n < n + 1 ∧ isU T S n = true then sU S n + 1 else sU S n := rfl
    obtain ⟨u, hu⟩ : ∃ u, u = sU (ageN T S (n + 1)) n := ⟨_, rfl⟩
    have q2 : Eqm [77, 78] [] s1 (up s1 78 n (nI u)) := Eqm.rf.pu (by simp) (by decide)
    have e3 := g_isWaiting (d := d) ht ho (MT_q hT1 q2 (by decide) (by decide)) (MWl_q l1 q2 (by decide) (by decide)) (by omega)
    obtain ⟨v, hv⟩ : ∃ v, v = sQ (ageN T S (n + 1)) n := ⟨_, rfl⟩
    have w77 : (up s1 78 n (nI u)) 77 n = nI (sQ S n) := by rw [up_ne (by decide)]; exact c1.1
    refine ⟨up (up s1 78 n (nI u)) 77 n (nI v), ?_, fun w hw => ?_, (q1.tr q2).pu (by simp) (by decide)⟩
    · rw [e1, E280_179, hT1.2.1]
      cases hup : isU T S n with
      | true =>
        have hq : isQ T S n = false := by
          unfold isU at hup
          unfold isQ
          have hz := of_decide_eq_true (Bool.and_eq_true_iff.mp hup).2
          exact decide_eq_false (by omega)
        rw [hup] at e2
        rw [hq] at e3
        rw [eU, if_pos ⟨Nat.lt_succ_self n, hup⟩] at hu
        rw [eQ, if_neg (fun z => by rw [hup] at z; cases z.2.1)] at hv
        rw [hu] at e3 w77 ⊢
        rw [hv]
        simp (disch := omega) only [e2, bIt0, bIf0, c1.2, E280_210, e3, w77, E280_234, Nat.add_zero, lit, nI_add, pk_mul, n_sub, n_addneg, nle_t, nle_f, nlt_t, nlt_f, neq_t, neq_f, n_inb, n_ix, bnd_some, if_true, if_false, ite_tt, ite_ff, not_true_eq_false, not_false_eq_true, eq_self, false_or, or_false, true_or, or_true]
      | false =>
        rw [hup] at e2
        rw [eU, if_neg (fun z => by rw [hup] at z; cases z.2)] at hu
        rw [hu] at e3 w77 ⊢
        cases hq : isQ T S n with
        | true =>
          rw [hq] at e3
          rw [eQ, if_pos ⟨Nat.lt_succ_self n, hup, hq⟩] at hv
          rw [hv]
          simp (disch := omega) only [e2, bIt0, bIf0, c1.2, E280_210, e3, w77, E280_234, Nat.add_zero, lit, nI_add, pk_mul, n_sub, n_addneg, nle_t, nle_f, nlt_t, nlt_f, neq_t, neq_f, n_inb, n_ix, bnd_some, if_true, if_false, ite_tt, ite_ff, not_true_eq_false, not_false_eq_true, eq_self, false_or, or_false, true_or, or_true]
        | false =>
          rw [hq] at e3
          rw [eQ, if_neg (fun z => by rw [hq] at z; cases z.2.2)] at hv
          rw [hv]
          simp (disch := omega) only [e2, bIt0, bIf0, c1.2, E280_210, e3, w77, E280_234, Nat.add_zero, lit, nI_add, pk_mul, n_sub, n_addneg, nle_t, nle_f, nlt_t, nlt_f, neq_t, neq_f, n_inb, n_ix, bnd_some, if_true, if_false, ite_tt, ite_ff, not_true_eq_false, not_false_eq_true, eq_self, false_or, or_false, true_or, or_true]
    · by_cases z : w = n
      · subst z
        refine ⟨?_, ?_⟩
        · rw [up_in, hv]
        · rw [up_ne (by decide), up_in, hu]
      · have g := ageN_ne (T := T) (S := S) z
        refine ⟨?_, ?_⟩
        · rw [up_out z, up_ne (by decide), g.1]; exact (r1 w hw).1
        · rw [up_ne (by decide), up_out z, g.2]; exact (r1 w hw).2
theorem m_week (ht : tOk T) (ho : sOk T S B) (hB : B < 2147483000) (hT : MT T s) (h : MSt T S s) (hR : MRb φ s) : ∃ s', ev (d + 44 * 5 + 2 + 1 + 1) 280 0 [.inr 67, .inr 0, .inr 0, .inr 0, .inr 0, .inr 0, .inr 0] [] s = some (0, nI (wkR T φ S).2, s') ∧ MSt T (wkS T φ S) s' ∧ Eqm wkP [13, 19, 20, 21, 22, 23, 28] s s' := by
  have hN := ht.2.1
  obtain ⟨s1, e1, m1, q1⟩ := m_exp (d := d + 44 * 5 + 1) ht ho hB hT h (tN T) (Nat.le_refl _)
  have o1 := sOk_expN (n := 8) ht ho (Nat.le_refl _)
  rw [← expN_more ht ho 8 hN (Nat.le_refl _)] at m1
  have hT1 := MT_q hT q1 (by decide) (by decide)
  obtain ⟨s2, e2, m2, q2⟩ := m_turns (d := d) (φ := φ) ht 8 s1 (expN T S 8) (fun _ => false) 0 0 (by omega) hT1 o1 m1 (MRb_q hR q1 (by decide) (by decide)) undn_le
  have o2 := sOk_trn (φ := φ) ht 8 (fun _ => false) (expN T S 8) 0 o1
  have hT2 := MT_q hT1 q2 (by decide) (by decide)
  obtain ⟨s3, e3, m3, q3⟩ := m_ages (d := d + 44 * 5 + 1) (a := nI (trn T φ 8 (fun _ => false) (expN T S 8) 0).2) ht o2 hT2 m2 (tN T) (Nat.le_refl _)
  have q123 : Eqm wkP [13, 19, 20, 21, 22, 23, 28] s s3 := ((q1.mono (by decide) (by decide)).tr (q2.mono (by decide) (by decide))).tr (q3.mono (by decide) (by decide))
  have t6 := (MT_q hT q123 (by decide) (by decide)).2.1
  have k13 : s3 67 13 = nI (sK (trn T φ 8 (fun _ => false) (expN T S 8) 0).1) := by rw [q3.2 _ (by simp)]; exact m2.2.2
  have hb0 : bts (fun _ => false) 8 = 0 := by decide +kernel
  have e1 : ev (d + 44 * 5 + 2 + 1 + 1) 280 2 [.inr 67, .inl (nI 0), .inr 0, .inr 0, .inr 0, .inr 0, .inr 0] [] s = ev (d + 44 * 5 + 2 + 1 + 1) 280 2 [.inr 67, .inl (nI (tN T)), .inr 0, .inr 0, .inr 0, .inr 0, .inr 0] [] s1 := e1
  have e3 : ev (d + 44 * 5 + 2 + 1 + 1) 280 179 [.inr 67, .inr 0, .inl (nI (trn T φ 8 (fun _ => false) (expN T S 8) 0).2), .inr 0, .inl (nI 0), .inr 0, .inr 0] [] s2 = ev (d + 44 * 5 + 2 + 1 + 1) 280 179 [.inr 67, .inr 0, .inl (nI (trn T φ 8 (fun _ => false) (expN T S 8) 0).2), .inr 0, .inl (nI (tN T)), .inr 0, .inr 0] [] s3 := e3
  rw [hb0] at e2
  refine ⟨up s3 67 13 (nI (sK (trn T φ 8 (fun _ => false) (expN T S 8) 0).1 + 1)), ?_, ⟨fun w hw => ?_, fun l hl => ?_, up_in⟩, q123.pf (by simp)⟩
  · rw [E280_0]
    simp only [lit]
    rw [e1, E280_2, (MT_q hT q1 (by decide) (by decide)).2.1]
    simp (disch := omega) only [lit, nI_add, pk_mul, n_sub, n_addneg, nle_t, nle_f, nlt_t, nlt_f, neq_t, neq_f, n_inb, n_ix, bnd_some, if_true, if_false, ite_tt, ite_ff, not_true_eq_false, not_false_eq_true, eq_self, false_or, or_false, true_or, or_true]
    rw [e2, e3, E280_179, t6, k13]
    simp (disch := omega) only [lit, nI_add, pk_mul, n_sub, n_addneg, nle_t, nle_f, nlt_t, nlt_f, neq_t, neq_f, n_inb, n_ix, bnd_some, if_true, if_false, ite_tt, ite_ff, not_true_eq_false, not_false_eq_true, eq_self, false_or, or_false, true_or, or_true]
    rfl
  · obtain ⟨a1, a2, a3, a4⟩ := m2.1 w hw
    obtain ⟨c1, c2⟩ := m3 w hw
    rw [up_ne (by decide), up_ne (by decide), up_ne (by decide), up_ne (by decide)]
    refine ⟨by rw [q3.1 _ (by decide) (by decide)]; exact a1, c1.trans ?_, c2.trans ?_, fun l hl => by rw [q3.1 _ (by decide) (by decide)]; exact a4 l hl⟩
    · show nI (if w < tN T ∧ isU T (trn T φ 8 (fun _ => false) (expN T S 8) 0).1 w = false ∧ isQ T (trn T φ 8 (fun _ => false) (expN T S 8) 0).1 w = true then sQ (trn T φ 8 (fun _ => false) (expN T S 8) 0).1 w + 1 else sQ (trn T φ 8 (fun _ => false) (expN T S 8) 0).1 w) = nI (if w < 8 ∧ isU T (trn T φ 8 (fun _ => false) (expN T S 8) 0).1 w = false ∧ isQ T (trn T φ 8 (fun _ => false) (expN T S 8) 0).1 w = true then sQ (trn T φ 8 (fun _ => false) (expN T S 8) 0).1 w + 1 else sQ (trn T φ 8 (fun _ => false) (expN T S 8) 0).1 w)
      simp only [hw, show w < 8 by omega]
    · show nI (if w < tN T ∧ isU T (trn T φ 8 (fun _ => false) (expN T S 8) 0).1 w = true then sU (trn T φ 8 (fun _ => false) (expN T S 8) 0).1 w + 1 else sU (trn T φ 8 (fun _ => false) (expN T S 8) 0).1 w) = nI (if w < 8 ∧ isU T (trn T φ 8 (fun _ => false) (expN T S 8) 0).1 w = true then sU (trn T φ 8 (fun _ => false) (expN T S 8) 0).1 w + 1 else sU (trn T φ 8 (fun _ => false) (expN T S 8) 0).1 w)
      simp only [hw, show w < 8 by omega]
  · rw [up_ne (by decide), q3.1 _ (by decide) (by decide)]
    exact m2.2.1 l hl
end MSC
