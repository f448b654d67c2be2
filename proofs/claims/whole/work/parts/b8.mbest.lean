/-! THE MODEL: best -/
def XPm (p : Nat → Nat) (s : mS) : Prop := ∀ l, l < 10 → s 90 l = nI (p l) ∧ p l ≤ 20
def XBm (T : aT) (a : aB) (s : mS) : Prop := s 67 38 = mI a.1 ∧ (a.1.isSome = true → ∀ k, k < tN T → s 89 k = a.2 k) ∧ ∀ m, a.1 = some m → m ≤ 792
def mtQ : List Nat := [88, 89, 90]
section MU8
variable {d B B' l w v x y n j a b c k i sum own : Nat} {s s' s1 s2 : mS} {T : aT} {S : aS} {A : aA} {p : Nat → Nat} {ch : Nat → Int32} {g : aB}
/-- whether what is left is enough for a word -/
theorem m_can (ht : tOk T) (hT : MT T s) (hx : x < tW T) (hp : XPm p s) {u t : Int32} : ev (d + 1) 307 115 [.inr 67, .inl u, .inl t, .inl (nI x), .inl (nI 1), .inl (nI 0)] [] s = if canD T p x = true then ev (d + 1) 307 173 [.inr 67, .inl u, .inl t, .inl (nI x), .inr 0, .inl (nI 0)] [] s else ev (d + 1) 307 268 [.inr 67, .inl u, .inl t, .inl (nI x), .inr 0, .inr 0] [] s := by
  have hW := ht.1
  have no : ∀ j i, i + j = 10 → ev (d + 1) 307 115 [.inr 67, .inl u, .inl t, .inl (nI x), .inl (nI 0), .inl (nI i)] [] s = ev (d + 1) 307 268 [.inr 67, .inl u, .inl t, .inl (nI x), .inr 0, .inr 0] [] s := by
    intro j
    induction j with
    | zero =>
      intro i hi
      rw [E307_115]
      simp (disch := omega) only [lit, nI_add, pk_mul, n_sub, n_addneg, nle_t, nle_f, nlt_t, nlt_f, neq_t, neq_f, n_inb, n_ix, bnd_some, if_true, if_false, ite_tt, ite_ff, not_true_eq_false, not_false_eq_true, eq_self, false_or, or_false, true_or, or_true]
    | succ j ih =>
      intro i hi
      rw [← ih (i + 1) (by omega), E307_115]
      simp (disch := omega) only [E307_153, E307_154, lit, nI_add, pk_mul, n_sub, n_addneg, nle_t, nle_f, nlt_t, nlt_f, neq_t, neq_f, n_inb, n_ix, bnd_some, if_true, if_false, ite_tt, ite_ff, not_true_eq_false, not_false_eq_true, eq_self, false_or, or_false, true_or, or_true]
  have e := loopA (fun i => ev (d + 1) 307 115 [.inr 67, .inl u, .inl t, .inl (nI x), .inl (nI 1), .inl (nI i)] [] s) (fun l => decide (nd T x l ≤ p l)) (ev (d + 1) 307 268 [.inr 67, .inl u, .inl t, .inl (nI x), .inr 0, .inr 0] [] s) 10 (fun i hi hq => by
      have hq := of_decide_eq_true hq
      have e1 := (hT.2.2.1 x hx).2.2.2 i hi
      obtain ⟨e2, b2⟩ := hp i hi
      rw [E307_115]
      simp (disch := omega) only [e1, e2, E307_154, lit, nI_add, pk_mul, n_sub, n_addneg, nle_t, nle_f, nlt_t, nlt_f, neq_t, neq_f, n_inb, n_ix, bnd_some, if_true, if_false, ite_tt, ite_ff, not_true_eq_false, not_false_eq_true, eq_self, false_or, or_false, true_or, or_true]) (fun i hi hq => by
      have hq := of_decide_eq_false hq
      have e1 := (hT.2.2.1 x hx).2.2.2 i hi
      have b1 := nd_le T x i
      have b3 := (ht.2.2.1 x hx).2.1
      obtain ⟨e2, b2⟩ := hp i hi
      rw [E307_115]
      simp (disch := omega) only [e1, e2, E307_153, E307_154, lit, nI_add, pk_mul, n_sub, n_addneg, nle_t, nle_f, nlt_t, nlt_f, neq_t, neq_f, n_inb, n_ix, bnd_some, if_true, if_false, ite_tt, ite_ff, not_true_eq_false, not_false_eq_true, eq_self, false_or, or_false, true_or, or_true]
      exact no (10 - (i + 1)) (i + 1) (by omega))
  refine e.trans ?_
  unfold canD
  by_cases z : allN (fun l => decide (nd T x l ≤ p l)) 10 = true
  · rw [if_pos z, if_pos z, E307_115]
    simp (disch := omega) only [lit, nI_add, pk_mul, n_sub, n_addneg, nle_t, nle_f, nlt_t, nlt_f, neq_t, neq_f, n_inb, n_ix, bnd_some, if_true, if_false, ite_tt, ite_ff, not_true_eq_false, not_false_eq_true, eq_self, false_or, or_false, true_or, or_true]
  · rw [if_neg z, if_neg z]
/-- a word's letters taken from what is left -/
theorem m_drw (ht : tOk T) (hT : MT T s) (hx : x < tW T) (hp : XPm p s) (hc : canD T p x = true) {u t : Int32} : ∃ s', ev (d + 1) 307 173 [.inr 67, .inl u, .inl t, .inl (nI x), .inr 0, .inl (nI 0)] [] s = ev (d + 1) 307 173 [.inr 67, .inl u, .inl t, .inl (nI x), .inr 0, .inl (nI 10)] [] s' ∧ XPm (drwP T p x) s' ∧ Eqm [90] [] s s' := by
  have hW := ht.1
  have hall := allN_iff.mp hc
  have key : ∀ n, n ≤ 10 → ∃ s', ev (d + 1) 307 173 [.inr 67, .inl u, .inl t, .inl (nI x), .inr 0, .inl (nI 0)] [] s = ev (d + 1) 307 173 [.inr 67, .inl u, .inl t, .inl (nI x), .inr 0, .inl (nI n)] [] s' ∧ (∀ l, l < n → s' 90 l = nI (drwP T p x l)) ∧ (∀ l, n ≤ l → s' 90 l = s 90 l) ∧ Eqm [90] [] s s' := by
    intro n
    induction n with
    | zero => intro _; exact ⟨s, rfl, fun l hl => by omega, fun _ _ => rfl, Eqm.rf⟩
    | succ n ih =>
      intro hn
      obtain ⟨s1, e1, i1, j1, q1⟩ := ih (by omega)
      have hle := of_decide_eq_true (hall n (by omega))
      obtain ⟨p1, p2⟩ := hp n (by omega)
      have e2 : s1 90 n = nI (p n) := by rw [j1 n (Nat.le_refl _)]; exact p1
      have e3 := ((MT_q hT q1 (by decide) (by decide)).2.2.1 x hx).2.2.2 n (by omega)
      refine ⟨up s1 90 n (nI (drwP T p x n)), ?_, fun l hl => ?_, fun l hl => by rw [up_out (by omega)]; exact j1 l (by omega), q1.pu (by simp) (by decide)⟩
      · rw [e1, E307_173]
        simp (disch := omega) only [e2, e3, lit, nI_add, pk_mul, n_sub, n_addneg, nle_t, nle_f, nlt_t, nlt_f, neq_t, neq_f, n_inb, n_ix, bnd_some, if_true, if_false, ite_tt, ite_ff, not_true_eq_false, not_false_eq_true, eq_self, false_or, or_false, true_or, or_true]
        rfl
      · by_cases z : l = n
        · subst z; rw [up_in]
        · rw [up_out z]; exact i1 l (by omega)
  obtain ⟨s1, e1, i1, -, q1⟩ := key 10 (Nat.le_refl _)
  refine ⟨s1, e1, fun l hl => ⟨i1 l hl, ?_⟩, q1⟩
  have := (hp l hl).2
  unfold drwP; omega
/-- .. and given back -/
theorem m_giv (ht : tOk T) (hT : MT T s) (hx : x < tW T) (hp20 : ∀ l, l < 10 → p l ≤ 20) (hp : XPm (drwP T p x) s) (hc : canD T p x = true) {u t : Int32} : ∃ s', ev (d + 1) 307 233 [.inr 67, .inl u, .inl t, .inl (nI x), .inr 0, .inl (nI 0)] [] s = ev (d + 1) 307 268 [.inr 67, .inl u, .inl t, .inl (nI x), .inr 0, .inr 0] [] s' ∧ XPm p s' ∧ Eqm [90] [] s s' := by
  have hW := ht.1
  have hall := allN_iff.mp hc
  have key : ∀ n, n ≤ 10 → ∃ s', ev (d + 1) 307 233 [.inr 67, .inl u, .inl t, .inl (nI x), .inr 0, .inl (nI 0)] [] s = ev (d + 1) 307 233 [.inr 67, .inl u, .inl t, .inl (nI x), .inr 0, .inl (nI n)] [] s' ∧ (∀ l, l < n → s' 90 l = nI (p l)) ∧ (∀ l, n ≤ l → s' 90 l = s 90 l) ∧ Eqm [90] [] s s' := by
    intro n
    induction n with
    | zero => intro _; exact ⟨s, rfl, fun l hl => by omega, fun _ _ => rfl, Eqm.rf⟩
    | succ n ih =>
      intro hn
      obtain ⟨s1, e1, i1, j1, q1⟩ := ih (by omega)
      have hle := of_decide_eq_true (hall n (by omega))
      obtain ⟨p1, p2⟩ := hp n (by omega)
      have e2 : s1 90 n = nI (drwP T p x n) := by rw [j1 n (Nat.le_refl _)]; exact p1
      have e3 := ((MT_q hT q1 (by decide) (by decide)).2.2.1 x hx).2.2.2 n (by omega)
      have e4 : drwP T p x n + nd T x n = p n := by unfold drwP; omega
      refine ⟨up s1 90 n (nI (p n)), ?_, fun l hl => ?_, fun l hl => by rw [up_out (by omega)]; exact j1 l (by omega), q1.pu (by simp) (by decide)⟩
      · rw [e1, E307_233]
        simp (disch := omega) only [e2, e3, e4, lit, nI_add, pk_mul, n_sub, n_addneg, nle_t, nle_f, nlt_t, nlt_f, neq_t, neq_f, n_inb, n_ix, bnd_some, if_true, if_false, ite_tt, ite_ff, not_true_eq_false, not_false_eq_true, eq_self, false_or, or_false, true_or, or_true]
      · by_cases z : l = n
        · subst z; rw [up_in]
        · rw [up_out z]; exact i1 l (by omega)
  obtain ⟨s1, e1, i1, -, q1⟩ := key 10 (Nat.le_refl _)
  refine ⟨s1, ?_, fun l hl => ⟨i1 l hl, hp20 l hl⟩, q1⟩
  rw [e1, E307_233]
  simp (disch := omega) only [lit, nI_add, pk_mul, n_sub, n_addneg, nle_t, nle_f, nlt_t, nlt_f, neq_t, neq_f, n_inb, n_ix, bnd_some, if_true, if_false, ite_tt, ite_ff, not_true_eq_false, not_false_eq_true, eq_self, false_or, or_false, true_or, or_true]
theorem XPm_q {P F : List Nat} (h : XPm p s) (q : Eqm P F s s') (h1 : 90 ∉ P) : XPm p s' := fun l hl => by
  rw [q.1 _ h1 (by decide)]; exact h l hl
theorem XBm_q {P F : List Nat} (h : XBm T g s) (q : Eqm P F s s') (h1 : 89 ∉ P) (h2 : 38 ∉ F) : XBm T g s' := ⟨by rw [q.2 _ h2]; exact h.1, fun z k hk => by rw [q.1 _ h1 (by decide)]; exact h.2.1 z k hk, h.2.2⟩
theorem m_try (ht : tOk T) (ho : sOk T S B) : ∀ j w (s : mS) p sum ch g, w + j = tN T → MT T s → MSt T S s → XPm p s → sum ≤ w * 99 → (∀ k, k < w → s 88 k = ch k) → XBm T g s → ∃ s', ev (d + j + 1) 307 0 [.inr 67, .inl (nI w), .inl (nI sum), .inr 0, .inr 0, .inr 0] [] s = some (0, nI 0, s') ∧ XPm p s' ∧ (∀ k, k < w → s' 88 k = ch k) ∧ XBm T (bsD T S j w p sum ch g) s' ∧ Eqm mtQ [38] s s' := by
  have hN := ht.2.1
  have hW := ht.1
  intro j
  induction j with
  | zero =>
    intro w s p sum ch g hj hT hS hp hs hch hb
    have hw : w = tN T := by omega
    have e6 := hT.2.1
    obtain ⟨b1, b2, b3⟩ := hb
    have hlt := mI_lt (m := g.1) (n := sum) b3 (by omega)
    by_cases hz : ∀ k, g.1 = some k → k < sum
    · have hres : bsD T S 0 w p sum ch g = (some sum, ch) := by
        unfold bsD bsL
        cases h : g.1 with
        | none => rfl
        | some m => exact if_pos (hz m h)
      obtain ⟨s1, hs1⟩ : ∃ s1, s1 = up s 67 38 (nI sum) := ⟨_, rfl⟩
      have q1 : Eqm mtQ [38] s s1 := by rw [hs1]; exact Eqm.rf.pf (by simp)
      have key : ∀ n, n ≤ tN T → ∃ s', ev (d + 0 + 1) 307 24 [.inr 67, .inr 0, .inr 0, .inl (nI 0), .inr 0, .inr 0] [] s1 = ev (d + 0 + 1) 307 24 [.inr 67, .inr 0, .inr 0, .inl (nI n), .inr 0, .inr 0] [] s' ∧ (∀ k, k < n → s' 89 k = ch k) ∧ Eqm [89] [] s1 s' := by
        intro n
        induction n with
        | zero => intro _; exact ⟨s1, rfl, fun k hk => by omega, Eqm.rf⟩
        | succ n ih =>
          intro hn
          obtain ⟨s2, e2, i2, q2⟩ := ih (by omega)
          have e62 : s2 67 6 = nI (tN T) := by rw [(q1.tr (q2.mono (by decide) (by simp))).2 _ (by decide)]; exact e6
          have ec : s2 88 n = ch n := by
            rw [q2.1 _ (by decide) (by decide), hs1, up_ne (by decide)]
            exact hch n (by omega)
          refine ⟨up s2 89 n (ch n), ?_, fun k hk => ?_, q2.pu (by simp) (by decide)⟩
          · rw [e2, E307_24, e62]
            simp (disch := omega) only [ec, lit, nI_add, pk_mul, n_sub, n_addneg, nle_t, nle_f, nlt_t, nlt_f, neq_t, neq_f, n_inb, n_ix, bnd_some, if_true, if_false, ite_tt, ite_ff, not_true_eq_false, not_false_eq_true, eq_self, false_or, or_false, true_or, or_true]
          · by_cases z : k = n
            · subst z; rw [up_in]
            · rw [up_out z]; exact i2 k (by omega)
      obtain ⟨s2, e2, i2, q2⟩ := key (tN T) (Nat.le_refl _)
      have q3 : Eqm mtQ [38] s s2 := q1.tr (q2.mono (by decide) (by simp))
      have e62 : s2 67 6 = nI (tN T) := by rw [q3.2 _ (by decide)]; exact e6
      have q4 : Eqm [89] [38] s s2 := by
        have q1' : Eqm [89] [38] s s1 := by rw [hs1]; exact Eqm.rf.pf (by simp)
        exact q1'.tr (q2.mono (by simp) (by simp))
      refine ⟨s2, ?_, XPm_q hp q4 (by decide), fun k hk => by rw [q4.1 _ (by decide) (by decide)]; exact hch k hk, ?_, q3⟩
      · rw [E307_0, e6, b1, hw]
        simp (disch := omega) only [hlt.trans (eq_true hz), lit, nI_add, pk_mul, n_sub, n_addneg, nle_t, nle_f, nlt_t, nlt_f, neq_t, neq_f, n_inb, n_ix, bnd_some, if_true, if_false, ite_tt, ite_ff, not_true_eq_false, not_false_eq_true, eq_self, false_or, or_false, true_or, or_true]
        rw [← hs1, e2, E307_24, e62]
        simp (disch := omega) only [lit, nI_add, pk_mul, n_sub, n_addneg, nle_t, nle_f, nlt_t, nlt_f, neq_t, neq_f, n_inb, n_ix, bnd_some, if_true, if_false, ite_tt, ite_ff, not_true_eq_false, not_false_eq_true, eq_self, false_or, or_false, true_or, or_true]
      · rw [hres]
        refine ⟨?_, fun _ k hk => i2 k hk, fun m hm => by cases hm; omega⟩
        rw [q2.2 _ (by decide), hs1, up_in]
        rfl
    · have hres : bsD T S 0 w p sum ch g = g := by
        cases h : g.1 with
        | none => exact absurd (fun k hk => by rw [h] at hk; cases hk) hz
        | some m =>
          refine bsD_cut hj h ?_
          rw [hw, wfT_0]
          by_cases hm : m < sum
          · exact absurd (fun k hk => by rw [h] at hk; cases hk; exact hm) hz
          · omega
      rw [hres]
      refine ⟨s, ?_, hp, hch, ⟨b1, b2, b3⟩, Eqm.rf⟩
      rw [E307_0, e6, b1, hw]
      simp (disch := omega) only [hlt.trans (eq_false hz), lit, nI_add, pk_mul, n_sub, n_addneg, nle_t, nle_f, nlt_t, nlt_f, neq_t, neq_f, n_inb, n_ix, bnd_some, if_true, if_false, ite_tt, ite_ff, not_true_eq_false, not_false_eq_true, eq_self, false_or, or_false, true_or, or_true]
  | succ j ih =>
    intro w s p sum ch g hj hT hS hp hs hch hb
    have hw : w < tN T := by omega
    have e6 := hT.2.1
    have hwo := (ht.2.2.2 w hw).2.1
    have hp20 : ∀ l, l < 10 → p l ≤ 20 := fun l hl => (hp l hl).2
    have chn : ∀ (c : Int32) (s1 : mS), (∀ k, k < w → s1 88 k = ch k) → s1 88 w = c → ∀ k, k < w + 1 → s1 88 k = upd ch w c k := fun c s1 h1 h2 k hk => by
      by_cases hkw : k = w
      · subst hkw; rw [upd_eq rfl]; exact h2
      · rw [upd_ne hkw]; exact h1 k (by omega)
    obtain ⟨s1, hs1⟩ : ∃ s1, s1 = up s 88 w (-nI 1) := ⟨_, rfl⟩
    have q1t : Eqm [88] [] s s1 := by rw [hs1]; exact Eqm.rf.pu (by simp) (by decide)
    have q1 : Eqm mtQ [38] s s1 := q1t.mono (by decide) (by simp)
    obtain ⟨s2, e2, p2, c2, x2, q2⟩ := ih (w + 1) s1 p sum (upd ch w (-nI 1)) g (by omega) (MT_q hT q1 (by decide) (by decide)) (MSt_q hS q1 (by decide) (by decide)) (XPm_q hp q1t (by decide)) (by omega) (chn _ _ (fun k hk => by rw [hs1, up_out (by omega)]; exact hch k hk) (by rw [hs1, up_in])) (XBm_q hb q1t (by decide) (by decide))
    have qa := q1.tr q2
    have e2 : ev (d + (j + 1)) 307 0 [.inr 67, .inl (nI (w + 1)), .inl (nI sum), .inr 0, .inr 0, .inr 0] [] s1 = some (0, nI 0, s2) := e2
    have hwne : ¬ nI w = nI (tN T) := fun z => by
      have := (nI_eq (by omega) (by omega)).mp z
      omega
    have start : ev (d + (j + 1) + 1) 307 0 [.inr 67, .inl (nI w), .inl (nI sum), .inr 0, .inr 0, .inr 0] [] s = ev (d + (j + 1) + 1) 307 68 [.inr 67, .inl (nI w), .inl (nI sum), .inl (nI 0), .inr 0, .inr 0] [] s2 := by
      rw [E307_0, e6]
      simp (disch := omega) only [hwne, not_false_eq_true, lit, nI_add, pk_mul, n_sub, n_addneg, nle_t, nle_f, nlt_t, nlt_f, neq_t, neq_f, n_inb, n_ix, bnd_some, if_true, if_false, ite_tt, ite_ff, not_true_eq_false, not_false_eq_true, eq_self, false_or, or_false, true_or, or_true]
      rw [← hs1, e2, bnd_some]
    have e268 : ∀ (n : Nat) r, ev (d + (j + 1) + 1) 307 268 [.inr 67, .inl (nI w), .inl (nI sum), .inl (nI n), .inr 0, .inr 0] [] r = ev (d + (j + 1) + 1) 307 68 [.inr 67, .inl (nI w), .inl (nI sum), .inl (nI (n + 1)), .inr 0, .inr 0] [] r := fun n r => by
      rw [E307_268]
      simp (disch := omega) only [lit, nI_add, pk_mul, n_sub, n_addneg, nle_t, nle_f, nlt_t, nlt_f, neq_t, neq_f, n_inb, n_ix, bnd_some, if_true, if_false, ite_tt, ite_ff, not_true_eq_false, not_false_eq_true, eq_self, false_or, or_false, true_or, or_true]
    unfold bsD
    cases hn : sH S w with
    | none =>
      have eh : s2 75 w = -nI 1 := by
        rw [qa.1 _ (by decide) (by decide), (hS.1 w hw).1, hn, oc_none]
      have e12 : s2 67 1 = nI (tW T) := by rw [qa.2 _ (by decide)]; exact hT.1
      have g2 := loopU (fun i (_ : Unit) => ev (d + (j + 1) + 1) 307 68 [.inr 67, .inl (nI w), .inl (nI sum), .inl (nI i), .inr 0, .inr 0] [] s2) (fun _ u => u) (tW T) (fun i _ hi => by
        rw [E307_68, e12]
        simp (disch := omega) only [eh, e268, lit, nI_add, pk_mul, n_sub, n_addneg, nle_t, nle_f, nlt_t, nlt_f, neq_t, neq_f, n_inb, n_ix, bnd_some, if_true, if_false, ite_tt, ite_ff, not_true_eq_false, not_false_eq_true, eq_self, false_or, or_false, true_or, or_true]) ()
      refine ⟨s2, ?_, p2, fun k hk => ?_, x2, qa⟩
      · rw [start]
        refine g2.trans ?_
        rw [E307_68, e12]
        simp (disch := omega) only [lit, nI_add, pk_mul, n_sub, n_addneg, nle_t, nle_f, nlt_t, nlt_f, neq_t, neq_f, n_inb, n_ix, bnd_some, if_true, if_false, ite_tt, ite_ff, not_true_eq_false, not_false_eq_true, eq_self, false_or, or_false, true_or, or_true]
      · rw [c2 k (by omega), upd_ne (by omega)]
    | some own =>
      have hown := (wOk_s (ho.1 w) hn).2.1
      have b10 := (ht.2.2.1 own hown).2.2.1
      dsimp only
      have key : ∀ n, n ≤ tW T → ∃ s3, ev (d + (j + 1) + 1) 307 68 [.inr 67, .inl (nI w), .inl (nI sum), .inl (nI 0), .inr 0, .inr 0] [] s2 = ev (d + (j + 1) + 1) 307 68 [.inr 67, .inl (nI w), .inl (nI sum), .inl (nI n), .inr 0, .inr 0] [] s3 ∧ XPm p s3 ∧ (∀ k, k < w → s3 88 k = ch k) ∧ XBm T (itr (fun x b => if tSen T x = tSen T own ∧ canD T p x = true then bsD T S j (w + 1) (drwP T p x) (sum + tWo T w) (upd ch w (nI x)) b else b) n (bsD T S j (w + 1) p sum (upd ch w (-nI 1)) g)) s3 ∧ Eqm mtQ [38] s s3 := by
        intro n
        induction n with
        | zero => intro _; exact ⟨s2, rfl, p2, fun k hk => by rw [c2 k (by omega), upd_ne (by omega)], x2, qa⟩
        | succ n ihn =>
          intro hn1
          obtain ⟨s3, e3, p3, c3, x3, q3⟩ := ihn (by omega)
          have hT3 := MT_q hT q3 (by decide) (by decide)
          have hS3 := MSt_q hS q3 (by decide) (by decide)
          have hxn : n < tW T := by omega
          have b11 := (ht.2.2.1 n hxn).2.2.1
          have f1 := (hT3.2.2.1 n hxn).2.1
          have f2 := (hT3.2.2.1 own hown).2.1
          have f3 := (hS3.1 w hw).1
          rw [hn, oc_some] at f3
          have f4 := hT3.1
          generalize hgb : itr (fun x b => if tSen T x = tSen T own ∧ canD T p x = true then bsD T S j (w + 1) (drwP T p x) (sum + tWo T w) (upd ch w (nI x)) b else b) n (bsD T S j (w + 1) p sum (upd ch w (-nI 1)) g) = b at x3
          have hst : itr (fun x b => if tSen T x = tSen T own ∧ canD T p x = true then bsD T S j (w + 1) (drwP T p x) (sum + tWo T w) (upd ch w (nI x)) b else b) (n + 1) (bsD T S j (w + 1) p sum (upd ch w (-nI 1)) g) = if tSen T n = tSen T own ∧ canD T p n = true then bsD T S j (w + 1) (drwP T p n) (sum + tWo T w) (upd ch w (nI n)) b else b := by rw [← hgb]; rfl
          rw [hst]
          by_cases hsn : tSen T n = tSen T own
          · have ed := m_can (d := d + (j + 1)) (u := nI w) (t := nI sum) ht hT3 hxn p3
            have to : ev (d + (j + 1) + 1) 307 68 [.inr 67, .inl (nI w), .inl (nI sum), .inl (nI n), .inr 0, .inr 0] [] s3 = ev (d + (j + 1) + 1) 307 115 [.inr 67, .inl (nI w), .inl (nI sum), .inl (nI n), .inl (nI 1), .inl (nI 0)] [] s3 := by
              rw [E307_68, f4]
              simp (disch := omega) only [f3, f1, f2, hsn, nneg_f, lit, nI_add, pk_mul, n_sub, n_addneg, nle_t, nle_f, nlt_t, nlt_f, neq_t, neq_f, n_inb, n_ix, bnd_some, if_true, if_false, ite_tt, ite_ff, not_true_eq_false, not_false_eq_true, eq_self, false_or, or_false, true_or, or_true]
            cases hcd : canD T p n with
            | false =>
              rw [hcd, if_neg (show ¬ (false = true) by simp)] at ed
              rw [if_neg (show ¬ (tSen T n = tSen T own ∧ false = true) from fun z => by cases z.2)]
              refine ⟨s3, ?_, p3, c3, x3, q3⟩
              rw [e3, to, ed, e268]
            | true =>
              rw [hcd, if_pos (show true = true from rfl)] at ed
              rw [if_pos (show tSen T n = tSen T own ∧ true = true from ⟨hsn, rfl⟩)]
              obtain ⟨s4, e4, p4, q4⟩ := m_drw (d := d + (j + 1)) (u := nI w) (t := nI sum) ht hT3 hxn p3 hcd
              obtain ⟨s5, hs5⟩ : ∃ s5, s5 = up s4 88 w (nI n) := ⟨_, rfl⟩
              have q45 : Eqm [88] [] s4 s5 := by rw [hs5]; exact Eqm.rf.pu (by simp) (by decide)
              have q5 : Eqm mtQ [38] s s5 := (q3.tr (q4.mono (by decide) (by simp))).tr (q45.mono (by decide) (by simp))
              have hT5 := MT_q hT q5 (by decide) (by decide)
              have ewo := (hT5.2.2.2 w hw).1
              obtain ⟨s6, e6b, p6, c6, x6, q6⟩ := ih (w + 1) s5 (drwP T p n) (sum + tWo T w) (upd ch w (nI n)) b (by omega) hT5 (MSt_q hS q5 (by decide) (by decide)) (XPm_q p4 q45 (by decide)) (by omega) (chn _ _ (fun k hk => by rw [hs5, up_out (by omega), q4.1 _ (by decide) (by decide)]; exact c3 k hk) (by rw [hs5, up_in])) (XBm_q (XBm_q x3 q4 (by decide) (by decide)) q45 (by decide) (by decide))
              have e6b : ev (d + (j + 1)) 307 0 [.inr 67, .inl (nI (w + 1)), .inl (nI (sum + tWo T w)), .inr 0, .inr 0, .inr 0] [] s5 = some (0, nI 0, s6) := e6b
              have qb := q5.tr q6
              obtain ⟨s7, e7, p7, q7⟩ := m_giv (d := d + (j + 1)) (u := nI w) (t := nI sum) (p := p) ht (MT_q hT qb (by decide) (by decide)) hxn hp20 p6 hcd
              refine ⟨s7, ?_, p7, fun k hk => ?_, XBm_q x6 q7 (by decide) (by decide), qb.tr (q7.mono (by decide) (by simp))⟩
              · rw [e3, to, ed, e4, E307_173]
                simp (disch := omega) only [lit, nI_add, pk_mul, n_sub, n_addneg, nle_t, nle_f, nlt_t, nlt_f, neq_t, neq_f, n_inb, n_ix, bnd_some, if_true, if_false, ite_tt, ite_ff, not_true_eq_false, not_false_eq_true, eq_self, false_or, or_false, true_or, or_true]
                rw [← hs5, ewo]
                simp (disch := omega) only [e6b, lit, nI_add, pk_mul, n_sub, n_addneg, nle_t, nle_f, nlt_t, nlt_f, neq_t, neq_f, n_inb, n_ix, bnd_some, if_true, if_false, ite_tt, ite_ff, not_true_eq_false, not_false_eq_true, eq_self, false_or, or_false, true_or, or_true]
                rw [e7, e268]
              · rw [q7.1 _ (by decide) (by decide), c6 k (by omega), upd_ne (by omega)]
          · rw [if_neg (show ¬ (tSen T n = tSen T own ∧ canD T p n = true) from fun z => hsn z.1)]
            refine ⟨s3, ?_, p3, c3, x3, q3⟩
            rw [e3, E307_68, f4]
            simp (disch := omega) only [f3, f1, f2, hsn, nneg_f, e268, lit, nI_add, pk_mul, n_sub, n_addneg, nle_t, nle_f, nlt_t, nlt_f, neq_t, neq_f, n_inb, n_ix, bnd_some, if_true, if_false, ite_tt, ite_ff, not_true_eq_false, not_false_eq_true, eq_self, false_or, or_false, true_or, or_true]
      obtain ⟨s3, e3, p3, c3, x3, q3⟩ := key (tW T) (Nat.le_refl _)
      refine ⟨s3, ?_, p3, c3, x3, q3⟩
      have e12 : s3 67 1 = nI (tW T) := by rw [q3.2 _ (by decide)]; exact hT.1
      rw [start, e3, E307_68, e12]
      simp (disch := omega) only [lit, nI_add, pk_mul, n_sub, n_addneg, nle_t, nle_f, nlt_t, nlt_f, neq_t, neq_f, n_inb, n_ix, bnd_some, if_true, if_false, ite_tt, ite_ff, not_true_eq_false, not_false_eq_true, eq_self, false_or, or_false, true_or, or_true]
theorem sat_mul {P k : Nat} (hk : 1 ≤ k) : min 1000000 (min 1000000 P * k) = min 1000000 (P * k) := by
  have h1 : P ≤ P * k := Nat.le_mul_of_pos_right P hk
  by_cases z : P ≤ 1000000
  · rw [Nat.min_eq_right z]
  · rw [Nat.min_eq_left (show 1000000 ≤ P by omega)]
    omega
theorem m_ways (ht : tOk T) (ho : sOk T S B) (hT : MT T s) (h : MSt T S s) : ∀ n, n ≤ tN T → ev (d + 1) 306 9 [.inr 67, .inl (nI 1), .inl (nI 0), .inr 0, .inr 0] [] s = ev (d + 1) 306 9 [.inr 67, .inl (nI (min 1000000 (prW T S n))), .inl (nI n), .inr 0, .inr 0] [] s := by
  have hN := ht.2.1
  have hW := ht.1
  intro n
  induction n with
  | zero =>
    intro _
    rfl
  | succ n ih =>
    intro hn
    rw [ih (by omega), prW_s]
    have e89 : ∀ v : Nat, ev (d + 1) 306 89 [.inr 67, .inl (nI v), .inl (nI n), .inr 0, .inr 0] [] s = ev (d + 1) 306 9 [.inr 67, .inl (nI v), .inl (nI (n + 1)), .inr 0, .inr 0] [] s := fun v => by
      rw [E306_89]
      simp (disch := omega) only [lit, nI_add, pk_mul, n_sub, n_addneg, nle_t, nle_f, nlt_t, nlt_f, neq_t, neq_f, n_inb, n_ix, bnd_some, if_true, if_false, ite_tt, ite_ff, not_true_eq_false, not_false_eq_true, eq_self, false_or, or_false, true_or, or_true]
    have e0 := (h.1 n (by omega)).1
    have hm : min 1000000 (prW T S n) ≤ 1000000 := Nat.min_le_left _ _
    cases hs : sH S n with
    | none =>
      rw [hs, oc_none] at e0
      dsimp only
      rw [Nat.mul_one, E306_9, hT.2.1]
      simp (disch := omega) only [e0, e89, lit, nI_add, pk_mul, n_sub, n_addneg, nle_t, nle_f, nlt_t, nlt_f, neq_t, neq_f, n_inb, n_ix, bnd_some, if_true, if_false, ite_tt, ite_ff, not_true_eq_false, not_false_eq_true, eq_self, false_or, or_false, true_or, or_true]
    | some own =>
      rw [hs, oc_some] at e0
      have hown := (wOk_s (ho.1 n) hs).2.1
      have f2 := (hT.2.2.1 own hown).2.1
      have b2 := (ht.2.2.1 own hown).2.2.1
      have g := loopU (fun i a => ev (d + 1) 306 35 [.inr 67, .inl (nI (min 1000000 (prW T S n))), .inl (nI n), .inl (nI a), .inl (nI i)] [] s) (fun x a => a + (if tSen T x = tSen T own then 1 else 0)) (tW T) (fun x a hx => by
        have f1 := (hT.2.2.1 x hx).2.1
        have b1 := (ht.2.2.1 x hx).2.2.1
        rw [E306_35, hT.1]
        by_cases z : tSen T x = tSen T own
        · simp (disch := omega) only [e0, f1, f2, z, E306_71, lit, nI_add, pk_mul, n_sub, n_addneg, nle_t, nle_f, nlt_t, nlt_f, neq_t, neq_f, n_inb, n_ix, bnd_some, if_true, if_false, ite_tt, ite_ff, not_true_eq_false, not_false_eq_true, eq_self, false_or, or_false, true_or, or_true]
        · simp (disch := omega) only [e0, f1, f2, z, E306_71, lit, nI_add, pk_mul, n_sub, n_addneg, nle_t, nle_f, nlt_t, nlt_f, neq_t, neq_f, n_inb, n_ix, bnd_some, if_true, if_false, ite_tt, ite_ff, not_true_eq_false, not_false_eq_true, eq_self, false_or, or_false, true_or, or_true]) 1
      have e1 : itr (fun x a => a + (if tSen T x = tSen T own then 1 else 0)) (tW T) 1 = 1 + lik T own := by
        unfold lik
        have : ∀ n, itr (fun x a => a + (if tSen T x = tSen T own then 1 else 0)) n 1 = 1 + sm (fun x => if tSen T x = tSen T own then 1 else 0) n := by
          intro n
          induction n with
          | zero => rfl
          | succ n ih =>
            show itr (fun x a => a + (if tSen T x = tSen T own then 1 else 0)) n 1 + (if tSen T n = tSen T own then 1 else 0) = _
            rw [ih, sm_s]; omega
        exact this _
      rw [e1] at g
      have bl := lik_le (own := own) ht
      have sat := sat_mul (P := prW T S n) (k := 1 + lik T own) (by omega)
      dsimp only
      rw [← sat]
      generalize min 1000000 (prW T S n) = P at hm g
      have hK : 1 + lik T own ≤ 13 := by omega
      generalize 1 + lik T own = K at g hK
      have hPK : P * K ≤ 13000000 := Nat.le_trans (Nat.mul_le_mul hm hK) (by omega)
      rw [E306_9, hT.2.1]
      simp (disch := omega) only [e0, nneg_f, lit, nI_add, pk_mul, n_sub, n_addneg, nle_t, nle_f, nlt_t, nlt_f, neq_t, neq_f, n_inb, n_ix, bnd_some, if_true, if_false, ite_tt, ite_ff, not_true_eq_false, not_false_eq_true, eq_self, false_or, or_false, true_or, or_true]
      refine g.trans ?_
      rw [E306_35, hT.1]
      simp (disch := omega) only [mmin_n, e89, lit, nI_add, pk_mul, n_sub, n_addneg, nle_t, nle_f, nlt_t, nlt_f, neq_t, neq_f, n_inb, n_ix, bnd_some, if_true, if_false, ite_tt, ite_ff, not_true_eq_false, not_false_eq_true, eq_self, false_or, or_false, true_or, or_true]
theorem Y_best (ha : AOk A B) (h : MJ A B' s) : ∃ s', ev (d + 8 + 1 + 1) 306 0 [.inr 67, .inr 0, .inr 0, .inr 0, .inr 0] [] s = some (0, (o_best A).2, s') ∧ MJ (o_best A).1 B' s' ∧ gM s s' := by
  obtain ⟨h0, g0⟩ := m_th h
  obtain ⟨s0, hs0⟩ : ∃ s0, s0 = up s 67 18 (nI 0) := ⟨_, rfl⟩
  rw [← hs0] at h0 g0
  have ht := ha.1
  have ho := ha.2.1
  have hT := h0.1
  have hS := h0.2.1
  have hN := ht.2.1
  have e6 := hT.2.1
  have kw := m_ways (d := d + 8 + 1) ht ho hT hS (tN (gT A)) (Nat.le_refl _)
  have st : ev (d + 8 + 1 + 1) 306 0 [.inr 67, .inr 0, .inr 0, .inr 0, .inr 0] [] s = ev (d + 8 + 1 + 1) 306 9 [.inr 67, .inl (nI (min 1000000 (prW (gT A) (gS A) (tN (gT A))))), .inl (nI (tN (gT A))), .inr 0, .inr 0] [] s0 := by
    rw [E306_0, show up s 67 18 0 = s0 from hs0.symm]
    exact kw
  rw [st, E306_9, e6]
  unfold o_best
  by_cases hb : 20000 < prW (gT A) (gS A) (tN (gT A))
  · rw [if_pos hb]
    refine ⟨s0, ?_, h0, g0⟩
    simp (disch := omega) only [lit, nI_add, pk_mul, n_sub, n_addneg, nle_t, nle_f, nlt_t, nlt_f, neq_t, neq_f, n_inb, n_ix, bnd_some, if_true, if_false, ite_tt, ite_ff, not_true_eq_false, not_false_eq_true, eq_self, false_or, or_false, true_or, or_true]
  · rw [if_neg hb]
    have key : ∀ n, n ≤ 10 → ∃ s1, ev (d + 8 + 1 + 1) 306 107 [.inr 67, .inr 0, .inl (nI 0), .inr 0, .inr 0] [] s0 = ev (d + 8 + 1 + 1) 306 107 [.inr 67, .inr 0, .inl (nI n), .inr 0, .inr 0] [] s1 ∧ (∀ l, l < n → s1 90 l = nI (stk (gS A) l)) ∧ Eqm [90] [] s0 s1 := by
      intro n
      induction n with
      | zero => intro _; exact ⟨s0, rfl, fun l hl => by omega, Eqm.rf⟩
      | succ n ih =>
        intro hn
        obtain ⟨s1, e1, i1, q1⟩ := ih (by omega)
        have es := m_stockOf (d := d + 8 + 1) (l := n) hN ho (MT_q hT q1 (by decide) (by decide)) (MSt_q hS q1 (by decide) (by decide)) (by omega)
        refine ⟨up s1 90 n (nI (stk (gS A) n)), ?_, fun l hl => ?_, q1.pu (by simp) (by decide)⟩
        · rw [e1, E306_107]
          simp (disch := omega) only [es, lit, nI_add, pk_mul, n_sub, n_addneg, nle_t, nle_f, nlt_t, nlt_f, neq_t, neq_f, n_inb, n_ix, bnd_some, if_true, if_false, ite_tt, ite_ff, not_true_eq_false, not_false_eq_true, eq_self, false_or, or_false, true_or, or_true]
        · by_cases z : l = n
          · subst z; rw [up_in]
          · rw [up_out z]; exact i1 l (by omega)
    obtain ⟨s1, e1, i1, q1⟩ := key 10 (Nat.le_refl _)
    obtain ⟨s2, hs2⟩ : ∃ s2, s2 = up s1 67 38 (-nI 1) := ⟨_, rfl⟩
    have q2 : Eqm mtQ [38] s0 s2 := by rw [hs2]; exact (q1.mono (by decide) (by simp)).pf (by simp)
    obtain ⟨s3, e3, p3, c3, x3, q3⟩ := m_try (d := d + (8 - tN (gT A))) ht ho (tN (gT A)) 0 s2 (stk (gS A)) 0 (fun _ => 0) (none, fun _ => 0) (by omega) (MT_q hT q2 (by decide) (by decide)) (MSt_q hS q2 (by decide) (by decide)) (fun l hl => ⟨by rw [hs2, up_ne (by decide)]; exact i1 l hl, ho.2.1 l hl⟩) (by omega) (fun k hk => by omega) ⟨by rw [hs2, up_in]; rfl, fun z => (by cases z), fun m hm => (by cases hm)⟩
    rw [show d + (8 - tN (gT A)) + tN (gT A) + 1 = d + 8 + 1 by omega] at e3
    have hbs : bsD (gT A) (gS A) (tN (gT A)) 0 (stk (gS A)) 0 (fun _ => 0) (none, fun _ => 0) = bsA A := rfl
    rw [hbs] at x3
    have hsome : (bsA A).1.isSome = true := bsD_some
    have q3a : Eqm mtQ [38] s0 s3 := q2.tr q3
    obtain ⟨s4, hs4⟩ : ∃ s4, s4 = up s3 67 17 (nI 0) := ⟨_, rfl⟩
    have q4 : Eqm [80] [17] s3 s4 := by rw [hs4]; exact Eqm.rf.pf (by simp)
    have tel : ∀ n, n ≤ tN (gT A) → ∃ s5, ev (d + 8 + 1 + 1) 306 148 [.inr 67, .inr 0, .inl (nI 0), .inr 0, .inr 0] [] s4 = ev (d + 8 + 1 + 1) 306 148 [.inr 67, .inr 0, .inl (nI n), .inr 0, .inr 0] [] s5 ∧ MW (rowN (bsA A).2 n) s5 ∧ Eqm [80] [17] s3 s5 := by
      intro n
      induction n with
      | zero => intro _; exact ⟨s4, rfl, by rw [hs4]; exact MW_nil, q4⟩
      | succ n ih =>
        intro hn
        obtain ⟨s5, e5, w5, q5⟩ := ih (by omega)
        have hf : s5 89 n = (bsA A).2 n := by
          rw [q5.1 _ (by decide) (by decide)]
          exact x3.2.1 hsome n (by omega)
        have e65 : s5 67 6 = nI (tN (gT A)) := by rw [q5.2 _ (by decide), q3a.2 _ (by decide)]; exact e6
        obtain ⟨s6, e7, w6, q6⟩ := m_tell (d := d + 8 + 1) (p := (bsA A).2 n) w5 (by rw [rowN_len]; omega)
        refine ⟨s6, ?_, by rw [rowN_s]; exact w6, q5.tr q6⟩
        rw [e5, E306_148, e65]
        simp (disch := omega) only [hf, e7, lit, nI_add, pk_mul, n_sub, n_addneg, nle_t, nle_f, nlt_t, nlt_f, neq_t, neq_f, n_inb, n_ix, bnd_some, if_true, if_false, ite_tt, ite_ff, not_true_eq_false, not_false_eq_true, eq_self, false_or, or_false, true_or, or_true]
    obtain ⟨s5, e5, w5, q5⟩ := tel (tN (gT A)) (Nat.le_refl _)
    have e65 : s5 67 6 = nI (tN (gT A)) := by rw [q5.2 _ (by decide), q3a.2 _ (by decide)]; exact e6
    have e38 : s5 67 38 = mI (bsA A).1 := by rw [q5.2 _ (by decide)]; exact x3.1
    have qz : Eqm (80 :: mtQ) [17, 38] s0 s5 := (q3a.mono (by decide) (by decide)).tr (q5.mono (by decide) (by decide))
    refine ⟨s5, ?_, MJ_row h0 qz (by decide) (by decide) w5, g0.tr (qz.g (by decide))⟩
    simp (disch := omega) only [lit, nI_add, pk_mul, n_sub, n_addneg, nle_t, nle_f, nlt_t, nlt_f, neq_t, neq_f, n_inb, n_ix, bnd_some, if_true, if_false, ite_tt, ite_ff, not_true_eq_false, not_false_eq_true, eq_self, false_or, or_false, true_or, or_true]
    rw [e1, E306_107]
    simp (disch := omega) only [lit, nI_add, pk_mul, n_sub, n_addneg, nle_t, nle_f, nlt_t, nlt_f, neq_t, neq_f, n_inb, n_ix, bnd_some, if_true, if_false, ite_tt, ite_ff, not_true_eq_false, not_false_eq_true, eq_self, false_or, or_false, true_or, or_true]
    rw [← hs2, e3, bnd_some, ← hs4, e5, E306_148, e65, e38]
    simp (disch := omega) only [lit, nI_add, pk_mul, n_sub, n_addneg, nle_t, nle_f, nlt_t, nlt_f, neq_t, neq_f, n_inb, n_ix, bnd_some, if_true, if_false, ite_tt, ite_ff, not_true_eq_false, not_false_eq_true, eq_self, false_or, or_false, true_or, or_true]
end MU8
