/-! THE MODEL: hang, take, bring, lend, undo, keep, again -/
section MD7
variable {d B B' l w v x y n k o a b i f t : Nat} {s s' s1 s2 s'' : mS} {T : aT} {S S' U : aS} {A : aA} {p q r : Int32} {L : List aS}
theorem MSt_mv (h : MSt T S s) (hl : l < 10) : MSt T (mvS S w l a b) (up (up s 68 l (nI a)) 76 (10 * w + l) (nI b)) ∧ Eqm [68, 76] [] s (up (up s 68 l (nI a)) 76 (10 * w + l) (nI b)) := by
  have q2 : Eqm [68, 76] [] s (up (up s 68 l (nI a)) 76 (10 * w + l) (nI b)) := (Eqm.rf.pu (by simp) (by decide)).pu (by simp) (by decide)
  refine ⟨⟨fun w' hw' => ?_, fun l' hl' => ?_, ?_⟩, q2⟩
  · obtain ⟨a1, a2, a3, a4⟩ := h.1 w' hw'
    refine ⟨by rw [q2.1 _ (by decide) (by decide)]; exact a1, by rw [q2.1 _ (by decide) (by decide)]; exact a2, by rw [q2.1 _ (by decide) (by decide)]; exact a3, fun l' hl' => ?_⟩
    show _ = nI (if w' = w ∧ l' = l then b else sG S w' l')
    by_cases z : w' = w ∧ l' = l
    · obtain ⟨rfl, rfl⟩ := z
      rw [up_in, if_pos ⟨rfl, rfl⟩]
    · rw [if_neg z, up_out (by omega), up_ne (by decide)]
      exact a4 l' hl'
  · show _ = nI (if l' = l then a else sL S l')
    rw [up_ne (by decide)]
    by_cases z : l' = l
    · subst z; rw [up_in, if_pos rfl]
    · rw [up_out z, if_neg z]; exact h.2.1 l' hl'
  · rw [q2.2 _ (by simp)]; exact h.2.2
theorem m_takeAll (ht : tOk T) (ho : sOk T S B) (h : MSt T S s) (hw : w < tN T) (hT : MT T s) (hn : sH S w = some x) : ∃ s', ev d 272 0 [.inr 67, .inl (nI w), .inr 0, .inr 0] [] s = some (0, nI 0, s') ∧ MSt T (takeW T S w) s' ∧ Eqm [68, 76] [] s s' := by
  have hN := ht.2.1
  have hW := ht.1
  have hx := (wOk_s (ho.1 w) hn).2.1
  have hb := (ht.2.2.1 x hx).2.1
  have key : ∀ n, n ≤ 10 → ∃ s', ev d 272 2 [.inr 67, .inl (nI w), .inl (nI 0), .inr 0] [] s = ev d 272 2 [.inr 67, .inl (nI w), .inl (nI n), .inr 0] [] s' ∧ MSt T (itr (fun l S => takeL T S w l) n S) s' ∧ Eqm [68, 76] [] s s' ∧ sH (itr (fun l S => takeL T S w l) n S) = sH S ∧ (∀ l, sG (itr (fun l S => takeL T S w l) n S) w l ≤ nd T x l) ∧ ∀ l, sL (itr (fun l S => takeL T S w l) n S) l ≤ sL S l := by
    intro n
    induction n with
    | zero => intro _; exact ⟨s, rfl, h, Eqm.rf, rfl, (wOk_s (ho.1 w) hn).2.2.1, fun _ => Nat.le_refl _⟩
    | succ n ih =>
      intro hn2
      obtain ⟨s1, e1, m1, q1, i1, i2, i3⟩ := ih (by omega)
      rw [show itr (fun l S => takeL T S w l) (n + 1) S = takeL T (itr (fun l S => takeL T S w l) n S) w n from rfl]
      generalize itr (fun l S => takeL T S w l) n S = V at m1 i1 i2 i3 ⊢
      have hlk : lck T V w n = nd T x n - sG V w n := by unfold lck; rw [i1, hn]
      have g1 := m1.2.1 n (by omega)
      have g2 := (m1.1 w hw).2.2.2 n (by omega)
      have g4 := (m1.1 w hw).1
      rw [i1, hn, oc_some] at g4
      have g5 := ((MT_q hT q1 (by decide) (by decide)).2.2.1 x hx).2.2.2 n (by omega)
      have b1 := i2 n
      have b2 := i3 n
      have b3 := (hal_le ho (show n < 10 by omega)).2
      have b4 := nd_le T x n
      unfold takeL
      rw [hlk]
      obtain ⟨m2, q2⟩ := MSt_mv (w := w) (l := n) (a := sL V n - min (nd T x n - sG V w n) (sL V n)) (b := sG V w n + min (nd T x n - sG V w n) (sL V n)) m1 (by omega)
      have g3 : ∀ v, (up s1 68 n v) 76 = s1 76 := fun v => up_ne (by decide)
      refine ⟨_, ?_, m2, q1.tr q2, i1, fun l' => ?_, fun l' => ?_⟩
      · rw [e1, E272_2]
        simp (disch := omega) only [g1, g2, g3, g4, g5, mmin_n, lit, nI_add, pk_mul, n_sub, n_addneg, nle_t, nle_f, nlt_t, nlt_f, neq_t, neq_f, n_inb, n_ix, bnd_some, if_true, if_false, ite_tt, ite_ff, not_true_eq_false, not_false_eq_true, eq_self, false_or, or_false, true_or, or_true]
        rw [Nat.min_comm]
      · show (if w = w ∧ l' = n then sG V w n + min (nd T x n - sG V w n) (sL V n) else sG V w l') ≤ nd T x l'
        by_cases z : l' = n
        · subst z; rw [if_pos ⟨rfl, rfl⟩]; omega
        · rw [if_neg (fun y => z y.2)]; exact i2 l'
      · show (if l' = n then sL V n - min (nd T x n - sG V w n) (sL V n) else sL V l') ≤ sL S l'
        by_cases z : l' = n
        · subst z; rw [if_pos rfl]; omega
        · rw [if_neg z]; exact i3 l'
  obtain ⟨s1, e1, m1, q1, -, -, -⟩ := key 10 (Nat.le_refl _)
  refine ⟨s1, ?_, m1, q1⟩
  rw [E272_0]
  simp only [lit]
  rw [e1, E272_2]
  simp (disch := omega) only [lit, nI_add, pk_mul, n_sub, n_addneg, nle_t, nle_f, nlt_t, nlt_f, neq_t, neq_f, n_inb, n_ix, bnd_some, if_true, if_false, ite_tt, ite_ff, not_true_eq_false, not_false_eq_true, eq_self, false_or, or_false, true_or, or_true]
theorem m_lacks (ht : tOk T) (h : MSt T S s) (hw : w < tN T) (hl : l < 10) (hT : MT T s) (ho : ∀ x, sH S w = some x → x < tW T ∧ sG S w l ≤ nd T x l) : ev d 277 0 [.inr 67, .inl (nI w), .inl (nI l)] [] s = some (0, nI (lck T S w l), s) := by
  have hN := ht.2.1
  have hW := ht.1
  have e0 := (h.1 w hw).1
  rw [E277_0]
  unfold lck
  cases hn : sH S w with
  | none =>
    rw [hn, oc_none] at e0
    simp (disch := omega) only [e0, E277_42, lit, nI_add, pk_mul, n_sub, n_addneg, nle_t, nle_f, nlt_t, nlt_f, neq_t, neq_f, n_inb, n_ix, bnd_some, if_true, if_false, ite_tt, ite_ff, not_true_eq_false, not_false_eq_true, eq_self, false_or, or_false, true_or, or_true]
  | some x =>
    rw [hn, oc_some] at e0
    obtain ⟨hx, hg⟩ := ho x hn
    have e1 := (hT.2.2.1 x hx).2.2.2 l hl
    have e2 := (h.1 w hw).2.2.2 l hl
    simp (disch := omega) only [e0, e1, e2, nneg_f, E277_42, lit, nI_add, pk_mul, n_sub, n_addneg, nle_t, nle_f, nlt_t, nlt_f, neq_t, neq_f, n_inb, n_ix, bnd_some, if_true, if_false, ite_tt, ite_ff, not_true_eq_false, not_false_eq_true, eq_self, false_or, or_false, true_or, or_true]
theorem m_lends (hN : tN T ≤ 8) (h : MSt T S s) (hf : f < tN T) (ht : t < tN T) (hl : l < 10) (hne : f ≠ t) (hg : 0 < sG S f l) (hb : sG S f l < 100) (hb2 : sG S t l < 100) : ∃ s', ev d 278 0 [.inr 67, .inl (nI f), .inl (nI t), .inl (nI l)] [] s = some (0, nI 0, s') ∧ MSt T (lendW S f t l) s' ∧ Eqm [76] [] s s' := by
  have q2 : Eqm [76] [] s (up (up s 76 (10 * f + l) (nI (sG S f l - 1))) 76 (10 * t + l) (nI (sG S t l + 1))) := (Eqm.rf.pu (by simp) (by decide)).pu (by simp) (by decide)
  have g1 := (h.1 f hf).2.2.2 l hl
  have g2 := (h.1 t ht).2.2.2 l hl
  have g3 : ∀ v, (up s 76 (10 * f + l) v) 76 (10 * t + l) = nI (sG S t l) := fun v => by rw [up_out (by omega)]; exact g2
  refine ⟨_, ?_, ⟨fun w' hw' => ?_, fun l' hl' => ?_, ?_⟩, q2⟩
  · rw [E278_0]
    simp (disch := omega) only [g1, g3, lit, nI_add, pk_mul, n_sub, n_addneg, nle_t, nle_f, nlt_t, nlt_f, neq_t, neq_f, n_inb, n_ix, bnd_some, if_true, if_false, ite_tt, ite_ff, not_true_eq_false, not_false_eq_true, eq_self, false_or, or_false, true_or, or_true]
  · obtain ⟨a1, a2, a3, a4⟩ := h.1 w' hw'
    refine ⟨by rw [q2.1 _ (by decide) (by decide)]; exact a1, by rw [q2.1 _ (by decide) (by decide)]; exact a2, by rw [q2.1 _ (by decide) (by decide)]; exact a3, fun l' hl' => ?_⟩
    show _ = nI (if w' = t ∧ l' = l then sG S t l + 1 else if w' = f ∧ l' = l then sG S f l - 1 else sG S w' l')
    by_cases z : w' = t ∧ l' = l
    · obtain ⟨rfl, rfl⟩ := z
      rw [up_in, if_pos ⟨rfl, rfl⟩]
    · rw [if_neg z, up_out (by omega)]
      by_cases z2 : w' = f ∧ l' = l
      · obtain ⟨rfl, rfl⟩ := z2
        rw [up_in, if_pos ⟨rfl, rfl⟩]
      · rw [if_neg z2, up_out (by omega)]
        exact a4 l' hl'
  · show _ = nI (if l' = l then sL S l else if l' = l then sL S l + 1 else sL S l')
    rw [q2.1 _ (by decide) (by decide), h.2.1 l' hl']
    by_cases z : l' = l
    · subst z; rw [if_pos rfl]
    · rw [if_neg z, if_neg z]
  · rw [q2.2 _ (by simp)]; exact h.2.2
theorem m_refusal (ht : tOk T) (ho : sOk T S B) (h : MSt T S s) (hT : MT T s) : ev (d + 1 + 1) 276 0 [.inr 67, .inl p, .inl q, .inl r] [] s = some (0, rfs T S p q r, s) := by
  have hN := ht.2.1
  rw [E276_0, m_isWall hT hN, bnd_some]
  unfold rfs
  by_cases hf : inN p (tN T) = false
  · rw [if_pos (Or.inl hf), hf]
    simp (disch := omega) only [bIf0, E276_28, lit, nI_add, pk_mul, n_sub, n_addneg, nle_t, nle_f, nlt_t, nlt_f, neq_t, neq_f, n_inb, n_ix, bnd_some, if_true, if_false, ite_tt, ite_ff, not_true_eq_false, not_false_eq_true, eq_self, false_or, or_false, true_or, or_true]
  have hf : inN p (tN T) = true := by simpa using hf
  rw [hf]
  simp (disch := omega) only [bIt0, m_isWall hT hN, lit, nI_add, pk_mul, n_sub, n_addneg, nle_t, nle_f, nlt_t, nlt_f, neq_t, neq_f, n_inb, n_ix, bnd_some, if_true, if_false, ite_tt, ite_ff, not_true_eq_false, not_false_eq_true, eq_self, false_or, or_false, true_or, or_true]
  by_cases h2 : inN q (tN T) = false
  · rw [if_pos (Or.inr (Or.inl h2)), h2]
    simp (disch := omega) only [bIf0, E276_28, lit, nI_add, pk_mul, n_sub, n_addneg, nle_t, nle_f, nlt_t, nlt_f, neq_t, neq_f, n_inb, n_ix, bnd_some, if_true, if_false, ite_tt, ite_ff, not_true_eq_false, not_false_eq_true, eq_self, false_or, or_false, true_or, or_true]
  have h2 : inN q (tN T) = true := by simpa using h2
  rw [h2]
  simp (disch := omega) only [bIt0, lit, nI_add, pk_mul, n_sub, n_addneg, nle_t, nle_f, nlt_t, nlt_f, neq_t, neq_f, n_inb, n_ix, bnd_some, if_true, if_false, ite_tt, ite_ff, not_true_eq_false, not_false_eq_true, eq_self, false_or, or_false, true_or, or_true]
  by_cases h3 : p = q
  · rw [if_pos h3, if_pos (Or.inr (Or.inr (Or.inl h3)))]
    simp (disch := omega) only [E276_28, lit, nI_add, pk_mul, n_sub, n_addneg, nle_t, nle_f, nlt_t, nlt_f, neq_t, neq_f, n_inb, n_ix, bnd_some, if_true, if_false, ite_tt, ite_ff, not_true_eq_false, not_false_eq_true, eq_self, false_or, or_false, true_or, or_true]
  rw [if_neg h3]
  simp (disch := omega) only [m_isLetter, lit, nI_add, pk_mul, n_sub, n_addneg, nle_t, nle_f, nlt_t, nlt_f, neq_t, neq_f, n_inb, n_ix, bnd_some, if_true, if_false, ite_tt, ite_ff, not_true_eq_false, not_false_eq_true, eq_self, false_or, or_false, true_or, or_true]
  by_cases h4 : inN r 10 = false
  · rw [if_pos (Or.inr (Or.inr (Or.inr h4))), h4]
    simp (disch := omega) only [bIf0, E276_28, lit, nI_add, pk_mul, n_sub, n_addneg, nle_t, nle_f, nlt_t, nlt_f, neq_t, neq_f, n_inb, n_ix, bnd_some, if_true, if_false, ite_tt, ite_ff, not_true_eq_false, not_false_eq_true, eq_self, false_or, or_false, true_or, or_true]
  have h4 : inN r 10 = true := by simpa using h4
  rw [h4, if_neg (by simp [hf, h2, h3])]
  obtain ⟨f', hf', rfl⟩ := inN_t (by omega) hf
  obtain ⟨t', ht', rfl⟩ := inN_t (by omega) h2
  obtain ⟨l', hl', rfl⟩ := inN_t (by omega) h4
  have b1 := sG_le (l := l') ht (ho.1 f')
  have b2 := lck_le (l := l') ht (ho.1 t')
  have e1 := m_hung h hf' hl'
  have e2 := m_lacks (d := d + 1) ht h ht' hl' hT (fun x hx => ⟨(wOk_s (ho.1 t') hx).2.1, (wOk_s (ho.1 t') hx).2.2.1 l'⟩)
  simp (disch := omega) only [bIt0, e1, lit, nI_add, pk_mul, n_sub, n_addneg, nle_t, nle_f, nlt_t, nlt_f, neq_t, neq_f, n_inb, n_ix, bnd_some, if_true, if_false, ite_tt, ite_ff, not_true_eq_false, not_false_eq_true, eq_self, false_or, or_false, true_or, or_true]
  by_cases h5 : sG S f' l' = 0
  · simp (disch := omega) only [h5, lit, nI_add, pk_mul, n_sub, n_addneg, nle_t, nle_f, nlt_t, nlt_f, neq_t, neq_f, n_inb, n_ix, bnd_some, if_true, if_false, ite_tt, ite_ff, not_true_eq_false, not_false_eq_true, eq_self, false_or, or_false, true_or, or_true]
  · simp (disch := omega) only [e2, lit, nI_add, pk_mul, n_sub, n_addneg, nle_t, nle_f, nlt_t, nlt_f, neq_t, neq_f, n_inb, n_ix, bnd_some, if_true, if_false, ite_tt, ite_ff, not_true_eq_false, not_false_eq_true, eq_self, false_or, or_false, true_or, or_true]
    by_cases h6 : lck T S t' l' = 0
    · simp (disch := omega) only [h6, E276_62, lit, nI_add, pk_mul, n_sub, n_addneg, nle_t, nle_f, nlt_t, nlt_f, neq_t, neq_f, n_inb, n_ix, bnd_some, if_true, if_false, ite_tt, ite_ff, not_true_eq_false, not_false_eq_true, eq_self, false_or, or_false, true_or, or_true]
      rw [if_neg h5]
    · simp (disch := omega) only [E276_62, lit, nI_add, pk_mul, n_sub, n_addneg, nle_t, nle_f, nlt_t, nlt_f, neq_t, neq_f, n_inb, n_ix, bnd_some, if_true, if_false, ite_tt, ite_ff, not_true_eq_false, not_false_eq_true, eq_self, false_or, or_false, true_or, or_true]
      rw [if_neg h5, if_neg h6]
theorem Y_hang (ha : AOk A B) (h : MJ A B' s) : ∃ s', ev (d + 1 + 1) 273 0 [.inr 67, .inl p, .inl q] [] s = some (0, (o_hang A p q).2, s') ∧ MJ (o_hang A p q).1 B' s' ∧ gM s s' := by
  obtain ⟨h0, g0⟩ := m_th h
  obtain ⟨s0, hs0⟩ : ∃ s0, s0 = up s 67 18 (nI 0) := ⟨_, rfl⟩
  rw [← hs0] at h0 g0
  have hN := ha.1.2.1
  have hW := ha.1.1
  have ew := m_isWall (d := d) (p := p) h0.1 hN
  have ex := m_isWord (d := d) (p := q) h0.1 hW
  unfold o_hang
  by_cases hw : inN p (tN (gT A)) = false
  · rw [if_pos (Or.inl hw)]
    rw [hw] at ew
    refine ⟨s0, ?_, h0, g0⟩
    rw [E273_0, show up s 67 18 0 = s0 from hs0.symm, ew]
    simp (disch := omega) only [bIf0, E273_21, lit, nI_add, pk_mul, n_sub, n_addneg, nle_t, nle_f, nlt_t, nlt_f, neq_t, neq_f, n_inb, n_ix, bnd_some, if_true, if_false, ite_tt, ite_ff, not_true_eq_false, not_false_eq_true, eq_self, false_or, or_false, true_or, or_true]
  have hw : inN p (tN (gT A)) = true := by simpa using hw
  by_cases hx : inN q (tW (gT A)) = false
  · rw [if_pos (Or.inr hx)]
    rw [hx] at ex
    rw [hw] at ew
    refine ⟨s0, ?_, h0, g0⟩
    rw [E273_0, show up s 67 18 0 = s0 from hs0.symm, ew]
    simp (disch := omega) only [bIt0, ex, bIf0, E273_21, lit, nI_add, pk_mul, n_sub, n_addneg, nle_t, nle_f, nlt_t, nlt_f, neq_t, neq_f, n_inb, n_ix, bnd_some, if_true, if_false, ite_tt, ite_ff, not_true_eq_false, not_false_eq_true, eq_self, false_or, or_false, true_or, or_true]
  have hx : inN q (tW (gT A)) = true := by simpa using hx
  rw [hw] at ew
  rw [hx] at ex
  rw [if_neg (show ¬ (inN p (tN (gT A)) = false ∨ inN q (tW (gT A)) = false) by simp [hw, hx])]
  obtain ⟨w', hw', rfl⟩ := inN_t (by omega) hw
  obtain ⟨x', hx', rfl⟩ := inN_t (by omega) hx
  rw [n_ix (by omega), n_ix (by omega)]
  obtain ⟨s1, e1, u1, q1⟩ := m_remember (d := d) h0.2.1 h0.2.2.2.2.2.1 hN ha.2.2.2.2.1
  have hT1 := MT_q h0.1 q1 (by decide) (by decide)
  obtain ⟨s2, e2, m2, q2⟩ := m_bringAll (d := d) hN (MSt_q h0.2.1 q1 (by decide) (by decide)) hw' hT1
  obtain ⟨m3, q3⟩ := MSt_wd (w := w') (g := some x') (c := nI x') m2 rfl
  have q23 := (q2.mono (by decide) (by decide) : Eqm [68, 75, 76, 77, 78] [13] s1 s2).tr (q3.mono (by decide) (by decide))
  have e4 := ((MT_q hT1 q23 (by decide) (by decide)).2.2.1 x' hx').1
  refine ⟨_, ?_, MJ_go h0 u1 q1 q23 m3, g0.tr ((q1.g (by decide)).tr (q23.g (by decide)))⟩
  rw [E273_0, show up s 67 18 0 = s0 from hs0.symm, ew]
  simp (disch := omega) only [bIt0, ex, e1, e2, e4, lit, nI_add, pk_mul, n_sub, n_addneg, nle_t, nle_f, nlt_t, nlt_f, neq_t, neq_f, n_inb, n_ix, bnd_some, if_true, if_false, ite_tt, ite_ff, not_true_eq_false, not_false_eq_true, eq_self, false_or, or_false, true_or, or_true]
theorem Y_take (ha : AOk A B) (ha' : AOk (o_take A p).1 B) (h : MJ A B' s) : ∃ s', ev (d + 1 + 1) 274 0 [.inr 67, .inl p] [] s = some (0, (o_take A p).2, s') ∧ MJ (o_take A p).1 B' s' ∧ gM s s' := by
  obtain ⟨h0, g0⟩ := m_th h
  obtain ⟨s0, hs0⟩ : ∃ s0, s0 = up s 67 18 (nI 0) := ⟨_, rfl⟩
  rw [← hs0] at h0 g0
  have hN := ha.1.2.1
  have hW := ha.1.1
  have ew := m_isWall (d := d) (p := p) h0.1 hN
  unfold o_take at ha' ⊢
  by_cases hw : inN p (tN (gT A)) = false
  · rw [if_pos hw]
    rw [hw] at ew
    refine ⟨s0, ?_, h0, g0⟩
    rw [E274_0, show up s 67 18 0 = s0 from hs0.symm, ew]
    simp (disch := omega) only [bIf0, lit, nI_add, pk_mul, n_sub, n_addneg, nle_t, nle_f, nlt_t, nlt_f, neq_t, neq_f, n_inb, n_ix, bnd_some, if_true, if_false, ite_tt, ite_ff, not_true_eq_false, not_false_eq_true, eq_self, false_or, or_false, true_or, or_true]
  rw [if_neg hw] at ha' ⊢
  have hw : inN p (tN (gT A)) = true := by simpa using hw
  rw [hw] at ew
  obtain ⟨w', hw', rfl⟩ := inN_t (by omega) hw
  rw [n_ix (by omega)] at ha' ⊢
  have e0 := (h0.2.1.1 w' hw').1
  cases hn : sH (gS A) w' with
  | none =>
    rw [hn, oc_none] at e0
    rw [if_pos (show isW (gS A) w' = false by unfold isW; rw [hn]; rfl)]
    refine ⟨s0, ?_, h0, g0⟩
    rw [E274_0, show up s 67 18 0 = s0 from hs0.symm, ew]
    simp (disch := omega) only [bIt0, e0, lit, nI_add, pk_mul, n_sub, n_addneg, nle_t, nle_f, nlt_t, nlt_f, neq_t, neq_f, n_inb, n_ix, bnd_some, if_true, if_false, ite_tt, ite_ff, not_true_eq_false, not_false_eq_true, eq_self, false_or, or_false, true_or, or_true]
  | some x =>
    rw [hn, oc_some] at e0
    have hi : ¬ isW (gS A) w' = false := by unfold isW; rw [hn]; simp
    rw [if_neg hi] at ha' ⊢
    have hx := (wOk_s (ha.2.1.1 w') hn).2.1
    obtain ⟨s1, e1, u1, q1⟩ := m_remember (d := d) h0.2.1 h0.2.2.2.2.2.1 hN ha.2.2.2.2.1
    have hT1 := MT_q h0.1 q1 (by decide) (by decide)
    obtain ⟨s2, e2, m2, q2⟩ := m_takeAll (d := d + 1) ha.1 ha.2.1 (MSt_q h0.2.1 q1 (by decide) (by decide)) hw' hT1 hn
    have e3 := m_lacking (d := d) (s := s2) ha.1 ha'.2.1 (MT_q hT1 q2 (by decide) (by decide)) m2 hw'
    refine ⟨s2, ?_, MJ_go h0 u1 q1 (q2.mono (by decide) (by decide)) m2, g0.tr ((q1.g (by decide)).tr (q2.g (by decide)))⟩
    rw [E274_0, show up s 67 18 0 = s0 from hs0.symm, ew]
    simp (disch := omega) only [bIt0, e0, nneg_f, e1, e2, e3, lit, nI_add, pk_mul, n_sub, n_addneg, nle_t, nle_f, nlt_t, nlt_f, neq_t, neq_f, n_inb, n_ix, bnd_some, if_true, if_false, ite_tt, ite_ff, not_true_eq_false, not_false_eq_true, eq_self, false_or, or_false, true_or, or_true]
    rfl
theorem Y_bring (ha : AOk A B) (h : MJ A B' s) : ∃ s', ev (d + 1 + 1) 275 0 [.inr 67, .inl p, .inr 0] [] s = some (0, (o_bring A p).2, s') ∧ MJ (o_bring A p).1 B' s' ∧ gM s s' := by
  obtain ⟨h0, g0⟩ := m_th h
  obtain ⟨s0, hs0⟩ : ∃ s0, s0 = up s 67 18 (nI 0) := ⟨_, rfl⟩
  rw [← hs0] at h0 g0
  have hN := ha.1.2.1
  have ew := m_isWall (d := d) (p := p) h0.1 hN
  unfold o_bring
  by_cases hw : inN p (tN (gT A)) = false
  · rw [if_pos hw]
    rw [hw] at ew
    refine ⟨s0, ?_, h0, g0⟩
    rw [E275_0, show up s 67 18 0 = s0 from hs0.symm, ew]
    simp (disch := omega) only [bIf0, lit, nI_add, pk_mul, n_sub, n_addneg, nle_t, nle_f, nlt_t, nlt_f, neq_t, neq_f, n_inb, n_ix, bnd_some, if_true, if_false, ite_tt, ite_ff, not_true_eq_false, not_false_eq_true, eq_self, false_or, or_false, true_or, or_true]
  rw [if_neg hw]
  have hw : inN p (tN (gT A)) = true := by simpa using hw
  rw [hw] at ew
  obtain ⟨w', hw', rfl⟩ := inN_t (by omega) hw
  rw [n_ix (by omega)]
  obtain ⟨s1, e1, u1, q1⟩ := m_remember (d := d) h0.2.1 h0.2.2.2.2.2.1 hN ha.2.2.2.2.1
  have hT1 := MT_q h0.1 q1 (by decide) (by decide)
  obtain ⟨s2, e2, m2, q2⟩ := m_bringAll (d := d) hN (MSt_q h0.2.1 q1 (by decide) (by decide)) hw' hT1
  obtain ⟨s3, e3, m3, q3⟩ := m_noWord (d := d + 1) (w := w') m2 (by omega)
  have q23 := (q2.mono (by decide) (by decide) : Eqm [68, 75, 76, 77, 78] [13] s1 s2).tr (q3.mono (by decide) (by decide))
  refine ⟨s3, ?_, MJ_go h0 u1 q1 q23 m3, g0.tr ((q1.g (by decide)).tr (q23.g (by decide)))⟩
  rw [E275_0, show up s 67 18 0 = s0 from hs0.symm, ew]
  simp (disch := omega) only [bIt0, e1, e2, e3, lit, nI_add, pk_mul, n_sub, n_addneg, nle_t, nle_f, nlt_t, nlt_f, neq_t, neq_f, n_inb, n_ix, bnd_some, if_true, if_false, ite_tt, ite_ff, not_true_eq_false, not_false_eq_true, eq_self, false_or, or_false, true_or, or_true]
end MD7
