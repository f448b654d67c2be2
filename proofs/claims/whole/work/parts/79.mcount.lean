/-! THE MODEL: set, counted, forged, liars -/
section MD3
variable {d B B' l w v x y n a b i : Nat} {s s' s1 s'' : mS} {T : aT} {S : aS} {A : aA} {p q r : Int32} {W : List Int32} {P F : List Nat} {C : List (Nat × Nat × Nat)}
theorem MJ_sWo (h : MJ A B s) (hw : w < tN (gT A)) : MJ (wT A (sWo (gT A) w v)) B (up s 73 w (nI v)) := by
  obtain ⟨⟨t1, t2, t3, t4⟩, h2, h3, h4, h5, h6, h7, h8⟩ := h
  have q : Eqm [73] [] s (up s 73 w (nI v)) := Eqm.rf.pu (by simp) (by decide)
  have e : ∀ a, a ≠ 73 → (up s 73 w (nI v)) a = s a := fun a ha => up_ne ha
  refine ⟨⟨by rw [e _ (by decide)]; exact t1, by rw [e _ (by decide)]; exact t2, fun x hx => ?_, fun w' hw' => ?_⟩, MSt_q h2 q (by decide) (by decide), MX_q h3 q (by decide) (by decide), MW_q h4 q (by decide) (by decide), MRl_q h5 q (by decide) (by decide), MU_q h6 q (by decide) (by decide), MK_q h7 q (by decide) (by decide), MN_q h8 q (by decide) (by decide)⟩
  · rw [e _ (by decide), e _ (by decide), e _ (by decide), e _ (by decide)]; exact t3 x hx
  · refine ⟨?_, by rw [e _ (by decide)]; exact (t4 w' hw').2⟩
    show _ = nI (uO (tWo (gT A)) w v w')
    unfold uO
    by_cases hz : w' = w
    · subst hz; rw [if_pos rfl, up_in]
    · rw [if_neg hz, up_out hz]; exact (t4 w' hw').1
theorem MJ_sTe (h : MJ A B s) (hw : w < tN (gT A)) : MJ (wT A (sTe (gT A) w v)) B (up s 74 w (nI v)) := by
  obtain ⟨⟨t1, t2, t3, t4⟩, h2, h3, h4, h5, h6, h7, h8⟩ := h
  have q : Eqm [74] [] s (up s 74 w (nI v)) := Eqm.rf.pu (by simp) (by decide)
  have e : ∀ a, a ≠ 74 → (up s 74 w (nI v)) a = s a := fun a ha => up_ne ha
  refine ⟨⟨by rw [e _ (by decide)]; exact t1, by rw [e _ (by decide)]; exact t2, fun x hx => ?_, fun w' hw' => ?_⟩, MSt_q h2 q (by decide) (by decide), MX_q h3 q (by decide) (by decide), MW_q h4 q (by decide) (by decide), MRl_q h5 q (by decide) (by decide), MU_q h6 q (by decide) (by decide), MK_q h7 q (by decide) (by decide), MN_q h8 q (by decide) (by decide)⟩
  · rw [e _ (by decide), e _ (by decide), e _ (by decide), e _ (by decide)]; exact t3 x hx
  · refine ⟨by rw [e _ (by decide)]; exact (t4 w' hw').1, ?_⟩
    show _ = nI (uO (tTe (gT A)) w v w')
    unfold uO
    by_cases hz : w' = w
    · subst hz; rw [if_pos rfl, up_in]
    · rw [if_neg hz, up_out hz]; exact (t4 w' hw').2
theorem in_f {t lo hi : Int32} (h : t < lo ∨ hi < t) : ev d 228 0 [.inl t, .inl lo, .inl hi] [] s = some (0, bI false, s) := by
  rw [m_in, decide_eq_false (fun z => h.elim z.1 z.2)]
theorem in_t {t lo hi : Int32} (h1 : ¬ t < lo) (h2 : ¬ hi < t) : ev d 228 0 [.inl t, .inl lo, .inl hi] [] s = some (0, bI true, s) := by
  rw [m_in, decide_eq_true ⟨h1, h2⟩]
theorem Y_set (ha : AOk A B) (h : MJ A B' s) : ∃ s', ev (d + 1 + 1) 265 0 [.inr 67, .inl p, .inl q, .inl r, .inr 0] [] s = some (0, (o_set A p q r).2, s') ∧ MJ (o_set A p q r).1 B' s' ∧ gM s s' := by
  obtain ⟨h0, g0⟩ := m_th h
  have hN := ha.1.2.1
  obtain ⟨s0, hs0⟩ : ∃ s0, s0 = up s 67 18 (nI 0) := ⟨_, rfl⟩
  rw [← hs0] at h0 g0
  have ew := m_isWall (d := d) (p := p) h0.1 hN
  have eq := m_inB (d := d + 1) (p := q) (n := 1) (s := s0) (by omega)
  have n10 : ¬ (nI 1 = nI 0) := by decide +kernel
  unfold o_set
  by_cases hw : inN p (tN (gT A)) = false
  · rw [if_pos hw]
    rw [hw] at ew
    refine ⟨s0, ?_, h0, g0⟩
    rw [E265_0, show up s 67 18 0 = s0 from hs0.symm, ew]
    simp (disch := omega) only [bIf0, E265_41, lit, nI_add, pk_mul, n_sub, n_addneg, nle_t, nle_f, nlt_t, nlt_f, neq_t, neq_f, n_inb, n_ix, bnd_some, if_true, if_false, ite_tt, ite_ff, not_true_eq_false, not_false_eq_true, eq_self, false_or, or_false, true_or, or_true]
  have hw' : inN p (tN (gT A)) = true := by simpa using hw
  rw [if_neg hw]
  rw [hw'] at ew
  obtain ⟨w, hw2, rfl⟩ := inN_t (by omega) hw'
  rw [n_ix (by omega)]
  by_cases hq : inN q (1 + 1) = false
  · have k0 : ¬ q = nI 0 := fun z => by rw [z] at hq; revert hq; decide +kernel
    have k1 : ¬ q = nI 1 := fun z => by rw [z] at hq; revert hq; decide +kernel
    rw [if_neg (fun z => k0 z.1), if_neg (fun z => k1 z.1)]
    rw [hq] at eq
    refine ⟨s0, ?_, h0, g0⟩
    rw [E265_0, show up s 67 18 0 = s0 from hs0.symm, ew]
    simp (disch := omega) only [bIt0, eq, bIf0, E265_41, lit, nI_add, pk_mul, n_sub, n_addneg, nle_t, nle_f, nlt_t, nlt_f, neq_t, neq_f, n_inb, n_ix, bnd_some, if_true, if_false, ite_tt, ite_ff, not_true_eq_false, not_false_eq_true, eq_self, false_or, or_false, true_or, or_true]
  have hq' : inN q (1 + 1) = true := by simpa using hq
  rw [hq'] at eq
  obtain ⟨k, hk, rfl⟩ := inN_t (by omega) hq'
  rcases (by omega : k = 0 ∨ k = 1) with rfl | rfl
  · have st : ev (d + 1 + 1) 265 0 [.inr 67, .inl (nI w), .inl (nI 0), .inl r, .inr 0] [] s = ev (d + 1 + 1) 265 35 [.inr 67, .inl (nI w), .inl (nI 0), .inl r, .inr 0] [.inl (nI 99), .inl (nI 1), .inl r] s0 := by
      rw [E265_0, show up s 67 18 0 = s0 from hs0.symm, ew]
      simp (disch := omega) only [bIt0, eq, lit, nI_add, pk_mul, n_sub, n_addneg, nle_t, nle_f, nlt_t, nlt_f, neq_t, neq_f, n_inb, n_ix, bnd_some, if_true, if_false, ite_tt, ite_ff, not_true_eq_false, not_false_eq_true, eq_self, false_or, or_false, true_or, or_true]
    by_cases g1 : r < nI 1 ∨ nI 99 < r
    · rw [if_neg (fun z => g1.elim z.2.1 z.2.2), if_neg (fun z => n10 z.1.symm)]
      refine ⟨s0, ?_, h0, g0⟩
      rw [st, E265_35, in_f g1]
      simp (disch := omega) only [bIf0, E265_41, lit, nI_add, pk_mul, n_sub, n_addneg, nle_t, nle_f, nlt_t, nlt_f, neq_t, neq_f, n_inb, n_ix, bnd_some, if_true, if_false, ite_tt, ite_ff, not_true_eq_false, not_false_eq_true, eq_self, false_or, or_false, true_or, or_true]
    · have g1a : ¬ r < nI 1 := fun z => g1 (Or.inl z)
      have g1b : ¬ nI 99 < r := fun z => g1 (Or.inr z)
      obtain ⟨v, rfl, v1, v2⟩ := rng_t (by omega) g1a g1b
      rw [if_pos ⟨rfl, g1a, g1b⟩, n_ix (by omega)]
      have q1 : Eqm [73] [] s0 (up s0 73 w (nI v)) := Eqm.rf.pu (by simp) (by decide)
      refine ⟨_, ?_, MJ_sWo h0 hw2, g0.tr (q1.g (by decide))⟩
      have e := (h0.1.2.2.2 w hw2).1
      rw [st, E265_35, in_t g1a g1b]
      simp (disch := omega) only [bIt0, e, E265_62, E265_85, lit, nI_add, pk_mul, n_sub, n_addneg, nle_t, nle_f, nlt_t, nlt_f, neq_t, neq_f, n_inb, n_ix, bnd_some, if_true, if_false, ite_tt, ite_ff, not_true_eq_false, not_false_eq_true, eq_self, false_or, or_false, true_or, or_true]
  · have st : ev (d + 1 + 1) 265 0 [.inr 67, .inl (nI w), .inl (nI 1), .inl r, .inr 0] [] s = ev (d + 1 + 1) 265 35 [.inr 67, .inl (nI w), .inl (nI 1), .inl r, .inr 0] [.inl (nI 9), .inl (nI 1), .inl r] s0 := by
      rw [E265_0, show up s 67 18 0 = s0 from hs0.symm, ew]
      simp (disch := omega) only [bIt0, eq, lit, nI_add, pk_mul, n_sub, n_addneg, nle_t, nle_f, nlt_t, nlt_f, neq_t, neq_f, n_inb, n_ix, bnd_some, if_true, if_false, ite_tt, ite_ff, not_true_eq_false, not_false_eq_true, eq_self, false_or, or_false, true_or, or_true]
    rw [if_neg (fun z => n10 z.1)]
    by_cases g1 : r < nI 1 ∨ nI 9 < r
    · rw [if_neg (fun z => g1.elim z.2.1 z.2.2)]
      refine ⟨s0, ?_, h0, g0⟩
      rw [st, E265_35, in_f g1]
      simp (disch := omega) only [bIf0, E265_41, lit, nI_add, pk_mul, n_sub, n_addneg, nle_t, nle_f, nlt_t, nlt_f, neq_t, neq_f, n_inb, n_ix, bnd_some, if_true, if_false, ite_tt, ite_ff, not_true_eq_false, not_false_eq_true, eq_self, false_or, or_false, true_or, or_true]
    · have g1a : ¬ r < nI 1 := fun z => g1 (Or.inl z)
      have g1b : ¬ nI 9 < r := fun z => g1 (Or.inr z)
      obtain ⟨v, rfl, v1, v2⟩ := rng_t (by omega) g1a g1b
      rw [if_pos ⟨rfl, g1a, g1b⟩, n_ix (by omega)]
      have q1 : Eqm [74] [] s0 (up s0 74 w (nI v)) := Eqm.rf.pu (by simp) (by decide)
      refine ⟨_, ?_, MJ_sTe h0 hw2, g0.tr (q1.g (by decide))⟩
      have e := (h0.1.2.2.2 w hw2).2
      rw [st, E265_35, in_t g1a g1b]
      simp (disch := omega) only [bIt0, e, E265_62, E265_85, lit, nI_add, pk_mul, n_sub, n_addneg, nle_t, nle_f, nlt_t, nlt_f, neq_t, neq_f, n_inb, n_ix, bnd_some, if_true, if_false, ite_tt, ite_ff, not_true_eq_false, not_false_eq_true, eq_self, false_or, or_false, true_or, or_true]
/-- what the model holds of the last count: less than none, where nothing was counted -/
def ltI (C : List (Nat × Nat × Nat)) (w l n : Nat) : Int32 := itr (fun i b => if (cAt C i).1 = w ∧ (cAt C i).2.1 = l then nI (cAt C i).2.2 else b) n (-nI 1)
theorem ltI_or : ∀ n, ltI C w l n = nI (ltN C w l n) ∨ (ltI C w l n = -nI 1 ∧ ltN C w l n = 0) := by
  intro n
  induction n with
  | zero => exact Or.inr ⟨rfl, rfl⟩
  | succ n ih =>
    rw [ltN_s]
    show (if (cAt C n).1 = w ∧ (cAt C n).2.1 = l then nI (cAt C n).2.2 else ltI C w l n) = _ ∨ ((if (cAt C n).1 = w ∧ (cAt C n).2.1 = l then nI (cAt C n).2.2 else ltI C w l n) = _ ∧ _)
    by_cases h : (cAt C n).1 = w ∧ (cAt C n).2.1 = l
    · rw [if_pos h, if_pos h]; exact Or.inl rfl
    · rw [if_neg h, if_neg h]; exact ih
theorem m_latest (h : MN C s) (hl : C.length ≤ 12) (hC : ∀ c ∈ C, c.1 < tN T ∧ c.2.1 < 10 ∧ c.2.2 ≤ 20) (hN : tN T ≤ 8) (hw : w < 2147483648) (hll : l < 2147483648) : ev d 323 0 [.inr 67, .inl (nI w), .inl (nI l), .inr 0, .inr 0] [] s = some (0, ltI C w l C.length, s) := by
  have g := loopU (fun i a => ev d 323 5 [.inr 67, .inl (nI w), .inl (nI l), .inl a, .inl (nI i)] [] s) (fun i b => if (cAt C i).1 = w ∧ (cAt C i).2.1 = l then nI (cAt C i).2.2 else b) C.length (fun i a hi => by
    have e : cAt C i = C[i] := by unfold cAt; rw [List.getD_eq_getElem?_getD, List.getElem?_eq_getElem (by omega)]; rfl
    have hm := hC C[i] (List.getElem_mem _)
    obtain ⟨g1, g2, g3⟩ := h.2 i C[i] (List.getElem?_eq_getElem (by omega))
    rw [E323_5, h.1, e]
    simp (disch := omega) only [g1, g2, g3, lit, nI_add, pk_mul, n_sub, n_addneg, nle_t, nle_f, nlt_t, nlt_f, neq_t, neq_f, n_inb, n_ix, bnd_some, if_true, if_false, ite_tt, ite_ff, not_true_eq_false, not_false_eq_true, eq_self, false_or, or_false, true_or, or_true]
    by_cases z1 : C[i].1 = w
    · by_cases z2 : C[i].2.1 = l
      · rw [if_pos (show C[i].1 = w ∧ C[i].2.1 = l from ⟨z1, z2⟩)]
        simp (disch := omega) only [z1, z2, E323_54, lit, nI_add, pk_mul, n_sub, n_addneg, nle_t, nle_f, nlt_t, nlt_f, neq_t, neq_f, n_inb, n_ix, bnd_some, if_true, if_false, ite_tt, ite_ff, not_true_eq_false, not_false_eq_true, eq_self, false_or, or_false, true_or, or_true]
      · rw [if_neg (show ¬ (C[i].1 = w ∧ C[i].2.1 = l) from fun z => z2 z.2)]
        simp (disch := omega) only [z1, E323_54, lit, nI_add, pk_mul, n_sub, n_addneg, nle_t, nle_f, nlt_t, nlt_f, neq_t, neq_f, n_inb, n_ix, bnd_some, if_true, if_false, ite_tt, ite_ff, not_true_eq_false, not_false_eq_true, eq_self, false_or, or_false, true_or, or_true]
    · rw [if_neg (show ¬ (C[i].1 = w ∧ C[i].2.1 = l) from fun z => z1 z.1)]
      simp (disch := omega) only [E323_54, lit, nI_add, pk_mul, n_sub, n_addneg, nle_t, nle_f, nlt_t, nlt_f, neq_t, neq_f, n_inb, n_ix, bnd_some, if_true, if_false, ite_tt, ite_ff, not_true_eq_false, not_false_eq_true, eq_self, false_or, or_false, true_or, or_true]) (-nI 1)
  rw [E323_0]
  refine g.trans ?_
  rw [E323_5, h.1]
  simp (disch := omega) only [lit, nI_add, pk_mul, n_sub, n_addneg, nle_t, nle_f, nlt_t, nlt_f, neq_t, neq_f, n_inb, n_ix, bnd_some, if_true, if_false, ite_tt, ite_ff, not_true_eq_false, not_false_eq_true, eq_self, false_or, or_false, true_or, or_true]
  rfl
theorem ltI_le (hC : ∀ c ∈ C, c.1 < tN T ∧ c.2.1 < 10 ∧ c.2.2 ≤ 20) (ha : a < 2147483648) : (ltI C w l C.length ≤ nI a) = (ltC C w l ≤ a) := by
  have hb := ltC_le (w := w) (l := l) hC
  rcases ltI_or (C := C) (w := w) (l := l) C.length with e | ⟨e, z⟩
  · have e : ltI C w l C.length = nI (ltC C w l) := e
    rw [e]
    by_cases hz : ltC C w l ≤ a
    · rw [nle_t hz ha, eq_true hz]
    · rw [nle_f (by omega) (by omega), eq_false hz]
  · have z : ltC C w l = 0 := z
    rw [e, z, nnegle ha (by omega), eq_true (Nat.zero_le a)]
theorem ltI_max (hC : ∀ c ∈ C, c.1 < tN T ∧ c.2.1 < 10 ∧ c.2.2 ≤ 20) : mmax (nI 0) (ltI C w l C.length) = nI (ltC C w l) := by
  have hb := ltC_le (w := w) (l := l) hC
  rcases ltI_or (C := C) (w := w) (l := l) C.length with e | ⟨e, z⟩
  · have e : ltI C w l C.length = nI (ltC C w l) := e
    rw [e, mmax_n (by omega) (by omega), Nat.zero_max]
  · have z : ltC C w l = 0 := z
    rw [e, z]
    decide +kernel
theorem Y_liars (ha : AOk A B) (h : MJ A B' s) : ∃ s', ev (d + 1) 325 0 [.inr 67, .inr 0, .inr 0, .inr 0] [] s = some (0, o_liars A, s') ∧ MJ A B' s' ∧ gM s s' := by
  obtain ⟨h0, g0⟩ := m_th h
  obtain ⟨s0, hs0⟩ : ∃ s0, s0 = up s 67 18 (nI 0) := ⟨_, rfl⟩
  rw [← hs0] at h0 g0
  have hN := ha.1.2.1
  have hC := ha.2.2.2.2.2.2.2.2
  refine ⟨s0, ?_, h0, g0⟩
  have inner : ∀ w m, w < tN (gT A) → ev (d + 1) 325 19 [.inr 67, .inl (nI m), .inl (nI w), .inl (nI 0)] [] s0 = ev (d + 1) 325 19 [.inr 67, .inl (nI (m ||| (if liA A w = true then 2 ^ w else 0))), .inl (nI w), .inl (nI 10)] [] s0 := fun w m hw => by
    have g := loopU (fun i b => ev (d + 1) 325 19 [.inr 67, .inl (nI (m ||| (if b = true then 2 ^ w else 0))), .inl (nI w), .inl (nI i)] [] s0) (fun l b => b || decide (sG (gS A) w l < ltC (gC A) w l)) 10 (fun i b hi => by
      have e1 := m_latest (d := d) (w := w) (l := i) h0.2.2.2.2.2.2.2 hC.1 hC.2 hN (by omega) (by omega)
      have e2 := m_hung h0.2.1 hw hi
      have b1 := ltC_le (w := w) (l := i) (T := gT A) hC.2
      have b2 := sG_le (l := i) ha.1 (ha.2.1.1 w)
      have e3 := ltI_le (w := w) (l := i) (a := sG (gS A) w i) hC.2 (by omega)
      rw [E325_19]
      simp (disch := omega) only [e1, e2, e3, lit, nI_add, pk_mul, n_sub, n_addneg, nle_t, nle_f, nlt_t, nlt_f, neq_t, neq_f, n_inb, n_ix, bnd_some, if_true, if_false, ite_tt, ite_ff, not_true_eq_false, not_false_eq_true, eq_self, false_or, or_false, true_or, or_true]
      by_cases hz : sG (gS A) w i < ltC (gC A) w i
      · simp (disch := omega) only [E325_53, n_pow, n_or, decide_eq_true hz, Bool.or_true, Nat.not_le.mpr hz, lit, nI_add, pk_mul, n_sub, n_addneg, nle_t, nle_f, nlt_t, nlt_f, neq_t, neq_f, n_inb, n_ix, bnd_some, if_true, if_false, ite_tt, ite_ff, not_true_eq_false, not_false_eq_true, eq_self, false_or, or_false, true_or, or_true]
        cases b with
        | false => simp (disch := omega) only [Bool.false_eq_true, Nat.or_zero, lit, nI_add, pk_mul, n_sub, n_addneg, nle_t, nle_f, nlt_t, nlt_f, neq_t, neq_f, n_inb, n_ix, bnd_some, if_true, if_false, ite_tt, ite_ff, not_true_eq_false, not_false_eq_true, eq_self, false_or, or_false, true_or, or_true]
        | true => simp (disch := omega) only [Nat.or_assoc, Nat.or_self, lit, nI_add, pk_mul, n_sub, n_addneg, nle_t, nle_f, nlt_t, nlt_f, neq_t, neq_f, n_inb, n_ix, bnd_some, if_true, if_false, ite_tt, ite_ff, not_true_eq_false, not_false_eq_true, eq_self, false_or, or_false, true_or, or_true]
      · simp (disch := omega) only [E325_53, decide_eq_false hz, Bool.or_false, Nat.not_lt.mp hz, n_or, Nat.or_zero, lit, nI_add, pk_mul, n_sub, n_addneg, nle_t, nle_f, nlt_t, nlt_f, neq_t, neq_f, n_inb, n_ix, bnd_some, if_true, if_false, ite_tt, ite_ff, not_true_eq_false, not_false_eq_true, eq_self, false_or, or_false, true_or, or_true]) false
    simp only [Bool.false_eq_true, if_false, Nat.or_zero] at g
    exact g
  have outer := loopU (fun i a => ev (d + 1) 325 9 [.inr 67, .inl (nI a), .inl (nI i), .inr 0] [] s0) (fun i a => a ||| (if liA A i = true then 2 ^ i else 0)) (tN (gT A)) (fun i a hi => by
    rw [E325_9, h0.1.2.1]
    simp (disch := omega) only [lit, nI_add, pk_mul, n_sub, n_addneg, nle_t, nle_f, nlt_t, nlt_f, neq_t, neq_f, n_inb, n_ix, bnd_some, if_true, if_false, ite_tt, ite_ff, not_true_eq_false, not_false_eq_true, eq_self, false_or, or_false, true_or, or_true]
    rw [inner i a hi, E325_19]
    simp (disch := omega) only [lit, nI_add, pk_mul, n_sub, n_addneg, nle_t, nle_f, nlt_t, nlt_f, neq_t, neq_f, n_inb, n_ix, bnd_some, if_true, if_false, ite_tt, ite_ff, not_true_eq_false, not_false_eq_true, eq_self, false_or, or_false, true_or, or_true]) 0
  rw [E325_0, show up s 67 18 0 = s0 from hs0.symm]
  simp only [lit]
  refine outer.trans ?_
  rw [E325_9, h0.1.2.1]
  simp (disch := omega) only [lit, nI_add, pk_mul, n_sub, n_addneg, nle_t, nle_f, nlt_t, nlt_f, neq_t, neq_f, n_inb, n_ix, bnd_some, if_true, if_false, ite_tt, ite_ff, not_true_eq_false, not_false_eq_true, eq_self, false_or, or_false, true_or, or_true]
  rfl
theorem ltC_out (hC : ∀ c ∈ C, c.1 < tN T ∧ c.2.1 < 10 ∧ c.2.2 ≤ 20) (hw : tN T ≤ w) : ltC C w l = 0 := by
  have : ∀ n, n ≤ C.length → ltN C w l n = 0 := by
    intro n
    induction n with
    | zero => intro _; rfl
    | succ n ih =>
      intro hn
      have e : cAt C n = C[n] := by unfold cAt; rw [List.getD_eq_getElem?_getD, List.getElem?_eq_getElem (by omega)]; rfl
      have := hC C[n] (List.getElem_mem _)
      rw [ltN_s, e, if_neg (fun z => by have := z.1; omega)]
      exact ih (by omega)
  exact this _ (Nat.le_refl _)
theorem Y_forged (ha : AOk A B) (h : MJ A B' s) : ∃ s', ev (d + 1) 324 0 [.inr 67, .inr 0, .inr 0, .inr 0, .inr 0] [] s = some (0, (o_forged A).2, s') ∧ MJ (o_forged A).1 B' s' ∧ gM s s' := by
  obtain ⟨h0, g0⟩ := m_th h
  obtain ⟨s0, hs0⟩ : ∃ s0, s0 = up s 67 18 (nI 0) := ⟨_, rfl⟩
  rw [← hs0] at h0 g0
  have hN := ha.1.2.1
  have hC := ha.2.2.2.2.2.2.2.2
  unfold o_forged
  have q0 : Eqm [80] [17] s0 (up s0 67 17 (nI 0)) := Eqm.rf.pf (by simp)
  have key : ∀ n, n ≤ 10 → ∃ s', ev (d + 1) 324 14 [.inr 67, .inl (nI 0), .inl (nI 0), .inr 0, .inr 0] [] (up s0 67 17 (nI 0)) = ev (d + 1) 324 14 [.inr 67, .inl (nI (sm (bey A) n)), .inl (nI n), .inr 0, .inr 0] [] s' ∧ MW (rowN (fun l => nI (bey A l)) n) s' ∧ Eqm [80] [17] s0 s' := by
    intro n
    induction n with
    | zero => intro _; exact ⟨_, rfl, MW_nil, q0⟩
    | succ n ih =>
      intro hn
      obtain ⟨s1, e1, w1, q1⟩ := ih (by omega)
      have hT1 := MT_q h0.1 q1 (by decide) (by decide)
      have hN1 := MN_q h0.2.2.2.2.2.2.2 q1 (by decide) (by decide)
      have b1 : ∀ m, m ≤ 8 → sm (fun w => ltC (gC A) w n) m ≤ m * 20 := fun m _ => sm_le (fun w _ => ltC_le (T := gT A) hC.2)
      have g := loopU (fun i a => ev (d + 1) 324 25 [.inr 67, .inl (nI (sm (bey A) n)), .inl (nI n), .inl (nI a), .inl (nI i)] [] s1) (fun w a => a + ltC (gC A) w n) (tN (gT A)) (fun w a hw => by
        have e2 := m_latest (d := d) (w := w) (l := n) hN1 hC.1 hC.2 hN (by omega) (by omega)
        have e3 : mmax (nI 0) _ = _ := ltI_max (w := w) (l := n) hC.2
        rw [E324_25, hT1.2.1]
        simp (disch := omega) only [e2, e3, lit, nI_add, pk_mul, n_sub, n_addneg, nle_t, nle_f, nlt_t, nlt_f, neq_t, neq_f, n_inb, n_ix, bnd_some, if_true, if_false, ite_tt, ite_ff, not_true_eq_false, not_false_eq_true, eq_self, false_or, or_false, true_or, or_true]) 0
      have e3 := m_stockOf (d := d) (l := n) hN ha.2.1 hT1 (MSt_q h0.2.1 q1 (by decide) (by decide)) (by omega)
      obtain ⟨s2, e4, w2, q2⟩ := m_tell (d := d) (p := nI (bey A n)) w1 (by rw [rowN_len]; omega)
      have b2 := ha.2.1.2.1 n (by omega)
      have es : sm (fun w => ltC (gC A) w n) 8 = sm (fun w => ltC (gC A) w n) (tN (gT A)) := sm_more hN (fun i h1 _ => ltC_out hC.2 h1)
      have b3 := b1 8 (by omega)
      have em : mmax (nI 0) (nI (sm (fun w => ltC (gC A) w n) 8) - nI (stk (gS A) n)) = nI (bey A n) := mmax0 (by omega) (by omega)
      rw [es] at em
      have st : ev (d + 1) 324 14 [.inr 67, .inl (nI (sm (bey A) n)), .inl (nI n), .inr 0, .inr 0] [] s1 = ev (d + 1) 324 25 [.inr 67, .inl (nI (sm (bey A) n)), .inl (nI n), .inl (nI (sm (fun w => ltC (gC A) w n) (tN (gT A)))), .inl (nI (tN (gT A)))] [] s1 := by
        rw [E324_14]
        simp (disch := omega) only [lit, nI_add, pk_mul, n_sub, n_addneg, nle_t, nle_f, nlt_t, nlt_f, neq_t, neq_f, n_inb, n_ix, bnd_some, if_true, if_false, ite_tt, ite_ff, not_true_eq_false, not_false_eq_true, eq_self, false_or, or_false, true_or, or_true]
        exact g
      refine ⟨s2, ?_, w2, q1.tr q2⟩
      rw [e1, st, E324_25, hT1.2.1]
      simp (disch := omega) only [lit, nle_t, if_true, e3, bnd_some, em, e4, nI_add]
      rfl
  obtain ⟨s', e1, w1, q1⟩ := key 10 (Nat.le_refl _)
  refine ⟨s', ?_, MJ_row h0 q1 (by decide) (by decide) w1, g0.tr (q1.g (by decide))⟩
  rw [E324_0, show up s 67 18 0 = s0 from hs0.symm]
  simp only [lit]
  rw [e1, E324_14]
  simp (disch := omega) only [lit, nI_add, pk_mul, n_sub, n_addneg, nle_t, nle_f, nlt_t, nlt_f, neq_t, neq_f, n_inb, n_ix, bnd_some, if_true, if_false, ite_tt, ite_ff, not_true_eq_false, not_false_eq_true, eq_self, false_or, or_false, true_or, or_true]
end MD3
