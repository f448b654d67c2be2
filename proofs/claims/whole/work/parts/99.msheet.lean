/-! THE MODEL: sheet -/
def refN (S : aS) (st : Nat → Nat) (m : Nat) : aS := (fun l => if l < m then st l - hal S l else sL S l, sH S, sG S, sQ S, sU S, sK S)
section MSH
variable {d B B' w l x y m c t j : Nat} {s s' s1 s2 : mS} {T : aT} {S S' X : aS} {A : aA} {p q r a v k n f st : Int32} {W : List Int32} {K : Nat → Option aS}
theorem sOk_refN {g : Nat → Nat} (h : sOk T S B) (hg : ∀ l, l < 10 → hal S l ≤ g l ∧ g l ≤ 20) : sOk T (refN S g m) B := by
  refine ⟨h.1, fun l hl => ?_, h.2.2⟩
  have h1 := h.2.1 l hl
  have h2 := hg l hl
  unfold stk at h1
  show (if l < m then g l - hal S l else sL S l) + hal S l ≤ 20
  split <;> omega
theorem MK_came (h : MK T K B' s) (q : Eqm [68] [31] s s') (hB : B' < 2147483000) : MK T (fun _ => none) (B' + 1) (up s' 67 43 (s' 67 43 + nI 1)) := by
  obtain ⟨c, k1, k2, k3⟩ := h
  refine ⟨c + 1, by omega, ?_, fun i hi => ?_⟩
  · rw [up_in, q.2 _ (by decide), k2, nI_add]
  · obtain ⟨a1, ⟨e, b1, b2, -⟩, -⟩ := k3 i hi
    rw [up_ne (by decide), up_ne (by decide), q.1 _ (by decide) (by decide), q.1 _ (by decide) (by decide)]
    exact ⟨a1, ⟨e, by omega, b2, ⟨fun z => absurd rfl z, fun z => by have := z.2; omega⟩⟩, fun U hU => by cases hU⟩
theorem Y_sheet (ha : AOk A B) (hB : B' < 2147483000) (h : MJ A B' s) : ∃ s', ev (d + 1) 266 0 [.inr 67, .inl k, .inl n, .inl f, .inl st, .inr 0, .inr 0, .inr 0, .inr 0] [] s = some (0, (o_sheet A k n f st).2, s') ∧ MJ (o_sheet A k n f st).1 (B' + 1) s' ∧ gM s s' := by
  obtain ⟨h0, g0⟩ := m_th h
  obtain ⟨s0, hs0⟩ : ∃ s0, s0 = up s 67 18 (nI 0) := ⟨_, rfl⟩
  rw [← hs0] at h0 g0
  have hN := ha.1.2.1
  have ei : ev d 228 0 [.inl k, .inl 0, .inl 3] [] s0 = some (0, bI (decide (¬ k < nI 0 ∧ ¬ nI 3 < k)), s0) := m_in
  have h0' := MJ_mono h0 (Nat.le_succ B')
  unfold o_sheet
  by_cases h12 : k < nI 0 ∨ nI 3 < k
  · rw [if_pos (h12.elim Or.inl (fun z => Or.inr (Or.inl z)))]
    refine ⟨s0, ?_, h0', g0⟩
    rw [decide_eq_false (fun z => h12.elim z.1 z.2)] at ei
    rw [E266_0, show up s 67 18 0 = s0 from hs0.symm, ei, bnd_some, if_pos (show bI false = 0 from rfl), E266_20]
    rfl
  have h1 : ¬ k < nI 0 := fun z => h12 (Or.inl z)
  have h2 : ¬ nI 3 < k := fun z => h12 (Or.inr z)
  rw [decide_eq_true ⟨h1, h2⟩] at ei
  have bt : ¬ bI true = 0 := by decide +kernel
  by_cases h3 : nI 10 < n
  · rw [if_pos (Or.inr (Or.inr h3))]
    refine ⟨s0, ?_, h0', g0⟩
    rw [E266_0, show up s 67 18 0 = s0 from hs0.symm, ei, bnd_some, if_neg bt, if_neg (show ¬ n ≤ 10 from Int32.not_le.mpr h3), E266_20]
    rfl
  rw [if_neg (fun z => z.elim h1 (fun z => z.elim h2 h3))]
  have h3' : n ≤ 10 := Int32.not_lt.mp h3
  have k3 : (3 ≤ k) ↔ k = nI 3 := ⟨fun z => Int32.le_antisymm (Int32.not_lt.mp h2) z, fun z => by rw [z]; decide +kernel⟩
  by_cases h4 : ¬ k = nI 3 ∧ n < nI 0
  · rw [if_pos h4]
    refine ⟨s0, ?_, h0', g0⟩
    rw [E266_0, show up s 67 18 0 = s0 from hs0.symm, ei, bnd_some, if_neg bt, if_pos h3', if_neg (fun z => h4.1 (k3.mp z)), if_neg (show ¬ 0 ≤ n from Int32.not_le.mpr h4.2)]
    rfl
  rw [if_neg h4]
  have st0 : ev (d + 1) 266 0 [.inr 67, .inl k, .inl n, .inl f, .inl st, .inr 0, .inr 0, .inr 0, .inr 0] [] s = ev (d + 1) 266 40 [.inr 67, .inl k, .inl n, .inr 0, .inl st, .inl f, .inl (nI 0), .inr 0, .inr 0] [] s0 := by
    rw [E266_0, show up s 67 18 0 = s0 from hs0.symm, ei, bnd_some, if_neg bt, if_pos h3']
    by_cases h5 : k = nI 3
    · rw [if_pos (k3.mpr h5), E266_34]
      rfl
    · have h6 : 0 ≤ n := Int32.not_lt.mp (fun z => h4 ⟨h5, z⟩)
      rw [if_neg (fun z => h5 (k3.mp z)), if_pos h6, E266_34]
      rfl
  rw [st0]
  have hst : ∀ l, l < 10 → shV (gS A) k n f st l = nI (shT (gS A) k n f st l) ∧ hal (gS A) l ≤ shT (gS A) k n f st l ∧ shT (gS A) k n f st l ≤ 20 := fun l hl => shV_n (hal_le ha.2.1 hl).1
  obtain ⟨g, hg⟩ : ∃ g, g = shT (gS A) k n f st := ⟨_, rfl⟩
  rw [← hg] at hst ⊢
  have key : ∀ m, m ≤ 10 → ∃ s', ev (d + 1) 266 40 [.inr 67, .inl k, .inl n, .inr 0, .inl st, .inl f, .inl (nI 0), .inr 0, .inr 0] [] s0 = ev (d + 1) 266 40 [.inr 67, .inl k, .inl n, .inr 0, .inl st, .inl (shE f st m), .inl (nI m), .inr 0, .inr 0] [] s' ∧ MSt (gT A) (refN (gS A) g m) s' ∧ Eqm [68] [] s0 s' := by
    intro m
    induction m with
    | zero =>
      intro _
      refine ⟨s0, rfl, ⟨h0.2.1.1, fun l hl => ?_, h0.2.1.2.2⟩, Eqm.rf⟩
      show _ = nI (if l < 0 then g l - hal (gS A) l else sL (gS A) l)
      rw [if_neg (Nat.not_lt_zero _)]
      exact h0.2.1.2.1 l hl
    | succ m ih =>
      intro hm
      obtain ⟨s1, e1, m1, q1⟩ := ih (by omega)
      obtain ⟨v1, v2, v3⟩ := hst m (by omega)
      have o1 := sOk_refN (m := m) ha.2.1 (fun l hl => (hst l hl).2)
      have e2 := m_stockOf (d := d) (s := s1) (l := m) hN o1 (MT_q h0.1 q1 (by decide) (by decide)) m1 (by omega)
      have e3 := m1.2.1 m (by omega)
      have hL : sL (refN (gS A) g m) m = sL (gS A) m := if_neg (Nat.lt_irrefl _)
      have hH : stk (refN (gS A) g m) m = sL (gS A) m + hal (gS A) m := by
        show sL (refN (gS A) g m) m + hal (gS A) m = _
        rw [hL]
      rw [hL] at e3
      rw [hH] at e2
      have b1 := hal_le ha.2.1 (show m < 10 by omega)
      have sub : nI (sL (gS A) m + hal (gS A) m) - nI (sL (gS A) m) = nI (hal (gS A) m) := by
        rw [n_sub (by omega), Nat.add_sub_cancel_left]
      have q2 : Eqm [68] [] s1 (up s1 68 m (nI (g m - hal (gS A) m))) := Eqm.rf.pu (by simp) (by decide)
      refine ⟨up s1 68 m (nI (g m - hal (gS A) m)), ?_, ⟨fun w hw => ?_, fun l hl => ?_, ?_⟩, q1.tr q2⟩
      · unfold shV at v1
        have fin : ∀ b0 : Int32, b0 = nI (g m - hal (gS A) m) → ev (d + 1) 266 124 [.inr 67, .inl k, .inl n, .inr 0, .inl st, .inl (shE f st m), .inl (nI m), .inr 0, .inr 0] [.inl b0, .inl (nI m), .inr 68] s1 = ev (d + 1) 266 40 [.inr 67, .inl k, .inl n, .inr 0, .inl st, .inl (shE f st (m + 1)), .inl (nI (m + 1)), .inr 0, .inr 0] [] (up s1 68 m (nI (g m - hal (gS A) m))) := fun b0 hb => by
          rw [E266_124, hb, shE_s]
          simp (disch := omega) only [lit, nI_add, pk_mul, n_sub, n_addneg, nle_t, nle_f, nlt_t, nlt_f, neq_t, neq_f, n_inb, n_ix, bnd_some, if_true, if_false, ite_tt, ite_ff, not_true_eq_false, not_false_eq_true, eq_self, false_or, or_false, true_or, or_true]
        have z0 : mmax (nI (hal (gS A) m)) (nI 0) = nI (g m) → nI 0 = nI (g m - hal (gS A) m) := fun hz => by
          rw [mmax_n (by omega) (by omega)] at hz
          have := (nI_eq (by omega) (by omega)).mp hz
          congr 1
          omega
        have e86 : ev (d + 1) 266 86 [.inr 67, .inl k, .inl n, .inr 0, .inl st, .inl (shE f st m), .inl (nI m), .inl (nI (hal (gS A) m)), .inr 0] [.inl (asK k (shE f st m))] s1 = ev (d + 1) 266 40 [.inr 67, .inl k, .inl n, .inr 0, .inl st, .inl (shE f st (m + 1)), .inl (nI (m + 1)), .inr 0, .inr 0] [] (up s1 68 m (nI (g m - hal (gS A) m))) := by
          rw [E266_86]
          by_cases h5 : k = nI 3
          · rw [if_pos (show k = 3 from h5), E266_105]
            rw [if_pos h5, if_pos (show nI 0 ≤ nI m from nI_le (Nat.zero_le _) (by omega))] at v1
            exact fin _ (z0 v1)
          · rw [if_neg (show ¬ k = 3 from h5)]
            rw [if_neg h5] at v1
            by_cases h6 : n ≤ nI m
            · rw [if_neg (Int32.not_lt.mpr h6), E266_105]
              rw [if_pos h6] at v1
              exact fin _ (z0 v1)
            · rw [if_pos (Int32.not_le.mp h6)]
              rw [if_neg h6] at v1
              refine fin _ ?_
              have v1' : mmax (nI (hal (gS A) m)) (mmin 20 (asK k (shE f st m))) = nI (g m) := v1
              rw [v1', n_sub v2]
        rw [e1, E266_40, if_neg (show ¬ 10 ≤ nI m from (nI_ge (by omega) (by omega) : ¬ nI 10 ≤ nI m)), e2, bnd_some, if_pos (n_inb (by omega) (by omega)), n_ix (by omega), e3, sub]
        unfold asK at e86
        by_cases k0 : k = nI 0
        · rw [if_pos k0] at e86
          rw [if_neg (show ¬ ¬ k = 0 from not_not_intro k0)]
          exact e86
        · rw [if_neg k0] at e86
          rw [if_pos (show ¬ k = 0 from k0)]
          by_cases k1 : k = nI 1
          · rw [if_pos k1] at e86
            rw [if_neg (show ¬ ¬ k = 1 from not_not_intro k1)]
            exact e86
          · rw [if_neg k1] at e86
            rw [if_pos (show ¬ k = 1 from k1)]
            exact e86
      · obtain ⟨a1, a2, a3, a4⟩ := m1.1 w hw
        rw [up_ne (by decide), up_ne (by decide), up_ne (by decide), up_ne (by decide)]
        exact ⟨a1, a2, a3, a4⟩
      · show _ = nI (if l < m + 1 then g l - hal (gS A) l else sL (gS A) l)
        by_cases z : l = m
        · subst z; rw [up_in, if_pos (by omega)]
        · rw [up_out z, m1.2.1 l hl]
          show nI (if l < m then g l - hal (gS A) l else sL (gS A) l) = _
          by_cases z2 : l < m
          · rw [if_pos z2, if_pos (by omega)]
          · rw [if_neg z2, if_neg (by omega)]
      · rw [q2.2 _ (by simp)]; exact m1.2.2
  obtain ⟨s1, e1, m1, q1⟩ := key 10 (Nat.le_refl _)
  obtain ⟨s2, hs2⟩ : ∃ s2, s2 = up (up s1 67 31 (nI 0)) 67 43 ((up s1 67 31 (nI 0)) 67 43 + nI 1) := ⟨_, rfl⟩
  have q2 : Eqm [] [31, 43] s1 s2 := by rw [hs2]; exact (Eqm.rf.pf (by simp)).pf (by simp)
  have q3 : Eqm [68] [31] s0 (up s1 67 31 (nI 0)) := (q1.mono (by decide) (by decide)).pf (by simp)
  have q : Eqm [68] [31, 43] s0 s2 := (q1.mono (by decide) (by decide)).tr (q2.mono (by decide) (by decide))
  have mR : MSt (gT A) (refS (gS A) g) s2 := by
    refine ⟨fun w hw => ?_, fun l hl => ?_, ?_⟩
    · obtain ⟨a1, a2, a3, a4⟩ := m1.1 w hw
      rw [q2.1 _ (by decide) (by decide), q2.1 _ (by decide) (by decide), q2.1 _ (by decide) (by decide), q2.1 _ (by decide) (by decide)]
      exact ⟨a1, a2, a3, a4⟩
    · rw [q2.1 _ (by decide) (by decide), m1.2.1 l hl]
      show nI (if l < 10 then g l - hal (gS A) l else sL (gS A) l) = _
      rw [if_pos hl]
      rfl
    · rw [q2.2 _ (by decide)]; exact m1.2.2
  obtain ⟨j1, j2, j3, j4, j5, j6, j7, j8⟩ := h0
  refine ⟨s2, ?_, ⟨MT_q j1 q (by decide) (by decide), mR, MX_q j3 q (by decide) (by decide), MW_q j4 q (by decide) (by decide), MRl_q j5 q (by decide) (by decide), ⟨?_, fun i U hU => by cases hU⟩, ?_, MN_q j8 q (by decide) (by decide)⟩, g0.tr (q.g (by decide))⟩
  · have e3 := m_allLeft (d := d) mR
    rw [e1, E266_40, if_pos (show 10 ≤ nI 10 by decide +kernel), show up (up s1 67 31 0) 67 43 ((up s1 67 31 0) 67 43 + 1) = s2 from hs2.symm]
    by_cases h5 : k = nI 3
    · rw [if_neg (show ¬ ¬ k = 3 from not_not_intro h5), E266_167, if_pos h5]
      rfl
    · rw [if_pos (show ¬ k = 3 from h5), e3, bnd_some, E266_167, if_neg h5]
  · rw [hs2, up_out (by decide), up_in]; rfl
  · rw [hs2]; exact MK_came j7 q3 hB
end MSH
