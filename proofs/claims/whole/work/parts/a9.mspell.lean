/-! THE MODEL: order, spell: the calls -/
def ofF : List Nat := [15, 19, 20, 21, 22, 23]
section MTX2
variable {d E p f v B B' n i j l m : Nat} {s s' s1 s2 sX : mS} {X : aX} {A : aA} {o : aO} {L : List aO} {S : aS}
theorem MJ_x85 (h : MJ A B s) (q : Eqm [85] ofF s s') (h15 : s' 67 15 = nI 0) : MJ (wX A (x0 A)) B s' := by
  obtain ⟨h1, h2, h3, h4, h5, h6, h7, h8⟩ := h
  exact ⟨MT_q h1 q (by decide) (by decide), MSt_q h2 q (by decide) (by decide), ⟨h15, fun i hi => absurd hi (Nat.not_lt_zero _)⟩, MW_q h4 q (by decide) (by decide), MRl_q h5 q (by decide) (by decide), MU_q h6 q (by decide) (by decide), MK_q h7 q (by decide) (by decide), MN_q h8 q (by decide) (by decide)⟩
theorem XI_x0 (hX : XI A B sX) : ∃ s', XI (wX A (x0 A)) B s' := by
  obtain ⟨s', -, h, -⟩ := X_end (d := 0) (a := nI 0) hX
  have e : (o_end A (nI 0)).1 = wX A (x0 A) := by
    unfold o_end
    have hn : inN (nI 0) ((gX A).1 + 1) = true := by
      rw [inN_n (by omega) (by have := hX.1.2.2.2.2.2.1; omega)]
      exact decide_eq_true (Nat.succ_pos _)
    rw [hn, if_neg (by simp), n_ix (by omega)]
    rfl
  rw [e] at h
  exact ⟨s', h⟩
theorem Y_order (hX : XI A B sX) (hB : B + 3600 < 2147483000) (h : MJ A B' s) : ∃ s', ev (d + 44 * 5 + 2 + 1 + 1 + 1 + 1 + 1) 283 0 [.inr 67, .inr 0, .inr 0, .inr 0] [] s = some (0, (o_order A).2, s') ∧ MJ (o_order A).1 B' s' ∧ g67 s s' := by
  have ha := hX.1
  obtain ⟨h0, g0⟩ := m_th h
  obtain ⟨s0, hs0⟩ : ∃ s0, s0 = up s 67 18 (nI 0) := ⟨_, rfl⟩
  rw [← hs0] at h0 g0
  have hN := ha.1.2.1
  have hx1 := h0.2.2.1.1
  have hx2 := h0.2.2.1.2
  have b80 := ha.2.2.2.2.2.1
  have b256 := ha.2.2.2.2.2.2.1
  obtain ⟨s1, hs1⟩ : ∃ s1, s1 = up (up (up (up (up (up s0 67 19 (nI 79)) 67 20 (nI (gX A).1)) 67 21 60) 67 22 0) 67 23 (-1)) 67 15 0 := ⟨_, rfl⟩
  have q1 : Eqm [] ofF s0 s1 := by rw [hs1]; exact (((((Eqm.rf.pf (by decide)).pf (by decide)).pf (by decide)).pf (by decide)).pf (by decide)).pf (by decide)
  have f15 : s1 67 15 = nI 0 := by rw [hs1, up_in]; rfl
  have f19 : s1 67 19 = nI 79 := by rw [hs1, up_out (by decide), up_out (by decide), up_out (by decide), up_out (by decide), up_out (by decide), up_in]
  have f20 : s1 67 20 = nI (gX A).1 := by rw [hs1, up_out (by decide), up_out (by decide), up_out (by decide), up_out (by decide), up_in]
  have f21 : s1 67 21 = nI 60 := by rw [hs1, up_out (by decide), up_out (by decide), up_out (by decide), up_in]; rfl
  have f22 : s1 67 22 = nI 0 := by rw [hs1, up_out (by decide), up_out (by decide), up_in]; rfl
  have f23 : s1 67 23 = wI none := by rw [hs1, up_out (by decide), up_in]; rfl
  have es : mcu s1 0 none = s1 := mcu_self f22 f23
  have st : ev (d + 44 * 5 + 2 + 1 + 1 + 1 + 1 + 1) 283 0 [.inr 67, .inr 0, .inr 0, .inr 0] [] s = (if nI (gX A).1 ≤ 0 then ev (d + 44 * 5 + 2 + 1 + 1 + 1 + 1 + 1) 283 39 [.inr 67, .inl 0, .inl 0, .inr 0] [] s1 else ev (d + 44 * 5 + 2 + 1 + 1 + 1 + 1 + 1) 283 39 [.inr 67, .inl 0, .inl 1, .inr 0] [] s1) := by
    rw [E283_0, show up s 67 18 0 = s0 from hs0.symm, hx1, E237_0 (Or.inl rfl), bnd_some, ← hs1, f20, E283_38, E283_38]
  obtain ⟨sE, hE0⟩ := XI_x0 hX
  have bt : ¬ bI true = 0 := by decide +kernel
  -- the steps told, one by one
  have good : ∀ (L : List aO) (z : mS), L.length ≤ 60 → MJ (wX A (x0 A)) B' z → g67 s0 z → (∀ j o, L[j]? = some o → MO z j o ∧ okSt o) → ∃ s', ev (d + 44 * 5 + 2 + 1 + 1 + 1 + 1 + 1) 283 105 [.inr 67, .inl (nI L.length), .inr 0, .inl (nI 0)] [] z = some (0, nI (ordR (wX A (x0 A)) L).2.1, s') ∧ MJ (wW (ordR (wX A (x0 A)) L).1 [bI (ordR (wX A (x0 A)) L).2.2]) B' s' ∧ g67 s s' := fun L z hL hz gz hs => by
    obtain ⟨s2, e2, h2, g2⟩ := m_orderL (d := d) (n := L.length) hL L 0 (wX A (x0 A)) B sE z hE0 (by omega) (Nat.zero_add _) hz (fun j o hj => by rw [Nat.zero_add]; exact hs j o hj)
    rw [Nat.zero_add] at e2
    obtain ⟨r1, r2⟩ := ordR_le L (wX A (x0 A))
    obtain ⟨s3, e3, q3, w3⟩ := m_tell1 (d := d + 44 * 5 + 2 + 1 + 1 + 1 + 1) (s := s2) (p := bI (ordR (wX A (x0 A)) L).2.2)
    refine ⟨s3, ?_, MJ_row h2 q3 (by decide) (by decide) w3, (gM_o g0).tr (gz.tr ((gM_o g2).tr (q3.g7 (by decide))))⟩
    rw [e2, E283_126, E283_142, E283_142]
    by_cases hl : (ordR (wX A (x0 A)) L).2.1 < L.length
    · rw [r2, decide_eq_true hl] at e3
      rw [if_neg (nI_ge hl (by omega))]
      have e3 : ev (d + 44 * 5 + 2 + 1 + 1 + 1 + 1) 231 0 [.inr 67, .inl 1] [] (up s2 67 17 0) = some (0, nI 0, s3) := e3
      rw [e3, bnd_some]
    · rw [r2, decide_eq_false hl] at e3
      rw [if_pos (nI_le (by omega) (by omega))]
      have e3 : ev (d + 44 * 5 + 2 + 1 + 1 + 1 + 1) 231 0 [.inr 67, .inl 0] [] (up s2 67 17 0) = some (0, nI 0, s3) := e3
      rw [e3, bnd_some]
  have st70 : ∀ (z : mS) (a1 : Int32) (q : Nat) (w : Option Nat), z 67 20 = nI (gX A).1 → q ≤ 1000 → ev (d + 44 * 5 + 2 + 1 + 1 + 1 + 1 + 1) 283 70 [.inr 67, .inl a1, .inr 0, .inr 0] [] (mcu z q w) = (if nI (gX A).1 ≤ nI q then ev (d + 44 * 5 + 2 + 1 + 1 + 1 + 1 + 1) 283 89 [.inr 67, .inl a1, .inr 0, .inr 0] [] (mcu z q w) else ev (d + 44 * 5 + 2 + 1 + 1 + 1 + 1 + 1) 283 89 [.inr 67, .inl a1, .inr 0, .inr 0] [] (mcu z q (fl w q))) := fun z a1 q w hz hq => by
    have ef : ev (d + 44 * 5 + 2 + 1 + 1 + 1 + 1) 240 0 [.inr 67, .inl (nI q)] [] (mcu z q w) = some (0, nI 0, mcu z q (fl w q)) := m_fault hq
    rw [E283_70, mcu_22, mcu_f (by decide) (by decide), hz, ef, bnd_some]
  have bad89 : ∀ (z : mS) (a1 : Int32) (f q : Nat), f ≤ 1000 → ev (d + 44 * 5 + 2 + 1 + 1 + 1 + 1 + 1) 283 89 [.inr 67, .inl a1, .inr 0, .inr 0] [] (mcu z q (some f)) = some (0, -nI (f + 1), mcu z q (some f)) := fun z a1 f q hf => by
    have e : (-1 : Int32) - wI (some f) = -nI (f + 1) := by
      show -nI 1 - nI (min f 1000) = -nI (f + 1)
      rw [Nat.min_eq_left hf, Nat.add_comm f 1, ← nI_add, Int32.neg_add, Int32.sub_eq_add_neg]
    rw [E283_89, m_fine, bnd_some, decide_eq_false (by simp), if_neg (show ¬ ¬ bI false = 0 from not_not_intro rfl), mcu_23, e]
  have good89 : ∀ (z : mS) (a1 : Int32) (q : Nat), ev (d + 44 * 5 + 2 + 1 + 1 + 1 + 1 + 1) 283 89 [.inr 67, .inl a1, .inr 0, .inr 0] [] (mcu z q none) = ev (d + 44 * 5 + 2 + 1 + 1 + 1 + 1 + 1) 283 105 [.inr 67, .inl a1, .inr 0, .inl (nI 0)] [] (mcu z q none) := fun z a1 q => by
    rw [E283_89, m_fine, bnd_some, decide_eq_true rfl, if_pos bt]
    rfl
  unfold o_order ordP
  by_cases hz : (gX A).1 = 0
  · rw [if_pos hz]
    dsimp only
    obtain ⟨s', e, r⟩ := good [] s1 (Nat.zero_le _) (MJ_x85 h0 (q1.mono (by decide) (by decide)) f15) (q1.g7 (by decide)) (fun j o hj => by cases hj)
    refine ⟨s', ?_, r⟩
    have e70 := st70 s1 (nI 0) 0 none f20 (by omega)
    rw [es, hz, if_pos (show nI 0 ≤ nI 0 by decide +kernel)] at e70
    have e89 := good89 s1 (nI 0) 0
    rw [es] at e89
    rw [st, hz, if_pos (show nI 0 ≤ 0 by decide +kernel), E283_39, if_pos rfl]
    refine Eq.trans ?_ e
    exact e70.trans e89
  · rw [if_neg hz]
    have hC : MC (gX A) (min (gX A).1 60) 79 s1 := ⟨Or.inl rfl, f19, ⟨(gX A).1, 60, f20, f21, rfl, by omega, by omega⟩, by show _ ≤ 80; omega, fun i hi => by rw [q1.1 _ (by decide) (by decide)]; exact hx2 i (by omega), b256⟩
    obtain ⟨s2, g, q2⟩ := m_stps (d := d + 44 * 5 + 2 + 1) (show min (gX A).1 60 ≤ 60 by omega) 60 0 0 s1 (by omega) (by omega) (by omega) (Nat.zero_le _) hC
    rw [es] at g
    rw [if_neg (show ¬ nI (gX A).1 ≤ 0 from (nI_ge (by omega) (by omega) : ¬ nI (gX A).1 ≤ nI 0))] at st
    have f20' : s2 67 20 = nI (gX A).1 := by rw [q2.2 _ (by simp)]; exact f20
    have q02 : Eqm [85] ofF s0 s2 := (q1.mono (by decide) (by decide)).tr (q2.mono (by decide) (by decide))
    have qm : ∀ p w, Eqm [85] ofF s0 (mcu s2 p w) := fun p w => q02.tr (mcu_q.mono (by decide) (by decide))
    have f15' : ∀ p w, mcu s2 p w 67 15 = nI 0 := fun p w => by rw [mcu_f (by decide) (by decide), q2.2 _ (by simp)]; exact f15
    revert g
    cases stps (gX A) (min (gX A).1 60) 60 0 with
    | inl f =>
      intro g
      obtain ⟨a1, q, e2, hf, hq⟩ := g
      dsimp only
      refine ⟨mcu s2 q (some f), ?_, MJ_x85 h0 (qm q (some f)) (f15' q (some f)), (gM_o g0).tr ((qm q (some f)).g7 (by decide))⟩
      rw [st]
      refine Eq.trans e2 ?_
      refine Eq.trans (st70 s2 a1 q (some f) f20' (by omega)) ?_
      rw [show fl (some f) q = some f from rfl, bad89 s2 a1 f q (by omega)]
      exact ite_self _
    | inr r =>
      obtain ⟨q, L⟩ := r
      dsimp only
      intro g
      obtain ⟨e2, hq, hL, hs, -⟩ := g
      rw [Nat.zero_add] at e2 hL
      by_cases hp : q < (gX A).1
      · rw [if_pos hp]
        dsimp only
        refine ⟨mcu s2 q (some q), ?_, MJ_x85 h0 (qm q (some q)) (f15' q (some q)), (gM_o g0).tr ((qm q (some q)).g7 (by decide))⟩
        rw [st]
        refine Eq.trans e2 ?_
        refine Eq.trans (st70 s2 _ q none f20' (by omega)) ?_
        rw [if_neg (nI_ge hp (by omega)), fl_none]
        exact bad89 s2 _ q q (by omega)
      · rw [if_neg hp]
        dsimp only
        obtain ⟨s', e, r⟩ := good L (mcu s2 q none) hL (MJ_x85 h0 (qm q none) (f15' q none)) ((qm q none).g7 (by decide)) (fun j o hj => by
          have := hs j o hj
          rw [Nat.zero_add] at this
          refine ⟨?_, this.2⟩
          exact MO_c this.1 (fun j _ => by rw [mcu_ne (by decide)]))
        refine ⟨s', ?_, r⟩
        rw [st]
        refine Eq.trans e2 ?_
        refine Eq.trans (st70 s2 _ q none f20' (by omega)) ?_
        rw [if_pos (nI_le (by omega) (by omega))]
        exact (good89 s2 _ q).trans e
/-! spell -/
theorem sp_L : ∀ q, q < 256 → inN (bB q - nI 97) 10 = isL q := by decide +kernel
theorem spC_ok (h : (spC S X m).2 = true) : (spC S X m).1 = m := by
  induction m with
  | zero => rfl
  | succ m ih =>
    rw [spC_s] at h ⊢
    unfold spS at h ⊢
    cases hb : (spC S X m).2 with
    | true =>
      rw [hb, if_pos rfl] at h
      rw [if_pos rfl]
      by_cases hc : occ X (X.2 m - 97) m < sL S (X.2 m - 97)
      · rw [if_pos hc]
        show (spC S X m).1 + 1 = m + 1
        rw [ih hb]
      · rw [if_neg hc] at h; cases h
    | false => rw [hb, if_neg (by simp), hb] at h; cases h
theorem spC_st (h : (spC S X m).2 = false) : ∀ n, m ≤ n → spC S X n = spC S X m := by
  intro n hn
  induction hn with
  | refl => rfl
  | step _ ih =>
    rw [spC_s]
    unfold spS
    rw [ih, h, if_neg (by simp)]
theorem m_spell2 (h80 : n ≤ 80) (hx : ∀ i, i < n → s 79 i = bB (X.2 i)) (hL : ∀ i, i < n → isL (X.2 i) = true) (h20 : ∀ l, l < 10 → sL S l ≤ 20) (h90 : ∀ l, l < 10 → s 90 l = nI (sL S l)) : ∀ k, k ≤ n → (spC S X k).2 = true → ∃ s', ev (d + 1) 309 81 [.inr 67, .inl (nI n), .inl (nI 0)] [] s = ev (d + 1) 309 81 [.inr 67, .inl (nI n), .inl (nI k)] [] s' ∧ (∀ l, l < 10 → s' 90 l = nI (sL S l - occ X l k) ∧ occ X l k ≤ sL S l) ∧ Eqm [90] [] s s' := by
  intro k
  induction k with
  | zero => intro _ _; exact ⟨s, rfl, fun l hl => ⟨h90 l hl, Nat.zero_le _⟩, Eqm.rf⟩
  | succ k ih =>
    intro hk hb
    have hb0 : (spC S X k).2 = true := by
      cases hz : (spC S X k).2 with
      | true => rfl
      | false => rw [spC_st hz (k + 1) (Nat.le_succ _), hz] at hb; cases hb
    obtain ⟨s1, e1, r1, q1⟩ := ih (by omega) hb0
    have hc : occ X (X.2 k - 97) k < sL S (X.2 k - 97) := by
      rw [spC_s] at hb
      unfold spS at hb
      rw [hb0, if_pos rfl] at hb
      by_cases hc : occ X (X.2 k - 97) k < sL S (X.2 k - 97)
      · exact hc
      · rw [if_neg hc] at hb; cases hb
    have hl := of_decide_eq_true (hL k (by omega))
    have c1 : s1 79 k = nI (X.2 k) := by
      rw [q1.1 _ (by decide) (by decide), hx k (by omega)]
      unfold bB
      rw [if_pos (by omega)]
    obtain ⟨y, hy⟩ : ∃ y, y = X.2 k - 97 := ⟨_, rfl⟩
    rw [← hy] at hc
    have hyl : y < 10 := by omega
    obtain ⟨t1, t2⟩ := r1 y hyl
    have b20 := h20 y hyl
    have sub : nI (X.2 k) - nI 97 = nI y := by rw [hy]; exact n_sub (by omega)
    refine ⟨up s1 90 y (nI (sL S y - occ X y k - 1)), ?_, fun l hl2 => ?_, q1.pu (by simp) (by decide)⟩
    · rw [e1, E309_81]
      simp (disch := omega) only [c1, sub, t1, lit, nI_add, pk_mul, n_sub, n_addneg, nle_t, nle_f, nlt_t, nlt_f, neq_t, neq_f, n_inb, n_ix, bnd_some, if_true, if_false, ite_tt, ite_ff, not_true_eq_false, not_false_eq_true, eq_self, false_or, or_false, true_or, or_true]
    · have eo : occ X l (k + 1) = occ X l k + (if y = l then 1 else 0) := by
        unfold occ
        rw [sm_s, hy]
      rw [eo]
      by_cases z : l = y
      · subst z
        rw [up_in, if_pos rfl]
        exact ⟨by congr 1, by omega⟩
      · rw [up_out z, if_neg (fun w => z w.symm), Nat.add_zero]
        exact r1 l hl2
end MTX2
