/-! CALLS: spell -/
/-- how often a letter is among the first n signs -/
def occ (X : aX) (l n : Nat) : Nat := sm (fun j => if X.2 j - 97 = l then 1 else 0) n
def spS (S : aS) (X : aX) (i : Nat) (r : Nat × Bool) : Nat × Bool := if r.2 = true then (if occ X (X.2 i - 97) i < sL S (X.2 i - 97) then (r.1 + 1, true) else (r.1, false)) else r
def spC (S : aS) (X : aX) (n : Nat) : Nat × Bool := itr (fun i r => spS S X i r) n (0, true)
theorem spC_s {S : aS} {X : aX} {n : Nat} : spC S X (n + 1) = spS S X n (spC S X n) := rfl
theorem spC_le {S : aS} {X : aX} {n : Nat} : (spC S X n).1 ≤ n := by
  induction n with
  | zero => exact Nat.le_refl _
  | succ n ih =>
    rw [spC_s]
    unfold spS
    split
    · split
      · show (spC S X n).1 + 1 ≤ n + 1; omega
      · show (spC S X n).1 ≤ n + 1; omega
    · omega
def o_spell (A : aA) : aA × Int32 := if lts (gX A) (min (gX A).1 76) 76 0 < (gX A).1 then (wX A (x0 A), -nI (lts (gX A) (min (gX A).1 76) 76 0 + 1)) else (wX A (x0 A), nI (spC (gS A) (gX A) (gX A).1).1)
section XSP
variable {d E p j B i : Nat} {s s' s1 : mS} {X : aX} {w : Option Nat} {v : Int32} {A : aA} {S : aS} {T : aT}
theorem x_spellL (hE : E ≤ 76) (h20 : ∀ l, l < 10 → sL S l ≤ 20) : ∀ k i (s : mS), k + i = 76 → i ≤ E → XE X E s → ((spC S X i).2 = true → ∀ l, l < 10 → s 39 l = nI (sL S l - occ X l i) ∧ occ X l i ≤ sL S l) → ∃ s', Eqx [39] s s' ∧ if i + lts X E k i < E then ∃ v, ev (d + 1 + 1 + 1) 123 23 [.inr 36, .inr 2, .inl (nI (spC S X i).1), .inl (bI (spC S X i).2), .inl (nI i), .inr 0] [] (cur s i none) = some (0, v, cur s' (i + lts X E k i) (some (i + lts X E k i))) else ev (d + 1 + 1 + 1) 123 23 [.inr 36, .inr 2, .inl (nI (spC S X i).1), .inl (bI (spC S X i).2), .inl (nI i), .inr 0] [] (cur s i none) = some (0, nI (spC S X E).1, cur s' E none) := by
  intro k
  induction k with
  | zero =>
    intro i s hk hi hx hr
    have hi : i = E := by omega
    subst hi
    refine ⟨s, Eqx.rf, ?_⟩
    rw [if_neg (show ¬ i + lts X i 0 i < i by unfold lts; omega), E123_23]
    simp (disch := omega) only [E123_105, lit, nI_add, pk_mul, n_sub, n_addneg, nle_t, nle_f, nlt_t, nlt_f, neq_t, neq_f, n_inb, n_ix, bnd_some, if_true, if_false, ite_tt, ite_ff, not_true_eq_false, not_false_eq_true, eq_self, false_or, or_false, true_or, or_true]
  | succ k ih =>
    intro i s hk hi hx hr
    have ee := x_ended (d := d + 1 + 1) (w := none) hx hi
    by_cases hiE : i = E
    · subst hiE
      refine ⟨s, Eqx.rf, ?_⟩
      have hz : lts X i (k + 1) i = 0 := by
        unfold lts
        rw [if_neg (fun z => absurd (isL_lt z) (Nat.lt_irrefl _))]
      rw [if_neg (show ¬ i + lts X i (k + 1) i < i by omega), E123_23]
      rw [decide_eq_true (Nat.le_refl _)] at ee
      simp (disch := omega) only [ee, bIt0, E123_105, lit, nI_add, pk_mul, n_sub, n_addneg, nle_t, nle_f, nlt_t, nlt_f, neq_t, neq_f, n_inb, n_ix, bnd_some, if_true, if_false, ite_tt, ite_ff, not_true_eq_false, not_false_eq_true, eq_self, false_or, or_false, true_or, or_true]
    have hilt : i < E := by omega
    rw [decide_eq_false (by omega)] at ee
    have el := x_letter (d := d) (w := none) hx hi
    unfold lts
    cases hL : isL (hd X E i) with
    | false =>
      rw [hL, if_neg (show ¬ (false = true) by simp)] at el
      refine ⟨s, Eqx.rf, ?_⟩
      simp only [Bool.false_eq_true, if_false, Nat.add_zero, hilt, if_true]
      refine ⟨nI (spC S X i).1, ?_⟩
      have e99 : ev (d + 1 + 1 + 1) 123 99 [.inr 36, .inr 2, .inl (nI (spC S X i).1), .inl (bI (spC S X i).2), .inl (nI i), .inr 0] [] (cur s i (some i)) = some (0, nI (spC S X i).1, cur s i (some i)) := by
        rw [E123_99, E123_23]
        have ee' := x_ended (d := d + 1 + 1) (w := some i) hx hi
        rw [decide_eq_false (by omega)] at ee'
        by_cases h76 : 76 ≤ i + 1
        · simp (disch := omega) only [E123_105, lit, nI_add, pk_mul, n_sub, n_addneg, nle_t, nle_f, nlt_t, nlt_f, neq_t, neq_f, n_inb, n_ix, bnd_some, if_true, if_false, ite_tt, ite_ff, not_true_eq_false, not_false_eq_true, eq_self, false_or, or_false, true_or, or_true]
        · simp (disch := omega) only [ee', bIf0, x_goodB, E123_105, lit, nI_add, pk_mul, n_sub, n_addneg, nle_t, nle_f, nlt_t, nlt_f, neq_t, neq_f, n_inb, n_ix, bnd_some, if_true, if_false, ite_tt, ite_ff, not_true_eq_false, not_false_eq_true, eq_self, false_or, or_false, true_or, or_true]
      rw [E123_23]
      simp (disch := omega) only [lit, nle_f, if_false, ee, bnd_some, bIf0, not_true_eq_false, x_goodN, neq_f, el, fl_none, if_true, e99]
    | true =>
      rw [hL, if_pos (show true = true from rfl)] at el
      have hb := of_decide_eq_true hL
      have hh : hd X E i = X.2 i := if_pos hilt
      rw [hh] at el hb
      have hpick : ∀ (s1 : mS), Eqx [39] s s1 → ((spC S X (i + 1)).2 = true → ∀ l, l < 10 → s1 39 l = nI (sL S l - occ X l (i + 1)) ∧ occ X l (i + 1) ≤ sL S l) → ev (d + 1 + 1 + 1) 123 23 [.inr 36, .inr 2, .inl (nI (spC S X i).1), .inl (bI (spC S X i).2), .inl (nI i), .inr 0] [] (cur s i none) = ev (d + 1 + 1 + 1) 123 99 [.inr 36, .inr 2, .inl (nI (spC S X (i + 1)).1), .inl (bI (spC S X (i + 1)).2), .inl (nI i), .inr 0] [] (cur s1 (i + 1) none) → ∃ s', Eqx [39] s s' ∧ if i + (lts X E k (i + 1) + 1) < E then ∃ v, ev (d + 1 + 1 + 1) 123 23 [.inr 36, .inr 2, .inl (nI (spC S X i).1), .inl (bI (spC S X i).2), .inl (nI i), .inr 0] [] (cur s i none) = some (0, v, cur s' (i + (lts X E k (i + 1) + 1)) (some (i + (lts X E k (i + 1) + 1)))) else ev (d + 1 + 1 + 1) 123 23 [.inr 36, .inr 2, .inl (nI (spC S X i).1), .inl (bI (spC S X i).2), .inl (nI i), .inr 0] [] (cur s i none) = some (0, nI (spC S X E).1, cur s' E none) := by
        intro s1 q1 hr1 e1
        obtain ⟨s2, q2, g⟩ := ih (i + 1) s1 (by omega) hilt (XE_q hx q1 (by decide) (by decide)) hr1
        refine ⟨s2, q1.tr q2, ?_⟩
        rw [e1, E123_99]
        rw [show i + (lts X E k (i + 1) + 1) = i + 1 + lts X E k (i + 1) by omega]
        simp only [lit, nI_add]
        exact g
      rw [if_pos (show true = true from rfl)]
      have hc : spC S X (i + 1) = spS S X i (spC S X i) := rfl
      have ho : ∀ l, occ X l (i + 1) = occ X l i + if X.2 i - 97 = l then 1 else 0 := fun l => rfl
      generalize hrr : spC S X i = r at hr hpick hc
      obtain ⟨cn, th⟩ := r
      cases th with
      | false =>
        have hc : spC S X (i + 1) = (cn, false) := by rw [hc]; exact if_neg (show ¬ (false = true) by simp)
        refine hpick s Eqx.rf (fun z => by rw [hc] at z; cases z) ?_
        rw [hc, E123_23]
        have hne : ¬ nI (X.2 i - 97) = -nI 1 := by rw [nneg_f (by omega) (by omega) (by omega)]; exact id
        simp (disch := omega) only [lit, nle_f, if_false, ee, bnd_some, bIf0, not_true_eq_false, x_goodN, neq_f, el, hne, if_true]
      | true =>
        have hr := hr rfl
        have hl10 : X.2 i - 97 < 10 := by omega
        obtain ⟨r1, r2⟩ := hr _ hl10
        have h20' := h20 _ hl10
        have hne : ¬ nI (X.2 i - 97) = -nI 1 := by rw [nneg_f (by omega) (by omega) (by omega)]; exact id
        have rc : ∀ q, (cur s q none) 39 (X.2 i - 97) = nI (sL S (X.2 i - 97) - occ X (X.2 i - 97) i) := fun q => by rw [cur_ne (by decide)]; exact r1
        have uc : ∀ (n : Int32) q, up (cur s q none) 39 (X.2 i - 97) n = cur (up s 39 (X.2 i - 97) n) q none := fun n q => cur_up (by decide)
        by_cases hlt : occ X (X.2 i - 97) i < sL S (X.2 i - 97)
        · have hc : spC S X (i + 1) = (cn + 1, true) := by rw [hc]; unfold spS; rw [if_pos (show true = true from rfl), if_pos hlt]
          refine hpick (up s 39 (X.2 i - 97) (nI (sL S (X.2 i - 97) - occ X (X.2 i - 97) i - 1))) (Eqx.rf.up (by simp)) (fun _ l hl => ?_) ?_
          · rw [ho]
            by_cases hz : X.2 i - 97 = l
            · subst hz
              rw [if_pos rfl, up_in]
              exact ⟨by congr 1, by omega⟩
            · rw [if_neg hz, up_out (fun z => hz z.symm)]
              exact hr l hl
          · rw [hc, E123_23]
            simp (disch := omega) only [lit, nle_f, if_false, ee, bnd_some, bIf0, bIt0, not_true_eq_false, x_goodN, neq_f, el, hne, n_inb, n_ix, if_true, rc]
            rw [E123_75]
            simp (disch := omega) only [lit, n_inb, n_ix, if_true, rc, n_sub, uc, neq_f, if_false]
            rw [E123_97]
            simp only [lit, nI_add]
            rfl
        · have hc : spC S X (i + 1) = (cn, false) := by rw [hc]; unfold spS; rw [if_pos (show true = true from rfl), if_neg hlt]
          have hz : sL S (X.2 i - 97) - occ X (X.2 i - 97) i = 0 := by omega
          refine hpick (up s 39 (X.2 i - 97) (nI 0 - nI 1)) (Eqx.rf.up (by simp)) (fun z => by rw [hc] at z; cases z) ?_
          rw [hz] at rc
          rw [hc, E123_23]
          simp (disch := omega) only [lit, nle_f, nle_t, if_false, ee, bnd_some, bIf0, bIt0, not_true_eq_false, x_goodN, neq_f, el, hne, n_inb, n_ix, if_true, rc]
          rw [E123_75]
          simp (disch := omega) only [lit, n_inb, n_ix, if_true, rc, uc]
          rw [E123_97]
          simp only [lit, nI_add]
          rfl
theorem X_spell (h : XI A B s) : ∃ s', ev (d + 1 + 1 + 1 + 1) 201 0 [.inr 1, .inr 0] [] s = some (0, (o_spell A).2, s') ∧ XI (o_spell A).1 B s' ∧ fX s s' := by
  have ha := h.1
  have hc := h.2.1
  have h80 := ha.2.2.2.2.2.1
  obtain ⟨s1, e1, x1, q1⟩ := x_open (d := d + 1 + 1 + 1) (M := 76) h.2.2.2.2.1 h80 ha.2.2.2.2.2.2.1 (by omega)
  obtain ⟨g, hg⟩ : ∃ g, g = (fun k => if 0 ≤ k ∧ k < 0 + 10 then (cur s1 0 none) 37 (32 + (k - 0)) else (cur s1 0 none) 39 k) := ⟨_, rfl⟩
  have e : cpA (cur s1 0 none) 37 32 39 0 10 = setA (cur s1 0 none) 39 g := by
    rw [hg]
    exact cpA_n (sp := 32) (dp := 0) (n := 10) (by omega) (by omega) (by omega)
  have u : setA (cur s1 0 none) 39 g = cur (setA s1 39 g) 0 none := cur_set (by decide)
  have q2 : Eqx [39] s1 (setA s1 39 g) := Eqx.rf.set (by simp)
  have x2 := XE_q x1 q2 (by decide) (by decide)
  obtain ⟨s3, q3, k3⟩ := x_spellL (d := d) (S := gS A) (X := gX A) (E := min (gX A).1 76) (by omega) (fun l hl => (hal_le ha.2.1 hl).2) 76 0 _ rfl (Nat.zero_le _) x2 (fun _ l hl => by
    refine ⟨?_, Nat.zero_le _⟩
    show setA s1 39 g 39 l = nI (sL (gS A) l)
    rw [setA_at, hg]
    show (if 0 ≤ l ∧ l < 0 + 10 then (cur s1 0 none) 37 (32 + (l - 0)) else _) = _
    rw [if_pos (by omega), cur_ne (by decide), q1 _ (by decide)]
    exact hc.2.1 l hl)
  have x3 := XE_q x2 q3 (by decide) (by decide)
  have qs : Eqx [2, 39] s s3 := ((q1.mono (by simp)).tr (q2.mono (by simp))).tr (q3.mono (by simp))
  -- the end
  have fin : ∀ p w, XI (wX A (x0 A)) B (cur (up s3 2 1 (nI 0)) p w) ∧ fX s (cur (up s3 2 1 (nI 0)) p w) := fun p w => by
    have qc : Eqx [2, 39] s (cur (up s3 2 1 (nI 0)) p w) := (qs.up (by simp)).set (by simp)
    obtain ⟨⟨a1, a2, a3, a4, a5, a6, a7, a8⟩, hc, g1, g2, g3, g4, g5, g6, g7, g8⟩ := h
    exact ⟨⟨⟨a1, a2, a3, a4, a5, Nat.zero_le _, a7, a8⟩, by rw [qc _ (by decide)]; exact hc, XT_q g1 qc (by decide), XSt_q g2 qc (by decide), ⟨by show _ = nI 0; exact (cur_1.trans up_in), fun i hi => absurd hi (Nat.not_lt_zero i)⟩, XW_q g4 qc (by decide) (by decide), XRs_q g5 qc (by decide), XU_q g6 qc (by decide) (by decide), XK_q g7 qc (by decide) (by decide), XN_q g8 qc (by decide)⟩, fX_q qc (by decide)⟩
  have st : ∀ v r, ev (d + 1 + 1 + 1) 123 23 [.inr 36, .inr 2, .inl (nI 0), .inl (nI 1), .inl (nI 0), .inr 0] [] (cur (setA s1 39 g) 0 none) = some (0, v, r) → ev (d + 1 + 1 + 1) 123 0 [.inr 36, .inr 2, .inr 0, .inr 0, .inr 0, .inr 0] [] (cur s1 0 none) = some (0, v, r) := fun v r e' => by
    rw [E123_0, if_pos (by decide +kernel), e, u]
    exact e'
  have cl := fun p w hp => x_close (d := d + 1 + 1) (w := w) (p := p) (M := 76) x3 hp (by omega)
  obtain ⟨b1, b2, b3⟩ := lts_le (X := gX A) (E := min (gX A).1 76) (m := 76) (p := 0) (Nat.zero_le _)
  rw [Nat.zero_add] at k3 b2
  unfold o_spell
  generalize hm : lts (gX A) (min (gX A).1 76) 76 0 = m at k3 b1 b2
  -- a wrong text
  have bad : ∀ p w v, p ≤ min (gX A).1 76 → clW (gX A) (min (gX A).1 76) p w = some m → ev (d + 1 + 1 + 1) 123 0 [.inr 36, .inr 2, .inr 0, .inr 0, .inr 0, .inr 0] [] (cur s1 0 none) = some (0, v, cur s3 p w) → ev (d + 1 + 1 + 1 + 1) 201 0 [.inr 1, .inr 0] [] s = some (0, -nI (m + 1), cur (up s3 2 1 (nI 0)) p (some m)) := fun p w v hp hw e2 => by
    have c := cl p w hp
    rw [hw] at c
    rw [E201_0]
    simp only [lit, e1, bnd_some, e2, c, x_goodB, if_true, x_complaint (show m ≤ 1000 by omega)]
    rw [E201_49]
  by_cases hE : m < min (gX A).1 76
  · rw [if_pos hE] at k3
    obtain ⟨v, e3⟩ := k3
    have e3 : ev (d + 1 + 1 + 1) 123 23 [.inr 36, .inr 2, .inl (nI 0), .inl (nI 1), .inl (nI 0), .inr 0] [] (cur (setA s1 39 g) 0 none) = some (0, v, cur s3 m (some m)) := e3
    rw [if_pos (show m < (gX A).1 by omega)]
    exact ⟨_, bad m (some m) v (by omega) clW_s (st _ _ e3), (fin _ _).1, (fin _ _).2⟩
  · rw [if_neg hE] at k3
    have e3 : ev (d + 1 + 1 + 1) 123 23 [.inr 36, .inr 2, .inl (nI 0), .inl (nI 1), .inl (nI 0), .inr 0] [] (cur (setA s1 39 g) 0 none) = some (0, nI (spC (gS A) (gX A) (min (gX A).1 76)).1, cur s3 (min (gX A).1 76) none) := k3
    have hmE : m = min (gX A).1 76 := by omega
    by_cases hn : m < (gX A).1
    · rw [if_pos hn]
      exact ⟨_, bad (min (gX A).1 76) none _ (Nat.le_refl _) (by rw [← hmE]; exact if_pos hn) (st _ _ e3), (fin _ _).1, (fin _ _).2⟩
    · rw [if_neg hn]
      have hEn : min (gX A).1 76 = (gX A).1 := by omega
      have c := cl (min (gX A).1 76) none (Nat.le_refl _)
      have hw : clW (gX A) (min (gX A).1 76) (min (gX A).1 76) none = none := if_neg (by omega)
      rw [hw] at c
      refine ⟨_, ?_, (fin (min (gX A).1 76) none).1, (fin (min (gX A).1 76) none).2⟩
      have e4 := st _ _ e3
      have n10 : ¬ nI 1 = nI 0 := by decide +kernel
      rw [E201_0]
      simp only [lit, e1, bnd_some, e4, c, x_goodN, n10, if_false]
      rw [E201_49, hEn]
end XSP
