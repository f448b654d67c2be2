/-! CALLS: town -/
section XTR
variable {d B n f : Nat} {s s' s1 : mS} {A : aA} {T' : aT} {c' : Nat → Nat} {w : Option Nat}
theorem XI_bad (h : XI A B s) (q : Eqx (2 :: tQ) s s') (h2 : s' 6 2 = s 6 2) (h9 : s' 6 9 = s 6 9) (hb : XTb T' s') (he : Ext (gT A) T') (hl : s' 2 1 = nI 0) : XI (wX A (x0 A)) B s' := by
  obtain ⟨⟨a1, a2, a3, a4, a5, a6, a7, a8⟩, hc, g1, g2, g3, g4, g5, g6, g7, g8⟩ := h
  exact ⟨⟨a1, a2, a3, a4, a5, Nat.zero_le _, a7, a8⟩, by rw [q _ (by decide)]; exact hc, ⟨h2.trans g1.1, h9.trans g1.2.1, XTb_ext hb he⟩, XSt_q g2 q (by decide), ⟨hl, fun i hi => absurd hi (Nat.not_lt_zero i)⟩, XW_q g4 q (by decide) (by decide), XRs_q g5 q (by decide), XU_q g6 q (by decide) (by decide), XK_q g7 q (by decide) (by decide), XN_q g8 q (by decide)⟩
theorem XI_new (h : XI A B s) (q : Eqx (2 :: 7 :: 37 :: 44 :: tQ) s s') (ht : tOk T') (hT : XT T' s') (he : Ext (gT A) T') (hl : s' 2 1 = nI 0) (hst : ∀ l, l < 10 → s' 7 l = nI (c' l) ∧ hal (gS A) l ≤ c' l ∧ c' l ≤ 20) (hc : XC (gT A) (refS (gS A) c') (s' 37)) (h1 : s' 44 1 = s 44 1) (h2 : s' 44 2 = nI 0) (h4 : s' 44 4 = nI 0) : XI (wX (wK (wU (wS (wT A T') (refS (gS A) c')) []) (fun _ => none)) (x0 A)) B s' := by
  obtain ⟨⟨a1, a2, a3, a4, a5, a6, a7, a8, a9, a10⟩, hc0, g1, g2, g3, g4, g5, g6, g7, g8⟩ := h
  have ho : sOk (gT A) (refS (gS A) c') B := ⟨a2.1, fun l hl => by
    obtain ⟨-, x1, x2⟩ := hst l hl
    show c' l - hal (gS A) l + hal (gS A) l ≤ 20
    omega, a2.2.2⟩
  refine ⟨⟨ht, sOk_ext he ho, fun U hU => (by cases hU), fun i U hU => (by cases hU), Nat.zero_le _, Nat.zero_le _, a7, a8, a9, fun c hc => ?_⟩, XC_ext he ho hc, hT, fun l hl => ?_, ⟨hl, fun i hi => absurd hi (Nat.not_lt_zero i)⟩, XW_q g4 q (by decide) (by decide), XRs_q g5 q (by decide), ?_, XK_nil h4, XN_q g8 q (by decide)⟩
  · have := a10 c hc
    exact ⟨Nat.lt_of_lt_of_le this.1 he.2.1, this.2⟩
  · obtain ⟨x0, x1, x2⟩ := hst l hl
    show _ = nI (c' l - hal (gS A) l + hal (gS A) l)
    rw [x0]
    congr 1
    omega
  · obtain ⟨nx, hn, u1, -, -⟩ := g6
    exact ⟨nx, hn, h1.trans u1, h2, fun i U hi => (by cases hi)⟩
theorem clW_s {X : aX} {E p : Nat} : clW X E p (some f) = some f := by
  unfold clW
  split <;> rfl
/-- reading begins -/
theorem x_read0 (h : XI A B s) : ∃ s1, XE (gX A) (min (gX A).1 76) s1 ∧ XP (gT A) (stk (gS A)) s1 ∧ Eqx (2 :: tQ) s s1 ∧ s1 6 2 = s 6 2 ∧ s1 6 9 = s 6 9 ∧ ev (d + 1 + 1 + 1 + 1 + 1 + 1) 164 0 [.inr 6, .inr 2, .inr 0, .inr 0, .inr 0] [] s = ev (d + 1 + 1 + 1 + 1 + 1 + 1) 164 55 [.inr 6, .inr 2, .inl (nI 0), .inl (bI (decide (¬ (gX A).1 = 0))), .inl (nI 0)] [] (cur s1 0 none) := by
  obtain ⟨ha, hc, h1, h2, h3, h4, h5, h6, h7, h8⟩ := h
  obtain ⟨g, hg⟩ : ∃ g, g = (fun k => if 0 ≤ k ∧ k < 0 + 10 then s 7 (0 + (k - 0)) else s 8 k) := ⟨_, rfl⟩
  have e : cpA s 7 0 8 0 10 = setA s 8 g := by
    rw [hg]
    exact cpA_n (sp := 0) (dp := 0) (n := 10) (by omega) (by omega) (by omega)
  obtain ⟨s0, hs0⟩ : ∃ s0, s0 = up (up (setA s 8 g) 6 3 (nI (tW (gT A)))) 6 10 (nI (tN (gT A))) := ⟨_, rfl⟩
  have q0 : Eqx [6, 8] s s0 := by rw [hs0]; exact ((Eqx.rf.set (by simp)).up (by simp)).up (by simp)
  obtain ⟨s1, e1, x1, q1⟩ := x_open (d := d + 1 + 1 + 1 + 1 + 1) (M := 76) (XX_q h3 q0 (by decide) (by decide)) ha.2.2.2.2.2.1 ha.2.2.2.2.2.2.1 (by omega)
  have hb : XTb (gT A) s := h1.2.2
  have u2 : ∀ a, s1 6 a = s0 6 a := fun a => by rw [q1 _ (by decide)]
  refine ⟨s1, x1, ⟨?_, ?_, XTb_q (XTb_q hb q0 (by decide)) q1 (by decide), fun l hl => ?_⟩, (q0.mono (by decide)).tr (q1.mono (by decide)), ?_, ?_, ?_⟩
  · rw [u2, hs0, up_out (by decide), up_in]
  · rw [u2, hs0, up_in]
  · rw [q1 _ (by decide), hs0, up_ne (by decide), up_ne (by decide), setA_at, hg]
    show (if 0 ≤ l ∧ l < 0 + 10 then s 7 (0 + (l - 0)) else _) = _
    rw [if_pos (by omega), show 0 + (l - 0) = l by omega]
    exact h2 l hl
  · rw [u2, hs0, up_out (by decide), up_out (by decide), setA_ne (by decide)]
  · rw [u2, hs0, up_out (by decide), up_out (by decide), setA_ne (by decide)]
  · have f1 : (setA s 8 g) 6 2 = nI (tW (gT A)) := by rw [setA_ne (by decide)]; exact h1.1
    have f2 : (up (setA s 8 g) 6 3 (nI (tW (gT A)))) 6 9 = nI (tN (gT A)) := by rw [up_out (by decide), setA_ne (by decide)]; exact h1.2.1
    have f3 := x_ended (d := d + 1 + 1 + 1 + 1 + 1) (w := none) x1 (Nat.zero_le _)
    rw [E164_0, if_pos (by decide +kernel), e, f1, f2, ← hs0]
    simp only [lit]
    rw [e1, bnd_some, f3, bnd_some]
    by_cases hz : (gX A).1 = 0
    · rw [decide_eq_true (show min (gX A).1 76 ≤ 0 by omega), decide_eq_false (not_not_intro hz)]
      simp only [bIt0, not_false_eq_true, if_true]
      rw [E164_51]
      rfl
    · rw [decide_eq_false (show ¬ min (gX A).1 76 ≤ 0 by omega), decide_eq_true hz]
      simp only [bIf0, not_true_eq_false, if_false]
      rw [E164_51]
      rfl
/-- reading ends, wrong -/
theorem x_read1 {q p n' : Nat} (hx : XE (gX A) (min (gX A).1 76) s1) (hp : p ≤ min (gX A).1 76) (hw : clW (gX A) (min (gX A).1 76) p w = some f) (hf : f ≤ 1000) : ev (d + 1 + 1 + 1 + 1 + 1 + 1) 164 98 [.inr 6, .inr 2, .inl (nI n'), .inr 0, .inr 0] [] (cur s1 p w) = some (0, -nI (f + 1), cur (up s1 2 1 (nI 0)) p (some f)) := by
  have e1 := x_close (d := d + 1 + 1 + 1 + 1) (w := w) (M := 76) hx hp (by omega)
  rw [hw] at e1
  rw [E164_98, e1, bnd_some, x_goodB, bnd_some, if_neg (show ¬ ¬ nI 0 = 0 from not_not_intro rfl), x_complaint hf, bnd_some]
/-- reading ends, right -/
theorem x_read2 {p n' : Nat} (hx : XE (gX A) (min (gX A).1 76) s1) (hp : p ≤ min (gX A).1 76) (hw : ¬ p < (gX A).1) (hP : XP T' c' s1) : ∃ s', ev (d + 1 + 1 + 1 + 1 + 1 + 1) 164 98 [.inr 6, .inr 2, .inl (nI n'), .inr 0, .inr 0] [] (cur s1 p none) = some (0, nI n', s') ∧ s' 2 1 = nI 0 ∧ XT T' s' ∧ (∀ l, l < 10 → s' 7 l = nI (c' l)) ∧ Eqx [2, 6, 7] s1 s' := by
  have e1 := x_close (d := d + 1 + 1 + 1 + 1) (w := none) (M := 76) hx hp (by omega)
  have ew : clW (gX A) (min (gX A).1 76) p none = none := if_neg hw
  rw [ew] at e1
  obtain ⟨s2, hs2⟩ : ∃ s2, s2 = cur (up s1 2 1 (nI 0)) p none := ⟨_, rfl⟩
  have q2 : Eqx [2] s1 s2 := by rw [hs2]; exact (Eqx.rf.up (by simp)).set (by simp)
  have l2 : s2 2 1 = nI 0 := by rw [hs2, cur_1, up_in]
  rw [← hs2] at e1
  obtain ⟨g, hg⟩ : ∃ g, g = (fun k => if 0 ≤ k ∧ k < 0 + 10 then s2 8 (0 + (k - 0)) else s2 7 k) := ⟨_, rfl⟩
  have e : cpA s2 8 0 7 0 10 = setA s2 7 g := by
    rw [hg]
    exact cpA_n (sp := 0) (dp := 0) (n := 10) (by omega) (by omega) (by omega)
  obtain ⟨p1, p2, p3, p4⟩ := XP_q hP q2 (by decide)
  have f1 : (setA s2 7 g) 6 3 = nI (tW T') := by rw [setA_ne (by decide)]; exact p1
  have f2 : (up (setA s2 7 g) 6 2 (nI (tW T'))) 6 10 = nI (tN T') := by rw [up_out (by decide), setA_ne (by decide)]; exact p2
  have q3 : Eqx [6, 7] s2 (up (up (setA s2 7 g) 6 2 (nI (tW T'))) 6 9 (nI (tN T'))) := ((Eqx.rf.set (by simp)).up (by simp)).up (by simp)
  refine ⟨up (up (setA s2 7 g) 6 2 (nI (tW T'))) 6 9 (nI (tN T')), ?_, by rw [q3 _ (by decide)]; exact l2, ⟨?_, ?_, XTb_q p3 q3 (by decide)⟩, fun l hl => ?_, (q2.mono (by simp)).tr (q3.mono (by simp))⟩
  · have eg : ev (d + 1 + 1 + 1 + 1 + 1) 133 0 [.inr 2] [] s2 = some (0, nI 1, s2) := by rw [hs2]; exact x_goodN
    rw [E164_98, e1, bnd_some, eg, bnd_some, if_pos (show ¬ nI 1 = 0 by decide +kernel), if_pos (by decide +kernel), e, f1, f2]
  · rw [show 2 = 2 from rfl, up_out (by decide), up_in]
  · rw [show 9 = 9 from rfl, up_in]
  · rw [up_ne (by decide), up_ne (by decide), setA_at, hg]
    show (if 0 ≤ l ∧ l < 0 + 10 then s2 8 (0 + (l - 0)) else _) = _
    rw [if_pos (by omega), show 0 + (l - 0) = l by omega]
    exact p4 l hl
theorem X_town (h : XI A B s) : ∃ s', ev (d + 1 + 1 + 1 + 1 + 1 + 1 + 1) 172 0 [.inr 1, .inr 0] [] s = some (0, (o_town A).2, s') ∧ XI (o_town A).1 B s' ∧ fX s s' := by
  obtain ⟨s1, x1, p1, q1, g2, g9, e1⟩ := x_read0 (d := d) h
  have ha := h.1
  have hc := h.2.1
  have hcs : ∀ l, l < 10 → stk (gS A) l ≤ 20 := fun l hl => ha.2.1.2.1 l hl
  have neg : ∀ k, k ≤ 1000 → (-nI (k + 1) ≤ nI 0) = True := fun k hk => eq_true (by
    rw [Int32.le_iff_toInt_le, negI (by omega), toI (by omega)]; omega)
  -- a wrong text
  have bad : ∀ (f : Nat) (s2 : mS) (p : Nat) (T' : aT) (c' : Nat → Nat), f ≤ 1000 → XP T' c' s2 → Ext (gT A) T' → Eqx tQ s1 s2 → s2 6 2 = s1 6 2 → s2 6 9 = s1 6 9 → ev (d + 1 + 1 + 1 + 1 + 1 + 1) 164 0 [.inr 6, .inr 2, .inr 0, .inr 0, .inr 0] [] s = some (0, -nI (f + 1), cur (up s2 2 1 (nI 0)) p (some f)) → ∃ s', ev (d + 1 + 1 + 1 + 1 + 1 + 1 + 1) 172 0 [.inr 1, .inr 0] [] s = some (0, -nI (f + 1), s') ∧ XI (wX A (x0 A)) B s' ∧ fX s s' := by
    intro f s2 p T' c' hf hP he q i2 i9 e
    have qa : Eqx [2] s2 (cur (up s2 2 1 (nI 0)) p (some f)) := (Eqx.rf.up (by simp)).set (by simp)
    have qq : Eqx (2 :: tQ) s (cur (up s2 2 1 (nI 0)) p (some f)) := (q1.tr (q.mono (by decide))).tr (qa.mono (by decide))
    refine ⟨_, ?_, XI_bad h qq ?_ ?_ (XTb_q hP.2.2.1 qa (by decide)) he (by rw [cur_1, up_in]), fX_q qq (by decide)⟩
    · rw [E172_0, e, bnd_some]
      simp only [lit, neg f hf, if_true]
      rw [E172_30]
    · rw [qa _ (by decide), i2, g2]
    · rw [qa _ (by decide), i9, g9]
  unfold o_town twn
  by_cases hz : (gX A).1 = 0
  · rw [if_pos hz]
    dsimp only
    rw [if_pos rfl]
    have hb : decide (¬ (gX A).1 = 0) = false := decide_eq_false (not_not_intro hz)
    rw [hb] at e1
    obtain ⟨s2, e2, l2, t2, st2, q2⟩ := x_read2 (d := d) (A := A) (n' := 0) x1 (Nat.zero_le _) (by omega) p1
    have e3 : ev (d + 1 + 1 + 1 + 1 + 1 + 1) 164 55 [.inr 6, .inr 2, .inl (nI 0), .inl (bI false), .inl (nI 0)] [] (cur s1 0 none) = ev (d + 1 + 1 + 1 + 1 + 1 + 1) 164 98 [.inr 6, .inr 2, .inl (nI 0), .inr 0, .inr 0] [] (cur s1 0 none) := by
      rw [E164_55]
      simp (disch := omega) only [bI_f, lit, nI_add, pk_mul, n_sub, n_addneg, nle_t, nle_f, nlt_t, nlt_f, neq_t, neq_f, n_inb, n_ix, bnd_some, if_true, if_false, ite_tt, ite_ff, not_true_eq_false, not_false_eq_true, eq_self, false_or, or_false, true_or, or_true]
    obtain ⟨⟨a1, a2, a3, a4, a5, a6, a7, a8⟩, hc0, j1, j2, j3, j4, j5, j6, j7, j8⟩ := h
    have qq : Eqx (2 :: 7 :: tQ) s s2 := (q1.mono (by decide)).tr (q2.mono (by decide))
    refine ⟨s2, ?_, ⟨⟨a1, a2, a3, a4, a5, Nat.zero_le _, a7, a8⟩, by rw [qq _ (by decide)]; exact hc0, t2, st2, ⟨l2, fun i hi => absurd hi (Nat.not_lt_zero i)⟩, XW_q j4 qq (by decide) (by decide), XRs_q j5 qq (by decide), XU_q j6 qq (by decide) (by decide), XK_q j7 qq (by decide) (by decide), XN_q j8 qq (by decide)⟩, fX_q qq (by decide)⟩
    rw [E172_0, e1, e3, e2, bnd_some]
    simp (disch := omega) only [E172_30, lit, nI_add, pk_mul, n_sub, n_addneg, nle_t, nle_f, nlt_t, nlt_f, neq_t, neq_f, n_inb, n_ix, bnd_some, if_true, if_false, ite_tt, ite_ff, not_true_eq_false, not_false_eq_true, eq_self, false_or, or_false, true_or, or_true]
  · rw [if_neg hz]
    have hb : decide (¬ (gX A).1 = 0) = true := decide_eq_true hz
    rw [hb, bI_t] at e1
    obtain ⟨s2, g, q2, i2, i9⟩ := x_lns (X := gX A) (d := d) (show min (gX A).1 76 ≤ 76 by omega) 76 0 0 0 (gT A) (stk (gS A)) s1 (by omega) (by omega) (Nat.zero_le _) x1 p1 ha.1 hcs
    have x2 := XE_q x1 q2 (by decide) (by decide)
    have h80 := ha.2.2.2.2.2.1
    cases hr : lns (gX A) (min (gX A).1 76) 76 0 0 (gT A) (stk (gS A)) with
    | inl f =>
      rw [hr] at g
      obtain ⟨q, n', T', c', e2, r1, r2, r3, r4⟩ := g
      dsimp only
      refine bad f s2 q T' c' (by omega) r3 r4 q2 i2 i9 ?_
      rw [e1, e2]
      exact x_read1 (q := 0) x2 r2 clW_s (by omega)
    | inr r =>
      obtain ⟨p', n', T', c'⟩ := r
      rw [hr] at g
      obtain ⟨e2, r1, r2, r3, r4, r5, r6, r7⟩ := g
      dsimp only
      by_cases hp : p' < (gX A).1
      · rw [if_pos hp]
        dsimp only
        refine bad p' s2 p' T' c' (by omega) r1 r5 q2 i2 i9 ?_
        rw [e1, e2]
        exact x_read1 (q := 0) x2 r3 (if_pos hp) (by omega)
      · rw [if_neg hp]
        dsimp only
        rw [if_neg (show ¬ n' = 0 by omega)]
        obtain ⟨s3, e3, l3, t3, st3, q3⟩ := x_read2 (d := d) (A := A) (n' := n') x2 r3 hp r1
        have qa : Eqx (2 :: 7 :: tQ) s s3 := ((q1.mono (by decide)).tr (q2.mono (by decide))).tr (q3.mono (by decide))
        have hst : ∀ l, l < 10 → s3 7 l = nI (c' l) ∧ hal (gS A) l ≤ c' l ∧ c' l ≤ 20 := fun l hl => by
          have := r4 l hl
          have h0 : hal (gS A) l ≤ stk (gS A) l := Nat.le_add_left _ _
          exact ⟨st3 l hl, by omega, by omega⟩
        obtain ⟨cc, e4, i4⟩ := x_refill (d := d + 1 + 1 + 1 + 1) (s := s3) (T := gT A) (S := gS A) (st := c') hst (by rw [qa _ (by decide)]; exact hc)
        have qb : Eqx (2 :: 7 :: 37 :: 44 :: tQ) s (up (up (setA s3 37 cc) 44 2 0) 44 4 0) := (((qa.mono (by decide)).set (by simp)).up (by simp)).up (by simp)
        have qc : Eqx [37, 44] s3 (up (up (setA s3 37 cc) 44 2 0) 44 4 0) := ((Eqx.rf.set (by simp)).up (by simp)).up (by simp)
        refine ⟨_, ?_, XI_new h qb r2 (XT_q t3 qc (by decide)) r5 (by rw [qc _ (by decide)]; exact l3) (fun l hl => by rw [qc _ (by decide)]; exact hst l hl) (by rw [up_ne (by decide), up_ne (by decide), setA_at]; exact i4) ?_ ?_ ?_, fX_q qb (by decide)⟩
        · rw [E172_0, e1, e2, e3, bnd_some]
          simp (disch := omega) only [e4, x_forgetAll, E172_30, lit, nI_add, pk_mul, n_sub, n_addneg, nle_t, nle_f, nlt_t, nlt_f, neq_t, neq_f, n_inb, n_ix, bnd_some, if_true, if_false, ite_tt, ite_ff, not_true_eq_false, not_false_eq_true, eq_self, false_or, or_false, true_or, or_true]
        · rw [up_out (by decide), up_out (by decide), setA_ne (by decide), qa _ (by decide)]
        · rw [up_out (by decide), up_in]; rfl
        · rw [up_in]; rfl
end XTR
