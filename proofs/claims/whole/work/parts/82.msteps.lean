/-! THE MODEL: remembering, taking, bringing, lending -/
section MD6
variable {d B B' l w v x y n k o a b i f t : Nat} {s s' s1 s2 s'' : mS} {T : aT} {S S' U : aS} {A : aA} {p q r : Int32} {L : List aS}
theorem MLd_of (h : MSt T S s) (hN : tN T ≤ 8) {c : Nat → Int32} (h1 : ∀ w, w < 8 → c (3 * w) = s 75 w ∧ c (3 * w + 1) = s 77 w ∧ c (3 * w + 2) = s 78 w) (h2 : ∀ i, i < 80 → c (24 + i) = s 76 i) (h3 : ∀ l, l < 10 → c (104 + l) = s 68 l) (h4 : c 114 = s 67 13) : MLd T S c := by
  obtain ⟨g1, g2, g3⟩ := h
  refine ⟨fun w hw => ?_, fun l hl => (h3 l hl).trans (g2 l hl), h4.trans g3⟩
  obtain ⟨a1, a2, a3, a4⟩ := g1 w hw
  obtain ⟨b1, b2, b3⟩ := h1 w (by omega)
  exact ⟨b1.trans a1, b2.trans a2, b3.trans a3, fun l hl => (h2 _ (by omega)).trans (a4 l hl)⟩
theorem MSt_of {c : Nat → Int32} (h : MLd T U c) (hN : tN T ≤ 8) (h1 : ∀ w, w < 8 → s 75 w = c (3 * w) ∧ s 77 w = c (3 * w + 1) ∧ s 78 w = c (3 * w + 2)) (h2 : ∀ i, i < 80 → s 76 i = c (24 + i)) (h3 : ∀ l, l < 10 → s 68 l = c (104 + l)) (h4 : s 67 13 = c 114) : MSt T U s := by
  obtain ⟨g1, g2, g3⟩ := h
  refine ⟨fun w hw => ?_, fun l hl => (h3 l hl).trans (g2 l hl), h4.trans g3⟩
  obtain ⟨a1, a2, a3, a4⟩ := g1 w hw
  obtain ⟨b1, b2, b3⟩ := h1 w (by omega)
  exact ⟨b1.trans a1, b2.trans a2, b3.trans a3, fun l hl => (h2 _ (by omega)).trans (a4 l hl)⟩
theorem MLd_c {c c' : Nat → Int32} (h : MLd T U c) (hN : tN T ≤ 8) (e : ∀ j, j < 115 → c' j = c j) : MLd T U c' := by
  obtain ⟨g1, g2, g3⟩ := h
  refine ⟨fun w hw => ?_, fun l hl => (e _ (by omega)).trans (g2 l hl), (e _ (by omega)).trans g3⟩
  obtain ⟨a1, a2, a3, a4⟩ := g1 w hw
  exact ⟨(e _ (by omega)).trans a1, (e _ (by omega)).trans a2, (e _ (by omega)).trans a3, fun l hl => (e _ (by omega)).trans (a4 l hl)⟩
theorem m_rem1 (hS : MSt T S s) (hU : MU T L s) (hN : tN T ≤ 8) (hl : L.length < 12) : ∃ s', ev (d + 1) 269 49 [.inr 67, .inr 0] [] s = some (0, nI 0, s') ∧ MU T (S :: L) s' ∧ Eqm [84] [31] s s' := by
  have hz : 115 * L.length + 115 ≤ (mSh 84).2 := by
    show _ ≤ 1380
    omega
  obtain ⟨s1, e1, r1, r2, r3, r4, r5, r6⟩ := m_lay (d := d) (s := s) (k := 84) (o := 115 * L.length) (by decide) hz
  have c1 : s1 67 31 = nI L.length := by rw [r1 _ (by decide)]; exact hU.1
  refine ⟨up s1 67 31 (nI (L.length + 1)), ?_, ⟨?_, fun i U hi => ?_⟩, ⟨fun a ha hb => ?_, fun f hf => ?_⟩⟩
  · rw [E269_49, hU.1]
    simp (disch := omega) only [e1, c1, lit, nI_add, pk_mul, n_sub, n_addneg, nle_t, nle_f, nlt_t, nlt_f, neq_t, neq_f, n_inb, n_ix, bnd_some, if_true, if_false, ite_tt, ite_ff, not_true_eq_false, not_false_eq_true, eq_self, false_or, or_false, true_or, or_true]
  · rw [up_in]; rfl
  · have e0 : (S :: L).length = L.length + 1 := rfl
    rw [up_ne (by decide), e0]
    cases i with
    | zero =>
      have hi : some S = some U := hi
      cases hi
      rw [show L.length + 1 - 1 - 0 = L.length by omega]
      exact MLd_of hS hN (fun w hw => r3 w hw) r4 r5 r6
    | succ i =>
      have hi : L[i]? = some U := hi
      have hlt := (List.getElem?_eq_some_iff.mp hi).1
      refine MLd_c (hU.2 i U hi) hN (fun j hj => ?_)
      rw [r2 _ (Or.inl (by omega))]
      congr 2
      omega
  · rw [up_ne hb]; exact r1 a (by simpa using ha)
  · rw [up_out (by simpa using hf), r1 _ (by decide)]
theorem m_remember (hS : MSt T S s) (hU : MU T L s) (hN : tN T ≤ 8) (hl : L.length ≤ 12) : ∃ s', ev (d + 1) 269 0 [.inr 67, .inr 0] [] s = some (0, nI 0, s') ∧ MU T ((S :: L).take 12) s' ∧ Eqm [84] [31] s s' := by
  by_cases h12 : L.length = 12
  · have key : ∀ n, n ≤ 1265 → ∃ s', ev (d + 1) 269 11 [.inr 67, .inl (nI 0)] [] s = ev (d + 1) 269 11 [.inr 67, .inl (nI n)] [] s' ∧ Eqm [84] [] s s' ∧ (∀ j, j < n → s' 84 j = s 84 (j + 115)) ∧ (∀ j, n ≤ j → s' 84 j = s 84 j) := by
      intro n
      induction n with
      | zero => intro _; exact ⟨s, rfl, Eqm.rf, fun j hj => absurd hj (Nat.not_lt_zero _), fun _ _ => rfl⟩
      | succ n ih =>
        intro hn
        obtain ⟨s1, e1, q1, r1, r2⟩ := ih (by omega)
        have g := r2 (n + 115) (by omega)
        refine ⟨up s1 84 n (s 84 (n + 115)), ?_, q1.pu (by simp) (by decide), fun j hj => ?_, fun j hj => ?_⟩
        · rw [e1, E269_11]
          simp (disch := omega) only [g, lit, nI_add, pk_mul, n_sub, n_addneg, nle_t, nle_f, nlt_t, nlt_f, neq_t, neq_f, n_inb, n_ix, bnd_some, if_true, if_false, ite_tt, ite_ff, not_true_eq_false, not_false_eq_true, eq_self, false_or, or_false, true_or, or_true]
        · by_cases hz : j = n
          · subst hz; rw [up_in]
          · rw [up_out hz]; exact r1 j (by omega)
        · rw [up_out (by omega)]; exact r2 j (by omega)
    obtain ⟨s1, e1, q1, r1, r2⟩ := key 1265 (Nat.le_refl _)
    have hlt : (L.take 11).length = 11 := by rw [List.length_take, h12]; rfl
    have c1 : s1 67 31 = nI 12 := by rw [q1.2 _ (by simp), hU.1, h12]
    have q2 : Eqm [84] [31] s (up s1 67 31 (nI 11)) := (q1.mono (by simp) (by simp)).pf (by simp)
    have hU2 : MU T (L.take 11) (up s1 67 31 (nI 11)) := by
      refine ⟨by rw [up_in, hlt], fun i U hi => ?_⟩
      have hlt2 := (List.getElem?_eq_some_iff.mp hi).1
      rw [hlt] at hlt2
      rw [List.getElem?_take, if_pos hlt2] at hi
      rw [up_ne (by decide), hlt]
      refine MLd_c (hU.2 i U hi) hN (fun j hj => ?_)
      rw [r1 _ (by omega), h12]
      congr 1
      omega
    obtain ⟨s', e2, w2, q3⟩ := m_rem1 (d := d) (MSt_q hS q2 (by decide) (by decide)) hU2 hN (by omega)
    refine ⟨s', ?_, ?_, q2.tr q3⟩
    · rw [E269_0, hU.1, h12]
      simp (disch := omega) only [lit, nI_add, pk_mul, n_sub, n_addneg, nle_t, nle_f, nlt_t, nlt_f, neq_t, neq_f, n_inb, n_ix, bnd_some, if_true, if_false, ite_tt, ite_ff, not_true_eq_false, not_false_eq_true, eq_self, false_or, or_false, true_or, or_true]
      rw [e1, E269_11, c1]
      simp (disch := omega) only [lit, nI_add, pk_mul, n_sub, n_addneg, nle_t, nle_f, nlt_t, nlt_f, neq_t, neq_f, n_inb, n_ix, bnd_some, if_true, if_false, ite_tt, ite_ff, not_true_eq_false, not_false_eq_true, eq_self, false_or, or_false, true_or, or_true]
      exact e2
    · exact w2
  · have hl2 : L.length < 12 := by omega
    obtain ⟨s', e2, w2, q3⟩ := m_rem1 (d := d) hS hU hN hl2
    refine ⟨s', ?_, ?_, q3⟩
    · rw [E269_0, hU.1]
      simp (disch := omega) only [lit, nI_add, pk_mul, n_sub, n_addneg, nle_t, nle_f, nlt_t, nlt_f, neq_t, neq_f, n_inb, n_ix, bnd_some, if_true, if_false, ite_tt, ite_ff, not_true_eq_false, not_false_eq_true, eq_self, false_or, or_false, true_or, or_true]
      exact e2
    · rw [List.take_of_length_le (show (S :: L).length ≤ 12 from hl2)]
      exact w2
theorem mbr_f : ∀ n, n ≤ 10 → (∀ w' l', sG (itr (fun l S => bringL S w l) n S) w' l' = if w' = w ∧ l' < n then 0 else sG S w' l') ∧ (∀ l', sL (itr (fun l S => bringL S w l) n S) l' = if l' < n then sL S l' + sG S w l' else sL S l') ∧ sH (itr (fun l S => bringL S w l) n S) = sH S ∧ sQ (itr (fun l S => bringL S w l) n S) = sQ S ∧ sU (itr (fun l S => bringL S w l) n S) = sU S ∧ sK (itr (fun l S => bringL S w l) n S) = sK S := by
  intro n
  induction n with
  | zero => intro _; exact ⟨fun _ _ => (if_neg (fun z => absurd z.2 (Nat.not_lt_zero _))).symm, fun _ => (if_neg (Nat.not_lt_zero _)).symm, rfl, rfl, rfl, rfl⟩
  | succ n ih =>
    intro hn
    obtain ⟨h1, h2, h3, h4, h5, h6⟩ := ih (by omega)
    show (∀ w' l', sG (bringL (itr (fun l S => bringL S w l) n S) w n) w' l' = _) ∧ (∀ l', sL (bringL (itr (fun l S => bringL S w l) n S) w n) l' = _) ∧ sH (itr (fun l S => bringL S w l) n S) = sH S ∧ sQ (itr (fun l S => bringL S w l) n S) = sQ S ∧ sU (itr (fun l S => bringL S w l) n S) = sU S ∧ sK (itr (fun l S => bringL S w l) n S) = sK S
    refine ⟨fun w' l' => ?_, fun l' => ?_, h3, h4, h5, h6⟩
    · show (if w' = w ∧ l' = n then 0 else sG (itr (fun l S => bringL S w l) n S) w' l') = _
      rw [h1]
      by_cases z1 : w' = w
      · by_cases z2 : l' = n
        · rw [if_pos ⟨z1, z2⟩, if_pos ⟨z1, by omega⟩]
        · rw [if_neg (fun z => z2 z.2)]
          by_cases z3 : l' < n
          · rw [if_pos ⟨z1, z3⟩, if_pos ⟨z1, by omega⟩]
          · rw [if_neg (fun z => z3 z.2), if_neg (fun z => by have := z.2; omega)]
      · rw [if_neg (fun z => z1 z.1), if_neg (fun z => z1 z.1), if_neg (fun z => z1 z.1)]
    · show (if l' = n then sL (itr (fun l S => bringL S w l) n S) n + sG (itr (fun l S => bringL S w l) n S) w n else sL (itr (fun l S => bringL S w l) n S) l') = _
      rw [h2, h2, h1]
      by_cases z : l' = n
      · subst z
        rw [if_pos rfl, if_neg (by omega), if_neg (fun z => by have := z.2; omega), if_pos (by omega)]
      · rw [if_neg z]
        by_cases z3 : l' < n
        · rw [if_pos z3, if_pos (by omega)]
        · rw [if_neg z3, if_neg (by omega)]
theorem m_bringAll (hN : tN T ≤ 8) (h : MSt T S s) (hw : w < tN T) (hT : MT T s) : ∃ s', ev (d + 1) 270 0 [.inr 67, .inl (nI w), .inr 0, .inr 0] [] s = some (0, nI (hgs S w), s') ∧ MSt T (bringAllS S w) s' ∧ Eqm [68, 76] [] s s' := by
  have key : ∀ n, n ≤ 10 → ∃ s', ev (d + 1) 270 8 [.inr 67, .inl (nI w), .inl (nI (hgs S w)), .inl (nI 0)] [] s = ev (d + 1) 270 8 [.inr 67, .inl (nI w), .inl (nI (hgs S w)), .inl (nI n)] [] s' ∧ MSt T (itr (fun l S => bringL S w l) n S) s' ∧ Eqm [68, 76] [] s s' := by
    intro n
    induction n with
    | zero => intro _; exact ⟨s, rfl, h, Eqm.rf⟩
    | succ n ih =>
      intro hn
      obtain ⟨s1, e1, m1, q1⟩ := ih (by omega)
      rw [show itr (fun l S => bringL S w l) (n + 1) S = bringL (itr (fun l S => bringL S w l) n S) w n from rfl]
      generalize itr (fun l S => bringL S w l) n S = V at m1 ⊢
      have g1 := m1.2.1 n (by omega)
      have g2 := (m1.1 w hw).2.2.2 n (by omega)
      have g3 : (up s1 68 n (nI (sL V n + sG V w n))) 76 = s1 76 := up_ne (by decide)
      have q2 : Eqm [68, 76] [] s1 (up (up s1 68 n (nI (sL V n + sG V w n))) 76 (10 * w + n) (nI 0)) := (Eqm.rf.pu (by simp) (by decide)).pu (by simp) (by decide)
      refine ⟨_, ?_, ⟨fun w' hw' => ?_, fun l' hl' => ?_, ?_⟩, q1.tr q2⟩
      · rw [e1, E270_8]
        simp (disch := omega) only [g1, g2, lit, nI_add, pk_mul, n_sub, n_addneg, nle_t, nle_f, nlt_t, nlt_f, neq_t, neq_f, n_inb, n_ix, bnd_some, if_true, if_false, ite_tt, ite_ff, not_true_eq_false, not_false_eq_true, eq_self, false_or, or_false, true_or, or_true]
      · obtain ⟨a1, a2, a3, a4⟩ := m1.1 w' hw'
        refine ⟨by rw [q2.1 _ (by decide) (by decide)]; exact a1, by rw [q2.1 _ (by decide) (by decide)]; exact a2, by rw [q2.1 _ (by decide) (by decide)]; exact a3, fun l' hl' => ?_⟩
        show _ = nI (if w' = w ∧ l' = n then 0 else sG V w' l')
        by_cases z : w' = w ∧ l' = n
        · obtain ⟨rfl, rfl⟩ := z
          rw [up_in, if_pos ⟨rfl, rfl⟩]
        · rw [if_neg z, up_out (by omega), up_ne (by decide)]
          exact a4 l' hl'
      · show _ = nI (if l' = n then sL V n + sG V w n else sL V l')
        rw [up_ne (by decide)]
        by_cases z : l' = n
        · subst z; rw [up_in, if_pos rfl]
        · rw [up_out z, if_neg z]; exact m1.2.1 l' hl'
      · rw [q2.2 _ (by simp)]; exact m1.2.2
  obtain ⟨s1, e1, m1, q1⟩ := key 10 (Nat.le_refl _)
  refine ⟨s1, ?_, m1, q1⟩
  rw [E270_0, m_hangsOn hN h hw]
  simp (disch := omega) only [lit, nI_add, pk_mul, n_sub, n_addneg, nle_t, nle_f, nlt_t, nlt_f, neq_t, neq_f, n_inb, n_ix, bnd_some, if_true, if_false, ite_tt, ite_ff, not_true_eq_false, not_false_eq_true, eq_self, false_or, or_false, true_or, or_true]
  rw [e1, E270_8]
  simp (disch := omega) only [lit, nI_add, pk_mul, n_sub, n_addneg, nle_t, nle_f, nlt_t, nlt_f, neq_t, neq_f, n_inb, n_ix, bnd_some, if_true, if_false, ite_tt, ite_ff, not_true_eq_false, not_false_eq_true, eq_self, false_or, or_false, true_or, or_true]
theorem MSt_wd {g : Option Nat} {c : Int32} (h : MSt T S s) (hg : c = oc g) : MSt T (wdS S w g) (up (up (up s 75 w c) 77 w (nI 0)) 78 w (nI 0)) ∧ Eqm [75, 77, 78] [] s (up (up (up s 75 w c) 77 w (nI 0)) 78 w (nI 0)) := by
  have q : Eqm [75, 77, 78] [] s (up (up (up s 75 w c) 77 w (nI 0)) 78 w (nI 0)) := ((Eqm.rf.pu (by simp) (by decide)).pu (by simp) (by decide)).pu (by simp) (by decide)
  refine ⟨⟨fun w' hw' => ?_, fun l' hl' => by rw [q.1 _ (by decide) (by decide)]; exact h.2.1 l' hl', by rw [q.2 _ (by simp)]; exact h.2.2⟩, q⟩
  obtain ⟨a1, a2, a3, a4⟩ := h.1 w' hw'
  refine ⟨?_, ?_, ?_, fun l' hl' => by rw [q.1 _ (by decide) (by decide)]; exact a4 l' hl'⟩
  · show _ = oc (uO (sH S) w g w')
    unfold uO
    rw [up_ne (by decide), up_ne (by decide)]
    by_cases z : w' = w
    · subst z; rw [up_in, if_pos rfl]; exact hg
    · rw [up_out z, if_neg z]; exact a1
  · show _ = nI (uO (sQ S) w 0 w')
    unfold uO
    rw [up_ne (by decide)]
    by_cases z : w' = w
    · subst z; rw [up_in, if_pos rfl]
    · rw [up_out z, if_neg z, up_ne (by decide)]; exact a2
  · show _ = nI (uO (sU S) w 0 w')
    unfold uO
    by_cases z : w' = w
    · subst z; rw [up_in, if_pos rfl]
    · rw [up_out z, if_neg z, up_ne (by decide), up_ne (by decide)]; exact a3
theorem m_noWord (h : MSt T S s) (hw : w < 8) : ∃ s', ev d 271 0 [.inr 67, .inl (nI w)] [] s = some (0, nI 0, s') ∧ MSt T (wdS S w none) s' ∧ Eqm [75, 77, 78] [] s s' := by
  obtain ⟨h1, h2⟩ := MSt_wd (w := w) (g := none) (c := -nI 1) h rfl
  refine ⟨_, ?_, h1, h2⟩
  rw [E271_0]
  simp (disch := omega) only [lit, nI_add, pk_mul, n_sub, n_addneg, nle_t, nle_f, nlt_t, nlt_f, neq_t, neq_f, n_inb, n_ix, bnd_some, if_true, if_false, ite_tt, ite_ff, not_true_eq_false, not_false_eq_true, eq_self, false_or, or_false, true_or, or_true]
theorem MJ_go {S' : aS} (h : MJ A B s) (e1 : MU (gT A) (pushU A) s1) (q1 : Eqm [84] [31] s s1) (q2 : Eqm [68, 75, 76, 77, 78] [13] s1 s2) (hS : MSt (gT A) S' s2) : MJ (goS A S') B s2 := by
  obtain ⟨h1, h2, h3, h4, h5, h6, h7, h8⟩ := h
  have q : Eqm [68, 75, 76, 77, 78, 84] [13, 31] s s2 := (q1.mono (by decide) (by decide)).tr (q2.mono (by decide) (by decide))
  exact ⟨MT_q h1 q (by decide) (by decide), hS, MX_q h3 q (by decide) (by decide), MW_q h4 q (by decide) (by decide), MRl_q h5 q (by decide) (by decide), MU_q e1 q2 (by decide) (by decide), MK_q h7 q (by decide) (by decide), MN_q h8 q (by decide) (by decide)⟩
end MD6
