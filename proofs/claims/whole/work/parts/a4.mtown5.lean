/-! THE MODEL: town -/
def tfF : List Nat := [15, 19, 20, 21, 22, 23]
section MTS
variable {d E p c0 m f a i v x l B B' g q k : Nat} {s s' s1 s2 : mS} {X : aX} {w w' : Option Nat} {T T' T0 : aT} {S : aS} {A : aA} {P F : List Nat} {c c' : Nat → Nat} {sp : Nat → Nat} {b1 b2 b3 : Int32} {K : Nat → Option aS}
theorem MK_came2 (h : MK T K B' s) (q : Eqm P F s s') (hp : ∀ a ∈ P, a ∉ [94, 95, 96]) (hf : 43 ∉ F) : MK T' (fun _ => none) (B' + 1) (up s' 67 43 (s' 67 43 + nI 1)) := by
  have e : ∀ a, a ∈ [94, 95, 96] → s' a = s a := fun a ha => q.1 a (fun z => hp a z ha) (by rintro rfl; revert ha; decide)
  obtain ⟨c, k1, k2, k3⟩ := h
  refine ⟨c + 1, by omega, ?_, fun i hi => ?_⟩
  · rw [up_in, q.2 _ hf, k2, nI_add]
  · obtain ⟨a1, ⟨e', b1, b2, -⟩, -⟩ := k3 i hi
    rw [up_ne (by decide), up_ne (by decide), e 95 (by decide), e 96 (by decide)]
    exact ⟨a1, ⟨e', by omega, b2, ⟨fun z => absurd rfl z, fun z => by have := z.2; omega⟩⟩, fun U hU => by cases hU⟩
theorem m_needs1 (hx : x < 12) (hlen : tLen T x ≤ 8) (h1 : s 70 x = nI (tLen T x)) (h2 : ∀ i, i < tLen T x → s 71 (8 * x + i) = nI (tSp T x i) ∧ tSp T x i < 10) : ∃ s', ev (d + 1) 245 260 [.inr 67, .inl b1, .inl b2, .inl b3, .inr 0, .inl (nI x), .inl (nI 0)] [] s = ev (d + 1) 245 251 [.inr 67, .inl b1, .inl b2, .inl b3, .inr 0, .inl (nI (x + 1)), .inr 0] [] s' ∧ (∀ l, l < 10 → s' 72 (10 * x + l) = nI (nd T x l)) ∧ (∀ j, j < 10 * x → s' 72 j = s 72 j) ∧ Eqm [72] [] s s' := by
  have k1 : ∀ n, n ≤ 10 → ∃ s', ev (d + 1) 245 260 [.inr 67, .inl b1, .inl b2, .inl b3, .inr 0, .inl (nI x), .inl (nI 0)] [] s = ev (d + 1) 245 260 [.inr 67, .inl b1, .inl b2, .inl b3, .inr 0, .inl (nI x), .inl (nI n)] [] s' ∧ (∀ l, l < n → s' 72 (10 * x + l) = nI 0) ∧ (∀ j, j < 10 * x → s' 72 j = s 72 j) ∧ Eqm [72] [] s s' := by
    intro n
    induction n with
    | zero => intro _; exact ⟨s, rfl, fun l hl => absurd hl (Nat.not_lt_zero _), fun _ _ => rfl, Eqm.rf⟩
    | succ n ih =>
      intro hn
      obtain ⟨s1, e1, r1, r2, q1⟩ := ih (by omega)
      refine ⟨up s1 72 (10 * x + n) (nI 0), ?_, fun l hl => ?_, fun j hj => by rw [up_out (by omega)]; exact r2 j hj, q1.pu (by simp) (by decide)⟩
      · rw [e1, E245_260]
        simp (disch := omega) only [lit, nI_add, pk_mul, n_sub, n_addneg, nle_t, nle_f, nlt_t, nlt_f, neq_t, neq_f, n_inb, n_ix, bnd_some, if_true, if_false, ite_tt, ite_ff, not_true_eq_false, not_false_eq_true, eq_self, false_or, or_false, true_or, or_true]
      · by_cases z : l = n
        · subst z; exact up_in
        · rw [up_out (by omega)]; exact r1 l (by omega)
  obtain ⟨s1, e1, r1, r2, q1⟩ := k1 10 (Nat.le_refl _)
  have k2 : ∀ n, n ≤ tLen T x → ∃ s', ev (d + 1) 245 290 [.inr 67, .inl b1, .inl b2, .inl b3, .inr 0, .inl (nI x), .inl (nI 0)] [] s1 = ev (d + 1) 245 290 [.inr 67, .inl b1, .inl b2, .inl b3, .inr 0, .inl (nI x), .inl (nI n)] [] s' ∧ (∀ l, l < 10 → s' 72 (10 * x + l) = nI (sm (fun i => if tSp T x i = l then 1 else 0) n)) ∧ (∀ j, j < 10 * x → s' 72 j = s 72 j) ∧ Eqm [72] [] s s' := by
    intro n
    induction n with
    | zero => intro _; exact ⟨s1, rfl, r1, r2, q1⟩
    | succ n ih =>
      intro hn
      obtain ⟨s2, e2, u1, u2, q2⟩ := ih (by omega)
      obtain ⟨g1, g2⟩ := h2 n (by omega)
      have c1 : s2 70 x = nI (tLen T x) := by rw [q2.1 _ (by decide) (by decide)]; exact h1
      have c2 : s2 71 (8 * x + n) = nI (tSp T x n) := by rw [q2.1 _ (by decide) (by decide)]; exact g1
      have c3 := u1 _ g2
      refine ⟨up s2 72 (10 * x + tSp T x n) (nI (sm (fun i => if tSp T x i = tSp T x n then 1 else 0) n + 1)), ?_, fun l hl => ?_, fun j hj => by rw [up_out (by omega)]; exact u2 j hj, q2.pu (by simp) (by decide)⟩
      · rw [e2, E245_290]
        simp (disch := omega) only [c1, c2, c3, lit, nI_add, pk_mul, n_sub, n_addneg, nle_t, nle_f, nlt_t, nlt_f, neq_t, neq_f, n_inb, n_ix, bnd_some, if_true, if_false, ite_tt, ite_ff, not_true_eq_false, not_false_eq_true, eq_self, false_or, or_false, true_or, or_true]
      · rw [sm_s]
        by_cases z : tSp T x n = l
        · subst z; rw [up_in, if_pos rfl]
        · rw [up_out (by omega), if_neg z, Nat.add_zero]; exact u1 l hl
  obtain ⟨s2, e2, u1, u2, q2⟩ := k2 (tLen T x) (Nat.le_refl _)
  have c1 : s2 70 x = nI (tLen T x) := by rw [q2.1 _ (by decide) (by decide)]; exact h1
  refine ⟨s2, ?_, u1, u2, q2⟩
  rw [e1, E245_260]
  simp (disch := omega) only [lit, nI_add, pk_mul, n_sub, n_addneg, nle_t, nle_f, nlt_t, nlt_f, neq_t, neq_f, n_inb, n_ix, bnd_some, if_true, if_false, ite_tt, ite_ff, not_true_eq_false, not_false_eq_true, eq_self, false_or, or_false, true_or, or_true]
  rw [e2, E245_290]
  simp (disch := omega) only [c1, lit, nI_add, pk_mul, n_sub, n_addneg, nle_t, nle_f, nlt_t, nlt_f, neq_t, neq_f, n_inb, n_ix, bnd_some, if_true, if_false, ite_tt, ite_ff, not_true_eq_false, not_false_eq_true, eq_self, false_or, or_false, true_or, or_true]
theorem m_needs (ht : tOk T) (hW : MPw T s) (ha : a ≤ tW T) : ∀ n, a + n ≤ tW T → ∃ s', ev (d + 1) 245 251 [.inr 67, .inl (nI (tW T)), .inl b2, .inl b3, .inr 0, .inl (nI a), .inr 0] [] s = ev (d + 1) 245 251 [.inr 67, .inl (nI (tW T)), .inl b2, .inl b3, .inr 0, .inl (nI (a + n)), .inr 0] [] s' ∧ (∀ x l, a ≤ x → x < a + n → l < 10 → s' 72 (10 * x + l) = nI (nd T x l)) ∧ (∀ j, j < 10 * a → s' 72 j = s 72 j) ∧ Eqm [72] [] s s' := by
  have h12 := ht.1
  intro n
  induction n with
  | zero => intro _; exact ⟨s, rfl, fun x l h1 h2 => by omega, fun _ _ => rfl, Eqm.rf⟩
  | succ n ih =>
    intro hn
    obtain ⟨s1, e1, r1, r2, q1⟩ := ih (by omega)
    obtain ⟨g1, g2, g3⟩ := hW.1 (a + n) (by omega)
    have t := ht.2.2.1 (a + n) (by omega)
    obtain ⟨s2, e2, u1, u2, q2⟩ := m_needs1 (d := d) (T := T) (x := a + n) (b1 := nI (tW T)) (b2 := b2) (b3 := b3) (s := s1) (by omega) t.2.1 (by rw [q1.1 _ (by decide) (by decide)]; exact g1) (fun i hi => ⟨by rw [q1.1 _ (by decide) (by decide)]; exact g3 i hi, t.2.2.2 i hi⟩)
    refine ⟨s2, ?_, fun x l h1 h2 hl => ?_, fun j hj => by rw [u2 j (by omega)]; exact r2 j hj, q1.tr q2⟩
    · rw [e1, E245_251]
      simp (disch := omega) only [lit, nle_f, if_false]
      exact e2
    · by_cases z : x = a + n
      · subst z; exact u1 l hl
      · rw [u2 _ (by omega)]; exact r1 x l h1 (by omega) hl
theorem m_walls0 (hN : tN T ≤ 8) (ha : a ≤ tN T) : ∀ n, a + n ≤ tN T → ∃ s', ev (d + 1) 245 348 [.inr 67, .inl b1, .inl (nI (tN T)), .inl b3, .inr 0, .inl (nI a), .inr 0] [] s = ev (d + 1) 245 348 [.inr 67, .inl b1, .inl (nI (tN T)), .inl b3, .inr 0, .inl (nI (a + n)), .inr 0] [] s' ∧ (∀ w, a ≤ w → w < a + n → s' 75 w = -nI 1 ∧ s' 77 w = nI 0 ∧ s' 78 w = nI 0 ∧ ∀ l, l < 10 → s' 76 (10 * w + l) = nI 0) ∧ (∀ w, w < a → s' 75 w = s 75 w ∧ s' 77 w = s 77 w ∧ s' 78 w = s 78 w ∧ ∀ l, l < 10 → s' 76 (10 * w + l) = s 76 (10 * w + l)) ∧ Eqm [75, 76, 77, 78] [] s s' := by
  intro n
  induction n with
  | zero => intro _; exact ⟨s, rfl, fun w h1 h2 => by omega, fun _ _ => ⟨rfl, rfl, rfl, fun _ _ => rfl⟩, Eqm.rf⟩
  | succ n ih =>
    intro hn
    obtain ⟨s1, e1, r1, r2, q1⟩ := ih (by omega)
    obtain ⟨t, ht⟩ : ∃ t, t = up (up (up s1 75 (a + n) (-nI 1)) 77 (a + n) (nI 0)) 78 (a + n) (nI 0) := ⟨_, rfl⟩
    have qt : Eqm [75, 77, 78] [] s1 t := by rw [ht]; exact ((Eqm.rf.pu (by simp) (by decide)).pu (by simp) (by decide)).pu (by simp) (by decide)
    have k1 : ∀ j, j ≤ 10 → ∃ s', ev (d + 1) 245 381 [.inr 67, .inl b1, .inl (nI (tN T)), .inl b3, .inr 0, .inl (nI (a + n)), .inl (nI 0)] [] t = ev (d + 1) 245 381 [.inr 67, .inl b1, .inl (nI (tN T)), .inl b3, .inr 0, .inl (nI (a + n)), .inl (nI j)] [] s' ∧ (∀ l, l < j → s' 76 (10 * (a + n) + l) = nI 0) ∧ (∀ i, i < 10 * (a + n) → s' 76 i = t 76 i) ∧ Eqm [76] [] t s' := by
      intro j
      induction j with
      | zero => intro _; exact ⟨t, rfl, fun l hl => absurd hl (Nat.not_lt_zero _), fun _ _ => rfl, Eqm.rf⟩
      | succ j ihj =>
        intro hj
        obtain ⟨s2, e2, u1, u2, q2⟩ := ihj (by omega)
        refine ⟨up s2 76 (10 * (a + n) + j) (nI 0), ?_, fun l hl => ?_, fun i hi => by rw [up_out (by omega)]; exact u2 i hi, q2.pu (by simp) (by decide)⟩
        · rw [e2, E245_381]
          simp (disch := omega) only [lit, nI_add, pk_mul, n_sub, n_addneg, nle_t, nle_f, nlt_t, nlt_f, neq_t, neq_f, n_inb, n_ix, bnd_some, if_true, if_false, ite_tt, ite_ff, not_true_eq_false, not_false_eq_true, eq_self, false_or, or_false, true_or, or_true]
        · by_cases z : l = j
          · subst z; exact up_in
          · rw [up_out (by omega)]; exact u1 l (by omega)
    obtain ⟨s2, e2, u1, u2, q2⟩ := k1 10 (Nat.le_refl _)
    have v75 : ∀ w, t 75 w = if w = a + n then -nI 1 else s1 75 w := fun w => by
      rw [ht, up_ne (by decide), up_ne (by decide)]
      by_cases z : w = a + n
      · rw [if_pos z, z, up_in]
      · rw [if_neg z, up_out z]
    have v77 : ∀ w, t 77 w = if w = a + n then nI 0 else s1 77 w := fun w => by
      rw [ht, up_ne (by decide)]
      by_cases z : w = a + n
      · rw [if_pos z, z, up_in]
      · rw [if_neg z, up_out z, up_ne (by decide)]
    have v78 : ∀ w, t 78 w = if w = a + n then nI 0 else s1 78 w := fun w => by
      rw [ht]
      by_cases z : w = a + n
      · rw [if_pos z, z, up_in]
      · rw [if_neg z, up_out z, up_ne (by decide), up_ne (by decide)]
    have v76 : t 76 = s1 76 := qt.1 _ (by decide) (by decide)
    have w75 : s2 75 = t 75 := q2.1 _ (by decide) (by decide)
    have w77 : s2 77 = t 77 := q2.1 _ (by decide) (by decide)
    have w78 : s2 78 = t 78 := q2.1 _ (by decide) (by decide)
    refine ⟨s2, ?_, fun w h1 h2 => ?_, fun w h1 => ?_, q1.tr ((qt.mono (by decide) (by decide)).tr (q2.mono (by decide) (by decide)))⟩
    · rw [e1, E245_348]
      simp (disch := omega) only [lit, nI_add, pk_mul, n_sub, n_addneg, nle_t, nle_f, nlt_t, nlt_f, neq_t, neq_f, n_inb, n_ix, bnd_some, if_true, if_false, ite_tt, ite_ff, not_true_eq_false, not_false_eq_true, eq_self, false_or, or_false, true_or, or_true]
      rw [← ht, e2, E245_381]
      simp (disch := omega) only [lit, nI_add, pk_mul, n_sub, n_addneg, nle_t, nle_f, nlt_t, nlt_f, neq_t, neq_f, n_inb, n_ix, bnd_some, if_true, if_false, ite_tt, ite_ff, not_true_eq_false, not_false_eq_true, eq_self, false_or, or_false, true_or, or_true]
      rfl
    · rw [w75, w77, w78, v75, v77, v78]
      by_cases z : w = a + n
      · subst z
        rw [if_pos rfl, if_pos rfl, if_pos rfl]
        exact ⟨rfl, rfl, rfl, fun l hl => u1 l hl⟩
      · rw [if_neg z, if_neg z, if_neg z]
        obtain ⟨f1, f2, f3, f4⟩ := r1 w h1 (by omega)
        exact ⟨f1, f2, f3, fun l hl => by rw [u2 _ (by omega), v76]; exact f4 l hl⟩
    · rw [w75, w77, w78, v75, v77, v78, if_neg (by omega), if_neg (by omega), if_neg (by omega)]
      obtain ⟨f1, f2, f3, f4⟩ := r2 w h1
      exact ⟨f1, f2, f3, fun l hl => by rw [u2 _ (by omega), v76]; exact f4 l hl⟩
theorem m_come {g1 g2 : Nat → Nat} (h1 : ∀ l, l < 10 → s 68 l = nI (g1 l)) (h2 : ∀ l, l < 10 → s 81 l = nI (g2 l)) : ∀ n, n ≤ 10 → ∃ s', ev (d + 1) 245 417 [.inr 67, .inl b1, .inl b2, .inl b3, .inr 0, .inl (nI 0), .inr 0] [] s = ev (d + 1) 245 417 [.inr 67, .inl b1, .inl b2, .inl b3, .inr 0, .inl (nI n), .inr 0] [] s' ∧ (∀ l, l < 10 → s' 68 l = if l < n then nI (g1 l + g2 l) else nI (g1 l)) ∧ Eqm [68] [] s s' := by
  intro n
  induction n with
  | zero => intro _; exact ⟨s, rfl, fun l hl => by rw [if_neg (Nat.not_lt_zero _)]; exact h1 l hl, Eqm.rf⟩
  | succ n ih =>
    intro hn
    obtain ⟨s1, e1, r1, q1⟩ := ih (by omega)
    have c1 := r1 n (by omega)
    rw [if_neg (Nat.lt_irrefl _)] at c1
    have c2 : s1 81 n = nI (g2 n) := by rw [q1.1 _ (by decide) (by decide)]; exact h2 n (by omega)
    refine ⟨up s1 68 n (nI (g1 n + g2 n)), ?_, fun l hl => ?_, q1.pu (by simp) (by decide)⟩
    · rw [e1, E245_417]
      simp (disch := omega) only [c1, c2, lit, nI_add, pk_mul, n_sub, n_addneg, nle_t, nle_f, nlt_t, nlt_f, neq_t, neq_f, n_inb, n_ix, bnd_some, if_true, if_false, ite_tt, ite_ff, not_true_eq_false, not_false_eq_true, eq_self, false_or, or_false, true_or, or_true]
    · by_cases z : l = n
      · subst z; rw [up_in, if_pos (Nat.lt_succ_self _)]
      · rw [up_out z, r1 l hl]
        by_cases z2 : l < n
        · rw [if_pos z2, if_pos (by omega)]
        · rw [if_neg z2, if_neg (by omega)]
theorem MJ_bad (h : MJ A B s) (q : Eqm tlP tfF s s') (hT : MT (gT A) s') (h15 : s' 67 15 = nI 0) : MJ (wX A (x0 A)) B s' := by
  obtain ⟨h1, h2, h3, h4, h5, h6, h7, h8⟩ := h
  exact ⟨hT, MSt_q h2 q (by decide) (by decide), ⟨h15, fun i hi => absurd hi (Nat.not_lt_zero _)⟩, MW_q h4 q (by decide) (by decide), MRl_q h5 q (by decide) (by decide), MU_q h6 q (by decide) (by decide), MK_q h7 q (by decide) (by decide), MN_q h8 q (by decide) (by decide)⟩
end MTS
