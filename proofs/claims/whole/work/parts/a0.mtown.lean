/-! THE MODEL: letters of a town's line -/
def MP (T : aT) (c : Nat → Nat) (S : aS) (s : mS) : Prop := (∀ x, x < tW T → s 70 x = nI (tLen T x) ∧ s 69 x = nI (tSen T x) ∧ ∀ i, i < tLen T x → s 71 (8 * x + i) = nI (tSp T x i)) ∧ (∀ w, w < tN T → s 73 w = nI (tWo T w) ∧ s 74 w = nI (tTe T w)) ∧ ∀ l, l < 10 → stk S l ≤ c l ∧ c l ≤ 20 ∧ s 81 l = nI (c l - stk S l)
theorem hB_L : ∀ h, h < 257 → decide (¬ hB h < nI 97 ∧ ¬ nI 106 < hB h) = isL h := by decide +kernel
section MTO
variable {d E p c0 m f a i v k x l B B' n g : Nat} {s s' s1 : mS} {X : aX} {w w' : Option Nat} {T T0 : aT} {S : aS} {P F : List Nat} {c : Nat → Nat}
theorem hB_Ln (h : isL (hd X E p) = true) : hB (hd X E p) = nI (hd X E p) := by
  have hb := of_decide_eq_true h
  unfold hB bB
  rw [if_neg (by omega), if_pos (by omega)]
theorem m_isL (hx : MC X E k s) : ev d 228 0 [.inl (hB (hd X E p)), .inl (nI 97), .inl (nI 106)] [] s' = some (0, bI (isL (hd X E p)), s') := by
  rw [m_in, hB_L _ (by have := hd_le' (p := p) hx; omega)]
theorem m_numberF {lo hi mm : Int32} : ev (d + 1) 243 0 [.inr 67, .inl mm, .inl lo, .inl hi, .inr 0, .inr 0] [] (mcu s p (some f)) = some (0, nI 0, mcu s p (some f)) := by
  rw [E243_0, m_fine, bnd_some, decide_eq_false (by simp), if_neg (show ¬ ¬ bI false = 0 from not_not_intro rfl)]
  rfl
theorem MP_q (h : MP T c S s) (q : Eqm P F s s') (hp : ∀ a ∈ P, a ∉ [70, 69, 71, 73, 74, 81]) : MP T c S s' := by
  have e : ∀ a, a ∈ [70, 69, 71, 73, 74, 81] → s' a = s a := fun a ha => q.1 a (fun z => hp a z ha) (by rintro rfl; revert ha; decide)
  obtain ⟨h1, h2, h3⟩ := h
  refine ⟨fun x hx => ?_, fun w hw => ?_, fun l hl => ?_⟩
  · rw [e 70 (by decide), e 69 (by decide), e 71 (by decide)]; exact h1 x hx
  · rw [e 73 (by decide), e 74 (by decide)]; exact h2 w hw
  · rw [e 81 (by decide)]; exact h3 l hl
theorem mcu_up {a j : Nat} {t : Int32} (h : a ≠ 67) : up (mcu s p w) a j t = mcu (up s a j t) p w := by
  funext b
  by_cases hb : b = 67
  · subst hb
    rw [up_ne (fun z => h z.symm)]
    unfold mcu
    rw [setA_at, setA_at, up_ne (fun z => h z.symm)]
  · rw [mcu_ne hb]
    by_cases hb2 : b = a
    · subst hb2
      unfold up
      rw [setA_at, setA_at, mcu_ne hb]
    · rw [up_ne hb2, up_ne hb2, mcu_ne hb]
theorem m_wordL : ∀ m i q (s : mS), MC X E k s → i + m = 8 → q ≤ E → ∃ s', ev (d + 1 + 1) 246 2 [.inr 67, .inl (nI v), .inl (nI i), .inr 0, .inr 0] [] (mcu s q none) = ev (d + 1 + 1) 246 2 [.inr 67, .inl (nI v), .inl (nI (i + lts X E m q)), .inr 0, .inr 0] [] (mcu s' (q + lts X E m q) none) ∧ (∀ j, j < i → s' 82 j = s 82 j) ∧ (∀ j, j < lts X E m q → s' 82 (i + j) = nI (hd X E (q + j) - 97)) ∧ Eqm [82] [] s s' := by
  intro m
  induction m with
  | zero => intro i q s hx hi hq; exact ⟨s, rfl, fun _ _ => rfl, fun j hj => absurd hj (Nat.not_lt_zero j), Eqm.rf⟩
  | succ m ih =>
    intro i q s hx hi hq
    unfold lts
    cases h : isL (hd X E q) with
    | true =>
      rw [if_pos (show true = true from rfl)]
      have hb := of_decide_eq_true h
      have qq : Eqm [82] [] s (up s 82 i (nI (hd X E q - 97))) := Eqm.rf.pu (by simp) (by decide)
      obtain ⟨s2, e2, i2, j2, q2⟩ := ih (i + 1) (q + 1) (up s 82 i (nI (hd X E q - 97))) (MC_q hx qq (by decide) (by decide)) (by omega) (isL_lt h)
      have u1 : up (mcu s q none) 82 i (nI (hd X E q - 97)) = mcu (up s 82 i (nI (hd X E q - 97))) q none := mcu_up (by decide)
      refine ⟨s2, ?_, fun j hj => ?_, fun j hj => ?_, qq.tr q2⟩
      · rw [show i + (lts X E m (q + 1) + 1) = i + 1 + lts X E m (q + 1) by omega, show q + (lts X E m (q + 1) + 1) = q + 1 + lts X E m (q + 1) by omega, ← e2, E246_2, m_fine, bnd_some, decide_eq_true rfl, if_neg (show ¬ bI true = 0 by decide +kernel), m_here hx hq, bnd_some]
        have e3 : ev (d + 1) 228 0 [.inl (hB (hd X E q)), .inl 97, .inl 106] [] (mcu s q none) = some (0, bI true, mcu s q none) := by
          have := m_isL (d := d + 1) (p := q) (s' := mcu s q none) hx
          rw [h] at this
          exact this
        rw [e3, bnd_some, if_neg (show ¬ bI true = 0 by decide +kernel), if_pos (show ¬ nI i = 8 from fun z => absurd ((nI_eq (by omega) (by omega)).mp (show nI i = nI 8 from z)) (by omega)), m_here hx hq, bnd_some, hB_Ln h]
        simp (disch := omega) only [u1, mcu_22, mcu_p, lit, nI_add, pk_mul, n_sub, n_addneg, nle_t, nle_f, nlt_t, nlt_f, neq_t, neq_f, n_inb, n_ix, bnd_some, if_true, if_false, ite_tt, ite_ff, not_true_eq_false, not_false_eq_true, eq_self, false_or, or_false, true_or, or_true]
      · rw [i2 j (by omega), up_out (by omega)]
      · cases j with
        | zero =>
          rw [Nat.add_zero, Nat.add_zero, i2 i (by omega), up_in]
        | succ j =>
          have := j2 j (by omega)
          rw [show i + (j + 1) = i + 1 + j by omega, show q + (j + 1) = q + 1 + j by omega]
          exact this
    | false =>
      rw [if_neg (show ¬ (false = true) by simp)]
      exact ⟨s, rfl, fun _ _ => rfl, fun j hj => absurd hj (Nat.not_lt_zero j), Eqm.rf⟩
/-- behind the letters: no more, or one too many -/
theorem m_wordE (hx : MC X E k s) (hp : p ≤ E) (hE : E ≤ 80) (hn : n ≤ 8) (h : isL (hd X E p) = true → n = 8) : ev (d + 1 + 1) 246 2 [.inr 67, .inl (nI v), .inl (nI n), .inr 0, .inr 0] [] (mcu s p none) = ev (d + 1 + 1) 246 69 [.inr 67, .inl (nI v), .inl (nI n), .inr 0, .inr 0] [] (mcu s p (if isL (hd X E p) = true then some p else none)) := by
  have e3 : ev (d + 1) 228 0 [.inl (hB (hd X E p)), .inl 97, .inl 106] [] (mcu s p none) = some (0, bI (isL (hd X E p)), mcu s p none) := m_isL hx
  rw [E246_2, m_fine, bnd_some, decide_eq_true rfl, if_neg (show ¬ bI true = 0 by decide +kernel), m_here hx hp, bnd_some, e3, bnd_some]
  cases hL : isL (hd X E p) with
  | false => rw [if_pos (show bI false = 0 from rfl), if_neg (show ¬ (false = true) by simp)]
  | true =>
    rw [h hL, if_neg (show ¬ bI true = 0 by decide +kernel), if_neg (show ¬ ¬ nI 8 = 8 from not_not_intro rfl), mcu_22, m_fault (by omega), bnd_some, fl_none, if_pos (show true = true from rfl), E246_2, m_fine, bnd_some, decide_eq_false (by simp), if_pos (show bI false = 0 from rfl)]
theorem lts_S (h : isL (hd X E p) = true) : lts X E 8 p = lts X E 7 (p + 1) + 1 := if_pos h
theorem lts_st : ∀ m p, m = lts X E m p ∨ isL (hd X E (p + lts X E m p)) = false := by
  intro m
  induction m with
  | zero => intro p; exact Or.inl rfl
  | succ m ih =>
    intro p
    unfold lts
    cases h : isL (hd X E p) with
    | true =>
      rw [if_pos (show true = true from rfl)]
      rcases ih (p + 1) with e | e
      · exact Or.inl (by omega)
      · right
        rw [show p + (lts X E m (p + 1) + 1) = p + 1 + lts X E m (p + 1) by omega]
        exact e
    | false =>
      right
      rw [if_neg (show ¬ (false = true) by simp)]
      exact h
/-- the word's letters, length and sense are written -/
theorem m_wrW {g : Nat} (hn : n ≤ 8) (hv : v < 12) {sp : Nat → Nat} (hs : ∀ j, j < n → s 82 j = nI (sp j)) : ∃ s', ev (d + 1) 246 212 [.inr 67, .inl (nI v), .inl (nI n), .inl (nI g), .inl (nI 0)] [] s = some (0, nI 1, s') ∧ Eqm [71, 70, 69] [] s s' ∧ s' 70 = upd (s 70) v (nI n) ∧ s' 69 = upd (s 69) v (nI g) ∧ (∀ j, j < 8 * v ∨ 8 * v + n ≤ j → s' 71 j = s 71 j) ∧ ∀ j, j < n → s' 71 (8 * v + j) = nI (sp j) := by
  have key : ∀ i, i ≤ n → ∃ s', ev (d + 1) 246 212 [.inr 67, .inl (nI v), .inl (nI n), .inl (nI g), .inl (nI 0)] [] s = ev (d + 1) 246 212 [.inr 67, .inl (nI v), .inl (nI n), .inl (nI g), .inl (nI i)] [] s' ∧ Eqm [71] [] s s' ∧ (∀ j, j < 8 * v ∨ 8 * v + i ≤ j → s' 71 j = s 71 j) ∧ ∀ j, j < i → s' 71 (8 * v + j) = nI (sp j) := by
    intro i
    induction i with
    | zero => intro _; exact ⟨s, rfl, Eqm.rf, fun _ _ => rfl, fun j hj => absurd hj (Nat.not_lt_zero j)⟩
    | succ i ih =>
      intro hi
      obtain ⟨s1, e1, q1, r1, r2⟩ := ih (by omega)
      have g1 : s1 82 i = nI (sp i) := by rw [q1.1 _ (by decide) (by decide)]; exact hs i (by omega)
      refine ⟨up s1 71 (8 * v + i) (nI (sp i)), ?_, q1.pu (by simp) (by decide), fun j hj => ?_, fun j hj => ?_⟩
      · rw [e1, E246_212]
        simp (disch := omega) only [g1, lit, nI_add, pk_mul, n_sub, n_addneg, nle_t, nle_f, nlt_t, nlt_f, neq_t, neq_f, n_inb, n_ix, bnd_some, if_true, if_false, ite_tt, ite_ff, not_true_eq_false, not_false_eq_true, eq_self, false_or, or_false, true_or, or_true]
      · rw [up_out (by omega)]; exact r1 j (by omega)
      · by_cases z : j = i
        · subst z; rw [up_in]
        · rw [up_out (by omega)]; exact r2 j (by omega)
  obtain ⟨s1, e1, q1, r1, r2⟩ := key n (Nat.le_refl _)
  have a1 : s1 70 = s 70 := q1.1 _ (by decide) (by decide)
  have a2 : s1 69 = s 69 := q1.1 _ (by decide) (by decide)
  refine ⟨up (up s1 70 v (nI n)) 69 v (nI g), ?_, ((q1.mono (by simp) (by simp)).pu (by simp) (by decide)).pu (by simp) (by decide), ?_, ?_, fun j hj => ?_, fun j hj => ?_⟩
  · rw [e1, E246_212]
    simp (disch := omega) only [lit, nI_add, pk_mul, n_sub, n_addneg, nle_t, nle_f, nlt_t, nlt_f, neq_t, neq_f, n_inb, n_ix, bnd_some, if_true, if_false, ite_tt, ite_ff, not_true_eq_false, not_false_eq_true, eq_self, false_or, or_false, true_or, or_true]
  · rw [up_ne (by decide)]
    show setA s1 70 _ 70 = _
    rw [setA_at, a1]
  · show setA (up s1 70 v (nI n)) 69 _ 69 = _
    rw [setA_at, up_ne (by decide), a2]
  · rw [up_ne (by decide), up_ne (by decide)]; exact r1 j hj
  · rw [up_ne (by decide), up_ne (by decide)]; exact r2 j hj
end MTO
