/-! THE MODEL: laying aside, bringing back, remembering -/
section MD5
variable {d B B' l w v x y n k o a b i : Nat} {s s' s1 s2 s'' : mS} {T : aT} {S S' : aS} {A : aA} {p q r : Int32} {L : List aS}
theorem m_lay (hk : k = 84 ∨ k = 86 ∨ k = 94) (hz : o + 115 ≤ (mSh k).2) : ∃ s', ev d 267 0 [.inr 67, .inr k, .inl (nI o), .inr 0, .inr 0] [] s = some (0, nI 0, s') ∧ (∀ a, a ≠ k → s' a = s a) ∧ (∀ j, j < o ∨ o + 115 ≤ j → s' k j = s k j) ∧ (∀ w, w < 8 → s' k (o + 3 * w) = s 75 w ∧ s' k (o + (3 * w + 1)) = s 77 w ∧ s' k (o + (3 * w + 2)) = s 78 w) ∧ (∀ i, i < 80 → s' k (o + (24 + i)) = s 76 i) ∧ (∀ l, l < 10 → s' k (o + (104 + l)) = s 68 l) ∧ s' k (o + 114) = s 67 13 := by
  have hb : (mSh k).2 < 2147483648 := by rcases hk with rfl | rfl | rfl <;> decide
  have n75 : 75 ≠ k := by rcases hk with rfl | rfl | rfl <;> decide
  have n77 : 77 ≠ k := by rcases hk with rfl | rfl | rfl <;> decide
  have n78 : 78 ≠ k := by rcases hk with rfl | rfl | rfl <;> decide
  have n76 : 76 ≠ k := by rcases hk with rfl | rfl | rfl <;> decide
  have n68 : 68 ≠ k := by rcases hk with rfl | rfl | rfl <;> decide
  have n67 : 67 ≠ k := by rcases hk with rfl | rfl | rfl <;> decide
  have f77 : ∀ (t : mS) (i : Nat) (v : Int32), up t k i v 77 = t 77 := fun _ _ _ => up_ne n77
  have f78 : ∀ (t : mS) (i : Nat) (v : Int32), up t k i v 78 = t 78 := fun _ _ _ => up_ne n78
  have key1 : ∀ n, n ≤ 8 → ∃ s', ev d 267 5 [.inr 67, .inr k, .inr 0, .inl (nI o), .inl (nI 0)] [] s = ev d 267 5 [.inr 67, .inr k, .inr 0, .inl (nI (o + 3 * n)), .inl (nI n)] [] s' ∧ (∀ a, a ≠ k → s' a = s a) ∧ (∀ j, j < o ∨ o + 3 * n ≤ j → s' k j = s k j) ∧ (∀ w, w < n → s' k (o + 3 * w) = s 75 w ∧ s' k (o + (3 * w + 1)) = s 77 w ∧ s' k (o + (3 * w + 2)) = s 78 w) := by
    intro n
    induction n with
    | zero => intro _; exact ⟨s, rfl, fun _ _ => rfl, fun _ _ => rfl, fun w hw => absurd hw (Nat.not_lt_zero _)⟩
    | succ n ih =>
      intro hn
      obtain ⟨s1, e1, r1, r2, r3⟩ := ih (by omega)
      refine ⟨up (up (up s1 k (o + 3 * n) (s 75 n)) k (o + 3 * n + 1) (s 77 n)) k (o + 3 * n + 1 + 1) (s 78 n), ?_, fun a ha => ?_, fun j hj => ?_, fun w hw => ?_⟩
      · have g1 := r1 _ n75
        have g2 := r1 _ n77
        have g3 := r1 _ n78
        rw [e1, E267_5 hk]
        simp (disch := omega) only [f77, f78, g1, g2, g3, lit, nI_add, pk_mul, n_sub, n_addneg, nle_t, nle_f, nlt_t, nlt_f, neq_t, neq_f, n_inb, n_ix, bnd_some, if_true, if_false, ite_tt, ite_ff, not_true_eq_false, not_false_eq_true, eq_self, false_or, or_false, true_or, or_true]
        rw [show o + 3 * (n + 1) = o + 3 * n + 1 + 1 + 1 by omega]
      · rw [up_ne ha, up_ne ha, up_ne ha]; exact r1 a ha
      · rw [up_out (by omega), up_out (by omega), up_out (by omega)]; exact r2 j (by omega)
      · by_cases hz : w = n
        · subst hz
          refine ⟨?_, ?_, ?_⟩
          · rw [up_out (by omega), up_out (by omega), up_in]
          · rw [up_out (by omega), show o + (3 * w + 1) = o + 3 * w + 1 by omega, up_in]
          · rw [show o + (3 * w + 2) = o + 3 * w + 1 + 1 by omega, up_in]
        · have := r3 w (by omega)
          refine ⟨?_, ?_, ?_⟩
          · rw [up_out (by omega), up_out (by omega), up_out (by omega)]; exact this.1
          · rw [up_out (by omega), up_out (by omega), up_out (by omega)]; exact this.2.1
          · rw [up_out (by omega), up_out (by omega), up_out (by omega)]; exact this.2.2
  obtain ⟨s1, e1, r1, r2, r3⟩ := key1 8 (Nat.le_refl _)
  have key2 : ∀ n, n ≤ 80 → ∃ s', ev d 267 60 [.inr 67, .inr k, .inr 0, .inl (nI (o + 24)), .inl (nI 0)] [] s1 = ev d 267 60 [.inr 67, .inr k, .inr 0, .inl (nI (o + (24 + n))), .inl (nI n)] [] s' ∧ (∀ a, a ≠ k → s' a = s1 a) ∧ (∀ j, j < o + 24 ∨ o + (24 + n) ≤ j → s' k j = s1 k j) ∧ (∀ i, i < n → s' k (o + (24 + i)) = s 76 i) := by
    intro n
    induction n with
    | zero => intro _; exact ⟨s1, rfl, fun _ _ => rfl, fun _ _ => rfl, fun w hw => absurd hw (Nat.not_lt_zero _)⟩
    | succ n ih =>
      intro hn
      obtain ⟨s2, e2, u1, u2, u3⟩ := ih (by omega)
      refine ⟨up s2 k (o + (24 + n)) (s 76 n), ?_, fun a ha => ?_, fun j hj => ?_, fun i hi => ?_⟩
      · have g1 := (u1 _ n76).trans (r1 _ n76)
        rw [e2, E267_60 hk]
        simp (disch := omega) only [g1, lit, nI_add, pk_mul, n_sub, n_addneg, nle_t, nle_f, nlt_t, nlt_f, neq_t, neq_f, n_inb, n_ix, bnd_some, if_true, if_false, ite_tt, ite_ff, not_true_eq_false, not_false_eq_true, eq_self, false_or, or_false, true_or, or_true]
        rfl
      · rw [up_ne ha]; exact u1 a ha
      · rw [up_out (by omega)]; exact u2 j (by omega)
      · by_cases hz : i = n
        · subst hz; rw [up_in]
        · rw [up_out (by omega)]; exact u3 i (by omega)
  obtain ⟨s2, e2, u1, u2, u3⟩ := key2 80 (Nat.le_refl _)
  have key3 : ∀ n, n ≤ 10 → ∃ s', ev d 267 89 [.inr 67, .inr k, .inr 0, .inl (nI (o + 104)), .inl (nI 0)] [] s2 = ev d 267 89 [.inr 67, .inr k, .inr 0, .inl (nI (o + (104 + n))), .inl (nI n)] [] s' ∧ (∀ a, a ≠ k → s' a = s2 a) ∧ (∀ j, j < o + 104 ∨ o + (104 + n) ≤ j → s' k j = s2 k j) ∧ (∀ i, i < n → s' k (o + (104 + i)) = s 68 i) := by
    intro n
    induction n with
    | zero => intro _; exact ⟨s2, rfl, fun _ _ => rfl, fun _ _ => rfl, fun w hw => absurd hw (Nat.not_lt_zero _)⟩
    | succ n ih =>
      intro hn
      obtain ⟨s3, e3, v1, v2, v3⟩ := ih (by omega)
      refine ⟨up s3 k (o + (104 + n)) (s 68 n), ?_, fun a ha => ?_, fun j hj => ?_, fun i hi => ?_⟩
      · have g1 := (v1 _ n68).trans ((u1 _ n68).trans (r1 _ n68))
        rw [e3, E267_89 hk]
        simp (disch := omega) only [g1, lit, nI_add, pk_mul, n_sub, n_addneg, nle_t, nle_f, nlt_t, nlt_f, neq_t, neq_f, n_inb, n_ix, bnd_some, if_true, if_false, ite_tt, ite_ff, not_true_eq_false, not_false_eq_true, eq_self, false_or, or_false, true_or, or_true]
        rfl
      · rw [up_ne ha]; exact v1 a ha
      · rw [up_out (by omega)]; exact v2 j (by omega)
      · by_cases hz : i = n
        · subst hz; rw [up_in]
        · rw [up_out (by omega)]; exact v3 i (by omega)
  obtain ⟨s3, e3, v1, v2, v3⟩ := key3 10 (Nat.le_refl _)
  have g1 := (v1 _ n67).trans ((u1 _ n67).trans (r1 _ n67))
  refine ⟨up s3 k (o + 114) (s 67 13), ?_, fun a ha => ?_, fun j hj => ?_, fun w hw => ?_, fun i hi => ?_, fun l hl => ?_, up_in⟩
  · rw [E267_0 hk]
    simp only [lit]
    rw [e1, E267_5 hk]
    have st2 : ev d 267 60 [.inr 67, .inr k, .inr 0, .inl (nI (o + 3 * 8)), .inl (nI 0)] [] s1 = ev d 267 60 [.inr 67, .inr k, .inr 0, .inl (nI (o + (24 + 80))), .inl (nI 80)] [] s2 := e2
    simp (disch := omega) only [lit, nI_add, pk_mul, n_sub, n_addneg, nle_t, nle_f, nlt_t, nlt_f, neq_t, neq_f, n_inb, n_ix, bnd_some, if_true, if_false, ite_tt, ite_ff, not_true_eq_false, not_false_eq_true, eq_self, false_or, or_false, true_or, or_true]
    rw [st2, E267_60 hk]
    have st3 : ev d 267 89 [.inr 67, .inr k, .inr 0, .inl (nI (o + (24 + 80))), .inl (nI 0)] [] s2 = ev d 267 89 [.inr 67, .inr k, .inr 0, .inl (nI (o + (104 + 10))), .inl (nI 10)] [] s3 := e3
    simp (disch := omega) only [lit, nI_add, pk_mul, n_sub, n_addneg, nle_t, nle_f, nlt_t, nlt_f, neq_t, neq_f, n_inb, n_ix, bnd_some, if_true, if_false, ite_tt, ite_ff, not_true_eq_false, not_false_eq_true, eq_self, false_or, or_false, true_or, or_true]
    rw [st3, E267_89 hk]
    simp (disch := omega) only [g1, lit, nI_add, pk_mul, n_sub, n_addneg, nle_t, nle_f, nlt_t, nlt_f, neq_t, neq_f, n_inb, n_ix, bnd_some, if_true, if_false, ite_tt, ite_ff, not_true_eq_false, not_false_eq_true, eq_self, false_or, or_false, true_or, or_true]
  · rw [up_ne ha]; exact (v1 a ha).trans ((u1 a ha).trans (r1 a ha))
  · rw [up_out (by omega)]; exact (v2 j (by omega)).trans ((u2 j (by omega)).trans (r2 j (by omega)))
  · rw [up_out (by omega), up_out (by omega), up_out (by omega), v2 _ (by omega), v2 _ (by omega), v2 _ (by omega), u2 _ (by omega), u2 _ (by omega), u2 _ (by omega)]
    exact r3 w hw
  · rw [up_out (by omega), v2 _ (by omega)]; exact u3 i hi
  · rw [up_out (by omega)]; exact v3 l hl
theorem m_back (hk : k = 84 ∨ k = 86 ∨ k = 94) (hz : o + 115 ≤ (mSh k).2) : ∃ s', ev d 268 0 [.inr 67, .inr k, .inl (nI o), .inr 0, .inr 0] [] s = some (0, nI 0, s') ∧ Eqm [68, 75, 76, 77, 78] [13] s s' ∧ (∀ w, w < 8 → s' 75 w = s k (o + 3 * w) ∧ s' 77 w = s k (o + (3 * w + 1)) ∧ s' 78 w = s k (o + (3 * w + 2))) ∧ (∀ i, i < 80 → s' 76 i = s k (o + (24 + i))) ∧ (∀ l, l < 10 → s' 68 l = s k (o + (104 + l))) ∧ s' 67 13 = s k (o + 114) := by
  have hb : (mSh k).2 < 2147483648 := by rcases hk with rfl | rfl | rfl <;> decide
  have hP : k ∉ [68, 75, 76, 77, 78] := by rcases hk with rfl | rfl | rfl <;> decide
  have n67 : k ≠ 67 := by rcases hk with rfl | rfl | rfl <;> decide
  have f75 : ∀ (t : mS) (i : Nat) (v : Int32), up t 75 i v k = t k := fun _ _ _ => up_ne (fun z => hP (by rw [z]; decide))
  have f77 : ∀ (t : mS) (i : Nat) (v : Int32), up t 77 i v k = t k := fun _ _ _ => up_ne (fun z => hP (by rw [z]; decide))
  have key1 : ∀ n, n ≤ 8 → ∃ s', ev d 268 5 [.inr 67, .inr k, .inr 0, .inl (nI o), .inl (nI 0)] [] s = ev d 268 5 [.inr 67, .inr k, .inr 0, .inl (nI (o + 3 * n)), .inl (nI n)] [] s' ∧ Eqm [75, 77, 78] [] s s' ∧ (∀ w, w < n → s' 75 w = s k (o + 3 * w) ∧ s' 77 w = s k (o + (3 * w + 1)) ∧ s' 78 w = s k (o + (3 * w + 2))) := by
    intro n
    induction n with
    | zero => intro _; exact ⟨s, rfl, Eqm.rf, fun w hw => absurd hw (Nat.not_lt_zero _)⟩
    | succ n ih =>
      intro hn
      obtain ⟨s1, e1, q1, r3⟩ := ih (by omega)
      refine ⟨up (up (up s1 75 n (s k (o + 3 * n))) 77 n (s k (o + 3 * n + 1))) 78 n (s k (o + 3 * n + 1 + 1)), ?_, ((q1.pu (by simp) (by decide)).pu (by simp) (by decide)).pu (by simp) (by decide), fun w hw => ?_⟩
      · have g1 := q1.1 k (fun z => hP (by revert z; simp; omega)) n67
        rw [e1, E268_5 hk]
        simp (disch := omega) only [f75, f77, g1, lit, nI_add, pk_mul, n_sub, n_addneg, nle_t, nle_f, nlt_t, nlt_f, neq_t, neq_f, n_inb, n_ix, bnd_some, if_true, if_false, ite_tt, ite_ff, not_true_eq_false, not_false_eq_true, eq_self, false_or, or_false, true_or, or_true]
        rw [show o + 3 * (n + 1) = o + 3 * n + 1 + 1 + 1 by omega]
      · by_cases hz : w = n
        · subst hz
          refine ⟨?_, ?_, up_in⟩
          · rw [up_ne (by decide), up_ne (by decide), up_in]
          · rw [up_ne (by decide), up_in]; rfl
        · have := r3 w (by omega)
          refine ⟨?_, ?_, ?_⟩
          · rw [up_ne (by decide), up_ne (by decide), up_out hz]; exact this.1
          · rw [up_ne (by decide), up_out hz, up_ne (by decide)]; exact this.2.1
          · rw [up_out hz, up_ne (by decide), up_ne (by decide)]; exact this.2.2
  obtain ⟨s1, e1, q1, r3⟩ := key1 8 (Nat.le_refl _)
  have c1 : s1 k = s k := q1.1 k (fun z => hP (by revert z; simp; omega)) n67
  have key2 : ∀ n, n ≤ 80 → ∃ s', ev d 268 60 [.inr 67, .inr k, .inr 0, .inl (nI (o + 24)), .inl (nI 0)] [] s1 = ev d 268 60 [.inr 67, .inr k, .inr 0, .inl (nI (o + (24 + n))), .inl (nI n)] [] s' ∧ Eqm [76] [] s1 s' ∧ (∀ i, i < n → s' 76 i = s k (o + (24 + i))) := by
    intro n
    induction n with
    | zero => intro _; exact ⟨s1, rfl, Eqm.rf, fun w hw => absurd hw (Nat.not_lt_zero _)⟩
    | succ n ih =>
      intro hn
      obtain ⟨s2, e2, q2, u3⟩ := ih (by omega)
      refine ⟨up s2 76 n (s k (o + (24 + n))), ?_, q2.pu (by simp) (by decide), fun i hi => ?_⟩
      · have g1 := (q2.1 k (fun z => hP (by revert z; simp; omega)) n67).trans c1
        rw [e2, E268_60 hk]
        simp (disch := omega) only [g1, lit, nI_add, pk_mul, n_sub, n_addneg, nle_t, nle_f, nlt_t, nlt_f, neq_t, neq_f, n_inb, n_ix, bnd_some, if_true, if_false, ite_tt, ite_ff, not_true_eq_false, not_false_eq_true, eq_self, false_or, or_false, true_or, or_true]
        rfl
      · by_cases hz : i = n
        · subst hz; rw [up_in]
        · rw [up_out (by omega)]; exact u3 i (by omega)
  obtain ⟨s2, e2, q2, u3⟩ := key2 80 (Nat.le_refl _)
  have c2 : s2 k = s k := (q2.1 k (fun z => hP (by revert z; simp; omega)) n67).trans c1
  have key3 : ∀ n, n ≤ 10 → ∃ s', ev d 268 89 [.inr 67, .inr k, .inr 0, .inl (nI (o + 104)), .inl (nI 0)] [] s2 = ev d 268 89 [.inr 67, .inr k, .inr 0, .inl (nI (o + (104 + n))), .inl (nI n)] [] s' ∧ Eqm [68] [] s2 s' ∧ (∀ i, i < n → s' 68 i = s k (o + (104 + i))) := by
    intro n
    induction n with
    | zero => intro _; exact ⟨s2, rfl, Eqm.rf, fun w hw => absurd hw (Nat.not_lt_zero _)⟩
    | succ n ih =>
      intro hn
      obtain ⟨s3, e3, q3, v3⟩ := ih (by omega)
      refine ⟨up s3 68 n (s k (o + (104 + n))), ?_, q3.pu (by simp) (by decide), fun i hi => ?_⟩
      · have g1 := (q3.1 k (fun z => hP (by revert z; simp; omega)) n67).trans c2
        rw [e3, E268_89 hk]
        simp (disch := omega) only [g1, lit, nI_add, pk_mul, n_sub, n_addneg, nle_t, nle_f, nlt_t, nlt_f, neq_t, neq_f, n_inb, n_ix, bnd_some, if_true, if_false, ite_tt, ite_ff, not_true_eq_false, not_false_eq_true, eq_self, false_or, or_false, true_or, or_true]
        rfl
      · by_cases hz : i = n
        · subst hz; rw [up_in]
        · rw [up_out (by omega)]; exact v3 i (by omega)
  obtain ⟨s3, e3, q3, v3⟩ := key3 10 (Nat.le_refl _)
  have c3 : s3 k = s k := (q3.1 k (fun z => hP (by revert z; simp; omega)) n67).trans c2
  refine ⟨up s3 67 13 (s k (o + 114)), ?_, (((q1.mono (by decide) (by decide)).tr (q2.mono (by decide) (by decide))).tr (q3.mono (by decide) (by decide))).pf (by simp), fun w hw => ?_, fun i hi => ?_, fun l hl => ?_, up_in⟩
  · rw [E268_0 hk]
    simp only [lit]
    rw [e1, E268_5 hk]
    have st2 : ev d 268 60 [.inr 67, .inr k, .inr 0, .inl (nI (o + 3 * 8)), .inl (nI 0)] [] s1 = ev d 268 60 [.inr 67, .inr k, .inr 0, .inl (nI (o + (24 + 80))), .inl (nI 80)] [] s2 := e2
    simp (disch := omega) only [lit, nI_add, pk_mul, n_sub, n_addneg, nle_t, nle_f, nlt_t, nlt_f, neq_t, neq_f, n_inb, n_ix, bnd_some, if_true, if_false, ite_tt, ite_ff, not_true_eq_false, not_false_eq_true, eq_self, false_or, or_false, true_or, or_true]
    rw [st2, E268_60 hk]
    have st3 : ev d 268 89 [.inr 67, .inr k, .inr 0, .inl (nI (o + (24 + 80))), .inl (nI 0)] [] s2 = ev d 268 89 [.inr 67, .inr k, .inr 0, .inl (nI (o + (104 + 10))), .inl (nI 10)] [] s3 := e3
    simp (disch := omega) only [lit, nI_add, pk_mul, n_sub, n_addneg, nle_t, nle_f, nlt_t, nlt_f, neq_t, neq_f, n_inb, n_ix, bnd_some, if_true, if_false, ite_tt, ite_ff, not_true_eq_false, not_false_eq_true, eq_self, false_or, or_false, true_or, or_true]
    rw [st3, E268_89 hk]
    simp (disch := omega) only [c3, lit, nI_add, pk_mul, n_sub, n_addneg, nle_t, nle_f, nlt_t, nlt_f, neq_t, neq_f, n_inb, n_ix, bnd_some, if_true, if_false, ite_tt, ite_ff, not_true_eq_false, not_false_eq_true, eq_self, false_or, or_false, true_or, or_true]
  · rw [up_ne (by decide), up_ne (by decide), up_ne (by decide), q3.1 _ (by decide) (by decide), q3.1 _ (by decide) (by decide), q3.1 _ (by decide) (by decide), q2.1 _ (by decide) (by decide), q2.1 _ (by decide) (by decide), q2.1 _ (by decide) (by decide)]
    exact r3 w hw
  · rw [up_ne (by decide), q3.1 _ (by decide) (by decide)]; exact u3 i hi
  · rw [up_ne (by decide)]; exact v3 l hl
end MD5
