/-! KEPT UNDER A NUMBER -/
theorem bts_ins {f g : Nat → Bool} {n i : Nat} (hi : i < n) (hg : ∀ j, j < n → g j = (f j || decide (j = i))) : bts f n ||| 2 ^ i = bts g n := by
  apply Nat.eq_of_testBit_eq
  intro j
  rw [Nat.testBit_or, bts_bit, bts_bit, Nat.testBit_two_pow]
  by_cases hj : j < n
  · rw [hg j hj]
    have e : decide (i = j) = decide (j = i) := by
      by_cases h : i = j
      · simp [h]
      · have h' : ¬ j = i := fun z => h z.symm
        simp [h, h']
    rw [e]
    simp [hj]
  · have : ¬ i = j := fun z => hj (by omega)
    simp [hj, this]
theorem inN_2 {a : Int32} {n : Nat} (hn : n < 2147483648) (h : inN a n = false) : a < nI 0 ∨ (¬ a < nI 0 ∧ nI n ≤ a) := by
  unfold inN at h
  have h := of_decide_eq_false h
  by_cases h1 : a < nI 0
  · exact Or.inl h1
  · by_cases h2 : nI n ≤ a
    · exact Or.inr ⟨h1, h2⟩
    · exact absurd ⟨h1, h2⟩ h
section XKP
variable {d i : Nat} {s s' : mS} {T : aT} {S : aS} {K : Nat → Option aS} {a : Int32}
def kpU (K : Nat → Option aS) (i : Nat) (S : aS) : Nat → Option aS := fun j => if j = i then some S else K j
theorem x_store0 (h : inN a 2 = false) : ev (d + 1) 33 0 [.inr 44, .inl a, .inr 36] [] s = some (0, nI 0, s) := by
  rw [E33_0]
  simp only [lit, E33_9]
  rcases inN_2 (by omega) h with h1 | ⟨h1, h2⟩
  · rw [if_pos h1]
  · have h3 : ¬ a < nI 2 := fun z => by
      have := Int32.not_le.mpr z
      exact this h2
    rw [if_neg h1, if_neg h3]
theorem x_store (h : XK T K s) (hi : i < 2) (hc : XC T S (s 37)) : ∃ s', ev (d + 1) 33 0 [.inr 44, .inl (nI i), .inr 36] [] s = some (0, nI 1, s') ∧ XK T (kpU K i S) s' ∧ Eqx [44, 46] s s' ∧ s' 44 1 = s 44 1 ∧ s' 44 2 = s 44 2 := by
  obtain ⟨h1, h2⟩ := h
  have h1 : s 44 4 = nI (bts (fun i => (K i).isSome) 2) := h1
  obtain ⟨c', e1, i1, i2⟩ := x_save (d := d) (s := s) (q := 46) (i := i) (Or.inr rfl) (by exact hi)
  have g1 : setA s 46 c' 44 4 = nI (bts (fun i => (K i).isSome) 2) := by rw [setA_ne (by decide)]; exact h1
  have hb := bts_ins (f := fun j => (K j).isSome) (g := fun j => (kpU K i S j).isSome) hi (fun j _ => by
    unfold kpU
    by_cases hj : j = i
    · simp [hj]
    · simp [hj])
  refine ⟨up (setA s 46 c') 44 4 (nI (bts (fun j => (kpU K i S j).isSome) 2)), ?_, ⟨?_, ?_⟩, (Eqx.rf.set (by simp)).up (by simp), ?_, ?_⟩
  · rw [E33_0]
    simp (disch := omega) only [e1, g1, n_pow, n_or, hb, lit, nI_add, pk_mul, n_sub, n_addneg, nle_t, nle_f, nlt_t, nlt_f, neq_t, neq_f, n_inb, n_ix, bnd_some, if_true, if_false, ite_tt, ite_ff, not_true_eq_false, not_false_eq_true, eq_self, false_or, or_false, true_or, or_true]
  · show up _ 44 4 _ 44 4 = _
    rw [up_in]
  · intro j U hj hU
    rw [up_ne (by decide), setA_at]
    by_cases hji : j = i
    · subst hji
      have : some S = some U := by unfold kpU at hU; rw [if_pos rfl] at hU; exact hU
      cases this
      exact XC_congr hc (fun k hk => i1 k hk)
    · have : K j = some U := by unfold kpU at hU; rw [if_neg hji] at hU; exact hU
      exact XC_congr (h2 j U hj this) (fun k hk => i2 _ k hji hk)
  · rw [up_out (by decide), setA_ne (by decide)]
  · rw [up_out (by decide), setA_ne (by decide)]
theorem x_restore0 (h : inN a 2 = false) : ev (d + 1) 34 0 [.inr 44, .inl a, .inr 36] [] s = some (0, nI 0, s) := by
  rw [E34_0]
  simp only [lit, E34_20]
  rcases inN_2 (by omega) h with h1 | ⟨h1, h2⟩
  · rw [if_pos h1]
  · rw [if_neg h1, if_pos h2]
theorem x_restore1 (h : XK T K s) (hi : i < 2) (hK : K i = none) : ev (d + 1) 34 0 [.inr 44, .inl (nI i), .inr 36] [] s = some (0, nI 0, s) := by
  have h1 : s 44 4 = nI (bts (fun i => (K i).isSome) 2) := h.1
  have hlt := bts_lt8 (fun i => (K i).isSome) (n := 2) (by omega)
  have hp : (bts (fun i => (K i).isSome) 2).testBit i = false := by rw [bts_bit, hK]; simp
  rw [E34_0, h1]
  simp (disch := omega) only [x_has, hp, bI_f, E34_20, lit, nI_add, pk_mul, n_sub, n_addneg, nle_t, nle_f, nlt_t, nlt_f, neq_t, neq_f, n_inb, n_ix, bnd_some, if_true, if_false, ite_tt, ite_ff, not_true_eq_false, not_false_eq_true, eq_self, false_or, or_false, true_or, or_true]
theorem x_restore {U : aS} (h : XK T K s) (hi : i < 2) (hK : K i = some U) : ∃ s', ev (d + 1) 34 0 [.inr 44, .inl (nI i), .inr 36] [] s = some (0, nI 1, s') ∧ XC T U (s' 37) ∧ Eqx [44, 37] s s' ∧ s' 44 1 = s 44 1 ∧ s' 44 2 = nI 0 ∧ s' 44 4 = s 44 4 := by
  have h1 : s 44 4 = nI (bts (fun i => (K i).isSome) 2) := h.1
  have hlt := bts_lt8 (fun i => (K i).isSome) (n := 2) (by omega)
  have hp : (bts (fun i => (K i).isSome) 2).testBit i = true := by rw [bts_bit, hK]; simp [hi]
  obtain ⟨c', e1, i1⟩ := x_load (d := d) (s := s) (q := 46) (i := i) (Or.inr rfl) (by exact hi)
  refine ⟨up (setA s 37 c') 44 2 (nI 0), ?_, ?_, (Eqx.rf.set (by simp)).up (by simp), ?_, ?_, ?_⟩
  · rw [E34_0, h1]
    simp (disch := omega) only [x_has, hp, bI_t, e1, lit, nI_add, pk_mul, n_sub, n_addneg, nle_t, nle_f, nlt_t, nlt_f, neq_t, neq_f, n_inb, n_ix, bnd_some, if_true, if_false, ite_tt, ite_ff, not_true_eq_false, not_false_eq_true, eq_self, false_or, or_false, true_or, or_true]
  · rw [up_ne (by decide), setA_at]
    exact XC_congr (h.2 i U hi hK) (fun j hj => i1 j hj)
  · rw [up_out (by decide), setA_ne (by decide)]
  · rw [up_in]
  · rw [up_out (by decide), setA_ne (by decide)]
end XKP
