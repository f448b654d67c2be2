/-! STEPS AND KEPT STATES -/
theorem n_div {a d : Nat} (ha : a < 2147483648) (h0 : 0 < d) (hd : d < 2147483648) : nI a / nI d = nI (a / d) := pk_div (by omega) h0 (by omega)
theorem n_mod {a d : Nat} : a - a / d * d = a % d := by
  have := Nat.div_add_mod a d
  rw [Nat.mul_comm] at this
  omega
section XPA
variable {d B i : Nat} {s s' : mS} {T : aT} {S : aS} {L : List aS} {K : Nat → Option aS}
theorem x_push (h : XU T L s) (hl : L.length ≤ 12) (hc : XC T S (s 37)) : ∃ s', ev (d + 1) 30 0 [.inr 44, .inr 36] [] s = some (0, 0, s') ∧ XU T ((S :: L).take 12) s' ∧ Eqx [44, 45] s s' ∧ s' 44 4 = s 44 4 := by
  obtain ⟨nx, hn, h1, h2, h3⟩ := h
  have h1 : s 44 1 = nI nx := h1
  have h2 : s 44 2 = nI L.length := h2
  obtain ⟨c', e1, i1, i2⟩ := x_save (d := d) (s := s) (q := 45) (i := nx) (Or.inl rfl) (by exact hn)
  have g1 : setA s 45 c' 44 1 = nI nx := by rw [setA_ne (by decide)]; exact h1
  have g2 : ∀ v, up (setA s 45 c') 44 1 v 44 2 = nI L.length := fun v => by rw [up_out (by decide), setA_ne (by decide)]; exact h2
  refine ⟨up (up (setA s 45 c') 44 1 (nI ((nx + 1) % 12))) 44 2 (nI (min (L.length + 1) 12)), ?_, ⟨(nx + 1) % 12, by omega, ?_, ?_, ?_⟩, ((Eqx.rf.set (by simp)).up (by simp)).up (by simp), ?_⟩
  · have hdm := n_mod (a := nx + 1) (d := 12)
    rw [E30_0, h1, e1]
    simp (disch := omega) only [g1, n_div, hdm, g2, mmin_n, lit, nI_add, pk_mul, n_sub, n_addneg, nle_t, nle_f, nlt_t, nlt_f, neq_t, neq_f, n_inb, n_ix, bnd_some, if_true, if_false, ite_tt, ite_ff, not_true_eq_false, not_false_eq_true, eq_self, false_or, or_false, true_or, or_true]
  · show up _ 44 2 _ 44 1 = _
    rw [up_out (by decide), up_in]
  · show up _ 44 2 _ 44 2 = _
    rw [up_in, List.length_take, List.length_cons, Nat.min_comm]
  · intro j U hj
    have hs : ∀ v v', up (up (setA s 45 c') 44 1 v) 44 2 v' 45 = c' := fun v v' => by rw [up_ne (by decide), up_ne (by decide), setA_at]
    rw [hs]
    have hj12 : j < 12 := by
      have := (List.getElem?_eq_some_iff.mp hj).1
      rw [List.length_take] at this
      omega
    rw [List.getElem?_take, if_pos hj12] at hj
    cases j with
    | zero =>
      have hj : some S = some U := hj
      cases hj
      have e : ((nx + 1) % 12 + 11 - 0) % 12 = nx := by omega
      rw [e]
      exact XC_congr hc (fun j hj => i1 j hj)
    | succ j =>
      have hj : L[j]? = some U := hj
      have e : ((nx + 1) % 12 + 11 - (j + 1)) % 12 = (nx + 11 - j) % 12 := by omega
      rw [e]
      exact XC_congr (h3 j U hj) (fun k hk => i2 _ k (by omega) hk)
  · show up _ 44 2 _ 44 4 = _
    rw [up_out (by decide), up_out (by decide), setA_ne (by decide)]
theorem x_pastPop0 (h : XU T [] s) : ev (d + 1) 31 0 [.inr 44, .inr 36] [] s = some (0, nI 0, s) := by
  obtain ⟨nx, hn, h1, h2, h3⟩ := h
  have h2 : s 44 2 = nI 0 := h2
  rw [E31_0, h2]
  simp (disch := omega) only [lit, nI_add, pk_mul, n_sub, n_addneg, nle_t, nle_f, nlt_t, nlt_f, neq_t, neq_f, n_inb, n_ix, bnd_some, if_true, if_false, ite_tt, ite_ff, not_true_eq_false, not_false_eq_true, eq_self, false_or, or_false, true_or, or_true]
theorem x_pastPop {U : aS} (h : XU T (U :: L) s) (hl : L.length < 12) : ∃ s', ev (d + 1) 31 0 [.inr 44, .inr 36] [] s = some (0, nI 1, s') ∧ XU T L s' ∧ XC T U (s' 37) ∧ Eqx [44, 37] s s' ∧ s' 44 4 = s 44 4 := by
  obtain ⟨nx, hn, h1, h2, h3⟩ := h
  have h1 : s 44 1 = nI nx := h1
  have h2 : s 44 2 = nI (L.length + 1) := h2
  have hm12 : (nx + 11) % 12 < 12 := by omega
  have g1 : ∀ v, up s 44 2 v 44 1 = nI nx := fun v => by rw [up_out (by decide)]; exact h1
  obtain ⟨c', e1, i1⟩ := x_load (d := d) (s := up (up s 44 2 (nI L.length)) 44 1 (nI ((nx + 11) % 12))) (q := 45) (i := (nx + 11) % 12) (Or.inl rfl) (by exact hm12)
  refine ⟨setA (up (up s 44 2 (nI L.length)) 44 1 (nI ((nx + 11) % 12))) 37 c', ?_, ⟨(nx + 11) % 12, hm12, ?_, ?_, ?_⟩, ?_, ((Eqx.rf.up (by simp)).up (by simp)).set (by simp), ?_⟩
  · have hdm := n_mod (a := nx + 11) (d := 12)
    have ea : nx + 12 - 1 = nx + 11 := by omega
    rw [E31_0, h2]
    simp (disch := omega) only [g1, ea, n_div, hdm, Nat.add_sub_cancel, up_in, e1, lit, nI_add, pk_mul, n_sub, n_addneg, nle_t, nle_f, nlt_t, nlt_f, neq_t, neq_f, n_inb, n_ix, bnd_some, if_true, if_false, ite_tt, ite_ff, not_true_eq_false, not_false_eq_true, eq_self, false_or, or_false, true_or, or_true]
  · show setA _ _ _ 44 1 = _
    rw [setA_ne (by decide), up_in]
  · show setA _ _ _ 44 2 = _
    rw [setA_ne (by decide), up_out (by decide), up_in]
  · intro j V hj
    rw [setA_ne (by decide), up_ne (by decide), up_ne (by decide)]
    have hj12 : j < 11 := by
      have := (List.getElem?_eq_some_iff.mp hj).1
      omega
    have e : ((nx + 11) % 12 + 11 - j) % 12 = (nx + 11 - (j + 1)) % 12 := by omega
    rw [e]
    exact h3 (j + 1) V hj
  · rw [setA_at]
    have e : (nx + 11 - 0) % 12 = (nx + 11) % 12 := by omega
    have := h3 0 U rfl
    rw [e] at this
    exact XC_congr this (fun j hj => by rw [i1 j hj, up_ne (by decide), up_ne (by decide)])
  · show setA _ _ _ 44 4 = _
    rw [setA_ne (by decide), up_out (by decide), up_out (by decide)]
theorem x_psize (h : XU T L s) : ev d 29 0 [.inr 44] [] s = some (0, nI L.length, s) := by
  obtain ⟨nx, hn, h1, h2, h3⟩ := h
  have h2 : s 44 2 = nI L.length := h2
  rw [E29_0, h2]
theorem x_forgetAll : ev d 32 0 [.inr 44] [] s = some (0, 0, up (up s 44 2 0) 44 4 0) := E32_0
theorem XU_nil (h : XU T L s) (h1 : s' 44 1 = s 44 1) (h2 : s' 44 2 = nI 0) : XU T [] s' := by
  obtain ⟨nx, hn, g1, -, -⟩ := h
  exact ⟨nx, hn, h1.trans g1, h2, fun i U hi => absurd hi (by simp)⟩
theorem XK_nil (h : s' 44 4 = nI 0) : XK T (fun _ => none) s' := ⟨h, fun i U _ hi => absurd hi (by simp)⟩
end XPA
