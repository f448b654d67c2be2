/-! CALLS: sheet -/
def asK (k e : Int32) : Int32 := if k = nI 0 then e.toInt8.toInt32 else if k = nI 1 then e.toInt16.toInt32 else e
def shE (f st : Int32) (l : Nat) : Int32 := itr (fun _ e => e + st) l f
theorem shE_s {f st : Int32} {l : Nat} : shE f st (l + 1) = shE f st l + st := rfl
def shV (S : aS) (k n f st : Int32) (l : Nat) : Int32 := mmax (nI (hal S l)) (if (if k = nI 3 then nI 0 else n) ≤ nI l then nI 0 else mmin (nI 20) (asK k (shE f st l)))
def shT (S : aS) (k n f st : Int32) (l : Nat) : Nat := ix (shV S k n f st l)
def o_sheet (A : aA) (k n f st : Int32) : aA × Int32 := if k < nI 0 ∨ nI 3 < k ∨ nI 10 < n then (A, -nI 1) else if ¬ k = nI 3 ∧ n < nI 0 then (A, -nI 2) else (wK (wU (wS A (refS (gS A) (shT (gS A) k n f st))) []) (fun _ => none), if k = nI 3 then -nI 3 else nI (sm (sL (refS (gS A) (shT (gS A) k n f st))) 10))
theorem mmin_20 (x : Int32) : ¬ nI 20 < mmin (nI 20) x := by
  unfold mmin
  split
  · next h => exact Int32.lt_asymm h
  · exact Int32.lt_irrefl
theorem mmax_20 {h : Nat} {v : Int32} (hh : h ≤ 20) (hv : ¬ nI 20 < v) : ∃ m, mmax (nI h) v = nI m ∧ h ≤ m ∧ m ≤ 20 := by
  unfold mmax
  by_cases hz : nI h < v
  · rw [if_pos hz]
    rw [Int32.lt_iff_toInt_lt, toI (by omega)] at hz hv
    obtain ⟨j, hj, rfl⟩ := nI_of (x := v) (by show ¬ v < nI 0; rw [Int32.lt_iff_toInt_lt, toI (by omega)]; omega)
    rw [toI (by omega)] at hz hv
    exact ⟨j, rfl, by omega, by omega⟩
  · rw [if_neg hz]
    exact ⟨h, rfl, Nat.le_refl _, hh⟩
section XCH
variable {d B l : Nat} {s s' : mS} {T : aT} {S : aS} {A : aA} {k n f st : Int32}
theorem shV_n (hh : hal S l ≤ 20) : shV S k n f st l = nI (shT S k n f st l) ∧ hal S l ≤ shT S k n f st l ∧ shT S k n f st l ≤ 20 := by
  obtain ⟨m, e, h1, h2⟩ : ∃ m, shV S k n f st l = nI m ∧ hal S l ≤ m ∧ m ≤ 20 := by
    unfold shV
    refine mmax_20 hh (fun z => ?_)
    by_cases hb : (if k = nI 3 then nI 0 else n) ≤ nI l
    · rw [if_pos hb] at z
      revert z
      decide +kernel
    · rw [if_neg hb] at z
      exact mmin_20 _ z
  unfold shT
  rw [e, n_ix (by omega)]
  exact ⟨rfl, h1, h2⟩
theorem x_asKind {e : Int32} : ev d 221 0 [.inl k, .inl e] [] s = some (0, asK k e, s) := by
  have n10 : ¬ (nI 1 = nI 0) := by decide +kernel
  rw [E221_0]
  unfold asK
  by_cases h0 : k = nI 0
  · simp only [lit, h0, if_true, if_false, not_true_eq_false, not_false_eq_true]
  · by_cases h1 : k = nI 1
    · simp only [lit, h1, n10, E221_18, if_true, if_false, not_true_eq_false, not_false_eq_true]
    · simp only [lit, h0, h1, E221_18, if_true, if_false, not_true_eq_false, not_false_eq_true]
theorem ref_stk (hs : ∀ l, l < 10 → hal S l ≤ shT S k n f st l) (hl : l < 10) : stk (refS S (shT S k n f st)) l = shT S k n f st l := by
  have := hs l hl
  show shT S k n f st l - hal S l + hal S l = shT S k n f st l
  omega
theorem X_sheet (h : XI A B s) : ∃ s', ev (d + 1 + 1 + 1) 179 0 [.inr 1, .inl k, .inl n, .inl f, .inl st, .inr 0, .inr 0, .inr 0, .inr 0, .inr 0] [] s = some (0, (o_sheet A k n f st).2, s') ∧ XI (o_sheet A k n f st).1 B s' ∧ fX s s' := by
  have ha := h.1
  have hc := h.2.1
  unfold o_sheet
  by_cases h1 : k < nI 0
  · rw [if_pos (Or.inl h1)]
    refine ⟨s, ?_, h, fun _ _ => rfl⟩
    rw [E179_0, E179_15]
    simp only [lit, h1, if_true, if_false, not_true_eq_false, not_false_eq_true]
  by_cases h2 : nI 3 < k
  · rw [if_pos (Or.inr (Or.inl h2))]
    refine ⟨s, ?_, h, fun _ _ => rfl⟩
    rw [E179_0, E179_15]
    simp only [lit, h1, h2, if_true, if_false, not_true_eq_false, not_false_eq_true]
  by_cases h3 : nI 10 < n
  · rw [if_pos (Or.inr (Or.inr h3))]
    refine ⟨s, ?_, h, fun _ _ => rfl⟩
    rw [E179_0, E179_15]
    simp only [lit, h1, h2, Int32.not_le.mpr h3, if_true, if_false, not_true_eq_false, not_false_eq_true]
  rw [if_neg (fun z => z.elim h1 (fun z => z.elim h2 h3))]
  by_cases h4 : ¬ k = nI 3 ∧ n < nI 0
  · rw [if_pos h4]
    refine ⟨s, ?_, h, fun _ _ => rfl⟩
    rw [E179_0]
    simp only [lit, h1, h2, Int32.not_lt.mp h3, h4.1, Int32.not_le.mpr h4.2, if_true, if_false, not_true_eq_false, not_false_eq_true]
  rw [if_neg h4]
  have st0 : ev (d + 1 + 1 + 1) 179 0 [.inr 1, .inl k, .inl n, .inl f, .inl st, .inr 0, .inr 0, .inr 0, .inr 0, .inr 0] [] s = ev (d + 1 + 1 + 1) 179 47 [.inr 1, .inl k, .inr 0, .inr 0, .inl st, .inl (if k = nI 3 then nI 0 else n), .inl f, .inl (nI 0), .inr 0, .inr 0] [] s := by
    rw [E179_0]
    by_cases h5 : k = nI 3
    · have h1' : ¬ nI 3 < nI 0 := by decide +kernel
      have h2' : ¬ nI 3 < nI 3 := by decide +kernel
      simp only [lit, h5, h1', h2', Int32.not_lt.mp h3, E179_29, E179_39, if_true, if_false, not_true_eq_false, not_false_eq_true]
    · have h6 : nI 0 ≤ n := Int32.not_lt.mp (fun z => h4 ⟨h5, z⟩)
      simp only [lit, h1, h2, h5, h6, Int32.not_lt.mp h3, E179_29, E179_39, if_true, if_false, not_true_eq_false, not_false_eq_true]
  rw [st0]
  have hst : ∀ l, l < 10 → shV (gS A) k n f st l = nI (shT (gS A) k n f st l) ∧ hal (gS A) l ≤ shT (gS A) k n f st l ∧ shT (gS A) k n f st l ≤ 20 := fun l hl => shV_n (hal_le ha.2.1 hl).1
  have key : ∀ m, m ≤ 10 → ∃ s', ev (d + 1 + 1 + 1) 179 47 [.inr 1, .inl k, .inr 0, .inr 0, .inl st, .inl (if k = nI 3 then nI 0 else n), .inl f, .inl (nI 0), .inr 0, .inr 0] [] s = ev (d + 1 + 1 + 1) 179 47 [.inr 1, .inl k, .inr 0, .inr 0, .inl st, .inl (if k = nI 3 then nI 0 else n), .inl (shE f st m), .inl (nI m), .inr 0, .inr 0] [] s' ∧ (∀ l, l < m → s' 7 l = nI (shT (gS A) k n f st l)) ∧ Eqx [7] s s' := by
    intro m
    induction m with
    | zero => intro _; exact ⟨s, rfl, fun l hl => by omega, Eqx.rf⟩
    | succ m ih =>
      intro hm
      obtain ⟨s1, e1, i1, q1⟩ := ih (by omega)
      have e2 := x_hungInAll (d := d + 1) (s := s1) (S := gS A) (T := gT A) (l := m) (by rw [q1 _ (by decide)]; exact hc) (by omega)
      refine ⟨up s1 7 m (nI (shT (gS A) k n f st m)), ?_, fun l hl => ?_, q1.up (by simp)⟩
      · have hv := (hst m (by omega)).1
        unfold shV at hv
        have e87 : ∀ b0, mmax (nI (hal (gS A) m)) b0 = nI (shT (gS A) k n f st m) → ev (d + 1 + 1 + 1) 179 87 [.inr 1, .inl k, .inr 0, .inr 0, .inl st, .inl (if k = nI 3 then nI 0 else n), .inl (shE f st m), .inl (nI m), .inl (nI (hal (gS A) m)), .inr 0] [.inl b0] s1 = ev (d + 1 + 1 + 1) 179 47 [.inr 1, .inl k, .inr 0, .inr 0, .inl st, .inl (if k = nI 3 then nI 0 else n), .inl (shE f st m + st), .inl (nI (m + 1)), .inr 0, .inr 0] [] (up s1 7 m (nI (shT (gS A) k n f st m))) := fun b0 hb => by
          rw [E179_87, hb, E153_0]
          simp (disch := omega) only [lit, nI_add, pk_mul, n_sub, n_addneg, nle_t, nle_f, nlt_t, nlt_f, neq_t, neq_f, n_inb, n_ix, bnd_some, if_true, if_false, ite_tt, ite_ff, not_true_eq_false, not_false_eq_true, eq_self, false_or, or_false, true_or, or_true]
        rw [e1, E179_47, shE_s]
        simp (disch := omega) only [e2, lit, nI_add, pk_mul, n_sub, n_addneg, nle_t, nle_f, nlt_t, nlt_f, neq_t, neq_f, n_inb, n_ix, bnd_some, if_true, if_false, ite_tt, ite_ff, not_true_eq_false, not_false_eq_true, eq_self, false_or, or_false, true_or, or_true]
        by_cases h6 : (if k = nI 3 then nI 0 else n) ≤ nI m
        · simp only [lit, h6, if_true, if_false, not_true_eq_false, not_false_eq_true]
          rw [if_pos h6] at hv
          exact e87 _ hv
        · simp only [lit, h6, x_asKind, bnd_some, if_true, if_false, not_true_eq_false, not_false_eq_true]
          rw [if_neg h6] at hv
          exact e87 _ hv
      · by_cases hz : l = m
        · subst hz; exact up_in
        · rw [up_out hz]; exact i1 l (by omega)
  obtain ⟨s1, e1, i1, q1⟩ := key 10 (Nat.le_refl _)
  obtain ⟨c', e2, i2⟩ := x_refill (d := d) (s := s1) (T := gT A) (S := gS A) (st := shT (gS A) k n f st) (fun l hl => ⟨i1 l hl, (hst l hl).2.1, (hst l hl).2.2⟩) (by rw [q1 _ (by decide)]; exact hc)
  have q2 : Eqx [7, 37, 44] s (up (up (setA s1 37 c') 44 2 0) 44 4 0) := (((q1.mono (by simp)).set (by simp)).up (by simp)).up (by simp)
  have hsk : ∀ l, l < 10 → stk (refS (gS A) (shT (gS A) k n f st)) l = shT (gS A) k n f st l := fun l hl => ref_stk (fun l hl => (hst l hl).2.1) hl
  have c2 : XC (gT A) (refS (gS A) (shT (gS A) k n f st)) ((up (up (setA s1 37 c') 44 2 0) 44 4 0) 37) := by
    rw [up_ne (by decide), up_ne (by decide), setA_at]; exact i2
  refine ⟨_, ?_, ⟨⟨ha.1, ⟨ha.2.1.1, fun l hl => ?_, ha.2.1.2.2⟩, fun U hU => (by cases hU), fun i U hU => (by cases hU), Nat.zero_le _, ha.2.2.2.2.2⟩, c2, XT_q h.2.2.1 q2 (by decide), fun l hl => ?_, XX_q h.2.2.2.2.1 q2 (by decide) (by decide), XW_q h.2.2.2.2.2.1 q2 (by decide) (by decide), XRs_q h.2.2.2.2.2.2.1 q2 (by decide), ?_, XK_nil (by rw [up_in]; rfl), XN_q h.2.2.2.2.2.2.2.2.2 q2 (by decide)⟩, fX_q q2 (by decide)⟩
  · rw [e1, E179_47]
    have e3 := x_leftInAll (d := d + 1 + 1) (Or.inl rfl : isK 36) c2
    simp only [lit] at e3
    simp (disch := omega) only [e2, x_forgetAll, e3, lit, nI_add, pk_mul, n_sub, n_addneg, nle_t, nle_f, nlt_t, nlt_f, neq_t, neq_f, n_inb, n_ix, bnd_some, if_true, if_false, ite_tt, ite_ff, not_true_eq_false, not_false_eq_true, eq_self, false_or, or_false, true_or, or_true]
    by_cases h5 : k = nI 3
    · simp only [lit, h5, E179_149, if_true, if_false, not_true_eq_false, not_false_eq_true]
    · simp only [lit, h5, E179_149, if_true, if_false, not_true_eq_false, not_false_eq_true]
  · show stk (refS (gS A) (shT (gS A) k n f st)) l ≤ 20
    rw [hsk l hl]
    exact (hst l hl).2.2
  · show _ = nI (stk (refS (gS A) (shT (gS A) k n f st)) l)
    rw [hsk l hl, up_ne (by decide), up_ne (by decide), setA_ne (by decide)]
    exact i1 l hl
  · refine XU_nil h.2.2.2.2.2.2.2.1 ?_ ?_
    · rw [up_out (by decide), up_out (by decide), setA_ne (by decide), q1 _ (by decide)]
    · rw [up_out (by decide), up_in]; rfl
end XCH
