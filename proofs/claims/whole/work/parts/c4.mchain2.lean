/-! THE MODEL: chain, the whole -/
/-- the longest rows behind a word, for the sets from n on -/
def XMb (T : aT) (n : Nat) (s : mS) : Prop := ∀ a x, n ≤ a → a < 2 ^ tW T → x < tW T → a.testBit x = true → s 91 (12 * a + x) = nI (mxV T x (cmpS T a) (tW T))
section MUE
variable {d B B' l w v x y n j a b c k i m o g fr : Nat} {s s' s1 s2 : mS} {T : aT} {S : aS} {A : aA} {p : Int32} {W : List Int32}
theorem mxV_le : mxV T x fr n ≤ 12 := by
  rcases (mxV_char (T := T) (x := x) (fr := fr) (n := n)).2 with e | ⟨k, -, -, -, e⟩
  · omega
  · rw [e]; exact lo_le
theorem cmp_or (hk : k < tW T) (h : a.testBit k = false) : cmpS T a &&& (cmpS T a ^^^ 2 ^ k) = cmpS T (a ||| 2 ^ k) := Nat.eq_of_testBit_eq (fun i => by
  rw [del_bit, cmp_bit, cmp_bit, Nat.testBit_or, Nat.testBit_two_pow]
  cases decide (i < tW T) <;> cases a.testBit i <;> cases decide (k = i) <;> rfl)
/-- what stands in the table of a larger set -/
theorem mb_one (hW : tW T ≤ 12) (hk : k < tW T) (h : a.testBit k = false) : 1 + mxV T k (cmpS T (a ||| 2 ^ k)) (tW T) = lo T k (cmpS T a) := by
  rw [lo_rec hW (cmp_lt hW) (by omega) (by rw [cmp_bit, decide_eq_true hk, h]; rfl), cmp_or hk h]
theorem or_lt (ha : a < 2 ^ tW T) (hk : k < tW T) : a ||| 2 ^ k < 2 ^ tW T := Nat.or_lt_two_pow ha (Nat.pow_lt_pow_right (by omega) hk)
theorem or_gt (h : a.testBit k = false) : a < a ||| 2 ^ k := by
  have h1 : a ≤ a ||| 2 ^ k := Nat.left_le_or
  rcases Nat.lt_or_ge a (a ||| 2 ^ k) with z | z
  · exact z
  · exfalso
    have e : a ||| 2 ^ k = a := by omega
    rw [← e, Nat.testBit_or, Nat.testBit_two_pow, decide_eq_true rfl, Bool.or_true] at h
    cases h
/-- one word of a set -/
theorem m_chW (ht : tOk T) (hT : MT T s) (ha : a < 2 ^ tW T) (hx : x < tW T) (hb : XMb T (a + 1) s) {z : Int32} : ∀ n, n ≤ tW T → ev (d + 1) 312 55 [.inr 67, .inl z, .inl (nI a), .inl (nI x), .inl (nI 0), .inl (nI 0), .inr 0] [] s = ev (d + 1) 312 55 [.inr 67, .inl z, .inl (nI a), .inl (nI x), .inl (nI (mxV T x (cmpS T a) n)), .inl (nI n), .inr 0] [] s := by
  have hW := ht.1
  have hP := Nat.pow_le_pow_right (n := 2) (by omega) hW
  intro n
  induction n with
  | zero => intro _; rfl
  | succ n ih =>
    intro hn
    have ev' : mxV T x (cmpS T a) (n + 1) = if (cmpS T a).testBit n = true ∧ (bes T x).testBit n = true then max (mxV T x (cmpS T a) n) (lo T n (cmpS T a)) else mxV T x (cmpS T a) n := rfl
    have hv := mxV_le (T := T) (x := x) (fr := cmpS T a) (n := n)
    rw [ih (by omega), ev']
    generalize mxV T x (cmpS T a) n = V at hv ⊢
    have e1 := m_isIn (d := d) (x := a) (i := n) (s := s) (by omega) (by omega)
    have es := m_steps (d := d) (x := x) (y := n) ht hT hx (by omega)
    have e109 : ∀ v : Nat, ev (d + 1) 312 109 [.inr 67, .inl z, .inl (nI a), .inl (nI x), .inl (nI v), .inl (nI n), .inr 0] [] s = ev (d + 1) 312 55 [.inr 67, .inl z, .inl (nI a), .inl (nI x), .inl (nI v), .inl (nI (n + 1)), .inr 0] [] s := fun v => by
      rw [E312_109]
      simp (disch := omega) only [lit, nI_add, pk_mul, n_sub, n_addneg, nle_t, nle_f, nlt_t, nlt_f, neq_t, neq_f, n_inb, n_ix, bnd_some, if_true, if_false, ite_tt, ite_ff, not_true_eq_false, not_false_eq_true, eq_self, false_or, or_false, true_or, or_true]
    have epow : nI 1 <<< (nI n &&& nI 31) = nI (2 ^ n) := n_pow (by omega)
    rw [cmp_bit, decide_eq_true (show n < tW T by omega), Bool.true_and, bes_bit, decide_eq_true hx, decide_eq_true (show n < tW T by omega), Bool.true_and, Bool.true_and]
    cases hin : a.testBit n with
    | true =>
      rw [hin] at e1
      rw [if_neg (fun u => (by cases u.1)), E312_55, hT.1]
      simp (disch := omega) only [e1, bIt0, lit, nI_add, pk_mul, n_sub, n_addneg, nle_t, nle_f, nlt_t, nlt_f, neq_t, neq_f, n_inb, n_ix, bnd_some, if_true, if_false, ite_tt, ite_ff, not_true_eq_false, not_false_eq_true, eq_self, false_or, or_false, true_or, or_true]
      exact e109 V
    | false =>
      rw [hin] at e1
      cases hst : isSt T x n with
      | false =>
        rw [hst] at es
        rw [if_neg (fun u => (by cases u.2)), E312_55, hT.1]
        simp (disch := omega) only [e1, bIf0, es, lit, nI_add, pk_mul, n_sub, n_addneg, nle_t, nle_f, nlt_t, nlt_f, neq_t, neq_f, n_inb, n_ix, bnd_some, if_true, if_false, ite_tt, ite_ff, not_true_eq_false, not_false_eq_true, eq_self, false_or, or_false, true_or, or_true]
        exact e109 V
      | true =>
        rw [hst] at es
        rw [if_pos ⟨rfl, rfl⟩, E312_55, hT.1]
        have hlt := or_lt ha (show n < tW T by omega)
        have hgt := or_gt hin
        have et := hb (a ||| 2 ^ n) n (by omega) hlt (by omega) (by rw [Nat.testBit_or, Nat.testBit_two_pow, decide_eq_true rfl, Bool.or_true])
        have h1 := mb_one (T := T) (a := a) hW (show n < tW T by omega) hin
        have hl := lo_le (T := T) (w := n) (fr := cmpS T a)
        have hv2 := mxV_le (T := T) (x := n) (fr := cmpS T (a ||| 2 ^ n)) (n := tW T)
        generalize hq : a ||| 2 ^ n = Q at et h1 hv2 hlt
        simp (disch := omega) only [e1, bIf0, es, bIt0, epow, n_or, hq, et, h1, mmax_n, lit, nI_add, pk_mul, n_sub, n_addneg, nle_t, nle_f, nlt_t, nlt_f, neq_t, neq_f, n_inb, n_ix, bnd_some, if_true, if_false, ite_tt, ite_ff, not_true_eq_false, not_false_eq_true, eq_self, false_or, or_false, true_or, or_true]
        exact e109 _
theorem m_chS (ht : tOk T) (hT : MT T s) (ha : a < 2 ^ tW T) (hb : XMb T (a + 1) s) {z : Int32} : ∃ s', ev (d + 1) 312 30 [.inr 67, .inl z, .inl (nI a), .inl (nI 0), .inr 0, .inr 0, .inr 0] [] s = ev (d + 1) 312 30 [.inr 67, .inl z, .inl (nI a), .inl (nI (tW T)), .inr 0, .inr 0, .inr 0] [] s' ∧ XMb T a s' ∧ Eqm [91] [] s s' := by
  have hW := ht.1
  have hP := Nat.pow_le_pow_right (n := 2) (by omega) hW
  have key : ∀ n, n ≤ tW T → ∃ s', ev (d + 1) 312 30 [.inr 67, .inl z, .inl (nI a), .inl (nI 0), .inr 0, .inr 0, .inr 0] [] s = ev (d + 1) 312 30 [.inr 67, .inl z, .inl (nI a), .inl (nI n), .inr 0, .inr 0, .inr 0] [] s' ∧ XMb T (a + 1) s' ∧ (∀ x, x < n → a.testBit x = true → s' 91 (12 * a + x) = nI (mxV T x (cmpS T a) (tW T))) ∧ Eqm [91] [] s s' := by
    intro n
    induction n with
    | zero => intro _; exact ⟨s, rfl, hb, fun x hx => by omega, Eqm.rf⟩
    | succ n ih =>
      intro hn
      obtain ⟨s1, e1, b1, i1, q1⟩ := ih (by omega)
      have hT1 := MT_q hT q1 (by decide) (by decide)
      have ei := m_isIn (d := d) (x := a) (i := n) (s := s1) (by omega) (by omega)
      have e128 : ∀ r, ev (d + 1) 312 128 [.inr 67, .inl z, .inl (nI a), .inl (nI n), .inr 0, .inr 0, .inr 0] [] r = ev (d + 1) 312 30 [.inr 67, .inl z, .inl (nI a), .inl (nI (n + 1)), .inr 0, .inr 0, .inr 0] [] r := fun r => by
        rw [E312_128]
        simp (disch := omega) only [lit, nI_add, pk_mul, n_sub, n_addneg, nle_t, nle_f, nlt_t, nlt_f, neq_t, neq_f, n_inb, n_ix, bnd_some, if_true, if_false, ite_tt, ite_ff, not_true_eq_false, not_false_eq_true, eq_self, false_or, or_false, true_or, or_true]
      cases hin : a.testBit n with
      | false =>
        rw [hin] at ei
        refine ⟨s1, ?_, b1, fun x hx hbx => ?_, q1⟩
        · rw [e1, E312_30, hT1.1]
          simp (disch := omega) only [ei, bIf0, lit, nI_add, pk_mul, n_sub, n_addneg, nle_t, nle_f, nlt_t, nlt_f, neq_t, neq_f, n_inb, n_ix, bnd_some, if_true, if_false, ite_tt, ite_ff, not_true_eq_false, not_false_eq_true, eq_self, false_or, or_false, true_or, or_true]
          exact e128 s1
        · by_cases u : x = n
          · rw [u, hin] at hbx; cases hbx
          · exact i1 x (by omega) hbx
      | true =>
        rw [hin] at ei
        have w1 := m_chW (d := d) (z := z) ht hT1 ha (show n < tW T by omega) b1 (tW T) (Nat.le_refl _)
        refine ⟨up s1 91 (12 * a + n) (nI (mxV T n (cmpS T a) (tW T))), ?_, fun c x h1 h2 h3 h4 => ?_, fun x hx hbx => ?_, q1.pu (by simp) (by decide)⟩
        · rw [e1, E312_30, hT1.1]
          simp (disch := omega) only [ei, bIt0, lit, nI_add, pk_mul, n_sub, n_addneg, nle_t, nle_f, nlt_t, nlt_f, neq_t, neq_f, n_inb, n_ix, bnd_some, if_true, if_false, ite_tt, ite_ff, not_true_eq_false, not_false_eq_true, eq_self, false_or, or_false, true_or, or_true]
          rw [w1, E312_55, hT1.1]
          simp (disch := omega) only [lit, nI_add, pk_mul, n_sub, n_addneg, nle_t, nle_f, nlt_t, nlt_f, neq_t, neq_f, n_inb, n_ix, bnd_some, if_true, if_false, ite_tt, ite_ff, not_true_eq_false, not_false_eq_true, eq_self, false_or, or_false, true_or, or_true]
          exact e128 _
        · rw [up_out (by omega)]; exact b1 c x h1 h2 h3 h4
        · by_cases u : x = n
          · subst u; rw [up_in]
          · rw [up_out (by omega)]; exact i1 x (by omega) hbx
  obtain ⟨s1, e1, b1, i1, q1⟩ := key (tW T) (Nat.le_refl _)
  refine ⟨s1, e1, fun c x h1 h2 h3 h4 => ?_, q1⟩
  by_cases u : c = a
  · subst u; exact i1 x h3 h4
  · exact b1 c x (by omega) h2 h3 h4
/-- the row -/
theorem m_chR (ht : tOk T) (hT : MT T s) (hb : XMb T 1 s) (hg : clo T g) (hgW : ∀ i, g.testBit i = true → i < tW T) {z : Nat} : ∀ k y a fr (r : mS) W, g.testBit y = true → a.testBit y = true → a < 2 ^ tW T → fr < 4096 → fr.testBit y = true → (∀ i, g.testBit i = true → (fr &&& (fr ^^^ 2 ^ y)).testBit i = (cmpS T a).testBit i) → (∀ i, fr.testBit i = true → g.testBit i = true) → lo T y fr = k + 1 → Eqm [80] [17] s r → MW W r → W.length + k ≤ 16 → ∃ r', ev (d + 1) 312 177 [.inr 67, .inr 0, .inl (nI a), .inl (nI y), .inl (nI z), .inl (nI k), .inr 0] [] r = some (0, nI z, r') ∧ MW (W ++ chR T k y fr) r' ∧ Eqm [80] [17] s r' := by
  have hW := ht.1
  have hP := Nat.pow_le_pow_right (n := 2) (by omega) hW
  intro k
  induction k with
  | zero =>
    intro y a fr r W gy ay ha hfr fy hbits hfg hlo hq hw hl
    refine ⟨r, ?_, by rw [show chR T 0 y fr = [] from rfl, List.append_nil]; exact hw, hq⟩
    rw [E312_177]
    simp (disch := omega) only [lit, nI_add, pk_mul, n_sub, n_addneg, nle_t, nle_f, nlt_t, nlt_f, neq_t, neq_f, n_inb, n_ix, bnd_some, if_true, if_false, ite_tt, ite_ff, not_true_eq_false, not_false_eq_true, eq_self, false_or, or_false, true_or, or_true]
  | succ k ih =>
    intro y a fr r W gy ay ha hfr fy hbits hfg hlo hq hw hl
    have hyW := hgW y gy
    have hTr := MT_q hT hq (by decide) (by decide)
    unfold chR
    obtain ⟨F, hF⟩ : ∃ F, F = fr &&& (fr ^^^ 2 ^ y) := ⟨_, rfl⟩
    have hFle : F ≤ fr := by rw [hF]; exact Nat.and_le_left
    rw [← hF] at hbits ⊢
    have hFg : ∀ i, F.testBit i = true → g.testBit i = true := fun i hi => hfg i (by rw [hF, del_bit, Bool.and_eq_true] at hi; exact hi.1)
    -- the words that can be next
    have eqlo : ∀ i, g.testBit i = true → lo T i (cmpS T a) = lo T i F := fun i gi => lo_g hg (cmp_lt hW) (by omega) gi (fun j gj => (hbits j gj).symm)
    have hrec := lo_rec (T := T) (fr := fr) (w := y) hW hfr (by omega) fy
    rw [← hF] at hrec
    have hM : mxV T y F (tW T) = k + 1 := by omega
    obtain ⟨q, q1, q2, q3, q4⟩ := ((mxV_char (T := T) (x := y) (fr := F) (n := tW T)).2).resolve_left (by omega)
    rw [hM] at q4
    obtain ⟨N, hN⟩ : ∃ N, N = lnx T (bes T y &&& F) F (k + 1) := ⟨_, rfl⟩
    have hsel : N < 12 ∧ (bes T y).testBit N = true ∧ F.testBit N = true ∧ lo T N F = k + 1 ∧ ∀ i, i < N → ¬ ((bes T y).testBit i = true ∧ F.testBit i = true ∧ lo T i F = k + 1) := by
      unfold lnx at hN
      cases hf : fnd (fun w => (bes T y &&& F).testBit w && decide (lo T w F = k + 1)) 12 with
      | none =>
        exfalso
        have := fnd_no hf q (by omega)
        rw [Nat.testBit_and, q3, q2, decide_eq_true q4.symm] at this
        cases this
      | some v =>
        rw [hf] at hN
        have hN : N = v := hN
        subst hN
        obtain ⟨v1, v2, v3⟩ := fnd_ok hf
        rw [Nat.testBit_and, Bool.and_eq_true, Bool.and_eq_true] at v2
        refine ⟨v1, v2.1.1, v2.1.2, of_decide_eq_true v2.2, fun i hi u => ?_⟩
        have := v3 i hi
        rw [Nat.testBit_and, u.1, u.2.1, decide_eq_true u.2.2] at this
        cases this
    rw [← hN]
    obtain ⟨n1, n2, n3, n4, n5⟩ := hsel
    have gN := hFg N n3
    have hNW := hgW N gN
    have aN : a.testBit N = false := by
      have := hbits N gN
      rw [n3, cmp_bit, decide_eq_true hNW, Bool.true_and] at this
      cases hz : a.testBit N with
      | false => rfl
      | true => rw [hz] at this; cases this
    have tab : ∀ i, i < tW T → a.testBit i = false → r 91 (12 * (a ||| 2 ^ i) + i) = nI (lo T i (cmpS T a) - 1) ∧ a ||| 2 ^ i < 4096 ∧ 1 ≤ lo T i (cmpS T a) ∧ lo T i (cmpS T a) ≤ 12 := fun i hi hz => by
      have hlt := or_lt ha hi
      have hgt := or_gt hz
      have h1 := mb_one (T := T) hW hi hz
      have h2 := hb (a ||| 2 ^ i) i (by omega) hlt hi (by rw [Nat.testBit_or, Nat.testBit_two_pow, decide_eq_true rfl, Bool.or_true])
      refine ⟨?_, by omega, by omega, lo_le⟩
      rw [hq.1 _ (by decide) (by decide), h2]
      exact congrArg nI (by omega)
    have pass : ∀ n, n ≤ N → ev (d + 1) 312 185 [.inr 67, .inr 0, .inl (nI a), .inl (nI y), .inl (nI z), .inl (nI (k + 1)), .inl (nI 0)] [] r = ev (d + 1) 312 185 [.inr 67, .inr 0, .inl (nI a), .inl (nI y), .inl (nI z), .inl (nI (k + 1)), .inl (nI n)] [] r := by
      intro n
      induction n with
      | zero => intro _; rfl
      | succ n ihn =>
        intro hn
        have e228 : ev (d + 1) 312 228 [.inr 67, .inr 0, .inl (nI a), .inl (nI y), .inl (nI z), .inl (nI (k + 1)), .inl (nI n)] [] r = ev (d + 1) 312 185 [.inr 67, .inr 0, .inl (nI a), .inl (nI y), .inl (nI z), .inl (nI (k + 1)), .inl (nI (n + 1))] [] r := by
          rw [E312_228]
          simp (disch := omega) only [lit, nI_add, pk_mul, n_sub, n_addneg, nle_t, nle_f, nlt_t, nlt_f, neq_t, neq_f, n_inb, n_ix, bnd_some, if_true, if_false, ite_tt, ite_ff, not_true_eq_false, not_false_eq_true, eq_self, false_or, or_false, true_or, or_true]
        have ei := m_isIn (d := d) (x := a) (i := n) (s := r) (by omega) (by omega)
        have es := m_steps (d := d) (x := y) (y := n) ht hTr hyW (by omega)
        have epow : nI 1 <<< (nI n &&& nI 31) = nI (2 ^ n) := n_pow (by omega)
        rw [ihn (by omega), E312_185]
        cases hin : a.testBit n with
        | true =>
          rw [hin] at ei
          simp (disch := omega) only [ei, bIt0, lit, nI_add, pk_mul, n_sub, n_addneg, nle_t, nle_f, nlt_t, nlt_f, neq_t, neq_f, n_inb, n_ix, bnd_some, if_true, if_false, ite_tt, ite_ff, not_true_eq_false, not_false_eq_true, eq_self, false_or, or_false, true_or, or_true]
          exact e228
        | false =>
          rw [hin] at ei
          cases hst : isSt T y n with
          | false =>
            rw [hst] at es
            simp (disch := omega) only [ei, bIf0, es, lit, nI_add, pk_mul, n_sub, n_addneg, nle_t, nle_f, nlt_t, nlt_f, neq_t, neq_f, n_inb, n_ix, bnd_some, if_true, if_false, ite_tt, ite_ff, not_true_eq_false, not_false_eq_true, eq_self, false_or, or_false, true_or, or_true]
            exact e228
          | true =>
            rw [hst] at es
            obtain ⟨t1, t2, t3, t4⟩ := tab n (by omega) hin
            have hbn : (bes T y).testBit n = true := bes_iff.mpr ⟨hyW, by omega, hst⟩
            have gn := subS_iff.mp (hg y gy) n hbn
            have fn : F.testBit n = true := by
              rw [hbits n gn, cmp_bit, decide_eq_true (show n < tW T by omega), hin]; rfl
            have hne : lo T n (cmpS T a) ≠ k + 1 := fun u => n5 n (by omega) ⟨hbn, fn, by rw [← eqlo n gn]; exact u⟩
            generalize hQ : a ||| 2 ^ n = Q at t1 t2
            generalize lo T n (cmpS T a) = V at t1 t3 t4 hne
            have hne2 : ¬ nI (V - 1) = nI (k + 1) - nI 1 := by
              rw [n_sub (by omega)]
              intro u
              have := (nI_eq (by omega) (by omega)).mp u
              omega
            simp (disch := omega) only [ei, bIf0, es, bIt0, epow, n_or, hQ, t1, lit, nI_add, pk_mul, n_sub, n_addneg, nle_t, nle_f, nlt_t, nlt_f, neq_t, neq_f, n_inb, n_ix, bnd_some, if_true, if_false, ite_tt, ite_ff, not_true_eq_false, not_false_eq_true, eq_self, false_or, or_false, true_or, or_true]
            exact e228
    have ei := m_isIn (d := d) (x := a) (i := N) (s := r) (by omega) (by omega)
    rw [aN] at ei
    have es := m_steps (d := d) (x := y) (y := N) ht hTr hyW hNW
    rw [(bes_iff.mp n2).2.2] at es
    have epow : nI 1 <<< (nI N &&& nI 31) = nI (2 ^ N) := n_pow (by omega)
    obtain ⟨t1, t2, t3, t4⟩ := tab N hNW aN
    rw [eqlo N gN, n4] at t1
    obtain ⟨r2, f2, w2, c2⟩ := m_tell (d := d) (p := nI N) hw (by omega)
    obtain ⟨r3, f3, w3, c3⟩ := ih N (a ||| 2 ^ N) F r2 (W ++ [nI N]) gN (by rw [Nat.testBit_or, Nat.testBit_two_pow, decide_eq_true rfl, Bool.or_true]) (or_lt ha hNW) (by omega) n3 (fun i gi => by
      rw [del_bit, hbits i gi, ← cmp_or hNW aN, del_bit]) hFg n4 (hq.tr c2) w2 (by rw [List.length_append]; show W.length + 1 + k ≤ 16; omega)
    rw [List.append_assoc] at w3
    refine ⟨r3, ?_, w3, c3⟩
    have hk12 : k + 1 ≤ 12 := by
      have := lo_le (T := T) (w := N) (fr := F)
      omega
    generalize hQ : a ||| 2 ^ N = Q at t1 t2 f3
    rw [← f3, E312_177]
    simp (disch := omega) only [lit, nI_add, pk_mul, n_sub, n_addneg, nle_t, nle_f, nlt_t, nlt_f, neq_t, neq_f, n_inb, n_ix, bnd_some, if_true, if_false, ite_tt, ite_ff, not_true_eq_false, not_false_eq_true, eq_self, false_or, or_false, true_or, or_true]
    rw [pass N (Nat.le_refl _), E312_185]
    simp (disch := omega) only [ei, bIf0, es, bIt0, epow, n_or, hQ, t1, f2, Nat.add_sub_cancel, lit, nI_add, pk_mul, n_sub, n_addneg, nle_t, nle_f, nlt_t, nlt_f, neq_t, neq_f, n_inb, n_ix, bnd_some, if_true, if_false, ite_tt, ite_ff, not_true_eq_false, not_false_eq_true, eq_self, false_or, or_false, true_or, or_true]
theorem Y_chain (ha : AOk A B) (h : MJ A B' s) : ∃ s', ev (d + 1 + 1) 312 0 [.inr 67, .inl p, .inr 0, .inr 0, .inr 0, .inr 0, .inr 0] [] s = some (0, (o_chain A p).2, s') ∧ MJ (o_chain A p).1 B' s' ∧ gM s s' := by
  obtain ⟨h0, g0⟩ := m_th h
  obtain ⟨s0, hs0⟩ : ∃ s0, s0 = up s 67 18 (nI 0) := ⟨_, rfl⟩
  rw [← hs0] at h0 g0
  have ht := ha.1
  have hT := h0.1
  have hW := ht.1
  have w1 := m_isWord (d := d) (p := p) hT hW
  unfold o_chain
  by_cases hp : inN p (tW (gT A)) = false
  · rw [if_pos hp]
    rw [hp] at w1
    refine ⟨s0, ?_, h0, g0⟩
    rw [E312_0, show up s 67 18 0 = s0 from hs0.symm, w1]
    simp (disch := omega) only [bIf0, lit, nI_add, pk_mul, n_sub, n_addneg, nle_t, nle_f, nlt_t, nlt_f, neq_t, neq_f, n_inb, n_ix, bnd_some, if_true, if_false, ite_tt, ite_ff, not_true_eq_false, not_false_eq_true, eq_self, false_or, or_false, true_or, or_true]
  have hp' : inN p (tW (gT A)) = true := by simpa using hp
  rw [if_neg hp]
  rw [hp'] at w1
  obtain ⟨x, hx, rfl⟩ := inN_t (by omega) hp'
  rw [n_ix (by omega)]
  have hP := Nat.pow_le_pow_right (n := 2) (by omega) hW
  have hP1 := Nat.two_pow_pos (tW (gT A))
  have epow : nI 1 <<< (nI (tW (gT A)) &&& nI 31) = nI (2 ^ tW (gT A)) := n_pow (by omega)
  have epow1 : (1 : Int32) <<< (nI (tW (gT A)) &&& 31) - 1 = nI (2 ^ tW (gT A) - 1) := by
    rw [← n_sub hP1, ← epow]
    rfl
  have key : ∀ j n, n + j = 2 ^ tW (gT A) - 1 → ∃ s1, ev (d + 1 + 1) 312 24 [.inr 67, .inl (nI x), .inl (nI (2 ^ tW (gT A) - 1)), .inr 0, .inr 0, .inr 0, .inr 0] [] s0 = ev (d + 1 + 1) 312 24 [.inr 67, .inl (nI x), .inl (nI n), .inr 0, .inr 0, .inr 0, .inr 0] [] s1 ∧ XMb (gT A) (n + 1) s1 ∧ Eqm [91] [] s0 s1 := by
    intro j
    induction j with
    | zero =>
      intro n hn
      refine ⟨s0, by rw [show 2 ^ tW (gT A) - 1 = n by omega], fun a x h1 h2 => by omega, Eqm.rf⟩
    | succ j ih =>
      intro n hn
      obtain ⟨s1, e1, b1, q1⟩ := ih (n + 1) (by omega)
      have hT1 := MT_q hT q1 (by decide) (by decide)
      obtain ⟨s2, e2, b2, q2⟩ := m_chS (d := d + 1) (z := nI x) ht hT1 (show n + 1 < 2 ^ tW (gT A) by omega) b1
      have hT2 := MT_q hT1 q2 (by decide) (by decide)
      refine ⟨s2, ?_, b2, q1.tr q2⟩
      rw [e1, E312_24]
      simp (disch := omega) only [lit, nI_add, pk_mul, n_sub, n_addneg, nle_t, nle_f, nlt_t, nlt_f, neq_t, neq_f, n_inb, n_ix, bnd_some, if_true, if_false, ite_tt, ite_ff, not_true_eq_false, not_false_eq_true, eq_self, false_or, or_false, true_or, or_true]
      rw [e2, E312_30, hT2.1]
      simp (disch := omega) only [Nat.add_sub_cancel, lit, nI_add, pk_mul, n_sub, n_addneg, nle_t, nle_f, nlt_t, nlt_f, neq_t, neq_f, n_inb, n_ix, bnd_some, if_true, if_false, ite_tt, ite_ff, not_true_eq_false, not_false_eq_true, eq_self, false_or, or_false, true_or, or_true]
  obtain ⟨s1, e1, b1, q1⟩ := key (2 ^ tW (gT A) - 1) 0 (by omega)
  obtain ⟨c1, c2, c3⟩ := grp_ok ht hx
  have hxp : (2 ^ x).testBit x = true := by rw [Nat.testBit_two_pow, decide_eq_true rfl]
  have hxlt : 2 ^ x < 2 ^ tW (gT A) := Nat.pow_lt_pow_right (by omega) hx
  have eX : nI 1 <<< (nI x &&& nI 31) = nI (2 ^ x) := n_pow (by omega)
  have et := b1 (2 ^ x) x (by have := Nat.two_pow_pos x; omega) hxlt hx hxp
  have hg4 := grp_lt (T := gT A) ht (show x < 12 by omega)
  have bitsG : ∀ i, (grp (gT A) x).testBit i = true → (grp (gT A) x &&& (grp (gT A) x ^^^ 2 ^ x)).testBit i = (cmpS (gT A) (2 ^ x)).testBit i := fun i gi => by
    rw [del_bit, gi, cmp_bit, Nat.testBit_two_pow, decide_eq_true (c3 i gi)]
  -- the length
  have hlen : 1 + mxV (gT A) x (cmpS (gT A) (2 ^ x)) (tW (gT A)) = lo (gT A) x (grp (gT A) x) := by
    have e0 : (0 : Nat).testBit x = false := Nat.zero_testBit x
    have h1 := mb_one (T := gT A) (a := 0) hW hx e0
    rw [Nat.zero_or] at h1
    rw [h1]
    exact lo_g c1 (cmp_lt hW) hg4 c2 (fun i gi => by
      rw [cmp_bit, decide_eq_true (c3 i gi), gi, Nat.zero_testBit]; rfl)
  have hv := mxV_le (T := gT A) (x := x) (fr := cmpS (gT A) (2 ^ x)) (n := tW (gT A))
  generalize mxV (gT A) x (cmpS (gT A) (2 ^ x)) (tW (gT A)) = V at et hlen hv
  have e1w := (MT_q hT q1 (by decide) (by decide)).1
  obtain ⟨s2, r2, q2, w2⟩ := m_tell1 (d := d + 1) (s := s1) (p := nI x)
  have hT2 := MT_q (MT_q hT q1 (by decide) (by decide)) q2 (by decide) (by decide)
  have b2 : XMb (gT A) 1 s2 := fun a x h1 h2 h3 h4 => by rw [q2.1 _ (by decide) (by decide)]; exact b1 a x h1 h2 h3 h4
  obtain ⟨s3, e3, w3, q3⟩ := m_chR (d := d + 1) (g := grp (gT A) x) (z := V + 1) ht hT2 b2 c1 c3 V x (2 ^ x) (grp (gT A) x) s2 [nI x] c2 hxp hxlt hg4 c2 bitsG (fun _ h => h) (by omega) Eqm.rf w2 (by show 1 + V ≤ 16; omega)
  have qa : Eqm [91, 80] [17] s0 s3 := ((q1.mono (by simp) (by simp)).tr (q2.mono (by simp) (by simp))).tr (q3.mono (by simp) (by simp))
  rw [← hlen, show 1 + V - 1 = V by omega, show 1 + V = V + 1 by omega]
  refine ⟨s3, ?_, MJ_row h0 qa (by decide) (by decide) w3, g0.tr (qa.g (by decide))⟩
  rw [E312_0, show up s 67 18 0 = s0 from hs0.symm, w1, bnd_some, hT.1, epow1]
  refine (if_pos (show ¬ bI true = 0 by decide +kernel)).trans ?_
  rw [e1, E312_24]
  simp (disch := omega) only [eX, et, r2, lit, nI_add, pk_mul, n_sub, n_addneg, nle_t, nle_f, nlt_t, nlt_f, neq_t, neq_f, n_inb, n_ix, bnd_some, if_true, if_false, ite_tt, ite_ff, not_true_eq_false, not_false_eq_true, eq_self, false_or, or_false, true_or, or_true]
  exact e3
end MUE
