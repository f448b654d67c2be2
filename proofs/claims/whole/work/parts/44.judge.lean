/-! CALLS: judge -/
def jv (a k : Int32) : Int32 := ((a.toUInt32 >>> ((10 * k).toUInt32 &&& Int32.toUInt32 31)).toInt32) &&& 1023
theorem jv_d (a k : Int32) : jv a k = ((a.toUInt32 >>> ((10 * k).toUInt32 &&& Int32.toUInt32 31)).toInt32) &&& 1023 := rfl
def jF (a k : Int32) : Int32 := jv a k / 100
def jT (a k : Int32) : Int32 := jv a k / 10 - jv a k / 10 / 10 * 10
def jL (a k : Int32) : Int32 := jv a k - jv a k / 10 * 10
theorem jF_d (a k : Int32) : jF a k = jv a k / 100 := rfl
theorem jT_d (a k : Int32) : jT a k = jv a k / 10 - jv a k / 10 / 10 * 10 := rfl
theorem jL_d (a k : Int32) : jL a k = jv a k - jv a k / 10 * 10 := rfl
/-- lendings as told: which was wrong, and the state then -/
def judS (T : aT) (a : Int32) (k : Nat) (r : Option Nat × aS) : Option Nat × aS := match r.1 with
  | some _ => r
  | none => if rfs T r.2 (jF a (nI k)) (jT a (nI k)) (jL a (nI k)) < nI 0 then (some k, r.2) else (none, lendW r.2 (ix (jF a (nI k))) (ix (jT a (nI k))) (ix (jL a (nI k))))
def judN (T : aT) (S : aS) (a : Int32) (n : Nat) : Option Nat × aS := itr (judS T a) n (none, S)
theorem judN_s {T : aT} {S : aS} {a : Int32} {n : Nat} : judN T S a (n + 1) = judS T a n (judN T S a n) := rfl
def o_judge (A : aA) (n a : Int32) : aA × Int32 := if inN n 4 = false then (A, -nI 1) else (wW A [nI (bts (isU (gT A) (judN (gT A) (gS A) a (ix n)).2) 8)], match (judN (gT A) (gS A) a (ix n)).1 with
  | some k => nI k
  | none => -nI 2)
section XC9
variable {d B : Nat} {s s' : mS} {T : aT} {S : aS} {A : aA} {f t l a b : Int32}
theorem x_lendOn (ht : tOk T) (hT : XT T s) (ho : sOk T S B) (hc : XC T S (s 41)) :
    if rfs T S f t l < nI 0 then ev (d + 1 + 1 + 1) 224 0 [.inr 1, .inl f, .inl t, .inl l] [] s = some (0, nI 0, s)
    else ∃ c', ev (d + 1 + 1 + 1) 224 0 [.inr 1, .inl f, .inl t, .inl l] [] s = some (0, nI 1, setA s 41 c') ∧ XC T (lendW S (ix f) (ix t) (ix l)) c' ∧ sOk T (lendW S (ix f) (ix t) (ix l)) B := by
  have hk : isK 40 := Or.inr rfl
  have et : mRf 40 1 = 41 := by decide +kernel
  have e0 := x_lending (d := d) (f := f) (t := t) (l := l) ht hT ho hk (by rw [et]; exact hc)
  by_cases h0 : rfs T S f t l < nI 0
  · rw [if_pos h0]
    have h1 : ¬ nI 0 ≤ rfs T S f t l := Int32.not_le.mpr h0
    rw [E224_0, e0, bnd_some]
    simp only [lit]
    exact if_neg h1
  · rw [if_neg h0]
    obtain ⟨f', t', l', rfl, rfl, rfl, hf, htt, hl, hne, g1, g2, e3⟩ := rfs_0 ht.2.1 h0
    rw [n_ix (by omega), n_ix (by omega), n_ix (by omega)]
    obtain ⟨c', e2, i2, o2, -⟩ := x_lendL (d := d) ht hT ho hk (by rw [et]; exact hc) hf htt hne hl g1 g2
    rw [et] at e2
    refine ⟨c', ?_, i2, o2⟩
    rw [E224_0, e0, e3]
    simp (disch := omega) only [e2, lit, nI_add, pk_mul, n_sub, n_addneg, nle_t, nle_f, nlt_t, nlt_f, neq_t, neq_f, n_inb, n_ix, bnd_some, if_true, if_false, ite_tt, ite_ff, not_true_eq_false, not_false_eq_true, eq_self, false_or, or_false, true_or, or_true]
theorem x_judL {m : Nat} (ht : tOk T) (hT : XT T s) (ho : sOk T S B) (hc : XC T S (s 41)) (hm : m ≤ 3) : ∀ n, n ≤ m → ∃ s', (ev (d + 1 + 1 + 1 + 1) 189 28 [.inr 1, .inl (nI m), .inl a, .inl (-nI 2), .inl (nI 0), .inr 0] [] s = match (judN T S a n).1 with
      | some k => ev (d + 1 + 1 + 1 + 1) 189 85 [.inr 1, .inr 0, .inr 0, .inl (nI k), .inr 0, .inr 0] [] s'
      | none => ev (d + 1 + 1 + 1 + 1) 189 28 [.inr 1, .inl (nI m), .inl a, .inl (-nI 2), .inl (nI n), .inr 0] [] s') ∧ XC T (judN T S a n).2 (s' 41) ∧ sOk T (judN T S a n).2 B ∧ Eqx [41] s s' := by
  intro n
  induction n with
  | zero => intro _; exact ⟨s, rfl, hc, ho, Eqx.rf⟩
  | succ n ih =>
    intro hn
    obtain ⟨s1, e1, c1, o1, q1⟩ := ih (by omega)
    rw [judN_s]
    unfold judS
    generalize judN T S a n = r at e1 c1 o1 ⊢
    obtain ⟨r1, S1⟩ := r
    cases r1 with
    | some k => exact ⟨s1, e1, c1, o1, q1⟩
    | none =>
      have e1 : ev (d + 1 + 1 + 1 + 1) 189 28 [.inr 1, .inl (nI m), .inl a, .inl (-nI 2), .inl (nI 0), .inr 0] [] s = ev (d + 1 + 1 + 1 + 1) 189 28 [.inr 1, .inl (nI m), .inl a, .inl (-nI 2), .inl (nI n), .inr 0] [] s1 := e1
      have c1 : XC T S1 (s1 41) := c1
      have o1 : sOk T S1 B := o1
      have g := x_lendOn (d := d) (f := jF a (nI n)) (t := jT a (nI n)) (l := jL a (nI n)) ht (XT_q hT q1 (by decide)) o1 c1
      have hneg : (nI 0 ≤ -nI 2) = False := eq_false (by decide +kernel)
      dsimp only
      by_cases h0 : rfs T S1 (jF a (nI n)) (jT a (nI n)) (jL a (nI n)) < nI 0
      · rw [if_pos h0] at g ⊢
        refine ⟨s1, ?_, c1, o1, q1⟩
        show _ = ev (d + 1 + 1 + 1 + 1) 189 85 [.inr 1, .inr 0, .inr 0, .inl (nI n), .inr 0, .inr 0] [] s1
        rw [e1, E189_28]
        simp only [← jv_d]
        simp only [← jF_d, ← jT_d, ← jL_d]
        simp (disch := omega) only [hneg, g, lit, nI_add, pk_mul, n_sub, n_addneg, nle_t, nle_f, nlt_t, nlt_f, neq_t, neq_f, n_inb, n_ix, bnd_some, if_true, if_false, ite_tt, ite_ff, not_true_eq_false, not_false_eq_true, eq_self, false_or, or_false, true_or, or_true]
        rw [E189_79, E189_28]
        simp (disch := omega) only [lit, nI_add, pk_mul, n_sub, n_addneg, nle_t, nle_f, nlt_t, nlt_f, neq_t, neq_f, n_inb, n_ix, bnd_some, if_true, if_false, ite_tt, ite_ff, not_true_eq_false, not_false_eq_true, eq_self, false_or, or_false, true_or, or_true]
        split <;> rfl
      · rw [if_neg h0] at g ⊢
        obtain ⟨c', e2, i2, o2⟩ := g
        refine ⟨setA s1 41 c', ?_, by rw [setA_at]; exact i2, o2, q1.set (by simp)⟩
        show _ = ev (d + 1 + 1 + 1 + 1) 189 28 [.inr 1, .inl (nI m), .inl a, .inl (-nI 2), .inl (nI (n + 1)), .inr 0] [] (setA s1 41 c')
        rw [e1, E189_28]
        simp only [← jv_d]
        simp only [← jF_d, ← jT_d, ← jL_d]
        simp (disch := omega) only [hneg, e2, lit, nI_add, pk_mul, n_sub, n_addneg, nle_t, nle_f, nlt_t, nlt_f, neq_t, neq_f, n_inb, n_ix, bnd_some, if_true, if_false, ite_tt, ite_ff, not_true_eq_false, not_false_eq_true, eq_self, false_or, or_false, true_or, or_true]
        rw [E189_79]
        simp (disch := omega) only [lit, nI_add, pk_mul, n_sub, n_addneg, nle_t, nle_f, nlt_t, nlt_f, neq_t, neq_f, n_inb, n_ix, bnd_some, if_true, if_false, ite_tt, ite_ff, not_true_eq_false, not_false_eq_true, eq_self, false_or, or_false, true_or, or_true]
end XC9
