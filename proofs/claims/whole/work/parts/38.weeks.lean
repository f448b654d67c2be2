/-! CALLS: weeks -/
def wkN (T : aT) (φ : aR) (S : aS) (n : Nat) : aS × Nat × Nat := itr (fun _ r => (wkS T φ r.1, r.2.1 + (wkR T φ r.1).2, r.2.2 + wUp T (wkS T φ r.1))) n (S, 0, 0)
theorem wkN_s {T : aT} {φ : aR} {S : aS} {n : Nat} : wkN T φ S (n + 1) = (wkS T φ (wkN T φ S n).1, (wkN T φ S n).2.1 + (wkR T φ (wkN T φ S n).1).2, (wkN T φ S n).2.2 + wUp T (wkS T φ (wkN T φ S n).1)) := rfl
theorem stk_wkN {T : aT} {φ : aR} {S : aS} {n l : Nat} : stk (wkN T φ S n).1 l = stk S l := by
  induction n with
  | zero => rfl
  | succ n ih => rw [wkN_s]; exact stk_wk.trans ih
section XC3
variable {d B : Nat} {s s' : mS} {T : aT} {S : aS} {φ : aR}
theorem x_weeksL {a : Int32} {m : Nat} (ht : tOk T) (hT : XT T s) (ho : sOk T S B) (hB : B + 60 < 2147483000) (hR : XR φ 16 s) (hc : XC T S (s 37)) (hm : m ≤ 60) : ∀ n, n ≤ m → ∃ s', ev (d + 1 + 1 + 1 + 1 + 1) 184 31 [.inr 1, .inl (nI m), .inl (nI 0), .inl (nI 0), .inl (nI 0)] [] s = ev (d + 1 + 1 + 1 + 1 + 1) 184 31 [.inr 1, .inl (nI m), .inl (nI (wkN T φ S n).2.1), .inl (nI (wkN T φ S n).2.2), .inl (nI n)] [] s' ∧ XC T (wkN T φ S n).1 (s' 37) ∧ sOk T (wkN T φ S n).1 (B + n) ∧ Eqx [18, 38, 37] s s' := by
  have hk : isK 36 := Or.inl rfl
  have hr : isR 16 := Or.inl rfl
  have efr : fr 36 16 = [18, 38, 37] := by decide +kernel
  have ec : mRf 36 1 = 37 := by decide +kernel
  have ep : mRf 16 0 = 17 := by decide +kernel
  intro n
  induction n with
  | zero => intro _; exact ⟨s, rfl, hc, ho, Eqx.rf⟩
  | succ n ih =>
    intro hn
    obtain ⟨s1, e1, c1, o1, q1⟩ := ih (by omega)
    obtain ⟨s2, e2, q2, c2, o2⟩ := x_week (d := d) (s := s1) ht (XT_q hT q1 (by decide)) o1 (by omega) hr (XR_eq hR (q1 _ (by decide)) (by rw [ep]; exact q1 _ (by decide))) hk (by rw [ec]; exact c1)
    rw [efr] at q2
    rw [ec] at c2
    refine ⟨s2, ?_, c2, o2, q1.tr q2⟩
    have e3 := x_worthUp (d := d + 1 + 1 + 1) ht (XT_q (XT_q hT q1 (by decide)) q2 (by decide)) o2 hk (by rw [ec]; exact c2)
    rw [e1, E184_31]
    simp (disch := omega) only [e2, e3, lit, nI_add, pk_mul, n_sub, n_addneg, nle_t, nle_f, nlt_t, nlt_f, neq_t, neq_f, n_inb, n_ix, bnd_some, if_true, if_false, ite_tt, ite_ff, not_true_eq_false, not_false_eq_true, eq_self, false_or, or_false, true_or, or_true]
    rfl
end XC3
