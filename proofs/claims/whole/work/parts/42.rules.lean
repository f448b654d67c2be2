/-! CALLS: rules -/
def ruV (A : aA) (n : Nat) (i : Nat) : Int32 := nI (wkN (gT A) (if i = 0 then gR A else if i = 1 then (fun e => e (nI 119)) else if i = 2 then (fun e => -(e (nI 109))) else (fun e => e (nI 113))) (gS A) n).2.2
def bstR (v : Nat → Int32) (n : Nat) : Nat := itr (fun i b => if v (i + 1) ≤ v b then b else i + 1) n 0
theorem bstR_s {v : Nat → Int32} {n : Nat} : bstR v (n + 1) = if v (n + 1) ≤ v (bstR v n) then bstR v n else n + 1 := rfl
theorem bstR_le {v : Nat → Int32} {n : Nat} : bstR v n ≤ n := by
  induction n with
  | zero => exact Nat.le_refl _
  | succ n ih => rw [bstR_s]; split <;> omega
def o_rules (A : aA) (n : Int32) : aA × Int32 := if inN n 61 = false then (A, -nI 1) else (wW A [ruV A (ix n) 0, ruV A (ix n) 1, ruV A (ix n) 2, ruV A (ix n) 3], nI (bstR (ruV A (ix n)) 3))
section XC7
variable {d B w m kr i : Nat} {s s' : mS} {T : aT} {S : aS} {A : aA} {φ : aR} {a : Int32} {W : List Int32}
theorem x_rsize (h : XW W s) : ev d 51 0 [.inr 4] [] s = some (0, nI W.length, s) := by
  have h1 : s 4 1 = nI W.length := h.1
  rw [E51_0, h1]
theorem x_rat (h : XW W s) (hl : W.length ≤ 16) (hi : i < W.length) : ev d 52 0 [.inr 4, .inl (nI i)] [] s = some (0, W.getD i 0, s) := by
  have h1 : s 4 1 = nI W.length := h.1
  have h2 := h.2 i hi
  rw [E52_0, h1]
  simp (disch := omega) only [E52_22, h2, lit, nI_add, pk_mul, n_sub, n_addneg, nle_t, nle_f, nlt_t, nlt_f, neq_t, neq_f, n_inb, n_ix, bnd_some, if_true, if_false, ite_tt, ite_ff, not_true_eq_false, not_false_eq_true, eq_self, false_or, or_false, true_or, or_true]
theorem x_worthIf {n : Nat} (ht : tOk T) (hT : XT T s) (ho : sOk T S B) (hB : B + 60 < 2147483000) (hr : isR kr) (hR : XR φ kr s) (hc : XC T S (s 37)) (hn : n ≤ 60) :
    ∃ s', ev (d + 1 + 1 + 1 + 1 + 1) 223 0 [.inr 1, .inr kr, .inl (nI n), .inr 0, .inr 0] [] s = some (0, nI (wkN T φ S n).2.2, s') ∧ Eqx [mRf kr 3, 42, 41] s s' := by
  have hk : isK 40 := Or.inr rfl
  have et : mRf 40 1 = 41 := by decide +kernel
  have dis : kr ∉ [mRf kr 3, 42, 41] ∧ mRf kr 0 ∉ [mRf kr 3, 42, 41] ∧ (∀ a ∈ [mRf kr 3, 42, 41], 15 < a) := by
    rcases hr with rfl | rfl | rfl | rfl <;> decide +kernel
  obtain ⟨c', e1, i1⟩ := x_copy (d := d + 1 + 1 + 1 + 1) (s := s)
  have q1 : Eqx [mRf kr 3, 42, 41] s (setA s 41 c') := Eqx.rf.set (by simp)
  have key : ∀ j, j ≤ n → ∃ s', ev (d + 1 + 1 + 1 + 1 + 1) 223 16 [.inr 1, .inr kr, .inl (nI n), .inl (nI 0), .inl (nI 0)] [] (setA s 41 c') = ev (d + 1 + 1 + 1 + 1 + 1) 223 16 [.inr 1, .inr kr, .inl (nI n), .inl (nI (wkN T φ S j).2.2), .inl (nI j)] [] s' ∧ XC T (wkN T φ S j).1 (s' 41) ∧ sOk T (wkN T φ S j).1 (B + j) ∧ Eqx [mRf kr 3, 42, 41] s s' := by
    intro j
    induction j with
    | zero => intro _; exact ⟨_, rfl, by rw [setA_at]; exact XC_congr hc i1, ho, q1⟩
    | succ j ih =>
      intro hj
      obtain ⟨s1, e2, c2, o2, q2⟩ := ih (by omega)
      obtain ⟨s2, e3, q3, c3, o3⟩ := x_tweek (d := d) ht (XT_eqx hT q2 dis.2.2) o2 (by omega) hr (XR_eq hR (q2 _ dis.1) (q2 _ dis.2.1)) c2
      have e4 := x_worthUp (d := d + 1 + 1 + 1) ht (XT_eqx hT (q2.tr q3) dis.2.2) o3 hk (by rw [et]; exact c3)
      refine ⟨s2, ?_, c3, o3, q2.tr q3⟩
      rw [e2, E223_16 (hk1 := hr)]
      simp (disch := omega) only [e3, e4, lit, nI_add, pk_mul, n_sub, n_addneg, nle_t, nle_f, nlt_t, nlt_f, neq_t, neq_f, n_inb, n_ix, bnd_some, if_true, if_false, ite_tt, ite_ff, not_true_eq_false, not_false_eq_true, eq_self, false_or, or_false, true_or, or_true]
      rfl
  obtain ⟨s', e5, -, -, q5⟩ := key n (Nat.le_refl _)
  refine ⟨s', ?_, q5⟩
  rw [E223_0 (hk1 := hr), e1, bnd_some, lit 0, e5, E223_16 (hk1 := hr)]
  simp (disch := omega) only [lit, nI_add, pk_mul, n_sub, n_addneg, nle_t, nle_f, nlt_t, nlt_f, neq_t, neq_f, n_inb, n_ix, bnd_some, if_true, if_false, ite_tt, ite_ff, not_true_eq_false, not_false_eq_true, eq_self, false_or, or_false, true_or, or_true]
end XC7
