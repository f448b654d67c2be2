/-! STATES PUT ASIDE -/
theorem tNC {j : Nat} (h : j < 2147483648) : (nI j).toNatClampNeg = j := n_ix h
theorem cpA_n {s : mS} {a b sp dp n : Nat} (h1 : sp < 2147483648) (h2 : dp < 2147483648) (h3 : n < 2147483648) : cpA s a (nI sp) b (nI dp) (nI n) = setA s b (fun k => if dp ≤ k ∧ k < dp + n then s a (sp + (k - dp)) else s b k) := by
  unfold cpA
  rw [tNC h1, tNC h2, tNC h3]
  rfl
theorem cp_ok {a b n na nb : Nat} (h1 : a + n ≤ na) (h2 : b + n ≤ nb) (h3 : na < 2147483648) (h4 : nb < 2147483648) : (¬ nI a < nI 0 ∧ ¬ nI b < nI 0 ∧ ¬ nI n < nI 0 ∧ (nI a).toNatClampNeg + (nI n).toNatClampNeg ≤ na ∧ (nI b).toNatClampNeg + (nI n).toNatClampNeg ≤ nb) := by
  rw [tNC (by omega), tNC (by omega), tNC (by omega)]
  refine ⟨?_, ?_, ?_, h1, h2⟩
  · rw [nlt_f (Nat.zero_le _) (by omega)]; exact not_false
  · rw [nlt_f (Nat.zero_le _) (by omega)]; exact not_false
  · rw [nlt_f (Nat.zero_le _) (by omega)]; exact not_false
section XSV
variable {d i q : Nat} {s : mS}
theorem x_copy : ∃ c', ev d 90 0 [.inr 40, .inr 36] [] s = some (0, 0, setA s 41 c') ∧ ∀ j, j < 124 → c' j = s 37 j := by
  refine ⟨fun k => if 0 ≤ k ∧ k < 0 + 124 then s 37 (0 + (k - 0)) else s 41 k, ?_, ?_⟩
  · have e : cpA s 37 0 41 0 124 = setA s 41 (fun k => if 0 ≤ k ∧ k < 0 + 124 then s 37 (0 + (k - 0)) else s 41 k) := cpA_n (sp := 0) (dp := 0) (n := 124) (by omega) (by omega) (by omega)
    rw [E90_0, e]
    exact if_pos (by decide +kernel)
  · intro j hj
    show (if 0 ≤ j ∧ j < 0 + 124 then s 37 (0 + (j - 0)) else _) = _
    rw [if_pos ⟨Nat.zero_le _, by omega⟩]
    congr 1
    omega
/-- how many states a store of them holds -/
def qM (q : Nat) : Nat := if q = 45 then 12 else 2
theorem qM_sh (hq : q = 45 ∨ q = 46) : (mSh q).2 = qM q * 124 := by
  rcases hq with rfl | rfl <;> decide +kernel
theorem qM_le (hq : q = 45 ∨ q = 46) : qM q ≤ 12 := by
  unfold qM; split <;> omega
theorem x_save (hq : q = 45 ∨ q = 46) (hi : i < qM q) : ∃ c', ev d 91 0 [.inr 36, .inr q, .inl (nI i)] [] s = some (0, 0, setA s q c') ∧ (∀ j, j < 124 → c' (i * 124 + j) = s 37 j) ∧ ∀ i' j, i' ≠ i → j < 124 → c' (i' * 124 + j) = s q (i' * 124 + j) := by
  have hm := qM_le hq
  refine ⟨fun k => if i * 124 ≤ k ∧ k < i * 124 + 124 then s 37 (0 + (k - i * 124)) else s q k, ?_, ?_, ?_⟩
  · rw [E91_0 (hk1 := hq), qM_sh hq]
    simp only [lit, pk_mul]
    rw [if_pos (cp_ok (by omega) (by omega) (by omega) (by omega)), cpA_n (by omega) (by omega) (by omega)]
  · intro j hj
    show (if i * 124 ≤ i * 124 + j ∧ i * 124 + j < i * 124 + 124 then s 37 (0 + (i * 124 + j - i * 124)) else _) = _
    rw [if_pos ⟨by omega, by omega⟩]
    congr 1
    omega
  · intro i' j hne hj
    exact if_neg (c := i * 124 ≤ i' * 124 + j ∧ i' * 124 + j < i * 124 + 124) (t := s 37 (0 + (i' * 124 + j - i * 124))) (by omega)
theorem x_load (hq : q = 45 ∨ q = 46) (hi : i < qM q) : ∃ c', ev d 92 0 [.inr 36, .inr q, .inl (nI i)] [] s = some (0, 0, setA s 37 c') ∧ ∀ j, j < 124 → c' j = s q (i * 124 + j) := by
  have hm := qM_le hq
  refine ⟨fun k => if 0 ≤ k ∧ k < 0 + 124 then s q (i * 124 + (k - 0)) else s 37 k, ?_, ?_⟩
  · rw [E92_0 (hk1 := hq), qM_sh hq]
    simp only [lit, pk_mul]
    rw [if_pos (cp_ok (by omega) (by omega) (by omega) (by omega)), cpA_n (by omega) (by omega) (by omega)]
  · intro j hj
    show (if 0 ≤ j ∧ j < 0 + 124 then s q (i * 124 + (j - 0)) else _) = _
    rw [if_pos ⟨Nat.zero_le _, by omega⟩]
    congr 1
end XSV
