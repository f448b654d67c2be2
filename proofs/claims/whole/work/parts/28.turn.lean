/-! TURN BY TURN -/
def fr (k kr : Nat) : List Nat := [mRf kr 3, mRf k 2, mRf k 1]
theorem notD_x {p done : Nat → Bool} {w : Nat} (h : notD p done w = true) : p w = true := by
  unfold notD at h
  cases hp : p w with
  | true => rfl
  | false => rw [hp] at h; exact absurd h (by simp)
theorem bts_z {p : Nat → Bool} {n : Nat} (h : bts p n = 0) : ∀ i, i < n → p i = false := fun i hi => by
  have e := bts_bit p n i
  rw [h, Nat.zero_testBit] at e
  simp only [hi, decide_true, Bool.true_and] at e
  exact e.symm
theorem bts_nz {p : Nat → Bool} {v : Nat → Int32} {n : Nat} (h : bts p n ≠ 0) : fg p v n ≠ none := fun hz => h (by
  apply Nat.eq_of_testBit_eq
  intro i
  rw [bts_bit, Nat.zero_testBit]
  by_cases hi : i < n
  · rw [fg_none.mp hz i hi]; simp
  · simp [hi])
section XTU
variable {d k kr w l B x sz : Nat} {s s' : mS} {T : aT} {S : aS} {φ : aR}
theorem fr_big (hr : isR kr) (hk : isK k) : ∀ a ∈ fr k kr, 15 < a := by
  obtain ⟨-, -, n3, -, -, -, -, n8, -⟩ := kr_dis hr hk
  intro a ha
  simp only [fr, List.mem_cons, List.not_mem_nil, or_false] at ha
  rcases ha with rfl | rfl | rfl
  · exact n3
  · exact n8
  · exact mRf_big hk
theorem fr_kr (hr : isR kr) (hk : isK k) : kr ∉ fr k kr ∧ mRf kr 0 ∉ fr k kr := by
  obtain ⟨n1, n2, n3, n4, n5, n6, n7, n8, n9, n10, n11⟩ := kr_dis hr hk
  constructor
  · intro ha
    simp only [fr, List.mem_cons, List.not_mem_nil, or_false] at ha
    rcases ha with e | e | e
    · exact n4 e
    · exact n6 e.symm
    · exact n9 e.symm
  · intro ha
    simp only [fr, List.mem_cons, List.not_mem_nil, or_false] at ha
    rcases ha with e | e | e
    · exact n2 e.symm
    · exact n5 e.symm
    · exact n10 e.symm
theorem fr_c (hr : isR kr) (hk : isK k) : mRf k 1 ∉ [mRf kr 3, mRf k 2] := by
  obtain ⟨n1, n2, n3, n4, n5, n6, n7, n8, n9, n10, n11⟩ := kr_dis hr hk
  intro ha
  simp only [List.mem_cons, List.not_mem_nil, or_false] at ha
  rcases ha with e | e
  · exact n1 e.symm
  · exact n7 e.symm
theorem x_ranks {p : Nat → Bool} {i c : Nat} {b : Bool} (ht : tOk T) (hT : XT T s) (ho : sOk T S B) (hr : isR kr) (hR : XR φ kr s) (hk : isK k) (hc : XC T S (s (mRf k 1))) (hp : ∀ w, w < 8 → p w = true → ∃ x, sH S w = some x) (hi : i < 8) (hb : s kr 2 = bI b)
    (h0 : i = 0 ∨ b = true ∨ ∀ w, w < 8 → p w = true → s (mRf k 2) w = φ (envT T S w)) :
    ∃ s', ev (d + 1 + 1 + 1) 126 24 [.inr k, .inr kr, .inl (nI (bts p 8)), .inl (nI c), .inl (nI i), .inl (nI 0)] [] s = ev (d + 1 + 1 + 1) 126 24 [.inr k, .inr kr, .inl (nI (bts p 8)), .inl (nI c), .inl (nI i), .inl (nI 8)] [] s' ∧ Eqx [mRf kr 3, mRf k 2] s s' ∧ ∀ w, w < 8 → p w = true → s' (mRf k 2) w = φ (envT T S w) := by
  have hlt := bts_lt8 p (n := 8) (by omega)
  obtain ⟨n1, n2, n3, n4, n5, n6, n7, n8, n9, n10, n11⟩ := kr_dis hr hk
  have L := loopI (fun j s => ev (d + 1 + 1 + 1) 126 24 [.inr k, .inr kr, .inl (nI (bts p 8)), .inl (nI c), .inl (nI i), .inl (nI j)] [] s)
    (fun j s1 => Eqx [mRf kr 3, mRf k 2] s s1 ∧ ∀ w, w < 8 → p w = true → (w < j ∨ ¬ (i = 0 ∨ b = true)) → s1 (mRf k 2) w = φ (envT T S w)) 8
    (fun j s1 hj hI => by
      obtain ⟨q1, v1⟩ := hI
      have hT1 := XT_eqx hT q1 (by
        intro a ha
        simp only [List.mem_cons, List.not_mem_nil, or_false] at ha
        rcases ha with rfl | rfl
        · exact n3
        · exact n8)
      have hc1 : XC T S (s1 (mRf k 1)) := by rw [q1 _ (fr_c hr hk)]; exact hc
      have ek : s1 kr = s kr := q1 _ (by
        intro ha
        simp only [List.mem_cons, List.not_mem_nil, or_false] at ha
        rcases ha with e | e
        · exact n4 e
        · exact n6 e.symm)
      have hR1 : XR φ kr s1 := XR_eq hR ek (q1 _ (by
        intro ha
        simp only [List.mem_cons, List.not_mem_nil, or_false] at ha
        rcases ha with e | e
        · exact n2 e.symm
        · exact n5 e.symm))
      have hb1 : s1 kr 2 = bI b := by rw [ek]; exact hb
      have hpj : (bts p 8).testBit j = p j := by rw [bts_bit]; simp [hj]
      have comp : p j = true → ∃ s2, ev (d + 1 + 1 + 1) 126 52 [.inr k, .inr kr, .inl (nI (bts p 8)), .inl (nI c), .inl (nI i), .inl (nI j)] [] s1 = ev (d + 1 + 1 + 1) 126 24 [.inr k, .inr kr, .inl (nI (bts p 8)), .inl (nI c), .inl (nI i), .inl (nI (j + 1))] [] s2 ∧ (Eqx [mRf kr 3, mRf k 2] s s2 ∧ ∀ w, w < 8 → p w = true → (w < j + 1 ∨ ¬ (i = 0 ∨ b = true)) → s2 (mRf k 2) w = φ (envT T S w)) := by
        intro hpj
        obtain ⟨x, hx⟩ := hp j hj hpj
        obtain ⟨s2, e2, q2⟩ := x_of2 (d := d) ht hT1 ho hr hR1 hk hc1 hj hx
        refine ⟨up s2 (mRf k 2) j (φ (envT T S j)), ?_, (q1.tr (q2.mono (by simp))).up (by simp), fun w hw hpw hwj => ?_⟩
        · rw [E126_52 (hk0 := hk) (hk1 := hr)]
          simp (disch := omega) only [e2, E126_66 (hk0 := hk) (hk1 := hr), lit, nI_add, pk_mul, n_sub, n_addneg, nle_t, nle_f, nlt_t, nlt_f, neq_t, neq_f, n_inb, n_ix, bnd_some, if_true, if_false, ite_tt, ite_ff, not_true_eq_false, not_false_eq_true, eq_self, false_or, or_false, true_or, or_true]
        · by_cases hjw : w = j
          · subst hjw; exact up_in
          · rw [up_out hjw, q2 _ (by simp only [List.mem_cons, List.not_mem_nil, or_false]; exact fun z => n11 z.symm)]
            exact v1 w hw hpw (by rcases hwj with h | h; exact Or.inl (by omega); exact Or.inr h)
      show ∃ a', ev (d + 1 + 1 + 1) 126 24 [.inr k, .inr kr, .inl (nI (bts p 8)), .inl (nI c), .inl (nI i), .inl (nI j)] [] s1 = ev (d + 1 + 1 + 1) 126 24 [.inr k, .inr kr, .inl (nI (bts p 8)), .inl (nI c), .inl (nI i), .inl (nI (j + 1))] [] a' ∧ _
      cases hpb : p j with
      | false =>
        refine ⟨s1, ?_, q1, fun w hw hpw hwj => v1 w hw hpw (by
          rcases hwj with h | h
          · by_cases hjw : w = j
            · subst hjw; rw [hpb] at hpw; cases hpw
            · exact Or.inl (by omega)
          · exact Or.inr h)⟩
        rw [E126_24 (hk0 := hk) (hk1 := hr)]
        simp (disch := omega) only [x_has, hpj, hpb, bI_f, E126_66 (hk0 := hk) (hk1 := hr), lit, nI_add, pk_mul, n_sub, n_addneg, nle_t, nle_f, nlt_t, nlt_f, neq_t, neq_f, n_inb, n_ix, bnd_some, if_true, if_false, ite_tt, ite_ff, not_true_eq_false, not_false_eq_true, eq_self, false_or, or_false, true_or, or_true]
      | true =>
        by_cases hi0 : i = 0
        · obtain ⟨s2, e2, I2⟩ := comp hpb
          refine ⟨s2, ?_, I2⟩
          rw [E126_24 (hk0 := hk) (hk1 := hr), ← e2]
          simp (disch := omega) only [x_has, hpj, hpb, bI_t, hi0, lit, nI_add, pk_mul, n_sub, n_addneg, nle_t, nle_f, nlt_t, nlt_f, neq_t, neq_f, n_inb, n_ix, bnd_some, if_true, if_false, ite_tt, ite_ff, not_true_eq_false, not_false_eq_true, eq_self, false_or, or_false, true_or, or_true]
        · cases hbb : b with
          | true =>
            obtain ⟨s2, e2, I2⟩ := comp hpb
            refine ⟨s2, ?_, by rw [hbb] at I2; exact I2⟩
            rw [E126_24 (hk0 := hk) (hk1 := hr), ← e2]
            simp (disch := omega) only [x_has, hpj, hpb, bI_t, hi0, x_readsLeft hr hb1, hbb, lit, nI_add, pk_mul, n_sub, n_addneg, nle_t, nle_f, nlt_t, nlt_f, neq_t, neq_f, n_inb, n_ix, bnd_some, if_true, if_false, ite_tt, ite_ff, not_true_eq_false, not_false_eq_true, eq_self, false_or, or_false, true_or, or_true]
          | false =>
            refine ⟨s1, ?_, q1, fun w hw hpw hwj => v1 w hw hpw (Or.inr (by rw [hbb]; simp [hi0]))⟩
            rw [E126_24 (hk0 := hk) (hk1 := hr)]
            simp (disch := omega) only [x_has, hpj, hpb, bI_t, hi0, x_readsLeft hr hb1, hbb, bI_f, E126_66 (hk0 := hk) (hk1 := hr), lit, nI_add, pk_mul, n_sub, n_addneg, nle_t, nle_f, nlt_t, nlt_f, neq_t, neq_f, n_inb, n_ix, bnd_some, if_true, if_false, ite_tt, ite_ff, not_true_eq_false, not_false_eq_true, eq_self, false_or, or_false, true_or, or_true]) s ⟨Eqx.rf, fun w hw hpw hwj => by
        rcases hwj with h | h
        · omega
        · rcases h0 with h1 | h1 | h1
          · exact absurd (Or.inl h1) h
          · exact absurd (Or.inr h1) h
          · exact h1 w hw hpw⟩
  obtain ⟨s', e, q, v⟩ := L
  exact ⟨s', e, q, fun w hw hpw => v w hw hpw (Or.inl hw)⟩
end XTU
