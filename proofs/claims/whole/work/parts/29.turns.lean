/-! ALL TURNS, AND A WEEK -/
theorem nz_t {a : Nat} (h : a = 0) : (nI a = nI 0) = True := neq_t h
section XTV
variable {d k kr w l B x sz : Nat} {s s' : mS} {T : aT} {S : aS} {φ : aR}
theorem isQ_x (ho : sOk T S B) : ∀ w, w < 8 → isQ T S w = true → ∃ x, sH S w = some x := fun w _ h => by
  obtain ⟨x, hx, -⟩ := isQ_lt ho h
  exact ⟨x, hx⟩
theorem isQ_takeW {w' : Nat} (h : w' ≠ w) : isQ T (takeW T S w) w' = isQ T S w' := by
  unfold isQ
  rw [takeW_mis h]
theorem trn_s {n c : Nat} {done : Nat → Bool} : trn T φ (n + 1) done S c = match pickW T φ S done with
    | none => (S, c)
    | some w => trn T φ n (fun j => done j || decide (j = w)) (takeW T S w) (c + if mis T (takeW T S w) w = 0 then 1 else 0) := rfl
theorem x_turns {b : Bool} (ht : tOk T) (hr : isR kr) (hk : isK k) (hφ : b = false → igK φ) : ∀ (n i : Nat), i + n = 8 → ∀ (s : mS) (S : aS) (done : Nat → Bool) (c : Nat), XT T s → sOk T S B → XR φ kr s → XC T S (s (mRf k 1)) → s kr 2 = bI b →
    (i = 0 ∨ b = true ∨ ∀ w, w < 8 → notD (isQ T S) done w = true → s (mRf k 2) w = φ (envT T S w)) →
    ∃ s', ev (d + 1 + 1 + 1) 126 10 [.inr k, .inr kr, .inl (nI (bts (notD (isQ T S) done) 8)), .inl (nI c), .inl (nI i), .inr 0] [] s = some (0, nI (trn T φ n done S c).2, s') ∧ Eqx (fr k kr) s s' ∧ XC T (trn T φ n done S c).1 (s' (mRf k 1)) ∧ sOk T (trn T φ n done S c).1 B := by
  obtain ⟨n1, n2, n3, n4, n5, n6, n7, n8, n9, n10, n11⟩ := kr_dis hr hk
  intro n
  induction n with
  | zero =>
    intro i hi s S done c hT ho hR hc hb h0
    refine ⟨s, ?_, Eqx.rf, hc, ho⟩
    rw [E126_10 (hk0 := hk) (hk1 := hr)]
    simp (disch := omega) only [E126_111, lit, nI_add, pk_mul, n_sub, n_addneg, nle_t, nle_f, nlt_t, nlt_f, neq_t, neq_f, n_inb, n_ix, bnd_some, if_true, if_false, ite_tt, ite_ff, not_true_eq_false, not_false_eq_true, eq_self, false_or, or_false, true_or, or_true]
    rfl
  | succ n ih =>
    intro i hi s S done c hT ho hR hc hb h0
    have hlt := bts_lt8 (notD (isQ T S) done) (n := 8) (by omega)
    have hi8 : i < 8 := by omega
    by_cases hz : bts (notD (isQ T S) done) 8 = 0
    · have hpk : pickW T φ S done = none := fg_none.mpr (bts_z hz)
      rw [trn_s, hpk]
      refine ⟨s, ?_, Eqx.rf, hc, ho⟩
      rw [E126_10 (hk0 := hk) (hk1 := hr)]
      simp (disch := omega) only [hz, E126_111, lit, nI_add, pk_mul, n_sub, n_addneg, nle_t, nle_f, nlt_t, nlt_f, neq_t, neq_f, n_inb, n_ix, bnd_some, if_true, if_false, ite_tt, ite_ff, not_true_eq_false, not_false_eq_true, eq_self, false_or, or_false, true_or, or_true]
    · have hpw : ∀ w, w < 8 → notD (isQ T S) done w = true → ∃ x, sH S w = some x := fun w hw h => isQ_x ho w hw (notD_x h)
      obtain ⟨s1, e1, q1, v1⟩ := x_ranks (d := d) (c := c) ht hT ho hr hR hk hc hpw hi8 hb h0
      have hfg : fg (notD (isQ T S) done) (s1 (mRf k 2)) 8 = pickW T φ S done := fg_cong (fun w hw hp => v1 w hw hp)
      cases hpk : pickW T φ S done with
      | none => exact absurd (hfg.trans hpk) (bts_nz hz)
      | some w =>
        have hw := fg_lt w hpk
        have q1' : Eqx (fr k kr) s s1 := q1.mono (by
          intro a ha
          simp only [fr, List.mem_cons, List.not_mem_nil, or_false] at ha ⊢
          rcases ha with e | e
          · exact Or.inl e
          · exact Or.inr (Or.inl e))
        have hT1 := XT_eqx hT q1' (fr_big hr hk)
        have hc1 : XC T S (s1 (mRf k 1)) := by rw [q1 _ (fr_c hr hk)]; exact hc
        obtain ⟨c', e2, i2, o2⟩ := x_take (d := d) ht hT1 ho hk hc1 hw.1
        have q2 : Eqx (fr k kr) s (setA s1 (mRf k 1) c') := q1'.set (by simp [fr])
        have hfk := fr_kr hr hk
        have hnew : ∀ j, j < 8 → notD (isQ T (takeW T S w)) (fun j => done j || decide (j = w)) j = (notD (isQ T S) done j && !decide (j = w)) := by
          intro j _
          unfold notD
          by_cases hjw : j = w
          · subst hjw; simp
          · rw [isQ_takeW hjw]; simp [hjw]
        obtain ⟨s', e3, q3, i3, o3⟩ := ih (i + 1) (by omega) (setA s1 (mRf k 1) c') (takeW T S w) (fun j => done j || decide (j = w)) (c + if mis T (takeW T S w) w = 0 then 1 else 0)
          (XT_eqx hT q2 (fr_big hr hk)) o2 (XR_eq hR (q2 _ hfk.1) (q2 _ hfk.2)) (by rw [setA_at]; exact i2) (by rw [q2 _ hfk.1]; exact hb)
          (by
            cases hbb : b with
            | true => exact Or.inr (Or.inl rfl)
            | false =>
              refine Or.inr (Or.inr (fun w' hw' hp' => ?_))
              rw [hnew w' hw'] at hp'
              have hne : w' ≠ w := fun z => by rw [z] at hp'; simp at hp'
              have hp0 : notD (isQ T S) done w' = true := by
                cases hh : notD (isQ T S) done w' with
                | true => rfl
                | false => rw [hh] at hp'; simp at hp'
              rw [setA_ne n7, v1 w' hw' hp0, takeW_env hne (hφ hbb)])
        rw [trn_s, hpk]
        refine ⟨s', ?_, q2.tr q3, i3, o3⟩
        show _ = some (0, nI (trn T φ n (fun j => done j || decide (j = w)) (takeW T S w) (c + if mis T (takeW T S w) w = 0 then 1 else 0)).2, s')
        rw [← e3]
        have hfg2 : (fg (notD (isQ T S) done) (s1 (mRf k 2)) 8).getD 0 = w := by rw [hfg, hpk]; rfl
        have hmask := bts_del (f := notD (isQ T S) done) (n := 8) (i := w) hnew
        have hw8 := hw.1
        rw [E126_10 (hk0 := hk) (hk1 := hr)]
        simp (disch := omega) only [e1, lit, nI_add, pk_mul, n_sub, n_addneg, nle_t, nle_f, nlt_t, nlt_f, neq_t, neq_f, n_inb, n_ix, bnd_some, if_true, if_false, ite_tt, ite_ff, not_true_eq_false, not_false_eq_true, eq_self, false_or, or_false, true_or, or_true]
        rw [E126_24 (hk0 := hk) (hk1 := hr)]
        simp (disch := omega) only [x_fg hk, hfg2, e2, n_pow, n_andn, hmask, lit, nI_add, pk_mul, n_sub, n_addneg, nle_t, nle_f, nlt_t, nlt_f, neq_t, neq_f, n_inb, n_ix, bnd_some, if_true, if_false, ite_tt, ite_ff, not_true_eq_false, not_false_eq_true, eq_self, false_or, or_false, true_or, or_true]
        by_cases hm : mis T (takeW T S w) w = 0
        · rw [hm]
          simp (disch := omega) only [E126_103 (hk0 := hk) (hk1 := hr), lit, nI_add, pk_mul, n_sub, n_addneg, nle_t, nle_f, nlt_t, nlt_f, neq_t, neq_f, n_inb, n_ix, bnd_some, if_true, if_false, ite_tt, ite_ff, not_true_eq_false, not_false_eq_true, eq_self, false_or, or_false, true_or, or_true]
        · have hm8 := mis_le (w := w) ht (o2.1 w)
          rw [if_neg hm]
          simp (disch := omega) only [E126_103 (hk0 := hk) (hk1 := hr), lit, nI_add, pk_mul, n_sub, n_addneg, nle_t, nle_f, nlt_t, nlt_f, neq_t, neq_f, n_inb, n_ix, bnd_some, if_true, if_false, ite_tt, ite_ff, not_true_eq_false, not_false_eq_true, eq_self, false_or, or_false, true_or, or_true]
theorem x_takeInTurn (ht : tOk T) (hr : isR kr) (hk : isK k) (hT : XT T s) (ho : sOk T S B) (hR : XR φ kr s) (hc : XC T S (s (mRf k 1))) :
    ∃ s', ev (d + 1 + 1 + 1) 126 0 [.inr k, .inr kr, .inr 0, .inr 0, .inr 0, .inr 0] [] s = some (0, nI (trn T φ 8 (fun _ => false) S 0).2, s') ∧ Eqx (fr k kr) s s' ∧ XC T (trn T φ 8 (fun _ => false) S 0).1 (s' (mRf k 1)) ∧ sOk T (trn T φ 8 (fun _ => false) S 0).1 B := by
  have hR' := hR
  obtain ⟨sz, b, -, -, -, hb, hφ⟩ := hR'
  obtain ⟨s', e, r⟩ := x_turns (d := d) ht hr hk hφ 8 0 rfl s S (fun _ => false) 0 hT ho hR hc hb (Or.inl rfl)
  refine ⟨s', ?_, r⟩
  have eb : bts (isQ T S) 8 = bts (notD (isQ T S) (fun _ => false)) 8 := bts_cong (fun i _ => by unfold notD; simp)
  rw [E126_0 (hk0 := hk) (hk1 := hr), x_waiting ht ho hk hc, bnd_some, eb]
  exact e
end XTV
