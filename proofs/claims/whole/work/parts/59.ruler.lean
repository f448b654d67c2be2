/-! A RULE TOLD: the class's reader -/
/-- the draft has so many parts; whether it reads what is left -/
def XD (sz : Nat) (b : Bool) (s : mS) : Prop := s 19 1 = nI sz ∧ sz ≤ 40 ∧ s 19 2 = bI b
/-- a piece of the reader does what a piece of the text says -/
def RDok (X : aX) (E : Nat) (P : Nat → aQ) (c : mS → Option mR) : Prop := ∀ p (s : mS) sz b, XE X E s → p ≤ E → E ≤ 40 → XD sz b s → sz ≤ p → ∃ s', Eqx [19, 20] s s' ∧ match P p with
  | .inl f => ∃ q sz' b', c (cur s p none) = some (0, nI 0, cur s' q (some f)) ∧ f ≤ E ∧ q ≤ E ∧ XD sz' b' s'
  | .inr (q, φ) => ∃ n b', c (cur s p none) = some (0, nI 0, cur s' q none) ∧ p < q ∧ q ≤ E ∧ n ≤ q - p ∧ XD (sz + n) b' s' ∧ (∀ j, j < sz → s' 20 j = s 20 j) ∧ PSH (s' 20) sz n φ ∧ (b' = false → b = false ∧ igK φ)
section XRD
variable {d E p sz : Nat} {s s' : mS} {X : aX} {w : Option Nat} {a : Int32} {b : Bool}
theorem r19 : mRf 19 0 = 20 := by decide +kernel
theorem isRu : 19 = 16 ∨ 19 = 19 ∨ 19 = 22 ∨ 19 = 25 ∨ 19 = 28 := Or.inr (Or.inl rfl)
theorem x_emit (h : XD sz b s) : ∃ s', ev d 58 0 [.inr 19, .inl a] [] (cur s p w) = some (0, nI 0, cur s' p w) ∧ XD (min (sz + 1) 40) b s' ∧ (sz < 40 → s' 20 sz = a) ∧ (∀ j, j ≠ sz → s' 20 j = s 20 j) ∧ Eqx [19, 20] s s' := by
  obtain ⟨h1, h2, h3⟩ := h
  have e1 : (cur s p w) 19 1 = nI sz := by rw [cur_ne (by decide)]; exact h1
  by_cases hz : sz < 40
  · refine ⟨up (up s 20 sz a) 19 1 (nI (sz + 1)), ?_, ⟨?_, by omega, ?_⟩, fun _ => ?_, fun j hj => ?_, (Eqx.rf.up (by simp)).up (by simp)⟩
    · have u1 : up (cur s p w) 20 sz a = cur (up s 20 sz a) p w := cur_up (by decide)
      have e2 : (cur (up s 20 sz a) p w) 19 1 = nI sz := by rw [cur_ne (by decide), up_ne (by decide)]; exact h1
      have u2 : up (cur (up s 20 sz a) p w) 19 1 (nI (sz + 1)) = cur (up (up s 20 sz a) 19 1 (nI (sz + 1))) p w := cur_up (by decide)
      rw [E58_0 (hk0 := isRu), e1, r19]
      simp (disch := omega) only [u1, e2, u2, E58_32, lit, nI_add, pk_mul, n_sub, n_addneg, nle_t, nle_f, nlt_t, nlt_f, neq_t, neq_f, n_inb, n_ix, bnd_some, if_true, if_false, ite_tt, ite_ff, not_true_eq_false, not_false_eq_true, eq_self, false_or, or_false, true_or, or_true]
    · rw [up_in, Nat.min_eq_left (by omega)]
    · rw [up_out (by decide), up_ne (by decide)]; exact h3
    · rw [up_ne (by decide), up_in]
    · rw [up_ne (by decide), up_out hj]
  · have hz : sz = 40 := by omega
    refine ⟨s, ?_, ⟨by rw [hz] at h1 ⊢; exact h1, by omega, h3⟩, fun z => by omega, fun _ _ => rfl, Eqx.rf⟩
    rw [E58_0 (hk0 := isRu), e1]
    simp (disch := omega) only [E58_32, lit, nI_add, pk_mul, n_sub, n_addneg, nle_t, nle_f, nlt_t, nlt_f, neq_t, neq_f, n_inb, n_ix, bnd_some, if_true, if_false, ite_tt, ite_ff, not_true_eq_false, not_false_eq_true, eq_self, false_or, or_false, true_or, or_true]
theorem x_emitSign (h : XD sz b s) : ∃ s', ev (d + 1) 59 0 [.inr 19, .inl a] [] (cur s p w) = some (0, nI 0, cur s' p w) ∧ XD (min (sz + 1) 40) (b || decide (a = nI 107)) s' ∧ (sz < 40 → s' 20 sz = -a) ∧ (∀ j, j ≠ sz → s' 20 j = s 20 j) ∧ Eqx [19, 20] s s' := by
  obtain ⟨s1, e1, ⟨g1, g2, g3⟩, f1, f2, q1⟩ := x_emit (d := d) (p := p) (w := w) (a := -a) h
  have hb : ∀ c : Bool, (bI b ||| nI c.toNat = nI 0 ∨ bI b ||| nI c.toNat = nI 1) ∧ bI b ||| nI c.toNat = bI (b || c) := by
    intro c
    cases b <;> cases c <;> decide +kernel
  have ef : (cur s1 p w) 19 2 = bI b := by rw [cur_ne (by decide)]; exact g3
  have u : ∀ c : Bool, up (cur s1 p w) 19 2 (bI c) = cur (up s1 19 2 (bI c)) p w := fun c => cur_up (by decide)
  have key : ∀ c : Bool, ev (d + 1) 59 22 [.inr 0, .inr 0] [.inl (nI c.toNat), .inl (bI b), .inr 19] (cur s1 p w) = some (0, nI 0, cur (up s1 19 2 (bI (b || c))) p w) := fun c => by
    rw [E59_22 (hq2 := isRu), (hb c).2, ← u]
    refine if_pos ?_
    have := (hb c).1
    rw [(hb c).2] at this
    exact this
  refine ⟨up s1 19 2 (bI (b || decide (a = nI 107))), ?_, ⟨by rw [up_out (by decide)]; exact g1, g2, up_in⟩, fun hz => by rw [up_ne (by decide)]; exact f1 hz, fun j hj => by rw [up_ne (by decide)]; exact f2 j hj, q1.up (by simp)⟩
  rw [E59_0 (hk0 := isRu), e1, bnd_some, ef]
  by_cases h7 : a = nI 107
  · rw [decide_eq_true h7, if_neg (show ¬ ¬ a = 107 from not_not_intro h7)]
    exact key true
  · rw [decide_eq_false h7, if_pos (show ¬ a = 107 from h7)]
    exact key false
theorem isTh_hI {h : Nat} : isTh (hI h) = isTh (nI h) := by
  unfold hI
  by_cases hh : h = 256
  · subst hh; decide +kernel
  · rw [if_neg hh]
theorem th_neg : ∀ h, h < 256 → isTh (nI h) = true → -nI h < nI 0 ∧ isTh (- -nI h) = true ∧ - -nI h = nI h := by decide +kernel
theorem RD_thing {r : Nat → aQ} {dp : Nat} (hdp : dp ≤ 4) (hr : dp < 4 → RDok X E r (fun s => ev (d + 1 + 1) 60 0 [.inr 19, .inr 2, .inl (nI (dp + 1)), .inr 0] [] s)) : RDok X E (pThing X E (decide (dp < 4)) r) (fun s => ev (d + 1 + 1 + 1) 64 0 [.inr 19, .inr 2, .inl (nI dp), .inr 0] [] s) := by
  intro p s sz b hx hp hE hD hsz
  have ea := x_ahead (d := d + 1 + 1) (w := none) hx hp
  have ed := x_atDigit (d := d + 1) (w := none) hx hp
  have eh := x_isThing (d := d + 1 + 1) (s := cur s p none) (c := hI (hd X E p))
  rw [isTh_hI] at eh
  have hle := hd_le (p := p) hx
  unfold pThing
  show ∃ s', _ ∧ match (if isD (hd X E p) = true then _ else _ : aQ) with
    | .inl f => ∃ q sz' b', ev (d + 1 + 1 + 1) 64 0 [.inr 19, .inr 2, .inl (nI dp), .inr 0] [] (cur s p none) = _ ∧ _
    | .inr (q, φ) => ∃ n b', ev (d + 1 + 1 + 1) 64 0 [.inr 19, .inr 2, .inl (nI dp), .inr 0] [] (cur s p none) = _ ∧ _
  cases hDg : isD (hd X E p) with
  | true =>
    rw [if_pos (show true = true from rfl)]
    have hpE := isD_lt hDg
    have en := x_number (d := d) (w := none) (m := 3) hx hp (by omega)
    rw [hDg, if_pos (show true = true from rfl)] at en
    rw [hDg] at ed
    have l1 := dg_le (X := X) (m := 3) (v := 0) hp
    have l2 : p + 1 ≤ (dg X E 3 p 0).2 := dg_1 (m := 2) (v := 0) hp hDg
    have l3 := dg_v (X := X) (E := E) (m := 3) (p := p) (v := 0) (k := 0) (by decide)
    have l3 : (dg X E 3 p 0).1 < 1000 := l3
    obtain ⟨s1, e1, ⟨g1, g2, g3⟩, f1, f2, q1⟩ := x_emit (d := d + 1 + 1) (p := (dg X E 3 p 0).2) (w := none) (a := nI (dg X E 3 p 0).1) hD
    rw [Nat.min_eq_left (by omega)] at g1 g2
    refine ⟨s1, q1, 1, b, ?_, by omega, l1.2, by omega, ⟨g1, g2, g3⟩, fun j hj => f2 j (by omega), PSH_one (fun env t g => ?_), fun hb => ⟨hb, igK_c⟩⟩
    · rw [E64_0]
      simp (disch := omega) only [ea, ed, bIt0, en, e1, E64_88, lit, nI_add, pk_mul, n_sub, n_addneg, nle_t, nle_f, nlt_t, nlt_f, neq_t, neq_f, n_inb, n_ix, bnd_some, if_true, if_false, ite_tt, ite_ff, not_true_eq_false, not_false_eq_true, eq_self, false_or, or_false, true_or, or_true]
    · rw [f1 (by omega)]
      unfold stp
      rw [if_neg (show ¬ nI (dg X E 3 p 0).1 < nI 0 from nI_pos (by omega))]
  | false =>
    rw [if_neg (show ¬ (false = true) by simp)]
    rw [hDg] at ed
    cases hTh : isTh (nI (hd X E p)) with
    | true =>
      rw [if_pos (show true = true from rfl)]
      rw [hTh] at eh
      have h256 : hd X E p ≠ 256 := fun z => by rw [z] at hTh; revert hTh; decide +kernel
      have hpE : p < E := hd_lt h256
      have hhI : hI (hd X E p) = nI (hd X E p) := if_neg h256
      obtain ⟨t1, t2, t3⟩ := th_neg (hd X E p) (by omega) hTh
      obtain ⟨s1, e1, ⟨g1, g2, g3⟩, f1, f2, q1⟩ := x_emitSign (d := d + 1) (p := p + 1) (w := none) (a := nI (hd X E p)) hD
      rw [Nat.min_eq_left (by omega)] at g1 g2
      refine ⟨s1, q1, 1, _, ?_, by omega, hpE, by omega, ⟨g1, g2, g3⟩, fun j hj => f2 j (by omega), PSH_one (fun env t g => ?_), fun hb => ?_⟩
      · rw [hhI] at ea eh
        rw [E64_0]
        simp (disch := omega) only [ea, ed, bIf0, eh, bIt0, x_step, e1, E64_88, lit, nI_add, pk_mul, n_sub, n_addneg, nle_t, nle_f, nlt_t, nlt_f, neq_t, neq_f, n_inb, n_ix, bnd_some, if_true, if_false, ite_tt, ite_ff, not_true_eq_false, not_false_eq_true, eq_self, false_or, or_false, true_or, or_true]
      · rw [f1 (by omega)]
        unfold stp
        rw [if_pos t1, if_pos t2, t3]
      · rw [Bool.or_eq_false_iff] at hb
        have h7 := of_decide_eq_false hb.2
        exact ⟨hb.1, fun e1 e2 hh => hh _ hTh h7⟩
    | false =>
      rw [if_neg (show ¬ (false = true) by simp)]
      rw [hTh] at eh
      have g40 := hI_c (p := p) (X := X) (E := E) (show 40 < 256 by omega) hle
      by_cases h40 : hd X E p = 40 ∧ decide (dp < 4) = true
      · rw [if_pos h40]
        have hd4 := of_decide_eq_true h40.2
        have hpE : p < E := hd_lt (X := X) (by omega)
        have g40 := g40.trans (eq_true h40.1)
        obtain ⟨s1, q1, k1⟩ := hr hd4 (p + 1) s sz b hx hpE hE hD (by omega)
        have hx1 := XE_q hx q1 (by decide) (by decide)
        have start : ∀ v s2, ev (d + 1 + 1) 60 0 [.inr 19, .inr 2, .inl (nI (dp + 1)), .inr 0] [] (cur s (p + 1) none) = some (0, v, s2) → ev (d + 1 + 1 + 1) 64 0 [.inr 19, .inr 2, .inl (nI dp), .inr 0] [] (cur s p none) = bnd (ev (d + 1 + 1) 133 0 [.inr 2] [] s2) (fun v6 s6 => (if v6 = nI 0 then ev (d + 1 + 1 + 1) 64 88 [.inr 0, .inr 0, .inr 0, .inr 0] [] s6 else bnd (ev (d + 1 + 1) 141 0 [.inr 2, .inl (nI 41)] [] s6) (fun v7 s7 => ev (d + 1 + 1 + 1) 64 88 [.inr 0, .inr 0, .inr 0, .inr 0] [] s7))) := fun v s2 e => by
          rw [E64_0]
          simp (disch := omega) only [lit, ea, ed, bnd_some, bIf0, if_true, eh, g40, not_true_eq_false, if_false, nle_f, x_step, nI_add, e]
          rfl
        cases hP1 : r (p + 1) with
        | inl f =>
          rw [hP1] at k1
          obtain ⟨q, sz', b', e1, l1, l2, hD1⟩ := k1
          refine ⟨s1, q1, q, sz', b', ?_, l1, l2, hD1⟩
          rw [start _ _ e1, x_goodB, bnd_some, E64_88]
          exact if_pos rfl
        | inr rr =>
          obtain ⟨q, φ⟩ := rr
          rw [hP1] at k1
          obtain ⟨m, b', e1, l0, l1, l2, hD1, l3, hPs, l4⟩ := k1
          have ep := x_tpass (d := d) (w := none) (c := 41) hx1 l1 (by omega)
          have n10 : ¬ nI 1 = nI 0 := by decide +kernel
          dsimp only
          by_cases h41 : hd X E q = 41
          · rw [if_pos h41]
            rw [if_pos h41] at ep
            have hqE : q < E := hd_lt (X := X) (by omega)
            refine ⟨s1, q1, m, b', ?_, by omega, hqE, by omega, hD1, l3, hPs, l4⟩
            rw [start _ _ e1, x_goodN, bnd_some, if_neg n10, ep, bnd_some, E64_88]
            rfl
          · rw [if_neg h41]
            rw [if_neg h41] at ep
            refine ⟨s1, q1, q, sz + m, b', ?_, l1, l1, hD1⟩
            rw [start _ _ e1, x_goodN, bnd_some, if_neg n10, ep, bnd_some, E64_88]
            rfl
      · rw [if_neg h40]
        refine ⟨s, Eqx.rf, p, sz, b, ?_, hp, hp, hD⟩
        have ef := x_fail (d := d + 1) (w := none) hx hp
        have e83 : ev (d + 1 + 1 + 1) 64 83 [.inr 0, .inr 2, .inr 0, .inr 0] [] (cur s p none) = some (0, nI 0, cur s p (some p)) := by
          rw [E64_83, ef, bnd_some, E64_88]
          rfl
        rw [E64_0]
        by_cases hc : hd X E p = 40
        · have hd4 : ¬ dp < 4 := fun z => h40 ⟨hc, decide_eq_true z⟩
          simp (disch := omega) only [lit, ea, ed, bnd_some, bIf0, if_true, eh, g40.trans (eq_true hc), not_true_eq_false, if_false, nle_t, e83]
        · simp (disch := omega) only [lit, ea, ed, bnd_some, bIf0, if_true, eh, g40.trans (eq_false hc), not_false_eq_true, e83]
theorem RD_neg {r : Nat → aQ} {dp : Nat} (hr : RDok X E r (fun s => ev (d + 1 + 1) 64 0 [.inr 19, .inr 2, .inl (nI dp), .inr 0] [] s)) : RDok X E (pNeg X E r 40) (fun s => ev (d + 1 + 1 + 1) 63 0 [.inr 19, .inr 2, .inl (nI dp), .inr 0, .inr 0] [] s) := by
  have loop : ∀ n i ng p (s : mS) sz b, n + i = 40 → XE X E s → p ≤ E → E ≤ 40 → XD sz b s → sz + (bI ng).toNatClampNeg ≤ p → i ≤ p → ∃ s', Eqx [19, 20] s s' ∧ match pNeg X E r n p with
      | .inl f => ∃ q sz' b', ev (d + 1 + 1 + 1) 63 5 [.inr 19, .inr 2, .inl (nI dp), .inl (bI ng), .inl (nI i)] [] (cur s p none) = some (0, nI 0, cur s' q (some f)) ∧ f ≤ E ∧ q ≤ E ∧ XD sz' b' s'
      | .inr (q, φ) => ∃ n' b', ev (d + 1 + 1 + 1) 63 5 [.inr 19, .inr 2, .inl (nI dp), .inl (bI ng), .inl (nI i)] [] (cur s p none) = some (0, nI 0, cur s' q none) ∧ p < q ∧ q ≤ E ∧ n' ≤ (bI ng).toNatClampNeg + (q - p) ∧ XD (sz + n') b' s' ∧ (∀ j, j < sz → s' 20 j = s 20 j) ∧ PSH (s' 20) sz n' (if ng = true then (fun e => -(φ e)) else φ) ∧ (b' = false → b = false ∧ igK φ) := by
    have fin : ∀ ng p (s : mS) sz b, XE X E s → p ≤ E → E ≤ 40 → XD sz b s → sz + (bI ng).toNatClampNeg ≤ p → ∃ s', Eqx [19, 20] s s' ∧ match r p with
        | .inl f => ∃ q sz' b', ev (d + 1 + 1 + 1) 63 41 [.inr 19, .inr 2, .inl (nI dp), .inl (bI ng), .inr 0] [] (cur s p none) = some (0, nI 0, cur s' q (some f)) ∧ f ≤ E ∧ q ≤ E ∧ XD sz' b' s'
        | .inr (q, φ) => ∃ n' b', ev (d + 1 + 1 + 1) 63 41 [.inr 19, .inr 2, .inl (nI dp), .inl (bI ng), .inr 0] [] (cur s p none) = some (0, nI 0, cur s' q none) ∧ p < q ∧ q ≤ E ∧ n' ≤ (bI ng).toNatClampNeg + (q - p) ∧ XD (sz + n') b' s' ∧ (∀ j, j < sz → s' 20 j = s 20 j) ∧ PSH (s' 20) sz n' (if ng = true then (fun e => -(φ e)) else φ) ∧ (b' = false → b = false ∧ igK φ) := by
      intro ng p s sz b hx hp hE hD hsz
      obtain ⟨s1, q1, k1⟩ := hr p s sz b hx hp hE hD (by omega)
      have c1 : (bI true).toNatClampNeg = 1 := by decide +kernel
      have c0 : (bI false).toNatClampNeg = 0 := by decide +kernel
      cases hP1 : r p with
      | inl f =>
        rw [hP1] at k1
        obtain ⟨q, sz', b', e1, l1, l2, hD1⟩ := k1
        have e1 : ev (d + 1 + 1) 64 0 [.inr 19, .inr 2, .inl (nI dp), .inr 0] [] (cur s p none) = some (0, nI 0, cur s1 q (some f)) := e1
        cases ng with
        | false =>
          refine ⟨s1, q1, q, sz', b', ?_, l1, l2, hD1⟩
          rw [E63_41, e1, bnd_some, E63_57]
          exact if_pos rfl
        | true =>
          obtain ⟨s2, e2, hD2, -, -, q2⟩ := x_emit (d := d + 1 + 1) (p := q) (w := some f) (a := -126) hD1
          refine ⟨s2, q1.tr q2, q, _, b', ?_, l1, l2, hD2⟩
          rw [E63_41, e1, bnd_some, if_neg (show ¬ bI true = 0 by decide +kernel), e2, bnd_some, E63_57]
          rfl
      | inr rr =>
        obtain ⟨q, φ⟩ := rr
        rw [hP1] at k1
        obtain ⟨m, b', e1, l0, l1, l2, hD1, l3, hPs, l4⟩ := k1
        have e1 : ev (d + 1 + 1) 64 0 [.inr 19, .inr 2, .inl (nI dp), .inr 0] [] (cur s p none) = some (0, nI 0, cur s1 q none) := e1
        cases ng with
        | false =>
          refine ⟨s1, q1, m, b', ?_, l0, l1, by omega, hD1, l3, hPs, l4⟩
          rw [E63_41, e1, bnd_some, E63_57]
          exact if_pos rfl
        | true =>
          rw [c1] at hsz
          obtain ⟨s2, e2, hD2, f1, f2, q2⟩ := x_emit (d := d + 1 + 1) (p := q) (w := none) (a := -126) hD1
          rw [Nat.min_eq_left (by omega)] at hD2
          have hPa : PSH (s2 20) sz m φ := PSH_cong hPs (fun i hi => f2 _ (by omega))
          refine ⟨s2, q1.tr q2, m + 1, b', ?_, l0, l1, by omega, hD2, fun j hj => (f2 j (by omega)).trans (l3 j hj), PSH_neg hPa (f1 (by omega)), l4⟩
          rw [E63_41, e1, bnd_some, if_neg (show ¬ bI true = 0 by decide +kernel), e2, bnd_some, E63_57]
          rfl
    intro n
    induction n with
    | zero =>
      intro i ng p s sz b hi hx hp hE hD hsz hip
      obtain ⟨s1, q1, k1⟩ := fin ng p s sz b hx hp hE hD hsz
      have st : ev (d + 1 + 1 + 1) 63 5 [.inr 19, .inr 2, .inl (nI dp), .inl (bI ng), .inl (nI i)] [] (cur s p none) = ev (d + 1 + 1 + 1) 63 41 [.inr 19, .inr 2, .inl (nI dp), .inl (bI ng), .inr 0] [] (cur s p none) := by
        rw [E63_5]
        simp (disch := omega) only [lit, nI_add, pk_mul, n_sub, n_addneg, nle_t, nle_f, nlt_t, nlt_f, neq_t, neq_f, n_inb, n_ix, bnd_some, if_true, if_false, ite_tt, ite_ff, not_true_eq_false, not_false_eq_true, eq_self, false_or, or_false, true_or, or_true]
      rw [st]
      exact ⟨s1, q1, k1⟩
    | succ n ih =>
      intro i ng p s sz b hi hx hp hE hD hsz hip
      have ea := x_ahead (d := d + 1 + 1) (w := none) hx hp
      have g45 := hI_c (p := p) (X := X) (E := E) (show 45 < 256 by omega) (hd_le hx)
      unfold pNeg
      by_cases h45 : hd X E p = 45
      · rw [if_pos h45]
        have hpE : p < E := hd_lt (X := X) (by omega)
        have c1 : (bI true).toNatClampNeg = 1 := by decide +kernel
        have c0 : (bI false).toNatClampNeg = 0 := by decide +kernel
        obtain ⟨s1, q1, k1⟩ := ih (i + 1) (!ng) (p + 1) s sz b (by omega) hx hpE hE hD (by cases ng <;> simp only [Bool.not_true, Bool.not_false, c0, c1] at hsz ⊢ <;> omega) (by omega)
        have st : ev (d + 1 + 1 + 1) 63 5 [.inr 19, .inr 2, .inl (nI dp), .inl (bI ng), .inl (nI i)] [] (cur s p none) = ev (d + 1 + 1 + 1) 63 5 [.inr 19, .inr 2, .inl (nI dp), .inl (bI (!ng)), .inl (nI (i + 1))] [] (cur s (p + 1) none) := by
          rw [E63_5]
          cases ng with
          | true =>
            simp (disch := omega) only [lit, nle_f, if_false, ea, bnd_some, g45.trans (eq_true h45), not_true_eq_false, x_step, bIt0, not_false_eq_true, if_true, E63_34, nI_add, Bool.not_true]
            rfl
          | false =>
            simp (disch := omega) only [lit, nle_f, if_false, ea, bnd_some, g45.trans (eq_true h45), not_true_eq_false, x_step, bIf0, E63_34, nI_add, Bool.not_false]
            rfl
        refine ⟨s1, q1, ?_⟩
        rw [st]
        cases hP1 : pNeg X E r n (p + 1) with
        | inl f =>
          rw [hP1] at k1
          exact k1
        | inr rr =>
          obtain ⟨q, φ⟩ := rr
          rw [hP1] at k1
          obtain ⟨m, b', e1, l0, l1, l2, hD1, l3, hPs, l4⟩ := k1
          refine ⟨m, b', e1, by omega, l1, by cases ng <;> simp only [Bool.not_true, Bool.not_false, c0, c1] at l2 ⊢ <;> omega, hD1, l3, ?_, fun hb => ⟨(l4 hb).1, igK_neg (l4 hb).2⟩⟩
          cases ng with
          | true =>
            have e : (if true = true then (fun e => -(-(φ e))) else fun e => -(φ e) : aR) = φ := by
              rw [if_pos (show true = true from rfl)]
              funext e
              exact Int32.neg_neg
            show PSH _ _ _ (if true = true then (fun e => -(-(φ e))) else fun e => -(φ e))
            rw [e]
            exact hPs
          | false => exact hPs
      · rw [if_neg h45]
        obtain ⟨s1, q1, k1⟩ := fin ng p s sz b hx hp hE hD hsz
        have st : ev (d + 1 + 1 + 1) 63 5 [.inr 19, .inr 2, .inl (nI dp), .inl (bI ng), .inl (nI i)] [] (cur s p none) = ev (d + 1 + 1 + 1) 63 41 [.inr 19, .inr 2, .inl (nI dp), .inl (bI ng), .inr 0] [] (cur s p none) := by
          rw [E63_5]
          simp (disch := omega) only [lit, nle_f, if_false, ea, bnd_some, g45.trans (eq_false h45), not_false_eq_true, if_true]
        rw [st]
        exact ⟨s1, q1, k1⟩
  intro p s sz b hx hp hE hD hsz
  obtain ⟨s1, q1, k1⟩ := loop 40 0 false p s sz b rfl hx hp hE hD (by rw [show (bI false).toNatClampNeg = 0 by decide +kernel]; omega) (Nat.zero_le _)
  have st : ev (d + 1 + 1 + 1) 63 0 [.inr 19, .inr 2, .inl (nI dp), .inr 0, .inr 0] [] (cur s p none) = ev (d + 1 + 1 + 1) 63 5 [.inr 19, .inr 2, .inl (nI dp), .inl (bI false), .inl (nI 0)] [] (cur s p none) := E63_0
  refine ⟨s1, q1, ?_⟩
  dsimp only
  rw [st]
  cases hP1 : pNeg X E r 40 p with
  | inl f => rw [hP1] at k1; exact k1
  | inr rr =>
    obtain ⟨q, φ⟩ := rr
    rw [hP1] at k1
    obtain ⟨m, b', e1, l0, l1, l2, hD1, l3, hPs, l4⟩ := k1
    have c0 : (bI false).toNatClampNeg = 0 := by decide +kernel
    exact ⟨m, b', e1, l0, l1, by omega, hD1, l3, hPs, l4⟩
theorem RD_prod {r : Nat → aQ} {dp : Nat} (hr : RDok X E r (fun s => ev (d + 1 + 1) 63 0 [.inr 19, .inr 2, .inl (nI dp), .inr 0, .inr 0] [] s)) : RDok X E (pSeq X E 42 47 r) (fun s => ev (d + 1 + 1 + 1) 62 0 [.inr 19, .inr 2, .inl (nI dp), .inr 0, .inr 0] [] s) := by
  -- what is left to do behind a fault
  have stop : ∀ i q f (s : mS), i ≤ 40 → ev (d + 1 + 1 + 1) 62 8 [.inr 19, .inr 2, .inl (nI dp), .inl (nI i), .inr 0] [] (cur s q (some f)) = some (0, nI 0, cur s q (some f)) := fun i q f s hi => by
    rw [E62_8]
    by_cases h40 : 40 ≤ i
    · simp (disch := omega) only [E62_64, lit, nI_add, pk_mul, n_sub, n_addneg, nle_t, nle_f, nlt_t, nlt_f, neq_t, neq_f, n_inb, n_ix, bnd_some, if_true, if_false, ite_tt, ite_ff, not_true_eq_false, not_false_eq_true, eq_self, false_or, or_false, true_or, or_true]
    · simp (disch := omega) only [x_goodB, E62_64, lit, nI_add, pk_mul, n_sub, n_addneg, nle_t, nle_f, nlt_t, nlt_f, neq_t, neq_f, n_inb, n_ix, bnd_some, if_true, if_false, ite_tt, ite_ff, not_true_eq_false, not_false_eq_true, eq_self, false_or, or_false, true_or, or_true]
  have loop : ∀ n i p (s : mS) sz m b φ, n + i = 40 → XE X E s → p ≤ E → E ≤ 40 → XD (sz + m) b s → sz + m ≤ p → PSH (s 20) sz m φ → ∃ s', Eqx [19, 20] s s' ∧ match pL X E 42 47 r n p φ with
      | .inl f => ∃ q sz' b', ev (d + 1 + 1 + 1) 62 8 [.inr 19, .inr 2, .inl (nI dp), .inl (nI i), .inr 0] [] (cur s p none) = some (0, nI 0, cur s' q (some f)) ∧ f ≤ E ∧ q ≤ E ∧ XD sz' b' s'
      | .inr (q, ψ) => ∃ n' b', ev (d + 1 + 1 + 1) 62 8 [.inr 19, .inr 2, .inl (nI dp), .inl (nI i), .inr 0] [] (cur s p none) = some (0, nI 0, cur s' q none) ∧ p ≤ q ∧ q ≤ E ∧ n' ≤ m + (q - p) ∧ XD (sz + n') b' s' ∧ (∀ j, j < sz → s' 20 j = s 20 j) ∧ PSH (s' 20) sz n' ψ ∧ (b' = false → b = false ∧ (igK φ → igK ψ)) := by
    intro n
    induction n with
    | zero =>
      intro i p s sz m b φ hi hx hp hE hD hsz hP
      refine ⟨s, Eqx.rf, m, b, ?_, Nat.le_refl _, hp, by omega, hD, fun _ _ => rfl, hP, fun hb => ⟨hb, id⟩⟩
      rw [E62_8]
      simp (disch := omega) only [E62_64, lit, nI_add, pk_mul, n_sub, n_addneg, nle_t, nle_f, nlt_t, nlt_f, neq_t, neq_f, n_inb, n_ix, bnd_some, if_true, if_false, ite_tt, ite_ff, not_true_eq_false, not_false_eq_true, eq_self, false_or, or_false, true_or, or_true]
    | succ n ih =>
      intro i p s sz m b φ hi hx hp hE hD hsz hP
      have ea := x_ahead (d := d + 1 + 1) (w := none) hx hp
      have g1 := hI_c (p := p) (X := X) (E := E) (show 42 < 256 by omega) (hd_le hx)
      have g2 := hI_c (p := p) (X := X) (E := E) (show 47 < 256 by omega) (hd_le hx)
      unfold pL
      by_cases ho : hd X E p = 42 ∨ hd X E p = 47
      · rw [if_pos ho]
        have hpE : p < E := hd_lt (X := X) (by omega)
        have hh : hI (hd X E p) = nI (hd X E p) := if_neg (by omega)
        have t42 : ev (d + 1 + 1 + 1) 62 8 [.inr 19, .inr 2, .inl (nI dp), .inl (nI i), .inr 0] [] (cur s p none) = ev (d + 1 + 1 + 1) 62 42 [.inr 19, .inr 2, .inl (nI dp), .inl (nI i), .inl (nI (hd X E p))] [] (cur s p none) := by
          rw [E62_8]
          simp (disch := omega) only [lit, nle_f, if_false, x_goodN, bnd_some, neq_f, ea, g1, g2]
          by_cases h1 : hd X E p = 42
          · rw [if_pos h1, hh]
          · rw [if_neg h1, if_pos (ho.resolve_left h1), hh]
        obtain ⟨s1, q1, k1⟩ := hr (p + 1) s (sz + m) b hx hpE hE hD (by omega)
        cases hP1 : r (p + 1) with
        | inl f =>
          rw [hP1] at k1
          obtain ⟨q, sz', b', e1, l1, l2, hD1⟩ := k1
          obtain ⟨s2, e2, hD2, -, -, q2⟩ := x_emitSign (d := d + 1) (p := q) (w := some f) (a := nI (hd X E p)) hD1
          refine ⟨s2, q1.tr q2, q, _, _, ?_, l1, l2, hD2⟩
          rw [t42, E62_42, x_step, bnd_some]
          have e1 : ev (d + 1 + 1) 63 0 [.inr 19, .inr 2, .inl (nI dp), .inr 0, .inr 0] [] (cur s (p + 1) none) = some (0, nI 0, cur s1 q (some f)) := e1
          rw [e1, bnd_some, e2, bnd_some, lit 1, nI_add]
          exact stop (i + 1) q f s2 (by omega)
        | inr rr =>
          obtain ⟨q, ψ⟩ := rr
          rw [hP1] at k1
          obtain ⟨m', b', e1, l0, l1, l2, hD1, l3, hPs, l4⟩ := k1
          obtain ⟨s2, e2, hD2, f1, f2, q2⟩ := x_emitSign (d := d + 1) (p := q) (w := none) (a := nI (hd X E p)) hD1
          have hx2 := XE_q (XE_q hx q1 (by decide) (by decide)) q2 (by decide) (by decide)
          have l5 : sz + m + m' < 40 := by omega
          have hD2 : XD (sz + (m + m' + 1)) (b' || decide (nI (hd X E p) = nI 107)) s2 := by
            rw [Nat.min_eq_left (by omega), show sz + m + m' + 1 = sz + (m + m' + 1) by omega] at hD2
            exact hD2
          have n107 : decide (nI (hd X E p) = nI 107) = false := decide_eq_false (fun z => by
            have := (nI_eq (by omega) (by omega)).mp z
            omega)
          rw [n107, Bool.or_false] at hD2
          have hPa : PSH (s2 20) sz m φ := PSH_cong hP (fun i hi => by rw [f2 _ (by omega)]; exact l3 _ (by omega))
          have hPb : PSH (s2 20) (sz + m) m' ψ := PSH_cong hPs (fun i hi => f2 _ (by omega))
          have hPc := PSH_join hPa hPb (o := hd X E p) (by unfold isOp; omega) (f1 l5)
          obtain ⟨s3, q3, k3⟩ := ih (i + 1) q s2 sz (m + m' + 1) b' (fun e => jn (nI (hd X E p)) (φ e) (ψ e)) (by omega) hx2 l1 hE hD2 (by omega) hPc
          have st : ev (d + 1 + 1 + 1) 62 8 [.inr 19, .inr 2, .inl (nI dp), .inl (nI i), .inr 0] [] (cur s p none) = ev (d + 1 + 1 + 1) 62 8 [.inr 19, .inr 2, .inl (nI dp), .inl (nI (i + 1)), .inr 0] [] (cur s2 q none) := by
            rw [t42, E62_42, x_step, bnd_some]
            have e1 : ev (d + 1 + 1) 63 0 [.inr 19, .inr 2, .inl (nI dp), .inr 0, .inr 0] [] (cur s (p + 1) none) = some (0, nI 0, cur s1 q none) := e1
            rw [e1, bnd_some, e2, bnd_some, lit 1, nI_add]
          refine ⟨s3, (q1.tr q2).tr q3, ?_⟩
          rw [st]
          dsimp only
          cases hL : pL X E 42 47 r n q (fun e => jn (nI (hd X E p)) (φ e) (ψ e)) with
          | inl f =>
            rw [hL] at k3
            exact k3
          | inr rr =>
            obtain ⟨q', χ⟩ := rr
            rw [hL] at k3
            obtain ⟨n', b2, e3, i0, i1, i2, i3, i4, i5, i6⟩ := k3
            refine ⟨n', b2, e3, by omega, i1, by omega, i3, fun j hj => ?_, i5, fun hb => ?_⟩
            · rw [i4 j hj, f2 _ (by omega), l3 j (by omega)]
            · obtain ⟨y1, y2⟩ := i6 hb
              obtain ⟨z1, z2⟩ := l4 y1
              exact ⟨z1, fun hφ => y2 (igK_jn hφ z2)⟩
      · rw [if_neg ho]
        refine ⟨s, Eqx.rf, m, b, ?_, Nat.le_refl _, hp, by omega, hD, fun _ _ => rfl, hP, fun hb => ⟨hb, id⟩⟩
        rw [E62_8]
        simp (disch := omega) only [lit, nle_f, if_false, x_goodN, bnd_some, neq_f, ea, g1, g2]
        rw [if_neg (fun z => ho (Or.inl z)), if_neg (fun z => ho (Or.inr z))]
  intro p s sz b hx hp hE hD hsz
  obtain ⟨s1, q1, k1⟩ := hr p s sz b hx hp hE hD hsz
  unfold pSeq
  cases hP1 : r p with
  | inl f =>
    rw [hP1] at k1
    obtain ⟨q, sz', b', e1, l1, l2, hD1⟩ := k1
    refine ⟨s1, q1, q, sz', b', ?_, l1, l2, hD1⟩
    have e1 : ev (d + 1 + 1) 63 0 [.inr 19, .inr 2, .inl (nI dp), .inr 0, .inr 0] [] (cur s p none) = some (0, nI 0, cur s1 q (some f)) := e1
    show ev (d + 1 + 1 + 1) 62 0 _ _ _ = _
    rw [E62_0, e1, bnd_some]
    exact stop 0 q f s1 (by omega)
  | inr rr =>
    obtain ⟨q, φ⟩ := rr
    rw [hP1] at k1
    obtain ⟨m, b', e1, l0, l1, l2, hD1, l3, hPs, l4⟩ := k1
    obtain ⟨s2, q2, k2⟩ := loop 40 0 q s1 sz m b' φ rfl (XE_q hx q1 (by decide) (by decide)) l1 hE hD1 (by omega) hPs
    have e1 : ev (d + 1 + 1) 63 0 [.inr 19, .inr 2, .inl (nI dp), .inr 0, .inr 0] [] (cur s p none) = some (0, nI 0, cur s1 q none) := e1
    have st : ev (d + 1 + 1 + 1) 62 0 [.inr 19, .inr 2, .inl (nI dp), .inr 0, .inr 0] [] (cur s p none) = ev (d + 1 + 1 + 1) 62 8 [.inr 19, .inr 2, .inl (nI dp), .inl (nI 0), .inr 0] [] (cur s1 q none) := by
      rw [E62_0, e1, bnd_some]
      rfl
    refine ⟨s2, q1.tr q2, ?_⟩
    dsimp only
    rw [st]
    cases hL : pL X E 42 47 r 40 q φ with
    | inl f =>
      rw [hL] at k2
      exact k2
    | inr rr =>
      obtain ⟨q', χ⟩ := rr
      rw [hL] at k2
      obtain ⟨n', b2, e3, i0, i1, i2, i3, i4, i5, i6⟩ := k2
      refine ⟨n', b2, e3, by omega, i1, by omega, i3, fun j hj => (i4 j hj).trans (l3 j hj), i5, fun hb => ?_⟩
      obtain ⟨y1, y2⟩ := i6 hb
      obtain ⟨z1, z2⟩ := l4 y1
      exact ⟨z1, y2 z2⟩
theorem RD_sum {r : Nat → aQ} {dp : Nat} (hr : RDok X E r (fun s => ev (d + 1 + 1) 62 0 [.inr 19, .inr 2, .inl (nI dp), .inr 0, .inr 0] [] s)) : RDok X E (pSeq X E 43 45 r) (fun s => ev (d + 1 + 1 + 1) 61 0 [.inr 19, .inr 2, .inl (nI dp), .inr 0, .inr 0] [] s) := by
  -- what is left to do behind a fault
  have stop : ∀ i q f (s : mS), i ≤ 40 → ev (d + 1 + 1 + 1) 61 8 [.inr 19, .inr 2, .inl (nI dp), .inl (nI i), .inr 0] [] (cur s q (some f)) = some (0, nI 0, cur s q (some f)) := fun i q f s hi => by
    rw [E61_8]
    by_cases h40 : 40 ≤ i
    · simp (disch := omega) only [E61_64, lit, nI_add, pk_mul, n_sub, n_addneg, nle_t, nle_f, nlt_t, nlt_f, neq_t, neq_f, n_inb, n_ix, bnd_some, if_true, if_false, ite_tt, ite_ff, not_true_eq_false, not_false_eq_true, eq_self, false_or, or_false, true_or, or_true]
    · simp (disch := omega) only [x_goodB, E61_64, lit, nI_add, pk_mul, n_sub, n_addneg, nle_t, nle_f, nlt_t, nlt_f, neq_t, neq_f, n_inb, n_ix, bnd_some, if_true, if_false, ite_tt, ite_ff, not_true_eq_false, not_false_eq_true, eq_self, false_or, or_false, true_or, or_true]
  have loop : ∀ n i p (s : mS) sz m b φ, n + i = 40 → XE X E s → p ≤ E → E ≤ 40 → XD (sz + m) b s → sz + m ≤ p → PSH (s 20) sz m φ → ∃ s', Eqx [19, 20] s s' ∧ match pL X E 43 45 r n p φ with
      | .inl f => ∃ q sz' b', ev (d + 1 + 1 + 1) 61 8 [.inr 19, .inr 2, .inl (nI dp), .inl (nI i), .inr 0] [] (cur s p none) = some (0, nI 0, cur s' q (some f)) ∧ f ≤ E ∧ q ≤ E ∧ XD sz' b' s'
      | .inr (q, ψ) => ∃ n' b', ev (d + 1 + 1 + 1) 61 8 [.inr 19, .inr 2, .inl (nI dp), .inl (nI i), .inr 0] [] (cur s p none) = some (0, nI 0, cur s' q none) ∧ p ≤ q ∧ q ≤ E ∧ n' ≤ m + (q - p) ∧ XD (sz + n') b' s' ∧ (∀ j, j < sz → s' 20 j = s 20 j) ∧ PSH (s' 20) sz n' ψ ∧ (b' = false → b = false ∧ (igK φ → igK ψ)) := by
    intro n
    induction n with
    | zero =>
      intro i p s sz m b φ hi hx hp hE hD hsz hP
      refine ⟨s, Eqx.rf, m, b, ?_, Nat.le_refl _, hp, by omega, hD, fun _ _ => rfl, hP, fun hb => ⟨hb, id⟩⟩
      rw [E61_8]
      simp (disch := omega) only [E61_64, lit, nI_add, pk_mul, n_sub, n_addneg, nle_t, nle_f, nlt_t, nlt_f, neq_t, neq_f, n_inb, n_ix, bnd_some, if_true, if_false, ite_tt, ite_ff, not_true_eq_false, not_false_eq_true, eq_self, false_or, or_false, true_or, or_true]
    | succ n ih =>
      intro i p s sz m b φ hi hx hp hE hD hsz hP
      have ea := x_ahead (d := d + 1 + 1) (w := none) hx hp
      have g1 := hI_c (p := p) (X := X) (E := E) (show 43 < 256 by omega) (hd_le hx)
      have g2 := hI_c (p := p) (X := X) (E := E) (show 45 < 256 by omega) (hd_le hx)
      unfold pL
      by_cases ho : hd X E p = 43 ∨ hd X E p = 45
      · rw [if_pos ho]
        have hpE : p < E := hd_lt (X := X) (by omega)
        have hh : hI (hd X E p) = nI (hd X E p) := if_neg (by omega)
        have t42 : ev (d + 1 + 1 + 1) 61 8 [.inr 19, .inr 2, .inl (nI dp), .inl (nI i), .inr 0] [] (cur s p none) = ev (d + 1 + 1 + 1) 61 42 [.inr 19, .inr 2, .inl (nI dp), .inl (nI i), .inl (nI (hd X E p))] [] (cur s p none) := by
          rw [E61_8]
          simp (disch := omega) only [lit, nle_f, if_false, x_goodN, bnd_some, neq_f, ea, g1, g2]
          by_cases h1 : hd X E p = 43
          · rw [if_pos h1, hh]
          · rw [if_neg h1, if_pos (ho.resolve_left h1), hh]
        obtain ⟨s1, q1, k1⟩ := hr (p + 1) s (sz + m) b hx hpE hE hD (by omega)
        cases hP1 : r (p + 1) with
        | inl f =>
          rw [hP1] at k1
          obtain ⟨q, sz', b', e1, l1, l2, hD1⟩ := k1
          obtain ⟨s2, e2, hD2, -, -, q2⟩ := x_emitSign (d := d + 1) (p := q) (w := some f) (a := nI (hd X E p)) hD1
          refine ⟨s2, q1.tr q2, q, _, _, ?_, l1, l2, hD2⟩
          rw [t42, E61_42, x_step, bnd_some]
          have e1 : ev (d + 1 + 1) 62 0 [.inr 19, .inr 2, .inl (nI dp), .inr 0, .inr 0] [] (cur s (p + 1) none) = some (0, nI 0, cur s1 q (some f)) := e1
          rw [e1, bnd_some, e2, bnd_some, lit 1, nI_add]
          exact stop (i + 1) q f s2 (by omega)
        | inr rr =>
          obtain ⟨q, ψ⟩ := rr
          rw [hP1] at k1
          obtain ⟨m', b', e1, l0, l1, l2, hD1, l3, hPs, l4⟩ := k1
          obtain ⟨s2, e2, hD2, f1, f2, q2⟩ := x_emitSign (d := d + 1) (p := q) (w := none) (a := nI (hd X E p)) hD1
          have hx2 := XE_q (XE_q hx q1 (by decide) (by decide)) q2 (by decide) (by decide)
          have l5 : sz + m + m' < 40 := by omega
          have hD2 : XD (sz + (m + m' + 1)) (b' || decide (nI (hd X E p) = nI 107)) s2 := by
            rw [Nat.min_eq_left (by omega), show sz + m + m' + 1 = sz + (m + m' + 1) by omega] at hD2
            exact hD2
          have n107 : decide (nI (hd X E p) = nI 107) = false := decide_eq_false (fun z => by
            have := (nI_eq (by omega) (by omega)).mp z
            omega)
          rw [n107, Bool.or_false] at hD2
          have hPa : PSH (s2 20) sz m φ := PSH_cong hP (fun i hi => by rw [f2 _ (by omega)]; exact l3 _ (by omega))
          have hPb : PSH (s2 20) (sz + m) m' ψ := PSH_cong hPs (fun i hi => f2 _ (by omega))
          have hPc := PSH_join hPa hPb (o := hd X E p) (by unfold isOp; omega) (f1 l5)
          obtain ⟨s3, q3, k3⟩ := ih (i + 1) q s2 sz (m + m' + 1) b' (fun e => jn (nI (hd X E p)) (φ e) (ψ e)) (by omega) hx2 l1 hE hD2 (by omega) hPc
          have st : ev (d + 1 + 1 + 1) 61 8 [.inr 19, .inr 2, .inl (nI dp), .inl (nI i), .inr 0] [] (cur s p none) = ev (d + 1 + 1 + 1) 61 8 [.inr 19, .inr 2, .inl (nI dp), .inl (nI (i + 1)), .inr 0] [] (cur s2 q none) := by
            rw [t42, E61_42, x_step, bnd_some]
            have e1 : ev (d + 1 + 1) 62 0 [.inr 19, .inr 2, .inl (nI dp), .inr 0, .inr 0] [] (cur s (p + 1) none) = some (0, nI 0, cur s1 q none) := e1
            rw [e1, bnd_some, e2, bnd_some, lit 1, nI_add]
          refine ⟨s3, (q1.tr q2).tr q3, ?_⟩
          rw [st]
          dsimp only
          cases hL : pL X E 43 45 r n q (fun e => jn (nI (hd X E p)) (φ e) (ψ e)) with
          | inl f =>
            rw [hL] at k3
            exact k3
          | inr rr =>
            obtain ⟨q', χ⟩ := rr
            rw [hL] at k3
            obtain ⟨n', b2, e3, i0, i1, i2, i3, i4, i5, i6⟩ := k3
            refine ⟨n', b2, e3, by omega, i1, by omega, i3, fun j hj => ?_, i5, fun hb => ?_⟩
            · rw [i4 j hj, f2 _ (by omega), l3 j (by omega)]
            · obtain ⟨y1, y2⟩ := i6 hb
              obtain ⟨z1, z2⟩ := l4 y1
              exact ⟨z1, fun hφ => y2 (igK_jn hφ z2)⟩
      · rw [if_neg ho]
        refine ⟨s, Eqx.rf, m, b, ?_, Nat.le_refl _, hp, by omega, hD, fun _ _ => rfl, hP, fun hb => ⟨hb, id⟩⟩
        rw [E61_8]
        simp (disch := omega) only [lit, nle_f, if_false, x_goodN, bnd_some, neq_f, ea, g1, g2]
        rw [if_neg (fun z => ho (Or.inl z)), if_neg (fun z => ho (Or.inr z))]
  intro p s sz b hx hp hE hD hsz
  obtain ⟨s1, q1, k1⟩ := hr p s sz b hx hp hE hD hsz
  unfold pSeq
  cases hP1 : r p with
  | inl f =>
    rw [hP1] at k1
    obtain ⟨q, sz', b', e1, l1, l2, hD1⟩ := k1
    refine ⟨s1, q1, q, sz', b', ?_, l1, l2, hD1⟩
    have e1 : ev (d + 1 + 1) 62 0 [.inr 19, .inr 2, .inl (nI dp), .inr 0, .inr 0] [] (cur s p none) = some (0, nI 0, cur s1 q (some f)) := e1
    show ev (d + 1 + 1 + 1) 61 0 _ _ _ = _
    rw [E61_0, e1, bnd_some]
    exact stop 0 q f s1 (by omega)
  | inr rr =>
    obtain ⟨q, φ⟩ := rr
    rw [hP1] at k1
    obtain ⟨m, b', e1, l0, l1, l2, hD1, l3, hPs, l4⟩ := k1
    obtain ⟨s2, q2, k2⟩ := loop 40 0 q s1 sz m b' φ rfl (XE_q hx q1 (by decide) (by decide)) l1 hE hD1 (by omega) hPs
    have e1 : ev (d + 1 + 1) 62 0 [.inr 19, .inr 2, .inl (nI dp), .inr 0, .inr 0] [] (cur s p none) = some (0, nI 0, cur s1 q none) := e1
    have st : ev (d + 1 + 1 + 1) 61 0 [.inr 19, .inr 2, .inl (nI dp), .inr 0, .inr 0] [] (cur s p none) = ev (d + 1 + 1 + 1) 61 8 [.inr 19, .inr 2, .inl (nI dp), .inl (nI 0), .inr 0] [] (cur s1 q none) := by
      rw [E61_0, e1, bnd_some]
      rfl
    refine ⟨s2, q1.tr q2, ?_⟩
    dsimp only
    rw [st]
    cases hL : pL X E 43 45 r 40 q φ with
    | inl f =>
      rw [hL] at k2
      exact k2
    | inr rr =>
      obtain ⟨q', χ⟩ := rr
      rw [hL] at k2
      obtain ⟨n', b2, e3, i0, i1, i2, i3, i4, i5, i6⟩ := k2
      refine ⟨n', b2, e3, by omega, i1, by omega, i3, fun j hj => (i4 j hj).trans (l3 j hj), i5, fun hb => ?_⟩
      obtain ⟨y1, y2⟩ := i6 hb
      obtain ⟨z1, z2⟩ := l4 y1
      exact ⟨z1, y2 z2⟩
end XRD
