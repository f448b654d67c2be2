/-! AN ORDER TOLD: its steps -/
abbrev aV : Type := Sum Nat (Nat × Nat)
def fstP (X : aX) (E k p : Nat) : aV := if k = 110 then .inr (p, 0) else if isD (hd X E p) = true then .inr ((dg X E 1 p 0).2, (dg X E 1 p 0).1) else .inl p
def secP (X : aX) (E k p : Nat) : aV :=
  if k = 104 then (if hd X E p = 61 then (if isD (hd X E (p + 1)) = true then .inr ((dg X E 2 (p + 1) 0).2, (dg X E 2 (p + 1) 0).1) else .inl (p + 1)) else .inl p)
  else if k = 108 then (if hd X E p = 62 then (if isD (hd X E (p + 1)) = true then .inr ((dg X E 1 (p + 1) 0).2, (dg X E 1 (p + 1) 0).1) else .inl (p + 1)) else .inl p)
  else if k = 110 then (if isD (hd X E p) = true then .inr ((dg X E 2 p 0).2, (dg X E 2 p 0).1) else .inl p)
  else .inr (p, 0)
def letP (X : aX) (E k p : Nat) : aV := if k = 108 then (if isL (hd X E p) = true then .inr (p + 1, hd X E p - 97) else .inl p) else .inr (p, 0)
abbrev aO : Type := Nat × Nat × Nat × Nat
def isKd (k : Nat) : Bool := decide (k = 104 ∨ k = 116 ∨ k = 98 ∨ k = 108 ∨ k = 110)
def stpP (X : aX) (E p : Nat) : Sum Nat (Nat × aO) := if isKd (hd X E p) = true then (match fstP X E (hd X E p) (p + 1) with
  | .inl f => .inl f
  | .inr (q, a) => match secP X E (hd X E p) q with
    | .inl f => .inl f
    | .inr (r, b) => match letP X E (hd X E p) r with
      | .inl f => .inl f
      | .inr (t, l) => .inr (t, hd X E p, a, b, l)) else .inl p
/-- a piece that reads a number -/
def VP (X : aX) (E : Nat) (P : Nat → aV) (c : mS → Option mR) : Prop := ∀ (s : mS) p, XE X E s → p ≤ E → (match P p with
    | .inl f => ∃ v q, c (cur s p none) = some (0, v, cur s q (some f)) ∧ f ≤ E ∧ q ≤ E
    | .inr (q, a) => c (cur s p none) = some (0, nI a, cur s q none) ∧ p ≤ q ∧ q ≤ E ∧ a < 100) ∧ ∀ f, ∃ v q, c (cur s p (some f)) = some (0, v, cur s q (some f)) ∧ q ≤ E
section XOR
variable {d E p sz k m q : Nat} {s s' : mS} {X : aX} {w : Option Nat} {v : Int32}
theorem VP_num (hm : m + 1 ≤ 2) : VP X E (fun p => if isD (hd X E p) = true then .inr ((dg X E (m + 1) p 0).2, (dg X E (m + 1) p 0).1) else .inl p) (fun s => ev (d + 1 + 1) 146 0 [.inr 2, .inl (nI (m + 1)), .inr 0, .inr 0] [] s) := by
  intro s p hx hp
  have en := x_number (d := d) (w := none) (m := m + 1) hx hp (by omega)
  refine ⟨?_, fun f => ?_⟩
  · dsimp only
    cases hD : isD (hd X E p) with
    | true =>
      rw [hD, if_pos (show true = true from rfl)] at en
      rw [if_pos (show true = true from rfl)]
      have l3 := dg_v (X := X) (E := E) (m := m + 1) (p := p) (v := 0) (k := 0) (by decide)
      have l4 : (10 : Nat) ^ (0 + (m + 1)) ≤ 10 ^ 2 := Nat.pow_le_pow_right (by omega) (by omega)
      exact ⟨en, (dg_le hp).1, (dg_le hp).2, by omega⟩
    | false =>
      rw [hD, if_neg (show ¬ (false = true) by simp)] at en
      rw [if_neg (show ¬ (false = true) by simp)]
      exact ⟨_, _, en, hp, hp⟩
  · obtain ⟨v, q, e, -, l⟩ := x_numberB (d := d) (f := f) (m := m + 1) hx hp (by omega)
    exact ⟨v, q, e, l⟩
theorem VP_of {P : Nat → aV} {c c' : mS → Option mR} (h : ∀ s v r, c' s = some (0, v, r) → c s = some (0, v, r)) (hv : VP X E P c') : VP X E P c := by
  intro s p hx hp
  obtain ⟨g1, g2⟩ := hv s p hx hp
  refine ⟨?_, fun f => ?_⟩
  · cases hP : P p with
    | inl f =>
      rw [hP] at g1
      obtain ⟨v, q, e, r⟩ := g1
      exact ⟨v, q, h _ _ _ e, r⟩
    | inr rr =>
      obtain ⟨q, a⟩ := rr
      rw [hP] at g1
      exact ⟨h _ _ _ g1.1, g1.2⟩
  · obtain ⟨v, q, e, r⟩ := g2 f
    exact ⟨v, q, h _ _ _ e, r⟩
theorem hI_e {h c : Nat} (hc : c < 256) (hh : h ≤ 256) : (hI h = nI c) = (h = c) := by
  unfold hI
  by_cases hz : h = 256
  · rw [if_pos hz, hz]
    have e : (-nI 1 = nI c) = False := eq_false (fun z => by
      have := nneg_f (a := c) (b := 1) (by omega) (by omega) (by omega)
      rw [← z] at this
      simp at this)
    rw [e]
    exact (eq_false (by omega)).symm
  · rw [if_neg hz]
    exact propext (nI_eq (by omega) (by omega))
theorem VP_snd (hk : k = 104 ∨ k = 116 ∨ k = 98 ∨ k = 108 ∨ k = 110) : VP X E (secP X E k) (fun s => ev (d + 1 + 1 + 1) 27 0 [.inr 2, .inl (nI k)] [] s) := by
  have n10 : ¬ nI 1 = nI 0 := by decide +kernel
  -- a sign and a number behind it
  have two : ∀ (c m : Nat) (a1 : Int32) (pc : Nat), c < 256 → m + 1 ≤ 2 → (∀ s, ev (d + 1 + 1 + 1) 27 0 [.inr 2, .inl a1] [] s = bnd (ev (d + 1 + 1) 141 0 [.inr 2, .inl (nI c)] [] s) (fun v4 s4 => (if v4 = nI 0 then some (0, -nI 1, s4) else bnd (ev (d + 1 + 1) 146 0 [.inr 2, .inl (nI (m + 1)), .inr 0, .inr 0] [] s4) (fun v5 s5 => some (0, v5, s5))))) → VP X E (fun p => if hd X E p = c then (if isD (hd X E (p + 1)) = true then .inr ((dg X E (m + 1) (p + 1) 0).2, (dg X E (m + 1) (p + 1) 0).1) else .inl (p + 1)) else .inl p) (fun s => ev (d + 1 + 1 + 1) 27 0 [.inr 2, .inl a1] [] s) := by
    intro c m a1 pc hc hm he s p hx hp
    have ep := x_tpass (d := d) (w := none) hx hp hc
    refine ⟨?_, fun f => ?_⟩
    · dsimp only
      rw [he]
      by_cases h : hd X E p = c
      · rw [if_pos h] at ep ⊢
        have hpE : p < E := hd_lt (X := X) (by omega)
        have g := (VP_num (X := X) (E := E) (d := d) hm s (p + 1) hx hpE).1
        dsimp only at g
        rw [ep, bnd_some, if_neg n10]
        cases hD : isD (hd X E (p + 1)) with
        | true =>
          rw [hD, if_pos (show true = true from rfl)] at g
          rw [if_pos (show true = true from rfl)]
          obtain ⟨g1, g2, g3, g4⟩ := g
          refine ⟨?_, by omega, g3, g4⟩
          rw [g1, bnd_some]
        | false =>
          rw [hD, if_neg (show ¬ (false = true) by simp)] at g
          rw [if_neg (show ¬ (false = true) by simp)]
          obtain ⟨v, q, g1, g2, g3⟩ := g
          refine ⟨v, q, ?_, g2, g3⟩
          rw [g1, bnd_some]
      · rw [if_neg h] at ep ⊢
        refine ⟨-nI 1, p, ?_, hp, hp⟩
        rw [ep, bnd_some]
        exact if_pos rfl
    · dsimp only
      rw [he, x_tpass hx hp hc]
      by_cases h : hd X E p = c
      · rw [if_pos h, bnd_some, if_neg n10]
        have hpE : p < E := hd_lt (X := X) (by omega)
        obtain ⟨v, q, g1, g2⟩ := (VP_num (X := X) (E := E) (d := d) hm s (p + 1) hx hpE).2 f
        refine ⟨v, q, ?_, g2⟩
        have g1 : ev (d + 1 + 1) 146 0 [.inr 2, .inl (nI (m + 1)), .inr 0, .inr 0] [] (cur s (p + 1) (some f)) = some (0, v, cur s q (some f)) := g1
        rw [g1, bnd_some]
      · rw [if_neg h, bnd_some]
        exact ⟨-nI 1, p, if_pos rfl, hp⟩
  unfold secP
  by_cases h1 : k = 104
  · subst h1
    refine two 61 1 (nI 104) 0 (by omega) (by omega) (fun s => ?_)
    rw [E27_0]
    simp (disch := omega) only [E27_54, lit, nI_add, pk_mul, n_sub, n_addneg, nle_t, nle_f, nlt_t, nlt_f, neq_t, neq_f, n_inb, n_ix, bnd_some, if_true, if_false, ite_tt, ite_ff, not_true_eq_false, not_false_eq_true, eq_self, false_or, or_false, true_or, or_true]
  by_cases h2 : k = 108
  · subst h2
    refine two 62 0 (nI 108) 0 (by omega) (by omega) (fun s => ?_)
    rw [E27_0]
    simp (disch := omega) only [E27_73, Nat.zero_add, lit, nI_add, pk_mul, n_sub, n_addneg, nle_t, nle_f, nlt_t, nlt_f, neq_t, neq_f, n_inb, n_ix, bnd_some, if_true, if_false, ite_tt, ite_ff, not_true_eq_false, not_false_eq_true, eq_self, false_or, or_false, true_or, or_true]
  by_cases h3 : k = 110
  · subst h3
    refine VP_of (fun s v r e => ?_) (VP_num (X := X) (E := E) (d := d) (m := 1) (by omega))
    have e : ev (d + 1 + 1) 146 0 [.inr 2, .inl (nI 2), .inr 0, .inr 0] [] s = some (0, v, r) := e
    show ev (d + 1 + 1 + 1) 27 0 _ _ _ = _
    rw [E27_0]
    simp (disch := omega) only [e, lit, nI_add, pk_mul, n_sub, n_addneg, nle_t, nle_f, nlt_t, nlt_f, neq_t, neq_f, n_inb, n_ix, bnd_some, if_true, if_false, ite_tt, ite_ff, not_true_eq_false, not_false_eq_true, eq_self, false_or, or_false, true_or, or_true]
  · intro s p hx hp
    have e : ∀ s, ev (d + 1 + 1 + 1) 27 0 [.inr 2, .inl (nI k)] [] s = some (0, nI 0, s) := fun s => by
      rw [E27_0]
      simp (disch := omega) only [lit, nI_add, pk_mul, n_sub, n_addneg, nle_t, nle_f, nlt_t, nlt_f, neq_t, neq_f, n_inb, n_ix, bnd_some, if_true, if_false, ite_tt, ite_ff, not_true_eq_false, not_false_eq_true, eq_self, false_or, or_false, true_or, or_true]
    refine ⟨?_, fun f => ⟨nI 0, p, e _, hp⟩⟩
    simp only [h1, h2, h3, if_false]
    exact ⟨e _, Nat.le_refl _, hp, by omega⟩
theorem x_isKind {h : Nat} (hh : h ≤ 256) : ev d 28 0 [.inl (hI h)] [] s = some (0, bI (isKd h), s) := by
  have k1 := hI_e (c := 104) (by omega) hh
  have k2 := hI_e (c := 116) (by omega) hh
  have k3 := hI_e (c := 98) (by omega) hh
  have k4 := hI_e (c := 108) (by omega) hh
  have k5 := hI_e (c := 110) (by omega) hh
  have t : ev d 28 30 [.inr 0] [] s = some (0, nI 1, s) := by
    rw [E28_30, E28_35]
    exact if_pos (Or.inr rfl)
  have f : ev d 28 35 [.inr 0] [.inl (nI 0)] s = some (0, nI 0, s) := by
    rw [E28_35]
    exact if_pos (Or.inl rfl)
  rw [E28_0]
  simp only [lit, k1, k2, k3, k4, k5, t, f]
  unfold isKd
  by_cases h1 : h = 104
  · simp only [h1, if_true, true_or, decide_true]; rfl
  by_cases h2 : h = 116
  · simp only [h2, if_true, true_or, or_true, decide_true]; simp; rfl
  by_cases h3 : h = 98
  · simp only [h3, if_true, true_or, or_true, decide_true]; simp; rfl
  by_cases h4 : h = 108
  · simp only [h4, if_true, true_or, or_true, decide_true]; simp; rfl
  by_cases h5 : h = 110
  · simp only [h5, if_true, true_or, or_true, decide_true]; simp; rfl
  · simp only [h1, h2, h3, h4, h5, if_false, not_false_eq_true, if_true, or_self, decide_false]; rfl
end XOR
