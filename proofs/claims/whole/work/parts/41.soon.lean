/-! CALLS: soon, rules -/
def fnd (p : Nat → Bool) (n : Nat) : Option Nat := itr (fun i b => match b with
  | some x => some x
  | none => if p i = true then some i else none) n none
theorem fnd_s {p : Nat → Bool} {n : Nat} : fnd p (n + 1) = (match fnd p n with
  | some x => some x
  | none => if p n = true then some n else none) := rfl
theorem fnd_none {p : Nat → Bool} {n : Nat} (h : ∀ i, i < n → p i = false) : fnd p n = none := by
  induction n with
  | zero => rfl
  | succ n ih =>
    rw [fnd_s, ih (fun i hi => h i (by omega))]
    exact if_neg (by rw [h n (by omega)]; simp)
theorem fnd_some {p : Nat → Bool} {n i : Nat} (hi : i < n) (h : ∀ j, j < i → p j = false) (hp : p i = true) : fnd p n = some i := by
  induction n with
  | zero => omega
  | succ n ih =>
    rw [fnd_s]
    by_cases hin : i = n
    · subst hin
      rw [fnd_none h]
      exact if_pos hp
    · rw [ih (by omega)]
def wkI (T : aT) (φ : aR) (S : aS) (n : Nat) : aS := itr (fun _ S => wkS T φ S) n S
theorem wkI_s {T : aT} {φ : aR} {S : aS} {n : Nat} : wkI T φ S (n + 1) = wkS T φ (wkI T φ S n) := rfl
def o_soon (A : aA) (w : Int32) : Int32 := if inN w (tN (gT A)) = false then -nI 1 else if isW (gS A) (ix w) = false then -nI 2 else match fnd (fun i => isU (gT A) (wkI (gT A) (gR A) (gS A) i) (ix w)) 61 with
  | some n => nI n
  | none => -nI 2
section XC6
variable {d B w m kr : Nat} {s s' : mS} {T : aT} {S : aS} {A : aA} {φ : aR} {a : Int32}
theorem XI_same {P : List Nat} (h : XI A B s) (q : Eqx P s s') (hp : ∀ a ∈ P, a ∉ iQ) (h37 : 37 ∉ P) : XI A B s' :=
  ⟨h.1, by rw [q _ h37]; exact h.2.1, XJ_q h.2.2 q hp⟩
theorem x_tweek (ht : tOk T) (hT : XT T s) (ho : sOk T S B) (hB : B < 2147483000) (hr : isR kr) (hR : XR φ kr s) (hc : XC T S (s 41)) : ∃ s', ev (d + 1 + 1 + 1 + 1) 125 0 [.inr 40, .inr kr, .inr 0, .inr 0] [] s = some (0, nI (wkR T φ S).2, s') ∧ Eqx [mRf kr 3, 42, 41] s s' ∧ XC T (wkS T φ S) (s' 41) ∧ sOk T (wkS T φ S) (B + 1) := by
  have hk : isK 40 := Or.inr rfl
  have e1 : mRf 40 1 = 41 := by decide +kernel
  have e2 : mRf 40 2 = 42 := by decide +kernel
  have g := x_week (d := d) ht hT ho hB hr hR hk (by rw [e1]; exact hc)
  unfold fr at g
  rw [e1, e2] at g
  exact g
theorem x_tIsUp (ht : tOk T) (ho : wOk T S w) (hc : XC T S (s 41)) (hw : w < 8) : ev d 97 0 [.inr 40, .inl (nI w)] [] s = some (0, bI (isU T S w), s) := by
  have e1 : mRf 40 1 = 41 := by decide +kernel
  exact x_isUp ht ho (Or.inr rfl) (by rw [e1]; exact hc) hw
theorem x_soonL (ht : tOk T) (hT : XT T s) (ho : sOk T S B) (hB : B + 60 < 2147483000) (hR : XR φ 16 s) (hc : XC T S (s 41)) (hw : w < 8) :
    ∃ s', ev (d + 1 + 1 + 1 + 1 + 1) 186 40 [.inr 1, .inl (nI w), .inl (nI 0)] [] s = some (0, (match fnd (fun i => isU T (wkI T φ S i) w) 61 with
      | some n => nI n
      | none => -nI 2), s') ∧ Eqx [18, 42, 41] s s' := by
  have es : mRf 16 3 = 18 := by decide +kernel
  have ep : mRf 16 0 = 17 := by decide +kernel
  obtain ⟨E, hE⟩ : ∃ E : Nat, E = 60 := ⟨60, rfl⟩
  refine loopR (fun i s => ev (d + 1 + 1 + 1 + 1 + 1) 186 40 [.inr 1, .inl (nI w), .inl (nI i)] [] s)
    (fun i s1 => XC T (wkI T φ S i) (s1 41) ∧ sOk T (wkI T φ S i) (B + i) ∧ Eqx [18, 42, 41] s s1 ∧ ∀ j, j < i → isU T (wkI T φ S j) w = false)
    (fun v => ∃ s', v = some (0, (match fnd (fun i => isU T (wkI T φ S i) w) 61 with
      | some n => nI n
      | none => -nI 2), s') ∧ Eqx [18, 42, 41] s s') E ?_ ?_ 0 s (Nat.zero_le _) ⟨hc, ho, Eqx.rf, fun j hj => by omega⟩
  · rintro s1 ⟨c1, o1, q1, n1⟩
    refine ⟨s1, ?_, q1⟩
    have e := x_tIsUp (d := d + 1 + 1 + 1 + 1) ht (o1.1 w) c1 hw
    show ev (d + 1 + 1 + 1 + 1 + 1) 186 40 [.inr 1, .inl (nI w), .inl (nI E)] [] s1 = _
    rw [E186_40]
    cases hu : isU T (wkI T φ S E) w with
    | true =>
      rw [fnd_some (i := E) (by omega) n1 hu]
      rw [hu] at e
      simp (disch := omega) only [e, bI_t, E186_95, lit, nI_add, pk_mul, n_sub, n_addneg, nle_t, nle_f, nlt_t, nlt_f, neq_t, neq_f, n_inb, n_ix, bnd_some, if_true, if_false, ite_tt, ite_ff, not_true_eq_false, not_false_eq_true, eq_self, false_or, or_false, true_or, or_true]
      rw [hE]
    | false =>
      rw [fnd_none (fun i hi => by
        by_cases h60 : i = E
        · rw [h60]; exact hu
        · exact n1 i (by omega))]
      rw [hu] at e
      simp (disch := omega) only [e, bI_f, E186_95, lit, nI_add, pk_mul, n_sub, n_addneg, nle_t, nle_f, nlt_t, nlt_f, neq_t, neq_f, n_inb, n_ix, bnd_some, if_true, if_false, ite_tt, ite_ff, not_true_eq_false, not_false_eq_true, eq_self, false_or, or_false, true_or, or_true]
  · rintro i s1 hi ⟨c1, o1, q1, n1⟩
    have e := x_tIsUp (d := d + 1 + 1 + 1 + 1) ht (o1.1 w) c1 hw
    cases hu : isU T (wkI T φ S i) w with
    | true =>
      refine Or.inl ⟨s1, ?_, q1⟩
      rw [fnd_some (i := i) (by omega) n1 hu]
      rw [hu] at e
      show ev (d + 1 + 1 + 1 + 1 + 1) 186 40 [.inr 1, .inl (nI w), .inl (nI i)] [] s1 = _
      rw [E186_40]
      simp (disch := omega) only [e, bI_t, lit, nI_add, pk_mul, n_sub, n_addneg, nle_t, nle_f, nlt_t, nlt_f, neq_t, neq_f, n_inb, n_ix, bnd_some, if_true, if_false, ite_tt, ite_ff, not_true_eq_false, not_false_eq_true, eq_self, false_or, or_false, true_or, or_true]
    | false =>
      obtain ⟨s2, e2, q2, c2, o2⟩ := x_tweek (d := d) (kr := 16) ht (XT_q hT q1 (by decide)) o1 (by omega) (Or.inl rfl) (XR_eq hR (q1 _ (by decide)) (by rw [ep]; exact q1 _ (by decide))) c1
      rw [es] at q2
      refine Or.inr ⟨s2, ?_, c2, o2, q1.tr q2, fun j hj => ?_⟩
      · rw [hu] at e
        show ev (d + 1 + 1 + 1 + 1 + 1) 186 40 [.inr 1, .inl (nI w), .inl (nI i)] [] s1 = ev (d + 1 + 1 + 1 + 1 + 1) 186 40 [.inr 1, .inl (nI w), .inl (nI (i + 1))] [] s2
        rw [E186_40]
        simp (disch := omega) only [e, bI_f, e2, lit, nI_add, pk_mul, n_sub, n_addneg, nle_t, nle_f, nlt_t, nlt_f, neq_t, neq_f, n_inb, n_ix, bnd_some, if_true, if_false, ite_tt, ite_ff, not_true_eq_false, not_false_eq_true, eq_self, false_or, or_false, true_or, or_true]
      · by_cases hji : j = i
        · rw [hji]; exact hu
        · exact n1 j (by omega)
theorem X_soon (h : XI A B s) (hB : B + 60 < 2147483000) : ∃ s', ev (d + 1 + 1 + 1 + 1 + 1) 186 0 [.inr 1, .inl a, .inr 0] [] s = some (0, o_soon A a, s') ∧ XI A B s' ∧ fX s s' := by
  have hT := h.2.2.1
  have hc := h.2.1
  have ha := h.1
  have hN := ha.1.2.1
  have hk : isK 36 := Or.inl rfl
  unfold o_soon
  by_cases hw : inN a (tN (gT A)) = false
  · rw [if_pos hw]
    refine ⟨s, ?_, h, fun _ _ => rfl⟩
    rw [E186_0, x_hasWall hT, hw]
    simp (disch := omega) only [bI_f, lit, nI_add, pk_mul, n_sub, n_addneg, nle_t, nle_f, nlt_t, nlt_f, neq_t, neq_f, n_inb, n_ix, bnd_some, if_true, if_false, ite_tt, ite_ff, not_true_eq_false, not_false_eq_true, eq_self, false_or, or_false, true_or, or_true]
  have hw' : inN a (tN (gT A)) = true := by simpa using hw
  rw [if_neg hw]
  obtain ⟨w, hw2, rfl⟩ := inN_t (by omega) hw'
  rw [n_ix (by omega)]
  have e0 := x_hasWord (d := d + 1 + 1 + 1 + 1) ha.1 (ha.2.1.1 w) hk hc (show w < 8 by omega)
  cases hWw : isW (gS A) w with
  | false =>
    rw [if_pos rfl]
    rw [hWw] at e0
    refine ⟨s, ?_, h, fun _ _ => rfl⟩
    rw [E186_0, x_hasWall hT, hw']
    simp (disch := omega) only [bI_t, e0, bI_f, lit, nI_add, pk_mul, n_sub, n_addneg, nle_t, nle_f, nlt_t, nlt_f, neq_t, neq_f, n_inb, n_ix, bnd_some, if_true, if_false, ite_tt, ite_ff, not_true_eq_false, not_false_eq_true, eq_self, false_or, or_false, true_or, or_true]
  | true =>
    rw [if_neg (by simp)]
    rw [hWw] at e0
    obtain ⟨c', e1, i1⟩ := x_copy (d := d + 1 + 1 + 1 + 1) (s := s)
    have q1 : Eqx [41] s (setA s 41 c') := Eqx.rf.set (by simp)
    have h1 := XI_same h q1 (by decide) (by decide)
    obtain ⟨s2, e2, q2⟩ := x_soonL (d := d) ha.1 h1.2.2.1 ha.2.1 hB h1.2.2.2.2.2.2.1.1 (by rw [setA_at]; exact XC_congr hc i1) (show w < 8 by omega)
    refine ⟨s2, ?_, XI_same h1 q2 (by decide) (by decide), (fX_q q1 (by decide)).tr (fX_q q2 (by decide))⟩
    rw [E186_0, x_hasWall hT, hw', ← e2]
    simp (disch := omega) only [bI_t, e0, e1, lit, nI_add, pk_mul, n_sub, n_addneg, nle_t, nle_f, nlt_t, nlt_f, neq_t, neq_f, n_inb, n_ix, bnd_some, if_true, if_false, ite_tt, ite_ff, not_true_eq_false, not_false_eq_true, eq_self, false_or, or_false, true_or, or_true]
end XC6
