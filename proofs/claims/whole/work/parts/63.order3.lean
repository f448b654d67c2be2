/-! CALLS: order -/
def stps (X : aX) (E : Nat) : Nat → Nat → Sum Nat (Nat × List aO)
  | 0, _ => .inl 0
  | k + 1, p => match stpP X E p with
    | .inl f => .inl f
    | .inr (q, o) => if hd X E q = 59 then (match stps X E k (q + 1) with
      | .inl f => .inl f
      | .inr (r, L) => .inr (r, o :: L)) else .inr (q, [o])
def ordP (X : aX) : Sum Nat (List aO) := if X.1 = 0 then .inr [] else match stps X (min X.1 60) 60 0 with
  | .inl f => .inl f
  | .inr (p, L) => if p < X.1 then .inl p else .inr L
def doS (A : aA) (o : aO) : aA × Int32 := if o.1 = 98 then o_bring A (nI o.2.1) else if o.1 = 104 then o_hang A (nI o.2.1) (nI o.2.2.1) else if o.1 = 108 then o_lend A (nI o.2.1) (nI o.2.2.1) (nI o.2.2.2) else if o.1 = 110 then o_weeks A (nI o.2.2.1) else o_take A (nI o.2.1)
def ordR (A : aA) : List aO → aA × Nat × Bool
  | [] => (A, 0, false)
  | o :: L => if (doS A o).2 < nI 0 then ((doS A o).1, 0, true) else ((ordR (doS A o).1 L).1, (ordR (doS A o).1 L).2.1 + 1, (ordR (doS A o).1 L).2.2)
def o_order (A : aA) : aA × Int32 := match ordP (gX A) with
  | .inl f => (wX A (x0 A), -nI (f + 1))
  | .inr L => (wW (ordR (wX A (x0 A)) L).1 [bI (ordR (wX A (x0 A)) L).2.2], nI (ordR (wX A (x0 A)) L).2.1)
def okSt (o : aO) : Prop := isKd o.1 = true ∧ o.2.1 < 100 ∧ o.2.2.1 < 100 ∧ o.2.2.2 < 10
def fX0 (s s' : mS) : Prop := ∀ a, 67 ≤ a ∨ a = 48 ∨ a = 49 → s' a = s a
section XOT
variable {d E p j B : Nat} {s s' s1 : mS} {X : aX} {w : Option Nat} {v : Int32} {A : aA} {o : aO}
theorem fX_w (h : fX s s') : fX0 s s' := fun a ha => h a (by omega)
theorem fX0.tr (h : fX0 s s1) (h2 : fX0 s1 s') : fX0 s s' := fun a ha => (h2 a ha).trans (h a ha)
theorem fX0_q {P : List Nat} (q : Eqx P s s') (hp : ∀ a ∈ P, a < 67 ∧ a ≠ 48 ∧ a ≠ 49) : fX0 s s' := fun a ha => q a (fun z => by have := hp a z; omega)
theorem SO_fX (h : SO s j o) (f : fX s s') : SO s' j o := by
  unfold SO at h ⊢
  rw [f _ (by decide), f _ (by decide), f _ (by decide), f _ (by decide)]
  exact h
theorem x_stps (hE : E ≤ 60) : ∀ k i p (s : mS), k + i = 60 → 2 * i ≤ p → p ≤ E → XE X E s → s 31 4 = nI i → ∃ s', Eqx oQ s s' ∧ match stps X E k p with
    | .inl f => ∃ q, ev (d + 1 + 1 + 1 + 1 + 1) 25 26 [.inr 31, .inr 2, .inl (nI 1), .inl (nI i)] [] (cur s p none) = ev (d + 1 + 1 + 1 + 1 + 1) 25 65 [.inr 0, .inr 2, .inr 0, .inr 0] [] (cur s' q (some f)) ∧ f ≤ E ∧ q ≤ E
    | .inr (q, L) => ev (d + 1 + 1 + 1 + 1 + 1) 25 26 [.inr 31, .inr 2, .inl (nI 1), .inl (nI i)] [] (cur s p none) = ev (d + 1 + 1 + 1 + 1 + 1) 25 65 [.inr 0, .inr 2, .inr 0, .inr 0] [] (cur s' q none) ∧ q ≤ E ∧ s' 31 4 = nI (i + L.length) ∧ i + L.length ≤ 60 ∧ (∀ j o, L[j]? = some o → SO s' (i + j) o ∧ okSt o) ∧ ∀ j, j < i → ∀ pl, 32 ≤ pl ∧ pl ≤ 35 → s' pl j = s pl j := by
  intro k
  induction k with
  | zero => intro i p s hk hi hp; omega
  | succ k ih =>
    intro i p s hk hi hp hx h4
    have hi60 : i < 60 := by omega
    obtain ⟨s1, q1, g⟩ := x_rstep (d := d) hx hp h4 hi60
    have stop : ∀ r, ev (d + 1 + 1 + 1 + 1 + 1) 25 57 [.inr 31, .inr 2, .inr 0, .inl (nI i)] [] r = ev (d + 1 + 1 + 1 + 1 + 1) 25 65 [.inr 0, .inr 2, .inr 0, .inr 0] [] r := fun r => by
      rw [E25_57, E25_58, E25_26]
      by_cases h60 : 60 ≤ i + 1
      · simp (disch := omega) only [lit, nI_add, pk_mul, n_sub, n_addneg, nle_t, nle_f, nlt_t, nlt_f, neq_t, neq_f, n_inb, n_ix, bnd_some, if_true, if_false, ite_tt, ite_ff, not_true_eq_false, not_false_eq_true, eq_self, false_or, or_false, true_or, or_true]
      · simp (disch := omega) only [lit, nI_add, pk_mul, n_sub, n_addneg, nle_t, nle_f, nlt_t, nlt_f, neq_t, neq_f, n_inb, n_ix, bnd_some, if_true, if_false, ite_tt, ite_ff, not_true_eq_false, not_false_eq_true, eq_self, false_or, or_false, true_or, or_true]
    unfold stps
    cases hr : stpP X E p with
    | inl f =>
      rw [hr] at g
      obtain ⟨q', e, r1, r2⟩ := g
      refine ⟨s1, q1, q', ?_, r1, r2⟩
      rw [← stop, E25_26]
      simp (disch := omega) only [e, lit, nI_add, pk_mul, n_sub, n_addneg, nle_t, nle_f, nlt_t, nlt_f, neq_t, neq_f, n_inb, n_ix, bnd_some, if_true, if_false, ite_tt, ite_ff, not_true_eq_false, not_false_eq_true, eq_self, false_or, or_false, true_or, or_true]
    | inr r =>
      obtain ⟨q, o⟩ := r
      rw [hr] at g
      obtain ⟨e, r1, r2, o1, o2, o3, o4, r4, r5, r6⟩ := g
      have hx1 := XE_q hx q1 (by decide) (by decide)
      have e2 := x_passIf (d := d + 1 + 1 + 1) (w := none) (c := 59) hx1 r2 (by omega)
      dsimp only
      by_cases h59 : hd X E q = 59
      · rw [if_pos h59]
        rw [if_pos h59] at e2
        have hlt : q < E := hd_lt (X := X) (by omega)
        obtain ⟨s2, q2, g'⟩ := ih (i + 1) (q + 1) s1 (by omega) (by omega) hlt hx1 r4
        have st : ev (d + 1 + 1 + 1 + 1 + 1) 25 26 [.inr 31, .inr 2, .inl (nI 1), .inl (nI i)] [] (cur s p none) = ev (d + 1 + 1 + 1 + 1 + 1) 25 26 [.inr 31, .inr 2, .inl (nI 1), .inl (nI (i + 1))] [] (cur s1 (q + 1) none) := by
          rw [E25_26]
          simp (disch := omega) only [e, e2, E25_58, lit, nI_add, pk_mul, n_sub, n_addneg, nle_t, nle_f, nlt_t, nlt_f, neq_t, neq_f, n_inb, n_ix, bnd_some, if_true, if_false, ite_tt, ite_ff, not_true_eq_false, not_false_eq_true, eq_self, false_or, or_false, true_or, or_true]
        refine ⟨s2, q1.tr q2, ?_⟩
        rw [st]
        cases hl : stps X E k (q + 1) with
        | inl f =>
          rw [hl] at g'
          exact g'
        | inr rr =>
          obtain ⟨t, L⟩ := rr
          rw [hl] at g'
          obtain ⟨e', t1, t2, t3, t4, t5⟩ := g'
          refine ⟨e', t1, ?_, ?_, fun j o' hj => ?_, fun j hj pl hpl => ?_⟩
          · rw [t2, List.length_cons]; congr 1; omega
          · rw [List.length_cons]; omega
          · cases j with
            | zero =>
              have : o = o' := by simpa using hj
              subst this
              refine ⟨?_, o1, o2, o3, o4⟩
              rw [Nat.add_zero]
              unfold SO at r5 ⊢
              rw [t5 i (by omega) _ (by decide), t5 i (by omega) _ (by decide), t5 i (by omega) _ (by decide), t5 i (by omega) _ (by decide)]
              exact r5
            | succ j =>
              have := t4 j o' (by simpa using hj)
              rw [show i + (j + 1) = i + 1 + j by omega]
              exact this
          · rw [t5 j (by omega) pl hpl]; exact r6 j hj pl hpl
      · rw [if_neg h59]
        rw [if_neg h59] at e2
        refine ⟨s1, q1, ?_, r2, r4, by simp only [List.length_singleton]; omega, fun j o' hj => ?_, r6⟩
        · rw [← stop, E25_26]
          simp (disch := omega) only [e, e2, lit, nI_add, pk_mul, n_sub, n_addneg, nle_t, nle_f, nlt_t, nlt_f, neq_t, neq_f, n_inb, n_ix, bnd_some, if_true, if_false, ite_tt, ite_ff, not_true_eq_false, not_false_eq_true, eq_self, false_or, or_false, true_or, or_true]
        · cases j with
          | zero =>
            have : o = o' := by simpa using hj
            subst this
            exact ⟨r5, o1, o2, o3, o4⟩
          | succ j => simp at hj
theorem X_follow (h : XI A B s) (hB : B + 60 < 2147483000) (hs : SO s j o) (ho : okSt o) (hj : j < 60) : ∃ s', ev (d + 1 + 1 + 1 + 1 + 1 + 1) 222 0 [.inr 1, .inl (nI j), .inr 0, .inr 0] [] s = some (0, (doS A o).2, s') ∧ XI (doS A o).1 (B + 60) s' ∧ fX s s' := by
  obtain ⟨k, a, b, l⟩ := o
  obtain ⟨h1, h2, h3, h4⟩ := hs
  obtain ⟨hk, ha, hb, hl⟩ := ho
  have h1 : s 32 j = nI k := h1
  have h2 : s 33 j = nI a := h2
  have h3 : s 34 j = nI b := h3
  have h4 : s 35 j = nI l := h4
  have hk := of_decide_eq_true hk
  have hk : k = 104 ∨ k = 116 ∨ k = 98 ∨ k = 108 ∨ k = 110 := hk
  unfold doS
  dsimp only
  by_cases g1 : k = 98
  · subst g1
    rw [if_pos rfl]
    obtain ⟨s', e, i, f⟩ := X_bring (d := d + 1 + 1) (w := nI a) h
    refine ⟨s', ?_, XI_mono i (by omega), f⟩
    rw [E222_0, E22_0]
    simp (disch := omega) only [h2, E23_0, h3, E21_0, h1, e, lit, nI_add, pk_mul, n_sub, n_addneg, nle_t, nle_f, nlt_t, nlt_f, neq_t, neq_f, n_inb, n_ix, bnd_some, if_true, if_false, ite_tt, ite_ff, not_true_eq_false, not_false_eq_true, eq_self, false_or, or_false, true_or, or_true]
  rw [if_neg g1]
  by_cases g2 : k = 104
  · subst g2
    rw [if_pos rfl]
    obtain ⟨s', e, i, f⟩ := X_hang (d := d + 1 + 1) (w := nI a) (x := nI b) h
    refine ⟨s', ?_, XI_mono i (by omega), f⟩
    rw [E222_0, E22_0]
    simp (disch := omega) only [h2, E23_0, h3, E21_0, h1, e, lit, nI_add, pk_mul, n_sub, n_addneg, nle_t, nle_f, nlt_t, nlt_f, neq_t, neq_f, n_inb, n_ix, bnd_some, if_true, if_false, ite_tt, ite_ff, not_true_eq_false, not_false_eq_true, eq_self, false_or, or_false, true_or, or_true]
  rw [if_neg g2]
  by_cases g3 : k = 108
  · subst g3
    rw [if_pos rfl]
    obtain ⟨s', e, i, f⟩ := X_lend (d := d + 1 + 1) (f := nI a) (t := nI b) (l := nI l) h
    refine ⟨s', ?_, XI_mono i (by omega), f⟩
    rw [E222_0, E22_0]
    simp (disch := omega) only [h2, E23_0, h3, E21_0, h1, E24_0, h4, e, lit, nI_add, pk_mul, n_sub, n_addneg, nle_t, nle_f, nlt_t, nlt_f, neq_t, neq_f, n_inb, n_ix, bnd_some, if_true, if_false, ite_tt, ite_ff, not_true_eq_false, not_false_eq_true, eq_self, false_or, or_false, true_or, or_true]
  rw [if_neg g3]
  by_cases g4 : k = 110
  · subst g4
    rw [if_pos rfl]
    obtain ⟨s', e, i, f⟩ := X_weeks (d := d) (a := nI b) h hB
    refine ⟨s', ?_, i, f⟩
    rw [E222_0, E22_0]
    simp (disch := omega) only [h2, E23_0, h3, E21_0, h1, e, lit, nI_add, pk_mul, n_sub, n_addneg, nle_t, nle_f, nlt_t, nlt_f, neq_t, neq_f, n_inb, n_ix, bnd_some, if_true, if_false, ite_tt, ite_ff, not_true_eq_false, not_false_eq_true, eq_self, false_or, or_false, true_or, or_true]
  rw [if_neg g4]
  have g5 : k = 116 := by omega
  subst g5
  obtain ⟨s', e, i, f⟩ := X_take (d := d + 1 + 1) (w := nI a) h
  refine ⟨s', ?_, XI_mono i (by omega), f⟩
  rw [E222_0, E22_0]
  simp (disch := omega) only [h2, E23_0, h3, E21_0, h1, e, lit, nI_add, pk_mul, n_sub, n_addneg, nle_t, nle_f, nlt_t, nlt_f, neq_t, neq_f, n_inb, n_ix, bnd_some, if_true, if_false, ite_tt, ite_ff, not_true_eq_false, not_false_eq_true, eq_self, false_or, or_false, true_or, or_true]
theorem x_orderL : ∀ (L : List aO) i n A B (s : mS), XI A B s → B + 60 * L.length < 2147483000 → i + L.length ≤ 60 → n ≤ i → s 31 4 = nI (i + L.length) → (∀ j o, L[j]? = some o → SO s (i + j) o ∧ okSt o) → ∃ s', ev (d + 1 + 1 + 1 + 1 + 1 + 1 + 1) 185 28 [.inr 1, .inl (nI n), .inl (nI 0), .inl (nI i)] [] s = ev (d + 1 + 1 + 1 + 1 + 1 + 1 + 1) 185 75 [.inr 1, .inl (nI (n + (ordR A L).2.1)), .inl (bI (ordR A L).2.2), .inr 0] [] s' ∧ XI (ordR A L).1 (B + 60 * L.length) s' ∧ fX s s' ∧ (ordR A L).2.1 ≤ L.length := by
  intro L
  induction L with
  | nil =>
    intro i n A B s h hB hi hn h4 hs
    refine ⟨s, ?_, h, fun _ _ => rfl, Nat.le_refl _⟩
    rw [E185_28, E20_0, h4]
    simp only [List.length_nil, Nat.add_zero]
    simp (disch := omega) only [lit, nI_add, pk_mul, n_sub, n_addneg, nle_t, nle_f, nlt_t, nlt_f, neq_t, neq_f, n_inb, n_ix, bnd_some, if_true, if_false, ite_tt, ite_ff, not_true_eq_false, not_false_eq_true, eq_self, false_or, or_false, true_or, or_true]
    rfl
  | cons o L ih =>
    intro i n A B s h hB hi hn h4 hs
    rw [List.length_cons] at hB hi h4
    obtain ⟨so, oo⟩ := hs 0 o (by simp)
    rw [Nat.add_zero] at so
    obtain ⟨s1, e1, h1, f1⟩ := X_follow (d := d) h (by omega) so oo (by omega)
    have h41 : s1 31 4 = nI (i + (L.length + 1)) := by rw [f1 _ (by decide)]; exact h4
    have st : ∀ c : Bool, (if nI 0 ≤ (doS A o).2 then ev (d + 1 + 1 + 1 + 1 + 1 + 1 + 1) 185 56 [.inr 1, .inl (nI n), .inr 0, .inl (nI i)] [.inl (nI 0)] s1 else ev (d + 1 + 1 + 1 + 1 + 1 + 1 + 1) 185 56 [.inr 1, .inl (nI n), .inr 0, .inl (nI i)] [.inl (nI 1)] s1) = ev (d + 1 + 1 + 1 + 1 + 1 + 1 + 1) 185 28 [.inr 1, .inl (nI n), .inl (nI 0), .inl (nI i)] [] s := fun c => by
      rw [E185_28, E20_0, h4]
      simp (disch := omega) only [e1, lit, nI_add, pk_mul, n_sub, n_addneg, nle_t, nle_f, nlt_t, nlt_f, neq_t, neq_f, n_inb, n_ix, bnd_some, if_true, if_false, ite_tt, ite_ff, not_true_eq_false, not_false_eq_true, eq_self, false_or, or_false, true_or, or_true]
      rfl
    rw [← st true]
    unfold ordR
    by_cases hneg : (doS A o).2 < nI 0
    · rw [if_pos hneg, if_neg (Int32.not_le.mpr hneg), E185_56, List.length_cons]
      refine ⟨s1, ?_, XI_mono h1 (by omega), f1, Nat.zero_le _⟩
      simp (disch := omega) only [lit, neq_f, if_false]
      rw [E185_67, E185_28, E20_0, h41]
      simp (disch := omega) only [lit, nI_add, bnd_some, neq_f, not_false_eq_true, if_true, Nat.add_zero]
      split <;> rfl
    · rw [if_neg hneg, if_pos (Int32.not_lt.mp hneg), E185_56, List.length_cons]
      obtain ⟨s2, e2, h2, f2, b2⟩ := ih (i + 1) (n + 1) (doS A o).1 (B + 60) s1 h1 (by omega) (by omega) (by omega) (by rw [h41]; congr 1; omega) (fun j o' hj => by
        obtain ⟨x1, x2⟩ := hs (j + 1) o' (by simpa using hj)
        rw [show i + (j + 1) = i + 1 + j by omega] at x1
        exact ⟨SO_fX x1 f1, x2⟩)
      refine ⟨s2, ?_, XI_mono h2 (by omega), f1.tr f2, ?_⟩
      · simp only [lit, if_true]
        rw [E185_67]
        simp only [lit, nI_add]
        rw [e2]
        rw [show n + 1 + (ordR (doS A o).1 L).2.1 = n + ((ordR (doS A o).1 L).2.1 + 1) by omega]
      · show (ordR (doS A o).1 L).2.1 + 1 ≤ L.length + 1
        omega
theorem X_order (h : XI A B s) (hB : B + 3600 < 2147483000) : ∃ s', ev (d + 1 + 1 + 1 + 1 + 1 + 1 + 1) 185 0 [.inr 1, .inr 0, .inr 0, .inr 0] [] s = some (0, (o_order A).2, s') ∧ XI (o_order A).1 (B + 3600) s' ∧ fX0 s s' := by
  have ha := h.1
  have h80 := ha.2.2.2.2.2.1
  have q0 : Eqx [31] s (up s 31 4 (nI 0)) := Eqx.rf.up (by simp)
  obtain ⟨s1, e1, x1, q1⟩ := x_open (d := d + 1 + 1 + 1 + 1 + 1) (M := 60) (XX_q h.2.2.2.2.1 q0 (by decide) (by decide)) h80 ha.2.2.2.2.2.2.1 (by omega)
  have ee := x_ended (d := d + 1 + 1 + 1 + 1 + 1) (w := none) x1 (Nat.zero_le _)
  have h40 : s1 31 4 = nI 0 := by rw [q1 _ (by decide), up_in]
  have n10 : ¬ nI 1 = nI 0 := by decide +kernel
  -- reading ends
  have fin : ∀ s2 p w, XE (gX A) (min (gX A).1 60) s2 → p ≤ min (gX A).1 60 → ev (d + 1 + 1 + 1 + 1 + 1 + 1) 25 65 [.inr 0, .inr 2, .inr 0, .inr 0] [] (cur s2 p w) = some (0, bI (decide (clW (gX A) (min (gX A).1 60) p w = none)), cur (up s2 2 1 (nI 0)) p (clW (gX A) (min (gX A).1 60) p w)) := fun s2 p w hx hp => by
    rw [E25_65, x_close (d := d + 1 + 1 + 1 + 1) (M := 60) hx hp (by omega), bnd_some, x_good, bnd_some]
    refine if_pos ?_
    generalize decide (clW (gX A) (min (gX A).1 60) p w = none) = c
    cases c
    · exact Or.inl rfl
    · exact Or.inr rfl
  -- a wrong text
  have bad : ∀ f s2 p w, f ≤ 1000 → p ≤ min (gX A).1 60 → Eqx oQ s1 s2 → clW (gX A) (min (gX A).1 60) p w = some f → ev (d + 1 + 1 + 1 + 1 + 1 + 1) 25 0 [.inr 31, .inr 2, .inr 0, .inr 0] [] s = ev (d + 1 + 1 + 1 + 1 + 1 + 1) 25 65 [.inr 0, .inr 2, .inr 0, .inr 0] [] (cur s2 p w) → ∃ s', ev (d + 1 + 1 + 1 + 1 + 1 + 1 + 1) 185 0 [.inr 1, .inr 0, .inr 0, .inr 0] [] s = some (0, -nI (f + 1), s') ∧ XI (wX A (x0 A)) (B + 3600) s' ∧ fX0 s s' := by
    intro f s2 p w hf hp q2 hw e
    have g := fin s2 p w (XE_q x1 q2 (by decide) (by decide)) hp
    rw [hw] at g
    have qc : Eqx (2 :: oQ) s (cur (up s2 2 1 (nI 0)) p (some f)) := ((((q0.mono (by decide)).tr (q1.mono (by decide))).tr (q2.mono (by decide))).up (by simp)).set (by simp)
    obtain ⟨⟨a1, a2, a3, a4, a5, a6, a7, a8⟩, hc, g1, g2, g3, g4, g5, g6, g7, g8⟩ := h
    refine ⟨_, ?_, XI_mono (B := B) ⟨⟨a1, a2, a3, a4, a5, Nat.zero_le _, a7, a8⟩, by rw [qc _ (by decide)]; exact hc, XT_q g1 qc (by decide), XSt_q g2 qc (by decide), ⟨by show _ = nI 0; exact (cur_1.trans up_in), fun i hi => absurd hi (Nat.not_lt_zero i)⟩, XW_q g4 qc (by decide) (by decide), XRs_q g5 qc (by decide), XU_q g6 qc (by decide) (by decide), XK_q g7 qc (by decide) (by decide), XN_q g8 qc (by decide)⟩ (by omega), fX0_q qc (by decide)⟩
    rw [E185_0, e, g, bnd_some, decide_eq_false (by simp)]
    simp only [lit, bIf0, not_true_eq_false, if_false, x_complaint hf, bnd_some]
  -- a right text
  have good : ∀ L s2 p, p ≤ min (gX A).1 60 → ¬ p < (gX A).1 → Eqx oQ s1 s2 → s2 31 4 = nI L.length → L.length ≤ 60 → (∀ j o, L[j]? = some o → SO s2 j o ∧ okSt o) → ev (d + 1 + 1 + 1 + 1 + 1 + 1) 25 0 [.inr 31, .inr 2, .inr 0, .inr 0] [] s = ev (d + 1 + 1 + 1 + 1 + 1 + 1) 25 65 [.inr 0, .inr 2, .inr 0, .inr 0] [] (cur s2 p none) → ∃ s', ev (d + 1 + 1 + 1 + 1 + 1 + 1 + 1) 185 0 [.inr 1, .inr 0, .inr 0, .inr 0] [] s = some (0, nI (ordR (wX A (x0 A)) L).2.1, s') ∧ XI (wW (ordR (wX A (x0 A)) L).1 [bI (ordR (wX A (x0 A)) L).2.2]) (B + 3600) s' ∧ fX0 s s' := by
    intro L s2 p hp hpl q2 h4 hl hs e
    have hw : clW (gX A) (min (gX A).1 60) p none = none := if_neg hpl
    have g := fin s2 p none (XE_q x1 q2 (by decide) (by decide)) hp
    rw [hw] at g
    obtain ⟨s3, hs3⟩ : ∃ s3, s3 = cur (up s2 2 1 (nI 0)) p none := ⟨_, rfl⟩
    rw [← hs3] at g
    have q3 : Eqx [2] s2 s3 := by rw [hs3]; exact (Eqx.rf.up (by simp)).set (by simp)
    have qc : Eqx (2 :: oQ) s s3 := (((q0.mono (by decide)).tr (q1.mono (by decide))).tr (q2.mono (by decide))).tr (q3.mono (by decide))
    have t3 : s3 2 1 = nI 0 := by rw [hs3, cur_1, up_in]
    have hI3 : XI (wX A (x0 A)) B s3 := by
      obtain ⟨⟨a1, a2, a3, a4, a5, a6, a7, a8⟩, hc, g1, g2, g3, g4, g5, g6, g7, g8⟩ := h
      exact ⟨⟨a1, a2, a3, a4, a5, Nat.zero_le _, a7, a8⟩, by rw [qc _ (by decide)]; exact hc, XT_q g1 qc (by decide), XSt_q g2 qc (by decide), ⟨t3, fun i hi => absurd hi (Nat.not_lt_zero i)⟩, XW_q g4 qc (by decide) (by decide), XRs_q g5 qc (by decide), XU_q g6 qc (by decide) (by decide), XK_q g7 qc (by decide) (by decide), XN_q g8 qc (by decide)⟩
    obtain ⟨s4, e4, h4', f4, b4⟩ := x_orderL (d := d) L 0 0 (wX A (x0 A)) B s3 hI3 (by omega) (by omega) (Nat.le_refl _) (by rw [q3 _ (by decide), Nat.zero_add]; exact h4) (fun j o hj => by
      rw [Nat.zero_add]
      refine ⟨?_, (hs j o hj).2⟩
      have := (hs j o hj).1
      unfold SO at this ⊢
      rw [q3 _ (by decide), q3 _ (by decide), q3 _ (by decide), q3 _ (by decide)]
      exact this)
    rw [Nat.zero_add] at e4
    obtain ⟨s5, e5, q5, w5⟩ := x_add1 (d := d + 1 + 1 + 1 + 1 + 1 + 1) (s := s4) (a := bI (ordR (wX A (x0 A)) L).2.2)
    refine ⟨s5, ?_, XI_mono (XI_row h4' q5 (by decide) (by decide) w5 (by simp)) (by omega), ((fX0_q qc (by decide)).tr (fX_w f4)).tr (fX0_q q5 (by decide))⟩
    rw [E185_0, e, g, bnd_some]
    simp only [lit, decide_true, bIt0, not_false_eq_true, if_true]
    rw [e4, E185_75]
    simp only [lit, x_clear, bnd_some, if_true]
    generalize (ordR (wX A (x0 A)) L).2.2 = c at e5
    cases c with
    | true =>
      have e5 : ev (d + 1 + 1 + 1 + 1 + 1 + 1) 50 0 [.inr 4, .inl (nI 1)] [] (up s4 4 1 (nI 0)) = some (0, nI 4, s5) := e5
      simp only [bIt0, if_false]
      rw [E185_91]
      simp only [lit, e5, bnd_some, if_true]
    | false =>
      have e5 : ev (d + 1 + 1 + 1 + 1 + 1 + 1) 50 0 [.inr 4, .inl (nI 0)] [] (up s4 4 1 (nI 0)) = some (0, nI 4, s5) := e5
      simp only [bIf0, if_true]
      rw [E185_91]
      simp only [lit, e5, bnd_some, if_true]
  unfold o_order ordP
  by_cases hz : (gX A).1 = 0
  · rw [if_pos hz]
    dsimp only
    refine good [] s1 0 (Nat.zero_le _) (by omega) Eqx.rf h40 (Nat.zero_le _) (fun j o hj => by simp at hj) ?_
    rw [decide_eq_true (show min (gX A).1 60 ≤ 0 by omega)] at ee
    rw [E25_0]
    simp only [lit, e1, bnd_some, ee, bIt0, not_false_eq_true, if_true]
    rw [E25_23, E25_26]
    simp (disch := omega) only [lit, nI_add, pk_mul, n_sub, n_addneg, nle_t, nle_f, nlt_t, nlt_f, neq_t, neq_f, n_inb, n_ix, bnd_some, if_true, if_false, ite_tt, ite_ff, not_true_eq_false, not_false_eq_true, eq_self, false_or, or_false, true_or, or_true]
  · rw [if_neg hz]
    rw [decide_eq_false (show ¬ min (gX A).1 60 ≤ 0 by omega)] at ee
    obtain ⟨s2, q2, k2⟩ := x_stps (d := d + 1) (X := gX A) (E := min (gX A).1 60) (by omega) 60 0 0 s1 rfl (Nat.le_refl _) (Nat.zero_le _) x1 h40
    have st : ev (d + 1 + 1 + 1 + 1 + 1 + 1) 25 0 [.inr 31, .inr 2, .inr 0, .inr 0] [] s = ev (d + 1 + 1 + 1 + 1 + 1 + 1) 25 26 [.inr 31, .inr 2, .inl (nI 1), .inl (nI 0)] [] (cur s1 0 none) := by
      rw [E25_0]
      simp only [lit, e1, bnd_some, ee, bIf0, not_true_eq_false, if_false]
      rw [E25_23]
      rfl
    cases hP : stps (gX A) (min (gX A).1 60) 60 0 with
    | inl f =>
      rw [hP] at k2
      obtain ⟨q, e2, l1, l2⟩ := k2
      exact bad f s2 q (some f) (by omega) l2 q2 clW_s (st.trans e2)
    | inr rr =>
      obtain ⟨q, L⟩ := rr
      rw [hP] at k2
      obtain ⟨e2, l1, l2, l3, l4, -⟩ := k2
      dsimp only
      by_cases hq : q < (gX A).1
      · rw [if_pos hq]
        exact bad q s2 q none (by omega) l1 q2 (if_pos hq) (st.trans e2)
      · rw [if_neg hq]
        exact good L s2 q l1 hq q2 (by rw [l2, Nat.zero_add]) (by omega) (fun j o hj => by
          have := l4 j o hj
          rw [Nat.zero_add] at this
          exact this) (st.trans e2)
end XOT
