/-! A TOWN TOLD: words, all lines -/
section XTU
variable {d E p m f a i v n g x l : Nat} {s s' : mS} {X : aX} {T T0 : aT} {c : Nat → Nat} {w : Option Nat} {sp : Nat → Nat}
theorem lts_le {p : Nat} (hp : p ≤ E) : lts X E m p ≤ m ∧ p + lts X E m p ≤ E ∧ ∀ j, j < lts X E m p → isL (hd X E (p + j)) = true := by
  induction m generalizing p with
  | zero => exact ⟨Nat.le_refl _, hp, fun j hj => absurd hj (Nat.not_lt_zero j)⟩
  | succ m ih =>
    unfold lts
    cases h : isL (hd X E p) with
    | true =>
      rw [if_pos (show true = true from rfl)]
      obtain ⟨i1, i2, i3⟩ := ih (p := p + 1) (isL_lt h)
      refine ⟨by omega, by omega, fun j hj => ?_⟩
      cases j with
      | zero => exact h
      | succ j =>
        have := i3 j (by omega)
        rw [show p + (j + 1) = p + 1 + j by omega]
        exact this
    | false =>
      rw [if_neg (show ¬ (false = true) by simp)]
      exact ⟨by omega, hp, fun j hj => absurd hj (Nat.not_lt_zero j)⟩
theorem x_wordL : ∀ m i q (s : mS), XE X E s → i + m = 8 → q ≤ E → ∃ s', ev (d + 1 + 1 + 1) 167 12 [.inr 6, .inr 2, .inr 0, .inl (nI i), .inl (nI i)] [] (cur s q none) = ev (d + 1 + 1 + 1) 167 46 [.inr 6, .inr 2, .inr 0, .inl (nI (i + lts X E m q)), .inr 0] [] (cur s' (q + lts X E m q) none) ∧ (∀ j, j < i → s' 13 j = s 13 j) ∧ (∀ j, j < lts X E m q → s' 13 (i + j) = nI (hd X E (q + j) - 97)) ∧ Eqx [13] s s' := by
  intro m
  induction m with
  | zero =>
    intro i q s hx hi hq
    refine ⟨s, ?_, fun _ _ => rfl, fun j hj => absurd hj (Nat.not_lt_zero j), Eqx.rf⟩
    rw [E167_12]
    simp (disch := omega) only [lit, nI_add, pk_mul, n_sub, n_addneg, nle_t, nle_f, nlt_t, nlt_f, neq_t, neq_f, n_inb, n_ix, bnd_some, if_true, if_false, ite_tt, ite_ff, not_true_eq_false, not_false_eq_true, eq_self, false_or, or_false, true_or, or_true]
    rfl
  | succ m ih =>
    intro i q s hx hi hq
    unfold lts
    cases h : isL (hd X E q) with
    | true =>
      rw [if_pos (show true = true from rfl)]
      have e1 := x_letter (d := d) (w := none) hx hq
      rw [if_pos h] at e1
      have qq : Eqx [13] s (up s 13 i (nI (hd X E q - 97))) := Eqx.rf.up (by simp)
      obtain ⟨s2, e2, i2, j2, q2⟩ := ih (i + 1) (q + 1) (up s 13 i (nI (hd X E q - 97))) (XE_q hx qq (by decide) (by decide)) (by omega) (isL_lt h)
      have u1 : up (cur s (q + 1) none) 13 i (nI (hd X E q - 97)) = cur (up s 13 i (nI (hd X E q - 97))) (q + 1) none := cur_up (by decide)
      refine ⟨s2, ?_, fun j hj => ?_, fun j hj => ?_, qq.tr q2⟩
      · rw [show i + (lts X E m (q + 1) + 1) = i + 1 + lts X E m (q + 1) by omega, show q + (lts X E m (q + 1) + 1) = q + 1 + lts X E m (q + 1) by omega, ← e2, E167_12]
        simp (disch := omega) only [x_atLetter hx hq, h, bI_t, e1, u1, lit, nI_add, pk_mul, n_sub, n_addneg, nle_t, nle_f, nlt_t, nlt_f, neq_t, neq_f, n_inb, n_ix, bnd_some, if_true, if_false, ite_tt, ite_ff, not_true_eq_false, not_false_eq_true, eq_self, false_or, or_false, true_or, or_true]
      · rw [i2 j (by omega), up_out (by omega)]
      · cases j with
        | zero =>
          rw [Nat.add_zero, Nat.add_zero, i2 i (by omega), up_in]
        | succ j =>
          have := j2 j (by omega)
          rw [show i + (j + 1) = i + 1 + j by omega, show q + (j + 1) = q + 1 + j by omega]
          exact this
    | false =>
      rw [if_neg (show ¬ (false = true) by simp)]
      refine ⟨s, ?_, fun _ _ => rfl, fun j hj => absurd hj (Nat.not_lt_zero j), Eqx.rf⟩
      rw [E167_12]
      simp (disch := omega) only [x_atLetter hx hq, h, bI_f, lit, nI_add, pk_mul, n_sub, n_addneg, nle_t, nle_f, nlt_t, nlt_f, neq_t, neq_f, n_inb, n_ix, bnd_some, if_true, if_false, ite_tt, ite_ff, not_true_eq_false, not_false_eq_true, eq_self, false_or, or_false, true_or, or_true]
      rfl
theorem x_readWord (hx : XE X E s) (hL : isL (hd X E p) = true) (hP : XP T c s) (ht : tOk T) : ∃ s', (match lnW X E p (lts X E 7 (p + 1) + 1) T c with
    | .inl f => ∃ q, ev (d + 1 + 1 + 1) 167 0 [.inr 6, .inr 2, .inl (nI (hd X E p - 97)), .inr 0, .inr 0] [] (cur s (p + 1) none) = some (0, nI 0, cur s' q (some f)) ∧ f ≤ E ∧ q ≤ E ∧ XP T c s'
    | .inr (p', T', c') => ev (d + 1 + 1 + 1) 167 0 [.inr 6, .inr 2, .inl (nI (hd X E p - 97)), .inr 0, .inr 0] [] (cur s (p + 1) none) = some (0, nI 1, cur s' p' none) ∧ XP T' c' s' ∧ tOk T' ∧ p < p' ∧ p' ≤ E ∧ c' = c ∧ ∃ n sp g, T' = adW T n sp g) ∧ Eqx [6, 9, 10, 11, 12, 13] s s' ∧ s' 6 2 = s 6 2 ∧ s' 6 9 = s 6 9 := by
  have hpE : p < E := isL_lt hL
  have hb0 := of_decide_eq_true hL
  have qa : Eqx [13] s (up s 13 0 (nI (hd X E p - 97))) := Eqx.rf.up (by simp)
  obtain ⟨s1, e1, i1, j1, q1⟩ := x_wordL (X := X) (E := E) (d := d) 7 1 (p + 1) (up s 13 0 (nI (hd X E p - 97))) (XE_q hx qa (by decide) (by decide)) (by omega) (by omega)
  obtain ⟨b1, b2, b3⟩ := lts_le (X := X) (m := 7) (show p + 1 ≤ E by omega)
  have u1 : up (cur s (p + 1) none) 13 0 (nI (hd X E p - 97)) = cur (up s 13 0 (nI (hd X E p - 97))) (p + 1) none := cur_up (by decide)
  have q2 := qa.tr q1
  have hx1 := XE_q hx q2 (by decide) (by decide)
  have hP1 := XP_q hP q2 (by decide)
  have hsp : ∀ j, j < lts X E 7 (p + 1) + 1 → s1 13 j = nI (hd X E (p + j) - 97) ∧ hd X E (p + j) - 97 < 10 := fun j hj => by
    cases j with
    | zero =>
      refine ⟨?_, by rw [Nat.add_zero]; omega⟩
      rw [i1 0 (by omega), up_in]
      rfl
    | succ j =>
      have h1 := j1 j (by omega)
      have h2 := of_decide_eq_true (b3 j (by omega))
      rw [show p + (j + 1) = p + 1 + j by omega, show j + 1 = 1 + j by omega]
      exact ⟨h1, by omega⟩
  have st : ev (d + 1 + 1 + 1) 167 0 [.inr 6, .inr 2, .inl (nI (hd X E p - 97)), .inr 0, .inr 0] [] (cur s (p + 1) none) = ev (d + 1 + 1 + 1) 167 46 [.inr 6, .inr 2, .inr 0, .inl (nI (lts X E 7 (p + 1) + 1)), .inr 0] [] (cur s1 (p + (lts X E 7 (p + 1) + 1)) none) := by
    rw [show lts X E 7 (p + 1) + 1 = 1 + lts X E 7 (p + 1) by omega, show p + (1 + lts X E 7 (p + 1)) = p + 1 + lts X E 7 (p + 1) by omega, ← e1, E167_0]
    simp (disch := omega) only [u1, lit, nI_add, pk_mul, n_sub, n_addneg, nle_t, nle_f, nlt_t, nlt_f, neq_t, neq_f, n_inb, n_ix, bnd_some, if_true, if_false, ite_tt, ite_ff, not_true_eq_false, not_false_eq_true, eq_self, false_or, or_false, true_or, or_true]
  rw [st]
  generalize hn : lts X E 7 (p + 1) + 1 = n at hsp
  have hn8 : n ≤ 8 := by omega
  have hn1 : 1 ≤ n := by omega
  have hpn : p + n ≤ E := by omega
  have e0 : (cur s1 (p + n) none) 6 3 = nI (tW T) := by rw [cur_ne (by decide)]; exact hP1.1
  unfold lnW
  have qw : Eqx [6, 9, 10, 11, 12, 13] s s1 := q2.mono (by simp)
  have p2 : s1 6 2 = s 6 2 := by rw [q2 _ (by decide)]
  have p9 : s1 6 9 = s 6 9 := by rw [q2 _ (by decide)]
  have hW := ht.1
  by_cases h12 : 12 ≤ tW T
  · rw [if_pos h12]
    refine ⟨s1, ⟨p + n, ?_, hpn, hpn, hP1⟩, qw, p2, p9⟩
    rw [E167_46, e0]
    simp (disch := omega) only [lit, nlt_f, if_false]
    rw [x_fail hx1 hpn, bnd_some]
    exact if_pos (Or.inl rfl)
  rw [if_neg h12]
  have e2 := x_tpass (d := d) (w := none) (c := 61) hx1 hpn (by omega)
  by_cases h61 : hd X E (p + n) = 61
  · rw [if_neg (not_not_intro h61)]
    rw [if_pos h61] at e2
    have hpn1 : p + n < E := hd_lt (X := X) (by omega)
    have e3 := x_number (d := d) (w := none) (m := 1) hx1 (show p + n + 1 ≤ E by omega) (by omega)
    cases hD : isD (hd X E (p + n + 1)) with
    | false =>
      rw [hD, if_neg (show ¬ (false = true) by simp)] at e3
      rw [if_pos (show false = false from rfl)]
      refine ⟨s1, ⟨p + n + 1, ?_, by omega, by omega, hP1⟩, qw, p2, p9⟩
      rw [E167_46, e0]
      simp (disch := omega) only [lit, nlt_t, if_true, bnd_some, e2, e3, fl_none, x_goodB, not_true_eq_false, if_false]
    | true =>
      have hb := of_decide_eq_true hD
      have hlt : p + n + 1 < E := isD_lt hD
      have ed : dg X E 1 (p + n + 1) 0 = (hd X E (p + n + 1) - 48, p + n + 2) := by
        unfold dg
        rw [if_pos hD]
        unfold dg
        rw [Nat.zero_mul, Nat.zero_add]
      rw [hD, if_pos (show true = true from rfl), ed] at e3
      rw [if_neg (show ¬ (true = false) by simp)]
      have hcur : XTb T (cur s1 (p + n + 2) none) := XTb_q hP1.2.2.1 (cur_q (p := p + n + 2) (w := none)) (by decide)
      obtain ⟨s2, e4, t4, g4, q4⟩ := x_writeWord (d := d + 1 + 1) (s := cur s1 (p + n + 2) none) (T := T) (n := n) (g := hd X E (p + n + 1) - 48) (sp := fun i => hd X E (p + i) - 97) (by rw [cur_ne (by decide)]; exact hP1.1) hcur (by omega) hn8 (fun y hy => (ht.2.2.1 y hy).2.1) (fun j hj => by rw [cur_ne (by decide)]; exact hsp j hj) (by omega)
      have hs2 : cur s2 (p + n + 2) none = s2 := cur_self (by rw [q4 _ (by decide)]; exact cur_3) (by rw [q4 _ (by decide)]; exact cur_4)
      obtain ⟨o1, o2, o3, o4⟩ := ht
      obtain ⟨r1, r2, r3, r4⟩ := hP1
      have hcomb : Eqx [2, 6, 9, 10, 11, 12, 13] s s2 := ((q2.mono (by simp)).tr (cur_q.mono (by simp))).tr (q4.mono (by simp))
      have g3 : s2 6 = upd (s1 6) 3 (nI (tW T + 1)) := by rw [g4, cur_ne (by decide)]
      obtain ⟨s3, hs3⟩ : ∃ s3, s3 = setA s2 2 (s 2) := ⟨_, rfl⟩
      have c3 : cur s3 (p + n + 2) none = s2 := by
        rw [hs3]
        funext b
        by_cases hb : b = 2
        · subst hb
          have z : s2 2 = cur s1 (p + n + 2) none 2 := q4 _ (by decide)
          rw [z]
          unfold cur
          rw [setA_at, setA_at, setA_at, q2 _ (by decide)]
        · rw [cur_ne hb, setA_ne hb]
      have n3 : ∀ b, b ≠ 2 → s3 b = s2 b := fun b hb => by rw [hs3, setA_ne hb]
      have qz : Eqx [2] s2 s3 := by rw [hs3]; exact Eqx.rf.set (by simp)
      refine ⟨s3, ⟨?_, ⟨?_, ?_, XTb_q t4 qz (by decide), fun l hl => ?_⟩, ⟨by show tW T + 1 ≤ 12; omega, o2, fun y hy => ?_, o4⟩, by omega, by omega, rfl, _, _, _, rfl⟩, ?_, ?_, ?_⟩
      · rw [c3, E167_46, e0]
        simp (disch := omega) only [lit, nlt_t, if_true, bnd_some, e2, e3, x_goodN, e4, neq_f, not_false_eq_true]
      · rw [n3 _ (by decide), g3, upd_eq rfl]; rfl
      · rw [n3 _ (by decide), g3, upd_ne (by decide)]; exact r2
      · rw [n3 _ (by decide), q4 _ (by decide), cur_ne (by decide)]; exact r4 l hl
      · have hy : y < tW T + 1 := hy
        show 1 ≤ uO (tLen T) (tW T) n y ∧ uO (tLen T) (tW T) n y ≤ 8 ∧ uO (tSen T) (tW T) (hd X E (p + n + 1) - 48) y < 10 ∧ ∀ i, i < uO (tLen T) (tW T) n y → uO (tSp T) (tW T) (fun i => hd X E (p + i) - 97) y i < 10
        unfold uO
        by_cases hz : y = tW T
        · simp only [hz, if_true]
          exact ⟨hn1, hn8, by omega, fun i hi => (hsp i hi).2⟩
        · simp only [hz, if_false]
          exact o3 y (by omega)
      · intro b hb
        by_cases hbt : b = 2
        · subst hbt; rw [hs3, setA_at]
        · rw [n3 b hbt]
          exact hcomb b (by simp only [List.mem_cons, List.not_mem_nil, or_false] at hb ⊢; omega)
      · rw [n3 _ (by decide), g3, upd_ne (by decide)]; exact p2
      · rw [n3 _ (by decide), g3, upd_ne (by decide)]; exact p9
  · rw [if_pos h61]
    rw [if_neg h61] at e2
    obtain ⟨v3, q3, e3, -, l3⟩ := x_numberB (d := d) (f := p + n) (m := 1) hx1 hpn (by omega)
    refine ⟨s1, ⟨q3, ?_, hpn, l3, hP1⟩, qw, p2, p9⟩
    rw [E167_46, e0]
    simp (disch := omega) only [lit, nlt_t, if_true, bnd_some, e2, e3, fl_none, x_goodB, not_true_eq_false, if_false]
end XTU
