/-! A TOWN TOLD: the class's lines -/
section XTV
variable {d E p m f a i v n g x l : Nat} {s s' : mS} {X : aX} {T : aT} {c : Nat → Nat} {w : Option Nat} {sp : Nat → Nat}
theorem cur_q : Eqx [2] s (cur s p w) := Eqx.rf.set (by simp)
theorem cur_self (h3 : s 2 3 = nI p) (h4 : s 2 4 = wI w) : cur s p w = s := by
  unfold cur
  have : upd (upd (s 2) 3 (nI p)) 4 (wI w) = s 2 := by
    funext j
    unfold upd
    by_cases h : j = 4
    · subst h; rw [if_pos rfl, h4]
    · rw [if_neg h]
      by_cases h' : j = 3
      · subst h'; rw [if_pos rfl, h3]
      · rw [if_neg h']
  rw [this, setA_same]
theorem XE_cur (hx : XE X E s) : XE X E (cur s p w) := by
  obtain ⟨⟨x1, x2⟩, h3, h4⟩ := hx
  exact ⟨⟨cur_1.trans x1, fun i hi => by rw [cur_ne (by decide)]; exact x2 i hi⟩, cur_2.trans h3, h4⟩
theorem x_tpassB (hx : XE X E s) (hp : p ≤ E) (hc : i < 256) : ∃ v q, ev (d + 1 + 1) 141 0 [.inr 2, .inl (nI i)] [] (cur s p (some f)) = some (0, v, cur s q (some f)) ∧ p ≤ q ∧ q ≤ E := by
  rw [x_tpass hx hp hc]
  by_cases h : hd X E p = i
  · rw [if_pos h]
    exact ⟨_, _, rfl, by omega, hd_lt (X := X) (by omega)⟩
  · rw [if_neg h]
    exact ⟨_, _, rfl, Nat.le_refl _, hp⟩
theorem x_numberB (hx : XE X E s) (hp : p ≤ E) (hm : m ≤ 3) : ∃ v q, ev (d + 1 + 1) 146 0 [.inr 2, .inl (nI m), .inr 0, .inr 0] [] (cur s p (some f)) = some (0, v, cur s q (some f)) ∧ p ≤ q ∧ q ≤ E := by
  rw [x_number hx hp hm]
  cases h : isD (hd X E p) with
  | true =>
    rw [if_pos (show true = true from rfl)]
    exact ⟨_, _, rfl, (dg_le hp).1, (dg_le hp).2⟩
  | false =>
    rw [if_neg (show ¬ (false = true) by simp)]
    exact ⟨_, _, rfl, Nat.le_refl _, hp⟩
theorem x_nnzB (hx : XE X E s) (hp : p ≤ E) (hm : m + 1 ≤ 3) : ∃ v q, ev (d + 1 + 1 + 1) 147 0 [.inr 2, .inl (nI (m + 1)), .inr 0] [] (cur s p (some f)) = some (0, v, cur s q (some f)) ∧ p ≤ q ∧ q ≤ E := by
  rw [x_nnz hx hp hm]
  cases h : isD (hd X E p) with
  | true =>
    rw [if_pos (show true = true from rfl)]
    refine ⟨nI (dg X E (m + 1) p 0).1, (dg X E (m + 1) p 0).2, ?_, (dg_le hp).1, (dg_le hp).2⟩
    rw [fl_some]
    split <;> rfl
  | false =>
    rw [if_neg (show ¬ (false = true) by simp)]
    exact ⟨_, _, rfl, Nat.le_refl _, hp⟩
theorem x_goodB : ev d 133 0 [.inr 2] [] (cur s p (some f)) = some (0, nI 0, cur s p (some f)) := x_good
theorem x_goodN : ev d 133 0 [.inr 2] [] (cur s p none) = some (0, nI 1, cur s p none) := x_good
theorem XP_q {P : List Nat} (h : XP T c s) (q : Eqx P s s') (hp : ∀ a ∈ P, a ∉ [6, 9, 10, 11, 12, 14, 15, 8]) : XP T c s' := by
  have e : ∀ a, a ∈ [6, 9, 10, 11, 12, 14, 15, 8] → s' a = s a := fun a ha => q a (fun z => hp a z ha)
  obtain ⟨h1, h2, h3, h4⟩ := h
  refine ⟨by rw [e _ (by decide)]; exact h1, by rw [e _ (by decide)]; exact h2, XTb_q h3 q (fun a ha z => hp a ha ?_), by rw [e _ (by decide)]; exact h4⟩
  revert z
  simp only [List.mem_cons, List.not_mem_nil, or_false]
  omega
theorem x_readStock (hx : XE X E s) (hp : p ≤ E) (hD : isD (hd X E p) = true) (hP : XP T c s) (hl : l < 10) (hcl : c l ≤ 20) : ∃ s', (match lnS X E p l T c with
    | .inl f => ev (d + 1 + 1 + 1) 166 0 [.inr 6, .inr 2, .inl (nI l), .inr 0] [] (cur s p none) = some (0, nI 0, cur s' (dg X E 2 p 0).2 (some f)) ∧ f < E ∧ XP T c s'
    | .inr (p', T', c') => ev (d + 1 + 1 + 1) 166 0 [.inr 6, .inr 2, .inl (nI l), .inr 0] [] (cur s p none) = some (0, nI 1, cur s' p' none) ∧ XP T' c' s' ∧ T' = T ∧ p < p' ∧ p' ≤ E ∧ (∀ k, c' k = c k ∨ c' k ≤ 20)) ∧ Eqx [8] s s' := by
  have l1 := dg_le (X := X) (m := 2) (v := 0) hp
  have l2 : p + 1 ≤ (dg X E 2 p 0).2 := dg_1 (m := 1) (v := 0) hp hD
  have l3 := dg_v (X := X) (E := E) (m := 2) (p := p) (v := 0) (k := 0) (by decide)
  have l3 : (dg X E 2 p 0).1 < 100 := l3
  have e1 := x_number (d := d) (w := none) (m := 2) hx hp (by omega)
  rw [if_pos hD] at e1
  have e2 : ∀ q w, (cur s q w) 8 l = nI (c l) := fun q w => by rw [cur_ne (by decide)]; exact hP.2.2.2 l hl
  unfold lnS
  by_cases h : 20 < c l + (dg X E 2 p 0).1
  · rw [if_pos h]
    refine ⟨s, ⟨?_, by omega, hP⟩, Eqx.rf⟩
    rw [E166_0]
    simp (disch := omega) only [e1, e2, lit, nI_add, pk_mul, n_sub, n_addneg, nle_t, nle_f, nlt_t, nlt_f, neq_t, neq_f, n_inb, n_ix, bnd_some, if_true, if_false, ite_tt, ite_ff, not_true_eq_false, not_false_eq_true, eq_self, false_or, or_false, true_or, or_true]
    rw [x_failLast hx l1.2 (by omega), bnd_some]
    exact if_pos (Or.inl rfl)
  · rw [if_neg h]
    refine ⟨up s 8 l (nI (c l + (dg X E 2 p 0).1)), ⟨?_, ⟨by rw [up_ne (by decide)]; exact hP.1, by rw [up_ne (by decide)]; exact hP.2.1, XTb_q hP.2.2.1 (Eqx.rf.up (a := 8) (P := [8]) (by simp)) (by decide), fun k hk => ?_⟩, rfl, by omega, l1.2, fun k => ?_⟩, Eqx.rf.up (by simp)⟩
    · rw [E166_0]
      simp (disch := omega) only [e1, e2, cur_up, lit, nI_add, pk_mul, n_sub, n_addneg, nle_t, nle_f, nlt_t, nlt_f, neq_t, neq_f, n_inb, n_ix, bnd_some, if_true, if_false, ite_tt, ite_ff, not_true_eq_false, not_false_eq_true, eq_self, false_or, or_false, true_or, or_true]
    · unfold uO
      by_cases hz : k = l
      · subst hz; rw [if_pos rfl, up_in]
      · rw [if_neg hz, up_out hz]; exact hP.2.2.2 k hk
    · unfold uO
      by_cases hz : k = l
      · rw [if_pos hz]; right; omega
      · rw [if_neg hz]; left; rfl
theorem x_readWall (hx : XE X E s) (hh : hd X E p = 119) (hP : XP T c s) (ht : tOk T) : ∃ s' , (match (if 8 ≤ tN T then .inl p else lnN X E (p + 1) T c : Sum Nat (Nat × aT × (Nat → Nat))) with
    | .inl f => ∃ q, ev (d + 1 + 1 + 1 + 1) 169 0 [.inr 6, .inr 2, .inr 0, .inr 0] [] (cur s p none) = some (0, nI 0, cur s' q (some f)) ∧ f ≤ E ∧ q ≤ E ∧ XP T c s'
    | .inr (p', T', c') => ev (d + 1 + 1 + 1 + 1) 169 0 [.inr 6, .inr 2, .inr 0, .inr 0] [] (cur s p none) = some (0, nI 1, cur s' p' none) ∧ XP T' c' s' ∧ tOk T' ∧ p < p' ∧ p' ≤ E ∧ c' = c ∧ ∃ a t, T' = adN T a t) ∧ Eqx [6, 14, 15] s s' ∧ s' 6 2 = s 6 2 ∧ s' 6 9 = s 6 9 := by
  have hpE : p < E := hd_lt (X := X) (by omega)
  have hN := ht.2.1
  have e0 : (cur s p none) 6 10 = nI (tN T) := by rw [cur_ne (by decide)]; exact hP.2.1
  by_cases h8 : 8 ≤ tN T
  · rw [if_pos h8]
    refine ⟨s, ⟨p, ?_, by omega, by omega, hP⟩, Eqx.rf, rfl, rfl⟩
    rw [E169_0, e0]
    simp (disch := omega) only [lit, nlt_f, if_false]
    rw [x_fail hx (by omega), bnd_some]
    exact if_pos (Or.inl rfl)
  rw [if_neg h8]
  -- what follows a fault
  have bad : ∀ q f, p + 1 ≤ q → q ≤ E → ∀ v : Int32, ev (d + 1 + 1 + 1) 147 0 [.inr 2, .inl (nI 2), .inr 0] [] (cur s (p + 1) none) = some (0, v, cur s q (some f)) → ∃ q, ev (d + 1 + 1 + 1 + 1) 169 0 [.inr 6, .inr 2, .inr 0, .inr 0] [] (cur s p none) = some (0, nI 0, cur s q (some f)) ∧ q ≤ E := fun q f h1 h2 v e1 => by
    obtain ⟨v2, q2, e2, -, l2⟩ := x_tpassB (d := d + 1) (f := f) (i := 44) hx h2 (by omega)
    obtain ⟨v3, q3, e3, -, l3⟩ := x_nnzB (d := d) (f := f) (m := 0) hx l2 (by omega)
    refine ⟨q3, ?_, l3⟩
    rw [E169_0, e0]
    simp (disch := omega) only [lit, nlt_t, if_true, x_step, bnd_some, e1, e2, e3, x_goodB, not_true_eq_false, if_false]
  have bad2 : ∀ q f r, p + 1 ≤ q → q ≤ E → r ≤ E → ∀ v : Int32, ev (d + 1 + 1 + 1) 147 0 [.inr 2, .inl (nI 2), .inr 0] [] (cur s (p + 1) none) = some (0, v, cur s q none) → ∀ v2 : Int32, ev (d + 1 + 1 + 1) 141 0 [.inr 2, .inl (nI 44)] [] (cur s q none) = some (0, v2, cur s r (some f)) → ∃ q, ev (d + 1 + 1 + 1 + 1) 169 0 [.inr 6, .inr 2, .inr 0, .inr 0] [] (cur s p none) = some (0, nI 0, cur s q (some f)) ∧ q ≤ E := fun q f r h1 h2 h2' v e1 v2 e2 => by
    obtain ⟨v3, q3, e3, -, l3⟩ := x_nnzB (d := d) (f := f) (m := 0) hx h2' (by omega)
    refine ⟨q3, ?_, l3⟩
    rw [E169_0, e0]
    simp (disch := omega) only [lit, nlt_t, if_true, x_step, bnd_some, e1, e2, e3, x_goodB, not_true_eq_false, if_false]
  have e1 := x_nnz (d := d) (w := none) (m := 1) hx (show p + 1 ≤ E by omega) (by omega)
  unfold lnN
  cases hD : isD (hd X E (p + 1)) with
  | false =>
    rw [hD, if_neg (show ¬ (false = true) by simp)] at e1
    rw [if_pos (show false = false from rfl)]
    obtain ⟨q, e, l⟩ := bad (p + 1) (p + 1) (by omega) (by omega) _ e1
    exact ⟨s, ⟨q, e, by omega, l, hP⟩, Eqx.rf, rfl, rfl⟩
  | true =>
    rw [hD, if_pos (show true = true from rfl)] at e1
    rw [if_neg (show ¬ (true = false) by simp)]
    have l1 := dg_le (X := X) (m := 2) (v := 0) (show p + 1 ≤ E by omega)
    have l2 : p + 1 + 1 ≤ (dg X E 2 (p + 1) 0).2 := dg_1 (m := 1) (v := 0) (show p + 1 ≤ E by omega) hD
    have l3 := dg_v (X := X) (E := E) (m := 2) (p := p + 1) (v := 0) (k := 0) (by decide)
    have l3 : (dg X E 2 (p + 1) 0).1 < 100 := l3
    have e1 : ev (d + 1 + 1 + 1) 147 0 [.inr 2, .inl (nI 2), .inr 0] [] (cur s (p + 1) none) = some (0, nI (dg X E 2 (p + 1) 0).1, cur s (dg X E 2 (p + 1) 0).2 (if (dg X E 2 (p + 1) 0).1 = 0 then fl none ((dg X E 2 (p + 1) 0).2 - 1) else none)) := e1
    generalize dg X E 2 (p + 1) 0 = r at e1 l1 l2 l3 ⊢
    obtain ⟨a, q⟩ := r
    dsimp only at e1 l1 l2 l3 ⊢
    by_cases ha : a = 0
    · rw [if_pos ha] at e1 ⊢
      obtain ⟨q', e, l⟩ := bad q (q - 1) l1.1 l1.2 _ e1
      exact ⟨s, ⟨q', e, by omega, l, hP⟩, Eqx.rf, rfl, rfl⟩
    rw [if_neg ha] at e1 ⊢
    have e2 := x_tpass (d := d + 1) (w := none) (c := 44) hx l1.2 (by omega)
    by_cases h44 : hd X E q = 44
    · rw [if_neg (not_not_intro h44)]
      rw [if_pos h44] at e2
      have hq : q < E := hd_lt (X := X) (by omega)
      have e3 := x_nnz (d := d) (w := none) (m := 0) hx (show q + 1 ≤ E by omega) (by omega)
      cases hD2 : isD (hd X E (q + 1)) with
      | false =>
        rw [hD2, if_neg (show ¬ (false = true) by simp)] at e3
        rw [if_pos (show false = false from rfl)]
        refine ⟨s, ⟨q + 1, ?_, by omega, by omega, hP⟩, Eqx.rf, rfl, rfl⟩
        rw [E169_0, e0]
        simp only [Nat.zero_add] at e3
        simp (disch := omega) only [lit, nlt_t, if_true, x_step, bnd_some, e1, e2, e3, fl_none, x_goodB, not_true_eq_false, if_false]
      | true =>
        rw [hD2, if_pos (show true = true from rfl)] at e3
        rw [if_neg (show ¬ (true = false) by simp)]
        have m1 := dg_le (X := X) (m := 1) (v := 0) (show q + 1 ≤ E by omega)
        have m2 := dg_1 (m := 0) (v := 0) (show q + 1 ≤ E by omega) hD2
        have m3 := dg_v (X := X) (E := E) (m := 1) (p := q + 1) (v := 0) (k := 0) (by decide)
        have m3 : (dg X E 1 (q + 1) 0).1 < 10 := m3
        have m2 : q + 1 + 1 ≤ (dg X E 1 (q + 1) 0).2 := m2
        have e3 : ev (d + 1 + 1 + 1) 147 0 [.inr 2, .inl (nI 1), .inr 0] [] (cur s (q + 1) none) = some (0, nI (dg X E 1 (q + 1) 0).1, cur s (dg X E 1 (q + 1) 0).2 (if (dg X E 1 (q + 1) 0).1 = 0 then fl none ((dg X E 1 (q + 1) 0).2 - 1) else none)) := e3
        generalize dg X E 1 (q + 1) 0 = r at e3 m1 m2 m3 ⊢
        obtain ⟨t, q'⟩ := r
        dsimp only at e3 m1 m2 m3 ⊢
        by_cases htz : t = 0
        · rw [if_pos htz] at e3 ⊢
          refine ⟨s, ⟨q', ?_, by omega, m1.2, hP⟩, Eqx.rf, rfl, rfl⟩
          rw [E169_0, e0]
          simp (disch := omega) only [lit, nlt_t, if_true, x_step, bnd_some, e1, e2, e3, fl_none, x_goodB, not_true_eq_false, if_false]
        rw [if_neg htz] at e3 ⊢
        have f1 : (cur s q' none) 6 10 = nI (tN T) := by rw [cur_ne (by decide)]; exact hP.2.1
        have f2 : (cur (up s 14 (tN T) (nI a)) q' none) 6 10 = nI (tN T) := by rw [cur_ne (by decide), up_ne (by decide)]; exact hP.2.1
        have f3 : (cur (up (up s 14 (tN T) (nI a)) 15 (tN T) (nI t)) q' none) 6 10 = nI (tN T) := by rw [cur_ne (by decide), up_ne (by decide), up_ne (by decide)]; exact hP.2.1
        have u1 : up (cur s q' none) 14 (tN T) (nI a) = cur (up s 14 (tN T) (nI a)) q' none := cur_up (by decide)
        have u2 : up (cur (up s 14 (tN T) (nI a)) q' none) 15 (tN T) (nI t) = cur (up (up s 14 (tN T) (nI a)) 15 (tN T) (nI t)) q' none := cur_up (by decide)
        have u3 : up (cur (up (up s 14 (tN T) (nI a)) 15 (tN T) (nI t)) q' none) 6 10 (nI (tN T + 1)) = cur (up (up (up s 14 (tN T) (nI a)) 15 (tN T) (nI t)) 6 10 (nI (tN T + 1))) q' none := cur_up (by decide)
        have qq : Eqx [6, 14, 15] s (up (up (up s 14 (tN T) (nI a)) 15 (tN T) (nI t)) 6 10 (nI (tN T + 1))) := ((Eqx.rf.up (by simp)).up (by simp)).up (by simp)
        obtain ⟨t1, t2, t3, t4⟩ := ht
        obtain ⟨p1, p2, p3, p4⟩ := hP
        refine ⟨up (up (up s 14 (tN T) (nI a)) 15 (tN T) (nI t)) 6 10 (nI (tN T + 1)), ⟨?_, ⟨?_, up_in, ⟨fun x hx => ?_, fun w hw => ?_⟩, fun l hl => ?_⟩, ⟨t1, by show tN T + 1 ≤ 8; omega, t3, fun w hw => ?_⟩, by omega, m1.2, rfl, a, t, rfl⟩, qq, by rw [up_out (by decide), up_ne (by decide), up_ne (by decide)], by rw [up_out (by decide), up_ne (by decide), up_ne (by decide)]⟩
        · rw [E169_0, e0]
          simp (disch := omega) only [lit, nlt_t, if_true, x_step, bnd_some, e1, e2, e3, x_goodN, f1, u1, f2, u2, f3, n_inb, n_ix, nI_add, u3, neq_f, not_false_eq_true]
        · rw [up_out (by decide), up_ne (by decide), up_ne (by decide)]; exact p1
        · rw [qq _ (by decide), qq _ (by decide), qq _ (by decide), qq _ (by decide)]; exact p3.1 x hx
        · have hw : w < tN T + 1 := hw
          show _ = nI (uO (tWo T) (tN T) a w) ∧ _ = nI (uO (tTe T) (tN T) t w)
          unfold uO
          by_cases hz : w = tN T
          · subst hz
            rw [if_pos rfl, if_pos rfl]
            refine ⟨?_, ?_⟩
            · rw [up_ne (by decide), up_ne (by decide), up_in]
            · rw [up_ne (by decide), up_in]
          · rw [if_neg hz, if_neg hz]
            refine ⟨?_, ?_⟩
            · rw [up_ne (by decide), up_ne (by decide), up_out hz]; exact (p3.2 w (by omega)).1
            · rw [up_ne (by decide), up_out hz, up_ne (by decide)]; exact (p3.2 w (by omega)).2
        · rw [qq _ (by decide)]; exact p4 l hl
        · have hw : w < tN T + 1 := hw
          show 1 ≤ uO (tWo T) (tN T) a w ∧ uO (tWo T) (tN T) a w ≤ 99 ∧ 1 ≤ uO (tTe T) (tN T) t w ∧ uO (tTe T) (tN T) t w ≤ 9
          unfold uO
          by_cases hz : w = tN T
          · rw [if_pos hz, if_pos hz]; omega
          · rw [if_neg hz, if_neg hz]; exact t4 w (by omega)
    · rw [if_pos h44]
      rw [if_neg h44] at e2
      obtain ⟨q', e, l⟩ := bad2 q q q l1.1 l1.2 l1.2 _ e1 _ e2
      exact ⟨s, ⟨q', e, l1.2, l, hP⟩, Eqx.rf, rfl, rfl⟩
end XTV
