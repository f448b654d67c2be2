/-! A TOWN TOLD: one line, all lines -/
/-- a town goes on: nothing of it has changed -/
def Ext (T T' : aT) : Prop := tW T ≤ tW T' ∧ tN T ≤ tN T' ∧ (∀ x, x < tW T → tLen T' x = tLen T x ∧ tSen T' x = tSen T x ∧ ∀ i, tSp T' x i = tSp T x i) ∧ ∀ w, w < tN T → tWo T' w = tWo T w ∧ tTe T' w = tTe T w
section XTS
variable {d E p m f a i v n g x l B : Nat} {s s' : mS} {X : aX} {T T' T'' T0 : aT} {c : Nat → Nat} {w : Option Nat} {sp : Nat → Nat} {S : aS} {cl : Nat → Int32}
theorem Ext.rf : Ext T T := ⟨Nat.le_refl _, Nat.le_refl _, fun _ _ => ⟨rfl, rfl, fun _ => rfl⟩, fun _ _ => ⟨rfl, rfl⟩⟩
theorem Ext.tr (h : Ext T T') (h2 : Ext T' T'') : Ext T T'' := by
  obtain ⟨a1, a2, a3, a4⟩ := h
  obtain ⟨b1, b2, b3, b4⟩ := h2
  refine ⟨by omega, by omega, fun x hx => ?_, fun w hw => ?_⟩
  · obtain ⟨c1, c2, c3⟩ := a3 x hx
    obtain ⟨d1, d2, d3⟩ := b3 x (by omega)
    exact ⟨d1.trans c1, d2.trans c2, fun i => (d3 i).trans (c3 i)⟩
  · obtain ⟨c1, c2⟩ := a4 w hw
    obtain ⟨d1, d2⟩ := b4 w (by omega)
    exact ⟨d1.trans c1, d2.trans c2⟩
theorem ext_W : Ext T (adW T n sp g) := by
  refine ⟨Nat.le_succ _, Nat.le_refl _, fun x hx => ?_, fun _ _ => ⟨rfl, rfl⟩⟩
  have hz : ¬ x = tW T := by omega
  show uO (tLen T) (tW T) n x = _ ∧ uO (tSen T) (tW T) g x = _ ∧ ∀ i, uO (tSp T) (tW T) sp x i = _
  unfold uO
  simp only [hz, if_false]
  exact ⟨trivial, trivial, fun _ => trivial⟩
theorem ext_N : Ext T (adN T a v) := by
  refine ⟨Nat.le_refl _, Nat.le_succ _, fun _ _ => ⟨rfl, rfl, fun _ => rfl⟩, fun w hw => ?_⟩
  have hz : ¬ w = tN T := by omega
  show uO (tWo T) (tN T) a w = _ ∧ uO (tTe T) (tN T) v w = _
  unfold uO
  simp only [hz, if_false]
  exact ⟨trivial, trivial⟩
theorem nd_ext (h : Ext T T') (hx : x < tW T) : nd T' x l = nd T x l := by
  obtain ⟨c1, c2, c3⟩ := h.2.2.1 x hx
  unfold nd
  rw [c1]
  exact sm_cong (fun i _ => by rw [c3 i])
theorem XTb_ext (hb : XTb T' s) (h : Ext T T') : XTb T s := by
  refine ⟨fun x hx => ?_, fun w hw => ?_⟩
  · obtain ⟨c1, c2, c3⟩ := h.2.2.1 x hx
    obtain ⟨d1, d2, d3, d4⟩ := hb.1 x (by have := h.1; omega)
    refine ⟨by rw [d1, c1], by rw [d2, c2], fun i hi => ?_, fun l hl => ?_⟩
    · rw [d3 i (by omega), c3 i]
    · rw [d4 l hl, nd_ext h hx]
  · obtain ⟨c1, c2⟩ := h.2.2.2 w hw
    obtain ⟨d1, d2⟩ := hb.2 w (by have := h.2.1; omega)
    exact ⟨by rw [d1, c1], by rw [d2, c2]⟩
theorem mis_ext {w : Nat} (h : Ext T T') (ho : sOk T S B) : mis T' S w = mis T S w := by
  unfold mis
  cases hn : sH S w with
  | none => rfl
  | some x =>
    have := (h.2.2.1 x (wOk_s (ho.1 w) hn).2.1).1
    show tLen T' x - _ = tLen T x - _
    rw [this]
theorem XC_ext (h : Ext T T') (ho : sOk T S B) (hc : XC T S cl) : XC T' S cl :=
  ⟨fun w hw => by rw [mis_ext h ho]; exact hc.1 w hw, hc.2⟩
theorem sOk_ext (h : Ext T T') (ho : sOk T S B) : sOk T' S B := by
  refine ⟨fun w => ?_, ho.2⟩
  have hw := ho.1 w
  unfold wOk at hw ⊢
  cases hn : sH S w with
  | none => rw [hn] at hw; exact hw
  | some x =>
    rw [hn] at hw
    obtain ⟨c1, c2, c3, c4⟩ := hw
    exact ⟨by have := h.2.1; omega, by have := h.1; omega, fun l => by rw [nd_ext h c2]; exact c3 l, c4⟩
def tQ : List Nat := [6, 8, 9, 10, 11, 12, 13, 14, 15]
theorem x_line (hx : XE X E s) (hp : p ≤ E) (hP : XP T c s) (ht : tOk T) (hc : ∀ l, l < 10 → c l ≤ 20) : ∃ s', (match line X E p T c with
    | .inl f => ∃ q, ev (d + 1 + 1 + 1 + 1 + 1) 165 0 [.inr 6, .inr 2, .inr 0] [] (cur s p none) = some (0, nI 0, cur s' q (some f)) ∧ f ≤ E ∧ q ≤ E ∧ XP T c s'
    | .inr (p', T', c') => ev (d + 1 + 1 + 1 + 1 + 1) 165 0 [.inr 6, .inr 2, .inr 0] [] (cur s p none) = some (0, nI 1, cur s' p' none) ∧ XP T' c' s' ∧ tOk T' ∧ p < p' ∧ p' ≤ E ∧ (∀ l, l < 10 → c l ≤ c' l ∧ c' l ≤ 20) ∧ Ext T T') ∧ Eqx tQ s s' ∧ s' 6 2 = s 6 2 ∧ s' 6 9 = s 6 9 := by
  have ea := x_ahead (d := d + 1 + 1 + 1 + 1) (w := none) hx hp
  have hcc : ∀ l, l < 10 → c l ≤ c l ∧ c l ≤ 20 := fun l hl => ⟨Nat.le_refl _, hc l hl⟩
  unfold line
  have h119 := hI_c (p := p) (X := X) (E := E) (show 119 < 256 by omega) (hd_le hx)
  by_cases hw : hd X E p = 119
  · rw [if_pos hw]
    obtain ⟨s', g, q, g2, g9⟩ := x_readWall (d := d) hx hw hP ht
    refine ⟨s', ?_, q.mono (by decide), g2, g9⟩
    have st : ∀ v r, ev (d + 1 + 1 + 1 + 1) 169 0 [.inr 6, .inr 2, .inr 0, .inr 0] [] (cur s p none) = some (0, v, r) → (v = 0 ∨ v = 1) → ev (d + 1 + 1 + 1 + 1 + 1) 165 0 [.inr 6, .inr 2, .inr 0] [] (cur s p none) = some (0, v, r) := fun v r e hv => by
      rw [E165_0]
      simp only [lit, ea, bnd_some, h119.trans (eq_true hw), not_true_eq_false, if_false, e]
      exact if_pos hv
    cases hr : (if 8 ≤ tN T then .inl p else lnN X E (p + 1) T c : Sum Nat (Nat × aT × (Nat → Nat))) with
    | inl f =>
      rw [hr] at g
      obtain ⟨q', e, r⟩ := g
      exact ⟨q', st _ _ e (Or.inl rfl), r⟩
    | inr r =>
      obtain ⟨p', T', c'⟩ := r
      rw [hr] at g
      obtain ⟨e, r1, r2, r3, r4, r5, a, t, r6⟩ := g
      subst r5 r6
      exact ⟨st _ _ e (Or.inr rfl), r1, r2, r3, r4, hcc, ext_N⟩
  rw [if_neg hw]
  have el := x_letter (d := d + 1 + 1) (w := none) hx hp
  cases hL : isL (hd X E p) with
  | false =>
    rw [hL, if_neg (show ¬ (false = true) by simp)] at el
    rw [if_pos (show false = false from rfl)]
    refine ⟨s, ⟨p, ?_, hp, hp, hP⟩, Eqx.rf, rfl, rfl⟩
    rw [E165_0]
    simp only [lit, ea, bnd_some, h119.trans (eq_false hw), not_false_eq_true, if_true, el, not_true_eq_false, if_false, fl_none]
  | true =>
    rw [hL, if_pos (show true = true from rfl)] at el
    rw [if_neg (show ¬ (true = false) by simp)]
    have hpE : p < E := isL_lt hL
    have hb0 := of_decide_eq_true hL
    have ed := x_atDigit (d := d + 1 + 1 + 1) (w := none) hx (show p + 1 ≤ E by omega)
    have hne : ¬ nI (hd X E p - 97) = -nI 1 := by rw [nneg_f (by omega) (by omega) (by omega)]; exact id
    cases hD : isD (hd X E (p + 1)) with
    | true =>
      rw [hD] at ed
      rw [if_pos (show true = true from rfl)]
      obtain ⟨s', g, q⟩ := x_readStock (d := d + 1) (l := hd X E p - 97) hx (show p + 1 ≤ E by omega) hD hP (by omega) (hc _ (by omega))
      refine ⟨s', ?_, q.mono (by decide), by rw [q _ (by decide)], by rw [q _ (by decide)]⟩
      have st : ∀ v r, ev (d + 1 + 1 + 1 + 1) 166 0 [.inr 6, .inr 2, .inl (nI (hd X E p - 97)), .inr 0] [] (cur s (p + 1) none) = some (0, v, r) → (v = 0 ∨ v = 1) → ev (d + 1 + 1 + 1 + 1 + 1) 165 0 [.inr 6, .inr 2, .inr 0] [] (cur s p none) = some (0, v, r) := fun v r e hv => by
        rw [E165_0]
        simp only [lit, ea, bnd_some, h119.trans (eq_false hw), not_false_eq_true, if_true, el, hne, ed, bIt0, if_false, e, E165_49]
        exact if_pos hv
      have lls := lnS X E (p + 1) (hd X E p - 97) T c
      cases hr : lnS X E (p + 1) (hd X E p - 97) T c with
      | inl f =>
        rw [hr] at g
        obtain ⟨e, r1, r2⟩ := g
        exact ⟨_, st _ _ e (Or.inl rfl), by omega, (dg_le (show p + 1 ≤ E by omega)).2, r2⟩
      | inr r =>
        obtain ⟨p', T', c'⟩ := r
        rw [hr] at g
        obtain ⟨e, r1, r2, r3, r4, r5⟩ := g
        subst r2
        refine ⟨st _ _ e (Or.inr rfl), r1, ht, by omega, r4, fun l hl => ?_, Ext.rf⟩
        have hc' : c' = uO c (hd X E p - 97) (c (hd X E p - 97) + (dg X E 2 (p + 1) 0).1) ∧ ¬ 20 < c (hd X E p - 97) + (dg X E 2 (p + 1) 0).1 := by
          unfold lnS at hr
          split at hr
          · cases hr
          · next hn =>
            cases hr
            exact ⟨rfl, hn⟩
        rw [hc'.1]
        have h20 := hc'.2
        have := hc l hl
        unfold uO
        by_cases hz : l = hd X E p - 97
        · subst hz
          rw [if_pos rfl]
          omega
        · rw [if_neg hz]; omega
    | false =>
      rw [hD] at ed
      rw [if_neg (show ¬ (false = true) by simp)]
      obtain ⟨s', g, q, g2, g9⟩ := x_readWord (d := d + 1) hx hL hP ht
      refine ⟨s', ?_, q.mono (by decide), g2, g9⟩
      have st : ∀ v r, ev (d + 1 + 1 + 1 + 1) 167 0 [.inr 6, .inr 2, .inl (nI (hd X E p - 97)), .inr 0, .inr 0] [] (cur s (p + 1) none) = some (0, v, r) → (v = 0 ∨ v = 1) → ev (d + 1 + 1 + 1 + 1 + 1) 165 0 [.inr 6, .inr 2, .inr 0] [] (cur s p none) = some (0, v, r) := fun v r e hv => by
        rw [E165_0]
        simp only [lit, ea, bnd_some, h119.trans (eq_false hw), not_false_eq_true, if_true, el, hne, ed, bIf0, e, E165_49]
        exact if_pos hv
      cases hr : lnW X E p (lts X E 7 (p + 1) + 1) T c with
      | inl f =>
        rw [hr] at g
        obtain ⟨q', e, r⟩ := g
        exact ⟨q', st _ _ e (Or.inl rfl), r⟩
      | inr r =>
        obtain ⟨p', T', c'⟩ := r
        rw [hr] at g
        obtain ⟨e, r1, r2, r3, r4, r5, n, sp, g', r6⟩ := g
        subst r5 r6
        exact ⟨st _ _ e (Or.inr rfl), r1, r2, r3, r4, hcc, ext_W⟩
theorem x_lns (hE : E ≤ 76) : ∀ k i p n T c (s : mS), k + i = 76 → 2 * i ≤ p → p ≤ E → XE X E s → XP T c s → tOk T → (∀ l, l < 10 → c l ≤ 20) → ∃ s', (match lns X E k p n T c with
    | .inl f => ∃ q n' T' c', ev (d + 1 + 1 + 1 + 1 + 1 + 1) 164 55 [.inr 6, .inr 2, .inl (nI n), .inl (nI 1), .inl (nI i)] [] (cur s p none) = ev (d + 1 + 1 + 1 + 1 + 1 + 1) 164 98 [.inr 6, .inr 2, .inl (nI n'), .inr 0, .inr 0] [] (cur s' q (some f)) ∧ f ≤ E ∧ q ≤ E ∧ XP T' c' s' ∧ Ext T T'
    | .inr (p', n', T', c') => ev (d + 1 + 1 + 1 + 1 + 1 + 1) 164 55 [.inr 6, .inr 2, .inl (nI n), .inl (nI 1), .inl (nI i)] [] (cur s p none) = ev (d + 1 + 1 + 1 + 1 + 1 + 1) 164 98 [.inr 6, .inr 2, .inl (nI n'), .inr 0, .inr 0] [] (cur s' p' none) ∧ XP T' c' s' ∧ tOk T' ∧ p' ≤ E ∧ (∀ l, l < 10 → c l ≤ c' l ∧ c' l ≤ 20) ∧ Ext T T' ∧ n < n' ∧ n' ≤ n + k) ∧ Eqx tQ s s' ∧ s' 6 2 = s 6 2 ∧ s' 6 9 = s 6 9 := by
  intro k
  induction k with
  | zero => intro i p n T c s hk hi hp; omega
  | succ k ih =>
    intro i p n T c s hk hi hp hx hP ht hc
    obtain ⟨s1, g, q, g2, g9⟩ := x_line (d := d) hx hp hP ht hc
    have stop : ∀ r, ev (d + 1 + 1 + 1 + 1 + 1 + 1) 164 90 [.inr 6, .inr 2, .inl (nI (n + 1)), .inr 0, .inl (nI i)] [] r = ev (d + 1 + 1 + 1 + 1 + 1 + 1) 164 98 [.inr 6, .inr 2, .inl (nI (n + 1)), .inr 0, .inr 0] [] r := fun r => by
      rw [E164_90, E164_91, E164_55]
      by_cases h76 : 76 ≤ i + 1
      · simp (disch := omega) only [lit, nI_add, pk_mul, n_sub, n_addneg, nle_t, nle_f, nlt_t, nlt_f, neq_t, neq_f, n_inb, n_ix, bnd_some, if_true, if_false, ite_tt, ite_ff, not_true_eq_false, not_false_eq_true, eq_self, false_or, or_false, true_or, or_true]
      · simp (disch := omega) only [lit, nI_add, pk_mul, n_sub, n_addneg, nle_t, nle_f, nlt_t, nlt_f, neq_t, neq_f, n_inb, n_ix, bnd_some, if_true, if_false, ite_tt, ite_ff, not_true_eq_false, not_false_eq_true, eq_self, false_or, or_false, true_or, or_true]
    unfold lns
    cases hr : line X E p T c with
    | inl f =>
      rw [hr] at g
      obtain ⟨q', e, r1, r2, r3⟩ := g
      refine ⟨s1, ⟨q', n + 1, T, c, ?_, r1, r2, r3, Ext.rf⟩, q, g2, g9⟩
      rw [← stop, E164_55]
      simp (disch := omega) only [e, lit, nI_add, pk_mul, n_sub, n_addneg, nle_t, nle_f, nlt_t, nlt_f, neq_t, neq_f, n_inb, n_ix, bnd_some, if_true, if_false, ite_tt, ite_ff, not_true_eq_false, not_false_eq_true, eq_self, false_or, or_false, true_or, or_true]
    | inr r =>
      obtain ⟨p', T', c'⟩ := r
      rw [hr] at g
      obtain ⟨e, r1, r2, r3, r4, r5, r6⟩ := g
      have hx1 := XE_q hx q (by decide) (by decide)
      have e2 := x_passIf (d := d + 1 + 1 + 1 + 1) (w := none) (c := 59) hx1 r4 (by omega)
      dsimp only
      by_cases h59 : hd X E p' = 59
      · rw [if_pos h59]
        rw [if_pos h59] at e2
        have hlt : p' < E := hd_lt (X := X) (by omega)
        obtain ⟨s2, g', q2, g2', g9'⟩ := ih (i + 1) (p' + 1) (n + 1) T' c' s1 (by omega) (by omega) (by omega) hx1 r1 r2 (fun l hl => (r5 l hl).2)
        have st : ev (d + 1 + 1 + 1 + 1 + 1 + 1) 164 55 [.inr 6, .inr 2, .inl (nI n), .inl (nI 1), .inl (nI i)] [] (cur s p none) = ev (d + 1 + 1 + 1 + 1 + 1 + 1) 164 55 [.inr 6, .inr 2, .inl (nI (n + 1)), .inl (nI 1), .inl (nI (i + 1))] [] (cur s1 (p' + 1) none) := by
          rw [E164_55]
          simp (disch := omega) only [e, e2, E164_91, lit, nI_add, pk_mul, n_sub, n_addneg, nle_t, nle_f, nlt_t, nlt_f, neq_t, neq_f, n_inb, n_ix, bnd_some, if_true, if_false, ite_tt, ite_ff, not_true_eq_false, not_false_eq_true, eq_self, false_or, or_false, true_or, or_true]
        refine ⟨s2, ?_, q.tr q2, g2'.trans g2, g9'.trans g9⟩
        rw [st]
        cases hl : lns X E k (p' + 1) (n + 1) T' c' with
        | inl f =>
          rw [hl] at g'
          obtain ⟨q', n', T2, c2, e', t1, t2, t3, t4⟩ := g'
          exact ⟨q', n', T2, c2, e', t1, t2, t3, r6.tr t4⟩
        | inr r =>
          obtain ⟨p2, n2, T2, c2⟩ := r
          rw [hl] at g'
          obtain ⟨e', t1, t2, t3, t4, t5, t6, t7⟩ := g'
          exact ⟨e', t1, t2, t3, fun l hl => ⟨Nat.le_trans (r5 l hl).1 (t4 l hl).1, (t4 l hl).2⟩, r6.tr t5, by omega, by omega⟩
      · rw [if_neg h59]
        rw [if_neg h59] at e2
        refine ⟨s1, ⟨?_, r1, r2, r4, r5, r6, by omega, by omega⟩, q, g2, g9⟩
        rw [← stop, E164_55]
        simp (disch := omega) only [e, e2, lit, nI_add, pk_mul, n_sub, n_addneg, nle_t, nle_f, nlt_t, nlt_f, neq_t, neq_f, n_inb, n_ix, bnd_some, if_true, if_false, ite_tt, ite_ff, not_true_eq_false, not_false_eq_true, eq_self, false_or, or_false, true_or, or_true]
end XTS
