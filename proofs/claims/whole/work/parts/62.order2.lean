/-! AN ORDER TOLD: the class's reader -/
def SO (s : mS) (j : Nat) (o : aO) : Prop := s 32 j = nI o.1 ∧ s 33 j = nI o.2.1 ∧ s 34 j = nI o.2.2.1 ∧ s 35 j = nI o.2.2.2
def oQ : List Nat := [31, 32, 33, 34, 35]
section XOS
variable {d E p sz k m q : Nat} {s s' : mS} {X : aX} {w : Option Nat} {v : Int32}
theorem VP_let : VP X E (fun p => if isL (hd X E p) = true then .inr (p + 1, hd X E p - 97) else .inl p) (fun s => ev (d + 1 + 1) 145 0 [.inr 2, .inr 0] [] s) := by
  intro s p hx hp
  refine ⟨?_, fun f => ?_⟩
  · have e := x_letter (d := d) (w := none) hx hp
    dsimp only
    cases hL : isL (hd X E p) with
    | true =>
      rw [hL, if_pos (show true = true from rfl)] at e
      rw [if_pos (show true = true from rfl)]
      have hb := of_decide_eq_true hL
      exact ⟨e, by omega, isL_lt hL, by omega⟩
    | false =>
      rw [hL, if_neg (show ¬ (false = true) by simp)] at e
      rw [if_neg (show ¬ (false = true) by simp)]
      exact ⟨_, _, e, hp, hp⟩
  · have e := x_letter (d := d) (w := some f) hx hp
    dsimp only
    cases hL : isL (hd X E p) with
    | true =>
      rw [hL, if_pos (show true = true from rfl)] at e
      exact ⟨_, _, e, isL_lt hL⟩
    | false =>
      rw [hL, if_neg (show ¬ (false = true) by simp)] at e
      exact ⟨_, _, e, hp⟩
theorem x_103 (h4 : s 31 4 = nI sz) (hsz : sz < 60) : ev (d + 1 + 1 + 1 + 1) 26 103 [.inr 31, .inr 2, .inr 0] [.inl v, .inl (nI sz), .inr 35] (cur s q w) = some (0, bI (decide (w = none)), cur (up (up s 35 sz v) 31 4 (nI (sz + 1))) q w) := by
  have u1 : up (cur s q w) 35 sz v = cur (up s 35 sz v) q w := cur_up (by decide)
  have u2 : (cur (up s 35 sz v) q w) 31 4 = nI sz := by rw [cur_ne (by decide), up_ne (by decide)]; exact h4
  have u3 : up (cur (up s 35 sz v) q w) 31 4 (nI (sz + 1)) = cur (up (up s 35 sz v) 31 4 (nI (sz + 1))) q w := cur_up (by decide)
  rw [E26_103]
  simp (disch := omega) only [lit, n_inb, n_ix, if_true, u1, u2, nI_add, u3, x_good, bnd_some]
  refine if_pos ?_
  generalize decide (w = none) = c
  cases c
  · exact Or.inl rfl
  · exact Or.inr rfl
/-- what follows the second number -/
noncomputable def b34 (d k sz : Nat) (v : Int32) (S : mS) : Option mR := if ¬ nI k = nI 108 then ev (d + 1 + 1 + 1 + 1) 26 103 [.inr 31, .inr 2, .inr 0] [.inl (nI 0), .inl (nI sz), .inr 35] (up S 34 sz v) else bnd (ev (d + 1 + 1 + 1) 145 0 [.inr 2, .inr 0] [] (up S 34 sz v)) (fun v2 s2 => ev (d + 1 + 1 + 1 + 1) 26 103 [.inr 31, .inr 2, .inr 0] [.inl v2, .inl (nI sz), .inr 35] s2)
theorem x_34 (hx : XE X E s) (hq : q ≤ E) (h4 : s 31 4 = nI sz) (hsz : sz < 60) (hk : k ≤ 256) : match letP X E k q with
    | .inl f => ∃ s' q', b34 d k sz v (cur s q none) = some (0, nI 0, cur s' q' (some f)) ∧ f ≤ E ∧ q' ≤ E ∧ Eqx oQ s s'
    | .inr (t, l) => b34 d k sz v (cur s q none) = some (0, nI 1, cur (up (up (up s 34 sz v) 35 sz (nI l)) 31 4 (nI (sz + 1))) t none) ∧ q ≤ t ∧ t ≤ E := by
  have u1 : up (cur s q none) 34 sz v = cur (up s 34 sz v) q none := cur_up (by decide)
  have q1 : Eqx oQ s (up s 34 sz v) := Eqx.rf.up (by decide)
  have x1 := XE_q hx q1 (by decide) (by decide)
  have h4' : (up s 34 sz v) 31 4 = nI sz := by rw [up_ne (by decide)]; exact h4
  unfold letP b34
  rw [u1]
  by_cases hk8 : k = 108
  · rw [if_pos hk8]
    obtain ⟨g, -⟩ := VP_let (d := d + 1) _ q x1 hq
    dsimp only at g
    simp only [hk8, not_true_eq_false, if_false]
    cases hL : isL (hd X E q) with
    | true =>
      rw [hL, if_pos (show true = true from rfl)] at g
      rw [if_pos (show true = true from rfl)]
      obtain ⟨g1, g2, g3, -⟩ := g
      refine ⟨?_, g2, g3⟩
      rw [g1, bnd_some, x_103 h4' hsz]
      rfl
    | false =>
      rw [hL, if_neg (show ¬ (false = true) by simp)] at g
      rw [if_neg (show ¬ (false = true) by simp)]
      obtain ⟨v2, q2, g1, g2, g3⟩ := g
      refine ⟨_, q2, ?_, g2, g3, (q1.up (a := 35) (i := sz) (v := v2) (by decide)).up (a := 31) (i := 4) (v := nI (sz + 1)) (by decide)⟩
      rw [g1, bnd_some, x_103 h4' hsz]
      rfl
  · rw [if_neg hk8]
    have n8 : ¬ nI k = nI 108 := fun z => hk8 ((nI_eq (by omega) (by omega)).mp z)
    refine ⟨?_, Nat.le_refl _, hq⟩
    rw [if_pos n8, x_103 h4' hsz]
    rfl
theorem x_34B {f : Nat} (hx : XE X E s) (hq : q ≤ E) (h4 : s 31 4 = nI sz) (hsz : sz < 60) (hk : k ≤ 256) : ∃ s' q', b34 d k sz v (cur s q (some f)) = some (0, nI 0, cur s' q' (some f)) ∧ q' ≤ E ∧ Eqx oQ s s' := by
  have u1 : up (cur s q (some f)) 34 sz v = cur (up s 34 sz v) q (some f) := cur_up (by decide)
  have q1 : Eqx oQ s (up s 34 sz v) := Eqx.rf.up (by decide)
  have x1 := XE_q hx q1 (by decide) (by decide)
  have h4' : (up s 34 sz v) 31 4 = nI sz := by rw [up_ne (by decide)]; exact h4
  unfold b34
  rw [u1]
  by_cases hk8 : k = 108
  · obtain ⟨-, g⟩ := VP_let (d := d + 1) _ q x1 hq
    obtain ⟨v2, q2, g1, g2⟩ := g f
    dsimp only at g1
    refine ⟨_, q2, ?_, g2, (q1.up (a := 35) (i := sz) (v := v2) (by decide)).up (a := 31) (i := 4) (v := nI (sz + 1)) (by decide)⟩
    simp only [hk8, not_true_eq_false, if_false]
    rw [g1, bnd_some, x_103 h4' hsz]
    rfl
  · have n8 : ¬ nI k = nI 108 := fun z => hk8 ((nI_eq (by omega) (by omega)).mp z)
    refine ⟨_, q, ?_, hq, (q1.up (a := 35) (i := sz) (v := nI 0) (by decide)).up (a := 31) (i := 4) (v := nI (sz + 1)) (by decide)⟩
    rw [if_pos n8, x_103 h4' hsz]
    rfl
theorem x_66 {b0 : Int32} {r : mS} (h4 : s 31 4 = nI sz) (hsz : sz < 60) (hr : r 31 4 = nI sz) (e : ev (d + 1 + 1 + 1) 27 0 [.inr 2, .inl (nI k)] [] (cur (up s 33 sz b0) q w) = some (0, v, r)) : ev (d + 1 + 1 + 1 + 1) 26 66 [.inr 31, .inr 2, .inl (nI k)] [.inl b0, .inl (nI sz), .inr 33] (cur s q w) = b34 d k sz v r := by
  have u1 : up (cur s q w) 33 sz b0 = cur (up s 33 sz b0) q w := cur_up (by decide)
  have u2 : (cur (up s 33 sz b0) q w) 31 4 = nI sz := by rw [cur_ne (by decide), up_ne (by decide)]; exact h4
  have u3 : (up r 34 sz v) 31 4 = nI sz := by rw [up_ne (by decide)]; exact hr
  unfold b34
  rw [E26_66]
  simp (disch := omega) only [lit, n_inb, n_ix, if_true, u1, e, bnd_some, u2, u3]
theorem x_rstep (hx : XE X E s) (hp : p ≤ E) (h4 : s 31 4 = nI sz) (hsz : sz < 60) : ∃ s', Eqx oQ s s' ∧ match stpP X E p with
    | .inl f => ∃ q, ev (d + 1 + 1 + 1 + 1) 26 0 [.inr 31, .inr 2, .inr 0] [] (cur s p none) = some (0, nI 0, cur s' q (some f)) ∧ f ≤ E ∧ q ≤ E
    | .inr (q, o) => ev (d + 1 + 1 + 1 + 1) 26 0 [.inr 31, .inr 2, .inr 0] [] (cur s p none) = some (0, nI 1, cur s' q none) ∧ p < q ∧ q ≤ E ∧ isKd o.1 = true ∧ o.2.1 < 100 ∧ o.2.2.1 < 100 ∧ o.2.2.2 < 10 ∧ s' 31 4 = nI (sz + 1) ∧ SO s' sz o ∧ ∀ j, j < sz → ∀ pl, 32 ≤ pl ∧ pl ≤ 35 → s' pl j = s pl j := by
  have hle := hd_le (p := p) hx
  have ea := x_ahead (d := d + 1 + 1 + 1) (w := none) hx hp
  have ek := x_isKind (d := d + 1 + 1 + 1) (s := cur s p none) hle
  have e4 : (cur s p none) 31 4 = nI sz := by rw [cur_ne (by decide)]; exact h4
  unfold stpP
  cases hk : isKd (hd X E p) with
  | false =>
    rw [if_neg (show ¬ (false = true) by simp)]
    rw [hk] at ek
    have ef := x_fail (d := d + 1 + 1) (w := none) hx hp
    refine ⟨s, Eqx.rf, p, ?_, hp, hp⟩
    have e24 : ev (d + 1 + 1 + 1 + 1) 26 24 [.inr 0, .inr 2, .inr 0] [] (cur s p none) = some (0, nI 0, cur s p (some p)) := by
      rw [E26_24, ef, bnd_some]
      exact if_pos (Or.inl rfl)
    rw [E26_0]
    simp (disch := omega) only [lit, ea, bnd_some, e4, nle_f, if_false, ek, bIf0, not_true_eq_false, e24]
  | true =>
    rw [if_pos (show true = true from rfl)]
    rw [hk] at ek
    have hkv := of_decide_eq_true hk
    have h256 : hd X E p ≠ 256 := by omega
    have hpE : p < E := hd_lt h256
    have hhI : hI (hd X E p) = nI (hd X E p) := if_neg h256
    rw [hhI] at ea ek
    generalize hkk : hd X E p = k at hk hkv ea ek h256 hle
    obtain ⟨s1, hs1⟩ : ∃ s1, s1 = up s 32 sz (nI k) := ⟨_, rfl⟩
    have q1 : Eqx oQ s s1 := by rw [hs1]; exact Eqx.rf.up (by decide)
    have x1 := XE_q hx q1 (by decide) (by decide)
    have h41 : s1 31 4 = nI sz := by rw [hs1, up_ne (by decide)]; exact h4
    have u1 : up (cur s (p + 1) none) 32 sz (nI k) = cur s1 (p + 1) none := by rw [hs1]; exact cur_up (by decide)
    have e41 : (cur s (p + 1) none) 31 4 = nI sz := by rw [cur_ne (by decide)]; exact h4
    have e42 : (cur s1 (p + 1) none) 31 4 = nI sz := by rw [cur_ne (by decide)]; exact h41
    -- the first number
    have h66 : match fstP X E k (p + 1) with
        | .inl f => ∃ v q, ev (d + 1 + 1 + 1 + 1) 26 0 [.inr 31, .inr 2, .inr 0] [] (cur s p none) = ev (d + 1 + 1 + 1 + 1) 26 66 [.inr 31, .inr 2, .inl (nI k)] [.inl v, .inl (nI sz), .inr 33] (cur s1 q (some f)) ∧ f ≤ E ∧ q ≤ E
        | .inr (q, a) => ev (d + 1 + 1 + 1 + 1) 26 0 [.inr 31, .inr 2, .inr 0] [] (cur s p none) = ev (d + 1 + 1 + 1 + 1) 26 66 [.inr 31, .inr 2, .inl (nI k)] [.inl (nI a), .inl (nI sz), .inr 33] (cur s1 q none) ∧ p + 1 ≤ q ∧ q ≤ E ∧ a < 100 := by
      unfold fstP
      by_cases h110 : k = 110
      · rw [if_pos h110]
        refine ⟨?_, Nat.le_refl _, hpE, by omega⟩
        rw [E26_0]
        simp (disch := omega) only [lit, ea, bnd_some, e4, nle_f, if_false, ek, bIt0, not_false_eq_true, if_true, x_step, e41, n_inb, n_ix, u1, neq_t, not_true_eq_false, e42]
      · rw [if_neg h110]
        obtain ⟨g, -⟩ := VP_num (X := X) (E := E) (d := d + 1) (m := 0) (by omega) s1 (p + 1) x1 hpE
        have start : ∀ v r, r 31 4 = nI sz → ev (d + 1 + 1 + 1) 146 0 [.inr 2, .inl (nI 1), .inr 0, .inr 0] [] (cur s1 (p + 1) none) = some (0, v, r) → ev (d + 1 + 1 + 1 + 1) 26 0 [.inr 31, .inr 2, .inr 0] [] (cur s p none) = ev (d + 1 + 1 + 1 + 1) 26 66 [.inr 31, .inr 2, .inl (nI k)] [.inl v, .inl (nI sz), .inr 33] r := fun v r hr e => by
          rw [E26_0]
          simp (disch := omega) only [lit, ea, bnd_some, e4, nle_f, if_false, ek, bIt0, not_false_eq_true, if_true, x_step, e41, n_inb, n_ix, u1, neq_f, e42, e]
        dsimp only at g
        cases hD : isD (hd X E (p + 1)) with
        | true =>
          rw [hD, if_pos (show true = true from rfl)] at g
          rw [if_pos (show true = true from rfl)]
          obtain ⟨g1, g2, g3, g4⟩ := g
          exact ⟨start _ _ (by rw [cur_ne (by decide)]; exact h41) g1, g2, g3, g4⟩
        | false =>
          rw [hD, if_neg (show ¬ (false = true) by simp)] at g
          rw [if_neg (show ¬ (false = true) by simp)]
          obtain ⟨v, q, g1, g2, g3⟩ := g
          exact ⟨v, q, start _ _ (by rw [cur_ne (by decide)]; exact h41) g1, g2, g3⟩
    cases hF : fstP X E k (p + 1) with
    | inl f =>
      rw [hF] at h66
      obtain ⟨v, q, e66, l1, l2⟩ := h66
      have q2 : Eqx oQ s1 (up s1 33 sz v) := Eqx.rf.up (by decide)
      have x2 := XE_q x1 q2 (by decide) (by decide)
      have h42 : (up s1 33 sz v) 31 4 = nI sz := by rw [up_ne (by decide)]; exact h41
      obtain ⟨v2, q', e27, l3⟩ := (VP_snd (d := d) hkv _ q x2 l2).2 f
      obtain ⟨s', q3, e34, l4, q5⟩ := x_34B (d := d) (v := v2) (k := k) (f := f) x2 l3 h42 hsz hle
      refine ⟨s', (q1.tr q2).tr q5, q3, ?_, l1, l4⟩
      rw [e66, x_66 h41 hsz (by rw [cur_ne (by decide)]; exact h42) e27, e34]
    | inr rr =>
      obtain ⟨q, a⟩ := rr
      rw [hF] at h66
      obtain ⟨e66, l1, l2, la⟩ := h66
      have q2 : Eqx oQ s1 (up s1 33 sz (nI a)) := Eqx.rf.up (by decide)
      have x2 := XE_q x1 q2 (by decide) (by decide)
      have h42 : (up s1 33 sz (nI a)) 31 4 = nI sz := by rw [up_ne (by decide)]; exact h41
      have g := (VP_snd (d := d) hkv _ q x2 l2).1
      dsimp only
      cases hS : secP X E k q with
      | inl f =>
        rw [hS] at g
        obtain ⟨v2, q', e27, l3, l3'⟩ := g
        obtain ⟨s', q3, e34, l4, q5⟩ := x_34B (d := d) (v := v2) (k := k) (f := f) x2 l3' h42 hsz hle
        refine ⟨s', (q1.tr q2).tr q5, q3, ?_, l3, l4⟩
        rw [e66, x_66 h41 hsz (by rw [cur_ne (by decide)]; exact h42) e27, e34]
      | inr rr =>
        obtain ⟨r, b⟩ := rr
        rw [hS] at g
        obtain ⟨e27, l3, l3', lb⟩ := g
        have g2 := x_34 (d := d) (v := nI b) (k := k) x2 l3' h42 hsz hle
        dsimp only
        cases hL : letP X E k r with
        | inl f =>
          rw [hL] at g2
          obtain ⟨s', q3, e34, l4, l5, q5⟩ := g2
          refine ⟨s', (q1.tr q2).tr q5, q3, ?_, l4, l5⟩
          rw [e66, x_66 h41 hsz (by rw [cur_ne (by decide)]; exact h42) e27, e34]
        | inr rr =>
          obtain ⟨t, l⟩ := rr
          rw [hL] at g2
          obtain ⟨e34, l4, l5⟩ := g2
          have ll : l < 10 := by
            unfold letP at hL
            split at hL
            · split at hL
              · next hz =>
                have := of_decide_eq_true hz
                cases hL
                omega
              · cases hL
            · cases hL; omega
          refine ⟨_, (q1.tr q2).tr (((Eqx.rf.up (a := 34) (i := sz) (v := nI b) (by decide)).up (a := 35) (i := sz) (v := nI l) (by decide)).up (a := 31) (i := 4) (v := nI (sz + 1)) (by decide)), ?_, by omega, l5, hk, la, lb, ll, up_in, ⟨?_, ?_, ?_, ?_⟩, fun j hj pl hpl => ?_⟩
          · rw [e66, x_66 h41 hsz (by rw [cur_ne (by decide)]; exact h42) e27, e34]
          · rw [up_ne (by decide), up_ne (by decide), up_ne (by decide), up_ne (by decide), hs1, up_in]
          · rw [up_ne (by decide), up_ne (by decide), up_ne (by decide), up_in]
          · rw [up_ne (by decide), up_ne (by decide), up_in]
          · rw [up_ne (by decide), up_in]
          · have ne : ∀ (S : mS) a i v, i ≠ j ∨ a ≠ pl → up S a i v pl j = S pl j := fun S a i v h => by
              by_cases ha : a = pl
              · subst ha
                exact up_out (by omega)
              · rw [up_ne (fun z => ha z.symm)]
            rw [ne _ _ _ _ (Or.inr (by omega)), ne _ _ _ _ (Or.inl (by omega)), ne _ _ _ _ (Or.inl (by omega)), ne _ _ _ _ (Or.inl (by omega)), hs1, ne _ _ _ _ (Or.inl (by omega))]
end XOS
