/-! CALLS: streets -/
abbrev aN : Type := Nat × Option Nat
def stS (key : Nat) (r : aN) : aN := (r.1 + 1, match r.2 with
  | none => some key
  | some k => some (if key < k then key else k))
/-- each word in, each word out -/
def stD (T : aT) : Nat → Nat → Nat → (Nat → Nat) → Nat → Nat → aN → aN
  | _, _, 0, _, a, len, r => stS (len * 4096 + a) r
  | 0, _, _ + 1, _, _, _, r => r
  | j + 1, w, m + 1, p, a, len, r => stD T j (w + 1) (m + 1) p a len (if canD T p w = true then stD T j (w + 1) m (drwP T p w) (a ||| 2 ^ w) (len + tLen T w) r else r)
def stR (A : aA) (n : Nat) : aN := stD (gT A) (tW (gT A)) 0 n (sL (gS A)) 0 0 (0, none)
def o_streets (A : aA) (n : Int32) : aA × Int32 := if n < nI 1 ∨ nI 6 < n then (A, -nI 1) else (wW A (match (stR A (ix n)).2 with
  | none => []
  | some k => [nI (k % 4096), nI (k / 4096)]), nI (stR A (ix n)).1)
/-- the ways so far -/
def XSr (r : aN) (s : mS) : Prop := s 53 5 = nI r.1 ∧ (r.1 = 0 ↔ r.2 = none) ∧ ∀ k, r.2 = some k → s 53 6 = nI (k % 4096) ∧ s 53 7 = nI (k / 4096) ∧ k / 4096 ≤ 96
section XST2
variable {d B l w v x y n j m a len : Nat} {s s' s1 : mS} {T : aT} {S : aS} {A : aA} {p : Nat → Nat} {r : aN}
theorem stD_0 : stD T j w 0 p a len r = stS (len * 4096 + a) r := by
  cases j <;> rfl
theorem stD_few (h : j < m) : stD T j w m p a len r = r := by
  induction j generalizing w m p a len r with
  | zero =>
    cases m with
    | zero => omega
    | succ m => rfl
  | succ j ih =>
    cases m with
    | zero => omega
    | succ m =>
      unfold stD
      rw [ih (by omega)]
      split
      · exact ih (by omega)
      · rfl
theorem stD_le : (stD T j w m p a len r).1 ≤ r.1 + 2 ^ j := by
  induction j generalizing w m p a len r with
  | zero =>
    cases m with
    | zero => exact Nat.le_refl _
    | succ m => exact Nat.le_add_right _ _
  | succ j ih =>
    have hp : 2 ^ (j + 1) = 2 ^ j + 2 ^ j := by rw [Nat.pow_succ]; omega
    have h1 : 1 ≤ 2 ^ j := Nat.pos_of_ne_zero (by simp)
    cases m with
    | zero =>
      rw [stD_0]
      show r.1 + 1 ≤ _
      omega
    | succ m =>
      unfold stD
      refine Nat.le_trans ih ?_
      split
      · have := ih (w := w + 1) (m := m) (p := drwP T p w) (a := a ||| 2 ^ w) (len := len + tLen T w) (r := r)
        omega
      · omega
theorem x_countWay (hx : XSr r s) (ha : a < 4096) (hl : len ≤ 96) (hc : r.1 < 2147483000) : ∃ s', ev d 48 0 [.inr 53, .inl (nI a), .inl (nI len), .inr 0] [] s = some (0, nI 0, s') ∧ XSr (stS (len * 4096 + a) r) s' ∧ Eqx [53] s s' := by
  obtain ⟨c, o⟩ := r
  obtain ⟨h1, h2, h3⟩ := hx
  have h1 : s 53 5 = nI c := h1
  have hkey : (len * 4096 + a) % 4096 = a ∧ (len * 4096 + a) / 4096 = len := by omega
  have e51 : ∀ s1 : mS, s1 53 5 = nI c → ev d 48 51 [.inr 53, .inr 0, .inr 0, .inr 0] [] s1 = some (0, nI 0, up s1 53 5 (nI (c + 1))) := fun s1 h => by
    rw [E48_51, h]
    simp only [lit, nI_add]
  have e41 : ev d 48 41 [.inr 53, .inl (nI a), .inl (nI len), .inr 0] [] s = some (0, nI 0, up (up (up s 53 6 (nI a)) 53 7 (nI len)) 53 5 (nI (c + 1))) := by
    rw [E48_41, e51 _ (by rw [up_out (by decide), up_out (by decide)]; exact h1)]
  have take : ∀ o', (∀ k, o' = some k → k = len * 4096 + a) → o' ≠ none → XSr (c + 1, o') (up (up (up s 53 6 (nI a)) 53 7 (nI len)) 53 5 (nI (c + 1))) := fun o' ho hne => by
    refine ⟨up_in, ⟨fun z => absurd z (Nat.succ_ne_zero c), fun z => absurd z hne⟩, fun k hk => ?_⟩
    have := ho k hk
    subst this
    rw [hkey.1, hkey.2]
    exact ⟨by rw [up_out (by decide), up_out (by decide), up_in], by rw [up_out (by decide), up_in], hl⟩
  have keepX : ∀ k, o = some k → XSr (c + 1, some k) (up s 53 5 (nI (c + 1))) := fun k hk => by
    refine ⟨up_in, ⟨fun z => absurd z (Nat.succ_ne_zero c), fun z => by cases z⟩, fun k' hk' => ?_⟩
    cases hk'
    obtain ⟨g1, g2, g3⟩ := h3 k hk
    exact ⟨by rw [up_out (by decide)]; exact g1, by rw [up_out (by decide)]; exact g2, g3⟩
  have q3 : Eqx [53] s (up (up (up s 53 6 (nI a)) 53 7 (nI len)) 53 5 (nI (c + 1))) := ((Eqx.rf.up (by simp)).up (by simp)).up (by simp)
  have q1 : Eqx [53] s (up s 53 5 (nI (c + 1))) := Eqx.rf.up (by simp)
  -- both ways lead behind the comparison
  have e29 : ∀ b : Bool, ev d 48 29 [.inr 53, .inl (nI a), .inl (nI len), .inr 0] [.inl (bI b)] s = if c = 0 ∨ b = true then ev d 48 41 [.inr 53, .inl (nI a), .inl (nI len), .inr 0] [] s else ev d 48 51 [.inr 53, .inr 0, .inr 0, .inr 0] [] s := fun b => by
    have hc : c < 2147483000 := hc
    rw [E48_29, h1]
    by_cases hz : c = 0
    · rw [if_pos (Or.inl hz), hz]
      exact if_pos rfl
    · rw [if_neg (show ¬ nI c = 0 from fun z => hz ((nI_eq (by omega) (by omega)).mp z))]
      cases b with
      | true => rw [if_pos (Or.inr rfl), if_neg (show ¬ bI true = 0 by decide +kernel)]
      | false => rw [if_neg (show ¬ (c = 0 ∨ false = true) by simp [hz]), if_pos (show bI false = 0 from rfl)]
  have start : ∃ b : Bool, ev d 48 0 [.inr 53, .inl (nI a), .inl (nI len), .inr 0] [] s = ev d 48 29 [.inr 53, .inl (nI a), .inl (nI len), .inr 0] [.inl (bI b)] s ∧ ∀ k, o = some k → (b = true ↔ len * 4096 + a < k) := by
    have t24 : ev d 48 24 [.inr 53, .inl (nI a), .inl (nI len), .inr 0] [] s = ev d 48 29 [.inr 53, .inl (nI a), .inl (nI len), .inr 0] [.inl (bI true)] s := E48_24
    have t28 : ev d 48 28 [.inr 53, .inl (nI a), .inl (nI len), .inr 0] [] s = ev d 48 29 [.inr 53, .inl (nI a), .inl (nI len), .inr 0] [.inl (bI false)] s := E48_28
    cases ho : o with
    | none =>
      rw [E48_0, t24, t28]
      by_cases y1 : nI len < s 53 7
      · rw [if_pos y1]; exact ⟨true, rfl, fun k hk => by cases hk⟩
      · rw [if_neg y1]
        by_cases y2 : nI len = s 53 7
        · rw [if_neg (not_not_intro y2)]
          by_cases y3 : s 53 6 ≤ nI a
          · rw [if_pos y3]; exact ⟨false, rfl, fun k hk => by cases hk⟩
          · rw [if_neg y3]; exact ⟨true, rfl, fun k hk => by cases hk⟩
        · rw [if_pos y2]; exact ⟨false, rfl, fun k hk => by cases hk⟩
    | some k =>
      obtain ⟨g1, g2, g3⟩ := h3 k ho
      rw [E48_0, t24, t28, g1, g2]
      rcases Nat.lt_trichotomy len (k / 4096) with y | y | y
      · rw [if_pos (show nI len < nI (k / 4096) from nI_lt y (by omega))]
        exact ⟨true, rfl, fun k' hk' => by cases hk'; exact ⟨fun _ => by omega, fun _ => rfl⟩⟩
      · rw [if_neg (show ¬ nI len < nI (k / 4096) from nI_nlt (by omega) (by omega)), if_neg (show ¬ ¬ nI len = nI (k / 4096) from not_not_intro (congrArg nI y))]
        by_cases y3 : k % 4096 ≤ a
        · rw [if_pos (show nI (k % 4096) ≤ nI a from nI_le y3 (by omega))]
          exact ⟨false, rfl, fun k' hk' => by cases hk'; exact ⟨fun z => (by cases z), fun z => (by omega)⟩⟩
        · rw [if_neg (show ¬ nI (k % 4096) ≤ nI a from nI_ge (by omega) (by omega))]
          exact ⟨true, rfl, fun k' hk' => by cases hk'; exact ⟨fun _ => by omega, fun _ => rfl⟩⟩
      · rw [if_neg (show ¬ nI len < nI (k / 4096) from nI_nlt (by omega) (by omega)), if_pos (show ¬ nI len = nI (k / 4096) from fun z => by have := (nI_eq (by omega) (by omega)).mp z; omega)]
        exact ⟨false, rfl, fun k' hk' => by cases hk'; exact ⟨fun z => (by cases z), fun z => (by omega)⟩⟩
  obtain ⟨b, eb, hb⟩ := start
  rw [e29] at eb
  unfold stS
  cases ho : o with
  | none =>
    have hc0 : c = 0 := h2.mpr ho
    rw [if_pos (Or.inl hc0), e41] at eb
    exact ⟨_, eb, take _ (fun k hk => by cases hk; rfl) (by simp), q3⟩
  | some k =>
    have hc0 : ¬ c = 0 := fun z => by
      have : o = none := h2.mp z
      rw [ho] at this; cases this
    have hbk := hb k ho
    by_cases hlt : len * 4096 + a < k
    · rw [if_pos (Or.inr (hbk.mpr hlt)), e41] at eb
      refine ⟨_, eb, take _ (fun k' hk' => ?_) (by simp), q3⟩
      dsimp only at hk'
      rw [if_pos hlt] at hk'
      cases hk'; rfl
    · rw [if_neg (show ¬ (c = 0 ∨ b = true) from fun z => z.elim hc0 (fun z => hlt (hbk.mp z))), e51 _ h1] at eb
      refine ⟨_, eb, ?_, q1⟩
      dsimp only
      rw [if_neg hlt]
      exact keepX k ho
theorem x_choose (ht : tOk T) : ∀ j w m (s : mS) p a len r, m ≤ 6 → w + j = tW T → XT T s → XPo p s → a < 2 ^ w → len ≤ w * 8 → XSr r s → r.1 + 2 ^ j < 2000000 → ∃ s', ev (d + 2 * m + 1 + 1) 46 0 [.inr 53, .inr 6, .inl (nI w), .inl (nI m), .inl (nI a), .inl (nI len), .inr 0] [] s = some (0, nI 0, s') ∧ XPo p s' ∧ XSr (stD T j w m p a len r) s' ∧ Eqx [53, 54] s s' := by
  have hW := ht.1
  -- a word less to come: no word more
  have leaf : ∀ j w (s : mS) p a len r, w + j = tW T → XPo p s → a < 2 ^ w → len ≤ w * 8 → XSr r s → r.1 + 2 ^ j < 2000000 → ∃ s', ev (d + 2 * 0 + 1 + 1) 46 0 [.inr 53, .inr 6, .inl (nI w), .inl (nI 0), .inl (nI a), .inl (nI len), .inr 0] [] s = some (0, nI 0, s') ∧ XPo p s' ∧ XSr (stD T j w 0 p a len r) s' ∧ Eqx [53, 54] s s' := by
    intro j w s p a len r hj hp ha hl hx hr
    have hpw : 2 ^ w ≤ 4096 := Nat.pow_le_pow_right (n := 2) (by omega) (show w ≤ 12 by omega)
    have hj0 : 0 < 2 ^ j := Nat.two_pow_pos j
    obtain ⟨s1, e1, x1, q1⟩ := x_countWay (d := d + 2 * 0 + 1) hx (show a < 4096 by omega) (show len ≤ 96 by omega) (by omega)
    refine ⟨s1, ?_, fun l hl => by rw [q1 _ (by decide)]; exact hp l hl, by rw [stD_0]; exact x1, q1.mono (by simp)⟩
    rw [E46_0]
    simp only [lit, not_true_eq_false, if_false, e1, bnd_some]
  have into : ∀ w m (s : mS) (a len : Int32), m + 1 < 2147483648 → ev (d + 2 * (m + 1) + 1 + 1) 46 0 [.inr 53, .inr 6, .inl (nI w), .inl (nI (m + 1)), .inl a, .inl len, .inr 0] [] s = ev (d + 2 * (m + 1) + 1 + 1) 46 16 [.inr 53, .inr 6, .inr 0, .inl (nI (m + 1)), .inl a, .inl len, .inl (nI w)] [] s := fun w m s a len hm => by
    rw [E46_0]
    simp (disch := omega) only [lit, neq_f, not_false_eq_true, if_true]
  -- there are too few words
  have few : ∀ w m (s : mS) (a len : Int32), XT T s → tW T < w + (m + 1) → w ≤ tW T → m < 1000000 → ev (d + 2 * (m + 1) + 1 + 1) 46 16 [.inr 53, .inr 6, .inr 0, .inl (nI (m + 1)), .inl a, .inl len, .inl (nI w)] [] s = some (0, nI 0, s) := fun w m s a len hT hlt hw hm => by
    have e : (nI (tW T) - nI (m + 1) < nI w) = True := eq_true (by
      rw [Int32.lt_iff_toInt_lt, Int32.toInt_sub, toI (by omega), toI (by omega), toI (by omega)]
      rw [Int.bmod_eq_of_le (by omega) (by omega)]
      omega)
    rw [E46_16, x_words hT]
    simp only [bnd_some, e, if_true]
    rfl
  intro j
  induction j with
  | zero =>
    intro w m s p a len r hm hj hT hp ha hl hx hr
    cases m with
    | zero => exact leaf 0 w s p a len r hj hp ha hl hx hr
    | succ m =>
      refine ⟨s, ?_, hp, hx, Eqx.rf⟩
      rw [into w m s _ _ (by omega), few w m s _ _ hT (by omega) (by omega) (by omega)]
  | succ j ih =>
    intro w m s p a len r hm hj hT hp ha hl hx hr
    cases m with
    | zero => exact leaf (j + 1) w s p a len r hj hp ha hl hx hr
    | succ m =>
      have hj0 : 0 < 2 ^ j := Nat.two_pow_pos j
      have hpj : 2 ^ (j + 1) = 2 ^ j + 2 ^ j := by rw [Nat.pow_succ]; omega
      have hpw : 2 ^ (w + 1) = 2 ^ w + 2 ^ w := by rw [Nat.pow_succ]; omega
      rw [into w m s _ _ (by omega)]
      by_cases hfew : j + 1 < m + 1
      · rw [stD_few hfew]
        exact ⟨s, few w m s _ _ hT (by omega) (by omega) (by omega), hp, hx, Eqx.rf⟩
      have hxw : w < tW T := by omega
      have hlen := (ht.2.2.1 w hxw).2.1
      have ed := x_draw (d := d + 2 * (m + 1)) ht hT hxw hp
      have e56 : ∀ r, ev (d + 2 * (m + 1) + 1 + 1) 46 56 [.inr 53, .inr 6, .inr 0, .inl (nI (m + 1)), .inl (nI a), .inl (nI len), .inl (nI w)] [] r = ev (d + 2 * (m + 1) + 1 + 1) 46 0 [.inr 53, .inr 6, .inl (nI (w + 1)), .inl (nI (m + 1)), .inl (nI a), .inl (nI len), .inr 0] [] r := fun r => by
        rw [into (w + 1) m r _ _ (by omega), E46_56]
        simp only [lit, nI_add]
      unfold stD
      cases hc : canD T p w with
      | false =>
        rw [hc, if_neg (show ¬ (false = true) by simp)] at ed
        rw [if_neg (show ¬ (false = true) by simp)]
        obtain ⟨s1, e1, p1, x1, q1⟩ := ih (w + 1) (m + 1) s p a len r hm (by omega) hT hp (by omega) (by omega) hx (by omega)
        refine ⟨s1, ?_, p1, x1, q1⟩
        rw [E46_16, x_words hT]
        simp (disch := omega) only [lit, bnd_some, n_sub, nlt_f, if_false, ed, if_true, e56, e1]
      | true =>
        rw [hc, if_pos (show true = true from rfl)] at ed
        rw [if_pos (show true = true from rfl)]
        obtain ⟨s1, e1, p1, q1⟩ := ed
        have hT1 := XT_q hT q1 (by decide)
        have q1' : Eqx [53, 54] s s1 := q1.mono (by simp)
        have hx1 : XSr r s1 := by unfold XSr at hx ⊢; rw [q1 _ (by decide)]; exact hx
        have hor : a ||| 2 ^ w < 2 ^ (w + 1) := Nat.or_lt_two_pow (by omega) (by omega)
        obtain ⟨s2, e2, p2, x2, q2⟩ := ih (w + 1) m s1 (drwP T p w) (a ||| 2 ^ w) (len + tLen T w) r (by omega) (by omega) hT1 p1 hor (by omega) hx1 (by omega)
        have hT2 := XT_q hT1 q2 (by decide)
        obtain ⟨s3, e3, p3, q3⟩ := x_putBack (d := d + 2 * (m + 1)) (p := p) ht hT2 hxw hc (fun l hl => (hp l hl).2) p2
        have hle := stD_le (T := T) (j := j) (w := w + 1) (m := m) (p := drwP T p w) (a := a ||| 2 ^ w) (len := len + tLen T w) (r := r)
        generalize stD T j (w + 1) m (drwP T p w) (a ||| 2 ^ w) (len + tLen T w) r = r2 at x2 hle
        have hx3 : XSr r2 s3 := by unfold XSr at x2 ⊢; rw [q3 _ (by decide)]; exact x2
        obtain ⟨s4, e4, p4, x4, q4⟩ := ih (w + 1) (m + 1) s3 p a len r2 hm (by omega) (XT_q hT2 q3 (by decide)) p3 (by omega) (by omega) hx3 (by omega)
        refine ⟨s4, ?_, p4, x4, ((q1'.tr q2).tr (q3.mono (by simp))).tr q4⟩
        have el := x_length (d := d + 2 * (m + 1)) ht hT1 hxw
        have eb : ev (d + 2 * (m + 1) + 1) 47 0 [.inr 53, .inr 6, .inl (nI w), .inl (nI (m + 1)), .inl (nI a), .inl (nI len)] [] s1 = some (0, nI 0, s2) := by
          have e2 : ev (d + 2 * (m + 1)) 46 0 [.inr 53, .inr 6, .inl (nI (w + 1)), .inl (nI m), .inl (nI (a ||| 2 ^ w)), .inl (nI (len + tLen T w)), .inr 0] [] s1 = some (0, nI 0, s2) := e2
          rw [E47_0]
          simp (disch := omega) only [lit, el, bnd_some, nI_add, n_sub, Nat.add_sub_cancel, n_pow, n_or, e2]
        rw [E46_16, x_words hT]
        simp (disch := omega) only [lit, bnd_some, n_sub, nlt_f, if_false, e1, neq_f, eb, e3, e56, e4]
theorem X_streets {b : Int32} (h : XI A B s) : ∃ s', ev (d + 12 + 1 + 1 + 1 + 1) 206 0 [.inr 1, .inl b, .inr 0] [] s = some (0, (o_streets A b).2, s') ∧ XI (o_streets A b).1 B s' ∧ fX s s' := by
  have ha := h.1
  have hc := h.2.1
  have hW := ha.1.1
  have hk : isK 36 := Or.inl rfl
  unfold o_streets
  by_cases hb : b < nI 1 ∨ nI 6 < b
  · rw [if_pos hb]
    refine ⟨s, ?_, h, fun _ _ => rfl⟩
    rw [E206_0, E206_11]
    by_cases h1 : b < nI 1
    · simp only [lit, h1, if_true, if_false, not_true_eq_false, not_false_eq_true]
    · have h6 := hb.resolve_left h1
      simp only [lit, h1, Int32.not_le.mpr h6, if_true, if_false, not_true_eq_false, not_false_eq_true]
  rw [if_neg hb]
  obtain ⟨n, rfl, n1, n6⟩ := rng_t (by omega) (fun z => hb (Or.inl z)) (fun z => hb (Or.inr z))
  rw [n_ix (by omega)]
  have k1 : ∀ i, i ≤ 10 → ∃ s', ev (d + 12 + 1 + 1 + 1) 43 2 [.inr 53, .inr 36, .inl (nI n), .inl (nI 0)] [] s = ev (d + 12 + 1 + 1 + 1) 43 2 [.inr 53, .inr 36, .inl (nI n), .inl (nI i)] [] s' ∧ (∀ l, l < i → s' 54 l = nI (sL (gS A) l)) ∧ Eqx [54] s s' := by
    intro i
    induction i with
    | zero => intro _; exact ⟨s, rfl, fun l hl => by omega, Eqx.rf⟩
    | succ i ih =>
      intro hi
      obtain ⟨s1, e1, i1, q1⟩ := ih (by omega)
      have ec := x_inChest (d := d + 12 + 1 + 1) (k := 36) (l := i) hk (show XC (gT A) (gS A) (s1 (mRf 36 1)) by rw [show mRf 36 1 = 37 by decide +kernel, q1 _ (by decide)]; exact hc) (by omega)
      refine ⟨up s1 54 i (nI (sL (gS A) i)), ?_, fun l hl => ?_, q1.up (by simp)⟩
      · rw [e1, E43_2]
        simp (disch := omega) only [lit, nle_f, if_false, ec, bnd_some, n_inb, if_true, n_ix, nI_add]
      · by_cases hz : l = i
        · subst hz; exact up_in
        · rw [up_out hz]; exact i1 l (by omega)
  obtain ⟨s1, e1, i1, q1⟩ := k1 10 (Nat.le_refl _)
  obtain ⟨s2, hs2⟩ : ∃ s2, s2 = up s1 53 5 (nI 0) := ⟨_, rfl⟩
  have q2 : Eqx [53, 54] s s2 := by rw [hs2]; exact (q1.mono (by simp)).up (by simp)
  have hpt : 2 ^ tW (gT A) ≤ 4096 := Nat.pow_le_pow_right (n := 2) (by omega) hW
  obtain ⟨s3, e3, -, x3, q3⟩ := x_choose (d := d + 2 * (6 - n)) ha.1 (tW (gT A)) 0 n s2 (sL (gS A)) 0 0 (0, none) n6 (by omega) (XT_q h.2.2.1 q2 (by decide)) (fun l hl => ⟨by rw [hs2, up_ne (by decide)]; exact i1 l hl, (hal_le ha.2.1 hl).2⟩) (by decide) (Nat.le_refl _) ⟨by rw [hs2, up_in], ⟨fun _ => rfl, fun _ => rfl⟩, fun k hk => (by cases hk)⟩ (by show 0 + 2 ^ tW (gT A) < 2000000; omega)
  have hlev : d + 12 = d + 2 * (6 - n) + 2 * n := by omega
  rw [← hlev] at e3
  have er : stR A n = stD (gT A) (tW (gT A)) 0 n (sL (gS A)) 0 0 (0, none) := rfl
  rw [← er] at x3
  have hcl := stD_le (T := gT A) (j := tW (gT A)) (w := 0) (m := n) (p := sL (gS A)) (a := 0) (len := 0) (r := (0, none))
  rw [← er] at hcl
  have q13 := q2.tr q3
  have i3 := XI_same h q13 (by decide) (by decide)
  have ecs : ev (d + 12 + 1 + 1 + 1) 43 0 [.inr 53, .inr 36, .inl (nI n), .inr 0] [] s = some (0, nI (stR A n).1, s3) := by
    rw [E43_0, lit 0, e1, E43_2]
    simp (disch := omega) only [lit, nle_t, if_true]
    rw [← hs2]
    simp only [x_place, bnd_some, if_true, e3, x3.1]
  generalize stR A n = r at x3 hcl ecs
  obtain ⟨c, o⟩ := r
  obtain ⟨y1, y2, y3⟩ := x3
  dsimp only
  cases ho : o with
  | none =>
    have hc0 : c = 0 := y2.mpr ho
    have qn : Eqx [4, 5] s3 (up s3 4 1 (nI 0)) := Eqx.rf.up (by simp)
    refine ⟨_, ?_, XI_row i3 qn (by decide) (by decide) XW_nil (by simp), (fX_q q13 (by decide)).tr (fX_q qn (by decide))⟩
    have ecs : ev (d + 12 + 1 + 1 + 1) 43 0 [.inr 53, .inr 36, .inl (nI n), .inr 0] [] s = some (0, nI c, s3) := ecs
    rw [hc0] at ecs
    rw [E206_0, hc0]
    simp (disch := omega) only [lit, nlt_f, if_false, nle_t, if_true, ecs, bnd_some, x_clear, E206_63]
  | some k =>
    have hc0 : ¬ c = 0 := fun z => by
      have : o = none := y2.mp z
      rw [ho] at this; cases this
    obtain ⟨g1, g2, g3⟩ := y3 k ho
    obtain ⟨s4, s5, r1, r2, p1, p2, w2⟩ := x_add2 (d := d + 12 + 1 + 1 + 1) (s := s3) (a := nI (k % 4096)) (b := nI (k / 4096))
    have qn : Eqx [4, 5] s3 (up s3 4 1 (nI 0)) := Eqx.rf.up (by simp)
    have ef : ev (d + 12 + 1 + 1 + 1) 44 0 [.inr 53] [] (up s3 4 1 (nI 0)) = some (0, nI (k % 4096), up s3 4 1 (nI 0)) := by
      rw [E44_0, qn _ (by decide), g1]
    have el : ev (d + 12 + 1 + 1 + 1) 45 0 [.inr 53] [] s4 = some (0, nI (k / 4096), s4) := by
      rw [E45_0, p1 _ (by decide), g2]
    have ecs : ev (d + 12 + 1 + 1 + 1) 43 0 [.inr 53, .inr 36, .inl (nI n), .inr 0] [] s = some (0, nI c, s3) := ecs
    have hcl : c ≤ 0 + 2 ^ tW (gT A) := hcl
    refine ⟨s5, ?_, XI_row i3 p2 (by decide) (by decide) w2 (by simp), (fX_q q13 (by decide)).tr (fX_q p2 (by decide))⟩
    rw [E206_0]
    simp (disch := omega) only [lit, nlt_f, if_false, nle_t, nle_f, if_true, ecs, bnd_some, x_clear, ef, r1, el, r2, E206_63]
end XST2
