/-! A TOWN TOLD: what its text comes to -/
/-- one word more, one wall more -/
def adW (T : aT) (n : Nat) (sp : Nat → Nat) (g : Nat) : aT := (tW T + 1, uO (tLen T) (tW T) n, uO (tSen T) (tW T) g, uO (tSp T) (tW T) sp, tN T, tWo T, tTe T)
def adN (T : aT) (a t : Nat) : aT := (tW T, tLen T, tSen T, tSp T, tN T + 1, uO (tWo T) (tN T) a, uO (tTe T) (tN T) t)
/-- letters in a row, at most m -/
def lts (X : aX) (E : Nat) : Nat → Nat → Nat
  | 0, _ => 0
  | m + 1, p => if isL (hd X E p) = true then lts X E m (p + 1) + 1 else 0
/-- a wall's line from behind its w on -/
def lnN (X : aX) (E p : Nat) (T : aT) (c : Nat → Nat) : Sum Nat (Nat × aT × (Nat → Nat)) :=
  if isD (hd X E p) = false then .inl p
  else if (dg X E 2 p 0).1 = 0 then .inl ((dg X E 2 p 0).2 - 1)
  else if hd X E (dg X E 2 p 0).2 ≠ 44 then .inl (dg X E 2 p 0).2
  else if isD (hd X E ((dg X E 2 p 0).2 + 1)) = false then .inl ((dg X E 2 p 0).2 + 1)
  else if (dg X E 1 ((dg X E 2 p 0).2 + 1) 0).1 = 0 then .inl ((dg X E 1 ((dg X E 2 p 0).2 + 1) 0).2 - 1)
  else .inr ((dg X E 1 ((dg X E 2 p 0).2 + 1) 0).2, adN T (dg X E 2 p 0).1 (dg X E 1 ((dg X E 2 p 0).2 + 1) 0).1, c)
/-- letters that come, from behind the letter on -/
def lnS (X : aX) (E p l : Nat) (T : aT) (c : Nat → Nat) : Sum Nat (Nat × aT × (Nat → Nat)) :=
  if 20 < c l + (dg X E 2 p 0).1 then .inl ((dg X E 2 p 0).2 - 1) else .inr ((dg X E 2 p 0).2, T, uO c l (c l + (dg X E 2 p 0).1))
/-- a word of n letters from p on -/
def lnW (X : aX) (E p n : Nat) (T : aT) (c : Nat → Nat) : Sum Nat (Nat × aT × (Nat → Nat)) :=
  if 12 ≤ tW T then .inl (p + n)
  else if hd X E (p + n) ≠ 61 then .inl (p + n)
  else if isD (hd X E (p + n + 1)) = false then .inl (p + n + 1)
  else .inr (p + n + 2, adW T n (fun i => hd X E (p + i) - 97) (hd X E (p + n + 1) - 48), c)
def line (X : aX) (E p : Nat) (T : aT) (c : Nat → Nat) : Sum Nat (Nat × aT × (Nat → Nat)) :=
  if hd X E p = 119 then (if 8 ≤ tN T then .inl p else lnN X E (p + 1) T c)
  else if isL (hd X E p) = false then .inl p
  else if isD (hd X E (p + 1)) = true then lnS X E (p + 1) (hd X E p - 97) T c
  else lnW X E p (lts X E 7 (p + 1) + 1) T c
/-- lines, one behind the other: the place behind, how many, the town -/
def lns (X : aX) (E : Nat) : Nat → Nat → Nat → aT → (Nat → Nat) → Sum Nat (Nat × Nat × aT × (Nat → Nat))
  | 0, _, _, _, _ => .inl 0
  | k + 1, p, n, T, c => match line X E p T c with
    | .inl f => .inl f
    | .inr (p', T', c') => if hd X E p' = 59 then lns X E k (p' + 1) (n + 1) T' c' else .inr (p', n + 1, T', c')
def twn (X : aX) (T : aT) (c : Nat → Nat) : Sum Nat (Nat × aT × (Nat → Nat)) := if X.1 = 0 then .inr (0, T, c) else match lns X (min X.1 76) 76 0 0 T c with
  | .inl f => .inl f
  | .inr (p, n, T', c') => if p < X.1 then .inl p else .inr (n, T', c')
def x0 (A : aA) : aX := (0, (gX A).2)
def o_town (A : aA) : aA × Int32 := match twn (gX A) (gT A) (stk (gS A)) with
  | .inl f => (wX A (x0 A), -nI (f + 1))
  | .inr (n, T', c') => if n = 0 then (wX A (x0 A), nI 0) else (wX (wK (wU (wS (wT A T') (refS (gS A) c')) []) (fun _ => none)) (x0 A), nI n)
/-- words and walls themselves -/
def XTb (T : aT) (s : mS) : Prop := (∀ x, x < tW T → s 9 x = nI (tLen T x) ∧ s 10 x = nI (tSen T x) ∧ (∀ i, i < tLen T x → s 11 (x * 8 + i) = nI (tSp T x i)) ∧ ∀ l, l < 10 → s 12 (x * 10 + l) = nI (nd T x l)) ∧
  ∀ w, w < tN T → s 14 w = nI (tWo T w) ∧ s 15 w = nI (tTe T w)
/-- a town in the making -/
def XP (T : aT) (c : Nat → Nat) (s : mS) : Prop := s 6 3 = nI (tW T) ∧ s 6 10 = nI (tN T) ∧ XTb T s ∧ ∀ l, l < 10 → s 8 l = nI (c l)
section XTW
variable {d E p m f a i v n g x : Nat} {s s' : mS} {X : aX} {T : aT} {c : Nat → Nat} {w : Option Nat} {sp : Nat → Nat}
theorem XTb_q {P : List Nat} (h : XTb T s) (q : Eqx P s s') (hp : ∀ a ∈ P, a ∉ [9, 10, 11, 12, 14, 15]) : XTb T s' := by
  have e : ∀ a, a ∈ [9, 10, 11, 12, 14, 15] → s' a = s a := fun a ha => q a (fun z => hp a z ha)
  obtain ⟨h3, h4⟩ := h
  refine ⟨fun x hx => ?_, fun w hw => ?_⟩
  · rw [e _ (by decide), e _ (by decide), e _ (by decide), e _ (by decide)]; exact h3 x hx
  · rw [e _ (by decide), e _ (by decide)]; exact h4 w hw
theorem nd_adW {l : Nat} : nd (adW T n sp g) x l = if x = tW T then sm (fun i => if sp i = l then 1 else 0) n else nd T x l := by
  unfold nd
  show sm (fun i => if uO (tSp T) (tW T) sp x i = l then 1 else 0) (uO (tLen T) (tW T) n x) = _
  unfold uO
  by_cases h : x = tW T
  · simp only [h, if_true]
  · simp only [h, if_false]
theorem x_writeWord (h3 : s 6 3 = nI (tW T)) (hb : XTb T s) (hx : tW T < 12) (hn : n ≤ 8) (hl : ∀ y, y < tW T → tLen T y ≤ 8) (hs : ∀ i, i < n → s 13 i = nI (sp i) ∧ sp i < 10) (hg : g < 10) : ∃ s', ev d 168 0 [.inr 6, .inl (nI n), .inl (nI g), .inr 0, .inr 0] [] s = some (0, nI 0, s') ∧ XTb (adW T n sp g) s' ∧ s' 6 = upd (s 6) 3 (nI (tW T + 1)) ∧ Eqx [6, 9, 10, 11, 12] s s' := by
  generalize hxe : tW T = x at h3 hx
  obtain ⟨s0, hs0⟩ : ∃ s0, s0 = up (up s 9 x (nI n)) 10 x (nI g) := ⟨_, rfl⟩
  have q0 : Eqx [9, 10] s s0 := by rw [hs0]; exact (Eqx.rf.up (by simp)).up (by simp)
  have k1 : ∀ k, k ≤ 10 → ∃ s1, ev d 168 22 [.inr 6, .inl (nI n), .inr 0, .inl (nI x), .inl (nI 0)] [] s0 = ev d 168 22 [.inr 6, .inl (nI n), .inr 0, .inl (nI x), .inl (nI k)] [] s1 ∧ (∀ l, l < k → s1 12 (x * 10 + l) = nI 0) ∧ (∀ j, j < x * 10 → s1 12 j = s 12 j) ∧ Eqx [12] s0 s1 := by
    intro k
    induction k with
    | zero => intro _; exact ⟨s0, rfl, fun l hl => by omega, fun j _ => by rw [q0 _ (by decide)], Eqx.rf⟩
    | succ k ih =>
      intro hk
      obtain ⟨s1, e1, i1, j1, q1⟩ := ih (by omega)
      refine ⟨up s1 12 (x * 10 + k) (nI 0), ?_, fun l hl => ?_, fun j hj => by rw [up_out (by omega)]; exact j1 j hj, q1.up (by simp)⟩
      · rw [e1, E168_22]
        simp (disch := omega) only [lit, nI_add, pk_mul, n_sub, n_addneg, nle_t, nle_f, nlt_t, nlt_f, neq_t, neq_f, n_inb, n_ix, bnd_some, if_true, if_false, ite_tt, ite_ff, not_true_eq_false, not_false_eq_true, eq_self, false_or, or_false, true_or, or_true]
      · by_cases hz : l = k
        · subst hz; exact up_in
        · rw [up_out (by omega)]; exact i1 l (by omega)
  obtain ⟨s1, e1, i1, j1, q1⟩ := k1 10 (Nat.le_refl _)
  have k2 : ∀ k, k ≤ n → ∃ s2, ev d 168 51 [.inr 6, .inl (nI n), .inr 0, .inl (nI x), .inl (nI 0)] [] s1 = ev d 168 51 [.inr 6, .inl (nI n), .inr 0, .inl (nI x), .inl (nI k)] [] s2 ∧ (∀ i, i < k → s2 11 (x * 8 + i) = nI (sp i)) ∧ (∀ j, j < x * 8 → s2 11 j = s 11 j) ∧ (∀ l, l < 10 → s2 12 (x * 10 + l) = nI (sm (fun i => if sp i = l then 1 else 0) k)) ∧ (∀ j, j < x * 10 → s2 12 j = s 12 j) ∧ Eqx [11, 12] s1 s2 := by
    intro k
    induction k with
    | zero => intro _; exact ⟨s1, rfl, fun i hi => by omega, fun j _ => by rw [q1 _ (by decide), q0 _ (by decide)], i1, j1, Eqx.rf⟩
    | succ k ih =>
      intro hk
      obtain ⟨s2, e2, a2, b2, c2, d2, q2⟩ := ih (by omega)
      obtain ⟨g1, g2⟩ := hs k (by omega)
      have u1 : s2 13 k = nI (sp k) := by rw [q2 _ (by decide), q1 _ (by decide), q0 _ (by decide)]; exact g1
      have u2 : (up s2 11 (x * 8 + k) (nI (sp k))) 13 k = nI (sp k) := by rw [up_ne (by decide)]; exact u1
      have u3 : (up s2 11 (x * 8 + k) (nI (sp k))) 12 (x * 10 + sp k) = nI (sm (fun i => if sp i = sp k then 1 else 0) k) := by rw [up_ne (by decide)]; exact c2 _ g2
      refine ⟨up (up s2 11 (x * 8 + k) (nI (sp k))) 12 (x * 10 + sp k) (nI (sm (fun i => if sp i = sp k then 1 else 0) k + 1)), ?_, fun i hi => ?_, fun j hj => ?_, fun l hl => ?_, fun j hj => ?_, (q2.up (by simp)).up (by simp)⟩
      · rw [e2, E168_51]
        simp (disch := omega) only [u1, u2, u3, lit, nI_add, pk_mul, n_sub, n_addneg, nle_t, nle_f, nlt_t, nlt_f, neq_t, neq_f, n_inb, n_ix, bnd_some, if_true, if_false, ite_tt, ite_ff, not_true_eq_false, not_false_eq_true, eq_self, false_or, or_false, true_or, or_true]
      · rw [up_ne (by decide)]
        by_cases hz : i = k
        · subst hz; exact up_in
        · rw [up_out (by omega)]; exact a2 i (by omega)
      · rw [up_ne (by decide), up_out (by omega)]; exact b2 j hj
      · rw [sm_s]
        by_cases hz : sp k = l
        · subst hz
          rw [up_in]
          rw [if_pos rfl]
        · rw [up_out (by omega), up_ne (by decide), if_neg hz]
          exact c2 l hl
      · rw [up_out (by omega), up_ne (by decide)]; exact d2 j hj
  obtain ⟨s2, e2, a2, b2, c2, d2, q2⟩ := k2 n (Nat.le_refl _)
  have h3' : s2 6 3 = nI x := by rw [q2 _ (by decide), q1 _ (by decide), q0 _ (by decide)]; exact h3
  have qa : Eqx [6, 9, 10, 11, 12] s (up s2 6 3 (nI (x + 1))) := (((q0.mono (by simp)).tr (q1.mono (by simp))).tr (q2.mono (by simp))).up (by simp)
  refine ⟨up s2 6 3 (nI (x + 1)), ?_, ⟨fun y hy => ?_, fun w hw => ?_⟩, ?_, qa⟩
  · have u0 : (up s 9 x (nI n)) 6 3 = nI x := by rw [up_ne (by decide)]; exact h3
    rw [E168_0, h3]
    simp (disch := omega) only [lit, n_inb, n_ix, u0, if_true, h3]
    rw [← hs0, e1, E168_22]
    simp (disch := omega) only [lit, nI_add, pk_mul, n_sub, n_addneg, nle_t, nle_f, nlt_t, nlt_f, neq_t, neq_f, n_inb, n_ix, bnd_some, if_true, if_false, ite_tt, ite_ff, not_true_eq_false, not_false_eq_true, eq_self, false_or, or_false, true_or, or_true]
    rw [e2, E168_51]
    simp (disch := omega) only [h3', lit, nI_add, pk_mul, n_sub, n_addneg, nle_t, nle_f, nlt_t, nlt_f, neq_t, neq_f, n_inb, n_ix, bnd_some, if_true, if_false, ite_tt, ite_ff, not_true_eq_false, not_false_eq_true, eq_self, false_or, or_false, true_or, or_true]
  · have hy : y < tW T + 1 := hy
    rw [hxe] at hy
    show up s2 6 3 (nI (x + 1)) 9 y = nI (uO (tLen T) (tW T) n y) ∧ up s2 6 3 (nI (x + 1)) 10 y = nI (uO (tSen T) (tW T) g y) ∧ (∀ i, i < uO (tLen T) (tW T) n y → up s2 6 3 (nI (x + 1)) 11 (y * 8 + i) = nI (uO (tSp T) (tW T) sp y i)) ∧ _
    simp only [nd_adW]
    rw [hxe]
    unfold uO
    rw [up_ne (by decide), up_ne (by decide), up_ne (by decide), up_ne (by decide)]
    by_cases hz : y = x
    · subst hz
      simp only [if_true]
      refine ⟨?_, ?_, a2, fun l hl => c2 l hl⟩
      · rw [q2 _ (by decide), q1 _ (by decide), hs0, up_ne (by decide), up_in]
      · rw [q2 _ (by decide), q1 _ (by decide), hs0, up_in]
    · simp only [hz, if_false]
      obtain ⟨t1, t2, t3, t4⟩ := hb.1 y (by omega)
      have t5 := hl y (by omega)
      refine ⟨?_, ?_, fun i hi => ?_, fun l hl => ?_⟩
      · rw [q2 _ (by decide), q1 _ (by decide), hs0, up_ne (by decide), up_out hz]; exact t1
      · rw [q2 _ (by decide), q1 _ (by decide), hs0, up_out hz, up_ne (by decide)]; exact t2
      · rw [b2 _ (by omega)]; exact t3 i hi
      · rw [d2 _ (by omega)]; exact t4 l hl
  · have hw : w < tN T := hw
    show _ = nI (tWo T w) ∧ _ = nI (tTe T w)
    rw [qa _ (by decide), qa _ (by decide)]
    exact hb.2 w hw
  · show upd (s2 6) 3 (nI (x + 1)) = _
    rw [q2 _ (by decide), q1 _ (by decide), q0 _ (by decide)]
end XTW
