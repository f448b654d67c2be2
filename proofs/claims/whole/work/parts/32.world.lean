/-! THE WHOLE WORLD: town, state, text, row, rule, states put aside, countings -/
abbrev aA : Type := aT × aS × (Nat × (Nat → Nat)) × List Int32 × aR × List aS × (Nat → Option aS) × List (Nat × Nat × Nat)
def gT (A : aA) : aT := A.1
def gS (A : aA) : aS := A.2.1
def gX (A : aA) : Nat × (Nat → Nat) := A.2.2.1
def gW (A : aA) : List Int32 := A.2.2.2.1
def gR (A : aA) : aR := A.2.2.2.2.1
def gU (A : aA) : List aS := A.2.2.2.2.2.1
def gK (A : aA) : Nat → Option aS := A.2.2.2.2.2.2.1
def gC (A : aA) : List (Nat × Nat × Nat) := A.2.2.2.2.2.2.2
def wT (A : aA) (T : aT) : aA := (T, A.2)
def wS (A : aA) (S : aS) : aA := (A.1, S, A.2.2)
def wX (A : aA) (X : Nat × (Nat → Nat)) : aA := (A.1, A.2.1, X, A.2.2.2)
def wW (A : aA) (W : List Int32) : aA := (A.1, A.2.1, A.2.2.1, W, A.2.2.2.2)
def wR (A : aA) (R : aR) : aA := (A.1, A.2.1, A.2.2.1, A.2.2.2.1, R, A.2.2.2.2.2)
def wU (A : aA) (U : List aS) : aA := (A.1, A.2.1, A.2.2.1, A.2.2.2.1, A.2.2.2.2.1, U, A.2.2.2.2.2.2)
def wK (A : aA) (K : Nat → Option aS) : aA := (A.1, A.2.1, A.2.2.1, A.2.2.2.1, A.2.2.2.2.1, A.2.2.2.2.2.1, K, A.2.2.2.2.2.2.2)
def wC (A : aA) (C : List (Nat × Nat × Nat)) : aA := (A.1, A.2.1, A.2.2.1, A.2.2.2.1, A.2.2.2.2.1, A.2.2.2.2.2.1, A.2.2.2.2.2.2.1, C)
/-- a state put aside is good, and of the same stocks -/
def gd (T : aT) (S : aS) (B : Nat) (U : aS) : Prop := sOk T U B ∧ ∀ l, l < 10 → stk U l = stk S l
def AOk (A : aA) (B : Nat) : Prop := tOk (gT A) ∧ sOk (gT A) (gS A) B ∧ (∀ U ∈ gU A, gd (gT A) (gS A) B U) ∧ (∀ i U, gK A i = some U → gd (gT A) (gS A) B U) ∧ (gU A).length ≤ 12 ∧ (gX A).1 ≤ 80 ∧ (∀ i, (gX A).2 i < 256) ∧ (gW A).length ≤ 16 ∧ (gC A).length ≤ 12 ∧ ∀ c ∈ gC A, c.1 < tN (gT A) ∧ c.2.1 < 10 ∧ c.2.2 ≤ 20
def XSt (S : aS) (s : mS) : Prop := ∀ l, l < 10 → s 7 l = nI (stk S l)
def XX (X : Nat × (Nat → Nat)) (s : mS) : Prop := s 2 1 = nI X.1 ∧ ∀ i, i < X.1 → s 3 i = nI (X.2 i)
def XW (W : List Int32) (s : mS) : Prop := s 4 1 = nI W.length ∧ ∀ i, i < W.length → s 5 i = W.getD i 0
def XRs (φ : aR) (s : mS) : Prop := XR φ 16 s ∧ XR (fun e => e (nI 119)) 22 s ∧ XR (fun e => -(e (nI 109))) 25 s ∧ XR (fun e => e (nI 113)) 28 s
def XU (T : aT) (L : List aS) (s : mS) : Prop := ∃ nx, nx < 12 ∧ s 44 1 = nI nx ∧ s 44 2 = nI L.length ∧ ∀ i U, L[i]? = some U → XC T U (fun j => s 45 ((nx + 11 - i) % 12 * 124 + j))
def XK (T : aT) (K : Nat → Option aS) (s : mS) : Prop := s 44 4 = nI (bts (fun i => (K i).isSome) 2) ∧ ∀ i U, i < 2 → K i = some U → XC T U (fun j => s 46 (i * 124 + j))
def XN (C : List (Nat × Nat × Nat)) (s : mS) : Prop := s 63 3 = nI C.length ∧ ∀ i c, C[i]? = some c → s 64 i = nI c.1 ∧ s 65 i = nI c.2.1 ∧ s 66 i = nI c.2.2
/-- the class's side of a world; all but the state's cells -/
def XJ (A : aA) (s : mS) : Prop := XT (gT A) s ∧ XSt (gS A) s ∧ XX (gX A) s ∧ XW (gW A) s ∧ XRs (gR A) s ∧ XU (gT A) (gU A) s ∧ XK (gT A) (gK A) s ∧ XN (gC A) s
def XI (A : aA) (B : Nat) (s : mS) : Prop := AOk A B ∧ XC (gT A) (gS A) (s 37) ∧ XJ A s
def iQ : List Nat := [2, 3, 4, 5, 6, 7, 9, 10, 11, 12, 14, 15, 16, 17, 22, 23, 25, 26, 28, 29, 44, 45, 46, 63, 64, 65, 66]
section XWO
variable {d B : Nat} {s s' : mS} {T : aT} {S : aS} {A : aA} {P : List Nat}
theorem XT_q (h : XT T s) (q : Eqx P s s') (hp : ∀ a ∈ P, a ∉ [6, 9, 10, 11, 12, 14, 15]) : XT T s' := by
  have e : ∀ a, a ∈ [6, 9, 10, 11, 12, 14, 15] → s' a = s a := fun a ha => q a (fun z => hp a z ha)
  obtain ⟨h1, h2, h3, h4⟩ := h
  refine ⟨by rw [e _ (by decide)]; exact h1, by rw [e _ (by decide)]; exact h2, fun x hx => ?_, fun w hw => ?_⟩
  · rw [e _ (by decide), e _ (by decide), e _ (by decide), e _ (by decide)]; exact h3 x hx
  · rw [e _ (by decide), e _ (by decide)]; exact h4 w hw
theorem XSt_q (h : XSt S s) (q : Eqx P s s') (hp : 7 ∉ P) : XSt S s' := by
  unfold XSt at h ⊢
  rw [q _ hp]; exact h
theorem XX_q {X : Nat × (Nat → Nat)} (h : XX X s) (q : Eqx P s s') (h1 : 2 ∉ P) (h2 : 3 ∉ P) : XX X s' := by
  unfold XX at h ⊢
  rw [q _ h1, q _ h2]; exact h
theorem XW_q {W : List Int32} (h : XW W s) (q : Eqx P s s') (h1 : 4 ∉ P) (h2 : 5 ∉ P) : XW W s' := by
  unfold XW at h ⊢
  rw [q _ h1, q _ h2]; exact h
theorem XRs_q {φ : aR} (h : XRs φ s) (q : Eqx P s s') (hp : ∀ a ∈ P, a ∉ [16, 17, 22, 23, 25, 26, 28, 29]) : XRs φ s' := by
  have e : ∀ a, a ∈ [16, 17, 22, 23, 25, 26, 28, 29] → s' a = s a := fun a ha => q a (fun z => hp a z ha)
  have r1 : mRf 16 0 = 17 := by decide +kernel
  have r2 : mRf 22 0 = 23 := by decide +kernel
  have r3 : mRf 25 0 = 26 := by decide +kernel
  have r4 : mRf 28 0 = 29 := by decide +kernel
  obtain ⟨h1, h2, h3, h4⟩ := h
  exact ⟨XR_eq h1 (e _ (by decide)) (by rw [r1]; exact e _ (by decide)), XR_eq h2 (e _ (by decide)) (by rw [r2]; exact e _ (by decide)), XR_eq h3 (e _ (by decide)) (by rw [r3]; exact e _ (by decide)), XR_eq h4 (e _ (by decide)) (by rw [r4]; exact e _ (by decide))⟩
theorem XU_q {L : List aS} (h : XU T L s) (q : Eqx P s s') (h1 : 44 ∉ P) (h2 : 45 ∉ P) : XU T L s' := by
  unfold XU at h ⊢
  rw [q _ h1, q _ h2]; exact h
theorem XK_q {K : Nat → Option aS} (h : XK T K s) (q : Eqx P s s') (h1 : 44 ∉ P) (h2 : 46 ∉ P) : XK T K s' := by
  unfold XK at h ⊢
  rw [q _ h1, q _ h2]; exact h
theorem XN_q {C : List (Nat × Nat × Nat)} (h : XN C s) (q : Eqx P s s') (hp : ∀ a ∈ P, a ∉ [63, 64, 65, 66]) : XN C s' := by
  have e : ∀ a, a ∈ [63, 64, 65, 66] → s' a = s a := fun a ha => q a (fun z => hp a z ha)
  unfold XN at h ⊢
  rw [e _ (by decide), e _ (by decide), e _ (by decide), e _ (by decide)]; exact h
/-! the row -/
theorem x_clear : ev d 49 0 [.inr 4] [] s = some (0, nI 4, up s 4 1 0) := E49_0
theorem XW_nil : XW [] (up s 4 1 0) := ⟨by rw [up_in]; rfl, fun i hi => absurd hi (Nat.not_lt_zero _)⟩
theorem x_add {W : List Int32} {a : Int32} (h : XW W s) (hl : W.length < 16) : ∃ s', ev d 50 0 [.inr 4, .inl a] [] s = some (0, nI 4, s') ∧ XW (W ++ [a]) s' ∧ Eqx [4, 5] s s' := by
  obtain ⟨h1, h2⟩ := h
  have h1 : s 4 1 = nI W.length := h1
  refine ⟨up (up s 5 W.length a) 4 1 (nI (W.length + 1)), ?_, ⟨?_, fun i hi => ?_⟩, (Eqx.rf.up (by simp)).up (by simp)⟩
  · rw [E50_0, h1]
    have e : up s 5 W.length a 4 1 = nI W.length := by rw [up_ne (by decide)]; exact h1
    simp (disch := omega) only [e, E50_32, lit, nI_add, pk_mul, n_sub, n_addneg, nle_t, nle_f, nlt_t, nlt_f, neq_t, neq_f, n_inb, n_ix, bnd_some, if_true, if_false, ite_tt, ite_ff, not_true_eq_false, not_false_eq_true, eq_self, false_or, or_false, true_or, or_true]
  · rw [show 1 = 1 from rfl, up_in, List.length_append]; rfl
  · rw [List.length_append] at hi
    have hi : i < W.length + 1 := hi
    rw [up_ne (by decide)]
    by_cases hw : i = W.length
    · subst hw
      rw [up_in]
      simp
    · rw [up_out hw, h2 i (by omega)]
      simp only [List.getD_eq_getElem?_getD]
      rw [List.getElem?_append_left (by omega)]
end XWO
