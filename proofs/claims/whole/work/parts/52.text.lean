/-! THE TEXT, READ -/
abbrev aX : Type := Nat × (Nat → Nat)
/-- the sign at a place; 256 behind the last -/
def hd (X : aX) (E p : Nat) : Nat := if p < E then X.2 p else 256
def hI (n : Nat) : Int32 := if n = 256 then -nI 1 else nI n
def wI : Option Nat → Int32
  | none => -nI 1
  | some f => nI (min f 1000)
def fl (w : Option Nat) (f : Nat) : Option Nat := match w with
  | none => some f
  | some g => some g
theorem fl_none {f : Nat} : fl none f = some f := rfl
theorem fl_some {f g : Nat} : fl (some g) f = some g := rfl
/-- the text's cursor -/
def cur (s : mS) (p : Nat) (w : Option Nat) : mS := setA s 2 (upd (upd (s 2) 3 (nI p)) 4 (wI w))
/-- a text is being read, up to a place -/
def XE (X : aX) (E : Nat) (s : mS) : Prop := XX X s ∧ s 2 2 = nI E ∧ E ≤ X.1 ∧ X.1 ≤ 80 ∧ ∀ i, X.2 i < 256
def isD (h : Nat) : Bool := decide (48 ≤ h ∧ h ≤ 57)
def isL (h : Nat) : Bool := decide (97 ≤ h ∧ h < 107)
/-- digits, at most m of them: the number and the place behind -/
def dg (X : aX) (E : Nat) : Nat → Nat → Nat → Nat × Nat
  | 0, p, v => (v, p)
  | m + 1, p, v => if isD (hd X E p) = true then dg X E m (p + 1) (v * 10 + hd X E p - 48) else (v, p)
section XTX
variable {d E p c m f a i v : Nat} {s s' : mS} {X : aX} {w w' : Option Nat} {n : Int32}
theorem cur_1 : cur s p w 2 1 = s 2 1 := by
  unfold cur; rw [setA_at, upd_ne (by decide), upd_ne (by decide)]
theorem cur_2 : cur s p w 2 2 = s 2 2 := by
  unfold cur; rw [setA_at, upd_ne (by decide), upd_ne (by decide)]
theorem cur_3 : cur s p w 2 3 = nI p := by
  unfold cur; rw [setA_at, upd_ne (by decide), upd_eq rfl]
theorem cur_4 : cur s p w 2 4 = wI w := by
  unfold cur; rw [setA_at, upd_eq rfl]
theorem cur_ne (h : a ≠ 2) : cur s p w a = s a := setA_ne h
theorem cur_p {q : Nat} : up (cur s p w) 2 3 (nI q) = cur s q w := by
  unfold cur up
  rw [setA_twice, setA_at]
  congr 1
  funext j
  unfold upd
  split <;> split <;> simp_all
theorem cur_w : up (cur s p w) 2 4 (wI w') = cur s p w' := by
  unfold cur up
  rw [setA_twice, setA_at]
  congr 1
  funext j
  unfold upd
  split <;> simp_all
theorem cur_cur {q : Nat} : cur (cur s p w) q w' = cur s q w' := by
  funext b
  by_cases hb : b = 2
  · subst hb
    unfold cur
    rw [setA_at, setA_at, setA_at]
    funext j
    unfold upd
    by_cases h4 : j = 4
    · simp only [h4, if_true]
    · by_cases h3 : j = 3
      · simp [h3]
      · simp only [h4, h3, if_false]
  · rw [cur_ne hb, cur_ne hb, cur_ne hb]
theorem cur_up {j : Nat} (h : a ≠ 2) : up (cur s p w) a j n = cur (up s a j n) p w := by
  funext b
  unfold cur up setA
  by_cases hb : b = a
  · subst hb
    simp [h]
  · by_cases h2 : b = 2
    · subst h2
      simp [hb]
    · simp [hb, h2]
theorem cur_set {g : Nat → Int32} (h : a ≠ 2) : setA (cur s p w) a g = cur (setA s a g) p w := by
  funext b
  unfold cur setA
  by_cases hb : b = a
  · subst hb
    simp [h]
  · by_cases h2 : b = 2
    · subst h2
      simp [hb]
    · simp [hb, h2]
theorem hd_lt (h : hd X E p ≠ 256) : p < E := by
  unfold hd at h
  by_cases hp : p < E
  · exact hp
  · rw [if_neg hp] at h; exact absurd rfl h
theorem isD_lt (h : isD (hd X E p) = true) : p < E := hd_lt (fun z => by rw [z] at h; revert h; decide)
theorem isL_lt (h : isL (hd X E p) = true) : p < E := hd_lt (fun z => by rw [z] at h; revert h; decide)
theorem hd_le (hx : XE X E s) : hd X E p ≤ 256 := by
  unfold hd
  split
  · have := hx.2.2.2.2 p; omega
  · exact Nat.le_refl _
theorem XE_up {j : Nat} (hx : XE X E s) (h : a ≠ 2) (h2 : a ≠ 3) : XE X E (up s a j n) := by
  obtain ⟨⟨x1, x2⟩, h3, h4⟩ := hx
  exact ⟨⟨by rw [up_ne h.symm]; exact x1, fun i hi => by rw [up_ne h2.symm]; exact x2 i hi⟩, by rw [up_ne h.symm]; exact h3, h4⟩
theorem XE_q {P : List Nat} (hx : XE X E s) (q : Eqx P s s') (h : 2 ∉ P) (h2 : 3 ∉ P) : XE X E s' := by
  obtain ⟨x, h3, h4⟩ := hx
  exact ⟨XX_q x q h h2, by rw [q _ h]; exact h3, h4⟩
theorem hI_c (hc : c < 256) (hh : hd X E p ≤ 256) : (hI (hd X E p) = nI c) = (hd X E p = c) := by
  unfold hI
  by_cases h : hd X E p = 256
  · rw [if_pos h, h]
    have e : (-nI 1 = nI c) = False := eq_false (fun z => by
      have := nneg_f (a := c) (b := 1) (by omega) (by omega) (by omega)
      rw [← z] at this
      simp at this)
    rw [e]
    exact (eq_false (by omega)).symm
  · rw [if_neg h]
    exact propext (nI_eq (by omega) (by omega))
theorem hI_lt (hc : c < 256) (hh : hd X E p ≤ 256) : (hI (hd X E p) < nI c) = (hd X E p < c ∨ hd X E p = 256) := by
  unfold hI
  by_cases h : hd X E p = 256
  · rw [if_pos h]
    refine propext ⟨fun _ => Or.inr h, fun _ => ?_⟩
    rw [Int32.lt_iff_toInt_lt, negI (by omega), toI (by omega)]
    omega
  · rw [if_neg h]
    refine propext ⟨fun z => Or.inl ?_, fun z => ?_⟩
    · by_cases h2 : hd X E p < c
      · exact h2
      · exact absurd z (nI_nlt (by omega) (by omega))
    · rcases z with z | z
      · exact nI_lt z (by omega)
      · exact absurd z h
theorem x_ahead (hx : XE X E s) (hp : p ≤ E) : ev d 136 0 [.inr 2] [] (cur s p w) = some (0, hI (hd X E p), cur s p w) := by
  obtain ⟨⟨x1, x2⟩, h2, h3, h4, h5⟩ := hx
  rw [E136_0, cur_2, cur_3, h2]
  by_cases h : p < E
  · have e := x2 p (by omega)
    have e2 := h5 p
    have e3 : hd X E p = X.2 p := if_pos h
    have e4 : hI (X.2 p) = nI (X.2 p) := if_neg (by omega)
    rw [e3, e4]
    simp (disch := omega) only [cur_ne, e, E136_24, lit, nI_add, pk_mul, n_sub, n_addneg, nle_t, nle_f, nlt_t, nlt_f, neq_t, neq_f, n_inb, n_ix, bnd_some, if_true, if_false, ite_tt, ite_ff, not_true_eq_false, not_false_eq_true, eq_self, false_or, or_false, true_or, or_true]
  · have e3 : hd X E p = 256 := if_neg h
    have e4 : hI 256 = -nI 1 := if_pos rfl
    rw [e3, e4]
    simp (disch := omega) only [E136_24, lit, nI_add, pk_mul, n_sub, n_addneg, nle_t, nle_f, nlt_t, nlt_f, neq_t, neq_f, n_inb, n_ix, bnd_some, if_true, if_false, ite_tt, ite_ff, not_true_eq_false, not_false_eq_true, eq_self, false_or, or_false, true_or, or_true]
theorem x_step : ev d 137 0 [.inr 2] [] (cur s p w) = some (0, nI 0, cur s (p + 1) w) := by
  rw [E137_0, cur_3]
  simp only [lit, nI_add, cur_p]
theorem wI_n : (wI w = -nI 1) = (w = none) := by
  cases w with
  | none => simp [wI]
  | some f =>
    have e : (wI (some f) = -nI 1) = False := nneg_f (by omega) (by omega) (by omega)
    rw [e]
    simp
theorem wI_s {g : Nat} : ¬ wI (some g) = -1 := fun z => by
  have e : (wI (some g) = -nI 1) = False := nneg_f (by omega) (by omega) (by omega)
  exact cast e z
theorem x_failAt (hf : f ≤ 1000) : ev d 140 0 [.inr 2, .inl (nI f)] [] (cur s p w) = some (0, nI 0, cur s p (fl w f)) := by
  rw [E140_0, cur_4]
  cases w with
  | none =>
    have e : nI f = wI (some f) := by show nI f = nI (min f 1000); rw [Nat.min_eq_left hf]
    rw [if_neg (show ¬ ¬ wI none = -1 from not_not_intro rfl), e, cur_w, E140_13]
    rfl
  | some g =>
    rw [if_pos wI_s, E140_13]
    rfl
theorem x_good : ev d 133 0 [.inr 2] [] (cur s p w) = some (0, bI (decide (w = none)), cur s p w) := by
  rw [E133_0, cur_4]
  cases w with
  | none =>
    rw [if_neg (show ¬ ¬ wI none = -1 from not_not_intro rfl), E133_13]
    exact if_pos (Or.inr rfl)
  | some g =>
    rw [if_pos wI_s, E133_13]
    exact if_pos (Or.inl rfl)
theorem x_fail (hx : XE X E s) (hp : p ≤ E) : ev (d + 1) 138 0 [.inr 2] [] (cur s p w) = some (0, nI 0, cur s p (fl w p)) := by
  obtain ⟨-, -, h3, h4, -⟩ := hx
  rw [E138_0, cur_3, x_failAt (by omega), bnd_some]
  exact if_pos (Or.inl rfl)
theorem x_failLast (hx : XE X E s) (hp : p ≤ E) (h1 : 1 ≤ p) : ev (d + 1) 139 0 [.inr 2] [] (cur s p w) = some (0, nI 0, cur s p (fl w (p - 1))) := by
  obtain ⟨-, -, h3, h4, -⟩ := hx
  rw [E139_0, cur_3]
  simp only [lit]
  rw [pk_sub h1, x_failAt (by omega), bnd_some]
  exact if_pos (Or.inl rfl)
theorem x_ended (hx : XE X E s) (hp : p ≤ E) : ev d 135 0 [.inr 2] [] (cur s p w) = some (0, bI (decide (E ≤ p)), cur s p w) := by
  obtain ⟨⟨x1, x2⟩, h2, h3, h4, h5⟩ := hx
  rw [E135_0, cur_2, cur_3, h2]
  by_cases h : p < E
  · rw [decide_eq_false (by omega)]
    simp (disch := omega) only [E135_16, lit, nI_add, pk_mul, n_sub, n_addneg, nle_t, nle_f, nlt_t, nlt_f, neq_t, neq_f, n_inb, n_ix, bnd_some, if_true, if_false, ite_tt, ite_ff, not_true_eq_false, not_false_eq_true, eq_self, false_or, or_false, true_or, or_true]
    rfl
  · rw [decide_eq_true (by omega)]
    simp (disch := omega) only [E135_16, lit, nI_add, pk_mul, n_sub, n_addneg, nle_t, nle_f, nlt_t, nlt_f, neq_t, neq_f, n_inb, n_ix, bnd_some, if_true, if_false, ite_tt, ite_ff, not_true_eq_false, not_false_eq_true, eq_self, false_or, or_false, true_or, or_true]
    rfl
theorem x_tpass (hx : XE X E s) (hp : p ≤ E) (hc : c < 256) : ev (d + 1 + 1) 141 0 [.inr 2, .inl (nI c)] [] (cur s p w) = if hd X E p = c then some (0, nI 1, cur s (p + 1) w) else some (0, nI 0, cur s p (fl w p)) := by
  have hh := hI_c (p := p) (X := X) (E := E) hc (hd_le hx)
  rw [E141_0, x_ahead hx hp, bnd_some]
  by_cases h : hd X E p = c
  · rw [if_pos h, if_pos (show hI (hd X E p) = nI c from hh.mpr h), x_step, bnd_some]; rfl
  · rw [if_neg h, if_neg (show ¬ hI (hd X E p) = nI c from fun z => h (hh.mp z)), x_fail hx hp, bnd_some]
    exact if_pos (Or.inl rfl)
theorem x_passIf (hx : XE X E s) (hp : p ≤ E) (hc : c < 256) : ev (d + 1) 142 0 [.inr 2, .inl (nI c), .inr 0] [] (cur s p w) = if hd X E p = c then some (0, nI 1, cur s (p + 1) w) else some (0, nI 0, cur s p w) := by
  have hh := hI_c (p := p) (X := X) (E := E) hc (hd_le hx)
  rw [E142_0, x_ahead hx hp, bnd_some]
  by_cases h : hd X E p = c
  · rw [if_pos h, if_neg (show ¬ ¬ hI (hd X E p) = nI c from not_not_intro (hh.mpr h)), E142_13]
    simp (disch := omega) only [E142_28, cur_3, cur_p, lit, nI_add, pk_mul, n_sub, n_addneg, nle_t, nle_f, nlt_t, nlt_f, neq_t, neq_f, n_inb, n_ix, bnd_some, if_true, if_false, ite_tt, ite_ff, not_true_eq_false, not_false_eq_true, eq_self, false_or, or_false, true_or, or_true]
  · rw [if_neg h, if_pos (show ¬ hI (hd X E p) = nI c from fun z => h (hh.mp z)), E142_13]
    simp (disch := omega) only [E142_28, cur_3, cur_p, Nat.add_zero, lit, nI_add, pk_mul, n_sub, n_addneg, nle_t, nle_f, nlt_t, nlt_f, neq_t, neq_f, n_inb, n_ix, bnd_some, if_true, if_false, ite_tt, ite_ff, not_true_eq_false, not_false_eq_true, eq_self, false_or, or_false, true_or, or_true]
theorem x_atDigit (hx : XE X E s) (hp : p ≤ E) : ev (d + 1) 143 0 [.inr 2] [] (cur s p w) = some (0, bI (isD (hd X E p)), cur s p w) := by
  rw [E143_0]
  simp only [lit, x_ahead hx hp, bnd_some, hI_lt (show 48 < 256 by omega) (hd_le hx)]
  have hb := hd_le (p := p) hx
  unfold isD
  by_cases h1 : hd X E p < 48 ∨ hd X E p = 256
  · rw [if_pos h1, decide_eq_false (by omega), E143_22, E143_23]
    exact if_pos (Or.inl rfl)
  · rw [if_neg h1]
    have e : hI (hd X E p) = nI (hd X E p) := if_neg (fun z => h1 (Or.inr z))
    rw [e]
    by_cases h2 : hd X E p ≤ 57
    · rw [decide_eq_true (by omega)]
      simp (disch := omega) only [E143_23, lit, nI_add, pk_mul, n_sub, n_addneg, nle_t, nle_f, nlt_t, nlt_f, neq_t, neq_f, n_inb, n_ix, bnd_some, if_true, if_false, ite_tt, ite_ff, not_true_eq_false, not_false_eq_true, eq_self, false_or, or_false, true_or, or_true]
      rfl
    · rw [decide_eq_false (by omega)]
      simp (disch := omega) only [E143_22, E143_23, lit, nI_add, pk_mul, n_sub, n_addneg, nle_t, nle_f, nlt_t, nlt_f, neq_t, neq_f, n_inb, n_ix, bnd_some, if_true, if_false, ite_tt, ite_ff, not_true_eq_false, not_false_eq_true, eq_self, false_or, or_false, true_or, or_true]
      rfl
theorem x_atLetter (hx : XE X E s) (hp : p ≤ E) : ev (d + 1) 144 0 [.inr 2] [] (cur s p w) = some (0, bI (isL (hd X E p)), cur s p w) := by
  rw [E144_0]
  simp only [lit, x_ahead hx hp, bnd_some, hI_lt (show 97 < 256 by omega) (hd_le hx)]
  have hb := hd_le (p := p) hx
  unfold isL
  by_cases h1 : hd X E p < 97 ∨ hd X E p = 256
  · rw [if_pos h1, decide_eq_false (by omega), E144_22, E144_23]
    exact if_pos (Or.inl rfl)
  · rw [if_neg h1]
    have e : hI (hd X E p) = nI (hd X E p) := if_neg (fun z => h1 (Or.inr z))
    rw [e]
    by_cases h2 : hd X E p < 107
    · rw [decide_eq_true (by omega)]
      simp (disch := omega) only [E144_23, lit, nI_add, pk_mul, n_sub, n_addneg, nle_t, nle_f, nlt_t, nlt_f, neq_t, neq_f, n_inb, n_ix, bnd_some, if_true, if_false, ite_tt, ite_ff, not_true_eq_false, not_false_eq_true, eq_self, false_or, or_false, true_or, or_true]
      rfl
    · rw [decide_eq_false (by omega)]
      simp (disch := omega) only [E144_22, E144_23, lit, nI_add, pk_mul, n_sub, n_addneg, nle_t, nle_f, nlt_t, nlt_f, neq_t, neq_f, n_inb, n_ix, bnd_some, if_true, if_false, ite_tt, ite_ff, not_true_eq_false, not_false_eq_true, eq_self, false_or, or_false, true_or, or_true]
      rfl
theorem hI_D (h : isD (hd X E p) = true) : hI (hd X E p) = nI (hd X E p) := if_neg (fun z => by rw [z] at h; revert h; decide)
theorem hI_L (h : isL (hd X E p) = true) : hI (hd X E p) = nI (hd X E p) := if_neg (fun z => by rw [z] at h; revert h; decide)
theorem x_letter (hx : XE X E s) (hp : p ≤ E) : ev (d + 1 + 1) 145 0 [.inr 2, .inr 0] [] (cur s p w) = if isL (hd X E p) = true then some (0, nI (hd X E p - 97), cur s (p + 1) w) else some (0, -nI 1, cur s p (fl w p)) := by
  rw [E145_0, x_atLetter hx hp, bnd_some]
  cases h : isL (hd X E p) with
  | true =>
    have hb := of_decide_eq_true h
    simp (disch := omega) only [bI_t, x_ahead hx hp, hI_L h, x_step, lit, nI_add, pk_mul, n_sub, n_addneg, nle_t, nle_f, nlt_t, nlt_f, neq_t, neq_f, n_inb, n_ix, bnd_some, if_true, if_false, ite_tt, ite_ff, not_true_eq_false, not_false_eq_true, eq_self, false_or, or_false, true_or, or_true]
  | false =>
    simp (disch := omega) only [bI_f, x_fail hx hp, Bool.false_eq_true, lit, nI_add, pk_mul, n_sub, n_addneg, nle_t, nle_f, nlt_t, nlt_f, neq_t, neq_f, n_inb, n_ix, bnd_some, if_true, if_false, ite_tt, ite_ff, not_true_eq_false, not_false_eq_true, eq_self, false_or, or_false, true_or, or_true]
theorem dg_le {p v : Nat} (hp : p ≤ E) : p ≤ (dg X E m p v).2 ∧ (dg X E m p v).2 ≤ E := by
  induction m generalizing p v with
  | zero => exact ⟨Nat.le_refl _, hp⟩
  | succ m ih =>
    unfold dg
    split
    · next h =>
      have := ih (p := p + 1) (v := v * 10 + hd X E p - 48) (isD_lt h)
      omega
    · exact ⟨Nat.le_refl _, hp⟩
theorem dg_v {p v k : Nat} (hv : v < 10 ^ k) : (dg X E m p v).1 < 10 ^ (k + m) := by
  induction m generalizing p v k with
  | zero => exact hv
  | succ m ih =>
    unfold dg
    split
    · next h =>
      have hb := of_decide_eq_true h
      have := ih (p := p + 1) (v := v * 10 + hd X E p - 48) (k := k + 1) (by rw [Nat.pow_succ]; omega)
      rw [show k + (m + 1) = k + 1 + m by omega]
      exact this
    · have : 10 ^ k ≤ 10 ^ (k + (m + 1)) := Nat.pow_le_pow_right (by omega) (by omega)
      show v < _
      omega
theorem dg_1 {p v : Nat} (hp : p ≤ E) (h : isD (hd X E p) = true) : p + 1 ≤ (dg X E (m + 1) p v).2 := by
  unfold dg
  rw [if_pos h]
  exact (dg_le (isD_lt h)).1
theorem x_number (hx : XE X E s) (hp : p ≤ E) (hm : m ≤ 3) : ev (d + 1 + 1) 146 0 [.inr 2, .inl (nI m), .inr 0, .inr 0] [] (cur s p w) = if isD (hd X E p) = true then some (0, nI (dg X E m p 0).1, cur s (dg X E m p 0).2 w) else some (0, -nI 1, cur s p (fl w p)) := by
  have loop : ∀ k p v i, k + i = m → p ≤ E → ev (d + 1 + 1) 146 18 [.inr 2, .inl (nI m), .inl (nI v), .inl (nI i)] [] (cur s p w) = some (0, nI (dg X E k p v).1, cur s (dg X E k p v).2 w) := by
    intro k
    induction k with
    | zero =>
      intro p v i hk hp
      rw [E146_18]
      simp (disch := omega) only [E146_53, lit, nI_add, pk_mul, n_sub, n_addneg, nle_t, nle_f, nlt_t, nlt_f, neq_t, neq_f, n_inb, n_ix, bnd_some, if_true, if_false, ite_tt, ite_ff, not_true_eq_false, not_false_eq_true, eq_self, false_or, or_false, true_or, or_true]
      rfl
    | succ k ih =>
      intro p v i hk hp
      rw [E146_18]
      simp (disch := omega) only [x_atDigit hx hp, lit, nI_add, pk_mul, n_sub, n_addneg, nle_t, nle_f, nlt_t, nlt_f, neq_t, neq_f, n_inb, n_ix, bnd_some, if_true, if_false, ite_tt, ite_ff, not_true_eq_false, not_false_eq_true, eq_self, false_or, or_false, true_or, or_true]
      unfold dg
      cases h : isD (hd X E p) with
      | true =>
        have hb := of_decide_eq_true h
        rw [if_pos (show true = true from rfl), ← ih (p + 1) (v * 10 + hd X E p - 48) (i + 1) (by omega) (isD_lt h)]
        simp (disch := omega) only [bI_t, x_ahead hx hp, hI_D h, x_step, lit, nI_add, pk_mul, n_sub, n_addneg, nle_t, nle_f, nlt_t, nlt_f, neq_t, neq_f, n_inb, n_ix, bnd_some, if_true, if_false, ite_tt, ite_ff, not_true_eq_false, not_false_eq_true, eq_self, false_or, or_false, true_or, or_true]
      | false =>
        rw [if_neg (show ¬ (false = true) by simp)]
        simp (disch := omega) only [bI_f, E146_53, lit, nI_add, pk_mul, n_sub, n_addneg, nle_t, nle_f, nlt_t, nlt_f, neq_t, neq_f, n_inb, n_ix, bnd_some, if_true, if_false, ite_tt, ite_ff, not_true_eq_false, not_false_eq_true, eq_self, false_or, or_false, true_or, or_true]
  rw [E146_0, x_atDigit hx hp, bnd_some]
  cases h : isD (hd X E p) with
  | true =>
    rw [if_pos rfl]
    simp (disch := omega) only [bI_t, lit, nI_add, pk_mul, n_sub, n_addneg, nle_t, nle_f, nlt_t, nlt_f, neq_t, neq_f, n_inb, n_ix, bnd_some, if_true, if_false, ite_tt, ite_ff, not_true_eq_false, not_false_eq_true, eq_self, false_or, or_false, true_or, or_true]
    exact loop m p 0 0 (by omega) hp
  | false =>
    simp (disch := omega) only [bI_f, x_fail hx hp, Bool.false_eq_true, lit, nI_add, pk_mul, n_sub, n_addneg, nle_t, nle_f, nlt_t, nlt_f, neq_t, neq_f, n_inb, n_ix, bnd_some, if_true, if_false, ite_tt, ite_ff, not_true_eq_false, not_false_eq_true, eq_self, false_or, or_false, true_or, or_true]
theorem x_nnz (hx : XE X E s) (hp : p ≤ E) (hm : m + 1 ≤ 3) : ev (d + 1 + 1 + 1) 147 0 [.inr 2, .inl (nI (m + 1)), .inr 0] [] (cur s p w) = if isD (hd X E p) = true then some (0, nI (dg X E (m + 1) p 0).1, cur s (dg X E (m + 1) p 0).2 (if (dg X E (m + 1) p 0).1 = 0 then fl w ((dg X E (m + 1) p 0).2 - 1) else w)) else some (0, -nI 1, cur s p (fl w p)) := by
  rw [E147_0, x_number hx hp hm]
  cases h : isD (hd X E p) with
  | true =>
    have l1 := dg_le (X := X) (m := m + 1) (v := 0) hp
    have l2 := dg_1 (m := m) (v := 0) hp h
    have l3 := dg_v (X := X) (E := E) (m := m + 1) (p := p) (v := 0) (k := 0) (by decide)
    have l4 : (10 : Nat) ^ (0 + (m + 1)) ≤ 10 ^ 3 := Nat.pow_le_pow_right (by omega) (by omega)
    rw [if_pos rfl, if_pos rfl, bnd_some]
    by_cases hz : (dg X E (m + 1) p 0).1 = 0
    · rw [if_pos hz, hz]
      simp only [lit, not_true_eq_false, if_false]
      rw [x_failLast hx l1.2 (by omega), bnd_some, E147_15]
    · rw [if_neg hz]
      simp (disch := omega) only [E147_15, lit, nI_add, pk_mul, n_sub, n_addneg, nle_t, nle_f, nlt_t, nlt_f, neq_t, neq_f, n_inb, n_ix, bnd_some, if_true, if_false, ite_tt, ite_ff, not_true_eq_false, not_false_eq_true, eq_self, false_or, or_false, true_or, or_true]
  | false =>
    rw [if_neg (show ¬ (false = true) by simp), if_neg (show ¬ (false = true) by simp), bnd_some]
    have e : ¬ (-nI 1 = (0 : Int32)) := by decide +kernel
    rw [if_pos e, E147_15]
/-- reading begins -/
theorem x_open {M : Nat} (hx : XX X s) (h1 : X.1 ≤ 80) (h2 : ∀ i, X.2 i < 256) (hM : M ≤ 80) : ∃ s1, ev d 131 0 [.inr 2, .inl (nI M)] [] s = some (0, nI 0, cur s1 0 none) ∧ XE X (min X.1 M) s1 ∧ Eqx [2] s s1 := by
  have hx1 : s 2 1 = nI X.1 := hx.1
  have e1 : (up s 2 2 (nI (min X.1 M))) 2 1 = nI X.1 := by rw [up_out (by decide)]; exact hx1
  refine ⟨up s 2 2 (nI (min X.1 M)), ?_, ⟨⟨e1, fun i hi => by rw [up_ne (by decide)]; exact hx.2 i hi⟩, up_in, by omega, h1, h2⟩, Eqx.rf.up (by simp)⟩
  rw [E131_0, hx1, mmin_n (by omega) (by omega)]
  congr 3
  funext b
  unfold cur up setA upd
  by_cases hb : b = 2
  · subst hb
    funext j
    simp [wI]
    rfl
  · simp [hb]
/-- reading ends: what has not been read is wrong, the text is gone -/
def clW (X : aX) (E p : Nat) (w : Option Nat) : Option Nat := if p < X.1 then fl w p else w
theorem x_close {M : Nat} (hx : XE X (min X.1 M) s) (hp : p ≤ min X.1 M) (hM : M ≤ 80) : ev (d + 1) 132 0 [.inr 2] [] (cur s p w) = some (0, nI 0, cur (up s 2 1 (nI 0)) p (clW X (min X.1 M) p w)) := by
  obtain ⟨⟨x1, x2⟩, h2, h3, h4, h5⟩ := hx
  have x1 : s 2 1 = nI X.1 := x1
  have ee : ∀ w', up (cur s p w') 2 1 (nI 0) = cur (up s 2 1 (nI 0)) p w' := fun w' => by
    funext b
    unfold cur up setA upd
    by_cases hb : b = 2
    · subst hb
      funext j
      by_cases j1 : j = 1
      · subst j1; simp
      · simp [j1]
    · simp [hb]
  rw [E132_0, cur_1, cur_2, cur_3, x1, h2]
  unfold clW
  have bad : ev (d + 1) 132 22 [.inr 2] [] (cur s p w) = some (0, nI 0, cur (up s 2 1 (nI 0)) p (fl w p)) := by
    rw [E132_22, cur_3, x_failAt (by omega), bnd_some, E132_31]
    simp only [lit, ee]
  by_cases h1 : p < min X.1 M
  · rw [if_pos (show p < X.1 by omega)]
    simp (disch := omega) only [lit, nI_add, pk_mul, n_sub, n_addneg, nle_t, nle_f, nlt_t, nlt_f, neq_t, neq_f, n_inb, n_ix, bnd_some, if_true, if_false, ite_tt, ite_ff, not_true_eq_false, not_false_eq_true, eq_self, false_or, or_false, true_or, or_true]
    exact bad
  · by_cases hl : X.1 ≤ min X.1 M
    · rw [if_neg (show ¬ p < X.1 by omega)]
      simp (disch := omega) only [E132_31, ee, lit, nI_add, pk_mul, n_sub, n_addneg, nle_t, nle_f, nlt_t, nlt_f, neq_t, neq_f, n_inb, n_ix, bnd_some, if_true, if_false, ite_tt, ite_ff, not_true_eq_false, not_false_eq_true, eq_self, false_or, or_false, true_or, or_true]
    · rw [if_pos (show p < X.1 by omega)]
      simp (disch := omega) only [lit, nI_add, pk_mul, n_sub, n_addneg, nle_t, nle_f, nlt_t, nlt_f, neq_t, neq_f, n_inb, n_ix, bnd_some, if_true, if_false, ite_tt, ite_ff, not_true_eq_false, not_false_eq_true, eq_self, false_or, or_false, true_or, or_true]
      exact bad
theorem x_complaint {f : Nat} (hf : f ≤ 1000) : ev d 134 0 [.inr 2] [] (cur s p (some f)) = some (0, -nI (f + 1), cur s p (some f)) := by
  rw [E134_0, cur_4]
  have e : wI (some f) = nI f := by show nI (min f 1000) = nI f; rw [Nat.min_eq_left hf]
  have e2 : -1 - nI f = -nI (f + 1) := by
    show -nI 1 - nI f = _
    rw [← nI_add, Int32.neg_add, Int32.sub_eq_add_neg, Int32.add_comm, Int32.sub_eq_add_neg]
  rw [e, e2]
end XTX
