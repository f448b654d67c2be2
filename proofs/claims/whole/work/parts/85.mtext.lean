/-! THE MODEL READS A TEXT -/
def hB (n : Nat) : Int32 := if n = 256 then -nI 1 else bB n
def mcu (s : mS) (p : Nat) (w : Option Nat) : mS := setA s 67 (upd (upd (s 67) 22 (nI p)) 23 (wI w))
/-- the model reads a text, up to a place -/
def MC (X : aX) (E k : Nat) (s : mS) : Prop := (k = 79 ∨ k = 83) ∧ s 67 19 = nI k ∧ (∃ a b, s 67 20 = nI a ∧ s 67 21 = nI b ∧ min a b = E ∧ a ≤ 80 ∧ b ≤ 80) ∧ E ≤ (mSh k).2 ∧ (∀ i, i < E → s k i = bB (X.2 i)) ∧ (∀ i, X.2 i < 256)
theorem hB_c {h c : Nat} (hc : c < 128) (hh : h ≤ 256) : (hB h = nI c) = (h = c) := by
  unfold hB
  by_cases h1 : h = 256
  · rw [if_pos h1]
    exact propext ⟨fun z => absurd z.symm (of_eq_false (nneg_f (a := c) (b := 1) (by omega) (by omega) (by omega))), fun z => by omega⟩
  · rw [if_neg h1]
    unfold bB
    by_cases h2 : h < 128
    · rw [if_pos h2]
      by_cases h3 : h = c
      · rw [neq_t h3, eq_true h3]
      · rw [neq_f h3 (by omega) (by omega), eq_false h3]
    · rw [if_neg h2]
      exact propext ⟨fun z => absurd z.symm (of_eq_false (nneg_f (a := c) (b := 256 - h) (by omega) (by omega) (by omega))), fun z => by omega⟩
theorem hB_D : ∀ h, h < 257 → decide (¬ hB h < nI 48 ∧ ¬ nI 57 < hB h) = isD h := by decide +kernel
section MTX
variable {d E p c m f a i v k : Nat} {s s' : mS} {X : aX} {w w' : Option Nat} {n : Int32} {P F : List Nat}
theorem mcu_f {j : Nat} (h1 : j ≠ 22) (h2 : j ≠ 23) : mcu s p w 67 j = s 67 j := by
  unfold mcu; rw [setA_at, upd_ne h2, upd_ne h1]
theorem mcu_22 : mcu s p w 67 22 = nI p := by
  unfold mcu; rw [setA_at, upd_ne (by decide), upd_eq rfl]
theorem mcu_23 : mcu s p w 67 23 = wI w := by
  unfold mcu; rw [setA_at, upd_eq rfl]
theorem mcu_ne (h : a ≠ 67) : mcu s p w a = s a := setA_ne h
theorem mcu_p {q : Nat} : up (mcu s p w) 67 22 (nI q) = mcu s q w := by
  unfold mcu up
  rw [setA_twice, setA_at]
  congr 1
  funext j
  unfold upd
  split <;> split <;> simp_all
theorem mcu_w : up (mcu s p w) 67 23 (wI w') = mcu s p w' := by
  unfold mcu up
  rw [setA_twice, setA_at]
  congr 1
  funext j
  unfold upd
  split <;> simp_all
theorem mcu_q : Eqm [] [22, 23] s (mcu s p w) := ⟨fun a _ hb => mcu_ne hb, fun f hf => mcu_f (fun z => hf (by rw [z]; decide)) (fun z => hf (by rw [z]; decide))⟩
theorem MC_q (h : MC X E k s) (q : Eqm P F s s') (hp : ∀ a ∈ P, a ∉ [79, 83]) (hf : ∀ f ∈ F, f ∉ [19, 20, 21]) : MC X E k s' := by
  obtain ⟨h1, h2, ⟨a, b, h3, h4, h5⟩, h6, h7, h8⟩ := h
  have ek : s' k = s k := by
    rcases h1 with rfl | rfl
    · exact q.1 _ (fun z => hp _ z (by decide)) (by decide)
    · exact q.1 _ (fun z => hp _ z (by decide)) (by decide)
  have ef : ∀ f, f ∈ [19, 20, 21] → s' 67 f = s 67 f := fun f hm => q.2 f (fun z => hf f z hm)
  exact ⟨h1, (ef 19 (by decide)).trans h2, ⟨a, b, (ef 20 (by decide)).trans h3, (ef 21 (by decide)).trans h4, h5⟩, h6, by rw [ek]; exact h7, h8⟩
theorem hd_le' (hx : MC X E k s) : hd X E p ≤ 256 := by
  unfold hd
  split
  · exact Nat.le_of_lt (hx.2.2.2.2.2 p)
  · exact Nat.le_refl _
theorem m_here (hx : MC X E k s) (hp : p ≤ E) : ev d 238 0 [.inr 67] [] (mcu s p w) = some (0, hB (hd X E p), mcu s p w) := by
  obtain ⟨h1, h2, ⟨a, b, h3, h4, h5, h5a, h5b⟩, h6, h7, h8⟩ := hx
  have hk : k < 100 := by rcases h1 with rfl | rfl <;> decide
  have hsz : (mSh k).2 < 1000 := by rcases h1 with rfl | rfl <;> decide
  have hkm : k ≠ 67 := by rcases h1 with rfl | rfl <;> decide
  have e19 : mcu s p w 67 19 = nI k := by rw [mcu_f (by decide) (by decide)]; exact h2
  have e20 : mcu s p w 67 20 = nI a := by rw [mcu_f (by decide) (by decide)]; exact h3
  have e21 : mcu s p w 67 21 = nI b := by rw [mcu_f (by decide) (by decide)]; exact h4
  have hread : mTab.sh (ix (mcu s p w 67 19)) = (22, (mSh (ix (mcu s p w 67 19))).2) := by
    rw [e19, n_ix (by omega)]
    rcases h1 with rfl | rfl <;> decide +kernel
  rw [E238_0 hread, E238_34 hread, E238_35, e19, e20, e21, mcu_22, n_ix (show k < 2147483648 by omega)]
  unfold hd hB
  by_cases z : p < E
  · have e1 := h7 p z
    have e8 := h8 p
    rw [if_pos z, if_neg (by omega : ¬ X.2 p = 256), mcu_ne hkm, ← e1]
    simp (disch := omega) only [E238_35, lit, nI_add, pk_mul, n_sub, n_addneg, nle_t, nle_f, nlt_t, nlt_f, neq_t, neq_f, n_inb, n_ix, bnd_some, if_true, if_false, ite_tt, ite_ff, not_true_eq_false, not_false_eq_true, eq_self, false_or, or_false, true_or, or_true]
  · rw [if_neg z, if_pos rfl]
    by_cases z2 : a ≤ p
    · simp (disch := omega) only [lit, nI_add, pk_mul, n_sub, n_addneg, nle_t, nle_f, nlt_t, nlt_f, neq_t, neq_f, n_inb, n_ix, bnd_some, if_true, if_false, ite_tt, ite_ff, not_true_eq_false, not_false_eq_true, eq_self, false_or, or_false, true_or, or_true]
    · simp (disch := omega) only [lit, nI_add, pk_mul, n_sub, n_addneg, nle_t, nle_f, nlt_t, nlt_f, neq_t, neq_f, n_inb, n_ix, bnd_some, if_true, if_false, ite_tt, ite_ff, not_true_eq_false, not_false_eq_true, eq_self, false_or, or_false, true_or, or_true]
theorem m_fine : ev d 239 0 [.inr 67] [] (mcu s p w) = some (0, bI (decide (w = none)), mcu s p w) := by
  rw [E239_0, mcu_23, E239_13, E239_13]
  have e : (wI w = -1) = (w = none) := wI_n
  cases w with
  | none =>
    rw [if_neg (show ¬ ¬ wI none = -1 from not_not_intro rfl)]
    exact if_pos (Or.inr rfl)
  | some g =>
    rw [if_pos (show ¬ wI (some g) = -1 from wI_s), decide_eq_false (by simp)]
    exact if_pos (Or.inl rfl)
theorem m_fault (hf : f ≤ 1000) : ev (d + 1) 240 0 [.inr 67, .inl (nI f)] [] (mcu s p w) = some (0, nI 0, mcu s p (fl w f)) := by
  rw [E240_0, m_fine, bnd_some, E240_12, E240_12]
  cases w with
  | none =>
    rw [decide_eq_true rfl, if_neg (show ¬ bI true = 0 by decide +kernel)]
    have e : nI f = wI (some f) := by show nI f = nI (min f 1000); rw [Nat.min_eq_left hf]
    rw [e, mcu_w]
    rfl
  | some g =>
    rw [decide_eq_false (by simp), if_pos (show bI false = 0 from rfl)]
    rfl
theorem m_passes1 (hx : MC X E k s) (hp : p ≤ E) (hc : c < 128) (h : hd X E p = c) : ev (d + 1) 241 0 [.inr 67, .inl (nI c)] [] (mcu s p none) = some (0, nI 1, mcu s (p + 1) none) := by
  rw [E241_0, m_fine, bnd_some, decide_eq_true rfl, if_neg (show ¬ bI true = 0 by decide +kernel), m_here hx hp, bnd_some, if_pos (by rw [hB_c hc (hd_le' hx)]; exact h), mcu_22]
  have e : nI p + 1 = nI (p + 1) := nI_add p 1
  rw [e, mcu_p]
  rfl
theorem m_passes0 (hx : MC X E k s) (hp : p ≤ E) (hc : c < 128) (h : w ≠ none ∨ hd X E p ≠ c) : ev (d + 1) 241 0 [.inr 67, .inl (nI c)] [] (mcu s p w) = some (0, nI 0, mcu s p w) := by
  rw [E241_0, m_fine, bnd_some, E241_15]
  cases w with
  | none =>
    rw [decide_eq_true rfl, if_neg (show ¬ bI true = 0 by decide +kernel), m_here hx hp, bnd_some, if_neg (fun z => by
      rw [hB_c hc (hd_le' hx)] at z
      rcases h with h | h
      · exact h rfl
      · exact h z), E241_15]
    rfl
  | some g =>
    rw [decide_eq_false (by simp), if_pos (show bI false = 0 from rfl)]
    rfl
theorem m_need1 (hx : MC X E k s) (hp : p ≤ E) (hc : c < 128) (h : hd X E p = c) : ev (d + 1 + 1) 242 0 [.inr 67, .inl (nI c)] [] (mcu s p none) = some (0, nI 0, mcu s (p + 1) none) := by
  rw [E242_0, m_passes1 hx hp hc h, bnd_some, if_pos (show ¬ nI 1 = 0 by decide +kernel), E242_16]
  rfl
theorem m_need0 (hx : MC X E k s) (hp : p ≤ E) (hE : E ≤ 80) (hc : c < 128) (h : w ≠ none ∨ hd X E p ≠ c) : ev (d + 1 + 1) 242 0 [.inr 67, .inl (nI c)] [] (mcu s p w) = some (0, nI 0, mcu s p (fl w p)) := by
  rw [E242_0, m_passes0 hx hp hc h, bnd_some, if_neg (show ¬ ¬ nI 0 = 0 from not_not_intro rfl), mcu_22, m_fault (by omega), bnd_some, E242_16]
  rfl
theorem hB_Dn (h : isD (hd X E p) = true) : hB (hd X E p) = nI (hd X E p) := by
  have hb := of_decide_eq_true h
  unfold hB bB
  rw [if_neg (by omega), if_pos (by omega)]
theorem m_digit (hx : MC X E k s) : ev d 228 0 [.inl (hB (hd X E p)), .inl (nI 48), .inl (nI 57)] [] s' = some (0, bI (isD (hd X E p)), s') := by
  rw [m_in, hB_D _ (by have := hd_le' (p := p) hx; omega)]
/-- a number: the digits, and then whether it is within bounds -/
theorem m_number {lo hi : Nat} (hx : MC X E k s) (hp : p ≤ E) (hE : E ≤ 80) (hm : m ≤ 3) (hlo : lo < 2000) (hhi : hi < 2000) : ev (d + 1 + 1) 243 0 [.inr 67, .inl (nI m), .inl (nI lo), .inl (nI hi), .inr 0, .inr 0] [] (mcu s p none) = if (dg X E m p 0).2 = p then some (0, nI 0, mcu s p (some p)) else if lo ≤ (dg X E m p 0).1 ∧ (dg X E m p 0).1 ≤ hi then some (0, nI (dg X E m p 0).1, mcu s (dg X E m p 0).2 none) else some (0, nI 0, mcu s (dg X E m p 0).2 (some ((dg X E m p 0).2 - 1))) := by
  have loop : ∀ j q v, q + j = p + m → q ≤ E → p ≤ q → v < 2000 * 10 ^ (3 - j) → ev (d + 1 + 1) 243 18 [.inr 67, .inl (nI m), .inl (nI lo), .inl (nI hi), .inl (nI p), .inl (nI v)] [] (mcu s q none) = ev (d + 1 + 1) 243 71 [.inr 67, .inr 0, .inl (nI lo), .inl (nI hi), .inl (nI p), .inl (nI (dg X E j q v).1)] [] (mcu s (dg X E j q v).2 none) := by
    intro j
    induction j with
    | zero =>
      intro q v hk hq hpq hv
      rw [E243_18, mcu_22]
      simp (disch := omega) only [lit, nI_add, pk_mul, n_sub, n_addneg, nle_t, nle_f, nlt_t, nlt_f, neq_t, neq_f, n_inb, n_ix, bnd_some, if_true, if_false, ite_tt, ite_ff, not_true_eq_false, not_false_eq_true, eq_self, false_or, or_false, true_or, or_true]
      rfl
    | succ j ih =>
      intro q v hk hq hpq hv
      rw [E243_18, mcu_22]
      simp (disch := omega) only [m_here hx hq, m_digit hx, lit, nI_add, pk_mul, n_sub, n_addneg, nle_t, nle_f, nlt_t, nlt_f, neq_t, neq_f, n_inb, n_ix, bnd_some, if_true, if_false, ite_tt, ite_ff, not_true_eq_false, not_false_eq_true, eq_self, false_or, or_false, true_or, or_true]
      unfold dg
      cases h : isD (hd X E q) with
      | true =>
        have hb := of_decide_eq_true h
        have hv2 : v * 10 + hd X E q - 48 < 2000 * 10 ^ (3 - j) := by
          have e : 3 - j = 3 - (j + 1) + 1 := by omega
          rw [e, Nat.pow_succ]
          omega
        rw [if_pos (show true = true from rfl), ← ih (q + 1) (v * 10 + hd X E q - 48) (by omega) (isD_lt h) (by omega) hv2]
        have em : 10 * v = v * 10 := Nat.mul_comm _ _
        simp (disch := omega) only [bIt0, hB_Dn h, mcu_22, mcu_p, em, lit, nI_add, pk_mul, n_sub, n_addneg, nle_t, nle_f, nlt_t, nlt_f, neq_t, neq_f, n_inb, n_ix, bnd_some, if_true, if_false, ite_tt, ite_ff, not_true_eq_false, not_false_eq_true, eq_self, false_or, or_false, true_or, or_true]
      | false =>
        rw [if_neg (show ¬ (false = true) by simp)]
        simp (disch := omega) only [bIf0, lit, nI_add, pk_mul, n_sub, n_addneg, nle_t, nle_f, nlt_t, nlt_f, neq_t, neq_f, n_inb, n_ix, bnd_some, if_true, if_false, ite_tt, ite_ff, not_true_eq_false, not_false_eq_true, eq_self, false_or, or_false, true_or, or_true]
  have l1 := dg_le (X := X) (m := m) (v := 0) hp
  have l3 := dg_v (X := X) (E := E) (m := m) (p := p) (v := 0) (k := 0) (by decide)
  have l4 : (10 : Nat) ^ (0 + m) ≤ 10 ^ 3 := Nat.pow_le_pow_right (by omega) (by omega)
  have l5 := loop m p 0 rfl hp (Nat.le_refl _) (Nat.mul_pos (by omega) (Nat.pow_pos (by omega)))
  rw [E243_0, m_fine, bnd_some, decide_eq_true rfl, if_pos (show ¬ bI true = 0 by decide +kernel), mcu_22]
  refine l5.trans ?_
  generalize dg X E m p 0 = r at l1 l3
  obtain ⟨v, q⟩ := r
  dsimp only at l1 l3 ⊢
  have g : ∀ (y : mS) (q2 : Nat) (v2 : Nat) (w2 : Option Nat), ev (d + 1 + 1) 243 111 [.inr 67, .inr 0, .inr 0, .inr 0, .inr 0, .inl (nI v2)] [] (mcu s q2 w2) = some (0, if w2 = none then nI v2 else nI 0, mcu s q2 w2) := fun y q2 v2 w2 => by
    rw [E243_111, m_fine, bnd_some, E243_124, E243_124]
    cases w2 with
    | none => rw [decide_eq_true rfl, if_neg (show ¬ bI true = 0 by decide +kernel), if_pos rfl]
    | some g => rw [decide_eq_false (by simp), if_pos (show bI false = 0 from rfl), if_neg (by simp)]; rfl
  rw [E243_71, mcu_22]
  by_cases z : q = p
  · subst z
    rw [if_pos rfl]
    simp (disch := omega) only [m_fault (d := d) (f := q), g s, lit, nI_add, pk_mul, n_sub, n_addneg, nle_t, nle_f, nlt_t, nlt_f, neq_t, neq_f, n_inb, n_ix, bnd_some, if_true, if_false, ite_tt, ite_ff, not_true_eq_false, not_false_eq_true, eq_self, false_or, or_false, true_or, or_true]
    rw [if_neg (by rw [fl_none]; simp), fl_none]
  · rw [if_neg z]
    by_cases z2 : lo ≤ v ∧ v ≤ hi
    · rw [if_pos z2]
      have ei := in_t (d := d + 1) (s := mcu s q none) (nI_nlt z2.1 (by omega)) (nI_nlt z2.2 (by omega))
      simp (disch := omega) only [ei, bIt0, g s, lit, nI_add, pk_mul, n_sub, n_addneg, nle_t, nle_f, nlt_t, nlt_f, neq_t, neq_f, n_inb, n_ix, bnd_some, if_true, if_false, ite_tt, ite_ff, not_true_eq_false, not_false_eq_true, eq_self, false_or, or_false, true_or, or_true]
    · rw [if_neg z2]
      have ei := in_f (d := d + 1) (s := mcu s q none) (t := nI v) (lo := nI lo) (hi := nI hi) (by
        by_cases z3 : v < lo
        · exact Or.inl (nI_lt z3 (by omega))
        · exact Or.inr (nI_lt (by omega) (by omega)))
      simp (disch := omega) only [ei, bIf0, mcu_22, m_fault (d := d) (f := q - 1), g s, lit, nI_add, pk_mul, n_sub, n_addneg, nle_t, nle_f, nlt_t, nlt_f, neq_t, neq_f, n_inb, n_ix, bnd_some, if_true, if_false, ite_tt, ite_ff, not_true_eq_false, not_false_eq_true, eq_self, false_or, or_false, true_or, or_true]
      rw [if_neg (by rw [fl_none]; simp), fl_none]
end MTX
