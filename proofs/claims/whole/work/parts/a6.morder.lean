/-! THE MODEL: an order's steps are read -/
def MO (s : mS) (i : Nat) (o : aO) : Prop := s 85 (4 * i) = nI o.1 ∧ s 85 (4 * i + 1) = nI (if o.1 = 110 then o.2.2.1 else o.2.1) ∧ ((o.1 = 104 ∨ o.1 = 108) → s 85 (4 * i + 2) = nI o.2.2.1) ∧ (o.1 = 108 → s 85 (4 * i + 3) = nI o.2.2.2)
section MTU
variable {d E p f a v x l B B' n i q k c : Nat} {s s' s1 s2 : mS} {X : aX} {w : Option Nat} {a2 b0 t : Int32}
theorem inb_ad {a b n : Nat} (h : a + b < n) (hn : n < 2147483648) : inb (nI a + nI b) n = true := by
  rw [nI_add]; exact n_inb h hn
theorem ix_ad {a b : Nat} (h : a + b < 2147483648) : ix (nI a + nI b) = a + b := by
  rw [nI_add]; exact n_ix h
theorem m_num1 (hx : MC X E k s) (hp : p ≤ E) (hE : E ≤ 80) : ev (d + 1 + 1) 243 0 [.inr 67, .inl (nI 1), .inl (nI 0), .inl (nI 9), .inr 0, .inr 0] [] (mcu s p none) = if isD (hd X E p) = true then some (0, nI (dg X E 1 p 0).1, mcu s (dg X E 1 p 0).2 none) else some (0, nI 0, mcu s p (some p)) := by
  have e := m_number (d := d) (m := 1) (lo := 0) (hi := 9) hx hp hE (by omega) (by omega) (by omega)
  have l3 := dg_v (X := X) (E := E) (m := 1) (p := p) (v := 0) (k := 0) (by decide)
  have h10 : (10 : Nat) ^ (0 + 1) = 10 := by decide
  rw [e]
  cases hD : isD (hd X E p) with
  | true =>
    have l2 : p + 1 ≤ (dg X E 1 p 0).2 := dg_1 (m := 0) (v := 0) hp hD
    rw [if_neg (by omega), if_pos ⟨Nat.zero_le _, (by omega)⟩, if_pos (show true = true from rfl)]
  | false =>
    have ed : dg X E 1 p 0 = (0, p) := by
      unfold dg
      rw [hD]
      rfl
    rw [ed, if_pos rfl, if_neg (show ¬ (false = true) by simp)]
theorem m_num2 (hx : MC X E k s) (hp : p ≤ E) (hE : E ≤ 80) : ev (d + 1 + 1) 243 0 [.inr 67, .inl (nI 2), .inl (nI 0), .inl (nI 99), .inr 0, .inr 0] [] (mcu s p none) = if isD (hd X E p) = true then some (0, nI (dg X E 2 p 0).1, mcu s (dg X E 2 p 0).2 none) else some (0, nI 0, mcu s p (some p)) := by
  have e := m_number (d := d) (m := 2) (lo := 0) (hi := 99) hx hp hE (by omega) (by omega) (by omega)
  have l3 := dg_v (X := X) (E := E) (m := 2) (p := p) (v := 0) (k := 0) (by decide)
  have h10 : (10 : Nat) ^ (0 + 2) = 100 := by decide
  rw [e]
  cases hD : isD (hd X E p) with
  | true =>
    have l2 : p + 1 ≤ (dg X E 2 p 0).2 := dg_1 (m := 1) (v := 0) hp hD
    rw [if_neg (by omega), if_pos ⟨Nat.zero_le _, (by omega)⟩, if_pos (show true = true from rfl)]
  | false =>
    have ed : dg X E 2 p 0 = (0, p) := by
      unfold dg
      rw [hD]
      rfl
    rw [ed, if_pos rfl, if_neg (show ¬ (false = true) by simp)]
theorem m_passF {t : Int32} : ev (d + 1) 241 0 [.inr 67, .inl t] [] (mcu s p (some f)) = some (0, nI 0, mcu s p (some f)) := by
  rw [E241_0, m_fine, bnd_some, decide_eq_false (by simp), if_pos (show bI false = 0 from rfl), E241_15]
  rfl
theorem m_needF {t : Int32} (hp : p ≤ 1000) : ev (d + 1 + 1) 242 0 [.inr 67, .inl t] [] (mcu s p (some f)) = some (0, nI 0, mcu s p (some f)) := by
  rw [E242_0, m_passF, bnd_some, if_neg (show ¬ ¬ nI 0 = 0 from not_not_intro rfl), mcu_22, m_fault hp, bnd_some, E242_16]
  rfl
/-- behind a fault: the rest of a step's reading -/
theorem m_121F (hx : MC X E 79 s) (hE : E ≤ 80) (hi : i < 60) (hq : q ≤ E + 1) (h : a2 = 108 → q ≤ E) : ∃ s' q', ev (d + 1 + 1 + 1) 284 121 [.inr 67, .inl (nI (4 * i)), .inl a2] [] (mcu s q (some f)) = some (0, nI 0, mcu s' q' (some f)) ∧ q' ≤ E + 1 ∧ Eqm [85] [] s s' := by
  rw [E284_121, m_needF (by omega), bnd_some]
  by_cases h8 : a2 = 108
  · have hq := h h8
    have e1 : ev (d + 1 + 1) 243 0 [.inr 67, .inl 1, .inl 0, .inl 9, .inr 0, .inr 0] [] (mcu s q (some f)) = some (0, nI 0, mcu s q (some f)) := m_numberF
    obtain ⟨s1, hs1⟩ : ∃ s1, s1 = up s 85 (4 * i + 2) (nI 0) := ⟨_, rfl⟩
    have q1 : Eqm [85] [] s s1 := by rw [hs1]; exact Eqm.rf.pu (by simp) (by decide)
    have i2 : inb (nI (4 * i) + 2) 320 = true := inb_ad (b := 2) (by omega) (by omega)
    have x2 : ix (nI (4 * i) + 2) = 4 * i + 2 := ix_ad (b := 2) (by omega)
    have i3 : inb (nI (4 * i) + 3) 320 = true := inb_ad (b := 3) (by omega) (by omega)
    have x3 : ix (nI (4 * i) + 3) = 4 * i + 3 := ix_ad (b := 3) (by omega)
    have hx1 := MC_q hx q1 (by decide) (by decide)
    refine ⟨up s1 85 (4 * i + 3) (hB (hd X E q) - 97), q + 1, ?_, by omega, q1.tr (Eqm.rf.pu (by simp) (by decide))⟩
    have u1 : up (mcu s q (some f)) 85 (4 * i + 2) (nI 0) = mcu s1 q (some f) := by rw [hs1]; exact mcu_up (by decide)
    have e22 : nI q + 1 = nI (q + 1) := nI_add q 1
    rw [if_neg (not_not_intro h8), e1, bnd_some, if_pos i2, x2, u1, m_fine, bnd_some, decide_eq_false (by simp), if_pos (show bI false = 0 from rfl), E284_178, m_here hx1 hq, bnd_some, if_pos i3, x3, E284_203, mcu_up (by decide), mcu_22, e22, mcu_p]
    rfl
  · rw [if_pos h8, E284_203]
    exact ⟨s, q, rfl, hq, Eqm.rf⟩
theorem m_92F (hx : MC X E 79 s) (hE : E ≤ 80) (hi : i < 60) (hq : q ≤ E + 1) (h : a2 = 108 → q ≤ E) : ∃ s' q', ev (d + 1 + 1 + 1) 284 92 [.inr 67, .inl (nI (4 * i)), .inl a2] [.inl b0, .inl (nI (4 * i) + 1), .inr 85] (mcu s q (some f)) = some (0, nI 0, mcu s' q' (some f)) ∧ q' ≤ E + 1 ∧ Eqm [85] [] s s' := by
  have i1 : inb (nI (4 * i) + 1) 320 = true := inb_ad (b := 1) (by omega) (by omega)
  have x1 : ix (nI (4 * i) + 1) = 4 * i + 1 := ix_ad (b := 1) (by omega)
  have i2 : inb (nI (4 * i) + 2) 320 = true := inb_ad (b := 2) (by omega) (by omega)
  have x2 : ix (nI (4 * i) + 2) = 4 * i + 2 := ix_ad (b := 2) (by omega)
  obtain ⟨s1, hs1⟩ : ∃ s1, s1 = up s 85 (4 * i + 1) b0 := ⟨_, rfl⟩
  have q1 : Eqm [85] [] s s1 := by rw [hs1]; exact Eqm.rf.pu (by simp) (by decide)
  have u1 : up (mcu s q (some f)) 85 (4 * i + 1) b0 = mcu s1 q (some f) := by rw [hs1]; exact mcu_up (by decide)
  have hx1 := MC_q hx q1 (by decide) (by decide)
  rw [E284_92, if_pos i1, x1, u1]
  by_cases h4 : a2 = 104
  · have e1 : ev (d + 1 + 1) 243 0 [.inr 67, .inl 2, .inl 0, .inl 99, .inr 0, .inr 0] [] (mcu s1 q (some f)) = some (0, nI 0, mcu s1 q (some f)) := m_numberF
    obtain ⟨s2, hs2⟩ : ∃ s2, s2 = up s1 85 (4 * i + 2) (nI 0) := ⟨_, rfl⟩
    have q2 : Eqm [85] [] s1 s2 := by rw [hs2]; exact Eqm.rf.pu (by simp) (by decide)
    have u2 : up (mcu s1 q (some f)) 85 (4 * i + 2) (nI 0) = mcu s2 q (some f) := by rw [hs2]; exact mcu_up (by decide)
    obtain ⟨s3, q3, e3, l3, r3⟩ := m_121F (d := d) (f := f) (a2 := a2) (MC_q hx1 q2 (by decide) (by decide)) hE hi hq h
    refine ⟨s3, q3, ?_, l3, (q1.tr q2).tr r3⟩
    rw [if_neg (not_not_intro h4), m_needF (by omega), bnd_some, e1, bnd_some, if_pos i2, x2, u2]
    exact e3
  · obtain ⟨s3, q3, e3, l3, r3⟩ := m_121F (d := d) (f := f) (a2 := a2) hx1 hE hi hq h
    refine ⟨s3, q3, ?_, l3, q1.tr r3⟩
    rw [if_pos h4]
    exact e3
theorem kd_ne {h c : Nat} (hh : h < 1000) (hc : c < 1000) (hne : h ≠ c) : ¬ nI h = nI c := fun z => hne ((nI_eq (by omega) (by omega)).mp z)
theorem m_43 (hx : MC X E 79 s) (hp : p ≤ E) (hE : E ≤ 80) : ev (d + 1 + 1 + 1) 284 0 [.inr 67, .inl (nI (4 * i)), .inr 0] [] (mcu s p none) = ev (d + 1 + 1 + 1) 284 43 [.inr 67, .inl (nI (4 * i)), .inl (hB (hd X E p))] [] (mcu s p (if isKd (hd X E p) = true then none else some p)) := by
  have k1 : (hB (hd X E p) = 104) = (hd X E p = 104) := hB_c (c := 104) (by omega) (hd_le' hx)
  have k2 : (hB (hd X E p) = 116) = (hd X E p = 116) := hB_c (c := 116) (by omega) (hd_le' hx)
  have k3 : (hB (hd X E p) = 98) = (hd X E p = 98) := hB_c (c := 98) (by omega) (hd_le' hx)
  have k4 : (hB (hd X E p) = 108) = (hd X E p = 108) := hB_c (c := 108) (by omega) (hd_le' hx)
  have k5 : (hB (hd X E p) = 110) = (hd X E p = 110) := hB_c (c := 110) (by omega) (hd_le' hx)
  rw [E284_0, m_here hx hp, bnd_some, mcu_22, m_fault (by omega), bnd_some, fl_none]
  simp only [k1, k2, k3, k4, k5]
  unfold isKd
  generalize hd X E p = h
  by_cases g1 : h = 104
  · subst g1; rfl
  by_cases g2 : h = 116
  · subst g2; rfl
  by_cases g3 : h = 98
  · subst g3; rfl
  by_cases g4 : h = 108
  · subst g4; rfl
  by_cases g5 : h = 110
  · subst g5; rfl
  rw [if_neg g1, if_neg g2, if_neg g3, if_neg g4, if_neg g5, decide_eq_false (fun z => by rcases z with z | z | z | z | z <;> contradiction), if_neg (show ¬ (false = true) by simp)]
end MTU
