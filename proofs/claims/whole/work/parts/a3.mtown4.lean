/-! THE MODEL: all lines of a town -/
section MTR
variable {d E p c0 m f a i v x l B B' g q : Nat} {s s' s1 : mS} {X : aX} {w w' : Option Nat} {T T' T0 : aT} {S : aS} {P F : List Nat} {c : Nat → Nat} {sp : Nat → Nat}
theorem m_line {n : Nat} (ht0 : tN T0 ≤ 8) (ho : sOk T0 S B) (hT : MT T0 s) (hS : MSt T0 S s) (hx : MC X E 79 s) (hE : E ≤ 80) (hP : MP T c S s) (ht : tOk T) (hp : p ≤ E) : ∃ s', (match line X E p T c with
    | .inl f => ∃ a1 a2 q, ev (d + 1 + 1 + 1 + 1) 245 69 [.inr 67, .inl (nI (tW T)), .inl (nI (tN T)), .inl (nI n), .inl (nI 1), .inr 0, .inr 0] [] (mcu s p none) = ev (d + 1 + 1 + 1 + 1) 245 198 [.inr 67, .inl a1, .inl a2, .inl (nI n), .inr 0, .inr 0, .inr 0] [] (mcu s' q (some f)) ∧ f ≤ E ∧ q ≤ E ∧ MPw T s'
    | .inr (p', T', c') => ev (d + 1 + 1 + 1 + 1) 245 69 [.inr 67, .inl (nI (tW T)), .inl (nI (tN T)), .inl (nI n), .inl (nI 1), .inr 0, .inr 0] [] (mcu s p none) = ev (d + 1 + 1 + 1 + 1) 245 198 [.inr 67, .inl (nI (tW T')), .inl (nI (tN T')), .inl (nI n), .inr 0, .inr 0, .inr 0] [] (mcu s' p' none) ∧ MP T' c' S s' ∧ tOk T' ∧ p < p' ∧ p' ≤ E ∧ Ext T T') ∧ Eqm tlP [] s s' := by
  have bt : ¬ bI true = 0 := by decide +kernel
  have n1 : ¬ nI 1 = 0 := by decide +kernel
  have h119 : (hB (hd X E p) = 119) = (hd X E p = 119) := hB_c (c := 119) (by omega) (hd_le' hx)
  have e0 : ev (d + 1 + 1 + 1) 228 0 [.inl (hB (hd X E p)), .inl 97, .inl 106] [] (mcu s p none) = some (0, bI (isL (hd X E p)), mcu s p none) := m_isL hx
  have st : ev (d + 1 + 1 + 1 + 1) 245 69 [.inr 67, .inl (nI (tW T)), .inl (nI (tN T)), .inl (nI n), .inl (nI 1), .inr 0, .inr 0] [] (mcu s p none) = (if ¬ hB (hd X E p) = 119 then (if bI (isL (hd X E p)) = 0 then ev (d + 1 + 1 + 1 + 1) 245 198 [.inr 67, .inl (nI (tW T)), .inl (nI (tN T)), .inl (nI n), .inr 0, .inr 0, .inr 0] [] (mcu s p (some p)) else bnd (ev (d + 1 + 1 + 1) 246 0 [.inr 67, .inl (nI (tW T)), .inr 0, .inr 0, .inr 0] [] (mcu s p none)) (fun v6 s6 => (if v6 = 0 then ev (d + 1 + 1 + 1 + 1) 245 198 [.inr 67, .inl (nI (tW T)), .inl (nI (tN T)), .inl (nI n), .inr 0, .inr 0, .inr 0] [] s6 else ev (d + 1 + 1 + 1 + 1) 245 198 [.inr 67, .inl (nI (tW T + 1)), .inl (nI (tN T)), .inl (nI n), .inr 0, .inr 0, .inr 0] [] s6))) else (if ¬ nI (tN T) = 8 then bnd (ev (d + 1 + 1 + 1) 243 0 [.inr 67, .inl 2, .inl 1, .inl 99, .inr 0, .inr 0] [] (mcu s (p + 1) none)) (fun v7 s7 => (if inb (nI (tN T)) 8 = true then bnd (ev (d + 1 + 1 + 1) 242 0 [.inr 67, .inl 44] [] (up s7 73 (ix (nI (tN T))) v7)) (fun _ s8 => bnd (ev (d + 1 + 1 + 1) 243 0 [.inr 67, .inl 1, .inl 1, .inl 9, .inr 0, .inr 0] [] s8) (fun v9 s9 => (if inb (nI (tN T)) 8 = true then ev (d + 1 + 1 + 1 + 1) 245 151 [.inr 67, .inl (nI (tW T)), .inl (nI (tN T)), .inl (nI n), .inr 0, .inr 0, .inr 0] [] (up s9 74 (ix (nI (tN T))) v9) else none))) else none)) else ev (d + 1 + 1 + 1 + 1) 245 151 [.inr 67, .inl (nI (tW T)), .inl (nI (tN T)), .inl (nI n), .inr 0, .inr 0, .inr 0] [] (mcu s p (some p)))) := by
    have e22 : nI p + 1 = nI (p + 1) := nI_add p 1
    rw [E245_69, if_neg n1, m_fine, bnd_some, decide_eq_true rfl, if_neg bt, m_here hx hp, bnd_some, m_here hx hp, bnd_some, e0, bnd_some, mcu_22, m_fault (by omega), bnd_some, bnd_some, fl_none, e22, mcu_p]
    have a0 : nI (tW T) + 0 = nI (tW T) := nI_add (tW T) 0
    have a1 : nI (tW T) + 1 = nI (tW T + 1) := nI_add (tW T) 1
    simp only [E245_185, a0, a1]
  rw [st]
  unfold line
  by_cases h9 : hd X E p = 119
  · rw [if_pos h9, if_neg (show ¬ ¬ hB (hd X E p) = 119 by rw [h119]; exact not_not_intro h9)]
    have hpE : p < E := hd_lt (X := X) (by omega)
    have hN := ht.2.1
    by_cases h8 : 8 ≤ tN T
    · have e8 : tN T = 8 := by omega
      rw [if_pos h8, if_neg (show ¬ ¬ nI (tN T) = 8 by rw [e8]; exact not_not_intro rfl), E245_151]
      exact ⟨s, ⟨_, _, p, rfl, hp, hp, MP_w hP⟩, Eqm.rf⟩
    · rw [if_neg h8, if_pos (show ¬ nI (tN T) = 8 from fun z => absurd ((nI_eq (by omega) (by omega)).mp (show nI (tN T) = nI 8 from z)) (by omega))]
      obtain ⟨s', g, q'⟩ := m_lineN (d := d) (n := n) hx hE hP ht hpE (by omega)
      refine ⟨s', ?_, q'.mono (by decide) (by decide)⟩
      revert g
      cases lnN X E (p + 1) T c with
      | inl f =>
        intro g
        obtain ⟨q, g1, g2, g3, g4⟩ := g
        refine ⟨nI (tW T), nI (tN T) + 1, q, ?_, g2, g3, g4⟩
        rw [g1, E245_151]
      | inr r =>
        obtain ⟨p', T', c'⟩ := r
        dsimp only
        intro g
        obtain ⟨g1, g2, g3, g4, g5, g6, g7, g8⟩ := g
        refine ⟨?_, g2, g3, g4, g5, g8⟩
        have e8 : nI (tN T) + 1 = nI (tN T') := by rw [g6]; exact nI_add (tN T) 1
        rw [g1, E245_151, e8, g7]
  · rw [if_neg h9, if_pos (show ¬ hB (hd X E p) = 119 by rw [h119]; exact h9)]
    cases hL : isL (hd X E p) with
    | false =>
      rw [if_pos (show false = false from rfl), if_pos (show bI false = 0 from rfl)]
      exact ⟨s, ⟨_, _, p, rfl, hp, hp, MP_w hP⟩, Eqm.rf⟩
    | true =>
      rw [if_neg (show ¬ (true = false) by simp), if_neg bt]
      obtain ⟨s', g, q'⟩ := m_readL (d := d) ht0 ho hT hS hx hE hP ht hp hL
      refine ⟨s', ?_, q'.mono (by decide) (by decide)⟩
      revert g
      cases (if isD (hd X E (p + 1)) = true then lnS X E (p + 1) (hd X E p - 97) T c else lnW X E p (lts X E 7 (p + 1) + 1) T c) with
      | inl f =>
        intro g
        obtain ⟨v, q, g1, g2, g3, g4⟩ := g
        by_cases hv : v = 0
        · refine ⟨nI (tW T), nI (tN T), q, ?_, g2, g3, g4⟩
          rw [g1, bnd_some, if_pos hv]
        · refine ⟨nI (tW T + 1), nI (tN T), q, ?_, g2, g3, g4⟩
          rw [g1, bnd_some, if_neg hv]
      | inr r =>
        obtain ⟨p', T', c'⟩ := r
        dsimp only
        intro g
        obtain ⟨g1, g2, g3, g4, g5, g6, g7, g8⟩ := g
        refine ⟨?_, g2, g3, g4, g5, g8⟩
        have g9 := g8.1
        rw [g1, bnd_some]
        by_cases hz : tW T' = tW T
        · rw [hz, Nat.sub_self, if_pos (show nI 0 = 0 from rfl), g6]
        · have h1 : tW T' = tW T + 1 := by omega
          rw [h1, Nat.add_sub_cancel_left, if_neg n1, g6]
/-- what stood before stands still -/
theorem MT_ext4 {T'' : aT} (h : MT T0 s) (q : Eqm tlP F s s') (he : Ext T0 T) (hw : MPw T'' s') (h2 : Ext T T'') (hf : ∀ f ∈ F, f ∉ [1, 6]) : MT T0 s' := by
  have he2 := he.tr h2
  obtain ⟨h1, h6, h3, h4⟩ := h
  refine ⟨by rw [q.2 _ (fun z => hf 1 z (by decide))]; exact h1, by rw [q.2 _ (fun z => hf 6 z (by decide))]; exact h6, fun x hx => ?_, fun w hw2 => ?_⟩
  · obtain ⟨c1, c2, c3⟩ := he2.2.2.1 x hx
    obtain ⟨d1, d2, d3⟩ := hw.1 x (by have := he2.1; omega)
    refine ⟨d1.trans (congrArg nI c1), d2.trans (congrArg nI c2), fun i hi => ?_, fun l hl => ?_⟩
    · rw [d3 i (by omega), c3 i]
    · rw [q.1 _ (by decide) (by decide)]; exact (h3 x hx).2.2.2 l hl
  · obtain ⟨c1, c2⟩ := he2.2.2.2 w hw2
    obtain ⟨d1, d2⟩ := hw.2 w (by have := he2.2.1; omega)
    exact ⟨d1.trans (congrArg nI c1), d2.trans (congrArg nI c2)⟩
theorem m_lns (ht0 : tN T0 ≤ 8) (ho : sOk T0 S B) (hE : E ≤ 80) : ∀ k p n T c (s : mS), E ≤ p + k → 1 ≤ k → p ≤ E → MT T0 s → MSt T0 S s → Ext T0 T → MC X E 79 s → MP T c S s → tOk T → ∃ s', (match lns X E k p n T c with
    | .inl f => ∃ a1 a2 a3 q T', ev (d + 1 + 1 + 1 + 1) 245 69 [.inr 67, .inl (nI (tW T)), .inl (nI (tN T)), .inl (nI n), .inl (nI 1), .inr 0, .inr 0] [] (mcu s p none) = ev (d + 1 + 1 + 1 + 1) 245 212 [.inr 67, .inl a1, .inl a2, .inl a3, .inr 0, .inr 0, .inr 0] [] (mcu s' q (some f)) ∧ f ≤ E ∧ q ≤ E ∧ MPw T' s' ∧ Ext T0 T'
    | .inr (p', n', T', c') => ev (d + 1 + 1 + 1 + 1) 245 69 [.inr 67, .inl (nI (tW T)), .inl (nI (tN T)), .inl (nI n), .inl (nI 1), .inr 0, .inr 0] [] (mcu s p none) = ev (d + 1 + 1 + 1 + 1) 245 212 [.inr 67, .inl (nI (tW T')), .inl (nI (tN T')), .inl (nI n'), .inr 0, .inr 0, .inr 0] [] (mcu s' p' none) ∧ MP T' c' S s' ∧ tOk T' ∧ p' ≤ E ∧ Ext T0 T' ∧ n < n') ∧ Eqm tlP [] s s' := by
  intro k
  induction k with
  | zero => intro p n T c s hk h1; omega
  | succ k ih =>
    intro p n T c s hk h1 hp hT hS he hx hP ht
    obtain ⟨s1, g, q1⟩ := m_line (d := d) (n := n) ht0 ho hT hS hx hE hP ht hp
    have hx1 := MC_q hx q1 (by decide) (by decide)
    have a1 : nI n + 1 = nI (n + 1) := nI_add n 1
    unfold lns
    revert g
    cases line X E p T c with
    | inl f =>
      intro g
      obtain ⟨b1, b2, q, g1, g2, g3, g4⟩ := g
      refine ⟨s1, ⟨b1, b2, nI (n + 1), q, T, ?_, g2, g3, g4, he⟩, q1⟩
      have e1 : ev (d + 1 + 1 + 1) 241 0 [.inr 67, .inl 59] [] (mcu s1 q (some f)) = some (0, nI 0, mcu s1 q (some f)) := m_passes0 (d := d + 1 + 1) (c := 59) hx1 g3 (by omega) (Or.inl (by simp))
      rw [g1, E245_198, e1, bnd_some, E245_69, if_pos (show nI 0 = 0 from rfl), a1]
    | inr r =>
      obtain ⟨p', T', c'⟩ := r
      dsimp only
      intro g
      obtain ⟨g1, g2, g3, g4, g5, g6⟩ := g
      by_cases h59 : hd X E p' = 59
      · rw [if_pos h59]
        have hpE : p' < E := hd_lt (X := X) (by omega)
        have e1 : ev (d + 1 + 1 + 1) 241 0 [.inr 67, .inl 59] [] (mcu s1 p' none) = some (0, nI 1, mcu s1 (p' + 1) none) := m_passes1 (d := d + 1 + 1) (c := 59) hx1 g5 (by omega) h59
        obtain ⟨s2, g', q2⟩ := ih (p' + 1) (n + 1) T' c' s1 (by omega) (by omega) (by omega) (by
          exact MT_ext4 hT q1 he (MP_w g2) g6 (by decide)) (MSt_q hS q1 (by decide) (by decide)) (he.tr g6) hx1 g2 g3
        refine ⟨s2, ?_, q1.tr q2⟩
        have st : ev (d + 1 + 1 + 1 + 1) 245 69 [.inr 67, .inl (nI (tW T)), .inl (nI (tN T)), .inl (nI n), .inl (nI 1), .inr 0, .inr 0] [] (mcu s p none) = ev (d + 1 + 1 + 1 + 1) 245 69 [.inr 67, .inl (nI (tW T')), .inl (nI (tN T')), .inl (nI (n + 1)), .inl (nI 1), .inr 0, .inr 0] [] (mcu s1 (p' + 1) none) := by
          rw [g1, E245_198, e1, bnd_some, a1]
        rw [st]
        revert g'
        cases lns X E k (p' + 1) (n + 1) T' c' with
        | inl f => exact fun g' => g'
        | inr r =>
          obtain ⟨p'', n'', T'', c''⟩ := r
          dsimp only
          intro g'
          obtain ⟨f1, f2, f3, f4, f5, f6⟩ := g'
          exact ⟨f1, f2, f3, f4, f5, by omega⟩
      · rw [if_neg h59]
        have e1 : ev (d + 1 + 1 + 1) 241 0 [.inr 67, .inl 59] [] (mcu s1 p' none) = some (0, nI 0, mcu s1 p' none) := m_passes0 (d := d + 1 + 1) (c := 59) hx1 g5 (by omega) (Or.inr h59)
        refine ⟨s1, ⟨?_, g2, g3, g5, he.tr g6, Nat.lt_succ_self n⟩, q1⟩
        rw [g1, E245_198, e1, bnd_some, E245_69, if_pos (show nI 0 = 0 from rfl), a1]
end MTR
