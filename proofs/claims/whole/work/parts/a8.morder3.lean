/-! THE MODEL: order -/
def g67 (s s' : mS) : Prop := ∀ a, a < 67 → s' a = s a
section MTW
variable {d E p f v B B' n i j : Nat} {s s' s1 s2 sX : mS} {X : aX} {A : aA} {o : aO} {L : List aO}
theorem gM_o (h : gM s s') : g67 s s' := fun a ha => h a (Or.inl ha)
theorem g67.tr (h : g67 s s1) (h2 : g67 s1 s') : g67 s s' := fun a ha => (h2 a ha).trans (h a ha)
theorem Eqm.g7 {P F : List Nat} (h : Eqm P F s s') (hp : ∀ a ∈ P, 67 < a) : g67 s s' := fun a ha => h.1 a (fun z => by have := hp a z; omega) (by omega)
theorem MO_c (h : MO s i o) (e : ∀ j, j < 4 * (i + 1) → s' 85 j = s 85 j) : MO s' i o := by
  unfold MO at h ⊢
  rw [e _ (by omega), e _ (by omega), e _ (by omega), e _ (by omega)]; exact h
theorem m_stps (hE : E ≤ 60) : ∀ k i p (s : mS), E ≤ p + k → 1 ≤ k → 2 * i ≤ p → p ≤ E → MC X E 79 s → ∃ s', (match stps X E k p with
    | .inl f => ∃ a1 q, ev (d + 1 + 1 + 1 + 1) 283 39 [.inr 67, .inl (nI i), .inl (nI 1), .inr 0] [] (mcu s p none) = ev (d + 1 + 1 + 1 + 1) 283 70 [.inr 67, .inl a1, .inr 0, .inr 0] [] (mcu s' q (some f)) ∧ f ≤ E ∧ q ≤ E + 1
    | .inr (q, L) => ev (d + 1 + 1 + 1 + 1) 283 39 [.inr 67, .inl (nI i), .inl (nI 1), .inr 0] [] (mcu s p none) = ev (d + 1 + 1 + 1 + 1) 283 70 [.inr 67, .inl (nI (i + L.length)), .inr 0, .inr 0] [] (mcu s' q none) ∧ q ≤ E ∧ i + L.length ≤ 60 ∧ (∀ j o, L[j]? = some o → MO s' (i + j) o ∧ okSt o) ∧ ∀ j, j < 4 * i → s' 85 j = s 85 j) ∧ Eqm [85] [] s s' := by
  intro k
  induction k with
  | zero => intro i p s hk h1; omega
  | succ k ih =>
    intro i p s hk h1 hi hp hx
    obtain ⟨s1, g, q1⟩ := m_rstep1 (d := d) (i := i) hx (show E ≤ 80 by omega) (by omega) hp
    have hx1 := MC_q hx q1 (by decide) (by decide)
    have n1 : ¬ nI 1 = 0 := by decide +kernel
    have e4 : (4 : Int32) * nI i = nI (4 * i) := pk_mul 4 i
    have a1 : nI i + 1 = nI (i + 1) := nI_add i 1
    have st : ev (d + 1 + 1 + 1 + 1) 283 39 [.inr 67, .inl (nI i), .inl (nI 1), .inr 0] [] (mcu s p none) = bnd (ev (d + 1 + 1 + 1) 284 0 [.inr 67, .inl (nI (4 * i)), .inr 0] [] (mcu s p none)) (fun _ s2 => bnd (ev (d + 1 + 1 + 1) 241 0 [.inr 67, .inl 59] [] s2) (fun v3 s3 => ev (d + 1 + 1 + 1 + 1) 283 39 [.inr 67, .inl (nI (i + 1)), .inl v3, .inr 0] [] s3)) := by
      rw [E283_39, if_neg n1, m_fine, bnd_some, decide_eq_true rfl, if_neg (show ¬ bI true = 0 by decide +kernel), e4, a1]
    have stop : ∀ (z : mS) (n : Int32), ev (d + 1 + 1 + 1 + 1) 283 39 [.inr 67, .inl n, .inl (nI 0), .inr 0] [] z = ev (d + 1 + 1 + 1 + 1) 283 70 [.inr 67, .inl n, .inr 0, .inr 0] [] z := fun z n => by
      rw [E283_39, if_pos (show nI 0 = 0 from rfl)]
    rw [st]
    unfold stps
    revert g
    cases stpP X E p with
    | inl f =>
      intro g
      obtain ⟨q, g1, g2, g3⟩ := g
      refine ⟨s1, ⟨nI (i + 1), q, ?_, g2, g3⟩, q1⟩
      have e1 : ev (d + 1 + 1 + 1) 241 0 [.inr 67, .inl 59] [] (mcu s1 q (some f)) = some (0, nI 0, mcu s1 q (some f)) := m_passF
      rw [g1, bnd_some, e1, bnd_some, stop]
    | inr r =>
      obtain ⟨q, o⟩ := r
      dsimp only
      intro g
      obtain ⟨g1, g2, g3, g4, g5, g6⟩ := g
      by_cases h59 : hd X E q = 59
      · rw [if_pos h59]
        have hlt : q < E := hd_lt (X := X) (by omega)
        have e1 : ev (d + 1 + 1 + 1) 241 0 [.inr 67, .inl 59] [] (mcu s1 q none) = some (0, nI 1, mcu s1 (q + 1) none) := m_passes1 (c := 59) hx1 g4 (by omega) h59
        obtain ⟨s2, g', q2⟩ := ih (i + 1) (q + 1) s1 (by omega) (by omega) (by omega) (by omega) hx1
        refine ⟨s2, ?_, q1.tr q2⟩
        rw [g1, bnd_some, e1, bnd_some]
        revert g'
        cases stps X E k (q + 1) with
        | inl f => exact fun g' => g'
        | inr rr =>
          obtain ⟨t, L⟩ := rr
          dsimp only
          intro g'
          obtain ⟨f1, f2, f3, f4, f5⟩ := g'
          refine ⟨?_, f2, by rw [List.length_cons]; omega, fun j o' hj => ?_, fun j hj => (f5 j (by omega)).trans (g6 j hj)⟩
          · rw [f1, List.length_cons, show i + 1 + L.length = i + (L.length + 1) by omega]
          · cases j with
            | zero =>
              have : o = o' := by simpa using hj
              subst this
              rw [Nat.add_zero]
              exact ⟨MO_c g5 (fun j hj => f5 j hj), g2⟩
            | succ j =>
              have := f4 j o' (by simpa using hj)
              rw [show i + (j + 1) = i + 1 + j by omega]
              exact this
      · rw [if_neg h59]
        have e1 : ev (d + 1 + 1 + 1) 241 0 [.inr 67, .inl 59] [] (mcu s1 q none) = some (0, nI 0, mcu s1 q none) := m_passes0 (c := 59) hx1 g4 (by omega) (Or.inr h59)
        refine ⟨s1, ⟨?_, g4, by simp only [List.length_singleton]; omega, fun j o' hj => ?_, g6⟩, q1⟩
        · rw [g1, bnd_some, e1, bnd_some, stop]
          rfl
        · cases j with
          | zero =>
            have : o = o' := by simpa using hj
            subst this
            exact ⟨g5, g2⟩
          | succ j => simp at hj
/-- the class's world after a step -/
theorem step_XI (hX : XI A B sX) (hB : B + 60 < 2147483000) (ho : okSt o) : ∃ s', XI (doS A o).1 (B + 60) s' := by
  obtain ⟨s1, hs1⟩ : ∃ s1, s1 = up (up (up (up sX 32 0 (nI o.1)) 33 0 (nI o.2.1)) 34 0 (nI o.2.2.1)) 35 0 (nI o.2.2.2) := ⟨_, rfl⟩
  have q1 : Eqx [32, 33, 34, 35] sX s1 := by rw [hs1]; exact (((Eqx.rf.up (by simp)).up (by simp)).up (by simp)).up (by simp)
  have so : SO s1 0 o := by
    rw [hs1]
    refine ⟨?_, ?_, ?_, up_in⟩
    · rw [up_ne (by decide), up_ne (by decide), up_ne (by decide), up_in]
    · rw [up_ne (by decide), up_ne (by decide), up_in]
    · rw [up_ne (by decide), up_in]
  obtain ⟨s', -, h, -⟩ := X_follow (d := 0) (XI_same hX q1 (by decide) (by decide)) hB so ho (by omega)
  exact ⟨s', h⟩
theorem m_goStep (hX : XI A B sX) (hB : B + 60 < 2147483000) (h : MJ A B' s) (hs : MO s j o) (ho : okSt o) (hj : j < 60) : ∃ s', ev (d + 44 * 5 + 2 + 1 + 1 + 1 + 1) 285 0 [.inr 67, .inl (nI (4 * j)), .inr 0, .inr 0] [] s = some (0, bI (!decide ((doS A o).2 < nI 0)), s') ∧ MJ (doS A o).1 B' s' ∧ gM s s' := by
  have ha := hX.1
  obtain ⟨k, a, b, l⟩ := o
  obtain ⟨h1, h2, h3, h4⟩ := hs
  obtain ⟨hk, -, -, -⟩ := ho
  have h1 : s 85 (4 * j) = nI k := h1
  have h2 : s 85 (4 * j + 1) = nI (if k = 110 then b else a) := h2
  have h3 : (k = 104 ∨ k = 108) → s 85 (4 * j + 2) = nI b := h3
  have h4 : k = 108 → s 85 (4 * j + 3) = nI l := h4
  have hk := of_decide_eq_true hk
  have hk : k = 104 ∨ k = 116 ∨ k = 98 ∨ k = 108 ∨ k = 110 := hk
  have i0 : inb (nI (4 * j)) 320 = true := n_inb (by omega) (by omega)
  have x0 : ix (nI (4 * j)) = 4 * j := n_ix (by omega)
  have i1 : inb (nI (4 * j) + 1) 320 = true := inb_ad (b := 1) (by omega) (by omega)
  have x1 : ix (nI (4 * j) + 1) = 4 * j + 1 := ix_ad (b := 1) (by omega)
  have i2 : inb (nI (4 * j) + 2) 320 = true := inb_ad (b := 2) (by omega) (by omega)
  have x2 : ix (nI (4 * j) + 2) = 4 * j + 2 := ix_ad (b := 2) (by omega)
  have i3 : inb (nI (4 * j) + 3) 320 = true := inb_ad (b := 3) (by omega) (by omega)
  have x3 : ix (nI (4 * j) + 3) = 4 * j + 3 := ix_ad (b := 3) (by omega)
  have fin : ∀ (v : Int32) (z : mS), (if v < 0 then some ((0 : Nat), (0 : Int32), z) else some (0, 1, z)) = some (0, bI (!decide (v < nI 0)), z) := fun v z => by
    by_cases hv : v < 0
    · rw [if_pos hv, decide_eq_true (show v < nI 0 from hv)]; rfl
    · rw [if_neg hv, decide_eq_false (show ¬ v < nI 0 from hv)]; rfl
  have o0 : ((0 : Int32) = 0 ∨ (0 : Int32) = 1) := Or.inl rfl
  have o1 : ((1 : Int32) = 0 ∨ (1 : Int32) = 1) := Or.inr rfl
  rw [E285_0, if_pos i1, if_pos i2, if_pos i0, x0, x1, x2, h1, h2]
  unfold doS
  dsimp only
  by_cases g1 : k = 98
  · subst g1
    rw [if_pos rfl, if_pos (show nI 98 = 98 from rfl), if_neg (show ¬ (98 = 110) by omega)]
    obtain ⟨s', e, i, f⟩ := Y_bring (d := d + 44 * 5 + 2 + 1) (p := nI a) ha h
    refine ⟨s', ?_, i, f⟩
    rw [e, bnd_some, E285_110, E285_110, if_pos o0, if_pos o1]
    exact fin _ _
  rw [if_neg g1, if_neg (show ¬ nI k = 98 from fun z => g1 ((nI_eq (by omega) (by omega)).mp (show nI k = nI 98 from z)))]
  by_cases g2 : k = 104
  · subst g2
    rw [if_pos rfl, if_pos (show nI 104 = 104 from rfl), if_neg (show ¬ (104 = 110) by omega), h3 (Or.inl rfl)]
    obtain ⟨s', e, i, f⟩ := Y_hang (d := d + 44 * 5 + 2 + 1) (p := nI a) (q := nI b) ha h
    refine ⟨s', ?_, i, f⟩
    rw [e, bnd_some, E285_82, E285_82, if_pos o0, if_pos o1]
    exact fin _ _
  rw [if_neg g2, if_neg (show ¬ nI k = 104 from fun z => g2 ((nI_eq (by omega) (by omega)).mp (show nI k = nI 104 from z)))]
  by_cases g3 : k = 108
  · subst g3
    rw [if_pos rfl, if_pos (show nI 108 = 108 from rfl), if_neg (show ¬ (108 = 110) by omega), h3 (Or.inr rfl), if_pos i3, x3, h4 rfl]
    obtain ⟨s', e, i, f⟩ := Y_lend (d := d + 44 * 5 + 2) (p := nI a) (q := nI b) (r := nI l) ha h
    refine ⟨s', ?_, i, f⟩
    rw [e, bnd_some, E285_133, E285_133, if_pos o0, if_pos o1]
    exact fin _ _
  rw [if_neg g3, if_neg (show ¬ nI k = 108 from fun z => g3 ((nI_eq (by omega) (by omega)).mp (show nI k = nI 108 from z)))]
  by_cases g4 : k = 110
  · subst g4
    rw [if_pos rfl, if_pos rfl, if_neg (show ¬ nI 110 = 116 by decide +kernel)]
    obtain ⟨s', e, i, f⟩ := Y_weeks (d := d) (p := nI b) ha hB h
    refine ⟨s', ?_, i, f⟩
    rw [e, bnd_some, E285_147, E285_147, if_pos o0, if_pos o1]
    exact fin _ _
  have g5 : k = 116 := by omega
  subst g5
  rw [if_neg g4, if_neg g4, if_pos (show nI 116 = 116 from rfl)]
  obtain ⟨sY, -, hY, -⟩ := X_take (d := 0) (w := nI a) hX
  obtain ⟨s', e, i, f⟩ := Y_take (d := d + 44 * 5 + 2 + 1) (p := nI a) ha hY.1 h
  refine ⟨s', ?_, i, f⟩
  rw [e, bnd_some, E285_96, E285_96, if_pos o0, if_pos o1]
  exact fin _ _
theorem ordR_le : ∀ (L : List aO) (A : aA), (ordR A L).2.1 ≤ L.length ∧ ((ordR A L).2.2 = decide ((ordR A L).2.1 < L.length)) := by
  intro L
  induction L with
  | nil => intro A; exact ⟨Nat.le_refl _, rfl⟩
  | cons o L ih =>
    intro A
    unfold ordR
    split
    · exact ⟨Nat.zero_le _, (decide_eq_true (by rw [List.length_cons]; exact Nat.succ_pos _)).symm⟩
    · obtain ⟨h1, h2⟩ := ih (doS A o).1
      refine ⟨by rw [List.length_cons]; show _ + 1 ≤ _; omega, ?_⟩
      show (ordR (doS A o).1 L).2.2 = decide ((ordR (doS A o).1 L).2.1 + 1 < (o :: L).length)
      rw [h2, List.length_cons]
      by_cases z : (ordR (doS A o).1 L).2.1 < L.length
      · rw [decide_eq_true z, decide_eq_true (by omega)]
      · rw [decide_eq_false z, decide_eq_false (by omega)]
theorem m_orderL {n : Nat} (hn : n ≤ 60) : ∀ (L : List aO) i A B (sX s : mS), XI A B sX → B + 60 * L.length < 2147483000 → i + L.length = n → MJ A B' s → (∀ j o, L[j]? = some o → MO s (i + j) o ∧ okSt o) → ∃ s', ev (d + 44 * 5 + 2 + 1 + 1 + 1 + 1 + 1) 283 105 [.inr 67, .inl (nI n), .inr 0, .inl (nI i)] [] s = ev (d + 44 * 5 + 2 + 1 + 1 + 1 + 1 + 1) 283 126 [.inr 67, .inl (nI n), .inr 0, .inl (nI (i + (ordR A L).2.1))] [] s' ∧ MJ (ordR A L).1 B' s' ∧ gM s s' := by
  intro L
  induction L with
  | nil =>
    intro i A B sX s hX hB hi h hs
    have hi : i = n := hi
    subst hi
    refine ⟨s, ?_, h, fun _ _ => rfl⟩
    rw [E283_105, if_pos (nI_le (Nat.le_refl _) (by omega))]
    rfl
  | cons o L ih =>
    intro i A B sX s hX hB hi h hs
    rw [List.length_cons] at hB hi
    obtain ⟨so, oo⟩ := hs 0 o (by simp)
    rw [Nat.add_zero] at so
    obtain ⟨s1, e1, h1, f1⟩ := m_goStep (d := d) hX (by omega) h so oo (by omega)
    have e4 : (4 : Int32) * nI i = nI (4 * i) := pk_mul 4 i
    have a1 : nI i + 1 = nI (i + 1) := nI_add i 1
    have hle : ¬ nI n ≤ nI i := nI_ge (by omega) (by omega)
    unfold ordR
    by_cases hneg : (doS A o).2 < nI 0
    · rw [if_pos hneg]
      rw [decide_eq_true hneg] at e1
      refine ⟨s1, ?_, h1, f1⟩
      rw [E283_105, if_neg hle, e4, e1, bnd_some, if_pos (show bI (!true) = 0 from rfl)]
      rfl
    · rw [if_neg hneg]
      rw [decide_eq_false hneg] at e1
      obtain ⟨sY, hY⟩ := step_XI hX (by omega) oo
      obtain ⟨s2, e2, h2, f2⟩ := ih (i + 1) (doS A o).1 (B + 60) sY s1 hY (by omega) (by omega) h1 (fun j o' hj => by
        have := hs (j + 1) o' (by simpa using hj)
        rw [show i + (j + 1) = i + 1 + j by omega] at this
        refine ⟨?_, this.2⟩
        refine MO_c this.1 (fun j _ => ?_)
        rw [f1 _ (Or.inr rfl)])
      refine ⟨s2, ?_, h2, f1.tr f2⟩
      rw [E283_105, if_neg hle, e4, e1, bnd_some, if_neg (show ¬ bI (!false) = 0 by decide +kernel), a1, e2, show i + 1 + (ordR (doS A o).1 L).2.1 = i + ((ordR (doS A o).1 L).2.1 + 1) by omega]
end MTW
