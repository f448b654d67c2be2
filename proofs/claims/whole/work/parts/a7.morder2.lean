/-! THE MODEL: one step of an order is read -/
section MTV
variable {d E p f a v x l B B' n i q k c b h : Nat} {s s' s1 s2 : mS} {X : aX} {w : Option Nat} {a2 b0 t : Int32}
theorem m_178 (hx : MC X E 79 s) (hi : i < 60) (hq : q ≤ E) : ev (d + 1 + 1 + 1) 284 178 [.inr 67, .inl (nI (4 * i)), .inr 0] [] (mcu s q w) = some (0, nI 0, mcu (up s 85 (4 * i + 3) (hB (hd X E q) - 97)) (q + 1) w) := by
  have i3 : inb (nI (4 * i) + 3) 320 = true := inb_ad (b := 3) (by omega) (by omega)
  have x3 : ix (nI (4 * i) + 3) = 4 * i + 3 := ix_ad (b := 3) (by omega)
  have e22 : nI q + 1 = nI (q + 1) := nI_add q 1
  rw [E284_178, m_here hx hq, bnd_some, if_pos i3, x3, E284_203, mcu_up (by decide), mcu_22, e22, mcu_p]
  rfl
/-- the letter's step, from behind its first number on -/
theorem m_121L (hx : MC X E 79 s) (hE : E ≤ 80) (hi : i < 60) (hq : q ≤ E) (ha : a < 100) : ∃ s', (match (match secP X E 108 q with
      | .inl f => (.inl f : Sum Nat (Nat × aO))
      | .inr (r, b) => match letP X E 108 r with
        | .inl f => .inl f
        | .inr (t, l) => .inr (t, 108, a, b, l)) with
    | .inl f => ∃ q', ev (d + 1 + 1 + 1) 284 121 [.inr 67, .inl (nI (4 * i)), .inl (nI 108)] [] (mcu s q none) = some (0, nI 0, mcu s' q' (some f)) ∧ f ≤ E ∧ q' ≤ E + 1
    | .inr (q', o) => ev (d + 1 + 1 + 1) 284 121 [.inr 67, .inl (nI (4 * i)), .inl (nI 108)] [] (mcu s q none) = some (0, nI 0, mcu s' q' none) ∧ okSt o ∧ q < q' ∧ q' ≤ E ∧ (s 85 (4 * i) = nI 108 → s 85 (4 * i + 1) = nI a → MO s' i o) ∧ ∀ j, j < 4 * i → s' 85 j = s 85 j) ∧ Eqm [85] [] s s' := by
  have i2 : inb (nI (4 * i) + 2) 320 = true := inb_ad (b := 2) (by omega) (by omega)
  have x2 : ix (nI (4 * i) + 2) = 4 * i + 2 := ix_ad (b := 2) (by omega)
  have n8 : ¬ ¬ nI 108 = 108 := not_not_intro rfl
  have bt : ¬ bI true = 0 := by decide +kernel
  have u1 : ∀ p w v, up (mcu s p w) 85 (4 * i + 2) v = mcu (up s 85 (4 * i + 2) v) p w := fun p w v => mcu_up (by decide)
  have qa : ∀ v, Eqm [85] [] s (up s 85 (4 * i + 2) v) := fun v => Eqm.rf.pu (by simp) (by decide)
  have qb : ∀ v u, Eqm [85] [] s (up (up s 85 (4 * i + 2) v) 85 (4 * i + 3) u) := fun v u => (Eqm.rf.pu (by simp) (by decide)).pu (by simp) (by decide)
  unfold secP
  rw [if_neg (show ¬ (108 = 104) by omega), if_pos rfl]
  by_cases h62 : hd X E q = 62
  · rw [if_pos h62]
    have hlt : q < E := hd_lt (X := X) (by omega)
    have e1 : ev (d + 1 + 1) 242 0 [.inr 67, .inl 62] [] (mcu s q none) = some (0, nI 0, mcu s (q + 1) none) := m_need1 (c := 62) hx hq (by omega) h62
    have e2 := m_num1 (d := d) hx (show q + 1 ≤ E by omega) hE
    cases hD : isD (hd X E (q + 1)) with
    | false =>
      rw [hD, if_neg (show ¬ (false = true) by simp)] at e2
      rw [if_neg (show ¬ (false = true) by simp)]
      have e2 : ev (d + 1 + 1) 243 0 [.inr 67, .inl 1, .inl 0, .inl 9, .inr 0, .inr 0] [] (mcu s (q + 1) none) = some (0, nI 0, mcu s (q + 1) (some (q + 1))) := e2
      refine ⟨_, ⟨q + 1 + 1, ?_, by omega, by omega⟩, qb (nI 0) (hB (hd X E (q + 1)) - 97)⟩
      rw [E284_121, if_neg n8, e1, bnd_some, e2, bnd_some, if_pos i2, x2, u1, m_fine, bnd_some, decide_eq_false (by simp), if_pos (show bI false = 0 from rfl), m_178 (MC_q hx (qa _) (by decide) (by decide)) hi (by omega)]
    | true =>
      rw [hD, if_pos (show true = true from rfl)] at e2
      rw [if_pos (show true = true from rfl)]
      have l1 := dg_le (X := X) (m := 1) (v := 0) (show q + 1 ≤ E by omega)
      have l2 : q + 1 + 1 ≤ (dg X E 1 (q + 1) 0).2 := dg_1 (m := 0) (v := 0) (by omega) hD
      have l3 := dg_v (X := X) (E := E) (m := 1) (p := q + 1) (v := 0) (k := 0) (by decide)
      have h10 : (10 : Nat) ^ (0 + 1) = 10 := by decide
      dsimp only
      generalize dg X E 1 (q + 1) 0 = z at l1 l2 l3 e2 ⊢
      obtain ⟨b, r⟩ := z
      dsimp only at l1 l2 l3 e2 ⊢
      have e2 : ev (d + 1 + 1) 243 0 [.inr 67, .inl 1, .inl 0, .inl 9, .inr 0, .inr 0] [] (mcu s (q + 1) none) = some (0, nI b, mcu s r none) := e2
      have hx1 := MC_q hx (qa (nI b)) (by decide) (by decide)
      have e0 : ∀ z : mS, ev (d + 1 + 1) 228 0 [.inl (hB (hd X E r)), .inl 97, .inl 106] [] z = some (0, bI (isL (hd X E r)), z) := fun z => m_isL hx
      have st : ev (d + 1 + 1 + 1) 284 121 [.inr 67, .inl (nI (4 * i)), .inl (nI 108)] [] (mcu s q none) = (if ¬ bI (isL (hd X E r)) = 0 then ev (d + 1 + 1 + 1) 284 178 [.inr 67, .inl (nI (4 * i)), .inr 0] [] (mcu (up s 85 (4 * i + 2) (nI b)) r none) else ev (d + 1 + 1 + 1) 284 178 [.inr 67, .inl (nI (4 * i)), .inr 0] [] (mcu (up s 85 (4 * i + 2) (nI b)) r (some r))) := by
        rw [E284_121, if_neg n8, e1, bnd_some, e2, bnd_some, if_pos i2, x2, u1, m_fine, bnd_some, decide_eq_true rfl, if_neg bt, m_here hx1 l1.2, bnd_some, e0, bnd_some, mcu_22, m_fault (by omega), bnd_some, fl_none]
      rw [st]
      unfold letP
      rw [if_pos rfl]
      cases hL : isL (hd X E r) with
      | false =>
        rw [if_neg (show ¬ (false = true) by simp), if_neg (show ¬ ¬ bI false = 0 from not_not_intro rfl), m_178 hx1 hi l1.2]
        exact ⟨_, ⟨r + 1, rfl, l1.2, by omega⟩, qb (nI b) (hB (hd X E r) - 97)⟩
      | true =>
        have hb := of_decide_eq_true hL
        have e97 : hB (hd X E r) - 97 = nI (hd X E r - 97) := by
          rw [hB_Ln hL]
          exact n_sub (a := hd X E r) (b := 97) (by omega)
        rw [if_pos (show true = true from rfl), if_pos bt, m_178 hx1 hi l1.2, e97]
        refine ⟨_, ⟨rfl, ⟨by show isKd 108 = true; decide, ha, by show b < 100; omega, by show hd X E r - 97 < 10; omega⟩, by omega, isL_lt hL, fun g1 g2 => ⟨?_, ?_, fun _ => ?_, fun _ => up_in⟩, fun j hj => ?_⟩, qb (nI b) (nI (hd X E r - 97))⟩
        · rw [up_out (by omega), up_out (by omega)]; exact g1
        · rw [up_out (by omega), up_out (by omega)]
          show _ = nI (if 108 = 110 then b else a)
          rw [if_neg (by omega)]
          exact g2
        · rw [up_out (by omega), up_in]
        · rw [up_out (by omega), up_out (by omega)]
  · rw [if_neg h62]
    have e1 : ev (d + 1 + 1) 242 0 [.inr 67, .inl 62] [] (mcu s q none) = some (0, nI 0, mcu s q (some q)) := m_need0 (c := 62) (w := none) hx hq hE (by omega) (Or.inr h62)
    have e2 : ev (d + 1 + 1) 242 0 [.inr 67, .inl 62] [] (mcu s q (some q)) = some (0, nI 0, mcu s q (some q)) := m_needF (by omega)
    obtain ⟨s', q', e3, l3, q3⟩ := m_121F (d := d) (f := q) (a2 := nI 108) hx hE hi (show q ≤ E + 1 by omega) (fun _ => hq)
    refine ⟨s', ⟨q', ?_, hq, l3⟩, q3⟩
    rw [← e3, E284_121, if_neg n8, E284_121, if_neg n8, e1, e2]
theorem m_rstep1 (hx : MC X E 79 s) (hE : E ≤ 80) (hi : i < 60) (hp : p ≤ E) : ∃ s', (match stpP X E p with
    | .inl f => ∃ q, ev (d + 1 + 1 + 1) 284 0 [.inr 67, .inl (nI (4 * i)), .inr 0] [] (mcu s p none) = some (0, nI 0, mcu s' q (some f)) ∧ f ≤ E ∧ q ≤ E + 1
    | .inr (q, o) => ev (d + 1 + 1 + 1) 284 0 [.inr 67, .inl (nI (4 * i)), .inr 0] [] (mcu s p none) = some (0, nI 0, mcu s' q none) ∧ okSt o ∧ p + 1 < q ∧ q ≤ E ∧ MO s' i o ∧ ∀ j, j < 4 * i → s' 85 j = s 85 j) ∧ Eqm [85] [] s s' := by
  have i0 : inb (nI (4 * i)) 320 = true := n_inb (by omega) (by omega)
  have x0 : ix (nI (4 * i)) = 4 * i := n_ix (by omega)
  have i1 : inb (nI (4 * i) + 1) 320 = true := inb_ad (b := 1) (by omega) (by omega)
  have x1 : ix (nI (4 * i) + 1) = 4 * i + 1 := ix_ad (b := 1) (by omega)
  have i2 : inb (nI (4 * i) + 2) 320 = true := inb_ad (b := 2) (by omega) (by omega)
  have x2 : ix (nI (4 * i) + 2) = 4 * i + 2 := ix_ad (b := 2) (by omega)
  have e22 : nI p + 1 = nI (p + 1) := nI_add p 1
  have k110 : (hB (hd X E p) = 110) = (hd X E p = 110) := hB_c (c := 110) (by omega) (hd_le' hx)
  have k108 : (hB (hd X E p) = 108) = (hd X E p = 108) := hB_c (c := 108) (by omega) (hd_le' hx)
  obtain ⟨s1, hs1⟩ : ∃ s1, s1 = up s 85 (4 * i) (hB (hd X E p)) := ⟨_, rfl⟩
  have q1 : Eqm [85] [] s s1 := by rw [hs1]; exact Eqm.rf.pu (by simp) (by decide)
  have hx1 := MC_q hx q1 (by decide) (by decide)
  have u0 : ∀ w, up (mcu s (p + 1) w) 85 (4 * i) (hB (hd X E p)) = mcu s1 (p + 1) w := fun w => by rw [hs1]; exact mcu_up (by decide)
  have st : ∀ w, ev (d + 1 + 1 + 1) 284 43 [.inr 67, .inl (nI (4 * i)), .inl (hB (hd X E p))] [] (mcu s p w) = (if ¬ hd X E p = 110 then bnd (ev (d + 1 + 1) 243 0 [.inr 67, .inl 1, .inl 0, .inl 9, .inr 0, .inr 0] [] (mcu s1 (p + 1) w)) (fun v1 s1 => ev (d + 1 + 1 + 1) 284 92 [.inr 67, .inl (nI (4 * i)), .inl (hB (hd X E p))] [.inl v1, .inl (nI (4 * i) + 1), .inr 85] s1) else bnd (ev (d + 1 + 1) 243 0 [.inr 67, .inl 2, .inl 0, .inl 99, .inr 0, .inr 0] [] (mcu s1 (p + 1) w)) (fun v2 s2 => ev (d + 1 + 1 + 1) 284 92 [.inr 67, .inl (nI (4 * i)), .inl (hB (hd X E p))] [.inl v2, .inl (nI (4 * i) + 1), .inr 85] s2)) := fun w => by
    rw [E284_43, if_pos i0, x0, mcu_22, e22, mcu_p, u0]
    simp only [k110]
  rw [m_43 hx hp hE, st]
  unfold stpP
  cases hk : isKd (hd X E p) with
  | false =>
    rw [if_neg (show ¬ (false = true) by simp), if_neg (show ¬ (false = true) by simp)]
    have n110 : ¬ hd X E p = 110 := fun z => by rw [z] at hk; revert hk; decide
    have n108 : ¬ hd X E p = 108 := fun z => by rw [z] at hk; revert hk; decide
    have e1 : ev (d + 1 + 1) 243 0 [.inr 67, .inl 1, .inl 0, .inl 9, .inr 0, .inr 0] [] (mcu s1 (p + 1) (some p)) = some (0, nI 0, mcu s1 (p + 1) (some p)) := m_numberF
    obtain ⟨s2, q2, e2, l2, r2⟩ := m_92F (d := d) (f := p) (a2 := hB (hd X E p)) (b0 := nI 0) hx1 hE hi (show p + 1 ≤ E + 1 by omega) (fun z => absurd z (by rw [k108]; exact n108))
    refine ⟨s2, ⟨q2, ?_, hp, l2⟩, q1.tr r2⟩
    rw [if_pos n110, e1, bnd_some]
    exact e2
  | true =>
    rw [if_pos (show true = true from rfl), if_pos (show true = true from rfl)]
    have hk2 := of_decide_eq_true hk
    have hlt : p < E := hd_lt (X := X) (by omega)
    have hBn : hB (hd X E p) = nI (hd X E p) := by
      unfold hB bB
      rw [if_neg (by omega), if_pos (by omega)]
    rw [hBn] at hs1 ⊢
    generalize hd X E p = h at hk hk2 hs1
    have c0 : s1 85 (4 * i) = nI h := by rw [hs1, up_in]
    have cj : ∀ j, j < 4 * i → s1 85 j = s 85 j := fun j hj => by rw [hs1, up_out (by omega)]
    -- the first number wrong
    have bad : ∀ b0, ev (d + 1 + 1 + 1) 284 92 [.inr 67, .inl (nI (4 * i)), .inl (nI h)] [.inl b0, .inl (nI (4 * i) + 1), .inr 85] (mcu s1 (p + 1) (some (p + 1))) = ev (d + 1 + 1 + 1) 284 92 [.inr 67, .inl (nI (4 * i)), .inl (nI h)] [.inl b0, .inl (nI (4 * i) + 1), .inr 85] (mcu s1 (p + 1) (some (p + 1))) := fun _ => rfl
    unfold fstP
    by_cases g5 : h = 110
    · subst g5
      rw [if_pos rfl, if_neg (show ¬ ¬ (110 = 110) from not_not_intro rfl)]
      dsimp only
      unfold secP
      rw [if_neg (show ¬ (110 = 104) by omega), if_neg (show ¬ (110 = 108) by omega), if_pos rfl]
      have e1 := m_num2 (d := d) hx1 (show p + 1 ≤ E by omega) hE
      cases hD : isD (hd X E (p + 1)) with
      | false =>
        rw [hD, if_neg (show ¬ (false = true) by simp)] at e1
        rw [if_neg (show ¬ (false = true) by simp)]
        have e1 : ev (d + 1 + 1) 243 0 [.inr 67, .inl 2, .inl 0, .inl 99, .inr 0, .inr 0] [] (mcu s1 (p + 1) none) = some (0, nI 0, mcu s1 (p + 1) (some (p + 1))) := e1
        obtain ⟨s2, q2, e2, l2, r2⟩ := m_92F (d := d) (f := p + 1) (a2 := nI 110) (b0 := nI 0) hx1 hE hi (show p + 1 ≤ E + 1 by omega) (fun _ => by omega)
        refine ⟨s2, ⟨q2, ?_, by omega, l2⟩, q1.tr r2⟩
        rw [e1, bnd_some]
        exact e2
      | true =>
        rw [hD, if_pos (show true = true from rfl)] at e1
        rw [if_pos (show true = true from rfl)]
        have l1 := dg_le (X := X) (m := 2) (v := 0) (show p + 1 ≤ E by omega)
        have l2 : p + 1 + 1 ≤ (dg X E 2 (p + 1) 0).2 := dg_1 (m := 1) (v := 0) (by omega) hD
        have l3 := dg_v (X := X) (E := E) (m := 2) (p := p + 1) (v := 0) (k := 0) (by decide)
        have h10 : (10 : Nat) ^ (0 + 2) = 100 := by decide
        unfold letP
        dsimp only
        rw [if_neg (show ¬ (110 = 108) by omega)]
        generalize dg X E 2 (p + 1) 0 = z at l1 l2 l3 e1 ⊢
        obtain ⟨b, r⟩ := z
        dsimp only at l1 l2 l3 e1 ⊢
        have e1 : ev (d + 1 + 1) 243 0 [.inr 67, .inl 2, .inl 0, .inl 99, .inr 0, .inr 0] [] (mcu s1 (p + 1) none) = some (0, nI b, mcu s1 r none) := e1
        refine ⟨up s1 85 (4 * i + 1) (nI b), ⟨?_, ⟨by show isKd 110 = true; decide, by show 0 < 100; omega, by show b < 100; omega, by show 0 < 10; omega⟩, by omega, l1.2, ⟨?_, ?_, fun z => by exfalso; revert z; show ¬ (110 = 104 ∨ 110 = 108); omega, fun z => by exfalso; revert z; show ¬ (110 = 108); omega⟩, fun j hj => by rw [up_out (by omega)]; exact cj j hj⟩, q1.pu (by simp) (by decide)⟩
        · rw [e1, bnd_some, E284_92, if_pos i1, x1, if_pos (show ¬ nI 110 = 104 by decide +kernel), mcu_up (by decide), E284_121, if_pos (show ¬ nI 110 = 108 by decide +kernel), E284_203]
          rfl
        · rw [up_out (by omega)]; exact c0
        · rw [up_in]
          show nI b = nI (if 110 = 110 then b else 0)
          rw [if_pos rfl]
    · rw [if_neg g5, if_pos g5]
      have e1 := m_num1 (d := d) hx1 (show p + 1 ≤ E by omega) hE
      cases hD : isD (hd X E (p + 1)) with
      | false =>
        rw [hD, if_neg (show ¬ (false = true) by simp)] at e1
        rw [if_neg (show ¬ (false = true) by simp)]
        have e1 : ev (d + 1 + 1) 243 0 [.inr 67, .inl 1, .inl 0, .inl 9, .inr 0, .inr 0] [] (mcu s1 (p + 1) none) = some (0, nI 0, mcu s1 (p + 1) (some (p + 1))) := e1
        obtain ⟨s2, q2, e2, l2, r2⟩ := m_92F (d := d) (f := p + 1) (a2 := nI h) (b0 := nI 0) hx1 hE hi (show p + 1 ≤ E + 1 by omega) (fun _ => by omega)
        refine ⟨s2, ⟨q2, ?_, by omega, l2⟩, q1.tr r2⟩
        rw [e1, bnd_some]
        exact e2
      | true =>
        rw [hD, if_pos (show true = true from rfl)] at e1
        rw [if_pos (show true = true from rfl)]
        have l1 := dg_le (X := X) (m := 1) (v := 0) (show p + 1 ≤ E by omega)
        have l2 : p + 1 + 1 ≤ (dg X E 1 (p + 1) 0).2 := dg_1 (m := 0) (v := 0) (by omega) hD
        have l3 := dg_v (X := X) (E := E) (m := 1) (p := p + 1) (v := 0) (k := 0) (by decide)
        have h10 : (10 : Nat) ^ (0 + 1) = 10 := by decide
        dsimp only
        generalize dg X E 1 (p + 1) 0 = z at l1 l2 l3 e1 ⊢
        obtain ⟨a, q⟩ := z
        dsimp only at l1 l2 l3 e1 ⊢
        have e1 : ev (d + 1 + 1) 243 0 [.inr 67, .inl 1, .inl 0, .inl 9, .inr 0, .inr 0] [] (mcu s1 (p + 1) none) = some (0, nI a, mcu s1 q none) := e1
        obtain ⟨s2, hs2⟩ : ∃ s2, s2 = up s1 85 (4 * i + 1) (nI a) := ⟨_, rfl⟩
        have q2 : Eqm [85] [] s1 s2 := by rw [hs2]; exact Eqm.rf.pu (by simp) (by decide)
        have hx2 := MC_q hx1 q2 (by decide) (by decide)
        have d0 : s2 85 (4 * i) = nI h := by rw [hs2, up_out (by omega)]; exact c0
        have d1 : s2 85 (4 * i + 1) = nI a := by rw [hs2, up_in]
        have dj : ∀ j, j < 4 * i → s2 85 j = s 85 j := fun j hj => by rw [hs2, up_out (by omega)]; exact cj j hj
        have go : bnd (ev (d + 1 + 1) 243 0 [.inr 67, .inl 1, .inl 0, .inl 9, .inr 0, .inr 0] [] (mcu s1 (p + 1) none)) (fun v1 s1 => ev (d + 1 + 1 + 1) 284 92 [.inr 67, .inl (nI (4 * i)), .inl (nI h)] [.inl v1, .inl (nI (4 * i) + 1), .inr 85] s1) = (if ¬ nI h = 104 then ev (d + 1 + 1 + 1) 284 121 [.inr 67, .inl (nI (4 * i)), .inl (nI h)] [] (mcu s2 q none) else bnd (ev (d + 1 + 1) 242 0 [.inr 67, .inl 61] [] (mcu s2 q none)) (fun _ s1 => bnd (ev (d + 1 + 1) 243 0 [.inr 67, .inl 2, .inl 0, .inl 99, .inr 0, .inr 0] [] s1) (fun v2 s2 => (if inb (nI (4 * i) + 2) 320 = true then ev (d + 1 + 1 + 1) 284 121 [.inr 67, .inl (nI (4 * i)), .inl (nI h)] [] (up s2 85 (ix (nI (4 * i) + 2)) v2) else none)))) := by
          rw [e1, bnd_some, E284_92, if_pos i1, x1, mcu_up (by decide), ← hs2]
        rw [go]
        by_cases g4 : h = 108
        · subst g4
          rw [if_pos (show ¬ nI 108 = 104 by decide +kernel)]
          obtain ⟨s3, g, q3⟩ := m_121L (d := d) (a := a) (i := i) hx2 hE hi l1.2 (by omega)
          refine ⟨s3, ?_, (q1.tr q2).tr q3⟩
          revert g
          cases secP X E 108 q with
          | inl f => exact fun g => g
          | inr z =>
            obtain ⟨r, b⟩ := z
            dsimp only
            cases letP X E 108 r with
            | inl f => exact fun g => g
            | inr z =>
              obtain ⟨t, l⟩ := z
              dsimp only
              intro g
              obtain ⟨g1, g2, g3, g4, g5, g6⟩ := g
              exact ⟨g1, g2, by omega, g4, g5 d0 d1, fun j hj => (g6 j hj).trans (dj j hj)⟩
        · by_cases g1 : h = 104
          · subst g1
            rw [if_neg (show ¬ ¬ nI 104 = 104 from not_not_intro rfl)]
            unfold secP
            rw [if_pos rfl]
            have u2 : ∀ p w v, up (mcu s2 p w) 85 (4 * i + 2) v = mcu (up s2 85 (4 * i + 2) v) p w := fun p w v => mcu_up (by decide)
            have qa : ∀ v, Eqm [85] [] s2 (up s2 85 (4 * i + 2) v) := fun v => Eqm.rf.pu (by simp) (by decide)
            have e121 : ∀ z : mS, ev (d + 1 + 1 + 1) 284 121 [.inr 67, .inl (nI (4 * i)), .inl (nI 104)] [] z = some (0, nI 0, z) := fun z => by
              rw [E284_121, if_pos (show ¬ nI 104 = 108 by decide +kernel), E284_203]
              rfl
            by_cases h61 : hd X E q = 61
            · rw [if_pos h61]
              have hlt : q < E := hd_lt (X := X) (by omega)
              have e2 : ev (d + 1 + 1) 242 0 [.inr 67, .inl 61] [] (mcu s2 q none) = some (0, nI 0, mcu s2 (q + 1) none) := m_need1 (c := 61) hx2 l1.2 (by omega) h61
              have e3 := m_num2 (d := d) hx2 (show q + 1 ≤ E by omega) hE
              cases hD2 : isD (hd X E (q + 1)) with
              | false =>
                rw [hD2, if_neg (show ¬ (false = true) by simp)] at e3
                rw [if_neg (show ¬ (false = true) by simp)]
                have e3 : ev (d + 1 + 1) 243 0 [.inr 67, .inl 2, .inl 0, .inl 99, .inr 0, .inr 0] [] (mcu s2 (q + 1) none) = some (0, nI 0, mcu s2 (q + 1) (some (q + 1))) := e3
                refine ⟨_, ⟨q + 1, ?_, by omega, by omega⟩, (q1.tr q2).tr (qa (nI 0))⟩
                rw [e2, bnd_some, e3, bnd_some, if_pos i2, x2, u2, e121]
              | true =>
                rw [hD2, if_pos (show true = true from rfl)] at e3
                rw [if_pos (show true = true from rfl)]
                have m1 := dg_le (X := X) (m := 2) (v := 0) (show q + 1 ≤ E by omega)
                have m2 : q + 1 + 1 ≤ (dg X E 2 (q + 1) 0).2 := dg_1 (m := 1) (v := 0) (by omega) hD2
                have m3 := dg_v (X := X) (E := E) (m := 2) (p := q + 1) (v := 0) (k := 0) (by decide)
                have h100 : (10 : Nat) ^ (0 + 2) = 100 := by decide
                unfold letP
                dsimp only
                rw [if_neg (show ¬ (104 = 108) by omega)]
                generalize dg X E 2 (q + 1) 0 = z at m1 m2 m3 e3 ⊢
                obtain ⟨b, r⟩ := z
                dsimp only at m1 m2 m3 e3 ⊢
                have e3 : ev (d + 1 + 1) 243 0 [.inr 67, .inl 2, .inl 0, .inl 99, .inr 0, .inr 0] [] (mcu s2 (q + 1) none) = some (0, nI b, mcu s2 r none) := e3
                refine ⟨up s2 85 (4 * i + 2) (nI b), ⟨?_, ⟨by show isKd 104 = true; decide, by show a < 100; omega, by show b < 100; omega, by show 0 < 10; omega⟩, by omega, m1.2, ⟨?_, ?_, fun _ => up_in, fun z => by exfalso; revert z; show ¬ (104 = 108); omega⟩, fun j hj => by rw [up_out (by omega)]; exact dj j hj⟩, (q1.tr q2).tr (qa (nI b))⟩
                · rw [e2, bnd_some, e3, bnd_some, if_pos i2, x2, u2, e121]
                · rw [up_out (by omega)]; exact d0
                · rw [up_out (by omega)]
                  show _ = nI (if 104 = 110 then b else a)
                  rw [if_neg (by omega)]
                  exact d1
            · rw [if_neg h61]
              have e2 : ev (d + 1 + 1) 242 0 [.inr 67, .inl 61] [] (mcu s2 q none) = some (0, nI 0, mcu s2 q (some q)) := m_need0 (c := 61) (w := none) hx2 l1.2 hE (by omega) (Or.inr h61)
              have e3 : ev (d + 1 + 1) 243 0 [.inr 67, .inl 2, .inl 0, .inl 99, .inr 0, .inr 0] [] (mcu s2 q (some q)) = some (0, nI 0, mcu s2 q (some q)) := m_numberF
              refine ⟨_, ⟨q, ?_, l1.2, by omega⟩, (q1.tr q2).tr (qa (nI 0))⟩
              rw [e2, bnd_some, e3, bnd_some, if_pos i2, x2, u2, e121]
          · have c4 : ¬ nI h = 104 := fun z => g1 ((nI_eq (by omega) (by omega)).mp (show nI h = nI 104 from z))
            have c8 : ¬ nI h = 108 := fun z => g4 ((nI_eq (by omega) (by omega)).mp (show nI h = nI 108 from z))
            rw [if_pos c4]
            unfold secP letP
            rw [if_neg g1, if_neg g4, if_neg g5]
            dsimp only
            rw [if_neg g4]
            refine ⟨s2, ⟨?_, ⟨hk, by show a < 100; omega, by show 0 < 100; omega, by show 0 < 10; omega⟩, by omega, l1.2, ⟨d0, ?_, fun z => absurd z (fun y => y.elim g1 g4), fun z => absurd z g4⟩, dj⟩, q1.tr q2⟩
            · rw [E284_121, if_pos c8, E284_203]
              rfl
            · show _ = nI (if h = 110 then 0 else a)
              rw [if_neg g5]
              exact d1
end MTV
