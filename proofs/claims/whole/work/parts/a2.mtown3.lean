/-! THE MODEL: a town's lines -/
def tlP : List Nat := [82, 81, 69, 70, 71, 73, 74]
section MTQ
variable {d E p c0 m f a i v x l B B' g q : Nat} {s s' s1 : mS} {X : aX} {w w' : Option Nat} {T T' T0 : aT} {S : aS} {P F : List Nat} {c : Nat → Nat} {sp : Nat → Nat}
theorem m_readL (ht0 : tN T0 ≤ 8) (ho : sOk T0 S B) (hT : MT T0 s) (hS : MSt T0 S s) (hx : MC X E 79 s) (hE : E ≤ 80) (hP : MP T c S s) (ht : tOk T) (hp : p ≤ E) (hL : isL (hd X E p) = true) : ∃ s', (match (if isD (hd X E (p + 1)) = true then lnS X E (p + 1) (hd X E p - 97) T c else lnW X E p (lts X E 7 (p + 1) + 1) T c) with
    | .inl f => ∃ v q, ev (d + 1 + 1 + 1) 246 0 [.inr 67, .inl (nI (tW T)), .inr 0, .inr 0, .inr 0] [] (mcu s p none) = some (0, v, mcu s' q (some f)) ∧ f ≤ E ∧ q ≤ E ∧ MPw T s'
    | .inr (p', T', c') => ev (d + 1 + 1 + 1) 246 0 [.inr 67, .inl (nI (tW T)), .inr 0, .inr 0, .inr 0] [] (mcu s p none) = some (0, nI (tW T' - tW T), mcu s' p' none) ∧ MP T' c' S s' ∧ tOk T' ∧ p < p' ∧ p' ≤ E ∧ tN T' = tN T ∧ tW T' ≤ tW T + 1 ∧ Ext T T') ∧ Eqm rlP [] s s' := by
  have hpE : p < E := isL_lt hL
  have hb0 := of_decide_eq_true hL
  obtain ⟨s1, e1, i1, j1, q1⟩ := m_wordL (d := d + 1) (v := tW T) 8 0 p s hx (by omega) hp
  obtain ⟨b1, b2, b3⟩ := lts_le (X := X) (m := 8) hp
  have hn := lts_S hL
  have hst := lts_st (X := X) (E := E) 8 p
  rw [hn] at e1 b1 b2 b3 hst
  have j1' : ∀ j, j < lts X E 7 (p + 1) + 1 → s1 82 j = nI (hd X E (p + j) - 97) ∧ hd X E (p + j) - 97 < 10 := fun j hj => by
    have h1 := j1 j (by rw [hn]; exact hj)
    have h2 := of_decide_eq_true (b3 j hj)
    rw [Nat.zero_add] at h1
    exact ⟨h1, by omega⟩
  generalize hne : lts X E 7 (p + 1) + 1 = n at *
  rw [Nat.zero_add] at e1
  have hx1 := MC_q hx q1 (by decide) (by decide)
  have hP1 := MP_q hP q1 (by decide)
  have hT1 := MT_q hT q1 (by decide) (by decide)
  have hS1 := MSt_q hS q1 (by decide) (by decide)
  have e2 := m_wordE (d := d + 1) (v := tW T) hx1 (show p + n ≤ E by omega) hE b1 (fun z => by
    rcases hst with y | y
    · exact y.symm
    · rw [y] at z; cases z)
  have st : ev (d + 1 + 1 + 1) 246 0 [.inr 67, .inl (nI (tW T)), .inr 0, .inr 0, .inr 0] [] (mcu s p none) = ev (d + 1 + 1 + 1) 246 69 [.inr 67, .inl (nI (tW T)), .inl (nI n), .inr 0, .inr 0] [] (mcu s1 (p + n) (if isL (hd X E (p + n)) = true then some (p + n) else none)) := by
    rw [E246_0]
    exact e1.trans e2
  rw [st]
  cases hD : isD (hd X E (p + 1)) with
  | true =>
    rw [if_pos (show true = true from rfl)]
    have hL1 := isDL hD
    have hn1 : n = 1 := by
      rw [← hne]
      have : lts X E 7 (p + 1) = 0 := by
        unfold lts
        rw [hL1, if_neg (show ¬ (false = true) by simp)]
      rw [this]
    subst hn1
    rw [hL1, if_neg (show ¬ (false = true) by simp)]
    obtain ⟨s2, g, q2⟩ := m_stock (d := d) ht0 ho hT1 hS1 hx1 hE hP1 (show p + 1 ≤ E by omega) hD (j1' 0 (by omega)).2 (j1' 0 (by omega)).1
    rw [Nat.add_zero] at g
    refine ⟨s2, ?_, (q1.mono (by decide) (by decide)).tr (q2.mono (by decide) (by decide))⟩
    revert g
    cases lnS X E (p + 1) (hd X E p - 97) T c with
    | inl f => exact fun g => g
    | inr r =>
      obtain ⟨p', T', c'⟩ := r
      dsimp only
      intro g
      obtain ⟨g1, g2, g3, g4, g5, -⟩ := g
      subst g3
      rw [Nat.sub_self]
      exact ⟨g1, g2, ht, by omega, g5, rfl, Nat.le_succ _, Ext.rf⟩
  | false =>
    rw [if_neg (show ¬ (false = true) by simp)]
    have go : ev (d + 1 + 1 + 1) 246 69 [.inr 67, .inl (nI (tW T)), .inl (nI n), .inr 0, .inr 0] [] (mcu s1 (p + n) (if isL (hd X E (p + n)) = true then some (p + n) else none)) = ev (d + 1 + 1 + 1) 246 162 [.inr 67, .inl (nI (tW T)), .inl (nI n), .inr 0, .inr 0] [] (mcu s1 (p + n) (if isL (hd X E (p + n)) = true then some (p + n) else none)) := by
      rw [E246_69]
      by_cases h1 : n = 1
      · have hL1 : isL (hd X E (p + n)) = false := by
          rcases hst with y | y
          · omega
          · exact y
        rw [hL1, if_neg (show ¬ (false = true) by simp)]
        subst h1
        have e0 : ev (d + 1 + 1) 228 0 [.inl (hB (hd X E (p + 1))), .inl 48, .inl 57] [] (mcu s1 (p + 1) none) = some (0, bI false, mcu s1 (p + 1) none) := by
          have := m_digit (d := d + 1 + 1) (p := p + 1) (s' := mcu s1 (p + 1) none) hx1
          rw [hD] at this
          exact this
        rw [if_neg (show ¬ ¬ nI 1 = 1 from not_not_intro rfl), m_fine, bnd_some, decide_eq_true rfl, if_neg (show ¬ bI true = 0 by decide +kernel), m_here hx1 (by omega), bnd_some, e0, bnd_some, if_pos (show bI false = 0 from rfl)]
      · rw [if_pos (show ¬ nI n = 1 from fun z => h1 ((nI_eq (by omega) (by omega)).mp (show nI n = nI 1 from z)))]
    rw [go]
    obtain ⟨s2, g, q2⟩ := m_word2 (d := d) (w := if isL (hd X E (p + n)) = true then some (p + n) else none) (S := S) (T := T) (c := c) hx1 hE hP1 ht (by omega) b1 (by omega) j1' (by
      cases hL1 : isL (hd X E (p + n)) with
      | true =>
        right
        refine ⟨if_pos rfl, fun z => ?_⟩
        rw [z] at hL1
        revert hL1
        decide
      | false => left; exact if_neg (by simp))
    refine ⟨s2, ?_, (q1.mono (by decide) (by decide)).tr (q2.mono (by decide) (by decide))⟩
    revert g
    cases lnW X E p n T c with
    | inl f => exact fun g => g
    | inr r =>
      obtain ⟨p', T', c'⟩ := r
      dsimp only
      intro g
      obtain ⟨g1, g2, g3, g4, g5, g6, g7, g8, g9⟩ := g
      have h71 : tW T' - tW T = 1 := by omega
      rw [h71]
      exact ⟨g1, g2, g3, g4, g5, g8, Nat.le_of_eq g7, g9⟩
theorem tOk_adN (ht : tOk T) (h8 : tN T < 8) (ha : 1 ≤ a ∧ a ≤ 99) (hv : 1 ≤ v ∧ v ≤ 9) : tOk (adN T a v) := by
  obtain ⟨o1, o2, o3, o4⟩ := ht
  refine ⟨o1, by show tN T + 1 ≤ 8; omega, o3, fun y hy => ?_⟩
  have hy : y < tN T + 1 := hy
  show 1 ≤ uO (tWo T) (tN T) a y ∧ uO (tWo T) (tN T) a y ≤ 99 ∧ 1 ≤ uO (tTe T) (tN T) v y ∧ uO (tTe T) (tN T) v y ≤ 9
  unfold uO
  by_cases hz : y = tN T
  · simp only [hz, if_true]
    exact ⟨ha.1, ha.2, hv.1, hv.2⟩
  · simp only [hz, if_false]
    exact o4 y (by omega)
theorem mcu_tw {a b i j : Nat} {t u : Int32} (ha : a ≠ 67) (hb : b ≠ 67) : up (mcu (up s a i t) p w) b j u = mcu (up (up s a i t) b j u) p w := mcu_up hb
/-- a wall's line -/
theorem m_lineN {n : Nat} (hx : MC X E 79 s) (hE : E ≤ 80) (hP : MP T c S s) (ht : tOk T) (hp : p < E) (h8 : tN T < 8) : ∃ s', (match lnN X E (p + 1) T c with
    | .inl f => ∃ q, bnd (ev (d + 1 + 1 + 1) 243 0 [.inr 67, .inl 2, .inl 1, .inl 99, .inr 0, .inr 0] [] (mcu s (p + 1) none)) (fun v7 s7 => (if inb (nI (tN T)) 8 = true then bnd (ev (d + 1 + 1 + 1) 242 0 [.inr 67, .inl 44] [] (up s7 73 (ix (nI (tN T))) v7)) (fun _ s8 => bnd (ev (d + 1 + 1 + 1) 243 0 [.inr 67, .inl 1, .inl 1, .inl 9, .inr 0, .inr 0] [] s8) (fun v9 s9 => (if inb (nI (tN T)) 8 = true then ev (d + 1 + 1 + 1 + 1) 245 151 [.inr 67, .inl (nI (tW T)), .inl (nI (tN T)), .inl (nI n), .inr 0, .inr 0, .inr 0] [] (up s9 74 (ix (nI (tN T))) v9) else none))) else none)) = ev (d + 1 + 1 + 1 + 1) 245 151 [.inr 67, .inl (nI (tW T)), .inl (nI (tN T)), .inl (nI n), .inr 0, .inr 0, .inr 0] [] (mcu s' q (some f)) ∧ f ≤ E ∧ q ≤ E ∧ MPw T s'
    | .inr (p', T', c') => bnd (ev (d + 1 + 1 + 1) 243 0 [.inr 67, .inl 2, .inl 1, .inl 99, .inr 0, .inr 0] [] (mcu s (p + 1) none)) (fun v7 s7 => (if inb (nI (tN T)) 8 = true then bnd (ev (d + 1 + 1 + 1) 242 0 [.inr 67, .inl 44] [] (up s7 73 (ix (nI (tN T))) v7)) (fun _ s8 => bnd (ev (d + 1 + 1 + 1) 243 0 [.inr 67, .inl 1, .inl 1, .inl 9, .inr 0, .inr 0] [] s8) (fun v9 s9 => (if inb (nI (tN T)) 8 = true then ev (d + 1 + 1 + 1 + 1) 245 151 [.inr 67, .inl (nI (tW T)), .inl (nI (tN T)), .inl (nI n), .inr 0, .inr 0, .inr 0] [] (up s9 74 (ix (nI (tN T))) v9) else none))) else none)) = ev (d + 1 + 1 + 1 + 1) 245 151 [.inr 67, .inl (nI (tW T)), .inl (nI (tN T)), .inl (nI n), .inr 0, .inr 0, .inr 0] [] (mcu s' p' none) ∧ MP T' c' S s' ∧ tOk T' ∧ p < p' ∧ p' ≤ E ∧ tN T' = tN T + 1 ∧ tW T' = tW T ∧ Ext T T') ∧ Eqm [73, 74] [] s s' := by
  have i8 : inb (nI (tN T)) 8 = true := n_inb h8 (by omega)
  have x8 : ix (nI (tN T)) = tN T := n_ix (by omega)
  have l1 := dg_le (X := X) (m := 2) (v := 0) (show p + 1 ≤ E by omega)
  have l3 := dg_v (X := X) (E := E) (m := 2) (p := p + 1) (v := 0) (k := 0) (by decide)
  have e1 := m_number (d := d + 1) (m := 2) (p := p + 1) (lo := 1) (hi := 99) hx (by omega) hE (by omega) (by omega) (by omega)
  have hq100 : (10 : Nat) ^ (0 + 2) = 100 := by decide
  have q1 : ∀ y z : Int32, Eqm [73, 74] [] s (up (up s 73 (tN T) y) 74 (tN T) z) := fun y z => (Eqm.rf.pu (by simp) (by decide)).pu (by simp) (by decide)
  have k1 : ∀ y z : Int32, MPw T (up (up s 73 (tN T) y) 74 (tN T) z) := fun y z => by
    refine ⟨fun x hx => ?_, fun w hw => ?_⟩
    · rw [(q1 y z).1 _ (by decide) (by decide), (q1 y z).1 _ (by decide) (by decide), (q1 y z).1 _ (by decide) (by decide)]
      exact hP.1 x hx
    · have hz : w ≠ tN T := by omega
      rw [up_ne (a := 74) (b := 73) (by decide), up_out (a := 73) hz, up_out (a := 74) hz, up_ne (a := 73) (b := 74) (by decide)]
      exact hP.2.1 w hw
  have qx : ∀ y : Int32, Eqm [73] [] s (up s 73 (tN T) y) := fun y => Eqm.rf.pu (by simp) (by decide)
  -- all that follows a fault
  have bad : ∀ (q f : Nat) (y : Int32), q ≤ E → bnd (ev (d + 1 + 1 + 1) 242 0 [.inr 67, .inl 44] [] (up (mcu s q (some f)) 73 (tN T) y)) (fun _ s8 => bnd (ev (d + 1 + 1 + 1) 243 0 [.inr 67, .inl 1, .inl 1, .inl 9, .inr 0, .inr 0] [] s8) (fun v9 s9 => ev (d + 1 + 1 + 1 + 1) 245 151 [.inr 67, .inl (nI (tW T)), .inl (nI (tN T)), .inl (nI n), .inr 0, .inr 0, .inr 0] [] (up s9 74 (tN T) v9))) = ev (d + 1 + 1 + 1 + 1) 245 151 [.inr 67, .inl (nI (tW T)), .inl (nI (tN T)), .inl (nI n), .inr 0, .inr 0, .inr 0] [] (mcu (up (up s 73 (tN T) y) 74 (tN T) (nI 0)) q (some f)) := fun q f y hq => by
    have e2 : ev (d + 1 + 1 + 1) 242 0 [.inr 67, .inl 44] [] (mcu (up s 73 (tN T) y) q (some f)) = some (0, nI 0, mcu (up s 73 (tN T) y) q (some f)) := m_need0 (d := d + 1) (c := 44) (w := some f) (MC_q hx (qx y) (by decide) (by decide)) hq hE (by omega) (Or.inl (by simp))
    have e3 : ev (d + 1 + 1 + 1) 243 0 [.inr 67, .inl 1, .inl 1, .inl 9, .inr 0, .inr 0] [] (mcu (up s 73 (tN T) y) q (some f)) = some (0, nI 0, mcu (up s 73 (tN T) y) q (some f)) := m_numberF
    rw [mcu_up (by decide), e2, bnd_some, e3, bnd_some, mcu_up (by decide)]
  unfold lnN
  simp only [i8, x8, eq_self, if_true]
  cases hD : isD (hd X E (p + 1)) with
  | false =>
    rw [if_pos (show false = false from rfl)]
    have ed : dg X E 2 (p + 1) 0 = (0, p + 1) := by
      unfold dg
      rw [hD]
      rfl
    rw [ed, if_pos rfl] at e1
    have e1 : ev (d + 1 + 1 + 1) 243 0 [.inr 67, .inl 2, .inl 1, .inl 99, .inr 0, .inr 0] [] (mcu s (p + 1) none) = some (0, nI 0, mcu s (p + 1) (some (p + 1))) := e1
    refine ⟨_, ⟨p + 1, ?_, by omega, by omega, k1 (nI 0) (nI 0)⟩, q1 _ _⟩
    rw [e1, bnd_some]
    exact bad _ _ _ (by omega)
  | true =>
    have l2 : p + 1 + 1 ≤ (dg X E 2 (p + 1) 0).2 := dg_1 (m := 1) (v := 0) (by omega) hD
    rw [if_neg (show ¬ (true = false) by simp)]
    generalize dg X E 2 (p + 1) 0 = r at l1 l2 l3 e1 ⊢
    obtain ⟨v, q⟩ := r
    dsimp only at l1 l2 l3 e1 ⊢
    rw [if_neg (by omega : ¬ q = p + 1)] at e1
    by_cases hv0 : v = 0
    · rw [if_pos hv0]
      rw [if_neg (by omega : ¬ (1 ≤ v ∧ v ≤ 99))] at e1
      have e1 : ev (d + 1 + 1 + 1) 243 0 [.inr 67, .inl 2, .inl 1, .inl 99, .inr 0, .inr 0] [] (mcu s (p + 1) none) = some (0, nI 0, mcu s q (some (q - 1))) := e1
      refine ⟨_, ⟨q, ?_, by omega, l1.2, k1 (nI 0) (nI 0)⟩, q1 _ _⟩
      rw [e1, bnd_some]
      exact bad _ _ _ l1.2
    · rw [if_neg hv0]
      rw [if_pos (⟨by omega, by omega⟩ : 1 ≤ v ∧ v ≤ 99)] at e1
      have e1 : ev (d + 1 + 1 + 1) 243 0 [.inr 67, .inl 2, .inl 1, .inl 99, .inr 0, .inr 0] [] (mcu s (p + 1) none) = some (0, nI v, mcu s q none) := e1
      rw [e1, bnd_some, mcu_up (by decide)]
      have hx1 := MC_q hx (qx (nI v)) (by decide) (by decide)
      by_cases h44 : hd X E q = 44
      · rw [if_neg (not_not_intro h44)]
        have hqE : q < E := hd_lt (X := X) (by omega)
        have e2 : ev (d + 1 + 1 + 1) 242 0 [.inr 67, .inl 44] [] (mcu (up s 73 (tN T) (nI v)) q none) = some (0, nI 0, mcu (up s 73 (tN T) (nI v)) (q + 1) none) := m_need1 (d := d + 1) (c := 44) hx1 l1.2 (by omega) h44
        have e3 := m_number (d := d + 1) (m := 1) (p := q + 1) (lo := 1) (hi := 9) hx1 (by omega) hE (by omega) (by omega) (by omega)
        rw [e2, bnd_some]
        cases hD2 : isD (hd X E (q + 1)) with
        | false =>
          rw [if_pos (show false = false from rfl)]
          have ed : dg X E 1 (q + 1) 0 = (0, q + 1) := by
            unfold dg
            rw [hD2]
            rfl
          rw [ed, if_pos rfl] at e3
          have e3 : ev (d + 1 + 1 + 1) 243 0 [.inr 67, .inl 1, .inl 1, .inl 9, .inr 0, .inr 0] [] (mcu (up s 73 (tN T) (nI v)) (q + 1) none) = some (0, nI 0, mcu (up s 73 (tN T) (nI v)) (q + 1) (some (q + 1))) := e3
          refine ⟨_, ⟨q + 1, ?_, by omega, by omega, k1 (nI v) (nI 0)⟩, q1 _ _⟩
          rw [e3, bnd_some, mcu_up (by decide)]
        | true =>
          have hb := of_decide_eq_true hD2
          have hlt : q + 1 < E := isD_lt hD2
          have ed : dg X E 1 (q + 1) 0 = (hd X E (q + 1) - 48, q + 2) := by
            unfold dg
            rw [if_pos hD2]
            unfold dg
            rw [Nat.zero_mul, Nat.zero_add]
          rw [if_neg (show ¬ (true = false) by simp), ed]
          rw [ed, if_neg (show ¬ q + 2 = q + 1 by omega)] at e3
          dsimp only at e3 ⊢
          by_cases hz : hd X E (q + 1) - 48 = 0
          · rw [if_pos hz]
            rw [if_neg (by omega)] at e3
            have e3 : ev (d + 1 + 1 + 1) 243 0 [.inr 67, .inl 1, .inl 1, .inl 9, .inr 0, .inr 0] [] (mcu (up s 73 (tN T) (nI v)) (q + 1) none) = some (0, nI 0, mcu (up s 73 (tN T) (nI v)) (q + 2) (some (q + 2 - 1))) := e3
            refine ⟨_, ⟨q + 2, ?_, by omega, by omega, k1 (nI v) (nI 0)⟩, q1 _ _⟩
            rw [e3, bnd_some, mcu_up (by decide)]
          · rw [if_neg hz]
            rw [if_pos (⟨by omega, by omega⟩ : 1 ≤ hd X E (q + 1) - 48 ∧ hd X E (q + 1) - 48 ≤ 9)] at e3
            have e3 : ev (d + 1 + 1 + 1) 243 0 [.inr 67, .inl 1, .inl 1, .inl 9, .inr 0, .inr 0] [] (mcu (up s 73 (tN T) (nI v)) (q + 1) none) = some (0, nI (hd X E (q + 1) - 48), mcu (up s 73 (tN T) (nI v)) (q + 2) none) := e3
            refine ⟨up (up s 73 (tN T) (nI v)) 74 (tN T) (nI (hd X E (q + 1) - 48)), ⟨?_, ⟨?_, fun w hw => ?_, fun l hl => ?_⟩, tOk_adN ht h8 ⟨by omega, by omega⟩ ⟨by omega, by omega⟩, by omega, by omega, rfl, rfl, ext_N⟩, q1 _ _⟩
            · rw [e3, bnd_some, mcu_up (by decide)]
            · exact (k1 (nI v) (nI (hd X E (q + 1) - 48))).1
            · have hw : w < tN T + 1 := hw
              show _ = nI (uO (tWo T) (tN T) v w) ∧ _ = nI (uO (tTe T) (tN T) (hd X E (q + 1) - 48) w)
              unfold uO
              by_cases y : w = tN T
              · subst y
                simp only [if_true]
                exact ⟨by rw [up_ne (by decide), up_in], up_in⟩
              · simp only [y, if_false]
                exact (k1 (nI v) (nI (hd X E (q + 1) - 48))).2 w (by omega)
            · rw [up_ne (by decide), up_ne (by decide)]; exact hP.2.2 l hl
      · rw [if_pos h44]
        have e2 : ev (d + 1 + 1 + 1) 242 0 [.inr 67, .inl 44] [] (mcu (up s 73 (tN T) (nI v)) q none) = some (0, nI 0, mcu (up s 73 (tN T) (nI v)) q (some q)) := m_need0 (d := d + 1) (c := 44) (w := none) hx1 l1.2 hE (by omega) (Or.inr h44)
        have e3 : ev (d + 1 + 1 + 1) 243 0 [.inr 67, .inl 1, .inl 1, .inl 9, .inr 0, .inr 0] [] (mcu (up s 73 (tN T) (nI v)) q (some q)) = some (0, nI 0, mcu (up s 73 (tN T) (nI v)) q (some q)) := m_numberF
        refine ⟨_, ⟨q, ?_, l1.2, l1.2, k1 (nI v) (nI 0)⟩, q1 _ _⟩
        rw [e2, bnd_some, e3, bnd_some, mcu_up (by decide)]
end MTQ
