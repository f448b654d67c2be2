/-! THE MODEL: a town's line -/
def MPw (T : aT) (s : mS) : Prop := (∀ x, x < tW T → s 70 x = nI (tLen T x) ∧ s 69 x = nI (tSen T x) ∧ ∀ i, i < tLen T x → s 71 (8 * x + i) = nI (tSp T x i)) ∧ (∀ w, w < tN T → s 73 w = nI (tWo T w) ∧ s 74 w = nI (tTe T w))
def rlP : List Nat := [82, 81, 69, 70, 71]
section MTP
variable {d E p c0 m f a i v x l B B' n g q : Nat} {s s' s1 : mS} {X : aX} {w w' : Option Nat} {T T' T0 : aT} {S : aS} {P F : List Nat} {c : Nat → Nat} {sp : Nat → Nat}
theorem MP_w (h : MP T c S s) : MPw T s := ⟨h.1, h.2.1⟩
theorem MPw_q (h : MPw T s) (q : Eqm P F s s') (hp : ∀ a ∈ P, a ∉ [70, 69, 71, 73, 74]) : MPw T s' := by
  have e : ∀ a, a ∈ [70, 69, 71, 73, 74] → s' a = s a := fun a ha => q.1 a (fun z => hp a z ha) (by rintro rfl; revert ha; decide)
  obtain ⟨h1, h2⟩ := h
  refine ⟨fun x hx => ?_, fun w hw => ?_⟩
  · rw [e 70 (by decide), e 69 (by decide), e 71 (by decide)]; exact h1 x hx
  · rw [e 73 (by decide), e 74 (by decide)]; exact h2 w hw
theorem isDL (h : isD (hd X E p) = true) : isL (hd X E p) = false := by
  have hb := of_decide_eq_true h
  exact decide_eq_false (by omega)
theorem m_stock (ht0 : tN T0 ≤ 8) (ho : sOk T0 S B) (hT : MT T0 s) (hS : MSt T0 S s) (hx : MC X E 79 s) (hE : E ≤ 80) (hP : MP T c S s) (hp : p ≤ E) (hD : isD (hd X E p) = true) (hl : l < 10) (h82 : s 82 0 = nI l) : ∃ s', (match lnS X E p l T c with
    | .inl f => ∃ v q, ev (d + 1 + 1 + 1) 246 69 [.inr 67, .inl (nI (tW T)), .inl (nI 1), .inr 0, .inr 0] [] (mcu s p none) = some (0, v, mcu s' q (some f)) ∧ f ≤ E ∧ q ≤ E ∧ MPw T s'
    | .inr (p', T', c') => ev (d + 1 + 1 + 1) 246 69 [.inr 67, .inl (nI (tW T)), .inl (nI 1), .inr 0, .inr 0] [] (mcu s p none) = some (0, nI 0, mcu s' p' none) ∧ MP T' c' S s' ∧ T' = T ∧ p < p' ∧ p' ≤ E ∧ ∀ k, k < 10 → c' k ≤ 20) ∧ Eqm [81] [] s s' := by
  have l1 := dg_le (X := X) (m := 2) (v := 0) hp
  have l2 : p + 1 ≤ (dg X E 2 p 0).2 := dg_1 (m := 1) (v := 0) hp hD
  have l3 := dg_v (X := X) (E := E) (m := 2) (p := p) (v := 0) (k := 0) (by decide)
  have e1 := m_number (d := d) (m := 2) (lo := 0) (hi := 20) hx hp hE (by omega) (by omega) (by omega)
  have hq20 : (10 : Nat) ^ (0 + 2) = 100 := by decide
  unfold lnS
  generalize dg X E 2 p 0 = r at l1 l2 l3 e1 ⊢
  obtain ⟨v, q⟩ := r
  dsimp only at l1 l2 l3 e1 ⊢
  rw [if_neg (by omega : ¬ q = p)] at e1
  obtain ⟨k1, k2, k3⟩ := hP.2.2 l hl
  have e0 : ev (d + 1 + 1) 228 0 [.inl (hB (hd X E p)), .inl 48, .inl 57] [] (mcu s p none) = some (0, bI true, mcu s p none) := by
    have := m_digit (d := d + 1 + 1) (p := p) (s' := mcu s p none) hx
    rw [hD] at this
    exact this
  have e82 : (mcu s p none) 82 (ix 0) = nI l := by rw [mcu_ne (by decide)]; exact h82
  have q1 : ∀ y, Eqm [81] [] s (up s 81 l y) := fun y => Eqm.rf.pu (by simp) (by decide)
  have fin : ∀ (u : Nat) (w : Option Nat) (b : Int32), ev (d + 1 + 1 + 1) 246 149 [.inr 67, .inr 0, .inr 0, .inl (nI l), .inl b] [] (mcu s u w) = some (0, nI 0, mcu (up s 81 l (nI (c l - stk S l) + b)) u w) := fun u w b => by
    have g : mcu s u w 81 l = nI (c l - stk S l) := by rw [mcu_ne (by decide)]; exact k3
    rw [E246_149]
    simp (disch := omega) only [g, mcu_up, lit, nI_add, pk_mul, n_sub, n_addneg, nle_t, nle_f, nlt_t, nlt_f, neq_t, neq_f, n_inb, n_ix, bnd_some, if_true, if_false, ite_tt, ite_ff, not_true_eq_false, not_false_eq_true, eq_self, false_or, or_false, true_or, or_true]
  have st : ev (d + 1 + 1 + 1) 246 69 [.inr 67, .inl (nI (tW T)), .inl (nI 1), .inr 0, .inr 0] [] (mcu s p none) = bnd (ev (d + 1 + 1) 243 0 [.inr 67, .inl (nI 2), .inl (nI 0), .inl (nI 20), .inr 0, .inr 0] [] (mcu s p none)) (fun v4 s4 => bnd (ev (d + 1 + 1) 239 0 [.inr 67] [] s4) (fun v5 s5 => (if v5 = 0 then ev (d + 1 + 1 + 1) 246 149 [.inr 67, .inr 0, .inr 0, .inl (nI l), .inl v4] [] s5 else bnd (ev (d + 1 + 1) 244 0 [.inr 67, .inl (nI l), .inr 0, .inr 0] [] s5) (fun v6 s6 => (if inb (nI l) 10 = true then (if (v6 + s6 81 (ix (nI l)) + v4) ≤ 20 then ev (d + 1 + 1 + 1) 246 149 [.inr 67, .inr 0, .inr 0, .inl (nI l), .inl v4] [] s6 else bnd (ev (d + 1 + 1) 240 0 [.inr 67, .inl (s6 67 22 - 1)] [] s6) (fun _ s7 => ev (d + 1 + 1 + 1) 246 149 [.inr 67, .inr 0, .inr 0, .inl (nI l), .inl v4] [] s7)) else none))))) := by
    rw [E246_69, if_neg (show ¬ ¬ nI 1 = 1 from not_not_intro rfl), m_fine, bnd_some, decide_eq_true rfl, if_neg (show ¬ bI true = 0 by decide +kernel), m_here hx hp, bnd_some, e0, bnd_some, if_neg (show ¬ bI true = 0 by decide +kernel), if_pos (show inb 0 8 = true by decide +kernel), e82]
    rfl
  rw [st, e1]
  by_cases h20 : 20 < c l + v
  · rw [if_pos h20]
    dsimp only
    by_cases hv : v ≤ 20
    · rw [if_pos ⟨Nat.zero_le _, hv⟩]
      have es : ev (d + 1 + 1) 244 0 [.inr 67, .inl (nI l), .inr 0, .inr 0] [] (mcu s q none) = some (0, nI (stk S l), mcu s q none) := m_stockOf (d := d + 1 + 1) ht0 ho (MT_q hT mcu_q (by decide) (by decide)) (MSt_q hS mcu_q (by decide) (by decide)) hl
      have g81 : mcu s q none 81 l = nI (c l - stk S l) := by rw [mcu_ne (by decide)]; exact k3
      have hno : ¬ nI (stk S l + (c l - stk S l) + v) ≤ nI 20 := nI_ge (by omega) (by omega)
      refine ⟨_, ⟨nI 0, q, ?_, by omega, l1.2, MPw_q (MP_w hP) (q1 _) (by decide)⟩, q1 (nI (c l - stk S l) + nI v)⟩
      rw [bnd_some, m_fine, bnd_some, decide_eq_true rfl, if_neg (show ¬ bI true = 0 by decide +kernel), es, bnd_some, n_ix (by omega), g81, if_pos (n_inb (by omega) (by omega)), nI_add, nI_add, if_neg (show ¬ nI (stk S l + (c l - stk S l) + v) ≤ 20 from hno), mcu_22]
      have e22 : nI q - 1 = nI (q - 1) := n_sub (a := q) (b := 1) (by omega)
      rw [e22, m_fault (d := d + 1) (by omega), bnd_some, fl_none, fin]
    · rw [if_neg (fun z => hv z.2)]
      refine ⟨_, ⟨nI 0, q, ?_, by omega, l1.2, MPw_q (MP_w hP) (q1 _) (by decide)⟩, q1 (nI (c l - stk S l) + nI 0)⟩
      rw [bnd_some, m_fine, bnd_some, decide_eq_false (by simp), if_pos (show bI false = 0 from rfl), fin]
  · rw [if_neg h20]
    dsimp only
    rw [if_pos ⟨Nat.zero_le _, (by omega : v ≤ 20)⟩]
    have es : ev (d + 1 + 1) 244 0 [.inr 67, .inl (nI l), .inr 0, .inr 0] [] (mcu s q none) = some (0, nI (stk S l), mcu s q none) := m_stockOf (d := d + 1 + 1) ht0 ho (MT_q hT mcu_q (by decide) (by decide)) (MSt_q hS mcu_q (by decide) (by decide)) hl
    have g81 : mcu s q none 81 l = nI (c l - stk S l) := by rw [mcu_ne (by decide)]; exact k3
    have hyes : nI (stk S l + (c l - stk S l) + v) ≤ nI 20 := nI_le (by omega) (by omega)
    refine ⟨up s 81 l (nI (c l - stk S l) + nI v), ⟨?_, ⟨fun x hx => ?_, fun w hw => ?_, fun k hk => ?_⟩, rfl, by omega, l1.2, fun k hk => ?_⟩, q1 _⟩
    · rw [bnd_some, m_fine, bnd_some, decide_eq_true rfl, if_neg (show ¬ bI true = 0 by decide +kernel), es, bnd_some, n_ix (by omega), g81, if_pos (n_inb (by omega) (by omega)), nI_add, nI_add, if_pos (show nI (stk S l + (c l - stk S l) + v) ≤ 20 from hyes), fin, nI_add]
    · rw [up_ne (by decide), up_ne (by decide), up_ne (by decide)]; exact hP.1 x hx
    · rw [up_ne (by decide), up_ne (by decide)]; exact hP.2.1 w hw
    · show stk S k ≤ uO c l (c l + v) k ∧ uO c l (c l + v) k ≤ 20 ∧ _ = nI (uO c l (c l + v) k - stk S k)
      unfold uO
      by_cases z : k = l
      · subst z
        rw [if_pos rfl, up_in, nI_add]
        exact ⟨by omega, by omega, by congr 1; omega⟩
      · rw [if_neg z, up_out z]
        exact hP.2.2 k hk
    · show uO c l (c l + v) k ≤ 20
      unfold uO
      split
      · omega
      · exact (hP.2.2 k hk).2.1
theorem tOk_adW (ht : tOk T) (h12 : tW T < 12) (hn1 : 1 ≤ n) (hn8 : n ≤ 8) (hg : g < 10) (hs : ∀ i, i < n → sp i < 10) : tOk (adW T n sp g) := by
  obtain ⟨o1, o2, o3, o4⟩ := ht
  refine ⟨by show tW T + 1 ≤ 12; omega, o2, fun y hy => ?_, o4⟩
  have hy : y < tW T + 1 := hy
  show 1 ≤ uO (tLen T) (tW T) n y ∧ uO (tLen T) (tW T) n y ≤ 8 ∧ uO (tSen T) (tW T) g y < 10 ∧ ∀ i, i < uO (tLen T) (tW T) n y → uO (tSp T) (tW T) sp y i < 10
  unfold uO
  by_cases hz : y = tW T
  · simp only [hz, if_true]
    exact ⟨hn1, hn8, hg, hs⟩
  · simp only [hz, if_false]
    exact o3 y (by omega)
theorem MP_W (hP : MP T c S s) (ht : tOk T) (q : Eqm [71, 70, 69] [] s s') (r1 : s' 70 = upd (s 70) (tW T) (nI n)) (r2 : s' 69 = upd (s 69) (tW T) (nI g)) (r3 : ∀ j, j < 8 * tW T ∨ 8 * tW T + n ≤ j → s' 71 j = s 71 j) (r4 : ∀ j, j < n → s' 71 (8 * tW T + j) = nI (sp j)) : MP (adW T n sp g) c S s' := by
  refine ⟨fun x hx => ?_, fun w hw => ?_, fun l hl => ?_⟩
  · have hx : x < tW T + 1 := hx
    show _ = nI (uO (tLen T) (tW T) n x) ∧ _ = nI (uO (tSen T) (tW T) g x) ∧ ∀ i, i < uO (tLen T) (tW T) n x → _ = nI (uO (tSp T) (tW T) sp x i)
    unfold uO
    rw [r1, r2]
    by_cases z : x = tW T
    · subst z
      simp only [if_true]
      exact ⟨upd_eq rfl, upd_eq rfl, r4⟩
    · simp only [z, if_false]
      rw [upd_ne z, upd_ne z]
      obtain ⟨a1, a2, a3⟩ := hP.1 x (by omega)
      have b := (ht.2.2.1 x (by omega)).2.1
      exact ⟨a1, a2, fun i hi => by rw [r3 _ (by omega)]; exact a3 i hi⟩
  · rw [q.1 _ (by decide) (by decide), q.1 _ (by decide) (by decide)]; exact hP.2.1 w hw
  · rw [q.1 _ (by decide) (by decide)]; exact hP.2.2 l hl
/-- a word, from behind its letters on -/
theorem m_word2 (hx : MC X E 79 s) (hE : E ≤ 80) (hP : MP T c S s) (ht : tOk T) (hn1 : 1 ≤ n) (hn8 : n ≤ 8) (hpn : p + n ≤ E) (hs : ∀ j, j < n → s 82 j = nI (hd X E (p + j) - 97) ∧ hd X E (p + j) - 97 < 10) (hw : w = none ∨ (w = some (p + n) ∧ hd X E (p + n) ≠ 61)) : ∃ s', (match lnW X E p n T c with
    | .inl f => ∃ v q, ev (d + 1 + 1 + 1) 246 162 [.inr 67, .inl (nI (tW T)), .inl (nI n), .inr 0, .inr 0] [] (mcu s (p + n) w) = some (0, v, mcu s' q (some f)) ∧ f ≤ E ∧ q ≤ E ∧ MPw T s'
    | .inr (p', T', c') => ev (d + 1 + 1 + 1) 246 162 [.inr 67, .inl (nI (tW T)), .inl (nI n), .inr 0, .inr 0] [] (mcu s (p + n) w) = some (0, nI 1, mcu s' p' none) ∧ MP T' c' S s' ∧ tOk T' ∧ p < p' ∧ p' ≤ E ∧ c' = c ∧ tW T' = tW T + 1 ∧ tN T' = tN T ∧ Ext T T') ∧ Eqm [71, 70, 69] [] s s' := by
  have hW := ht.1
  have f61 : ¬ bI true = 0 := by decide +kernel
  have h61 : (hB (hd X E (p + n)) = 61) = (hd X E (p + n) = 61) := hB_c (c := 61) (by omega) (hd_le' hx)
  -- a fault there
  have bad : ∀ w : Option Nat, (w = some (p + n) ∨ (w = none ∧ hd X E (p + n) ≠ 61)) → ev (d + 1 + 1 + 1) 246 185 [.inr 67, .inl (nI (tW T)), .inl (nI n), .inr 0, .inr 0] [] (mcu s (p + n) w) = some (0, nI 1, mcu s (p + n) (some (p + n))) := fun w hw => by
    have e1 : ev (d + 1 + 1) 242 0 [.inr 67, .inl 61] [] (mcu s (p + n) w) = some (0, nI 0, mcu s (p + n) (some (p + n))) := by
      have := m_need0 (d := d) (c := 61) (w := w) hx hpn hE (by omega) (by
        rcases hw with z | z
        · left; rw [z]; simp
        · exact Or.inr z.2)
      rw [show fl w (p + n) = some (p + n) by
        rcases hw with z | z
        · rw [z]; rfl
        · rw [z.1]; rfl] at this
      exact this
    have e2 : ev (d + 1 + 1) 243 0 [.inr 67, .inl 1, .inl 0, .inl 9, .inr 0, .inr 0] [] (mcu s (p + n) (some (p + n))) = some (0, nI 0, mcu s (p + n) (some (p + n))) := m_numberF
    rw [E246_185, e1, bnd_some, e2, bnd_some, m_fine, bnd_some, decide_eq_false (by simp), if_neg (show ¬ ¬ bI false = 0 from not_not_intro rfl)]
    rfl
  have st : ev (d + 1 + 1 + 1) 246 162 [.inr 67, .inl (nI (tW T)), .inl (nI n), .inr 0, .inr 0] [] (mcu s (p + n) w) = (if ¬ hB (hd X E (p + n)) = 61 then ev (d + 1 + 1 + 1) 246 185 [.inr 67, .inl (nI (tW T)), .inl (nI n), .inr 0, .inr 0] [] (mcu s (p + n) w) else (if ¬ nI (tW T) = 12 then ev (d + 1 + 1 + 1) 246 185 [.inr 67, .inl (nI (tW T)), .inl (nI n), .inr 0, .inr 0] [] (mcu s (p + n) w) else ev (d + 1 + 1 + 1) 246 185 [.inr 67, .inl (nI (tW T)), .inl (nI n), .inr 0, .inr 0] [] (mcu s (p + n) (fl w (p + n))))) := by
    rw [E246_162, m_here hx hpn, bnd_some, mcu_22, m_fault (by omega), bnd_some]
  rw [st]
  unfold lnW
  have hwn : hd X E (p + n) = 61 → w = none := fun z => by
    rcases hw with y | y
    · exact y
    · exact absurd z y.2
  by_cases h6 : hd X E (p + n) = 61
  · rw [if_neg (show ¬ ¬ hB (hd X E (p + n)) = 61 by rw [h61]; exact not_not_intro h6)]
    have hw0 := hwn h6
    subst hw0
    by_cases h12 : 12 ≤ tW T
    · have e12 : tW T = 12 := by omega
      rw [if_pos h12, if_neg (show ¬ ¬ nI (tW T) = 12 by rw [e12]; exact not_not_intro rfl), fl_none]
      exact ⟨s, ⟨nI 1, p + n, bad _ (Or.inl rfl), hpn, hpn, MP_w hP⟩, Eqm.rf⟩
    · rw [if_neg h12, if_neg (not_not_intro h6), if_pos (show ¬ nI (tW T) = 12 from fun z => absurd ((nI_eq (by omega) (by omega)).mp (show nI (tW T) = nI 12 from z)) (by omega))]
      have hpn1 : p + n < E := hd_lt (X := X) (by omega)
      have e1 : ev (d + 1 + 1) 242 0 [.inr 67, .inl 61] [] (mcu s (p + n) none) = some (0, nI 0, mcu s (p + n + 1) none) := m_need1 (c := 61) hx hpn (by omega) h6
      have e2 := m_number (d := d) (m := 1) (p := p + n + 1) (lo := 0) (hi := 9) hx (by omega) hE (by omega) (by omega) (by omega)
      cases hD : isD (hd X E (p + n + 1)) with
      | false =>
        rw [if_pos (show false = false from rfl)]
        have ed : dg X E 1 (p + n + 1) 0 = (0, p + n + 1) := by
          unfold dg
          rw [hD]
          rfl
        rw [ed, if_pos rfl] at e2
        refine ⟨s, ⟨nI 1, p + n + 1, ?_, by omega, by omega, MP_w hP⟩, Eqm.rf⟩
        have e2 : ev (d + 1 + 1) 243 0 [.inr 67, .inl 1, .inl 0, .inl 9, .inr 0, .inr 0] [] (mcu s (p + n + 1) none) = some (0, nI 0, mcu s (p + n + 1) (some (p + n + 1))) := e2
        rw [E246_185, e1, bnd_some, e2, bnd_some, m_fine, bnd_some, decide_eq_false (by simp), if_neg (show ¬ ¬ bI false = 0 from not_not_intro rfl)]
        rfl
      | true =>
        have hb := of_decide_eq_true hD
        have hlt : p + n + 1 < E := isD_lt hD
        have ed : dg X E 1 (p + n + 1) 0 = (hd X E (p + n + 1) - 48, p + n + 2) := by
          unfold dg
          rw [if_pos hD]
          unfold dg
          rw [Nat.zero_mul, Nat.zero_add]
        rw [if_neg (show ¬ (true = false) by simp)]
        rw [ed, if_neg (show ¬ p + n + 2 = p + n + 1 by omega), if_pos (show 0 ≤ hd X E (p + n + 1) - 48 ∧ hd X E (p + n + 1) - 48 ≤ 9 from ⟨Nat.zero_le _, by omega⟩)] at e2
        have e2 : ev (d + 1 + 1) 243 0 [.inr 67, .inl 1, .inl 0, .inl 9, .inr 0, .inr 0] [] (mcu s (p + n + 1) none) = some (0, nI (hd X E (p + n + 1) - 48), mcu s (p + n + 2) none) := e2
        obtain ⟨s2, e3, q3, r1, r2, r3, r4⟩ := m_wrW (d := d + 1 + 1) (s := s) (v := tW T) (n := n) (g := hd X E (p + n + 1) - 48) (sp := fun i => hd X E (p + i) - 97) hn8 (by omega) (fun j hj => (hs j hj).1)
        obtain ⟨s2', e3', q3', r1', r2', r3', r4'⟩ := m_wrW (d := d + 1 + 1) (s := mcu s (p + n + 2) none) (v := tW T) (n := n) (g := hd X E (p + n + 1) - 48) (sp := fun i => hd X E (p + i) - 97) hn8 (by omega) (fun j hj => by rw [mcu_ne (by decide)]; exact (hs j hj).1)
        obtain ⟨s3, hs3⟩ : ∃ s3, s3 = setA s2' 67 (s 67) := ⟨_, rfl⟩
        have c3 : mcu s3 (p + n + 2) none = s2' := by
          rw [hs3]
          funext b
          by_cases hb : b = 67
          · subst hb
            have z : ∀ f, s2' 67 f = mcu s (p + n + 2) none 67 f := fun f => q3'.2 f (by simp)
            funext f
            rw [z]
            unfold mcu
            rw [setA_at, setA_at, setA_at]
          · rw [mcu_ne hb, setA_ne hb]
        have n3 : ∀ b, b ≠ 67 → s3 b = s2' b := fun b hb => by rw [hs3, setA_ne hb]
        have q4 : Eqm [71, 70, 69] [] s s3 := ⟨fun a ha hb => by rw [n3 a hb, q3'.1 a ha hb, mcu_ne hb], fun f _ => by rw [hs3, setA_at]⟩
        refine ⟨s3, ⟨?_, MP_W hP ht q4 ?_ ?_ (fun j hj => ?_) (fun j hj => ?_), tOk_adW ht (by omega) hn1 hn8 (by omega) (fun i hi => (hs i hi).2), by omega, by omega, rfl, rfl, rfl, ext_W⟩, q4⟩
        · rw [c3, E246_185, e1, bnd_some, e2, bnd_some, m_fine, bnd_some, decide_eq_true rfl, if_pos f61]
          exact e3'
        · rw [n3 _ (by decide), r1', mcu_ne (by decide)]
        · rw [n3 _ (by decide), r2', mcu_ne (by decide)]
        · rw [n3 _ (by decide), r3' j hj, mcu_ne (by decide)]
        · rw [n3 _ (by decide)]; exact r4' j hj
  · rw [if_pos (show ¬ hB (hd X E (p + n)) = 61 by rw [h61]; exact h6)]
    have hf : w = some (p + n) ∨ (w = none ∧ hd X E (p + n) ≠ 61) := by
      rcases hw with y | y
      · exact Or.inr ⟨y, h6⟩
      · exact Or.inl y.1
    by_cases h12 : 12 ≤ tW T
    · rw [if_pos h12]
      exact ⟨s, ⟨nI 1, p + n, bad _ hf, hpn, hpn, MP_w hP⟩, Eqm.rf⟩
    · rw [if_neg h12, if_pos h6]
      exact ⟨s, ⟨nI 1, p + n, bad _ hf, hpn, hpn, MP_w hP⟩, Eqm.rf⟩
end MTP
