/-! THE MODEL: what a rule's text comes to, for a wall -/
def RMok (o : Option Nat) (T : aT) (S : aS) (E : Nat) (Q : Nat → aQ) (s : mS) (c : mS → Option mR) : Prop := ∀ p, p ≤ E → match Q p with
  | .inl f => f ≤ E ∧ ∃ v q, q ≤ E ∧ c (mcu s p none) = some (0, v, mcu s q (some f))
  | .inr (q, φ) => p ≤ q ∧ q ≤ E ∧ ∃ v, c (mcu s p none) = some (0, v, mcu s q none) ∧ ∀ w, o = some w → v = φ (envT T S w)
/-- what the model knows while it reads a rule -/
def RME (o : Option Nat) (T : aT) (S : aS) (B : Nat) (X : aX) (E k : Nat) (s : mS) : Prop := tOk T ∧ sOk T S B ∧ MC X E k s ∧ MT T s ∧ MSt T S s ∧ E ≤ 40 ∧ match o with
  | none => s 67 28 = -nI 1
  | some w => s 67 28 = nI w ∧ w < tN T ∧ ∃ x, sH S w = some x
theorem isTh_b : ∀ h, h < 257 → isTh (nI h) = true → h < 128 ∧ hB h = nI h ∧ (h = 105 ∨ h = 107 ∨ h = 109 ∨ h = 110 ∨ h = 113 ∨ h = 115 ∨ h = 116 ∨ h = 117 ∨ h = 119) := by decide +kernel
section MRU
variable {d E p c m f a i v k w x l B n dp L : Nat} {s s' : mS} {X : aX} {T : aT} {S : aS} {o : Option Nat} {P F : List Nat} {t : Int32}
theorem m_letterOf (ht : tOk T) (ho : sOk T S B) (hT : MT T s) (h : MSt T S s) (hw : w < tN T) (hn : sH S w = some x) : ev (d + 1 + 1) 251 0 [.inr 67, .inl t, .inl (nI w)] [] s = some (0, envT T S w t, s) := by
  have hN := ht.2.1
  have hW := ht.1
  have hx := (wOk_s (ho.1 w) hn).2.1
  obtain ⟨a1, a2, a3, a4⟩ := h.1 w hw
  rw [hn, oc_some] at a1
  obtain ⟨b1, b2, b3, b4⟩ := hT.2.2.1 x hx
  obtain ⟨c1, c2⟩ := hT.2.2.2 w hw
  have e1 := m_lacking (d := d) ht ho hT h hw
  have e2 := m_allLeft (d := d + 1) h
  have hi : inb (nI w) 8 = true := n_inb (by omega) (by omega)
  have hi2 : inb (nI x) 12 = true := n_inb (by omega) (by omega)
  rw [E251_0, n_ix (show w < 2147483648 by omega), a1, a2, a3, c1, c2, n_ix (show x < 2147483648 by omega), b1, b2, e1, e2, if_pos hi, if_pos hi, if_pos hi, if_pos hi, if_pos hi, if_pos hi, if_pos hi2, if_pos hi2]
  unfold envT lenO senO
  rw [hn]
  simp only [bnd_some]
  by_cases g : t = nI 105
  · rw [if_pos g]; exact if_pos g
  rw [if_neg g, if_neg (show ¬ t = 105 from g)]
  by_cases g : t = nI 109
  · rw [if_pos g]; exact if_pos g
  rw [if_neg g, if_neg (show ¬ t = 109 from g)]
  by_cases g : t = nI 110
  · rw [if_pos g]; exact if_pos g
  rw [if_neg g, if_neg (show ¬ t = 110 from g)]
  by_cases g : t = nI 113
  · rw [if_pos g]; exact if_pos g
  rw [if_neg g, if_neg (show ¬ t = 113 from g)]
  by_cases g : t = nI 115
  · rw [if_pos g]; exact if_pos g
  rw [if_neg g, if_neg (show ¬ t = 115 from g)]
  by_cases g : t = nI 116
  · rw [if_pos g]; exact if_pos g
  rw [if_neg g, if_neg (show ¬ t = 116 from g)]
  by_cases g : t = nI 117
  · rw [if_pos g]; exact if_pos g
  rw [if_neg g, if_neg (show ¬ t = 117 from g)]
  by_cases g : t = nI 119
  · rw [if_pos g]; exact if_pos g
  rw [if_neg g, if_neg (show ¬ t = 119 from g)]
theorem RME_cu (h : RME o T S B X E k s) {q : Nat} {w : Option Nat} : MT T (mcu s q w) ∧ MSt T S (mcu s q w) := ⟨MT_q h.2.2.2.1 mcu_q (by decide) (by decide), MSt_q h.2.2.2.2.1 mcu_q (by decide) (by decide)⟩
/-- a sign of a rule -/
theorem m_sign152 (h : RME o T S B X E k s) (hp : p ≤ E) : ∃ v, ev (d + 1 + 1 + 1) 250 152 [.inr 67, .inr 0, .inl t, .inr 0] [] (mcu s p none) = some (0, v, mcu s (p + 1) none) ∧ ∀ w, o = some w → v = envT T S w t := by
  have e22 : up (mcu s p none) 67 22 (mcu s p none 67 22 + 1) = mcu s (p + 1) none := by
    have e : nI p + 1 = nI (p + 1) := nI_add p 1
    rw [mcu_22, e, mcu_p]
  have e28 : mcu s (p + 1) none 67 28 = s 67 28 := mcu_f (by decide) (by decide)
  rw [E250_152, e22, e28]
  cases o with
  | none =>
    have h28 : s 67 28 = -nI 1 := h.2.2.2.2.2.2
    rw [h28, if_neg (show ¬ ¬ -nI 1 = -1 from not_not_intro rfl), E250_183]
    exact ⟨_, rfl, fun w hw => by cases hw⟩
  | some w =>
    obtain ⟨h28, hw, x, hn⟩ := h.2.2.2.2.2.2
    have hN := h.1.2.1
    obtain ⟨g1, g2⟩ := RME_cu h (q := p + 1) (w := none)
    have ne : ¬ nI w = -1 := fun z => by
      have := nneg_f (a := w) (b := 1) (by omega) (by omega) (by omega)
      exact cast this z
    rw [h28, if_pos ne, m_letterOf h.1 h.2.1 g1 g2 hw hn, bnd_some, E250_183]
    exact ⟨_, rfl, fun w' hw' => by cases hw'; rfl⟩
/-- a thing, but for signs before it -/
theorem RM_thing0 {r : Nat → aQ} (h : RME o T S B X E k s) (hdp : dp ≤ 4) (hr : dp < 4 → RMok o T S E r s (fun s => ev (d + 2) 247 0 [.inr 67, .inl (nI (dp + 1)), .inr 0] [] s)) (hp : p ≤ E) (hm : hd X E p ≠ 45) : match pThing X E (decide (dp < 4)) r p with
  | .inl f => f ≤ E ∧ ∃ v q, q ≤ E ∧ ev (d + 2 + 1) 250 0 [.inr 67, .inl (nI dp), .inr 0, .inr 0] [] (mcu s p none) = some (0, v, mcu s q (some f))
  | .inr (q, φ) => p ≤ q ∧ q ≤ E ∧ ∃ v, ev (d + 2 + 1) 250 0 [.inr 67, .inl (nI dp), .inr 0, .inr 0] [] (mcu s p none) = some (0, v, mcu s q none) ∧ ∀ w, o = some w → v = φ (envT T S w) := by
  have hx := h.2.2.1
  have hE := h.2.2.2.2.2.1
  have hle := hd_le' (p := p) hx
  have e0 : ev (d + 2) 241 0 [.inr 67, .inl (nI 45)] [] (mcu s p none) = some (0, nI 0, mcu s p none) := m_passes0 (d := d + 1) hx hp (by omega) (Or.inr hm)
  have e1 := m_fine (d := d + 2) (s := s) (p := p) (w := none)
  have e2 := m_here (d := d + 2) (w := none) hx hp
  have n10 : ¬ bI true = (0 : Int32) := by decide +kernel
  have st : ev (d + 2 + 1) 250 0 [.inr 67, .inl (nI dp), .inr 0, .inr 0] [] (mcu s p none) = (if ¬ hB (hd X E p) = 40 then ev (d + 2 + 1) 250 67 [.inr 67, .inr 0, .inl (hB (hd X E p)), .inr 0] [] (mcu s p none) else (if 4 ≤ nI dp then ev (d + 2 + 1) 250 67 [.inr 67, .inr 0, .inl (hB (hd X E p)), .inr 0] [] (mcu s p none) else bnd (ev (d + 2) 247 0 [.inr 67, .inl (nI (dp + 1)), .inr 0] [] (mcu s (p + 1) none)) (fun v4 s4 => bnd (ev (d + 2) 242 0 [.inr 67, .inl 41] [] s4) (fun _ s5 => some (0, v4, s5))))) := by
    rw [E250_0]
    have e0' : ev (d + 2) 241 0 [.inr 67, .inl 45] [] (mcu s p none) = some (0, nI 0, mcu s p none) := e0
    have e5 : nI p + 1 = nI (p + 1) := nI_add p 1
    have e6 : nI dp + 1 = nI (dp + 1) := nI_add dp 1
    rw [e0', bnd_some, if_pos (show nI 0 = 0 from rfl), e1, bnd_some, decide_eq_true rfl, if_pos n10, e2, bnd_some, mcu_22, e5, mcu_p, e6]
  have s67 : ∀ (z : isD (hd X E p) = false) , ev (d + 2 + 1) 250 67 [.inr 67, .inr 0, .inl (hB (hd X E p)), .inr 0] [] (mcu s p none) = (if isTh (nI (hd X E p)) = true then ev (d + 2 + 1) 250 152 [.inr 67, .inr 0, .inl (hB (hd X E p)), .inr 0] [] (mcu s p none) else some (0, nI 0, mcu s p (some p))) := fun z => by
    have e3 : ev (d + 2) 228 0 [.inl (hB (hd X E p)), .inl 48, .inl 57] [] (mcu s p none) = some (0, bI false, mcu s p none) := by
      have := m_digit (d := d + 2) (p := p) (s' := mcu s p none) hx
      rw [z] at this
      exact this
    rw [E250_67, e3, bnd_some, if_pos (show bI false = 0 from rfl)]
    cases hth : isTh (nI (hd X E p)) with
    | true =>
      obtain ⟨b1, b2, b3⟩ := isTh_b _ (by omega) hth
      rw [if_pos rfl, b2]
      generalize hd X E p = g at b3
      rcases b3 with rfl | rfl | rfl | rfl | rfl | rfl | rfl | rfl | rfl
      · exact if_pos rfl
      · exact (if_neg (by decide +kernel)).trans ((if_neg (by decide +kernel)).trans ((if_neg (by decide +kernel)).trans ((if_neg (by decide +kernel)).trans ((if_neg (by decide +kernel)).trans ((if_neg (by decide +kernel)).trans ((if_neg (by decide +kernel)).trans ((if_neg (by decide +kernel)).trans (if_pos rfl))))))))
      · exact (if_neg (by decide +kernel)).trans ((if_neg (by decide +kernel)).trans ((if_neg (by decide +kernel)).trans (if_pos rfl)))
      · exact (if_neg (by decide +kernel)).trans ((if_neg (by decide +kernel)).trans (if_pos rfl))
      · exact (if_neg (by decide +kernel)).trans ((if_neg (by decide +kernel)).trans ((if_neg (by decide +kernel)).trans ((if_neg (by decide +kernel)).trans ((if_neg (by decide +kernel)).trans (if_pos rfl)))))
      · exact (if_neg (by decide +kernel)).trans ((if_neg (by decide +kernel)).trans ((if_neg (by decide +kernel)).trans ((if_neg (by decide +kernel)).trans ((if_neg (by decide +kernel)).trans ((if_neg (by decide +kernel)).trans ((if_neg (by decide +kernel)).trans (if_pos rfl)))))))
      · exact (if_neg (by decide +kernel)).trans ((if_neg (by decide +kernel)).trans ((if_neg (by decide +kernel)).trans ((if_neg (by decide +kernel)).trans (if_pos rfl))))
      · exact (if_neg (by decide +kernel)).trans ((if_neg (by decide +kernel)).trans ((if_neg (by decide +kernel)).trans ((if_neg (by decide +kernel)).trans ((if_neg (by decide +kernel)).trans ((if_neg (by decide +kernel)).trans (if_pos rfl))))))
      · exact (if_neg (by decide +kernel)).trans (if_pos rfl)
    | false =>
      have no : ∀ c, c < 128 → isTh (nI c) = true → ¬ hB (hd X E p) = nI c := fun c hc hth2 z => by
        rw [hB_c hc hle] at z
        rw [z, hth2] at hth
        cases hth
      rw [if_neg (show ¬ (false = true) by simp), if_neg (show ¬ hB (hd X E p) = 105 from no 105 (by omega) rfl), if_neg (show ¬ hB (hd X E p) = 119 from no 119 (by omega) rfl), if_neg (show ¬ hB (hd X E p) = 110 from no 110 (by omega) rfl), if_neg (show ¬ hB (hd X E p) = 109 from no 109 (by omega) rfl), if_neg (show ¬ hB (hd X E p) = 116 from no 116 (by omega) rfl), if_neg (show ¬ hB (hd X E p) = 113 from no 113 (by omega) rfl), if_neg (show ¬ hB (hd X E p) = 117 from no 117 (by omega) rfl), if_neg (show ¬ hB (hd X E p) = 115 from no 115 (by omega) rfl), if_neg (show ¬ hB (hd X E p) = 107 from no 107 (by omega) rfl), mcu_22, m_fault (d := d + 1) (by omega), bnd_some]
      rfl
  unfold pThing
  by_cases hD : isD (hd X E p) = true
  · rw [if_pos hD]
    have hb := of_decide_eq_true hD
    have hlt := isD_lt hD
    have l1 := dg_le (X := X) (m := 3) (v := 0) hp
    have l2 : p + 1 ≤ (dg X E 3 p 0).2 := dg_1 (m := 2) (v := 0) hp hD
    have l3 := dg_v (X := X) (E := E) (m := 3) (p := p) (v := 0) (k := 0) (by decide)
    refine ⟨l1.1, l1.2, _, ?_, fun w _ => rfl⟩
    have hn := m_number (d := d) (m := 3) (lo := 0) (hi := 999) hx hp (by omega) (by omega) (by omega) (by omega)
    rw [if_neg (by omega), if_pos ⟨Nat.zero_le _, by omega⟩] at hn
    have e3 : ev (d + 2) 228 0 [.inl (hB (hd X E p)), .inl 48, .inl 57] [] (mcu s p none) = some (0, bI true, mcu s p none) := by
      have := m_digit (d := d + 2) (p := p) (s' := mcu s p none) hx
      rw [hD] at this
      exact this
    have n40 : ¬ hB (hd X E p) = 40 := fun z => by
      have z : hB (hd X E p) = nI 40 := z
      rw [hB_c (by omega) hle] at z
      omega
    rw [st, if_pos n40, E250_67, e3, bnd_some, if_neg (show ¬ bI true = 0 from n10)]
    have hn : ev (d + 2) 243 0 [.inr 67, .inl 3, .inl 0, .inl 999, .inr 0, .inr 0] [] (mcu s p none) = some (0, nI (dg X E 3 p 0).1, mcu s (dg X E 3 p 0).2 none) := hn
    rw [hn, bnd_some]
  rw [if_neg hD]
  have hD' : isD (hd X E p) = false := by simpa using hD
  have s67 := s67 hD'
  by_cases hth : isTh (nI (hd X E p)) = true
  · rw [if_pos hth]
    rw [if_pos hth] at s67
    obtain ⟨b1, b2, b3⟩ := isTh_b _ (by omega) hth
    have hlt : p < E := hd_lt (X := X) (by omega)
    obtain ⟨v, e, hv⟩ := m_sign152 (d := d) (t := hB (hd X E p)) h hp
    refine ⟨by omega, hlt, v, ?_, fun w hw => ?_⟩
    · have n40 : ¬ hB (hd X E p) = 40 := fun z => by
        have z : hB (hd X E p) = nI 40 := z
        rw [hB_c (by omega) hle] at z
        omega
      rw [st, if_pos n40, s67]
      exact e
    · rw [hv w hw, b2]
  rw [if_neg hth]
  rw [if_neg hth] at s67
  by_cases h40 : hd X E p = 40 ∧ decide (dp < 4) = true
  · rw [if_pos h40]
    have hdp4 := of_decide_eq_true h40.2
    have hlt : p < E := hd_lt (X := X) (by omega)
    have is40 : hB (hd X E p) = 40 := by show _ = nI 40; rw [hB_c (by omega) hle]; exact h40.1
    have nle : ¬ (4 : Int32) ≤ nI dp := (show ¬ nI 4 ≤ nI dp from nI_ge hdp4 (by omega))
    rw [st, if_neg (not_not_intro is40), if_neg nle]
    have hr1 := hr hdp4 (p + 1) hlt
    cases hq : r (p + 1) with
    | inl f =>
      rw [hq] at hr1
      obtain ⟨hf, v, q, hqE, e⟩ := hr1
      refine ⟨hf, v, q, hqE, ?_⟩
      dsimp only at e
      have e4 : ev (d + 2) 242 0 [.inr 67, .inl 41] [] (mcu s q (some f)) = some (0, nI 0, mcu s q (some f)) := m_need0 (d := d) (c := 41) hx hqE (by omega) (by omega) (Or.inl (by simp))
      rw [e, bnd_some, e4, bnd_some]
    | inr z =>
      obtain ⟨q, φ⟩ := z
      rw [hq] at hr1
      obtain ⟨hpq, hqE, v, e, hv⟩ := hr1
      dsimp only at e
      by_cases h41 : hd X E q = 41
      · dsimp only
        rw [if_pos h41]
        have hlt2 : q < E := hd_lt (X := X) (by omega)
        refine ⟨by omega, hlt2, v, ?_, hv⟩
        have e4 : ev (d + 2) 242 0 [.inr 67, .inl 41] [] (mcu s q none) = some (0, nI 0, mcu s (q + 1) none) := m_need1 (d := d) (c := 41) hx hqE (by omega) h41
        rw [e, bnd_some, e4, bnd_some]
      · dsimp only
        rw [if_neg h41]
        refine ⟨hqE, v, q, hqE, ?_⟩
        have e4 : ev (d + 2) 242 0 [.inr 67, .inl 41] [] (mcu s q none) = some (0, nI 0, mcu s q (some q)) := m_need0 (d := d) (c := 41) hx hqE (by omega) (by omega) (Or.inr h41)
        rw [e, bnd_some, e4, bnd_some]
  · rw [if_neg h40]
    refine ⟨hp, nI 0, p, hp, ?_⟩
    rw [st, s67]
    by_cases z1 : hB (hd X E p) = 40
    · have z2 : hd X E p = 40 := by rw [← hB_c (c := 40) (by omega) hle]; exact z1
      have z3 : ¬ dp < 4 := fun z => h40 ⟨z2, decide_eq_true z⟩
      rw [if_neg (not_not_intro z1), if_pos (show (4 : Int32) ≤ nI dp from (show nI 4 ≤ nI dp from nI_le (by omega) (by omega)))]
    · rw [if_pos z1]
end MRU
