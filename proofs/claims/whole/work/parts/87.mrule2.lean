/-! THE MODEL: signs before a thing, products, sums, comparisons -/
section MRV
variable {d E p c m f a i v k w x l B n dp L : Nat} {s s' : mS} {X : aX} {T : aT} {S : aS} {o : Option Nat} {P F : List Nat} {t u0 : Int32}
theorem RM_neg {r : Nat → aQ} (h : RME o T S B X E k s) (hdp : dp ≤ 4) (hr : ∀ d, dp < 4 → RMok o T S E r s (fun s => ev (d + L + 2) 247 0 [.inr 67, .inl (nI (dp + 1)), .inr 0] [] s)) : ∀ n d p, p ≤ E → E ≤ n + p → match pNeg X E (pThing X E (decide (dp < 4)) r) n p with
  | .inl f => f ≤ E ∧ ∃ v q, q ≤ E ∧ ev (d + n + L + 2 + 1) 250 0 [.inr 67, .inl (nI dp), .inr 0, .inr 0] [] (mcu s p none) = some (0, v, mcu s q (some f))
  | .inr (q, φ) => p ≤ q ∧ q ≤ E ∧ ∃ v, ev (d + n + L + 2 + 1) 250 0 [.inr 67, .inl (nI dp), .inr 0, .inr 0] [] (mcu s p none) = some (0, v, mcu s q none) ∧ ∀ w, o = some w → v = φ (envT T S w) := by
  have hx := h.2.2.1
  intro n
  induction n with
  | zero =>
    intro d p hp hEp
    have hm : hd X E p ≠ 45 := fun z => by have := hd_lt (X := X) (E := E) (p := p) (by omega); omega
    exact RM_thing0 (d := d + 0 + L) h hdp (fun z => hr (d + 0) z) hp hm
  | succ n ih =>
    intro d p hp hEp
    by_cases hm : hd X E p = 45
    · have hlt : p < E := hd_lt (X := X) (by omega)
      have i0 := ih d (p + 1) hlt (by omega)
      unfold pNeg
      rw [if_pos hm]
      have e0 : ev (d + n + L + 2 + 1) 241 0 [.inr 67, .inl 45] [] (mcu s p none) = some (0, nI 1, mcu s (p + 1) none) := m_passes1 (d := d + n + L + 2) (c := 45) hx hp (by omega) hm
      have st : ∀ v y, ev (d + n + L + 2 + 1) 250 0 [.inr 67, .inl (nI dp), .inr 0, .inr 0] [] (mcu s (p + 1) none) = some (0, v, y) → ev (d + (n + 1) + L + 2 + 1) 250 0 [.inr 67, .inl (nI dp), .inr 0, .inr 0] [] (mcu s p none) = some (0, -v, y) := fun v y e => by
        rw [show d + (n + 1) + L + 2 + 1 = d + n + L + 2 + 1 + 1 by omega, E250_0, e0, bnd_some, if_neg (show ¬ nI 1 = 0 by decide +kernel), e, bnd_some]
      cases hq : pNeg X E (pThing X E (decide (dp < 4)) r) n (p + 1) with
      | inl f =>
        rw [hq] at i0
        obtain ⟨hf, v, q, hqE, e⟩ := i0
        exact ⟨hf, -v, q, hqE, st _ _ e⟩
      | inr z =>
        obtain ⟨q, φ⟩ := z
        rw [hq] at i0
        obtain ⟨hpq, hqE, v, e, hv⟩ := i0
        exact ⟨by omega, hqE, -v, st _ _ e, fun w hw => by rw [hv w hw]⟩
    · unfold pNeg
      rw [if_neg hm]
      exact RM_thing0 (d := d + (n + 1) + L) h hdp (fun z => hr (d + (n + 1)) z) hp hm
theorem m_prod31 {b : Bool} (h : MC X E k s) (hp : p < E) (ho : hd X E p = if b = true then 42 else 47) : ev (d + 1) 249 31 [.inr 67, .inl u0, .inl t, .inr 0, .inr 0] [] (mcu s p none) = ev (d + 1) 249 45 [.inr 67, .inl u0, .inl t, .inr 0, .inr 0] [.inl (bI b)] (mcu s p none) := by
  rw [E249_31, m_here h (Nat.le_of_lt hp), bnd_some, ho]
  cases b with
  | true => exact if_neg (by decide +kernel)
  | false => exact if_pos (by decide +kernel)
theorem m_sum31 {b : Bool} (h : MC X E k s) (hp : p < E) (ho : hd X E p = if b = true then 43 else 45) : ev (d + 1) 248 31 [.inr 67, .inl u0, .inl t, .inr 0, .inr 0] [] (mcu s p none) = ev (d + 1) 248 45 [.inr 67, .inl u0, .inl t, .inr 0, .inr 0] [.inl (bI b)] (mcu s p none) := by
  rw [E248_31, m_here h (Nat.le_of_lt hp), bnd_some, ho]
  cases b with
  | true => exact if_neg (by decide +kernel)
  | false => exact if_pos (by decide +kernel)
theorem m_prod6f {y : mS} (hy : y = mcu s p (some f)) : ev (d + 1) 249 6 [.inr 67, .inl u0, .inl t, .inr 0, .inr 0] [] y = some (0, t, y) := by
  subst hy
  rw [E249_6, m_fine, bnd_some, decide_eq_false (by simp), if_pos (show bI false = 0 from rfl), E249_91]
theorem m_sum6f {y : mS} (hy : y = mcu s p (some f)) : ev (d + 1) 248 6 [.inr 67, .inl u0, .inl t, .inr 0, .inr 0] [] y = some (0, t, y) := by
  subst hy
  rw [E248_6, m_fine, bnd_some, decide_eq_false (by simp), if_pos (show bI false = 0 from rfl), E248_82]
/-- further factors -/
theorem RM_prodL {r : Nat → aQ} (h : MC X E k s) (hr : RMok o T S E r s (fun s => ev d 250 0 [.inr 67, .inl (nI dp), .inr 0, .inr 0] [] s)) : ∀ n p (φ : aR) (t : Int32), p ≤ E → E ≤ n + p → (∀ w, o = some w → t = φ (envT T S w)) → match pL X E 42 47 r n p φ with
  | .inl f => f ≤ E ∧ ∃ v q, q ≤ E ∧ ev (d + 1) 249 6 [.inr 67, .inl (nI dp), .inl t, .inr 0, .inr 0] [] (mcu s p none) = some (0, v, mcu s q (some f))
  | .inr (q, φ) => p ≤ q ∧ q ≤ E ∧ ∃ v, ev (d + 1) 249 6 [.inr 67, .inl (nI dp), .inl t, .inr 0, .inr 0] [] (mcu s p none) = some (0, v, mcu s q none) ∧ ∀ w, o = some w → v = φ (envT T S w) := by
  have fin : ∀ p t, p ≤ E → ¬ (hd X E p = 42 ∨ hd X E p = 47) → ev (d + 1) 249 6 [.inr 67, .inl (nI dp), .inl t, .inr 0, .inr 0] [] (mcu s p none) = some (0, t, mcu s p none) := fun p t hp hn => by
    rw [E249_6, m_fine, bnd_some, decide_eq_true rfl, if_neg (show ¬ bI true = 0 by decide +kernel), m_here h hp, bnd_some, if_neg (show ¬ hB (hd X E p) = 42 from fun z => by
      have z : hB (hd X E p) = nI 42 := z
      rw [hB_c (by omega) (hd_le' h)] at z
      exact hn (Or.inl z)), m_here h hp, bnd_some, if_pos (show ¬ hB (hd X E p) = 47 from fun z => by
      have z : hB (hd X E p) = nI 47 := z
      rw [hB_c (by omega) (hd_le' h)] at z
      exact hn (Or.inr z)), E249_91]
  intro n
  induction n with
  | zero =>
    intro p φ t hp hEp ht
    have hn : ¬ (hd X E p = 42 ∨ hd X E p = 47) := fun z => by have := hd_lt (X := X) (E := E) (p := p) (by omega); omega
    exact ⟨Nat.le_refl _, hp, t, fin p t hp hn, ht⟩
  | succ n ih =>
    intro p φ t hp hEp ht
    unfold pL
    by_cases hm : hd X E p = 42 ∨ hd X E p = 47
    · have hlt : p < E := hd_lt (X := X) (by omega)
      rw [if_pos hm]
      obtain ⟨b, hb⟩ : ∃ b : Bool, hd X E p = if b = true then 42 else 47 := by
        rcases hm with z | z
        · exact ⟨true, z⟩
        · exact ⟨false, z⟩
      have e31 : ev (d + 1) 249 6 [.inr 67, .inl (nI dp), .inl t, .inr 0, .inr 0] [] (mcu s p none) = ev (d + 1) 249 31 [.inr 67, .inl (nI dp), .inl t, .inr 0, .inr 0] [] (mcu s p none) := by
        rw [E249_6, m_fine, bnd_some, decide_eq_true rfl, if_neg (show ¬ bI true = 0 by decide +kernel), m_here h hp, bnd_some, hb]
        cases b with
        | true => exact if_pos (by decide +kernel)
        | false =>
          rw [if_neg (show ¬ hB (if false = true then 42 else 47) = 42 by decide +kernel), m_here h hp, bnd_some, hb]
          exact if_neg (by decide +kernel)
      have e45 := m_prod31 (d := d) (t := t) (u0 := nI dp) h hlt hb
      have ep : up (mcu s p none) 67 22 (mcu s p none 67 22 + 1) = mcu s (p + 1) none := by
        have e : nI p + 1 = nI (p + 1) := nI_add p 1
        rw [mcu_22, e, mcu_p]
      have stp2 : ∀ v y, ev d 250 0 [.inr 67, .inl (nI dp), .inr 0, .inr 0] [] (mcu s (p + 1) none) = some (0, v, y) → ev (d + 1) 249 6 [.inr 67, .inl (nI dp), .inl t, .inr 0, .inr 0] [] (mcu s p none) = ev (d + 1) 249 6 [.inr 67, .inl (nI dp), .inl (jn (nI (hd X E p)) t v), .inr 0, .inr 0] [] y := fun v y e => by
        rw [e31, e45, E249_45, ep, e, bnd_some, hb]
        cases b with
        | true =>
          rw [if_neg (show ¬ bI true = 0 by decide +kernel), E249_87]
          rfl
        | false =>
          rw [if_pos (show bI false = 0 from rfl)]
          have ej : jn (nI (if false = true then 42 else 47)) t v = if v = nI 0 then nI 0 else t / v := rfl
          rw [ej]
          by_cases hz : v = 0
          · rw [if_neg (not_not_intro hz), if_pos (show v = nI 0 from hz), E249_87]
            rfl
          · rw [if_pos hz, if_neg hz, if_neg (show ¬ v = nI 0 from hz), E249_87]
      have hr1 := hr (p + 1) hlt
      cases hq : r (p + 1) with
      | inl f =>
        rw [hq] at hr1
        obtain ⟨hf, v, q, hqE, e⟩ := hr1
        refine ⟨hf, jn (nI (hd X E p)) t v, q, hqE, ?_⟩
        rw [stp2 _ _ e]
        exact m_prod6f rfl
      | inr z =>
        obtain ⟨q, ψ⟩ := z
        rw [hq] at hr1
        obtain ⟨hpq, hqE, v, e, hv⟩ := hr1
        dsimp only
        have i0 := ih q (fun e => jn (nI (hd X E p)) (φ e) (ψ e)) (jn (nI (hd X E p)) t v) hqE (by omega) (fun w hw => by rw [ht w hw, hv w hw])
        rw [stp2 _ _ e]
        revert i0
        cases pL X E 42 47 r n q (fun e => jn (nI (hd X E p)) (φ e) (ψ e)) with
        | inl f => exact fun i0 => i0
        | inr z => exact fun i0 => ⟨by have := i0.1; omega, i0.2⟩
    · rw [if_neg hm]
      exact ⟨Nat.le_refl _, hp, t, fin p t hp hm, ht⟩
end MRV
