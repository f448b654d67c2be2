/-! THE MODEL: sums, comparisons, a whole rule -/
section MRW
variable {d E p c m f a i v k w x l B n dp L : Nat} {s s' : mS} {X : aX} {T : aT} {S : aS} {o : Option Nat} {P F : List Nat} {t u0 : Int32}
/-- further terms -/
theorem RM_sumL {r : Nat → aQ} (h : MC X E k s) (hr : RMok o T S E r s (fun s => ev d 249 0 [.inr 67, .inl (nI dp), .inr 0, .inr 0, .inr 0] [] s)) : ∀ n p (φ : aR) (t : Int32), p ≤ E → E ≤ n + p → (∀ w, o = some w → t = φ (envT T S w)) → match pL X E 43 45 r n p φ with
  | .inl f => f ≤ E ∧ ∃ v q, q ≤ E ∧ ev (d + 1) 248 6 [.inr 67, .inl (nI dp), .inl t, .inr 0, .inr 0] [] (mcu s p none) = some (0, v, mcu s q (some f))
  | .inr (q, φ) => p ≤ q ∧ q ≤ E ∧ ∃ v, ev (d + 1) 248 6 [.inr 67, .inl (nI dp), .inl t, .inr 0, .inr 0] [] (mcu s p none) = some (0, v, mcu s q none) ∧ ∀ w, o = some w → v = φ (envT T S w) := by
  have fin : ∀ p t, p ≤ E → ¬ (hd X E p = 43 ∨ hd X E p = 45) → ev (d + 1) 248 6 [.inr 67, .inl (nI dp), .inl t, .inr 0, .inr 0] [] (mcu s p none) = some (0, t, mcu s p none) := fun p t hp hn => by
    rw [E248_6, m_fine, bnd_some, decide_eq_true rfl, if_neg (show ¬ bI true = 0 by decide +kernel), m_here h hp, bnd_some, if_neg (show ¬ hB (hd X E p) = 43 from fun z => by
      have z : hB (hd X E p) = nI 43 := z
      rw [hB_c (by omega) (hd_le' h)] at z
      exact hn (Or.inl z)), m_here h hp, bnd_some, if_pos (show ¬ hB (hd X E p) = 45 from fun z => by
      have z : hB (hd X E p) = nI 45 := z
      rw [hB_c (by omega) (hd_le' h)] at z
      exact hn (Or.inr z)), E248_82]
  intro n
  induction n with
  | zero =>
    intro p φ t hp hEp ht
    have hn : ¬ (hd X E p = 43 ∨ hd X E p = 45) := fun z => by have := hd_lt (X := X) (E := E) (p := p) (by omega); omega
    exact ⟨Nat.le_refl _, hp, t, fin p t hp hn, ht⟩
  | succ n ih =>
    intro p φ t hp hEp ht
    unfold pL
    by_cases hm : hd X E p = 43 ∨ hd X E p = 45
    · have hlt : p < E := hd_lt (X := X) (by omega)
      rw [if_pos hm]
      obtain ⟨b, hb⟩ : ∃ b : Bool, hd X E p = if b = true then 43 else 45 := by
        rcases hm with z | z
        · exact ⟨true, z⟩
        · exact ⟨false, z⟩
      have e31 : ev (d + 1) 248 6 [.inr 67, .inl (nI dp), .inl t, .inr 0, .inr 0] [] (mcu s p none) = ev (d + 1) 248 31 [.inr 67, .inl (nI dp), .inl t, .inr 0, .inr 0] [] (mcu s p none) := by
        rw [E248_6, m_fine, bnd_some, decide_eq_true rfl, if_neg (show ¬ bI true = 0 by decide +kernel), m_here h hp, bnd_some, hb]
        cases b with
        | true => exact if_pos (by decide +kernel)
        | false =>
          rw [if_neg (show ¬ hB (if false = true then 43 else 45) = 43 by decide +kernel), m_here h hp, bnd_some, hb]
          exact if_neg (by decide +kernel)
      have e45 := m_sum31 (d := d) (t := t) (u0 := nI dp) h hlt hb
      have ep : up (mcu s p none) 67 22 (mcu s p none 67 22 + 1) = mcu s (p + 1) none := by
        have e : nI p + 1 = nI (p + 1) := nI_add p 1
        rw [mcu_22, e, mcu_p]
      have stp2 : ∀ v y, ev d 249 0 [.inr 67, .inl (nI dp), .inr 0, .inr 0, .inr 0] [] (mcu s (p + 1) none) = some (0, v, y) → ev (d + 1) 248 6 [.inr 67, .inl (nI dp), .inl t, .inr 0, .inr 0] [] (mcu s p none) = ev (d + 1) 248 6 [.inr 67, .inl (nI dp), .inl (jn (nI (hd X E p)) t v), .inr 0, .inr 0] [] y := fun v y e => by
        rw [e31, e45, E248_45, ep, e, bnd_some, hb]
        cases b with
        | true =>
          rw [if_neg (show ¬ bI true = 0 by decide +kernel), E248_78]
          rfl
        | false =>
          rw [if_pos (show bI false = 0 from rfl)]
          rw [E248_78]
          rfl
      have hr1 := hr (p + 1) hlt
      cases hq : r (p + 1) with
      | inl f =>
        rw [hq] at hr1
        obtain ⟨hf, v, q, hqE, e⟩ := hr1
        refine ⟨hf, jn (nI (hd X E p)) t v, q, hqE, ?_⟩
        rw [stp2 _ _ e]
        exact m_sum6f rfl
      | inr z =>
        obtain ⟨q, ψ⟩ := z
        rw [hq] at hr1
        obtain ⟨hpq, hqE, v, e, hv⟩ := hr1
        dsimp only
        have i0 := ih q (fun e => jn (nI (hd X E p)) (φ e) (ψ e)) (jn (nI (hd X E p)) t v) hqE (by omega) (fun w hw => by rw [ht w hw, hv w hw])
        rw [stp2 _ _ e]
        revert i0
        cases pL X E 43 45 r n q (fun e => jn (nI (hd X E p)) (φ e) (ψ e)) with
        | inl f => exact fun i0 => i0
        | inr z => exact fun i0 => ⟨by have := i0.1; omega, i0.2⟩
    · rw [if_neg hm]
      exact ⟨Nat.le_refl _, hp, t, fin p t hp hm, ht⟩
theorem RM_prod {r : Nat → aQ} (h : MC X E k s) (hE : E ≤ 40) (hr : RMok o T S E r s (fun s => ev d 250 0 [.inr 67, .inl (nI dp), .inr 0, .inr 0] [] s)) : RMok o T S E (pSeq X E 42 47 r) s (fun s => ev (d + 1) 249 0 [.inr 67, .inl (nI dp), .inr 0, .inr 0, .inr 0] [] s) := fun p hp => by
  have hr1 := hr p hp
  unfold pSeq
  have st : ∀ v y, ev d 250 0 [.inr 67, .inl (nI dp), .inr 0, .inr 0] [] (mcu s p none) = some (0, v, y) → ev (d + 1) 249 0 [.inr 67, .inl (nI dp), .inr 0, .inr 0, .inr 0] [] (mcu s p none) = ev (d + 1) 249 6 [.inr 67, .inl (nI dp), .inl v, .inr 0, .inr 0] [] y := fun v y e => by
    rw [E249_0, e, bnd_some]
  cases hq : r p with
  | inl f =>
    rw [hq] at hr1
    obtain ⟨hf, v, q, hqE, e⟩ := hr1
    exact ⟨hf, v, q, hqE, (st _ _ e).trans (m_prod6f rfl)⟩
  | inr z =>
    obtain ⟨q, φ⟩ := z
    rw [hq] at hr1
    obtain ⟨hpq, hqE, v, e, hv⟩ := hr1
    have i0 := RM_prodL h hr 40 q φ v hqE (by omega) hv
    dsimp only
    rw [st _ _ e]
    revert i0
    cases pL X E 42 47 r 40 q φ with
    | inl f => exact fun i0 => i0
    | inr z => exact fun i0 => ⟨Nat.le_trans hpq i0.1, i0.2⟩
theorem RM_sum {r : Nat → aQ} (h : MC X E k s) (hE : E ≤ 40) (hr : RMok o T S E r s (fun s => ev d 249 0 [.inr 67, .inl (nI dp), .inr 0, .inr 0, .inr 0] [] s)) : RMok o T S E (pSeq X E 43 45 r) s (fun s => ev (d + 1) 248 0 [.inr 67, .inl (nI dp), .inr 0, .inr 0, .inr 0] [] s) := fun p hp => by
  have hr1 := hr p hp
  unfold pSeq
  have st : ∀ v y, ev d 249 0 [.inr 67, .inl (nI dp), .inr 0, .inr 0, .inr 0] [] (mcu s p none) = some (0, v, y) → ev (d + 1) 248 0 [.inr 67, .inl (nI dp), .inr 0, .inr 0, .inr 0] [] (mcu s p none) = ev (d + 1) 248 6 [.inr 67, .inl (nI dp), .inl v, .inr 0, .inr 0] [] y := fun v y e => by
    rw [E248_0, e, bnd_some]
  cases hq : r p with
  | inl f =>
    rw [hq] at hr1
    obtain ⟨hf, v, q, hqE, e⟩ := hr1
    exact ⟨hf, v, q, hqE, (st _ _ e).trans (m_sum6f rfl)⟩
  | inr z =>
    obtain ⟨q, φ⟩ := z
    rw [hq] at hr1
    obtain ⟨hpq, hqE, v, e, hv⟩ := hr1
    have i0 := RM_sumL h hr 40 q φ v hqE (by omega) hv
    dsimp only
    rw [st _ _ e]
    revert i0
    cases pL X E 43 45 r 40 q φ with
    | inl f => exact fun i0 => i0
    | inr z => exact fun i0 => ⟨Nat.le_trans hpq i0.1, i0.2⟩
end MRW
