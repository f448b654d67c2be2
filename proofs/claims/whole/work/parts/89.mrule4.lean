/-! THE MODEL: comparisons, a whole rule, the rule for a wall -/
section MRX
variable {d E p c m f a i v k w x l B n dp L : Nat} {s s' : mS} {X : aX} {T : aT} {S : aS} {o : Option Nat} {P F : List Nat} {t u0 : Int32} {φ : aR}
theorem RM_cmp {r : Nat → aQ} (h : MC X E k s) (hr : RMok o T S E r s (fun s => ev (d + 1) 248 0 [.inr 67, .inl (nI dp), .inr 0, .inr 0, .inr 0] [] s)) : RMok o T S E (pCmp X E r) s (fun s => ev (d + 1 + 1) 247 0 [.inr 67, .inl (nI dp), .inr 0] [] s) := fun p hp => by
  have hr1 := hr p hp
  unfold pCmp
  have z0 : nI 0 = (0 : Int32) := rfl
  have z1 : ¬ nI 1 = (0 : Int32) := by decide +kernel
  have no : ∀ q c w, q ≤ E → c < 128 → (w ≠ none ∨ hd X E q ≠ c) → ev (d + 1) 241 0 [.inr 67, .inl (nI c)] [] (mcu s q w) = some (0, nI 0, mcu s q w) := fun q c w hq hc hh => m_passes0 (d := d) h hq hc hh
  cases hq : r p with
  | inl f =>
    rw [hq] at hr1
    obtain ⟨hf, v, q, hqE, e⟩ := hr1
    dsimp only at e
    have p1 : ev (d + 1) 241 0 [.inr 67, .inl 60] [] (mcu s q (some f)) = some (0, nI 0, mcu s q (some f)) := no q 60 _ hqE (by omega) (Or.inl (by simp))
    have p2 : ev (d + 1) 241 0 [.inr 67, .inl 62] [] (mcu s q (some f)) = some (0, nI 0, mcu s q (some f)) := no q 62 _ hqE (by omega) (Or.inl (by simp))
    have p3 : ev (d + 1) 241 0 [.inr 67, .inl 61] [] (mcu s q (some f)) = some (0, nI 0, mcu s q (some f)) := no q 61 _ hqE (by omega) (Or.inl (by simp))
    refine ⟨hf, v, q, hqE, ?_⟩
    show ev (d + 1 + 1) 247 0 [.inr 67, .inl (nI dp), .inr 0] [] (mcu s p none) = _
    rw [E247_0, e, bnd_some, p1, bnd_some, if_pos z0, p2, bnd_some, if_pos z0, p3, bnd_some, if_pos z0]
  | inr z =>
    obtain ⟨q, φ⟩ := z
    rw [hq] at hr1
    obtain ⟨hpq, hqE, v, e, hv⟩ := hr1
    dsimp only at e ⊢
    by_cases hm : hd X E q = 60 ∨ hd X E q = 62 ∨ hd X E q = 61
    · rw [if_pos hm]
      have hlt : q < E := hd_lt (X := X) (by omega)
      have hr2 := hr (q + 1) hlt
      have go : ∀ v2 y, ev (d + 1) 248 0 [.inr 67, .inl (nI dp), .inr 0, .inr 0, .inr 0] [] (mcu s (q + 1) none) = some (0, v2, y) → ev (d + 1 + 1) 247 0 [.inr 67, .inl (nI dp), .inr 0] [] (mcu s p none) = some (0, jn (nI (hd X E q)) v v2, y) := fun v2 y e2 => by
        rw [E247_0, e, bnd_some]
        by_cases h1 : hd X E q = 60
        · have p1 : ev (d + 1) 241 0 [.inr 67, .inl 60] [] (mcu s q none) = some (0, nI 1, mcu s (q + 1) none) := m_passes1 (d := d) (c := 60) h hqE (by omega) h1
          have ej : jn (nI (hd X E q)) v v2 = if v2 ≤ v then nI 0 else nI 1 := by rw [h1]; rfl
          rw [p1, bnd_some, if_neg z1, e2, bnd_some, E247_29, E247_29, ej]
          by_cases hc : v2 ≤ v
          · rw [if_pos hc, if_pos hc]; rfl
          · rw [if_neg hc, if_neg hc]; rfl
        have p1 : ev (d + 1) 241 0 [.inr 67, .inl 60] [] (mcu s q none) = some (0, nI 0, mcu s q none) := no q 60 _ hqE (by omega) (Or.inr h1)
        rw [p1, bnd_some, if_pos z0]
        by_cases h2 : hd X E q = 62
        · have p2 : ev (d + 1) 241 0 [.inr 67, .inl 62] [] (mcu s q none) = some (0, nI 1, mcu s (q + 1) none) := m_passes1 (d := d) (c := 62) h hqE (by omega) h2
          have ej : jn (nI (hd X E q)) v v2 = if v ≤ v2 then nI 0 else nI 1 := by rw [h2]; rfl
          rw [p2, bnd_some, if_neg z1, e2, bnd_some, E247_53, E247_53, ej]
          by_cases hc : v ≤ v2
          · rw [if_pos hc, if_pos hc]; rfl
          · rw [if_neg hc, if_neg hc]; rfl
        have p2 : ev (d + 1) 241 0 [.inr 67, .inl 62] [] (mcu s q none) = some (0, nI 0, mcu s q none) := no q 62 _ hqE (by omega) (Or.inr h2)
        rw [p2, bnd_some, if_pos z0]
        have h3 : hd X E q = 61 := by omega
        have p3 : ev (d + 1) 241 0 [.inr 67, .inl 61] [] (mcu s q none) = some (0, nI 1, mcu s (q + 1) none) := m_passes1 (d := d) (c := 61) h hqE (by omega) h3
        have ej : jn (nI (hd X E q)) v v2 = if v = v2 then nI 1 else nI 0 := by rw [h3]; rfl
        rw [p3, bnd_some, if_neg z1, e2, bnd_some, E247_77, E247_77, ej]
        by_cases hc : v = v2
        · rw [if_neg (not_not_intro hc), if_pos hc]; rfl
        · rw [if_pos hc, if_neg hc]; rfl
      cases hq2 : r (q + 1) with
      | inl f =>
        rw [hq2] at hr2
        obtain ⟨hf, v2, q2, hqE2, e2⟩ := hr2
        exact ⟨hf, _, q2, hqE2, go _ _ e2⟩
      | inr z =>
        obtain ⟨q2, ψ⟩ := z
        rw [hq2] at hr2
        obtain ⟨hpq2, hqE2, v2, e2, hv2⟩ := hr2
        exact ⟨by omega, hqE2, _, go _ _ e2, fun w hw => by rw [hv w hw, hv2 w hw]⟩
    · rw [if_neg hm]
      have p1 : ev (d + 1) 241 0 [.inr 67, .inl 60] [] (mcu s q none) = some (0, nI 0, mcu s q none) := no q 60 _ hqE (by omega) (Or.inr (fun z => hm (Or.inl z)))
      have p2 : ev (d + 1) 241 0 [.inr 67, .inl 62] [] (mcu s q none) = some (0, nI 0, mcu s q none) := no q 62 _ hqE (by omega) (Or.inr (fun z => hm (Or.inr (Or.inl z))))
      have p3 : ev (d + 1) 241 0 [.inr 67, .inl 61] [] (mcu s q none) = some (0, nI 0, mcu s q none) := no q 61 _ hqE (by omega) (Or.inr (fun z => hm (Or.inr (Or.inr z))))
      refine ⟨hpq, hqE, v, ?_, hv⟩
      show ev (d + 1 + 1) 247 0 [.inr 67, .inl (nI dp), .inr 0] [] (mcu s p none) = _
      rw [E247_0, e, bnd_some, p1, bnd_some, if_pos z0, p2, bnd_some, if_pos z0, p3, bnd_some, if_pos z0]
theorem RM_X {r : Nat → aQ} (h : RME o T S B X E k s) (hr : RMok o T S E (pNeg X E r 40) s (fun s => ev d 250 0 [.inr 67, .inl (nI dp), .inr 0, .inr 0] [] s)) : RMok o T S E (pX X E r) s (fun s => ev (d + 1 + 1 + 1) 247 0 [.inr 67, .inl (nI dp), .inr 0] [] s) :=
  RM_cmp (d := d + 1) h.2.2.1 (RM_sum (d := d + 1) h.2.2.1 h.2.2.2.2.2.1 (RM_prod h.2.2.1 h.2.2.2.2.2.1 hr))
theorem RM_pE (h : RME o T S B X E k s) : ∀ j, j ≤ 4 → ∀ d, RMok o T S E (pE X E j) s (fun s => ev (d + 44 * (j + 1) + 2) 247 0 [.inr 67, .inl (nI (4 - j)), .inr 0] [] s) := by
  have hE := h.2.2.2.2.2.1
  intro j
  induction j with
  | zero =>
    intro _ d
    have g : RMok o T S E (pNeg X E (pThing X E (decide (4 < 4)) (fun _ => .inl 0)) 40) s (fun s => ev (d + 40 + 0 + 2 + 1) 250 0 [.inr 67, .inl (nI 4), .inr 0, .inr 0] [] s) := fun p hp => RM_neg (L := 0) h (Nat.le_refl 4) (fun d z => absurd z (by omega)) 40 d p hp (by omega)
    exact RM_X h g
  | succ j ih =>
    intro hj d
    have hdp : 4 - (j + 1) < 4 := by omega
    have g : RMok o T S E (pNeg X E (pThing X E (decide (4 - (j + 1) < 4)) (pE X E j)) 40) s (fun s => ev (d + 40 + 44 * (j + 1) + 2 + 1) 250 0 [.inr 67, .inl (nI (4 - (j + 1))), .inr 0, .inr 0] [] s) := fun p hp => RM_neg (L := 44 * (j + 1)) h (by omega) (fun d _ => by
      have := ih (by omega) d
      rw [show 4 - (j + 1) + 1 = 4 - j by omega]
      exact this) 40 d p hp (by omega)
    rw [decide_eq_true hdp] at g
    have g2 := RM_X h g
    have e : d + 44 * (j + 1 + 1) + 2 = d + 40 + 44 * (j + 1) + 2 + 1 + 1 + 1 + 1 := by omega
    rw [e]
    exact g2
theorem mcu_self {w : Option Nat} (h1 : s 67 22 = nI p) (h2 : s 67 23 = wI w) : mcu s p w = s := by
  funext b
  by_cases hb : b = 67
  · subst hb
    unfold mcu
    rw [setA_at]
    funext j
    unfold upd
    by_cases h4 : j = 23
    · rw [if_pos h4, h4, h2]
    · rw [if_neg h4]
      by_cases h3 : j = 22
      · rw [if_pos h3, h3, h1]
      · rw [if_neg h3]
  · exact mcu_ne hb
/-- the rule told, for a wall that has a word -/
theorem m_ruleFor (ht : tOk T) (ho : sOk T S B) (hT : MT T s) (h : MSt T S s) (hR : MRl φ s) (hw : w < tN T) (hn : sH S w = some x) : ∃ s', ev (d + 44 * 5 + 2 + 1) 253 0 [.inr 67, .inl (nI w)] [] s = some (0, φ (envT T S w), s') ∧ Eqm [] [19, 20, 21, 22, 23, 28] s s' := by
  have hN := ht.2.1
  obtain ⟨r29, Y, r27, rb, rl, r40, rr⟩ := hR
  have n1 : ¬ nI 0 = (1 : Int32) := by decide +kernel
  have n2 : ¬ nI 0 = (2 : Int32) := by decide +kernel
  have n3 : ¬ nI 0 = (3 : Int32) := by decide +kernel
  rw [E253_0, r29, if_pos n1, if_pos n2, if_pos n3, r27]
  unfold rul at rr
  by_cases hz : Y.1 = 0
  · rw [if_pos hz] at rr
    cases rr
    rw [hz, if_neg (show ¬ ¬ nI 0 = 0 from not_not_intro rfl), if_pos (n_inb (by omega) (by omega)), n_ix (by omega), (hT.2.2.2 w hw).1]
    exact ⟨s, rfl, Eqm.rf⟩
  · rw [if_neg hz] at rr
    rw [if_pos (show ¬ nI Y.1 = 0 from fun z => hz ((nI_eq (by omega) (by omega)).mp z)), E237_0 (Or.inr rfl), bnd_some]
    obtain ⟨s1, hs1⟩ : ∃ s1, s1 = up (up (up (up (up (up s 67 19 (nI 83)) 67 20 (nI Y.1)) 67 21 40) 67 22 0) 67 23 (-1)) 67 28 (nI w) := ⟨_, rfl⟩
    rw [← hs1]
    have q1 : Eqm [] [19, 20, 21, 22, 23, 28] s s1 := by rw [hs1]; exact (((((Eqm.rf.pf (by simp)).pf (by simp)).pf (by simp)).pf (by simp)).pf (by simp)).pf (by simp)
    have f19 : s1 67 19 = nI 83 := by rw [hs1, up_out (by decide), up_out (by decide), up_out (by decide), up_out (by decide), up_out (by decide), up_in]
    have f20 : s1 67 20 = nI Y.1 := by rw [hs1, up_out (by decide), up_out (by decide), up_out (by decide), up_out (by decide), up_in]
    have f21 : s1 67 21 = nI 40 := by rw [hs1, up_out (by decide), up_out (by decide), up_out (by decide), up_in]; rfl
    have f22 : s1 67 22 = nI 0 := by rw [hs1, up_out (by decide), up_out (by decide), up_in]; rfl
    have f23 : s1 67 23 = wI none := by rw [hs1, up_out (by decide), up_in]; rfl
    have f28 : s1 67 28 = nI w := by rw [hs1, up_in]
    have hsz : min Y.1 40 ≤ (mSh 83).2 := by show _ ≤ 40; omega
    have hm : RME (some w) T S B Y (min Y.1 40) 83 s1 := ⟨ht, ho, ⟨Or.inr rfl, f19, ⟨Y.1, 40, f20, f21, rfl, by omega, by omega⟩, hsz, fun i hi => by rw [q1.1 _ (by simp) (by decide)]; exact rb i (by omega), rl⟩, MT_q hT q1 (by decide) (by decide), MSt_q h q1 (by decide) (by decide), by omega, ⟨f28, hw, x, hn⟩⟩
    have g := RM_pE hm 4 (Nat.le_refl _) d 0 (Nat.zero_le _)
    have es := mcu_self f22 f23
    revert rr g
    cases pE Y (min Y.1 40) 4 0 with
    | inl f => exact fun rr => by cases rr
    | inr z =>
      obtain ⟨q, ψ⟩ := z
      intro rr g
      dsimp only at rr g
      obtain ⟨-, hq, v, e, hv⟩ := g
      by_cases hlt : q < Y.1
      · rw [if_pos hlt] at rr; cases rr
      · rw [if_neg hlt] at rr
        cases rr
        rw [es] at e
        have e : ev (d + 44 * 5 + 2) 247 0 [.inr 67, .inl 0, .inr 0] [] s1 = some (0, v, mcu s1 q none) := e
        refine ⟨mcu s1 q none, ?_, q1.tr (mcu_q.mono (by simp) (by simp))⟩
        rw [e, bnd_some, hv w rfl]
end MRX
