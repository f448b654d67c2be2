/-! CALLS: rule -/
section XRE
variable {d E p sz B f : Nat} {s s' s1 : mS} {X : aX} {w : Option Nat} {a : Int32} {b : Bool} {A : aA} {φ : aR}
theorem RD_cmp {r : Nat → aQ} {dp : Nat} (hr : RDok X E r (fun s => ev (d + 1 + 1) 61 0 [.inr 19, .inr 2, .inl (nI dp), .inr 0, .inr 0] [] s)) : RDok X E (pCmp X E r) (fun s => ev (d + 1 + 1 + 1) 60 0 [.inr 19, .inr 2, .inl (nI dp), .inr 0] [] s) := by
  intro p s sz b hx hp hE hD hsz
  obtain ⟨s1, q1, k1⟩ := hr p s sz b hx hp hE hD hsz
  have hx1 := XE_q hx q1 (by decide) (by decide)
  unfold pCmp
  dsimp only
  cases hP1 : r p with
  | inl f =>
    rw [hP1] at k1
    obtain ⟨q, sz', b', e1, l1, l2, hD1⟩ := k1
    have e1 : ev (d + 1 + 1) 61 0 [.inr 19, .inr 2, .inl (nI dp), .inr 0, .inr 0] [] (cur s p none) = some (0, nI 0, cur s1 q (some f)) := e1
    refine ⟨s1, q1, q, sz', b', ?_, l1, l2, hD1⟩
    rw [E60_0, e1, bnd_some, x_ahead hx1 l2, bnd_some, x_goodB, bnd_some, if_pos (show nI 0 = 0 from rfl), E60_51]
    rfl
  | inr rr =>
    obtain ⟨q, φ⟩ := rr
    rw [hP1] at k1
    obtain ⟨m, b', e1, l0, l1, l2, hD1, l3, hPs, l4⟩ := k1
    have e1 : ev (d + 1 + 1) 61 0 [.inr 19, .inr 2, .inl (nI dp), .inr 0, .inr 0] [] (cur s p none) = some (0, nI 0, cur s1 q none) := e1
    have ea := x_ahead (d := d + 1 + 1) (w := none) hx1 l1
    have hle := hd_le (p := q) hx1
    have g1 := hI_c (p := q) (X := X) (E := E) (show 60 < 256 by omega) hle
    have g2 := hI_c (p := q) (X := X) (E := E) (show 62 < 256 by omega) hle
    have g3 := hI_c (p := q) (X := X) (E := E) (show 61 < 256 by omega) hle
    dsimp only
    by_cases ho : hd X E q = 60 ∨ hd X E q = 62 ∨ hd X E q = 61
    · rw [if_pos ho]
      have hqE : q < E := hd_lt (X := X) (by omega)
      have hh : hI (hd X E q) = nI (hd X E q) := if_neg (by omega)
      have t36 : ev (d + 1 + 1 + 1) 60 0 [.inr 19, .inr 2, .inl (nI dp), .inr 0] [] (cur s p none) = ev (d + 1 + 1 + 1) 60 36 [.inr 19, .inr 2, .inl (nI dp), .inl (nI (hd X E q))] [] (cur s1 q none) := by
        rw [E60_0]
        simp (disch := omega) only [lit, e1, bnd_some, ea, x_goodN, neq_f, if_false, g1, g2, g3]
        rw [hh]
        by_cases h1 : hd X E q = 60
        · rw [if_pos h1]
        · rw [if_neg h1]
          by_cases h2 : hd X E q = 62
          · rw [if_pos h2]
          · rw [if_neg h2, if_neg (show ¬ ¬ hd X E q = 61 by omega)]
      obtain ⟨s2, q2, k2⟩ := hr (q + 1) s1 (sz + m) b' hx1 hqE hE hD1 (by omega)
      cases hP2 : r (q + 1) with
      | inl f =>
        rw [hP2] at k2
        obtain ⟨q', sz', b2, e2, l1', l2', hD2⟩ := k2
        have e2 : ev (d + 1 + 1) 61 0 [.inr 19, .inr 2, .inl (nI dp), .inr 0, .inr 0] [] (cur s1 (q + 1) none) = some (0, nI 0, cur s2 q' (some f)) := e2
        obtain ⟨s3, e3, hD3, -, -, q3⟩ := x_emitSign (d := d + 1) (p := q') (w := some f) (a := nI (hd X E q)) hD2
        refine ⟨s3, (q1.tr q2).tr q3, q', _, _, ?_, l1', l2', hD3⟩
        rw [t36, E60_36, x_step, bnd_some, e2, bnd_some, e3, bnd_some, E60_51]
        rfl
      | inr rr =>
        obtain ⟨q', ψ⟩ := rr
        rw [hP2] at k2
        obtain ⟨m', b2, e2, l0', l1', l2', hD2, l3', hPs', l4'⟩ := k2
        have e2 : ev (d + 1 + 1) 61 0 [.inr 19, .inr 2, .inl (nI dp), .inr 0, .inr 0] [] (cur s1 (q + 1) none) = some (0, nI 0, cur s2 q' none) := e2
        obtain ⟨s3, e3, hD3, f1, f2, q3⟩ := x_emitSign (d := d + 1) (p := q') (w := none) (a := nI (hd X E q)) hD2
        have l5 : sz + m + m' < 40 := by omega
        have n107 : decide (nI (hd X E q) = nI 107) = false := decide_eq_false (fun z => by
          have := (nI_eq (by omega) (by omega)).mp z
          omega)
        rw [Nat.min_eq_left (by omega), show sz + m + m' + 1 = sz + (m + m' + 1) by omega, n107, Bool.or_false] at hD3
        have hPa : PSH (s3 20) sz m φ := PSH_cong hPs (fun i hi => by rw [f2 _ (by omega)]; exact l3' _ (by omega))
        have hPb : PSH (s3 20) (sz + m) m' ψ := PSH_cong hPs' (fun i hi => f2 _ (by omega))
        have hPc := PSH_join hPa hPb (o := hd X E q) (by unfold isOp; omega) (f1 l5)
        refine ⟨s3, (q1.tr q2).tr q3, m + m' + 1, b2, ?_, by omega, l1', by omega, hD3, fun j hj => ?_, hPc, fun hb => ?_⟩
        · rw [t36, E60_36, x_step, bnd_some, e2, bnd_some, e3, bnd_some, E60_51]
          rfl
        · rw [f2 _ (by omega), l3' j (by omega), l3 j hj]
        · obtain ⟨y1, y2⟩ := l4' hb
          obtain ⟨z1, z2⟩ := l4 y1
          exact ⟨z1, igK_jn z2 y2⟩
    · rw [if_neg ho]
      refine ⟨s1, q1, m, b', ?_, l0, l1, l2, hD1, l3, hPs, l4⟩
      rw [E60_0]
      simp (disch := omega) only [lit, e1, bnd_some, ea, x_goodN, neq_f, if_false, g1, g2, g3]
      rw [if_neg (fun z => ho (Or.inl z)), if_neg (fun z => ho (Or.inr (Or.inl z))), if_pos (fun z => ho (Or.inr (Or.inr z))), E60_51]
      rfl
theorem RD_pX {r : Nat → aQ} {dp : Nat} (hr : RDok X E r (fun s => ev (d + 1 + 1 + 1) 64 0 [.inr 19, .inr 2, .inl (nI dp), .inr 0] [] s)) : RDok X E (pX X E r) (fun s => ev (d + 1 + 1 + 1 + 1 + 1 + 1 + 1) 60 0 [.inr 19, .inr 2, .inl (nI dp), .inr 0] [] s) :=
  RD_cmp (d := d + 1 + 1 + 1 + 1) (RD_sum (d := d + 1 + 1 + 1) (RD_prod (d := d + 1 + 1) (RD_neg (d := d + 1) hr)))
theorem RD_pE : ∀ j, j ≤ 4 → RDok X E (pE X E j) (fun s => ev (d + 5 * j + 1 + 1 + 1 + 1 + 1 + 1 + 1) 60 0 [.inr 19, .inr 2, .inl (nI (4 - j)), .inr 0] [] s) := by
  intro j
  induction j with
  | zero => intro _; exact RD_pX (d := d + 5 * 0) (RD_thing (d := d + 5 * 0) (dp := 4) (Nat.le_refl _) (fun z => absurd z (Nat.lt_irrefl _)))
  | succ j ih =>
    intro hj
    have h := ih (by omega)
    have e1 : 4 - j = 4 - (j + 1) + 1 := by omega
    rw [e1] at h
    have hk : decide (4 - (j + 1) < 4) = true := decide_eq_true (by omega)
    have g := RD_thing (X := X) (E := E) (r := pE X E j) (d := d + 5 * j + 1 + 1 + 1 + 1 + 1) (dp := 4 - (j + 1)) (by omega) (fun _ => h)
    rw [hk] at g
    exact RD_pX (d := d + 5 * j + 1 + 1 + 1 + 1 + 1) g
/-- the draft holds a rule -/
def XRd (φ : aR) (s : mS) : Prop := ∃ sz b, XD sz b s ∧ PSH (s 20) 0 sz φ ∧ (b = false → igK φ)
theorem x_clearR : ev d 57 0 [.inr 19] [] (cur s p w) = some (0, nI 0, cur (up (up s 19 1 (nI 0)) 19 2 (nI 0)) p w) := by
  have u1 : up (cur s p w) 19 1 (nI 0) = cur (up s 19 1 (nI 0)) p w := cur_up (by decide)
  have u2 : up (cur (up s 19 1 (nI 0)) p w) 19 2 (nI 0) = cur (up (up s 19 1 (nI 0)) 19 2 (nI 0)) p w := cur_up (by decide)
  rw [E57_0 (hk0 := isRu)]
  simp only [lit, u1, u2]
theorem XD_clear : XD 0 false (up (up s 19 1 (nI 0)) 19 2 (nI 0)) := ⟨by rw [up_out (by decide), up_in], by omega, up_in⟩
theorem x_be : ∃ s', ev (d + 1 + 1) 53 0 [.inr 19, .inl (nI 119), .inl (nI 0)] [] (cur s p w) = some (0, nI 0, cur s' p w) ∧ XRd (fun e => e (nI 119)) s' ∧ Eqx [19, 20] s s' := by
  obtain ⟨s1, e1, h1, f1, f2, q1⟩ := x_emitSign (d := d) (p := p) (w := w) (a := nI 119) (XD_clear (s := s))
  have q0 : Eqx [19, 20] s (up (up s 19 1 (nI 0)) 19 2 (nI 0)) := (Eqx.rf.up (by simp)).up (by simp)
  refine ⟨s1, ?_, ⟨1, _, h1, PSH_one (fun env t g => ?_), fun _ => ?_⟩, q0.tr q1⟩
  · rw [E53_0 (hk0 := isRu), x_clearR, bnd_some, e1, bnd_some, if_pos (show nI 0 = 0 from rfl), E53_19]
    rfl
  · rw [f1 (by omega)]
    obtain ⟨t1, t2, t3⟩ := th_neg 119 (by omega) (by decide +kernel)
    unfold stp
    rw [if_pos t1, if_pos t2, t3]
  · intro e1 e2 hh
    exact hh _ (by decide +kernel) (by decide +kernel)
/-- the rule's text is read into the draft -/
theorem x_ruleR (h : XI A B s) : ∃ s1, Eqx [2, 19, 20] s s1 ∧ match rul (gX A) with
    | .inl f => f ≤ 80 ∧ ∃ p, ev (d + 5 * 4 + 1 + 1 + 1 + 1 + 1 + 1 + 1 + 1) 56 0 [.inr 19, .inr 2] [] s = some (0, nI 0, cur s1 p (some f)) ∧ s1 2 1 = nI 0
    | .inr φ => ∃ p, ev (d + 5 * 4 + 1 + 1 + 1 + 1 + 1 + 1 + 1 + 1) 56 0 [.inr 19, .inr 2] [] s = some (0, nI 1, cur s1 p none) ∧ s1 2 1 = nI 0 ∧ XRd φ s1 := by
  have ha := h.1
  have h80 := ha.2.2.2.2.2.1
  obtain ⟨s1, e1, x1, q1⟩ := x_open (d := d + 5 * 4 + 1 + 1 + 1 + 1 + 1 + 1 + 1) (M := 40) h.2.2.2.2.1 h80 ha.2.2.2.2.2.2.1 (by omega)
  have ee := x_ended (d := d + 5 * 4 + 1 + 1 + 1 + 1 + 1 + 1 + 1) (w := none) x1 (Nat.zero_le _)
  -- the end of reading
  have fin : ∀ s2 p w, XE (gX A) (min (gX A).1 40) s2 → p ≤ min (gX A).1 40 → ev (d + 5 * 4 + 1 + 1 + 1 + 1 + 1 + 1 + 1 + 1) 56 33 [.inr 0, .inr 2] [] (cur s2 p w) = some (0, bI (decide (clW (gX A) (min (gX A).1 40) p w = none)), cur (up s2 2 1 (nI 0)) p (clW (gX A) (min (gX A).1 40) p w)) := fun s2 p w hx hp => by
    rw [E56_33, x_close (d := d + 5 * 4 + 1 + 1 + 1 + 1 + 1 + 1) (M := 40) hx hp (by omega), bnd_some, x_good, bnd_some]
    refine if_pos ?_
    generalize decide (clW (gX A) (min (gX A).1 40) p w = none) = c
    cases c
    · exact Or.inl rfl
    · exact Or.inr rfl
  unfold rul
  by_cases hz : (gX A).1 = 0
  · rw [if_pos hz]
    obtain ⟨s2, e2, r2, q2⟩ := x_be (d := d + 5 * 4 + 1 + 1 + 1 + 1 + 1) (s := s1) (p := 0) (w := none)
    have hw : clW (gX A) (min (gX A).1 40) 0 none = none := if_neg (by omega)
    have q3 : Eqx [2] s2 (up s2 2 1 (nI 0)) := Eqx.rf.up (by simp)
    refine ⟨up s2 2 1 (nI 0), ((q1.mono (by simp)).tr (q2.mono (by simp))).tr (q3.mono (by simp)), 0, ?_, up_in, ?_⟩
    · have f := fin s2 0 none (XE_q x1 q2 (by decide) (by decide)) (Nat.zero_le _)
      rw [hw] at f
      rw [E56_0]
      rw [decide_eq_true (show min (gX A).1 40 ≤ 0 by omega)] at ee
      simp only [lit, e1, bnd_some, ee, bIt0, if_false, e2]
      exact f
    · obtain ⟨sz, b, ⟨d1, d2, d3⟩, r3, r4⟩ := r2
      exact ⟨sz, b, ⟨by rw [up_ne (by decide)]; exact d1, d2, by rw [up_ne (by decide)]; exact d3⟩, by rw [up_ne (by decide)]; exact r3, r4⟩
  · rw [if_neg hz]
    have qc : Eqx [19] s1 (up (up s1 19 1 (nI 0)) 19 2 (nI 0)) := (Eqx.rf.up (by simp)).up (by simp)
    have xc := XE_q x1 qc (by decide) (by decide)
    obtain ⟨s2, q2, k2⟩ := RD_pE (d := d) (X := gX A) (E := min (gX A).1 40) 4 (Nat.le_refl _) 0 _ 0 false xc (Nat.zero_le _) (by omega) (XD_clear (s := s1)) (Nat.le_refl _)
    have x2 := XE_q xc q2 (by decide) (by decide)
    have q3 : Eqx [2] s2 (up s2 2 1 (nI 0)) := Eqx.rf.up (by simp)
    have qa : Eqx [2, 19, 20] s (up s2 2 1 (nI 0)) := (((q1.mono (by simp)).tr (qc.mono (by simp))).tr (q2.mono (by simp))).tr (q3.mono (by simp))
    rw [decide_eq_false (show ¬ min (gX A).1 40 ≤ 0 by omega)] at ee
    have st : ∀ s3 p w, ev (d + 5 * 4 + 1 + 1 + 1 + 1 + 1 + 1 + 1) 60 0 [.inr 19, .inr 2, .inl (nI (4 - 4)), .inr 0] [] (cur (up (up s1 19 1 (nI 0)) 19 2 (nI 0)) 0 none) = some (0, nI 0, cur s3 p w) → ev (d + 5 * 4 + 1 + 1 + 1 + 1 + 1 + 1 + 1 + 1) 56 0 [.inr 19, .inr 2] [] s = ev (d + 5 * 4 + 1 + 1 + 1 + 1 + 1 + 1 + 1 + 1) 56 33 [.inr 0, .inr 2] [] (cur s3 p w) := fun s3 p w e => by
      have e : ev (d + 5 * 4 + 1 + 1 + 1 + 1 + 1 + 1 + 1) 60 0 [.inr 19, .inr 2, .inl (nI 0), .inr 0] [] (cur (up (up s1 19 1 (nI 0)) 19 2 (nI 0)) 0 none) = some (0, nI 0, cur s3 p w) := e
      rw [E56_0]
      simp only [lit, e1, bnd_some, ee, bIf0, if_true, x_clearR, e]
    cases hP : pE (gX A) (min (gX A).1 40) 4 0 with
    | inl f =>
      rw [hP] at k2
      obtain ⟨q, sz', b', e2, l1, l2, hD2⟩ := k2
      have g := fin s2 q (some f) x2 l2
      rw [clW_s] at g
      exact ⟨_, qa, by omega, q, (st _ _ _ e2).trans g, up_in⟩
    | inr rr =>
      obtain ⟨q, φ⟩ := rr
      rw [hP] at k2
      obtain ⟨m, b', e2, l0, l1, l2, hD2, l3, hPs, l4⟩ := k2
      have g := fin s2 q none x2 l1
      dsimp only
      by_cases hq : q < (gX A).1
      · rw [if_pos hq]
        have hw : clW (gX A) (min (gX A).1 40) q none = some q := if_pos hq
        rw [hw] at g
        exact ⟨_, qa, by omega, q, (st _ _ _ e2).trans g, up_in⟩
      · rw [if_neg hq]
        have hw : clW (gX A) (min (gX A).1 40) q none = none := if_neg hq
        rw [hw] at g
        rw [Nat.zero_add] at hD2
        obtain ⟨d1, d2, d3⟩ := hD2
        exact ⟨_, qa, q, (st _ _ _ e2).trans g, up_in, m, b', ⟨by rw [up_ne (by decide)]; exact d1, d2, by rw [up_ne (by decide)]; exact d3⟩, by rw [up_ne (by decide)]; exact hPs, fun hb => (l4 hb).2⟩
theorem X_rule (h : XI A B s) : ∃ s', ev (d + 5 * 4 + 1 + 1 + 1 + 1 + 1 + 1 + 1 + 1 + 1) 173 0 [.inr 1] [] s = some (0, (o_rule A).2, s') ∧ XI (o_rule A).1 B s' ∧ fX s s' := by
  obtain ⟨s1, q1, k1⟩ := x_ruleR (d := d) h
  have n10 : ¬ nI 1 = nI 0 := by decide +kernel
  unfold o_rule
  cases hR : rul (gX A) with
  | inl f =>
    rw [hR] at k1
    obtain ⟨l1, p, e1, t1⟩ := k1
    have qc : Eqx [2, 19, 20] s (cur s1 p (some f)) := q1.set (by simp)
    obtain ⟨⟨a1, a2, a3, a4, a5, a6, a7, a8⟩, hc, g1, g2, g3, g4, g5, g6, g7, g8⟩ := h
    refine ⟨_, ?_, ⟨⟨a1, a2, a3, a4, a5, Nat.zero_le _, a7, a8⟩, by rw [qc _ (by decide)]; exact hc, XT_q g1 qc (by decide), XSt_q g2 qc (by decide), ⟨cur_1.trans t1, fun i hi => absurd hi (Nat.not_lt_zero i)⟩, XW_q g4 qc (by decide) (by decide), XRs_q g5 qc (by decide), XU_q g6 qc (by decide) (by decide), XK_q g7 qc (by decide) (by decide), XN_q g8 qc (by decide)⟩, fX_q qc (by decide)⟩
    rw [E173_0, e1, bnd_some]
    simp only [lit, not_true_eq_false, if_false, x_complaint (show f ≤ 1000 by omega), bnd_some]
  | inr φ =>
    rw [hR] at k1
    obtain ⟨p, e1, t1, sz, b, ⟨d1, d2, d3⟩, r1, r2⟩ := k1
    obtain ⟨s2, hs2⟩ : ∃ s2, s2 = cur s1 p none := ⟨_, rfl⟩
    rw [← hs2] at e1
    have d1 : s2 19 1 = nI sz := by rw [hs2, cur_ne (by decide)]; exact d1
    have d3 : s2 19 2 = bI b := by rw [hs2, cur_ne (by decide)]; exact d3
    have r1 : PSH (s2 20) 0 sz φ := by rw [hs2, cur_ne (by decide)]; exact r1
    have t1 : s2 2 1 = nI 0 := by rw [hs2, cur_1]; exact t1
    have q2 : Eqx [2, 19, 20] s s2 := by rw [hs2]; exact q1.set (by simp)
    obtain ⟨g, hg⟩ : ∃ g, g = (fun k => if 0 ≤ k ∧ k < 0 + 40 then s2 20 (0 + (k - 0)) else s2 17 k) := ⟨_, rfl⟩
    have e : cpA s2 20 0 17 0 40 = setA s2 17 g := by
      rw [hg]
      exact cpA_n (sp := 0) (dp := 0) (n := 40) (by omega) (by omega) (by omega)
    have f1 : (setA s2 17 g) 19 1 = nI sz := by rw [setA_ne (by decide)]; exact d1
    have f2 : (up (setA s2 17 g) 16 1 (nI sz)) 19 2 = bI b := by rw [up_ne (by decide), setA_ne (by decide)]; exact d3
    have q3 : Eqx [16, 17] s2 (up (up (setA s2 17 g) 16 1 (nI sz)) 16 2 (bI b)) := ((Eqx.rf.set (by simp)).up (by simp)).up (by simp)
    have qa : Eqx [2, 19, 20, 16, 17] s (up (up (setA s2 17 g) 16 1 (nI sz)) 16 2 (bI b)) := (q2.mono (by simp)).tr (q3.mono (by simp))
    have m0 : mRf 16 0 = 17 := by decide +kernel
    have hR : XR φ 16 (up (up (setA s2 17 g) 16 1 (nI sz)) 16 2 (bI b)) := by
      refine ⟨sz, b, d2, by rw [up_out (by decide), up_in], fun env gg => ?_, up_in, r2⟩
      rw [m0, up_ne (by decide), up_ne (by decide), setA_at]
      refine PSH_rv (PSH_cong r1 (fun i hi => ?_)) gg
      rw [hg]
      show (if 0 ≤ 0 + i ∧ 0 + i < 0 + 40 then s2 20 (0 + (0 + i - 0)) else _) = _
      rw [if_pos (by omega)]
      congr 1
      omega
    obtain ⟨⟨a1, a2, a3, a4, a5, a6, a7, a8⟩, hc, g1, g2, g3, g4, ⟨g5, g5a, g5b, g5c⟩, g6, g7, g8⟩ := h
    refine ⟨_, ?_, ⟨⟨a1, a2, a3, a4, a5, Nat.zero_le _, a7, a8⟩, by rw [qa _ (by decide)]; exact hc, XT_q g1 qa (by decide), XSt_q g2 qa (by decide), ⟨by rw [q3 _ (by decide)]; exact t1, fun i hi => absurd hi (Nat.not_lt_zero i)⟩, XW_q g4 qa (by decide) (by decide), ⟨hR, XR_eq g5a (qa _ (by decide)) (by rw [show mRf 22 0 = 23 by decide +kernel]; exact qa _ (by decide)), XR_eq g5b (qa _ (by decide)) (by rw [show mRf 25 0 = 26 by decide +kernel]; exact qa _ (by decide)), XR_eq g5c (qa _ (by decide)) (by rw [show mRf 28 0 = 29 by decide +kernel]; exact qa _ (by decide))⟩, XU_q g6 qa (by decide) (by decide), XK_q g7 qa (by decide) (by decide), XN_q g8 qa (by decide)⟩, fX_q qa (by decide)⟩
    have ec : ev (d + 5 * 4 + 1 + 1 + 1 + 1 + 1 + 1 + 1 + 1) 54 0 [.inr 16, .inr 19] [] s2 = some (0, nI 0, up (up (setA s2 17 g) 16 1 (nI sz)) 16 2 (bI b)) := by
      rw [E54_0, e, f1, f2, if_pos (by decide +kernel)]
      exact if_pos (by cases b <;> decide +kernel)
    rw [E173_0, e1, bnd_some]
    simp only [lit, n10, not_false_eq_true, if_true, ec, bnd_some]
end XRE
