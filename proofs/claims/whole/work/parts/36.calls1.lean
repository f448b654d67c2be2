/-! CALLS: hang, take, bring, lend -/
def pushU (A : aA) : List aS := (gS A :: gU A).take 12
/-- the state goes on; it is put aside -/
def goS (A : aA) (S : aS) : aA := wS (wU A (pushU A)) S
section XC1
variable {d B B' : Nat} {s s' s1 : mS} {T : aT} {S S' : aS} {A : aA} {P : List Nat} {w x l f t : Int32}
theorem XJ_q (h : XJ A s) (q : Eqx P s s') (hp : ∀ a ∈ P, a ∉ iQ) : XJ A s' := by
  have no : ∀ a, a ∈ iQ → a ∉ P := fun a ha z => hp a z ha
  have no2 : ∀ (M : List Nat), (∀ a ∈ M, a ∈ iQ) → ∀ a ∈ P, a ∉ M := fun M hM a ha z => hp a ha (hM a z)
  obtain ⟨h1, h2, h3, h4, h5, h6, h7, h8⟩ := h
  exact ⟨XT_q h1 q (no2 _ (by decide)), XSt_q h2 q (no _ (by decide)), XX_q h3 q (no _ (by decide)) (no _ (by decide)), XW_q h4 q (no _ (by decide)) (no _ (by decide)), XRs_q h5 q (no2 _ (by decide)), XU_q h6 q (no _ (by decide)) (no _ (by decide)), XK_q h7 q (no _ (by decide)) (no _ (by decide)), XN_q h8 q (no2 _ (by decide))⟩
theorem x_pushA (h : XI A B s) : ∃ s1, ev (d + 1) 30 0 [.inr 44, .inr 36] [] s = some (0, 0, s1) ∧ XJ (wU A (pushU A)) s1 ∧ XC (gT A) (gS A) (s1 37) ∧ Eqx [44, 45] s s1 := by
  obtain ⟨ha, hc, h1, h2, h3, h4, h5, h6, h7, h8⟩ := h
  obtain ⟨s1, e1, u1, q1, k1⟩ := x_push (d := d) h6 ha.2.2.2.2.1 hc
  refine ⟨s1, e1, ⟨XT_q h1 q1 (by decide), XSt_q h2 q1 (by decide), XX_q h3 q1 (by decide) (by decide), XW_q h4 q1 (by decide) (by decide), XRs_q h5 q1 (by decide), u1, ⟨k1.trans h7.1, ?_⟩, XN_q h8 q1 (by decide)⟩, by rw [q1 _ (by decide)]; exact hc, q1⟩
  rw [q1 _ (by decide)]
  exact h7.2
theorem AOk_go (h : AOk A B) (hB : B ≤ B') (hs : ∀ l, l < 10 → stk S' l = stk (gS A) l) (ho : sOk (gT A) S' B') : AOk (goS A S') B' := by
  obtain ⟨h1, h2, h3, h4, h5, h6, h7, h8, h9, h10⟩ := h
  refine ⟨h1, ho, fun U hU => ?_, fun i U hU => gd_go (h4 i U hU) hB hs, ?_, h6, h7, h8, h9, h10⟩
  · have hU : U ∈ (gS A :: gU A).take 12 := hU
    have hU := List.mem_of_mem_take hU
    rcases List.mem_cons.mp hU with e | e
    · rw [e]; exact gd_go (gd_self h2) hB hs
    · exact gd_go (h3 U e) hB hs
  · show ((gS A :: gU A).take 12).length ≤ 12
    rw [List.length_take]
    exact Nat.min_le_left _ _
theorem XI_go (h : AOk A B) (hB : B ≤ B') (hj : XJ (wU A (pushU A)) s') (hc : XC (gT A) S' (s' 37)) (hs : ∀ l, l < 10 → stk S' l = stk (gS A) l) (ho : sOk (gT A) S' B') : XI (goS A S') B' s' := by
  refine ⟨AOk_go h hB hs ho, hc, hj.1, fun l hl => ?_, hj.2.2⟩
  show s' 7 l = nI (stk S' l)
  rw [hs l hl]
  exact hj.2.1 l hl
/-- class places alone -/
def fX (s s' : mS) : Prop := ∀ a, 67 ≤ a ∨ (31 ≤ a ∧ a ≤ 35) ∨ a = 48 ∨ a = 49 → s' a = s a
theorem fX_q (q : Eqx P s s') (hp : ∀ a ∈ P, a < 67 ∧ ¬ (31 ≤ a ∧ a ≤ 35) ∧ a ≠ 48 ∧ a ≠ 49) : fX s s' := fun a ha => q a (fun z => by have := hp a z; omega)
theorem fX.tr (h : fX s s1) (h2 : fX s1 s') : fX s s' := fun a ha => (h2 a ha).trans (h a ha)
def o_hang (A : aA) (w x : Int32) : aA × Int32 := if inN w (tN (gT A)) = false ∨ inN x (tW (gT A)) = false then (A, -nI 1) else (goS A (hangW (gS A) (ix w) (ix x)), nI (tLen (gT A) (ix x)))
theorem X_hang (h : XI A B s) : ∃ s', ev (d + 1 + 1 + 1) 180 0 [.inr 1, .inl w, .inl x] [] s = some (0, (o_hang A w x).2, s') ∧ XI (o_hang A w x).1 B s' ∧ fX s s' := by
  have hT := h.2.2.1
  have ha := h.1
  have hN := ha.1.2.1
  have hW := ha.1.1
  unfold o_hang
  by_cases hw : inN w (tN (gT A)) = false
  · rw [if_pos (Or.inl hw)]
    refine ⟨s, ?_, h, fun _ _ => rfl⟩
    rw [E180_0, x_hasWall hT, hw]
    simp (disch := omega) only [bI_f, E180_22, lit, nI_add, pk_mul, n_sub, n_addneg, nle_t, nle_f, nlt_t, nlt_f, neq_t, neq_f, n_inb, n_ix, bnd_some, if_true, if_false, ite_tt, ite_ff, not_true_eq_false, not_false_eq_true, eq_self, false_or, or_false, true_or, or_true]
  have hw : inN w (tN (gT A)) = true := by simpa using hw
  by_cases hx : inN x (tW (gT A)) = false
  · rw [if_pos (Or.inr hx)]
    refine ⟨s, ?_, h, fun _ _ => rfl⟩
    rw [E180_0, x_hasWall hT, hw]
    simp (disch := omega) only [bI_t, x_tHasWord hT, hx, bI_f, E180_22, lit, nI_add, pk_mul, n_sub, n_addneg, nle_t, nle_f, nlt_t, nlt_f, neq_t, neq_f, n_inb, n_ix, bnd_some, if_true, if_false, ite_tt, ite_ff, not_true_eq_false, not_false_eq_true, eq_self, false_or, or_false, true_or, or_true]
  have hx : inN x (tW (gT A)) = true := by simpa using hx
  obtain ⟨w', hw', rfl⟩ := inN_t (by omega) hw
  obtain ⟨x', hx', rfl⟩ := inN_t (by omega) hx
  rw [if_neg (by simp [hw, hx]), n_ix (by omega), n_ix (by omega)]
  obtain ⟨s1, e1, j1, c1, q1⟩ := x_pushA (d := d + 1) h
  obtain ⟨c', e2, i2, o2⟩ := x_hang (d := d) ha.1 j1.1 ha.2.1 c1 hw' hx'
  have q2 : Eqx [37] s1 (setA s1 37 c') := Eqx.rf.set (by simp)
  refine ⟨_, ?_, XI_go ha (Nat.le_refl _) (XJ_q j1 q2 (by decide)) (by rw [setA_at]; exact i2) (fun l _ => stk_hangW (by omega)) o2, (fX_q q1 (by decide)).tr (fX_q q2 (by decide))⟩
  rw [E180_0, x_hasWall hT, hw]
  simp (disch := omega) only [bI_t, x_tHasWord hT, hx, e1, e2, lit, nI_add, pk_mul, n_sub, n_addneg, nle_t, nle_f, nlt_t, nlt_f, neq_t, neq_f, n_inb, n_ix, bnd_some, if_true, if_false, ite_tt, ite_ff, not_true_eq_false, not_false_eq_true, eq_self, false_or, or_false, true_or, or_true]
def o_take (A : aA) (w : Int32) : aA × Int32 := if inN w (tN (gT A)) = false then (A, -nI 1) else if isW (gS A) (ix w) = false then (A, -nI 2) else (goS A (takeW (gT A) (gS A) (ix w)), nI (mis (gT A) (takeW (gT A) (gS A) (ix w)) (ix w)))
theorem X_take (h : XI A B s) : ∃ s', ev (d + 1 + 1 + 1) 181 0 [.inr 1, .inl w] [] s = some (0, (o_take A w).2, s') ∧ XI (o_take A w).1 B s' ∧ fX s s' := by
  have hT := h.2.2.1
  have hc := h.2.1
  have ha := h.1
  have hN := ha.1.2.1
  have hk : isK 36 := Or.inl rfl
  unfold o_take
  by_cases hw : inN w (tN (gT A)) = false
  · rw [if_pos hw]
    refine ⟨s, ?_, h, fun _ _ => rfl⟩
    rw [E181_0, x_hasWall hT, hw]
    simp (disch := omega) only [bI_f, lit, nI_add, pk_mul, n_sub, n_addneg, nle_t, nle_f, nlt_t, nlt_f, neq_t, neq_f, n_inb, n_ix, bnd_some, if_true, if_false, ite_tt, ite_ff, not_true_eq_false, not_false_eq_true, eq_self, false_or, or_false, true_or, or_true]
  have hw : inN w (tN (gT A)) = true := by simpa using hw
  obtain ⟨w', hw', rfl⟩ := inN_t (by omega) hw
  rw [if_neg (by simp [hw]), n_ix (by omega)]
  cases hWw : isW (gS A) w' with
  | false =>
    rw [if_pos rfl]
    refine ⟨s, ?_, h, fun _ _ => rfl⟩
    rw [E181_0, x_hasWall hT, hw]
    simp (disch := omega) only [bI_t, x_hasWord ha.1 (ha.2.1.1 w') hk hc (show w' < 8 by omega), hWw, bI_f, lit, nI_add, pk_mul, n_sub, n_addneg, nle_t, nle_f, nlt_t, nlt_f, neq_t, neq_f, n_inb, n_ix, bnd_some, if_true, if_false, ite_tt, ite_ff, not_true_eq_false, not_false_eq_true, eq_self, false_or, or_false, true_or, or_true]
  | true =>
    rw [if_neg (by simp)]
    obtain ⟨s1, e1, j1, c1, q1⟩ := x_pushA (d := d + 1) h
    obtain ⟨c', e2, i2, o2⟩ := x_take (d := d) ha.1 j1.1 ha.2.1 hk c1 (show w' < 8 by omega)
    have er : mRf 36 1 = 37 := by decide +kernel
    rw [er] at e2
    have q2 : Eqx [37] s1 (setA s1 37 c') := Eqx.rf.set (by simp)
    refine ⟨_, ?_, XI_go ha (Nat.le_refl _) (XJ_q j1 q2 (by decide)) (by rw [setA_at]; exact i2) (fun l _ => stk_takeW (by omega)) o2, (fX_q q1 (by decide)).tr (fX_q q2 (by decide))⟩
    rw [E181_0, x_hasWall hT, hw]
    simp (disch := omega) only [bI_t, x_hasWord ha.1 (ha.2.1.1 w') hk hc (show w' < 8 by omega), hWw, e1, e2, lit, nI_add, pk_mul, n_sub, n_addneg, nle_t, nle_f, nlt_t, nlt_f, neq_t, neq_f, n_inb, n_ix, bnd_some, if_true, if_false, ite_tt, ite_ff, not_true_eq_false, not_false_eq_true, eq_self, false_or, or_false, true_or, or_true]
def o_bring (A : aA) (w : Int32) : aA × Int32 := if inN w (tN (gT A)) = false then (A, -nI 1) else (goS A (bringW (gS A) (ix w)), nI (hgs (gS A) (ix w)))
theorem X_bring (h : XI A B s) : ∃ s', ev (d + 1 + 1 + 1) 182 0 [.inr 1, .inl w] [] s = some (0, (o_bring A w).2, s') ∧ XI (o_bring A w).1 B s' ∧ fX s s' := by
  have hT := h.2.2.1
  have ha := h.1
  have hN := ha.1.2.1
  have hk : isK 36 := Or.inl rfl
  unfold o_bring
  by_cases hw : inN w (tN (gT A)) = false
  · rw [if_pos hw]
    refine ⟨s, ?_, h, fun _ _ => rfl⟩
    rw [E182_0, x_hasWall hT, hw]
    simp (disch := omega) only [bI_f, lit, nI_add, pk_mul, n_sub, n_addneg, nle_t, nle_f, nlt_t, nlt_f, neq_t, neq_f, n_inb, n_ix, bnd_some, if_true, if_false, ite_tt, ite_ff, not_true_eq_false, not_false_eq_true, eq_self, false_or, or_false, true_or, or_true]
  have hw : inN w (tN (gT A)) = true := by simpa using hw
  obtain ⟨w', hw', rfl⟩ := inN_t (by omega) hw
  rw [if_neg (by simp [hw]), n_ix (by omega)]
  obtain ⟨s1, e1, j1, c1, q1⟩ := x_pushA (d := d + 1) h
  obtain ⟨c', e2, i2, o2, -⟩ := x_bring (d := d + 1) ha.1 j1.1 ha.2.1 hk c1 (show w' < 8 by omega)
  have er : mRf 36 1 = 37 := by decide +kernel
  rw [er] at e2
  have q2 : Eqx [37] s1 (setA s1 37 c') := Eqx.rf.set (by simp)
  refine ⟨_, ?_, XI_go ha (Nat.le_refl _) (XJ_q j1 q2 (by decide)) (by rw [setA_at]; exact i2) (fun l _ => stk_bringW (by omega)) o2, (fX_q q1 (by decide)).tr (fX_q q2 (by decide))⟩
  rw [E182_0, x_hasWall hT, hw]
  simp (disch := omega) only [bI_t, e1, e2, lit, nI_add, pk_mul, n_sub, n_addneg, nle_t, nle_f, nlt_t, nlt_f, neq_t, neq_f, n_inb, n_ix, bnd_some, if_true, if_false, ite_tt, ite_ff, not_true_eq_false, not_false_eq_true, eq_self, false_or, or_false, true_or, or_true]
end XC1
