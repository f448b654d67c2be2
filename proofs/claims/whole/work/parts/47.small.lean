/-! CALLS: left, word, hangs, count, row -/
def rowN (f : Nat → Int32) (n : Nat) : List Int32 := itr (fun i L => L ++ [f i]) n []
theorem rowN_s {f : Nat → Int32} {n : Nat} : rowN f (n + 1) = rowN f n ++ [f n] := rfl
theorem rowN_len {f : Nat → Int32} {n : Nat} : (rowN f n).length = n := by
  induction n with
  | zero => rfl
  | succ n ih => rw [rowN_s, List.length_append, ih]; rfl
theorem rowN_at {f : Nat → Int32} {n i : Nat} (h : i < n) : (rowN f n).getD i 0 = f i := by
  induction n with
  | zero => omega
  | succ n ih =>
    rw [rowN_s]
    by_cases hi : i = n
    · subst hi
      have := rowN_len (f := f) (n := i)
      simp [List.getD_eq_getElem?_getD, this]
    · have hl := rowN_len (f := f) (n := n)
      rw [← ih (by omega)]
      simp only [List.getD_eq_getElem?_getD]
      rw [List.getElem?_append_left (by omega)]
def o_left (A : aA) (l : Int32) : aA × Int32 := if inN l 10 = false then (A, -nI 1) else (wW A [nI (stk (gS A) (ix l)), nI (bts (fun w => decide (0 < sG (gS A) w (ix l))) 8)], nI (sL (gS A) (ix l)))
def o_word (A : aA) (x : Int32) : aA × Int32 := if inN x (tW (gT A)) = false then (A, -nI 1) else (wW A (rowN (fun i => nI (tSp (gT A) (ix x) i)) (tLen (gT A) (ix x))), nI (tSen (gT A) (ix x)))
def o_hangs (A : aA) (w l : Int32) : Int32 := if inN w (tN (gT A)) = false ∨ inN l 10 = false then -nI 1 else nI (sG (gS A) (ix w) (ix l))
def o_count (A : aA) (k : Int32) : Int32 := if k = nI 0 then nI (tW (gT A)) else if k = nI 1 then nI (tN (gT A)) else if k = nI 2 then nI (bts (isU (gT A) (gS A)) 8) else if k = nI 3 then nI (bts (isQ (gT A) (gS A)) 8) else if k = nI 4 then nI (sm (sL (gS A)) 10) else if k = nI 5 then nI (sK (gS A)) else if k = nI 6 then nI (gU A).length else if k = nI 7 then nI (gC A).length else if k = nI 8 then nI (gW A).length else if k = nI 9 then nI (gX A).1 else -nI 1
def o_row (A : aA) (i : Int32) : Option Int32 := if inN i (gW A).length = false then none else some ((gW A).getD (ix i) 0)
def o_wall (A : aA) (w k : Int32) : Option Int32 := if inN w (tN (gT A)) = false then none else if k = nI 0 then some (nI (tWo (gT A) (ix w))) else if k = nI 1 then some (nI (tTe (gT A) (ix w))) else if k = nI 2 then some (oc (sH (gS A) (ix w))) else if k = nI 3 then some (nI (hgs (gS A) (ix w))) else if k = nI 4 then some (nI (mis (gT A) (gS A) (ix w))) else if k = nI 5 then some (bI (isU (gT A) (gS A) (ix w))) else if k = nI 6 then some (nI (sQ (gS A) (ix w))) else if k = nI 7 then some (nI (sU (gS A) (ix w))) else if k = nI 8 then (if isW (gS A) (ix w) = true then some (gR A (envT (gT A) (gS A) (ix w))) else some (nI 0)) else none
section XCC
variable {d B l w i : Nat} {s s' : mS} {T : aT} {S : aS} {A : aA} {a b n : Int32} {W : List Int32} {C : List (Nat × Nat × Nat)}
theorem x_tstock (h : XSt S s) (hl : l < 10) : ev d 152 0 [.inr 6, .inl (nI l)] [] s = some (0, nI (stk S l), s) := by
  have h1 := h l hl
  rw [E152_0]
  simp (disch := omega) only [h1, lit, nI_add, pk_mul, n_sub, n_addneg, nle_t, nle_f, nlt_t, nlt_f, neq_t, neq_f, n_inb, n_ix, bnd_some, if_true, if_false, ite_tt, ite_ff, not_true_eq_false, not_false_eq_true, eq_self, false_or, or_false, true_or, or_true]
theorem x_add2 {a b : Int32} : ∃ s1 s2, ev d 50 0 [.inr 4, .inl a] [] (up s 4 1 (nI 0)) = some (0, nI 4, s1) ∧ ev d 50 0 [.inr 4, .inl b] [] s1 = some (0, nI 4, s2) ∧ Eqx [4, 5] s s1 ∧ Eqx [4, 5] s s2 ∧ XW [a, b] s2 := by
  obtain ⟨s1, e1, w1, q1⟩ := x_add (d := d) (a := a) (XW_nil (s := s)) (by decide)
  obtain ⟨s2, e2, w2, q2⟩ := x_add (d := d) (a := b) w1 (by simp)
  have q0 : Eqx [4, 5] s (up s 4 1 0) := Eqx.rf.up (by simp)
  exact ⟨s1, s2, e1, e2, q0.tr q1, (q0.tr q1).tr q2, w2⟩
theorem x_add1 {a : Int32} : ∃ s1, ev d 50 0 [.inr 4, .inl a] [] (up s 4 1 (nI 0)) = some (0, nI 4, s1) ∧ Eqx [4, 5] s s1 ∧ XW [a] s1 := by
  obtain ⟨s1, e1, w1, q1⟩ := x_add (d := d) (a := a) (XW_nil (s := s)) (by decide)
  have q0 : Eqx [4, 5] s (up s 4 1 0) := Eqx.rf.up (by simp)
  exact ⟨s1, e1, q0.tr q1, w1⟩
theorem X_left (h : XI A B s) : ∃ s', ev (d + 1 + 1) 174 0 [.inr 1, .inl a] [] s = some (0, (o_left A a).2, s') ∧ XI (o_left A a).1 B s' ∧ fX s s' := by
  have ha := h.1
  have hT := h.2.2.1
  have hc := h.2.1
  have hk : isK 36 := Or.inl rfl
  unfold o_left
  by_cases hi : inN a 10 = false
  · rw [if_pos hi]
    refine ⟨s, ?_, h, fun _ _ => rfl⟩
    rw [E174_0, x_isLetter, hi]
    simp (disch := omega) only [bI_f, lit, nI_add, pk_mul, n_sub, n_addneg, nle_t, nle_f, nlt_t, nlt_f, neq_t, neq_f, n_inb, n_ix, bnd_some, if_true, if_false, ite_tt, ite_ff, not_true_eq_false, not_false_eq_true, eq_self, false_or, or_false, true_or, or_true]
  have hi' : inN a 10 = true := by simpa using hi
  rw [if_neg hi]
  obtain ⟨l, hl, rfl⟩ := inN_t (by omega) hi'
  rw [n_ix (by omega)]
  obtain ⟨s1, s2, e1, e2, q1, q2, w2⟩ := x_add2 (d := d + 1) (s := s) (a := nI (stk (gS A) l)) (b := nI (bts (fun w => decide (0 < sG (gS A) w l)) 8))
  have q0 : Eqx [4, 5] s (up s 4 1 (nI 0)) := Eqx.rf.up (by simp)
  have r1 := x_tstock (d := d + 1) (XSt_q h.2.2.2.1 q0 (by decide)) hl
  have r2 := x_wallsWith (d := d) ha.1 ha.2.1 (show XC (gT A) (gS A) (s1 37) by rw [q1 _ (by decide)]; exact hc) hl
  have r3 := x_inChest (d := d + 1) hk (show XC (gT A) (gS A) (s2 (mRf 36 1)) by rw [show mRf 36 1 = 37 by decide +kernel, q2 _ (by decide)]; exact hc) hl
  refine ⟨s2, ?_, XI_row h q2 (by decide) (by decide) w2 (by simp), fX_q q2 (by decide)⟩
  rw [E174_0, x_isLetter, hi']
  simp (disch := omega) only [bI_t, x_clear, r1, e1, r2, e2, r3, lit, nI_add, pk_mul, n_sub, n_addneg, nle_t, nle_f, nlt_t, nlt_f, neq_t, neq_f, n_inb, n_ix, bnd_some, if_true, if_false, ite_tt, ite_ff, not_true_eq_false, not_false_eq_true, eq_self, false_or, or_false, true_or, or_true]
theorem X_word (h : XI A B s) : ∃ s', ev (d + 1 + 1) 175 0 [.inr 1, .inl a, .inr 0] [] s = some (0, (o_word A a).2, s') ∧ XI (o_word A a).1 B s' ∧ fX s s' := by
  have ha := h.1
  have hT := h.2.2.1
  have hW := ha.1.1
  unfold o_word
  by_cases hi : inN a (tW (gT A)) = false
  · rw [if_pos hi]
    refine ⟨s, ?_, h, fun _ _ => rfl⟩
    rw [E175_0, x_tHasWord hT, hi]
    simp (disch := omega) only [bI_f, lit, nI_add, pk_mul, n_sub, n_addneg, nle_t, nle_f, nlt_t, nlt_f, neq_t, neq_f, n_inb, n_ix, bnd_some, if_true, if_false, ite_tt, ite_ff, not_true_eq_false, not_false_eq_true, eq_self, false_or, or_false, true_or, or_true]
  have hi' : inN a (tW (gT A)) = true := by simpa using hi
  rw [if_neg hi]
  obtain ⟨x, hx, rfl⟩ := inN_t (by omega) hi'
  rw [n_ix (by omega)]
  have hlen := (ha.1.2.2.1 x hx).2.1
  have q0 : Eqx [4, 5] s (up s 4 1 (nI 0)) := Eqx.rf.up (by simp)
  have key : ∀ n, n ≤ tLen (gT A) x → ∃ s', ev (d + 1 + 1) 175 23 [.inr 1, .inl (nI x), .inl (nI 0)] [] (up s 4 1 (nI 0)) = ev (d + 1 + 1) 175 23 [.inr 1, .inl (nI x), .inl (nI n)] [] s' ∧ XW (rowN (fun i => nI (tSp (gT A) x i)) n) s' ∧ Eqx [4, 5] s s' := by
    intro n
    induction n with
    | zero => intro _; exact ⟨_, rfl, XW_nil, q0⟩
    | succ n ih =>
      intro hn
      obtain ⟨s1, e1, w1, q1⟩ := ih (by omega)
      have hT1 := XT_q hT q1 (by decide)
      have e2 := x_length (d := d + 1) ha.1 hT1 hx
      have e3 := x_letterAt (d := d + 1) ha.1 hT1 hx (show n < tLen (gT A) x by omega)
      obtain ⟨s2, e4, w2, q2⟩ := x_add (d := d + 1) (a := nI (tSp (gT A) x n)) w1 (by rw [rowN_len]; omega)
      refine ⟨s2, ?_, w2, q1.tr q2⟩
      rw [e1, E175_23]
      simp (disch := omega) only [e2, e3, e4, lit, nI_add, pk_mul, n_sub, n_addneg, nle_t, nle_f, nlt_t, nlt_f, neq_t, neq_f, n_inb, n_ix, bnd_some, if_true, if_false, ite_tt, ite_ff, not_true_eq_false, not_false_eq_true, eq_self, false_or, or_false, true_or, or_true]
  obtain ⟨s', e1, w1, q1⟩ := key _ (Nat.le_refl _)
  have hT1 := XT_q hT q1 (by decide)
  refine ⟨s', ?_, XI_row h q1 (by decide) (by decide) w1 (by rw [rowN_len]; omega), fX_q q1 (by decide)⟩
  rw [E175_0, x_tHasWord hT, hi']
  simp (disch := omega) only [bI_t, x_clear, lit, nI_add, pk_mul, n_sub, n_addneg, nle_t, nle_f, nlt_t, nlt_f, neq_t, neq_f, n_inb, n_ix, bnd_some, if_true, if_false, ite_tt, ite_ff, not_true_eq_false, not_false_eq_true, eq_self, false_or, or_false, true_or, or_true]
  rw [e1, E175_23, x_length (d := d + 1) ha.1 hT1 hx]
  simp (disch := omega) only [x_sense (d := d + 1) ha.1 hT1 hx, lit, nI_add, pk_mul, n_sub, n_addneg, nle_t, nle_f, nlt_t, nlt_f, neq_t, neq_f, n_inb, n_ix, bnd_some, if_true, if_false, ite_tt, ite_ff, not_true_eq_false, not_false_eq_true, eq_self, false_or, or_false, true_or, or_true]
theorem X_hangs (h : XI A B s) : ev (d + 1 + 1) 177 0 [.inr 1, .inl a, .inl b] [] s = some (0, o_hangs A a b, s) := by
  have ha := h.1
  have hT := h.2.2.1
  have hc := h.2.1
  have hN := ha.1.2.1
  have hk : isK 36 := Or.inl rfl
  unfold o_hangs
  rw [E177_0, x_hasWall hT]
  by_cases hw : inN a (tN (gT A)) = false
  · rw [if_pos (Or.inl hw), hw]
    simp (disch := omega) only [bI_f, E177_30, E177_31, lit, nI_add, pk_mul, n_sub, n_addneg, nle_t, nle_f, nlt_t, nlt_f, neq_t, neq_f, n_inb, n_ix, bnd_some, if_true, if_false, ite_tt, ite_ff, not_true_eq_false, not_false_eq_true, eq_self, false_or, or_false, true_or, or_true]
  have hw' : inN a (tN (gT A)) = true := by simpa using hw
  by_cases hl : inN b 10 = false
  · rw [if_pos (Or.inr hl), hw']
    simp (disch := omega) only [bI_t, x_isLetter, hl, bI_f, E177_30, E177_31, lit, nI_add, pk_mul, n_sub, n_addneg, nle_t, nle_f, nlt_t, nlt_f, neq_t, neq_f, n_inb, n_ix, bnd_some, if_true, if_false, ite_tt, ite_ff, not_true_eq_false, not_false_eq_true, eq_self, false_or, or_false, true_or, or_true]
  have hl' : inN b 10 = true := by simpa using hl
  obtain ⟨w, hw2, rfl⟩ := inN_t (by omega) hw'
  obtain ⟨l, hl2, rfl⟩ := inN_t (by omega) hl'
  rw [if_neg (by simp [hw', hl']), n_ix (by omega), n_ix (by omega), hw']
  simp (disch := omega) only [bI_t, x_isLetter, hl', x_hung hk hc (show w < 8 by omega) hl2, E177_31, lit, nI_add, pk_mul, n_sub, n_addneg, nle_t, nle_f, nlt_t, nlt_f, neq_t, neq_f, n_inb, n_ix, bnd_some, if_true, if_false, ite_tt, ite_ff, not_true_eq_false, not_false_eq_true, eq_self, false_or, or_false, true_or, or_true]
theorem x_csize (h : XN C s) : ev d 0 0 [.inr 63] [] s = some (0, nI C.length, s) := by
  have h1 : s 63 3 = nI C.length := h.1
  rw [E0_0, h1]
theorem x_xsize {X : Nat × (Nat → Nat)} (h : XX X s) : ev d 130 0 [.inr 2] [] s = some (0, nI X.1, s) := by
  have h1 : s 2 1 = nI X.1 := h.1
  rw [E130_0, h1]
theorem X_count (h : XI A B s) : ev (d + 1 + 1) 216 0 [.inr 1, .inl a] [] s = some (0, o_count A a, s) := by
  have ha := h.1
  have hc := h.2.1
  obtain ⟨h1, h2, h3, h4, h5, h6, h7, h8⟩ := h.2.2
  have hk : isK 36 := Or.inl rfl
  unfold o_count
  have r0 := x_words (d := d + 1) h1
  have r1 := x_walls (d := d + 1) h1
  have r2 := x_up (d := d) ha.1 ha.2.1 hk hc
  have r3 := x_waiting (d := d) ha.1 ha.2.1 hk hc
  have r4 := x_leftInAll (d := d + 1) hk hc
  have r5 := x_weeksGone (d := d + 1) hc
  have r6 := x_psize (d := d + 1) h6
  have r7 := x_csize (d := d + 1) h8
  have r8 := x_rsize (d := d + 1) h4
  have r9 := x_xsize (d := d + 1) h3
  rw [E216_0]
  simp (disch := omega) only [r0, r1, r2, r3, r4, r5, r6, r7, r8, r9, lit, nI_add, pk_mul, n_sub, n_addneg, nle_t, nle_f, nlt_t, nlt_f, neq_t, neq_f, n_inb, n_ix, bnd_some, if_true, if_false, ite_tt, ite_ff, not_true_eq_false, not_false_eq_true, eq_self, false_or, or_false, true_or, or_true]
  by_cases g : a = nI 0
  · rw [if_pos g, if_pos g]
  rw [if_neg g, if_neg g]
  by_cases g : a = nI 1
  · rw [if_pos g, if_pos g]
  rw [if_neg g, if_neg g]
  by_cases g : a = nI 2
  · rw [if_pos g, if_pos g]
  rw [if_neg g, if_neg g]
  by_cases g : a = nI 3
  · rw [if_pos g, if_pos g]
  rw [if_neg g, if_neg g]
  by_cases g : a = nI 4
  · rw [if_pos g, if_pos g]
  rw [if_neg g, if_neg g]
  by_cases g : a = nI 5
  · rw [if_pos g, if_pos g]
  rw [if_neg g, if_neg g]
  by_cases g : a = nI 6
  · rw [if_pos g, if_pos g]
  rw [if_neg g, if_neg g]
  by_cases g : a = nI 7
  · rw [if_pos g, if_pos g]
  rw [if_neg g, if_neg g]
  by_cases g : a = nI 8
  · rw [if_pos g, if_pos g]
  rw [if_neg g, if_neg g]
  by_cases g : a = nI 9
  · rw [if_pos g, if_pos g]
  rw [if_neg g, if_neg g]
theorem X_row (h : XI A B s) : ev (d + 1 + 1) 217 0 [.inr 1, .inl a] [] s = match o_row A a with
    | some v => some (0, v, s)
    | none => some (16, 0, s) := by
  have ha := h.1
  have h4 := h.2.2.2.2.2.1
  have hl := ha.2.2.2.2.2.2.2.1
  have r8 := x_rsize (d := d + 1) h4
  unfold o_row
  rw [E217_0]
  simp only [lit]
  by_cases hi : inN a (gW A).length = false
  · rw [if_pos hi]
    show _ = some (16, nI 0, s)
    rw [E217_15]
    rcases inN_f hi with h1 | h1
    · simp only [lit, h1, if_true, if_false, not_true_eq_false, not_false_eq_true]
    · by_cases h2 : a < nI 0
      · simp only [lit, h2, if_true, if_false, not_true_eq_false, not_false_eq_true]
      · simp only [lit, h2, r8, bnd_some, Int32.not_lt.mpr h1, E217_15, if_true, if_false, not_true_eq_false, not_false_eq_true]
  have hi' : inN a (gW A).length = true := by simpa using hi
  rw [if_neg hi]
  obtain ⟨i, hi2, rfl⟩ := inN_t (by omega) hi'
  rw [n_ix (by omega)]
  simp (disch := omega) only [r8, x_rat (d := d + 1) h4 hl hi2, lit, nI_add, pk_mul, n_sub, n_addneg, nle_t, nle_f, nlt_t, nlt_f, neq_t, neq_f, n_inb, n_ix, bnd_some, if_true, if_false, ite_tt, ite_ff, not_true_eq_false, not_false_eq_true, eq_self, false_or, or_false, true_or, or_true]
end XCC
