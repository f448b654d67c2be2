/-! CALLS: wall, set -/
/-- other worth, other term -/
def sWo (T : aT) (w v : Nat) : aT := (T.1, T.2.1, T.2.2.1, T.2.2.2.1, T.2.2.2.2.1, uO T.2.2.2.2.2.1 w v, T.2.2.2.2.2.2)
def sTe (T : aT) (w v : Nat) : aT := (T.1, T.2.1, T.2.2.1, T.2.2.2.1, T.2.2.2.2.1, T.2.2.2.2.2.1, uO T.2.2.2.2.2.2 w v)
def o_set (A : aA) (w k v : Int32) : aA × Int32 := if inN w (tN (gT A)) = false then (A, -nI 1) else if k = nI 0 ∧ ¬ v < nI 1 ∧ ¬ nI 99 < v then (wT A (sWo (gT A) (ix w) (ix v)), nI (tWo (gT A) (ix w))) else if k = nI 1 ∧ ¬ v < nI 1 ∧ ¬ nI 9 < v then (wT A (sTe (gT A) (ix w) (ix v)), nI (tTe (gT A) (ix w))) else (A, -nI 1)
theorem rng_t {v : Int32} {b : Nat} (hb : b < 2147483647) (h1 : ¬ v < nI 1) (h2 : ¬ nI b < v) : ∃ m, v = nI m ∧ 1 ≤ m ∧ m ≤ b := by
  rw [Int32.lt_iff_toInt_lt] at h1 h2
  rw [toI (by omega)] at h1 h2
  obtain ⟨j, hj, rfl⟩ := nI_of (x := v) (by
    show ¬ v < nI 0
    rw [Int32.lt_iff_toInt_lt, toI (by omega)]
    omega)
  rw [toI (by omega)] at h1 h2
  exact ⟨j, rfl, by omega, by omega⟩
section XCD
variable {d B l w v i : Nat} {s s' : mS} {T : aT} {S : aS} {A : aA} {a b c n : Int32} {W : List Int32}
theorem XI_sWo (h : XI A B s) (hw : w < tN (gT A)) (h1 : 1 ≤ v) (h2 : v ≤ 99) : XI (wT A (sWo (gT A) w v)) B (up s 14 w (nI v)) := by
  obtain ⟨⟨⟨t1, t2, t3, t4⟩, a2, a3, a4, a5⟩, hc, ⟨x1, x2, x3, x4⟩, g2, g3, g4, g5, g6, g7, g8⟩ := h
  have q : Eqx [14] s (up s 14 w (nI v)) := Eqx.rf.up (by simp)
  refine ⟨⟨⟨t1, t2, t3, fun w' hw' => ?_⟩, a2, a3, a4, a5⟩, ?_, ⟨?_, ?_, fun x hx => ?_, fun w' hw' => ?_⟩, XSt_q g2 q (by decide), XX_q g3 q (by decide) (by decide), XW_q g4 q (by decide) (by decide), XRs_q g5 q (by decide), XU_q g6 q (by decide) (by decide), XK_q g7 q (by decide) (by decide), XN_q g8 q (by decide)⟩
  · have := t4 w' hw'
    show 1 ≤ uO (tWo (gT A)) w v w' ∧ uO (tWo (gT A)) w v w' ≤ 99 ∧ 1 ≤ tTe (gT A) w' ∧ tTe (gT A) w' ≤ 9
    unfold uO
    split <;> omega
  · rw [q _ (by decide)]; exact hc
  · rw [q _ (by decide)]; exact x1
  · rw [q _ (by decide)]; exact x2
  · rw [q _ (by decide), q _ (by decide), q _ (by decide), q _ (by decide)]; exact x3 x hx
  · refine ⟨?_, by rw [q _ (by decide)]; exact (x4 w' hw').2⟩
    show _ = nI (uO (tWo (gT A)) w v w')
    unfold uO
    by_cases hz : w' = w
    · subst hz; rw [if_pos rfl, up_in]
    · rw [if_neg hz, up_out hz]; exact (x4 w' hw').1
theorem XI_sTe (h : XI A B s) (hw : w < tN (gT A)) (h1 : 1 ≤ v) (h2 : v ≤ 9) : XI (wT A (sTe (gT A) w v)) B (up s 15 w (nI v)) := by
  obtain ⟨⟨⟨t1, t2, t3, t4⟩, a2, a3, a4, a5⟩, hc, ⟨x1, x2, x3, x4⟩, g2, g3, g4, g5, g6, g7, g8⟩ := h
  have q : Eqx [15] s (up s 15 w (nI v)) := Eqx.rf.up (by simp)
  refine ⟨⟨⟨t1, t2, t3, fun w' hw' => ?_⟩, a2, a3, a4, a5⟩, ?_, ⟨?_, ?_, fun x hx => ?_, fun w' hw' => ?_⟩, XSt_q g2 q (by decide), XX_q g3 q (by decide) (by decide), XW_q g4 q (by decide) (by decide), XRs_q g5 q (by decide), XU_q g6 q (by decide) (by decide), XK_q g7 q (by decide) (by decide), XN_q g8 q (by decide)⟩
  · have := t4 w' hw'
    show 1 ≤ tWo (gT A) w' ∧ tWo (gT A) w' ≤ 99 ∧ 1 ≤ uO (tTe (gT A)) w v w' ∧ uO (tTe (gT A)) w v w' ≤ 9
    unfold uO
    split <;> omega
  · rw [q _ (by decide)]; exact hc
  · rw [q _ (by decide)]; exact x1
  · rw [q _ (by decide)]; exact x2
  · rw [q _ (by decide), q _ (by decide), q _ (by decide), q _ (by decide)]; exact x3 x hx
  · refine ⟨by rw [q _ (by decide)]; exact (x4 w' hw').1, ?_⟩
    show _ = nI (uO (tTe (gT A)) w v w')
    unfold uO
    by_cases hz : w' = w
    · subst hz; rw [if_pos rfl, up_in]
    · rw [if_neg hz, up_out hz]; exact (x4 w' hw').2
theorem X_set (h : XI A B s) : ∃ s', ev (d + 1) 178 0 [.inr 1, .inl a, .inl b, .inl c] [] s = some (0, (o_set A a b c).2, s') ∧ XI (o_set A a b c).1 B s' ∧ fX s s' := by
  have ha := h.1
  have hT := h.2.2.1
  have hN := ha.1.2.1
  unfold o_set
  by_cases hw : inN a (tN (gT A)) = false
  · rw [if_pos hw]
    refine ⟨s, ?_, h, fun _ _ => rfl⟩
    rw [E178_0, x_hasWall hT, hw]
    simp (disch := omega) only [bI_f, lit, nI_add, pk_mul, n_sub, n_addneg, nle_t, nle_f, nlt_t, nlt_f, neq_t, neq_f, n_inb, n_ix, bnd_some, if_true, if_false, ite_tt, ite_ff, not_true_eq_false, not_false_eq_true, eq_self, false_or, or_false, true_or, or_true]
  have hw' : inN a (tN (gT A)) = true := by simpa using hw
  rw [if_neg hw]
  obtain ⟨w, hw2, rfl⟩ := inN_t (by omega) hw'
  rw [n_ix (by omega)]
  have n10 : ¬ (nI 1 = nI 0) := by decide +kernel
  by_cases g : b = nI 0 ∧ ¬ c < nI 1 ∧ ¬ nI 99 < c
  · rw [if_pos g]
    obtain ⟨rfl, g1, g2⟩ := g
    obtain ⟨v, rfl, v1, v2⟩ := rng_t (by omega) g1 g2
    rw [n_ix (by omega)]
    refine ⟨_, ?_, XI_sWo h hw2 v1 v2, fX_q (P := [14]) (Eqx.rf.up (by simp)) (by decide)⟩
    have e := (hT.2.2.2 w hw2).1
    rw [E178_0, x_hasWall hT, hw']
    simp (disch := omega) only [bI_t, g1, g2, e, E160_0, lit, nI_add, pk_mul, n_sub, n_addneg, nle_t, nle_f, nlt_t, nlt_f, neq_t, neq_f, n_inb, n_ix, bnd_some, if_true, if_false, ite_tt, ite_ff, not_true_eq_false, not_false_eq_true, eq_self, false_or, or_false, true_or, or_true]
  rw [if_neg g]
  by_cases g' : b = nI 1 ∧ ¬ c < nI 1 ∧ ¬ nI 9 < c
  · rw [if_pos g']
    obtain ⟨rfl, g1, g2⟩ := g'
    obtain ⟨v, rfl, v1, v2⟩ := rng_t (by omega) g1 g2
    rw [n_ix (by omega)]
    refine ⟨_, ?_, XI_sTe h hw2 v1 v2, fX_q (P := [15]) (Eqx.rf.up (by simp)) (by decide)⟩
    have e := (hT.2.2.2 w hw2).2
    rw [E178_0, x_hasWall hT, hw']
    simp (disch := omega) only [bI_t, n10, g1, g2, e, E178_38, E161_0, lit, nI_add, pk_mul, n_sub, n_addneg, nle_t, nle_f, nlt_t, nlt_f, neq_t, neq_f, n_inb, n_ix, bnd_some, if_true, if_false, ite_tt, ite_ff, not_true_eq_false, not_false_eq_true, eq_self, false_or, or_false, true_or, or_true]
  rw [if_neg g']
  refine ⟨s, ?_, h, fun _ _ => rfl⟩
  have r : ev (d + 1) 178 38 [.inr 1, .inl (nI w), .inl b, .inl c] [] s = some (0, -nI 1, s) := by
    rw [E178_38, E178_64]
    by_cases z1 : b = nI 1
    · by_cases z2 : c < nI 1
      · simp only [lit, z1, z2, if_true, if_false, not_true_eq_false, not_false_eq_true]
      · by_cases z3 : nI 9 < c
        · simp only [lit, z1, z2, z3, if_true, if_false, not_true_eq_false, not_false_eq_true]
        · exact absurd ⟨z1, z2, z3⟩ g'
    · simp only [lit, z1, if_true, if_false, not_true_eq_false, not_false_eq_true]
  rw [E178_0, x_hasWall hT, hw']
  simp (disch := omega) only [bI_t, r, lit, nI_add, pk_mul, n_sub, n_addneg, nle_t, nle_f, nlt_t, nlt_f, neq_t, neq_f, n_inb, n_ix, bnd_some, if_true, if_false, ite_tt, ite_ff, not_true_eq_false, not_false_eq_true, eq_self, false_or, or_false, true_or, or_true]
  by_cases z1 : b = nI 0
  · by_cases z2 : c < nI 1
    · simp only [lit, z1, z2, if_true, if_false, not_true_eq_false, not_false_eq_true]
    · by_cases z3 : nI 99 < c
      · simp only [lit, z1, z2, z3, if_true, if_false, not_true_eq_false, not_false_eq_true]
      · exact absurd ⟨z1, z2, z3⟩ g
  · simp only [lit, z1, if_true, if_false, not_true_eq_false, not_false_eq_true]
theorem X_wall (h : XI A B s) : ∃ s', (match o_wall A a b with
    | some v => ev (d + 1 + 1 + 1) 176 0 [.inr 1, .inl a, .inl b] [] s = some (0, v, s')
    | none => ev (d + 1 + 1 + 1) 176 0 [.inr 1, .inl a, .inl b] [] s = some (12, 0, s') ∨ ev (d + 1 + 1 + 1) 176 0 [.inr 1, .inl a, .inl b] [] s = some (181, 0, s')) ∧ XI A B s' ∧ fX s s' := by
  have ha := h.1
  have hT := h.2.2.1
  have hc := h.2.1
  have hN := ha.1.2.1
  have hk : isK 36 := Or.inl rfl
  unfold o_wall
  by_cases hw : inN a (tN (gT A)) = false
  · rw [if_pos hw]
    refine ⟨s, Or.inl ?_, h, fun _ _ => rfl⟩
    rw [E176_0, x_hasWall hT, hw]
    simp (disch := omega) only [bI_f, lit, nI_add, pk_mul, n_sub, n_addneg, nle_t, nle_f, nlt_t, nlt_f, neq_t, neq_f, n_inb, n_ix, bnd_some, if_true, if_false, ite_tt, ite_ff, not_true_eq_false, not_false_eq_true, eq_self, false_or, or_false, true_or, or_true]
  have hw' : inN a (tN (gT A)) = true := by simpa using hw
  rw [if_neg hw]
  obtain ⟨w, hw2, rfl⟩ := inN_t (by omega) hw'
  rw [n_ix (by omega)]
  have h8 : w < 8 := by omega
  have r0 := x_worth (d := d + 1 + 1) ha.1 hT hw2
  have r1 := x_term (d := d + 1 + 1) ha.1 hT hw2
  have r2 := x_wordOf (d := d + 1 + 1) hk hc h8
  have r3 := x_hanging (d := d + 1) hc h8
  have r4 := x_missing (d := d + 1 + 1) hk hc h8
  have r5 := x_isUp (d := d + 1 + 1) ha.1 (ha.2.1.1 w) hk hc h8
  have r6 := x_waited (d := d + 1 + 1) hk hc h8
  have r7 := x_shown (d := d + 1 + 1) hk hc h8
  have r8 := x_hasWord (d := d + 1 + 1) ha.1 (ha.2.1.1 w) hk hc h8
  rw [E176_0, x_hasWall hT, hw', bnd_some, if_pos (show ¬ bI true = 0 by decide +kernel)]
  by_cases g0 : b = nI 0
  · rw [if_pos (show b = 0 from g0), if_pos g0, r0, bnd_some]
    exact ⟨s, rfl, h, fun _ _ => rfl⟩
  rw [if_neg (show ¬ b = 0 from g0), if_neg g0]
  by_cases g1 : b = nI 1
  · rw [if_pos (show b = 1 from g1), if_pos g1, r1, bnd_some]
    exact ⟨s, rfl, h, fun _ _ => rfl⟩
  rw [if_neg (show ¬ b = 1 from g1), if_neg g1]
  by_cases g2 : b = nI 2
  · rw [if_pos (show b = 2 from g2), if_pos g2, r2, bnd_some]
    exact ⟨s, rfl, h, fun _ _ => rfl⟩
  rw [if_neg (show ¬ b = 2 from g2), if_neg g2]
  by_cases g3 : b = nI 3
  · rw [if_pos (show b = 3 from g3), if_pos g3, r3, bnd_some]
    exact ⟨s, rfl, h, fun _ _ => rfl⟩
  rw [if_neg (show ¬ b = 3 from g3), if_neg g3]
  by_cases g4 : b = nI 4
  · rw [if_pos (show b = 4 from g4), if_pos g4, r4, bnd_some]
    exact ⟨s, rfl, h, fun _ _ => rfl⟩
  rw [if_neg (show ¬ b = 4 from g4), if_neg g4]
  by_cases g5 : b = nI 5
  · rw [if_pos (show b = 5 from g5), if_pos g5, r5, bnd_some]
    refine ⟨s, ?_, h, fun _ _ => rfl⟩
    rw [E176_133, E176_133]
    cases isU (gT A) (gS A) w <;> rfl
  rw [if_neg (show ¬ b = 5 from g5), if_neg g5]
  by_cases g6 : b = nI 6
  · rw [if_pos (show b = 6 from g6), if_pos g6, r6, bnd_some]
    exact ⟨s, rfl, h, fun _ _ => rfl⟩
  rw [if_neg (show ¬ b = 6 from g6), if_neg g6]
  by_cases g7 : b = nI 7
  · rw [if_pos (show b = 7 from g7), if_pos g7, r7, bnd_some]
    exact ⟨s, rfl, h, fun _ _ => rfl⟩
  rw [if_neg (show ¬ b = 7 from g7), if_neg g7]
  by_cases g8 : b = nI 8
  · rw [if_pos (show b = 8 from g8), if_pos g8, r8, bnd_some]
    cases hh : isW (gS A) w with
    | false =>
      refine ⟨s, ?_, h, fun _ _ => rfl⟩
      rw [if_neg (show ¬ (false = true) by simp), if_pos (show bI false = 0 from rfl), E176_179]
      rfl
    | true =>
      obtain ⟨x, hx, -, -⟩ := isW_lt ha.2.1 hh
      obtain ⟨s1, e1, q1⟩ := x_of2 (d := d) (kr := 16) ha.1 hT ha.2.1 (Or.inl rfl) h.2.2.2.2.2.2.1.1 hk hc h8 hx
      rw [show mRf 16 3 = 18 by decide +kernel] at q1
      refine ⟨s1, ?_, XI_same h q1 (by decide) (by decide), fX_q q1 (by decide)⟩
      rw [if_pos rfl, if_neg (show ¬ bI true = 0 by decide +kernel), e1, bnd_some, E176_179]
  rw [if_neg (show ¬ b = 8 from g8), if_neg g8]
  exact ⟨s, Or.inr rfl, h, fun _ _ => rfl⟩
end XCD
/-! CALLS: counted, forged, liars, forget -/
def cAt (C : List (Nat × Nat × Nat)) (i : Nat) : Nat × Nat × Nat := C.getD i (0, 0, 0)
/-- what was counted last of the first n -/
def ltN (C : List (Nat × Nat × Nat)) (w l n : Nat) : Nat := itr (fun i b => if (cAt C i).1 = w ∧ (cAt C i).2.1 = l then (cAt C i).2.2 else b) n 0
theorem ltN_s {C : List (Nat × Nat × Nat)} {w l n : Nat} : ltN C w l (n + 1) = if (cAt C n).1 = w ∧ (cAt C n).2.1 = l then (cAt C n).2.2 else ltN C w l n := rfl
def ltC (C : List (Nat × Nat × Nat)) (w l : Nat) : Nat := ltN C w l C.length
def bey (A : aA) (l : Nat) : Nat := sm (fun w => ltC (gC A) w l) 8 - stk (gS A) l
def o_forged (A : aA) : aA × Int32 := (wW A (rowN (fun l => nI (bey A l)) 10), nI (sm (bey A) 10))
def anyN (p : Nat → Bool) (n : Nat) : Bool := itr (fun i b => b || p i) n false
theorem anyN_s {p : Nat → Bool} {n : Nat} : anyN p (n + 1) = (anyN p n || p n) := rfl
def liA (A : aA) (w : Nat) : Bool := anyN (fun l => decide (sG (gS A) w l < ltC (gC A) w l)) 10
def o_liars (A : aA) : Int32 := nI (bts (liA A) (tN (gT A)))
def o_counted (A : aA) (w l n : Int32) : aA × Int32 := if inN w (tN (gT A)) = false ∨ inN l 10 = false ∨ inN n 21 = false ∨ (gC A).length = 12 then (A, -nI 1) else (wC A (gC A ++ [(ix w, ix l, ix n)]), nI ((gC A).length + 1))
section XCE
variable {d B l w v i : Nat} {s s' : mS} {T : aT} {S : aS} {A : aA} {a b c n : Int32} {C : List (Nat × Nat × Nat)}
theorem ltC_le (hC : ∀ c ∈ C, c.1 < tN T ∧ c.2.1 < 10 ∧ c.2.2 ≤ 20) : ltC C w l ≤ 20 := by
  have : ∀ n, n ≤ C.length → ltN C w l n ≤ 20 := by
    intro n
    induction n with
    | zero => intro _; exact Nat.zero_le _
    | succ n ih =>
      intro hn
      rw [ltN_s]
      split
      · have e : cAt C n = C[n] := by unfold cAt; rw [List.getD_eq_getElem?_getD, List.getElem?_eq_getElem (by omega)]; rfl
        rw [e]
        exact (hC _ (List.getElem_mem _)).2.2
      · exact ih (by omega)
  exact this _ (Nat.le_refl _)
theorem x_latest (h : XN C s) (hl : C.length ≤ 12) (hC : ∀ c ∈ C, c.1 < tN T ∧ c.2.1 < 10 ∧ c.2.2 ≤ 20) (hN : tN T ≤ 8) (hw : w < 2147483648) (hll : l < 2147483648) : ev d 3 0 [.inr 63, .inl (nI w), .inl (nI l), .inr 0] [] s = some (0, nI (ltC C w l), s) := by
  have h1 : s 63 3 = nI C.length := h.1
  have key : ∀ n, n ≤ C.length → ev d 3 7 [.inr 63, .inl (nI w), .inl (nI l), .inl (nI n + -nI 1)] [] s = some (0, nI (ltN C w l n), s) := by
    intro n
    induction n with
    | zero =>
      intro _
      rw [E3_7]
      exact if_pos (by decide +kernel)
    | succ n ih =>
      intro hn
      have e : cAt C n = C[n] := by unfold cAt; rw [List.getD_eq_getElem?_getD, List.getElem?_eq_getElem (by omega)]; rfl
      have hm := hC C[n] (List.getElem_mem _)
      obtain ⟨g1, g2, g3⟩ := h.2 n C[n] (List.getElem?_eq_getElem (by omega))
      rw [E3_7, ltN_s, n_addneg (by omega), e, Nat.add_sub_cancel]
      simp (disch := omega) only [g1, g2, g3, lit, nI_add, pk_mul, n_sub, n_addneg, nle_t, nle_f, nlt_t, nlt_f, neq_t, neq_f, n_inb, n_ix, bnd_some, if_true, if_false, ite_tt, ite_ff, not_true_eq_false, not_false_eq_true, eq_self, false_or, or_false, true_or, or_true]
      by_cases z1 : C[n].1 = w
      · by_cases z2 : C[n].2.1 = l
        · rw [if_pos (show C[n].1 = w ∧ C[n].2.1 = l from ⟨z1, z2⟩)]
          simp (disch := omega) only [z1, z2, lit, nI_add, pk_mul, n_sub, n_addneg, nle_t, nle_f, nlt_t, nlt_f, neq_t, neq_f, n_inb, n_ix, bnd_some, if_true, if_false, ite_tt, ite_ff, not_true_eq_false, not_false_eq_true, eq_self, false_or, or_false, true_or, or_true]
        · rw [if_neg (show ¬ (C[n].1 = w ∧ C[n].2.1 = l) from fun z => z2 z.2), ← ih (by omega)]
          simp (disch := omega) only [z1, E3_38, lit, nI_add, pk_mul, n_sub, n_addneg, nle_t, nle_f, nlt_t, nlt_f, neq_t, neq_f, n_inb, n_ix, bnd_some, if_true, if_false, ite_tt, ite_ff, not_true_eq_false, not_false_eq_true, eq_self, false_or, or_false, true_or, or_true]
      · rw [if_neg (show ¬ (C[n].1 = w ∧ C[n].2.1 = l) from fun z => z1 z.1), ← ih (by omega)]
        simp (disch := omega) only [E3_38, lit, nI_add, pk_mul, n_sub, n_addneg, nle_t, nle_f, nlt_t, nlt_f, neq_t, neq_f, n_inb, n_ix, bnd_some, if_true, if_false, ite_tt, ite_ff, not_true_eq_false, not_false_eq_true, eq_self, false_or, or_false, true_or, or_true]
  rw [E3_0, h1]
  have e : nI C.length - 1 = nI C.length + -nI 1 := Int32.sub_eq_add_neg _ _
  rw [e]
  exact key _ (Nat.le_refl _)
theorem x_csum (h : XN C s) (hl : C.length ≤ 12) (hC : ∀ c ∈ C, c.1 < tN T ∧ c.2.1 < 10 ∧ c.2.2 ≤ 20) (hN : tN T ≤ 8) (hll : l < 10) : ev (d + 1) 4 0 [.inr 63, .inl (nI l), .inr 0, .inr 0] [] s = some (0, nI (sm (fun w => ltC C w l) 8), s) := by
  have g := loopU (fun i a => ev (d + 1) 4 4 [.inr 63, .inl (nI l), .inl (nI a), .inl (nI i)] [] s) (fun i a => a + ltC C i l) 8 (fun i a hi => by
    rw [E4_4]
    simp (disch := omega) only [x_latest (d := d) h hl hC hN (show i < 2147483648 by omega) (show l < 2147483648 by omega), lit, nI_add, pk_mul, n_sub, n_addneg, nle_t, nle_f, nlt_t, nlt_f, neq_t, neq_f, n_inb, n_ix, bnd_some, if_true, if_false, ite_tt, ite_ff, not_true_eq_false, not_false_eq_true, eq_self, false_or, or_false, true_or, or_true]) 0
  rw [E4_0]
  simp only [lit]
  refine g.trans ?_
  rw [E4_4]
  simp (disch := omega) only [lit, nI_add, pk_mul, n_sub, n_addneg, nle_t, nle_f, nlt_t, nlt_f, neq_t, neq_f, n_inb, n_ix, bnd_some, if_true, if_false, ite_tt, ite_ff, not_true_eq_false, not_false_eq_true, eq_self, false_or, or_false, true_or, or_true]
  rfl
theorem mmax0 {a b : Nat} (ha : a < 2147483648) (hb : b < 2147483648) : mmax (nI 0) (nI a - nI b) = nI (a - b) := by
  unfold mmax
  by_cases h : b ≤ a
  · rw [pk_sub h]
    by_cases h0 : a - b = 0
    · rw [h0, if_neg (by decide)]
    · rw [if_pos (nI_lt (by omega) (by omega))]
  · have e : ¬ (nI 0 < nI a - nI b) := by
      rw [Int32.lt_iff_toInt_lt, toI (by omega), Int32.toInt_sub, toI ha, toI hb]
      have := @Int.bmod_lt
      rw [Int.bmod_eq_of_le (by omega) (by omega)]
      omega
    rw [if_neg e]
    congr 1
    omega
theorem X_forged (h : XI A B s) : ∃ s', ev (d + 1 + 1) 211 0 [.inr 1, .inr 0, .inr 0, .inr 0] [] s = some (0, (o_forged A).2, s') ∧ XI (o_forged A).1 B s' ∧ fX s s' := by
  have ha := h.1
  have hC := ha.2.2.2.2.2.2.2.2
  have hN := ha.1.2.1
  unfold o_forged
  have q0 : Eqx [4, 5] s (up s 4 1 (nI 0)) := Eqx.rf.up (by simp)
  have key : ∀ n, n ≤ 10 → ∃ s', ev (d + 1 + 1) 211 12 [.inr 1, .inl (nI 0), .inl (nI 0), .inr 0] [] (up s 4 1 (nI 0)) = ev (d + 1 + 1) 211 12 [.inr 1, .inl (nI (sm (bey A) n)), .inl (nI n), .inr 0] [] s' ∧ XW (rowN (fun l => nI (bey A l)) n) s' ∧ Eqx [4, 5] s s' := by
    intro n
    induction n with
    | zero => intro _; exact ⟨_, rfl, XW_nil, q0⟩
    | succ n ih =>
      intro hn
      obtain ⟨s1, e1, w1, q1⟩ := ih (by omega)
      have e2 := x_csum (d := d) (l := n) (XN_q h.2.2.2.2.2.2.2.2.2 q1 (by decide)) hC.1 hC.2 hN (by omega)
      have e3 := x_tstock (d := d + 1) (l := n) (XSt_q h.2.2.2.1 q1 (by decide)) (by omega)
      obtain ⟨s2, e4, w2, q2⟩ := x_add (d := d + 1) (a := nI (bey A n)) w1 (by rw [rowN_len]; omega)
      have b1 : sm (fun w => ltC (gC A) w n) 8 ≤ 8 * 20 := sm_le (fun w _ => ltC_le (T := gT A) hC.2)
      have b2 := ha.2.1.2.1 n (by omega)
      have em : mmax (nI 0) (nI (sm (fun w => ltC (gC A) w n) 8) - nI (stk (gS A) n)) = nI (bey A n) := mmax0 (by omega) (by omega)
      refine ⟨s2, ?_, w2, q1.tr q2⟩
      rw [e1, E211_12]
      simp (disch := omega) only [lit, nle_f, if_false, e2, e3, bnd_some, em, e4, if_true, nI_add]
      rfl
  obtain ⟨s', e1, w1, q1⟩ := key 10 (Nat.le_refl _)
  refine ⟨s', ?_, XI_row h q1 (by decide) (by decide) w1 (by rw [rowN_len]; omega), fX_q q1 (by decide)⟩
  rw [E211_0]
  simp (disch := omega) only [x_clear, lit, nI_add, pk_mul, n_sub, n_addneg, nle_t, nle_f, nlt_t, nlt_f, neq_t, neq_f, n_inb, n_ix, bnd_some, if_true, if_false, ite_tt, ite_ff, not_true_eq_false, not_false_eq_true, eq_self, false_or, or_false, true_or, or_true]
  rw [e1, E211_12]
  simp (disch := omega) only [lit, nI_add, pk_mul, n_sub, n_addneg, nle_t, nle_f, nlt_t, nlt_f, neq_t, neq_f, n_inb, n_ix, bnd_some, if_true, if_false, ite_tt, ite_ff, not_true_eq_false, not_false_eq_true, eq_self, false_or, or_false, true_or, or_true]
theorem X_liars (h : XI A B s) : ev (d + 1) 212 0 [.inr 1, .inr 0, .inr 0, .inr 0] [] s = some (0, o_liars A, s) := by
  have ha := h.1
  have hT := h.2.2.1
  have hc := h.2.1
  have hC := ha.2.2.2.2.2.2.2.2
  have hN := ha.1.2.1
  have hk : isK 36 := Or.inl rfl
  have hX := h.2.2.2.2.2.2.2.2.2
  have inner : ∀ w m, w < tN (gT A) → ev (d + 1) 212 17 [.inr 1, .inl (nI m), .inl (nI w), .inl (nI 0)] [] s = ev (d + 1) 212 17 [.inr 1, .inl (nI (m ||| (if liA A w = true then 2 ^ w else 0))), .inl (nI w), .inl (nI 10)] [] s := fun w m hw => by
    have g := loopU (fun i b => ev (d + 1) 212 17 [.inr 1, .inl (nI (m ||| (if b = true then 2 ^ w else 0))), .inl (nI w), .inl (nI i)] [] s) (fun l b => b || decide (sG (gS A) w l < ltC (gC A) w l)) 10 (fun i b hi => by
      have e1 := x_latest (d := d) (w := w) (l := i) hX hC.1 hC.2 hN (by omega) (by omega)
      have e2 := x_hung (d := d) hk hc (show w < 8 by omega) hi
      have b1 := ltC_le (w := w) (l := i) (T := gT A) hC.2
      have b2 := sG_le (l := i) ha.1 (ha.2.1.1 w)
      rw [E212_17]
      simp (disch := omega) only [e1, e2, lit, nI_add, pk_mul, n_sub, n_addneg, nle_t, nle_f, nlt_t, nlt_f, neq_t, neq_f, n_inb, n_ix, bnd_some, if_true, if_false, ite_tt, ite_ff, not_true_eq_false, not_false_eq_true, eq_self, false_or, or_false, true_or, or_true]
      by_cases hz : sG (gS A) w i < ltC (gC A) w i
      · simp (disch := omega) only [E212_50, n_pow, n_or, decide_eq_true hz, Bool.or_true, lit, nI_add, pk_mul, n_sub, n_addneg, nle_t, nle_f, nlt_t, nlt_f, neq_t, neq_f, n_inb, n_ix, bnd_some, if_true, if_false, ite_tt, ite_ff, not_true_eq_false, not_false_eq_true, eq_self, false_or, or_false, true_or, or_true]
        cases b with
        | false => simp (disch := omega) only [Bool.false_eq_true, Nat.or_zero, lit, nI_add, pk_mul, n_sub, n_addneg, nle_t, nle_f, nlt_t, nlt_f, neq_t, neq_f, n_inb, n_ix, bnd_some, if_true, if_false, ite_tt, ite_ff, not_true_eq_false, not_false_eq_true, eq_self, false_or, or_false, true_or, or_true]
        | true => simp (disch := omega) only [Nat.or_assoc, Nat.or_self, lit, nI_add, pk_mul, n_sub, n_addneg, nle_t, nle_f, nlt_t, nlt_f, neq_t, neq_f, n_inb, n_ix, bnd_some, if_true, if_false, ite_tt, ite_ff, not_true_eq_false, not_false_eq_true, eq_self, false_or, or_false, true_or, or_true]
      · simp (disch := omega) only [E212_50, decide_eq_false hz, Bool.or_false, lit, nI_add, pk_mul, n_sub, n_addneg, nle_t, nle_f, nlt_t, nlt_f, neq_t, neq_f, n_inb, n_ix, bnd_some, if_true, if_false, ite_tt, ite_ff, not_true_eq_false, not_false_eq_true, eq_self, false_or, or_false, true_or, or_true]) false
    simp only [Bool.false_eq_true, if_false, Nat.or_zero] at g
    exact g
  have outer := loopU (fun i a => ev (d + 1) 212 4 [.inr 1, .inl (nI a), .inl (nI i), .inr 0] [] s) (fun i a => a ||| (if liA A i = true then 2 ^ i else 0)) (tN (gT A)) (fun i a hi => by
    rw [E212_4, x_walls hT]
    simp (disch := omega) only [lit, nI_add, pk_mul, n_sub, n_addneg, nle_t, nle_f, nlt_t, nlt_f, neq_t, neq_f, n_inb, n_ix, bnd_some, if_true, if_false, ite_tt, ite_ff, not_true_eq_false, not_false_eq_true, eq_self, false_or, or_false, true_or, or_true]
    rw [inner i a hi, E212_17]
    simp (disch := omega) only [lit, nI_add, pk_mul, n_sub, n_addneg, nle_t, nle_f, nlt_t, nlt_f, neq_t, neq_f, n_inb, n_ix, bnd_some, if_true, if_false, ite_tt, ite_ff, not_true_eq_false, not_false_eq_true, eq_self, false_or, or_false, true_or, or_true]) 0
  rw [E212_0]
  simp only [lit]
  refine outer.trans ?_
  rw [E212_4, x_walls hT]
  simp (disch := omega) only [lit, nI_add, pk_mul, n_sub, n_addneg, nle_t, nle_f, nlt_t, nlt_f, neq_t, neq_f, n_inb, n_ix, bnd_some, if_true, if_false, ite_tt, ite_ff, not_true_eq_false, not_false_eq_true, eq_self, false_or, or_false, true_or, or_true]
  rfl
theorem X_forget (h : XI A B s) : ∃ s', ev (d + 1) 213 0 [.inr 1, .inr 0] [] s = some (0, nI (gC A).length, s') ∧ XI (wC A []) B s' ∧ fX s s' := by
  obtain ⟨⟨a1, a2, a3, a4, a5, a6, a7, a8, a9⟩, hc, h1, h2, h3, h4, h5, h6, h7, h8⟩ := h
  have q : Eqx [63] s (up s 63 3 0) := Eqx.rf.up (by simp)
  refine ⟨_, ?_, ⟨⟨a1, a2, a3, a4, a5, a6, a7, a8, Nat.zero_le _, fun c hc => by cases hc⟩, by rw [q _ (by decide)]; exact hc, XT_q h1 q (by decide), XSt_q h2 q (by decide), XX_q h3 q (by decide) (by decide), XW_q h4 q (by decide) (by decide), XRs_q h5 q (by decide), XU_q h6 q (by decide) (by decide), XK_q h7 q (by decide) (by decide), ⟨up_in, fun i c hi => by cases hi⟩⟩, fX_q q (by decide)⟩
  rw [E213_0, x_csize h8]
  simp (disch := omega) only [E1_0, lit, nI_add, pk_mul, n_sub, n_addneg, nle_t, nle_f, nlt_t, nlt_f, neq_t, neq_f, n_inb, n_ix, bnd_some, if_true, if_false, ite_tt, ite_ff, not_true_eq_false, not_false_eq_true, eq_self, false_or, or_false, true_or, or_true]
theorem X_counted (h : XI A B s) : ∃ s', ev (d + 1) 210 0 [.inr 1, .inl a, .inl b, .inl c] [] s = some (0, (o_counted A a b c).2, s') ∧ XI (o_counted A a b c).1 B s' ∧ fX s s' := by
  have hh := h
  obtain ⟨⟨a1, a2, a3, a4, a5, a6, a7, a8, a9, a10⟩, hc, h1, h2, h3, h4, h5, h6, h7, h8⟩ := h
  have hN := a1.2.1
  unfold o_counted
  by_cases hw : inN a (tN (gT A)) = false
  · rw [if_pos (Or.inl hw)]
    refine ⟨s, ?_, hh, fun _ _ => rfl⟩
    rw [E210_0, x_hasWall h1, hw]
    simp (disch := omega) only [bI_f, E210_28, lit, nI_add, pk_mul, n_sub, n_addneg, nle_t, nle_f, nlt_t, nlt_f, neq_t, neq_f, n_inb, n_ix, bnd_some, if_true, if_false, ite_tt, ite_ff, not_true_eq_false, not_false_eq_true, eq_self, false_or, or_false, true_or, or_true]
  have hw' : inN a (tN (gT A)) = true := by simpa using hw
  by_cases hl : inN b 10 = false
  · rw [if_pos (Or.inr (Or.inl hl))]
    refine ⟨s, ?_, hh, fun _ _ => rfl⟩
    rw [E210_0, x_hasWall h1, hw']
    simp (disch := omega) only [bI_t, x_isLetter, hl, bI_f, E210_28, lit, nI_add, pk_mul, n_sub, n_addneg, nle_t, nle_f, nlt_t, nlt_f, neq_t, neq_f, n_inb, n_ix, bnd_some, if_true, if_false, ite_tt, ite_ff, not_true_eq_false, not_false_eq_true, eq_self, false_or, or_false, true_or, or_true]
  have hl' : inN b 10 = true := by simpa using hl
  by_cases hn : inN c 21 = false
  · rw [if_pos (Or.inr (Or.inr (Or.inl hn)))]
    refine ⟨s, ?_, hh, fun _ _ => rfl⟩
    rw [E210_0, x_hasWall h1, hw']
    simp (disch := omega) only [bI_t, x_isLetter, hl', E210_28, lit, nI_add, pk_mul, n_sub, n_addneg, nle_t, nle_f, nlt_t, nlt_f, neq_t, neq_f, n_inb, n_ix, bnd_some, if_true, if_false, ite_tt, ite_ff, not_true_eq_false, not_false_eq_true, eq_self, false_or, or_false, true_or, or_true]
    rcases inN_f hn with z | z
    · simp only [lit, z, if_true, if_false, not_true_eq_false, not_false_eq_true]
    · by_cases z2 : c < nI 0
      · simp only [lit, z2, if_true, if_false, not_true_eq_false, not_false_eq_true]
      · simp only [lit, z2, nle_of (n := 20) (by omega) z, if_true, if_false, not_true_eq_false, not_false_eq_true]
  have hn' : inN c 21 = true := by simpa using hn
  obtain ⟨w, hw2, rfl⟩ := inN_t (by omega) hw'
  obtain ⟨l, hl2, rfl⟩ := inN_t (by omega) hl'
  obtain ⟨m, hm2, rfl⟩ := inN_t (by omega) hn'
  rw [n_ix (by omega), n_ix (by omega), n_ix (by omega)]
  have e0 : s 63 3 = nI (gC A).length := h8.1
  have n10 : ¬ (nI 1 = nI 0) := by decide +kernel
  by_cases hf : (gC A).length = 12
  · rw [if_pos (Or.inr (Or.inr (Or.inr hf)))]
    refine ⟨s, ?_, hh, fun _ _ => rfl⟩
    have nt : ev d 2 0 [.inr 63, .inl (nI w), .inl (nI l), .inl (nI m)] [] s = some (0, nI 0, s) := by
      rw [E2_0, e0, hf]
      simp (disch := omega) only [lit, nI_add, pk_mul, n_sub, n_addneg, nle_t, nle_f, nlt_t, nlt_f, neq_t, neq_f, n_inb, n_ix, bnd_some, if_true, if_false, ite_tt, ite_ff, not_true_eq_false, not_false_eq_true, eq_self, false_or, or_false, true_or, or_true]
    rw [E210_0, x_hasWall h1, hw']
    simp (disch := omega) only [bI_t, x_isLetter, hl', nt, E210_54, lit, nI_add, pk_mul, n_sub, n_addneg, nle_t, nle_f, nlt_t, nlt_f, neq_t, neq_f, n_inb, n_ix, bnd_some, if_true, if_false, ite_tt, ite_ff, not_true_eq_false, not_false_eq_true, eq_self, false_or, or_false, true_or, or_true]
  rw [if_neg (by simp [hw', hl', hn', hf])]
  have q : Eqx [63, 64, 65, 66] s (up (up (up (up s 64 (gC A).length (nI w)) 65 (gC A).length (nI l)) 66 (gC A).length (nI m)) 63 3 (nI ((gC A).length + 1))) := (((Eqx.rf.up (by simp)).up (by simp)).up (by simp)).up (by simp)
  have hX : XN (gC A ++ [(w, l, m)]) (up (up (up (up s 64 (gC A).length (nI w)) 65 (gC A).length (nI l)) 66 (gC A).length (nI m)) 63 3 (nI ((gC A).length + 1))) := by
    refine ⟨by rw [show 3 = 3 from rfl, up_in, List.length_append]; rfl, fun i c hi => ?_⟩
    by_cases hz : i = (gC A).length
    · subst hz
      rw [List.getElem?_append_right (Nat.le_refl _), Nat.sub_self] at hi
      have hi : some (w, l, m) = some c := hi
      cases hi
      refine ⟨?_, ?_, ?_⟩
      · rw [up_ne (by decide), up_ne (by decide), up_ne (by decide), up_in]
      · rw [up_ne (by decide), up_ne (by decide), up_in]
      · rw [up_ne (by decide), up_in]
    · have hi2 : (gC A)[i]? = some c := by
        rw [← hi, List.getElem?_append_left]
        have := (List.getElem?_eq_some_iff.mp hi).1
        rw [List.length_append] at this
        have : i < (gC A).length + 1 := this
        omega
      obtain ⟨y1, y2, y3⟩ := h8.2 i c hi2
      refine ⟨?_, ?_, ?_⟩
      · rw [up_ne (by decide), up_ne (by decide), up_ne (by decide), up_out hz]; exact y1
      · rw [up_ne (by decide), up_ne (by decide), up_out hz, up_ne (by decide)]; exact y2
      · rw [up_ne (by decide), up_out hz, up_ne (by decide), up_ne (by decide)]; exact y3
  refine ⟨_, ?_, ⟨⟨a1, a2, a3, a4, a5, a6, a7, a8, by show (gC A ++ [(w, l, m)]).length ≤ 12; rw [List.length_append]; show (gC A).length + 1 ≤ 12; omega, fun c hc => ?_⟩, by rw [q _ (by decide)]; exact hc, XT_q h1 q (by decide), XSt_q h2 q (by decide), XX_q h3 q (by decide) (by decide), XW_q h4 q (by decide) (by decide), XRs_q h5 q (by decide), XU_q h6 q (by decide) (by decide), XK_q h7 q (by decide) (by decide), hX⟩, fX_q q (by decide)⟩
  · have u1 : (up s 64 (gC A).length (nI w)) 63 3 = nI (gC A).length := by rw [up_ne (by decide)]; exact e0
    have u2 : (up (up s 64 (gC A).length (nI w)) 65 (gC A).length (nI l)) 63 3 = nI (gC A).length := by rw [up_ne (by decide)]; exact u1
    have u3 : (up (up (up s 64 (gC A).length (nI w)) 65 (gC A).length (nI l)) 66 (gC A).length (nI m)) 63 3 = nI (gC A).length := by rw [up_ne (by decide)]; exact u2
    have u4 := x_csize (d := d) hX
    rw [List.length_append] at u4
    have nt : ev d 2 0 [.inr 63, .inl (nI w), .inl (nI l), .inl (nI m)] [] s = some (0, nI 1, up (up (up (up s 64 (gC A).length (nI w)) 65 (gC A).length (nI l)) 66 (gC A).length (nI m)) 63 3 (nI ((gC A).length + 1))) := by
      rw [E2_0, e0]
      simp (disch := omega) only [u1, u2, u3, lit, nI_add, pk_mul, n_sub, n_addneg, nle_t, nle_f, nlt_t, nlt_f, neq_t, neq_f, n_inb, n_ix, bnd_some, if_true, if_false, ite_tt, ite_ff, not_true_eq_false, not_false_eq_true, eq_self, false_or, or_false, true_or, or_true]
    rw [E210_0, x_hasWall h1, hw']
    simp (disch := omega) only [bI_t, x_isLetter, hl', nt, u4, E210_54, lit, nI_add, pk_mul, n_sub, n_addneg, nle_t, nle_f, nlt_t, nlt_f, neq_t, neq_f, n_inb, n_ix, bnd_some, if_true, if_false, ite_tt, ite_ff, not_true_eq_false, not_false_eq_true, eq_self, false_or, or_false, true_or, or_true]
    rfl
  · have hc : c ∈ gC A ++ [(w, l, m)] := hc
    rcases List.mem_append.mp hc with z | z
    · exact a10 c z
    · have : c = (w, l, m) := by simpa using z
      rw [this]
      exact ⟨hw2, hl2, by show m ≤ 20; omega⟩
end XCE
