/-! CALLS: scarce, hoards -/
def scB (A : aA) (l i v : Nat) : Nat := if subS (i + 1) (wdS2 (gS A)) = true ∧ wOf (gT A) (deB A 0) < wOf (gT A) (i + 1) ∧ lkA (fW A) (stk (gS A)) (i + 1) = 1 ∧ 0 < lkS (fW A) (stk (gS A)) (i + 1) l then max v (wOf (gT A) (i + 1)) else v
/-- the most worth with one more of a letter -/
def scD (A : aA) (n l : Nat) : Nat := itr (fun i v => scB A l i v) n (wOf (gT A) (deB A 0))
theorem scD_s {A : aA} {n l : Nat} : scD A (n + 1) l = scB A l n (scD A n l) := rfl
def scL (A : aA) : Nat := bstR (fun l => nI (scD A 255 l)) 9
def o_scarce (A : aA) : aA × Int32 := (wW A [nI (scD A 255 (scL A)) - nI (wOf (gT A) (deB A 0))], nI (scL A))
/-- how many come up with what a wall has -/
def hoV (A : aA) (w : Nat) : Nat := mwN (ndL (gT A) (gS A) true) (bts (isQ (gT A) (gS A)) 8) (fun l => sL (gS A) l + sG (gS A) w l) w 255
def o_hoards (A : aA) : aA × Int32 := if tN (gT A) = 0 then (A, -nI 2) else (wW A [nI (hoV A (bstR (fun w => nI (hoV A w)) (tN (gT A) - 1)))], nI (bstR (fun w => nI (hoV A w)) (tN (gT A) - 1)))
section XS4
variable {d B l w v i x y n am c : Nat} {s s' s1 : mS} {T : aT} {S : aS} {A : aA} {f : Nat → Nat → Nat} {pl : Nat → Nat} {a : Int32}
theorem scD_le (h : ∀ w, (wdS2 (gS A)).testBit w = true → tWo (gT A) w ≤ 99) (h0 : wOf (gT A) (deB A 0) ≤ 792) : scD A n l ≤ 792 := by
  induction n with
  | zero => exact h0
  | succ n ih =>
    rw [scD_s]
    unfold scB
    split
    · next hz =>
      have := wOf_le (T := gT A) h hz.1
      omega
    · exact ih
theorem x_fill52 {v : Int32} : ∃ s', ev d 332 0 [.inr 52, .inl v, .inr 0, .inr 0] [] s = some (0, nI 0, s') ∧ (∀ l, l < 10 → s' 52 l = v) ∧ Eqx [52] s s' := by
  have hk : 52 = 52 ∨ 52 = 59 := Or.inl rfl
  have hm : (mSh 52).2 = 10 := by decide +kernel
  have key : ∀ n, n ≤ 10 → ∃ s', ev d 332 5 [.inr 52, .inl v, .inl (nI 0), .inl (nI 10)] [] s = ev d 332 5 [.inr 52, .inl v, .inl (nI n), .inl (nI 10)] [] s' ∧ (∀ l, l < n → s' 52 l = v) ∧ Eqx [52] s s' := by
    intro n
    induction n with
    | zero => intro _; exact ⟨s, rfl, fun l hl => by omega, Eqx.rf⟩
    | succ n ih =>
      intro hn
      obtain ⟨s1, e1, i1, q1⟩ := ih (by omega)
      refine ⟨up s1 52 n v, ?_, fun l hl => ?_, q1.up (by simp)⟩
      · rw [e1, E332_5 (hk0 := hk), hm]
        simp (disch := omega) only [lit, nle_f, if_false, n_inb, if_true, n_ix, nI_add]
      · by_cases hz : l = n
        · subst hz; exact up_in
        · rw [up_out hz]; exact i1 l (by omega)
  obtain ⟨s', e1, i1, q1⟩ := key 10 (Nat.le_refl _)
  refine ⟨s', ?_, i1, q1⟩
  rw [E332_0 (hk0 := hk), hm, lit 0, e1, E332_5 (hk0 := hk), hm]
  simp (disch := omega) only [lit, nI_add, pk_mul, n_sub, n_addneg, nle_t, nle_f, nlt_t, nlt_f, neq_t, neq_f, n_inb, n_ix, bnd_some, if_true, if_false, ite_tt, ite_ff, not_true_eq_false, not_false_eq_true, eq_self, false_or, or_false, true_or, or_true]
theorem X_scarce (h : XI A B s) (hz : XZ s) : ∃ s', ev (d + 1 + 1 + 1 + 1 + 1) 208 0 [.inr 1, .inr 0] [] s = some (0, (o_scarce A).2, s') ∧ XI (o_scarce A).1 B s' ∧ XZ s' ∧ fM s s' := by
  obtain ⟨s1, e0, e1, q1, i1, z1, p1⟩ := x_words0 (d := d) h hz
  have em := x_dearest (d := d + 1) (c := 0) q1 (by omega)
  obtain ⟨b1, b2⟩ := drN_ok (T := gT A) (f := fW A) (am := wdS2 (gS A)) (pl := stk (gS A)) (c := 0) (n := 255)
  have er : deB A 0 = drN (gT A) (fW A) (wdS2 (gS A)) (stk (gS A)) 0 255 := rfl
  rw [← er] at b1 b2 em
  have hw0 := wOf_le (T := gT A) q1.2.2.2.1 b2
  have ww := x_wS q1 (show deB A 0 < 256 by omega) b2
  have hsc := fun n l => scD_le (A := A) (n := n) (l := l) q1.2.2.2.1 hw0
  have hpl : ∀ l, l < 10 → stk (gS A) l ≤ 20 := h.1.2.1.2.1
  -- the array begins with the worth as it is
  obtain ⟨s2, e2, i2, p2⟩ := x_fill52 (d := d + 1 + 1 + 1) (s := s1) (v := nI (wOf (gT A) (deB A 0)))
  have key : ∀ n, n ≤ 255 → ∃ s', ev (d + 1 + 1 + 1 + 1) 84 21 [.inr 47, .inl (nI (wOf (gT A) (deB A 0))), .inl (nI 1), .inr 0] [] s2 = ev (d + 1 + 1 + 1 + 1) 84 21 [.inr 47, .inl (nI (wOf (gT A) (deB A 0))), .inl (nI (n + 1)), .inr 0] [] s' ∧ (∀ l, l < 10 → s' 52 l = nI (scD A n l)) ∧ Eqx [52] s1 s' := by
    intro n
    induction n with
    | zero => intro _; exact ⟨s2, rfl, i2, p2⟩
    | succ n ih =>
      intro hn
      obtain ⟨s3, e3, i3, p3⟩ := ih (by omega)
      have q3 := XQ_q q1 p3 (by decide) (by decide) (by decide) (by decide)
      have ea := x_among (d := d + 1 + 1 + 1) (a := n + 1) q3.2.2.2.2.1 (by omega)
      have e60 : ∀ r, ev (d + 1 + 1 + 1 + 1) 84 60 [.inr 47, .inl (nI (wOf (gT A) (deB A 0))), .inl (nI (n + 1)), .inr 0] [] r = ev (d + 1 + 1 + 1 + 1) 84 21 [.inr 47, .inl (nI (wOf (gT A) (deB A 0))), .inl (nI (n + 1 + 1)), .inr 0] [] r := fun r => by
        rw [E84_60]
        simp only [lit, nI_add]
      have no : ¬ (subS (n + 1) (wdS2 (gS A)) = true ∧ wOf (gT A) (deB A 0) < wOf (gT A) (n + 1) ∧ lkA (fW A) (stk (gS A)) (n + 1) = 1) → ∀ l, l < 10 → s3 52 l = nI (scD A (n + 1) l) := fun hno l hl => by
        rw [i3 l hl, scD_s]
        unfold scB
        rw [if_neg (fun z => hno ⟨z.1, z.2.1, z.2.2.1⟩)]
      cases hs : subS (n + 1) (wdS2 (gS A)) with
      | false =>
        rw [hs] at ea
        refine ⟨s3, ?_, no (fun z => by rw [hs] at z; cases z.1), p3⟩
        rw [e3, E84_21]
        simp (disch := omega) only [lit, nle_f, if_false, ea, bnd_some, bIf0, if_true, e60]
      | true =>
        rw [hs] at ea
        have w1 := x_wS q3 (show n + 1 < 256 by omega) hs
        have c1 := wOf_le (T := gT A) q3.2.2.2.1 hs
        have el := x_lackAll (d := d + 1 + 1) q3 (show n + 1 < 256 by omega) hs
        have hl0 := lkA_le (f := fW A) (pl := stk (gS A)) (a := n + 1) q3.2.1
        by_cases hw : wOf (gT A) (deB A 0) < wOf (gT A) (n + 1)
        · by_cases h1 : lkA (fW A) (stk (gS A)) (n + 1) = 1
          · have inner : ∀ m, m ≤ 10 → ∃ s4, ev (d + 1 + 1 + 1) 85 2 [.inr 47, .inl (nI (n + 1)), .inl (nI 0)] [] s3 = ev (d + 1 + 1 + 1) 85 2 [.inr 47, .inl (nI (n + 1)), .inl (nI m)] [] s4 ∧ (∀ l, l < m → s4 52 l = nI (scD A (n + 1) l)) ∧ (∀ l, m ≤ l → l < 10 → s4 52 l = nI (scD A n l)) ∧ Eqx [52] s1 s4 := by
              intro m
              induction m with
              | zero => intro _; exact ⟨s3, rfl, fun l hl => by omega, fun l _ hl => i3 l hl, p3⟩
              | succ m ihm =>
                intro hm
                obtain ⟨s4, e4, i4, j4, p4⟩ := ihm (by omega)
                have q4 := XQ_q q1 p4 (by decide) (by decide) (by decide) (by decide)
                have ek := x_lacking (d := d + 1 + 1) (a := n + 1) (l := m) q4 (by omega) hs (by omega)
                have hk := lkS_le (pl := stk (gS A)) (a := n + 1) (l := m) q4.2.1
                have w4 := x_wS q4 (show n + 1 < 256 by omega) hs
                have dm := j4 m (Nat.le_refl _) (by omega)
                have hb := hsc n m
                have e38 : ∀ r, ev (d + 1 + 1 + 1) 85 38 [.inr 47, .inl (nI (n + 1)), .inl (nI m)] [] r = ev (d + 1 + 1 + 1) 85 2 [.inr 47, .inl (nI (n + 1)), .inl (nI (m + 1))] [] r := fun r => by
                  rw [E85_38]
                  simp only [lit, nI_add]
                by_cases hz0 : 0 < lkS (fW A) (stk (gS A)) (n + 1) m
                · have ev' : scD A (n + 1) m = max (scD A n m) (wOf (gT A) (n + 1)) := by
                    rw [scD_s]
                    unfold scB
                    rw [if_pos ⟨hs, hw, h1, hz0⟩]
                  refine ⟨up s4 52 m (nI (scD A (n + 1) m)), ?_, fun l hl => ?_, fun l g1 g2 => by rw [up_out (by omega)]; exact j4 l (by omega) g2, p4.up (by simp)⟩
                  · rw [e4, E85_2]
                    simp (disch := omega) only [lit, nle_f, if_false, ek, bnd_some, n_inb, if_true, n_ix, dm, w4, mmax_n, e38]
                    rw [ev']
                  · by_cases hlm : l = m
                    · subst hlm; exact up_in
                    · rw [up_out hlm]; exact i4 l (by omega)
                · have ev' : scD A (n + 1) m = scD A n m := by
                    rw [scD_s]
                    unfold scB
                    rw [if_neg (fun z => hz0 z.2.2.2)]
                  refine ⟨s4, ?_, fun l hl => ?_, fun l g1 g2 => j4 l (by omega) g2, p4⟩
                  · rw [e4, E85_2]
                    simp (disch := omega) only [lit, nle_f, nle_t, if_false, ek, bnd_some, if_true, e38]
                  · by_cases hlm : l = m
                    · subst hlm; rw [ev']; exact dm
                    · exact i4 l (by omega)
            obtain ⟨s4, e4, i4, -, p4⟩ := inner 10 (Nat.le_refl _)
            have er : ev (d + 1 + 1 + 1) 85 0 [.inr 47, .inl (nI (n + 1)), .inr 0] [] s3 = some (0, nI 0, s4) := by
              rw [E85_0, lit 0, e4, E85_2]
              simp (disch := omega) only [lit, nI_add, pk_mul, n_sub, n_addneg, nle_t, nle_f, nlt_t, nlt_f, neq_t, neq_f, n_inb, n_ix, bnd_some, if_true, if_false, ite_tt, ite_ff, not_true_eq_false, not_false_eq_true, eq_self, false_or, or_false, true_or, or_true]
            refine ⟨s4, ?_, i4, p4⟩
            rw [h1] at el
            rw [e3, E84_21]
            simp (disch := omega) only [lit, nle_f, if_false, ea, bnd_some, bIt0, n_inb, if_true, n_ix, w1, el, not_true_eq_false, er, e60]
          · refine ⟨s3, ?_, no (fun z => h1 z.2.2), p3⟩
            rw [e3, E84_21]
            simp (disch := omega) only [lit, nle_f, if_false, ea, bnd_some, bIt0, n_inb, if_true, n_ix, w1, el, neq_f, not_false_eq_true, e60]
        · refine ⟨s3, ?_, no (fun z => hw z.2.1), p3⟩
          rw [e3, E84_21]
          simp (disch := omega) only [lit, nle_f, nle_t, if_false, ea, bnd_some, bIt0, n_inb, if_true, n_ix, w1, e60]
  obtain ⟨s3, e3, i3, p3⟩ := key 255 (Nat.le_refl _)
  -- the letter
  have fin : ∀ n, n ≤ 9 → ev (d + 1 + 1 + 1 + 1) 84 70 [.inr 47, .inl (nI (wOf (gT A) (deB A 0))), .inl (nI 0), .inl (nI 1)] [] s3 = ev (d + 1 + 1 + 1 + 1) 84 70 [.inr 47, .inl (nI (wOf (gT A) (deB A 0))), .inl (nI (bstR (fun l => nI (scD A 255 l)) n)), .inl (nI (n + 1))] [] s3 := by
    intro n
    induction n with
    | zero => intro _; rfl
    | succ n ih =>
      intro hn
      have hb := bstR_le (v := fun l => nI (scD A 255 l)) (n := n)
      have d1 := i3 (n + 1) (by omega)
      have d2 := i3 (bstR (fun l => nI (scD A 255 l)) n) (by omega)
      rw [ih (by omega), bstR_s, E84_70]
      by_cases hv : nI (scD A 255 (n + 1)) ≤ nI (scD A 255 (bstR (fun l => nI (scD A 255 l)) n))
      · rw [if_pos hv]
        simp (disch := omega) only [lit, nle_f, if_false, n_inb, if_true, n_ix, d1, d2, hv, E84_96, nI_add]
      · rw [if_neg hv]
        simp (disch := omega) only [lit, nle_f, if_false, n_inb, if_true, n_ix, d1, d2, hv, E84_96, nI_add]
  have hb := bstR_le (v := fun l => nI (scD A 255 l)) (n := 9)
  have hbl : bstR (fun l => nI (scD A 255 l)) 9 = scL A := rfl
  have f9 := fin 9 (Nat.le_refl _)
  rw [hbl] at hb f9
  have dl := i3 (scL A) (by omega)
  obtain ⟨s4, hs4⟩ : ∃ s4, s4 = up s3 47 6 (nI (scD A 255 (scL A)) - nI (wOf (gT A) (deB A 0))) := ⟨_, rfl⟩
  have esc : ev (d + 1 + 1 + 1 + 1) 84 0 [.inr 47, .inr 0, .inr 0, .inr 0] [] s1 = some (0, nI (scL A), s4) := by
    rw [E84_0]
    simp (disch := omega) only [lit, em, bnd_some, n_inb, if_true, n_ix, ww, e2]
    rw [e3, E84_21]
    simp (disch := omega) only [lit, nle_t, if_true]
    rw [f9, E84_70]
    simp (disch := omega) only [lit, nle_t, n_inb, if_true, n_ix, dl, hs4]
  have p4 : Eqx [47, 52] s1 s4 := by rw [hs4]; exact (p3.mono (by simp)).up (by simp)
  have i4 := XI_same i1 p4 (by decide) (by decide)
  obtain ⟨s5, r1, p5, w5⟩ := x_add1 (d := d + 1 + 1 + 1 + 1) (s := s4) (a := nI (scD A 255 (scL A)) - nI (wOf (gT A) (deB A 0)))
  have eg : ev (d + 1 + 1 + 1 + 1) 75 0 [.inr 47] [] (up s4 4 1 (nI 0)) = some (0, nI (scD A 255 (scL A)) - nI (wOf (gT A) (deB A 0)), up s4 4 1 (nI 0)) := by
    rw [E75_0, up_ne (by decide), hs4, up_in]
  unfold o_scarce
  refine ⟨s5, ?_, XI_row i4 p5 (by decide) (by decide) w5 (by simp), XZ_q (XZ_q z1 p4 (by decide) (by decide)) p5 (by decide) (by decide), ((fM_q p1 (by decide)).tr (fM_q p4 (by decide))).tr (fM_q p5 (by decide))⟩
  rw [E208_0]
  simp only [lit, e0, bnd_some, e1, esc, x_clear, if_true, eg, r1]
theorem x_giveBack (hc : XC T S (s 37)) (hw : w < 8) : ∃ s', ev (d + 1) 73 0 [.inr 47, .inr 36, .inl (nI w), .inr 0] [] s = some (0, nI 0, s') ∧ (∀ l, l < 10 → s' 50 l = nI (sL S l + sG S w l)) ∧ Eqx [50] s s' := by
  have hk : isK 36 := Or.inl rfl
  have key : ∀ n, n ≤ 10 → ∃ s', ev (d + 1) 73 2 [.inr 47, .inr 36, .inl (nI w), .inl (nI 0)] [] s = ev (d + 1) 73 2 [.inr 47, .inr 36, .inl (nI w), .inl (nI n)] [] s' ∧ (∀ l, l < n → s' 50 l = nI (sL S l + sG S w l)) ∧ Eqx [50] s s' := by
    intro n
    induction n with
    | zero => intro _; exact ⟨s, rfl, fun l hl => by omega, Eqx.rf⟩
    | succ n ih =>
      intro hn
      obtain ⟨s1, e1, i1, q1⟩ := ih (by omega)
      have hc1 : XC T S (s1 (mRf 36 1)) := by rw [show mRf 36 1 = 37 by decide +kernel, q1 _ (by decide)]; exact hc
      refine ⟨up s1 50 n (nI (sL S n + sG S w n)), ?_, fun l hl => ?_, q1.up (by simp)⟩
      · rw [e1, E73_2]
        simp (disch := omega) only [lit, nle_f, if_false, x_inChest hk hc1 (show n < 10 by omega), bnd_some, x_hung hk hc1 hw (show n < 10 by omega), n_inb, if_true, n_ix, nI_add]
      · by_cases hz : l = n
        · subst hz; exact up_in
        · rw [up_out hz]; exact i1 l (by omega)
  obtain ⟨s', e1, i1, q1⟩ := key 10 (Nat.le_refl _)
  refine ⟨s', ?_, i1, q1⟩
  rw [E73_0, lit 0, e1, E73_2]
  simp (disch := omega) only [lit, nI_add, pk_mul, n_sub, n_addneg, nle_t, nle_f, nlt_t, nlt_f, neq_t, neq_f, n_inb, n_ix, bnd_some, if_true, if_false, ite_tt, ite_ff, not_true_eq_false, not_false_eq_true, eq_self, false_or, or_false, true_or, or_true]
theorem X_hoards (h : XI A B s) (hz : XZ s) : ∃ s', ev (d + 1 + 1 + 1 + 1 + 1) 209 0 [.inr 1, .inr 0, .inr 0, .inr 0, .inr 0, .inr 0] [] s = some (0, (o_hoards A).2, s') ∧ XI (o_hoards A).1 B s' ∧ XZ s' ∧ fM s s' := by
  have ha := h.1
  have hN := ha.1.2.1
  have hk : isK 36 := Or.inl rfl
  unfold o_hoards
  by_cases h0 : tN (gT A) = 0
  · rw [if_pos h0]
    refine ⟨s, ?_, h, hz, fun _ _ => rfl⟩
    rw [E209_0, x_walls h.2.2.1, h0]
    simp (disch := omega) only [lit, nI_add, pk_mul, n_sub, n_addneg, nle_t, nle_f, nlt_t, nlt_f, neq_t, neq_f, n_inb, n_ix, bnd_some, if_true, if_false, ite_tt, ite_ff, not_true_eq_false, not_false_eq_true, eq_self, false_or, or_false, true_or, or_true]
  rw [if_neg h0]
  have e0 := x_waiting (d := d + 1 + 1 + 1) ha.1 ha.2.1 hk h.2.1
  have ham := wq_am (T := gT A) (S := gS A) ha.2.1
  have h256 : bts (isQ (gT A) (gS A)) 8 < 256 := bts_lt8 _ (by omega)
  obtain ⟨s1, e1, t1, m1, z1, p1⟩ := x_fill (d := d) (k := true) (am := bts (isQ (gT A) (gS A)) 8) ha.1 h.2.2.1 ha.2.1 h.2.1 ham hz
  have e1' : ev (d + 1 + 1 + 1 + 1) 69 0 [.inr 47, .inr 36, .inl (nI (bts (isQ (gT A) (gS A)) 8))] [] s = some (0, nI 0, s1) := by
    have e1 : ev (d + 1 + 1 + 1) 70 0 [.inr 47, .inr 36, .inl (nI (bts (isQ (gT A) (gS A)) 8)), .inl 1, .inr 0] [] s = some (0, nI 0, s1) := e1
    rw [E69_0, e1, bnd_some]
    rfl
  have hm12 : ∀ w, hoV A w ≤ 12 := fun w => mwN_le
  -- one wall
  have one : ∀ w (s2 : mS), w < tN (gT A) → Eqx [50] s1 s2 → ∃ s3, ev (d + 1 + 1 + 1 + 1) 73 0 [.inr 47, .inr 36, .inl (nI w), .inr 0] [] s2 = some (0, nI 0, s3) ∧ ev (d + 1 + 1 + 1 + 1) 82 0 [.inr 47, .inl (nI w), .inr 0, .inr 0, .inr 0] [] s3 = some (0, nI (hoV A w), s3) ∧ Eqx [50] s1 s3 := by
    intro w s2 hw p2
    have pa := p1.mono (Q := [47, 48, 49, 50]) (by simp)
    have pb := pa.tr (p2.mono (by simp))
    have hc2 : XC (gT A) (gS A) (s2 37) := by rw [pb _ (by decide)]; exact h.2.1
    obtain ⟨s3, e3, i3, p3⟩ := x_giveBack (d := d + 1 + 1 + 1) (w := w) hc2 (by omega)
    have p4 := p2.tr p3
    have q3 : XQ (gT A) (ndL (gT A) (gS A) true) (bts (isQ (gT A) (gS A)) 8) (fun l => sL (gS A) l + sG (gS A) w l) s3 := by
      refine ⟨h256, fun w l => ndL_le ha.1 ha.2.1, fun l hl => ?_, fun w hw => (ha.1.2.2.2 w (ham w hw)).2.1, by rw [p4 _ (by decide)]; exact m1, ?_, i3⟩
      · have b1 := (hal_le ha.2.1 hl).2
        have b2 := sG_le (l := l) ha.1 (ha.2.1.1 w)
        show sL (gS A) l + sG (gS A) w l ≤ 100
        omega
      · unfold XTa at t1 ⊢
        rw [p4 _ (by decide), p4 _ (by decide)]; exact t1
    exact ⟨s3, e3, x_mostW (d := d + 1) q3 (by omega), p4⟩
  have e88 : ∀ (b m : Int32) w r, ev (d + 1 + 1 + 1 + 1 + 1) 209 88 [.inr 1, .inr 0, .inl b, .inl m, .inl (nI w), .inr 0] [] r = ev (d + 1 + 1 + 1 + 1 + 1) 209 40 [.inr 1, .inr 0, .inl b, .inl m, .inl (nI (w + 1)), .inr 0] [] r := fun b m w r => by
    rw [E209_88]
    simp only [lit, nI_add]
  have hTq : ∀ s2, Eqx [50] s1 s2 → XT (gT A) s2 := fun s2 p2 => XT_q (XT_q h.2.2.1 p1 (by decide)) p2 (by decide)
  have key : ∀ n, n + 1 ≤ tN (gT A) → ∃ s', ev (d + 1 + 1 + 1 + 1 + 1) 209 40 [.inr 1, .inr 0, .inl (nI 0), .inl (-nI 1), .inl (nI 0), .inr 0] [] s1 = ev (d + 1 + 1 + 1 + 1 + 1) 209 40 [.inr 1, .inr 0, .inl (nI (bstR (fun w => nI (hoV A w)) n)), .inl (nI (hoV A (bstR (fun w => nI (hoV A w)) n))), .inl (nI (n + 1)), .inr 0] [] s' ∧ Eqx [50] s1 s' := by
    intro n
    induction n with
    | zero =>
      intro hn
      obtain ⟨s3, e3, e4, p3⟩ := one 0 s1 (by omega) Eqx.rf
      refine ⟨s3, ?_, p3⟩
      have hv : (nI (hoV A 0) ≤ -nI 1) = False := eq_false (fun z => by
        have := hm12 0
        rw [Int32.le_iff_toInt_le, toI (by omega), negI (by omega)] at z
        omega)
      rw [E209_40, x_walls (hTq s1 Eqx.rf)]
      simp (disch := omega) only [lit, bnd_some, nle_f, if_false, e3, e4, hv, e88]
      rfl
    | succ n ih =>
      intro hn
      obtain ⟨s2, e2, p2⟩ := ih (by omega)
      obtain ⟨s3, e3, e4, p3⟩ := one (n + 1) s2 (by omega) p2
      refine ⟨s3, ?_, p3⟩
      rw [e2, E209_40, x_walls (hTq s2 p2), bstR_s]
      by_cases hv : nI (hoV A (n + 1)) ≤ nI (hoV A (bstR (fun w => nI (hoV A w)) n))
      · rw [if_pos hv]
        simp (disch := omega) only [lit, bnd_some, nle_f, if_false, e3, e4, hv, if_true, e88]
      · rw [if_neg hv]
        simp (disch := omega) only [lit, bnd_some, nle_f, if_false, e3, e4, hv, e88]
  obtain ⟨s2, e2, p2⟩ := key (tN (gT A) - 1) (by omega)
  rw [show tN (gT A) - 1 + 1 = tN (gT A) by omega] at e2
  generalize bstR (fun w => nI (hoV A w)) (tN (gT A) - 1) = b at e2
  have i1 := XI_same h p1 (by decide) (by decide)
  have i2 := XI_same i1 p2 (by decide) (by decide)
  obtain ⟨s3, r1, p3, w3⟩ := x_add1 (d := d + 1 + 1 + 1 + 1) (s := s2) (a := nI (hoV A b))
  refine ⟨s3, ?_, XI_row i2 p3 (by decide) (by decide) w3 (by simp), XZ_q (XZ_q z1 p2 (by decide) (by decide)) p3 (by decide) (by decide), ((fM_q p1 (by decide)).tr (fM_q p2 (by decide))).tr (fM_q p3 (by decide))⟩
  rw [E209_0, x_walls h.2.2.1]
  simp (disch := omega) only [lit, bnd_some, neq_f, not_false_eq_true, if_true, e0, e1']
  rw [e2, E209_40, x_walls (hTq s2 p2)]
  simp (disch := omega) only [lit, bnd_some, nle_t, if_true, x_clear, r1]
end XS4
