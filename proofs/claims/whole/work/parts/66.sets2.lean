/-! SETS OF WALLS: what is asked of them -/
def lkS (f : Nat → Nat → Nat) (pl : Nat → Nat) (a l : Nat) : Nat := sumS (fun w => f w l) a - pl l
def lkA (f : Nat → Nat → Nat) (pl : Nat → Nat) (a : Nat) : Nat := sm (lkS f pl a) 10
def fitS (f : Nat → Nat → Nat) (pl : Nat → Nat) (am a : Nat) : Bool := subS a am && decide (lkA f pl a = 0)
def wOf (T : aT) (a : Nat) : Nat := sumS (tWo T) a
/-- the tables of the sets of am stand, and what there is -/
def XQ (T : aT) (f : Nat → Nat → Nat) (am : Nat) (pl : Nat → Nat) (s : mS) : Prop := am < 256 ∧ (∀ w l, f w l ≤ 8) ∧ (∀ l, l < 10 → pl l ≤ 100) ∧ (∀ w, am.testBit w = true → tWo T w ≤ 99) ∧ s 47 5 = nI am ∧ XTa T f am 256 s ∧ ∀ l, l < 10 → s 50 l = nI (pl l)
def drB (T : aT) (f : Nat → Nat → Nat) (am : Nat) (pl : Nat → Nat) (c i b : Nat) : Nat := if subS (i + 1) am = true ∧ wOf T b < wOf T (i + 1) ∧ lkA f pl (i + 1) ≤ c then i + 1 else b
def drN (T : aT) (f : Nat → Nat → Nat) (am : Nat) (pl : Nat → Nat) (c n : Nat) : Nat := itr (fun i b => drB T f am pl c i b) n 0
theorem drN_s {T : aT} {f : Nat → Nat → Nat} {am : Nat} {pl : Nat → Nat} {c n : Nat} : drN T f am pl c (n + 1) = drB T f am pl c n (drN T f am pl c n) := rfl
def moB (T : aT) (f : Nat → Nat → Nat) (am : Nat) (pl : Nat → Nat) (i b : Nat) : Nat := if fitS f pl am (i + 1) = true ∧ (pc b < pc (i + 1) ∨ pc b = pc (i + 1) ∧ wOf T b < wOf T (i + 1)) then i + 1 else b
def moN (T : aT) (f : Nat → Nat → Nat) (am : Nat) (pl : Nat → Nat) (n : Nat) : Nat := itr (fun i b => moB T f am pl i b) n 0
theorem moN_s {T : aT} {f : Nat → Nat → Nat} {am : Nat} {pl : Nat → Nat} {n : Nat} : moN T f am pl (n + 1) = moB T f am pl n (moN T f am pl n) := rfl
def mwN (f : Nat → Nat → Nat) (am : Nat) (pl : Nat → Nat) (w n : Nat) : Nat := itr (fun i m => if (i + 1).testBit w = false ∧ m < pc (i + 1) ∧ fitS f pl am (i + 1) = true then pc (i + 1) else m) n 0
theorem mwN_s {f : Nat → Nat → Nat} {am : Nat} {pl : Nat → Nat} {w n : Nat} : mwN f am pl w (n + 1) = if (n + 1).testBit w = false ∧ mwN f am pl w n < pc (n + 1) ∧ fitS f pl am (n + 1) = true then pc (n + 1) else mwN f am pl w n := rfl
def eaA (f : Nat → Nat → Nat) (am : Nat) (pl : Nat → Nat) (a : Nat) : Bool := allN (fun w => !(a.testBit w) || fitS f pl am (2 ^ w)) 8
section XS2
variable {d B l w v i x y n am c a : Nat} {s s' : mS} {T : aT} {S : aS} {A : aA} {f : Nat → Nat → Nat} {pl : Nat → Nat}
theorem XQ_q {P : List Nat} (h : XQ T f am pl s) (q : Eqx P s s') (h1 : 47 ∉ P) (h2 : 48 ∉ P) (h3 : 49 ∉ P) (h4 : 50 ∉ P) : XQ T f am pl s' := by
  unfold XQ XTa at h ⊢
  rw [q _ h1, q _ h2, q _ h3, q _ h4]
  exact h
theorem lkS_le (h : ∀ w l, f w l ≤ 8) : lkS f pl a l ≤ 64 := by
  have := sumS_le (f := fun w => f w l) (a := a) (c := 8) (fun w => h w l)
  unfold lkS; omega
theorem lkA_le (h : ∀ w l, f w l ≤ 8) : lkA f pl a ≤ 640 := by
  have := sm_le (f := lkS f pl a) (c := 64) (n := 10) (fun l _ => lkS_le h)
  unfold lkA; omega
theorem wOf_le (h : ∀ w, am.testBit w = true → tWo T w ≤ 99) (hs : subS a am = true) : wOf T a ≤ 792 := by
  have := sm_le (f := fun w => if a.testBit w = true then tWo T w else 0) (c := 99) (n := 8) (fun w _ => by
    show (if a.testBit w = true then tWo T w else 0) ≤ 99
    split
    · next hb => exact h w (subS_iff.mp hs w hb)
    · omega)
  have e : wOf T a = sm (fun w => if a.testBit w = true then tWo T w else 0) 8 := rfl
  omega
theorem subS_0 : subS 0 am = true := by unfold subS; rw [Nat.zero_and]; rfl
theorem x_lacking (h : XQ T f am pl s) (ha : a < 256) (hs : subS a am = true) (hl : l < 10) : ev d 76 0 [.inr 47, .inl (nI a), .inl (nI l)] [] s = some (0, nI (lkS f pl a l), s) := by
  obtain ⟨h1, h2, h3, h4, h5, h6, h7⟩ := h
  have e1 := (h6 a ha hs).2 l hl
  have e2 := h7 l hl
  have b1 := sumS_le (f := fun w => f w l) (a := a) (c := 8) (fun w => h2 w l)
  have b2 := h3 l hl
  have em := mmax0 (a := sumS (fun w => f w l) a) (b := pl l) (by omega) (by omega)
  rw [E76_0]
  simp (disch := omega) only [lit, pk_mul, nI_add, n_inb, n_ix, if_true, e1, e2, em]
  rfl
theorem x_lackAll (h : XQ T f am pl s) (ha : a < 256) (hs : subS a am = true) : ev (d + 1) 77 0 [.inr 47, .inl (nI a), .inr 0, .inr 0] [] s = some (0, nI (lkA f pl a), s) := by
  have g := loopU (fun i b => ev (d + 1) 77 4 [.inr 47, .inl (nI a), .inl (nI b), .inl (nI i)] [] s) (fun l b => b + lkS f pl a l) 10 (fun l b hl => by
    rw [E77_4]
    simp (disch := omega) only [x_lacking h ha hs hl, lit, nI_add, pk_mul, n_sub, n_addneg, nle_t, nle_f, nlt_t, nlt_f, neq_t, neq_f, n_inb, n_ix, bnd_some, if_true, if_false, ite_tt, ite_ff, not_true_eq_false, not_false_eq_true, eq_self, false_or, or_false, true_or, or_true]) 0
  rw [E77_0]
  simp only [lit]
  refine g.trans ?_
  rw [E77_4]
  simp (disch := omega) only [lit, nI_add, pk_mul, n_sub, n_addneg, nle_t, nle_f, nlt_t, nlt_f, neq_t, neq_f, n_inb, n_ix, bnd_some, if_true, if_false, ite_tt, ite_ff, not_true_eq_false, not_false_eq_true, eq_self, false_or, or_false, true_or, or_true]
  rfl
theorem x_lackLet (h : XQ T f am pl s) (ha : a < 256) (hs : subS a am = true) : ev (d + 1) 78 0 [.inr 47, .inl (nI a), .inr 0, .inr 0] [] s = some (0, nI (bts (fun l => decide (0 < lkS f pl a l)) 10), s) := by
  have g := loopU (fun i b => ev (d + 1) 78 4 [.inr 47, .inl (nI a), .inl (nI b), .inl (nI i)] [] s) (fun l b => b ||| (if decide (0 < lkS f pl a l) = true then 2 ^ l else 0)) 10 (fun l b hl => by
    have hb := lkS_le (pl := pl) (a := a) (l := l) h.2.1
    rw [E78_4]
    simp (disch := omega) only [x_lacking h ha hs hl, lit, nI_add, pk_mul, n_sub, n_addneg, nle_t, nle_f, nlt_t, nlt_f, neq_t, neq_f, n_inb, n_ix, bnd_some, if_true, if_false, ite_tt, ite_ff, not_true_eq_false, not_false_eq_true, eq_self, false_or, or_false, true_or, or_true]
    by_cases hz : 0 < lkS f pl a l
    · simp (disch := omega) only [E78_27, n_pow, n_or, decide_eq_true hz, lit, nI_add, pk_mul, n_sub, n_addneg, nle_t, nle_f, nlt_t, nlt_f, neq_t, neq_f, n_inb, n_ix, bnd_some, if_true, if_false, ite_tt, ite_ff, not_true_eq_false, not_false_eq_true, eq_self, false_or, or_false, true_or, or_true]
    · simp (disch := omega) only [E78_27, n_or, decide_eq_false hz, Bool.false_eq_true, lit, nI_add, pk_mul, n_sub, n_addneg, nle_t, nle_f, nlt_t, nlt_f, neq_t, neq_f, n_inb, n_ix, bnd_some, if_true, if_false, ite_tt, ite_ff, not_true_eq_false, not_false_eq_true, eq_self, false_or, or_false, true_or, or_true]) 0
  rw [E78_0]
  simp only [lit]
  refine g.trans ?_
  rw [E78_4]
  simp (disch := omega) only [lit, nI_add, pk_mul, n_sub, n_addneg, nle_t, nle_f, nlt_t, nlt_f, neq_t, neq_f, n_inb, n_ix, bnd_some, if_true, if_false, ite_tt, ite_ff, not_true_eq_false, not_false_eq_true, eq_self, false_or, or_false, true_or, or_true]
  rfl
theorem x_among (h : s 47 5 = nI am) (ha : a < 2147483648) : ev d 79 0 [.inr 47, .inl (nI a)] [] s = some (0, bI (subS a am), s) := by
  have hle : a &&& (a ^^^ am) ≤ a := Nat.and_le_left
  rw [E79_0, h]
  simp only [lit, n_andn]
  unfold subS
  by_cases hz : a &&& (a ^^^ am) = 0
  · rw [decide_eq_true hz, hz]
    simp (disch := omega) only [E79_16, lit, nI_add, pk_mul, n_sub, n_addneg, nle_t, nle_f, nlt_t, nlt_f, neq_t, neq_f, n_inb, n_ix, bnd_some, if_true, if_false, ite_tt, ite_ff, not_true_eq_false, not_false_eq_true, eq_self, false_or, or_false, true_or, or_true]
    rfl
  · rw [decide_eq_false hz]
    simp (disch := omega) only [E79_16, lit, nI_add, pk_mul, n_sub, n_addneg, nle_t, nle_f, nlt_t, nlt_f, neq_t, neq_f, n_inb, n_ix, bnd_some, if_true, if_false, ite_tt, ite_ff, not_true_eq_false, not_false_eq_true, eq_self, false_or, or_false, true_or, or_true]
    rfl
theorem x_fits (h : XQ T f am pl s) (ha : a < 256) : ev (d + 1 + 1) 80 0 [.inr 47, .inl (nI a)] [] s = some (0, bI (fitS f pl am a), s) := by
  have e1 := x_among (d := d + 1) (a := a) h.2.2.2.2.1 (by omega)
  have hb := lkA_le (pl := pl) (a := a) h.2.1
  rw [E80_0, e1, bnd_some]
  unfold fitS
  cases hs : subS a am with
  | false =>
    rw [if_pos (show bI false = 0 from rfl), E80_20, E80_21]
    exact if_pos (Or.inl rfl)
  | true =>
    rw [if_neg (show ¬ bI true = 0 by decide +kernel), x_lackAll h ha hs, bnd_some]
    by_cases hz : lkA f pl a = 0
    · rw [decide_eq_true hz, hz]
      simp (disch := omega) only [E80_21, lit, nI_add, pk_mul, n_sub, n_addneg, nle_t, nle_f, nlt_t, nlt_f, neq_t, neq_f, n_inb, n_ix, bnd_some, if_true, if_false, ite_tt, ite_ff, not_true_eq_false, not_false_eq_true, eq_self, false_or, or_false, true_or, or_true]
      rfl
    · rw [decide_eq_false hz]
      simp (disch := omega) only [E80_20, E80_21, lit, nI_add, pk_mul, n_sub, n_addneg, nle_t, nle_f, nlt_t, nlt_f, neq_t, neq_f, n_inb, n_ix, bnd_some, if_true, if_false, ite_tt, ite_ff, not_true_eq_false, not_false_eq_true, eq_self, false_or, or_false, true_or, or_true]
      rfl
theorem drN_ok : drN T f am pl c n ≤ n ∧ subS (drN T f am pl c n) am = true := by
  induction n with
  | zero => exact ⟨Nat.le_refl _, subS_0⟩
  | succ n ih =>
    rw [drN_s]
    unfold drB
    split
    · next h => exact ⟨Nat.le_refl _, h.1⟩
    · exact ⟨by omega, ih.2⟩
theorem x_wS (h : XQ T f am pl s) (ha : a < 256) (hs : subS a am = true) : s 49 a = nI (wOf T a) := (h.2.2.2.2.2.1 a ha hs).1
theorem x_dearest (h : XQ T f am pl s) (hc : c < 2147483648) : ev (d + 1 + 1) 83 0 [.inr 47, .inl (nI c), .inr 0, .inr 0] [] s = some (0, nI (drN T f am pl c 255), s) := by
  have key : ∀ n, n ≤ 255 → ev (d + 1 + 1) 83 4 [.inr 47, .inl (nI c), .inl (nI 0), .inl (nI 1)] [] s = ev (d + 1 + 1) 83 4 [.inr 47, .inl (nI c), .inl (nI (drN T f am pl c n)), .inl (nI (n + 1))] [] s := by
    intro n
    induction n with
    | zero => intro _; rfl
    | succ n ih =>
      intro hn
      obtain ⟨b1, b2⟩ := drN_ok (T := T) (f := f) (am := am) (pl := pl) (c := c) (n := n)
      rw [ih (by omega), drN_s, E83_4]
      generalize drN T f am pl c n = b at b1 b2
      have e1 := x_among (d := d + 1) (a := n + 1) h.2.2.2.2.1 (by omega)
      have e45 : ∀ b', ev (d + 1 + 1) 83 45 [.inr 47, .inl (nI c), .inl (nI b'), .inl (nI (n + 1))] [] s = ev (d + 1 + 1) 83 4 [.inr 47, .inl (nI c), .inl (nI b'), .inl (nI (n + 1 + 1))] [] s := fun b' => by
        rw [E83_45]
        simp only [lit, nI_add]
      unfold drB
      cases hs : subS (n + 1) am with
      | false =>
        rw [hs] at e1
        rw [if_neg (show ¬ (false = true ∧ wOf T b < wOf T (n + 1) ∧ lkA f pl (n + 1) ≤ c) from fun z => by cases z.1)]
        simp (disch := omega) only [lit, nle_f, if_false, e1, bnd_some, bIf0, if_true, e45]
      | true =>
        rw [hs] at e1
        have w1 := x_wS h (show n + 1 < 256 by omega) hs
        have w2 := x_wS h (show b < 256 by omega) b2
        have c1 := wOf_le (T := T) h.2.2.2.1 hs
        have c2 := wOf_le (T := T) h.2.2.2.1 b2
        have el := x_lackAll (d := d) h (show n + 1 < 256 by omega) hs
        have hl := lkA_le (pl := pl) (a := n + 1) h.2.1
        by_cases hw : wOf T b < wOf T (n + 1)
        · by_cases hk : lkA f pl (n + 1) ≤ c
          · rw [if_pos (show (true = true ∧ wOf T b < wOf T (n + 1) ∧ lkA f pl (n + 1) ≤ c) from ⟨rfl, hw, hk⟩)]
            simp (disch := omega) only [lit, nle_f, if_false, e1, bnd_some, bIt0, n_inb, n_ix, if_true, w1, w2, el, nlt_f, e45]
          · rw [if_neg (show ¬ (true = true ∧ wOf T b < wOf T (n + 1) ∧ lkA f pl (n + 1) ≤ c) from fun z => hk z.2.2)]
            simp (disch := omega) only [lit, nle_f, if_false, e1, bnd_some, bIt0, n_inb, n_ix, if_true, w1, w2, el, nlt_t, e45]
        · rw [if_neg (show ¬ (true = true ∧ wOf T b < wOf T (n + 1) ∧ lkA f pl (n + 1) ≤ c) from fun z => hw z.2.1)]
          simp (disch := omega) only [lit, nle_f, nle_t, if_false, e1, bnd_some, bIt0, n_inb, n_ix, if_true, w1, w2, e45]
  rw [E83_0]
  simp only [lit]
  rw [key 255 (Nat.le_refl _), E83_4]
  simp (disch := omega) only [lit, nI_add, pk_mul, n_sub, n_addneg, nle_t, nle_f, nlt_t, nlt_f, neq_t, neq_f, n_inb, n_ix, bnd_some, if_true, if_false, ite_tt, ite_ff, not_true_eq_false, not_false_eq_true, eq_self, false_or, or_false, true_or, or_true]
theorem moN_ok : moN T f am pl n ≤ n ∧ subS (moN T f am pl n) am = true := by
  induction n with
  | zero => exact ⟨Nat.le_refl _, subS_0⟩
  | succ n ih =>
    rw [moN_s]
    unfold moB
    split
    · next h =>
      have := h.1
      unfold fitS at this
      rw [Bool.and_eq_true] at this
      exact ⟨Nat.le_refl _, this.1⟩
    · exact ⟨by omega, ih.2⟩
theorem x_most (h : XQ T f am pl s) : ev (d + 1 + 1 + 1) 81 0 [.inr 47, .inr 0, .inr 0, .inr 0] [] s = some (0, nI (moN T f am pl 255), s) := by
  have key : ∀ n, n ≤ 255 → ev (d + 1 + 1 + 1) 81 4 [.inr 47, .inl (nI 0), .inl (nI 1), .inr 0] [] s = ev (d + 1 + 1 + 1) 81 4 [.inr 47, .inl (nI (moN T f am pl n)), .inl (nI (n + 1)), .inr 0] [] s := by
    intro n
    induction n with
    | zero => intro _; rfl
    | succ n ih =>
      intro hn
      obtain ⟨b1, b2⟩ := moN_ok (T := T) (f := f) (am := am) (pl := pl) (n := n)
      rw [ih (by omega), moN_s, E81_4]
      generalize moN T f am pl n = b at b1 b2
      have e1 := x_among (d := d + 1 + 1) (a := n + 1) h.2.2.2.2.1 (by omega)
      have p1 := x_bc (d := d + 1 + 1) (s := s) (a := n + 1) (by omega)
      have p2 := x_bc (d := d + 1 + 1) (s := s) (a := b) (by omega)
      have pl1 := pc_le (n + 1)
      have pl2 := pc_le b
      have ef := x_fits (d := d) h (show n + 1 < 256 by omega)
      have e62 : ∀ b', ev (d + 1 + 1 + 1) 81 62 [.inr 47, .inl (nI b'), .inl (nI (n + 1)), .inr 0] [] s = ev (d + 1 + 1 + 1) 81 4 [.inr 47, .inl (nI b'), .inl (nI (n + 1 + 1)), .inr 0] [] s := fun b' => by
        rw [E81_62]
        simp only [lit, nI_add]
      have e52 : ev (d + 1 + 1 + 1) 81 52 [.inr 47, .inl (nI b), .inl (nI (n + 1)), .inr 0] [] s = ev (d + 1 + 1 + 1) 81 4 [.inr 47, .inl (nI (if fitS f pl am (n + 1) = true then n + 1 else b)), .inl (nI (n + 1 + 1)), .inr 0] [] s := by
        rw [E81_52, ef, bnd_some]
        cases fitS f pl am (n + 1) with
        | true => rw [if_neg (show ¬ bI true = 0 by decide +kernel), e62]; rfl
        | false => rw [if_pos (show bI false = 0 from rfl), e62]; rfl
      unfold moB
      cases hs : subS (n + 1) am with
      | false =>
        rw [hs] at e1
        have hf : fitS f pl am (n + 1) = false := by unfold fitS; rw [hs]; rfl
        rw [if_neg (show ¬ (fitS f pl am (n + 1) = true ∧ (pc b < pc (n + 1) ∨ pc b = pc (n + 1) ∧ wOf T b < wOf T (n + 1))) from fun z => by rw [hf] at z; cases z.1)]
        simp (disch := omega) only [lit, nle_f, if_false, p1, p2, e1, bnd_some, bIf0, if_true, e62]
      | true =>
        rw [hs] at e1
        have w1 := x_wS h (show n + 1 < 256 by omega) hs
        have w2 := x_wS h (show b < 256 by omega) b2
        have c1 := wOf_le (T := T) h.2.2.2.1 hs
        have c2 := wOf_le (T := T) h.2.2.2.1 b2
        rcases Nat.lt_trichotomy (pc b) (pc (n + 1)) with hp | hp | hp
        · simp (disch := omega) only [lit, nle_f, if_false, p1, p2, e1, bnd_some, bIt0, n_sub, nlt_t, if_true, e52]
          by_cases hf : fitS f pl am (n + 1) = true
          · rw [if_pos hf, if_pos (show (fitS f pl am (n + 1) = true ∧ (pc b < pc (n + 1) ∨ pc b = pc (n + 1) ∧ wOf T b < wOf T (n + 1))) from ⟨hf, Or.inl hp⟩)]
          · rw [if_neg hf, if_neg (show ¬ (fitS f pl am (n + 1) = true ∧ (pc b < pc (n + 1) ∨ pc b = pc (n + 1) ∧ wOf T b < wOf T (n + 1))) from fun z => hf z.1)]
        · have e0 : nI (pc (n + 1)) - nI (pc b) = nI 0 := by rw [hp, pk_sub (Nat.le_refl _), Nat.sub_self]
          by_cases hw : wOf T b < wOf T (n + 1)
          · simp (disch := omega) only [lit, nle_f, if_false, p1, p2, e1, bnd_some, bIt0, e0, nlt_f, not_true_eq_false, n_inb, n_ix, if_true, w1, w2, e52]
            by_cases hf : fitS f pl am (n + 1) = true
            · rw [if_pos hf, if_pos (show (fitS f pl am (n + 1) = true ∧ (pc b < pc (n + 1) ∨ pc b = pc (n + 1) ∧ wOf T b < wOf T (n + 1))) from ⟨hf, Or.inr ⟨hp, hw⟩⟩)]
            · rw [if_neg hf, if_neg (show ¬ (fitS f pl am (n + 1) = true ∧ (pc b < pc (n + 1) ∨ pc b = pc (n + 1) ∧ wOf T b < wOf T (n + 1))) from fun z => hf z.1)]
          · rw [if_neg (show ¬ (fitS f pl am (n + 1) = true ∧ (pc b < pc (n + 1) ∨ pc b = pc (n + 1) ∧ wOf T b < wOf T (n + 1))) from fun z => z.2.elim (fun z => by omega) (fun z => hw z.2))]
            simp (disch := omega) only [lit, nle_f, nle_t, if_false, p1, p2, e1, bnd_some, bIt0, e0, nlt_f, not_true_eq_false, n_inb, n_ix, if_true, w1, w2, e62]
        · have e0 : nI (pc (n + 1)) - nI (pc b) = -nI (pc b - pc (n + 1)) := by
            rw [← pk_sub (show pc (n + 1) ≤ pc b by omega), Int32.neg_sub]
          have e2 : (nI 0 < -nI (pc b - pc (n + 1))) = False := nnegg (by omega) (by omega)
          have e3 : (-nI (pc b - pc (n + 1)) = nI 0) = False := eq_false (fun z => by
            have h3 := nneg_f (a := 0) (b := pc b - pc (n + 1)) (by omega) (by omega) (by omega)
            exact cast h3 z.symm)
          rw [if_neg (show ¬ (fitS f pl am (n + 1) = true ∧ (pc b < pc (n + 1) ∨ pc b = pc (n + 1) ∧ wOf T b < wOf T (n + 1))) from fun z => z.2.elim (fun z => by omega) (fun z => by omega))]
          simp (disch := omega) only [lit, nle_f, if_false, p1, p2, e1, bnd_some, bIt0, e0, e2, e3, not_false_eq_true, if_true, e62]
  rw [E81_0]
  simp only [lit]
  rw [key 255 (Nat.le_refl _), E81_4]
  simp (disch := omega) only [lit, nI_add, pk_mul, n_sub, n_addneg, nle_t, nle_f, nlt_t, nlt_f, neq_t, neq_f, n_inb, n_ix, bnd_some, if_true, if_false, ite_tt, ite_ff, not_true_eq_false, not_false_eq_true, eq_self, false_or, or_false, true_or, or_true]
theorem mwN_le : mwN f am pl w n ≤ 12 := by
  induction n with
  | zero => exact Nat.zero_le _
  | succ n ih =>
    rw [mwN_s]
    split
    · exact pc_le _
    · exact ih
theorem x_mostW (h : XQ T f am pl s) (hw : w < 8) : ev (d + 1 + 1 + 1) 82 0 [.inr 47, .inl (nI w), .inr 0, .inr 0, .inr 0] [] s = some (0, nI (mwN f am pl w 255), s) := by
  have key : ∀ n, n ≤ 255 → ev (d + 1 + 1 + 1) 82 4 [.inr 47, .inl (nI w), .inl (nI 0), .inl (nI 1), .inr 0] [] s = ev (d + 1 + 1 + 1) 82 4 [.inr 47, .inl (nI w), .inl (nI (mwN f am pl w n)), .inl (nI (n + 1)), .inr 0] [] s := by
    intro n
    induction n with
    | zero => intro _; rfl
    | succ n ih =>
      intro hn
      have b1 := mwN_le (f := f) (am := am) (pl := pl) (w := w) (n := n)
      rw [ih (by omega), mwN_s, E82_4]
      generalize mwN f am pl w n = m at b1
      have p1 := x_bc (d := d + 1 + 1) (s := s) (a := n + 1) (by omega)
      have pl1 := pc_le (n + 1)
      have eh := x_has (d := d + 1 + 1) (s := s) (x := n + 1) (i := w) (by omega) (by omega)
      have ef := x_fits (d := d) h (show n + 1 < 256 by omega)
      have e42 : ∀ b', ev (d + 1 + 1 + 1) 82 42 [.inr 47, .inl (nI w), .inl (nI b'), .inl (nI (n + 1)), .inr 0] [] s = ev (d + 1 + 1 + 1) 82 4 [.inr 47, .inl (nI w), .inl (nI b'), .inl (nI (n + 1 + 1)), .inr 0] [] s := fun b' => by
        rw [E82_42]
        simp only [lit, nI_add]
      cases hb : (n + 1).testBit w with
      | true =>
        rw [hb] at eh
        rw [if_neg (show ¬ (true = false ∧ m < pc (n + 1) ∧ fitS f pl am (n + 1) = true) from fun z => by cases z.1)]
        simp (disch := omega) only [lit, nle_f, if_false, p1, eh, bnd_some, bIt0, not_false_eq_true, if_true, e42]
      | false =>
        rw [hb] at eh
        by_cases hm : m < pc (n + 1)
        · cases hf : fitS f pl am (n + 1) with
          | true =>
            rw [hf] at ef
            rw [if_pos (show (false = false ∧ m < pc (n + 1) ∧ true = true) from ⟨rfl, hm, rfl⟩)]
            simp (disch := omega) only [lit, nle_f, if_false, p1, eh, bnd_some, bIf0, bIt0, not_true_eq_false, ef, e42]
          | false =>
            rw [hf] at ef
            rw [if_neg (show ¬ (false = false ∧ m < pc (n + 1) ∧ false = true) from fun z => by cases z.2.2)]
            simp (disch := omega) only [lit, nle_f, if_false, p1, eh, bnd_some, bIf0, if_true, not_true_eq_false, ef, e42]
        · rw [if_neg (show ¬ (false = false ∧ m < pc (n + 1) ∧ fitS f pl am (n + 1) = true) from fun z => hm z.2.1)]
          simp (disch := omega) only [lit, nle_f, nle_t, if_false, p1, eh, bnd_some, bIf0, if_true, not_true_eq_false, e42]
  rw [E82_0]
  simp only [lit]
  rw [key 255 (Nat.le_refl _), E82_4]
  simp (disch := omega) only [lit, nI_add, pk_mul, n_sub, n_addneg, nle_t, nle_f, nlt_t, nlt_f, neq_t, neq_f, n_inb, n_ix, bnd_some, if_true, if_false, ite_tt, ite_ff, not_true_eq_false, not_false_eq_true, eq_self, false_or, or_false, true_or, or_true]
theorem x_eachAlone (h : XQ T f am pl s) (ha : a < 256) : ev (d + 1 + 1 + 1) 86 0 [.inr 47, .inl (nI a), .inr 0] [] s = some (0, bI (eaA f am pl a), s) := by
  have e28 : ∀ i, ev (d + 1 + 1 + 1) 86 28 [.inr 47, .inl (nI a), .inl (nI i)] [] s = ev (d + 1 + 1 + 1) 86 2 [.inr 47, .inl (nI a), .inl (nI (i + 1))] [] s := fun i => by
    rw [E86_28]
    simp only [lit, nI_add]
  have p8 : ∀ i, i < 8 → 2 ^ i < 256 := by decide
  have outer := loopA (fun i => ev (d + 1 + 1 + 1) 86 2 [.inr 47, .inl (nI a), .inl (nI i)] [] s) (fun w => !(a.testBit w) || fitS f pl am (2 ^ w)) (some (0, nI 0, s)) 8 (fun i hi hp => by
      have eh := x_has (d := d + 1 + 1) (s := s) (x := a) (i := i) (by omega) (by omega)
      have ef := x_fits (d := d) h (p8 i hi)
      rw [E86_2]
      cases hb : a.testBit i with
      | false =>
        rw [hb] at eh
        simp (disch := omega) only [lit, nle_f, if_false, eh, bnd_some, bIf0, if_true, e28]
      | true =>
        rw [hb] at eh hp
        have hp : fitS f pl am (2 ^ i) = true := by simpa using hp
        rw [hp] at ef
        simp (disch := omega) only [lit, nle_f, if_false, eh, bnd_some, bIt0, n_pow, ef, not_false_eq_true, if_true, e28]) (fun i hi hp => by
      have eh := x_has (d := d + 1 + 1) (s := s) (x := a) (i := i) (by omega) (by omega)
      have ef := x_fits (d := d) h (p8 i hi)
      rw [E86_2]
      rw [Bool.or_eq_false_iff] at hp
      have hb : a.testBit i = true := by simpa using hp.1
      rw [hb] at eh
      rw [hp.2] at ef
      simp (disch := omega) only [lit, nle_f, if_false, eh, bnd_some, bIt0, n_pow, ef, bIf0, not_true_eq_false])
  rw [E86_0]
  simp only [lit]
  refine outer.trans ?_
  unfold eaA
  cases allN (fun w => !(a.testBit w) || fitS f pl am (2 ^ w)) 8 with
  | true =>
    rw [if_pos rfl, E86_2]
    simp (disch := omega) only [lit, nI_add, pk_mul, n_sub, n_addneg, nle_t, nle_f, nlt_t, nlt_f, neq_t, neq_f, n_inb, n_ix, bnd_some, if_true, if_false, ite_tt, ite_ff, not_true_eq_false, not_false_eq_true, eq_self, false_or, or_false, true_or, or_true]
    rfl
  | false => rfl
/-- the sets of some walls, their words whole -/
theorem x_ofWords (ht : tOk T) (hT : XT T s) (ho : sOk T S B) (hst : XSt S s) (hc : XC T S (s 37)) (ham : ∀ i, am.testBit i = true → i < tN T) (hz : XZ s) : ∃ s', ev (d + 1 + 1 + 1 + 1) 68 0 [.inr 47, .inr 36, .inl (nI am), .inr 0] [] s = some (0, nI 0, s') ∧ XQ T (ndL T S false) am (stk S) s' ∧ XZ s' ∧ Eqx [47, 48, 49, 50] s s' := by
  obtain ⟨s1, e1, t1, m1, z1, q1⟩ := x_fill (d := d) (k := false) (am := am) ht hT ho hc ham hz
  have hN := ht.2.1
  have h256 : am < 256 := by
    apply Nat.lt_pow_two_of_testBit (n := 8)
    intro i hi
    cases h : am.testBit i with
    | false => rfl
    | true => have := ham i h; omega
  have key : ∀ n, n ≤ 10 → ∃ s', ev (d + 1 + 1 + 1 + 1) 68 9 [.inr 47, .inr 36, .inr 0, .inl (nI 0)] [] s1 = ev (d + 1 + 1 + 1 + 1) 68 9 [.inr 47, .inr 36, .inr 0, .inl (nI n)] [] s' ∧ (∀ l, l < n → s' 50 l = nI (stk S l)) ∧ Eqx [50] s1 s' := by
    intro n
    induction n with
    | zero => intro _; exact ⟨s1, rfl, fun l hl => by omega, Eqx.rf⟩
    | succ n ih =>
      intro hn
      obtain ⟨s2, e2, i2, q2⟩ := ih (by omega)
      have es := x_tstock (d := d + 1 + 1 + 1) (l := n) (XSt_q (XSt_q hst q1 (by decide)) q2 (by decide)) (by omega)
      refine ⟨up s2 50 n (nI (stk S n)), ?_, fun l hl => ?_, q2.up (by simp)⟩
      · rw [e2, E68_9]
        simp (disch := omega) only [lit, nle_f, if_false, x_place, bnd_some, if_true, es, n_inb, n_ix, nI_add]
      · by_cases hz : l = n
        · subst hz; exact up_in
        · rw [up_out hz]; exact i2 l (by omega)
  obtain ⟨s2, e2, i2, q2⟩ := key 10 (Nat.le_refl _)
  refine ⟨s2, ?_, ⟨h256, fun w l => ndL_le ht ho, fun l hl => by have := ho.2.1 l hl; omega, fun w hw => (ht.2.2.2 w (ham w hw)).2.1, by rw [q2 _ (by decide)]; exact m1, ?_, i2⟩, ?_, (q1.mono (by simp)).tr (q2.mono (by simp))⟩
  · have e1 : ev (d + 1 + 1 + 1) 70 0 [.inr 47, .inr 36, .inl (nI am), .inl 0, .inr 0] [] s = some (0, nI 0, s1) := e1
    rw [E68_0, e1, bnd_some]
    simp only [lit]
    rw [e2, E68_9]
    simp (disch := omega) only [lit, nI_add, pk_mul, n_sub, n_addneg, nle_t, nle_f, nlt_t, nlt_f, neq_t, neq_f, n_inb, n_ix, bnd_some, if_true, if_false, ite_tt, ite_ff, not_true_eq_false, not_false_eq_true, eq_self, false_or, or_false, true_or, or_true]
  · unfold XTa at t1 ⊢
    rw [q2 _ (by decide), q2 _ (by decide)]
    exact t1
  · unfold XZ at z1 ⊢
    rw [q2 _ (by decide), q2 _ (by decide)]
    exact z1
end XS2
