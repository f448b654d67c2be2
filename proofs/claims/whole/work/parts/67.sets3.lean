/-! CALLS: together, most, dearest, cast, rob -/
def fM (s s' : mS) : Prop := ∀ a, 67 ≤ a → s' a = s a
def wdS2 (S : aS) : Nat := bts (isW S) 8
def fW (A : aA) : Nat → Nat → Nat := ndL (gT A) (gS A) false
def o_most (A : aA) : aA × Int32 := (wW A [nI (moN (gT A) (fW A) (wdS2 (gS A)) (stk (gS A)) 255)], nI (pc (moN (gT A) (fW A) (wdS2 (gS A)) (stk (gS A)) 255)))
def deB (A : aA) (c : Nat) : Nat := drN (gT A) (fW A) (wdS2 (gS A)) (stk (gS A)) c 255
def o_dearest (A : aA) : aA × Int32 := (wW A [nI (deB A 0)], nI (wOf (gT A) (deB A 0)))
def o_cast (A : aA) (n : Int32) : aA × Int32 := if inN n 100 = false then (A, -nI 1) else (wW A ([nI (deB A (ix n))] ++ rowN (fun l => nI (lkS (fW A) (stk (gS A)) (deB A (ix n)) l)) 10), nI (wOf (gT A) (deB A (ix n))))
def o_together (A : aA) (a : Int32) : aA × Int32 := if ¬ a &&& (nI (wdS2 (gS A)) ^^^ -nI 1) = nI 0 then (A, -nI 1) else (wW A [nI (bts (fun l => decide (0 < lkS (fW A) (stk (gS A)) (ix a) l)) 10)], if bts (fun l => decide (0 < lkS (fW A) (stk (gS A)) (ix a) l)) 10 = 0 then nI 1 else nI 0)
/-- what is left beside what hangs on walls that are up -/
def plU (T : aT) (S : aS) (n l : Nat) : Nat := stk S l - sm (fun w => if isU T S w = true then sG S w l else 0) n
def roB (A : aA) : Nat := drN (gT A) (fW A) (bts (isQ (gT A) (gS A)) 8) (plU (gT A) (gS A) 8) 0 255
def o_rob (A : aA) : aA × Int32 := (wW A [nI (roB A)], nI (wOf (gT A) (roB A)))
section XS3
variable {d B l w v i x y n am c : Nat} {s s' s1 : mS} {T : aT} {S : aS} {A : aA} {f : Nat → Nat → Nat} {pl : Nat → Nat} {a : Int32}
theorem fM_q {P : List Nat} (q : Eqx P s s') (hp : ∀ a ∈ P, a < 67) : fM s s' := fun a ha => q a (fun z => by have := hp a z; omega)
theorem fM.tr (h : fM s s1) (h2 : fM s1 s') : fM s s' := fun a ha => (h2 a ha).trans (h a ha)
theorem XZ_q {P : List Nat} (h : XZ s) (q : Eqx P s s') (h1 : 49 ∉ P) (h2 : 48 ∉ P) : XZ s' := by
  unfold XZ at h ⊢
  rw [q _ h1, q _ h2]; exact h
theorem fX0_M (h : fX0 s s') (hz : XZ s) : fM s s' ∧ XZ s' := by
  refine ⟨fun a ha => h a (by omega), ?_⟩
  unfold XZ at hz ⊢
  rw [h _ (by decide), h _ (by decide)]; exact hz
theorem wd_am (ho : sOk T S B) : ∀ i, (wdS2 S).testBit i = true → i < tN T := fun i hi => by
  unfold wdS2 at hi
  rw [bts_bit, Bool.and_eq_true] at hi
  obtain ⟨x, -, h, -⟩ := isW_lt ho hi.2
  exact h
theorem wq_am (ho : sOk T S B) : ∀ i, (bts (isQ T S) 8).testBit i = true → i < tN T := fun i hi => by
  rw [bts_bit, Bool.and_eq_true] at hi
  obtain ⟨x, -, h, -⟩ := isQ_lt ho hi.2
  exact h
theorem x_sworth {b : Nat} (h : XQ T f am pl s) (hb : b < 256) (hs : subS b am = true) : ev d 74 0 [.inr 47, .inl (nI b)] [] s = some (0, nI (wOf T b), s) := by
  have e := x_wS h hb hs
  rw [E74_0]
  simp (disch := omega) only [e, lit, nI_add, pk_mul, n_sub, n_addneg, nle_t, nle_f, nlt_t, nlt_f, neq_t, neq_f, n_inb, n_ix, bnd_some, if_true, if_false, ite_tt, ite_ff, not_true_eq_false, not_false_eq_true, eq_self, false_or, or_false, true_or, or_true]
/-- the tables of all words -/
theorem x_words0 (h : XI A B s) (hz : XZ s) : ∃ s1, ev (d + 1 + 1 + 1 + 1) 108 0 [.inr 36, .inr 0, .inr 0] [] s = some (0, nI (wdS2 (gS A)), s) ∧ ev (d + 1 + 1 + 1 + 1) 68 0 [.inr 47, .inr 36, .inl (nI (wdS2 (gS A))), .inr 0] [] s = some (0, nI 0, s1) ∧ XQ (gT A) (fW A) (wdS2 (gS A)) (stk (gS A)) s1 ∧ XI A B s1 ∧ XZ s1 ∧ Eqx [47, 48, 49, 50] s s1 := by
  have ha := h.1
  have e0 := x_worded (d := d + 1 + 1 + 1) ha.1 ha.2.1 h.2.1
  obtain ⟨s1, e1, q1, z1, p1⟩ := x_ofWords (d := d) (am := wdS2 (gS A)) ha.1 h.2.2.1 ha.2.1 h.2.2.2.1 h.2.1 (wd_am ha.2.1) hz
  exact ⟨s1, e0, e1, q1, XI_same h p1 (by decide) (by decide), z1, p1⟩
theorem X_most (h : XI A B s) (hz : XZ s) : ∃ s', ev (d + 1 + 1 + 1 + 1 + 1) 192 0 [.inr 1, .inr 0] [] s = some (0, (o_most A).2, s') ∧ XI (o_most A).1 B s' ∧ XZ s' ∧ fM s s' := by
  obtain ⟨s1, e0, e1, q1, i1, z1, p1⟩ := x_words0 (d := d) h hz
  have em := x_most (d := d + 1) q1
  obtain ⟨b1, b2⟩ := moN_ok (T := gT A) (f := fW A) (am := wdS2 (gS A)) (pl := stk (gS A)) (n := 255)
  unfold o_most
  generalize moN (gT A) (fW A) (wdS2 (gS A)) (stk (gS A)) 255 = b at em b1 b2
  obtain ⟨s2, r1, q2, w2⟩ := x_add1 (d := d + 1 + 1 + 1 + 1) (s := s1) (a := nI b)
  have eb := x_bc (d := d + 1 + 1 + 1 + 1) (s := s2) (a := b) (by omega)
  refine ⟨s2, ?_, XI_row i1 q2 (by decide) (by decide) w2 (by simp), XZ_q z1 q2 (by decide) (by decide), (fM_q p1 (by decide)).tr (fM_q q2 (by decide))⟩
  rw [E192_0]
  simp only [lit, e0, bnd_some, e1, em, x_clear, if_true, r1, eb]
theorem X_dearest (h : XI A B s) (hz : XZ s) : ∃ s', ev (d + 1 + 1 + 1 + 1 + 1) 193 0 [.inr 1, .inr 0] [] s = some (0, (o_dearest A).2, s') ∧ XI (o_dearest A).1 B s' ∧ XZ s' ∧ fM s s' := by
  obtain ⟨s1, e0, e1, q1, i1, z1, p1⟩ := x_words0 (d := d) h hz
  have em := x_dearest (d := d + 1 + 1) (c := 0) q1 (by omega)
  obtain ⟨b1, b2⟩ := drN_ok (T := gT A) (f := fW A) (am := wdS2 (gS A)) (pl := stk (gS A)) (c := 0) (n := 255)
  unfold o_dearest deB
  generalize drN (gT A) (fW A) (wdS2 (gS A)) (stk (gS A)) 0 255 = b at em b1 b2
  obtain ⟨s2, r1, q2, w2⟩ := x_add1 (d := d + 1 + 1 + 1 + 1) (s := s1) (a := nI b)
  have eb := x_sworth (d := d + 1 + 1 + 1 + 1) (b := b) (XQ_q q1 q2 (by decide) (by decide) (by decide) (by decide)) (by omega) b2
  refine ⟨s2, ?_, XI_row i1 q2 (by decide) (by decide) w2 (by simp), XZ_q z1 q2 (by decide) (by decide), (fM_q p1 (by decide)).tr (fM_q q2 (by decide))⟩
  rw [E193_0]
  simp only [lit, e0, bnd_some, e1, em, x_clear, if_true, r1, eb]
theorem X_cast (h : XI A B s) (hz : XZ s) : ∃ s', ev (d + 1 + 1 + 1 + 1 + 1) 194 0 [.inr 1, .inl a, .inr 0, .inr 0] [] s = some (0, (o_cast A a).2, s') ∧ XI (o_cast A a).1 B s' ∧ XZ s' ∧ fM s s' := by
  unfold o_cast
  by_cases hi : inN a 100 = false
  · rw [if_pos hi]
    refine ⟨s, ?_, h, hz, fun _ _ => rfl⟩
    rw [E194_0, E194_10]
    rcases inN_f hi with h1 | h1
    · simp only [lit, h1, if_true, if_false, not_true_eq_false, not_false_eq_true]
    · by_cases h2 : a < nI 0
      · simp only [lit, h2, if_true, if_false, not_true_eq_false, not_false_eq_true]
      · simp only [lit, h2, nle_of (n := 99) (by omega) h1, if_true, if_false, not_true_eq_false, not_false_eq_true]
  have hi' : inN a 100 = true := by simpa using hi
  rw [if_neg hi]
  obtain ⟨c, hc, rfl⟩ := inN_t (by omega) hi'
  rw [n_ix (by omega)]
  obtain ⟨s1, e0, e1, q1, i1, z1, p1⟩ := x_words0 (d := d) h hz
  have em := x_dearest (d := d + 1 + 1) (c := c) q1 (by omega)
  obtain ⟨b1, b2⟩ := drN_ok (T := gT A) (f := fW A) (am := wdS2 (gS A)) (pl := stk (gS A)) (c := c) (n := 255)
  unfold deB
  generalize drN (gT A) (fW A) (wdS2 (gS A)) (stk (gS A)) c 255 = b at em b1 b2
  obtain ⟨s2, r1, q2, w2⟩ := x_add1 (d := d + 1 + 1 + 1 + 1) (s := s1) (a := nI b)
  have key : ∀ n, n ≤ 10 → ∃ s', ev (d + 1 + 1 + 1 + 1 + 1) 194 53 [.inr 1, .inr 0, .inl (nI b), .inl (nI 0)] [] s2 = ev (d + 1 + 1 + 1 + 1 + 1) 194 53 [.inr 1, .inr 0, .inl (nI b), .inl (nI n)] [] s' ∧ XW ([nI b] ++ rowN (fun l => nI (lkS (fW A) (stk (gS A)) b l)) n) s' ∧ Eqx [4, 5] s1 s' := by
    intro n
    induction n with
    | zero => intro _; exact ⟨s2, rfl, w2, q2⟩
    | succ n ih =>
      intro hn
      obtain ⟨s3, e3, w3, q3⟩ := ih (by omega)
      have el := x_lacking (d := d + 1 + 1 + 1 + 1) (a := b) (l := n) (XQ_q q1 q3 (by decide) (by decide) (by decide) (by decide)) (by omega) b2 (by omega)
      obtain ⟨s4, r4, w4, q4⟩ := x_add (d := d + 1 + 1 + 1 + 1) (a := nI (lkS (fW A) (stk (gS A)) b n)) w3 (by rw [List.length_append, rowN_len]; show 1 + n < 16; omega)
      refine ⟨s4, ?_, by rw [rowN_s, ← List.append_assoc]; exact w4, q3.tr q4⟩
      rw [e3, E194_53]
      simp (disch := omega) only [lit, nle_f, if_false, el, bnd_some, r4, if_true, nI_add]
  obtain ⟨s3, e3, w3, q3⟩ := key 10 (Nat.le_refl _)
  have eb := x_sworth (d := d + 1 + 1 + 1 + 1) (b := b) (XQ_q q1 q3 (by decide) (by decide) (by decide) (by decide)) (by omega) b2
  refine ⟨s3, ?_, XI_row i1 q3 (by decide) (by decide) w3 (by rw [List.length_append, rowN_len]; show 1 + 10 ≤ 16; omega), XZ_q z1 q3 (by decide) (by decide), (fM_q p1 (by decide)).tr (fM_q q3 (by decide))⟩
  rw [E194_0]
  simp (disch := omega) only [lit, nlt_f, if_false, nle_t, if_true, e0, bnd_some, e1, em, x_clear, r1]
  rw [e3, E194_53]
  simp (disch := omega) only [lit, nle_t, if_true, eb, bnd_some]
theorem and_not {m : Nat} (hm : m < 256) (h : a &&& (nI m ^^^ -nI 1) = nI 0) : ∃ k, a = nI k ∧ k < 256 ∧ subS k m = true := by
  have hb : ∀ i, i < 32 → (a.toBitVec.getLsbD i && !(m.testBit i)) = false := fun i hi => by
    have e := congrArg Int32.toBitVec h
    rw [Int32.toBitVec_and, Int32.toBitVec_xor] at e
    have e1 : (-nI 1).toBitVec = BitVec.allOnes 32 := by decide +kernel
    have e2 := congrArg (fun b => b.getLsbD i) e
    rw [e1] at e2
    simp only [BitVec.getLsbD_and, BitVec.getLsbD_xor, BitVec.getLsbD_allOnes, hi, decide_true, nI_bv, BitVec.getLsbD_ofNat, Nat.zero_testBit, Bool.and_false, Bool.true_and] at e2
    simpa using e2
  have hk : ∀ i, a.toBitVec.toNat.testBit i = true → m.testBit i = true := fun i hi => by
    by_cases h32 : i < 32
    · have := hb i h32
      have hi2 : a.toBitVec.getLsbD i = true := hi
      rw [hi2, Bool.true_and] at this
      simpa using this
    · have hlt := a.toBitVec.isLt
      have : a.toBitVec.toNat.testBit i = false := Nat.testBit_lt_two_pow (Nat.lt_of_lt_of_le hlt (Nat.pow_le_pow_right (by omega) (by omega)))
      rw [this] at hi; cases hi
  refine ⟨a.toBitVec.toNat, ?_, ?_, subS_iff.mpr hk⟩
  · apply Int32.toBitVec_inj.mp
    rw [nI_bv, BitVec.ofNat_toNat, BitVec.setWidth_eq]
  · apply Nat.lt_pow_two_of_testBit (n := 8)
    intro i hi
    cases h2 : a.toBitVec.toNat.testBit i with
    | false => rfl
    | true =>
      have h3 := hk i h2
      rw [Nat.testBit_lt_two_pow (Nat.lt_of_lt_of_le hm (show 256 ≤ 2 ^ i from Nat.pow_le_pow_right (n := 2) (by omega) hi))] at h3
      cases h3
theorem X_together (h : XI A B s) (hz : XZ s) : ∃ s', ev (d + 1 + 1 + 1 + 1 + 1) 191 0 [.inr 1, .inl a, .inr 0, .inr 0] [] s = some (0, (o_together A a).2, s') ∧ XI (o_together A a).1 B s' ∧ XZ s' ∧ fM s s' := by
  obtain ⟨s1, e0, e1, q1, i1, z1, p1⟩ := x_words0 (d := d) h hz
  unfold o_together
  by_cases ha : a &&& (nI (wdS2 (gS A)) ^^^ -nI 1) = nI 0
  · rw [if_neg (not_not_intro ha)]
    have hm : wdS2 (gS A) < 256 := bts_lt8 _ (by omega)
    obtain ⟨k, rfl, hk, hs⟩ := and_not hm ha
    rw [n_ix (by omega)]
    have em := x_lackLet (d := d + 1 + 1 + 1) (a := k) q1 hk hs
    have hb := bts_lt (fun l => decide (0 < lkS (fW A) (stk (gS A)) k l)) 10
    generalize bts (fun l => decide (0 < lkS (fW A) (stk (gS A)) k l)) 10 = b at em hb
    obtain ⟨s2, r1, q2, w2⟩ := x_add1 (d := d + 1 + 1 + 1 + 1) (s := s1) (a := nI b)
    refine ⟨s2, ?_, XI_row i1 q2 (by decide) (by decide) w2 (by simp), XZ_q z1 q2 (by decide) (by decide), (fM_q p1 (by decide)).tr (fM_q q2 (by decide))⟩
    rw [E191_0]
    simp only [lit, e0, bnd_some, ha, if_true, e1, em, x_clear, r1]
    by_cases hb0 : b = 0
    · rw [if_pos hb0]
      simp only [hb0, not_true_eq_false, if_false]
      rw [E191_60]
    · rw [if_neg hb0]
      simp (disch := omega) only [neq_f, not_false_eq_true, if_true]
      rw [E191_60]
  · rw [if_pos ha]
    refine ⟨s, ?_, h, hz, fun _ _ => rfl⟩
    rw [E191_0]
    simp only [lit, e0, bnd_some, ha, if_false]
theorem x_leaveUp (ht : tOk T) (ho : sOk T S B) (hc : XC T S (s 37)) (h : XQ T f am (stk S) s) : ∃ s', ev (d + 1 + 1) 72 0 [.inr 47, .inr 36, .inr 0, .inr 0, .inr 0] [] s = some (0, nI 0, s') ∧ XQ T f am (plU T S 8) s' ∧ Eqx [50] s s' := by
  have hk : isK 36 := Or.inl rfl
  have eu := x_up (d := d) (k := 36) ht ho hk hc
  have hlt := bts_lt8 (isU T S) (n := 8) (by omega)
  have hp0 : ∀ l, l < 10 → s 50 l = nI (plU T S 0 l) := fun l hl => h.2.2.2.2.2.2 l hl
  have hsum : ∀ n l, n ≤ 8 → sm (fun w => if isU T S w = true then sG S w l else 0) n ≤ stk S l := fun n l hn => by
    have e1 : sm (fun w => if isU T S w = true then sG S w l else 0) n ≤ sm (fun w => sG S w l) n := sm_le2 (fun i _ => by split <;> omega)
    have e2 : sm (fun w => sG S w l) 8 ≤ stk S l := Nat.le_add_left _ _
    have e3 : sm (fun w => sG S w l) n ≤ sm (fun w => sG S w l) 8 := by
      have : ∀ m, sm (fun w => sG S w l) n ≤ sm (fun w => sG S w l) (n + m) := fun m => by
        induction m with
        | zero => exact Nat.le_refl _
        | succ m ih => rw [← Nat.add_assoc, sm_s]; omega
      have h2 := this (8 - n)
      rw [show n + (8 - n) = 8 by omega] at h2
      exact h2
    omega
  have key : ∀ n, n ≤ 8 → ∃ s', ev (d + 1 + 1) 72 7 [.inr 47, .inr 36, .inl (nI (bts (isU T S) 8)), .inl (nI 0), .inr 0] [] s = ev (d + 1 + 1) 72 7 [.inr 47, .inr 36, .inl (nI (bts (isU T S) 8)), .inl (nI n), .inr 0] [] s' ∧ (∀ l, l < 10 → s' 50 l = nI (plU T S n l)) ∧ Eqx [50] s s' := by
    intro n
    induction n with
    | zero => intro _; exact ⟨s, rfl, hp0, Eqx.rf⟩
    | succ n ih =>
      intro hn
      obtain ⟨s1, e1, i1, q1⟩ := ih (by omega)
      have eh := x_has (d := d + 1) (s := s1) (x := bts (isU T S) 8) (i := n) (by omega) (by omega)
      rw [bts_bit, decide_eq_true (show n < 8 by omega), Bool.true_and] at eh
      have e54 : ∀ r, ev (d + 1 + 1) 72 54 [.inr 47, .inr 36, .inl (nI (bts (isU T S) 8)), .inl (nI n), .inr 0] [] r = ev (d + 1 + 1) 72 7 [.inr 47, .inr 36, .inl (nI (bts (isU T S) 8)), .inl (nI (n + 1)), .inr 0] [] r := fun r => by
        rw [E72_54]
        simp only [lit, nI_add]
      cases hu : isU T S n with
      | false =>
        rw [hu] at eh
        refine ⟨s1, ?_, fun l hl => ?_, q1⟩
        · rw [e1, E72_7]
          simp (disch := omega) only [lit, nle_f, if_false, eh, bnd_some, bIf0, if_true, e54]
        · rw [i1 l hl]
          unfold plU
          rw [sm_s, if_neg (by rw [hu]; simp)]
          rfl
      | true =>
        rw [hu] at eh
        have inner : ∀ m, m ≤ 10 → ∃ s2, ev (d + 1 + 1) 72 24 [.inr 47, .inr 36, .inl (nI (bts (isU T S) 8)), .inl (nI n), .inl (nI 0)] [] s1 = ev (d + 1 + 1) 72 24 [.inr 47, .inr 36, .inl (nI (bts (isU T S) 8)), .inl (nI n), .inl (nI m)] [] s2 ∧ (∀ l, l < m → s2 50 l = nI (plU T S (n + 1) l)) ∧ (∀ l, m ≤ l → l < 10 → s2 50 l = nI (plU T S n l)) ∧ Eqx [50] s s2 := by
          intro m
          induction m with
          | zero => intro _; exact ⟨s1, rfl, fun l hl => by omega, fun l _ hl => i1 l hl, q1⟩
          | succ m ihm =>
            intro hm
            obtain ⟨s2, e2, i2, j2, q2⟩ := ihm (by omega)
            have eg := x_hung (d := d + 1) (k := 36) (w := n) (l := m) hk (show XC T S (s2 (mRf 36 1)) by rw [show mRf 36 1 = 37 by decide +kernel, q2 _ (by decide)]; exact hc) (by omega) (by omega)
            have ep := j2 m (Nat.le_refl _) (by omega)
            have hs1 := hsum (n + 1) m (by omega)
            rw [sm_s, if_pos hu] at hs1
            have evl : nI (plU T S n m) - nI (sG S n m) = nI (plU T S (n + 1) m) := by
              unfold plU
              rw [pk_sub (by omega), sm_s, if_pos hu]
              congr 1
              omega
            refine ⟨up s2 50 m (nI (plU T S (n + 1) m)), ?_, fun l hl => ?_, fun l h1 h2 => by rw [up_out (by omega)]; exact j2 l (by omega) h2, q2.up (by simp)⟩
            · rw [e2, E72_24]
              simp (disch := omega) only [lit, nle_f, if_false, n_inb, if_true, eg, bnd_some, n_ix, ep, evl, nI_add]
            · by_cases hz : l = m
              · subst hz; exact up_in
              · rw [up_out hz]; exact i2 l (by omega)
        obtain ⟨s2, e2, i2, -, q2⟩ := inner 10 (Nat.le_refl _)
        refine ⟨s2, ?_, fun l hl => i2 l hl, q2⟩
        rw [e1, E72_7]
        simp (disch := omega) only [lit, nle_f, if_false, eh, bnd_some, bIt0]
        rw [e2, E72_24]
        simp (disch := omega) only [lit, nle_t, if_true, e54]
  obtain ⟨s', e1, i1, q1⟩ := key 8 (Nat.le_refl _)
  refine ⟨s', ?_, ?_, q1⟩
  · rw [E72_0, eu, bnd_some, lit 0, e1, E72_7]
    simp (disch := omega) only [lit, nI_add, pk_mul, n_sub, n_addneg, nle_t, nle_f, nlt_t, nlt_f, neq_t, neq_f, n_inb, n_ix, bnd_some, if_true, if_false, ite_tt, ite_ff, not_true_eq_false, not_false_eq_true, eq_self, false_or, or_false, true_or, or_true]
  · obtain ⟨g1, g2, g3, g4, g5, g6, g7⟩ := h
    refine ⟨g1, g2, fun l hl => ?_, g4, by rw [q1 _ (by decide)]; exact g5, ?_, i1⟩
    · have := g3 l hl
      unfold plU; omega
    · unfold XTa at g6 ⊢
      rw [q1 _ (by decide), q1 _ (by decide)]; exact g6
theorem X_rob (h : XI A B s) (hz : XZ s) : ∃ s', ev (d + 1 + 1 + 1 + 1 + 1) 195 0 [.inr 1, .inr 0] [] s = some (0, (o_rob A).2, s') ∧ XI (o_rob A).1 B s' ∧ XZ s' ∧ fM s s' := by
  have ha := h.1
  have hk : isK 36 := Or.inl rfl
  have e0 := x_waiting (d := d + 1 + 1 + 1) ha.1 ha.2.1 hk h.2.1
  obtain ⟨s1, e1, q1, z1, p1⟩ := x_ofWords (d := d) (am := bts (isQ (gT A) (gS A)) 8) ha.1 h.2.2.1 ha.2.1 h.2.2.2.1 h.2.1 (wq_am ha.2.1) hz
  have i1 := XI_same h p1 (by decide) (by decide)
  obtain ⟨s2, e2, q2, p2⟩ := x_leaveUp (d := d + 1 + 1) ha.1 ha.2.1 i1.2.1 q1
  have i2 := XI_same i1 p2 (by decide) (by decide)
  have z2 := XZ_q z1 p2 (by decide) (by decide)
  have em := x_dearest (d := d + 1 + 1) (c := 0) q2 (by omega)
  obtain ⟨b1, b2⟩ := drN_ok (T := gT A) (f := fW A) (am := bts (isQ (gT A) (gS A)) 8) (pl := plU (gT A) (gS A) 8) (c := 0) (n := 255)
  unfold o_rob
  have er : roB A = drN (gT A) (fW A) (bts (isQ (gT A) (gS A)) 8) (plU (gT A) (gS A) 8) 0 255 := rfl
  rw [← er] at b1 b2
  have em : ev (d + 1 + 1 + 1 + 1) 83 0 [.inr 47, .inl (nI 0), .inr 0, .inr 0] [] s2 = some (0, nI (roB A), s2) := em
  generalize roB A = b at em b1 b2
  obtain ⟨s3, r1, q3, w3⟩ := x_add1 (d := d + 1 + 1 + 1 + 1) (s := s2) (a := nI b)
  have eb := x_sworth (d := d + 1 + 1 + 1 + 1) (b := b) (XQ_q q2 q3 (by decide) (by decide) (by decide) (by decide)) (by omega) b2
  refine ⟨s3, ?_, XI_row i2 q3 (by decide) (by decide) w3 (by simp), XZ_q z2 q3 (by decide) (by decide), ((fM_q p1 (by decide)).tr (fM_q p2 (by decide))).tr (fM_q q3 (by decide))⟩
  rw [E195_0]
  simp only [lit, e0, bnd_some, e1, e2, em, x_clear, if_true, r1, eb]
end XS3
