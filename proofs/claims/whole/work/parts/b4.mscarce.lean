/-! THE MODEL: scarce -/
/-- what hangs and which words walls have, in the model's places -/
def MHs (T : aT) (S : aS) (s : mS) : Prop := ∀ w, w < tN T → s 75 w = oc (sH S w) ∧ ∀ l, l < 10 → s 76 (10 * w + l) = nI (sG S w l)
section MU4
variable {d B B' l w v x y n a b c k i : Nat} {s s' s1 s2 : mS} {T : aT} {S : aS} {A : aA} {p q : Int32} {f : Nat → Nat → Nat} {am : Nat} {pl pl' : Nat → Nat}
theorem g_stock (hN : tN T ≤ 8) (ho : sOk T S B) (hT : MT T s) (h : MHs T S s) (hv : s 68 l = nI v) (hl : l < 10) : ev d 244 0 [.inr 67, .inl (nI l), .inr 0, .inr 0] [] s = some (0, nI (v + hal S l), s) := by
  have g := loopU (fun i a => ev d 244 9 [.inr 67, .inl (nI l), .inl (nI a), .inl (nI i)] [] s) (fun w a => a + sG S w l) (tN T) (fun w a hw => by
    have e0 := (h w hw).2 l hl
    rw [E244_9, hT.2.1]
    simp (disch := omega) only [e0, lit, nI_add, pk_mul, n_sub, n_addneg, nle_t, nle_f, nlt_t, nlt_f, neq_t, neq_f, n_inb, n_ix, bnd_some, if_true, if_false, ite_tt, ite_ff, not_true_eq_false, not_false_eq_true, eq_self, false_or, or_false, true_or, or_true]) v
  have es : itr (fun w a => a + sG S w l) (tN T) v = v + hal S l := by
    have e1 : ∀ n, itr (fun w a => a + sG S w l) n v = v + sm (fun w => sG S w l) n := by
      intro n
      induction n with
      | zero => rfl
      | succ n ih =>
        show itr (fun w a => a + sG S w l) n v + sG S n l = _
        rw [ih, sm_s]; omega
    rw [e1]
    unfold hal
    rw [sm_more hN (fun i h1 _ => (sG_out ho h1).1)]
  rw [E244_0]
  simp (disch := omega) only [lit, n_inb, if_true, n_ix, hv]
  refine g.trans ?_
  rw [es, E244_9, hT.2.1]
  simp (disch := omega) only [lit, nI_add, pk_mul, n_sub, n_addneg, nle_t, nle_f, nlt_t, nlt_f, neq_t, neq_f, n_inb, n_ix, bnd_some, if_true, if_false, ite_tt, ite_ff, not_true_eq_false, not_false_eq_true, eq_self, false_or, or_false, true_or, or_true]
theorem g_wordy (hN : tN T ≤ 8) (hW : tW T ≤ 12) (ho : sOk T S B) (hT : MT T s) (h : MHs T S s) : ev d 292 0 [.inr 67, .inr 0, .inr 0] [] s = some (0, nI (wdS2 S), s) := by
  have g := loopU (fun i a => ev d 292 4 [.inr 67, .inl (nI a), .inl (nI i)] [] s) (fun i a => a ||| (if isW S i = true then 2 ^ i else 0)) (tN T) (fun w a hw => by
    have e0 := (h w hw).1
    rw [E292_4, hT.2.1]
    unfold isW
    cases hn : sH S w with
    | none =>
      rw [hn, oc_none] at e0
      simp (disch := omega) only [e0, E292_30, n_or, Option.isSome, Bool.false_eq_true, lit, nI_add, pk_mul, n_sub, n_addneg, nle_t, nle_f, nlt_t, nlt_f, neq_t, neq_f, n_inb, n_ix, bnd_some, if_true, if_false, ite_tt, ite_ff, not_true_eq_false, not_false_eq_true, eq_self, false_or, or_false, true_or, or_true]
    | some x =>
      rw [hn, oc_some] at e0
      have hx := (wOk_s (ho.1 w) hn).2.1
      simp (disch := omega) only [e0, nneg_f, E292_30, n_or, n_pow, Option.isSome, lit, nI_add, pk_mul, n_sub, n_addneg, nle_t, nle_f, nlt_t, nlt_f, neq_t, neq_f, n_inb, n_ix, bnd_some, if_true, if_false, ite_tt, ite_ff, not_true_eq_false, not_false_eq_true, eq_self, false_or, or_false, true_or, or_true]) 0
  rw [E292_0, wd_eq ho hN]
  simp only [lit]
  refine g.trans ?_
  rw [E292_4, hT.2.1]
  simp (disch := omega) only [lit, nI_add, pk_mul, n_sub, n_addneg, nle_t, nle_f, nlt_t, nlt_f, neq_t, neq_f, n_inb, n_ix, bnd_some, if_true, if_false, ite_tt, ite_ff, not_true_eq_false, not_false_eq_true, eq_self, false_or, or_false, true_or, or_true]
  rfl
theorem g_needOf (ht : tOk T) (ho : sOk T S B) (hT : MT T s) (h : MHs T S s) (hx : x < 2147483648) (hl : l < 10) (hs : ∀ w, w < tN T → x.testBit w = true → isW S w = true) : ev (d + 1) 291 0 [.inr 67, .inl (nI x), .inl (nI l), .inr 0, .inr 0] [] s = some (0, nI (sm (fun w => if x.testBit w = true then ndH T S w l else 0) (tN T)), s) := by
  have hN := ht.2.1
  have hW := ht.1
  have g := loopU (fun i a => ev (d + 1) 291 5 [.inr 67, .inl (nI x), .inl (nI l), .inl (nI a), .inl (nI i)] [] s) (fun w a => a + (if x.testBit w = true then ndH T S w l else 0)) (tN T) (fun w a hw => by
    have e0 := (h w hw).1
    have e1 := m_isIn (d := d) (x := x) (i := w) (s := s) hx (by omega)
    rw [E291_5, hT.2.1]
    cases hb : x.testBit w with
    | false =>
      rw [hb] at e1
      simp (disch := omega) only [e1, bIf0, E291_45, Bool.false_eq_true, lit, nI_add, pk_mul, n_sub, n_addneg, nle_t, nle_f, nlt_t, nlt_f, neq_t, neq_f, n_inb, n_ix, bnd_some, if_true, if_false, ite_tt, ite_ff, not_true_eq_false, not_false_eq_true, eq_self, false_or, or_false, true_or, or_true]
    | true =>
      rw [hb] at e1
      have hw2 := hs w hw hb
      unfold isW at hw2
      unfold ndH
      cases hn : sH S w with
      | none => rw [hn] at hw2; cases hw2
      | some y =>
        rw [hn, oc_some] at e0
        have hy := (wOk_s (ho.1 w) hn).2.1
        have e2 := (hT.2.2.1 y hy).2.2.2 l hl
        simp (disch := omega) only [e1, bIt0, e0, e2, E291_45, lit, nI_add, pk_mul, n_sub, n_addneg, nle_t, nle_f, nlt_t, nlt_f, neq_t, neq_f, n_inb, n_ix, bnd_some, if_true, if_false, ite_tt, ite_ff, not_true_eq_false, not_false_eq_true, eq_self, false_or, or_false, true_or, or_true]) 0
  rw [E291_0]
  simp only [lit]
  refine g.trans ?_
  rw [E291_5, hT.2.1]
  simp (disch := omega) only [lit, nI_add, pk_mul, n_sub, n_addneg, nle_t, nle_f, nlt_t, nlt_f, neq_t, neq_f, n_inb, n_ix, bnd_some, if_true, if_false, ite_tt, ite_ff, not_true_eq_false, not_false_eq_true, eq_self, false_or, or_false, true_or, or_true]
  rfl
theorem g_needS (ht : tOk T) (ho : sOk T S B) (hT : MT T s) (h : MHs T S s) (ha : a < 256) (hl : l < 10) (hs : subS a (wdS2 S) = true) : ev (d + 1) 291 0 [.inr 67, .inl (nI a), .inl (nI l), .inr 0, .inr 0] [] s = some (0, nI (sumS (fun w => ndL T S false w l) a), s) := by
  have hN := ht.2.1
  have hb : ∀ w, a.testBit w = true → isW S w = true ∧ w < tN T := fun w hw => by
    have h1 := sub_bit hs hw
    refine ⟨?_, wd_am ho w h1⟩
    unfold wdS2 at h1
    rw [bts_bit, Bool.and_eq_true] at h1
    exact h1.2
  rw [g_needOf ht ho hT h (by omega) hl (fun w _ hw => (hb w hw).1)]
  have e : sm (fun w => if a.testBit w = true then ndH T S w l else 0) (tN T) = sumS (fun w => ndL T S false w l) a := by
    unfold sumS
    rw [sm_more hN (f := fun w => if a.testBit w = true then ndL T S false w l else 0) (fun i h1 _ => by
      show (if a.testBit i = true then ndL T S false i l else 0) = 0
      rw [if_neg (fun z => by have := (hb i z).2; omega)])]
    rfl
  rw [e]
theorem g_missing (ht : tOk T) (ho : sOk T S B) (hT : MT T s) (h : MHs T S s) (hp : ∀ l, l < 10 → pl l ≤ 100 ∧ ∃ v, s 68 l = nI v ∧ v + hal S l = pl l) (ha : a < 256) (hs : subS a (wdS2 S) = true) : ev (d + 1 + 1) 293 0 [.inr 67, .inl (nI a), .inr 0, .inr 0] [] s = some (0, nI (lkA (ndL T S false) pl a), s) := by
  have hN := ht.2.1
  have g := loopU (fun i v => ev (d + 1 + 1) 293 4 [.inr 67, .inl (nI a), .inl (nI v), .inl (nI i)] [] s) (fun l v => v + lkS (ndL T S false) pl a l) 10 (fun i v hi => by
    obtain ⟨b2, v2, hv2, hv3⟩ := hp i hi
    have e1 := g_needS (d := d) ht ho hT h ha hi hs
    have e2 := g_stock (d := d + 1) (l := i) hN ho hT h hv2 hi
    rw [hv3] at e2
    have b1 := sumS_le (f := fun w => ndL T S false w i) (a := a) (c := 8) (fun w => ndF_le ht ho w i)
    have em := mmax0 (a := sumS (fun w => ndL T S false w i) a) (b := pl i) (by omega) (by omega)
    rw [E293_4]
    simp (disch := omega) only [e1, e2, em, lit, nI_add, pk_mul, n_sub, n_addneg, nle_t, nle_f, nlt_t, nlt_f, neq_t, neq_f, n_inb, n_ix, bnd_some, if_true, if_false, ite_tt, ite_ff, not_true_eq_false, not_false_eq_true, eq_self, false_or, or_false, true_or, or_true]
    rfl) 0
  rw [E293_0]
  simp only [lit]
  refine g.trans ?_
  rw [E293_4]
  simp (disch := omega) only [lit, nI_add, pk_mul, n_sub, n_addneg, nle_t, nle_f, nlt_t, nlt_f, neq_t, neq_f, n_inb, n_ix, bnd_some, if_true, if_false, ite_tt, ite_ff, not_true_eq_false, not_false_eq_true, eq_self, false_or, or_false, true_or, or_true]
  rfl
theorem g_findD (ht : tOk T) (ho : sOk T S B) (hT : MT T s) (h : MHs T S s) (hp : ∀ l, l < 10 → pl l ≤ 100 ∧ ∃ v, s 68 l = nI v ∧ v + hal S l = pl l) (hc : c < 1000) : ev (d + 1 + 1 + 1) 296 0 [.inr 67, .inl (nI c), .inr 0, .inr 0] [] s = some (0, nI (drN T (ndL T S false) (wdS2 S) pl c 255), s) := by
  have hN := ht.2.1
  obtain ⟨p1, p2⟩ := p8 hN
  have hwl := wd_lt ho hN
  have e6 := hT.2.1
  have ew : ev (d + 1 + 1) 292 0 [.inr 67, .inr 0, .inr 0] [] s = some (0, nI (wdS2 S), s) := g_wordy hN ht.1 ho hT h
  have epow : nI 1 <<< (nI (tN T) &&& nI 31) = nI (2 ^ tN T) := n_pow (by omega)
  generalize hP : 2 ^ tN T = P at p1 p2 hwl epow
  have key : ∀ n, n + 1 ≤ P → ev (d + 1 + 1 + 1) 296 4 [.inr 67, .inl (nI c), .inl (nI 0), .inl (nI 1)] [] s = ev (d + 1 + 1 + 1) 296 4 [.inr 67, .inl (nI c), .inl (nI (drN T (ndL T S false) (wdS2 S) pl c n)), .inl (nI (n + 1))] [] s := by
    intro n
    induction n with
    | zero => intro _; rfl
    | succ n ih =>
      intro hn
      obtain ⟨b1, b2⟩ := drN_ok (T := T) (f := ndL T S false) (am := wdS2 S) (pl := pl) (c := c) (n := n)
      rw [ih (by omega), drN_s]
      generalize drN T (ndL T S false) (wdS2 S) pl c n = b at b1 b2 ⊢
      have ns := n_sub0 (a := n + 1) (b := wdS2 S) (by omega)
      unfold drB
      cases hs : subS (n + 1) (wdS2 S) with
      | false =>
        rw [if_neg (fun z => by cases z.1)]
        have ns' : ¬ (nI (n + 1) &&& (nI (wdS2 S) ^^^ -nI 1) = nI 0) := by rw [ns, hs]; simp
        rw [E296_4, e6]
        simp (disch := omega) only [epow, ew, ns', E296_49, lit, nI_add, pk_mul, n_sub, n_addneg, nle_t, nle_f, nlt_t, nlt_f, neq_t, neq_f, n_inb, n_ix, bnd_some, if_true, if_false, ite_tt, ite_ff, not_true_eq_false, not_false_eq_true, eq_self, false_or, or_false, true_or, or_true]
      | true =>
        have ns' : (nI (n + 1) &&& (nI (wdS2 S) ^^^ -nI 1) = nI 0) := by rw [ns, hs]
        have f1 := m_wS (d := d + 1) hN hT (show n + 1 < 256 by omega) (sub_tN ho hs)
        have f2 := m_wS (d := d + 1) hN hT (show b < 256 by omega) (sub_tN ho b2)
        have f3 := g_missing (d := d) ht ho hT h hp (show n + 1 < 256 by omega) hs
        have w1 := wo_le ht (sub_tN ho hs)
        have w2 := wo_le ht (sub_tN ho b2)
        have w3 := lkA_le (pl := pl) (a := n + 1) (ndF_le ht ho)
        by_cases hw : wOf T b < wOf T (n + 1)
        · by_cases hk : lkA (ndL T S false) pl (n + 1) ≤ c
          · rw [if_pos ⟨rfl, hw, hk⟩, E296_4, e6]
            simp (disch := omega) only [epow, ew, ns', f1, f2, f3, E296_49, lit, nI_add, pk_mul, n_sub, n_addneg, nle_t, nle_f, nlt_t, nlt_f, neq_t, neq_f, n_inb, n_ix, bnd_some, if_true, if_false, ite_tt, ite_ff, not_true_eq_false, not_false_eq_true, eq_self, false_or, or_false, true_or, or_true]
          · rw [if_neg (fun z => hk z.2.2), E296_4, e6]
            simp (disch := omega) only [epow, ew, ns', f1, f2, f3, E296_49, lit, nI_add, pk_mul, n_sub, n_addneg, nle_t, nle_f, nlt_t, nlt_f, neq_t, neq_f, n_inb, n_ix, bnd_some, if_true, if_false, ite_tt, ite_ff, not_true_eq_false, not_false_eq_true, eq_self, false_or, or_false, true_or, or_true]
        · rw [if_neg (fun z => hw z.2.1), E296_4, e6]
          simp (disch := omega) only [epow, ew, ns', f1, f2, E296_49, lit, nI_add, pk_mul, n_sub, n_addneg, nle_t, nle_f, nlt_t, nlt_f, neq_t, neq_f, n_inb, n_ix, bnd_some, if_true, if_false, ite_tt, ite_ff, not_true_eq_false, not_false_eq_true, eq_self, false_or, or_false, true_or, or_true]
  rw [E296_0]
  simp only [lit]
  rw [key (P - 1) (by omega), E296_4, e6, drN_more (n := P - 1) (k := 255) (by omega) (by omega), show P - 1 + 1 = P by omega]
  simp (disch := omega) only [epow, lit, nI_add, pk_mul, n_sub, n_addneg, nle_t, nle_f, nlt_t, nlt_f, neq_t, neq_f, n_inb, n_ix, bnd_some, if_true, if_false, ite_tt, ite_ff, not_true_eq_false, not_false_eq_true, eq_self, false_or, or_false, true_or, or_true]
/-- the dearest of all that can be up -/
theorem drN_max : (∀ a, 1 ≤ a → a ≤ n → subS a am = true → lkA f pl a ≤ c → wOf T a ≤ wOf T (drN T f am pl c n)) ∧ (drN T f am pl c n = 0 ∨ (1 ≤ drN T f am pl c n ∧ drN T f am pl c n ≤ n ∧ subS (drN T f am pl c n) am = true ∧ lkA f pl (drN T f am pl c n) ≤ c)) := by
  induction n with
  | zero => exact ⟨fun a h1 h2 => by omega, Or.inl rfl⟩
  | succ n ih =>
    obtain ⟨i1, i2⟩ := ih
    rw [drN_s]
    generalize drN T f am pl c n = b at i1 i2
    unfold drB
    by_cases z : subS (n + 1) am = true ∧ wOf T b < wOf T (n + 1) ∧ lkA f pl (n + 1) ≤ c
    · rw [if_pos z]
      refine ⟨fun a h1 h2 h3 h4 => ?_, Or.inr ⟨by omega, Nat.le_refl _, z.1, z.2.2⟩⟩
      by_cases e : a = n + 1
      · rw [e]; exact Nat.le_refl _
      · have := i1 a h1 (by omega) h3 h4
        omega
    · rw [if_neg z]
      refine ⟨fun a h1 h2 h3 h4 => ?_, i2.imp id (fun y => ⟨y.1, by omega, y.2.2⟩)⟩
      by_cases e : a = n + 1
      · subst e
        exact Nat.le_of_not_lt (fun y => z ⟨h3, y, h4⟩)
      · exact i1 a h1 (by omega) h3 h4
theorem scD_max : wOf (gT A) (deB A 0) ≤ scD A n l ∧ (∀ a, 1 ≤ a → a ≤ n → subS a (wdS2 (gS A)) = true → lkA (fW A) (stk (gS A)) a = 1 → 0 < lkS (fW A) (stk (gS A)) a l → wOf (gT A) a ≤ scD A n l) ∧ (scD A n l = wOf (gT A) (deB A 0) ∨ ∃ a, 1 ≤ a ∧ a ≤ n ∧ subS a (wdS2 (gS A)) = true ∧ lkA (fW A) (stk (gS A)) a = 1 ∧ 0 < lkS (fW A) (stk (gS A)) a l ∧ scD A n l = wOf (gT A) a) := by
  induction n with
  | zero => exact ⟨Nat.le_refl _, fun a h1 h2 => by omega, Or.inl rfl⟩
  | succ n ih =>
    obtain ⟨i1, i2, i3⟩ := ih
    rw [scD_s]
    generalize scD A n l = b at i1 i2 i3
    unfold scB
    by_cases z : subS (n + 1) (wdS2 (gS A)) = true ∧ wOf (gT A) (deB A 0) < wOf (gT A) (n + 1) ∧ lkA (fW A) (stk (gS A)) (n + 1) = 1 ∧ 0 < lkS (fW A) (stk (gS A)) (n + 1) l
    · rw [if_pos z]
      refine ⟨by omega, fun a h1 h2 h3 h4 h5 => ?_, ?_⟩
      · by_cases e : a = n + 1
        · rw [e]; omega
        · have := i2 a h1 (by omega) h3 h4 h5
          omega
      · by_cases e : b ≤ wOf (gT A) (n + 1)
        · exact Or.inr ⟨n + 1, by omega, Nat.le_refl _, z.1, z.2.2.1, z.2.2.2, by omega⟩
        · rw [show max b (wOf (gT A) (n + 1)) = b by omega]
          exact i3.imp id (fun ⟨a, y1, y2, y3⟩ => ⟨a, y1, by omega, y3⟩)
    · rw [if_neg z]
      refine ⟨i1, fun a h1 h2 h3 h4 h5 => ?_, i3.imp id (fun ⟨a, y1, y2, y3⟩ => ⟨a, y1, by omega, y3⟩)⟩
      by_cases e : a = n + 1
      · subst e
        exact Nat.le_trans (Nat.le_of_not_lt (fun y => z ⟨h3, y, h4, h5⟩)) i1
      · exact i2 a h1 (by omega) h3 h4 h5
/-- one more of a letter -/
def plM (pl : Nat → Nat) (l k : Nat) : Nat := if k = l then pl k + 1 else pl k
theorem lkA_M (hl : l < 10) : lkA f (plM pl l) a = if 0 < lkS f pl a l then lkA f pl a - 1 else lkA f pl a := by
  have e : lkA f (plM pl l) a = sm (fun k => if k = l then lkS f pl a l - 1 else lkS f pl a k) 10 := sm_cong (fun k hk => by
    show sumS (fun w => f w k) a - (if k = l then pl k + 1 else pl k) = if k = l then lkS f pl a l - 1 else lkS f pl a k
    by_cases z : k = l
    · subst z
      rw [if_pos rfl, if_pos rfl]
      unfold lkS; omega
    · rw [if_neg z, if_neg z]; rfl)
  have u := sm_upd (f := lkS f pl a) (i := l) (n := 10) (v := lkS f pl a l - 1) hl
  have u1 := sm_one (f := lkS f pl a) hl
  have u2 : lkA f pl a = sm (lkS f pl a) 10 := rfl
  rw [e, u2]
  split <;> omega
theorem scD_eq (hl : l < 10) : wOf (gT A) (drN (gT A) (fW A) (wdS2 (gS A)) (plM (stk (gS A)) l) 0 255) = scD A 255 l := by
  obtain ⟨d1, d2⟩ := drN_max (T := gT A) (f := fW A) (am := wdS2 (gS A)) (pl := stk (gS A)) (c := 0) (n := 255)
  obtain ⟨e1, e2⟩ := drN_max (T := gT A) (f := fW A) (am := wdS2 (gS A)) (pl := plM (stk (gS A)) l) (c := 0) (n := 255)
  obtain ⟨s1, s2, s3⟩ := scD_max (A := A) (n := 255) (l := l)
  have d0 : drN (gT A) (fW A) (wdS2 (gS A)) (stk (gS A)) 0 255 = deB A 0 := rfl
  rw [d0] at d1 d2
  generalize drN (gT A) (fW A) (wdS2 (gS A)) (plM (stk (gS A)) l) 0 255 = b at e1 e2
  have w0 : wOf (gT A) 0 = 0 := sumS_0
  refine Nat.le_antisymm ?_ ?_
  · rcases e2 with rfl | ⟨y1, y2, y3, y4⟩
    · rw [w0]; exact Nat.zero_le _
    · rw [lkA_M hl] at y4
      by_cases z : 0 < lkS (fW A) (stk (gS A)) b l
      · rw [if_pos z] at y4
        have u1 := sm_one (f := lkS (fW A) (stk (gS A)) b) hl
        have u2 : lkA (fW A) (stk (gS A)) b = sm (lkS (fW A) (stk (gS A)) b) 10 := rfl
        exact s2 b y1 y2 y3 (by omega) z
      · rw [if_neg z] at y4
        exact Nat.le_trans (d1 b y1 y2 y3 y4) s1
  · rcases s3 with h | ⟨a, y1, y2, y3, y4, y5, y6⟩
    · rw [h]
      rcases d2 with h0 | ⟨z1, z2, z3, z4⟩
      · rw [h0, w0]; exact Nat.zero_le _
      · refine e1 _ z1 z2 z3 ?_
        rw [lkA_M hl]
        split <;> omega
    · rw [y6]
      refine e1 a y1 y2 y3 ?_
      rw [lkA_M hl, if_pos y5]
      omega
theorem up_back {v : Int32} (h : s a i = v) : up (up s a i p) a i v = s := by
  funext b j
  by_cases z : b = a
  · subst z
    by_cases y : j = i
    · subst y; rw [up_in, h]
    · rw [up_out y, up_out y]
  · rw [up_ne z, up_ne z]
theorem Y_scarce (ha : AOk A B) (h : MJ A B' s) : ∃ s', ev (d + 1 + 1 + 1 + 1) 319 0 [.inr 67, .inr 0, .inr 0, .inr 0, .inr 0, .inr 0] [] s = some (0, (o_scarce A).2, s') ∧ MJ (o_scarce A).1 B' s' ∧ gM s s' := by
  obtain ⟨h0, g0⟩ := m_th h
  obtain ⟨s0, hs0⟩ : ∃ s0, s0 = up s 67 18 (nI 0) := ⟨_, rfl⟩
  rw [← hs0] at h0 g0
  have ht := ha.1
  have ho := ha.2.1
  have hT := h0.1
  have hS := h0.2.1
  have hN := ht.2.1
  obtain ⟨b1, b2⟩ := deB_ok A 0
  have e1 : ev (d + 1 + 1 + 1) 296 0 [.inr 67, .inl (nI 0), .inr 0, .inr 0] [] s0 = some (0, nI (deB A 0), s0) := m_findD ht ho hT hS (by omega)
  have e2 := m_wS (d := d + 1 + 1) (a := deB A 0) hN hT (by omega) (sub_tN ho b2)
  have hw0 := wo_le ht (sub_tN ho b2)
  have hw9 : ∀ w, (wdS2 (gS A)).testBit w = true → tWo (gT A) w ≤ 99 := fun w hw => (ht.2.2.2 w (wd_am ho w hw)).2.1
  have hsc := fun n l => scD_le (A := A) (n := n) (l := l) hw9 hw0
  have st : ∀ l (a2 a3 : Int32), l < 10 → ev (d + 1 + 1 + 1 + 1) 319 22 [.inr 67, .inl (nI (wOf (gT A) (deB A 0))), .inl a2, .inl a3, .inl (nI l), .inr 0] [] s0 = if a3 < nI (scD A 255 l) then ev (d + 1 + 1 + 1 + 1) 319 22 [.inr 67, .inl (nI (wOf (gT A) (deB A 0))), .inl (nI l), .inl (nI (scD A 255 l)), .inl (nI (l + 1)), .inr 0] [] s0 else ev (d + 1 + 1 + 1 + 1) 319 22 [.inr 67, .inl (nI (wOf (gT A) (deB A 0))), .inl a2, .inl a3, .inl (nI (l + 1)), .inr 0] [] s0 := by
    intro l a2 a3 hl
    have el := hS.2.1 l hl
    have hL := (hal_le ho hl).2
    obtain ⟨s1, hs1⟩ : ∃ s1, s1 = up s0 68 l (nI (sL (gS A) l + 1)) := ⟨_, rfl⟩
    have q1 : Eqm [68] [] s0 s1 := by rw [hs1]; exact Eqm.rf.pu (by simp) (by decide)
    have hT1 := MT_q hT q1 (by decide) (by decide)
    have hH1 : MHs (gT A) (gS A) s1 := fun w hw => by
      obtain ⟨x1, -, -, x2⟩ := hS.1 w hw
      refine ⟨by rw [q1.1 _ (by decide) (by decide)]; exact x1, fun k hk => by rw [q1.1 _ (by decide) (by decide)]; exact x2 k hk⟩
    have hp1 : ∀ k, k < 10 → plM (stk (gS A)) l k ≤ 100 ∧ ∃ v, s1 68 k = nI v ∧ v + hal (gS A) k = plM (stk (gS A)) l k := fun k hk => by
      have z1 := ho.2.1 k hk
      have z2 : stk (gS A) k = sL (gS A) k + hal (gS A) k := rfl
      unfold plM
      by_cases z : k = l
      · subst z
        rw [if_pos rfl]
        exact ⟨by omega, sL (gS A) k + 1, by rw [hs1, up_in], by omega⟩
      · rw [if_neg z]
        exact ⟨by omega, sL (gS A) k, by rw [hs1, up_out z]; exact hS.2.1 k hk, by omega⟩
    have f1 : ev (d + 1 + 1 + 1) 296 0 [.inr 67, .inl (nI 0), .inr 0, .inr 0] [] s1 = some (0, nI (drN (gT A) (fW A) (wdS2 (gS A)) (plM (stk (gS A)) l) 0 255), s1) := g_findD ht ho hT1 hH1 hp1 (by omega)
    obtain ⟨c1, c2⟩ := drN_ok (T := gT A) (f := fW A) (am := wdS2 (gS A)) (pl := plM (stk (gS A)) l) (c := 0) (n := 255)
    have f2 := m_wS (d := d + 1 + 1) (a := drN (gT A) (fW A) (wdS2 (gS A)) (plM (stk (gS A)) l) 0 255) hN hT1 (by omega) (sub_tN ho c2)
    rw [scD_eq hl] at f2
    have el1 : s1 68 l = nI (sL (gS A) l + 1) := by rw [hs1, up_in]
    have hb : up s1 68 l (nI (sL (gS A) l)) = s0 := by rw [hs1]; exact up_back el
    rw [E319_22]
    simp (disch := omega) only [el, lit, nI_add, pk_mul, n_sub, n_addneg, nle_t, nle_f, nlt_t, nlt_f, neq_t, neq_f, n_inb, n_ix, bnd_some, if_true, if_false, ite_tt, ite_ff, not_true_eq_false, not_false_eq_true, eq_self, false_or, or_false, true_or, or_true]
    rw [← hs1]
    simp (disch := omega) only [f1, f2, el1, Nat.add_sub_cancel, lit, nI_add, pk_mul, n_sub, n_addneg, nle_t, nle_f, nlt_t, nlt_f, neq_t, neq_f, n_inb, n_ix, bnd_some, if_true, if_false, ite_tt, ite_ff, not_true_eq_false, not_false_eq_true, eq_self, false_or, or_false, true_or, or_true]
    rw [hb, E319_77, E319_77]
    simp only [lit, nI_add]
  have key : ∀ n, n < 10 → ev (d + 1 + 1 + 1 + 1) 319 22 [.inr 67, .inl (nI (wOf (gT A) (deB A 0))), .inl (nI 0), .inl (-nI 1), .inl (nI 0), .inr 0] [] s0 = ev (d + 1 + 1 + 1 + 1) 319 22 [.inr 67, .inl (nI (wOf (gT A) (deB A 0))), .inl (nI (bstR (fun l => nI (scD A 255 l)) n)), .inl (nI (scD A 255 (bstR (fun l => nI (scD A 255 l)) n))), .inl (nI (n + 1)), .inr 0] [] s0 := by
    intro n
    induction n with
    | zero =>
      intro _
      have z1 := hsc 255 0
      have z2 : -nI 1 < nI (scD A 255 0) := by rw [nnegl (by omega) (by omega) (by omega)]; trivial
      rw [st 0 _ _ (by omega), if_pos z2]
      rfl
    | succ n ih =>
      intro hn
      have hb := bstR_le (v := fun l => nI (scD A 255 l)) (n := n)
      have z1 := hsc 255 (n + 1)
      have z2 := hsc 255 (bstR (fun l => nI (scD A 255 l)) n)
      rw [ih (by omega), st (n + 1) _ _ (by omega), bstR_s]
      generalize bstR (fun l => nI (scD A 255 l)) n = b at hb z2 ⊢
      by_cases hv : scD A 255 (n + 1) ≤ scD A 255 b
      · have y1 : nI (scD A 255 (n + 1)) ≤ nI (scD A 255 b) := by rw [nle_t hv (by omega)]; trivial
        have y2 : ¬ nI (scD A 255 b) < nI (scD A 255 (n + 1)) := by rw [nlt_f hv (by omega)]; exact not_false
        rw [if_pos y1, if_neg y2]
      · have y1 : ¬ nI (scD A 255 (n + 1)) ≤ nI (scD A 255 b) := by rw [nle_f (by omega) (by omega)]; exact not_false
        have y2 : nI (scD A 255 b) < nI (scD A 255 (n + 1)) := by rw [nlt_t (by omega) (by omega)]; trivial
        rw [if_neg y1, if_pos y2]
  have k9 := key 9 (by omega)
  have hbl : bstR (fun l => nI (scD A 255 l)) 9 = scL A := rfl
  rw [hbl] at k9
  unfold o_scarce
  obtain ⟨s1, r1, q1, w1⟩ := m_tell1 (d := d + 1 + 1 + 1) (s := s0) (p := nI (scD A 255 (scL A)) - nI (wOf (gT A) (deB A 0)))
  refine ⟨s1, ?_, MJ_row h0 q1 (by decide) (by decide) w1, g0.tr (q1.g (by decide))⟩
  rw [E319_0, show up s 67 18 0 = s0 from hs0.symm]
  simp only [lit, e1, bnd_some, e2]
  rw [k9, E319_22]
  simp (disch := omega) only [lit, nle_t, if_true, r1, bnd_some]
end MU4
