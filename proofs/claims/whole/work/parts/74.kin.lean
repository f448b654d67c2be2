/-! CALLS: cover, ladder -/
def ltW (T : aT) (x : Nat) : Nat := bts (fun l => decide (0 < nd T x l)) 10
def ltA (T : aT) (n : Nat) : Nat := itr (fun x a => a ||| ltW T x) n 0
def ltS (T : aT) (a : Nat) : Nat := itr (fun w b => b ||| (if a.testBit w = true then ltW T w else 0)) (tW T) 0
def lnSt (T : aT) (a : Nat) : Nat := sm (fun w => if a.testBit w = true then tLen T w else 0) (tW T)
def coB (T : aT) (a b : Nat) : Nat := if (pc a < pc b ∨ pc a = pc b ∧ lnSt T a < lnSt T b) ∧ ltS T a = ltA T (tW T) then a else b
def coN (T : aT) (n : Nat) : Nat := itr (fun a b => coB T a b) n (2 ^ tW T - 1)
theorem coN_s {T : aT} {n : Nat} : coN T (n + 1) = coB T n (coN T n) := rfl
def o_cover (A : aA) : aA × Int32 := (wW A [nI (coN (gT A) (2 ^ tW (gT A)))], nI (pc (coN (gT A) (2 ^ tW (gT A)))))
/-- words beside one another -/
def apa (T : aT) (x y : Nat) : Nat := sm (fun i => if tSp T x i = tSp T y i then 0 else 1) (tLen T x)
def isSt (T : aT) (x y : Nat) : Bool := decide (tLen T x = tLen T y) && decide (apa T x y = 1)
def bes (T : aT) (x : Nat) : Nat := if x < tW T then bts (isSt T x) (tW T) else 0
def besA (T : aT) (a : Nat) : Nat := itr (fun w b => b ||| (if a.testBit w = true then bes T w else 0)) 12 0
/-- the layers round a word, and what they reach -/
def lyr (T : aT) (x : Nat) : Nat → Nat × Nat
  | 0 => (2 ^ x, 2 ^ x)
  | k + 1 => (besA T (lyr T x k).1 &&& (besA T (lyr T x k).1 ^^^ (lyr T x k).2), (lyr T x k).2 ||| (besA T (lyr T x k).1 &&& (besA T (lyr T x k).1 ^^^ (lyr T x k).2)))
def leB (a : Nat) : Nat := match fnd (fun i => a.testBit i) 11 with
  | some i => i
  | none => 11
def laR (T : aT) (x : Nat) : Nat → Nat → List Int32
  | _, 0 => []
  | y, k + 1 => nI (leB (bes T y &&& (lyr T x (k + 1)).1)) :: laR T x (leB (bes T y &&& (lyr T x (k + 1)).1)) k
def o_ladder (A : aA) (x y : Int32) : aA × Int32 := if inN x (tW (gT A)) = false ∨ inN y (tW (gT A)) = false then (A, -nI 1) else match fnd (fun k => (lyr (gT A) (ix y) k).1.testBit (ix x)) 12 with
  | none => (A, -nI 2)
  | some k => (wW A (laR (gT A) (ix y) (ix x) (k - 1)), nI k)
section XK1
variable {d B l w v x y n j a b : Nat} {s s' s1 : mS} {T : aT} {S : aS} {A : aA}
theorem x_lettersOf (ht : tOk T) (hT : XT T s) (hx : x < tW T) : ev (d + 1) 17 0 [.inr 6, .inl (nI x), .inr 0, .inr 0] [] s = some (0, nI (ltW T x), s) := by
  have g := loopU (fun i b => ev (d + 1) 17 4 [.inr 6, .inl (nI x), .inl (nI b), .inl (nI i)] [] s) (fun l b => b ||| (if decide (0 < nd T x l) = true then 2 ^ l else 0)) 10 (fun l b hl => by
    have hb := nd_le T x l
    have hb2 := (ht.2.2.1 x hx).2.1
    rw [E17_4]
    simp (disch := omega) only [x_tneed ht hT hx hl, lit, nI_add, pk_mul, n_sub, n_addneg, nle_t, nle_f, nlt_t, nlt_f, neq_t, neq_f, n_inb, n_ix, bnd_some, if_true, if_false, ite_tt, ite_ff, not_true_eq_false, not_false_eq_true, eq_self, false_or, or_false, true_or, or_true]
    by_cases hz : 0 < nd T x l
    · simp (disch := omega) only [E17_27, n_pow, n_or, decide_eq_true hz, lit, nI_add, pk_mul, n_sub, n_addneg, nle_t, nle_f, nlt_t, nlt_f, neq_t, neq_f, n_inb, n_ix, bnd_some, if_true, if_false, ite_tt, ite_ff, not_true_eq_false, not_false_eq_true, eq_self, false_or, or_false, true_or, or_true]
    · simp (disch := omega) only [E17_27, n_or, decide_eq_false hz, Bool.false_eq_true, lit, nI_add, pk_mul, n_sub, n_addneg, nle_t, nle_f, nlt_t, nlt_f, neq_t, neq_f, n_inb, n_ix, bnd_some, if_true, if_false, ite_tt, ite_ff, not_true_eq_false, not_false_eq_true, eq_self, false_or, or_false, true_or, or_true]) 0
  rw [E17_0]
  simp only [lit]
  refine g.trans ?_
  rw [E17_4]
  simp (disch := omega) only [lit, nI_add, pk_mul, n_sub, n_addneg, nle_t, nle_f, nlt_t, nlt_f, neq_t, neq_f, n_inb, n_ix, bnd_some, if_true, if_false, ite_tt, ite_ff, not_true_eq_false, not_false_eq_true, eq_self, false_or, or_false, true_or, or_true]
  rfl
theorem x_lengthOf (ht : tOk T) (hT : XT T s) (ha : a < 2147483648) : ev (d + 1) 19 0 [.inr 6, .inl (nI a), .inr 0, .inr 0] [] s = some (0, nI (lnSt T a), s) := by
  have hW := ht.1
  have g := loopU (fun i b => ev (d + 1) 19 4 [.inr 6, .inl (nI a), .inl (nI b), .inl (nI i)] [] s) (fun w b => b + (if a.testBit w = true then tLen T w else 0)) (tW T) (fun w b hw => by
    have eh := x_has (d := d) (s := s) (x := a) (i := w) ha (by omega)
    rw [E19_4, x_words hT]
    cases hb : a.testBit w with
    | true =>
      rw [hb] at eh
      simp (disch := omega) only [lit, bnd_some, nle_f, if_false, eh, bIt0, x_length ht hT hw, E19_30, nI_add, if_true]
    | false =>
      rw [hb] at eh
      simp (disch := omega) only [lit, bnd_some, nle_f, if_false, eh, bIf0, if_true, E19_30, nI_add, Bool.false_eq_true]) 0
  rw [E19_0]
  simp only [lit]
  refine g.trans ?_
  rw [E19_4, x_words hT]
  simp (disch := omega) only [lit, nI_add, pk_mul, n_sub, n_addneg, nle_t, nle_f, nlt_t, nlt_f, neq_t, neq_f, n_inb, n_ix, bnd_some, if_true, if_false, ite_tt, ite_ff, not_true_eq_false, not_false_eq_true, eq_self, false_or, or_false, true_or, or_true]
  rfl
theorem tb_hi {i : Nat} (ha : a < 2 ^ n) (h : n ≤ i) : a.testBit i = false := Nat.testBit_lt_two_pow (Nat.lt_of_lt_of_le ha (Nat.pow_le_pow_right (by omega) h))
theorem itr_more {α : Type} {g : Nat → α → α} {m n : Nat} {c : α} (h : m ≤ n) (hs : ∀ k, m ≤ k → k < n → ∀ b, g k b = b) : itr g n c = itr g m c := by
  induction h with
  | refl => rfl
  | step h ih =>
    rename_i n
    show g n (itr g n c) = _
    rw [hs n h (by omega), ih (fun k h1 h2 => hs k h1 (by omega))]
theorem x_lettersIn (ht : tOk T) (hl : ∀ w, w < tW T → s 61 w = nI (ltW T w)) (ha : a < 2 ^ tW T) : ev (d + 1) 18 0 [.inr 58, .inl (nI a), .inr 0, .inr 0] [] s = some (0, nI (ltS T a), s) := by
  have hW := ht.1
  have h4096 : a < 4096 := Nat.lt_of_lt_of_le ha (Nat.pow_le_pow_right (n := 2) (by omega) hW)
  have g := loopU (fun i b => ev (d + 1) 18 4 [.inr 58, .inl (nI a), .inl (nI b), .inl (nI i)] [] s) (fun w b => b ||| (if a.testBit w = true then ltW T w else 0)) 12 (fun w b hw => by
    have eh := x_has (d := d) (s := s) (x := a) (i := w) (by omega) (by omega)
    rw [E18_4]
    cases hb : a.testBit w with
    | true =>
      rw [hb] at eh
      have hwT : w < tW T := by
        by_cases h : w < tW T
        · exact h
        · rw [tb_hi ha (by omega)] at hb; cases hb
      simp (disch := omega) only [lit, bnd_some, nle_f, if_false, eh, bIt0, n_inb, n_ix, hl w hwT, E18_29, n_or, nI_add, if_true]
    | false =>
      rw [hb] at eh
      simp (disch := omega) only [lit, bnd_some, nle_f, if_false, eh, bIf0, if_true, E18_29, n_or, nI_add, Bool.false_eq_true]) 0
  have e : itr (fun w b => b ||| (if a.testBit w = true then ltW T w else 0)) 12 0 = ltS T a := itr_more hW (fun k h1 _ b => by
    rw [tb_hi ha h1, if_neg (by simp), Nat.or_zero])
  rw [E18_0]
  simp only [lit]
  refine g.trans ?_
  rw [e, E18_4]
  simp (disch := omega) only [lit, nI_add, pk_mul, n_sub, n_addneg, nle_t, nle_f, nlt_t, nlt_f, neq_t, neq_f, n_inb, n_ix, bnd_some, if_true, if_false, ite_tt, ite_ff, not_true_eq_false, not_false_eq_true, eq_self, false_or, or_false, true_or, or_true]
theorem coN_lt : coN T n < 2 ^ tW T ∨ 2 ^ tW T < n := by
  induction n with
  | zero =>
    have := Nat.two_pow_pos (tW T)
    left
    show 2 ^ tW T - 1 < 2 ^ tW T
    omega
  | succ n ih =>
    rcases ih with ih | ih
    · by_cases hn : n < 2 ^ tW T
      · left
        rw [coN_s]
        unfold coB
        split
        · exact hn
        · exact ih
      · right; omega
    · right; omega
theorem x_cover (ht : tOk T) (hT : XT T s) : ∃ s', ev (d + 1 + 1) 16 0 [.inr 58, .inr 6, .inr 0, .inr 0, .inr 0, .inr 0, .inr 0, .inr 0] [] s = some (0, nI (coN T (2 ^ tW T)), s') ∧ Eqx [61] s s' := by
  have hW := ht.1
  have hp := Nat.two_pow_pos (tW T)
  have hp2 : 2 ^ tW T ≤ 4096 := Nat.pow_le_pow_right (n := 2) (by omega) hW
  have k1 : ∀ n, n ≤ tW T → ∃ s', ev (d + 1 + 1) 16 4 [.inr 58, .inr 6, .inl (nI 0), .inl (nI 0), .inr 0, .inr 0, .inr 0, .inr 0] [] s = ev (d + 1 + 1) 16 4 [.inr 58, .inr 6, .inl (nI (ltA T n)), .inl (nI n), .inr 0, .inr 0, .inr 0, .inr 0] [] s' ∧ (∀ w, w < n → s' 61 w = nI (ltW T w)) ∧ Eqx [61] s s' := by
    intro n
    induction n with
    | zero => intro _; exact ⟨s, rfl, fun w hw => by omega, Eqx.rf⟩
    | succ n ih =>
      intro hn
      obtain ⟨s1, e1, i1, q1⟩ := ih (by omega)
      have hT1 := XT_q hT q1 (by decide)
      have el := x_lettersOf (d := d) ht hT1 (show n < tW T by omega)
      have ea : (up s1 61 n (nI (ltW T n))) 61 n = nI (ltW T n) := up_in
      refine ⟨up s1 61 n (nI (ltW T n)), ?_, fun w hw => ?_, q1.up (by simp)⟩
      · rw [e1, E16_4, x_words hT1]
        simp (disch := omega) only [lit, bnd_some, nle_f, if_false, el, n_inb, if_true, n_ix, ea, n_or, nI_add]
        rfl
      · by_cases hz : w = n
        · subst hz; exact up_in
        · rw [up_out hz]; exact i1 w (by omega)
  obtain ⟨s1, e1, i1, q1⟩ := k1 _ (Nat.le_refl _)
  have hT1 := XT_q hT q1 (by decide)
  have hm1 : nI (2 ^ tW T) - nI 1 = nI (2 ^ tW T - 1) := pk_sub (by omega)
  have k2 : ∀ n, n ≤ 2 ^ tW T → ev (d + 1 + 1) 16 57 [.inr 58, .inr 6, .inl (nI (ltA T (tW T))), .inl (nI (2 ^ tW T - 1)), .inl (nI (lnSt T (2 ^ tW T - 1))), .inl (nI 0), .inr 0, .inr 0] [] s1 = ev (d + 1 + 1) 16 57 [.inr 58, .inr 6, .inl (nI (ltA T (tW T))), .inl (nI (coN T n)), .inl (nI (lnSt T (coN T n))), .inl (nI n), .inr 0, .inr 0] [] s1 := by
    intro n
    induction n with
    | zero => intro _; rfl
    | succ n ih =>
      intro hn
      have hb := (coN_lt (T := T) (n := n)).resolve_right (by omega)
      rw [ih (by omega), coN_s, E16_57, x_words hT1]
      generalize coN T n = b at hb
      have p1 := x_bc (d := d + 1) (s := s1) (a := n) (by omega)
      have p2 := x_bc (d := d + 1) (s := s1) (a := b) (by omega)
      have c1 := pc_le n
      have c2 := pc_le b
      have ei := x_lettersIn (d := d) ht i1 (show n < 2 ^ tW T by omega)
      have el := x_lengthOf (d := d) (a := n) ht hT1 (by omega)
      have hln : ∀ a, lnSt T a ≤ 96 := fun a => by
        have := sm_le (f := fun w => if a.testBit w = true then tLen T w else 0) (c := 8) (n := tW T) (fun w hw => by
          have := (ht.2.2.1 w hw).2.1
          show (if a.testBit w = true then tLen T w else 0) ≤ 8
          split <;> omega)
        unfold lnSt; omega
      have l1 := hln n
      have l2 := hln b
      have hls : ltS T n < 2147483648 ∧ ltA T (tW T) < 2147483648 := by
        have k : ∀ (f : Nat → Nat) m, (∀ i, f i < 1024) → itr (fun i a => a ||| f i) m 0 < 1024 := fun f m hf => by
          induction m with
          | zero => show 0 < 1024; omega
          | succ m ih => exact Nat.or_lt_two_pow (n := 10) ih (hf m)
        have hw : ∀ x, ltW T x < 1024 := fun x => bts_lt _ 10
        have g1 := k (fun w => if n.testBit w = true then ltW T w else 0) (tW T) (fun w => by
          show (if n.testBit w = true then ltW T w else 0) < 1024
          split
          · exact hw w
          · omega)
        have g2 := k (ltW T) (tW T) hw
        exact ⟨Nat.lt_trans (show ltS T n < 1024 from g1) (by omega), Nat.lt_trans (show ltA T (tW T) < 1024 from g2) (by omega)⟩
      have e122 : ∀ b', ev (d + 1 + 1) 16 122 [.inr 58, .inr 6, .inl (nI (ltA T (tW T))), .inl (nI b'), .inl (nI (lnSt T b')), .inl (nI n), .inr 0, .inr 0] [] s1 = ev (d + 1 + 1) 16 57 [.inr 58, .inr 6, .inl (nI (ltA T (tW T))), .inl (nI b'), .inl (nI (lnSt T b')), .inl (nI (n + 1)), .inr 0, .inr 0] [] s1 := fun b' => by
        rw [E16_122]
        simp only [lit, nI_add]
      have e115 : ev (d + 1 + 1) 16 115 [.inr 58, .inr 6, .inl (nI (ltA T (tW T))), .inr 0, .inr 0, .inl (nI n), .inr 0, .inl (nI (lnSt T n))] [] s1 = ev (d + 1 + 1) 16 57 [.inr 58, .inr 6, .inl (nI (ltA T (tW T))), .inl (nI n), .inl (nI (lnSt T n)), .inl (nI (n + 1)), .inr 0, .inr 0] [] s1 := by
        rw [E16_115, e122]
      have hpow : nI 1 <<< (nI (tW T) &&& nI 31) = nI (2 ^ tW T) := n_pow (by omega)
      have start : ev (d + 1 + 1) 16 57 [.inr 58, .inr 6, .inl (nI (ltA T (tW T))), .inl (nI b), .inl (nI (lnSt T b)), .inl (nI n), .inr 0, .inr 0] [] s1 = ev (d + 1 + 1) 16 57 [.inr 58, .inr 6, .inl (nI (ltA T (tW T))), .inl (nI (coB T n b)), .inl (nI (lnSt T (coB T n b))), .inl (nI (n + 1)), .inr 0, .inr 0] [] s1 := by
        rw [E16_57, x_words hT1]
        unfold coB
        rcases Nat.lt_trichotomy (pc n) (pc b) with hpp | hpp | hpp
        · have e0 : nI (pc n) - nI (pc b) = -nI (pc b - pc n) := by
            rw [← pk_sub (show pc n ≤ pc b by omega), Int32.neg_sub]
          have e2 : (nI 0 < -nI (pc b - pc n)) = False := nnegg (by omega) (by omega)
          have e3 : (-nI (pc b - pc n) < nI 0) = True := nnegl (by omega) (by omega) (by omega)
          by_cases hL : ltS T n = ltA T (tW T)
          · rw [if_pos (show (pc n < pc b ∨ pc n = pc b ∧ lnSt T n < lnSt T b) ∧ ltS T n = ltA T (tW T) from ⟨Or.inl hpp, hL⟩)]
            simp (disch := omega) only [lit, bnd_some, hpow, nle_f, if_false, p1, p2, e0, e2, ei, hL, not_true_eq_false, el, e3, if_true, e115]
          · rw [if_neg (show ¬ ((pc n < pc b ∨ pc n = pc b ∧ lnSt T n < lnSt T b) ∧ ltS T n = ltA T (tW T)) from fun z => hL z.2)]
            have hne : ¬ nI (ltS T n) = nI (ltA T (tW T)) := fun z => hL ((nI_eq hls.1 hls.2).mp z)
            simp (disch := omega) only [lit, bnd_some, hpow, nle_f, if_false, p1, p2, e0, e2, ei, hne, not_false_eq_true, if_true, e122]
        · have e0 : nI (pc n) - nI (pc b) = nI 0 := by rw [hpp, pk_sub (Nat.le_refl _), Nat.sub_self]
          by_cases hL : ltS T n = ltA T (tW T)
          · by_cases hlt : lnSt T n < lnSt T b
            · rw [if_pos (show (pc n < pc b ∨ pc n = pc b ∧ lnSt T n < lnSt T b) ∧ ltS T n = ltA T (tW T) from ⟨Or.inr ⟨hpp, hlt⟩, hL⟩)]
              simp (disch := omega) only [lit, bnd_some, hpow, nle_f, nlt_f, if_false, p1, p2, e0, ei, hL, not_true_eq_false, el, e115]
            · rw [if_neg (show ¬ ((pc n < pc b ∨ pc n = pc b ∧ lnSt T n < lnSt T b) ∧ ltS T n = ltA T (tW T)) from fun z => z.1.elim (fun z => by omega) (fun z => hlt z.2))]
              simp (disch := omega) only [lit, bnd_some, hpow, nle_f, nle_t, nlt_f, if_false, if_true, p1, p2, e0, ei, hL, not_true_eq_false, el, e122]
          · rw [if_neg (show ¬ ((pc n < pc b ∨ pc n = pc b ∧ lnSt T n < lnSt T b) ∧ ltS T n = ltA T (tW T)) from fun z => hL z.2)]
            have hne : ¬ nI (ltS T n) = nI (ltA T (tW T)) := fun z => hL ((nI_eq hls.1 hls.2).mp z)
            simp (disch := omega) only [lit, bnd_some, hpow, nle_f, nlt_f, if_false, p1, p2, e0, ei, hne, not_false_eq_true, if_true, e122]
        · rw [if_neg (show ¬ ((pc n < pc b ∨ pc n = pc b ∧ lnSt T n < lnSt T b) ∧ ltS T n = ltA T (tW T)) from fun z => z.1.elim (fun z => by omega) (fun z => by omega))]
          simp (disch := omega) only [lit, bnd_some, hpow, nle_f, if_false, p1, p2, n_sub, nlt_t, if_true, e122]
      rw [← start, E16_57, x_words hT1]
  refine ⟨s1, ?_, q1⟩
  have hpow : nI 1 <<< (nI (tW T) &&& nI 31) = nI (2 ^ tW T) := n_pow (by omega)
  have el := x_lengthOf (d := d) (a := 2 ^ tW T - 1) ht hT1 (by omega)
  rw [E16_0]
  simp only [lit]
  rw [e1, E16_4, x_words hT1]
  simp (disch := omega) only [lit, bnd_some, nle_t, if_true, x_words hT1, hpow, hm1, el]
  rw [k2 _ (Nat.le_refl _), E16_57, x_words hT1]
  simp (disch := omega) only [lit, bnd_some, hpow, nle_t, if_true]
theorem X_cover (h : XI A B s) : ∃ s', ev (d + 1 + 1 + 1) 204 0 [.inr 1, .inr 0] [] s = some (0, (o_cover A).2, s') ∧ XI (o_cover A).1 B s' ∧ fX s s' := by
  obtain ⟨s1, e1, q1⟩ := x_cover (d := d) h.1.1 h.2.2.1
  have hW := h.1.1.1
  have hp2 : 2 ^ tW (gT A) ≤ 4096 := Nat.pow_le_pow_right (n := 2) (by omega) hW
  have hb := (coN_lt (T := gT A) (n := 2 ^ tW (gT A))).resolve_right (by omega)
  unfold o_cover
  generalize coN (gT A) (2 ^ tW (gT A)) = b at e1 hb
  obtain ⟨s2, r1, q2, w2⟩ := x_add1 (d := d + 1 + 1) (s := s1) (a := nI b)
  have eb := x_bc (d := d + 1 + 1) (s := s2) (a := b) (by omega)
  refine ⟨s2, ?_, XI_row (XI_same h q1 (by decide) (by decide)) q2 (by decide) (by decide) w2 (by simp), (fX_q q1 (by decide)).tr (fX_q q2 (by decide))⟩
  rw [E204_0]
  simp only [lit, e1, bnd_some, x_clear, if_true, r1, eb]
end XK1
