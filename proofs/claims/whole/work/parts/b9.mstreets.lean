/-! THE MODEL: streets -/
/-- a sum over the words from w on that are in a set -/
def smW (f : Nat → Nat) (w c j : Nat) : Nat := sm (fun i => if c.testBit i = true then f (w + i) else 0) j
def pcJ (c j : Nat) : Nat := sm (fun i => (c.testBit i).toNat) j
def stV (T : aT) (j w m : Nat) (p : Nat → Nat) (c : Nat) : Bool := decide (pcJ c j = m) && allN (fun l => decide (smW (fun x => nd T x l) w c j ≤ p l)) 10
def stK (T : aT) (j w a len c : Nat) : Nat := (len + smW (tLen T) w c j) * 4096 + (a + c * 2 ^ w)
def stG (V : Nat → Bool) (K : Nat → Nat) (c : Nat) (r : aN) : aN := if V c = true then stS (K c) r else r
section MU9
variable {d B B' l w v x y n j a b c k i m len : Nat} {s s' s1 s2 : mS} {T : aT} {S : aS} {A : aA} {p : Nat → Nat} {r : aN} {V : Nat → Bool} {K : Nat → Nat} {q : Int32}
theorem stS_comm : stS x (stS y r) = stS y (stS x r) := by
  obtain ⟨c, o⟩ := r
  unfold stS
  cases o with
  | none =>
    dsimp only
    congr 2
    by_cases z : x < y
    · rw [if_pos z, if_neg (by omega)]
    · rw [if_neg z]
      by_cases z2 : y < x
      · rw [if_pos z2]
      · rw [if_neg z2]; omega
  | some k =>
    dsimp only
    congr 2
    by_cases z1 : x < k <;> by_cases z2 : y < k <;> by_cases z3 : x < y <;> by_cases z4 : y < x <;> simp only [z1, z2, z3, z4, if_true, if_false] <;> omega
theorem stG_comm : stG V K x (stG V K y r) = stG V K y (stG V K x r) := by
  unfold stG
  by_cases z1 : V x = true <;> by_cases z2 : V y = true <;> simp only [z1, z2, if_true, if_false, Bool.false_eq_true]
  exact stS_comm
theorem itr_out {α : Type} {g : Nat → α → α} {h : α → α} (hc : ∀ i a, h (g i a) = g i (h a)) {n : Nat} {a : α} : h (itr g n a) = itr g n (h a) := by
  induction n with
  | zero => rfl
  | succ n ih =>
    show h (g n (itr g n a)) = g n (itr g n (h a))
    rw [hc, ih]
/-- the even ones behind the odd ones -/
theorem itr_eo {α : Type} {g : Nat → α → α} (hc : ∀ i j a, g i (g j a) = g j (g i a)) {n : Nat} {a : α} : itr g (2 * n) a = itr (fun i => g (2 * i)) n (itr (fun i => g (2 * i + 1)) n a) := by
  induction n with
  | zero => rfl
  | succ n ih =>
    show g (2 * n + 1) (g (2 * n) (itr g (2 * n) a)) = g (2 * n) (itr (fun i => g (2 * i)) n (g (2 * n + 1) (itr (fun i => g (2 * i + 1)) n a)))
    rw [ih, hc (2 * n + 1) (2 * n)]
    congr 1
    exact itr_out (g := fun i => g (2 * i)) (h := g (2 * n + 1)) (fun i a => hc _ _ _)
theorem tb_even : (2 * c).testBit 0 = false := by simp [Nat.testBit_zero]
theorem tb_evens : (2 * c).testBit (i + 1) = c.testBit i := by
  rw [Nat.testBit_succ]
  congr 1
  omega
theorem tb_odd : (2 * c + 1).testBit 0 = true := by
  rw [Nat.testBit_zero]
  exact decide_eq_true (by omega)
theorem tb_odds : (2 * c + 1).testBit (i + 1) = c.testBit i := by
  rw [Nat.testBit_succ]
  congr 1
  omega
theorem smW_even {f : Nat → Nat} : smW f w (2 * c) (j + 1) = smW f (w + 1) c j := by
  unfold smW
  rw [sm_head, tb_even, if_neg (by simp), Nat.zero_add]
  refine sm_cong (fun i _ => ?_)
  rw [tb_evens, show w + (i + 1) = w + 1 + i by omega]
theorem smW_odd {f : Nat → Nat} : smW f w (2 * c + 1) (j + 1) = f w + smW f (w + 1) c j := by
  unfold smW
  rw [sm_head, tb_odd, if_pos rfl, Nat.add_zero]
  congr 1
  refine sm_cong (fun i _ => ?_)
  rw [tb_odds, show w + (i + 1) = w + 1 + i by omega]
theorem pcJ_even : pcJ (2 * c) (j + 1) = pcJ c j := by
  unfold pcJ
  rw [sm_head, tb_even]
  show 0 + _ = _
  rw [Nat.zero_add]
  exact sm_cong (fun i _ => by rw [tb_evens])
theorem pcJ_odd : pcJ (2 * c + 1) (j + 1) = 1 + pcJ c j := by
  unfold pcJ
  rw [sm_head, tb_odd]
  show 1 + _ = _
  congr 1
  exact sm_cong (fun i _ => by rw [tb_odds])
theorem pcJ_0 (h : pcJ c j = 0) (hc : c < 2 ^ j) : c = 0 := Nat.eq_of_testBit_eq (fun i => by
  rw [Nat.zero_testBit]
  by_cases hi : i < j
  · have := sm_allz h i hi
    cases hb : c.testBit i with
    | false => rfl
    | true => rw [hb] at this; cases this
  · exact tb_hi hc (by omega))
theorem pcJ_z : pcJ 0 j = 0 := sm_zero (fun i _ => by rw [Nat.zero_testBit]; rfl)
theorem smW_z {f : Nat → Nat} : smW f w 0 j = 0 := sm_zero (fun i _ => by
  show (if (0 : Nat).testBit i = true then _ else 0) = 0
  rw [Nat.zero_testBit, if_neg (by simp)])
/-- all ways, as a walk through all sets -/
theorem stD_walk : stD T j w m p a len r = itr (stG (stV T j w m p) (stK T j w a len)) (2 ^ j) r ∨ 2 ^ w ≤ a := by
  rcases Nat.lt_or_ge a (2 ^ w) with ha | ha
  · left
    induction j generalizing w m p a len r with
    | zero =>
      cases m with
      | zero =>
        show stS (len * 4096 + a) r = stG _ _ 0 r
        unfold stG stV stK
        rw [pcJ_z, smW_z, if_pos ?_]
        · simp
        · rw [decide_eq_true rfl, Bool.true_and, allN_iff]
          intro l hl
          rw [smW_z]
          exact decide_eq_true (Nat.zero_le _)
      | succ m =>
        show r = stG _ _ 0 r
        unfold stG stV
        rw [pcJ_z, decide_eq_false (by omega)]
        rfl
    | succ j ih =>
      have hp2 : 2 ^ (j + 1) = 2 * 2 ^ j := by rw [Nat.pow_succ]; omega
      have hw2 : 2 ^ (w + 1) = 2 * 2 ^ w := by rw [Nat.pow_succ]; omega
      cases m with
      | zero =>
        rw [stD_0]
        have h1 : 1 ≤ 2 ^ (j + 1) := Nat.pos_of_ne_zero (by simp)
        rw [itr_more (m := 1) h1 (fun c h2 h3 b => by
          unfold stG stV
          rw [decide_eq_false (fun z => by have := pcJ_0 z h3; omega)]
          rfl)]
        show stS (len * 4096 + a) r = stG _ _ 0 r
        unfold stG stV stK
        rw [pcJ_z, smW_z, if_pos ?_]
        · simp
        · rw [decide_eq_true rfl, Bool.true_and, allN_iff]
          intro l hl
          rw [smW_z]
          exact decide_eq_true (Nat.zero_le _)
      | succ m =>
        rw [hp2, itr_eo (g := stG (stV T (j + 1) w (m + 1) p) (stK T (j + 1) w a len)) (fun _ _ _ => stG_comm)]
        have eE : (fun i => stG (stV T (j + 1) w (m + 1) p) (stK T (j + 1) w a len) (2 * i)) = stG (stV T j (w + 1) (m + 1) p) (stK T j (w + 1) a len) := by
          funext c r
          have h1 : stV T (j + 1) w (m + 1) p (2 * c) = stV T j (w + 1) (m + 1) p c := by
            unfold stV
            rw [pcJ_even]
            congr 1
            exact allN_cong (fun l _ => by rw [smW_even])
          have h2 : stK T (j + 1) w a len (2 * c) = stK T j (w + 1) a len c := by
            unfold stK
            rw [smW_even, hw2, ← Nat.mul_assoc, Nat.mul_comm c 2]
          unfold stG
          rw [h1, h2]
        rw [eE]
        show stD T j (w + 1) (m + 1) p a len _ = _
        rw [ih (w := w + 1) (m := m + 1) (by omega)]
        congr 1
        cases hc : canD T p w with
        | false =>
          rw [if_neg (by simp)]
          refine (itr_id (fun c _ => ?_)).symm
          unfold stG
          rw [if_neg]
          intro z
          unfold stV at z
          rw [Bool.and_eq_true] at z
          have : canD T p w = true := allN_iff.mpr (fun l hl => decide_eq_true (by
            have := of_decide_eq_true (allN_iff.mp z.2 l hl)
            rw [smW_odd] at this
            omega))
          rw [this] at hc; cases hc
        | true =>
          rw [if_pos rfl]
          have hall := allN_iff.mp hc
          have ea : a ||| 2 ^ w = a + 2 ^ w := by
            have := Nat.two_pow_add_eq_or_of_lt (i := w) ha 1
            rw [Nat.mul_one] at this
            rw [Nat.add_comm, this, Nat.or_comm]
          rw [ea, ih (w := w + 1) (m := m) (a := a + 2 ^ w) (by omega)]
          congr 1
          funext c r
          have h1 : stV T (j + 1) w (m + 1) p (2 * c + 1) = stV T j (w + 1) m (drwP T p w) c := by
            unfold stV
            rw [pcJ_odd]
            congr 1
            · by_cases z : pcJ c j = m
              · rw [decide_eq_true z, decide_eq_true (by omega)]
              · rw [decide_eq_false z, decide_eq_false (by omega)]
            · refine allN_cong (fun l hl => ?_)
              have := of_decide_eq_true (hall l hl)
              rw [smW_odd]
              unfold drwP
              by_cases z : smW (fun x => nd T x l) (w + 1) c j ≤ p l - nd T w l
              · rw [decide_eq_true z, decide_eq_true (by omega)]
              · rw [decide_eq_false z, decide_eq_false (by omega)]
          have h2 : stK T (j + 1) w a len (2 * c + 1) = stK T j (w + 1) (a + 2 ^ w) (len + tLen T w) c := by
            unfold stK
            rw [smW_odd, hw2, Nat.add_mul (2 * c) 1, Nat.one_mul, ← Nat.mul_assoc c 2, Nat.mul_comm c 2]
            omega
          unfold stG
          rw [h1, h2]
  · exact Or.inr ha
theorem m_lenOf (ht : tOk T) (hT : MT T s) (ha : a < 2147483648) : ev (d + 1) 314 0 [.inr 67, .inl (nI a), .inr 0, .inr 0] [] s = some (0, nI (lnSt T a), s) := by
  have hW := ht.1
  have g := loopU (fun i v => ev (d + 1) 314 4 [.inr 67, .inl (nI a), .inl (nI v), .inl (nI i)] [] s) (fun x v => v + (if a.testBit x = true then tLen T x else 0)) (tW T) (fun x v hx => by
    have e1 := m_isIn (d := d) (x := a) (i := x) (s := s) ha (by omega)
    have e2 := (hT.2.2.1 x hx).1
    rw [E314_4, hT.1]
    cases hb : a.testBit x with
    | false =>
      rw [hb] at e1
      simp (disch := omega) only [e1, bIf0, E314_31, Bool.false_eq_true, lit, nI_add, pk_mul, n_sub, n_addneg, nle_t, nle_f, nlt_t, nlt_f, neq_t, neq_f, n_inb, n_ix, bnd_some, if_true, if_false, ite_tt, ite_ff, not_true_eq_false, not_false_eq_true, eq_self, false_or, or_false, true_or, or_true]
    | true =>
      rw [hb] at e1
      simp (disch := omega) only [e1, bIt0, e2, E314_31, lit, nI_add, pk_mul, n_sub, n_addneg, nle_t, nle_f, nlt_t, nlt_f, neq_t, neq_f, n_inb, n_ix, bnd_some, if_true, if_false, ite_tt, ite_ff, not_true_eq_false, not_false_eq_true, eq_self, false_or, or_false, true_or, or_true]) 0
  rw [E314_0]
  simp only [lit]
  refine g.trans ?_
  rw [E314_4, hT.1]
  simp (disch := omega) only [lit, nI_add, pk_mul, n_sub, n_addneg, nle_t, nle_f, nlt_t, nlt_f, neq_t, neq_f, n_inb, n_ix, bnd_some, if_true, if_false, ite_tt, ite_ff, not_true_eq_false, not_false_eq_true, eq_self, false_or, or_false, true_or, or_true]
  rfl
theorem lnSt_le (ht : tOk T) : lnSt T a ≤ 96 := by
  have hW := ht.1
  have := sm_le (f := fun w => if a.testBit w = true then tLen T w else 0) (c := 8) (n := tW T) (fun w hw => by
    show (if _ then _ else 0) ≤ 8
    split
    · exact (ht.2.2.1 w hw).2.1
    · omega)
  unfold lnSt; omega
theorem smW_0 {f : Nat → Nat} : smW f 0 c j = sm (fun i => if c.testBit i = true then f i else 0) j := sm_cong (fun i _ => by rw [Nat.zero_add])
/-- how many of a letter the words of a set need -/
theorem m_strS (ht : tOk T) (hT : MT T s) (hS : MSt T S s) (ho : sOk T S B) (ha : a < 4096) (hl : l < 10) {q1 q2 q3 : Int32} : ev (d + 1) 317 71 [.inr 67, .inl q1, .inl q2, .inl q3, .inl (nI a), .inr 0, .inl (nI l), .inl (nI 0), .inl (nI 0)] [] s = ev (d + 1) 317 53 [.inr 67, .inl q1, .inl q2, .inl q3, .inl (nI a), .inl (bI (decide (smW (fun x => nd T x l) 0 a (tW T) ≤ sL S l))), .inl (nI (l + 1)), .inr 0, .inr 0] [] s := by
  have hW := ht.1
  have g := loopU (fun i v => ev (d + 1) 317 71 [.inr 67, .inl q1, .inl q2, .inl q3, .inl (nI a), .inr 0, .inl (nI l), .inl (nI v), .inl (nI i)] [] s) (fun o v => v + (if a.testBit o = true then nd T o l else 0)) (tW T) (fun o v hi => by
    have e1 := m_isIn (d := d) (x := a) (i := o) (s := s) (by omega) (by omega)
    have e2 := (hT.2.2.1 o hi).2.2.2 l hl
    rw [E317_71, hT.1]
    cases hb : a.testBit o with
    | false =>
      rw [hb] at e1
      simp (disch := omega) only [e1, bIf0, E317_109, Bool.false_eq_true, lit, nI_add, pk_mul, n_sub, n_addneg, nle_t, nle_f, nlt_t, nlt_f, neq_t, neq_f, n_inb, n_ix, bnd_some, if_true, if_false, ite_tt, ite_ff, not_true_eq_false, not_false_eq_true, eq_self, false_or, or_false, true_or, or_true]
    | true =>
      rw [hb] at e1
      simp (disch := omega) only [e1, bIt0, e2, E317_109, lit, nI_add, pk_mul, n_sub, n_addneg, nle_t, nle_f, nlt_t, nlt_f, neq_t, neq_f, n_inb, n_ix, bnd_some, if_true, if_false, ite_tt, ite_ff, not_true_eq_false, not_false_eq_true, eq_self, false_or, or_false, true_or, or_true]) 0
  have e0 : itr (fun o v => v + (if a.testBit o = true then nd T o l else 0)) (tW T) 0 = smW (fun x => nd T x l) 0 a (tW T) := by
    rw [smW_0]; rfl
  rw [e0] at g
  refine g.trans ?_
  have b1 : smW (fun x => nd T x l) 0 a (tW T) ≤ 96 := by
    rw [smW_0]
    have := sm_le (f := fun i => if a.testBit i = true then nd T i l else 0) (c := 8) (n := tW T) (fun w hw => by
      show (if _ then _ else 0) ≤ 8
      have h1 := nd_le T w l
      have h2 := (ht.2.2.1 w hw).2.1
      split <;> omega)
    omega
  have b2 := (hal_le ho hl).2
  have c1 := hS.2.1 l hl
  generalize smW (fun x => nd T x l) 0 a (tW T) = z at b1
  rw [E317_71, hT.1]
  by_cases hz : z ≤ sL S l
  · rw [decide_eq_true hz]
    simp (disch := omega) only [c1, E317_135, lit, nI_add, pk_mul, n_sub, n_addneg, nle_t, nle_f, nlt_t, nlt_f, neq_t, neq_f, n_inb, n_ix, bnd_some, if_true, if_false, ite_tt, ite_ff, not_true_eq_false, not_false_eq_true, eq_self, false_or, or_false, true_or, or_true]
    rfl
  · rw [decide_eq_false hz]
    simp (disch := omega) only [c1, E317_135, lit, nI_add, pk_mul, n_sub, n_addneg, nle_t, nle_f, nlt_t, nlt_f, neq_t, neq_f, n_inb, n_ix, bnd_some, if_true, if_false, ite_tt, ite_ff, not_true_eq_false, not_false_eq_true, eq_self, false_or, or_false, true_or, or_true]
    rfl
def stB (r : aN) : Int32 := match r.2 with
  | none => -nI 1
  | some k => nI (k % 4096)
theorem Y_streets (ha : AOk A B) (h : MJ A B' s) : ∃ s', ev (d + 1 + 1) 317 0 [.inr 67, .inl q, .inr 0, .inr 0, .inr 0, .inr 0, .inr 0, .inr 0, .inr 0] [] s = some (0, (o_streets A q).2, s') ∧ MJ (o_streets A q).1 B' s' ∧ gM s s' := by
  obtain ⟨h0, g0⟩ := m_th h
  obtain ⟨s0, hs0⟩ : ∃ s0, s0 = up s 67 18 (nI 0) := ⟨_, rfl⟩
  rw [← hs0] at h0 g0
  have ht := ha.1
  have ho := ha.2.1
  have hT := h0.1
  have hS := h0.2.1
  have hW := ht.1
  have ei : ev (d + 1) 228 0 [.inl q, .inl (nI 1), .inl (nI 6)] [] s0 = some (0, bI (decide (¬ q < nI 1 ∧ ¬ nI 6 < q)), s0) := m_in
  unfold o_streets
  by_cases hq : q < nI 1 ∨ nI 6 < q
  · rw [if_pos hq]
    rw [decide_eq_false (fun z => hq.elim z.1 z.2)] at ei
    refine ⟨s0, ?_, h0, g0⟩
    rw [E317_0, show up s 67 18 0 = s0 from hs0.symm]
    simp only [lit]
    rw [ei]
    simp (disch := omega) only [bIf0, lit, nI_add, pk_mul, n_sub, n_addneg, nle_t, nle_f, nlt_t, nlt_f, neq_t, neq_f, n_inb, n_ix, bnd_some, if_true, if_false, ite_tt, ite_ff, not_true_eq_false, not_false_eq_true, eq_self, false_or, or_false, true_or, or_true]
  rw [if_neg hq]
  have hq1 : ¬ q < nI 1 := fun z => hq (Or.inl z)
  have hq2 : ¬ nI 6 < q := fun z => hq (Or.inr z)
  rw [decide_eq_true ⟨hq1, hq2⟩] at ei
  obtain ⟨m, hm, rfl⟩ : ∃ m, m < 7 ∧ q = nI m := by
    have hin : inN q 7 = true := by
      unfold inN
      refine decide_eq_true ⟨fun z => hq1 ?_, fun z => hq2 ?_⟩
      · rw [Int32.lt_iff_toInt_lt] at z ⊢
        rw [toI (by omega)] at z ⊢
        omega
      · rw [lt_n _ _ (by omega)]; exact z
    exact inN_t (by omega) hin
  rw [n_ix (by omega)]
  have hwk := (stD_walk (T := gT A) (j := tW (gT A)) (w := 0) (m := m) (p := sL (gS A)) (a := 0) (len := 0) (r := (0, none))).resolve_right (by simp)
  have hre : stR A m = itr (stG (stV (gT A) (tW (gT A)) 0 m (sL (gS A))) (stK (gT A) (tW (gT A)) 0 0 0)) (2 ^ tW (gT A)) (0, none) := hwk
  have hP : 2 ^ tW (gT A) ≤ 4096 := by
    have := Nat.pow_le_pow_right (n := 2) (by omega) hW
    omega
  have epow : nI 1 <<< (nI (tW (gT A)) &&& nI 31) = nI (2 ^ tW (gT A)) := n_pow (by omega)
  have e1w := hT.1
  have hpc : ∀ c, c < 2 ^ tW (gT A) → pcJ c (tW (gT A)) = pc c := fun c hc => (sm_more hW (f := fun i => (c.testBit i).toNat) (fun i h1 _ => by
    show (c.testBit i).toNat = 0
    rw [tb_hi hc h1]; rfl)).symm
  have hky : ∀ c, stK (gT A) (tW (gT A)) 0 0 0 c = lnSt (gT A) c * 4096 + c := fun c => by
    unfold stK
    rw [smW_0]
    show (0 + lnSt (gT A) c) * 4096 + (0 + c * 1) = _
    omega
  rw [hre]
  generalize hP2 : 2 ^ tW (gT A) = P at hP epow hpc
  have can : ∀ c (a2 a3 : Int32), c < 4096 → ev (d + 1 + 1) 317 53 [.inr 67, .inl (nI m), .inl a2, .inl a3, .inl (nI c), .inl (nI 1), .inl (nI 0), .inr 0, .inr 0] [] s0 = if allN (fun l => decide (smW (fun x => nd (gT A) x l) 0 c (tW (gT A)) ≤ sL (gS A) l)) 10 = true then ev (d + 1 + 1) 317 143 [.inr 67, .inl (nI m), .inl a2, .inl a3, .inl (nI c), .inl (nI 1), .inr 0, .inr 0, .inr 0] [] s0 else ev (d + 1 + 1) 317 143 [.inr 67, .inl (nI m), .inl a2, .inl a3, .inl (nI c), .inl (nI 0), .inr 0, .inr 0, .inr 0] [] s0 := by
    intro c a2 a3 hc
    have e := loopA (fun i => ev (d + 1 + 1) 317 53 [.inr 67, .inl (nI m), .inl a2, .inl a3, .inl (nI c), .inl (nI 1), .inl (nI i), .inr 0, .inr 0] [] s0) (fun l => decide (smW (fun x => nd (gT A) x l) 0 c (tW (gT A)) ≤ sL (gS A) l)) (ev (d + 1 + 1) 317 143 [.inr 67, .inl (nI m), .inl a2, .inl a3, .inl (nI c), .inl (nI 0), .inr 0, .inr 0, .inr 0] [] s0) 10 (fun i hi hp => by
        have f1 := m_strS (d := d + 1) (q1 := nI m) (q2 := a2) (q3 := a3) ht hT hS ho hc hi
        rw [hp] at f1
        rw [E317_53]
        simp (disch := omega) only [lit, nI_add, pk_mul, n_sub, n_addneg, nle_t, nle_f, nlt_t, nlt_f, neq_t, neq_f, n_inb, n_ix, bnd_some, if_true, if_false, ite_tt, ite_ff, not_true_eq_false, not_false_eq_true, eq_self, false_or, or_false, true_or, or_true]
        refine f1.trans rfl) (fun i hi hp => by
        have f1 := m_strS (d := d + 1) (q1 := nI m) (q2 := a2) (q3 := a3) ht hT hS ho hc hi
        rw [hp] at f1
        rw [E317_53]
        simp (disch := omega) only [lit, nI_add, pk_mul, n_sub, n_addneg, nle_t, nle_f, nlt_t, nlt_f, neq_t, neq_f, n_inb, n_ix, bnd_some, if_true, if_false, ite_tt, ite_ff, not_true_eq_false, not_false_eq_true, eq_self, false_or, or_false, true_or, or_true]
        refine f1.trans ?_
        rw [E317_53]
        simp (disch := omega) only [bIf0, lit, nI_add, pk_mul, n_sub, n_addneg, nle_t, nle_f, nlt_t, nlt_f, neq_t, neq_f, n_inb, n_ix, bnd_some, if_true, if_false, ite_tt, ite_ff, not_true_eq_false, not_false_eq_true, eq_self, false_or, or_false, true_or, or_true]
        exact ite_self _)
    refine e.trans ?_
    by_cases z : allN (fun l => decide (smW (fun x => nd (gT A) x l) 0 c (tW (gT A)) ≤ sL (gS A) l)) 10 = true
    · rw [if_pos z, if_pos z, E317_53]
      simp (disch := omega) only [lit, nI_add, pk_mul, n_sub, n_addneg, nle_t, nle_f, nlt_t, nlt_f, neq_t, neq_f, n_inb, n_ix, bnd_some, if_true, if_false, ite_tt, ite_ff, not_true_eq_false, not_false_eq_true, eq_self, false_or, or_false, true_or, or_true]
    · rw [if_neg z, if_neg z]
  have key : ∀ n, n ≤ P → ev (d + 1 + 1) 317 24 [.inr 67, .inl (nI m), .inl (nI 0), .inl (-nI 1), .inl (nI 0), .inr 0, .inr 0, .inr 0, .inr 0] [] s0 = ev (d + 1 + 1) 317 24 [.inr 67, .inl (nI m), .inl (nI (itr (stG (stV (gT A) (tW (gT A)) 0 m (sL (gS A))) (stK (gT A) (tW (gT A)) 0 0 0)) n (0, none)).1), .inl (stB (itr (stG (stV (gT A) (tW (gT A)) 0 m (sL (gS A))) (stK (gT A) (tW (gT A)) 0 0 0)) n (0, none))), .inl (nI n), .inr 0, .inr 0, .inr 0, .inr 0] [] s0 ∧ (itr (stG (stV (gT A) (tW (gT A)) 0 m (sL (gS A))) (stK (gT A) (tW (gT A)) 0 0 0)) n (0, none)).1 ≤ n ∧ ((itr (stG (stV (gT A) (tW (gT A)) 0 m (sL (gS A))) (stK (gT A) (tW (gT A)) 0 0 0)) n (0, none)).1 = 0 ↔ (itr (stG (stV (gT A) (tW (gT A)) 0 m (sL (gS A))) (stK (gT A) (tW (gT A)) 0 0 0)) n (0, none)).2 = none) ∧ ∀ k, (itr (stG (stV (gT A) (tW (gT A)) 0 m (sL (gS A))) (stK (gT A) (tW (gT A)) 0 0 0)) n (0, none)).2 = some k → k % 4096 < n ∧ k = lnSt (gT A) (k % 4096) * 4096 + k % 4096 := by
    intro n
    induction n with
    | zero =>
      intro _
      exact ⟨rfl, Nat.le_refl _, ⟨fun _ => rfl, fun _ => rfl⟩, fun k hk => by cases hk⟩
    | succ n ih =>
      intro hn
      obtain ⟨i1, i2, i3, i4⟩ := ih (by omega)
      have es : itr (stG (stV (gT A) (tW (gT A)) 0 m (sL (gS A))) (stK (gT A) (tW (gT A)) 0 0 0)) (n + 1) (0, none) = stG (stV (gT A) (tW (gT A)) 0 m (sL (gS A))) (stK (gT A) (tW (gT A)) 0 0 0) n (itr (stG (stV (gT A) (tW (gT A)) 0 m (sL (gS A))) (stK (gT A) (tW (gT A)) 0 0 0)) n (0, none)) := rfl
      rw [es, i1]
      generalize itr (stG (stV (gT A) (tW (gT A)) 0 m (sL (gS A))) (stK (gT A) (tW (gT A)) 0 0 0)) n (0, none) = r at i2 i3 i4
      have eb : ev (d + 1) 331 0 [.inl (nI n)] [] s0 = some (0, nI (pc n), s0) := x_bc (by omega)
      have hpn := pc_le n
      have e176 : ∀ (a2 : Nat) (a3 : Int32), ev (d + 1 + 1) 317 176 [.inr 67, .inl (nI m), .inl (nI a2), .inl a3, .inl (nI n), .inr 0, .inr 0, .inr 0, .inr 0] [] s0 = ev (d + 1 + 1) 317 24 [.inr 67, .inl (nI m), .inl (nI a2), .inl a3, .inl (nI (n + 1)), .inr 0, .inr 0, .inr 0, .inr 0] [] s0 := fun a2 a3 => by
        rw [E317_176]
        simp (disch := omega) only [lit, nI_add, pk_mul, n_sub, n_addneg, nle_t, nle_f, nlt_t, nlt_f, neq_t, neq_f, n_inb, n_ix, bnd_some, if_true, if_false, ite_tt, ite_ff, not_true_eq_false, not_false_eq_true, eq_self, false_or, or_false, true_or, or_true]
      have hv : stV (gT A) (tW (gT A)) 0 m (sL (gS A)) n = (decide (pc n = m) && allN (fun l => decide (smW (fun x => nd (gT A) x l) 0 n (tW (gT A)) ≤ sL (gS A) l)) 10) := by
        unfold stV
        rw [hpc n (by omega)]
      unfold stG
      rw [hv, hky]
      by_cases hpm : pc n = m
      · rw [decide_eq_true hpm, Bool.true_and]
        have cn := can n (nI r.1) (stB r) (by omega)
        have st1 : ev (d + 1 + 1) 317 24 [.inr 67, .inl (nI m), .inl (nI r.1), .inl (stB r), .inl (nI n), .inr 0, .inr 0, .inr 0, .inr 0] [] s0 = ev (d + 1 + 1) 317 53 [.inr 67, .inl (nI m), .inl (nI r.1), .inl (stB r), .inl (nI n), .inl (nI 1), .inl (nI 0), .inr 0, .inr 0] [] s0 := by
          rw [E317_24, e1w]
          simp (disch := omega) only [epow, eb, lit, nI_add, pk_mul, n_sub, n_addneg, nle_t, nle_f, nlt_t, nlt_f, neq_t, neq_f, n_inb, n_ix, bnd_some, if_true, if_false, ite_tt, ite_ff, not_true_eq_false, not_false_eq_true, eq_self, false_or, or_false, true_or, or_true]
        rw [st1, cn]
        by_cases hc : allN (fun l => decide (smW (fun x => nd (gT A) x l) 0 n (tW (gT A)) ≤ sL (gS A) l)) 10 = true
        · rw [if_pos hc, if_pos hc]
          have f1 := m_lenOf (d := d) (a := n) (s := s0) ht hT (by omega)
          have b1 := lnSt_le (a := n) ht
          have e173 : ev (d + 1 + 1) 317 173 [.inr 67, .inl (nI m), .inl (nI (r.1 + 1)), .inr 0, .inl (nI n), .inr 0, .inr 0, .inr 0, .inr 0] [] s0 = ev (d + 1 + 1) 317 24 [.inr 67, .inl (nI m), .inl (nI (r.1 + 1)), .inl (nI n), .inl (nI (n + 1)), .inr 0, .inr 0, .inr 0, .inr 0] [] s0 := by
            rw [E317_173, e176]
          obtain ⟨c, o⟩ := r
          cases o with
          | none =>
            have em : (lnSt (gT A) n * 4096 + n) % 4096 = n := by omega
            refine ⟨?_, by show c + 1 ≤ n + 1; exact Nat.succ_le_succ i2, ⟨fun z => (by cases z), fun z => (by cases z)⟩, fun k hk => by
              cases hk
              rw [em]
              exact ⟨by omega, rfl⟩⟩
            rw [E317_143]
            show (if ¬ nI 1 = 0 then (if -nI 1 = -1 then _ else _) else _) = ev (d + 1 + 1) 317 24 [.inr 67, .inl (nI m), .inl (nI (c + 1)), .inl (nI ((lnSt (gT A) n * 4096 + n) % 4096)), .inl (nI (n + 1)), .inr 0, .inr 0, .inr 0, .inr 0] [] s0
            rw [em, ← e173]
            rw [if_pos (show ¬ nI 1 = 0 by decide +kernel), if_pos (show -nI 1 = -1 from rfl)]
            simp (disch := omega) only [lit, nI_add, pk_mul, n_sub, n_addneg, nle_t, nle_f, nlt_t, nlt_f, neq_t, neq_f, n_inb, n_ix, bnd_some, if_true, if_false, ite_tt, ite_ff, not_true_eq_false, not_false_eq_true, eq_self, false_or, or_false, true_or, or_true]
          | some k =>
            obtain ⟨g1, g2⟩ := i4 k rfl
            obtain ⟨b, hb⟩ : ∃ b, b = k % 4096 := ⟨_, rfl⟩
            rw [← hb] at g1 g2
            have f2 := m_lenOf (d := d) (a := b) (s := s0) ht hT (by omega)
            have b2 := lnSt_le (a := b) ht
            have i2 : c ≤ n := i2
            have st2 : ∀ z, ev (d + 1 + 1) 317 143 [.inr 67, .inl (nI m), .inl (nI c), .inl (nI b), .inl (nI n), .inl (nI 1), .inr 0, .inr 0, .inr 0] [] s0 = z ↔ (if nI (lnSt (gT A) b) ≤ nI (lnSt (gT A) n) then ev (d + 1 + 1) 317 176 [.inr 67, .inl (nI m), .inl (nI (c + 1)), .inl (nI b), .inl (nI n), .inr 0, .inr 0, .inr 0, .inr 0] [] s0 else ev (d + 1 + 1) 317 173 [.inr 67, .inl (nI m), .inl (nI (c + 1)), .inr 0, .inl (nI n), .inr 0, .inr 0, .inr 0, .inr 0] [] s0) = z := fun z => by
              rw [E317_143]
              simp (disch := omega) only [nneg_f, f1, f2, lit, nI_add, pk_mul, n_sub, n_addneg, nle_t, nle_f, nlt_t, nlt_f, neq_t, neq_f, n_inb, n_ix, bnd_some, if_true, if_false, ite_tt, ite_ff, not_true_eq_false, not_false_eq_true, eq_self, false_or, or_false, true_or, or_true]
            by_cases hlt : lnSt (gT A) n * 4096 + n < k
            · have em : (lnSt (gT A) n * 4096 + n) % 4096 = n := by omega
              have hl : lnSt (gT A) n < lnSt (gT A) b := by omega
              have er : stS (lnSt (gT A) n * 4096 + n) (c, some k) = (c + 1, some (lnSt (gT A) n * 4096 + n)) := by
                unfold stS
                dsimp only
                rw [if_pos hlt]
              rw [er]
              refine ⟨?_, by show c + 1 ≤ n + 1; omega, ⟨fun z => (by cases z), fun z => (by cases z)⟩, fun k2 hk => by
                cases hk
                rw [em]
                exact ⟨by omega, rfl⟩⟩
              show ev (d + 1 + 1) 317 143 [.inr 67, .inl (nI m), .inl (nI c), .inl (nI (k % 4096)), .inl (nI n), .inl (nI 1), .inr 0, .inr 0, .inr 0] [] s0 = ev (d + 1 + 1) 317 24 [.inr 67, .inl (nI m), .inl (nI (c + 1)), .inl (nI ((lnSt (gT A) n * 4096 + n) % 4096)), .inl (nI (n + 1)), .inr 0, .inr 0, .inr 0, .inr 0] [] s0
              rw [em, ← hb, st2, ← e173]
              simp (disch := omega) only [lit, nI_add, pk_mul, n_sub, n_addneg, nle_t, nle_f, nlt_t, nlt_f, neq_t, neq_f, n_inb, n_ix, bnd_some, if_true, if_false, ite_tt, ite_ff, not_true_eq_false, not_false_eq_true, eq_self, false_or, or_false, true_or, or_true]
            · have hl : lnSt (gT A) b ≤ lnSt (gT A) n := by omega
              have er : stS (lnSt (gT A) n * 4096 + n) (c, some k) = (c + 1, some k) := by
                unfold stS
                dsimp only
                rw [if_neg hlt]
              rw [er]
              refine ⟨?_, by show c + 1 ≤ n + 1; omega, ⟨fun z => (by cases z), fun z => (by cases z)⟩, fun k2 hk => by
                cases hk
                rw [← hb]
                exact ⟨by omega, g2⟩⟩
              show ev (d + 1 + 1) 317 143 [.inr 67, .inl (nI m), .inl (nI c), .inl (nI (k % 4096)), .inl (nI n), .inl (nI 1), .inr 0, .inr 0, .inr 0] [] s0 = ev (d + 1 + 1) 317 24 [.inr 67, .inl (nI m), .inl (nI (c + 1)), .inl (nI (k % 4096)), .inl (nI (n + 1)), .inr 0, .inr 0, .inr 0, .inr 0] [] s0
              rw [← hb, st2, ← e176]
              simp (disch := omega) only [lit, nI_add, pk_mul, n_sub, n_addneg, nle_t, nle_f, nlt_t, nlt_f, neq_t, neq_f, n_inb, n_ix, bnd_some, if_true, if_false, ite_tt, ite_ff, not_true_eq_false, not_false_eq_true, eq_self, false_or, or_false, true_or, or_true]
        · rw [if_neg hc, if_neg hc]
          refine ⟨?_, by omega, i3, fun k hk => ⟨by have := (i4 k hk).1; omega, (i4 k hk).2⟩⟩
          rw [E317_143]
          simp (disch := omega) only [lit, nI_add, pk_mul, n_sub, n_addneg, nle_t, nle_f, nlt_t, nlt_f, neq_t, neq_f, n_inb, n_ix, bnd_some, if_true, if_false, ite_tt, ite_ff, not_true_eq_false, not_false_eq_true, eq_self, false_or, or_false, true_or, or_true]
          exact e176 _ _
      · rw [decide_eq_false hpm, Bool.false_and, if_neg (by simp)]
        refine ⟨?_, by omega, i3, fun k hk => ⟨by have := (i4 k hk).1; omega, (i4 k hk).2⟩⟩
        rw [E317_24, e1w]
        simp (disch := omega) only [epow, eb, lit, nI_add, pk_mul, n_sub, n_addneg, nle_t, nle_f, nlt_t, nlt_f, neq_t, neq_f, n_inb, n_ix, bnd_some, if_true, if_false, ite_tt, ite_ff, not_true_eq_false, not_false_eq_true, eq_self, false_or, or_false, true_or, or_true]
        exact e176 _ _
  obtain ⟨k1, k2, k3, k4⟩ := key P (Nat.le_refl _)
  have st0 : ev (d + 1 + 1) 317 0 [.inr 67, .inl (nI m), .inr 0, .inr 0, .inr 0, .inr 0, .inr 0, .inr 0, .inr 0] [] s = ev (d + 1 + 1) 317 24 [.inr 67, .inl (nI m), .inl (nI 0), .inl (-nI 1), .inl (nI 0), .inr 0, .inr 0, .inr 0, .inr 0] [] s0 := by
    rw [E317_0, show up s 67 18 0 = s0 from hs0.symm]
    simp only [lit]
    rw [ei]
    simp (disch := omega) only [bIt0, lit, nI_add, pk_mul, n_sub, n_addneg, nle_t, nle_f, nlt_t, nlt_f, neq_t, neq_f, n_inb, n_ix, bnd_some, if_true, if_false, ite_tt, ite_ff, not_true_eq_false, not_false_eq_true, eq_self, false_or, or_false, true_or, or_true]
  rw [st0, k1]
  generalize itr (stG (stV (gT A) (tW (gT A)) 0 m (sL (gS A))) (stK (gT A) (tW (gT A)) 0 0 0)) P (0, none) = r at k2 k3 k4
  obtain ⟨c, o⟩ := r
  have k2 : c ≤ P := k2
  cases o with
  | none =>
    have hc : c = 0 := k3.mpr rfl
    subst hc
    have q1 : Eqm [80] [17] s0 (up s0 67 17 (nI 0)) := Eqm.rf.pf (by simp)
    refine ⟨up s0 67 17 (nI 0), ?_, MJ_row h0 q1 (by decide) (by decide) MW_nil, g0.tr (q1.g (by decide))⟩
    rw [E317_24, e1w]
    simp (disch := omega) only [epow, E317_205, lit, nI_add, pk_mul, n_sub, n_addneg, nle_t, nle_f, nlt_t, nlt_f, neq_t, neq_f, n_inb, n_ix, bnd_some, if_true, if_false, ite_tt, ite_ff, not_true_eq_false, not_false_eq_true, eq_self, false_or, or_false, true_or, or_true]
  | some k =>
    have hc : c ≠ 0 := fun z => by have := k3.mp z; cases this
    obtain ⟨g1, g2⟩ := k4 k rfl
    obtain ⟨b, hb⟩ : ∃ b, b = k % 4096 := ⟨_, rfl⟩
    rw [← hb] at g1 g2
    have b2 := lnSt_le (a := b) ht
    have hdiv : k / 4096 = lnSt (gT A) b := by omega
    obtain ⟨s1, s2, r1, r2, q1, q2, w2⟩ := m_tell2 (d := d + 1) (s := s0) (p := nI b) (q := nI (lnSt (gT A) b))
    have f2 := m_lenOf (d := d) (a := b) (s := s1) ht (MT_q hT q1 (by decide) (by decide)) (by omega)
    dsimp only
    rw [← hb, hdiv]
    refine ⟨s2, ?_, MJ_row h0 q2 (by decide) (by decide) w2, g0.tr (q2.g (by decide))⟩
    have hsb : stB (c, some k) = nI b := by rw [hb]; rfl
    rw [hsb, E317_24, e1w]
    simp (disch := omega) only [epow, r1, f2, r2, E317_205, lit, nI_add, pk_mul, n_sub, n_addneg, nle_t, nle_f, nlt_t, nlt_f, neq_t, neq_f, n_inb, n_ix, bnd_some, if_true, if_false, ite_tt, ite_ff, not_true_eq_false, not_false_eq_true, eq_self, false_or, or_false, true_or, or_true]
end MU9
