/-! CALLS: ladder -/
/-- the table of what is beside each word -/
def XBe (T : aT) (s : mS) : Prop := ∀ x, x < 12 → s 59 x = nI (bes T x)
section XK2
variable {d B l w v x y n j a b k : Nat} {s s' s1 : mS} {T : aT} {S : aS} {A : aA} {p q : Int32} {W : List Int32}
theorem x_apart (ht : tOk T) (hT : XT T s) (hx : x < tW T) (hy : y < tW T) (hl : tLen T x = tLen T y) : ev (d + 1) 163 0 [.inr 6, .inl (nI x), .inl (nI y), .inr 0, .inr 0] [] s = some (0, nI (apa T x y), s) := by
  have hW := ht.1
  have hlx := (ht.2.2.1 x hx).2.1
  have e9 := (hT.2.2.1 x hx).1
  have g := loopU (fun i b => ev (d + 1) 163 5 [.inr 6, .inl (nI x), .inl (nI y), .inl (nI b), .inl (nI i)] [] s) (fun i b => b + (if tSp T x i = tSp T y i then 0 else 1)) (tLen T x) (fun i b hi => by
    have s1 := (ht.2.2.1 x hx).2.2.2 i hi
    have s2 := (ht.2.2.1 y hy).2.2.2 i (by omega)
    rw [E163_5]
    by_cases hz : tSp T x i = tSp T y i
    · simp (disch := omega) only [lit, n_inb, if_true, n_ix, e9, nle_f, if_false, x_letterAt ht hT hx hi, bnd_some, x_letterAt ht hT hy (show i < tLen T y by omega), hz, not_true_eq_false, E163_39, nI_add]
    · simp (disch := omega) only [lit, n_inb, if_true, n_ix, e9, nle_f, if_false, x_letterAt ht hT hx hi, bnd_some, x_letterAt ht hT hy (show i < tLen T y by omega), neq_f, not_false_eq_true, E163_39, nI_add, hz]) 0
  rw [E163_0]
  simp only [lit]
  refine g.trans ?_
  rw [E163_5]
  simp (disch := omega) only [lit, n_inb, if_true, n_ix, e9, nle_t]
  rfl
theorem x_fill59 : ∃ s', ev d 332 0 [.inr 59, .inl (nI 0), .inr 0, .inr 0] [] s = some (0, nI 0, s') ∧ (∀ l, l < 12 → s' 59 l = nI 0) ∧ Eqx [59] s s' := by
  have hk : 59 = 52 ∨ 59 = 59 := Or.inr rfl
  have hm : (mSh 59).2 = 12 := by decide +kernel
  have key : ∀ n, n ≤ 12 → ∃ s', ev d 332 5 [.inr 59, .inl (nI 0), .inl (nI 0), .inl (nI 12)] [] s = ev d 332 5 [.inr 59, .inl (nI 0), .inl (nI n), .inl (nI 12)] [] s' ∧ (∀ l, l < n → s' 59 l = nI 0) ∧ Eqx [59] s s' := by
    intro n
    induction n with
    | zero => intro _; exact ⟨s, rfl, fun l hl => by omega, Eqx.rf⟩
    | succ n ih =>
      intro hn
      obtain ⟨s1, e1, i1, q1⟩ := ih (by omega)
      refine ⟨up s1 59 n (nI 0), ?_, fun l hl => ?_, q1.up (by simp)⟩
      · rw [e1, E332_5 (hk0 := hk), hm]
        simp (disch := omega) only [lit, nle_f, if_false, n_inb, if_true, n_ix, nI_add]
      · by_cases hz : l = n
        · subst hz; exact up_in
        · rw [up_out hz]; exact i1 l (by omega)
  obtain ⟨s', e1, i1, q1⟩ := key 12 (Nat.le_refl _)
  refine ⟨s', ?_, i1, q1⟩
  rw [E332_0 (hk0 := hk), hm, lit 0, e1, E332_5 (hk0 := hk), hm]
  simp (disch := omega) only [lit, nI_add, pk_mul, n_sub, n_addneg, nle_t, nle_f, nlt_t, nlt_f, neq_t, neq_f, n_inb, n_ix, bnd_some, if_true, if_false, ite_tt, ite_ff, not_true_eq_false, not_false_eq_true, eq_self, false_or, or_false, true_or, or_true]
theorem x_link (ht : tOk T) (hT : XT T s) : ∃ s', ev (d + 1 + 1) 5 0 [.inr 58, .inr 6, .inr 0, .inr 0] [] s = some (0, nI 0, s') ∧ XBe T s' ∧ Eqx [59] s s' := by
  have hW := ht.1
  obtain ⟨s0, e0, i0, q0⟩ := x_fill59 (d := d + 1) (s := s)
  have outer : ∀ n, n ≤ tW T → ∃ s', ev (d + 1 + 1) 5 10 [.inr 58, .inr 6, .inl (nI 0), .inr 0] [] s0 = ev (d + 1 + 1) 5 10 [.inr 58, .inr 6, .inl (nI n), .inr 0] [] s' ∧ (∀ x, x < n → s' 59 x = nI (bts (isSt T x) (tW T))) ∧ (∀ x, n ≤ x → x < 12 → s' 59 x = nI 0) ∧ Eqx [59] s s' := by
    intro n
    induction n with
    | zero => intro _; exact ⟨s0, rfl, fun x hx => by omega, fun x _ hx => i0 x hx, q0⟩
    | succ n ih =>
      intro hn
      obtain ⟨s1, e1, i1, j1, q1⟩ := ih (by omega)
      have hnT : n < tW T := by omega
      have inner : ∀ m, m ≤ tW T → ∃ s2, ev (d + 1 + 1) 5 20 [.inr 58, .inr 6, .inl (nI n), .inl (nI 0)] [] s1 = ev (d + 1 + 1) 5 20 [.inr 58, .inr 6, .inl (nI n), .inl (nI m)] [] s2 ∧ s2 59 n = nI (bts (isSt T n) m) ∧ (∀ x, x ≠ n → s2 59 x = s1 59 x) ∧ Eqx [59] s s2 := by
        intro m
        induction m with
        | zero => intro _; exact ⟨s1, rfl, j1 n (Nat.le_refl _) (by omega), fun _ _ => rfl, q1⟩
        | succ m ihm =>
          intro hm
          obtain ⟨s2, e2, i2, j2, q2⟩ := ihm (by omega)
          have hmT : m < tW T := by omega
          have hT2 := XT_q hT q2 (by decide)
          have b1 := (ht.2.2.1 n hnT).2.1
          have b2 := (ht.2.2.1 m hmT).2.1
          have el1 := x_length (d := d + 1) ht hT2 hnT
          have el2 := x_length (d := d + 1) ht hT2 hmT
          have e63 : ∀ r, ev (d + 1 + 1) 5 63 [.inr 58, .inr 6, .inl (nI n), .inl (nI m)] [] r = ev (d + 1 + 1) 5 20 [.inr 58, .inr 6, .inl (nI n), .inl (nI (m + 1))] [] r := fun r => by
            rw [E5_63]
            simp only [lit, nI_add]
          have no : isSt T n m = false → bts (isSt T n) (m + 1) = bts (isSt T n) m := fun h => by
            rw [bts_s, if_neg (by rw [h]; simp), Nat.or_zero]
          by_cases hlen : tLen T n = tLen T m
          · have ea := x_apart (d := d) ht hT2 hnT hmT hlen
            have hapa : apa T n m ≤ 8 := by
              have := sm_le (f := fun i => if tSp T n i = tSp T m i then 0 else 1) (c := 1) (n := tLen T n) (fun i _ => by show (if tSp T n i = tSp T m i then 0 else 1) ≤ 1; split <;> omega)
              unfold apa; omega
            by_cases h1 : apa T n m = 1
            · have hs : isSt T n m = true := by unfold isSt; rw [decide_eq_true hlen, decide_eq_true h1]; rfl
              refine ⟨up s2 59 n (nI (bts (isSt T n) (m + 1))), ?_, up_in, fun x hx => by rw [up_out hx]; exact j2 x hx, q2.up (by simp)⟩
              rw [bts_s, if_pos hs, e2, E5_20, x_words hT2]
              simp (disch := omega) only [lit, bnd_some, nle_f, if_false, el1, el2, hlen, not_true_eq_false, ea, h1, n_inb, if_true, n_ix, i2, n_pow, n_or, e63]
            · have hs : isSt T n m = false := by unfold isSt; rw [decide_eq_false h1, Bool.and_false]
              refine ⟨s2, ?_, by rw [no hs]; exact i2, j2, q2⟩
              rw [e2, E5_20, x_words hT2]
              simp (disch := omega) only [lit, bnd_some, nle_f, if_false, el1, el2, hlen, not_true_eq_false, ea, neq_f, not_false_eq_true, if_true, e63]
          · have hs : isSt T n m = false := by unfold isSt; rw [decide_eq_false hlen, Bool.false_and]
            refine ⟨s2, ?_, by rw [no hs]; exact i2, j2, q2⟩
            rw [e2, E5_20, x_words hT2]
            simp (disch := omega) only [lit, bnd_some, nle_f, if_false, el1, el2, neq_f, not_false_eq_true, if_true, e63]
      obtain ⟨s2, e2, i2, j2, q2⟩ := inner _ (Nat.le_refl _)
      refine ⟨s2, ?_, fun x hx => ?_, fun x h1 h2 => by rw [j2 x (by omega)]; exact j1 x (by omega) h2, q2⟩
      · rw [e1, E5_10, x_words (XT_q hT q1 (by decide))]
        simp (disch := omega) only [lit, bnd_some, nle_f, if_false]
        rw [e2, E5_20, x_words (XT_q hT q2 (by decide))]
        simp (disch := omega) only [lit, bnd_some, nle_t, if_true, nI_add]
      · by_cases hz : x = n
        · subst hz; exact i2
        · rw [j2 x hz]; exact i1 x (by omega)
  obtain ⟨s1, e1, i1, j1, q1⟩ := outer _ (Nat.le_refl _)
  refine ⟨s1, ?_, fun x hx => ?_, q1⟩
  · have e0 : ev (d + 1) 332 0 [.inr 59, .inl 0, .inr 0, .inr 0] [] s = some (0, nI 0, s0) := e0
    rw [E5_0, e0, bnd_some]
    simp only [lit]
    rw [e1, E5_10, x_words (XT_q hT q1 (by decide))]
    simp (disch := omega) only [lit, nI_add, pk_mul, n_sub, n_addneg, nle_t, nle_f, nlt_t, nlt_f, neq_t, neq_f, n_inb, n_ix, bnd_some, if_true, if_false, ite_tt, ite_ff, not_true_eq_false, not_false_eq_true, eq_self, false_or, or_false, true_or, or_true]
  · unfold bes
    by_cases hz : x < tW T
    · rw [if_pos hz]; exact i1 x hz
    · rw [if_neg hz]; exact j1 x (by omega) hx
theorem bes_lt (ht : tOk T) (x : Nat) : bes T x < 4096 := by
  unfold bes
  split
  · exact Nat.lt_of_lt_of_le (bts_lt _ _) (Nat.pow_le_pow_right (n := 2) (by omega) ht.1)
  · omega
theorem besA_lt (ht : tOk T) (a : Nat) : besA T a < 4096 := by
  have : ∀ n, itr (fun w b => b ||| (if a.testBit w = true then bes T w else 0)) n 0 < 4096 := by
    intro n
    induction n with
    | zero => show 0 < 4096; omega
    | succ n ih =>
      refine Nat.or_lt_two_pow (n := 12) ih ?_
      show (if a.testBit n = true then bes T n else 0) < 4096
      split
      · exact bes_lt ht n
      · omega
  exact this 12
theorem x_besA (ht : tOk T) (hb : XBe T s) (ha : a < 2147483648) : ev (d + 1) 6 0 [.inr 58, .inl (nI a), .inr 0, .inr 0] [] s = some (0, nI (besA T a), s) := by
  have g := loopU (fun i b => ev (d + 1) 6 4 [.inr 58, .inl (nI a), .inl (nI b), .inl (nI i)] [] s) (fun w b => b ||| (if a.testBit w = true then bes T w else 0)) 12 (fun w b hw => by
    have eh := x_has (d := d) (s := s) (x := a) (i := w) ha (by omega)
    have e59 := hb w hw
    rw [E6_4]
    cases hbt : a.testBit w with
    | true =>
      rw [hbt] at eh
      simp (disch := omega) only [lit, bnd_some, nle_f, if_false, eh, bIt0, n_inb, n_ix, e59, E6_29, n_or, nI_add, if_true]
    | false =>
      rw [hbt] at eh
      simp (disch := omega) only [lit, bnd_some, nle_f, if_false, eh, bIf0, if_true, E6_29, n_or, nI_add, Bool.false_eq_true]) 0
  rw [E6_0]
  simp only [lit]
  refine g.trans ?_
  rw [E6_4]
  simp (disch := omega) only [lit, nI_add, pk_mul, n_sub, n_addneg, nle_t, nle_f, nlt_t, nlt_f, neq_t, neq_f, n_inb, n_ix, bnd_some, if_true, if_false, ite_tt, ite_ff, not_true_eq_false, not_false_eq_true, eq_self, false_or, or_false, true_or, or_true]
  rfl
theorem lyr_lt (ht : tOk T) (hx : x < 12) : ∀ k, (lyr T x k).1 < 4096 ∧ (lyr T x k).2 < 4096 := by
  intro k
  induction k with
  | zero =>
    have : 2 ^ x ≤ 2 ^ 11 := Nat.pow_le_pow_right (by omega) (by omega)
    exact ⟨Nat.lt_of_le_of_lt this (by decide), Nat.lt_of_le_of_lt this (by decide)⟩
  | succ k ih =>
    have h1 : besA T (lyr T x k).1 &&& (besA T (lyr T x k).1 ^^^ (lyr T x k).2) < 4096 := Nat.lt_of_le_of_lt Nat.and_le_left (besA_lt ht _)
    exact ⟨h1, Nat.or_lt_two_pow (n := 12) ih.2 h1⟩
/-- the layers stand -/
def XLy (T : aT) (y n : Nat) (s : mS) : Prop := ∀ k, k ≤ n → s 60 k = nI (lyr T y k).1
theorem x_distance (ht : tOk T) (hb : XBe T s) (hx : x < 12) (hy : y < 12) : ∃ s', Eqx [60] s s' ∧ match fnd (fun k => (lyr T y k).1.testBit x) 12 with
    | none => ev (d + 1 + 1) 7 0 [.inr 58, .inl (nI x), .inl (nI y), .inr 0, .inr 0] [] s = some (0, -nI 1, s')
    | some k => ev (d + 1 + 1) 7 0 [.inr 58, .inl (nI x), .inl (nI y), .inr 0, .inr 0] [] s = some (0, nI k, s') ∧ XLy T y k s' ∧ k < 12 := by
  obtain ⟨s0, hs0⟩ : ∃ s0, s0 = up s 60 0 (nI (2 ^ y)) := ⟨_, rfl⟩
  have q0 : Eqx [60] s s0 := by rw [hs0]; exact Eqx.rf.up (by simp)
  have loop : ∀ j k (s1 : mS), k + j = 12 → Eqx [60] s s1 → XLy T y k s1 → (∀ i, i < k → (lyr T y i).1.testBit x = false) → ∃ s', Eqx [60] s s' ∧ match fnd (fun k => (lyr T y k).1.testBit x) 12 with
      | none => ev (d + 1 + 1) 7 14 [.inr 58, .inl (nI x), .inr 0, .inl (nI (lyr T y k).2), .inl (nI k)] [] s1 = some (0, -nI 1, s')
      | some n => ev (d + 1 + 1) 7 14 [.inr 58, .inl (nI x), .inr 0, .inl (nI (lyr T y k).2), .inl (nI k)] [] s1 = some (0, nI n, s') ∧ XLy T y n s' ∧ n < 12 := by
    intro j
    induction j with
    | zero =>
      intro k s1 hk q1 h1 hno
      have : k = 12 := by omega
      subst this
      rw [fnd_none hno]
      refine ⟨s1, q1, ?_⟩
      dsimp only
      rw [E7_14]
      simp (disch := omega) only [lit, nI_add, pk_mul, n_sub, n_addneg, nle_t, nle_f, nlt_t, nlt_f, neq_t, neq_f, n_inb, n_ix, bnd_some, if_true, if_false, ite_tt, ite_ff, not_true_eq_false, not_false_eq_true, eq_self, false_or, or_false, true_or, or_true]
    | succ j ih =>
      intro k s1 hk q1 h1 hno
      obtain ⟨l1, l2⟩ := lyr_lt ht hy k
      have e60 := h1 k (Nat.le_refl _)
      have eh := x_has (d := d + 1) (s := s1) (x := (lyr T y k).1) (i := x) (by omega) (by omega)
      cases hbt : (lyr T y k).1.testBit x with
      | true =>
        rw [hbt] at eh
        rw [fnd_some (show k < 12 by omega) hno hbt]
        refine ⟨s1, q1, ?_, h1, by omega⟩
        rw [E7_14]
        simp (disch := omega) only [lit, nle_f, if_false, n_inb, if_true, n_ix, e60, eh, bnd_some, bIt0]
      | false =>
        rw [hbt] at eh
        have hb1 : XBe T s1 := fun x hx => by rw [q1 _ (by decide)]; exact hb x hx
        have eb := x_besA (d := d) (a := (lyr T y k).1) ht hb1 (by omega)
        obtain ⟨s2, hs2⟩ : ∃ s2, s2 = up s1 60 (k + 1) (nI (lyr T y (k + 1)).1) := ⟨_, rfl⟩
        have q2 : Eqx [60] s s2 := by rw [hs2]; exact q1.up (by simp)
        have e61 : s2 60 (k + 1) = nI (lyr T y (k + 1)).1 := by rw [hs2, up_in]
        obtain ⟨s3, q3, g3⟩ := ih (k + 1) s2 (by omega) q2 (fun i hi => by
          rw [hs2]
          by_cases hz : i = k + 1
          · subst hz; exact up_in
          · rw [up_out hz]; exact h1 i (by omega)) (fun i hi => by
          by_cases hz : i = k
          · subst hz; exact hbt
          · exact hno i (by omega))
        have st : ev (d + 1 + 1) 7 14 [.inr 58, .inl (nI x), .inr 0, .inl (nI (lyr T y k).2), .inl (nI k)] [] s1 = ev (d + 1 + 1) 7 14 [.inr 58, .inl (nI x), .inr 0, .inl (nI (lyr T y (k + 1)).2), .inl (nI (k + 1))] [] s2 := by
          have hv : nI (besA T (lyr T y k).1) &&& (nI (lyr T y k).2 ^^^ -nI 1) = nI (lyr T y (k + 1)).1 := n_andn _ _
          have hv2 : nI (lyr T y k).2 ||| nI (lyr T y (k + 1)).1 = nI (lyr T y (k + 1)).2 := n_or _ _
          rw [E7_14]
          simp (disch := omega) only [lit, nle_f, if_false, n_inb, if_true, n_ix, e60, eh, bnd_some, bIf0, eb, nI_add, hv]
          rw [← hs2, e61, hv2]
        rw [st]
        exact ⟨s3, q3, g3⟩
  obtain ⟨s1, q1, g⟩ := loop 12 0 s0 rfl q0 (fun k hk => by
    have : k = 0 := by omega
    subst this
    rw [hs0, up_in]
    rfl) (fun i hi => by omega)
  have st : ev (d + 1 + 1) 7 0 [.inr 58, .inl (nI x), .inl (nI y), .inr 0, .inr 0] [] s = ev (d + 1 + 1) 7 14 [.inr 58, .inl (nI x), .inr 0, .inl (nI (lyr T y 0).2), .inl (nI 0)] [] s0 := by
    rw [E7_0]
    simp (disch := omega) only [lit, n_inb, if_true, n_ix, n_pow]
    rw [← hs0]
    rfl
  rw [st]
  exact ⟨s1, q1, g⟩
theorem leB_lt : leB a < 12 := by
  unfold leB
  cases h : fnd (fun i => a.testBit i) 11 with
  | none => show 11 < 12; omega
  | some i =>
    have : ∀ n, fnd (fun i => a.testBit i) n = some i → i < n := by
      intro n
      induction n with
      | zero => intro h; cases h
      | succ n ih =>
        intro h
        rw [fnd_s] at h
        cases hq : fnd (fun i => a.testBit i) n with
        | some y =>
          rw [hq] at h
          cases h
          have := ih hq
          omega
        | none =>
          rw [hq] at h
          dsimp only at h
          split at h
          · cases h; omega
          · cases h
    have := this _ h
    show i < 12
    omega
theorem x_least (ha : a < 2147483648) : ev (d + 1) 9 0 [.inl (nI a), .inr 0] [] s = some (0, nI (leB a), s) := by
  have loop : ∀ j i, i + j = 11 → (∀ k, k < i → a.testBit k = false) → ev (d + 1) 9 2 [.inl (nI a), .inl (nI i)] [] s = some (0, nI (leB a), s) := by
    intro j
    induction j with
    | zero =>
      intro i hi hno
      have : i = 11 := by omega
      subst this
      have : leB a = 11 := by unfold leB; rw [fnd_none hno]
      rw [E9_2, this]
      simp (disch := omega) only [E9_22, lit, nI_add, pk_mul, n_sub, n_addneg, nle_t, nle_f, nlt_t, nlt_f, neq_t, neq_f, n_inb, n_ix, bnd_some, if_true, if_false, ite_tt, ite_ff, not_true_eq_false, not_false_eq_true, eq_self, false_or, or_false, true_or, or_true]
    | succ j ih =>
      intro i hi hno
      have eh := x_has (d := d) (s := s) (x := a) (i := i) ha (by omega)
      cases hb : a.testBit i with
      | true =>
        rw [hb] at eh
        have : leB a = i := by unfold leB; rw [fnd_some (show i < 11 by omega) hno hb]
        rw [E9_2, this]
        simp (disch := omega) only [lit, nle_f, if_false, eh, bnd_some, bIt0, not_false_eq_true, if_true, E9_22]
      | false =>
        rw [hb] at eh
        rw [← ih (i + 1) (by omega) (fun k hk => by
          by_cases hz : k = i
          · subst hz; exact hb
          · exact hno k (by omega)), E9_2]
        simp (disch := omega) only [lit, nle_f, if_false, eh, bnd_some, bIf0, not_true_eq_false, nI_add]
  rw [E9_0]
  simp only [lit]
  exact loop 11 0 rfl (fun k hk => by omega)
theorem laR_len {k : Nat} : (laR T x y k).length = k := by
  induction k generalizing y with
  | zero => rfl
  | succ k ih =>
    unfold laR
    rw [List.length_cons, ih]
theorem x_between (ht : tOk T) (hb : XBe T s) (hly : XLy T y n s) (hn : n < 12) : ∀ k z (s1 : mS) W, k ≤ n → z < 12 → Eqx [4, 5] s s1 → XW W s1 → W.length + k ≤ 16 → ∃ s', ev (d + 1 + 1) 8 8 [.inr 58, .inr 0, .inr 0, .inr 4, .inl (nI z), .inl (nI k)] [] s1 = some (0, nI 0, s') ∧ XW (W ++ laR T y z k) s' ∧ Eqx [4, 5] s s' := by
  intro k
  induction k with
  | zero =>
    intro z s1 W hk hz q1 hW hl
    refine ⟨s1, ?_, by rw [show laR T y z 0 = [] from rfl, List.append_nil]; exact hW, q1⟩
    rw [E8_8]
    exact if_pos (show nI 0 ≤ 0 by decide +kernel)
  | succ k ih =>
    intro z s1 W hk hz q1 hW hl
    have e59 : s1 59 z = nI (bes T z) := by rw [q1 _ (by decide)]; exact hb z hz
    have e60 : s1 60 (k + 1) = nI (lyr T y (k + 1)).1 := by rw [q1 _ (by decide)]; exact hly (k + 1) hk
    have hlt : bes T z &&& (lyr T y (k + 1)).1 < 4096 := Nat.lt_of_le_of_lt Nat.and_le_left (bes_lt ht z)
    have el := x_least (d := d) (s := s1) (a := bes T z &&& (lyr T y (k + 1)).1) (by omega)
    obtain ⟨s2, e2, w2, q2⟩ := x_add (d := d + 1) (a := nI (leB (bes T z &&& (lyr T y (k + 1)).1))) hW (by omega)
    obtain ⟨s3, e3, w3, q3⟩ := ih (leB (bes T z &&& (lyr T y (k + 1)).1)) s2 _ (by omega) leB_lt (q1.tr q2) w2 (by rw [List.length_append]; show W.length + 1 + k ≤ 16; omega)
    rw [List.append_assoc] at w3
    refine ⟨s3, ?_, w3, q3⟩
    rw [← e3, E8_8]
    simp (disch := omega) only [lit, nle_f, if_false, n_inb, if_true, n_ix, e59, e60, n_and, el, bnd_some, e2, n_addneg, Nat.add_sub_cancel]
theorem X_ladder (h : XI A B s) : ∃ s', ev (d + 1 + 1 + 1) 205 0 [.inr 1, .inl p, .inl q, .inr 0] [] s = some (0, (o_ladder A p q).2, s') ∧ XI (o_ladder A p q).1 B s' ∧ fX s s' := by
  have ha := h.1
  have hT := h.2.2.1
  have hW := ha.1.1
  unfold o_ladder
  by_cases hp : inN p (tW (gT A)) = false
  · rw [if_pos (Or.inl hp)]
    refine ⟨s, ?_, h, fun _ _ => rfl⟩
    rw [E205_0, x_tHasWord hT, hp]
    simp only [lit, bnd_some, bIf0, if_true, E205_22]
  have hp' : inN p (tW (gT A)) = true := by simpa using hp
  by_cases hq : inN q (tW (gT A)) = false
  · rw [if_pos (Or.inr hq)]
    refine ⟨s, ?_, h, fun _ _ => rfl⟩
    rw [E205_0, x_tHasWord hT, hp']
    simp only [lit, bnd_some, bIt0, if_false, x_tHasWord hT, hq, bIf0, not_true_eq_false, E205_22]
  have hq' : inN q (tW (gT A)) = true := by simpa using hq
  rw [if_neg (by simp [hp', hq'])]
  obtain ⟨x, hx, rfl⟩ := inN_t (by omega) hp'
  obtain ⟨y, hy, rfl⟩ := inN_t (by omega) hq'
  rw [n_ix (by omega), n_ix (by omega)]
  obtain ⟨s1, e1, b1, q1⟩ := x_link (d := d) ha.1 hT
  obtain ⟨s2, q2, g⟩ := x_distance (d := d) (x := x) (y := y) ha.1 b1 (by omega) (by omega)
  have b2 : XBe (gT A) s2 := fun z hz => by rw [q2 _ (by decide)]; exact b1 z hz
  have i2 := XI_same (XI_same h q1 (by decide) (by decide)) q2 (by decide) (by decide)
  have f2 := (fX_q q1 (by decide)).tr (fX_q q2 (by decide))
  cases hf : fnd (fun k => (lyr (gT A) y k).1.testBit x) 12 with
  | none =>
    rw [hf] at g
    refine ⟨s2, ?_, i2, f2⟩
    have hn1 : (nI 0 ≤ -nI 1) = False := eq_false (by decide +kernel)
    rw [E205_0, x_tHasWord hT, hp']
    simp only [lit, bnd_some, bIt0, if_false, x_tHasWord hT, hq', not_false_eq_true, if_true, e1, g, hn1]
  | some k =>
    rw [hf] at g
    obtain ⟨g1, g2, g3⟩ := g
    have qn : Eqx [4, 5] s2 (up s2 4 1 (nI 0)) := Eqx.rf.up (by simp)
    have btw : ∃ s', ev (d + 1 + 1) 8 0 [.inr 58, .inl (nI x), .inl (nI k), .inr 4, .inr 0, .inr 0] [] (up s2 4 1 (nI 0)) = some (0, nI 0, s') ∧ XW ([] ++ laR (gT A) y x (k - 1)) s' ∧ Eqx [4, 5] s2 s' := by
      by_cases hk0 : k = 0
      · refine ⟨_, ?_, by rw [hk0]; exact XW_nil, qn⟩
        rw [E8_0, hk0]
        have : (nI 0 - 1 ≤ 0) := by decide +kernel
        rw [E8_8, if_pos this]
        rfl
      · obtain ⟨s3, e3, w3, q3⟩ := x_between (d := d) (n := k) ha.1 b2 g2 g3 (k - 1) x (up s2 4 1 (nI 0)) [] (by omega) (by omega) qn XW_nil (by show 0 + (k - 1) ≤ 16; omega)
        refine ⟨s3, ?_, w3, q3⟩
        rw [E8_0]
        simp (disch := omega) only [lit, n_sub]
        exact e3
    obtain ⟨s3, e3, w3, q3⟩ := btw
    rw [List.nil_append] at w3
    refine ⟨s3, ?_, XI_row i2 q3 (by decide) (by decide) w3 (by rw [laR_len]; omega), f2.tr (fX_q q3 (by decide))⟩
    rw [E205_0, x_tHasWord hT, hp']
    simp (disch := omega) only [lit, bnd_some, bIt0, if_false, x_tHasWord hT, hq', not_false_eq_true, if_true, e1, g1, nle_t, x_clear, e3]
end XK2
