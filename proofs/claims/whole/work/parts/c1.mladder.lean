/-! THE MODEL: ladder -/
/-- how far a word is, by the layers up to n -/
def fv (T : aT) (y n o : Nat) : Nat := match fnd (fun k => (lyr T y k).1.testBit o) (n + 1) with
  | some k => k
  | none => 1000000
def vv (T : aT) (y n : Nat) (t : Bool) (o : Nat) : Nat := if fv T y n o = 1000000 ∧ t = true then n + 1 else fv T y n o
def XFa (T : aT) (y n : Nat) (s : mS) : Prop := ∀ o, o < tW T → s 92 o = nI (fv T y n o)
section MUB
variable {d B B' l w v x y n j a b c k i m o len : Nat} {s s' s1 s2 : mS} {T : aT} {S : aS} {A : aA} {p q : Int32} {W : List Int32} {P : Nat → Bool}
theorem anyN_iff : anyN P n = true ↔ ∃ i, i < n ∧ P i = true := by
  induction n with
  | zero => exact ⟨fun h => (by cases h), fun ⟨i, h, _⟩ => (by omega)⟩
  | succ n ih =>
    rw [anyN_s, Bool.or_eq_true, ih]
    constructor
    · rintro (⟨i, h1, h2⟩ | h)
      · exact ⟨i, by omega, h2⟩
      · exact ⟨n, by omega, h⟩
    · rintro ⟨i, h1, h2⟩
      by_cases z : i = n
      · rw [z] at h2; exact Or.inr h2
      · exact Or.inl ⟨i, by omega, h2⟩
theorem m_steps (ht : tOk T) (hT : MT T s) (hx : x < tW T) (hy : y < tW T) : ev d 311 0 [.inr 67, .inl (nI x), .inl (nI y), .inr 0, .inr 0] [] s = some (0, bI (isSt T x y), s) := by
  have hW := ht.1
  have lx := (hT.2.2.1 x hx).1
  have ly := (hT.2.2.1 y hy).1
  have bx := (ht.2.2.1 x hx).2.1
  have by' := (ht.2.2.1 y hy).2.1
  unfold isSt
  rw [E311_0]
  by_cases hl : tLen T x = tLen T y
  · rw [decide_eq_true hl, Bool.true_and]
    have g := loopU (fun i b => ev d 311 22 [.inr 67, .inl (nI x), .inl (nI y), .inl (nI b), .inl (nI i)] [] s) (fun i b => b + (if tSp T x i = tSp T y i then 0 else 1)) (tLen T x) (fun i b hi => by
      have s1 := (hT.2.2.1 x hx).2.2.1 i hi
      have s2 := (hT.2.2.1 y hy).2.2.1 i (by omega)
      have t1 := (ht.2.2.1 x hx).2.2.2 i hi
      have t2 := (ht.2.2.1 y hy).2.2.2 i (by omega)
      rw [E311_22]
      by_cases hz : tSp T x i = tSp T y i
      · simp (disch := omega) only [lx, s1, s2, hz, E311_66, lit, nI_add, pk_mul, n_sub, n_addneg, nle_t, nle_f, nlt_t, nlt_f, neq_t, neq_f, n_inb, n_ix, bnd_some, if_true, if_false, ite_tt, ite_ff, not_true_eq_false, not_false_eq_true, eq_self, false_or, or_false, true_or, or_true]
      · simp (disch := omega) only [lx, s1, s2, hz, E311_66, lit, nI_add, pk_mul, n_sub, n_addneg, nle_t, nle_f, nlt_t, nlt_f, neq_t, neq_f, n_inb, n_ix, bnd_some, if_true, if_false, ite_tt, ite_ff, not_true_eq_false, not_false_eq_true, eq_self, false_or, or_false, true_or, or_true]) 0
    have ha : itr (fun i b => b + (if tSp T x i = tSp T y i then 0 else 1)) (tLen T x) 0 = apa T x y := rfl
    have hal : apa T x y ≤ 8 := by
      have := sm_le (f := fun i => if tSp T x i = tSp T y i then 0 else 1) (c := 1) (n := tLen T x) (fun i _ => by
        show (if _ then _ else _) ≤ 1
        split <;> omega)
      unfold apa; omega
    rw [ha] at g
    simp (disch := omega) only [lx, ly, hl, lit, nI_add, pk_mul, n_sub, n_addneg, nle_t, nle_f, nlt_t, nlt_f, neq_t, neq_f, n_inb, n_ix, bnd_some, if_true, if_false, ite_tt, ite_ff, not_true_eq_false, not_false_eq_true, eq_self, false_or, or_false, true_or, or_true]
    refine g.trans ?_
    rw [E311_22]
    by_cases hz : apa T x y = 1
    · rw [decide_eq_true hz]
      simp (disch := omega) only [lx, hz, lit, nI_add, pk_mul, n_sub, n_addneg, nle_t, nle_f, nlt_t, nlt_f, neq_t, neq_f, n_inb, n_ix, bnd_some, if_true, if_false, ite_tt, ite_ff, not_true_eq_false, not_false_eq_true, eq_self, false_or, or_false, true_or, or_true]
      rw [E311_84]
      exact if_pos (Or.inr rfl)
    · rw [decide_eq_false hz]
      simp (disch := omega) only [lx, lit, nI_add, pk_mul, n_sub, n_addneg, nle_t, nle_f, nlt_t, nlt_f, neq_t, neq_f, n_inb, n_ix, bnd_some, if_true, if_false, ite_tt, ite_ff, not_true_eq_false, not_false_eq_true, eq_self, false_or, or_false, true_or, or_true]
      rw [E311_84]
      exact if_pos (Or.inl rfl)
  · rw [decide_eq_false hl, Bool.false_and]
    simp (disch := omega) only [lx, ly, lit, nI_add, pk_mul, n_sub, n_addneg, nle_t, nle_f, nlt_t, nlt_f, neq_t, neq_f, n_inb, n_ix, bnd_some, if_true, if_false, ite_tt, ite_ff, not_true_eq_false, not_false_eq_true, eq_self, false_or, or_false, true_or, or_true]
    rfl
theorem isSt_comm : isSt T x y = isSt T y x := by
  unfold isSt
  by_cases h : tLen T x = tLen T y
  · have e : apa T x y = apa T y x := by
      unfold apa
      rw [h]
      refine sm_cong (fun i _ => ?_)
      show (if tSp T x i = tSp T y i then 0 else 1) = if tSp T y i = tSp T x i then 0 else 1
      by_cases z : tSp T x i = tSp T y i
      · rw [if_pos z, if_pos z.symm]
      · rw [if_neg z, if_neg (fun u => z u.symm)]
    rw [e, h]
  · rw [decide_eq_false h, decide_eq_false (p := tLen T y = tLen T x) (fun z => h z.symm)]
    rfl
theorem bes_bit : (bes T x).testBit o = (decide (x < tW T) && (decide (o < tW T) && isSt T x o)) := by
  unfold bes
  by_cases h : x < tW T
  · rw [if_pos h, bts_bit, decide_eq_true h, Bool.true_and]
  · rw [if_neg h, Nat.zero_testBit, decide_eq_false h, Bool.false_and]
theorem bes_iff : (bes T x).testBit o = true ↔ x < tW T ∧ o < tW T ∧ isSt T x o = true := by
  rw [bes_bit, Bool.and_eq_true, Bool.and_eq_true, decide_eq_true_iff, decide_eq_true_iff]
theorem besA_bit : (besA T a).testBit o = true ↔ ∃ w, w < 12 ∧ a.testBit w = true ∧ (bes T w).testBit o = true := by
  unfold besA
  have key : ∀ n, (itr (fun w b => b ||| (if a.testBit w = true then bes T w else 0)) n 0).testBit o = true ↔ ∃ w, w < n ∧ a.testBit w = true ∧ (bes T w).testBit o = true := by
    intro n
    induction n with
    | zero => exact ⟨fun h => (by rw [show itr (fun w b => b ||| (if a.testBit w = true then bes T w else 0)) 0 0 = 0 from rfl, Nat.zero_testBit] at h; cases h), fun ⟨w, h, _⟩ => by omega⟩
    | succ n ih =>
      show (itr (fun w b => b ||| (if a.testBit w = true then bes T w else 0)) n 0 ||| (if a.testBit n = true then bes T n else 0)).testBit o = true ↔ _
      rw [Nat.testBit_or, Bool.or_eq_true, ih]
      constructor
      · rintro (⟨w, h1, h2⟩ | h)
        · exact ⟨w, by omega, h2⟩
        · by_cases z : a.testBit n = true
          · rw [if_pos z] at h; exact ⟨n, by omega, z, h⟩
          · rw [if_neg z, Nat.zero_testBit] at h; cases h
      · rintro ⟨w, h1, h2, h3⟩
        by_cases z : w = n
        · subst z; right; rw [if_pos h2]; exact h3
        · exact Or.inl ⟨w, by omega, h2, h3⟩
  exact key 12
theorem andn_bit : (a &&& (a ^^^ b)).testBit i = (a.testBit i && !b.testBit i) := by
  rw [Nat.testBit_and, Nat.testBit_xor]
  cases a.testBit i <;> cases b.testBit i <;> rfl
theorem L_s : (lyr T y (k + 1)).1.testBit o = ((besA T (lyr T y k).1).testBit o && !(lyr T y k).2.testBit o) := andn_bit
theorem R_s : (lyr T y (k + 1)).2.testBit o = ((lyr T y k).2.testBit o || (lyr T y (k + 1)).1.testBit o) := Nat.testBit_or ..
theorem R_iff : (lyr T y k).2.testBit o = true ↔ ∃ j, j ≤ k ∧ (lyr T y j).1.testBit o = true := by
  induction k with
  | zero => exact ⟨fun h => ⟨0, Nat.le_refl _, h⟩, fun ⟨j, h1, h2⟩ => by
      have : j = 0 := by omega
      subst this; exact h2⟩
  | succ k ih =>
    rw [R_s, Bool.or_eq_true, ih]
    constructor
    · rintro (⟨j, h1, h2⟩ | h)
      · exact ⟨j, by omega, h2⟩
      · exact ⟨k + 1, Nat.le_refl _, h⟩
    · rintro ⟨j, h1, h2⟩
      by_cases z : j = k + 1
      · rw [z] at h2; exact Or.inr h2
      · exact Or.inl ⟨j, by omega, h2⟩
theorem L_first (h : (lyr T y k).1.testBit o = true) : ∀ j, j < k → (lyr T y j).1.testBit o = false := by
  cases k with
  | zero => intro j hj; omega
  | succ k =>
    intro j hj
    rw [L_s, Bool.and_eq_true] at h
    cases hb : (lyr T y j).1.testBit o with
    | false => rfl
    | true =>
      rw [R_iff.mpr ⟨j, by omega, hb⟩] at h
      cases h.2
theorem L_W (hy : y < tW T) (h : (lyr T y k).1.testBit o = true) : o < tW T := by
  cases k with
  | zero =>
    have h : (2 ^ y).testBit o = true := h
    rw [Nat.testBit_two_pow] at h
    rw [← of_decide_eq_true h]; exact hy
  | succ k =>
    rw [L_s, Bool.and_eq_true] at h
    obtain ⟨w, -, -, h3⟩ := besA_bit.mp h.1
    exact (bes_iff.mp h3).2.1
theorem fv_some (h : (lyr T y k).1.testBit o = true) (hk : k ≤ n) : fv T y n o = k := by
  unfold fv
  rw [fnd_some (p := fun k => (lyr T y k).1.testBit o) (show k < n + 1 by omega) (L_first h) h]
theorem fv_none (h : ∀ k, k ≤ n → (lyr T y k).1.testBit o = false) : fv T y n o = 1000000 := by
  unfold fv
  rw [fnd_none (p := fun k => (lyr T y k).1.testBit o) (fun i hi => h i (by omega))]
theorem fv_or : (∃ k, k ≤ n ∧ (lyr T y k).1.testBit o = true ∧ fv T y n o = k) ∨ ((∀ k, k ≤ n → (lyr T y k).1.testBit o = false) ∧ fv T y n o = 1000000) := by
  cases hR : (lyr T y n).2.testBit o with
  | true =>
    obtain ⟨k, h1, h2⟩ := R_iff.mp hR
    exact Or.inl ⟨k, h1, h2, fv_some h2 h1⟩
  | false =>
    have h : ∀ k, k ≤ n → (lyr T y k).1.testBit o = false := fun k hk => by
      cases hb : (lyr T y k).1.testBit o with
      | false => rfl
      | true => rw [R_iff.mpr ⟨k, hk, hb⟩] at hR; cases hR
    exact Or.inr ⟨h, fv_none h⟩
theorem fv_iff (hk : k ≤ n) (hn : n < 1000000) : fv T y n o = k ↔ (lyr T y k).1.testBit o = true := by
  constructor
  · intro h
    rcases fv_or (T := T) (y := y) (n := n) (o := o) with ⟨j, h1, h2, h3⟩ | ⟨h1, h2⟩
    · rw [← h, h3]; exact h2
    · omega
  · intro h; exact fv_some h hk
theorem fv_le (hn : n < 1000000) : fv T y n o ≤ 1000000 := by
  rcases fv_or (T := T) (y := y) (n := n) (o := o) with ⟨j, h1, h2, h3⟩ | ⟨h1, h2⟩ <;> omega
theorem pc_strict (h : subS a b = true) (hi : i < 12) (h1 : a.testBit i = false) (h2 : b.testBit i = true) : pc a < pc b := by
  have e : pc a + sm (fun i => (b.testBit i).toNat - (a.testBit i).toNat) 12 = pc b := by
    unfold pc
    rw [← sm_add]
    refine sm_cong (fun i _ => ?_)
    show (a.testBit i).toNat + ((b.testBit i).toNat - (a.testBit i).toNat) = (b.testBit i).toNat
    cases hz : a.testBit i with
    | false => show 0 + (_ - 0) = _; omega
    | true => rw [subS_iff.mp h i hz]; rfl
  have u := sm_one (f := fun i => (b.testBit i).toNat - (a.testBit i).toNat) hi
  have u2 : (b.testBit i).toNat - (a.testBit i).toNat = 1 := by rw [h1, h2]; rfl
  have u : (b.testBit i).toNat - (a.testBit i).toNat ≤ sm (fun i => (b.testBit i).toNat - (a.testBit i).toNat) 12 := u
  omega
theorem pc_bound (hW : n ≤ 12) (h : ∀ i, a.testBit i = true → i < n) : pc a ≤ n := by
  have : pc a = sm (fun i => (a.testBit i).toNat) n := sm_more hW (fun i h1 _ => by
    show (a.testBit i).toNat = 0
    cases hb : a.testBit i with
    | false => rfl
    | true => have := h i hb; omega)
  rw [this]
  have := sm_le (f := fun i => (a.testBit i).toNat) (c := 1) (n := n) (fun i _ => by cases a.testBit i <;> decide)
  omega
/-- a layer that has a word is nearer than there are words -/
theorem L_lt (ht : tOk T) (hy : y < tW T) (h : (lyr T y k).1.testBit o = true) : k < tW T := by
  have hW := ht.1
  have key : ∀ k o, (lyr T y k).1.testBit o = true → k + 1 ≤ pc (lyr T y k).2 := by
    intro k
    induction k with
    | zero =>
      intro o h
      have h0 : pc 0 < pc (lyr T y 0).2 := pc_strict (i := y) (subS_iff.mpr (fun i hi => by rw [Nat.zero_testBit] at hi; cases hi)) (by omega) (Nat.zero_testBit _) (by
        show (2 ^ y).testBit y = true
        rw [Nat.testBit_two_pow, decide_eq_true rfl])
      omega
    | succ k ih =>
      intro o h
      have h' := h
      rw [L_s, Bool.and_eq_true] at h
      obtain ⟨w, -, h2, -⟩ := besA_bit.mp h.1
      have := ih w h2
      have ho := L_W hy h'
      have hs : pc (lyr T y k).2 < pc (lyr T y (k + 1)).2 := pc_strict (i := o) (subS_iff.mpr (fun i hi => by rw [R_s, hi]; rfl)) (by omega) (by simpa using h.2) (by rw [R_s, h']; simp)
      omega
  have h1 := key k o h
  have h2 : pc (lyr T y k).2 ≤ tW T := pc_bound hW (fun i hi => by
    obtain ⟨j, -, hj⟩ := R_iff.mp hi
    exact L_W hy hj)
  omega
/-- one round -/
theorem m_round (ht : tOk T) (hT : MT T s) (hy : y < tW T) (hn : n < tW T) (hF : XFa T y n s) {z : Int32} : ∃ s', ev (d + 1) 316 70 [.inr 67, .inl z, .inr 0, .inl (nI n), .inl (nI 0), .inr 0] [] s = ev (d + 1) 316 59 [.inr 67, .inl z, .inr 0, .inl (nI (n + 1)), .inr 0, .inr 0] [] s' ∧ XFa T y (n + 1) s' ∧ Eqm [92] [] s s' := by
  have hW := ht.1
  have key : ∀ k, k ≤ tW T → ∃ s', ev (d + 1) 316 70 [.inr 67, .inl z, .inr 0, .inl (nI n), .inl (nI 0), .inr 0] [] s = ev (d + 1) 316 70 [.inr 67, .inl z, .inr 0, .inl (nI n), .inl (nI k), .inr 0] [] s' ∧ (∀ o, o < tW T → s' 92 o = nI (vv T y n (anyN (fun r => (lyr T y n).1.testBit r && isSt T r o) k) o)) ∧ Eqm [92] [] s s' := by
    intro k
    induction k with
    | zero =>
      intro _
      refine ⟨s, rfl, fun o ho => ?_, Eqm.rf⟩
      rw [hF o ho]
      unfold vv
      rw [if_neg (fun u => (by cases u.2))]
    | succ k ih =>
      intro hk
      obtain ⟨s1, e1, i1, q1⟩ := ih (by omega)
      have hT1 := MT_q hT q1 (by decide) (by decide)
      have e1w := hT1.1
      have ek := i1 k (by omega)
      have to82 : ev (d + 1) 316 70 [.inr 67, .inl z, .inr 0, .inl (nI n), .inl (nI k), .inr 0] [] s1 = ev (d + 1) 316 82 [.inr 67, .inl z, .inr 0, .inl (nI n), .inl (nI k), .inl (nI 0)] [] s1 := by
        rw [E316_70, e1w]
        simp (disch := omega) only [lit, nI_add, pk_mul, n_sub, n_addneg, nle_t, nle_f, nlt_t, nlt_f, neq_t, neq_f, n_inb, n_ix, bnd_some, if_true, if_false, ite_tt, ite_ff, not_true_eq_false, not_false_eq_true, eq_self, false_or, or_false, true_or, or_true]
      have e139 : ∀ r, ev (d + 1) 316 139 [.inr 67, .inl z, .inr 0, .inl (nI n), .inl (nI k), .inr 0] [] r = ev (d + 1) 316 70 [.inr 67, .inl z, .inr 0, .inl (nI n), .inl (nI (k + 1)), .inr 0] [] r := fun r => by
        rw [E316_139]
        simp (disch := omega) only [lit, nI_add, pk_mul, n_sub, n_addneg, nle_t, nle_f, nlt_t, nlt_f, neq_t, neq_f, n_inb, n_ix, bnd_some, if_true, if_false, ite_tt, ite_ff, not_true_eq_false, not_false_eq_true, eq_self, false_or, or_false, true_or, or_true]
      have flt : fv T y n k ≤ 1000000 := fv_le (by omega)
      cases hL : (lyr T y n).1.testBit k with
      | false =>
        have hne : vv T y n (anyN (fun r => (lyr T y n).1.testBit r && isSt T r k) k) k ≠ n := fun u => by
          unfold vv at u
          split at u
          · omega
          · rw [(fv_iff (Nat.le_refl n) (by omega)).mp u] at hL; cases hL
        have hle : vv T y n (anyN (fun r => (lyr T y n).1.testBit r && isSt T r k) k) k ≤ 1000000 := by
          unfold vv
          split <;> omega
        generalize vv T y n (anyN (fun r => (lyr T y n).1.testBit r && isSt T r k) k) k = V at ek hne hle
        refine ⟨s1, ?_, fun o ho => ?_, q1⟩
        · rw [e1, to82, E316_82, e1w]
          simp (disch := omega) only [ek, lit, nI_add, pk_mul, n_sub, n_addneg, nle_t, nle_f, nlt_t, nlt_f, neq_t, neq_f, n_inb, n_ix, bnd_some, if_true, if_false, ite_tt, ite_ff, not_true_eq_false, not_false_eq_true, eq_self, false_or, or_false, true_or, or_true]
          exact e139 s1
        · rw [i1 o ho]
          unfold vv
          rw [anyN_s, hL, Bool.false_and, Bool.or_false]
      | true =>
        have inner : ∀ m, m ≤ tW T → ∃ s2, ev (d + 1) 316 82 [.inr 67, .inl z, .inr 0, .inl (nI n), .inl (nI k), .inl (nI 0)] [] s1 = ev (d + 1) 316 82 [.inr 67, .inl z, .inr 0, .inl (nI n), .inl (nI k), .inl (nI m)] [] s2 ∧ (∀ o, o < tW T → s2 92 o = nI (vv T y n (anyN (fun r => (lyr T y n).1.testBit r && isSt T r o) k || (decide (o < m) && isSt T k o)) o)) ∧ Eqm [92] [] s s2 := by
          intro m
          induction m with
          | zero =>
            intro _
            refine ⟨s1, rfl, fun o ho => ?_, q1⟩
            rw [i1 o ho]
            unfold vv
            rw [decide_eq_false (Nat.not_lt_zero o), Bool.false_and, Bool.or_false]
          | succ m ihm =>
            intro hm
            obtain ⟨s2, e2, i2, q2⟩ := ihm (by omega)
            have hT2 := MT_q hT q2 (by decide) (by decide)
            have e2w := hT2.1
            have fk : s2 92 k = nI n := by
              rw [i2 k (by omega)]
              have := fv_some hL (Nat.le_refl n)
              unfold vv
              rw [this, if_neg (fun u => by omega)]
            have fm := i2 m (by omega)
            have es := m_steps (d := d) (x := k) (y := m) ht hT2 (by omega) (by omega)
            have flm : fv T y n m ≤ 1000000 := fv_le (by omega)
            have e133 : ∀ r, ev (d + 1) 316 133 [.inr 67, .inl z, .inr 0, .inl (nI n), .inl (nI k), .inl (nI m)] [] r = ev (d + 1) 316 82 [.inr 67, .inl z, .inr 0, .inl (nI n), .inl (nI k), .inl (nI (m + 1))] [] r := fun r => by
              rw [E316_133]
              simp (disch := omega) only [lit, nI_add, pk_mul, n_sub, n_addneg, nle_t, nle_f, nlt_t, nlt_f, neq_t, neq_f, n_inb, n_ix, bnd_some, if_true, if_false, ite_tt, ite_ff, not_true_eq_false, not_false_eq_true, eq_self, false_or, or_false, true_or, or_true]
            have oth : ∀ o, o ≠ m → vv T y n (anyN (fun r => (lyr T y n).1.testBit r && isSt T r o) k || (decide (o < m + 1) && isSt T k o)) o = vv T y n (anyN (fun r => (lyr T y n).1.testBit r && isSt T r o) k || (decide (o < m) && isSt T k o)) o := fun o ho => by
              unfold vv
              have : decide (o < m + 1) = decide (o < m) := by
                by_cases u : o < m
                · rw [decide_eq_true u, decide_eq_true (by omega)]
                · rw [decide_eq_false u, decide_eq_false (by omega)]
              rw [this]
            cases hst : isSt T k m with
            | false =>
              rw [hst] at es
              refine ⟨s2, ?_, fun o ho => ?_, q2⟩
              · rw [e2, E316_82, e2w]
                simp (disch := omega) only [fk, es, bIf0, e133, lit, nI_add, pk_mul, n_sub, n_addneg, nle_t, nle_f, nlt_t, nlt_f, neq_t, neq_f, n_inb, n_ix, bnd_some, if_true, if_false, ite_tt, ite_ff, not_true_eq_false, not_false_eq_true, eq_self, false_or, or_false, true_or, or_true]
              · by_cases u : o = m
                · subst u
                  rw [i2 o ho]
                  unfold vv
                  rw [hst, Bool.and_false, Bool.and_false]
                · rw [oth o u]; exact i2 o ho
            | true =>
              rw [hst] at es
              have vle : vv T y n (anyN (fun r => (lyr T y n).1.testBit r && isSt T r m) k || (decide (m < m) && isSt T k m)) m ≤ 1000000 := by
                unfold vv
                split <;> omega
              have new : min (vv T y n (anyN (fun r => (lyr T y n).1.testBit r && isSt T r m) k || (decide (m < m) && isSt T k m)) m) (n + 1) = vv T y n (anyN (fun r => (lyr T y n).1.testBit r && isSt T r m) k || (decide (m < m + 1) && isSt T k m)) m := by
                unfold vv
                rw [hst, decide_eq_true (show m < m + 1 by omega), Bool.and_true, Bool.and_true, Bool.or_true]
                rcases fv_or (T := T) (y := y) (n := n) (o := m) with ⟨j, h1, h2, h3⟩ | ⟨h1, h2⟩
                · rw [h3, if_neg (fun u => by omega), if_neg (fun u => by omega)]
                  omega
                · rw [h2, if_pos (show (1000000 = 1000000 ∧ true = true) from ⟨rfl, rfl⟩)]
                  split <;> omega
              generalize vv T y n (anyN (fun r => (lyr T y n).1.testBit r && isSt T r m) k || (decide (m < m) && isSt T k m)) m = V at fm vle new
              refine ⟨up s2 92 m (nI (min V (n + 1))), ?_, fun o ho => ?_, q2.pu (by simp) (by decide)⟩
              · rw [e2, E316_82, e2w]
                simp (disch := omega) only [fk, es, bIt0, fm, mmin_n, e133, lit, nI_add, pk_mul, n_sub, n_addneg, nle_t, nle_f, nlt_t, nlt_f, neq_t, neq_f, n_inb, n_ix, bnd_some, if_true, if_false, ite_tt, ite_ff, not_true_eq_false, not_false_eq_true, eq_self, false_or, or_false, true_or, or_true]
              · by_cases u : o = m
                · subst u
                  rw [up_in, new]
                · rw [up_out u, oth o u]; exact i2 o ho
        obtain ⟨s2, e2, i2, q2⟩ := inner (tW T) (Nat.le_refl _)
        have e2w := (MT_q hT q2 (by decide) (by decide)).1
        refine ⟨s2, ?_, fun o ho => ?_, q2⟩
        · rw [e1, to82, e2, E316_82, e2w]
          simp (disch := omega) only [lit, nI_add, pk_mul, n_sub, n_addneg, nle_t, nle_f, nlt_t, nlt_f, neq_t, neq_f, n_inb, n_ix, bnd_some, if_true, if_false, ite_tt, ite_ff, not_true_eq_false, not_false_eq_true, eq_self, false_or, or_false, true_or, or_true]
          exact e139 s2
        · rw [i2 o ho]
          unfold vv
          rw [anyN_s, hL, Bool.true_and, decide_eq_true ho, Bool.true_and]
  obtain ⟨s1, e1, i1, q1⟩ := key (tW T) (Nat.le_refl _)
  have e1w := (MT_q hT q1 (by decide) (by decide)).1
  refine ⟨s1, ?_, fun o ho => ?_, q1⟩
  · rw [e1, E316_70, e1w]
    simp (disch := omega) only [lit, nI_add, pk_mul, n_sub, n_addneg, nle_t, nle_f, nlt_t, nlt_f, neq_t, neq_f, n_inb, n_ix, bnd_some, if_true, if_false, ite_tt, ite_ff, not_true_eq_false, not_false_eq_true, eq_self, false_or, or_false, true_or, or_true]
  · rw [i1 o ho]
    congr 1
    unfold vv
    rcases fv_or (T := T) (y := y) (n := n) (o := o) with ⟨j, h1, h2, h3⟩ | ⟨h1, h2⟩
    · rw [h3, if_neg (fun u => by omega), fv_some h2 (show j ≤ n + 1 by omega)]
    · rw [h2]
      have hR : (lyr T y n).2.testBit o = false := by
        cases hb : (lyr T y n).2.testBit o with
        | false => rfl
        | true =>
          obtain ⟨j, g1, g2⟩ := R_iff.mp hb
          rw [h1 j g1] at g2; cases g2
      by_cases ha : anyN (fun r => (lyr T y n).1.testBit r && isSt T r o) (tW T) = true
      · rw [if_pos ⟨rfl, ha⟩]
        obtain ⟨r, g1, g2⟩ := anyN_iff.mp ha
        rw [Bool.and_eq_true] at g2
        have : (lyr T y (n + 1)).1.testBit o = true := by
          rw [L_s, hR, besA_bit.mpr ⟨r, by omega, g2.1, bes_iff.mpr ⟨g1, ho, g2.2⟩⟩]
          rfl
        exact (fv_some this (Nat.le_refl _)).symm
      · rw [if_neg (fun u => ha u.2)]
        refine (fv_none (fun j hj => ?_)).symm
        by_cases hj2 : j ≤ n
        · exact h1 j hj2
        · have : j = n + 1 := by omega
          subst this
          cases hb : (lyr T y (n + 1)).1.testBit o with
          | false => rfl
          | true =>
            rw [L_s, Bool.and_eq_true] at hb
            obtain ⟨w, g1, g2, g3⟩ := besA_bit.mp hb.1
            obtain ⟨g4, g5, g6⟩ := bes_iff.mp g3
            exact absurd (anyN_iff.mpr ⟨w, g4, by rw [g2, g6]; rfl⟩) ha
theorem leB_ok (hj : j < 12) (h : a.testBit j = true) : a.testBit (leB a) = true ∧ ∀ i, i < leB a → a.testBit i = false := by
  unfold leB
  cases hq : fnd (fun i => a.testBit i) 11 with
  | some i =>
    obtain ⟨-, h2, h3⟩ := fnd_ok hq
    exact ⟨h2, h3⟩
  | none =>
    have no := fnd_no hq
    have : j = 11 := by
      rcases Nat.lt_or_ge j 11 with z | z
      · have := no j z
        rw [h] at this; cases this
      · omega
    subst this
    exact ⟨h, no⟩
end MUB
