/-! SETS OF WALLS: bits and sums -/
def bcI (a0 : Int32) : Int32 := ((((((((a0 - ((((a0 : Int32).toUInt32 >>> ((1 : Int32).toUInt32 &&& Int32.toUInt32 31)).toInt32) &&& 1431655765)) &&& 858993459) + (((((a0 - ((((a0 : Int32).toUInt32 >>> ((1 : Int32).toUInt32 &&& Int32.toUInt32 31)).toInt32) &&& 1431655765)) : Int32).toUInt32 >>> ((2 : Int32).toUInt32 &&& Int32.toUInt32 31)).toInt32) &&& 858993459)) + ((((((a0 - ((((a0 : Int32).toUInt32 >>> ((1 : Int32).toUInt32 &&& Int32.toUInt32 31)).toInt32) &&& 1431655765)) &&& 858993459) + (((((a0 - ((((a0 : Int32).toUInt32 >>> ((1 : Int32).toUInt32 &&& Int32.toUInt32 31)).toInt32) &&& 1431655765)) : Int32).toUInt32 >>> ((2 : Int32).toUInt32 &&& Int32.toUInt32 31)).toInt32) &&& 858993459)) : Int32).toUInt32 >>> ((4 : Int32).toUInt32 &&& Int32.toUInt32 31)).toInt32)) &&& 252645135) + ((((((((a0 - ((((a0 : Int32).toUInt32 >>> ((1 : Int32).toUInt32 &&& Int32.toUInt32 31)).toInt32) &&& 1431655765)) &&& 858993459) + (((((a0 - ((((a0 : Int32).toUInt32 >>> ((1 : Int32).toUInt32 &&& Int32.toUInt32 31)).toInt32) &&& 1431655765)) : Int32).toUInt32 >>> ((2 : Int32).toUInt32 &&& Int32.toUInt32 31)).toInt32) &&& 858993459)) + ((((((a0 - ((((a0 : Int32).toUInt32 >>> ((1 : Int32).toUInt32 &&& Int32.toUInt32 31)).toInt32) &&& 1431655765)) &&& 858993459) + (((((a0 - ((((a0 : Int32).toUInt32 >>> ((1 : Int32).toUInt32 &&& Int32.toUInt32 31)).toInt32) &&& 1431655765)) : Int32).toUInt32 >>> ((2 : Int32).toUInt32 &&& Int32.toUInt32 31)).toInt32) &&& 858993459)) : Int32).toUInt32 >>> ((4 : Int32).toUInt32 &&& Int32.toUInt32 31)).toInt32)) &&& 252645135) : Int32).toUInt32 >>> ((8 : Int32).toUInt32 &&& Int32.toUInt32 31)).toInt32)) + (((((((((a0 - ((((a0 : Int32).toUInt32 >>> ((1 : Int32).toUInt32 &&& Int32.toUInt32 31)).toInt32) &&& 1431655765)) &&& 858993459) + (((((a0 - ((((a0 : Int32).toUInt32 >>> ((1 : Int32).toUInt32 &&& Int32.toUInt32 31)).toInt32) &&& 1431655765)) : Int32).toUInt32 >>> ((2 : Int32).toUInt32 &&& Int32.toUInt32 31)).toInt32) &&& 858993459)) + ((((((a0 - ((((a0 : Int32).toUInt32 >>> ((1 : Int32).toUInt32 &&& Int32.toUInt32 31)).toInt32) &&& 1431655765)) &&& 858993459) + (((((a0 - ((((a0 : Int32).toUInt32 >>> ((1 : Int32).toUInt32 &&& Int32.toUInt32 31)).toInt32) &&& 1431655765)) : Int32).toUInt32 >>> ((2 : Int32).toUInt32 &&& Int32.toUInt32 31)).toInt32) &&& 858993459)) : Int32).toUInt32 >>> ((4 : Int32).toUInt32 &&& Int32.toUInt32 31)).toInt32)) &&& 252645135) + ((((((((a0 - ((((a0 : Int32).toUInt32 >>> ((1 : Int32).toUInt32 &&& Int32.toUInt32 31)).toInt32) &&& 1431655765)) &&& 858993459) + (((((a0 - ((((a0 : Int32).toUInt32 >>> ((1 : Int32).toUInt32 &&& Int32.toUInt32 31)).toInt32) &&& 1431655765)) : Int32).toUInt32 >>> ((2 : Int32).toUInt32 &&& Int32.toUInt32 31)).toInt32) &&& 858993459)) + ((((((a0 - ((((a0 : Int32).toUInt32 >>> ((1 : Int32).toUInt32 &&& Int32.toUInt32 31)).toInt32) &&& 1431655765)) &&& 858993459) + (((((a0 - ((((a0 : Int32).toUInt32 >>> ((1 : Int32).toUInt32 &&& Int32.toUInt32 31)).toInt32) &&& 1431655765)) : Int32).toUInt32 >>> ((2 : Int32).toUInt32 &&& Int32.toUInt32 31)).toInt32) &&& 858993459)) : Int32).toUInt32 >>> ((4 : Int32).toUInt32 &&& Int32.toUInt32 31)).toInt32)) &&& 252645135) : Int32).toUInt32 >>> ((8 : Int32).toUInt32 &&& Int32.toUInt32 31)).toInt32)) : Int32).toUInt32 >>> ((16 : Int32).toUInt32 &&& Int32.toUInt32 31)).toInt32)) &&& 63)
/-- how many are in a set -/
def pc (a : Nat) : Nat := sm (fun i => (a.testBit i).toNat) 12
theorem bcI_t : ∀ a, a < 64 → ∀ b, b < 64 → bcI (nI (a * 64 + b)) = nI (pc (a * 64 + b)) := by decide +kernel
theorem bcI_n {a : Nat} (h : a < 4096) : bcI (nI a) = nI (pc a) := by
  have := bcI_t (a / 64) (by omega) (a % 64) (by omega)
  rw [show a / 64 * 64 + a % 64 = a by omega] at this
  exact this
theorem pc_le (a : Nat) : pc a ≤ 12 := by
  have := sm_le (f := fun i => (a.testBit i).toNat) (c := 1) (n := 12) (fun i _ => by cases a.testBit i <;> decide)
  unfold pc; omega
/-- all of a set are of another -/
def subS (a b : Nat) : Bool := decide (a &&& (a ^^^ b) = 0)
theorem subS_iff {a b : Nat} : subS a b = true ↔ ∀ i, a.testBit i = true → b.testBit i = true := by
  unfold subS
  rw [decide_eq_true_iff]
  constructor
  · intro h i hi
    have e : (a &&& (a ^^^ b)).testBit i = false := by rw [h]; exact Nat.zero_testBit i
    rw [Nat.testBit_and, Nat.testBit_xor, hi] at e
    cases hb : b.testBit i with
    | true => rfl
    | false => rw [hb] at e; cases e
  · intro h
    apply Nat.eq_of_testBit_eq
    intro i
    rw [Nat.testBit_and, Nat.testBit_xor, Nat.zero_testBit]
    cases ha : a.testBit i with
    | false => rfl
    | true => rw [h i ha]; rfl
theorem tb_add {r n i : Nat} (h : r < 2 ^ n) : (r + 2 ^ n).testBit i = (r.testBit i || decide (n = i)) := by
  have e : r + 2 ^ n = 2 ^ n ||| r := by
    have := Nat.two_pow_add_eq_or_of_lt (i := n) h 1
    rw [Nat.mul_one] at this
    rw [Nat.add_comm]; exact this
  rw [e, Nat.testBit_or, Nat.testBit_two_pow, Bool.or_comm]
/-- a sum over a set -/
def sumS (f : Nat → Nat) (a : Nat) : Nat := sm (fun w => if a.testBit w = true then f w else 0) 8
theorem sumS_0 {f : Nat → Nat} : sumS f 0 = 0 := sm_zero (fun w _ => by
  show (if (0 : Nat).testBit w = true then f w else 0) = 0
  rw [Nat.zero_testBit]
  exact if_neg (by simp))
theorem sumS_add {f : Nat → Nat} {r n : Nat} (h : r < 2 ^ n) (hn : n < 8) : sumS f (r + 2 ^ n) = sumS f r + f n := by
  have e0 : r.testBit n = false := Nat.testBit_lt_two_pow h
  have e := sm_upd (f := fun w => if r.testBit w = true then f w else 0) (i := n) (n := 8) (v := f n) hn
  have e2 : sm (fun w => if (r + 2 ^ n).testBit w = true then f w else 0) 8 = sm (fun k => if k = n then f n else if r.testBit k = true then f k else 0) 8 := sm_cong (fun w _ => by
    rw [tb_add h]
    by_cases hw : w = n
    · subst hw; simp
    · have : ¬ n = w := fun z => hw z.symm
      simp [hw, this])
  rw [e0, if_neg (by simp)] at e
  unfold sumS
  rw [e2]
  omega
theorem sumS_le {f : Nat → Nat} {a c : Nat} (h : ∀ w, f w ≤ c) : sumS f a ≤ 8 * c := sm_le (fun w _ => by
  have := h w
  split <;> omega)
theorem sumS_cong {f g : Nat → Nat} {a : Nat} (h : ∀ w, w < 8 → a.testBit w = true → f w = g w) : sumS f a = sumS g a := sm_cong (fun w hw => by
  by_cases hb : a.testBit w = true
  · rw [if_pos hb, if_pos hb, h w hw hb]
  · rw [if_neg hb, if_neg hb])
theorem subS_add {r n b : Nat} (h : r < 2 ^ n) : subS (r + 2 ^ n) b = (subS r b && b.testBit n) := by
  have g : subS (r + 2 ^ n) b = true ↔ (subS r b && b.testBit n) = true := by
    rw [Bool.and_eq_true, subS_iff, subS_iff]
    constructor
    · intro h2
      exact ⟨fun i hi => h2 i (by rw [tb_add h, hi]; rfl), h2 n (by rw [tb_add h]; simp)⟩
    · rintro ⟨h2, h3⟩ i hi
      rw [tb_add h, Bool.or_eq_true] at hi
      rcases hi with hi | hi
      · exact h2 i hi
      · rw [← of_decide_eq_true hi]; exact h3
  cases h1 : subS (r + 2 ^ n) b <;> cases h2 : (subS r b && b.testBit n)
  · rfl
  · rw [g.mpr h2] at h1; cases h1
  · rw [g.mp h1] at h2; cases h2
  · rfl
/-- the tables of the sets of am: worth, and letters by f; what there is -/
def XTa (T : aT) (f : Nat → Nat → Nat) (am n : Nat) (s : mS) : Prop := ∀ a, a < n → subS a am = true → s 49 a = nI (sumS (tWo T) a) ∧ ∀ l, l < 10 → s 48 (a * 10 + l) = nI (sumS (fun w => f w l) a)
def XZ (s : mS) : Prop := s 49 0 = nI 0 ∧ ∀ l, l < 10 → s 48 l = nI 0
/-- the number of a letter that a wall's word needs, or wants still -/
def ndL (T : aT) (S : aS) (lack : Bool) (w l : Nat) : Nat := if lack = true then lck T S w l else ndH T S w l
section XS1
variable {d B l w v i x y n am : Nat} {s s' : mS} {T : aT} {S : aS} {A : aA} {a b c : Int32} {f : Nat → Nat → Nat}
theorem x_bc {a : Nat} (h : a < 4096) : ev d 331 0 [.inl (nI a)] [] s = some (0, nI (pc a), s) := by
  have e : ev d 331 0 [.inl (nI a)] [] s = some (0, bcI (nI a), s) := E331_0
  rw [e, bcI_n h]
theorem x_hasS {a i : Nat} (ha : a < 2147483648) (hi : i < 31) : ev d 219 0 [.inl (nI a), .inl (nI i)] [] s = some (0, bI (a.testBit i), s) := x_has ha hi
theorem ndL_le (ht : tOk T) (ho : sOk T S B) {k : Bool} : ndL T S k w l ≤ 8 := by
  unfold ndL
  split
  · exact lck_le ht (ho.1 w)
  · unfold ndH
    cases hn : sH S w with
    | none => exact Nat.zero_le _
    | some x =>
      have := nd_le T x l
      have := (ht.2.2.1 x (wOk_s (ho.1 w) hn).2.1).2.1
      show nd T x l ≤ 8
      omega
/-- the sets in which a wall is the last -/
theorem x_addWall {k : Bool} (ht : tOk T) (hT : XT T s) (ho : sOk T S B) (hc : XC T S (s 37)) (hn : n < tN T) (ham : am.testBit n = true) (hm : s 47 5 = nI am) (hh : XTa T (ndL T S k) am (2 ^ n) s) : ∃ s', ev (d + 1 + 1) 71 0 [.inr 47, .inr 36, .inl (nI n), .inl (bI k), .inr 0, .inr 0, .inr 0, .inr 0] [] s = some (0, nI 0, s') ∧ XTa T (ndL T S k) am (2 ^ (n + 1)) s' ∧ Eqx [48, 49] s s' := by
  have hN := ht.2.1
  have hn8 : n < 8 := by omega
  have hp : 2 ^ n ≤ 128 := by
    have := Nat.pow_le_pow_right (n := 2) (by omega) (show n ≤ 7 by omega)
    omega
  have hps : 2 ^ (n + 1) = 2 ^ n + 2 ^ n := by rw [Nat.pow_succ]; omega
  have key : ∀ r, r ≤ 2 ^ n → ∃ s', ev (d + 1 + 1) 71 8 [.inr 47, .inr 36, .inl (nI n), .inl (bI k), .inl (nI (2 ^ n)), .inl (nI 0), .inr 0, .inr 0] [] s = ev (d + 1 + 1) 71 8 [.inr 47, .inr 36, .inl (nI n), .inl (bI k), .inl (nI (2 ^ n)), .inl (nI r), .inr 0, .inr 0] [] s' ∧ XTa T (ndL T S k) am (r + 2 ^ n) s' ∧ Eqx [48, 49] s s' := by
    intro r
    induction r with
    | zero => intro _; exact ⟨s, rfl, by rw [Nat.zero_add]; exact hh, Eqx.rf⟩
    | succ r ih =>
      intro hr
      obtain ⟨s1, e1, t1, q1⟩ := ih (by omega)
      have hm1 : s1 47 5 = nI am := by rw [q1 _ (by decide)]; exact hm
      have hlt : r < 2 ^ n := by omega
      have sr := subS_add (b := am) hlt
      rw [ham, Bool.and_true] at sr
      cases hs : subS r am with
      | false =>
        rw [hs] at sr
        refine ⟨s1, ?_, fun a ha hsa => ?_, q1⟩
        · have hne : ¬ nI (r &&& (r ^^^ am)) = nI 0 := fun z => by
            have hle : r &&& (r ^^^ am) ≤ r := Nat.and_le_left
            have := (nI_eq (by omega) (by omega)).mp z
            unfold subS at hs
            rw [decide_eq_true this] at hs
            cases hs
          rw [e1, E71_8, hm1]
          simp (disch := omega) only [lit, nle_f, if_false, n_andn, hne, not_false_eq_true, if_true]
          rw [E71_124]
          simp only [lit, nI_add]
        · by_cases hz : a = r + 2 ^ n
          · rw [hz, sr] at hsa; cases hsa
          · exact t1 a (by omega) hsa
      | true =>
        rw [hs] at sr
        obtain ⟨w0, n0⟩ := t1 r (by omega) hs
        obtain ⟨s2, hs2⟩ : ∃ s2, s2 = up s1 49 (r + 2 ^ n) (nI (sumS (tWo T) r + tWo T n)) := ⟨_, rfl⟩
        have q2 : Eqx [49] s1 s2 := by rw [hs2]; exact Eqx.rf.up (by simp)
        have inner : ∀ m, m ≤ 10 → ∃ s3, ev (d + 1 + 1) 71 56 [.inr 47, .inr 36, .inl (nI n), .inl (bI k), .inl (nI (2 ^ n)), .inl (nI r), .inl (nI 0), .inr 0] [] s2 = ev (d + 1 + 1) 71 56 [.inr 47, .inr 36, .inl (nI n), .inl (bI k), .inl (nI (2 ^ n)), .inl (nI r), .inl (nI m), .inr 0] [] s3 ∧ (∀ l, l < m → s3 48 ((r + 2 ^ n) * 10 + l) = nI (sumS (fun w => ndL T S k w l) r + ndL T S k n l)) ∧ (∀ j, j < (r + 2 ^ n) * 10 → s3 48 j = s1 48 j) ∧ Eqx [48] s2 s3 := by
          intro m
          induction m with
          | zero => intro _; exact ⟨s2, rfl, fun l hl => by omega, fun j _ => by rw [q2 _ (by decide)], Eqx.rf⟩
          | succ m ihm =>
            intro hm10
            obtain ⟨s3, e3, i3, j3, q3⟩ := ihm (by omega)
            have q3' : Eqx [48, 49] s s3 := (q1.tr (q2.mono (by simp))).tr (q3.mono (by simp))
            have hT3 := XT_q hT q3' (by decide)
            have hc3 : XC T S (s3 37) := by rw [q3' _ (by decide)]; exact hc
            have en : ev (d + 1) 106 0 [.inr 36, .inl (nI n), .inl (nI m)] [] s3 = some (0, nI (ndH T S n m), s3) := x_need (d := d) ht hT3 (ho.1 n) hc3 hn8 (by omega)
            have elk := x_lack (d := d) ht hT3 (ho.1 n) (Or.inl rfl : isK 36) hc3 hn8 (show m < 10 by omega)
            have nr : s3 48 (r * 10 + m) = nI (sumS (fun w => ndL T S k w m) r) := by
              rw [j3 _ (by omega)]; exact n0 m (by omega)
            refine ⟨up s3 48 ((r + 2 ^ n) * 10 + m) (nI (sumS (fun w => ndL T S k w m) r + ndL T S k n m)), ?_, fun l hl => ?_, fun j hj => by rw [up_out (by omega)]; exact j3 j hj, q3.up (by simp)⟩
            · have e84 : ev (d + 1 + 1) 71 84 [.inr 47, .inr 36, .inl (nI n), .inl (bI k), .inl (nI (2 ^ n)), .inl (nI r), .inl (nI m), .inr 0] [.inl (nI (ndL T S k n m))] s3 = ev (d + 1 + 1) 71 56 [.inr 47, .inr 36, .inl (nI n), .inl (bI k), .inl (nI (2 ^ n)), .inl (nI r), .inl (nI (m + 1)), .inr 0] [] (up s3 48 ((r + 2 ^ n) * 10 + m) (nI (sumS (fun w => ndL T S k w m) r + ndL T S k n m))) := by
                rw [E71_84]
                simp (disch := omega) only [nr, lit, nI_add, pk_mul, n_sub, n_addneg, nle_t, nle_f, nlt_t, nlt_f, neq_t, neq_f, n_inb, n_ix, bnd_some, if_true, if_false, ite_tt, ite_ff, not_true_eq_false, not_false_eq_true, eq_self, false_or, or_false, true_or, or_true]
              rw [e3, E71_56]
              cases k with
              | true =>
                simp (disch := omega) only [lit, nle_f, if_false, bIt0, elk, bnd_some]
                exact e84
              | false =>
                simp (disch := omega) only [lit, nle_f, if_false, bIf0, if_true, en, bnd_some]
                exact e84
            · by_cases hz : l = m
              · subst hz; exact up_in
              · rw [up_out (by omega)]; exact i3 l (by omega)
        obtain ⟨s3, e3, i3, j3, q3⟩ := inner 10 (Nat.le_refl _)
        refine ⟨s3, ?_, fun a ha hsa => ?_, (q1.tr (q2.mono (by simp))).tr (q3.mono (by simp))⟩
        · have hz : nI (r &&& (r ^^^ am)) = nI 0 := congrArg nI (of_decide_eq_true hs)
          have ew := x_worth (d := d + 1) ht (XT_q hT q1 (by decide)) hn
          rw [e1, E71_8, hm1]
          simp (disch := omega) only [lit, nle_f, if_false, n_andn, hz, not_true_eq_false, n_inb, if_true, x_place, bnd_some, ew, nI_add, n_ix, w0]
          rw [← hs2, e3, E71_56]
          simp (disch := omega) only [lit, nle_t, if_true]
          rw [E71_124]
          simp only [lit, nI_add]
        · by_cases hz : a = r + 2 ^ n
          · subst hz
            refine ⟨?_, fun l hl => ?_⟩
            · rw [q3 _ (by decide), hs2, up_in, sumS_add hlt hn8]
            · rw [i3 l hl, sumS_add hlt hn8]
          · obtain ⟨y1, y2⟩ := t1 a (by omega) hsa
            refine ⟨?_, fun l hl => ?_⟩
            · rw [q3 _ (by decide), hs2, up_out hz]; exact y1
            · rw [j3 _ (by omega)]; exact y2 l hl
  obtain ⟨s', e1, t1, q1⟩ := key (2 ^ n) (Nat.le_refl _)
  refine ⟨s', ?_, by rw [hps]; exact t1, q1⟩
  rw [E71_0]
  simp (disch := omega) only [lit, n_pow]
  rw [e1, E71_8]
  simp (disch := omega) only [lit, nle_t, if_true]
theorem x_fill {k : Bool} (ht : tOk T) (hT : XT T s) (ho : sOk T S B) (hc : XC T S (s 37)) (ham : ∀ i, am.testBit i = true → i < tN T) (hz : XZ s) : ∃ s', ev (d + 1 + 1 + 1) 70 0 [.inr 47, .inr 36, .inl (nI am), .inl (bI k), .inr 0] [] s = some (0, nI 0, s') ∧ XTa T (ndL T S k) am 256 s' ∧ s' 47 5 = nI am ∧ XZ s' ∧ Eqx [47, 48, 49] s s' := by
  have hN := ht.2.1
  have h256 : am < 256 := by
    apply Nat.lt_pow_two_of_testBit (n := 8)
    intro i hi
    cases h : am.testBit i with
    | false => rfl
    | true => have := ham i h; omega
  obtain ⟨s0, hs0⟩ : ∃ s0, s0 = up s 47 5 (nI am) := ⟨_, rfl⟩
  have q0 : Eqx [47] s s0 := by rw [hs0]; exact Eqx.rf.up (by simp)
  have key : ∀ n, n ≤ 8 → ∃ s', ev (d + 1 + 1 + 1) 70 8 [.inr 47, .inr 36, .inl (nI am), .inl (bI k), .inl (nI 0)] [] s0 = ev (d + 1 + 1 + 1) 70 8 [.inr 47, .inr 36, .inl (nI am), .inl (bI k), .inl (nI n)] [] s' ∧ XTa T (ndL T S k) am (2 ^ n) s' ∧ s' 47 5 = nI am ∧ Eqx [48, 49] s0 s' := by
    intro n
    induction n with
    | zero =>
      intro _
      refine ⟨s0, rfl, fun a ha _ => ?_, by rw [hs0, up_in], Eqx.rf⟩
      have : a = 0 := by
        have : a < 1 := ha
        omega
      subst this
      refine ⟨by rw [q0 _ (by decide), sumS_0]; exact hz.1, fun l hl => ?_⟩
      rw [q0 _ (by decide), sumS_0, Nat.zero_mul, Nat.zero_add]
      exact hz.2 l hl
    | succ n ih =>
      intro hn
      obtain ⟨s1, e1, t1, m1, q1⟩ := ih (by omega)
      have q1' : Eqx [47, 48, 49] s s1 := (q0.mono (by simp)).tr (q1.mono (by simp))
      have eh := x_has (d := d + 1 + 1) (s := s1) (x := am) (i := n) (by omega) (by omega)
      cases hb : am.testBit n with
      | false =>
        rw [hb] at eh
        refine ⟨s1, ?_, fun a ha hsa => ?_, m1, q1⟩
        · rw [e1, E70_8]
          simp (disch := omega) only [lit, nle_f, if_false, eh, bnd_some, bIf0, if_true]
          rw [E70_32]
          simp only [lit, nI_add]
        · refine t1 a ?_ hsa
          rw [Nat.pow_succ] at ha
          by_cases hlt : a < 2 ^ n
          · exact hlt
          · have e := subS_add (r := a - 2 ^ n) (n := n) (b := am) (by omega)
            rw [show a - 2 ^ n + 2 ^ n = a by omega, hsa, hb, Bool.and_false] at e
            cases e
      | true =>
        rw [hb] at eh
        obtain ⟨s2, e2, t2, q2⟩ := x_addWall (d := d) (k := k) ht (XT_q hT q1' (by decide)) ho (by rw [q1' _ (by decide)]; exact hc) (ham n hb) hb m1 t1
        refine ⟨s2, ?_, t2, by rw [q2 _ (by decide)]; exact m1, q1.tr q2⟩
        rw [e1, E70_8]
        simp (disch := omega) only [lit, nle_f, if_false, eh, bnd_some, bIt0, e2]
        rw [E70_32]
        simp only [lit, nI_add]
  obtain ⟨s', e1, t1, m1, q1⟩ := key 8 (Nat.le_refl _)
  refine ⟨s', ?_, t1, m1, ?_, (q0.mono (by simp)).tr (q1.mono (by simp))⟩
  · rw [E70_0, ← hs0]
    simp only [lit]
    rw [e1, E70_8]
    simp (disch := omega) only [lit, nI_add, pk_mul, n_sub, n_addneg, nle_t, nle_f, nlt_t, nlt_f, neq_t, neq_f, n_inb, n_ix, bnd_some, if_true, if_false, ite_tt, ite_ff, not_true_eq_false, not_false_eq_true, eq_self, false_or, or_false, true_or, or_true]
  · obtain ⟨y1, y2⟩ := t1 0 (by decide) (by unfold subS; rw [Nat.zero_and]; rfl)
    refine ⟨by rw [y1, sumS_0], fun l hl => ?_⟩
    have := y2 l hl
    rw [Nat.zero_mul, Nat.zero_add, sumS_0] at this
    exact this
end XS1
