/-! THE MODEL: chain, what rows there are -/
def cmpS (T : aT) (a : Nat) : Nat := (2 ^ tW T - 1) &&& ((2 ^ tW T - 1) ^^^ a)
/-- the longest row behind a word -/
def mxV (T : aT) (x fr n : Nat) : Nat := itr (fun k v => if fr.testBit k = true ∧ (bes T x).testBit k = true then max v (lo T k fr) else v) n 0
def sglT (a : Nat) : Bool := !(decide (a &&& (a - 1) = 0)) || (List.range 12).any (fun w => decide (a = 2 ^ w))
/-- a set that no word leaves -/
def clo (T : aT) (g : Nat) : Prop := ∀ i, g.testBit i = true → subS (bes T i) g = true
section MUD
variable {d B B' l w v x y n j a b c k i m o g fr fr2 : Nat} {T : aT}
theorem sgl_t2 : ∀ a, a < 64 → ∀ b, b < 64 → 0 < a * 64 + b → sglT (a * 64 + b) = true := by decide +kernel
theorem sgl_t : ∀ a, a < 4096 → 0 < a → sglT a = true := fun a ha h0 => by
  have := sgl_t2 (a / 64) (by omega) (a % 64) (by omega)
  rw [show a / 64 * 64 + a % 64 = a by omega] at this
  exact this h0
theorem sgl (ha : a < 4096) (h0 : 0 < a) (h : a &&& (a - 1) = 0) : ∃ w, w < 12 ∧ a = 2 ^ w := by
  have t := sgl_t a ha h0
  unfold sglT at t
  rw [decide_eq_true h] at t
  obtain ⟨w, h1, h2⟩ := List.any_eq_true.mp t
  exact ⟨w, List.mem_range.mp h1, of_decide_eq_true h2⟩
theorem one_s : ∀ w, w < 12 → 2 ^ w &&& (2 ^ w - 1) = 0 := by decide +kernel
theorem nz_bit (h : ¬ a = 0) : ∃ i, a.testBit i = true := by
  refine Classical.byContradiction (fun z => h (Nat.eq_of_testBit_eq (fun i => ?_)))
  rw [Nat.zero_testBit]
  cases hb : a.testBit i with
  | false => rfl
  | true => exact absurd ⟨i, hb⟩ z
theorem bit_nz (h : a.testBit i = true) : ¬ a = 0 := fun z => by rw [z, Nat.zero_testBit] at h; cases h
theorem ch_many (hn : ¬ a &&& (a - 1) = 0) : (ch T a).testBit w = (decide (w < 12) && (a.testBit w && decide (¬ bes T w &&& ch T (a ^^^ 2 ^ w) = 0))) := by
  rw [ch_eq]
  unfold chV
  rw [if_neg hn, bts_bit]
  cases hb : a.testBit w with
  | false => rfl
  | true => rw [chT_k (less1 hb hn).1]
theorem ch_single (h : a &&& (a - 1) = 0) : ch T a = a := by
  rw [ch_eq]
  unfold chV
  rw [if_pos h]
theorem ch_bes (ha : a < 4096) (h : (ch T a).testBit w = true) : a.testBit w = true ∧ w < 12 ∧ (a = 2 ^ w ∨ (¬ a &&& (a - 1) = 0 ∧ ∃ k, (bes T w).testBit k = true ∧ (ch T (a ^^^ 2 ^ w)).testBit k = true)) := by
  by_cases hn : a &&& (a - 1) = 0
  · rw [ch_single hn] at h
    have h0 : 0 < a := Nat.pos_of_ne_zero (bit_nz h)
    obtain ⟨v, hv, e⟩ := sgl ha h0 hn
    have hvw : v = w := by
      rw [e, Nat.testBit_two_pow] at h
      exact of_decide_eq_true h
    subst hvw
    exact ⟨h, hv, Or.inl e⟩
  · rw [ch_many hn, Bool.and_eq_true, Bool.and_eq_true] at h
    obtain ⟨h1, h2, h3⟩ := h
    obtain ⟨k, hk⟩ := nz_bit (of_decide_eq_true h3)
    rw [Nat.testBit_and, Bool.and_eq_true] at hk
    exact ⟨h2, of_decide_eq_true h1, Or.inr ⟨hn, k, hk⟩⟩
theorem ch_sub (ha : a < 4096) : subS (ch T a) a = true := subS_iff.mpr (fun _ hi => (ch_bes ha hi).1)
theorem pc_less (hb : a.testBit w = true) (hw : w < 12) : pc (a ^^^ 2 ^ w) + 1 = pc a := by
  have e := sm_upd (f := fun i => (a.testBit i).toNat) (i := w) (n := 12) (v := 0) hw
  have e2 : sm (fun k => if k = w then 0 else (a.testBit k).toNat) 12 = pc (a ^^^ 2 ^ w) := sm_cong (fun i _ => by
    show (if i = w then 0 else (a.testBit i).toNat) = ((a ^^^ 2 ^ w).testBit i).toNat
    rw [Nat.testBit_xor, Nat.testBit_two_pow]
    by_cases z : i = w
    · subst z
      rw [if_pos rfl, hb, decide_eq_true rfl]
      rfl
    · rw [if_neg z, decide_eq_false (fun u => z u.symm), Bool.xor_false])
  rw [e2, hb] at e
  have e : pc (a ^^^ 2 ^ w) + 1 = pc a + 0 := e
  omega
/-- a row stays where no word leaves -/
theorem ch_clo (hg : clo T g) : ∀ a w, a < 4096 → (ch T a).testBit w = true → g.testBit w = true → subS a g = true := by
  intro a
  induction a using Nat.strongRecOn with
  | _ a ih =>
    intro w ha h hw
    obtain ⟨h1, h2, h3⟩ := ch_bes ha h
    rcases h3 with e | ⟨hn, k, k1, k2⟩
    · refine subS_iff.mpr (fun i hi => ?_)
      rw [e, Nat.testBit_two_pow] at hi
      rw [← of_decide_eq_true hi]; exact hw
    · obtain ⟨l1, l2, l3⟩ := less1 h1 hn
      have := ih _ l1 k (by omega) k2 (subS_iff.mp (hg w hw) k k1)
      refine subS_iff.mpr (fun i hi => ?_)
      by_cases z : w = i
      · rw [← z]; exact hw
      · refine subS_iff.mp this i ?_
        rw [Nat.testBit_xor, Nat.testBit_two_pow, decide_eq_false z, Bool.xor_false]
        exact hi
theorem lo_char : (∀ a, subS a fr = true → (ch T a).testBit w = true → pc a ≤ lo T w fr) ∧ (lo T w fr = 0 ∨ ∃ a, subS a fr = true ∧ (ch T a).testBit w = true ∧ lo T w fr = pc a) := by
  have key : ∀ n, (∀ a, a < n → subS a fr = true → (ch T a).testBit w = true → pc a ≤ itr (fun a v => loG T w fr a v) n 0) ∧ (itr (fun a v => loG T w fr a v) n 0 = 0 ∨ ∃ a, subS a fr = true ∧ (ch T a).testBit w = true ∧ itr (fun a v => loG T w fr a v) n 0 = pc a) := by
    intro n
    induction n with
    | zero => exact ⟨fun a h => by omega, Or.inl rfl⟩
    | succ n ih =>
      obtain ⟨i1, i2⟩ := ih
      have e : itr (fun a v => loG T w fr a v) (n + 1) 0 = loG T w fr n (itr (fun a v => loG T w fr a v) n 0) := rfl
      rw [e]
      generalize itr (fun a v => loG T w fr a v) n 0 = V at i1 i2
      unfold loG
      by_cases z : subS n fr = true ∧ (ch T n).testBit w = true
      · rw [if_pos z]
        refine ⟨fun a ha h1 h2 => ?_, ?_⟩
        · by_cases u : a = n
          · rw [u]; omega
          · have := i1 a (by omega) h1 h2; omega
        · by_cases u : V ≤ pc n
          · exact Or.inr ⟨n, z.1, z.2, by omega⟩
          · rw [show max V (pc n) = V by omega]; exact i2
      · rw [if_neg z]
        refine ⟨fun a ha h1 h2 => ?_, i2⟩
        by_cases u : a = n
        · subst u; exact absurd ⟨h1, h2⟩ z
        · exact i1 a (by omega) h1 h2
  obtain ⟨k1, k2⟩ := key (fr + 1)
  exact ⟨fun a h1 h2 => k1 a (by have := sub_le h1; omega) h1 h2, k2⟩
/-- only what a word can reach counts -/
theorem lo_g (hg : clo T g) (hf1 : fr < 4096) (hf2 : fr2 < 4096) (hw : g.testBit w = true) (h : ∀ i, g.testBit i = true → fr.testBit i = fr2.testBit i) : lo T w fr = lo T w fr2 := by
  have half : ∀ fr fr2, fr < 4096 → (∀ i, g.testBit i = true → fr.testBit i = fr2.testBit i) → lo T w fr ≤ lo T w fr2 := fun fr fr2 hf h => by
    rcases (lo_char (T := T) (w := w) (fr := fr)).2 with e | ⟨a, a1, a2, a3⟩
    · omega
    · have hle := sub_le a1
      have hs := ch_clo hg a w (by omega) a2 hw
      rw [a3]
      exact lo_char.1 a (subS_iff.mpr (fun i hi => by rw [← h i (subS_iff.mp hs i hi)]; exact subS_iff.mp a1 i hi)) a2
  exact Nat.le_antisymm (half fr fr2 hf1 h) (half fr2 fr hf2 (fun i hi => (h i hi).symm))
theorem mxV_char : (∀ k, k < n → fr.testBit k = true → (bes T x).testBit k = true → lo T k fr ≤ mxV T x fr n) ∧ (mxV T x fr n = 0 ∨ ∃ k, k < n ∧ fr.testBit k = true ∧ (bes T x).testBit k = true ∧ mxV T x fr n = lo T k fr) := by
  unfold mxV
  induction n with
  | zero => exact ⟨fun k h => by omega, Or.inl rfl⟩
  | succ n ih =>
    obtain ⟨i1, i2⟩ := ih
    have e : itr (fun k v => if fr.testBit k = true ∧ (bes T x).testBit k = true then max v (lo T k fr) else v) (n + 1) 0 = if fr.testBit n = true ∧ (bes T x).testBit n = true then max (itr (fun k v => if fr.testBit k = true ∧ (bes T x).testBit k = true then max v (lo T k fr) else v) n 0) (lo T n fr) else itr (fun k v => if fr.testBit k = true ∧ (bes T x).testBit k = true then max v (lo T k fr) else v) n 0 := rfl
    rw [e]
    generalize itr (fun k v => if fr.testBit k = true ∧ (bes T x).testBit k = true then max v (lo T k fr) else v) n 0 = V at i1 i2
    by_cases z : fr.testBit n = true ∧ (bes T x).testBit n = true
    · rw [if_pos z]
      refine ⟨fun k hk h1 h2 => ?_, ?_⟩
      · by_cases u : k = n
        · rw [u]; omega
        · have := i1 k (by omega) h1 h2; omega
      · by_cases u : V ≤ lo T n fr
        · exact Or.inr ⟨n, by omega, z.1, z.2, by omega⟩
        · rw [show max V (lo T n fr) = V by omega]
          exact i2.imp id (fun ⟨k, k1, k2⟩ => ⟨k, by omega, k2⟩)
    · rw [if_neg z]
      refine ⟨fun k hk h1 h2 => ?_, i2.imp id (fun ⟨k, k1, k2⟩ => ⟨k, by omega, k2⟩)⟩
      by_cases u : k = n
      · subst u; exact absurd ⟨h1, h2⟩ z
      · exact i1 k (by omega) h1 h2
theorem del_bit : (a &&& (a ^^^ 2 ^ w)).testBit i = (a.testBit i && !decide (w = i)) := by rw [andn_bit, Nat.testBit_two_pow]
/-- a row is its first word and a row of what is left then -/
theorem lo_rec (hW : tW T ≤ 12) (hfr : fr < 4096) (hw : w < 12) (hb : fr.testBit w = true) : lo T w fr = 1 + mxV T w (fr &&& (fr ^^^ 2 ^ w)) (tW T) := by
  obtain ⟨c1, c2⟩ := lo_char (T := T) (w := w) (fr := fr)
  obtain ⟨m1, m2⟩ := mxV_char (T := T) (x := w) (fr := fr &&& (fr ^^^ 2 ^ w)) (n := tW T)
  have one : 1 ≤ lo T w fr := by
    have h1 := c1 (2 ^ w) (subS_iff.mpr (fun i hi => by
      rw [Nat.testBit_two_pow] at hi
      rw [← of_decide_eq_true hi]; exact hb)) (by
      rw [ch_single (one_s w hw), Nat.testBit_two_pow, decide_eq_true rfl])
    have h2 := pc_less (a := 2 ^ w) (w := w) (by rw [Nat.testBit_two_pow, decide_eq_true rfl]) hw
    omega
  refine Nat.le_antisymm ?_ ?_
  · rcases c2 with e | ⟨a, a1, a2, a3⟩
    · omega
    · have hle := sub_le a1
      obtain ⟨b1, b2, b3⟩ := ch_bes (by omega) a2
      have hp := pc_less b1 b2
      rcases b3 with e | ⟨hn, k, k1, k2⟩
      · have : a ^^^ 2 ^ w = 0 := by rw [e, Nat.xor_self]
        rw [this] at hp
        have : pc 0 = 0 := sm_zero (fun i _ => by rw [Nat.zero_testBit]; rfl)
        omega
      · obtain ⟨l1, l2, l3⟩ := less1 b1 hn
        have hs : subS (a ^^^ 2 ^ w) (fr &&& (fr ^^^ 2 ^ w)) = true := subS_iff.mpr (fun i hi => by
          have h1 := subS_iff.mp a1 i (subS_iff.mp l2 i hi)
          rw [del_bit, h1]
          by_cases z : w = i
          · subst z
            rw [Nat.testBit_xor, b1, Nat.testBit_two_pow, decide_eq_true rfl] at hi
            cases hi
          · rw [decide_eq_false z]; rfl)
        have hk := subS_iff.mp (ch_sub (show a ^^^ 2 ^ w < 4096 by omega)) k k2
        have := (lo_char (T := T) (w := k) (fr := fr &&& (fr ^^^ 2 ^ w))).1 _ hs k2
        have := m1 k (bes_iff.mp k1).2.1 (subS_iff.mp hs k hk) k1
        omega
  · rcases m2 with e | ⟨k, k1, k2, k3, k4⟩
    · omega
    · rcases (lo_char (T := T) (w := k) (fr := fr &&& (fr ^^^ 2 ^ w))).2 with e | ⟨a, a1, a2, a3⟩
      · omega
      · have hle := sub_le a1
        have hle2 : fr &&& (fr ^^^ 2 ^ w) ≤ fr := Nat.and_le_left
        have hwa : a.testBit w = false := by
          cases z : a.testBit w with
          | false => rfl
          | true =>
            have := subS_iff.mp a1 w z
            rw [del_bit, decide_eq_true rfl, hb] at this
            cases this
        have hka := (ch_bes (by omega) a2).1
        obtain ⟨a', ha'⟩ : ∃ a', a' = a ^^^ 2 ^ w := ⟨_, rfl⟩
        have back : a' ^^^ 2 ^ w = a := by rw [ha', Nat.xor_assoc, Nat.xor_self, Nat.xor_zero]
        have hw' : a'.testBit w = true := by rw [ha', Nat.testBit_xor, hwa, Nat.testBit_two_pow, decide_eq_true rfl]; rfl
        have hs' : subS a' fr = true := subS_iff.mpr (fun i hi => by
          by_cases z : w = i
          · rw [← z]; exact hb
          · rw [ha', Nat.testBit_xor, Nat.testBit_two_pow, decide_eq_false z, Bool.xor_false] at hi
            have := subS_iff.mp a1 i hi
            rw [del_bit, Bool.and_eq_true] at this
            exact this.1)
        have hn : ¬ a' &&& (a' - 1) = 0 := fun z => by
          have hle' := sub_le hs'
          obtain ⟨v, v1, v2⟩ := sgl (by omega) (Nat.pos_of_ne_zero (bit_nz hw')) z
          have hvw : v = w := by
            rw [v2, Nat.testBit_two_pow] at hw'
            exact of_decide_eq_true hw'
          rw [hvw] at v2
          rw [v2, Nat.xor_self] at back
          rw [← back, Nat.zero_testBit] at hka
          cases hka
        have hch : (ch T a').testBit w = true := by
          rw [ch_many hn, decide_eq_true hw, hw', back, Bool.true_and, Bool.true_and]
          refine decide_eq_true (bit_nz (i := k) ?_)
          rw [Nat.testBit_and, k3, a2]
          rfl
        have h1 := c1 a' hs' hch
        have h2 := pc_less hw' hw
        rw [back] at h2
        omega
/-- no word leaves its group -/
theorem grp_ok (ht : tOk T) (hx : x < tW T) : clo T (grp T x) ∧ (grp T x).testBit x = true ∧ ∀ i, (grp T x).testBit i = true → i < tW T := by
  have hW := ht.1
  have hw : ∀ n i, (itr (fun _ a => a ||| besA T a) n (2 ^ x)).testBit i = true → i < tW T := by
    intro n
    induction n with
    | zero =>
      intro i hi
      have hi : (2 ^ x).testBit i = true := hi
      rw [Nat.testBit_two_pow] at hi
      rw [← of_decide_eq_true hi]; exact hx
    | succ n ih =>
      intro i hi
      have hi : (itr (fun _ a => a ||| besA T a) n (2 ^ x) ||| besA T (itr (fun _ a => a ||| besA T a) n (2 ^ x))).testBit i = true := hi
      rw [Nat.testBit_or, Bool.or_eq_true] at hi
      rcases hi with hi | hi
      · exact ih i hi
      · obtain ⟨w, -, -, h3⟩ := besA_bit.mp hi
        exact (bes_iff.mp h3).2.1
  have hx0 : ∀ n, (itr (fun _ a => a ||| besA T a) n (2 ^ x)).testBit x = true := by
    intro n
    induction n with
    | zero =>
      show (2 ^ x).testBit x = true
      rw [Nat.testBit_two_pow, decide_eq_true rfl]
    | succ n ih =>
      show (itr (fun _ a => a ||| besA T a) n (2 ^ x) ||| besA T (itr (fun _ a => a ||| besA T a) n (2 ^ x))).testBit x = true
      rw [Nat.testBit_or, ih]; rfl
  have key : ∀ n, n + 1 ≤ pc (itr (fun _ a => a ||| besA T a) n (2 ^ x)) ∨ subS (besA T (itr (fun _ a => a ||| besA T a) n (2 ^ x))) (itr (fun _ a => a ||| besA T a) n (2 ^ x)) = true := by
    intro n
    induction n with
    | zero =>
      left
      have := pc_strict (a := 0) (b := itr (fun _ a => a ||| besA T a) 0 (2 ^ x)) (i := x) (subS_iff.mpr (fun i hi => by rw [Nat.zero_testBit] at hi; cases hi)) (by omega) (Nat.zero_testBit _) (hx0 0)
      omega
    | succ n ih =>
      have e : itr (fun _ a => a ||| besA T a) (n + 1) (2 ^ x) = itr (fun _ a => a ||| besA T a) n (2 ^ x) ||| besA T (itr (fun _ a => a ||| besA T a) n (2 ^ x)) := rfl
      have hwn := hw n
      have hwm := hw (n + 1)
      rw [e] at hwm ⊢
      generalize itr (fun _ a => a ||| besA T a) n (2 ^ x) = G at ih hwn hwm
      cases hs : subS (besA T G) G with
      | true =>
        right
        have eG : G ||| besA T G = G := Nat.eq_of_testBit_eq (fun i => by
          rw [Nat.testBit_or]
          cases hb : (besA T G).testBit i with
          | false => rw [Bool.or_false]
          | true => rw [subS_iff.mp hs i hb]; rfl)
        rw [eG]; exact hs
      | false =>
        left
        have ih := ih.resolve_right (by rw [hs]; simp)
        obtain ⟨i, i1, i2⟩ : ∃ i, (besA T G).testBit i = true ∧ G.testBit i = false := by
          refine Classical.byContradiction (fun z => ?_)
          have : subS (besA T G) G = true := subS_iff.mpr (fun i hi => by
            cases hb : G.testBit i with
            | true => rfl
            | false => exact absurd ⟨i, hi, hb⟩ z)
          rw [this] at hs; cases hs
        have hi : (G ||| besA T G).testBit i = true := by rw [Nat.testBit_or, i1, Bool.or_true]
        have := pc_strict (a := G) (b := G ||| besA T G) (i := i) (subS_iff.mpr (fun i hi => by rw [Nat.testBit_or, hi]; rfl)) (by have := hwm i hi; omega) i2 hi
        omega
  have fin : subS (besA T (grp T x)) (grp T x) = true := (key 12).resolve_left (fun z => by
    have := pc_le (itr (fun _ a => a ||| besA T a) 12 (2 ^ x))
    omega)
  refine ⟨fun i hi => subS_iff.mpr (fun k hk => subS_iff.mp fin k ?_), hx0 12, hw 12⟩
  exact besA_bit.mpr ⟨i, by have := hw 12 i hi; omega, hi, hk⟩
theorem cmp_bit : (cmpS T a).testBit i = (decide (i < tW T) && !a.testBit i) := by
  unfold cmpS
  rw [andn_bit, Nat.testBit_two_pow_sub_one]
theorem cmp_lt (hW : tW T ≤ 12) : cmpS T a < 4096 := by
  have h1 : cmpS T a ≤ 2 ^ tW T - 1 := Nat.and_le_left
  have h2 := Nat.pow_le_pow_right (n := 2) (by omega) hW
  have h3 := Nat.two_pow_pos (tW T)
  omega
end MUD
