/-! CALLS: chain -/
def chV (T : aT) (tab : Nat → Nat) (a : Nat) : Nat := if a &&& (a - 1) = 0 then a else bts (fun w => a.testBit w && decide (¬ bes T w &&& tab (a ^^^ 2 ^ w) = 0)) 12
def chT (T : aT) : Nat → Nat → Nat
  | 0 => fun _ => 0
  | n + 1 => fun k => if k = n then chV T (chT T n) n else chT T n k
/-- with which words a row of just these can begin -/
def ch (T : aT) (a : Nat) : Nat := chT T (a + 1) a
def loG (T : aT) (w fr a v : Nat) : Nat := if subS a fr = true ∧ (ch T a).testBit w = true then max v (pc a) else v
/-- the longest row from a word of those that are free -/
def lo (T : aT) (w fr : Nat) : Nat := itr (fun a v => loG T w fr a v) (fr + 1) 0
def lnx (T : aT) (nx fr due : Nat) : Nat := match fnd (fun w => nx.testBit w && decide (lo T w fr = due)) 12 with
  | some w => w
  | none => leB nx
def grp (T : aT) (x : Nat) : Nat := itr (fun _ a => a ||| besA T a) 12 (2 ^ x)
def chR (T : aT) : Nat → Nat → Nat → List Int32
  | 0, _, _ => []
  | k + 1, y, fr => nI (lnx T (bes T y &&& (fr &&& (fr ^^^ 2 ^ y))) (fr &&& (fr ^^^ 2 ^ y)) (k + 1)) :: chR T k (lnx T (bes T y &&& (fr &&& (fr ^^^ 2 ^ y))) (fr &&& (fr ^^^ 2 ^ y)) (k + 1)) (fr &&& (fr ^^^ 2 ^ y))
def o_chain (A : aA) (x : Int32) : aA × Int32 := if inN x (tW (gT A)) = false then (A, -nI 1) else (wW A (nI (ix x) :: chR (gT A) (lo (gT A) (ix x) (grp (gT A) (ix x)) - 1) (ix x) (grp (gT A) (ix x))), nI (lo (gT A) (ix x) (grp (gT A) (ix x))))
section XK3
variable {d B l w v x y n j a b k g fr m : Nat} {s s' s1 : mS} {T : aT} {S : aS} {A : aA} {p q : Int32} {W : List Int32}
theorem chT_k (h : k < n) : chT T n k = ch T k := by
  induction n with
  | zero => omega
  | succ n ih =>
    show (if k = n then chV T (chT T n) n else chT T n k) = _
    by_cases hk : k = n
    · subst hk; rfl
    · rw [if_neg hk]; exact ih (by omega)
theorem ch_eq : ch T a = chV T (chT T a) a := if_pos rfl
theorem ch_lt (h : a < 4096) : ch T a < 4096 := by
  rw [ch_eq]
  unfold chV
  split
  · exact h
  · exact bts_lt _ 12
theorem ch_0 : ch T 0 = 0 := by
  rw [ch_eq]
  unfold chV
  exact if_pos rfl
/-- a set without one of its words -/
theorem less1 (hb : a.testBit w = true) (hn : ¬ a &&& (a - 1) = 0) : a ^^^ 2 ^ w < a ∧ subS (a ^^^ 2 ^ w) a = true ∧ 0 < a ^^^ 2 ^ w := by
  have hs : subS (a ^^^ 2 ^ w) a = true := subS_iff.mpr (fun i hi => by
    rw [Nat.testBit_xor, Nat.testBit_two_pow] at hi
    by_cases hz : w = i
    · subst hz; exact hb
    · rw [decide_eq_false hz, Bool.xor_false] at hi; exact hi)
  have hle := sub_le hs
  have hne : a ^^^ 2 ^ w ≠ a := fun z => by
    have : (a ^^^ 2 ^ w).testBit w = a.testBit w := by rw [z]
    rw [Nat.testBit_xor, Nat.testBit_two_pow, hb] at this
    simp at this
  refine ⟨by omega, hs, ?_⟩
  by_cases hz : a ^^^ 2 ^ w = 0
  · exfalso
    have he : a = 2 ^ w := by
      apply Nat.eq_of_testBit_eq
      intro i
      have e : (a ^^^ 2 ^ w).testBit i = false := by rw [hz]; exact Nat.zero_testBit i
      rw [Nat.testBit_xor] at e
      cases h1 : a.testBit i <;> cases h2 : (2 ^ w).testBit i <;> simp_all
    apply hn
    rw [he]
    apply Nat.eq_of_testBit_eq
    intro i
    rw [Nat.testBit_and, Nat.testBit_two_pow, Nat.zero_testBit]
    by_cases hi : w = i
    · subst hi
      have : (2 ^ w - 1).testBit w = false := Nat.testBit_lt_two_pow (by have := Nat.two_pow_pos w; omega)
      rw [this, Bool.and_false]
    · rw [decide_eq_false hi, Bool.false_and]
  · omega
/-- the table of starts, below n -/
def XCh (T : aT) (g n : Nat) (s : mS) : Prop := ∀ a, 0 < a → a < n → subS a g = true → s 62 a = nI (ch T a)
theorem x_startsOf (ht : tOk T) (hb : XBe T s) (ha : a < 4096) (hs : subS a g = true) (hc : XCh T g a s) (hn : ¬ a &&& (a - 1) = 0) : ev (d + 1) 13 0 [.inr 58, .inl (nI a), .inr 0, .inr 0] [] s = some (0, nI (ch T a), s) := by
  have gl := loopU (fun i b => ev (d + 1) 13 4 [.inr 58, .inl (nI a), .inl (nI b), .inl (nI i)] [] s) (fun w b => b ||| (if (a.testBit w && decide (¬ bes T w &&& chT T a (a ^^^ 2 ^ w) = 0)) = true then 2 ^ w else 0)) 12 (fun w b hw => by
    have eh := x_has (d := d) (s := s) (x := a) (i := w) (by omega) (by omega)
    have e59 := hb w hw
    have e44 : ∀ b', ev (d + 1) 13 44 [.inr 58, .inl (nI a), .inl (nI b'), .inl (nI w)] [] s = ev (d + 1) 13 4 [.inr 58, .inl (nI a), .inl (nI b'), .inl (nI (w + 1))] [] s := fun b' => by
      rw [E13_44]
      simp only [lit, nI_add]
    rw [E13_4]
    cases hbt : a.testBit w with
    | false =>
      rw [hbt] at eh
      simp (disch := omega) only [lit, bnd_some, nle_f, if_false, eh, bIf0, if_true, e44, Bool.false_and, Bool.false_eq_true, Nat.or_zero]
    | true =>
      rw [hbt] at eh
      obtain ⟨l1, l2, l3⟩ := less1 hbt hn
      have e62 := hc (a ^^^ 2 ^ w) l3 l1 (sub_tr l2 hs)
      have hlt : bes T w &&& ch T (a ^^^ 2 ^ w) < 4096 := Nat.lt_of_le_of_lt Nat.and_le_left (bes_lt ht w)
      rw [chT_k l1]
      have hxw : nI a ^^^ nI 1 <<< (nI w &&& nI 31) = nI (a ^^^ 2 ^ w) := by rw [n_pow (by omega), n_xor]
      have hpw : nI b ||| nI 1 <<< (nI w &&& nI 31) = nI (b ||| 2 ^ w) := by rw [n_pow (by omega), n_or]
      have hand : nI (bes T w) &&& nI (ch T (a ^^^ 2 ^ w)) = nI (bes T w &&& ch T (a ^^^ 2 ^ w)) := n_and _ _
      by_cases hz : bes T w &&& ch T (a ^^^ 2 ^ w) = 0
      · rw [decide_eq_false (not_not_intro hz)]
        simp (disch := omega) only [lit, bnd_some, nle_f, if_false, eh, bIt0, n_inb, if_true, n_ix, e59, hxw, e62, hand, hz, e44, Bool.true_and, Bool.false_eq_true, Nat.or_zero]
      · rw [decide_eq_true hz]
        simp (disch := omega) only [lit, bnd_some, nle_f, if_false, eh, bIt0, n_inb, if_true, n_ix, e59, hxw, e62, hand, neq_f, hpw, e44, Bool.true_and]) 0
  have ev2 : ch T a = bts (fun w => a.testBit w && decide (¬ bes T w &&& chT T a (a ^^^ 2 ^ w) = 0)) 12 := by
    rw [ch_eq]
    unfold chV
    rw [if_neg hn]
  rw [E13_0]
  simp only [lit]
  refine gl.trans ?_
  rw [E13_4, ev2]
  simp (disch := omega) only [lit, nI_add, pk_mul, n_sub, n_addneg, nle_t, nle_f, nlt_t, nlt_f, neq_t, neq_f, n_inb, n_ix, bnd_some, if_true, if_false, ite_tt, ite_ff, not_true_eq_false, not_false_eq_true, eq_self, false_or, or_false, true_or, or_true]
  rfl
theorem x_findStarts (ht : tOk T) (hb : XBe T s) (hg : g < 4096) : ∃ s', ev (d + 1 + 1) 12 0 [.inr 58, .inl (nI g), .inr 0, .inr 0] [] s = some (0, nI 0, s') ∧ XCh T g 4096 s' ∧ Eqx [62] s s' := by
  have loop : ∀ j m i (s1 : mS), m + j = g → subS m g = true → i ≤ m → Eqx [62] s s1 → XCh T g (m + 1) s1 → ∃ s', ev (d + 1 + 1) 12 4 [.inr 58, .inl (nI g), .inl (nI m), .inl (nI i)] [] s1 = some (0, nI 0, s') ∧ XCh T g 4096 s' ∧ Eqx [62] s s' := by
    intro j
    induction j using Nat.strongRecOn with
    | _ j ih =>
      intro m i s1 hm hsm hi q1 hc
      by_cases hz : m = g
      · refine ⟨s1, ?_, fun a h0 h1 h2 => hc a h0 (by have := sub_le h2; omega) h2, q1⟩
        rw [E12_4, hz]
        simp (disch := omega) only [lit, nle_f, if_false, if_true, E12_53]
      · have hlt : m < g := by omega
        obtain ⟨n1, n2⟩ := nxS_ok 32 m g (by omega) hsm hlt
        have nsub := nxS_sub (w := 32) (m := m) (o := g)
        have nle := n2 g (subS_iff.mpr (fun _ h => h)) hlt
        have hnx := n_next (m := m) (o := g) (by omega)
        generalize nxS 32 m g = x at n1 n2 nsub nle hnx
        have hb1 : XBe T s1 := fun z hz => by rw [q1 _ (by decide)]; exact hb z hz
        have hcx : XCh T g x s1 := fun a h0 h1 h2 => hc a h0 (by
          by_cases hm2 : m < a
          · have := n2 a h2 hm2; omega
          · omega) h2
        obtain ⟨s2, hs2⟩ : ∃ s2, s2 = up s1 62 x (nI (ch T x)) := ⟨_, rfl⟩
        have q2 : Eqx [62] s s2 := by rw [hs2]; exact q1.up (by simp)
        obtain ⟨s3, e3, c3, q3⟩ := ih (g - x) (by omega) x (i + 1) s2 (by omega) nsub (by omega) q2 (fun a h0 h1 h2 => by
          rw [hs2]
          by_cases ha : a = x
          · subst ha; exact up_in
          · rw [up_out ha]; exact hcx a h0 (by omega) h2)
        refine ⟨s3, ?_, c3, q3⟩
        have e46 : ev (d + 1 + 1) 12 46 [.inr 58, .inl (nI g), .inl (nI x), .inl (nI i)] [.inl (nI (ch T x)), .inl (nI x), .inr 62] s1 = some (0, nI 0, s3) := by
          rw [E12_46]
          simp (disch := omega) only [lit, n_inb, if_true, n_ix, nI_add]
          rw [← hs2, e3]
        have hsub1 : nI x - nI 1 = nI (x - 1) := pk_sub (by omega)
        have hle2 : x &&& (x - 1) ≤ x := Nat.and_le_left
        rw [E12_4]
        by_cases h1 : x &&& (x - 1) = 0
        · have hcv : ch T x = x := by
            rw [ch_eq]
            unfold chV
            exact if_pos h1
          rw [hcv] at e46
          simp (disch := omega) only [lit, nle_f, if_false, neq_f, hnx, hsub1, n_and, h1, not_true_eq_false, e46]
        · have est := x_startsOf (d := d) ht hb1 (show x < 4096 by omega) nsub hcx h1
          simp (disch := omega) only [lit, nle_f, if_false, neq_f, hnx, hsub1, n_and, not_false_eq_true, if_true, est, bnd_some, e46]
  rw [E12_0]
  simp only [lit]
  exact loop g 0 0 s (by omega) subS_0 (Nat.le_refl _) Eqx.rf (fun a h0 h1 _ => by omega)
theorem loG_le {N : Nat} : itr (fun a v => loG T w fr a v) N 0 ≤ 12 := by
  induction N with
  | zero => exact Nat.zero_le _
  | succ N ih =>
    show loG T w fr N _ ≤ 12
    unfold loG at ih ⊢
    split
    · exact Nat.max_le.mpr ⟨ih, pc_le N⟩
    · exact ih
theorem x_longFrom (hfr : fr < 4096) (hs : subS fr g = true) (hc : XCh T g 4096 s) (hw : w < 12) : ev (d + 1) 14 0 [.inr 58, .inl (nI w), .inl (nI fr), .inr 0, .inr 0, .inr 0] [] s = some (0, nI (lo T w fr), s) := by
  have loop : ∀ j m i, m + j = fr → subS m fr = true → i ≤ m → ev (d + 1) 14 8 [.inr 58, .inl (nI w), .inl (nI fr), .inl (nI (itr (fun a v => loG T w fr a v) (m + 1) 0)), .inl (nI m), .inl (nI i)] [] s = some (0, nI (lo T w fr), s) := by
    intro j
    induction j using Nat.strongRecOn with
    | _ j ih =>
      intro m i hm hsm hi
      by_cases hz : m = fr
      · rw [E14_8, hz]
        simp (disch := omega) only [lit, nle_f, if_false, if_true, E14_62]
        rfl
      · have hlt : m < fr := by omega
        obtain ⟨n1, n2⟩ := nxS_ok 32 m fr (by omega) hsm hlt
        have nsub := nxS_sub (w := 32) (m := m) (o := fr)
        have nle := n2 fr (subS_iff.mpr (fun _ h => h)) hlt
        have hnx := n_next (m := m) (o := fr) (by omega)
        have hv := loG_le (T := T) (w := w) (fr := fr) (N := m + 1)
        have sk : itr (fun a v => loG T w fr a v) (nxS 32 m fr) 0 = itr (fun a v => loG T w fr a v) (m + 1) 0 := itr_more (by omega) (fun k h1 h2 b => by
          unfold loG
          rw [if_neg (fun z => by have := n2 k z.1 (by omega); omega)])
        have rest := ih (fr - nxS 32 m fr) (by omega) (nxS 32 m fr) (i + 1) (by omega) nsub (by omega)
        have sk2 : itr (fun a v => loG T w fr a v) (nxS 32 m fr + 1) 0 = loG T w fr (nxS 32 m fr) (itr (fun a v => loG T w fr a v) (m + 1) 0) := by rw [← sk]; rfl
        rw [sk2] at rest
        generalize itr (fun a v => loG T w fr a v) (m + 1) 0 = v at hv rest
        generalize nxS 32 m fr = x at n1 n2 nsub nle hnx rest
        have e62 := hc x (by omega) (by omega) (sub_tr nsub hs)
        have hcl := ch_lt (T := T) (a := x) (by omega)
        have eh := x_has (d := d) (s := s) (x := ch T x) (i := w) (by omega) (by omega)
        have hp := pc_le x
        have eb := x_bc (d := d) (s := s) (a := x) (by omega)
        unfold loG at rest
        rw [← rest, E14_8]
        cases hbt : (ch T x).testBit w with
        | true =>
          rw [hbt] at eh
          rw [if_pos (show subS x fr = true ∧ true = true from ⟨nsub, rfl⟩)]
          simp (disch := omega) only [lit, nle_f, if_false, neq_f, hnx, n_inb, if_true, n_ix, e62, eh, bnd_some, bIt0, eb, mmax_n]
          rw [E14_56]
          simp only [lit, nI_add]
        | false =>
          rw [hbt] at eh
          rw [if_neg (show ¬ (subS x fr = true ∧ false = true) from fun z => by cases z.2)]
          simp (disch := omega) only [lit, nle_f, if_false, neq_f, hnx, n_inb, if_true, n_ix, e62, eh, bnd_some, bIf0]
          rw [E14_56]
          simp only [lit, nI_add]
  have h0 : itr (fun a v => loG T w fr a v) (0 + 1) 0 = 0 := by
    show loG T w fr 0 0 = 0
    unfold loG
    rw [ch_0, Nat.zero_testBit]
    exact if_neg (fun z => by cases z.2)
  have r := loop fr 0 0 (by omega) subS_0 (Nat.le_refl _)
  rw [h0] at r
  rw [E14_0]
  exact r
theorem lnx_lt {nx due : Nat} : lnx T nx fr due < 12 := by
  unfold lnx
  cases h : fnd (fun w => nx.testBit w && decide (lo T w fr = due)) 12 with
  | none => exact leB_lt
  | some i =>
    have : ∀ n, fnd (fun w => nx.testBit w && decide (lo T w fr = due)) n = some i → i < n := by
      intro n
      induction n with
      | zero => intro h; cases h
      | succ n ih =>
        intro h
        rw [fnd_s] at h
        cases hq : fnd (fun w => nx.testBit w && decide (lo T w fr = due)) n with
        | some y =>
          rw [hq] at h
          cases h
          have := ih hq
          omega
        | none =>
          rw [hq] at h
          dsimp only at h
          split at h
          · cases h; omega
          · cases h
    exact this _ h
theorem lo_le : lo T w fr ≤ 12 := loG_le
theorem x_leastNext {nx due : Nat} (hnx : nx < 4096) (hfr : fr < 4096) (hs : subS fr g = true) (hc : XCh T g 4096 s) (hdue : due < 2147483648) : ev (d + 1 + 1) 15 0 [.inr 58, .inl (nI nx), .inl (nI fr), .inl (nI due), .inr 0] [] s = some (0, nI (lnx T nx fr due), s) := by
  have loop : ∀ j i, i + j = 12 → (∀ k, k < i → (nx.testBit k && decide (lo T k fr = due)) = false) → ev (d + 1 + 1) 15 3 [.inr 58, .inl (nI nx), .inl (nI fr), .inl (nI due), .inl (nI i)] [] s = some (0, nI (lnx T nx fr due), s) := by
    intro j
    induction j with
    | zero =>
      intro i hi hno
      have : i = 12 := by omega
      subst this
      have hv : lnx T nx fr due = leB nx := by unfold lnx; rw [fnd_none hno]
      rw [E15_3, hv]
      simp (disch := omega) only [lit, nle_t, if_true, x_least (show nx < 2147483648 by omega), bnd_some]
    | succ j ih =>
      intro i hi hno
      have eh := x_has (d := d + 1) (s := s) (x := nx) (i := i) (by omega) (by omega)
      have el := x_longFrom (d := d) (w := i) hfr hs hc (by omega)
      have hl := lo_le (T := T) (w := i) (fr := fr)
      have e33 : ev (d + 1 + 1) 15 33 [.inr 58, .inl (nI nx), .inl (nI fr), .inl (nI due), .inl (nI i)] [] s = ev (d + 1 + 1) 15 3 [.inr 58, .inl (nI nx), .inl (nI fr), .inl (nI due), .inl (nI (i + 1))] [] s := by
        rw [E15_33]
        simp only [lit, nI_add]
      have next : (nx.testBit i && decide (lo T i fr = due)) = false → ev (d + 1 + 1) 15 3 [.inr 58, .inl (nI nx), .inl (nI fr), .inl (nI due), .inl (nI (i + 1))] [] s = some (0, nI (lnx T nx fr due), s) := fun h => ih (i + 1) (by omega) (fun k hk => by
        by_cases hz : k = i
        · subst hz; exact h
        · exact hno k (by omega))
      cases hb : nx.testBit i with
      | false =>
        rw [hb] at eh
        rw [← next (by rw [hb, Bool.false_and]), E15_3]
        simp (disch := omega) only [lit, nle_f, if_false, eh, bnd_some, bIf0, if_true, e33]
      | true =>
        rw [hb] at eh
        by_cases hd : lo T i fr = due
        · have hv : lnx T nx fr due = i := by
            unfold lnx
            rw [fnd_some (show i < 12 by omega) hno (by rw [hb, decide_eq_true hd]; rfl)]
          rw [E15_3, hv]
          simp (disch := omega) only [lit, nle_f, if_false, eh, bnd_some, bIt0, el, hd, not_true_eq_false]
        · rw [← next (by rw [decide_eq_false hd, Bool.and_false]), E15_3]
          simp (disch := omega) only [lit, nle_f, if_false, eh, bnd_some, bIt0, el, neq_f, not_false_eq_true, if_true, e33]
  rw [E15_0]
  simp only [lit]
  exact loop 12 0 rfl (fun k hk => by omega)
theorem grp_lt (ht : tOk T) (hx : x < 12) : grp T x < 4096 := by
  have : ∀ n, itr (fun _ a => a ||| besA T a) n (2 ^ x) < 4096 := by
    intro n
    induction n with
    | zero =>
      have : 2 ^ x ≤ 2 ^ 11 := Nat.pow_le_pow_right (by omega) (by omega)
      exact Nat.lt_of_le_of_lt this (by decide)
    | succ n ih => exact Nat.or_lt_two_pow (n := 12) ih (besA_lt ht _)
  exact this 12
theorem x_groupOf (ht : tOk T) (hb : XBe T s) (hx : x < 12) : ev (d + 1 + 1) 11 0 [.inr 58, .inl (nI x), .inr 0, .inr 0] [] s = some (0, nI (grp T x), s) := by
  have hlt : ∀ n, itr (fun _ a => a ||| besA T a) n (2 ^ x) < 4096 := by
    intro n
    induction n with
    | zero =>
      have : 2 ^ x ≤ 2 ^ 11 := Nat.pow_le_pow_right (by omega) (by omega)
      exact Nat.lt_of_le_of_lt this (by decide)
    | succ n ih => exact Nat.or_lt_two_pow (n := 12) ih (besA_lt ht _)
  have key : ∀ n, n ≤ 12 → ev (d + 1 + 1) 11 6 [.inr 58, .inr 0, .inl (nI (2 ^ x)), .inl (nI 0)] [] s = ev (d + 1 + 1) 11 6 [.inr 58, .inr 0, .inl (nI (itr (fun _ a => a ||| besA T a) n (2 ^ x))), .inl (nI n)] [] s := by
    intro n
    induction n with
    | zero => intro _; rfl
    | succ n ih =>
      intro hn
      have h := hlt n
      rw [ih (by omega), E11_6]
      show _ = ev _ _ _ [.inr 58, .inr 0, .inl (nI (itr (fun _ a => a ||| besA T a) n (2 ^ x) ||| besA T (itr (fun _ a => a ||| besA T a) n (2 ^ x)))), .inl (nI (n + 1))] [] s
      generalize itr (fun _ a => a ||| besA T a) n (2 ^ x) = a at h
      have eb := x_besA (d := d) (a := a) ht hb (by omega)
      simp (disch := omega) only [lit, nle_f, if_false, eb, bnd_some, n_or, nI_add]
  rw [E11_0]
  simp (disch := omega) only [lit, n_pow]
  rw [key 12 (Nat.le_refl _), E11_6]
  simp (disch := omega) only [lit, nI_add, pk_mul, n_sub, n_addneg, nle_t, nle_f, nlt_t, nlt_f, neq_t, neq_f, n_inb, n_ix, bnd_some, if_true, if_false, ite_tt, ite_ff, not_true_eq_false, not_false_eq_true, eq_self, false_or, or_false, true_or, or_true]
  rfl
theorem chR_len {k : Nat} : (chR T k y fr).length = k := by
  induction k generalizing y fr with
  | zero => rfl
  | succ k ih =>
    unfold chR
    rw [List.length_cons, ih]
theorem x_rowL (ht : tOk T) (hb : XBe T s) (hc : XCh T g 4096 s) {c : Nat} : ∀ k y fr (s1 : mS) W, y < 12 → fr < 4096 → subS fr g = true → Eqx [4, 5] s s1 → XW W s1 → W.length + k ≤ 16 → ∃ s', ev (d + 1 + 1 + 1) 10 37 [.inr 58, .inr 0, .inr 4, .inr 0, .inl (nI c), .inl (nI fr), .inl (nI y), .inl (nI k)] [] s1 = some (0, nI c, s') ∧ XW (W ++ chR T k y fr) s' ∧ Eqx [4, 5] s s' := by
  intro k
  induction k with
  | zero =>
    intro y fr s1 W hy hfr hs q1 hW hl
    refine ⟨s1, ?_, by rw [show chR T 0 y fr = [] from rfl, List.append_nil]; exact hW, q1⟩
    rw [E10_37]
    exact if_pos (show nI 0 ≤ 0 by decide +kernel)
  | succ k ih =>
    intro y fr s1 W hy hfr hs q1 hW hl
    have e59 : s1 59 y = nI (bes T y) := by rw [q1 _ (by decide)]; exact hb y hy
    have hfr2 : fr &&& (fr ^^^ 2 ^ y) < 4096 := Nat.lt_of_le_of_lt Nat.and_le_left hfr
    have hs2 : subS (fr &&& (fr ^^^ 2 ^ y)) g = true := subS_iff.mpr (fun i hi => by
      rw [Nat.testBit_and, Bool.and_eq_true] at hi
      exact subS_iff.mp hs i hi.1)
    have hnx : bes T y &&& (fr &&& (fr ^^^ 2 ^ y)) < 4096 := Nat.lt_of_le_of_lt Nat.and_le_left (bes_lt ht y)
    have hc1 : XCh T g 4096 s1 := fun a h0 h1 h2 => by rw [q1 _ (by decide)]; exact hc a h0 h1 h2
    have el := x_leastNext (d := d) (due := k + 1) hnx hfr2 hs2 hc1 (by omega)
    have hz := lnx_lt (T := T) (nx := bes T y &&& (fr &&& (fr ^^^ 2 ^ y))) (fr := fr &&& (fr ^^^ 2 ^ y)) (due := k + 1)
    unfold chR
    generalize lnx T (bes T y &&& (fr &&& (fr ^^^ 2 ^ y))) (fr &&& (fr ^^^ 2 ^ y)) (k + 1) = z at el hz
    obtain ⟨s2, e2, w2, q2⟩ := x_add (d := d + 1 + 1) (a := nI z) hW (by omega)
    obtain ⟨s3, e3, w3, q3⟩ := ih z (fr &&& (fr ^^^ 2 ^ y)) s2 _ hz hfr2 hs2 (q1.tr q2) w2 (by rw [List.length_append]; show W.length + 1 + k ≤ 16; omega)
    rw [List.append_assoc] at w3
    refine ⟨s3, ?_, w3, q3⟩
    have hfa : nI fr &&& (nI 1 <<< (nI y &&& nI 31) ^^^ -nI 1) = nI (fr &&& (fr ^^^ 2 ^ y)) := by rw [n_pow (by omega), n_andn]
    have hba : nI (bes T y) &&& nI (fr &&& (fr ^^^ 2 ^ y)) = nI (bes T y &&& (fr &&& (fr ^^^ 2 ^ y))) := n_and _ _
    rw [← e3, E10_37]
    simp (disch := omega) only [lit, nle_f, if_false, n_inb, if_true, n_ix, e59, hfa, hba, el, bnd_some, e2, n_addneg, Nat.add_sub_cancel]
theorem X_chain (h : XI A B s) : ∃ s', ev (d + 1 + 1 + 1 + 1) 203 0 [.inr 1, .inl p] [] s = some (0, (o_chain A p).2, s') ∧ XI (o_chain A p).1 B s' ∧ fX s s' := by
  have ha := h.1
  have hT := h.2.2.1
  have hW := ha.1.1
  unfold o_chain
  by_cases hp : inN p (tW (gT A)) = false
  · rw [if_pos hp]
    refine ⟨s, ?_, h, fun _ _ => rfl⟩
    rw [E203_0, x_tHasWord hT, hp]
    simp only [lit, bnd_some, bIf0, not_true_eq_false, if_false]
  have hp' : inN p (tW (gT A)) = true := by simpa using hp
  rw [if_neg hp]
  obtain ⟨x, hx, rfl⟩ := inN_t (by omega) hp'
  rw [n_ix (by omega)]
  obtain ⟨s1, e1, b1, q1⟩ := x_link (d := d + 1) ha.1 hT
  obtain ⟨s2, hs2⟩ : ∃ s2, s2 = up s1 4 1 (nI 0) := ⟨_, rfl⟩
  have q2 : Eqx [4, 5] s1 s2 := by rw [hs2]; exact Eqx.rf.up (by simp)
  have b2 : XBe (gT A) s2 := fun z hz => by rw [q2 _ (by decide)]; exact b1 z hz
  have eg := x_groupOf (d := d) (x := x) ha.1 b2 (by omega)
  have hg := grp_lt (T := gT A) (x := x) ha.1 (by omega)
  generalize grp (gT A) x = g at eg hg
  obtain ⟨s3, e3, c3, q3⟩ := x_findStarts (d := d) ha.1 b2 hg
  have b3 : XBe (gT A) s3 := fun z hz => by rw [q3 _ (by decide)]; exact b2 z hz
  have hgg : subS g g = true := subS_iff.mpr (fun _ h => h)
  have el := x_longFrom (d := d + 1) (w := x) hg hgg c3 (by omega)
  have hl := lo_le (T := gT A) (w := x) (fr := g)
  generalize lo (gT A) x g = c at el hl
  have W3 : XW [] s3 := XW_q (by rw [hs2]; exact XW_nil) q3 (by decide) (by decide)
  obtain ⟨s4, e4, w4, q4⟩ := x_add (d := d + 1 + 1) (a := nI x) W3 (by decide)
  have w4 : XW [nI x] s4 := w4
  have qa : Eqx [59, 62, 4, 5] s s3 := ((q1.mono (by simp)).tr (q2.mono (by simp))).tr (q3.mono (by simp))
  have st : ev (d + 1 + 1 + 1) 10 0 [.inr 58, .inl (nI x), .inr 4, .inr 0, .inr 0, .inr 0, .inr 0, .inr 0] [] s2 = ev (d + 1 + 1 + 1) 10 37 [.inr 58, .inr 0, .inr 4, .inr 0, .inl (nI c), .inl (nI g), .inl (nI x), .inl (nI c - nI 1)] [] s4 := by
    rw [E10_0]
    simp only [lit, eg, bnd_some, e3, el, e4, if_true]
  have fin : ∃ s', ev (d + 1 + 1 + 1) 10 37 [.inr 58, .inr 0, .inr 4, .inr 0, .inl (nI c), .inl (nI g), .inl (nI x), .inl (nI c - nI 1)] [] s4 = some (0, nI c, s') ∧ XW ([nI x] ++ chR (gT A) (c - 1) x g) s' ∧ Eqx [4, 5] s3 s' := by
    by_cases hc0 : c = 0
    · refine ⟨s4, ?_, by rw [hc0]; exact w4, q4⟩
      rw [E10_37, hc0]
      exact if_pos (show nI 0 - nI 1 ≤ 0 by decide +kernel)
    · rw [pk_sub (show 1 ≤ c by omega)]
      exact x_rowL (d := d) ha.1 b3 c3 (c - 1) x g s4 [nI x] (by omega) hg hgg q4 w4 (by show 1 + (c - 1) ≤ 16; omega)
  obtain ⟨s5, e5, w5, q5⟩ := fin
  have qb : Eqx [59, 62, 4, 5] s s5 := qa.tr (q5.mono (by simp))
  refine ⟨s5, ?_, XI_row h qb (by decide) (by decide) w5 (by show (chR (gT A) (c - 1) x g).length + 1 ≤ 16; rw [chR_len]; omega), fX_q qb (by decide)⟩
  rw [E203_0, x_tHasWord hT, hp']
  simp only [lit, bnd_some, bIt0, not_false_eq_true, if_true, e1, x_clear]
  rw [← hs2, st, e5, bnd_some]
end XK3
