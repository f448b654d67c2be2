/-! CALLS: same, unlike, nearest, shortest, wanting -/
def dif (T : aT) (x y : Nat) : Nat := sm (fun l => (nd T x l - nd T y l) + (nd T y l - nd T x l)) 10
def o_same (A : aA) (x : Int32) : Int32 := if inN x (tW (gT A)) = false then -nI 1 else nI (bts (fun y => decide (y ≠ ix x) && decide (dif (gT A) (ix x) y = 0)) (tW (gT A)))
def o_unlike (A : aA) (x y : Int32) : Int32 := if inN x (tW (gT A)) = false ∨ inN y (tW (gT A)) = false then -nI 1 else nI (dif (gT A) (ix x) (ix y))
/-- whether a wall could show a word -/
def cSh (T : aT) (S : aS) (w x : Nat) : Bool := allN (fun l => decide (nd T x l ≤ sG S w l + sL S l)) 10
def otS (p : Nat → Bool) (c : Nat → Nat) (k : Nat) (b : Option (Nat × Nat)) : Option (Nat × Nat) := if p k = true then (match b with
  | none => some (k, c k)
  | some (x, m) => if c k < m then some (k, c k) else some (x, m)) else b
def otN (p : Nat → Bool) (c : Nat → Nat) (n : Nat) : Option (Nat × Nat) := itr (fun k b => otS p c k b) n none
theorem otN_s {p : Nat → Bool} {c : Nat → Nat} {n : Nat} : otN p c (n + 1) = otS p c n (otN p c n) := rfl
def othP (T : aT) (S : aS) (w own k : Nat) : Bool := decide (tSen T k = tSen T own) && cSh T S w k
def othC (T : aT) (b : Bool) (own k : Nat) : Nat := if b = true then dif T own k else tLen T k
def o_other (A : aA) (w : Int32) (b : Bool) : aA × Int32 := if inN w (tN (gT A)) = false then (A, -nI 1) else match sH (gS A) (ix w) with
  | none => (A, -nI 3)
  | some own => match otN (othP (gT A) (gS A) (ix w) own) (othC (gT A) b own) (tW (gT A)) with
    | none => (A, -nI 2)
    | some (x, m) => (wW A [nI m], nI x)
def ndH (T : aT) (S : aS) (w l : Nat) : Nat := match sH S w with
  | none => 0
  | some x => nd T x l
def o_wanting (A : aA) (l : Int32) : aA × Int32 := if inN l 10 = false then (A, -nI 1) else (wW A [nI (sm (fun w => ndH (gT A) (gS A) w (ix l)) (tN (gT A))), nI (bts (fun w => decide (0 < ndH (gT A) (gS A) w (ix l))) (tN (gT A)))], nI (sm (fun w => ndH (gT A) (gS A) w (ix l)) (tN (gT A)) - stk (gS A) (ix l)))
section XCF
variable {d B l w v i x y own : Nat} {s s' : mS} {T : aT} {S : aS} {A : aA} {a b c n : Int32}
theorem mabs_n {a b : Nat} (ha : a < 2147483648) (hb : b < 2147483648) : mabs (nI a - nI b) = nI ((a - b) + (b - a)) := by
  unfold mabs
  by_cases h : b ≤ a
  · have e : a - b + (b - a) = a - b := by omega
    rw [pk_sub h, e]
    exact if_pos (nI_le (Nat.zero_le _) (by omega))
  · have e1 : nI a - nI b = -nI (b - a) := by
      rw [← pk_sub (show a ≤ b by omega), Int32.neg_sub]
    have e : a - b + (b - a) = b - a := by omega
    have e3 : (0 : Int32) - -nI (b - a) = nI (b - a) := by rw [Int32.zero_sub, Int32.neg_neg]
    rw [e1, e, e3]
    refine if_neg (fun z => ?_)
    have z : nI 0 ≤ -nI (b - a) := z
    rw [Int32.le_iff_toInt_le, negI (by omega), toI (by omega)] at z
    omega
theorem bIf0 : (bI false = nI 0) = True := eq_true rfl
theorem bIt0 : (bI true = nI 0) = False := eq_false (by decide +kernel)
theorem dif_le (hx : tLen T x ≤ 8) (hy : tLen T y ≤ 8) : dif T x y ≤ 160 := by
  have : dif T x y ≤ 10 * 16 := sm_le (fun l _ => by
    have := nd_le T x l
    have := nd_le T y l
    omega)
  omega
theorem x_dif (ht : tOk T) (hT : XT T s) (hx : x < tW T) (hy : y < tW T) : ev (d + 1) 162 0 [.inr 6, .inl (nI x), .inl (nI y), .inr 0, .inr 0] [] s = some (0, nI (dif T x y), s) := by
  have g := loopU (fun i a => ev (d + 1) 162 5 [.inr 6, .inl (nI x), .inl (nI y), .inl (nI a), .inl (nI i)] [] s) (fun l a => a + ((nd T x l - nd T y l) + (nd T y l - nd T x l))) 10 (fun i a hi => by
    have b1 := nd_le T x i
    have b2 := nd_le T y i
    have b3 := (ht.2.2.1 x hx).2.1
    have b4 := (ht.2.2.1 y hy).2.1
    rw [E162_5]
    simp (disch := omega) only [x_tneed ht hT hx hi, x_tneed ht hT hy hi, lit, nI_add, pk_mul, n_sub, n_addneg, nle_t, nle_f, nlt_t, nlt_f, neq_t, neq_f, n_inb, n_ix, bnd_some, if_true, if_false, ite_tt, ite_ff, not_true_eq_false, not_false_eq_true, eq_self, false_or, or_false, true_or, or_true]
    rw [mabs_n (by omega) (by omega), nI_add]) 0
  rw [E162_0]
  simp only [lit]
  refine g.trans ?_
  rw [E162_5]
  simp (disch := omega) only [lit, nI_add, pk_mul, n_sub, n_addneg, nle_t, nle_f, nlt_t, nlt_f, neq_t, neq_f, n_inb, n_ix, bnd_some, if_true, if_false, ite_tt, ite_ff, not_true_eq_false, not_false_eq_true, eq_self, false_or, or_false, true_or, or_true]
  rfl
theorem X_same (h : XI A B s) : ev (d + 1 + 1) 200 0 [.inr 1, .inl a, .inr 0, .inr 0] [] s = some (0, o_same A a, s) := by
  have ha := h.1
  have hT := h.2.2.1
  have hW := ha.1.1
  unfold o_same
  rw [E200_0, x_tHasWord hT]
  by_cases hw : inN a (tW (gT A)) = false
  · rw [if_pos hw, hw]
    simp (disch := omega) only [bI_f, lit, nI_add, pk_mul, n_sub, n_addneg, nle_t, nle_f, nlt_t, nlt_f, neq_t, neq_f, n_inb, n_ix, bnd_some, if_true, if_false, ite_tt, ite_ff, not_true_eq_false, not_false_eq_true, eq_self, false_or, or_false, true_or, or_true]
  have hw' : inN a (tW (gT A)) = true := by simpa using hw
  rw [if_neg hw, hw']
  obtain ⟨x, hx, rfl⟩ := inN_t (by omega) hw'
  rw [n_ix (by omega)]
  have g := loopU (fun i a => ev (d + 1 + 1) 200 17 [.inr 1, .inl (nI x), .inl (nI a), .inl (nI i)] [] s) (fun y a => a ||| (if (decide (y ≠ x) && decide (dif (gT A) x y = 0)) = true then 2 ^ y else 0)) (tW (gT A)) (fun i a hi => by
    have b1 := dif_le (T := gT A) (x := x) (y := i) (ha.1.2.2.1 x hx).2.1 (ha.1.2.2.1 i hi).2.1
    rw [E200_17, x_words hT]
    simp (disch := omega) only [lit, nI_add, pk_mul, n_sub, n_addneg, nle_t, nle_f, nlt_t, nlt_f, neq_t, neq_f, n_inb, n_ix, bnd_some, if_true, if_false, ite_tt, ite_ff, not_true_eq_false, not_false_eq_true, eq_self, false_or, or_false, true_or, or_true]
    by_cases hz : i = x
    · have e : (decide (i ≠ x) && decide (dif (gT A) x i = 0)) = false := by simp [hz]
      rw [e]
      simp (disch := omega) only [E200_51, Bool.false_eq_true, Nat.or_zero, lit, nI_add, pk_mul, n_sub, n_addneg, nle_t, nle_f, nlt_t, nlt_f, neq_t, neq_f, n_inb, n_ix, bnd_some, if_true, if_false, ite_tt, ite_ff, not_true_eq_false, not_false_eq_true, eq_self, false_or, or_false, true_or, or_true]
    · simp (disch := omega) only [x_dif (d := d) ha.1 hT hx hi, lit, nI_add, pk_mul, n_sub, n_addneg, nle_t, nle_f, nlt_t, nlt_f, neq_t, neq_f, n_inb, n_ix, bnd_some, if_true, if_false, ite_tt, ite_ff, not_true_eq_false, not_false_eq_true, eq_self, false_or, or_false, true_or, or_true]
      by_cases hd : dif (gT A) x i = 0
      · have e : (decide (i ≠ x) && decide (dif (gT A) x i = 0)) = true := by simp [hz, hd]
        rw [e]
        simp (disch := omega) only [hd, E200_51, n_pow, n_or, lit, nI_add, pk_mul, n_sub, n_addneg, nle_t, nle_f, nlt_t, nlt_f, neq_t, neq_f, n_inb, n_ix, bnd_some, if_true, if_false, ite_tt, ite_ff, not_true_eq_false, not_false_eq_true, eq_self, false_or, or_false, true_or, or_true]
      · have e : (decide (i ≠ x) && decide (dif (gT A) x i = 0)) = false := by simp [hd]
        rw [e]
        simp (disch := omega) only [E200_51, Bool.false_eq_true, Nat.or_zero, lit, nI_add, pk_mul, n_sub, n_addneg, nle_t, nle_f, nlt_t, nlt_f, neq_t, neq_f, n_inb, n_ix, bnd_some, if_true, if_false, ite_tt, ite_ff, not_true_eq_false, not_false_eq_true, eq_self, false_or, or_false, true_or, or_true]) 0
  simp (disch := omega) only [bI_t, lit, nI_add, pk_mul, n_sub, n_addneg, nle_t, nle_f, nlt_t, nlt_f, neq_t, neq_f, n_inb, n_ix, bnd_some, if_true, if_false, ite_tt, ite_ff, not_true_eq_false, not_false_eq_true, eq_self, false_or, or_false, true_or, or_true]
  refine g.trans ?_
  rw [E200_17, x_words hT]
  simp (disch := omega) only [lit, nI_add, pk_mul, n_sub, n_addneg, nle_t, nle_f, nlt_t, nlt_f, neq_t, neq_f, n_inb, n_ix, bnd_some, if_true, if_false, ite_tt, ite_ff, not_true_eq_false, not_false_eq_true, eq_self, false_or, or_false, true_or, or_true]
  rfl
theorem X_unlike (h : XI A B s) : ev (d + 1 + 1) 202 0 [.inr 1, .inl a, .inl b] [] s = some (0, o_unlike A a b, s) := by
  have ha := h.1
  have hT := h.2.2.1
  have hW := ha.1.1
  unfold o_unlike
  rw [E202_0, x_tHasWord hT]
  by_cases hw : inN a (tW (gT A)) = false
  · rw [if_pos (Or.inl hw), hw]
    simp (disch := omega) only [bI_f, E202_34, E202_35, lit, nI_add, pk_mul, n_sub, n_addneg, nle_t, nle_f, nlt_t, nlt_f, neq_t, neq_f, n_inb, n_ix, bnd_some, if_true, if_false, ite_tt, ite_ff, not_true_eq_false, not_false_eq_true, eq_self, false_or, or_false, true_or, or_true]
  have hw' : inN a (tW (gT A)) = true := by simpa using hw
  by_cases hy : inN b (tW (gT A)) = false
  · rw [if_pos (Or.inr hy), hw']
    simp (disch := omega) only [bI_t, x_tHasWord hT, hy, bI_f, E202_34, E202_35, lit, nI_add, pk_mul, n_sub, n_addneg, nle_t, nle_f, nlt_t, nlt_f, neq_t, neq_f, n_inb, n_ix, bnd_some, if_true, if_false, ite_tt, ite_ff, not_true_eq_false, not_false_eq_true, eq_self, false_or, or_false, true_or, or_true]
  have hy' : inN b (tW (gT A)) = true := by simpa using hy
  rw [if_neg (by simp [hw', hy']), hw']
  obtain ⟨x, hx, rfl⟩ := inN_t (by omega) hw'
  obtain ⟨y, hy2, rfl⟩ := inN_t (by omega) hy'
  rw [n_ix (by omega), n_ix (by omega)]
  simp (disch := omega) only [bI_t, x_tHasWord hT, hy', x_dif (d := d) ha.1 hT hx hy2, E202_35, lit, nI_add, pk_mul, n_sub, n_addneg, nle_t, nle_f, nlt_t, nlt_f, neq_t, neq_f, n_inb, n_ix, bnd_some, if_true, if_false, ite_tt, ite_ff, not_true_eq_false, not_false_eq_true, eq_self, false_or, or_false, true_or, or_true]
theorem x_couldShow (ht : tOk T) (hT : XT T s) (ho : sOk T S B) (hc : XC T S (s 37)) (hw : w < 8) (hx : x < tW T) : ev (d + 1) 122 0 [.inr 36, .inl (nI w), .inl (nI x), .inr 0] [] s = some (0, bI (cSh T S w x), s) := by
  have hk : isK 36 := Or.inl rfl
  have hc : XC T S (s (mRf 36 1)) := hc
  have outer := loopA (fun i => ev (d + 1) 122 2 [.inr 36, .inl (nI w), .inl (nI x), .inl (nI i)] [] s) (fun l => decide (nd T x l ≤ sG S w l + sL S l)) (some (0, nI 0, s)) 10 (fun l hl hp => by
      have hp := of_decide_eq_true hp
      have b1 := sG_le (l := l) ht (ho.1 w)
      have b2 := (hal_le ho hl).2
      have b3 := nd_le T x l
      have b4 := (ht.2.2.1 x hx).2.1
      rw [E122_2]
      simp (disch := omega) only [x_tneed ht hT hx hl, x_hung hk hc hw hl, x_inChest hk hc hl, lit, nI_add, pk_mul, n_sub, n_addneg, nle_t, nle_f, nlt_t, nlt_f, neq_t, neq_f, n_inb, n_ix, bnd_some, if_true, if_false, ite_tt, ite_ff, not_true_eq_false, not_false_eq_true, eq_self, false_or, or_false, true_or, or_true]) (fun l hl hp => by
      have hp := of_decide_eq_false hp
      have b3 := nd_le T x l
      have b4 := (ht.2.2.1 x hx).2.1
      rw [E122_2]
      simp (disch := omega) only [x_tneed ht hT hx hl, x_hung hk hc hw hl, x_inChest hk hc hl, lit, nI_add, pk_mul, n_sub, n_addneg, nle_t, nle_f, nlt_t, nlt_f, neq_t, neq_f, n_inb, n_ix, bnd_some, if_true, if_false, ite_tt, ite_ff, not_true_eq_false, not_false_eq_true, eq_self, false_or, or_false, true_or, or_true])
  rw [E122_0]
  simp only [lit]
  refine outer.trans ?_
  unfold cSh
  cases allN (fun l => decide (nd T x l ≤ sG S w l + sL S l)) 10 with
  | true =>
    rw [if_pos rfl, E122_2]
    simp (disch := omega) only [lit, nI_add, pk_mul, n_sub, n_addneg, nle_t, nle_f, nlt_t, nlt_f, neq_t, neq_f, n_inb, n_ix, bnd_some, if_true, if_false, ite_tt, ite_ff, not_true_eq_false, not_false_eq_true, eq_self, false_or, or_false, true_or, or_true]
    rfl
  | false => rfl
/-- the best so far, as the class holds it -/
def otB : Option (Nat × Nat) → Int32
  | none => -nI 2
  | some (x, _) => nI x
def otL : Option (Nat × Nat) → Int32
  | none => nI 0
  | some (_, m) => nI m
theorem otN_lt {p : Nat → Bool} {c : Nat → Nat} {n x m : Nat} (h : otN p c n = some (x, m)) : x < n ∧ m = c x := by
  induction n generalizing x m with
  | zero => cases h
  | succ n ih =>
    rw [otN_s] at h
    unfold otS at h
    split at h
    · cases ho : otN p c n with
      | none =>
        rw [ho] at h
        cases h
        exact ⟨by omega, rfl⟩
      | some r =>
        obtain ⟨x', m'⟩ := r
        rw [ho] at h
        dsimp only at h
        split at h
        · cases h; exact ⟨by omega, rfl⟩
        · cases h
          have := ih ho
          exact ⟨by omega, this.2⟩
    · have := ih h
      exact ⟨by omega, this.2⟩
theorem x_other {b : Bool} (ht : tOk T) (hT : XT T s) (ho : sOk T S B) (hc : XC T S (s 37)) (hw : w < 8) (hown : own < tW T) : ∀ n, n ≤ tW T → ev (d + 1 + 1) 226 46 [.inr 1, .inl (nI w), .inl (bI b), .inl (nI own), .inl (-nI 2), .inl (nI 0), .inl (nI 0), .inr 0, .inr 0] [] s = ev (d + 1 + 1) 226 46 [.inr 1, .inl (nI w), .inl (bI b), .inl (nI own), .inl (otB (otN (othP T S w own) (othC T b own) n)), .inl (otL (otN (othP T S w own) (othC T b own) n)), .inl (nI n), .inr 0, .inr 0] [] s := by
  intro n
  induction n with
  | zero => intro _; rfl
  | succ n ih =>
    intro hn
    have hW := ht.1
    have hb1 := (ht.2.2.1 own hown).2
    have hb2 := (ht.2.2.1 n (by omega)).2
    have b1 := dif_le (T := T) hb1.1 hb2.1
    have hlt := fun x m => otN_lt (p := othP T S w own) (c := othC T b own) (n := n) (x := x) (m := m)
    rw [ih (by omega), otN_s]
    generalize otN (othP T S w own) (othC T b own) n = r at hlt ⊢
    have step : ∀ v, othC T b own n = v → v < 2147483648 → ev (d + 1 + 1) 226 84 [.inr 1, .inl (nI w), .inl (bI b), .inl (nI own), .inl (otB r), .inl (otL r), .inl (nI n), .inr 0, .inr 0] [.inl (nI v)] s = ev (d + 1 + 1) 226 46 [.inr 1, .inl (nI w), .inl (bI b), .inl (nI own), .inl (otB (otS (othP T S w own) (othC T b own) n r)), .inl (otL (otS (othP T S w own) (othC T b own) n r)), .inl (nI (n + 1)), .inr 0, .inr 0] [] s := by
      intro v hv hvb
      rw [E226_84, x_sense ht hT (show n < tW T by omega), bnd_some, x_sense ht hT hown, bnd_some]
      have no : othP T S w own n = false → ev (d + 1 + 1) 226 123 [.inr 1, .inl (nI w), .inl (bI b), .inl (nI own), .inl (otB r), .inl (otL r), .inl (nI n), .inl (nI v), .inr 0] [] s = ev (d + 1 + 1) 226 46 [.inr 1, .inl (nI w), .inl (bI b), .inl (nI own), .inl (otB (otS (othP T S w own) (othC T b own) n r)), .inl (otL (otS (othP T S w own) (othC T b own) n r)), .inl (nI (n + 1)), .inr 0, .inr 0] [] s := fun hp => by
        unfold otS
        rw [if_neg (by simp [hp]), E226_123, E226_124]
        simp (disch := omega) only [lit, nI_add, pk_mul, n_sub, n_addneg, nle_t, nle_f, nlt_t, nlt_f, neq_t, neq_f, n_inb, n_ix, bnd_some, if_true, if_false, ite_tt, ite_ff, not_true_eq_false, not_false_eq_true, eq_self, false_or, or_false, true_or, or_true]
        rw [E226_151]
        simp (disch := omega) only [lit, nI_add, pk_mul, n_sub, n_addneg, nle_t, nle_f, nlt_t, nlt_f, neq_t, neq_f, n_inb, n_ix, bnd_some, if_true, if_false, ite_tt, ite_ff, not_true_eq_false, not_false_eq_true, eq_self, false_or, or_false, true_or, or_true]
      by_cases hs : tSen T n = tSen T own
      · rw [if_neg (not_not_intro (congrArg nI hs)), x_couldShow (d := d) ht hT ho hc hw (show n < tW T by omega), bnd_some]
        cases hcs : cSh T S w n with
        | false =>
          rw [if_pos (show bI false = 0 from rfl)]
          exact no (by unfold othP; rw [hcs, Bool.and_false])
        | true =>
          have hp : othP T S w own n = true := by unfold othP; rw [hcs, decide_eq_true hs]; rfl
          rw [if_neg (show ¬ bI true = 0 by decide +kernel), E226_124]
          unfold otS
          rw [if_pos hp, hv]
          have n10 : ¬ ((1 : Int32) = 0) := by decide +kernel
          rw [if_neg n10]
          cases r with
          | none =>
            have l0 : (otB none < 0) := by decide +kernel
            rw [if_pos l0, E226_143, E226_151]
            simp (disch := omega) only [lit, nI_add, pk_mul, n_sub, n_addneg, nle_t, nle_f, nlt_t, nlt_f, neq_t, neq_f, n_inb, n_ix, bnd_some, if_true, if_false, ite_tt, ite_ff, not_true_eq_false, not_false_eq_true, eq_self, false_or, or_false, true_or, or_true]
            rfl
          | some q =>
            obtain ⟨x', m'⟩ := q
            obtain ⟨g1, g2⟩ := hlt x' m' rfl
            have hbx := (ht.2.2.1 x' (by omega)).2
            have b2 := dif_le (T := T) hb1.1 hbx.1
            have hm' : m' < 2147483648 := by
              rw [g2]; unfold othC
              split <;> omega
            dsimp only [otB, otL]
            simp (disch := omega) only [lit, nI_add, pk_mul, n_sub, n_addneg, nle_t, nle_f, nlt_t, nlt_f, neq_t, neq_f, n_inb, n_ix, bnd_some, if_true, if_false, ite_tt, ite_ff, not_true_eq_false, not_false_eq_true, eq_self, false_or, or_false, true_or, or_true]
            by_cases hlt2 : v < m'
            · rw [if_pos hlt2]
              simp (disch := omega) only [lit, nI_add, pk_mul, n_sub, n_addneg, nle_t, nle_f, nlt_t, nlt_f, neq_t, neq_f, n_inb, n_ix, bnd_some, if_true, if_false, ite_tt, ite_ff, not_true_eq_false, not_false_eq_true, eq_self, false_or, or_false, true_or, or_true]
              rw [E226_143, E226_151]
              simp (disch := omega) only [lit, nI_add, pk_mul, n_sub, n_addneg, nle_t, nle_f, nlt_t, nlt_f, neq_t, neq_f, n_inb, n_ix, bnd_some, if_true, if_false, ite_tt, ite_ff, not_true_eq_false, not_false_eq_true, eq_self, false_or, or_false, true_or, or_true]
            · rw [if_neg hlt2]
              simp (disch := omega) only [lit, nI_add, pk_mul, n_sub, n_addneg, nle_t, nle_f, nlt_t, nlt_f, neq_t, neq_f, n_inb, n_ix, bnd_some, if_true, if_false, ite_tt, ite_ff, not_true_eq_false, not_false_eq_true, eq_self, false_or, or_false, true_or, or_true]
              rw [E226_151]
              simp (disch := omega) only [lit, nI_add, pk_mul, n_sub, n_addneg, nle_t, nle_f, nlt_t, nlt_f, neq_t, neq_f, n_inb, n_ix, bnd_some, if_true, if_false, ite_tt, ite_ff, not_true_eq_false, not_false_eq_true, eq_self, false_or, or_false, true_or, or_true]
      · rw [if_pos (fun z => hs ((nI_eq (by omega) (by omega)).mp z))]
        exact no (by unfold othP; rw [decide_eq_false hs, Bool.false_and])
    rw [E226_46, x_words hT]
    simp (disch := omega) only [lit, nI_add, pk_mul, n_sub, n_addneg, nle_t, nle_f, nlt_t, nlt_f, neq_t, neq_f, n_inb, n_ix, bnd_some, if_true, if_false, ite_tt, ite_ff, not_true_eq_false, not_false_eq_true, eq_self, false_or, or_false, true_or, or_true]
    cases b with
    | false =>
      simp (disch := omega) only [bIf0, x_length ht hT (show n < tW T by omega), lit, nI_add, pk_mul, n_sub, n_addneg, nle_t, nle_f, nlt_t, nlt_f, neq_t, neq_f, n_inb, n_ix, bnd_some, if_true, if_false, ite_tt, ite_ff, not_true_eq_false, not_false_eq_true, eq_self, false_or, or_false, true_or, or_true]
      exact step _ rfl (by omega)
    | true =>
      simp (disch := omega) only [bIt0, x_dif (d := d) ht hT hown (show n < tW T by omega), lit, nI_add, pk_mul, n_sub, n_addneg, nle_t, nle_f, nlt_t, nlt_f, neq_t, neq_f, n_inb, n_ix, bnd_some, if_true, if_false, ite_tt, ite_ff, not_true_eq_false, not_false_eq_true, eq_self, false_or, or_false, true_or, or_true]
      exact step _ rfl (by omega)
theorem X_other {b : Bool} (h : XI A B s) : ∃ s', ev (d + 1 + 1) 226 0 [.inr 1, .inl a, .inl (bI b), .inr 0, .inr 0, .inr 0, .inr 0, .inr 0, .inr 0] [] s = some (0, (o_other A a b).2, s') ∧ XI (o_other A a b).1 B s' ∧ fX s s' := by
  have ha := h.1
  have hT := h.2.2.1
  have hc := h.2.1
  have hN := ha.1.2.1
  have hW := ha.1.1
  have hk : isK 36 := Or.inl rfl
  unfold o_other
  by_cases hw : inN a (tN (gT A)) = false
  · rw [if_pos hw]
    refine ⟨s, ?_, h, fun _ _ => rfl⟩
    rw [E226_0, x_hasWall hT, hw]
    simp (disch := omega) only [bI_f, lit, nI_add, pk_mul, n_sub, n_addneg, nle_t, nle_f, nlt_t, nlt_f, neq_t, neq_f, n_inb, n_ix, bnd_some, if_true, if_false, ite_tt, ite_ff, not_true_eq_false, not_false_eq_true, eq_self, false_or, or_false, true_or, or_true]
  have hw' : inN a (tN (gT A)) = true := by simpa using hw
  rw [if_neg hw]
  obtain ⟨w, hw2, rfl⟩ := inN_t (by omega) hw'
  rw [n_ix (by omega)]
  have e0 := x_hasWord (d := d + 1) ha.1 (ha.2.1.1 w) hk hc (show w < 8 by omega)
  unfold isW at e0
  cases hn : sH (gS A) w with
  | none =>
    rw [hn] at e0
    refine ⟨s, ?_, h, fun _ _ => rfl⟩
    rw [E226_0, x_hasWall hT, hw']
    simp (disch := omega) only [bI_t, e0, Option.isSome, bI_f, lit, nI_add, pk_mul, n_sub, n_addneg, nle_t, nle_f, nlt_t, nlt_f, neq_t, neq_f, n_inb, n_ix, bnd_some, if_true, if_false, ite_tt, ite_ff, not_true_eq_false, not_false_eq_true, eq_self, false_or, or_false, true_or, or_true]
  | some own =>
    rw [hn] at e0
    have hown := (wOk_s (ha.2.1.1 w) hn).2.1
    have e1 := x_wordOf (d := d + 1) hk hc (show w < 8 by omega)
    rw [hn, oc_some] at e1
    have e2 := x_other (d := d) (b := b) ha.1 hT ha.2.1 hc (show w < 8 by omega) hown (tW (gT A)) (Nat.le_refl _)
    have st : ev (d + 1 + 1) 226 0 [.inr 1, .inl (nI w), .inl (bI b), .inr 0, .inr 0, .inr 0, .inr 0, .inr 0, .inr 0] [] s = ev (d + 1 + 1) 226 46 [.inr 1, .inl (nI w), .inl (bI b), .inl (nI own), .inl (-nI 2), .inl (nI 0), .inl (nI 0), .inr 0, .inr 0] [] s := by
      rw [E226_0, x_hasWall hT, hw']
      simp (disch := omega) only [bI_t, e0, Option.isSome, e1, lit, nI_add, pk_mul, n_sub, n_addneg, nle_t, nle_f, nlt_t, nlt_f, neq_t, neq_f, n_inb, n_ix, bnd_some, if_true, if_false, ite_tt, ite_ff, not_true_eq_false, not_false_eq_true, eq_self, false_or, or_false, true_or, or_true]
    rw [st, e2, E226_46, x_words hT]
    have hlt := fun x m => otN_lt (p := othP (gT A) (gS A) w own) (c := othC (gT A) b own) (n := tW (gT A)) (x := x) (m := m)
    dsimp only
    generalize otN (othP (gT A) (gS A) w own) (othC (gT A) b own) (tW (gT A)) = r at hlt ⊢
    cases r with
    | none =>
      refine ⟨s, ?_, h, fun _ _ => rfl⟩
      have l0 : (-nI 2 < nI 0) = True := eq_true (by decide +kernel)
      dsimp only [otB, otL]
      simp (disch := omega) only [l0, E226_175, lit, nI_add, pk_mul, n_sub, n_addneg, nle_t, nle_f, nlt_t, nlt_f, neq_t, neq_f, n_inb, n_ix, bnd_some, if_true, if_false, ite_tt, ite_ff, not_true_eq_false, not_false_eq_true, eq_self, false_or, or_false, true_or, or_true]
    | some q =>
      obtain ⟨x, m⟩ := q
      have hx := (hlt x m rfl).1
      obtain ⟨s1, r1, q1, w1⟩ := x_add1 (d := d + 1) (s := s) (a := nI m)
      refine ⟨s1, ?_, XI_row h q1 (by decide) (by decide) w1 (by simp), fX_q q1 (by decide)⟩
      dsimp only [otB, otL]
      simp (disch := omega) only [x_clear, r1, E226_175, lit, nI_add, pk_mul, n_sub, n_addneg, nle_t, nle_f, nlt_t, nlt_f, neq_t, neq_f, n_inb, n_ix, bnd_some, if_true, if_false, ite_tt, ite_ff, not_true_eq_false, not_false_eq_true, eq_self, false_or, or_false, true_or, or_true]
theorem X_nearest (h : XI A B s) : ∃ s', ev (d + 1 + 1 + 1) 197 0 [.inr 1, .inl a] [] s = some (0, (o_other A a true).2, s') ∧ XI (o_other A a true).1 B s' ∧ fX s s' := by
  obtain ⟨s', e, r⟩ := X_other (d := d) (a := a) (b := true) h
  refine ⟨s', ?_, r⟩
  have e : ev (d + 1 + 1) 226 0 [.inr 1, .inl a, .inl 1, .inr 0, .inr 0, .inr 0, .inr 0, .inr 0, .inr 0] [] s = some (0, (o_other A a true).2, s') := e
  rw [E197_0, e, bnd_some]
theorem X_shortest (h : XI A B s) : ∃ s', ev (d + 1 + 1 + 1) 198 0 [.inr 1, .inl a] [] s = some (0, (o_other A a false).2, s') ∧ XI (o_other A a false).1 B s' ∧ fX s s' := by
  obtain ⟨s', e, r⟩ := X_other (d := d) (a := a) (b := false) h
  refine ⟨s', ?_, r⟩
  have e : ev (d + 1 + 1) 226 0 [.inr 1, .inl a, .inl 0, .inr 0, .inr 0, .inr 0, .inr 0, .inr 0, .inr 0] [] s = some (0, (o_other A a false).2, s') := e
  rw [E198_0, e, bnd_some]
theorem X_wanting (h : XI A B s) : ∃ s', ev (d + 1 + 1) 207 0 [.inr 1, .inl a, .inr 0, .inr 0, .inr 0, .inr 0] [] s = some (0, (o_wanting A a).2, s') ∧ XI (o_wanting A a).1 B s' ∧ fX s s' := by
  have ha := h.1
  have hT := h.2.2.1
  have hc := h.2.1
  have hN := ha.1.2.1
  unfold o_wanting
  by_cases hi : inN a 10 = false
  · rw [if_pos hi]
    refine ⟨s, ?_, h, fun _ _ => rfl⟩
    rw [E207_0, x_isLetter, hi]
    simp (disch := omega) only [bI_f, lit, nI_add, pk_mul, n_sub, n_addneg, nle_t, nle_f, nlt_t, nlt_f, neq_t, neq_f, n_inb, n_ix, bnd_some, if_true, if_false, ite_tt, ite_ff, not_true_eq_false, not_false_eq_true, eq_self, false_or, or_false, true_or, or_true]
  have hi' : inN a 10 = true := by simpa using hi
  rw [if_neg hi]
  obtain ⟨l, hl, rfl⟩ := inN_t (by omega) hi'
  rw [n_ix (by omega)]
  have bnd0 : ∀ w, ndH (gT A) (gS A) w l ≤ 8 := fun w => by
    unfold ndH
    cases hn : sH (gS A) w with
    | none => exact Nat.zero_le _
    | some x =>
      have := nd_le (gT A) x l
      have := (ha.1.2.2.1 x (wOk_s (ha.2.1.1 w) hn).2.1).2.1
      show nd (gT A) x l ≤ 8
      omega
  have key : ∀ n, n ≤ tN (gT A) → ev (d + 1 + 1) 207 16 [.inr 1, .inl (nI l), .inl (nI 0), .inl (nI 0), .inl (nI 0), .inr 0] [] s = ev (d + 1 + 1) 207 16 [.inr 1, .inl (nI l), .inl (nI (sm (fun w => ndH (gT A) (gS A) w l) n)), .inl (nI (bts (fun w => decide (0 < ndH (gT A) (gS A) w l)) n)), .inl (nI n), .inr 0] [] s := by
    intro n
    induction n with
    | zero => intro _; rfl
    | succ n ih =>
      intro hn
      have e1 : ev (d + 1) 106 0 [.inr 36, .inl (nI n), .inl (nI l)] [] s = some (0, nI (ndH (gT A) (gS A) n l), s) := x_need (d := d) ha.1 hT (ha.2.1.1 n) hc (by omega) hl
      have b1 := bnd0 n
      rw [ih (by omega), E207_16, x_walls hT, sm_s, bts_s]
      simp (disch := omega) only [e1, lit, nI_add, pk_mul, n_sub, n_addneg, nle_t, nle_f, nlt_t, nlt_f, neq_t, neq_f, n_inb, n_ix, bnd_some, if_true, if_false, ite_tt, ite_ff, not_true_eq_false, not_false_eq_true, eq_self, false_or, or_false, true_or, or_true]
      by_cases hz : ndH (gT A) (gS A) n l = 0
      · rw [decide_eq_false (by omega : ¬ 0 < ndH (gT A) (gS A) n l)]
        simp (disch := omega) only [E207_59, n_or, Bool.false_eq_true, lit, nI_add, pk_mul, n_sub, n_addneg, nle_t, nle_f, nlt_t, nlt_f, neq_t, neq_f, n_inb, n_ix, bnd_some, if_true, if_false, ite_tt, ite_ff, not_true_eq_false, not_false_eq_true, eq_self, false_or, or_false, true_or, or_true]
      · rw [decide_eq_true (by omega : 0 < ndH (gT A) (gS A) n l)]
        simp (disch := omega) only [E207_59, n_or, n_pow, lit, nI_add, pk_mul, n_sub, n_addneg, nle_t, nle_f, nlt_t, nlt_f, neq_t, neq_f, n_inb, n_ix, bnd_some, if_true, if_false, ite_tt, ite_ff, not_true_eq_false, not_false_eq_true, eq_self, false_or, or_false, true_or, or_true]
  obtain ⟨s1, s2, e1, e2, q1, q2, w2⟩ := x_add2 (d := d + 1) (s := s) (a := nI (sm (fun w => ndH (gT A) (gS A) w l) (tN (gT A)))) (b := nI (bts (fun w => decide (0 < ndH (gT A) (gS A) w l)) (tN (gT A))))
  have r1 := x_tstock (d := d + 1) (XSt_q h.2.2.2.1 q2 (by decide)) hl
  have b1 : sm (fun w => ndH (gT A) (gS A) w l) (tN (gT A)) ≤ tN (gT A) * 8 := sm_le (fun w _ => bnd0 w)
  have b2 := ha.2.1.2.1 l hl
  have em := mmax0 (a := sm (fun w => ndH (gT A) (gS A) w l) (tN (gT A))) (b := stk (gS A) l) (by omega) (by omega)
  refine ⟨s2, ?_, XI_row h q2 (by decide) (by decide) w2 (by simp), fX_q q2 (by decide)⟩
  rw [E207_0, x_isLetter, hi']
  simp (disch := omega) only [lit, bI_t, bnd_some, neq_f, not_false_eq_true, if_true]
  rw [key _ (Nat.le_refl _), E207_16, x_walls hT]
  simp (disch := omega) only [lit, bnd_some, nle_t, if_true, x_clear, e1, e2, r1, em]
end XCF
