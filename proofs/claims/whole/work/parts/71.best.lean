/-! CALLS: best -/
/-- words of a wall's sense -/
def lik (T : aT) (own : Nat) : Nat := sm (fun x => if tSen T x = tSen T own then 1 else 0) (tW T)
def prW (T : aT) (S : aS) (n : Nat) : Nat := itr (fun w a => match sH S w with
  | none => a * 1
  | some own => a * (1 + lik T own)) n 1
theorem prW_s {T : aT} {S : aS} {n : Nat} : prW T S (n + 1) = match sH S n with
  | none => prW T S n * 1
  | some own => prW T S n * (1 + lik T own) := rfl
def canD (T : aT) (p : Nat → Nat) (x : Nat) : Bool := allN (fun l => decide (nd T x l ≤ p l)) 10
def drwP (T : aT) (p : Nat → Nat) (x l : Nat) : Nat := p l - nd T x l
abbrev aB : Type := Option Nat × (Nat → Int32)
def bsL (sum : Nat) (ch : Nat → Int32) (a : aB) : aB := match a.1 with
  | none => (some sum, ch)
  | some m => if m < sum then (some sum, ch) else a
/-- all ways to give walls words, one behind the other -/
def bsD (T : aT) (S : aS) : Nat → Nat → (Nat → Nat) → Nat → (Nat → Int32) → aB → aB
  | 0, _, _, sum, ch, a => bsL sum ch a
  | j + 1, w, p, sum, ch, a => match sH S w with
    | none => bsD T S j (w + 1) p sum (upd ch w (-nI 1)) a
    | some own => itr (fun x b => if tSen T x = tSen T own ∧ canD T p x = true then bsD T S j (w + 1) (drwP T p x) (sum + tWo T w) (upd ch w (nI x)) b else b) (tW T) (bsD T S j (w + 1) p sum (upd ch w (-nI 1)) a)
def bsA (A : aA) : aB := bsD (gT A) (gS A) (tN (gT A)) 0 (stk (gS A)) 0 (fun _ => 0) (none, fun _ => 0)
def mI : Option Nat → Int32
  | none => -nI 1
  | some m => nI m
def o_best (A : aA) : aA × Int32 := if 20000 < prW (gT A) (gS A) (tN (gT A)) then (A, -nI 3) else (wW A (rowN (bsA A).2 (tN (gT A))), mI (bsA A).1)
/-- the worth that walls from w on can still bring -/
def wfT (T : aT) (S : aS) (w : Nat) : Nat := sm (fun i => if isW S (w + i) = true then tWo T (w + i) else 0) (tN T - w)
section XBE
variable {d B l w v x y n j sum own : Nat} {s s' s1 : mS} {T : aT} {S : aS} {A : aA} {p : Nat → Nat} {ch : Nat → Int32} {a : aB}
theorem sm_head {f : Nat → Nat} {n : Nat} : sm f (n + 1) = f 0 + sm (fun i => f (i + 1)) n := by
  induction n with
  | zero => show 0 + f 0 = f 0 + 0; omega
  | succ n ih => rw [sm_s, ih, sm_s]; omega
theorem wfT_s (h : w < tN T) : wfT T S w = (if isW S w = true then tWo T w else 0) + wfT T S (w + 1) := by
  unfold wfT
  rw [show tN T - w = tN T - (w + 1) + 1 by omega, sm_head]
  congr 1
  refine sm_cong (fun i _ => ?_)
  rw [show w + (i + 1) = w + 1 + i by omega]
theorem wfT_0 : wfT T S (tN T) = 0 := by
  unfold wfT
  rw [Nat.sub_self]
  rfl
theorem wfT_le (ht : tOk T) (h : w ≤ tN T) : wfT T S w ≤ (tN T - w) * 99 := sm_le (fun i hi => by
  have := (ht.2.2.2 (w + i) (by omega)).2.1
  show (if isW S (w + i) = true then tWo T (w + i) else 0) ≤ 99
  split <;> omega)
theorem itr_id {α : Type} {g : Nat → α → α} {n : Nat} {a : α} (h : ∀ i, i < n → g i a = a) : itr g n a = a := by
  induction n with
  | zero => rfl
  | succ n ih =>
    show g n (itr g n a) = a
    rw [ih (fun i hi => h i (by omega))]
    exact h n (by omega)
/-- what can't be better changes nothing -/
theorem bsD_cut {m : Nat} (hj : w + j = tN T) (ha : a.1 = some m) (hm : sum + wfT T S w ≤ m) : bsD T S j w p sum ch a = a := by
  induction j generalizing w p sum ch a m with
  | zero =>
    unfold bsD bsL
    rw [ha]
    dsimp only
    rw [show w = tN T by omega, wfT_0] at hm
    rw [if_neg (by omega)]
  | succ j ih =>
    have hw : w < tN T := by omega
    rw [wfT_s hw] at hm
    unfold bsD
    cases hn : sH S w with
    | none =>
      refine ih (by omega) ha ?_
      omega
    | some own =>
      have hWt : isW S w = true := by unfold isW; rw [hn]; rfl
      rw [if_pos hWt] at hm
      dsimp only
      rw [ih (by omega) ha (by omega)]
      refine itr_id (fun i _ => ?_)
      split
      · exact ih (by omega) ha (by omega)
      · rfl
theorem bsL_some : (bsL sum ch a).1.isSome = true := by
  unfold bsL
  cases h : a.1 with
  | none => rfl
  | some m =>
    dsimp only
    split
    · rfl
    · rw [h]; rfl
theorem bsD_some : (bsD T S j w p sum ch a).1.isSome = true := by
  induction j generalizing w p sum ch a with
  | zero => exact bsL_some
  | succ j ih =>
    unfold bsD
    cases hn : sH S w with
    | none => exact ih
    | some own =>
      dsimp only
      have : ∀ n, (itr (fun x b => if tSen T x = tSen T own ∧ canD T p x = true then bsD T S j (w + 1) (drwP T p x) (sum + tWo T w) (upd ch w (nI x)) b else b) n (bsD T S j (w + 1) p sum (upd ch w (-nI 1)) a)).1.isSome = true := by
        intro n
        induction n with
        | zero => exact ih
        | succ n ihn =>
          show (if tSen T n = tSen T own ∧ canD T p n = true then bsD T S j (w + 1) (drwP T p n) (sum + tWo T w) (upd ch w (nI n)) _ else _ : aB).1.isSome = true
          split
          · exact ih
          · exact ihn
      exact this _
theorem bsD_le (ht : tOk T) (hj : w + j = tN T) (hs : sum ≤ w * 99) (ha : ∀ m, a.1 = some m → m ≤ 792) : ∀ m, (bsD T S j w p sum ch a).1 = some m → m ≤ 792 := by
  have hN := ht.2.1
  induction j generalizing w p sum ch a with
  | zero =>
    intro m hm
    unfold bsD bsL at hm
    cases h : a.1 with
    | none => rw [h] at hm; cases hm; omega
    | some k =>
      rw [h] at hm
      dsimp only at hm
      split at hm
      · cases hm; omega
      · exact ha m hm
  | succ j ih =>
    have hw : w < tN T := by omega
    have hwo := (ht.2.2.2 w hw).2.1
    intro m hm
    unfold bsD at hm
    cases hn : sH S w with
    | none =>
      rw [hn] at hm
      exact ih (by omega) (by omega) ha m hm
    | some own =>
      rw [hn] at hm
      dsimp only at hm
      have : ∀ n m, (itr (fun x b => if tSen T x = tSen T own ∧ canD T p x = true then bsD T S j (w + 1) (drwP T p x) (sum + tWo T w) (upd ch w (nI x)) b else b) n (bsD T S j (w + 1) p sum (upd ch w (-nI 1)) a)).1 = some m → m ≤ 792 := by
        intro n
        induction n with
        | zero => intro m hm; exact ih (by omega) (by omega) ha m hm
        | succ n ihn =>
          intro m hm
          have hm : (if tSen T n = tSen T own ∧ canD T p n = true then bsD T S j (w + 1) (drwP T p n) (sum + tWo T w) (upd ch w (nI n)) (itr (fun x b => if tSen T x = tSen T own ∧ canD T p x = true then bsD T S j (w + 1) (drwP T p x) (sum + tWo T w) (upd ch w (nI x)) b else b) n (bsD T S j (w + 1) p sum (upd ch w (-nI 1)) a)) else itr (fun x b => if tSen T x = tSen T own ∧ canD T p x = true then bsD T S j (w + 1) (drwP T p x) (sum + tWo T w) (upd ch w (nI x)) b else b) n (bsD T S j (w + 1) p sum (upd ch w (-nI 1)) a) : aB).1 = some m := hm
          split at hm
          · exact ih (by omega) (by omega) ihn m hm
          · exact ihn m hm
      exact this _ m hm
theorem x_like (ht : tOk T) (hT : XT T s) (hown : own < tW T) : ev (d + 1) 36 0 [.inr 6, .inl (nI own), .inr 0, .inr 0] [] s = some (0, nI (lik T own), s) := by
  have hW := ht.1
  have g := loopU (fun i a => ev (d + 1) 36 4 [.inr 6, .inl (nI own), .inl (nI a), .inl (nI i)] [] s) (fun x a => a + (if tSen T x = tSen T own then 1 else 0)) (tW T) (fun i a hi => by
    have b1 := (ht.2.2.1 i hi).2.2.1
    have b2 := (ht.2.2.1 own hown).2.2.1
    rw [E36_4, x_words hT]
    by_cases hz : tSen T i = tSen T own
    · simp (disch := omega) only [x_sense ht hT hi, x_sense ht hT hown, hz, E36_31, lit, nI_add, pk_mul, n_sub, n_addneg, nle_t, nle_f, nlt_t, nlt_f, neq_t, neq_f, n_inb, n_ix, bnd_some, if_true, if_false, ite_tt, ite_ff, not_true_eq_false, not_false_eq_true, eq_self, false_or, or_false, true_or, or_true]
    · simp (disch := omega) only [x_sense ht hT hi, x_sense ht hT hown, hz, E36_31, lit, nI_add, pk_mul, n_sub, n_addneg, nle_t, nle_f, nlt_t, nlt_f, neq_t, neq_f, n_inb, n_ix, bnd_some, if_true, if_false, ite_tt, ite_ff, not_true_eq_false, not_false_eq_true, eq_self, false_or, or_false, true_or, or_true]) 0
  rw [E36_0]
  simp only [lit]
  refine g.trans ?_
  rw [E36_4, x_words hT]
  simp (disch := omega) only [lit, nI_add, pk_mul, n_sub, n_addneg, nle_t, nle_f, nlt_t, nlt_f, neq_t, neq_f, n_inb, n_ix, bnd_some, if_true, if_false, ite_tt, ite_ff, not_true_eq_false, not_false_eq_true, eq_self, false_or, or_false, true_or, or_true]
  rfl
theorem lik_le (ht : tOk T) : lik T own ≤ 12 := by
  have := sm_le (f := fun x => if tSen T x = tSen T own then 1 else 0) (c := 1) (n := tW T) (fun x _ => by show (if tSen T x = tSen T own then 1 else 0) ≤ 1; split <;> omega)
  have hW := ht.1
  unfold lik; omega
theorem prW_mono (h : n ≤ x) : prW T S n ≤ prW T S x := by
  induction h with
  | refl => exact Nat.le_refl _
  | step h ih =>
    refine Nat.le_trans ih ?_
    rw [prW_s]
    split
    · rw [Nat.mul_one]; exact Nat.le_refl _
    · exact Nat.le_mul_of_pos_right _ (by omega)
theorem x_isSmall (ht : tOk T) (hT : XT T s) (ho : sOk T S B) (hc : XC T S (s 37)) : ev (d + 1 + 1) 35 0 [.inr 53, .inr 36, .inr 0, .inr 0] [] s = some (0, bI (decide (prW T S (tN T) ≤ 20000)), s) := by
  have hk : isK 36 := Or.inl rfl
  have hc : XC T S (s (mRf 36 1)) := hc
  have hN := ht.2.1
  have e57 : ∀ v, v < 2147483648 → ev (d + 1 + 1) 35 57 [.inr 0, .inr 0, .inl (nI v), .inr 0] [] s = some (0, bI (decide (v ≤ 20000)), s) := fun v hv => by
    rw [E35_57]
    by_cases hz : v ≤ 20000
    · rw [decide_eq_true hz]
      simp (disch := omega) only [E35_69, lit, nI_add, pk_mul, n_sub, n_addneg, nle_t, nle_f, nlt_t, nlt_f, neq_t, neq_f, n_inb, n_ix, bnd_some, if_true, if_false, ite_tt, ite_ff, not_true_eq_false, not_false_eq_true, eq_self, false_or, or_false, true_or, or_true]
      rfl
    · rw [decide_eq_false hz]
      simp (disch := omega) only [E35_69, lit, nI_add, pk_mul, n_sub, n_addneg, nle_t, nle_f, nlt_t, nlt_f, neq_t, neq_f, n_inb, n_ix, bnd_some, if_true, if_false, ite_tt, ite_ff, not_true_eq_false, not_false_eq_true, eq_self, false_or, or_false, true_or, or_true]
      rfl
  have loop : ∀ j n, n + j = tN T → prW T S n ≤ 300000 → ev (d + 1 + 1) 35 4 [.inr 0, .inr 36, .inl (nI (prW T S n)), .inl (nI n)] [] s = some (0, bI (decide (prW T S (tN T) ≤ 20000)), s) := by
    intro j
    induction j with
    | zero =>
      intro n hn hp
      have : n = tN T := by omega
      subst this
      rw [E35_4]
      simp (disch := omega) only [lit, x_place, bnd_some, if_true, x_walls hT, nle_t]
      exact e57 _ (by omega)
    | succ j ih =>
      intro n hn hp
      by_cases h2 : 20000 < prW T S n
      · have hm := prW_mono (T := T) (S := S) (n := n) (x := tN T) (by omega)
        rw [E35_4]
        simp (disch := omega) only [lit, x_place, bnd_some, if_true, x_walls hT, nle_f, if_false, nlt_t]
        rw [e57 _ (by omega), decide_eq_false (by omega), decide_eq_false (by omega)]
      · have eh := x_hasWord (d := d + 1) ht (ho.1 n) hk hc (show n < 8 by omega)
        have ew := x_wordOf (d := d + 1) hk hc (show n < 8 by omega)
        unfold isW at eh
        cases hs : sH S n with
        | none =>
          rw [hs] at eh
          have hp1 : prW T S (n + 1) = prW T S n * 1 := by rw [prW_s, hs]
          have r := ih (n + 1) (by omega) (by omega)
          rw [hp1] at r
          rw [E35_4]
          simp (disch := omega) only [lit, x_place, bnd_some, if_true, x_walls hT, nle_f, if_false, nlt_f, eh, Option.isSome, bIf0]
          rw [E35_49, pk_mul]
          simp only [lit, nI_add]
          exact r
        | some own =>
          rw [hs] at eh ew
          rw [oc_some] at ew
          have hown := (wOk_s (ho.1 n) hs).2.1
          have el := x_like (d := d) ht hT hown
          have hl := lik_le (own := own) ht
          have hp1 : prW T S (n + 1) = prW T S n * (1 + lik T own) := by rw [prW_s, hs]
          have hb : prW T S n * (1 + lik T own) ≤ 20000 * 13 := Nat.mul_le_mul (by omega) (by omega)
          have r := ih (n + 1) (by omega) (by omega)
          rw [hp1] at r
          rw [E35_4]
          simp (disch := omega) only [lit, x_place, bnd_some, if_true, x_walls hT, nle_f, if_false, nlt_f, eh, Option.isSome, bIt0, ew, el, nI_add]
          rw [E35_49, pk_mul]
          simp only [lit, nI_add]
          exact r
  rw [E35_0]
  simp only [lit]
  exact loop (tN T) 0 (by omega) (by show 1 ≤ 300000; omega)
/-- draw and put back -/
def XPo (p : Nat → Nat) (s : mS) : Prop := ∀ l, l < 10 → s 54 l = nI (p l) ∧ p l ≤ 20
theorem x_draw (ht : tOk T) (hT : XT T s) (hx : x < tW T) (hp : XPo p s) : if canD T p x = true then ∃ s', ev (d + 1) 41 0 [.inr 53, .inr 6, .inl (nI x), .inr 0] [] s = some (0, nI 1, s') ∧ XPo (drwP T p x) s' ∧ Eqx [54] s s' else ev (d + 1) 41 0 [.inr 53, .inr 6, .inl (nI x), .inr 0] [] s = some (0, nI 0, s) := by
  have hb3 := fun l => nd_le T x l
  have hb4 := (ht.2.2.1 x hx).2.1
  have outer := loopA (fun i => ev (d + 1) 41 2 [.inr 53, .inr 6, .inl (nI x), .inl (nI i)] [] s) (fun l => decide (nd T x l ≤ p l)) (some (0, nI 0, s)) 10 (fun l hl h => by
      have h := of_decide_eq_true h
      obtain ⟨g1, g2⟩ := hp l hl
      have := hb3 l
      rw [E41_2]
      simp (disch := omega) only [x_tneed ht hT hx hl, g1, lit, nI_add, pk_mul, n_sub, n_addneg, nle_t, nle_f, nlt_t, nlt_f, neq_t, neq_f, n_inb, n_ix, bnd_some, if_true, if_false, ite_tt, ite_ff, not_true_eq_false, not_false_eq_true, eq_self, false_or, or_false, true_or, or_true]) (fun l hl h => by
      have h := of_decide_eq_false h
      obtain ⟨g1, g2⟩ := hp l hl
      have := hb3 l
      rw [E41_2]
      simp (disch := omega) only [x_tneed ht hT hx hl, g1, lit, nI_add, pk_mul, n_sub, n_addneg, nle_t, nle_f, nlt_t, nlt_f, neq_t, neq_f, n_inb, n_ix, bnd_some, if_true, if_false, ite_tt, ite_ff, not_true_eq_false, not_false_eq_true, eq_self, false_or, or_false, true_or, or_true])
  have e0 : ev (d + 1) 41 0 [.inr 53, .inr 6, .inl (nI x), .inr 0] [] s = if canD T p x = true then ev (d + 1) 41 2 [.inr 53, .inr 6, .inl (nI x), .inl (nI 10)] [] s else some (0, nI 0, s) := by
    rw [E41_0]
    exact outer
  cases hc : canD T p x with
  | false =>
    rw [if_neg (show ¬ (false = true) by simp)]
    rw [hc, if_neg (show ¬ (false = true) by simp)] at e0
    exact e0
  | true =>
    rw [if_pos (show true = true from rfl)]
    rw [hc, if_pos (show true = true from rfl)] at e0
    have hall := allN_iff.mp hc
    have key : ∀ n, n ≤ 10 → ∃ s', ev (d + 1) 41 33 [.inr 53, .inr 6, .inl (nI x), .inl (nI 0)] [] s = ev (d + 1) 41 33 [.inr 53, .inr 6, .inl (nI x), .inl (nI n)] [] s' ∧ (∀ l, l < n → s' 54 l = nI (drwP T p x l)) ∧ (∀ l, n ≤ l → l < 10 → s' 54 l = nI (p l)) ∧ Eqx [54] s s' := by
      intro n
      induction n with
      | zero => intro _; exact ⟨s, rfl, fun l hl => by omega, fun l _ hl => (hp l hl).1, Eqx.rf⟩
      | succ n ih =>
        intro hn
        obtain ⟨s1, e1, i1, j1, q1⟩ := ih (by omega)
        have g1 := j1 n (Nat.le_refl _) (by omega)
        have hle := of_decide_eq_true (hall n (by omega))
        refine ⟨up s1 54 n (nI (drwP T p x n)), ?_, fun l hl => ?_, fun l h1 h2 => by rw [up_out (by omega)]; exact j1 l (by omega) h2, q1.up (by simp)⟩
        · rw [e1, E41_33]
          simp (disch := omega) only [lit, nle_f, if_false, n_inb, if_true, x_tneed ht (XT_q hT q1 (by decide)) hx (show n < 10 by omega), bnd_some, n_ix, g1, n_sub, nI_add]
          rfl
        · by_cases hz : l = n
          · subst hz; exact up_in
          · rw [up_out hz]; exact i1 l (by omega)
    obtain ⟨s', e1, i1, -, q1⟩ := key 10 (Nat.le_refl _)
    refine ⟨s', ?_, fun l hl => ⟨i1 l hl, ?_⟩, q1⟩
    · rw [e0, E41_2]
      simp (disch := omega) only [lit, nle_t, if_true]
      rw [e1, E41_33]
      simp (disch := omega) only [lit, nI_add, pk_mul, n_sub, n_addneg, nle_t, nle_f, nlt_t, nlt_f, neq_t, neq_f, n_inb, n_ix, bnd_some, if_true, if_false, ite_tt, ite_ff, not_true_eq_false, not_false_eq_true, eq_self, false_or, or_false, true_or, or_true]
    · have := (hp l hl).2
      unfold drwP; omega
theorem x_putBack (ht : tOk T) (hT : XT T s) (hx : x < tW T) (hc : canD T p x = true) (hp20 : ∀ l, l < 10 → p l ≤ 20) (hp : XPo (drwP T p x) s) : ∃ s', ev (d + 1) 42 0 [.inr 53, .inr 6, .inl (nI x), .inr 0] [] s = some (0, nI 0, s') ∧ XPo p s' ∧ Eqx [54] s s' := by
  have hall := allN_iff.mp hc
  have key : ∀ n, n ≤ 10 → ∃ s', ev (d + 1) 42 2 [.inr 53, .inr 6, .inl (nI x), .inl (nI 0)] [] s = ev (d + 1) 42 2 [.inr 53, .inr 6, .inl (nI x), .inl (nI n)] [] s' ∧ (∀ l, l < n → s' 54 l = nI (p l)) ∧ (∀ l, n ≤ l → l < 10 → s' 54 l = nI (drwP T p x l)) ∧ Eqx [54] s s' := by
    intro n
    induction n with
    | zero => intro _; exact ⟨s, rfl, fun l hl => by omega, fun l _ hl => (hp l hl).1, Eqx.rf⟩
    | succ n ih =>
      intro hn
      obtain ⟨s1, e1, i1, j1, q1⟩ := ih (by omega)
      have g1 := j1 n (Nat.le_refl _) (by omega)
      have hle := of_decide_eq_true (hall n (by omega))
      have hadd : drwP T p x n + nd T x n = p n := by unfold drwP; omega
      refine ⟨up s1 54 n (nI (p n)), ?_, fun l hl => ?_, fun l h1 h2 => by rw [up_out (by omega)]; exact j1 l (by omega) h2, q1.up (by simp)⟩
      · rw [e1, E42_2]
        simp (disch := omega) only [lit, nle_f, if_false, n_inb, if_true, x_tneed ht (XT_q hT q1 (by decide)) hx (show n < 10 by omega), bnd_some, n_ix, g1, nI_add, hadd]
      · by_cases hz : l = n
        · subst hz; exact up_in
        · rw [up_out hz]; exact i1 l (by omega)
  obtain ⟨s', e1, i1, -, q1⟩ := key 10 (Nat.le_refl _)
  refine ⟨s', ?_, fun l hl => ⟨i1 l hl, hp20 l hl⟩, q1⟩
  rw [E42_0, lit 0, e1, E42_2]
  simp (disch := omega) only [lit, nI_add, pk_mul, n_sub, n_addneg, nle_t, nle_f, nlt_t, nlt_f, neq_t, neq_f, n_inb, n_ix, bnd_some, if_true, if_false, ite_tt, ite_ff, not_true_eq_false, not_false_eq_true, eq_self, false_or, or_false, true_or, or_true]
/-- the search's state: the most so far, what was chosen -/
def XBs (T : aT) (a : aB) (s : mS) : Prop := s 53 4 = mI a.1 ∧ (a.1.isSome = true → ∀ k, k < tN T → s 56 k = a.2 k) ∧ ∀ m, a.1 = some m → m ≤ 792
def rQ : List Nat := [53, 54, 55, 56]
theorem mI_lt {m : Option Nat} {n : Nat} (h : ∀ k, m = some k → k ≤ 792) (hn : n < 2000) : (mI m < nI n) = (∀ k, m = some k → k < n) := by
  cases m with
  | none => exact (nnegl (by omega) (by omega) (by omega)).trans (eq_true (fun k hk => by cases hk)).symm
  | some k =>
    have := h k rfl
    refine propext ⟨fun z k' hk' => ?_, fun z => nI_lt (z k rfl) (by omega)⟩
    cases hk'
    by_cases hlt : k < n
    · exact hlt
    · exact absurd z (nI_nlt (by omega) (by omega))
theorem x_decide (ht : tOk T) (ho : sOk T S B) : ∀ j w (s : mS) p sum ch a, w + j = tN T → XT T s → XC T S (s 37) → (∀ v, v ≤ tN T → s 57 v = nI (wfT T S v)) → XPo p s → sum ≤ w * 99 → (∀ k, k < w → s 55 k = ch k) → XBs T a s → ∃ s', ev (d + 2 * j + 1 + 1 + 1) 39 0 [.inr 53, .inr 36, .inl (nI w), .inl (nI sum), .inr 0, .inr 0] [] s = some (0, nI 0, s') ∧ XPo p s' ∧ (∀ k, k < w → s' 55 k = ch k) ∧ XBs T (bsD T S j w p sum ch a) s' ∧ Eqx rQ s s' := by
  have hN := ht.2.1
  have hW := ht.1
  intro j
  induction j with
  | zero =>
    intro w s p sum ch a hj hT hc hwf hp hs hch hb
    have hw : w = tN T := by omega
    have e57 := hwf w (by omega)
    rw [hw, wfT_0] at e57
    obtain ⟨b1, b2, b3⟩ := hb
    have hlt := mI_lt (m := a.1) (n := sum) b3 (by omega)
    by_cases hz : ∀ k, a.1 = some k → k < sum
    · have hres : bsD T S 0 w p sum ch a = (some sum, ch) := by
        unfold bsD bsL
        cases h : a.1 with
        | none => rfl
        | some m => exact if_pos (hz m h)
      obtain ⟨g, hg⟩ : ∃ g, g = (fun k => if 0 ≤ k ∧ k < 0 + 8 then (up s 53 4 (nI sum)) 55 (0 + (k - 0)) else (up s 53 4 (nI sum)) 56 k) := ⟨_, rfl⟩
      have ec : cpA (up s 53 4 (nI sum)) 55 0 56 0 8 = setA (up s 53 4 (nI sum)) 56 g := by
        rw [hg]
        exact cpA_n (sp := 0) (dp := 0) (n := 8) (by omega) (by omega) (by omega)
      have qq : Eqx [53, 56] s (setA (up s 53 4 (nI sum)) 56 g) := (Eqx.rf.up (by simp)).set (by simp)
      refine ⟨_, ?_, fun l hl => by rw [qq _ (by decide)]; exact hp l hl, fun k hk => by rw [qq _ (by decide)]; exact hch k hk, ?_, qq.mono (by decide)⟩
      · rw [E39_0]
        rw [← hw] at e57
        simp (disch := omega) only [lit, n_inb, if_true, n_ix, e57, nI_add, Nat.add_zero, b1, hlt.trans (eq_true hz), x_place, bnd_some, x_walls hT, nlt_f, if_false]
        refine (if_pos ?_).trans (congrArg (fun z => some (0, nI 0, z)) ec)
        decide +kernel
      · rw [hres]
        refine ⟨by rw [setA_ne (by decide), up_in]; rfl, fun _ k hk => ?_, fun m hm => by cases hm; omega⟩
        rw [setA_at, hg]
        show (if 0 ≤ k ∧ k < 0 + 8 then (up s 53 4 (nI sum)) 55 (0 + (k - 0)) else _) = _
        rw [if_pos (by omega), up_ne (by decide), show 0 + (k - 0) = k by omega]
        exact hch k (by omega)
    · have hres : bsD T S 0 w p sum ch a = a := by
        cases h : a.1 with
        | none => exact absurd (fun k hk => by rw [h] at hk; cases hk) hz
        | some m =>
          refine bsD_cut hj h ?_
          rw [hw, wfT_0]
          by_cases hm : m < sum
          · exact absurd (fun k hk => by rw [h] at hk; cases hk; exact hm) hz
          · omega
      rw [hres]
      refine ⟨s, ?_, hp, hch, ⟨b1, b2, b3⟩, Eqx.rf⟩
      rw [E39_0]
      rw [← hw] at e57
      simp (disch := omega) only [lit, n_inb, if_true, n_ix, e57, nI_add, Nat.add_zero, b1, hlt.trans (eq_false hz), if_false]
  | succ j ih =>
    intro w s p sum ch a hj hT hc hwf hp hs hch hb
    have hw : w < tN T := by omega
    have hk : isK 36 := Or.inl rfl
    have e57 := hwf w (by omega)
    have hwl := wfT_le (S := S) ht (show w ≤ tN T by omega)
    have hwo := (ht.2.2.2 w hw).2.1
    obtain ⟨b1, b2, b3⟩ := hb
    have hlt := mI_lt (m := a.1) (n := sum + wfT T S w) b3 (by omega)
    have hp20 : ∀ l, l < 10 → p l ≤ 20 := fun l hl => (hp l hl).2
    by_cases hz : ∀ k, a.1 = some k → k < sum + wfT T S w
    · -- the wall's choice is none
      obtain ⟨s1, hs1⟩ : ∃ s1, s1 = up s 55 w (-nI 1) := ⟨_, rfl⟩
      have q1 : Eqx rQ s s1 := by rw [hs1]; exact Eqx.rf.up (by decide)
      have chn : ∀ (c : Int32) (s1 : mS), (∀ k, k < w → s1 55 k = ch k) → s1 55 w = c → ∀ k, k < w + 1 → s1 55 k = upd ch w c k := fun c s1 h1 h2 k hk => by
        by_cases hkw : k = w
        · subst hkw; rw [upd_eq rfl]; exact h2
        · rw [upd_ne hkw]; exact h1 k (by omega)
      obtain ⟨s2, e2, p2, c2, x2, q2⟩ := ih (w + 1) s1 p sum (upd ch w (-nI 1)) a (by omega) (XT_q hT q1 (by decide)) (by rw [q1 _ (by decide)]; exact hc) (fun v hv => by rw [q1 _ (by decide)]; exact hwf v hv) (fun l hl => by rw [hs1, up_ne (by decide)]; exact hp l hl) (by omega) (chn _ _ (fun k hk => by rw [hs1, up_out (by omega)]; exact hch k hk) (by rw [hs1, up_in])) ⟨by rw [hs1, up_ne (by decide)]; exact b1, fun h k hk => by rw [hs1, up_ne (by decide)]; exact b2 h k hk, b3⟩
      have eb2 : ev (d + 2 * (j + 1) + 1 + 1) 40 0 [.inr 53, .inr 36, .inl (nI w), .inl (nI sum)] [] s1 = some (0, nI 0, s2) := by
        have e2 : ev (d + 2 * (j + 1) + 1) 39 0 [.inr 53, .inr 36, .inl (nI (w + 1)), .inl (nI sum), .inr 0, .inr 0] [] s1 = some (0, nI 0, s2) := e2
        rw [E40_0]
        simp only [lit, nI_add, e2, bnd_some]
      have qa := q1.tr q2
      have hT2 := XT_q hT qa (by decide)
      have hc2 : XC T S (s2 37) := by rw [qa _ (by decide)]; exact hc
      have hc2k : XC T S (s2 (mRf 36 1)) := hc2
      have eh := x_hasWord (d := d + 2 * (j + 1) + 1 + 1) ht (ho.1 w) hk hc2k (show w < 8 by omega)
      have ew := x_wordOf (d := d + 2 * (j + 1) + 1 + 1) hk hc2k (show w < 8 by omega)
      unfold isW at eh
      -- up to the words
      have start : ∀ r, (match sH S w with
          | none => some (0, nI 0, s2)
          | some own => ev (d + 2 * (j + 1) + 1 + 1 + 1) 39 87 [.inr 53, .inr 36, .inl (nI w), .inl (nI sum), .inl (nI (tSen T own)), .inl (nI 0)] [] s2) = r → ev (d + 2 * (j + 1) + 1 + 1 + 1) 39 0 [.inr 53, .inr 36, .inl (nI w), .inl (nI sum), .inr 0, .inr 0] [] s = r := fun r hr => by
        rw [← hr, E39_0]
        simp (disch := omega) only [lit, n_inb, if_true, n_ix, e57, nI_add, b1, hlt.trans (eq_true hz), x_place, bnd_some, x_walls hT, nlt_t]
        rw [← hs1]
        simp only [eb2, bnd_some, eh]
        cases hn : sH S w with
        | none =>
          simp only [Option.isSome, bIf0, if_true]
          rw [E39_166]
          rfl
        | some own =>
          rw [hn, oc_some] at ew
          have hown := (wOk_s (ho.1 w) hn).2.1
          simp only [Option.isSome, bIt0, if_false, ew, bnd_some, x_sense ht hT2 hown]
      unfold bsD
      cases hn : sH S w with
      | none =>
        refine ⟨s2, start _ (by rw [hn]), p2, fun k hk => ?_, x2, qa⟩
        rw [c2 k (by omega), upd_ne (by omega)]
      | some own =>
        have hown := (wOk_s (ho.1 w) hn).2.1
        have b10 := (ht.2.2.1 own hown).2.2.1
        dsimp only
        have key : ∀ n, n ≤ tW T → ∃ s3, ev (d + 2 * (j + 1) + 1 + 1 + 1) 39 87 [.inr 53, .inr 36, .inl (nI w), .inl (nI sum), .inl (nI (tSen T own)), .inl (nI 0)] [] s2 = ev (d + 2 * (j + 1) + 1 + 1 + 1) 39 87 [.inr 53, .inr 36, .inl (nI w), .inl (nI sum), .inl (nI (tSen T own)), .inl (nI n)] [] s3 ∧ XPo p s3 ∧ (∀ k, k < w → s3 55 k = ch k) ∧ XBs T (itr (fun x b => if tSen T x = tSen T own ∧ canD T p x = true then bsD T S j (w + 1) (drwP T p x) (sum + tWo T w) (upd ch w (nI x)) b else b) n (bsD T S j (w + 1) p sum (upd ch w (-nI 1)) a)) s3 ∧ Eqx rQ s s3 := by
          intro n
          induction n with
          | zero => intro _; exact ⟨s2, rfl, p2, fun k hk => by rw [c2 k (by omega), upd_ne (by omega)], x2, qa⟩
          | succ n ihn =>
            intro hn1
            obtain ⟨s3, e3, p3, c3, x3, q3⟩ := ihn (by omega)
            have hT3 := XT_q hT q3 (by decide)
            have hxn : n < tW T := by omega
            have b11 := (ht.2.2.1 n hxn).2.2.1
            have es := x_sense (d := d + 2 * (j + 1) + 1 + 1) ht hT3 hxn
            have e160 : ∀ r, ev (d + 2 * (j + 1) + 1 + 1 + 1) 39 160 [.inr 53, .inr 36, .inl (nI w), .inl (nI sum), .inl (nI (tSen T own)), .inl (nI n)] [] r = ev (d + 2 * (j + 1) + 1 + 1 + 1) 39 87 [.inr 53, .inr 36, .inl (nI w), .inl (nI sum), .inl (nI (tSen T own)), .inl (nI (n + 1))] [] r := fun r => by
              rw [E39_160]
              simp only [lit, nI_add]
            generalize hgb : itr (fun x b => if tSen T x = tSen T own ∧ canD T p x = true then bsD T S j (w + 1) (drwP T p x) (sum + tWo T w) (upd ch w (nI x)) b else b) n (bsD T S j (w + 1) p sum (upd ch w (-nI 1)) a) = b at x3
            have hst : itr (fun x b => if tSen T x = tSen T own ∧ canD T p x = true then bsD T S j (w + 1) (drwP T p x) (sum + tWo T w) (upd ch w (nI x)) b else b) (n + 1) (bsD T S j (w + 1) p sum (upd ch w (-nI 1)) a) = if tSen T n = tSen T own ∧ canD T p n = true then bsD T S j (w + 1) (drwP T p n) (sum + tWo T w) (upd ch w (nI n)) b else b := by rw [← hgb]; rfl
            rw [hst]
            by_cases hsn : tSen T n = tSen T own
            · have ed := x_draw (d := d + 2 * (j + 1) + 1) ht hT3 hxn p3
              cases hcd : canD T p n with
              | false =>
                rw [hcd, if_neg (show ¬ (false = true) by simp)] at ed
                rw [if_neg (show ¬ (tSen T n = tSen T own ∧ false = true) from fun z => by cases z.2)]
                refine ⟨s3, ?_, p3, c3, x3, q3⟩
                rw [e3, E39_87]
                simp (disch := omega) only [lit, x_place, bnd_some, if_true, x_words hT3, nle_f, if_false, es, hsn, not_true_eq_false, ed, e160]
              | true =>
                rw [hcd, if_pos (show true = true from rfl)] at ed
                rw [if_pos (show tSen T n = tSen T own ∧ true = true from ⟨hsn, rfl⟩)]
                obtain ⟨s4, e4, p4, q4⟩ := ed
                obtain ⟨s5, hs5⟩ : ∃ s5, s5 = up s4 55 w (nI n) := ⟨_, rfl⟩
                have q5 : Eqx rQ s s5 := by rw [hs5]; exact (q3.tr (q4.mono (by decide))).up (by decide)
                have ewo := x_worth (d := d + 2 * (j + 1) + 1 + 1) ht (XT_q hT q5 (by decide)) hw
                obtain ⟨s6, e6, p6, c6, x6, q6⟩ := ih (w + 1) s5 (drwP T p n) (sum + tWo T w) (upd ch w (nI n)) b (by omega) (XT_q hT q5 (by decide)) (by rw [q5 _ (by decide)]; exact hc) (fun v hv => by rw [q5 _ (by decide)]; exact hwf v hv) (fun l hl => by rw [hs5, up_ne (by decide)]; exact p4 l hl) (by omega) (chn _ _ (fun k hk => by rw [hs5, up_out (by omega), q4 _ (by decide)]; exact c3 k hk) (by rw [hs5, up_in])) ⟨by rw [hs5, up_ne (by decide), q4 _ (by decide)]; exact x3.1, fun h k hk => by rw [hs5, up_ne (by decide), q4 _ (by decide)]; exact x3.2.1 h k hk, x3.2.2⟩
                have qb := q5.tr q6
                have eb6 : ev (d + 2 * (j + 1) + 1 + 1) 40 0 [.inr 53, .inr 36, .inl (nI w), .inl (nI (sum + tWo T w))] [] s5 = some (0, nI 0, s6) := by
                  have e6 : ev (d + 2 * (j + 1) + 1) 39 0 [.inr 53, .inr 36, .inl (nI (w + 1)), .inl (nI (sum + tWo T w)), .inr 0, .inr 0] [] s5 = some (0, nI 0, s6) := e6
                  rw [E40_0]
                  simp only [lit, nI_add, e6, bnd_some]
                obtain ⟨s7, e7, p7, q7⟩ := x_putBack (d := d + 2 * (j + 1) + 1) (p := p) ht (XT_q hT qb (by decide)) hxn hcd hp20 p6
                refine ⟨s7, ?_, p7, fun k hk => ?_, ⟨by rw [q7 _ (by decide)]; exact x6.1, fun h k hk => by rw [q7 _ (by decide)]; exact x6.2.1 h k hk, x6.2.2⟩, qb.tr (q7.mono (by decide))⟩
                · rw [e3, E39_87]
                  simp (disch := omega) only [lit, x_place, bnd_some, if_true, x_words hT3, nle_f, if_false, es, hsn, not_true_eq_false, e4, neq_f, n_inb, n_ix]
                  rw [← hs5]
                  simp only [x_place, bnd_some, if_true, ewo, nI_add, eb6, e7, e160]
                · rw [q7 _ (by decide), c6 k (by omega), upd_ne (by omega)]
            · rw [if_neg (show ¬ (tSen T n = tSen T own ∧ canD T p n = true) from fun z => hsn z.1)]
              refine ⟨s3, ?_, p3, c3, x3, q3⟩
              rw [e3, E39_87]
              simp (disch := omega) only [lit, x_place, bnd_some, if_true, x_words hT3, nle_f, if_false, es, neq_f, not_false_eq_true, e160]
        obtain ⟨s3, e3, p3, c3, x3, q3⟩ := key (tW T) (Nat.le_refl _)
        refine ⟨s3, start _ ?_, p3, c3, x3, q3⟩
        rw [hn]
        dsimp only
        rw [e3, E39_87]
        simp (disch := omega) only [lit, x_place, bnd_some, if_true, x_words (XT_q hT q3 (by decide)), nle_t]
        rw [E39_166]
        rfl
    · have hres : bsD T S (j + 1) w p sum ch a = a := by
        cases h : a.1 with
        | none => exact absurd (fun k hk => by rw [h] at hk; cases hk) hz
        | some m =>
          refine bsD_cut hj h ?_
          by_cases hm : m < sum + wfT T S w
          · exact absurd (fun k hk => by rw [h] at hk; cases hk; exact hm) hz
          · omega
      rw [hres]
      refine ⟨s, ?_, hp, hch, ⟨b1, b2, b3⟩, Eqx.rf⟩
      rw [E39_0]
      simp (disch := omega) only [lit, n_inb, if_true, n_ix, e57, nI_add, b1, hlt.trans (eq_false hz), if_false]
end XBE
