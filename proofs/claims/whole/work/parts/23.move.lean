/-! LETTERS GO: the abstract moves and the class's -/
def uG (G : Nat → Nat → Nat) (w l b : Nat) : Nat → Nat → Nat := fun w' l' => if w' = w ∧ l' = l then b else G w' l'
def mvS (S : aS) (w l a b : Nat) : aS := (fun k => if k = l then a else sL S k, sH S, uG (sG S) w l b, sQ S, sU S, sK S)
def takeL (T : aT) (S : aS) (w l : Nat) : aS := mvS S w l (sL S l - min (lck T S w l) (sL S l)) (sG S w l + min (lck T S w l) (sL S l))
def takeW (T : aT) (S : aS) (w : Nat) : aS := itr (fun l S => takeL T S w l) 10 S
def bringL (S : aS) (w l : Nat) : aS := mvS S w l (sL S l + sG S w l) 0
def uO {α : Type} (f : Nat → α) (w : Nat) (v : α) : Nat → α := fun k => if k = w then v else f k
/-- a wall's word, q, u -/
def wdS (S : aS) (w : Nat) (h : Option Nat) : aS := (sL S, uO (sH S) w h, sG S, uO (sQ S) w 0, uO (sU S) w 0, sK S)
def bringAllS (S : aS) (w : Nat) : aS := itr (fun l S => bringL S w l) 10 S
def bringW (S : aS) (w : Nat) : aS := wdS (bringAllS S w) w none
def hangW (S : aS) (w x : Nat) : aS := wdS (bringAllS S w) w (some x)
def lendW (S : aS) (f t l : Nat) : aS := mvS (mvS S f l (sL S l + 1) (sG S f l - 1)) t l (sL S l) (sG S t l + 1)
section XMV
variable {d k w l B a b m : Nat} {s : mS} {T : aT} {S : aS} {c : Nat → Int32} {n : Int32}
theorem mvS_L {l' : Nat} : sL (mvS S w l a b) l' = if l' = l then a else sL S l' := rfl
theorem mvS_H : sH (mvS S w l a b) = sH S := rfl
theorem mvS_G {w' l' : Nat} : sG (mvS S w l a b) w' l' = if w' = w ∧ l' = l then b else sG S w' l' := rfl
theorem mvS_Q : sQ (mvS S w l a b) = sQ S := rfl
theorem mvS_U : sU (mvS S w l a b) = sU S := rfl
theorem mvS_K : sK (mvS S w l a b) = sK S := rfl
theorem mvS_hgs (hl : l < 10) : hgs (mvS S w l a b) w + sG S w l = hgs S w + b := by
  unfold hgs
  have e : sm (sG (mvS S w l a b) w) 10 = sm (fun k => if k = l then b else sG S w k) 10 := sm_cong (fun i _ => by
    rw [mvS_G]
    by_cases hi : i = l
    · rw [if_pos ⟨rfl, hi⟩, if_pos hi]
    · rw [if_neg (fun z => hi z.2), if_neg hi])
  rw [e]
  exact sm_upd hl
theorem mvS_hgs' {w' : Nat} (h : w' ≠ w) : hgs (mvS S w l a b) w' = hgs S w' := sm_cong (fun i _ => by rw [mvS_G, if_neg (fun z => h z.1)])
theorem mvS_left (hl : l < 10) : sm (sL (mvS S w l a b)) 10 + sL S l = sm (sL S) 10 + a := sm_upd hl
theorem mvS_hal {l' : Nat} (h : l' ≠ l) : hal (mvS S w l a b) l' = hal S l' := sm_cong (fun i _ => by rw [mvS_G, if_neg (fun z => h z.2)])
theorem mvS_halw (hw : w < 8) : hal (mvS S w l a b) l + sG S w l = hal S l + b := by
  unfold hal
  have e : sm (fun w' => sG (mvS S w l a b) w' l) 8 = sm (fun k => if k = w then b else sG S k l) 8 := sm_cong (fun i _ => by
    rw [mvS_G]
    by_cases hi : i = w
    · rw [if_pos ⟨hi, rfl⟩, if_pos hi]
    · rw [if_neg (fun z => hi z.1), if_neg hi])
  rw [e]
  exact sm_upd (f := fun k => sG S k l) hw
/-- a good state stays good, if the letters add up and the wall has them by its word -/
theorem mvS_ok (ht : tOk T) (h : sOk T S B) (hw : w < 8) (hs : a + b = sL S l + sG S w l) (hb : match sH S w with
    | none => b = 0
    | some x => b ≤ nd T x l) : sOk T (mvS S w l a b) B := by
  obtain ⟨h1, h2, h3⟩ := h
  refine ⟨fun w' => ?_, fun l' hl' => ?_, h3⟩
  · have h4 := h1 w'
    unfold wOk at h4 ⊢
    rw [mvS_H, mvS_Q, mvS_U, mvS_K]
    by_cases hww : w' = w
    · subst hww
      cases hn : sH S w' with
      | none =>
        rw [hn] at h4 hb
        refine ⟨fun l' => ?_, h4.2.1, h4.2.2⟩
        rw [mvS_G]
        split
        · exact hb
        · exact h4.1 l'
      | some x =>
        rw [hn] at h4 hb
        refine ⟨h4.1, h4.2.1, fun l' => ?_, h4.2.2.2.1, h4.2.2.2.2⟩
        rw [mvS_G]
        split
        · next z => rw [z.2]; exact hb
        · exact h4.2.2.1 l'
    · cases hn : sH S w' with
      | none =>
        rw [hn] at h4
        exact ⟨fun l' => by rw [mvS_G, if_neg (fun z => hww z.1)]; exact h4.1 l', h4.2.1, h4.2.2⟩
      | some x =>
        rw [hn] at h4
        exact ⟨h4.1, h4.2.1, fun l' => by rw [mvS_G, if_neg (fun z => hww z.1)]; exact h4.2.2.1 l', h4.2.2.2.1, h4.2.2.2.2⟩
  · have h5 := h2 l' hl'
    unfold stk at h5 ⊢
    by_cases hll : l' = l
    · subst hll
      have h6 := mvS_halw (S := S) (l := l') (a := a) (b := b) hw
      rw [mvS_L, if_pos rfl]
      omega
    · rw [mvS_hal hll, mvS_L, if_neg hll]
      exact h5
def mvC (c : Nat → Int32) (w l : Nat) (n : Int32) : Nat → Int32 := upd (upd (upd (upd c (32 + l) (c (32 + l) - n)) 42 (c 42 - n)) (44 + w * 10 + l) (c (44 + w * 10 + l) + n)) (8 + w) (c (8 + w) - n)
theorem up_set {a i : Nat} {v : Int32} : up s a i v = setA s a (upd (s a) i v) := rfl
theorem upd_eq {f : Nat → Int32} {i j : Nat} {v : Int32} (h : j = i) : upd f i v j = v := by rw [h]; exact pk_us
theorem upd_ne {f : Nat → Int32} {i j : Nat} {v : Int32} (h : j ≠ i) : upd f i v j = f j := pk_un h
theorem x_move (hk : isK k) (hw : w < 8) (hl : l < 10) : ev d 115 0 [.inr k, .inl (nI w), .inl (nI l), .inl n] [] s = some (0, nI 0, setA s (mRf k 1) (mvC (s (mRf k 1)) w l n)) := by
  rw [E115_0 (hk0 := hk)]
  simp (disch := omega) only [up_set, setA_at, setA_twice, upd_ne, lit, nI_add, pk_mul, n_sub, n_addneg, nle_t, nle_f, nlt_t, nlt_f, neq_t, neq_f, n_inb, n_ix, bnd_some, if_true, if_false, ite_tt, ite_ff, not_true_eq_false, not_false_eq_true, eq_self, false_or, or_false, true_or, or_true]
  rfl
theorem XC_move (hc : XC T S c) (hw : w < 8) (hl : l < 10) (h1 : nI (sL S l) - n = nI a) (h2 : nI (sG S w l) + n = nI b) (h3 : nI (sm (sL S) 10) - n = nI (sm (sL (mvS S w l a b)) 10)) (h4 : nI (mis T S w) - n = nI (mis T (mvS S w l a b) w)) : XC T (mvS S w l a b) (mvC c w l n) := by
  obtain ⟨c1, c2, c3, c4⟩ := hc
  obtain ⟨w1, w2, w3, w4, w5⟩ := c1 w hw
  refine ⟨fun w' hw' => ⟨?_, ?_, ?_, ?_, fun l' hl' => ?_⟩, fun l' hl' => ?_, ?_, ?_⟩
  · unfold mvC
    rw [upd_ne (by omega), upd_ne (by omega), upd_ne (by omega), upd_ne (by omega)]
    exact (c1 w' hw').1
  · unfold mvC
    by_cases hww : w' = w
    · subst hww
      rw [upd_eq rfl, w2, h4]
    · rw [upd_ne (by omega), upd_ne (by omega), upd_ne (by omega), upd_ne (by omega), (c1 w' hw').2.1]
      unfold mis
      rw [mvS_H, mvS_hgs' hww]
  · unfold mvC
    rw [upd_ne (by omega), upd_ne (by omega), upd_ne (by omega), upd_ne (by omega)]
    exact (c1 w' hw').2.2.1
  · unfold mvC
    rw [upd_ne (by omega), upd_ne (by omega), upd_ne (by omega), upd_ne (by omega)]
    exact (c1 w' hw').2.2.2.1
  · unfold mvC
    rw [upd_ne (by omega), mvS_G]
    by_cases hz : w' = w ∧ l' = l
    · rw [if_pos hz, upd_eq (by rw [hz.1, hz.2]), w5 l hl, h2]
    · rw [if_neg hz, upd_ne (by omega), upd_ne (by omega), upd_ne (by omega)]
      exact (c1 w' hw').2.2.2.2 l' hl'
  · unfold mvC
    rw [upd_ne (by omega), upd_ne (by omega), upd_ne (by omega), mvS_L]
    by_cases hz : l' = l
    · rw [if_pos hz, upd_eq (by rw [hz]), c2 l hl, h1]
    · rw [if_neg hz, upd_ne (by omega)]
      exact c2 l' hl'
  · unfold mvC
    rw [upd_ne (by omega), upd_ne (by omega), upd_eq rfl, c3, h3]
  · unfold mvC
    rw [upd_ne (by omega), upd_ne (by omega), upd_ne (by omega), upd_ne (by omega)]
    exact c4
/-- m letters go from the chest to a wall with a word -/
theorem XC_give (ht : tOk T) (h : sOk T S B) (hc : XC T S c) (hw : w < 8) (hl : l < 10) (h1 : m ≤ sL S l) (h2 : m ≤ lck T S w l) : XC T (mvS S w l (sL S l - m) (sG S w l + m)) (mvC c w l (nI m)) ∧ sOk T (mvS S w l (sL S l - m) (sG S w l + m)) B := by
  have hok : sOk T (mvS S w l (sL S l - m) (sG S w l + m)) B := mvS_ok ht h hw (by omega) (by
    have h3 := h.1 w
    unfold lck at h2
    cases hn : sH S w with
    | none =>
      rw [hn] at h2
      have := (wOk_n h3 hn).1 l
      show sG S w l + m = 0
      have : m ≤ 0 := h2
      omega
    | some x =>
      rw [hn] at h2
      have := (wOk_s h3 hn).2.2.1 l
      have h2 : m ≤ nd T x l - sG S w l := h2
      show sG S w l + m ≤ nd T x l
      omega)
  refine ⟨XC_move hc hw hl (pk_sub h1) (nI_add _ _) ?_ ?_, hok⟩
  · have e := mvS_left (S := S) (w := w) (a := sL S l - m) (b := sG S w l + m) hl
    have := sm_one (f := sL S) hl
    rw [pk_sub (by omega)]
    congr 1
    omega
  · have e := mvS_hgs (S := S) (w := w) (a := sL S l - m) (b := sG S w l + m) hl
    unfold lck at h2
    unfold mis
    rw [mvS_H]
    cases hn : sH S w with
    | none =>
      rw [hn] at h2
      have : m = 0 := Nat.le_zero.mp h2
      subst this
      show nI 0 - nI 0 = nI 0
      rw [pk_sub (Nat.le_refl _)]
    | some x =>
      have e2 := hgs_len ht (hok.1 w) (show sH (mvS S w l (sL S l - m) (sG S w l + m)) w = some x from hn)
      show nI (tLen T x - hgs S w) - nI m = nI (tLen T x - hgs (mvS S w l (sL S l - m) (sG S w l + m)) w)
      rw [pk_sub (by omega)]
      congr 1
      omega
/-- m letters go back -/
theorem XC_back (ht : tOk T) (h : sOk T S B) (hc : XC T S c) (hw : w < 8) (hl : l < 10) (h1 : m ≤ sG S w l) : XC T (mvS S w l (sL S l + m) (sG S w l - m)) (mvC c w l (-nI m)) ∧ sOk T (mvS S w l (sL S l + m) (sG S w l - m)) B := by
  have hok : sOk T (mvS S w l (sL S l + m) (sG S w l - m)) B := mvS_ok ht h hw (by omega) (by
    have h3 := h.1 w
    cases hn : sH S w with
    | none =>
      have := (wOk_n h3 hn).1 l
      show sG S w l - m = 0
      omega
    | some x =>
      have := (wOk_s h3 hn).2.2.1 l
      show sG S w l - m ≤ nd T x l
      omega)
  have sn : ∀ x : Nat, nI x - -nI m = nI (x + m) := fun x => by rw [Int32.sub_eq_add_neg, Int32.neg_neg, nI_add]
  refine ⟨XC_move hc hw hl (sn _) (n_addneg h1) ?_ ?_, hok⟩
  · have e := mvS_left (S := S) (w := w) (a := sL S l + m) (b := sG S w l - m) hl
    rw [sn]
    congr 1
    omega
  · have e := mvS_hgs (S := S) (w := w) (a := sL S l + m) (b := sG S w l - m) hl
    rw [sn]
    unfold mis
    rw [mvS_H]
    cases hn : sH S w with
    | none =>
      have := (wOk_n (h.1 w) hn).1 l
      show nI (0 + m) = nI 0
      congr 1
      omega
    | some x =>
      have e2 := hgs_len ht (h.1 w) hn
      show nI (tLen T x - hgs S w + m) = nI (tLen T x - hgs (mvS S w l (sL S l + m) (sG S w l - m)) w)
      congr 1
      omega
theorem mmin_n {a b : Nat} (ha : a < 2147483648) (hb : b < 2147483648) : mmin (nI a) (nI b) = nI (min a b) := by
  unfold mmin
  by_cases h : b < a
  · rw [if_pos (nI_lt h (by omega)), Nat.min_eq_right (by omega)]
  · rw [if_neg (nI_nlt (by omega) (by omega)), Nat.min_eq_left (by omega)]
theorem mmax_n {a b : Nat} (ha : a < 2147483648) (hb : b < 2147483648) : mmax (nI a) (nI b) = nI (max a b) := by
  unfold mmax
  by_cases h : a < b
  · rw [if_pos (nI_lt h (by omega)), Nat.max_eq_right (by omega)]
  · rw [if_neg (nI_nlt (by omega) (by omega)), Nat.max_eq_left (by omega)]
theorem XT_set {a : Nat} {f : Nat → Int32} (hT : XT T s) (ha : 15 < a) : XT T (setA s a f) := by
  obtain ⟨h1, h2, h3, h4⟩ := hT
  refine ⟨by rw [setA_ne (by omega)]; exact h1, by rw [setA_ne (by omega)]; exact h2, fun x hx => ?_, fun w hw => ?_⟩
  · rw [setA_ne (by omega), setA_ne (by omega), setA_ne (by omega), setA_ne (by omega)]; exact h3 x hx
  · rw [setA_ne (by omega), setA_ne (by omega)]; exact h4 w hw
theorem mRf_big (hk : isK k) : 15 < mRf k 1 := by
  rcases mRf_k hk with h | h <;> rw [h] <;> decide
/-- take(): the class's -/
theorem x_take (ht : tOk T) (hT : XT T s) (h : sOk T S B) (hk : isK k) (hc : XC T S (s (mRf k 1))) (hw : w < 8) : ∃ c', ev (d + 1 + 1) 117 0 [.inr k, .inl (nI w), .inr 0] [] s = some (0, nI (mis T (takeW T S w) w), setA s (mRf k 1) c') ∧ XC T (takeW T S w) c' ∧ sOk T (takeW T S w) B := by
  rw [E117_0 (hk0 := hk)]
  have key : ∀ n, n ≤ 10 → ∃ c', ev (d + 1 + 1) 117 2 [.inr k, .inl (nI w), .inl (nI 0)] [] s = ev (d + 1 + 1) 117 2 [.inr k, .inl (nI w), .inl (nI n)] [] (setA s (mRf k 1) c') ∧ XC T (itr (fun l S => takeL T S w l) n S) c' ∧ sOk T (itr (fun l S => takeL T S w l) n S) B := by
    intro n
    induction n with
    | zero => intro _; exact ⟨s (mRf k 1), by rw [setA_same], hc, h⟩
    | succ n ih =>
      intro hn
      obtain ⟨c1, e1, i1, o1⟩ := ih (by omega)
      have hc1 : XC T (itr (fun l S => takeL T S w l) n S) ((setA s (mRf k 1) c1) (mRf k 1)) := by rw [setA_at]; exact i1
      have hT1 := XT_set (f := c1) hT (mRf_big hk)
      have b1 := lck_le (l := n) ht (o1.1 w)
      have b2 := (hal_le (l := n) o1 (by omega)).2
      have g := XC_give (l := n) ht o1 i1 hw (by omega) (Nat.min_le_right (lck T (itr (fun l S => takeL T S w l) n S) w n) (sL (itr (fun l S => takeL T S w l) n S) n)) (Nat.min_le_left _ _)
      refine ⟨_, ?_, g.1, g.2⟩
      rw [e1, E117_2 (hk0 := hk)]
      simp (disch := omega) only [x_lack ht hT1 (o1.1 w) hk hc1 hw, x_inChest hk hc1, mmin_n, x_move hk hw, setA_at, setA_twice, lit, nI_add, pk_mul, n_sub, n_addneg, nle_t, nle_f, nlt_t, nlt_f, neq_t, neq_f, n_inb, n_ix, bnd_some, if_true, if_false, ite_tt, ite_ff, not_true_eq_false, not_false_eq_true, eq_self, false_or, or_false, true_or, or_true]
  obtain ⟨c', e1, i1, o1⟩ := key 10 (Nat.le_refl _)
  refine ⟨c', ?_, i1, o1⟩
  have hc1 : XC T (takeW T S w) ((setA s (mRf k 1) c') (mRf k 1)) := by rw [setA_at]; exact i1
  rw [lit 0, e1, E117_2 (hk0 := hk)]
  simp (disch := omega) only [x_missing hk hc1 hw, lit, nI_add, pk_mul, n_sub, n_addneg, nle_t, nle_f, nlt_t, nlt_f, neq_t, neq_f, n_inb, n_ix, bnd_some, if_true, if_false, ite_tt, ite_ff, not_true_eq_false, not_false_eq_true, eq_self, false_or, or_false, true_or, or_true]
end XMV
