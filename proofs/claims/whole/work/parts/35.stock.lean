/-! NOTHING OF A STOCK IS LOST -/
section XSK
variable {w l B a b x f t n c : Nat} {T : aT} {S : aS} {φ : aR}
theorem stk_mv {l' : Nat} (hw : w < 8) (hs : a + b = sL S l + sG S w l) : stk (mvS S w l a b) l' = stk S l' := by
  unfold stk
  rw [mvS_L]
  by_cases h : l' = l
  · subst h
    have := mvS_halw (S := S) (l := l') (a := a) (b := b) hw
    rw [if_pos rfl]
    omega
  · rw [if_neg h, mvS_hal h]
theorem stk_takeW {l' : Nat} (hw : w < 8) : stk (takeW T S w) l' = stk S l' := by
  have : ∀ n, stk (itr (fun l S => takeL T S w l) n S) l' = stk S l' := by
    intro n
    induction n with
    | zero => rfl
    | succ n ih =>
      refine Eq.trans ?_ ih
      show stk (takeL T (itr (fun l S => takeL T S w l) n S) w n) l' = _
      generalize itr (fun l S => takeL T S w l) n S = X
      refine stk_mv hw ?_
      have := Nat.min_le_right (lck T X w n) (sL X n)
      omega
  exact this 10
theorem stk_bringAll {l' : Nat} (hw : w < 8) : stk (bringAllS S w) l' = stk S l' := by
  have : ∀ n, stk (itr (fun l S => bringL S w l) n S) l' = stk S l' := by
    intro n
    induction n with
    | zero => rfl
    | succ n ih =>
      refine Eq.trans ?_ ih
      show stk (bringL (itr (fun l S => bringL S w l) n S) w n) l' = _
      generalize itr (fun l S => bringL S w l) n S = X
      exact stk_mv hw (by omega)
  exact this 10
theorem stk_bringW {l' : Nat} (hw : w < 8) : stk (bringW S w) l' = stk S l' := stk_bringAll hw
theorem stk_hangW {l' : Nat} (hw : w < 8) : stk (hangW S w x) l' = stk S l' := stk_bringAll hw
theorem stk_lendW {l' : Nat} (hf : f < 8) (ht : t < 8) (hft : f ≠ t) (h1 : 0 < sG S f l) : stk (lendW S f t l) l' = stk S l' := by
  have e : stk (mvS S f l (sL S l + 1) (sG S f l - 1)) l' = stk S l' := stk_mv hf (by omega)
  refine Eq.trans ?_ e
  refine stk_mv ht ?_
  rw [mvS_L, if_pos rfl, mvS_G, if_neg (fun z => hft z.1.symm)]
  omega
theorem stk_trn {l' : Nat} {done : Nat → Bool} : stk (trn T φ n done S c).1 l' = stk S l' := by
  induction n generalizing S done c with
  | zero => rfl
  | succ n ih =>
    rw [trn_s]
    cases hp : pickW T φ S done with
    | none => rfl
    | some w =>
      have hw := (fg_lt w hp).1
      exact (ih).trans (stk_takeW hw)
theorem stk_expN {l' : Nat} (hn : n ≤ 8) : stk (expN T S n) l' = stk S l' := by
  induction n with
  | zero => rfl
  | succ n ih =>
    refine Eq.trans ?_ (ih (by omega))
    show stk (expS T (expN T S n) n) l' = _
    unfold expS
    split
    · exact stk_bringW (by omega)
    · rfl
theorem stk_wk {l' : Nat} : stk (wkS T φ S) l' = stk S l' :=
  (stk_trn (T := T) (φ := φ) (n := 8) (done := fun _ => false) (S := expW T S) (c := 0)).trans (stk_expN (T := T) (S := S) (n := 8) (Nat.le_refl _))
/-- a set-aside state stays good when the state goes on -/
theorem gd_go {S' : aS} {U : aS} {B' : Nat} (h : gd T S B U) (hB : B ≤ B') (hs : ∀ l, l < 10 → stk S' l = stk S l) : gd T S' B' U :=
  ⟨⟨h.1.1, h.1.2.1, Nat.le_trans h.1.2.2 hB⟩, fun l hl => (h.2 l hl).trans (hs l hl).symm⟩
theorem gd_self (h : sOk T S B) : gd T S B S := ⟨h, fun _ _ => rfl⟩
end XSK
