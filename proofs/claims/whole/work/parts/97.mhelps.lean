/-! THE MODEL: helps -/
def wnt (T : aT) (S : aS) (w l : Nat) : Nat := lck T S w l - sL S l
def mhS (T : aT) (S : aS) (w l f : Nat) (r : List Int32 × Nat) : List Int32 × Nat := if f ≠ w ∧ isQ T S f = true then (r.1 ++ List.replicate (min (sG S f l) r.2) (nI (100 * f + 10 * w + l)), r.2 - min (sG S f l) r.2) else r
def mhL (T : aT) (S : aS) (w l n : Nat) (r : List Int32 × Nat) : List Int32 × Nat := itr (fun f r => mhS T S w l f r) n r
def mhA (T : aT) (S : aS) (w n : Nat) (M : List Int32) : List Int32 := itr (fun l M => (mhL T S w l (tN T) (M, wnt T S w l)).1) n M
theorem mhL_s {T : aT} {S : aS} {w l n : Nat} {r : List Int32 × Nat} : mhL T S w l (n + 1) r = mhS T S w l n (mhL T S w l n r) := rfl
theorem mhA_s {T : aT} {S : aS} {w n : Nat} {M : List Int32} : mhA T S w (n + 1) M = (mhL T S w n (tN T) (mhA T S w n M, wnt T S w n)).1 := rfl
section MSF
variable {d B B' w l x y n m c f t j k : Nat} {s s' s1 s2 : mS} {T : aT} {S S' X : aS} {A : aA} {p q r a v : Int32} {W M : List Int32}
theorem lnK_Ge (hft : f ≠ t) (h1 : ¬ (x = t ∧ y = l)) (h2 : ¬ (x = f ∧ y = l)) : sG (lnK S f t l k) x y = sG S x y := by
  induction k with
  | zero => rfl
  | succ k ih => rw [lnK_s, lendW_G hft, if_neg h1, if_neg h2]; exact ih
theorem mis_d : mis T S w = match sH S w with
  | none => 0
  | some x => tLen T x - hgs S w := rfl
theorem isQ_lnK (hft : f ≠ t) (hx : x ≠ t) (hq : x = f → isQ T S f = true) : isQ T (lnK S f t l k) x = isQ T S x := by
  by_cases z : x = f
  · subst z
    rw [hq rfl]
    have hq := of_decide_eq_true (hq rfl)
    refine decide_eq_true ?_
    rw [mis_d] at hq ⊢
    rw [lnK_H]
    cases hn : sH S x with
    | none => rw [hn] at hq; exact absurd hq (Nat.lt_irrefl _)
    | some y =>
      rw [hn] at hq
      have hq : 0 < tLen T y - hgs S x := hq
      show 0 < tLen T y - hgs (lnK S x t l k) x
      have : hgs (lnK S x t l k) x ≤ hgs S x := sm_le2 (fun i _ => by
        by_cases hi : i = l
        · rw [hi, (lnK_G hft).1]; omega
        · rw [lnK_Ge hft (fun z => hi z.2) (fun z => hi z.2)]
          exact Nat.le_refl _)
      omega
  · unfold isQ
    have e : mis T (lnK S f t l k) x = mis T S x := by
      rw [mis_d, mis_d, lnK_H]
      have : hgs (lnK S f t l k) x = hgs S x := sm_cong (fun i _ => lnK_Ge hft (fun z2 => hx z2.1) (fun z2 => z z2.1))
      rw [this]
    rw [e]
def rlH (T : aT) (S : aS) (w l n : Nat) (X : aS) : Prop := (∀ f, f ≠ w → isQ T X f = isQ T S f) ∧ (∀ f, f ≠ w → ∀ l', l < l' → sG X f l' = sG S f l') ∧ (∀ f, f ≠ w → n ≤ f → sG X f l = sG S f l) ∧ (∀ l', l < l' → lck T X w l' = wnt T S w l')
theorem hpL_m (h : rlH T S w l 0 X) : ∀ n, (hpL T w l n (M, X)).1 = (mhL T S w l n (M, lck T X w l)).1 ∧ lck T (hpL T w l n (M, X)).2 w l = (mhL T S w l n (M, lck T X w l)).2 ∧ rlH T S w l n (hpL T w l n (M, X)).2 := by
  intro n
  induction n with
  | zero => exact ⟨rfl, rfl, h⟩
  | succ n ih =>
    rw [hpL_s, mhL_s]
    generalize hpL T w l n (M, X) = r1 at ih ⊢
    generalize mhL T S w l n (M, lck T X w l) = r2 at ih ⊢
    obtain ⟨M1, X1⟩ := r1
    obtain ⟨M2, v2⟩ := r2
    obtain ⟨i1, i2, i3, i4, i5, i6⟩ := ih
    dsimp only at i1 i2 i3 i4 i5 i6
    subst i1
    unfold hpS mhS
    dsimp only
    by_cases hw : n = w
    · have e0 : lnM T X1 n w l = 0 := by unfold lnM; rw [if_pos hw]
      rw [if_neg (show ¬ (n ≠ w ∧ isQ T S n = true) from fun z => z.1 hw), e0]
      have e1 : (if isQ T X1 n = true then (M1 ++ List.replicate 0 (nI (100 * n + 10 * w + l)), lnK X1 n w l 0) else (M1, X1)) = (M1, X1) := by
        split
        · rw [List.replicate_zero, List.append_nil]; rfl
        · rfl
      rw [e1]
      exact ⟨rfl, i2, i3, i4, fun f hf hn => i5 f hf (by omega), i6⟩
    · rw [i3 n hw]
      cases hq : isQ T S n with
      | false =>
        rw [if_neg (by simp), if_neg (show ¬ (n ≠ w ∧ false = true) from fun z => by cases z.2)]
        exact ⟨rfl, i2, i3, i4, fun f hf hn => i5 f hf (by omega), i6⟩
      | true =>
        have e0 : lnM T X1 n w l = min (sG S n l) v2 := by unfold lnM; rw [if_neg hw, i5 n hw (Nat.le_refl _), i2]
        rw [if_pos rfl, if_pos (show n ≠ w ∧ true = true from ⟨hw, rfl⟩), e0]
        refine ⟨rfl, by rw [lnK_L hw, i2], fun f hf => ?_, fun f hf l' hl' => ?_, fun f hf hn => ?_, fun l' hl' => ?_⟩
        · show isQ T (lnK X1 n w l (min (sG S n l) v2)) f = _
          rw [isQ_lnK hw hf (fun _ => by rw [i3 n hw]; exact hq)]
          exact i3 f hf
        · show sG (lnK X1 n w l (min (sG S n l) v2)) f l' = _
          rw [lnK_Ge hw (fun z => hf z.1) (fun z => by have := z.2; omega)]
          exact i4 f hf l' hl'
        · show sG (lnK X1 n w l (min (sG S n l) v2)) f l = _
          rw [lnK_Ge hw (fun z => hf z.1) (fun z => by have := z.1; omega)]
          exact i5 f hf (by omega)
        · rw [← i6 l' hl']
          show lck T (lnK X1 n w l (min (sG S n l) v2)) w l' = _
          rw [lck_d, lck_d, lnK_H, lnK_Ge hw (fun z => by have := z.2; omega) (fun z => by have := z.2; omega)]
def rlA (T : aT) (S : aS) (w n : Nat) (X : aS) : Prop := (∀ f, f ≠ w → isQ T X f = isQ T S f) ∧ (∀ f, f ≠ w → ∀ l', n ≤ l' → sG X f l' = sG S f l') ∧ (∀ l', n ≤ l' → l' < 10 → lck T X w l' = wnt T S w l')
theorem hpA_m (h : rlA T S w 0 X) (hX : ∀ l', 10 ≤ l' → lck T X w l' = wnt T S w l') : ∀ n, n ≤ 10 → (hpA T w n (M, X)).1 = mhA T S w n M ∧ rlA T S w n (hpA T w n (M, X)).2 ∧ ∀ l', 10 ≤ l' → lck T (hpA T w n (M, X)).2 w l' = wnt T S w l' := by
  intro n
  induction n with
  | zero => intro _; exact ⟨rfl, h, hX⟩
  | succ n ih =>
    intro hn
    obtain ⟨e1, ⟨r1, r2, r3⟩, r4⟩ := ih (by omega)
    rw [hpA_s, mhA_s, ← e1]
    generalize hpA T w n (M, X) = r at r1 r2 r3 r4 ⊢
    obtain ⟨M1, X1⟩ := r
    dsimp only at r1 r2 r3 r4
    have r3' : ∀ l', n ≤ l' → lck T X1 w l' = wnt T S w l' := fun l' hl' => by
      by_cases z : l' < 10
      · exact r3 l' hl' z
      · exact r4 l' (by omega)
    have hr : rlH T S w n 0 X1 := ⟨r1, fun f hf l' hl' => r2 f hf l' (by omega), fun f hf _ => r2 f hf n (Nat.le_refl _), fun l' hl' => r3' l' (by omega)⟩
    obtain ⟨g1, g2, g3, g4, g5, g6⟩ := hpL_m (M := M1) hr (tN T)
    rw [r3' n (Nat.le_refl _)] at g1
    exact ⟨g1, ⟨g3, fun f hf l' hl' => g4 f hf l' (by omega), fun l' hl' _ => g6 l' (by omega)⟩, fun l' hl' => g6 l' (by omega)⟩
theorem lck_take (ht : tOk T) (ho : sOk T S B) (hl : l < 10) : lck T (takeW T S w) w l = wnt T S w l := by
  have key : ∀ n, (∀ l, lck T (itr (fun l S => takeL T S w l) n S) w l = if l < n then wnt T S w l else lck T S w l) ∧ (∀ l, n ≤ l → sL (itr (fun l S => takeL T S w l) n S) l = sL S l) ∧ sH (itr (fun l S => takeL T S w l) n S) = sH S := by
    intro n
    induction n with
    | zero => exact ⟨fun l => by rw [if_neg (Nat.not_lt_zero _)]; rfl, fun _ _ => rfl, rfl⟩
    | succ n ih =>
      obtain ⟨h1, h2, h3⟩ := ih
      rw [show itr (fun l S => takeL T S w l) (n + 1) S = takeL T (itr (fun l S => takeL T S w l) n S) w n from rfl]
      generalize itr (fun l S => takeL T S w l) n S = V at h1 h2 h3 ⊢
      have hG : ∀ l, sG (takeL T V w n) w l = if l = n then sG V w n + min (lck T V w n) (sL V n) else sG V w l := fun l => by
        unfold takeL
        rw [mvS_G]
        by_cases z : l = n
        · rw [if_pos ⟨rfl, z⟩, if_pos z]
        · rw [if_neg (fun y => z y.2), if_neg z]
      refine ⟨fun l => ?_, fun l hl => ?_, h3⟩
      · have hl := h1 l
        rw [lck_d] at hl ⊢
        rw [hG]
        show (match sH V w with
          | none => 0
          | some x => nd T x l - if l = n then sG V w n + min (lck T V w n) (sL V n) else sG V w l) = _
        by_cases z : l = n
        · subst z
          rw [if_neg (Nat.lt_irrefl _)] at hl
          rw [if_pos rfl, if_pos (Nat.lt_succ_self _)]
          have hl2 : lck T V w l = lck T S w l := by rw [lck_d]; exact hl
          unfold wnt
          rw [hl2, h2 l (Nat.le_refl _), ← hl]
          revert hl
          cases sH V w with
          | none => intro _; show 0 = 0 - _; omega
          | some x =>
            intro hl
            show nd T x l - (sG V w l + min (nd T x l - sG V w l) (sL S l)) = nd T x l - sG V w l - sL S l
            omega
        · rw [if_neg z]
          refine hl.trans ?_
          by_cases z2 : l < n
          · rw [if_pos z2, if_pos (by omega)]
          · rw [if_neg z2, if_neg (by omega)]
      · show (if l = n then _ else sL V l) = _
        rw [if_neg (by omega)]
        exact h2 l (by omega)
  have := (key 10).1 l
  rw [if_pos hl] at this
  exact this
theorem wnt_big (ht : tOk T) (ho : sOk T S B) (hl : 10 ≤ l) : lck T S w l = 0 := by
  rw [lck_d]
  cases hn : sH S w with
  | none => rfl
  | some x =>
    show nd T x l - _ = 0
    rw [nd_big ht (wOk_s (ho.1 w) hn).2.1 hl]
    omega
theorem helps_row (ht : tOk T) (ho : sOk T S B) (hw : w < 8) : (hpA T w 10 (M, takeW T S w)).1 = mhA T S w 10 M := by
  refine (hpA_m ⟨fun f hf => isQ_takeW hf, fun f hf l' _ => by rw [takeW_G hf], fun l' _ hl => lck_take ht ho hl⟩ (fun l' hl' => ?_) 10 (Nat.le_refl _)).1
  rw [wnt_big ht (sOk_takeW ht ho hw) hl']
  unfold wnt
  rw [wnt_big ht ho hl', Nat.zero_sub]
theorem helps_sum (ht : tOk T) (ho : sOk T S B) (hw : w < 8) : mis T (takeW T S w) w = sm (wnt T S w) 10 := by
  rw [mis_sum ht ((sOk_takeW ht ho hw).1 w)]
  exact sm_cong (fun l hl => lck_take ht ho hl)
def oth (T : aT) (S : aS) (w l : Nat) : Nat := sm (fun f => if f ≠ w ∧ isQ T S f = true then sG S f l else 0) (tN T)
theorem helps_can (ht : tOk T) (ho : sOk T S B) : cbh T (takeW T S w) w = allN (fun l => decide (wnt T S w l ≤ oth T S w l)) 10 := by
  unfold cbh
  refine allN_cong (fun l hl => ?_)
  rw [lck_take ht ho hl]
  have e : sm (fun f => if f ≠ w ∧ isQ T (takeW T S w) f = true then sG (takeW T S w) f l else 0) 8 = oth T S w l := by
    unfold oth
    rw [← sm_more ht.2.1 (f := fun f => if f ≠ w ∧ isQ T S f = true then sG S f l else 0) (fun i h1 _ => by
      show (if i ≠ w ∧ isQ T S i = true then sG S i l else 0) = 0
      rw [isQ_out ho h1, if_neg (fun z => by cases z.2)])]
    refine sm_cong (fun f _ => ?_)
    by_cases z : f = w
    · rw [if_neg (fun y => y.1 z), if_neg (fun y => y.1 z)]
    · rw [isQ_takeW z, takeW_G z]
  rw [e]
end MSF
