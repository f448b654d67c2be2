/-! BRING, HANG, LEND, REFILL -/
section XA
variable {d k w l B n f t : Nat} {s : mS} {T : aT} {S : aS} {c : Nat → Int32}
theorem nd_big (ht : tOk T) {x : Nat} (hx : x < tW T) (hl : 10 ≤ l) : nd T x l = 0 := sm_zero (fun i hi => by
  have := (ht.2.2.1 x hx).2.2.2 i hi
  show (if tSp T x i = l then 1 else 0) = 0
  rw [if_neg (by omega)])
theorem bringL_G1 {X : aS} : sG (bringL X w n) w l = if l = n then 0 else sG X w l := by
  unfold bringL
  rw [mvS_G]
  by_cases h : l = n
  · rw [if_pos ⟨rfl, h⟩, if_pos h]
  · rw [if_neg (fun z => h z.2), if_neg h]
theorem bringL_eq {X : aS} : bringL X w n = mvS X w n (sL X n + sG X w n) 0 := rfl
theorem bringL_G : sG (itr (fun l S => bringL S w l) n S) w l = if l < n then 0 else sG S w l := by
  induction n with
  | zero => rfl
  | succ n ih =>
    show sG (bringL (itr (fun l S => bringL S w l) n S) w n) w l = _
    rw [bringL_G1]
    by_cases h : l = n
    · rw [if_pos h, if_pos (by omega)]
    · rw [if_neg h, ih]
      by_cases h2 : l < n
      · rw [if_pos h2, if_pos (by omega)]
      · rw [if_neg h2, if_neg (by omega)]
theorem bringL_H : sH (itr (fun l S => bringL S w l) n S) = sH S := by
  induction n with
  | zero => rfl
  | succ n ih => exact ih
def lenO (T : aT) : Option Nat → Nat
  | none => 0
  | some x => tLen T x
theorem XC_wd {h : Option Nat} {c' : Nat → Int32} (ht : tOk T) (ho : sOk T S B) (hc : XC T S c) (hw : w < 8) (hz : ∀ l, l < 10 → sG S w l = 0) (hx : ∀ x, h = some x → w < tN T ∧ x < tW T)
    (c1 : c' w = oc h) (c2 : c' (8 + w) = nI (lenO T h)) (c3 : c' (16 + w) = nI 0) (c4 : c' (24 + w) = nI 0) (c5 : ∀ j, j < 124 → j ≠ w → j ≠ 8 + w → j ≠ 16 + w → j ≠ 24 + w → c' j = c j) : XC T (wdS S w h) c' ∧ sOk T (wdS S w h) B := by
  have hzz : ∀ l, sG S w l = 0 := fun l => by
    by_cases hl : l < 10
    · exact hz l hl
    · cases hn : sH S w with
      | none => exact (wOk_n (ho.1 w) hn).1 l
      | some x =>
        have h1 := wOk_s (ho.1 w) hn
        have h2 := h1.2.2.1 l
        rw [nd_big ht h1.2.1 (by omega)] at h2
        omega
  have hg : hgs S w = 0 := sm_zero (fun l _ => hzz l)
  obtain ⟨x1, x2, x3, x4⟩ := hc
  refine ⟨⟨fun w' hw' => ?_, fun l hl => ?_, ?_, ?_⟩, fun w' => ?_, fun l hl => ho.2.1 l hl, ho.2.2⟩
  · obtain ⟨y1, y2, y3, y4, y5⟩ := x1 w' hw'
    by_cases hww : w' = w
    · subst hww
      refine ⟨?_, ?_, ?_, ?_, fun l hl => ?_⟩
      · rw [c1]; show oc h = oc (if w' = w' then h else sH S w'); rw [if_pos rfl]
      · rw [c2]
        have e : sH (wdS S w' h) w' = h := if_pos rfl
        unfold mis
        rw [e]
        cases h with
        | none => rfl
        | some x =>
          show nI (tLen T x) = nI (tLen T x - hgs S w')
          rw [hg, Nat.sub_zero]
      · rw [c3]; show nI 0 = nI (if w' = w' then 0 else sQ S w'); rw [if_pos rfl]
      · rw [c4]; show nI 0 = nI (if w' = w' then 0 else sU S w'); rw [if_pos rfl]
      · rw [c5 _ (by omega) (by omega) (by omega) (by omega) (by omega)]; exact y5 l hl
    · refine ⟨?_, ?_, ?_, ?_, fun l hl => ?_⟩
      · rw [c5 _ (by omega) (by omega) (by omega) (by omega) (by omega), y1]; show oc (sH S w') = oc (if w' = w then h else sH S w'); rw [if_neg hww]
      · rw [c5 _ (by omega) (by omega) (by omega) (by omega) (by omega), y2]
        have e : sH (wdS S w h) w' = sH S w' := if_neg hww
        unfold mis
        rw [e]
        rfl
      · rw [c5 _ (by omega) (by omega) (by omega) (by omega) (by omega), y3]; show nI (sQ S w') = nI (if w' = w then 0 else sQ S w'); rw [if_neg hww]
      · rw [c5 _ (by omega) (by omega) (by omega) (by omega) (by omega), y4]; show nI (sU S w') = nI (if w' = w then 0 else sU S w'); rw [if_neg hww]
      · rw [c5 _ (by omega) (by omega) (by omega) (by omega) (by omega)]; exact y5 l hl
  · rw [c5 _ (by omega) (by omega) (by omega) (by omega) (by omega)]; exact x2 l hl
  · rw [c5 _ (by omega) (by omega) (by omega) (by omega) (by omega)]; exact x3
  · rw [c5 _ (by omega) (by omega) (by omega) (by omega) (by omega)]; exact x4
  · by_cases hww : w' = w
    · subst hww
      have e : sH (wdS S w' h) w' = h := if_pos rfl
      have eq : sQ (wdS S w' h) w' = 0 := if_pos rfl
      have eu : sU (wdS S w' h) w' = 0 := if_pos rfl
      unfold wOk
      rw [e, eq, eu]
      cases h with
      | none => exact ⟨hzz, rfl, rfl⟩
      | some x => exact ⟨(hx x rfl).1, (hx x rfl).2, fun l => by show sG S w' l ≤ _; rw [hzz l]; exact Nat.zero_le _, Nat.zero_le _, Nat.zero_le _⟩
    · have e : sH (wdS S w h) w' = sH S w' := if_neg hww
      have eq : sQ (wdS S w h) w' = sQ S w' := if_neg hww
      have eu : sU (wdS S w h) w' = sU S w' := if_neg hww
      have h1 := ho.1 w'
      unfold wOk at h1 ⊢
      rw [e, eq, eu]
      exact h1
theorem x_bring (ht : tOk T) (hT : XT T s) (h : sOk T S B) (hk : isK k) (hc : XC T S (s (mRf k 1))) (hw : w < 8) : ∃ c', ev (d + 1) 118 0 [.inr k, .inl (nI w), .inr 0, .inr 0, .inr 0] [] s = some (0, nI (hgs S w), setA s (mRf k 1) c') ∧ XC T (bringW S w) c' ∧ sOk T (bringW S w) B ∧ ∀ w', w' < 8 → w' ≠ w → True := by
  rw [E118_0 (hk0 := hk)]
  have key : ∀ n, n ≤ 10 → ∃ c', ev (d + 1) 118 4 [.inr k, .inl (nI w), .inl (nI 0), .inl (nI 0), .inr 0] [] s = ev (d + 1) 118 4 [.inr k, .inl (nI w), .inl (nI (sm (sG S w) n)), .inl (nI n), .inr 0] [] (setA s (mRf k 1) c') ∧ XC T (itr (fun l S => bringL S w l) n S) c' ∧ sOk T (itr (fun l S => bringL S w l) n S) B := by
    intro n
    induction n with
    | zero => intro _; exact ⟨s (mRf k 1), by rw [setA_same]; rfl, hc, h⟩
    | succ n ih =>
      intro hn
      obtain ⟨c1, e1, i1, o1⟩ := ih (by omega)
      have hc1 : XC T (itr (fun l S => bringL S w l) n S) ((setA s (mRf k 1) c1) (mRf k 1)) := by rw [setA_at]; exact i1
      have g := XC_back (l := n) ht o1 i1 hw (by omega) (Nat.le_refl (sG (itr (fun l S => bringL S w l) n S) w n))
      rw [Nat.sub_self] at g
      have hg := x_hung (d := d) (l := n) hk hc1 hw (by omega)
      have e3 : sG (itr (fun l S => bringL S w l) n S) w n = sG S w n := by rw [bringL_G, if_neg (by omega)]
      rw [e3] at hg g
      refine ⟨mvC c1 w n (-nI (sG S w n)), ?_, ?_, ?_⟩
      · rw [e1, E118_4 (hk0 := hk)]
        simp (disch := omega) only [hg, x_move hk hw, setA_at, setA_twice, lit, nI_add, pk_mul, n_sub, n_addneg, nle_t, nle_f, nlt_t, nlt_f, neq_t, neq_f, n_inb, n_ix, bnd_some, if_true, if_false, ite_tt, ite_ff, not_true_eq_false, not_false_eq_true, eq_self, false_or, or_false, true_or, or_true]
        rfl
      · show XC T (bringL (itr (fun l S => bringL S w l) n S) w n) _
        rw [bringL_eq, e3]
        exact g.1
      · show sOk T (bringL (itr (fun l S => bringL S w l) n S) w n) B
        rw [bringL_eq, e3]
        exact g.2
  obtain ⟨c', e1, i1, o1⟩ := key 10 (Nat.le_refl _)
  have g := XC_wd (h := none) (c' := upd (upd (upd (upd c' w (-nI 1)) (8 + w) (nI 0)) (16 + w) (nI 0)) (24 + w) (nI 0)) ht o1 i1 hw (fun l hl => by rw [bringL_G, if_pos hl]) (fun x hx => by cases hx)
    (by rw [upd_ne (by omega), upd_ne (by omega), upd_ne (by omega), upd_eq rfl]; rfl) (by rw [upd_ne (by omega), upd_ne (by omega), upd_eq rfl]; rfl) (by rw [upd_ne (by omega), upd_eq rfl]) (by rw [upd_eq rfl])
    (fun j _ h1 h2 h3 h4 => by rw [upd_ne h4, upd_ne h3, upd_ne h2, upd_ne h1])
  refine ⟨_, ?_, g.1, g.2, fun _ _ _ => trivial⟩
  rw [lit 0, e1, E118_4 (hk0 := hk)]
  simp (disch := omega) only [Nat.zero_add, up_set, setA_at, setA_twice, lit, nI_add, pk_mul, n_sub, n_addneg, nle_t, nle_f, nlt_t, nlt_f, neq_t, neq_f, n_inb, n_ix, bnd_some, if_true, if_false, ite_tt, ite_ff, not_true_eq_false, not_false_eq_true, eq_self, false_or, or_false, true_or, or_true]
  rfl
theorem bringW_H : sH (bringW S w) w = none := if_pos rfl
theorem x_hang {x : Nat} (ht : tOk T) (hT : XT T s) (h : sOk T S B) (hc : XC T S (s 37)) (hw : w < tN T) (hx : x < tW T) : ∃ c', ev (d + 1 + 1) 116 0 [.inr 36, .inl (nI w), .inl (nI x)] [] s = some (0, nI (tLen T x), setA s 37 c') ∧ XC T (hangW S w x) c' ∧ sOk T (hangW S w x) B := by
  have hk : isK 36 := Or.inl rfl
  have hN := ht.2.1
  obtain ⟨c1, e1, i1, o1, -⟩ := x_bring (d := d) ht hT h hk hc (show w < 8 by omega)
  have er : mRf 36 1 = 37 := by decide +kernel
  rw [er] at e1
  have hz : ∀ l, l < 10 → sG (bringW S w) w l = 0 := fun l hl => by
    show sG (itr (fun l S => bringL S w l) 10 S) w l = 0
    rw [bringL_G, if_pos hl]
  have g := XC_wd (h := some x) (c' := upd (upd c1 w (nI x)) (8 + w) (nI (tLen T x))) ht o1 i1 (show w < 8 by omega) hz (fun y hy => by cases hy; exact ⟨hw, hx⟩)
    (by rw [upd_ne (by omega), upd_eq rfl]; rfl) (by rw [upd_eq rfl]; rfl)
    (by rw [upd_ne (by omega), upd_ne (by omega), (i1.1 w (by omega)).2.2.1]; show nI (if w = w then 0 else _) = nI 0; rw [if_pos rfl])
    (by rw [upd_ne (by omega), upd_ne (by omega), (i1.1 w (by omega)).2.2.2.1]; show nI (if w = w then 0 else _) = nI 0; rw [if_pos rfl])
    (fun j _ h1 h2 _ _ => by rw [upd_ne h2, upd_ne h1])
  have hS : wdS (bringW S w) w (some x) = hangW S w x := by
    unfold hangW bringW wdS
    refine Prod.ext rfl (Prod.ext ?_ (Prod.ext rfl (Prod.ext ?_ (Prod.ext ?_ rfl))))
    · funext j; show (if j = w then some x else if j = w then none else _) = if j = w then some x else _; split <;> rfl
    · funext j; show (if j = w then 0 else if j = w then 0 else _) = if j = w then 0 else _; split <;> rfl
    · funext j; show (if j = w then 0 else if j = w then 0 else _) = if j = w then 0 else _; split <;> rfl
  rw [hS] at g
  refine ⟨_, ?_, g.1, g.2⟩
  have hl : ∀ c2 : Nat → Int32, ev (d + 1) 154 0 [.inr 6, .inl (nI x)] [] (setA s 37 c2) = some (0, nI (tLen T x), setA s 37 c2) := fun c2 => x_length ht (XT_set hT (by omega)) hx
  rw [E116_0, e1]
  simp (disch := omega) only [Nat.zero_add, up_set, setA_at, setA_twice, hl, lit, nI_add, pk_mul, n_sub, n_addneg, nle_t, nle_f, nlt_t, nlt_f, neq_t, neq_f, n_inb, n_ix, bnd_some, if_true, if_false, ite_tt, ite_ff, not_true_eq_false, not_false_eq_true, eq_self, false_or, or_false, true_or, or_true]
theorem x_lendL (ht : tOk T) (hT : XT T s) (h : sOk T S B) (hk : isK k) (hc : XC T S (s (mRf k 1))) (hf : f < 8) (htt : t < 8) (hft : f ≠ t) (hl : l < 10) (h1 : 0 < sG S f l) (h2 : 0 < lck T S t l) : ∃ c', ev (d + 1 + 1) 120 0 [.inr k, .inl (nI f), .inl (nI t), .inl (nI l)] [] s = some (0, nI (lck T S t l - 1), setA s (mRf k 1) c') ∧ XC T (lendW S f t l) c' ∧ sOk T (lendW S f t l) B ∧ lck T (lendW S f t l) t l = lck T S t l - 1 := by
  have g := XC_back (m := 1) (l := l) ht h hc hf hl (by omega)
  have hlk : lck T (mvS S f l (sL S l + 1) (sG S f l - 1)) t l = lck T S t l := by
    unfold lck
    rw [mvS_H, mvS_G, if_neg (fun z => hft z.1.symm)]
  have hsl : sL (mvS S f l (sL S l + 1) (sG S f l - 1)) l = sL S l + 1 := by rw [mvS_L, if_pos rfl]
  have hsg : sG (mvS S f l (sL S l + 1) (sG S f l - 1)) t l = sG S t l := by rw [mvS_G, if_neg (fun z => hft z.1.symm)]
  have g2 := XC_give (m := 1) (l := l) ht g.2 g.1 htt hl (by rw [hsl]; omega) (by rw [hlk]; omega)
  rw [hsl, hsg] at g2
  have e : sL S l + 1 - 1 = sL S l := by omega
  rw [e] at g2
  have hlk2 : lck T (lendW S f t l) t l = lck T S t l - 1 := by
    unfold lendW
    unfold lck
    rw [mvS_H, mvS_H, mvS_G, if_pos ⟨rfl, rfl⟩]
    cases sH S t with
    | none => rfl
    | some x => show nd T x l - (sG S t l + 1) = nd T x l - sG S t l - 1; omega
  refine ⟨_, ?_, g2.1, g2.2, hlk2⟩
  have hx := x_lack (d := d) (w := t) (l := l) (s := setA s (mRf k 1) (mvC (mvC (s (mRf k 1)) f l (-nI 1)) t l (nI 1))) ht (XT_set hT (mRf_big hk)) (g2.2.1 t) hk (by rw [setA_at]; exact g2.1) htt hl
  have hlk3 : lck T (mvS (mvS S f l (sL S l + 1) (sG S f l - 1)) t l (sL S l) (sG S t l + 1)) t l = lck T S t l - 1 := hlk2
  rw [hlk3] at hx
  rw [E120_0 (hk0 := hk)]
  simp (disch := omega) only [x_move hk hf hl, x_move hk htt hl, setA_at, setA_twice, hx, lit, nI_add, pk_mul, n_sub, n_addneg, nle_t, nle_f, nlt_t, nlt_f, neq_t, neq_f, n_inb, n_ix, bnd_some, if_true, if_false, ite_tt, ite_ff, not_true_eq_false, not_false_eq_true, eq_self, false_or, or_false, true_or, or_true]
/-- whether a letter can be lent; what lend() answers if not -/
def rfs (T : aT) (S : aS) (f t l : Int32) : Int32 :=
  if inN f (tN T) = false ∨ inN t (tN T) = false ∨ f = t ∨ inN l 10 = false then -nI 1
  else if sG S (ix f) (ix l) = 0 then -nI 2
  else if lck T S (ix t) (ix l) = 0 then -nI 3 else nI 0
theorem x_lending {f t l : Int32} (ht : tOk T) (hT : XT T s) (h : sOk T S B) (hk : isK k) (hc : XC T S (s (mRf k 1))) : ev (d + 1 + 1) 119 0 [.inr k, .inl f, .inl t, .inl l] [] s = some (0, rfs T S f t l, s) := by
  have hN := ht.2.1
  rw [E119_0 (hk0 := hk), x_hasWall hT, bnd_some]
  unfold rfs
  by_cases hf : inN f (tN T) = false
  · rw [if_pos (Or.inl hf), hf]
    simp (disch := omega) only [bI_f, E119_34, lit, nI_add, pk_mul, n_sub, n_addneg, nle_t, nle_f, nlt_t, nlt_f, neq_t, neq_f, n_inb, n_ix, bnd_some, if_true, if_false, ite_tt, ite_ff, not_true_eq_false, not_false_eq_true, eq_self, false_or, or_false, true_or, or_true]
  have hf : inN f (tN T) = true := by simpa using hf
  rw [hf]
  simp (disch := omega) only [bI_t, x_hasWall hT, lit, nI_add, pk_mul, n_sub, n_addneg, nle_t, nle_f, nlt_t, nlt_f, neq_t, neq_f, n_inb, n_ix, bnd_some, if_true, if_false, ite_tt, ite_ff, not_true_eq_false, not_false_eq_true, eq_self, false_or, or_false, true_or, or_true]
  by_cases h2 : inN t (tN T) = false
  · rw [if_pos (Or.inr (Or.inl h2)), h2]
    simp (disch := omega) only [bI_f, E119_34, lit, nI_add, pk_mul, n_sub, n_addneg, nle_t, nle_f, nlt_t, nlt_f, neq_t, neq_f, n_inb, n_ix, bnd_some, if_true, if_false, ite_tt, ite_ff, not_true_eq_false, not_false_eq_true, eq_self, false_or, or_false, true_or, or_true]
  have h2 : inN t (tN T) = true := by simpa using h2
  rw [h2]
  simp (disch := omega) only [bI_t, lit, nI_add, pk_mul, n_sub, n_addneg, nle_t, nle_f, nlt_t, nlt_f, neq_t, neq_f, n_inb, n_ix, bnd_some, if_true, if_false, ite_tt, ite_ff, not_true_eq_false, not_false_eq_true, eq_self, false_or, or_false, true_or, or_true]
  by_cases h3 : f = t
  · rw [if_pos h3, if_pos (Or.inr (Or.inr (Or.inl h3)))]
    simp (disch := omega) only [E119_34, lit, nI_add, pk_mul, n_sub, n_addneg, nle_t, nle_f, nlt_t, nlt_f, neq_t, neq_f, n_inb, n_ix, bnd_some, if_true, if_false, ite_tt, ite_ff, not_true_eq_false, not_false_eq_true, eq_self, false_or, or_false, true_or, or_true]
  rw [if_neg h3]
  simp (disch := omega) only [x_isLetter, lit, nI_add, pk_mul, n_sub, n_addneg, nle_t, nle_f, nlt_t, nlt_f, neq_t, neq_f, n_inb, n_ix, bnd_some, if_true, if_false, ite_tt, ite_ff, not_true_eq_false, not_false_eq_true, eq_self, false_or, or_false, true_or, or_true]
  by_cases h4 : inN l 10 = false
  · rw [if_pos (Or.inr (Or.inr (Or.inr h4))), h4]
    simp (disch := omega) only [bI_f, E119_34, lit, nI_add, pk_mul, n_sub, n_addneg, nle_t, nle_f, nlt_t, nlt_f, neq_t, neq_f, n_inb, n_ix, bnd_some, if_true, if_false, ite_tt, ite_ff, not_true_eq_false, not_false_eq_true, eq_self, false_or, or_false, true_or, or_true]
  have h4 : inN l 10 = true := by simpa using h4
  rw [h4, if_neg (by simp [hf, h2, h3])]
  obtain ⟨f', hf', rfl⟩ := inN_t (by omega) hf
  obtain ⟨t', ht', rfl⟩ := inN_t (by omega) h2
  obtain ⟨l', hl', rfl⟩ := inN_t (by omega) h4
  have b1 := sG_le (l := l') ht (h.1 f')
  have b2 := lck_le (l := l') ht (h.1 t')
  simp (disch := omega) only [bI_t, x_hung hk hc (show f' < 8 by omega) hl', x_lack ht hT (h.1 t') hk hc (show t' < 8 by omega) hl', lit, nI_add, pk_mul, n_sub, n_addneg, nle_t, nle_f, nlt_t, nlt_f, neq_t, neq_f, n_inb, n_ix, bnd_some, if_true, if_false, ite_tt, ite_ff, not_true_eq_false, not_false_eq_true, eq_self, false_or, or_false, true_or, or_true]
  by_cases h5 : sG S f' l' = 0
  · simp (disch := omega) only [h5, E119_63, lit, nI_add, pk_mul, n_sub, n_addneg, nle_t, nle_f, nlt_t, nlt_f, neq_t, neq_f, n_inb, n_ix, bnd_some, if_true, if_false, ite_tt, ite_ff, not_true_eq_false, not_false_eq_true, eq_self, false_or, or_false, true_or, or_true]
  · simp (disch := omega) only [E119_63, lit, nI_add, pk_mul, n_sub, n_addneg, nle_t, nle_f, nlt_t, nlt_f, neq_t, neq_f, n_inb, n_ix, bnd_some, if_true, if_false, ite_tt, ite_ff, not_true_eq_false, not_false_eq_true, eq_self, false_or, or_false, true_or, or_true]
    by_cases h6 : lck T S t' l' = 0
    · simp (disch := omega) only [h6, lit, nI_add, pk_mul, n_sub, n_addneg, nle_t, nle_f, nlt_t, nlt_f, neq_t, neq_f, n_inb, n_ix, bnd_some, if_true, if_false, ite_tt, ite_ff, not_true_eq_false, not_false_eq_true, eq_self, false_or, or_false, true_or, or_true]
      rw [if_neg h5]
    · simp (disch := omega) only [lit, nI_add, pk_mul, n_sub, n_addneg, nle_t, nle_f, nlt_t, nlt_f, neq_t, neq_f, n_inb, n_ix, bnd_some, if_true, if_false, ite_tt, ite_ff, not_true_eq_false, not_false_eq_true, eq_self, false_or, or_false, true_or, or_true]
      rw [if_neg h5, if_neg h6]
def refS (S : aS) (st : Nat → Nat) : aS := (fun l => st l - hal S l, sH S, sG S, sQ S, sU S, sK S)
theorem x_hung0 {g : Nat} (hk : isK k) (hg : s (mRf k 1) (44 + w * 10 + l) = nI g) (hw : w < 8) (hl : l < 10) : ev d 104 0 [.inr k, .inl (nI w), .inl (nI l)] [] s = some (0, nI g, s) := by
  rw [E104_0 (hk0 := hk)]
  simp (disch := omega) only [hg, lit, nI_add, pk_mul, n_sub, n_addneg, nle_t, nle_f, nlt_t, nlt_f, neq_t, neq_f, n_inb, n_ix, bnd_some, if_true, if_false, ite_tt, ite_ff, not_true_eq_false, not_false_eq_true, eq_self, false_or, or_false, true_or, or_true]
theorem x_hungInAll0 (hg : ∀ w, w < 8 → s 37 (44 + w * 10 + l) = nI (sG S w l)) (hl : l < 10) : ev (d + 1) 113 0 [.inr 36, .inl (nI l), .inr 0, .inr 0] [] s = some (0, nI (hal S l), s) := by
  have hk : isK 36 := Or.inl rfl
  rw [E113_0]
  have h := loopU (fun i a => ev (d + 1) 113 4 [.inr 36, .inl (nI l), .inl (nI a), .inl (nI i)] [] s) (fun i a => a + sG S i l) 8 (fun i a hi => by
    rw [E113_4]
    simp (disch := omega) only [x_hung0 hk (hg i hi) hi hl, lit, nI_add, pk_mul, n_sub, n_addneg, nle_t, nle_f, nlt_t, nlt_f, neq_t, neq_f, n_inb, n_ix, bnd_some, if_true, if_false, ite_tt, ite_ff, not_true_eq_false, not_false_eq_true, eq_self, false_or, or_false, true_or, or_true]) 0
  simp (disch := omega) only [lit, nI_add, pk_mul, n_sub, n_addneg, nle_t, nle_f, nlt_t, nlt_f, neq_t, neq_f, n_inb, n_ix, bnd_some, if_true, if_false, ite_tt, ite_ff, not_true_eq_false, not_false_eq_true, eq_self, false_or, or_false, true_or, or_true]
  rw [h, E113_4]
  simp (disch := omega) only [lit, nI_add, pk_mul, n_sub, n_addneg, nle_t, nle_f, nlt_t, nlt_f, neq_t, neq_f, n_inb, n_ix, bnd_some, if_true, if_false, ite_tt, ite_ff, not_true_eq_false, not_false_eq_true, eq_self, false_or, or_false, true_or, or_true]
  rfl
theorem x_refill {st : Nat → Nat} (hst : ∀ l, l < 10 → s 7 l = nI (st l) ∧ hal S l ≤ st l ∧ st l ≤ 20) (hc : XC T S (s 37)) : ∃ c', ev (d + 1 + 1) 114 0 [.inr 36, .inr 0, .inr 0, .inr 0] [] s = some (0, 0, setA s 37 c') ∧ XC T (refS S st) c' := by
  rw [E114_0]
  have key : ∀ n, n ≤ 10 → ∃ c', ev (d + 1 + 1) 114 4 [.inr 36, .inl (nI 0), .inl (nI 0), .inr 0] [] s = ev (d + 1 + 1) 114 4 [.inr 36, .inl (nI (sm (fun l => st l - hal S l) n)), .inl (nI n), .inr 0] [] (setA s 37 c') ∧ (∀ j, ¬ (32 ≤ j ∧ j < 42) → c' j = s 37 j) ∧ ∀ l, l < n → c' (32 + l) = nI (st l - hal S l) := by
    intro n
    induction n with
    | zero => intro _; exact ⟨s 37, by rw [setA_same]; rfl, fun _ _ => rfl, fun l hl => by omega⟩
    | succ n ih =>
      intro hn
      obtain ⟨c1, e1, i1, i2⟩ := ih (by omega)
      have hh := x_hungInAll0 (d := d) (S := S) (l := n) (s := setA s 37 c1) (fun w hw => by rw [setA_at, i1 _ (by omega)]; exact (hc.1 w hw).2.2.2.2 n (by omega)) (by omega)
      obtain ⟨b1, b2, b3⟩ := hst n (by omega)
      have hs : ev (d + 1) 152 0 [.inr 6, .inl (nI n)] [] (setA s 37 c1) = some (0, nI (st n), setA s 37 c1) := by
        rw [E152_0]
        simp (disch := omega) only [setA_ne, b1, lit, nI_add, pk_mul, n_sub, n_addneg, nle_t, nle_f, nlt_t, nlt_f, neq_t, neq_f, n_inb, n_ix, bnd_some, if_true, if_false, ite_tt, ite_ff, not_true_eq_false, not_false_eq_true, eq_self, false_or, or_false, true_or, or_true]
      refine ⟨upd c1 (32 + n) (nI (st n - hal S n)), ?_, fun j hj => by rw [upd_ne (by omega)]; exact i1 j hj, fun l hl => ?_⟩
      · rw [e1, E114_4]
        simp (disch := omega) only [hs, hh, up_set, setA_at, setA_twice, lit, nI_add, pk_mul, n_sub, n_addneg, nle_t, nle_f, nlt_t, nlt_f, neq_t, neq_f, n_inb, n_ix, bnd_some, if_true, if_false, ite_tt, ite_ff, not_true_eq_false, not_false_eq_true, eq_self, false_or, or_false, true_or, or_true]
        rfl
      · by_cases hln : l = n
        · subst hln; rw [upd_eq rfl]
        · rw [upd_ne (by omega)]; exact i2 l (by omega)
  obtain ⟨c', e1, i1, i2⟩ := key 10 (Nat.le_refl _)
  refine ⟨upd c' 42 (nI (sm (fun l => st l - hal S l) 10)), ?_, ?_⟩
  · rw [lit 0, e1, E114_4]
    simp (disch := omega) only [up_set, setA_at, setA_twice, lit, nI_add, pk_mul, n_sub, n_addneg, nle_t, nle_f, nlt_t, nlt_f, neq_t, neq_f, n_inb, n_ix, bnd_some, if_true, if_false, ite_tt, ite_ff, not_true_eq_false, not_false_eq_true, eq_self, false_or, or_false, true_or, or_true]
  · obtain ⟨x1, x2, x3, x4⟩ := hc
    refine ⟨fun w hw => ?_, fun l hl => ?_, ?_, ?_⟩
    · obtain ⟨y1, y2, y3, y4, y5⟩ := x1 w hw
      refine ⟨?_, ?_, ?_, ?_, fun l hl => ?_⟩
      · rw [upd_ne (by omega), i1 _ (by omega)]; exact y1
      · rw [upd_ne (by omega), i1 _ (by omega)]; exact y2
      · rw [upd_ne (by omega), i1 _ (by omega)]; exact y3
      · rw [upd_ne (by omega), i1 _ (by omega)]; exact y4
      · rw [upd_ne (by omega), i1 _ (by omega)]; exact y5 l hl
    · rw [upd_ne (by omega), i2 l hl]; rfl
    · rw [upd_eq rfl]; rfl
    · rw [upd_ne (by omega), i1 _ (by omega)]; exact x4
end XA
