/-! THE MODEL: a week, its pure side and the readers of one wall -/
def undn (done : Nat → Bool) : Nat := sm (fun w => if done w = true then 0 else 1) 8
def MRb (φ : aR) (s : mS) : Prop := MRl φ s ∨ (s 67 29 = nI 1 ∧ φ = fun e => e (nI 119)) ∨ (s 67 29 = nI 2 ∧ φ = fun e => -(e (nI 109))) ∨ (s 67 29 = nI 3 ∧ φ = fun e => e (nI 113))
/-- one wall's word and what hangs there -/
def MWl (S : aS) (w : Nat) (s : mS) : Prop := s 75 w = oc (sH S w) ∧ ∀ l, l < 10 → s 76 (10 * w + l) = nI (sG S w l)
section MSB
variable {d B w l x y n c own : Nat} {s s' : mS} {T : aT} {S : aS} {A : aA} {φ : aR} {P F : List Nat} {done : Nat → Bool}
theorem sOk_bringL (ht : tOk T) (h : sOk T S B) (hw : w < 8) : sOk T (bringL S w l) B := mvS_ok ht h hw (by omega) (by
  cases hn : sH S w with
  | none => rfl
  | some x => exact Nat.zero_le _)
theorem sOk_bringW (ht : tOk T) (h : sOk T S B) (hw : w < 8) : sOk T (bringW S w) B := by
  have key : ∀ n, sOk T (itr (fun l S => bringL S w l) n S) B := by
    intro n
    induction n with
    | zero => exact h
    | succ n ih => exact sOk_bringL ht ih hw
  have ho := key 10
  have hz : ∀ l, l < 10 → sG (itr (fun l S => bringL S w l) 10 S) w l = 0 := fun l hl => by rw [bringL_G, if_pos hl]
  show sOk T (wdS (itr (fun l S => bringL S w l) 10 S) w none) B
  generalize itr (fun l S => bringL S w l) 10 S = V at ho hz ⊢
  have hzz : ∀ l, sG V w l = 0 := fun l => by
    by_cases hl : l < 10
    · exact hz l hl
    · cases hn : sH V w with
      | none => exact (wOk_n (ho.1 w) hn).1 l
      | some x =>
        have h1 := wOk_s (ho.1 w) hn
        have h2 := h1.2.2.1 l
        rw [nd_big ht h1.2.1 (by omega)] at h2
        omega
  refine ⟨fun w' => ?_, fun l hl => ho.2.1 l hl, ho.2.2⟩
  by_cases hww : w' = w
  · subst hww
    have e : sH (wdS V w' none) w' = none := if_pos rfl
    have eq : sQ (wdS V w' none) w' = 0 := if_pos rfl
    have eu : sU (wdS V w' none) w' = 0 := if_pos rfl
    unfold wOk
    rw [e, eq, eu]
    exact ⟨hzz, rfl, rfl⟩
  · have e : sH (wdS V w none) w' = sH V w' := if_neg hww
    have eq : sQ (wdS V w none) w' = sQ V w' := if_neg hww
    have eu : sU (wdS V w none) w' = sU V w' := if_neg hww
    have h1 := ho.1 w'
    unfold wOk at h1 ⊢
    rw [e, eq, eu]
    exact h1
theorem sOk_takeL (ht : tOk T) (h : sOk T S B) (hw : w < 8) : sOk T (takeL T S w l) B := mvS_ok ht h hw (by
  have := Nat.min_le_right (lck T S w l) (sL S l)
  omega) (by
  have h3 := h.1 w
  unfold lck
  cases hn : sH S w with
  | none =>
    have := (wOk_n h3 hn).1 l
    show sG S w l + min 0 (sL S l) = 0
    omega
  | some x =>
    have := (wOk_s h3 hn).2.2.1 l
    show sG S w l + min (nd T x l - sG S w l) (sL S l) ≤ nd T x l
    omega)
theorem sOk_takeW (ht : tOk T) (h : sOk T S B) (hw : w < 8) : sOk T (takeW T S w) B := by
  have key : ∀ n, sOk T (itr (fun l S => takeL T S w l) n S) B := by
    intro n
    induction n with
    | zero => exact h
    | succ n ih => exact sOk_takeL ht ih hw
  exact key 10
theorem sOk_expN (ht : tOk T) (h : sOk T S B) : ∀ n, n ≤ 8 → sOk T (expN T S n) B := by
  intro n
  induction n with
  | zero => intro _; exact h
  | succ n ih =>
    intro hn
    show sOk T (expS T (expN T S n) n) B
    unfold expS
    split
    · exact sOk_bringW ht (ih (by omega)) (by omega)
    · exact ih (by omega)
theorem expN_more (ht : tOk T) (h : sOk T S B) : ∀ n, tN T ≤ n → n ≤ 8 → expN T S n = expN T S (tN T) := by
  intro n hn
  induction hn with
  | refl => intro _; rfl
  | step hm ih =>
    rename_i m
    intro h8
    have hm : tN T ≤ m := hm
    have h8 : m + 1 ≤ 8 := h8
    show expS T (expN T S m) m = _
    unfold expS
    rw [isU_out (sOk_expN ht h m (by omega)) hm, if_neg (fun z => by cases z.1)]
    exact ih (by omega)
theorem sOk_trn (ht : tOk T) : ∀ n (done : Nat → Bool) (S : aS) (c : Nat), sOk T S B → sOk T (trn T φ n done S c).1 B := by
  intro n
  induction n with
  | zero => intro done S c h; exact h
  | succ n ih =>
    intro done S c h
    rw [trn_s]
    cases hp : pickW T φ S done with
    | none => exact h
    | some w => exact ih _ _ _ (sOk_takeW ht h (fg_lt w hp).1)
theorem sOk_wkS (ht : tOk T) (h : sOk T S B) : sOk T (wkS T φ S) (B + 1) := sOk_age (sOk_trn ht _ _ _ _ (sOk_expN ht h 8 (Nat.le_refl _)))
theorem fg_more {p : Nat → Bool} {v : Nat → Int32} {n m : Nat} (h : n ≤ m) (hz : ∀ i, n ≤ i → p i = false) : fg p v m = fg p v n := by
  induction h with
  | refl => rfl
  | step hm ih =>
    rename_i m
    rw [fg_s, fgs_w (hz m hm), ih]
theorem bts_insD {n : Nat} (hw : w < n) : bts done n ||| 2 ^ w = bts (fun j => done j || decide (j = w)) n := by
  apply Nat.eq_of_testBit_eq
  intro i
  rw [Nat.testBit_or, bts_bit, bts_bit, Nat.testBit_two_pow]
  by_cases h : w = i
  · subst h; simp [hw]
  · have h' : ¬ i = w := fun z => h z.symm
    simp [h, h']
theorem undn_le : undn done ≤ 8 := by
  have : undn done ≤ 8 * 1 := sm_le (fun w _ => by show (if done w = true then 0 else 1) ≤ 1; split <;> omega)
  omega
theorem undn_ins (hw : w < 8) (hd : done w = false) : undn (fun j => done j || decide (j = w)) + 1 = undn done := by
  have e := sm_upd (f := fun w => if done w = true then 0 else 1) (v := 0) hw
  have e1 : undn (fun j => done j || decide (j = w)) = sm (fun k => if k = w then 0 else (fun w => if done w = true then 0 else 1) k) 8 := sm_cong (fun i _ => by
    show (if (done i || decide (i = w)) = true then 0 else 1) = if i = w then 0 else if done i = true then 0 else 1
    by_cases z : i = w
    · rw [if_pos z]; simp [z]
    · rw [if_neg z]; simp [z])
  have e2 : (if done w = true then 0 else 1) = 1 := by rw [hd]; rfl
  rw [e2] at e
  rw [e1]
  exact e
theorem undn_z (h : undn done = 0) (hw : w < 8) : done w = true := by
  have := sm_allz h w hw
  revert this
  show (if done w = true then 0 else 1) = 0 → _
  cases done w with
  | true => intro _; rfl
  | false => intro z; cases z
theorem MRb_q (h : MRb φ s) (q : Eqm P F s s') (hp : 83 ∉ P) (hf : ∀ f ∈ F, f ∉ [27, 29]) : MRb φ s' := by
  have e : s' 67 29 = s 67 29 := q.2 _ (fun z => hf 29 z (by decide))
  rcases h with h | h | h | h
  · exact Or.inl (MRl_q h q hp hf)
  · exact Or.inr (Or.inl (by rw [e]; exact h))
  · exact Or.inr (Or.inr (Or.inl (by rw [e]; exact h)))
  · exact Or.inr (Or.inr (Or.inr (by rw [e]; exact h)))
theorem m_ruleBy (ht : tOk T) (ho : sOk T S B) (hT : MT T s) (h : MSt T S s) (hR : MRb φ s) (hw : w < tN T) (hn : sH S w = some x) : ∃ s', ev (d + 44 * 5 + 2 + 1) 253 0 [.inr 67, .inl (nI w)] [] s = some (0, φ (envT T S w), s') ∧ Eqm [] [19, 20, 21, 22, 23, 28] s s' := by
  have hN := ht.2.1
  have t1 := hT.2.2.2 w hw
  have t2 := h.1 w hw
  have hb8 : inb (nI w) 8 = true := n_inb (by omega) (by omega)
  have hx : ix (nI w) = w := n_ix (by omega)
  have n21 : ¬ nI 2 = (1 : Int32) := by decide +kernel
  have n31 : ¬ nI 3 = (1 : Int32) := by decide +kernel
  have n32 : ¬ nI 3 = (2 : Int32) := by decide +kernel
  rcases hR with h1 | ⟨h1, rfl⟩ | ⟨h1, rfl⟩ | ⟨h1, rfl⟩
  · exact m_ruleFor ht ho hT h h1 hw hn
  · refine ⟨s, ?_, Eqm.rf⟩
    have e : envT T S w (nI 119) = nI (tWo T w) := by unfold envT; simp (disch := omega) only [lit, nI_add, pk_mul, n_sub, n_addneg, nle_t, nle_f, nlt_t, nlt_f, neq_t, neq_f, n_inb, n_ix, bnd_some, if_true, if_false, ite_tt, ite_ff, not_true_eq_false, not_false_eq_true, eq_self, false_or, or_false, true_or, or_true]
    rw [E253_0, h1, if_neg (show ¬ ¬ nI 1 = 1 from not_not_intro rfl), if_pos hb8, hx, t1.1]
    dsimp only
    rw [e]
  · refine ⟨s, ?_, Eqm.rf⟩
    have e : envT T S w (nI 109) = nI (mis T S w) := by unfold envT; simp (disch := omega) only [lit, nI_add, pk_mul, n_sub, n_addneg, nle_t, nle_f, nlt_t, nlt_f, neq_t, neq_f, n_inb, n_ix, bnd_some, if_true, if_false, ite_tt, ite_ff, not_true_eq_false, not_false_eq_true, eq_self, false_or, or_false, true_or, or_true]
    have r4 : ev (d + 44 * 5 + 2) 256 0 [.inr 67, .inl (nI w)] [] s = some (0, nI (mis T S w), s) := m_lacking (d := d + 44 * 5 + 1) ht ho hT h hw
    rw [E253_0, h1, if_pos n21, if_neg (show ¬ ¬ nI 2 = 2 from not_not_intro rfl), r4, bnd_some]
    dsimp only
    rw [e]
  · refine ⟨s, ?_, Eqm.rf⟩
    have e : envT T S w (nI 113) = nI (sQ S w) := by unfold envT; simp (disch := omega) only [lit, nI_add, pk_mul, n_sub, n_addneg, nle_t, nle_f, nlt_t, nlt_f, neq_t, neq_f, n_inb, n_ix, bnd_some, if_true, if_false, ite_tt, ite_ff, not_true_eq_false, not_false_eq_true, eq_self, false_or, or_false, true_or, or_true]
    rw [E253_0, h1, if_pos n31, if_pos n32, if_neg (show ¬ ¬ nI 3 = 3 from not_not_intro rfl), if_pos hb8, hx, t2.2.1]
    dsimp only
    rw [e]
theorem MWl_of (h : MSt T S s) (hw : w < tN T) : MWl S w s := ⟨(h.1 w hw).1, (h.1 w hw).2.2.2⟩
theorem MWl_q (h : MWl S w s) (q : Eqm P F s s') (h1 : 75 ∉ P) (h2 : 76 ∉ P) : MWl S w s' := by
  unfold MWl at h ⊢
  rw [q.1 _ h1 (by decide), q.1 _ h2 (by decide)]; exact h
theorem g_hangsOn (h : MWl S w s) (hw : w < 8) : ev d 255 0 [.inr 67, .inl (nI w), .inr 0, .inr 0] [] s = some (0, nI (hgs S w), s) := by
  have g := loopU (fun i a => ev d 255 4 [.inr 67, .inl (nI w), .inl (nI a), .inl (nI i)] [] s) (fun l a => a + sG S w l) 10 (fun l a hl => by
    have e := h.2 l hl
    rw [E255_4]
    simp (disch := omega) only [e, lit, nI_add, pk_mul, n_sub, n_addneg, nle_t, nle_f, nlt_t, nlt_f, neq_t, neq_f, n_inb, n_ix, bnd_some, if_true, if_false, ite_tt, ite_ff, not_true_eq_false, not_false_eq_true, eq_self, false_or, or_false, true_or, or_true]) 0
  rw [E255_0]
  simp only [lit]
  refine g.trans ?_
  rw [E255_4]
  simp (disch := omega) only [lit, nI_add, pk_mul, n_sub, n_addneg, nle_t, nle_f, nlt_t, nlt_f, neq_t, neq_f, n_inb, n_ix, bnd_some, if_true, if_false, ite_tt, ite_ff, not_true_eq_false, not_false_eq_true, eq_self, false_or, or_false, true_or, or_true]
  rfl
theorem g_lacking (ht : tOk T) (ho : sOk T S B) (hT : MT T s) (h : MWl S w s) (hw : w < 8) : ev (d + 1) 256 0 [.inr 67, .inl (nI w)] [] s = some (0, nI (mis T S w), s) := by
  have e0 := h.1
  rw [E256_0, n_ix (by omega), e0, if_pos (n_inb (by omega) (by omega))]
  unfold mis
  cases hn : sH S w with
  | none =>
    rw [if_neg (show ¬ ¬ oc none = -1 from not_not_intro rfl), E256_31]
    rfl
  | some x =>
    have hx := (wOk_s (ho.1 w) hn).2.1
    have hW := ht.1
    have es := (hT.2.2.1 x hx).1
    have hgl := hgs_len ht (ho.1 w) hn
    rw [if_pos (show ¬ oc (some x) = -1 from oc_ne.resolve_right (by omega))]
    simp (disch := omega) only [oc_some, n_inb, if_true, n_ix, g_hangsOn h hw, bnd_some, es, E256_31, n_sub]
theorem g_isUp (ht : tOk T) (ho : sOk T S B) (hT : MT T s) (h : MWl S w s) (hw : w < 8) : ev (d + 1 + 1) 257 0 [.inr 67, .inl (nI w)] [] s = some (0, bI (isU T S w), s) := by
  have e0 := h.1
  have e1 := g_lacking (d := d) ht ho hT h hw
  have hm := mis_le ht (ho.1 w)
  rw [E257_0, n_ix (by omega), e0, if_pos (n_inb (by omega) (by omega))]
  unfold isU isW
  cases hn : sH S w with
  | none =>
    rw [if_pos (show oc none = -1 from rfl), E257_22, E257_23]
    exact if_pos (Or.inl rfl)
  | some x =>
    have hx := (wOk_s (ho.1 w) hn).2.1
    have hW := ht.1
    rw [if_neg (show ¬ oc (some x) = -1 from oc_ne.resolve_right (by omega)), e1, bnd_some]
    by_cases hz : mis T S w = 0
    · rw [hz, if_neg (show ¬ ¬ nI 0 = 0 from not_not_intro rfl), E257_23]
      exact if_pos (Or.inr rfl)
    · rw [if_pos (show ¬ nI (mis T S w) = 0 from fun z => hz ((nI_eq (by omega) (by omega)).mp z)), E257_22, E257_23, decide_eq_false hz]
      exact if_pos (Or.inl rfl)
theorem g_isWaiting (ht : tOk T) (ho : sOk T S B) (hT : MT T s) (h : MWl S w s) (hw : w < 8) : ev (d + 1 + 1) 258 0 [.inr 67, .inl (nI w)] [] s = some (0, bI (isQ T S w), s) := by
  have e0 := h.1
  have e1 := g_lacking (d := d) ht ho hT h hw
  have hm := mis_le ht (ho.1 w)
  rw [E258_0, n_ix (by omega), e0, if_pos (n_inb (by omega) (by omega))]
  unfold isQ
  cases hn : sH S w with
  | none =>
    have : mis T S w = 0 := by unfold mis; rw [hn]
    rw [if_pos (show oc none = -1 from rfl), E258_22, E258_23, this]
    exact if_pos (Or.inl rfl)
  | some x =>
    have hx := (wOk_s (ho.1 w) hn).2.1
    have hW := ht.1
    rw [if_neg (show ¬ oc (some x) = -1 from oc_ne.resolve_right (by omega)), e1, bnd_some]
    by_cases hz : 0 < mis T S w
    · rw [if_neg (show ¬ nI (mis T S w) ≤ 0 from nI_ge hz (by omega)), E258_23, decide_eq_true hz]
      exact if_pos (Or.inr rfl)
    · rw [if_pos (show nI (mis T S w) ≤ 0 from nI_le (b := 0) (by omega) (by omega)), E258_22, E258_23, decide_eq_false hz]
      exact if_pos (Or.inl rfl)
end MSB
