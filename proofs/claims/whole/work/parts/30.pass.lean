/-! A WEEK PASSES: the class's -/
def expN (T : aT) (S : aS) (n : Nat) : aS := itr (fun w S => expS T S w) n S
section XTP
variable {d k kr w l B x n : Nat} {s s' : mS} {T : aT} {S : aS} {φ : aR} {c c' : Nat → Int32}
theorem ageN_0 : ageN T S 0 = S := by
  unfold ageN
  refine Prod.ext rfl (Prod.ext rfl (Prod.ext rfl (Prod.ext ?_ (Prod.ext ?_ rfl))))
  · funext w; exact if_neg (c := w < 0 ∧ isU T S w = false ∧ isQ T S w = true) (t := sQ S w + 1) (fun z => absurd z.1 (Nat.not_lt_zero _))
  · funext w; exact if_neg (c := w < 0 ∧ isU T S w = true) (t := sU S w + 1) (fun z => absurd z.1 (Nat.not_lt_zero _))
theorem ageN_ne (h : w ≠ n) : sQ (ageN T S (n + 1)) w = sQ (ageN T S n) w ∧ sU (ageN T S (n + 1)) w = sU (ageN T S n) w := by
  have e : (w < n + 1) = (w < n) := propext ⟨fun z => by omega, fun z => by omega⟩
  constructor
  · show (if w < n + 1 ∧ isU T S w = false ∧ isQ T S w = true then sQ S w + 1 else sQ S w) = (if w < n ∧ isU T S w = false ∧ isQ T S w = true then sQ S w + 1 else sQ S w); simp only [e]
  · show (if w < n + 1 ∧ isU T S w = true then sU S w + 1 else sU S w) = (if w < n ∧ isU T S w = true then sU S w + 1 else sU S w); simp only [e]
theorem ageN_big (h : n ≤ w) : sQ (ageN T S n) w = sQ S w ∧ sU (ageN T S n) w = sU S w :=
  ⟨if_neg (fun z => by have := z.1; omega), if_neg (fun z => by have := z.1; omega)⟩
theorem XC_age (hc : XC T (ageN T S n) c) (e : ∀ j, j < 124 → j ≠ 16 + n → j ≠ 24 + n → c' j = c j) (hn : n < 8) (e1 : c' (16 + n) = nI (sQ (ageN T S (n + 1)) n)) (e2 : c' (24 + n) = nI (sU (ageN T S (n + 1)) n)) : XC T (ageN T S (n + 1)) c' := by
  obtain ⟨x1, x2, x3, x4⟩ := hc
  refine ⟨fun w hw => ?_, fun l hl => by rw [e _ (by omega) (by omega) (by omega)]; exact x2 l hl, by rw [e _ (by omega) (by omega) (by omega)]; exact x3, by rw [e _ (by omega) (by omega) (by omega)]; exact x4⟩
  obtain ⟨y1, y2, y3, y4, y5⟩ := x1 w hw
  refine ⟨by rw [e _ (by omega) (by omega) (by omega)]; exact y1, by rw [e _ (by omega) (by omega) (by omega)]; exact y2, ?_, ?_, fun l hl => by rw [e _ (by omega) (by omega) (by omega)]; exact y5 l hl⟩
  · by_cases hwn : w = n
    · subst hwn; exact e1
    · rw [e _ (by omega) (by omega) (by omega), (ageN_ne hwn).1]; exact y3
  · by_cases hwn : w = n
    · subst hwn; exact e2
    · rw [e _ (by omega) (by omega) (by omega), (ageN_ne hwn).2]; exact y4
theorem wOk_age (h : wOk T S w) (hn : n ≤ w) : wOk T (ageN T S n) w := by
  unfold wOk at h ⊢
  have e := ageN_big (T := T) (S := S) hn
  rw [e.1, e.2]
  exact h
theorem sOk_age (h : sOk T S B) : sOk T (ageW T S) (B + 1) := by
  refine ⟨fun w => ?_, fun l hl => h.2.1 l hl, by show sK S + 1 ≤ B + 1; have := h.2.2; omega⟩
  have hw := h.1 w
  have hq : sQ (ageW T S) w = if w < 8 ∧ isU T S w = false ∧ isQ T S w = true then sQ S w + 1 else sQ S w := rfl
  have hu : sU (ageW T S) w = if w < 8 ∧ isU T S w = true then sU S w + 1 else sU S w := rfl
  cases hn : sH S w with
  | none =>
    obtain ⟨h1, h2, h3⟩ := wOk_n hw hn
    have : sH (ageW T S) w = none := hn
    unfold wOk
    rw [this]
    have hu0 : isU T S w = false := isU_none hn
    have hq0 : isQ T S w = false := by unfold isQ mis; rw [hn]; rfl
    refine ⟨h1, ?_, ?_⟩
    · rw [hq, if_neg (fun z => by rw [hq0] at z; exact absurd z.2.2 (by simp))]; exact h2
    · rw [hu, if_neg (fun z => by rw [hu0] at z; exact absurd z.2 (by simp))]; exact h3
  | some x =>
    obtain ⟨h1, h2, h3, h4, h5⟩ := wOk_s hw hn
    have : sH (ageW T S) w = some x := hn
    unfold wOk
    rw [this]
    have hk : sK (ageW T S) = sK S + 1 := rfl
    refine ⟨h1, h2, h3, ?_, ?_⟩
    · rw [hq, hk]; split <;> omega
    · rw [hu, hk]; split <;> omega
theorem x_exp (ht : tOk T) (hT : XT T s) (ho : sOk T S B) (hB : B < 2147483000) (hr : isR kr) (hk : isK k) (hc : XC T S (s (mRf k 1))) : ∀ n, n ≤ 8 → ∃ c', ev (d + 1 + 1) 125 2 [.inr k, .inr kr, .inl (nI 0), .inr 0] [] s = ev (d + 1 + 1) 125 2 [.inr k, .inr kr, .inl (nI n), .inr 0] [] (setA s (mRf k 1) c') ∧ XC T (expN T S n) c' ∧ sOk T (expN T S n) B := by
  intro n
  induction n with
  | zero => intro _; exact ⟨s (mRf k 1), by rw [setA_same], hc, ho⟩
  | succ n ih =>
    intro hn
    obtain ⟨c1, e1, i1, o1⟩ := ih (by omega)
    have hn8 : n < 8 := by omega
    have hc1 : XC T (expN T S n) ((setA s (mRf k 1) c1) (mRf k 1)) := by rw [setA_at]; exact i1
    have hT1 := XT_set (f := c1) hT (mRf_big hk)
    have hs : expN T S (n + 1) = expS T (expN T S n) n := rfl
    have hu := (sU_le (w := n) o1).1
    rw [hs]
    unfold expS
    cases hup : isU T (expN T S n) n with
    | false =>
      rw [if_neg (fun z => absurd z.1 (by simp))]
      refine ⟨c1, ?_, i1, o1⟩
      rw [e1, E125_2 (hk0 := hk) (hk1 := hr)]
      simp (disch := omega) only [x_isUp ht (o1.1 n) hk hc1 hn8, hup, bI_f, E125_38 (hk0 := hk) (hk1 := hr), lit, nI_add, pk_mul, n_sub, n_addneg, nle_t, nle_f, nlt_t, nlt_f, neq_t, neq_f, n_inb, n_ix, bnd_some, if_true, if_false, ite_tt, ite_ff, not_true_eq_false, not_false_eq_true, eq_self, false_or, or_false, true_or, or_true]
    | true =>
      obtain ⟨x, hx, hwn, -⟩ := isU_lt o1 hup
      have hte := ht.2.2.2 n hwn
      by_cases hle : tTe T n ≤ sU (expN T S n) n
      · rw [if_pos ⟨rfl, hle⟩]
        obtain ⟨c2, e2, i2, o2, -⟩ := x_bring (d := d) ht hT1 o1 hk hc1 hn8
        refine ⟨c2, ?_, i2, o2⟩
        rw [e1, E125_2 (hk0 := hk) (hk1 := hr)]
        simp (disch := omega) only [x_isUp ht (o1.1 n) hk hc1 hn8, hup, bI_t, x_shown hk hc1 hn8, x_term ht hT1 hwn, e2, setA_twice, E125_38 (hk0 := hk) (hk1 := hr), lit, nI_add, pk_mul, n_sub, n_addneg, nle_t, nle_f, nlt_t, nlt_f, neq_t, neq_f, n_inb, n_ix, bnd_some, if_true, if_false, ite_tt, ite_ff, not_true_eq_false, not_false_eq_true, eq_self, false_or, or_false, true_or, or_true]
      · rw [if_neg (fun z => hle z.2)]
        refine ⟨c1, ?_, i1, o1⟩
        rw [e1, E125_2 (hk0 := hk) (hk1 := hr)]
        simp (disch := omega) only [x_isUp ht (o1.1 n) hk hc1 hn8, hup, bI_t, x_shown hk hc1 hn8, x_term ht hT1 hwn, E125_38 (hk0 := hk) (hk1 := hr), lit, nI_add, pk_mul, n_sub, n_addneg, nle_t, nle_f, nlt_t, nlt_f, neq_t, neq_f, n_inb, n_ix, bnd_some, if_true, if_false, ite_tt, ite_ff, not_true_eq_false, not_false_eq_true, eq_self, false_or, or_false, true_or, or_true]
theorem x_ages {a : Int32} (ht : tOk T) (ho : sOk T S B) (hB : B < 2147483000) (hk : isK k) (hc : XC T S (s (mRf k 1))) : ∀ n, n ≤ 8 → ∃ c', ev (d + 1) 125 52 [.inr k, .inr 0, .inl a, .inl (nI 0)] [] s = ev (d + 1) 125 52 [.inr k, .inr 0, .inl a, .inl (nI n)] [] (setA s (mRf k 1) c') ∧ XC T (ageN T S n) c' := by
  intro n
  induction n with
  | zero => intro _; exact ⟨s (mRf k 1), by rw [setA_same], by rw [ageN_0]; exact hc⟩
  | succ n ih =>
    intro hn
    obtain ⟨c1, e1, i1⟩ := ih (by omega)
    have hn8 : n < 8 := by omega
    have hc1 : XC T (ageN T S n) ((setA s (mRf k 1) c1) (mRf k 1)) := by rw [setA_at]; exact i1
    have ow := wOk_age (n := n) (ho.1 n) (Nat.le_refl _)
    have hU : isU T (ageN T S n) n = isU T S n := rfl
    have hQ : isQ T (ageN T S n) n = isQ T S n := rfl
    have eQ : sQ (ageN T S (n + 1)) n = if n < n + 1 ∧ isU T S n = false ∧ isQ T S n = true then sQ S n + 1 else sQ S n := rfl
    have eU : sU (ageN T S (n + 1)) n = if n < n + 1 ∧ isU T S n = true then sU S n + 1 else sU S n := rfl
    have b := ageN_big (T := T) (S := S) (Nat.le_refl n)
    obtain ⟨-, -, y3, y4, -⟩ := i1.1 n hn8
    rw [b.1] at y3
    rw [b.2] at y4
    have hu := sU_le (w := n) ho
    cases hup : isU T S n with
    | true =>
      refine ⟨upd c1 (24 + n) (nI (sU S n + 1)), ?_, XC_age i1 (fun j _ h1 h2 => upd_ne h2) hn8 ?_ ?_⟩
      · rw [e1, E125_52 (hk0 := hk)]
        simp (disch := omega) only [x_isUp ht ow hk hc1 hn8, hU, hup, bI_t, setA_at, up_set, setA_twice, y4, E125_103 (hk0 := hk), lit, nI_add, pk_mul, n_sub, n_addneg, nle_t, nle_f, nlt_t, nlt_f, neq_t, neq_f, n_inb, n_ix, bnd_some, if_true, if_false, ite_tt, ite_ff, not_true_eq_false, not_false_eq_true, eq_self, false_or, or_false, true_or, or_true]
      · rw [upd_ne (by omega), eQ, if_neg (fun z => by rw [hup] at z; exact absurd z.2.1 (by simp))]; exact y3
      · rw [upd_eq rfl, eU, if_pos ⟨by omega, hup⟩]
    | false =>
      have hu' : ¬ (n < n + 1 ∧ isU T S n = true) := fun z => by rw [hup] at z; exact absurd z.2 (by simp)
      cases hq : isQ T S n with
      | true =>
        refine ⟨upd c1 (16 + n) (nI (sQ S n + 1)), ?_, XC_age i1 (fun j _ h1 h2 => upd_ne h1) hn8 ?_ ?_⟩
        · rw [e1, E125_52 (hk0 := hk)]
          simp (disch := omega) only [x_isUp ht ow hk hc1 hn8, hU, hup, bI_f, x_waits ht ow hk hc1 hn8, hQ, hq, bI_t, setA_at, up_set, setA_twice, y3, E125_103 (hk0 := hk), lit, nI_add, pk_mul, n_sub, n_addneg, nle_t, nle_f, nlt_t, nlt_f, neq_t, neq_f, n_inb, n_ix, bnd_some, if_true, if_false, ite_tt, ite_ff, not_true_eq_false, not_false_eq_true, eq_self, false_or, or_false, true_or, or_true]
        · rw [upd_eq rfl, eQ, if_pos ⟨by omega, hup, hq⟩]
        · rw [upd_ne (by omega), eU, if_neg hu']; exact y4
      | false =>
        refine ⟨c1, ?_, XC_age i1 (fun j _ h1 h2 => rfl) hn8 ?_ ?_⟩
        · rw [e1, E125_52 (hk0 := hk)]
          simp (disch := omega) only [x_isUp ht ow hk hc1 hn8, hU, hup, bI_f, x_waits ht ow hk hc1 hn8, hQ, hq, E125_103 (hk0 := hk), lit, nI_add, pk_mul, n_sub, n_addneg, nle_t, nle_f, nlt_t, nlt_f, neq_t, neq_f, n_inb, n_ix, bnd_some, if_true, if_false, ite_tt, ite_ff, not_true_eq_false, not_false_eq_true, eq_self, false_or, or_false, true_or, or_true]
        · rw [eQ, if_neg (fun z => by rw [hq] at z; exact absurd z.2.2 (by simp))]; exact y3
        · rw [eU, if_neg hu']; exact y4
theorem x_week (ht : tOk T) (hT : XT T s) (ho : sOk T S B) (hB : B < 2147483000) (hr : isR kr) (hR : XR φ kr s) (hk : isK k) (hc : XC T S (s (mRf k 1))) :
    ∃ s', ev (d + 1 + 1 + 1 + 1) 125 0 [.inr k, .inr kr, .inr 0, .inr 0] [] s = some (0, nI (wkR T φ S).2, s') ∧ Eqx (fr k kr) s s' ∧ XC T (wkS T φ S) (s' (mRf k 1)) ∧ sOk T (wkS T φ S) (B + 1) := by
  obtain ⟨c1, e1, i1, o1⟩ := x_exp (d := d + 1 + 1) ht hT ho hB hr hk hc 8 (Nat.le_refl _)
  have q1 : Eqx (fr k kr) s (setA s (mRf k 1) c1) := Eqx.rf.set (by simp [fr])
  have hfk := fr_kr hr hk
  obtain ⟨s2, e2, q2, i2, o2⟩ := x_takeInTurn (d := d) ht hr hk (XT_eqx hT q1 (fr_big hr hk)) o1 (XR_eq hR (q1 _ hfk.1) (q1 _ hfk.2)) (by rw [setA_at]; exact i1)
  obtain ⟨c3, e3, i3⟩ := x_ages (d := d + 1 + 1 + 1) (a := nI (wkR T φ S).2) ht o2 hB hk i2 8 (Nat.le_refl _)
  have y4 := i3.2.2.2
  have hK := o2.2.2
  refine ⟨setA s2 (mRf k 1) (upd c3 43 (nI (sK (wkR T φ S).1 + 1))), ?_, (q1.tr q2).set (by simp [fr]), ?_, sOk_age o2⟩
  · rw [E125_0 (hk0 := hk) (hk1 := hr)]
    have e1 : ev (d + 1 + 1 + 1 + 1) 125 2 [.inr k, .inr kr, .inl 0, .inr 0] [] s = _ := e1
    rw [e1, E125_2 (hk0 := hk) (hk1 := hr)]
    simp (disch := omega) only [e2, lit, nI_add, pk_mul, n_sub, n_addneg, nle_t, nle_f, nlt_t, nlt_f, neq_t, neq_f, n_inb, n_ix, bnd_some, if_true, if_false, ite_tt, ite_ff, not_true_eq_false, not_false_eq_true, eq_self, false_or, or_false, true_or, or_true]
    have e3' : ev (d + 1 + 1 + 1 + 1) 125 52 [.inr k, .inr 0, .inl (nI (trn T φ 8 (fun _ => false) (expN T S 8) 0).2), .inl (nI 0)] [] s2 = _ := e3
    rw [e3', E125_52 (hk0 := hk)]
    have y4' : c3 43 = nI (sK (wkR T φ S).1) := y4
    simp (disch := omega) only [setA_at, up_set, setA_twice, y4', lit, nI_add, pk_mul, n_sub, n_addneg, nle_t, nle_f, nlt_t, nlt_f, neq_t, neq_f, n_inb, n_ix, bnd_some, if_true, if_false, ite_tt, ite_ff, not_true_eq_false, not_false_eq_true, eq_self, false_or, or_false, true_or, or_true]
  · rw [setA_at]
    obtain ⟨x1, x2, x3, x4⟩ := i3
    exact ⟨fun w hw => by
      obtain ⟨y1, y2, y3, y4, y5⟩ := x1 w hw
      refine ⟨?_, ?_, ?_, ?_, fun l hl => ?_⟩
      · rw [upd_ne (by omega)]; exact y1
      · rw [upd_ne (by omega)]; exact y2
      · rw [upd_ne (by omega)]; exact y3
      · rw [upd_ne (by omega)]; exact y4
      · rw [upd_ne (by omega)]; exact y5 l hl, fun l hl => by rw [upd_ne (by omega)]; exact x2 l hl, by rw [upd_ne (by omega)]; exact x3, by rw [upd_eq rfl]; rfl⟩
end XTP
