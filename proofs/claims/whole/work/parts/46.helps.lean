/-! CALLS: helps -/
/-- all below n -/
def allN (p : Nat → Bool) (n : Nat) : Bool := itr (fun i b => b && p i) n true
theorem allN_s {p : Nat → Bool} {n : Nat} : allN p (n + 1) = (allN p n && p n) := rfl
theorem allN_iff {p : Nat → Bool} {n : Nat} : allN p n = true ↔ ∀ i, i < n → p i = true := by
  induction n with
  | zero => exact ⟨fun _ i hi => absurd hi (Nat.not_lt_zero i), fun _ => rfl⟩
  | succ n ih =>
    rw [allN_s, Bool.and_eq_true, ih]
    refine ⟨fun h i hi => ?_, fun h => ⟨fun i hi => h i (by omega), h n (by omega)⟩⟩
    by_cases hin : i = n
    · rw [hin]; exact h.2
    · exact h.1 i (by omega)
theorem allN_f {p : Nat → Bool} {n i : Nat} (hi : i < n) (h : p i = false) : allN p n = false := by
  cases hh : allN p n with
  | false => rfl
  | true => rw [allN_iff.mp hh i hi] at h; cases h
theorem allN_cong {p q : Nat → Bool} {n : Nat} (h : ∀ i, i < n → p i = q i) : allN p n = allN q n := by
  induction n with
  | zero => rfl
  | succ n ih => rw [allN_s, allN_s, ih (fun i hi => h i (by omega)), h n (by omega)]
/-- a loop that goes on as long as all is well -/
theorem loopA {β : Type} (F : Nat → β) (p : Nat → Bool) (R : β) (n : Nat) (h1 : ∀ i, i < n → p i = true → F i = F (i + 1)) (h2 : ∀ i, i < n → p i = false → F i = R) : F 0 = if allN p n = true then F n else R := by
  have key : ∀ k, k ≤ n → (allN p k = true → F 0 = F k) ∧ (allN p k = false → F 0 = R) := by
    intro k
    induction k with
    | zero => intro _; exact ⟨fun _ => rfl, fun h => by cases h⟩
    | succ k ih =>
      intro hk
      obtain ⟨g1, g2⟩ := ih (by omega)
      rw [allN_s]
      refine ⟨fun h => ?_, fun h => ?_⟩
      · rw [Bool.and_eq_true] at h
        rw [g1 h.1, h1 k (by omega) h.2]
      · cases ha : allN p k with
        | false => exact g2 ha
        | true =>
          rw [ha, Bool.true_and] at h
          rw [g1 ha, h2 k (by omega) h]
  cases ha : allN p n with
  | true => rw [if_pos rfl]; exact (key n (Nat.le_refl n)).1 ha
  | false => rw [if_neg (by simp)]; exact (key n (Nat.le_refl n)).2 ha
/-- lent over and over -/
def lnK (S : aS) (f t l k : Nat) : aS := itr (fun _ S => lendW S f t l) k S
theorem lnK_s {S : aS} {f t l k : Nat} : lnK S f t l (k + 1) = lendW (lnK S f t l k) f t l := rfl
/-- how many letters a wall can lend another -/
def lnM (T : aT) (S : aS) (f t l : Nat) : Nat := if f = t then 0 else min (sG S f l) (lck T S t l)
theorem lendW_G {S : aS} {f t l w k : Nat} (hft : f ≠ t) : sG (lendW S f t l) w k = if w = t ∧ k = l then sG S t l + 1 else if w = f ∧ k = l then sG S f l - 1 else sG S w k := by
  unfold lendW
  rw [mvS_G, mvS_G]
theorem lendW_H {S : aS} {f t l : Nat} : sH (lendW S f t l) = sH S := rfl
theorem lck_d {T : aT} {S : aS} {w l : Nat} : lck T S w l = match sH S w with
  | none => 0
  | some x => nd T x l - sG S w l := rfl
theorem lnK_G {S : aS} {f t l k : Nat} (hft : f ≠ t) : sG (lnK S f t l k) f l = sG S f l - k ∧ sG (lnK S f t l k) t l = sG S t l + k := by
  induction k with
  | zero => exact ⟨rfl, rfl⟩
  | succ k ih =>
    rw [lnK_s, lendW_G hft, lendW_G hft, if_neg (fun z => hft z.1), if_pos ⟨rfl, rfl⟩, if_pos ⟨rfl, rfl⟩, ih.1, ih.2]
    omega
theorem lnK_H {S : aS} {f t l k : Nat} : sH (lnK S f t l k) = sH S := by
  induction k with
  | zero => rfl
  | succ k ih => rw [lnK_s, lendW_H, ih]
theorem lnK_L {T : aT} {S : aS} {f t l k : Nat} (hft : f ≠ t) : lck T (lnK S f t l k) t l = lck T S t l - k := by
  rw [lck_d, lck_d, lnK_H]
  cases sH S t with
  | none => show 0 = 0 - k; omega
  | some x =>
    show nd T x l - sG (lnK S f t l k) t l = nd T x l - sG S t l - k
    rw [(lnK_G hft).2]
    omega
/-- the lendings of one wall; what is told -/
def hpS (T : aT) (w l f : Nat) (r : List Int32 × aS) : List Int32 × aS := if isQ T r.2 f = true then (r.1 ++ List.replicate (lnM T r.2 f w l) (nI (100 * f + 10 * w + l)), lnK r.2 f w l (lnM T r.2 f w l)) else r
def hpL (T : aT) (w l n : Nat) (r : List Int32 × aS) : List Int32 × aS := itr (fun f r => hpS T w l f r) n r
def hpA (T : aT) (w n : Nat) (r : List Int32 × aS) : List Int32 × aS := itr (fun l r => hpL T w l (tN T) r) n r
/-- whether the others that wait have what a wall lacks -/
def cbh (T : aT) (S : aS) (w : Nat) : Bool := allN (fun l => decide (lck T S w l ≤ sm (fun f => if f ≠ w ∧ isQ T S f = true then sG S f l else 0) 8)) 10
def o_helps (A : aA) (w : Int32) : aA × Int32 := if inN w (tN (gT A)) = false then (A, -nI 1) else if isQ (gT A) (gS A) (ix w) = false then (A, -nI 3) else if cbh (gT A) (takeW (gT A) (gS A) (ix w)) (ix w) = false then (A, -nI 2) else (wW A ((hpA (gT A) (ix w) 10 ([], takeW (gT A) (gS A) (ix w))).1.take 10), nI (mis (gT A) (takeW (gT A) (gS A) (ix w)) (ix w)))
section XCB
variable {d B : Nat} {s s' : mS} {T : aT} {S : aS} {A : aA} {f t l w : Nat} {a : Int32} {L : List Int32}
theorem rfs_n (hf : f < tN T) (ht : t < tN T) (hN : tN T ≤ 8) (hl : l < 10) : rfs T S (nI f) (nI t) (nI l) = if f = t then -nI 1 else if sG S f l = 0 then -nI 2 else if lck T S t l = 0 then -nI 3 else nI 0 := by
  unfold rfs
  rw [inN_n (by omega) (by omega), inN_n (by omega) (by omega), inN_n (by omega) (by omega), n_ix (by omega), n_ix (by omega), n_ix (by omega)]
  by_cases h : f = t
  · rw [if_pos h, if_pos (Or.inr (Or.inr (Or.inl (congrArg nI h))))]
  · rw [if_neg h, if_neg]
    intro z
    rcases z with z | z | z | z
    · exact absurd hf (of_decide_eq_false z)
    · exact absurd ht (of_decide_eq_false z)
    · exact h ((nI_eq (by omega) (by omega)).mp z)
    · exact absurd hl (of_decide_eq_false z)
theorem x_lendAllL (ht : tOk T) (hT : XT T s) (ho : sOk T S B) (hc : XC T S (s 41)) (hf : f < tN T) (hw : w < tN T) (hl : l < 10) (hW : XW (L.take 10) s) : ∀ k, k ≤ lnM T S f w l → ∃ s', ev (d + 1 + 1 + 1 + 1) 225 15 [.inr 1, .inl (nI f), .inl (nI w), .inl (nI l), .inl (nI 0)] [] s = ev (d + 1 + 1 + 1 + 1) 225 15 [.inr 1, .inl (nI f), .inl (nI w), .inl (nI l), .inl (nI k)] [] s' ∧ XC T (lnK S f w l k) (s' 41) ∧ sOk T (lnK S f w l k) B ∧ XW ((L ++ List.replicate k (nI (100 * f + 10 * w + l))).take 10) s' ∧ Eqx [41, 4, 5] s s' := by
  intro k
  induction k with
  | zero => intro _; exact ⟨s, rfl, hc, ho, by simpa using hW, Eqx.rf⟩
  | succ k ih =>
    intro hk
    obtain ⟨s1, e1, c1, o1, w1, q1⟩ := ih (by omega)
    have hN := ht.2.1
    have hfw : f ≠ w := fun z => by
      unfold lnM at hk
      rw [if_pos z] at hk
      omega
    have hm : k + 1 ≤ min (sG S f l) (lck T S w l) := by
      unfold lnM at hk
      rw [if_neg hfw] at hk
      exact hk
    have b1 := sG_le (l := l) ht (ho.1 f)
    have r0 : rfs T (lnK S f w l k) (nI f) (nI w) (nI l) = nI 0 := by
      rw [rfs_n hf hw hN hl, if_neg hfw, (lnK_G hfw).1, lnK_L hfw, if_neg (by omega), if_neg (by omega)]
    have g := x_lendOn (d := d) (f := nI f) (t := nI w) (l := nI l) ht (XT_q hT q1 (by decide)) o1 c1
    rw [if_neg (by rw [r0]; decide +kernel), n_ix (by omega), n_ix (by omega), n_ix (by omega)] at g
    obtain ⟨c', e2, i2, o2⟩ := g
    have q2 : Eqx [41, 4, 5] s1 (setA s1 41 c') := Eqx.rf.set (by simp)
    have w2 := XW_q (P := [41]) w1 (Eqx.rf.set (a := 41) (f := c') (by simp)) (by decide) (by decide)
    have e3 := x_rsize (d := d + 1 + 1 + 1) w2
    have lt : ((L ++ List.replicate k (nI (100 * f + 10 * w + l))).take 10).length ≤ 10 := by rw [List.length_take]; exact Nat.min_le_left _ _
    have er : L ++ List.replicate (k + 1) (nI (100 * f + 10 * w + l)) = (L ++ List.replicate k (nI (100 * f + 10 * w + l))) ++ [nI (100 * f + 10 * w + l)] := by
      rw [List.append_assoc, List.replicate_succ']
    rw [er]
    generalize L ++ List.replicate k (nI (100 * f + 10 * w + l)) = M at w1 w2 e3 lt ⊢
    by_cases h10 : (M.take 10).length < 10
    · obtain ⟨s4, e4, w4, q4⟩ := x_add (d := d + 1 + 1 + 1) (a := nI (100 * f + 10 * w + l)) w2 (by omega)
      have hM : M.take 10 = M := List.take_of_length_le (by rw [List.length_take] at h10; omega)
      refine ⟨s4, ?_, by rw [q4 _ (by decide), setA_at]; exact i2, o2, ?_, (q1.tr q2).tr (q4.mono (by simp))⟩
      · rw [e1, E225_15]
        simp (disch := omega) only [e2, e3, e4, lit, nI_add, pk_mul, n_sub, n_addneg, nle_t, nle_f, nlt_t, nlt_f, neq_t, neq_f, n_inb, n_ix, bnd_some, if_true, if_false, ite_tt, ite_ff, not_true_eq_false, not_false_eq_true, eq_self, false_or, or_false, true_or, or_true]
        rw [E225_63]
        simp (disch := omega) only [lit, nI_add, pk_mul, n_sub, n_addneg, nle_t, nle_f, nlt_t, nlt_f, neq_t, neq_f, n_inb, n_ix, bnd_some, if_true, if_false, ite_tt, ite_ff, not_true_eq_false, not_false_eq_true, eq_self, false_or, or_false, true_or, or_true]
      · have : (M ++ [nI (100 * f + 10 * w + l)]).take 10 = M.take 10 ++ [nI (100 * f + 10 * w + l)] := by
          rw [hM, List.take_of_length_le]
          rw [hM] at h10
          simp; omega
        rw [this]; exact w4
    · refine ⟨setA s1 41 c', ?_, by rw [setA_at]; exact i2, o2, ?_, q1.tr q2⟩
      · rw [e1, E225_15]
        simp (disch := omega) only [e2, e3, lit, nI_add, pk_mul, n_sub, n_addneg, nle_t, nle_f, nlt_t, nlt_f, neq_t, neq_f, n_inb, n_ix, bnd_some, if_true, if_false, ite_tt, ite_ff, not_true_eq_false, not_false_eq_true, eq_self, false_or, or_false, true_or, or_true]
        rw [E225_63]
        simp (disch := omega) only [lit, nI_add, pk_mul, n_sub, n_addneg, nle_t, nle_f, nlt_t, nlt_f, neq_t, neq_f, n_inb, n_ix, bnd_some, if_true, if_false, ite_tt, ite_ff, not_true_eq_false, not_false_eq_true, eq_self, false_or, or_false, true_or, or_true]
      · have : (M ++ [nI (100 * f + 10 * w + l)]).take 10 = M.take 10 := by
          rw [List.length_take] at h10
          rw [List.take_append_of_le_length (by omega)]
        rw [this]; exact w2
theorem x_lendAll (ht : tOk T) (hT : XT T s) (ho : sOk T S B) (hc : XC T S (s 41)) (hf : f < tN T) (hw : w < tN T) (hl : l < 10) (hW : XW (L.take 10) s) : ∃ s', ev (d + 1 + 1 + 1 + 1) 225 0 [.inr 1, .inl (nI f), .inl (nI w), .inl (nI l), .inr 0] [] s = some (0, 0, s') ∧ XC T (hpS T w l f (L, S)).2 (s' 41) ∧ sOk T (hpS T w l f (L, S)).2 B ∧ XW ((hpS T w l f (L, S)).1.take 10) s' ∧ Eqx [41, 4, 5] s s' := by
  have hN := ht.2.1
  have et : mRf 40 1 = 41 := by decide +kernel
  have e0 := x_waits (d := d + 1 + 1 + 1) ht (ho.1 f) (Or.inr rfl : isK 40) (by rw [et]; exact hc) (show f < 8 by omega)
  unfold hpS
  dsimp only
  cases hq : isQ T S f with
  | false =>
    rw [if_neg (by simp)]
    rw [hq] at e0
    refine ⟨s, ?_, hc, ho, hW, Eqx.rf⟩
    rw [E225_0]
    simp (disch := omega) only [e0, bI_f, lit, nI_add, pk_mul, n_sub, n_addneg, nle_t, nle_f, nlt_t, nlt_f, neq_t, neq_f, n_inb, n_ix, bnd_some, if_true, if_false, ite_tt, ite_ff, not_true_eq_false, not_false_eq_true, eq_self, false_or, or_false, true_or, or_true]
  | true =>
    rw [if_pos rfl]
    rw [hq] at e0
    dsimp only
    obtain ⟨s1, e1, c1, o1, w1, q1⟩ := x_lendAllL (d := d) ht hT ho hc hf hw hl hW (lnM T S f w l) (Nat.le_refl _)
    refine ⟨s1, ?_, c1, o1, w1, q1⟩
    rw [E225_0, e0, bnd_some, if_pos (by decide), lit 0, e1]
    have b1 := sG_le (l := l) ht (ho.1 f)
    have b2 : lnM T S f w l ≤ 8 := by
      unfold lnM
      split
      · omega
      · have := Nat.min_le_left (sG S f l) (lck T S w l); omega
    have g := x_lendOn (d := d) (f := nI f) (t := nI w) (l := nI l) ht (XT_q hT q1 (by decide)) o1 c1
    by_cases h8 : 8 ≤ lnM T S f w l
    · rw [E225_15]
      simp (disch := omega) only [E225_69, lit, nI_add, pk_mul, n_sub, n_addneg, nle_t, nle_f, nlt_t, nlt_f, neq_t, neq_f, n_inb, n_ix, bnd_some, if_true, if_false, ite_tt, ite_ff, not_true_eq_false, not_false_eq_true, eq_self, false_or, or_false, true_or, or_true]
    · have r0 : rfs T (lnK S f w l (lnM T S f w l)) (nI f) (nI w) (nI l) < nI 0 := by
        rw [rfs_n hf hw hN hl]
        by_cases hfw : f = w
        · rw [if_pos hfw]; decide +kernel
        · rw [if_neg hfw, (lnK_G hfw).1, lnK_L hfw]
          have em : lnM T S f w l = min (sG S f l) (lck T S w l) := by unfold lnM; rw [if_neg hfw]
          by_cases hz : sG S f l - lnM T S f w l = 0
          · rw [if_pos hz]; decide +kernel
          · rw [if_neg hz, if_pos (by omega)]; decide +kernel
      rw [if_pos r0] at g
      rw [E225_15]
      simp (disch := omega) only [g, E225_69, lit, nI_add, pk_mul, n_sub, n_addneg, nle_t, nle_f, nlt_t, nlt_f, neq_t, neq_f, n_inb, n_ix, bnd_some, if_true, if_false, ite_tt, ite_ff, not_true_eq_false, not_false_eq_true, eq_self, false_or, or_false, true_or, or_true]
theorem x_canHelp (ht : tOk T) (hT : XT T s) (ho : sOk T S B) (hc : XC T S (s 41)) (hw : w < 8) : ev (d + 1 + 1) 121 0 [.inr 40, .inl (nI w), .inr 0, .inr 0, .inr 0] [] s = some (0, bI (cbh T S w), s) := by
  have et : mRf 40 1 = 41 := by decide +kernel
  have hk : isK 40 := Or.inr rfl
  have hc : XC T S (s (mRf 40 1)) := by rw [et]; exact hc
  have inner : ∀ l, l < 10 → ev (d + 1 + 1) 121 13 [.inr 40, .inl (nI w), .inl (nI l), .inl (nI 0), .inl (nI 0)] [] s = ev (d + 1 + 1) 121 13 [.inr 40, .inl (nI w), .inl (nI l), .inl (nI (sm (fun f => if f ≠ w ∧ isQ T S f = true then sG S f l else 0) 8)), .inl (nI 8)] [] s := fun l hl => by
    have h := loopU (fun i a => ev (d + 1 + 1) 121 13 [.inr 40, .inl (nI w), .inl (nI l), .inl (nI a), .inl (nI i)] [] s) (fun f a => a + (if f ≠ w ∧ isQ T S f = true then sG S f l else 0)) 8 (fun i a hi => by
      rw [E121_13]
      by_cases hiw : i = w
      · rw [if_neg (show ¬ (i ≠ w ∧ isQ T S i = true) from fun z => z.1 hiw)]
        simp (disch := omega) only [E121_46, E121_47, lit, nI_add, pk_mul, n_sub, n_addneg, nle_t, nle_f, nlt_t, nlt_f, neq_t, neq_f, n_inb, n_ix, bnd_some, if_true, if_false, ite_tt, ite_ff, not_true_eq_false, not_false_eq_true, eq_self, false_or, or_false, true_or, or_true]
      · have e1 := x_waits (d := d + 1) ht (ho.1 i) hk hc hi
        cases hq : isQ T S i with
        | false =>
          rw [hq] at e1
          rw [if_neg (show ¬ (i ≠ w ∧ false = true) from fun z => by cases z.2)]
          simp (disch := omega) only [e1, bI_f, E121_46, E121_47, lit, nI_add, pk_mul, n_sub, n_addneg, nle_t, nle_f, nlt_t, nlt_f, neq_t, neq_f, n_inb, n_ix, bnd_some, if_true, if_false, ite_tt, ite_ff, not_true_eq_false, not_false_eq_true, eq_self, false_or, or_false, true_or, or_true]
        | true =>
          rw [hq] at e1
          rw [if_pos (show i ≠ w ∧ true = true from ⟨hiw, rfl⟩)]
          simp (disch := omega) only [e1, bI_t, x_hung hk hc hi hl, E121_47, lit, nI_add, pk_mul, n_sub, n_addneg, nle_t, nle_f, nlt_t, nlt_f, neq_t, neq_f, n_inb, n_ix, bnd_some, if_true, if_false, ite_tt, ite_ff, not_true_eq_false, not_false_eq_true, eq_self, false_or, or_false, true_or, or_true]) 0
    exact h
  have outer := loopA (fun i => ev (d + 1 + 1) 121 2 [.inr 40, .inl (nI w), .inl (nI i), .inr 0, .inr 0] [] s) (fun l => decide (lck T S w l ≤ sm (fun f => if f ≠ w ∧ isQ T S f = true then sG S f l else 0) 8)) (some (0, nI 0, s)) 10 (fun l hl hp => by
      have hp := of_decide_eq_true hp
      have b := lck_le (l := l) ht (ho.1 w)
      have b2 : sm (fun f => if f ≠ w ∧ isQ T S f = true then sG S f l else 0) 8 ≤ 8 * 8 := sm_le (fun f _ => by
        have := sG_le (l := l) ht (ho.1 f)
        split <;> omega)
      rw [E121_2]
      simp (disch := omega) only [lit, nI_add, pk_mul, n_sub, n_addneg, nle_t, nle_f, nlt_t, nlt_f, neq_t, neq_f, n_inb, n_ix, bnd_some, if_true, if_false, ite_tt, ite_ff, not_true_eq_false, not_false_eq_true, eq_self, false_or, or_false, true_or, or_true]
      rw [inner l hl, E121_13]
      simp (disch := omega) only [x_lack ht hT (ho.1 w) hk hc hw hl, lit, nI_add, pk_mul, n_sub, n_addneg, nle_t, nle_f, nlt_t, nlt_f, neq_t, neq_f, n_inb, n_ix, bnd_some, if_true, if_false, ite_tt, ite_ff, not_true_eq_false, not_false_eq_true, eq_self, false_or, or_false, true_or, or_true]) (fun l hl hp => by
      have hp := of_decide_eq_false hp
      have b := lck_le (l := l) ht (ho.1 w)
      rw [E121_2]
      simp (disch := omega) only [lit, nI_add, pk_mul, n_sub, n_addneg, nle_t, nle_f, nlt_t, nlt_f, neq_t, neq_f, n_inb, n_ix, bnd_some, if_true, if_false, ite_tt, ite_ff, not_true_eq_false, not_false_eq_true, eq_self, false_or, or_false, true_or, or_true]
      rw [inner l hl, E121_13]
      simp (disch := omega) only [x_lack ht hT (ho.1 w) hk hc hw hl, lit, nI_add, pk_mul, n_sub, n_addneg, nle_t, nle_f, nlt_t, nlt_f, neq_t, neq_f, n_inb, n_ix, bnd_some, if_true, if_false, ite_tt, ite_ff, not_true_eq_false, not_false_eq_true, eq_self, false_or, or_false, true_or, or_true])
  rw [E121_0]
  simp only [lit]
  refine outer.trans ?_
  unfold cbh
  cases allN (fun l => decide (lck T S w l ≤ sm (fun f => if f ≠ w ∧ isQ T S f = true then sG S f l else 0) 8)) 10 with
  | true =>
    rw [if_pos rfl, E121_2]
    simp (disch := omega) only [lit, nI_add, pk_mul, n_sub, n_addneg, nle_t, nle_f, nlt_t, nlt_f, neq_t, neq_f, n_inb, n_ix, bnd_some, if_true, if_false, ite_tt, ite_ff, not_true_eq_false, not_false_eq_true, eq_self, false_or, or_false, true_or, or_true]
    rfl
  | false => rfl
theorem hpL_s {n : Nat} {r : List Int32 × aS} : hpL T w l (n + 1) r = hpS T w l n (hpL T w l n r) := rfl
theorem hpA_s {n : Nat} {r : List Int32 × aS} : hpA T w (n + 1) r = hpL T w n (tN T) (hpA T w n r) := rfl
theorem x_helpsF {v : Int32} (ht : tOk T) (hT : XT T s) (ho : sOk T S B) (hc : XC T S (s 41)) (hw : w < tN T) (hl : l < 10) (hW : XW (L.take 10) s) : ∀ n, n ≤ tN T → ∃ s', ev (d + 1 + 1 + 1 + 1 + 1) 190 80 [.inr 1, .inl (nI w), .inl v, .inl (nI l), .inl (nI 0)] [] s = ev (d + 1 + 1 + 1 + 1 + 1) 190 80 [.inr 1, .inl (nI w), .inl v, .inl (nI l), .inl (nI n)] [] s' ∧ XC T (hpL T w l n (L, S)).2 (s' 41) ∧ sOk T (hpL T w l n (L, S)).2 B ∧ XW ((hpL T w l n (L, S)).1.take 10) s' ∧ Eqx [41, 4, 5] s s' := by
  intro n
  induction n with
  | zero => intro _; exact ⟨s, rfl, hc, ho, hW, Eqx.rf⟩
  | succ n ih =>
    intro hn
    have hN := ht.2.1
    obtain ⟨s1, e1, c1, o1, w1, q1⟩ := ih (by omega)
    rw [hpL_s]
    generalize hpL T w l n (L, S) = r at e1 c1 o1 w1 ⊢
    obtain ⟨M, X⟩ := r
    obtain ⟨s2, e2, c2, o2, w2, q2⟩ := x_lendAll (d := d) ht (XT_q hT q1 (by decide)) o1 c1 (show n < tN T by omega) hw hl w1
    refine ⟨s2, ?_, c2, o2, w2, q1.tr q2⟩
    rw [e1, E190_80, x_walls (XT_q hT q1 (by decide))]
    simp (disch := omega) only [e2, lit, nI_add, pk_mul, n_sub, n_addneg, nle_t, nle_f, nlt_t, nlt_f, neq_t, neq_f, n_inb, n_ix, bnd_some, if_true, if_false, ite_tt, ite_ff, not_true_eq_false, not_false_eq_true, eq_self, false_or, or_false, true_or, or_true]
theorem x_helpsA {v : Int32} (ht : tOk T) (hT : XT T s) (ho : sOk T S B) (hc : XC T S (s 41)) (hw : w < tN T) (hW : XW (L.take 10) s) : ∀ n, n ≤ 10 → ∃ s', ev (d + 1 + 1 + 1 + 1 + 1) 190 71 [.inr 1, .inl (nI w), .inl v, .inl (nI 0), .inr 0] [] s = ev (d + 1 + 1 + 1 + 1 + 1) 190 71 [.inr 1, .inl (nI w), .inl v, .inl (nI n), .inr 0] [] s' ∧ XC T (hpA T w n (L, S)).2 (s' 41) ∧ sOk T (hpA T w n (L, S)).2 B ∧ XW ((hpA T w n (L, S)).1.take 10) s' ∧ Eqx [41, 4, 5] s s' := by
  intro n
  induction n with
  | zero => intro _; exact ⟨s, rfl, hc, ho, hW, Eqx.rf⟩
  | succ n ih =>
    intro hn
    have hN := ht.2.1
    obtain ⟨s1, e1, c1, o1, w1, q1⟩ := ih (by omega)
    rw [hpA_s]
    generalize hpA T w n (L, S) = r at e1 c1 o1 w1 ⊢
    obtain ⟨M, X⟩ := r
    have hT1 := XT_q hT q1 (by decide)
    obtain ⟨s2, e2, c2, o2, w2, q2⟩ := x_helpsF (d := d) (v := v) ht hT1 o1 c1 hw (show n < 10 by omega) w1 (tN T) (Nat.le_refl _)
    refine ⟨s2, ?_, c2, o2, w2, q1.tr q2⟩
    rw [e1, E190_71]
    simp (disch := omega) only [lit, nI_add, pk_mul, n_sub, n_addneg, nle_t, nle_f, nlt_t, nlt_f, neq_t, neq_f, n_inb, n_ix, bnd_some, if_true, if_false, ite_tt, ite_ff, not_true_eq_false, not_false_eq_true, eq_self, false_or, or_false, true_or, or_true]
    rw [e2, E190_80, x_walls (XT_q hT1 q2 (by decide))]
    simp (disch := omega) only [lit, nI_add, pk_mul, n_sub, n_addneg, nle_t, nle_f, nlt_t, nlt_f, neq_t, neq_f, n_inb, n_ix, bnd_some, if_true, if_false, ite_tt, ite_ff, not_true_eq_false, not_false_eq_true, eq_self, false_or, or_false, true_or, or_true]
theorem X_helps (h : XI A B s) : ∃ s', ev (d + 1 + 1 + 1 + 1 + 1) 190 0 [.inr 1, .inl a, .inr 0, .inr 0, .inr 0] [] s = some (0, (o_helps A a).2, s') ∧ XI (o_helps A a).1 B s' ∧ fX s s' := by
  have ha := h.1
  have hT := h.2.2.1
  have hc := h.2.1
  have hN := ha.1.2.1
  have hk : isK 36 := Or.inl rfl
  have hkt : isK 40 := Or.inr rfl
  have et : mRf 40 1 = 41 := by decide +kernel
  unfold o_helps
  by_cases hw : inN a (tN (gT A)) = false
  · rw [if_pos hw]
    refine ⟨s, ?_, h, fun _ _ => rfl⟩
    rw [E190_0, x_hasWall hT, hw]
    simp (disch := omega) only [bI_f, lit, nI_add, pk_mul, n_sub, n_addneg, nle_t, nle_f, nlt_t, nlt_f, neq_t, neq_f, n_inb, n_ix, bnd_some, if_true, if_false, ite_tt, ite_ff, not_true_eq_false, not_false_eq_true, eq_self, false_or, or_false, true_or, or_true]
  have hw' : inN a (tN (gT A)) = true := by simpa using hw
  rw [if_neg hw]
  obtain ⟨w, hw2, rfl⟩ := inN_t (by omega) hw'
  rw [n_ix (by omega)]
  have e0 := x_waits (d := d + 1 + 1 + 1 + 1) ha.1 (ha.2.1.1 w) hk hc (show w < 8 by omega)
  cases hq : isQ (gT A) (gS A) w with
  | false =>
    rw [if_pos rfl]
    rw [hq] at e0
    refine ⟨s, ?_, h, fun _ _ => rfl⟩
    rw [E190_0, x_hasWall hT, hw']
    simp (disch := omega) only [bI_t, e0, bI_f, lit, nI_add, pk_mul, n_sub, n_addneg, nle_t, nle_f, nlt_t, nlt_f, neq_t, neq_f, n_inb, n_ix, bnd_some, if_true, if_false, ite_tt, ite_ff, not_true_eq_false, not_false_eq_true, eq_self, false_or, or_false, true_or, or_true]
  | true =>
    rw [if_neg (by simp)]
    rw [hq] at e0
    obtain ⟨c', e1, i1⟩ := x_copy (d := d + 1 + 1 + 1 + 1) (s := s)
    have q1 : Eqx [41] s (setA s 41 c') := Eqx.rf.set (by simp)
    have h1 := XI_same h q1 (by decide) (by decide)
    obtain ⟨c2, e2, i2, o2⟩ := x_take (d := d + 1 + 1) (w := w) ha.1 h1.2.2.1 ha.2.1 hkt (by rw [et, setA_at]; exact XC_congr hc i1) (show w < 8 by omega)
    rw [et, setA_twice] at e2
    have q2 : Eqx [41] s (setA s 41 c2) := Eqx.rf.set (by simp)
    have h2 := XI_same h q2 (by decide) (by decide)
    have e3 := x_canHelp (d := d + 1 + 1) (w := w) ha.1 h2.2.2.1 o2 (by rw [setA_at]; exact i2) (show w < 8 by omega)
    cases hb : cbh (gT A) (takeW (gT A) (gS A) w) w with
    | false =>
      rw [if_pos rfl]
      rw [hb] at e3
      refine ⟨_, ?_, h2, fX_q q2 (by decide)⟩
      rw [E190_0, x_hasWall hT, hw']
      simp (disch := omega) only [bI_t, e0, e1, e2, e3, bI_f, lit, nI_add, pk_mul, n_sub, n_addneg, nle_t, nle_f, nlt_t, nlt_f, neq_t, neq_f, n_inb, n_ix, bnd_some, if_true, if_false, ite_tt, ite_ff, not_true_eq_false, not_false_eq_true, eq_self, false_or, or_false, true_or, or_true]
    | true =>
      rw [if_neg (by simp)]
      rw [hb] at e3
      have q3 : Eqx [41, 4, 5] s (up (setA s 41 c2) 4 1 0) := (Eqx.rf.set (by simp)).up (by simp)
      obtain ⟨s4, e4, c4, o4, w4, q4⟩ := x_helpsA (d := d) (L := []) (v := nI (mis (gT A) (takeW (gT A) (gS A) w) w)) ha.1 (XT_q hT q3 (by decide)) o2 (by rw [up_ne (by decide), setA_at]; exact i2) hw2 XW_nil 10 (Nat.le_refl _)
      refine ⟨s4, ?_, XI_row h (q3.tr q4) (by decide) (by decide) w4 (by rw [List.length_take]; omega), fX_q (q3.tr q4) (by decide)⟩
      simp only [lit] at e4
      rw [E190_0, x_hasWall hT, hw']
      simp (disch := omega) only [bI_t, e0, e1, e2, e3, x_clear, lit, nI_add, pk_mul, n_sub, n_addneg, nle_t, nle_f, nlt_t, nlt_f, neq_t, neq_f, n_inb, n_ix, bnd_some, if_true, if_false, ite_tt, ite_ff, not_true_eq_false, not_false_eq_true, eq_self, false_or, or_false, true_or, or_true]
      rw [e4, E190_71]
      simp (disch := omega) only [lit, nI_add, pk_mul, n_sub, n_addneg, nle_t, nle_f, nlt_t, nlt_f, neq_t, neq_f, n_inb, n_ix, bnd_some, if_true, if_false, ite_tt, ite_ff, not_true_eq_false, not_false_eq_true, eq_self, false_or, or_false, true_or, or_true]
end XCB
