/-! THE MODEL: sign, counted, wanting, nearest, shortest -/
theorem by_ch : ∀ q, q < 256 → vp_nar .byte ((Int8.ofBitVec (BitVec.ofNat 8 q)).toInt32) = bB q := by decide +kernel
theorem m_byte (v : Int32) {k : Nat} (hk : k < 4) : vp_nar .byte ((v >>> (nI (8 * k) &&& nI 31)).toInt8.toInt32) = bB (sgB v k) := by
  have e : (v >>> (nI (8 * k) &&& nI 31)).toInt8 = Int8.ofBitVec (BitVec.ofNat 8 (sgB v k)) := by
    apply Int8.toBitVec_inj.mp
    apply BitVec.eq_of_getLsbD_eq
    intro i hi
    show (BitVec.signExtend 8 (BitVec.sshiftRight v.toBitVec ((nI (8 * k) &&& nI 31).toBitVec.smod 32).toNat)).getLsbD i = (BitVec.ofNat 8 (sgB v k)).getLsbD i
    rw [sh_amt (8 * k) (by omega), BitVec.signExtend_eq_setWidth_of_le _ (by omega), BitVec.getLsbD_setWidth, BitVec.getLsbD_sshiftRight, BitVec.getLsbD_ofNat]
    have e1 : 8 * k + i < 32 := by omega
    have e2 : ¬ 32 ≤ i := by omega
    rw [if_pos e1, decide_eq_true hi, decide_eq_false e2]
    unfold sgB
    rw [show (256 : Nat) = 2 ^ 8 from rfl, Nat.testBit_mod_two_pow, Nat.testBit_div_two_pow, decide_eq_true hi]
    rw [show i + 8 * k = 8 * k + i by omega]
    rfl
  rw [e]
  exact by_ch _ (sgB_lt v k)
section MD4
variable {d B B' l w v x y n k a b i own : Nat} {s s' s1 s'' : mS} {T : aT} {S : aS} {A : aA} {p q r : Int32} {W : List Int32} {P F : List Nat} {C : List (Nat × Nat × Nat)}
theorem m_put1 {v : Int32} (hx : s 67 15 = nI n) (hn : n < 80) (hk : k < 4) : ev d 235 20 [.inr 67, .inl v, .inl (nI k)] [] s = ev d 235 20 [.inr 67, .inl v, .inl (nI k + -nI 1)] [] (up (up s 67 15 (nI (n + 1))) 79 n (bB (sgB v k))) := by
  rw [E235_20, hx]
  simp (disch := omega) only [m_byte v hk, lit, nI_add, pk_mul, n_sub, n_addneg, nle_t, nle_f, nlt_t, nlt_f, neq_t, neq_f, n_inb, n_ix, bnd_some, if_true, if_false, ite_tt, ite_ff, not_true_eq_false, not_false_eq_true, eq_self, false_or, or_false, true_or, or_true]
theorem Y_sign (ha : AOk A B) (h : MJ A B' s) : ∃ s', ev d 235 0 [.inr 67, .inl p, .inr 0] [] s = some (0, (o_sign A p).2, s') ∧ MJ (o_sign A p).1 B' s' ∧ gM s s' := by
  obtain ⟨h0, g0⟩ := m_th h
  obtain ⟨s0, hs0⟩ : ∃ s0, s0 = up s 67 18 (nI 0) := ⟨_, rfl⟩
  rw [← hs0] at h0 g0
  have hx1 := h0.2.2.1.1
  have hx2 := h0.2.2.1.2
  have b1 := ha.2.2.2.2.2.1
  unfold o_sign
  by_cases hi : 80 < (gX A).1 + 4
  · rw [if_pos hi]
    refine ⟨s0, ?_, h0, g0⟩
    rw [E235_0, show up s 67 18 0 = s0 from hs0.symm, hx1]
    simp (disch := omega) only [lit, nI_add, pk_mul, n_sub, n_addneg, nle_t, nle_f, nlt_t, nlt_f, neq_t, neq_f, n_inb, n_ix, bnd_some, if_true, if_false, ite_tt, ite_ff, not_true_eq_false, not_false_eq_true, eq_self, false_or, or_false, true_or, or_true]
  rw [if_neg hi]
  have key : ∀ j, j ≤ 4 → ∃ s', ev d 235 20 [.inr 67, .inl p, .inl (nI 3)] [] s0 = ev d 235 20 [.inr 67, .inl p, .inl (nI (4 - j) + -nI 1)] [] s' ∧ s' 67 15 = nI ((gX A).1 + j) ∧ (∀ i, i < (gX A).1 → s' 79 i = bB ((gX A).2 i)) ∧ (∀ i, i < j → s' 79 ((gX A).1 + i) = bB (sgB p (3 - i))) ∧ Eqm [79] [15] s0 s' := by
    intro j
    induction j with
    | zero => intro _; exact ⟨s0, rfl, hx1, hx2, fun i hi => absurd hi (Nat.not_lt_zero _), Eqm.rf⟩
    | succ j ih =>
      intro hj
      obtain ⟨s1, e1, r1, r2, r3, q1⟩ := ih (by omega)
      have u := m_put1 (d := d) (v := p) (k := 3 - j) r1 (by omega) (by omega)
      refine ⟨up (up s1 67 15 (nI ((gX A).1 + j + 1))) 79 ((gX A).1 + j) (bB (sgB p (3 - j))), ?_, ?_, fun i hi => ?_, fun i hi => ?_, (q1.pf (by simp)).pu (by simp) (by decide)⟩
      · rw [e1, n_addneg (by omega), show 4 - j - 1 = 3 - j by omega, u, show 4 - (j + 1) = 3 - j by omega]
      · rw [up_ne (by decide), up_in]; rfl
      · rw [up_out (by omega), up_ne (by decide)]; exact r2 i hi
      · by_cases hz : i = j
        · subst hz; rw [up_in]
        · rw [up_out (by omega), up_ne (by decide)]; exact r3 i (by omega)
  obtain ⟨s1, e1, r1, r2, r3, q1⟩ := key 4 (Nat.le_refl _)
  obtain ⟨h1, h2, h3, h4, h5, h6, h7, h8⟩ := h0
  refine ⟨s1, ?_, ⟨MT_q h1 q1 (by decide) (by decide), MSt_q h2 q1 (by decide) (by decide), ⟨r1, fun i hi => ?_⟩, MW_q h4 q1 (by decide) (by decide), MRl_q h5 q1 (by decide) (by decide), MU_q h6 q1 (by decide) (by decide), MK_q h7 q1 (by decide) (by decide), MN_q h8 q1 (by decide) (by decide)⟩, g0.tr (q1.g (by decide))⟩
  · have e2 : (nI (4 - 4) + -nI 1 < nI 0) = True := eq_true (by decide +kernel)
    rw [E235_0, show up s 67 18 0 = s0 from hs0.symm, hx1]
    simp (disch := omega) only [lit, nI_add, pk_mul, n_sub, n_addneg, nle_t, nle_f, nlt_t, nlt_f, neq_t, neq_f, n_inb, n_ix, bnd_some, if_true, if_false, ite_tt, ite_ff, not_true_eq_false, not_false_eq_true, eq_self, false_or, or_false, true_or, or_true]
    rw [e1, E235_20, r1]
    exact if_pos (of_eq_true e2)
  · have hi : i < (gX A).1 + 4 := hi
    show _ = bB (if i < (gX A).1 then (gX A).2 i else if i < (gX A).1 + 4 then sgB p (3 - (i - (gX A).1)) else (gX A).2 i)
    by_cases hz : i < (gX A).1
    · rw [if_pos hz]; exact r2 i hz
    · rw [if_neg hz, if_pos hi, ← r3 _ (show i - (gX A).1 < 4 by omega), show (gX A).1 + (i - (gX A).1) = i by omega]
theorem Y_counted (ha : AOk A B) (h : MJ A B' s) : ∃ s', ev (d + 1 + 1) 322 0 [.inr 67, .inl p, .inl q, .inl r] [] s = some (0, (o_counted A p q r).2, s') ∧ MJ (o_counted A p q r).1 B' s' ∧ gM s s' := by
  obtain ⟨h0, g0⟩ := m_th h
  obtain ⟨s0, hs0⟩ : ∃ s0, s0 = up s 67 18 (nI 0) := ⟨_, rfl⟩
  rw [← hs0] at h0 g0
  have hN := ha.1.2.1
  have hC := ha.2.2.2.2.2.2.2.2
  have ew := m_isWall (d := d) (p := p) h0.1 hN
  have er := m_inB (d := d + 1) (p := r) (n := 20) (s := s0) (by omega)
  unfold o_counted
  by_cases hw : inN p (tN (gT A)) = false
  · rw [if_pos (Or.inl hw)]
    rw [hw] at ew
    refine ⟨s0, ?_, h0, g0⟩
    rw [E322_0, show up s 67 18 0 = s0 from hs0.symm, ew]
    simp (disch := omega) only [bIf0, E322_39, lit, nI_add, pk_mul, n_sub, n_addneg, nle_t, nle_f, nlt_t, nlt_f, neq_t, neq_f, n_inb, n_ix, bnd_some, if_true, if_false, ite_tt, ite_ff, not_true_eq_false, not_false_eq_true, eq_self, false_or, or_false, true_or, or_true]
  have hw' : inN p (tN (gT A)) = true := by simpa using hw
  rw [hw'] at ew
  by_cases hl : inN q 10 = false
  · rw [if_pos (Or.inr (Or.inl hl))]
    refine ⟨s0, ?_, h0, g0⟩
    rw [E322_0, show up s 67 18 0 = s0 from hs0.symm, ew]
    simp (disch := omega) only [bIt0, m_isLetter, hl, bIf0, E322_39, lit, nI_add, pk_mul, n_sub, n_addneg, nle_t, nle_f, nlt_t, nlt_f, neq_t, neq_f, n_inb, n_ix, bnd_some, if_true, if_false, ite_tt, ite_ff, not_true_eq_false, not_false_eq_true, eq_self, false_or, or_false, true_or, or_true]
  have hl' : inN q 10 = true := by simpa using hl
  by_cases hn : inN r 21 = false
  · rw [if_pos (Or.inr (Or.inr (Or.inl hn)))]
    have er : ev (d + 1) 228 0 [.inl r, .inl (nI 0), .inl (nI 20)] [] s0 = some (0, bI false, s0) := by rw [er]; rw [show (20 + 1) = 21 from rfl, hn]
    refine ⟨s0, ?_, h0, g0⟩
    rw [E322_0, show up s 67 18 0 = s0 from hs0.symm, ew]
    simp (disch := omega) only [bIt0, m_isLetter, hl', er, bIf0, E322_39, lit, nI_add, pk_mul, n_sub, n_addneg, nle_t, nle_f, nlt_t, nlt_f, neq_t, neq_f, n_inb, n_ix, bnd_some, if_true, if_false, ite_tt, ite_ff, not_true_eq_false, not_false_eq_true, eq_self, false_or, or_false, true_or, or_true]
  have hn' : inN r 21 = true := by simpa using hn
  have er : ev (d + 1) 228 0 [.inl r, .inl (nI 0), .inl (nI 20)] [] s0 = some (0, bI true, s0) := by rw [er]; rw [show (20 + 1) = 21 from rfl, hn']
  obtain ⟨w, hw2, rfl⟩ := inN_t (by omega) hw'
  obtain ⟨l, hl2, rfl⟩ := inN_t (by omega) hl'
  obtain ⟨m, hm2, rfl⟩ := inN_t (by omega) hn'
  rw [n_ix (by omega), n_ix (by omega), n_ix (by omega)]
  have e0 := h0.2.2.2.2.2.2.2.1
  by_cases hf : (gC A).length = 12
  · rw [if_pos (Or.inr (Or.inr (Or.inr hf)))]
    rw [hf] at e0
    refine ⟨s0, ?_, h0, g0⟩
    rw [E322_0, show up s 67 18 0 = s0 from hs0.symm, ew]
    simp (disch := omega) only [bIt0, m_isLetter, hl', er, e0, E322_39, lit, nI_add, pk_mul, n_sub, n_addneg, nle_t, nle_f, nlt_t, nlt_f, neq_t, neq_f, n_inb, n_ix, bnd_some, if_true, if_false, ite_tt, ite_ff, not_true_eq_false, not_false_eq_true, eq_self, false_or, or_false, true_or, or_true]
  rw [if_neg (show ¬ (inN (nI w) (tN (gT A)) = false ∨ inN (nI l) 10 = false ∨ inN (nI m) 21 = false ∨ (gC A).length = 12) by simp [hw', hl', hn', hf])]
  have hlen : (gC A).length < 12 := by have := hC.1; omega
  generalize hn0 : (gC A).length = n at e0 hlen hf
  have u1 : (up s0 93 (3 * n) (nI w)) 67 42 = nI n := by rw [up_ne (by decide)]; exact e0
  have u2 : (up (up s0 93 (3 * n) (nI w)) 93 (3 * n + 1) (nI l)) 67 42 = nI n := by rw [up_ne (by decide)]; exact u1
  have u3 : (up (up (up s0 93 (3 * n) (nI w)) 93 (3 * n + 1) (nI l)) 93 (3 * n + 2) (nI m)) 67 42 = nI n := by rw [up_ne (by decide)]; exact u2
  have q1 : Eqm [93] [42] s0 (up (up (up (up s0 93 (3 * n) (nI w)) 93 (3 * n + 1) (nI l)) 93 (3 * n + 2) (nI m)) 67 42 (nI (n + 1))) := (((Eqm.rf.pu (by simp) (by decide)).pu (by simp) (by decide)).pu (by simp) (by decide)).pf (by simp)
  obtain ⟨h1, h2, h3, h4, h5, h6, h7, h8⟩ := h0
  refine ⟨_, ?_, ⟨MT_q h1 q1 (by decide) (by decide), MSt_q h2 q1 (by decide) (by decide), MX_q h3 q1 (by decide) (by decide), MW_q h4 q1 (by decide) (by decide), MRl_q h5 q1 (by decide) (by decide), MU_q h6 q1 (by decide) (by decide), MK_q h7 q1 (by decide) (by decide), ⟨?_, fun i c hi => ?_⟩⟩, g0.tr (q1.g (by decide))⟩
  · rw [E322_0, show up s 67 18 0 = s0 from hs0.symm, ew]
    simp (disch := omega) only [bIt0, m_isLetter, hl', er, e0, u1, u2, u3, up_in, lit, nI_add, pk_mul, n_sub, n_addneg, nle_t, nle_f, nlt_t, nlt_f, neq_t, neq_f, n_inb, n_ix, bnd_some, if_true, if_false, ite_tt, ite_ff, not_true_eq_false, not_false_eq_true, eq_self, false_or, or_false, true_or, or_true]
  · show _ = nI (gC A ++ [(w, l, m)]).length
    rw [up_in, List.length_append, hn0]; rfl
  · replace hi : (gC A ++ [(w, l, m)])[i]? = some c := hi
    rw [up_ne (by decide)]
    by_cases hz : i = n
    · subst hz
      rw [← hn0, List.getElem?_append_right (Nat.le_refl _), Nat.sub_self] at hi
      have hi : some (w, l, m) = some c := hi
      cases hi
      refine ⟨?_, ?_, up_in⟩
      · rw [up_out (by omega), up_out (by omega), up_in]
      · rw [up_out (by omega), up_in]
    · have hi2 : (gC A)[i]? = some c := by
        rw [← hi, List.getElem?_append_left]
        have := (List.getElem?_eq_some_iff.mp hi).1
        rw [List.length_append] at this
        have : i < (gC A).length + 1 := this
        omega
      have hlt := (List.getElem?_eq_some_iff.mp hi2).1
      obtain ⟨y1, y2, y3⟩ := h8.2 i c hi2
      refine ⟨?_, ?_, ?_⟩
      · rw [up_out (by omega), up_out (by omega), up_out (by omega)]; exact y1
      · rw [up_out (by omega), up_out (by omega), up_out (by omega)]; exact y2
      · rw [up_out (by omega), up_out (by omega), up_out (by omega)]; exact y3
theorem m_isIn (hx : x < 2147483648) (hi : i < 31) : ev d 229 0 [.inl (nI x), .inl (nI i)] [] s = some (0, bI (x.testBit i), s) := by
  have hd : x / 2 ^ i < 2147483648 := Nat.lt_of_le_of_lt (Nat.div_le_self _ _) hx
  have e : (nI x >>> (nI i &&& nI 31)) &&& nI 1 = nI ((x.testBit i).toNat) := by
    rw [n_shr hx hi, n_and1 hd, bit_mod]
  rw [E229_0]
  simp only [lit, e, E229_14]
  cases x.testBit i with
  | true => simp (disch := omega) only [Bool.toNat_true, bI_t, lit, nI_add, pk_mul, n_sub, n_addneg, nle_t, nle_f, nlt_t, nlt_f, neq_t, neq_f, n_inb, n_ix, bnd_some, if_true, if_false, ite_tt, ite_ff, not_true_eq_false, not_false_eq_true, eq_self, false_or, or_false, true_or, or_true]
  | false => simp (disch := omega) only [Bool.toNat_false, bI_f, lit, nI_add, pk_mul, n_sub, n_addneg, nle_t, nle_f, nlt_t, nlt_f, neq_t, neq_f, n_inb, n_ix, bnd_some, if_true, if_false, ite_tt, ite_ff, not_true_eq_false, not_false_eq_true, eq_self, false_or, or_false, true_or, or_true]
theorem m_wordy (hN : tN T ≤ 8) (hW : tW T ≤ 12) (ho : sOk T S B) (hT : MT T s) (h : MSt T S s) : ev d 292 0 [.inr 67, .inr 0, .inr 0] [] s = some (0, nI (bts (isW S) (tN T)), s) := by
  have g := loopU (fun i a => ev d 292 4 [.inr 67, .inl (nI a), .inl (nI i)] [] s) (fun i a => a ||| (if isW S i = true then 2 ^ i else 0)) (tN T) (fun w a hw => by
    have e0 := (h.1 w hw).1
    rw [E292_4, hT.2.1]
    unfold isW
    cases hn : sH S w with
    | none =>
      rw [hn, oc_none] at e0
      simp (disch := omega) only [e0, E292_30, n_or, Option.isSome, Bool.false_eq_true, lit, nI_add, pk_mul, n_sub, n_addneg, nle_t, nle_f, nlt_t, nlt_f, neq_t, neq_f, n_inb, n_ix, bnd_some, if_true, if_false, ite_tt, ite_ff, not_true_eq_false, not_false_eq_true, eq_self, false_or, or_false, true_or, or_true]
    | some x =>
      rw [hn, oc_some] at e0
      have hx := (wOk_s (ho.1 w) hn).2.1
      simp (disch := omega) only [e0, nneg_f, E292_30, n_or, n_pow, Option.isSome, lit, nI_add, pk_mul, n_sub, n_addneg, nle_t, nle_f, nlt_t, nlt_f, neq_t, neq_f, n_inb, n_ix, bnd_some, if_true, if_false, ite_tt, ite_ff, not_true_eq_false, not_false_eq_true, eq_self, false_or, or_false, true_or, or_true]) 0
  rw [E292_0]
  simp only [lit]
  refine g.trans ?_
  rw [E292_4, hT.2.1]
  simp (disch := omega) only [lit, nI_add, pk_mul, n_sub, n_addneg, nle_t, nle_f, nlt_t, nlt_f, neq_t, neq_f, n_inb, n_ix, bnd_some, if_true, if_false, ite_tt, ite_ff, not_true_eq_false, not_false_eq_true, eq_self, false_or, or_false, true_or, or_true]
  rfl
theorem ndH_le (ht : tOk T) (ho : sOk T S B) : ndH T S w l ≤ 8 := by
  unfold ndH
  cases hn : sH S w with
  | none => exact Nat.zero_le _
  | some x =>
    have := nd_le T x l
    have := (ht.2.2.1 x (wOk_s (ho.1 w) hn).2.1).2.1
    show nd T x l ≤ 8
    omega
theorem m_needOf (ht : tOk T) (ho : sOk T S B) (hT : MT T s) (h : MSt T S s) (hx : x < 2147483648) (hl : l < 10) (hs : ∀ w, w < tN T → x.testBit w = true → isW S w = true) : ev (d + 1) 291 0 [.inr 67, .inl (nI x), .inl (nI l), .inr 0, .inr 0] [] s = some (0, nI (sm (fun w => if x.testBit w = true then ndH T S w l else 0) (tN T)), s) := by
  have hN := ht.2.1
  have hW := ht.1
  have g := loopU (fun i a => ev (d + 1) 291 5 [.inr 67, .inl (nI x), .inl (nI l), .inl (nI a), .inl (nI i)] [] s) (fun w a => a + (if x.testBit w = true then ndH T S w l else 0)) (tN T) (fun w a hw => by
    have e0 := (h.1 w hw).1
    have e1 := m_isIn (d := d) (x := x) (i := w) (s := s) hx (by omega)
    rw [E291_5, hT.2.1]
    cases hb : x.testBit w with
    | false =>
      rw [hb] at e1
      simp (disch := omega) only [e1, bIf0, E291_45, Bool.false_eq_true, lit, nI_add, pk_mul, n_sub, n_addneg, nle_t, nle_f, nlt_t, nlt_f, neq_t, neq_f, n_inb, n_ix, bnd_some, if_true, if_false, ite_tt, ite_ff, not_true_eq_false, not_false_eq_true, eq_self, false_or, or_false, true_or, or_true]
    | true =>
      rw [hb] at e1
      have hw2 := hs w hw hb
      unfold isW at hw2
      unfold ndH
      cases hn : sH S w with
      | none => rw [hn] at hw2; cases hw2
      | some y =>
        rw [hn, oc_some] at e0
        have hy := (wOk_s (ho.1 w) hn).2.1
        have e2 := (hT.2.2.1 y hy).2.2.2 l hl
        simp (disch := omega) only [e1, bIt0, e0, e2, E291_45, lit, nI_add, pk_mul, n_sub, n_addneg, nle_t, nle_f, nlt_t, nlt_f, neq_t, neq_f, n_inb, n_ix, bnd_some, if_true, if_false, ite_tt, ite_ff, not_true_eq_false, not_false_eq_true, eq_self, false_or, or_false, true_or, or_true]) 0
  rw [E291_0]
  simp only [lit]
  refine g.trans ?_
  rw [E291_5, hT.2.1]
  simp (disch := omega) only [lit, nI_add, pk_mul, n_sub, n_addneg, nle_t, nle_f, nlt_t, nlt_f, neq_t, neq_f, n_inb, n_ix, bnd_some, if_true, if_false, ite_tt, ite_ff, not_true_eq_false, not_false_eq_true, eq_self, false_or, or_false, true_or, or_true]
  rfl
theorem Y_wanting (ha : AOk A B) (h : MJ A B' s) : ∃ s', ev (d + 1 + 1) 318 0 [.inr 67, .inl p, .inr 0, .inr 0, .inr 0] [] s = some (0, (o_wanting A p).2, s') ∧ MJ (o_wanting A p).1 B' s' ∧ gM s s' := by
  obtain ⟨h0, g0⟩ := m_th h
  obtain ⟨s0, hs0⟩ : ∃ s0, s0 = up s 67 18 (nI 0) := ⟨_, rfl⟩
  rw [← hs0] at h0 g0
  have hN := ha.1.2.1
  unfold o_wanting
  by_cases hi : inN p 10 = false
  · rw [if_pos hi]
    refine ⟨s0, ?_, h0, g0⟩
    rw [E318_0, show up s 67 18 0 = s0 from hs0.symm, m_isLetter, hi]
    simp (disch := omega) only [bIf0, lit, nI_add, pk_mul, n_sub, n_addneg, nle_t, nle_f, nlt_t, nlt_f, neq_t, neq_f, n_inb, n_ix, bnd_some, if_true, if_false, ite_tt, ite_ff, not_true_eq_false, not_false_eq_true, eq_self, false_or, or_false, true_or, or_true]
  have hi' : inN p 10 = true := by simpa using hi
  rw [if_neg hi]
  obtain ⟨l, hl, rfl⟩ := inN_t (by omega) hi'
  rw [n_ix (by omega)]
  have lb := bts_lt8 (isW (gS A)) hN
  have e1 := m_wordy (d := d + 1) hN ha.1.1 ha.2.1 h0.1 h0.2.1
  have e2 := m_needOf (d := d) (l := l) (x := bts (isW (gS A)) (tN (gT A))) ha.1 ha.2.1 h0.1 h0.2.1 (by omega) hl (fun w hw hb => by
    rw [bts_bit, Bool.and_eq_true] at hb
    exact hb.2)
  have es : sm (fun w => if (bts (isW (gS A)) (tN (gT A))).testBit w = true then ndH (gT A) (gS A) w l else 0) (tN (gT A)) = sm (fun w => ndH (gT A) (gS A) w l) (tN (gT A)) := sm_cong (fun w hw => by
    rw [bts_bit, decide_eq_true hw, Bool.true_and]
    cases hb : isW (gS A) w with
    | true => rw [if_pos rfl]
    | false =>
      rw [if_neg (by decide)]
      unfold isW at hb
      unfold ndH
      cases hn : sH (gS A) w with
      | none => rfl
      | some y => rw [hn] at hb; cases hb)
  rw [es] at e2
  have bs : sm (fun w => ndH (gT A) (gS A) w l) (tN (gT A)) ≤ tN (gT A) * 8 := sm_le (fun w _ => ndH_le ha.1 ha.2.1)
  generalize hsum : sm (fun w => ndH (gT A) (gS A) w l) (tN (gT A)) = t at e2 bs es ⊢
  have g := loopU (fun i a => ev (d + 1 + 1) 318 29 [.inr 67, .inl (nI l), .inl (nI t), .inl (nI a), .inl (nI i)] [] s0) (fun w a => a ||| (if decide (0 < ndH (gT A) (gS A) w l) = true then 2 ^ w else 0)) (tN (gT A)) (fun w a hw => by
    have e0 := (h0.2.1.1 w hw).1
    rw [E318_29, h0.1.2.1]
    unfold ndH
    cases hn : sH (gS A) w with
    | none =>
      rw [hn, oc_none] at e0
      simp (disch := omega) only [e0, E318_77, E318_78, n_or, lit, nI_add, pk_mul, n_sub, n_addneg, nle_t, nle_f, nlt_t, nlt_f, neq_t, neq_f, n_inb, n_ix, bnd_some, if_true, if_false, ite_tt, ite_ff, not_true_eq_false, not_false_eq_true, eq_self, false_or, or_false, true_or, or_true]
      rfl
    | some y =>
      rw [hn, oc_some] at e0
      have hy := (wOk_s (ha.2.1.1 w) hn).2.1
      have hW := ha.1.1
      have e3 := (h0.1.2.2.1 y hy).2.2.2 l hl
      have b3 := nd_le (gT A) y l
      have b4 := (ha.1.2.2.1 y hy).2.1
      by_cases hz : 0 < nd (gT A) y l
      · simp (disch := omega) only [e0, e3, nneg_f, decide_eq_true hz, E318_78, n_or, n_pow, lit, nI_add, pk_mul, n_sub, n_addneg, nle_t, nle_f, nlt_t, nlt_f, neq_t, neq_f, n_inb, n_ix, bnd_some, if_true, if_false, ite_tt, ite_ff, not_true_eq_false, not_false_eq_true, eq_self, false_or, or_false, true_or, or_true]
      · simp (disch := omega) only [e0, e3, nneg_f, decide_eq_false hz, E318_77, E318_78, n_or, Bool.false_eq_true, lit, nI_add, pk_mul, n_sub, n_addneg, nle_t, nle_f, nlt_t, nlt_f, neq_t, neq_f, n_inb, n_ix, bnd_some, if_true, if_false, ite_tt, ite_ff, not_true_eq_false, not_false_eq_true, eq_self, false_or, or_false, true_or, or_true]) 0
  obtain ⟨s1, s2, f1, f2, q1, q2, w2⟩ := m_tell2 (d := d + 1) (s := s0) (p := nI t) (q := nI (bts (fun w => decide (0 < ndH (gT A) (gS A) w l)) (tN (gT A))))
  have r1 := m_stockOf (d := d + 1) (l := l) hN ha.2.1 (MT_q h0.1 q2 (by decide) (by decide)) (MSt_q h0.2.1 q2 (by decide) (by decide)) hl
  have b2 := ha.2.1.2.1 l hl
  have em := mmax0 (a := t) (b := stk (gS A) l) (by omega) (by omega)
  refine ⟨s2, ?_, MJ_row h0 q2 (by decide) (by decide) w2, g0.tr (q2.g (by decide))⟩
  have st : ev (d + 1 + 1) 318 0 [.inr 67, .inl (nI l), .inr 0, .inr 0, .inr 0] [] s = ev (d + 1 + 1) 318 29 [.inr 67, .inl (nI l), .inl (nI t), .inl (nI 0), .inl (nI 0)] [] s0 := by
    rw [E318_0, show up s 67 18 0 = s0 from hs0.symm, m_isLetter, hi']
    simp (disch := omega) only [bIt0, e1, e2, lit, nI_add, pk_mul, n_sub, n_addneg, nle_t, nle_f, nlt_t, nlt_f, neq_t, neq_f, n_inb, n_ix, bnd_some, if_true, if_false, ite_tt, ite_ff, not_true_eq_false, not_false_eq_true, eq_self, false_or, or_false, true_or, or_true]
  rw [st]
  refine g.trans ?_
  have eg : itr (fun w a => a ||| (if decide (0 < ndH (gT A) (gS A) w l) = true then 2 ^ w else 0)) (tN (gT A)) 0 = bts (fun w => decide (0 < ndH (gT A) (gS A) w l)) (tN (gT A)) := rfl
  rw [eg, E318_29, h0.1.2.1]
  simp (disch := omega) only [lit, nle_t, if_true, f1, f2, bnd_some, r1, em]
theorem m_could (ht : tOk T) (hT : MT T s) (ho : sOk T S B) (h : MSt T S s) (hw : w < tN T) (hx : x < tW T) : ev d 302 0 [.inr 67, .inl (nI w), .inl (nI x), .inr 0] [] s = some (0, bI (cSh T S w x), s) := by
  have hN := ht.2.1
  have hW := ht.1
  have outer := loopA (fun i => ev d 302 2 [.inr 67, .inl (nI w), .inl (nI x), .inl (nI i)] [] s) (fun l => decide (nd T x l ≤ sG S w l + sL S l)) (some (0, nI 0, s)) 10 (fun l hl hp => by
      have hp := of_decide_eq_true hp
      have b1 := sG_le (l := l) ht (ho.1 w)
      have b2 := (hal_le ho hl).2
      have e1 := (hT.2.2.1 x hx).2.2.2 l hl
      have e2 := m_hung h hw hl
      have e3 := h.2.1 l hl
      rw [E302_2]
      simp (disch := omega) only [e1, e2, e3, lit, nI_add, pk_mul, n_sub, n_addneg, nle_t, nle_f, nlt_t, nlt_f, neq_t, neq_f, n_inb, n_ix, bnd_some, if_true, if_false, ite_tt, ite_ff, not_true_eq_false, not_false_eq_true, eq_self, false_or, or_false, true_or, or_true]) (fun l hl hp => by
      have hp := of_decide_eq_false hp
      have b3 := nd_le T x l
      have b4 := (ht.2.2.1 x hx).2.1
      have e1 := (hT.2.2.1 x hx).2.2.2 l hl
      have e2 := m_hung h hw hl
      have e3 := h.2.1 l hl
      rw [E302_2]
      simp (disch := omega) only [e1, e2, e3, lit, nI_add, pk_mul, n_sub, n_addneg, nle_t, nle_f, nlt_t, nlt_f, neq_t, neq_f, n_inb, n_ix, bnd_some, if_true, if_false, ite_tt, ite_ff, not_true_eq_false, not_false_eq_true, eq_self, false_or, or_false, true_or, or_true])
  rw [E302_0]
  simp only [lit]
  refine outer.trans ?_
  unfold cSh
  cases allN (fun l => decide (nd T x l ≤ sG S w l + sL S l)) 10 with
  | true =>
    rw [if_pos rfl, E302_2]
    simp (disch := omega) only [lit, nI_add, pk_mul, n_sub, n_addneg, nle_t, nle_f, nlt_t, nlt_f, neq_t, neq_f, n_inb, n_ix, bnd_some, if_true, if_false, ite_tt, ite_ff, not_true_eq_false, not_false_eq_true, eq_self, false_or, or_false, true_or, or_true]
    rfl
  | false => rfl
end MD4
