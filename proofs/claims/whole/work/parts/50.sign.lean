/-! CALLS: sign, end -/
def sgB (v : Int32) (k : Nat) : Nat := v.toBitVec.toNat / 2 ^ (8 * k) % 256
def sgX (X : Nat × (Nat → Nat)) (v : Int32) : Nat × (Nat → Nat) := (X.1 + 4, fun i => if i < X.1 then X.2 i else if i < X.1 + 4 then sgB v (3 - (i - X.1)) else X.2 i)
def o_sign (A : aA) (v : Int32) : aA × Int32 := if 80 < (gX A).1 + 4 then (A, -nI 1) else (wX A (sgX (gX A) v), nI ((gX A).1 + 4))
def o_end (A : aA) (n : Int32) : aA × Int32 := if inN n ((gX A).1 + 1) = false then (A, nI 0) else (wX A (ix n, (gX A).2), nI 1)
theorem sgB_lt (v : Int32) (k : Nat) : sgB v k < 256 := Nat.mod_lt _ (by decide)
theorem vp_ch : ∀ q, q < 256 → vp_nar .char (nI q) = nI q := by decide +kernel
theorem ch_ch : ∀ q, q < 256 → ((nI q).toUInt32 % 65536).toInt32 = nI q := by decide +kernel
theorem sg_amt : ∀ k, k < 4 → ((nI (8 * k)).toUInt32 &&& Int32.toUInt32 (nI 31)).toNat = 8 * k := by decide +kernel
theorem sg_byte (v : Int32) {k : Nat} (hk : k < 4) : ((v.toUInt32 >>> ((nI (8 * k)).toUInt32 &&& Int32.toUInt32 (nI 31))).toInt32) &&& nI 255 = nI (sgB v k) := by
  apply Int32.toBitVec_inj.mp
  apply BitVec.eq_of_toNat_eq
  rw [Int32.toBitVec_and, BitVec.toNat_and]
  have e1 : ((v.toUInt32 >>> ((nI (8 * k)).toUInt32 &&& Int32.toUInt32 (nI 31))).toInt32).toBitVec.toNat = (v.toUInt32 >>> ((nI (8 * k)).toUInt32 &&& Int32.toUInt32 (nI 31))).toNat := rfl
  have e2 : (nI 255).toBitVec.toNat = 2 ^ 8 - 1 := by decide +kernel
  rw [e1, e2, Nat.and_two_pow_sub_one_eq_mod, UInt32.toNat_shiftRight, sg_amt k hk, Nat.mod_eq_of_lt (show 8 * k < 32 by omega), Nat.shiftRight_eq_div_pow]
  have e3 : v.toUInt32.toNat = v.toBitVec.toNat := rfl
  rw [e3]
  have hl := sgB_lt v k
  unfold sgB at hl ⊢
  rw [nI_bv, BitVec.toNat_ofNat, Nat.mod_eq_of_lt (show _ < 2 ^ 32 by omega)]
section XCG
variable {d B n k : Nat} {s s' : mS} {A : aA} {a v : Int32} {X : Nat × (Nat → Nat)}
/-- another text -/
theorem XI_X (h : XI A B s) (q : Eqx [2, 3] s s') (hx : XX X s') (h1 : X.1 ≤ 80) (h2 : ∀ i, X.2 i < 256) : XI (wX A X) B s' := by
  obtain ⟨⟨a1, a2, a3, a4, a5, a6, a7, a8⟩, hc, g1, g2, g3, g4, g5, g6, g7, g8⟩ := h
  exact ⟨⟨a1, a2, a3, a4, a5, h1, h2, a8⟩, by rw [q _ (by decide)]; exact hc, XT_q g1 q (by decide), XSt_q g2 q (by decide), hx, XW_q g4 q (by decide) (by decide), XRs_q g5 q (by decide), XU_q g6 q (by decide) (by decide), XK_q g7 q (by decide) (by decide), XN_q g8 q (by decide)⟩
theorem X_end (h : XI A B s) : ∃ s', ev (d + 1) 171 0 [.inr 1, .inl a] [] s = some (0, (o_end A a).2, s') ∧ XI (o_end A a).1 B s' ∧ fX s s' := by
  have hx := h.2.2.2.2.1
  have hx1 : s 2 1 = nI (gX A).1 := hx.1
  obtain ⟨-, -, -, -, -, b1, b2, -⟩ := h.1
  unfold o_end
  by_cases hi : inN a ((gX A).1 + 1) = false
  · rw [if_pos hi]
    refine ⟨s, ?_, h, fun _ _ => rfl⟩
    rw [E171_0, E129_0, E129_12, hx1]
    rcases inN_f hi with z | z
    · simp only [lit, z, bnd_some, true_or, if_true, if_false, not_true_eq_false, not_false_eq_true]
    · by_cases z2 : a < nI 0
      · simp only [lit, z2, bnd_some, true_or, if_true, if_false, not_true_eq_false, not_false_eq_true]
      · simp only [lit, z2, nle_of (by omega) z, bnd_some, true_or, if_true, if_false, not_true_eq_false, not_false_eq_true]
  have hi' : inN a ((gX A).1 + 1) = true := by simpa using hi
  rw [if_neg hi]
  obtain ⟨n, hn, rfl⟩ := inN_t (by omega) hi'
  rw [n_ix (by omega)]
  refine ⟨up s 2 1 (nI n), ?_, XI_X h (Eqx.rf.up (by simp)) ⟨up_in, fun i hi => ?_⟩ (by show n ≤ 80; omega) b2, fX_q (P := [2]) (Eqx.rf.up (by simp)) (by decide)⟩
  · rw [E171_0, E129_0, hx1]
    simp (disch := omega) only [lit, nI_add, pk_mul, n_sub, n_addneg, nle_t, nle_f, nlt_t, nlt_f, neq_t, neq_f, n_inb, n_ix, bnd_some, if_true, if_false, ite_tt, ite_ff, not_true_eq_false, not_false_eq_true, eq_self, false_or, or_false, true_or, or_true]
  · rw [up_ne (by decide)]
    have hi : i < n := hi
    exact hx.2 i (by omega)
theorem x_put1 (hx : s 2 1 = nI n) (hn : n < 80) (hk : k < 4) : ev d 128 16 [.inr 2, .inl v, .inl (nI (8 * k))] [] s = ev d 128 16 [.inr 2, .inl v, .inl (nI (8 * k) + -nI 8)] [] (up (up s 3 n (nI (sgB v k))) 2 1 (nI (n + 1))) := by
  have hl := sgB_lt v k
  have e : (up s 3 n (nI (sgB v k))) 2 1 = nI n := by rw [up_ne (by decide)]; exact hx
  rw [E128_16]
  simp (disch := omega) only [sg_byte v hk, ch_ch _ hl, vp_ch _ hl, hx, e, lit, nI_add, pk_mul, n_sub, n_addneg, nle_t, nle_f, nlt_t, nlt_f, neq_t, neq_f, n_inb, n_ix, bnd_some, if_true, if_false, ite_tt, ite_ff, not_true_eq_false, not_false_eq_true, eq_self, false_or, or_false, true_or, or_true]
theorem X_sign (h : XI A B s) : ∃ s', ev (d + 1) 170 0 [.inr 1, .inl v] [] s = some (0, (o_sign A v).2, s') ∧ XI (o_sign A v).1 B s' ∧ fX s s' := by
  have hx := h.2.2.2.2.1
  have hx1 : s 2 1 = nI (gX A).1 := hx.1
  obtain ⟨-, -, -, -, -, b1, b2, -⟩ := h.1
  unfold o_sign
  by_cases hi : 80 < (gX A).1 + 4
  · rw [if_pos hi]
    refine ⟨s, ?_, h, fun _ _ => rfl⟩
    rw [E170_0, E128_0, hx1]
    simp (disch := omega) only [E170_22, lit, nI_add, pk_mul, n_sub, n_addneg, nle_t, nle_f, nlt_t, nlt_f, neq_t, neq_f, n_inb, n_ix, bnd_some, if_true, if_false, ite_tt, ite_ff, not_true_eq_false, not_false_eq_true, eq_self, false_or, or_false, true_or, or_true]
  rw [if_neg hi]
  generalize hn : (gX A).1 = n at hx1 hi b1
  have u1 := x_put1 (d := d) (v := v) (k := 3) hx1 (by omega) (by omega)
  have x2 : (up (up s 3 n (nI (sgB v 3))) 2 1 (nI (n + 1))) 2 1 = nI (n + 1) := up_in
  have u2 := x_put1 (d := d) (v := v) (k := 2) x2 (by omega) (by omega)
  generalize hs2 : up (up s 3 n (nI (sgB v 3))) 2 1 (nI (n + 1)) = s2 at u1 x2 u2
  have x3 : (up (up s2 3 (n + 1) (nI (sgB v 2))) 2 1 (nI (n + 1 + 1))) 2 1 = nI (n + 1 + 1) := up_in
  have u3 := x_put1 (d := d) (v := v) (k := 1) x3 (by omega) (by omega)
  generalize hs3 : up (up s2 3 (n + 1) (nI (sgB v 2))) 2 1 (nI (n + 1 + 1)) = s3 at u2 x3 u3
  have x4 : (up (up s3 3 (n + 1 + 1) (nI (sgB v 1))) 2 1 (nI (n + 1 + 1 + 1))) 2 1 = nI (n + 1 + 1 + 1) := up_in
  have u4 := x_put1 (d := d) (v := v) (k := 0) x4 (by omega) (by omega)
  generalize hs4 : up (up s3 3 (n + 1 + 1) (nI (sgB v 1))) 2 1 (nI (n + 1 + 1 + 1)) = s4 at u3 x4 u4
  have q2 : Eqx [2, 3] s s2 := by rw [← hs2]; exact (Eqx.rf.up (by simp)).up (by simp)
  have q3 : Eqx [2, 3] s s3 := by rw [← hs3]; exact (q2.up (by simp)).up (by simp)
  have q4 : Eqx [2, 3] s s4 := by rw [← hs4]; exact (q3.up (by simp)).up (by simp)
  have q5 : Eqx [2, 3] s (up (up s4 3 (n + 1 + 1 + 1) (nI (sgB v 0))) 2 1 (nI (n + 1 + 1 + 1 + 1))) := (q4.up (by simp)).up (by simp)
  refine ⟨_, ?_, XI_X (X := sgX (gX A) v) h q5 ⟨?_, fun i hi => ?_⟩ (by show (gX A).1 + 4 ≤ 80; omega) (fun i => ?_), fX_q q5 (by decide)⟩
  · have e0 : (up (up s4 3 (n + 1 + 1 + 1) (nI (sgB v 0))) 2 1 (nI (n + 1 + 1 + 1 + 1))) 2 1 = nI (n + 1 + 1 + 1 + 1) := up_in
    have a1 : nI (8 * 3) + -nI 8 = nI (8 * 2) := by decide +kernel
    have a2 : nI (8 * 2) + -nI 8 = nI (8 * 1) := by decide +kernel
    have a3 : nI (8 * 1) + -nI 8 = nI (8 * 0) := by decide +kernel
    rw [a1] at u1
    rw [a2] at u2
    rw [a3] at u3
    have a4 : (nI (8 * 0) + -nI 8 < nI 0) = True := eq_true (by decide +kernel)
    have u0 : ev d 128 16 [.inr 2, .inl v, .inl (nI 24)] [] s = some (0, nI 1, up (up s4 3 (n + 1 + 1 + 1) (nI (sgB v 0))) 2 1 (nI (n + 1 + 1 + 1 + 1))) := by
      refine u1.trans (u2.trans (u3.trans (u4.trans ?_)))
      rw [E128_16]
      exact if_pos (of_eq_true a4)
    rw [E170_0, E128_0, hx1]
    simp (disch := omega) only [u0, E170_22, E130_0, e0, lit, nI_add, pk_mul, n_sub, n_addneg, nle_t, nle_f, nlt_t, nlt_f, neq_t, neq_f, n_inb, n_ix, bnd_some, if_true, if_false, ite_tt, ite_ff, not_true_eq_false, not_false_eq_true, eq_self, false_or, or_false, true_or, or_true]
  · show _ = nI ((gX A).1 + 4)
    rw [show 1 = 1 from rfl, up_in, hn]
  · have hi : i < (gX A).1 + 4 := hi
    show _ = nI (if i < (gX A).1 then (gX A).2 i else if i < (gX A).1 + 4 then sgB v (3 - (i - (gX A).1)) else (gX A).2 i)
    rw [hn] at hi ⊢
    rw [up_ne (by decide)]
    by_cases z4 : i = n + 1 + 1 + 1
    · subst z4
      rw [up_in, if_neg (by omega), if_pos (by omega)]
      congr 2; omega
    rw [up_out z4, ← hs4, up_ne (by decide)]
    by_cases z3 : i = n + 1 + 1
    · subst z3
      rw [up_in, if_neg (by omega), if_pos (by omega)]
      congr 2; omega
    rw [up_out z3, ← hs3, up_ne (by decide)]
    by_cases z2 : i = n + 1
    · subst z2
      rw [up_in, if_neg (by omega), if_pos (by omega)]
      congr 2; omega
    rw [up_out z2, ← hs2, up_ne (by decide)]
    by_cases z1 : i = n
    · subst z1
      rw [up_in, if_neg (by omega), if_pos (by omega)]
      congr 2; omega
    rw [up_out z1, if_pos (by omega)]
    exact hx.2 i (by omega)
  · show (if i < (gX A).1 then (gX A).2 i else if i < (gX A).1 + 4 then sgB v (3 - (i - (gX A).1)) else (gX A).2 i) < 256
    split
    · exact b2 i
    · split
      · exact sgB_lt _ _
      · exact b2 i
end XCG
