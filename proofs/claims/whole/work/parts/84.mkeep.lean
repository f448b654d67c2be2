/-! THE MODEL: lend, undo, keep, again -/
section MD8
variable {d B B' l w v x y n k o a b i f t : Nat} {s s' s1 s2 s'' : mS} {T : aT} {S S' U : aS} {A : aA} {p q r : Int32} {L : List aS}
theorem rfs_ok (h : ¬ rfs T S p q r < nI 0) : inN p (tN T) = true ∧ inN q (tN T) = true ∧ p ≠ q ∧ inN r 10 = true ∧ sG S (ix p) (ix r) ≠ 0 ∧ lck T S (ix q) (ix r) ≠ 0 ∧ rfs T S p q r = nI 0 := by
  have m1 : -nI 1 < nI 0 := by decide +kernel
  have m2 : -nI 2 < nI 0 := by decide +kernel
  have m3 : -nI 3 < nI 0 := by decide +kernel
  unfold rfs at h ⊢
  by_cases h1 : inN p (tN T) = false ∨ inN q (tN T) = false ∨ p = q ∨ inN r 10 = false
  · rw [if_pos h1] at h; exact absurd m1 h
  rw [if_neg h1] at h ⊢
  by_cases h2 : sG S (ix p) (ix r) = 0
  · rw [if_pos h2] at h; exact absurd m2 h
  rw [if_neg h2] at h ⊢
  by_cases h3 : lck T S (ix q) (ix r) = 0
  · rw [if_pos h3] at h; exact absurd m3 h
  rw [if_neg h3]
  refine ⟨?_, ?_, fun z => h1 (Or.inr (Or.inr (Or.inl z))), ?_, h2, h3, rfl⟩
  · cases e : inN p (tN T) with
    | true => rfl
    | false => exact absurd (Or.inl e) h1
  · cases e : inN q (tN T) with
    | true => rfl
    | false => exact absurd (Or.inr (Or.inl e)) h1
  · cases e : inN r 10 with
    | true => rfl
    | false => exact absurd (Or.inr (Or.inr (Or.inr e))) h1
theorem Y_lend (ha : AOk A B) (h : MJ A B' s) : ∃ s', ev (d + 1 + 1 + 1) 279 0 [.inr 67, .inl p, .inl q, .inl r, .inr 0] [] s = some (0, (o_lend A p q r).2, s') ∧ MJ (o_lend A p q r).1 B' s' ∧ gM s s' := by
  obtain ⟨h0, g0⟩ := m_th h
  obtain ⟨s0, hs0⟩ : ∃ s0, s0 = up s 67 18 (nI 0) := ⟨_, rfl⟩
  rw [← hs0] at h0 g0
  have hN := ha.1.2.1
  have er := m_refusal (d := d) (p := p) (q := q) (r := r) ha.1 ha.2.1 h0.2.1 h0.1
  unfold o_lend
  by_cases hr : rfs (gT A) (gS A) p q r < nI 0
  · rw [if_pos hr]
    refine ⟨s0, ?_, h0, g0⟩
    have hr2 : ¬ nI 0 ≤ rfs (gT A) (gS A) p q r := by
      rw [Int32.le_iff_toInt_le]
      rw [Int32.lt_iff_toInt_lt] at hr
      omega
    rw [E279_0, show up s 67 18 0 = s0 from hs0.symm, er, bnd_some]
    exact if_neg hr2
  rw [if_neg hr]
  obtain ⟨r1, r2, r3, r4, r5, r6, r7⟩ := rfs_ok hr
  rw [r7] at er
  obtain ⟨f, hf, rfl⟩ := inN_t (by omega) r1
  obtain ⟨t, ht, rfl⟩ := inN_t (by omega) r2
  obtain ⟨l, hl, rfl⟩ := inN_t (by omega) r4
  rw [n_ix (by omega), n_ix (by omega)] at r5
  rw [n_ix (by omega), n_ix (by omega)] at r6
  rw [n_ix (by omega), n_ix (by omega), n_ix (by omega)]
  have hne : f ≠ t := fun z => r3 (by rw [z])
  have b1 := sG_le (l := l) ha.1 (ha.2.1.1 f)
  have b2 := sG_le (l := l) ha.1 (ha.2.1.1 t)
  have b3 := lck_le (l := l) ha.1 (ha.2.1.1 t)
  obtain ⟨s1, e1, u1, q1⟩ := m_remember (d := d + 1) h0.2.1 h0.2.2.2.2.2.1 hN ha.2.2.2.2.1
  have hT1 := MT_q h0.1 q1 (by decide) (by decide)
  obtain ⟨s2, e2, m2, q2⟩ := m_lends (d := d + 1 + 1) hN (MSt_q h0.2.1 q1 (by decide) (by decide)) hf ht hl hne (by omega) (by omega) (by omega)
  have hG : sG (lendW (gS A) f t l) t l = sG (gS A) t l + 1 := if_pos ⟨rfl, rfl⟩
  have hlk : lck (gT A) (lendW (gS A) f t l) t l = lck (gT A) (gS A) t l - 1 := by
    unfold lck
    rw [hG]
    show (match sH (gS A) t with
      | none => 0
      | some x => nd (gT A) x l - (sG (gS A) t l + 1)) = _
    cases sH (gS A) t with
    | none => rfl
    | some x => show nd (gT A) x l - (sG (gS A) t l + 1) = nd (gT A) x l - sG (gS A) t l - 1; omega
  have e3 := m_lacks (d := d + 1 + 1) (s := s2) ha.1 m2 ht hl (MT_q hT1 q2 (by decide) (by decide)) (fun x hx => by
    have hx : sH (gS A) t = some x := hx
    have o := wOk_s (ha.2.1.1 t) hx
    refine ⟨o.2.1, ?_⟩
    rw [hG]
    unfold lck at r6
    rw [hx] at r6
    have r6 : nd (gT A) x l - sG (gS A) t l ≠ 0 := r6
    omega)
  rw [hlk] at e3
  refine ⟨s2, ?_, MJ_go h0 u1 q1 (q2.mono (by decide) (by decide)) m2, g0.tr ((q1.g (by decide)).tr (q2.g (by decide)))⟩
  rw [E279_0, show up s 67 18 0 = s0 from hs0.symm, er]
  simp (disch := omega) only [e1, e2, e3, lit, nI_add, pk_mul, n_sub, n_addneg, nle_t, nle_f, nlt_t, nlt_f, neq_t, neq_f, n_inb, n_ix, bnd_some, if_true, if_false, ite_tt, ite_ff, not_true_eq_false, not_false_eq_true, eq_self, false_or, or_false, true_or, or_true]
theorem Y_undo (ha : AOk A B) (h : MJ A B' s) : ∃ s', ev (d + 1) 288 0 [.inr 67] [] s = some (0, (o_undo A).2, s') ∧ MJ (o_undo A).1 B' s' ∧ gM s s' := by
  obtain ⟨h0, g0⟩ := m_th h
  obtain ⟨s0, hs0⟩ : ∃ s0, s0 = up s 67 18 (nI 0) := ⟨_, rfl⟩
  rw [← hs0] at h0 g0
  have hN := ha.1.2.1
  have hU := h0.2.2.2.2.2.1
  have hlen := ha.2.2.2.2.1
  unfold o_undo
  cases hL : gU A with
  | nil =>
    rw [hL] at hU
    refine ⟨s0, ?_, h0, g0⟩
    have c0 : s0 67 31 = nI 0 := hU.1
    rw [E288_0, show up s 67 18 0 = s0 from hs0.symm, c0]
    simp (disch := omega) only [lit, nI_add, pk_mul, n_sub, n_addneg, nle_t, nle_f, nlt_t, nlt_f, neq_t, neq_f, n_inb, n_ix, bnd_some, if_true, if_false, ite_tt, ite_ff, not_true_eq_false, not_false_eq_true, eq_self, false_or, or_false, true_or, or_true]
  | cons U L =>
    rw [hL] at hU hlen
    have hl : L.length < 12 := by have : (U :: L).length = L.length + 1 := rfl; omega
    have c0 : s0 67 31 = nI (L.length + 1) := hU.1
    obtain ⟨s1, hs1⟩ : ∃ s1, s1 = up s0 67 31 (nI L.length) := ⟨_, rfl⟩
    have q1 : Eqm [] [31] s0 s1 := by rw [hs1]; exact Eqm.rf.pf (by simp)
    have c1 : s1 67 31 = nI L.length := by rw [hs1, up_in]
    have hz : 115 * L.length + 115 ≤ (mSh 84).2 := by
      show _ ≤ 1380
      omega
    obtain ⟨s2, e2, q2, r1, r2, r3, r4⟩ := m_back (d := d) (s := s1) (k := 84) (o := 115 * L.length) (by decide) hz
    have hld : MLd (gT A) U (fun j => s1 84 (115 * L.length + j)) := by
      have := hU.2 0 U rfl
      refine MLd_c this hN (fun j hj => ?_)
      rw [hs1, up_ne (by decide)]
      rfl
    have m2 : MSt (gT A) U s2 := MSt_of hld hN r1 r2 r3 r4
    have q : Eqm [68, 75, 76, 77, 78] [13, 31] s0 s2 := (q1.mono (by decide) (by decide)).tr (q2.mono (by decide) (by decide))
    have c2 : s2 67 31 = nI L.length := by rw [q2.2 _ (by decide), c1]
    obtain ⟨h1, h2, h3, h4, h5, h6, h7, h8⟩ := h0
    refine ⟨s2, ?_, ⟨MT_q h1 q (by decide) (by decide), m2, MX_q h3 q (by decide) (by decide), MW_q h4 q (by decide) (by decide), MRl_q h5 q (by decide) (by decide), ⟨c2, fun i V hi => ?_⟩, MK_q h7 q (by decide) (by decide), MN_q h8 q (by decide) (by decide)⟩, g0.tr (q.g (by decide))⟩
    · rw [E288_0, show up s 67 18 0 = s0 from hs0.symm, c0]
      simp (disch := omega) only [lit, neq_f, not_false_eq_true, if_true, n_sub, Nat.add_sub_cancel]
      rw [← hs1, c1]
      simp (disch := omega) only [e2, c2, lit, nI_add, pk_mul, n_sub, n_addneg, nle_t, nle_f, nlt_t, nlt_f, neq_t, neq_f, n_inb, n_ix, bnd_some, if_true, if_false, ite_tt, ite_ff, not_true_eq_false, not_false_eq_true, eq_self, false_or, or_false, true_or, or_true]
    · have hi : L[i]? = some V := hi
      have hlt := (List.getElem?_eq_some_iff.mp hi).1
      show MLd (gT A) V (fun j => s2 84 (115 * (L.length - 1 - i) + j))
      refine MLd_c (hU.2 (i + 1) V hi) hN (fun j hj => ?_)
      rw [q.1 _ (by decide) (by decide)]
      have e0 : (U :: L).length = L.length + 1 := rfl
      rw [e0]
      congr 2
      omega
theorem Y_keep (ha : AOk A B) (h : MJ A B' s) : ∃ s', ev (d + 1) 327 0 [.inr 67, .inl p] [] s = some (0, (o_keep A p).2, s') ∧ MJ (o_keep A p).1 B' s' ∧ gM s s' := by
  obtain ⟨h0, g0⟩ := m_th h
  obtain ⟨s0, hs0⟩ : ∃ s0, s0 = up s 67 18 (nI 0) := ⟨_, rfl⟩
  rw [← hs0] at h0 g0
  have hN := ha.1.2.1
  have ei := m_inB (d := d) (p := p) (n := 1) (s := s0) (by omega)
  unfold o_keep
  by_cases hi : inN p 2 = false
  · rw [if_pos hi]
    have ei : ev d 228 0 [.inl p, .inl (nI 0), .inl (nI 1)] [] s0 = some (0, bI false, s0) := by rw [ei, show (1 + 1) = 2 from rfl, hi]
    refine ⟨s0, ?_, h0, g0⟩
    rw [E327_0, show up s 67 18 0 = s0 from hs0.symm]
    simp (disch := omega) only [ei, bIf0, lit, nI_add, pk_mul, n_sub, n_addneg, nle_t, nle_f, nlt_t, nlt_f, neq_t, neq_f, n_inb, n_ix, bnd_some, if_true, if_false, ite_tt, ite_ff, not_true_eq_false, not_false_eq_true, eq_self, false_or, or_false, true_or, or_true]
  have hi' : inN p 2 = true := by simpa using hi
  rw [if_neg hi]
  have ei : ev d 228 0 [.inl p, .inl (nI 0), .inl (nI 1)] [] s0 = some (0, bI true, s0) := by rw [ei, show (1 + 1) = 2 from rfl, hi']
  obtain ⟨i, hi2, rfl⟩ := inN_t (by omega) hi'
  rw [n_ix (by omega)]
  obtain ⟨h1, h2, h3, h4, h5, h6, ⟨c, k1, k2, k3⟩, h8⟩ := h0
  have vb : vp_nar .boolean (nI 1) = nI 1 := by decide +kernel
  obtain ⟨s1, hs1⟩ : ∃ s1, s1 = up (up s0 95 i (nI 1)) 96 i (nI c) := ⟨_, rfl⟩
  have q1 : Eqm [95, 96] [] s0 s1 := by rw [hs1]; exact (Eqm.rf.pu (by simp) (by decide)).pu (by simp) (by decide)
  have c1 : (up s0 95 i (nI 1)) 67 43 = nI c := by rw [up_ne (by decide)]; exact k2
  have hz : 115 * i + 115 ≤ (mSh 94).2 := by
    show _ ≤ 230
    omega
  obtain ⟨s2, e2, r1, r2, r3, r4, r5, r6⟩ := m_lay (d := d) (s := s1) (k := 94) (o := 115 * i) (by decide) hz
  have q2 : Eqm [94] [] s1 s2 := ⟨fun a ha hb => r1 a (by simpa using ha), fun f _ => by rw [r1 _ (by decide)]⟩
  have q : Eqm [95, 96, 94] [] s0 s2 := (q1.mono (by decide) (by decide)).tr (q2.mono (by decide) (by decide))
  have a95 : s2 95 = upd (s0 95) i (nI 1) := by
    rw [r1 _ (by decide), hs1, up_ne (by decide)]
    exact setA_at
  have a96 : s2 96 = upd (s0 96) i (nI c) := by
    rw [r1 _ (by decide), hs1]
    have e : (up s0 95 i (nI 1)) 96 = s0 96 := up_ne (by decide)
    rw [← e]
    exact setA_at
  refine ⟨s2, ?_, ⟨MT_q h1 q (by decide) (by decide), MSt_q h2 q (by decide) (by decide), MX_q h3 q (by decide) (by decide), MW_q h4 q (by decide) (by decide), MRl_q h5 q (by decide) (by decide), MU_q h6 q (by decide) (by decide), ⟨c, k1, by rw [q.2 _ (by simp)]; exact k2, fun j hj => ?_⟩, MN_q h8 q (by decide) (by decide)⟩, g0.tr (q.g (by decide))⟩
  · rw [E327_0, show up s 67 18 0 = s0 from hs0.symm]
    simp (disch := omega) only [ei, bIt0, vb, c1, lit, nI_add, pk_mul, n_sub, n_addneg, nle_t, nle_f, nlt_t, nlt_f, neq_t, neq_f, n_inb, n_ix, bnd_some, if_true, if_false, ite_tt, ite_ff, not_true_eq_false, not_false_eq_true, eq_self, false_or, or_false, true_or, or_true]
    rw [← hs1]
    simp (disch := omega) only [e2, lit, nI_add, pk_mul, n_sub, n_addneg, nle_t, nle_f, nlt_t, nlt_f, neq_t, neq_f, n_inb, n_ix, bnd_some, if_true, if_false, ite_tt, ite_ff, not_true_eq_false, not_false_eq_true, eq_self, false_or, or_false, true_or, or_true]
  · rw [a95, a96]
    show _ ∧ (∃ e, e ≤ c ∧ upd (s0 96) i (nI c) j = nI e ∧ ((if j = i then some (gS A) else gK A j) ≠ none ↔ _)) ∧ ∀ U, (if j = i then some (gS A) else gK A j) = some U → _
    by_cases hji : j = i
    · subst hji
      rw [upd_eq rfl, upd_eq rfl, if_pos rfl]
      refine ⟨Or.inr rfl, ⟨c, Nat.le_refl _, rfl, ⟨fun _ => ⟨rfl, rfl⟩, fun _ z => by cases z⟩⟩, fun U hU => ?_⟩
      cases hU
      exact MLd_of (MSt_q h2 q1 (by decide) (by decide)) hN (fun w hw => r3 w hw) r4 r5 r6
    · rw [upd_ne hji, upd_ne hji, if_neg hji]
      obtain ⟨x1, x2, x3⟩ := k3 j hj
      refine ⟨x1, x2, fun U hU => MLd_c (x3 U hU) hN (fun n hn => ?_)⟩
      rw [r2 _ (by omega), hs1, up_ne (by decide), up_ne (by decide)]
theorem Y_again (ha : AOk A B) (h : MJ A B' s) (hB : B' < 2147483648) : ∃ s', ev (d + 1) 328 0 [.inr 67, .inl p] [] s = some (0, (o_again A p).2, s') ∧ MJ (o_again A p).1 B' s' ∧ gM s s' := by
  obtain ⟨h0, g0⟩ := m_th h
  obtain ⟨s0, hs0⟩ : ∃ s0, s0 = up s 67 18 (nI 0) := ⟨_, rfl⟩
  rw [← hs0] at h0 g0
  have hN := ha.1.2.1
  have ei := m_inB (d := d) (p := p) (n := 1) (s := s0) (by omega)
  unfold o_again
  by_cases hi : inN p 2 = false
  · rw [if_pos hi]
    have ei : ev d 228 0 [.inl p, .inl (nI 0), .inl (nI 1)] [] s0 = some (0, bI false, s0) := by rw [ei, show (1 + 1) = 2 from rfl, hi]
    refine ⟨s0, ?_, h0, g0⟩
    rw [E328_0, show up s 67 18 0 = s0 from hs0.symm]
    simp (disch := omega) only [ei, bIf0, E328_36, lit, nI_add, pk_mul, n_sub, n_addneg, nle_t, nle_f, nlt_t, nlt_f, neq_t, neq_f, n_inb, n_ix, bnd_some, if_true, if_false, ite_tt, ite_ff, not_true_eq_false, not_false_eq_true, eq_self, false_or, or_false, true_or, or_true]
  have hi' : inN p 2 = true := by simpa using hi
  rw [if_neg hi]
  have ei : ev d 228 0 [.inl p, .inl (nI 0), .inl (nI 1)] [] s0 = some (0, bI true, s0) := by rw [ei, show (1 + 1) = 2 from rfl, hi']
  obtain ⟨i, hi2, rfl⟩ := inN_t (by omega) hi'
  rw [n_ix (by omega)]
  have hh := h0
  obtain ⟨h1, h2, h3, h4, h5, h6, ⟨c, k1, k2, k3⟩, h8⟩ := h0
  obtain ⟨x1, ⟨e, e1, e2, e3⟩, x3⟩ := k3 i hi2
  have n10 : ¬ (nI 0 = nI 1) := by decide +kernel
  rcases x1 with x1 | x1
  · have hK : gK A i = none := by
      cases hk : gK A i with
      | none => rfl
      | some U => exact absurd (x1.symm.trans (e3.mp (by rw [hk]; simp)).1) n10
    rw [hK]
    refine ⟨s0, ?_, hh, g0⟩
    rw [E328_0, show up s 67 18 0 = s0 from hs0.symm]
    simp (disch := omega) only [ei, bIt0, x1, E328_36, lit, nI_add, pk_mul, n_sub, n_addneg, nle_t, nle_f, nlt_t, nlt_f, neq_t, neq_f, n_inb, n_ix, bnd_some, if_true, if_false, ite_tt, ite_ff, not_true_eq_false, not_false_eq_true, eq_self, false_or, or_false, true_or, or_true]
  · by_cases hec : e = c
    · cases hk : gK A i with
      | none => exact absurd hk (e3.mpr ⟨x1, hec⟩)
      | some U =>
        have hz : 115 * i + 115 ≤ (mSh 94).2 := by
          show _ ≤ 230
          omega
        obtain ⟨s2, f2, q2, r1, r2, r3, r4⟩ := m_back (d := d) (s := s0) (k := 94) (o := 115 * i) (by decide) hz
        have m2 : MSt (gT A) U s2 := MSt_of (x3 U hk) hN r1 r2 r3 r4
        have q : Eqm [68, 75, 76, 77, 78] [13, 31] s0 (up s2 67 31 (nI 0)) := (q2.mono (by decide) (by decide)).pf (by simp)
        have q3 : Eqm [] [31] s2 (up s2 67 31 (nI 0)) := Eqm.rf.pf (by simp)
        refine ⟨up s2 67 31 (nI 0), ?_, ⟨MT_q h1 q (by decide) (by decide), MSt_q m2 q3 (by decide) (by decide), MX_q h3 q (by decide) (by decide), MW_q h4 q (by decide) (by decide), MRl_q h5 q (by decide) (by decide), ⟨up_in, fun j V hj => by cases hj⟩, MK_q hh.2.2.2.2.2.2.1 q (by decide) (by decide), MN_q h8 q (by decide) (by decide)⟩, g0.tr (q.g (by decide))⟩
        rw [E328_0, show up s 67 18 0 = s0 from hs0.symm]
        simp (disch := omega) only [ei, bIt0, x1, e2, k2, hec, f2, lit, nI_add, pk_mul, n_sub, n_addneg, nle_t, nle_f, nlt_t, nlt_f, neq_t, neq_f, n_inb, n_ix, bnd_some, if_true, if_false, ite_tt, ite_ff, not_true_eq_false, not_false_eq_true, eq_self, false_or, or_false, true_or, or_true]
    · have hK : gK A i = none := by
        cases hk : gK A i with
        | none => rfl
        | some U => exact absurd (e3.mp (by rw [hk]; simp)).2 hec
      rw [hK]
      refine ⟨s0, ?_, hh, g0⟩
      rw [E328_0, show up s 67 18 0 = s0 from hs0.symm]
      simp (disch := omega) only [ei, bIt0, x1, e2, k2, E328_36, lit, nI_add, pk_mul, n_sub, n_addneg, nle_t, nle_f, nlt_t, nlt_f, neq_t, neq_f, n_inb, n_ix, bnd_some, if_true, if_false, ite_tt, ite_ff, not_true_eq_false, not_false_eq_true, eq_self, false_or, or_false, true_or, or_true]
end MD8
