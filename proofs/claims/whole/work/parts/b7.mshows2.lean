/-! THE MODEL: shows, the whole -/
/-- the table of weeks, below n -/
def XMw (fit : Nat → Bool) (am n : Nat) (s : mS) : Prop := ∀ a, a < n → subS a am = true → s 87 a = nI (sw fit a)
section MU7
variable {d B B' l w v x y n a b c k i m : Nat} {s s' s1 s2 : mS} {T : aT} {S : aS} {A : aA} {p q : Nat} {f : Nat → Nat → Nat} {am : Nat} {pl pl' : Nat → Nat} {fit : Nat → Bool}
theorem n_and0 (ha : a < 2147483648) : (nI a &&& nI b = nI 0) = (a &&& b = 0) := by
  rw [n_and]
  have hle : a &&& b ≤ a := Nat.and_le_left
  exact propext (nI_eq (by omega) (by omega))
/-- what is missing of a part, and whether it fits -/
theorem m_fit (ht : tOk T) (ho : sOk T S B) (hT : MT T s) (h : MSt T S s) (ha : a < 256) (hs : subS a (wdS2 S) = true) : ∃ v, v ≤ 640 ∧ ev (d + 1 + 1) 293 0 [.inr 67, .inl (nI a), .inr 0, .inr 0] [] s = some (0, nI v, s) ∧ (v = 0 ↔ fitS (ndL T S false) (stk S) (wdS2 S) a = true) := by
  refine ⟨_, lkA_le (ndF_le ht ho), m_missing ht ho hT h ha hs, ?_⟩
  unfold fitS
  rw [hs, Bool.true_and, decide_eq_true_iff]
/-- all parts of a set, from the last to the first -/
theorem m_fewI (ht : tOk T) (ho : sOk T S B) (hN : tN T ≤ 8) (ha : a < 256) (h0 : 0 < a) (hs : subS a (wdS2 S) = true) (hf : ∀ w, a.testBit w = true → fitS (ndL T S false) (stk S) (wdS2 S) (2 ^ w) = true) : ∀ p, subS p a = true → ∀ (s : mS) V, MT T s → MSt T S s → XMw (fitS (ndL T S false) (stk S) (wdS2 S)) (wdS2 S) a s → s 87 a = nI V → V ≤ 1000000 → sw (fitS (ndL T S false) (stk S) (wdS2 S)) a ≤ V → (∀ r, p < r → vld (fitS (ndL T S false) (stk S) (wdS2 S)) a r → V ≤ 1 + sw (fitS (ndL T S false) (stk S) (wdS2 S)) (a &&& (a ^^^ r))) → ∃ s', ev (d + 1 + 1 + 1) 300 89 [.inr 67, .inl (nI (wdS2 S)), .inl (nI a), .inl (nI (lowB a)), .inl (nI p)] [] s = ev (d + 1 + 1 + 1) 300 149 [.inr 67, .inl (nI (wdS2 S)), .inl (nI a), .inr 0, .inr 0] [] s' ∧ s' 87 a = nI (sw (fitS (ndL T S false) (stk S) (wdS2 S)) a) ∧ (∀ j, j ≠ a → s' 87 j = s 87 j) ∧ Eqm [87] [] s s' := by
  intro p
  induction p using Nat.strongRecOn with
  | _ p ih =>
    intro hp s V hT hS hX hV hV6 hge hle
    generalize hfit : fitS (ndL T S false) (stk S) (wdS2 S) = fit at ih hf hX hge hle ⊢
    by_cases hp0 : p = 0
    · subst hp0
      obtain ⟨r, hv, he⟩ := sw_at (fit := fit) ha h0 hf
      have hr : 0 < r := by
        rcases Nat.eq_zero_or_pos r with z | z
        · exfalso; subst z; exact hv.2.1 (Nat.zero_and _)
        · exact z
      have := hle r hr hv
      have eV : V = sw fit a := by omega
      refine ⟨s, ?_, by rw [hV, eV], fun _ _ => rfl, Eqm.rf⟩
      rw [E300_89]
      simp (disch := omega) only [lit, nI_add, pk_mul, n_sub, n_addneg, nle_t, nle_f, nlt_t, nlt_f, neq_t, neq_f, n_inb, n_ix, bnd_some, if_true, if_false, ite_tt, ite_ff, not_true_eq_false, not_false_eq_true, eq_self, false_or, or_false, true_or, or_true]
    · have hpa := sub_le hp
      obtain ⟨n1, n2⟩ := pvS_ok 8 p a (by omega) hp (by omega)
      have nsub : subS (p - 1 &&& a) a = true := subS_iff.mpr (fun i hi => by
        rw [Nat.testBit_and, Bool.and_eq_true] at hi
        exact hi.2)
      have e138 : ∀ r, ev (d + 1 + 1 + 1) 300 138 [.inr 67, .inl (nI (wdS2 S)), .inl (nI a), .inl (nI (lowB a)), .inl (nI p)] [] r = ev (d + 1 + 1 + 1) 300 89 [.inr 67, .inl (nI (wdS2 S)), .inl (nI a), .inl (nI (lowB a)), .inl (nI (p - 1 &&& a))] [] r := fun r => by
        rw [E300_138]
        simp (disch := omega) only [n_and, lit, nI_add, pk_mul, n_sub, n_addneg, nle_t, nle_f, nlt_t, nlt_f, neq_t, neq_f, n_inb, n_ix, bnd_some, if_true, if_false, ite_tt, ite_ff, not_true_eq_false, not_false_eq_true, eq_self, false_or, or_false, true_or, or_true]
      obtain ⟨v, v1, v2, v3⟩ := m_fit (d := d) ht ho hT hS (show p < 256 by omega) (subS_trans hp hs)
      rw [hfit] at v3
      have nl := n_and0 (a := p) (b := lowB a) (by omega)
      by_cases hl : p &&& lowB a = 0
      · have nl' : nI p &&& nI (lowB a) = nI 0 := by rw [nl]; exact hl
        obtain ⟨s', e1, x1, x2, x3⟩ := ih (p - 1 &&& a) n1 nsub s V hT hS hX hV hV6 hge (fun r hr hv => by
          by_cases z : p < r
          · exact hle r z hv
          · by_cases y : r = p
            · exact absurd hl (by rw [← y]; exact hv.2.1)
            · have := n2 r hv.1 (by omega); omega)
        refine ⟨s', ?_, x1, x2, x3⟩
        rw [← e1, E300_89]
        simp (disch := omega) only [nl', e138, lit, nI_add, pk_mul, n_sub, n_addneg, nle_t, nle_f, nlt_t, nlt_f, neq_t, neq_f, n_inb, n_ix, bnd_some, if_true, if_false, ite_tt, ite_ff, not_true_eq_false, not_false_eq_true, eq_self, false_or, or_false, true_or, or_true]
      · have nl' : ¬ nI p &&& nI (lowB a) = nI 0 := by rw [nl]; exact hl
        cases hfp : fit p with
        | false =>
          have hv0 : v ≠ 0 := fun z => by rw [v3.mp z] at hfp; cases hfp
          obtain ⟨s', e1, x1, x2, x3⟩ := ih (p - 1 &&& a) n1 nsub s V hT hS hX hV hV6 hge (fun r hr hv => by
            by_cases z : p < r
            · exact hle r z hv
            · by_cases y : r = p
              · rw [← y, hv.2.2] at hfp; cases hfp
              · have := n2 r hv.1 (by omega); omega)
          refine ⟨s', ?_, x1, x2, x3⟩
          rw [← e1, E300_89]
          simp (disch := omega) only [nl', v2, e138, lit, nI_add, pk_mul, n_sub, n_addneg, nle_t, nle_f, nlt_t, nlt_f, neq_t, neq_f, n_inb, n_ix, bnd_some, if_true, if_false, ite_tt, ite_ff, not_true_eq_false, not_false_eq_true, eq_self, false_or, or_false, true_or, or_true]
        | true =>
          have hv0 : v = 0 := v3.mpr hfp
          rw [hv0] at v2
          have hval : vld fit a p := ⟨hp, hl, hfp⟩
          have hrle : a &&& (a ^^^ p) ≤ a := Nat.and_le_left
          have hrlt : a &&& (a ^^^ p) < a := by
            rcases Nat.lt_or_ge (a &&& (a ^^^ p)) a with z | z
            · exact z
            · exfalso
              have e : a &&& (a ^^^ p) = a := by omega
              apply hl
              apply Nat.eq_of_testBit_eq
              intro i
              rw [Nat.testBit_and, Nat.zero_testBit]
              cases hpi : p.testBit i with
              | false => rfl
              | true =>
                have := subS_iff.mp hp i hpi
                rw [← e, Nat.testBit_and, Nat.testBit_xor, hpi] at this
                cases hai : a.testBit i <;> rw [hai] at this <;> cases this
          have hrs : subS (a &&& (a ^^^ p)) (wdS2 S) = true := subS_iff.mpr (fun i hi => by
            rw [Nat.testBit_and, Bool.and_eq_true] at hi
            exact subS_iff.mp hs i hi.1)
          have er := hX _ hrlt hrs
          have hpc : sw fit (a &&& (a ^^^ p)) ≤ 8 := by
            rcases Nat.eq_zero_or_pos (a &&& (a ^^^ p)) with z | z
            · rw [z, sw_0]; omega
            · exact (sw_pos (fit := fit) z).2
          have hsl := sw_le (fit := fit) ha h0 hval
          obtain ⟨s1, hs1⟩ : ∃ s1, s1 = up s 87 a (nI (min V (sw fit (a &&& (a ^^^ p)) + 1))) := ⟨_, rfl⟩
          have q1 : Eqm [87] [] s s1 := by rw [hs1]; exact Eqm.rf.pu (by simp) (by decide)
          obtain ⟨s', e1, x1, x2, x3⟩ := ih (p - 1 &&& a) n1 nsub s1 (min V (sw fit (a &&& (a ^^^ p)) + 1)) (MT_q hT q1 (by decide) (by decide)) (MSt_q hS q1 (by decide) (by decide)) (fun b hb hsb => by
              rw [hs1, up_out (by omega)]; exact hX b hb hsb) (by rw [hs1, up_in]) (by omega) (by omega) (fun r hr hv => by
            by_cases z : p < r
            · have := hle r z hv; omega
            · by_cases y : r = p
              · subst y; omega
              · have := n2 r hv.1 (by omega); omega)
          refine ⟨s', ?_, x1, fun j hj => by rw [x2 j hj, hs1, up_out hj], q1.tr x3⟩
          rw [← e1, E300_89]
          simp (disch := omega) only [nl', v2, e138, n_andn, hV, er, mmin_n, lit, nI_add, pk_mul, n_sub, n_addneg, nle_t, nle_f, nlt_t, nlt_f, neq_t, neq_f, n_inb, n_ix, bnd_some, if_true, if_false, ite_tt, ite_ff, not_true_eq_false, not_false_eq_true, eq_self, false_or, or_false, true_or, or_true]
          rw [← hs1]
theorem allN_less {P : Nat → Bool} (h : n ≤ m) (hz : ∀ i, n ≤ i → i < m → P i = true) : allN P m = allN P n := by
  cases h1 : allN P n with
  | true => exact allN_iff.mpr (fun i hi => by
      by_cases z : i < n
      · exact allN_iff.mp h1 i z
      · exact hz i (by omega) hi)
  | false =>
    cases h2 : allN P m with
    | false => rfl
    | true =>
      have : allN P n = true := allN_iff.mpr (fun i hi => allN_iff.mp h2 i (by omega))
      rw [this] at h1; cases h1
theorem Y_shows (ha : AOk A B) (h : MJ A B' s) : ∃ s', ev (d + 1 + 1 + 1) 300 0 [.inr 67, .inr 0, .inr 0, .inr 0, .inr 0] [] s = some (0, (o_shows A).2, s') ∧ MJ (o_shows A).1 B' s' ∧ gM s s' := by
  obtain ⟨h0, g0⟩ := m_th h
  obtain ⟨s0, hs0⟩ : ∃ s0, s0 = up s 67 18 (nI 0) := ⟨_, rfl⟩
  rw [← hs0] at h0 g0
  have ht := ha.1
  have ho := ha.2.1
  have hT := h0.1
  have hS := h0.2.1
  have hN := ht.2.1
  obtain ⟨p1, p2⟩ := p8 hN
  have hwl := wd_lt ho hN
  have e6 := hT.2.1
  have ew : ev (d + 1 + 1) 292 0 [.inr 67, .inr 0, .inr 0] [] s0 = some (0, nI (wdS2 (gS A)), s0) := m_wd hN ht.1 ho hT hS
  have hW : wdS2 (gS A) < 256 := by omega
  have hfit : ∀ w, w < tN (gT A) → (wdS2 (gS A)).testBit w = true → ∃ v, v ≤ 640 ∧ ev (d + 1 + 1) 293 0 [.inr 67, .inl (nI (2 ^ w)), .inr 0, .inr 0] [] s0 = some (0, nI v, s0) ∧ (v = 0 ↔ fitS (fW A) (stk (gS A)) (wdS2 (gS A)) (2 ^ w) = true) := fun w hw hb => by
    have h2 : 2 ^ w < 256 := by
      have := Nat.pow_le_pow_right (n := 2) (by omega) (show w ≤ 7 by omega)
      omega
    exact m_fit ht ho hT hS h2 (subS_iff.mpr (fun i hi => by
      rw [Nat.testBit_two_pow] at hi
      rw [← of_decide_eq_true hi]; exact hb))
  -- each by itself
  have each := loopA (fun i => ev (d + 1 + 1 + 1) 300 12 [.inr 67, .inl (nI (wdS2 (gS A))), .inl (nI i), .inr 0, .inr 0] [] s0) (fun w => !((wdS2 (gS A)).testBit w) || fitS (fW A) (stk (gS A)) (wdS2 (gS A)) (2 ^ w)) (some (0, -nI 2, s0)) (tN (gT A)) (fun w hw hp => by
      have ei := m_isIn (d := d + 1 + 1) (x := wdS2 (gS A)) (i := w) (s := s0) (by omega) (by omega)
      have epow : nI 1 <<< (nI w &&& nI 31) = nI (2 ^ w) := n_pow (by omega)
      rw [E300_12, e6]
      cases hb : (wdS2 (gS A)).testBit w with
      | false =>
        rw [hb] at ei
        simp (disch := omega) only [ei, bIf0, E300_41, lit, nI_add, pk_mul, n_sub, n_addneg, nle_t, nle_f, nlt_t, nlt_f, neq_t, neq_f, n_inb, n_ix, bnd_some, if_true, if_false, ite_tt, ite_ff, not_true_eq_false, not_false_eq_true, eq_self, false_or, or_false, true_or, or_true]
      | true =>
        rw [hb] at ei hp
        obtain ⟨v, v1, v2, v3⟩ := hfit w hw hb
        have hv : v = 0 := v3.mpr (by simpa using hp)
        rw [hv] at v2
        simp (disch := omega) only [ei, bIt0, epow, v2, E300_41, lit, nI_add, pk_mul, n_sub, n_addneg, nle_t, nle_f, nlt_t, nlt_f, neq_t, neq_f, n_inb, n_ix, bnd_some, if_true, if_false, ite_tt, ite_ff, not_true_eq_false, not_false_eq_true, eq_self, false_or, or_false, true_or, or_true]) (fun w hw hp => by
      have ei := m_isIn (d := d + 1 + 1) (x := wdS2 (gS A)) (i := w) (s := s0) (by omega) (by omega)
      have epow : nI 1 <<< (nI w &&& nI 31) = nI (2 ^ w) := n_pow (by omega)
      rw [E300_12, e6]
      cases hb : (wdS2 (gS A)).testBit w with
      | false => rw [hb] at hp; cases hp
      | true =>
        rw [hb] at ei hp
        obtain ⟨v, v1, v2, v3⟩ := hfit w hw hb
        have hp : fitS (fW A) (stk (gS A)) (wdS2 (gS A)) (2 ^ w) = false := by simpa using hp
        have hv : v ≠ 0 := fun z => by rw [v3.mp z] at hp; cases hp
        simp (disch := omega) only [ei, bIt0, epow, v2, lit, nI_add, pk_mul, n_sub, n_addneg, nle_t, nle_f, nlt_t, nlt_f, neq_t, neq_f, n_inb, n_ix, bnd_some, if_true, if_false, ite_tt, ite_ff, not_true_eq_false, not_false_eq_true, eq_self, false_or, or_false, true_or, or_true])
  have eall : eaA (fW A) (wdS2 (gS A)) (stk (gS A)) (wdS2 (gS A)) = allN (fun w => !((wdS2 (gS A)).testBit w) || fitS (fW A) (stk (gS A)) (wdS2 (gS A)) (2 ^ w)) (tN (gT A)) := allN_less hN (fun i h1 h2 => by
    have : (wdS2 (gS A)).testBit i = false := tb_hi hwl h1
    rw [this]; rfl)
  unfold o_shows
  rw [eall]
  cases hall : allN (fun w => !((wdS2 (gS A)).testBit w) || fitS (fW A) (stk (gS A)) (wdS2 (gS A)) (2 ^ w)) (tN (gT A)) with
  | false =>
    rw [if_pos rfl]
    rw [hall, if_neg (by simp)] at each
    refine ⟨s0, ?_, h0, g0⟩
    rw [E300_0, show up s 67 18 0 = s0 from hs0.symm, ew, bnd_some]
    exact each
  | true =>
    rw [if_neg (by simp)]
    rw [hall, if_pos rfl] at each
    have single : ∀ w, (wdS2 (gS A)).testBit w = true → fitA A (2 ^ w) = true := fun w hw => by
      have := allN_iff.mp hall w (wd_am ho w hw)
      rw [hw] at this
      exact this
    have sube : ∀ a, subS a (wdS2 (gS A)) = true → ∀ w, a.testBit w = true → fitA A (2 ^ w) = true := fun a hs w hw => single w (subS_iff.mp hs w hw)
    obtain ⟨s1, hs1⟩ : ∃ s1, s1 = up s0 87 0 (nI 0) := ⟨_, rfl⟩
    have q1 : Eqm [87] [] s0 s1 := by rw [hs1]; exact Eqm.rf.pu (by simp) (by decide)
    have key : ∀ n, n ≤ wdS2 (gS A) → ∃ s2, ev (d + 1 + 1 + 1) 300 56 [.inr 67, .inl (nI (wdS2 (gS A))), .inl (nI 1), .inr 0, .inr 0] [] s1 = ev (d + 1 + 1 + 1) 300 56 [.inr 67, .inl (nI (wdS2 (gS A))), .inl (nI (n + 1)), .inr 0, .inr 0] [] s2 ∧ XMw (fitA A) (wdS2 (gS A)) (n + 1) s2 ∧ Eqm [87] [] s0 s2 := by
      intro n
      induction n with
      | zero =>
        intro _
        refine ⟨s1, rfl, fun a ha _ => ?_, q1⟩
        have : a = 0 := by omega
        subst this
        rw [hs1, up_in, sw_0]
      | succ n ih =>
        intro hn
        obtain ⟨s2, e2, t2, q2⟩ := ih (by omega)
        have ns := n_sub0 (a := n + 1) (b := wdS2 (gS A)) (by omega)
        have e149 : ∀ r, ev (d + 1 + 1 + 1) 300 149 [.inr 67, .inl (nI (wdS2 (gS A))), .inl (nI (n + 1)), .inr 0, .inr 0] [] r = ev (d + 1 + 1 + 1) 300 56 [.inr 67, .inl (nI (wdS2 (gS A))), .inl (nI (n + 1 + 1)), .inr 0, .inr 0] [] r := fun r => by
          rw [E300_149]
          simp (disch := omega) only [lit, nI_add, pk_mul, n_sub, n_addneg, nle_t, nle_f, nlt_t, nlt_f, neq_t, neq_f, n_inb, n_ix, bnd_some, if_true, if_false, ite_tt, ite_ff, not_true_eq_false, not_false_eq_true, eq_self, false_or, or_false, true_or, or_true]
        cases hs : subS (n + 1) (wdS2 (gS A)) with
        | false =>
          have ns' : ¬ (nI (n + 1) &&& (nI (wdS2 (gS A)) ^^^ -nI 1) = nI 0) := by rw [ns, hs]; simp
          refine ⟨s2, ?_, fun a ha hsa => ?_, q2⟩
          · rw [e2, E300_56]
            simp (disch := omega) only [ns', e149, lit, nI_add, pk_mul, n_sub, n_addneg, nle_t, nle_f, nlt_t, nlt_f, neq_t, neq_f, n_inb, n_ix, bnd_some, if_true, if_false, ite_tt, ite_ff, not_true_eq_false, not_false_eq_true, eq_self, false_or, or_false, true_or, or_true]
          · by_cases z : a = n + 1
            · rw [z, hs] at hsa; cases hsa
            · exact t2 a (by omega) hsa
        | true =>
          have ns' : (nI (n + 1) &&& (nI (wdS2 (gS A)) ^^^ -nI 1) = nI 0) := by rw [ns, hs]
          obtain ⟨s3, hs3⟩ : ∃ s3, s3 = up s2 87 (n + 1) (nI 1000000) := ⟨_, rfl⟩
          have q3 : Eqm [87] [] s0 s3 := by rw [hs3]; exact q2.pu (by simp) (by decide)
          have hp8 := (sw_pos (fit := fitA A) (a := n + 1) (by omega)).2
          obtain ⟨s4, e4, x1, x2, x3⟩ := m_fewI (d := d) (a := n + 1) ht ho hN (by omega) (by omega) hs (sube (n + 1) hs) (n + 1) (subS_iff.mpr (fun _ h => h)) s3 1000000 (MT_q hT q3 (by decide) (by decide)) (MSt_q hS q3 (by decide) (by decide)) (fun b hb hsb => by
            rw [hs3, up_out (by omega)]; exact t2 b hb hsb) (by rw [hs3, up_in]) (Nat.le_refl _) (show sw (fitA A) (n + 1) ≤ 1000000 by omega) (fun r hr hv => by
              have := sub_le hv.1
              omega)
          refine ⟨s4, ?_, fun a ha hsa => ?_, q3.tr x3⟩
          · rw [e2, E300_56]
            simp (disch := omega) only [ns', lit, nI_add, pk_mul, n_sub, n_addneg, nle_t, nle_f, nlt_t, nlt_f, neq_t, neq_f, n_inb, n_ix, bnd_some, if_true, if_false, ite_tt, ite_ff, not_true_eq_false, not_false_eq_true, eq_self, false_or, or_false, true_or, or_true]
            rw [← hs3, n_low (by omega) (by omega), e4, e149]
          · by_cases z : a = n + 1
            · subst z; exact x1
            · rw [x2 a z, hs3, up_out z]; exact t2 a (by omega) hsa
    obtain ⟨s2, e2, t2, q2⟩ := key (wdS2 (gS A)) (Nat.le_refl _)
    -- the row
    have tell : ∀ k b (r : mS) (W : List Int32), pc b ≤ k → subS b (wdS2 (gS A)) = true → Eqm [87, 80] [17] s0 r → XMw (fitA A) (wdS2 (gS A)) (wdS2 (gS A) + 1) r → MW W r → W.length + k ≤ 16 → ∃ r', ev (d + 1 + 1 + 1) 300 162 [.inr 67, .inl (nI (wdS2 (gS A))), .inl (nI b), .inr 0, .inr 0] [] r = some (0, nI (sw (fitA A) (wdS2 (gS A))), r') ∧ MW (W ++ shR (fitA A) k b) r' ∧ Eqm [87, 80] [17] s0 r' := by
      intro k
      induction k with
      | zero =>
        intro b r W hk hsb hq ht2 hW hl
        have hb256 := sub_le hsb
        have hb0 : b = 0 := by
          rcases Nat.eq_zero_or_pos b with z | z
          · exact z
          · have := low_pc (a := b) (by omega) z
            omega
        subst hb0
        have er := ht2 (wdS2 (gS A)) (by omega) (subS_iff.mpr (fun _ h => h))
        refine ⟨r, ?_, by rw [show shR (fitA A) 0 0 = [] from rfl, List.append_nil]; exact hW, hq⟩
        rw [E300_162]
        simp (disch := omega) only [er, lit, nI_add, pk_mul, n_sub, n_addneg, nle_t, nle_f, nlt_t, nlt_f, neq_t, neq_f, n_inb, n_ix, bnd_some, if_true, if_false, ite_tt, ite_ff, not_true_eq_false, not_false_eq_true, eq_self, false_or, or_false, true_or, or_true]
      | succ k ih =>
        intro b r W hk hsb hq ht2 hW hl
        have hb256 := sub_le hsb
        unfold shR
        by_cases hb0 : b = 0
        · subst hb0
          rw [if_pos rfl, List.append_nil]
          have er := ht2 (wdS2 (gS A)) (by omega) (subS_iff.mpr (fun _ h => h))
          refine ⟨r, ?_, hW, hq⟩
          rw [E300_162]
          simp (disch := omega) only [er, lit, nI_add, pk_mul, n_sub, n_addneg, nle_t, nle_f, nlt_t, nlt_f, neq_t, neq_f, n_inb, n_ix, bnd_some, if_true, if_false, ite_tt, ite_ff, not_true_eq_false, not_false_eq_true, eq_self, false_or, or_false, true_or, or_true]
        · rw [if_neg hb0]
          have hb0' : 0 < b := by omega
          obtain ⟨⟨hv, he⟩, hno⟩ := shw_at (fit := fitA A) (a := b) (by omega) hb0' (sube b hsb)
          obtain ⟨k1, k2⟩ := shw_ok (fit := fitA A) (a := b) (by omega) hb0'
          generalize shw (fitA A) b = P at hv he hno k1 k2 ⊢
          have hP0 : 0 < P := by
            rcases Nat.eq_zero_or_pos P with z | z
            · exfalso; subst z; exact hv.2.1 (Nat.zero_and _)
            · exact z
          have hTr := MT_q hT hq (by decide) (by decide)
          have hSr := MSt_q hS hq (by decide) (by decide)
          have eb := ht2 b (by omega) hsb
          have hsw := sw_pos (fit := fitA A) hb0'
          have e221 : ∀ n : Nat, ev (d + 1 + 1 + 1) 300 221 [.inr 67, .inl (nI (wdS2 (gS A))), .inl (nI b), .inl (nI (lowB b)), .inl (nI n)] [] r = ev (d + 1 + 1 + 1) 300 174 [.inr 67, .inl (nI (wdS2 (gS A))), .inl (nI b), .inl (nI (lowB b)), .inl (nI (n + 1))] [] r := fun n => by
            rw [E300_221]
            simp (disch := omega) only [lit, nI_add, pk_mul, n_sub, n_addneg, nle_t, nle_f, nlt_t, nlt_f, neq_t, neq_f, n_inb, n_ix, bnd_some, if_true, if_false, ite_tt, ite_ff, not_true_eq_false, not_false_eq_true, eq_self, false_or, or_false, true_or, or_true]
          have rest : ∀ n, n < 256 → ∀ z, z = b &&& (b ^^^ n) → subS n b = true → r 87 z = nI (sw (fitA A) z) ∧ z < 256 ∧ sw (fitA A) z ≤ 8 := fun n hn z hz hs => by
            have hle : b &&& (b ^^^ n) ≤ b := Nat.and_le_left
            rw [hz]
            refine ⟨ht2 _ (by omega) (subS_iff.mpr (fun i hi => by
              rw [Nat.testBit_and, Bool.and_eq_true] at hi
              exact subS_iff.mp hsb i hi.1)), by omega, ?_⟩
            rcases Nat.eq_zero_or_pos (b &&& (b ^^^ n)) with y | y
            · rw [y, sw_0]; omega
            · exact (sw_pos (fit := fitA A) y).2
          -- passes over what can't be first
          have pass : ∀ n, n + 1 ≤ P → ev (d + 1 + 1 + 1) 300 174 [.inr 67, .inl (nI (wdS2 (gS A))), .inl (nI b), .inl (nI (lowB b)), .inl (nI 1)] [] r = ev (d + 1 + 1 + 1) 300 174 [.inr 67, .inl (nI (wdS2 (gS A))), .inl (nI b), .inl (nI (lowB b)), .inl (nI (n + 1))] [] r := by
            intro n
            induction n with
            | zero => intro _; rfl
            | succ n ihn =>
              intro hn
              rw [ihn (by omega)]
              have ns := n_sub0 (a := n + 1) (b := b) (by omega)
              have nl := n_and0 (a := n + 1) (b := lowB b) (by omega)
              rw [E300_174]
              cases hs : subS (n + 1) b with
              | false =>
                have ns' : ¬ (nI (n + 1) &&& (nI b ^^^ -nI 1) = nI 0) := by rw [ns, hs]; simp
                simp (disch := omega) only [ns', e221, lit, nI_add, pk_mul, n_sub, n_addneg, nle_t, nle_f, nlt_t, nlt_f, neq_t, neq_f, n_inb, n_ix, bnd_some, if_true, if_false, ite_tt, ite_ff, not_true_eq_false, not_false_eq_true, eq_self, false_or, or_false, true_or, or_true]
              | true =>
                have ns' : (nI (n + 1) &&& (nI b ^^^ -nI 1) = nI 0) := by rw [ns, hs]
                by_cases hlw : n + 1 &&& lowB b = 0
                · have nl' : nI (n + 1) &&& nI (lowB b) = nI 0 := by rw [nl]; exact hlw
                  simp (disch := omega) only [ns', nl', e221, lit, nI_add, pk_mul, n_sub, n_addneg, nle_t, nle_f, nlt_t, nlt_f, neq_t, neq_f, n_inb, n_ix, bnd_some, if_true, if_false, ite_tt, ite_ff, not_true_eq_false, not_false_eq_true, eq_self, false_or, or_false, true_or, or_true]
                · have nl' : ¬ nI (n + 1) &&& nI (lowB b) = nI 0 := by rw [nl]; exact hlw
                  obtain ⟨v, v1, v2, v3⟩ := m_fit (d := d) ht ho hTr hSr (show n + 1 < 256 by omega) (subS_trans hs hsb)
                  by_cases hv0 : v = 0
                  · have hf := v3.mp hv0
                    rw [hv0] at v2
                    have hne := hno (n + 1) (by omega) ⟨hs, hlw, hf⟩
                    obtain ⟨z, hz⟩ : ∃ z, z = b &&& (b ^^^ (n + 1)) := ⟨_, rfl⟩
                    obtain ⟨z1, z2, z3⟩ := rest (n + 1) (by omega) z hz hs
                    rw [← hz] at hne
                    simp (disch := omega) only [ns', nl', v2, n_andn, ← hz, z1, eb, e221, lit, nI_add, pk_mul, n_sub, n_addneg, nle_t, nle_f, nlt_t, nlt_f, neq_t, neq_f, n_inb, n_ix, bnd_some, if_true, if_false, ite_tt, ite_ff, not_true_eq_false, not_false_eq_true, eq_self, false_or, or_false, true_or, or_true]
                  · simp (disch := omega) only [ns', nl', v2, e221, lit, nI_add, pk_mul, n_sub, n_addneg, nle_t, nle_f, nlt_t, nlt_f, neq_t, neq_f, n_inb, n_ix, bnd_some, if_true, if_false, ite_tt, ite_ff, not_true_eq_false, not_false_eq_true, eq_self, false_or, or_false, true_or, or_true]
          have pk := pass (P - 1) (by omega)
          rw [show P - 1 + 1 = P by omega] at pk
          obtain ⟨v, v1, v2, v3⟩ := m_fit (d := d) ht ho hTr hSr k1 (subS_trans k2 hsb)
          have hv0 : v = 0 := v3.mpr hv.2.2
          rw [hv0] at v2
          have ns' : (nI P &&& (nI b ^^^ -nI 1) = nI 0) := by rw [n_sub0 k1, k2]
          have nl' : ¬ nI P &&& nI (lowB b) = nI 0 := by rw [n_and0 (by omega)]; exact hv.2.1
          obtain ⟨z, hz⟩ : ∃ z, z = b &&& (b ^^^ P) := ⟨_, rfl⟩
          obtain ⟨z1, z2, z3⟩ := rest P k1 z hz k2
          rw [← hz] at he ⊢
          obtain ⟨r2, f2, w2, c2⟩ := m_tell (d := d + 1 + 1) (p := nI P) hW (by omega)
          have hzs : subS z (wdS2 (gS A)) = true := subS_iff.mpr (fun i hi => by
            rw [hz, Nat.testBit_and, Bool.and_eq_true] at hi
            exact subS_iff.mp hsb i hi.1)
          have hpcz : pc z ≤ k := by
            have hzo : subS z (othB b) = true := subS_iff.mpr (fun i hi => by
              rw [hz, Nat.testBit_and, Nat.testBit_xor, Bool.and_eq_true] at hi
              rw [oth_bit (by omega) hb0']
              have hl := fun y => subS_iff.mp (vld_low (by omega) hb0' hv.2.1) i y
              cases hy : (lowB b).testBit i with
              | false => rw [hi.1]; rfl
              | true => rw [hi.1, hl hy] at hi; cases hi.2)
            have h1 : pc z ≤ pc (othB b) := sm_le2 (fun i _ => by
              cases hy : z.testBit i with
              | false => exact Nat.zero_le _
              | true => rw [subS_iff.mp hzo i hy]; exact Nat.le_refl _)
            have h2 := low_pc (a := b) (by omega) hb0'
            omega
          have c3 : Eqm [87, 80] [17] r r2 := c2.mono (by simp) (by simp)
          obtain ⟨r3, f3, w3, c4⟩ := ih z r2 (W ++ [nI P]) hpcz hzs (hq.tr c3) (fun b hb hsb => by rw [c2.1 _ (by decide) (by decide)]; exact ht2 b hb hsb) w2 (by rw [List.length_append]; show W.length + 1 + k ≤ 16; omega)
          rw [List.append_assoc] at w3
          refine ⟨r3, ?_, w3, c4⟩
          rw [← f3, E300_162]
          simp (disch := omega) only [lit, nI_add, pk_mul, n_sub, n_addneg, nle_t, nle_f, nlt_t, nlt_f, neq_t, neq_f, n_inb, n_ix, bnd_some, if_true, if_false, ite_tt, ite_ff, not_true_eq_false, not_false_eq_true, eq_self, false_or, or_false, true_or, or_true]
          rw [n_low hb0' (by omega), pk, E300_174]
          simp (disch := omega) only [ns', nl', v2, n_andn, ← hz, z1, eb, f2, lit, nI_add, pk_mul, n_sub, n_addneg, nle_t, nle_f, nlt_t, nlt_f, neq_t, neq_f, n_inb, n_ix, bnd_some, if_true, if_false, ite_tt, ite_ff, not_true_eq_false, not_false_eq_true, eq_self, false_or, or_false, true_or, or_true]
    have qr : Eqm [87, 80] [17] s0 (up s2 67 17 (nI 0)) := (q2.mono (by simp) (by simp)).pf (by simp)
    have hp8 := pc8_t _ hW
    obtain ⟨s3, e3, w3, q3⟩ := tell 8 (wdS2 (gS A)) (up s2 67 17 (nI 0)) [] hp8 (subS_iff.mpr (fun _ h => h)) qr (fun b hb hsb => t2 b hb hsb) MW_nil (by simp)
    rw [List.nil_append] at w3
    refine ⟨s3, ?_, MJ_row h0 q3 (by decide) (by decide) w3, g0.tr (q3.g (by decide))⟩
    rw [E300_0, show up s 67 18 0 = s0 from hs0.symm, ew, bnd_some]
    refine each.trans ?_
    rw [E300_12, e6]
    simp (disch := omega) only [lit, nI_add, pk_mul, n_sub, n_addneg, nle_t, nle_f, nlt_t, nlt_f, neq_t, neq_f, n_inb, n_ix, bnd_some, if_true, if_false, ite_tt, ite_ff, not_true_eq_false, not_false_eq_true, eq_self, false_or, or_false, true_or, or_true]
    rw [← hs1, e2, E300_56]
    simp (disch := omega) only [lit, nI_add, pk_mul, n_sub, n_addneg, nle_t, nle_f, nlt_t, nlt_f, neq_t, neq_f, n_inb, n_ix, bnd_some, if_true, if_false, ite_tt, ite_ff, not_true_eq_false, not_false_eq_true, eq_self, false_or, or_false, true_or, or_true]
    exact e3
end MU7
