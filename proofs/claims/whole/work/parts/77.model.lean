/-! THE MODEL's SIDE -/
def bB (n : Nat) : Int32 := if n < 128 then nI n else -nI (256 - n)
def MT (T : aT) (s : mS) : Prop := s 67 1 = nI (tW T) ∧ s 67 6 = nI (tN T) ∧ (∀ x, x < tW T → s 70 x = nI (tLen T x) ∧ s 69 x = nI (tSen T x) ∧ (∀ i, i < tLen T x → s 71 (8 * x + i) = nI (tSp T x i)) ∧ ∀ l, l < 10 → s 72 (10 * x + l) = nI (nd T x l)) ∧ ∀ w, w < tN T → s 73 w = nI (tWo T w) ∧ s 74 w = nI (tTe T w)
def MSt (T : aT) (S : aS) (s : mS) : Prop := (∀ w, w < tN T → s 75 w = oc (sH S w) ∧ s 77 w = nI (sQ S w) ∧ s 78 w = nI (sU S w) ∧ ∀ l, l < 10 → s 76 (10 * w + l) = nI (sG S w l)) ∧ (∀ l, l < 10 → s 68 l = nI (sL S l)) ∧ s 67 13 = nI (sK S)
/-- a state laid aside -/
def MLd (T : aT) (S : aS) (c : Nat → Int32) : Prop := (∀ w, w < tN T → c (3 * w) = oc (sH S w) ∧ c (3 * w + 1) = nI (sQ S w) ∧ c (3 * w + 2) = nI (sU S w) ∧ ∀ l, l < 10 → c (24 + (10 * w + l)) = nI (sG S w l)) ∧ (∀ l, l < 10 → c (104 + l) = nI (sL S l)) ∧ c 114 = nI (sK S)
def MX (X : aX) (s : mS) : Prop := s 67 15 = nI X.1 ∧ ∀ i, i < X.1 → s 79 i = bB (X.2 i)
def MW (W : List Int32) (s : mS) : Prop := s 67 17 = nI W.length ∧ ∀ i, i < W.length → s 80 i = W.getD i 0
def MRl (φ : aR) (s : mS) : Prop := s 67 29 = nI 0 ∧ ∃ Y : aX, s 67 27 = nI Y.1 ∧ (∀ i, i < Y.1 → s 83 i = bB (Y.2 i)) ∧ (∀ i, Y.2 i < 256) ∧ Y.1 ≤ 40 ∧ rul Y = .inr φ
def MU (T : aT) (L : List aS) (s : mS) : Prop := s 67 31 = nI L.length ∧ ∀ i U, L[i]? = some U → MLd T U (fun j => s 84 (115 * (L.length - 1 - i) + j))
def MK (T : aT) (K : Nat → Option aS) (B : Nat) (s : mS) : Prop := ∃ c, c ≤ B ∧ s 67 43 = nI c ∧ ∀ i, i < 2 → (s 95 i = nI 0 ∨ s 95 i = nI 1) ∧ (∃ e, e ≤ c ∧ s 96 i = nI e ∧ (K i ≠ none ↔ (s 95 i = nI 1 ∧ e = c))) ∧ ∀ U, K i = some U → MLd T U (fun j => s 94 (115 * i + j))
def MN (C : List (Nat × Nat × Nat)) (s : mS) : Prop := s 67 42 = nI C.length ∧ ∀ i c, C[i]? = some c → s 93 (3 * i) = nI c.1 ∧ s 93 (3 * i + 1) = nI c.2.1 ∧ s 93 (3 * i + 2) = nI c.2.2
def MJ (A : aA) (B : Nat) (s : mS) : Prop := MT (gT A) s ∧ MSt (gT A) (gS A) s ∧ MX (gX A) s ∧ MW (gW A) s ∧ MRl (gR A) s ∧ MU (gT A) (gU A) s ∧ MK (gT A) (gK A) B s ∧ MN (gC A) s
/-- nothing but these places, and these fields of the model itself, has changed -/
def Eqm (P F : List Nat) (s s' : mS) : Prop := (∀ a, a ∉ P → a ≠ 67 → s' a = s a) ∧ ∀ f, f ∉ F → s' 67 f = s 67 f
/-- the class's places stay -/
def gM (s s' : mS) : Prop := ∀ a, a < 67 ∨ a = 85 → s' a = s a
section MD1
variable {d B B' l w v x y n a b i : Nat} {s s' s1 s'' : mS} {T : aT} {S : aS} {A : aA} {p q r : Int32} {W : List Int32} {P F : List Nat} {C : List (Nat × Nat × Nat)} {L : List aS} {K : Nat → Option aS} {X : aX} {φ : aR}
theorem Eqm.rf : Eqm P F s s := ⟨fun _ _ _ => rfl, fun _ _ => rfl⟩
theorem Eqm.tr (h : Eqm P F s s') (h2 : Eqm P F s' s'') : Eqm P F s s'' := ⟨fun a ha hb => (h2.1 a ha hb).trans (h.1 a ha hb), fun f hf => (h2.2 f hf).trans (h.2 f hf)⟩
theorem Eqm.mono {P' F' : List Nat} (h : Eqm P F s s') (hp : ∀ a ∈ P, a ∈ P') (hf : ∀ f ∈ F, f ∈ F') : Eqm P' F' s s' := ⟨fun a ha hb => h.1 a (fun z => ha (hp a z)) hb, fun f h2 => h.2 f (fun z => h2 (hf f z))⟩
theorem Eqm.pu (h : Eqm P F s s') {c j : Nat} {t : Int32} (hc : c ∈ P) (h67 : 67 ∉ P) : Eqm P F s (up s' c j t) := by
  have hne : c ≠ 67 := fun z => h67 (by rw [← z]; exact hc)
  refine ⟨fun a ha hb => ?_, fun f hf => ?_⟩
  · rw [up_ne (fun z => ha (by rw [z]; exact hc))]; exact h.1 a ha hb
  · rw [up_ne (fun z => hne z.symm)]; exact h.2 f hf
theorem Eqm.pf (h : Eqm P F s s') {j : Nat} {t : Int32} (hj : j ∈ F) : Eqm P F s (up s' 67 j t) := by
  refine ⟨fun a ha hb => ?_, fun f hf => ?_⟩
  · rw [up_ne hb]; exact h.1 a ha hb
  · rw [up_out (fun z => hf (by rw [z]; exact hj))]; exact h.2 f hf
theorem Eqm.g (h : Eqm P F s s') (hp : ∀ a ∈ P, 67 < a ∧ a ≠ 85) : gM s s' := fun a ha => h.1 a (fun z => by have := hp a z; omega) (by omega)
theorem gM.tr (h : gM s s1) (h2 : gM s1 s') : gM s s' := fun a ha => (h2 a ha).trans (h a ha)
theorem MT_q (h : MT T s) (q : Eqm P F s s') (hp : ∀ a ∈ P, a ∉ [69, 70, 71, 72, 73, 74]) (hf : ∀ f ∈ F, f ∉ [1, 6]) : MT T s' := by
  have e : ∀ a, a ∈ [69, 70, 71, 72, 73, 74] → s' a = s a := fun a ha => q.1 a (fun z => hp a z ha) (by rintro rfl; revert ha; decide)
  obtain ⟨h1, h2, h3, h4⟩ := h
  refine ⟨by rw [q.2 _ (fun z => hf 1 z (by decide))]; exact h1, by rw [q.2 _ (fun z => hf 6 z (by decide))]; exact h2, fun x hx => ?_, fun w hw => ?_⟩
  · rw [e _ (by decide), e _ (by decide), e _ (by decide), e _ (by decide)]; exact h3 x hx
  · rw [e _ (by decide), e _ (by decide)]; exact h4 w hw
theorem MSt_q (h : MSt T S s) (q : Eqm P F s s') (hp : ∀ a ∈ P, a ∉ [68, 75, 76, 77, 78]) (hf : 13 ∉ F) : MSt T S s' := by
  have e : ∀ a, a ∈ [68, 75, 76, 77, 78] → s' a = s a := fun a ha => q.1 a (fun z => hp a z ha) (by rintro rfl; revert ha; decide)
  unfold MSt at h ⊢
  rw [e 75 (by decide), e 77 (by decide), e 78 (by decide), e 76 (by decide), e 68 (by decide), q.2 _ hf]; exact h
theorem MX_q (h : MX X s) (q : Eqm P F s s') (hp : 79 ∉ P) (hf : 15 ∉ F) : MX X s' := by
  unfold MX at h ⊢
  rw [q.1 _ hp (by decide), q.2 _ hf]; exact h
theorem MW_q (h : MW W s) (q : Eqm P F s s') (hp : 80 ∉ P) (hf : 17 ∉ F) : MW W s' := by
  unfold MW at h ⊢
  rw [q.1 _ hp (by decide), q.2 _ hf]; exact h
theorem MRl_q (h : MRl φ s) (q : Eqm P F s s') (hp : 83 ∉ P) (hf : ∀ f ∈ F, f ∉ [27, 29]) : MRl φ s' := by
  unfold MRl at h ⊢
  rw [q.1 _ hp (by decide), q.2 _ (fun z => hf 27 z (by decide)), q.2 _ (fun z => hf 29 z (by decide))]; exact h
theorem MU_q (h : MU T L s) (q : Eqm P F s s') (hp : 84 ∉ P) (hf : 31 ∉ F) : MU T L s' := by
  unfold MU at h ⊢
  rw [q.1 _ hp (by decide), q.2 _ hf]; exact h
theorem MK_q (h : MK T K B s) (q : Eqm P F s s') (hp : ∀ a ∈ P, a ∉ [94, 95, 96]) (hf : 43 ∉ F) : MK T K B s' := by
  have e : ∀ a, a ∈ [94, 95, 96] → s' a = s a := fun a ha => q.1 a (fun z => hp a z ha) (by rintro rfl; revert ha; decide)
  unfold MK at h ⊢
  rw [e 95 (by decide), e 96 (by decide), e 94 (by decide), q.2 _ hf]; exact h
theorem MN_q (h : MN C s) (q : Eqm P F s s') (hp : 93 ∉ P) (hf : 42 ∉ F) : MN C s' := by
  unfold MN at h ⊢
  rw [q.1 _ hp (by decide), q.2 _ hf]; exact h
def mQs : List Nat := [68, 69, 70, 71, 72, 73, 74, 75, 76, 77, 78, 79, 80, 83, 84, 93, 94, 95, 96]
def mFs : List Nat := [1, 6, 13, 15, 17, 27, 29, 31, 42, 43]
theorem MJ_q (h : MJ A B s) (q : Eqm P F s s') (hp : ∀ a ∈ P, a ∉ mQs) (hf : ∀ f ∈ F, f ∉ mFs) : MJ A B s' := by
  have no : ∀ a, a ∈ mQs → a ∉ P := fun a ha z => hp a z ha
  have no2 : ∀ (M : List Nat), (∀ a ∈ M, a ∈ mQs) → ∀ a ∈ P, a ∉ M := fun M hM a ha z => hp a ha (hM a z)
  have nf : ∀ a, a ∈ mFs → a ∉ F := fun a ha z => hf a z ha
  have nf2 : ∀ (M : List Nat), (∀ a ∈ M, a ∈ mFs) → ∀ a ∈ F, a ∉ M := fun M hM a ha z => hf a ha (hM a z)
  obtain ⟨h1, h2, h3, h4, h5, h6, h7, h8⟩ := h
  exact ⟨MT_q h1 q (no2 _ (by decide)) (nf2 _ (by decide)), MSt_q h2 q (no2 _ (by decide)) (nf _ (by decide)), MX_q h3 q (no _ (by decide)) (nf _ (by decide)), MW_q h4 q (no _ (by decide)) (nf _ (by decide)), MRl_q h5 q (no _ (by decide)) (nf2 _ (by decide)), MU_q h6 q (no _ (by decide)) (nf _ (by decide)), MK_q h7 q (no2 _ (by decide)) (nf _ (by decide)), MN_q h8 q (no _ (by decide)) (nf _ (by decide))⟩
/-- a new row -/
theorem MJ_row (h : MJ A B s) (q : Eqm P F s s') (hp : ∀ a ∈ P, a ∉ mQs ∨ a = 80) (hf : ∀ f ∈ F, f ∉ mFs ∨ f = 17) (hw : MW W s') : MJ (wW A W) B s' := by
  have no : ∀ a, a ∈ mQs → a ≠ 80 → a ∉ P := fun a ha n1 z => by
    rcases hp a z with e | e
    · exact e ha
    · exact n1 e
  have no2 : ∀ (M : List Nat), (∀ a ∈ M, a ∈ mQs ∧ a ≠ 80) → ∀ a ∈ P, a ∉ M := fun M hM a ha z => no a (hM a z).1 (hM a z).2 ha
  have nf : ∀ a, a ∈ mFs → a ≠ 17 → a ∉ F := fun a ha n1 z => by
    rcases hf a z with e | e
    · exact e ha
    · exact n1 e
  have nf2 : ∀ (M : List Nat), (∀ a ∈ M, a ∈ mFs ∧ a ≠ 17) → ∀ a ∈ F, a ∉ M := fun M hM a ha z => nf a (hM a z).1 (hM a z).2 ha
  obtain ⟨h1, h2, h3, h4, h5, h6, h7, h8⟩ := h
  exact ⟨MT_q h1 q (no2 _ (by decide)) (nf2 _ (by decide)), MSt_q h2 q (no2 _ (by decide)) (nf _ (by decide) (by decide)), MX_q h3 q (no _ (by decide) (by decide)) (nf _ (by decide) (by decide)), hw, MRl_q h5 q (no _ (by decide) (by decide)) (nf2 _ (by decide)), MU_q h6 q (no _ (by decide) (by decide)) (nf _ (by decide) (by decide)), MK_q h7 q (no2 _ (by decide)) (nf _ (by decide) (by decide)), MN_q h8 q (no _ (by decide) (by decide)) (nf _ (by decide) (by decide))⟩
theorem MJ_mono (h : MJ A B s) (hB : B ≤ B') : MJ A B' s := by
  obtain ⟨h1, h2, h3, h4, h5, h6, ⟨c, hc, r⟩, h8⟩ := h
  exact ⟨h1, h2, h3, h4, h5, h6, ⟨c, by omega, r⟩, h8⟩
/-- numbers within bounds -/
theorem m_in {t lo hi : Int32} : ev d 228 0 [.inl t, .inl lo, .inl hi] [] s = some (0, bI (decide (¬ t < lo ∧ ¬ hi < t)), s) := by
  rw [E228_0, E228_14, E228_15, E228_15]
  by_cases h1 : t < lo
  · rw [if_pos h1, decide_eq_false (fun z => z.1 h1)]
    exact if_pos (Or.inl rfl)
  · rw [if_neg h1]
    by_cases h2 : hi < t
    · rw [if_pos h2, decide_eq_false (fun z => z.2 h2)]
      exact if_pos (Or.inl rfl)
    · rw [if_neg h2, decide_eq_true ⟨h1, h2⟩]
      exact if_pos (Or.inr rfl)
theorem bI_01' {b : Bool} : bI b = 0 ∨ bI b = 1 := by cases b; exact Or.inl rfl; exact Or.inr rfl
theorem in_iff {t : Int32} {n : Nat} (hn : n < 2147483648) : decide (¬ t < nI 0 ∧ ¬ nI n - nI 1 < t) = inN t n := by
  unfold inN
  have e : (nI n - nI 1 < t) ↔ nI n ≤ t := by
    by_cases hz : n = 0
    · subst hz
      have : nI 0 - nI 1 = -nI 1 := by decide +kernel
      rw [this, Int32.lt_iff_toInt_lt, Int32.le_iff_toInt_le, negI (by omega), toI (by omega)]
      omega
    · rw [pk_sub (by omega), lt_n t (n - 1) (by omega), show n - 1 + 1 = n by omega]
  by_cases h : ¬ t < nI 0 ∧ ¬ nI n ≤ t
  · rw [decide_eq_true h, decide_eq_true ⟨h.1, fun z => h.2 (e.mp z)⟩]
  · rw [decide_eq_false h, decide_eq_false (fun z => h ⟨z.1, fun y => z.2 (e.mpr y)⟩)]
theorem in_iff' {t : Int32} {n : Nat} (hn : n < 2147483648) : decide (¬ t < 0 ∧ ¬ nI n - 1 < t) = inN t n := in_iff hn
theorem m_isWall (h : MT T s) (hN : tN T ≤ 8) : ev (d + 1) 232 0 [.inr 67, .inl p] [] s = some (0, bI (inN p (tN T)), s) := by
  rw [E232_0, m_in, bnd_some, h.2.1, in_iff' (by omega)]
  exact if_pos bI_01'
theorem m_isWord (h : MT T s) (hW : tW T ≤ 12) : ev (d + 1) 233 0 [.inr 67, .inl p] [] s = some (0, bI (inN p (tW T)), s) := by
  rw [E233_0, m_in, bnd_some, h.1, in_iff' (by omega)]
  exact if_pos bI_01'
theorem m_isLetter : ev (d + 1) 234 0 [.inl p] [] s = some (0, bI (inN p 10), s) := by
  rw [E234_0, m_in, bnd_some]
  have e : (9 : Int32) = nI 10 - 1 := by decide +kernel
  rw [e, in_iff' (by omega)]
  exact if_pos bI_01'
theorem m_inB {n : Nat} (hn : n < 2147483000) : ev d 228 0 [.inl p, .inl (nI 0), .inl (nI n)] [] s = some (0, bI (inN p (n + 1)), s) := by
  rw [m_in]
  have e : nI n = nI (n + 1) - nI 1 := by rw [pk_sub (by omega)]; rfl
  rw [e, in_iff (by omega)]
theorem m_tell (h : MW W s) (hl : W.length < 16) : ∃ s', ev d 231 0 [.inr 67, .inl p] [] s = some (0, nI 0, s') ∧ MW (W ++ [p]) s' ∧ Eqm [80] [17] s s' := by
  obtain ⟨h1, h2⟩ := h
  refine ⟨up (up s 80 W.length p) 67 17 (nI (W.length + 1)), ?_, ⟨?_, fun i hi => ?_⟩, (Eqm.rf.pu (by simp) (by decide)).pf (by simp)⟩
  · have e : up s 80 W.length p 67 17 = nI W.length := by rw [up_ne (by decide)]; exact h1
    rw [E231_0, h1]
    simp (disch := omega) only [e, lit, nI_add, pk_mul, n_sub, n_addneg, nle_t, nle_f, nlt_t, nlt_f, neq_t, neq_f, n_inb, n_ix, bnd_some, if_true, if_false, ite_tt, ite_ff, not_true_eq_false, not_false_eq_true, eq_self, false_or, or_false, true_or, or_true]
  · rw [up_in, List.length_append]; rfl
  · rw [List.length_append] at hi
    have hi : i < W.length + 1 := hi
    rw [up_ne (by decide)]
    by_cases hw : i = W.length
    · subst hw
      rw [up_in]
      simp
    · rw [up_out hw, h2 i (by omega)]
      simp only [List.getD_eq_getElem?_getD]
      rw [List.getElem?_append_left (by omega)]
theorem MW_nil : MW [] (up s 67 17 (nI 0)) := ⟨up_in, fun i hi => absurd hi (Nat.not_lt_zero _)⟩
theorem m_hung (h : MSt T S s) (hw : w < tN T) (hl : l < 10) : s 76 (10 * w + l) = nI (sG S w l) := (h.1 w hw).2.2.2 l hl
/-- walls that don't stand have nothing -/
theorem sG_out (ho : sOk T S B) (hw : tN T ≤ w) : sG S w l = 0 ∧ sH S w = none := by
  have h := ho.1 w
  cases hn : sH S w with
  | none => exact ⟨(wOk_n h hn).1 l, rfl⟩
  | some x => have := (wOk_s h hn).1; omega
theorem m_stockOf (ha : tN T ≤ 8) (ho : sOk T S B) (hT : MT T s) (h : MSt T S s) (hl : l < 10) : ev d 244 0 [.inr 67, .inl (nI l), .inr 0, .inr 0] [] s = some (0, nI (stk S l), s) := by
  have g := loopU (fun i a => ev d 244 9 [.inr 67, .inl (nI l), .inl (nI a), .inl (nI i)] [] s) (fun w a => a + sG S w l) (tN T) (fun w a hw => by
    rw [E244_9, hT.2.1]
    simp (disch := omega) only [m_hung h hw hl, lit, nI_add, pk_mul, n_sub, n_addneg, nle_t, nle_f, nlt_t, nlt_f, neq_t, neq_f, n_inb, n_ix, bnd_some, if_true, if_false, ite_tt, ite_ff, not_true_eq_false, not_false_eq_true, eq_self, false_or, or_false, true_or, or_true]) (sL S l)
  have e0 := h.2.1 l hl
  have es : itr (fun w a => a + sG S w l) (tN T) (sL S l) = stk S l := by
    have e1 : ∀ n, itr (fun w a => a + sG S w l) n (sL S l) = sL S l + sm (fun w => sG S w l) n := by
      intro n
      induction n with
      | zero => rfl
      | succ n ih =>
        show itr (fun w a => a + sG S w l) n (sL S l) + sG S n l = _
        rw [ih, sm_s]; omega
    rw [e1]
    unfold stk hal
    rw [sm_more ha (fun i h1 _ => (sG_out ho h1).1)]
  rw [E244_0]
  simp (disch := omega) only [lit, n_inb, if_true, n_ix, e0]
  refine g.trans ?_
  rw [es, E244_9, hT.2.1]
  simp (disch := omega) only [lit, nI_add, pk_mul, n_sub, n_addneg, nle_t, nle_f, nlt_t, nlt_f, neq_t, neq_f, n_inb, n_ix, bnd_some, if_true, if_false, ite_tt, ite_ff, not_true_eq_false, not_false_eq_true, eq_self, false_or, or_false, true_or, or_true]
theorem m_allLeft (h : MSt T S s) : ev d 254 0 [.inr 67, .inr 0, .inr 0, .inr 0, .inr 0, .inr 0] [] s = some (0, nI (sm (sL S) 10), s) := by
  have g := loopU (fun i a => ev d 254 13 [.inr 0, .inl (nI a), .inr 68, .inl (nI 10), .inl (nI i), .inr 0] [] s) (fun l a => a + sL S l) 10 (fun l a hl => by
    have e := h.2.1 l hl
    rw [E254_13]
    simp (disch := omega) only [e, lit, nI_add, pk_mul, n_sub, n_addneg, nle_t, nle_f, nlt_t, nlt_f, neq_t, neq_f, n_inb, n_ix, bnd_some, if_true, if_false, ite_tt, ite_ff, not_true_eq_false, not_false_eq_true, eq_self, false_or, or_false, true_or, or_true]) 0
  rw [E254_0]
  simp only [lit]
  refine g.trans ?_
  rw [E254_13]
  simp (disch := omega) only [lit, nI_add, pk_mul, n_sub, n_addneg, nle_t, nle_f, nlt_t, nlt_f, neq_t, neq_f, n_inb, n_ix, bnd_some, if_true, if_false, ite_tt, ite_ff, not_true_eq_false, not_false_eq_true, eq_self, false_or, or_false, true_or, or_true]
  rfl
theorem m_hangsOn (hN : tN T ≤ 8) (h : MSt T S s) (hw : w < tN T) : ev d 255 0 [.inr 67, .inl (nI w), .inr 0, .inr 0] [] s = some (0, nI (hgs S w), s) := by
  have g := loopU (fun i a => ev d 255 4 [.inr 67, .inl (nI w), .inl (nI a), .inl (nI i)] [] s) (fun l a => a + sG S w l) 10 (fun l a hl => by
    rw [E255_4]
    simp (disch := omega) only [m_hung h hw hl, lit, nI_add, pk_mul, n_sub, n_addneg, nle_t, nle_f, nlt_t, nlt_f, neq_t, neq_f, n_inb, n_ix, bnd_some, if_true, if_false, ite_tt, ite_ff, not_true_eq_false, not_false_eq_true, eq_self, false_or, or_false, true_or, or_true]) 0
  rw [E255_0]
  simp only [lit]
  refine g.trans ?_
  rw [E255_4]
  simp (disch := omega) only [lit, nI_add, pk_mul, n_sub, n_addneg, nle_t, nle_f, nlt_t, nlt_f, neq_t, neq_f, n_inb, n_ix, bnd_some, if_true, if_false, ite_tt, ite_ff, not_true_eq_false, not_false_eq_true, eq_self, false_or, or_false, true_or, or_true]
  rfl
theorem oc_ne : ¬ oc (some x) = -1 ∨ 2147483648 ≤ x := by
  by_cases h : x < 2147483648
  · left
    intro z
    have := nneg_f (a := x) (b := 1) (by omega) h (by omega)
    exact cast this z
  · right; omega
theorem m_lacking (ht : tOk T) (ho : sOk T S B) (hT : MT T s) (h : MSt T S s) (hw : w < tN T) : ev (d + 1) 256 0 [.inr 67, .inl (nI w)] [] s = some (0, nI (mis T S w), s) := by
  have hN := ht.2.1
  have e0 := (h.1 w hw).1
  rw [E256_0, n_ix (by omega), e0, if_pos (n_inb (by omega) (by omega))]
  unfold mis
  cases hn : sH S w with
  | none =>
    rw [if_neg (show ¬ ¬ oc none = -1 from not_not_intro rfl), E256_31]
    rfl
  | some x =>
    have hx := (wOk_s (ho.1 w) hn).2.1
    have hW := ht.1
    have es := (hT.2.2.1 x hx).1
    have hgl := hgs_len ht (ho.1 w) hn
    rw [if_pos (show ¬ oc (some x) = -1 from oc_ne.resolve_right (by omega))]
    simp (disch := omega) only [oc_some, n_inb, if_true, n_ix, m_hangsOn hN h hw, bnd_some, es, E256_31, n_sub]
theorem m_isUp (ht : tOk T) (ho : sOk T S B) (hT : MT T s) (h : MSt T S s) (hw : w < tN T) : ev (d + 1 + 1) 257 0 [.inr 67, .inl (nI w)] [] s = some (0, bI (isU T S w), s) := by
  have hN := ht.2.1
  have e0 := (h.1 w hw).1
  have e1 := m_lacking (d := d) ht ho hT h hw
  have hm := mis_le ht (ho.1 w)
  rw [E257_0, n_ix (by omega), e0, if_pos (n_inb (by omega) (by omega))]
  unfold isU isW
  cases hn : sH S w with
  | none =>
    rw [if_pos (show oc none = -1 from rfl), E257_22, E257_23]
    exact if_pos (Or.inl rfl)
  | some x =>
    have hx := (wOk_s (ho.1 w) hn).2.1
    have hW := ht.1
    rw [if_neg (show ¬ oc (some x) = -1 from oc_ne.resolve_right (by omega)), e1, bnd_some]
    by_cases hz : mis T S w = 0
    · rw [hz, if_neg (show ¬ ¬ nI 0 = 0 from not_not_intro rfl), E257_23]
      exact if_pos (Or.inr rfl)
    · rw [if_pos (show ¬ nI (mis T S w) = 0 from fun z => hz ((nI_eq (by omega) (by omega)).mp z)), E257_22, E257_23, decide_eq_false hz]
      exact if_pos (Or.inl rfl)
theorem m_isWaiting (ht : tOk T) (ho : sOk T S B) (hT : MT T s) (h : MSt T S s) (hw : w < tN T) : ev (d + 1 + 1) 258 0 [.inr 67, .inl (nI w)] [] s = some (0, bI (isQ T S w), s) := by
  have hN := ht.2.1
  have e0 := (h.1 w hw).1
  have e1 := m_lacking (d := d) ht ho hT h hw
  have hm := mis_le ht (ho.1 w)
  rw [E258_0, n_ix (by omega), e0, if_pos (n_inb (by omega) (by omega))]
  unfold isQ
  cases hn : sH S w with
  | none =>
    have : mis T S w = 0 := by unfold mis; rw [hn]
    rw [if_pos (show oc none = -1 from rfl), E258_22, E258_23, this]
    exact if_pos (Or.inl rfl)
  | some x =>
    have hx := (wOk_s (ho.1 w) hn).2.1
    have hW := ht.1
    rw [if_neg (show ¬ oc (some x) = -1 from oc_ne.resolve_right (by omega)), e1, bnd_some]
    by_cases hz : 0 < mis T S w
    · rw [if_neg (show ¬ nI (mis T S w) ≤ 0 from nI_ge hz (by omega)), E258_23, decide_eq_true hz]
      exact if_pos (Or.inr rfl)
    · rw [if_pos (show nI (mis T S w) ≤ 0 from nI_le (b := 0) (by omega) (by omega)), E258_22, E258_23, decide_eq_false hz]
      exact if_pos (Or.inl rfl)
theorem isU_out (ho : sOk T S B) (hw : tN T ≤ w) : isU T S w = false := isU_none (sG_out (l := 0) ho hw).2
theorem isQ_out (ho : sOk T S B) (hw : tN T ≤ w) : isQ T S w = false := by
  unfold isQ mis
  rw [(sG_out (l := 0) ho hw).2]
  rfl
theorem isW_out (ho : sOk T S B) (hw : tN T ≤ w) : isW S w = false := by
  unfold isW
  rw [(sG_out (l := 0) ho hw).2]
  rfl
theorem m_ups (ht : tOk T) (ho : sOk T S B) (hT : MT T s) (h : MSt T S s) : ev (d + 1 + 1 + 1) 259 0 [.inr 67, .inr 0, .inr 0] [] s = some (0, nI (bts (isU T S) 8), s) := by
  have hN := ht.2.1
  have g := loopU (fun i a => ev (d + 1 + 1 + 1) 259 4 [.inr 67, .inl (nI a), .inl (nI i)] [] s) (fun i a => a ||| (if isU T S i = true then 2 ^ i else 0)) (tN T) (fun w a hw => by
    have e1 := m_isUp (d := d) ht ho hT h hw
    rw [E259_4, hT.2.1]
    cases hu : isU T S w with
    | true =>
      rw [hu] at e1
      simp (disch := omega) only [e1, bIt0, E259_28, n_pow, n_or, lit, nI_add, pk_mul, n_sub, n_addneg, nle_t, nle_f, nlt_t, nlt_f, neq_t, neq_f, n_inb, n_ix, bnd_some, if_true, if_false, ite_tt, ite_ff, not_true_eq_false, not_false_eq_true, eq_self, false_or, or_false, true_or, or_true]
    | false =>
      rw [hu] at e1
      simp (disch := omega) only [e1, bIf0, E259_28, n_or, Bool.false_eq_true, lit, nI_add, pk_mul, n_sub, n_addneg, nle_t, nle_f, nlt_t, nlt_f, neq_t, neq_f, n_inb, n_ix, bnd_some, if_true, if_false, ite_tt, ite_ff, not_true_eq_false, not_false_eq_true, eq_self, false_or, or_false, true_or, or_true]) 0
  have eb : bts (isU T S) 8 = bts (isU T S) (tN T) := bts_more hN (fun i hi => isU_out ho hi)
  rw [E259_0]
  simp only [lit]
  refine g.trans ?_
  rw [eb, E259_4, hT.2.1]
  simp (disch := omega) only [lit, nI_add, pk_mul, n_sub, n_addneg, nle_t, nle_f, nlt_t, nlt_f, neq_t, neq_f, n_inb, n_ix, bnd_some, if_true, if_false, ite_tt, ite_ff, not_true_eq_false, not_false_eq_true, eq_self, false_or, or_false, true_or, or_true]
  rfl
theorem m_waiters (ht : tOk T) (ho : sOk T S B) (hT : MT T s) (h : MSt T S s) : ev (d + 1 + 1 + 1) 260 0 [.inr 67, .inr 0, .inr 0] [] s = some (0, nI (bts (isQ T S) 8), s) := by
  have hN := ht.2.1
  have g := loopU (fun i a => ev (d + 1 + 1 + 1) 260 4 [.inr 67, .inl (nI a), .inl (nI i)] [] s) (fun i a => a ||| (if isQ T S i = true then 2 ^ i else 0)) (tN T) (fun w a hw => by
    have e1 := m_isWaiting (d := d) ht ho hT h hw
    rw [E260_4, hT.2.1]
    cases hu : isQ T S w with
    | true =>
      rw [hu] at e1
      simp (disch := omega) only [e1, bIt0, E260_28, n_pow, n_or, lit, nI_add, pk_mul, n_sub, n_addneg, nle_t, nle_f, nlt_t, nlt_f, neq_t, neq_f, n_inb, n_ix, bnd_some, if_true, if_false, ite_tt, ite_ff, not_true_eq_false, not_false_eq_true, eq_self, false_or, or_false, true_or, or_true]
    | false =>
      rw [hu] at e1
      simp (disch := omega) only [e1, bIf0, E260_28, n_or, Bool.false_eq_true, lit, nI_add, pk_mul, n_sub, n_addneg, nle_t, nle_f, nlt_t, nlt_f, neq_t, neq_f, n_inb, n_ix, bnd_some, if_true, if_false, ite_tt, ite_ff, not_true_eq_false, not_false_eq_true, eq_self, false_or, or_false, true_or, or_true]) 0
  have eb : bts (isQ T S) 8 = bts (isQ T S) (tN T) := bts_more hN (fun i hi => isQ_out ho hi)
  rw [E260_0]
  simp only [lit]
  refine g.trans ?_
  rw [eb, E260_4, hT.2.1]
  simp (disch := omega) only [lit, nI_add, pk_mul, n_sub, n_addneg, nle_t, nle_f, nlt_t, nlt_f, neq_t, neq_f, n_inb, n_ix, bnd_some, if_true, if_false, ite_tt, ite_ff, not_true_eq_false, not_false_eq_true, eq_self, false_or, or_false, true_or, or_true]
  rfl
end MD1
