/-! CALLS: shows -/
def othB (a : Nat) : Nat := a ^^^ lowB a
def swG (fit : Nat → Bool) (tab : Nat → Nat) (a m v : Nat) : Nat := if subS m (othB a) = true ∧ fit (lowB a ||| m) = true then min v (1 + tab (othB a ^^^ m)) else v
def swV (fit : Nat → Bool) (tab : Nat → Nat) (a : Nat) : Nat := if a = 0 then 0 else if fit a = true then 1 else itr (fun m v => swG fit tab a m v) (othB a) 8
def swT (fit : Nat → Bool) : Nat → Nat → Nat
  | 0 => fun _ => 0
  | n + 1 => fun k => if k = n then swV fit (swT fit n) n else swT fit n k
/-- the fewest weeks of a set -/
def sw (fit : Nat → Bool) (a : Nat) : Nat := swT fit (a + 1) a
/-- the least set that can be first -/
def shP (fit : Nat → Bool) (a m : Nat) : Bool := subS m (othB a) && fit (lowB a ||| m) && decide (sw fit (othB a ^^^ m) + 1 = sw fit a)
def shw (fit : Nat → Bool) (a : Nat) : Nat := match fnd (shP fit a) (othB a) with
  | some m => lowB a ||| m
  | none => a
def shR (fit : Nat → Bool) : Nat → Nat → List Int32
  | 0, _ => []
  | k + 1, a => if a = 0 then [] else nI (shw fit a) :: shR fit k (a &&& (a ^^^ shw fit a))
def fitA (A : aA) : Nat → Bool := fitS (fW A) (stk (gS A)) (wdS2 (gS A))
def o_shows (A : aA) : aA × Int32 := if eaA (fW A) (wdS2 (gS A)) (stk (gS A)) (wdS2 (gS A)) = false then (A, -nI 2) else (wW A (shR (fitA A) 8 (wdS2 (gS A))), nI (sw (fitA A) (wdS2 (gS A))))
section XS5
variable {d B l w v i x y n am c a m k : Nat} {s s' s1 : mS} {T : aT} {S : aS} {A : aA} {f : Nat → Nat → Nat} {pl : Nat → Nat} {fit : Nat → Bool}
theorem lowB_ok : ∀ a, a < 256 → 0 < a → subS (lowB a) a = true ∧ othB a < a ∧ 0 < lowB a ∧ subS (othB a) a = true := by decide +kernel
theorem swT_k (h : k < n) : swT fit n k = sw fit k := by
  induction n with
  | zero => omega
  | succ n ih =>
    show (if k = n then swV fit (swT fit n) n else swT fit n k) = _
    by_cases hk : k = n
    · subst hk; rfl
    · rw [if_neg hk]; exact ih (by omega)
theorem sw_eq : sw fit a = swV fit (swT fit a) a := if_pos rfl
theorem oth_bit (ha : a < 256) (h0 : 0 < a) : (othB a).testBit i = (a.testBit i && !(lowB a).testBit i) := by
  have h1 := (lowB_ok a ha h0).1
  unfold othB
  rw [Nat.testBit_xor]
  cases hl : (lowB a).testBit i with
  | false => simp
  | true => rw [subS_iff.mp h1 i hl]; rfl
/-- of a part of the others: with the lowest it is less than the whole, and so is what remains -/
theorem oth_lt (ha : a < 256) (h0 : 0 < a) (hm : subS m (othB a) = true) (hlt : m < othB a) : lowB a ||| m < a ∧ subS (lowB a ||| m) a = true ∧ 0 < lowB a ||| m ∧ othB a ^^^ m < a ∧ subS (othB a ^^^ m) a = true ∧ 0 < othB a ^^^ m := by
  obtain ⟨l1, l2, l3, l4⟩ := lowB_ok a ha h0
  have hs : subS (lowB a ||| m) a = true := subS_iff.mpr (fun i hi => by
    rw [Nat.testBit_or, Bool.or_eq_true] at hi
    rcases hi with hi | hi
    · exact subS_iff.mp l1 i hi
    · exact subS_iff.mp l4 i (subS_iff.mp hm i hi))
  have hx : subS (othB a ^^^ m) (othB a) = true := subS_iff.mpr (fun i hi => by
    rw [Nat.testBit_xor] at hi
    cases ho : (othB a).testBit i with
    | true => rfl
    | false =>
      cases hmi : m.testBit i with
      | true => rw [subS_iff.mp hm i hmi] at ho; cases ho
      | false => rw [ho, hmi] at hi; cases hi)
  have ne : lowB a ||| m ≠ a := fun z => by
    have : subS (othB a) m = true := subS_iff.mpr (fun i hi => by
      rw [oth_bit ha h0, Bool.and_eq_true] at hi
      have h2 := hi.1
      rw [← z, Nat.testBit_or] at h2
      have h3 : (lowB a).testBit i = false := by simpa using hi.2
      rw [h3, Bool.false_or] at h2
      exact h2)
    have := sub_le this
    omega
  refine ⟨by have := sub_le hs; omega, hs, Nat.lt_of_lt_of_le l3 Nat.left_le_or, by have := sub_le hx; omega, subS_iff.mpr (fun i hi => subS_iff.mp l4 i (subS_iff.mp hx i hi)), ?_⟩
  by_cases hz : othB a ^^^ m = 0
  · have hle : subS (othB a) m = true := subS_iff.mpr (fun i hi => by
      have e : (othB a ^^^ m).testBit i = false := by rw [hz]; exact Nat.zero_testBit i
      rw [Nat.testBit_xor, hi] at e
      cases hmi : m.testBit i with
      | true => rfl
      | false => rw [hmi] at e; cases e)
    have := sub_le hle
    omega
  · omega
theorem swV_fold {tab : Nat → Nat} {c N : Nat} (hc : c ≤ 8) (h : ∀ m, m < N → subS m (othB a) = true → c ≤ 1 + tab (othB a ^^^ m)) : c ≤ itr (fun m v => swG fit tab a m v) N 8 ∧ itr (fun m v => swG fit tab a m v) N 8 ≤ 8 := by
  induction N with
  | zero => exact ⟨hc, Nat.le_refl _⟩
  | succ N ih =>
    obtain ⟨g1, g2⟩ := ih (fun m hm => h m (by omega))
    show c ≤ swG fit tab a N _ ∧ swG fit tab a N _ ≤ 8
    unfold swG at g1 g2 ⊢
    split
    · next hz =>
      have := h N (by omega) hz.1
      refine ⟨Nat.le_min.mpr ⟨g1, this⟩, Nat.le_trans (Nat.min_le_left _ _) g2⟩
    · exact ⟨g1, g2⟩
theorem sw_pos (h : 0 < a) : 1 ≤ sw fit a ∧ sw fit a ≤ 8 := by
  rw [sw_eq]
  unfold swV
  rw [if_neg (by omega)]
  split
  · omega
  · exact swV_fold (by omega) (fun m _ _ => by omega)
theorem sw_fit (h : 0 < a) (ha : a < 256) : (sw fit a = 1) ↔ fit a = true := by
  constructor
  · intro h1
    cases hf : fit a with
    | true => rfl
    | false =>
      exfalso
      rw [sw_eq] at h1
      unfold swV at h1
      rw [if_neg (by omega), if_neg (by rw [hf]; simp)] at h1
      have := (swV_fold (fit := fit) (a := a) (tab := swT fit a) (c := 2) (N := othB a) (by omega) (fun m hm hs => by
        obtain ⟨-, -, -, g1, -, g2⟩ := oth_lt ha h hs hm
        rw [swT_k g1]
        have := (sw_pos (fit := fit) g2).1
        omega)).1
      omega
  · intro hf
    rw [sw_eq]
    unfold swV
    rw [if_neg (by omega), if_pos hf]
/-- the table of weeks up to n -/
def XSw (fit : Nat → Bool) (am n : Nat) (s : mS) : Prop := ∀ a, a < n → subS a am = true → s 51 a = nI (sw fit a)
theorem sub_tr {b c : Nat} (h1 : subS a b = true) (h2 : subS b c = true) : subS a c = true := subS_iff.mpr (fun i hi => subS_iff.mp h2 i (subS_iff.mp h1 i hi))
theorem x_fewW (ha : a < 256) (h0 : 0 < a) (hs : subS a am = true) (ht : XSw fit am a s) (hf : fit a = false) : ev d 88 0 [.inr 47, .inl (nI a), .inr 0, .inr 0, .inr 0, .inr 0, .inr 0] [] s = some (0, nI (sw fit a), s) := by
  obtain ⟨l1, l2, l3, l4⟩ := lowB_ok a ha h0
  have hval : sw fit a = itr (fun m v => swG fit (swT fit a) a m v) (othB a) 8 := by
    rw [sw_eq]
    unfold swV
    rw [if_neg (by omega), if_neg (by rw [hf]; simp)]
  have loop : ∀ j m i, m + j = othB a → subS m (othB a) = true → i ≤ m → ev d 88 19 [.inr 47, .inr 0, .inl (nI (lowB a)), .inl (nI (othB a)), .inl (nI (itr (fun m v => swG fit (swT fit a) a m v) m 8)), .inl (nI m), .inl (nI i)] [] s = some (0, nI (sw fit a), s) := by
    intro j
    induction j using Nat.strongRecOn with
    | _ j ih =>
      intro m i hm hsm hi
      by_cases hz : m = othB a
      · rw [E88_19, hval, hz]
        simp (disch := omega) only [lit, nle_f, if_false, if_true, E88_78]
      · have hlt : m < othB a := by omega
        obtain ⟨g1, g2, g3, g4, g5, g6⟩ := oth_lt ha h0 hsm hlt
        obtain ⟨n1, n2⟩ := nxS_ok 32 m (othB a) (by omega) hsm hlt
        have nsub := nxS_sub (w := 32) (m := m) (o := othB a)
        have nle := n2 (othB a) (subS_iff.mpr (fun _ h => h)) hlt
        have e1 := ht (lowB a ||| m) g1 (sub_tr g2 hs)
        have e2 := ht (othB a ^^^ m) g4 (sub_tr g5 hs)
        have hb := sw_pos (fit := fit) g6
        have hb1 := sw_pos (fit := fit) g3
        have hfold := (swV_fold (fit := fit) (a := a) (tab := swT fit a) (c := 0) (N := m) (by omega) (fun _ _ _ => Nat.zero_le _)).2
        have sk : itr (fun m v => swG fit (swT fit a) a m v) (nxS 32 m (othB a)) 8 = swG fit (swT fit a) a m (itr (fun m v => swG fit (swT fit a) a m v) m 8) := itr_skip (by omega) (fun k h1 h2 b => by
          unfold swG
          rw [if_neg (fun z => by have := n2 k z.1 h1; omega)])
        have nxt : ∀ v, ev d 88 64 [.inr 47, .inr 0, .inl (nI (lowB a)), .inl (nI (othB a)), .inl v, .inl (nI m), .inl (nI i)] [] s = ev d 88 19 [.inr 47, .inr 0, .inl (nI (lowB a)), .inl (nI (othB a)), .inl v, .inl (nI (nxS 32 m (othB a))), .inl (nI (i + 1))] [] s := fun v => by
          rw [E88_64, n_next (by omega)]
          simp only [lit, nI_add]
        rw [← ih (othB a - nxS 32 m (othB a)) (by omega) (nxS 32 m (othB a)) (i + 1) (by omega) nsub (by omega), sk, E88_19]
        generalize hv : itr (fun m v => swG fit (swT fit a) a m v) m 8 = v at hfold
        unfold swG
        by_cases h1 : fit (lowB a ||| m) = true
        · have hsw := (sw_fit (fit := fit) g3 (by omega)).mpr h1
          rw [if_pos (show (subS m (othB a) = true ∧ fit (lowB a ||| m) = true) from ⟨hsm, h1⟩), swT_k g4]
          rw [hsw] at e1
          simp (disch := omega) only [lit, nle_f, neq_f, if_false, n_or, n_inb, if_true, n_ix, e1, not_true_eq_false, n_xor, e2, nI_add, mmin_n]
          rw [nxt]
        · have hsw : ¬ sw fit (lowB a ||| m) = 1 := fun z => h1 ((sw_fit (fit := fit) g3 (by omega)).mp z)
          rw [if_neg (show ¬ (subS m (othB a) = true ∧ fit (lowB a ||| m) = true) from fun z => h1 z.2)]
          simp (disch := omega) only [lit, nle_f, neq_f, if_false, n_or, n_inb, if_true, n_ix, e1, not_false_eq_true]
          rw [nxt]
  rw [E88_0, n_low h0 (by omega), n_xor]
  simp only [lit]
  exact loop (othB a) 0 0 (by omega) subS_0 (Nat.le_refl _)
theorem x_leastShow (ha : a < 256) (h0 : 0 < a) (hs : subS a am = true) (ht : XSw fit am 256 s) : ev d 89 0 [.inr 47, .inl (nI a), .inr 0, .inr 0, .inr 0, .inr 0] [] s = some (0, nI (shw fit a), s) := by
  obtain ⟨l1, l2, l3, l4⟩ := lowB_ok a ha h0
  have ea := ht a ha hs
  have hba := sw_pos (fit := fit) h0
  have loop : ∀ j m i, m + j = othB a → subS m (othB a) = true → i ≤ m → (∀ k, k < m → shP fit a k = false) → ev d 89 15 [.inr 47, .inl (nI a), .inl (nI (lowB a)), .inl (nI (othB a)), .inl (nI m), .inl (nI i)] [] s = some (0, nI (shw fit a), s) := by
    intro j
    induction j using Nat.strongRecOn with
    | _ j ih =>
      intro m i hm hsm hi hno
      by_cases hz : m = othB a
      · have : shw fit a = a := by
          unfold shw
          rw [fnd_none (fun i hi => hno i (by omega))]
        rw [E89_15, this, hz]
        simp (disch := omega) only [lit, nle_f, if_false, if_true, E89_81]
      · have hlt : m < othB a := by omega
        obtain ⟨g1, g2, g3, g4, g5, g6⟩ := oth_lt ha h0 hsm hlt
        obtain ⟨n1, n2⟩ := nxS_ok 32 m (othB a) (by omega) hsm hlt
        have nsub := nxS_sub (w := 32) (m := m) (o := othB a)
        have nle := n2 (othB a) (subS_iff.mpr (fun _ h => h)) hlt
        have e1 := ht (lowB a ||| m) (by omega) (sub_tr g2 hs)
        have e2 := ht (othB a ^^^ m) (by omega) (sub_tr g5 hs)
        have hb := sw_pos (fit := fit) g6
        have hb1 := sw_pos (fit := fit) g3
        have nxt : ev d 89 67 [.inr 47, .inl (nI a), .inl (nI (lowB a)), .inl (nI (othB a)), .inl (nI m), .inl (nI i)] [] s = ev d 89 15 [.inr 47, .inl (nI a), .inl (nI (lowB a)), .inl (nI (othB a)), .inl (nI (nxS 32 m (othB a))), .inl (nI (i + 1))] [] s := by
          rw [E89_67, n_next (by omega)]
          simp only [lit, nI_add]
        cases hp : shP fit a m with
        | true =>
          have : shw fit a = lowB a ||| m := by
            unfold shw
            rw [fnd_some hlt hno hp]
          unfold shP at hp
          rw [Bool.and_eq_true, Bool.and_eq_true] at hp
          have hsw := (sw_fit (fit := fit) g3 (by omega)).mpr hp.1.2
          have hdec := of_decide_eq_true hp.2
          rw [hsw] at e1
          rw [E89_15, this]
          simp (disch := omega) only [lit, nle_f, neq_f, if_false, n_or, n_inb, if_true, n_ix, e1, not_true_eq_false, n_xor, e2, ea, n_sub, neq_t]
        | false =>
          have rest := ih (othB a - nxS 32 m (othB a)) (by omega) (nxS 32 m (othB a)) (i + 1) (by omega) nsub (by omega) (fun k hk => by
            by_cases hkm : k < m
            · exact hno k hkm
            · by_cases hke : k = m
              · rw [hke]; exact hp
              · cases hq : shP fit a k with
                | false => rfl
                | true =>
                  unfold shP at hq
                  rw [Bool.and_eq_true, Bool.and_eq_true] at hq
                  have := n2 k hq.1.1 (by omega)
                  omega)
          rw [← rest, E89_15]
          by_cases h1 : sw fit (lowB a ||| m) = 1
          · have hft := (sw_fit (fit := fit) g3 (by omega)).mp h1
            have hne : ¬ sw fit (othB a ^^^ m) + 1 = sw fit a := fun z => by
              unfold shP at hp
              rw [hsm, hft, decide_eq_true z] at hp
              cases hp
            rw [h1] at e1
            simp (disch := omega) only [lit, nle_f, neq_f, if_false, n_or, n_inb, if_true, n_ix, e1, not_true_eq_false, n_xor, e2, ea, n_sub, not_false_eq_true]
            exact nxt
          · simp (disch := omega) only [lit, nle_f, neq_f, if_false, n_or, n_inb, if_true, n_ix, e1, not_false_eq_true]
            exact nxt
  rw [E89_0, n_low h0 (by omega), n_xor]
  simp only [lit]
  exact loop (othB a) 0 0 (by omega) subS_0 (Nat.le_refl _) (fun k hk => by omega)
theorem shw_ok (ha : a < 256) (h0 : 0 < a) : shw fit a < 256 ∧ subS (shw fit a) a = true := by
  unfold shw
  cases hf : fnd (shP fit a) (othB a) with
  | none => exact ⟨ha, subS_iff.mpr (fun _ h => h)⟩
  | some m =>
    have key : ∀ n, fnd (shP fit a) n = some m → m < n ∧ shP fit a m = true := by
      intro n
      induction n with
      | zero => intro h; cases h
      | succ n ih =>
        intro h
        rw [fnd_s] at h
        cases hq : fnd (shP fit a) n with
        | some y =>
          rw [hq] at h
          cases h
          have := ih hq
          exact ⟨by omega, this.2⟩
        | none =>
          rw [hq] at h
          dsimp only at h
          split at h
          · next hz => cases h; exact ⟨by omega, hz⟩
          · cases h
    obtain ⟨k1, k2⟩ := key _ hf
    unfold shP at k2
    rw [Bool.and_eq_true, Bool.and_eq_true] at k2
    obtain ⟨g1, g2, -⟩ := oth_lt ha h0 k2.1.1 k1
    exact ⟨by show lowB a ||| m < 256; omega, g2⟩
theorem shR_len {k a : Nat} : (shR fit k a).length ≤ k := by
  induction k generalizing a with
  | zero => exact Nat.le_refl _
  | succ k ih =>
    unfold shR
    split
    · exact Nat.zero_le _
    · rw [List.length_cons]; have := ih (a := a &&& (a ^^^ shw fit a)); omega
theorem x_fewShows (q : XQ T f am pl s) (ha : a < 256) (hs : subS a am = true) {W : List Int32} (hW : XW W s) (hl : W.length = 0) : ∃ s', ev (d + 1 + 1 + 1) 87 0 [.inr 47, .inl (nI a), .inr 4, .inr 0, .inr 0, .inr 0] [] s = some (0, nI (sw (fitS f pl am) a), s') ∧ XW (shR (fitS f pl am) 8 a) s' ∧ Eqx [51, 4, 5] s s' := by
  obtain ⟨s0, hs0⟩ : ∃ s0, s0 = up s 51 0 (nI 0) := ⟨_, rfl⟩
  have q0 : Eqx [51] s s0 := by rw [hs0]; exact Eqx.rf.up (by simp)
  have fitsub : ∀ n, fitS f pl am n = true → subS n am = true := fun n h => by
    unfold fitS at h
    rw [Bool.and_eq_true] at h
    exact h.1
  have key : ∀ n, n ≤ 255 → ∃ s1, ev (d + 1 + 1 + 1) 87 9 [.inr 47, .inl (nI a), .inr 4, .inl (nI 1), .inr 0, .inr 0] [] s0 = ev (d + 1 + 1 + 1) 87 9 [.inr 47, .inl (nI a), .inr 4, .inl (nI (n + 1)), .inr 0, .inr 0] [] s1 ∧ XSw (fitS f pl am) am (n + 1) s1 ∧ Eqx [51] s s1 := by
    intro n
    induction n with
    | zero =>
      intro _
      refine ⟨s0, rfl, fun b hb _ => ?_, q0⟩
      have : b = 0 := by omega
      subst this
      rw [hs0, up_in]
      rfl
    | succ n ih =>
      intro hn
      obtain ⟨s1, e1, t1, q1⟩ := ih (by omega)
      have Q1 := XQ_q q q1 (by decide) (by decide) (by decide) (by decide)
      have ea := x_among (d := d + 1 + 1) (a := n + 1) Q1.2.2.2.2.1 (by omega)
      have ef := x_fits (d := d) Q1 (show n + 1 < 256 by omega)
      have e47 : ∀ r, ev (d + 1 + 1 + 1) 87 47 [.inr 47, .inl (nI a), .inr 4, .inl (nI (n + 1)), .inr 0, .inr 0] [] r = ev (d + 1 + 1 + 1) 87 9 [.inr 47, .inl (nI a), .inr 4, .inl (nI (n + 1 + 1)), .inr 0, .inr 0] [] r := fun r => by
        rw [E87_47]
        simp only [lit, nI_add]
      have wr : ∀ v, v = sw (fitS f pl am) (n + 1) → XSw (fitS f pl am) am (n + 1 + 1) (up s1 51 (n + 1) (nI v)) := fun v hv b hb hsb => by
        by_cases hz : b = n + 1
        · subst hz; rw [up_in, hv]
        · rw [up_out hz]; exact t1 b (by omega) hsb
      cases hsn : subS (n + 1) am with
      | false =>
        rw [hsn] at ea
        refine ⟨s1, ?_, fun b hb hsb => ?_, q1⟩
        · rw [e1, E87_9]
          simp (disch := omega) only [lit, nle_f, if_false, ea, bnd_some, bIf0, if_true, e47]
        · by_cases hz : b = n + 1
          · rw [hz, hsn] at hsb; cases hsb
          · exact t1 b (by omega) hsb
      | true =>
        rw [hsn] at ea
        cases hf : fitS f pl am (n + 1) with
        | true =>
          rw [hf] at ef
          have hv := (sw_fit (fit := fitS f pl am) (a := n + 1) (by omega) (by omega)).mpr hf
          refine ⟨_, ?_, wr 1 hv.symm, q1.up (by simp)⟩
          rw [e1, E87_9]
          simp (disch := omega) only [lit, nle_f, if_false, ea, bnd_some, bIt0, ef]
          rw [E87_46]
          simp (disch := omega) only [n_inb, if_true, n_ix, e47]
        | false =>
          rw [hf] at ef
          have ew := x_fewW (d := d + 1 + 1) (show n + 1 < 256 by omega) (by omega) hsn t1 hf
          refine ⟨_, ?_, wr _ rfl, q1.up (by simp)⟩
          rw [e1, E87_9]
          simp (disch := omega) only [lit, nle_f, if_false, ea, bnd_some, bIt0, ef, bIf0, if_true, ew]
          rw [E87_46]
          simp (disch := omega) only [n_inb, if_true, n_ix, e47]
  obtain ⟨s1, e1, t1, q1⟩ := key 255 (Nat.le_refl _)
  have W1 := XW_q hW q1 (by decide) (by decide)
  have hnil : W = [] := List.length_eq_zero_iff.mp hl
  subst hnil
  -- the row
  have tell : ∀ k i b (s2 : mS) (W : List Int32), k + i = 8 → b < 256 → subS b am = true → XSw (fitS f pl am) am 256 s2 → XW W s2 → W.length = i → ∃ s3, ev (d + 1 + 1 + 1) 87 58 [.inr 47, .inl (nI a), .inr 4, .inl (nI b), .inl (nI i), .inr 0] [] s2 = ev (d + 1 + 1 + 1) 87 96 [.inr 47, .inl (nI a), .inr 0, .inr 0, .inr 0, .inr 0] [] s3 ∧ XW (W ++ shR (fitS f pl am) k b) s3 ∧ Eqx [4, 5] s2 s3 := by
    intro k
    induction k with
    | zero =>
      intro i b s2 W hk hb hsb ht hW hlen
      refine ⟨s2, ?_, by rw [show shR (fitS f pl am) 0 b = [] from rfl, List.append_nil]; exact hW, Eqx.rf⟩
      rw [E87_58]
      simp (disch := omega) only [lit, nI_add, pk_mul, n_sub, n_addneg, nle_t, nle_f, nlt_t, nlt_f, neq_t, neq_f, n_inb, n_ix, bnd_some, if_true, if_false, ite_tt, ite_ff, not_true_eq_false, not_false_eq_true, eq_self, false_or, or_false, true_or, or_true]
    | succ k ih =>
      intro i b s2 W hk hb hsb ht hW hlen
      unfold shR
      by_cases hb0 : b = 0
      · rw [if_pos hb0, List.append_nil]
        refine ⟨s2, ?_, hW, Eqx.rf⟩
        rw [E87_58]
        simp (disch := omega) only [lit, nle_f, if_false, hb0, if_true]
      · rw [if_neg hb0]
        have es := x_leastShow (d := d + 1 + 1) hb (by omega) hsb ht
        obtain ⟨k1, k2⟩ := shw_ok (fit := fitS f pl am) hb (by omega)
        generalize shw (fitS f pl am) b = p at es k1 k2
        obtain ⟨s3, e3, w3, q3⟩ := x_add (d := d + 1 + 1) (a := nI p) hW (by omega)
        have hle : b &&& (b ^^^ p) ≤ b := Nat.and_le_left
        have hsr : subS (b &&& (b ^^^ p)) am = true := subS_iff.mpr (fun i hi => by
          rw [Nat.testBit_and, Bool.and_eq_true] at hi
          exact subS_iff.mp hsb i hi.1)
        obtain ⟨s4, e4, w4, q4⟩ := ih (i + 1) (b &&& (b ^^^ p)) s3 (W ++ [nI p]) (by omega) (by omega) hsr (fun c hc hsc => by rw [q3 _ (by decide)]; exact ht c hc hsc) w3 (by rw [List.length_append, hlen]; rfl)
        rw [List.append_assoc] at w4
        refine ⟨s4, ?_, w4, q3.tr q4⟩
        rw [← e4, E87_58]
        simp (disch := omega) only [lit, nle_f, neq_f, if_false, es, bnd_some, e3, if_true, n_andn, nI_add]
  obtain ⟨s2, e2, w2, q2⟩ := tell 8 0 a s1 [] rfl ha hs t1 W1 rfl
  rw [List.nil_append] at w2
  have ea := t1 a ha hs
  refine ⟨s2, ?_, w2, (q1.mono (by simp)).tr (q2.mono (by simp))⟩
  rw [E87_0]
  simp (disch := omega) only [lit, n_inb, if_true, n_ix]
  rw [← hs0, e1, E87_9]
  simp (disch := omega) only [lit, nle_t, if_true]
  rw [e2, E87_96, q2 _ (by decide)]
  simp (disch := omega) only [n_inb, if_true, n_ix, ea]
theorem X_shows (h : XI A B s) (hz : XZ s) : ∃ s', ev (d + 1 + 1 + 1 + 1 + 1) 196 0 [.inr 1, .inr 0] [] s = some (0, (o_shows A).2, s') ∧ XI (o_shows A).1 B s' ∧ XZ s' ∧ fM s s' := by
  obtain ⟨s1, e0, e1, q1, i1, z1, p1⟩ := x_words0 (d := d) h hz
  have hm : wdS2 (gS A) < 256 := bts_lt8 _ (by omega)
  have ee := x_eachAlone (d := d + 1) q1 hm
  unfold o_shows
  cases hb : eaA (fW A) (wdS2 (gS A)) (stk (gS A)) (wdS2 (gS A)) with
  | false =>
    rw [hb] at ee
    rw [if_pos rfl]
    refine ⟨s1, ?_, i1, z1, fM_q p1 (by decide)⟩
    rw [E196_0]
    simp only [lit, e0, bnd_some, e1, ee, bIf0, not_true_eq_false, if_false]
  | true =>
    rw [hb] at ee
    rw [if_neg (by simp)]
    have qn : Eqx [4, 5] s1 (up s1 4 1 (nI 0)) := Eqx.rf.up (by simp)
    obtain ⟨s2, e2, w2, q2⟩ := x_fewShows (d := d + 1) (XQ_q q1 qn (by decide) (by decide) (by decide) (by decide)) hm (subS_iff.mpr (fun _ h => h)) XW_nil rfl
    have qa : Eqx [51, 4, 5] s1 s2 := (qn.mono (by simp)).tr q2
    refine ⟨s2, ?_, XI_row i1 qa (by decide) (by decide) w2 (Nat.le_trans shR_len (by omega)), XZ_q z1 qa (by decide) (by decide), (fM_q p1 (by decide)).tr (fM_q qa (by decide))⟩
    have e2 : ev (d + 1 + 1 + 1 + 1) 87 0 [.inr 47, .inl (nI (wdS2 (gS A))), .inr 4, .inr 0, .inr 0, .inr 0] [] (up s1 4 1 (nI 0)) = some (0, nI (sw (fitA A) (wdS2 (gS A))), s2) := e2
    rw [E196_0]
    simp only [lit, e0, bnd_some, e1, ee, bIt0, not_false_eq_true, if_true, x_clear, e2]
end XS5
