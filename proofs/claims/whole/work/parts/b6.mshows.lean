/-! THE MODEL: shows -/
def vld (fit : Nat → Bool) (a p : Nat) : Prop := subS p a = true ∧ ¬ p &&& lowB a = 0 ∧ fit p = true
def lowT (a : Nat) : Bool := (List.range 8).any (fun w => decide (lowB a = 2 ^ w)) && decide (pc (othB a) + 1 = pc a)
section MU6
variable {d B B' l w v x y n a b c k i m : Nat} {s s' s1 s2 : mS} {T : aT} {S : aS} {A : aA} {p q : Nat} {f : Nat → Nat → Nat} {am : Nat} {pl pl' : Nat → Nat} {fit : Nat → Bool}
theorem lowT_t : ∀ a, a < 256 → 0 < a → lowT a = true := by decide +kernel
theorem low_w (ha : a < 256) (h0 : 0 < a) : ∃ w, w < 8 ∧ lowB a = 2 ^ w := by
  have h := lowT_t a ha h0
  unfold lowT at h
  rw [Bool.and_eq_true] at h
  obtain ⟨w, h1, h2⟩ := List.any_eq_true.mp h.1
  exact ⟨w, List.mem_range.mp h1, of_decide_eq_true h2⟩
theorem low_pc (ha : a < 256) (h0 : 0 < a) : pc (othB a) + 1 = pc a := by
  have h := lowT_t a ha h0
  unfold lowT at h
  rw [Bool.and_eq_true] at h
  exact of_decide_eq_true h.2
theorem or_t : ∀ w, w < 8 → ∀ m, m < 256 → m.testBit w = false → 2 ^ w ||| m = m + 2 ^ w := by decide +kernel
theorem pc8_t : ∀ a, a < 256 → pc a ≤ 8 := by decide +kernel
/-- a valid part has the lowest -/
theorem vld_low (ha : a < 256) (h0 : 0 < a) (h : ¬ p &&& lowB a = 0) : subS (lowB a) p = true := by
  obtain ⟨w, -, e⟩ := low_w ha h0
  rw [e] at h ⊢
  have hb : p.testBit w = true := by
    cases hb : p.testBit w with
    | true => rfl
    | false =>
      refine absurd (Nat.eq_of_testBit_eq (fun i => ?_)) h
      rw [Nat.testBit_and, Nat.testBit_two_pow, Nat.zero_testBit]
      by_cases z : w = i
      · rw [← z, hb]; rfl
      · rw [decide_eq_false z, Bool.and_false]
  refine subS_iff.mpr (fun i hi => ?_)
  rw [Nat.testBit_two_pow] at hi
  rw [← of_decide_eq_true hi]; exact hb
/-- a valid part is the lowest and some of the others -/
theorem vld_m (ha : a < 256) (h0 : 0 < a) (hs : subS p a = true) (hl : subS (lowB a) p = true) : subS (p &&& othB a) (othB a) = true ∧ lowB a ||| (p &&& othB a) = p ∧ othB a ^^^ (p &&& othB a) = a &&& (a ^^^ p) := by
  have l1 := (lowB_ok a ha h0).1
  refine ⟨subS_iff.mpr (fun i hi => ?_), Nat.eq_of_testBit_eq (fun i => ?_), Nat.eq_of_testBit_eq (fun i => ?_)⟩
  · rw [Nat.testBit_and, Bool.and_eq_true] at hi
    exact hi.2
  · rw [Nat.testBit_or, Nat.testBit_and, oth_bit ha h0]
    have x1 := fun z => subS_iff.mp hs i z
    have x2 := fun z => subS_iff.mp hl i z
    cases hp : p.testBit i <;> cases hz : (lowB a).testBit i
    · rfl
    · rw [x2 hz] at hp; cases hp
    · rw [x1 hp]; rfl
    · rfl
  · rw [Nat.testBit_xor, Nat.testBit_and, Nat.testBit_and, Nat.testBit_xor, oth_bit ha h0]
    have x1 := fun z => subS_iff.mp hs i z
    have x2 := fun z => subS_iff.mp hl i z
    cases hp : p.testBit i <;> cases hz : (lowB a).testBit i
    · cases a.testBit i <;> rfl
    · rw [x2 hz] at hp; cases hp
    · rw [x1 hp]; rfl
    · cases a.testBit i <;> rfl
theorem fold_le {tab : Nat → Nat} {N : Nat} (hm : m < N) (h1 : subS m (othB a) = true) (h2 : fit (lowB a ||| m) = true) : itr (fun m v => swG fit tab a m v) N 8 ≤ 1 + tab (othB a ^^^ m) := by
  induction N with
  | zero => omega
  | succ N ih =>
    show swG fit tab a N _ ≤ _
    unfold swG at ih ⊢
    by_cases z : m = N
    · subst z
      rw [if_pos ⟨h1, h2⟩]
      exact Nat.min_le_right _ _
    · have := ih (by omega)
      split
      · exact Nat.le_trans (Nat.min_le_left _ _) this
      · exact this
theorem fold_at {tab : Nat → Nat} {N : Nat} : itr (fun m v => swG fit tab a m v) N 8 = 8 ∨ ∃ m, m < N ∧ subS m (othB a) = true ∧ fit (lowB a ||| m) = true ∧ itr (fun m v => swG fit tab a m v) N 8 = 1 + tab (othB a ^^^ m) := by
  induction N with
  | zero => exact Or.inl rfl
  | succ N ih =>
    have e : itr (fun m v => swG fit tab a m v) (N + 1) 8 = swG fit tab a N (itr (fun m v => swG fit tab a m v) N 8) := rfl
    rw [e]
    generalize itr (fun m v => swG fit tab a m v) N 8 = v at ih
    have ih' : v = 8 ∨ ∃ m, m < N + 1 ∧ subS m (othB a) = true ∧ fit (lowB a ||| m) = true ∧ v = 1 + tab (othB a ^^^ m) := ih.imp id (fun ⟨m, x1, x2⟩ => ⟨m, by omega, x2⟩)
    unfold swG
    split
    · next z =>
      by_cases y : v ≤ 1 + tab (othB a ^^^ N)
      · rw [Nat.min_eq_left y]; exact ih'
      · rw [Nat.min_eq_right (by omega)]
        exact Or.inr ⟨N, by omega, z.1, z.2, rfl⟩
    · exact ih'
theorem sw_le (ha : a < 256) (h0 : 0 < a) (h : vld fit a p) : sw fit a ≤ 1 + sw fit (a &&& (a ^^^ p)) := by
  obtain ⟨h1, h2, h3⟩ := h
  have hl := vld_low ha h0 h2
  obtain ⟨m1, m2, m3⟩ := vld_m ha h0 h1 hl
  by_cases hf : fit a = true
  · rw [(sw_fit h0 ha).mpr hf]; omega
  · have hlt : p &&& othB a < othB a := by
      have := sub_le m1
      rcases Nat.lt_or_ge (p &&& othB a) (othB a) with z | z
      · exact z
      · exfalso
        have e : p &&& othB a = othB a := by omega
        rw [e] at m2
        have : lowB a ||| othB a = a := Nat.eq_of_testBit_eq (fun i => by
          rw [Nat.testBit_or, oth_bit ha h0]
          have x1 := fun z => subS_iff.mp (lowB_ok a ha h0).1 i z
          cases hz : (lowB a).testBit i
          · cases a.testBit i <;> rfl
          · rw [x1 hz]; rfl)
        rw [this] at m2
        rw [m2] at hf
        exact hf h3
    have g4 := (oth_lt ha h0 m1 hlt).2.2.2.1
    have e := fold_le (fit := fit) (tab := swT fit a) (N := othB a) hlt m1 (by rw [m2]; exact h3)
    rw [swT_k g4, m3] at e
    rw [sw_eq]
    unfold swV
    rw [if_neg (by omega), if_neg hf]
    exact e
theorem and_self_x : a &&& (a ^^^ a) = 0 := by rw [Nat.xor_self, Nat.and_zero]
theorem sw_0 : sw fit 0 = 0 := by rw [sw_eq]; unfold swV; rw [if_pos rfl]
theorem low_del (ha : a < 256) (h0 : 0 < a) : a &&& (a ^^^ lowB a) = othB a := Nat.eq_of_testBit_eq (fun i => by
  rw [Nat.testBit_and, Nat.testBit_xor, oth_bit ha h0]
  cases a.testBit i <;> cases (lowB a).testBit i <;> rfl)
theorem low_and (ha : a < 256) (h0 : 0 < a) : ¬ lowB a &&& lowB a = 0 := by
  rw [Nat.and_self]
  have := (lowB_ok a ha h0).2.2.1
  omega
/-- as many weeks as walls are always enough -/
theorem sw_pc : ∀ a, a < 256 → (∀ w, a.testBit w = true → fit (2 ^ w) = true) → sw fit a ≤ pc a := by
  intro a
  induction a using Nat.strongRecOn with
  | _ a ih =>
    intro ha hf
    by_cases h0 : a = 0
    · subst h0; rw [sw_0]; exact Nat.zero_le _
    · have h0 : 0 < a := by omega
      obtain ⟨l1, l2, l3, l4⟩ := lowB_ok a ha h0
      obtain ⟨w, -, hw⟩ := low_w ha h0
      have hlf : fit (lowB a) = true := by
        rw [hw]
        exact hf w (subS_iff.mp l1 w (by rw [hw, Nat.testBit_two_pow, decide_eq_true rfl]))
      have g := sw_le (fit := fit) ha h0 ⟨l1, low_and ha h0, hlf⟩
      rw [low_del ha h0] at g
      have := ih (othB a) l2 (by omega) (fun w hw => hf w (subS_iff.mp l4 w hw))
      have := low_pc ha h0
      omega
theorem sw_at (ha : a < 256) (h0 : 0 < a) (hf : ∀ w, a.testBit w = true → fit (2 ^ w) = true) : ∃ p, vld fit a p ∧ sw fit a = 1 + sw fit (a &&& (a ^^^ p)) := by
  obtain ⟨l1, l2, l3, l4⟩ := lowB_ok a ha h0
  by_cases hfa : fit a = true
  · refine ⟨a, ⟨subS_iff.mpr (fun _ h => h), fun z => low_and ha h0 ?_, hfa⟩, ?_⟩
    · rw [Nat.and_self]
      have : a &&& lowB a = lowB a := Nat.eq_of_testBit_eq (fun i => by
        rw [Nat.testBit_and]
        cases hz : (lowB a).testBit i
        · rw [Bool.and_false]
        · rw [subS_iff.mp l1 i hz]; rfl)
      rw [← this]; exact z
    · rw [and_self_x, sw_0, (sw_fit h0 ha).mpr hfa]
  · have e : sw fit a = itr (fun m v => swG fit (swT fit a) a m v) (othB a) 8 := by
      rw [sw_eq]
      unfold swV
      rw [if_neg (by omega), if_neg hfa]
    rcases fold_at (fit := fit) (a := a) (tab := swT fit a) (N := othB a) with g | ⟨m, x1, x2, x3, x4⟩
    · obtain ⟨w, -, hw⟩ := low_w ha h0
      have hlf : fit (lowB a) = true := by
        rw [hw]
        exact hf w (subS_iff.mp l1 w (by rw [hw, Nat.testBit_two_pow, decide_eq_true rfl]))
      have u1 := sw_le (fit := fit) ha h0 ⟨l1, low_and ha h0, hlf⟩
      have u2 := sw_pc (fit := fit) (othB a) (by omega) (fun w hw => hf w (subS_iff.mp l4 w hw))
      have u3 := low_pc ha h0
      have u4 := pc8_t a ha
      rw [low_del ha h0] at u1
      refine ⟨lowB a, ⟨l1, low_and ha h0, hlf⟩, ?_⟩
      rw [low_del ha h0]
      omega
    · obtain ⟨g1, g2, g3, g4, g5, g6⟩ := oth_lt ha h0 x2 x1
      rw [swT_k g4] at x4
      have hl : subS (lowB a) (lowB a ||| m) = true := subS_iff.mpr (fun i hi => by rw [Nat.testBit_or, hi]; rfl)
      have hmo : (lowB a ||| m) &&& othB a = m := Nat.eq_of_testBit_eq (fun i => by
        rw [Nat.testBit_and, Nat.testBit_or, oth_bit ha h0]
        have x1 := fun z => subS_iff.mp x2 i z
        rw [oth_bit ha h0] at x1
        cases hm : m.testBit i
        · cases a.testBit i <;> cases (lowB a).testBit i <;> rfl
        · have := x1 hm
          cases h1 : a.testBit i <;> cases h2 : (lowB a).testBit i <;> rw [h1, h2] at this <;> first | rfl | cases this)
      obtain ⟨m1, m2, m3⟩ := vld_m ha h0 g2 hl
      rw [hmo] at m3
      refine ⟨lowB a ||| m, ⟨g2, fun z => low_and ha h0 ?_, x3⟩, ?_⟩
      · have : (lowB a ||| m) &&& lowB a = lowB a := Nat.eq_of_testBit_eq (fun i => by
          rw [Nat.testBit_and, Nat.testBit_or]
          cases (lowB a).testBit i <;> cases m.testBit i <;> rfl)
        rw [Nat.and_self, ← this]; exact z
      · rw [← m3, e, x4]
theorem fnd_ok {P : Nat → Bool} : fnd P n = some i → i < n ∧ P i = true ∧ ∀ j, j < i → P j = false := by
  induction n with
  | zero => intro h; cases h
  | succ n ih =>
    intro h
    rw [fnd_s] at h
    cases hq : fnd P n with
    | some y =>
      rw [hq] at h
      cases h
      obtain ⟨x1, x2⟩ := ih hq
      exact ⟨by omega, x2⟩
    | none =>
      rw [hq] at h
      dsimp only at h
      split at h
      · next hz =>
        cases h
        refine ⟨by omega, hz, fun j hj => ?_⟩
        cases hp : P j with
        | false => rfl
        | true =>
          exfalso
          have key : ∀ n, j < n → fnd P n ≠ none := by
            intro n
            induction n with
            | zero => intro h; omega
            | succ n ih2 =>
              intro hn e
              rw [fnd_s] at e
              cases hq2 : fnd P n with
              | some y => rw [hq2] at e; cases e
              | none =>
                rw [hq2] at e
                dsimp only at e
                by_cases z : j = n
                · subst z; rw [if_pos hp] at e; cases e
                · exact ih2 (by omega) hq2
          exact key _ hj hq
      · cases h
theorem fnd_no {P : Nat → Bool} (h : fnd P n = none) : ∀ j, j < n → P j = false := by
  intro j hj
  cases hp : P j with
  | false => rfl
  | true =>
    exfalso
    have key : ∀ n, j < n → fnd P n ≠ none := by
      intro n
      induction n with
      | zero => intro h; omega
      | succ n ih2 =>
        intro hn e
        rw [fnd_s] at e
        cases hq2 : fnd P n with
        | some y => rw [hq2] at e; cases e
        | none =>
          rw [hq2] at e
          dsimp only at e
          by_cases z : j = n
          · subst z; rw [if_pos hp] at e; cases e
          · exact ih2 (by omega) hq2
    exact key n hj h
/-- the least part that can be first: it is one, and none is before it -/
theorem shw_at (ha : a < 256) (h0 : 0 < a) (hf : ∀ w, a.testBit w = true → fit (2 ^ w) = true) : (vld fit a (shw fit a) ∧ sw fit (a &&& (a ^^^ shw fit a)) + 1 = sw fit a) ∧ ∀ p, p < shw fit a → vld fit a p → ¬ sw fit (a &&& (a ^^^ p)) + 1 = sw fit a := by
  obtain ⟨l1, l2, l3, l4⟩ := lowB_ok a ha h0
  -- a valid part other than the whole is one of those that are looked at
  have see : ∀ p, vld fit a p → sw fit (a &&& (a ^^^ p)) + 1 = sw fit a → p = a ∨ (p &&& othB a < othB a ∧ shP fit a (p &&& othB a) = true ∧ lowB a ||| (p &&& othB a) = p) := fun p hv he => by
    obtain ⟨h1, h2, h3⟩ := hv
    obtain ⟨m1, m2, m3⟩ := vld_m ha h0 h1 (vld_low ha h0 h2)
    by_cases hlt : p &&& othB a < othB a
    · refine Or.inr ⟨hlt, ?_, m2⟩
      unfold shP
      rw [m1, m2, h3, m3, decide_eq_true he]; rfl
    · left
      have := sub_le m1
      have e : p &&& othB a = othB a := by omega
      rw [e] at m2
      rw [← m2]
      exact Nat.eq_of_testBit_eq (fun i => by
        rw [Nat.testBit_or, oth_bit ha h0]
        have x1 := fun z => subS_iff.mp l1 i z
        cases hz : (lowB a).testBit i
        · cases a.testBit i <;> rfl
        · rw [x1 hz]; rfl)
  unfold shw
  cases hq : fnd (shP fit a) (othB a) with
  | some m =>
    obtain ⟨k1, k2, k3⟩ := fnd_ok hq
    have k2' := k2
    unfold shP at k2
    rw [Bool.and_eq_true, Bool.and_eq_true] at k2
    obtain ⟨⟨x2, x3⟩, x4⟩ := k2
    have x4 := of_decide_eq_true x4
    obtain ⟨g1, g2, g3, g4, g5, g6⟩ := oth_lt ha h0 x2 k1
    have hl : subS (lowB a) (lowB a ||| m) = true := subS_iff.mpr (fun i hi => by rw [Nat.testBit_or, hi]; rfl)
    have hmo : (lowB a ||| m) &&& othB a = m := Nat.eq_of_testBit_eq (fun i => by
      rw [Nat.testBit_and, Nat.testBit_or, oth_bit ha h0]
      have x1 := fun z => subS_iff.mp x2 i z
      rw [oth_bit ha h0] at x1
      cases hm : m.testBit i
      · cases a.testBit i <;> cases (lowB a).testBit i <;> rfl
      · have := x1 hm
        cases h1 : a.testBit i <;> cases h2 : (lowB a).testBit i <;> rw [h1, h2] at this <;> first | rfl | cases this)
    obtain ⟨m1, m2, m3⟩ := vld_m ha h0 g2 hl
    rw [hmo] at m3
    refine ⟨⟨⟨g2, fun z => low_and ha h0 ?_, x3⟩, ?_⟩, fun p hp hv he => ?_⟩
    · have : (lowB a ||| m) &&& lowB a = lowB a := Nat.eq_of_testBit_eq (fun i => by
        rw [Nat.testBit_and, Nat.testBit_or]
        cases (lowB a).testBit i <;> cases m.testBit i <;> rfl)
      rw [Nat.and_self, ← this]; exact z
    · show sw fit (a &&& (a ^^^ (lowB a ||| m))) + 1 = sw fit a
      rw [← m3]; exact x4
    · have hp : p < lowB a ||| m := hp
      rcases see p hv he with rfl | ⟨y1, y2, y3⟩
      · omega
      · have hge : m ≤ p &&& othB a := by
          rcases Nat.lt_or_ge (p &&& othB a) m with z | z
          · rw [k3 _ z] at y2; cases y2
          · exact z
        obtain ⟨w, hw, ew⟩ := low_w ha h0
        have nb : ∀ m, subS m (othB a) = true → m.testBit w = false := fun m hm => by
          cases hb : m.testBit w with
          | false => rfl
          | true =>
            have := subS_iff.mp hm w hb
            rw [oth_bit ha h0, ew, Nat.testBit_two_pow, decide_eq_true rfl] at this
            rw [Bool.and_eq_true] at this
            exact absurd this.2 (by decide)
        have o1 := or_t w hw m (by omega) (nb m x2)
        have o2 := or_t w hw (p &&& othB a) (by omega) (nb _ (vld_m ha h0 hv.1 (vld_low ha h0 hv.2.1)).1)
        rw [← ew] at o1 o2
        rw [y3] at o2
        omega
  | none =>
    have no := fnd_no hq
    have whole : fit a = true := by
      cases hfa : fit a with
      | true => rfl
      | false =>
        obtain ⟨p, hv, he⟩ := sw_at (fit := fit) ha h0 hf
        rcases see p hv (by omega) with rfl | ⟨y1, y2, y3⟩
        · rw [hv.2.2] at hfa; cases hfa
        · rw [no _ y1] at y2; cases y2
    refine ⟨⟨⟨subS_iff.mpr (fun _ h => h), fun z => low_and ha h0 ?_, whole⟩, ?_⟩, fun p hp hv he => ?_⟩
    · have : a &&& lowB a = lowB a := Nat.eq_of_testBit_eq (fun i => by
        rw [Nat.testBit_and]
        cases hz : (lowB a).testBit i
        · rw [Bool.and_false]
        · rw [subS_iff.mp l1 i hz]; rfl)
      rw [Nat.and_self, ← this]; exact z
    · show sw fit (a &&& (a ^^^ a)) + 1 = sw fit a
      rw [and_self_x, sw_0, (sw_fit h0 ha).mpr whole]
    · have hp : p < a := hp
      rcases see p hv he with rfl | ⟨y1, y2, y3⟩
      · omega
      · rw [no _ y1] at y2; cases y2
end MU6
