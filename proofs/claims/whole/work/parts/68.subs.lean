/-! THE SUBSETS OF A SET, one behind the other -/
theorem and_two (x y : Nat) : x &&& y = 2 * (x / 2 &&& y / 2) + (if x % 2 = 1 ∧ y % 2 = 1 then 1 else 0) := by
  apply Nat.eq_of_testBit_eq
  intro i
  cases i with
  | zero =>
    rw [Nat.testBit_and, Nat.testBit_zero, Nat.testBit_zero, Nat.testBit_zero]
    by_cases h : x % 2 = 1 ∧ y % 2 = 1
    · rw [if_pos h, h.1, h.2]
      have : (2 * (x / 2 &&& y / 2) + 1) % 2 = 1 := by omega
      rw [this]; rfl
    · rw [if_neg h]
      have : (2 * (x / 2 &&& y / 2) + 0) % 2 = 0 := by omega
      rw [this]
      by_cases h1 : x % 2 = 1
      · have h2 : ¬ y % 2 = 1 := fun z => h ⟨h1, z⟩
        simp [h1, h2]
      · simp [h1]
  | succ i =>
    rw [Nat.testBit_and, Nat.testBit_succ, Nat.testBit_succ, Nat.testBit_succ]
    have : (2 * (x / 2 &&& y / 2) + (if x % 2 = 1 ∧ y % 2 = 1 then 1 else 0)) / 2 = x / 2 &&& y / 2 := by split <;> omega
    rw [this, Nat.testBit_and]
/-- a is within o, bit by bit -/
theorem sub_two {a o : Nat} (h : subS a o = true) : subS (a / 2) (o / 2) = true ∧ (a % 2 = 1 → o % 2 = 1) := by
  rw [subS_iff] at h
  refine ⟨subS_iff.mpr (fun i hi => ?_), fun h1 => ?_⟩
  · have := h (i + 1) (by rw [Nat.testBit_succ]; exact hi)
    rw [Nat.testBit_succ] at this
    exact this
  · have := h 0 (by rw [Nat.testBit_zero, h1]; rfl)
    rw [Nat.testBit_zero] at this
    exact of_decide_eq_true this
theorem sub_le {a o : Nat} (h : subS a o = true) : a ≤ o := by
  have e : a &&& o = a := by
    apply Nat.eq_of_testBit_eq
    intro i
    rw [Nat.testBit_and]
    cases ha : a.testBit i with
    | false => rfl
    | true => rw [subS_iff.mp h i ha]; rfl
  rw [← e]
  exact Nat.and_le_right
theorem cmp_and : ∀ w a o, o < 2 ^ w → subS a o = true → (a + (2 ^ w - 1 - o)) &&& o = a := by
  intro w
  induction w with
  | zero =>
    intro a o ho hs
    have h0 : o = 0 := by simpa using ho
    have := sub_le hs
    have ha : a = 0 := by omega
    rw [ha, h0]
    rfl
  | succ w ih =>
    intro a o ho hs
    obtain ⟨h1, h2⟩ := sub_two hs
    have hle := sub_le hs
    have hle2 := sub_le h1
    rw [Nat.pow_succ] at ho
    have g := ih (a / 2) (o / 2) (by omega) h1
    have hp : 2 ^ (w + 1) = 2 * 2 ^ w := by rw [Nat.pow_succ]; omega
    have e : (a + (2 ^ (w + 1) - 1 - o)) / 2 = a / 2 + (2 ^ w - 1 - o / 2) := by
      rw [hp]
      by_cases ha : a % 2 = 1
      · have := h2 ha; omega
      · omega
    rw [and_two, e, g]
    by_cases ha : a % 2 = 1
    · have := h2 ha
      rw [if_pos ⟨by rw [hp]; omega, this⟩]; omega
    · by_cases hO : o % 2 = 1
      · rw [if_neg (fun z => by have := z.1; rw [hp] at this; omega)]; omega
      · rw [if_neg (fun z => hO z.2)]; omega
/-- the next subset behind one -/
def nxS (w m o : Nat) : Nat := (m + (2 ^ w - o)) &&& o
theorem nxS_sub {w m o : Nat} : subS (nxS w m o) o = true := subS_iff.mpr (fun i hi => by
  unfold nxS at hi
  rw [Nat.testBit_and, Bool.and_eq_true] at hi
  exact hi.2)
theorem nxS_ok : ∀ w m o, o < 2 ^ w → subS m o = true → m < o → m < nxS w m o ∧ ∀ b, subS b o = true → m < b → nxS w m o ≤ b := by
  intro w
  induction w with
  | zero => intro m o ho hs hm; have : o < 1 := ho; omega
  | succ w ih =>
    intro m o ho hs hm
    obtain ⟨h1, h2⟩ := sub_two hs
    have hle2 := sub_le h1
    rw [Nat.pow_succ] at ho
    have hp : 2 ^ (w + 1) = 2 * 2 ^ w := by rw [Nat.pow_succ]; omega
    have hlo : o / 2 < 2 ^ w := by omega
    have hx : nxS (w + 1) m o = 2 * ((m + (2 ^ (w + 1) - o)) / 2 &&& o / 2) + (if (m + (2 ^ (w + 1) - o)) % 2 = 1 ∧ o % 2 = 1 then 1 else 0) := and_two _ _
    by_cases hs0 : m % 2 = o % 2
    · have e : (m + (2 ^ (w + 1) - o)) / 2 = m / 2 + (2 ^ w - o / 2) := by rw [hp]; omega
      have e2 : ¬ ((m + (2 ^ (w + 1) - o)) % 2 = 1 ∧ o % 2 = 1) := by rw [hp]; omega
      rw [e, if_neg e2, Nat.add_zero] at hx
      obtain ⟨g1, g2⟩ := ih (m / 2) (o / 2) hlo h1 (by omega)
      have hx : nxS (w + 1) m o = 2 * nxS w (m / 2) (o / 2) := hx
      refine ⟨by omega, fun b hb hmb => ?_⟩
      obtain ⟨b1, b2⟩ := sub_two hb
      have := g2 (b / 2) b1 (by
        by_cases hbo : b % 2 = 1
        · have := b2 hbo; omega
        · omega)
      omega
    · have hm0 : m % 2 = 0 := by
        by_cases hmo : m % 2 = 1
        · have := h2 hmo; omega
        · omega
      have ho1 : o % 2 = 1 := by omega
      have e : (m + (2 ^ (w + 1) - o)) / 2 = m / 2 + (2 ^ w - 1 - o / 2) := by rw [hp]; omega
      have e2 : (m + (2 ^ (w + 1) - o)) % 2 = 1 ∧ o % 2 = 1 := by rw [hp]; omega
      rw [e, if_pos e2, cmp_and w _ _ hlo h1] at hx
      refine ⟨by omega, fun b hb hmb => by omega⟩
/-- the one before -/
theorem pvS_ok : ∀ w p o, o < 2 ^ w → subS p o = true → 0 < p → (p - 1 &&& o) < p ∧ ∀ b, subS b o = true → b < p → b ≤ (p - 1 &&& o) := by
  intro w
  induction w with
  | zero =>
    intro p o ho hs hp
    have := sub_le hs
    have : o < 1 := ho
    omega
  | succ w ih =>
    intro p o ho hs hp
    obtain ⟨h1, h2⟩ := sub_two hs
    rw [Nat.pow_succ] at ho
    have hlo : o / 2 < 2 ^ w := by omega
    have hx : (p - 1 &&& o) = 2 * ((p - 1) / 2 &&& o / 2) + (if (p - 1) % 2 = 1 ∧ o % 2 = 1 then 1 else 0) := and_two _ _
    by_cases hpo : p % 2 = 1
    · have e : (p - 1) / 2 = p / 2 := by omega
      rw [e, if_neg (by omega)] at hx
      have e3 : p / 2 &&& o / 2 = p / 2 := by
        apply Nat.eq_of_testBit_eq
        intro i
        rw [Nat.testBit_and]
        cases ha : (p / 2).testBit i with
        | false => rfl
        | true => rw [subS_iff.mp h1 i ha]; rfl
      rw [e3] at hx
      exact ⟨by omega, fun b _ hb => by omega⟩
    · have e : (p - 1) / 2 = p / 2 - 1 := by omega
      obtain ⟨g1, g2⟩ := ih (p / 2) (o / 2) hlo h1 (by omega)
      rw [e] at hx
      refine ⟨by split at hx <;> omega, fun b hb hbp => ?_⟩
      obtain ⟨b1, b2⟩ := sub_two hb
      have := g2 (b / 2) b1 (by omega)
      by_cases hb1 : b % 2 = 1
      · have := b2 hb1
        rw [if_pos (by omega)] at hx
        omega
      · split at hx <;> omega
/-- a walk through the subsets is a walk through all numbers that passes over the others -/
theorem itr_skip {α : Type} {g : Nat → α → α} {m n : Nat} {a : α} (h : m + 1 ≤ n) (hs : ∀ k, m < k → k < n → ∀ b, g k b = b) : itr g n a = g m (itr g m a) := by
  have : ∀ j, itr g (m + 1 + j) a = g m (itr g m a) ∨ n < m + 1 + j := by
    intro j
    induction j with
    | zero => exact Or.inl rfl
    | succ j ih =>
      by_cases hn : m + 1 + j < n
      · rcases ih with ih | ih
        · left
          have e : itr g (m + 1 + (j + 1)) a = g (m + 1 + j) (itr g (m + 1 + j) a) := rfl
          rw [e, ih]
          exact hs _ (by omega) hn _
        · omega
      · right; omega
  have := this (n - (m + 1))
  rw [show m + 1 + (n - (m + 1)) = n by omega] at this
  rcases this with h | h
  · exact h
  · omega
theorem n_next {m o : Nat} (ho : o < 2147483648) : (nI m - nI o) &&& nI o = nI (nxS 32 m o) := by
  have e : nI m - nI o = nI (m + (2 ^ 32 - o)) := by
    have h1 : nI (m + (2 ^ 32 - o)) + nI o = nI m := by
      rw [nI_add, show m + (2 ^ 32 - o) + o = m + 2 ^ 32 by omega]
      apply Int32.toBitVec_inj.mp
      rw [nI_bv, nI_bv]
      apply BitVec.eq_of_toNat_eq
      rw [BitVec.toNat_ofNat, BitVec.toNat_ofNat, Nat.add_mod_right]
    rw [← h1, Int32.add_sub_cancel]
  rw [e, n_and]
  rfl
/-- the lowest bit -/
def lowB (a : Nat) : Nat := a &&& (2 ^ 32 - a)
theorem n_low {a : Nat} (ha : 0 < a) (h : a < 2147483648) : nI a &&& -nI a = nI (lowB a) := by
  have e : -nI a = nI (2 ^ 32 - a) := by
    have h1 : nI (2 ^ 32 - a) + nI a = nI 0 := by
      rw [nI_add, show 2 ^ 32 - a + a = 2 ^ 32 by omega]
      decide +kernel
    have h2 : nI (2 ^ 32 - a) = nI 0 - nI a := by rw [← h1, Int32.add_sub_cancel]
    rw [h2]
    show -nI a = 0 - nI a
    rw [Int32.zero_sub]
  rw [e, n_and]
  rfl
