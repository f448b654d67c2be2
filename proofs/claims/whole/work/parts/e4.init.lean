/-! WHERE ALL BEGINS: the first rules, and the first world -/
section BE6
variable {s : mS} {k0 d : Nat} {a1 : Int32}
def beK (k0 : Nat) : Prop := k0 = 16 ∨ k0 = 19 ∨ k0 = 22 ∨ k0 = 25 ∨ k0 = 28
theorem be_ne (h : beK k0) : ¬ mRf k0 0 = k0 := by
  rcases h with rfl | rfl | rfl | rfl | rfl <;> decide +kernel
theorem up_same {q j : Nat} {v : Int32} : up s q j v q j = v := up_at
theorem up_oth {q j k i : Nat} {v : Int32} (h : ¬ (k = q ∧ i = j)) : up s q j v k i = s k i := by
  show setA s q (upd (s q) j v) k i = s k i
  unfold setA
  by_cases hk : k = q
  · subst hk
    rw [if_pos rfl]
    unfold upd
    rw [if_neg (fun z => h ⟨rfl, z⟩)]
  · rw [if_neg hk]
theorem emit_w (hk : beK k0) {n : Nat} (hn : n < 40) (h : s k0 1 = nI n) : ew d 58 0 [.inr k0, .inl a1] [] s = some (0, 0, up (up s (mRf k0 0) n a1) k0 1 (nI (n + 1))) := by
  rw [E58_0w hk, h, if_neg (by rw [lit]; exact nI_ge hn (by decide)), if_pos (inb_nI hn (by decide)), E58_32w, ix_nI (by omega), up_oth (fun z => be_ne hk z.1.symm), h, show (1 : Int32) = nI 1 from rfl, nI_add]
/-- a rule of one sign -/
theorem be_w (hk : beK k0) (h7 : ¬ a1 = 107) : ew (d + 2) 53 0 [.inr k0, .inl a1, .inl 0] [] s = some (0, 0, up (up (up (up (up s k0 1 0) k0 2 0) (mRf k0 0) 0 (-a1)) k0 1 (nI 1)) k0 2 0) := by
  have e1 : up (up s k0 1 0) k0 2 0 k0 1 = nI 0 := by rw [up_oth (by omega), up_same]; rfl
  rw [E53_0w hk, E57_0w hk, bnd_some, E59_0w hk, emit_w hk (by decide) e1, bnd_some, if_pos h7, E59_22w hk]
  have e2 : up (up (up (up s k0 1 0) k0 2 0) (mRf k0 0) 0 (-a1)) k0 1 (nI (0 + 1)) k0 2 = 0 := by
    rw [up_oth (by omega), up_oth (fun z => be_ne hk z.1.symm), up_same]
  rw [e2, if_pos (Or.inl (by decide)), bnd_some, if_pos rfl, E53_19w]
  rfl
/-- a rule of one sign, negated -/
theorem be_w2 (hk : beK k0) (h7 : ¬ a1 = 107) : ew (d + 2) 53 0 [.inr k0, .inl a1, .inl 1] [] s = some (0, 0, up (up (up (up (up (up (up s k0 1 0) k0 2 0) (mRf k0 0) 0 (-a1)) k0 1 (nI 1)) k0 2 0) (mRf k0 0) 1 (-126)) k0 1 (nI 2)) := by
  have e1 : up (up s k0 1 0) k0 2 0 k0 1 = nI 0 := by rw [up_oth (by omega), up_same]; rfl
  rw [E53_0w hk, E57_0w hk, bnd_some, E59_0w hk, emit_w hk (by decide) e1, bnd_some, if_pos h7, E59_22w hk]
  have e2 : up (up (up (up s k0 1 0) k0 2 0) (mRf k0 0) 0 (-a1)) k0 1 (nI (0 + 1)) k0 2 = 0 := by
    rw [up_oth (by omega), up_oth (fun z => be_ne hk z.1.symm), up_same]
  rw [e2, if_pos (Or.inl (by decide)), bnd_some, if_neg (by decide)]
  have e3 : up (up (up (up (up s k0 1 0) k0 2 0) (mRf k0 0) 0 (-a1)) k0 1 (nI 1)) k0 2 (0 ||| 0) k0 1 = nI 1 := by rw [up_oth (by omega), up_same]
  rw [show (nI (0 + 1)) = nI 1 from rfl, emit_w hk (by decide) e3, bnd_some, E53_19w]
  rfl
end BE6
