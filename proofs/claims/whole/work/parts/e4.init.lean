/-! WHERE ALL BEGINS: the first rules, and the first world -/
section BE6
variable {s : mS} {k0 d : Nat} {a1 : Int32}
def beK (k0 : Nat) : Prop := k0 = 16 ∨ k0 = 19 ∨ k0 = 22 ∨ k0 = 25 ∨ k0 = 28
theorem be_ne (h : beK k0) : ¬ mRf k0 0 = k0 := by
  rcases h with rfl | rfl | rfl | rfl | rfl <;> decide +kernel
theorem up_same {q j : Nat} {v : Int32} : up s q j v q j = v := up_at
theorem up_oth {q j k i : Nat} {v : Int32} (h : ¬ (k = q ∧ i = j)) : up s q j v k i = s k i := by
  show setA s q (upd (s q) j v) k i = s k i
  unfold setA
  by_cases hk : k = q
  · subst hk
    rw [if_pos rfl]
    unfold upd
    rw [if_neg (fun z => h ⟨rfl, z⟩)]
  · rw [if_neg hk]
theorem emit_w (hk : beK k0) {n : Nat} (hn : n < 40) (h : s k0 1 = nI n) : ew d 58 0 [.inr k0, .inl a1] [] s = some (0, 0, up (up s (mRf k0 0) n a1) k0 1 (nI (n + 1))) := by
  rw [E58_0w hk, h, if_neg (by rw [lit]; exact nI_ge hn (by decide)), if_pos (inb_nI hn (by decide)), E58_32w, ix_nI (by omega), up_oth (fun z => be_ne hk z.1.symm), h, show (1 : Int32) = nI 1 from rfl, nI_add]
/-- a rule of one sign -/
theorem be_w (hk : beK k0) (h7 : ¬ a1 = 107) : ew (d + 2) 53 0 [.inr k0, .inl a1, .inl 0] [] s = some (0, 0, up (up (up (up (up s k0 1 0) k0 2 0) (mRf k0 0) 0 (-a1)) k0 1 (nI 1)) k0 2 0) := by
  have e1 : up (up s k0 1 0) k0 2 0 k0 1 = nI 0 := by rw [up_oth (by omega), up_same]; rfl
  rw [E53_0w hk, E57_0w hk, bnd_some, E59_0w hk, emit_w hk (by decide) e1, bnd_some, if_pos h7, E59_22w hk]
  have e2 : up (up (up (up s k0 1 0) k0 2 0) (mRf k0 0) 0 (-a1)) k0 1 (nI (0 + 1)) k0 2 = 0 := by
    rw [up_oth (by omega), up_oth (fun z => be_ne hk z.1.symm), up_same]
  rw [e2, if_pos (Or.inl (by decide)), bnd_some, if_pos rfl, E53_19w]
  rfl
/-- a rule of one sign, negated -/
theorem be_w2 (hk : beK k0) (h7 : ¬ a1 = 107) : ew (d + 2) 53 0 [.inr k0, .inl a1, .inl 1] [] s = some (0, 0, up (up (up (up (up (up (up s k0 1 0) k0 2 0) (mRf k0 0) 0 (-a1)) k0 1 (nI 1)) k0 2 0) (mRf k0 0) 1 (-126)) k0 1 (nI 2)) := by
  have e1 : up (up s k0 1 0) k0 2 0 k0 1 = nI 0 := by rw [up_oth (by omega), up_same]; rfl
  rw [E53_0w hk, E57_0w hk, bnd_some, E59_0w hk, emit_w hk (by decide) e1, bnd_some, if_pos h7, E59_22w hk]
  have e2 : up (up (up (up s k0 1 0) k0 2 0) (mRf k0 0) 0 (-a1)) k0 1 (nI (0 + 1)) k0 2 = 0 := by
    rw [up_oth (by omega), up_oth (fun z => be_ne hk z.1.symm), up_same]
  rw [e2, if_pos (Or.inl (by decide)), bnd_some, if_neg (by decide)]
  have e3 : up (up (up (up (up s k0 1 0) k0 2 0) (mRf k0 0) 0 (-a1)) k0 1 (nI 1)) k0 2 (0 ||| 0) k0 1 = nI 1 := by rw [up_oth (by omega), up_same]
  rw [show (nI (0 + 1)) = nI 1 from rfl, emit_w hk (by decide) e3, bnd_some, E53_19w]
  rfl
end BE6
/-- the class's places when it is made, its rules not yet set -/
def s66 (k : Nat) : Nat → Int32 := if k = 2 then (fun j => if j = 4 then -nI 1 else 0) else if k = 37 then nwC 8 else if k = 41 then nwC 8 else fun _ => 0
def upB (s : mS) (k0 : Nat) (a : Int32) : mS := up (up (up (up (up s k0 1 0) k0 2 0) (mRf k0 0) 0 (-a)) k0 1 (nI 1)) k0 2 0
def upB2 (s : mS) (k0 : Nat) (a : Int32) : mS := up (up (upB s k0 a) (mRf k0 0) 1 (-126)) k0 1 (nI 2)
def sX1 : mS := upB s66 16 119
def sX2 : mS := upB sX1 22 119
def sX3 : mS := upB2 sX2 25 109
def sX : mS := upB sX3 28 113
/-- all places when the law's loop begins -/
def sB (k : Nat) : Nat → Int32 := if k = 67 then (fun j => if j = 28 then -nI 1 else 0) else sX k
def A00 : aA := ((0, fun _ => 0, fun _ => 0, fun _ _ => 0, 0, fun _ => 0, fun _ => 0), (fun _ => 0, fun _ => none, fun _ _ => 0, fun _ => 0, fun _ => 0, 0), (0, fun _ => 0), [], fun e => e (nI 119), [], fun _ => none, [])
theorem rv_one {f : Nat → Int32} {a : Int32} (h : f 0 = -a) (h1 : -a < nI 0) (h2 : isTh a = true) (h3 : -(-a) = a) : ∀ env g, rv env f 1 g = env a := by
  intro env g
  have e : runP env f 1 (0, g) = (1, upd g 0 (env a)) := by
    show stp env (f 0) (0, g) = _
    unfold stp
    rw [h, if_pos h1, h3, if_pos h2]
  unfold rv
  rw [e, if_neg (show ¬ (1 : Nat) = 0 by decide)]
  show upd g 0 (env a) 0 = env a
  exact if_pos rfl
theorem rv_two {f : Nat → Int32} {a : Int32} (h : f 0 = -a) (h1 : -a < nI 0) (h2 : isTh a = true) (h3 : -(-a) = a) (h4 : f 1 = -126) : ∀ env g, rv env f 2 g = -(env a) := by
  intro env g
  have e : runP env f 1 (0, g) = (1, upd g 0 (env a)) := by
    show stp env (f 0) (0, g) = _
    unfold stp
    rw [h, if_pos h1, h3, if_pos h2]
  have e2 : runP env f 2 (0, g) = (1, upd (upd g 0 (env a)) 0 (-(env a))) := by
    rw [runP_s, e, h4]
    unfold stp
    rw [if_pos (by decide), if_neg (by decide +kernel), if_pos ⟨by decide, Nat.le_refl 1⟩]
    have : upd g 0 (env a) 0 = env a := if_pos rfl
    show (1, upd (upd g 0 (env a)) 0 (-(upd g 0 (env a) 0))) = _
    rw [this]
  unfold rv
  rw [e2, if_neg (show ¬ (1 : Nat) = 0 by decide)]
  show upd (upd g 0 (env a)) 0 (-(env a)) 0 = -(env a)
  exact if_pos rfl
theorem XR_one {s : mS} {kr : Nat} {a : Int32} (h0 : s kr 1 = nI 1) (h9 : s kr 2 = nI 0) (h : s (mRf kr 0) 0 = -a) (h1 : -a < nI 0) (h2 : isTh a = true) (h3 : -(-a) = a) (h4 : a ≠ nI 107) : XR (fun e => e a) kr s :=
  ⟨1, false, by decide, h0, rv_one h h1 h2 h3, h9, fun _ e1 e2 he => he a h2 h4⟩
theorem nwC_lo {j : Nat} (h : j < 8) : nwC 8 j = -nI 1 := if_pos h
theorem nwC_hi {j : Nat} (h : 8 ≤ j) : nwC 8 j = nI 0 := if_neg (by omega)
theorem LI_first : LI 0 sB := by
  have c37 : sB 37 = nwC 8 := rfl
  have noT : ∀ {P : Prop} {x : Nat}, x < 0 → P := fun h => absurd h (Nat.not_lt_zero _)
  have hA : AOk A00 0 := by
    refine ⟨⟨Nat.zero_le 12, Nat.zero_le 8, fun x hx => noT hx, fun x hx => noT hx⟩, ⟨fun w => ⟨fun _ => rfl, rfl, rfl⟩, fun l _ => Nat.zero_le 20, Nat.le_refl 0⟩, ?_, ?_, Nat.zero_le 12, Nat.zero_le 80, fun i => (by decide : 0 < 256), Nat.zero_le 16, Nat.zero_le 12, ?_⟩
    · intro U hU
      exact (List.not_mem_nil (show U ∈ ([] : List aS) from hU)).elim
    · intro i U hU
      cases (show (none : Option aS) = some U from hU)
    · intro c hc
      exact (List.not_mem_nil (show c ∈ ([] : List (Nat × Nat × Nat)) from hc)).elim
  refine ⟨A00, ⟨hA, ⟨?_, ?_, ?_, ?_⟩, ?_, ?_, ?_, ?_, ?_, ?_, ?_, ?_⟩, ?_, ?_⟩
  · intro w hw
    rw [c37]
    exact ⟨nwC_lo hw, nwC_hi (by omega), nwC_hi (by omega), nwC_hi (by omega), fun l _ => nwC_hi (by omega)⟩
  · intro l _
    rw [c37]
    exact nwC_hi (by omega)
  · rw [c37]; exact nwC_hi (by decide)
  · rw [c37]; exact nwC_hi (by decide)
  · exact ⟨rfl, rfl, fun x hx => absurd hx (Nat.not_lt_zero _), fun x hx => absurd hx (Nat.not_lt_zero _)⟩
  · intro l _; rfl
  · exact ⟨rfl, fun i hi => absurd hi (Nat.not_lt_zero _)⟩
  · exact ⟨rfl, fun i hi => absurd hi (Nat.not_lt_zero _)⟩
  · refine ⟨XR_one (by decide +kernel) (by decide +kernel) (by decide +kernel) (by decide +kernel) (by decide +kernel) (by decide +kernel) (by decide +kernel), XR_one (by decide +kernel) (by decide +kernel) (by decide +kernel) (by decide +kernel) (by decide +kernel) (by decide +kernel) (by decide +kernel), ?_, XR_one (by decide +kernel) (by decide +kernel) (by decide +kernel) (by decide +kernel) (by decide +kernel) (by decide +kernel) (by decide +kernel)⟩
    exact ⟨2, false, by decide, by decide +kernel, rv_two (a := nI 109) (by decide +kernel) (by decide +kernel) (by decide +kernel) (by decide +kernel) (by decide +kernel), by decide +kernel, fun _ e1 e2 he => by
      show -(e1 (nI 109)) = -(e2 (nI 109))
      rw [he (nI 109) (by decide +kernel) (by decide +kernel)]⟩
  · exact ⟨0, by decide, rfl, rfl, fun i U hi => by cases (show (none : Option aS) = some U from hi)⟩
  · exact ⟨by decide +kernel, fun i U _ hU => by cases (show (none : Option aS) = some U from hU)⟩
  · exact ⟨rfl, fun i c hi => by cases (show (none : Option (Nat × Nat × Nat)) = some c from hi)⟩
  · exact ⟨rfl, fun l _ => rfl⟩
  · refine ⟨⟨rfl, rfl, fun x hx => absurd hx (Nat.not_lt_zero _), fun x hx => absurd hx (Nat.not_lt_zero _)⟩, ⟨fun x hx => absurd hx (Nat.not_lt_zero _), fun l _ => rfl, rfl⟩, ⟨rfl, fun i hi => absurd hi (Nat.not_lt_zero _)⟩, ⟨rfl, fun i hi => absurd hi (Nat.not_lt_zero _)⟩, ⟨rfl, (0, fun _ => 0), rfl, fun i hi => absurd hi (Nat.not_lt_zero _), fun i => (by decide : 0 < 256), by decide, rfl⟩, ⟨rfl, fun i U hi => by cases (show (none : Option aS) = some U from hi)⟩, ⟨0, Nat.le_refl 0, rfl, fun i _ => ⟨Or.inl rfl, ⟨0, Nat.le_refl 0, rfl, ⟨fun h => absurd rfl h, fun h => absurd (show nI 0 = nI 1 from h.1) (by decide)⟩⟩, fun U hU => by cases (show (none : Option aS) = some U from hU)⟩⟩, ⟨rfl, fun i c hi => by cases (show (none : Option (Nat × Nat × Nat)) = some c from hi)⟩⟩
