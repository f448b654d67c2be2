/-! THE RULE: what its parts come to -/
def isR (k : Nat) : Prop := k = 16 ∨ k = 22 ∨ k = 25 ∨ k = 28
def isTh (c : Int32) : Bool := decide (c = nI 105 ∨ c = nI 107 ∨ c = nI 109 ∨ c = nI 110 ∨ c = nI 113 ∨ c = nI 115 ∨ c = nI 116 ∨ c = nI 117 ∨ c = nI 119)
def jn (c x y : Int32) : Int32 := if c = nI 42 then x * y else if c = nI 43 then x + y else if c = nI 45 then x - y else if c = nI 60 then (if y ≤ x then nI 0 else nI 1) else if c = nI 61 then (if x = y then nI 1 else nI 0) else if c = nI 62 then (if x ≤ y then nI 0 else nI 1) else if y = nI 0 then nI 0 else x / y
abbrev sk : Type := Nat × (Nat → Int32)
def stp (env : Int32 → Int32) (part : Int32) (b : sk) : sk :=
  if part < nI 0 then
    if isTh (-part) = true then (b.1 + 1, upd b.2 b.1 (env (-part)))
    else if part = -nI 126 ∧ 1 ≤ b.1 then (b.1, upd b.2 (b.1 - 1) (-(b.2 (b.1 - 1))))
    else if 2 ≤ b.1 then (b.1 - 1, upd b.2 (b.1 - 2) (jn (-part) (b.2 (b.1 - 2)) (b.2 (b.1 - 1)))) else b
  else (b.1 + 1, upd b.2 b.1 part)
def runP (env : Int32 → Int32) (p : Nat → Int32) (n : Nat) (b : sk) : sk := itr (fun i b => stp env (p i) b) n b
theorem runP_s {env : Int32 → Int32} {p : Nat → Int32} {n : Nat} {b : sk} : runP env p (n + 1) b = stp env (p n) (runP env p n b) := rfl
theorem stp_le {env : Int32 → Int32} {part : Int32} {b : sk} : (stp env part b).1 ≤ b.1 + 1 := by
  unfold stp
  split
  · split
    · exact Nat.le_refl _
    · split
      · exact Nat.le_succ _
      · split
        · show b.1 - 1 ≤ b.1 + 1; omega
        · exact Nat.le_succ _
  · exact Nat.le_refl _
theorem runP_le {env : Int32 → Int32} {p : Nat → Int32} {n : Nat} {b : sk} : (runP env p n b).1 ≤ b.1 + n := by
  induction n with
  | zero => exact Nat.le_refl _
  | succ n ih =>
    rw [runP_s]
    have := stp_le (env := env) (part := p n) (b := runP env p n b)
    omega
def senO (T : aT) : Option Nat → Nat
  | none => 0
  | some x => tSen T x
/-- what a sign of a rule means -/
def envT (T : aT) (S : aS) (w : Nat) (c : Int32) : Int32 := if c = nI 105 then nI w else if c = nI 109 then nI (mis T S w) else if c = nI 110 then nI (lenO T (sH S w)) else if c = nI 113 then nI (sQ S w) else if c = nI 115 then nI (senO T (sH S w)) else if c = nI 116 then nI (tTe T w) else if c = nI 117 then nI (sU S w) else if c = nI 119 then nI (tWo T w) else nI (sm (sL S) 10)
section XR1
variable {d k kr w l B x sz : Nat} {s : mS} {T : aT} {S : aS} {c c1 c2 c3 : Int32}
theorem x_isThing : ev d 65 0 [.inl c] [] s = some (0, bI (isTh c), s) := by
  rw [E65_0]
  simp only [lit]
  by_cases h1 : c = nI 105
  · subst h1; rfl
  by_cases h2 : c = nI 107
  · subst h2; rfl
  by_cases h3 : c = nI 109
  · subst h3; rfl
  by_cases h4 : c = nI 110
  · subst h4; rfl
  by_cases h5 : c = nI 113
  · subst h5; rfl
  by_cases h6 : c = nI 115
  · subst h6; rfl
  by_cases h7 : c = nI 116
  · subst h7; rfl
  by_cases h8 : c = nI 117
  · subst h8; rfl
  by_cases h9 : c = nI 119
  · subst h9; rfl
  simp only [h1, h2, h3, h4, h5, h6, h7, h8, h9, if_false]
  have : isTh c = false := decide_eq_false (fun z => by
    rcases z with z | z | z | z | z | z | z | z | z
    · exact h1 z
    · exact h2 z
    · exact h3 z
    · exact h4 z
    · exact h5 z
    · exact h6 z
    · exact h7 z
    · exact h8 z
    · exact h9 z)
  rw [this]
  rfl
theorem x_join : ev d 67 0 [.inl c1, .inl c2, .inl c3] [] s = some (0, jn c1 c2 c3, s) := by
  rw [E67_0]
  unfold jn
  simp only [lit, E67_70, E67_81, E67_92, E67_116]
  by_cases h1 : c1 = nI 42
  · rw [if_pos h1, if_pos h1]
  by_cases h2 : c1 = nI 43
  · rw [if_neg h1, if_neg h1, if_pos h2, if_pos h2]
  by_cases h3 : c1 = nI 45
  · rw [if_neg h1, if_neg h1, if_neg h2, if_neg h2, if_pos h3, if_pos h3]
  rw [if_neg h1, if_neg h1, if_neg h2, if_neg h2, if_neg h3, if_neg h3]
  by_cases h4 : c1 = nI 60
  · rw [if_pos h4, if_pos h4]; split <;> rfl
  rw [if_neg h4, if_neg h4]
  by_cases h5 : c1 = nI 61
  · rw [if_pos h5, if_pos h5]
    by_cases h : c2 = c3
    · rw [if_pos h, if_neg (fun z => z h)]
    · rw [if_neg h, if_pos h]
  rw [if_neg h5, if_neg h5]
  by_cases h6 : c1 = nI 62
  · rw [if_pos h6, if_pos h6]; split <;> rfl
  rw [if_neg h6, if_neg h6]
  by_cases h : c3 = nI 0
  · simp only [h, if_true, if_false, not_true_eq_false, ite_not]
  · simp only [h, if_true, if_false, not_false_eq_true, ite_not]
theorem x_thing (ht : tOk T) (hT : XT T s) (ho : sOk T S B) (hk : isK k) (hc : XC T S (s (mRf k 1))) (hw : w < 8) (hx : sH S w = some x) : ev (d + 1) 124 0 [.inr k, .inl c, .inl (nI w)] [] s = some (0, envT T S w c, s) := by
  obtain ⟨h1, h2, -, -⟩ := wOk_s (ho.1 w) hx
  have hN := ht.2.1
  have hWw : isW S w = true := by unfold isW; rw [hx]; rfl
  have e1 := x_missing (d := d) hk hc hw
  have e2 := x_hasWord (d := d) ht (ho.1 w) hk hc hw
  have e3 := x_waited (d := d) hk hc hw
  have e4 := x_term (d := d) ht hT h1
  have e5 := x_shown (d := d) hk hc hw
  have e6 := x_worth (d := d) ht hT h1
  have e7 := x_leftInAll (d := d) hk hc
  have e8 := x_length (d := d) ht hT h2
  have e9 := x_sense (d := d) ht hT h2
  have ec := (hc.1 w hw).1
  rw [hx, oc_some] at ec
  rw [hWw, bI_t] at e2
  rw [E124_0 (hk0 := hk)]
  unfold envT
  rw [hx]
  simp (disch := omega) only [e1, e2, e3, e4, e5, e6, e7, Nat.zero_add, ec, e8, e9, E124_114, E124_169, lit, nI_add, pk_mul, n_sub, n_addneg, nle_t, nle_f, nlt_t, nlt_f, neq_t, neq_f, n_inb, n_ix, bnd_some, if_true, if_false, ite_tt, ite_ff, not_true_eq_false, not_false_eq_true, eq_self, false_or, or_false, true_or, or_true]
  show _ = some (0, (if c = nI 105 then nI w else if c = nI 109 then nI (mis T S w) else if c = nI 110 then nI (tLen T x) else if c = nI 113 then nI (sQ S w) else if c = nI 115 then nI (tSen T x) else if c = nI 116 then nI (tTe T w) else if c = nI 117 then nI (sU S w) else if c = nI 119 then nI (tWo T w) else nI (sm (sL S) 10)), s)
  by_cases h1 : c = nI 105
  · rw [if_pos h1, if_pos h1]
  by_cases h2 : c = nI 109
  · rw [if_neg h1, if_neg h1, if_pos h2, if_pos h2]
  rw [if_neg h1, if_neg h1, if_neg h2, if_neg h2]
  by_cases h3 : c = nI 110
  · rw [if_pos h3, if_pos h3]
  rw [if_neg h3, if_neg h3]
  by_cases h4 : c = nI 113
  · rw [if_pos h4, if_pos h4]
  rw [if_neg h4, if_neg h4]
  by_cases h5 : c = nI 115
  · rw [if_pos h5, if_pos h5]
  rw [if_neg h5, if_neg h5]
  by_cases h6 : c = nI 116
  · rw [if_pos h6, if_pos h6]
  rw [if_neg h6, if_neg h6]
  by_cases h7 : c = nI 117
  · rw [if_pos h7, if_pos h7]
  rw [if_neg h7, if_neg h7]
  by_cases h8 : c = nI 119
  · rw [if_pos h8, if_pos h8]
  rw [if_neg h8, if_neg h8]
/-- places of a rule and of a state are apart -/
theorem kr_dis (hr : isR kr) (hk : isK k) : mRf kr 3 ≠ mRf k 1 ∧ mRf kr 3 ≠ mRf kr 0 ∧ 15 < mRf kr 3 ∧ kr ≠ mRf kr 3 ∧ mRf k 2 ≠ mRf kr 0 ∧ mRf k 2 ≠ kr ∧ mRf k 2 ≠ mRf k 1 ∧ 15 < mRf k 2 ∧ mRf k 1 ≠ kr ∧ mRf k 1 ≠ mRf kr 0 ∧ mRf kr 3 ≠ mRf k 2 := by
  rcases hr with rfl | rfl | rfl | rfl <;> rcases hk with rfl | rfl <;> decide +kernel
theorem nlt0 {a : Nat} (h : a < 2147483648) : (nI a < nI 0) = False := nlt_f (Nat.zero_le _) h
/-- a rule read off its parts -/
theorem x_of (ht : tOk T) (hT : XT T s) (ho : sOk T S B) (hr : isR kr) (hk : isK k) (hc : XC T S (s (mRf k 1))) (hw : w < 8) (hx : sH S w = some x) (hsz : s kr 1 = nI sz) (h40 : sz ≤ 40) :
    ∃ f, ev (d + 1 + 1) 66 0 [.inr kr, .inr k, .inl (nI w), .inr 0, .inr 0, .inr 0] [] s = some (0, (if (runP (envT T S w) (s (mRf kr 0)) sz (0, s (mRf kr 3))).1 = 0 then nI 0 else (runP (envT T S w) (s (mRf kr 0)) sz (0, s (mRf kr 3))).2 0), setA s (mRf kr 3) f) := by
  obtain ⟨n1, n2, n3, n4, -⟩ := kr_dis hr hk
  have n1' := n1.symm
  have n2' := n2.symm
  rw [E66_0 (hk0 := hr) (hk1 := hk)]
  generalize hp : s (mRf kr 0) = p
  have key : ∀ n, n ≤ sz → ev (d + 1 + 1) 66 5 [.inr kr, .inr k, .inl (nI w), .inl (nI 0), .inl (nI 0), .inr 0] [] s = ev (d + 1 + 1) 66 5 [.inr kr, .inr k, .inl (nI w), .inl (nI (runP (envT T S w) p n (0, s (mRf kr 3))).1), .inl (nI n), .inr 0] [] (setA s (mRf kr 3) (runP (envT T S w) p n (0, s (mRf kr 3))).2) := by
    intro n
    induction n with
    | zero => intro _; show _ = ev _ _ _ _ _ (setA s (mRf kr 3) (s (mRf kr 3))); rw [setA_same]; rfl
    | succ n ih =>
      intro hn
      rw [ih (by omega)]
      have hle := runP_le (env := envT T S w) (p := p) (n := n) (b := (0, s (mRf kr 3)))
      rw [runP_s]
      generalize runP (envT T S w) p n (0, s (mRf kr 3)) = b at hle ⊢
      obtain ⟨t, g⟩ := b
      have hle : t ≤ n := by have : t ≤ 0 + n := hle; omega
      have hc1 : XC T S ((setA s (mRf kr 3) g) (mRf k 1)) := by rw [setA_ne n1']; exact hc
      have hth := x_thing (d := d) (c := -(p n)) ht (XT_set (f := g) hT n3) ho hk hc1 hw hx
      rw [E66_5 (hk0 := hr) (hk1 := hk)]
      unfold stp
      dsimp only
      simp (disch := omega) only [setA_ne n4, setA_ne n2', hsz, hp, lit, nI_add, pk_mul, n_sub, n_addneg, nle_t, nle_f, nlt_t, nlt_f, neq_t, neq_f, n_inb, n_ix, bnd_some, if_true, if_false, ite_tt, ite_ff, not_true_eq_false, not_false_eq_true, eq_self, false_or, or_false, true_or, or_true]
      by_cases hneg : p n < nI 0
      · rw [if_pos hneg, if_pos hneg]
        rw [x_isThing, bnd_some]
        cases hh : isTh (-p n) with
        | true => simp (disch := omega) only [bI_t, hth, up_set, setA_at, setA_twice, E66_148 (hk0 := hr) (hk1 := hk), lit, nI_add, pk_mul, n_sub, n_addneg, nle_t, nle_f, nlt_t, nlt_f, neq_t, neq_f, n_inb, n_ix, bnd_some, if_true, if_false, ite_tt, ite_ff, not_true_eq_false, not_false_eq_true, eq_self, false_or, or_false, true_or, or_true]
        | false =>
          simp (disch := omega) only [bI_f, Bool.false_eq_true, lit, nI_add, pk_mul, n_sub, n_addneg, nle_t, nle_f, nlt_t, nlt_f, neq_t, neq_f, n_inb, n_ix, bnd_some, if_true, if_false, ite_tt, ite_ff, not_true_eq_false, not_false_eq_true, eq_self, false_or, or_false, true_or, or_true]
          have common : ∀ a5 : Int32, a5 = p n → ¬ (p n = -nI 126 ∧ 1 ≤ t) → ev (d + 1 + 1) 66 112 [.inr kr, .inr k, .inl (nI w), .inl (nI t), .inl (nI n), .inl a5] [] (setA s (mRf kr 3) g) = ev (d + 1 + 1) 66 5 [.inr kr, .inr k, .inl (nI w), .inl (nI (if 2 ≤ t then (t - 1, upd g (t - 2) (jn (-p n) (g (t - 2)) (g (t - 1)))) else (t, g)).1), .inl (nI (n + 1)), .inr 0] [] (setA s (mRf kr 3) (if 2 ≤ t then (t - 1, upd g (t - 2) (jn (-p n) (g (t - 2)) (g (t - 1)))) else (t, g)).2) := by
            rintro a5 rfl -
            rw [E66_112 (hk0 := hr) (hk1 := hk)]
            by_cases h2 : 2 ≤ t
            · rw [if_pos h2]
              have e1 : t - 1 - 1 = t - 2 := by omega
              simp (disch := omega) only [x_join, up_set, setA_at, setA_twice, E66_148 (hk0 := hr) (hk1 := hk), e1, lit, nI_add, pk_mul, n_sub, n_addneg, nle_t, nle_f, nlt_t, nlt_f, neq_t, neq_f, n_inb, n_ix, bnd_some, if_true, if_false, ite_tt, ite_ff, not_true_eq_false, not_false_eq_true, eq_self, false_or, or_false, true_or, or_true]
            · rw [if_neg h2]
              simp (disch := omega) only [E66_148 (hk0 := hr) (hk1 := hk), lit, nI_add, pk_mul, n_sub, n_addneg, nle_t, nle_f, nlt_t, nlt_f, neq_t, neq_f, n_inb, n_ix, bnd_some, if_true, if_false, ite_tt, ite_ff, not_true_eq_false, not_false_eq_true, eq_self, false_or, or_false, true_or, or_true]
          by_cases h126 : p n = -nI 126
          · by_cases h1 : 1 ≤ t
            · rw [if_neg (not_not_intro h126), if_pos (show p n = -nI 126 ∧ 1 ≤ t from ⟨h126, h1⟩)]
              simp (disch := omega) only [up_set, setA_at, setA_twice, E66_148 (hk0 := hr) (hk1 := hk), lit, nI_add, pk_mul, n_sub, n_addneg, nle_t, nle_f, nlt_t, nlt_f, neq_t, neq_f, n_inb, n_ix, bnd_some, if_true, if_false, ite_tt, ite_ff, not_true_eq_false, not_false_eq_true, eq_self, false_or, or_false, true_or, or_true]
            · rw [if_neg (not_not_intro h126), if_neg (show ¬ (p n = -nI 126 ∧ 1 ≤ t) from fun z => h1 z.2)]
              simp (disch := omega) only [lit, nI_add, pk_mul, n_sub, n_addneg, nle_t, nle_f, nlt_t, nlt_f, neq_t, neq_f, n_inb, n_ix, bnd_some, if_true, if_false, ite_tt, ite_ff, not_true_eq_false, not_false_eq_true, eq_self, false_or, or_false, true_or, or_true]
              exact common _ rfl (fun z => h1 z.2)
          · rw [if_pos h126, if_neg (show ¬ (p n = -nI 126 ∧ 1 ≤ t) from fun z => h126 z.1)]
            exact common _ rfl (fun z => h126 z.1)
      · rw [if_neg hneg, if_neg hneg]
        simp (disch := omega) only [up_set, setA_at, setA_twice, E66_148 (hk0 := hr) (hk1 := hk), lit, nI_add, pk_mul, n_sub, n_addneg, nle_t, nle_f, nlt_t, nlt_f, neq_t, neq_f, n_inb, n_ix, bnd_some, if_true, if_false, ite_tt, ite_ff, not_true_eq_false, not_false_eq_true, eq_self, false_or, or_false, true_or, or_true]
  have hle := runP_le (env := envT T S w) (p := p) (n := sz) (b := (0, s (mRf kr 3)))
  refine ⟨(runP (envT T S w) p sz (0, s (mRf kr 3))).2, ?_⟩
  rw [lit 0, key sz (Nat.le_refl _), E66_5 (hk0 := hr) (hk1 := hk)]
  generalize runP (envT T S w) p sz (0, s (mRf kr 3)) = b at hle ⊢
  obtain ⟨t, g⟩ := b
  have hle : t ≤ sz := by have : t ≤ 0 + sz := hle; omega
  simp (disch := omega) only [setA_ne n4, hsz, E66_154 (hk0 := hr), lit, nI_add, pk_mul, n_sub, n_addneg, nle_t, nle_f, nlt_t, nlt_f, neq_t, neq_f, n_inb, n_ix, bnd_some, if_true, if_false, ite_tt, ite_ff, not_true_eq_false, not_false_eq_true, eq_self, false_or, or_false, true_or, or_true]
  by_cases h0 : t = 0
  · subst h0
    simp (disch := omega) only [E66_168, lit, nI_add, pk_mul, n_sub, n_addneg, nle_t, nle_f, nlt_t, nlt_f, neq_t, neq_f, n_inb, n_ix, bnd_some, if_true, if_false, ite_tt, ite_ff, not_true_eq_false, not_false_eq_true, eq_self, false_or, or_false, true_or, or_true]
  · simp (disch := omega) only [E66_168, h0, setA_at, lit, nI_add, pk_mul, n_sub, n_addneg, nle_t, nle_f, nlt_t, nlt_f, neq_t, neq_f, n_inb, n_ix, bnd_some, if_true, if_false, ite_tt, ite_ff, not_true_eq_false, not_false_eq_true, eq_self, false_or, or_false, true_or, or_true]
end XR1
