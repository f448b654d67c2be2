/-! A WEEK -/
theorem n_andn (a b : Nat) : nI a &&& (nI b ^^^ -nI 1) = nI (a &&& (a ^^^ b)) := by
  rw [← n_and, ← n_xor]
  apply Int32.toBitVec_inj.mp
  rw [Int32.toBitVec_and, Int32.toBitVec_and, Int32.toBitVec_xor, Int32.toBitVec_xor]
  have h1 : (-nI 1).toBitVec = BitVec.allOnes 32 := by decide +kernel
  rw [h1]
  apply BitVec.eq_of_getLsbD_eq
  intro i hi
  simp only [BitVec.getLsbD_and, BitVec.getLsbD_xor, BitVec.getLsbD_allOnes, hi, decide_true]
  cases (nI a).toBitVec.getLsbD i <;> cases (nI b).toBitVec.getLsbD i <;> rfl
theorem bts_del {f g : Nat → Bool} {n i : Nat} (hg : ∀ j, j < n → g j = (f j && !decide (j = i))) : bts f n &&& (bts f n ^^^ 2 ^ i) = bts g n := by
  apply Nat.eq_of_testBit_eq
  intro j
  rw [Nat.testBit_and, Nat.testBit_xor, bts_bit, bts_bit, Nat.testBit_two_pow]
  by_cases hj : j < n
  · rw [hg j hj]
    have e : decide (i = j) = decide (j = i) := by
      by_cases h : i = j
      · simp [h]
      · have h' : ¬ j = i := fun z => h z.symm
        simp [h, h']
    rw [e]
    simp only [hj, decide_true, Bool.true_and]
    cases f j <;> cases decide (j = i) <;> rfl
  · simp [hj]
def rv (env : Int32 → Int32) (p : Nat → Int32) (sz : Nat) (g : Nat → Int32) : Int32 := if (runP env p sz (0, g)).1 = 0 then nI 0 else (runP env p sz (0, g)).2 0
abbrev aR : Type := (Int32 → Int32) → Int32
def igK (φ : aR) : Prop := ∀ e1 e2 : Int32 → Int32, (∀ c, isTh c = true → c ≠ nI 107 → e1 c = e2 c) → φ e1 = φ e2
/-- a rule's parts come to φ -/
def XR (φ : aR) (kr : Nat) (s : mS) : Prop := ∃ (sz : Nat) (b : Bool), sz ≤ 40 ∧ s kr 1 = nI sz ∧ (∀ env g, rv env (s (mRf kr 0)) sz g = φ env) ∧ s kr 2 = bI b ∧ (b = false → igK φ)
/-- the first of those with p that has the greatest v -/
def fgs (p : Nat → Bool) (v : Nat → Int32) (w : Nat) (b : Option Nat) : Option Nat := if p w = true then (match b with
  | none => some w
  | some x => if v w ≤ v x then some x else some w) else b
def fg (p : Nat → Bool) (v : Nat → Int32) (n : Nat) : Option Nat := itr (fgs p v) n none
theorem fg_s {p : Nat → Bool} {v : Nat → Int32} {n : Nat} : fg p v (n + 1) = fgs p v n (fg p v n) := rfl
theorem fg_lt {p : Nat → Bool} {v : Nat → Int32} {n : Nat} : ∀ x, fg p v n = some x → x < n ∧ p x = true := by
  induction n with
  | zero => intro x h; exact absurd h (by intro z; cases z)
  | succ n ih =>
    intro x h
    rw [fg_s] at h
    unfold fgs at h
    by_cases hp : p n = true
    · rw [if_pos hp] at h
      cases hb : fg p v n with
      | none => rw [hb] at h; cases h; exact ⟨by omega, hp⟩
      | some y =>
        rw [hb] at h
        have h : (if v n ≤ v y then some y else some n) = some x := h
        by_cases hv : v n ≤ v y
        · rw [if_pos hv] at h; cases h; have := ih _ hb; exact ⟨Nat.lt_succ_of_lt this.1, this.2⟩
        · rw [if_neg hv] at h; cases h; exact ⟨by omega, hp⟩
    · rw [if_neg hp] at h
      have := ih x h; exact ⟨Nat.lt_succ_of_lt this.1, this.2⟩
theorem fg_cong {p : Nat → Bool} {v v' : Nat → Int32} {n : Nat} (h : ∀ i, i < n → p i = true → v i = v' i) : fg p v n = fg p v' n := by
  induction n with
  | zero => exact (show (none : Option Nat) = none from rfl)
  | succ n ih =>
    have ih := ih (fun i hi => h i (by omega))
    rw [fg_s, fg_s, ← ih]
    unfold fgs
    by_cases hp : p n = true
    · rw [if_pos hp, if_pos hp]
      cases hb : fg p v n with
      | none => rfl
      | some y =>
        have hy := fg_lt y hb
        show (if v n ≤ v y then some y else some n) = (if v' n ≤ v' y then some y else some n)
        rw [h n (by omega) hp, h y (by omega) hy.2]
    · rw [if_neg hp, if_neg hp]
theorem fg_none {p : Nat → Bool} {v : Nat → Int32} {n : Nat} : fg p v n = none ↔ ∀ i, i < n → p i = false := by
  induction n with
  | zero => exact ⟨fun _ i hi => by omega, fun _ => rfl⟩
  | succ n ih =>
    rw [fg_s]
    unfold fgs
    constructor
    · intro h
      by_cases hp : p n = true
      · rw [if_pos hp] at h
        cases hb : fg p v n with
        | none => rw [hb] at h; cases h
        | some y =>
          rw [hb] at h
          have h : (if v n ≤ v y then some y else some n) = none := h
          split at h <;> cases h
      · rw [if_neg hp] at h
        intro i hi
        by_cases hin : i = n
        · subst hin; simpa using hp
        · exact ih.mp h i (by omega)
    · intro h
      rw [if_neg (by rw [h n (by omega)]; simp)]
      exact ih.mpr (fun i hi => h i (by omega))
def notD (p : Nat → Bool) (done : Nat → Bool) : Nat → Bool := fun w => p w && !done w
def pickW (T : aT) (φ : aR) (S : aS) (done : Nat → Bool) : Option Nat := fg (notD (isQ T S) done) (fun w => φ (envT T S w)) 8
/-- turn by turn -/
def trn (T : aT) (φ : aR) : Nat → (Nat → Bool) → aS → Nat → aS × Nat
  | 0, _, S, c => (S, c)
  | n + 1, done, S, c => match pickW T φ S done with
    | none => (S, c)
    | some w => trn T φ n (fun j => done j || decide (j = w)) (takeW T S w) (c + if mis T (takeW T S w) w = 0 then 1 else 0)
def expS (T : aT) (S : aS) (w : Nat) : aS := if isU T S w = true ∧ tTe T w ≤ sU S w then bringW S w else S
def expW (T : aT) (S : aS) : aS := itr (fun w S => expS T S w) 8 S
def ageN (T : aT) (S : aS) (n : Nat) : aS := (sL S, sH S, sG S, fun w => if w < n ∧ isU T S w = false ∧ isQ T S w = true then sQ S w + 1 else sQ S w, fun w => if w < n ∧ isU T S w = true then sU S w + 1 else sU S w, sK S)
def ageW (T : aT) (S : aS) : aS := (sL S, sH S, sG S, sQ (ageN T S 8), sU (ageN T S 8), sK S + 1)
def wkR (T : aT) (φ : aR) (S : aS) : aS × Nat := trn T φ 8 (fun _ => false) (expW T S) 0
def wkS (T : aT) (φ : aR) (S : aS) : aS := ageW T (wkR T φ S).1
section XWK
variable {d k kr w l B x sz : Nat} {s s' : mS} {T : aT} {S : aS} {φ : aR}
theorem XT_eqx {P : List Nat} (hT : XT T s) (h : Eqx P s s') (hp : ∀ a ∈ P, 15 < a) : XT T s' := by
  have e : ∀ a, a ≤ 15 → s' a = s a := fun a ha => h a (fun z => absurd (hp a z) (by omega))
  obtain ⟨h1, h2, h3, h4⟩ := hT
  refine ⟨by rw [e _ (by omega)]; exact h1, by rw [e _ (by omega)]; exact h2, fun x hx => ?_, fun w hw => ?_⟩
  · rw [e _ (by omega), e _ (by omega), e _ (by omega), e _ (by omega)]; exact h3 x hx
  · rw [e _ (by omega), e _ (by omega)]; exact h4 w hw
theorem XR_eq (h : XR φ kr s) (e1 : s' kr = s kr) (e2 : s' (mRf kr 0) = s (mRf kr 0)) : XR φ kr s' := by
  unfold XR at h ⊢
  rw [e1, e2]; exact h
theorem x_of2 (ht : tOk T) (hT : XT T s) (ho : sOk T S B) (hr : isR kr) (hR : XR φ kr s) (hk : isK k) (hc : XC T S (s (mRf k 1))) (hw : w < 8) (hx : sH S w = some x) :
    ∃ s', ev (d + 1 + 1) 66 0 [.inr kr, .inr k, .inl (nI w), .inr 0, .inr 0, .inr 0] [] s = some (0, φ (envT T S w), s') ∧ Eqx [mRf kr 3] s s' := by
  obtain ⟨sz, b, h40, hsz, hv, -⟩ := hR
  obtain ⟨f, e⟩ := x_of (d := d) ht hT ho hr hk hc hw hx hsz h40
  exact ⟨_, e.trans (congrArg (fun v => some (0, v, _)) (hv _ _)), Eqx.rf.set (by simp)⟩
theorem x_readsLeft {b : Bool} (hr : isR kr) (h : s kr 2 = bI b) : ev d 55 0 [.inr kr] [] s = some (0, bI b, s) := by
  rw [E55_0 (hk0 := hr), h]
  cases b <;> rfl
theorem takeL_ne {w' : Nat} (h : w' ≠ w) : sG (takeL T S w l) w' = sG S w' := by
  funext l'
  unfold takeL
  rw [mvS_G, if_neg (fun z => h z.1)]
theorem takeW_H : sH (takeW T S w) = sH S := by
  have : ∀ n, sH (itr (fun l S => takeL T S w l) n S) = sH S := by
    intro n
    induction n with
    | zero => rfl
    | succ n ih => exact ih
  exact this 10
theorem takeW_Q : sQ (takeW T S w) = sQ S ∧ sU (takeW T S w) = sU S ∧ sK (takeW T S w) = sK S := by
  have : ∀ n, sQ (itr (fun l S => takeL T S w l) n S) = sQ S ∧ sU (itr (fun l S => takeL T S w l) n S) = sU S ∧ sK (itr (fun l S => takeL T S w l) n S) = sK S := by
    intro n
    induction n with
    | zero => exact ⟨rfl, rfl, rfl⟩
    | succ n ih => exact ih
  exact this 10
theorem takeW_G {w' : Nat} (h : w' ≠ w) : sG (takeW T S w) w' = sG S w' := by
  have : ∀ n, sG (itr (fun l S => takeL T S w l) n S) w' = sG S w' := by
    intro n
    induction n with
    | zero => rfl
    | succ n ih => exact (takeL_ne h).trans ih
  exact this 10
theorem takeW_mis {w' : Nat} (h : w' ≠ w) : mis T (takeW T S w) w' = mis T S w' := by
  unfold mis hgs
  rw [takeW_H, takeW_G h]
theorem takeW_env {w' : Nat} (h : w' ≠ w) (hg : igK φ) : φ (envT T (takeW T S w) w') = φ (envT T S w') := by
  refine hg _ _ (fun c hc h7 => ?_)
  unfold envT
  rw [takeW_mis h, takeW_H, takeW_Q.1, takeW_Q.2.1]
  have hc := of_decide_eq_true hc
  by_cases h1 : c = nI 105
  · rw [if_pos h1, if_pos h1]
  by_cases h2 : c = nI 109
  · rw [if_neg h1, if_neg h1, if_pos h2, if_pos h2]
  rw [if_neg h1, if_neg h1, if_neg h2, if_neg h2]
  by_cases h3 : c = nI 110
  · rw [if_pos h3, if_pos h3]
  rw [if_neg h3, if_neg h3]
  by_cases h4 : c = nI 113
  · rw [if_pos h4, if_pos h4]
  rw [if_neg h4, if_neg h4]
  by_cases h5 : c = nI 115
  · rw [if_pos h5, if_pos h5]
  rw [if_neg h5, if_neg h5]
  by_cases h6 : c = nI 116
  · rw [if_pos h6, if_pos h6]
  rw [if_neg h6, if_neg h6]
  by_cases h8 : c = nI 117
  · rw [if_pos h8, if_pos h8]
  rw [if_neg h8, if_neg h8]
  by_cases h9 : c = nI 119
  · rw [if_pos h9, if_pos h9]
  exfalso
  rcases hc with z | z | z | z | z | z | z | z | z
  · exact h1 z
  · exact h7 z
  · exact h2 z
  · exact h3 z
  · exact h4 z
  · exact h5 z
  · exact h6 z
  · exact h8 z
  · exact h9 z
theorem fgs_w {p : Nat → Bool} {v : Nat → Int32} {n : Nat} {b : Option Nat} (h : p n = false) : fgs p v n b = b := if_neg (by rw [h]; simp)
theorem x_fg {p : Nat → Bool} (hk : isK k) : ev (d + 1) 127 0 [.inr k, .inl (nI (bts p 8)), .inr 0, .inr 0] [] s = some (0, nI ((fg p (s (mRf k 2)) 8).getD 0), s) := by
  have hlt := bts_lt8 p (n := 8) (by omega)
  rw [E127_0 (hk0 := hk)]
  have key : ∀ n, n ≤ 8 → ev (d + 1) 127 4 [.inr k, .inl (nI (bts p 8)), .inl (-nI 1), .inl (nI 0)] [] s = ev (d + 1) 127 4 [.inr k, .inl (nI (bts p 8)), .inl (oc (fg p (s (mRf k 2)) n)), .inl (nI n)] [] s := by
    intro n
    induction n with
    | zero => intro _; rfl
    | succ n ih =>
      intro hn
      have hp : (bts p 8).testBit n = p n := by rw [bts_bit]; simp; intro; omega
      rw [ih (by omega), E127_4 (hk0 := hk), fg_s]
      simp (disch := omega) only [x_has, hp, lit, nI_add, pk_mul, n_sub, n_addneg, nle_t, nle_f, nlt_t, nlt_f, neq_t, neq_f, n_inb, n_ix, bnd_some, if_true, if_false, ite_tt, ite_ff, not_true_eq_false, not_false_eq_true, eq_self, false_or, or_false, true_or, or_true]
      cases hpn : p n with
      | false => simp (disch := omega) only [bI_f, fgs_w hpn, E127_40 (hk0 := hk), lit, nI_add, pk_mul, n_sub, n_addneg, nle_t, nle_f, nlt_t, nlt_f, neq_t, neq_f, n_inb, n_ix, bnd_some, if_true, if_false, ite_tt, ite_ff, not_true_eq_false, not_false_eq_true, eq_self, false_or, or_false, true_or, or_true]
      | true =>
        unfold fgs
        rw [if_pos hpn]
        cases hb : fg p (s (mRf k 2)) n with
        | none => simp (disch := omega) only [bI_t, oc_none, oc_some, E127_38 (hk0 := hk), E127_40 (hk0 := hk), lit, nI_add, pk_mul, n_sub, n_addneg, nle_t, nle_f, nlt_t, nlt_f, neq_t, neq_f, n_inb, n_ix, bnd_some, if_true, if_false, ite_tt, ite_ff, not_true_eq_false, not_false_eq_true, eq_self, false_or, or_false, true_or, or_true]
        | some y =>
          have hy := fg_lt y hb
          simp (disch := omega) only [bI_t, oc_some, nneg_f, E127_38 (hk0 := hk), E127_40 (hk0 := hk), lit, nI_add, pk_mul, n_sub, n_addneg, nle_t, nle_f, nlt_t, nlt_f, neq_t, neq_f, n_inb, n_ix, bnd_some, if_true, if_false, ite_tt, ite_ff, not_true_eq_false, not_false_eq_true, eq_self, false_or, or_false, true_or, or_true]
          by_cases hv : s (mRf k 2) n ≤ s (mRf k 2) y
          · rw [if_pos hv, if_pos hv, oc_some]
          · rw [if_neg hv, if_neg hv, oc_some]
  rw [show (-1 : Int32) = -nI 1 from rfl, lit 0, key 8 (Nat.le_refl _), E127_4 (hk0 := hk)]
  cases hb : fg p (s (mRf k 2)) 8 with
  | none => simp (disch := omega) only [oc_none, lit, nI_add, pk_mul, n_sub, n_addneg, nle_t, nle_f, nlt_t, nlt_f, neq_t, neq_f, n_inb, n_ix, bnd_some, if_true, if_false, ite_tt, ite_ff, not_true_eq_false, not_false_eq_true, eq_self, false_or, or_false, true_or, or_true]; rfl
  | some y =>
    have hy := fg_lt y hb
    simp (disch := omega) only [oc_some, mmax_n, lit, nI_add, pk_mul, n_sub, n_addneg, nle_t, nle_f, nlt_t, nlt_f, neq_t, neq_f, n_inb, n_ix, bnd_some, if_true, if_false, ite_tt, ite_ff, not_true_eq_false, not_false_eq_true, eq_self, false_or, or_false, true_or, or_true]
    show some (0, nI (max y 0), s) = some (0, nI y, s)
    rw [Nat.max_eq_left (Nat.zero_le _)]
end XWK
