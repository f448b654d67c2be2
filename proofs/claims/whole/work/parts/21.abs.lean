/-! THE ABSTRACT TOWN AND ITS STATE -/
/-- words, their lengths, senses, letters; walls, worth, term -/
abbrev aT : Type := Nat × (Nat → Nat) × (Nat → Nat) × (Nat → Nat → Nat) × Nat × (Nat → Nat) × (Nat → Nat)
def tW (T : aT) : Nat := T.1
def tLen (T : aT) : Nat → Nat := T.2.1
def tSen (T : aT) : Nat → Nat := T.2.2.1
def tSp (T : aT) : Nat → Nat → Nat := T.2.2.2.1
def tN (T : aT) : Nat := T.2.2.2.2.1
def tWo (T : aT) : Nat → Nat := T.2.2.2.2.2.1
def tTe (T : aT) : Nat → Nat := T.2.2.2.2.2.2
/-- how many of a letter a word needs -/
def nd (T : aT) (x l : Nat) : Nat := sm (fun i => if tSp T x i = l then 1 else 0) (tLen T x)
/-- left, word of a wall, what hangs, q, u, weeks -/
abbrev aS : Type := (Nat → Nat) × (Nat → Option Nat) × (Nat → Nat → Nat) × (Nat → Nat) × (Nat → Nat) × Nat
def sL (S : aS) : Nat → Nat := S.1
def sH (S : aS) : Nat → Option Nat := S.2.1
def sG (S : aS) : Nat → Nat → Nat := S.2.2.1
def sQ (S : aS) : Nat → Nat := S.2.2.2.1
def sU (S : aS) : Nat → Nat := S.2.2.2.2.1
def sK (S : aS) : Nat := S.2.2.2.2.2
def oc : Option Nat → Int32
  | none => -nI 1
  | some x => nI x
/-- how many of a letter are wanting on a wall; how many in all -/
def lck (T : aT) (S : aS) (w l : Nat) : Nat := match sH S w with
  | none => 0
  | some x => nd T x l - sG S w l
def hgs (S : aS) (w : Nat) : Nat := sm (sG S w) 10
def mis (T : aT) (S : aS) (w : Nat) : Nat := match sH S w with
  | none => 0
  | some x => tLen T x - hgs S w
def isW (S : aS) (w : Nat) : Bool := (sH S w).isSome
def isU (T : aT) (S : aS) (w : Nat) : Bool := isW S w && decide (mis T S w = 0)
def isQ (T : aT) (S : aS) (w : Nat) : Bool := decide (0 < mis T S w)
def hal (S : aS) (l : Nat) : Nat := sm (fun w => sG S w l) 8
def stk (S : aS) (l : Nat) : Nat := sL S l + hal S l
def tOk (T : aT) : Prop := tW T ≤ 12 ∧ tN T ≤ 8 ∧ (∀ x, x < tW T → 1 ≤ tLen T x ∧ tLen T x ≤ 8 ∧ tSen T x < 10 ∧ ∀ i, i < tLen T x → tSp T x i < 10) ∧ ∀ w, w < tN T → 1 ≤ tWo T w ∧ tWo T w ≤ 99 ∧ 1 ≤ tTe T w ∧ tTe T w ≤ 9
/-- a wall's part of a good state -/
def wOk (T : aT) (S : aS) (w : Nat) : Prop := match sH S w with
  | none => (∀ l, sG S w l = 0) ∧ sQ S w = 0 ∧ sU S w = 0
  | some x => w < tN T ∧ x < tW T ∧ (∀ l, sG S w l ≤ nd T x l) ∧ sQ S w ≤ sK S ∧ sU S w ≤ sK S
def sOk (T : aT) (S : aS) (B : Nat) : Prop := (∀ w, wOk T S w) ∧ (∀ l, l < 10 → stk S l ≤ 20) ∧ sK S ≤ B
theorem nd_le (T : aT) (x l : Nat) : nd T x l ≤ tLen T x := by
  have h := sm_le (f := fun i => if tSp T x i = l then 1 else 0) (c := 1) (n := tLen T x) (fun i _ => by show (if tSp T x i = l then 1 else 0) ≤ 1; split <;> omega)
  unfold nd; omega
theorem nd_sum {T : aT} {x : Nat} (h : ∀ i, i < tLen T x → tSp T x i < 10) : sm (nd T x) 10 = tLen T x := by
  have key : ∀ n, n ≤ tLen T x → sm (fun l => sm (fun i => if tSp T x i = l then 1 else 0) n) 10 = n := by
    intro n
    induction n with
    | zero => intro _; rfl
    | succ n ih =>
      intro hn
      have e : sm (fun l => sm (fun i => if tSp T x i = l then 1 else 0) (n + 1)) 10 = sm (fun l => sm (fun i => if tSp T x i = l then 1 else 0) n) 10 + sm (fun l => if tSp T x n = l then 1 else 0) 10 := by
        rw [← sm_add]
        exact sm_cong (fun l _ => by rw [sm_s])
      rw [e, ih (by omega)]
      have hs := h n (by omega)
      have e2 := sm_upd (f := fun _ => 0) (i := tSp T x n) (n := 10) (v := 1) hs
      have e3 : sm (fun l => if tSp T x n = l then 1 else 0) 10 = sm (fun k => if k = tSp T x n then 1 else 0) 10 := sm_cong (fun l _ => by
        by_cases hl : tSp T x n = l
        · rw [if_pos hl, if_pos hl.symm]
        · rw [if_neg hl, if_neg (fun z => hl z.symm)])
      have e4 : sm (fun _ : Nat => 0) 10 = 0 := sm_zero (fun _ _ => rfl)
      rw [e3]
      omega
  exact key _ (Nat.le_refl _)
theorem wOk_n {T : aT} {S : aS} {w : Nat} (h : wOk T S w) (hn : sH S w = none) : (∀ l, sG S w l = 0) ∧ sQ S w = 0 ∧ sU S w = 0 := by
  unfold wOk at h; rw [hn] at h; exact h
theorem wOk_s {T : aT} {S : aS} {w x : Nat} (h : wOk T S w) (hn : sH S w = some x) : w < tN T ∧ x < tW T ∧ (∀ l, sG S w l ≤ nd T x l) ∧ sQ S w ≤ sK S ∧ sU S w ≤ sK S := by
  unfold wOk at h; rw [hn] at h; exact h
theorem sG_le {T : aT} {S : aS} {w l : Nat} (ht : tOk T) (h : wOk T S w) : sG S w l ≤ 8 := by
  cases hn : sH S w with
  | none => rw [(wOk_n h hn).1]; omega
  | some x =>
    obtain ⟨h1, h2, h3, -⟩ := wOk_s h hn
    have h4 := nd_le T x l
    have h5 := (ht.2.2.1 x h2).2.1
    have := h3 l
    omega
theorem hgs_le {T : aT} {S : aS} {w : Nat} (ht : tOk T) (h : wOk T S w) : hgs S w ≤ 8 := by
  cases hn : sH S w with
  | none =>
    have : hgs S w = 0 := sm_zero (fun l _ => (wOk_n h hn).1 l)
    omega
  | some x =>
    obtain ⟨h1, h2, h3, -⟩ := wOk_s h hn
    have h5 := ht.2.2.1 x h2
    have h6 : hgs S w ≤ sm (nd T x) 10 := sm_le2 (fun l _ => h3 l)
    rw [nd_sum h5.2.2.2] at h6
    omega
theorem hgs_len {T : aT} {S : aS} {w x : Nat} (ht : tOk T) (h : wOk T S w) (hn : sH S w = some x) : hgs S w ≤ tLen T x := by
  obtain ⟨h1, h2, h3, -⟩ := wOk_s h hn
  have h6 : hgs S w ≤ sm (nd T x) 10 := sm_le2 (fun l _ => h3 l)
  rw [nd_sum (ht.2.2.1 x h2).2.2.2] at h6
  exact h6
theorem mis_le {T : aT} {S : aS} {w : Nat} (ht : tOk T) (h : wOk T S w) : mis T S w ≤ 8 := by
  unfold mis
  cases hn : sH S w with
  | none => exact Nat.zero_le _
  | some x =>
    have h5 := (ht.2.2.1 x (wOk_s h hn).2.1).2.1
    show tLen T x - hgs S w ≤ 8
    omega
theorem sU_le {T : aT} {S : aS} {w B : Nat} (h : sOk T S B) : sU S w ≤ B ∧ sQ S w ≤ B := by
  have hw := h.1 w
  have := h.2.2
  cases hn : sH S w with
  | none => rw [(wOk_n hw hn).2.1, (wOk_n hw hn).2.2]; omega
  | some x => obtain ⟨-, -, -, h1, h2⟩ := wOk_s hw hn; omega
theorem hal_le {T : aT} {S : aS} {B l : Nat} (h : sOk T S B) (hl : l < 10) : hal S l ≤ 20 ∧ sL S l ≤ 20 := by
  have := h.2.1 l hl
  unfold stk at this
  omega
theorem lck_le {T : aT} {S : aS} {w l : Nat} (ht : tOk T) (h : wOk T S w) : lck T S w l ≤ 8 := by
  unfold lck
  cases hn : sH S w with
  | none => exact Nat.zero_le _
  | some x =>
    have h5 := (ht.2.2.1 x (wOk_s h hn).2.1).2.1
    have h6 := nd_le T x l
    show nd T x l - sG S w l ≤ 8
    omega
/-- the wanting letters in all are the sum of each -/
theorem mis_sum {T : aT} {S : aS} {w : Nat} (ht : tOk T) (h : wOk T S w) : mis T S w = sm (lck T S w) 10 := by
  unfold mis
  cases hn : sH S w with
  | none =>
    have : sm (lck T S w) 10 = 0 := sm_zero (fun l _ => by unfold lck; rw [hn])
    rw [this]
  | some x =>
    obtain ⟨h1, h2, h3, -⟩ := wOk_s h hn
    have e1 : sm (nd T x) 10 = sm (fun l => lck T S w l + sG S w l) 10 := sm_cong (fun l _ => by
      have := h3 l
      unfold lck; rw [hn]
      show nd T x l = nd T x l - sG S w l + sG S w l
      omega)
    rw [sm_add, nd_sum (ht.2.2.1 x h2).2.2.2] at e1
    show tLen T x - hgs S w = _
    unfold hgs
    have e2 : sm (fun i => lck T S w i) 10 = sm (lck T S w) 10 := rfl
    have e3 : sm (fun i => sG S w i) 10 = sm (sG S w) 10 := rfl
    rw [e2, e3] at e1
    omega
/-- the class's town -/
def XT (T : aT) (s : mS) : Prop := s 6 2 = nI (tW T) ∧ s 6 9 = nI (tN T) ∧
  (∀ x, x < tW T → s 9 x = nI (tLen T x) ∧ s 10 x = nI (tSen T x) ∧ (∀ i, i < tLen T x → s 11 (x * 8 + i) = nI (tSp T x i)) ∧ ∀ l, l < 10 → s 12 (x * 10 + l) = nI (nd T x l)) ∧
  ∀ w, w < tN T → s 14 w = nI (tWo T w) ∧ s 15 w = nI (tTe T w)
/-- the class's state in its cells -/
def XC (T : aT) (S : aS) (c : Nat → Int32) : Prop :=
  (∀ w, w < 8 → c w = oc (sH S w) ∧ c (8 + w) = nI (mis T S w) ∧ c (16 + w) = nI (sQ S w) ∧ c (24 + w) = nI (sU S w) ∧ ∀ l, l < 10 → c (44 + w * 10 + l) = nI (sG S w l)) ∧
  (∀ l, l < 10 → c (32 + l) = nI (sL S l)) ∧ c 42 = nI (sm (sL S) 10) ∧ c 43 = nI (sK S)
def isK (k : Nat) : Prop := k = 36 ∨ k = 40
theorem mRf_k {k : Nat} (h : isK k) : mRf k 1 = 37 ∨ mRf k 1 = 41 := by
  rcases h with rfl | rfl
  · exact Or.inl (by decide +kernel)
  · exact Or.inr (by decide +kernel)
theorem XC_congr {T : aT} {S : aS} {c c' : Nat → Int32} (h : XC T S c) (e : ∀ j, j < 124 → c' j = c j) : XC T S c' := by
  obtain ⟨h1, h2, h3, h4⟩ := h
  refine ⟨fun w hw => ?_, fun l hl => by rw [e _ (by omega)]; exact h2 l hl, by rw [e _ (by omega)]; exact h3, by rw [e _ (by omega)]; exact h4⟩
  obtain ⟨a1, a2, a3, a4, a5⟩ := h1 w hw
  exact ⟨by rw [e _ (by omega)]; exact a1, by rw [e _ (by omega)]; exact a2, by rw [e _ (by omega)]; exact a3, by rw [e _ (by omega)]; exact a4, fun l hl => by rw [e _ (by omega)]; exact a5 l hl⟩
