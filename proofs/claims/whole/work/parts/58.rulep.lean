/-! A RULE TOLD: what its text comes to; what parts push -/
abbrev aQ : Type := Sum Nat (Nat × aR)
def pThing (X : aX) (E : Nat) (ok : Bool) (r : Nat → aQ) (p : Nat) : aQ :=
  if isD (hd X E p) = true then .inr ((dg X E 3 p 0).2, fun _ => nI (dg X E 3 p 0).1)
  else if isTh (nI (hd X E p)) = true then .inr (p + 1, fun e => e (nI (hd X E p)))
  else if hd X E p = 40 ∧ ok = true then (match r (p + 1) with
    | .inl f => .inl f
    | .inr (q, φ) => if hd X E q = 41 then .inr (q + 1, φ) else .inl q)
  else .inl p
def pNeg (X : aX) (E : Nat) (r : Nat → aQ) : Nat → Nat → aQ
  | 0, p => r p
  | n + 1, p => if hd X E p = 45 then (match pNeg X E r n (p + 1) with
    | .inl f => .inl f
    | .inr (q, φ) => .inr (q, fun e => -(φ e))) else r p
def pL (X : aX) (E : Nat) (o1 o2 : Nat) (r : Nat → aQ) : Nat → Nat → aR → aQ
  | 0, p, φ => .inr (p, φ)
  | n + 1, p, φ => if hd X E p = o1 ∨ hd X E p = o2 then (match r (p + 1) with
    | .inl f => .inl f
    | .inr (q, ψ) => pL X E o1 o2 r n q (fun e => jn (nI (hd X E p)) (φ e) (ψ e))) else .inr (p, φ)
def pSeq (X : aX) (E : Nat) (o1 o2 : Nat) (r : Nat → aQ) (p : Nat) : aQ := match r p with
  | .inl f => .inl f
  | .inr (q, φ) => pL X E o1 o2 r 40 q φ
def pCmp (X : aX) (E : Nat) (r : Nat → aQ) (p : Nat) : aQ := match r p with
  | .inl f => .inl f
  | .inr (q, φ) => if hd X E q = 60 ∨ hd X E q = 62 ∨ hd X E q = 61 then (match r (q + 1) with
    | .inl f => .inl f
    | .inr (q', ψ) => .inr (q', fun e => jn (nI (hd X E q)) (φ e) (ψ e))) else .inr (q, φ)
def pX (X : aX) (E : Nat) (r : Nat → aQ) : Nat → aQ := pCmp X E (pSeq X E 43 45 (pSeq X E 42 47 (pNeg X E r 40)))
def pE (X : aX) (E : Nat) : Nat → Nat → aQ
  | 0 => pX X E (pThing X E false (fun _ => .inl 0))
  | j + 1 => pX X E (pThing X E true (pE X E j))
/-- a rule's whole text -/
def rul (X : aX) : Sum Nat aR := if X.1 = 0 then .inr (fun e => e (nI 119)) else match pE X (min X.1 40) 4 0 with
  | .inl f => .inl f
  | .inr (p, φ) => if p < X.1 then .inl p else .inr φ
def o_rule (A : aA) : aA × Int32 := match rul (gX A) with
  | .inl f => (wX A (x0 A), -nI (f + 1))
  | .inr φ => (wX (wR A φ) (x0 A), nI 0)
def runS (env : Int32 → Int32) (p : Nat → Int32) (a n : Nat) (b : sk) : sk := itr (fun i b => stp env (p (a + i)) b) n b
/-- parts from a on, n of them, push a number -/
def PSH (p : Nat → Int32) (a n : Nat) (φ : aR) : Prop := ∀ env t g, ∃ g', runS env p a n (t, g) = (t + 1, g') ∧ g' t = φ env ∧ ∀ j, j < t → g' j = g j
section XPS
variable {a n m : Nat} {p p' : Nat → Int32} {φ ψ : aR} {env : Int32 → Int32} {b : sk} {c : Int32}
theorem runS_s : runS env p a (n + 1) b = stp env (p (a + n)) (runS env p a n b) := rfl
theorem runS_add : runS env p a (n + m) b = runS env p (a + n) m (runS env p a n b) := by
  induction m with
  | zero => rfl
  | succ m ih =>
    rw [show n + (m + 1) = n + m + 1 from rfl, runS_s, runS_s, ih, Nat.add_assoc]
theorem runS_cong (h : ∀ i, i < n → p' (a + i) = p (a + i)) : runS env p' a n b = runS env p a n b := by
  induction n with
  | zero => exact (show runS env p' a 0 b = b from rfl).trans (show b = runS env p a 0 b from rfl)
  | succ n ih => rw [runS_s, runS_s, ih (fun i hi => h i (by omega)), h n (by omega)]
theorem runS_0 : runS env p 0 n b = runP env p n b := by
  induction n with
  | zero => exact (show runS env p 0 0 b = b from rfl).trans (show b = runP env p 0 b from rfl)
  | succ n ih => rw [runS_s, runP_s, ih, Nat.zero_add]
theorem PSH_cong (h : PSH p a n φ) (e : ∀ i, i < n → p' (a + i) = p (a + i)) : PSH p' a n φ := by
  intro env t g
  rw [runS_cong e]
  exact h env t g
/-- one part that pushes -/
theorem PSH_one (h : ∀ env t g, stp env (p a) (t, g) = (t + 1, upd g t (φ env))) : PSH p a 1 φ := by
  intro env t g
  refine ⟨upd g t (φ env), ?_, upd_eq rfl, fun j hj => upd_ne (by omega)⟩
  exact h env t g
theorem PSH_neg (h : PSH p a n φ) (hc : p (a + n) = -nI 126) : PSH p a (n + 1) (fun e => -(φ e)) := by
  intro env t g
  obtain ⟨g', e, h1, h2⟩ := h env t g
  rw [runS_s, e, hc]
  refine ⟨upd g' t (-(φ env)), ?_, upd_eq rfl, fun j hj => by rw [upd_ne (by omega)]; exact h2 j hj⟩
  unfold stp
  have n1 : -nI 126 < nI 0 := by decide +kernel
  have n2 : ¬ isTh (- -nI 126) = true := by decide +kernel
  rw [if_pos n1, if_neg n2, if_pos ⟨rfl, Nat.le_add_left 1 t⟩]
  show (t + 1, upd g' (t + 1 - 1) (-(g' (t + 1 - 1)))) = _
  rw [Nat.add_sub_cancel, h1]
/-- a sign that joins -/
def isOp (c : Nat) : Prop := c = 42 ∨ c = 43 ∨ c = 45 ∨ c = 47 ∨ c = 60 ∨ c = 61 ∨ c = 62
theorem isOp_d : ∀ c, c < 63 → isOp c → -nI c < nI 0 ∧ isTh (- -nI c) = false ∧ ¬ (-nI c = -nI 126) ∧ - -nI c = nI c := by
  unfold isOp
  decide +kernel
theorem PSH_join {o : Nat} (h : PSH p a n φ) (h2 : PSH p (a + n) m ψ) (ho : isOp o) (hc : p (a + n + m) = -nI o) : PSH p a (n + m + 1) (fun e => jn (nI o) (φ e) (ψ e)) := by
  have ho2 : o < 63 := by unfold isOp at ho; omega
  obtain ⟨d1, d2, d3, d4⟩ := isOp_d o ho2 ho
  intro env t g
  obtain ⟨g', e, i1, i2⟩ := h env t g
  obtain ⟨g2, e2, j1, j2⟩ := h2 env (t + 1) g'
  rw [runS_s, runS_add, e, e2, ← Nat.add_assoc, hc]
  refine ⟨upd g2 t (jn (nI o) (φ env) (ψ env)), ?_, upd_eq rfl, fun j hj => by rw [upd_ne (by omega), j2 j (by omega)]; exact i2 j hj⟩
  unfold stp
  rw [if_pos d1, if_neg (by rw [d2]; exact Bool.false_ne_true), if_neg (fun z => d3 z.1), if_pos (show 2 ≤ t + 1 + 1 by omega)]
  show (t + 1 + 1 - 1, upd g2 (t + 1 + 1 - 2) (jn (- -nI o) (g2 (t + 1 + 1 - 2)) (g2 (t + 1 + 1 - 1)))) = _
  rw [show t + 1 + 1 - 2 = t by omega, show t + 1 + 1 - 1 = t + 1 by omega, j1, j2 t (by omega), i1, d4]
theorem igK_c {v : Int32} : igK (fun _ => v) := fun _ _ _ => rfl
theorem igK_neg (h : igK φ) : igK (fun e => -(φ e)) := fun e1 e2 hh => by show -(φ e1) = -(φ e2); rw [h e1 e2 hh]
theorem igK_jn {o : Int32} (h : igK φ) (h2 : igK ψ) : igK (fun e => jn o (φ e) (ψ e)) := fun e1 e2 hh => by
  show jn o (φ e1) (ψ e1) = jn o (φ e2) (ψ e2)
  rw [h e1 e2 hh, h2 e1 e2 hh]
/-- from the beginning on: the rule's value -/
theorem PSH_rv (h : PSH p 0 n φ) (g : Nat → Int32) : rv env p n g = φ env := by
  obtain ⟨g', e, h1, -⟩ := h env 0 g
  rw [runS_0] at e
  unfold rv
  rw [e]
  show (if 0 + 1 = 0 then nI 0 else g' 0) = φ env
  rw [if_neg (by omega), h1]
end XPS
