/-! THE SMALL MACHINE: what a method of the class or of the reference does, over whole numbers alone. Objects and arrays are places 1, 2, ..; a value is a number (inl) or a place (inr; inr 0: not known). -/
abbrev mV : Type := Int32 ⊕ Nat
abbrev mS : Type := Nat → Nat → Int32
abbrev mR : Type := Nat × Int32 × mS
abbrev mC : Type := Nat × List mV × List mV × mS
abbrev mL : Type := Nat × List mV × Nat × Nat × List mV × List mV × mS
abbrev mA : Type := Option (mC ⊕ mR ⊕ mL)
def nx (pc : Nat) (ls st : List mV) (s : mS) : mA := some (.inl (pc, ls, st, s))
def dn (k : Nat) (v : Int32) (s : mS) : mA := some (.inr (.inl (k, v, s)))
def cl (m : Nat) (as : List mV) (k pc : Nat) (ls st : List mV) (s : mS) : mA := some (.inr (.inr (m, as, k, pc, ls, st, s)))
def setA (s : mS) (a : Nat) (f : Nat → Int32) : mS := fun x => if x = a then f else s x
def up (s : mS) (a i : Nat) (v : Int32) : mS := setA s a (upd (s a) i v)
def cpA (s : mS) (a : Nat) (sp : Int32) (b : Nat) (dp n : Int32) : mS := setA s b (va_cpy (s a) (s b) sp.toNatClampNeg dp.toNatClampNeg n.toNatClampNeg)
def inb (i : Int32) (n : Nat) : Bool := decide (¬ (i < 0 ∨ n ≤ i.toNatClampNeg))
def ix (i : Int32) : Nat := i.toNatClampNeg
theorem inb_in {i : Int32} {n : Nat} (h : inb i n = true) : vp_in i n := by
  unfold inb at h
  show ¬ (i < 0 ∨ n ≤ i.toNatClampNeg)
  exact of_decide_eq_true h
theorem inb_nI {j n : Nat} (h : j < n) (hn : n < 2 ^ 31) : inb (nI j) n = true := by
  unfold inb
  exact decide_eq_true (vp_in_nI h hn)
theorem ix_nI {j : Nat} (h : j < 2 ^ 31) : ix (nI j) = j := nI_clamp h
/-- a method: code, its class, locals, answer (0 none, 1 int, 2 boolean, 3 its own object, 4 + j its object's field j), arguments (with its object), whether static, the dead locals where ways meet -/
abbrev mM : Type := ByteArray × Nat × Nat × Nat × Nat × Bool × List (Nat × List Nat)
def kil (K : List (Nat × List Nat)) (pc : Nat) (ls : List mV) : List mV := match K.lookup pc with
  | none => ls
  | some ds => ds.foldl (fun l i => l.set i (.inr 0)) ls
def pad (n : Nat) (as : List mV) : List mV := as ++ List.replicate (n - as.length) (.inr 0)
def cnd (c : ClassFile.Cond) (x y : Int32) (a b : mA) : mA := match c with
  | .eq => if x = y then a else b
  | .ne => if ¬ x = y then a else b
  | .lt => if x < y then a else b
  | .ge => if y ≤ x then a else b
  | .gt => if y < x then a else b
  | .le => if x ≤ y then a else b
/-- the tables -/
abbrev mT : Type := (Nat → Option mM) × (Nat → Nat × Nat) × (Nat → Nat → Nat) × (Nat → Nat → Bool) × (Nat → Nat → Bool) × (Nat → Nat → Option (Nat × Nat)) × (Nat → Nat → Option Nat) × (Nat → Nat → Option Int32) × (Nat → Nat → Nat)
def mT.mt (T : mT) : Nat → Option mM := T.1
def mT.sh (T : mT) : Nat → Nat × Nat := T.2.1
def mT.rf (T : mT) : Nat → Nat → Nat := T.2.2.1
def mT.mr (T : mT) : Nat → Nat → Bool := T.2.2.2.1
def mT.bf (T : mT) : Nat → Nat → Bool := T.2.2.2.2.1
def mT.fr (T : mT) : Nat → Nat → Option (Nat × Nat) := T.2.2.2.2.2.1
def mT.cr (T : mT) : Nat → Nat → Option Nat := T.2.2.2.2.2.2.1
def mT.ck (T : mT) : Nat → Nat → Option Int32 := T.2.2.2.2.2.2.2.1
def mT.ac (T : mT) : Nat → Nat → Nat := T.2.2.2.2.2.2.2.2
def jmp (pc : Nat) (off : Int) (ls st : List mV) (s : mS) : mA := match (pc : Int) + off with
  | .ofNat t => nx t ls st s
  | .negSucc _ => none
def sml (st : List mV) : Bool := decide (st.length ≤ 8)
def tblsw (dflt lo hi : Int) (offs : Array Int) (x : Int32) : Option Int := if x.toInt < lo ∨ hi < x.toInt then some dflt else offs[(x.toInt - lo).toNat]?
def invk (T : mT) (M' : mM) (m' : Nat) (as : List mV) (pc : Nat) (ls st : List mV) (s : mS) : mA :=
  if sml st = true then
    match M'.2.2.2.1 with
    | 0 => cl m' (pad M'.2.2.1 as) 0 pc ls st s
    | 1 => cl m' (pad M'.2.2.1 as) 1 pc ls st s
    | 2 => cl m' (pad M'.2.2.1 as) 1 pc ls st s
    | 3 => match as with
      | .inr q :: _ => cl m' (pad M'.2.2.1 as) (q + 2) pc ls st s
      | _ => none
    | j + 4 => match as with
      | .inr q :: _ => cl m' (pad M'.2.2.1 as) (T.rf q j + 2) pc ls st s
      | _ => none
  else none
def mmax (x y : Int32) : Int32 := if x < y then y else x
def mmin (x y : Int32) : Int32 := if y < x then y else x
def mabs (x : Int32) : Int32 := if 0 ≤ x then x else 0 - x
def ret1 (k : Nat) (v : Int32) (s : mS) : mA := match k with
  | 1 => dn 0 v s
  | 2 => if v = 0 ∨ v = 1 then dn 0 v s else none
  | _ => none
def actI (T : mT) (M : mM) (i : Instr) (len pc : Nat) (ls st : List mV) (s : mS) : mA :=
  match i with
  | .iload k => match ls[k]? with
    | some (.inl x) => nx (pc + len) ls (.inl x :: st) s
    | _ => none
  | .iload_n k => match ls[k.val]? with
    | some (.inl x) => nx (pc + len) ls (.inl x :: st) s
    | _ => none
  | .aload k => match ls[k]? with
    | some (.inr (q + 1)) => nx (pc + len) ls (.inr (q + 1) :: st) s
    | _ => none
  | .aload_n k => match ls[k.val]? with
    | some (.inr (q + 1)) => nx (pc + len) ls (.inr (q + 1) :: st) s
    | _ => none
  | .istore k => match st with
    | .inl x :: r => if k < ls.length then nx (pc + len) (ls.set k (.inl x)) r s else none
    | _ => none
  | .istore_n k => match st with
    | .inl x :: r => if k.val < ls.length then nx (pc + len) (ls.set k.val (.inl x)) r s else none
    | _ => none
  | .astore k => match st with
    | .inr q :: r => if k < ls.length then nx (pc + len) (ls.set k (.inr q)) r s else none
    | _ => none
  | .astore_n k => match st with
    | .inr q :: r => if k.val < ls.length then nx (pc + len) (ls.set k.val (.inr q)) r s else none
    | _ => none
  | .iinc k c => match ls[k]? with
    | some (.inl x) => nx (pc + len) (ls.set k (.inl (x + Int32.ofInt c))) st s
    | _ => none
  | .iconst c => nx (pc + len) ls (.inl (Int32.ofInt c) :: st) s
  | .bipush c => nx (pc + len) ls (.inl (Int8.ofInt c).toInt32 :: st) s
  | .sipush c => nx (pc + len) ls (.inl (Int16.ofInt c).toInt32 :: st) s
  | .ldc k => match T.ck M.2.1 k with
    | some v => nx (pc + len) ls (.inl v :: st) s
    | none => none
  | .ldc_w k => match T.ck M.2.1 k with
    | some v => nx (pc + len) ls (.inl v :: st) s
    | none => none
  | .iadd => match st with
    | .inl y :: .inl x :: r => nx (pc + len) ls (.inl (x + y) :: r) s
    | _ => none
  | .isub => match st with
    | .inl y :: .inl x :: r => nx (pc + len) ls (.inl (x - y) :: r) s
    | _ => none
  | .imul => match st with
    | .inl y :: .inl x :: r => nx (pc + len) ls (.inl (x * y) :: r) s
    | _ => none
  | .iand => match st with
    | .inl y :: .inl x :: r => nx (pc + len) ls (.inl (x &&& y) :: r) s
    | _ => none
  | .ior => match st with
    | .inl y :: .inl x :: r => nx (pc + len) ls (.inl (x ||| y) :: r) s
    | _ => none
  | .ixor => match st with
    | .inl y :: .inl x :: r => nx (pc + len) ls (.inl (x ^^^ y) :: r) s
    | _ => none
  | .ishl => match st with
    | .inl y :: .inl x :: r => nx (pc + len) ls (.inl (x <<< (y &&& 31)) :: r) s
    | _ => none
  | .ishr => match st with
    | .inl y :: .inl x :: r => nx (pc + len) ls (.inl (x >>> (y &&& 31)) :: r) s
    | _ => none
  | .iushr => match st with
    | .inl y :: .inl x :: r => nx (pc + len) ls (.inl (x.toUInt32 >>> (y.toUInt32 &&& Int32.toUInt32 31)).toInt32 :: r) s
    | _ => none
  | .idiv => match st with
    | .inl y :: .inl x :: r => if y = 0 then none else nx (pc + len) ls (.inl (x / y) :: r) s
    | _ => none
  | .irem => match st with
    | .inl y :: .inl x :: r => if y = 0 then none else nx (pc + len) ls (.inl (x - x / y * y) :: r) s
    | _ => none
  | .ineg => match st with
    | .inl x :: r => nx (pc + len) ls (.inl (-x) :: r) s
    | _ => none
  | .i2b => match st with
    | .inl x :: r => nx (pc + len) ls (.inl x.toInt8.toInt32 :: r) s
    | _ => none
  | .i2s => match st with
    | .inl x :: r => nx (pc + len) ls (.inl x.toInt16.toInt32 :: r) s
    | _ => none
  | .i2c => match st with
    | .inl x :: r => nx (pc + len) ls (.inl (x.toUInt32 % 65536).toInt32 :: r) s
    | _ => none
  | .dup => match st with
    | a :: r => nx (pc + len) ls (a :: a :: r) s
    | _ => none
  | .dup_x1 => match st with
    | a :: b :: r => nx (pc + len) ls (a :: b :: a :: r) s
    | _ => none
  | .dup2 => match st with
    | a :: b :: r => nx (pc + len) ls (a :: b :: a :: b :: r) s
    | _ => none
  | .pop => match st with
    | _ :: r => nx (pc + len) ls r s
    | _ => none
  | .ifCond c off => match st with
    | .inl x :: r => match (pc : Int) + off with
      | .ofNat t => cnd c x 0 (nx t ls r s) (nx (pc + len) ls r s)
      | .negSucc _ => none
    | _ => none
  | .if_icmp c off => match st with
    | .inl y :: .inl x :: r => match (pc : Int) + off with
      | .ofNat t => cnd c x y (nx t ls r s) (nx (pc + len) ls r s)
      | .negSucc _ => none
    | _ => none
  | .goto off => jmp pc off ls st s
  | .tableswitch dflt lo hi offs => match st with
    | .inl x :: r => match tblsw dflt lo hi offs x with
      | some off => jmp pc off ls r s
      | none => none
    | _ => none
  | .lookupswitch dflt ps => match st with
    | .inl x :: r => if (ps.toList.zip (ps.toList.drop 1)).all (fun (a, next) => a.1 < next.1) = true then jmp pc (Op.lookupswitch.offset ps.toList dflt x.toInt) ls r s else none
    | _ => none
  | .getfield k => match st with
    | .inr q :: r => match T.fr M.2.1 k with
      | some (ci, j) => if (T.sh q).1 = ci ∧ j < (T.sh q).2 then
          (match T.rf q j with
          | 0 => if T.mr q j = true then (if ix (s q j) = 0 then none else nx (pc + len) ls (.inr (ix (s q j)) :: r) s) else nx (pc + len) ls (.inl (s q j) :: r) s
          | t + 1 => nx (pc + len) ls (.inr (t + 1) :: r) s) else none
      | none => none
    | _ => none
  | .putfield k => match st with
    | .inl v :: .inr q :: r => match T.fr M.2.1 k with
      | some (ci, j) => if (T.sh q).1 = ci ∧ j < (T.sh q).2 ∧ T.rf q j = 0 ∧ T.mr q j = false ∧ (T.bf ci j = false ∨ v = 0 ∨ v = 1) then nx (pc + len) ls r (up s q j v) else none
      | none => none
    | .inr a :: .inr q :: r => match T.fr M.2.1 k with
      | some (ci, j) => if (T.sh q).1 = ci ∧ j < (T.sh q).2 ∧ T.rf q j = 0 ∧ T.mr q j = true ∧ a < 256 ∧ a ≠ 0 then nx (pc + len) ls r (up s q j (nI a)) else none
      | none => none
    | _ => none
  | .arraylength => match st with
    | .inr a :: r => if 20 ≤ (T.sh a).1 ∧ (T.sh a).1 < 24 then nx (pc + len) ls (.inl (Int32.ofNat (T.sh a).2) :: r) s else none
    | _ => none
  | .iaload => match st with
    | .inl i :: .inr a :: r => if (T.sh a).1 = 20 ∧ inb i (T.sh a).2 = true then nx (pc + len) ls (.inl (s a (ix i)) :: r) s else none
    | _ => none
  | .caload => match st with
    | .inl i :: .inr a :: r => if (T.sh a).1 = 21 ∧ inb i (T.sh a).2 = true then nx (pc + len) ls (.inl (s a (ix i)) :: r) s else none
    | _ => none
  | .baload => match st with
    | .inl i :: .inr a :: r => if ((T.sh a).1 = 22 ∨ (T.sh a).1 = 23) ∧ inb i (T.sh a).2 = true then nx (pc + len) ls (.inl (s a (ix i)) :: r) s else none
    | _ => none
  | .iastore => match st with
    | .inl v :: .inl i :: .inr a :: r => if (T.sh a).1 = 20 ∧ inb i (T.sh a).2 = true then nx (pc + len) ls r (up s a (ix i) v) else none
    | _ => none
  | .castore => match st with
    | .inl v :: .inl i :: .inr a :: r => if (T.sh a).1 = 21 ∧ inb i (T.sh a).2 = true then nx (pc + len) ls r (up s a (ix i) (vp_nar .char v)) else none
    | _ => none
  | .bastore => match st with
    | .inl v :: .inl i :: .inr a :: r => if (T.sh a).1 = 22 ∧ inb i (T.sh a).2 = true then nx (pc + len) ls r (up s a (ix i) (vp_nar .byte v)) else if (T.sh a).1 = 23 ∧ inb i (T.sh a).2 = true then nx (pc + len) ls r (up s a (ix i) (vp_nar .boolean v)) else none
    | _ => none
  | .invokevirtual k => match T.cr M.2.1 k with
    | some m' => match T.mt m' with
      | some M' => match st.drop (M'.2.2.2.2.1 - 1) with
        | .inr q :: r => if M'.2.2.2.2.2.1 = false ∧ 1 ≤ M'.2.2.2.2.1 ∧ (T.sh q).1 = M'.2.1 ∧ M'.2.1 < 20 then invk T M' m' (.inr q :: (st.take (M'.2.2.2.2.1 - 1)).reverse) (pc + len) ls r s else none
        | _ => none
      | none => none
    | none => none
  | .invokestatic k => match T.ac M.2.1 k with
    | 1 => (match st with
      | .inl n :: .inl dp :: .inr b :: .inl sp :: .inr a :: r => if (T.sh a).1 = 20 ∧ (T.sh b).1 = 20 ∧ a ≠ b ∧ ¬ sp < 0 ∧ ¬ dp < 0 ∧ ¬ n < 0 ∧ sp.toNatClampNeg + n.toNatClampNeg ≤ (T.sh a).2 ∧ dp.toNatClampNeg + n.toNatClampNeg ≤ (T.sh b).2 ∧ sml r = true then nx (pc + len) ls r (cpA s a sp b dp n) else none
      | _ => none)
    | 2 => (match st with
      | .inl y :: .inl x :: r => if sml r = true then nx (pc + len) ls (.inl (mmax x y) :: r) s else none
      | _ => none)
    | 3 => (match st with
      | .inl y :: .inl x :: r => if sml r = true then nx (pc + len) ls (.inl (mmin x y) :: r) s else none
      | _ => none)
    | 4 => (match st with
      | .inl x :: r => if sml r = true then nx (pc + len) ls (.inl (mabs x) :: r) s else none
      | _ => none)
    | _ => match T.cr M.2.1 k with
      | some m' => match T.mt m' with
        | some M' => if M'.2.2.2.2.2.1 = true ∧ M'.2.2.2.2.1 ≤ st.length then invk T M' m' (st.take M'.2.2.2.2.1).reverse (pc + len) ls (st.drop M'.2.2.2.2.1) s else none
        | none => none
      | none => none
  | .ireturn => match st with
    | [.inl v] => ret1 M.2.2.2.1 v s
    | _ => none
  | .areturn => match st with
    | [.inr q] => if 3 ≤ M.2.2.2.1 ∧ q < 256 then dn 0 (nI q) s else none
    | _ => none
  | .return_ => match st with
    | [] => if M.2.2.2.1 = 0 then dn 0 0 s else none
    | _ => none
  | .new _ => match st with
    | [] => dn (pc + 1) 0 s
    | _ => none
  | _ => none
/-- an instruction's length (0: any) -/
def ilen (i : Instr) : Nat := match i with
  | .iload _ => 2
  | .aload _ => 2
  | .istore _ => 2
  | .astore _ => 2
  | .iinc _ _ => 3
  | .bipush _ => 2
  | .sipush _ => 3
  | .ldc _ => 2
  | .ldc_w _ => 3
  | .ifCond _ _ => 3
  | .if_icmp _ _ => 3
  | .goto _ => 3
  | .tableswitch _ _ _ _ => 0
  | .lookupswitch _ _ => 0
  | .getfield _ => 3
  | .putfield _ => 3
  | .invokevirtual _ => 3
  | .invokestatic _ => 3
  | .new _ => 3
  | _ => 1
def act (T : mT) (m pc : Nat) (ls st : List mV) (s : mS) : mA := match T.mt m with
  | none => none
  | some M => match decode M.1 pc with
    | .error _ => none
    | .ok (i, len) => if ilen i = 0 ∨ ilen i = len then actI T M i len pc (kil M.2.2.2.2.2.2 pc ls) st s else none
def psh (k : Nat) (v : Int32) (st : List mV) : Option (List mV) := match k with
  | 0 => some st
  | 1 => some (.inl v :: st)
  | q + 2 => if v = nI q ∧ q < 256 then some (.inr q :: st) else none
def runC (T : mT) (cal : Nat → Nat → List mV → mS → Option mR) : Nat → Nat → Nat → List mV → List mV → mS → Option mR
  | 0, _, _, _, _, _ => none
  | n + 1, m, pc, ls, st, s => match act T m pc ls st s with
    | none => none
    | some (.inl (pc', ls', st', s')) => runC T cal n m pc' ls' st' s'
    | some (.inr (.inl r)) => some r
    | some (.inr (.inr (m', as, k, pc', ls', st', s'))) => match cal n m' as s' with
      | some (0, v, s2) => match psh k v st' with
        | some st2 => runC T cal n m pc' ls' st2 s2
        | none => none
      | _ => none
def run (T : mT) : Nat → Nat → Nat → Nat → List mV → List mV → mS → Option mR
  | 0 => runC T (fun _ _ _ _ => none)
  | d + 1 => runC T (fun n m as s => run T d n m 0 as [] s)
theorem runC_mono {T : mT} {cal : Nat → Nat → List mV → mS → Option mR} (hc : ∀ n m as s r, cal n m as s = some r → cal (n + 1) m as s = some r) :
    ∀ n m pc ls st s r, runC T cal n m pc ls st s = some r → runC T cal (n + 1) m pc ls st s = some r := by
  intro n
  induction n with
  | zero => intro m pc ls st s r h; cases h
  | succ n ih =>
    intro m pc ls st s r h
    rw [runC] at h ⊢
    cases ha : act T m pc ls st s with
    | none => rw [ha] at h; cases h
    | some a =>
      rw [ha] at h
      match a, h with
      | .inl (pc', ls', st', s'), h => exact ih _ _ _ _ _ _ h
      | .inr (.inl r'), h => exact h
      | .inr (.inr (m', as, k, pc', ls', st', s')), h =>
        simp only at h ⊢
        cases hcl : cal n m' as s' with
        | none => rw [hcl] at h; cases h
        | some r1 =>
          rw [hcl] at h
          rw [hc _ _ _ _ _ hcl]
          match r1, h with
          | (0, v, s2), h =>
            simp only at h ⊢
            cases hp : psh k v st' with
            | none => rw [hp] at h; cases h
            | some st2 =>
              rw [hp] at h
              exact ih _ _ _ _ _ _ h
          | (k1 + 1, v, s2), h => cases h
theorem run_mono {T : mT} : ∀ d n m pc ls st s r, run T d n m pc ls st s = some r → run T d (n + 1) m pc ls st s = some r := by
  intro d
  induction d with
  | zero => exact runC_mono (fun _ _ _ _ _ h => by cases h)
  | succ d ih => exact runC_mono (fun n m as s r h => ih n m 0 as [] s r h)
theorem run_le {T : mT} {d n n' m pc : Nat} {ls st : List mV} {s : mS} {r : mR} (hn : n ≤ n') (h : run T d n m pc ls st s = some r) : run T d n' m pc ls st s = some r := by
  induction hn with
  | refl => exact h
  | step _ ih => exact run_mono _ _ _ _ _ _ _ _ ih
def Cv (T : mT) (d m pc : Nat) (ls st : List mV) (s : mS) (r : mR) : Prop := ∃ n, run T d n m pc ls st s = some r
theorem Cv.one {T : mT} {d m pc : Nat} {ls st : List mV} {s : mS} {r r' : mR} (h : Cv T d m pc ls st s r) (h' : Cv T d m pc ls st s r') : r = r' := by
  obtain ⟨n, h⟩ := h
  obtain ⟨n', h'⟩ := h'
  have a := run_le (Nat.le_max_left n n') h
  have b := run_le (Nat.le_max_right n n') h'
  exact Option.some.inj (a.symm.trans b)
noncomputable def evT (T : mT) (d m pc : Nat) (ls st : List mV) (s : mS) : Option mR := by
  classical exact if h : ∃ r, Cv T d m pc ls st s r then some (Classical.choose h) else none
theorem evT_iff {T : mT} {d m pc : Nat} {ls st : List mV} {s : mS} {r : mR} : evT T d m pc ls st s = some r ↔ Cv T d m pc ls st s r := by
  unfold evT
  constructor
  · intro h
    split at h
    · next hx => cases h; exact Classical.choose_spec hx
    · cases h
  · intro h
    rw [dif_pos ⟨r, h⟩]
    exact congrArg some ((Classical.choose_spec (⟨r, h⟩ : ∃ r, Cv T d m pc ls st s r)).one h)
theorem evT_eq {T : mT} {d d' m m' pc pc' : Nat} {ls st ls' st' : List mV} {s s' : mS} (h : ∀ r, Cv T d m pc ls st s r ↔ Cv T d' m' pc' ls' st' s' r) : evT T d m pc ls st s = evT T d' m' pc' ls' st' s' := by
  apply Option.ext
  intro r
  have a : evT T d m pc ls st s = some r ↔ evT T d' m' pc' ls' st' s' = some r := by rw [evT_iff, evT_iff]; exact h r
  exact a
theorem run_succ {T : mT} {d n m pc : Nat} {ls st : List mV} {s : mS} : run T d (n + 1) m pc ls st s = match act T m pc ls st s with
    | none => none
    | some (.inl (pc', ls', st', s')) => run T d n m pc' ls' st' s'
    | some (.inr (.inl r)) => some r
    | some (.inr (.inr (m', as, k, pc', ls', st', s'))) => match d with
      | 0 => none
      | d + 1 => match run T d n m' 0 as [] s' with
        | some (0, v, s2) => match psh k v st' with
          | some st2 => run T (d + 1) n m pc' ls' st2 s2
          | none => none
        | _ => none := by
  cases d with
  | zero => rfl
  | succ d => rfl
theorem evT_nx {T : mT} {d m pc pc' : Nat} {ls st ls' st' : List mV} {s s' : mS} (h : act T m pc ls st s = nx pc' ls' st' s') : evT T d m pc ls st s = evT T d m pc' ls' st' s' := by
  refine evT_eq fun r => ⟨fun ⟨n, hn⟩ => ?_, fun ⟨n, hn⟩ => ⟨n + 1, ?_⟩⟩
  · cases n with
    | zero => cases d <;> cases hn
    | succ n => rw [run_succ, h] at hn; exact ⟨n, hn⟩
  · rw [run_succ, h]; exact hn
theorem evT_dn {T : mT} {d m pc k : Nat} {ls st : List mV} {s s' : mS} {v : Int32} (h : act T m pc ls st s = dn k v s') : evT T d m pc ls st s = some (k, v, s') :=
  evT_iff.mpr ⟨1, by rw [run_succ, h]; rfl⟩
theorem evT_no {T : mT} {d m pc : Nat} {ls st : List mV} {s : mS} (h : act T m pc ls st s = none) : evT T d m pc ls st s = none := by
  cases hx : evT T d m pc ls st s with
  | none => rfl
  | some r =>
    obtain ⟨n, hn⟩ := evT_iff.mp hx
    cases n with
    | zero => cases d <;> cases hn
    | succ n => rw [run_succ, h] at hn; cases hn
/-- what follows a call that answers -/
def bnd (o : Option mR) (K : Int32 → mS → Option mR) : Option mR := match o with
  | some (0, v, s) => K v s
  | _ => none
theorem bnd_some {v : Int32} {s : mS} {K : Int32 → mS → Option mR} : bnd (some (0, v, s)) K = K v s := rfl
theorem evT_cl {T : mT} {d m pc m' k pc' : Nat} {as ls st ls' st' : List mV} {s s' : mS} (h : act T m pc ls st s = cl m' as k pc' ls' st' s') :
    evT T (d + 1) m pc ls st s = bnd (evT T d m' 0 as [] s') (fun v s2 => match psh k v st' with
      | some st2 => evT T (d + 1) m pc' ls' st2 s2
      | none => none) := by
  apply Option.ext
  intro r
  show evT T (d + 1) m pc ls st s = some r ↔ _
  rw [evT_iff]
  constructor
  · rintro ⟨n, hn⟩
    cases n with
    | zero => cases hn
    | succ n =>
      rw [run_succ, h] at hn
      simp only [cl] at hn
      cases hc : run T d n m' 0 as [] s' with
      | none => rw [hc] at hn; cases hn
      | some r1 =>
        rw [hc] at hn
        have e1 : evT T d m' 0 as [] s' = some r1 := evT_iff.mpr ⟨n, hc⟩
        rw [e1]
        match r1, hn with
        | (0, v, s2), hn =>
          simp only at hn
          show (match psh k v st' with
            | some st2 => evT T (d + 1) m pc' ls' st2 s2
            | none => none) = some r
          cases hp : psh k v st' with
          | none => rw [hp] at hn; cases hn
          | some st2 => rw [hp] at hn; exact evT_iff.mpr ⟨n, hn⟩
        | (k1 + 1, v, s2), hn => cases hn
  · intro hb
    cases he : evT T d m' 0 as [] s' with
    | none => rw [he] at hb; cases hb
    | some r1 =>
      rw [he] at hb
      obtain ⟨n1, h1⟩ := evT_iff.mp he
      match r1, hb, h1 with
      | (0, v, s2), hb, h1 =>
        have hb : (match psh k v st' with
            | some st2 => evT T (d + 1) m pc' ls' st2 s2
            | none => none) = some r := hb
        cases hp : psh k v st' with
        | none => rw [hp] at hb; cases hb
        | some st2 =>
          rw [hp] at hb
          obtain ⟨n2, h2⟩ := evT_iff.mp hb
          refine ⟨max n1 n2 + 1, ?_⟩
          rw [run_succ, h]
          simp only [cl]
          rw [run_le (Nat.le_max_left n1 n2) h1]
          simp only [hp]
          exact run_le (Nat.le_max_right n1 n2) h2
      | (k1 + 1, v, s2), hb, _ => cases hb
