section MX
variable {T : mT} {M : mM} {d m n pc pc' : Nat} {ls st : List mV} {s : mS} {x y v : Int32} {q : Nat}
theorem act_eq {i : Instr} (hM : T.mt m = some M) (hd : decode M.1 pc = .ok (i, n)) (hk : kil M.2.2.2.2.2.2 pc ls = ls) (hn : ilen i = 0 ∨ ilen i = n) : act T m pc ls st s = actI T M i n pc ls st s := by
  unfold act
  rw [hM]
  simp only [hd]
  rw [if_pos hn, hk]
theorem evT_act {ls2 st2 : List mV} (h : act T m pc ls st s = act T m pc ls2 st2 s) : evT T d m pc ls st s = evT T d m pc ls2 st2 s := by
  refine evT_eq fun r => ⟨fun ⟨n, hn⟩ => ?_, fun ⟨n, hn⟩ => ?_⟩
  · cases n with
    | zero => cases d <;> cases hn
    | succ n => exact ⟨n + 1, by rw [run_succ, ← h]; rw [run_succ] at hn; exact hn⟩
  · cases n with
    | zero => cases d <;> cases hn
    | succ n => exact ⟨n + 1, by rw [run_succ, h]; rw [run_succ] at hn; exact hn⟩
/-- at a place where ways meet, dead locals are forgotten -/
theorem x_kil {ls2 : List mV} (hM : T.mt m = some M) (h1 : kil M.2.2.2.2.2.2 pc ls = ls2) (h2 : kil M.2.2.2.2.2.2 pc ls2 = ls2) : evT T d m pc ls st s = evT T d m pc ls2 st s := by
  refine evT_act ?_
  unfold act
  rw [hM]
  simp only [h1, h2]
theorem ite_cg {α : Type} {c : Prop} {_h : Decidable c} {a b a2 b2 : α} (h1 : a = a2) (h2 : b = b2) : (if c then a else b) = (if c then a2 else b2) := by rw [h1, h2]
theorem bnd_cg {o : Option mR} {K K2 : Int32 → mS → Option mR} (h : ∀ v s, K v s = K2 v s) : bnd o K = bnd o K2 := by
  have e : K = K2 := funext fun v => funext fun s => h v s
  rw [e]
/-- the instructions that a method's text holds at these places -/
def chk (b : ByteArray) (t : List (Nat × Instr × Nat)) : Bool := t.all fun e => match decode b e.1 with
  | .ok il => decide (il = e.2)
  | .error _ => false
theorem dk {b : ByteArray} {t : List (Nat × Instr × Nat)} (h : chk b t = true) (j : Nat) {i : Instr} (hj : t[j]? = some (pc, i, n)) : decode b pc = .ok (i, n) := by
  have h1 := List.all_eq_true.mp h _ (List.mem_of_getElem? hj)
  simp only at h1
  split at h1
  · next il e => rw [e, of_decide_eq_true h1]
  · cases h1

theorem x_iload (hM : T.mt m = some M) (hd : decode M.1 pc = .ok (.iload q, 2)) (hk : kil M.2.2.2.2.2.2 pc ls = ls) (hp : pc + 2 = pc') (hl : ls[q]? = some (.inl x)) : evT T d m pc ls (st) s = evT T d m pc' ls (.inl x :: st) s := by
  subst hp
  exact evT_nx (by rw [act_eq hM hd hk (Or.inr rfl)]; simp only [actI, hl])
theorem x_iload_n {k : Fin 4} (hM : T.mt m = some M) (hd : decode M.1 pc = .ok (.iload_n k, 1)) (hk : kil M.2.2.2.2.2.2 pc ls = ls) (hp : pc + 1 = pc') (hl : ls[k.val]? = some (.inl x)) : evT T d m pc ls (st) s = evT T d m pc' ls (.inl x :: st) s := by
  subst hp
  exact evT_nx (by rw [act_eq hM hd hk (Or.inr rfl)]; simp only [actI, hl])
theorem x_aload {k : Nat} (hM : T.mt m = some M) (hd : decode M.1 pc = .ok (.aload k, 2)) (hk : kil M.2.2.2.2.2.2 pc ls = ls) (hp : pc + 2 = pc') (hl : ls[k]? = some (.inr (q + 1))) : evT T d m pc ls (st) s = evT T d m pc' ls (.inr (q + 1) :: st) s := by
  subst hp
  exact evT_nx (by rw [act_eq hM hd hk (Or.inr rfl)]; simp only [actI, hl])
theorem x_aload_n {k : Fin 4} (hM : T.mt m = some M) (hd : decode M.1 pc = .ok (.aload_n k, 1)) (hk : kil M.2.2.2.2.2.2 pc ls = ls) (hp : pc + 1 = pc') (hl : ls[k.val]? = some (.inr (q + 1))) : evT T d m pc ls (st) s = evT T d m pc' ls (.inr (q + 1) :: st) s := by
  subst hp
  exact evT_nx (by rw [act_eq hM hd hk (Or.inr rfl)]; simp only [actI, hl])
theorem x_istore {k : Nat} {ls2 : List mV} (hM : T.mt m = some M) (hd : decode M.1 pc = .ok (.istore k, 2)) (hk : kil M.2.2.2.2.2.2 pc ls = ls) (hp : pc + 2 = pc') (hl : k < ls.length) (h2 : ls.set k (.inl x) = ls2) : evT T d m pc ls (.inl x :: st) s = evT T d m pc' ls2 st s := by
  subst hp; subst h2
  exact evT_nx (by rw [act_eq hM hd hk (Or.inr rfl)]; simp only [actI]; rw [if_pos hl])
theorem x_istore_n {k : Fin 4} {ls2 : List mV} (hM : T.mt m = some M) (hd : decode M.1 pc = .ok (.istore_n k, 1)) (hk : kil M.2.2.2.2.2.2 pc ls = ls) (hp : pc + 1 = pc') (hl : k.val < ls.length) (h2 : ls.set k.val (.inl x) = ls2) : evT T d m pc ls (.inl x :: st) s = evT T d m pc' ls2 st s := by
  subst hp; subst h2
  exact evT_nx (by rw [act_eq hM hd hk (Or.inr rfl)]; simp only [actI]; rw [if_pos hl])
theorem x_astore {k : Nat} {ls2 : List mV} (hM : T.mt m = some M) (hd : decode M.1 pc = .ok (.astore k, 2)) (hk : kil M.2.2.2.2.2.2 pc ls = ls) (hp : pc + 2 = pc') (hl : k < ls.length) (h2 : ls.set k (.inr q) = ls2) : evT T d m pc ls (.inr q :: st) s = evT T d m pc' ls2 st s := by
  subst hp; subst h2
  exact evT_nx (by rw [act_eq hM hd hk (Or.inr rfl)]; simp only [actI]; rw [if_pos hl])
theorem x_astore_n {k : Fin 4} {ls2 : List mV} (hM : T.mt m = some M) (hd : decode M.1 pc = .ok (.astore_n k, 1)) (hk : kil M.2.2.2.2.2.2 pc ls = ls) (hp : pc + 1 = pc') (hl : k.val < ls.length) (h2 : ls.set k.val (.inr q) = ls2) : evT T d m pc ls (.inr q :: st) s = evT T d m pc' ls2 st s := by
  subst hp; subst h2
  exact evT_nx (by rw [act_eq hM hd hk (Or.inr rfl)]; simp only [actI]; rw [if_pos hl])
theorem x_iinc {k : Nat} {c : Int} {ls2 : List mV} (hM : T.mt m = some M) (hd : decode M.1 pc = .ok (.iinc k c, 3)) (hk : kil M.2.2.2.2.2.2 pc ls = ls) (hp : pc + 3 = pc') (hl : ls[k]? = some (.inl x)) (hv : Int32.ofInt c = v) (h2 : ls.set k (.inl (x + v)) = ls2) : evT T d m pc ls st s = evT T d m pc' ls2 st s := by
  subst hp; subst h2; subst hv
  exact evT_nx (by rw [act_eq hM hd hk (Or.inr rfl)]; simp only [actI, hl])
theorem x_iconst {c : Int} (hM : T.mt m = some M) (hd : decode M.1 pc = .ok (.iconst c, 1)) (hk : kil M.2.2.2.2.2.2 pc ls = ls) (hp : pc + 1 = pc') (hv : Int32.ofInt c = v) : evT T d m pc ls st s = evT T d m pc' ls (.inl v :: st) s := by
  subst hp; subst hv
  exact evT_nx (by rw [act_eq hM hd hk (Or.inr rfl)]; simp only [actI])
theorem x_bipush {c : Int} (hM : T.mt m = some M) (hd : decode M.1 pc = .ok (.bipush c, 2)) (hk : kil M.2.2.2.2.2.2 pc ls = ls) (hp : pc + 2 = pc') (hv : (Int8.ofInt c).toInt32 = v) : evT T d m pc ls st s = evT T d m pc' ls (.inl v :: st) s := by
  subst hp; subst hv
  exact evT_nx (by rw [act_eq hM hd hk (Or.inr rfl)]; simp only [actI])
theorem x_sipush {c : Int} (hM : T.mt m = some M) (hd : decode M.1 pc = .ok (.sipush c, 3)) (hk : kil M.2.2.2.2.2.2 pc ls = ls) (hp : pc + 3 = pc') (hv : (Int16.ofInt c).toInt32 = v) : evT T d m pc ls st s = evT T d m pc' ls (.inl v :: st) s := by
  subst hp; subst hv
  exact evT_nx (by rw [act_eq hM hd hk (Or.inr rfl)]; simp only [actI])
theorem x_ldc {k : Nat} (hM : T.mt m = some M) (hd : decode M.1 pc = .ok (.ldc k, 2)) (hk : kil M.2.2.2.2.2.2 pc ls = ls) (hp : pc + 2 = pc') (hl : T.ck M.2.1 k = some v) : evT T d m pc ls st s = evT T d m pc' ls (.inl v :: st) s := by
  subst hp
  exact evT_nx (by rw [act_eq hM hd hk (Or.inr rfl)]; simp only [actI, hl])
theorem x_ldc_w {k : Nat} (hM : T.mt m = some M) (hd : decode M.1 pc = .ok (.ldc_w k, 3)) (hk : kil M.2.2.2.2.2.2 pc ls = ls) (hp : pc + 3 = pc') (hl : T.ck M.2.1 k = some v) : evT T d m pc ls st s = evT T d m pc' ls (.inl v :: st) s := by
  subst hp
  exact evT_nx (by rw [act_eq hM hd hk (Or.inr rfl)]; simp only [actI, hl])
theorem x_iadd (hM : T.mt m = some M) (hd : decode M.1 pc = .ok (.iadd, 1)) (hk : kil M.2.2.2.2.2.2 pc ls = ls) (hp : pc + 1 = pc') : evT T d m pc ls (.inl y :: .inl x :: st) s = evT T d m pc' ls (.inl (x + y) :: st) s := by
  subst hp
  exact evT_nx (by rw [act_eq hM hd hk (Or.inr rfl)]; simp only [actI])
theorem x_isub (hM : T.mt m = some M) (hd : decode M.1 pc = .ok (.isub, 1)) (hk : kil M.2.2.2.2.2.2 pc ls = ls) (hp : pc + 1 = pc') : evT T d m pc ls (.inl y :: .inl x :: st) s = evT T d m pc' ls (.inl (x - y) :: st) s := by
  subst hp
  exact evT_nx (by rw [act_eq hM hd hk (Or.inr rfl)]; simp only [actI])
theorem x_imul (hM : T.mt m = some M) (hd : decode M.1 pc = .ok (.imul, 1)) (hk : kil M.2.2.2.2.2.2 pc ls = ls) (hp : pc + 1 = pc') : evT T d m pc ls (.inl y :: .inl x :: st) s = evT T d m pc' ls (.inl (x * y) :: st) s := by
  subst hp
  exact evT_nx (by rw [act_eq hM hd hk (Or.inr rfl)]; simp only [actI])
theorem x_iand (hM : T.mt m = some M) (hd : decode M.1 pc = .ok (.iand, 1)) (hk : kil M.2.2.2.2.2.2 pc ls = ls) (hp : pc + 1 = pc') : evT T d m pc ls (.inl y :: .inl x :: st) s = evT T d m pc' ls (.inl (x &&& y) :: st) s := by
  subst hp
  exact evT_nx (by rw [act_eq hM hd hk (Or.inr rfl)]; simp only [actI])
theorem x_ior (hM : T.mt m = some M) (hd : decode M.1 pc = .ok (.ior, 1)) (hk : kil M.2.2.2.2.2.2 pc ls = ls) (hp : pc + 1 = pc') : evT T d m pc ls (.inl y :: .inl x :: st) s = evT T d m pc' ls (.inl (x ||| y) :: st) s := by
  subst hp
  exact evT_nx (by rw [act_eq hM hd hk (Or.inr rfl)]; simp only [actI])
theorem x_ixor (hM : T.mt m = some M) (hd : decode M.1 pc = .ok (.ixor, 1)) (hk : kil M.2.2.2.2.2.2 pc ls = ls) (hp : pc + 1 = pc') : evT T d m pc ls (.inl y :: .inl x :: st) s = evT T d m pc' ls (.inl (x ^^^ y) :: st) s := by
  subst hp
  exact evT_nx (by rw [act_eq hM hd hk (Or.inr rfl)]; simp only [actI])
theorem x_ishl (hM : T.mt m = some M) (hd : decode M.1 pc = .ok (.ishl, 1)) (hk : kil M.2.2.2.2.2.2 pc ls = ls) (hp : pc + 1 = pc') : evT T d m pc ls (.inl y :: .inl x :: st) s = evT T d m pc' ls (.inl (x <<< (y &&& 31)) :: st) s := by
  subst hp
  exact evT_nx (by rw [act_eq hM hd hk (Or.inr rfl)]; simp only [actI])
theorem x_ishr (hM : T.mt m = some M) (hd : decode M.1 pc = .ok (.ishr, 1)) (hk : kil M.2.2.2.2.2.2 pc ls = ls) (hp : pc + 1 = pc') : evT T d m pc ls (.inl y :: .inl x :: st) s = evT T d m pc' ls (.inl (x >>> (y &&& 31)) :: st) s := by
  subst hp
  exact evT_nx (by rw [act_eq hM hd hk (Or.inr rfl)]; simp only [actI])
theorem x_iushr (hM : T.mt m = some M) (hd : decode M.1 pc = .ok (.iushr, 1)) (hk : kil M.2.2.2.2.2.2 pc ls = ls) (hp : pc + 1 = pc') : evT T d m pc ls (.inl y :: .inl x :: st) s = evT T d m pc' ls (.inl ((x.toUInt32 >>> (y.toUInt32 &&& Int32.toUInt32 31)).toInt32) :: st) s := by
  subst hp
  exact evT_nx (by rw [act_eq hM hd hk (Or.inr rfl)]; simp only [actI])
theorem x_idiv (hM : T.mt m = some M) (hd : decode M.1 pc = .ok (.idiv, 1)) (hk : kil M.2.2.2.2.2.2 pc ls = ls) (hp : pc + 1 = pc') (hy : ¬ y = 0) : evT T d m pc ls (.inl y :: .inl x :: st) s = evT T d m pc' ls (.inl (x / y) :: st) s := by
  subst hp
  exact evT_nx (by rw [act_eq hM hd hk (Or.inr rfl)]; simp only [actI]; rw [if_neg hy])
theorem x_idiv0 (hM : T.mt m = some M) (hd : decode M.1 pc = .ok (.idiv, 1)) (hk : kil M.2.2.2.2.2.2 pc ls = ls) (hp : pc + 1 = pc') : evT T d m pc ls (.inl y :: .inl x :: st) s = if y = 0 then none else evT T d m pc' ls (.inl (x / y) :: st) s := by
  by_cases hy : y = 0
  · rw [if_pos hy]; exact evT_no (by rw [act_eq hM hd hk (Or.inr rfl)]; simp only [actI]; rw [if_pos hy])
  · rw [if_neg hy]; exact x_idiv hM hd hk hp hy
theorem x_irem (hM : T.mt m = some M) (hd : decode M.1 pc = .ok (.irem, 1)) (hk : kil M.2.2.2.2.2.2 pc ls = ls) (hp : pc + 1 = pc') (hy : ¬ y = 0) : evT T d m pc ls (.inl y :: .inl x :: st) s = evT T d m pc' ls (.inl (x - x / y * y) :: st) s := by
  subst hp
  exact evT_nx (by rw [act_eq hM hd hk (Or.inr rfl)]; simp only [actI]; rw [if_neg hy])
theorem x_irem0 (hM : T.mt m = some M) (hd : decode M.1 pc = .ok (.irem, 1)) (hk : kil M.2.2.2.2.2.2 pc ls = ls) (hp : pc + 1 = pc') : evT T d m pc ls (.inl y :: .inl x :: st) s = if y = 0 then none else evT T d m pc' ls (.inl (x - x / y * y) :: st) s := by
  by_cases hy : y = 0
  · rw [if_pos hy]; exact evT_no (by rw [act_eq hM hd hk (Or.inr rfl)]; simp only [actI]; rw [if_pos hy])
  · rw [if_neg hy]; exact x_irem hM hd hk hp hy
theorem x_ineg (hM : T.mt m = some M) (hd : decode M.1 pc = .ok (.ineg, 1)) (hk : kil M.2.2.2.2.2.2 pc ls = ls) (hp : pc + 1 = pc') : evT T d m pc ls (.inl x :: st) s = evT T d m pc' ls (.inl (-x) :: st) s := by
  subst hp
  exact evT_nx (by rw [act_eq hM hd hk (Or.inr rfl)]; simp only [actI])
theorem x_i2b (hM : T.mt m = some M) (hd : decode M.1 pc = .ok (.i2b, 1)) (hk : kil M.2.2.2.2.2.2 pc ls = ls) (hp : pc + 1 = pc') : evT T d m pc ls (.inl x :: st) s = evT T d m pc' ls (.inl (x.toInt8.toInt32) :: st) s := by
  subst hp
  exact evT_nx (by rw [act_eq hM hd hk (Or.inr rfl)]; simp only [actI])
theorem x_i2s (hM : T.mt m = some M) (hd : decode M.1 pc = .ok (.i2s, 1)) (hk : kil M.2.2.2.2.2.2 pc ls = ls) (hp : pc + 1 = pc') : evT T d m pc ls (.inl x :: st) s = evT T d m pc' ls (.inl (x.toInt16.toInt32) :: st) s := by
  subst hp
  exact evT_nx (by rw [act_eq hM hd hk (Or.inr rfl)]; simp only [actI])
theorem x_i2c (hM : T.mt m = some M) (hd : decode M.1 pc = .ok (.i2c, 1)) (hk : kil M.2.2.2.2.2.2 pc ls = ls) (hp : pc + 1 = pc') : evT T d m pc ls (.inl x :: st) s = evT T d m pc' ls (.inl ((x.toUInt32 % 65536).toInt32) :: st) s := by
  subst hp
  exact evT_nx (by rw [act_eq hM hd hk (Or.inr rfl)]; simp only [actI])
theorem x_dup {a : mV} (hM : T.mt m = some M) (hd : decode M.1 pc = .ok (.dup, 1)) (hk : kil M.2.2.2.2.2.2 pc ls = ls) (hp : pc + 1 = pc') : evT T d m pc ls (a :: st) s = evT T d m pc' ls (a :: a :: st) s := by
  subst hp
  exact evT_nx (by rw [act_eq hM hd hk (Or.inr rfl)]; simp only [actI])
theorem x_dup_x1 {a b : mV} (hM : T.mt m = some M) (hd : decode M.1 pc = .ok (.dup_x1, 1)) (hk : kil M.2.2.2.2.2.2 pc ls = ls) (hp : pc + 1 = pc') : evT T d m pc ls (a :: b :: st) s = evT T d m pc' ls (a :: b :: a :: st) s := by
  subst hp
  exact evT_nx (by rw [act_eq hM hd hk (Or.inr rfl)]; simp only [actI])
theorem x_dup2 {a b : mV} (hM : T.mt m = some M) (hd : decode M.1 pc = .ok (.dup2, 1)) (hk : kil M.2.2.2.2.2.2 pc ls = ls) (hp : pc + 1 = pc') : evT T d m pc ls (a :: b :: st) s = evT T d m pc' ls (a :: b :: a :: b :: st) s := by
  subst hp
  exact evT_nx (by rw [act_eq hM hd hk (Or.inr rfl)]; simp only [actI])
theorem x_pop {a : mV} (hM : T.mt m = some M) (hd : decode M.1 pc = .ok (.pop, 1)) (hk : kil M.2.2.2.2.2.2 pc ls = ls) (hp : pc + 1 = pc') : evT T d m pc ls (a :: st) s = evT T d m pc' ls st s := by
  subst hp
  exact evT_nx (by rw [act_eq hM hd hk (Or.inr rfl)]; simp only [actI])
theorem x_if_eq {off : Int} {t : Nat} (hM : T.mt m = some M) (hd : decode M.1 pc = .ok (.ifCond .eq off, 3)) (hk : kil M.2.2.2.2.2.2 pc ls = ls) (hp : pc + 3 = pc') (ht : (pc : Int) + off = .ofNat t) : evT T d m pc ls (.inl x :: st) s = if x = 0 then evT T d m t ls st s else evT T d m pc' ls st s := by
  subst hp
  by_cases hc : x = 0
  · rw [if_pos hc]; exact evT_nx (by rw [act_eq hM hd hk (Or.inr rfl)]; simp only [actI, ht, cnd]; rw [if_pos hc])
  · rw [if_neg hc]; exact evT_nx (by rw [act_eq hM hd hk (Or.inr rfl)]; simp only [actI, ht, cnd]; rw [if_neg hc])
theorem x_icmp_eq {off : Int} {t : Nat} (hM : T.mt m = some M) (hd : decode M.1 pc = .ok (.if_icmp .eq off, 3)) (hk : kil M.2.2.2.2.2.2 pc ls = ls) (hp : pc + 3 = pc') (ht : (pc : Int) + off = .ofNat t) : evT T d m pc ls (.inl y :: .inl x :: st) s = if x = y then evT T d m t ls st s else evT T d m pc' ls st s := by
  subst hp
  by_cases hc : x = y
  · rw [if_pos hc]; exact evT_nx (by rw [act_eq hM hd hk (Or.inr rfl)]; simp only [actI, ht, cnd]; rw [if_pos hc])
  · rw [if_neg hc]; exact evT_nx (by rw [act_eq hM hd hk (Or.inr rfl)]; simp only [actI, ht, cnd]; rw [if_neg hc])
theorem x_if_ne {off : Int} {t : Nat} (hM : T.mt m = some M) (hd : decode M.1 pc = .ok (.ifCond .ne off, 3)) (hk : kil M.2.2.2.2.2.2 pc ls = ls) (hp : pc + 3 = pc') (ht : (pc : Int) + off = .ofNat t) : evT T d m pc ls (.inl x :: st) s = if ¬ x = 0 then evT T d m t ls st s else evT T d m pc' ls st s := by
  subst hp
  by_cases hc : ¬ x = 0
  · rw [if_pos hc]; exact evT_nx (by rw [act_eq hM hd hk (Or.inr rfl)]; simp only [actI, ht, cnd]; rw [if_pos hc])
  · rw [if_neg hc]; exact evT_nx (by rw [act_eq hM hd hk (Or.inr rfl)]; simp only [actI, ht, cnd]; rw [if_neg hc])
theorem x_icmp_ne {off : Int} {t : Nat} (hM : T.mt m = some M) (hd : decode M.1 pc = .ok (.if_icmp .ne off, 3)) (hk : kil M.2.2.2.2.2.2 pc ls = ls) (hp : pc + 3 = pc') (ht : (pc : Int) + off = .ofNat t) : evT T d m pc ls (.inl y :: .inl x :: st) s = if ¬ x = y then evT T d m t ls st s else evT T d m pc' ls st s := by
  subst hp
  by_cases hc : ¬ x = y
  · rw [if_pos hc]; exact evT_nx (by rw [act_eq hM hd hk (Or.inr rfl)]; simp only [actI, ht, cnd]; rw [if_pos hc])
  · rw [if_neg hc]; exact evT_nx (by rw [act_eq hM hd hk (Or.inr rfl)]; simp only [actI, ht, cnd]; rw [if_neg hc])
theorem x_if_lt {off : Int} {t : Nat} (hM : T.mt m = some M) (hd : decode M.1 pc = .ok (.ifCond .lt off, 3)) (hk : kil M.2.2.2.2.2.2 pc ls = ls) (hp : pc + 3 = pc') (ht : (pc : Int) + off = .ofNat t) : evT T d m pc ls (.inl x :: st) s = if x < 0 then evT T d m t ls st s else evT T d m pc' ls st s := by
  subst hp
  by_cases hc : x < 0
  · rw [if_pos hc]; exact evT_nx (by rw [act_eq hM hd hk (Or.inr rfl)]; simp only [actI, ht, cnd]; rw [if_pos hc])
  · rw [if_neg hc]; exact evT_nx (by rw [act_eq hM hd hk (Or.inr rfl)]; simp only [actI, ht, cnd]; rw [if_neg hc])
theorem x_icmp_lt {off : Int} {t : Nat} (hM : T.mt m = some M) (hd : decode M.1 pc = .ok (.if_icmp .lt off, 3)) (hk : kil M.2.2.2.2.2.2 pc ls = ls) (hp : pc + 3 = pc') (ht : (pc : Int) + off = .ofNat t) : evT T d m pc ls (.inl y :: .inl x :: st) s = if x < y then evT T d m t ls st s else evT T d m pc' ls st s := by
  subst hp
  by_cases hc : x < y
  · rw [if_pos hc]; exact evT_nx (by rw [act_eq hM hd hk (Or.inr rfl)]; simp only [actI, ht, cnd]; rw [if_pos hc])
  · rw [if_neg hc]; exact evT_nx (by rw [act_eq hM hd hk (Or.inr rfl)]; simp only [actI, ht, cnd]; rw [if_neg hc])
theorem x_if_ge {off : Int} {t : Nat} (hM : T.mt m = some M) (hd : decode M.1 pc = .ok (.ifCond .ge off, 3)) (hk : kil M.2.2.2.2.2.2 pc ls = ls) (hp : pc + 3 = pc') (ht : (pc : Int) + off = .ofNat t) : evT T d m pc ls (.inl x :: st) s = if 0 ≤ x then evT T d m t ls st s else evT T d m pc' ls st s := by
  subst hp
  by_cases hc : 0 ≤ x
  · rw [if_pos hc]; exact evT_nx (by rw [act_eq hM hd hk (Or.inr rfl)]; simp only [actI, ht, cnd]; rw [if_pos hc])
  · rw [if_neg hc]; exact evT_nx (by rw [act_eq hM hd hk (Or.inr rfl)]; simp only [actI, ht, cnd]; rw [if_neg hc])
theorem x_icmp_ge {off : Int} {t : Nat} (hM : T.mt m = some M) (hd : decode M.1 pc = .ok (.if_icmp .ge off, 3)) (hk : kil M.2.2.2.2.2.2 pc ls = ls) (hp : pc + 3 = pc') (ht : (pc : Int) + off = .ofNat t) : evT T d m pc ls (.inl y :: .inl x :: st) s = if y ≤ x then evT T d m t ls st s else evT T d m pc' ls st s := by
  subst hp
  by_cases hc : y ≤ x
  · rw [if_pos hc]; exact evT_nx (by rw [act_eq hM hd hk (Or.inr rfl)]; simp only [actI, ht, cnd]; rw [if_pos hc])
  · rw [if_neg hc]; exact evT_nx (by rw [act_eq hM hd hk (Or.inr rfl)]; simp only [actI, ht, cnd]; rw [if_neg hc])
theorem x_if_gt {off : Int} {t : Nat} (hM : T.mt m = some M) (hd : decode M.1 pc = .ok (.ifCond .gt off, 3)) (hk : kil M.2.2.2.2.2.2 pc ls = ls) (hp : pc + 3 = pc') (ht : (pc : Int) + off = .ofNat t) : evT T d m pc ls (.inl x :: st) s = if 0 < x then evT T d m t ls st s else evT T d m pc' ls st s := by
  subst hp
  by_cases hc : 0 < x
  · rw [if_pos hc]; exact evT_nx (by rw [act_eq hM hd hk (Or.inr rfl)]; simp only [actI, ht, cnd]; rw [if_pos hc])
  · rw [if_neg hc]; exact evT_nx (by rw [act_eq hM hd hk (Or.inr rfl)]; simp only [actI, ht, cnd]; rw [if_neg hc])
theorem x_icmp_gt {off : Int} {t : Nat} (hM : T.mt m = some M) (hd : decode M.1 pc = .ok (.if_icmp .gt off, 3)) (hk : kil M.2.2.2.2.2.2 pc ls = ls) (hp : pc + 3 = pc') (ht : (pc : Int) + off = .ofNat t) : evT T d m pc ls (.inl y :: .inl x :: st) s = if y < x then evT T d m t ls st s else evT T d m pc' ls st s := by
  subst hp
  by_cases hc : y < x
  · rw [if_pos hc]; exact evT_nx (by rw [act_eq hM hd hk (Or.inr rfl)]; simp only [actI, ht, cnd]; rw [if_pos hc])
  · rw [if_neg hc]; exact evT_nx (by rw [act_eq hM hd hk (Or.inr rfl)]; simp only [actI, ht, cnd]; rw [if_neg hc])
theorem x_if_le {off : Int} {t : Nat} (hM : T.mt m = some M) (hd : decode M.1 pc = .ok (.ifCond .le off, 3)) (hk : kil M.2.2.2.2.2.2 pc ls = ls) (hp : pc + 3 = pc') (ht : (pc : Int) + off = .ofNat t) : evT T d m pc ls (.inl x :: st) s = if x ≤ 0 then evT T d m t ls st s else evT T d m pc' ls st s := by
  subst hp
  by_cases hc : x ≤ 0
  · rw [if_pos hc]; exact evT_nx (by rw [act_eq hM hd hk (Or.inr rfl)]; simp only [actI, ht, cnd]; rw [if_pos hc])
  · rw [if_neg hc]; exact evT_nx (by rw [act_eq hM hd hk (Or.inr rfl)]; simp only [actI, ht, cnd]; rw [if_neg hc])
theorem x_icmp_le {off : Int} {t : Nat} (hM : T.mt m = some M) (hd : decode M.1 pc = .ok (.if_icmp .le off, 3)) (hk : kil M.2.2.2.2.2.2 pc ls = ls) (hp : pc + 3 = pc') (ht : (pc : Int) + off = .ofNat t) : evT T d m pc ls (.inl y :: .inl x :: st) s = if x ≤ y then evT T d m t ls st s else evT T d m pc' ls st s := by
  subst hp
  by_cases hc : x ≤ y
  · rw [if_pos hc]; exact evT_nx (by rw [act_eq hM hd hk (Or.inr rfl)]; simp only [actI, ht, cnd]; rw [if_pos hc])
  · rw [if_neg hc]; exact evT_nx (by rw [act_eq hM hd hk (Or.inr rfl)]; simp only [actI, ht, cnd]; rw [if_neg hc])
theorem x_goto {off : Int} {t : Nat} (hM : T.mt m = some M) (hd : decode M.1 pc = .ok (.goto off, 3)) (hk : kil M.2.2.2.2.2.2 pc ls = ls) (ht : (pc : Int) + off = .ofNat t) : evT T d m pc ls st s = evT T d m t ls st s :=
  evT_nx (by rw [act_eq hM hd hk (Or.inr rfl)]; simp only [actI, jmp, ht])
theorem x_tsw {dflt lo hi : Int} {offs : Array Int} {len : Nat} (hM : T.mt m = some M) (hd : decode M.1 pc = .ok (.tableswitch dflt lo hi offs, len)) (hk : kil M.2.2.2.2.2.2 pc ls = ls) {f : Int32 → Nat} (ht : ∀ x : Int32, ∃ off, tblsw dflt lo hi offs x = some off ∧ (pc : Int) + off = .ofNat (f x)) : evT T d m pc ls (.inl x :: st) s = evT T d m (f x) ls st s := by
  obtain ⟨off, h1, h2⟩ := ht x
  exact evT_nx (by rw [act_eq hM hd hk (Or.inl rfl)]; simp only [actI, h1, jmp, h2])
theorem x_lsw {dflt : Int} {ps : Array (Int × Int)} {len : Nat} (hM : T.mt m = some M) (hd : decode M.1 pc = .ok (.lookupswitch dflt ps, len)) (hk : kil M.2.2.2.2.2.2 pc ls = ls) (hs : (ps.toList.zip (ps.toList.drop 1)).all (fun (a, next) => a.1 < next.1) = true) {f : Int32 → Nat} (ht : ∀ x : Int32, (pc : Int) + Op.lookupswitch.offset ps.toList dflt x.toInt = .ofNat (f x)) : evT T d m pc ls (.inl x :: st) s = evT T d m (f x) ls st s :=
  evT_nx (by rw [act_eq hM hd hk (Or.inl rfl)]; simp only [actI]; rw [if_pos hs]; simp only [jmp, ht x])
theorem x_getI {k ci j : Nat} (hM : T.mt m = some M) (hd : decode M.1 pc = .ok (.getfield k, 3)) (hk : kil M.2.2.2.2.2.2 pc ls = ls) (hp : pc + 3 = pc') (hf : T.fr M.2.1 k = some (ci, j)) (h1 : (T.sh q).1 = ci ∧ j < (T.sh q).2) (h2 : T.rf q j = 0) (h3 : T.mr q j = false) : evT T d m pc ls (.inr q :: st) s = evT T d m pc' ls (.inl (s q j) :: st) s := by
  subst hp
  exact evT_nx (by rw [act_eq hM hd hk (Or.inr rfl)]; simp only [actI, hf]; rw [if_pos h1]; simp only [h2, h3, Bool.false_eq_true, if_false])
theorem x_getM {k ci j : Nat} (hM : T.mt m = some M) (hd : decode M.1 pc = .ok (.getfield k, 3)) (hk : kil M.2.2.2.2.2.2 pc ls = ls) (hp : pc + 3 = pc') (hf : T.fr M.2.1 k = some (ci, j)) (h1 : (T.sh q).1 = ci ∧ j < (T.sh q).2) (h2 : T.rf q j = 0) (h3 : T.mr q j = true) (h0 : ix (s q j) ≠ 0) : evT T d m pc ls (.inr q :: st) s = evT T d m pc' ls (.inr (ix (s q j)) :: st) s := by
  subst hp
  exact evT_nx (by rw [act_eq hM hd hk (Or.inr rfl)]; simp only [actI, hf]; rw [if_pos h1]; simp only [h2, h3, if_true, h0, if_false])
theorem x_getR {k ci j t : Nat} (hM : T.mt m = some M) (hd : decode M.1 pc = .ok (.getfield k, 3)) (hk : kil M.2.2.2.2.2.2 pc ls = ls) (hp : pc + 3 = pc') (hf : T.fr M.2.1 k = some (ci, j)) (h1 : (T.sh q).1 = ci ∧ j < (T.sh q).2) (h2 : T.rf q j = t + 1) : evT T d m pc ls (.inr q :: st) s = evT T d m pc' ls (.inr (t + 1) :: st) s := by
  subst hp
  exact evT_nx (by rw [act_eq hM hd hk (Or.inr rfl)]; simp only [actI, hf]; rw [if_pos h1]; simp only [h2])
theorem x_putI {k ci j : Nat} (hM : T.mt m = some M) (hd : decode M.1 pc = .ok (.putfield k, 3)) (hk : kil M.2.2.2.2.2.2 pc ls = ls) (hp : pc + 3 = pc') (hf : T.fr M.2.1 k = some (ci, j)) (h1 : (T.sh q).1 = ci ∧ j < (T.sh q).2 ∧ T.rf q j = 0 ∧ T.mr q j = false ∧ (T.bf ci j = false ∨ v = 0 ∨ v = 1)) : evT T d m pc ls (.inl v :: .inr q :: st) s = evT T d m pc' ls st (up s q j v) := by
  subst hp
  exact evT_nx (by rw [act_eq hM hd hk (Or.inr rfl)]; simp only [actI, hf]; rw [if_pos h1])
theorem x_putB {k ci j : Nat} (hM : T.mt m = some M) (hd : decode M.1 pc = .ok (.putfield k, 3)) (hk : kil M.2.2.2.2.2.2 pc ls = ls) (hp : pc + 3 = pc') (hf : T.fr M.2.1 k = some (ci, j)) (h1 : (T.sh q).1 = ci ∧ j < (T.sh q).2 ∧ T.rf q j = 0 ∧ T.mr q j = false) : evT T d m pc ls (.inl v :: .inr q :: st) s = if v = 0 ∨ v = 1 then evT T d m pc' ls st (up s q j v) else if T.bf ci j = false then evT T d m pc' ls st (up s q j v) else none := by
  obtain ⟨a, b, c, e⟩ := h1
  by_cases hv : v = 0 ∨ v = 1
  · rw [if_pos hv]; exact x_putI hM hd hk hp hf ⟨a, b, c, e, Or.inr hv⟩
  · rw [if_neg hv]
    by_cases hb : T.bf ci j = false
    · rw [if_pos hb]; exact x_putI hM hd hk hp hf ⟨a, b, c, e, Or.inl hb⟩
    · rw [if_neg hb]
      exact evT_no (by rw [act_eq hM hd hk (Or.inr rfl)]; simp only [actI, hf]; rw [if_neg (fun z => z.2.2.2.2.elim hb hv)])
theorem x_putM {k ci j a : Nat} (hM : T.mt m = some M) (hd : decode M.1 pc = .ok (.putfield k, 3)) (hk : kil M.2.2.2.2.2.2 pc ls = ls) (hp : pc + 3 = pc') (hf : T.fr M.2.1 k = some (ci, j)) (h1 : (T.sh q).1 = ci ∧ j < (T.sh q).2 ∧ T.rf q j = 0 ∧ T.mr q j = true ∧ a < 256 ∧ a ≠ 0) : evT T d m pc ls (.inr a :: .inr q :: st) s = evT T d m pc' ls st (up s q j (nI a)) := by
  subst hp
  exact evT_nx (by rw [act_eq hM hd hk (Or.inr rfl)]; simp only [actI, hf]; rw [if_pos h1])
theorem x_alen {k : Nat} (hM : T.mt m = some M) (hd : decode M.1 pc = .ok (.arraylength, 1)) (hk : kil M.2.2.2.2.2.2 pc ls = ls) (hp : pc + 1 = pc') (h1 : T.sh q = (k, n)) (h2 : 20 ≤ k ∧ k < 24) (hv : Int32.ofNat n = v) : evT T d m pc ls (.inr q :: st) s = evT T d m pc' ls (.inl v :: st) s := by
  subst hp; subst hv
  exact evT_nx (by rw [act_eq hM hd hk (Or.inr rfl)]; simp only [actI, h1]; rw [if_pos h2])

theorem x_iaload (hM : T.mt m = some M) (hd : decode M.1 pc = .ok (.iaload, 1)) (hk : kil M.2.2.2.2.2.2 pc ls = ls) (hp : pc + 1 = pc') (h1 : T.sh q = (20, n)) : evT T d m pc ls (.inl x :: .inr q :: st) s = if inb x n = true then evT T d m pc' ls (.inl (s q (ix x)) :: st) s else none := by
  subst hp
  by_cases hi : inb x n = true
  · rw [if_pos hi]; exact evT_nx (by rw [act_eq hM hd hk (Or.inr rfl)]; simp only [actI, h1]; rw [if_pos ⟨trivial, hi⟩])
  · rw [if_neg hi]; exact evT_no (by rw [act_eq hM hd hk (Or.inr rfl)]; simp only [actI, h1]; rw [if_neg (fun z => hi z.2)])
theorem x_caload (hM : T.mt m = some M) (hd : decode M.1 pc = .ok (.caload, 1)) (hk : kil M.2.2.2.2.2.2 pc ls = ls) (hp : pc + 1 = pc') (h1 : T.sh q = (21, n)) : evT T d m pc ls (.inl x :: .inr q :: st) s = if inb x n = true then evT T d m pc' ls (.inl (s q (ix x)) :: st) s else none := by
  subst hp
  by_cases hi : inb x n = true
  · rw [if_pos hi]; exact evT_nx (by rw [act_eq hM hd hk (Or.inr rfl)]; simp only [actI, h1]; rw [if_pos ⟨trivial, hi⟩])
  · rw [if_neg hi]; exact evT_no (by rw [act_eq hM hd hk (Or.inr rfl)]; simp only [actI, h1]; rw [if_neg (fun z => hi z.2)])
theorem x_baload {k : Nat} (hM : T.mt m = some M) (hd : decode M.1 pc = .ok (.baload, 1)) (hk : kil M.2.2.2.2.2.2 pc ls = ls) (hp : pc + 1 = pc') (h1 : T.sh q = (k, n)) (h2 : k = 22 ∨ k = 23) : evT T d m pc ls (.inl x :: .inr q :: st) s = if inb x n = true then evT T d m pc' ls (.inl (s q (ix x)) :: st) s else none := by
  subst hp
  by_cases hi : inb x n = true
  · rw [if_pos hi]; exact evT_nx (by rw [act_eq hM hd hk (Or.inr rfl)]; simp only [actI, h1]; rw [if_pos ⟨h2, hi⟩])
  · rw [if_neg hi]; exact evT_no (by rw [act_eq hM hd hk (Or.inr rfl)]; simp only [actI, h1]; rw [if_neg (fun z => hi z.2)])
theorem x_iastore (hM : T.mt m = some M) (hd : decode M.1 pc = .ok (.iastore, 1)) (hk : kil M.2.2.2.2.2.2 pc ls = ls) (hp : pc + 1 = pc') (h1 : T.sh q = (20, n)) : evT T d m pc ls (.inl v :: .inl x :: .inr q :: st) s = if inb x n = true then evT T d m pc' ls st (up s q (ix x) v) else none := by
  subst hp
  by_cases hi : inb x n = true
  · rw [if_pos hi]; exact evT_nx (by rw [act_eq hM hd hk (Or.inr rfl)]; simp only [actI, h1]; rw [if_pos ⟨trivial, hi⟩])
  · rw [if_neg hi]; exact evT_no (by rw [act_eq hM hd hk (Or.inr rfl)]; simp only [actI, h1]; rw [if_neg (fun z => hi z.2)])
theorem x_castore (hM : T.mt m = some M) (hd : decode M.1 pc = .ok (.castore, 1)) (hk : kil M.2.2.2.2.2.2 pc ls = ls) (hp : pc + 1 = pc') (h1 : T.sh q = (21, n)) : evT T d m pc ls (.inl v :: .inl x :: .inr q :: st) s = if inb x n = true then evT T d m pc' ls st (up s q (ix x) (vp_nar .char v)) else none := by
  subst hp
  by_cases hi : inb x n = true
  · rw [if_pos hi]; exact evT_nx (by rw [act_eq hM hd hk (Or.inr rfl)]; simp only [actI, h1]; rw [if_pos ⟨trivial, hi⟩])
  · rw [if_neg hi]; exact evT_no (by rw [act_eq hM hd hk (Or.inr rfl)]; simp only [actI, h1]; rw [if_neg (fun z => hi z.2)])
theorem x_bastoreB (hM : T.mt m = some M) (hd : decode M.1 pc = .ok (.bastore, 1)) (hk : kil M.2.2.2.2.2.2 pc ls = ls) (hp : pc + 1 = pc') (h1 : T.sh q = (22, n)) : evT T d m pc ls (.inl v :: .inl x :: .inr q :: st) s = if inb x n = true then evT T d m pc' ls st (up s q (ix x) (vp_nar .byte v)) else none := by
  subst hp
  by_cases hi : inb x n = true
  · rw [if_pos hi]; exact evT_nx (by rw [act_eq hM hd hk (Or.inr rfl)]; simp only [actI, h1]; rw [if_pos ⟨trivial, hi⟩])
  · rw [if_neg hi]; exact evT_no (by rw [act_eq hM hd hk (Or.inr rfl)]; simp only [actI, h1]; rw [if_neg (fun z => hi z.2), if_neg (fun z => hi z.2)])
theorem x_bastoreZ (hM : T.mt m = some M) (hd : decode M.1 pc = .ok (.bastore, 1)) (hk : kil M.2.2.2.2.2.2 pc ls = ls) (hp : pc + 1 = pc') (h1 : T.sh q = (23, n)) : evT T d m pc ls (.inl v :: .inl x :: .inr q :: st) s = if inb x n = true then evT T d m pc' ls st (up s q (ix x) (vp_nar .boolean v)) else none := by
  subst hp
  by_cases hi : inb x n = true
  · rw [if_pos hi]; exact evT_nx (by rw [act_eq hM hd hk (Or.inr rfl)]; simp only [actI, h1]; rw [if_neg (fun z => absurd z.1 (by decide)), if_pos ⟨trivial, hi⟩])
  · rw [if_neg hi]; exact evT_no (by rw [act_eq hM hd hk (Or.inr rfl)]; simp only [actI, h1]; rw [if_neg (fun z => hi z.2), if_neg (fun z => hi z.2)])
theorem x_acopy {k a b na nb : Nat} {sp dp z : Int32} (hM : T.mt m = some M) (hd : decode M.1 pc = .ok (.invokestatic k, 3)) (hk : kil M.2.2.2.2.2.2 pc ls = ls) (hp : pc + 3 = pc') (hac : T.ac M.2.1 k = 1) (ha : T.sh a = (20, na)) (hb : T.sh b = (20, nb)) (hab : a ≠ b) (hs : sml st = true) : evT T d m pc ls (.inl z :: .inl dp :: .inr b :: .inl sp :: .inr a :: st) s = if ¬ sp < 0 ∧ ¬ dp < 0 ∧ ¬ z < 0 ∧ sp.toNatClampNeg + z.toNatClampNeg ≤ na ∧ dp.toNatClampNeg + z.toNatClampNeg ≤ nb then evT T d m pc' ls st (cpA s a sp b dp z) else none := by
  subst hp
  by_cases hi : ¬ sp < 0 ∧ ¬ dp < 0 ∧ ¬ z < 0 ∧ sp.toNatClampNeg + z.toNatClampNeg ≤ na ∧ dp.toNatClampNeg + z.toNatClampNeg ≤ nb
  · rw [if_pos hi]; exact evT_nx (by rw [act_eq hM hd hk (Or.inr rfl)]; simp only [actI, hac, ha, hb]; rw [if_pos ⟨trivial, trivial, hab, hi.1, hi.2.1, hi.2.2.1, hi.2.2.2.1, hi.2.2.2.2, hs⟩])
  · rw [if_neg hi]; exact evT_no (by rw [act_eq hM hd hk (Or.inr rfl)]; simp only [actI, hac, ha, hb]; rw [if_neg (fun y => hi ⟨y.2.2.2.1, y.2.2.2.2.1, y.2.2.2.2.2.1, y.2.2.2.2.2.2.1, y.2.2.2.2.2.2.2.1⟩)])
theorem x_max {k : Nat} (hM : T.mt m = some M) (hd : decode M.1 pc = .ok (.invokestatic k, 3)) (hk : kil M.2.2.2.2.2.2 pc ls = ls) (hp : pc + 3 = pc') (hac : T.ac M.2.1 k = 2) (hs : sml st = true) : evT T d m pc ls (.inl y :: .inl x :: st) s = evT T d m pc' ls (.inl (mmax x y) :: st) s := by
  subst hp
  exact evT_nx (by rw [act_eq hM hd hk (Or.inr rfl)]; simp only [actI, hac]; rw [if_pos hs])
theorem x_min {k : Nat} (hM : T.mt m = some M) (hd : decode M.1 pc = .ok (.invokestatic k, 3)) (hk : kil M.2.2.2.2.2.2 pc ls = ls) (hp : pc + 3 = pc') (hac : T.ac M.2.1 k = 3) (hs : sml st = true) : evT T d m pc ls (.inl y :: .inl x :: st) s = evT T d m pc' ls (.inl (mmin x y) :: st) s := by
  subst hp
  exact evT_nx (by rw [act_eq hM hd hk (Or.inr rfl)]; simp only [actI, hac]; rw [if_pos hs])
theorem x_abs {k : Nat} (hM : T.mt m = some M) (hd : decode M.1 pc = .ok (.invokestatic k, 3)) (hk : kil M.2.2.2.2.2.2 pc ls = ls) (hp : pc + 3 = pc') (hac : T.ac M.2.1 k = 4) (hs : sml st = true) : evT T d m pc ls (.inl x :: st) s = evT T d m pc' ls (.inl (mabs x) :: st) s := by
  subst hp
  exact evT_nx (by rw [act_eq hM hd hk (Or.inr rfl)]; simp only [actI, hac]; rw [if_pos hs])
theorem x_iret (hM : T.mt m = some M) (hd : decode M.1 pc = .ok (.ireturn, 1)) (hk : kil M.2.2.2.2.2.2 pc ls = ls) (hr : M.2.2.2.1 = 1) : evT T d m pc ls [.inl v] s = some (0, v, s) :=
  evT_dn (by rw [act_eq hM hd hk (Or.inr rfl)]; simp only [actI, hr, ret1])
theorem x_zret (hM : T.mt m = some M) (hd : decode M.1 pc = .ok (.ireturn, 1)) (hk : kil M.2.2.2.2.2.2 pc ls = ls) (hr : M.2.2.2.1 = 2) : evT T d m pc ls [.inl v] s = if v = 0 ∨ v = 1 then some (0, v, s) else none := by
  by_cases hv : v = 0 ∨ v = 1
  · rw [if_pos hv]; exact evT_dn (by rw [act_eq hM hd hk (Or.inr rfl)]; simp only [actI, hr, ret1]; rw [if_pos hv])
  · rw [if_neg hv]; exact evT_no (by rw [act_eq hM hd hk (Or.inr rfl)]; simp only [actI, hr, ret1]; rw [if_neg hv])
theorem x_zretC (hM : T.mt m = some M) (hd : decode M.1 pc = .ok (.ireturn, 1)) (hk : kil M.2.2.2.2.2.2 pc ls = ls) (hr : M.2.2.2.1 = 2) (hv : v = 0 ∨ v = 1) : evT T d m pc ls [.inl v] s = some (0, v, s) := by
  rw [x_zret hM hd hk hr, if_pos hv]
theorem x_aret (hM : T.mt m = some M) (hd : decode M.1 pc = .ok (.areturn, 1)) (hk : kil M.2.2.2.2.2.2 pc ls = ls) (hr : 3 ≤ M.2.2.2.1 ∧ q < 256) : evT T d m pc ls [.inr q] s = some (0, nI q, s) :=
  evT_dn (by rw [act_eq hM hd hk (Or.inr rfl)]; simp only [actI]; rw [if_pos hr])
theorem x_vret (hM : T.mt m = some M) (hd : decode M.1 pc = .ok (.return_, 1)) (hk : kil M.2.2.2.2.2.2 pc ls = ls) (hr : M.2.2.2.1 = 0) : evT T d m pc ls [] s = some (0, 0, s) :=
  evT_dn (by rw [act_eq hM hd hk (Or.inr rfl)]; simp only [actI]; rw [if_pos hr])
theorem x_new {k : Nat} (hM : T.mt m = some M) (hd : decode M.1 pc = .ok (.new k, 3)) (hk : kil M.2.2.2.2.2.2 pc ls = ls) (hp : pc + 1 = pc') : evT T d m pc ls [] s = some (pc', 0, s) := by
  subst hp
  exact evT_dn (by rw [act_eq hM hd hk (Or.inr rfl)]; simp only [actI])

theorem x_callVi {k m' q : Nat} {M' : mM} {as r0 : List mV} (hM : T.mt m = some M) (hd : decode M.1 pc = .ok (.invokevirtual k, 3)) (hk : kil M.2.2.2.2.2.2 pc ls = ls) (hp : pc + 3 = pc') (hcr : T.cr M.2.1 k = some m') (hM' : T.mt m' = some M') (hst : st.drop (M'.2.2.2.2.1 - 1) = .inr q :: r0) (h1 : M'.2.2.2.2.2.1 = false ∧ 1 ≤ M'.2.2.2.2.1 ∧ (T.sh q).1 = M'.2.1 ∧ M'.2.1 < 20) (hs : sml r0 = true) (has : pad M'.2.2.1 (.inr q :: (st.take (M'.2.2.2.2.1 - 1)).reverse) = as) (hr : M'.2.2.2.1 = 1 ∨ M'.2.2.2.1 = 2) : evT T (d + 1) m pc ls st s = bnd (evT T d m' 0 as [] s) (fun v s2 => evT T (d + 1) m pc' ls (.inl v :: r0) s2) := by
  subst hp; subst has
  rcases hr with hr | hr
  · exact evT_cl (k := 1) (by rw [act_eq hM hd hk (Or.inr rfl)]; simp only [actI, hcr, hM', hst]; rw [if_pos h1]; unfold invk; rw [if_pos hs]; simp only [hr])
  · exact evT_cl (k := 1) (by rw [act_eq hM hd hk (Or.inr rfl)]; simp only [actI, hcr, hM', hst]; rw [if_pos h1]; unfold invk; rw [if_pos hs]; simp only [hr])
theorem x_callVv {k m' q : Nat} {M' : mM} {as r0 : List mV} (hM : T.mt m = some M) (hd : decode M.1 pc = .ok (.invokevirtual k, 3)) (hk : kil M.2.2.2.2.2.2 pc ls = ls) (hp : pc + 3 = pc') (hcr : T.cr M.2.1 k = some m') (hM' : T.mt m' = some M') (hst : st.drop (M'.2.2.2.2.1 - 1) = .inr q :: r0) (h1 : M'.2.2.2.2.2.1 = false ∧ 1 ≤ M'.2.2.2.2.1 ∧ (T.sh q).1 = M'.2.1 ∧ M'.2.1 < 20) (hs : sml r0 = true) (has : pad M'.2.2.1 (.inr q :: (st.take (M'.2.2.2.2.1 - 1)).reverse) = as) (hr : M'.2.2.2.1 = 0) : evT T (d + 1) m pc ls st s = bnd (evT T d m' 0 as [] s) (fun _ s2 => evT T (d + 1) m pc' ls r0 s2) := by
  subst hp; subst has
  exact evT_cl (k := 0) (by rw [act_eq hM hd hk (Or.inr rfl)]; simp only [actI, hcr, hM', hst]; rw [if_pos h1]; unfold invk; rw [if_pos hs]; simp only [hr])
theorem x_callVt {k m' q : Nat} {M' : mM} {as r0 : List mV} (hM : T.mt m = some M) (hd : decode M.1 pc = .ok (.invokevirtual k, 3)) (hk : kil M.2.2.2.2.2.2 pc ls = ls) (hp : pc + 3 = pc') (hcr : T.cr M.2.1 k = some m') (hM' : T.mt m' = some M') (hst : st.drop (M'.2.2.2.2.1 - 1) = .inr q :: r0) (h1 : M'.2.2.2.2.2.1 = false ∧ 1 ≤ M'.2.2.2.2.1 ∧ (T.sh q).1 = M'.2.1 ∧ M'.2.1 < 20) (hs : sml r0 = true) (has : pad M'.2.2.1 (.inr q :: (st.take (M'.2.2.2.2.1 - 1)).reverse) = as) (hr : M'.2.2.2.1 = 3) (hq : q < 256) : evT T (d + 1) m pc ls st s = bnd (evT T d m' 0 as [] s) (fun v s2 => if v = nI q then evT T (d + 1) m pc' ls (.inr q :: r0) s2 else none) := by
  subst hp; subst has
  rw [evT_cl (k := q + 2) (m' := m') (as := pad M'.2.2.1 (.inr q :: (st.take (M'.2.2.2.2.1 - 1)).reverse)) (pc' := pc + 3) (ls' := ls) (st' := r0) (s' := s) (by rw [act_eq hM hd hk (Or.inr rfl)]; simp only [actI, hcr, hM', hst]; rw [if_pos h1]; unfold invk; rw [if_pos hs]; simp only [hr])]
  refine bnd_cg fun v s2 => ?_
  by_cases hv : v = nI q
  · rw [if_pos hv]; simp only [psh]; rw [if_pos ⟨hv, hq⟩]
  · rw [if_neg hv]; simp only [psh]; rw [if_neg (fun z => hv z.1)]
theorem x_callVf {j t : Nat} {k m' q : Nat} {M' : mM} {as r0 : List mV} (hM : T.mt m = some M) (hd : decode M.1 pc = .ok (.invokevirtual k, 3)) (hk : kil M.2.2.2.2.2.2 pc ls = ls) (hp : pc + 3 = pc') (hcr : T.cr M.2.1 k = some m') (hM' : T.mt m' = some M') (hst : st.drop (M'.2.2.2.2.1 - 1) = .inr q :: r0) (h1 : M'.2.2.2.2.2.1 = false ∧ 1 ≤ M'.2.2.2.2.1 ∧ (T.sh q).1 = M'.2.1 ∧ M'.2.1 < 20) (hs : sml r0 = true) (has : pad M'.2.2.1 (.inr q :: (st.take (M'.2.2.2.2.1 - 1)).reverse) = as) (hr : M'.2.2.2.1 = j + 4) (ht : T.rf q j = t) (hq : t < 256) : evT T (d + 1) m pc ls st s = bnd (evT T d m' 0 as [] s) (fun v s2 => if v = nI t then evT T (d + 1) m pc' ls (.inr t :: r0) s2 else none) := by
  subst hp; subst has; subst ht
  rw [evT_cl (k := T.rf q j + 2) (m' := m') (as := pad M'.2.2.1 (.inr q :: (st.take (M'.2.2.2.2.1 - 1)).reverse)) (pc' := pc + 3) (ls' := ls) (st' := r0) (s' := s) (by rw [act_eq hM hd hk (Or.inr rfl)]; simp only [actI, hcr, hM', hst]; rw [if_pos h1]; unfold invk; rw [if_pos hs]; simp only [hr])]
  refine bnd_cg fun v s2 => ?_
  by_cases hv : v = nI (T.rf q j)
  · rw [if_pos hv]; simp only [psh]; rw [if_pos ⟨hv, hq⟩]
  · rw [if_neg hv]; simp only [psh]; rw [if_neg (fun z => hv z.1)]
theorem x_callSi {k m' : Nat} {M' : mM} {as r0 : List mV} (hM : T.mt m = some M) (hd : decode M.1 pc = .ok (.invokestatic k, 3)) (hk : kil M.2.2.2.2.2.2 pc ls = ls) (hp : pc + 3 = pc') (hac : T.ac M.2.1 k = 0) (hcr : T.cr M.2.1 k = some m') (hM' : T.mt m' = some M') (hst : st.drop M'.2.2.2.2.1 = r0) (h1 : M'.2.2.2.2.2.1 = true ∧ M'.2.2.2.2.1 ≤ st.length) (hs : sml r0 = true) (has : pad M'.2.2.1 (st.take M'.2.2.2.2.1).reverse = as) (hr : M'.2.2.2.1 = 1 ∨ M'.2.2.2.1 = 2) : evT T (d + 1) m pc ls st s = bnd (evT T d m' 0 as [] s) (fun v s2 => evT T (d + 1) m pc' ls (.inl v :: r0) s2) := by
  subst hp; subst has
  rcases hr with hr | hr
  · exact evT_cl (k := 1) (by rw [act_eq hM hd hk (Or.inr rfl)]; simp only [actI, hac, hcr, hM', hst]; rw [if_pos h1]; unfold invk; rw [if_pos hs]; simp only [hr])
  · exact evT_cl (k := 1) (by rw [act_eq hM hd hk (Or.inr rfl)]; simp only [actI, hac, hcr, hM', hst]; rw [if_pos h1]; unfold invk; rw [if_pos hs]; simp only [hr])
theorem x_callSv {k m' : Nat} {M' : mM} {as r0 : List mV} (hM : T.mt m = some M) (hd : decode M.1 pc = .ok (.invokestatic k, 3)) (hk : kil M.2.2.2.2.2.2 pc ls = ls) (hp : pc + 3 = pc') (hac : T.ac M.2.1 k = 0) (hcr : T.cr M.2.1 k = some m') (hM' : T.mt m' = some M') (hst : st.drop M'.2.2.2.2.1 = r0) (h1 : M'.2.2.2.2.2.1 = true ∧ M'.2.2.2.2.1 ≤ st.length) (hs : sml r0 = true) (has : pad M'.2.2.1 (st.take M'.2.2.2.2.1).reverse = as) (hr : M'.2.2.2.1 = 0) : evT T (d + 1) m pc ls st s = bnd (evT T d m' 0 as [] s) (fun _ s2 => evT T (d + 1) m pc' ls r0 s2) := by
  subst hp; subst has
  exact evT_cl (k := 0) (by rw [act_eq hM hd hk (Or.inr rfl)]; simp only [actI, hac, hcr, hM', hst]; rw [if_pos h1]; unfold invk; rw [if_pos hs]; simp only [hr])
end MX
