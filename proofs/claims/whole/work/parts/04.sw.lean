section MSW
variable {p : Program} {l : Launch} {e : Env} {R : Room} {s : State} {mid : MethodId} {args : Array Value} {below : List Frame} {meth : Method} {c : Code} {Q : State → Prop} {cells slots : Nat}
variable {T : mT} {N : Nat} {cls : List vw_C} {TG : List Cond} {NX : mX} {nm : Nat → MethodName} {rty : Nat → Option FieldType} {CN : Nat → String} {ad : Nat → Nat} {ca : Nat → ClassId} {D : va_G} {A : Nat → Prop} {H0 : Heap}
variable {M : mM} {m d n pc : Nat} {ls st : List mV} {s1 : mS} {r : mR}
/-- the ways on from a machine state that the small machine's (pc, ls, st, s1) pictures -/
def mW (p : Program) (l : Launch) (e : Env) (R : Room) (s : State) (mid : MethodId) (args : Array Value) (below : List Frame) (meth : Method) (c : Code) (cells slots : Nat) (Q : State → Prop) (T : mT) (N : Nat) (cls : List vw_C) (ad : Nat → Nat) (ca : Nat → ClassId) (D : va_G) (A : Nat → Prop) (H0 : Heap) (nL : Nat) (pc : Nat) (ls st : List mV) (s1 : mS) : Prop :=
  ∀ (H : Heap) (locs : List Loc) (lr : Array Slot), va_P D cls (wsO T ad ca N s1) H → va_D A (wsO T ad ca N s1) → va_S A H0 H locs → lR ad nL ls lr → W p l e R s mid args below meth c H locs cells slots Q (F0 mid pc lr (st.map (rl ad)))
def kon (T : mT) (d n m : Nat) (a : mA) : Option mR := match a with
  | none => none
  | some (.inl (pc', ls', st', s')) => run T d n m pc' ls' st' s'
  | some (.inr (.inl r)) => some r
  | some (.inr (.inr (m', as, k, pc', ls', st', s'))) => match d with
    | 0 => none
    | d + 1 => match run T d n m' 0 as [] s' with
      | some (0, v, s2) => match psh k v st' with
        | some st2 => run T (d + 1) n m pc' ls' st2 s2
        | none => none
      | _ => none
theorem run_kon : run T d (n + 1) m pc ls st s1 = kon T d n m (act T m pc ls st s1) := run_succ
theorem kon_none {P : Prop} (h : kon T d n m none = some r) : P := by cases h
theorem kon_jmp {off : Int} (h : kon T d n m (jmp pc off ls st s1) = some r) : ∃ t : Nat, (pc : Int) + off = (t : Int) ∧ run T d n m t ls st s1 = some r := by
  unfold jmp at h
  cases hz : (pc : Int) + off with
  | ofNat t => rw [hz] at h; exact ⟨t, rfl, h⟩
  | negSucc t => rw [hz] at h; cases h
theorem kon_ite {P : Prop} [Decidable P] {a b : mA} (h : kon T d n m (if P then a else b) = some r) : (P ∧ kon T d n m a = some r) ∨ (¬ P ∧ kon T d n m b = some r) := by
  by_cases hp : P
  · rw [if_pos hp] at h; exact Or.inl ⟨hp, h⟩
  · rw [if_neg hp] at h; exact Or.inr ⟨hp, h⟩

/-- the end of a run: a return with its answer, or the place of a 'new' -/
def mE (p : Program) (l : Launch) (e : Env) (R : Room) (s : State) (mid : MethodId) (args : Array Value) (below : List Frame) (meth : Method) (c : Code) (cells slots : Nat) (Q : State → Prop) (T : mT) (N : Nat) (cls : List vw_C) (ad : Nat → Nat) (ca : Nat → ClassId) (D : va_G) (A : Nat → Prop) (H0 : Heap) (M : mM) (r : mR) : Prop :=
  (r.1 = 0 → ∀ (H1 : Heap) (locs1 : List Loc) (pc1 : Nat) (ls1 : Array Slot) (st1 : List Value), tOK ad M r.2.1 pc1 st1 → va_P D cls (wsO T ad ca N r.2.2) H1 → va_D A (wsO T ad ca N r.2.2) → va_S A H0 H1 locs1 → W p l e R s mid args below meth c H1 locs1 cells slots Q (F0 mid pc1 ls1 st1)) ∧
  (∀ pc1 : Nat, r.1 = pc1 + 1 → ∀ (H1 : Heap) (locs1 : List Loc) (ls1 : Array Slot) (idx : Nat), decode M.1 pc1 = .ok (.new idx, 3) → va_P D cls (wsO T ad ca N r.2.2) H1 → va_D A (wsO T ad ca N r.2.2) → va_S A H0 H1 locs1 → ls1.size = M.2.2.1 → W p l e R s mid args below meth c H1 locs1 cells slots Q (F0 mid pc1 ls1 []))

set_option maxHeartbeats 4000000 in
/-- an instruction that is no call -/
theorem sW_plain (hOK : mOK T N cls TG NX nm rty CN) (hx : p.tables.exec = Jvm.exec) (hb : c.code = M.1) (hml : c.maxLocals = M.2.2.1) (hown : s.vm.findClass (CN M.2.1) = some mid.cls) (hts : ∀ w ∈ TG, w.before args s = true) (hK : va_K D cls (tysO ca) s) (hfr : 1 ≤ R.frames) (hlo : 40 ≤ R.locals)
    (hE : mE p l e R s mid args below meth c cells slots Q T N cls ad ca D A H0 M r) (ih : ∀ (pc : Nat) (ls st : List mV) (s1 : mS), run T d n m pc ls st s1 = some r → mW p l e R s mid args below meth c cells slots Q T N cls ad ca D A H0 M.2.2.1 pc ls st s1)
    {i : Instr} {len : Nat} (hdec : decode M.1 pc = .ok (i, len)) (hlen : ilen i = 0 ∨ ilen i = len) (hnv : ∀ k, i ≠ .invokevirtual k) (hns : ∀ k, i ≠ .invokestatic k) (h : kon T d n m (actI T M i len pc ls st s1) = some r) : mW p l e R s mid args below meth c cells slots Q T N cls ad ca D A H0 M.2.2.1 pc ls st s1 := by
  intro H locs lr hP hD hS hl
  obtain ⟨o1, o2, o3, o4, o5, o6, o7, o8, o9⟩ := hOK
  cases i
  case iload k =>
    simp only [actI] at h
    obtain rfl : _ = len := hlen.resolve_left (by simp [ilen])
    split at h
    · next x hk => exact lv_iload hx hb hdec (lR_get hl hk (by simp)) (ih _ _ _ _ h H locs lr hP hD hS hl)
    · exact kon_none h
  case iload_n k =>
    simp only [actI] at h
    obtain rfl : _ = len := hlen.resolve_left (by simp [ilen])
    split at h
    · next x hk => exact lv_iload_n hx hb hdec rfl (lR_get hl hk (by simp)) (ih _ _ _ _ h H locs lr hP hD hS hl)
    · exact kon_none h
  case aload k =>
    simp only [actI] at h
    obtain rfl : _ = len := hlen.resolve_left (by simp [ilen])
    split at h
    · next q hk => exact lv_aload hx hb hdec (lR_get hl hk (by simp)) (ih _ _ _ _ h H locs lr hP hD hS hl)
    · exact kon_none h
  case aload_n k =>
    simp only [actI] at h
    obtain rfl : _ = len := hlen.resolve_left (by simp [ilen])
    split at h
    · next q hk => exact lv_aload_n hx hb hdec rfl (lR_get hl hk (by simp)) (ih _ _ _ _ h H locs lr hP hD hS hl)
    · exact kon_none h
  case istore k =>
    simp only [actI] at h
    obtain rfl : _ = len := hlen.resolve_left (by simp [ilen])
    split at h
    · next x r0 =>
      rcases kon_ite h with ⟨hk, h⟩ | ⟨-, h⟩
      · exact lv_istore hx hb hdec hl.2 (by rw [← hl.1]; exact hk) rfl (fun lr' hl' => ih _ _ _ _ h H locs lr' hP hD hS (lR_set (v := .inl x) hl hl'))
      · exact kon_none h
    · exact kon_none h
  case istore_n k =>
    simp only [actI] at h
    obtain rfl : _ = len := hlen.resolve_left (by simp [ilen])
    split at h
    · next x r0 =>
      rcases kon_ite h with ⟨hk, h⟩ | ⟨-, h⟩
      · exact lv_istore_n hx hb hdec rfl hl.2 (by rw [← hl.1]; exact hk) rfl (fun lr' hl' => ih _ _ _ _ h H locs lr' hP hD hS (lR_set (v := .inl x) hl hl'))
      · exact kon_none h
    · exact kon_none h
  case astore k =>
    simp only [actI] at h
    obtain rfl : _ = len := hlen.resolve_left (by simp [ilen])
    split at h
    · next x r0 =>
      rcases kon_ite h with ⟨hk, h⟩ | ⟨-, h⟩
      · exact lv_astore hx hb hdec hl.2 (by rw [← hl.1]; exact hk) rfl (fun lr' hl' => ih _ _ _ _ h H locs lr' hP hD hS (lR_set (v := .inr x) hl hl'))
      · exact kon_none h
    · exact kon_none h
  case astore_n k =>
    simp only [actI] at h
    obtain rfl : _ = len := hlen.resolve_left (by simp [ilen])
    split at h
    · next x r0 =>
      rcases kon_ite h with ⟨hk, h⟩ | ⟨-, h⟩
      · exact lv_astore_n hx hb hdec rfl hl.2 (by rw [← hl.1]; exact hk) rfl (fun lr' hl' => ih _ _ _ _ h H locs lr' hP hD hS (lR_set (v := .inr x) hl hl'))
      · exact kon_none h
    · exact kon_none h
  case iinc k c9 =>
    simp only [actI] at h
    obtain rfl : _ = len := hlen.resolve_left (by simp [ilen])
    split at h
    · next x hk =>
      have hm : (k, Value.int x) ∈ lL ad ls := lL_mem.mpr ⟨.inl x, hk, by simp, rfl⟩
      obtain ⟨j, hj⟩ := List.getElem?_of_mem hm
      exact lv_iinc hx hb hdec hl.2 hj rfl (by rw [← hl.1]; exact (List.getElem?_eq_some_iff.mp hk).1) rfl (fun lr' hl' => ih _ _ _ _ h H locs lr' hP hD hS (lR_set (v := .inl (x + Int32.ofInt c9)) hl hl'))
    · exact kon_none h
  case iconst c9 =>
    simp only [actI] at h
    obtain rfl : _ = len := hlen.resolve_left (by simp [ilen])
    exact lv_iconst hx hb hdec rfl (ih _ _ _ _ h H locs lr hP hD hS hl)
  case bipush c9 =>
    simp only [actI] at h
    obtain rfl : _ = len := hlen.resolve_left (by simp [ilen])
    exact lv_bipush hx hb hdec rfl (ih _ _ _ _ h H locs lr hP hD hS hl)
  case sipush c9 =>
    simp only [actI] at h
    obtain rfl : _ = len := hlen.resolve_left (by simp [ilen])
    exact lv_sipush hx hb hdec rfl (ih _ _ _ _ h H locs lr hP hD hS hl)
  case ldc k =>
    simp only [actI] at h
    obtain rfl : _ = len := hlen.resolve_left (by simp [ilen])
    split at h
    · next v hk => exact lv_ldc hx hb hown (hts _ (o7 _ _ _ hk)) hdec (ih _ _ _ _ h H locs lr hP hD hS hl)
    · exact kon_none h
  case ldc_w k =>
    simp only [actI] at h
    obtain rfl : _ = len := hlen.resolve_left (by simp [ilen])
    split at h
    · next v hk => exact lv_ldcw hx hb hown (hts _ (o7 _ _ _ hk)) hdec (ih _ _ _ _ h H locs lr hP hD hS hl)
    · exact kon_none h
  case iadd =>
    simp only [actI] at h
    obtain rfl : _ = len := hlen.resolve_left (by simp [ilen])
    split at h
    · exact lv_iadd hx hb hdec (ih _ _ _ _ h H locs lr hP hD hS hl)
    · exact kon_none h
  case isub =>
    simp only [actI] at h
    obtain rfl : _ = len := hlen.resolve_left (by simp [ilen])
    split at h
    · exact lv_isub hx hb hdec (ih _ _ _ _ h H locs lr hP hD hS hl)
    · exact kon_none h
  case imul =>
    simp only [actI] at h
    obtain rfl : _ = len := hlen.resolve_left (by simp [ilen])
    split at h
    · exact lv_imul hx hb hdec (ih _ _ _ _ h H locs lr hP hD hS hl)
    · exact kon_none h
  case iand =>
    simp only [actI] at h
    obtain rfl : _ = len := hlen.resolve_left (by simp [ilen])
    split at h
    · exact lv_iand hx hb hdec (ih _ _ _ _ h H locs lr hP hD hS hl)
    · exact kon_none h
  case ior =>
    simp only [actI] at h
    obtain rfl : _ = len := hlen.resolve_left (by simp [ilen])
    split at h
    · exact lv_ior hx hb hdec (ih _ _ _ _ h H locs lr hP hD hS hl)
    · exact kon_none h
  case ixor =>
    simp only [actI] at h
    obtain rfl : _ = len := hlen.resolve_left (by simp [ilen])
    split at h
    · exact lv_ixor hx hb hdec (ih _ _ _ _ h H locs lr hP hD hS hl)
    · exact kon_none h
  case ishl =>
    simp only [actI] at h
    obtain rfl : _ = len := hlen.resolve_left (by simp [ilen])
    split at h
    · exact lv_ishl hx hb hdec (ih _ _ _ _ h H locs lr hP hD hS hl)
    · exact kon_none h
  case ishr =>
    simp only [actI] at h
    obtain rfl : _ = len := hlen.resolve_left (by simp [ilen])
    split at h
    · exact lv_ishr hx hb hdec (ih _ _ _ _ h H locs lr hP hD hS hl)
    · exact kon_none h
  case iushr =>
    simp only [actI] at h
    obtain rfl : _ = len := hlen.resolve_left (by simp [ilen])
    split at h
    · exact lv_iushr hx hb hdec rfl (ih _ _ _ _ h H locs lr hP hD hS hl)
    · exact kon_none h
  case idiv =>
    simp only [actI] at h
    obtain rfl : _ = len := hlen.resolve_left (by simp [ilen])
    split at h
    · rcases kon_ite h with ⟨-, h⟩ | ⟨hz, h⟩
      · exact kon_none h
      · exact lv_idiv hx hb hdec hz (ih _ _ _ _ h H locs lr hP hD hS hl)
    · exact kon_none h
  case irem =>
    simp only [actI] at h
    obtain rfl : _ = len := hlen.resolve_left (by simp [ilen])
    split at h
    · rcases kon_ite h with ⟨-, h⟩ | ⟨hz, h⟩
      · exact kon_none h
      · exact lv_irem hx hb hdec hz (ih _ _ _ _ h H locs lr hP hD hS hl)
    · exact kon_none h
  case ineg =>
    simp only [actI] at h
    obtain rfl : _ = len := hlen.resolve_left (by simp [ilen])
    split at h
    · exact lv_ineg hx hb hdec (ih _ _ _ _ h H locs lr hP hD hS hl)
    · exact kon_none h
  case i2b =>
    simp only [actI] at h
    obtain rfl : _ = len := hlen.resolve_left (by simp [ilen])
    split at h
    · exact lv_i2b hx hb hdec rfl (ih _ _ _ _ h H locs lr hP hD hS hl)
    · exact kon_none h
  case i2s =>
    simp only [actI] at h
    obtain rfl : _ = len := hlen.resolve_left (by simp [ilen])
    split at h
    · exact lv_i2s hx hb hdec rfl (ih _ _ _ _ h H locs lr hP hD hS hl)
    · exact kon_none h
  case i2c =>
    simp only [actI] at h
    obtain rfl : _ = len := hlen.resolve_left (by simp [ilen])
    split at h
    · exact lv_i2c hx hb hdec rfl (ih _ _ _ _ h H locs lr hP hD hS hl)
    · exact kon_none h
  case dup =>
    simp only [actI] at h
    obtain rfl : _ = len := hlen.resolve_left (by simp [ilen])
    split at h
    · exact lv_dup hx hb hdec (rl_cat _ _) (ih _ _ _ _ h H locs lr hP hD hS hl)
    · exact kon_none h
  case pop =>
    simp only [actI] at h
    obtain rfl : _ = len := hlen.resolve_left (by simp [ilen])
    split at h
    · exact lv_pop hx hb hdec (rl_cat _ _) (ih _ _ _ _ h H locs lr hP hD hS hl)
    · exact kon_none h
  case dup_x1 =>
    simp only [actI] at h
    obtain rfl : _ = len := hlen.resolve_left (by simp [ilen])
    split at h
    · exact lv_dup_x1 hx hb hdec (rl_cat _ _) (rl_cat _ _) (ih _ _ _ _ h H locs lr hP hD hS hl)
    · exact kon_none h
  case dup2 =>
    simp only [actI] at h
    obtain rfl : _ = len := hlen.resolve_left (by simp [ilen])
    split at h
    · exact lv_dup2_11 hx hb hdec (rl_cat _ _) (rl_cat _ _) (ih _ _ _ _ h H locs lr hP hD hS hl)
    · exact kon_none h
  case ifCond c9 off =>
    simp only [actI] at h
    obtain rfl : _ = len := hlen.resolve_left (by simp [ilen])
    split at h
    · next r0 =>
      cases ht : (pc : Int) + off with
      | negSucc t => rw [ht] at h; exact kon_none h
      | ofNat t =>
        rw [ht] at h
        cases c9
        case eq =>
          rcases kon_ite h with ⟨hc, h⟩ | ⟨hc, h⟩
          · exact lv_if_eq hx hb hdec ht (fun _ => ih _ _ _ _ h H locs lr hP hD hS hl) (fun z => absurd hc z)
          · exact lv_if_eq hx hb hdec ht (fun z => absurd z hc) (fun _ => ih _ _ _ _ h H locs lr hP hD hS hl)
        case ne =>
          rcases kon_ite h with ⟨hc, h⟩ | ⟨hc, h⟩
          · exact lv_if_ne hx hb hdec ht (fun _ => ih _ _ _ _ h H locs lr hP hD hS hl) (fun z => absurd z hc)
          · exact lv_if_ne hx hb hdec ht (fun z => absurd z hc) (fun _ => ih _ _ _ _ h H locs lr hP hD hS hl)
        case lt =>
          rcases kon_ite h with ⟨hc, h⟩ | ⟨hc, h⟩
          · exact lv_if_lt hx hb hdec ht (fun _ => ih _ _ _ _ h H locs lr hP hD hS hl) (fun z => absurd hc z)
          · exact lv_if_lt hx hb hdec ht (fun z => absurd z hc) (fun _ => ih _ _ _ _ h H locs lr hP hD hS hl)
        case ge =>
          rcases kon_ite h with ⟨hc, h⟩ | ⟨hc, h⟩
          · exact lv_if_ge hx hb hdec ht (fun _ => ih _ _ _ _ h H locs lr hP hD hS hl) (fun z => absurd hc z)
          · exact lv_if_ge hx hb hdec ht (fun z => absurd z hc) (fun _ => ih _ _ _ _ h H locs lr hP hD hS hl)
        case gt =>
          rcases kon_ite h with ⟨hc, h⟩ | ⟨hc, h⟩
          · exact lv_if_gt hx hb hdec ht (fun _ => ih _ _ _ _ h H locs lr hP hD hS hl) (fun z => absurd hc z)
          · exact lv_if_gt hx hb hdec ht (fun z => absurd z hc) (fun _ => ih _ _ _ _ h H locs lr hP hD hS hl)
        case le =>
          rcases kon_ite h with ⟨hc, h⟩ | ⟨hc, h⟩
          · exact lv_if_le hx hb hdec ht (fun _ => ih _ _ _ _ h H locs lr hP hD hS hl) (fun z => absurd hc z)
          · exact lv_if_le hx hb hdec ht (fun z => absurd z hc) (fun _ => ih _ _ _ _ h H locs lr hP hD hS hl)
    · exact kon_none h
  case if_icmp c9 off =>
    simp only [actI] at h
    obtain rfl : _ = len := hlen.resolve_left (by simp [ilen])
    split at h
    · next r0 =>
      cases ht : (pc : Int) + off with
      | negSucc t => rw [ht] at h; exact kon_none h
      | ofNat t =>
        rw [ht] at h
        cases c9
        case eq =>
          rcases kon_ite h with ⟨hc, h⟩ | ⟨hc, h⟩
          · exact lv_icmp_eq hx hb hdec ht (fun _ => ih _ _ _ _ h H locs lr hP hD hS hl) (fun z => absurd hc z)
          · exact lv_icmp_eq hx hb hdec ht (fun z => absurd z hc) (fun _ => ih _ _ _ _ h H locs lr hP hD hS hl)
        case ne =>
          rcases kon_ite h with ⟨hc, h⟩ | ⟨hc, h⟩
          · exact lv_icmp_ne hx hb hdec ht (fun _ => ih _ _ _ _ h H locs lr hP hD hS hl) (fun z => absurd z hc)
          · exact lv_icmp_ne hx hb hdec ht (fun z => absurd z hc) (fun _ => ih _ _ _ _ h H locs lr hP hD hS hl)
        case lt =>
          rcases kon_ite h with ⟨hc, h⟩ | ⟨hc, h⟩
          · exact lv_icmp_lt hx hb hdec ht (fun _ => ih _ _ _ _ h H locs lr hP hD hS hl) (fun z => absurd hc z)
          · exact lv_icmp_lt hx hb hdec ht (fun z => absurd z hc) (fun _ => ih _ _ _ _ h H locs lr hP hD hS hl)
        case ge =>
          rcases kon_ite h with ⟨hc, h⟩ | ⟨hc, h⟩
          · exact lv_icmp_ge hx hb hdec ht (fun _ => ih _ _ _ _ h H locs lr hP hD hS hl) (fun z => absurd hc z)
          · exact lv_icmp_ge hx hb hdec ht (fun z => absurd z hc) (fun _ => ih _ _ _ _ h H locs lr hP hD hS hl)
        case gt =>
          rcases kon_ite h with ⟨hc, h⟩ | ⟨hc, h⟩
          · exact lv_icmp_gt hx hb hdec ht (fun _ => ih _ _ _ _ h H locs lr hP hD hS hl) (fun z => absurd hc z)
          · exact lv_icmp_gt hx hb hdec ht (fun z => absurd z hc) (fun _ => ih _ _ _ _ h H locs lr hP hD hS hl)
        case le =>
          rcases kon_ite h with ⟨hc, h⟩ | ⟨hc, h⟩
          · exact lv_icmp_le hx hb hdec ht (fun _ => ih _ _ _ _ h H locs lr hP hD hS hl) (fun z => absurd hc z)
          · exact lv_icmp_le hx hb hdec ht (fun z => absurd z hc) (fun _ => ih _ _ _ _ h H locs lr hP hD hS hl)
    · exact kon_none h
  case goto off =>
    simp only [actI] at h
    obtain rfl : _ = len := hlen.resolve_left (by simp [ilen])
    obtain ⟨t, ht, h⟩ := kon_jmp h
    exact lv_goto hx hb hdec ht (ih _ _ _ _ h H locs lr hP hD hS hl)
  case tableswitch dflt lo hi offs =>
    simp only [actI] at h
    split at h
    · next x r0 =>
      split at h
      · next off ho =>
        obtain ⟨t, ht, h2⟩ := kon_jmp h
        unfold tblsw at ho
        by_cases hq : x.toInt < lo ∨ hi < x.toInt
        · rw [if_pos hq] at ho
          cases ho
          exact lv_tableOut hx hb hdec hq ht (ih _ _ _ _ h2 H locs lr hP hD hS hl)
        · rw [if_neg hq] at ho
          exact lv_tableIn hx hb hdec (fun z => hq (Or.inl z)) (fun z => hq (Or.inr z)) ho ht (ih _ _ _ _ h2 H locs lr hP hD hS hl)
      · exact kon_none h
    · exact kon_none h
  case lookupswitch dflt ps =>
    simp only [actI] at h
    split at h
    · next x r0 =>
      rcases kon_ite h with ⟨hp, h⟩ | ⟨-, h⟩
      · obtain ⟨t, ht, h⟩ := kon_jmp h
        exact lv_lookup hx hb hdec hp rfl ht (ih _ _ _ _ h H locs lr hP hD hS hl)
      · exact kon_none h
    · exact kon_none h
  case getfield k =>
    simp only [actI] at h
    obtain rfl : _ = len := hlen.resolve_left (by simp [ilen])
    split at h
    · next q r0 =>
      split at h
      · next ci j hf =>
        rcases kon_ite h with ⟨⟨hc, hj⟩, h⟩ | ⟨-, h⟩
        · obtain ⟨hci, r1, hr1, hlk⟩ := o4 _ _ _ _ hf
          have hq20 : (T.sh q).1 < 20 := by rw [hc]; exact hci
          obtain ⟨r2, hr2, hn2, hrf0⟩ := o2 q hq20
          have hrf := hrf0 j hj
          rw [hc] at hr2
          have er : r2 = r1 := Option.some.inj (hr2.symm.trans hr1)
          subst er
          obtain ⟨hu, -, -, -⟩ := o3 _ _ hr2
          have hat := wsO_at (T := T) (ad := ad) (ca := ca) (N := N) (s := s1) (o1 q (by omega))
          rw [entO_obj hq20] at hat
          have hv : ((List.range (T.sh q).2).map (fvl T ad s1 q))[j]? = some (fvl T ad s1 q j) := by
            rw [List.getElem?_map, List.getElem?_range hj]; rfl
          refine va_get (ref := (r2.2.1 j).1) hx hb hts hu hown hK hP (q - 1) hat (by rw [hc]; exact hr2) j (by rw [← hn2]; exact hj) (hts _ hlk) (fun _ h9 => h9) hv hdec ?_
          unfold fvl
          split at h
          · next hz =>
            rcases kon_ite h with ⟨hm, h⟩ | ⟨hm, h⟩
            · rcases kon_ite h with ⟨-, h⟩ | ⟨h0, h⟩
              · exact kon_none h
              · simp only [hz, hm, if_true, h0, if_false]
                exact ih _ _ _ _ h H locs lr hP hD hS hl
            · simp only [hz, hm, if_false]
              exact ih _ _ _ _ h H locs lr hP hD hS hl
          · next t hz =>
            simp only [hz]
            exact ih _ _ _ _ h H locs lr hP hD hS hl
        · exact kon_none h
      · exact kon_none h
    · exact kon_none h
  case putfield k =>
    simp only [actI] at h
    obtain rfl : _ = len := hlen.resolve_left (by simp [ilen])
    split at h
    · next v q r0 =>
      split at h
      · next ci j hf =>
        rcases kon_ite h with ⟨⟨hc, hj, hz, hmz, hbv⟩, h⟩ | ⟨-, h⟩
        · obtain ⟨hci, r1, hr1, hlk⟩ := o4 _ _ _ _ hf
          have hq20 : (T.sh q).1 < 20 := by rw [hc]; exact hci
          obtain ⟨r2, hr2, hn2, hrf0⟩ := o2 q hq20
          have hrf := hrf0 j hj
          rw [hc] at hr2
          have er : r2 = r1 := Option.some.inj (hr2.symm.trans hr1)
          subst er
          obtain ⟨hu, ⟨ty0, hty⟩, hnm, -⟩ := o3 _ _ hr2
          have hat := wsO_at (T := T) (ad := ad) (ca := ca) (N := N) (s := s1) (o1 q (by omega))
          rw [entO_obj hq20] at hat
          obtain ⟨hfin, hmr, hI, hZ⟩ := hrf hz
          have hty2 : ∃ ty : FieldType, parseFieldDescriptor (r2.2.1 j).2.2.1 = some ty ∧ narrow ty (.int v) = .int v ∧ fits ty (.int v) = true := by
            cases hbb : T.bf (T.sh q).1 j with
            | false => rw [hI hmz hbb]; exact ⟨.int, by decide +kernel, rfl, rfl⟩
            | true =>
              rw [hZ hmz hbb]
              rw [hc] at hbb
              rcases hbv with hb0 | rfl | rfl
              · rw [hbb] at hb0; cases hb0
              · exact ⟨.boolean, by decide +kernel, by decide +kernel, by decide +kernel⟩
              · exact ⟨.boolean, by decide +kernel, by decide +kernel, by decide +kernel⟩
          obtain ⟨ty, ht1, ht2, ht3⟩ := hty2
          refine va_put (ref := (r2.2.1 j).1) hx hb hts hu ty0 hty hnm hown hK hP hD hS (q - 1) hat (by rw [hc]; exact hr2) j (by rw [← hn2]; exact hj) (hts _ hlk) (fun _ h9 => h9) hfin ht1 ht2 ht3 (by simp; exact hj) hdec (fun H1 locs1 hP1 hD1 hS1 => ?_)
          have hval : fvl T ad (up s1 q j v) q j = rl ad (.inl v) := by
            unfold fvl; rw [hz]; simp only [hmz, Bool.false_eq_true, if_false, up_at, rl]
          have hws := wsO_set (T := T) (ad := ad) (ca := ca) (N := N) (s := s1) (k := q) (f := upd (s1 q) j v) (x := .inr ((T.sh q).1, ((List.range (T.sh q).2).map (fvl T ad s1 q)).set j (rl ad (.inl v)))) (o1 q (by omega)) (by rw [fvl_set hval, entO_obj hq20]; rfl)
          rw [hws] at hP1 hD1
          exact ih _ _ _ _ h H1 locs1 lr hP1 hD1 hS1 hl
        · exact kon_none h
      · exact kon_none h
    · next a q r0 =>
      split at h
      · next ci j hf =>
        rcases kon_ite h with ⟨⟨hc, hj, hz, hmz, ha⟩, h⟩ | ⟨-, h⟩
        · obtain ⟨hci, r1, hr1, hlk⟩ := o4 _ _ _ _ hf
          have hq20 : (T.sh q).1 < 20 := by rw [hc]; exact hci
          obtain ⟨r2, hr2, hn2, hrf0⟩ := o2 q hq20
          have hrf := hrf0 j hj
          rw [hc] at hr2
          have er : r2 = r1 := Option.some.inj (hr2.symm.trans hr1)
          subst er
          obtain ⟨hu, ⟨ty0, hty⟩, hnm, -⟩ := o3 _ _ hr2
          have hat := wsO_at (T := T) (ad := ad) (ca := ca) (N := N) (s := s1) (o1 q (by omega))
          rw [entO_obj hq20] at hat
          obtain ⟨hfin, hmr, hI, hZ⟩ := hrf hz
          have ht1 : parseFieldDescriptor (r2.2.1 j).2.2.1 = some (.array .byte) := by rw [hmr hmz]; decide +kernel
          refine va_put (ref := (r2.2.1 j).1) hx hb hts hu ty0 hty hnm hown hK hP hD hS (q - 1) hat (by rw [hc]; exact hr2) j (by rw [← hn2]; exact hj) (hts _ hlk) (fun _ h9 => h9) hfin ht1 rfl rfl (by simp; exact hj) hdec (fun H1 locs1 hP1 hD1 hS1 => ?_)
          have hval : fvl T ad (up s1 q j (nI a)) q j = rl ad (.inr a) := by
            unfold fvl; rw [hz]; simp only [hmz, if_true, up_at, ix_small ha.1, ha.2, if_false, rl]
          have hws := wsO_set (T := T) (ad := ad) (ca := ca) (N := N) (s := s1) (k := q) (f := upd (s1 q) j (nI a)) (x := .inr ((T.sh q).1, ((List.range (T.sh q).2).map (fvl T ad s1 q)).set j (rl ad (.inr a)))) (o1 q (by omega)) (by rw [fvl_set hval, entO_obj hq20]; rfl)
          rw [hws] at hP1 hD1
          exact ih _ _ _ _ h H1 locs1 lr hP1 hD1 hS1 hl
        · exact kon_none h
      · exact kon_none h
    · exact kon_none h
  case arraylength =>
    simp only [actI] at h
    obtain rfl : _ = len := hlen.resolve_left (by simp [ilen])
    split at h
    · next a r0 =>
      rcases kon_ite h with ⟨⟨h1, h2⟩, h⟩ | ⟨-, h⟩
      · have hat := wsO_at (T := T) (ad := ad) (ca := ca) (N := N) (s := s1) (o1 a h2)
        rw [entO_arr (k := (T.sh a).1 - 20) (by omega) (by omega)] at hat
        obtain ⟨ty, hty⟩ := tysO_at (ca := ca) (k := (T.sh a).1 - 20) (by omega)
        exact va_alen hx hb hK hP (a - 1) ((T.sh a).1 - 20) hat hty rfl hdec (ih _ _ _ _ h H locs lr hP hD hS hl)
      · exact kon_none h
    · exact kon_none h
  case iaload =>
    simp only [actI] at h
    obtain rfl : _ = len := hlen.resolve_left (by simp [ilen])
    split at h
    · next i a r0 =>
      rcases kon_ite h with ⟨⟨h1, h2⟩, h⟩ | ⟨-, h⟩
      · have hat := wsO_at (T := T) (ad := ad) (ca := ca) (N := N) (s := s1) (o1 a (by omega))
        rw [entO_arr (k := 0) h1 (by omega)] at hat
        exact va_iald hx hb hK hP (a - 1) 0 hat rfl (inb_in h2) hdec (ih _ _ _ _ h H locs lr hP hD hS hl)
      · exact kon_none h
    · exact kon_none h
  case caload =>
    simp only [actI] at h
    obtain rfl : _ = len := hlen.resolve_left (by simp [ilen])
    split at h
    · next i a r0 =>
      rcases kon_ite h with ⟨⟨h1, h2⟩, h⟩ | ⟨-, h⟩
      · have hat := wsO_at (T := T) (ad := ad) (ca := ca) (N := N) (s := s1) (o1 a (by omega))
        rw [entO_arr (k := 1) h1 (by omega)] at hat
        exact va_cald hx hb hK hP (a - 1) 1 hat rfl (inb_in h2) hdec (ih _ _ _ _ h H locs lr hP hD hS hl)
      · exact kon_none h
    · exact kon_none h
  case baload =>
    simp only [actI] at h
    obtain rfl : _ = len := hlen.resolve_left (by simp [ilen])
    split at h
    · next i a r0 =>
      rcases kon_ite h with ⟨⟨h1 | h1, h2⟩, h⟩ | ⟨-, h⟩
      · have hat := wsO_at (T := T) (ad := ad) (ca := ca) (N := N) (s := s1) (o1 a (by omega))
        rw [entO_arr (k := 2) h1 (by omega)] at hat
        exact va_bald hx hb hK hP (a - 1) 2 hat rfl (inb_in h2) hdec (ih _ _ _ _ h H locs lr hP hD hS hl)
      · have hat := wsO_at (T := T) (ad := ad) (ca := ca) (N := N) (s := s1) (o1 a (by omega))
        rw [entO_arr (k := 3) h1 (by omega)] at hat
        exact va_zald hx hb hK hP (a - 1) 3 hat rfl (inb_in h2) hdec (ih _ _ _ _ h H locs lr hP hD hS hl)
      · exact kon_none h
    · exact kon_none h
  case iastore =>
    simp only [actI] at h
    obtain rfl : _ = len := hlen.resolve_left (by simp [ilen])
    split at h
    · next v i a r0 =>
      rcases kon_ite h with ⟨⟨h1, h2⟩, h⟩ | ⟨-, h⟩
      · have hat := wsO_at (T := T) (ad := ad) (ca := ca) (N := N) (s := s1) (o1 a (by omega))
        rw [entO_arr (k := 0) h1 (by omega)] at hat
        refine va_iast hx hb hK hP hD hS (a - 1) 0 hat rfl (inb_in h2) hdec (fun H1 locs1 hP1 hD1 hS1 => ?_)
        have hws := wsO_set (T := T) (ad := ad) (ca := ca) (N := N) (s := s1) (k := a) (f := upd (s1 a) (ix i) v) (x := .inl (ca 0, (T.sh a).2, .inl (upd (s1 a) (ix i) v))) (o1 a (by omega)) (by rw [entO_arr (k := 0) h1 (by omega), setA_at])
        have hP1 : va_P D cls ((wsO T ad ca N s1).set (a - 1) (ad a, .inl (ca 0, (T.sh a).2, .inl (upd (s1 a) (ix i) v)))) H1 := hP1
        have hD1 : va_D A ((wsO T ad ca N s1).set (a - 1) (ad a, .inl (ca 0, (T.sh a).2, .inl (upd (s1 a) (ix i) v)))) := hD1
        rw [hws] at hP1 hD1
        exact ih _ _ _ _ h H1 locs1 lr hP1 hD1 hS1 hl
      · exact kon_none h
    · exact kon_none h
  case castore =>
    simp only [actI] at h
    obtain rfl : _ = len := hlen.resolve_left (by simp [ilen])
    split at h
    · next v i a r0 =>
      rcases kon_ite h with ⟨⟨h1, h2⟩, h⟩ | ⟨-, h⟩
      · have hat := wsO_at (T := T) (ad := ad) (ca := ca) (N := N) (s := s1) (o1 a (by omega))
        rw [entO_arr (k := 1) h1 (by omega)] at hat
        refine va_cast hx hb hK hP hD hS (a - 1) 1 hat rfl (inb_in h2) hdec (fun H1 locs1 hP1 hD1 hS1 => ?_)
        have hws := wsO_set (T := T) (ad := ad) (ca := ca) (N := N) (s := s1) (k := a) (f := upd (s1 a) (ix i) (vp_nar .char v)) (x := .inl (ca 1, (T.sh a).2, .inl (upd (s1 a) (ix i) (vp_nar .char v)))) (o1 a (by omega)) (by rw [entO_arr (k := 1) h1 (by omega), setA_at])
        have hP1 : va_P D cls ((wsO T ad ca N s1).set (a - 1) (ad a, .inl (ca 1, (T.sh a).2, .inl (upd (s1 a) (ix i) (vp_nar .char v))))) H1 := hP1
        have hD1 : va_D A ((wsO T ad ca N s1).set (a - 1) (ad a, .inl (ca 1, (T.sh a).2, .inl (upd (s1 a) (ix i) (vp_nar .char v))))) := hD1
        rw [hws] at hP1 hD1
        exact ih _ _ _ _ h H1 locs1 lr hP1 hD1 hS1 hl
      · exact kon_none h
    · exact kon_none h
  case bastore =>
    simp only [actI] at h
    obtain rfl : _ = len := hlen.resolve_left (by simp [ilen])
    split at h
    · next v i a r0 =>
      rcases kon_ite h with ⟨⟨h1, h2⟩, h⟩ | ⟨-, h⟩
      · have hat := wsO_at (T := T) (ad := ad) (ca := ca) (N := N) (s := s1) (o1 a (by omega))
        rw [entO_arr (k := 2) h1 (by omega)] at hat
        refine va_bast hx hb hK hP hD hS (a - 1) 2 hat rfl (inb_in h2) hdec (fun H1 locs1 hP1 hD1 hS1 => ?_)
        have hws := wsO_set (T := T) (ad := ad) (ca := ca) (N := N) (s := s1) (k := a) (f := upd (s1 a) (ix i) (vp_nar .byte v)) (x := .inl (ca 2, (T.sh a).2, .inl (upd (s1 a) (ix i) (vp_nar .byte v)))) (o1 a (by omega)) (by rw [entO_arr (k := 2) h1 (by omega), setA_at])
        have hP1 : va_P D cls ((wsO T ad ca N s1).set (a - 1) (ad a, .inl (ca 2, (T.sh a).2, .inl (upd (s1 a) (ix i) (vp_nar .byte v))))) H1 := hP1
        have hD1 : va_D A ((wsO T ad ca N s1).set (a - 1) (ad a, .inl (ca 2, (T.sh a).2, .inl (upd (s1 a) (ix i) (vp_nar .byte v))))) := hD1
        rw [hws] at hP1 hD1
        exact ih _ _ _ _ h H1 locs1 lr hP1 hD1 hS1 hl
      rcases kon_ite h with ⟨⟨h1, h2⟩, h⟩ | ⟨-, h⟩
      · have hat := wsO_at (T := T) (ad := ad) (ca := ca) (N := N) (s := s1) (o1 a (by omega))
        rw [entO_arr (k := 3) h1 (by omega)] at hat
        refine va_zast hx hb hK hP hD hS (a - 1) 3 hat rfl (inb_in h2) hdec (fun H1 locs1 hP1 hD1 hS1 => ?_)
        have hws := wsO_set (T := T) (ad := ad) (ca := ca) (N := N) (s := s1) (k := a) (f := upd (s1 a) (ix i) (vp_nar .boolean v)) (x := .inl (ca 3, (T.sh a).2, .inl (upd (s1 a) (ix i) (vp_nar .boolean v)))) (o1 a (by omega)) (by rw [entO_arr (k := 3) h1 (by omega), setA_at])
        have hP1 : va_P D cls ((wsO T ad ca N s1).set (a - 1) (ad a, .inl (ca 3, (T.sh a).2, .inl (upd (s1 a) (ix i) (vp_nar .boolean v))))) H1 := hP1
        have hD1 : va_D A ((wsO T ad ca N s1).set (a - 1) (ad a, .inl (ca 3, (T.sh a).2, .inl (upd (s1 a) (ix i) (vp_nar .boolean v))))) := hD1
        rw [hws] at hP1 hD1
        exact ih _ _ _ _ h H1 locs1 lr hP1 hD1 hS1 hl
      · exact kon_none h
    · exact kon_none h
  case ireturn =>
    simp only [actI] at h
    obtain rfl : _ = len := hlen.resolve_left (by simp [ilen])
    split at h
    · next v =>
      unfold ret1 at h
      split at h
      · next hk =>
        cases h
        exact hE.1 rfl H locs pc lr _ (Or.inr (Or.inl ⟨Or.inl hk, hdec, rfl⟩)) hP hD hS
      · next hk =>
        rcases kon_ite h with ⟨hv, h⟩ | ⟨-, h⟩
        · cases h
          exact hE.1 rfl H locs pc lr _ (Or.inr (Or.inl ⟨Or.inr ⟨hk, hv⟩, hdec, rfl⟩)) hP hD hS
        · exact kon_none h
      · exact kon_none h
    · exact kon_none h
  case areturn =>
    simp only [actI] at h
    obtain rfl : _ = len := hlen.resolve_left (by simp [ilen])
    split at h
    · next q =>
      rcases kon_ite h with ⟨⟨hv, hq⟩, h⟩ | ⟨-, h⟩
      · cases h
        exact hE.1 rfl H locs pc lr _ (Or.inr (Or.inr ⟨hv, hdec, by simp only [ix_small hq]; rfl⟩)) hP hD hS
      · exact kon_none h
    · exact kon_none h
  case return_ =>
    simp only [actI] at h
    obtain rfl : _ = len := hlen.resolve_left (by simp [ilen])
    split at h
    · rcases kon_ite h with ⟨hv, h⟩ | ⟨-, h⟩
      · cases h
        exact hE.1 rfl H locs pc lr _ (Or.inl ⟨hv, hdec, rfl⟩) hP hD hS
      · exact kon_none h
    · exact kon_none h
  case new idx =>
    simp only [actI] at h
    obtain rfl : _ = len := hlen.resolve_left (by simp [ilen])
    split at h
    · cases h
      exact hE.2 pc rfl H locs lr idx hdec hP hD hS hl.2.1
    · exact kon_none h
  case invokevirtual k => exact absurd rfl (hnv k)
  case invokestatic k => exact absurd rfl (hns k)
  all_goals (simp only [actI] at h; exact kon_none h)
end MSW