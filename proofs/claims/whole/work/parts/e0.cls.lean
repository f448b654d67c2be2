/-! THE CLASSES' CONSTRUCTORS -/
/-- a constructor's start: the others' cells w, then its own object -/
def pG (ca : Nat → ClassId) (D : va_G) (w : va_W) (h0 ci : Nat) (fs : List Value) (sz : Nat) : State → Prop := fun U => U.heap.size = sz ∧ va_P D mCls (w ++ [(h0, .inr (ci, fs))]) U.heap ∧ va_K D mCls (tysO ca) U ∧ va_D (fun _ => True) (w ++ [(h0, .inr (ci, fs))])
/-- a constructor's end: pw is the object and what it made -/
def qG (ca : Nat → ClassId) (D : va_G) (w : va_W) (h0 ci : Nat) (fs : List Value) (sz : Nat) (pw : (Nat → Nat) → va_W) : Array Value → State → Outcome → State → Prop :=
  va_Qv (fun _ : Nat → Nat => True) (fun a t => va_P D mCls (w ++ pw a) t.heap ∧ va_K D mCls (tysO ca) t ∧ va_D (va_A (w ++ [(h0, .inr (ci, fs))]) sz) (w ++ pw a)) (va_A (w ++ [(h0, .inr (ci, fs))]) sz)
/-- a constructor's contract -/
def cG (l : Launch) (ca : Nat → ClassId) (D : va_G) (y : MethodName) (cc : ByteArray) (mL ci : Nat) (fs : List Value) (As : List Value) (rm : Room) (pw : Nat → (Nat → Nat) → va_W) : Prop :=
  ∀ (w : va_W) (h0 sz : Nat), Met l y (Cond.code y cc mL none :: TC) rm (va_Pc (.ref h0 :: As) (pG ca D w h0 ci fs sz)) (qG ca D w h0 ci fs sz (pw h0)) rm.cells rm.slots (va_A (w ++ [(h0, .inr (ci, fs))]) sz)
theorem pG_blind {ca : Nat → ClassId} {D : va_G} {w : va_W} {h0 ci sz : Nat} {fs av : List Value} : FrameBlind (va_Pc av (pG ca D w h0 ci fs sz)) := by
  rintro a U g mk ⟨q0, q1, q2, q3, q4⟩
  exact ⟨q0, q1, q2, va_K.moved (u := U) (U := U.calling g mk a) (Vm.Alike.refl U.vm) q3, q4⟩
def rmK (ops : List cO) : Room := { frames := 2, cells := opsC ops, slots := opsS ops, locals := 60 }
def cnP (ca : Nat → ClassId) (ci : Nat) (ops : List cO) (fs : List Value) (h0 : Nat) (a : Nat → Nat) : va_W := (h0, .inr (ci, cnF ops a fs)) :: cnA ca ops a
section CT2
variable {l : Launch} {ca : Nat → ClassId} {D : va_G} {cc : ByteArray} {o ci N k : Nat} {T : u_T} {C : String} {fs : List Value} {ops : List cO}
set_option maxHeartbeats 4000000 in
/-- a constructor that only makes arrays -/
theorem c_cn (o k : Nat) {y : MethodName} (hy : y = ⟨mCN o, "<init>", "()V"⟩) (hpl : plainName (mCN o) = true) (hc : mCls[ci]? = some (C, T, N)) (hk : Cond.methodLink (mCN o) k objectInit ∈ TC) (d0 : decode cc 0 = .ok (.aload_n 0, 1)) (d1 : decode cc 1 = .ok (.invokespecial k, 3)) (hB : opsB cc o ci T N 4 ops = true) (hf : fs.length = N) (de : decode cc (opsE 4 ops) = .ok (.return_, 1)) :
    cG l ca D y cc 1 ci fs [] (rmK ops) (cnP ca ci ops fs) := by
  subst hy
  intro w h0 sz
  refine Met.ofW (cc := cc) (maxL := 1) (ret := none) hpl rfl ?_
  intro p e s m args below meth c s₁ B hml hv
  obtain ⟨rfl, hsz, hP, hK, hD0⟩ := hv
  have hx := B.exec
  have hb := B.bytes
  have hr := B.returns
  have hts0 := atoms_spec (ws := Cond.code ⟨mCN o, "<init>", "()V"⟩ cc 1 none :: TC) B.pre
  have hts : ∀ w ∈ TC, w.before [Value.ref h0].toArray s = true := fun w hw => hts0 w (List.mem_cons_of_mem _ hw)
  have hown : s.vm.findClass (mCN o) = some m.cls := findClass_of_methodNamed B.named
  have hlocks := B.notSynchronized
  have hin : meth.name = "<init>" := (name_of_methodNamed B.named B.method).1
  subst hsz
  have hD := hD0.self (sz := s.heap.size)
  have hl := lv_entry ([.ref h0]) (n := 1) (Nat.le_of_ble_eq_true rfl)
  rw [lg_entry_eq]
  have hl0 := lv_at hl 0 rfl
  refine lv_aload_n hx hb (k := 0) d0 rfl hl0 ?_
  refine W.objInit hx hb hown (hts _ hk) (hts _ (TC_xC (by simp [xC]))) (hts _ (TC_xC (by simp [xC]))) rfl (by rw [hml]; exact hl.1) rfl d1 (show 1 ≤ 2 by decide) (show 2 * 0 + 0 + 12 ≤ 60 by decide) ?_
  refine W.eq (g2 := F0 m 4 _ []) rfl ?_
  refine cn_run (w := w) (h0 := h0) (R := rmK ops) (A := va_A (w ++ [(h0, .inr (ci, fs))]) s.heap.size) (H0 := s.heap) hx hb (by rw [hl.1]; decide) hl0 hown hin hts hK (fun q h => Or.inr h) hc ops 4 s.heap [] 0 0 fs [] hB hf (by show 0 + opsC ops ≤ opsC ops; omega) (by show 0 + opsS ops ≤ opsS ops; omega) hP hD va_S.rf (fun a H1 locs1 hP1 hD1 hS1 => ?_)
  rw [List.nil_append] at hP1 hD1
  rw [Nat.zero_add, Nat.zero_add]
  exact W.vret hx hb hr (fun t ht hW => ⟨⟨a, rfl, trivial, by rw [ht]; exact hP1, va_K.moved hW.alike hK, hD1⟩, hS1.F ht⟩) hS1.2.2 de
end CT2
section CT3
variable {p : Program} {l : Launch} {e : Env} {R : Room} {s : State} {m : MethodId} {args : Array Value} {below : List Frame} {meth : Method} {c : Code} {Q : State → Prop}
variable {ca : Nat → ClassId} {D : va_G} {A : Nat → Prop} {H0 H : Heap} {locs : List Loc} {cc cc' : ByteArray} {o N N' ci' k1 k2 mL pc nL cells slots : Nat} {T T' : u_T} {C C' : String} {ls : Array Slot} {w : va_W} {y : MethodName} {fs' As rest : List Value} {rm : Room} {pw : Nat → (Nat → Nat) → va_W}
set_option maxHeartbeats 4000000 in
/-- a new object and its constructor; As: what else the constructor gets, laid by the rows of hargs -/
theorem xk_new (hx : p.tables.exec = Jvm.exec) (hb : c.code = cc) (hml : c.maxLocals = nL) (hsz : ls.size = nL) (hown : s.vm.findClass (mCN o) = some m.cls) {Ts : List Cond} (hts : ∀ w ∈ Ts, w.before args s = true) (hTs : ∀ w ∈ TC, w ∈ Ts) (hTg : ∀ w ∈ TC, goodWord w = true) (hK : va_K D mCls (tysO ca) s) (hA : ∀ q, H0.size ≤ q → A q)
    (hc' : mCls[ci']? = some (C', T', N')) (hcl : Cond.classLink (mCN o) k1 C' ∈ Ts) (hin : Cond.instantiable C' N' ∈ Ts) (hini : Cond.initialized C' ∈ Ts) (hlk : Cond.methodLink (mCN o) k2 y ∈ Ts ∨ ∃ host, va_Nw (.methodLinkNest (mCN o) k2 y host) s) (hyi : Cond.instanceMethod y ∈ Ts) (hyc : Cond.code y cc' mL none ∈ Ts) (hygw : goodWord (Cond.code y cc' mL none) = true) (hy1 : y.name = "<init>") (hyC : y.cls = C') (hyh : C' ≠ "java/lang/invoke/MethodHandle" ∧ C' ≠ "java/lang/invoke/VarHandle") (hpar : (parseMethodDescriptor y.desc).map (fun d => d.parameters.length) = some As.length)
    (hfs : fs'.length = N') (hdf : ∀ j, j < N' → ∀ ty, parseFieldDescriptor (T' j).2.2.1 = some ty → defaultValue ty = vp_V fs' j) (hM : cG l ca D y cc' mL ci' fs' As rm pw)
    (hR1 : rm.frames + 1 ≤ R.frames) (hR2 : 8 + (mL + 11) + rm.locals ≤ R.locals) (hR3 : cells + 1 + rm.cells ≤ R.cells) (hR4 : slots + N' + rm.slots ≤ R.slots) (hrs : (rest.map fun v => v.category).sum ≤ 6)
    (d0 : decode cc pc = .ok (.new k1, 3)) (d1 : decode cc (pc + 3) = .ok (.dup, 1)) {pi : Nat} (d2 : decode cc pi = .ok (.invokespecial k2, 3))
    (hargs : ∀ (H1 : Heap) (q : Nat), va_P D mCls (w ++ [(q, .inr (ci', fs'))]) H1 → W p l e R s m args below meth c H1 locs (cells + 1) (slots + N') Q (F0 m pi ls (As.reverse ++ .ref q :: .ref q :: rest)) → W p l e R s m args below meth c H1 locs (cells + 1) (slots + N') Q (F0 m (pc + 4) ls (.ref q :: .ref q :: rest)))
    (hP : va_P D mCls w H) (hD : va_D A w) (hS : va_S A H0 H locs)
    (kk : ∀ (q : Nat) (a : Nat → Nat) (H1 : Heap) (locs1 : List Loc), va_P D mCls (w ++ pw q a) H1 → va_D A (w ++ pw q a) → va_S A H0 H1 locs1 → W p l e R s m args below meth c H1 locs1 (cells + 1 + rm.cells) (slots + N' + rm.slots) Q (F0 m (pi + 3) ls (.ref q :: rest))) :
    W p l e R s m args below meth c H locs cells slots Q (F0 m pc ls rest) := by
  obtain ⟨o1, o2, o3, o4, o5, o6, o7, o8, o9⟩ := mok
  obtain ⟨u1, ⟨ty0, u2⟩, u3, u4⟩ := o3 _ _ hc'
  have hin1 : ∀ w ∈ u_ws C' T' N', w ∈ Ts := fun w h => hTs w (List.mem_append_left _ (u1 w h))
  refine va_new (own := mCN o) (C := C') (T := T') (N := N') (ci := ci') (fs := fs') hx hb hts hin1 ty0 u2 hown (hts _ hcl) (hts _ hin) (hts _ hini) hK hP hD hS hA hc' (fun j hj => hdf j hj _ (u2 j hj)) (by omega) (by omega) d0 (fun q H1 hP1 hD1 hS1 => ?_)
  refine lv_dup hx hb d1 rfl ?_
  refine hargs H1 q hP1 ?_
  have hF : ∀ q', va_A (w ++ [(q, .inr (ci', fs'))]) H1.size q' → A q' := by
    rintro q' (⟨k, x, h⟩ | h)
    · exact hD1.2 k (q', x) h
    · exact hA q' (Nat.le_trans hS1.1 h)
  have hG : GoodIn Ts (Cond.code y cc' mL none :: TC) := by
    intro w hw
    rcases List.mem_cons.mp hw with rfl | hw
    · exact ⟨hyc, good_of_word hygw⟩
    · exact ⟨hTs w hw, good_of_word (hTg w hw)⟩
  have hrn : va_Run p l e R s m args below meth c H1 locs (cells + 1) (slots + N') rm.cells rm.slots (F0 m pi ls (As.reverse ++ .ref q :: .ref q :: rest)) (.ref q :: rest) (qG ca D w q ci' fs' H1.size (pw q) (Value.ref q :: As).toArray) (va_A (w ++ [(q, .inr (ci', fs'))]) H1.size) := by
    rcases hlk with hlk | ⟨host, hlk⟩
    · exact va_runI (Ts := Ts) (own := mCN o) (As := As) (rest := .ref q :: rest) (index := k2) ⟨hx, hb, hml, hown, hts⟩ (hM w q H1.size) (cwI As.length hts hG rfl rfl rfl (hts _ (by rw [hyC]; exact hini)) (hts _ hlk) (hts _ hyi) hy1 ⟨by rw [hyC]; exact hyh.1, by rw [hyC]; exact hyh.2, hpar⟩ ⟨hR1, hR2⟩) ⟨pG_blind, fun U hU hW => ⟨rfl, by rw [hU], by rw [hU]; exact hP1, va_K.moved hW.alike hK, hD1.weaken (fun _ _ _ _ => trivial)⟩⟩ rfl rfl hsz rfl (lv_room (by rw [List.map_cons, List.sum_cons]; show 1 + _ ≤ 8; omega)) d2 ⟨by omega, by omega⟩
    · exact va_runIN (Ts := Ts) (own := mCN o) (As := As) (rest := .ref q :: rest) (index := k2) ⟨hx, hb, hml, hown, hts⟩ (hM w q H1.size) ⟨va_cnB As.length hts hG rfl rfl rfl hlk (hts _ (by rw [hyC]; exact hini)) ⟨by rw [hyC]; exact hyh.1, by rw [hyC]; exact hyh.2, hpar⟩ ⟨hR1, hR2⟩, hy1, hts _ hyi⟩ ⟨pG_blind, fun U hU hW => ⟨rfl, by rw [hU], by rw [hU]; exact hP1, va_K.moved hW.alike hK, hD1.weaken (fun _ _ _ _ => trivial)⟩⟩ rfl rfl hsz rfl (lv_room (by rw [List.map_cons, List.sum_cons]; show 1 + _ ≤ 8; omega)) d2 ⟨by omega, by omega⟩
  refine va_callv hrn hS1 (fun q' _ h => hF q' h) hF (fun a t H2 locs2 ht hvm _ hBt hz1 hk1 hS2 => ?_)
  obtain ⟨hP2, -, hD2⟩ := hBt
  rw [ht] at hP2
  exact kk q a H2 locs2 hP2 (hD2.weaken (fun _ q' _ hq => hF q'.1 hq)) hS2
end CT3
