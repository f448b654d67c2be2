/-! ROWS FOR THE LAW'S OWN FRAME, over the world of the small machine -/
section LR1
variable {p : Program} {l : Launch} {e : Env} {R : Room} {s : State} {mid : MethodId} {args : Array Value} {below : List Frame} {meth : Method} {c : Code} {Q : State → Prop} {cells slots : Nat}
variable {T : mT} {N : Nat} {cls : List vw_C} {TG : List Cond} {NX : mX} {nm : Nat → MethodName} {rty : Nat → Option FieldType} {CN : Nat → String} {ad : Nat → Nat} {ca : Nat → ClassId} {D : va_G} {A : Nat → Prop} {H0 : Heap}
variable {cc : ByteArray} {o nL m' d pc k kd q : Nat} {ls as r0 st st2 : List mV} {s1 s2 : mS} {v : Int32} {M' : mM}
set_option maxHeartbeats 4000000 in
/-- an object's method is called, its run being known -/
theorem l_virt (hOK : mOK T N cls TG NX nm rty CN) (hx : p.tables.exec = Jvm.exec) (hb : c.code = cc) (hml : c.maxLocals = nL) (hown : s.vm.findClass (CN o) = some mid.cls) (hts : ∀ w ∈ TG, w.before args s = true) (hK : va_K D cls (tysO ca) s) (hNX : ∀ q ∈ NX, va_Nw (nxw q) s) (hfr : d + 2 ≤ R.frames) (hlo : 40 * (d + 2) ≤ R.locals) (hcs : cells ≤ R.cells ∧ slots ≤ R.slots) (hA : ∀ q, H0.size ≤ q → A q) (hC : Ctr l T N cls TG NX nm rty d)
    (hdec : decode cc pc = .ok (.invokevirtual k, 3)) (hcr : T.cr o k = some m') (hM' : T.mt m' = some M') (hst : M'.2.2.2.2.2.1 = false) (hsh : (T.sh q).1 = M'.2.1) (h20 : M'.2.1 < 20) (hlen : as.length + 1 = M'.2.2.2.2.1) (hsm : sml r0 = true)
    (hkd : (M'.2.2.2.1 = 0 ∧ kd = 0) ∨ ((M'.2.2.2.1 = 1 ∨ M'.2.2.2.1 = 2) ∧ kd = 1) ∨ (3 ≤ M'.2.2.2.1 ∧ ∃ q, kd = q + 2)) (hlk : Cond.methodLink (CN o) k (nm m') ∈ TG)
    (hev : evT T d m' 0 (pad M'.2.2.1 (.inr q :: as)) [] s1 = some (0, v, s2)) (hp : psh kd v r0 = some st2)
    (hgo : mW p l e R s mid args below meth c cells slots Q T N cls ad ca D A H0 nL (pc + 3) ls st2 s2) : mW p l e R s mid args below meth c cells slots Q T N cls ad ca D A H0 nL pc ls (as.reverse ++ .inr q :: r0) s1 := by
  intro H locs lr hP hD hS hl
  obtain ⟨o1, o2, o3, o4, o5, o6, o7, o8, o9⟩ := hOK
  obtain ⟨a1, a2, a3, a4, a5, a6, a7, a8, a9⟩ := o5 _ _ hM'
  obtain ⟨b1, -, b3⟩ := o6 _ _ _ _ hcr hM'
  obtain ⟨b3, b4⟩ := b3 hst
  have hMet := hC m' M' _ s1 v s2 H.size ad ca D hM' (show (Sum.inr q :: as).length = M'.2.2.2.2.1 by rw [List.length_cons]; exact hlen) hev
  have hq20 : (T.sh q).1 < 20 := by rw [hsh]; exact h20
  have hn : (as.map (rl ad)).length = M'.2.2.2.2.1 - 1 := by rw [List.length_map]; omega
  have hstk : ((as.reverse ++ Sum.inr q :: r0).map (rl ad)) = (as.map (rl ad)).reverse ++ .ref (ad q) :: r0.map (rl ad) := by
    rw [List.map_append, List.map_reverse, List.map_cons]
    rfl
  have hpar : ∀ sig, parseMethodDescriptor (nm m').desc = some sig → M'.2.2.2.2.1 - 1 = sig.parameters.length := by
    intro sig hs
    rw [hst] at a6
    rw [hs] at a6
    simp only [Option.map_some, Option.some.injEq] at a6
    simpa using a6.symm
  have hpay : ∀ w ∈ Wd nm rty TG m' M', ∀ (a' : Array Value) (U : State), s.WarmedH U.vm → w.before a' U = true := pay_in hts (Wd_good a3 o9)
  have hrecv : ∃ cellB : Cell, H[ad q]? = some cellB ∧ cellB.vm.isStatics = false ∧ s.vm.findClass (nm m').cls = some cellB.cls := by
    obtain ⟨r2, hr2, -, -⟩ := o2 q hq20
    have hat := wsO_at (T := T) (ad := ad) (ca := ca) (N := N) (s := s1) (o1 q (by omega))
    rw [entO_obj hq20] at hat
    obtain ⟨-, -, -, hcn⟩ := o3 _ _ hr2
    have h9 := va_recv hK hP hr2 hat
    rw [← hcn, hsh, a2] at h9
    exact h9
  have hPre : PreV s H (nm m').cls (ad q) (va_Pc ((.inr q :: as).map (rl ad)) (mP T N cls NX ad ca D H.size s1)) (as.map (rl ad)) :=
    ⟨mP_blind, hrecv, fun U hU hW => ⟨rfl, by rw [hU], by rw [hU]; exact hP, va_K.moved hW.alike hK, hD.weaken (fun _ _ _ _ => trivial), fun q hq => va_Nw.warmM hW (hNX q hq)⟩⟩
  have hfr2 : (rmD d).frames + 1 ≤ R.frames := hfr
  have hlo2 : 8 + (M'.2.2.1 + 11) + (rmD d).locals ≤ R.locals := by show 8 + (M'.2.2.1 + 11) + 40 * (d + 1) ≤ R.locals; omega
  have hsz : lr.size = nL := hl.2.1
  have hroom := lv_room (m := mid) (pc := pc) (ls := lr) (rest := (as.reverse ++ Sum.inr q :: r0).map (rl ad)) (sml_cat (ad := ad) hsm)
  have hrn := va_runV (p := p) (l := l) (e := e) (R := R) (below := below) (meth := meth) (locs := locs) (cells := cells) (slots := slots) (index := k) (Ts := TG) (own := CN o) (g := F0 mid pc lr ((as.reverse ++ Sum.inr q :: r0).map (rl ad))) (rest := r0.map (rl ad)) ⟨hx, hb, hml, hown, hts⟩ hMet
    (⟨⟨rfl, rfl, hfr2, hlo2, hpay, List.mem_cons_self, hts _ a3, hts _ a4, a5, hpar, hts _ hlk⟩, hts _ b3, hts _ b4⟩ : CallW R s args (CN o) (nm m').cls k (nm m') M'.1 M'.2.2.1 (rty m') (Wd nm rty TG m' M') (rmD d) 0 0 (M'.2.2.2.2.1 - 1)) hPre rfl hn hsz hstk hroom hdec ⟨hcs.1, hcs.2⟩
  exact sW_behind hD hS hA hl hrn hkd hp hgo
end LR1
/-- what stands fast in the law's frame -/
def LF (p : Program) (l : Launch) (s : State) (mid : MethodId) (args : Array Value) (meth : Method) (c : Code) (ca : Nat → ClassId) (D : va_G) (b L : Nat) (xs : Nat → Int32) : Prop :=
  p.tables.exec = Jvm.exec ∧ c.code = code ∧ c.maxLocals = 7 ∧ s.vm.findClass (mCN 16) = some mid.cls ∧ (∀ w ∈ lw_tbl, w.before args s = true) ∧ va_K D mCls (tysO ca) s ∧ (∀ q ∈ mNX, va_Nw (nxw q) s) ∧ va_X b L xs s s.heap ∧ b < s.heap.size ∧ meth.locks = false
/-- the law's own W at a place of its code -/
def lW (p : Program) (l : Launch) (e : Env) (s : State) (mid : MethodId) (args : Array Value) (below : List Frame) (meth : Method) (c : Code) (cells slots : Nat) (Q : State → Prop) (ad : Nat → Nat) (ca : Nat → ClassId) (D : va_G) (pc : Nat) (ls st : List mV) (s1 : mS) : Prop :=
  mW p l e room_1 s mid args below meth c cells slots Q mTab 97 mCls ad ca D (fun q : Nat => s.heap.size ≤ q) s.heap 7 pc ls st s1
/-- the law's locals at its loop: the script, the class's object, the model's, out, the place -/
def lL0 (i : Nat) : List mV := [.inr 98, .inr 1, .inr 67, .inr 97, .inl (nI i), .inr 0, .inr 0]
section LR2
variable {p : Program} {l : Launch} {e : Env} {s : State} {mid : MethodId} {args : Array Value} {below : List Frame} {meth : Method} {c : Code} {Q : State → Prop} {cells slots : Nat}
variable {ad : Nat → Nat} {ca : Nat → ClassId} {D : va_G} {b L i j d pc q n m k : Nat} {xs : Nat → Int32} {ls st as : List mV} {s1 s2 : mS} {v x y : Int32} {M : mM}
theorem l_aload (F : LF p l s mid args meth c ca D b L xs) {k : Fin 4} (hd : decode code pc = .ok (.aload_n k, 1)) (hl : ls[k.val]? = some (.inr (q + 1))) (hg : lW p l e s mid args below meth c cells slots Q ad ca D (pc + 1) ls (.inr (q + 1) :: st) s1) : lW p l e s mid args below meth c cells slots Q ad ca D pc ls st s1 := by
  obtain ⟨hx, hb, -⟩ := F
  intro H locs lr hP hD hS hlr
  exact lv_aload_n hx hb hd rfl (lR_get hlr hl (by simp)) (hg H locs lr hP hD hS hlr)
theorem l_iload (F : LF p l s mid args meth c ca D b L xs) (hd : decode code pc = .ok (.iload k, 2)) (hl : ls[k]? = some (.inl v)) (hg : lW p l e s mid args below meth c cells slots Q ad ca D (pc + 2) ls (.inl v :: st) s1) : lW p l e s mid args below meth c cells slots Q ad ca D pc ls st s1 := by
  obtain ⟨hx, hb, -⟩ := F
  intro H locs lr hP hD hS hlr
  exact lv_iload hx hb hd (lR_get hlr hl (by simp)) (hg H locs lr hP hD hS hlr)
theorem l_istore (F : LF p l s mid args meth c ca D b L xs) (hd : decode code pc = .ok (.istore k, 2)) (hk : k < 7) (hlen : ls.length = 7) (hg : lW p l e s mid args below meth c cells slots Q ad ca D (pc + 2) (ls.set k (.inl v)) st s1) : lW p l e s mid args below meth c cells slots Q ad ca D pc ls (.inl v :: st) s1 := by
  obtain ⟨hx, hb, -⟩ := F
  intro H locs lr hP hD hS hlr
  exact lv_istore hx hb hd hlr.2 hk rfl (fun lr' h' => hg H locs lr' hP hD hS (lR_set hlr h'))
/-- a number of the script -/
theorem l_arg (F : LF p l s mid args meth c ca D b L xs) (hb98 : ad 98 = b) (h0 : decode code pc = .ok (.aload_n 0, 1)) (h1 : decode code (pc + 1) = .ok (.iload 4, 2)) (h2 : decode code (pc + 3) = .ok (.iconst (j : Int), 1)) (hj : Int32.ofInt (j : Int) = nI j) (h3 : decode code (pc + 4) = .ok (.iadd, 1)) (h4 : decode code (pc + 5) = .ok (.iaload, 1)) (hl0 : ls[0]? = some (.inr 98)) (hl4 : ls[4]? = some (.inl (nI i))) (hi : i + j < L) (hL : L ≤ 2560)
    (hg : lW p l e s mid args below meth c cells slots Q ad ca D (pc + 6) ls (.inl (xs (i + j)) :: st) s1) : lW p l e s mid args below meth c cells slots Q ad ca D pc ls st s1 := by
  obtain ⟨hx, hb, hml, hown, hts, hK, hNX, hX, hbl, hlk⟩ := F
  intro H locs lr hP hD hS hlr
  refine lv_aload_n hx hb h0 rfl (lR_get hlr hl0 (by simp)) ?_
  refine lv_iload hx hb h1 (lR_get hlr hl4 (by simp)) ?_
  refine lv_iconst (v := nI j) hx hb h2 hj ?_
  refine lv_iadd hx hb h3 ?_
  rw [nI_add]
  show W _ _ _ _ _ _ _ _ _ _ _ _ _ _ _ (F0 mid (pc + 5) lr (.int (nI (i + j)) :: .ref (ad 98) :: st.map (rl ad)))
  rw [hb98]
  have hin : vp_in (nI (i + j)) L := vp_in_nI hi (by omega)
  refine va_sld hx hb hX hbl (Nat.not_le.mpr hbl) hS hin h4 ?_
  have e1 : (nI (i + j)).toNatClampNeg = i + j := nI_clamp (by omega)
  rw [e1]
  exact hg H locs lr hP hD hS hlr
/-- a call of the class's object or of the model's -/
theorem l_call (F : LF p l s mid args meth c ca D b L xs) (hcs : cells ≤ room_1.cells ∧ slots ≤ room_1.slots) (hdec : decode code pc = .ok (.invokevirtual k, 3)) (hcr : mCr 16 k = some m) (hlk : Cond.methodLink (mCN 16) k (mNm m) ∈ mTG) (hM : mMt m = some M) (hst : M.2.2.2.2.2.1 = false) (hsh : (mSh q).1 = M.2.1) (h20 : M.2.1 < 20) (hlen : as.length + 1 = M.2.2.2.2.1) (hsm : sml st = true) (hrt : M.2.2.2.1 = 1 ∨ M.2.2.2.1 = 2)
    (hev : ev 400 m 0 (pad M.2.2.1 (.inr q :: as)) [] s1 = some (0, v, s2)) (hg : lW p l e s mid args below meth c cells slots Q ad ca D (pc + 3) ls (.inl v :: st) s2) : lW p l e s mid args below meth c cells slots Q ad ca D pc ls (as.reverse ++ .inr q :: st) s1 := by
  obtain ⟨hx, hb, hml, hown, hts, hK, hNX, hX, hbl, hlks⟩ := F
  exact l_virt (kd := 1) (o := 16) mok hx hb hml hown (fun w hw => hts w (mTG_tbl w hw)) hK hNX (by decide +kernel) (by decide +kernel) hcs (fun _ h => h) (ctr l 400) hdec hcr hM hst hsh h20 hlen hsm (Or.inr (Or.inl ⟨hrt, rfl⟩)) hlk hev rfl hg
/-- the same answer: the law goes on -/
theorem l_same (F : LF p l s mid args meth c ca D b L xs) {off : Int} {tgt : Nat} (hd : decode code pc = .ok (.if_icmp .eq off, 3)) (ht : (pc : Int) + off = (tgt : Int)) (hg : lW p l e s mid args below meth c cells slots Q ad ca D tgt ls st s1) : lW p l e s mid args below meth c cells slots Q ad ca D pc ls (.inl v :: .inl v :: st) s1 := by
  obtain ⟨hx, hb, -⟩ := F
  intro H locs lr hP hD hS hlr
  exact lv_icmp_eq hx hb hd ht (fun _ => hg H locs lr hP hD hS hlr) (fun h => absurd rfl h)
/-- the instructions that lay numbers of the script on the stack -/
def argI (pc : Nat) : List Nat → List (Nat × Instr × Nat)
  | [] => []
  | j :: r => (pc, .aload_n 0, 1) :: (pc + 1, .iload 4, 2) :: (pc + 3, .iconst (j : Int), 1) :: (pc + 4, .iadd, 1) :: (pc + 5, .iaload, 1) :: argI (pc + 6) r
theorem chk_at {t : List (Nat × Instr × Nat)} {b : ByteArray} (h : chk b t = true) {pc n : Nat} {i : Instr} (hm : (pc, i, n) ∈ t) : decode b pc = .ok (i, n) := by
  obtain ⟨j, hj⟩ := List.getElem?_of_mem hm
  exact dk h j hj
theorem l_args (F : LF p l s mid args meth c ca D b L xs) (hb98 : ad 98 = b) (hL : L ≤ 2560) (hi : i + 5 ≤ L) (hl0 : ls[0]? = some (.inr 98)) (hl4 : ls[4]? = some (.inl (nI i))) : ∀ (js : List Nat) (pc : Nat) (st : List mV), chk code (argI pc js) = true → (∀ j ∈ js, j < 5) →
    lW p l e s mid args below meth c cells slots Q ad ca D (pc + 6 * js.length) ls ((js.map (fun j => (Sum.inl (xs (i + j)) : mV))).reverse ++ st) s1 → lW p l e s mid args below meth c cells slots Q ad ca D pc ls st s1 := by
  intro js
  induction js with
  | nil => intro pc st _ _ hg; exact hg
  | cons j r ih =>
    intro pc st hc hj hg
    have hj5 := hj j List.mem_cons_self
    have hji : Int32.ofInt (j : Int) = nI j := rfl
    have at' : ∀ q n i', (q, i', n) ∈ argI pc (j :: r) → decode code q = .ok (i', n) := fun q n i' h => chk_at hc h
    refine l_arg (j := j) F hb98 (at' _ _ _ (by simp [argI])) (at' _ _ _ (by simp [argI])) (at' _ _ _ (by simp [argI])) hji (at' _ _ _ (by simp [argI])) (at' _ _ _ (by simp [argI])) hl0 hl4 (by omega) hL ?_
    refine ih (pc + 6) _ ?_ (fun j hj' => hj j (List.mem_cons_of_mem _ hj')) ?_
    · unfold chk at hc ⊢
      unfold argI at hc
      simp only [List.all_cons, Bool.and_eq_true] at hc
      exact hc.2.2.2.2.2
    · rw [List.map_cons, List.reverse_cons, List.append_assoc, List.length_cons] at hg
      rw [show pc + 6 + 6 * r.length = pc + 6 * (r.length + 1) by omega]
      exact hg
/-- a case of the law: the class is asked, the model is asked, they answer alike -/
theorem l_case (F : LF p l s mid args meth c ca D b L xs) (hb98 : ad 98 = b) (hL : L ≤ 2560) (hi : i + 5 ≤ L) (hcs : cells ≤ room_1.cells ∧ slots ≤ room_1.slots) {js : List Nat} {kx km mx mm pa pm : Nat} {off : Int} {MX MM : mM} (hjs : ∀ j ∈ js, j < 5) (hj4 : js.length ≤ 4) (hpa : pa = pc + 1 + 6 * js.length + 3) (hpm : pm = pa + 1 + 6 * js.length + 3)
    (h1 : chk code (argI (pc + 1) js) = true) (h2 : chk code (argI (pa + 1) js) = true) (h3 : chk code [(pc, .aload_n 1, 1), (pc + 1 + 6 * js.length, .invokevirtual kx, 3), (pa, .aload_n 2, 1), (pa + 1 + 6 * js.length, .invokevirtual km, 3), (pm, .if_icmp .eq off, 3)] = true) (ht : (pm : Int) + off = ((1494 : Nat) : Int))
    (hx1 : mCr 16 kx = some mx) (hx2 : Cond.methodLink (mCN 16) kx (mNm mx) ∈ mTG) (hx3 : mMt mx = some MX) (hx4 : MX.2.2.2.2.2.1 = false ∧ (mSh 1).1 = MX.2.1 ∧ MX.2.1 < 20 ∧ js.length + 1 = MX.2.2.2.2.1 ∧ (MX.2.2.2.1 = 1 ∨ MX.2.2.2.1 = 2))
    (hm1 : mCr 16 km = some mm) (hm2 : Cond.methodLink (mCN 16) km (mNm mm) ∈ mTG) (hm3 : mMt mm = some MM) (hm4 : MM.2.2.2.2.2.1 = false ∧ (mSh 67).1 = MM.2.1 ∧ MM.2.1 < 20 ∧ js.length + 1 = MM.2.2.2.2.1 ∧ (MM.2.2.2.1 = 1 ∨ MM.2.2.2.1 = 2))
    {s3 : mS} (he1 : ev 400 mx 0 (pad MX.2.2.1 (.inr 1 :: js.map (fun j => (Sum.inl (xs (i + j)) : mV)))) [] s1 = some (0, v, s2)) (he2 : ev 400 mm 0 (pad MM.2.2.1 (.inr 67 :: js.map (fun j => (Sum.inl (xs (i + j)) : mV)))) [] s2 = some (0, v, s3))
    (hg : lW p l e s mid args below meth c cells slots Q ad ca D 1494 (lL0 i) [] s3) : lW p l e s mid args below meth c cells slots Q ad ca D pc (lL0 i) [] s1 := by
  have at' := fun {q n : Nat} {i' : Instr} (h : (q, i', n) ∈ [(pc, Instr.aload_n 1, 1), (pc + 1 + 6 * js.length, Instr.invokevirtual kx, 3), (pa, Instr.aload_n 2, 1), (pa + 1 + 6 * js.length, Instr.invokevirtual km, 3), (pm, Instr.if_icmp .eq off, 3)]) => chk_at h3 h
  refine l_aload (k := 1) (q := 0) F (at' (by simp)) rfl ?_
  refine l_args F hb98 hL hi rfl rfl js (pc + 1) _ h1 hjs ?_
  have hlm : (js.map (fun j => (Sum.inl (xs (i + j)) : mV))).length = js.length := List.length_map _
  refine l_call F hcs (at' (by simp)) hx1 hx2 hx3 hx4.1 hx4.2.1 hx4.2.2.1 (by rw [hlm]; exact hx4.2.2.2.1) rfl hx4.2.2.2.2 he1 ?_
  rw [← hpa]
  refine l_aload (k := 2) (q := 66) F (at' (by simp)) rfl ?_
  refine l_args F hb98 hL hi rfl rfl js (pa + 1) _ h2 hjs ?_
  refine l_call F hcs (at' (by simp)) hm1 hm2 hm3 hm4.1 hm4.2.1 hm4.2.2.1 (by rw [hlm]; exact hm4.2.2.2.1) rfl hm4.2.2.2.2 he2 ?_
  rw [← hpm]
  exact l_same F (at' (by simp)) ht hg
end LR2
