/-! THE LAW'S TWO HELPERS: a wall's or a row's answer goes into out, a throw answers 1 -/
def rmT : Room := { frames := 401, cells := 1, slots := 6, locals := 40 * 401 }
def rmH : Room := { frames := 402, cells := 1, slots := 6, locals := 40 * 402 }
def yWall : MethodName := { cls := "ChestOfLettersLaw", name := "wall", desc := "(LChestOfLetters;II[J)I" }
def yRow : MethodName := { cls := "ChestOfLettersLaw", name := "row", desc := "(LChestOfLetters;I[J)I" }
def cwWall : Cond := Cond.codeWith yWall method_3_code 5 (some .int) [(0, 10, 13, 13)]
def cwRow : Cond := Cond.codeWith yRow method_4_code 4 (some .int) [(0, 9, 12, 13)]
theorem cwWall_tbl : cwWall ∈ lw_tbl := by decide +kernel
theorem cwRow_tbl : cwRow ∈ lw_tbl := by decide +kernel
theorem sh97 : mTab.sh 97 = (24, 1) := by decide +kernel
/-- what a helper answers, and where the class and out stand then -/
def hOut (m : Nat) (M : mM) (as : List mV) (s0 : mS) (r : Int32) (sR : mS) : Prop :=
  (∃ s1 v, ev 400 m 0 (pad M.2.2.1 (.inr 1 :: as)) [] s0 = some (0, v, s1) ∧ r = 0 ∧ sR = up s1 97 0 v) ∨ (∃ s1 pc1, ev 400 m 0 (pad M.2.2.1 (.inr 1 :: as)) [] s0 = some (pc1 + 1, 0, s1) ∧ xThr M pc1 ∧ r = 1 ∧ sR = s1)
theorem updL_up {f : Nat → Int32} {v : Int32} : vp_updL (fun j => (f j).toInt64) (0 : Int32).toNatClampNeg v.toInt64 = fun j => (upd f 0 v j).toInt64 := by
  have e : (0 : Int32).toNatClampNeg = 0 := by decide +kernel
  rw [e]
  funext j
  unfold vp_updL upd
  split <;> simp_all
section LHP
variable {p : Program} {l : Launch} {e : Env} {R : Room} {s : State} {mid : MethodId} {args : Array Value} {below : List Frame} {meth : Method} {c : Code}
variable {ad : Nat → Nat} {ca : Nat → ClassId} {D : va_G} {s0 s1 sR : mS} {cc : ByteArray} {nL pk k m pr hd pi : Nat} {as : List mV} {M : mM} {r : Int32} {lr : Array Slot}
theorem out_at {s1 : mS} : (wsO mTab ad ca 97 s1)[96]? = some (ad 97, .inl (ca 4, 1, .inr (.inl fun j => (s1 97 j).toInt64))) := by
  have h := wsO_at (T := mTab) (ad := ad) (ca := ca) (N := 97) (s := s1) (k := 97) (by omega)
  have e : entO mTab ad ca s1 97 = .inl (ca 4, 1, .inr (.inl fun j => (s1 97 j).toInt64)) := by
    unfold entO
    rw [sh97]
    rfl
  rw [e] at h
  exact h
theorem out_set {s1 : mS} {v : Int32} : (wsO mTab ad ca 97 s1).set 96 (ad 97, .inl (ca 4, 1, .inr (.inl (vp_updL (fun j => (s1 97 j).toInt64) (0 : Int32).toNatClampNeg v.toInt64)))) = wsO mTab ad ca 97 (up s1 97 0 v) := by
  refine wsO_set (T := mTab) (k := 97) (f := upd (s1 97) 0 v) (by omega) ?_
  rw [updL_up]
  unfold entO
  rw [sh97, setA_at]
  rfl
set_option maxHeartbeats 4000000 in
theorem hlp_tail (hx : p.tables.exec = Jvm.exec) (hb : c.code = cc) (hml : c.maxLocals = nL) (hret : meth.sig.returnType = some .int) (hlk : meth.locks = false) (hfl : l.stackTraces = false) (hown : s.vm.findClass (mCN 16) = some mid.cls) (hts2 : ∀ w ∈ TG2, w.before args s = true) (hK : va_K D mCls (tysO ca) s) (hNX : ∀ q ∈ mNX, va_Nw (nxw q) s) (hZ : mZ (va_A (wsO mTab ad ca 97 s0) s.heap.size) s)
    (hP : va_P D mCls (wsO mTab ad ca 97 s0) s.heap) (hD : va_D (va_A (wsO mTab ad ca 97 s0) s.heap.size) (wsO mTab ad ca 97 s0)) {ls : List mV} (hl : lR ad nL ls lr)
    (hM : mMt m = some M) (hlen : as.length + 1 = M.2.2.2.2.1) (hcr : mCr 16 k = some m) (hst : M.2.2.2.2.2.1 = false) (hsh : (mSh 1).1 = M.2.1) (hci : M.2.1 = 11) (hrt : M.2.2.2.1 = 1) (hty : mTy m = some .int) (h21 : M.2.2.1 ≤ 21) (ho : hOut m M as s0 r sR)
    (d1 : decode cc pk = .ok (.invokevirtual k, 3)) (d2 : decode cc (pk + 3) = .ok (.i2l, 1)) (d3 : decode cc (pk + 4) = .ok (.lastore, 1)) {off : Int} (d4 : decode cc (pk + 5) = .ok (.goto off, 3)) (hoff : ((pk + 5 : Nat) : Int) + off = (pr : Int)) (d5 : decode cc pr = .ok (.iconst 0, 1)) (d6 : decode cc (pr + 1) = .ok (.ireturn, 1)) (d7 : decode cc pi = .ok (.iconst 1, 1)) (d8 : decode cc (pi + 1) = .ok (.ireturn, 1))
    {en : Nat} (htab : c.exceptionTable.toList = [{ startPc := 0, endPc := en, handlerPc := hd, catchType := 13 }]) (hen : pk < en)
    (hast : ∀ (H1 : Heap) (locs1 : List Loc) (q9 : Nat), (∀ lr', W p l e rmH s mid args below meth c H1 locs1 1 6 (MQ below (mQ mTab 97 mCls ad ca D (va_A (wsO mTab ad ca 97 s0) s.heap.size) 1 r sR) args s 1 6 (va_A (wsO mTab ad ca 97 s0) s.heap.size)) (F0 mid pi lr' [])) → W p l e rmH s mid args below meth c H1 locs1 1 6 (MQ below (mQ mTab 97 mCls ad ca D (va_A (wsO mTab ad ca 97 s0) s.heap.size) 1 r sR) args s 1 6 (va_A (wsO mTab ad ca 97 s0) s.heap.size)) (F0 mid hd lr [.ref q9])) :
    W p l e rmH s mid args below meth c s.heap [] 0 0 (MQ below (mQ mTab 97 mCls ad ca D (va_A (wsO mTab ad ca 97 s0) s.heap.size) 1 r sR) args s 1 6 (va_A (wsO mTab ad ca 97 s0) s.heap.size)) (F0 mid pk lr ((as.reverse ++ Sum.inr 1 :: [Sum.inl 0, Sum.inr 97]).map (rl ad))) := by
  have hts : ∀ w ∈ mTG, w.before args s = true := fun w hw => hts2 w (List.mem_append_left _ hw)
  have hA : ∀ q : Nat, s.heap.size ≤ q → va_A (wsO mTab ad ca 97 s0) s.heap.size q := fun q h => Or.inr h
  rcases ho with ⟨s1, v, hev, rfl, rfl⟩ | ⟨s1, pc1, hev, hth, rfl, rfl⟩
  · refine l_virt (kd := 1) (o := 16) (q := 1) (d := 400) (R := rmH) (A := va_A (wsO mTab ad ca 97 s0) s.heap.size) (H0 := s.heap) mok hx hb hml hown hts hK hNX (by decide +kernel) (by decide +kernel) ⟨Nat.zero_le _, Nat.zero_le _⟩ hA (ctr l 400) d1 hcr hM hst hsh (by rw [hci]; decide) hlen rfl (Or.inr (Or.inl ⟨Or.inl hrt, rfl⟩)) (lk16 hcr hM) hev rfl ?_ s.heap [] lr hP hD va_S.rf hl
    intro H1 locs1 lr1 hP1 hD1 hS1 hl1
    refine lv_i2l hx hb d2 rfl ?_
    refine va_last hx hb hK hP1 hD1 hS1 96 4 out_at rfl (i := 0) (inb_in (by decide +kernel)) d3 (fun H2 locs2 hP2 hD2 hS2 => ?_)
    rw [out_set] at hP2 hD2
    refine lv_goto hx hb d4 hoff ?_
    refine lv_iconst (v := 0) hx hb d5 rfl ?_
    refine W.widen (k := 1) (n := 6) (Nat.zero_le _) (Nat.zero_le _) ?_
    exact W.iret hx hb hret (fun t ht hW => ⟨⟨rfl, by rw [ht]; exact hP2, va_K.moved hW.alike hK, hD2⟩, hS2.F ht⟩) hS2.2.2 d6
  · obtain ⟨o1, o2, o3, o4, o5, o6, o7, o8, o9⟩ := mok
    obtain ⟨a1, a2, a3, a4, a5, a6, a7, a8, r0, r1, r2, r3⟩ := o5 _ _ hM
    obtain ⟨b1, -, b3⟩ := o6 _ _ _ _ hcr hM
    obtain ⟨b3, b4⟩ := b3 hst
    have hMet := ctr_thr (ad := ad) (ca := ca) (D := D) (sz := s.heap.size) (d := 400) hfl (by decide) hM (show (Sum.inr 1 :: as).length = M.2.2.2.2.1 by rw [List.length_cons]; exact hlen) (by rw [hci]; decide +kernel) hev hth
    have hn : (as.map (rl ad)).length = M.2.2.2.2.1 - 1 := by rw [List.length_map]; omega
    have hstk : ((as.reverse ++ Sum.inr 1 :: [Sum.inl 0, Sum.inr 97]).map (rl ad)) = (as.map (rl ad)).reverse ++ .ref (ad 1) :: ([Sum.inl 0, Sum.inr 97].map (rl ad)) := by
      rw [List.map_append, List.map_reverse, List.map_cons]
      rfl
    have hpar : ∀ sig, parseMethodDescriptor (mNm m).desc = some sig → M.2.2.2.2.1 - 1 = sig.parameters.length := by
      intro sig hs
      rw [hst] at a6
      rw [hs] at a6
      simp only [Option.map_some, Option.some.injEq] at a6
      simpa using a6.symm
    have hpay : ∀ w ∈ Wd mNm mTy TG2 m M, ∀ (a' : Array Value) (U : State), s.WarmedH U.vm → w.before a' U = true := pay_in hts2 (Wd_good (List.mem_append_left _ a3) TG2_good)
    have hrecv : ∃ cellB : Cell, s.heap[ad 1]? = some cellB ∧ cellB.vm.isStatics = false ∧ s.vm.findClass (mNm m).cls = some cellB.cls := by
      have hq20 : (mTab.sh 1).1 < 20 := by show (mSh 1).1 < 20; rw [hsh, hci]; decide
      obtain ⟨r2, hr2, -, -⟩ := o2 1 hq20
      have hat := wsO_at (T := mTab) (ad := ad) (ca := ca) (N := 97) (s := s0) (o1 1 (by omega))
      rw [entO_obj hq20] at hat
      obtain ⟨-, -, -, hcn⟩ := o3 _ _ hr2
      have h9 := va_recv hK hP hr2 hat
      rw [← hcn, show (mTab.sh 1).1 = M.2.1 from hsh, a2] at h9
      exact h9
    have hPre : PreV s s.heap (mNm m).cls (ad 1) (va_Pc ((.inr 1 :: as).map (rl ad)) (mPz ad ca D s.heap.size s0)) (as.map (rl ad)) :=
      ⟨mPz_blind, hrecv, fun U hU hW => ⟨rfl, ⟨by rw [hU], by rw [hU]; exact hP, va_K.moved hW.alike hK, hD.weaken (fun _ _ _ _ => trivial), fun q hq => va_Nw.warmM hW (hNX q hq)⟩, mZ_move (H := s.heap) hZ (fun _ _ _ => rfl) hU hW (fun _ h => h)⟩⟩
    have hlo2 : 8 + (M.2.2.1 + 11) + rmT.locals ≤ rmH.locals := by show 8 + (M.2.2.1 + 11) + 40 * 401 ≤ 40 * 402; omega
    have hroom := lv_room (m := mid) (pc := pk) (ls := lr) (rest := (as.reverse ++ Sum.inr 1 :: [Sum.inl 0, Sum.inr 97]).map (rl ad)) (sml_cat (ad := ad) (r0 := [Sum.inl 0, Sum.inr 97]) rfl)
    have hrn := vx_runV (p := p) (l := l) (e := e) (R := rmH) (below := below) (meth := meth) (locs := []) (cells := 0) (slots := 0) (index := k) (Ts := TG2) (own := mCN 16) (g := F0 mid pk lr ((as.reverse ++ Sum.inr 1 :: [Sum.inl 0, Sum.inr 97]).map (rl ad))) (rest := [Sum.inl 0, Sum.inr 97].map (rl ad)) ⟨hx, hb, hml, hown, hts2⟩ hMet
      (⟨⟨rfl, rfl, Nat.le_refl _, hlo2, hpay, List.mem_cons_self, hts _ a3, hts _ a4, a5, hpar, hts _ (lk16 hcr hM)⟩, hts _ b3, hts _ b4⟩ : CallW rmH s args (mCN 16) (mNm m).cls k (mNm m) M.1 M.2.2.1 (mTy m) (Wd mNm mTy TG2 m M) rmT 1 6 (M.2.2.2.2.1 - 1)) hPre rfl hn hl.2.1 hstk hroom d1 ⟨Nat.le_refl _, Nat.le_refl _⟩
    refine vx_calli hrn va_S.rf (fun _ _ h => h) (fun _ h => h) (fun _ _ h => h) (fun E ce q9 u t H1 locs1 ht hal _ hB hsz _ hS1 hce hcv hcl => ?_) (fun r9 u9 t9 H9 l9 h1 h2 hf _ _ _ _ => False.elim hf)
    obtain ⟨rfl, hP1, -, hD1⟩ := hB
    rw [ht] at hP1
    refine vx_catch (own := mCN 16) (name := xNSE) (E := xNSE) hown [] _ [] htab (fun z hz => nomatch hz) (by simp; omega) (show (13 : Nat) ≠ 0 by decide) (hts2 _ (List.mem_append_right _ (List.mem_cons_of_mem _ (List.mem_cons_of_mem _ List.mem_cons_self)))) (va_Nw.use (by decide +kernel) (hZ.2.2.2.2.2 _ (by simp [xBad]))) hce hcv hcl ?_
    refine hast H1 locs1 q9 (fun lr' => ?_)
    refine lv_iconst (v := 1) hx hb d7 rfl ?_
    exact W.iret hx hb hret (fun t ht hW => ⟨⟨rfl, by rw [ht]; exact hP1, va_K.moved hW.alike hK, hD1⟩, hS1.F ht⟩) hS1.2.2 d8
set_option maxHeartbeats 4000000 in
theorem ctr_wall {sz : Nat} {x y : Int32} (hfl : l.stackTraces = false) (ho : hOut 176 mm176 [.inl x, .inl y] s0 r sR) :
    Met l yWall (cwWall :: TG2) rmH (va_Pc ([Sum.inr 1, Sum.inl x, Sum.inl y, Sum.inr 97].map (rl ad)) (mPz ad ca D sz s0)) (mQ mTab 97 mCls ad ca D (va_A (wsO mTab ad ca 97 s0) sz) 1 r sR) 1 6 (va_A (wsO mTab ad ca 97 s0) sz) := by
  refine va_MetW (cc := method_3_code) (maxL := 5) (ret := some .int) (hh := [(0, 10, 13, 13)]) (by decide +kernel) rfl ?_
  intro p e s mid args below meth c s₁ B hml hv
  obtain ⟨rfl, ⟨hsz, hP, hK, hD0, hNX⟩, hZ⟩ := hv
  have hx := B.exec
  have hb := B.bytes
  have hr := B.returns
  have hts0 := atoms_spec (ws := cwWall :: TG2) B.pre
  have hts2 : ∀ w ∈ TG2, w.before ([Sum.inr 1, Sum.inl x, Sum.inl y, Sum.inr 97].map (rl ad)).toArray s = true := fun w hw => hts0 w (List.mem_cons_of_mem _ hw)
  have hown : s.vm.findClass (mCN 16) = some mid.cls := findClass_of_methodNamed B.named
  have hlocks := B.notSynchronized
  have htab := vx_table (x := yRow) B (hts0 _ List.mem_cons_self)
  subst hsz
  have hD := hD0.self (sz := s.heap.size)
  have hl := lR_entry (ad := ad) (as := [Sum.inr 1, Sum.inl x, Sum.inl y, Sum.inr 97]) (n := 5) (by simp)
  rw [lg_entry_eq]
  refine lv_aload_n hx hb (k := 3) (by decide +kernel) rfl (lR_get hl (i := 3) (v := .inr 97) rfl (by simp)) ?_
  refine lv_iconst (n := 0) (v := 0) hx hb (by decide +kernel) rfl ?_
  refine lv_aload_n hx hb (k := 0) (by decide +kernel) rfl (lR_get hl (i := 0) (v := .inr 1) rfl (by simp)) ?_
  refine lv_iload_n hx hb (k := 1) (by decide +kernel) rfl (lR_get hl (i := 1) (v := .inl x) rfl (by simp)) ?_
  refine lv_iload_n hx hb (k := 2) (by decide +kernel) rfl (lR_get hl (i := 2) (v := .inl y) rfl (by simp)) ?_
  refine hlp_tail (cc := method_3_code) (nL := 5) (k := 7) (m := 176) (M := mm176) (as := [.inl x, .inl y]) (pk := 5) (pr := 17) (off := 7) (hd := 13) (pi := 15) (en := 10) hx hb hml hr hlocks hfl hown hts2 hK hNX hZ hP hD hl rfl rfl rfl rfl (by decide +kernel) rfl rfl rfl (by decide) ho (by decide +kernel) (by decide +kernel) (by decide +kernel) (by decide +kernel) rfl (by decide +kernel) (by decide +kernel) (by decide +kernel) (by decide +kernel) htab (by decide) ?_
  intro H1 locs1 q9 kk
  exact lv_astore hx hb (i := 4) (by decide +kernel) hl.2 (by decide) rfl (fun lr' _ => kk lr')
set_option maxHeartbeats 4000000 in
theorem ctr_row {sz : Nat} {x : Int32} (hfl : l.stackTraces = false) (ho : hOut 217 mm217 [.inl x] s0 r sR) :
    Met l yRow (cwRow :: TG2) rmH (va_Pc ([Sum.inr 1, Sum.inl x, Sum.inr 97].map (rl ad)) (mPz ad ca D sz s0)) (mQ mTab 97 mCls ad ca D (va_A (wsO mTab ad ca 97 s0) sz) 1 r sR) 1 6 (va_A (wsO mTab ad ca 97 s0) sz) := by
  refine va_MetW (cc := method_4_code) (maxL := 4) (ret := some .int) (hh := [(0, 9, 12, 13)]) (by decide +kernel) rfl ?_
  intro p e s mid args below meth c s₁ B hml hv
  obtain ⟨rfl, ⟨hsz, hP, hK, hD0, hNX⟩, hZ⟩ := hv
  have hx := B.exec
  have hb := B.bytes
  have hr := B.returns
  have hts0 := atoms_spec (ws := cwRow :: TG2) B.pre
  have hts2 : ∀ w ∈ TG2, w.before ([Sum.inr 1, Sum.inl x, Sum.inr 97].map (rl ad)).toArray s = true := fun w hw => hts0 w (List.mem_cons_of_mem _ hw)
  have hown : s.vm.findClass (mCN 16) = some mid.cls := findClass_of_methodNamed B.named
  have hlocks := B.notSynchronized
  have htab := vx_table (x := yRow) B (hts0 _ List.mem_cons_self)
  subst hsz
  have hD := hD0.self (sz := s.heap.size)
  have hl := lR_entry (ad := ad) (as := [Sum.inr 1, Sum.inl x, Sum.inr 97]) (n := 4) (by simp)
  rw [lg_entry_eq]
  refine lv_aload_n hx hb (k := 2) (by decide +kernel) rfl (lR_get hl (i := 2) (v := .inr 97) rfl (by simp)) ?_
  refine lv_iconst (n := 0) (v := 0) hx hb (by decide +kernel) rfl ?_
  refine lv_aload_n hx hb (k := 0) (by decide +kernel) rfl (lR_get hl (i := 0) (v := .inr 1) rfl (by simp)) ?_
  refine lv_iload_n hx hb (k := 1) (by decide +kernel) rfl (lR_get hl (i := 1) (v := .inl x) rfl (by simp)) ?_
  refine hlp_tail (cc := method_4_code) (nL := 4) (k := 15) (m := 217) (M := mm217) (as := [.inl x]) (pk := 4) (pr := 15) (off := 6) (hd := 12) (pi := 13) (en := 9) hx hb hml hr hlocks hfl hown hts2 hK hNX hZ hP hD hl rfl rfl rfl rfl (by decide +kernel) rfl rfl rfl (by decide) ho (by decide +kernel) (by decide +kernel) (by decide +kernel) (by decide +kernel) rfl (by decide +kernel) (by decide +kernel) (by decide +kernel) (by decide +kernel) htab (by decide) ?_
  intro H1 locs1 q9 kk
  exact lv_astore_n hx hb (k := 3) (i := 3) (by decide +kernel) rfl hl.2 (by decide) rfl (fun lr' _ => kk lr')
end LHP
