/-! THE CLASS'S CONSTRUCTOR -/
def xNX : mX := [(mCN 11, 9, ⟨mCN 9, "<init>", "()V"⟩, "ChestOfLetters"), (mCN 11, 18, ⟨mCN 5, "<init>", "()V"⟩, "ChestOfLetters"), (mCN 11, 25, ⟨mCN 10, "<init>", "()V"⟩, "ChestOfLetters"), (mCN 11, 32, ⟨mCN 6, "<init>", "()V"⟩, "ChestOfLetters"), (mCN 11, 51, ⟨mCN 2, "<init>", "()V"⟩, "ChestOfLetters"), (mCN 11, 70, ⟨mCN 3, "<init>", "()V"⟩, "ChestOfLetters"), (mCN 11, 77, ⟨mCN 7, "<init>", "()V"⟩, "ChestOfLetters"), (mCN 11, 84, ⟨mCN 4, "<init>", "()V"⟩, "ChestOfLetters"), (mCN 11, 91, ⟨mCN 1, "<init>", "()V"⟩, "ChestOfLetters"), (mCN 11, 98, ⟨mCN 0, "<init>", "()V"⟩, "ChestOfLetters")]
theorem xNX_tbl : ∀ q ∈ xNX, nxw q ∈ lw_tbl := by decide +kernel
def xX : List Cond := [.classLink (mCN 11) 7 (mCN 9), .instantiable (mCN 9) 5, .initialized (mCN 9), .instanceMethod ⟨mCN 9, "<init>", "()V"⟩, .code ⟨mCN 9, "<init>", "()V"⟩ prog_11_method_1_code 1 none, .classLink (mCN 11) 16 (mCN 5), .instantiable (mCN 5) 2, .initialized (mCN 5), .instanceMethod ⟨mCN 5, "<init>", "()V"⟩, .code ⟨mCN 5, "<init>", "()V"⟩ prog_7_method_1_code 1 none, .classLink (mCN 11) 23 (mCN 10), .instantiable (mCN 10) 13, .initialized (mCN 10), .instanceMethod ⟨mCN 10, "<init>", "()V"⟩, .code ⟨mCN 10, "<init>", "()V"⟩ prog_12_method_1_code 1 none, .classLink (mCN 11) 30 (mCN 6), .instantiable (mCN 6) 4, .initialized (mCN 6), .instanceMethod ⟨mCN 6, "<init>", "()V"⟩, .code ⟨mCN 6, "<init>", "()V"⟩ prog_8_method_1_code 1 none, .classLink (mCN 11) 49 (mCN 2), .instantiable (mCN 2) 5, .initialized (mCN 2), .instanceMethod ⟨mCN 2, "<init>", "()V"⟩, .code ⟨mCN 2, "<init>", "()V"⟩ prog_4_method_1_code 1 none, .classLink (mCN 11) 56 (mCN 8), .instantiable (mCN 8) 4, .initialized (mCN 8), .instanceMethod ⟨mCN 8, "<init>", "(LChestOfLetters$Town;)V"⟩, .code ⟨mCN 8, "<init>", "(LChestOfLetters$Town;)V"⟩ prog_10_method_1_code 3 none, .classLink (mCN 11) 68 (mCN 3), .instantiable (mCN 3) 5, .initialized (mCN 3), .instanceMethod ⟨mCN 3, "<init>", "()V"⟩, .code ⟨mCN 3, "<init>", "()V"⟩ prog_5_method_1_code 1 none, .classLink (mCN 11) 75 (mCN 7), .instantiable (mCN 7) 7, .initialized (mCN 7), .instanceMethod ⟨mCN 7, "<init>", "()V"⟩, .code ⟨mCN 7, "<init>", "()V"⟩ prog_9_method_1_code 1 none, .classLink (mCN 11) 82 (mCN 4), .instantiable (mCN 4) 8, .initialized (mCN 4), .instanceMethod ⟨mCN 4, "<init>", "()V"⟩, .code ⟨mCN 4, "<init>", "()V"⟩ prog_6_method_1_code 1 none, .classLink (mCN 11) 89 (mCN 1), .instantiable (mCN 1) 4, .initialized (mCN 1), .instanceMethod ⟨mCN 1, "<init>", "()V"⟩, .code ⟨mCN 1, "<init>", "()V"⟩ prog_3_method_1_code 1 none, .classLink (mCN 11) 96 (mCN 0), .instantiable (mCN 0) 4, .initialized (mCN 0), .instanceMethod ⟨mCN 0, "<init>", "()V"⟩, .code ⟨mCN 0, "<init>", "()V"⟩ prog_2_method_1_code 1 none, .methodLink (mCN 11) 58 ⟨mCN 8, "<init>", "(LChestOfLetters$Town;)V"⟩]
def TX : List Cond := TC ++ xX
theorem xX_tbl : ∀ w ∈ xX, w ∈ lw_tbl := by decide +kernel
theorem xX_good : ∀ w ∈ xX, goodWord w = true := by decide +kernel
theorem TX_tbl : ∀ w ∈ TX, w ∈ lw_tbl := fun w h => (List.mem_append.mp h).elim (TC_tbl w) (xX_tbl w)
theorem TX_good : ∀ w ∈ TX, goodWord w = true := fun w h => (List.mem_append.mp h).elim (TC_good w) (xX_good w)
theorem TX_X {w : Cond} (h : w ∈ xX) : w ∈ TX := List.mem_append_right _ h
/-- what stands in the class's constructor -/
def XF (p : Program) (l : Launch) (s : State) (m : MethodId) (args : Array Value) (meth : Method) (c : Code) (ca : Nat → ClassId) (D : va_G) (h0 : Nat) (ls : Array Slot) : Prop :=
  p.tables.exec = Jvm.exec ∧ c.code = prog_1_method_1_code ∧ c.maxLocals = 1 ∧ ls.size = 1 ∧ ls[0]? = some (.val (.ref h0)) ∧ s.vm.findClass (mCN 11) = some m.cls ∧ (∀ w ∈ TX, w.before args s = true) ∧ va_K D mCls (tysO ca) s ∧ meth.name = "<init>" ∧ (∀ q ∈ mNX, va_Nw (nxw q) s) ∧ ∀ q ∈ xNX, va_Nw (nxw q) s
section XK
variable {p : Program} {l : Launch} {e : Env} {R : Room} {s : State} {m : MethodId} {args : Array Value} {below : List Frame} {meth : Method} {c : Code} {Q : State → Prop}
variable {ca : Nat → ClassId} {D : va_G} {A : Nat → Prop} {H0 H : Heap} {locs : List Loc} {cc' : ByteArray} {N' ci' k1 k2 k3 mL pc j cells slots h0 : Nat} {T' : u_T} {C' : String} {ls : Array Slot} {ar : va_W} {y : MethodName} {fs fs' As : List Value} {rm : Room} {pw : Nat → (Nat → Nat) → va_W} {ty : FieldType}
set_option maxHeartbeats 4000000 in
/-- one object more, into its field -/
theorem xk_step (F : XF p l s m args meth c ca D h0 ls) (hA : ∀ q, H0.size ≤ q → A q)
    (hc' : mCls[ci']? = some (C', T', N')) (hw : ∀ w ∈ [Cond.classLink (mCN 11) k1 C', .instantiable C' N', .initialized C', .instanceMethod y, .code y cc' mL none], w ∈ xX) (hlk : Cond.methodLink (mCN 11) k2 y ∈ xX ∨ ∃ host, (mCN 11, k2, y, host) ∈ xNX) (hy1 : y.name = "<init>") (hyC : y.cls = C') (hyh : C' ≠ "java/lang/invoke/MethodHandle" ∧ C' ≠ "java/lang/invoke/VarHandle") (hpar : (parseMethodDescriptor y.desc).map (fun d => d.parameters.length) = some As.length)
    (hfs : fs'.length = N') (hdf : ∀ j, j < N' → ∀ ty, parseFieldDescriptor (T' j).2.2.1 = some ty → defaultValue ty = vp_V fs' j) (hM : cG l ca D y cc' mL ci' fs' As rm pw)
    (hR1 : rm.frames + 1 ≤ R.frames) (hR2 : 8 + (mL + 11) + rm.locals ≤ R.locals) (hR3 : cells + 1 + rm.cells ≤ R.cells) (hR4 : slots + N' + rm.slots ≤ R.slots)
    (d0 : decode prog_1_method_1_code pc = .ok (.aload_n 0, 1)) (d1 : decode prog_1_method_1_code (pc + 1) = .ok (.new k1, 3)) (d2 : decode prog_1_method_1_code (pc + 1 + 3) = .ok (.dup, 1)) {pi : Nat} (d3 : decode prog_1_method_1_code pi = .ok (.invokespecial k2, 3)) (d4 : decode prog_1_method_1_code (pi + 3) = .ok (.putfield k3, 3))
    (hf : mFr 11 k3 = some (11, j)) (hj : j < 16) (hty : parseFieldDescriptor (mF11 j).2.2.1 = some ty) (hfit : ∀ q, fits ty (.ref q) = true) (hnar : ∀ q, narrow ty (.ref q) = .ref q) (hlen : fs.length = 16) (hfin : (mF11 j).2.2.2 = true ∧ (mF11 j).1 = mCN 11)
    (hargs : ∀ (H1 : Heap) (q : Nat), va_P D mCls (((h0, .inr (11, fs)) :: ar) ++ [(q, .inr (ci', fs'))]) H1 → W p l e R s m args below meth c H1 locs (cells + 1) (slots + N') Q (F0 m pi ls (As.reverse ++ .ref q :: .ref q :: [.ref h0])) → W p l e R s m args below meth c H1 locs (cells + 1) (slots + N') Q (F0 m (pc + 1 + 4) ls (.ref q :: .ref q :: [.ref h0])))
    (hP : va_P D mCls ((h0, .inr (11, fs)) :: ar) H) (hD : va_D A ((h0, .inr (11, fs)) :: ar)) (hS : va_S A H0 H locs)
    (kk : ∀ (q : Nat) (a : Nat → Nat) (H1 : Heap) (locs1 : List Loc), va_P D mCls ((h0, .inr (11, fs.set j (.ref q))) :: (ar ++ pw q a)) H1 → va_D A ((h0, .inr (11, fs.set j (.ref q))) :: (ar ++ pw q a)) → va_S A H0 H1 locs1 → W p l e R s m args below meth c H1 locs1 (cells + 1 + rm.cells) (slots + N' + rm.slots) Q (F0 m (pi + 6) ls [])) :
    W p l e R s m args below meth c H locs cells slots Q (F0 m pc ls []) := by
  obtain ⟨hx, hb, hml, hsz, hl0, hown, hts, hK, hin, hNX, hXN⟩ := F
  refine lv_aload_n hx hb (k := 0) d0 rfl hl0 ?_
  refine xk_new (o := 11) (Ts := TX) (nL := 1) (rest := [.ref h0]) hx hb hml hsz hown hts (fun w h => List.mem_append_left _ h) TC_good hK hA hc' (TX_X (hw _ (by simp))) (TX_X (hw _ (by simp))) (TX_X (hw _ (by simp))) (hlk.imp (fun h => TX_X h) (fun ⟨host, h⟩ => ⟨host, hXN _ h⟩)) (TX_X (hw _ (by simp))) (TX_X (hw _ (by simp))) (xX_good _ (hw _ (by simp))) hy1 hyC hyh hpar hfs hdf hM hR1 hR2 hR3 hR4 (by show 1 + 0 ≤ 6; decide) d1 d2 d3 hargs hP hD hS (fun q a H1 locs1 hP1 hD1 hS1 => ?_)
  have hc : mCls[11]? = some ("ChestOfLetters", mF11, 16) := rfl
  obtain ⟨o1, o2, o3, o4, o5, o6, o7, o8, o9⟩ := mok
  obtain ⟨u1, ⟨ty0, u2⟩, u3, u4⟩ := o3 _ _ hc
  have hin1 : ∀ w ∈ u_ws "ChestOfLetters" mF11 16, w ∈ TX := fun w h => List.mem_append_left _ (List.mem_append_left _ (u1 w h))
  obtain ⟨-, r9, hr9, hlk⟩ := o4 11 k3 11 j hf
  have er : r9 = ("ChestOfLetters", mF11, 16) := Option.some.inj (hr9.symm.trans hc)
  subst er
  have hlink := hts _ (List.mem_append_left _ (List.mem_append_left _ hlk))
  exact va_putF (own := mCN 11) (C := "ChestOfLetters") (T := mF11) (N := 16) (index := k3) (ty := ty) (v := .ref q) hx hb hts hin1 ty0 u2 u3 hown hK hP1 hD1 hS1 0 rfl hc j hj hlink (fun _ h => h) hfin.1 hin hfin.2 hty (hnar q) (hfit q) (by rw [hlen]; exact hj) d4 (fun H2 locs2 hP2 hD2 hS2 => kk q a H2 locs2 hP2 hD2 hS2)
/-- what the class's constructor calls on a rule -/
theorem xk_be {ad : Nat → Nat} {n : Int} {v f : Int32} {k0 kf : Nat} {s1 s2 : mS} {r : Int32} (F : XF p l s m args meth c ca D (ad 1) ls) (hfr : 4 ≤ R.frames) (hlo : 160 ≤ R.locals) (hcs : cells ≤ R.cells ∧ slots ≤ R.slots) (hA : ∀ q, H0.size ≤ q → A q) (hk : beK k0) (hrf : T66.rf 1 j = k0) (hj : j < 16) (hf : mFr 11 kf = some (11, j))
    (d0 : decode prog_1_method_1_code pc = .ok (.aload_n 0, 1)) (d1 : decode prog_1_method_1_code (pc + 1) = .ok (.getfield kf, 3)) (d2 : decode prog_1_method_1_code (pc + 4) = .ok (.bipush n, 2)) (hn : (Int8.ofInt n).toInt32 = v) {b : Int} (d3 : decode prog_1_method_1_code (pc + 6) = .ok (.iconst b, 1)) (hb' : Int32.ofInt b = f) (d4 : decode prog_1_method_1_code (pc + 7) = .ok (.invokevirtual 103, 3))
    (hev : ew 2 53 0 [.inr k0, .inl v, .inl f] [] s1 = some (0, r, s2))
    (hgo : mW p l e R s m args below meth c cells slots Q T66 66 mCls ad ca D A H0 1 (pc + 10) [.inr 1] [] s2) : mW p l e R s m args below meth c cells slots Q T66 66 mCls ad ca D A H0 1 pc [.inr 1] [] s1 := by
  obtain ⟨hx, hb, hml, hsz, hl0, hown, hts, hK, hin, hNX, hXN⟩ := F
  intro H locs lr hP hD hS hl
  obtain ⟨o1, o2, o3, o4, o5, o6, o7, o8, o9⟩ := mok
  have hc : mCls[11]? = some ("ChestOfLetters", mF11, 16) := rfl
  obtain ⟨u1, -, -, -⟩ := o3 _ _ hc
  obtain ⟨-, r9, hr9, hlk⟩ := o4 11 kf 11 j hf
  have er : r9 = ("ChestOfLetters", mF11, 16) := Option.some.inj (hr9.symm.trans hc)
  subst er
  have hts1 : ∀ w ∈ mTG, w.before args s = true := fun w h => hts w (List.mem_append_left _ (List.mem_append_left _ h))
  have hat := wsO_at (T := T66) (ad := ad) (ca := ca) (N := 66) (s := s1) (k := 1) (by omega)
  have hsh : T66.sh 1 = (11, 16) := by decide +kernel
  rw [entO_obj (by rw [hsh]; decide), hsh] at hat
  obtain ⟨k', hk'⟩ : ∃ k', k0 = k' + 1 := by rcases hk with rfl | rfl | rfl | rfl | rfl <;> exact ⟨_, rfl⟩
  have hv : ((List.range 16).map (fvl T66 ad s1 1))[j]? = some (.ref (ad k0)) := by
    rw [List.getElem?_map, List.getElem?_range hj, Option.map_some]
    unfold fvl
    rw [hrf, hk']
  refine lv_aload_n hx hb (k := 0) d0 rfl (lR_get hl (i := 0) (v := .inr 1) rfl (by simp)) ?_
  refine va_get (own := mCN 11) (C := "ChestOfLetters") (T := mF11) (N := 16) (ci := 11) (index := kf) hx hb hts1 u1 hown hK hP 0 hat hc j hj (hts1 _ hlk) (fun _ h => h) hv d1 ?_
  refine lv_bipush (v := v) hx hb d2 hn ?_
  refine lv_iconst (v := f) hx hb d3 hb' ?_
  have hshk : T66.sh k0 = (6, 4) := by rcases hk with rfl | rfl | rfl | rfl | rfl <;> decide +kernel
  exact l_virt (kd := 0) (o := 11) (q := k0) (d := 2) (R := R) (A := A) (H0 := H0) (as := [.inl v, .inl f]) (r0 := []) (M' := mm53) (m' := 53) (k := 103) mok66 hx hb hml hown hts1 hK hNX hfr hlo hcs hA (ctr66 l 2) d4 (by decide +kernel) rfl rfl (by rw [hshk]; rfl) (by decide) rfl rfl (Or.inl ⟨rfl, rfl⟩) (by
    rcases (mok66.2.2.2.2.2.1 11 103 53 mm53 (by decide +kernel) rfl).1 with z | ⟨host, z⟩
    · exact z
    · have key : mNX.all (fun q => !(decide (q.1 = mCN 11) && decide (q.2.1 = 103))) = true := by decide +kernel
      have := List.all_eq_true.mp key _ z
      simp at this) hev rfl hgo H locs lr hP hD hS hl
end XK
