/-! WALL AND ROW THAT THROW -/
def xNSE : String := "java/util/NoSuchElementException"
def xNm : List String := ["java/lang/RuntimeException", "java/lang/Exception"]
def xAt : List Cond := vx_atS "ChestOfLetters" 179 xNSE xNm
def xTG : List Cond := Cond.classLink "ChestOfLetters" 175 xNSE :: Cond.initialized xNSE :: Cond.classLink "ChestOfLettersLaw" 13 xNSE :: xAt.filter goodWord
def xBad : List Cond := [Cond.declares ⟨"java/lang/RuntimeException", "<init>", "(Ljava/lang/String;)V"⟩, Cond.declares ⟨"java/lang/Exception", "<init>", "(Ljava/lang/String;)V"⟩, Cond.declares ⟨"java/lang/Throwable", "<init>", "(Ljava/lang/String;)V"⟩, Cond.castable xNSE xNSE]
theorem xT1 : Cond.classLink "ChestOfLetters" 175 xNSE ∈ lw_tbl := by decide +kernel
theorem xT2 : Cond.initialized xNSE ∈ lw_tbl := by decide +kernel
theorem xT3 : Cond.classLink "ChestOfLettersLaw" 13 xNSE ∈ lw_tbl := by decide +kernel
theorem xT4 : ∀ w ∈ xAt.filter goodWord, w ∈ lw_tbl := by decide +kernel
theorem xTG_tbl : ∀ w ∈ xTG, w ∈ lw_tbl := List.forall_mem_cons.mpr ⟨xT1, List.forall_mem_cons.mpr ⟨xT2, List.forall_mem_cons.mpr ⟨xT3, xT4⟩⟩⟩
theorem xBad_tbl : ∀ w ∈ xBad, w ∈ lw_tbl := by decide +kernel
theorem xTG_good : ∀ w ∈ xTG, goodWord w = true := by decide +kernel
theorem xAt_bad : ∀ w ∈ xAt.filter (fun w => !goodWord w), w ∈ xBad := by decide +kernel
theorem xAt_ot : ∀ w ∈ Cond.classLink "ChestOfLetters" 175 xNSE :: Cond.initialized xNSE :: xAt, vx_ot w = true := by decide +kernel
def TG2 : List Cond := mTG ++ xTG
theorem TG2_tbl : ∀ w ∈ TG2, w ∈ lw_tbl := fun w h => (List.mem_append.mp h).elim (mTG_tbl w) (xTG_tbl w)
theorem TG2_good : ∀ w ∈ TG2, goodWord w = true := fun w h => (List.mem_append.mp h).elim (mok.2.2.2.2.2.2.2.2 w) (xTG_good w)
/-- what a throw stands on beside words -/
def mZ (A : Nat → Prop) (U : State) : Prop := (∃ a, vk_R "ChestOfLetters" 177 "no such wall" a U) ∧ (∃ a, vk_R "ChestOfLetters" 211 "nothing such of a wall" a U) ∧ (∃ a, vk_R "ChestOfLetters" 451 "no such number" a U) ∧ vx_Zq Bundle.tN "UNASSIGNED_STACK" Bundle.steD A U U.heap ∧ vx_Zq Bundle.tN "SUPPRESSED_SENTINEL" Bundle.listD A U U.heap ∧ ∀ w ∈ xBad, va_Nw w U
section LEX
variable {l : Launch} {A A' : Nat → Prop} {s U : State} {H : Heap} {locs : List Loc} {d m sz pc1 : Nat} {M : mM} {as : List mV} {s0 s1 : mS} {ad : Nat → Nat} {ca : Nat → ClassId} {D : va_G} {v p0 q0 : Int32}
theorem mZ_move (h : mZ A s) (hq : ∀ a : Nat, a < s.heap.size → ¬ A a → H[a]? = s.heap[a]?) (hU : U.heap = H) (hW : s.WarmedH U.vm) (hAA : ∀ q, A' q → A q) : mZ A' U := by
  obtain ⟨⟨a1, h1⟩, ⟨a2, h2⟩, ⟨a3, h3⟩, h4, h5, h6⟩ := h
  refine ⟨⟨a1, h1.warm hW⟩, ⟨a2, h2.warm hW⟩, ⟨a3, h3.warm hW⟩, ?_, ?_, fun w hw => ?_⟩
  · rw [hU]; exact vx_Zq.moved hW.alike ((h4.kept hq).narrow hAA)
  · rw [hU]; exact vx_Zq.moved hW.alike ((h5.kept hq).narrow hAA)
  · have h7 := h6 w hw
    simp only [xBad, List.mem_cons, List.not_mem_nil, or_false] at hw
    rcases hw with rfl | rfl | rfl | rfl
    · exact va_Nw.warmD hW h7
    · exact va_Nw.warmD hW h7
    · exact va_Nw.warmD hW h7
    · exact va_Nw.warmC hW h7
theorem mZ_same {U' : State} (h : mZ A U) (hv : U'.vm = U.vm) (hh : U'.heap = U.heap) : mZ A U' := by
  obtain ⟨⟨a1, h1⟩, ⟨a2, h2⟩, ⟨a3, h3⟩, h4, h5, h6⟩ := h
  have al : U.vm.Alike U'.vm := by rw [hv]; exact Vm.Alike.refl _
  refine ⟨⟨a1, h1.same hv⟩, ⟨a2, h2.same hv⟩, ⟨a3, h3.same hv⟩, by rw [hh]; exact vx_Zq.moved al h4, by rw [hh]; exact vx_Zq.moved al h5, fun w hw => ?_⟩
  have h7 := h6 w hw
  have ho : w.onTables = true := by
    have : ∀ w ∈ xBad, w.onTables = true := by decide +kernel
    exact this w hw
  exact va_Nw.same ho hv.symm h7
/-- a start with what a throw stands on -/
def mPz (ad : Nat → Nat) (ca : Nat → ClassId) (D : va_G) (sz : Nat) (s0 : mS) : State → Prop := fun U => mP mTab 97 mCls mNX ad ca D sz s0 U ∧ mZ (va_A (wsO mTab ad ca 97 s0) sz) U
theorem mPz_blind {av : List Value} : FrameBlind (va_Pc av (mPz ad ca D sz s0)) := by
  rintro a U g mk ⟨q0, q1, q2⟩
  exact ⟨q0, (mP_blind (av := av) a U g mk ⟨q0, q1⟩).2, mZ_same q2 rfl rfl⟩
def xQ (ad : Nat → Nat) (ca : Nat → ClassId) (D : va_G) (A : Nat → Prop) (s1 : mS) : String → Unit → State → Prop := fun E _ t => E = xNSE ∧ va_P D mCls (wsO mTab ad ca 97 s1) t.heap ∧ va_K D mCls (tysO ca) t ∧ va_D A (wsO mTab ad ca 97 s1)
/-- which throw stands at a place -/
def xThr (M : mM) (pc : Nat) : Prop := decode M.1 pc = .ok (.new 175, 3) ∧ decode M.1 (pc + 3) = .ok (.dup, 1) ∧ ((decode M.1 (pc + 4) = .ok (.ldc 177, 2) ∧ decode M.1 (pc + 6) = .ok (.invokespecial 179, 3) ∧ decode M.1 (pc + 9) = .ok (.athrow, 1)) ∨ (decode M.1 (pc + 4) = .ok (.ldc 211, 2) ∧ decode M.1 (pc + 6) = .ok (.invokespecial 179, 3) ∧ decode M.1 (pc + 9) = .ok (.athrow, 1)) ∨ (decode M.1 (pc + 4) = .ok (.ldc_w 451, 3) ∧ decode M.1 (pc + 7) = .ok (.invokespecial 179, 3) ∧ decode M.1 (pc + 10) = .ok (.athrow, 1)))
set_option maxHeartbeats 4000000 in
theorem ctr_thr (hfl : l.stackTraces = false) (hd : 10 ≤ d) (hM : mMt m = some M) (hlen : as.length = M.2.2.2.2.1) (hcn : mCN M.2.1 = "ChestOfLetters") (hev : ev d m 0 (pad M.2.2.1 as) [] s0 = some (pc1 + 1, 0, s1)) (hth : xThr M pc1) :
    vx_Met l (mNm m) (Wd mNm mTy TG2 m M) { frames := d + 1, cells := 1, slots := 6, locals := 40 * (d + 1) } (va_Pc (as.map (rl ad)) (mPz ad ca D sz s0)) (va_Qi (fun (_ : Int32) (_ : Unit) => False) (fun _ _ => True) (va_A (wsO mTab ad ca 97 s0) sz)) (vx_X (fun _ : Unit => True) (xQ ad ca D (va_A (wsO mTab ad ca 97 s0) sz) s1) (va_A (wsO mTab ad ca 97 s0) sz)) 1 6 (va_A (wsO mTab ad ca 97 s0) sz) := by
  obtain ⟨n, hn⟩ := evT_iff.mp hev
  obtain ⟨o1, o2, o3, o4, o5, o6, o7, o8, o9⟩ := mok
  obtain ⟨a1, a2, a3, a4, a5, a6, a7, a8, r0, r1, r2, r3⟩ := o5 _ _ hM
  refine vx_ofW (cc := M.1) (maxL := M.2.2.1) (ret := mTy m) a1 rfl ?_
  intro p e s mid args below meth c s₁ B hml htab hv
  obtain ⟨rfl, ⟨hsz, hP, hK, hD0, hNX⟩, hZ⟩ := hv
  have hx := B.exec
  have hb := B.bytes
  have hts0 := atoms_spec (ws := Wd mNm mTy TG2 m M) B.pre
  have hts2 : ∀ w ∈ TG2, w.before (as.map (rl ad)).toArray s = true := fun w hw => hts0 w (List.mem_cons_of_mem _ hw)
  have hts : ∀ w ∈ mTG, w.before (as.map (rl ad)).toArray s = true := fun w hw => hts2 w (List.mem_append_left _ hw)
  have hown : s.vm.findClass (mCN M.2.1) = some mid.cls := by rw [a2]; exact findClass_of_methodNamed B.named
  have hown2 : s.vm.findClass "ChestOfLetters" = some mid.cls := by rw [← hcn]; exact hown
  have hlocks := B.notSynchronized
  subst hsz
  have hD := hD0.self (sz := s.heap.size)
  have hA : ∀ q : Nat, s.heap.size ≤ q → va_A (wsO mTab ad ca 97 s0) s.heap.size q := fun q h => Or.inr h
  have hl := lR_entry (ad := ad) (as := as) (n := M.2.2.1) (by rw [hlen]; exact a7)
  rw [lg_entry_eq]
  refine sW_run (R := { frames := d + 1, cells := 1, slots := 6, locals := 40 * (d + 1) }) (d := d) (m := m) (r := (pc1 + 1, 0, s1)) mok hM hx hb hml hown hts hK hNX (Nat.le_refl _) (Nat.le_refl _) ⟨Nat.zero_le _, Nat.zero_le _⟩ hA (fun d' _ => ctr l d') ⟨fun h => (by cases h), ?_⟩ n 0 (pad M.2.2.1 as) [] s0 hn s.heap [] _ hP hD va_S.rf hl
  intro pc2 hpc H1 locs1 ls1 idx _ hP1 hD1 hS1 hsz1
  have hpc2 : pc2 = pc1 := by
    have hpc : pc1 + 1 = pc2 + 1 := hpc
    omega
  subst hpc2
  obtain ⟨⟨t1, z1⟩, ⟨t2, z2⟩, ⟨t3, z3⟩, hU, hN, hbad⟩ := hZ
  obtain ⟨d0, d3, dd⟩ := hth
  have hk : (Cond.classLink "ChestOfLetters" 175 xNSE).before (as.map (rl ad)).toArray s = true := hts2 _ (List.mem_append_right _ (by simp [xTG]))
  have hini : (Cond.initialized xNSE).before (as.map (rl ad)).toArray s = true := hts2 _ (List.mem_append_right _ (by simp [xTG]))
  have hat : ∀ w ∈ vx_atS "ChestOfLetters" 179 xNSE xNm, w.before (as.map (rl ad)).toArray s = true := vx_hat (B := xBad) (fun w hw => hts2 w (List.mem_append_right _ (List.mem_cons_of_mem _ (List.mem_cons_of_mem _ (List.mem_cons_of_mem _ hw))))) xAt_bad (fun w hw => va_Nw.use (by
    have : ∀ w ∈ xBad, w.onTables = true := by decide +kernel
    exact this w hw) (hbad w hw))
  have hfit : Bundle.fit xNSE = true := by decide +kernel
  have hfits : ∀ n ∈ xNm, Bundle.fit n = true := by decide +kernel
  have hXC : ∀ t : State, s.vm.Alike t.vm → H1.size ≤ t.heap.size → (∀ q : Nat, q < H1.size → t.heap[q]? = H1[q]?) → vx_X (fun _ : Unit => True) (xQ ad ca D (va_A (wsO mTab ad ca 97 s0) s.heap.size) s1) (va_A (wsO mTab ad ca 97 s0) s.heap.size) xNSE s t := fun t hal hsz hq => by
    refine ⟨(), trivial, ⟨rfl, va_P.kept hP1 (fun k q hk => hq q.1 (hP1 k q hk).lt), va_K.moved hal hK, hD1⟩, Nat.le_trans hS1.1 hsz, fun q h1 h2 => ?_⟩
    rw [hq q (Nat.lt_of_lt_of_le h1 hS1.1)]
    exact hS1.2.1 q h1 h2
  rcases dd with ⟨d4, d6, d9⟩ | ⟨d4, d6, d9⟩ | ⟨d4, d7, d10⟩
  · exact vx_throwS hx hb hfl hown2 hfit hfits hk hini z1 hat xAt_ot hU hN hS1 (by rw [hsz1, hml]) d0 d3 d4 d6 d9 (fun x hx => (htab x hx).elim) (by show 2 + 3 < d + 1; omega) (by show 0 + (13 * (2 + 1) + 43) ≤ 40 * (d + 1); omega) (Nat.le_refl _) (Nat.le_refl _) hlocks hXC hS1.2.2 (Nat.le_refl _) (Nat.le_refl _)
  · exact vx_throwS hx hb hfl hown2 hfit hfits hk hini z2 hat xAt_ot hU hN hS1 (by rw [hsz1, hml]) d0 d3 d4 d6 d9 (fun x hx => (htab x hx).elim) (by show 2 + 3 < d + 1; omega) (by show 0 + (13 * (2 + 1) + 43) ≤ 40 * (d + 1); omega) (Nat.le_refl _) (Nat.le_refl _) hlocks hXC hS1.2.2 (Nat.le_refl _) (Nat.le_refl _)
  · exact vx_throwSW hx hb hfl hown2 hfit hfits hk hini z3 hat xAt_ot hU hN hS1 (by rw [hsz1, hml]) d0 d3 d4 d7 d10 (fun x hx => (htab x hx).elim) (by show 2 + 3 < d + 1; omega) (by show 0 + (13 * (2 + 1) + 43) ≤ 40 * (d + 1); omega) (Nat.le_refl _) (Nat.le_refl _) hlocks hXC hS1.2.2 (Nat.le_refl _) (Nat.le_refl _)
theorem thr_wall11 : xThr mm176 11 := by
  refine ⟨?_, ?_, Or.inl ⟨?_, ?_, ?_⟩⟩ <;> decide +kernel
theorem thr_wall180 : xThr mm176 180 := by
  refine ⟨?_, ?_, Or.inr (Or.inl ⟨?_, ?_, ?_⟩)⟩ <;> decide +kernel
theorem thr_row15 : xThr mm217 15 := by
  refine ⟨?_, ?_, Or.inr (Or.inr ⟨?_, ?_, ?_⟩)⟩ <;> decide +kernel
end LEX
