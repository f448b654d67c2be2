/-! THE LAW, FROM ITS ENTRY -/
theorem dX : ∀ j, j < 16 → ∀ ty, parseFieldDescriptor (mF11 j).2.2.1 = some ty → defaultValue ty = vp_V dfX j := by
  intro j hj ty h
  have key : ∀ j, j < 16 → (parseFieldDescriptor (mF11 j).2.2.1).map defaultValue = some (vp_V dfX j) := by decide +kernel
  have := key j hj
  rw [h] at this
  exact Option.some.inj this
section LSC
variable {p : Program} {l : Launch} {e : Env} {s : State} {m : MethodId} {below : List Frame} {meth : Method} {c : Code} {Q : State → Prop} {args : Array Value}
set_option maxHeartbeats 2000000 in
/-- with all places laid, the loop -/
theorem l_start2 (hfl : l.stackTraces = false) {b L : Nat} {xs : Nat → Int32} (hL : L ≤ 2560) (hx : p.tables.exec = Jvm.exec) (hb : c.code = code) (hml : c.maxLocals = 7) (hown : s.vm.findClass (mCN 16) = some m.cls) (hts : ∀ w ∈ lw_tbl, w.before args s = true) (hX : va_X b L xs s s.heap) (hbl : b < s.heap.size) (hlocks : meth.locks = false)
    {D : va_G} {ca : Nat → ClassId} (hK : va_K D mCls (tysO ca) s) (hZ : mZ (fun q : Nat => s.heap.size ≤ q) s) (hNX : ∀ q ∈ mNX, va_Nw (nxw q) s)
    (hend : ∀ (ad : Nat → Nat) (ca : Nat → ClassId) (D : va_G) c' s' s3 i', c' ≤ 601024 → s' ≤ 7293034 → lW p l e s m args below meth c c' s' Q ad ca D 1500 (lL0 i') [] s3)
    {ad a : Nat → Nat} {q1 q67 q97 cells slots : Nat} (had : ad 1 = q1) (hcc : cells + 512 < 601024) (hss : slots + 6 * 512 + 6 ≤ 7293034) {H : Heap} {locs : List Loc} {ls : Array Slot}
    (hP4 : va_P D mCls ((wsO T66 ad ca 66 sX ++ cnP ca 12 opModel dfModel q67 a) ++ [(q97, .inl (ca 4, 1, .inr (.inl (fun j => (sB 97 j).toInt64))))]) H) (hD4 : va_D (fun q : Nat => s.heap.size ≤ q) ((wsO T66 ad ca 66 sX ++ cnP ca 12 opModel dfModel q67 a) ++ [(q97, .inl (ca 4, 1, .inr (.inl (fun j => (sB 97 j).toInt64))))])) (hS4 : va_S (fun q : Nat => s.heap.size ≤ q) s.heap H locs)
    (hl4 : lv_has ls 7 [(4, .int (nI 0)), (3, .ref q97), (2, .ref q67), (1, .ref q1), (0, .ref b)]) : W p l e room_1 s m args below meth c H locs cells slots Q (F0 m 23 ls []) := by
  have hw := worldM (ad := ad) (ca := ca) (q67 := q67) (q97 := q97) (b := b) (a := a)
  have hP5 : va_P D mCls (wsO mTab (adM ad q67 a q97 b) ca 97 sB) H := (congrArg (fun w => va_P D mCls w H) hw).mp hP4
  have hD5 : va_D (fun q : Nat => s.heap.size ≤ q) (wsO mTab (adM ad q67 a q97 b) ca 97 sB) := (congrArg (fun w => va_D (fun q : Nat => s.heap.size ≤ q) w) hw).mp hD4
  have F : LF p l s m args meth c ca D b L xs := ⟨hx, hb, hml, hown, hts, hK, hNX, hX, hbl, hlocks⟩
  have a1 : adM ad q67 a q97 b 1 = q1 := by
    unfold adM
    rw [if_pos (by decide)]
    exact had
  have a98 : adM ad q67 a q97 b 98 = b := by
    unfold adM
    rw [if_neg (by decide), if_neg (by decide), if_neg (by decide), if_pos rfl]
  have a67 : adM ad q67 a q97 b 67 = q67 := by
    unfold adM
    rw [if_neg (by decide), if_pos rfl]
  have a97 : adM ad q67 a q97 b 97 = q97 := by
    unfold adM
    rw [if_neg (by decide), if_neg (by decide), if_pos rfl]
  obtain ⟨adm, hadm⟩ : ∃ adm, adm = adM ad q67 a q97 b := ⟨_, rfl⟩
  rw [← hadm] at hP5 hD5 a1 a98 a67 a97
  have hlR : lR adm 7 (lL0 0) ls := by
    refine ⟨rfl, hl4.1, hl4.2.1, fun q hq => hl4.2.2 q ?_⟩
    have e : lL adm (lL0 0) = [(0, .ref (adm 98)), (1, .ref (adm 1)), (2, .ref (adm 67)), (3, .ref (adm 97)), (4, .int (nI 0))] := rfl
    rw [e, a1, a98, a67, a97] at hq
    simp only [List.mem_cons, List.not_mem_nil, or_false] at hq
    rcases hq with rfl | rfl | rfl | rfl | rfl <;> simp
  have key : lW p l e s m args below meth c cells slots Q adm ca D 23 (lL0 0) [] sB := l_loop F hZ hfl a98 hL (fun c' s' s3 i' h1 h2 => hend _ _ _ c' s' s3 i' h1 h2) 512 0 0 cells slots sB (by omega) (by decide) hcc hss (by decide) LI_first
  exact key H locs ls hP5 hD5 hS4 hlR
theorem arrl_tbl : Cond.arrayClass .long ∈ lw_tbl := by decide +kernel
theorem out_new (cA : ClassId) : vp_cell cA (1, .inr (.inl (fun j => (sB 97 j).toInt64))) = arrV cA 1 (fun _ => defaultValue .long) := by
  have e0 : (0 : Int32).toInt64 = 0 := by decide +kernel
  show arrV cA 1 (fun j => .long ((sB 97 j).toInt64)) = arrV cA 1 (fun _ => .long 0)
  rw [sB_hi (by decide)]
  show arrV cA 1 (fun _ => .long ((0 : Int32).toInt64)) = _
  rw [e0]
theorem opC_M : opsC opModel = 29 := by decide +kernel
theorem opS_M : opsS opModel = 52055 := by decide +kernel
set_option maxHeartbeats 1500000 in
theorem l_start1 (hfl : l.stackTraces = false) {b L : Nat} {xs : Nat → Int32} (hL : L ≤ 2560) (hx : p.tables.exec = Jvm.exec) (hb : c.code = code) (hml : c.maxLocals = 7) (hown : s.vm.findClass (mCN 16) = some m.cls) (hts : ∀ w ∈ lw_tbl, w.before args s = true) (hX : va_X b L xs s s.heap) (hbl : b < s.heap.size) (hlocks : meth.locks = false)
    {D : va_G} {ca : Nat → ClassId} (hK : va_K D mCls (tysO ca) s) (hZ : mZ (fun q : Nat => s.heap.size ≤ q) s) (hNX : ∀ q ∈ mNX, va_Nw (nxw q) s)
    (hend : ∀ (ad : Nat → Nat) (ca : Nat → ClassId) (D : va_G) c' s' s3 i', c' ≤ 601024 → s' ≤ 7293034 → lW p l e s m args below meth c c' s' Q ad ca D 1500 (lL0 i') [] s3)
    {ad : Nat → Nat} {q1 : Nat} (had : ad 1 = q1) {H2 : Heap} {locs2 : List Loc} {ls1 : Array Slot} (hP2 : va_P D mCls (wsO T66 ad ca 66 sX) H2) (hD2 : va_D (fun q : Nat => s.heap.size ≤ q) (wsO T66 ad ca 66 sX)) (hS2 : va_S (fun q : Nat => s.heap.size ≤ q) s.heap H2 locs2)
    (hl1 : lv_has ls1 7 [(1, .ref q1), (0, .ref b)]) : W p l e room_1 s m args below meth c H2 locs2 66 10433 Q (F0 m 8 ls1 []) := by
  have hA : ∀ q : Nat, s.heap.size ≤ q → (fun q : Nat => s.heap.size ≤ q) q := fun _ h => h
  have r1 : room_1.cells = 601024 := rfl
  have r2 : room_1.slots = 7293034 := rfl
  have r3 : (rmK opModel).cells = 29 := opC_M
  have r4 : (rmK opModel).slots = 52055 := opS_M
  have hn5 : 66 + 1 + (rmK opModel).cells ≤ room_1.cells := by rw [r1, r3]; decide
  have hn6 : 10433 + 47 + (rmK opModel).slots ≤ room_1.slots := by rw [r2, r4]; decide
  have hn3 : 66 + 1 + (rmK opModel).cells + 1 ≤ room_1.cells := by rw [r1, r3]; decide
  have hn4 : 10433 + 47 + (rmK opModel).slots + 1 ≤ room_1.slots := by rw [r2, r4]; decide
  have hn1 : 66 + 1 + (rmK opModel).cells + 1 + 512 < 601024 := by rw [r3]; decide
  have hn2 : 10433 + 47 + (rmK opModel).slots + 1 + 6 * 512 + 6 ≤ 7293034 := by rw [r4]; decide
  refine xk_new (o := 16) (Ts := lw_tbl) (nL := 7) (ci' := 12) (C' := "ChestOfLettersModel") (T' := mF12) (N' := 47) (k1 := 20) (k2 := 22) (y := ⟨mCN 12, "<init>", "()V"⟩) (cc' := prog_14_method_1_code) (mL := 1) (fs' := dfModel) (As := []) (rest := []) (rm := rmK opModel) (pw := cnP ca 12 opModel dfModel) (pi := 12) hx hb hml hl1.1 hown hts TC_tbl TC_good hK hA rfl (xL_tbl _ (by decide +kernel)) (xL_tbl _ (by decide +kernel)) (xL_tbl _ (by decide +kernel)) (Or.inl (xL_tbl _ (by decide +kernel))) (xL_tbl _ (by decide +kernel)) (xL_tbl _ (by decide +kernel)) (xL_good _ (by decide +kernel)) rfl rfl ⟨by decide, by decide⟩ (by decide +kernel) rfl dModel kModel (by decide) (by decide) hn5 hn6 (by decide) (by decide +kernel) (by decide +kernel) (by decide +kernel) (fun _ _ _ kk => kk) hP2 hD2 hS2 (fun q67 a H3 locs3 hP3 hD3 hS3 => ?_)
  refine lv_astore_n hx hb (k := 2) (i := 2) (by decide +kernel) rfl hl1 (by decide) rfl (fun ls2 hl2 => ?_)
  refine lv_iconst (n := 1) (v := 1) hx hb (by decide +kernel) rfl ?_
  refine va_newa (atype := .long) (ty := .long) (N' := 1) (a0 := (1, .inr (.inl (fun j => (sB 97 j).toInt64)))) hx hb (hts _ arrl_tbl) rfl hK hP3 hD3 hS3 hA (fun cA => out_new cA) (by decide) (by decide) (by decide) hn3 hn4 (by decide +kernel) (fun q97 cA H4 hK4 hP4 hD4 hS4 => ?_)
  obtain rfl := ca_long hK hK4
  refine lv_astore_n hx hb (k := 3) (i := 3) (by decide +kernel) rfl hl2 (by decide) rfl (fun ls3 hl3 => ?_)
  refine lv_iconst (n := 0) (v := nI 0) hx hb (by decide +kernel) rfl ?_
  refine lv_istore hx hb (i := 4) (by decide +kernel) hl3 (by decide) rfl (fun ls4 hl4 => ?_)
  exact l_start2 hfl hL hx hb hml hown hts hX hbl hlocks hK hZ hNX hend had hn1 hn2 hP4 hD4 hS4 hl4
set_option maxRecDepth 100000 in
set_option maxHeartbeats 1500000 in
theorem l_start (hfl : l.stackTraces = false) {b L : Nat} {xs : Nat → Int32} (hL : L ≤ 2560) (hx : p.tables.exec = Jvm.exec) (hb : c.code = code) (hml : c.maxLocals = 7) (hown : s.vm.findClass (mCN 16) = some m.cls) (hts : ∀ w ∈ lw_tbl, w.before args s = true) (hX : va_X b L xs s s.heap) (hbl : b < s.heap.size) (hlocks : meth.locks = false) (hgv : (Jvm.Cond.and given_1 narrow_1).before args s = true)
    (hend : ∀ (ad : Nat → Nat) (ca : Nat → ClassId) (D : va_G) c' s' s3 i', c' ≤ 601024 → s' ≤ 7293034 → lW p l e s m args below meth c c' s' Q ad ca D 1500 (lL0 i') [] s3) {ls : Array Slot} (hl : lv_has ls 7 [(0, .ref b)]) : W p l e room_1 s m args below meth c s.heap [] 0 0 Q (F0 m 0 ls []) := by
  obtain ⟨D, ca, hK⟩ := s_K hts
  have hZ := s_Z hts hgv
  have hNX := s_NX hts nx_tbl
  have hXN := s_NX hts xNX_tbl
  have hA : ∀ q : Nat, s.heap.size ≤ q → (fun q : Nat => s.heap.size ≤ q) q := fun _ h => h
  have hP0 : va_P D mCls [] s.heap := fun k q h => by simp at h
  have hD0 : va_D (fun q : Nat => s.heap.size ≤ q) [] := ⟨fun i j p q h => by simp at h, fun k q h => by simp at h⟩
  have hc : mCls[11]? = some ("ChestOfLetters", mF11, 16) := rfl
  obtain ⟨o1, o2, o3, o4, o5, o6, o7, o8, o9⟩ := mok
  obtain ⟨u1, ⟨ty0, u2⟩, u3, u4⟩ := o3 _ _ hc
  have hin1 : ∀ w ∈ u_ws "ChestOfLetters" mF11 16, w ∈ lw_tbl := fun w h => mTG_tbl w (u1 w h)
  have hxl : ∀ w ∈ xL, w.before args s = true := fun w h => hts w (xL_tbl w h)
  refine va_new (own := mCN 16) (C := "ChestOfLetters") (T := mF11) (N := 16) (ci := 11) (fs := dfX) (index := 8) hx hb hts hin1 ty0 u2 hown (hxl _ (by decide +kernel)) (hxl _ (by decide +kernel)) (hxl _ (by decide +kernel)) hK hP0 hD0 va_S.rf hA hc (fun j hj => dX j hj _ (u2 j hj)) (by decide) (by decide) (by decide +kernel) (fun q1 H1 hP1 hD1 hS1 => ?_)
  refine lv_dup hx hb (by decide +kernel) rfl ?_
  have hF : ∀ q', va_A [(q1, .inr (11, dfX))] H1.size q' → s.heap.size ≤ q' := by
    rintro q' (⟨k, x, h⟩ | h)
    · exact hD1.2 k (q', x) h
    · exact Nat.le_trans hS1.1 h
  have hG : GoodIn lw_tbl (Cond.code yX prog_1_method_1_code 1 none :: TX) := by
    intro w hw
    rcases List.mem_cons.mp hw with rfl | hw
    · exact ⟨xL_tbl _ (by decide +kernel), good_of_word (xL_good _ (by decide +kernel))⟩
    · exact ⟨TX_tbl w hw, good_of_word (TX_good w hw)⟩
  have hrn : va_Run p l e room_1 s m args below meth c H1 [] (0 + 1) (0 + 16) 65 10417 (F0 m (0 + 3 + 1) ls [.ref q1, .ref q1]) [.ref q1] (qX ca D q1 H1.size [Value.ref q1].toArray) (va_A [(q1, .inr (11, dfX))] H1.size) :=
    va_runI (Ts := lw_tbl) (own := mCN 16) (As := []) (rest := [.ref q1]) (index := 19) (nL := 7) ⟨hx, hb, hml, hown, hts⟩ (kX q1 H1.size) (cwI 0 hts hG rfl rfl rfl (hxl _ (by decide +kernel)) (hxl _ (by decide +kernel)) (hxl _ (by decide +kernel)) rfl ⟨by decide, by decide, by decide +kernel⟩ ⟨by decide, by decide⟩) ⟨pXx_blind, fun U hU hW => ⟨rfl, ⟨by rw [hU], by rw [hU]; exact hP1, va_K.moved hW.alike hK, hD1.weaken (fun _ _ _ _ => trivial)⟩, fun q hq => va_Nw.warmM hW (hNX q hq), fun q hq => va_Nw.warmM hW (hXN q hq)⟩⟩ rfl rfl hl.1 rfl (lv_room (Nat.le_of_ble_eq_true rfl)) (show decode code 4 = .ok (.invokespecial 19, 3) by decide +kernel) ⟨by decide, by decide⟩
  refine va_callv hrn hS1 (fun q' _ h => hF q' h) hF (fun ad t H2 locs2 ht hvm had hBt _ _ hS2 => ?_)
  obtain ⟨hP2, -, hD2⟩ := hBt
  rw [ht] at hP2
  have hD2 := hD2.weaken (fun _ q' _ hq => hF q'.1 hq)
  refine lv_astore_n hx hb (k := 1) (i := 1) (by decide +kernel) rfl hl (by decide) rfl (fun ls1 hl1 => ?_)
  exact l_start1 hfl hL hx hb hml hown hts hX hbl hlocks hK hZ hNX hend had hP2 hD2 hS2 hl1
end LSC
