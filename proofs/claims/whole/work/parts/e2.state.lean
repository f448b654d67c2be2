/-! THE STATE'S CONSTRUCTOR: its arrays, its town, no word on any wall -/
def opState : List cO := [(2, 1, 0, 124, 11), (2, 2, 0, 8, 15), (2, 3, 0, 10, 18)]
def dfState : List Value := [.null, .null, .null, .null]
def rmS : Room := { frames := 2, cells := 3, slots := 142, locals := 60 }
def nwC (i j : Nat) : Int32 := if j < i then -nI 1 else 0
def pwS (ca : Nat → ClassId) (h6 q : Nat) (a : Nat → Nat) : va_W := (q, .inr (8, [.ref h6, .ref (a 0), .ref (a 1), .ref (a 2)])) :: (a 0, .inl (ca 0, 124, .inl (nwC 8))) :: [(a 1, .inl (ca 0, 8, .inl (fun _ => 0))), (a 2, .inl (ca 0, 10, .inl (fun _ => 0)))]
theorem dState : ∀ j, j < 4 → ∀ ty, parseFieldDescriptor (mF8 j).2.2.1 = some ty → defaultValue ty = vp_V dfState j := by
  intro j hj ty h
  have key : ∀ j, j < 4 → (parseFieldDescriptor (mF8 j).2.2.1).map defaultValue = some (vp_V dfState j) := by decide +kernel
  have := key j hj
  rw [h] at this
  exact Option.some.inj this
theorem app_at2 {α : Type} (w : List α) (x y : α) (r : List α) : (w ++ x :: y :: r)[w.length + 1]? = some y := by
  rw [List.getElem?_append_right (by omega), Nat.add_sub_cancel_left]
  rfl
theorem app_set2 {α : Type} (w : List α) (x y z : α) (r : List α) : (w ++ x :: y :: r).set (w.length + 1) z = w ++ x :: z :: r := by
  rw [List.set_append_right _ _ (by omega), Nat.add_sub_cancel_left]
  rfl
theorem nwC_s {i : Nat} : upd (nwC i) i (-nI 1) = nwC (i + 1) := by
  funext j
  unfold upd nwC
  by_cases h : j = i
  · rw [if_pos h, if_pos (by omega)]
  · rw [if_neg h]
    by_cases h2 : j < i
    · rw [if_pos h2, if_pos (by omega)]
    · rw [if_neg h2, if_neg (by omega)]
section CT5
variable {p : Program} {l : Launch} {e : Env} {R : Room} {s : State} {m : MethodId} {args : Array Value} {below : List Frame} {meth : Method} {c : Code} {Q : State → Prop}
variable {ca : Nat → ClassId} {D : va_G} {A : Nat → Prop} {H0 : Heap} {cells slots h0 h6 : Nat} {w : va_W}
set_option maxHeartbeats 4000000 in
theorem st_loop (hx : p.tables.exec = Jvm.exec) (hb : c.code = prog_10_method_1_code) (hown : s.vm.findClass (mCN 8) = some m.cls) (hts : ∀ w ∈ TC, w.before args s = true) (hK : va_K D mCls (tysO ca) s) {fs : List Value} {a0 : Nat} (hf1 : fs[1]? = some (.ref a0)) {r : va_W}
    (kk : ∀ (H1 : Heap) (locs1 : List Loc) (ls1 : Array Slot), va_P D mCls (w ++ (h0, .inr (8, fs)) :: (a0, .inl (ca 0, 124, .inl (nwC 8))) :: r) H1 → va_D A (w ++ (h0, .inr (8, fs)) :: (a0, .inl (ca 0, 124, .inl (nwC 8))) :: r) → va_S A H0 H1 locs1 → W p l e R s m args below meth c H1 locs1 cells slots Q (F0 m 56 ls1 [])) :
    ∀ (n i : Nat) (H : Heap) (locs : List Loc) (ls : Array Slot), i + n = 8 → lv_has ls 3 [(2, .int (nI i)), (0, .ref h0), (1, .ref h6)] → va_P D mCls (w ++ (h0, .inr (8, fs)) :: (a0, .inl (ca 0, 124, .inl (nwC i))) :: r) H → va_D A (w ++ (h0, .inr (8, fs)) :: (a0, .inl (ca 0, 124, .inl (nwC i))) :: r) → va_S A H0 H locs → W p l e R s m args below meth c H locs cells slots Q (F0 m 35 ls []) := by
  obtain ⟨o1, o2, o3, o4, o5, o6, o7, o8, o9⟩ := mok
  have hc : mCls[8]? = some ("ChestOfLetters$State", mF8, 4) := rfl
  obtain ⟨u1, ⟨ty0, u2⟩, u3, u4⟩ := o3 _ _ hc
  have hin1 : ∀ w ∈ u_ws "ChestOfLetters$State" mF8 4, w ∈ TC := fun w h => List.mem_append_left _ (u1 w h)
  obtain ⟨-, r9, hr9, hlk⟩ := o4 8 11 8 1 (by decide +kernel)
  have er : r9 = ("ChestOfLetters$State", mF8, 4) := Option.some.inj (hr9.symm.trans hc)
  subst er
  have hlink := hts _ (List.mem_append_left _ hlk)
  intro n
  induction n with
  | zero =>
    intro i H locs ls hi hl hP hD hS
    obtain rfl : i = 8 := by omega
    refine lv_iload_n hx hb (k := 2) (by decide +kernel) rfl (lv_at hl 0 rfl) ?_
    refine lv_bipush (n := 8) (v := nI 8) hx hb (by decide +kernel) rfl ?_
    exact lv_icmp_ge (off := 18) (tgt := 56) hx hb (by decide +kernel) rfl (fun _ => kk H locs ls hP hD hS) (fun z => absurd (nI_le (Nat.le_refl 8) (by decide)) z)
  | succ n ih =>
    intro i H locs ls hi hl hP hD hS
    refine lv_iload_n hx hb (k := 2) (by decide +kernel) rfl (lv_at hl 0 rfl) ?_
    refine lv_bipush (n := 8) (v := nI 8) hx hb (by decide +kernel) rfl ?_
    refine lv_icmp_ge (off := 18) (tgt := 56) hx hb (by decide +kernel) rfl (fun z => absurd z (nI_ge (by omega) (by decide))) (fun _ => ?_)
    refine lv_aload_n hx hb (k := 0) (by decide +kernel) rfl (lv_at hl 1 rfl) ?_
    refine va_get (own := mCN 8) (C := "ChestOfLetters$State") (T := mF8) (N := 4) (ci := 8) (index := 11) hx hb hts hin1 hown hK hP w.length (app_at _ _ _) hc 1 (by decide) hlink (fun _ h => h) hf1 (by decide +kernel) ?_
    refine lv_iconst (n := 0) (v := nI 0) hx hb (by decide +kernel) rfl ?_
    refine lv_iload_n hx hb (k := 2) (by decide +kernel) rfl (lv_at hl 0 rfl) ?_
    refine lv_iadd hx hb (by decide +kernel) ?_
    refine lv_iconst (n := -1) (v := -nI 1) hx hb (by decide +kernel) (by decide +kernel) ?_
    have e0 : nI 0 + nI i = nI i := by rw [nI_add, Nat.zero_add]
    rw [e0]
    refine va_iast hx hb hK hP hD hS (w.length + 1) 0 (app_at2 _ _ _ _) rfl (vp_in_nI (show i < 124 by omega) (by decide)) (by decide +kernel) (fun H1 locs1 hP1 hD1 hS1 => ?_)
    rw [app_set2, nI_clamp (by omega), nwC_s] at hP1 hD1
    refine lv_iinc (n := 1) (v := nI (i + 1)) hx hb (by decide +kernel) hl (k := 0) rfl (nI_add i 1) (by decide) rfl (fun ls' hl' => ?_)
    exact lv_goto (off := -18) (tgt := 35) hx hb (by decide +kernel) rfl (ih (i + 1) H1 locs1 ls' (by omega) hl' hP1 hD1 hS1)
end CT5
section CT6
variable {l : Launch} {ca : Nat → ClassId} {D : va_G} {h6 : Nat}
set_option maxHeartbeats 4000000 in
theorem kState : cG l ca D ⟨mCN 8, "<init>", "(LChestOfLetters$Town;)V"⟩ prog_10_method_1_code 3 8 dfState [.ref h6] rmS (pwS ca h6) := by
  intro w h0 sz
  refine Met.ofW (cc := prog_10_method_1_code) (maxL := 3) (ret := none) (by decide +kernel) rfl ?_
  intro p e s m args below meth c s₁ B hml hv
  obtain ⟨rfl, hsz, hP, hK, hD0⟩ := hv
  have hx := B.exec
  have hb := B.bytes
  have hr := B.returns
  have hts0 := atoms_spec (ws := Cond.code ⟨mCN 8, "<init>", "(LChestOfLetters$Town;)V"⟩ prog_10_method_1_code 3 none :: TC) B.pre
  have hts : ∀ w ∈ TC, w.before [Value.ref h0, Value.ref h6].toArray s = true := fun w hw => hts0 w (List.mem_cons_of_mem _ hw)
  have hown : s.vm.findClass (mCN 8) = some m.cls := findClass_of_methodNamed B.named
  have hlocks := B.notSynchronized
  have hin : meth.name = "<init>" := (name_of_methodNamed B.named B.method).1
  subst hsz
  have hD := hD0.self (sz := s.heap.size)
  have hl := lv_entry ([.ref h0, .ref h6]) (n := 3) (Nat.le_of_ble_eq_true rfl)
  rw [lg_entry_eq]
  generalize (lg_sl ([.ref h0, .ref h6]) ++ List.replicate (3 - (lg_sl ([.ref h0, .ref h6])).length) Slot.unset).toArray = ls at hl ⊢
  have hl : lv_has ls 3 [(0, .ref h0), (1, .ref h6)] := hl
  have hc : mCls[8]? = some ("ChestOfLetters$State", mF8, 4) := rfl
  obtain ⟨o1, o2, o3, o4, o5, o6, o7, o8, o9⟩ := mok
  obtain ⟨u1, ⟨ty0, u2⟩, u3, u4⟩ := o3 _ _ hc
  have hin1 : ∀ w ∈ u_ws "ChestOfLetters$State" mF8 4, w ∈ TC := fun w h => List.mem_append_left _ (u1 w h)
  obtain ⟨-, r9, hr9, hlk⟩ := o4 8 21 8 0 (by decide +kernel)
  have er : r9 = ("ChestOfLetters$State", mF8, 4) := Option.some.inj (hr9.symm.trans hc)
  subst er
  have hlink := hts _ (List.mem_append_left _ hlk)
  refine lv_aload_n hx hb (k := 0) (by decide +kernel) rfl (lv_at hl 0 rfl) ?_
  refine W.objInit (idx := 5) (own := mCN 8) hx hb hown (hts _ (by decide +kernel)) (hts _ (TC_xC (by simp [xC]))) (hts _ (TC_xC (by simp [xC]))) rfl (by rw [hml]; exact hl.1) rfl (show decode prog_10_method_1_code 1 = .ok (.invokespecial 5, 3) by decide +kernel) (show 1 ≤ 2 by decide) (show 2 * 0 + 0 + 12 ≤ 60 by decide) ?_
  refine W.eq (g2 := F0 m 4 _ []) rfl ?_
  refine cn_run (o := 8) (w := w) (h0 := h0) (R := rmS) (A := va_A (w ++ [(h0, .inr (8, dfState))]) s.heap.size) (H0 := s.heap) hx hb (by rw [hl.1]; decide) (lv_at hl 0 rfl) hown hin hts hK (fun q h => Or.inr h) hc opState 4 s.heap [] 0 0 dfState [] (by decide +kernel) rfl (by decide) (by decide) hP hD va_S.rf (fun a H1 locs1 hP1 hD1 hS1 => ?_)
  rw [List.nil_append] at hP1 hD1
  refine W.eq (g2 := F0 m 28 ls []) rfl ?_
  refine lv_aload_n hx hb (k := 0) (by decide +kernel) rfl (lv_at hl 0 rfl) ?_
  refine lv_aload_n hx hb (k := 1) (by decide +kernel) rfl (lv_at hl 1 rfl) ?_
  refine va_putF (own := mCN 8) (C := "ChestOfLetters$State") (T := mF8) (N := 4) (index := 21) (ty := .object "ChestOfLetters$Town") (v := .ref h6) hx hb hts hin1 ty0 u2 u3 hown hK hP1 hD1 hS1 w.length (app_at _ _ _) hc 0 (by decide) hlink (fun _ h => h) rfl hin rfl (by decide +kernel) rfl rfl (show 0 < 4 by decide) (by decide +kernel) (fun H2 locs2 hP2 hD2 hS2 => ?_)
  rw [app_set] at hP2 hD2
  refine lv_iconst (n := 0) (v := nI 0) hx hb (by decide +kernel) rfl ?_
  refine lv_istore_n hx hb (k := 2) (i := 2) (by decide +kernel) rfl hl (by decide) rfl (fun ls' hl' => ?_)
  have ez : (fun _ => 0 : Nat → Int32) = nwC 0 := by
    funext j
    unfold nwC
    rw [if_neg (by omega)]
  have hP3 : va_P D mCls (w ++ (h0, .inr (8, [.ref h6, .ref (a 0), .ref (a 1), .ref (a 2)])) :: (a 0, .inl (ca 0, 124, .inl (nwC 0))) :: [(a 1, .inl (ca 0, 8, .inl (fun _ => 0))), (a 2, .inl (ca 0, 10, .inl (fun _ => 0)))]) H2 := by rw [← ez]; exact hP2
  have hD3 : va_D (va_A (w ++ [(h0, .inr (8, dfState))]) s.heap.size) (w ++ (h0, .inr (8, [.ref h6, .ref (a 0), .ref (a 1), .ref (a 2)])) :: (a 0, .inl (ca 0, 124, .inl (nwC 0))) :: [(a 1, .inl (ca 0, 8, .inl (fun _ => 0))), (a 2, .inl (ca 0, 10, .inl (fun _ => 0)))]) := by rw [← ez]; exact hD2
  refine st_loop (h6 := h6) hx hb hown hts hK (fs := [.ref h6, .ref (a 0), .ref (a 1), .ref (a 2)]) (a0 := a 0) rfl (fun H4 locs4 ls4 hP4 hD4 hS4 => ?_) 8 0 H2 locs2 ls' rfl hl' hP3 hD3 hS2
  exact W.vret hx hb hr (fun t ht hW => ⟨⟨a, rfl, trivial, by rw [ht]; exact hP4, va_K.moved hW.alike hK, hD4⟩, hS4.F ht⟩) hS4.2.2 (by decide +kernel)
end CT6
