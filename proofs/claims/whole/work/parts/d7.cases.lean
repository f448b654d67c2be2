/-! THE LAW'S TWO CASES THAT MAY THROW: a wall's question and a row's -/
section LHC
variable {p : Program} {l : Launch} {e : Env} {R : Room} {s : State} {mid : MethodId} {args : Array Value} {below : List Frame} {meth : Method} {c : Code} {Q : State → Prop} {cells slots mc ms : Nat}
variable {ad : Nat → Nat} {ca : Nat → ClassId} {D : va_G} {A : Nat → Prop} {H0 : Heap} {b L i j pc k m B maxL n : Nat} {xs : Nat → Int32} {ls st as : List mV} {s1 s2 sR : mS} {v r : Int32} {y : MethodName} {cc : ByteArray} {hh : List (Nat × Nat × Nat × Nat)}
theorem m_callN {H : Heap} {locs : List Loc} {pc : Nat} {ls : Array Slot} {rest st0 : List Value} {ov : Option Value} {B : State → Prop} {A1 : Nat → Prop} {a : Array Value}
    (hr : va_Run p l e R s mid args below meth c H locs cells slots mc ms (F0 mid pc ls st0) rest ((fun _ st oc t => (oc = .returned ov ∧ B t) ∧ va_F A1 st t : Array Value → State → Outcome → State → Prop) a) A1) (hS : va_S A H0 H locs) (hA : ∀ q, A1 q → A q)
    (kk : ∀ (t : State) (H1 : Heap) (locs1 : List Loc), t.heap = H1 → s.vm.Alike t.vm → B t → va_S A H0 H1 locs1 → W p l e R s mid args below meth c H1 locs1 (cells + mc) (slots + ms) Q (F0 mid (pc + 3) ls (ov.toList ++ rest))) : W p l e R s mid args below meth c H locs cells slots Q (F0 mid pc ls st0) := by
  intro U hU X
  obtain ⟨v, st₀, t, T', L, h0, X', hL, e1, e2, ⟨⟨hv, hb⟩, hz, hk⟩, st⟩ := hr U hU X
  cases hv
  rw [h0] at hz hk
  obtain ⟨t2, a1, b1⟩ := kk t T'.heap (locs ++ L) e1.symm (by rw [← e2]; exact X'.warmed.alike) hb
    ⟨Nat.le_trans hS.1 (by rw [e1]; exact hz), fun q h1 h2 => by rw [e1, hk q (Nat.lt_of_lt_of_le h1 hS.1) (fun z => h2 (hA q z))]; exact hS.2.1 q h1 h2, fun q hq => by
      rcases List.mem_append.mp hq with h | h
      · exact hS.2.2 q h
      · exact hA _ (hL q h)⟩ T' rfl X'
  exact ⟨t2, st t2 a1, b1⟩
theorem l_forget (k : Nat) (hg : lW p l e s mid args below meth c cells slots Q ad ca D pc (ls.set k (.inr 0)) st s1) : lW p l e s mid args below meth c cells slots Q ad ca D pc ls st s1 :=
  fun H locs lr hP hD hS hlr => hg H locs lr hP hD hS (lR_no hlr)
set_option maxHeartbeats 4000000 in
/-- a helper is called -/
theorem l_stat (F : LF p l s mid args meth c ca D b L xs) (hZ : mZ (fun q : Nat => s.heap.size ≤ q) s) (hcs : cells + 1 ≤ room_1.cells ∧ slots + 6 ≤ room_1.slots) (hdec : decode code pc = .ok (.invokestatic k, 3)) (hlk : Cond.methodLink (mCN 16) k y ∈ lw_tbl) (hstt : Cond.static y ∈ lw_tbl) (hini : Cond.initialized y.cls ∈ lw_tbl) (hcw : Cond.codeWith y cc maxL (some .int) hh ∈ lw_tbl) (hgw : goodWord (Cond.codeWith y cc maxL (some .int) hh) = true)
    (hy : y.cls ≠ "java/lang/invoke/MethodHandle" ∧ y.cls ≠ "java/lang/invoke/VarHandle") (hpar : (parseMethodDescriptor y.desc).map (fun d => d.parameters.length) = some as.length) (hmx : maxL ≤ 5) (hsm : sml st = true)
    (hMet : ∀ sz, Met l y (Cond.codeWith y cc maxL (some .int) hh :: TG2) rmH (va_Pc (as.map (rl ad)) (mPz ad ca D sz s1)) (mQ mTab 97 mCls ad ca D (va_A (wsO mTab ad ca 97 s1) sz) 1 r sR) 1 6 (va_A (wsO mTab ad ca 97 s1) sz))
    (hg : lW p l e s mid args below meth c (cells + 1) (slots + 6) Q ad ca D (pc + 3) ls (.inl r :: st) sR) : lW p l e s mid args below meth c cells slots Q ad ca D pc ls (as.reverse ++ st) s1 := by
  obtain ⟨hx, hb, hml, hown, hts, hK, hNX, hX, hbl, hlks⟩ := F
  intro H locs lr hP hD hS hl
  have hF : ∀ q, va_A (wsO mTab ad ca 97 s1) H.size q → s.heap.size ≤ q := wsO_free (A := fun q : Nat => s.heap.size ≤ q) (H0 := s.heap) hD hS (fun _ h => h)
  have hG : GoodIn lw_tbl (Cond.codeWith y cc maxL (some .int) hh :: TG2) := by
    intro w hw
    rcases List.mem_cons.mp hw with rfl | hw
    · exact ⟨hcw, good_of_word hgw⟩
    · exact ⟨TG2_tbl w hw, good_of_word (TG2_good w hw)⟩
  have hPre : PreS s H (va_Pc (as.map (rl ad)) (mPz ad ca D H.size s1)) (as.map (rl ad)) :=
    ⟨mPz_blind, fun U hU hW => ⟨rfl, ⟨by rw [hU], by rw [hU]; exact hP, va_K.moved hW.alike hK, hD.weaken (fun _ _ _ _ => trivial), fun q hq => va_Nw.warmM hW (hNX q hq)⟩, mZ_move (H := H) hZ (fun q h1 h2 => hS.2.1 q h1 h2) hU hW hF⟩⟩
  have hlo2 : 8 + (maxL + 11) + rmH.locals ≤ room_1.locals := by
    have : rmH.locals + 30 ≤ room_1.locals := by decide +kernel
    omega
  have hroom := lv_room (m := mid) (pc := pc) (ls := lr) (rest := (as.reverse ++ st).map (rl ad)) (sml_cat (ad := ad) hsm)
  have hrn := vx_runSW (p := p) (l := l) (e := e) (R := room_1) (below := below) (meth := meth) (locs := locs) (cells := cells) (slots := slots) (index := k) (Ts := lw_tbl) (own := mCN 16) (g := F0 mid pc lr ((as.reverse ++ st).map (rl ad))) (As := as.map (rl ad)) (rest := st.map (rl ad)) ⟨hx, hb, hml, hown, hts⟩ (hMet H.size)
    (⟨⟨rfl, rfl, by decide +kernel, hlo2, pay_in hts hG, List.mem_cons_self⟩, hts _ hcw, hts _ hini, hy, fun sig h => (by rw [h] at hpar; exact (Option.some.inj hpar).symm), hts _ hlk, hts _ hstt⟩ : vx_CSW room_1 s args (mCN 16) k y cc maxL (some .int) hh (Cond.codeWith y cc maxL (some .int) hh :: TG2) rmH 1 6 as.length) hPre rfl (List.length_map _) hl.2.1 (by rw [List.map_append, List.map_reverse]) hroom hdec hcs
  refine m_callN (a := (as.map (rl ad)).toArray) hrn hS hF (fun t H1 locs1 ht hvm hB hS1 => ?_)
  obtain ⟨hP1, -, hD1⟩ := hB
  rw [ht] at hP1
  exact hg H1 locs1 lr hP1 (hD1.weaken (fun _ q _ hq => hF q.1 hq)) hS1 hl
theorem bI18 (h : s2 67 18 = nI 0) : s2 67 18 = (0 : Int32) := h
theorem cmp_self (x : Int64) : lg_cmp x x = 0 := by
  have h : ¬ x < x := by
    intro h
    have := Int64.lt_iff_toInt_lt.mp h
    omega
  simp [lg_cmp, h]
set_option maxHeartbeats 4000000 in
/-- behind the model's answer: both threw, or both answered alike -/
theorem l_htail (F : LF p l s mid args meth c ca D b L xs) (hcs : cells ≤ room_1.cells ∧ slots ≤ room_1.slots) (h18 : s2 67 18 = r) (h97 : r = 0 → s2 97 0 = v)
    (d1 : decode code pc = .ok (.istore 6, 2)) (d2 : decode code (pc + 2) = .ok (.aload_n 2, 1)) (d3 : decode code (pc + 3) = .ok (.invokevirtual 55, 3)) (d4 : decode code (pc + 6) = .ok (.iload 5, 2)) (d5 : decode code (pc + 8) = .ok (.if_icmp .eq 5, 3)) (d6 : decode code (pc + 13) = .ok (.iload 5, 2)) (d7 : decode code (pc + 15) = .ok (.ifCond .ne 15, 3)) (d8 : decode code (pc + 18) = .ok (.aload_n 3, 1)) (d9 : decode code (pc + 19) = .ok (.iconst 0, 1)) (e1 : decode code (pc + 20) = .ok (.laload, 1)) (e2 : decode code (pc + 21) = .ok (.iload 6, 2)) (e3 : decode code (pc + 23) = .ok (.i2l, 1)) (e4 : decode code (pc + 24) = .ok (.lcmp, 1)) (e5 : decode code (pc + 25) = .ok (.ifCond .eq 5, 3)) {off : Int} (e6 : decode code (pc + 30) = .ok (.goto off, 3)) (hoff : ((pc + 30 : Nat) : Int) + off = ((1494 : Nat) : Int))
    (hg : lW p l e s mid args below meth c cells slots Q ad ca D 1494 (lL0 i) [] s2) : lW p l e s mid args below meth c cells slots Q ad ca D pc ((lL0 i).set 5 (.inl r)) [.inl v] s2 := by
  have F0' := F
  refine l_istore F d1 (by decide) (by rw [List.length_set]; rfl) ?_
  refine l_aload (k := 2) (q := 66) F d2 rfl ?_
  have key : lW p l e s mid args below meth c cells slots Q ad ca D (pc + 2 + 1 + 3) (((lL0 i).set 5 (.inl r)).set 6 (.inl v)) [.inl (s2 67 18)] s2 := by
    rw [h18]
    refine l_iload (k := 5) (v := r) F d4 rfl ?_
    refine l_same (tgt := pc + 13) F d5 (by omega) ?_
    refine l_iload (k := 5) (v := r) F d6 rfl ?_
    have hend : lW p l e s mid args below meth c cells slots Q ad ca D (pc + 30) (((lL0 i).set 5 (.inl r)).set 6 (.inl v)) [] s2 := by
      obtain ⟨hx, hb, -⟩ := F
      have h9 : lW p l e s mid args below meth c cells slots Q ad ca D 1494 (((lL0 i).set 5 (.inl r)).set 6 (.inl v)) [] s2 := by
        refine l_forget 5 (l_forget 6 ?_)
        exact hg
      intro H locs lr hP hD hS hlr
      exact lv_goto hx hb e6 hoff (h9 H locs lr hP hD hS hlr)
    obtain ⟨hx, hb, hml, hown, hts, hK, hNX, hX, hbl, hlks⟩ := F
    intro H locs lr hP hD hS hlr
    refine lv_if_ne (tgt := pc + 30) hx hb d7 (by omega) (fun _ => hend H locs lr hP hD hS hlr) (fun hr0 => ?_)
    refine lv_aload_n hx hb (k := 3) d8 rfl (lR_get hlr (i := 3) (v := .inr 97) rfl (by simp)) ?_
    refine lv_iconst (v := 0) hx hb d9 rfl ?_
    refine va_lald hx hb hK hP 96 4 out_at rfl (i := 0) (inb_in (by decide +kernel)) e1 ?_
    refine lv_iload hx hb e2 (lR_get hlr (i := 6) (v := .inl v) rfl (by simp)) ?_
    refine lv_i2l hx hb e3 rfl ?_
    refine W.lcmp hx hb e4 ?_
    have e0 : (0 : Int32).toNatClampNeg = 0 := by decide +kernel
    simp only [e0]
    rw [h97 hr0, cmp_self]
    refine lv_if_eq (tgt := pc + 30) hx hb e5 (by omega) (fun _ => hend H locs lr hP hD hS hlr) (fun z => absurd rfl z)
  exact l_call (as := []) (q := 67) (k := 55) (m := 227) (M := mm227) (st := []) F0' hcs d3 rfl (lk16 (M := mm227) rfl rfl) rfl rfl rfl (by decide) rfl rfl (by decide) (E227_0 (d := 400)) key
set_option maxHeartbeats 4000000 in
/-- wall -/
theorem cs_6 (F : LF p l s mid args meth c ca D b L xs) (hZ : mZ (fun q : Nat => s.heap.size ≤ q) s) (hfl : l.stackTraces = false) (hb98 : ad 98 = b) (hL : L ≤ 2560) (hi : i + 5 ≤ L) (hcs : cells + 1 ≤ room_1.cells ∧ slots + 6 ≤ room_1.slots) (h : LI B s1) (hg : ∀ s3, LI (B + 3600) s3 → lW p l e s mid args below meth c (cells + 1) (slots + 6) Q ad ca D 1494 (lL0 i) [] s3) : lW p l e s mid args below meth c cells slots Q ad ca D 370 (lL0 i) [] s1 := by
  obtain ⟨sX, s3, v, hcase, h3⟩ := st_wall2 (p := xs (i + 1)) (q := xs (i + 2)) h
  have ⟨r, sR, ho, eM, h18, h97⟩ : ∃ r sR, hOut 176 mm176 [.inl (xs (i + 1)), .inl (xs (i + 2))] s1 r sR ∧ ev 400 263 0 [.inr 67, .inl (xs (i + 1)), .inl (xs (i + 2))] [] sR = some (0, v, s3) ∧ s3 67 18 = r ∧ (r = 0 → s3 97 0 = v) := by
    rcases hcase with ⟨sR, e1, rfl, e2, e3, e4⟩ | ⟨e1 | e1, e2, e3⟩
    · exact ⟨0, _, Or.inl ⟨sX, v, e1, rfl, rfl⟩, e2, e3, fun _ => e4⟩
    · exact ⟨1, sX, Or.inr ⟨sX, 11, e1, thr_wall11, rfl, rfl⟩, e2, e3, fun z => absurd z (by decide)⟩
    · exact ⟨1, sX, Or.inr ⟨sX, 180, e1, thr_wall180, rfl, rfl⟩, e2, e3, fun z => absurd z (by decide)⟩
  refine l_aload (k := 1) (q := 0) F (by decide +kernel) rfl ?_
  refine l_args F hb98 hL hi rfl rfl [1, 2] _ _ (by decide +kernel) (by decide) ?_
  refine l_aload (k := 3) (q := 96) F (by decide +kernel) rfl ?_
  refine l_stat (k := 49) (y := yWall) (as := [.inr 1, .inl (xs (i + 1)), .inl (xs (i + 2)), .inr 97]) (st := []) (r := r) (sR := sR) F hZ hcs (by decide +kernel) (by decide +kernel) (by decide +kernel) (by decide +kernel) cwWall_tbl (by decide +kernel) (by decide +kernel) (show (parseMethodDescriptor yWall.desc).map (fun d => d.parameters.length) = some 4 by decide +kernel) (by decide) rfl (fun sz => ctr_wall hfl ho) ?_
  refine l_istore (k := 5) F (by decide +kernel) (by decide) rfl ?_
  refine l_aload (k := 2) (q := 66) F (by decide +kernel) rfl ?_
  refine l_args F hb98 hL hi rfl rfl [1, 2] _ _ (by decide +kernel) (by decide) ?_
  refine l_call (as := [.inl (xs (i + 1)), .inl (xs (i + 2))]) (q := 67) (k := 54) (m := 263) (M := mm263) (st := []) F hcs (by decide +kernel) rfl (lk16 (M := mm263) rfl rfl) rfl rfl rfl (by decide) rfl rfl (by decide) eM ?_
  exact l_htail (pc := 405) (off := 1059) F hcs h18 h97 (by decide +kernel) (by decide +kernel) (by decide +kernel) (by decide +kernel) (by decide +kernel) (by decide +kernel) (by decide +kernel) (by decide +kernel) (by decide +kernel) (by decide +kernel) (by decide +kernel) (by decide +kernel) (by decide +kernel) (by decide +kernel) (by decide +kernel) (by decide) (hg s3 h3)
set_option maxHeartbeats 4000000 in
/-- row -/
theorem cs_47 (F : LF p l s mid args meth c ca D b L xs) (hZ : mZ (fun q : Nat => s.heap.size ≤ q) s) (hfl : l.stackTraces = false) (hb98 : ad 98 = b) (hL : L ≤ 2560) (hi : i + 5 ≤ L) (hcs : cells + 1 ≤ room_1.cells ∧ slots + 6 ≤ room_1.slots) (h : LI B s1) (hg : ∀ s3, LI (B + 3600) s3 → lW p l e s mid args below meth c (cells + 1) (slots + 6) Q ad ca D 1494 (lL0 i) [] s3) : lW p l e s mid args below meth c cells slots Q ad ca D 1438 (lL0 i) [] s1 := by
  obtain ⟨s3, v, hcase, h3⟩ := st_row2 (p := xs (i + 1)) h
  have ⟨r, sR, ho, eM, h18, h97⟩ : ∃ r sR, hOut 217 mm217 [.inl (xs (i + 1))] s1 r sR ∧ ev 400 330 0 [.inr 67, .inl (xs (i + 1))] [] sR = some (0, v, s3) ∧ s3 67 18 = r ∧ (r = 0 → s3 97 0 = v) := by
    rcases hcase with ⟨sR, e1, rfl, e2, e3, e4⟩ | ⟨e1, e2, e3⟩
    · exact ⟨0, _, Or.inl ⟨s1, v, e1, rfl, rfl⟩, e2, e3, fun _ => e4⟩
    · exact ⟨1, s1, Or.inr ⟨s1, 15, e1, thr_row15, rfl, rfl⟩, e2, e3, fun z => absurd z (by decide)⟩
  refine l_aload (k := 1) (q := 0) F (by decide +kernel) rfl ?_
  refine l_args F hb98 hL hi rfl rfl [1] _ _ (by decide +kernel) (by decide) ?_
  refine l_aload (k := 3) (q := 96) F (by decide +kernel) rfl ?_
  refine l_stat (k := 220) (y := yRow) (as := [.inr 1, .inl (xs (i + 1)), .inr 97]) (st := []) (r := r) (sR := sR) F hZ hcs (by decide +kernel) (by decide +kernel) (by decide +kernel) (by decide +kernel) cwRow_tbl (by decide +kernel) (by decide +kernel) (show (parseMethodDescriptor yRow.desc).map (fun d => d.parameters.length) = some 3 by decide +kernel) (by decide) rfl (fun sz => ctr_row hfl ho) ?_
  refine l_istore (k := 5) F (by decide +kernel) (by decide) rfl ?_
  refine l_aload (k := 2) (q := 66) F (by decide +kernel) rfl ?_
  refine l_args F hb98 hL hi rfl rfl [1] _ _ (by decide +kernel) (by decide) ?_
  refine l_call (as := [.inl (xs (i + 1))]) (q := 67) (k := 223) (m := 330) (M := mm330) (st := []) F hcs (by decide +kernel) rfl (lk16 (M := mm330) rfl rfl) rfl rfl rfl (by decide) rfl rfl (by decide) eM ?_
  exact l_htail (pc := 1461) (off := 3) F hcs h18 h97 (by decide +kernel) (by decide +kernel) (by decide +kernel) (by decide +kernel) (by decide +kernel) (by decide +kernel) (by decide +kernel) (by decide +kernel) (by decide +kernel) (by decide +kernel) (by decide +kernel) (by decide +kernel) (by decide +kernel) (by decide +kernel) (by decide +kernel) (by decide) (hg s3 h3)
end LHC
