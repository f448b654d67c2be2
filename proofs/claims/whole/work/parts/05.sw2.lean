section MSX
variable {p : Program} {l : Launch} {e : Env} {R : Room} {s : State} {mid : MethodId} {args : Array Value} {below : List Frame} {meth : Method} {c : Code} {Q : State → Prop} {cells slots : Nat}
variable {T : mT} {N : Nat} {cls : List vw_C} {TG : List Cond} {NX : mX} {nm : Nat → MethodName} {rty : Nat → Option FieldType} {CN : Nat → String} {ad : Nat → Nat} {ca : Nat → ClassId} {D : va_G} {A : Nat → Prop} {H0 : Heap}
variable {M : mM} {m d n pc : Nat} {ls st : List mV} {s1 : mS} {r : mR}
theorem sum_cat (r0 : List mV) : ((r0.map (rl ad)).map fun v => v.category).sum = r0.length := by
  induction r0 with
  | nil => rfl
  | cons a r0 ih =>
    rw [List.map_cons, List.map_cons, List.sum_cons, ih, rl_cat, List.length_cons]
    omega
theorem sml_cat {r0 : List mV} (h : sml r0 = true) : ((r0.map (rl ad)).map fun v => v.category).sum ≤ 8 := by
  rw [sum_cat]
  exact of_decide_eq_true h
theorem wsO_free {H : Heap} {locs : List Loc} {s1 : mS} (hD : va_D A (wsO T ad ca N s1)) (hS : va_S A H0 H locs) (hA : ∀ q, H0.size ≤ q → A q) : ∀ q, va_A (wsO T ad ca N s1) H.size q → A q := by
  rintro q (⟨k, x, h⟩ | h)
  · exact hD.2 k (q, x) h
  · exact hA q (Nat.le_trans hS.1 h)
/-- behind a call -/
theorem sW_behind {H : Heap} {locs : List Loc} {lr : Array Slot} {st0 : List Value} {r0 : List mV} {a : Array Value} {nL kd k : Nat} {v : Int32} {s2 : mS} {st2 : List mV}
    (hD : va_D A (wsO T ad ca N s1)) (hS : va_S A H0 H locs) (hA : ∀ q, H0.size ≤ q → A q) (hl : lR ad nL ls lr)
    (hr : va_Run p l e R s mid args below meth c H locs cells slots 0 0 (F0 mid pc lr st0) (r0.map (rl ad)) (mQ T N cls ad ca D (va_A (wsO T ad ca N s1) H.size) k v s2 a) (va_A (wsO T ad ca N s1) H.size))
    (hk : (k = 0 ∧ kd = 0) ∨ ((k = 1 ∨ k = 2) ∧ kd = 1) ∨ (3 ≤ k ∧ ∃ q, kd = q + 2)) (hp : psh kd v r0 = some st2)
    (hW : mW p l e R s mid args below meth c cells slots Q T N cls ad ca D A H0 nL (pc + 3) ls st2 s2) : W p l e R s mid args below meth c H locs cells slots Q (F0 mid pc lr st0) := by
  have hF := wsO_free (N := N) hD hS hA
  refine m_call (a := a) hr hS hF (fun t H1 locs1 ht hvm hB hS1 => ?_)
  obtain ⟨hP1, -, hD1⟩ := hB
  rw [ht] at hP1
  have K := hW H1 locs1 lr hP1 (hD1.weaken (fun _ q _ hq => hF q.1 hq)) hS1 hl
  rcases hk with ⟨rfl, rfl⟩ | ⟨rfl | rfl, rfl⟩ | ⟨h3, q, rfl⟩
  · simp only [psh, Option.some.injEq] at hp; subst hp; exact K
  · simp only [psh, Option.some.injEq] at hp; subst hp; exact K
  · simp only [psh, Option.some.injEq] at hp; subst hp; exact K
  · simp only [psh] at hp
    split at hp
    · next hq =>
      obtain ⟨rfl, hq2⟩ := hq
      have e2 : st2 = Sum.inr q :: r0 := (Option.some.inj hp).symm
      subst e2
      match k, h3 with
      | k + 3, _ =>
        have e1 : rvl ad (k + 3) (nI q) = some (.ref (ad q)) := by
          show some (Value.ref (ad (ix (nI q)))) = _
          rw [ix_small hq2]
        rw [e1]
        exact K
    · cases hp
theorem kon_cl {m' kd pc' : Nat} {as ls' st' : List mV} {s' : mS} (h : kon T d n m (cl m' as kd pc' ls' st' s') = some r) : ∃ d' v s2 st2, d = d' + 1 ∧ run T d' n m' 0 as [] s' = some (0, v, s2) ∧ psh kd v st' = some st2 ∧ run T d n m pc' ls' st2 s2 = some r := by
  simp only [cl, kon] at h
  cases d with
  | zero => cases h
  | succ d =>
    simp only at h
    cases hc : run T d n m' 0 as [] s' with
    | none => rw [hc] at h; cases h
    | some r1 =>
      rw [hc] at h
      match r1, h, hc with
      | (0, v, s2), h, hc =>
        simp only at h
        cases hp : psh kd v st' with
        | none => rw [hp] at h; cases h
        | some st2 => rw [hp] at h; exact ⟨d, v, s2, st2, rfl, hc, hp, h⟩
      | (k1 + 1, v, s2), h, _ => cases h
theorem kon_invk {M' : mM} {m' pc' : Nat} {as ls' st' : List mV} {s' : mS} (h : kon T d n m (invk T M' m' as pc' ls' st' s') = some r) : sml st' = true ∧ ∃ kd d' v s2 st2, ((M'.2.2.2.1 = 0 ∧ kd = 0) ∨ ((M'.2.2.2.1 = 1 ∨ M'.2.2.2.1 = 2) ∧ kd = 1) ∨ (3 ≤ M'.2.2.2.1 ∧ ∃ q, kd = q + 2)) ∧ d = d' + 1 ∧ run T d' n m' 0 (pad M'.2.2.1 as) [] s' = some (0, v, s2) ∧ psh kd v st' = some st2 ∧ run T d n m pc' ls' st2 s2 = some r := by
  unfold invk at h
  rcases kon_ite h with ⟨hs, h⟩ | ⟨-, h⟩
  · refine ⟨hs, ?_⟩
    split at h
    · next hk => exact ⟨_, by obtain ⟨d', v, s2, st2, a, b, c, f⟩ := kon_cl h; exact ⟨d', v, s2, st2, Or.inl ⟨hk, rfl⟩, a, b, c, f⟩⟩
    · next hk => exact ⟨_, by obtain ⟨d', v, s2, st2, a, b, c, f⟩ := kon_cl h; exact ⟨d', v, s2, st2, Or.inr (Or.inl ⟨Or.inl hk, rfl⟩), a, b, c, f⟩⟩
    · next hk => exact ⟨_, by obtain ⟨d', v, s2, st2, a, b, c, f⟩ := kon_cl h; exact ⟨d', v, s2, st2, Or.inr (Or.inl ⟨Or.inr hk, rfl⟩), a, b, c, f⟩⟩
    · next hk =>
      split at h
      · exact ⟨_, by obtain ⟨d', v, s2, st2, a, b, c, f⟩ := kon_cl h; exact ⟨d', v, s2, st2, Or.inr (Or.inr ⟨by omega, _, rfl⟩), a, b, c, f⟩⟩
      · exact kon_none h
    · next j hk =>
      split at h
      · exact ⟨_, by obtain ⟨d', v, s2, st2, a, b, c, f⟩ := kon_cl h; exact ⟨d', v, s2, st2, Or.inr (Or.inr ⟨by omega, _, rfl⟩), a, b, c, f⟩⟩
      · exact kon_none h
  · exact kon_none h
theorem Wd_good {m' : Nat} {M' : mM} (h1 : Cond.code (nm m') M'.1 M'.2.2.1 (rty m') ∈ TG) (h9 : ∀ w ∈ TG, goodWord w = true) : GoodIn TG (Wd nm rty TG m' M') := by
  intro w hw
  rcases List.mem_cons.mp hw with rfl | hw
  · exact ⟨h1, good_of_word (h9 _ h1)⟩
  · exact ⟨hw, good_of_word (h9 _ hw)⟩
set_option maxHeartbeats 4000000 in
/-- a call of an object's method -/
theorem sW_virt (hOK : mOK T N cls TG NX nm rty CN) (hx : p.tables.exec = Jvm.exec) (hb : c.code = M.1) (hml : c.maxLocals = M.2.2.1) (hown : s.vm.findClass (CN M.2.1) = some mid.cls) (hts : ∀ w ∈ TG, w.before args s = true) (hK : va_K D cls (tysO ca) s) (hNX : ∀ q ∈ NX, va_Nw (nxw q) s) (hfr : d + 1 ≤ R.frames) (hlo : 40 * (d + 1) ≤ R.locals) (hcs : cells ≤ R.cells ∧ slots ≤ R.slots) (hA : ∀ q, H0.size ≤ q → A q)
    (hC : ∀ d', d = d' + 1 → Ctr l T N cls TG NX nm rty d') (ih : ∀ (pc : Nat) (ls st : List mV) (s1 : mS), run T d n m pc ls st s1 = some r → mW p l e R s mid args below meth c cells slots Q T N cls ad ca D A H0 M.2.2.1 pc ls st s1)
    {k : Nat} (hdec : decode M.1 pc = .ok (.invokevirtual k, 3)) (h : kon T d n m (actI T M (.invokevirtual k) 3 pc ls st s1) = some r) : mW p l e R s mid args below meth c cells slots Q T N cls ad ca D A H0 M.2.2.1 pc ls st s1 := by
  intro H locs lr hP hD hS hl
  obtain ⟨o1, o2, o3, o4, o5, o6, o7, o8, o9⟩ := hOK
  simp only [actI] at h
  split at h
  · next m' hcr =>
    split at h
    · next M' hM' =>
      split at h
      · next q r0 hdrop =>
        rcases kon_ite h with ⟨⟨hst, hna, hsh, h20⟩, h⟩ | ⟨-, h⟩
        · obtain ⟨hsm, kd, d', v, s2, st2, hkd, rfl, hrun, hpsh, hgo⟩ := kon_invk h
          obtain ⟨a1, a2, a3, a4, a5, a6, a7, a8, a9⟩ := o5 _ _ hM'
          obtain ⟨b1, -, b3⟩ := o6 _ _ _ _ hcr hM'
          obtain ⟨b3, b4⟩ := b3 hst
          have hlt : M'.2.2.2.2.1 - 1 < st.length := by
            rcases Nat.lt_or_ge (M'.2.2.2.2.1 - 1) st.length with z | z
            · exact z
            · rw [List.drop_eq_nil_of_le z] at hdrop; cases hdrop
          have hev : evT T d' m' 0 (pad M'.2.2.1 (.inr q :: (st.take (M'.2.2.2.2.1 - 1)).reverse)) [] s1 = some (0, v, s2) := evT_iff.mpr ⟨_, hrun⟩
          have hMet := hC d' rfl m' M' _ s1 v s2 H.size ad ca D hM' (by rw [List.length_cons, List.length_reverse, List.length_take]; omega) hev
          have hq20 : (T.sh q).1 < 20 := by rw [hsh]; exact h20
          have hn : ((st.take (M'.2.2.2.2.1 - 1)).reverse.map (rl ad)).length = M'.2.2.2.2.1 - 1 := by rw [List.length_map, List.length_reverse, List.length_take]; omega
          have hstk : (st.map (rl ad)) = ((st.take (M'.2.2.2.2.1 - 1)).reverse.map (rl ad)).reverse ++ .ref (ad q) :: r0.map (rl ad) := by
            rw [← List.map_reverse, List.reverse_reverse]
            have e1 : st = st.take (M'.2.2.2.2.1 - 1) ++ (.inr q :: r0) := by rw [← hdrop, List.take_append_drop]
            have e2 := congrArg (List.map (rl ad)) e1
            rw [List.map_append] at e2
            exact e2
          have hpar : ∀ sig, parseMethodDescriptor (nm m').desc = some sig → M'.2.2.2.2.1 - 1 = sig.parameters.length := by
            intro sig hs
            rw [hst] at a6
            rw [hs] at a6
            simp only [Option.map_some, Option.some.injEq] at a6
            simpa using a6.symm
          have hpay : ∀ w ∈ Wd nm rty TG m' M', ∀ (a' : Array Value) (U : State), s.WarmedH U.vm → w.before a' U = true := pay_in hts (Wd_good a3 o9)
          have hrecv : ∃ cellB : Cell, H[ad q]? = some cellB ∧ cellB.vm.isStatics = false ∧ s.vm.findClass (nm m').cls = some cellB.cls := by
            obtain ⟨r2, hr2, -, -⟩ := o2 q hq20
            have hat := wsO_at (T := T) (ad := ad) (ca := ca) (N := N) (s := s1) (o1 q (by omega))
            rw [entO_obj hq20] at hat
            obtain ⟨-, -, -, hcn⟩ := o3 _ _ hr2
            have h9 := va_recv hK hP hr2 hat
            rw [← hcn, hsh, a2] at h9
            exact h9
          have hPre : PreV s H (nm m').cls (ad q) (va_Pc ((.inr q :: (st.take (M'.2.2.2.2.1 - 1)).reverse).map (rl ad)) (mP T N cls NX ad ca D H.size s1)) ((st.take (M'.2.2.2.2.1 - 1)).reverse.map (rl ad)) :=
            ⟨mP_blind, hrecv, fun U hU hW => ⟨rfl, by rw [hU], by rw [hU]; exact hP, va_K.moved hW.alike hK, hD.weaken (fun _ _ _ _ => trivial), fun q hq => va_Nw.warmM hW (hNX q hq)⟩⟩
          have hfr2 : (rmD d').frames + 1 ≤ R.frames := hfr
          have hlo2 : 8 + (M'.2.2.1 + 11) + (rmD d').locals ≤ R.locals := by show 8 + (M'.2.2.1 + 11) + 40 * (d' + 1) ≤ R.locals; omega
          have hsz : lr.size = M.2.2.1 := hl.2.1
          have hroom := lv_room (m := mid) (pc := pc) (ls := lr) (rest := st.map (rl ad)) (sml_cat (ad := ad) hsm)
          rcases b1 with b1 | ⟨host, b1⟩
          · have hrn := va_runV (p := p) (l := l) (e := e) (R := R) (below := below) (meth := meth) (locs := locs) (cells := cells) (slots := slots) (index := k) (Ts := TG) (own := CN M.2.1) (g := F0 mid pc lr (st.map (rl ad))) (rest := r0.map (rl ad)) ⟨hx, hb, hml, hown, hts⟩ hMet
              (⟨⟨rfl, rfl, hfr2, hlo2, hpay, List.mem_cons_self, hts _ a3, hts _ a4, a5, hpar, hts _ b1⟩, hts _ b3, hts _ b4⟩ : CallW R s args (CN M.2.1) (nm m').cls k (nm m') M'.1 M'.2.2.1 (rty m') (Wd nm rty TG m' M') (rmD d') 0 0 (M'.2.2.2.2.1 - 1)) hPre rfl hn hsz hstk hroom hdec ⟨hcs.1, hcs.2⟩
            exact sW_behind hD hS hA hl hrn hkd hpsh (ih _ _ _ _ hgo)
          · have hrn := va_runVN (p := p) (l := l) (e := e) (R := R) (below := below) (meth := meth) (locs := locs) (cells := cells) (slots := slots) (index := k) (Ts := TG) (own := CN M.2.1) (g := F0 mid pc lr (st.map (rl ad))) (rest := r0.map (rl ad)) ⟨hx, hb, hml, hown, hts⟩ hMet
              (⟨⟨⟨rfl, rfl, hfr2, hlo2, hpay, List.mem_cons_self⟩, hts _ a3, hts _ a4, a5, hpar, va_Nw.use rfl (hNX _ b1)⟩, hts _ b3, hts _ b4⟩ : va_CN R s args (CN M.2.1) k (nm m') host M'.1 M'.2.2.1 (rty m') (Wd nm rty TG m' M') (rmD d') 0 0 (M'.2.2.2.2.1 - 1) ∧ (Cond.instanceMethod (nm m')).before args s = true ∧ (Cond.selects (nm m').cls (nm m') (nm m')).before args s = true) hPre rfl hn hsz hstk hroom hdec ⟨hcs.1, hcs.2⟩
            exact sW_behind hD hS hA hl hrn hkd hpsh (ih _ _ _ _ hgo)
        · exact kon_none h
      · exact kon_none h
    · exact kon_none h
  · exact kon_none h
set_option maxHeartbeats 4000000 in
/-- a static call; System.arraycopy -/
theorem sW_stat (hOK : mOK T N cls TG NX nm rty CN) (hx : p.tables.exec = Jvm.exec) (hb : c.code = M.1) (hml : c.maxLocals = M.2.2.1) (hown : s.vm.findClass (CN M.2.1) = some mid.cls) (hts : ∀ w ∈ TG, w.before args s = true) (hK : va_K D cls (tysO ca) s) (hNX : ∀ q ∈ NX, va_Nw (nxw q) s) (hfr : d + 1 ≤ R.frames) (hlo : 40 * (d + 1) ≤ R.locals) (hcs : cells ≤ R.cells ∧ slots ≤ R.slots) (hA : ∀ q, H0.size ≤ q → A q)
    (hC : ∀ d', d = d' + 1 → Ctr l T N cls TG NX nm rty d') (ih : ∀ (pc : Nat) (ls st : List mV) (s1 : mS), run T d n m pc ls st s1 = some r → mW p l e R s mid args below meth c cells slots Q T N cls ad ca D A H0 M.2.2.1 pc ls st s1)
    {k : Nat} (hdec : decode M.1 pc = .ok (.invokestatic k, 3)) (h : kon T d n m (actI T M (.invokestatic k) 3 pc ls st s1) = some r) : mW p l e R s mid args below meth c cells slots Q T N cls ad ca D A H0 M.2.2.1 pc ls st s1 := by
  intro H locs lr hP hD hS hl
  obtain ⟨o1, o2, o3, o4, o5, o6, o7, o8, o9⟩ := hOK
  have hsz : lr.size = M.2.2.1 := hl.2.1
  simp only [actI] at h
  split at h
  · next hac =>
    obtain ⟨c1, c2, c3, c4⟩ := (o8 _ _).1 hac
    split at h
    · next nn dp b sp a r0 =>
      rcases kon_ite h with ⟨⟨e1, e2, e3, e4, e5, e6, e7, e8, e9⟩, h⟩ | ⟨-, h⟩
      · have hat := wsO_at (T := T) (ad := ad) (ca := ca) (N := N) (s := s1) (o1 a (by omega))
        have hbt := wsO_at (T := T) (ad := ad) (ca := ca) (N := N) (s := s1) (o1 b (by omega))
        rw [entO_arr (k := 0) e1 (by omega)] at hat
        rw [entO_arr (k := 0) e2 (by omega)] at hbt
        refine va_copyi hx hb (by rw [hml, hsz]) hown (hts _ c1) (hts _ c2) (hts _ c3) (hts _ c4) hK hP hD hS (a - 1) (b - 1) 0 0 hat hbt rfl rfl rfl e4 e5 e6 e7 e8 (fun _ _ => rfl) (by omega) ?_ hdec (fun H1 locs1 hP1 hD1 hS1 => ?_)
        · have hnw : nativeFrameWords "java/lang/System" "arraycopy" 5 = 7 := by decide +kernel
          have := sml_cat (ad := ad) e9
          rw [hnw]
          omega
        · have hws := wsO_set (T := T) (ad := ad) (ca := ca) (N := N) (s := s1) (k := b) (f := va_cpy (s1 a) (s1 b) sp.toNatClampNeg dp.toNatClampNeg nn.toNatClampNeg) (x := .inl (ca 0, (T.sh b).2, .inl (va_cpy (s1 a) (s1 b) sp.toNatClampNeg dp.toNatClampNeg nn.toNatClampNeg))) (o1 b (by omega)) (by rw [entO_arr (k := 0) e2 (by omega), setA_at])
          rw [hws] at hP1 hD1
          exact ih _ _ _ _ h H1 locs1 lr hP1 hD1 hS1 hl
      · exact kon_none h
    · exact kon_none h
  · next hac =>
    obtain ⟨c1, c2, c3, c4⟩ := (o8 _ _).2.1 hac
    split at h
    · next y x r0 =>
      rcases kon_ite h with ⟨e9, h⟩ | ⟨-, h⟩
      · exact va_mmax hx hb (by rw [hml, hsz]) hown (hts _ c1) (hts _ c2) (hts _ c3) (hts _ c4) (by omega) (by have := sml_cat (ad := ad) e9; omega) hcs.1 hcs.2 hdec (ih _ _ _ _ h H locs lr hP hD hS hl)
      · exact kon_none h
    · exact kon_none h
  · next hac =>
    obtain ⟨c1, c2, c3, c4⟩ := (o8 _ _).2.2.1 hac
    split at h
    · next y x r0 =>
      rcases kon_ite h with ⟨e9, h⟩ | ⟨-, h⟩
      · exact va_mmin hx hb (by rw [hml, hsz]) hown (hts _ c1) (hts _ c2) (hts _ c3) (hts _ c4) (by omega) (by have := sml_cat (ad := ad) e9; omega) hcs.1 hcs.2 hdec (ih _ _ _ _ h H locs lr hP hD hS hl)
      · exact kon_none h
    · exact kon_none h
  · next hac =>
    obtain ⟨c1, c2, c3, c4⟩ := (o8 _ _).2.2.2 hac
    split at h
    · next x r0 =>
      rcases kon_ite h with ⟨e9, h⟩ | ⟨-, h⟩
      · exact va_mabs hx hb (by rw [hml, hsz]) hown (hts _ c1) (hts _ c2) (hts _ c3) (hts _ c4) (by omega) (by have := sml_cat (ad := ad) e9; omega) hcs.1 hcs.2 hdec (ih _ _ _ _ h H locs lr hP hD hS hl)
      · exact kon_none h
    · exact kon_none h
  · split at h
    · next m' hcr =>
      split at h
      · next M' hM' =>
        rcases kon_ite h with ⟨⟨hst, hna⟩, h⟩ | ⟨-, h⟩
        · obtain ⟨hsm, kd, d', v, s2, st2, hkd, rfl, hrun, hpsh, hgo⟩ := kon_invk h
          obtain ⟨a1, a2, a3, a4, a5, a6, a7, a8, a9⟩ := o5 _ _ hM'
          obtain ⟨b1, b3, -⟩ := o6 _ _ _ _ hcr hM'
          have b3 := b3 hst
          have hev : evT T d' m' 0 (pad M'.2.2.1 (st.take M'.2.2.2.2.1).reverse) [] s1 = some (0, v, s2) := evT_iff.mpr ⟨_, hrun⟩
          have hMet := hC d' rfl m' M' _ s1 v s2 H.size ad ca D hM' (by rw [List.length_reverse, List.length_take]; omega) hev
          have hn : ((st.take M'.2.2.2.2.1).reverse.map (rl ad)).length = M'.2.2.2.2.1 := by rw [List.length_map, List.length_reverse, List.length_take]; omega
          have hstk : (st.map (rl ad)) = ((st.take M'.2.2.2.2.1).reverse.map (rl ad)).reverse ++ (st.drop M'.2.2.2.2.1).map (rl ad) := by
            rw [← List.map_reverse, List.reverse_reverse, ← List.map_append, List.take_append_drop]
          have hpar : ∀ sig, parseMethodDescriptor (nm m').desc = some sig → M'.2.2.2.2.1 = sig.parameters.length := by
            intro sig hs
            rw [hst] at a6
            rw [hs] at a6
            simp only [Option.map_some, Option.some.injEq] at a6
            simpa using a6.symm
          have hpay : ∀ w ∈ Wd nm rty TG m' M', ∀ (a' : Array Value) (U : State), s.WarmedH U.vm → w.before a' U = true := pay_in hts (Wd_good a3 o9)
          have hPre : PreS s H (va_Pc ((st.take M'.2.2.2.2.1).reverse.map (rl ad)) (mP T N cls NX ad ca D H.size s1)) ((st.take M'.2.2.2.2.1).reverse.map (rl ad)) :=
            ⟨mP_blind, fun U hU hW => ⟨rfl, by rw [hU], by rw [hU]; exact hP, va_K.moved hW.alike hK, hD.weaken (fun _ _ _ _ => trivial), fun q hq => va_Nw.warmM hW (hNX q hq)⟩⟩
          have hfr2 : (rmD d').frames + 1 ≤ R.frames := hfr
          have hlo2 : 8 + (M'.2.2.1 + 11) + (rmD d').locals ≤ R.locals := by show 8 + (M'.2.2.1 + 11) + 40 * (d' + 1) ≤ R.locals; omega
          have hroom := lv_room (m := mid) (pc := pc) (ls := lr) (rest := st.map (rl ad)) (sml_cat (ad := ad) hsm)
          rcases b1 with b1 | ⟨host, b1⟩
          · have hrn := va_runS (p := p) (l := l) (e := e) (R := R) (below := below) (meth := meth) (locs := locs) (cells := cells) (slots := slots) (index := k) (Ts := TG) (own := CN M.2.1) (g := F0 mid pc lr (st.map (rl ad))) (rest := (st.drop M'.2.2.2.2.1).map (rl ad)) ⟨hx, hb, hml, hown, hts⟩ hMet
              (⟨⟨rfl, rfl, hfr2, hlo2, hpay, List.mem_cons_self, hts _ a3, hts _ a4, a5, hpar, hts _ b1⟩, hts _ b3⟩ : CallB R s args (CN M.2.1) k (nm m') M'.1 M'.2.2.1 (rty m') (Wd nm rty TG m' M') (rmD d') 0 0 M'.2.2.2.2.1 ∧ (Cond.static (nm m')).before args s = true) hPre rfl hn hsz hstk hroom hdec ⟨hcs.1, hcs.2⟩
            exact sW_behind hD hS hA hl hrn hkd hpsh (ih _ _ _ _ hgo)
          · have hrn := va_runSN (p := p) (l := l) (e := e) (R := R) (below := below) (meth := meth) (locs := locs) (cells := cells) (slots := slots) (index := k) (Ts := TG) (own := CN M.2.1) (g := F0 mid pc lr (st.map (rl ad))) (rest := (st.drop M'.2.2.2.2.1).map (rl ad)) ⟨hx, hb, hml, hown, hts⟩ hMet
              (⟨⟨⟨rfl, rfl, hfr2, hlo2, hpay, List.mem_cons_self⟩, hts _ a3, hts _ a4, a5, hpar, va_Nw.use rfl (hNX _ b1)⟩, hts _ b3, trivial⟩ : va_CN R s args (CN M.2.1) k (nm m') host M'.1 M'.2.2.1 (rty m') (Wd nm rty TG m' M') (rmD d') 0 0 M'.2.2.2.2.1 ∧ (Cond.static (nm m')).before args s = true ∧ True) hPre rfl hn hsz hstk hroom hdec ⟨hcs.1, hcs.2⟩
            exact sW_behind hD hS hA hl hrn hkd hpsh (ih _ _ _ _ hgo)
        · exact kon_none h
      · exact kon_none h
    · exact kon_none h
/-- a run of the small machine is the machine's -/
theorem sW_run (hOK : mOK T N cls TG NX nm rty CN) (hM : T.mt m = some M) (hx : p.tables.exec = Jvm.exec) (hb : c.code = M.1) (hml : c.maxLocals = M.2.2.1) (hown : s.vm.findClass (CN M.2.1) = some mid.cls) (hts : ∀ w ∈ TG, w.before args s = true) (hK : va_K D cls (tysO ca) s) (hNX : ∀ q ∈ NX, va_Nw (nxw q) s) (hfr : d + 1 ≤ R.frames) (hlo : 40 * (d + 1) ≤ R.locals) (hcs : cells ≤ R.cells ∧ slots ≤ R.slots) (hA : ∀ q, H0.size ≤ q → A q)
    (hC : ∀ d', d = d' + 1 → Ctr l T N cls TG NX nm rty d') (hE : mE p l e R s mid args below meth c cells slots Q T N cls ad ca D A H0 M r) :
    ∀ (n pc : Nat) (ls st : List mV) (s1 : mS), run T d n m pc ls st s1 = some r → mW p l e R s mid args below meth c cells slots Q T N cls ad ca D A H0 M.2.2.1 pc ls st s1 := by
  intro n
  induction n with
  | zero => intro pc ls st s1 h; cases d <;> cases h
  | succ n ih =>
    intro pc ls st s1 h
    rw [run_kon] at h
    unfold act at h
    rw [hM] at h
    cases hdec : decode M.1 pc with
    | error x => simp only [hdec] at h; exact kon_none h
    | ok il =>
      obtain ⟨i, len⟩ := il
      simp only [hdec] at h
      rcases kon_ite h with ⟨hlen, h⟩ | ⟨-, h⟩
      · have key : mW p l e R s mid args below meth c cells slots Q T N cls ad ca D A H0 M.2.2.1 pc (kil M.2.2.2.2.2.2 pc ls) st s1 := by
          by_cases hv : ∃ k, i = .invokevirtual k
          · obtain ⟨k, rfl⟩ := hv
            obtain rfl : 3 = len := hlen.resolve_left (by simp [ilen])
            exact sW_virt hOK hx hb hml hown hts hK hNX hfr hlo hcs hA hC ih hdec h
          · by_cases hs : ∃ k, i = .invokestatic k
            · obtain ⟨k, rfl⟩ := hs
              obtain rfl : 3 = len := hlen.resolve_left (by simp [ilen])
              exact sW_stat hOK hx hb hml hown hts hK hNX hfr hlo hcs hA hC ih hdec h
            · exact sW_plain hOK hx hb hml hown hts hK (by omega) (by omega) hE ih hdec hlen (fun k z => hv ⟨k, z⟩) (fun k z => hs ⟨k, z⟩) h
        intro H locs lr hP hD hS hl
        exact key H locs lr hP hD hS (lR_kil hl)
      · exact kon_none h
end MSX
theorem nb0 : narrow FieldType.boolean (.int 0) = .int 0 := by decide +kernel
theorem nb1 : narrow FieldType.boolean (.int 1) = .int 1 := by decide +kernel
/-- every method's contract -/
theorem ctr_all {l : Launch} {T : mT} {N : Nat} {cls : List vw_C} {TG : List Cond} {NX : mX} {nm : Nat → MethodName} {rty : Nat → Option FieldType} {CN : Nat → String} (hOK : mOK T N cls TG NX nm rty CN) : ∀ d, Ctr l T N cls TG NX nm rty d := by
  intro d
  have step : ∀ d, (∀ d', d = d' + 1 → Ctr l T N cls TG NX nm rty d') → Ctr l T N cls TG NX nm rty d := by
    intro d hC m M as s0 v s1 sz ad ca D hM hlen hev
    obtain ⟨n, hn⟩ := evT_iff.mp hev
    have hOK2 := hOK
    obtain ⟨o1, o2, o3, o4, o5, o6, o7, o8, o9⟩ := hOK2
    obtain ⟨a1, a2, a3, a4, a5, a6, a7, a8, r0, r1, r2, r3⟩ := o5 _ _ hM
    refine Met.ofW (cc := M.1) (maxL := M.2.2.1) (ret := rty m) a1 rfl ?_
    intro p e s mid args below meth c s₁ B hml hv
    obtain ⟨rfl, hsz, hP, hK, hD0, hNX⟩ := hv
    have hx := B.exec
    have hb := B.bytes
    have hr := B.returns
    have hts0 := atoms_spec (ws := Wd nm rty TG m M) B.pre
    have hts : ∀ w ∈ TG, w.before (as.map (rl ad)).toArray s = true := fun w hw => hts0 w (List.mem_cons_of_mem _ hw)
    have hown : s.vm.findClass (CN M.2.1) = some mid.cls := by rw [a2]; exact findClass_of_methodNamed B.named
    have hlocks := B.notSynchronized
    subst hsz
    have hD := hD0.self (sz := s.heap.size)
    have hA : ∀ q : Nat, s.heap.size ≤ q → va_A (wsO T ad ca N s0) s.heap.size q := fun q h => Or.inr h
    have hl := lR_entry (ad := ad) (as := as) (n := M.2.2.1) (by rw [hlen]; exact a7)
    rw [lg_entry_eq]
    refine sW_run (d := d) (m := m) (r := (0, v, s1)) hOK hM hx hb hml hown hts hK hNX (Nat.le_refl _) (Nat.le_refl _) ⟨Nat.le_refl _, Nat.le_refl _⟩ hA hC ⟨?_, fun pc1 h => by cases h⟩ n 0 (pad M.2.2.1 as) [] s0 hn s.heap [] _ hP hD va_S.rf hl
    intro _ H1 locs1 pc1 ls1 st1 htok hP1 hD1 hS1
    have hw : ∀ t : State, t.heap = H1 → s.WarmedH t.vm → va_P D cls (wsO T ad ca N s1) t.heap ∧ va_K D cls (tysO ca) t ∧ va_D (va_A (wsO T ad ca N s0) s.heap.size) (wsO T ad ca N s1) := fun t ht hW => ⟨by rw [ht]; exact hP1, va_K.moved hW.alike hK, hD1⟩
    rcases htok with ⟨hk, hdec, rfl⟩ | ⟨hk, hdec, rfl⟩ | ⟨hk, hdec, rfl⟩
    · exact W.vret hx hb (by rw [hr]; exact r0 hk) (fun t ht hW => ⟨⟨by rw [hk]; rfl, hw t ht hW⟩, hS1.F ht⟩) hS1.2.2 hdec
    · rcases hk with hk | ⟨hk, hv⟩
      · exact W.iret hx hb (by rw [hr]; exact r1 hk) (fun t ht hW => ⟨⟨by rw [hk]; rfl, hw t ht hW⟩, hS1.F ht⟩) hS1.2.2 hdec
      · exact W.zret (ty := .boolean) hx hb (by rw [hr]; exact r2 hk) (by rcases hv with rfl | rfl; exact nb0; exact nb1) (fun t ht hW => ⟨⟨by rw [hk]; rfl, hw t ht hW⟩, hS1.F ht⟩) hS1.2.2 hdec
    · obtain ⟨nn, hnn⟩ := r3 hk
      refine W.aret (rt := .object nn) hx hb (by rw [hr]; exact hnn) (Or.inl ⟨nn, rfl⟩) (Or.inr ⟨_, rfl⟩) (fun t ht hW => ⟨⟨?_, hw t ht hW⟩, hS1.F ht⟩) hS1.2.2 hdec
      match hq : M.2.2.2.1, hk with
      | k + 3, _ => rfl
  induction d with
  | zero => exact step 0 (fun d' h => by cases h)
  | succ d ih => exact step (d + 1) (fun d' h => by cases h; exact ih)
