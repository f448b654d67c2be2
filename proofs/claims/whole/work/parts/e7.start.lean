/-! THE LAW'S START -/
section LSA
variable {s : State} {args : Array Value}
theorem s_arr {ty : FieldType} (h : (Cond.arrayClass ty).before args s = true) (ht : ∀ C, ty ≠ .object C) : ∃ cA, ArrOfT s cA ty ∧ va_RA s cA ty := by
  obtain ⟨cA, kA, comp, h1, h2, h3⟩ := Cond.arrayClass_spec h
  refine ⟨cA, fun n z => ⟨fun k h => (by cases h), kA, h2, comp, h3⟩, ?_⟩
  cases ty with
  | object C => exact absurd rfl (ht C)
  | _ => exact h1
theorem s_ca (hts : ∀ w ∈ lw_tbl, w.before args s = true) : ∃ ca : Nat → ClassId, ∀ (k : Nat) (q : ClassId × FieldType), (tysO ca)[k]? = some q → ArrOfT s q.1 q.2 ∧ va_RA s q.1 q.2 := by
  obtain ⟨c0, h0⟩ := s_arr (hts (.arrayClass .int) (xC_tbl _ (by simp [xC]))) (fun C h => by cases h)
  obtain ⟨c1, h1⟩ := s_arr (hts (.arrayClass .char) (xC_tbl _ (by simp [xC]))) (fun C h => by cases h)
  obtain ⟨c2, h2⟩ := s_arr (hts (.arrayClass .byte) (xC_tbl _ (by simp [xC]))) (fun C h => by cases h)
  obtain ⟨c3, h3⟩ := s_arr (hts (.arrayClass .boolean) (xC_tbl _ (by simp [xC]))) (fun C h => by cases h)
  obtain ⟨c4, h4⟩ := s_arr (hts (.arrayClass .long) (by decide +kernel)) (fun C h => by cases h)
  refine ⟨fun k => ([c0, c1, c2, c3, c4] : List ClassId).getD k c0, fun k q hk => ?_⟩
  match k, hk with
  | 0, hk => cases hk; exact h0
  | 1, hk => cases hk; exact h1
  | 2, hk => cases hk; exact h2
  | 3, hk => cases hk; exact h3
  | 4, hk => cases hk; exact h4
  | k + 5, hk => cases hk
theorem inst_tbl : ∀ q ∈ mCls, Cond.instantiable q.1 q.2.2 ∈ lw_tbl := by decide +kernel
theorem s_K (hts : ∀ w ∈ lw_tbl, w.before args s = true) : ∃ (D : va_G) (ca : Nat → ClassId), va_K D mCls (tysO ca) s := by
  obtain ⟨ca, hca⟩ := s_ca hts
  have h2 : ∀ c : Nat, ∃ x : ClassId × (Nat → Nat), ∀ q : vw_C, mCls[c]? = some q → u_Kn s q.1 q.2.1 q.2.2 x.1 x.2 := by
    intro c
    cases hq : mCls[c]? with
    | none => exact ⟨(ca 0, fun _ => 0), fun q h => by cases h⟩
    | some q =>
      have hn := inst_tbl q (List.mem_of_getElem? hq)
      obtain ⟨u1, -, -, -⟩ := mok.2.2.1 c q hq
      obtain ⟨cC, iS, h⟩ := u_known (ws := mTG) (C := q.1) (T := q.2.1) (N := q.2.2) (fun w hw => hts w (mTG_tbl w hw)) u1 (hts _ hn)
      exact ⟨(cC, iS), fun q' h' => by cases h'; exact h⟩
  obtain ⟨f, hf⟩ := Classical.axiomOfChoice h2
  exact ⟨(fun c => (f c).1, fun c => (f c).2), ca, fun c q hq => hf c q hq, hca⟩
theorem s_str (hts : ∀ w ∈ lw_tbl, w.before args s = true) (hg : (Jvm.Cond.and given_1 narrow_1).before args s = true) {k : Nat} {tx : String} (h1 : Cond.stringRef "ChestOfLetters" k tx ∈ lw_tbl) (h2 : Cond.exactly (.string "ChestOfLetters" k) "java/lang/String" ∈ flatC (Jvm.Cond.and given_1 narrow_1)) : ∃ a, vk_R "ChestOfLetters" k tx a s := by
  have hs := flat_of_before _ hg
  obtain ⟨a, c, cA, kA, q1, -⟩ := Cond.exactly_spec (args := args) (first := s) (o := none) (s := s) (idx := []) (hs _ h2)
  exact ⟨a, vk_R.of (A := args) (hts _ h1) q1⟩
theorem s_Z (hts : ∀ w ∈ lw_tbl, w.before args s = true) (hg : (Jvm.Cond.and given_1 narrow_1).before args s = true) : mZ (fun q : Nat => s.heap.size ≤ q) s := by
  have hs := flat_of_before _ hg
  have hini : (Cond.initialized "java/lang/Throwable").before args s = true := hts _ (by decide +kernel)
  have hA : ∀ a : Nat, a < s.heap.size → ¬ s.heap.size ≤ a := fun a h => Nat.not_le.mpr h
  refine ⟨s_str hts hg (by decide +kernel) (by decide +kernel), s_str hts hg (by decide +kernel) (by decide +kernel), s_str hts hg (by decide +kernel) (by decide +kernel), vx_Zqof (args := args) (hts _ (by decide +kernel)) hini (hs _ (by decide +kernel)) hA, vx_Zqof (args := args) (hts _ (by decide +kernel)) hini (hs _ (by decide +kernel)) hA, fun w hw => va_Nw.of (A := args) ?_ (hts w (xBad_tbl w hw))⟩
  have : ∀ w ∈ xBad, w.onTables = true := by decide +kernel
  exact this w hw
theorem nx_tbl : ∀ q ∈ mNX, nxw q ∈ lw_tbl := by decide +kernel
theorem s_NX {L : mX} (hts : ∀ w ∈ lw_tbl, w.before args s = true) (h : ∀ q ∈ L, nxw q ∈ lw_tbl) : ∀ q ∈ L, va_Nw (nxw q) s := fun q hq => va_Nw.of (A := args) rfl (hts _ (h q hq))
end LSA
section LSB
def opM : List cO := opModel
def xL : List Cond := [.classLink (mCN 16) 8 (mCN 11), .instantiable (mCN 11) 16, .initialized (mCN 11), .methodLink (mCN 16) 19 yX, .instanceMethod yX, .code yX prog_1_method_1_code 1 none, .classLink (mCN 16) 20 (mCN 12), .instantiable (mCN 12) 47, .initialized (mCN 12), .methodLink (mCN 16) 22 ⟨mCN 12, "<init>", "()V"⟩, .instanceMethod ⟨mCN 12, "<init>", "()V"⟩, .code ⟨mCN 12, "<init>", "()V"⟩ prog_14_method_1_code 1 none]
theorem xL_tbl : ∀ w ∈ xL, w ∈ lw_tbl := by decide +kernel
theorem xL_good : ∀ w ∈ xL, goodWord w = true := by decide +kernel
theorem ca_long {D : va_G} {ca : Nat → ClassId} {s : State} {cA : ClassId} (hK : va_K D mCls (tysO ca) s) (hK1 : va_K D mCls (tysO ca ++ [(cA, .long)]) s) : cA = ca 4 := by
  have h1 := (hK.2 4 (ca 4, .long) rfl).2
  have h2 := (hK1.2 5 (cA, .long) (by rw [List.getElem?_append_right (by simp [tysO])]; rfl)).2
  exact Option.some.inj ((show s.vm.findClass _ = some cA from h2).symm.trans h1)
def adM (ad : Nat → Nat) (q67 : Nat) (a : Nat → Nat) (q97 b k : Nat) : Nat := if k ≤ 66 then ad k else if k = 67 then q67 else if k = 97 then q97 else if k = 98 then b else a (k - 68)
theorem upB_oth {s : mS} {k0 k : Nat} {a : Int32} (h1 : k ≠ k0) (h2 : k ≠ mRf k0 0) : upB s k0 a k = s k := by
  have u : ∀ (t : mS) (q i : Nat) (v : Int32), k ≠ q → up t q i v k = t k := fun t q i v h => if_neg h
  unfold upB
  rw [u _ _ _ _ h1, u _ _ _ _ h1, u _ _ _ _ h2, u _ _ _ _ h1, u _ _ _ _ h1]
theorem upB2_oth {s : mS} {k0 k : Nat} {a : Int32} (h1 : k ≠ k0) (h2 : k ≠ mRf k0 0) : upB2 s k0 a k = s k := by
  have u : ∀ (t : mS) (q i : Nat) (v : Int32), k ≠ q → up t q i v k = t k := fun t q i v h => if_neg h
  unfold upB2
  rw [u _ _ _ _ h1, u _ _ _ _ h2, upB_oth h1 h2]
theorem sB_hi {k : Nat} (h : 67 < k) : sB k = fun _ => 0 := by
  have r1 : mRf 16 0 = 17 := by decide +kernel
  have r2 : mRf 22 0 = 23 := by decide +kernel
  have r3 : mRf 25 0 = 26 := by decide +kernel
  have r4 : mRf 28 0 = 29 := by decide +kernel
  unfold sB
  rw [if_neg (by omega)]
  unfold sX sX3 sX2 sX1
  rw [upB_oth (by omega) (by rw [r4]; omega), upB2_oth (by omega) (by rw [r3]; omega), upB_oth (by omega) (by rw [r2]; omega), upB_oth (by omega) (by rw [r1]; omega)]
  unfold s66
  rw [if_neg (by omega), if_neg (by omega), if_neg (by omega)]
theorem rf_lo : ∀ k, k < 67 → ∀ j, j < 50 → mRf k j ≤ 66 ∧ mMr k j = false := by decide +kernel
theorem sh_lo : ∀ k, k < 67 → (mSh k).2 < 50 ∨ 20 ≤ (mSh k).1 := by decide +kernel
theorem entO_lo {ca : Nat → ClassId} {ad ad' : Nat → Nat} {s s' : mS} {k : Nat} (h1 : k ≤ 66) (ha : ∀ q, q ≤ 66 → ad' q = ad q) (hs : s' k = s k) : entO T66 ad ca s k = entO mTab ad' ca s' k := by
  have e1 : T66.sh k = mTab.sh k := if_pos h1
  have e2 : mTab.sh k = mSh k := rfl
  unfold entO
  rw [e1, hs]
  by_cases h20 : (mTab.sh k).1 < 20
  · rw [if_pos h20, if_pos h20]
    have hlt : (mTab.sh k).2 < 50 := by
      rcases sh_lo k (by omega) with h | h
      · exact h
      · rw [e2] at h20; omega
    have em : (List.range (mTab.sh k).2).map (fvl T66 ad s k) = (List.range (mTab.sh k).2).map (fvl mTab ad' s' k) := by
      apply List.map_congr_left
      intro j hj
      have hj2 := List.mem_range.mp hj
      obtain ⟨q1, q2⟩ := rf_lo k (by omega) j (by omega)
      unfold fvl
      rw [show T66.rf k j = mRf k j from rfl, show mTab.rf k j = mRf k j from rfl, show T66.mr k j = mMr k j from rfl, show mTab.mr k j = mMr k j from rfl, q2, hs]
      cases hr : mRf k j with
      | zero => rfl
      | succ t =>
        rw [hr] at q1
        show Value.ref (ad (t + 1)) = Value.ref (ad' (t + 1))
        rw [ha _ q1]
    rw [em]
  · rw [if_neg h20, if_neg h20]
set_option maxHeartbeats 4000000 in
theorem cnF_M {a : Nat → Nat} : cnF opModel a dfModel = [.ref (a 0), .int 0, .ref (a 1), .ref (a 2), .ref (a 3), .ref (a 4), .int 0, .ref (a 5), .ref (a 6), .ref (a 7), .ref (a 8), .ref (a 9), .ref (a 10), .int 0, .ref (a 11), .int 0, .ref (a 12), .int 0, .int 0, .null, .int 0, .int 0, .int 0, .int 0, .ref (a 13), .ref (a 14), .ref (a 15), .int 0, .int (-nI 1), .int 0, .ref (a 16), .int 0, .ref (a 17), .ref (a 18), .ref (a 19), .ref (a 20), .ref (a 21), .ref (a 22), .int 0, .ref (a 23), .ref (a 24), .ref (a 25), .int 0, .int 0, .ref (a 26), .ref (a 27), .ref (a 28)] := by
  simp [cnF, opModel, dfModel]
theorem cnA_M {a : Nat → Nat} {ca : Nat → ClassId} : cnA ca opModel a = [(a 0, .inl (ca 0, 10, .inl (fun _ => 0))), (a 1, .inl (ca 0, 12, .inl (fun _ => 0))), (a 2, .inl (ca 0, 12, .inl (fun _ => 0))), (a 3, .inl (ca 0, 96, .inl (fun _ => 0))), (a 4, .inl (ca 0, 120, .inl (fun _ => 0))), (a 5, .inl (ca 0, 8, .inl (fun _ => 0))), (a 6, .inl (ca 0, 8, .inl (fun _ => 0))), (a 7, .inl (ca 0, 8, .inl (fun _ => 0))), (a 8, .inl (ca 0, 80, .inl (fun _ => 0))), (a 9, .inl (ca 0, 8, .inl (fun _ => 0))), (a 10, .inl (ca 0, 8, .inl (fun _ => 0))), (a 11, .inl (ca 2, 80, .inl (fun _ => 0))), (a 12, .inl (ca 0, 16, .inl (fun _ => 0))), (a 13, .inl (ca 0, 10, .inl (fun _ => 0))), (a 14, .inl (ca 0, 8, .inl (fun _ => 0))), (a 15, .inl (ca 2, 40, .inl (fun _ => 0))), (a 16, .inl (ca 0, 1380, .inl (fun _ => 0))), (a 17, .inl (ca 0, 320, .inl (fun _ => 0))), (a 18, .inl (ca 0, 115, .inl (fun _ => 0))), (a 19, .inl (ca 0, 256, .inl (fun _ => 0))), (a 20, .inl (ca 0, 8, .inl (fun _ => 0))), (a 21, .inl (ca 0, 8, .inl (fun _ => 0))), (a 22, .inl (ca 0, 10, .inl (fun _ => 0))), (a 23, .inl (ca 0, 49152, .inl (fun _ => 0))), (a 24, .inl (ca 0, 12, .inl (fun _ => 0))), (a 25, .inl (ca 0, 36, .inl (fun _ => 0))), (a 26, .inl (ca 0, 230, .inl (fun _ => 0))), (a 27, .inl (ca 3, 2, .inl (fun _ => 0))), (a 28, .inl (ca 0, 2, .inl (fun _ => 0)))] := rfl
set_option maxRecDepth 100000 in
set_option maxHeartbeats 4000000 in
theorem worldB {ca : Nat → ClassId} {ad : Nat → Nat} {q67 q97 b : Nat} {a : Nat → Nat} {sv : mS} (h67 : ∀ j, j ≠ 28 → sv 67 j = 0) (h28 : sv 67 28 = -nI 1) (hhi : ∀ k, 67 < k → sv k = fun _ => 0) :
    (List.range 31).map (fun q => (adM ad q67 a q97 b (66 + q + 1), entO mTab (adM ad q67 a q97 b) ca sv (66 + q + 1))) = (cnP ca 12 opModel dfModel q67 a ++ [(q97, .inl (ca 4, 1, .inr (.inl (fun j => (sv 97 j).toInt64))))] : va_W) := by
  have e : (List.range 31).map (fun q => (adM ad q67 a q97 b (66 + q + 1), entO mTab (adM ad q67 a q97 b) ca sv (66 + q + 1))) = ([(q67, .inr (12, [.ref (a 0), .int (sv 67 1), .ref (a 1), .ref (a 2), .ref (a 3), .ref (a 4), .int (sv 67 6), .ref (a 5), .ref (a 6), .ref (a 7), .ref (a 8), .ref (a 9), .ref (a 10), .int (sv 67 13), .ref (a 11), .int (sv 67 15), .ref (a 12), .int (sv 67 17), .int (sv 67 18), (if ix (sv 67 19) = 0 then .null else .ref (adM ad q67 a q97 b (ix (sv 67 19)))), .int (sv 67 20), .int (sv 67 21), .int (sv 67 22), .int (sv 67 23), .ref (a 13), .ref (a 14), .ref (a 15), .int (sv 67 27), .int (sv 67 28), .int (sv 67 29), .ref (a 16), .int (sv 67 31), .ref (a 17), .ref (a 18), .ref (a 19), .ref (a 20), .ref (a 21), .ref (a 22), .int (sv 67 38), .ref (a 23), .ref (a 24), .ref (a 25), .int (sv 67 42), .int (sv 67 43), .ref (a 26), .ref (a 27), .ref (a 28)])), (a 0, .inl (ca 0, 10, .inl (sv 68))), (a 1, .inl (ca 0, 12, .inl (sv 69))), (a 2, .inl (ca 0, 12, .inl (sv 70))), (a 3, .inl (ca 0, 96, .inl (sv 71))), (a 4, .inl (ca 0, 120, .inl (sv 72))), (a 5, .inl (ca 0, 8, .inl (sv 73))), (a 6, .inl (ca 0, 8, .inl (sv 74))), (a 7, .inl (ca 0, 8, .inl (sv 75))), (a 8, .inl (ca 0, 80, .inl (sv 76))), (a 9, .inl (ca 0, 8, .inl (sv 77))), (a 10, .inl (ca 0, 8, .inl (sv 78))), (a 11, .inl (ca 2, 80, .inl (sv 79))), (a 12, .inl (ca 0, 16, .inl (sv 80))), (a 13, .inl (ca 0, 10, .inl (sv 81))), (a 14, .inl (ca 0, 8, .inl (sv 82))), (a 15, .inl (ca 2, 40, .inl (sv 83))), (a 16, .inl (ca 0, 1380, .inl (sv 84))), (a 17, .inl (ca 0, 320, .inl (sv 85))), (a 18, .inl (ca 0, 115, .inl (sv 86))), (a 19, .inl (ca 0, 256, .inl (sv 87))), (a 20, .inl (ca 0, 8, .inl (sv 88))), (a 21, .inl (ca 0, 8, .inl (sv 89))), (a 22, .inl (ca 0, 10, .inl (sv 90))), (a 23, .inl (ca 0, 49152, .inl (sv 91))), (a 24, .inl (ca 0, 12, .inl (sv 92))), (a 25, .inl (ca 0, 36, .inl (sv 93))), (a 26, .inl (ca 0, 230, .inl (sv 94))), (a 27, .inl (ca 3, 2, .inl (sv 95))), (a 28, .inl (ca 0, 2, .inl (sv 96))), (q97, .inl (ca 4, 1, .inr (.inl (fun j => (sv 97 j).toInt64))))] : va_W) := rfl
  have h19 : ix (sv 67 19) = 0 := by rw [h67 19 (by decide)]; decide +kernel
  unfold cnP
  rw [e, cnF_M, cnA_M, if_pos h19, h67 1 (by decide), h67 6 (by decide), h67 13 (by decide), h67 15 (by decide), h67 17 (by decide), h67 18 (by decide), h67 20 (by decide), h67 21 (by decide), h67 22 (by decide), h67 23 (by decide), h67 27 (by decide), h67 29 (by decide), h67 31 (by decide), h67 38 (by decide), h67 42 (by decide), h67 43 (by decide), h28, hhi 68 (by decide), hhi 69 (by decide), hhi 70 (by decide), hhi 71 (by decide), hhi 72 (by decide), hhi 73 (by decide), hhi 74 (by decide), hhi 75 (by decide), hhi 76 (by decide), hhi 77 (by decide), hhi 78 (by decide), hhi 79 (by decide), hhi 80 (by decide), hhi 81 (by decide), hhi 82 (by decide), hhi 83 (by decide), hhi 84 (by decide), hhi 85 (by decide), hhi 86 (by decide), hhi 87 (by decide), hhi 88 (by decide), hhi 89 (by decide), hhi 90 (by decide), hhi 91 (by decide), hhi 92 (by decide), hhi 93 (by decide), hhi 94 (by decide), hhi 95 (by decide), hhi 96 (by decide)]
  rfl
theorem worldM {ca : Nat → ClassId} {ad : Nat → Nat} {q67 q97 b : Nat} {a : Nat → Nat} : (((wsO T66 ad ca 66 sX ++ cnP ca 12 opModel dfModel q67 a) ++ [(q97, .inl (ca 4, 1, .inr (.inl (fun j => (sB 97 j).toInt64))))]) : va_W) = wsO mTab (adM ad q67 a q97 b) ca 97 sB := by
  rw [List.append_assoc, ← worldB (ad := ad) (b := b) (sv := sB) (fun j hj => if_neg hj) rfl (fun k h => sB_hi h)]
  have ha : ∀ q, q ≤ 66 → adM ad q67 a q97 b q = ad q := fun q h => if_pos h
  have e1 : (List.range 66).map (fun q => (ad (q + 1), entO T66 ad ca sX (q + 1))) = (List.range 66).map (fun q => (adM ad q67 a q97 b (q + 1), entO mTab (adM ad q67 a q97 b) ca sB (q + 1))) := by
    apply List.map_congr_left
    intro q hq
    have hq2 := List.mem_range.mp hq
    rw [ha _ (by omega), entO_lo (ad := ad) (ad' := adM ad q67 a q97 b) (s := sX) (s' := sB) (by omega) ha (if_neg (by omega))]
  unfold wsO
  rw [e1, show 97 = 66 + 31 from rfl, List.range_add, List.map_append, List.map_map]
  rfl
end LSB
