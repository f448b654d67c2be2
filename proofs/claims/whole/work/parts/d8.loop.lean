/-! THE LAW'S LOOP -/
def lTg : List Nat := [244, 269, 294, 307, 320, 345, 370, 438, 475, 524, 585, 622, 647, 672, 721, 746, 759, 784, 809, 822, 859, 884, 909, 922, 935, 960, 973, 986, 1011, 1036, 1049, 1074, 1087, 1124, 1149, 1162, 1199, 1224, 1249, 1262, 1275, 1324, 1337, 1350, 1363, 1388, 1413, 1438]
theorem lTg_at : ∀ k, k < 64 → (k < 48 → (#[205, 230, 255, 268, 281, 306, 331, 399, 436, 485, 546, 583, 608, 633, 682, 707, 720, 745, 770, 783, 820, 845, 870, 883, 896, 921, 934, 947, 972, 997, 1010, 1035, 1048, 1085, 1110, 1123, 1160, 1185, 1210, 1223, 1236, 1285, 1298, 1311, 1324, 1349, 1374, 1399] : Array Int)[((nI k).toInt - 0).toNat]? = some ((lTg.getD k 1494 : Nat) - 39 : Int)) ∧ (48 ≤ k → lTg.getD k 1494 = 1494) := by decide +kernel
theorem and63 (x : Int32) : ∃ k, k < 64 ∧ x &&& nI 63 = nI k := by
  refine ⟨(x &&& nI 63).toBitVec.toNat, ?_, ?_⟩
  · have h : (x &&& nI 63).toBitVec = x.toBitVec &&& 63#32 := rfl
    rw [h, BitVec.toNat_and]
    exact Nat.lt_of_le_of_lt Nat.and_le_right (by decide)
  · apply Int32.toBitVec_inj.mp
    rw [nI_bv, BitVec.ofNat_toNat, BitVec.setWidth_eq]
theorem lt5 {i L : Nat} (hi : i < 2147483000) (hL : L ≤ 2560) (h : ¬ (nI L - 5 < nI i)) : i + 5 ≤ L := by
  rw [Int32.lt_iff_toInt_lt, Int32.toInt_sub, toI (by omega), toI (by omega), show (5 : Int32).toInt = 5 from rfl] at h
  simp only [Int.bmod_def] at h
  omega
section LLP
variable {p : Program} {l : Launch} {e : Env} {s : State} {mid : MethodId} {below : List Frame} {meth : Method} {c : Code} {Q : State → Prop} {cells slots : Nat} {args : Array Value}
variable {ad : Nat → Nat} {ca : Nat → ClassId} {D : va_G} {b L i B : Nat} {xs : Nat → Int32} {s1 : mS} {ls : List mV}
theorem LI_mono (h : LI B s1) : LI (B + 3600) s1 := by
  obtain ⟨A, x, z, y⟩ := h
  exact ⟨A, XI_mono x (by omega), z, MJ_mono y (by omega)⟩
/-- every case of the switch -/
theorem l_cases (F : LF p l s mid args meth c ca D b L xs) (hZ : mZ (fun q : Nat => s.heap.size ≤ q) s) (hfl : l.stackTraces = false) (hb98 : ad 98 = b) (hL : L ≤ 2560) (hi : i + 5 ≤ L) (hcs : cells + 1 ≤ room_1.cells ∧ slots + 6 ≤ room_1.slots) (h : LI B s1) (hB : B + 7300 < 2147483000)
    (hg : ∀ c' s' s3, c' ≤ cells + 1 → s' ≤ slots + 6 → LI (B + 3600) s3 → lW p l e s mid args below meth c c' s' Q ad ca D 1494 (lL0 i) [] s3) (k : Nat) (hk : k < 64) : lW p l e s mid args below meth c cells slots Q ad ca D (lTg.getD k 1494) (lL0 i) [] s1 := by
  have hcs0 : cells ≤ room_1.cells ∧ slots ≤ room_1.slots := ⟨by omega, by omega⟩
  have g0 : ∀ s3, LI (B + 3600) s3 → lW p l e s mid args below meth c cells slots Q ad ca D 1494 (lL0 i) [] s3 := fun s3 h3 => hg cells slots s3 (by omega) (by omega) h3
  have g1 : ∀ s3, LI (B + 3600) s3 → lW p l e s mid args below meth c (cells + 1) (slots + 6) Q ad ca D 1494 (lL0 i) [] s3 := fun s3 h3 => hg _ _ s3 (by omega) (by omega) h3
  by_cases h48 : 48 ≤ k
  · rw [(lTg_at k hk).2 h48]
    exact g0 s1 (LI_mono h)
  · have hk2 : k < 48 := by omega
    match k, hk2 with
    | 0, _ => exact cs_0 F hb98 hL hi hcs0 h hB g0
    | 1, _ => exact cs_1 F hb98 hL hi hcs0 h hB g0
    | 2, _ => exact cs_2 F hb98 hL hi hcs0 h hB g0
    | 3, _ => exact cs_3 F hb98 hL hi hcs0 h hB g0
    | 4, _ => exact cs_4 F hb98 hL hi hcs0 h hB g0
    | 5, _ => exact cs_5 F hb98 hL hi hcs0 h hB g0
    | 6, _ => exact cs_6 F hZ hfl hb98 hL hi hcs h g1
    | 7, _ => exact cs_7 F hb98 hL hi hcs0 h hB g0
    | 8, _ => exact cs_8 F hb98 hL hi hcs0 h hB g0
    | 9, _ => exact cs_9 F hb98 hL hi hcs0 h hB g0
    | 10, _ => exact cs_10 F hb98 hL hi hcs0 h hB g0
    | 11, _ => exact cs_11 F hb98 hL hi hcs0 h hB g0
    | 12, _ => exact cs_12 F hb98 hL hi hcs0 h hB g0
    | 13, _ => exact cs_13 F hb98 hL hi hcs0 h hB g0
    | 14, _ => exact cs_14 F hb98 hL hi hcs0 h hB g0
    | 15, _ => exact cs_15 F hb98 hL hi hcs0 h hB g0
    | 16, _ => exact cs_16 F hb98 hL hi hcs0 h hB g0
    | 17, _ => exact cs_17 F hb98 hL hi hcs0 h hB g0
    | 18, _ => exact cs_18 F hb98 hL hi hcs0 h hB g0
    | 19, _ => exact cs_19 F hb98 hL hi hcs0 h hB g0
    | 20, _ => exact cs_20 F hb98 hL hi hcs0 h hB g0
    | 21, _ => exact cs_21 F hb98 hL hi hcs0 h hB g0
    | 22, _ => exact cs_22 F hb98 hL hi hcs0 h hB g0
    | 23, _ => exact cs_23 F hb98 hL hi hcs0 h hB g0
    | 24, _ => exact cs_24 F hb98 hL hi hcs0 h hB g0
    | 25, _ => exact cs_25 F hb98 hL hi hcs0 h hB g0
    | 26, _ => exact cs_26 F hb98 hL hi hcs0 h hB g0
    | 27, _ => exact cs_27 F hb98 hL hi hcs0 h hB g0
    | 28, _ => exact cs_28 F hb98 hL hi hcs0 h hB g0
    | 29, _ => exact cs_29 F hb98 hL hi hcs0 h hB g0
    | 30, _ => exact cs_30 F hb98 hL hi hcs0 h hB g0
    | 31, _ => exact cs_31 F hb98 hL hi hcs0 h hB g0
    | 32, _ => exact cs_32 F hb98 hL hi hcs0 h hB g0
    | 33, _ => exact cs_33 F hb98 hL hi hcs0 h hB g0
    | 34, _ => exact cs_34 F hb98 hL hi hcs0 h hB g0
    | 35, _ => exact cs_35 F hb98 hL hi hcs0 h hB g0
    | 36, _ => exact cs_36 F hb98 hL hi hcs0 h hB g0
    | 37, _ => exact cs_37 F hb98 hL hi hcs0 h hB g0
    | 38, _ => exact cs_38 F hb98 hL hi hcs0 h hB g0
    | 39, _ => exact cs_39 F hb98 hL hi hcs0 h hB g0
    | 40, _ => exact cs_40 F hb98 hL hi hcs0 h hB g0
    | 41, _ => exact cs_41 F hb98 hL hi hcs0 h hB g0
    | 42, _ => exact cs_42 F hb98 hL hi hcs0 h hB g0
    | 43, _ => exact cs_43 F hb98 hL hi hcs0 h hB g0
    | 44, _ => exact cs_44 F hb98 hL hi hcs0 h hB g0
    | 45, _ => exact cs_45 F hb98 hL hi hcs0 h hB g0
    | 46, _ => exact cs_46 F hb98 hL hi hcs0 h hB g0
    | 47, _ => exact cs_47 F hZ hfl hb98 hL hi hcs h g1
    | k + 48, hk3 => exact absurd hk3 (by omega)
set_option maxHeartbeats 4000000 in
/-- a round of the loop -/
theorem l_round (F : LF p l s mid args meth c ca D b L xs) (hZ : mZ (fun q : Nat => s.heap.size ≤ q) s) (hfl : l.stackTraces = false) (hb98 : ad 98 = b) (hL : L ≤ 2560) (hiL : i < 2147483000) (hcs : cells + 1 ≤ room_1.cells ∧ slots + 6 ≤ room_1.slots) (h : LI B s1) (hB : B + 7300 < 2147483000)
    (hend : lW p l e s mid args below meth c cells slots Q ad ca D 1500 (lL0 i) [] s1)
    (hg : i + 5 ≤ L → ∀ c' s' s3, c' ≤ cells + 1 → s' ≤ slots + 6 → LI (B + 3600) s3 → lW p l e s mid args below meth c c' s' Q ad ca D 23 (lL0 (i + 5)) [] s3) : lW p l e s mid args below meth c cells slots Q ad ca D 23 (lL0 i) [] s1 := by
  have F0' := F
  obtain ⟨hx, hb, hml, hown, hts, hK, hNX, hX, hbl, hlks⟩ := F
  refine l_iload (k := 4) (v := nI i) F0' (by decide +kernel) rfl ?_
  refine l_aload (k := 0) (q := 97) F0' (by decide +kernel) rfl ?_
  intro H locs lr hP hD hS hlr
  show W _ _ _ _ _ _ _ _ _ _ _ _ _ _ _ (F0 mid 26 lr [.ref (ad 98), .int (nI i)])
  rw [hb98]
  refine va_slen hx hb hX hbl (Nat.not_le.mpr hbl) hS (by decide +kernel) ?_
  refine lv_iconst (n := 5) (v := 5) hx hb (by decide +kernel) rfl ?_
  refine lv_isub hx hb (by decide +kernel) ?_
  refine lv_icmp_gt (off := 1471) (tgt := 1500) hx hb (by decide +kernel) rfl (fun _ => hend H locs lr hP hD hS hlr) (fun hn => ?_)
  have hi : i + 5 ≤ L := lt5 hiL hL hn
  have g3 : ∀ c' s' s3, c' ≤ cells + 1 → s' ≤ slots + 6 → LI (B + 3600) s3 → lW p l e s mid args below meth c c' s' Q ad ca D 1494 (lL0 i) [] s3 := by
    intro c' s' s3 h1 h2 h3 H locs lr hP hD hS hlr
    have hm : (4, Value.int (nI i)) ∈ lL ad (lL0 i) := lL_mem.mpr ⟨.inl (nI i), rfl, by simp, rfl⟩
    obtain ⟨j, hj⟩ := List.getElem?_of_mem hm
    refine lv_iinc (n := 5) hx hb (by decide +kernel) hlr.2 hj rfl (by decide) rfl (fun lr' hl' => ?_)
    have e5 : nI i + Int32.ofInt 5 = nI (i + 5) := nI_add i 5
    have hl2 := lR_set (v := .inl (nI i + Int32.ofInt 5)) hlr hl'
    rw [e5] at hl2
    exact lv_goto (off := -1474) (tgt := 23) hx hb (by decide +kernel) rfl (hg hi c' s' s3 h1 h2 h3 H locs lr' hP hD hS hl2)
  have hcase := l_cases F0' hZ hfl hb98 hL hi hcs h hB g3
  refine lv_aload_n (k := 0) hx hb (by decide +kernel) rfl (lR_get hlr (i := 0) (v := .inr 98) rfl (by simp)) ?_
  refine lv_iload hx hb (by decide +kernel) (lR_get hlr (i := 4) (v := .inl (nI i)) rfl (by simp)) ?_
  show W _ _ _ _ _ _ _ _ _ _ _ _ _ _ _ (F0 mid 35 lr [.int (nI i), .ref (ad 98)])
  rw [hb98]
  refine va_sld hx hb hX hbl (Nat.not_le.mpr hbl) hS (vp_in_nI (by omega) (by omega)) (by decide +kernel) ?_
  refine lv_bipush (n := 63) (v := nI 63) hx hb (by decide +kernel) rfl ?_
  refine lv_iand hx hb (by decide +kernel) ?_
  obtain ⟨k, hk, hz⟩ := and63 (xs (nI i).toNatClampNeg)
  rw [hz]
  have hlt := lTg_at k hk
  have hki : (nI k).toInt = (k : Int) := toI (by omega)
  by_cases h48 : k < 48
  · have ho := hlt.1 h48
    refine lv_tableIn (dflt := 1455) (lo := 0) (hi := 47) (offs := #[205, 230, 255, 268, 281, 306, 331, 399, 436, 485, 546, 583, 608, 633, 682, 707, 720, 745, 770, 783, 820, 845, 870, 883, 896, 921, 934, 947, 972, 997, 1010, 1035, 1048, 1085, 1110, 1123, 1160, 1185, 1210, 1223, 1236, 1285, 1298, 1311, 1324, 1349, 1374, 1399]) (len := 205) (tgt := lTg.getD k 1494) hx hb (by decide +kernel) (by rw [hki]; omega) (by rw [hki]; omega) ho (by omega) ?_
    exact hcase k hk H locs lr hP hD hS hlr
  · refine lv_tableOut (dflt := 1455) (lo := 0) (hi := 47) (offs := #[205, 230, 255, 268, 281, 306, 331, 399, 436, 485, 546, 583, 608, 633, 682, 707, 720, 745, 770, 783, 820, 845, 870, 883, 896, 921, 934, 947, 972, 997, 1010, 1035, 1048, 1085, 1110, 1123, 1160, 1185, 1210, 1223, 1236, 1285, 1298, 1311, 1324, 1349, 1374, 1399]) (len := 205) (tgt := lTg.getD k 1494) hx hb (by decide +kernel) (by rw [hki]; omega) (by rw [hlt.2 (by omega)]; rfl) ?_
    exact hcase k hk H locs lr hP hD hS hlr
/-- the loop, to its end -/
theorem l_loop (F : LF p l s mid args meth c ca D b L xs) (hZ : mZ (fun q : Nat => s.heap.size ≤ q) s) (hfl : l.stackTraces = false) (hb98 : ad 98 = b) (hL : L ≤ 2560)
    (hend : ∀ c' s' s3 i', c' ≤ 601024 → s' ≤ 7293034 → lW p l e s mid args below meth c c' s' Q ad ca D 1500 (lL0 i') [] s3) :
    ∀ (n i B cells slots : Nat) (s1 : mS), L < i + 5 * n + 5 → i + 5 * n < 2147483000 → cells + n < 601024 → slots + 6 * n + 6 ≤ 7293034 → B + 3600 * n + 7300 < 2147483000 → LI B s1 → lW p l e s mid args below meth c cells slots Q ad ca D 23 (lL0 i) [] s1 := by
  have r1 : room_1.cells = 601024 := rfl
  have r2 : room_1.slots = 7293034 := rfl
  intro n
  induction n with
  | zero =>
    intro i B cells slots s1 h1 h2 h3 h4 h5 h
    refine l_round F hZ hfl hb98 hL (by omega) ⟨by omega, by omega⟩ h (by omega) (hend _ _ _ _ (by omega) (by omega)) (fun hi => ?_)
    omega
  | succ n ih =>
    intro i B cells slots s1 h1 h2 h3 h4 h5 h
    refine l_round F hZ hfl hb98 hL (by omega) ⟨by omega, by omega⟩ h (by omega) (hend _ _ _ _ (by omega) (by omega)) (fun hi c' s' s3 hc hs h9 => ?_)
    exact ih (i + 5) (B + 3600) c' s' s3 (by omega) (by omega) (by omega) (by omega) (by omega) h9
end LLP
