theorem lookup_mem {α : Type} {k : Nat} {v : α} : ∀ {l : List (Nat × α)}, l.lookup k = some v → (k, v) ∈ l := by
  intro l
  induction l with
  | nil => intro h; cases h
  | cons a l ih =>
    obtain ⟨k2, v2⟩ := a
    intro h
    rw [List.lookup_cons] at h
    split at h
    · next hb =>
      cases h
      rw [eq_of_beq hb]
      exact List.mem_cons_self
    · exact List.mem_cons_of_mem _ (ih h)
theorem getD_lt {α : Type} {l : List (List α)} {o : Nat} {x : α} (h : x ∈ l.getD o []) : o < l.length := by
  rcases Nat.lt_or_ge o l.length with z | z
  · exact z
  · rw [List.getD_eq_getElem?_getD, List.getElem?_eq_none z] at h
    simp at h
theorem mTG_tbl : ∀ w ∈ mTG, w ∈ lw_tbl := by
  intro w hw
  unfold mTG at hw
  simp only [List.mem_append] at hw
  rcases hw with h | h | h | h | h | h | h | h | h | h
  · rw [inC] at h
    obtain ⟨q, -, hq⟩ := List.mem_filterMap.mp h
    exact mAt_in hq
  · exact mAts_in inI w h
  · exact mAts_in inS w h
  · exact mAts_in inV w h
  · exact mAts_in inE w h
  · exact mAts_in inL w h
  · exact mAts_in inF w h
  · exact mAts_in inU w h
  · exact mAts_in inK w h
  · exact mAts_in inA w h
theorem mL_at {m : Nat} {M : mM} (h : mMt m = some M) : ∃ e ∈ mLs, e.1 = M ∧ mNm m = e.2.1 ∧ mTy m = e.2.2 := by
  unfold mMt at h
  cases hm : mLs[m]? with
  | none => rw [hm] at h; cases h
  | some e =>
    rw [hm] at h
    refine ⟨e, List.mem_of_getElem? hm, Option.some.inj h, ?_, ?_⟩
    · unfold mNm; rw [hm]; rfl
    · unfold mTy; rw [hm]; rfl
def isObj : Option FieldType → Bool
  | some (.object _) => true
  | _ => false
def okM (e : mM × MethodName × Option FieldType) : Bool :=
  plainName e.2.1.cls && decide (mCN e.1.2.1 = e.2.1.cls) && decide (e.1.2.1 < 16) && decide (e.2.1.cls ≠ "java/lang/invoke/MethodHandle") && decide (e.2.1.cls ≠ "java/lang/invoke/VarHandle") &&
  decide ((parseMethodDescriptor e.2.1.desc).map (fun d => d.parameters.length) = some (e.1.2.2.2.2.1 - (if e.1.2.2.2.2.2.1 = true then 0 else 1))) && decide (e.1.2.2.2.2.1 ≤ e.1.2.2.1) && decide (e.1.2.2.1 ≤ 21) &&
  (match e.1.2.2.2.1 with
  | 0 => decide (e.2.2 = none)
  | 1 => decide (e.2.2 = some .int)
  | 2 => decide (e.2.2 = some .boolean)
  | _ => isObj e.2.2)
theorem okM_all : mLs.all okM = true := by decide +kernel
def okO (q : Nat) : Bool := decide ((mSh q).1 < 24 → 1 ≤ q ∧ q ≤ 97) &&
  (decide (20 ≤ (mSh q).1) || (decide ((mSh q).1 < 13) && decide ((mSh q).2 = (mCd (mSh q).1).2.2) && (List.range (mSh q).2).all (fun j =>
    decide (mRf q j ≠ 0) || (decide (((mCd (mSh q).1).2.1 j).2.2.2 = false) &&
      (if mMr q j = true then decide (((mCd (mSh q).1).2.1 j).2.2.1 = "[B") else if mBf (mSh q).1 j = true then decide (((mCd (mSh q).1).2.1 j).2.2.1 = "Z") else decide (((mCd (mSh q).1).2.1 j).2.2.1 = "I"))))))
theorem okO_all : (List.range 98).all okO = true := by decide +kernel
theorem mCls_at {ci : Nat} (h : ci < 13) : mCls[ci]? = some (mCd ci) := by
  have hl : mCls.length = 13 := rfl
  unfold mCd
  rw [List.getD_eq_getElem?_getD, List.getElem?_eq_getElem (by omega)]
  rfl
theorem mSh_out {q : Nat} (h : 98 ≤ q) : mSh q = (99, 0) := by
  have hl : mSHl.length = 98 := by decide +kernel
  unfold mSh
  rw [List.getD_eq_getElem?_getD, List.getElem?_eq_none (by omega)]
  rfl
theorem mTG_u {ci : Nat} (h : ci < 13) : ∀ w ∈ u_ws (mCd ci).1 (mCd ci).2.1 (mCd ci).2.2, w ∈ mTG := by
  intro w hw
  have h2 : w ∈ tgU := List.mem_flatMap.mpr ⟨mCd ci, List.mem_of_getElem? (mCls_at h), hw⟩
  unfold mTG
  simp only [List.mem_append]
  exact Or.inr (Or.inr (Or.inr (Or.inr (Or.inr (Or.inr (Or.inr (Or.inl h2)))))))
def okC (ci : Nat) : Bool := decide (mCN ci = (mCd ci).1) && (List.range (mCd ci).2.2).all (fun a => (List.range (mCd ci).2.2).all (fun b => decide (a = b) || decide (((mCd ci).2.1 a).2.1 ≠ ((mCd ci).2.1 b).2.1)))
theorem okC_all : (List.range 13).all okC = true := by decide +kernel
def mFt (ci : Nat) : Nat → FieldType := match ci with
  | 0 => mFt0
  | 1 => mFt1
  | 2 => mFt2
  | 3 => mFt3
  | 4 => mFt4
  | 5 => mFt5
  | 6 => mFt6
  | 7 => mFt7
  | 8 => mFt8
  | 9 => mFt9
  | 10 => mFt10
  | 11 => mFt11
  | _ => mFt12
theorem okT_all : (List.range 13).all (fun ci => (List.range (mCd ci).2.2).all (fun k => decide (parseFieldDescriptor ((mCd ci).2.1 k).2.2.1 = some (mFt ci k)))) = true := by decide +kernel
theorem okF_all : (List.range 17).all (fun o => (mFRl.getD o []).all (fun e => decide (e.2.1 < 13))) = true := by decide +kernel
theorem okP_all : mFRl.length = 17 ∧ mCPl.length = 17 ∧ mCXl.length = 17 ∧ mCKl.length = 17 ∧ mACl.length = 17 := by decide +kernel
theorem mok : mOK mTab 97 mCls mTG mNX mNm mTy mCN := by
  have all98 : ∀ q, q < 98 → okO q = true := fun q h => List.all_eq_true.mp okO_all q (List.mem_range.mpr h)
  have hC : ∀ ci, ci < 13 → okC ci = true := fun q h => List.all_eq_true.mp okC_all q (List.mem_range.mpr h)
  obtain ⟨l1, l2, l3, l4, l5⟩ := okP_all
  refine ⟨?_, ?_, ?_, ?_, ?_, ?_, ?_, ?_, ?_⟩
  · intro q h
    have h : (mSh q).1 < 24 := h
    rcases Nat.lt_or_ge q 98 with z | z
    · have := all98 q z
      unfold okO at this
      simp only [Bool.and_eq_true, decide_eq_true_eq] at this
      exact this.1 h
    · rw [mSh_out z] at h; simp at h
  · intro q h
    have h : (mSh q).1 < 20 := h
    rcases Nat.lt_or_ge q 98 with z | z
    · have := all98 q z
      unfold okO at this
      simp only [Bool.and_eq_true, Bool.or_eq_true, decide_eq_true_eq] at this
      obtain ⟨-, h2 | ⟨⟨h2, h3⟩, h4⟩⟩ := this
      · omega
      · refine ⟨mCd (mSh q).1, mCls_at h2, h3, fun j hj hz => ?_⟩
        have h5 := List.all_eq_true.mp h4 j (List.mem_range.mpr hj)
        simp only [Bool.or_eq_true, Bool.and_eq_true, decide_eq_true_eq] at h5
        rcases h5 with h5 | ⟨h5, h6⟩
        · exact absurd hz h5
        · refine ⟨h5, fun hm => ?_, fun hm hb => ?_, fun hm hb => ?_⟩
          · have hm : mMr q j = true := hm
            rw [if_pos hm] at h6; exact of_decide_eq_true h6
          · have hm : mMr q j = false := hm
            have hb : mBf (mSh q).1 j = false := hb
            rw [if_neg (by rw [hm]; decide), if_neg (by rw [hb]; decide)] at h6; exact of_decide_eq_true h6
          · have hm : mMr q j = false := hm
            have hb : mBf (mSh q).1 j = true := hb
            rw [if_neg (by rw [hm]; decide), if_pos hb] at h6; exact of_decide_eq_true h6
    · rw [mSh_out z] at h; simp at h
  · intro ci r h
    have hci : ci < 13 := (List.getElem?_eq_some_iff.mp h).1
    obtain rfl := Option.some.inj ((mCls_at hci).symm.trans h)
    have h2 := hC ci hci
    unfold okC at h2
    simp only [Bool.and_eq_true, decide_eq_true_eq] at h2
    refine ⟨mTG_u hci, ⟨mFt ci, fun k hk => ?_⟩, fun a ha b hb hab => ?_, h2.1⟩
    · have h3 := List.all_eq_true.mp (List.all_eq_true.mp okT_all ci (List.mem_range.mpr hci)) k (List.mem_range.mpr hk)
      exact of_decide_eq_true h3
    · have h3 := List.all_eq_true.mp (List.all_eq_true.mp h2.2 a (List.mem_range.mpr ha)) b (List.mem_range.mpr hb)
      simp only [Bool.or_eq_true, decide_eq_true_eq] at h3
      exact h3.resolve_left hab
  · intro o k ci j h
    have hm := lookup_mem (l := mFRl.getD o []) h
    have ho := getD_lt hm
    have h13 : ci < 13 := of_decide_eq_true (List.all_eq_true.mp (List.all_eq_true.mp okF_all o (List.mem_range.mpr (by omega))) _ hm)
    refine ⟨by omega, mCd ci, mCls_at h13, ?_⟩
    have h2 : Cond.fieldLink (mCN o) k ((mCd ci).2.1 j).1 ((mCd ci).2.1 j).2.1 ((mCd ci).2.1 j).2.2.1 ∈ tgF := List.mem_flatMap.mpr ⟨o, List.mem_range.mpr (by omega), List.mem_map.mpr ⟨_, hm, rfl⟩⟩
    unfold mTG
    simp only [List.mem_append]
    exact Or.inr (Or.inr (Or.inr (Or.inr (Or.inr (Or.inr (Or.inl h2))))))
  · intro m M h
    obtain ⟨e, he, rfl, hn, ht⟩ := mL_at h
    have hk := List.all_eq_true.mp okM_all e he
    unfold okM at hk
    simp only [Bool.and_eq_true, decide_eq_true_eq] at hk
    obtain ⟨⟨⟨⟨⟨⟨⟨⟨k1, k2⟩, k3⟩, k4⟩, k5⟩, k6⟩, k7⟩, k8⟩, k9⟩ := hk
    rw [hn, ht]
    refine ⟨k1, k2, ?_, ?_, ⟨k4, k5⟩, k6, k7, k8, fun z => ?_, fun z => ?_, fun z => ?_, fun z => ?_⟩
    · have h2 : Cond.code e.2.1 e.1.1 e.1.2.2.1 e.2.2 ∈ tgC := List.mem_map.mpr ⟨e, he, rfl⟩
      unfold mTG
      simp only [List.mem_append]
      exact Or.inl h2
    · have h2 : Cond.initialized e.2.1.cls ∈ tgI := by
        rw [← k2]
        unfold tgI mCN
        refine List.mem_map.mpr ⟨mCNl.getD e.1.2.1 "", ?_, rfl⟩
        have hl : (mCNl.take 16).length = 16 := by decide +kernel
        have hl2 : mCNl.length = 17 := by decide +kernel
        have e1 : mCNl.getD e.1.2.1 "" = (mCNl.take 16)[e.1.2.1]'(by omega) := by
          rw [List.getD_eq_getElem?_getD, List.getElem_take, List.getElem?_eq_getElem (by omega)]
          rfl
        rw [e1]
        exact List.getElem_mem _
      unfold mTG
      simp only [List.mem_append]
      exact Or.inr (Or.inl h2)
    · rw [z] at k9; exact of_decide_eq_true k9
    · rw [z] at k9; exact of_decide_eq_true k9
    · rw [z] at k9; exact of_decide_eq_true k9
    · match hq : e.1.2.2.2.1, z, k9 with
      | k + 3, _, k9 =>
        simp only at k9
        match hx : e.2.2, k9 with
        | some (.object n), _ => exact ⟨n, rfl⟩
  · intro o k m' M' hc h
    obtain ⟨e, he, rfl, hn, ht⟩ := mL_at h
    refine ⟨?_, fun hs => ?_, fun hs => ?_⟩
    · have hc : mCr o k = some m' := hc
      unfold mCr at hc
      split at hc
      · next m hm =>
        cases hc
        have hm2 := lookup_mem hm
        have ho := getD_lt hm2
        have h2 : Cond.methodLink (mCN o) k (mNm m') ∈ tgL := List.mem_flatMap.mpr ⟨o, List.mem_range.mpr (by omega), List.mem_map.mpr ⟨_, hm2, rfl⟩⟩
        left
        unfold mTG
        simp only [List.mem_append]
        exact Or.inr (Or.inr (Or.inr (Or.inr (Or.inr (Or.inl h2)))))
      · cases hm : (mCXl.getD o []).lookup k with
        | none => rw [hm] at hc; cases hc
        | some x =>
          rw [hm] at hc
          have hx : x.1 = m' := Option.some.inj hc
          have hm2 := lookup_mem hm
          have ho := getD_lt hm2
          right
          exact ⟨x.2, List.mem_flatMap.mpr ⟨o, List.mem_range.mpr (by omega), List.mem_map.mpr ⟨_, hm2, by simp only [hx]⟩⟩⟩
    · rw [hn]
      have h2 : Cond.static e.2.1 ∈ tgS := List.mem_map.mpr ⟨e, List.mem_filter.mpr ⟨he, hs⟩, rfl⟩
      unfold mTG
      simp only [List.mem_append]
      exact Or.inr (Or.inr (Or.inl h2))
    · rw [hn]
      have h1 : e ∈ mS0 := List.mem_filter.mpr ⟨he, by simp only [hs, Bool.not_false]⟩
      have h2 : Cond.instanceMethod e.2.1 ∈ tgV := List.mem_map.mpr ⟨e, h1, rfl⟩
      have h3 : Cond.selects e.2.1.cls e.2.1 e.2.1 ∈ tgE := List.mem_map.mpr ⟨e, h1, rfl⟩
      unfold mTG
      simp only [List.mem_append]
      exact ⟨Or.inr (Or.inr (Or.inr (Or.inl h2))), Or.inr (Or.inr (Or.inr (Or.inr (Or.inl h3))))⟩
  · intro o k v h
    have hm := lookup_mem (l := mCKl.getD o []) h
    have ho := getD_lt hm
    have h2 : Cond.constant (mCN o) k v ∈ tgK := List.mem_flatMap.mpr ⟨o, List.mem_range.mpr (by omega), List.mem_map.mpr ⟨_, hm, rfl⟩⟩
    unfold mTG
    simp only [List.mem_append]
    exact Or.inr (Or.inr (Or.inr (Or.inr (Or.inr (Or.inr (Or.inr (Or.inr (Or.inl h2))))))))
  · intro o k
    have key : ∀ w ∈ tgA, w ∈ mTG := by
      intro w hw
      unfold mTG
      simp only [List.mem_append]
      exact Or.inr (Or.inr (Or.inr (Or.inr (Or.inr (Or.inr (Or.inr (Or.inr (Or.inr hw))))))))
    have lnk : ∀ v, v ≠ 0 → mAc o k = v → Cond.methodLink (mCN o) k (mSp v) ∈ mTG := by
      intro v hv h
      unfold mAc at h
      split at h
      · next x hx =>
        subst h
        have hm := lookup_mem hx
        have ho := getD_lt hm
        exact key _ (List.mem_append_right _ (List.mem_flatMap.mpr ⟨o, List.mem_range.mpr (by omega), List.mem_map.mpr ⟨_, hm, rfl⟩⟩))
      · exact absurd h.symm hv
    refine ⟨fun h => ⟨lnk 1 (by decide) h, key _ (List.mem_append_left _ ?_), key _ (List.mem_append_left _ ?_), key _ (List.mem_append_left _ ?_)⟩, fun h => ⟨lnk 2 (by decide) h, key _ (List.mem_append_left _ ?_), key _ (List.mem_append_left _ ?_), key _ (List.mem_append_left _ ?_)⟩, fun h => ⟨lnk 3 (by decide) h, key _ (List.mem_append_left _ ?_), key _ (List.mem_append_left _ ?_), key _ (List.mem_append_left _ ?_)⟩, fun h => ⟨lnk 4 (by decide) h, key _ (List.mem_append_left _ ?_), key _ (List.mem_append_left _ ?_), key _ (List.mem_append_left _ ?_)⟩⟩ <;> simp
  · intro w hw
    unfold mTG at hw
    simp only [List.mem_append] at hw
    rcases hw with h | h | h | h | h | h | h | h | h | h
    · obtain ⟨e, -, rfl⟩ := List.mem_map.mp h; rfl
    · obtain ⟨e, -, rfl⟩ := List.mem_map.mp h; rfl
    · obtain ⟨e, -, rfl⟩ := List.mem_map.mp h; rfl
    · obtain ⟨e, -, rfl⟩ := List.mem_map.mp h; rfl
    · obtain ⟨e, -, rfl⟩ := List.mem_map.mp h; rfl
    · obtain ⟨o, -, h⟩ := List.mem_flatMap.mp h; obtain ⟨e, -, rfl⟩ := List.mem_map.mp h; rfl
    · obtain ⟨o, -, h⟩ := List.mem_flatMap.mp h; obtain ⟨e, -, rfl⟩ := List.mem_map.mp h; rfl
    · obtain ⟨r, -, h⟩ := List.mem_flatMap.mp h
      obtain ⟨k, -, rfl⟩ := List.mem_map.mp h
      unfold u_lay
      split <;> rfl
    · obtain ⟨o, -, h⟩ := List.mem_flatMap.mp h; obtain ⟨e, -, rfl⟩ := List.mem_map.mp h; rfl
    · rcases List.mem_append.mp h with h | h
      · simp only [List.mem_cons, List.not_mem_nil, or_false] at h
        rcases h with rfl | rfl | rfl | rfl | rfl | rfl | rfl | rfl | rfl | rfl <;> rfl
      · obtain ⟨o, -, h⟩ := List.mem_flatMap.mp h; obtain ⟨e, -, rfl⟩ := List.mem_map.mp h; rfl
/-- every method's contract at every depth -/
theorem ctr (l : Launch) (d : Nat) : Ctr l mTab 97 mCls mTG mNX mNm mTy d := ctr_all mok d
noncomputable def ev (d m pc : Nat) (ls st : List mV) (s : mS) : Option mR := evT mTab d m pc ls st s
