/-! THE SMALL MACHINE IS THE MACHINE: what a run of it answers, the bytecode answers, on a heap that holds the places. -/
def rl (ad : Nat → Nat) : mV → Value
  | .inl x => .int x
  | .inr k => .ref (ad k)
theorem rl_cat (ad : Nat → Nat) (v : mV) : (rl ad v).category = 1 := by cases v <;> rfl
def fvl (T : mT) (ad : Nat → Nat) (s : mS) (k j : Nat) : Value := match T.rf k j with
  | 0 => if T.mr k j = true then (if ix (s k j) = 0 then .null else .ref (ad (ix (s k j)))) else .int (s k j)
  | t + 1 => .ref (ad (t + 1))
def entO (T : mT) (ad : Nat → Nat) (ca : Nat → ClassId) (s : mS) (k : Nat) : va_E :=
  if (T.sh k).1 < 20 then .inr ((T.sh k).1, (List.range (T.sh k).2).map (fvl T ad s k))
  else if (T.sh k).1 = 24 then .inl (ca 4, (T.sh k).2, .inr (.inl fun j => (s k j).toInt64))
  else .inl (ca ((T.sh k).1 - 20), (T.sh k).2, .inl (s k))
def wsO (T : mT) (ad : Nat → Nat) (ca : Nat → ClassId) (N : Nat) (s : mS) : va_W := (List.range N).map (fun q => (ad (q + 1), entO T ad ca s (q + 1)))
def tysO (ca : Nat → ClassId) : List (ClassId × FieldType) := [(ca 0, .int), (ca 1, .char), (ca 2, .byte), (ca 3, .boolean), (ca 4, .long)]
theorem wsO_at {T : mT} {ad : Nat → Nat} {ca : Nat → ClassId} {N : Nat} {s : mS} {k : Nat} (h : 1 ≤ k ∧ k ≤ N) : (wsO T ad ca N s)[k - 1]? = some (ad k, entO T ad ca s k) := by
  obtain ⟨h1, h2⟩ := h
  have e : k - 1 + 1 = k := by omega
  unfold wsO
  rw [List.getElem?_map, List.getElem?_range (by omega)]
  simp only [Option.map_some, e]
theorem entO_ne {T : mT} {ad : Nat → Nat} {ca : Nat → ClassId} {s : mS} {a k : Nat} {f : Nat → Int32} (h : k ≠ a) : entO T ad ca (setA s a f) k = entO T ad ca s k := by
  have e : setA s a f k = s k := if_neg h
  have e2 : fvl T ad (setA s a f) k = fvl T ad s k := by funext j; unfold fvl; rw [e]
  unfold entO
  rw [e, e2]
theorem wsO_set {T : mT} {ad : Nat → Nat} {ca : Nat → ClassId} {N : Nat} {s : mS} {k : Nat} {f : Nat → Int32} {x : va_E} (h : 1 ≤ k ∧ k ≤ N) (he : x = entO T ad ca (setA s k f) k) : (wsO T ad ca N s).set (k - 1) (ad k, x) = wsO T ad ca N (setA s k f) := by
  subst he
  obtain ⟨h1, h2⟩ := h
  apply List.ext_getElem?
  intro i
  unfold wsO
  rw [List.getElem?_set]
  by_cases hi : k - 1 = i
  · subst hi
    have e : k - 1 + 1 = k := by omega
    rw [if_pos rfl, if_pos (by simp; omega), List.getElem?_map, List.getElem?_range (by omega)]
    simp only [Option.map_some, e]
  · rw [if_neg hi, List.getElem?_map, List.getElem?_map]
    by_cases hN : i < N
    · rw [List.getElem?_range hN]
      simp only [Option.map_some]
      rw [entO_ne (by omega)]
    · rw [List.getElem?_eq_none (by simp; omega)]
      rfl
theorem wsO_A {T : mT} {ad : Nat → Nat} {ca : Nat → ClassId} {N : Nat} {s s' : mS} {sz : Nat} : va_A (wsO T ad ca N s) sz = va_A (wsO T ad ca N s') sz := by
  funext q
  have key : ∀ (s s' : mS), (∃ (k : Nat) (e : va_E), (wsO T ad ca N s)[k]? = some (q, e)) → ∃ (k : Nat) (e : va_E), (wsO T ad ca N s')[k]? = some (q, e) := by
    rintro s s' ⟨k, e, h⟩
    unfold wsO at h ⊢
    rw [List.getElem?_map] at h
    cases hr : (List.range N)[k]? with
    | none => rw [hr] at h; cases h
    | some j =>
      rw [hr] at h
      refine ⟨k, entO T ad ca s' (j + 1), ?_⟩
      rw [List.getElem?_map, hr]
      have := Option.some.inj h
      simp only [Prod.mk.injEq] at this
      simp [this.1]
  unfold va_A
  apply propext
  constructor
  · rintro (h | h)
    · exact Or.inl (key _ _ h)
    · exact Or.inr h
  · rintro (h | h)
    · exact Or.inl (key _ _ h)
    · exact Or.inr h
/-- locals -/
def lL (ad : Nat → Nat) (ls : List mV) : List (Nat × Value) := ls.zipIdx.filterMap (fun q => if q.1 = .inr 0 then none else some (q.2, rl ad q.1))
theorem lL_mem {ad : Nat → Nat} {ls : List mV} {q : Nat × Value} : q ∈ lL ad ls ↔ ∃ v, ls[q.1]? = some v ∧ v ≠ .inr 0 ∧ q.2 = rl ad v := by
  unfold lL
  rw [List.mem_filterMap]
  constructor
  · rintro ⟨⟨v, i⟩, h1, h2⟩
    rw [List.mk_mem_zipIdx_iff_getElem?] at h1
    simp only at h2
    split at h2
    · cases h2
    · next hv => cases h2; exact ⟨v, h1, hv, rfl⟩
  · rintro ⟨v, h1, h2, h3⟩
    refine ⟨(v, q.1), List.mk_mem_zipIdx_iff_getElem?.mpr h1, ?_⟩
    simp only [if_neg h2, ← h3]
def lR (ad : Nat → Nat) (nL : Nat) (ls : List mV) (lr : Array Slot) : Prop := ls.length = nL ∧ lv_has lr nL (lL ad ls)
theorem lR_get {ad : Nat → Nat} {nL : Nat} {ls : List mV} {lr : Array Slot} {i : Nat} {v : mV} (h : lR ad nL ls lr) (hi : ls[i]? = some v) (hv : v ≠ .inr 0) : lr[i]? = some (.val (rl ad v)) :=
  h.2.2.2 (i, rl ad v) (lL_mem.mpr ⟨v, hi, hv, rfl⟩)
theorem lR_set {ad : Nat → Nat} {nL : Nat} {ls : List mV} {lr lr' : Array Slot} {i : Nat} {v : mV} (h : lR ad nL ls lr) (h2 : lv_has lr' nL ((i, rl ad v) :: (lL ad ls).filter (fun q => !(q.1 == i) && !(q.1 + 1 == i && q.2.category == 2)))) : lR ad nL (ls.set i v) lr' := by
  refine ⟨by rw [List.length_set]; exact h.1, h2.1, h2.2.1, fun q hq => h2.2.2 q ?_⟩
  obtain ⟨w, e1, e2, e3⟩ := lL_mem.mp hq
  rw [List.getElem?_set] at e1
  by_cases hi : i = q.1
  · rw [if_pos hi] at e1
    split at e1
    · have ew : v = w := Option.some.inj e1
      have eq : q = (i, rl ad v) := Prod.ext hi.symm (by rw [ew]; exact e3)
      rw [eq]
      exact List.mem_cons_self
    · cases e1
  · rw [if_neg hi] at e1
    refine List.mem_cons_of_mem _ (List.mem_filter.mpr ⟨lL_mem.mpr ⟨w, e1, e2, e3⟩, ?_⟩)
    rw [e3]
    have hc : ((rl ad w).category == 2) = false := by rw [rl_cat]; rfl
    rw [hc]
    simp only [Bool.and_false, Bool.not_false, Bool.and_true, Bool.not_eq_true', beq_eq_false_iff_ne, ne_eq]
    exact fun z => hi z.symm
theorem lR_no {ad : Nat → Nat} {nL : Nat} {ls : List mV} {lr : Array Slot} {i : Nat} (h : lR ad nL ls lr) : lR ad nL (ls.set i (.inr 0)) lr := by
  refine ⟨by rw [List.length_set]; exact h.1, h.2.1, h.2.2.1, fun q hq => h.2.2.2 q ?_⟩
  obtain ⟨w, e1, e2, e3⟩ := lL_mem.mp hq
  rw [List.getElem?_set] at e1
  by_cases hi : i = q.1
  · rw [if_pos hi] at e1
    split at e1
    · cases e1; exact absurd rfl e2
    · cases e1
  · rw [if_neg hi] at e1
    exact lL_mem.mpr ⟨w, e1, e2, e3⟩
theorem lR_nos {ad : Nat → Nat} {nL : Nat} {lr : Array Slot} (ds : List Nat) : ∀ {ls : List mV}, lR ad nL ls lr → lR ad nL (ds.foldl (fun l i => l.set i (.inr 0)) ls) lr := by
  induction ds with
  | nil => intro ls h; exact h
  | cons i ds ih => intro ls h; exact ih (lR_no h)
theorem lR_kil {ad : Nat → Nat} {nL : Nat} {ls : List mV} {lr : Array Slot} {K : List (Nat × List Nat)} {pc : Nat} (h : lR ad nL ls lr) : lR ad nL (kil K pc ls) lr := by
  unfold kil
  split
  · exact h
  · exact lR_nos _ h
theorem lR_sl (ad : Nat → Nat) (as : List mV) : lg_sl (as.map (rl ad)) = as.map (fun v => Slot.val (rl ad v)) := by
  induction as with
  | nil => rfl
  | cons a as ih =>
    unfold lg_sl at ih ⊢
    rw [List.map_cons, List.flatMap_cons, ih, List.map_cons, if_neg (by rw [rl_cat]; decide)]
    rfl
theorem lR_args (ad : Nat → Nat) (as : List mV) : ∀ (i j : Nat) (v : mV), as[j]? = some v → (i + j, rl ad v) ∈ lv_args i (as.map (rl ad)) := by
  induction as with
  | nil => intro i j v h; simp at h
  | cons a as ih =>
    intro i j v h
    rw [List.map_cons, lv_args, if_neg (by rw [rl_cat]; decide)]
    cases j with
    | zero =>
      simp only [List.getElem?_cons_zero, Option.some.injEq] at h
      rw [h]
      exact List.mem_cons_self
    | succ j =>
      have h2 := ih (i + 1) j v (by simpa using h)
      have e : i + 1 + j = i + (j + 1) := by omega
      rw [e] at h2
      exact List.mem_cons_of_mem _ h2
theorem lR_entry {ad : Nat → Nat} {as : List mV} {n : Nat} (h : as.length ≤ n) : lR ad n (pad n as) ((lg_sl (as.map (rl ad)) ++ List.replicate (n - (lg_sl (as.map (rl ad))).length) Slot.unset).toArray) := by
  have hle : (lg_sl (as.map (rl ad))).length ≤ n := by rw [lR_sl, List.length_map]; exact h
  have k := lv_entry (as.map (rl ad)) hle
  refine ⟨by unfold pad; simp; omega, k.1, k.2.1, fun q hq => k.2.2 q ?_⟩
  obtain ⟨v, e1, e2, e3⟩ := lL_mem.mp hq
  unfold pad at e1
  rw [List.getElem?_append] at e1
  split at e1
  · have h2 := lR_args ad as 0 q.1 v e1
    rw [Nat.zero_add, ← e3] at h2
    exact h2
  · rw [List.getElem?_replicate] at e1
    split at e1
    · cases e1; exact absurd rfl e2
    · cases e1
def Wd (nm : Nat → MethodName) (rty : Nat → Option FieldType) (TG : List Cond) (m : Nat) (M : mM) : List Cond := Cond.code (nm m) M.1 M.2.2.1 (rty m) :: TG
def rmD (d : Nat) : Room := { frames := d + 1, cells := 0, slots := 0, locals := 40 * (d + 1) }
def rvl (ad : Nat → Nat) (k : Nat) (v : Int32) : Option Value := match k with
  | 0 => none
  | 1 => some (.int v)
  | 2 => some (.int v)
  | _ => some (.ref (ad (ix v)))
abbrev mX : Type := List (String × Nat × MethodName × String)
def nxw (q : String × Nat × MethodName × String) : Cond := .methodLinkNest q.1 q.2.1 q.2.2.1 q.2.2.2
/-- what the tables must be -/
def mOK (T : mT) (N : Nat) (cls : List vw_C) (TG : List Cond) (NX : mX) (nm : Nat → MethodName) (rty : Nat → Option FieldType) (CN : Nat → String) : Prop :=
  (∀ q, (T.sh q).1 < 24 → 1 ≤ q ∧ q ≤ N) ∧
  (∀ q, (T.sh q).1 < 20 → ∃ r, cls[(T.sh q).1]? = some r ∧ (T.sh q).2 = r.2.2 ∧ ∀ j, j < (T.sh q).2 → (T.rf q j = 0 → (r.2.1 j).2.2.2 = false ∧ (T.mr q j = true → (r.2.1 j).2.2.1 = "[B") ∧ (T.mr q j = false → T.bf (T.sh q).1 j = false → (r.2.1 j).2.2.1 = "I") ∧ (T.mr q j = false → T.bf (T.sh q).1 j = true → (r.2.1 j).2.2.1 = "Z"))) ∧
  (∀ ci r, cls[ci]? = some r → (∀ w ∈ u_ws r.1 r.2.1 r.2.2, w ∈ TG) ∧ (∃ ty0 : Nat → FieldType, ∀ k, k < r.2.2 → parseFieldDescriptor (r.2.1 k).2.2.1 = some (ty0 k)) ∧ (∀ a, a < r.2.2 → ∀ b, b < r.2.2 → a ≠ b → (r.2.1 a).2.1 ≠ (r.2.1 b).2.1) ∧ CN ci = r.1) ∧
  (∀ o k ci j, T.fr o k = some (ci, j) → ci < 20 ∧ ∃ r, cls[ci]? = some r ∧ Cond.fieldLink (CN o) k (r.2.1 j).1 (r.2.1 j).2.1 (r.2.1 j).2.2.1 ∈ TG) ∧
  (∀ m M, T.mt m = some M → plainName (nm m).cls = true ∧ CN M.2.1 = (nm m).cls ∧ Cond.code (nm m) M.1 M.2.2.1 (rty m) ∈ TG ∧ Cond.initialized (nm m).cls ∈ TG ∧ ((nm m).cls ≠ "java/lang/invoke/MethodHandle" ∧ (nm m).cls ≠ "java/lang/invoke/VarHandle") ∧
    (parseMethodDescriptor (nm m).desc).map (fun d => d.parameters.length) = some (M.2.2.2.2.1 - (if M.2.2.2.2.2.1 = true then 0 else 1)) ∧ M.2.2.2.2.1 ≤ M.2.2.1 ∧ M.2.2.1 ≤ 21 ∧
    (M.2.2.2.1 = 0 → rty m = none) ∧ (M.2.2.2.1 = 1 → rty m = some .int) ∧ (M.2.2.2.1 = 2 → rty m = some .boolean) ∧ (3 ≤ M.2.2.2.1 → ∃ n, rty m = some (.object n))) ∧
  (∀ o k m' M', T.cr o k = some m' → T.mt m' = some M' → (Cond.methodLink (CN o) k (nm m') ∈ TG ∨ ∃ host, (CN o, k, nm m', host) ∈ NX) ∧ (M'.2.2.2.2.2.1 = true → Cond.static (nm m') ∈ TG) ∧ (M'.2.2.2.2.2.1 = false → Cond.instanceMethod (nm m') ∈ TG ∧ Cond.selects (nm m').cls (nm m') (nm m') ∈ TG)) ∧
  (∀ o k v, T.ck o k = some v → Cond.constant (CN o) k v ∈ TG) ∧
  (∀ o k, (T.ac o k = 1 → Cond.methodLink (CN o) k arraycopyName ∈ TG ∧ Cond.native arraycopyName ∈ TG ∧ Cond.static arraycopyName ∈ TG ∧ Cond.initialized "java/lang/System" ∈ TG) ∧
    (T.ac o k = 2 → Cond.methodLink (CN o) k Lib.Math.max.name ∈ TG ∧ Cond.static Lib.Math.max.name ∈ TG ∧ Cond.initialized "java/lang/Math" ∈ TG ∧ Cond.code Lib.Math.max.name Lib.Math.max.code 2 (some .int) ∈ TG) ∧
    (T.ac o k = 3 → Cond.methodLink (CN o) k Lib.Math.min.name ∈ TG ∧ Cond.static Lib.Math.min.name ∈ TG ∧ Cond.initialized "java/lang/Math" ∈ TG ∧ Cond.code Lib.Math.min.name Lib.Math.min.code 2 (some .int) ∈ TG) ∧
    (T.ac o k = 4 → Cond.methodLink (CN o) k Lib.Math.abs.name ∈ TG ∧ Cond.static Lib.Math.abs.name ∈ TG ∧ Cond.initialized "java/lang/Math" ∈ TG ∧ Cond.code Lib.Math.abs.name Lib.Math.abs.code 1 (some .int) ∈ TG)) ∧
  (∀ w ∈ TG, goodWord w = true)
