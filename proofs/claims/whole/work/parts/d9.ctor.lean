/-! CONSTRUCTORS: an object's arrays come one after another, each into its field -/
def xC : List Cond := [.instanceMethod objectInit, .code objectInit ⟨#[0xb1]⟩ 1 none, .arrayClass .int, .arrayClass .char, .arrayClass .byte, .arrayClass .boolean]
def xCo (o k : Nat) : List Cond := [.methodLink (mCN o) k objectInit]
def TC : List Cond := mTG ++ (xC ++ [0, 1, 2, 3, 4, 5, 6, 7, 8, 9, 10, 11, 12].map (fun o => Cond.methodLink (mCN o) (if o = 3 ∨ o = 5 ∨ o = 6 ∨ o = 11 then 1 else if o = 8 then 5 else 3) objectInit))
theorem xC_tbl : ∀ w ∈ xC ++ [0, 1, 2, 3, 4, 5, 6, 7, 8, 9, 10, 11, 12].map (fun o => Cond.methodLink (mCN o) (if o = 3 ∨ o = 5 ∨ o = 6 ∨ o = 11 then 1 else if o = 8 then 5 else 3) objectInit), w ∈ lw_tbl := by decide +kernel
theorem xC_good : ∀ w ∈ xC ++ [0, 1, 2, 3, 4, 5, 6, 7, 8, 9, 10, 11, 12].map (fun o => Cond.methodLink (mCN o) (if o = 3 ∨ o = 5 ∨ o = 6 ∨ o = 11 then 1 else if o = 8 then 5 else 3) objectInit), goodWord w = true := by decide +kernel
theorem TC_tbl : ∀ w ∈ TC, w ∈ lw_tbl := fun w h => (List.mem_append.mp h).elim (mTG_tbl w) (xC_tbl w)
theorem TC_good : ∀ w ∈ TC, goodWord w = true := fun w h => (List.mem_append.mp h).elim (mok.2.2.2.2.2.2.2.2 w) (xC_good w)
theorem TC_xC {w : Cond} (h : w ∈ xC) : w ∈ TC := List.mem_append_right _ (List.mem_append_left _ h)
/-- a step: the number's instruction's length, the field, the array's kind (0 int, 1 char, 2 byte, 3 boolean; 9: no array, the field gets -1), how many, the field's index -/
abbrev cO : Type := Nat × Nat × Nat × Nat × Nat
def atO (t : Nat) : ArrayType := match t with
  | 0 => .int
  | 1 => .char
  | 2 => .byte
  | _ => .boolean
def tyO (t : Nat) : FieldType := match t with
  | 0 => .int
  | 1 => .char
  | 2 => .byte
  | _ => .boolean
def dsO (t : Nat) : String := match t with
  | 0 => "[I"
  | 1 => "[C"
  | 2 => "[B"
  | 9 => "I"
  | _ => "[Z"
def psO (o : Nat) (i : Instr) : Option (Nat × Int32) := match i with
  | .iconst c => some (1, Int32.ofInt c)
  | .bipush c => some (2, (Int8.ofInt c).toInt32)
  | .sipush c => some (3, (Int16.ofInt c).toInt32)
  | .ldc k => (mCk o k).map (fun v => (2, v))
  | _ => none
def pushB (cc : ByteArray) (o pc lp : Nat) (n : Int32) : Bool := match decode cc pc with
  | .ok (i, l') => decide (l' = lp) && decide (psO o i = some (lp, n))
  | .error _ => false
def opB (cc : ByteArray) (o ci : Nat) (T : u_T) (N pc : Nat) (q : cO) : Bool := decide (decode cc pc = .ok (.aload_n 0, 1)) && decide (mFr o q.2.2.2.2 = some (ci, q.2.1)) && decide ((T q.2.1).1 = mCN o) && decide ((T q.2.1).2.2.1 = dsO q.2.2.1) && decide (q.2.1 < N) &&
  (if q.2.2.1 = 9 then pushB cc o (pc + 1) q.1 (-nI 1) && decide (decode cc (pc + 1 + q.1) = .ok (.putfield q.2.2.2.2, 3)) && decide ((T q.2.1).2.2.2 = false)
   else pushB cc o (pc + 1) q.1 (nI q.2.2.2.1) && decide (decode cc (pc + 1 + q.1) = .ok (.newarray (atO q.2.2.1), 2)) && decide (decode cc (pc + 3 + q.1) = .ok (.putfield q.2.2.2.2, 3)) && decide ((T q.2.1).2.2.2 = true) && decide (q.2.2.1 < 4) && decide (q.2.2.2.1 < 100000))
def opE (pc : Nat) (q : cO) : Nat := if q.2.2.1 = 9 then pc + 4 + q.1 else pc + 6 + q.1
def opsB (cc : ByteArray) (o ci : Nat) (T : u_T) (N : Nat) : Nat → List cO → Bool
  | _, [] => true
  | pc, q :: r => opB cc o ci T N pc q && opsB cc o ci T N (opE pc q) r
def opsE : Nat → List cO → Nat
  | pc, [] => pc
  | pc, q :: r => opsE (opE pc q) r
/-- how many arrays, how many elements -/
def opsC : List cO → Nat
  | [] => 0
  | q :: r => (if q.2.2.1 = 9 then 0 else 1) + opsC r
def opsS : List cO → Nat
  | [] => 0
  | q :: r => (if q.2.2.1 = 9 then 0 else q.2.2.2.1) + opsS r
/-- the fields and the arrays behind the steps; a: where the arrays lie -/
def cnF : List cO → (Nat → Nat) → List Value → List Value
  | [], _, fs => fs
  | q :: r, a, fs => if q.2.2.1 = 9 then cnF r a (fs.set q.2.1 (.int (-nI 1))) else cnF r (fun i => a (i + 1)) (fs.set q.2.1 (.ref (a 0)))
def cnA (ca : Nat → ClassId) : List cO → (Nat → Nat) → va_W
  | [], _ => []
  | q :: r, a => if q.2.2.1 = 9 then cnA ca r a else (a 0, .inl (ca q.2.2.1, q.2.2.2.1, .inl (fun _ => 0))) :: cnA ca r (fun i => a (i + 1))
theorem app_at {α : Type} (w : List α) (x : α) (r : List α) : (w ++ x :: r)[w.length]? = some x := by simp
theorem app_set {α : Type} (w : List α) (x y : α) (r : List α) : (w ++ x :: r).set w.length y = w ++ y :: r := by
  rw [List.set_append_right _ _ (Nat.le_refl _), Nat.sub_self]
  rfl
section CTR
variable {p : Program} {l : Launch} {e : Env} {R : Room} {s : State} {m : MethodId} {args : Array Value} {below : List Frame} {meth : Method} {c : Code} {Q : State → Prop}
variable {ad : Nat → Nat} {ca : Nat → ClassId} {D : va_G} {A : Nat → Prop} {H0 : Heap} {cc : ByteArray} {o ci N lp : Nat} {T : u_T} {C : String} {ls : Array Slot} {h0 : Nat} {w : va_W}
theorem push_row {H : Heap} {locs : List Loc} {cells slots pc : Nat} {rest : List Value} {n : Int32} (hx : p.tables.exec = Jvm.exec) (hb : c.code = cc) (hown : s.vm.findClass (mCN o) = some m.cls) (hts : ∀ w ∈ TC, w.before args s = true) (h : pushB cc o pc lp n = true)
    (kk : W p l e R s m args below meth c H locs cells slots Q (F0 m (pc + lp) ls (.int n :: rest))) : W p l e R s m args below meth c H locs cells slots Q (F0 m pc ls rest) := by
  unfold pushB at h
  split at h
  · next i l' hd =>
    simp only [Bool.and_eq_true, decide_eq_true_eq] at h
    obtain ⟨rfl, h⟩ := h
    unfold psO at h
    split at h
    · simp only [Option.some.injEq, Prod.mk.injEq] at h
      obtain ⟨rfl, rfl⟩ := h
      exact lv_iconst hx hb hd rfl kk
    · simp only [Option.some.injEq, Prod.mk.injEq] at h
      obtain ⟨rfl, rfl⟩ := h
      exact lv_bipush hx hb hd rfl kk
    · simp only [Option.some.injEq, Prod.mk.injEq] at h
      obtain ⟨rfl, rfl⟩ := h
      exact lv_sipush hx hb hd rfl kk
    · next k =>
      cases hc : mCk o k with
      | none => rw [hc] at h; cases h
      | some v =>
        rw [hc] at h
        simp only [Option.map_some, Option.some.injEq, Prod.mk.injEq] at h
        obtain ⟨rfl, rfl⟩ := h
        exact lv_ldc hx hb hown (hts _ (List.mem_append_left _ (mok.2.2.2.2.2.2.1 o k v hc))) hd kk
    · cases h
  · cases h
theorem tyO_d {t : Nat} (h : t < 4) : newarray.typeOf (atO t) = tyO t ∧ parseFieldDescriptor (dsO t) = some (.array (tyO t)) ∧ (tysO ca)[t]? = some (ca t, tyO t) ∧ componentBytes (tyO t) ≤ 4 ∧ Cond.arrayClass (tyO t) ∈ xC ∧ (∀ cA : ClassId, ∀ n, vp_cell cA (n, .inl (fun _ => 0)) = arrV cA n (fun _ => defaultValue (tyO t))) := by
  rcases (show t = 0 ∨ t = 1 ∨ t = 2 ∨ t = 3 by omega) with rfl | rfl | rfl | rfl
  · exact ⟨rfl, by decide +kernel, rfl, by decide, by decide, fun _ _ => rfl⟩
  · exact ⟨rfl, by decide +kernel, rfl, by decide, by decide, fun _ _ => rfl⟩
  · exact ⟨rfl, by decide +kernel, rfl, by decide, by decide, fun _ _ => rfl⟩
  · exact ⟨rfl, by decide +kernel, rfl, by decide, by decide, fun _ _ => rfl⟩
theorem ca_one {t : Nat} {cA : ClassId} (h : t < 4) (hK : va_K D mCls (tysO ca) s) (hK1 : va_K D mCls (tysO ca ++ [(cA, tyO t)]) s) : cA = ca t := by
  have h1 := (hK.2 t _ (tyO_d (ca := ca) h).2.2.1).2
  have h2 := (hK1.2 5 (cA, tyO t) (by rw [List.getElem?_append_right (by simp [tysO])]; rfl)).2
  rcases (show t = 0 ∨ t = 1 ∨ t = 2 ∨ t = 3 by omega) with rfl | rfl | rfl | rfl
  · exact Option.some.inj ((show s.vm.findClass _ = some cA from h2).symm.trans h1)
  · exact Option.some.inj ((show s.vm.findClass _ = some cA from h2).symm.trans h1)
  · exact Option.some.inj ((show s.vm.findClass _ = some cA from h2).symm.trans h1)
  · exact Option.some.inj ((show s.vm.findClass _ = some cA from h2).symm.trans h1)
set_option maxHeartbeats 4000000 in
/-- the steps, one after another -/
theorem cn_run (hx : p.tables.exec = Jvm.exec) (hb : c.code = cc) (hml : 1 ≤ ls.size) (hl0 : ls[0]? = some (.val (.ref h0))) (hown : s.vm.findClass (mCN o) = some m.cls) (hin : meth.name = "<init>") (hts : ∀ w ∈ TC, w.before args s = true) (hK : va_K D mCls (tysO ca) s) (hA : ∀ q, H0.size ≤ q → A q) (hc : mCls[ci]? = some (C, T, N)) :
    ∀ (ops : List cO) (pc : Nat) (H : Heap) (locs : List Loc) (cells slots : Nat) (fs : List Value) (ar : va_W), opsB cc o ci T N pc ops = true → fs.length = N → cells + opsC ops ≤ R.cells → slots + opsS ops ≤ R.slots → va_P D mCls (w ++ (h0, .inr (ci, fs)) :: ar) H → va_D A (w ++ (h0, .inr (ci, fs)) :: ar) → va_S A H0 H locs →
    (∀ (a : Nat → Nat) (H1 : Heap) (locs1 : List Loc), va_P D mCls (w ++ (h0, .inr (ci, cnF ops a fs)) :: (ar ++ cnA ca ops a)) H1 → va_D A (w ++ (h0, .inr (ci, cnF ops a fs)) :: (ar ++ cnA ca ops a)) → va_S A H0 H1 locs1 → W p l e R s m args below meth c H1 locs1 (cells + opsC ops) (slots + opsS ops) Q (F0 m (opsE pc ops) ls [])) →
    W p l e R s m args below meth c H locs cells slots Q (F0 m pc ls []) := by
  obtain ⟨o1, o2, o3, o4, o5, o6, o7, o8, o9⟩ := mok
  obtain ⟨u1, ⟨ty0, u2⟩, u3, u4⟩ := o3 _ _ hc
  have hin1 : ∀ w ∈ u_ws C T N, w ∈ TC := fun w h => List.mem_append_left _ (u1 w h)
  intro ops
  induction ops with
  | nil =>
    intro pc H locs cells slots fs ar hB hf h1 h2 hP hD hS kk
    have := kk (fun _ => 0) H locs (by simpa [cnF, cnA] using hP) (by simpa [cnF, cnA] using hD) hS
    simpa [opsC, opsS, opsE] using this
  | cons q r ih =>
    intro pc H locs cells slots fs ar hB hf h1 h2 hP hD hS kk
    obtain ⟨lp, j, t, n, kp⟩ := q
    simp only [opsB, opB, Bool.and_eq_true, decide_eq_true_eq] at hB
    obtain ⟨⟨⟨⟨⟨⟨d0, d1⟩, d2⟩, d3⟩, d4⟩, d5⟩, hB⟩ := hB
    obtain ⟨hci, r9, hr9, hlk⟩ := o4 o kp ci j d1
    have er : r9 = (C, T, N) := Option.some.inj (hr9.symm.trans hc)
    subst er
    have hlink := hts _ (List.mem_append_left _ hlk)
    refine lv_aload_n hx hb (k := 0) d0 rfl hl0 ?_
    by_cases h9 : t = 9
    · subst h9
      simp only [if_true, Bool.and_eq_true, decide_eq_true_eq] at d5
      obtain ⟨⟨e1, e2⟩, e3⟩ := d5
      refine push_row hx hb hown hts e1 ?_
      refine va_put (own := mCN o) (C := C) (T := T) (N := N) (ty := .int) (v := .int (-nI 1)) hx hb hts hin1 ty0 u2 u3 hown hK hP hD hS w.length (app_at _ _ _) hc j d4 hlink (fun _ h => h) e3 (by rw [d3]; decide +kernel) rfl rfl (by rw [hf]; exact d4) e2 (fun H1 locs1 hP1 hD1 hS1 => ?_)
      rw [app_set] at hP1 hD1
      have := ih _ H1 locs1 cells slots (fs.set j (.int (-nI 1))) ar hB (by rw [List.length_set]; exact hf) (by simpa [opsC] using h1) (by simpa [opsS] using h2) hP1 hD1 hS1 (fun a H2 locs2 hP2 hD2 hS2 => by
        have := kk a H2 locs2 (by simpa [cnF, cnA] using hP2) (by simpa [cnF, cnA] using hD2) hS2
        simpa [opsC, opsS, opsE, opE] using this)
      simpa [opE, Nat.add_assoc, Nat.add_comm, Nat.add_left_comm] using this
    · simp only [h9, if_false, Bool.and_eq_true, decide_eq_true_eq] at d5
      obtain ⟨⟨⟨⟨⟨e1, e2⟩, e3⟩, e4⟩, e5⟩, e6⟩ := d5
      obtain ⟨t1, t2, t3, t4, t5, t6⟩ := tyO_d (ca := ca) e5
      refine push_row hx hb hown hts e1 ?_
      simp only [opsC, opsS, h9, if_false] at h1 h2
      refine va_newa (ty := tyO t) (N' := n) (a0 := (n, .inl (fun _ => 0))) hx hb (by rw [t1]; exact hts _ (TC_xC t5)) t1 hK hP hD hS hA (fun cA => t6 cA n) (nI_pos (by omega)) (nI_clamp (by omega)) (by
        have : n * componentBytes (tyO t) ≤ n * 4 := Nat.mul_le_mul_left _ t4
        omega) (by omega) (by omega) e2 (fun q9 cA H1 hK1 hP1 hD1 hS1 => ?_)
      obtain rfl := ca_one e5 hK hK1
      rw [List.append_assoc, List.cons_append] at hP1 hD1
      refine va_putF (own := mCN o) (C := C) (T := T) (N := N) (ty := .array (tyO t)) (v := .ref q9) hx hb hts hin1 ty0 u2 u3 hown hK hP1 hD1 hS1 w.length (app_at _ _ _) hc j d4 hlink (fun _ h => h) e4 hin d2 (by rw [d3]; exact t2) rfl rfl (by rw [hf]; exact d4) (by rw [show pc + 1 + lp + 2 = pc + 3 + lp by omega]; exact e3) (fun H2 locs2 hP2 hD2 hS2 => ?_)
      rw [app_set] at hP2 hD2
      have := ih _ H2 locs2 (cells + 1) (slots + n) (fs.set j (.ref q9)) (ar ++ [(q9, .inl (ca t, n, .inl (fun _ => 0)))]) hB (by rw [List.length_set]; exact hf) (by omega) (by omega) hP2 hD2 hS2 (fun a H3 locs3 hP3 hD3 hS3 => by
        have := kk (fun i => match i with | 0 => q9 | i + 1 => a i) H3 locs3 (by simpa [cnF, cnA, h9, List.append_assoc] using hP3) (by simpa [cnF, cnA, h9, List.append_assoc] using hD3) hS3
        simpa [opsC, opsS, opsE, opE, h9, Nat.add_assoc, Nat.add_comm, Nat.add_left_comm] using this)
      have e9 : opE pc (lp, j, t, n, kp) = pc + 1 + lp + 2 + 3 := by
        unfold opE
        rw [if_neg h9]
        show pc + 6 + lp = _
        omega
      rw [e9] at this
      exact this
end CTR
