section MSOUND
variable {p : Program} {l : Launch} {e : Env} {R : Room} {s : State} {mid : MethodId} {args : Array Value} {below : List Frame} {meth : Method} {c : Code} {Q : State → Prop} {cells slots : Nat}
variable {T : mT} {N : Nat} {cls : List vw_C} {TG : List Cond} {NX : mX} {nm : Nat → MethodName} {rty : Nat → Option FieldType} {CN : Nat → String} {ad : Nat → Nat} {ca : Nat → ClassId} {D : va_G} {A : Nat → Prop} {H0 : Heap}
def mQ (T : mT) (N : Nat) (cls : List vw_C) (ad : Nat → Nat) (ca : Nat → ClassId) (D : va_G) (A : Nat → Prop) (k : Nat) (v : Int32) (s1 : mS) : Array Value → State → Outcome → State → Prop := fun _ st oc t =>
  (oc = .returned (rvl ad k v) ∧ va_P D cls (wsO T ad ca N s1) t.heap ∧ va_K D cls (tysO ca) t ∧ va_D A (wsO T ad ca N s1)) ∧ va_F A st t
def mP (T : mT) (N : Nat) (cls : List vw_C) (NX : mX) (ad : Nat → Nat) (ca : Nat → ClassId) (D : va_G) (sz : Nat) (s0 : mS) : State → Prop := fun U => U.heap.size = sz ∧ va_P D cls (wsO T ad ca N s0) U.heap ∧ va_K D cls (tysO ca) U ∧ va_D (fun _ => True) (wsO T ad ca N s0) ∧ ∀ q ∈ NX, va_Nw (nxw q) U
def Ctr (l : Launch) (T : mT) (N : Nat) (cls : List vw_C) (TG : List Cond) (NX : mX) (nm : Nat → MethodName) (rty : Nat → Option FieldType) (d : Nat) : Prop :=
  ∀ (m : Nat) (M : mM) (as : List mV) (s0 : mS) (v : Int32) (s1 : mS) (sz : Nat) (ad : Nat → Nat) (ca : Nat → ClassId) (D : va_G), T.mt m = some M → as.length = M.2.2.2.2.1 → evT T d m 0 (pad M.2.2.1 as) [] s0 = some (0, v, s1) →
    Met l (nm m) (Wd nm rty TG m M) (rmD d) (va_Pc (as.map (rl ad)) (mP T N cls NX ad ca D sz s0)) (mQ T N cls ad ca D (va_A (wsO T ad ca N s0) sz) M.2.2.2.1 v s1) 0 0 (va_A (wsO T ad ca N s0) sz)
theorem m_call {H : Heap} {locs : List Loc} {pc : Nat} {ls : Array Slot} {rest st0 : List Value} {ov : Option Value} {B : State → Prop} {A1 : Nat → Prop} {a : Array Value}
    (hr : va_Run p l e R s mid args below meth c H locs cells slots 0 0 (F0 mid pc ls st0) rest ((fun _ st oc t => (oc = .returned ov ∧ B t) ∧ va_F A1 st t : Array Value → State → Outcome → State → Prop) a) A1) (hS : va_S A H0 H locs) (hA : ∀ q, A1 q → A q)
    (kk : ∀ (t : State) (H1 : Heap) (locs1 : List Loc), t.heap = H1 → s.vm.Alike t.vm → B t → va_S A H0 H1 locs1 → W p l e R s mid args below meth c H1 locs1 cells slots Q (F0 mid (pc + 3) ls (ov.toList ++ rest))) : W p l e R s mid args below meth c H locs cells slots Q (F0 mid pc ls st0) := by
  intro U hU X
  obtain ⟨v, st₀, t, T', L, h0, X', hL, e1, e2, ⟨⟨hv, hb⟩, hz, hk⟩, st⟩ := hr U hU X
  cases hv
  rw [h0] at hz hk
  obtain ⟨t2, a1, b1⟩ := kk t T'.heap (locs ++ L) e1.symm (by rw [← e2]; exact X'.warmed.alike) hb
    ⟨Nat.le_trans hS.1 (by rw [e1]; exact hz), fun q h1 h2 => by rw [e1, hk q (Nat.lt_of_lt_of_le h1 hS.1) (fun z => h2 (hA q z))]; exact hS.2.1 q h1 h2, fun q hq => by
      rcases List.mem_append.mp hq with h | h
      · exact hS.2.2 q h
      · exact hA _ (hL q h)⟩ T' rfl X'
  exact ⟨t2, st t2 a1, b1⟩
theorem mP_blind {sz : Nat} {s0 : mS} {av : List Value} : FrameBlind (va_Pc av (mP T N cls NX ad ca D sz s0)) := by
  rintro a U g mk ⟨q0, q1, q2, q3, q4, q5⟩
  exact ⟨q0, q1, q2, va_K.moved (u := U) (U := U.calling g mk a) (Vm.Alike.refl U.vm) q3, q4, fun q hq => va_Nw.same rfl rfl (q5 q hq)⟩
/-- a terminal instruction with its answer -/
def tOK (ad : Nat → Nat) (M : mM) (v : Int32) (pc : Nat) (st : List Value) : Prop :=
  (M.2.2.2.1 = 0 ∧ decode M.1 pc = .ok (.return_, 1) ∧ st = []) ∨
  ((M.2.2.2.1 = 1 ∨ M.2.2.2.1 = 2 ∧ (v = 0 ∨ v = 1)) ∧ decode M.1 pc = .ok (.ireturn, 1) ∧ st = [.int v]) ∨
  (3 ≤ M.2.2.2.1 ∧ decode M.1 pc = .ok (.areturn, 1) ∧ st = [.ref (ad (ix v))])
theorem ix_small {q : Nat} (h : q < 256) : ix (nI q) = q := ix_nI (by omega)
theorem fvl_set {s0 : mS} {q j : Nat} {v : Int32} {n : Nat} {x : Value} (hx : fvl T ad (up s0 q j v) q j = x) : ((List.range n).map (fvl T ad s0 q)).set j x = (List.range n).map (fvl T ad (up s0 q j v) q) := by
  apply List.ext_getElem?
  intro i
  rw [List.getElem?_set]
  by_cases hi : j = i
  · subst hi
    by_cases hn : j < n
    · rw [if_pos rfl, if_pos (by simp; exact hn), List.getElem?_map, List.getElem?_range hn, Option.map_some, hx]
    · rw [if_pos rfl, if_neg (by simp; omega), List.getElem?_eq_none (by simp; omega)]
  · rw [if_neg hi, List.getElem?_map, List.getElem?_map]
    by_cases hn : i < n
    · rw [List.getElem?_range hn, Option.map_some, Option.map_some]
      have e1 : up s0 q j v q i = s0 q i := by
        show setA s0 q (upd (s0 q) j v) q i = s0 q i
        unfold setA
        rw [if_pos rfl]
        exact pk_un (fun z => hi z.symm)
      have e2 : fvl T ad (up s0 q j v) q i = fvl T ad s0 q i := by unfold fvl; rw [e1]
      rw [e2]
    · rw [List.getElem?_eq_none (by simp; omega), Option.map_none, Option.map_none]
theorem up_at {s0 : mS} {q j : Nat} {v : Int32} : up s0 q j v q j = v := by
  show setA s0 q (upd (s0 q) j v) q j = v
  unfold setA
  rw [if_pos rfl]
  exact pk_us
theorem setA_at {s0 : mS} {q : Nat} {f : Nat → Int32} : setA s0 q f q = f := if_pos rfl
theorem tysO_at {k : Nat} (h : k < 5) : ∃ ty, (tysO ca)[k]? = some (ca k, ty) := by
  rcases (show k = 0 ∨ k = 1 ∨ k = 2 ∨ k = 3 ∨ k = 4 by omega) with rfl | rfl | rfl | rfl | rfl <;> exact ⟨_, rfl⟩
theorem entO_arr {s0 : mS} {a k : Nat} (h : (T.sh a).1 = 20 + k) (hk : k < 4) : entO T ad ca s0 a = .inl (ca k, (T.sh a).2, .inl (s0 a)) := by
  unfold entO
  rw [h, if_neg (by omega), if_neg (by omega), Nat.add_sub_cancel_left]
theorem entO_obj {s0 : mS} {q : Nat} (h : (T.sh q).1 < 20) : entO T ad ca s0 q = .inr ((T.sh q).1, (List.range (T.sh q).2).map (fvl T ad s0 q)) := by
  unfold entO
  rw [if_pos h]
end MSOUND
