/-! THE CLASS'S CONSTRUCTOR, WHOLE -/
def dfX : List Value := [.null, .null, .null, .null, .null, .null, .null, .null, .null, .null, .null, .null, .null, .null, .null, .null]
def rmX : Room := { frames := 8, cells := 65, slots := 10417, locals := 400 }
def yX : MethodName := ⟨mCN 11, "<init>", "()V"⟩
def pX (ca : Nat → ClassId) (D : va_G) (w : va_W) (h0 : Nat) (sz : Nat) : State → Prop := fun U => pG ca D w h0 11 dfX sz U ∧ (∀ q ∈ mNX, va_Nw (nxw q) U) ∧ ∀ q ∈ xNX, va_Nw (nxw q) U
theorem pX_blind {ca : Nat → ClassId} {D : va_G} {w : va_W} {h0 sz : Nat} {av : List Value} : FrameBlind (va_Pc av (pX ca D w h0 sz)) := by
  rintro a U g mk ⟨q0, q1, q2, q3⟩
  exact ⟨q0, (pG_blind (av := av) a U g mk ⟨q0, q1⟩).2, fun q hq => va_Nw.same rfl rfl (q2 q hq), fun q hq => va_Nw.same rfl rfl (q3 q hq)⟩
def qX (ca : Nat → ClassId) (D : va_G) (h0 sz : Nat) : Array Value → State → Outcome → State → Prop :=
  va_Qv (fun ad : Nat → Nat => ad 1 = h0) (fun ad t => va_P D mCls (wsO T66 ad ca 66 sX) t.heap ∧ va_K D mCls (tysO ca) t ∧ va_D (va_A [(h0, .inr (11, dfX))] sz) (wsO T66 ad ca 66 sX)) (va_A [(h0, .inr (11, dfX))] sz)
def adX (h0 q0 q1 q2 q3 q4 q5 q6 q7 q8 q9 q10 q11 q12 q13 q14 q15 : Nat) (a0 a1 a2 a3 a4 a5 a6 a7 a8 a9 a10 a11 a12 a13 a14 a15 : Nat → Nat) (k : Nat) : Nat := ([0, h0, q0, (a0 0), q1, (a1 0), q2, (a2 0), (a2 1), (a2 2), (a2 3), (a2 4), (a2 5), (a2 6), (a2 7), (a2 8), q3, (a3 0), (a3 1), q4, (a4 0), (a4 1), q5, (a5 0), (a5 1), q6, (a6 0), (a6 1), q7, (a7 0), (a7 1), q8, (a8 0), (a8 1), (a8 2), (a8 3), q9, (a9 0), (a9 1), (a9 2), q10, (a10 0), (a10 1), (a10 2), q11, (a11 0), (a11 1), q12, (a12 0), (a12 1), (a12 2), (a12 3), (a12 4), q13, (a13 0), (a13 1), (a13 2), (a13 3), q14, (a14 0), (a14 1), (a14 2), (a14 3), q15, (a15 0), (a15 1), (a15 2)] : List Nat).getD k 0
set_option maxRecDepth 100000 in
set_option maxHeartbeats 4000000 in
theorem worldX {ca : Nat → ClassId} {h0 q0 q1 q2 q3 q4 q5 q6 q7 q8 q9 q10 q11 q12 q13 q14 q15 : Nat} {a0 a1 a2 a3 a4 a5 a6 a7 a8 a9 a10 a11 a12 a13 a14 a15 : Nat → Nat} : (((h0, .inr (11, [.ref q0, .ref q1, .ref q2, .ref q3, .ref q4, .ref q5, .ref q6, .ref q7, .ref q8, .ref q9, .ref q10, .ref q11, .ref q12, .ref q13, .ref q14, .ref q15])) :: ((((((((((((((((([] ++ (cnP ca 9 opText dfText q0 a0)) ++ (cnP ca 5 opRow dfRow q1 a1)) ++ (cnP ca 10 opTown dfTown q2 a2)) ++ (cnP ca 6 opRule dfRule q3 a3)) ++ (cnP ca 6 opRule dfRule q4 a4)) ++ (cnP ca 6 opRule dfRule q5 a5)) ++ (cnP ca 6 opRule dfRule q6 a6)) ++ (cnP ca 6 opRule dfRule q7 a7)) ++ (cnP ca 2 opOrder dfOrder q8 a8)) ++ (pwS ca q2 q9 a9)) ++ (pwS ca q2 q10 a10)) ++ (cnP ca 3 opPast dfPast q11 a11)) ++ (cnP ca 7 opSets dfSets q12 a12)) ++ (cnP ca 4 opRenaming dfRenaming q13 a13)) ++ (cnP ca 1 opKin dfKin q14 a14)) ++ (cnP ca 0 opCountings dfCountings q15 a15)))) : va_W) = wsO T66 (adX h0 q0 q1 q2 q3 q4 q5 q6 q7 q8 q9 q10 q11 q12 q13 q14 q15 a0 a1 a2 a3 a4 a5 a6 a7 a8 a9 a10 a11 a12 a13 a14 a15) ca 66 s66 := by
  rfl
