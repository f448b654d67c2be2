/-! A RUN OF THE SMALL MACHINE NEVER WRITES TO A PLACE OF LONGS -/
def kz (z : Nat) (s : mS) : mA → Prop
  | none => True
  | some (.inl (_, _, _, s')) => s' z = s z
  | some (.inr (.inl (_, _, s'))) => s' z = s z
  | some (.inr (.inr (_, _, _, _, _, _, s'))) => s' z = s z
section KZ
variable {T : mT} {z pc m' k a b q j d n m len : Nat} {s s1 : mS} {ls st as : List mV} {x y v : Int32} {M M' : mM} {i : Instr}
theorem kz_no : kz z s none := trivial
theorem kz_nx : kz z s (nx pc ls st s) := rfl
theorem kz_cnd {c : ClassFile.Cond} {e f : mA} (h1 : kz z s e) (h2 : kz z s f) : kz z s (cnd c x y e f) := by
  cases c <;> unfold cnd <;> dsimp only <;> split <;> assumption
theorem kz_jmp {off : Int} : kz z s (jmp pc off ls st s) := by
  unfold jmp
  split
  · rfl
  · trivial
theorem kz_ret : kz z s (ret1 k v s) := by
  unfold ret1
  split
  · rfl
  · split
    · rfl
    · trivial
  · trivial
theorem kz_inv : kz z s (invk T M' m' as pc ls st s) := by
  unfold invk
  repeat' split
  all_goals first | exact trivial | exact rfl
theorem kz_up (h : q ≠ z) : kz z s (nx pc ls st (up s q j v)) := by
  show up s q j v z = s z
  unfold up setA
  exact if_neg (fun e => h e.symm)
theorem kz_cp {sp dp cn : Int32} (h : b ≠ z) : kz z s (nx pc ls st (cpA s a sp b dp cn)) := by
  show cpA s a sp b dp cn z = s z
  unfold cpA setA
  exact if_neg (fun e => h e.symm)
theorem kz_ne (hz : (T.sh z).1 = 24) (h : (T.sh q).1 < 24) : q ≠ z := fun e => by rw [e, hz] at h; exact absurd h (by decide)
set_option maxHeartbeats 8000000 in
theorem kz_act (hz : (T.sh z).1 = 24) (hf : ∀ o k ci j, T.fr o k = some (ci, j) → ci < 20) : kz z s (actI T M i len pc ls st s) := by
  cases i <;> simp only [actI] <;> (repeat' split) <;> first
    | exact kz_no
    | exact kz_nx
    | exact kz_jmp
    | exact kz_ret
    | exact kz_inv
    | exact kz_cnd kz_nx kz_nx
    | exact kz_cnd kz_jmp kz_nx
    | exact rfl
    | (refine kz_up (kz_ne hz ?_); first | omega | (next h1 h2 => rw [h2.1]; have := hf _ _ _ _ h1; omega))
    | (refine kz_cp (kz_ne hz ?_); omega)
end KZ
