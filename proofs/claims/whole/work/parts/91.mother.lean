/-! THE MODEL: nearest, shortest -/
def otM : Option (Nat × Nat) → Int32
  | none => -nI 1
  | some (x, _) => nI x
section MRZ
variable {d B w l x y n own : Nat} {s s' : mS} {T : aT} {S : aS}
theorem m_other {b : Bool} (ht : tOk T) (hT : MT T s) (ho : sOk T S B) (h : MSt T S s) (hw : w < tN T) (hn0 : sH S w = some own) : ∀ n, n ≤ tW T → ev (d + 1) 303 31 [.inr 67, .inl (nI w), .inl (bI (!b)), .inl (-nI 1), .inl (nI 0), .inl (nI 0), .inr 0] [] s = ev (d + 1) 303 31 [.inr 67, .inl (nI w), .inl (bI (!b)), .inl (otM (otN (othP T S w own) (othC T b own) n)), .inl (otL (otN (othP T S w own) (othC T b own) n)), .inl (nI n), .inr 0] [] s := by
  have hown := (wOk_s (ho.1 w) hn0).2.1
  have hN := ht.2.1
  have e0 := (h.1 w hw).1
  rw [hn0, oc_some] at e0
  intro n
  induction n with
  | zero => intro _; rfl
  | succ n ih =>
    intro hn
    have hW := ht.1
    have hb1 := (ht.2.2.1 own hown).2
    have hb2 := (ht.2.2.1 n (by omega)).2
    have b1 := dif_le (T := T) hb1.1 hb2.1
    have t1 := hT.2.2.1 n (by omega)
    have t2 := hT.2.2.1 own hown
    have eu := m_unlike (d := d) ht hT (show n < tW T by omega) hown
    have difc : dif T n own = dif T own n := sm_cong (fun l _ => by omega)
    rw [difc] at eu
    have ec := m_could (d := d) ht hT ho h hw (show n < tW T by omega)
    have hlt := fun x m => otN_lt (p := othP T S w own) (c := othC T b own) (n := n) (x := x) (m := m)
    rw [ih (by omega), otN_s]
    generalize otN (othP T S w own) (othC T b own) n = r at hlt ⊢
    have step : ∀ v, othC T b own n = v → v < 2147483648 → othP T S w own n = true → ev (d + 1) 303 100 [.inr 67, .inl (nI w), .inl (bI (!b)), .inl (otM r), .inl (otL r), .inl (nI n), .inr 0] [.inl (nI v)] s = ev (d + 1) 303 31 [.inr 67, .inl (nI w), .inl (bI (!b)), .inl (otM (otS (othP T S w own) (othC T b own) n r)), .inl (otL (otS (othP T S w own) (othC T b own) n r)), .inl (nI (n + 1)), .inr 0] [] s := by
      intro v hv hvb hp
      rw [E303_100]
      unfold otS
      rw [if_pos hp, hv]
      cases r with
      | none =>
        rw [if_pos (show otM none = -1 from rfl), E303_117, E303_124]
        simp (disch := omega) only [lit, nI_add, pk_mul, n_sub, n_addneg, nle_t, nle_f, nlt_t, nlt_f, neq_t, neq_f, n_inb, n_ix, bnd_some, if_true, if_false, ite_tt, ite_ff, not_true_eq_false, not_false_eq_true, eq_self, false_or, or_false, true_or, or_true]
        rfl
      | some q =>
        obtain ⟨x', m'⟩ := q
        obtain ⟨g1, g2⟩ := hlt x' m' rfl
        have hbx := (ht.2.2.1 x' (by omega)).2
        have b2 := dif_le (T := T) hb1.1 hbx.1
        have hm' : m' < 2147483648 := by
          rw [g2]; unfold othC
          split <;> omega
        dsimp only [otM, otL]
        simp (disch := omega) only [nneg_f, lit, nI_add, pk_mul, n_sub, n_addneg, nle_t, nle_f, nlt_t, nlt_f, neq_t, neq_f, n_inb, n_ix, bnd_some, if_true, if_false, ite_tt, ite_ff, not_true_eq_false, not_false_eq_true, eq_self, false_or, or_false, true_or, or_true]
        by_cases hlt2 : v < m'
        · rw [if_pos hlt2]
          simp (disch := omega) only [lit, nI_add, pk_mul, n_sub, n_addneg, nle_t, nle_f, nlt_t, nlt_f, neq_t, neq_f, n_inb, n_ix, bnd_some, if_true, if_false, ite_tt, ite_ff, not_true_eq_false, not_false_eq_true, eq_self, false_or, or_false, true_or, or_true]
          rw [E303_117, E303_124]
          simp (disch := omega) only [lit, nI_add, pk_mul, n_sub, n_addneg, nle_t, nle_f, nlt_t, nlt_f, neq_t, neq_f, n_inb, n_ix, bnd_some, if_true, if_false, ite_tt, ite_ff, not_true_eq_false, not_false_eq_true, eq_self, false_or, or_false, true_or, or_true]
        · rw [if_neg hlt2]
          simp (disch := omega) only [lit, nI_add, pk_mul, n_sub, n_addneg, nle_t, nle_f, nlt_t, nlt_f, neq_t, neq_f, n_inb, n_ix, bnd_some, if_true, if_false, ite_tt, ite_ff, not_true_eq_false, not_false_eq_true, eq_self, false_or, or_false, true_or, or_true]
          rw [E303_124]
          simp (disch := omega) only [lit, nI_add, pk_mul, n_sub, n_addneg, nle_t, nle_f, nlt_t, nlt_f, neq_t, neq_f, n_inb, n_ix, bnd_some, if_true, if_false, ite_tt, ite_ff, not_true_eq_false, not_false_eq_true, eq_self, false_or, or_false, true_or, or_true]
    have no : othP T S w own n = false → ev (d + 1) 303 124 [.inr 67, .inl (nI w), .inl (bI (!b)), .inl (otM r), .inl (otL r), .inl (nI n), .inr 0] [] s = ev (d + 1) 303 31 [.inr 67, .inl (nI w), .inl (bI (!b)), .inl (otM (otS (othP T S w own) (othC T b own) n r)), .inl (otL (otS (othP T S w own) (othC T b own) n r)), .inl (nI (n + 1)), .inr 0] [] s := fun hp => by
      unfold otS
      rw [if_neg (by simp [hp]), E303_124]
      simp (disch := omega) only [lit, nI_add, pk_mul, n_sub, n_addneg, nle_t, nle_f, nlt_t, nlt_f, neq_t, neq_f, n_inb, n_ix, bnd_some, if_true, if_false, ite_tt, ite_ff, not_true_eq_false, not_false_eq_true, eq_self, false_or, or_false, true_or, or_true]
    rw [E303_31, hT.1]
    simp (disch := omega) only [e0, t1.2.1, t2.2.1, lit, nI_add, pk_mul, n_sub, n_addneg, nle_t, nle_f, nlt_t, nlt_f, neq_t, neq_f, n_inb, n_ix, bnd_some, if_true, if_false, ite_tt, ite_ff, not_true_eq_false, not_false_eq_true, eq_self, false_or, or_false, true_or, or_true]
    by_cases hs : tSen T n = tSen T own
    · cases hcs : cSh T S w n with
      | false =>
        rw [hcs] at ec
        have hp : othP T S w own n = false := by unfold othP; rw [hcs, Bool.and_false]
        simp (disch := omega) only [hs, ec, bIf0, lit, nI_add, pk_mul, n_sub, n_addneg, nle_t, nle_f, nlt_t, nlt_f, neq_t, neq_f, n_inb, n_ix, bnd_some, if_true, if_false, ite_tt, ite_ff, not_true_eq_false, not_false_eq_true, eq_self, false_or, or_false, true_or, or_true]
        exact no hp
      | true =>
        rw [hcs] at ec
        have hp : othP T S w own n = true := by unfold othP; rw [hcs, decide_eq_true hs]; rfl
        cases b with
        | true =>
          simp (disch := omega) only [hs, ec, e0, bIt0, Bool.not_true, bIf0, eu, lit, nI_add, pk_mul, n_sub, n_addneg, nle_t, nle_f, nlt_t, nlt_f, neq_t, neq_f, n_inb, n_ix, bnd_some, if_true, if_false, ite_tt, ite_ff, not_true_eq_false, not_false_eq_true, eq_self, false_or, or_false, true_or, or_true]
          exact step _ rfl (by show dif T own n < _; omega) hp
        | false =>
          simp (disch := omega) only [hs, ec, bIt0, Bool.not_false, t1.1, lit, nI_add, pk_mul, n_sub, n_addneg, nle_t, nle_f, nlt_t, nlt_f, neq_t, neq_f, n_inb, n_ix, bnd_some, if_true, if_false, ite_tt, ite_ff, not_true_eq_false, not_false_eq_true, eq_self, false_or, or_false, true_or, or_true]
          exact step _ rfl (by show tLen T n < _; omega) hp
    · have hp : othP T S w own n = false := by unfold othP; rw [decide_eq_false hs, Bool.false_and]
      simp (disch := omega) only [lit, nI_add, pk_mul, n_sub, n_addneg, nle_t, nle_f, nlt_t, nlt_f, neq_t, neq_f, n_inb, n_ix, bnd_some, if_true, if_false, ite_tt, ite_ff, not_true_eq_false, not_false_eq_true, eq_self, false_or, or_false, true_or, or_true]
      exact no hp
end MRZ
