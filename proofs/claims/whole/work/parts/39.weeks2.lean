/-! CALLS: weeks, the row told -/
def weR (A : aA) (n : Nat) : aS × Nat × Nat := wkN (gT A) (gR A) (gS A) n
def weA (A : aA) (n : Nat) : aA := wW (if n = 0 then wS A (weR A n).1 else goS A (weR A n).1) [nI (bts (isU (gT A) (weR A n).1) 8), nI (bts (isQ (gT A) (weR A n).1) 8), nI (weR A n).2.2]
def o_weeks (A : aA) (n : Int32) : aA × Int32 := if inN n 61 = false then (A, -nI 1) else (weA A (ix n), nI (weR A (ix n)).2.1)
section XC4
variable {d B B' : Nat} {s s' : mS} {T : aT} {S S' : aS} {A : aA} {W : List Int32}
/-- a new row -/
theorem XI_row {P : List Nat} (h : XI A B s) (q : Eqx P s s') (hp : ∀ a ∈ P, a ∉ iQ ∨ a = 4 ∨ a = 5) (h37 : 37 ∉ P) (hw : XW W s') (hl : W.length ≤ 16) : XI (wW A W) B s' := by
  have no : ∀ a, a ∈ iQ → a ≠ 4 → a ≠ 5 → a ∉ P := fun a ha n1 n2 z => by
    rcases hp a z with e | e | e
    · exact e ha
    · exact n1 e
    · exact n2 e
  have no2 : ∀ (M : List Nat), (∀ a ∈ M, a ∈ iQ ∧ a ≠ 4 ∧ a ≠ 5) → ∀ a ∈ P, a ∉ M := fun M hM a ha z => no a (hM a z).1 (hM a z).2.1 (hM a z).2.2 ha
  obtain ⟨ha, hc, h1, h2, h3, h4, h5, h6, h7, h8⟩ := h
  obtain ⟨a1, a2, a3, a4, a5, a6, a7, a8, a9⟩ := ha
  exact ⟨⟨a1, a2, a3, a4, a5, a6, a7, hl, a9⟩, by rw [q _ h37]; exact hc, XT_q h1 q (no2 _ (by decide)), XSt_q h2 q (no _ (by decide) (by decide) (by decide)), XX_q h3 q (no _ (by decide) (by decide) (by decide)) (no _ (by decide) (by decide) (by decide)), hw, XRs_q h5 q (no2 _ (by decide)), XU_q h6 q (no _ (by decide) (by decide) (by decide)) (no _ (by decide) (by decide) (by decide)), XK_q h7 q (no _ (by decide) (by decide) (by decide)) (no _ (by decide) (by decide) (by decide)), XN_q h8 q (no2 _ (by decide))⟩
theorem XI_mono (h : XI A B s) (hB : B ≤ B') : XI A B' s := by
  obtain ⟨⟨a1, a2, a3, a4, a5⟩, r⟩ := h
  have g : ∀ U, gd (gT A) (gS A) B U → gd (gT A) (gS A) B' U := fun U hU => gd_go hU hB (fun _ _ => rfl)
  exact ⟨⟨a1, (g _ (gd_self a2)).1, fun U hU => g U (a3 U hU), fun i U hU => g U (a4 i U hU), a5⟩, r⟩
/-- three numbers told -/
theorem x_add3 {a b c : Int32} : ∃ s1 s2 s3, ev d 50 0 [.inr 4, .inl a] [] (up s 4 1 0) = some (0, nI 4, s1) ∧ ev d 50 0 [.inr 4, .inl b] [] s1 = some (0, nI 4, s2) ∧ ev d 50 0 [.inr 4, .inl c] [] s2 = some (0, nI 4, s3) ∧ Eqx [4, 5] s s1 ∧ Eqx [4, 5] s s2 ∧ Eqx [4, 5] s s3 ∧ XW [a, b, c] s3 := by
  obtain ⟨s1, e1, w1, q1⟩ := x_add (d := d) (a := a) (XW_nil (s := s)) (by decide)
  obtain ⟨s2, e2, w2, q2⟩ := x_add (d := d) (a := b) w1 (by simp)
  obtain ⟨s3, e3, w3, q3⟩ := x_add (d := d) (a := c) w2 (by simp)
  have q0 : Eqx [4, 5] s (up s 4 1 0) := Eqx.rf.up (by simp)
  exact ⟨s1, s2, s3, e1, e2, e3, q0.tr q1, (q0.tr q1).tr q2, ((q0.tr q1).tr q2).tr q3, w3⟩
end XC4
