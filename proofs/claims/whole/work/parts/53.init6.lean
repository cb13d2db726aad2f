/-! THE CLASS, NEW: its first town -/
theorem aLen_13 {M : Mem} {a n : Nat} (h : mS M a = (13, n)) : aLen M a = some (nI n) := by unfold aLen; rw [h]; simp; rfl
theorem c_set : ∀ (k c n : Nat) (M : Mem), c + k = 7 → k < n → mS M 2 = (13, 35) → (∀ j, j < 35 → mI M 2 j = tab2.getD j 0) → mS M 5 = (6, 10) → mR M 5 1 = 9 → TA M 9 (fT c) → ∃ M', F_X6_init_116 n 5 (nI (5 * c)) M = some M' ∧ Fr (oT 9) M M' ∧ TA M' 9 (fT 7) := by
  intro k
  induction k with
  | zero =>
    intro c n M hc hn h2 ht h5 h1 ha
    obtain ⟨n, rfl, -⟩ := fu_get hn
    have : c = 7 := by omega
    subst this
    refine ⟨M, ?_, Fr.rf, ha⟩
    simp only [F_X6_init_116]
    rw [aLen_13 h2, Option.bind_some, if_pos (show nI 35 ≤ nI (5 * 7) + 4 by decide)]
  | succ k ih =>
    intro c n M hc hn h2 ht h5 h1 ha
    obtain ⟨n, rfl, hn⟩ := fu_get hn
    obtain ⟨M1, g1, g2, g3⟩ := town_settle (T' := fT (c + 1)) ha (show c < 7 by omega) (tab2.getD (5 * c) 0) (tab2.getD (5 * c + 1) 0) (tab2.getD (5 * c + 2) 0) (tab2.getD (5 * c + 3) 0) (tab2.getD (5 * c + 4) 0) rfl rfl rfl (fun j _ => fT_up c j)
    obtain ⟨M2, b1, b2, b3⟩ := ih (c + 1) n M1 (by omega) (by omega) (by rw [g2.s]; exact h2) (by rw [g2.i (show ¬ oT 9 2 by unfold oT; omega)]; exact ht) (by rw [g2.s]; exact h5) (by rw [g2.r (show ¬ Rf 5 by unfold Rf; omega)]; exact h1) g3
    refine ⟨M2, ?_, g2.tr b2, b3⟩
    have l : ∀ j, j < 35 → ldI M 2 (nI j) = some (tab2.getD j 0) := fun j hj => by rw [ldI_13 h2 hj (by omega), ht j hj]
    have a : ∀ (q : Nat) (Q : Int32), Q = nI q → nI (5 * c) + Q = nI (5 * c + q) := fun q Q hQ => by rw [hQ, nI_add]
    simp only [F_X6_init_116]
    rw [aLen_13 h2, Option.bind_some, a 4 4 rfl, if_neg (nI_ge (by omega) (by omega)), fR_of h5, Option.bind_some, h1, l (5 * c) (by omega), Option.bind_some, a 1 1 rfl, l (5 * c + 1) (by omega), Option.bind_some, a 2 2 rfl, l (5 * c + 2) (by omega), Option.bind_some, a 3 3 rfl, l (5 * c + 3) (by omega), Option.bind_some, l (5 * c + 4) (by omega), Option.bind_some, ha.ck, Option.bind_some, g1, Option.bind_some, a 5 5 rfl]
    exact b1
