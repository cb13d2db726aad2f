/-! A NEW PILE -/
theorem TS.nf {M M' : Mem} {o q : Nat} (h : TS M o) (hf : FrN q M M') (hq : o + 6 ≤ q) : TS M' o := ⟨by rw [(hf o (by omega)).1]; exact h.1, fun i hi => ⟨by rw [(hf (o + 1 + i) (by omega)).1]; exact (h.2 i hi).1, by rw [(hf o (by omega)).2.2]; exact (h.2 i hi).2⟩⟩
theorem TS.ur {M : Mem} {o a i v : Nat} (h : TS M o) (ha : o ≠ a) : TS (uR M a i v) o := ⟨h.1, fun j hj => ⟨(h.2 j hj).1, by rw [mR_uR, if_neg ha]; exact (h.2 j hj).2⟩⟩
theorem jmax1 : ∀ c, c < 17 → 1 ≤ c → jmax 1 (nI c) = nI c := by decide +kernel
theorem pile_new {M : Mem} {o c : Nat} (ho : mN M = o) (hc1 : 1 ≤ c) (hc : c ≤ 16) : ∃ M', F_X2_init o (nI c) (mNew M 2 2) = some M' ∧ mN M' = o + 2 + 6 * c ∧ FrN o M M' ∧ mS M' o = (2, 2) ∧ mS M' (o + 1) = (12, c) ∧ mR M' o 0 = o + 1 ∧ mI M' o 1 = 0 ∧ ∀ k, k < c → TS M' (o + 2 + 6 * k) ∧ mR M' (o + 1) k = o + 2 + 6 * k := by
  obtain ⟨nX, sA, fA, -⟩ := new_at (t := 2) (n := 2) ho
  generalize mNew M 2 2 = A at *
  have key : ∀ (k i n : Nat) (B : Mem), i + k = c → k < n → mN B = o + 2 + 6 * i → FrN o M B → mS B o = (2, 2) → mS B (o + 1) = (12, c) → mR B o 0 = o + 1 → mI B o 1 = 0 → (∀ j, j < i → TS B (o + 2 + 6 * j) ∧ mR B (o + 1) j = o + 2 + 6 * j) →
      ∃ M', F_X2_init_23 n o (nI i) B = some M' ∧ mN M' = o + 2 + 6 * c ∧ FrN o M M' ∧ mS M' o = (2, 2) ∧ mS M' (o + 1) = (12, c) ∧ mR M' o 0 = o + 1 ∧ mI M' o 1 = 0 ∧ ∀ k, k < c → TS M' (o + 2 + 6 * k) ∧ mR M' (o + 1) k = o + 2 + 6 * k := by
    intro k
    induction k with
    | zero =>
      intro i n B hi hn h1 h2 h3 h4 h5 h6 h7
      obtain ⟨n, rfl, -⟩ := fu_get hn
      have : i = c := by omega
      subst this
      refine ⟨B, ?_, h1, h2, h3, h4, h5, h6, h7⟩
      simp only [F_X2_init_23]
      rw [fR_of h3, Option.bind_some, h5, aLen_12 h4, Option.bind_some, if_pos (nI_le (by omega) (by omega))]
    | succ k ih =>
      intro i n B hi hn h1 h2 h3 h4 h5 h6 h7
      obtain ⟨n, rfl, hn⟩ := fu_get hn
      obtain ⟨B1, t1, t2, t3, t4, -⟩ := town_new h1
      have ck : chkT (mNew B 5 8) 5 (o + 2 + 6 * i) = some () := chkT_of (n := 8) (by rw [mS_new, if_pos h1.symm])
      have u3 : mS B1 o = (2, 2) := by rw [(t3 o (by omega)).1]; exact h3
      have u4 : mS B1 (o + 1) = (12, c) := by rw [(t3 (o + 1) (by omega)).1]; exact h4
      obtain ⟨M', g1, g2⟩ := ih (i + 1) n (uR B1 (o + 1) i (o + 2 + 6 * i)) (by omega) (by omega) (show mN B1 = _ by rw [t2]; omega) ((h2.tr (t3.mono (by omega))).tr (FrN.uR (by omega))) u3 u4 (by rw [mR_uR, if_neg (by omega), (t3 o (by omega)).2.2]; exact h5) (show mI B1 o 1 = 0 by rw [(t3 o (by omega)).2.1]; exact h6) (fun j hj => by
        by_cases e : j = i
        · subst e
          exact ⟨t4.ur (by omega), by rw [mR_uR, if_pos rfl, vu_eq]⟩
        · obtain ⟨a, b⟩ := h7 j (by omega)
          exact ⟨(a.nf t3 (by omega)).ur (by omega), by rw [mR_uR, if_pos rfl, vu_ne e, (t3 (o + 1) (by omega)).2.2]; exact b⟩)
      refine ⟨M', ?_, g2⟩
      simp only [F_X2_init_23]
      rw [fR_of h3, Option.bind_some, h5, aLen_12 h4, Option.bind_some, if_neg (nI_ge (by omega) (by omega)), Option.bind_some, h1, ck, Option.bind_some, t1, Option.bind_some, stR_nI u4 t4.1 (by omega) (by omega), Option.bind_some, nI_1]
      exact g1
  have s1 : mS (uI A o 1 0) o = (2, 2) := sA
  have n1 : mN (uI A o 1 0) = o + 1 + 0 := nX
  obtain ⟨p0, n0, s0, f0, t0, r0, q0, i0⟩ := row_new (tt := 12) (k := c) 0 n1 s1
  obtain ⟨M', g1, g2⟩ := key c 0 17 (nwF (uI A o 1 0) 12 c o 0) (by omega) (by omega) (by rw [n0]) ((fA.tr (FrN.uI (Nat.le_refl _))).tr f0) s0 t0 (by rw [r0, vu_eq]) (by rw [i0, mI_uI, if_pos rfl, upd_eq]) (fun j hj => absurd hj (Nat.not_lt_zero j))
  refine ⟨M', ?_, g2⟩
  unfold F_X2_init
  rw [chkT_of sA, Option.bind_some, pI_of sA, Option.bind_some, jmax1 c (by omega) hc1]
  have hn : nA (uI A o 1 0) (nI c) = some (mNew (uI A o 1 0) 12 c) := by
    unfold nA
    rw [nI_clamp (by omega), if_neg (fun z => z.elim (nI_pos (by omega)) (fun y => absurd y (by omega)))]
  rw [hn, Option.bind_some, p0, Option.bind_some]
  exact g1
