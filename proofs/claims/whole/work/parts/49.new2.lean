/-! NEW NOTES, A NEW TEXT, TINTS AND CHANCE -/
theorem row_new {B : Mem} {o t n tt k : Nat} (i : Nat) (nB : mN B = o + 1 + i) (sB : mS B o = (t, n)) : pR (mNew B tt k) t o i (mN B) = some (nwF B tt k o i) ∧ mN (nwF B tt k o i) = o + 1 + (i + 1) ∧ mS (nwF B tt k o i) o = (t, n) ∧ FrN o B (nwF B tt k o i) ∧ mS (nwF B tt k o i) (o + 1 + i) = (tt, k) ∧ mR (nwF B tt k o i) o = va_up (mR B o) i (o + 1 + i) ∧ (∀ b, b < o + 1 + i → mS (nwF B tt k o i) b = mS B b) ∧ mI (nwF B tt k o i) o = mI B o :=
  ⟨nwF_eq sB (by omega), by rw [nwF_N, nB]; rfl, by rw [nwF_S, if_neg (by omega)]; exact sB, fun a ha => ⟨by rw [nwF_S, if_neg (by omega)], by rw [nwF_I, if_neg (by omega)], by rw [nwF_R _ _ _ _ _ _ (by omega), if_neg (by omega), if_neg (by omega)]⟩, by rw [nwF_S, if_pos nB.symm], by rw [nwF_R _ _ _ _ _ _ (by omega), if_pos rfl, nB], fun b hb => by rw [nwF_S, if_neg (by omega)], by rw [nwF_I, if_neg (by omega)]⟩
theorem new_at {M : Mem} {o t n : Nat} (ho : mN M = o) : mN (mNew M t n) = o + 1 + 0 ∧ mS (mNew M t n) o = (t, n) ∧ FrN o M (mNew M t n) ∧ mI (mNew M t n) o = fun _ => 0 := by
  refine ⟨by rw [← ho]; rfl, by rw [mS_new, if_pos ho.symm], by rw [← ho]; exact FrN.new, by rw [mI_new, if_pos ho.symm]⟩
theorem note_new {M : Mem} {o : Nat} (ho : mN M = o) : ∃ M', F_X1_init o (mNew M 1 4) = some M' ∧ mN M' = o + 4 ∧ FrN o M M' ∧ mS M' o = (1, 4) ∧ (∀ i, i < 3 → mS M' (o + 1 + i) = (10, 6) ∧ mR M' o i = o + 1 + i) ∧ mI M' o 3 = 0 := by
  obtain ⟨nA, sA, fA, -⟩ := new_at (t := 1) (n := 4) ho
  generalize mNew M 1 4 = A at *
  obtain ⟨p0, n0, s0, f0, t0, r0, q0, -⟩ := row_new (tt := 10) (k := 6) 0 nA sA
  generalize nwF A 10 6 o 0 = B0 at *
  obtain ⟨p1, n1, s1, f1, t1, r1, q1, -⟩ := row_new (tt := 10) (k := 6) 1 n0 s0
  generalize nwF B0 10 6 o 1 = B1 at *
  obtain ⟨p2, n2, s2, f2, t2, r2, q2, -⟩ := row_new (tt := 10) (k := 6) 2 n1 s1
  generalize nwF B1 10 6 o 2 = B2 at *
  refine ⟨uI B2 o 3 0, ?_, n2, (((fA.tr f0).tr f1).tr f2).tr (FrN.uI (Nat.le_refl _)), s2, fun i hi => ?_, by rw [mI_uI, if_pos rfl, upd_eq]⟩
  · unfold F_X1_init
    rw [chkT_of sA, Option.bind_some, p0, Option.bind_some, p1, Option.bind_some, p2, Option.bind_some, pI_of s2, Option.bind_some]
  · have hh : i = 0 ∨ i = 1 ∨ i = 2 := by omega
    show mS B2 (o + 1 + i) = (10, 6) ∧ mR B2 o i = o + 1 + i
    rcases hh with rfl | rfl | rfl
    · exact ⟨by rw [q2 _ (by omega), q1 _ (by omega)]; exact t0, by rw [r2, vu_ne (by omega), r1, vu_ne (by omega), r0, vu_eq]⟩
    · exact ⟨by rw [q2 _ (by omega)]; exact t1, by rw [r2, vu_ne (by omega), r1, vu_eq]⟩
    · exact ⟨t2, by rw [r2, vu_eq]⟩
theorem text_new {M : Mem} {o : Nat} (ho : mN M = o) : ∃ M', F_X3_init o (mNew M 3 3) = some M' ∧ mN M' = o + 3 ∧ FrN o M M' ∧ mS M' o = (3, 3) ∧ mS M' (o + 1) = (11, 200) ∧ mS M' (o + 2) = (10, 5) ∧ mR M' o 0 = o + 1 ∧ mR M' o 1 = o + 2 ∧ mI M' o 2 = 0 := by
  obtain ⟨nA, sA, fA, -⟩ := new_at (t := 3) (n := 3) ho
  generalize mNew M 3 3 = A at *
  obtain ⟨p0, n0, s0, f0, t0, r0, q0, -⟩ := row_new (tt := 11) (k := 200) 0 nA sA
  generalize nwF A 11 200 o 0 = B0 at *
  obtain ⟨p1, n1, s1, f1, t1, r1, q1, -⟩ := row_new (tt := 10) (k := 5) 1 n0 s0
  generalize nwF B0 10 5 o 1 = B1 at *
  refine ⟨uI B1 o 2 0, ?_, n1, ((fA.tr f0).tr f1).tr (FrN.uI (Nat.le_refl _)), s1, ?_, t1, ?_, ?_, by rw [mI_uI, if_pos rfl, upd_eq]⟩
  · unfold F_X3_init
    rw [chkT_of sA, Option.bind_some, p0, Option.bind_some, p1, Option.bind_some, pI_of s1, Option.bind_some]
  · exact (q1 _ (by omega)).trans t0
  · show mR B1 o 0 = o + 1
    rw [r1, vu_ne (by omega), r0, vu_eq]
  · show mR B1 o 1 = o + 2
    rw [r1, vu_eq]
theorem tints_new {M : Mem} {o : Nat} (ho : mN M = o) : ∃ M', F_X4_init o (mNew M 4 4) = some M' ∧ mN M' = o + 3 ∧ FrN o M M' ∧ mS M' o = (4, 4) ∧ mS M' (o + 1) = (10, 7) ∧ mS M' (o + 2) = (10, 7) ∧ mR M' o 0 = o + 1 ∧ mR M' o 1 = o + 2 := by
  obtain ⟨nA, sA, fA, -⟩ := new_at (t := 4) (n := 4) ho
  generalize mNew M 4 4 = A at *
  obtain ⟨p0, n0, s0, f0, t0, r0, q0, -⟩ := row_new (tt := 10) (k := 7) 0 nA sA
  generalize nwF A 10 7 o 0 = B0 at *
  obtain ⟨p1, n1, s1, f1, t1, r1, q1, -⟩ := row_new (tt := 10) (k := 7) 1 n0 s0
  generalize nwF B0 10 7 o 1 = B1 at *
  refine ⟨uI (uI B1 o 2 0) o 3 0, ?_, n1, (((fA.tr f0).tr f1).tr (FrN.uI (Nat.le_refl _))).tr (FrN.uI (Nat.le_refl _)), s1, ?_, t1, ?_, ?_⟩
  · unfold F_X4_init
    rw [chkT_of sA, Option.bind_some, p0, Option.bind_some, p1, Option.bind_some, pI_of s1, Option.bind_some, pI_of (M := uI B1 _ _ _) s1, Option.bind_some]
  · exact (q1 _ (by omega)).trans t0
  · show mR B1 o 0 = o + 1
    rw [r1, vu_ne (by omega), r0, vu_eq]
  · show mR B1 o 1 = o + 2
    rw [r1, vu_eq]
theorem chance_new {M : Mem} {o : Nat} (ho : mN M = o) : ∃ M', F_X0_init o (mNew M 0 2) = some M' ∧ mN M' = o + 3 ∧ FrN o M M' ∧ mS M' o = (0, 2) ∧ mS M' (o + 1) = (10, 12) ∧ mS M' (o + 2) = (10, 12) ∧ mR M' o 0 = o + 1 ∧ mR M' o 1 = o + 2 := by
  obtain ⟨nA, sA, fA, -⟩ := new_at (t := 0) (n := 2) ho
  generalize mNew M 0 2 = A at *
  obtain ⟨p0, n0, s0, f0, t0, r0, q0, -⟩ := row_new (tt := 10) (k := 12) 0 nA sA
  generalize nwF A 10 12 o 0 = B0 at *
  obtain ⟨p1, n1, s1, f1, t1, r1, q1, -⟩ := row_new (tt := 10) (k := 12) 1 n0 s0
  generalize nwF B0 10 12 o 1 = B1 at *
  refine ⟨B1, ?_, n1, (fA.tr f0).tr f1, s1, ?_, t1, ?_, ?_⟩
  · unfold F_X0_init
    rw [chkT_of sA, Option.bind_some, p0, Option.bind_some, p1, Option.bind_some]
  · exact (q1 _ (by omega)).trans t0
  · show mR B1 o 0 = o + 1
    rw [r1, vu_ne (by omega), r0, vu_eq]
  · show mR B1 o 1 = o + 2
    rw [r1, vu_eq]
