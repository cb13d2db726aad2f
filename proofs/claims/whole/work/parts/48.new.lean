/-! NEW OBJECTS -/
/-- below o all is as it was -/
def FrN (o : Nat) (M M' : Mem) : Prop := ∀ a, a < o → mS M' a = mS M a ∧ mI M' a = mI M a ∧ mR M' a = mR M a
theorem FrN.rf {o : Nat} {M : Mem} : FrN o M M := fun _ _ => ⟨rfl, rfl, rfl⟩
theorem FrN.tr {o : Nat} {M M1 M2 : Mem} (h1 : FrN o M M1) (h2 : FrN o M1 M2) : FrN o M M2 := fun a ha => ⟨(h2 a ha).1.trans (h1 a ha).1, (h2 a ha).2.1.trans (h1 a ha).2.1, (h2 a ha).2.2.trans (h1 a ha).2.2⟩
theorem FrN.mono {o o' : Nat} {M M1 : Mem} (h : FrN o M M1) (hl : o' ≤ o) : FrN o' M M1 := fun a ha => h a (by omega)
theorem mS_new (M : Mem) (t n b : Nat) : mS (mNew M t n) b = if b = mN M then (t, n) else mS M b := rfl
theorem mI_new (M : Mem) (t n b : Nat) : mI (mNew M t n) b = if b = mN M then (fun _ => 0) else mI M b := rfl
theorem mR_new (M : Mem) (t n b : Nat) : mR (mNew M t n) b = if b = mN M then (fun _ => 0) else mR M b := rfl
theorem FrN.new {M : Mem} {t n : Nat} : FrN (mN M) M (mNew M t n) := fun a ha => by
  rw [mS_new, mI_new, mR_new, if_neg (by omega), if_neg (by omega), if_neg (by omega)]
  exact ⟨rfl, rfl, rfl⟩
theorem FrN.uI {o : Nat} {M : Mem} {a i : Nat} {v : Int32} (h : o ≤ a) : FrN o M (uI M a i v) := fun b hb => ⟨rfl, uI_a _ _ _ _ _ (by omega), rfl⟩
theorem FrN.uR {o : Nat} {M : Mem} {a i v : Nat} (h : o ≤ a) : FrN o M (uR M a i v) := fun b hb => ⟨rfl, rfl, by rw [mR_uR, if_neg (by omega)]⟩
/-- a new cell, and a field that holds it -/
def nwF (M : Mem) (tt k x f : Nat) : Mem := uR (mNew M tt k) x f (mN M)
theorem nwF_eq {M : Mem} {tt k x f t n : Nat} (hs : mS M x = (t, n)) (hx : x < mN M) : pR (mNew M tt k) t x f (mN M) = some (nwF M tt k x f) := by
  unfold pR nwF
  rw [mS_new, if_neg (show ¬ x = mN M by omega), hs, if_pos rfl]
theorem nwF_N (M : Mem) (tt k x f : Nat) : mN (nwF M tt k x f) = mN M + 1 := rfl
theorem nwF_S (M : Mem) (tt k x f b : Nat) : mS (nwF M tt k x f) b = if b = mN M then (tt, k) else mS M b := rfl
theorem nwF_I (M : Mem) (tt k x f b : Nat) : mI (nwF M tt k x f) b = if b = mN M then (fun _ => 0) else mI M b := rfl
theorem nwF_R (M : Mem) (tt k x f b : Nat) (hx : x < mN M) : mR (nwF M tt k x f) b = if b = x then va_up (mR M x) f (mN M) else if b = mN M then (fun _ => 0) else mR M b := by
  unfold nwF
  rw [mR_uR, mR_new]
  by_cases e : b = x
  · subst e
    rw [if_pos rfl, if_pos rfl, if_neg (by omega)]
  · rw [if_neg e, if_neg e]
theorem town_new {M : Mem} {o : Nat} (ho : mN M = o) : ∃ M', F_X5_init o (mNew M 5 8) = some M' ∧ mN M' = o + 6 ∧ FrN o M M' ∧ TS M' o ∧ mI M' o 5 = 0 ∧ mI M' o 6 = 0 ∧ mI M' o 7 = 0 := by
  generalize hA : mNew M 5 8 = A
  have nA : mN A = o + 1 := by rw [← hA, ← ho]; rfl
  have sA : mS A o = (5, 8) := by rw [← hA, mS_new, if_pos ho.symm]
  have fA : FrN o M A := by rw [← hA, ← ho]; exact FrN.new
  -- five rows
  have row : ∀ (B : Mem) (i : Nat), mN B = o + 1 + i → mS B o = (5, 8) → pR (mNew B 10 7) 5 o i (mN B) = some (nwF B 10 7 o i) ∧ mN (nwF B 10 7 o i) = o + 1 + (i + 1) ∧ mS (nwF B 10 7 o i) o = (5, 8) ∧ FrN o B (nwF B 10 7 o i) ∧ mS (nwF B 10 7 o i) (o + 1 + i) = (10, 7) ∧ mR (nwF B 10 7 o i) o = va_up (mR B o) i (o + 1 + i) ∧ (∀ b, b < o + 1 + i → mS (nwF B 10 7 o i) b = mS B b) := by
    intro B i nB sB
    refine ⟨nwF_eq sB (by omega), by rw [nwF_N, nB]; rfl, by rw [nwF_S, if_neg (by omega)]; exact sB, fun a ha => ⟨by rw [nwF_S, if_neg (by omega)], by rw [nwF_I, if_neg (by omega)], by rw [nwF_R _ _ _ _ _ _ (by omega), if_neg (by omega), if_neg (by omega)]⟩, by rw [nwF_S, if_pos nB.symm], by rw [nwF_R _ _ _ _ _ _ (by omega), if_pos rfl, nB], fun b hb => by rw [nwF_S, if_neg (by omega)]⟩
  obtain ⟨p0, n0, s0, f0, t0, r0, q0⟩ := row A 0 nA sA
  generalize nwF A 10 7 o 0 = B0 at *
  obtain ⟨p1, n1, s1, f1, t1, r1, q1⟩ := row B0 1 n0 s0
  generalize nwF B0 10 7 o 1 = B1 at *
  obtain ⟨p2, n2, s2, f2, t2, r2, q2⟩ := row B1 2 n1 s1
  generalize nwF B1 10 7 o 2 = B2 at *
  obtain ⟨p3, n3, s3, f3, t3, r3, q3⟩ := row B2 3 n2 s2
  generalize nwF B2 10 7 o 3 = B3 at *
  obtain ⟨p4, n4, s4, f4, t4, r4, q4⟩ := row B3 4 n3 s3
  generalize nwF B3 10 7 o 4 = B4 at *
  refine ⟨uI (uI (uI B4 o 5 0) o 6 0) o 7 0, ?_, n4, ((((((((fA.tr f0).tr f1).tr f2).tr f3).tr f4).tr (FrN.uI (Nat.le_refl _))).tr (FrN.uI (Nat.le_refl _))).tr (FrN.uI (Nat.le_refl _))), ⟨s4, fun i hi => ?_⟩, ?_, ?_, ?_⟩
  · unfold F_X5_init
    rw [chkT_of sA, Option.bind_some, p0, Option.bind_some, p1, Option.bind_some, p2, Option.bind_some, p3, Option.bind_some, p4, Option.bind_some, pI_of s4, Option.bind_some, pI_of (M := uI B4 _ _ _) s4, Option.bind_some, pI_of (M := uI (uI B4 _ _ _) _ _ _) s4, Option.bind_some]
  · have hh : i = 0 ∨ i = 1 ∨ i = 2 ∨ i = 3 ∨ i = 4 := by omega
    show mS B4 (o + 1 + i) = (10, 7) ∧ mR B4 o i = o + 1 + i
    rcases hh with rfl | rfl | rfl | rfl | rfl
    · exact ⟨by rw [q4 _ (by omega), q3 _ (by omega), q2 _ (by omega), q1 _ (by omega)]; exact t0, by rw [r4, vu_ne (by omega), r3, vu_ne (by omega), r2, vu_ne (by omega), r1, vu_ne (by omega), r0, vu_eq]⟩
    · exact ⟨by rw [q4 _ (by omega), q3 _ (by omega), q2 _ (by omega)]; exact t1, by rw [r4, vu_ne (by omega), r3, vu_ne (by omega), r2, vu_ne (by omega), r1, vu_eq]⟩
    · exact ⟨by rw [q4 _ (by omega), q3 _ (by omega)]; exact t2, by rw [r4, vu_ne (by omega), r3, vu_ne (by omega), r2, vu_eq]⟩
    · exact ⟨by rw [q4 _ (by omega)]; exact t3, by rw [r4, vu_ne (by omega), r3, vu_eq]⟩
    · exact ⟨t4, by rw [r4, vu_eq]⟩
  · rw [mI_uI, if_pos rfl, upd_ne (by omega), mI_uI, if_pos rfl, upd_ne (by omega), mI_uI, if_pos rfl, upd_eq]
  · rw [mI_uI, if_pos rfl, upd_ne (by omega), mI_uI, if_pos rfl, upd_eq]
  · rw [mI_uI, if_pos rfl, upd_eq]
