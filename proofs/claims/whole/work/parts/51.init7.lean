/-! THE REFERENCE, NEW -/
def rf7 : List (Nat × Nat) := [(1, 7), (4, 7), (5, 7), (6, 7), (7, 7), (9, 6), (10, 6), (11, 6), (13, 6), (14, 6), (15, 200), (19, 35), (21, 240), (23, 30), (25, 7), (26, 7), (27, 7), (28, 60)]
def fs7 (i : Nat) : Nat := (rf7.getD i (0, 0)).1
def sz7 (i : Nat) : Nat := (rf7.getD i (0, 0)).2
theorem fs7_ne : ∀ i, i < 18 → ∀ j, j < i → fs7 j ≠ fs7 i := by decide +kernel
/-- the first i rows are there -/
def I7 (M : Mem) (i : Nat) (B : Mem) : Prop := mN B = 101 + i ∧ mS B 100 = (7, 30) ∧ (∀ j, j < i → mR B 100 (fs7 j) = 101 + j ∧ mS B (101 + j) = (10, sz7 j)) ∧ mI B 100 = (fun _ => 0) ∧ FrN 100 M B
theorem s7 {M B : Mem} (i : Nat) (hi : i < 18) (h : I7 M i B) : pR (mNew B 10 (sz7 i)) 7 100 (fs7 i) (mN B) = some (nwF B 10 (sz7 i) 100 (fs7 i)) ∧ I7 M (i + 1) (nwF B 10 (sz7 i) 100 (fs7 i)) := by
  obtain ⟨h1, h2, h3, h4, h5⟩ := h
  refine ⟨nwF_eq h2 (by omega), by rw [nwF_N, h1]; rfl, by rw [nwF_S, if_neg (by omega)]; exact h2, fun j hj => ?_, by rw [nwF_I, if_neg (by omega)]; exact h4, fun a ha => ⟨by rw [nwF_S, if_neg (by omega)]; exact (h5 a ha).1, by rw [nwF_I, if_neg (by omega)]; exact (h5 a ha).2.1, by rw [nwF_R _ _ _ _ _ _ (by omega), if_neg (by omega), if_neg (by omega)]; exact (h5 a ha).2.2⟩⟩
  rw [nwF_R _ _ _ _ _ _ (by omega), if_pos rfl, nwF_S]
  by_cases e : j = i
  · subst e
    exact ⟨by rw [vu_eq, h1], by rw [if_pos h1.symm]⟩
  · rw [vu_ne (fs7_ne i hi j (by omega)), if_neg (by omega)]
    exact h3 j (by omega)
theorem rs_of {M B : Mem} (h : I7 M 18 B) : RS B := by
  refine ⟨h.2.1, fun f hf => ?_⟩
  have g : ∀ j, j < 18 → f = fs7 j → (rIx f).1 = 101 + j → (rIx f).2 = sz7 j → mR B 100 f = (rIx f).1 ∧ mS B (rIx f).1 = (10, (rIx f).2) := by
    intro j hj e1 e2 e3
    rw [e2, e3, e1]
    exact h.2.2.1 j hj
  unfold rIx at hf
  split at hf
  · exact g 0 (by omega) rfl rfl rfl
  · exact g 1 (by omega) rfl rfl rfl
  · exact g 2 (by omega) rfl rfl rfl
  · exact g 3 (by omega) rfl rfl rfl
  · exact g 4 (by omega) rfl rfl rfl
  · exact g 5 (by omega) rfl rfl rfl
  · exact g 6 (by omega) rfl rfl rfl
  · exact g 7 (by omega) rfl rfl rfl
  · exact g 8 (by omega) rfl rfl rfl
  · exact g 9 (by omega) rfl rfl rfl
  · exact g 10 (by omega) rfl rfl rfl
  · exact g 11 (by omega) rfl rfl rfl
  · exact g 12 (by omega) rfl rfl rfl
  · exact g 13 (by omega) rfl rfl rfl
  · exact g 14 (by omega) rfl rfl rfl
  · exact g 15 (by omega) rfl rfl rfl
  · exact g 16 (by omega) rfl rfl rfl
  · exact g 17 (by omega) rfl rfl rfl
  · exact absurd rfl hf
theorem init7 {M : Mem} (hM : mN M = 100) : ∃ B, RS B ∧ mI B 100 = (fun _ => 0) ∧ FrN 100 M B ∧ mN B = 119 ∧ ∀ (r : Mem → Option Mem), ((chkT (mNew M 7 30) 7 100).bind fun v1 =>
  (pR (mNew (mNew M 7 30) 10 7) 7 100 1 (mN (mNew M 7 30))).bind fun m2 =>
  (pR (mNew m2 10 7) 7 100 4 (mN m2)).bind fun m3 =>
  (pR (mNew m3 10 7) 7 100 5 (mN m3)).bind fun m4 =>
  (pR (mNew m4 10 7) 7 100 6 (mN m4)).bind fun m5 =>
  (pR (mNew m5 10 7) 7 100 7 (mN m5)).bind fun m6 =>
  (pR (mNew m6 10 6) 7 100 9 (mN m6)).bind fun m7 =>
  (pR (mNew m7 10 6) 7 100 10 (mN m7)).bind fun m8 =>
  (pR (mNew m8 10 6) 7 100 11 (mN m8)).bind fun m9 =>
  (pR (mNew m9 10 6) 7 100 13 (mN m9)).bind fun m10 =>
  (pR (mNew m10 10 6) 7 100 14 (mN m10)).bind fun m11 =>
  (pR (mNew m11 10 200) 7 100 15 (mN m11)).bind fun m12 =>
  (pR (mNew m12 10 35) 7 100 19 (mN m12)).bind fun m13 =>
  (pR (mNew m13 10 240) 7 100 21 (mN m13)).bind fun m14 =>
  (pR (mNew m14 10 30) 7 100 23 (mN m14)).bind fun m15 =>
  (pR (mNew m15 10 7) 7 100 25 (mN m15)).bind fun m16 =>
  (pR (mNew m16 10 7) 7 100 26 (mN m16)).bind fun m17 =>
  (pR (mNew m17 10 7) 7 100 27 (mN m17)).bind fun m18 =>
  (pR (mNew m18 10 60) 7 100 28 (mN m18)).bind fun m19 =>
  r m19) = r B := by
  obtain ⟨nA, sA, fA, iA⟩ := new_at (t := 7) (n := 30) hM
  have i0 : I7 M 0 (mNew M 7 30) := ⟨nA, sA, fun j hj => absurd hj (Nat.not_lt_zero j), iA, fA⟩
  generalize mNew M 7 30 = B0 at *
  obtain ⟨p0, i1⟩ := s7 0 (by omega) i0
  have p0 : pR (mNew B0 10 7) 7 100 1 (mN B0) = some (nwF B0 10 (sz7 0) 100 (fs7 0)) := p0
  generalize nwF B0 10 (sz7 0) 100 (fs7 0) = B1 at *
  obtain ⟨p1, i2⟩ := s7 1 (by omega) i1
  have p1 : pR (mNew B1 10 7) 7 100 4 (mN B1) = some (nwF B1 10 (sz7 1) 100 (fs7 1)) := p1
  generalize nwF B1 10 (sz7 1) 100 (fs7 1) = B2 at *
  obtain ⟨p2, i3⟩ := s7 2 (by omega) i2
  have p2 : pR (mNew B2 10 7) 7 100 5 (mN B2) = some (nwF B2 10 (sz7 2) 100 (fs7 2)) := p2
  generalize nwF B2 10 (sz7 2) 100 (fs7 2) = B3 at *
  obtain ⟨p3, i4⟩ := s7 3 (by omega) i3
  have p3 : pR (mNew B3 10 7) 7 100 6 (mN B3) = some (nwF B3 10 (sz7 3) 100 (fs7 3)) := p3
  generalize nwF B3 10 (sz7 3) 100 (fs7 3) = B4 at *
  obtain ⟨p4, i5⟩ := s7 4 (by omega) i4
  have p4 : pR (mNew B4 10 7) 7 100 7 (mN B4) = some (nwF B4 10 (sz7 4) 100 (fs7 4)) := p4
  generalize nwF B4 10 (sz7 4) 100 (fs7 4) = B5 at *
  obtain ⟨p5, i6⟩ := s7 5 (by omega) i5
  have p5 : pR (mNew B5 10 6) 7 100 9 (mN B5) = some (nwF B5 10 (sz7 5) 100 (fs7 5)) := p5
  generalize nwF B5 10 (sz7 5) 100 (fs7 5) = B6 at *
  obtain ⟨p6, i7⟩ := s7 6 (by omega) i6
  have p6 : pR (mNew B6 10 6) 7 100 10 (mN B6) = some (nwF B6 10 (sz7 6) 100 (fs7 6)) := p6
  generalize nwF B6 10 (sz7 6) 100 (fs7 6) = B7 at *
  obtain ⟨p7, i8⟩ := s7 7 (by omega) i7
  have p7 : pR (mNew B7 10 6) 7 100 11 (mN B7) = some (nwF B7 10 (sz7 7) 100 (fs7 7)) := p7
  generalize nwF B7 10 (sz7 7) 100 (fs7 7) = B8 at *
  obtain ⟨p8, i9⟩ := s7 8 (by omega) i8
  have p8 : pR (mNew B8 10 6) 7 100 13 (mN B8) = some (nwF B8 10 (sz7 8) 100 (fs7 8)) := p8
  generalize nwF B8 10 (sz7 8) 100 (fs7 8) = B9 at *
  obtain ⟨p9, i10⟩ := s7 9 (by omega) i9
  have p9 : pR (mNew B9 10 6) 7 100 14 (mN B9) = some (nwF B9 10 (sz7 9) 100 (fs7 9)) := p9
  generalize nwF B9 10 (sz7 9) 100 (fs7 9) = B10 at *
  obtain ⟨p10, i11⟩ := s7 10 (by omega) i10
  have p10 : pR (mNew B10 10 200) 7 100 15 (mN B10) = some (nwF B10 10 (sz7 10) 100 (fs7 10)) := p10
  generalize nwF B10 10 (sz7 10) 100 (fs7 10) = B11 at *
  obtain ⟨p11, i12⟩ := s7 11 (by omega) i11
  have p11 : pR (mNew B11 10 35) 7 100 19 (mN B11) = some (nwF B11 10 (sz7 11) 100 (fs7 11)) := p11
  generalize nwF B11 10 (sz7 11) 100 (fs7 11) = B12 at *
  obtain ⟨p12, i13⟩ := s7 12 (by omega) i12
  have p12 : pR (mNew B12 10 240) 7 100 21 (mN B12) = some (nwF B12 10 (sz7 12) 100 (fs7 12)) := p12
  generalize nwF B12 10 (sz7 12) 100 (fs7 12) = B13 at *
  obtain ⟨p13, i14⟩ := s7 13 (by omega) i13
  have p13 : pR (mNew B13 10 30) 7 100 23 (mN B13) = some (nwF B13 10 (sz7 13) 100 (fs7 13)) := p13
  generalize nwF B13 10 (sz7 13) 100 (fs7 13) = B14 at *
  obtain ⟨p14, i15⟩ := s7 14 (by omega) i14
  have p14 : pR (mNew B14 10 7) 7 100 25 (mN B14) = some (nwF B14 10 (sz7 14) 100 (fs7 14)) := p14
  generalize nwF B14 10 (sz7 14) 100 (fs7 14) = B15 at *
  obtain ⟨p15, i16⟩ := s7 15 (by omega) i15
  have p15 : pR (mNew B15 10 7) 7 100 26 (mN B15) = some (nwF B15 10 (sz7 15) 100 (fs7 15)) := p15
  generalize nwF B15 10 (sz7 15) 100 (fs7 15) = B16 at *
  obtain ⟨p16, i17⟩ := s7 16 (by omega) i16
  have p16 : pR (mNew B16 10 7) 7 100 27 (mN B16) = some (nwF B16 10 (sz7 16) 100 (fs7 16)) := p16
  generalize nwF B16 10 (sz7 16) 100 (fs7 16) = B17 at *
  obtain ⟨p17, i18⟩ := s7 17 (by omega) i17
  have p17 : pR (mNew B17 10 60) 7 100 28 (mN B17) = some (nwF B17 10 (sz7 17) 100 (fs7 17)) := p17
  generalize nwF B17 10 (sz7 17) 100 (fs7 17) = B18 at *
  refine ⟨B18, rs_of i18, i18.2.2.2.1, i18.2.2.2.2, i18.1, fun r => ?_⟩
  rw [chkT_of sA, Option.bind_some, p0, Option.bind_some, p1, Option.bind_some, p2, Option.bind_some, p3, Option.bind_some, p4, Option.bind_some, p5, Option.bind_some, p6, Option.bind_some, p7, Option.bind_some, p8, Option.bind_some, p9, Option.bind_some, p10, Option.bind_some, p11, Option.bind_some, p12, Option.bind_some, p13, Option.bind_some, p14, Option.bind_some, p15, Option.bind_some, p16, Option.bind_some, p17, Option.bind_some]
