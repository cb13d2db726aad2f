/-! THE CLASS, NEW: the constructor -/
def I6 (M : Mem) (o : Nat) (B : Mem) : Prop := mN B = o ∧ mS B 5 = (6, 10) ∧ FrN 5 M B
def Kp (hi : Nat) (B C : Mem) : Prop := ∀ a, 6 ≤ a → a < hi → mS C a = mS B a ∧ mI C a = mI B a ∧ mR C a = mR B a
theorem Kp.tr {h1 h2 : Nat} {B C D : Mem} (x : Kp h1 B C) (y : Kp h2 C D) (hl : h1 ≤ h2) : Kp h1 B D := fun a h6 ha => by
  obtain ⟨p1, p2, p3⟩ := x a h6 ha
  obtain ⟨q1, q2, q3⟩ := y a h6 (by omega)
  exact ⟨q1.trans p1, q2.trans p2, q3.trans p3⟩
theorem TS.kp {B Z : Mem} {o hi : Nat} (h : TS B o) (k : Kp hi B Z) (h6 : 6 ≤ o) (hh : o + 6 ≤ hi) : TS Z o := ⟨by rw [(k o h6 (by omega)).1]; exact h.1, fun i hi => ⟨by rw [(k (o + 1 + i) (by omega) (by omega)).1]; exact (h.2 i hi).1, by rw [(k o h6 (by omega)).2.2]; exact (h.2 i hi).2⟩⟩
theorem i6 {M B B' : Mem} {o o' : Nat} (i : Nat) (hB : I6 M o B) (h6 : 6 ≤ o) (hf : FrN o B B') (hn : mN B' = o') : ∃ C, pR B' 6 5 i o = some C ∧ I6 M o' C ∧ Kp o B C ∧ Kp o' B' C ∧ mR C 5 = va_up (mR B 5) i o := by
  obtain ⟨h1, h2, h3⟩ := hB
  have s5 : mS B' 5 = (6, 10) := by rw [(hf 5 (by omega)).1]; exact h2
  refine ⟨uR B' 5 i o, pR_of s5, ⟨hn, s5, (h3.tr (hf.mono (by omega))).tr (FrN.uR (Nat.le_refl _))⟩, fun a h ha => ?_, fun a h ha => ?_, ?_⟩
  · obtain ⟨q1, q2, q3⟩ := hf a ha
    exact ⟨q1, q2, by rw [mR_uR, if_neg (by omega)]; exact q3⟩
  · exact ⟨rfl, rfl, by rw [mR_uR, if_neg (by omega)]⟩
  · rw [mR_uR, if_pos rfl, (hf 5 (by omega)).2.2]
theorem c_init {M : Mem} (hM : mN M = 5) (m2 : mS M 2 = (13, 35)) (t2 : ∀ j, j < 35 → mI M 2 j = tab2.getD j 0) (m3 : mS M 3 = (13, 5)) (m4 : mS M 4 = (13, 5)) (t34 : ∀ j, j < 5 → mI M 3 j = tab3.getD j 0 ∧ mI M 4 j = tab4.getD j 0) : ∃ M', F_X6_init 5 (mNew M 6 10) = some M' ∧ mN M' = 100 ∧ CI M' G0 ∧ FrN 5 M M' := by
  obtain ⟨nA, sA, fA, -⟩ := new_at (t := 6) (n := 10) hM
  have ck : chkT (mNew M 6 10) 6 5 = some () := chkT_of sA
  have c0 : I6 M 6 (mNew M 6 10) := ⟨nA, sA, fA⟩
  generalize mNew M 6 10 = C0 at *
  obtain ⟨B0, e0, n0, f0, s0_0, s0_1, s0_2, s0_3, s0_4, s0_5⟩ := text_new c0.1
  obtain ⟨C1, p0, c1, k0, l0, r0⟩ := i6 (o' := 9) 0 c0 (by omega) f0 n0
  obtain ⟨B1, e1, n1, f1, s1_0, s1_1, s1_2, s1_3⟩ := town_new c1.1
  obtain ⟨C2, p1, c2, k1, l1, r1⟩ := i6 (o' := 15) 1 c1 (by omega) f1 n1
  obtain ⟨B2, e2, n2, f2, s2_0, s2_1, s2_2, s2_3⟩ := town_new c2.1
  obtain ⟨C3, p2, c3, k2, l2, r2⟩ := i6 (o' := 21) 2 c2 (by omega) f2 n2
  obtain ⟨B3, e3, n3, f3, s3_0, s3_1, s3_2, s3_3, s3_4⟩ := pile_new (c := 8) c3.1 (by omega) (by omega)
  have e3 : F_X2_init 21 (8 : Int32) (mNew C3 2 2) = some B3 := e3
  obtain ⟨C4, p3, c4, k3, l3, r3⟩ := i6 (o' := 71) 3 c3 (by omega) f3 n3
  obtain ⟨B4, e4, n4, f4, s4_0, s4_1, s4_2, s4_3, s4_4⟩ := pile_new (c := 2) c4.1 (by omega) (by omega)
  have e4 : F_X2_init 71 (2 : Int32) (mNew C4 2 2) = some B4 := e4
  obtain ⟨C5, p4, c5, k4, l4, r4⟩ := i6 (o' := 85) 4 c4 (by omega) f4 n4
  obtain ⟨B5, e5, n5, f5, s5_0, s5_1, s5_2⟩ := note_new c5.1
  obtain ⟨C6, p5, c6, k5, l5, r5⟩ := i6 (o' := 89) 5 c5 (by omega) f5 n5
  obtain ⟨B6, e6, n6, f6, s6_0, s6_1, s6_2⟩ := note_new c6.1
  obtain ⟨C7, p6, c7, k6, l6, r6⟩ := i6 (o' := 93) 6 c6 (by omega) f6 n6
  obtain ⟨B7, e7, n7, f7, s7_0, s7_1, s7_2, s7_3, s7_4⟩ := tints_new c7.1
  obtain ⟨C8, p7, c8, k7, l7, r7⟩ := i6 (o' := 96) 7 c7 (by omega) f7 n7
  obtain ⟨B8, e8, n8, f8, s8_0, s8_1, s8_2, s8_3, s8_4⟩ := chance_new c8.1
  obtain ⟨C9, p8, c9, k8, l8, r8⟩ := i6 (o' := 99) 8 c8 (by omega) f8 n8
  obtain ⟨nZ, sZ, fZ, -⟩ := new_at (t := 10) (n := 13) c9.1
  obtain ⟨Z, p9, c10, k9, l9, r9⟩ := i6 (o' := 100) 9 c9 (by omega) fZ nZ
  have K9 : Kp 100 (mNew C9 10 13) Z := l9
  have H8 : Kp 99 C9 Z := k9
  have K8 : Kp 99 B8 Z := l8.tr H8 (by omega)
  have H7 : Kp 96 C8 Z := k8.tr H8 (by omega)
  have K7 : Kp 96 B7 Z := l7.tr H7 (by omega)
  have H6 : Kp 93 C7 Z := k7.tr H7 (by omega)
  have K6 : Kp 93 B6 Z := l6.tr H6 (by omega)
  have H5 : Kp 89 C6 Z := k6.tr H6 (by omega)
  have K5 : Kp 89 B5 Z := l5.tr H5 (by omega)
  have H4 : Kp 85 C5 Z := k5.tr H5 (by omega)
  have K4 : Kp 85 B4 Z := l4.tr H4 (by omega)
  have H3 : Kp 71 C4 Z := k4.tr H4 (by omega)
  have K3 : Kp 71 B3 Z := l3.tr H3 (by omega)
  have H2 : Kp 21 C3 Z := k3.tr H3 (by omega)
  have K2 : Kp 21 B2 Z := l2.tr H2 (by omega)
  have H1 : Kp 15 C2 Z := k2.tr H2 (by omega)
  have K1 : Kp 15 B1 Z := l1.tr H1 (by omega)
  have H0 : Kp 9 C1 Z := k1.tr H1 (by omega)
  have K0 : Kp 9 B0 Z := l0.tr H0 (by omega)
  have R0 : mR Z 5 0 = 6 := by rw [r9, vu_ne (by omega), r8, vu_ne (by omega), r7, vu_ne (by omega), r6, vu_ne (by omega), r5, vu_ne (by omega), r4, vu_ne (by omega), r3, vu_ne (by omega), r2, vu_ne (by omega), r1, vu_ne (by omega), r0, vu_eq]
  have R1 : mR Z 5 1 = 9 := by rw [r9, vu_ne (by omega), r8, vu_ne (by omega), r7, vu_ne (by omega), r6, vu_ne (by omega), r5, vu_ne (by omega), r4, vu_ne (by omega), r3, vu_ne (by omega), r2, vu_ne (by omega), r1, vu_eq]
  have R2 : mR Z 5 2 = 15 := by rw [r9, vu_ne (by omega), r8, vu_ne (by omega), r7, vu_ne (by omega), r6, vu_ne (by omega), r5, vu_ne (by omega), r4, vu_ne (by omega), r3, vu_ne (by omega), r2, vu_eq]
  have R3 : mR Z 5 3 = 21 := by rw [r9, vu_ne (by omega), r8, vu_ne (by omega), r7, vu_ne (by omega), r6, vu_ne (by omega), r5, vu_ne (by omega), r4, vu_ne (by omega), r3, vu_eq]
  have R4 : mR Z 5 4 = 71 := by rw [r9, vu_ne (by omega), r8, vu_ne (by omega), r7, vu_ne (by omega), r6, vu_ne (by omega), r5, vu_ne (by omega), r4, vu_eq]
  have R5 : mR Z 5 5 = 85 := by rw [r9, vu_ne (by omega), r8, vu_ne (by omega), r7, vu_ne (by omega), r6, vu_ne (by omega), r5, vu_eq]
  have R6 : mR Z 5 6 = 89 := by rw [r9, vu_ne (by omega), r8, vu_ne (by omega), r7, vu_ne (by omega), r6, vu_eq]
  have R7 : mR Z 5 7 = 93 := by rw [r9, vu_ne (by omega), r8, vu_ne (by omega), r7, vu_eq]
  have R8 : mR Z 5 8 = 96 := by rw [r9, vu_ne (by omega), r8, vu_eq]
  have R9 : mR Z 5 9 = 99 := by rw [r9, vu_eq]
  have S6 : mS Z 6 = (3, 3) := by rw [(K0 6 (by omega) (by omega)).1]; exact s0_0
  have S7 : mS Z 7 = (11, 200) := by rw [(K0 7 (by omega) (by omega)).1]; exact s0_1
  have S8 : mS Z 8 = (10, 5) := by rw [(K0 8 (by omega) (by omega)).1]; exact s0_2
  have R6_0 : mR Z 6 0 = 7 := by rw [(K0 6 (by omega) (by omega)).2.2]; exact s0_3
  have R6_1 : mR Z 6 1 = 8 := by rw [(K0 6 (by omega) (by omega)).2.2]; exact s0_4
  have J6_2 : mI Z 6 2 = 0 := by rw [(K0 6 (by omega) (by omega)).2.1]; exact s0_5
  have T9 : TS Z 9 := s1_0.kp K1 (by omega) (by omega)
  have J9_5 : mI Z 9 5 = 0 := by rw [(K1 9 (by omega) (by omega)).2.1]; exact s1_1
  have J9_6 : mI Z 9 6 = 0 := by rw [(K1 9 (by omega) (by omega)).2.1]; exact s1_2
  have J9_7 : mI Z 9 7 = 0 := by rw [(K1 9 (by omega) (by omega)).2.1]; exact s1_3
  have T15 : TS Z 15 := s2_0.kp K2 (by omega) (by omega)
  have S21 : mS Z 21 = (2, 2) := by rw [(K3 21 (by omega) (by omega)).1]; exact s3_0
  have S22 : mS Z 22 = (12, 8) := by rw [(K3 22 (by omega) (by omega)).1]; exact s3_1
  have R21_0 : mR Z 21 0 = 22 := by rw [(K3 21 (by omega) (by omega)).2.2]; exact s3_2
  have J21_1 : mI Z 21 1 = 0 := by rw [(K3 21 (by omega) (by omega)).2.1]; exact s3_3
  have P21 : ∀ k, k < 8 → TS Z (21 + 2 + 6 * k) ∧ mR Z 22 k = 21 + 2 + 6 * k := fun k hk => ⟨(s3_4 k hk).1.kp K3 (by omega) (by omega), by rw [(K3 22 (by omega) (by omega)).2.2]; exact (s3_4 k hk).2⟩
  have S71 : mS Z 71 = (2, 2) := by rw [(K4 71 (by omega) (by omega)).1]; exact s4_0
  have S72 : mS Z 72 = (12, 2) := by rw [(K4 72 (by omega) (by omega)).1]; exact s4_1
  have R71_0 : mR Z 71 0 = 72 := by rw [(K4 71 (by omega) (by omega)).2.2]; exact s4_2
  have J71_1 : mI Z 71 1 = 0 := by rw [(K4 71 (by omega) (by omega)).2.1]; exact s4_3
  have P71 : ∀ k, k < 2 → TS Z (71 + 2 + 6 * k) ∧ mR Z 72 k = 71 + 2 + 6 * k := fun k hk => ⟨(s4_4 k hk).1.kp K4 (by omega) (by omega), by rw [(K4 72 (by omega) (by omega)).2.2]; exact (s4_4 k hk).2⟩
  have S85 : mS Z 85 = (1, 4) := by rw [(K5 85 (by omega) (by omega)).1]; exact s5_0
  have S86 : mS Z 86 = (10, 6) := by rw [(K5 86 (by omega) (by omega)).1]; exact (s5_1 0 (by omega)).1
  have R85_0 : mR Z 85 0 = 86 := by rw [(K5 85 (by omega) (by omega)).2.2]; exact (s5_1 0 (by omega)).2
  have S87 : mS Z 87 = (10, 6) := by rw [(K5 87 (by omega) (by omega)).1]; exact (s5_1 1 (by omega)).1
  have R85_1 : mR Z 85 1 = 87 := by rw [(K5 85 (by omega) (by omega)).2.2]; exact (s5_1 1 (by omega)).2
  have S88 : mS Z 88 = (10, 6) := by rw [(K5 88 (by omega) (by omega)).1]; exact (s5_1 2 (by omega)).1
  have R85_2 : mR Z 85 2 = 88 := by rw [(K5 85 (by omega) (by omega)).2.2]; exact (s5_1 2 (by omega)).2
  have J85_3 : mI Z 85 3 = 0 := by rw [(K5 85 (by omega) (by omega)).2.1]; exact s5_2
  have S89 : mS Z 89 = (1, 4) := by rw [(K6 89 (by omega) (by omega)).1]; exact s6_0
  have S90 : mS Z 90 = (10, 6) := by rw [(K6 90 (by omega) (by omega)).1]; exact (s6_1 0 (by omega)).1
  have R89_0 : mR Z 89 0 = 90 := by rw [(K6 89 (by omega) (by omega)).2.2]; exact (s6_1 0 (by omega)).2
  have S91 : mS Z 91 = (10, 6) := by rw [(K6 91 (by omega) (by omega)).1]; exact (s6_1 1 (by omega)).1
  have R89_1 : mR Z 89 1 = 91 := by rw [(K6 89 (by omega) (by omega)).2.2]; exact (s6_1 1 (by omega)).2
  have S92 : mS Z 92 = (10, 6) := by rw [(K6 92 (by omega) (by omega)).1]; exact (s6_1 2 (by omega)).1
  have R89_2 : mR Z 89 2 = 92 := by rw [(K6 89 (by omega) (by omega)).2.2]; exact (s6_1 2 (by omega)).2
  have J89_3 : mI Z 89 3 = 0 := by rw [(K6 89 (by omega) (by omega)).2.1]; exact s6_2
  have S93 : mS Z 93 = (4, 4) := by rw [(K7 93 (by omega) (by omega)).1]; exact s7_0
  have S94 : mS Z 94 = (10, 7) := by rw [(K7 94 (by omega) (by omega)).1]; exact s7_1
  have S95 : mS Z 95 = (10, 7) := by rw [(K7 95 (by omega) (by omega)).1]; exact s7_2
  have R93_0 : mR Z 93 0 = 94 := by rw [(K7 93 (by omega) (by omega)).2.2]; exact s7_3
  have R93_1 : mR Z 93 1 = 95 := by rw [(K7 93 (by omega) (by omega)).2.2]; exact s7_4
  have S96 : mS Z 96 = (0, 2) := by rw [(K8 96 (by omega) (by omega)).1]; exact s8_0
  have S97 : mS Z 97 = (10, 12) := by rw [(K8 97 (by omega) (by omega)).1]; exact s8_1
  have S98 : mS Z 98 = (10, 12) := by rw [(K8 98 (by omega) (by omega)).1]; exact s8_2
  have R96_0 : mR Z 96 0 = 97 := by rw [(K8 96 (by omega) (by omega)).2.2]; exact s8_3
  have R96_1 : mR Z 96 1 = 98 := by rw [(K8 96 (by omega) (by omega)).2.2]; exact s8_4
  have S99 : mS Z 99 = (10, 13) := by rw [(K9 99 (by omega) (by omega)).1]; exact sZ
  have fM : FrN 5 M Z := c10.2.2
  have S5 : mS Z 5 = (6, 10) := c10.2.1
  have sh : ∀ q ∈ shT, mS Z q.1 = q.2 := by
    unfold shT
    simp only [List.forall_mem_cons]
    exact ⟨S5, S6, S7, S8, S21, S22, S71, S72, S85, S86, S87, S88, S89, S90, S91, S92, S93, S94, S95, S96, S97, S98, S99, fun _ h => nomatch h⟩
  have rf : ∀ q ∈ rfT, mR Z q.1 q.2.1 = q.2.2 := by
    unfold rfT
    simp only [List.forall_mem_cons]
    exact ⟨R0, R1, R2, R3, R4, R5, R6, R7, R8, R9, R6_0, R6_1, R21_0, R71_0, R85_0, R85_1, R85_2, R89_0, R89_1, R89_2, R93_0, R93_1, fun _ h => nomatch h⟩
  have tw : ∀ o ∈ twT, TS Z o := by
    unfold twT
    simp only [List.forall_mem_cons]
    exact ⟨T9, T15, (P21 0 (by omega)).1, (P21 1 (by omega)).1, (P21 2 (by omega)).1, (P21 3 (by omega)).1, (P21 4 (by omega)).1, (P21 5 (by omega)).1, (P21 6 (by omega)).1, (P21 7 (by omega)).1, (P71 0 (by omega)).1, (P71 1 (by omega)).1, fun _ h => nomatch h⟩
  have csh : CSh Z := ⟨sh, rf, tw, ⟨by rw [(fM 3 (by omega)).1]; exact m3, by rw [(fM 4 (by omega)).1]; exact m4⟩, fun j hj => by rw [(fM 3 (by omega)).2.1, (fM 4 (by omega)).2.1]; exact t34 j hj⟩
  have ta : TA Z 9 (fT 0) := ⟨T9, Nat.zero_le _, J9_5, J9_6, J9_7, fun i hi j hj => absurd hj (Nat.not_lt_zero j)⟩
  have ci : CI Z (gST G0 (fT 0)) := by
    refine ⟨csh, ⟨J6_2, fun j hj => absurd hj (Nat.not_lt_zero j)⟩, ta, ⟨J21_1, Nat.zero_le _, fun i hi => ⟨i, hi, (P21 i hi).2⟩, fun i j hi hj e => ?_, fun i hi => absurd hi (Nat.not_lt_zero i)⟩, ⟨J71_1, Nat.zero_le _, fun i hi => ⟨i, hi, (P71 i hi).2⟩, fun i j hi hj e => ?_, fun i hi => absurd hi (Nat.not_lt_zero i)⟩, ⟨J85_3, fun j hj => absurd hj (Nat.not_lt_zero j)⟩, ⟨fun _ => 0, J89_3, fun j hj => absurd hj (Nat.not_lt_zero j)⟩, Or.inl ⟨R96_0, R96_1⟩⟩
    · have e1 := (P21 i hi).2
      have e2 := (P21 j hj).2
      have e3 : mR Z 22 i = mR Z 22 j := e
      omega
    · have e1 := (P71 i hi).2
      have e2 := (P71 j hj).2
      have e3 : mR Z 72 i = mR Z 72 j := e
      omega
  obtain ⟨M', g1, g2, g3⟩ := c_set 7 0 FU Z (by omega) (FU_gt (by omega)) (by rw [(fM 2 (by omega)).1]; exact m2) (by rw [(fM 2 (by omega)).2.1]; exact t2) S5 R1 ta
  refine ⟨M', ?_, by rw [g2.1]; exact c10.1, ci.mkT g2 (fun a ha => ha) g3, fM.tr (g2.nN (fun a ha => by unfold oT; omega))⟩
  unfold F_X6_init
  rw [ck, Option.bind_some, c0.1, chkT_of (new_at (t := 3) (n := 3) c0.1).2.1, Option.bind_some, e0, Option.bind_some, p0, Option.bind_some, c1.1, chkT_of (new_at (t := 5) (n := 8) c1.1).2.1, Option.bind_some, e1, Option.bind_some, p1, Option.bind_some, c2.1, chkT_of (new_at (t := 5) (n := 8) c2.1).2.1, Option.bind_some, e2, Option.bind_some, p2, Option.bind_some, c3.1, chkT_of (new_at (t := 2) (n := 2) c3.1).2.1, Option.bind_some, e3, Option.bind_some, p3, Option.bind_some, c4.1, chkT_of (new_at (t := 2) (n := 2) c4.1).2.1, Option.bind_some, e4, Option.bind_some, p4, Option.bind_some, c5.1, chkT_of (new_at (t := 1) (n := 4) c5.1).2.1, Option.bind_some, e5, Option.bind_some, p5, Option.bind_some, c6.1, chkT_of (new_at (t := 1) (n := 4) c6.1).2.1, Option.bind_some, e6, Option.bind_some, p6, Option.bind_some, c7.1, chkT_of (new_at (t := 4) (n := 4) c7.1).2.1, Option.bind_some, e7, Option.bind_some, p7, Option.bind_some, c8.1, chkT_of (new_at (t := 0) (n := 2) c8.1).2.1, Option.bind_some, e8, Option.bind_some, p8, Option.bind_some, c9.1, p9, Option.bind_some]
  exact g1
