/-! THE WHOLE TEXT -/
def stX (X : Nat × (Nat → Int32)) : Nat → Nat
  | 0 => 0
  | c + 1 => psX X (stX X c + 1) 5
theorem stX_le (X : Nat × (Nat → Int32)) : ∀ c, stX X c ≤ 16 * c
  | 0 => Nat.le_refl _
  | c + 1 => by
    have h1 := stX_le X c
    have h2 := psX_le X (stX X c + 1) 5
    show psX X (stX X c + 1) 5 ≤ _
    omega
abbrev okIt (X : Nat × (Nat → Int32)) (c : Nat) : Prop := atX X (stX X c) = 112 ∧ ∀ j, j < 5 → ok5 X (stX X c + 1) j
def vIt (X : Nat × (Nat → Int32)) (c j : Nat) : Int32 := vX5 X (stX X c + 1) j
/-- the town of the first c items -/
def twX (X : Nat × (Nat → Int32)) (c : Nat) : Tn := (c, 0, 0, fun p => vIt X p 0, fun p => vIt X p 1, fun p => vIt X p 2, fun p => vIt X p 3, fun p => vIt X p 4)
/-- where it fails (-4: nowhere), and how many were read -/
def resX (X : Nat × (Nat → Int32)) : Nat → Nat → Int32 × Nat
  | 0, c => if X.1 ≤ stX X c then (-4, c) else (nI (stX X c), c)
  | k + 1, c => if X.1 ≤ stX X c then (-4, c) else if okIt X c then resX X k (c + 1) else (nI (stX X c), c)
theorem town_settle {M : Mem} {o : Nat} {T : Tn} (h : TA M o T) (hn : tN T < 7) (v0 v1 v2 v3 v4 : Int32) {T' : Tn} (hN : tN T' = tN T + 1) (hdy : tDy T' = tDy T) (hmt : tMt T' = tMt T) (h0 : ∀ j, j < tN T + 1 → tK T' j = upd (tK T) (tN T) v0 j ∧ tD T' j = upd (tD T) (tN T) v1 j ∧ tW T' j = upd (tW T) (tN T) v2 j ∧ tY T' j = upd (tY T) (tN T) v3 j ∧ tP T' j = upd (tP T) (tN T) v4 j) :
    ∃ M', F_X5_settle o v0 v1 v2 v3 v4 M = some M' ∧ Fr (oT o) M M' ∧ TA M' o T' := by
  obtain ⟨hS, h7, hsz, hd, hm, hr⟩ := id h
  have rs : ∀ i, i < 5 → mS M (o + 1 + i) = (10, 7) := fun i hi => (hS.2 i hi).1
  have rr : ∀ i, i < 5 → fR M 5 o i = some (o + 1 + i) := fun i hi => h.fr0 hi
  generalize hM1 : uI M (o + 1 + 0) (tN T) v0 = M1
  have s1 : TS M1 o := by rw [← hM1]; exact hS
  have z1 : mI M1 o 5 = nI (tN T) := by rw [← hM1, uI_a _ _ _ _ _ (by omega)]; exact hsz
  generalize hM2 : uI M1 (o + 1 + 1) (tN T) v1 = M2
  have s2 : TS M2 o := by rw [← hM2]; exact s1
  have z2 : mI M2 o 5 = nI (tN T) := by rw [← hM2, uI_a _ _ _ _ _ (by omega)]; exact z1
  generalize hM3 : uI M2 (o + 1 + 2) (tN T) v2 = M3
  have s3 : TS M3 o := by rw [← hM3]; exact s2
  have z3 : mI M3 o 5 = nI (tN T) := by rw [← hM3, uI_a _ _ _ _ _ (by omega)]; exact z2
  generalize hM4 : uI M3 (o + 1 + 3) (tN T) v3 = M4
  have s4 : TS M4 o := by rw [← hM4]; exact s3
  have z4 : mI M4 o 5 = nI (tN T) := by rw [← hM4, uI_a _ _ _ _ _ (by omega)]; exact z3
  generalize hM5 : uI M4 (o + 1 + 4) (tN T) v4 = M5
  have s5 : TS M5 o := by rw [← hM5]; exact s4
  have z5 : mI M5 o 5 = nI (tN T) := by rw [← hM5, uI_a _ _ _ _ _ (by omega)]; exact z4
  have hf : Fr (oT o) M (uI M5 o 5 (nI (tN T + 1))) := by
    rw [← hM5, ← hM4, ← hM3, ← hM2, ← hM1]
    exact (((((Fr.uI (S := oT o) (by unfold oT; omega)).tr (Fr.uI (S := oT o) (by unfold oT; omega))).tr (Fr.uI (S := oT o) (by unfold oT; omega))).tr (Fr.uI (S := oT o) (by unfold oT; omega))).tr (Fr.uI (S := oT o) (by unfold oT; omega))).tr (Fr.uI (S := oT o) (by unfold oT; omega))
  have w : ∀ a, a ≠ o → mI (uI M5 o 5 (nI (tN T + 1))) a = if a = o + 1 + 4 then upd (mI M (o + 1 + 4)) (tN T) v4 else if a = o + 1 + 3 then upd (mI M (o + 1 + 3)) (tN T) v3 else if a = o + 1 + 2 then upd (mI M (o + 1 + 2)) (tN T) v2 else if a = o + 1 + 1 then upd (mI M (o + 1 + 1)) (tN T) v1 else if a = o + 1 + 0 then upd (mI M (o + 1 + 0)) (tN T) v0 else mI M a := by
    intro a ha
    rw [uI_a _ _ _ _ _ ha, ← hM5, ← hM4, ← hM3, ← hM2, ← hM1]
    simp only [mI_uI]
    repeat' split
    all_goals first | (exfalso; omega) | rfl | (subst_vars; rfl)
  have w0 : ∀ f, f ≠ 5 → mI (uI M5 o 5 (nI (tN T + 1))) o f = mI M o f := by
    intro f hf5
    rw [mI_uI, if_pos rfl, upd_ne hf5, ← hM5, uI_a _ _ _ _ _ (by omega), ← hM4, uI_a _ _ _ _ _ (by omega), ← hM3, uI_a _ _ _ _ _ (by omega), ← hM2, uI_a _ _ _ _ _ (by omega), ← hM1, uI_a _ _ _ _ _ (by omega)]
  refine ⟨uI M5 o 5 (nI (tN T + 1)), ?_, hf, ?_⟩
  · unfold F_X5_settle
    rw [fI_of hS.1, Option.bind_some, hsz, if_neg (show ¬ (7 : Int32) ≤ nI (tN T) from nI_ge (b := 7) hn (by omega)), rr 0 (by omega), Option.bind_some, Option.bind_some, stI_nI _ (rs 0 (by omega)) hn (by omega), Option.bind_some, hM1,
      fR_of s1.1, Option.bind_some, (s1.2 1 (by omega)).2, fI_of s1.1, Option.bind_some, z1, stI_nI _ (s1.2 1 (by omega)).1 hn (by omega), Option.bind_some, hM2,
      fR_of s2.1, Option.bind_some, (s2.2 2 (by omega)).2, fI_of s2.1, Option.bind_some, z2, stI_nI _ (s2.2 2 (by omega)).1 hn (by omega), Option.bind_some, hM3,
      fR_of s3.1, Option.bind_some, (s3.2 3 (by omega)).2, fI_of s3.1, Option.bind_some, z3, stI_nI _ (s3.2 3 (by omega)).1 hn (by omega), Option.bind_some, hM4,
      fR_of s4.1, Option.bind_some, (s4.2 4 (by omega)).2, fI_of s4.1, Option.bind_some, z4, stI_nI _ (s4.2 4 (by omega)).1 hn (by omega), Option.bind_some, hM5,
      fI_of s5.1, Option.bind_some, z5, nI_1, pI_of s5.1]
    rfl
  · refine ⟨s5, by omega, by rw [mI_uI, if_pos rfl, upd_eq, hN], by rw [w0 6 (by omega), hd, hdy], by rw [w0 7 (by omega), hm, hmt], fun i hi j hj => ?_⟩
    rw [hN] at hj
    obtain ⟨a0, a1, a2, a3, a4⟩ := h0 j hj
    have uu : ∀ (f g : Nat → Int32) (v : Int32), (∀ j, j < tN T → f j = g j) → upd f (tN T) v j = upd g (tN T) v j := by
      intro f g v hfg
      by_cases e : j = tN T
      · rw [e, upd_eq, upd_eq]
      · rw [upd_ne e, upd_ne e]; exact hfg j (by omega)
    have : i = 0 ∨ i = 1 ∨ i = 2 ∨ i = 3 ∨ i = 4 := by omega
    rcases this with rfl | rfl | rfl | rfl | rfl
    · rw [w _ (by omega), if_neg (by omega), if_neg (by omega), if_neg (by omega), if_neg (by omega), if_pos rfl]
      exact (uu _ _ v0 (fun j hj => hr 0 (by omega) j hj)).trans a0.symm
    · rw [w _ (by omega), if_neg (by omega), if_neg (by omega), if_neg (by omega), if_pos rfl]
      exact (uu _ _ v1 (fun j hj => hr 1 (by omega) j hj)).trans a1.symm
    · rw [w _ (by omega), if_neg (by omega), if_neg (by omega), if_pos rfl]
      exact (uu _ _ v2 (fun j hj => hr 2 (by omega) j hj)).trans a2.symm
    · rw [w _ (by omega), if_neg (by omega), if_pos rfl]
      exact (uu _ _ v3 (fun j hj => hr 3 (by omega) j hj)).trans a3.symm
    · rw [w _ (by omega), if_pos rfl]
      exact (uu _ _ v4 (fun j hj => hr 4 (by omega) j hj)).trans a4.symm
theorem upd_same (f : Nat → Int32) (c j : Nat) : f j = upd f c (f c) j := by
  by_cases e : j = c
  · rw [e, upd_eq]
  · rw [upd_ne e]
theorem c_into {G : Sg} (hG : GOk G) : ∀ (k c n : Nat) (M : Mem), c + k = 7 → k < n → CI M G → TA M 15 (twX (gX G) c) → ∃ M', F_X3_readInto_8 n 6 15 (nI (stX (gX G) c)) (nI c) M = some ((resX (gX G) k c).1, M') ∧ CI M' G ∧ Fr oC M M' ∧ TA M' 15 (twX (gX G) (resX (gX G) k c).2) := by
  have hX := hG.1
  intro k
  induction k with
  | zero =>
    intro c n M hc hn h ht
    obtain ⟨n, rfl, -⟩ := fu_get hn
    have : c = 7 := by omega
    subst this
    have hst := stX_le (gX G) 7
    have e0 : fI M 3 6 2 = some (nI (gX G).1) := by rw [fI_of (h.1.s 1 rfl), h.2.1.1]
    simp only [F_X3_readInto_8]
    unfold F_X3_readInto_38 resX
    rw [if_neg (show ¬ (7 : Int32) < nI 7 by decide), e0, Option.bind_some]
    by_cases e : (gX G).1 ≤ stX (gX G) 7
    · rw [if_pos (nI_le e (by omega)), if_pos e]
      exact ⟨M, rfl, h, Fr.rf, ht⟩
    · rw [if_neg (nI_ge (by omega) (by omega)), if_neg e, if_pos (show (7 : Int32) ≤ nI 7 by decide), if_pos rfl]
      exact ⟨M, rfl, h, Fr.rf, ht⟩
  | succ k ih =>
    intro c n M hc hn h ht
    obtain ⟨n, rfl, hn⟩ := fu_get hn
    have hst := stX_le (gX G) c
    have e0 : fI M 3 6 2 = some (nI (gX G).1) := by rw [fI_of (h.1.s 1 rfl), h.2.1.1]
    have ck := chkT_of (h.1.s 1 rfl)
    simp only [F_X3_readInto_8]
    rw [if_neg (show ¬ (7 : Int32) < nI c from nI_nlt (a := 7) (by omega) (by omega)), e0, Option.bind_some]
    unfold resX
    by_cases e : (gX G).1 ≤ stX (gX G) c
    · rw [if_pos (nI_le e (by omega)), if_pos e]
      exact ⟨M, rfl, h, Fr.rf, ht⟩
    · rw [if_neg (nI_ge (by omega) (by omega)), if_neg e, if_neg (show ¬ (7 : Int32) ≤ nI c from nI_ge (b := 7) (by omega) (by omega)), ck, Option.bind_some]
      obtain ⟨iA, iB⟩ := c_item hX hG.2.1 (i := stX (gX G) c + 1) (by omega) 5 0 FU M (by omega) (FU_gt (by omega)) h.1 h.2.1
      unfold F_X3_readItem
      rw [ck, Option.bind_some, c_letter h.1 h.2.1 hX hG.2.1 (by omega), Option.bind_some]
      by_cases e1 : atX (gX G) (stX (gX G) c) = 112
      · rw [if_pos e1, nI_1]
        by_cases e2 : ∀ j, j < 5 → ok5 (gX G) (stX (gX G) c + 1) j
        · rw [if_pos (show okIt (gX G) c from ⟨e1, e2⟩)]
          obtain ⟨M1, g1, g2, g3⟩ := iA (fun j _ h2 => e2 j h2)
          have h1 := h.mk0 g2 (fun a ha => by unfold oS; omega)
          have ht1 : TA M1 15 (twX (gX G) c) := ht.fr g2 (fun a ha => by unfold oT at ha; omega)
          have v : ∀ j, j < 5 → mI M1 8 j = vIt (gX G) c j := fun j hj => by rw [g3 j hj, if_pos (by omega)]; rfl
          have q1 : fR M1 3 6 1 = some 8 := by rw [fR_of (h1.1.s 1 rfl), h1.1.r 11 rfl]
          have l : ∀ (j : Nat) (J : Int32), J = nI j → j < 5 → ldI M1 8 J = some (vIt (gX G) c j) := fun j J hJ hj => by rw [hJ, ldI_nI (h1.1.s 3 rfl) hj (by omega), v j hj]
          obtain ⟨M2, b1, b2, b3⟩ := town_settle (T' := twX (gX G) (c + 1)) ht1 (show c < 7 by omega) (vIt (gX G) c 0) (vIt (gX G) c 1) (vIt (gX G) c 2) (vIt (gX G) c 3) (vIt (gX G) c 4) rfl rfl rfl (fun j _ => ⟨upd_same (fun p => vIt (gX G) p 0) c j, upd_same (fun p => vIt (gX G) p 1) c j, upd_same (fun p => vIt (gX G) p 2) c j, upd_same (fun p => vIt (gX G) p 3) c j, upd_same (fun p => vIt (gX G) p 4) c j⟩)
          have h2 := h1.mk0 b2 (fun a ha => oS15 ha)
          obtain ⟨M3, d1, d2, d3, d4⟩ := ih (c + 1) n M2 (by omega) (by omega) h2 b3
          refine ⟨M3, ?_, d2, ((g2.mono (S2 := oC) (fun a ha => by unfold oC; omega)).tr (b2.mono (fun a ha => oSC (oS15 ha)))).tr d3, d4⟩
          have hpl := psX_le (gX G) (stX (gX G) c + 1) 5
          refine (congrArg (fun z => Option.bind z _) g1).trans ?_
          show F_X3_readInto_38 (F_X3_readInto_8 n) 6 15 (nI (stX (gX G) c)) (nI c) (nI (psX (gX G) (stX (gX G) c + 1) 5)) M1 = _
          unfold F_X3_readInto_38
          rw [if_neg (nI_n4 (by omega)), q1, Option.bind_some, l 0 0 rfl (by omega), Option.bind_some, Option.bind_some, l 1 1 rfl (by omega), Option.bind_some, Option.bind_some, l 2 2 rfl (by omega), Option.bind_some, Option.bind_some, l 3 3 rfl (by omega), Option.bind_some, Option.bind_some, l 4 4 rfl (by omega), Option.bind_some, ht1.ck, Option.bind_some, b1, Option.bind_some, nI_1]
          exact d1
        · rw [if_neg (show ¬ okIt (gX G) c from fun z => e2 z.2)]
          obtain ⟨j, hj⟩ := Classical.not_forall.mp e2
          have hj5 : j < 5 := Classical.byContradiction (fun z => hj (fun y => absurd y z))
          obtain ⟨M1, g1, g2⟩ := iB ⟨j, by omega, hj5, fun z => hj (fun _ => z)⟩
          have h1 := h.mk0 g2 (fun a ha => by unfold oS; omega)
          refine ⟨M1, ?_, h1, g2.mono (fun a ha => by unfold oC; omega), ht.fr g2 (fun a ha => by unfold oT at ha; omega)⟩
          refine (congrArg (fun z => Option.bind z _) g1).trans ?_
          show F_X3_readInto_38 (F_X3_readInto_8 n) 6 15 (nI (stX (gX G) c)) (nI c) (-4) M1 = _
          unfold F_X3_readInto_38
          rw [if_pos rfl]
      · rw [if_neg e1, if_neg (show ¬ okIt (gX G) c from fun z => e1 z.1), Option.bind_some]
        refine ⟨M, ?_, h, Fr.rf, ht⟩
        unfold F_X3_readInto_38
        rw [if_pos rfl]
theorem c_read {G : Sg} (hG : GOk G) {M : Mem} (h : CI M G) : ∃ M', F_X3_readInto 6 15 M = some ((resX (gX G) 7 0).1, M') ∧ CI M' G ∧ Fr oC M M' ∧ TA M' 15 (twX (gX G) (resX (gX G) 7 0).2) := by
  have hS := h.1.t 1 rfl
  have hf : Fr (oT 15) M (uI (uI (uI M 15 5 0) 15 6 0) 15 7 0) := ((Fr.uI (S := oT 15) (by unfold oT; omega)).tr (Fr.uI (S := oT 15) (by unfold oT; omega))).tr (Fr.uI (S := oT 15) (by unfold oT; omega))
  have h1 := h.mk0 hf (fun a ha => oS15 ha)
  have ht : TA (uI (uI (uI M 15 5 0) 15 6 0) 15 7 0) 15 (twX (gX G) 0) := ⟨hS, Nat.zero_le _, by rw [mI_uI, if_pos rfl, upd_ne (by omega), mI_uI, if_pos rfl, upd_ne (by omega), mI_uI, if_pos rfl, upd_eq]; rfl, by rw [mI_uI, if_pos rfl, upd_ne (by omega), mI_uI, if_pos rfl, upd_eq]; rfl, by rw [mI_uI, if_pos rfl, upd_eq]; rfl, fun i hi j hj => absurd hj (Nat.not_lt_zero j)⟩
  obtain ⟨M', g1, g2, g3, g4⟩ := c_into hG 7 0 FU _ (by omega) (FU_gt (by omega)) h1 ht
  refine ⟨M', ?_, g2, (hf.mono (fun a ha => oSC (oS15 ha))).tr g3, g4⟩
  unfold F_X3_readInto F_X5_empty
  rw [chkT_of hS.1, Option.bind_some, pI_of hS.1, Option.bind_some, pI_of (M := uI M _ _ _) hS.1, Option.bind_some, pI_of (M := uI (uI M _ _ _) _ _ _) hS.1, Option.bind_some, Option.bind_some]
  exact g1
