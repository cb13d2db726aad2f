/-! LAY -/
theorem resX_ok (X : Nat × (Nat → Int32)) : ∀ (k c : Nat), (∀ p, p < c → okIt X p) → (∀ p, p < (resX X k c).2 → okIt X p) ∧ (resX X k c).2 ≤ c + k
  | 0, c, h => by
    unfold resX
    split
    · exact ⟨h, Nat.le_refl _⟩
    · exact ⟨h, Nat.le_refl _⟩
  | k + 1, c, h => by
    unfold resX
    split
    · exact ⟨h, by show c ≤ _; omega⟩
    · split
      · rename_i e
        have := resX_ok X k (c + 1) (fun p hp => by
          by_cases z : p = c
          · rw [z]; exact e
          · exact h p (by omega))
        exact ⟨this.1, by have := this.2; omega⟩
      · exact ⟨h, by show c ≤ _; omega⟩
theorem twX_ok (X : Nat × (Nat → Int32)) {n : Nat} (h1 : 1 ≤ n) (h7 : n ≤ 7) (h : ∀ p, p < n → okIt X p) : TOk (twX X n) := by
  refine ⟨h1, h7, fun j hj => ?_⟩
  have ho := (h j hj).2
  have g : ∀ (idx a b : Nat), idx < 5 → tab3.getD idx 0 = nI a → tab4.getD idx 0 = nI b → a < 2 ^ 31 → b < 2 ^ 31 → InR a b (vIt X j idx) := by
    intro idx a b hi ha hb h2 h3
    have := (ho idx hi).2.1
    rw [ha, hb] at this
    exact (InR_iff h3 h2).mpr this
  obtain ⟨k0, -, b0, e0⟩ := g 0 0 3 (by omega) rfl rfl (by omega) (by omega)
  obtain ⟨k1, -, b1, e1⟩ := g 1 0 5 (by omega) rfl rfl (by omega) (by omega)
  obtain ⟨k2, a2, b2, e2⟩ := g 2 1 9 (by omega) rfl rfl (by omega) (by omega)
  obtain ⟨k3, -, b3, e3⟩ := g 3 0 11 (by omega) rfl rfl (by omega) (by omega)
  obtain ⟨k4, -, b4, e4⟩ := g 4 0 11 (by omega) rfl rfl (by omega) (by omega)
  exact ⟨⟨k0, b0, e0⟩, Or.inr ⟨⟨k1, b1, e1⟩, k2, a2, b2, e2⟩, ⟨k3, by omega, e3⟩, ⟨k4, by omega, e4⟩⟩
def oJ : Nat → Prop := fun a => 100 ≤ a ∧ a ≤ 105
theorem ref_comes {M : Mem} {T : Tn} (h : RA M T) (hn : tN T < 7) (v0 v1 v2 v3 v4 : Int32) {T' : Tn} (hN : tN T' = tN T + 1) (hdy : tDy T' = tDy T) (hmt : tMt T' = tMt T) (h0 : ∀ j, j < tN T + 1 → tK T' j = upd (tK T) (tN T) v0 j ∧ tD T' j = upd (tD T) (tN T) v1 j ∧ tW T' j = upd (tW T) (tN T) v2 j ∧ tY T' j = upd (tY T) (tN T) v3 j ∧ tP T' j = upd (tP T) (tN T) v4 j) :
    ∃ M', F_X7_comes 100 v0 v1 v2 v3 v4 M = some M' ∧ Fr oJ M M' ∧ (∀ f, f ≠ 0 → mI M' 100 f = mI M 100 f) ∧ RA M' T' := by
  obtain ⟨hS, h7, hsz, hd, hm, hr⟩ := id h
  generalize hM1 : uI M 101 (tN T) v0 = M1
  have s1 : RS M1 := by rw [← hM1]; exact hS
  have z1 : mI M1 100 0 = nI (tN T) := by rw [← hM1, uI_a _ _ _ _ _ (by omega)]; exact hsz
  generalize hM2 : uI M1 102 (tN T) v1 = M2
  have s2 : RS M2 := by rw [← hM2]; exact s1
  have z2 : mI M2 100 0 = nI (tN T) := by rw [← hM2, uI_a _ _ _ _ _ (by omega)]; exact z1
  generalize hM3 : uI M2 103 (tN T) v2 = M3
  have s3 : RS M3 := by rw [← hM3]; exact s2
  have z3 : mI M3 100 0 = nI (tN T) := by rw [← hM3, uI_a _ _ _ _ _ (by omega)]; exact z2
  generalize hM4 : uI M3 104 (tN T) v3 = M4
  have s4 : RS M4 := by rw [← hM4]; exact s3
  have z4 : mI M4 100 0 = nI (tN T) := by rw [← hM4, uI_a _ _ _ _ _ (by omega)]; exact z3
  generalize hM5 : uI M4 105 (tN T) v4 = M5
  have s5 : RS M5 := by rw [← hM5]; exact s4
  have z5 : mI M5 100 0 = nI (tN T) := by rw [← hM5, uI_a _ _ _ _ _ (by omega)]; exact z4
  have hf : Fr oJ M (uI M5 100 0 (nI (tN T + 1))) := by
    rw [← hM5, ← hM4, ← hM3, ← hM2, ← hM1]
    exact (((((Fr.uI (S := oJ) (by unfold oJ; omega)).tr (Fr.uI (S := oJ) (by unfold oJ; omega))).tr (Fr.uI (S := oJ) (by unfold oJ; omega))).tr (Fr.uI (S := oJ) (by unfold oJ; omega))).tr (Fr.uI (S := oJ) (by unfold oJ; omega))).tr (Fr.uI (S := oJ) (by unfold oJ; omega))
  have w : ∀ a, a ≠ 100 → mI (uI M5 100 0 (nI (tN T + 1))) a = if a = 105 then upd (mI M 105) (tN T) v4 else if a = 104 then upd (mI M 104) (tN T) v3 else if a = 103 then upd (mI M 103) (tN T) v2 else if a = 102 then upd (mI M 102) (tN T) v1 else if a = 101 then upd (mI M 101) (tN T) v0 else mI M a := by
    intro a ha
    rw [uI_a _ _ _ _ _ ha, ← hM5, ← hM4, ← hM3, ← hM2, ← hM1]
    simp only [mI_uI]
    repeat' split
    all_goals first | (exfalso; omega) | rfl | (subst_vars; rfl)
  have w0 : ∀ f, f ≠ 0 → mI (uI M5 100 0 (nI (tN T + 1))) 100 f = mI M 100 f := by
    intro f hf5
    rw [mI_uI, if_pos rfl, upd_ne hf5, ← hM5, uI_a _ _ _ _ _ (by omega), ← hM4, uI_a _ _ _ _ _ (by omega), ← hM3, uI_a _ _ _ _ _ (by omega), ← hM2, uI_a _ _ _ _ _ (by omega), ← hM1, uI_a _ _ _ _ _ (by omega)]
  refine ⟨uI M5 100 0 (nI (tN T + 1)), ?_, hf, w0, ?_⟩
  · unfold F_X7_comes
    rw [hS.r 1 (a := 100) rfl, Option.bind_some, hS.i, hsz, Option.bind_some, stI_nI _ (hS.s 1 (a := 100) rfl) hn (by omega), Option.bind_some, hM1,
      s1.r 4 (a := 101) rfl, Option.bind_some, s1.i, z1, Option.bind_some, stI_nI _ (s1.s 4 (a := 101) rfl) hn (by omega), Option.bind_some, hM2,
      s2.r 5 (a := 102) rfl, Option.bind_some, s2.i, z2, Option.bind_some, stI_nI _ (s2.s 5 (a := 102) rfl) hn (by omega), Option.bind_some, hM3,
      s3.r 6 (a := 103) rfl, Option.bind_some, s3.i, z3, Option.bind_some, stI_nI _ (s3.s 6 (a := 103) rfl) hn (by omega), Option.bind_some, hM4,
      s4.r 7 (a := 104) rfl, Option.bind_some, s4.i, z4, Option.bind_some, stI_nI _ (s4.s 7 (a := 104) rfl) hn (by omega), Option.bind_some, hM5,
      s5.i, z5, Option.bind_some, nI_1, s5.p]
    rfl
  · refine ⟨s5, by omega, by rw [mI_uI, if_pos rfl, upd_eq, hN], by rw [w0 2 (by omega), hd, hdy], by rw [w0 3 (by omega), hm, hmt], fun i hi j hj => ?_⟩
    rw [hN] at hj
    obtain ⟨a0, a1, a2, a3, a4⟩ := h0 j hj
    have uu : ∀ (f g : Nat → Int32) (v : Int32), (∀ j, j < tN T → f j = g j) → upd f (tN T) v j = upd g (tN T) v j := by
      intro f g v hfg
      by_cases e : j = tN T
      · rw [e, upd_eq, upd_eq]
      · rw [upd_ne e, upd_ne e]; exact hfg j (by omega)
    have : i = 0 ∨ i = 1 ∨ i = 2 ∨ i = 3 ∨ i = 4 := by omega
    rcases this with rfl | rfl | rfl | rfl | rfl
    · rw [w _ (by omega), if_neg (by omega), if_neg (by omega), if_neg (by omega), if_neg (by omega), if_pos rfl]
      exact (uu _ _ v0 (fun j hj => hr 0 (by omega) j hj)).trans a0.symm
    · rw [w _ (by omega), if_neg (by omega), if_neg (by omega), if_neg (by omega), if_pos rfl]
      exact (uu _ _ v1 (fun j hj => hr 1 (by omega) j hj)).trans a1.symm
    · rw [w _ (by omega), if_neg (by omega), if_neg (by omega), if_pos rfl]
      exact (uu _ _ v2 (fun j hj => hr 2 (by omega) j hj)).trans a2.symm
    · rw [w _ (by omega), if_neg (by omega), if_pos rfl]
      exact (uu _ _ v3 (fun j hj => hr 3 (by omega) j hj)).trans a3.symm
    · rw [w _ (by omega), if_pos rfl]
      exact (uu _ _ v4 (fun j hj => hr 4 (by omega) j hj)).trans a4.symm
/-- a town all of new people: what else was noted is gone -/
def gL (G : Sg) (T : Tn) : Sg := (gX G, T, (0, (gU G).2), (0, (gK G).2), (0, (gS G).2), (0, (gD G).2))
def ltX (X : Nat × (Nat → Int32)) (d m : Int32) (c : Nat) : Tn := tSetMt (tSetDy (twX X c) d) m
theorem r_lay26 {G : Sg} {N : Nat} (hN : N ≤ 7) (d m : Int32) : ∀ (k c f : Nat) (M : Mem), c + k = N → k < f → RA M (ltX (gX G) d m c) → mI M 100 18 = nI N → RTx M (gX G).1 (gX G).2 → (∀ p, p < N → ∀ j, j < 5 → mI M 112 (5 * p + j) = vIt (gX G) p j) →
    ∃ M', F_X7_lay_26 f 100 (nI c) M = some (nI N, M') ∧ Fr oJ M M' ∧ RI M' (gL G (twX (gX G) N)) := by
  intro k
  induction k with
  | zero =>
    intro c f M hc hf h h18 ht hrow
    obtain ⟨f, rfl, -⟩ := fu_get hf
    have : c = N := by omega
    subst this
    obtain ⟨hS, h7, hsz, hd, hm, hr⟩ := id h
    generalize hM8 : uI (uI (uI (uI (uI (uI M 100 2 0) 100 3 0) 100 8 0) 100 12 0) 100 22 0) 100 29 0 = M8
    have s1 : RS (uI M 100 2 0) := hS
    have s2 : RS (uI (uI M 100 2 0) 100 3 0) := hS
    have s3 : RS (uI (uI (uI M 100 2 0) 100 3 0) 100 8 0) := hS
    have s4 : RS (uI (uI (uI (uI M 100 2 0) 100 3 0) 100 8 0) 100 12 0) := hS
    have s5 : RS (uI (uI (uI (uI (uI M 100 2 0) 100 3 0) 100 8 0) 100 12 0) 100 22 0) := hS
    have s8 : RS M8 := by rw [← hM8]; exact hS
    have w : ∀ g, mI M8 100 g = if g = 29 ∨ g = 22 ∨ g = 12 ∨ g = 8 ∨ g = 3 ∨ g = 2 then 0 else mI M 100 g := by
      intro g
      rw [← hM8]
      simp only [mI_uI, if_true]
      unfold upd
      repeat' split
      all_goals first | rfl | (exfalso; omega)
    have wa : ∀ a, a ≠ 100 → mI M8 a = mI M a := fun a ha => by rw [← hM8, uI_a _ _ _ _ _ ha, uI_a _ _ _ _ _ ha, uI_a _ _ _ _ _ ha, uI_a _ _ _ _ _ ha, uI_a _ _ _ _ _ ha, uI_a _ _ _ _ _ ha]
    have j0 : oJ 100 := by unfold oJ; omega
    have hfr : Fr oJ M M8 := by
      rw [← hM8]
      exact (((((Fr.uI j0).tr (Fr.uI j0)).tr (Fr.uI j0)).tr (Fr.uI j0)).tr (Fr.uI j0)).tr (Fr.uI j0)
    have w00 : mI M8 100 0 = nI c := by rw [w, if_neg (by omega)]; exact hsz
    refine ⟨M8, ?_, hfr, ⟨⟨s8, h7, w00, by rw [w, if_pos (by omega)]; rfl, by rw [w, if_pos (by omega)]; rfl, fun i hi j hj => by rw [wa _ (by omega), hr i hi j hj]; rcases (show i = 0 ∨ i = 1 ∨ i = 2 ∨ i = 3 ∨ i = 4 by omega) with rfl | rfl | rfl | rfl | rfl <;> rfl⟩, ht.of (by rw [w, if_neg (by omega)]) (wa _ (by omega)), ⟨by rw [w, if_pos (by omega)]; rfl, fun i hi => absurd hi (Nat.not_lt_zero i)⟩, ⟨by rw [w, if_pos (by omega)]; rfl, fun i hi => absurd hi (Nat.not_lt_zero i)⟩, ⟨by rw [w, if_pos (by omega)]; rfl, fun i hi => absurd hi (Nat.not_lt_zero i)⟩, ⟨by rw [w, if_pos (by omega)]; rfl, fun i hi => absurd hi (Nat.not_lt_zero i)⟩⟩⟩
    simp only [F_X7_lay_26]
    rw [hS.i, h18, Option.bind_some, if_pos (nI_le (by omega) (by omega)), hS.p, Option.bind_some, s1.p, Option.bind_some, s2.p, Option.bind_some, s3.p, Option.bind_some, s4.p, Option.bind_some, s5.p, Option.bind_some, hM8, s8.i, w00]
    rfl
  | succ k ih =>
    intro c f M hc hf h h18 ht hrow
    obtain ⟨f, rfl, hf⟩ := fu_get hf
    obtain ⟨M1, g1, g2, g3, g4⟩ := ref_comes (T' := ltX (gX G) d m (c + 1)) h (show c < 7 by omega) (vIt (gX G) c 0) (vIt (gX G) c 1) (vIt (gX G) c 2) (vIt (gX G) c 3) (vIt (gX G) c 4) rfl rfl rfl (fun j _ => ⟨upd_same (fun p => vIt (gX G) p 0) c j, upd_same (fun p => vIt (gX G) p 1) c j, upd_same (fun p => vIt (gX G) p 2) c j, upd_same (fun p => vIt (gX G) p 3) c j, upd_same (fun p => vIt (gX G) p 4) c j⟩)
    obtain ⟨M2, b1, b2, b3⟩ := ih (c + 1) f M1 (by omega) (by omega) g4 (by rw [g3 18 (by omega)]; exact h18) (ht.of (g3 16 (by omega)) (g2.i (by unfold oJ; omega))) (by rw [g2.i (show ¬ oJ 112 by unfold oJ; omega)]; exact hrow)
    refine ⟨M2, ?_, g2.tr b2, b3⟩
    have hS := h.1
    have e5 : (5 : Int32) * nI c = nI (5 * c) := (Int32.ofNat_mul 5 c).symm
    have l : ∀ j, j < 5 → ldI M 112 (nI (5 * c + j)) = some (vIt (gX G) c j) := fun j hj => by rw [ldI_nI (hS.s 19 (a := 111) rfl) (by omega) (by omega), hrow c (by omega) j hj]
    simp only [F_X7_lay_26]
    rw [hS.i, h18, Option.bind_some, if_neg (nI_ge (by omega) (by omega)), hS.r 19 (a := 111) rfl, Option.bind_some, e5, show (1 : Int32) = nI 1 from rfl, show (2 : Int32) = nI 2 from rfl, show (3 : Int32) = nI 3 from rfl, show (4 : Int32) = nI 4 from rfl, nI_add, nI_add, nI_add, nI_add, nI_add]
    refine Eq.trans (congrArg (fun z => Option.bind z _) (l 0 (by omega))) ?_
    rw [Option.bind_some, Option.bind_some, l 1 (by omega), Option.bind_some, Option.bind_some, l 2 (by omega), Option.bind_some, Option.bind_some, l 3 (by omega), Option.bind_some, Option.bind_some, l 4 (by omega), Option.bind_some, hS.ck, Option.bind_some, g1, Option.bind_some]
    exact b1
theorem CI.emS {M : Mem} {G : Sg} (h : CI M G) : F_X1_empty 85 M = some (nI (gS G).1, uI M 85 3 0) ∧ CI (uI M 85 3 0) (gSS G (0, (gS G).2)) ∧ Fr oC M (uI M 85 3 0) := by
  have hf : Fr (fun a => 85 ≤ a ∧ a < 89) M (uI M 85 3 0) := Fr.uI ⟨by omega, by omega⟩
  refine ⟨?_, h.mkS (v := (0, (gS G).2)) hf (fun a ha => ha) ⟨by rw [mI_uI, if_pos rfl, upd_eq]; rfl, fun j hj => absurd hj (Nat.not_lt_zero j)⟩, hf.mono (fun a ha => by unfold oC; omega)⟩
  unfold F_X1_empty
  rw [fI_of (h.1.s 8 rfl), Option.bind_some, pI_of (h.1.s 8 rfl), Option.bind_some, h.2.2.2.2.2.1.1]
theorem CI.emD {M : Mem} {G : Sg} (h : CI M G) : F_X1_empty 89 M = some (nI (gD G).1, uI M 89 3 0) ∧ CI (uI M 89 3 0) (gSD G (0, (gD G).2)) ∧ Fr oC M (uI M 89 3 0) := by
  have hf : Fr (fun a => 89 ≤ a ∧ a < 93) M (uI M 89 3 0) := Fr.uI ⟨by omega, by omega⟩
  obtain ⟨w, h7⟩ := h.2.2.2.2.2.2.1
  refine ⟨?_, h.mkD (v := (0, (gD G).2)) hf (fun a ha => ha) ⟨w, by rw [mI_uI, if_pos rfl, upd_eq]; rfl, fun j hj => absurd hj (Nat.not_lt_zero j)⟩, hf.mono (fun a ha => by unfold oC; omega)⟩
  unfold F_X1_empty
  rw [fI_of (h.1.s 12 rfl), Option.bind_some, pI_of (h.1.s 12 rfl), Option.bind_some, h7.1]
theorem CI.emU {M : Mem} {G : Sg} (h : CI M G) : F_X2_empty 21 M = some (uI M 21 1 0) ∧ CI (uI M 21 1 0) (gSU G (0, (gU G).2)) ∧ Fr oC M (uI M 21 1 0) := by
  have hf : Fr (fun a => 21 ≤ a ∧ a < 71) M (uI M 21 1 0) := Fr.uI ⟨by omega, by omega⟩
  obtain ⟨p1, p2, p3, p4, p5⟩ := h.2.2.2.1
  refine ⟨?_, h.mkU (v := (0, (gU G).2)) hf (fun a ha => ha) ⟨by rw [mI_uI, if_pos rfl, upd_eq]; rfl, by omega, p3, p4, fun i hi => absurd hi (Nat.not_lt_zero i)⟩, hf.mono (fun a ha => by unfold oC; omega)⟩
  unfold F_X2_empty
  rw [pI_of (h.1.s 4 rfl)]
  rfl
theorem CI.emK {M : Mem} {G : Sg} (h : CI M G) : F_X2_empty 71 M = some (uI M 71 1 0) ∧ CI (uI M 71 1 0) (gSK G (0, (gK G).2)) ∧ Fr oC M (uI M 71 1 0) := by
  have hf : Fr (fun a => 71 ≤ a ∧ a < 85) M (uI M 71 1 0) := Fr.uI ⟨by omega, by omega⟩
  obtain ⟨p1, p2, p3, p4, p5⟩ := h.2.2.2.2.1
  refine ⟨?_, h.mkK (v := (0, (gK G).2)) hf (fun a ha => ha) ⟨by rw [mI_uI, if_pos rfl, upd_eq]; rfl, by omega, p3, p4, fun i hi => absurd hi (Nat.not_lt_zero i)⟩, hf.mono (fun a ha => by unfold oC; omega)⟩
  unfold F_X2_empty
  rw [pI_of (h.1.s 6 rfl)]
  rfl
theorem m_lay {G : Sg} (hG : GOk G) : QM (F_X6_lay 5) (F_X7_lay 100) G := by
  obtain ⟨hok, hle⟩ := resX_ok (gX G) 7 0 (fun p hp => absurd hp (Nat.not_lt_zero p))
  by_cases e4 : (resX (gX G) 7 0).1 = -4
  · by_cases e0 : (resX (gX G) 7 0).2 = 0
    · refine ⟨-2, G, hG, fun M h => ?_, fun M h => ?_⟩
      · obtain ⟨M1, g1, g2, g3, g4⟩ := c_read hG h
        refine ⟨M1, ?_, g2, g3⟩
        rw [e4] at g1
        rw [e0] at g4
        unfold F_X6_lay
        rw [h.1.f (f := 0) rfl, Option.bind_some, h.1.f (f := 2) rfl, Option.bind_some, chkT_of (h.1.s 1 rfl), Option.bind_some, g1, Option.bind_some, if_pos rfl, g2.1.f (f := 2) rfl, Option.bind_some, g4.ck, Option.bind_some, town_size g4]
        rfl
      · obtain ⟨M1, g1, g2, g3, g4⟩ := r_read hG h
        refine ⟨M1, ?_, g2, g3⟩
        have g5 := (g4 e4).1
        rw [e4] at g1
        rw [e0] at g5
        unfold F_X7_lay
        rw [h.1.ck, Option.bind_some, g1, Option.bind_some, if_pos rfl, g2.1.1.i, Option.bind_some, g5]
        rfl
    · generalize hN : (resX (gX G) 7 0).2 = N at *
      have hT : TOk (twX (gX G) N) := twX_ok (gX G) (by omega) (by omega) hok
      refine ⟨nI N, gL G (twX (gX G) N), ⟨hG.1, hG.2.1, hT, Nat.zero_le _, fun i hi => absurd hi (Nat.not_lt_zero i), Nat.zero_le _, fun i hi => absurd hi (Nat.not_lt_zero i), Nat.zero_le _, fun j hj => absurd hj (Nat.not_lt_zero j), Nat.zero_le _⟩, fun M h => ?_, fun M h => ?_⟩
      · obtain ⟨M1, g1, g2, g3, g4⟩ := c_read hG h
        rw [e4] at g1
        rw [hN] at g4
        obtain ⟨M2, b1, b2, b3⟩ := town_become (o := 9) (q := 15) (g2.1.t 0 rfl) g4 (Or.inl (by omega))
        obtain ⟨h2, f2⟩ := g2.tn b2 b3
        obtain ⟨c1, h3, f3⟩ := h2.emS
        obtain ⟨c2, h4, f4⟩ := h3.emD
        obtain ⟨c3, h5, f5⟩ := h4.emU
        obtain ⟨c4, h6, f6⟩ := h5.emK
        refine ⟨_, ?_, h6, ((((g3.tr f2).tr f3).tr f4).tr f5).tr f6⟩
        have hsz : F_X5_size 15 M1 = some (nI N) := town_size g4
        have hsz2 : F_X5_size 9 (uI (uI (uI (uI M2 85 3 0) 89 3 0) 21 1 0) 71 1 0) = some (nI N) := town_size h6.ta
        unfold F_X6_lay
        rw [h.1.f (f := 0) rfl, Option.bind_some, h.1.f (f := 2) rfl, Option.bind_some, chkT_of (h.1.s 1 rfl), Option.bind_some, g1, Option.bind_some, if_pos rfl, g2.1.f (f := 2) rfl, Option.bind_some, g4.ck, Option.bind_some, hsz, Option.bind_some, if_neg (nI_ne0 (by omega) (by omega)), g2.r1, Option.bind_some, Option.bind_some, g2.ta.ck, Option.bind_some, b1, Option.bind_some, h2.1.f (f := 5) rfl, Option.bind_some, chkT_of (h2.1.s 8 rfl), Option.bind_some, c1, Option.bind_some, h3.1.f (f := 6) rfl, Option.bind_some, chkT_of (h3.1.s 12 rfl), Option.bind_some, c2, Option.bind_some, h4.1.f (f := 3) rfl, Option.bind_some, chkT_of (h4.1.s 4 rfl), Option.bind_some, c3, Option.bind_some, h5.1.f (f := 4) rfl, Option.bind_some, chkT_of (h5.1.s 6 rfl), Option.bind_some, c4, Option.bind_some, h6.r1, Option.bind_some, h6.ta.ck, Option.bind_some, hsz2]
        rfl
      · obtain ⟨M1, g1, g2, g3, g4⟩ := r_read hG h
        obtain ⟨g5, g6⟩ := g4 e4
        rw [e4] at g1
        rw [hN] at g5 g6
        have ra : RA (uI M1 100 0 0) (ltX (gX G) (tDy (gT G)) (tMt (gT G)) 0) := ⟨g2.1.1, Nat.zero_le _, by rw [mI_uI, if_pos rfl, upd_eq]; rfl, by rw [uI_f _ _ _ _ (by omega)]; exact g2.1.2.2.2.1, by rw [uI_f _ _ _ _ (by omega)]; exact g2.1.2.2.2.2.1, fun i hi j hj => absurd hj (Nat.not_lt_zero j)⟩
        obtain ⟨M2, b1, b2, b3⟩ := r_lay26 (G := G) (N := N) (by omega) (tDy (gT G)) (tMt (gT G)) N 0 FU (uI M1 100 0 0) (by omega) (FU_gt (by omega)) ra (by rw [uI_f _ _ _ _ (by omega)]; exact g5) (g2.2.1.up (by decide)) (by rw [uI_a _ _ _ _ _ (by omega)]; exact g6)
        refine ⟨M2, ?_, b3, (g3.tr (Fr.uI (S := oM) ⟨by omega, by omega⟩)).tr (b2.mono (fun a ha => by unfold oJ at ha; unfold oM; omega))⟩
        unfold F_X7_lay
        rw [h.1.ck, Option.bind_some, g1, Option.bind_some, if_pos rfl, g2.1.1.i, Option.bind_some, g5, if_neg (nI_ne0 (by omega) (by omega)), g2.1.1.p, Option.bind_some]
        exact b1
  · refine ⟨-2, G, hG, fun M h => ?_, fun M h => ?_⟩
    · obtain ⟨M1, g1, g2, g3, g4⟩ := c_read hG h
      refine ⟨M1, ?_, g2, g3⟩
      unfold F_X6_lay
      rw [h.1.f (f := 0) rfl, Option.bind_some, h.1.f (f := 2) rfl, Option.bind_some, chkT_of (h.1.s 1 rfl), Option.bind_some, g1, Option.bind_some, if_neg e4]
    · obtain ⟨M1, g1, g2, g3, g4⟩ := r_read hG h
      refine ⟨M1, ?_, g2, g3⟩
      unfold F_X7_lay
      rw [h.1.ck, Option.bind_some, g1, Option.bind_some, if_neg e4]
