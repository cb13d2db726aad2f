/-! FAULT -/
theorem r_into {G : Sg} (hG : GOk G) : ∀ (k c n : Nat) (M : Mem), c + k = 7 → k < n → RI M G → mI M 100 17 = nI (stX (gX G) c) → mI M 100 18 = nI c → (∀ p, p < c → ∀ j, j < 5 → mI M 112 (5 * p + j) = vIt (gX G) p j) →
    ∃ M', F_X7_fault_10 n 100 M = some ((resX (gX G) k c).1, M') ∧ RI M' G ∧ Fr oM M M' ∧ ((resX (gX G) k c).1 = -4 → mI M' 100 18 = nI (resX (gX G) k c).2 ∧ ∀ p, p < (resX (gX G) k c).2 → ∀ j, j < 5 → mI M' 112 (5 * p + j) = vIt (gX G) p j) := by
  have hX := hG.1
  intro k
  induction k with
  | zero =>
    intro c n M hc hn h hp hcn hrow
    obtain ⟨n, rfl, -⟩ := fu_get hn
    have : c = 7 := by omega
    subst this
    have hst := stX_le (gX G) 7
    have hs := h.1.1
    simp only [F_X7_fault_10]
    unfold resX
    rw [hs.i, hs.i, Option.bind_some, Option.bind_some, hp, h.2.1.1]
    by_cases e : (gX G).1 ≤ stX (gX G) 7
    · rw [if_pos (nI_le e (by omega)), if_pos e]
      exact ⟨M, rfl, h, Fr.rf, fun _ => ⟨hcn, hrow⟩⟩
    · have hs1 : RS (uI M 100 17 (nI (stX (gX G) 7 + 1))) := hs
      have hf1 : Fr oI M (uI M 100 17 (nI (stX (gX G) 7 + 1))) := Fr.uI (Or.inl rfl)
      have hri : F_X7_readsItem 100 M = some (0, uI M 100 17 (nI (stX (gX G) 7 + 1))) := by
        unfold F_X7_readsItem
        rw [hs.ck, Option.bind_some, r_here hs h.2.1 hX (by omega) hp, Option.bind_some, hs.i, Option.bind_some, hp, nI_1, hs.p, Option.bind_some, hs1.i, Option.bind_some, uI_f _ _ _ _ (by omega), hcn]
        by_cases e1 : atX (gX G) (stX (gX G) 7) = 112
        · rw [if_pos e1, if_pos (show nI 7 = 7 from rfl)]
        · rw [if_neg e1]
      rw [if_neg (nI_ge (by omega) (by omega)), if_neg e, Option.bind_some, hs.ck, Option.bind_some, hri, Option.bind_some, if_pos rfl]
      exact ⟨_, rfl, h.sc hf1 (fun a ha => by unfold oI at ha; omega) (fun f hf => uI_f _ _ _ _ (fun z => hf (by rw [z]; unfold rOther; omega))), hf1.mono (fun a ha => by unfold oI at ha; unfold oM; omega), fun z => absurd z (nI_n4 (by omega))⟩
  | succ k ih =>
    intro c n M hc hn h hp hcn hrow
    obtain ⟨n, rfl, hn⟩ := fu_get hn
    have hst := stX_le (gX G) c
    have hs := h.1.1
    simp only [F_X7_fault_10]
    unfold resX
    rw [hs.i, hs.i, Option.bind_some, Option.bind_some, hp, h.2.1.1]
    by_cases e : (gX G).1 ≤ stX (gX G) c
    · rw [if_pos (nI_le e (by omega)), if_pos e]
      exact ⟨M, rfl, h, Fr.rf, fun _ => ⟨hcn, hrow⟩⟩
    · rw [if_neg (nI_ge (by omega) (by omega)), if_neg e, Option.bind_some, hs.ck, Option.bind_some]
      have hs1 : RS (uI M 100 17 (nI (stX (gX G) c + 1))) := hs
      have hf1 : Fr oI M (uI M 100 17 (nI (stX (gX G) c + 1))) := Fr.uI (Or.inl rfl)
      have hp1 : mI (uI M 100 17 (nI (stX (gX G) c + 1))) 100 17 = nI (psX (gX G) (stX (gX G) c + 1) 0) := by rw [mI_uI, if_pos rfl, upd_eq]; rfl
      have hc1 : mI (uI M 100 17 (nI (stX (gX G) c + 1))) 100 18 = nI c := by rw [uI_f _ _ _ _ (by omega)]; exact hcn
      have ht1 : RTx (uI M 100 17 (nI (stX (gX G) c + 1))) (gX G).1 (gX G).2 := h.2.1.up (by decide)
      obtain ⟨iA, iB⟩ := r_item hX (i := stX (gX G) c + 1) (c := c) (by omega) (by omega) 5 0 FU _ (by omega) (FU_gt (by omega)) hs1 ht1 hp1 hc1
      have hri : F_X7_readsItem 100 M = if atX (gX G) (stX (gX G) c) = 112 then F_X7_readsItem_34 FU 100 (nI 0) (uI M 100 17 (nI (stX (gX G) c + 1))) else some (0, uI M 100 17 (nI (stX (gX G) c + 1))) := by
        unfold F_X7_readsItem
        rw [hs.ck, Option.bind_some, r_here hs h.2.1 hX (by omega) hp, Option.bind_some, hs.i, Option.bind_some, hp, nI_1, hs.p, Option.bind_some, hs1.i, Option.bind_some, uI_f _ _ _ _ (by omega), hcn]
        by_cases e1 : atX (gX G) (stX (gX G) c) = 112
        · rw [if_pos e1, if_pos e1, if_neg (show ¬ nI c = 7 from fun z => by have := nI_inj (b := 7) (by omega) (by decide) z; omega)]
          rfl
        · rw [if_neg e1, if_neg e1]
      rw [hri]
      have fin : ∀ M1, Fr oI M M1 → (∀ f, f ≠ 17 → f ≠ 18 → f ≠ 20 → mI M1 100 f = mI M 100 f) → RI M1 G ∧ Fr oM M M1 := fun M1 f1 o1 => ⟨h.sc f1 (fun a ha => by unfold oI at ha; omega) (fun f hf => o1 f (fun z => hf (by rw [z]; unfold rOther; omega)) (fun z => hf (by rw [z]; unfold rOther; omega)) (fun z => hf (by rw [z]; unfold rOther; omega))), f1.mono (fun a ha => by unfold oI at ha; unfold oM; omega)⟩
      by_cases e1 : atX (gX G) (stX (gX G) c) = 112
      · rw [if_pos e1]
        by_cases e2 : ∀ j, j < 5 → ok5 (gX G) (stX (gX G) c + 1) j
        · rw [if_pos (show okIt (gX G) c from ⟨e1, e2⟩)]
          obtain ⟨M1, g1, g2, g3, g4, g5, g6⟩ := iA (fun j _ h2 => e2 j h2)
          obtain ⟨k1, k2⟩ := fin M1 (hf1.tr g2) (fun f h1 h2 h3 => by rw [g3 f h1 h2 h3, uI_f _ _ _ _ h1])
          rw [uI_a _ _ _ _ _ (by omega)] at g6
          obtain ⟨M2, d1, d2, d3, d4⟩ := ih (c + 1) n M1 (by omega) (by omega) k1 g4 g5 (fun p hp j hj => by
            rw [g6]
            unfold rwF
            by_cases ep : p = c
            · rw [if_pos (by omega), ep, show 5 * c + j - 5 * c = j by omega]; rfl
            · rw [if_neg (by omega)]; exact hrow p (by omega) j hj)
          refine ⟨M2, ?_, d2, k2.tr d3, d4⟩
          rw [g1, Option.bind_some, if_neg d10]
          exact d1
        · rw [if_neg (show ¬ okIt (gX G) c from fun z => e2 z.2)]
          obtain ⟨j, hj⟩ := Classical.not_forall.mp e2
          have hj5 : j < 5 := Classical.byContradiction (fun z => hj (fun y => absurd y z))
          obtain ⟨M1, g1, g2, g3, g4⟩ := iB ⟨j, by omega, hj5, fun z => hj (fun _ => z)⟩
          obtain ⟨k1, k2⟩ := fin M1 (hf1.tr g2) (fun f h1 h2 h3 => by rw [g3 f h1 h2 h3, uI_f _ _ _ _ h1])
          refine ⟨M1, ?_, k1, k2, fun z => absurd z (nI_n4 (by omega))⟩
          rw [g1, Option.bind_some, if_pos rfl]
      · rw [if_neg e1, if_neg (show ¬ okIt (gX G) c from fun z => e1 z.1), Option.bind_some, if_pos rfl]
        obtain ⟨k1, k2⟩ := fin _ hf1 (fun f h1 _ _ => uI_f _ _ _ _ h1)
        exact ⟨_, rfl, k1, k2, fun z => absurd z (nI_n4 (by omega))⟩
theorem r_read {G : Sg} (hG : GOk G) {M : Mem} (h : RI M G) : ∃ M', F_X7_fault 100 M = some ((resX (gX G) 7 0).1, M') ∧ RI M' G ∧ Fr oM M M' ∧ ((resX (gX G) 7 0).1 = -4 → mI M' 100 18 = nI (resX (gX G) 7 0).2 ∧ ∀ p, p < (resX (gX G) 7 0).2 → ∀ j, j < 5 → mI M' 112 (5 * p + j) = vIt (gX G) p j) := by
  have hs := h.1.1
  have hs1 : RS (uI M 100 17 0) := hs
  have hf : Fr oI M (uI (uI M 100 17 0) 100 18 0) := (Fr.uI (S := oI) (Or.inl rfl)).tr (Fr.uI (S := oI) (Or.inl rfl))
  have h1 : RI (uI (uI M 100 17 0) 100 18 0) G := h.sc hf (fun a ha => by unfold oI at ha; omega) (fun f hf => by rw [uI_f _ _ _ _ (fun z => hf (by rw [z]; unfold rOther; omega)), uI_f _ _ _ _ (fun z => hf (by rw [z]; unfold rOther; omega))])
  obtain ⟨M', g1, g2, g3, g4⟩ := r_into hG 7 0 FU _ (by omega) (FU_gt (by omega)) h1 (by rw [uI_f _ _ _ _ (by omega), mI_uI, if_pos rfl, upd_eq]; rfl) (by rw [mI_uI, if_pos rfl, upd_eq]; rfl) (fun p hp => absurd hp (Nat.not_lt_zero p))
  refine ⟨M', ?_, g2, (hf.mono (S2 := oM) (fun a ha => by unfold oI at ha; unfold oM; omega)).tr g3, g4⟩
  unfold F_X7_fault
  rw [hs.p, Option.bind_some, hs1.p, Option.bind_some]
  exact g1
theorem m_fault {G : Sg} (hG : GOk G) : QM (F_X6_fault 5) (F_X7_fault 100) G := by
  refine ⟨(resX (gX G) 7 0).1, G, hG, fun M h => ?_, fun M h => ?_⟩
  · obtain ⟨M', g1, g2, g3, g4⟩ := c_read hG h
    refine ⟨M', ?_, g2, g3⟩
    unfold F_X6_fault
    rw [h.1.f (f := 0) rfl, Option.bind_some, h.1.f (f := 2) rfl, Option.bind_some, chkT_of (h.1.s 1 rfl), Option.bind_some, g1]
    rfl
  · obtain ⟨M', g1, g2, g3, g4⟩ := r_read hG h
    exact ⟨M', g1, g2, g3⟩
