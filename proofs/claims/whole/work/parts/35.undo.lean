/-! UNDO, KEEP AND BACK -/
theorem c_take {M : Mem} {G : Sg} (h : CI M G) {n : Nat} (hn : (gU G).1 = n + 1) : ∃ M', F_X2_takeInto 21 9 M = some (1, M') ∧ CI M' (gST (gSU G (n, (gU G).2)) ((gU G).2 n)) ∧ Fr oC M M' := by
  obtain ⟨h1, h2, h3, h4, h5, h6, ⟨w, h7⟩, h8⟩ := h
  rw [hn] at h4
  obtain ⟨M', e1, e2, e3, e4⟩ := pile_take h4 (by omega) rfl (by omega) (h1.s 4 rfl) (h1.s 5 rfl) (h1.r 12 rfl) (h1.t 0 rfl)
  refine ⟨M', e1, ⟨h1.fr e2 ⟨by unfold oT; omega, by unfold oT; omega⟩, h2.fr e2 (by unfold oT; omega) (by unfold oT; omega), e4, e3, h5.fr e2 (by unfold oT; omega) (by unfold oT; omega) (fun a _ _ => by unfold oT; omega), h6.fr e2 (fun a _ _ => by unfold oT; omega), ⟨w, h7.fr e2 (fun a _ _ => by unfold oT; omega)⟩, ?_⟩, e2.mono (fun a ha => by unfold oT at ha; unfold oC; omega)⟩
  rw [(e2.2.2.1 96 (by unfold oT; omega)).2]
  exact h8
theorem c_takeK {M : Mem} {G : Sg} (h : CI M G) {n : Nat} (hn : (gK G).1 = n + 1) : ∃ M', F_X2_takeInto 71 9 M = some (1, M') ∧ CI M' (gST (gSK G (n, (gK G).2)) ((gK G).2 n)) ∧ Fr oC M M' := by
  obtain ⟨h1, h2, h3, h4, h5, h6, ⟨w, h7⟩, h8⟩ := h
  rw [hn] at h5
  obtain ⟨M', e1, e2, e3, e4⟩ := pile_take h5 (by omega) rfl (by omega) (h1.s 6 rfl) (h1.s 7 rfl) (h1.r 13 rfl) (h1.t 0 rfl)
  refine ⟨M', e1, ⟨h1.fr e2 ⟨by unfold oT; omega, by unfold oT; omega⟩, h2.fr e2 (by unfold oT; omega) (by unfold oT; omega), e4, h4.fr e2 (by unfold oT; omega) (by unfold oT; omega) (fun a _ _ => by unfold oT; omega), e3, h6.fr e2 (fun a _ _ => by unfold oT; omega), ⟨w, h7.fr e2 (fun a _ _ => by unfold oT; omega)⟩, ?_⟩, e2.mono (fun a ha => by unfold oT at ha; unfold oC; omega)⟩
  rw [(e2.2.2.1 96 (by unfold oT; omega)).2]
  exact h8
/-- one of them may stand as the town -/
theorem GOk.go {G : Sg} (h : GOk G) {T : Tn} (hT : TOk T) (hk : sameK (gT G) T) {u k : Nat} (hu : u ≤ (gU G).1) (hk2 : k ≤ (gK G).1) : GOk (gST (gSK (gSU G (u, (gU G).2)) (k, (gK G).2)) T) := by
  have hh : ∀ U, sameK (gT G) U → sameK T U := fun U hU => ⟨by rw [hk.1]; exact hU.1, fun j hj => (hU.2 j (by rw [← hk.1]; exact hj)).trans (hk.2 j (by rw [← hk.1]; exact hj)).symm⟩
  exact ⟨h.1, h.2.1, hT, Nat.le_trans hu h.2.2.2.1, fun i hi => ⟨hh _ (h.2.2.2.2.1 i (Nat.lt_of_lt_of_le hi hu)).1, (h.2.2.2.2.1 i (Nat.lt_of_lt_of_le hi hu)).2⟩, Nat.le_trans hk2 h.2.2.2.2.2.1, fun i hi => ⟨hh _ (h.2.2.2.2.2.2.1 i (Nat.lt_of_lt_of_le hi hk2)).1, (h.2.2.2.2.2.2.1 i (Nat.lt_of_lt_of_le hi hk2)).2⟩, h.2.2.2.2.2.2.2⟩
theorem RI.fU {M : Mem} {G : Sg} (h : RI M G) {n : Nat} (hn : n ≤ (gU G).1) : RI (uI M 100 22 (nI n)) (gSU G (n, (gU G).2)) := by
  obtain ⟨h1, h2, h3, h4, h5, h6⟩ := h
  have e : ∀ a, a ≠ 100 → mI (uI M 100 22 (nI n)) a = mI M a := fun a ha => uI_a _ _ _ _ _ ha
  have f : ∀ g, g ≠ 22 → mI (uI M 100 22 (nI n)) 100 g = mI M 100 g := fun g hg => uI_f _ _ _ _ hg
  exact ⟨h1.of h1.1 (fun g hg => f g (by omega)) (fun a _ _ => e a (by omega)), h2.of (f _ (by omega)) (e _ (by omega)), ⟨by rw [mI_uI, if_pos rfl, upd_eq]; rfl, fun i hi => h3.2 i (Nat.lt_of_lt_of_le hi hn)⟩, h4.of (f _ (by omega)) (e _ (by omega)), h5.of (f _ (by omega)) (e _ (by omega)) (e _ (by omega)) (e _ (by omega)), h6.of (f _ (by omega)) (e _ (by omega)) (e _ (by omega))⟩
theorem RI.fK {M : Mem} {G : Sg} (h : RI M G) {n : Nat} (hn : n ≤ (gK G).1) : RI (uI M 100 29 (nI n)) (gSK G (n, (gK G).2)) := by
  obtain ⟨h1, h2, h3, h4, h5, h6⟩ := h
  have e : ∀ a, a ≠ 100 → mI (uI M 100 29 (nI n)) a = mI M a := fun a ha => uI_a _ _ _ _ _ ha
  have f : ∀ g, g ≠ 29 → mI (uI M 100 29 (nI n)) 100 g = mI M 100 g := fun g hg => uI_f _ _ _ _ hg
  exact ⟨h1.of h1.1 (fun g hg => f g (by omega)) (fun a _ _ => e a (by omega)), h2.of (f _ (by omega)) (e _ (by omega)), h3.of (f _ (by omega)) (e _ (by omega)), ⟨by rw [mI_uI, if_pos rfl, upd_eq]; rfl, fun i hi => h4.2 i (Nat.lt_of_lt_of_le hi hn)⟩, h5.of (f _ (by omega)) (e _ (by omega)) (e _ (by omega)) (e _ (by omega)), h6.of (f _ (by omega)) (e _ (by omega)) (e _ (by omega))⟩
theorem m_undo {G : Sg} (hG : GOk G) : QM (F_X6_undo 5) (F_X7_undo 100) G := by
  cases hn : (gU G).1 with
  | zero =>
    refine ⟨-2, G, hG, fun M h => ⟨M, ?_, h, Fr.rf⟩, fun M h => ⟨M, ?_, h, Fr.rf⟩⟩
    · have h4 := h.2.2.2.1
      rw [hn] at h4
      unfold F_X6_undo
      rw [h.1.f (f := 3) rfl, Option.bind_some, h.r1, Option.bind_some, chkT_of (h.1.s 4 rfl), Option.bind_some, pile_none h4 (h.1.s 4 rfl)]
      rfl
    · unfold F_X7_undo
      rw [h.1.1.i, h.2.2.1.1, hn]
      rfl
  | succ n =>
    have h8 := hG.2.2.2.1
    have hu := hG.2.2.2.2.1 n (by omega)
    refine ⟨nI n, gST (gSU G (n, (gU G).2)) ((gU G).2 n), hG.go hu.2 hu.1 (u := n) (k := (gK G).1) (by omega) (Nat.le_refl _), fun M h => ?_, fun M h => ?_⟩
    · obtain ⟨M', e1, e2, e3⟩ := c_take h hn
      refine ⟨M', ?_, e2, e3⟩
      unfold F_X6_undo
      rw [h.1.f (f := 3) rfl, Option.bind_some, h.r1, Option.bind_some, chkT_of (h.1.s 4 rfl), Option.bind_some, e1, Option.bind_some, if_neg d10, e2.1.f (f := 3) rfl, Option.bind_some, chkT_of (e2.1.s 4 rfl), Option.bind_some, e2.2.2.2.1.sz (e2.1.s 4 rfl)]
      rfl
    · have k1 := h.fU (n := n) (by omega)
      obtain ⟨M', g1, g2, g3, g4⟩ := ref_takes (T' := (gU G).2 n) (at_ := 30 * n) k1.1 (k1.1.1.s 21 (a := 112) rfl) (by omega) (by omega) (by omega) (h.2.2.1.2 n (by omega)) hu.1
      obtain ⟨k2, k3⟩ := k1.tn g2 (fun a ha => ha) g3 g4
      refine ⟨M', ?_, k2, (Fr.uI (S := oM) ⟨by omega, by omega⟩).tr k3⟩
      have v : fI (uI M 100 22 (nI n)) 7 100 22 = some (nI n) := by rw [k1.1.1.i, k1.2.2.1.1]; rfl
      have v2 : fI M' 7 100 22 = some (nI n) := by rw [k2.1.1.i, k2.2.2.1.1]; rfl
      unfold F_X7_undo
      rw [h.1.1.i, h.2.2.1.1, hn, Option.bind_some, if_neg (show ¬ nI (n + 1) = 0 from nI_ne0 (by omega) (by omega)), Option.bind_some, nI_pred, h.1.1.p, Option.bind_some, k1.1.1.r 21 (a := 112) rfl, Option.bind_some, v, Option.bind_some, k1.1.ck, Option.bind_some, nI_30, g1, Option.bind_some, v2]
      rfl
theorem m_back {G : Sg} (hG : GOk G) : QM (F_X6_back 5) (F_X7_back 100) G := by
  cases hn : (gK G).1 with
  | zero =>
    refine ⟨-2, G, hG, fun M h => ⟨M, ?_, h, Fr.rf⟩, fun M h => ⟨M, ?_, h, Fr.rf⟩⟩
    · have h4 := h.2.2.2.2.1
      rw [hn] at h4
      unfold F_X6_back
      rw [h.1.f (f := 4) rfl, Option.bind_some, h.r1, Option.bind_some, chkT_of (h.1.s 6 rfl), Option.bind_some, pile_none h4 (h.1.s 6 rfl)]
      rfl
    · unfold F_X7_back
      rw [h.1.1.i, h.2.2.2.1.1, hn]
      rfl
  | succ n =>
    have h8 := hG.2.2.2.2.2.1
    have hu := hG.2.2.2.2.2.2.1 n (by omega)
    refine ⟨nI n, gSU (gST (gSK G (n, (gK G).2)) ((gK G).2 n)) (0, (gU G).2), hG.go hu.2 hu.1 (u := 0) (k := n) (by omega) (by omega), fun M h => ?_, fun M h => ?_⟩
    · obtain ⟨M', e1, e2, e3⟩ := c_takeK h hn
      have hf : Fr (fun a => 21 ≤ a ∧ a < 71) M' (uI M' 21 1 0) := Fr.uI ⟨by omega, by omega⟩
      have k1 := e2.mkU (v := (0, (gU G).2)) hf (fun a ha => ha) (by
        obtain ⟨p1, p2, p3, p4, p5⟩ := e2.2.2.2.1
        exact ⟨by rw [mI_uI, if_pos rfl, upd_eq]; rfl, by omega, p3, p4, fun i hi => absurd hi (Nat.not_lt_zero i)⟩)
      refine ⟨uI M' 21 1 0, ?_, k1, e3.tr (hf.mono (fun a ha => by unfold oC; omega))⟩
      unfold F_X6_back F_X2_empty
      rw [h.1.f (f := 4) rfl, Option.bind_some, h.r1, Option.bind_some, chkT_of (h.1.s 6 rfl), Option.bind_some, e1, Option.bind_some, if_neg d10, e2.1.f (f := 3) rfl, Option.bind_some, chkT_of (e2.1.s 4 rfl), Option.bind_some, pI_of (e2.1.s 4 rfl), Option.bind_some, Option.bind_some, k1.1.f (f := 4) rfl, Option.bind_some, chkT_of (k1.1.s 6 rfl), Option.bind_some, k1.2.2.2.2.1.sz (k1.1.s 6 rfl)]
      rfl
    · have k1 := h.fK (n := n) (by omega)
      obtain ⟨M', g1, g2, g3, g4⟩ := ref_takes (T' := (gK G).2 n) (at_ := 30 * n) k1.1 (k1.1.1.s 28 (a := 117) rfl) (by omega) (by omega) (by omega) (h.2.2.2.1.2 n (by omega)) hu.1
      obtain ⟨k2, k3⟩ := k1.tn g2 (fun a ha => ha) g3 g4
      have k4 := k2.fU (n := 0) (by omega)
      refine ⟨uI M' 100 22 (nI 0), ?_, k4, ((Fr.uI (S := oM) ⟨by omega, by omega⟩).tr k3).tr (Fr.uI (S := oM) ⟨by omega, by omega⟩)⟩
      have v : fI (uI M 100 29 (nI n)) 7 100 29 = some (nI n) := by rw [k1.1.1.i, k1.2.2.2.1.1]; rfl
      have v2 : fI (uI M' 100 22 (nI 0)) 7 100 29 = some (nI n) := by rw [k4.1.1.i, k4.2.2.2.1.1]; rfl
      unfold F_X7_back
      rw [h.1.1.i, h.2.2.2.1.1, hn, Option.bind_some, if_neg (show ¬ nI (n + 1) = 0 from nI_ne0 (by omega) (by omega)), Option.bind_some, nI_pred, h.1.1.p, Option.bind_some, k1.1.1.r 28 (a := 117) rfl, Option.bind_some, v, Option.bind_some, k1.1.ck, Option.bind_some, nI_30, g1, Option.bind_some, z0, k2.1.1.p, Option.bind_some, v2]
      rfl
theorem m_keep {G : Sg} (hG : GOk G) : QM (F_X6_keep 5) (F_X7_keep 100) G := by
  have h8 := hG.2.2.2.2.2.1
  by_cases hn : (gK G).1 < 2
  · have hu := psh_all (c := 2) (v := gK G) (T := gT G) (P := fun U => sameK (gT G) U ∧ TOk U) (by omega) (fun i hi => hG.2.2.2.2.2.2.1 i hi) h8 ⟨sameK.rf _, hG.2.2.1⟩
    refine ⟨nI ((gK G).1 + 1), gSK G (psh 2 (gK G) (gT G)), ⟨hG.1, hG.2.1, hG.2.2.1, hG.2.2.2.1, hG.2.2.2.2.1, hu.1, hu.2, hG.2.2.2.2.2.2.2⟩, fun M h => ?_, fun M h => ?_⟩
    · obtain ⟨M', e1, e2, e3⟩ := pile_put h.2.2.2.2.1 (T := gT G) (by omega) (by omega) rfl (by omega) (h.1.s 6 rfl) (h.1.s 7 rfl) (h.1.r 13 rfl) (by unfold Rf; omega) (by unfold Rf; omega) (fun k hk => by unfold Rf; omega) (fun k hk => h.1.2.2.1 _ (by
        have : k = 0 ∨ k = 1 := by omega
        rcases this with rfl | rfl <;> decide)) h.2.2.1
      have k1 := h.mkK e2 (fun a ha => by omega) e3
      refine ⟨M', ?_, k1, e2.mono (fun a ha => by unfold oC; omega)⟩
      have e4 := e3.sz (k1.1.s 6 rfl)
      rw [psh_lt (v := ((gK G).1, (gK G).2)) hn] at e4
      unfold F_X6_keep
      rw [h.1.f (f := 4) rfl, Option.bind_some, chkT_of (h.1.s 6 rfl), Option.bind_some, pile_full h.2.2.2.2.1 (by omega) (h.1.s 6 rfl) (h.1.s 7 rfl) (h.1.r 13 rfl), if_pos hn, Option.bind_some, if_pos rfl, Option.bind_some, h.r1, Option.bind_some, chkT_of (h.1.s 6 rfl), Option.bind_some, e1, Option.bind_some, k1.1.f (f := 4) rfl, Option.bind_some, chkT_of (k1.1.s 6 rfl), Option.bind_some, e4]
      rfl
    · obtain ⟨h1, h2, h3, h4, h5, h6⟩ := id h
      obtain ⟨M1, e1, e2, e3, e4, e5⟩ := ref_put h1 (c := 2) (h1.1.s 28 (a := 117) rfl) (by omega) (by omega) h4 (fun i hi => (hG.2.2.2.2.2.2.1 i hi).2.2.1) hn (by omega)
      have e : ∀ a, a ≠ 100 → a ≠ 118 → mI (uI M1 100 29 (nI ((gK G).1 + 1))) a = mI M a := fun a ha hb => by rw [uI_a _ _ _ _ _ ha]; exact e4.i hb
      have f : ∀ g, g ≠ 29 → mI (uI M1 100 29 (nI ((gK G).1 + 1))) 100 g = mI M 100 g := fun g hg => by rw [uI_f _ _ _ _ hg, e4.i (by omega)]
      refine ⟨uI M1 100 29 (nI ((gK G).1 + 1)), ?_, ⟨h1.of e2 (fun g hg => f g (by omega)) (fun a _ _ => e a (by omega) (by omega)), h2.of (f _ (by omega)) (e _ (by omega) (by omega)), h3.of (f _ (by omega)) (e _ (by omega) (by omega)), ?_, h5.of (f _ (by omega)) (e _ (by omega) (by omega)) (e _ (by omega) (by omega)) (e _ (by omega) (by omega)), h6.of (f _ (by omega)) (e _ (by omega) (by omega)) (e _ (by omega) (by omega))⟩, (e4.mono (S2 := oM) (fun a ha => by unfold oM; omega)).tr (Fr.uI (S := oM) ⟨by omega, by omega⟩)⟩
      · have r2 : RS (uI M1 100 29 (nI ((gK G).1 + 1))) := e2
        unfold F_X7_keep
        rw [h1.1.i, h4.1, Option.bind_some, if_neg (show ¬ nI (gK G).1 = 2 from fun z => by have := nI_inj (b := 2) (by omega) (by decide) z; omega), h1.1.r 28 (a := 117) rfl, Option.bind_some, Option.bind_some, h1.ck, Option.bind_some, nI_30, e1, Option.bind_some, e3, Option.bind_some, nI_1, e2.p, Option.bind_some, r2.i, e5.1]
        rfl
      · show RPl _ 118 29 (psh 2 (gK G) (gT G)).1 (psh 2 (gK G) (gT G)).2
        rw [psh_lt hn]
        exact e5
  · have h2 : (gK G).1 = 2 := by omega
    refine ⟨-3, G, hG, fun M h => ⟨M, ?_, h, Fr.rf⟩, fun M h => ⟨M, ?_, h, Fr.rf⟩⟩
    · unfold F_X6_keep
      rw [h.1.f (f := 4) rfl, Option.bind_some, chkT_of (h.1.s 6 rfl), Option.bind_some, pile_full h.2.2.2.2.1 (by omega) (h.1.s 6 rfl) (h.1.s 7 rfl) (h.1.r 13 rfl), if_neg hn, Option.bind_some, if_neg d10]
    · unfold F_X7_keep
      rw [h.1.1.i, h.2.2.2.1.1, h2]
      rfl
