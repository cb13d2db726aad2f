section ROf
variable {M M' : Mem}
theorem RA.of {T : Tn} (h : RA M T) (hr : RS M') (h0 : ∀ f, f = 0 ∨ f = 2 ∨ f = 3 → mI M' 100 f = mI M 100 f) (hrw : ∀ a, 101 ≤ a → a ≤ 105 → mI M' a = mI M a) : RA M' T := ⟨hr, h.2.1, by rw [h0 0 (by omega)]; exact h.2.2.1, by rw [h0 2 (by omega)]; exact h.2.2.2.1, by rw [h0 3 (by omega)]; exact h.2.2.2.2.1, fun i hi j hj => by rw [hrw _ (by omega) (by omega)]; exact h.2.2.2.2.2 i hi j hj⟩
theorem RTx.of {n : Nat} {f : Nat → Int32} (h : RTx M n f) (h0 : mI M' 100 16 = mI M 100 16) (hr : mI M' 111 = mI M 111) : RTx M' n f := ⟨by rw [h0]; exact h.1, by rw [hr]; exact h.2⟩
theorem RPl.of {row fld n : Nat} {U : Nat → Tn} (h : RPl M row fld n U) (h0 : mI M' 100 fld = mI M 100 fld) (hr : mI M' row = mI M row) : RPl M' row fld n U := ⟨by rw [h0]; exact h.1, by unfold NA; rw [hr]; exact h.2⟩
theorem RSn.of {n : Nat} {w d y : Nat → Int32} (h : RSn M n w d y) (h0 : mI M' 100 8 = mI M 100 8) (h6 : mI M' 106 = mI M 106) (h7 : mI M' 107 = mI M 107) (h8 : mI M' 108 = mI M 108) : RSn M' n w d y := ⟨by rw [h0]; exact h.1, by rw [h6, h7, h8]; exact h.2⟩
theorem RTd.of {n : Nat} {d y : Nat → Int32} (h : RTd M n d y) (h0 : mI M' 100 12 = mI M 100 12) (h6 : mI M' 109 = mI M 109) (h7 : mI M' 110 = mI M 110) : RTd M' n d y := ⟨by rw [h0]; exact h.1, by rw [h6, h7]; exact h.2⟩
/-- only some fields of the reference's object are other ones, and some rows -/
theorem uI_f (M : Mem) (f : Nat) (v : Int32) (g : Nat) (h : g ≠ f) : mI (uI M 100 f v) 100 g = mI M 100 g := by rw [mI_uI, if_pos rfl, upd_ne h]
theorem uI_a (M : Mem) (a i : Nat) (v : Int32) (b : Nat) (h : b ≠ a) : mI (uI M a i v) b = mI M b := by rw [mI_uI, if_neg h]
end ROf
theorem m_wipe {G : Sg} (hG : GOk G) : QM (F_X6_wipe 5) (F_X7_wipe 100) G := by
  refine ⟨nI (gX G).1, gSX G (0, (gX G).2), ⟨Nat.zero_le _, fun j hj => absurd hj (Nat.not_lt_zero j), hG.2.2⟩, fun M h => ?_, fun M h => ?_⟩
  · have hs6 := h.1.s 1 rfl
    have hf : Fr (fun a => a = 6 ∨ a = 7) M (uI M 6 2 0) := Fr.uI (Or.inl rfl)
    refine ⟨_, ?_, h.mkX (v := (0, (gX G).2)) hf (fun a ha => ha) ⟨by rw [mI_uI, if_pos rfl, upd_eq]; rfl, fun j hj => absurd hj (Nat.not_lt_zero j)⟩, hf.mono (fun a ha => by unfold oC; omega)⟩
    unfold F_X6_wipe F_X3_empty
    rw [h.1.f (f := 0) rfl, Option.bind_some, chkT_of hs6, Option.bind_some, fI_of hs6, Option.bind_some, pI_of hs6, h.2.1.1]
    rfl
  · obtain ⟨h1, h2, h3, h4, h5, h6⟩ := h
    refine ⟨uI M 100 16 0, ?_, ⟨h1.of h1.1 (fun f hf => uI_f M 16 0 f (by omega)) (fun a _ _ => uI_a M 100 16 0 a (by omega)), ⟨by rw [mI_uI, if_pos rfl, upd_eq]; rfl, fun j hj => absurd hj (Nat.not_lt_zero j)⟩, h3.of (uI_f _ _ _ _ (by decide)) (uI_a _ _ _ _ _ (by decide)), h4.of (uI_f _ _ _ _ (by decide)) (uI_a _ _ _ _ _ (by decide)), h5.of (uI_f _ _ _ _ (by decide)) (uI_a _ _ _ _ _ (by decide)) (uI_a _ _ _ _ _ (by decide)) (uI_a _ _ _ _ _ (by decide)), h6.of (uI_f _ _ _ _ (by decide)) (uI_a _ _ _ _ _ (by decide)) (uI_a _ _ _ _ _ (by decide))⟩, Fr.uI (S := oM) ⟨by omega, by omega⟩⟩
    unfold F_X7_wipe
    rw [h1.1.i, Option.bind_some, h1.1.p, h2.1]
    rfl
/-- a note is taken -/
theorem note_put {M : Mem} {o n : Nat} {w d y : Nat → Int32} (h : CNt M o n w d y) (hs : mS M o = (1, 4)) (hs1 : mS M (o + 1) = (10, 6)) (hs2 : mS M (o + 2) = (10, 6)) (hs3 : mS M (o + 3) = (10, 6)) (hr0 : mR M o 0 = o + 1) (hr1 : mR M o 1 = o + 2) (hr2 : mR M o 2 = o + 3) (hn : n < 6) (a b c : Int32) : ∃ M', F_X1_note o a b c M = some (1, M') ∧ Fr (fun x => o ≤ x ∧ x < o + 4) M M' ∧ CNt M' o (n + 1) (upd w n a) (upd d n b) (upd y n c) := by
  have e1 : stI M (o + 1) (nI n) a = some (uI M (o + 1) n a) := stI_nI _ hs1 hn (by decide)
  have e2 : stI (uI M (o + 1) n a) (o + 2) (nI n) b = some (uI (uI M (o + 1) n a) (o + 2) n b) := stI_nI _ hs2 hn (by decide)
  have e3 : stI (uI (uI M (o + 1) n a) (o + 2) n b) (o + 3) (nI n) c = some (uI (uI (uI M (o + 1) n a) (o + 2) n b) (o + 3) n c) := stI_nI _ hs3 hn (by decide)
  have f1 : fI (uI M (o + 1) n a) 1 o 3 = some (nI n) := by rw [fI_of (M := uI M _ _ _) hs, uI_a _ _ _ _ _ (by omega), h.1]
  have f2 : fI (uI (uI M (o + 1) n a) (o + 2) n b) 1 o 3 = some (nI n) := by rw [fI_of (M := uI (uI M _ _ _) _ _ _) hs, uI_a _ _ _ _ _ (by omega), uI_a _ _ _ _ _ (by omega), h.1]
  have f3 : fI (uI (uI (uI M (o + 1) n a) (o + 2) n b) (o + 3) n c) 1 o 3 = some (nI n) := by rw [fI_of (M := uI (uI (uI M _ _ _) _ _ _) _ _ _) hs, uI_a _ _ _ _ _ (by omega), uI_a _ _ _ _ _ (by omega), uI_a _ _ _ _ _ (by omega), h.1]
  refine ⟨uI (uI (uI (uI M (o + 1) n a) (o + 2) n b) (o + 3) n c) o 3 (nI (n + 1)), ?_, ?_, ?_⟩
  · unfold F_X1_note
    rw [fI_of hs, Option.bind_some, h.1, if_pos (show nI n < 6 from nI_lt (b := 6) hn (by decide)), fR_of hs, Option.bind_some, Option.bind_some, hr0, e1, Option.bind_some]
    rw [fR_of (M := uI M _ _ _) hs, Option.bind_some, f1, Option.bind_some, mR_uI, hr1, e2, Option.bind_some]
    rw [fR_of (M := uI (uI M _ _ _) _ _ _) hs, Option.bind_some, f2, Option.bind_some, mR_uI, mR_uI, hr2, e3, Option.bind_some, f3, Option.bind_some, nI_1, pI_of (M := uI (uI (uI M _ _ _) _ _ _) _ _ _) hs]
    rfl
  · exact (((Fr.uI (S := fun x => o ≤ x ∧ x < o + 4) ⟨by omega, by omega⟩).tr (Fr.uI ⟨by omega, by omega⟩)).tr (Fr.uI ⟨by omega, by omega⟩)).tr (Fr.uI ⟨by omega, by omega⟩)
  · refine ⟨by rw [mI_uI, if_pos rfl, upd_eq], fun j hj => ?_⟩
    have e : ∀ (f g : Nat → Int32) (z : Int32), (j < n → f j = g j) → upd f n z j = upd g n z j := by
      intro f g z hfg
      by_cases e : j = n
      · subst e; rw [upd_eq, upd_eq]
      · rw [upd_ne e, upd_ne e]; exact hfg (by omega)
    refine ⟨?_, ?_, ?_⟩
    · rw [uI_a _ _ _ _ _ (by omega), uI_a _ _ _ _ _ (by omega), uI_a _ _ _ _ _ (by omega), mI_uI, if_pos rfl]
      exact e _ _ _ (fun hj => (h.2 j hj).1)
    · rw [uI_a _ _ _ _ _ (by omega), uI_a _ _ _ _ _ (by omega), mI_uI, if_pos rfl, uI_a _ _ _ _ _ (by omega)]
      exact e _ _ _ (fun hj => (h.2 j hj).2.1)
    · rw [uI_a _ _ _ _ _ (by omega), mI_uI, if_pos rfl, uI_a _ _ _ _ _ (by omega), uI_a _ _ _ _ _ (by omega)]
      exact e _ _ _ (fun hj => (h.2 j hj).2.2)
theorem note_full {M : Mem} {o : Nat} {w d y : Nat → Int32} (h : CNt M o 6 w d y) (hs : mS M o = (1, 4)) (a b c : Int32) : F_X1_note o a b c M = some (0, M) := by
  unfold F_X1_note
  rw [fI_of hs, Option.bind_some, h.1]
  rfl
theorem m_seen {G : Sg} (hG : GOk G) (x y z : Int32) : QM (F_X6_seen 5 x y z) (F_X7_seen 100 x y z) G := by
  have h6 := hG.2.2.2.2.2.2.2.1
  by_cases hp : IsP (gT G) x
  · by_cases hy : InR 0 24 y
    · by_cases hz : InR 0 11 z
      · by_cases hn : (gS G).1 < 6
        · refine ⟨nI ((gS G).1 + 1), gSS G ((gS G).1 + 1, upd (gS G).2.1 (gS G).1 x, upd (gS G).2.2.1 (gS G).1 y, upd (gS G).2.2.2 (gS G).1 z), ⟨hG.1, hG.2.1, hG.2.2.1, hG.2.2.2.1, hG.2.2.2.2.1, hG.2.2.2.2.2.1, hG.2.2.2.2.2.2.1, ?_, ?_, hG.2.2.2.2.2.2.2.2.2⟩, fun M h => ?_, fun M h => ?_⟩
          · show (gS G).1 + 1 ≤ 6; omega
          · intro j hj
            show ∃ d, _ ∧ upd (gS G).2.2.1 (gS G).1 y j = nI d
            by_cases e : j = (gS G).1
            · subst e
              obtain ⟨d, -, hd, rfl⟩ := hy
              exact ⟨d, hd, upd_eq⟩
            · rw [upd_ne e]
              exact hG.2.2.2.2.2.2.2.2.1 j (by have : j < (gS G).1 + 1 := hj; omega)
          · obtain ⟨M', e1, e2, e3⟩ := note_put h.2.2.2.2.2.1 (h.1.s 8 rfl) (h.1.s 9 rfl) (h.1.s 10 rfl) (h.1.s 11 rfl) (h.1.r 14 rfl) (h.1.r 15 rfl) (h.1.r 16 rfl) hn x y z
            have hci := h.mkS (v := ((gS G).1 + 1, upd (gS G).2.1 (gS G).1 x, upd (gS G).2.2.1 (gS G).1 y, upd (gS G).2.2.2 (gS G).1 z)) e2 (fun a ha => ha) e3
            refine ⟨M', ?_, hci, e2.mono (fun a ha => by unfold oC; omega)⟩
            unfold F_X6_seen
            rw [h.c, Option.bind_some, h.noP_t hG hp, Option.bind_some, if_pos rfl, out_t 0 24 0 24 hy, Option.bind_some, if_pos rfl, out_t 0 11 0 11 hz, Option.bind_some, if_pos rfl, h.1.f (f := 5) rfl, Option.bind_some, chkT_of (h.1.s 8 rfl), Option.bind_some, e1, Option.bind_some, if_neg d10, hci.1.f (f := 5) rfl, Option.bind_some, chkT_of (hci.1.s 8 rfl), Option.bind_some, e3.sz (hci.1.s 8 rfl)]
            rfl
          · obtain ⟨h1, h2, h3, h4, h5, h6'⟩ := id h
            have e0 : fI M 7 100 8 = some (nI (gS G).1) := by rw [h1.1.i, h5.1]
            have s1 : stI M 106 (nI (gS G).1) x = some (uI M 106 (gS G).1 x) := stI_nI _ (h1.1.s 9 rfl) hn (by decide)
            have s2 : stI (uI M 106 (gS G).1 x) 107 (nI (gS G).1) y = some (uI (uI M 106 (gS G).1 x) 107 (gS G).1 y) := stI_nI _ (h1.1.s 10 rfl) hn (by decide)
            have s3 : stI (uI (uI M 106 (gS G).1 x) 107 (gS G).1 y) 108 (nI (gS G).1) z = some (uI (uI (uI M 106 (gS G).1 x) 107 (gS G).1 y) 108 (gS G).1 z) := stI_nI _ (h1.1.s 11 rfl) hn (by decide)
            generalize hn0 : (gS G).1 = n0 at *
            have r1 : RS (uI M 106 n0 x) := h1.1
            have r2 : RS (uI (uI M 106 n0 x) 107 n0 y) := h1.1
            have r3 : RS (uI (uI (uI M 106 n0 x) 107 n0 y) 108 n0 z) := h1.1
            have r4 : RS (uI (uI (uI (uI M 106 n0 x) 107 n0 y) 108 n0 z) 100 8 (nI (n0 + 1))) := h1.1
            have f1 : fI (uI M 106 n0 x) 7 100 8 = some (nI n0) := by rw [r1.i, uI_a _ _ _ _ _ (by decide), h5.1]
            have f2 : fI (uI (uI M 106 n0 x) 107 n0 y) 7 100 8 = some (nI n0) := by rw [r2.i, uI_a _ _ _ _ _ (by decide), uI_a _ _ _ _ _ (by decide), h5.1]
            have f3 : fI (uI (uI (uI M 106 n0 x) 107 n0 y) 108 n0 z) 7 100 8 = some (nI n0) := by rw [r3.i, uI_a _ _ _ _ _ (by decide), uI_a _ _ _ _ _ (by decide), uI_a _ _ _ _ _ (by decide), h5.1]
            have f4 : fI (uI (uI (uI (uI M 106 n0 x) 107 n0 y) 108 n0 z) 100 8 (nI (n0 + 1))) 7 100 8 = some (nI (n0 + 1)) := by rw [r4.i, mI_uI, if_pos rfl, upd_eq]
            have ho : ∀ f, f ≠ 8 → mI (uI (uI (uI (uI M 106 n0 x) 107 n0 y) 108 n0 z) 100 8 (nI (n0 + 1))) 100 f = mI M 100 f := fun f hf => by rw [uI_f _ _ _ _ hf, uI_a _ _ _ _ _ (by decide), uI_a _ _ _ _ _ (by decide), uI_a _ _ _ _ _ (by decide)]
            have hrw : ∀ a, a ≠ 100 → a ≠ 106 → a ≠ 107 → a ≠ 108 → mI (uI (uI (uI (uI M 106 n0 x) 107 n0 y) 108 n0 z) 100 8 (nI (n0 + 1))) a = mI M a := fun a q1 q2 q3 q4 => by rw [uI_a _ _ _ _ _ q1, uI_a _ _ _ _ _ q4, uI_a _ _ _ _ _ q3, uI_a _ _ _ _ _ q2]
            refine ⟨_, ?_, ⟨h1.of r4 (fun f hf => ho f (by omega)) (fun a _ _ => hrw a (by omega) (by omega) (by omega) (by omega)), h2.of (ho _ (by decide)) (hrw _ (by decide) (by decide) (by decide) (by decide)), h3.of (ho _ (by decide)) (hrw _ (by decide) (by decide) (by decide) (by decide)), h4.of (ho _ (by decide)) (hrw _ (by decide) (by decide) (by decide) (by decide)), ?_, h6'.of (ho _ (by decide)) (hrw _ (by decide) (by decide) (by decide) (by decide)) (hrw _ (by decide) (by decide) (by decide) (by decide))⟩, ((((Fr.uI (S := oM) ⟨by omega, by omega⟩).tr (Fr.uI ⟨by omega, by omega⟩)).tr (Fr.uI ⟨by omega, by omega⟩)).tr (Fr.uI ⟨by omega, by omega⟩))⟩
            · unfold F_X7_seen
              rw [h1.ck, Option.bind_some, h.isP_t hG hp, Option.bind_some, if_neg d10, in_t 0 24 0 24 hy, Option.bind_some, if_neg d10, in_t 0 11 0 11 hz, Option.bind_some, if_neg d10, e0, Option.bind_some, if_neg (show ¬ nI n0 = 6 from fun e => by have := nI_inj (b := 6) (by omega) (by decide) e; omega), h1.1.r 9 (a := 105) rfl, Option.bind_some, Option.bind_some, s1, Option.bind_some, r1.r 10 (a := 106) rfl, Option.bind_some, f1, Option.bind_some, s2, Option.bind_some, r2.r 11 (a := 107) rfl, Option.bind_some, f2, Option.bind_some, s3, Option.bind_some, f3, Option.bind_some, nI_1, r3.p, Option.bind_some, f4]
              rfl
            · refine ⟨by rw [mI_uI, if_pos rfl, upd_eq]; rfl, fun j hj => ?_⟩
              have hj' : j < n0 + 1 := hj
              have e : ∀ (f g : Nat → Int32) (z : Int32), (j < n0 → f j = g j) → upd f n0 z j = upd g n0 z j := by
                intro f g z hfg
                by_cases e : j = n0
                · subst e; rw [upd_eq, upd_eq]
                · rw [upd_ne e, upd_ne e]; exact hfg (by omega)
              refine ⟨?_, ?_, ?_⟩
              · rw [uI_a _ _ _ _ _ (by decide), uI_a _ _ _ _ _ (by decide), uI_a _ _ _ _ _ (by decide), mI_uI, if_pos rfl]
                exact e _ _ _ (fun hj => (h5.2 j hj).1)
              · rw [uI_a _ _ _ _ _ (by decide), uI_a _ _ _ _ _ (by decide), mI_uI, if_pos rfl, uI_a _ _ _ _ _ (by decide)]
                exact e _ _ _ (fun hj => (h5.2 j hj).2.1)
              · rw [uI_a _ _ _ _ _ (by decide), mI_uI, if_pos rfl, uI_a _ _ _ _ _ (by decide), uI_a _ _ _ _ _ (by decide)]
                exact e _ _ _ (fun hj => (h5.2 j hj).2.2)
        · have hn2 : (gS G).1 = 6 := by omega
          refine ⟨-3, G, hG, fun M h => ⟨M, ?_, h, Fr.rf⟩, fun M h => ⟨M, ?_, h, Fr.rf⟩⟩
          · have h6 := h.2.2.2.2.2.1
            rw [hn2] at h6
            unfold F_X6_seen
            rw [h.c, Option.bind_some, h.noP_t hG hp, Option.bind_some, if_pos rfl, out_t 0 24 0 24 hy, Option.bind_some, if_pos rfl, out_t 0 11 0 11 hz, Option.bind_some, if_pos rfl, h.1.f (f := 5) rfl, Option.bind_some, chkT_of (h.1.s 8 rfl), Option.bind_some, note_full h6 (h.1.s 8 rfl)]
            rfl
          · have e0 : fI M 7 100 8 = some 6 := by rw [h.1.1.i, h.2.2.2.2.1.1, hn2]; rfl
            unfold F_X7_seen
            rw [h.1.ck, Option.bind_some, h.isP_t hG hp, Option.bind_some, if_neg d10, in_t 0 24 0 24 hy, Option.bind_some, if_neg d10, in_t 0 11 0 11 hz, Option.bind_some, if_neg d10, e0]
            rfl
      · refine ⟨-1, G, hG, fun M h => ⟨M, ?_, h, Fr.rf⟩, fun M h => ⟨M, ?_, h, Fr.rf⟩⟩
        · unfold F_X6_seen
          rw [h.c, Option.bind_some, h.noP_t hG hp, Option.bind_some, if_pos rfl, out_t 0 24 0 24 hy, Option.bind_some, if_pos rfl, out_f 0 11 0 11 hz]
          rfl
        · unfold F_X7_seen
          rw [h.1.ck, Option.bind_some, h.isP_t hG hp, Option.bind_some, if_neg d10, in_t 0 24 0 24 hy, Option.bind_some, if_neg d10, in_f 0 11 0 11 hz]
          rfl
    · refine ⟨-1, G, hG, fun M h => ⟨M, ?_, h, Fr.rf⟩, fun M h => ⟨M, ?_, h, Fr.rf⟩⟩
      · unfold F_X6_seen
        rw [h.c, Option.bind_some, h.noP_t hG hp, Option.bind_some, if_pos rfl, out_f 0 24 0 24 hy]
        rfl
      · unfold F_X7_seen
        rw [h.1.ck, Option.bind_some, h.isP_t hG hp, Option.bind_some, if_neg d10, in_f 0 24 0 24 hy]
        rfl
  · refine ⟨-1, G, hG, fun M h => ⟨M, ?_, h, Fr.rf⟩, fun M h => ⟨M, ?_, h, Fr.rf⟩⟩
    · unfold F_X6_seen
      rw [h.c, Option.bind_some, h.noP_f hG hp]
      rfl
    · unfold F_X7_seen
      rw [h.1.ck, Option.bind_some, h.isP_f hG hp]
      rfl
theorem m_told {G : Sg} (hG : GOk G) (y z : Int32) : QM (F_X6_told 5 y z) (F_X7_told 100 y z) G := by
  have h6 := hG.2.2.2.2.2.2.2.2.2
  by_cases hy : InR 0 24 y
  · by_cases hz : InR 0 11 z
    · by_cases hn : (gD G).1 < 6
      · refine ⟨nI ((gD G).1 + 1), gSD G ((gD G).1 + 1, upd (gD G).2.1 (gD G).1 y, upd (gD G).2.2 (gD G).1 z), ⟨hG.1, hG.2.1, hG.2.2.1, hG.2.2.2.1, hG.2.2.2.2.1, hG.2.2.2.2.2.1, hG.2.2.2.2.2.2.1, hG.2.2.2.2.2.2.2.1, hG.2.2.2.2.2.2.2.2.1, ?_⟩, fun M h => ?_, fun M h => ?_⟩
        · show (gD G).1 + 1 ≤ 6; omega
        · obtain ⟨w, h7⟩ := h.2.2.2.2.2.2.1
          obtain ⟨M', e1, e2, e3⟩ := note_put h7 (h.1.s 12 rfl) (h.1.s 13 rfl) (h.1.s 14 rfl) (h.1.s 15 rfl) (h.1.r 17 rfl) (h.1.r 18 rfl) (h.1.r 19 rfl) hn (-4) y z
          have hci := h.mkD (v := ((gD G).1 + 1, upd (gD G).2.1 (gD G).1 y, upd (gD G).2.2 (gD G).1 z)) e2 (fun a ha => ha) ⟨_, e3⟩
          refine ⟨M', ?_, hci, e2.mono (fun a ha => by unfold oC; omega)⟩
          unfold F_X6_told
          rw [out_t 0 24 0 24 hy, Option.bind_some, if_pos rfl, out_t 0 11 0 11 hz, Option.bind_some, if_pos rfl, h.1.f (f := 6) rfl, Option.bind_some, chkT_of (h.1.s 12 rfl), Option.bind_some, e1, Option.bind_some, if_neg d10, hci.1.f (f := 6) rfl, Option.bind_some, chkT_of (hci.1.s 12 rfl), Option.bind_some, e3.sz (hci.1.s 12 rfl)]
          rfl
        · obtain ⟨h1, h2, h3, h4, h5, h6'⟩ := id h
          have e0 : fI M 7 100 12 = some (nI (gD G).1) := by rw [h1.1.i, h6'.1]
          have s1 : stI M 109 (nI (gD G).1) y = some (uI M 109 (gD G).1 y) := stI_nI _ (h1.1.s 13 rfl) hn (by decide)
          have s2 : stI (uI M 109 (gD G).1 y) 110 (nI (gD G).1) z = some (uI (uI M 109 (gD G).1 y) 110 (gD G).1 z) := stI_nI _ (h1.1.s 14 rfl) hn (by decide)
          generalize hn0 : (gD G).1 = n0 at *
          have r1 : RS (uI M 109 n0 y) := h1.1
          have r2 : RS (uI (uI M 109 n0 y) 110 n0 z) := h1.1
          have r4 : RS (uI (uI (uI M 109 n0 y) 110 n0 z) 100 12 (nI (n0 + 1))) := h1.1
          have f1 : fI (uI M 109 n0 y) 7 100 12 = some (nI n0) := by rw [r1.i, uI_a _ _ _ _ _ (by decide), h6'.1]
          have f2 : fI (uI (uI M 109 n0 y) 110 n0 z) 7 100 12 = some (nI n0) := by rw [r2.i, uI_a _ _ _ _ _ (by decide), uI_a _ _ _ _ _ (by decide), h6'.1]
          have f4 : fI (uI (uI (uI M 109 n0 y) 110 n0 z) 100 12 (nI (n0 + 1))) 7 100 12 = some (nI (n0 + 1)) := by rw [r4.i, mI_uI, if_pos rfl, upd_eq]
          have ho : ∀ f, f ≠ 12 → mI (uI (uI (uI M 109 n0 y) 110 n0 z) 100 12 (nI (n0 + 1))) 100 f = mI M 100 f := fun f hf => by rw [uI_f _ _ _ _ hf, uI_a _ _ _ _ _ (by decide), uI_a _ _ _ _ _ (by decide)]
          have hrw : ∀ a, a ≠ 100 → a ≠ 109 → a ≠ 110 → mI (uI (uI (uI M 109 n0 y) 110 n0 z) 100 12 (nI (n0 + 1))) a = mI M a := fun a q1 q2 q3 => by rw [uI_a _ _ _ _ _ q1, uI_a _ _ _ _ _ q3, uI_a _ _ _ _ _ q2]
          refine ⟨_, ?_, ⟨h1.of r4 (fun f hf => ho f (by omega)) (fun a _ _ => hrw a (by omega) (by omega) (by omega)), h2.of (ho _ (by decide)) (hrw _ (by decide) (by decide) (by decide)), h3.of (ho _ (by decide)) (hrw _ (by decide) (by decide) (by decide)), h4.of (ho _ (by decide)) (hrw _ (by decide) (by decide) (by decide)), h5.of (ho _ (by decide)) (hrw _ (by decide) (by decide) (by decide)) (hrw _ (by decide) (by decide) (by decide)) (hrw _ (by decide) (by decide) (by decide)), ?_⟩, (((Fr.uI (S := oM) ⟨by omega, by omega⟩).tr (Fr.uI ⟨by omega, by omega⟩)).tr (Fr.uI ⟨by omega, by omega⟩))⟩
          · unfold F_X7_told
            rw [in_t 0 24 0 24 hy, Option.bind_some, if_neg d10, in_t 0 11 0 11 hz, Option.bind_some, if_neg d10, e0, Option.bind_some, if_neg (show ¬ nI n0 = 6 from fun e => by have := nI_inj (b := 6) (by omega) (by decide) e; omega), h1.1.r 13 (a := 108) rfl, Option.bind_some, Option.bind_some, s1, Option.bind_some, r1.r 14 (a := 109) rfl, Option.bind_some, f1, Option.bind_some, s2, Option.bind_some, f2, Option.bind_some, nI_1, r2.p, Option.bind_some, f4]
            rfl
          · refine ⟨by rw [mI_uI, if_pos rfl, upd_eq]; rfl, fun j hj => ?_⟩
            have hj' : j < n0 + 1 := hj
            have e : ∀ (f g : Nat → Int32) (z : Int32), (j < n0 → f j = g j) → upd f n0 z j = upd g n0 z j := by
              intro f g z hfg
              by_cases e : j = n0
              · subst e; rw [upd_eq, upd_eq]
              · rw [upd_ne e, upd_ne e]; exact hfg (by omega)
            refine ⟨?_, ?_⟩
            · rw [uI_a _ _ _ _ _ (by decide), uI_a _ _ _ _ _ (by decide), mI_uI, if_pos rfl]
              exact e _ _ _ (fun hj => (h6'.2 j hj).1)
            · rw [uI_a _ _ _ _ _ (by decide), mI_uI, if_pos rfl, uI_a _ _ _ _ _ (by decide)]
              exact e _ _ _ (fun hj => (h6'.2 j hj).2)
      · have hn2 : (gD G).1 = 6 := by omega
        refine ⟨-3, G, hG, fun M h => ⟨M, ?_, h, Fr.rf⟩, fun M h => ⟨M, ?_, h, Fr.rf⟩⟩
        · obtain ⟨w, h6⟩ := h.2.2.2.2.2.2.1
          rw [hn2] at h6
          unfold F_X6_told
          rw [out_t 0 24 0 24 hy, Option.bind_some, if_pos rfl, out_t 0 11 0 11 hz, Option.bind_some, if_pos rfl, h.1.f (f := 6) rfl, Option.bind_some, chkT_of (h.1.s 12 rfl), Option.bind_some, note_full h6 (h.1.s 12 rfl)]
          rfl
        · have e0 : fI M 7 100 12 = some 6 := by rw [h.1.1.i, h.2.2.2.2.2.1, hn2]; rfl
          unfold F_X7_told
          rw [in_t 0 24 0 24 hy, Option.bind_some, if_neg d10, in_t 0 11 0 11 hz, Option.bind_some, if_neg d10, e0]
          rfl
    · refine ⟨-1, G, hG, fun M h => ⟨M, ?_, h, Fr.rf⟩, fun M h => ⟨M, ?_, h, Fr.rf⟩⟩
      · unfold F_X6_told
        rw [out_t 0 24 0 24 hy, Option.bind_some, if_pos rfl, out_f 0 11 0 11 hz]
        rfl
      · unfold F_X7_told
        rw [in_t 0 24 0 24 hy, Option.bind_some, if_neg d10, in_f 0 11 0 11 hz]
        rfl
  · refine ⟨-1, G, hG, fun M h => ⟨M, ?_, h, Fr.rf⟩, fun M h => ⟨M, ?_, h, Fr.rf⟩⟩
    · unfold F_X6_told
      rw [out_f 0 24 0 24 hy]
      rfl
    · unfold F_X7_told
      rw [in_f 0 24 0 24 hy]
      rfl
theorem m_forget {G : Sg} (hG : GOk G) : QM (F_X6_forget 5) (F_X7_forget 100) G := by
  refine ⟨nI (gS G).1 + nI (gD G).1, gSD (gSS G (0, (gS G).2)) (0, (gD G).2), ⟨hG.1, hG.2.1, hG.2.2.1, hG.2.2.2.1, hG.2.2.2.2.1, hG.2.2.2.2.2.1, hG.2.2.2.2.2.2.1, Nat.zero_le _, fun j hj => absurd hj (Nat.not_lt_zero j), Nat.zero_le _⟩, fun M h => ?_, fun M h => ?_⟩
  · have hs8 := h.1.s 8 rfl
    have hs12 := h.1.s 12 rfl
    have hf1 : Fr (fun a => 85 ≤ a ∧ a < 89) M (uI M 85 3 0) := Fr.uI ⟨by omega, by omega⟩
    have h1 := h.mkS (v := (0, (gS G).2)) hf1 (fun a ha => ha) ⟨by rw [mI_uI, if_pos rfl, upd_eq]; rfl, fun j hj => absurd hj (Nat.not_lt_zero j)⟩
    have hf2 : Fr (fun a => 89 ≤ a ∧ a < 93) (uI M 85 3 0) (uI (uI M 85 3 0) 89 3 0) := Fr.uI ⟨by omega, by omega⟩
    have h2 := h1.mkD (v := (0, (gD G).2)) hf2 (fun a ha => ha) ⟨fun _ => 0, by rw [mI_uI, if_pos rfl, upd_eq]; rfl, fun j hj => absurd hj (Nat.not_lt_zero j)⟩
    refine ⟨_, ?_, h2, (hf1.mono (fun a ha => by unfold oC; omega)).tr (hf2.mono (fun a ha => by unfold oC; omega))⟩
    obtain ⟨w, h7⟩ := h.2.2.2.2.2.2.1
    unfold F_X6_forget F_X1_empty
    rw [h.1.f (f := 5) rfl, Option.bind_some, chkT_of hs8, Option.bind_some, fI_of hs8, Option.bind_some, pI_of hs8, Option.bind_some, Option.bind_some, h1.1.f (f := 6) rfl, Option.bind_some, chkT_of (M := uI M _ _ _) hs12, Option.bind_some, fI_of (M := uI M _ _ _) hs12, Option.bind_some, pI_of (M := uI M _ _ _) hs12, Option.bind_some, uI_a _ _ _ _ _ (by decide), h.2.2.2.2.2.1.1, h7.1]
    rfl
  · obtain ⟨h1, h2, h3, h4, h5, h6⟩ := h
    have ho : ∀ f, f ≠ 8 → f ≠ 12 → mI (uI (uI M 100 8 0) 100 12 0) 100 f = mI M 100 f := fun f q1 q2 => by rw [uI_f _ _ _ _ q2, uI_f _ _ _ _ q1]
    have hrw : ∀ a, a ≠ 100 → mI (uI (uI M 100 8 0) 100 12 0) a = mI M a := fun a q1 => by rw [uI_a _ _ _ _ _ q1, uI_a _ _ _ _ _ q1]
    have r2 : RS (uI M 100 8 0) := h1.1
    refine ⟨uI (uI M 100 8 0) 100 12 0, ?_, ⟨h1.of h1.1 (fun f hf => ho f (by omega) (by omega)) (fun a _ _ => hrw a (by omega)), h2.of (ho _ (by decide) (by decide)) (hrw _ (by decide)), h3.of (ho _ (by decide) (by decide)) (hrw _ (by decide)), h4.of (ho _ (by decide) (by decide)) (hrw _ (by decide)), ⟨?_, fun j hj => absurd hj (Nat.not_lt_zero j)⟩, ⟨?_, fun j hj => absurd hj (Nat.not_lt_zero j)⟩⟩, (Fr.uI (S := oM) ⟨by omega, by omega⟩).tr (Fr.uI ⟨by omega, by omega⟩)⟩
    · unfold F_X7_forget
      rw [h1.1.i, Option.bind_some, h1.1.i, Option.bind_some, h1.1.p, Option.bind_some, r2.p, h5.1, h6.1]
      rfl
    · rw [uI_f _ _ _ _ (by decide), mI_uI, if_pos rfl, upd_eq]; rfl
    · rw [mI_uI, if_pos rfl, upd_eq]; rfl
