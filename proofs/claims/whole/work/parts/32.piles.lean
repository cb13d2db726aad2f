/-! THE PILES of the class -/
theorem ldR_nI {M : Mem} {a i n : Nat} (h : mS M a = (12, n)) (hi : i < n) (hn : n < 2 ^ 31) : ldR M a (nI i) = some (mR M a i) := by
  unfold ldR
  rw [h]
  simp [inR_nI hi hn, nI_clamp (show i < 2 ^ 31 by omega)]
theorem stR_nI {M : Mem} {a i n v : Nat} (h : mS M a = (12, n)) (hv : mS M v = (5, 8)) (hi : i < n) (hn : n < 2 ^ 31) : stR M a (nI i) v = some (uR M a i v) := by
  unfold stR
  rw [h, hv]
  simp [inR_nI hi hn, nI_clamp (show i < 2 ^ 31 by omega)]
theorem aLen_12 {M : Mem} {a n : Nat} (h : mS M a = (12, n)) : aLen M a = some (nI n) := by unfold aLen; rw [h]; simp; rfl
theorem vu_eq {α : Type} {f : Nat → α} {k : Nat} {v : α} : va_up f k v k = v := by unfold va_up; rw [if_pos rfl]
theorem vu_ne {α : Type} {f : Nat → α} {k j : Nat} {v : α} (h : j ≠ k) : va_up f k v j = f j := by unfold va_up; rw [if_neg h]
theorem drop_lowest {M : Mem} {o c : Nat} (hc : 1 ≤ c) (hc16 : c ≤ 16) (hs : mS M o = (2, 2)) (hs1 : mS M (o + 1) = (12, c)) (hr : mR M o 0 = o + 1) (hRf : Rf (o + 1)) (hnf : ¬ Rf o) (ht : ∀ i, i < c → mS M (mR M (o + 1) i) = (5, 8)) :
    ∃ M', F_X2_dropLowest o M = some M' ∧ Fr (fun a => a = o ∨ a = o + 1) M M' ∧ mI M' o 1 = nI (c - 1) ∧ ∀ j, j < c → mR M' (o + 1) j = if j + 1 < c then mR M (o + 1) (j + 1) else mR M (o + 1) 0 := by
  have key : ∀ (k i n : Nat) (M1 : Mem), i + k = c → 1 ≤ i → k < n → Fr (fun a => a = o ∨ a = o + 1) M M1 → (∀ j, j < c → mR M1 (o + 1) j = if j + 1 < i then mR M (o + 1) (j + 1) else mR M (o + 1) j) → ∃ M', F_X2_dropLowest_9 n o (mR M (o + 1) 0) (nI i) M1 = some M' ∧ Fr (fun a => a = o ∨ a = o + 1) M M' ∧ mI M' o 1 = nI (c - 1) ∧ ∀ j, j < c → mR M' (o + 1) j = if j + 1 < c then mR M (o + 1) (j + 1) else mR M (o + 1) 0 := by
    intro k
    induction k with
    | zero =>
      intro i n M1 hi h1 hn hf hrow
      obtain ⟨n, rfl, -⟩ := fu_get hn
      have hic : i = c := by omega
      subst hic
      have a1 : mS M1 o = (2, 2) := by rw [hf.s]; exact hs
      have a2 : mS M1 (o + 1) = (12, i) := by rw [hf.s]; exact hs1
      have a3 : mR M1 o 0 = o + 1 := by rw [hf.r hnf]; exact hr
      have a4 : mS M1 (mR M (o + 1) 0) = (5, 8) := by rw [hf.s]; exact ht 0 (by omega)
      have e1 : stR M1 (o + 1) (nI (i - 1)) (mR M (o + 1) 0) = some (uR M1 (o + 1) (i - 1) (mR M (o + 1) 0)) := stR_nI a2 a4 (by omega) (by omega)
      refine ⟨uI (uR M1 (o + 1) (i - 1) (mR M (o + 1) 0)) o 1 (nI (i - 1)), ?_, ?_, ?_, ?_⟩
      · simp only [F_X2_dropLowest_9]
        rw [fR_of a1, Option.bind_some, a3, aLen_12 a2, Option.bind_some, if_pos (nI_le (by omega) (by omega)), Option.bind_some, Option.bind_some, aLen_12 a2, Option.bind_some, nI_m1 h1, e1, Option.bind_some, fR_of (M := uR M1 _ _ _) a1, Option.bind_some, mR_uR, if_neg (by omega), a3, aLen_12 (M := uR M1 _ _ _) a2, Option.bind_some, nI_m1 h1, pI_of (M := uR M1 _ _ _) a1]
        rfl
      · exact hf.tr ((Fr.uR (Or.inr rfl) hRf).tr (Fr.uI (Or.inl rfl)))
      · rw [mI_uI, if_pos rfl, upd_eq]
      · intro j hj
        rw [mR_uI, mR_uR, if_pos rfl]
        by_cases e : j = i - 1
        · subst e
          rw [vu_eq, if_neg (by omega)]
        · rw [vu_ne e, hrow j hj, if_pos (by omega), if_pos (by omega)]
    | succ k ih =>
      intro i n M1 hi h1 hn hf hrow
      obtain ⟨n, rfl, hn⟩ := fu_get hn
      have a1 : mS M1 o = (2, 2) := by rw [hf.s]; exact hs
      have a2 : mS M1 (o + 1) = (12, c) := by rw [hf.s]; exact hs1
      have a3 : mR M1 o 0 = o + 1 := by rw [hf.r hnf]; exact hr
      have e0 : mR M1 (o + 1) i = mR M (o + 1) i := by rw [hrow i (by omega), if_neg (by omega)]
      have a4 : mS M1 (mR M1 (o + 1) i) = (5, 8) := by rw [hf.s, e0]; exact ht i (by omega)
      have e1 : stR M1 (o + 1) (nI (i - 1)) (mR M1 (o + 1) i) = some (uR M1 (o + 1) (i - 1) (mR M1 (o + 1) i)) := stR_nI a2 a4 (by omega) (by omega)
      have e2 : ldR M1 (o + 1) (nI i) = some (mR M1 (o + 1) i) := ldR_nI a2 (by omega) (by omega)
      obtain ⟨M', g1, g2, g3, g4⟩ := ih (i + 1) n (uR M1 (o + 1) (i - 1) (mR M1 (o + 1) i)) (by omega) (by omega) (by omega) (hf.tr (Fr.uR (Or.inr rfl) hRf)) (fun j hj => by
        rw [mR_uR, if_pos rfl]
        by_cases e : j = i - 1
        · subst e
          rw [vu_eq, if_pos (by omega), e0, show i - 1 + 1 = i by omega]
        · rw [vu_ne e, hrow j hj]
          by_cases e3 : j + 1 < i
          · rw [if_pos e3, if_pos (by omega)]
          · rw [if_neg e3, if_neg (by omega)])
      refine ⟨M', ?_, g2, g3, g4⟩
      simp only [F_X2_dropLowest_9]
      rw [fR_of a1, Option.bind_some, a3, aLen_12 a2, Option.bind_some, if_neg (nI_ge (by omega) (by omega)), Option.bind_some, Option.bind_some, e2, Option.bind_some, nI_m1 h1, e1, Option.bind_some, nI_1]
      exact g1
  unfold F_X2_dropLowest
  rw [fR_of hs, Option.bind_some, hr]
  have e3 : ldR M (o + 1) (0 : Int32) = some (mR M (o + 1) 0) := ldR_nI (i := 0) hs1 (by omega) (by omega)
  rw [e3, Option.bind_some]
  exact key (c - 1) 1 FU M (by omega) (by omega) (FU_gt (by omega)) Fr.rf (fun j hj => by rw [if_neg (by omega)])
/-- a town is put on top -/
def psh (c : Nat) (v : Nat × (Nat → Tn)) (T : Tn) : Nat × (Nat → Tn) := if v.1 < c then (v.1 + 1, va_up v.2 v.1 T) else (c, va_up (fun i => v.2 (i + 1)) (c - 1) T)
theorem pile_put11 {M : Mem} {o b c n : Nat} {U : Nat → Tn} {T : Tn} (h : CPl M o b c n U) (hn : n < c) (hc16 : c ≤ 16) (hb : o + 2 = b) (ho : 15 ≤ o) (hs : mS M o = (2, 2)) (hs1 : mS M (o + 1) = (12, c)) (hr : mR M o 0 = o + 1) (hnf : ¬ Rf o) (hT : ∀ k, k < c → TS M (b + 6 * k)) (ht : TA M 9 T) :
    ∃ M', F_X2_put_11 o 9 M = some M' ∧ Fr (fun a => o ≤ a ∧ a < b + 6 * c) M M' ∧ CPl M' o b c (n + 1) (va_up U n T) := by
  obtain ⟨p1, p2, p3, p4, p5⟩ := h
  obtain ⟨k, hk, hka⟩ := p3 n hn
  have hTS := hT k hk
  rw [← hka] at hTS
  obtain ⟨M1, b1, b2, b3⟩ := town_become (o := mR M (o + 1) n) (q := 9) hTS ht (Or.inr (by rw [hka]; omega))
  have hno : ¬ oT (mR M (o + 1) n) o := by unfold oT; rw [hka]; omega
  have hno1 : ¬ oT (mR M (o + 1) n) (o + 1) := by unfold oT; rw [hka]; omega
  have a1 : mS M1 o = (2, 2) := by rw [b2.s]; exact hs
  have e0 : mI M1 o 1 = nI n := by rw [b2.i hno]; exact p1
  have hrow : mR M1 (o + 1) = mR M (o + 1) := (b2.2.2.1 (o + 1) hno1).2
  refine ⟨uI M1 o 1 (nI (n + 1)), ?_, ?_, ?_⟩
  · unfold F_X2_put_11
    rw [fR_of hs, Option.bind_some, fI_of hs, Option.bind_some, hr, p1, ldR_nI hs1 hn (by omega), Option.bind_some, chkT_of hTS.1, Option.bind_some, b1, Option.bind_some, fI_of a1, Option.bind_some, e0, nI_1, pI_of a1]
    rfl
  · exact (b2.mono (fun a ha => by unfold oT at ha; rw [hka] at ha; omega)).tr (Fr.uI ⟨by omega, by omega⟩)
  · refine ⟨by rw [mI_uI, if_pos rfl, upd_eq], by omega, by rw [mR_uI, hrow]; exact p3, by rw [mR_uI, hrow]; exact p4, fun i hi => ?_⟩
    rw [mR_uI, hrow]
    have hf2 : Fr (fun a => a = o) M1 (uI M1 o 1 (nI (n + 1))) := Fr.uI rfl
    obtain ⟨ki, hki, hkia⟩ := p3 i (by omega)
    by_cases e : i = n
    · subst e
      rw [vu_eq]
      exact b3.fr hf2 (fun a ha => by unfold oT at ha; rw [hka] at ha; show ¬ a = o; omega)
    · rw [vu_ne e]
      have hne : ki ≠ k := fun z => e (p4 i n (by omega) hn (by rw [hkia, hka, z]))
      have := (p5 i (by omega)).fr b2 (fun a ha hb => by unfold oT at ha hb; rw [hkia] at ha; rw [hka] at hb; omega)
      exact this.fr hf2 (fun a ha => by unfold oT at ha; rw [hkia] at ha; show ¬ a = o; omega)
theorem pile_full {M : Mem} {o b c n : Nat} {U : Nat → Tn} (h : CPl M o b c n U) (hc16 : c ≤ 16) (hs : mS M o = (2, 2)) (hs1 : mS M (o + 1) = (12, c)) (hr : mR M o 0 = o + 1) : F_X2_isFull o M = some (if n < c then 0 else 1) := by
  have hn := h.2.1
  unfold F_X2_isFull
  rw [fI_of hs, Option.bind_some, fR_of hs, Option.bind_some, hr, aLen_12 hs1, Option.bind_some, h.1]
  by_cases e : n < c
  · rw [if_pos e, if_pos (nI_lt e (by omega))]
  · rw [if_neg e, if_neg (nI_nlt (by omega) (by omega))]
theorem pile_put {M : Mem} {o b c n : Nat} {U : Nat → Tn} {T : Tn} (h : CPl M o b c n U) (hc1 : 1 ≤ c) (hc16 : c ≤ 16) (hb : o + 2 = b) (ho : 15 ≤ o) (hs : mS M o = (2, 2)) (hs1 : mS M (o + 1) = (12, c)) (hr : mR M o 0 = o + 1) (hnf : ¬ Rf o) (hRf : Rf (o + 1)) (hTf : ∀ k, k < c → ¬ Rf (b + 6 * k)) (hT : ∀ k, k < c → TS M (b + 6 * k)) (ht : TA M 9 T) :
    ∃ M', F_X2_put o 9 M = some M' ∧ Fr (fun a => o ≤ a ∧ a < b + 6 * c) M M' ∧ CPl M' o b c (psh c (n, U) T).1 (psh c (n, U) T).2 := by
  unfold F_X2_put psh
  rw [chkT_of hs, Option.bind_some, pile_full h hc16 hs hs1 hr, Option.bind_some]
  by_cases e : n < c
  · rw [if_pos e, if_pos rfl, if_pos e]
    exact pile_put11 h e hc16 hb ho hs hs1 hr hnf hT ht
  · rw [if_neg e, if_neg d10, if_neg e, Option.bind_some]
    obtain ⟨p1, p2, p3, p4, p5⟩ := h
    have hnc : n = c := by omega
    subst hnc
    obtain ⟨M1, d1, d2, d3, d4⟩ := drop_lowest hc1 hc16 hs hs1 hr hRf hnf (fun i hi => by obtain ⟨k, hk, hka⟩ := p3 i hi; rw [hka]; exact (hT k hk).1)
    rw [d1, Option.bind_some]
    have hpl : CPl M1 o b n (n - 1) (fun i => U (i + 1)) := by
      refine ⟨d3, by omega, fun i hi => ?_, fun i j hi hj hij => ?_, fun i hi => ?_⟩
      · rw [d4 i hi]
        split
        · exact p3 (i + 1) (by omega)
        · exact p3 0 (by omega)
      · rw [d4 i hi, d4 j hj] at hij
        by_cases e1 : i + 1 < n <;> by_cases e2 : j + 1 < n
        · rw [if_pos e1, if_pos e2] at hij
          have := p4 (i + 1) (j + 1) (by omega) (by omega) hij
          omega
        · rw [if_pos e1, if_neg e2] at hij
          have := p4 (i + 1) 0 (by omega) (by omega) hij
          omega
        · rw [if_neg e1, if_pos e2] at hij
          have := p4 0 (j + 1) (by omega) (by omega) hij
          omega
        · omega
      · rw [d4 i (by omega), if_pos (by omega)]
        obtain ⟨ki, hki, hkia⟩ := p3 (i + 1) (by omega)
        exact (p5 (i + 1) (by omega)).fr d2 (fun a ha => by unfold oT at ha; rw [hkia] at ha; show ¬ (a = o ∨ a = o + 1); omega)
    have ht1 : TA M1 9 T := ht.fr d2 (fun a ha => by unfold oT at ha; show ¬ (a = o ∨ a = o + 1); omega)
    obtain ⟨M2, f1, f2, f3⟩ := pile_put11 hpl (by omega) hc16 hb ho (by rw [d2.s]; exact hs) (by rw [d2.s]; exact hs1) (by rw [d2.r hnf]; exact hr) hnf (fun k hk => ⟨by rw [d2.s]; exact (hT k hk).1, fun i hi => ⟨by rw [d2.s]; exact ((hT k hk).2 i hi).1, by rw [d2.r (hTf k hk)]; exact ((hT k hk).2 i hi).2⟩⟩) ht1
    refine ⟨M2, f1, (d2.mono (fun a ha => by rcases ha with rfl | rfl <;> omega)).tr f2, ?_⟩
    rw [show n - 1 + 1 = n by omega] at f3
    exact f3
theorem pile_take {M : Mem} {o b c n : Nat} {U : Nat → Tn} (h : CPl M o b c (n + 1) U) (hc16 : c ≤ 16) (hb : o + 2 = b) (ho : 15 ≤ o) (hs : mS M o = (2, 2)) (hs1 : mS M (o + 1) = (12, c)) (hr : mR M o 0 = o + 1) (h9 : TS M 9) :
    ∃ M', F_X2_takeInto o 9 M = some (1, M') ∧ Fr (fun a => a = o ∨ oT 9 a) M M' ∧ CPl M' o b c n U ∧ TA M' 9 (U n) := by
  obtain ⟨p1, p2, p3, p4, p5⟩ := h
  obtain ⟨k, hk, hka⟩ := p3 n (by omega)
  have hf1 : Fr (fun a => a = o) M (uI M o 1 (nI n)) := Fr.uI rfl
  have t1 : TA (uI M o 1 (nI n)) (mR M (o + 1) n) (U n) := (p5 n (by omega)).fr hf1 (fun a ha => by unfold oT at ha; rw [hka] at ha; show ¬ a = o; omega)
  have h9' : TS (uI M o 1 (nI n)) 9 := h9
  obtain ⟨M1, b1, b2, b3⟩ := town_become (o := 9) (q := mR M (o + 1) n) h9' t1 (Or.inl (by rw [hka]; omega))
  have hno : ¬ oT 9 o := by unfold oT; omega
  have hno1 : ¬ oT 9 (o + 1) := by unfold oT; omega
  refine ⟨M1, ?_, (hf1.mono (fun a ha => Or.inl ha)).tr (b2.mono (fun a ha => Or.inr ha)), ?_, b3⟩
  · unfold F_X2_takeInto
    rw [fI_of hs, Option.bind_some, p1, if_pos (show (1 : Int32) ≤ nI (n + 1) from nI_le (a := 1) (by omega) (by omega)), Option.bind_some, nI_pred, pI_of hs, Option.bind_some, fR_of (M := uI M _ _ _) hs, Option.bind_some, fI_of (M := uI M _ _ _) hs, Option.bind_some, mI_uI, if_pos rfl, upd_eq, mR_uI, hr, ldR_nI (M := uI M _ _ _) hs1 (by omega) (by omega), Option.bind_some, mR_uI, chkT_of (M := uI M _ _ _) h9.1, Option.bind_some, b1]
    rfl
  · have hrow : mR M1 (o + 1) = mR M (o + 1) := (b2.2.2.1 (o + 1) hno1).2
    refine ⟨by rw [b2.i hno, mI_uI, if_pos rfl, upd_eq], by omega, by rw [hrow]; exact p3, by rw [hrow]; exact p4, fun i hi => ?_⟩
    rw [hrow]
    obtain ⟨ki, hki, hkia⟩ := p3 i (by omega)
    exact ((p5 i (by omega)).fr hf1 (fun a ha => by unfold oT at ha; rw [hkia] at ha; show ¬ a = o; omega)).fr b2 (fun a ha hb => by unfold oT at ha hb; rw [hkia] at ha; omega)
theorem pile_none {M : Mem} {o b c : Nat} {U : Nat → Tn} (h : CPl M o b c 0 U) (hs : mS M o = (2, 2)) : F_X2_takeInto o 9 M = some (0, M) := by
  unfold F_X2_takeInto
  rw [fI_of hs, Option.bind_some, h.1]
  rfl
