/-! SPREAD, THE CLASS: painting -/
def tvG (T : Tn) (d : Int32) (w : Nat → Nat) (q : Nat) : Int32 := if tD T q = d then nI (w (ixG T d q)) else -4
/-- the tints' cells -/
def PS (M : Mem) : Prop := mS M 93 = (4, 4) ∧ mR M 93 0 = 94 ∧ mR M 93 1 = 95 ∧ mS M 94 = (10, 7) ∧ mS M 95 = (10, 7)
def PM (M : Mem) (T : Tn) (d : Int32) : Prop := PS M ∧ mI M 93 2 = nI (tN T) ∧ Bt (mI M 93 3) (fun q => q < tN T ∧ tD T q = d) ∧ ∀ p, p < tN T → Bt (mI M 94 p) (fun q => q < p ∧ clG T 25 p q)
theorem PS.fr {S : Nat → Prop} {M M' : Mem} (h : PS M) (hf : Fr S M M') : PS M' := by
  obtain ⟨h1, h2, h3, h4, h5⟩ := h
  have e := hf.r (a := 93) (by unfold Rf; omega)
  exact ⟨by rw [hf.s]; exact h1, by rw [e]; exact h2, by rw [e]; exact h3, by rw [hf.s]; exact h4, by rw [hf.s]; exact h5⟩
theorem PM.fr {M M' : Mem} {T : Tn} {d : Int32} (h : PM M T d) (hf : Fr (fun a => a = 95) M M') : PM M' T d := by
  refine ⟨h.1.fr hf, ?_, ?_, ?_⟩
  · rw [hf.i (by omega)]; exact h.2.1
  · rw [hf.i (by omega)]; exact h.2.2.1
  · rw [hf.i (by omega)]; exact h.2.2.2
theorem n4_nI {t : Nat} (h : t < 2 ^ 31) : ¬ (-4 : Int32) = nI t := fun e => nI_n4 h e.symm
theorem c_free {M : Mem} {T : Tn} {d : Int32} (h7 : tN T ≤ 7) (hd : ¬ d = -4) (h : PM M T d) {p t : Nat} {w : Nat → Nat} (hp : p < tN T) (ep : tD T p = d) (hw : ∀ q, q < p → mI M 95 q = tvG T d w q) (hm : mxW w (ixG T d p) ≤ ixG T d p) (ht : t ≤ 8) : F_X4_isFree 93 (nI p) (nI t) M = some (if fre (cfG T d) w (ixG T d p) t then 1 else 0) := by
  obtain ⟨⟨h1, h2, h3, h4, h5⟩, -, -, hc⟩ := h
  have key : ∀ (k q n : Nat), q + k = p → k < n → ((∀ j, q ≤ j → j < p → ¬ (tvG T d w j = nI t ∧ clG T 25 p j)) → F_X4_isFree_2 M n 93 (nI p) (nI t) (nI q) = some 1) ∧ ((∃ j, q ≤ j ∧ j < p ∧ tvG T d w j = nI t ∧ clG T 25 p j) → F_X4_isFree_2 M n 93 (nI p) (nI t) (nI q) = some 0) := by
    intro k
    induction k with
    | zero =>
      intro q n hq hn
      obtain ⟨n, rfl, -⟩ := fu_get hn
      refine ⟨fun _ => ?_, fun ⟨j, a, b, _⟩ => by omega⟩
      simp only [F_X4_isFree_2]
      rw [if_pos (nI_le (by omega) (by omega))]
    | succ k ih =>
      intro q n hq hn
      obtain ⟨n, rfl, hn⟩ := fu_get hn
      obtain ⟨i1, i2⟩ := ih (q + 1) n (by omega) (by omega)
      have e : F_X4_isFree_2 M (n + 1) 93 (nI p) (nI t) (nI q) = if tvG T d w q = nI t then (if mI M 94 p &&& ((1 : Int32) <<< (nI q &&& 31)) = 0 then F_X4_isFree_2 M n 93 (nI p) (nI t) (nI (q + 1)) else some 0) else F_X4_isFree_2 M n 93 (nI p) (nI t) (nI (q + 1)) := by
        simp only [F_X4_isFree_2]
        unfold F_X4_isFree_32
        rw [if_neg (nI_ge (by omega) (by omega)), fR_of h1, Option.bind_some, h3, ldI_nI h5 (by omega) (by omega), Option.bind_some, hw q (by omega), fR_of h1, Option.bind_some, h2, ldI_nI h4 (by omega) (by omega), Option.bind_some, nI_1]
      rw [e]
      have hb := (hc p hp).and (q := q) (by omega)
      by_cases e1 : tvG T d w q = nI t
      · rw [if_pos e1]
        by_cases e2 : clG T 25 p q
        · rw [if_neg (fun z => hb.mp z ⟨by omega, e2⟩)]
          exact ⟨fun z => absurd ⟨e1, e2⟩ (z q (by omega) (by omega)), fun _ => rfl⟩
        · rw [if_pos (hb.mpr (fun z => e2 z.2))]
          refine ⟨fun z => i1 (fun j a b => z j (by omega) b), fun ⟨j, a, b, c, c2⟩ => i2 ⟨j, ?_, b, c, c2⟩⟩
          have : j ≠ q := fun y => e2 (by rw [← y]; exact c2)
          omega
      · rw [if_neg e1]
        refine ⟨fun z => i1 (fun j a b => z j (by omega) b), fun ⟨j, a, b, c, c2⟩ => i2 ⟨j, ?_, b, c, c2⟩⟩
        have : j ≠ q := fun y => e1 (by rw [← y]; exact c)
        omega
  have hip := ixG_le T d p
  obtain ⟨k1, k2⟩ := key p 0 FU (by omega) (FU_gt (by omega))
  unfold F_X4_isFree
  by_cases e : fre (cfG T d) w (ixG T d p) t
  · rw [if_pos e]
    refine k1 (fun j _ hj z => ?_)
    obtain ⟨z1, z2⟩ := z
    unfold tvG at z1
    by_cases ej : tD T j = d
    · rw [if_pos ej] at z1
      have hlt := ixG_lt hj ej
      have hwj := mxW_le w _ _ hlt
      exact e (ixG T d j) hlt ⟨nI_inj (by omega) (by omega) z1, (cl_cf hd hp (by omega) ep ej).mp z2⟩
    · rw [if_neg ej] at z1
      exact n4_nI (by omega) z1
  · rw [if_neg e]
    refine k2 (Classical.byContradiction (fun z => e (fun b hb y => ?_)))
    obtain ⟨q, q1, q2, q3⟩ := ixG_ex T d p b hb
    refine z ⟨q, by omega, q1, ?_, ?_⟩
    · unfold tvG
      rw [if_pos q2, q3, y.1]
    · exact (cl_cf hd hp (by omega) ep q2).mpr (by rw [q3]; exact y.2)
theorem tvG_up {T : Tn} {d : Int32} {w : Nat → Nat} {p q t : Nat} (hq : q < p) : tvG T d (va_up w (ixG T d p) t) q = tvG T d w q := by
  unfold tvG
  by_cases e : tD T q = d
  · have := ixG_lt hq e
    rw [if_pos e, if_pos e, vu_ne (by omega)]
  · rw [if_neg e, if_neg e]
theorem jmin_nI {a b : Nat} (ha : a < 2 ^ 31) (hb : b < 2 ^ 31) : jmin (nI a) (nI b) = nI (min a b) := by
  unfold jmin
  by_cases e : b < a
  · rw [if_pos (nI_lt e ha), Nat.min_eq_right (by omega)]
  · rw [if_neg (nI_nlt (by omega) hb), Nat.min_eq_left (by omega)]
theorem jmax_nI {a b : Nat} (ha : a < 2 ^ 31) (hb : b < 2 ^ 31) : jmax (nI a) (nI b) = nI (max a b) := by
  unfold jmax
  by_cases e : a < b
  · rw [if_pos (nI_lt e hb), Nat.max_eq_right (by omega)]
  · rw [if_neg (nI_nlt (by omega) ha), Nat.max_eq_left (by omega)]
theorem rN_sVl (o : Option (Nat → Nat)) : rN .boolean (sVl o) = some (sVl o) := by
  cases o with
  | none => exact rN0
  | some r => exact rN1
/-- what painting answers -/
def PO (T : Tn) (d : Int32) (p : Nat) (M : Mem) (o : Option (Int32 × Mem)) (s : Option (Nat → Nat)) : Prop := ∃ M', o = some (sVl s, M') ∧ Fr (fun a => a = 95) M M' ∧ (∀ q, q < p → mI M' 95 q = mI M 95 q) ∧ ∀ r, s = some r → ∀ q, q < tN T → mI M' 95 q = tvG T d r q
theorem c_paint {T : Tn} {d : Int32} (h7 : tN T ≤ 7) (hd : ¬ d = -4) {L : Nat} (hL : L ≤ 7) : ∀ (k p f : Nat) (w : Nat → Nat) (M : Mem), p + k = tN T → k < f → PM M T d → (∀ q, q < p → mI M 95 q = tvG T d w q) → mxW w (ixG T d p) ≤ ixG T d p → PO T d p M (F_X4_paint f 93 (nI p) (nI (mxW w (ixG T d p))) (nI L) M) (sPt (cfG T d) L (ngG T d - ixG T d p) (ixG T d p) w) := by
  intro k
  induction k with
  | zero =>
    intro p f w M hp hf h hw hm
    obtain ⟨f, rfl, -⟩ := fu_get hf
    have : p = tN T := by omega
    subst this
    have e0 : ngG T d - ixG T d (tN T) = 0 := by unfold ngG; omega
    refine ⟨M, ?_, Fr.rf, fun _ _ => rfl, ?_⟩
    · simp only [F_X4_paint]
      rw [fI_of h.1.1, Option.bind_some, h.2.1, if_neg (nI_nlt (by omega) (by omega)), e0]
      rfl
    · rw [e0]
      intro r hr q hq
      cases hr
      exact hw q hq
  | succ k ih =>
    intro p f w M hp hf h hw hm
    obtain ⟨f, rfl, hf⟩ := fu_get hf
    have hpN : p < tN T := by omega
    have hip := ixG_le T d p
    have hb := h.2.2.1.and (q := p) (by omega)
    obtain ⟨h1, h2, h3, h4, h5⟩ := id h.1
    by_cases ep : tD T p = d
    · -- a guest
      have hn : ngG T d - ixG T d p = (ngG T d - ixG T d (p + 1)) + 1 := by
        have := ixG_lt hpN ep
        rw [ixG_t ep]
        unfold ngG
        omega
      have loop : ∀ (j t n : Nat) (M : Mem), t + j = min (mxW w (ixG T d p) + 1) L + 1 → 1 ≤ t → j < n → PM M T d → (∀ q, q < p → mI M 95 q = tvG T d w q) → PO T d p M (F_X4_paint_51 (F_X4_paint f) n 93 (nI p) (nI (mxW w (ixG T d p))) (nI L) (nI (min (mxW w (ixG T d p) + 1) L)) (nI t) M) (sTr (fun t => if fre (cfG T d) w (ixG T d p) t then sPt (cfG T d) L (ngG T d - ixG T d (p + 1)) (ixG T d p + 1) (va_up w (ixG T d p) t) else none) j t) := by
        intro j
        induction j with
        | zero =>
          intro t n M ht ht1 hn h hw
          obtain ⟨n, rfl, -⟩ := fu_get hn
          refine ⟨M, ?_, Fr.rf, fun _ _ => rfl, fun r hr => by cases hr⟩
          simp only [F_X4_paint_51]
          rw [if_pos (nI_lt (by omega) (by omega))]
          rfl
        | succ j ihj =>
          intro t n M ht ht1 hn h hw
          obtain ⟨n, rfl, hn⟩ := fu_get hn
          obtain ⟨h1, h2, h3, h4, h5⟩ := id h.1
          have hfr := c_free h7 hd h hpN ep hw hm (t := t) (by omega)
          unfold PO
          simp only [F_X4_paint_51]
          unfold F_X4_paint_95
          rw [if_neg (nI_nlt (by omega) (by omega)), chkT_of h1, Option.bind_some, hfr, Option.bind_some, nI_1]
          conv => enter [1, M', 1, 2]; unfold sTr
          conv => enter [1, M', 2, 2, 2]; unfold sTr
          by_cases ef : fre (cfG T d) w (ixG T d p) t
          · rw [if_pos ef, if_neg d10, fR_of h1, Option.bind_some, h3, stI_nI _ h5 (by omega) (by omega), Option.bind_some, nI_1, jmax_nI (by omega) (by omega)]
            simp only [if_pos ef]
            have hf1 : Fr (fun a => a = 95) M (uI M 95 p (nI t)) := Fr.uI rfl
            have hw1 : ∀ q, q < p + 1 → mI (uI M 95 p (nI t)) 95 q = tvG T d (va_up w (ixG T d p) t) q := fun q hq => by
              rw [mI_uI, if_pos rfl]
              by_cases e : q = p
              · subst e
                rw [upd_eq]
                unfold tvG
                rw [if_pos ep, vu_eq]
              · rw [upd_ne e, tvG_up (by omega)]
                exact hw q (by omega)
            have ii := ih (p + 1) f (va_up w (ixG T d p) t) (uI M 95 p (nI t)) (by omega) (by omega) (h.fr hf1) hw1 (by rw [ixG_t ep, mxW_up]; omega)
            rw [ixG_t ep, mxW_up] at ii
            obtain ⟨M1, g1, g2, g3, g4⟩ := ii
            rw [ixG_t ep] at *
            rw [g1, Option.bind_some]
            cases hs : sPt (cfG T d) L (ngG T d - (ixG T d p + 1)) (ixG T d p + 1) (va_up w (ixG T d p) t) with
            | some r =>
              rw [hs] at g4
              refine ⟨M1, ?_, hf1.tr g2, fun q hq => ?_, fun r' hr' => ?_⟩
              · rw [if_neg (show ¬ sVl (some r) = 0 from d10)]
                rfl
              · rw [g3 q (by omega), mI_uI, if_pos rfl, upd_ne (by omega)]
              · cases hr'
                exact g4 r rfl
            | none =>
              have hk : ∀ q, q < p → mI M1 95 q = mI M 95 q := fun q hq => by rw [g3 q (by omega), mI_uI, if_pos rfl, upd_ne (by omega)]
              obtain ⟨M2, b1, b2, b3, b4⟩ := ihj (t + 1) n M1 (by omega) (by omega) (by omega) (h.fr (hf1.tr g2)) (fun q hq => by rw [hk q hq]; exact hw q hq)
              refine ⟨M2, ?_, (hf1.tr g2).tr b2, fun q hq => by rw [b3 q hq, hk q hq], b4⟩
              rw [if_pos (show sVl none = 0 from rfl)]
              exact b1
          · rw [if_neg ef, if_pos rfl]
            simp only [if_neg ef]
            exact ihj (t + 1) n M (by omega) (by omega) (by omega) h hw
      obtain ⟨M', g1, g2⟩ := loop (min (mxW w (ixG T d p) + 1) L) 1 FU M (by omega) (by omega) (FU_gt (by omega)) h hw
      refine ⟨M', ?_, ?_⟩
      · simp only [F_X4_paint]
        rw [fI_of h1, Option.bind_some, h.2.1, if_pos (nI_lt hpN (by omega)), fI_of h1, Option.bind_some, if_neg (fun z => hb.mp z ⟨hpN, ep⟩), nI_1, jmin_nI (by omega) (by omega), hn]
        rw [ixG_t ep] at *
        exact g1
      · rw [hn]
        exact g2
    · -- none
      have hn : ixG T d (p + 1) = ixG T d p := ixG_f ep
      have hf1 : Fr (fun a => a = 95) M (uI M 95 p (-4)) := Fr.uI rfl
      have ii := ih (p + 1) f w (uI M 95 p (-4)) (by omega) (by omega) (h.fr hf1) (fun q hq => by
        rw [mI_uI, if_pos rfl]
        by_cases e : q = p
        · subst e
          rw [upd_eq]
          unfold tvG
          rw [if_neg ep]
        · rw [upd_ne e]
          exact hw q (by omega)) (by rw [hn]; exact hm)
      rw [hn] at ii
      obtain ⟨M1, g1, g2, g3, g4⟩ := ii
      refine ⟨M1, ?_, hf1.tr g2, fun q hq => by rw [g3 q (by omega), mI_uI, if_pos rfl, upd_ne (by omega)], g4⟩
      simp only [F_X4_paint]
      rw [fI_of h1, Option.bind_some, h.2.1, if_pos (nI_lt hpN (by omega)), fI_of h1, Option.bind_some, if_pos (hb.mpr (fun z => ep z.2)), fR_of h1, Option.bind_some, h3, stI_nI _ h5 (by omega) (by omega), Option.bind_some, nI_1, g1, Option.bind_some, rN_sVl, Option.bind_some]
