/-! SPREAD, THE CLASS: clashes, the fewest -/
theorem c_mk12 (r2 : Nat → Nat → Int32 → Mem → Option Mem) {T : Tn} {p : Nat} (hp : p < tN T) : ∀ (k q n : Nat) (M : Mem) (S : Nat → Prop), q + k = p → k < n → PS M → TA M 15 T → Bt (mI M 94 p) S → ∃ M', F_X4_markClashes_12 r2 n 93 15 (nI p) (nI q) M = r2 93 15 (nI (p + 1)) M' ∧ Fr (fun a => a = 94) M M' ∧ (∀ x, x ≠ p → mI M' 94 x = mI M 94 x) ∧ Bt (mI M' 94 p) (fun j => S j ∨ (q ≤ j ∧ j < p ∧ ¬ btw T p j = 0)) := by
  intro k
  induction k with
  | zero =>
    intro q n M S hq hn h ht hb
    obtain ⟨n, rfl, -⟩ := fu_get hn
    have h7 := ht.2.1
    refine ⟨M, ?_, Fr.rf, fun _ _ => rfl, hb.ext (fun j _ => ⟨Or.inl, fun z => z.elim id (fun y => by omega)⟩)⟩
    simp only [F_X4_markClashes_12]
    rw [if_pos (nI_le (by omega) (by omega)), nI_1]
  | succ k ih =>
    intro q n M S hq hn h ht hb
    obtain ⟨n, rfl, hn⟩ := fu_get hn
    have h7 := ht.2.1
    obtain ⟨h1, h2, h3, h4, h5⟩ := id h
    by_cases e : btw T p q = 0
    · obtain ⟨M', g1, g2, g3, g4⟩ := ih (q + 1) n M S (by omega) (by omega) h ht hb
      refine ⟨M', ?_, g2, g3, g4.ext (fun j _ => or_congr Iff.rfl ⟨fun z => ⟨by omega, z.2⟩, fun z => ⟨?_, z.2⟩⟩)⟩
      · simp only [F_X4_markClashes_12]
        unfold F_X4_markClashes_38
        rw [if_neg (nI_ge (by omega) (by omega)), ht.ck, Option.bind_some, town_between ht hp (by omega), Option.bind_some, if_pos e, nI_1]
        exact g1
      · have : j ≠ q := fun y => z.2.2 (by rw [y]; exact e)
        omega
    · have hf1 : Fr (fun a => a = 94) M (uI M 94 p (mI M 94 p ||| ((1 : Int32) <<< (nI q &&& 31)))) := Fr.uI rfl
      obtain ⟨M', g1, g2, g3, g4⟩ := ih (q + 1) n (uI M 94 p (mI M 94 p ||| ((1 : Int32) <<< (nI q &&& 31)))) (fun j => S j ∨ j = q) (by omega) (by omega) (h.fr hf1) (ht.fr hf1 (fun a ha => by unfold oT at ha; omega)) (by rw [mI_uI, if_pos rfl, upd_eq]; exact hb.or (by omega))
      refine ⟨M', ?_, hf1.tr g2, fun x hx => by rw [g3 x hx, mI_uI, if_pos rfl, upd_ne hx], g4.ext (fun j _ => ?_)⟩
      · simp only [F_X4_markClashes_12]
        unfold F_X4_markClashes_38
        rw [if_neg (nI_ge (by omega) (by omega)), ht.ck, Option.bind_some, town_between ht hp (by omega), Option.bind_some, if_neg e, fR_of h1, Option.bind_some, h2, ldI_nI h4 (by omega) (by omega), Option.bind_some, stI_nI _ h4 (by omega) (by omega), Option.bind_some, nI_1]
        exact g1
      · constructor
        · rintro ((z | z) | z)
          · exact Or.inl z
          · exact Or.inr ⟨by omega, by omega, by rw [z]; exact e⟩
          · exact Or.inr ⟨by omega, z.2⟩
        · rintro (z | z)
          · exact Or.inl (Or.inl z)
          · by_cases y : j = q
            · exact Or.inl (Or.inr y)
            · exact Or.inr ⟨by omega, z.2⟩
theorem c_mk2 {T : Tn} : ∀ (k p n : Nat) (M : Mem) (S : Nat → Nat → Prop), p + k = tN T → k < n → PS M → mI M 93 2 = nI (tN T) → TA M 15 T → (∀ x, x < tN T → Bt (mI M 94 x) (S x)) → ∃ M', F_X4_markClashes_2 n 93 15 (nI p) M = some M' ∧ Fr (fun a => a = 94) M M' ∧ ∀ x, x < tN T → Bt (mI M' 94 x) (fun j => S x j ∨ (p ≤ x ∧ j < x ∧ ¬ btw T x j = 0)) := by
  intro k
  induction k with
  | zero =>
    intro p n M S hp hn h h2 ht hb
    obtain ⟨n, rfl, -⟩ := fu_get hn
    have h7 := ht.2.1
    refine ⟨M, ?_, Fr.rf, fun x hx => (hb x hx).ext (fun j _ => ⟨Or.inl, fun z => z.elim id (fun y => by omega)⟩)⟩
    simp only [F_X4_markClashes_2]
    rw [fI_of h.1, Option.bind_some, h2, if_pos (nI_le (by omega) (by omega))]
  | succ k ih =>
    intro p n M S hp hn h h2 ht hb
    obtain ⟨n, rfl, hn⟩ := fu_get hn
    have h7 := ht.2.1
    obtain ⟨M1, g1, g2, g3, g4⟩ := c_mk12 (F_X4_markClashes_2 n) (p := p) (by omega) p 0 FU M (S p) (by omega) (FU_gt (by omega)) h ht (hb p (by omega))
    obtain ⟨M2, b1, b2, b3⟩ := ih (p + 1) n M1 (fun x j => S x j ∨ (x = p ∧ j < x ∧ ¬ btw T x j = 0)) (by omega) (by omega) (h.fr g2) (by rw [g2.i (by omega)]; exact h2) (ht.fr g2 (fun a ha => by unfold oT at ha; omega)) (fun x hx => by
      by_cases e : x = p
      · subst e
        exact g4.ext (fun j _ => or_congr Iff.rfl ⟨fun z => ⟨rfl, z.2⟩, fun z => ⟨by omega, z.2⟩⟩)
      · rw [g3 x e]
        exact (hb x hx).ext (fun j _ => ⟨Or.inl, fun z => z.elim id (fun y => absurd y.1 e)⟩))
    refine ⟨M2, ?_, g2.tr b2, fun x hx => (b3 x hx).ext (fun j _ => ?_)⟩
    · simp only [F_X4_markClashes_2]
      rw [fI_of h.1, Option.bind_some, h2, if_neg (nI_ge (by omega) (by omega))]
      exact g1.trans b1
    · constructor
      · rintro ((z | z) | z)
        · exact Or.inl z
        · exact Or.inr ⟨by omega, z.2⟩
        · exact Or.inr ⟨by omega, z.2⟩
      · rintro (z | z)
        · exact Or.inl (Or.inl z)
        · by_cases y : x = p
          · exact Or.inl (Or.inr ⟨y, z.2⟩)
          · exact Or.inr ⟨by omega, z.2⟩
theorem clG_s (T : Tn) (n p q : Nat) : clG T (n + 1) p q ↔ clG T n p q ∨ ¬ btw (rdN n T) p q = 0 := by
  unfold clG
  constructor
  · rintro ⟨i, h1, h2⟩
    by_cases e : i = n
    · exact Or.inr (by rw [← e]; exact h2)
    · exact Or.inl ⟨i, by omega, h2⟩
  · rintro (⟨i, h1, h2⟩ | h)
    · exact ⟨i, by omega, h2⟩
    · exact ⟨n, by omega, h⟩
def oW : Nat → Prop := fun a => oT 15 a ∨ a = 94
theorem c_ch27 {T : Tn} {d : Int32} : ∀ (k n f : Nat) (M : Mem), n + k = 25 → k < f → PS M → mI M 93 2 = nI (tN T) → Bt (mI M 93 3) (fun q => q < tN T ∧ tD T q = d) → TA M 15 (rdN n T) → (∀ x, x < tN T → Bt (mI M 94 x) (fun q => q < x ∧ clG T n x q)) → ∃ M', F_X4_choose_27 f 93 15 (nI n) M = F_X4_choose_50 FU 93 0 M' ∧ PM M' T d ∧ Fr oW M M' := by
  intro k
  induction k with
  | zero =>
    intro n f M hk hf h h2 h3 ht hb
    obtain ⟨f, rfl, -⟩ := fu_get hf
    have : n = 25 := by omega
    subst this
    refine ⟨M, ?_, ⟨h, h2, h3, hb⟩, Fr.rf⟩
    simp only [F_X4_choose_27]
    rw [if_pos (show (24 : Int32) < nI 25 by decide)]
  | succ k ih =>
    intro n f M hk hf h h2 h3 ht hb
    obtain ⟨f, rfl, hf⟩ := fu_get hf
    have h7 := ht.2.1
    rw [rdN_N] at h7
    obtain ⟨M1, g1, g2, g3⟩ := c_mk2 (T := rdN n T) (tN T) 0 FU M (fun x q => q < x ∧ clG T n x q) (by rw [rdN_N]; omega) (FU_gt (by omega)) h (by rw [rdN_N]; exact h2) ht (by rw [rdN_N]; exact hb)
    have t1 : TA M1 15 (rdN n T) := ht.fr g2 (fun a ha => by unfold oT at ha; omega)
    obtain ⟨M2, b1, b2, b3⟩ := town_goRound t1
    have g9 : Fr oW M M2 := (g2.mono (fun a ha => Or.inr ha)).tr (b2.mono (fun a ha => Or.inl ha))
    have n93 : ¬ oW 93 := by unfold oW oT; omega
    obtain ⟨M3, c1, c2, c3⟩ := ih (n + 1) f M2 (by omega) (by omega) (h.fr g9) (by rw [g9.i n93]; exact h2) (by rw [g9.i n93]; exact h3) b3 (fun x hx => by
      rw [b2.i (by unfold oT; omega)]
      refine (g3 x (by rw [rdN_N]; exact hx)).ext (fun j _ => ?_)
      rw [clG_s]
      constructor
      · rintro (⟨z1, z2⟩ | ⟨-, z1, z2⟩)
        · exact ⟨z1, Or.inl z2⟩
        · exact ⟨z1, Or.inr z2⟩
      · rintro ⟨z1, z2 | z2⟩
        · exact Or.inl ⟨z1, z2⟩
        · exact Or.inr ⟨by omega, z1, z2⟩)
    refine ⟨M3, ?_, c2, g9.tr c3⟩
    simp only [F_X4_choose_27]
    unfold F_X4_markClashes
    rw [if_neg (show ¬ (24 : Int32) < nI n from nI_nlt (a := 24) (by omega) (by omega)), chkT_of h.1, Option.bind_some, z0, g1, Option.bind_some, t1.ck, Option.bind_some, b1, Option.bind_some, nI_1]
    exact c1
/-- the first way of so many widths -/
def pwG (T : Tn) (d : Int32) (L : Nat) : Option (Nat → Nat) := sPt (cfG T d) L (ngG T d) 0 (fun _ => 0)
theorem pwG_7 {T : Tn} (h7 : tN T ≤ 7) (d : Int32) : pwG T d 7 ≠ none := by
  have := ixG_le T d (tN T)
  exact sPt_ok _ _ _ _ _ (by unfold ngG; omega) (Nat.le_refl _)
theorem c_ch50 {T : Tn} {d : Int32} (h7 : tN T ≤ 7) (hd : ¬ d = -4) : ∀ (j L n : Nat) (M : Mem), L + j = 7 → j < n → PM M T d → ∃ M', F_X4_choose_50 n 93 (nI L) M = some (nI (sLst (pwG T d) j L).1, M') ∧ Fr (fun a => a = 95) M M' ∧ ∀ q, q < tN T → mI M' 95 q = tvG T d (sLst (pwG T d) j L).2 q := by
  have pp : ∀ (L : Nat) (M : Mem), L ≤ 7 → PM M T d → PO T d 0 M (F_X4_paint 9 93 0 0 (nI L) M) (pwG T d L) := fun L M hL h => c_paint h7 hd hL (tN T) 0 9 (fun _ => 0) M (by omega) (by omega) h (fun q hq => absurd hq (Nat.not_lt_zero q)) (Nat.le_refl _)
  intro j
  induction j with
  | zero =>
    intro L n M hL hn h
    obtain ⟨n, rfl, -⟩ := fu_get hn
    have : L = 7 := by omega
    subst this
    obtain ⟨M1, g1, g2, g3, g4⟩ := pp 7 M (by omega) h
    refine ⟨M1, ?_, g2, ?_⟩
    · simp only [F_X4_choose_50]
      rw [if_pos (show (7 : Int32) ≤ nI 7 by decide)]
      have g1' : F_X4_paint 9 93 0 0 7 M = some (sVl (pwG T d 7), M1) := g1
      rw [g1', Option.bind_some]
      rfl
    · show ∀ q, q < tN T → mI M1 95 q = tvG T d ((pwG T d 7).getD (fun _ => 0)) q
      cases e : pwG T d 7 with
      | none => exact absurd e (pwG_7 h7 d)
      | some r => exact g4 r e
  | succ j ih =>
    intro L n M hL hn h
    obtain ⟨n, rfl, hn⟩ := fu_get hn
    obtain ⟨M1, g1, g2, g3, g4⟩ := pp L M (by omega) h
    simp only [F_X4_choose_50]
    rw [if_neg (show ¬ (7 : Int32) ≤ nI L from nI_ge (b := 7) (by omega) (by omega)), g1, Option.bind_some]
    unfold sLst
    cases e : pwG T d L with
    | none =>
      rw [if_pos (show sVl none = 0 from rfl), nI_1]
      obtain ⟨M2, b1, b2, b3⟩ := ih (L + 1) n M1 (by omega) (by omega) (h.fr g2)
      exact ⟨M2, b1, g2.tr b2, b3⟩
    | some r =>
      rw [if_neg (show ¬ sVl (some r) = 0 from d10)]
      exact ⟨M1, rfl, g2, g4 r e⟩
theorem goB_bt {T : Tn} (h7 : tN T ≤ 7) (d : Int32) : Bt (goB T d) (fun q => q < tN T ∧ tD T q = d) := by
  have key : ∀ (k p : Nat) (b : Int32) (S : Nat → Prop), p + k ≤ 7 → Bt b S → Bt (itr (fun p b => if tD T p = d then b ||| ((1 : Int32) <<< (nI p &&& 31)) else b) k p b) (fun q => S q ∨ (p ≤ q ∧ q < p + k ∧ tD T q = d)) := by
    intro k
    induction k with
    | zero =>
      intro p b S hp hb
      exact hb.ext (fun j _ => ⟨Or.inl, fun z => z.elim id (fun y => by omega)⟩)
    | succ k ih =>
      intro p b S hp hb
      show Bt (itr _ k (p + 1) (if tD T p = d then _ else _)) _
      by_cases e : tD T p = d
      · rw [if_pos e]
        refine (ih (p + 1) _ _ (by omega) (hb.or (q := p) (by omega))).ext (fun j _ => ?_)
        constructor
        · rintro ((z | z) | z)
          · exact Or.inl z
          · exact Or.inr ⟨by omega, by omega, by rw [z]; exact e⟩
          · exact Or.inr ⟨by omega, by omega, z.2.2⟩
        · rintro (z | z)
          · exact Or.inl (Or.inl z)
          · by_cases y : j = p
            · exact Or.inl (Or.inr y)
            · exact Or.inr ⟨by omega, by omega, z.2.2⟩
      · rw [if_neg e]
        refine (ih (p + 1) _ _ (by omega) hb).ext (fun j _ => or_congr Iff.rfl ⟨fun z => ⟨by omega, by omega, z.2.2⟩, fun z => ⟨?_, by omega, z.2.2⟩⟩)
        have : j ≠ p := fun y => e (by rw [← y]; exact z.2.2)
        omega
  exact (key (tN T) 0 0 _ (by omega) Bt.z).ext (fun j _ => ⟨fun z => z.elim False.elim (fun y => ⟨by omega, y.2.2⟩), fun z => Or.inr ⟨by omega, by omega, z.2⟩⟩)
/-- what is wanted: how many, or one's own -/
def spV (T : Tn) (d : Int32) (x : Option Nat) : Int32 := match x with
  | none => nI (sLst (pwG T d) 7 0).1
  | some p => tvG T d (sLst (pwG T d) 7 0).2 p
def oX : Nat → Prop := fun a => oT 15 a ∨ (93 ≤ a ∧ a < 96)
theorem c_choose {T : Tn} {d : Int32} (h7 : tN T ≤ 7) (hd : ¬ d = -4) {M : Mem} (h : PS M) (ht : TA M 15 T) : ∃ M', F_X4_choose 93 15 d M = some (spV T d none, M') ∧ Fr oX M M' ∧ ∀ q, q < tN T → mI M' 95 q = spV T d (some q) := by
  obtain ⟨h1, h2, h3, h4, h5⟩ := id h
  have fA : Fr oX M (uI M 93 2 (nI (tN T))) := Fr.uI (Or.inr ⟨by omega, by omega⟩)
  have nt : ∀ a, oT 15 a → ¬ a = 93 ∧ ¬ a = 94 := fun a ha => by unfold oT at ha; omega
  have tA : TA (uI M 93 2 (nI (tN T))) 15 T := ht.fr (S := fun a => a = 93) (Fr.uI rfl) (fun a ha => (nt a ha).1)
  have fB : Fr oX (uI M 93 2 (nI (tN T))) (uI (uI M 93 2 (nI (tN T))) 93 3 (goB T d)) := Fr.uI (Or.inr ⟨by omega, by omega⟩)
  have tB : TA (uI (uI M 93 2 (nI (tN T))) 93 3 (goB T d)) 15 T := tA.fr (S := fun a => a = 93) (Fr.uI rfl) (fun a ha => (nt a ha).1)
  have e2 : mI (uI (uI M 93 2 (nI (tN T))) 93 3 (goB T d)) 93 2 = nI (tN T) := by rw [mI_uI, if_pos rfl, upd_ne (by omega), mI_uI, if_pos rfl, upd_eq]
  have e3 : mI (uI (uI M 93 2 (nI (tN T))) 93 3 (goB T d)) 93 3 = goB T d := by rw [mI_uI, if_pos rfl, upd_eq]
  have sB : PS (uI (uI M 93 2 (nI (tN T))) 93 3 (goB T d)) := h.fr (fA.tr fB)
  have fAB := fA.tr fB
  have hA1 : mS (uI M 93 2 (nI (tN T))) 93 = (4, 4) := h1
  generalize hB : uI (uI M 93 2 (nI (tN T))) 93 3 (goB T d) = B at *
  obtain ⟨C, c1, c2, c3⟩ := c_fill (M := B) (row := 94) (len := 7) sB.2.2.2.1 (by omega)
  have fC : Fr oX B C := c2.mono (fun a ha => Or.inr ⟨by omega, by omega⟩)
  obtain ⟨D, d1, d2, d3⟩ := c_ch27 (T := T) (d := d) 25 0 FU C (by omega) (FU_gt (by omega)) (sB.fr c2) (by rw [c2.i (by omega)]; exact e2) (by rw [c2.i (by omega), e3]; exact goB_bt h7 d) (tB.fr c2 (fun a ha => (nt a ha).2)) (fun x hx => by
    rw [c3 x (by omega)]
    exact Bt.z.ext (fun q _ => ⟨False.elim, fun ⟨_, i, z, _⟩ => absurd z (Nat.not_lt_zero i)⟩))
  obtain ⟨E, e1, f2, f3⟩ := c_ch50 h7 hd 7 0 FU D (by omega) (FU_gt (by omega)) d2
  refine ⟨E, ?_, ((fAB.tr fC).tr (d3.mono (fun a ha => ha.elim Or.inl (fun z => Or.inr ⟨by omega, by omega⟩)))).tr (f2.mono (fun a ha => Or.inr ⟨by omega, by omega⟩)), f3⟩
  unfold F_X4_choose
  rw [ht.ck, Option.bind_some, town_size ht, Option.bind_some, pI_of h1, Option.bind_some, tA.ck, Option.bind_some, town_goers tA, Option.bind_some, pI_of hA1, Option.bind_some, hB, fR_of sB.1, Option.bind_some, sB.2.1, c1, Option.bind_some]
  exact d1.trans e1
theorem out_m1 {T : Tn} (h1 : 1 ≤ tN T) (h7 : tN T ≤ 7) : F_X6_outside (-1) (-1) (nI (tN T - 1)) = some 0 := by
  have : ∀ n, n < 7 → F_X6_outside (-1) (-1) (nI n) = some 0 := by decide +kernel
  exact this _ (by omega)
theorem in_m1 {T : Tn} (h1 : 1 ≤ tN T) (h7 : tN T ≤ 7) : F_X7_in (-1) (-1) (nI (tN T - 1)) = some 1 := by
  have : ∀ n, n < 7 → F_X7_in (-1) (-1) (nI n) = some 1 := by decide +kernel
  exact this _ (by omega)
theorem m1_lt {x : Int32} (h : ¬ x < -1) (h2 : ¬ x = -1) : nI 0 ≤ x := by
  rw [Int32.lt_iff_toInt_lt] at h
  rw [Int32.le_iff_toInt_le]
  have e : (-1 : Int32).toInt = -1 := by decide
  have e0 : (nI 0).toInt = 0 := by decide
  have : x.toInt ≠ -1 := fun z => h2 (Int32.toInt_inj.mp (by rw [z, e]))
  omega
theorem out_p {T : Tn} (h1 : 1 ≤ tN T) (h7 : tN T ≤ 7) {x : Int32} (hx : IsP T x) : F_X6_outside x (-1) (nI (tN T - 1)) = some 0 := by
  obtain ⟨a, b⟩ := (InR_iff (by omega) (by omega)).mp ((IsP_in h1).mp hx)
  unfold F_X6_outside
  rw [if_neg (fun z => by
    rw [Int32.lt_iff_toInt_lt] at z
    rw [Int32.le_iff_toInt_le] at a
    have e : (-1 : Int32).toInt = -1 := by decide
    have e0 : (nI 0).toInt = 0 := by decide
    omega), if_pos b]
theorem in_p {T : Tn} (h1 : 1 ≤ tN T) (h7 : tN T ≤ 7) {x : Int32} (hx : IsP T x) : F_X7_in x (-1) (nI (tN T - 1)) = some 1 := by
  obtain ⟨a, b⟩ := (InR_iff (by omega) (by omega)).mp ((IsP_in h1).mp hx)
  unfold F_X7_in
  rw [if_neg (fun z => by
    rw [Int32.lt_iff_toInt_lt] at z
    rw [Int32.le_iff_toInt_le] at a
    have e : (-1 : Int32).toInt = -1 := by decide
    have e0 : (nI 0).toInt = 0 := by decide
    omega), if_neg (Int32.not_lt.mpr b)]
theorem out_n {T : Tn} (h1 : 1 ≤ tN T) (h7 : tN T ≤ 7) {x : Int32} (hx : ¬ IsP T x) (hm : ¬ x = -1) : F_X6_outside x (-1) (nI (tN T - 1)) = some 1 := by
  unfold F_X6_outside F_X6_outside_10
  split
  · rfl
  · rename_i h2
    rw [if_neg]
    exact fun h3 => hx ((IsP_in h1).mpr ((InR_iff (by omega) (by omega)).mpr ⟨m1_lt h2 hm, h3⟩))
theorem in_n {T : Tn} (h1 : 1 ≤ tN T) (h7 : tN T ≤ 7) {x : Int32} (hx : ¬ IsP T x) (hm : ¬ x = -1) : F_X7_in x (-1) (nI (tN T - 1)) = some 0 := by
  unfold F_X7_in
  split
  · rfl
  · rename_i h2
    rw [if_pos]
    exact Int32.not_le.mp fun h3 => hx ((IsP_in h1).mpr ((InR_iff (by omega) (by omega)).mpr ⟨m1_lt h2 hm, h3⟩))
