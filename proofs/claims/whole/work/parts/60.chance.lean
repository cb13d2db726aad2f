/-! LIKELY, THE CLASS -/
def oH : Nat → Prop := fun a => a = 96 ∨ a = 97 ∨ a = 98
/-- the chances' cells: the row in use, the other -/
def HM (M : Mem) (A B : Nat) : Prop := ((A = 97 ∧ B = 98) ∨ (A = 98 ∧ B = 97)) ∧ mS M 96 = (0, 2) ∧ mR M 96 0 = A ∧ mR M 96 1 = B ∧ mS M A = (10, 12) ∧ mS M B = (10, 12)
theorem HM.up {M : Mem} {A B a i : Nat} {v : Int32} (h : HM M A B) : HM (uI M a i v) A B := h
theorem HM.fr {M M' : Mem} {A B : Nat} (h : HM M A B) {S : Nat → Prop} (hf : Fr S M M') (hS : ¬ S 96) : HM M' A B := by
  obtain ⟨h0, h1, h2, h3, h4, h5⟩ := h
  have e := (hf.2.2.1 96 hS).2
  exact ⟨h0, by rw [hf.s]; exact h1, by rw [e]; exact h2, by rw [e]; exact h3, by rw [hf.s]; exact h4, by rw [hf.s]; exact h5⟩
theorem sub10 : ∀ x, x < 11 → (10 : Int32) - nI x = nI (10 - x) := by decide +kernel
theorem nI_mul (a b : Nat) : nI a * nI b = nI (a * b) := (Int32.ofNat_mul a b).symm
theorem c_go10 {W : Nat → Nat} {x g : Nat} (hx : x ≤ 10) (hg : g ≤ 24) {A B : Nat} : ∀ (k y n : Nat) (M : Mem), y + k = 12 → k < n → HM M A B → (∀ t, t < 12 → mI M A t = nI (W t)) → (∀ t, t < 12 → mI M B t = nI (nxF W x g y t)) → ∃ M', F_X0_goOn_10 n 96 (nI g) (nI x) (nI y) M = some M' ∧ HM M' B A ∧ (∀ t, t < 12 → mI M' B t = nI (nxF W x g 12 t)) ∧ Fr oH M M' := by
  intro k
  induction k with
  | zero =>
    intro y n M hy hn h hA hB
    obtain ⟨n, rfl, -⟩ := fu_get hn
    have : y = 12 := by omega
    subst this
    obtain ⟨h0, h1, h2, h3, h4, h5⟩ := id h
    refine ⟨uR (uR M 96 0 B) 96 1 A, ?_, ⟨by omega, h1, ?_, ?_, h5, h4⟩, hB, (Fr.uR (Or.inl rfl) (Or.inr (Or.inr rfl))).tr (Fr.uR (Or.inl rfl) (Or.inr (Or.inr rfl)))⟩
    · simp only [F_X0_goOn_10]
      rw [if_pos (show (12 : Int32) ≤ nI 12 by decide), fR_of h1, Option.bind_some, fR_of h1, Option.bind_some, h2, h3, pR_of h1, Option.bind_some, pR_of (M := uR M 96 0 B) h1, Option.bind_some]
    · rw [mR_uR, if_pos rfl, vu_ne (by omega), mR_uR, if_pos rfl, vu_eq]
    · rw [mR_uR, if_pos rfl, vu_eq]
  | succ k ih =>
    intro y n M hy hn h hA hB
    obtain ⟨n, rfl, hn⟩ := fu_get hn
    obtain ⟨h0, h1, h2, h3, h4, h5⟩ := id h
    have hz : (y + g) % 12 < 12 := Nat.mod_lt _ (by omega)
    have hAB : A ≠ B := by omega
    have e1 : jrem (nI y + nI g) 12 = nI ((y + g) % 12) := by
      rw [nI_add, show (12 : Int32) = nI 12 from rfl, jrem_nI (by omega) (by omega) (by omega)]
    have hM1 : HM (uI M B y (nI (nxF W x g y y + W y * x))) A B := h
    have hM2 : HM (uI (uI M B y (nI (nxF W x g y y + W y * x))) B ((y + g) % 12) (mI (uI M B y (nI (nxF W x g y y + W y * x))) B ((y + g) % 12) + nI (W y * (10 - x)))) A B := h
    obtain ⟨M', g1, g2, g3, g4⟩ := ih (y + 1) n _ (by omega) (by omega) hM2 (fun t ht => by rw [uI_a _ _ _ _ _ hAB, uI_a _ _ _ _ _ hAB]; exact hA t ht) (fun t ht => by
      have en : nxF W x g (y + 1) t = nxF W x g y t + ((if y = t then W y * x else 0) + (if (y + g) % 12 = t then W y * (10 - x) else 0)) := rfl
      rw [en, mI_uI, if_pos rfl]
      by_cases z1 : t = (y + g) % 12
      · rw [← z1, upd_eq, mI_uI, if_pos rfl, if_pos (show t = t from rfl)]
        by_cases z2 : t = y
        · rw [z2, upd_eq, if_pos (show y = y from rfl), nI_add]
          congr 1
          omega
        · rw [upd_ne z2, hB t ht, if_neg (show ¬ y = t from fun z => z2 z.symm), nI_add]
          congr 1
          omega
      · rw [upd_ne z1, mI_uI, if_pos rfl, if_neg (show ¬ (y + g) % 12 = t from fun z => z1 z.symm)]
        by_cases z2 : t = y
        · rw [z2, upd_eq, if_pos (show y = y from rfl)]
          rfl
        · rw [upd_ne z2, hB t ht, if_neg (show ¬ y = t from fun z => z2 z.symm)]
          rfl)
    have oB : oH B := by unfold oH; omega
    refine ⟨M', ?_, g2, g3, ((Fr.uI oB).tr (Fr.uI oB)).tr g4⟩
    simp only [F_X0_goOn_10]
    rw [if_neg (show ¬ (12 : Int32) ≤ nI y from nI_ge (b := 12) (by omega) (by omega)), fR_of h1, Option.bind_some, h3, ldI_nI h5 (by omega) (by omega), Option.bind_some, fR_of h1, Option.bind_some, h2, ldI_nI h4 (by omega) (by omega), Option.bind_some, hB y (by omega), hA y (by omega), nI_mul, nI_add, stI_nI _ h5 (by omega) (by omega), Option.bind_some, e1, sub10 x (by omega), fR_of hM1.2.1, Option.bind_some, hM1.2.2.2.1, ldI_nI hM1.2.2.2.2.2 hz (by omega), Option.bind_some, fR_of hM1.2.1, Option.bind_some, hM1.2.2.1, ldI_nI hM1.2.2.2.2.1 (by omega) (by omega), Option.bind_some, uI_a _ _ _ _ A hAB, hA y (by omega), nI_mul, stI_nI _ hM1.2.2.2.2.2 hz (by omega), Option.bind_some, nI_1]
    exact g1
theorem c_goOn {W : Nat → Nat} {x g : Nat} (hx : x ≤ 10) (hg : g ≤ 24) {A B : Nat} {M : Mem} (h : HM M A B) (hA : ∀ t, t < 12 → mI M A t = nI (W t)) : ∃ M', F_X0_goOn 96 (nI g) (nI x) M = some M' ∧ HM M' B A ∧ (∀ t, t < 12 → mI M' B t = nI (nxF W x g 12 t)) ∧ Fr oH M M' := by
  obtain ⟨h0, h1, h2, h3, h4, h5⟩ := id h
  obtain ⟨C, c1, c2, c3⟩ := c_fill (M := M) (row := B) (len := 12) h5 (by omega)
  obtain ⟨M', g1, g2, g3, g4⟩ := c_go10 hx hg 12 0 FU C (by omega) (FU_gt (by omega)) (h.fr c2 (by omega)) (fun t ht => by rw [c2.i (by omega)]; exact hA t ht) (fun t ht => by rw [c3 t ht]; rfl)
  refine ⟨M', ?_, g2, g3, (c2.mono (fun a ha => by unfold oH; omega)).tr g4⟩
  unfold F_X0_goOn
  rw [fR_of h1, Option.bind_some, h3, c1, Option.bind_some]
  exact g1
/-- how far one goes on the days -/
def gdL (T : Tn) (p k : Nat) : Nat := (gO (tDy T + nI k) (tK T p) (tP T p)).toNatClampNeg
theorem gdL_eq {T : Tn} (hT : TOk T) {p : Nat} (hp : p < tN T) (k : Nat) : gO (tDy T + nI k) (tK T p) (tP T p) = nI (gdL T p k) ∧ gdL T p k ≤ 24 := by
  obtain ⟨-, -, -, s, hs, es⟩ := hT.2.2 p hp
  obtain ⟨g, h1, h2⟩ := gO_ok (tDy T + nI k) (tK T p) hs
  have : gdL T p k = g := by
    unfold gdL
    rw [es, h2, nI_clamp (by omega)]
  rw [this, es]
  exact ⟨h2, h1⟩
def ydL (T : Tn) (p : Nat) : Nat := (tY T p).toNatClampNeg
theorem ydL_eq {T : Tn} (hT : TOk T) {p : Nat} (hp : p < tN T) : tY T p = nI (ydL T p) ∧ ydL T p < 12 := by
  obtain ⟨-, -, ⟨y, hy, ey⟩, -⟩ := hT.2.2 p hp
  have : ydL T p = y := by
    unfold ydL
    rw [ey, nI_clamp (by omega)]
  rw [this]
  exact ⟨ey, hy⟩
theorem c_follow {T : Tn} (hT : TOk T) {p x d : Nat} (hp : p < tN T) (hx : x ≤ 10) (hd : d ≤ 7) : ∀ (k i n : Nat) (A B : Nat) (M : Mem), i + k = d → k < n → HM M A B → TA M 9 T → (∀ t, t < 12 → mI M A t = nI (rrL x (ydL T p) (gdL T p) i t)) → ∃ M' A' B', F_X0_follow_22 n 96 9 (nI p) (nI d) (nI x) (nI i) M = some M' ∧ HM M' A' B' ∧ (∀ t, t < 12 → mI M' A' t = nI (rrL x (ydL T p) (gdL T p) d t)) ∧ Fr oH M M' := by
  intro k
  induction k with
  | zero =>
    intro i n A B M hi hn h ht hA
    obtain ⟨n, rfl, -⟩ := fu_get hn
    have : i = d := by omega
    subst this
    refine ⟨M, A, B, ?_, h, hA, Fr.rf⟩
    simp only [F_X0_follow_22]
    rw [if_pos (nI_le (Nat.le_refl _) (by omega))]
  | succ k ih =>
    intro i n A B M hi hn h ht hA
    obtain ⟨n, rfl, hn⟩ := fu_get hn
    obtain ⟨g1, g2⟩ := gdL_eq hT hp i
    obtain ⟨M1, b1, b2, b3, b4⟩ := c_goOn hx g2 h hA
    obtain ⟨M2, A', B', c1, c2, c3, c4⟩ := ih (i + 1) n B A M1 (by omega) (by omega) b2 (ht.fr b4 (fun a ha => by unfold oT at ha; unfold oH; omega)) (fun t ht => by rw [b3 t ht, rrL_s])
    refine ⟨M2, A', B', ?_, c2, c3, b4.tr c4⟩
    simp only [F_X0_follow_22]
    rw [if_neg (nI_ge (by omega) (by omega)), ht.ck, Option.bind_some, town_day ht, Option.bind_some, Option.bind_some, town_kindOf ht hp, Option.bind_some, Option.bind_some, town_paceOf ht hp, Option.bind_some, town_yardsOn, Option.bind_some, g1, chkT_of h.2.1, Option.bind_some, b1, Option.bind_some, nI_1]
    exact c1
theorem CI.mkH {M M' : Mem} {G : Sg} (h : CI M G) (hf : Fr oH M M') {A B : Nat} (hh : HM M' A B) : CI M' G := by
  obtain ⟨h1, h2, h3, h4, h5, h6, ⟨w, h7⟩, h8⟩ := h
  have nS : ∀ a, ¬ (a = 96 ∨ a = 97 ∨ a = 98) → ¬ oH a := fun a ha hs => ha hs
  refine ⟨h1.fr hf ⟨nS 3 (by omega), nS 4 (by omega)⟩, h2.fr hf (nS 6 (by omega)) (nS 7 (by omega)), h3.fr hf (fun a ha => nS a (by unfold oT at ha; omega)), h4.fr hf (nS 21 (by omega)) (nS 22 (by omega)) (fun a h1 h2 => nS a (by omega)), h5.fr hf (nS 71 (by omega)) (nS 72 (by omega)) (fun a h1 h2 => nS a (by omega)), h6.fr hf (fun a h1 h2 => nS a (by omega)), ⟨w, h7.fr hf (fun a h1 h2 => nS a (by omega))⟩, ?_⟩
  rw [hh.2.2.1, hh.2.2.2.1]
  have := hh.1
  omega
theorem CI.hm {M : Mem} {G : Sg} (h : CI M G) : ∃ A B, HM M A B := by
  have s0 := h.1.s 19 (a := 96) rfl
  have s1 := h.1.s 20 (a := 97) rfl
  have s2 := h.1.s 21 (a := 98) rfl
  rcases h.2.2.2.2.2.2.2 with ⟨a, b⟩ | ⟨a, b⟩
  · exact ⟨97, 98, Or.inl ⟨rfl, rfl⟩, s0, a, b, s1, s2⟩
  · exact ⟨98, 97, Or.inr ⟨rfl, rfl⟩, s0, a, b, s2, s1⟩
theorem c_fol {G : Sg} (hG : GOk G) {p x d : Nat} (hp : p < tN (gT G)) (hx : x ≤ 10) (hd : d ≤ 7) {M : Mem} (h : CI M G) : ∃ M' A B, F_X0_follow 96 9 (nI p) (nI d) (nI x) M = some M' ∧ HM M' A B ∧ (∀ t, t < 12 → mI M' A t = nI (rrL x (ydL (gT G) p) (gdL (gT G) p) d t)) ∧ CI M' G ∧ Fr oC M M' := by
  obtain ⟨A, B, hm⟩ := h.hm
  obtain ⟨h0, h1, h2, h3, h4, h5⟩ := id hm
  obtain ⟨C, c1, c2, c3⟩ := c_fill (M := M) (row := A) (len := 12) h4 (by omega)
  have hC := hm.fr c2 (by omega)
  have nt : ∀ a, oT 9 a → ¬ a = A := fun a ha => by unfold oT at ha; omega
  have tC := h.ta.fr c2 nt
  obtain ⟨y1, y2⟩ := ydL_eq hG.2.2.1 hp
  have f2 : Fr (fun a => a = A) C (uI C A (ydL (gT G) p) 1) := Fr.uI rfl
  obtain ⟨M', A', B', g1, g2, g3, g4⟩ := c_follow hG.2.2.1 hp hx hd d 0 FU A B (uI C A (ydL (gT G) p) 1) (by omega) (FU_gt (by omega)) hC.up (tC.fr f2 nt) (fun t ht => by
    show _ = nI (0 + if (ydL (gT G) p) % 12 = t then 1 else 0)
    rw [mI_uI, if_pos rfl, Nat.mod_eq_of_lt y2]
    by_cases e : t = ydL (gT G) p
    · rw [e, upd_eq, if_pos rfl]
      rfl
    · rw [upd_ne e, c3 t ht, if_neg (fun z => e z.symm)]
      rfl)
  have fA : ∀ a, a = A → oH a := fun a ha => by unfold oH; omega
  have fr : Fr oH M M' := ((c2.mono fA).tr (f2.mono fA)).tr g4
  refine ⟨M', A', B', ?_, g2, g3, h.mkH fr g2, fr.mono (fun a ha => by unfold oH at ha; unfold oC; omega)⟩
  unfold F_X0_follow
  rw [fR_of h1, Option.bind_some, h2, c1, Option.bind_some, fR_of hC.2.1, Option.bind_some, hC.2.2.1, tC.ck, Option.bind_some, town_yardOf tC hp, Option.bind_some, y1, stI_nI _ hC.2.2.2.2.1 y2 (by omega), Option.bind_some]
  exact g1
/-- the answer, of the two numbers -/
def lkV (a b : Nat) (z : Int32) : Int32 := if z = 0 then nI (a / Nat.gcd a b) else nI (b / Nat.gcd a b)
theorem c_pow10 {d : Nat} (hd : d ≤ 7) : F_X6_powerOfTen (nI d) = some (nI (10 ^ d)) := by
  have key : ∀ (k i n : Nat), i + k = d → k < n → F_X6_powerOfTen_4 n (nI d) (nI (10 ^ i)) (nI i) = some (nI (10 ^ d)) := by
    intro k
    induction k with
    | zero =>
      intro i n hi hn
      obtain ⟨n, rfl, -⟩ := fu_get hn
      have : i = d := by omega
      subst this
      simp only [F_X6_powerOfTen_4]
      rw [if_pos (nI_le (Nat.le_refl _) (by omega))]
    | succ k ih =>
      intro i n hi hn
      obtain ⟨n, rfl, hn⟩ := fu_get hn
      simp only [F_X6_powerOfTen_4]
      rw [if_neg (nI_ge (by omega) (by omega)), show (10 : Int32) = nI 10 from rfl, nI_mul, ← Nat.pow_succ, nI_1]
      exact ih (i + 1) n (by omega) (by omega)
  exact key d 0 FU (by omega) (FU_gt (by omega))
theorem p10 {d : Nat} (hd : d ≤ 7) : 1 ≤ 10 ^ d ∧ 10 ^ d ≤ 10000000 := by
  have : ∀ d, d < 8 → 1 ≤ 10 ^ d ∧ 10 ^ d ≤ 10000000 := by decide +kernel
  exact this d (by omega)
theorem c_106 {d a : Nat} (hd : d ≤ 7) (ha : a ≤ 10 ^ d) (z : Int32) (M : Mem) : F_X6_likely_106 (nI d) z (nI a) M = some (lkV a (10 ^ d) z, M) := by
  obtain ⟨p1, p2⟩ := p10 hd
  have hg : 0 < Nat.gcd a (10 ^ d) := Nat.gcd_pos_of_pos_right _ (by omega)
  have hg2 : Nat.gcd a (10 ^ d) ≤ 10 ^ d := Nat.gcd_le_right _ (by omega)
  have ec : F_X6_commonDivisor (nI a) (nI (10 ^ d)) = some (nI (Nat.gcd a (10 ^ d))) := c_gcd 24 a (10 ^ d) 0 FU (by omega) (by omega) (by omega) (by omega) (FU_gt (by omega))
  unfold F_X6_likely_106 lkV
  rw [c_pow10 hd, Option.bind_some, ec, Option.bind_some, show (1 : Int32) = nI 1 from rfl, jmax_nI (by omega) (by omega), Nat.max_eq_right hg, if_neg (nI_ne0 hg (by omega)), toInt_div (by omega) hg (by omega), toInt_div (by omega) hg (by omega)]
  by_cases e : z = 0
  · rw [if_pos e, if_pos e]
  · rw [if_neg e, if_neg e, if_neg (nI_ne0 hg (by omega))]
