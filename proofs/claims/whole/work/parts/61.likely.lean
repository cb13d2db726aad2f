/-! LIKELY, THE REFERENCE; both sides -/
theorem has_nI : ∀ r, r < 128 → ∀ k, k < 7 → F_X7_has (nI r) (nI k) = some (if r.testBit k then 1 else 0) := by decide +kernel
/-- what one way adds -/
def adL (T : Tn) (p q x d t r : Nat) : Nat := if shW T p q = 0 then 0 else if (wpL x (ydL T p) (gdL T p) d r).2 % 12 = t then (wpL x (ydL T p) (gdL T p) d r).1 else 0
theorem adL_sm (T : Tn) (p q x d t : Nat) : smN (adL T p q x d t) (2 ^ d) = if shW T p q = 0 then 0 else rrL x (ydL T p) (gdL T p) d t := by
  by_cases e : shW T p q = 0
  · rw [if_pos e, smN_cg (f := adL T p q x d t) (g := fun _ => 0) _ (fun r _ => if_pos e), smN_0]
  · rw [if_neg e]
    exact smN_cg _ (fun r _ => if_neg e)
theorem r_116 {M : Mem} {T : Tn} (h : RA M T) (hT : TOk T) {p q x d t r : Nat} (hp : p < tN T) (hq : q < tN T) (hx : x ≤ 10) (hd : d ≤ 7) (ht : t < 12) (hr : r < 2 ^ d) (r94 : Nat → Int32 → Int32 → Int32 → Int32 → Int32 → Int32 → Int64 → Int64 → Int32 → Option Int32) (z : Int32) (S : Nat) (b : Int64) : ∀ (k i n : Nat), i + k = d → k < n → F_X7_likely_116 M r94 n 100 (nI p) (nI q) (nI d) (nI x) z (nI t) (lN S) b (nI r) (lN (wpL x (ydL T p) (gdL T p) i r).1) (nI (wpL x (ydL T p) (gdL T p) i r).2) (nI i) = r94 100 (nI p) (nI q) (nI d) (nI x) z (nI t) (lN (S + adL T p q x d t r)) b (nI (r + 1)) := by
  have hr7 : r < 128 := Nat.lt_of_lt_of_le hr (Nat.pow_le_pow_right (n := 2) (by omega) hd)
  have hy := wpL_y (x := x) (fun k => (gdL_eq hT hp k).2) (ydL_eq hT hp).2 r
  intro k
  induction k with
  | zero =>
    intro i n hi hn
    obtain ⟨n, rfl, -⟩ := fu_get hn
    have : i = d := by omega
    subst this
    have hyi := hy i
    simp only [F_X7_likely_116]
    unfold F_X7_likely_222 F_X7_likely_223
    rw [if_pos (nI_le (Nat.le_refl _) (by omega)), h.ck, Option.bind_some, ref_isSame h hp hq, Option.bind_some, nI_1, show (0 : Int64) = lN 0 from rfl, lN_add, lN_add, show (12 : Int32) = nI 12 from rfl, jrem_nI (by omega) (by omega) (by omega)]
    unfold adL
    by_cases e : shW T p q = 0
    · rw [if_pos e, if_pos e]
    · rw [if_neg e, if_neg e]
      have hlt := Nat.mod_lt (wpL x (ydL T p) (gdL T p) i r).2 (show 0 < 12 by omega)
      by_cases e2 : (wpL x (ydL T p) (gdL T p) i r).2 % 12 = t
      · rw [if_pos (by rw [e2]), if_pos e2]
      · rw [if_neg (fun y => e2 (nI_inj (by omega) (by omega) y)), if_neg e2]
  | succ k ih =>
    intro i n hi hn
    obtain ⟨n, rfl, hn⟩ := fu_get hn
    have ih' := ih (i + 1) n (by omega) (by omega)
    obtain ⟨g1, g2⟩ := gdL_eq hT hp i
    simp only [F_X7_likely_116]
    unfold F_X7_likely_146 F_X7_likely_187
    rw [if_neg (nI_ge (by omega) (by omega)), has_nI r hr7 i (by omega), Option.bind_some, nI_1]
    cases e : r.testBit i with
    | true =>
      rw [wpL_t e] at ih'
      rw [if_pos rfl, if_neg d10, Option.bind_some, if_neg d10, nI_l (by omega), lN_mul, show (0 : Int32) = nI 0 from rfl, nI_add]
      exact ih'
    | false =>
      rw [wpL_f e] at ih'
      rw [if_neg (show ¬ false = true by decide), if_pos rfl, Option.bind_some, if_pos rfl, h.r1, Option.bind_some, h.k hp, Option.bind_some, h.r7, Option.bind_some, h.p hp, Option.bind_some, h.dy, Option.bind_some, ref_goes, Option.bind_some, g1, sub10 x (by omega), nI_l (by omega), lN_mul, nI_add]
      exact ih'
theorem r_94 {M : Mem} {T : Tn} (h : RA M T) (hT : TOk T) {p q x d t : Nat} (hp : p < tN T) (hq : q < tN T) (hx : x ≤ 10) (hd : d ≤ 7) (ht : t < 12) (z : Int32) : ∀ (k r n : Nat), r + k = 2 ^ d → k < n → F_X7_likely_94 M n 100 (nI p) (nI q) (nI d) (nI x) z (nI t) (lN (smN (adL T p q x d t) r)) (lN (10 ^ d)) (nI r) = some (lkV (smN (adL T p q x d t) (2 ^ d)) (10 ^ d) z) := by
  have h2 : 2 ^ d ≤ 128 := Nat.pow_le_pow_right (n := 2) (by omega) hd
  obtain ⟨p1, p2⟩ := p10 hd
  have hS : smN (adL T p q x d t) (2 ^ d) ≤ 10 ^ d := by
    rw [adL_sm]
    split
    · omega
    · exact rrL_le hx _ _ _ _
  obtain ⟨y1, y2⟩ := ydL_eq hT hp
  intro k
  induction k with
  | zero =>
    intro r n hr hn
    obtain ⟨n, rfl, -⟩ := fu_get hn
    have : r = 2 ^ d := by omega
    subst this
    generalize smN (adL T p q x d t) (2 ^ d) = a at *
    have hg : 0 < Nat.gcd a (10 ^ d) := Nat.gcd_pos_of_pos_right _ (by omega)
    have hg2 : Nat.gcd a (10 ^ d) ≤ 10 ^ d := Nat.gcd_le_right _ (by omega)
    have ec : F_X7_common (lN a) (lN (10 ^ d)) = some (lN (Nat.gcd a (10 ^ d))) := r_gcd 24 a (10 ^ d) FU (by omega) (by omega) (by omega) (FU_gt (by omega))
    have ne : ¬ lN (Nat.gcd a (10 ^ d)) = 0 := fun e => by
      have := (lN_eq (a := Nat.gcd a (10 ^ d)) (b := 0) (by omega) (by omega)).mp e
      omega
    simp only [F_X7_likely_94]
    unfold F_X7_likely_259 lkV
    rw [bit_nI d (by omega), if_pos (nI_le (Nat.le_refl _) (by omega)), ec, Option.bind_some, if_neg ne, pk_lDiv (by omega) hg (by omega), pk_lDiv (by omega) hg (by omega), lN_i, lN_i]
    by_cases e : z = 0
    · rw [if_pos e, if_pos e]
    · rw [if_neg e, if_neg e, if_neg ne]
  | succ k ih =>
    intro r n hr hn
    obtain ⟨n, rfl, hn⟩ := fu_get hn
    simp only [F_X7_likely_94]
    rw [bit_nI d (by omega), if_neg (nI_ge (by omega) (by omega)), h.r6, Option.bind_some, h.y hp, Option.bind_some, y1]
    refine (r_116 h hT hp hq hx hd ht (r := r) (by omega) (F_X7_likely_94 M n) z (smN (adL T p q x d t) r) (lN (10 ^ d)) d 0 FU (by omega) (FU_gt (by omega))).trans ?_
    exact ih (r + 1) n (by omega) (by omega)
theorem r_71 {M : Mem} {T : Tn} (h : RA M T) (hT : TOk T) {p q x d t : Nat} (hp : p < tN T) (hq : q < tN T) (hx : x ≤ 10) (hd : d ≤ 7) (ht : t < 12) (z : Int32) : ∀ (k i n : Nat), i + k = d → k < n → F_X7_likely_71 M n 100 (nI p) (nI q) (nI d) (nI x) z (nI t) (lN 0) (lN (10 ^ i)) (nI i) = some (lkV (smN (adL T p q x d t) (2 ^ d)) (10 ^ d) z) := by
  intro k
  induction k with
  | zero =>
    intro i n hi hn
    obtain ⟨n, rfl, -⟩ := fu_get hn
    have : i = d := by omega
    subst this
    have h2 : 2 ^ i ≤ 128 := Nat.pow_le_pow_right (n := 2) (by omega) hd
    simp only [F_X7_likely_71]
    rw [if_pos (nI_le (Nat.le_refl _) (by omega))]
    exact r_94 h hT hp hq hx hd ht z (2 ^ i) 0 FU (by omega) (FU_gt (by omega))
  | succ k ih =>
    intro i n hi hn
    obtain ⟨n, rfl, hn⟩ := fu_get hn
    simp only [F_X7_likely_71]
    rw [if_neg (nI_ge (by omega) (by omega)), show (10 : Int64) = lN 10 from rfl, lN_mul, ← Nat.pow_succ, nI_1]
    exact ih (i + 1) n (by omega) (by omega)
theorem q_likely {G : Sg} (hG : GOk G) (x y n w z : Int32) : QC (F_X6_likely 5 x y n w z) (F_X7_likely 100 x y n w z) G := by
  by_cases hx : IsPr (gT G) x y
  · by_cases hn : InR 0 7 n
    · by_cases hw : InR 0 10 w
      · by_cases hz : InR 0 1 z
        · obtain ⟨⟨p, hp, rfl⟩, ⟨q, hq, rfl⟩, hne⟩ := id hx
          obtain ⟨d, -, hd, rfl⟩ := id hn
          obtain ⟨v, -, hv, rfl⟩ := id hw
          obtain ⟨-, -, ⟨b, hb, eb⟩, s, hs, es⟩ := hG.2.2.1.2.2 q hq
          obtain ⟨t, ht, et⟩ := yB_ok (gT G) (tK (gT G) q) hs hb eb d
          rw [← es] at et
          refine ⟨lkV (smN (adL (gT G) p q v d t) (2 ^ d)) (10 ^ d) z, fun M h => ?_, fun M h => ?_⟩
          · rw [adL_sm]
            unfold F_X6_likely
            rw [h.1.c, Option.bind_some, h.noPr_t hG hx, Option.bind_some, if_pos rfl, out_t 0 7 0 7 hn, Option.bind_some, if_pos rfl, out_t 0 10 0 10 hw, Option.bind_some, if_pos rfl, out_t 0 1 0 1 hz, Option.bind_some, if_pos rfl, h.r1, Option.bind_some, h.ta.ck, Option.bind_some, town_share h.ta hp hq, Option.bind_some]
            rcases shW_01 (gT G) p q with e | e
            · rw [if_pos e, if_pos e, z0, c_106 hd (Nat.zero_le _)]
              exact C_.same h
            · have e' : ¬ shW (gT G) p q = 0 := by rw [e]; decide
              obtain ⟨M1, A, B, g1, g2, g3, g4, g5⟩ := c_fol hG hp hv hd h
              refine ⟨M1, ?_, g4, g5⟩
              rw [if_neg e', if_neg e', h.1.f (f := 8) rfl, Option.bind_some, Option.bind_some, chkT_of (h.1.s 19 (a := 96) rfl), Option.bind_some, g1, Option.bind_some, g4.1.f (f := 8) rfl, Option.bind_some, g4.r1, Option.bind_some, Option.bind_some, g4.ta.ck, Option.bind_some, town_kindOf g4.ta hq, Option.bind_some, Option.bind_some, g4.ta.ck, Option.bind_some, town_paceOf g4.ta hq, Option.bind_some, Option.bind_some, town_yardBehind g4.ta (by omega) hq, Option.bind_some, chkT_of g2.2.1, Option.bind_some]
              unfold F_X0_weightAt
              rw [fR_of g2.2.1, Option.bind_some, g2.2.2.1, et, ldI_nI g2.2.2.2.2.1 ht (by omega), Option.bind_some, g3 t ht, Option.bind_some]
              exact c_106 hd (rrL_le hv _ _ _ _) z M1
          · unfold F_X7_likely
            rw [h.1.ck, Option.bind_some, h.isP_t hG hx.1, Option.bind_some, if_neg d10, Option.bind_some, h.isP_t hG hx.2.1, Option.bind_some, if_neg d10, if_neg hne, in_t 0 7 0 7 hn, Option.bind_some, if_neg d10, in_t 0 10 0 10 hw, Option.bind_some, if_neg d10, in_t 0 1 0 1 hz, Option.bind_some, if_neg d10, Option.bind_some, ref_yardBehind h.1 (by omega) hq, Option.bind_some, et]
            exact r_71 h.1 hG.2.2.1 hp hq hv hd ht z d 0 FU (by omega) (FU_gt (by omega))
        · refine ⟨-1, fun M h => ?_, fun M h => ?_⟩
          · unfold F_X6_likely
            rw [h.1.c, Option.bind_some, h.noPr_t hG hx, Option.bind_some, if_pos rfl, out_t 0 7 0 7 hn, Option.bind_some, if_pos rfl, out_t 0 10 0 10 hw, Option.bind_some, if_pos rfl, out_f 0 1 0 1 hz, Option.bind_some, if_neg d10]
            exact C_.same h
          · unfold F_X7_likely
            rw [h.1.ck, Option.bind_some, h.isP_t hG hx.1, Option.bind_some, if_neg d10, Option.bind_some, h.isP_t hG hx.2.1, Option.bind_some, if_neg d10, if_neg hx.2.2, in_t 0 7 0 7 hn, Option.bind_some, if_neg d10, in_t 0 10 0 10 hw, Option.bind_some, if_neg d10, in_f 0 1 0 1 hz, Option.bind_some, if_pos rfl]
      · refine ⟨-1, fun M h => ?_, fun M h => ?_⟩
        · unfold F_X6_likely
          rw [h.1.c, Option.bind_some, h.noPr_t hG hx, Option.bind_some, if_pos rfl, out_t 0 7 0 7 hn, Option.bind_some, if_pos rfl, out_f 0 10 0 10 hw, Option.bind_some, if_neg d10]
          exact C_.same h
        · unfold F_X7_likely
          rw [h.1.ck, Option.bind_some, h.isP_t hG hx.1, Option.bind_some, if_neg d10, Option.bind_some, h.isP_t hG hx.2.1, Option.bind_some, if_neg d10, if_neg hx.2.2, in_t 0 7 0 7 hn, Option.bind_some, if_neg d10, in_f 0 10 0 10 hw, Option.bind_some, if_pos rfl]
    · refine ⟨-1, fun M h => ?_, fun M h => ?_⟩
      · unfold F_X6_likely
        rw [h.1.c, Option.bind_some, h.noPr_t hG hx, Option.bind_some, if_pos rfl, out_f 0 7 0 7 hn, Option.bind_some, if_neg d10]
        exact C_.same h
      · unfold F_X7_likely
        rw [h.1.ck, Option.bind_some, h.isP_t hG hx.1, Option.bind_some, if_neg d10, Option.bind_some, h.isP_t hG hx.2.1, Option.bind_some, if_neg d10, if_neg hx.2.2, in_f 0 7 0 7 hn, Option.bind_some, if_pos rfl]
  · refine ⟨-1, fun M h => ?_, fun M h => ?_⟩
    · unfold F_X6_likely
      rw [h.1.c, Option.bind_some, h.noPr_f hG hx, Option.bind_some, if_neg d10]
      exact C_.same h
    · unfold F_X7_likely
      rw [h.1.ck, Option.bind_some]
      rcases ref_pair_f h hG hx with e | ⟨e, f⟩ | ⟨e, f, rfl⟩
      · rw [e, Option.bind_some, if_pos rfl]
      · rw [e, Option.bind_some, if_neg d10, Option.bind_some, f, Option.bind_some, if_pos rfl]
      · rw [e, Option.bind_some, if_neg d10, Option.bind_some, Option.bind_some, if_neg d10, if_pos rfl]
