/-! SEASON -/
theorem toInt_div {a b : Nat} (ha : a < 2 ^ 31) (h0 : 0 < b) (hb : b < 2 ^ 31) : nI a / nI b = nI (a / b) := by
  apply Int32.toInt_inj.mp
  have hlt : a / b < 2 ^ 31 := Nat.lt_of_le_of_lt (Nat.div_le_self a b) ha
  rw [Int32.toInt_div_of_ne_left _ _ (fun e => by
    have h2 := nI_toInt ha
    rw [e] at h2
    have : (Int32.minValue).toInt = -2147483648 := by decide
    omega), nI_toInt ha, nI_toInt hb, nI_toInt hlt]
  rfl
theorem jrem_nI {a b : Nat} (ha : a < 2 ^ 31) (h0 : 0 < b) (hb : b < 2 ^ 31) : jrem (nI a) (nI b) = nI (a % b) := by
  unfold jrem
  rw [toInt_div ha h0 hb, show nI (a / b) * nI b = nI (a / b * b) from (Int32.ofNat_mul (a / b) b).symm]
  have h : a = a / b * b + a % b := by rw [Nat.mul_comm]; exact (Nat.div_add_mod a b).symm
  conv => lhs; lhs; rw [h]
  rw [← nI_add, Int32.add_comm]
  exact Int32.add_sub_cancel _ _
def drN (x i : Nat) : Nat := ((7919 * x + 6151 * i + 1) * (7919 * x + 6151 * i + 1)) % 65521 / 2
theorem drN_lt (x i : Nat) : drN x i < 32761 := by
  unfold drN
  have := Nat.mod_lt ((7919 * x + 6151 * i + 1) * (7919 * x + 6151 * i + 1)) (show 0 < 65521 by omega)
  omega
theorem draw_eq {x i : Nat} (hx : x ≤ 9999) (hi : i ≤ 60) : Int64.toInt32 ((jremL (((((7919 : Int64) * (Int32.toInt64 (nI x))) + ((6151 : Int64) * (Int32.toInt64 (nI i)))) + (1 : Int64)) * ((((7919 : Int64) * (Int32.toInt64 (nI x))) + ((6151 : Int64) * (Int32.toInt64 (nI i)))) + (1 : Int64))) (65521 : Int64)) / (2 : Int64)) = nI (drN x i) := by
  have hA : 7919 * x + 6151 * i + 1 ≤ 80000000 := by omega
  have hAA : (7919 * x + 6151 * i + 1) * (7919 * x + 6151 * i + 1) ≤ 80000000 * 80000000 := Nat.mul_le_mul hA hA
  have hm := Nat.mod_lt ((7919 * x + 6151 * i + 1) * (7919 * x + 6151 * i + 1)) (show 0 < 65521 by omega)
  unfold jremL
  rw [nI_l (by omega), nI_l (by omega), show (7919 : Int64) = lN 7919 from rfl, show (6151 : Int64) = lN 6151 from rfl, show (65521 : Int64) = lN 65521 from rfl, show (2 : Int64) = lN 2 from rfl, lN_mul, lN_mul, lN_add, lN_1, lN_mul, pk_lRem (by omega) (by omega) (by omega), pk_lDiv (by omega) (by omega) (by omega), lN_i]
  rfl
def stT (T : Tn) (m : Nat) : Tn := if m / 8 % 6 = 0 then hangT T (m % tN T) (nI (m / 64 % 6)) (nI (m / 512 % 9 + 1)) else if m / 8 % 6 = 1 then hangT T (m % tN T) (-4) (-4) else if m / 8 % 6 = 2 then paceT T (m % tN T) (nI (m / 64 % 12)) else T
theorem stT_o (T : Tn) (m : Nat) : tN (stT T m) = tN T ∧ tK (stT T m) = tK T ∧ tMt (stT T m) = tMt T := by
  unfold stT
  repeat' split
  all_goals exact ⟨rfl, rfl, rfl⟩
theorem nI_isN {a b : Nat} {B : Int32} (hB : B = nI b) (ha : a < 2 ^ 31) (hb : b < 2 ^ 31) : nI a = B ↔ a = b := by rw [hB]; exact nI_eq ha hb
theorem dv (m : Nat) (h : m < 32761) : jrem (nI m / 8) 6 = nI (m / 8 % 6) ∧ jrem (nI m / 64) 6 = nI (m / 64 % 6) ∧ jrem (nI m / 512) 9 + 1 = nI (m / 512 % 9 + 1) ∧ jrem (nI m / 64) 12 = nI (m / 64 % 12) := by
  rw [show (8 : Int32) = nI 8 from rfl, show (6 : Int32) = nI 6 from rfl, show (64 : Int32) = nI 64 from rfl, show (512 : Int32) = nI 512 from rfl, show (9 : Int32) = nI 9 from rfl, show (12 : Int32) = nI 12 from rfl]
  rw [toInt_div (by omega) (by omega) (by omega), toInt_div (by omega) (by omega) (by omega), toInt_div (by omega) (by omega) (by omega), jrem_nI (by omega) (by omega) (by omega), jrem_nI (by omega) (by omega) (by omega), jrem_nI (by omega) (by omega) (by omega), jrem_nI (by omega) (by omega) (by omega), nI_1]
  exact ⟨rfl, rfl, rfl, rfl⟩
theorem town_stir {M : Mem} {o : Nat} {T : Tn} (h : TA M o T) (h1 : 1 ≤ tN T) {m : Nat} (hm : m < 32761) : ∃ M', F_X5_stir o (nI m) M = some M' ∧ Fr (oT o) M M' ∧ TA M' o (stT T m) := by
  have h7 := h.2.1
  obtain ⟨d1, d2, d3, d4⟩ := dv m hm
  have hp : m % tN T < tN T := Nat.mod_lt _ (by omega)
  have hl : m / 8 % 6 < 6 := Nat.mod_lt _ (by omega)
  unfold F_X5_stir stT
  rw [h.sz, Option.bind_some, if_pos (show (1 : Int32) ≤ nI (tN T) from nI_le (a := 1) h1 (by omega)), Option.bind_some, if_neg (nI_ne0 (by omega) (by omega)), d1, d2, d3, d4, jrem_nI (by omega) (by omega) (by omega)]
  have q0 := nI_isN (a := m / 8 % 6) (b := 0) (B := 0) rfl (by omega) (by omega)
  have q1 := nI_isN (a := m / 8 % 6) (b := 1) (B := 1) rfl (by omega) (by omega)
  have q2 := nI_isN (a := m / 8 % 6) (b := 2) (B := 2) rfl (by omega) (by omega)
  by_cases e0 : m / 8 % 6 = 0
  · obtain ⟨M', g1, g2, g3⟩ := town_hang h hp (nI (m / 64 % 6)) (nI (m / 512 % 9 + 1))
    rw [if_pos (q0.mpr e0), if_pos e0, h.ck, Option.bind_some, g1]
    exact ⟨M', rfl, g2, g3⟩
  · rw [if_neg (fun z => e0 (q0.mp z)), if_neg e0]
    by_cases e1 : m / 8 % 6 = 1
    · obtain ⟨M', g1, g2, g3⟩ := town_hang h hp (-4) (-4)
      rw [if_pos (q1.mpr e1), if_pos e1, h.ck, Option.bind_some, g1]
      exact ⟨M', rfl, g2, g3⟩
    · rw [if_neg (fun z => e1 (q1.mp z)), if_neg e1]
      by_cases e2 : m / 8 % 6 = 2
      · obtain ⟨M', g1, g2, g3⟩ := town_setPace h hp (nI (m / 64 % 12))
        rw [if_pos (q2.mpr e2), if_pos e2, h.ck, Option.bind_some, g1]
        exact ⟨M', rfl, g2, g3⟩
      · rw [if_neg (fun z => e2 (q2.mp z)), if_neg e2]
        exact ⟨M, rfl, Fr.rf, h⟩
/-- one day of a season -/
def sdT (T : Tn) (m : Nat) : Tn := tSetMt (rdT (stT T m)) (tMt T + prs (rdT (stT T m)) 2)
def sea (x : Nat) : Nat → Nat → Tn → Int32 → Tn × Int32
  | 0, _, T, c => (T, c)
  | k + 1, i, T, c => sea x k (i + 1) (sdT T (drN x i)) (c + prs (rdT (stT T (drN x i))) 2)
theorem sea_o (x : Nat) : ∀ (k i : Nat) (T : Tn) (c : Int32), tN (sea x k i T c).1 = tN T ∧ tK (sea x k i T c).1 = tK T
  | 0, _, _, _ => ⟨rfl, rfl⟩
  | k + 1, i, T, c => by
    have h1 := sea_o x k (i + 1) (sdT T (drN x i)) (c + prs (rdT (stT T (drN x i))) 2)
    have h2 := stT_o T (drN x i)
    exact ⟨h1.1.trans h2.1, h1.2.trans h2.2.1⟩
theorem sea_mt (x : Nat) (m0 : Int32) : ∀ (k i : Nat) (T : Tn) (c : Int32), tMt T = m0 + c → tMt (sea x k i T c).1 = m0 + (sea x k i T c).2
  | 0, _, _, _, h => h
  | k + 1, i, T, c, h => sea_mt x m0 k (i + 1) (sdT T (drN x i)) _ (by
    show tMt T + _ = m0 + (c + _)
    rw [h, Int32.add_assoc])
/-- what is asked of it -/
def seaA (T : Tn) (c z : Int32) : Int32 := if z = 0 then c else if z = 1 then abN T else itr (fun p c => c + tY T p) (tN T) 0 0
theorem c_season {G : Sg} {x n : Nat} (hx : x ≤ 9999) (hn : n ≤ 60) (z : Int32) : ∀ (k i f : Nat) (T : Tn) (c : Int32) (M : Mem), i + k = n → k < f → CI M G → TA M 15 T → 1 ≤ tN T → C_ (seaA (sea x k i T c).1 (sea x k i T c).2 z) G (F_X6_season_49 f 5 (nI x) (nI n) z c (nI i) M) M := by
  intro k
  induction k with
  | zero =>
    intro i f T c M hi hf h ht h1
    obtain ⟨f, rfl, -⟩ := fu_get hf
    simp only [F_X6_season_49]
    unfold seaA sea
    rw [if_pos (nI_le (by omega) (by omega)), h.1.f (f := 2) rfl]
    simp only [Option.bind_some]
    rw [ht.ck]
    simp only [Option.bind_some]
    rw [town_goersN ht, town_yardsAdded ht]
    simp only [Option.bind_some]
    by_cases e : z = 0
    · rw [if_pos e, if_pos e]; exact C_.same h
    · rw [if_neg e, if_neg e]
      by_cases e2 : z = 1
      · rw [if_pos e2, if_pos e2]; exact C_.same h
      · rw [if_neg e2, if_neg e2]; exact C_.same h
  | succ k ih =>
    intro i f T c M hi hf h ht h1
    obtain ⟨f, rfl, hf⟩ := fu_get hf
    obtain ⟨M1, a1, a2, a3⟩ := town_stir ht h1 (drN_lt x i)
    have h2 := h.mk0 a2 (fun a ha => oS15 ha)
    obtain ⟨M2, b1, b2, b3⟩ := town_days (n := 1) a3 (by omega)
    have h3 := h2.mk0 b2 (fun a ha => oS15 ha)
    have b3' : TA M2 15 (sdT T (drN x i)) := by
      have e : tSetMt (gon 1 (stT T (drN x i)) 0).2 (tMt (stT T (drN x i)) + (gon 1 (stT T (drN x i)) 0).1) = sdT T (drN x i) := by
        show tSetMt (rdT (stT T (drN x i))) (tMt (stT T (drN x i)) + (0 + prs (rdT (stT T (drN x i))) 2)) = _
        rw [Int32.zero_add, (stT_o T (drN x i)).2.2]
        rfl
      rw [e] at b3
      exact b3
    obtain ⟨M3, g1, g2, g3⟩ := ih (i + 1) f (sdT T (drN x i)) (c + prs (rdT (stT T (drN x i))) 2) M2 (by omega) (by omega) h3 b3' (by rw [show tN (sdT T (drN x i)) = tN T from (stT_o T (drN x i)).1]; exact h1)
    refine ⟨M3, ?_, g2, ((a2.mono (fun a ha => oSC (oS15 ha))).tr (b2.mono (fun a ha => oSC (oS15 ha)))).tr g3⟩
    have e1 : F_X6_draw (nI x) (nI i) = some (nI (drN x i)) := by
      unfold F_X6_draw
      rw [draw_eq hx (by omega)]
    simp only [F_X6_season_49]
    rw [if_neg (nI_ge (by omega) (by omega)), h.1.f (f := 2) rfl, Option.bind_some, e1, Option.bind_some, ht.ck, Option.bind_some, a1, Option.bind_some, h2.1.f (f := 2) rfl, Option.bind_some, a3.ck, Option.bind_some, show (1 : Int32) = nI 1 from rfl, b1, Option.bind_some, nI_add]
    show F_X6_season_49 f 5 (nI x) (nI n) z (c + (0 + prs (rdT (stT T (drN x i))) 2)) (nI (i + 1)) M2 = _
    rw [Int32.zero_add]
    exact g1
theorem ref_stir {M : Mem} {G : Sg} {T : Tn} (h : RI M (gST G T)) {x i : Nat} (hx : x ≤ 9999) (hi : i ≤ 60) (h1 : 1 ≤ tN T) (r45 : Nat → Int32 → Int32 → Int32 → Int32 → Int32 → Mem → Option (Int32 × Mem)) (N z m0 : Int32) :
    ∃ M', RI M' (gST G (sdT T (drN x i))) ∧ Fr (fun a => 100 ≤ a ∧ a ≤ 105) M M' ∧ ((fI M 7 100 0).bind fun v16 =>
  (if v16 = 0 then none else
  (if (jrem (nI (drN x i) / (8 : Int32)) (6 : Int32)) = 0 then
  (chkT M 7 100).bind fun v26 =>
  (F_X7_weaves 100 (jrem (nI (drN x i)) v16) (jrem (nI (drN x i) / (64 : Int32)) (6 : Int32)) ((jrem (nI (drN x i) / (512 : Int32)) (9 : Int32)) + (1 : Int32)) M).bind fun v25 =>
  (F_X7_season_177 r45 100 (nI x) N z m0 (nI i) v25)
  else
  (if (jrem (nI (drN x i) / (8 : Int32)) (6 : Int32)) = (1 : Int32) then
  (chkT M 7 100).bind fun v24 =>
  (F_X7_weaves 100 (jrem (nI (drN x i)) v16) (-4 : Int32) (-4 : Int32) M).bind fun v23 =>
  (F_X7_season_177 r45 100 (nI x) N z m0 (nI i) v23)
  else
  (if (jrem (nI (drN x i) / (8 : Int32)) (6 : Int32)) = (2 : Int32) then
  (fR M 7 100 7).bind fun v21 =>
  (stI M v21 (jrem (nI (drN x i)) v16) (jrem (nI (drN x i) / (64 : Int32)) (12 : Int32))).bind fun m22 =>
  (F_X7_season_177 r45 100 (nI x) N z m0 (nI i) m22)
  else
  (F_X7_season_177 r45 100 (nI x) N z m0 (nI i) M)))))) = r45 100 (nI x) N z m0 (nI (i + 1)) M' := by
  have h7 : tN T ≤ 7 := h.1.2.1
  have hm := drN_lt x i
  generalize drN x i = m at hm ⊢
  obtain ⟨d1, d2, d3, d4⟩ := dv m hm
  have hp : m % tN T < tN T := Nat.mod_lt _ (by omega)
  have hl : m / 8 % 6 < 6 := Nat.mod_lt _ (by omega)
  have q0 := nI_isN (a := m / 8 % 6) (b := 0) (B := 0) rfl (by omega) (by omega)
  have q1 := nI_isN (a := m / 8 % 6) (b := 1) (B := 1) rfl (by omega) (by omega)
  have q2 := nI_isN (a := m / 8 % 6) (b := 2) (B := 2) rfl (by omega) (by omega)
  -- the day itself
  have day : ∀ (M1 : Mem), RI M1 (gST G (stT T m)) → Fr (fun a => 100 ≤ a ∧ a ≤ 105) M M1 → ∃ M', RI M' (gST G (sdT T m)) ∧ Fr (fun a => 100 ≤ a ∧ a ≤ 105) M M' ∧ F_X7_season_177 r45 100 (nI x) N z m0 (nI i) M1 = r45 100 (nI x) N z m0 (nI (i + 1)) M' := by
    intro M1 k1 f1
    obtain ⟨M2, g1, g2, g3, g4, g5⟩ := ref_passes k1.1
    have g5' : RA M2 (sdT T m) := by
      have e : tSetMt (rdT (stT T m)) (tMt (stT T m) + prs (rdT (stT T m)) 2) = sdT T m := by
        rw [(stT_o T m).2.2]
        rfl
      rw [← e]
      exact g5
    obtain ⟨k2, -⟩ := k1.tn2 g2 (fun a ha => by unfold oP at ha; omega) g3 g5'
    refine ⟨M2, k2, f1.tr (g2.mono (fun a ha => by unfold oP at ha; omega)), ?_⟩
    unfold F_X7_season_177
    rw [k1.1.ck, Option.bind_some, g1, Option.bind_some, nI_1]
  have hn : fI M 7 100 0 = some (nI (tN T)) := h.1.n
  rw [hn, Option.bind_some, if_neg (nI_ne0 (by omega) (by omega)), d1, d2, d3, d4, jrem_nI (by omega) (by omega) (by omega)]
  by_cases e0 : m / 8 % 6 = 0
  · obtain ⟨M1, g1, g2, g3, g4⟩ := ref_weaves (T := T) (p := m % tN T) h.1 hp (nI (m / 64 % 6)) (nI (m / 512 % 9 + 1))
    rw [if_pos (q0.mpr e0), h.1.ck, Option.bind_some, g1, Option.bind_some]
    have e : stT T m = hangT T (m % tN T) (nI (m / 64 % 6)) (nI (m / 512 % 9 + 1)) := by unfold stT; rw [if_pos e0]
    rw [← e] at g4
    exact day M1 (h.tn g2 (fun a ha => ha) (fun f _ _ => by rw [g3]) g4).1 (g2.mono (fun a ha => by unfold oK at ha; omega))
  · rw [if_neg (fun z => e0 (q0.mp z))]
    by_cases e1 : m / 8 % 6 = 1
    · obtain ⟨M1, g1, g2, g3, g4⟩ := ref_weaves (T := T) (p := m % tN T) h.1 hp (-4) (-4)
      rw [if_pos (q1.mpr e1), h.1.ck, Option.bind_some, g1, Option.bind_some]
      have e : stT T m = hangT T (m % tN T) (-4) (-4) := by unfold stT; rw [if_neg e0, if_pos e1]
      rw [← e] at g4
      exact day M1 (h.tn g2 (fun a ha => ha) (fun f _ _ => by rw [g3]) g4).1 (g2.mono (fun a ha => by unfold oK at ha; omega))
    · rw [if_neg (fun z => e1 (q1.mp z))]
      by_cases e2 : m / 8 % 6 = 2
      · obtain ⟨g1, g4⟩ := ref_setPace (T := T) (p := m % tN T) h.1 hp (nI (m / 64 % 12))
        rw [if_pos (q2.mpr e2), h.1.r7, Option.bind_some, g1, Option.bind_some]
        have e : stT T m = paceT T (m % tN T) (nI (m / 64 % 12)) := by unfold stT; rw [if_neg e0, if_neg e1, if_pos e2]
        rw [← e] at g4
        have hf : Fr oK M (uI M 105 (m % tN T) (nI (m / 64 % 12))) := Fr.uI (Or.inr ⟨by omega, by omega⟩)
        exact day _ (h.tn hf (fun a ha => ha) (fun f _ _ => by rw [uI_a _ _ _ _ _ (by omega)]) g4).1 (hf.mono (fun a ha => by unfold oK at ha; omega))
      · rw [if_neg (fun z => e2 (q2.mp z))]
        have e : stT T m = T := by unfold stT; rw [if_neg e0, if_neg e1, if_neg e2]
        exact day M (by rw [e]; exact h) Fr.rf
theorem r_seasEnd {G : Sg} {T : Tn} (z m0 : Int32) : ∀ (k p f : Nat) (a b : Int32) (M : Mem), p + k = tN T → k < f → RI M (gST G T) → NA M 114 0 (gT G) → sameK T (gT G) → R_ (if z = 0 then tMt T - m0 else if z = 1 then itr (fun p c => c + (if tD T p = -4 then 0 else 1)) k p b else itr (fun p c => c + tY T p) k p a) G (F_X7_season_196 f 100 z m0 a b (nI p) M) M := by
  intro k
  induction k with
  | zero =>
    intro p f a b M hp hf h hN hk
    obtain ⟨f, rfl, -⟩ := fu_get hf
    have h7 : tN T ≤ 7 := h.1.2.1
    obtain ⟨M', g1, g2, g3⟩ := r_putBack h hN hk
    have hn : fI M 7 100 0 = some (nI (tN T)) := h.1.n
    have hmt : fI M 7 100 3 = some (tMt T) := h.1.mt
    have e : ∀ s0, F_X7_season_271 100 s0 M = some (s0, M') := by
      intro s0
      unfold F_X7_season_271
      rw [h.1.ck, Option.bind_some, g1, Option.bind_some]
    refine ⟨M', ?_, g2, g3⟩
    simp only [F_X7_season_196]
    rw [hn, Option.bind_some, if_pos (nI_le (by omega) (by omega)), hmt, Option.bind_some, e, e, e]
    by_cases e1 : z = 0
    · rw [if_pos e1, if_pos e1]
    · rw [if_neg e1, if_neg e1]
      by_cases e2 : z = 1
      · rw [if_pos e2, if_pos e2]; rfl
      · rw [if_neg e2, if_neg e2]; rfl
  | succ k ih =>
    intro p f a b M hp hf h hN hk
    obtain ⟨f, rfl, hf⟩ := fu_get hf
    have h7 : tN T ≤ 7 := h.1.2.1
    have hn : fI M 7 100 0 = some (nI (tN T)) := h.1.n
    have hy : ldI M 104 (nI p) = some (tY T p) := h.1.y (show p < tN T by omega)
    have hd : ldI M 102 (nI p) = some (tD T p) := h.1.d (show p < tN T by omega)
    obtain ⟨M', g1, g2⟩ := ih (p + 1) f (a + tY T p) (b + (if tD T p = -4 then 0 else 1)) M (by omega) (by omega) h hN hk
    refine ⟨M', ?_, g2⟩
    simp only [F_X7_season_196]
    unfold F_X7_season_236
    rw [hn, Option.bind_some, if_neg (nI_ge (by omega) (by omega)), h.1.r6, Option.bind_some, hy, Option.bind_some, h.1.r4, Option.bind_some, hd, Option.bind_some, nI_1]
    refine Eq.trans ?_ g1
    by_cases e : tD T p = -4
    · rw [if_pos e, if_pos e]
    · rw [if_neg e, if_neg e]
theorem r_season {G : Sg} {x n : Nat} (hx : x ≤ 9999) (hn : n ≤ 60) (z : Int32) : ∀ (k i f : Nat) (T : Tn) (c : Int32) (M : Mem), i + k = n → k < f → RI M (gST G T) → NA M 114 0 (gT G) → sameK T (gT G) → tMt T = tMt (gT G) + c → 1 ≤ tN T → R_ (seaA (sea x k i T c).1 (sea x k i T c).2 z) G (F_X7_season_45 f 100 (nI x) (nI n) z (tMt (gT G)) (nI i) M) M := by
  intro k
  induction k with
  | zero =>
    intro i f T c M hi hf h hN hk hmt h1
    obtain ⟨f, rfl, -⟩ := fu_get hf
    have h7 : tN T ≤ 7 := h.1.2.1
    obtain ⟨M', g1, g2⟩ := r_seasEnd z (tMt (gT G)) (tN T) 0 FU 0 0 M (by omega) (FU_gt (by omega)) h hN hk
    refine ⟨M', ?_, g2⟩
    simp only [F_X7_season_45]
    rw [if_pos (nI_le (by omega) (by omega))]
    refine g1.trans ?_
    rw [hmt, sub_add1, itr_sm, Int32.zero_add]
    unfold seaA sea abN
    simp only [Nat.zero_add]
  | succ k ih =>
    intro i f T c M hi hf h hN hk hmt h1
    obtain ⟨f, rfl, hf⟩ := fu_get hf
    obtain ⟨M1, a1, a2, a3⟩ := ref_stir (N := nI n) (z := z) (m0 := tMt (gT G)) h hx (show i ≤ 60 by omega) h1 (F_X7_season_45 f)
    have ho := stT_o T (drN x i)
    have hs : sameK (sdT T (drN x i)) (gT G) := ⟨by rw [show tN (sdT T (drN x i)) = tN T from ho.1]; exact hk.1, fun j hj => by
      rw [show tK (sdT T (drN x i)) = tK T from ho.2.1]
      exact hk.2 j (by rw [show tN (sdT T (drN x i)) = tN T from ho.1] at hj; exact hj)⟩
    obtain ⟨M2, g1, g2, g3⟩ := ih (i + 1) f (sdT T (drN x i)) (c + prs (rdT (stT T (drN x i))) 2) M1 (by omega) (by omega) a1 (hN.fr a2 (by omega)) hs (by
      show tMt T + _ = _
      rw [hmt, Int32.add_assoc]) (by rw [show tN (sdT T (drN x i)) = tN T from ho.1]; exact h1)
    refine ⟨M2, ?_, g2, (a2.mono (S2 := oM) (fun a ha => by unfold oM; omega)).tr g3⟩
    simp only [F_X7_season_45]
    rw [if_neg (nI_ge (by omega) (by omega)), draw_eq hx (by omega)]
    exact a3.trans g1
theorem m_season {G : Sg} (hG : GOk G) (x y z : Int32) : QM (F_X6_season 5 x y z) (F_X7_season 100 x y z) G := by
  by_cases hx : InR 0 9999 x
  · by_cases hy : InR 1 60 y
    · by_cases hz : InR 0 2 z
      · obtain ⟨s, -, hs, rfl⟩ := id hx
        obtain ⟨n, hn1, hn2, rfl⟩ := id hy
        refine ⟨seaA (sea s n 0 (gT G) 0).1 (sea s n 0 (gT G) 0).2 z, G, hG, fun M h => ?_, fun M h => ?_⟩
        · obtain ⟨M1, e1, e2, e3, e4⟩ := c_trial h
          obtain ⟨M2, b1, b2, b3⟩ := c_season hs hn2 z n 0 FU (gT G) 0 M1 (by omega) (FU_gt (by omega)) e2 e4 hG.2.2.1.1
          refine ⟨M2, ?_, b2, e3.tr b3⟩
          unfold F_X6_season
          rw [out_t 0 9999 0 9999 hx, Option.bind_some, if_pos rfl, out_t 1 60 1 60 hy, Option.bind_some, if_pos rfl, out_t 0 2 0 2 hz, Option.bind_some, if_pos rfl, h.1.f (f := 2) rfl, Option.bind_some, h.r1, Option.bind_some, chkT_of (h.1.t 1 rfl).1, Option.bind_some, e1, Option.bind_some]
          exact b1
        · obtain ⟨M1, e1, e2, e3, e4⟩ := r_begin h
          obtain ⟨M2, b1, b2, b3⟩ := r_season (G := G) hs hn2 z n 0 FU (gT G) 0 M1 (by omega) (FU_gt (by omega)) e2 e4 (sameK.rf _) (Int32.add_zero _).symm hG.2.2.1.1
          refine ⟨M2, ?_, b2, (e3.mono (S2 := oM) (fun a ha => by unfold oM; omega)).tr b3⟩
          unfold F_X7_season
          rw [in_t 0 9999 0 9999 hx, Option.bind_some, if_neg d10, in_t 1 60 1 60 hy, Option.bind_some, if_neg d10, in_t 0 2 0 2 hz, Option.bind_some, if_neg d10, h.1.ck, Option.bind_some, e1, Option.bind_some, e2.1.mt, Option.bind_some]
          exact b1
      · refine ⟨-1, G, hG, fun M h => ⟨M, ?_, h, Fr.rf⟩, fun M h => ⟨M, ?_, h, Fr.rf⟩⟩
        · unfold F_X6_season
          rw [out_t 0 9999 0 9999 hx, Option.bind_some, if_pos rfl, out_t 1 60 1 60 hy, Option.bind_some, if_pos rfl, out_f 0 2 0 2 hz, Option.bind_some, if_neg d10]
        · unfold F_X7_season
          rw [in_t 0 9999 0 9999 hx, Option.bind_some, if_neg d10, in_t 1 60 1 60 hy, Option.bind_some, if_neg d10, in_f 0 2 0 2 hz, Option.bind_some, if_pos rfl]
    · refine ⟨-1, G, hG, fun M h => ⟨M, ?_, h, Fr.rf⟩, fun M h => ⟨M, ?_, h, Fr.rf⟩⟩
      · unfold F_X6_season
        rw [out_t 0 9999 0 9999 hx, Option.bind_some, if_pos rfl, out_f 1 60 1 60 hy, Option.bind_some, if_neg d10]
      · unfold F_X7_season
        rw [in_t 0 9999 0 9999 hx, Option.bind_some, if_neg d10, in_f 1 60 1 60 hy, Option.bind_some, if_pos rfl]
  · refine ⟨-1, G, hG, fun M h => ⟨M, ?_, h, Fr.rf⟩, fun M h => ⟨M, ?_, h, Fr.rf⟩⟩
    · unfold F_X6_season
      rw [out_f 0 9999 0 9999 hx, Option.bind_some, if_neg d10]
    · unfold F_X7_season
      rw [in_f 0 9999 0 9999 hx, Option.bind_some, if_pos rfl]
