/-! how many bits -/
def goV (b : Nat → Bool) (n : Nat) : Int32 := itr (fun p c => if b p = true then c ||| ((1 : Int32) <<< (nI p &&& 31)) else c) n 0 0
def vec7 (b0 b1 b2 b3 b4 b5 b6 : Bool) : Nat → Bool := fun p => match p with
  | 0 => b0
  | 1 => b1
  | 2 => b2
  | 3 => b3
  | 4 => b4
  | 5 => b5
  | _ => b6
def cnV (b : Nat → Bool) (n : Nat) : Int32 := sm (fun p => if b p = true then 1 else 0) n
theorem pop_all : ∀ b0 b1 b2 b3 b4 b5 b6 : Bool, ∀ n, n < 8 → F_J6_bitCount (goV (vec7 b0 b1 b2 b3 b4 b5 b6) n) = some (cnV (vec7 b0 b1 b2 b3 b4 b5 b6) n) ∧ F_X7_bits (goV (vec7 b0 b1 b2 b3 b4 b5 b6) n) = some (cnV (vec7 b0 b1 b2 b3 b4 b5 b6) n) := by decide +kernel
def abt (T : Tn) (d : Int32) : Int32 := sm (fun p => if tD T p = d then 1 else 0) (tN T)
theorem pop_go (T : Tn) (d : Int32) (h7 : tN T ≤ 7) : F_J6_bitCount (goB T d) = some (abt T d) ∧ F_X7_bits (goB T d) = some (abt T d) := by
  let b : Nat → Bool := fun p => decide (tD T p = d)
  have hb : ∀ p, p < 7 → vec7 (b 0) (b 1) (b 2) (b 3) (b 4) (b 5) (b 6) p = b p := by
    intro p hp
    match p, hp with
    | 0, _ => rfl
    | 1, _ => rfl
    | 2, _ => rfl
    | 3, _ => rfl
    | 4, _ => rfl
    | 5, _ => rfl
    | 6, _ => rfl
  have e1 : goB T d = goV (vec7 (b 0) (b 1) (b 2) (b 3) (b 4) (b 5) (b 6)) (tN T) := by
    unfold goB goV
    apply itr_congr
    intro j _ hj c
    rw [hb j (by omega)]
    show _ = if decide (tD T j = d) = true then _ else _
    by_cases h : tD T j = d <;> simp [h]
  have e2 : abt T d = cnV (vec7 (b 0) (b 1) (b 2) (b 3) (b 4) (b 5) (b 6)) (tN T) := by
    unfold abt cnV
    apply sm_congr
    intro j hj
    rw [hb j (by omega)]
    show _ = if decide (tD T j = d) = true then _ else _
    by_cases h : tD T j = d <;> simp [h]
  rw [e1, e2]
  exact pop_all _ _ _ _ _ _ _ _ (by omega)
def abN (T : Tn) : Int32 := sm (fun p => if tD T p = -4 then 0 else 1) (tN T)
theorem abN_eq (T : Tn) : nI (tN T) - abt T (-4) = abN T := by
  unfold abt abN
  have key : ∀ n, nI n = sm (fun p => if tD T p = -4 then 0 else 1) n + sm (fun p => if tD T p = -4 then 1 else 0) n := by
    intro n
    induction n with
    | zero => rfl
    | succ n ih =>
      rw [nI_succ, ih]
      show _ = (sm _ n + (if tD T n = -4 then 0 else 1)) + (sm _ n + (if tD T n = -4 then 1 else 0))
      split
      · rw [Int32.add_zero]; ac_rfl
      · rw [Int32.add_zero]; ac_rfl
  rw [key]
  exact Int32.add_sub_cancel _ _
theorem town_goersN {M : Mem} {o : Nat} {T : Tn} (h : TA M o T) : F_X5_goers o M = some (abN T) := by
  unfold F_X5_goers
  simp only [h.sz, Option.bind_some, h.ck, town_goers h, (pop_go T (-4) h.2.1).1]
  rw [abN_eq]
theorem ref_aboutMany {M : Mem} {T : Tn} (h : RA M T) : F_X7_aboutMany 100 M = some (abN T) := by
  have h7 := h.2.1
  have key : ∀ (k p n : Nat) (c : Int32), p + k = tN T → k < n → F_X7_aboutMany_4 M n 100 c (nI p) = some (itr (fun p c => c + (if tD T p = -4 then 0 else 1)) k p c) := by
    intro k
    induction k with
    | zero =>
      intro p n c hp hn
      obtain ⟨n, rfl, -⟩ := fu_get hn
      simp only [F_X7_aboutMany_4, h.n, Option.bind_some]
      rw [if_pos (nI_le (by omega) (by omega))]
      rfl
    | succ k ih =>
      intro p n c hp hn
      obtain ⟨n, rfl, hn⟩ := fu_get hn
      simp only [F_X7_aboutMany_4, h.n, Option.bind_some, h.r4, h.d (show p < tN T by omega), F_X7_aboutMany_29]
      rw [if_neg (nI_ge (by omega) (by omega)), nI_1, ih _ _ _ (by omega) (by omega), ih _ _ _ (by omega) (by omega)]
      show (if tD T p = -4 then _ else _) = some (itr _ k (p + 1) (c + if tD T p = -4 then 0 else 1))
      split <;> rfl
  refine Eq.trans (key (tN T) 0 FU 0 (by omega) (by unfold FU; omega)) (congrArg some ?_)
  rw [itr_sm, Int32.zero_add]
  apply sm_congr
  intro j _
  rw [Nat.zero_add]
theorem CPl.sz {M : Mem} {o b c n : Nat} {U : Nat → Tn} (h : CPl M o b c n U) {k : Nat} (hs : mS M o = (2, k)) : F_X2_size o M = some (nI n) := by
  unfold F_X2_size
  rw [fI_of hs, h.1]
  rfl
theorem CNt.sz {M : Mem} {o n : Nat} {w d y : Nat → Int32} (h : CNt M o n w d y) {k : Nat} (hs : mS M o = (1, k)) : F_X1_size o M = some (nI n) := by
  unfold F_X1_size
  rw [fI_of hs, h.1]
  rfl
theorem q_count {G : Sg} (hG : GOk G) (x : Int32) : QQ (F_X6_count 5 x) (F_X7_count 100 x) G := by
  by_cases hx : InR 0 10 x
  · refine ⟨if x = 0 then nI (tN (gT G)) else if x = 1 then tDy (gT G) else if x = 2 then abN (gT G) else if x = 3 then prs (gT G) 2 else if x = 4 then prs (gT G) 1 else if x = 5 then tMt (gT G) else if x = 6 then nI (gS G).1 else if x = 7 then nI (gD G).1 else if x = 8 then nI (gU G).1 else if x = 9 then nI (gK G).1 else nI (gX G).1, fun M h => ?_, fun M h => ?_⟩
    · obtain ⟨h1, h2, h3, h4, h5, h6, ⟨w, h7⟩, -⟩ := id h
      have e0 : F_X3_length 6 M = some (nI (gX G).1) := by unfold F_X3_length; rw [fI_of (h1.s 1 rfl), h2.1]; rfl
      unfold F_X6_count
      simp only [h.r1, h1.f (f := 0) rfl, h1.f (f := 3) rfl, h1.f (f := 4) rfl, h1.f (f := 5) rfl, h1.f (f := 6) rfl, Option.bind_some, h3.ck, town_size h3, town_day h3, town_goersN h3, town_pairs h3, town_meetings h3, chkT_of (h1.s 1 rfl), chkT_of (h1.s 4 rfl), chkT_of (h1.s 6 rfl), chkT_of (h1.s 8 rfl), chkT_of (h1.s 12 rfl), h4.sz (h1.s 4 rfl), h5.sz (h1.s 6 rfl), h6.sz (h1.s 8 rfl), h7.sz (h1.s 12 rfl), e0]
      obtain ⟨k, -, hk, rfl⟩ := hx
      have : k = 0 ∨ k = 1 ∨ k = 2 ∨ k = 3 ∨ k = 4 ∨ k = 5 ∨ k = 6 ∨ k = 7 ∨ k = 8 ∨ k = 9 ∨ k = 10 := by omega
      rcases this with rfl | rfl | rfl | rfl | rfl | rfl | rfl | rfl | rfl | rfl | rfl <;> rfl
    · obtain ⟨h1, h2, h3, h4, h5, h6⟩ := id h
      unfold F_X7_count
      simp only [in_t 0 10 0 10 hx, Option.bind_some, if_neg d10, h1.n, h1.dy, h1.mt, h1.ck, ref_aboutMany h1, ref_pairs h1 1 2 (Or.inl ⟨rfl, rfl⟩), ref_pairs h1 0 1 (Or.inr ⟨rfl, rfl⟩), h1.1.i 8, h1.1.i 12, h1.1.i 22, h1.1.i 29, h1.1.i 16, h2.1, h3.1, h4.1, h5.1, h6.1]
      repeat' split
      all_goals rfl
  · refine ⟨-1, fun M h => ?_, fun M h => ?_⟩
    · unfold F_X6_count
      have hn : ∀ k : Nat, k ≤ 10 → ¬ x = nI k := fun k hk e => hx ⟨k, Nat.zero_le _, hk, e⟩
      rw [if_neg (show ¬ x = 0 from hn 0 (by omega)), if_neg (show ¬ x = 1 from hn 1 (by omega)), if_neg (show ¬ x = 2 from hn 2 (by omega)), if_neg (show ¬ x = 3 from hn 3 (by omega)), if_neg (show ¬ x = 4 from hn 4 (by omega)), if_neg (show ¬ x = 5 from hn 5 (by omega)), if_neg (show ¬ x = 6 from hn 6 (by omega)), if_neg (show ¬ x = 7 from hn 7 (by omega)), if_neg (show ¬ x = 8 from hn 8 (by omega)), if_neg (show ¬ x = 9 from hn 9 (by omega)), if_neg (show ¬ x = 10 from hn 10 (by omega))]
    · unfold F_X7_count
      simp only [in_f 0 10 0 10 hx, Option.bind_some, if_true]
theorem q_behind {G : Sg} (hG : GOk G) (x y : Int32) : QQ (F_X6_behind 5 x y) (F_X7_behind 100 x y) G := by
  by_cases hx : InR 0 60 x
  · by_cases hp : IsP (gT G) y
    · obtain ⟨p, hpN, rfl⟩ := id hp
      obtain ⟨n, -, hn, rfl⟩ := id hx
      refine ⟨yB (gT G) n p (tK (gT G) p) (tP (gT G) p), fun M h => ?_, fun M h => ?_⟩
      · unfold F_X6_behind
        simp only [out_t 0 60 0 60 hx, Option.bind_some, if_true, h.c, h.noP_t hG hp, h.r1, h.ta.ck, town_kindOf h.ta hpN, town_paceOf h.ta hpN, town_yardBehind h.ta (show n ≤ 1000 by omega) hpN]
      · unfold F_X7_behind
        simp only [in_t 0 60 0 60 hx, Option.bind_some, if_neg d10, h.1.ck, h.isP_t hG hp, ref_yardBehind h.1 (show n ≤ 1000 by omega) hpN]
    · refine ⟨-1, fun M h => ?_, fun M h => ?_⟩
      · unfold F_X6_behind
        simp only [out_t 0 60 0 60 hx, Option.bind_some, if_true, h.c, h.noP_f hG hp, if_neg d10]
      · unfold F_X7_behind
        simp only [in_t 0 60 0 60 hx, Option.bind_some, if_neg d10, h.1.ck, h.isP_f hG hp, if_true]
  · refine ⟨-1, fun M h => ?_, fun M h => ?_⟩
    · unfold F_X6_behind
      simp only [out_f 0 60 0 60 hx, Option.bind_some, if_neg d10]
    · unfold F_X7_behind
      simp only [in_f 0 60 0 60 hx, Option.bind_some, if_true]
theorem z0 : (0 : Int32) = nI 0 := rfl
theorem FU_gt {k : Nat} (h : k ≤ 999999) : k < FU := Nat.lt_of_le_of_lt h (by decide)
