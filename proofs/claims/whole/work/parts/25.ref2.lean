def inI (x a b : Int32) : Int32 := if x < a then 0 else if b < x then 0 else 1
theorem ref_in (x a b : Int32) : F_X7_in x a b = some (inI x a b) := by
  unfold F_X7_in inI
  repeat' split
  all_goals rfl
theorem rN_in (x a b : Int32) : rN .boolean (inI x a b) = some (inI x a b) := by
  unfold inI
  repeat' split
  all_goals rfl
theorem btw_3 (T : Tn) (p q : Nat) : btw T p q = 0 ∨ (btw T p q = 1 ∧ ¬ tW T p = tW T q) ∨ (btw T p q = 2 ∧ tW T p = tW T q) := by
  unfold btw
  by_cases h0 : tD T p = -4
  · left; rw [if_pos h0]
  · rw [if_neg h0]
    by_cases h1 : tD T p = tD T q
    · rw [if_pos h1]
      by_cases h2 : tY T p = tY T q
      · rw [if_pos h2]
        by_cases h3 : tW T p = tW T q
        · rw [if_pos h3]; exact Or.inr (Or.inr ⟨rfl, h3⟩)
        · rw [if_neg h3]; exact Or.inr (Or.inl ⟨rfl, h3⟩)
      · left; rw [if_neg h2]
    · left; rw [if_neg h1]
/-- two that meet (1), or pass (0) -/
theorem ref_pairs {M : Mem} {T : Tn} (h : RA M T) (meet how : Int32) (hm : meet = 1 ∧ how = 2 ∨ meet = 0 ∧ how = 1) : F_X7_pairs 100 meet M = some (prs T how) := by
  have h7 := h.2.1
  have key1 : ∀ (r4 : Nat → Int32 → Int32 → Int32 → Option Int32) (p : Nat), p < tN T → ∀ (k q n : Nat) (c : Int32), q + k = p → k < n → F_X7_pairs_15 M r4 n 100 meet c (nI p) (nI q) = r4 100 meet (itr (fun q c => c + prG T how p q) k q c) (nI (p + 1)) := by
    intro r4 p hp k
    induction k with
    | zero =>
      intro q n c hq hn
      obtain ⟨n, rfl, -⟩ := fu_get hn
      simp only [F_X7_pairs_15]
      rw [if_pos (nI_le (by omega) (by omega)), nI_1]
      rfl
    | succ k ih =>
      intro q n c hq hn
      obtain ⟨n, rfl, hn⟩ := fu_get hn
      have hqN : q < tN T := by omega
      simp only [F_X7_pairs_15, Option.bind_some, h.ck, ref_isAbout h hp hqN, h.r5, h.w hp, h.w hqN, F_X7_pairs_61, F_X7_pairs_62, F_X7_pairs_53]
      rw [if_neg (nI_ge (by omega) (by omega)), nI_1, ih _ _ _ (by omega) (by omega), ih _ _ _ (by omega) (by omega)]
      show _ = r4 100 meet (itr _ k (q + 1) (c + prG T how p q)) _
      unfold prG
      rw [isA_btw]
      have d12 : ¬ (1 : Int32) = 2 := by decide
      have d21 : ¬ (2 : Int32) = 1 := by decide
      have d02 : ¬ (0 : Int32) = 2 := by decide
      have d01 : ¬ (0 : Int32) = 1 := by decide
      have d10 : ¬ (1 : Int32) = 0 := by decide
      have d20 : ¬ (2 : Int32) = 0 := by decide
      rcases btw_3 T p q with e | ⟨e, ew⟩ | ⟨e, ew⟩ <;> rcases hm with ⟨rfl, rfl⟩ | ⟨rfl, rfl⟩
      · rw [e, if_pos rfl, if_pos rfl, if_neg d02]
      · rw [e, if_pos rfl, if_pos rfl, if_neg d01]
      · rw [e, if_neg d10, if_neg d10, if_neg ew, if_neg d01, if_neg d12]
      · rw [e, if_neg d10, if_neg d10, if_neg ew, if_pos rfl, if_pos rfl]
      · rw [e, if_neg d20, if_neg d10, if_pos ew, if_pos rfl, if_pos rfl]
      · rw [e, if_neg d20, if_neg d10, if_pos ew, if_neg d10, if_neg d21]
  have key2 : ∀ (k p n : Nat) (c : Int32), p + k = tN T → k < n → F_X7_pairs_4 M n 100 meet c (nI p) = some (itr (fun p c => itr (fun q c => c + prG T how p q) p 0 c) k p c) := by
    intro k
    induction k with
    | zero =>
      intro p n c hp hn
      obtain ⟨n, rfl, -⟩ := fu_get hn
      simp only [F_X7_pairs_4, h.n, Option.bind_some]
      rw [if_pos (nI_le (by omega) (by omega))]
      rfl
    | succ k ih =>
      intro p n c hp hn
      obtain ⟨n, rfl, hn⟩ := fu_get hn
      have e0 : (0 : Int32) = nI 0 := rfl
      simp only [F_X7_pairs_4, h.n, Option.bind_some]
      rw [if_neg (nI_ge (by omega) (by omega)), e0, key1 _ p (by omega) p 0 FU _ (by omega) (by unfold FU; omega), ih _ _ _ (by omega) (by omega)]
      rfl
  have := key2 (tN T) 0 FU 0 (by omega) (by unfold FU; omega)
  refine Eq.trans this (congrArg some ?_)
  rw [prs_up, itr_congr (g := fun p c => c + sm (fun q => prG T how p q) p)]
  · rw [itr_sm, Int32.zero_add]
    apply sm_congr
    intro j _
    rw [Nat.zero_add]
  · intro p _ _ c
    rw [itr_sm]
    congr 1
    apply sm_congr
    intro j _
    rw [Nat.zero_add]
theorem ref_yardThen {M : Mem} {T : Tn} (h : RA M T) {p : Nat} (hp : p < tN T) : F_X7_yardThen 100 (nI p) (tDy T) M = some (y1 T p) := by
  unfold F_X7_yardThen y1 yB
  simp only [h.r4, h.r6, h.r1, h.r7, Option.bind_some, h.d hp, h.y hp, h.k hp, h.p hp, ref_goes]
  split
  · rfl
  · show some (jrem (tY T p + gO (tDy T) (tK T p) (tP T p)) 12) = some (jrem (tY T p + gO (tDy T + 0) (tK T p) (tP T p)) 12)
    rw [Int32.add_zero]
/-- the reference's cells that a passing day changes -/
def oP : Nat → Prop := fun a => a = 100 ∨ a = 104
theorem ref_passes {M : Mem} {T : Tn} (h : RA M T) : ∃ M', F_X7_passes 100 M = some M' ∧ Fr oP M M' ∧ (∀ f, f ≠ 2 → f ≠ 3 → mI M' 100 f = mI M 100 f) ∧ mR M' = mR M ∧ RA M' (tSetMt (rdT T) (tMt T + prs (rdT T) 2)) := by
  have h7 : tN T ≤ 7 := h.2.1
  have key : ∀ (k p n : Nat) (M : Mem), p + k = tN T → k < n → RA M (tSetY T (fun j => if j < p then y1 T j else tY T j)) → ∃ M', F_X7_passes_2 n 100 (nI p) M = some M' ∧ Fr oP M M' ∧ (∀ f, f ≠ 2 → f ≠ 3 → mI M' 100 f = mI M 100 f) ∧ mR M' = mR M ∧ RA M' (tSetMt (rdT T) (tMt T + prs (rdT T) 2)) := by
    intro k
    induction k with
    | zero =>
      intro p n M hp hn h
      obtain ⟨n, rfl, -⟩ := fu_get hn
      have hpe : p = tN T := by omega
      subst hpe
      have e : fI M 7 100 0 = some (nI (tN T)) := h.n
      have e2 : fI M 7 100 2 = some (tDy T) := h.dy
      have h2 : RA (uI M 100 2 (tDy T + 1)) (rdT T) := h.setDy (v := tDy T + 1)
      have e3 : fI (uI M 100 2 (tDy T + 1)) 7 100 3 = some (tMt T) := h2.mt
      simp only [F_X7_passes_2, e, e2, Option.bind_some, h.1.p, e3, h2.ck, ref_pairs h2 1 2 (Or.inl ⟨rfl, rfl⟩), h2.1.p]
      rw [if_pos (nI_le (by omega) (by omega))]
      refine ⟨_, rfl, (Fr.uI (S := oP) (Or.inl rfl)).tr (Fr.uI (Or.inl rfl)), fun f f2 f3 => ?_, rfl, h2.setMt⟩
      rw [mI_uI, if_pos rfl, mI_uI, if_pos rfl]
      simp [upd, f2, f3]
    | succ k ih =>
      intro p n M hp hn h
      obtain ⟨n, rfl, hn⟩ := fu_get hn
      have hpN : p < tN T := by omega
      have e : fI M 7 100 0 = some (nI (tN T)) := h.n
      have e2 : fI M 7 100 2 = some (tDy T) := h.dy
      have ey : F_X7_yardThen 100 (nI p) (tDy T) M = some (y1 T p) := by
        have h1 := ref_yardThen h (p := p) hpN
        refine Eq.trans h1 (congrArg some ?_)
        have : (fun j => if j < p then y1 T j else tY T j) p = tY T p := if_neg (by omega)
        show (if tD T p = -4 then (fun j => if j < p then y1 T j else tY T j) p else itr _ 1 0 ((fun j => if j < p then y1 T j else tY T j) p)) = _
        rw [this]
        rfl
      have es : stI M (101 + 3) (nI p) (y1 T p) = some (uI M (101 + 3) p (y1 T p)) := stI_nI _ (h.row (i := 3) (by omega)) (by omega) (by decide)
      have es' : stI M 104 (nI p) (y1 T p) = some (uI M 104 p (y1 T p)) := es
      simp only [F_X7_passes_2, e, e2, Option.bind_some, h.r6, h.ck, ey, es']
      rw [if_neg (nI_ge (by omega) (by omega)), nI_1]
      have h2 : RA (uI M (101 + 3) p (y1 T p)) (tSetY T (fun j => if j < p + 1 then y1 T j else tY T j)) := by
        refine h.set (by omega) rfl rfl rfl (fun i' hi' hne j hj => ?_) (fun j hj => ?_)
        · match i', hi', hne with
          | 0, _, _ => rfl
          | 1, _, _ => rfl
          | 2, _, _ => rfl
          | 3, _, hne => exact absurd rfl hne
          | 4, _, _ => rfl
        · show (if j < p + 1 then y1 T j else tY T j) = if j = p then y1 T p else if j < p then y1 T j else tY T j
          by_cases e1 : j = p
          · subst e1; rw [if_pos (by omega), if_pos rfl]
          · rw [if_neg e1]
            by_cases e2 : j < p
            · rw [if_pos (by omega), if_pos e2]
            · rw [if_neg (by omega), if_neg e2]
      obtain ⟨M', f1, f2, f3, f4, f5⟩ := ih (p + 1) n _ (by omega) (by omega) h2
      exact ⟨M', f1, (Fr.uI (S := oP) (Or.inr rfl)).tr f2, fun f g2 g3 => by rw [f3 f g2 g3, mI_uI, if_neg (by omega)], f4, f5⟩
  refine key (tN T) 0 FU M (by omega) (by unfold FU; omega) (h.ext rfl rfl rfl (fun i hi j hj => ?_))
  match i, hi with
  | 0, _ => rfl
  | 1, _ => rfl
  | 2, _ => rfl
  | 3, _ => show (if j < 0 then y1 T j else tY T j) = tY T j; exact if_neg (Nat.not_lt_zero j)
  | 4, _ => rfl
theorem gon_add : ∀ (k : Nat) (T : Tn) (c d : Int32), (gon k T (c + d)).1 = c + (gon k T d).1 ∧ (gon k T (c + d)).2 = (gon k T d).2
  | 0, _, _, _ => ⟨rfl, rfl⟩
  | k + 1, T, c, d => by
    show (gon k (rdT T) (c + d + _)).1 = _ ∧ (gon k (rdT T) (c + d + _)).2 = _
    rw [Int32.add_assoc]
    exact gon_add k (rdT T) c (d + _)
theorem rdT_mt (T : Tn) (v : Int32) : rdT (tSetMt T v) = tSetMt (rdT T) v := rfl
theorem prs_mt (T : Tn) (v how : Int32) : prs (tSetMt T v) how = prs T how := rfl
theorem gon_mt : ∀ (k : Nat) (T : Tn) (v c : Int32), (gon k (tSetMt T v) c).1 = (gon k T c).1 ∧ (gon k (tSetMt T v) c).2 = tSetMt (gon k T c).2 v
  | 0, _, _, _ => ⟨rfl, rfl⟩
  | k + 1, T, v, c => gon_mt k (rdT T) v (c + prs (rdT T) 2)
theorem ref_goesOn {M : Mem} {T : Tn} (h : RA M T) {n : Nat} (hn : n ≤ 1000) : ∃ M', F_X7_goesOn 100 (nI n) M = some M' ∧ Fr oP M M' ∧ (∀ f, f ≠ 2 → f ≠ 3 → mI M' 100 f = mI M 100 f) ∧ mR M' = mR M ∧ RA M' (tSetMt (gon n T 0).2 (tMt T + (gon n T 0).1)) := by
  have key : ∀ (k i f : Nat) (M : Mem) (T : Tn), i + k = n → k < f → RA M T → ∃ M', F_X7_goesOn_2 f 100 (nI n) (nI i) M = some M' ∧ Fr oP M M' ∧ (∀ f, f ≠ 2 → f ≠ 3 → mI M' 100 f = mI M 100 f) ∧ mR M' = mR M ∧ RA M' (tSetMt (gon k T 0).2 (tMt T + (gon k T 0).1)) := by
    intro k
    induction k with
    | zero =>
      intro i f M T hi hf h
      obtain ⟨f, rfl, -⟩ := fu_get hf
      simp only [F_X7_goesOn_2]
      rw [if_pos (nI_le (by omega) (by omega))]
      refine ⟨_, rfl, Fr.rf, fun _ _ _ => rfl, rfl, ?_⟩
      show RA M (tSetMt T (tMt T + 0))
      rw [Int32.add_zero]
      exact h
    | succ k ih =>
      intro i f M T hi hf h
      obtain ⟨f, rfl, hf⟩ := fu_get hf
      obtain ⟨M1, f1, f2, f3, f4, f5⟩ := ref_passes h
      simp only [F_X7_goesOn_2, h.ck, Option.bind_some, f1]
      rw [if_neg (nI_ge (by omega) (by omega)), nI_1]
      obtain ⟨M2, g1, g2, g3, g4, g5⟩ := ih (i + 1) f M1 _ (by omega) (by omega) f5
      refine ⟨M2, g1, f2.tr g2, fun f a b => (g3 f a b).trans (f3 f a b), g4.trans f4, ?_⟩
      have e1 := gon_mt k (rdT T) (tMt T + prs (rdT T) 2) 0
      rw [e1.1, e1.2] at g5
      have e2 : gon (k + 1) T 0 = gon k (rdT T) (prs (rdT T) 2 + 0) := by
        show gon k (rdT T) (0 + prs (rdT T) 2) = _
        rw [Int32.zero_add, Int32.add_zero]
      have e3 := gon_add k (rdT T) (prs (rdT T) 2) 0
      rw [e2, e3.1, e3.2]
      have e4 : tMt T + (prs (rdT T) 2 + (gon k (rdT T) 0).1) = tMt T + prs (rdT T) 2 + (gon k (rdT T) 0).1 := (Int32.add_assoc _ _ _).symm
      rw [e4]
      exact g5
  exact key n 0 FU M T (by omega) (by unfold FU; omega) h
