/-- days that go by: the meetings on them, and the town then -/
def gon : Nat → Tn → Int32 → Int32 × Tn
  | 0, T, c => (c, T)
  | k + 1, T, c => gon k (rdT T) (c + prs (rdT T) 2)
theorem rdT_N (T : Tn) : tN (rdT T) = tN T := rfl
theorem rdT_Mt (T : Tn) : tMt (rdT T) = tMt T := rfl
theorem gon_N : ∀ (k : Nat) (T : Tn) (c : Int32), tN (gon k T c).2 = tN T
  | 0, _, _ => rfl
  | k + 1, T, c => (gon_N k (rdT T) _).trans rfl
theorem gon_Mt : ∀ (k : Nat) (T : Tn) (c : Int32), tMt (gon k T c).2 = tMt T
  | 0, _, _ => rfl
  | k + 1, T, c => (gon_Mt k (rdT T) _).trans rfl
theorem town_days {M : Mem} {o : Nat} {T : Tn} (h : TA M o T) {n : Nat} (hn : n ≤ 1000) : ∃ M', F_X5_letDaysGoBy o (nI n) M = some ((gon n T 0).1, M') ∧ Fr (oT o) M M' ∧ TA M' o (tSetMt (gon n T 0).2 (tMt T + (gon n T 0).1)) := by
  have key : ∀ (k i f : Nat) (M : Mem) (T : Tn) (c : Int32), i + k = n → k < f → TA M o T → ∃ M', F_X5_letDaysGoBy_4 f o (nI n) c (nI i) M = some ((gon k T c).1, M') ∧ Fr (oT o) M M' ∧ TA M' o (tSetMt (gon k T c).2 (tMt T + (gon k T c).1)) := by
    intro k
    induction k with
    | zero =>
      intro i f M T c hi hf h
      obtain ⟨f, rfl, -⟩ := fu_get hf
      simp only [F_X5_letDaysGoBy_4, h.mt, Option.bind_some, pI_of h.1.1]
      rw [if_pos (nI_le (by omega) (by omega))]
      exact ⟨_, rfl, Fr.uI ⟨Nat.le_refl _, by omega⟩, h.setMt⟩
    | succ k ih =>
      intro i f M T c hi hf h
      obtain ⟨f, rfl, hf⟩ := fu_get hf
      obtain ⟨M1, f1, f2, f3⟩ := town_goRound h
      simp only [F_X5_letDaysGoBy_4, h.ck, Option.bind_some, f1, f3.ck, town_pairs f3]
      rw [if_neg (nI_ge (by omega) (by omega)), nI_1]
      obtain ⟨M2, g1, g2, g3⟩ := ih (i + 1) f M1 (rdT T) (c + prs (rdT T) 2) (by omega) (by omega) f3
      exact ⟨M2, g1, f2.tr g2, g3⟩
  exact key n 0 FU M T 0 (by omega) (by unfold FU; omega) h
def hangT (T : Tn) (p : Nat) (d w : Int32) : Tn := tSetD T (upd (tD T) p d) (upd (tW T) p w)
theorem town_hang {M : Mem} {o : Nat} {T : Tn} (h : TA M o T) {p : Nat} (hp : p < tN T) (d w : Int32) : ∃ M', F_X5_hangWreath o (nI p) d w M = some M' ∧ Fr (oT o) M M' ∧ TA M' o (hangT T p d w) := by
  have h7 := h.2.1
  have e1 : stI M (o + 1 + 1) (nI p) d = some (uI M (o + 1 + 1) p d) := stI_nI _ (h.1.2 1 (by omega)).1 (by omega) (by decide)
  have h2 : TA (uI M (o + 1 + 1) p d) o (tSetD T (upd (tD T) p d) (tW T)) := by
    refine h.set (by omega) rfl rfl rfl (fun i' hi' hne j hj => ?_) (fun j hj => rfl)
    match i', hi', hne with
    | 0, _, _ => rfl
    | 1, _, hne => exact absurd rfl hne
    | 2, _, _ => rfl
    | 3, _, _ => rfl
    | 4, _, _ => rfl
  have e2 : stI (uI M (o + 1 + 1) p d) (o + 1 + 2) (nI p) w = some (uI (uI M (o + 1 + 1) p d) (o + 1 + 2) p w) := stI_nI _ (h2.1.2 2 (by omega)).1 (by omega) (by decide)
  unfold F_X5_hangWreath
  simp only [h.fr0 (i := 1) (by omega), Option.bind_some, e1, h2.fr0 (i := 2) (by omega), e2]
  refine ⟨_, rfl, (Fr.uI (S := oT o) ⟨by omega, by omega⟩).tr (Fr.uI ⟨by omega, by omega⟩), ?_⟩
  refine h2.set (by omega) rfl rfl rfl (fun i' hi' hne j hj => ?_) (fun j hj => rfl)
  match i', hi', hne with
  | 0, _, _ => rfl
  | 1, _, _ => rfl
  | 2, _, hne => exact absurd rfl hne
  | 3, _, _ => rfl
  | 4, _, _ => rfl
def paceT (T : Tn) (p : Nat) (s : Int32) : Tn := tSetP T (upd (tP T) p s)
theorem town_setPace {M : Mem} {o : Nat} {T : Tn} (h : TA M o T) {p : Nat} (hp : p < tN T) (s : Int32) : ∃ M', F_X5_setPace o (nI p) s M = some M' ∧ Fr (oT o) M M' ∧ TA M' o (paceT T p s) := by
  have h7 := h.2.1
  have e1 : stI M (o + 1 + 4) (nI p) s = some (uI M (o + 1 + 4) p s) := stI_nI _ (h.1.2 4 (by omega)).1 (by omega) (by decide)
  unfold F_X5_setPace
  simp only [h.fr0 (i := 4) (by omega), Option.bind_some, e1]
  refine ⟨_, rfl, Fr.uI ⟨by omega, by omega⟩, ?_⟩
  refine h.set (by omega) rfl rfl rfl (fun i' hi' hne j hj => ?_) (fun j hj => rfl)
  match i', hi', hne with
  | 0, _, _ => rfl
  | 1, _, _ => rfl
  | 2, _, _ => rfl
  | 3, _, _ => rfl
  | 4, _, hne => exact absurd rfl hne
/-- a town becomes another -/
theorem town_become {M : Mem} {o q : Nat} {T : Tn} (ho : TS M o) (hq : TA M q T) (hne : o + 6 ≤ q ∨ q + 6 ≤ o) : ∃ M', F_X5_become o q M = some M' ∧ Fr (oT o) M M' ∧ TA M' o T := by
  have hso : ∀ i, i < 5 → mS M (o + 1 + i) = (10, 7) := fun i hi => (ho.2 i hi).1
  have hsq : ∀ i, i < 5 → mS M (q + 1 + i) = (10, 7) := fun i hi => (hq.1.2 i hi).1
  have hro : ∀ i, i < 5 → mR M o i = o + 1 + i := fun i hi => (ho.2 i hi).2
  have hrq : ∀ i, i < 5 → mR M q i = q + 1 + i := fun i hi => (hq.1.2 i hi).2
  have e : F_X5_become o q M = some (uI (uI (uI (uRow (uRow (uRow (uRow (uRow M (o + 1 + 0) (va_cpy (mI M (q + 1 + 0)) (mI M (o + 1 + 0)) 0 0 7)) (o + 1 + 1) (va_cpy (mI M (q + 1 + 1)) (mI M (o + 1 + 1)) 0 0 7)) (o + 1 + 2) (va_cpy (mI M (q + 1 + 2)) (mI M (o + 1 + 2)) 0 0 7)) (o + 1 + 3) (va_cpy (mI M (q + 1 + 3)) (mI M (o + 1 + 3)) 0 0 7)) (o + 1 + 4) (va_cpy (mI M (q + 1 + 4)) (mI M (o + 1 + 4)) 0 0 7)) o 5 (mI M q 5)) o 6 (mI M q 6)) o 7 (mI M q 7)) := by
    unfold F_X5_become
    rw [fR_of hq.1.1, Option.bind_some, fR_of ho.1, Option.bind_some, hro 0 (by omega), hrq 0 (by omega), cpA_7 (hsq 0 (by omega)) (hso 0 (by omega)), Option.bind_some]
    rw [fR_of (M := uRow M _ _) hq.1.1, Option.bind_some, fR_of (M := uRow M _ _) ho.1, Option.bind_some, mR_uRow, hro 1 (by omega), hrq 1 (by omega), cpA_7 (M := uRow M _ _) (hsq 1 (by omega)) (hso 1 (by omega)), Option.bind_some, mI_uRow, mI_uRow, if_neg (by omega), if_neg (by omega)]
    rw [fR_of (M := uRow (uRow M _ _) _ _) hq.1.1, Option.bind_some, fR_of (M := uRow (uRow M _ _) _ _) ho.1, Option.bind_some, mR_uRow, mR_uRow, hro 2 (by omega), hrq 2 (by omega), cpA_7 (M := uRow (uRow M _ _) _ _) (hsq 2 (by omega)) (hso 2 (by omega)), Option.bind_some]
    simp only [mI_uRow]
    rw [if_neg (show ¬ q + 1 + 2 = o + 1 + 1 by omega), if_neg (show ¬ q + 1 + 2 = o + 1 + 0 by omega), if_neg (show ¬ o + 1 + 2 = o + 1 + 1 by omega), if_neg (show ¬ o + 1 + 2 = o + 1 + 0 by omega)]
    rw [fR_of (M := uRow (uRow (uRow M _ _) _ _) _ _) hq.1.1, Option.bind_some, fR_of (M := uRow (uRow (uRow M _ _) _ _) _ _) ho.1, Option.bind_some, mR_uRow, mR_uRow, mR_uRow, hro 3 (by omega), hrq 3 (by omega), cpA_7 (M := uRow (uRow (uRow M _ _) _ _) _ _) (hsq 3 (by omega)) (hso 3 (by omega)), Option.bind_some]
    simp only [mI_uRow]
    rw [if_neg (show ¬ q + 1 + 3 = o + 1 + 2 by omega), if_neg (show ¬ q + 1 + 3 = o + 1 + 1 by omega), if_neg (show ¬ q + 1 + 3 = o + 1 + 0 by omega), if_neg (show ¬ o + 1 + 3 = o + 1 + 2 by omega), if_neg (show ¬ o + 1 + 3 = o + 1 + 1 by omega), if_neg (show ¬ o + 1 + 3 = o + 1 + 0 by omega)]
    rw [fR_of (M := uRow (uRow (uRow (uRow M _ _) _ _) _ _) _ _) hq.1.1, Option.bind_some, fR_of (M := uRow (uRow (uRow (uRow M _ _) _ _) _ _) _ _) ho.1, Option.bind_some, mR_uRow, mR_uRow, mR_uRow, mR_uRow, hro 4 (by omega), hrq 4 (by omega), cpA_7 (M := uRow (uRow (uRow (uRow M _ _) _ _) _ _) _ _) (hsq 4 (by omega)) (hso 4 (by omega)), Option.bind_some]
    simp only [mI_uRow]
    rw [if_neg (show ¬ q + 1 + 4 = o + 1 + 3 by omega), if_neg (show ¬ q + 1 + 4 = o + 1 + 2 by omega), if_neg (show ¬ q + 1 + 4 = o + 1 + 1 by omega), if_neg (show ¬ q + 1 + 4 = o + 1 + 0 by omega), if_neg (show ¬ o + 1 + 4 = o + 1 + 3 by omega), if_neg (show ¬ o + 1 + 4 = o + 1 + 2 by omega), if_neg (show ¬ o + 1 + 4 = o + 1 + 1 by omega), if_neg (show ¬ o + 1 + 4 = o + 1 + 0 by omega)]
    rw [fI_of (M := (uRow (uRow (uRow (uRow (uRow M _ _) _ _) _ _) _ _) _ _)) hq.1.1, Option.bind_some, pI_of (M := (uRow (uRow (uRow (uRow (uRow M _ _) _ _) _ _) _ _) _ _)) ho.1, Option.bind_some, fI_of (M := (uI (uRow (uRow (uRow (uRow (uRow M _ _) _ _) _ _) _ _) _ _) _ _ _)) hq.1.1, Option.bind_some, pI_of (M := (uI (uRow (uRow (uRow (uRow (uRow M _ _) _ _) _ _) _ _) _ _) _ _ _)) ho.1, Option.bind_some, fI_of (M := (uI (uI (uRow (uRow (uRow (uRow (uRow M _ _) _ _) _ _) _ _) _ _) _ _ _) _ _ _)) hq.1.1, Option.bind_some, pI_of (M := (uI (uI (uRow (uRow (uRow (uRow (uRow M _ _) _ _) _ _) _ _) _ _) _ _ _) _ _ _)) ho.1, Option.bind_some]
    simp only [mI_uRow, mI_uI]
    rw [if_neg (show ¬ q = o + 1 + 4 by omega), if_neg (show ¬ q = o + 1 + 3 by omega), if_neg (show ¬ q = o + 1 + 2 by omega), if_neg (show ¬ q = o + 1 + 1 by omega), if_neg (show ¬ q = o + 1 + 0 by omega)]
    simp only [if_neg (show ¬ q = o by omega)]
  refine ⟨_, e, ?_, ?_⟩
  · have hr : ∀ i, i < 5 → oT o (o + 1 + i) := fun i hi => ⟨by omega, by omega⟩
    have h0 : oT o o := ⟨Nat.le_refl _, by omega⟩
    exact ((((((((Fr.row (hr 0 (by omega))).tr (Fr.row (hr 1 (by omega)))).tr (Fr.row (hr 2 (by omega)))).tr (Fr.row (hr 3 (by omega)))).tr (Fr.row (hr 4 (by omega)))).tr (Fr.uI h0)).tr (Fr.uI h0)).tr (Fr.uI h0))
  · refine ⟨⟨ho.1, ho.2⟩, hq.2.1, ?_, ?_, ?_, fun i hi j hj => ?_⟩
    · rw [mI_uI, if_pos rfl, mI_uI, if_pos rfl, mI_uI, if_pos rfl]
      show upd (upd (upd _ 5 _) 6 _) 7 _ 5 = _
      simp only [upd]
      exact hq.2.2.1
    · rw [mI_uI, if_pos rfl, mI_uI, if_pos rfl]
      show upd (upd _ 6 _) 7 _ 6 = _
      simp only [upd]
      exact hq.2.2.2.1
    · rw [mI_uI, if_pos rfl]
      show upd _ 7 _ 7 = _
      simp only [upd]
      exact hq.2.2.2.2.1
    · have h9 := hq.2.2.2.2.2 i hi j hj
      have h7 : j < 7 := Nat.lt_of_lt_of_le hj hq.2.1
      have hc : ∀ f g : Nat → Int32, va_cpy f g 0 0 7 j = f j := fun f g => by unfold va_cpy; rw [if_pos ⟨Nat.zero_le _, by omega⟩]; simp
      rw [mI_uI, if_neg (by omega), mI_uI, if_neg (by omega), mI_uI, if_neg (by omega)]
      simp only [mI_uRow]
      match i, hi with
      | 0, _ => rw [if_neg (by omega), if_neg (by omega), if_neg (by omega), if_neg (by omega), if_pos rfl, hc]; exact h9
      | 1, _ => rw [if_neg (by omega), if_neg (by omega), if_neg (by omega), if_pos rfl, hc]; exact h9
      | 2, _ => rw [if_neg (by omega), if_neg (by omega), if_pos rfl, hc]; exact h9
      | 3, _ => rw [if_neg (by omega), if_pos rfl, hc]; exact h9
      | 4, _ => rw [if_pos rfl, hc]; exact h9
theorem town_yardsAdded {M : Mem} {o : Nat} {T : Tn} (h : TA M o T) : F_X5_yardsAdded o M = some (itr (fun p c => c + tY T p) (tN T) 0 0) := by
  have h7 := h.2.1
  have key : ∀ (k p n : Nat) (c : Int32), p + k = tN T → k < n → F_X5_yardsAdded_4 M n o c (nI p) = some (itr (fun p c => c + tY T p) k p c) := by
    intro k
    induction k with
    | zero =>
      intro p n c hp hn
      obtain ⟨n, rfl, -⟩ := fu_get hn
      simp only [F_X5_yardsAdded_4, h.sz, Option.bind_some]
      rw [if_pos (nI_le (by omega) (by omega))]
      rfl
    | succ k ih =>
      intro p n c hp hn
      obtain ⟨n, rfl, hn⟩ := fu_get hn
      simp only [F_X5_yardsAdded_4, h.sz, Option.bind_some, h.fr0 (i := 3) (by omega), h.rd (i := 3) (by omega) (show p < tN T by omega)]
      rw [if_neg (nI_ge (by omega) (by omega)), nI_1, ih _ _ _ (by omega) (by omega)]
      rfl
  exact key (tN T) 0 FU 0 (by omega) (by unfold FU; omega)
