/-! THE REFERENCE: its one object is cell 100, its rows are 101 to 118 -/
def rIx (f : Nat) : Nat × Nat := match f with
  | 1 => (101, 7)
  | 4 => (102, 7)
  | 5 => (103, 7)
  | 6 => (104, 7)
  | 7 => (105, 7)
  | 9 => (106, 6)
  | 10 => (107, 6)
  | 11 => (108, 6)
  | 13 => (109, 6)
  | 14 => (110, 6)
  | 15 => (111, 200)
  | 19 => (112, 35)
  | 21 => (113, 240)
  | 23 => (114, 30)
  | 25 => (115, 7)
  | 26 => (116, 7)
  | 27 => (117, 7)
  | 28 => (118, 60)
  | _ => (0, 0)
def RS (M : Mem) : Prop := mS M 100 = (7, 30) ∧ ∀ f, (rIx f).1 ≠ 0 → mR M 100 f = (rIx f).1 ∧ mS M (rIx f).1 = (10, (rIx f).2)
def RA (M : Mem) (T : Tn) : Prop := RS M ∧ tN T ≤ 7 ∧ mI M 100 0 = nI (tN T) ∧ mI M 100 2 = tDy T ∧ mI M 100 3 = tMt T ∧ ∀ i, i < 5 → ∀ j, j < tN T → mI M (101 + i) j = tRow T i j
theorem RS.r {M : Mem} (h : RS M) (f : Nat) {a n : Nat} (e : rIx f = (a + 1, n)) : fR M 7 100 f = some (a + 1) := by
  rw [fR_of h.1, (h.2 f (by rw [e]; exact Nat.succ_ne_zero a)).1, e]
theorem RS.s {M : Mem} (h : RS M) (f : Nat) {a n : Nat} (e : rIx f = (a + 1, n)) : mS M (a + 1) = (10, n) := by
  have := (h.2 f (by rw [e]; exact Nat.succ_ne_zero a)).2
  rw [e] at this
  exact this
theorem RS.fr {S : Nat → Prop} {M M' : Mem} (h : RS M) (hf : Fr S M M') (hR : mR M' 100 = mR M 100) : RS M' := ⟨by rw [hf.2.1]; exact h.1, fun f hne => ⟨by rw [hR]; exact (h.2 f hne).1, by rw [hf.2.1]; exact (h.2 f hne).2⟩⟩
theorem RS.up {M : Mem} (h : RS M) {a i : Nat} {v : Int32} : RS (uI M a i v) := h
theorem RS.ck {M : Mem} (h : RS M) : chkT M 7 100 = some () := chkT_of h.1
theorem RS.i {M : Mem} (h : RS M) (f : Nat) : fI M 7 100 f = some (mI M 100 f) := fI_of h.1
theorem RS.p {M : Mem} (h : RS M) (f : Nat) (v : Int32) : pI M 7 100 f v = some (uI M 100 f v) := pI_of h.1
def oM : Nat → Prop := fun a => 100 ≤ a ∧ a < 119
theorem RA.fr {S : Nat → Prop} {M M' : Mem} {T : Tn} (h : RA M T) (hf : Fr S M M') (hS : ∀ a, oM a → ¬ S a) : RA M' T := by
  have e := hf.2.2.1 100 (hS 100 ⟨by omega, by omega⟩)
  refine ⟨h.1.fr hf e.2, h.2.1, by rw [e.1]; exact h.2.2.1, by rw [e.1]; exact h.2.2.2.1, by rw [e.1]; exact h.2.2.2.2.1, fun i hi j hj => ?_⟩
  rw [(hf.2.2.1 (101 + i) (hS _ ⟨by omega, by omega⟩)).1]
  exact h.2.2.2.2.2 i hi j hj
theorem RA.row {M : Mem} {T : Tn} (h : RA M T) {i : Nat} (hi : i < 5) : mS M (101 + i) = (10, 7) := by
  match i, hi with
  | 0, _ => exact h.1.s 1 rfl
  | 1, _ => exact h.1.s 4 rfl
  | 2, _ => exact h.1.s 5 rfl
  | 3, _ => exact h.1.s 6 rfl
  | 4, _ => exact h.1.s 7 rfl
theorem RA.rd {M : Mem} {i p : Nat} {T : Tn} (h : RA M T) (hi : i < 5) (hp : p < tN T) : ldI M (101 + i) (nI p) = some (tRow T i p) := by
  rw [ldI_nI (h.row hi) (Nat.lt_of_lt_of_le hp h.2.1) (by decide), h.2.2.2.2.2 i hi p hp]
theorem RA.k {M : Mem} {p : Nat} {T : Tn} (h : RA M T) (hp : p < tN T) : ldI M 101 (nI p) = some (tK T p) := h.rd (i := 0) (by omega) hp
theorem RA.d {M : Mem} {p : Nat} {T : Tn} (h : RA M T) (hp : p < tN T) : ldI M 102 (nI p) = some (tD T p) := h.rd (i := 1) (by omega) hp
theorem RA.w {M : Mem} {p : Nat} {T : Tn} (h : RA M T) (hp : p < tN T) : ldI M 103 (nI p) = some (tW T p) := h.rd (i := 2) (by omega) hp
theorem RA.y {M : Mem} {p : Nat} {T : Tn} (h : RA M T) (hp : p < tN T) : ldI M 104 (nI p) = some (tY T p) := h.rd (i := 3) (by omega) hp
theorem RA.p {M : Mem} {p : Nat} {T : Tn} (h : RA M T) (hp : p < tN T) : ldI M 105 (nI p) = some (tP T p) := h.rd (i := 4) (by omega) hp
theorem RA.r1 {M : Mem} {T : Tn} (h : RA M T) : fR M 7 100 1 = some 101 := h.1.r 1 rfl
theorem RA.r4 {M : Mem} {T : Tn} (h : RA M T) : fR M 7 100 4 = some 102 := h.1.r 4 rfl
theorem RA.r5 {M : Mem} {T : Tn} (h : RA M T) : fR M 7 100 5 = some 103 := h.1.r 5 rfl
theorem RA.r6 {M : Mem} {T : Tn} (h : RA M T) : fR M 7 100 6 = some 104 := h.1.r 6 rfl
theorem RA.r7 {M : Mem} {T : Tn} (h : RA M T) : fR M 7 100 7 = some 105 := h.1.r 7 rfl
theorem RA.n {M : Mem} {T : Tn} (h : RA M T) : fI M 7 100 0 = some (nI (tN T)) := by rw [h.1.i, h.2.2.1]
theorem RA.dy {M : Mem} {T : Tn} (h : RA M T) : fI M 7 100 2 = some (tDy T) := by rw [h.1.i, h.2.2.2.1]
theorem RA.mt {M : Mem} {T : Tn} (h : RA M T) : fI M 7 100 3 = some (tMt T) := by rw [h.1.i, h.2.2.2.2.1]
theorem RA.ck {M : Mem} {T : Tn} (h : RA M T) : chkT M 7 100 = some () := h.1.ck
theorem RA.ext {M : Mem} {T T' : Tn} (h : RA M T) (h1 : tN T' = tN T) (h2 : tDy T' = tDy T) (h3 : tMt T' = tMt T) (h4 : ∀ i, i < 5 → ∀ j, j < tN T → tRow T' i j = tRow T i j) : RA M T' :=
  ⟨h.1, by rw [h1]; exact h.2.1, by rw [h1]; exact h.2.2.1, by rw [h2]; exact h.2.2.2.1, by rw [h3]; exact h.2.2.2.2.1, fun i hi j hj => by rw [h1] at hj; rw [h4 i hi j hj]; exact h.2.2.2.2.2 i hi j hj⟩
theorem RA.set {M : Mem} {i p : Nat} {v : Int32} {T T' : Tn} (h : RA M T) (hi : i < 5) (h1 : tN T' = tN T) (h2 : tDy T' = tDy T) (h3 : tMt T' = tMt T) (h4 : ∀ i', i' < 5 → i' ≠ i → ∀ j, j < tN T → tRow T' i' j = tRow T i' j) (h5 : ∀ j, j < tN T → tRow T' i j = if j = p then v else tRow T i j) : RA (uI M (101 + i) p v) T' := by
  refine ⟨h.1, by rw [h1]; exact h.2.1, ?_, ?_, ?_, fun i' hi' j hj => ?_⟩
  · rw [mI_uI, if_neg (by omega), h1]; exact h.2.2.1
  · rw [mI_uI, if_neg (by omega), h2]; exact h.2.2.2.1
  · rw [mI_uI, if_neg (by omega), h3]; exact h.2.2.2.2.1
  · rw [h1] at hj
    rw [mI_uI]
    by_cases e : i' = i
    · subst e
      rw [if_pos rfl, h5 j hj]
      unfold upd
      by_cases e2 : j = p
      · rw [if_pos e2, if_pos e2]
      · rw [if_neg e2, if_neg e2]; exact h.2.2.2.2.2 i' hi j hj
    · rw [if_neg (by omega), h4 i' hi' e j hj]
      exact h.2.2.2.2.2 i' hi' j hj
/-- a field that the town doesn't use, or one of its numbers -/
theorem RA.fld {M : Mem} {f : Nat} {v : Int32} {T : Tn} (h : RA M T) (h0 : f ≠ 0) (h2 : f ≠ 2) (h3 : f ≠ 3) : RA (uI M 100 f v) T := by
  refine ⟨h.1, h.2.1, ?_, ?_, ?_, fun i hi j hj => ?_⟩
  · rw [mI_uI, if_pos rfl]; unfold upd; rw [if_neg (Ne.symm h0)]; exact h.2.2.1
  · rw [mI_uI, if_pos rfl]; unfold upd; rw [if_neg (Ne.symm h2)]; exact h.2.2.2.1
  · rw [mI_uI, if_pos rfl]; unfold upd; rw [if_neg (Ne.symm h3)]; exact h.2.2.2.2.1
  · rw [mI_uI, if_neg (by omega)]; exact h.2.2.2.2.2 i hi j hj
theorem RA.setDy {M : Mem} {v : Int32} {T : Tn} (h : RA M T) : RA (uI M 100 2 v) (tSetDy T v) := by
  refine ⟨h.1, h.2.1, ?_, ?_, ?_, fun i hi j hj => ?_⟩
  · rw [mI_uI, if_pos rfl]; exact h.2.2.1
  · rw [mI_uI, if_pos rfl]; rfl
  · rw [mI_uI, if_pos rfl]; exact h.2.2.2.2.1
  · rw [mI_uI, if_neg (by omega)]; exact h.2.2.2.2.2 i hi j hj
theorem RA.setMt {M : Mem} {v : Int32} {T : Tn} (h : RA M T) : RA (uI M 100 3 v) (tSetMt T v) := by
  refine ⟨h.1, h.2.1, ?_, ?_, ?_, fun i hi j hj => ?_⟩
  · rw [mI_uI, if_pos rfl]; exact h.2.2.1
  · rw [mI_uI, if_pos rfl]; exact h.2.2.2.1
  · rw [mI_uI, if_pos rfl]; rfl
  · rw [mI_uI, if_neg (by omega)]; exact h.2.2.2.2.2 i hi j hj
/-! its questions of two -/
def isA (T : Tn) (p q : Nat) : Int32 := if tD T p = -4 then 0 else if tD T p = tD T q then (if tY T p = tY T q then 1 else 0) else 0
theorem ref_isAbout {M : Mem} {T : Tn} (h : RA M T) {p q : Nat} (hp : p < tN T) (hq : q < tN T) : F_X7_isAbout 100 (nI p) (nI q) M = some (isA T p q) := by
  unfold F_X7_isAbout isA
  simp only [h.r4, h.r6, Option.bind_some, h.d hp, h.d hq, h.y hp, h.y hq]
  repeat' split
  all_goals rfl
theorem isA_btw (T : Tn) (p q : Nat) : isA T p q = if btw T p q = 0 then 0 else 1 := by
  unfold isA btw
  repeat' split
  all_goals simp_all
theorem ref_meets {M : Mem} {T : Tn} (h : RA M T) {p q : Nat} (hp : p < tN T) (hq : q < tN T) : F_X7_meets 100 (nI p) (nI q) M = some (if btw T p q = 2 then 1 else 0) := by
  unfold F_X7_meets
  simp only [h.ck, Option.bind_some, ref_isAbout h hp hq, h.r5, h.w hp, h.w hq]
  unfold isA btw
  repeat' split
  all_goals simp_all
theorem ref_goes (k s d : Int32) : F_X7_goes k s d = some (gO d k s) := by
  unfold F_X7_goes gO
  repeat' split
  all_goals rfl
theorem ref_thoseAbout {M : Mem} {T : Tn} (h : RA M T) (d : Int32) : F_X7_thoseAbout 100 d M = some (goB T d) := by
  have h7 := h.2.1
  have key : ∀ (k p n : Nat) (b : Int32), p + k = tN T → k < n → F_X7_thoseAbout_4 M n 100 d b (nI p) = some (itr (fun p b => if tD T p = d then b ||| ((1 : Int32) <<< (nI p &&& 31)) else b) k p b) := by
    intro k
    induction k with
    | zero =>
      intro p n b hp hn
      obtain ⟨n, rfl, -⟩ := fu_get hn
      simp only [F_X7_thoseAbout_4, h.n, Option.bind_some]
      rw [if_pos (nI_le (by omega) (by omega))]
      rfl
    | succ k ih =>
      intro p n b hp hn
      obtain ⟨n, rfl, hn⟩ := fu_get hn
      simp only [F_X7_thoseAbout_4, h.n, Option.bind_some, h.r4, h.d (show p < tN T by omega), F_X7_thoseAbout_30]
      rw [if_neg (nI_ge (by omega) (by omega)), nI_1, ih _ _ _ (by omega) (by omega), ih _ _ _ (by omega) (by omega), Int32.or_zero]
      show (if tD T p = d then _ else _) = some (itr _ k (p + 1) (if tD T p = d then _ else _))
      split <;> rfl
  exact key (tN T) 0 FU 0 (by omega) (by unfold FU; omega)
/-! sums -/
def sm (f : Nat → Int32) : Nat → Int32
  | 0 => 0
  | n + 1 => sm f n + f n
theorem sm_congr {f g : Nat → Int32} : ∀ (n : Nat), (∀ j, j < n → f j = g j) → sm f n = sm g n
  | 0, _ => rfl
  | n + 1, h => by
    show sm f n + f n = sm g n + g n
    rw [sm_congr n (fun j hj => h j (by omega)), h n (by omega)]
theorem sm_first (f : Nat → Int32) : ∀ n, sm f (n + 1) = f 0 + sm (fun j => f (j + 1)) n
  | 0 => by show 0 + f 0 = f 0 + 0; rw [Int32.zero_add, Int32.add_zero]
  | n + 1 => by
    show sm f (n + 1) + f (n + 1) = f 0 + (sm (fun j => f (j + 1)) n + f (n + 1))
    rw [sm_first f n, Int32.add_assoc]
theorem sm_add (f g : Nat → Int32) : ∀ n, sm (fun j => f j + g j) n = sm f n + sm g n
  | 0 => by show (0 : Int32) = 0 + 0; rfl
  | n + 1 => by
    show sm (fun j => f j + g j) n + (f n + g n) = (sm f n + f n) + (sm g n + g n)
    rw [sm_add f g n]
    ac_rfl
theorem itr_sm (f : Nat → Int32) : ∀ (k p : Nat) (c : Int32), itr (fun p c => c + f p) k p c = c + sm (fun j => f (p + j)) k
  | 0, _, c => (Int32.add_zero c).symm
  | k + 1, p, c => by
    show itr _ k (p + 1) (c + f p) = _
    rw [itr_sm f k (p + 1) (c + f p), sm_first (fun j => f (p + j)) k, Int32.add_assoc]
    congr 2
    apply sm_congr
    intro j _
    show f (p + 1 + j) = f (p + (j + 1))
    rw [show p + 1 + j = p + (j + 1) by omega]
/-- the same pairs, by the lower one first or by the higher one first -/
theorem sm_tri (g : Nat → Nat → Int32) : ∀ n, sm (fun p => sm (fun j => g p (p + 1 + j)) (n - (p + 1))) n = sm (fun p => sm (fun q => g q p) p) n
  | 0 => rfl
  | n + 1 => by
    show sm (fun p => sm (fun j => g p (p + 1 + j)) (n + 1 - (p + 1))) n + sm (fun j => g n (n + 1 + j)) (n + 1 - (n + 1)) = sm (fun p => sm (fun q => g q p) p) n + sm (fun q => g q n) n
    rw [Nat.sub_self]
    show _ + 0 = _
    rw [Int32.add_zero, ← sm_tri g n, ← sm_add]
    apply sm_congr
    intro p hp
    show sm (fun j => g p (p + 1 + j)) (n + 1 - (p + 1)) = sm (fun j => g p (p + 1 + j)) (n - (p + 1)) + g p n
    rw [show n + 1 - (p + 1) = (n - (p + 1)) + 1 by omega]
    show _ + g p (p + 1 + (n - (p + 1))) = _
    rw [show p + 1 + (n - (p + 1)) = n by omega]
def prG (T : Tn) (how : Int32) (p q : Nat) : Int32 := if btw T p q = how then 1 else 0
theorem prs_sm (T : Tn) (how : Int32) : prs T how = sm (fun p => sm (fun j => prG T how p (p + 1 + j)) (tN T - (p + 1))) (tN T) := by
  unfold prs
  rw [itr_congr (g := fun p c => c + sm (fun j => prG T how p (p + 1 + j)) (tN T - (p + 1)))]
  · rw [itr_sm]
    rw [Int32.zero_add]
    apply sm_congr
    intro j _
    show sm (fun j' => prG T how (0 + j) (0 + j + 1 + j')) (tN T - (0 + j + 1)) = _
    rw [Nat.zero_add]
  · intro p _ _ c
    rw [itr_congr (g := fun q c => c + prG T how p q)]
    · rw [itr_sm]
    · intro q _ _ c
      unfold prG
      split
      · rfl
      · rw [Int32.add_zero]
theorem btw_sym (T : Tn) (p q : Nat) : btw T p q = btw T q p := by
  unfold btw
  by_cases h1 : tD T p = tD T q
  · by_cases h2 : tY T p = tY T q
    · by_cases h3 : tW T p = tW T q
      · simp [h1, h2, h3]
      · simp [h1, h2, h3, Ne.symm h3]
    · simp [h1, h2, Ne.symm h2]
  · simp [h1, Ne.symm h1]
theorem prs_up (T : Tn) (how : Int32) : prs T how = sm (fun p => sm (fun q => prG T how p q) p) (tN T) := by
  rw [prs_sm, sm_tri (prG T how)]
  apply sm_congr
  intro p _
  apply sm_congr
  intro q _
  unfold prG
  rw [btw_sym]
