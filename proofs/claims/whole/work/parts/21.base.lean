/-! PURE ROWS. Reading and writing the memory -/
theorem mI_uI (M : Mem) (a i : Nat) (v : Int32) (b : Nat) : mI (uI M a i v) b = if b = a then upd (mI M b) i v else mI M b := by
  funext j
  show up1 _ a i v b j = _
  unfold up1
  by_cases h : b = a
  · simp [h, upd, mI]
  · simp [h, mI]
theorem mR_uI (M : Mem) (a i : Nat) (v : Int32) : mR (uI M a i v) = mR M := rfl
theorem mS_uI (M : Mem) (a i : Nat) (v : Int32) : mS (uI M a i v) = mS M := rfl
theorem mN_uI (M : Mem) (a i : Nat) (v : Int32) : mN (uI M a i v) = mN M := rfl
theorem mR_uR (M : Mem) (a i v : Nat) (b : Nat) : mR (uR M a i v) b = if b = a then va_up (mR M b) i v else mR M b := by
  funext j
  show up1 _ a i v b j = _
  unfold up1
  by_cases h : b = a
  · simp [h, va_up, mR]
  · simp [h, mR]
theorem mI_uR (M : Mem) (a i v : Nat) : mI (uR M a i v) = mI M := rfl
theorem mS_uR (M : Mem) (a i v : Nat) : mS (uR M a i v) = mS M := rfl
theorem mI_uRow (M : Mem) (a : Nat) (f : Nat → Int32) (b : Nat) : mI (uRow M a f) b = if b = a then f else mI M b := rfl
theorem mR_uRow (M : Mem) (a : Nat) (f : Nat → Int32) : mR (uRow M a f) = mR M := rfl
theorem mS_uRow (M : Mem) (a : Nat) (f : Nat → Int32) : mS (uRow M a f) = mS M := rfl
/-- the cells whose references may change: the two piles' rows, the chances' two rows -/
def Rf (a : Nat) : Prop := a = 22 ∨ a = 72 ∨ a = 96
/-- what a call changes: only cells of S -/
def Fr (S : Nat → Prop) (M M' : Mem) : Prop := mN M' = mN M ∧ mS M' = mS M ∧ (∀ a, ¬ S a → mI M' a = mI M a ∧ mR M' a = mR M a) ∧ ∀ a, ¬ Rf a → mR M' a = mR M a
theorem Fr.rf {S : Nat → Prop} {M : Mem} : Fr S M M := ⟨rfl, rfl, fun _ _ => ⟨rfl, rfl⟩, fun _ _ => rfl⟩
theorem Fr.tr {S : Nat → Prop} {M M1 M2 : Mem} (h1 : Fr S M M1) (h2 : Fr S M1 M2) : Fr S M M2 :=
  ⟨h2.1.trans h1.1, h2.2.1.trans h1.2.1, fun a ha => ⟨(h2.2.2.1 a ha).1.trans (h1.2.2.1 a ha).1, (h2.2.2.1 a ha).2.trans (h1.2.2.1 a ha).2⟩, fun a ha => (h2.2.2.2 a ha).trans (h1.2.2.2 a ha)⟩
theorem Fr.mono {S S2 : Nat → Prop} {M M1 : Mem} (h : Fr S M M1) (hS : ∀ a, S a → S2 a) : Fr S2 M M1 := ⟨h.1, h.2.1, fun a ha => h.2.2.1 a (fun z => ha (hS a z)), h.2.2.2⟩
theorem Fr.i {S : Nat → Prop} {M M1 : Mem} (h : Fr S M M1) {a : Nat} (ha : ¬ S a) : mI M1 a = mI M a := (h.2.2.1 a ha).1
theorem Fr.s {S : Nat → Prop} {M M1 : Mem} (h : Fr S M M1) (a : Nat) : mS M1 a = mS M a := by rw [h.2.1]
theorem Fr.r {S : Nat → Prop} {M M1 : Mem} (h : Fr S M M1) {a : Nat} (ha : ¬ Rf a) : mR M1 a = mR M a := h.2.2.2 a ha
theorem Fr.uI {S : Nat → Prop} {M : Mem} {a i : Nat} {v : Int32} (h : S a) : Fr S M (uI M a i v) := ⟨rfl, rfl, fun b hb => ⟨by rw [mI_uI, if_neg (fun e => hb (by rw [e]; exact h))], rfl⟩, fun _ _ => rfl⟩
theorem Fr.uR {S : Nat → Prop} {M : Mem} {a i v : Nat} (h : S a) (hr : Rf a) : Fr S M (uR M a i v) := ⟨rfl, rfl, fun b hb => ⟨rfl, by rw [mR_uR, if_neg (fun e => hb (by rw [e]; exact h))]⟩, fun b hb => by rw [mR_uR, if_neg (fun e => hb (by rw [e]; exact hr))]⟩
theorem Fr.row {S : Nat → Prop} {M : Mem} {a : Nat} {f : Nat → Int32} (h : S a) : Fr S M (uRow M a f) := ⟨rfl, rfl, fun b hb => ⟨by rw [mI_uRow, if_neg (fun e => hb (by rw [e]; exact h))], rfl⟩, fun _ _ => rfl⟩
theorem inR_nI {i n : Nat} (h : i < n) (hn : n < 2 ^ 31) : inR (nI i) n = true := by
  have h1 : ¬ nI i < 0 := nI_pos (by omega)
  have h2 : (nI i).toNatClampNeg = i := nI_clamp (by omega)
  unfold inR
  rw [h2, decide_eq_false h1, decide_eq_false (by omega)]
  rfl
theorem ldI_nI {M : Mem} {a i n : Nat} (h : mS M a = (10, n)) (hi : i < n) (hn : n < 2 ^ 31) : ldI M a (nI i) = some (mI M a i) := by
  unfold ldI
  rw [h]
  simp [inR_nI hi hn, nI_clamp (show i < 2 ^ 31 by omega)]
theorem stI_nI {M : Mem} {a i n : Nat} (v : Int32) (h : mS M a = (10, n)) (hi : i < n) (hn : n < 2 ^ 31) : stI M a (nI i) v = some (uI M a i v) := by
  unfold stI
  rw [h]
  simp [inR_nI hi hn, nI_clamp (show i < 2 ^ 31 by omega)]
theorem fI_of {M : Mem} {t a f n : Nat} (h : mS M a = (t, n)) : fI M t a f = some (mI M a f) := by unfold fI; rw [h]; simp
theorem fR_of {M : Mem} {t a f n : Nat} (h : mS M a = (t, n)) : fR M t a f = some (mR M a f) := by unfold fR; rw [h]; simp
theorem pI_of {M : Mem} {t a f n : Nat} {v : Int32} (h : mS M a = (t, n)) : pI M t a f v = some (uI M a f v) := by unfold pI; rw [h]; simp
theorem pR_of {M : Mem} {t a f n v : Nat} (h : mS M a = (t, n)) : pR M t a f v = some (uR M a f v) := by unfold pR; rw [h]; simp
theorem chkT_of {M : Mem} {t a n : Nat} (h : mS M a = (t, n)) : chkT M t a = some () := by unfold chkT; rw [h]; simp
theorem aLen_of {M : Mem} {a n : Nat} (h : mS M a = (10, n)) : aLen M a = some (nI n) := by unfold aLen; rw [h]; simp; rfl
theorem cpA_7 {M : Mem} {a b : Nat} (ha : mS M a = (10, 7)) (hb : mS M b = (10, 7)) : cpA M a 0 b 0 7 = some (uRow M b (va_cpy (mI M a) (mI M b) 0 0 7)) := by
  unfold cpA
  rw [ha, hb]
  rw [if_pos (by decide)]
  rfl
/-! a town: how many, the day, the meetings, kinds, doors, widths, yards, paces -/
abbrev Tn : Type := Nat × Int32 × Int32 × (Nat → Int32) × (Nat → Int32) × (Nat → Int32) × (Nat → Int32) × (Nat → Int32)
def tN (T : Tn) : Nat := T.1
def tDy (T : Tn) : Int32 := T.2.1
def tMt (T : Tn) : Int32 := T.2.2.1
def tK (T : Tn) : Nat → Int32 := T.2.2.2.1
def tD (T : Tn) : Nat → Int32 := T.2.2.2.2.1
def tW (T : Tn) : Nat → Int32 := T.2.2.2.2.2.1
def tY (T : Tn) : Nat → Int32 := T.2.2.2.2.2.2.1
def tP (T : Tn) : Nat → Int32 := T.2.2.2.2.2.2.2
/-- the five rows of a town, by their number -/
def tRow (T : Tn) (i : Nat) : Nat → Int32 := match i with
  | 0 => tK T
  | 1 => tD T
  | 2 => tW T
  | 3 => tY T
  | _ => tP T
def tSetY (T : Tn) (y : Nat → Int32) : Tn := (T.1, T.2.1, T.2.2.1, T.2.2.2.1, T.2.2.2.2.1, T.2.2.2.2.2.1, y, T.2.2.2.2.2.2.2)
def tSetD (T : Tn) (d w : Nat → Int32) : Tn := (T.1, T.2.1, T.2.2.1, T.2.2.2.1, d, w, T.2.2.2.2.2.2.1, T.2.2.2.2.2.2.2)
def tSetP (T : Tn) (s : Nat → Int32) : Tn := (T.1, T.2.1, T.2.2.1, T.2.2.2.1, T.2.2.2.2.1, T.2.2.2.2.2.1, T.2.2.2.2.2.2.1, s)
def tSetDy (T : Tn) (d : Int32) : Tn := (T.1, d, T.2.2)
def tSetMt (T : Tn) (d : Int32) : Tn := (T.1, T.2.1, d, T.2.2.2)
/-- a cell is a town's own -/
def TS (M : Mem) (o : Nat) : Prop := mS M o = (5, 8) ∧ ∀ i, i < 5 → mS M (o + 1 + i) = (10, 7) ∧ mR M o i = o + 1 + i
def oT (o : Nat) : Nat → Prop := fun a => o ≤ a ∧ a < o + 6
def TA (M : Mem) (o : Nat) (T : Tn) : Prop := TS M o ∧ tN T ≤ 7 ∧ mI M o 5 = nI (tN T) ∧ mI M o 6 = tDy T ∧ mI M o 7 = tMt T ∧ ∀ i, i < 5 → ∀ j, j < tN T → mI M (o + 1 + i) j = tRow T i j
theorem TS.fr {S : Nat → Prop} {M M' : Mem} {o : Nat} (h : TS M o) (hf : Fr S M M') (hS : ¬ S o) : TS M' o := ⟨by rw [hf.2.1]; exact h.1, fun i hi => ⟨by rw [hf.2.1]; exact (h.2 i hi).1, by rw [(hf.2.2.1 o hS).2]; exact (h.2 i hi).2⟩⟩
theorem TA.fr {S : Nat → Prop} {M M' : Mem} {o : Nat} {T : Tn} (h : TA M o T) (hf : Fr S M M') (hS : ∀ a, oT o a → ¬ S a) : TA M' o T := by
  have ho := hS o ⟨Nat.le_refl _, by omega⟩
  have e := (hf.2.2.1 o ho).1
  refine ⟨h.1.fr hf ho, h.2.1, by rw [e]; exact h.2.2.1, by rw [e]; exact h.2.2.2.1, by rw [e]; exact h.2.2.2.2.1, fun i hi j hj => ?_⟩
  rw [(hf.2.2.1 (o + 1 + i) (hS _ ⟨by omega, by omega⟩)).1]
  exact h.2.2.2.2.2 i hi j hj
theorem TS.rd {M : Mem} {o i p : Nat} (h : TS M o) (hi : i < 5) (hp : p < 7) : (fR M 5 o i).bind (fun v => ldI M v (nI p)) = some (mI M (o + 1 + i) p) := by
  rw [fR_of h.1, Option.bind_some, (h.2 i hi).2, ldI_nI (h.2 i hi).1 hp (by decide)]
theorem TA.rd {M : Mem} {o i p : Nat} {T : Tn} (h : TA M o T) (hi : i < 5) (hp : p < tN T) : ldI M (o + 1 + i) (nI p) = some (tRow T i p) := by
  rw [ldI_nI (h.1.2 i hi).1 (Nat.lt_of_lt_of_le hp h.2.1) (by decide), h.2.2.2.2.2 i hi p hp]
theorem TA.fr0 {M : Mem} {o i : Nat} {T : Tn} (h : TA M o T) (hi : i < 5) : fR M 5 o i = some (o + 1 + i) := by
  rw [fR_of h.1.1, (h.1.2 i hi).2]
theorem TA.sz {M : Mem} {o : Nat} {T : Tn} (h : TA M o T) : fI M 5 o 5 = some (nI (tN T)) := by rw [fI_of h.1.1, h.2.2.1]
theorem TA.dy {M : Mem} {o : Nat} {T : Tn} (h : TA M o T) : fI M 5 o 6 = some (tDy T) := by rw [fI_of h.1.1, h.2.2.2.1]
theorem TA.mt {M : Mem} {o : Nat} {T : Tn} (h : TA M o T) : fI M 5 o 7 = some (tMt T) := by rw [fI_of h.1.1, h.2.2.2.2.1]
theorem TA.ck {M : Mem} {o : Nat} {T : Tn} (h : TA M o T) : chkT M 5 o = some () := chkT_of h.1.1
/-- a loop over places -/
def itr {α : Type} (f : Nat → α → α) : Nat → Nat → α → α
  | 0, _, a => a
  | k + 1, p, a => itr f k (p + 1) (f p a)
theorem itr_congr {α : Type} {f g : Nat → α → α} : ∀ (k p : Nat) (a : α), (∀ j, p ≤ j → j < p + k → ∀ b, f j b = g j b) → itr f k p a = itr g k p a
  | 0, _, _, _ => rfl
  | k + 1, p, a, h => by
    show itr f k (p + 1) (f p a) = itr g k (p + 1) (g p a)
    rw [h p (by omega) (by omega), itr_congr k (p + 1) _ (fun j h1 h2 b => h j (by omega) (by omega) b)]
theorem fu_get {n k : Nat} (h : k < n) : ∃ n', n = n' + 1 ∧ k ≤ n' := ⟨n - 1, by omega, by omega⟩
/-- who goes about a door, as bits -/
def goB (T : Tn) (d : Int32) : Int32 := itr (fun p b => if tD T p = d then b ||| ((1 : Int32) <<< (nI p &&& 31)) else b) (tN T) 0 0
theorem town_goers {M : Mem} {o : Nat} {T : Tn} (h : TA M o T) (d : Int32) : F_X5_goersAbout o d M = some (goB T d) := by
  have key : ∀ (k p n : Nat) (b : Int32), p + k = tN T → k < n → F_X5_goersAbout_4 M n o d b (nI p) = some (itr (fun p b => if tD T p = d then b ||| ((1 : Int32) <<< (nI p &&& 31)) else b) k p b) := by
    intro k
    induction k with
    | zero =>
      intro p n b hp hn
      obtain ⟨n, rfl, -⟩ := fu_get hn
      simp only [F_X5_goersAbout_4, h.sz, Option.bind_some]
      rw [if_pos (nI_le (by omega) (by have := h.2.1; omega))]
      rfl
    | succ k ih =>
      intro p n b hp hn
      obtain ⟨n, rfl, hn⟩ := fu_get hn
      have h7 := h.2.1
      simp only [F_X5_goersAbout_4, h.sz, Option.bind_some, h.fr0 (i := 1) (by omega), h.rd (i := 1) (by omega) (show p < tN T by omega), F_X5_goersAbout_28]
      rw [if_neg (nI_ge (by omega) (by omega)), nI_1, ih _ _ _ (by omega) (by omega), ih _ _ _ (by omega) (by omega)]
      show _ = some (itr _ k (p + 1) (if tD T p = d then _ else _))
      show (if tD T p = d then _ else _) = _
      split <;> rfl
  exact key (tN T) 0 FU 0 (by omega) (by have := h.2.1; unfold FU; omega)
