theorem TA.ext {M : Mem} {o : Nat} {T T' : Tn} (h : TA M o T) (h1 : tN T' = tN T) (h2 : tDy T' = tDy T) (h3 : tMt T' = tMt T) (h4 : ∀ i, i < 5 → ∀ j, j < tN T → tRow T' i j = tRow T i j) : TA M o T' :=
  ⟨h.1, by rw [h1]; exact h.2.1, by rw [h1]; exact h.2.2.1, by rw [h2]; exact h.2.2.2.1, by rw [h3]; exact h.2.2.2.2.1, fun i hi j hj => by rw [h1] at hj; rw [h4 i hi j hj]; exact h.2.2.2.2.2 i hi j hj⟩
theorem TA.set {M : Mem} {o i p : Nat} {v : Int32} {T T' : Tn} (h : TA M o T) (hi : i < 5) (h1 : tN T' = tN T) (h2 : tDy T' = tDy T) (h3 : tMt T' = tMt T) (h4 : ∀ i', i' < 5 → i' ≠ i → ∀ j, j < tN T → tRow T' i' j = tRow T i' j) (h5 : ∀ j, j < tN T → tRow T' i j = if j = p then v else tRow T i j) : TA (uI M (o + 1 + i) p v) o T' := by
  refine ⟨⟨h.1.1, fun i' hi' => h.1.2 i' hi'⟩, by rw [h1]; exact h.2.1, ?_, ?_, ?_, fun i' hi' j hj => ?_⟩
  · rw [mI_uI, if_neg (by omega), h1]; exact h.2.2.1
  · rw [mI_uI, if_neg (by omega), h2]; exact h.2.2.2.1
  · rw [mI_uI, if_neg (by omega), h3]; exact h.2.2.2.2.1
  · rw [h1] at hj
    rw [mI_uI]
    by_cases e : i' = i
    · subst e
      rw [if_pos rfl, h5 j hj]
      unfold upd
      by_cases e2 : j = p
      · rw [if_pos e2, if_pos e2]
      · rw [if_neg e2, if_neg e2]; exact h.2.2.2.2.2 i' hi j hj
    · rw [if_neg (by omega), h4 i' hi' e j hj]
      exact h.2.2.2.2.2 i' hi' j hj
theorem TA.setDy {M : Mem} {o : Nat} {v : Int32} {T : Tn} (h : TA M o T) : TA (uI M o 6 v) o (tSetDy T v) := by
  refine ⟨⟨h.1.1, h.1.2⟩, h.2.1, ?_, ?_, ?_, fun i hi j hj => ?_⟩
  · rw [mI_uI, if_pos rfl]; exact h.2.2.1
  · rw [mI_uI, if_pos rfl]; rfl
  · rw [mI_uI, if_pos rfl]; exact h.2.2.2.2.1
  · rw [mI_uI, if_neg (by omega)]; exact h.2.2.2.2.2 i hi j hj
theorem TA.setMt {M : Mem} {o : Nat} {v : Int32} {T : Tn} (h : TA M o T) : TA (uI M o 7 v) o (tSetMt T v) := by
  refine ⟨⟨h.1.1, h.1.2⟩, h.2.1, ?_, ?_, ?_, fun i hi j hj => ?_⟩
  · rw [mI_uI, if_pos rfl]; exact h.2.2.1
  · rw [mI_uI, if_pos rfl]; exact h.2.2.2.1
  · rw [mI_uI, if_pos rfl]; rfl
  · rw [mI_uI, if_neg (by omega)]; exact h.2.2.2.2.2 i hi j hj
/-! one day -/
def gO (d k s : Int32) : Int32 := if k = 1 then (if jrem d 2 = 0 then s else 0) else if k = 2 then 2 * s else if k = 3 then (if jrem d 3 = 0 then s + 1 else s) else s
theorem town_yardsOn (d k s : Int32) : F_X5_yardsOn d k s = some (gO d k s) := by
  unfold F_X5_yardsOn gO
  repeat' split
  all_goals rfl
/-- where one is behind n days, of that kind and pace -/
def yB (T : Tn) (n p : Nat) (k s : Int32) : Int32 := if tD T p = -4 then tY T p else itr (fun i y => jrem (y + gO (tDy T + nI i) k s) 12) n 0 (tY T p)
theorem town_yardBehind {M : Mem} {o : Nat} {T : Tn} (h : TA M o T) {n p : Nat} (hn : n ≤ 1000) (hp : p < tN T) (k s : Int32) : F_X5_yardBehind o (nI n) (nI p) k s M = some (yB T n p k s) := by
  have key : ∀ (j i f : Nat) (y : Int32), i + j = n → j < f → F_X5_yardBehind_25 M f o (nI n) k s y (nI i) = some (itr (fun i y => jrem (y + gO (tDy T + nI i) k s) 12) j i y) := by
    intro j
    induction j with
    | zero =>
      intro i f y hi hf
      obtain ⟨f, rfl, -⟩ := fu_get hf
      simp only [F_X5_yardBehind_25]
      rw [if_pos (nI_le (by omega) (by omega))]
      rfl
    | succ j ih =>
      intro i f y hi hf
      obtain ⟨f, rfl, hf⟩ := fu_get hf
      simp only [F_X5_yardBehind_25]
      rw [if_neg (nI_ge (by omega) (by omega)), h.dy]
      simp only [Option.bind_some, town_yardsOn]
      rw [nI_1, ih _ _ _ (by omega) (by omega)]
      rfl
  unfold F_X5_yardBehind yB
  rw [h.fr0 (i := 3) (by omega), Option.bind_some, h.rd (i := 3) (by omega) hp, Option.bind_some, h.fr0 (i := 1) (by omega), Option.bind_some, h.rd (i := 1) (by omega) hp, Option.bind_some]
  show (if tD T p = -4 then _ else _) = _
  split
  · rfl
  · exact key n 0 FU _ (by omega) (by unfold FU; omega)
/-- what two are to each other -/
def btw (T : Tn) (p q : Nat) : Int32 := if tD T p = -4 then 0 else if tD T p = tD T q then (if tY T p = tY T q then (if tW T p = tW T q then 2 else 1) else 0) else 0
theorem town_between {M : Mem} {o : Nat} {T : Tn} (h : TA M o T) {p q : Nat} (hp : p < tN T) (hq : q < tN T) : F_X5_between o (nI p) (nI q) M = some (btw T p q) := by
  unfold F_X5_between btw
  simp only [h.fr0 (i := 1) (by omega), h.fr0 (i := 2) (by omega), h.fr0 (i := 3) (by omega), Option.bind_some, h.rd (i := 1) (by omega) hp, h.rd (i := 1) (by omega) hq, h.rd (i := 2) (by omega) hp, h.rd (i := 2) (by omega) hq, h.rd (i := 3) (by omega) hp, h.rd (i := 3) (by omega) hq, tRow]
  repeat' split
  all_goals rfl
def shW (T : Tn) (p q : Nat) : Int32 := if tD T p = -4 then 0 else if tD T p = tD T q then (if tW T p = tW T q then 1 else 0) else 0
theorem town_share {M : Mem} {o : Nat} {T : Tn} (h : TA M o T) {p q : Nat} (hp : p < tN T) (hq : q < tN T) : F_X5_shareWreath o (nI p) (nI q) M = some (shW T p q) := by
  unfold F_X5_shareWreath shW
  simp only [h.fr0 (i := 1) (by omega), h.fr0 (i := 2) (by omega), Option.bind_some, h.rd (i := 1) (by omega) hp, h.rd (i := 1) (by omega) hq, h.rd (i := 2) (by omega) hp, h.rd (i := 2) (by omega) hq, tRow]
  repeat' split
  all_goals rfl
theorem town_kindOf {M : Mem} {o : Nat} {T : Tn} (h : TA M o T) {p : Nat} (hp : p < tN T) : F_X5_kindOf o (nI p) M = some (tK T p) := by
  unfold F_X5_kindOf
  simp only [h.fr0 (i := 0) (by omega), Option.bind_some, h.rd (i := 0) (by omega) hp, tRow]
theorem town_doorOf {M : Mem} {o : Nat} {T : Tn} (h : TA M o T) {p : Nat} (hp : p < tN T) : F_X5_doorOf o (nI p) M = some (tD T p) := by
  unfold F_X5_doorOf
  simp only [h.fr0 (i := 1) (by omega), Option.bind_some, h.rd (i := 1) (by omega) hp, tRow]
theorem town_widthOf {M : Mem} {o : Nat} {T : Tn} (h : TA M o T) {p : Nat} (hp : p < tN T) : F_X5_widthOf o (nI p) M = some (tW T p) := by
  unfold F_X5_widthOf
  simp only [h.fr0 (i := 2) (by omega), Option.bind_some, h.rd (i := 2) (by omega) hp, tRow]
theorem town_yardOf {M : Mem} {o : Nat} {T : Tn} (h : TA M o T) {p : Nat} (hp : p < tN T) : F_X5_yardOf o (nI p) M = some (tY T p) := by
  unfold F_X5_yardOf
  simp only [h.fr0 (i := 3) (by omega), Option.bind_some, h.rd (i := 3) (by omega) hp, tRow]
theorem town_paceOf {M : Mem} {o : Nat} {T : Tn} (h : TA M o T) {p : Nat} (hp : p < tN T) : F_X5_paceOf o (nI p) M = some (tP T p) := by
  unfold F_X5_paceOf
  simp only [h.fr0 (i := 4) (by omega), Option.bind_some, h.rd (i := 4) (by omega) hp, tRow]
theorem town_size {M : Mem} {o : Nat} {T : Tn} (h : TA M o T) : F_X5_size o M = some (nI (tN T)) := by
  unfold F_X5_size
  simp only [h.sz, Option.bind_some]
theorem town_day {M : Mem} {o : Nat} {T : Tn} (h : TA M o T) : F_X5_day o M = some (tDy T) := by
  unfold F_X5_day
  simp only [h.dy, Option.bind_some]
theorem town_meetings {M : Mem} {o : Nat} {T : Tn} (h : TA M o T) : F_X5_meetings o M = some (tMt T) := by
  unfold F_X5_meetings
  simp only [h.mt, Option.bind_some]
/-- how many twos are so -/
def prs (T : Tn) (how : Int32) : Int32 := itr (fun p c => itr (fun q c => if btw T p q = how then c + 1 else c) (tN T - (p + 1)) (p + 1) c) (tN T) 0 0
theorem town_pairs {M : Mem} {o : Nat} {T : Tn} (h : TA M o T) (how : Int32) : F_X5_pairs o how M = some (prs T how) := by
  have h7 := h.2.1
  have key1 : ∀ (r4 : Nat → Int32 → Int32 → Int32 → Option Int32) (p : Nat), p < tN T → ∀ (k q n : Nat) (c : Int32), q + k = tN T → k < n → F_X5_pairs_17 M r4 n o how c (nI p) (nI q) = r4 o how (itr (fun q c => if btw T p q = how then c + 1 else c) k q c) (nI (p + 1)) := by
    intro r4 p hp k
    induction k with
    | zero =>
      intro q n c hq hn
      obtain ⟨n, rfl, -⟩ := fu_get hn
      simp only [F_X5_pairs_17, h.sz, Option.bind_some]
      rw [if_pos (nI_le (by omega) (by omega)), nI_1]
      rfl
    | succ k ih =>
      intro q n c hq hn
      obtain ⟨n, rfl, hn⟩ := fu_get hn
      simp only [F_X5_pairs_17, h.sz, Option.bind_some, h.ck, town_between h hp (show q < tN T by omega), F_X5_pairs_40]
      rw [if_neg (nI_ge (by omega) (by omega)), nI_1, ih _ _ _ (by omega) (by omega), ih _ _ _ (by omega) (by omega)]
      show (if btw T p q = how then _ else _) = r4 o how (itr _ k (q + 1) (if btw T p q = how then _ else _)) _
      split <;> rfl
  have key2 : ∀ (k p n : Nat) (c : Int32), p + k = tN T → k < n → F_X5_pairs_4 M n o how c (nI p) = some (itr (fun p c => itr (fun q c => if btw T p q = how then c + 1 else c) (tN T - (p + 1)) (p + 1) c) k p c) := by
    intro k
    induction k with
    | zero =>
      intro p n c hp hn
      obtain ⟨n, rfl, -⟩ := fu_get hn
      simp only [F_X5_pairs_4, h.sz, Option.bind_some]
      rw [if_pos (nI_le (by omega) (by omega))]
      rfl
    | succ k ih =>
      intro p n c hp hn
      obtain ⟨n, rfl, hn⟩ := fu_get hn
      simp only [F_X5_pairs_4, h.sz, Option.bind_some]
      rw [if_neg (nI_ge (by omega) (by omega)), nI_1, key1 _ p (by omega) (tN T - (p + 1)) (p + 1) FU _ (by omega) (by unfold FU; omega), ih _ _ _ (by omega) (by omega)]
      rfl
  exact key2 (tN T) 0 FU 0 (by omega) (by unfold FU; omega)
/-- the yard behind one day -/
def y1 (T : Tn) (j : Nat) : Int32 := yB T 1 j (tK T j) (tP T j)
def rdT (T : Tn) : Tn := tSetDy (tSetY T (fun j => if j < tN T then y1 T j else tY T j)) (tDy T + 1)
theorem town_goRound {M : Mem} {o : Nat} {T : Tn} (h : TA M o T) : ∃ M', F_X5_goRound o M = some M' ∧ Fr (oT o) M M' ∧ TA M' o (rdT T) := by
  have h7 : tN T ≤ 7 := h.2.1
  have key : ∀ (k p n : Nat) (M : Mem), p + k = tN T → k < n → TA M o (tSetY T (fun j => if j < p then y1 T j else tY T j)) → ∃ M', F_X5_goRound_2 n o (nI p) M = some M' ∧ Fr (oT o) M M' ∧ TA M' o (rdT T) := by
    intro k
    induction k with
    | zero =>
      intro p n M hp hn h
      obtain ⟨n, rfl, -⟩ := fu_get hn
      have e : fI M 5 o 5 = some (nI (tN T)) := h.sz
      have e2 : fI M 5 o 6 = some (tDy T) := h.dy
      simp only [F_X5_goRound_2, e, e2, Option.bind_some, pI_of h.1.1]
      rw [if_pos (nI_le (by omega) (by omega))]
      refine ⟨_, rfl, Fr.uI ⟨Nat.le_refl _, by omega⟩, ?_⟩
      have h9 := h.setDy (v := tDy T + 1)
      have : p = tN T := by omega
      subst this
      exact h9
    | succ k ih =>
      intro p n M hp hn h
      obtain ⟨n, rfl, hn⟩ := fu_get hn
      have e : fI M 5 o 5 = some (nI (tN T)) := h.sz
      have hpN : p < tN T := by omega
      have e0 := h.rd (i := 0) (p := p) (by omega) hpN
      have e4 := h.rd (i := 4) (p := p) (by omega) hpN
      have eb := town_yardBehind h (n := 1) (p := p) (by omega) hpN (tK T p) (tP T p)
      have ey : yB (tSetY T (fun j => if j < p then y1 T j else tY T j)) 1 p (tK T p) (tP T p) = y1 T p := by
        have : (fun j => if j < p then y1 T j else tY T j) p = tY T p := if_neg (by omega)
        show (if tD T p = -4 then (fun j => if j < p then y1 T j else tY T j) p else itr _ 1 0 ((fun j => if j < p then y1 T j else tY T j) p)) = _
        rw [this]
        rfl
      rw [ey] at eb
      have e0' : ldI M (o + 1 + 0) (nI p) = some (tK T p) := e0
      have e4' : ldI M (o + 1 + 4) (nI p) = some (tP T p) := e4
      have es : stI M (o + 1 + 3) (nI p) (y1 T p) = some (uI M (o + 1 + 3) p (y1 T p)) := stI_nI _ (h.1.2 3 (by omega)).1 (by omega) (by decide)
      have eb' : F_X5_yardBehind o 1 (nI p) (tK T p) (tP T p) M = some (y1 T p) := eb
      simp only [F_X5_goRound_2, e, Option.bind_some, h.fr0 (i := 0) (by omega), h.fr0 (i := 3) (by omega), h.fr0 (i := 4) (by omega), e0', e4', h.ck, eb', es]
      rw [if_neg (nI_ge (by omega) (by omega)), nI_1]
      have h2 : TA (uI M (o + 1 + 3) p (y1 T p)) o (tSetY T (fun j => if j < p + 1 then y1 T j else tY T j)) := by
        refine h.set (by omega) rfl rfl rfl (fun i' hi' hne j hj => ?_) (fun j hj => ?_)
        · match i', hi', hne with
          | 0, _, _ => rfl
          | 1, _, _ => rfl
          | 2, _, _ => rfl
          | 3, _, hne => exact absurd rfl hne
          | 4, _, _ => rfl
        · show (if j < p + 1 then y1 T j else tY T j) = if j = p then y1 T p else if j < p then y1 T j else tY T j
          by_cases e1 : j = p
          · subst e1; rw [if_pos (by omega), if_pos rfl]
          · rw [if_neg e1]
            by_cases e2 : j < p
            · rw [if_pos (by omega), if_pos e2]
            · rw [if_neg (by omega), if_neg e2]
      obtain ⟨M', f1, f2, f3⟩ := ih (p + 1) n _ (by omega) (by omega) h2
      exact ⟨M', f1, (Fr.uI (S := oT o) ⟨by omega, by omega⟩).tr f2, f3⟩
  refine key (tN T) 0 FU M (by omega) (by unfold FU; omega) (h.ext rfl rfl rfl (fun i hi j hj => ?_))
  match i, hi with
  | 0, _ => rfl
  | 1, _ => rfl
  | 2, _ => rfl
  | 3, _ => show (if j < 0 then y1 T j else tY T j) = tY T j; exact if_neg (Nat.not_lt_zero j)
  | 4, _ => rfl
