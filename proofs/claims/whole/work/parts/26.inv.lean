/-! THE CLASS'S CELLS -/
def shT : List (Nat × Nat × Nat) := [(5, 6, 10), (6, 3, 3), (7, 11, 200), (8, 10, 5), (21, 2, 2), (22, 12, 8), (71, 2, 2), (72, 12, 2), (85, 1, 4), (86, 10, 6), (87, 10, 6), (88, 10, 6), (89, 1, 4), (90, 10, 6), (91, 10, 6), (92, 10, 6), (93, 4, 4), (94, 10, 7), (95, 10, 7), (96, 0, 2), (97, 10, 12), (98, 10, 12), (99, 10, 13)]
def rfT : List (Nat × Nat × Nat) := [(5, 0, 6), (5, 1, 9), (5, 2, 15), (5, 3, 21), (5, 4, 71), (5, 5, 85), (5, 6, 89), (5, 7, 93), (5, 8, 96), (5, 9, 99), (6, 0, 7), (6, 1, 8), (21, 0, 22), (71, 0, 72), (85, 0, 86), (85, 1, 87), (85, 2, 88), (89, 0, 90), (89, 1, 91), (89, 2, 92), (93, 0, 94), (93, 1, 95)]
def twT : List Nat := [9, 15, 23, 29, 35, 41, 47, 53, 59, 65, 73, 79]
def CSh (M : Mem) : Prop := (∀ q ∈ shT, mS M q.1 = q.2) ∧ (∀ q ∈ rfT, mR M q.1 q.2.1 = q.2.2) ∧ (∀ o ∈ twT, TS M o) ∧ (mS M 3 = (13, 5) ∧ mS M 4 = (13, 5)) ∧ (∀ j, j < 5 → mI M 3 j = tab3.getD j 0 ∧ mI M 4 j = tab4.getD j 0)
theorem CSh.fr {S : Nat → Prop} {M M' : Mem} (h : CSh M) (hf : Fr S M M') (h3 : ¬ S 3 ∧ ¬ S 4) : CSh M' := by
  refine ⟨fun q hq => by rw [hf.s]; exact h.1 q hq, fun q hq => ?_, fun o ho => ?_, ⟨by rw [hf.s]; exact h.2.2.2.1.1, by rw [hf.s]; exact h.2.2.2.1.2⟩, fun j hj => by rw [hf.i h3.1, hf.i h3.2]; exact h.2.2.2.2 j hj⟩
  · have hn : ¬ Rf q.1 := by
      revert q
      unfold Rf
      decide
    rw [hf.r hn]
    exact h.2.1 q hq
  · have hn : ¬ Rf o := by
      revert o
      unfold Rf
      decide
    have ht := h.2.2.1 o ho
    exact ⟨by rw [hf.s]; exact ht.1, fun i hi => ⟨by rw [hf.s]; exact (ht.2 i hi).1, by rw [hf.r hn]; exact (ht.2 i hi).2⟩⟩
theorem CSh.s {M : Mem} (h : CSh M) (k : Nat) {a t n : Nat} (e : shT[k]? = some (a, t, n)) : mS M a = (t, n) := h.1 _ (List.mem_of_getElem? e)
theorem CSh.r {M : Mem} (h : CSh M) (k : Nat) {a f v : Nat} (e : rfT[k]? = some (a, f, v)) : mR M a f = v := h.2.1 _ (List.mem_of_getElem? e)
theorem CSh.t {M : Mem} (h : CSh M) (k : Nat) {o : Nat} (e : twT[k]? = some o) : TS M o := h.2.2.1 _ (List.mem_of_getElem? e)
/-- a reference that the class's object holds -/
theorem CSh.f {M : Mem} (h : CSh M) {f v : Nat} (e : rfT[f]? = some (5, f, v)) : fR M 6 5 f = some v := by rw [fR_of (h.s 0 rfl), h.r f e]
theorem CSh.c {M : Mem} (h : CSh M) : chkT M 6 5 = some () := chkT_of (h.s 0 rfl)
def oC : Nat → Prop := fun a => 5 ≤ a ∧ a < 100
/-! its parts -/
def CTx (M : Mem) (n : Nat) (f : Nat → Int32) : Prop := mI M 6 2 = nI n ∧ ∀ j, j < n → mI M 7 j = f j
def RTx (M : Mem) (n : Nat) (f : Nat → Int32) : Prop := mI M 100 16 = nI n ∧ ∀ j, j < n → mI M 111 j = f j
def CNt (M : Mem) (o n : Nat) (w d y : Nat → Int32) : Prop := mI M o 3 = nI n ∧ ∀ j, j < n → mI M (o + 1) j = w j ∧ mI M (o + 2) j = d j ∧ mI M (o + 3) j = y j
def RSn (M : Mem) (n : Nat) (w d y : Nat → Int32) : Prop := mI M 100 8 = nI n ∧ ∀ j, j < n → mI M 106 j = w j ∧ mI M 107 j = d j ∧ mI M 108 j = y j
def RTd (M : Mem) (n : Nat) (d y : Nat → Int32) : Prop := mI M 100 12 = nI n ∧ ∀ j, j < n → mI M 109 j = d j ∧ mI M 110 j = y j
/-- a pile at o with its row of c towns, which begin at b -/
def CPl (M : Mem) (o b c n : Nat) (U : Nat → Tn) : Prop := mI M o 1 = nI n ∧ n ≤ c ∧ (∀ i, i < c → ∃ k, k < c ∧ mR M (o + 1) i = b + 6 * k) ∧ (∀ i j, i < c → j < c → mR M (o + 1) i = mR M (o + 1) j → i = j) ∧ ∀ i, i < n → TA M (mR M (o + 1) i) (U i)
/-- a town noted in a row of the reference -/
def NA (M : Mem) (row at_ : Nat) (T : Tn) : Prop := mI M row at_ = tDy T ∧ mI M row (at_ + 1) = tMt T ∧ ∀ p, p < tN T → mI M row (at_ + 2 + p) = tD T p ∧ mI M row (at_ + 9 + p) = tW T p ∧ mI M row (at_ + 16 + p) = tY T p ∧ mI M row (at_ + 23 + p) = tP T p
def RPl (M : Mem) (row fld n : Nat) (U : Nat → Tn) : Prop := mI M 100 fld = nI n ∧ ∀ i, i < n → NA M row (30 * i) (U i)
/-- of the same people, of the same kinds -/
def sameK (T U : Tn) : Prop := tN U = tN T ∧ ∀ j, j < tN T → tK U j = tK T j
/-- the numbers are such as are told -/
def TOk (T : Tn) : Prop := 1 ≤ tN T ∧ tN T ≤ 7 ∧ ∀ j, j < tN T → (∃ k, k ≤ 3 ∧ tK T j = nI k) ∧ ((tD T j = -4 ∧ tW T j = -4) ∨ ((∃ k, k ≤ 5 ∧ tD T j = nI k) ∧ ∃ k, 1 ≤ k ∧ k ≤ 9 ∧ tW T j = nI k)) ∧ (∃ k, k < 12 ∧ tY T j = nI k) ∧ ∃ k, k < 12 ∧ tP T j = nI k
/-- all that both sides stand for: text, town, undone, kept, seen, told -/
abbrev Sg : Type := (Nat × (Nat → Int32)) × Tn × (Nat × (Nat → Tn)) × (Nat × (Nat → Tn)) × (Nat × (Nat → Int32) × (Nat → Int32) × (Nat → Int32)) × (Nat × (Nat → Int32) × (Nat → Int32))
def gX (G : Sg) : Nat × (Nat → Int32) := G.1
def gT (G : Sg) : Tn := G.2.1
def gU (G : Sg) : Nat × (Nat → Tn) := G.2.2.1
def gK (G : Sg) : Nat × (Nat → Tn) := G.2.2.2.1
def gS (G : Sg) : Nat × (Nat → Int32) × (Nat → Int32) × (Nat → Int32) := G.2.2.2.2.1
def gD (G : Sg) : Nat × (Nat → Int32) × (Nat → Int32) := G.2.2.2.2.2
def GOk (G : Sg) : Prop := (gX G).1 ≤ 200 ∧ (∀ j, j < (gX G).1 → ∃ c, 32 ≤ c ∧ c ≤ 126 ∧ (gX G).2 j = nI c) ∧ TOk (gT G) ∧ (gU G).1 ≤ 8 ∧ (∀ i, i < (gU G).1 → sameK (gT G) ((gU G).2 i) ∧ TOk ((gU G).2 i)) ∧ (gK G).1 ≤ 2 ∧ (∀ i, i < (gK G).1 → sameK (gT G) ((gK G).2 i) ∧ TOk ((gK G).2 i)) ∧ (gS G).1 ≤ 6 ∧ (∀ j, j < (gS G).1 → ∃ d, d ≤ 24 ∧ (gS G).2.2.1 j = nI d) ∧ (gD G).1 ≤ 6
def CI (M : Mem) (G : Sg) : Prop := CSh M ∧ CTx M (gX G).1 (gX G).2 ∧ TA M 9 (gT G) ∧ CPl M 21 23 8 (gU G).1 (gU G).2 ∧ CPl M 71 73 2 (gK G).1 (gK G).2 ∧ CNt M 85 (gS G).1 (gS G).2.1 (gS G).2.2.1 (gS G).2.2.2 ∧ (∃ w, CNt M 89 (gD G).1 w (gD G).2.1 (gD G).2.2) ∧ ((mR M 96 0 = 97 ∧ mR M 96 1 = 98) ∨ (mR M 96 0 = 98 ∧ mR M 96 1 = 97))
def RI (M : Mem) (G : Sg) : Prop := RA M (gT G) ∧ RTx M (gX G).1 (gX G).2 ∧ RPl M 113 22 (gU G).1 (gU G).2 ∧ RPl M 118 29 (gK G).1 (gK G).2 ∧ RSn M (gS G).1 (gS G).2.1 (gS G).2.2.1 (gS G).2.2.2 ∧ RTd M (gD G).1 (gD G).2.1 (gD G).2.2
theorem CTx.fr {S : Nat → Prop} {M M' : Mem} {n : Nat} {f : Nat → Int32} (h : CTx M n f) (hf : Fr S M M') (h1 : ¬ S 6) (h2 : ¬ S 7) : CTx M' n f := ⟨by rw [hf.i h1]; exact h.1, fun j hj => by rw [hf.i h2]; exact h.2 j hj⟩
theorem CNt.fr {S : Nat → Prop} {M M' : Mem} {o n : Nat} {w d y : Nat → Int32} (h : CNt M o n w d y) (hf : Fr S M M') (h1 : ∀ a, o ≤ a → a < o + 4 → ¬ S a) : CNt M' o n w d y := ⟨by rw [hf.i (h1 o (by omega) (by omega))]; exact h.1, fun j hj => by rw [hf.i (h1 (o + 1) (by omega) (by omega)), hf.i (h1 (o + 2) (by omega) (by omega)), hf.i (h1 (o + 3) (by omega) (by omega))]; exact h.2 j hj⟩
theorem CPl.fr {S : Nat → Prop} {M M' : Mem} {o b c n : Nat} {U : Nat → Tn} (h : CPl M o b c n U) (hf : Fr S M M') (h1 : ¬ S o) (h2 : ¬ S (o + 1)) (h3 : ∀ a, b ≤ a → a < b + 6 * c → ¬ S a) : CPl M' o b c n U := by
  have e := (hf.2.2.1 (o + 1) h2).2
  refine ⟨by rw [hf.i h1]; exact h.1, h.2.1, by rw [e]; exact h.2.2.1, by rw [e]; exact h.2.2.2.1, fun i hi => ?_⟩
  rw [e]
  refine (h.2.2.2.2 i hi).fr hf (fun a ha => ?_)
  obtain ⟨k, hk, hk2⟩ := h.2.2.1 i (Nat.lt_of_lt_of_le hi h.2.1)
  rw [hk2] at ha
  unfold oT at ha
  exact h3 a (by omega) (by omega)
/-- the class's parts are as they were, where nothing of them is touched -/
theorem CI.fr {S : Nat → Prop} {M M' : Mem} {G : Sg} (h : CI M G) (hf : Fr S M M') (hS : ∀ a, 3 ≤ a → a < 100 → ¬ S a) : CI M' G := by
  obtain ⟨h1, h2, h3, h4, h5, h6, ⟨w, h7⟩, h8⟩ := h
  refine ⟨h1.fr hf ⟨hS 3 (by omega) (by omega), hS 4 (by omega) (by omega)⟩, h2.fr hf (hS 6 (by omega) (by omega)) (hS 7 (by omega) (by omega)), h3.fr hf (fun a ha => hS a (by unfold oT at ha; omega) (by unfold oT at ha; omega)), h4.fr hf (hS 21 (by omega) (by omega)) (hS 22 (by omega) (by omega)) (fun a h1 h2 => hS a (by omega) (by omega)), h5.fr hf (hS 71 (by omega) (by omega)) (hS 72 (by omega) (by omega)) (fun a h1 h2 => hS a (by omega) (by omega)), h6.fr hf (fun a h1 h2 => hS a (by omega) (by omega)), ⟨w, h7.fr hf (fun a h1 h2 => hS a (by omega) (by omega))⟩, ?_⟩
  rw [(hf.2.2.1 96 (hS 96 (by omega) (by omega))).2]
  exact h8
theorem RI.fr {S : Nat → Prop} {M M' : Mem} {G : Sg} (h : RI M G) (hf : Fr S M M') (hS : ∀ a, oM a → ¬ S a) : RI M' G := by
  obtain ⟨h1, h2, h3, h4, h5, h6⟩ := h
  have e : ∀ a, 100 ≤ a → a < 119 → mI M' a = mI M a := fun a h1 h2 => hf.i (hS a ⟨h1, h2⟩)
  have e0 := e 100 (by omega) (by omega)
  refine ⟨h1.fr hf hS, ?_, ?_, ?_, ?_, ?_⟩
  · unfold RTx; rw [e0, e 111 (by omega) (by omega)]; exact h2
  · unfold RPl NA; rw [e0, e 113 (by omega) (by omega)]; exact h3
  · unfold RPl NA; rw [e0, e 118 (by omega) (by omega)]; exact h4
  · unfold RSn; rw [e0, e 106 (by omega) (by omega), e 107 (by omega) (by omega), e 108 (by omega) (by omega)]; exact h5
  · unfold RTd; rw [e0, e 109 (by omega) (by omega), e 110 (by omega) (by omega)]; exact h6
