/-! THE TEXT IS READ -/
def atX (X : Nat × (Nat → Int32)) (i : Nat) : Int32 := if i < X.1 then X.2 i else 0
abbrev fg (c : Int32) : Prop := 48 ≤ c ∧ c ≤ 57
theorem c_isFig (c : Int32) : F_X3_isFigure c = some (if fg c then 1 else 0) := by
  unfold F_X3_isFigure fg
  by_cases h1 : c < 48
  · rw [if_pos h1, if_neg (fun z => absurd h1 (Int32.not_lt.mpr z.1))]
  · rw [if_neg h1]
    by_cases h2 : (57 : Int32) < c
    · rw [if_pos h2, if_neg (fun z => absurd h2 (Int32.not_lt.mpr z.2))]
    · rw [if_neg h2, if_pos ⟨Int32.not_lt.mp h1, Int32.not_lt.mp h2⟩]
theorem inI_and (x a b : Int32) : inI x a b = if a ≤ x ∧ x ≤ b then 1 else 0 := by
  unfold inI
  by_cases h1 : x < a
  · rw [if_pos h1, if_neg (fun z => absurd h1 (Int32.not_lt.mpr z.1))]
  · rw [if_neg h1]
    by_cases h2 : b < x
    · rw [if_pos h2, if_neg (fun z => absurd h2 (Int32.not_lt.mpr z.2))]
    · rw [if_neg h2, if_pos ⟨Int32.not_lt.mp h1, Int32.not_lt.mp h2⟩]
theorem out_and (x a b : Int32) : F_X6_outside x a b = some (if a ≤ x ∧ x ≤ b then 0 else 1) := by
  unfold F_X6_outside F_X6_outside_10
  by_cases h1 : x < a
  · rw [if_pos h1, if_neg (fun z => absurd h1 (Int32.not_lt.mpr z.1))]
  · rw [if_neg h1]
    by_cases h2 : x ≤ b
    · rw [if_pos h2, if_pos ⟨Int32.not_lt.mp h1, h2⟩]
    · rw [if_neg h2, if_neg (fun z => h2 z.2)]
/-- the value of one number, and where it ends -/
def vlX (X : Nat × (Nat → Int32)) (i : Nat) : Int32 := if fg (atX X (i + 1)) then 10 * (atX X i - 48) + (atX X (i + 1) - 48) else atX X i - 48
def edX (X : Nat × (Nat → Int32)) (i : Nat) : Nat := if fg (atX X (i + 1)) then i + 2 else i + 1
abbrev okX (X : Nat × (Nat → Int32)) (i : Nat) (sep lo hi : Int32) : Prop := fg (atX X i) ∧ (lo ≤ vlX X i ∧ vlX X i ≤ hi) ∧ atX X (edX X i) = sep
/-! the reference -/
theorem r_here {M : Mem} {X : Nat × (Nat → Int32)} (hs : RS M) (ht : RTx M X.1 X.2) (hX : X.1 ≤ 200) {i : Nat} (hi : i < 1000) (hp : mI M 100 17 = nI i) : F_X7_here 100 M = some (atX X i) := by
  unfold F_X7_here atX
  rw [hs.i 17, hs.i 16, Option.bind_some, Option.bind_some, hp, ht.1]
  by_cases e : i < X.1
  · rw [if_neg (nI_ge e (by omega)), if_pos e, hs.r 15 (a := 110) rfl, Option.bind_some, Option.bind_some, ldI_nI (hs.s 15 (a := 110) rfl) (by omega) (by omega), Option.bind_some, ht.2 i e]
  · rw [if_pos (nI_le (by omega) (by omega)), if_neg e]
theorem r_isFig {M : Mem} {X : Nat × (Nat → Int32)} (hs : RS M) (ht : RTx M X.1 X.2) (hX : X.1 ≤ 200) {i : Nat} (hi : i < 1000) (hp : mI M 100 17 = nI i) : F_X7_isFigure 100 M = some (if fg (atX X i) then 1 else 0) := by
  unfold F_X7_isFigure
  rw [hs.ck, Option.bind_some, r_here hs ht hX hi hp, Option.bind_some, ref_in, Option.bind_some, rN_in, Option.bind_some, inI_and]
theorem RTx.up {M : Mem} {n : Nat} {g : Nat → Int32} (h : RTx M n g) {f : Nat} {v : Int32} (hf : f ≠ 16) : RTx (uI M 100 f v) n g := h.of (uI_f _ _ _ _ hf.symm) (uI_a _ _ _ _ _ (by decide))
theorem r_num60 {M : Mem} {X : Nat × (Nat → Int32)} (hs : RS M) (ht : RTx M X.1 X.2) (hX : X.1 ≤ 200) {j : Nat} (hj : j < 1000) (hp : mI M 100 17 = nI j) (lo hi sep v : Int32) :
    ∃ M', F_X7_number_60 100 lo hi sep v M = some (if (lo ≤ v ∧ v ≤ hi) ∧ atX X j = sep then 1 else 0, M') ∧ Fr (fun a => a = 100) M M' ∧ (∀ f, f ≠ 17 → f ≠ 20 → mI M' 100 f = mI M 100 f) ∧ (((lo ≤ v ∧ v ≤ hi) ∧ atX X j = sep) → mI M' 100 17 = nI (j + 1) ∧ mI M' 100 20 = v) := by
  have hs1 : RS (uI M 100 20 v) := hs
  have hp1 : mI (uI M 100 20 v) 100 17 = nI j := by rw [uI_f _ _ _ _ (by omega)]; exact hp
  have ht1 : RTx (uI M 100 20 v) X.1 X.2 := ht.up (by decide)
  have hf1 : Fr (fun a => a = 100) M (uI M 100 20 v) := Fr.uI rfl
  have ho1 : ∀ f, f ≠ 17 → f ≠ 20 → mI (uI M 100 20 v) 100 f = mI M 100 f := fun f _ h2 => uI_f _ _ _ _ h2
  unfold F_X7_number_60
  rw [hs.p, Option.bind_some, hs1.ck, Option.bind_some, r_here hs1 ht1 hX hj hp1, Option.bind_some]
  by_cases e : atX X j = sep
  · rw [if_pos e, ref_in, Option.bind_some, inI_and]
    by_cases e2 : lo ≤ v ∧ v ≤ hi
    · rw [if_pos e2, if_neg d10, hs1.i, Option.bind_some, hp1, nI_1, hs1.p, Option.bind_some]
      refine ⟨uI (uI M 100 20 v) 100 17 (nI (j + 1)), by rw [if_pos ⟨e2, e⟩], hf1.tr (Fr.uI rfl), fun f h1 h2 => by rw [uI_f _ _ _ _ h1, uI_f _ _ _ _ h2], fun _ => ⟨by rw [mI_uI, if_pos rfl, upd_eq], by rw [uI_f _ _ _ _ (by omega), mI_uI, if_pos rfl, upd_eq]⟩⟩
    · rw [if_neg e2, if_pos rfl]
      exact ⟨_, by rw [if_neg (fun z => e2 z.1)], hf1, ho1, fun z => absurd z.1 e2⟩
  · rw [if_neg e]
    exact ⟨_, by rw [if_neg (fun z => e z.2)], hf1, ho1, fun z => absurd z.2 e⟩
theorem num_2 (a b : Int32) : 10 * (a - 48) + b - 48 = 10 * (a - 48) + (b - 48) := by
  rw [Int32.sub_eq_add_neg, Int32.sub_eq_add_neg b, Int32.add_assoc]
theorem r_number {M : Mem} {X : Nat × (Nat → Int32)} (hs : RS M) (ht : RTx M X.1 X.2) (hX : X.1 ≤ 200) {i : Nat} (hi0 : i < 900) (hp : mI M 100 17 = nI i) (lo hi sep : Int32) :
    ∃ M', F_X7_number 100 lo hi sep M = some (if okX X i sep lo hi then 1 else 0, M') ∧ Fr (fun a => a = 100) M M' ∧ (∀ f, f ≠ 17 → f ≠ 20 → mI M' 100 f = mI M 100 f) ∧ (okX X i sep lo hi → mI M' 100 17 = nI (edX X i + 1) ∧ mI M' 100 20 = vlX X i) := by
  unfold F_X7_number
  rw [hs.ck, Option.bind_some, r_isFig hs ht hX (by omega) hp, Option.bind_some]
  by_cases e : fg (atX X i)
  · have hs1 : RS (uI M 100 17 (nI (i + 1))) := hs
    have hp1 : mI (uI M 100 17 (nI (i + 1))) 100 17 = nI (i + 1) := by rw [mI_uI, if_pos rfl, upd_eq]
    have ht1 : RTx (uI M 100 17 (nI (i + 1))) X.1 X.2 := ht.up (by decide)
    rw [if_pos e, if_neg d10, Option.bind_some, r_here hs ht hX (by omega) hp, Option.bind_some, hs.i, Option.bind_some, hp, nI_1, hs.p, Option.bind_some, hs1.ck, Option.bind_some, r_isFig hs1 ht1 hX (by omega) hp1, Option.bind_some]
    unfold okX vlX edX
    by_cases e2 : fg (atX X (i + 1))
    · have hs2 : RS (uI (uI M 100 17 (nI (i + 1))) 100 17 (nI (i + 1 + 1))) := hs
      have hp2 : mI (uI (uI M 100 17 (nI (i + 1))) 100 17 (nI (i + 1 + 1))) 100 17 = nI (i + 2) := by rw [mI_uI, if_pos rfl, upd_eq]
      have ht2 : RTx (uI (uI M 100 17 (nI (i + 1))) 100 17 (nI (i + 1 + 1))) X.1 X.2 := ht1.up (by decide)
      rw [if_pos e2, if_neg d10, Option.bind_some, r_here hs1 ht1 hX (by omega) hp1, Option.bind_some, hs1.i, Option.bind_some, hp1, nI_1, hs1.p, Option.bind_some, num_2, if_pos e2, if_pos e2]
      obtain ⟨M', g1, g2, g3, g4⟩ := r_num60 hs2 ht2 hX (by omega) hp2 lo hi sep (10 * (atX X i - 48) + (atX X (i + 1) - 48))
      refine ⟨M', ?_, ((Fr.uI (S := fun a => a = 100) rfl).tr (Fr.uI (S := fun a => a = 100) rfl)).tr g2, fun f h1 h2 => by rw [g3 f h1 h2, uI_f _ _ _ _ h1, uI_f _ _ _ _ h1], fun z => g4 z.2⟩
      rw [g1]
      by_cases e3 : (lo ≤ 10 * (atX X i - 48) + (atX X (i + 1) - 48) ∧ 10 * (atX X i - 48) + (atX X (i + 1) - 48) ≤ hi) ∧ atX X (i + 2) = sep
      · rw [if_pos e3, if_pos ⟨e, e3⟩]
      · rw [if_neg e3, if_neg (fun z => e3 z.2)]
    · rw [if_neg e2, if_pos rfl, if_neg e2, if_neg e2]
      obtain ⟨M', g1, g2, g3, g4⟩ := r_num60 hs1 ht1 hX (by omega) hp1 lo hi sep (atX X i - 48)
      refine ⟨M', ?_, (Fr.uI (S := fun a => a = 100) rfl).tr g2, fun f h1 h2 => by rw [g3 f h1 h2, uI_f _ _ _ _ h1], fun z => g4 z.2⟩
      rw [g1]
      by_cases e3 : (lo ≤ atX X i - 48 ∧ atX X i - 48 ≤ hi) ∧ atX X (i + 1) = sep
      · rw [if_pos e3, if_pos ⟨e, e3⟩]
      · rw [if_neg e3, if_neg (fun z => e3 z.2)]
  · rw [if_neg e, if_pos rfl]
    exact ⟨M, by rw [if_neg (fun z => e z.1)], Fr.rf, fun _ _ _ => rfl, fun z => absurd z.1 e⟩
/-! the class -/
theorem rN_char : ∀ c, c < 127 → rN .char (nI c) = some (nI c) := by decide +kernel
theorem c_letter {M : Mem} {X : Nat × (Nat → Int32)} (h : CSh M) (ht : CTx M X.1 X.2) (hX : X.1 ≤ 200) (hc : ∀ j, j < X.1 → ∃ c, 32 ≤ c ∧ c ≤ 126 ∧ X.2 j = nI c) {i : Nat} (hi : i < 1000) : F_X3_letterAt 6 (nI i) M = some (atX X i) := by
  have hs6 := h.s 1 rfl
  have hs7 := h.s 2 rfl
  unfold F_X3_letterAt atX
  rw [fI_of hs6, Option.bind_some, ht.1, out_and, Option.bind_some]
  by_cases e : i < X.1
  · obtain ⟨c, c1, c2, c3⟩ := hc i e
    have hle : nI i ≤ nI X.1 - 1 := by rw [nI_m1 (by omega)]; exact nI_le (by omega) (by omega)
    have el : ldC M 7 (nI i) = some (X.2 i) := by
      unfold ldC
      rw [hs7]
      simp only [inR_nI (show i < 200 by omega) (by omega), nI_clamp (show i < 2 ^ 31 by omega)]
      rw [ht.2 i e]
      rfl
    have er : rN .char (X.2 i) = some (X.2 i) := by
      rw [c3]
      exact rN_char c (by omega)
    have eo : (if (0 : Int32) ≤ nI i ∧ nI i ≤ nI X.1 - 1 then (0 : Int32) else 1) = 0 := if_pos ⟨nI_pos' (by omega), hle⟩
    rw [eo, if_pos rfl, if_pos e, fR_of hs6, Option.bind_some, h.r 10 rfl, el, Option.bind_some, er, Option.bind_some]
  · suffices eo : (if (0 : Int32) ≤ nI i ∧ nI i ≤ nI X.1 - 1 then (0 : Int32) else 1) = 1 by
      rw [eo, if_neg d10, if_neg e]
    apply if_neg
    rintro ⟨-, z⟩
    by_cases e0 : X.1 = 0
    · rw [e0] at z
      have hz : nI i ≤ -1 := z
      exact absurd hz (Int32.not_le.mpr (Int32.lt_of_lt_of_le (show (-1 : Int32) < 0 by decide) (nI_pos' (by omega))))
    · rw [nI_m1 (by omega)] at z
      exact nI_ge (by omega) (by omega) z
theorem c_figs {M : Mem} {X : Nat × (Nat → Int32)} (h : CSh M) (ht : CTx M X.1 X.2) (hX : X.1 ≤ 200) (hc : ∀ j, j < X.1 → ∃ c, 32 ≤ c ∧ c ≤ 126 ∧ X.2 j = nI c) {i : Nat} (hi : i < 900) : F_X3_figuresAt 6 (nI i) M = some (if fg (atX X i) then nI (edX X i - i) else 0) := by
  unfold F_X3_figuresAt edX
  rw [chkT_of (h.s 1 rfl), Option.bind_some, c_letter h ht hX hc (by omega), Option.bind_some, c_isFig, Option.bind_some]
  by_cases e : fg (atX X i)
  · rw [if_pos e, if_neg d10, Option.bind_some, nI_1, c_letter h ht hX hc (by omega), Option.bind_some, c_isFig, Option.bind_some, if_pos e]
    by_cases e2 : fg (atX X (i + 1))
    · rw [if_pos e2, if_neg d10, if_pos e2, show i + 2 - i = 2 by omega]; rfl
    · rw [if_neg e2, if_pos rfl, if_neg e2, show i + 1 - i = 1 by omega]; rfl
  · rw [if_neg e, if_pos rfl, if_neg e]
theorem ten0 (a : Int32) : 10 * 0 + a = a := by
  rw [Int32.mul_zero, Int32.zero_add]
theorem c_numb {M : Mem} {X : Nat × (Nat → Int32)} (h : CSh M) (ht : CTx M X.1 X.2) (hX : X.1 ≤ 200) (hc : ∀ j, j < X.1 → ∃ c, 32 ≤ c ∧ c ≤ 126 ∧ X.2 j = nI c) {i : Nat} (hi : i < 900) : F_X3_numberAt 6 (nI i) (nI (edX X i - i)) M = some (vlX X i) := by
  have l0 : F_X3_letterAt 6 (nI i + 0) M = some (atX X i) := by rw [Int32.add_zero]; exact c_letter h ht hX hc (by omega)
  have l1 : F_X3_letterAt 6 (nI i + 1) M = some (atX X (i + 1)) := by rw [nI_1]; exact c_letter h ht hX hc (by omega)
  have key : ∀ n, F_X3_numberAt_5 M (n + 1 + 1 + 1) 6 (nI i) (nI (edX X i - i)) 0 0 = some (vlX X i) := by
    intro n
    unfold edX vlX
    simp only [F_X3_numberAt_5]
    by_cases e2 : fg (atX X (i + 1))
    · rw [if_pos e2, if_pos e2, show i + 2 - i = 2 by omega, if_neg (show ¬ nI 2 ≤ 0 by decide), chkT_of (h.s 1 rfl), Option.bind_some, l0, Option.bind_some, if_neg (show ¬ nI 2 ≤ 0 + 1 by decide), Option.bind_some, show (0 : Int32) + 1 = 1 from rfl, l1, Option.bind_some, if_pos (show nI 2 ≤ 1 + 1 by decide), ten0]
    · rw [if_neg e2, if_neg e2, show i + 1 - i = 1 by omega, if_neg (show ¬ nI 1 ≤ 0 by decide), chkT_of (h.s 1 rfl), Option.bind_some, l0, Option.bind_some, if_pos (show nI 1 ≤ 0 + 1 by decide), ten0]
  unfold F_X3_numberAt
  have hf : FU = 999997 + 1 + 1 + 1 := rfl
  rw [hf]
  exact key 999997
