/-! SPREAD: bits, the search for widths, guests -/
theorem bt_128 : ∀ m, m < 128 → ∀ w, w < 7 → (nI m &&& ((1 : Int32) <<< (nI w &&& 31)) = 0 ↔ m.testBit w = false) := by decide +kernel
/-- a number that holds just these bits -/
def Bt (v : Int32) (S : Nat → Prop) : Prop := ∃ c, c < 128 ∧ v = nI c ∧ ∀ q, q < 7 → (c.testBit q = true ↔ S q)
theorem Bt.z : Bt 0 (fun _ => False) := ⟨0, by omega, rfl, fun q _ => by simp⟩
theorem Bt.ext {v : Int32} {S S' : Nat → Prop} (h : Bt v S) (e : ∀ q, q < 7 → (S q ↔ S' q)) : Bt v S' := by
  obtain ⟨c, hc, hv, h⟩ := h
  exact ⟨c, hc, hv, fun q hq => (h q hq).trans (e q hq)⟩
theorem Bt.or {v : Int32} {S : Nat → Prop} {q : Nat} (h : Bt v S) (hq : q < 7) : Bt (v ||| ((1 : Int32) <<< (nI q &&& 31))) (fun j => S j ∨ j = q) := by
  obtain ⟨c, hc, rfl, h⟩ := h
  refine ⟨c ||| 2 ^ q, Nat.or_lt_two_pow (n := 7) hc (Nat.pow_lt_pow_right (by omega) hq), by rw [bit_nI q (by omega), nI_or], fun j hj => ?_⟩
  rw [Nat.testBit_or, Bool.or_eq_true, h j hj, Nat.testBit_two_pow, decide_eq_true_iff]
  exact ⟨fun z => z.imp id Eq.symm, fun z => z.imp id Eq.symm⟩
theorem Bt.and {v : Int32} {S : Nat → Prop} {q : Nat} (h : Bt v S) (hq : q < 7) : v &&& ((1 : Int32) <<< (nI q &&& 31)) = 0 ↔ ¬ S q := by
  obtain ⟨c, hc, rfl, h⟩ := h
  rw [bt_128 c hc q hq, ← h q hq]
  exact (Bool.not_eq_true _).symm.to_iff
theorem Bt.has_t {v : Int32} {S : Nat → Prop} {q : Nat} (h : Bt v S) (hq : q < 7) (hS : S q) : F_X7_has v (nI q) = some 1 := by
  have h2 : IsB v := by
    obtain ⟨c, hc, hv, -⟩ := h
    exact ⟨c, by omega, hv⟩
  rw [has_eq h2 (by omega), if_neg (fun z => (h.and hq).mp z hS)]
theorem Bt.has_f {v : Int32} {S : Nat → Prop} {q : Nat} (h : Bt v S) (hq : q < 7) (hS : ¬ S q) : F_X7_has v (nI q) = some 0 := by
  have h2 : IsB v := by
    obtain ⟨c, hc, hv, -⟩ := h
    exact ⟨c, by omega, hv⟩
  rw [has_eq h2 (by omega), if_pos ((h.and hq).mpr hS)]
def mxW (w : Nat → Nat) : Nat → Nat
  | 0 => 0
  | a + 1 => max (mxW w a) (w a)
abbrev fre (cf : Nat → Nat → Bool) (w : Nat → Nat) (a t : Nat) : Prop := ∀ b, b < a → ¬ (w b = t ∧ cf a b = true)
def sTr (f : Nat → Option (Nat → Nat)) : Nat → Nat → Option (Nat → Nat)
  | 0, _ => none
  | j + 1, t => match f t with
    | some r => some r
    | none => sTr f j (t + 1)
def sPt (cf : Nat → Nat → Bool) (L : Nat) : Nat → Nat → (Nat → Nat) → Option (Nat → Nat)
  | 0, _, w => some w
  | k + 1, a, w => sTr (fun t => if fre cf w a t then sPt cf L k (a + 1) (va_up w a t) else none) (min (mxW w a + 1) L) 1
def sVl (o : Option (Nat → Nat)) : Int32 := match o with
  | some _ => 1
  | none => 0
def sNx (cf : Nat → Nat → Bool) (w : Nat → Nat) (a : Nat) : Nat → Nat → Nat
  | 0, _ => 0
  | j + 1, t => if fre cf w a t then t else sNx cf w a j (t + 1)
def sLst (P : Nat → Option (Nat → Nat)) : Nat → Nat → Nat × (Nat → Nat)
  | 0, L => (L, (P L).getD (fun _ => 0))
  | j + 1, L => match P L with
    | some r => (L, r)
    | none => sLst P j (L + 1)
theorem mxW_le (w : Nat → Nat) : ∀ (a b : Nat), b < a → w b ≤ mxW w a
  | 0, _, h => absurd h (Nat.not_lt_zero _)
  | a + 1, b, h => by
    unfold mxW
    by_cases e : b = a
    · rw [e]; exact Nat.le_max_right _ _
    · exact Nat.le_trans (mxW_le w a b (by omega)) (Nat.le_max_left _ _)
theorem mxW_cg {w w' : Nat → Nat} : ∀ (a : Nat), (∀ b, b < a → w b = w' b) → mxW w a = mxW w' a
  | 0, _ => rfl
  | a + 1, h => by
    unfold mxW
    rw [mxW_cg a (fun b hb => h b (by omega)), h a (by omega)]
theorem mxW_up (w : Nat → Nat) (a t : Nat) : mxW (va_up w a t) (a + 1) = max (mxW w a) t := by
  show max (mxW (va_up w a t) a) (va_up w a t a) = _
  rw [vu_eq, mxW_cg (w' := w) a (fun b hb => vu_ne (by omega))]
theorem sTr_some {f : Nat → Option (Nat → Nat)} : ∀ (j t i : Nat), i < j → f (t + i) ≠ none → sTr f j t ≠ none
  | 0, _, _, h, _ => absurd h (Nat.not_lt_zero _)
  | j + 1, t, i, h, hf => by
    unfold sTr
    cases e : f t with
    | some r => exact fun z => by cases z
    | none =>
      have hi : i ≠ 0 := fun z => hf (by rw [z]; exact e)
      exact sTr_some j (t + 1) (i - 1) (by omega) (by rw [show t + 1 + (i - 1) = t + i by omega]; exact hf)
theorem sPt_ok (cf : Nat → Nat → Bool) (L : Nat) : ∀ (k a : Nat) (w : Nat → Nat), a + k ≤ L → mxW w a ≤ a → sPt cf L k a w ≠ none
  | 0, _, _, _, _ => fun z => by cases z
  | k + 1, a, w, hL, hm => by
    unfold sPt
    refine sTr_some _ _ (mxW w a) (by omega) ?_
    show (if fre cf w a (1 + mxW w a) then sPt cf L k (a + 1) (va_up w a (1 + mxW w a)) else none) ≠ none
    rw [if_pos (fun b hb z => by have := mxW_le w a b hb; omega)]
    exact sPt_ok cf L k (a + 1) _ (by omega) (by rw [mxW_up]; omega)
/-- the next that is free, against the tries -/
theorem sNx_tr {cf : Nat → Nat → Bool} {w : Nat → Nat} {a : Nat} {f : Nat → Option (Nat → Nat)} (hf : ∀ t, ¬ fre cf w a t → f t = none) : ∀ (j t : Nat), 1 ≤ t → (sNx cf w a j t = 0 ∧ sTr f j t = none) ∨ (∃ i, i < j ∧ sNx cf w a j t = t + i ∧ fre cf w a (t + i) ∧ sTr f j t = sTr f (j - i) (t + i))
  | 0, _, _ => Or.inl ⟨rfl, rfl⟩
  | j + 1, t, ht => by
    by_cases e : fre cf w a t
    · refine Or.inr ⟨0, by omega, ?_, e, rfl⟩
      show (if fre cf w a t then t else sNx cf w a j (t + 1)) = t
      rw [if_pos e]
    · have e1 : sNx cf w a (j + 1) t = sNx cf w a j (t + 1) := by
        show (if fre cf w a t then t else sNx cf w a j (t + 1)) = _
        rw [if_neg e]
      have e2 : sTr f (j + 1) t = sTr f j (t + 1) := by
        conv => lhs; unfold sTr
        rw [hf t e]
      rcases sNx_tr hf j (t + 1) (by omega) with ⟨h1, h2⟩ | ⟨i, h1, h2, h3, h4⟩
      · exact Or.inl ⟨e1.trans h1, e2.trans h2⟩
      · refine Or.inr ⟨i + 1, by omega, by rw [e1, h2]; omega, by rw [show t + (i + 1) = t + 1 + i by omega]; exact h3, ?_⟩
        rw [e2, h4, show j + 1 - (i + 1) = j - i by omega, show t + 1 + i = t + (i + 1) by omega]
/-! who are guests -/
def ixG (T : Tn) (d : Int32) : Nat → Nat
  | 0 => 0
  | p + 1 => if tD T p = d then ixG T d p + 1 else ixG T d p
def ggG (T : Tn) (d : Int32) : Nat → Nat → Nat
  | 0 => fun _ => 0
  | p + 1 => if tD T p = d then va_up (ggG T d p) (ixG T d p) p else ggG T d p
theorem ixG_t {T : Tn} {d : Int32} {p : Nat} (h : tD T p = d) : ixG T d (p + 1) = ixG T d p + 1 := if_pos h
theorem ixG_f {T : Tn} {d : Int32} {p : Nat} (h : ¬ tD T p = d) : ixG T d (p + 1) = ixG T d p := if_neg h
theorem ixG_le (T : Tn) (d : Int32) : ∀ p, ixG T d p ≤ p
  | 0 => Nat.le_refl _
  | p + 1 => by
    have := ixG_le T d p
    by_cases e : tD T p = d
    · rw [ixG_t e]; omega
    · rw [ixG_f e]; omega
theorem ixG_mono (T : Tn) (d : Int32) (q : Nat) : ∀ k, ixG T d q ≤ ixG T d (q + k)
  | 0 => Nat.le_refl _
  | k + 1 => by
    have := ixG_mono T d q k
    show ixG T d q ≤ ixG T d (q + k + 1)
    by_cases e : tD T (q + k) = d
    · rw [ixG_t e]; omega
    · rw [ixG_f e]; omega
theorem ixG_lt {T : Tn} {d : Int32} {q p : Nat} (hq : q < p) (h : tD T q = d) : ixG T d q < ixG T d p := by
  have := ixG_mono T d (q + 1) (p - (q + 1))
  rw [show q + 1 + (p - (q + 1)) = p by omega, ixG_t h] at this
  omega
theorem ixG_ex (T : Tn) (d : Int32) : ∀ (p b : Nat), b < ixG T d p → ∃ q, q < p ∧ tD T q = d ∧ ixG T d q = b
  | 0, _, h => absurd h (Nat.not_lt_zero _)
  | p + 1, b, h => by
    by_cases e : tD T p = d
    · by_cases e2 : b = ixG T d p
      · exact ⟨p, by omega, e, e2.symm⟩
      · rw [ixG_t e] at h
        obtain ⟨q, h1, h2⟩ := ixG_ex T d p b (by omega)
        exact ⟨q, by omega, h2⟩
    · rw [ixG_f e] at h
      obtain ⟨q, h1, h2⟩ := ixG_ex T d p b h
      exact ⟨q, by omega, h2⟩
theorem ggG_eq {T : Tn} {d : Int32} {q : Nat} (h : tD T q = d) : ∀ k, ggG T d (q + 1 + k) (ixG T d q) = q
  | 0 => by
    show (if tD T q = d then va_up (ggG T d q) (ixG T d q) q else ggG T d q) (ixG T d q) = q
    rw [if_pos h, vu_eq]
  | k + 1 => by
    show (if tD T (q + 1 + k) = d then va_up (ggG T d (q + 1 + k)) (ixG T d (q + 1 + k)) (q + 1 + k) else ggG T d (q + 1 + k)) (ixG T d q) = q
    have ih := ggG_eq h k
    by_cases e : tD T (q + 1 + k) = d
    · have := ixG_lt (p := q + 1 + k) (by omega) h
      rw [if_pos e, vu_ne (by omega), ih]
    · rw [if_neg e, ih]
def gsG (T : Tn) (d : Int32) : Nat → Nat := ggG T d (tN T)
theorem gsG_eq {T : Tn} {d : Int32} {q : Nat} (hq : q < tN T) (h : tD T q = d) : gsG T d (ixG T d q) = q := by
  have := ggG_eq h (tN T - (q + 1))
  rw [show q + 1 + (tN T - (q + 1)) = tN T by omega] at this
  exact this
def ngG (T : Tn) (d : Int32) : Nat := ixG T d (tN T)
def cfG (T : Tn) (d : Int32) (a b : Nat) : Bool := decide (¬ shV T (gsG T d a) (gsG T d b) 25 0 = 0)
theorem shV_ex (T : Tn) (p q : Nat) : ∀ k d, ¬ shV T p q k d = 0 ↔ ∃ i, i < k ∧ yB T (d + i) p (tK T p) (tP T p) = yB T (d + i) q (tK T q) (tP T q)
  | 0, _ => ⟨fun h => absurd rfl h, fun ⟨i, h, _⟩ => absurd h (Nat.not_lt_zero i)⟩
  | k + 1, d => by
    unfold shV
    by_cases e : yB T d p (tK T p) (tP T p) = yB T d q (tK T q) (tP T q)
    · rw [if_pos e]
      exact ⟨fun _ => ⟨0, by omega, e⟩, fun _ => d10⟩
    · rw [if_neg e, shV_ex T p q k (d + 1)]
      constructor
      · rintro ⟨i, h1, h2⟩
        exact ⟨i + 1, by omega, by rw [show d + (i + 1) = d + 1 + i by omega]; exact h2⟩
      · rintro ⟨i, h1, h2⟩
        have hi : i ≠ 0 := fun z => e (by rw [z] at h2; exact h2)
        exact ⟨i - 1, by omega, by rw [show d + 1 + (i - 1) = d + i by omega]; exact h2⟩
/-- those two clash within the days -/
def clG (T : Tn) (n p q : Nat) : Prop := ∃ i, i < n ∧ ¬ btw (rdN i T) p q = 0
theorem cl_cf {T : Tn} {d : Int32} (hd : ¬ d = -4) {p q : Nat} (hp : p < tN T) (hq : q < tN T) (ep : tD T p = d) (eq : tD T q = d) : clG T 25 p q ↔ cfG T d (ixG T d p) (ixG T d q) = true := by
  unfold cfG clG
  rw [gsG_eq hp ep, gsG_eq hq eq, decide_eq_true_iff, shV_ex]
  constructor
  · rintro ⟨i, h1, h2⟩
    refine ⟨i, h1, ?_⟩
    rw [Nat.zero_add]
    exact Classical.byContradiction (fun z => h2 ((btw_0 T hp hq (by rw [ep]; exact hd) i).mpr (fun y => z y.2)))
  · rintro ⟨i, h1, h2⟩
    rw [Nat.zero_add] at h2
    exact ⟨i, h1, fun z => (btw_0 T hp hq (by rw [ep]; exact hd) i).mp z ⟨by rw [ep, eq], h2⟩⟩
