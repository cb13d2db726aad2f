/-! RINGS -/
def rgV (G : Sg) (a b : Int32) : Nat → Nat → Int32
  | 0, _ => 1
  | k + 1, i => if jrem (a + (gD G).2.1 i * b) 12 = (gD G).2.2 i then rgV G a b k (i + 1) else 0
theorem rgV_01 (G : Sg) (a b : Int32) : ∀ k i, rgV G a b k i = 0 ∨ rgV G a b k i = 1
  | 0, _ => Or.inr rfl
  | k + 1, i => by
    unfold rgV
    split
    · exact rgV_01 G a b k (i + 1)
    · exact Or.inl rfl
theorem c_fitR {G : Sg} (hG : GOk G) (a b : Int32) {M : Mem} (h : CI M G) : F_X1_fitRing 89 a b M = some (rgV G a b (gD G).1 0) := by
  have h6 := hG.2.2.2.2.2.2.2.2.2
  obtain ⟨w, hn⟩ := h.2.2.2.2.2.2.1
  have e0 : fI M 1 89 3 = some (nI (gD G).1) := by rw [fI_of (h.1.s 12 rfl), hn.1]
  have q1 : fR M 1 89 1 = some 91 := by rw [fR_of (h.1.s 12 rfl), h.1.r 18 rfl]
  have q2 : fR M 1 89 2 = some 92 := by rw [fR_of (h.1.s 12 rfl), h.1.r 19 rfl]
  have key : ∀ (k i n : Nat), i + k = (gD G).1 → k < n → F_X1_fitRing_2 M n 89 a b (nI i) = some (rgV G a b k i) := by
    intro k
    induction k with
    | zero =>
      intro i n hi hn
      obtain ⟨n, rfl, -⟩ := fu_get hn
      simp only [F_X1_fitRing_2]
      rw [e0, Option.bind_some, if_pos (nI_le (by omega) (by omega))]
      rfl
    | succ k ih =>
      intro i n hi hn2
      obtain ⟨n, rfl, hn2⟩ := fu_get hn2
      obtain ⟨w1, w2, w3⟩ := hn.2 i (by omega)
      have l1 : ldI M 91 (nI i) = some ((gD G).2.1 i) := by rw [ldI_nI (h.1.s 14 rfl) (by omega) (by omega)]; exact congrArg some w2
      have l2 : ldI M 92 (nI i) = some ((gD G).2.2 i) := by rw [ldI_nI (h.1.s 15 rfl) (by omega) (by omega)]; exact congrArg some w3
      simp only [F_X1_fitRing_2]
      rw [e0, Option.bind_some, if_neg (nI_ge (by omega) (by omega)), q1, Option.bind_some, l1, Option.bind_some, q2, Option.bind_some, l2, Option.bind_some, nI_1, ih (i + 1) n (by omega) (by omega)]
      conv => rhs; unfold rgV
      split <;> rfl
  unfold F_X1_fitRing
  exact key (gD G).1 0 FU (by omega) (FU_gt (by omega))
theorem r_fitR {G : Sg} (hG : GOk G) (a b : Int32) {M : Mem} (h : RI M G) : F_X7_isRing 100 a b M = some (rgV G a b (gD G).1 0) := by
  have h6 := hG.2.2.2.2.2.2.2.2.2
  have hn := h.2.2.2.2.2
  have e0 : fI M 7 100 12 = some (nI (gD G).1) := by rw [h.1.1.i, hn.1]
  have key0 : ∀ (k i n : Nat), i + k = (gD G).1 → k < n → F_X7_isRing_5 M n 100 a b 0 (nI i) = some 0 := by
    intro k
    induction k with
    | zero =>
      intro i n hi hn
      obtain ⟨n, rfl, -⟩ := fu_get hn
      simp only [F_X7_isRing_5]
      rw [e0, Option.bind_some, if_pos (nI_le (by omega) (by omega))]
      rfl
    | succ k ih =>
      intro i n hi hn2
      obtain ⟨n, rfl, hn2⟩ := fu_get hn2
      simp only [F_X7_isRing_5]
      unfold F_X7_isRing_46 F_X7_isRing_47
      rw [e0, Option.bind_some, if_neg (nI_ge (by omega) (by omega)), if_pos trivial, nI_1]
      exact ih (i + 1) n (by omega) (by omega)
  have key : ∀ (k i n : Nat), i + k = (gD G).1 → k < n → F_X7_isRing_5 M n 100 a b 1 (nI i) = some (rgV G a b k i) := by
    intro k
    induction k with
    | zero =>
      intro i n hi hn
      obtain ⟨n, rfl, -⟩ := fu_get hn
      simp only [F_X7_isRing_5]
      rw [e0, Option.bind_some, if_pos (nI_le (by omega) (by omega))]
      rfl
    | succ k ih =>
      intro i n hi hn2
      obtain ⟨n, rfl, hn2⟩ := fu_get hn2
      obtain ⟨w2, w3⟩ := hn.2 i (by omega)
      have l1 : ldI M 109 (nI i) = some ((gD G).2.1 i) := by rw [ldI_nI (h.1.1.s 13 (a := 108) rfl) (by omega) (by omega)]; exact congrArg some w2
      have l2 : ldI M 110 (nI i) = some ((gD G).2.2 i) := by rw [ldI_nI (h.1.1.s 14 (a := 109) rfl) (by omega) (by omega)]; exact congrArg some w3
      simp only [F_X7_isRing_5]
      unfold F_X7_isRing_46 F_X7_isRing_47
      rw [e0, Option.bind_some, if_neg (nI_ge (by omega) (by omega)), if_neg d10, h.1.1.r 13 (a := 108) rfl, Option.bind_some, l1, Option.bind_some, h.1.1.r 14 (a := 109) rfl, Option.bind_some, l2, Option.bind_some, nI_1, ih (i + 1) n (by omega) (by omega), key0 k (i + 1) n (by omega) (by omega)]
      conv => rhs; unfold rgV
      split <;> rfl
  unfold F_X7_isRing
  exact key (gD G).1 0 FU (by omega) (FU_gt (by omega))
/-- whether the ring with that number is told of -/
def rgJ (G : Sg) (j : Nat) : Int32 := rgV G (nI (j / 12)) (nI (j % 12)) (gD G).1 0
theorem rgJ_01 (G : Sg) (j : Nat) : rgJ G j = 0 ∨ rgJ G j = 1 := rgV_01 G _ _ _ _
theorem rgJ_ab (G : Sg) {a b : Nat} (hb : b < 12) : rgJ G (12 * a + b) = rgV G (nI a) (nI b) (gD G).1 0 := by
  unfold rgJ
  rw [show (12 * a + b) / 12 = a by omega, show (12 * a + b) % 12 = b by omega]
def cnR (R : Nat → Int32) : Nat → Nat → Int32
  | 0, _ => 0
  | k + 1, i => (if R i = 0 then 0 else 1) + cnR R k (i + 1)
def frR (R : Nat → Int32) : Nat → Nat → Int32
  | 0, _ => -4
  | k + 1, i => if R i = 0 then frR R k (i + 1) else nI i
def dsR (R : Nat → Int32) (base : Nat) : Nat → Int32 × Int32 → Int32 × Int32
  | 0, s => s
  | b + 1, s => dsR R base b (if R (base + b) = 0 then s else (s.1 + 1, nI (base + b)))
theorem dsR_add (R : Nat → Int32) (m : Nat) : ∀ (b : Nat) (s : Int32 × Int32), dsR R 0 (m + b) s = dsR R 0 m (dsR R m b s)
  | 0, _ => rfl
  | b + 1, s => by
    show dsR R 0 (m + b) (if R (0 + (m + b)) = 0 then s else (s.1 + 1, nI (0 + (m + b)))) = dsR R 0 m (dsR R m b (if R (m + b) = 0 then s else (s.1 + 1, nI (m + b))))
    rw [dsR_add R m b, Nat.zero_add]
theorem cnR_last (R : Nat → Int32) : ∀ (k i : Nat), cnR R (k + 1) i = cnR R k i + (if R (i + k) = 0 then 0 else 1)
  | 0, i => by
    show (if R i = 0 then 0 else 1) + (0 : Int32) = 0 + (if R i = 0 then 0 else 1)
    rw [Int32.add_zero, Int32.zero_add]
  | k + 1, i => by
    show (if R i = 0 then 0 else 1) + cnR R (k + 1) (i + 1) = (if R i = 0 then 0 else 1) + cnR R k (i + 1) + _
    rw [cnR_last R k (i + 1), Int32.add_assoc, show i + 1 + k = i + (k + 1) by omega]
theorem nI_n4 {i : Nat} (h : i < 2 ^ 31) : ¬ nI i = -4 := fun e => by
  have := nI_pos h
  rw [e] at this
  exact this (by decide)
theorem frR_last (R : Nat → Int32) : ∀ (k i : Nat), i + k < 2 ^ 31 → frR R (k + 1) i = if frR R k i = -4 then (if R (i + k) = 0 then -4 else nI (i + k)) else frR R k i
  | 0, i, _ => by
    show (if R i = 0 then -4 else nI i) = if (-4 : Int32) = -4 then (if R i = 0 then -4 else nI i) else -4
    rw [if_pos rfl]
  | k + 1, i, h => by
    show (if R i = 0 then frR R (k + 1) (i + 1) else nI i) = if (if R i = 0 then frR R k (i + 1) else nI i) = -4 then _ else (if R i = 0 then frR R k (i + 1) else nI i)
    by_cases e : R i = 0
    · rw [if_pos e, if_pos e, frR_last R k (i + 1) (by omega), show i + 1 + k = i + (k + 1) by omega]
    · rw [if_neg e, if_neg e, if_neg (nI_n4 (by omega))]
theorem dsR_1 (R : Nat → Int32) : ∀ (j : Nat) (s : Int32 × Int32), (dsR R 0 j s).1 = s.1 + cnR R j 0
  | 0, s => (Int32.add_zero _).symm
  | j + 1, s => by
    show (dsR R 0 j (if R (0 + j) = 0 then s else (s.1 + 1, nI (0 + j)))).1 = _
    rw [dsR_1 R j, cnR_last]
    by_cases e : R (0 + j) = 0
    · rw [if_pos e, if_pos e, Int32.add_zero]
    · rw [if_neg e, if_neg e]
      show s.1 + 1 + cnR R j 0 = _
      rw [Int32.add_assoc, Int32.add_comm 1]
theorem dsR_2 (R : Nat → Int32) : ∀ (j : Nat) (s : Int32 × Int32), j < 2 ^ 31 → (dsR R 0 j s).2 = if frR R j 0 = -4 then s.2 else frR R j 0
  | 0, s, _ => by
    show s.2 = if (-4 : Int32) = -4 then s.2 else -4
    rw [if_pos rfl]
  | j + 1, s, h => by
    show (dsR R 0 j (if R (0 + j) = 0 then s else (s.1 + 1, nI (0 + j)))).2 = _
    rw [dsR_2 R j _ (by omega), frR_last R j 0 (by omega)]
    by_cases e : R (0 + j) = 0
    · rw [if_pos e, if_pos e]
      by_cases e2 : frR R j 0 = -4
      · rw [if_pos e2, if_pos e2, if_pos rfl]
      · rw [if_neg e2, if_neg e2, if_neg e2]
    · rw [if_neg e, if_neg e]
      by_cases e2 : frR R j 0 = -4
      · rw [if_pos e2]
        exact (if_neg (nI_n4 (by omega))).symm
      · rw [if_neg e2, if_neg e2]
theorem div12 : ∀ j, j < 144 → nI j / 12 = nI (j / 12) ∧ jrem (nI j) 12 = nI (j % 12) := by decide +kernel
theorem c_rings {G : Sg} (hG : GOk G) (x : Int32) {M : Mem} (h : CI M G) : ∀ (k j n : Nat) (c f : Int32), j + k = 144 → k < n → F_X6_rings_19 M n 5 x c f (nI j) = some (if x = 0 then c + cnR (rgJ G) k j else if f = -4 then frR (rgJ G) k j else f) := by
  intro k
  induction k with
  | zero =>
    intro j n c f hj hn
    obtain ⟨n, rfl, -⟩ := fu_get hn
    have : j = 144 := by omega
    subst this
    simp only [F_X6_rings_19]
    rw [if_pos (show (144 : Int32) ≤ nI 144 by decide)]
    unfold cnR frR
    rw [Int32.add_zero]
    by_cases e : x = 0
    · rw [if_pos e, if_pos e]
    · rw [if_neg e, if_neg e]
      by_cases e2 : f = -4
      · rw [if_pos e2, e2]
      · rw [if_neg e2]
  | succ k ih =>
    intro j n c f hj hn
    obtain ⟨n, rfl, hn⟩ := fu_get hn
    obtain ⟨d1, d2⟩ := div12 j (by omega)
    simp only [F_X6_rings_19]
    unfold F_X6_rings_59
    rw [if_neg (show ¬ (144 : Int32) ≤ nI j from nI_ge (b := 144) (by omega) (by omega)), h.1.f (f := 6) rfl, Option.bind_some, chkT_of (h.1.s 12 rfl), Option.bind_some, d1, d2, c_fitR hG _ _ h, Option.bind_some, nI_1]
    rw [show rgV G (nI (j / 12)) (nI (j % 12)) (gD G).1 0 = rgJ G j from rfl]
    conv => rhs; unfold cnR frR
    by_cases e : rgJ G j = 0
    · rw [if_pos e, if_pos e, if_pos e, ih (j + 1) n _ _ (by omega) (by omega), Int32.zero_add]
    · rw [if_neg e, if_neg e, if_neg e]
      by_cases e2 : f = -4
      · rw [if_pos e2, if_pos e2, ih (j + 1) n _ _ (by omega) (by omega), if_neg (nI_n4 (by omega)), Int32.add_assoc]
      · rw [if_neg e2, if_neg e2, ih (j + 1) n _ _ (by omega) (by omega), if_neg e2, Int32.add_assoc]
theorem nI_dn (b : Nat) : nI (b + 1) + (-1) = nI b := by
  rw [← Int32.sub_eq_add_neg, nI_pred]
theorem r_rings29 {G : Sg} (hG : GOk G) (x : Int32) {M : Mem} (h : RI M G) (r20 : Nat → Int32 → Int32 → Int32 → Int32 → Option Int32) {a : Nat} (ha : a < 12) : ∀ (b n : Nat) (s : Int32 × Int32), b ≤ 12 → b < n → F_X7_rings_29 M r20 n 100 x s.1 s.2 (nI a) (nI b + (-1)) = r20 100 x (dsR (rgJ G) (12 * a) b s).1 (dsR (rgJ G) (12 * a) b s).2 (nI a + (-1)) := by
  intro b
  induction b with
  | zero =>
    intro n s hb hn
    obtain ⟨n, rfl, -⟩ := fu_get hn
    simp only [F_X7_rings_29]
    rw [if_pos (show nI 0 + (-1) < 0 by decide)]
    rfl
  | succ b ih =>
    intro n s hb hn
    obtain ⟨n, rfl, hn⟩ := fu_get hn
    have e12 : (12 : Int32) * nI a + nI b = nI (12 * a + b) := by rw [show (12 : Int32) * nI a = nI (12 * a) from (Int32.ofNat_mul 12 a).symm, nI_add]
    simp only [F_X7_rings_29]
    unfold F_X7_rings_61 F_X7_rings_73
    rw [nI_dn, if_neg (nI_pos (by omega)), h.1.ck, Option.bind_some, r_fitR hG _ _ h, Option.bind_some, ← rgJ_ab G (by omega), e12]
    show _ = r20 100 x (dsR (rgJ G) (12 * a) b (if rgJ G (12 * a + b) = 0 then s else (s.1 + 1, nI (12 * a + b)))).1 (dsR (rgJ G) (12 * a) b (if rgJ G (12 * a + b) = 0 then s else (s.1 + 1, nI (12 * a + b)))).2 (nI a + (-1))
    by_cases e : rgJ G (12 * a + b) = 0
    · rw [if_pos e, if_pos e, if_pos e, Int32.add_zero]
      exact ih n s (by omega) (by omega)
    · rw [if_neg e, if_neg e, if_neg e]
      exact ih n (s.1 + 1, nI (12 * a + b)) (by omega) (by omega)
theorem r_rings20 {G : Sg} (hG : GOk G) (x : Int32) {M : Mem} (h : RI M G) : ∀ (a n : Nat) (s : Int32 × Int32), a ≤ 12 → a < n → F_X7_rings_20 M n 100 x s.1 s.2 (nI a + (-1)) = some (if x = 0 then (dsR (rgJ G) 0 (12 * a) s).1 else (dsR (rgJ G) 0 (12 * a) s).2) := by
  intro a
  induction a with
  | zero =>
    intro n s hb hn
    obtain ⟨n, rfl, -⟩ := fu_get hn
    simp only [F_X7_rings_20]
    rw [if_pos (show nI 0 + (-1) < 0 by decide)]
    by_cases e : x = 0
    · rw [if_pos e, if_pos e]; rfl
    · rw [if_neg e, if_neg e]; rfl
  | succ a ih =>
    intro n s hb hn
    obtain ⟨n, rfl, hn⟩ := fu_get hn
    have e12 : (11 : Int32) = nI 12 + (-1) := by decide
    simp only [F_X7_rings_20]
    rw [nI_dn, if_neg (nI_pos (by omega)), e12, r_rings29 hG x h _ (by omega) 12 FU s (by omega) (FU_gt (by omega)), ih n (dsR (rgJ G) (12 * a) 12 s) (by omega) (by omega), show 12 * (a + 1) = 12 * a + 12 by omega, dsR_add]
theorem q_rings {G : Sg} (hG : GOk G) (x : Int32) : QQ (F_X6_rings 5 x) (F_X7_rings 100 x) G := by
  by_cases hx : InR 0 1 x
  · refine ⟨if x = 0 then cnR (rgJ G) 144 0 else frR (rgJ G) 144 0, fun M h => ?_, fun M h => ?_⟩
    · unfold F_X6_rings
      rw [out_t 0 1 0 1 hx, Option.bind_some, if_pos rfl]
      have := c_rings hG x h 144 0 FU 0 (-4) (by omega) (FU_gt (by omega))
      rw [Int32.zero_add, if_pos (show (-4 : Int32) = -4 from rfl)] at this
      exact this
    · unfold F_X7_rings
      rw [in_t 0 1 0 1 hx, Option.bind_some, if_neg d10]
      have := r_rings20 hG x h 12 FU (0, -4) (by omega) (FU_gt (by omega))
      rw [dsR_1, dsR_2 _ _ _ (by omega)] at this
      refine this.trans (congrArg some ?_)
      show (if x = 0 then 0 + cnR (rgJ G) 144 0 else if frR (rgJ G) 144 0 = -4 then -4 else frR (rgJ G) 144 0) = _
      rw [Int32.zero_add]
      by_cases e : frR (rgJ G) 144 0 = -4
      · rw [if_pos e, e]
      · rw [if_neg e]
  · refine ⟨-1, fun M h => ?_, fun M h => ?_⟩
    · unfold F_X6_rings
      rw [out_f 0 1 0 1 hx, Option.bind_some, if_neg d10]
    · unfold F_X7_rings
      rw [in_f 0 1 0 1 hx, Option.bind_some, if_pos rfl]
