/-! LIKELY: sums, weights, the common divisor -/
def smN (f : Nat → Nat) : Nat → Nat
  | 0 => 0
  | n + 1 => smN f n + f n
theorem smN_cg {f g : Nat → Nat} : ∀ (n : Nat), (∀ j, j < n → f j = g j) → smN f n = smN g n
  | 0, _ => rfl
  | n + 1, h => by
    show smN f n + f n = smN g n + g n
    rw [smN_cg n (fun j hj => h j (by omega)), h n (by omega)]
theorem smN_add (f g : Nat → Nat) : ∀ (n : Nat), smN (fun j => f j + g j) n = smN f n + smN g n
  | 0 => rfl
  | n + 1 => by
    show smN (fun j => f j + g j) n + (f n + g n) = (smN f n + f n) + (smN g n + g n)
    rw [smN_add f g n]
    omega
theorem smN_mul (f : Nat → Nat) (c : Nat) : ∀ (n : Nat), smN (fun j => f j * c) n = smN f n * c
  | 0 => (Nat.zero_mul c).symm
  | n + 1 => by
    show smN (fun j => f j * c) n + f n * c = (smN f n + f n) * c
    rw [smN_mul f c n, Nat.add_mul]
theorem smN_0 : ∀ (n : Nat), smN (fun _ => 0) n = 0
  | 0 => rfl
  | n + 1 => by
    show smN (fun _ => 0) n + 0 = 0
    rw [smN_0 n]
theorem smN_le {f g : Nat → Nat} (h : ∀ j, f j ≤ g j) : ∀ (n : Nat), smN f n ≤ smN g n
  | 0 => Nat.le_refl _
  | n + 1 => Nat.add_le_add (smN_le h n) (h n)
theorem smN_rg (f : Nat → Nat) (a : Nat) : ∀ (b : Nat), smN f (a + b) = smN f a + smN (fun r => f (a + r)) b
  | 0 => rfl
  | b + 1 => by
    show smN f (a + b) + f (a + b) = smN f a + (smN (fun r => f (a + r)) b + f (a + b))
    rw [smN_rg f a b]
    omega
theorem smN_dl (h : Nat → Nat) (c : Nat) : ∀ (n : Nat), smN (fun y => if c = y then h y else 0) n = if c < n then h c else 0
  | 0 => by
    rw [if_neg (Nat.not_lt_zero c)]
    rfl
  | n + 1 => by
    show smN _ n + (if c = n then h n else 0) = _
    rw [smN_dl h c n]
    by_cases e : c = n
    · subst e
      rw [if_neg (by omega), if_pos rfl, if_pos (by omega), Nat.zero_add]
    · rw [if_neg e, Nat.add_zero]
      by_cases e2 : c < n
      · rw [if_pos e2, if_pos (by omega)]
      · rw [if_neg e2, if_neg (by omega)]
/-- one day more, over the yards -/
def nxF (W : Nat → Nat) (x g Y t : Nat) : Nat := smN (fun y => (if y = t then W y * x else 0) + (if (y + g) % 12 = t then W y * (10 - x) else 0)) Y
theorem nxF_add (F H : Nat → Nat) (x g Y t : Nat) : nxF (fun y => F y + H y) x g Y t = nxF F x g Y t + nxF H x g Y t := by
  unfold nxF
  rw [← smN_add]
  refine smN_cg Y (fun y _ => ?_)
  repeat' split
  all_goals simp only [Nat.add_mul]
  all_goals omega
theorem nxF_0 (x g Y t : Nat) : nxF (fun _ => 0) x g Y t = 0 := by
  unfold nxF
  rw [smN_cg (g := fun _ => 0) Y (fun y _ => by simp), smN_0]
theorem nxF_dl (v x g t : Nat) {c : Nat} (hc : c < 12) : nxF (fun y => if c = y then v else 0) x g 12 t = (if c = t then v * x else 0) + (if (c + g) % 12 = t then v * (10 - x) else 0) := by
  unfold nxF
  have := smN_dl (fun y => (if y = t then v * x else 0) + (if (y + g) % 12 = t then v * (10 - x) else 0)) c 12
  rw [if_pos hc] at this
  rw [← this]
  refine smN_cg 12 (fun y _ => ?_)
  by_cases e : c = y
  · simp only [if_pos e]
  · simp only [if_neg e, Nat.zero_mul]
    simp
theorem nxF_sm (P W : Nat → Nat) (x g t : Nat) : ∀ (B : Nat), nxF (fun y => smN (fun r => if P r % 12 = y then W r else 0) B) x g 12 t = smN (fun r => (if P r % 12 = t then W r * x else 0) + (if (P r + g) % 12 = t then W r * (10 - x) else 0)) B
  | 0 => nxF_0 x g 12 t
  | B + 1 => by
    show nxF (fun y => smN (fun r => if P r % 12 = y then W r else 0) B + (if P B % 12 = y then W B else 0)) x g 12 t = smN _ B + _
    rw [nxF_add, nxF_sm P W x g t B, nxF_dl _ _ _ _ (Nat.mod_lt _ (by omega)), Nat.mod_add_mod]
/-- weight and way of one who rests on the days of r's bits -/
def wpL (x y0 : Nat) (g : Nat → Nat) : Nat → Nat → Nat × Nat
  | 0, _ => (1, y0)
  | k + 1, r => if r.testBit k then ((wpL x y0 g k r).1 * x, (wpL x y0 g k r).2) else ((wpL x y0 g k r).1 * (10 - x), (wpL x y0 g k r).2 + g k)
theorem wpL_t {x y0 : Nat} {g : Nat → Nat} {k r : Nat} (h : r.testBit k = true) : wpL x y0 g (k + 1) r = ((wpL x y0 g k r).1 * x, (wpL x y0 g k r).2) := by
  show (if r.testBit k then _ else _) = _
  rw [if_pos h]
theorem wpL_f {x y0 : Nat} {g : Nat → Nat} {k r : Nat} (h : r.testBit k = false) : wpL x y0 g (k + 1) r = ((wpL x y0 g k r).1 * (10 - x), (wpL x y0 g k r).2 + g k) := by
  show (if r.testBit k then _ else _) = _
  rw [if_neg (by rw [h]; decide)]
theorem wpL_hi (x y0 : Nat) (g : Nat → Nat) (n r : Nat) : ∀ k, k ≤ n → wpL x y0 g k (2 ^ n + r) = wpL x y0 g k r
  | 0, _ => rfl
  | k + 1, h => by
    show (if (2 ^ n + r).testBit k then _ else _) = (if r.testBit k then _ else _)
    rw [wpL_hi x y0 g n r k (by omega), Nat.testBit_two_pow_add_gt (by omega)]
def rrL (x y0 : Nat) (g : Nat → Nat) (n t : Nat) : Nat := smN (fun r => if (wpL x y0 g n r).2 % 12 = t then (wpL x y0 g n r).1 else 0) (2 ^ n)
theorem lt_bit {n r : Nat} (h : r < 2 ^ n) : r.testBit n = false := Nat.testBit_lt_two_pow h
theorem hi_bit {n r : Nat} (h : r < 2 ^ n) : (2 ^ n + r).testBit n = true := by
  rw [Nat.testBit_two_pow_add_eq, lt_bit h]
  rfl
theorem rrL_s (x y0 : Nat) (g : Nat → Nat) (n t : Nat) : rrL x y0 g (n + 1) t = nxF (rrL x y0 g n) x (g n) 12 t := by
  have e1 : nxF (rrL x y0 g n) x (g n) 12 t = _ := nxF_sm (fun r => (wpL x y0 g n r).2) (fun r => (wpL x y0 g n r).1) x (g n) t (2 ^ n)
  rw [e1]
  show smN (fun r => if (wpL x y0 g (n + 1) r).2 % 12 = t then (wpL x y0 g (n + 1) r).1 else 0) (2 ^ (n + 1)) = _
  rw [show 2 ^ (n + 1) = 2 ^ n + 2 ^ n by rw [Nat.pow_succ]; omega, smN_rg, ← smN_add]
  refine smN_cg _ (fun r hr => ?_)
  show (if (wpL x y0 g (n + 1) r).2 % 12 = t then (wpL x y0 g (n + 1) r).1 else 0) + (if (wpL x y0 g (n + 1) (2 ^ n + r)).2 % 12 = t then (wpL x y0 g (n + 1) (2 ^ n + r)).1 else 0) = _
  rw [wpL_f (lt_bit hr), wpL_t (hi_bit hr), wpL_hi x y0 g n r n (Nat.le_refl _), Nat.add_comm]
theorem wpL_sm {x : Nat} (hx : x ≤ 10) (y0 : Nat) (g : Nat → Nat) : ∀ (n : Nat), smN (fun r => (wpL x y0 g n r).1) (2 ^ n) = 10 ^ n
  | 0 => rfl
  | n + 1 => by
    rw [show 2 ^ (n + 1) = 2 ^ n + 2 ^ n by rw [Nat.pow_succ]; omega, smN_rg, ← smN_add, Nat.pow_succ, ← wpL_sm hx y0 g n, ← smN_mul]
    refine smN_cg _ (fun r hr => ?_)
    show (wpL x y0 g (n + 1) r).1 + (wpL x y0 g (n + 1) (2 ^ n + r)).1 = _
    rw [wpL_f (lt_bit hr), wpL_t (hi_bit hr), wpL_hi x y0 g n r n (Nat.le_refl _)]
    show (wpL x y0 g n r).1 * (10 - x) + (wpL x y0 g n r).1 * x = _
    rw [← Nat.mul_add, show 10 - x + x = 10 by omega]
theorem rrL_le {x : Nat} (hx : x ≤ 10) (y0 : Nat) (g : Nat → Nat) (n t : Nat) : rrL x y0 g n t ≤ 10 ^ n := by
  rw [← wpL_sm hx y0 g n]
  exact smN_le (fun r => by split <;> omega) _
theorem wpL_y {x y0 : Nat} {g : Nat → Nat} (hg : ∀ k, g k ≤ 24) (h0 : y0 < 12) (r : Nat) : ∀ k, (wpL x y0 g k r).2 ≤ 11 + 24 * k
  | 0 => by show y0 ≤ _; omega
  | k + 1 => by
    have ih := wpL_y hg h0 r k (x := x)
    have := hg k
    cases e : r.testBit k with
    | true => rw [wpL_t e]; show (wpL x y0 g k r).2 ≤ _; omega
    | false => rw [wpL_f e]; show (wpL x y0 g k r).2 + g k ≤ _; omega
/-! the common divisor -/
theorem mod2 {a b : Nat} (hb : 0 < b) (hr : 0 < a % b) : 2 * (b % (a % b)) < b := by
  have h1 := Nat.mod_lt a hb
  have h2 := Nat.mod_lt b hr
  by_cases e : 2 * (a % b) ≤ b
  · omega
  · have : b % (a % b) = b - a % b := by
      rw [Nat.mod_eq_sub_mod (by omega), Nat.mod_eq_of_lt (by omega)]
    omega
theorem gcd_st (a b : Nat) : Nat.gcd a b = Nat.gcd b (a % b) := by
  rw [Nat.gcd_comm a b, Nat.gcd_rec b a, Nat.gcd_comm]
theorem c_gcd : ∀ (j a b i n : Nat), a < 2 ^ 31 → b < 2 ^ j → b < 2 ^ 31 → i + 2 * j < 100 → 2 * j + 1 < n → F_X6_commonDivisor_7 n (nI a) (nI b) (nI i) = some (nI (Nat.gcd a b)) := by
  have done : ∀ (a i n : Nat), i < 100 → 0 < n → F_X6_commonDivisor_7 n (nI a) (nI 0) (nI i) = some (nI (Nat.gcd a 0)) := by
    intro a i n hi hn
    obtain ⟨n, rfl, -⟩ := fu_get hn
    simp only [F_X6_commonDivisor_7]
    rw [if_neg (show ¬ (100 : Int32) ≤ nI i from nI_ge (b := 100) (by omega) (by omega)), if_pos (show nI 0 = 0 from rfl), Nat.gcd_zero_right]
  have step : ∀ (a b i n : Nat), a < 2 ^ 31 → 0 < b → b < 2 ^ 31 → i < 100 → F_X6_commonDivisor_7 (n + 1) (nI a) (nI b) (nI i) = F_X6_commonDivisor_7 n (nI b) (nI (a % b)) (nI (i + 1)) := by
    intro a b i n ha hb0 hb hi
    simp only [F_X6_commonDivisor_7]
    rw [if_neg (show ¬ (100 : Int32) ≤ nI i from nI_ge (b := 100) (by omega) (by omega)), if_neg (nI_ne0 hb0 hb), if_neg (nI_ne0 hb0 hb), jrem_nI ha hb0 hb, nI_1]
  intro j
  induction j with
  | zero =>
    intro a b i n ha hb hb2 hi hn
    have : b = 0 := by omega
    subst this
    exact done a i n (by omega) (by omega)
  | succ j ih =>
    intro a b i n ha hb hb2 hi hn
    rw [Nat.pow_succ] at hb
    by_cases e : b = 0
    · subst e
      exact done a i n (by omega) (by omega)
    · obtain ⟨n, rfl⟩ : ∃ m, n = m + 1 + 1 := ⟨n - 2, by omega⟩
      have hm := Nat.mod_lt a (show 0 < b by omega)
      rw [step a b i (n + 1) ha (by omega) hb2 (by omega), gcd_st a b]
      by_cases e2 : a % b = 0
      · rw [e2]
        exact done b (i + 1) (n + 1) (by omega) (by omega)
      · have := mod2 (show 0 < b by omega) (show 0 < a % b by omega)
        rw [step b (a % b) (i + 1) n hb2 (by omega) (by omega) (by omega), gcd_st b (a % b)]
        exact ih (a % b) (b % (a % b)) (i + 1 + 1) n (by omega) (by omega) (by omega) (by omega) (by omega)
theorem r_gcd : ∀ (j a b n : Nat), a < 2 ^ 31 → b < 2 ^ j → b < 2 ^ 31 → 2 * j + 1 < n → F_X7_common_6 n (lN a) (lN b) = some (lN (Nat.gcd a b)) := by
  have ne : ∀ b, 0 < b → b < 2 ^ 31 → ¬ lN b = 0 := fun b h1 h2 e => by
    have := (lN_eq (a := b) (b := 0) h2 (by omega)).mp e
    omega
  have done : ∀ (a n : Nat), 0 < n → F_X7_common_6 n (lN a) (lN 0) = some (lN (Nat.gcd a 0)) := by
    intro a n hn
    obtain ⟨n, rfl, -⟩ := fu_get hn
    simp only [F_X7_common_6]
    rw [if_pos ((lg_cmp_eq (lN 0) 0).mpr rfl), Nat.gcd_zero_right]
  have step : ∀ (a b n : Nat), a < 2 ^ 31 → 0 < b → b < 2 ^ 31 → F_X7_common_6 (n + 1) (lN a) (lN b) = F_X7_common_6 n (lN b) (lN (a % b)) := by
    intro a b n ha hb0 hb
    simp only [F_X7_common_6]
    rw [if_neg (fun z => ne b hb0 hb ((lg_cmp_eq _ _).mp z)), if_neg (ne b hb0 hb)]
    unfold jremL
    rw [pk_lRem (by omega) hb0 (by omega)]
  intro j
  induction j with
  | zero =>
    intro a b n ha hb hb2 hn
    have : b = 0 := by omega
    subst this
    exact done a n (by omega)
  | succ j ih =>
    intro a b n ha hb hb2 hn
    rw [Nat.pow_succ] at hb
    by_cases e : b = 0
    · subst e
      exact done a n (by omega)
    · obtain ⟨n, rfl⟩ : ∃ m, n = m + 1 + 1 := ⟨n - 2, by omega⟩
      have hm := Nat.mod_lt a (show 0 < b by omega)
      rw [step a b (n + 1) ha (by omega) hb2, gcd_st a b]
      by_cases e2 : a % b = 0
      · rw [e2]
        exact done b (n + 1) (by omega)
      · have := mod2 (show 0 < b by omega) (show 0 < a % b by omega)
        rw [step b (a % b) n hb2 (by omega) (by omega), gcd_st b (a % b)]
        exact ih (a % b) (b % (a % b)) n (by omega) (by omega) (by omega) (by omega)
