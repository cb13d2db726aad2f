/-! LOOK -/
def IsB (c : Int32) : Prop := ∃ m, m < 4096 ∧ c = nI m
theorem bits_64 : ∀ a, a < 64 → ∀ b, b < 64 → F_X7_bits (nI (64 * a + b)) = F_J6_bitCount (nI (64 * a + b)) := by decide +kernel
theorem bits_eq {c : Int32} (h : IsB c) : F_X7_bits c = F_J6_bitCount c := by
  obtain ⟨m, hm, rfl⟩ := h
  have := bits_64 (m / 64) (by omega) (m % 64) (by omega)
  rw [show 64 * (m / 64) + m % 64 = m by omega] at this
  exact this
def pcV (x : Int32) : Int32 := (F_J6_bitCount x).getD 0
theorem pcV_eq (x : Int32) : F_J6_bitCount x = some (pcV x) := by
  unfold pcV
  cases h : F_J6_bitCount x with
  | none => unfold F_J6_bitCount at h; cases h
  | some v => rfl
theorem bit_nI : ∀ e, e < 12 → (1 : Int32) <<< (nI e &&& 31) = nI (2 ^ e) := by decide +kernel
theorem nI_or (a b : Nat) : nI a ||| nI b = nI (a ||| b) := by
  apply Int32.toBitVec_inj.mp
  show BitVec.ofNat 32 a ||| BitVec.ofNat 32 b = BitVec.ofNat 32 (a ||| b)
  exact BitVec.ofNat_or.symm
theorem IsB.or {c : Int32} (h : IsB c) {e : Nat} (he : e < 12) : IsB (c ||| ((1 : Int32) <<< (nI e &&& 31))) := by
  obtain ⟨m, hm, rfl⟩ := h
  refine ⟨m ||| 2 ^ e, Nat.or_lt_two_pow (n := 12) hm (Nat.pow_lt_pow_right (by omega) he), ?_⟩
  rw [bit_nI e he, nI_or]
/-- the bit of that yard -/
def btR (a b d : Nat) : Int32 := (1 : Int32) <<< (jrem (nI a + nI d * nI b) 12 &&& 31)
theorem jrem_ab {a b d : Nat} (ha : a < 12) (hb : b < 12) (hd : d ≤ 12) : jrem (nI a + nI d * nI b) 12 = nI ((a + d * b) % 12) := by
  have h1 : d * b ≤ 12 * 11 := Nat.mul_le_mul hd (by omega)
  rw [show nI d * nI b = nI (d * b) from (Int32.ofNat_mul d b).symm, nI_add, (div12 (a + d * b) (by omega)).2]
def lkF (G : Sg) (d : Nat) : Nat → Int32 → Int32 := fun j c => if rgJ G j = 0 then c else c ||| btR (j / 12) (j % 12) d
def lkB (G : Sg) (d : Nat) : Int32 := itr (lkF G d) 144 0 0
theorem lkB_ok (G : Sg) {d : Nat} (hd : d ≤ 12) : IsB (lkB G d) := by
  have key : ∀ (k j : Nat) (c : Int32), j + k ≤ 144 → IsB c → IsB (itr (lkF G d) k j c) := by
    intro k
    induction k with
    | zero => intro j c _ h; exact h
    | succ k ih =>
      intro j c hj h
      refine ih (j + 1) _ (by omega) ?_
      unfold lkF btR
      split
      · exact h
      · rw [jrem_ab (by omega) (by omega) hd]
        exact h.or (by omega)
  exact key 144 0 0 (by omega) ⟨0, by omega, rfl⟩
theorem c_fill {M : Mem} {row len : Nat} (hs : mS M row = (10, len)) (hl : len ≤ 1000) : ∃ M', F_J7_fill row 0 M = some M' ∧ Fr (fun a => a = row) M M' ∧ ∀ x, x < len → mI M' row x = 0 := by
  have key : ∀ (k i n : Nat) (M1 : Mem), i + k = len → k < n → Fr (fun a => a = row) M M1 → (∀ x, x < i → mI M1 row x = 0) → ∃ M', F_J7_fill_5 n row 0 (nI i) (nI len) M1 = some M' ∧ Fr (fun a => a = row) M M' ∧ ∀ x, x < len → mI M' row x = 0 := by
    intro k
    induction k with
    | zero =>
      intro i n M1 hi hn hf hz
      obtain ⟨n, rfl, -⟩ := fu_get hn
      refine ⟨M1, ?_, hf, fun x hx => hz x (by omega)⟩
      simp only [F_J7_fill_5]
      rw [if_pos (nI_le (by omega) (by omega))]
    | succ k ih =>
      intro i n M1 hi hn hf hz
      obtain ⟨n, rfl, hn⟩ := fu_get hn
      obtain ⟨M', g1, g2⟩ := ih (i + 1) n (uI M1 row i 0) (by omega) (by omega) (hf.tr (Fr.uI rfl)) (fun x hx => by
        rw [mI_uI, if_pos rfl]
        by_cases e : x = i
        · rw [e, upd_eq]
        · rw [upd_ne e]; exact hz x (by omega))
      refine ⟨M', ?_, g2⟩
      simp only [F_J7_fill_5]
      rw [if_neg (nI_ge (by omega) (by omega)), stI_nI (n := len) _ (by rw [hf.s]; exact hs) (by omega) (by omega), Option.bind_some, nI_1]
      exact g1
  unfold F_J7_fill
  rw [aLen_of hs, Option.bind_some]
  exact key len 0 FU M (by omega) (FU_gt (by omega)) Fr.rf (fun x hx => absurd hx (Nat.not_lt_zero x))
theorem c_mark42 {G : Sg} (r10 : Nat → Int32 → Mem → Option Mem) (j a b : Nat) : ∀ (k d n : Nat) (M : Mem), d + k = 13 → k < n → CI M G → ∃ M', F_X6_markYardsOfRings_42 r10 n 5 (nI j) (nI a) (nI b) (nI d) M = r10 5 (nI (j + 1)) M' ∧ Fr (fun a => a = 99) M M' ∧ ∀ x, x < 13 → mI M' 99 x = if d ≤ x then mI M 99 x ||| btR a b x else mI M 99 x := by
  intro k
  induction k with
  | zero =>
    intro d n M hd hn h
    obtain ⟨n, rfl, -⟩ := fu_get hn
    have : d = 13 := by omega
    subst this
    refine ⟨M, ?_, Fr.rf, fun x hx => by rw [if_neg (by omega)]⟩
    simp only [F_X6_markYardsOfRings_42]
    unfold F_X6_markYardsOfRings_76
    rw [if_pos (show (12 : Int32) < nI 13 by decide), nI_1]
  | succ k ih =>
    intro d n M hd hn h
    obtain ⟨n, rfl, hn⟩ := fu_get hn
    have hf : Fr (fun a => a = 99) M (uI M 99 d (mI M 99 d ||| btR a b d)) := Fr.uI rfl
    obtain ⟨M', g1, g2, g3⟩ := ih (d + 1) n (uI M 99 d (mI M 99 d ||| btR a b d)) (by omega) (by omega) (h.mk0 hf (fun a ha => by unfold oS; omega))
    refine ⟨M', ?_, hf.tr g2, fun x hx => ?_⟩
    · simp only [F_X6_markYardsOfRings_42]
      rw [if_neg (show ¬ (12 : Int32) < nI d from nI_nlt (a := 12) (by omega) (by omega)), h.1.f (f := 9) rfl, Option.bind_some, ldI_nI (h.1.s 22 rfl) (by omega) (by omega), Option.bind_some, stI_nI _ (h.1.s 22 rfl) (by omega) (by omega), Option.bind_some, nI_1]
      exact g1
    · rw [g3 x hx, mI_uI, if_pos rfl]
      by_cases e : x = d
      · subst e
        rw [if_neg (by omega), if_pos (by omega), upd_eq]
      · rw [upd_ne e]
        by_cases e2 : d ≤ x
        · rw [if_pos (by omega), if_pos e2]
        · rw [if_neg (by omega), if_neg e2]
theorem c_mark10 {G : Sg} (hG : GOk G) : ∀ (k j n : Nat) (M : Mem), j + k = 144 → k < n → CI M G → (∀ x, x < 13 → mI M 99 x = itr (lkF G x) j 0 0) → ∃ M', F_X6_markYardsOfRings_10 n 5 (nI j) M = some M' ∧ Fr (fun a => a = 99) M M' ∧ CI M' G ∧ ∀ x, x < 13 → mI M' 99 x = lkB G x := by
  intro k
  induction k with
  | zero =>
    intro j n M hj hn h hx
    obtain ⟨n, rfl, -⟩ := fu_get hn
    have : j = 144 := by omega
    subst this
    refine ⟨M, ?_, Fr.rf, h, hx⟩
    simp only [F_X6_markYardsOfRings_10]
    rw [if_pos (show (144 : Int32) ≤ nI 144 by decide)]
  | succ k ih =>
    intro j n M hj hn h hx
    obtain ⟨n, rfl, hn⟩ := fu_get hn
    obtain ⟨d1, d2⟩ := div12 j (by omega)
    simp only [F_X6_markYardsOfRings_10]
    rw [if_neg (show ¬ (144 : Int32) ≤ nI j from nI_ge (b := 144) (by omega) (by omega)), h.1.f (f := 6) rfl, Option.bind_some, chkT_of (h.1.s 12 rfl), Option.bind_some, d1, d2, c_fitR hG _ _ h, Option.bind_some]
    rw [show rgV G (nI (j / 12)) (nI (j % 12)) (gD G).1 0 = rgJ G j from rfl]
    by_cases e : rgJ G j = 0
    · rw [if_pos e]
      unfold F_X6_markYardsOfRings_76
      rw [nI_1]
      exact ih (j + 1) n M (by omega) (by omega) h (fun x hx' => by
        rw [itr_last, Nat.zero_add, hx x hx']
        exact (if_pos e).symm)
    · rw [if_neg e]
      obtain ⟨M1, g1, g2, g3⟩ := c_mark42 (F_X6_markYardsOfRings_10 n) j (j / 12) (j % 12) 13 0 FU M (by omega) (FU_gt (by omega)) h
      have h1 := h.mk0 g2 (fun a ha => by unfold oS; omega)
      obtain ⟨M2, b1, b2, b3⟩ := ih (j + 1) n M1 (by omega) (by omega) h1 (fun x hx' => by
        rw [itr_last, Nat.zero_add, g3 x hx', if_pos (by omega), hx x hx']
        exact (if_neg e).symm)
      exact ⟨M2, g1.trans b1, g2.tr b2, b3⟩
theorem c_mark {G : Sg} (hG : GOk G) {M : Mem} (h : CI M G) : ∃ M', F_X6_markYardsOfRings 5 M = some M' ∧ Fr (fun a => a = 99) M M' ∧ CI M' G ∧ ∀ x, x < 13 → mI M' 99 x = lkB G x := by
  obtain ⟨M1, e1, e2, e3⟩ := c_fill (h.1.s 22 rfl) (by omega)
  have h1 := h.mk0 e2 (fun a ha => by unfold oS; omega)
  obtain ⟨M2, b1, b2, b3⟩ := c_mark10 hG 144 0 FU M1 (by omega) (FU_gt (by omega)) h1 (fun x hx => e3 x hx)
  refine ⟨M2, ?_, e2.tr b2, b3⟩
  unfold F_X6_markYardsOfRings
  rw [h.1.f (f := 9) rfl, Option.bind_some, e1, Option.bind_some]
  exact b1
def lkS (G : Sg) : Nat → Nat → Int32 → Int32 → Int32 × Int32
  | 0, _, b, c => (b, c)
  | k + 1, d, b, c => if pcV (lkB G d) ≤ c then lkS G k (d + 1) b c else lkS G k (d + 1) (nI d) (pcV (lkB G d))
theorem c_look {G : Sg} (x : Int32) {M : Mem} (h : CI M G) (hm : ∀ x, x < 13 → mI M 99 x = lkB G x) : ∀ (k d n : Nat) (b c : Int32), d + k = 13 → k < n → F_X6_look_22 n 5 x b c (nI d) M = some (if x = 0 then (lkS G k d b c).1 else (lkS G k d b c).2, M) := by
  intro k
  induction k with
  | zero =>
    intro d n b c hd hn
    obtain ⟨n, rfl, -⟩ := fu_get hn
    have : d = 13 := by omega
    subst this
    simp only [F_X6_look_22]
    rw [if_pos (show (12 : Int32) < nI 13 by decide)]
    unfold lkS
    by_cases e : x = 0
    · rw [if_pos e, if_pos e]
    · rw [if_neg e, if_neg e]
  | succ k ih =>
    intro d n b c hd hn
    obtain ⟨n, rfl, hn⟩ := fu_get hn
    simp only [F_X6_look_22]
    unfold F_X6_look_53
    rw [if_neg (show ¬ (12 : Int32) < nI d from nI_nlt (a := 12) (by omega) (by omega)), h.1.f (f := 9) rfl, Option.bind_some, ldI_nI (h.1.s 22 rfl) (by omega) (by omega), Option.bind_some, hm d (by omega), pcV_eq, Option.bind_some, nI_1]
    conv => rhs; unfold lkS
    by_cases e : pcV (lkB G d) ≤ c
    · rw [if_pos e, if_pos e]; exact ih (d + 1) n _ _ (by omega) (by omega)
    · rw [if_neg e, if_neg e]; exact ih (d + 1) n _ _ (by omega) (by omega)
theorem r_yards {G : Sg} (hG : GOk G) {M : Mem} (h : RI M G) {d : Nat} (hd : d ≤ 12) : F_X7_yardsBehind 100 (nI d) M = some (pcV (lkB G d)) := by
  have k13 : ∀ (r4 : Nat → Int32 → Int32 → Int32 → Option Int32) (a : Nat), a < 12 → ∀ (k b n : Nat) (c : Int32), b + k = 12 → k < n → F_X7_yardsBehind_13 M r4 n 100 (nI d) c (nI a) (nI b) = r4 100 (nI d) (itr (lkF G d) k (12 * a + b) c) (nI (a + 1)) := by
    intro r4 a ha k
    induction k with
    | zero =>
      intro b n c hb hn
      obtain ⟨n, rfl, -⟩ := fu_get hn
      have : b = 12 := by omega
      subst this
      simp only [F_X7_yardsBehind_13]
      rw [if_pos (show (12 : Int32) ≤ nI 12 by decide), nI_1]
      rfl
    | succ k ih =>
      intro b n c hb hn
      obtain ⟨n, rfl, hn⟩ := fu_get hn
      simp only [F_X7_yardsBehind_13]
      unfold F_X7_yardsBehind_46
      rw [if_neg (show ¬ (12 : Int32) ≤ nI b from nI_ge (b := 12) (by omega) (by omega)), h.1.ck, Option.bind_some, r_fitR hG _ _ h, Option.bind_some, ← rgJ_ab G (by omega), nI_1, Int32.or_zero]
      show _ = r4 100 (nI d) (itr (lkF G d) k (12 * a + b + 1) (lkF G d (12 * a + b) c)) (nI (a + 1))
      by_cases e : rgJ G (12 * a + b) = 0
      · rw [if_pos e, ih (b + 1) n _ (by omega) (by omega), show lkF G d (12 * a + b) c = c from if_pos e]
        rfl
      · rw [if_neg e, ih (b + 1) n _ (by omega) (by omega), show lkF G d (12 * a + b) c = c ||| btR ((12 * a + b) / 12) ((12 * a + b) % 12) d from if_neg e, show (12 * a + b) / 12 = a by omega, show (12 * a + b) % 12 = b by omega]
        rfl
  have itr_add : ∀ (k m p : Nat) (c : Int32), itr (lkF G d) (k + m) p c = itr (lkF G d) m (p + k) (itr (lkF G d) k p c) := by
    intro k
    induction k with
    | zero => intro m p c; rw [Nat.zero_add]; rfl
    | succ k ih =>
      intro m p c
      rw [show k + 1 + m = (k + m) + 1 by omega]
      show itr (lkF G d) (k + m) (p + 1) _ = _
      rw [ih, show p + 1 + k = p + (k + 1) by omega]
      rfl
  have k4 : ∀ (k a n : Nat) (c : Int32), a + k = 12 → k < n → F_X7_yardsBehind_4 M n 100 (nI d) c (nI a) = F_X7_bits (itr (lkF G d) (12 * k) (12 * a) c) := by
    intro k
    induction k with
    | zero =>
      intro a n c ha hn
      obtain ⟨n, rfl, -⟩ := fu_get hn
      have : a = 12 := by omega
      subst this
      simp only [F_X7_yardsBehind_4]
      rw [if_pos (show (12 : Int32) ≤ nI 12 by decide)]
      show (F_X7_bits c).bind _ = F_X7_bits c
      cases F_X7_bits c <;> rfl
    | succ k ih =>
      intro a n c ha hn
      obtain ⟨n, rfl, hn⟩ := fu_get hn
      simp only [F_X7_yardsBehind_4]
      rw [if_neg (show ¬ (12 : Int32) ≤ nI a from nI_ge (b := 12) (by omega) (by omega))]
      refine (k13 _ a (by omega) 12 0 FU c (by omega) (FU_gt (by omega))).trans ?_
      rw [ih (a + 1) n _ (by omega) (by omega), show 12 * (k + 1) = 12 + 12 * k by omega, itr_add, show 12 * (a + 1) = 12 * a + 12 by omega, show 12 * a + 0 = 12 * a from rfl]
  unfold F_X7_yardsBehind
  refine (k4 12 0 FU 0 (by omega) (FU_gt (by omega))).trans ?_
  rw [← pcV_eq]
  exact bits_eq (lkB_ok G hd)
theorem r_look {G : Sg} (hG : GOk G) (x : Int32) {M : Mem} (h : RI M G) : ∀ (k d n : Nat) (b c : Int32), d + k = 13 → k < n → F_X7_look_18 M n 100 x b c (nI d) = some (if x = 0 then (lkS G k d b c).1 else (lkS G k d b c).2) := by
  intro k
  induction k with
  | zero =>
    intro d n b c hd hn
    obtain ⟨n, rfl, -⟩ := fu_get hn
    have : d = 13 := by omega
    subst this
    simp only [F_X7_look_18]
    rw [if_pos (show (12 : Int32) < nI 13 by decide)]
    unfold lkS
    by_cases e : x = 0
    · rw [if_pos e, if_pos e]
    · rw [if_neg e, if_neg e]
  | succ k ih =>
    intro d n b c hd hn
    obtain ⟨n, rfl, hn⟩ := fu_get hn
    simp only [F_X7_look_18]
    unfold F_X7_look_45 F_X7_look_58
    rw [if_neg (show ¬ (12 : Int32) < nI d from nI_nlt (a := 12) (by omega) (by omega)), h.1.ck, Option.bind_some, r_yards hG h (by omega), Option.bind_some, nI_1]
    conv => rhs; unfold lkS
    by_cases e : pcV (lkB G d) ≤ c
    · rw [if_pos e, if_pos e, if_pos e]; exact ih (d + 1) n _ _ (by omega) (by omega)
    · rw [if_neg e, if_neg e, if_neg e]; exact ih (d + 1) n _ _ (by omega) (by omega)
theorem q_look {G : Sg} (hG : GOk G) (x : Int32) : QC (F_X6_look 5 x) (F_X7_look 100 x) G := by
  by_cases hx : InR 0 1 x
  · refine ⟨if x = 0 then (lkS G 13 0 0 0).1 else (lkS G 13 0 0 0).2, fun M h => ?_, fun M h => ?_⟩
    · obtain ⟨M1, e1, e2, e3, e4⟩ := c_mark hG h
      refine ⟨M1, ?_, e3, e2.mono (fun a ha => by unfold oC; omega)⟩
      unfold F_X6_look
      rw [out_t 0 1 0 1 hx, Option.bind_some, if_pos rfl, h.1.c, Option.bind_some, e1, Option.bind_some]
      exact c_look x e3 e4 13 0 FU 0 0 (by omega) (FU_gt (by omega))
    · unfold F_X7_look
      rw [in_t 0 1 0 1 hx, Option.bind_some, if_neg d10]
      exact r_look hG x h 13 0 FU 0 0 (by omega) (FU_gt (by omega))
  · refine ⟨-1, fun M h => ?_, fun M h => ?_⟩
    · unfold F_X6_look
      rw [out_f 0 1 0 1 hx, Option.bind_some, if_neg d10]
      exact C_.same h
    · unfold F_X7_look
      rw [in_f 0 1 0 1 hx, Option.bind_some, if_pos rfl]
