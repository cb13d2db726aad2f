/-! SHY -/
def orF (f : Nat → Int32) : Nat → Nat → Int32
  | 0, _ => 0
  | k + 1, p => f p ||| orF f k (p + 1)
theorem itr_or (f : Nat → Int32) : ∀ (k p : Nat) (c : Int32), itr (fun q c => c ||| f q) k p c = c ||| orF f k p
  | 0, _, c => (Int32.or_zero).symm
  | k + 1, p, c => by
    show itr _ k (p + 1) (c ||| f p) = c ||| (f p ||| orF f k (p + 1))
    rw [itr_or f k, Int32.or_assoc]
theorem orF_congr {f g : Nat → Int32} : ∀ (k p : Nat), (∀ j, p ≤ j → j < p + k → f j = g j) → orF f k p = orF g k p
  | 0, _, _ => rfl
  | k + 1, p, h => by
    show f p ||| _ = g p ||| _
    rw [h p (by omega) (by omega), orF_congr k (p + 1) (fun j h1 h2 => h j (by omega) (by omega))]
theorem orF_or (f g : Nat → Int32) : ∀ (k p : Nat), orF (fun j => f j ||| g j) k p = orF f k p ||| orF g k p
  | 0, _ => (Int32.or_zero).symm
  | k + 1, p => by
    show (f p ||| g p) ||| _ = (f p ||| orF f k (p + 1)) ||| (g p ||| orF g k (p + 1))
    rw [orF_or f g k]
    ac_rfl
theorem orF_0 : ∀ (k p : Nat), orF (fun _ => 0) k p = 0
  | 0, _ => rfl
  | k + 1, p => by
    show 0 ||| _ = (0 : Int32)
    rw [orF_0 k, Int32.or_zero]
theorem orF_swap (f : Nat → Nat → Int32) (N : Nat) : ∀ (D d : Nat), orF (fun d => orF (fun q => f d q) N 0) D d = orF (fun q => orF (fun d => f d q) D d) N 0
  | 0, d => (orF_0 N 0).symm
  | D + 1, d => by
    show orF (fun q => f d q) N 0 ||| orF _ D (d + 1) = orF (fun q => f d q ||| orF (fun d => f d q) D (d + 1)) N 0
    rw [orF_swap f N D (d + 1), orF_or]
def shV (T : Tn) (p q : Nat) : Nat → Nat → Int32
  | 0, _ => 0
  | k + 1, d => if yB T d p (tK T p) (tP T p) = yB T d q (tK T q) (tP T q) then 1 else shV T p q k (d + 1)
theorem shV_01 (T : Tn) (p q : Nat) : ∀ k d, shV T p q k d = 0 ∨ shV T p q k d = 1
  | 0, _ => Or.inl rfl
  | k + 1, d => by
    unfold shV
    split
    · exact Or.inr rfl
    · exact shV_01 T p q k (d + 1)
theorem orF_ex (T : Tn) (p q : Nat) (b : Int32) : ∀ (k d : Nat), orF (fun d => if yB T d p (tK T p) (tP T p) = yB T d q (tK T q) (tP T q) then b else 0) k d = if shV T p q k d = 0 then 0 else b
  | 0, d => by
    show (0 : Int32) = if (0 : Int32) = 0 then 0 else b
    rw [if_pos rfl]
  | k + 1, d => by
    show (if yB T d p (tK T p) (tP T p) = yB T d q (tK T q) (tP T q) then b else 0) ||| orF _ k (d + 1) = _
    rw [orF_ex T p q b k (d + 1)]
    conv => rhs; unfold shV
    by_cases e : yB T d p (tK T p) (tP T p) = yB T d q (tK T q) (tP T q)
    · rw [if_pos e, if_pos e, if_neg d10]
      split
      · rw [Int32.or_zero]
      · rw [Int32.or_self]
    · rw [if_neg e, if_neg e, Int32.zero_or]
def bqW (T : Tn) (q : Nat) : Int32 := (1 : Int32) <<< (tW T q &&& 31)
def fSh (T : Tn) (p d q : Nat) : Int32 := if q = p then 0 else if btw (rdN d T) p q = 0 then 0 else bqW T q
theorem btw_0 (T : Tn) {p q : Nat} (hp : p < tN T) (hq : q < tN T) (hd : ¬ tD T p = -4) (n : Nat) : btw (rdN n T) p q = 0 ↔ ¬ (tD T q = tD T p ∧ yB T n p (tK T p) (tP T p) = yB T n q (tK T q) (tP T q)) := by
  have d : (2 : Int32) ≠ 0 ∧ (1 : Int32) ≠ 0 := by decide
  unfold btw
  rw [(rdN_D T n).1, (rdN_D T n).2.1, rdN_y T hp, rdN_y T hq, if_neg hd]
  by_cases e1 : tD T p = tD T q
  · rw [if_pos e1]
    by_cases e2 : yB T n p (tK T p) (tP T p) = yB T n q (tK T q) (tP T q)
    · rw [if_pos e2]
      constructor
      · intro h
        split at h
        · exact absurd h d.1
        · exact absurd h d.2
      · intro h; exact absurd ⟨e1.symm, e2⟩ h
    · rw [if_neg e2]
      exact ⟨fun _ h => e2 h.2, fun _ => rfl⟩
  · rw [if_neg e1]
    exact ⟨fun _ h => e1 h.1.symm, fun _ => rfl⟩
def rSh (T : Tn) (p q : Nat) : Int32 := if q = p then 0 else if tD T q = tD T p then (if shV T p q 25 0 = 0 then 0 else bqW T q) else 0
theorem sh_eq (T : Tn) {p : Nat} (hp : p < tN T) (hd : ¬ tD T p = -4) : orF (fun d => orF (fun q => fSh T p d q) (tN T) 0) 25 0 = orF (fun q => rSh T p q) (tN T) 0 := by
  rw [orF_swap]
  apply orF_congr
  intro q _ hq
  unfold rSh
  by_cases e : q = p
  · rw [if_pos e]
    rw [orF_congr (g := fun _ => 0) 25 0 (fun j _ _ => by unfold fSh; rw [if_pos e]), orF_0]
  · rw [if_neg e]
    by_cases e2 : tD T q = tD T p
    · rw [if_pos e2, ← orF_ex]
      apply orF_congr
      intro j _ _
      unfold fSh
      rw [if_neg e]
      by_cases e3 : yB T j p (tK T p) (tP T p) = yB T j q (tK T q) (tP T q)
      · rw [if_pos e3, if_neg (fun z => (btw_0 T hp (by omega) hd j).mp z ⟨e2, e3⟩)]
      · rw [if_neg e3, if_pos ((btw_0 T hp (by omega) hd j).mpr (fun z => e3 z.2))]
    · rw [if_neg e2, orF_congr (g := fun _ => 0) 25 0 (fun j _ _ => by unfold fSh; rw [if_neg e, if_pos ((btw_0 T hp (by omega) hd j).mpr (fun z => e2 z.1))]), orF_0]
theorem has_64 : ∀ a, a < 64 → ∀ b, b < 64 → ∀ w, w < 10 → (if nI (64 * a + b) &&& ((1 : Int32) <<< (nI w &&& 31)) = 0 then some (0 : Int32) else some 1) = F_X7_has (nI (64 * a + b)) (nI w) := by decide +kernel
theorem has_eq {c : Int32} (h : IsB c) {w : Nat} (hw : w < 10) : F_X7_has c (nI w) = if c &&& ((1 : Int32) <<< (nI w &&& 31)) = 0 then some (0 : Int32) else some 1 := by
  obtain ⟨m, hm, rfl⟩ := h
  have := has_64 (m / 64) (by omega) (m % 64) (by omega) w hw
  rw [show 64 * (m / 64) + m % 64 = m by omega] at this
  exact this.symm
/-- the least width that isn't among them -/
def lwF (c : Int32) : Nat → Nat → Int32
  | 0, _ => -4
  | k + 1, w => if c &&& ((1 : Int32) <<< (nI w &&& 31)) = 0 then nI w else lwF c k (w + 1)
theorem c_lw (c : Int32) (M : Mem) : ∀ (k w n : Nat), w + k = 10 → k < n → F_X6_shy_34 n c (nI w) M = some (lwF c k w, M) := by
  intro k
  induction k with
  | zero =>
    intro w n hw hn
    obtain ⟨n, rfl, -⟩ := fu_get hn
    have : w = 10 := by omega
    subst this
    simp only [F_X6_shy_34]
    rw [if_pos (show (9 : Int32) < nI 10 by decide)]
    rfl
  | succ k ih =>
    intro w n hw hn
    obtain ⟨n, rfl, hn⟩ := fu_get hn
    simp only [F_X6_shy_34]
    rw [if_neg (show ¬ (9 : Int32) < nI w from nI_nlt (a := 9) (by omega) (by omega)), nI_1]
    conv => rhs; unfold lwF
    by_cases e : c &&& ((1 : Int32) <<< (nI w &&& 31)) = 0
    · rw [if_pos e, if_pos e]
    · rw [if_neg e, if_neg e]; exact ih (w + 1) n (by omega) (by omega)
theorem r_lw {c : Int32} (hc : IsB c) (M : Mem) : ∀ (k w n : Nat), w + k = 10 → k < n → F_X7_shy_88 M n c (nI w) = some (lwF c k w) := by
  intro k
  induction k with
  | zero =>
    intro w n hw hn
    obtain ⟨n, rfl, -⟩ := fu_get hn
    have : w = 10 := by omega
    subst this
    simp only [F_X7_shy_88]
    unfold F_X7_shy_108
    rw [if_pos (show (9 : Int32) < nI 10 by decide), if_pos (show (9 : Int32) < nI 10 by decide)]
    rfl
  | succ k ih =>
    intro w n hw hn
    obtain ⟨n, rfl, hn⟩ := fu_get hn
    have hlt : ¬ (9 : Int32) < nI w := nI_nlt (a := 9) (by omega) (by omega)
    simp only [F_X7_shy_88]
    unfold F_X7_shy_108
    rw [if_neg hlt, if_neg hlt, has_eq hc (by omega), nI_1]
    conv => rhs; unfold lwF
    by_cases e : c &&& ((1 : Int32) <<< (nI w &&& 31)) = 0
    · rw [if_pos e, if_pos e]; rfl
    · rw [if_neg e, if_neg e]; exact ih (w + 1) n (by omega) (by omega)
theorem c_wm24 {G : Sg} (r15 : Nat → Int32 → Int32 → Int32 → Mem → Option (Int32 × Mem)) {p : Nat} (hp : p < tN (gT G)) (d : Nat) : ∀ (k q n : Nat) (c : Int32) (M : Mem), q + k = tN (gT G) → k < n → CI M G → TA M 15 (rdN d (gT G)) → ∃ M', F_X6_widthsMet_24 r15 n 5 (nI p) c (nI d) (nI q) M = r15 5 (nI p) (itr (fun q c => c ||| fSh (gT G) p d q) k q c) (nI (d + 1)) M' ∧ CI M' G ∧ TA M' 15 (rdN (d + 1) (gT G)) ∧ Fr oC M M' := by
  intro k
  induction k with
  | zero =>
    intro q n c M hq hn h ht
    obtain ⟨n, rfl, -⟩ := fu_get hn
    obtain ⟨M1, g1, g2, g3⟩ := town_goRound ht
    have hh7 := ht.2.1
    rw [rdN_N] at hh7
    refine ⟨M1, ?_, h.mk0 g2 (fun a ha => oS15 ha), g3, g2.mono (fun a ha => oSC (oS15 ha))⟩
    simp only [F_X6_widthsMet_24]
    rw [h.1.f (f := 2) rfl, Option.bind_some, ht.ck, Option.bind_some, town_size ht, Option.bind_some, rdN_N, if_pos (nI_le (by omega) (by omega)), Option.bind_some, ht.ck, Option.bind_some, g1, Option.bind_some, nI_1]
    rfl
  | succ k ih =>
    intro q n c M hq hn h ht
    obtain ⟨n, rfl, hn⟩ := fu_get hn
    have hh7 := ht.2.1
    rw [rdN_N] at hh7
    obtain ⟨M', b1, b2⟩ := ih (q + 1) n (c ||| fSh (gT G) p d q) M (by omega) (by omega) h ht
    refine ⟨M', ?_, b2⟩
    show _ = r15 5 (nI p) (itr (fun q c => c ||| fSh (gT G) p d q) k (q + 1) (c ||| fSh (gT G) p d q)) (nI (d + 1)) M'
    rw [← b1]
    simp only [F_X6_widthsMet_24]
    unfold F_X6_widthsMet_69
    rw [h.1.f (f := 2) rfl, Option.bind_some, ht.ck, Option.bind_some, town_size ht, Option.bind_some, rdN_N, if_neg (nI_ge (by omega) (by omega)), nI_1]
    unfold fSh
    by_cases e : q = p
    · rw [if_pos (by rw [e]), if_pos e, Int32.or_zero]
    · rw [if_neg (fun z => e (nI_inj (by omega) (by omega) z)), if_neg e, Option.bind_some, ht.ck, Option.bind_some, town_between ht (by rw [rdN_N]; exact hp) (by rw [rdN_N]; omega), Option.bind_some]
      by_cases e2 : btw (rdN d (gT G)) p q = 0
      · rw [if_pos e2, if_pos e2, Int32.or_zero]
      · rw [if_neg e2, if_neg e2, Option.bind_some, ht.ck, Option.bind_some, town_widthOf ht (by rw [rdN_N]; omega), Option.bind_some, (rdN_D (gT G) d).2.1]
        rfl
theorem c_wm15 {G : Sg} {p : Nat} (hp : p < tN (gT G)) : ∀ (k d n : Nat) (c : Int32) (M : Mem), d + k = 25 → k < n → CI M G → TA M 15 (rdN d (gT G)) → ∃ M', F_X6_widthsMet_15 n 5 (nI p) c (nI d) M = some (c ||| orF (fun d => orF (fun q => fSh (gT G) p d q) (tN (gT G)) 0) k d, M') ∧ CI M' G ∧ Fr oC M M' := by
  intro k
  induction k with
  | zero =>
    intro d n c M hd hn h ht
    obtain ⟨n, rfl, -⟩ := fu_get hn
    have : d = 25 := by omega
    subst this
    refine ⟨M, ?_, h, Fr.rf⟩
    simp only [F_X6_widthsMet_15]
    rw [if_pos (show (24 : Int32) < nI 25 by decide)]
    unfold orF
    rw [Int32.or_zero]
  | succ k ih =>
    intro d n c M hd hn h ht
    obtain ⟨n, rfl, hn⟩ := fu_get hn
    have hh7 := ht.2.1
    rw [rdN_N] at hh7
    obtain ⟨M1, g1, g2, g3, g4⟩ := c_wm24 (F_X6_widthsMet_15 n) hp d (tN (gT G)) 0 FU c M (by omega) (FU_gt (by omega)) h ht
    obtain ⟨M2, b1, b2, b3⟩ := ih (d + 1) n (itr (fun q c => c ||| fSh (gT G) p d q) (tN (gT G)) 0 c) M1 (by omega) (by omega) g2 g3
    refine ⟨M2, ?_, b2, g4.tr b3⟩
    simp only [F_X6_widthsMet_15]
    rw [if_neg (show ¬ (24 : Int32) < nI d from nI_nlt (a := 24) (by omega) (by omega))]
    refine g1.trans (b1.trans ?_)
    rw [itr_or, Int32.or_assoc]
    rfl
theorem r_share {M : Mem} {T : Tn} (h : RA M T) {p q : Nat} (hp : p < tN T) (hq : q < tN T) : F_X7_share 100 (nI p) (nI q) M = some (shV T p q 25 0) := by
  have key1 : ∀ (k d n : Nat), d + k = 25 → k < n → F_X7_share_5 M n 100 (nI p) (nI q) 1 (nI d) = some 1 := by
    intro k
    induction k with
    | zero =>
      intro d n hd hn
      obtain ⟨n, rfl, -⟩ := fu_get hn
      have : d = 25 := by omega
      subst this
      simp only [F_X7_share_5]
      rfl
    | succ k ih =>
      intro d n hd hn
      obtain ⟨n, rfl, hn⟩ := fu_get hn
      simp only [F_X7_share_5]
      unfold F_X7_share_33 F_X7_share_38
      rw [if_neg (show ¬ (24 : Int32) < nI d from nI_nlt (a := 24) (by omega) (by omega)), if_neg d10, nI_1]
      exact ih (d + 1) n (by omega) (by omega)
  have key : ∀ (k d n : Nat), d + k = 25 → k < n → F_X7_share_5 M n 100 (nI p) (nI q) 0 (nI d) = some (shV T p q k d) := by
    intro k
    induction k with
    | zero =>
      intro d n hd hn
      obtain ⟨n, rfl, -⟩ := fu_get hn
      have : d = 25 := by omega
      subst this
      simp only [F_X7_share_5]
      rfl
    | succ k ih =>
      intro d n hd hn
      obtain ⟨n, rfl, hn⟩ := fu_get hn
      simp only [F_X7_share_5]
      unfold F_X7_share_33 F_X7_share_38
      rw [if_neg (show ¬ (24 : Int32) < nI d from nI_nlt (a := 24) (by omega) (by omega)), if_pos trivial, h.ck, Option.bind_some, ref_yardBehind h (by omega) hp, Option.bind_some, Option.bind_some, ref_yardBehind h (by omega) hq, Option.bind_some, nI_1, key1 k (d + 1) n (by omega) (by omega), ih (d + 1) n (by omega) (by omega)]
      conv => rhs; unfold shV
      split <;> rfl
  unfold F_X7_share
  exact key 25 0 FU (by omega) (FU_gt (by omega))
theorem r_shy28 {M : Mem} {T : Tn} (h : RA M T) {p : Nat} (hp : p < tN T) : ∀ (k q n : Nat) (c : Int32), q + k = tN T → k < n → F_X7_shy_28 M n 100 (nI p) c (nI q) = F_X7_shy_88 M FU (c ||| orF (fun q => rSh T p q) k q) 1 := by
  have h7 := h.2.1
  intro k
  induction k with
  | zero =>
    intro q n c hq hn
    obtain ⟨n, rfl, -⟩ := fu_get hn
    simp only [F_X7_shy_28]
    rw [h.n, Option.bind_some, if_pos (nI_le (by omega) (by omega))]
    unfold orF
    rw [Int32.or_zero]
  | succ k ih =>
    intro q n c hq hn
    obtain ⟨n, rfl, hn⟩ := fu_get hn
    simp only [F_X7_shy_28]
    unfold F_X7_shy_77 F_X7_shy_78
    rw [h.n, Option.bind_some, if_neg (nI_ge (by omega) (by omega)), nI_1, Int32.or_zero]
    show _ = F_X7_shy_88 M FU (c ||| (rSh T p q ||| orF (fun q => rSh T p q) k (q + 1))) 1
    rw [← Int32.or_assoc, ← ih (q + 1) n (c ||| rSh T p q) (by omega) (by omega)]
    unfold rSh
    by_cases e : q = p
    · rw [if_pos (by rw [e]), if_pos e, Int32.or_zero]
    · rw [if_neg (fun z => e (nI_inj (by omega) (by omega) z)), if_neg e, h.r4, Option.bind_some, h.d (show q < tN T by omega), Option.bind_some, Option.bind_some, h.d hp, Option.bind_some]
      by_cases e2 : tD T q = tD T p
      · rw [if_pos e2, if_pos e2, h.ck, Option.bind_some, r_share h hp (by omega), Option.bind_some]
        rcases shV_01 T p q 25 0 with e3 | e3
        · rw [if_pos e3, if_pos e3, Int32.or_zero]
        · rw [if_neg (by rw [e3]; decide), if_neg (by rw [e3]; decide), h.r5, Option.bind_some, h.w (show q < tN T by omega), Option.bind_some]
          rfl
      · rw [if_neg e2, if_neg e2, Int32.or_zero]
theorem IsB_0 : IsB 0 := ⟨0, by omega, rfl⟩
theorem IsB.orv {a b : Int32} (ha : IsB a) (hb : IsB b) : IsB (a ||| b) := by
  obtain ⟨m, hm, rfl⟩ := ha
  obtain ⟨k, hk, rfl⟩ := hb
  exact ⟨m ||| k, Nat.or_lt_two_pow (n := 12) hm hk, nI_or m k⟩
theorem orF_ok {f : Nat → Int32} : ∀ (k p : Nat), (∀ j, p ≤ j → j < p + k → IsB (f j)) → IsB (orF f k p)
  | 0, _, _ => IsB_0
  | k + 1, p, h => (h p (by omega) (by omega)).orv (orF_ok k (p + 1) (fun j h1 h2 => h j (by omega) (by omega)))
theorem rSh_ok {T : Tn} (hT : TOk T) {p q : Nat} (hq : q < tN T) (hd : ¬ tD T p = -4) : IsB (rSh T p q) := by
  unfold rSh
  split
  · exact IsB_0
  · split
    · rename_i e
      split
      · exact IsB_0
      · obtain ⟨-, h2, -⟩ := hT.2.2 q hq
        rcases h2 with h2 | ⟨-, w, hw1, hw2, ew⟩
        · exact absurd (e ▸ h2.1) hd
        · unfold bqW
          rw [ew]
          have := IsB_0.or (e := w) (by omega)
          rw [Int32.zero_or] at this
          exact this
    · exact IsB_0
theorem q_shy {G : Sg} (hG : GOk G) (x : Int32) : QC (F_X6_shy 5 x) (F_X7_shy 100 x) G := by
  have h7 := hG.2.2.1.2.1
  by_cases hx : IsP (gT G) x
  · obtain ⟨p, hp, rfl⟩ := id hx
    by_cases hd : tD (gT G) p = -4
    · refine ⟨-2, fun M h => ?_, fun M h => ?_⟩
      · unfold F_X6_shy
        rw [h.1.c, Option.bind_some, h.noP_t hG hx, Option.bind_some, if_pos rfl, h.r1, Option.bind_some, h.ta.ck, Option.bind_some, town_doorOf h.ta hp, Option.bind_some, if_pos hd]
        exact C_.same h
      · unfold F_X7_shy
        rw [h.1.ck, Option.bind_some, h.isP_t hG hx, Option.bind_some, if_neg d10, h.1.r4, Option.bind_some, h.1.d hp, Option.bind_some, if_pos hd]
    · refine ⟨lwF (orF (fun q => rSh (gT G) p q) (tN (gT G)) 0) 9 1, fun M h => ?_, fun M h => ?_⟩
      · obtain ⟨M1, e1, e2, e3, e4⟩ := c_trial h
        obtain ⟨M2, b1, b2, b3⟩ := c_wm15 hp 25 0 FU 0 M1 (by omega) (FU_gt (by omega)) e2 e4
        rw [Int32.zero_or, sh_eq (gT G) hp hd] at b1
        refine ⟨M2, ?_, b2, e3.tr b3⟩
        have b1' : F_X6_widthsMet 5 (nI p) M = some (orF (fun q => rSh (gT G) p q) (tN (gT G)) 0, M2) := by
          unfold F_X6_widthsMet
          rw [h.1.f (f := 2) rfl, Option.bind_some, h.r1, Option.bind_some, chkT_of (h.1.t 1 rfl).1, Option.bind_some, e1, Option.bind_some]
          exact b1
        unfold F_X6_shy
        rw [h.1.c, Option.bind_some, h.noP_t hG hx, Option.bind_some, if_pos rfl, h.r1, Option.bind_some, h.ta.ck, Option.bind_some, town_doorOf h.ta hp, Option.bind_some, if_neg hd, Option.bind_some, b1', Option.bind_some]
        exact c_lw _ M2 9 1 FU (by omega) (FU_gt (by omega))
      · unfold F_X7_shy
        rw [h.1.ck, Option.bind_some, h.isP_t hG hx, Option.bind_some, if_neg d10, h.1.r4, Option.bind_some, h.1.d hp, Option.bind_some, if_neg hd]
        refine (r_shy28 h.1 hp (tN (gT G)) 0 FU 0 (by omega) (FU_gt (by omega))).trans ?_
        rw [Int32.zero_or]
        exact r_lw (orF_ok _ _ (fun j _ hj => rSh_ok hG.2.2.1 (by omega) hd)) M 9 1 FU (by omega) (FU_gt (by omega))
  · refine ⟨-1, fun M h => ?_, fun M h => ?_⟩
    · unfold F_X6_shy
      rw [h.1.c, Option.bind_some, h.noP_f hG hx, Option.bind_some, if_neg d10]
      exact C_.same h
    · unfold F_X7_shy
      rw [h.1.ck, Option.bind_some, h.isP_f hG hx, Option.bind_some, if_pos rfl]
