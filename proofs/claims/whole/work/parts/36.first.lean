/-! FIRST, ALL AND PACES -/
def rdN : Nat → Tn → Tn
  | 0, T => T
  | n + 1, T => rdT (rdN n T)
theorem rdN_N (T : Tn) : ∀ n, tN (rdN n T) = tN T
  | 0 => rfl
  | n + 1 => rdN_N T n
theorem rdN_D (T : Tn) : ∀ n, tD (rdN n T) = tD T ∧ tW (rdN n T) = tW T ∧ tK (rdN n T) = tK T ∧ tP (rdN n T) = tP T
  | 0 => ⟨rfl, rfl, rfl, rfl⟩
  | n + 1 => rdN_D T n
theorem rdN_dy (T : Tn) : ∀ n, tDy (rdN n T) = tDy T + nI n
  | 0 => (Int32.add_zero _).symm
  | n + 1 => by
    show tDy (rdN n T) + 1 = _
    rw [rdN_dy T n, Int32.add_assoc, nI_1]
theorem itr_last {α : Type} (f : Nat → α → α) : ∀ (k p : Nat) (a : α), itr f (k + 1) p a = f (p + k) (itr f k p a)
  | 0, _, _ => rfl
  | k + 1, p, a => by
    show itr f (k + 1) (p + 1) (f p a) = f (p + (k + 1)) (itr f k (p + 1) (f p a))
    rw [itr_last f k (p + 1), show p + 1 + k = p + (k + 1) by omega]
theorem rdN_y (T : Tn) {p : Nat} (hp : p < tN T) : ∀ n, tY (rdN n T) p = yB T n p (tK T p) (tP T p)
  | 0 => by
    unfold yB
    split <;> rfl
  | n + 1 => by
    have ih := rdN_y T hp n
    show (if p < tN (rdN n T) then y1 (rdN n T) p else tY (rdN n T) p) = _
    rw [if_pos (by rw [rdN_N]; exact hp)]
    unfold y1
    unfold yB at ih ⊢
    rw [(rdN_D T n).1, (rdN_D T n).2.2.1, (rdN_D T n).2.2.2]
    by_cases e : tD T p = -4
    · rw [if_pos e, if_pos e]
      rw [if_pos e] at ih
      exact ih
    · rw [if_neg e, if_neg e]
      rw [if_neg e] at ih
      show jrem (tY (rdN n T) p + gO (tDy (rdN n T) + nI 0) (tK T p) (tP T p)) 12 = _
      rw [ih, rdN_dy, show nI 0 = 0 from rfl, Int32.add_zero, itr_last, Nat.zero_add]
theorem btw_rdN (T : Tn) {p q : Nat} (hp : p < tN T) (hq : q < tN T) (n : Nat) : btw (rdN n T) p q = 2 ↔ shW T p q = 1 ∧ yB T n p (tK T p) (tP T p) = yB T n q (tK T q) (tP T q) := by
  have d : (0 : Int32) ≠ 2 ∧ (1 : Int32) ≠ 2 ∧ (0 : Int32) ≠ 1 := by decide
  unfold btw shW
  rw [(rdN_D T n).1, (rdN_D T n).2.1, rdN_y T hp, rdN_y T hq]
  repeat' split
  all_goals simp_all
theorem shW_01 (T : Tn) (p q : Nat) : shW T p q = 0 ∨ shW T p q = 1 := by
  unfold shW
  repeat' split
  all_goals simp
theorem ref_isSame {M : Mem} {T : Tn} (h : RA M T) {p q : Nat} (hp : p < tN T) (hq : q < tN T) : F_X7_isSame 100 (nI p) (nI q) M = some (shW T p q) := by
  unfold F_X7_isSame shW
  simp only [h.r4, h.r5, Option.bind_some, h.d hp, h.d hq, h.w hp, h.w hq]
  repeat' split
  all_goals rfl
def fsD (T : Tn) (p q : Nat) : Nat → Nat → Int32
  | 0, _ => -4
  | k + 1, i => if yB T i p (tK T p) (tP T p) = yB T i q (tK T q) (tP T q) then nI i else fsD T p q k (i + 1)
theorem oS15 {a : Nat} (h : oT 15 a) : oS a := by unfold oT at h; unfold oS; omega
theorem oSC {a : Nat} (h : oS a) : oC a := by unfold oS at h; unfold oC; omega
theorem c_trial {M : Mem} {G : Sg} (h : CI M G) : ∃ M', F_X5_become 15 9 M = some M' ∧ CI M' G ∧ Fr oC M M' ∧ TA M' 15 (gT G) := by
  obtain ⟨M', e1, e2, e3⟩ := town_become (o := 15) (q := 9) (h.1.t 1 rfl) h.ta (Or.inr (by omega))
  exact ⟨M', e1, h.mk0 e2 (fun a ha => oS15 ha), e2.mono (fun a ha => oSC (oS15 ha)), e3⟩
theorem c_first {G : Sg} {p q : Nat} (hp : p < tN (gT G)) (hq : q < tN (gT G)) : ∀ (k i n : Nat) (M : Mem), i + k = 61 → k < n → CI M G → TA M 15 (rdN i (gT G)) → C_ (if shW (gT G) p q = 0 then -4 else fsD (gT G) p q k i) G (F_X6_first_24 n 5 (nI p) (nI q) (nI i) M) M := by
  intro k
  induction k with
  | zero =>
    intro i n M hi hn h ht
    obtain ⟨n, rfl, -⟩ := fu_get hn
    have hi2 : i = 61 := by omega
    subst hi2
    simp only [F_X6_first_24]
    rw [if_pos (show (60 : Int32) < nI 61 by decide)]
    have : (if shW (gT G) p q = 0 then -4 else fsD (gT G) p q 0 61) = -4 := by split <;> rfl
    rw [this]
    exact C_.same h
  | succ k ih =>
    intro i n M hi hn h ht
    obtain ⟨n, rfl, hn⟩ := fu_get hn
    simp only [F_X6_first_24]
    rw [if_neg (show ¬ (60 : Int32) < nI i from nI_nlt (a := 60) (by omega) (by omega)), h.1.f (f := 2) rfl, Option.bind_some, ht.ck, Option.bind_some, town_between ht (by rw [rdN_N]; exact hp) (by rw [rdN_N]; exact hq), Option.bind_some]
    by_cases e : btw (rdN i (gT G)) p q = 2
    · obtain ⟨e1, e2⟩ := (btw_rdN (gT G) hp hq i).mp e
      rw [if_pos e, if_neg (by rw [e1]; decide)]
      unfold fsD
      rw [if_pos e2]
      exact C_.same h
    · rw [if_neg e, Option.bind_some, ht.ck, Option.bind_some]
      obtain ⟨M1, g1, g2, g3⟩ := town_goRound ht
      rw [g1, Option.bind_some, nI_1]
      have k1 := h.mk0 g2 (fun a ha => oS15 ha)
      obtain ⟨M2, b1, b2, b3⟩ := ih (i + 1) n M1 (by omega) (by omega) k1 g3
      refine ⟨M2, ?_, b2, (g2.mono (fun a ha => oSC (oS15 ha))).tr b3⟩
      rw [b1]
      rcases shW_01 (gT G) p q with e1 | e1
      · rw [if_pos e1, if_pos e1]
      · rw [if_neg (by rw [e1]; decide), if_neg (by rw [e1]; decide)]
        conv => rhs; unfold fsD
        rw [if_neg (fun e2 => e ((btw_rdN (gT G) hp hq i).mpr ⟨e1, e2⟩))]
theorem r_first {G : Sg} {p q : Nat} (hp : p < tN (gT G)) (hq : q < tN (gT G)) {M : Mem} (h : RI M G) : ∀ (k i n : Nat), i + k = 61 → k < n → F_X7_first_25 M n 100 (nI p) (nI q) (nI i) = some (if shW (gT G) p q = 0 then -4 else fsD (gT G) p q k i) := by
  have h52 : ∀ i, F_X7_first_52 M 100 (nI p) (nI q) (nI i) = some (if shW (gT G) p q = 0 then -4 else if (60 : Int32) < nI i then -4 else nI i) := by
    intro i
    unfold F_X7_first_52
    rw [h.1.ck, Option.bind_some, ref_isSame h.1 hp hq, Option.bind_some]
    repeat' split
    all_goals rfl
  intro k
  induction k with
  | zero =>
    intro i n hi hn
    obtain ⟨n, rfl, -⟩ := fu_get hn
    have hi2 : i = 61 := by omega
    subst hi2
    simp only [F_X7_first_25]
    rw [if_pos (show (60 : Int32) < nI 61 by decide), h52]
    rw [if_pos (show (60 : Int32) < nI 61 by decide)]
    rfl
  | succ k ih =>
    intro i n hi hn
    obtain ⟨n, rfl, hn⟩ := fu_get hn
    have hlt : ¬ (60 : Int32) < nI i := nI_nlt (a := 60) (by omega) (by omega)
    simp only [F_X7_first_25]
    rw [if_neg hlt, h.1.ck, Option.bind_some, ref_yardBehind h.1 (by omega) hp, Option.bind_some, Option.bind_some, ref_yardBehind h.1 (by omega) hq, Option.bind_some]
    conv => rhs; unfold fsD
    by_cases e : yB (gT G) i p (tK (gT G) p) (tP (gT G) p) = yB (gT G) i q (tK (gT G) q) (tP (gT G) q)
    · rw [if_pos e, if_pos e, h52, if_neg hlt]
    · rw [if_neg e, if_neg e, nI_1]
      exact ih (i + 1) n (by omega) (by omega)
theorem q_first {G : Sg} (hG : GOk G) (x y : Int32) : QC (F_X6_first 5 x y) (F_X7_first 100 x y) G := by
  by_cases hx : IsPr (gT G) x y
  · obtain ⟨⟨p, hp, rfl⟩, ⟨q, hq, rfl⟩, hne⟩ := id hx
    refine ⟨if shW (gT G) p q = 0 then -4 else fsD (gT G) p q 61 0, fun M h => ?_, fun M h => ?_⟩
    · obtain ⟨M1, e1, e2, e3, e4⟩ := c_trial h
      obtain ⟨M2, b1, b2, b3⟩ := c_first hp hq 61 0 FU M1 (by omega) (FU_gt (by omega)) e2 e4
      refine ⟨M2, ?_, b2, e3.tr b3⟩
      unfold F_X6_first
      rw [h.1.c, Option.bind_some, h.noPr_t hG hx, Option.bind_some, if_pos rfl, h.1.f (f := 2) rfl, Option.bind_some, h.r1, Option.bind_some, chkT_of (h.1.t 1 rfl).1, Option.bind_some, e1, Option.bind_some]
      exact b1
    · unfold F_X7_first
      rw [h.1.ck, Option.bind_some, h.isP_t hG hx.1, Option.bind_some, if_neg d10, Option.bind_some, h.isP_t hG hx.2.1, Option.bind_some, if_neg d10, if_neg hne]
      exact r_first hp hq h 61 0 FU (by omega) (FU_gt (by omega))
  · refine ⟨-1, fun M h => ?_, fun M h => ?_⟩
    · unfold F_X6_first
      rw [h.1.c, Option.bind_some, h.noPr_f hG hx, Option.bind_some, if_neg d10]
      exact C_.same h
    · unfold F_X7_first
      rw [h.1.ck, Option.bind_some]
      rcases ref_pair_f h hG hx with e | ⟨e, f⟩ | ⟨e, f, rfl⟩
      · rw [e, Option.bind_some, if_pos rfl]
      · rw [e, Option.bind_some, if_neg d10, Option.bind_some, f, Option.bind_some, if_pos rfl]
      · rw [e, Option.bind_some, if_neg d10, Option.bind_some, Option.bind_some, if_neg d10, if_pos rfl]
/-- the reference's own scratch -/
theorem RI.sc {M M' : Mem} {G : Sg} (h : RI M G) {S : Nat → Prop} (hf : Fr S M M') (hS : ∀ a, S a → a = 100 ∨ a = 112 ∨ (114 ≤ a ∧ a ≤ 117) ∨ 119 ≤ a) (h0 : ∀ f, ¬ rOther f → mI M' 100 f = mI M 100 f) : RI M' G := by
  have e : ∀ a, 101 ≤ a → a ≤ 118 → a ≠ 112 → (a ≤ 113 ∨ a = 118) → mI M' a = mI M a := fun a h1 h2 h3 h4 => hf.i (fun z => by have := hS a z; omega)
  have g : ∀ f, f = 0 ∨ f = 2 ∨ f = 3 ∨ f = 8 ∨ f = 12 ∨ f = 16 ∨ f = 22 ∨ f = 29 → mI M' 100 f = mI M 100 f := fun f hf => h0 f (fun z => by unfold rOther at z; omega)
  obtain ⟨h1, h2, h3, h4, h5, h6⟩ := h
  exact ⟨h1.of (h1.1.fm hf) (fun f hf => g f (by omega)) (fun a _ _ => e a (by omega) (by omega) (by omega) (by omega)), h2.of (g _ (by omega)) (e _ (by omega) (by omega) (by omega) (by omega)), h3.of (g _ (by omega)) (e _ (by omega) (by omega) (by omega) (by omega)), h4.of (g _ (by omega)) (e _ (by omega) (by omega) (by omega) (by omega)), h5.of (g _ (by omega)) (e _ (by omega) (by omega) (by omega) (by omega)) (e _ (by omega) (by omega) (by omega) (by omega)) (e _ (by omega) (by omega) (by omega) (by omega)), h6.of (g _ (by omega)) (e _ (by omega) (by omega) (by omega) (by omega)) (e _ (by omega) (by omega) (by omega) (by omega))⟩
theorem r_begin {M : Mem} {G : Sg} (h : RI M G) : ∃ M', F_X7_begin 100 M = some M' ∧ RI M' G ∧ Fr (fun a => a = 114) M M' ∧ NA M' 114 0 (gT G) := by
  obtain ⟨M', e1, e2, e3⟩ := ref_lays h.1 (at_ := 0) (h.1.1.s 23 (a := 113) rfl) (by omega) (by omega) (by omega)
  refine ⟨M', ?_, h.sc e2 (fun a ha => by omega) (fun f _ => by rw [e2.i (by omega)]), e2, layF_NA h.1 e3⟩
  unfold F_X7_begin
  rw [h.1.1.r 23 (a := 113) rfl, Option.bind_some, h.1.ck, Option.bind_some, z0, e1]
  rfl
theorem r_putBack {M : Mem} {G : Sg} {T : Tn} (h : RI M (gST G T)) (hN : NA M 114 0 (gT G)) (hk : sameK T (gT G)) : ∃ M', F_X7_putBack 100 M = some M' ∧ RI M' G ∧ Fr oM M M' := by
  obtain ⟨M', g1, g2, g3, g4⟩ := ref_takes (T' := gT G) (at_ := 0) h.1 (h.1.1.s 23 (a := 113) rfl) (by omega) (by omega) (by omega) hN hk
  obtain ⟨k2, k3⟩ := h.tn g2 (fun a ha => ha) g3 g4
  refine ⟨M', ?_, k2, k3⟩
  unfold F_X7_putBack
  rw [h.1.1.r 23 (a := 113) rfl, Option.bind_some, h.1.ck, Option.bind_some, z0, g1]
  rfl
theorem NA.fr {S : Nat → Prop} {M M' : Mem} {row at_ : Nat} {T : Tn} (h : NA M row at_ T) (hf : Fr S M M') (hn : ¬ S row) : NA M' row at_ T := by
  unfold NA
  rw [hf.i hn]
  exact h
theorem m_all {G : Sg} (hG : GOk G) (x : Int32) : QM (F_X6_all 5 x) (F_X7_all 100 x) G := by
  by_cases hx : InR 1 60 x
  · obtain ⟨n, hn1, hn2, rfl⟩ := id hx
    refine ⟨(gon n (gT G) 0).1, G, hG, fun M h => ?_, fun M h => ?_⟩
    · obtain ⟨M1, e1, e2, e3, e4⟩ := c_trial h
      obtain ⟨M2, g1, g2, g3⟩ := town_days (n := n) e4 (by omega)
      refine ⟨M2, ?_, e2.mk0 g2 (fun a ha => oS15 ha), e3.tr (g2.mono (fun a ha => oSC (oS15 ha)))⟩
      unfold F_X6_all
      rw [out_t 1 60 1 60 hx, Option.bind_some, if_pos rfl, h.1.f (f := 2) rfl, Option.bind_some, h.r1, Option.bind_some, chkT_of (h.1.t 1 rfl).1, Option.bind_some, e1, Option.bind_some, e2.1.f (f := 2) rfl, Option.bind_some, e4.ck, Option.bind_some, g1]
      rfl
    · obtain ⟨M1, e1, e2, e3, e4⟩ := r_begin h
      obtain ⟨M2, g1, g2, g3, g4, g5⟩ := ref_goesOn (n := n) e2.1 (by omega)
      obtain ⟨k1, k2⟩ := e2.tn g2 (fun a ha => by unfold oP at ha; unfold oK; omega) g3 g5
      obtain ⟨M3, b1, b2, b3⟩ := r_putBack k1 (e4.fr g2 (by unfold oP; omega)) ⟨(gon_N n (gT G) 0).symm, fun j hj => (congrFun (gon_K n (gT G) 0) j).symm⟩
      refine ⟨M3, ?_, b2, ((e3.mono (S2 := oM) (fun a ha => by unfold oM; omega)).tr k2).tr b3⟩
      unfold F_X7_all
      rw [in_t 1 60 1 60 hx, Option.bind_some, if_neg d10, h.1.ck, Option.bind_some, e1, Option.bind_some, e2.1.mt, Option.bind_some, e2.1.ck, Option.bind_some, g1, Option.bind_some, g5.mt, Option.bind_some, g5.ck, Option.bind_some, b1, Option.bind_some]
      show some (tMt (gT G) + (gon n (gT G) 0).1 - tMt (gT G), M3) = _
      rw [sub_add1]
  · refine ⟨-1, G, hG, fun M h => ⟨M, ?_, h, Fr.rf⟩, fun M h => ⟨M, ?_, h, Fr.rf⟩⟩
    · unfold F_X6_all
      rw [out_f 1 60 1 60 hx, Option.bind_some, if_neg d10]
    · unfold F_X7_all
      rw [in_f 1 60 1 60 hx]
      rfl
/-- the paces that lead there -/
def pcB (T : Tn) (n p : Nat) (y : Int32) : Nat → Int32 → Int32 := fun s c => if yB T n p (tK T p) (nI s) = y then c ||| ((1 : Int32) <<< (nI s &&& 31)) else c
theorem c_paces {G : Sg} {p : Nat} (hp : p < tN (gT G)) {d : Nat} (hd : d ≤ 24) (y : Int32) {M : Mem} (h : CI M G) : ∀ (k s n : Nat) (c : Int32), s + k = 12 → k < n → F_X6_paces_68 M n 5 (nI p) (nI d) y c (nI s) = some (itr (pcB (gT G) d p y) k s c) := by
  intro k
  induction k with
  | zero =>
    intro s n c hs hn
    obtain ⟨n, rfl, -⟩ := fu_get hn
    have : s = 12 := by omega
    subst this
    simp only [F_X6_paces_68]
    rfl
  | succ k ih =>
    intro s n c hs hn
    obtain ⟨n, rfl, hn⟩ := fu_get hn
    simp only [F_X6_paces_68]
    rw [if_neg (show ¬ (12 : Int32) ≤ nI s from nI_ge (b := 12) (by omega) (by omega)), h.r1, Option.bind_some, Option.bind_some, h.ta.ck, Option.bind_some, town_kindOf h.ta hp, Option.bind_some, Option.bind_some, town_yardBehind h.ta (by omega) hp, Option.bind_some]
    unfold F_X6_paces_108
    rw [nI_1]
    show _ = some (itr (pcB (gT G) d p y) k (s + 1) (pcB (gT G) d p y s c))
    unfold pcB
    by_cases e : yB (gT G) d p (tK (gT G) p) (nI s) = y
    · rw [if_pos e, if_pos e]; exact ih (s + 1) n _ (by omega) (by omega)
    · rw [if_neg e, if_neg e]; exact ih (s + 1) n _ (by omega) (by omega)
theorem upd_upd (f : Nat → Int32) (p : Nat) (a b : Int32) : upd (upd f p a) p b = upd f p b := by
  funext x
  unfold upd
  split <;> rfl
theorem r_paces {G : Sg} {p q : Nat} (hp : p < tN (gT G)) (hq : q < tN (gT G)) (hne : q ≠ p) {d : Nat} (hd : d ≤ 24) : ∀ (k s n : Nat) (c v : Int32) (M : Mem), s + k = 12 → k < n → RI M (gST G (paceT (gT G) p v)) → ∃ M', F_X7_paces_47 n 100 (nI p) (nI q) (nI d) (tP (gT G) p) c (nI s) M = some (if shW (gT G) p q = 0 then c else itr (pcB (gT G) d p (yB (gT G) d q (tK (gT G) q) (tP (gT G) q))) k s c, M') ∧ RI M' G ∧ Fr oM M M' := by
  intro k
  induction k with
  | zero =>
    intro s n c v M hs hn h
    obtain ⟨n, rfl, -⟩ := fu_get hn
    have : s = 12 := by omega
    subst this
    obtain ⟨g1, g2⟩ := ref_setPace (p := p) h.1 hp (tP (gT G) p)
    have g3 : RA (uI M 105 p (tP (gT G) p)) (gT G) := g2.ext rfl rfl rfl (fun i hi j hj => by
      have : i = 0 ∨ i = 1 ∨ i = 2 ∨ i = 3 ∨ i = 4 := by omega
      rcases this with rfl | rfl | rfl | rfl | rfl
      · rfl
      · rfl
      · rfl
      · rfl
      · show tP (gT G) j = upd (upd (tP (gT G)) p v) p (tP (gT G) p) j
        rw [upd_upd]
        by_cases e : j = p
        · rw [e, upd_eq]
        · rw [upd_ne e])
    obtain ⟨k1, k2⟩ := h.tn (M' := uI M 105 p (tP (gT G) p)) (S := oK) (Fr.uI (Or.inr ⟨by omega, by omega⟩)) (fun a ha => ha) (fun f _ _ => by rw [uI_a _ _ _ _ _ (by omega)]) g3
    refine ⟨_, ?_, k1, k2⟩
    simp only [F_X7_paces_47]
    rw [if_pos (show (12 : Int32) ≤ nI 12 by decide), h.1.r7, Option.bind_some, g1, Option.bind_some]
    have : (if shW (gT G) p q = 0 then c else itr (pcB (gT G) d p (yB (gT G) d q (tK (gT G) q) (tP (gT G) q))) 0 12 c) = c := by split <;> rfl
    rw [this]
  | succ k ih =>
    intro s n c v M hs hn h
    obtain ⟨n, rfl, hn⟩ := fu_get hn
    obtain ⟨g1, g2⟩ := ref_setPace (p := p) h.1 hp (nI s)
    have g3 : RA (uI M 105 p (nI s)) (paceT (gT G) p (nI s)) := by
      have := upd_upd (tP (gT G)) p v (nI s)
      refine g2.ext rfl rfl rfl (fun i hi j hj => ?_)
      have hh : i = 0 ∨ i = 1 ∨ i = 2 ∨ i = 3 ∨ i = 4 := by omega
      rcases hh with rfl | rfl | rfl | rfl | rfl
      · rfl
      · rfl
      · rfl
      · rfl
      · show upd (tP (gT G)) p (nI s) j = upd (upd (tP (gT G)) p v) p (nI s) j
        rw [this]
    obtain ⟨k1, k2⟩ := h.tn (M' := uI M 105 p (nI s)) (S := oK) (Fr.uI (Or.inr ⟨by omega, by omega⟩)) (fun a ha => ha) (fun f _ _ => by rw [uI_a _ _ _ _ _ (by omega)]) g3
    have hs1 : F_X7_isSame 100 (nI p) (nI q) (uI M 105 p (nI s)) = some (shW (gT G) p q) := ref_isSame g3 hp hq
    have hy1 : F_X7_yardBehind 100 (nI p) (nI d) (uI M 105 p (nI s)) = some (yB (gT G) d p (tK (gT G) p) (nI s)) := by
      rw [ref_yardBehind g3 (by omega) hp]
      show some (yB (paceT (gT G) p (nI s)) d p (tK (gT G) p) (upd (tP (gT G)) p (nI s) p)) = _
      rw [upd_eq]
      rfl
    have hy2 : F_X7_yardBehind 100 (nI q) (nI d) (uI M 105 p (nI s)) = some (yB (gT G) d q (tK (gT G) q) (tP (gT G) q)) := by
      rw [ref_yardBehind g3 (by omega) hq]
      show some (yB (paceT (gT G) p (nI s)) d q (tK (gT G) q) (upd (tP (gT G)) p (nI s) q)) = _
      rw [upd_ne hne]
      rfl
    have hgo : ∀ c', ∃ M', F_X7_paces_47 n 100 (nI p) (nI q) (nI d) (tP (gT G) p) c' (nI (s + 1)) (uI M 105 p (nI s)) = some (if shW (gT G) p q = 0 then c' else itr (pcB (gT G) d p (yB (gT G) d q (tK (gT G) q) (tP (gT G) q))) k (s + 1) c', M') ∧ RI M' G ∧ Fr oM M M' := fun c' => by
      obtain ⟨M', b1, b2, b3⟩ := ih (s + 1) n c' (nI s) (uI M 105 p (nI s)) (by omega) (by omega) k1
      exact ⟨M', b1, b2, k2.tr b3⟩
    simp only [F_X7_paces_47]
    rw [if_neg (show ¬ (12 : Int32) ≤ nI s from nI_ge (b := 12) (by omega) (by omega)), h.1.r7, Option.bind_some, g1, Option.bind_some, g3.ck, Option.bind_some, hs1, Option.bind_some]
    unfold F_X7_paces_95 F_X7_paces_96
    rw [nI_1, Int32.or_zero]
    rcases shW_01 (gT G) p q with e1 | e1
    · obtain ⟨M', b1, b2⟩ := hgo c
      refine ⟨M', ?_, b2⟩
      rw [if_pos e1, b1, if_pos e1, if_pos e1]
    · have e1' : ¬ shW (gT G) p q = 0 := by rw [e1]; decide
      rw [if_neg e1', Option.bind_some, hy1, Option.bind_some, Option.bind_some, hy2, Option.bind_some]
      by_cases e : yB (gT G) d p (tK (gT G) p) (nI s) = yB (gT G) d q (tK (gT G) q) (tP (gT G) q)
      · obtain ⟨M', b1, b2⟩ := hgo (c ||| ((1 : Int32) <<< (nI s &&& 31)))
        refine ⟨M', ?_, b2⟩
        rw [if_pos e, b1, if_neg e1', if_neg e1']
        show _ = some (itr _ k (s + 1) (pcB (gT G) d p _ s c), M')
        conv => rhs; rw [show pcB (gT G) d p (yB (gT G) d q (tK (gT G) q) (tP (gT G) q)) s c = c ||| ((1 : Int32) <<< (nI s &&& 31)) from if_pos e]
      · obtain ⟨M', b1, b2⟩ := hgo c
        refine ⟨M', ?_, b2⟩
        rw [if_neg e, b1, if_neg e1', if_neg e1']
        show _ = some (itr _ k (s + 1) (pcB (gT G) d p _ s c), M')
        conv => rhs; rw [show pcB (gT G) d p (yB (gT G) d q (tK (gT G) q) (tP (gT G) q)) s c = c from if_neg e]
theorem q_paces {G : Sg} (hG : GOk G) (x y z : Int32) : QR (F_X6_paces 5 x y z) (F_X7_paces 100 x y z) G := by
  by_cases hx : IsPr (gT G) x y
  · by_cases hz : InR 1 24 z
    · obtain ⟨⟨p, hp, rfl⟩, ⟨q, hq, rfl⟩, hne⟩ := id hx
      obtain ⟨d, hd1, hd2, rfl⟩ := id hz
      refine ⟨if shW (gT G) p q = 0 then 0 else itr (pcB (gT G) d p (yB (gT G) d q (tK (gT G) q) (tP (gT G) q))) 12 0 0, fun M h => ?_, fun M h => ?_⟩
      · unfold F_X6_paces
        rw [h.1.c, Option.bind_some, h.noPr_t hG hx, Option.bind_some, if_pos rfl, out_t 1 24 1 24 hz, Option.bind_some, if_pos rfl, h.r1, Option.bind_some, h.ta.ck, Option.bind_some, town_share h.ta hp hq, Option.bind_some]
        rcases shW_01 (gT G) p q with e1 | e1
        · rw [if_pos e1, if_pos e1]
        · have e1' : ¬ shW (gT G) p q = 0 := by rw [e1]; decide
          rw [if_neg e1', if_neg e1', Option.bind_some, Option.bind_some, h.ta.ck, Option.bind_some, town_kindOf h.ta hq, Option.bind_some, Option.bind_some, h.ta.ck, Option.bind_some, town_paceOf h.ta hq, Option.bind_some, Option.bind_some, town_yardBehind h.ta (by omega) hq, Option.bind_some]
          exact c_paces hp hd2 _ h 12 0 FU 0 (by omega) (FU_gt (by omega))
      · have h' : RI M (gST G (paceT (gT G) p (tP (gT G) p))) := by
          refine (h.tn (M' := M) (S := oK) (T := paceT (gT G) p (tP (gT G) p)) Fr.rf (fun a ha => ha) (fun f _ _ => rfl) (h.1.ext rfl rfl rfl (fun i hi j hj => ?_))).1
          have hh : i = 0 ∨ i = 1 ∨ i = 2 ∨ i = 3 ∨ i = 4 := by omega
          rcases hh with rfl | rfl | rfl | rfl | rfl
          · rfl
          · rfl
          · rfl
          · rfl
          · show upd (tP (gT G)) p (tP (gT G) p) j = tP (gT G) j
            by_cases e : j = p
            · rw [e, upd_eq]
            · rw [upd_ne e]
        obtain ⟨M', b1, b2, b3⟩ := r_paces hp hq (fun e => hne (by rw [e])) hd2 12 0 FU 0 _ M (by omega) (FU_gt (by omega)) h'
        refine ⟨M', ?_, b2, b3⟩
        unfold F_X7_paces
        rw [h.1.ck, Option.bind_some, h.isP_t hG hx.1, Option.bind_some, if_neg d10, Option.bind_some, h.isP_t hG hx.2.1, Option.bind_some, if_neg d10, if_neg hne, in_t 1 24 1 24 hz, Option.bind_some, if_neg d10, h.1.r7, Option.bind_some, h.1.p hp, Option.bind_some]
        exact b1
    · refine ⟨-1, fun M h => ?_, fun M h => ?_⟩
      · unfold F_X6_paces
        rw [h.1.c, Option.bind_some, h.noPr_t hG hx, Option.bind_some, if_pos rfl, out_f 1 24 1 24 hz, Option.bind_some, if_neg d10]
      · unfold F_X7_paces
        rw [h.1.ck, Option.bind_some, h.isP_t hG hx.1, Option.bind_some, if_neg d10, Option.bind_some, h.isP_t hG hx.2.1, Option.bind_some, if_neg d10, if_neg hx.2.2, in_f 1 24 1 24 hz, Option.bind_some, if_pos rfl]
        exact R_.same h
  · refine ⟨-1, fun M h => ?_, fun M h => ?_⟩
    · unfold F_X6_paces
      rw [h.1.c, Option.bind_some, h.noPr_f hG hx, Option.bind_some, if_neg d10]
    · unfold F_X7_paces
      rw [h.1.ck, Option.bind_some]
      rcases ref_pair_f h hG hx with e | ⟨e, f⟩ | ⟨e, f, rfl⟩
      · rw [e, Option.bind_some, if_pos rfl]; exact R_.same h
      · rw [e, Option.bind_some, if_neg d10, Option.bind_some, f, Option.bind_some, if_pos rfl]; exact R_.same h
      · rw [e, Option.bind_some, if_neg d10, Option.bind_some, Option.bind_some, if_neg d10, if_pos rfl]; exact R_.same h
