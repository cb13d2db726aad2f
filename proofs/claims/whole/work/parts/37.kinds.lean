/-! KINDS AND SPEEDS -/
def fitV (G : Sg) (p : Nat) (kd sp : Int32) : Nat → Nat → Int32
  | 0, _ => 1
  | k + 1, i => if (gS G).2.1 i = nI p then (if yB (gT G) ((gS G).2.2.1 i).toNatClampNeg p kd sp = (gS G).2.2.2 i then fitV G p kd sp k (i + 1) else 0) else fitV G p kd sp k (i + 1)
theorem fitV_01 (G : Sg) (p : Nat) (kd sp : Int32) : ∀ k i, fitV G p kd sp k i = 0 ∨ fitV G p kd sp k i = 1
  | 0, _ => Or.inr rfl
  | k + 1, i => by
    unfold fitV
    split
    · split
      · exact fitV_01 G p kd sp k (i + 1)
      · exact Or.inl rfl
    · exact fitV_01 G p kd sp k (i + 1)
theorem c_fit {G : Sg} (hG : GOk G) {p : Nat} (hp : p < tN (gT G)) (kd sp : Int32) {M : Mem} (h : CI M G) : ∀ (k i n : Nat), i + k = (gS G).1 → k < n → F_X1_fitPerson_3 M n 85 9 (nI p) kd sp (nI i) = some (fitV G p kd sp k i) := by
  have h6 := hG.2.2.2.2.2.2.2.1
  have hn := h.2.2.2.2.2.1
  have e0 : fI M 1 85 3 = some (nI (gS G).1) := by rw [fI_of (h.1.s 8 rfl), hn.1]
  have q0 : fR M 1 85 0 = some 86 := by rw [fR_of (h.1.s 8 rfl), h.1.r 14 rfl]
  have q1 : fR M 1 85 1 = some 87 := by rw [fR_of (h.1.s 8 rfl), h.1.r 15 rfl]
  have q2 : fR M 1 85 2 = some 88 := by rw [fR_of (h.1.s 8 rfl), h.1.r 16 rfl]
  intro k
  induction k with
  | zero =>
    intro i n hi hn
    obtain ⟨n, rfl, -⟩ := fu_get hn
    simp only [F_X1_fitPerson_3]
    rw [e0, Option.bind_some, if_pos (nI_le (by omega) (by omega))]
    rfl
  | succ k ih =>
    intro i n hi hn2
    obtain ⟨n, rfl, hn2⟩ := fu_get hn2
    obtain ⟨w1, w2, w3⟩ := hn.2 i (by omega)
    obtain ⟨d, hd, ed⟩ := hG.2.2.2.2.2.2.2.2.1 i (by omega)
    have l0 : ldI M 86 (nI i) = some ((gS G).2.1 i) := by rw [ldI_nI (h.1.s 9 rfl) (by omega) (by omega)]; exact congrArg some w1
    have l1 : ldI M 87 (nI i) = some (nI d) := by rw [ldI_nI (h.1.s 10 rfl) (by omega) (by omega)]; exact congrArg some (w2.trans ed)
    have l2 : ldI M 88 (nI i) = some ((gS G).2.2.2 i) := by rw [ldI_nI (h.1.s 11 rfl) (by omega) (by omega)]; exact congrArg some w3
    simp only [F_X1_fitPerson_3]
    unfold F_X1_fitPerson_50
    rw [e0, Option.bind_some, if_neg (nI_ge (by omega) (by omega)), q0, Option.bind_some, l0, Option.bind_some, nI_1, ih (i + 1) n (by omega) (by omega)]
    conv => rhs; unfold fitV
    by_cases e1 : (gS G).2.1 i = nI p
    · rw [if_pos e1, if_pos e1, q1, Option.bind_some, l1, Option.bind_some, h.ta.ck, Option.bind_some, town_yardBehind h.ta (by omega) hp, Option.bind_some, q2, Option.bind_some, l2, Option.bind_some, ed, nI_clamp (by omega)]
      split <;> rfl
    · rw [if_neg e1, if_neg e1]
theorem r_so0 {M : Mem} (hs : RS M) {m : Nat} (hm : mI M 100 8 = nI m) (h6 : m ≤ 6) (x : Int32) : ∀ (k i n : Nat), i + k = m → k < n → F_X7_isSo_4 M n 100 x 0 (nI i) = some 0 := by
  intro k
  induction k with
  | zero =>
    intro i n hi hn
    obtain ⟨n, rfl, -⟩ := fu_get hn
    simp only [F_X7_isSo_4]
    rw [hs.i, hm, Option.bind_some, if_pos (nI_le (by omega) (by omega))]
    rfl
  | succ k ih =>
    intro i n hi hn
    obtain ⟨n, rfl, hn⟩ := fu_get hn
    simp only [F_X7_isSo_4]
    unfold F_X7_isSo_50 F_X7_isSo_51
    rw [hs.i, hm, Option.bind_some, if_neg (nI_ge (by omega) (by omega)), if_pos trivial, nI_1]
    exact ih (i + 1) n (by omega) (by omega)
theorem r_fit {G : Sg} (hG : GOk G) {p : Nat} {T' : Tn} (hp : p < tN T') (kd sp : Int32) (hT : ∀ d, yB T' d p (tK T' p) (tP T' p) = yB (gT G) d p kd sp) {M : Mem} (h : RI M (gST G T')) : ∀ (k i n : Nat), i + k = (gS G).1 → k < n → F_X7_isSo_4 M n 100 (nI p) 1 (nI i) = some (fitV G p kd sp k i) := by
  have h6 := hG.2.2.2.2.2.2.2.1
  have hn := h.2.2.2.2.1
  have e0 : fI M 7 100 8 = some (nI (gS G).1) := by rw [h.1.1.i, hn.1]; rfl
  intro k
  induction k with
  | zero =>
    intro i n hi hn
    obtain ⟨n, rfl, -⟩ := fu_get hn
    simp only [F_X7_isSo_4]
    rw [e0, Option.bind_some, if_pos (nI_le (by omega) (by omega))]
    rfl
  | succ k ih =>
    intro i n hi hn2
    obtain ⟨n, rfl, hn2⟩ := fu_get hn2
    obtain ⟨w1, w2, w3⟩ := hn.2 i (show i < (gS G).1 by omega)
    obtain ⟨d, hd, ed⟩ := hG.2.2.2.2.2.2.2.2.1 i (by omega)
    have l0 : ldI M 106 (nI i) = some ((gS G).2.1 i) := by rw [ldI_nI (h.1.1.s 9 (a := 105) rfl) (by omega) (by omega)]; exact congrArg some w1
    have l1 : ldI M 107 (nI i) = some (nI d) := by rw [ldI_nI (h.1.1.s 10 (a := 106) rfl) (by omega) (by omega)]; exact congrArg some (w2.trans ed)
    have l2 : ldI M 108 (nI i) = some ((gS G).2.2.2 i) := by rw [ldI_nI (h.1.1.s 11 (a := 107) rfl) (by omega) (by omega)]; exact congrArg some w3
    have hy : F_X7_yardBehind 100 (nI p) (nI d) M = some (yB (gT G) d p kd sp) := by rw [← hT]; exact ref_yardBehind h.1 (by omega) hp
    have z := r_so0 h.1.1 (m := (gS G).1) hn.1 h6 (nI p) k (i + 1) n (by omega) (by omega)
    simp only [F_X7_isSo_4]
    unfold F_X7_isSo_50 F_X7_isSo_46 F_X7_isSo_51
    rw [e0, Option.bind_some, if_neg (nI_ge (by omega) (by omega)), if_neg d10, h.1.1.r 9 (a := 105) rfl, Option.bind_some, l0, Option.bind_some, nI_1, ih (i + 1) n (by omega) (by omega), z]
    conv => rhs; unfold fitV
    by_cases e1 : (gS G).2.1 i = nI p
    · rw [if_pos e1, if_pos e1, h.1.1.r 10 (a := 106) rfl, Option.bind_some, l1, Option.bind_some, h.1.ck, Option.bind_some, hy, Option.bind_some, h.1.1.r 11 (a := 107) rfl, Option.bind_some, l2, Option.bind_some, ed, nI_clamp (by omega)]
      split <;> rfl
    · rw [if_neg e1, if_neg e1]
theorem ref_isSo {G : Sg} (hG : GOk G) {p : Nat} {T' : Tn} (hp : p < tN T') (kd sp : Int32) (hT : ∀ d, yB T' d p (tK T' p) (tP T' p) = yB (gT G) d p kd sp) {M : Mem} (h : RI M (gST G T')) : F_X7_isSo 100 (nI p) M = some (fitV G p kd sp (gS G).1 0) := by
  have h6 := hG.2.2.2.2.2.2.2.1
  unfold F_X7_isSo
  exact r_fit hG hp kd sp hT h (gS G).1 0 FU (by omega) (FU_gt (by omega))
theorem cl_fit {G : Sg} (hG : GOk G) {p : Nat} (hp : p < tN (gT G)) (kd sp : Int32) {M : Mem} (h : CI M G) : F_X1_fitPerson 85 9 (nI p) kd sp M = some (fitV G p kd sp (gS G).1 0) := by
  have h6 := hG.2.2.2.2.2.2.2.1
  unfold F_X1_fitPerson
  exact c_fit hG hp kd sp h (gS G).1 0 FU (by omega) (FU_gt (by omega))
def tSetK (T : Tn) (k : Nat → Int32) : Tn := (T.1, T.2.1, T.2.2.1, k, T.2.2.2.2)
def kindT (T : Tn) (p : Nat) (s : Int32) : Tn := tSetK T (upd (tK T) p s)
theorem ref_setKind {M : Mem} {T : Tn} (h : RA M T) {p : Nat} (hp : p < tN T) (s : Int32) : stI M 101 (nI p) s = some (uI M 101 p s) ∧ RA (uI M 101 p s) (kindT T p s) := by
  have h7 := h.2.1
  exact ⟨stI_nI _ (h.1.s 1 (a := 100) rfl) (by omega) (by omega), h.set (i := 0) (by omega) rfl rfl rfl (fun i hi hne j hj => by
    have : i = 0 ∨ i = 1 ∨ i = 2 ∨ i = 3 ∨ i = 4 := by omega
    rcases this with rfl | rfl | rfl | rfl | rfl <;> first | rfl | exact absurd rfl hne) (fun j hj => rfl)⟩
theorem RI.tn2 {M M' : Mem} {G : Sg} (h : RI M G) {S : Nat → Prop} (hf : Fr S M M') (hS : ∀ a, S a → 100 ≤ a ∧ a ≤ 105) (h0 : ∀ f, f ≠ 2 → f ≠ 3 → mI M' 100 f = mI M 100 f) {T : Tn} (hT : RA M' T) : RI M' (gST G T) ∧ Fr oM M M' := by
  have e : ∀ a, 106 ≤ a → mI M' a = mI M a := fun a ha => hf.i (fun z => by have := hS a z; omega)
  obtain ⟨h1, h2, h3, h4, h5, h6⟩ := h
  exact ⟨⟨hT, h2.of (h0 16 (by omega) (by omega)) (e _ (by omega)), h3.of (h0 22 (by omega) (by omega)) (e _ (by omega)), h4.of (h0 29 (by omega) (by omega)) (e _ (by omega)), h5.of (h0 8 (by omega) (by omega)) (e _ (by omega)) (e _ (by omega)) (e _ (by omega)), h6.of (h0 12 (by omega) (by omega)) (e _ (by omega)) (e _ (by omega))⟩, hf.mono (fun a ha => by have := hS a ha; unfold oM; omega)⟩
/-- both with those that fit -/
def fiB (f : Nat → Int32) : Nat → Int32 → Int32 := fun s c => if f s = 0 then c else c ||| ((1 : Int32) <<< (nI s &&& 31))
theorem c_kinds {G : Sg} (hG : GOk G) {p : Nat} (hp : p < tN (gT G)) {M : Mem} (h : CI M G) : ∀ (k s n : Nat) (c : Int32), s + k = 4 → k < n → F_X6_kinds_14 M n 5 (nI p) c (nI s) = some (itr (fiB (fun s => fitV G p (nI s) (tP (gT G) p) (gS G).1 0)) k s c) := by
  intro k
  induction k with
  | zero =>
    intro s n c hs hn
    obtain ⟨n, rfl, -⟩ := fu_get hn
    have : s = 4 := by omega
    subst this
    simp only [F_X6_kinds_14]
    rfl
  | succ k ih =>
    intro s n c hs hn
    obtain ⟨n, rfl, hn⟩ := fu_get hn
    simp only [F_X6_kinds_14]
    unfold F_X6_kinds_49
    rw [if_neg (show ¬ (4 : Int32) ≤ nI s from nI_ge (b := 4) (by omega) (by omega)), h.1.f (f := 5) rfl, Option.bind_some, h.r1, Option.bind_some, Option.bind_some, h.ta.ck, Option.bind_some, town_paceOf h.ta hp, Option.bind_some, chkT_of (h.1.s 8 rfl), Option.bind_some, cl_fit hG hp _ _ h, Option.bind_some, nI_1]
    show _ = some (itr _ k (s + 1) (fiB (fun s => fitV G p (nI s) (tP (gT G) p) (gS G).1 0) s c))
    rcases fitV_01 G p (nI s) (tP (gT G) p) (gS G).1 0 with e | e
    · rw [if_pos e, show fiB (fun s => fitV G p (nI s) (tP (gT G) p) (gS G).1 0) s c = c from if_pos e]; exact ih (s + 1) n _ (by omega) (by omega)
    · rw [if_neg (by rw [e]; decide), show fiB (fun s => fitV G p (nI s) (tP (gT G) p) (gS G).1 0) s c = c ||| ((1 : Int32) <<< (nI s &&& 31)) from if_neg (by show ¬ fitV G p (nI s) (tP (gT G) p) (gS G).1 0 = 0; rw [e]; decide)]; exact ih (s + 1) n _ (by omega) (by omega)
theorem r_kinds {G : Sg} (hG : GOk G) {p : Nat} (hp : p < tN (gT G)) : ∀ (k s n : Nat) (c v : Int32) (M : Mem), s + k = 4 → k < n → RI M (gST G (kindT (gT G) p v)) → ∃ M', F_X7_kinds_22 n 100 (nI p) (tK (gT G) p) c (nI s) M = some (itr (fiB (fun s => fitV G p (nI s) (tP (gT G) p) (gS G).1 0)) k s c, M') ∧ RI M' G ∧ Fr oM M M' := by
  intro k
  induction k with
  | zero =>
    intro s n c v M hs hn h
    obtain ⟨n, rfl, -⟩ := fu_get hn
    have : s = 4 := by omega
    subst this
    obtain ⟨g1, g2⟩ := ref_setKind (p := p) h.1 hp (tK (gT G) p)
    have g3 : RA (uI M 101 p (tK (gT G) p)) (gT G) := g2.ext rfl rfl rfl (fun i hi j hj => by
      have : i = 0 ∨ i = 1 ∨ i = 2 ∨ i = 3 ∨ i = 4 := by omega
      have e : tK (gT G) j = upd (upd (tK (gT G)) p v) p (tK (gT G) p) j := by
        rw [upd_upd]
        by_cases e : j = p
        · rw [e, upd_eq]
        · rw [upd_ne e]
      rcases this with rfl | rfl | rfl | rfl | rfl <;> first | exact e | rfl)
    obtain ⟨k1, k2⟩ := h.tn2 (M' := uI M 101 p (tK (gT G) p)) (S := fun a => a = 101) (Fr.uI rfl) (fun a ha => by omega) (fun f _ _ => by rw [uI_a _ _ _ _ _ (by omega)]) g3
    refine ⟨_, ?_, k1, k2⟩
    simp only [F_X7_kinds_22]
    rw [if_pos (show (3 : Int32) < nI 4 by decide), h.1.r1, Option.bind_some, g1, Option.bind_some]
    rfl
  | succ k ih =>
    intro s n c v M hs hn h
    obtain ⟨n, rfl, hn⟩ := fu_get hn
    obtain ⟨g1, g2⟩ := ref_setKind (p := p) h.1 hp (nI s)
    have g3 : RA (uI M 101 p (nI s)) (kindT (gT G) p (nI s)) := by
      refine g2.ext rfl rfl rfl (fun i hi j hj => ?_)
      have e : upd (tK (gT G)) p (nI s) j = upd (upd (tK (gT G)) p v) p (nI s) j := by rw [upd_upd]
      have hh : i = 0 ∨ i = 1 ∨ i = 2 ∨ i = 3 ∨ i = 4 := by omega
      rcases hh with rfl | rfl | rfl | rfl | rfl <;> first | exact e | rfl
    obtain ⟨k1, k2⟩ := h.tn2 (M' := uI M 101 p (nI s)) (S := fun a => a = 101) (Fr.uI rfl) (fun a ha => by omega) (fun f _ _ => by rw [uI_a _ _ _ _ _ (by omega)]) g3
    have k1' : RI (uI M 101 p (nI s)) (gST G (kindT (gT G) p (nI s))) := k1
    have hso : F_X7_isSo 100 (nI p) (uI M 101 p (nI s)) = some (fitV G p (nI s) (tP (gT G) p) (gS G).1 0) := ref_isSo hG (T' := kindT (gT G) p (nI s)) hp _ _ (fun d => by
      show yB (kindT (gT G) p (nI s)) d p (upd (tK (gT G)) p (nI s) p) (tP (gT G) p) = _
      rw [upd_eq]
      rfl) k1'
    have hgo : ∀ c', ∃ M', F_X7_kinds_22 n 100 (nI p) (tK (gT G) p) c' (nI (s + 1)) (uI M 101 p (nI s)) = some (itr (fiB (fun s => fitV G p (nI s) (tP (gT G) p) (gS G).1 0)) k (s + 1) c', M') ∧ RI M' G ∧ Fr oM M M' := fun c' => by
      obtain ⟨M', b1, b2, b3⟩ := ih (s + 1) n c' (nI s) (uI M 101 p (nI s)) (by omega) (by omega) k1'
      exact ⟨M', b1, b2, k2.tr b3⟩
    simp only [F_X7_kinds_22]
    unfold F_X7_kinds_53
    rw [if_neg (show ¬ (3 : Int32) < nI s from nI_nlt (a := 3) (by omega) (by omega)), h.1.r1, Option.bind_some, g1, Option.bind_some, g3.ck, Option.bind_some, hso, Option.bind_some, nI_1, Int32.or_zero]
    show ∃ M', _ = some (itr _ k (s + 1) (fiB (fun s => fitV G p (nI s) (tP (gT G) p) (gS G).1 0) s c), M') ∧ _
    rcases fitV_01 G p (nI s) (tP (gT G) p) (gS G).1 0 with e | e
    · rw [if_pos e, show fiB (fun s => fitV G p (nI s) (tP (gT G) p) (gS G).1 0) s c = c from if_pos e]; exact hgo c
    · rw [if_neg (by rw [e]; decide), show fiB (fun s => fitV G p (nI s) (tP (gT G) p) (gS G).1 0) s c = c ||| ((1 : Int32) <<< (nI s &&& 31)) from if_neg (by show ¬ fitV G p (nI s) (tP (gT G) p) (gS G).1 0 = 0; rw [e]; decide)]; exact hgo _
theorem q_kinds {G : Sg} (hG : GOk G) (x : Int32) : QR (F_X6_kinds 5 x) (F_X7_kinds 100 x) G := by
  by_cases hx : IsP (gT G) x
  · obtain ⟨p, hp, rfl⟩ := id hx
    refine ⟨itr (fiB (fun s => fitV G p (nI s) (tP (gT G) p) (gS G).1 0)) 4 0 0, fun M h => ?_, fun M h => ?_⟩
    · unfold F_X6_kinds
      rw [h.1.c, Option.bind_some, h.noP_t hG hx, Option.bind_some, if_pos rfl]
      exact c_kinds hG hp h 4 0 FU 0 (by omega) (FU_gt (by omega))
    · have h' : RI M (gST G (kindT (gT G) p (tK (gT G) p))) := by
        refine (h.tn2 (M' := M) (S := fun a => a = 101) (T := kindT (gT G) p (tK (gT G) p)) Fr.rf (fun a ha => by omega) (fun f _ _ => rfl) (h.1.ext rfl rfl rfl (fun i hi j hj => ?_))).1
        have e : upd (tK (gT G)) p (tK (gT G) p) j = tK (gT G) j := by
          by_cases e : j = p
          · rw [e, upd_eq]
          · rw [upd_ne e]
        have hh : i = 0 ∨ i = 1 ∨ i = 2 ∨ i = 3 ∨ i = 4 := by omega
        rcases hh with rfl | rfl | rfl | rfl | rfl <;> first | exact e | rfl
      obtain ⟨M', b1, b2, b3⟩ := r_kinds hG hp 4 0 FU 0 _ M (by omega) (FU_gt (by omega)) h'
      refine ⟨M', ?_, b2, b3⟩
      unfold F_X7_kinds
      rw [h.1.ck, Option.bind_some, h.isP_t hG hx, Option.bind_some, if_neg d10, h.1.r1, Option.bind_some, h.1.k hp, Option.bind_some]
      exact b1
  · refine ⟨-1, fun M h => ?_, fun M h => ?_⟩
    · unfold F_X6_kinds
      rw [h.1.c, Option.bind_some, h.noP_f hG hx, Option.bind_some, if_neg d10]
    · unfold F_X7_kinds
      rw [h.1.ck, Option.bind_some, h.isP_f hG hx, Option.bind_some, if_pos rfl]
      exact R_.same h
theorem c_speeds {G : Sg} (hG : GOk G) {p : Nat} (hp : p < tN (gT G)) {M : Mem} (h : CI M G) : ∀ (k s n : Nat) (c : Int32), s + k = 12 → k < n → F_X6_speeds_14 M n 5 (nI p) c (nI s) = some (itr (fiB (fun s => fitV G p (tK (gT G) p) (nI s) (gS G).1 0)) k s c) := by
  intro k
  induction k with
  | zero =>
    intro s n c hs hn
    obtain ⟨n, rfl, -⟩ := fu_get hn
    have : s = 12 := by omega
    subst this
    simp only [F_X6_speeds_14]
    rfl
  | succ k ih =>
    intro s n c hs hn
    obtain ⟨n, rfl, hn⟩ := fu_get hn
    simp only [F_X6_speeds_14]
    unfold F_X6_speeds_50
    rw [if_neg (show ¬ (12 : Int32) ≤ nI s from nI_ge (b := 12) (by omega) (by omega)), h.1.f (f := 5) rfl, Option.bind_some, h.r1, Option.bind_some, Option.bind_some, h.ta.ck, Option.bind_some, town_kindOf h.ta hp, Option.bind_some, chkT_of (h.1.s 8 rfl), Option.bind_some, cl_fit hG hp _ _ h, Option.bind_some, nI_1]
    show _ = some (itr _ k (s + 1) (fiB (fun s => fitV G p (tK (gT G) p) (nI s) (gS G).1 0) s c))
    rcases fitV_01 G p (tK (gT G) p) (nI s) (gS G).1 0 with e | e
    · rw [if_pos e, show fiB (fun s => fitV G p (tK (gT G) p) (nI s) (gS G).1 0) s c = c from if_pos e]; exact ih (s + 1) n _ (by omega) (by omega)
    · rw [if_neg (by rw [e]; decide), show fiB (fun s => fitV G p (tK (gT G) p) (nI s) (gS G).1 0) s c = c ||| ((1 : Int32) <<< (nI s &&& 31)) from if_neg (by show ¬ fitV G p (tK (gT G) p) (nI s) (gS G).1 0 = 0; rw [e]; decide)]; exact ih (s + 1) n _ (by omega) (by omega)
theorem r_speeds {G : Sg} (hG : GOk G) {p : Nat} (hp : p < tN (gT G)) : ∀ (k s n : Nat) (c v : Int32) (M : Mem), s + k = 12 → k < n → RI M (gST G (paceT (gT G) p v)) → ∃ M', F_X7_speeds_22 n 100 (nI p) (tP (gT G) p) c (nI s) M = some (itr (fiB (fun s => fitV G p (tK (gT G) p) (nI s) (gS G).1 0)) k s c, M') ∧ RI M' G ∧ Fr oM M M' := by
  intro k
  induction k with
  | zero =>
    intro s n c v M hs hn h
    obtain ⟨n, rfl, -⟩ := fu_get hn
    have : s = 12 := by omega
    subst this
    obtain ⟨g1, g2⟩ := ref_setPace (p := p) h.1 hp (tP (gT G) p)
    have g3 : RA (uI M 105 p (tP (gT G) p)) (gT G) := g2.ext rfl rfl rfl (fun i hi j hj => by
      have : i = 0 ∨ i = 1 ∨ i = 2 ∨ i = 3 ∨ i = 4 := by omega
      have e : tP (gT G) j = upd (upd (tP (gT G)) p v) p (tP (gT G) p) j := by
        rw [upd_upd]
        by_cases e : j = p
        · rw [e, upd_eq]
        · rw [upd_ne e]
      rcases this with rfl | rfl | rfl | rfl | rfl <;> first | exact e | rfl)
    obtain ⟨k1, k2⟩ := h.tn2 (M' := uI M 105 p (tP (gT G) p)) (S := fun a => a = 105) (Fr.uI rfl) (fun a ha => by omega) (fun f _ _ => by rw [uI_a _ _ _ _ _ (by omega)]) g3
    refine ⟨_, ?_, k1, k2⟩
    simp only [F_X7_speeds_22]
    rw [if_pos (show (12 : Int32) ≤ nI 12 by decide), h.1.r7, Option.bind_some, g1, Option.bind_some]
    rfl
  | succ k ih =>
    intro s n c v M hs hn h
    obtain ⟨n, rfl, hn⟩ := fu_get hn
    obtain ⟨g1, g2⟩ := ref_setPace (p := p) h.1 hp (nI s)
    have g3 : RA (uI M 105 p (nI s)) (paceT (gT G) p (nI s)) := by
      refine g2.ext rfl rfl rfl (fun i hi j hj => ?_)
      have e : upd (tP (gT G)) p (nI s) j = upd (upd (tP (gT G)) p v) p (nI s) j := by rw [upd_upd]
      have hh : i = 0 ∨ i = 1 ∨ i = 2 ∨ i = 3 ∨ i = 4 := by omega
      rcases hh with rfl | rfl | rfl | rfl | rfl <;> first | exact e | rfl
    obtain ⟨k1, k2⟩ := h.tn2 (M' := uI M 105 p (nI s)) (S := fun a => a = 105) (Fr.uI rfl) (fun a ha => by omega) (fun f _ _ => by rw [uI_a _ _ _ _ _ (by omega)]) g3
    have k1' : RI (uI M 105 p (nI s)) (gST G (paceT (gT G) p (nI s))) := k1
    have hso : F_X7_isSo 100 (nI p) (uI M 105 p (nI s)) = some (fitV G p (tK (gT G) p) (nI s) (gS G).1 0) := ref_isSo hG (T' := paceT (gT G) p (nI s)) hp _ _ (fun d => by
      show yB (paceT (gT G) p (nI s)) d p (tK (gT G) p) (upd (tP (gT G)) p (nI s) p) = _
      rw [upd_eq]
      rfl) k1'
    have hgo : ∀ c', ∃ M', F_X7_speeds_22 n 100 (nI p) (tP (gT G) p) c' (nI (s + 1)) (uI M 105 p (nI s)) = some (itr (fiB (fun s => fitV G p (tK (gT G) p) (nI s) (gS G).1 0)) k (s + 1) c', M') ∧ RI M' G ∧ Fr oM M M' := fun c' => by
      obtain ⟨M', b1, b2, b3⟩ := ih (s + 1) n c' (nI s) (uI M 105 p (nI s)) (by omega) (by omega) k1'
      exact ⟨M', b1, b2, k2.tr b3⟩
    simp only [F_X7_speeds_22]
    unfold F_X7_speeds_54
    rw [if_neg (show ¬ (12 : Int32) ≤ nI s from nI_ge (b := 12) (by omega) (by omega)), h.1.r7, Option.bind_some, g1, Option.bind_some, g3.ck, Option.bind_some, hso, Option.bind_some, nI_1, Int32.or_zero]
    show ∃ M', _ = some (itr _ k (s + 1) (fiB (fun s => fitV G p (tK (gT G) p) (nI s) (gS G).1 0) s c), M') ∧ _
    rcases fitV_01 G p (tK (gT G) p) (nI s) (gS G).1 0 with e | e
    · rw [if_pos e, show fiB (fun s => fitV G p (tK (gT G) p) (nI s) (gS G).1 0) s c = c from if_pos e]; exact hgo c
    · rw [if_neg (by rw [e]; decide), show fiB (fun s => fitV G p (tK (gT G) p) (nI s) (gS G).1 0) s c = c ||| ((1 : Int32) <<< (nI s &&& 31)) from if_neg (by show ¬ fitV G p (tK (gT G) p) (nI s) (gS G).1 0 = 0; rw [e]; decide)]; exact hgo _
theorem q_speeds {G : Sg} (hG : GOk G) (x : Int32) : QR (F_X6_speeds 5 x) (F_X7_speeds 100 x) G := by
  by_cases hx : IsP (gT G) x
  · obtain ⟨p, hp, rfl⟩ := id hx
    refine ⟨itr (fiB (fun s => fitV G p (tK (gT G) p) (nI s) (gS G).1 0)) 12 0 0, fun M h => ?_, fun M h => ?_⟩
    · unfold F_X6_speeds
      rw [h.1.c, Option.bind_some, h.noP_t hG hx, Option.bind_some, if_pos rfl]
      exact c_speeds hG hp h 12 0 FU 0 (by omega) (FU_gt (by omega))
    · have h' : RI M (gST G (paceT (gT G) p (tP (gT G) p))) := by
        refine (h.tn2 (M' := M) (S := fun a => a = 105) (T := paceT (gT G) p (tP (gT G) p)) Fr.rf (fun a ha => by omega) (fun f _ _ => rfl) (h.1.ext rfl rfl rfl (fun i hi j hj => ?_))).1
        have e : upd (tP (gT G)) p (tP (gT G) p) j = tP (gT G) j := by
          by_cases e : j = p
          · rw [e, upd_eq]
          · rw [upd_ne e]
        have hh : i = 0 ∨ i = 1 ∨ i = 2 ∨ i = 3 ∨ i = 4 := by omega
        rcases hh with rfl | rfl | rfl | rfl | rfl <;> first | exact e | rfl
      obtain ⟨M', b1, b2, b3⟩ := r_speeds hG hp 12 0 FU 0 _ M (by omega) (FU_gt (by omega)) h'
      refine ⟨M', ?_, b2, b3⟩
      unfold F_X7_speeds
      rw [h.1.ck, Option.bind_some, h.isP_t hG hx, Option.bind_some, if_neg d10, h.1.r7, Option.bind_some, h.1.p hp, Option.bind_some]
      exact b1
  · refine ⟨-1, fun M h => ?_, fun M h => ?_⟩
    · unfold F_X6_speeds
      rw [h.1.c, Option.bind_some, h.noP_f hG hx, Option.bind_some, if_neg d10]
    · unfold F_X7_speeds
      rw [h.1.ck, Option.bind_some, h.isP_f hG hx, Option.bind_some, if_pos rfl]
      exact R_.same h
