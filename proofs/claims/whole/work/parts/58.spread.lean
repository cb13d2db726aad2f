/-! SPREAD, THE REFERENCE: guests; both sides -/
theorem gsG_ex {T : Tn} {d : Int32} {a : Nat} (h : a < ngG T d) : gsG T d a < tN T ∧ tD T (gsG T d a) = d ∧ ixG T d (gsG T d a) = a := by
  obtain ⟨q, h1, h2, h3⟩ := ixG_ex T d (tN T) a h
  have := gsG_eq h1 h2
  rw [h3] at this
  rw [this]
  exact ⟨h1, h2, h3⟩
def SCr (M M' : Mem) : Prop := Fr (fun a => a = 100 ∨ (115 ≤ a ∧ a ≤ 117)) M M' ∧ ∀ f, f ≠ 24 → mI M' 100 f = mI M 100 f
theorem SCr.rf {M : Mem} : SCr M M := ⟨Fr.rf, fun _ _ => rfl⟩
theorem SCr.tr {M M1 M2 : Mem} (h1 : SCr M M1) (h2 : SCr M1 M2) : SCr M M2 := ⟨h1.1.tr h2.1, fun f hf => (h2.2 f hf).trans (h1.2 f hf)⟩
theorem SCr.row {M M1 : Mem} {x : Nat} (h : Fr (fun a => a = x) M M1) (hx : 115 ≤ x ∧ x ≤ 117) : SCr M M1 := ⟨h.mono (fun a ha => Or.inr (by omega)), fun f _ => by rw [h.i (by omega)]⟩
theorem SCr.ra {M M1 : Mem} {T : Tn} (h : SCr M M1) (hr : RA M T) : RA M1 T := hr.of (hr.1.fm h.1) (fun f hf => h.2 f (by omega)) (fun a h1 h2 => h.1.i (by omega))
theorem SCr.ri {M M1 : Mem} {G : Sg} (h : SCr M M1) (hr : RI M G) : RI M1 G := hr.sc h.1 (fun a ha => by omega) (fun f hf => h.2 f (fun z => hf (by rw [z]; unfold rOther; omega)))
theorem r_sg7 {T : Tn} {d : Int32} : ∀ (k p n : Nat) (M : Mem), p + k = tN T → k < n → RA M T → mI M 100 24 = nI (ixG T d p) → (∀ j, j < ixG T d p → mI M 115 j = nI (ggG T d p j)) → ∃ M', F_X7_setGuests_7 n 100 d (nI p) M = F_X7_setGuests_53 FU 100 0 M' ∧ SCr M M' ∧ mI M' 100 24 = nI (ngG T d) ∧ ∀ j, j < ngG T d → mI M' 115 j = nI (gsG T d j) := by
  intro k
  induction k with
  | zero =>
    intro p n M hp hn h h1 h2
    obtain ⟨n, rfl, -⟩ := fu_get hn
    have h7 := h.2.1
    have : p = tN T := by omega
    subst this
    refine ⟨M, ?_, SCr.rf, h1, h2⟩
    simp only [F_X7_setGuests_7]
    rw [h.n, Option.bind_some, if_pos (nI_le (by omega) (by omega))]
  | succ k ih =>
    intro p n M hp hn h h1 h2
    obtain ⟨n, rfl, hn⟩ := fu_get hn
    have h7 := h.2.1
    have hi := ixG_le T d p
    by_cases e : tD T p = d
    · have s1 : SCr M (uI M 115 (ixG T d p) (nI p)) := SCr.row (x := 115) (Fr.uI rfl) (by omega)
      have s2 : SCr (uI M 115 (ixG T d p) (nI p)) (uI (uI M 115 (ixG T d p) (nI p)) 100 24 (nI (ixG T d p + 1))) := ⟨Fr.uI (Or.inl rfl), fun f hf => by rw [mI_uI, if_pos rfl, upd_ne hf]⟩
      have s3 := s1.tr s2
      have r1 := s1.ra h
      obtain ⟨M', g1, g2, g3⟩ := ih (p + 1) n (uI (uI M 115 (ixG T d p) (nI p)) 100 24 (nI (ixG T d p + 1))) (by omega) (by omega) (s3.ra h) (by rw [mI_uI, if_pos rfl, upd_eq, ixG_t e]) (fun j hj => by
        rw [ixG_t e] at hj
        rw [uI_a _ _ _ _ _ (by omega), mI_uI, if_pos rfl]
        show _ = nI ((if tD T p = d then va_up (ggG T d p) (ixG T d p) p else ggG T d p) j)
        rw [if_pos e]
        by_cases y : j = ixG T d p
        · rw [y, upd_eq, vu_eq]
        · rw [upd_ne y, vu_ne y]; exact h2 j (by omega))
      refine ⟨M', ?_, s3.tr g2, g3⟩
      simp only [F_X7_setGuests_7]
      unfold F_X7_setGuests_45
      rw [h.n, Option.bind_some, if_neg (nI_ge (by omega) (by omega)), h.r4, Option.bind_some, h.d (show p < tN T by omega), Option.bind_some, if_pos e, h.1.r 25 (a := 114) rfl, Option.bind_some, h.1.i, Option.bind_some, h1, stI_nI _ (h.1.s 25 (a := 114) rfl) (by omega) (by omega), Option.bind_some, r1.1.i, Option.bind_some, uI_a _ _ _ _ _ (by omega), h1, nI_1, r1.1.p, Option.bind_some, nI_1]
      exact g1
    · obtain ⟨M', g1, g2⟩ := ih (p + 1) n M (by omega) (by omega) h (by rw [ixG_f e]; exact h1) (fun j hj => by
        rw [ixG_f e] at hj
        show _ = nI ((if tD T p = d then va_up (ggG T d p) (ixG T d p) p else ggG T d p) j)
        rw [if_neg e]
        exact h2 j hj)
      refine ⟨M', ?_, g2⟩
      simp only [F_X7_setGuests_7]
      unfold F_X7_setGuests_45
      rw [h.n, Option.bind_some, if_neg (nI_ge (by omega) (by omega)), h.r4, Option.bind_some, h.d (show p < tN T by omega), Option.bind_some, if_neg e, nI_1]
      exact g1
/-- the guests stand -/
def GM (M : Mem) (T : Tn) (d : Int32) : Prop := RA M T ∧ mI M 100 24 = nI (ngG T d) ∧ ∀ j, j < ngG T d → mI M 115 j = nI (gsG T d j)
theorem GM.fr {M M1 : Mem} {T : Tn} {d : Int32} {x : Nat} (h : GM M T d) (hf : Fr (fun a => a = x) M M1) (hx : x = 116 ∨ x = 117) : GM M1 T d := ⟨(SCr.row hf (by omega)).ra h.1, by rw [hf.i (by omega)]; exact h.2.1, by rw [hf.i (by omega)]; exact h.2.2⟩
theorem r_sg70 {T : Tn} {d : Int32} (r53 : Nat → Int32 → Mem → Option Mem) {a : Nat} (ha : a < ngG T d) : ∀ (k b n : Nat) (M : Mem) (S : Nat → Prop), b + k = ngG T d → k < n → GM M T d → Bt (mI M 116 a) S → ∃ M', F_X7_setGuests_70 r53 n 100 (nI a) (nI b) M = r53 100 (nI (a + 1)) M' ∧ Fr (fun a => a = 116) M M' ∧ (∀ x, x ≠ a → mI M' 116 x = mI M 116 x) ∧ Bt (mI M' 116 a) (fun j => S j ∨ (b ≤ j ∧ j < ngG T d ∧ ¬ a = j ∧ cfG T d a j = true)) := by
  intro k
  induction k with
  | zero =>
    intro b n M S hb hn h hS
    obtain ⟨n, rfl, -⟩ := fu_get hn
    have hg := ngG_7 h.1.2.1 d
    refine ⟨M, ?_, Fr.rf, fun _ _ => rfl, hS.ext (fun j _ => ⟨Or.inl, fun z => z.elim id (fun y => by omega)⟩)⟩
    simp only [F_X7_setGuests_70]
    rw [h.1.1.i, Option.bind_some, h.2.1, if_pos (nI_le (by omega) (by omega)), nI_1]
  | succ k ih =>
    intro b n M S hb hn h hS
    obtain ⟨n, rfl, hn⟩ := fu_get hn
    have hg := ngG_7 h.1.2.1 d
    have s116 := h.1.1.s 26 (a := 115) rfl
    have r116 := h.1.1.r 26 (a := 115) rfl
    have s115 := h.1.1.s 25 (a := 114) rfl
    have r115 := h.1.1.r 25 (a := 114) rfl
    have ga := gsG_ex ha
    have gb := gsG_ex (T := T) (d := d) (a := b) (by omega)
    have go : ∀ (v : Int32) (S' : Nat → Prop), Bt v S' → (∀ j, S' j ↔ S j ∨ (j = b ∧ ¬ a = j ∧ cfG T d a j = true)) → ∃ M', F_X7_setGuests_70 r53 n 100 (nI a) (nI (b + 1)) (uI M 116 a v) = r53 100 (nI (a + 1)) M' ∧ Fr (fun a => a = 116) M M' ∧ (∀ x, x ≠ a → mI M' 116 x = mI M 116 x) ∧ Bt (mI M' 116 a) (fun j => S j ∨ (b ≤ j ∧ j < ngG T d ∧ ¬ a = j ∧ cfG T d a j = true)) := by
      intro v S' hv hS'
      have hf1 : Fr (fun a => a = 116) M (uI M 116 a v) := Fr.uI rfl
      obtain ⟨M', g1, g2, g3, g4⟩ := ih (b + 1) n (uI M 116 a v) S' (by omega) (by omega) (h.fr hf1 (by omega)) (by rw [mI_uI, if_pos rfl, upd_eq]; exact hv)
      refine ⟨M', g1, hf1.tr g2, fun x hx => by rw [g3 x hx, mI_uI, if_pos rfl, upd_ne hx], g4.ext (fun j _ => ?_)⟩
      rw [hS']
      constructor
      · rintro ((z | z) | z)
        · exact Or.inl z
        · exact Or.inr ⟨by omega, by omega, z.2⟩
        · exact Or.inr ⟨by omega, z.2⟩
      · rintro (z | z)
        · exact Or.inl (Or.inl z)
        · by_cases y : j = b
          · exact Or.inl (Or.inr ⟨y, z.2.2⟩)
          · exact Or.inr ⟨by omega, z.2⟩
    simp only [F_X7_setGuests_70]
    unfold F_X7_setGuests_115 F_X7_setGuests_116
    rw [h.1.1.i, Option.bind_some, h.2.1, if_neg (nI_ge (by omega) (by omega)), r116, Option.bind_some, ldI_nI s116 (by omega) (by omega), Option.bind_some, nI_1, stI_nI _ s116 (by omega) (by omega), Option.bind_some, Int32.or_zero]
    by_cases e : a = b
    · rw [if_pos (by rw [e])]
      exact go _ S hS (fun j => ⟨Or.inl, fun z => z.elim id (fun y => absurd (e.trans y.1.symm) y.2.1)⟩)
    · rw [if_neg (fun z => e (nI_inj (by omega) (by omega) z)), r115, Option.bind_some, ldI_nI s115 (by omega) (by omega), Option.bind_some, Option.bind_some, ldI_nI s115 (by omega) (by omega), Option.bind_some, h.1.ck, Option.bind_some, h.2.2 a ha, h.2.2 b (by omega), r_share h.1 ga.1 gb.1, Option.bind_some]
      by_cases e2 : shV T (gsG T d a) (gsG T d b) 25 0 = 0
      · rw [if_pos e2]
        refine go _ S hS (fun j => ⟨Or.inl, fun z => z.elim id (fun y => ?_)⟩)
        have := y.2.2
        rw [y.1] at this
        unfold cfG at this
        rw [decide_eq_true_iff] at this
        exact absurd e2 this
      · rw [if_neg e2, stI_nI _ s116 (by omega) (by omega), Option.bind_some]
        refine go _ _ (hS.or (q := b) (by omega)) (fun j => or_congr Iff.rfl ⟨fun y => ⟨y, by rw [y]; exact e, ?_⟩, fun y => y.1⟩)
        rw [y]
        unfold cfG
        exact decide_eq_true e2
theorem r_sg53 {T : Tn} {d : Int32} : ∀ (k a n : Nat) (M : Mem), a + k = ngG T d → k < n → GM M T d → (∀ x, x < a → Bt (mI M 116 x) (fun b => b < ngG T d ∧ ¬ x = b ∧ cfG T d x b = true)) → ∃ M', F_X7_setGuests_53 n 100 (nI a) M = some M' ∧ Fr (fun a => a = 116) M M' ∧ ∀ x, x < ngG T d → Bt (mI M' 116 x) (fun b => b < ngG T d ∧ ¬ x = b ∧ cfG T d x b = true) := by
  intro k
  induction k with
  | zero =>
    intro a n M ha hn h hb
    obtain ⟨n, rfl, -⟩ := fu_get hn
    have hg := ngG_7 h.1.2.1 d
    refine ⟨M, ?_, Fr.rf, fun x hx => hb x (by omega)⟩
    simp only [F_X7_setGuests_53]
    rw [h.1.1.i, Option.bind_some, h.2.1, if_pos (nI_le (by omega) (by omega))]
  | succ k ih =>
    intro a n M ha hn h hb
    obtain ⟨n, rfl, hn⟩ := fu_get hn
    have hg := ngG_7 h.1.2.1 d
    have hf1 : Fr (fun a => a = 116) M (uI M 116 a 0) := Fr.uI rfl
    obtain ⟨M1, g1, g2, g3, g4⟩ := r_sg70 (T := T) (d := d) (F_X7_setGuests_53 n) (a := a) (by omega) (ngG T d) 0 FU (uI M 116 a 0) _ (by omega) (FU_gt (by omega)) (h.fr hf1 (by omega)) (by rw [mI_uI, if_pos rfl, upd_eq]; exact Bt.z)
    obtain ⟨M2, b1, b2, b3⟩ := ih (a + 1) n M1 (by omega) (by omega) (h.fr (hf1.tr g2) (by omega)) (fun x hx => by
      by_cases e : x = a
      · subst e
        exact g4.ext (fun j _ => ⟨fun z => z.elim False.elim (fun y => y.2), fun z => Or.inr ⟨by omega, z⟩⟩)
      · rw [g3 x e, mI_uI, if_pos rfl, upd_ne e]
        exact hb x (by omega))
    refine ⟨M2, ?_, (hf1.tr g2).tr b2, b3⟩
    simp only [F_X7_setGuests_53]
    rw [h.1.1.i, Option.bind_some, h.2.1, if_neg (nI_ge (by omega) (by omega)), h.1.1.r 26 (a := 115) rfl, Option.bind_some, stI_nI _ (h.1.1.s 26 (a := 115) rfl) (by omega) (by omega), Option.bind_some]
    exact g1.trans b1
theorem r_sg {M : Mem} {T : Tn} (h : RA M T) (d : Int32) : ∃ M', F_X7_setGuests 100 d M = some M' ∧ SCr M M' ∧ GM M' T d ∧ WM M' T d := by
  have h7 := h.2.1
  have hg := ngG_7 h7 d
  have s1 : SCr M (uI M 100 24 0) := ⟨Fr.uI (Or.inl rfl), fun f hf => by rw [mI_uI, if_pos rfl, upd_ne hf]⟩
  obtain ⟨M1, g1, g2, g3, g4⟩ := r_sg7 (T := T) (d := d) (tN T) 0 FU (uI M 100 24 0) (by omega) (FU_gt (by omega)) (s1.ra h) (by rw [mI_uI, if_pos rfl, upd_eq]; rfl) (fun j hj => absurd hj (Nat.not_lt_zero j))
  have k1 : GM M1 T d := ⟨(s1.tr g2).ra h, g3, g4⟩
  obtain ⟨M2, b1, b2, b3⟩ := r_sg53 (T := T) (d := d) (ngG T d) 0 FU M1 (by omega) (FU_gt (by omega)) k1 (fun x hx => absurd hx (Nat.not_lt_zero x))
  have k2 := k1.fr b2 (by omega)
  refine ⟨M2, ?_, (s1.tr g2).tr (SCr.row b2 (by omega)), k2, ⟨k2.1.1, k2.2.1, b3⟩⟩
  unfold F_X7_setGuests
  rw [h.1.p, Option.bind_some]
  exact g1.trans b1
theorem r_sp30 {T : Tn} {d : Int32} (h7 : tN T ≤ 7) (x : Int32) : ∀ (j L n : Nat) (M : Mem), L + j = 7 → j < n → WM M T d → ∃ M', F_X7_spread_30 n 100 x (nI L) M = (if 0 ≤ x then F_X7_spread_57 FU 100 x (-4) 0 M' else some (nI (sLst (pwG T d) j L).1, M')) ∧ Fr (fun a => a = 117) M M' ∧ ∀ b, b < ngG T d → mI M' 117 b = nI ((sLst (pwG T d) j L).2 b) := by
  intro j
  induction j with
  | zero =>
    intro L n M hL hn h
    obtain ⟨n, rfl, -⟩ := fu_get hn
    have : L = 7 := by omega
    subst this
    obtain ⟨M1, g1, g2, g3⟩ := r_way h7 (L := 7) (by omega) h
    refine ⟨M1, ?_, g2, ?_⟩
    · simp only [F_X7_spread_30]
      rw [h.1.ck, Option.bind_some, g1, Option.bind_some]
      cases e : pwG T d 7 with
      | none => exact absurd e (pwG_7 h7 d)
      | some r =>
        rw [if_neg (show ¬ sVl (some r) = 0 from d10)]
        rfl
    · show ∀ b, b < ngG T d → mI M1 117 b = nI ((pwG T d 7).getD (fun _ => 0) b)
      cases e : pwG T d 7 with
      | none => exact absurd e (pwG_7 h7 d)
      | some r => exact g3 r e
  | succ j ih =>
    intro L n M hL hn h
    obtain ⟨n, rfl, hn⟩ := fu_get hn
    obtain ⟨M1, g1, g2, g3⟩ := r_way h7 (L := L) (by omega) h
    simp only [F_X7_spread_30]
    rw [h.1.ck, Option.bind_some, g1, Option.bind_some]
    unfold sLst
    cases e : pwG T d L with
    | none =>
      rw [if_pos (show sVl none = 0 from rfl), nI_1]
      obtain ⟨M2, b1, b2, b3⟩ := ih (L + 1) n M1 (by omega) (by omega) (h.fr g2)
      exact ⟨M2, b1, g2.tr b2, b3⟩
    | some r =>
      rw [if_neg (show ¬ sVl (some r) = 0 from d10)]
      exact ⟨M1, rfl, g2, g3 r e⟩
theorem r_sp57 {T : Tn} {d : Int32} {M : Mem} (h : GM M T d) {r : Nat → Nat} (hr : ∀ b, b < ngG T d → mI M 117 b = nI (r b)) {p : Nat} (hp : p < tN T) : ∀ (k a n : Nat), a + k = ngG T d → k < n → F_X7_spread_57 n 100 (nI p) (if tD T p = d ∧ ixG T d p < a then nI (r (ixG T d p)) else -4) (nI a) M = some (tvG T d r p, M) := by
  have h7 := h.1.2.1
  have hg := ngG_7 h7 d
  intro k
  induction k with
  | zero =>
    intro a n ha hn
    obtain ⟨n, rfl, -⟩ := fu_get hn
    have : a = ngG T d := by omega
    subst this
    simp only [F_X7_spread_57]
    rw [h.1.1.i, Option.bind_some, h.2.1, if_pos (nI_le (Nat.le_refl _) (by omega))]
    unfold tvG
    by_cases e : tD T p = d
    · rw [if_pos ⟨e, ixG_lt hp e⟩, if_pos e]
    · rw [if_neg (fun z => e z.1), if_neg e]
  | succ k ih =>
    intro a n ha hn
    obtain ⟨n, rfl, hn⟩ := fu_get hn
    have ga := gsG_ex (T := T) (d := d) (a := a) (by omega)
    have ih' := ih (a + 1) n (by omega) (by omega)
    simp only [F_X7_spread_57]
    unfold F_X7_spread_89
    rw [h.1.1.i, Option.bind_some, h.2.1, if_neg (nI_ge (by omega) (by omega)), h.1.1.r 25 (a := 114) rfl, Option.bind_some, ldI_nI (h.1.1.s 25 (a := 114) rfl) (by omega) (by omega), Option.bind_some, h.2.2 a (by omega), nI_1]
    by_cases e : gsG T d a = p
    · rw [if_pos (by rw [e]), h.1.1.r 27 (a := 116) rfl, Option.bind_some, ldI_nI (h.1.1.s 27 (a := 116) rfl) (by omega) (by omega), Option.bind_some, hr a (by omega)]
      rw [e] at ga
      rw [if_pos ⟨ga.2.1, by omega⟩, ga.2.2] at ih'
      exact ih'
    · rw [if_neg (fun z => e (nI_inj (by omega) (by omega) z))]
      have hne : tD T p = d → ixG T d p ≠ a := fun z y => e (by rw [← y]; exact gsG_eq hp z)
      by_cases y : tD T p = d
      · by_cases y2 : ixG T d p < a
        · rw [if_pos ⟨y, y2⟩]
          rw [if_pos ⟨y, by omega⟩] at ih'
          exact ih'
        · have := hne y
          rw [if_neg (fun z => y2 z.2)]
          rw [if_neg (fun z => by have := z.2; omega)] at ih'
          exact ih'
      · rw [if_neg (fun z => y z.1)]
        rw [if_neg (fun z => y z.1)] at ih'
        exact ih'
theorem CI.ps {M : Mem} {G : Sg} (h : CI M G) : PS M := ⟨h.1.s 16 rfl, h.1.r 20 rfl, h.1.r 21 rfl, h.1.s 17 rfl, h.1.s 18 rfl⟩
theorem oXS {a : Nat} (h : oX a) : oS a := by unfold oX oT at h; unfold oS; omega
theorem c_spread {G : Sg} (hG : GOk G) {x y : Int32} (hx : InR 0 5 x) (o : Option Nat) (ho : ∀ p, o = some p → p < tN (gT G) ∧ y = nI p) (hn : o = none → y = -1) {M : Mem} (h : CI M G) : C_ (spV (gT G) x o) G (F_X6_spread 5 x y M) M := by
  have h1 := hG.2.2.1.1
  have h7 := hG.2.2.1.2.1
  have hd : ¬ x = -4 := by
    obtain ⟨k, -, hk, rfl⟩ := hx
    exact nI_n4 (by omega)
  obtain ⟨M1, e1, e2, e3, e4⟩ := c_trial h
  obtain ⟨M2, b1, b2, b3⟩ := c_choose (d := x) h7 hd e2.ps e4
  have k2 := e2.mk0 b2 (fun a ha => oXS ha)
  refine ⟨M2, ?_, k2, e3.tr (b2.mono (fun a ha => oSC (oXS ha)))⟩
  have hout : F_X6_outside y (-1) (nI (tN (gT G) - 1)) = some 0 := by
    cases o with
    | none => rw [hn rfl]; exact out_m1 h1 h7
    | some p => exact out_p h1 h7 ⟨p, ho p rfl⟩
  unfold F_X6_spread
  rw [noD_t hx, Option.bind_some, if_pos rfl, h.r1, Option.bind_some, h.ta.ck, Option.bind_some, town_size h.ta, Option.bind_some, nI_m1 h1, hout, Option.bind_some, if_pos rfl, h.1.f (f := 2) rfl, Option.bind_some, Option.bind_some, chkT_of (h.1.t 1 rfl).1, Option.bind_some, e1, Option.bind_some, e2.1.f (f := 7) rfl, Option.bind_some, e2.1.f (f := 2) rfl, Option.bind_some, chkT_of e2.ps.1, Option.bind_some, b1, Option.bind_some]
  cases o with
  | none => rw [if_pos (hn rfl)]
  | some p =>
    obtain ⟨p1, p2⟩ := ho p rfl
    subst p2
    rw [if_neg (fun z => by
      have := nI_toInt (n := p) (by omega)
      rw [z] at this
      have e : (-1 : Int32).toInt = -1 := by decide
      omega), k2.1.f (f := 7) rfl, Option.bind_some, chkT_of k2.ps.1, Option.bind_some]
    unfold F_X4_tintOf
    rw [fR_of k2.ps.1, Option.bind_some, k2.ps.2.2.1, ldI_nI k2.ps.2.2.2.2 (by omega) (by omega), Option.bind_some, b3 p p1]
    rfl
theorem r_spread {G : Sg} (hG : GOk G) {x y : Int32} (hx : InR 0 5 x) (o : Option Nat) (ho : ∀ p, o = some p → p < tN (gT G) ∧ y = nI p) (hn : o = none → y = -1) {M : Mem} (h : RI M G) : R_ (spV (gT G) x o) G (F_X7_spread 100 x y M) M := by
  have h1 := hG.2.2.1.1
  have h7 := hG.2.2.1.2.1
  obtain ⟨M1, g1, g2, g3, g4⟩ := r_sg h.1 x
  obtain ⟨M2, b1, b2, b3⟩ := r_sp30 (T := gT G) (d := x) h7 y 7 0 FU M1 (by omega) (FU_gt (by omega)) g4
  have s2 : SCr M M2 := g2.tr (SCr.row b2 (by omega))
  refine ⟨M2, ?_, s2.ri h, s2.1.mono (fun a ha => by unfold oM; omega)⟩
  have hin : F_X7_in y (-1) (nI (tN (gT G) - 1)) = some 1 := by
    cases o with
    | none => rw [hn rfl]; exact in_m1 h1 h7
    | some p => exact in_p h1 h7 ⟨p, ho p rfl⟩
  unfold F_X7_spread
  rw [isD_t hx, Option.bind_some, if_neg d10, h.1.n, Option.bind_some, nI_m1 h1, hin, Option.bind_some, if_neg d10, h.1.ck, Option.bind_some, g1, Option.bind_some]
  refine b1.trans ?_
  cases o with
  | none =>
    rw [hn rfl, if_neg (by decide)]
    rfl
  | some p =>
    obtain ⟨p1, p2⟩ := ho p rfl
    subst p2
    rw [if_pos (nI_pos' (by omega))]
    have := r_sp57 (g3.fr b2 (by omega)) b3 p1 (ngG (gT G) x) 0 FU (by omega) (FU_gt (by have := ngG_7 h7 x; omega))
    rw [if_neg (fun z => absurd z.2 (Nat.not_lt_zero _))] at this
    exact this
theorem m_spread {G : Sg} (hG : GOk G) (x y : Int32) : QM (F_X6_spread 5 x y) (F_X7_spread 100 x y) G := by
  have h1 := hG.2.2.1.1
  have h7 := hG.2.2.1.2.1
  by_cases hx : InR 0 5 x
  · by_cases hy : IsP (gT G) y
    · obtain ⟨p, p1, p2⟩ := hy
      exact ⟨spV (gT G) x (some p), G, hG, fun M h => c_spread hG hx (some p) (fun q hq => by cases hq; exact ⟨p1, p2⟩) (fun z => by cases z) h, fun M h => r_spread hG hx (some p) (fun q hq => by cases hq; exact ⟨p1, p2⟩) (fun z => by cases z) h⟩
    · by_cases hm : y = -1
      · exact ⟨spV (gT G) x none, G, hG, fun M h => c_spread hG hx none (fun q hq => by cases hq) (fun _ => hm) h, fun M h => r_spread hG hx none (fun q hq => by cases hq) (fun _ => hm) h⟩
      · refine ⟨-1, G, hG, fun M h => ?_, fun M h => ?_⟩
        · unfold F_X6_spread
          rw [noD_t hx, Option.bind_some, if_pos rfl, h.r1, Option.bind_some, h.ta.ck, Option.bind_some, town_size h.ta, Option.bind_some, nI_m1 h1, out_n h1 h7 hy hm, Option.bind_some, if_neg d10]
          exact C_.same h
        · unfold F_X7_spread
          rw [isD_t hx, Option.bind_some, if_neg d10, h.1.n, Option.bind_some, nI_m1 h1, in_n h1 h7 hy hm, Option.bind_some, if_pos rfl]
          exact R_.same h
  · refine ⟨-1, G, hG, fun M h => ?_, fun M h => ?_⟩
    · unfold F_X6_spread
      rw [noD_f hx, Option.bind_some, if_neg d10]
      exact C_.same h
    · unfold F_X7_spread
      rw [isD_f hx, Option.bind_some, if_pos rfl]
      exact R_.same h
