/-! one part of the state becomes another -/
def gSX (G : Sg) (v : Nat × (Nat → Int32)) : Sg := (v, G.2)
def gST (G : Sg) (v : Tn) : Sg := (G.1, v, G.2.2)
def gSU (G : Sg) (v : Nat × (Nat → Tn)) : Sg := (G.1, G.2.1, v, G.2.2.2)
def gSK (G : Sg) (v : Nat × (Nat → Tn)) : Sg := (G.1, G.2.1, G.2.2.1, v, G.2.2.2.2)
def gSS (G : Sg) (v : Nat × (Nat → Int32) × (Nat → Int32) × (Nat → Int32)) : Sg := (G.1, G.2.1, G.2.2.1, G.2.2.2.1, v, G.2.2.2.2.2)
def gSD (G : Sg) (v : Nat × (Nat → Int32) × (Nat → Int32)) : Sg := (G.1, G.2.1, G.2.2.1, G.2.2.2.1, G.2.2.2.2.1, v)
section Parts
variable {M M' : Mem} {G : Sg} {S : Nat → Prop}
theorem CI.mkX (h : CI M G) (hf : Fr S M M') (hS : ∀ a, S a → a = 6 ∨ a = 7) {v : Nat × (Nat → Int32)} (hx : CTx M' v.1 v.2) : CI M' (gSX G v) := by
  obtain ⟨h1, h2, h3, h4, h5, h6, ⟨w, h7⟩, h8⟩ := h
  have nS : ∀ a, ¬ (a = 6 ∨ a = 7) → ¬ S a := fun a ha hs => ha (hS a hs)
  refine ⟨h1.fr hf ⟨nS 3 (by omega), nS 4 (by omega)⟩, hx, h3.fr hf (fun a ha => nS a (by unfold oT at ha; omega)), h4.fr hf (nS 21 (by omega)) (nS 22 (by omega)) (fun a h1 h2 => nS a (by omega)), h5.fr hf (nS 71 (by omega)) (nS 72 (by omega)) (fun a h1 h2 => nS a (by omega)), h6.fr hf (fun a h1 h2 => nS a (by omega)), ⟨w, h7.fr hf (fun a h1 h2 => nS a (by omega))⟩, ?_⟩
  rw [(hf.2.2.1 96 (nS 96 (by omega))).2]
  exact h8
theorem CI.mkT (h : CI M G) (hf : Fr S M M') (hS : ∀ a, S a → oT 9 a) {T : Tn} (ht : TA M' 9 T) : CI M' (gST G T) := by
  obtain ⟨h1, h2, h3, h4, h5, h6, ⟨w, h7⟩, h8⟩ := h
  have nS : ∀ a, ¬ (9 ≤ a ∧ a < 15) → ¬ S a := fun a ha hs => ha (hS a hs)
  refine ⟨h1.fr hf ⟨nS 3 (by omega), nS 4 (by omega)⟩, h2.fr hf (nS 6 (by omega)) (nS 7 (by omega)), ht, h4.fr hf (nS 21 (by omega)) (nS 22 (by omega)) (fun a h1 h2 => nS a (by omega)), h5.fr hf (nS 71 (by omega)) (nS 72 (by omega)) (fun a h1 h2 => nS a (by omega)), h6.fr hf (fun a h1 h2 => nS a (by omega)), ⟨w, h7.fr hf (fun a h1 h2 => nS a (by omega))⟩, ?_⟩
  rw [(hf.2.2.1 96 (nS 96 (by omega))).2]
  exact h8
theorem CI.mkU (h : CI M G) (hf : Fr S M M') (hS : ∀ a, S a → 21 ≤ a ∧ a < 71) {v : Nat × (Nat → Tn)} (hu : CPl M' 21 23 8 v.1 v.2) : CI M' (gSU G v) := by
  obtain ⟨h1, h2, h3, h4, h5, h6, ⟨w, h7⟩, h8⟩ := h
  have nS : ∀ a, ¬ (21 ≤ a ∧ a < 71) → ¬ S a := fun a ha hs => ha (hS a hs)
  refine ⟨h1.fr hf ⟨nS 3 (by omega), nS 4 (by omega)⟩, h2.fr hf (nS 6 (by omega)) (nS 7 (by omega)), h3.fr hf (fun a ha => nS a (by unfold oT at ha; omega)), hu, h5.fr hf (nS 71 (by omega)) (nS 72 (by omega)) (fun a h1 h2 => nS a (by omega)), h6.fr hf (fun a h1 h2 => nS a (by omega)), ⟨w, h7.fr hf (fun a h1 h2 => nS a (by omega))⟩, ?_⟩
  rw [(hf.2.2.1 96 (nS 96 (by omega))).2]
  exact h8
theorem CI.mkK (h : CI M G) (hf : Fr S M M') (hS : ∀ a, S a → 71 ≤ a ∧ a < 85) {v : Nat × (Nat → Tn)} (hu : CPl M' 71 73 2 v.1 v.2) : CI M' (gSK G v) := by
  obtain ⟨h1, h2, h3, h4, h5, h6, ⟨w, h7⟩, h8⟩ := h
  have nS : ∀ a, ¬ (71 ≤ a ∧ a < 85) → ¬ S a := fun a ha hs => ha (hS a hs)
  refine ⟨h1.fr hf ⟨nS 3 (by omega), nS 4 (by omega)⟩, h2.fr hf (nS 6 (by omega)) (nS 7 (by omega)), h3.fr hf (fun a ha => nS a (by unfold oT at ha; omega)), h4.fr hf (nS 21 (by omega)) (nS 22 (by omega)) (fun a h1 h2 => nS a (by omega)), hu, h6.fr hf (fun a h1 h2 => nS a (by omega)), ⟨w, h7.fr hf (fun a h1 h2 => nS a (by omega))⟩, ?_⟩
  rw [(hf.2.2.1 96 (nS 96 (by omega))).2]
  exact h8
theorem CI.mkS (h : CI M G) (hf : Fr S M M') (hS : ∀ a, S a → 85 ≤ a ∧ a < 89) {v : Nat × (Nat → Int32) × (Nat → Int32) × (Nat → Int32)} (hu : CNt M' 85 v.1 v.2.1 v.2.2.1 v.2.2.2) : CI M' (gSS G v) := by
  obtain ⟨h1, h2, h3, h4, h5, h6, ⟨w, h7⟩, h8⟩ := h
  have nS : ∀ a, ¬ (85 ≤ a ∧ a < 89) → ¬ S a := fun a ha hs => ha (hS a hs)
  refine ⟨h1.fr hf ⟨nS 3 (by omega), nS 4 (by omega)⟩, h2.fr hf (nS 6 (by omega)) (nS 7 (by omega)), h3.fr hf (fun a ha => nS a (by unfold oT at ha; omega)), h4.fr hf (nS 21 (by omega)) (nS 22 (by omega)) (fun a h1 h2 => nS a (by omega)), h5.fr hf (nS 71 (by omega)) (nS 72 (by omega)) (fun a h1 h2 => nS a (by omega)), hu, ⟨w, h7.fr hf (fun a h1 h2 => nS a (by omega))⟩, ?_⟩
  rw [(hf.2.2.1 96 (nS 96 (by omega))).2]
  exact h8
theorem CI.mkD (h : CI M G) (hf : Fr S M M') (hS : ∀ a, S a → 89 ≤ a ∧ a < 93) {v : Nat × (Nat → Int32) × (Nat → Int32)} (hu : ∃ w, CNt M' 89 v.1 w v.2.1 v.2.2) : CI M' (gSD G v) := by
  obtain ⟨h1, h2, h3, h4, h5, h6, h7, h8⟩ := h
  have nS : ∀ a, ¬ (89 ≤ a ∧ a < 93) → ¬ S a := fun a ha hs => ha (hS a hs)
  refine ⟨h1.fr hf ⟨nS 3 (by omega), nS 4 (by omega)⟩, h2.fr hf (nS 6 (by omega)) (nS 7 (by omega)), h3.fr hf (fun a ha => nS a (by unfold oT at ha; omega)), h4.fr hf (nS 21 (by omega)) (nS 22 (by omega)) (fun a h1 h2 => nS a (by omega)), h5.fr hf (nS 71 (by omega)) (nS 72 (by omega)) (fun a h1 h2 => nS a (by omega)), h6.fr hf (fun a h1 h2 => nS a (by omega)), hu, ?_⟩
  rw [(hf.2.2.1 96 (nS 96 (by omega))).2]
  exact h8
/-- the cells that the class only tries things on -/
def oS : Nat → Prop := fun a => a = 8 ∨ (15 ≤ a ∧ a < 21) ∨ (93 ≤ a ∧ a < 96) ∨ a = 97 ∨ a = 98 ∨ a = 99
theorem CI.mk0 (h : CI M G) (hf : Fr S M M') (hS : ∀ a, S a → oS a) : CI M' G := by
  obtain ⟨h1, h2, h3, h4, h5, h6, ⟨w, h7⟩, h8⟩ := h
  have nS : ∀ a, ¬ (a = 8 ∨ (15 ≤ a ∧ a < 21) ∨ (93 ≤ a ∧ a < 96) ∨ a = 97 ∨ a = 98 ∨ a = 99) → ¬ S a := fun a ha hs => ha (hS a hs)
  refine ⟨h1.fr hf ⟨nS 3 (by omega), nS 4 (by omega)⟩, h2.fr hf (nS 6 (by omega)) (nS 7 (by omega)), h3.fr hf (fun a ha => nS a (by unfold oT at ha; omega)), h4.fr hf (nS 21 (by omega)) (nS 22 (by omega)) (fun a h1 h2 => nS a (by omega)), h5.fr hf (nS 71 (by omega)) (nS 72 (by omega)) (fun a h1 h2 => nS a (by omega)), h6.fr hf (fun a h1 h2 => nS a (by omega)), ⟨w, h7.fr hf (fun a h1 h2 => nS a (by omega))⟩, ?_⟩
  rw [(hf.2.2.1 96 (nS 96 (by omega))).2]
  exact h8
end Parts
/-- a field of the reference that no other part uses -/
def rOther (f : Nat) : Prop := f ≠ 0 ∧ f ≠ 2 ∧ f ≠ 3 ∧ f ≠ 8 ∧ f ≠ 12 ∧ f ≠ 16 ∧ f ≠ 22 ∧ f ≠ 29
theorem upd_ne {f : Nat → Int32} {k j : Nat} {v : Int32} (h : j ≠ k) : upd f k v j = f j := by unfold upd; rw [if_neg h]
theorem upd_eq {f : Nat → Int32} {k : Nat} {v : Int32} : upd f k v k = v := by unfold upd; rw [if_pos rfl]
/-- the reference's object has other numbers, its rows are other ones -/
theorem RI.re {M M' : Mem} {G G' : Sg} (h : RI M G) (hRA : RA M' (gT G')) (hx : RTx M' (gX G').1 (gX G').2) (hu : RPl M' 113 22 (gU G').1 (gU G').2) (hk : RPl M' 118 29 (gK G').1 (gK G').2) (hs : RSn M' (gS G').1 (gS G').2.1 (gS G').2.2.1 (gS G').2.2.2) (hd : RTd M' (gD G').1 (gD G').2.1 (gD G').2.2) : RI M' G' := ⟨hRA, hx, hu, hk, hs, hd⟩
theorem jchar_ok {c : Nat} (h : c ≤ 126) : jchar (nI c) = nI c ∧ vp_nar .char (nI c) = nI c := by
  constructor
  · unfold jchar
    rw [pk_char, pk_tn (by omega), Nat.mod_eq_of_lt (by omega)]
  · unfold vp_nar
    rw [(pk_charN (q := c) (by omega)).1]
theorem stC_nI {M : Mem} {a i n : Nat} (v : Int32) (h : mS M a = (11, n)) (hi : i < n) (hn : n < 2 ^ 31) : stC M a (nI i) v = some (uI M a i (vp_nar .char v)) := by
  unfold stC
  rw [h]
  simp [inR_nI hi hn, nI_clamp (show i < 2 ^ 31 by omega)]
theorem nI_inj {a b : Nat} (ha : a < 2 ^ 31) (hb : b < 2 ^ 31) (h : nI a = nI b) : a = b := (nI_eq ha hb).mp h
theorem m_write {G : Sg} (hG : GOk G) (x : Int32) : QM (F_X6_write 5 x) (F_X7_write 100 x) G := by
  have h200 := hG.1
  by_cases hx : InR 32 126 x
  · obtain ⟨c, hc1, hc2, rfl⟩ := id hx
    by_cases hn : (gX G).1 < 200
    · refine ⟨nI ((gX G).1 + 1), gSX G ((gX G).1 + 1, upd (gX G).2 (gX G).1 (nI c)), ⟨?_, ?_, hG.2.2⟩, fun M h => ?_, fun M h => ?_⟩
      · show (gX G).1 + 1 ≤ 200; omega
      · intro j hj
        show ∃ c', _ ∧ _ ∧ upd (gX G).2 (gX G).1 (nI c) j = nI c'
        by_cases e : j = (gX G).1
        · subst e; exact ⟨c, hc1, hc2, upd_eq⟩
        · rw [upd_ne e]
          exact hG.2.1 j (by have : j < (gX G).1 + 1 := hj; omega)
      · have hs6 := h.1.s 1 rfl
        have hs7 := h.1.s 2 rfl
        have e1 : fI M 3 6 2 = some (nI (gX G).1) := by rw [fI_of hs6, h.2.1.1]
        have e2 : fR M 3 6 0 = some 7 := by rw [fR_of hs6, h.1.r 10 rfl]
        have e3 := stC_nI (nI c) hs7 hn (by decide)
        rw [(jchar_ok hc2).2] at e3
        have e4 : fI (uI M 7 (gX G).1 (nI c)) 3 6 2 = some (nI (gX G).1) := by rw [fI_of (M := uI M _ _ _) hs6, mI_uI, if_neg (by decide), h.2.1.1]
        have e5 : pI (uI M 7 (gX G).1 (nI c)) 3 6 2 (nI ((gX G).1 + 1)) = some (uI (uI M 7 (gX G).1 (nI c)) 6 2 (nI ((gX G).1 + 1))) := pI_of (M := uI M _ _ _) hs6
        have ea : F_X3_append 6 (nI c) M = some (1, uI (uI M 7 (gX G).1 (nI c)) 6 2 (nI ((gX G).1 + 1))) := by
          unfold F_X3_append
          rw [e1, Option.bind_some, if_pos (show nI (gX G).1 < 200 from nI_lt (b := 200) hn (by decide)), e2, Option.bind_some, Option.bind_some, e3, Option.bind_some, e4, Option.bind_some, nI_1, e5]
          rfl
        have hf : Fr (fun a => a = 6 ∨ a = 7) M (uI (uI M 7 (gX G).1 (nI c)) 6 2 (nI ((gX G).1 + 1))) := (Fr.uI (Or.inr rfl)).tr (Fr.uI (Or.inl rfl))
        have hci := h.mkX (v := ((gX G).1 + 1, upd (gX G).2 (gX G).1 (nI c))) hf (fun a ha => ha) ⟨by rw [mI_uI, if_pos rfl, upd_eq], fun j hj => by
          rw [mI_uI, if_neg (by decide), mI_uI, if_pos rfl]
          show upd _ _ _ j = upd _ _ _ j
          by_cases e : j = (gX G).1
          · subst e; rw [upd_eq, upd_eq]
          · rw [upd_ne e, upd_ne e]
            exact h.2.1.2 j (by have : j < (gX G).1 + 1 := hj; omega)⟩
        refine ⟨_, ?_, hci, hf.mono (fun a ha => by unfold oC; omega)⟩
        unfold F_X6_write
        have e6 : F_X3_length 6 (uI (uI M 7 (gX G).1 (nI c)) 6 2 (nI ((gX G).1 + 1))) = some (nI ((gX G).1 + 1)) := by
          unfold F_X3_length
          rw [fI_of (M := uI (uI M _ _ _) _ _ _) hs6, mI_uI, if_pos rfl, upd_eq]
          rfl
        rw [out_t 32 126 32 126 hx, Option.bind_some, if_pos rfl, h.1.f (f := 0) rfl, Option.bind_some, chkT_of hs6, Option.bind_some, (jchar_ok hc2).1, ea, Option.bind_some, if_neg d10, hci.1.f (f := 0) rfl, Option.bind_some, chkT_of (M := uI (uI M _ _ _) _ _ _) hs6, Option.bind_some, e6]
        rfl
      · have e1 : fI M 7 100 16 = some (nI (gX G).1) := by rw [h.1.1.i, h.2.1.1]
        have e2 : fR M 7 100 15 = some 111 := h.1.1.r 15 rfl
        have e3 : stI M 111 (nI (gX G).1) (nI c) = some (uI M 111 (gX G).1 (nI c)) := stI_nI _ (h.1.1.s 15 rfl) hn (by decide)
        have hr : RS (uI M 111 (gX G).1 (nI c)) := h.1.1
        have e4 : fI (uI M 111 (gX G).1 (nI c)) 7 100 16 = some (nI (gX G).1) := by rw [hr.i, mI_uI, if_neg (by decide), h.2.1.1]
        have hr2 : RS (uI (uI M 111 (gX G).1 (nI c)) 100 16 (nI ((gX G).1 + 1))) := h.1.1
        have e5 : fI (uI (uI M 111 (gX G).1 (nI c)) 100 16 (nI ((gX G).1 + 1))) 7 100 16 = some (nI ((gX G).1 + 1)) := by rw [hr2.i, mI_uI, if_pos rfl, upd_eq]
        have hf : Fr oM M (uI (uI M 111 (gX G).1 (nI c)) 100 16 (nI ((gX G).1 + 1))) := (Fr.uI (S := oM) ⟨by omega, by omega⟩).tr (Fr.uI ⟨by omega, by omega⟩)
        refine ⟨_, ?_, ?_, hf⟩
        · unfold F_X7_write
          rw [in_t 32 126 32 126 hx, Option.bind_some, if_neg d10, e1, Option.bind_some, if_neg (show ¬ nI (gX G).1 = 200 from fun e => by have := nI_inj (b := 200) (by omega) (by decide) e; omega), e2, Option.bind_some, Option.bind_some, e3, Option.bind_some, e4, Option.bind_some, nI_1, hr.p, Option.bind_some, e5]
          rfl
        · obtain ⟨h1, h2, h3, h4, h5, h6⟩ := h
          have ho : ∀ f, f ≠ 16 → mI (uI (uI M 111 (gX G).1 (nI c)) 100 16 (nI ((gX G).1 + 1))) 100 f = mI M 100 f := fun f hf => by rw [mI_uI, if_pos rfl, upd_ne hf, mI_uI, if_neg (by decide)]
          have hrw : ∀ a, a ≠ 100 → a ≠ 111 → mI (uI (uI M 111 (gX G).1 (nI c)) 100 16 (nI ((gX G).1 + 1))) a = mI M a := fun a h1 h2 => by rw [mI_uI, if_neg h1, mI_uI, if_neg h2]
          refine ⟨⟨hr2, h1.2.1, by rw [ho 0 (by decide)]; exact h1.2.2.1, by rw [ho 2 (by decide)]; exact h1.2.2.2.1, by rw [ho 3 (by decide)]; exact h1.2.2.2.2.1, fun i hi j hj => by rw [hrw _ (by omega) (by omega)]; exact h1.2.2.2.2.2 i hi j hj⟩, ⟨by rw [mI_uI, if_pos rfl, upd_eq]; rfl, fun j hj => ?_⟩, ⟨by rw [ho 22 (by decide)]; exact h3.1, by unfold NA; rw [hrw 113 (by decide) (by decide)]; exact h3.2⟩, ⟨by rw [ho 29 (by decide)]; exact h4.1, by unfold NA; rw [hrw 118 (by decide) (by decide)]; exact h4.2⟩, ⟨by rw [ho 8 (by decide)]; exact h5.1, by rw [hrw 106 (by decide) (by decide), hrw 107 (by decide) (by decide), hrw 108 (by decide) (by decide)]; exact h5.2⟩, ⟨by rw [ho 12 (by decide)]; exact h6.1, by rw [hrw 109 (by decide) (by decide), hrw 110 (by decide) (by decide)]; exact h6.2⟩⟩
          rw [mI_uI, if_neg (by decide), mI_uI, if_pos rfl]
          show upd _ _ _ j = upd _ _ _ j
          by_cases e : j = (gX G).1
          · subst e; rw [upd_eq, upd_eq]
          · rw [upd_ne e, upd_ne e]
            exact h2.2 j (by have : j < (gX G).1 + 1 := hj; omega)
    · have hn2 : (gX G).1 = 200 := by omega
      refine ⟨-3, G, hG, fun M h => ⟨M, ?_, h, Fr.rf⟩, fun M h => ⟨M, ?_, h, Fr.rf⟩⟩
      · have hs6 := h.1.s 1 rfl
        have e1 : fI M 3 6 2 = some 200 := by rw [fI_of hs6, h.2.1.1, hn2]; rfl
        unfold F_X6_write F_X3_append
        rw [out_t 32 126 32 126 hx, Option.bind_some, if_pos rfl, h.1.f (f := 0) rfl, Option.bind_some, chkT_of hs6, Option.bind_some, e1, Option.bind_some]
        rfl
      · have e1 : fI M 7 100 16 = some 200 := by rw [h.1.1.i, h.2.1.1, hn2]; rfl
        unfold F_X7_write
        rw [in_t 32 126 32 126 hx, Option.bind_some, if_neg d10, e1]
        rfl
  · refine ⟨-1, G, hG, fun M h => ⟨M, ?_, h, Fr.rf⟩, fun M h => ⟨M, ?_, h, Fr.rf⟩⟩
    · unfold F_X6_write
      rw [out_f 32 126 32 126 hx]
      rfl
    · unfold F_X7_write
      rw [in_f 32 126 32 126 hx]
      rfl
