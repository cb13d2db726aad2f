/-! THE REFERENCE'S NOTES of towns -/
def layF (M : Mem) (row at_ i : Nat) (x : Nat) : Int32 := if x = at_ then mI M 100 2 else if x = at_ + 1 then mI M 100 3 else if at_ + 2 ≤ x ∧ x < at_ + 2 + i then mI M 102 (x - (at_ + 2)) else if at_ + 9 ≤ x ∧ x < at_ + 9 + i then mI M 103 (x - (at_ + 9)) else if at_ + 16 ≤ x ∧ x < at_ + 16 + i then mI M 104 (x - (at_ + 16)) else if at_ + 23 ≤ x ∧ x < at_ + 23 + i then mI M 105 (x - (at_ + 23)) else mI M row x
theorem layF_s (M : Mem) (row at_ : Nat) {i : Nat} (hi : i < 7) : upd (upd (upd (upd (layF M row at_ i) (at_ + 2 + i) (mI M 102 i)) (at_ + 9 + i) (mI M 103 i)) (at_ + 16 + i) (mI M 104 i)) (at_ + 23 + i) (mI M 105 i) = layF M row at_ (i + 1) := by
  funext x
  unfold upd layF
  repeat' split
  all_goals first | (exfalso; omega) | rfl | (congr 1; omega)
theorem RS.fm {S : Nat → Prop} {M M' : Mem} (h : RS M) (hf : Fr S M M') : RS M' := h.fr hf (hf.r (by unfold Rf; omega))
theorem ref_lays {M : Mem} {T : Tn} (h : RA M T) {row at_ sz : Nat} (hs : mS M row = (10, sz)) (h1 : at_ + 30 ≤ sz) (h2 : sz ≤ 1000) (hr : 106 ≤ row) :
    ∃ M', F_X7_lays 100 row (nI at_) M = some M' ∧ Fr (fun a => a = row) M M' ∧ mI M' row = layF M row at_ 7 := by
  have key : ∀ (k i n : Nat) (M1 : Mem), i + k = 7 → k < n → Fr (fun a => a = row) M M1 → mI M1 row = layF M row at_ i → ∃ M', F_X7_lays_18 n 100 row (nI at_) (nI i) M1 = some M' ∧ Fr (fun a => a = row) M M' ∧ mI M' row = layF M row at_ 7 := by
    intro k
    induction k with
    | zero =>
      intro i n M1 hi hn hf he
      obtain ⟨n, rfl, -⟩ := fu_get hn
      have hi7 : i = 7 := by omega
      subst hi7
      refine ⟨M1, ?_, hf, he⟩
      simp only [F_X7_lays_18]
      rfl
    | succ k ih =>
      intro i n M1 hi hn hf he
      obtain ⟨n, rfl, hn⟩ := fu_get hn
      have r1 : RS M1 := h.1.fm hf
      have s1 : mS M1 row = (10, sz) := by rw [hf.s]; exact hs
      have q : ∀ a, 102 ≤ a → a ≤ 105 → mI M1 a = mI M a := fun a _ _ => hf.i (by omega)
      generalize hM2 : uI M1 row (at_ + 2 + i) (mI M 102 i) = M2
      have r2 : RS M2 := by rw [← hM2]; exact r1
      have s2 : mS M2 row = (10, sz) := by rw [← hM2]; exact s1
      have q2 : ∀ a, 102 ≤ a → a ≤ 105 → mI M2 a = mI M a := fun a h1 h2 => by rw [← hM2, uI_a _ _ _ _ _ (by omega)]; exact q a h1 h2
      have w2 : mI M2 row = upd (layF M row at_ i) (at_ + 2 + i) (mI M 102 i) := by rw [← hM2, mI_uI, if_pos rfl, he]
      have f2 : Fr (fun a => a = row) M M2 := by rw [← hM2]; exact hf.tr (Fr.uI rfl)
      generalize hM3 : uI M2 row (at_ + 9 + i) (mI M 103 i) = M3
      have r3 : RS M3 := by rw [← hM3]; exact r2
      have s3 : mS M3 row = (10, sz) := by rw [← hM3]; exact s2
      have q3 : ∀ a, 102 ≤ a → a ≤ 105 → mI M3 a = mI M a := fun a h1 h2 => by rw [← hM3, uI_a _ _ _ _ _ (by omega)]; exact q2 a h1 h2
      have w3 : mI M3 row = upd (upd (layF M row at_ i) (at_ + 2 + i) (mI M 102 i)) (at_ + 9 + i) (mI M 103 i) := by rw [← hM3, mI_uI, if_pos rfl, w2]
      have f3 : Fr (fun a => a = row) M M3 := by rw [← hM3]; exact f2.tr (Fr.uI rfl)
      generalize hM4 : uI M3 row (at_ + 16 + i) (mI M 104 i) = M4
      have r4 : RS M4 := by rw [← hM4]; exact r3
      have s4 : mS M4 row = (10, sz) := by rw [← hM4]; exact s3
      have q4 : ∀ a, 102 ≤ a → a ≤ 105 → mI M4 a = mI M a := fun a h1 h2 => by rw [← hM4, uI_a _ _ _ _ _ (by omega)]; exact q3 a h1 h2
      have w4 : mI M4 row = upd (upd (upd (layF M row at_ i) (at_ + 2 + i) (mI M 102 i)) (at_ + 9 + i) (mI M 103 i)) (at_ + 16 + i) (mI M 104 i) := by rw [← hM4, mI_uI, if_pos rfl, w3]
      have f4 : Fr (fun a => a = row) M M4 := by rw [← hM4]; exact f3.tr (Fr.uI rfl)
      obtain ⟨M', g1, g2, g3⟩ := ih (i + 1) n (uI M4 row (at_ + 23 + i) (mI M 105 i)) (by omega) (by omega) (f4.tr (Fr.uI rfl)) (by rw [mI_uI, if_pos rfl, w4]; exact layF_s M row at_ (by omega))
      refine ⟨M', ?_, g2, g3⟩
      have e2 : nI at_ + 2 + nI i = nI (at_ + 2 + i) := by rw [show (2 : Int32) = nI 2 from rfl, nI_add, nI_add]
      have e9 : nI at_ + 9 + nI i = nI (at_ + 9 + i) := by rw [show (9 : Int32) = nI 9 from rfl, nI_add, nI_add]
      have e16 : nI at_ + 16 + nI i = nI (at_ + 16 + i) := by rw [show (16 : Int32) = nI 16 from rfl, nI_add, nI_add]
      have e23 : nI at_ + 23 + nI i = nI (at_ + 23 + i) := by rw [show (23 : Int32) = nI 23 from rfl, nI_add, nI_add]
      simp only [F_X7_lays_18]
      rw [if_neg (show ¬ (7 : Int32) ≤ nI i from nI_ge (b := 7) (by omega) (by omega)), r1.r 4 (a := 101) rfl, Option.bind_some, ldI_nI (r1.s 4 (a := 101) rfl) (by omega) (by omega), Option.bind_some, q 102 (by omega) (by omega), e2, stI_nI _ s1 (by omega) (by omega), Option.bind_some, hM2,
        r2.r 5 (a := 102) rfl, Option.bind_some, ldI_nI (r2.s 5 (a := 102) rfl) (by omega) (by omega), Option.bind_some, q2 103 (by omega) (by omega), e9, stI_nI _ s2 (by omega) (by omega), Option.bind_some, hM3,
        r3.r 6 (a := 103) rfl, Option.bind_some, ldI_nI (r3.s 6 (a := 103) rfl) (by omega) (by omega), Option.bind_some, q3 104 (by omega) (by omega), e16, stI_nI _ s3 (by omega) (by omega), Option.bind_some, hM4,
        r4.r 7 (a := 104) rfl, Option.bind_some, ldI_nI (r4.s 7 (a := 104) rfl) (by omega) (by omega), Option.bind_some, q4 105 (by omega) (by omega), e23, stI_nI _ s4 (by omega) (by omega), Option.bind_some, nI_1]
      exact g1
  unfold F_X7_lays
  have r2 : RS (uI M row at_ (mI M 100 2)) := h.1
  rw [h.1.i, Option.bind_some, stI_nI _ hs (by omega) (by omega), Option.bind_some, r2.i, Option.bind_some, uI_a _ _ _ _ _ (by omega), nI_1, stI_nI (M := uI M _ _ _) _ hs (by omega) (by omega), Option.bind_some]
  refine key 7 0 FU _ (by omega) (FU_gt (by omega)) ((Fr.uI (S := fun a => a = row) rfl).tr (Fr.uI (S := fun a => a = row) rfl)) ?_
  rw [mI_uI, if_pos rfl, mI_uI, if_pos rfl]
  funext x
  unfold upd layF
  repeat' split
  all_goals first | (exfalso; omega) | rfl | (congr 1; omega)
theorem layF_NA {M M' : Mem} {T : Tn} (h : RA M T) {row at_ : Nat} (he : mI M' row = layF M row at_ 7) : NA M' row at_ T := by
  have h7 := h.2.1
  have e2 := h.2.2.2.2.2 1 (by omega)
  have e3 := h.2.2.2.2.2 2 (by omega)
  have e4 := h.2.2.2.2.2 3 (by omega)
  have e5 := h.2.2.2.2.2 4 (by omega)
  refine ⟨?_, ?_, fun p hp => ⟨?_, ?_, ?_, ?_⟩⟩ <;> rw [he] <;> unfold layF
  · rw [if_pos rfl]; exact h.2.2.2.1
  · rw [if_neg (by omega), if_pos rfl]; exact h.2.2.2.2.1
  · rw [if_neg (by omega), if_neg (by omega), if_pos (by omega), show at_ + 2 + p - (at_ + 2) = p by omega]; exact e2 p hp
  · rw [if_neg (by omega), if_neg (by omega), if_neg (by omega), if_pos (by omega), show at_ + 9 + p - (at_ + 9) = p by omega]; exact e3 p hp
  · rw [if_neg (by omega), if_neg (by omega), if_neg (by omega), if_neg (by omega), if_pos (by omega), show at_ + 16 + p - (at_ + 16) = p by omega]; exact e4 p hp
  · rw [if_neg (by omega), if_neg (by omega), if_neg (by omega), if_neg (by omega), if_neg (by omega), if_pos (by omega), show at_ + 23 + p - (at_ + 23) = p by omega]; exact e5 p hp
theorem layF_out (M : Mem) (row at_ x : Nat) (h : x < at_ ∨ at_ + 30 ≤ x) : layF M row at_ 7 x = mI M row x := by
  unfold layF
  repeat' split
  all_goals first | (exfalso; omega) | rfl
theorem NA.cg {M M' : Mem} {row at_ : Nat} {T : Tn} (h : NA M row at_ T) (h7 : tN T ≤ 7) {row' at' : Nat} (he : ∀ x, x < 30 → mI M' row' (at' + x) = mI M row (at_ + x)) : NA M' row' at' T := by
  have e : ∀ x, x < 30 → ∀ y, y = at' + x → mI M' row' y = mI M row (at_ + x) := fun x hx y hy => by rw [hy]; exact he x hx
  refine ⟨by rw [e 0 (by omega) _ (by omega)]; exact h.1, by rw [e 1 (by omega) _ (by omega)]; exact h.2.1, fun p hp => ?_⟩
  obtain ⟨a, b, c, d⟩ := h.2.2 p hp
  rw [e (2 + p) (by omega) _ (by omega), e (9 + p) (by omega) _ (by omega), e (16 + p) (by omega) _ (by omega), e (23 + p) (by omega) _ (by omega)]
  rw [Nat.add_assoc] at a b c d
  exact ⟨a, b, c, d⟩
/-- it takes a noted town up again -/
def tkF (M : Mem) (row at_ a s i : Nat) (x : Nat) : Int32 := if x < i then mI M row (at_ + s + x) else mI M a x
theorem tkF_s (M : Mem) (row at_ a s : Nat) (i : Nat) : upd (tkF M row at_ a s i) i (mI M row (at_ + s + i)) = tkF M row at_ a s (i + 1) := by
  funext x
  unfold upd tkF
  repeat' split
  all_goals first | (exfalso; omega) | rfl | (congr 1; omega)
def oK : Nat → Prop := fun a => a = 100 ∨ (102 ≤ a ∧ a ≤ 105)
theorem ref_takes {M : Mem} {T T' : Tn} (h : RA M T) {row at_ sz : Nat} (hs : mS M row = (10, sz)) (h1 : at_ + 30 ≤ sz) (h2 : sz ≤ 1000) (hr : 106 ≤ row) (hN : NA M row at_ T') (hk : sameK T T') :
    ∃ M', F_X7_takes 100 row (nI at_) M = some M' ∧ Fr oK M M' ∧ (∀ f, f ≠ 2 → f ≠ 3 → mI M' 100 f = mI M 100 f) ∧ RA M' T' := by
  have key : ∀ (k i n : Nat) (M1 : Mem), i + k = 7 → k < n → Fr oK M M1 → mI M1 102 = tkF M row at_ 102 2 i → mI M1 103 = tkF M row at_ 103 9 i → mI M1 104 = tkF M row at_ 104 16 i → mI M1 105 = tkF M row at_ 105 23 i → ∃ M', F_X7_takes_18 n 100 row (nI at_) (nI i) M1 = some M' ∧ Fr oK M M' ∧ mI M' 100 = mI M1 100 ∧ mI M' 102 = tkF M row at_ 102 2 7 ∧ mI M' 103 = tkF M row at_ 103 9 7 ∧ mI M' 104 = tkF M row at_ 104 16 7 ∧ mI M' 105 = tkF M row at_ 105 23 7 := by
    intro k
    induction k with
    | zero =>
      intro i n M1 hi hn hf b2 b3 b4 b5
      obtain ⟨n, rfl, -⟩ := fu_get hn
      have hi7 : i = 7 := by omega
      subst hi7
      refine ⟨M1, ?_, hf, rfl, b2, b3, b4, b5⟩
      simp only [F_X7_takes_18]
      rfl
    | succ k ih =>
      intro i n M1 hi hn hf b2 b3 b4 b5
      obtain ⟨n, rfl, hn⟩ := fu_get hn
      have r1 : RS M1 := h.1.fm hf
      have s1 : mS M1 row = (10, sz) := by rw [hf.s]; exact hs
      have q1 : mI M1 row = mI M row := hf.i (by unfold oK; omega)
      generalize hM2 : uI M1 102 i (mI M row (at_ + 2 + i)) = M2
      have r2 : RS M2 := by rw [← hM2]; exact r1
      have s2 : mS M2 row = (10, sz) := by rw [← hM2]; exact s1
      have q2 : mI M2 row = mI M row := by rw [← hM2, uI_a _ _ _ _ _ (by omega)]; exact q1
      generalize hM3 : uI M2 103 i (mI M row (at_ + 9 + i)) = M3
      have r3 : RS M3 := by rw [← hM3]; exact r2
      have s3 : mS M3 row = (10, sz) := by rw [← hM3]; exact s2
      have q3 : mI M3 row = mI M row := by rw [← hM3, uI_a _ _ _ _ _ (by omega)]; exact q2
      generalize hM4 : uI M3 104 i (mI M row (at_ + 16 + i)) = M4
      have r4 : RS M4 := by rw [← hM4]; exact r3
      have s4 : mS M4 row = (10, sz) := by rw [← hM4]; exact s3
      have q4 : mI M4 row = mI M row := by rw [← hM4, uI_a _ _ _ _ _ (by omega)]; exact q3
      generalize hM5 : uI M4 105 i (mI M row (at_ + 23 + i)) = M5
      have f5 : Fr oK M M5 := by
        rw [← hM5, ← hM4, ← hM3, ← hM2]
        exact (((hf.tr (Fr.uI (Or.inr ⟨by omega, by omega⟩))).tr (Fr.uI (Or.inr ⟨by omega, by omega⟩))).tr (Fr.uI (Or.inr ⟨by omega, by omega⟩))).tr (Fr.uI (Or.inr ⟨by omega, by omega⟩))
      have w : ∀ a, mI M5 a = if a = 105 then upd (mI M1 105) i (mI M row (at_ + 23 + i)) else if a = 104 then upd (mI M1 104) i (mI M row (at_ + 16 + i)) else if a = 103 then upd (mI M1 103) i (mI M row (at_ + 9 + i)) else if a = 102 then upd (mI M1 102) i (mI M row (at_ + 2 + i)) else mI M1 a := by
        intro a
        rw [← hM5, ← hM4, ← hM3, ← hM2]
        simp only [mI_uI]
        repeat' split
        all_goals first | (exfalso; omega) | rfl | (subst_vars; rfl)
      obtain ⟨M', g1, g2, g3, g4⟩ := ih (i + 1) n M5 (by omega) (by omega) f5 (by rw [w]; rw [b2]; exact tkF_s ..) (by rw [w]; rw [b3]; exact tkF_s ..) (by rw [w]; rw [b4]; exact tkF_s ..) (by rw [w]; rw [b5]; exact tkF_s ..)
      refine ⟨M', ?_, g2, by rw [g3, w]; rfl, g4⟩
      have e2 : nI at_ + 2 + nI i = nI (at_ + 2 + i) := by rw [show (2 : Int32) = nI 2 from rfl, nI_add, nI_add]
      have e9 : nI at_ + 9 + nI i = nI (at_ + 9 + i) := by rw [show (9 : Int32) = nI 9 from rfl, nI_add, nI_add]
      have e16 : nI at_ + 16 + nI i = nI (at_ + 16 + i) := by rw [show (16 : Int32) = nI 16 from rfl, nI_add, nI_add]
      have e23 : nI at_ + 23 + nI i = nI (at_ + 23 + i) := by rw [show (23 : Int32) = nI 23 from rfl, nI_add, nI_add]
      simp only [F_X7_takes_18]
      rw [if_neg (show ¬ (7 : Int32) ≤ nI i from nI_ge (b := 7) (by omega) (by omega)), r1.r 4 (a := 101) rfl, Option.bind_some, e2, ldI_nI s1 (by omega) (by omega), Option.bind_some, q1, stI_nI _ (r1.s 4 (a := 101) rfl) (by omega) (by omega), Option.bind_some, hM2,
        r2.r 5 (a := 102) rfl, Option.bind_some, e9, ldI_nI s2 (by omega) (by omega), Option.bind_some, q2, stI_nI _ (r2.s 5 (a := 102) rfl) (by omega) (by omega), Option.bind_some, hM3,
        r3.r 6 (a := 103) rfl, Option.bind_some, e16, ldI_nI s3 (by omega) (by omega), Option.bind_some, q3, stI_nI _ (r3.s 6 (a := 103) rfl) (by omega) (by omega), Option.bind_some, hM4,
        r4.r 7 (a := 104) rfl, Option.bind_some, e23, ldI_nI s4 (by omega) (by omega), Option.bind_some, q4, stI_nI _ (r4.s 7 (a := 104) rfl) (by omega) (by omega), Option.bind_some, hM5, nI_1]
      exact g1
  have z : ∀ (a s : Nat), mI M a = tkF M row at_ a s 0 := fun a s => by funext x; unfold tkF; rw [if_neg (by omega)]
  have r2 : RS (uI M 100 2 (mI M row at_)) := h.1
  obtain ⟨M', g1, g2, g3, g4, g5, g6, g7⟩ := key 7 0 FU (uI (uI M 100 2 (mI M row at_)) 100 3 (mI M row (at_ + 1))) (by omega) (FU_gt (by omega)) ((Fr.uI (Or.inl rfl)).tr (Fr.uI (Or.inl rfl))) (by rw [uI_a _ _ _ _ _ (by omega), uI_a _ _ _ _ _ (by omega)]; exact z _ _) (by rw [uI_a _ _ _ _ _ (by omega), uI_a _ _ _ _ _ (by omega)]; exact z _ _) (by rw [uI_a _ _ _ _ _ (by omega), uI_a _ _ _ _ _ (by omega)]; exact z _ _) (by rw [uI_a _ _ _ _ _ (by omega), uI_a _ _ _ _ _ (by omega)]; exact z _ _)
  have go : ∀ f, f ≠ 2 → f ≠ 3 → mI M' 100 f = mI M 100 f := fun f q1 q2 => by rw [g3, uI_f _ _ _ _ q2, uI_f _ _ _ _ q1]
  refine ⟨M', ?_, g2, go, h.1.fm g2, by rw [hk.1]; exact h.2.1, by rw [go 0 (by omega) (by omega), hk.1]; exact h.2.2.1, by rw [g3, uI_f _ _ _ _ (by omega), mI_uI, if_pos rfl, upd_eq]; exact hN.1, by rw [g3, mI_uI, if_pos rfl, upd_eq]; exact hN.2.1, fun i hi j hj => ?_⟩
  · unfold F_X7_takes
    rw [ldI_nI hs (by omega) (by omega), Option.bind_some, h.1.p, Option.bind_some, nI_1, ldI_nI (M := uI M _ _ _) hs (by omega) (by omega), Option.bind_some, r2.p, Option.bind_some, uI_a _ _ _ _ _ (by omega)]
    exact g1
  · have h7 := h.2.1
    have hj' : j < tN T := by rw [← hk.1]; exact hj
    obtain ⟨a, b, c, d⟩ := hN.2.2 j hj
    have : i = 0 ∨ i = 1 ∨ i = 2 ∨ i = 3 ∨ i = 4 := by omega
    rcases this with rfl | rfl | rfl | rfl | rfl
    · rw [g2.i (by unfold oK; omega), h.2.2.2.2.2 0 (by omega) j hj']
      exact (hk.2 j hj').symm
    · show mI M' 102 j = _
      rw [g4]; unfold tkF; rw [if_pos (by omega)]; exact a
    · show mI M' 103 j = _
      rw [g5]; unfold tkF; rw [if_pos (by omega)]; exact b
    · show mI M' 104 j = _
      rw [g6]; unfold tkF; rw [if_pos (by omega)]; exact c
    · show mI M' 105 j = _
      rw [g7]; unfold tkF; rw [if_pos (by omega)]; exact d
/-- the oldest note goes -/
def shF (M : Mem) (i : Nat) (x : Nat) : Int32 := if x < i then mI M 113 (x + 30) else mI M 113 x
theorem shF_s (M : Mem) (i : Nat) : upd (shF M i) i (mI M 113 (i + 30)) = shF M (i + 1) := by
  funext x
  unfold upd shF
  repeat' split
  all_goals first | (exfalso; omega) | rfl | (subst_vars; rfl)
theorem psh_lt {c : Nat} {v : Nat × (Nat → Tn)} {T : Tn} (h : v.1 < c) : psh c v T = (v.1 + 1, va_up v.2 v.1 T) := by unfold psh; rw [if_pos h]
theorem psh_ge {c : Nat} {v : Nat × (Nat → Tn)} {T : Tn} (h : ¬ v.1 < c) : psh c v T = (c, va_up (fun i => v.2 (i + 1)) (c - 1) T) := by unfold psh; rw [if_neg h]
def oN : Nat → Prop := fun a => a = 100 ∨ a = 113
theorem nI_30 (n : Nat) : (30 : Int32) * nI n = nI (30 * n) := (Int32.ofNat_mul 30 n).symm
/-- laid on the row, one more -/
theorem ref_put {M : Mem} {T : Tn} (h : RA M T) {row fld c n : Nat} {U : Nat → Tn} (hs : mS M row = (10, 30 * c)) (hc : c ≤ 8) (hr : 106 ≤ row) (hp : RPl M row fld n U) (hU : ∀ i, i < n → tN (U i) ≤ 7) (hn : n < c) (hf : fld ≠ 0 ∧ fld ≠ 2 ∧ fld ≠ 3) :
    ∃ M', F_X7_lays 100 row (nI (30 * n)) M = some M' ∧ RS M' ∧ fI M' 7 100 fld = some (nI n) ∧ Fr (fun a => a = row) M M' ∧ RPl (uI M' 100 fld (nI (n + 1))) row fld (n + 1) (va_up U n T) := by
  obtain ⟨M', e1, e2, e3⟩ := ref_lays h (at_ := 30 * n) hs (by omega) (by omega) hr
  have r : RS M' := h.1.fm e2
  refine ⟨M', e1, r, by rw [r.i, e2.i (show ¬ 100 = row by omega), hp.1], e2, by rw [mI_uI, if_pos rfl, upd_eq], fun i hi => ?_⟩
  have e4 : mI (uI M' 100 fld (nI (n + 1))) row = layF M row (30 * n) 7 := by rw [uI_a _ _ _ _ _ (by omega), e3]
  by_cases e : i = n
  · subst e
    rw [vu_eq]
    exact layF_NA h e4
  · rw [vu_ne e]
    refine (hp.2 i (by omega)).cg (hU i (by omega)) (fun x hx => ?_)
    rw [e4, layF_out _ _ _ _ (by omega)]
theorem ref_notes49 {M : Mem} {T : Tn} (h : RA M T) {n : Nat} {U : Nat → Tn} (hp : RPl M 113 22 n U) (hU : ∀ i, i < n → tN (U i) ≤ 7) (hn : n < 8) :
    ∃ M', F_X7_notes_49 100 M = some M' ∧ Fr oN M M' ∧ (∀ f, f ≠ 22 → mI M' 100 f = mI M 100 f) ∧ RPl M' 113 22 (n + 1) (va_up U n T) := by
  obtain ⟨M1, e1, e2, e3, e4, e5⟩ := ref_put h (c := 8) (h.1.s 21 (a := 112) rfl) (by omega) (by omega) hp hU hn (by omega)
  refine ⟨uI M1 100 22 (nI (n + 1)), ?_, (e4.mono (fun a ha => Or.inr ha)).tr (Fr.uI (Or.inl rfl)), fun f hf => by rw [uI_f _ _ _ _ hf, e4.i (by omega)], e5⟩
  unfold F_X7_notes_49
  rw [h.1.r 21 (a := 112) rfl, Option.bind_some, h.1.i, hp.1, Option.bind_some, h.ck, Option.bind_some, nI_30, e1, Option.bind_some, e3, Option.bind_some, nI_1, e2.p]
  rfl
theorem ref_notes {M : Mem} {T : Tn} (h : RA M T) {n : Nat} {U : Nat → Tn} (hp : RPl M 113 22 n U) (hU : ∀ i, i < n → tN (U i) ≤ 7) (hn : n ≤ 8) :
    ∃ M', F_X7_notes 100 M = some M' ∧ Fr oN M M' ∧ (∀ f, f ≠ 22 → mI M' 100 f = mI M 100 f) ∧ RPl M' 113 22 (psh 8 (n, U) T).1 (psh 8 (n, U) T).2 := by
  unfold F_X7_notes
  rw [h.1.i, Option.bind_some, hp.1]
  by_cases e : n < 8
  · rw [if_neg (show ¬ nI n = 8 from fun z => by have := nI_inj (b := 8) (by omega) (by decide) z; omega), psh_lt (v := (n, U)) e]
    exact ref_notes49 h hp hU e
  · have e8 : n = 8 := by omega
    subst e8
    rw [if_pos (show nI 8 = 8 from rfl), psh_ge (v := (8, U)) e]
    have key : ∀ (k i f : Nat) (M1 : Mem), i + k = 210 → k < f → Fr (fun a => a = 113) M M1 → mI M1 113 = shF M i → ∃ M', F_X7_notes_11 f 100 (nI i) M1 = some M' ∧ Fr oN M M' ∧ (∀ f, f ≠ 22 → mI M' 100 f = mI M 100 f) ∧ RPl M' 113 22 8 (va_up (fun i => U (i + 1)) 7 T) := by
      intro k
      induction k with
      | zero =>
        intro i f M1 hi hf hfr he
        obtain ⟨f, rfl, -⟩ := fu_get hf
        have hi2 : i = 210 := by omega
        subst hi2
        have r1 : RS M1 := h.1.fm hfr
        have v1 : fI M1 7 100 22 = some (nI 8) := by rw [r1.i, hfr.i (by omega), hp.1]
        simp only [F_X7_notes_11]
        rw [if_pos (show (210 : Int32) ≤ nI 210 by decide), v1, Option.bind_some, nI_m1 (by omega), r1.p, Option.bind_some]
        have hra : RA (uI M1 100 22 (nI 7)) T := h.of r1 (fun g hg => by rw [uI_f _ _ _ _ (by omega), hfr.i (by omega)]) (fun a ha hb => by rw [uI_a _ _ _ _ _ (by omega), hfr.i (by omega)])
        obtain ⟨M', g1, g2, g3, g4⟩ := ref_notes49 (n := 7) (U := fun i => U (i + 1)) hra ⟨by rw [mI_uI, if_pos rfl, upd_eq], fun i hi => by
          refine (hp.2 (i + 1) (by omega)).cg (hU (i + 1) (by omega)) (fun x hx => ?_)
          rw [uI_a _ _ _ _ _ (by omega), he]
          unfold shF
          rw [if_pos (by omega)]
          congr 1
          omega⟩ (fun i hi => hU (i + 1) (by omega)) (by omega)
        refine ⟨M', g1, ((hfr.mono (S2 := oN) (fun a ha => Or.inr ha)).tr (Fr.uI (S := oN) (Or.inl rfl))).tr g2, fun g hg => by rw [g3 g hg, uI_f _ _ _ _ hg, hfr.i (by omega)], g4⟩
      | succ k ih =>
        intro i f M1 hi hf hfr he
        obtain ⟨f, rfl, hf⟩ := fu_get hf
        have r1 : RS M1 := h.1.fm hfr
        have e5 : mI M1 113 (i + 30) = mI M 113 (i + 30) := by rw [he]; unfold shF; rw [if_neg (by omega)]
        have e6 : nI i + 30 = nI (i + 30) := nI_add i 30
        obtain ⟨M', g1, g2⟩ := ih (i + 1) f (uI M1 113 i (mI M 113 (i + 30))) (by omega) (by omega) (hfr.tr (Fr.uI rfl)) (by rw [mI_uI, if_pos rfl, he]; exact shF_s M i)
        refine ⟨M', ?_, g2⟩
        simp only [F_X7_notes_11]
        rw [if_neg (show ¬ (210 : Int32) ≤ nI i from nI_ge (b := 210) (by omega) (by omega)), r1.r 21 (a := 112) rfl, Option.bind_some, Option.bind_some, e6, ldI_nI (r1.s 21 (a := 112) rfl) (by omega) (by omega), Option.bind_some, stI_nI _ (r1.s 21 (a := 112) rfl) (by omega) (by omega), Option.bind_some, nI_1, e5]
        exact g1
    exact key 210 0 FU M (by omega) (FU_gt (by omega)) Fr.rf (by funext x; unfold shF; rw [if_neg (by omega)])
