/-! THE REFERENCE, NEW, WITH ITS FIRST TOWN -/
def fT (c : Nat) : Tn := (c, 0, 0, fun p => tab2.getD (5 * p) 0, fun p => tab2.getD (5 * p + 1) 0, fun p => tab2.getD (5 * p + 2) 0, fun p => tab2.getD (5 * p + 3) 0, fun p => tab2.getD (5 * p + 4) 0)
def G0 : Sg := ((0, fun _ => 0), fT 7, (0, fun _ => fT 0), (0, fun _ => fT 0), (0, (fun _ => 0), (fun _ => 0), (fun _ => 0)), (0, (fun _ => 0), (fun _ => 0)))
theorem Fr.nN {S : Nat → Prop} {M M' : Mem} {q : Nat} (h : Fr S M M') (hS : ∀ a, a < q → ¬ S a) : FrN q M M' := fun a ha => ⟨h.s a, h.i (hS a ha), (h.2.2.1 a (hS a ha)).2⟩
theorem fT_ok : ∀ j, j < 7 → (∃ k, k < 4 ∧ tK (fT 7) j = nI k) ∧ ((∃ k, k < 6 ∧ tD (fT 7) j = nI k) ∧ ∃ k, k < 10 ∧ 1 ≤ k ∧ tW (fT 7) j = nI k) ∧ (∃ k, k < 12 ∧ tY (fT 7) j = nI k) ∧ ∃ k, k < 12 ∧ tP (fT 7) j = nI k := by decide +kernel
theorem G0_ok : GOk G0 := by
  refine ⟨Nat.zero_le _, fun j hj => absurd hj (Nat.not_lt_zero j), ⟨by decide, by decide, fun j hj => ?_⟩, Nat.zero_le _, fun j hj => absurd hj (Nat.not_lt_zero j), Nat.zero_le _, fun j hj => absurd hj (Nat.not_lt_zero j), Nat.zero_le _, fun j hj => absurd hj (Nat.not_lt_zero j), Nat.zero_le _⟩
  obtain ⟨⟨a, a1, a2⟩, ⟨⟨b, b1, b2⟩, d, d1, d2, d3⟩, y, p⟩ := fT_ok j hj
  exact ⟨⟨a, by omega, a2⟩, Or.inr ⟨⟨b, by omega, b2⟩, d, d2, by omega, d3⟩, y, p⟩
theorem fT_up (c j : Nat) : tK (fT (c + 1)) j = upd (tK (fT c)) c (tab2.getD (5 * c) 0) j ∧ tD (fT (c + 1)) j = upd (tD (fT c)) c (tab2.getD (5 * c + 1) 0) j ∧ tW (fT (c + 1)) j = upd (tW (fT c)) c (tab2.getD (5 * c + 2) 0) j ∧ tY (fT (c + 1)) j = upd (tY (fT c)) c (tab2.getD (5 * c + 3) 0) j ∧ tP (fT (c + 1)) j = upd (tP (fT c)) c (tab2.getD (5 * c + 4) 0) j :=
  ⟨upd_same (fun p => tab2.getD (5 * p) 0) c j, upd_same (fun p => tab2.getD (5 * p + 1) 0) c j, upd_same (fun p => tab2.getD (5 * p + 2) 0) c j, upd_same (fun p => tab2.getD (5 * p + 3) 0) c j, upd_same (fun p => tab2.getD (5 * p + 4) 0) c j⟩
theorem r_init {M : Mem} (hM : mN M = 100) : ∃ M', F_X7_init 100 (mNew M 7 30) = some M' ∧ RI M' G0 ∧ FrN 100 M M' := by
  obtain ⟨B, hS, hz, hf, -, hr⟩ := init7 hM
  have c0 : RA B (fT 0) := ⟨hS, Nat.zero_le _, by rw [hz]; rfl, by rw [hz]; rfl, by rw [hz]; rfl, fun i hi j hj => absurd hj (Nat.not_lt_zero j)⟩
  obtain ⟨C1, p0, f0, o0, c1⟩ := ref_comes (T' := fT 1) c0 (show 0 < 7 by decide) (tab2.getD (5 * 0) 0) (tab2.getD (5 * 0 + 1) 0) (tab2.getD (5 * 0 + 2) 0) (tab2.getD (5 * 0 + 3) 0) (tab2.getD (5 * 0 + 4) 0) rfl rfl rfl (fun j _ => fT_up 0 j)
  have p0 : F_X7_comes 100 (0 : Int32) (0 : Int32) (3 : Int32) (0 : Int32) (1 : Int32) B = some C1 := p0
  obtain ⟨C2, p1, f1, o1, c2⟩ := ref_comes (T' := fT 2) c1 (show 1 < 7 by decide) (tab2.getD (5 * 1) 0) (tab2.getD (5 * 1 + 1) 0) (tab2.getD (5 * 1 + 2) 0) (tab2.getD (5 * 1 + 3) 0) (tab2.getD (5 * 1 + 4) 0) rfl rfl rfl (fun j _ => fT_up 1 j)
  have p1 : F_X7_comes 100 (1 : Int32) (0 : Int32) (3 : Int32) (6 : Int32) (2 : Int32) C1 = some C2 := p1
  obtain ⟨C3, p2, f2, o2, c3⟩ := ref_comes (T' := fT 3) c2 (show 2 < 7 by decide) (tab2.getD (5 * 2) 0) (tab2.getD (5 * 2 + 1) 0) (tab2.getD (5 * 2 + 2) 0) (tab2.getD (5 * 2 + 3) 0) (tab2.getD (5 * 2 + 4) 0) rfl rfl rfl (fun j _ => fT_up 2 j)
  have p2 : F_X7_comes 100 (2 : Int32) (0 : Int32) (3 : Int32) (4 : Int32) (5 : Int32) C2 = some C3 := p2
  obtain ⟨C4, p3, f3, o3, c4⟩ := ref_comes (T' := fT 4) c3 (show 3 < 7 by decide) (tab2.getD (5 * 3) 0) (tab2.getD (5 * 3 + 1) 0) (tab2.getD (5 * 3 + 2) 0) (tab2.getD (5 * 3 + 3) 0) (tab2.getD (5 * 3 + 4) 0) rfl rfl rfl (fun j _ => fT_up 3 j)
  have p3 : F_X7_comes 100 (3 : Int32) (1 : Int32) (2 : Int32) (9 : Int32) (1 : Int32) C3 = some C4 := p3
  obtain ⟨C5, p4, f4, o4, c5⟩ := ref_comes (T' := fT 5) c4 (show 4 < 7 by decide) (tab2.getD (5 * 4) 0) (tab2.getD (5 * 4 + 1) 0) (tab2.getD (5 * 4 + 2) 0) (tab2.getD (5 * 4 + 3) 0) (tab2.getD (5 * 4 + 4) 0) rfl rfl rfl (fun j _ => fT_up 4 j)
  have p4 : F_X7_comes 100 (0 : Int32) (1 : Int32) (2 : Int32) (3 : Int32) (7 : Int32) C4 = some C5 := p4
  obtain ⟨C6, p5, f5, o5, c6⟩ := ref_comes (T' := fT 6) c5 (show 5 < 7 by decide) (tab2.getD (5 * 5) 0) (tab2.getD (5 * 5 + 1) 0) (tab2.getD (5 * 5 + 2) 0) (tab2.getD (5 * 5 + 3) 0) (tab2.getD (5 * 5 + 4) 0) rfl rfl rfl (fun j _ => fT_up 5 j)
  have p5 : F_X7_comes 100 (2 : Int32) (1 : Int32) (5 : Int32) (3 : Int32) (1 : Int32) C5 = some C6 := p5
  obtain ⟨C7, p6, f6, o6, c7⟩ := ref_comes (T' := fT 7) c6 (show 6 < 7 by decide) (tab2.getD (5 * 6) 0) (tab2.getD (5 * 6 + 1) 0) (tab2.getD (5 * 6 + 2) 0) (tab2.getD (5 * 6 + 3) 0) (tab2.getD (5 * 6 + 4) 0) rfl rfl rfl (fun j _ => fT_up 6 j)
  have p6 : F_X7_comes 100 (1 : Int32) (4 : Int32) (1 : Int32) (0 : Int32) (0 : Int32) C6 = some C7 := p6
  have w : ∀ f, f ≠ 0 → mI C7 100 f = 0 := fun f hf => by rw [o6 f hf, o5 f hf, o4 f hf, o3 f hf, o2 f hf, o1 f hf, o0 f hf, hz]
  have hj : ∀ a, a < 100 → ¬ oJ a := fun a ha => by unfold oJ; omega
  refine ⟨C7, ?_, ⟨c7, ⟨w 16 (by omega), fun j hj => absurd hj (Nat.not_lt_zero j)⟩, ⟨w 22 (by omega), fun j hj => absurd hj (Nat.not_lt_zero j)⟩, ⟨w 29 (by omega), fun j hj => absurd hj (Nat.not_lt_zero j)⟩, ⟨w 8 (by omega), fun j hj => absurd hj (Nat.not_lt_zero j)⟩, ⟨w 12 (by omega), fun j hj => absurd hj (Nat.not_lt_zero j)⟩⟩, ((((((hf.tr (f0.nN hj)).tr (f1.nN hj)).tr (f2.nN hj)).tr (f3.nN hj)).tr (f4.nN hj)).tr (f5.nN hj)).tr (f6.nN hj)⟩
  unfold F_X7_init
  refine (hr _).trans ?_
  rw [c0.ck, Option.bind_some, p0, Option.bind_some, c1.ck, Option.bind_some, p1, Option.bind_some, c2.ck, Option.bind_some, p2, Option.bind_some, c3.ck, Option.bind_some, p3, Option.bind_some, c4.ck, Option.bind_some, p4, Option.bind_some, c5.ck, Option.bind_some, p5, Option.bind_some, c6.ck, Option.bind_some, p6, Option.bind_some]
