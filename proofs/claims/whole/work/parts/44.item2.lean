/-! ONE ITEM, BY THE REFERENCE -/
def oI : Nat → Prop := fun a => a = 100 ∨ a = 112
theorem r_34 (n idx : Nat) (h : idx < 5) (M : Mem) : F_X7_readsItem_34 (n + 1) 100 (nI idx) M = F_X7_readsItem_66 (F_X7_readsItem_34 n) 100 (nI idx) 100 (tab3.getD idx 0) (tab4.getD idx 0) (sp5 idx) M := by
  have : idx = 0 ∨ idx = 1 ∨ idx = 2 ∨ idx = 3 ∨ idx = 4 := by omega
  rcases this with rfl | rfl | rfl | rfl | rfl <;> rfl
def rwF (X : Nat × (Nat → Int32)) (i c idx : Nat) (g : Nat → Int32) (x : Nat) : Int32 := if 5 * c + idx ≤ x ∧ x < 5 * c + 5 then vX5 X i (x - 5 * c) else g x
theorem r_item {X : Nat × (Nat → Int32)} (hX : X.1 ≤ 200) {i c : Nat} (hi : i < 300) (hc : c ≤ 6) : ∀ (k idx n : Nat) (M : Mem), idx + k = 5 → k < n → RS M → RTx M X.1 X.2 → mI M 100 17 = nI (psX X i idx) → mI M 100 18 = nI c →
    ((∀ j, idx ≤ j → j < 5 → ok5 X i j) → ∃ M', F_X7_readsItem_34 n 100 (nI idx) M = some (1, M') ∧ Fr oI M M' ∧ (∀ f, f ≠ 17 → f ≠ 18 → f ≠ 20 → mI M' 100 f = mI M 100 f) ∧ mI M' 100 17 = nI (psX X i 5) ∧ mI M' 100 18 = nI (c + 1) ∧ mI M' 112 = rwF X i c idx (mI M 112)) ∧
    ((∃ j, idx ≤ j ∧ j < 5 ∧ ¬ ok5 X i j) → ∃ M', F_X7_readsItem_34 n 100 (nI idx) M = some (0, M') ∧ Fr oI M M' ∧ (∀ f, f ≠ 17 → f ≠ 18 → f ≠ 20 → mI M' 100 f = mI M 100 f) ∧ mI M' 100 18 = nI c) := by
  intro k
  induction k with
  | zero =>
    intro idx n M hidx hn hs ht hp hcn
    obtain ⟨n, rfl, -⟩ := fu_get hn
    have : idx = 5 := by omega
    subst this
    refine ⟨fun _ => ⟨uI M 100 18 (nI (c + 1)), ?_, Fr.uI (Or.inl rfl), fun f _ h2 _ => uI_f _ _ _ _ h2, by rw [uI_f _ _ _ _ (by omega)]; exact hp, by rw [mI_uI, if_pos rfl, upd_eq], ?_⟩, fun ⟨j, h1, h2, _⟩ => absurd h2 (by omega)⟩
    · simp only [F_X7_readsItem_34]
      rw [if_pos (show (5 : Int32) ≤ nI 5 by decide), hs.i, Option.bind_some, hcn, nI_1, hs.p, Option.bind_some]
    · rw [uI_a _ _ _ _ _ (by omega)]
      funext x
      unfold rwF
      rw [if_neg (by omega)]
  | succ k ih =>
    intro idx n M hidx hn hs ht hp hcn
    obtain ⟨n, rfl, hn⟩ := fu_get hn
    have hps := psX_le X i idx
    obtain ⟨M1, g1, g2, g3, g4⟩ := r_number hs ht hX (i := psX X i idx) (by omega) hp (tab3.getD idx 0) (tab4.getD idx 0) (sp5 idx)
    have hs1 : RS M1 := hs.fm g2
    have hc1 : mI M1 100 18 = nI c := by rw [g3 18 (by omega) (by omega)]; exact hcn
    rw [r_34 n idx (by omega)]
    unfold F_X7_readsItem_66
    rw [hs.ck, Option.bind_some, g1, Option.bind_some]
    by_cases e : ok5 X i idx
    · obtain ⟨p1, p2⟩ := g4 e
      have e5 : (5 : Int32) * nI c + nI idx = nI (5 * c + idx) := by rw [show (5 : Int32) * nI c = nI (5 * c) from (Int32.ofNat_mul 5 c).symm, nI_add]
      have hs2 : RS (uI M1 112 (5 * c + idx) (vX5 X i idx)) := hs1
      have f2 : Fr oI M (uI M1 112 (5 * c + idx) (vX5 X i idx)) := (g2.mono (S2 := oI) (fun a ha => Or.inl ha)).tr (Fr.uI (S := oI) (Or.inr rfl))
      have u2 : mI (uI M1 112 (5 * c + idx) (vX5 X i idx)) 100 = mI M1 100 := uI_a _ _ _ _ _ (by omega)
      have u3 : ∀ f, f ≠ 17 → f ≠ 18 → f ≠ 20 → mI (uI M1 112 (5 * c + idx) (vX5 X i idx)) 100 f = mI M 100 f := fun f h1 _ h3 => by rw [u2]; exact g3 f h1 h3
      have ht2 : RTx (uI M1 112 (5 * c + idx) (vX5 X i idx)) X.1 X.2 := ht.of (u3 16 (by omega) (by omega) (by omega)) (by rw [uI_a _ _ _ _ _ (by omega)]; exact g2.i (by omega))
      obtain ⟨ihA, ihB⟩ := ih (idx + 1) n (uI M1 112 (5 * c + idx) (vX5 X i idx)) (by omega) (by omega) hs2 ht2 (by rw [u2]; exact p1) (by rw [u2]; exact hc1)
      have p2' : mI M1 100 20 = vX5 X i idx := p2
      rw [if_pos (show okX X (psX X i idx) (sp5 idx) (tab3.getD idx 0) (tab4.getD idx 0) from e), if_neg d10, hs1.r 19 (a := 111) rfl, Option.bind_some, hs1.i, Option.bind_some, hs1.i, Option.bind_some, hc1, p2', e5, stI_nI _ (hs1.s 19 (a := 111) rfl) (by omega) (by omega), Option.bind_some, nI_1]
      refine ⟨fun hall => ?_, fun ⟨j, h1, h2, h3⟩ => ?_⟩
      · obtain ⟨M', b1, b2, b3, b4, b5, b6⟩ := ihA (fun j h1 h2 => hall j (by omega) h2)
        refine ⟨M', b1, f2.tr b2, fun f h1 h2 h3 => by rw [b3 f h1 h2 h3]; exact u3 f h1 h2 h3, b4, b5, ?_⟩
        rw [b6, mI_uI, if_pos rfl, show mI M1 112 = mI M 112 from g2.i (by omega)]
        funext x
        unfold rwF upd
        by_cases z1 : x = 5 * c + idx
        · rw [if_neg (by omega), if_pos z1, if_pos (by omega), z1, show 5 * c + idx - 5 * c = idx by omega]
        · rw [if_neg z1]
          by_cases z2 : 5 * c + (idx + 1) ≤ x ∧ x < 5 * c + 5
          · rw [if_pos z2, if_pos (by omega)]
          · rw [if_neg z2, if_neg (by omega)]
      · obtain ⟨M', b1, b2, b3, b4⟩ := ihB ⟨j, by
          rcases Nat.lt_or_ge idx j with z | z
          · exact z
          · exact absurd ((show idx = j by omega) ▸ e) h3, h2, h3⟩
        exact ⟨M', b1, f2.tr b2, fun f h1 h2 h3 => by rw [b3 f h1 h2 h3]; exact u3 f h1 h2 h3, b4⟩
    · rw [if_neg (show ¬ okX X (psX X i idx) (sp5 idx) (tab3.getD idx 0) (tab4.getD idx 0) from e), if_pos rfl]
      exact ⟨fun hall => absurd (hall idx (by omega) (by omega)) e, fun _ => ⟨M1, rfl, g2.mono (fun a ha => Or.inl ha), fun f h1 _ h3 => g3 f h1 h3, hc1⟩⟩
