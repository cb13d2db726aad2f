/-! ONE ITEM OF THE TEXT -/
def sp5 (idx : Nat) : Int32 := if idx = 4 then 59 else 44
def psX (X : Nat × (Nat → Int32)) (i : Nat) : Nat → Nat
  | 0 => i
  | idx + 1 => edX X (psX X i idx) + 1
abbrev ok5 (X : Nat × (Nat → Int32)) (i idx : Nat) : Prop := okX X (psX X i idx) (sp5 idx) (tab3.getD idx 0) (tab4.getD idx 0)
def vX5 (X : Nat × (Nat → Int32)) (i idx : Nat) : Int32 := vlX X (psX X i idx)
theorem edX_le (X : Nat × (Nat → Int32)) (i : Nat) : i < edX X i ∧ edX X i ≤ i + 2 := by
  unfold edX
  split <;> omega
theorem psX_le (X : Nat × (Nat → Int32)) (i : Nat) : ∀ idx, psX X i idx ≤ i + 3 * idx ∧ i ≤ psX X i idx
  | 0 => ⟨Nat.le_refl _, Nat.le_refl _⟩
  | idx + 1 => by
    have h1 := psX_le X i idx
    have h2 := edX_le X (psX X i idx)
    show edX X (psX X i idx) + 1 ≤ _ ∧ _ ≤ edX X (psX X i idx) + 1
    omega
theorem ldI_13 {M : Mem} {a i n : Nat} (h : mS M a = (13, n)) (hi : i < n) (hn : n < 2 ^ 31) : ldI M a (nI i) = some (mI M a i) := by
  unfold ldI
  rw [h]
  simp [inR_nI hi hn, nI_clamp (show i < 2 ^ 31 by omega)]
theorem c_item {X : Nat × (Nat → Int32)} (hX : X.1 ≤ 200) (hc : ∀ j, j < X.1 → ∃ c, 32 ≤ c ∧ c ≤ 126 ∧ X.2 j = nI c) {i : Nat} (hi : i < 300) : ∀ (k idx n : Nat) (M : Mem), idx + k = 5 → k < n → CSh M → CTx M X.1 X.2 →
    ((∀ j, idx ≤ j → j < 5 → ok5 X i j) → ∃ M', F_X3_readItem_19 n 6 (nI (psX X i idx)) (nI idx) M = some (nI (psX X i 5), M') ∧ Fr (fun a => a = 8) M M' ∧ ∀ j, j < 5 → mI M' 8 j = if idx ≤ j then vX5 X i j else mI M 8 j) ∧
    ((∃ j, idx ≤ j ∧ j < 5 ∧ ¬ ok5 X i j) → ∃ M', F_X3_readItem_19 n 6 (nI (psX X i idx)) (nI idx) M = some (-4, M') ∧ Fr (fun a => a = 8) M M') := by
  intro k
  induction k with
  | zero =>
    intro idx n M hidx hn h ht
    obtain ⟨n, rfl, -⟩ := fu_get hn
    have : idx = 5 := by omega
    subst this
    refine ⟨fun _ => ⟨M, ?_, Fr.rf, fun j hj => by rw [if_neg (by omega)]⟩, fun ⟨j, h1, h2, _⟩ => absurd h2 (by omega)⟩
    simp only [F_X3_readItem_19]
    rw [if_pos (show (5 : Int32) ≤ nI 5 by decide)]
  | succ k ih =>
    intro idx n M hidx hn h ht
    obtain ⟨n, rfl, hn⟩ := fu_get hn
    have hps := psX_le X i idx
    have hed := edX_le X (psX X i idx)
    have ck := chkT_of (h.s 1 rfl)
    have t3 : ldI M 3 (nI idx) = some (tab3.getD idx 0) := by rw [ldI_13 h.2.2.2.1.1 (by omega) (by omega), (h.2.2.2.2 idx (by omega)).1]
    have t4 : ldI M 4 (nI idx) = some (tab4.getD idx 0) := by rw [ldI_13 h.2.2.2.1.2 (by omega) (by omega), (h.2.2.2.2 idx (by omega)).2]
    have q1 : fR M 3 6 1 = some 8 := by rw [fR_of (h.s 1 rfl), h.r 11 rfl]
    have esum : nI (psX X i idx) + nI (edX X (psX X i idx) - psX X i idx) = nI (edX X (psX X i idx)) := by rw [nI_add, show psX X i idx + (edX X (psX X i idx) - psX X i idx) = edX X (psX X i idx) by omega]
    have esum1 : nI (psX X i idx) + (nI (edX X (psX X i idx) - psX X i idx) + 1) = nI (psX X i (idx + 1)) := by rw [nI_1, nI_add, show psX X i idx + (edX X (psX X i idx) - psX X i idx + 1) = psX X i (idx + 1) by show _ = edX X (psX X i idx) + 1; omega]
    have hM2 : Fr (fun a => a = 8) M (uI M 8 idx (vX5 X i idx)) := Fr.uI rfl
    obtain ⟨ihA, ihB⟩ := ih (idx + 1) n (uI M 8 idx (vX5 X i idx)) (by omega) (by omega) (h.fr hM2 ⟨by omega, by omega⟩) (ht.fr hM2 (by omega) (by omega))
    -- one number
    have step : F_X3_readItem_19 (n + 1) 6 (nI (psX X i idx)) (nI idx) M = if ok5 X i idx then F_X3_readItem_19 n 6 (nI (psX X i (idx + 1))) (nI (idx + 1)) (uI M 8 idx (vX5 X i idx)) else some (-4, M) := by
      simp only [F_X3_readItem_19]
      rw [if_neg (show ¬ (5 : Int32) ≤ nI idx from nI_ge (b := 5) (by omega) (by omega)), ck, Option.bind_some, c_figs h ht hX hc (by omega), Option.bind_some]
      have h60 : ∀ s0, F_X3_readItem_60 (F_X3_readItem_19 n) 6 (nI (psX X i idx)) (nI idx) (nI (edX X (psX X i idx) - psX X i idx)) (vX5 X i idx) s0 M = if (tab3.getD idx 0 ≤ vX5 X i idx ∧ vX5 X i idx ≤ tab4.getD idx 0) ∧ atX X (edX X (psX X i idx)) = s0 then F_X3_readItem_19 n 6 (nI (psX X i (idx + 1))) (nI (idx + 1)) (uI M 8 idx (vX5 X i idx)) else some (-4, M) := by
        intro s0
        unfold F_X3_readItem_60
        rw [t3, Option.bind_some, t4, Option.bind_some, out_and, Option.bind_some]
        by_cases e1 : tab3.getD idx 0 ≤ vX5 X i idx ∧ vX5 X i idx ≤ tab4.getD idx 0
        · rw [if_pos e1, if_pos rfl, ck, Option.bind_some, esum, c_letter h ht hX hc (by omega), Option.bind_some]
          by_cases e2 : atX X (edX X (psX X i idx)) = s0
          · rw [if_pos e2, if_pos ⟨e1, e2⟩, q1, Option.bind_some, stI_nI _ (h.s 3 rfl) (by omega) (by omega), Option.bind_some, esum1, nI_1]
          · rw [if_neg e2, if_neg (fun z => e2 z.2)]
        · rw [if_neg e1, if_neg d10, if_neg (fun z => e1 z.1)]
      by_cases e : fg (atX X (psX X i idx))
      · rw [if_pos e, if_neg (nI_ne0 (by omega) (by omega)), Option.bind_some, c_numb h ht hX hc (by omega), Option.bind_some]
        have hsp : (if (4 : Int32) ≤ nI idx then F_X3_readItem_60 (F_X3_readItem_19 n) 6 (nI (psX X i idx)) (nI idx) (nI (edX X (psX X i idx) - psX X i idx)) (vX5 X i idx) 59 M else F_X3_readItem_60 (F_X3_readItem_19 n) 6 (nI (psX X i idx)) (nI idx) (nI (edX X (psX X i idx) - psX X i idx)) (vX5 X i idx) 44 M) = F_X3_readItem_60 (F_X3_readItem_19 n) 6 (nI (psX X i idx)) (nI idx) (nI (edX X (psX X i idx) - psX X i idx)) (vX5 X i idx) (sp5 idx) M := by
          unfold sp5
          by_cases e4 : idx = 4
          · rw [if_pos e4, if_pos (by rw [e4]; decide)]
          · rw [if_neg e4, if_neg (show ¬ (4 : Int32) ≤ nI idx from nI_ge (b := 4) (by omega) (by omega))]
        refine hsp.trans ?_
        rw [h60]
        by_cases e5 : (tab3.getD idx 0 ≤ vX5 X i idx ∧ vX5 X i idx ≤ tab4.getD idx 0) ∧ atX X (edX X (psX X i idx)) = sp5 idx
        · rw [if_pos e5, if_pos (show ok5 X i idx from ⟨e, e5⟩)]
        · rw [if_neg e5, if_neg (fun z : ok5 X i idx => e5 z.2)]
      · rw [if_neg e, if_pos rfl, if_neg (fun z : ok5 X i idx => e z.1)]
    rw [step]
    refine ⟨fun hall => ?_, fun ⟨j, h1, h2, h3⟩ => ?_⟩
    · rw [if_pos (hall idx (by omega) (by omega))]
      obtain ⟨M', g1, g2, g3⟩ := ihA (fun j h1 h2 => hall j (by omega) h2)
      refine ⟨M', g1, hM2.tr g2, fun j hj => ?_⟩
      rw [g3 j hj, mI_uI, if_pos rfl]
      by_cases e : j = idx
      · subst e; rw [if_neg (by omega), if_pos (by omega), upd_eq]
      · rw [upd_ne e]
        by_cases e2 : idx ≤ j
        · rw [if_pos (by omega), if_pos e2]
        · rw [if_neg (by omega), if_neg e2]
    · by_cases e : ok5 X i idx
      · rw [if_pos e]
        obtain ⟨M', g1, g2⟩ := ihB ⟨j, by
          rcases Nat.lt_or_ge idx j with z | z
          · exact z
          · exact absurd ((show idx = j by omega) ▸ e) h3, h2, h3⟩
        exact ⟨M', g1, hM2.tr g2⟩
      · rw [if_neg e]
        exact ⟨M, rfl, Fr.rf⟩
