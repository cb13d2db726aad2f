/-! THE LAW'S LOOP -/
def LA (L : Nat) (xs : Nat → Int32) (M : Mem) : Prop := mS M 1 = (13, L) ∧ ∀ j, j < L → mI M 1 j = xs j
theorem LA.fr {L : Nat} {xs : Nat → Int32} {M M' : Mem} {S : Nat → Prop} (h : LA L xs M) (hf : Fr S M M') (hS : ¬ S 1) : LA L xs M' := ⟨by rw [hf.s]; exact h.1, by rw [hf.i hS]; exact h.2⟩
theorem LA.ld {L : Nat} {xs : Nat → Int32} {M : Mem} (h : LA L xs M) {i : Nat} (c : Nat) {C : Int32} (hL : L ≤ 384) (hi : i + c < L) (hC : C = nI c := by rfl) : ldI M 1 (nI i + C) = some (xs (i + c)) := by
  rw [hC, nI_add, ldI_13 h.1 hi (by omega), h.2 _ hi]
theorem LA.l0 {L : Nat} {xs : Nat → Int32} {M : Mem} (h : LA L xs M) {i : Nat} (hL : L ≤ 384) (hi : i < L) : ldI M 1 (nI i) = some (xs i) := by
  rw [ldI_13 h.1 hi (by omega), h.2 _ hi]
def LI (L : Nat) (xs : Nat → Int32) (M : Mem) (G : Sg) : Prop := LA L xs M ∧ CI M G ∧ RI M G ∧ GOk G
theorem n1C : ¬ oC 1 := by unfold oC; omega
theorem n1M : ¬ oM 1 := by unfold oM; omega
section Seg
variable {L : Nat} {xs : Nat → Int32} {M : Mem} {G : Sg}
theorem seg_m {fc fr : Mem → Option (Int32 × Mem)} (q : QM fc fr G) (h : LI L xs M G) : ∃ r M1 M2 G', fc M = some (r, M1) ∧ fr M1 = some (r, M2) ∧ LA L xs M1 ∧ chkT M1 7 100 = some () ∧ LI L xs M2 G' := by
  obtain ⟨r, G', hG', hc, hr⟩ := q
  obtain ⟨h1, h2, h3, h4⟩ := h
  obtain ⟨M1, a1, a2, a3⟩ := hc M h2
  have k3 : RI M1 G := h3.fr a3 (fun a ha hb => by unfold oM at ha; unfold oC at hb; omega)
  obtain ⟨M2, b1, b2, b3⟩ := hr M1 k3
  exact ⟨r, M1, M2, G', a1, b1, h1.fr a3 n1C, k3.1.ck, (h1.fr a3 n1C).fr b3 n1M, a2.fr b3 (fun a _ ha hb => by unfold oM at hb; omega), b2, hG'⟩
theorem seg_c {fc : Mem → Option (Int32 × Mem)} {fr : Mem → Option Int32} (q : QC fc fr G) (h : LI L xs M G) : ∃ r M1, fc M = some (r, M1) ∧ fr M1 = some r ∧ chkT M1 7 100 = some () ∧ LI L xs M1 G := by
  obtain ⟨r, hc, hr⟩ := q
  obtain ⟨h1, h2, h3, h4⟩ := h
  obtain ⟨M1, a1, a2, a3⟩ := hc M h2
  have k3 : RI M1 G := h3.fr a3 (fun a ha hb => by unfold oM at ha; unfold oC at hb; omega)
  exact ⟨r, M1, a1, hr M1 k3, k3.1.ck, h1.fr a3 n1C, a2, k3, h4⟩
theorem seg_r {fc : Mem → Option Int32} {fr : Mem → Option (Int32 × Mem)} (q : QR fc fr G) (h : LI L xs M G) : ∃ r M1, fc M = some r ∧ fr M = some (r, M1) ∧ LI L xs M1 G := by
  obtain ⟨r, hc, hr⟩ := q
  obtain ⟨h1, h2, h3, h4⟩ := h
  obtain ⟨M1, b1, b2, b3⟩ := hr M h3
  exact ⟨r, M1, hc M h2, b1, h1.fr b3 n1M, h2.fr b3 (fun a _ ha hb => by unfold oM at hb; omega), b2, h4⟩
theorem seg_q {fc fr : Mem → Option Int32} (q : QQ fc fr G) (h : LI L xs M G) : ∃ r, fc M = some r ∧ fr M = some r := by
  obtain ⟨r, hc, hr⟩ := q
  exact ⟨r, hc M h.2.1, hr M h.2.2.1⟩
end Seg
theorem sub6 {L i : Nat} (hL : L ≤ 384) : (6 * i + 6 ≤ L → ¬ nI L - 6 < nI (6 * i)) ∧ (L < 6 * i + 6 → i ≤ 64 → nI L - 6 < nI (6 * i)) := by
  by_cases e : 6 ≤ L
  · obtain ⟨a, rfl⟩ : ∃ a, L = a + 6 := ⟨L - 6, by omega⟩
    have h1 : nI (a + 6) - 6 = nI a := by
      rw [← nI_add]
      exact Int32.add_sub_cancel _ _
    rw [h1]
    exact ⟨fun h => nI_nlt (by omega) (by omega), fun h _ => nI_lt (by omega) (by omega)⟩
  · have h1 : ∀ L, L < 6 → ∀ i, i < 65 → nI L - 6 < nI (6 * i) := by decide +kernel
    exact ⟨fun h => by omega, fun _ h => h1 L (by omega) i (by omega)⟩
theorem law_loop {L : Nat} {xs : Nat → Int32} (hL : L ≤ 384) : ∀ (k i n : Nat) (M : Mem) (G : Sg), i + k = L / 6 → k < n → LI L xs M G → ∃ M', F_L_law_18 n 1 5 100 (nI (6 * i)) M = some (1, M') := by
  intro k
  induction k with
  | zero =>
    intro i n M G hi hn h
    obtain ⟨n, rfl, -⟩ := fu_get hn
    refine ⟨M, ?_⟩
    simp only [F_L_law_18]
    rw [aLen_13 h.1.1, Option.bind_some, if_pos ((sub6 hL).2 (by omega) (by omega))]
  | succ k ih =>
    intro i n M G hi hn h
    obtain ⟨n, rfl, hn⟩ := fu_get hn
    have h6 : 6 * i + 6 ≤ L := by omega
    have go : ∀ (M1 : Mem) (G1 : Sg), LI L xs M1 G1 → ∃ M', F_L_law_1005 (F_L_law_18 n) 1 5 100 (nI (6 * i)) M1 = some (1, M') := fun M1 G1 h1 => by
      obtain ⟨M', g⟩ := ih (i + 1) n M1 G1 (by omega) (by omega) h1
      refine ⟨M', ?_⟩
      unfold F_L_law_1005
      rw [show (6 : Int32) = nI 6 from rfl, nI_add]
      exact g
    obtain ⟨la, ci, ri, gk⟩ := id h
    have c6 := ci.1.c
    have c7 := ri.1.ck
    simp only [F_L_law_18]
    rw [aLen_13 la.1, Option.bind_some, if_neg ((sub6 hL).1 h6), la.l0 hL (by omega), Option.bind_some]
    by_cases e0 : xs (6 * i) &&& 31 = 0
    · obtain ⟨r, M1, M2, G2, a1, a2, a3, a4, a5⟩ := seg_m (m_write gk (xs (6 * i + 1))) h
      obtain ⟨M3, g⟩ := go M2 G2 a5
      refine ⟨M3, ?_⟩
      rw [if_pos e0, la.ld 1 hL (by omega), Option.bind_some, c6, Option.bind_some, a1, Option.bind_some, a3.ld 1 hL (by omega), Option.bind_some, a4, Option.bind_some, a2, Option.bind_some, if_pos rfl]
      exact g
    rw [if_neg e0]
    by_cases e1 : xs (6 * i) &&& 31 = 1
    · obtain ⟨r, M1, M2, G2, a1, a2, a3, a4, a5⟩ := seg_m (m_wipe gk) h
      obtain ⟨M3, g⟩ := go M2 G2 a5
      refine ⟨M3, ?_⟩
      rw [if_pos e1, c6, Option.bind_some, a1, Option.bind_some, a4, Option.bind_some, a2, Option.bind_some, if_pos rfl]
      exact g
    rw [if_neg e1]
    by_cases e2 : xs (6 * i) &&& 31 = 2
    · obtain ⟨r, M1, M2, G2, a1, a2, a3, a4, a5⟩ := seg_m (m_fault gk) h
      obtain ⟨M3, g⟩ := go M2 G2 a5
      refine ⟨M3, ?_⟩
      rw [if_pos e2, c6, Option.bind_some, a1, Option.bind_some, a4, Option.bind_some, a2, Option.bind_some, if_pos rfl]
      exact g
    rw [if_neg e2]
    by_cases e3 : xs (6 * i) &&& 31 = 3
    · obtain ⟨r, M1, M2, G2, a1, a2, a3, a4, a5⟩ := seg_m (m_lay gk) h
      obtain ⟨M3, g⟩ := go M2 G2 a5
      refine ⟨M3, ?_⟩
      rw [if_pos e3, c6, Option.bind_some, a1, Option.bind_some, a4, Option.bind_some, a2, Option.bind_some, if_pos rfl]
      exact g
    rw [if_neg e3]
    by_cases e4 : xs (6 * i) &&& 31 = 4
    · obtain ⟨r, a1, a2⟩ := seg_q (q_person gk (xs (6 * i + 1)) (xs (6 * i + 2))) h
      obtain ⟨M3, g⟩ := go M G h
      refine ⟨M3, ?_⟩
      rw [if_pos e4, la.ld 1 hL (by omega), Option.bind_some, la.ld 2 hL (by omega), Option.bind_some, c6, Option.bind_some, a1, Option.bind_some, Option.bind_some, Option.bind_some, c7, Option.bind_some, a2, Option.bind_some, if_pos rfl]
      exact g
    rw [if_neg e4]
    by_cases e5 : xs (6 * i) &&& 31 = 5
    · obtain ⟨r, a1, a2⟩ := seg_q (q_near gk (xs (6 * i + 1)) (xs (6 * i + 2))) h
      obtain ⟨M3, g⟩ := go M G h
      refine ⟨M3, ?_⟩
      rw [if_pos e5, la.ld 1 hL (by omega), Option.bind_some, la.ld 2 hL (by omega), Option.bind_some, c6, Option.bind_some, a1, Option.bind_some, Option.bind_some, Option.bind_some, c7, Option.bind_some, a2, Option.bind_some, if_pos rfl]
      exact g
    rw [if_neg e5]
    by_cases e6 : xs (6 * i) &&& 31 = 6
    · obtain ⟨r, a1, a2⟩ := seg_q (q_about gk (xs (6 * i + 1))) h
      obtain ⟨M3, g⟩ := go M G h
      refine ⟨M3, ?_⟩
      rw [if_pos e6, la.ld 1 hL (by omega), Option.bind_some, c6, Option.bind_some, a1, Option.bind_some, Option.bind_some, c7, Option.bind_some, a2, Option.bind_some, if_pos rfl]
      exact g
    rw [if_neg e6]
    by_cases e7 : xs (6 * i) &&& 31 = 7
    · obtain ⟨r, M1, M2, G2, a1, a2, a3, a4, a5⟩ := seg_m (m_pass gk (xs (6 * i + 1))) h
      obtain ⟨M3, g⟩ := go M2 G2 a5
      refine ⟨M3, ?_⟩
      rw [if_pos e7, la.ld 1 hL (by omega), Option.bind_some, c6, Option.bind_some, a1, Option.bind_some, a3.ld 1 hL (by omega), Option.bind_some, a4, Option.bind_some, a2, Option.bind_some, if_pos rfl]
      exact g
    rw [if_neg e7]
    by_cases e8 : xs (6 * i) &&& 31 = 8
    · obtain ⟨r, M1, M2, G2, a1, a2, a3, a4, a5⟩ := seg_m (m_weave gk (xs (6 * i + 1)) (xs (6 * i + 2)) (xs (6 * i + 3))) h
      obtain ⟨M3, g⟩ := go M2 G2 a5
      refine ⟨M3, ?_⟩
      rw [if_pos e8, la.ld 1 hL (by omega), Option.bind_some, la.ld 2 hL (by omega), Option.bind_some, la.ld 3 hL (by omega), Option.bind_some, c6, Option.bind_some, a1, Option.bind_some, a3.ld 1 hL (by omega), Option.bind_some, a3.ld 2 hL (by omega), Option.bind_some, a3.ld 3 hL (by omega), Option.bind_some, a4, Option.bind_some, a2, Option.bind_some, if_pos rfl]
      exact g
    rw [if_neg e8]
    by_cases e9 : xs (6 * i) &&& 31 = 9
    · obtain ⟨r, M1, M2, G2, a1, a2, a3, a4, a5⟩ := seg_m (m_off gk (xs (6 * i + 1))) h
      obtain ⟨M3, g⟩ := go M2 G2 a5
      refine ⟨M3, ?_⟩
      rw [if_pos e9, la.ld 1 hL (by omega), Option.bind_some, c6, Option.bind_some, a1, Option.bind_some, a3.ld 1 hL (by omega), Option.bind_some, a4, Option.bind_some, a2, Option.bind_some, if_pos rfl]
      exact g
    rw [if_neg e9]
    by_cases e10 : xs (6 * i) &&& 31 = 10
    · obtain ⟨r, M1, M2, G2, a1, a2, a3, a4, a5⟩ := seg_m (m_pace gk (xs (6 * i + 1)) (xs (6 * i + 2))) h
      obtain ⟨M3, g⟩ := go M2 G2 a5
      refine ⟨M3, ?_⟩
      rw [if_pos e10, la.ld 1 hL (by omega), Option.bind_some, la.ld 2 hL (by omega), Option.bind_some, c6, Option.bind_some, a1, Option.bind_some, a3.ld 1 hL (by omega), Option.bind_some, a3.ld 2 hL (by omega), Option.bind_some, a4, Option.bind_some, a2, Option.bind_some, if_pos rfl]
      exact g
    rw [if_neg e10]
    by_cases e11 : xs (6 * i) &&& 31 = 11
    · obtain ⟨r, M1, M2, G2, a1, a2, a3, a4, a5⟩ := seg_m (m_undo gk) h
      obtain ⟨M3, g⟩ := go M2 G2 a5
      refine ⟨M3, ?_⟩
      rw [if_pos e11, c6, Option.bind_some, a1, Option.bind_some, a4, Option.bind_some, a2, Option.bind_some, if_pos rfl]
      exact g
    rw [if_neg e11]
    by_cases e12 : xs (6 * i) &&& 31 = 12
    · obtain ⟨r, a1, a2⟩ := seg_q (q_behind gk (xs (6 * i + 1)) (xs (6 * i + 2))) h
      obtain ⟨M3, g⟩ := go M G h
      refine ⟨M3, ?_⟩
      rw [if_pos e12, la.ld 1 hL (by omega), Option.bind_some, la.ld 2 hL (by omega), Option.bind_some, c6, Option.bind_some, a1, Option.bind_some, Option.bind_some, Option.bind_some, c7, Option.bind_some, a2, Option.bind_some, if_pos rfl]
      exact g
    rw [if_neg e12]
    by_cases e13 : xs (6 * i) &&& 31 = 13
    · obtain ⟨r, M1, a1, a2, a4, a5⟩ := seg_c (q_first gk (xs (6 * i + 1)) (xs (6 * i + 2))) h
      obtain ⟨M3, g⟩ := go M1 G a5
      refine ⟨M3, ?_⟩
      rw [if_pos e13, la.ld 1 hL (by omega), Option.bind_some, la.ld 2 hL (by omega), Option.bind_some, c6, Option.bind_some, a1, Option.bind_some, a5.1.ld 1 hL (by omega), Option.bind_some, a5.1.ld 2 hL (by omega), Option.bind_some, a4, Option.bind_some, a2, Option.bind_some, if_pos rfl]
      exact g
    rw [if_neg e13]
    by_cases e14 : xs (6 * i) &&& 31 = 14
    · obtain ⟨r, M1, M2, G2, a1, a2, a3, a4, a5⟩ := seg_m (m_all gk (xs (6 * i + 1))) h
      obtain ⟨M3, g⟩ := go M2 G2 a5
      refine ⟨M3, ?_⟩
      rw [if_pos e14, la.ld 1 hL (by omega), Option.bind_some, c6, Option.bind_some, a1, Option.bind_some, a3.ld 1 hL (by omega), Option.bind_some, a4, Option.bind_some, a2, Option.bind_some, if_pos rfl]
      exact g
    rw [if_neg e14]
    by_cases e15 : xs (6 * i) &&& 31 = 15
    · obtain ⟨r, M1, a1, a2, a5⟩ := seg_r (q_paces gk (xs (6 * i + 1)) (xs (6 * i + 2)) (xs (6 * i + 3))) h
      obtain ⟨M3, g⟩ := go M1 G a5
      refine ⟨M3, ?_⟩
      rw [if_pos e15, la.ld 1 hL (by omega), Option.bind_some, la.ld 2 hL (by omega), Option.bind_some, la.ld 3 hL (by omega), Option.bind_some, c6, Option.bind_some, a1, Option.bind_some, Option.bind_some, Option.bind_some, Option.bind_some, c7, Option.bind_some, a2, Option.bind_some, if_pos rfl]
      exact g
    rw [if_neg e15]
    by_cases e16 : xs (6 * i) &&& 31 = 16
    · obtain ⟨r, M1, a1, a2, a4, a5⟩ := seg_c (q_shy gk (xs (6 * i + 1))) h
      obtain ⟨M3, g⟩ := go M1 G a5
      refine ⟨M3, ?_⟩
      rw [if_pos e16, la.ld 1 hL (by omega), Option.bind_some, c6, Option.bind_some, a1, Option.bind_some, a5.1.ld 1 hL (by omega), Option.bind_some, a4, Option.bind_some, a2, Option.bind_some, if_pos rfl]
      exact g
    rw [if_neg e16]
    by_cases e17 : xs (6 * i) &&& 31 = 17
    · obtain ⟨r, M1, M2, G2, a1, a2, a3, a4, a5⟩ := seg_m (m_spread gk (xs (6 * i + 1)) (xs (6 * i + 2))) h
      obtain ⟨M3, g⟩ := go M2 G2 a5
      refine ⟨M3, ?_⟩
      rw [if_pos e17, la.ld 1 hL (by omega), Option.bind_some, la.ld 2 hL (by omega), Option.bind_some, c6, Option.bind_some, a1, Option.bind_some, a3.ld 1 hL (by omega), Option.bind_some, a3.ld 2 hL (by omega), Option.bind_some, a4, Option.bind_some, a2, Option.bind_some, if_pos rfl]
      exact g
    rw [if_neg e17]
    by_cases e18 : xs (6 * i) &&& 31 = 18
    · obtain ⟨r, a1, a2⟩ := seg_q (q_dear gk (xs (6 * i + 1))) h
      obtain ⟨M3, g⟩ := go M G h
      refine ⟨M3, ?_⟩
      rw [if_pos e18, la.ld 1 hL (by omega), Option.bind_some, c6, Option.bind_some, a1, Option.bind_some, Option.bind_some, c7, Option.bind_some, a2, Option.bind_some, if_pos rfl]
      exact g
    rw [if_neg e18]
    by_cases e19 : xs (6 * i) &&& 31 = 19
    · obtain ⟨r, M1, M2, G2, a1, a2, a3, a4, a5⟩ := seg_m (m_seen gk (xs (6 * i + 1)) (xs (6 * i + 2)) (xs (6 * i + 3))) h
      obtain ⟨M3, g⟩ := go M2 G2 a5
      refine ⟨M3, ?_⟩
      rw [if_pos e19, la.ld 1 hL (by omega), Option.bind_some, la.ld 2 hL (by omega), Option.bind_some, la.ld 3 hL (by omega), Option.bind_some, c6, Option.bind_some, a1, Option.bind_some, a3.ld 1 hL (by omega), Option.bind_some, a3.ld 2 hL (by omega), Option.bind_some, a3.ld 3 hL (by omega), Option.bind_some, a4, Option.bind_some, a2, Option.bind_some, if_pos rfl]
      exact g
    rw [if_neg e19]
    by_cases e20 : xs (6 * i) &&& 31 = 20
    · obtain ⟨r, M1, a1, a2, a5⟩ := seg_r (q_kinds gk (xs (6 * i + 1))) h
      obtain ⟨M3, g⟩ := go M1 G a5
      refine ⟨M3, ?_⟩
      rw [if_pos e20, la.ld 1 hL (by omega), Option.bind_some, c6, Option.bind_some, a1, Option.bind_some, Option.bind_some, c7, Option.bind_some, a2, Option.bind_some, if_pos rfl]
      exact g
    rw [if_neg e20]
    by_cases e21 : xs (6 * i) &&& 31 = 21
    · obtain ⟨r, M1, a1, a2, a5⟩ := seg_r (q_speeds gk (xs (6 * i + 1))) h
      obtain ⟨M3, g⟩ := go M1 G a5
      refine ⟨M3, ?_⟩
      rw [if_pos e21, la.ld 1 hL (by omega), Option.bind_some, c6, Option.bind_some, a1, Option.bind_some, Option.bind_some, c7, Option.bind_some, a2, Option.bind_some, if_pos rfl]
      exact g
    rw [if_neg e21]
    by_cases e22 : xs (6 * i) &&& 31 = 22
    · obtain ⟨r, M1, M2, G2, a1, a2, a3, a4, a5⟩ := seg_m (m_told gk (xs (6 * i + 1)) (xs (6 * i + 2))) h
      obtain ⟨M3, g⟩ := go M2 G2 a5
      refine ⟨M3, ?_⟩
      rw [if_pos e22, la.ld 1 hL (by omega), Option.bind_some, la.ld 2 hL (by omega), Option.bind_some, c6, Option.bind_some, a1, Option.bind_some, a3.ld 1 hL (by omega), Option.bind_some, a3.ld 2 hL (by omega), Option.bind_some, a4, Option.bind_some, a2, Option.bind_some, if_pos rfl]
      exact g
    rw [if_neg e22]
    by_cases e23 : xs (6 * i) &&& 31 = 23
    · obtain ⟨r, a1, a2⟩ := seg_q (q_rings gk (xs (6 * i + 1))) h
      obtain ⟨M3, g⟩ := go M G h
      refine ⟨M3, ?_⟩
      rw [if_pos e23, la.ld 1 hL (by omega), Option.bind_some, c6, Option.bind_some, a1, Option.bind_some, Option.bind_some, c7, Option.bind_some, a2, Option.bind_some, if_pos rfl]
      exact g
    rw [if_neg e23]
    by_cases e24 : xs (6 * i) &&& 31 = 24
    · obtain ⟨r, M1, a1, a2, a4, a5⟩ := seg_c (q_look gk (xs (6 * i + 1))) h
      obtain ⟨M3, g⟩ := go M1 G a5
      refine ⟨M3, ?_⟩
      rw [if_pos e24, la.ld 1 hL (by omega), Option.bind_some, c6, Option.bind_some, a1, Option.bind_some, a5.1.ld 1 hL (by omega), Option.bind_some, a4, Option.bind_some, a2, Option.bind_some, if_pos rfl]
      exact g
    rw [if_neg e24]
    by_cases e25 : xs (6 * i) &&& 31 = 25
    · obtain ⟨r, M1, M2, G2, a1, a2, a3, a4, a5⟩ := seg_m (m_forget gk) h
      obtain ⟨M3, g⟩ := go M2 G2 a5
      refine ⟨M3, ?_⟩
      rw [if_pos e25, c6, Option.bind_some, a1, Option.bind_some, a4, Option.bind_some, a2, Option.bind_some, if_pos rfl]
      exact g
    rw [if_neg e25]
    by_cases e26 : xs (6 * i) &&& 31 = 26
    · obtain ⟨r, M1, a1, a2, a4, a5⟩ := seg_c (q_likely gk (xs (6 * i + 1)) (xs (6 * i + 2)) (xs (6 * i + 3)) (xs (6 * i + 4)) (xs (6 * i + 5))) h
      obtain ⟨M3, g⟩ := go M1 G a5
      refine ⟨M3, ?_⟩
      rw [if_pos e26, la.ld 1 hL (by omega), Option.bind_some, la.ld 2 hL (by omega), Option.bind_some, la.ld 3 hL (by omega), Option.bind_some, la.ld 4 hL (by omega), Option.bind_some, la.ld 5 hL (by omega), Option.bind_some, c6, Option.bind_some, a1, Option.bind_some, a5.1.ld 1 hL (by omega), Option.bind_some, a5.1.ld 2 hL (by omega), Option.bind_some, a5.1.ld 3 hL (by omega), Option.bind_some, a5.1.ld 4 hL (by omega), Option.bind_some, a5.1.ld 5 hL (by omega), Option.bind_some, a4, Option.bind_some, a2, Option.bind_some, if_pos rfl]
      exact g
    rw [if_neg e26]
    by_cases e27 : xs (6 * i) &&& 31 = 27
    · obtain ⟨r, M1, M2, G2, a1, a2, a3, a4, a5⟩ := seg_m (m_season gk (xs (6 * i + 1)) (xs (6 * i + 2)) (xs (6 * i + 3))) h
      obtain ⟨M3, g⟩ := go M2 G2 a5
      refine ⟨M3, ?_⟩
      rw [if_pos e27, la.ld 1 hL (by omega), Option.bind_some, la.ld 2 hL (by omega), Option.bind_some, la.ld 3 hL (by omega), Option.bind_some, c6, Option.bind_some, a1, Option.bind_some, a3.ld 1 hL (by omega), Option.bind_some, a3.ld 2 hL (by omega), Option.bind_some, a3.ld 3 hL (by omega), Option.bind_some, a4, Option.bind_some, a2, Option.bind_some, if_pos rfl]
      exact g
    rw [if_neg e27]
    by_cases e28 : xs (6 * i) &&& 31 = 28
    · obtain ⟨r, M1, M2, G2, a1, a2, a3, a4, a5⟩ := seg_m (m_keep gk) h
      obtain ⟨M3, g⟩ := go M2 G2 a5
      refine ⟨M3, ?_⟩
      rw [if_pos e28, c6, Option.bind_some, a1, Option.bind_some, a4, Option.bind_some, a2, Option.bind_some, if_pos rfl]
      exact g
    rw [if_neg e28]
    by_cases e29 : xs (6 * i) &&& 31 = 29
    · obtain ⟨r, M1, M2, G2, a1, a2, a3, a4, a5⟩ := seg_m (m_back gk) h
      obtain ⟨M3, g⟩ := go M2 G2 a5
      refine ⟨M3, ?_⟩
      rw [if_pos e29, c6, Option.bind_some, a1, Option.bind_some, a4, Option.bind_some, a2, Option.bind_some, if_pos rfl]
      exact g
    rw [if_neg e29]
    by_cases e30 : xs (6 * i) &&& 31 = 30
    · obtain ⟨r, a1, a2⟩ := seg_q (q_count gk (xs (6 * i + 1))) h
      obtain ⟨M3, g⟩ := go M G h
      refine ⟨M3, ?_⟩
      rw [if_pos e30, la.ld 1 hL (by omega), Option.bind_some, c6, Option.bind_some, a1, Option.bind_some, Option.bind_some, c7, Option.bind_some, a2, Option.bind_some, if_pos rfl]
      exact g
    rw [if_neg e30]
    exact go M G h
theorem TA.nf {M M' : Mem} {o q : Nat} {T : Tn} (h : TA M o T) (hf : FrN q M M') (hq : o + 6 ≤ q) : TA M' o T := by
  have e := (hf o (by omega)).2.1
  refine ⟨h.1.nf hf hq, h.2.1, by rw [e]; exact h.2.2.1, by rw [e]; exact h.2.2.2.1, by rw [e]; exact h.2.2.2.2.1, fun i hi j hj => ?_⟩
  rw [(hf (o + 1 + i) (by omega)).2.1]
  exact h.2.2.2.2.2 i hi j hj
theorem CPl.nf {M M' : Mem} {o b c n q : Nat} {U : Nat → Tn} (h : CPl M o b c n U) (hf : FrN q M M') (h1 : o + 1 < q) (h2 : b + 6 * c ≤ q) : CPl M' o b c n U := by
  have e := (hf (o + 1) (by omega)).2.2
  refine ⟨by rw [(hf o (by omega)).2.1]; exact h.1, h.2.1, by rw [e]; exact h.2.2.1, by rw [e]; exact h.2.2.2.1, fun i hi => ?_⟩
  rw [e]
  refine (h.2.2.2.2 i hi).nf hf ?_
  obtain ⟨k, hk, hk2⟩ := h.2.2.1 i (Nat.lt_of_lt_of_le hi h.2.1)
  rw [hk2]
  omega
theorem CNt.nf {M M' : Mem} {o n q : Nat} {w d y : Nat → Int32} (h : CNt M o n w d y) (hf : FrN q M M') (h1 : o + 3 < q) : CNt M' o n w d y := ⟨by rw [(hf o (by omega)).2.1]; exact h.1, fun j hj => by rw [(hf (o + 1) (by omega)).2.1, (hf (o + 2) (by omega)).2.1, (hf (o + 3) (by omega)).2.1]; exact h.2 j hj⟩
theorem CI.nf {M M' : Mem} {G : Sg} (h : CI M G) (hf : FrN 100 M M') : CI M' G := by
  obtain ⟨⟨s1, s2, s3, s4, s5⟩, h2, h3, h4, h5, h6, ⟨w, h7⟩, h8⟩ := h
  have l1 : ∀ q ∈ shT, q.1 < 100 := by decide
  have l2 : ∀ q ∈ rfT, q.1 < 100 := by decide
  have l3 : ∀ o ∈ twT, o + 6 ≤ 100 := by decide
  refine ⟨⟨fun q hq => by rw [(hf q.1 (l1 q hq)).1]; exact s1 q hq, fun q hq => by rw [(hf q.1 (l2 q hq)).2.2]; exact s2 q hq, fun o ho => (s3 o ho).nf hf (l3 o ho), ⟨by rw [(hf 3 (by omega)).1]; exact s4.1, by rw [(hf 4 (by omega)).1]; exact s4.2⟩, fun j hj => by rw [(hf 3 (by omega)).2.1, (hf 4 (by omega)).2.1]; exact s5 j hj⟩, ⟨by rw [(hf 6 (by omega)).2.1]; exact h2.1, fun j hj => by rw [(hf 7 (by omega)).2.1]; exact h2.2 j hj⟩, h3.nf hf (by omega), h4.nf hf (by omega) (by omega), h5.nf hf (by omega) (by omega), h6.nf hf (by omega), ⟨w, h7.nf hf (by omega)⟩, ?_⟩
  rw [(hf 96 (by omega)).2.2]
  exact h8
theorem law_pure (L : Nat) (xs : Nat → Int32) (hL : L ≤ 384) : ∃ M1, F_L_law 1 (M0 L xs) = some (1, M1) := by
  obtain ⟨A, a1, a2, a3, a4⟩ := c_init (M := M0 L xs) rfl rfl (fun j _ => rfl) rfl rfl (fun j _ => ⟨rfl, rfl⟩)
  obtain ⟨B, b1, b2, b3⟩ := r_init a2
  have la : LA L xs B := ⟨by rw [(b3 1 (by omega)).1, (a4 1 (by omega)).1]; rfl, fun j _ => by rw [(b3 1 (by omega)).2.1, (a4 1 (by omega)).2.1]; rfl⟩
  have ci : CI B G0 := a3.nf b3
  obtain ⟨M1, g⟩ := law_loop hL (L / 6) 0 FU B G0 (by omega) (FU_gt (by omega)) ⟨la, ci, b2, G0_ok⟩
  refine ⟨M1, ?_⟩
  unfold F_L_law
  rw [show mN (M0 L xs) = 5 from rfl, chkT_of (new_at (t := 6) (n := 10) (M := M0 L xs) (o := 5) rfl).2.1, Option.bind_some, a1, Option.bind_some, a2, chkT_of (new_at (t := 7) (n := 30) a2).2.1, Option.bind_some, b1, Option.bind_some]
  exact g
