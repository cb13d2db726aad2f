theorem dear_key {G : Sg} (hG : GOk G) (x : Int32) : ∀ (k : Nat) (p n n' : Nat) (a b : Int32), p + k = 6 → k < n → k < n' → ∃ r, (∀ M, CI M G → F_X6_dear_18 M n 5 x a b (nI p) = some r) ∧ ∀ M, RI M G → F_X7_dear_18 M n' 100 x a b (nI p) = some r := by
  have h7 := hG.2.2.1.2.1
  intro k
  induction k with
  | zero =>
    intro p n n' a b hp hn hn'
    obtain ⟨n, rfl, -⟩ := fu_get hn
    obtain ⟨n', rfl, -⟩ := fu_get hn'
    have hp6 : p = 6 := by omega
    subst hp6
    refine ⟨if x = 0 then a else b, fun M h => ?_, fun M h => ?_⟩
    · simp only [F_X6_dear_18]
      rw [if_pos (show (6 : Int32) ≤ nI 6 by decide)]
      split <;> rfl
    · simp only [F_X7_dear_18]
      rw [if_pos (show (6 : Int32) ≤ nI 6 by decide)]
      split <;> rfl
  | succ k ih =>
    intro p n n' a b hp hn hn'
    obtain ⟨n, rfl, hn⟩ := fu_get hn
    obtain ⟨n', rfl, hn'⟩ := fu_get hn'
    have h6 : ¬ (6 : Int32) ≤ nI p := nI_ge (a := p) (b := 6) (by omega) (by decide)
    by_cases hc : abt (gT G) (nI p) ≤ b
    · obtain ⟨r, r1, r2⟩ := ih (p + 1) n n' a b (by omega) (by omega) (by omega)
      refine ⟨r, fun M h => ?_, fun M h => ?_⟩
      · simp only [F_X6_dear_18]
        rw [if_neg h6, h.r1, Option.bind_some, h.ta.ck, Option.bind_some, town_goers h.ta, Option.bind_some, (pop_go (gT G) (nI p) h7).1, Option.bind_some, if_pos hc, F_X6_dear_51, nI_1]
        exact r1 M h
      · simp only [F_X7_dear_18]
        rw [if_neg h6, h.1.ck, Option.bind_some, ref_thoseAbout h.1, Option.bind_some, (pop_go (gT G) (nI p) h7).2, Option.bind_some, if_pos hc, F_X7_dear_48, if_pos hc, F_X7_dear_61, nI_1]
        exact r2 M h
    · obtain ⟨r, r1, r2⟩ := ih (p + 1) n n' (nI p) (abt (gT G) (nI p)) (by omega) (by omega) (by omega)
      refine ⟨r, fun M h => ?_, fun M h => ?_⟩
      · simp only [F_X6_dear_18]
        rw [if_neg h6, h.r1, Option.bind_some, h.ta.ck, Option.bind_some, town_goers h.ta, Option.bind_some, (pop_go (gT G) (nI p) h7).1, Option.bind_some, if_neg hc, F_X6_dear_51, nI_1]
        exact r1 M h
      · simp only [F_X7_dear_18]
        rw [if_neg h6, h.1.ck, Option.bind_some, ref_thoseAbout h.1, Option.bind_some, (pop_go (gT G) (nI p) h7).2, Option.bind_some, if_neg hc, F_X7_dear_48, if_neg hc, F_X7_dear_61, nI_1]
        exact r2 M h
theorem q_dear {G : Sg} (hG : GOk G) (x : Int32) : QQ (F_X6_dear 5 x) (F_X7_dear 100 x) G := by
  by_cases hx : InR 0 1 x
  · obtain ⟨r, r1, r2⟩ := dear_key hG x 6 0 FU FU 0 0 (by omega) (FU_gt (by decide)) (FU_gt (by decide))
    refine ⟨r, fun M h => ?_, fun M h => ?_⟩
    · unfold F_X6_dear
      simp only [out_t 0 1 0 1 hx, Option.bind_some, if_true]
      exact (congrArg (fun z => F_X6_dear_18 M FU 5 x 0 0 z) z0).trans (r1 M h)
    · unfold F_X7_dear
      simp only [in_t 0 1 0 1 hx, Option.bind_some, if_neg d10]
      exact (congrArg (fun z => F_X7_dear_18 M FU 100 x 0 0 z) z0).trans (r2 M h)
  · refine ⟨-1, fun M h => ?_, fun M h => ?_⟩
    · unfold F_X6_dear
      simp only [out_f 0 1 0 1 hx, Option.bind_some, if_neg d10]
    · unfold F_X7_dear
      simp only [in_f 0 1 0 1 hx, Option.bind_some, if_true]
