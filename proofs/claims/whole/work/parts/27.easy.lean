/-! numbers that are told -/
def InR (a b : Nat) (x : Int32) : Prop := ∃ k, a ≤ k ∧ k ≤ b ∧ x = nI k
theorem InR_iff {a b : Nat} {x : Int32} (hb : b < 2 ^ 31) (ha : a < 2 ^ 31) : InR a b x ↔ nI a ≤ x ∧ x ≤ nI b := by
  constructor
  · rintro ⟨k, h1, h2, rfl⟩
    exact ⟨nI_le h1 (by omega), nI_le h2 (by omega)⟩
  · rintro ⟨h1, h2⟩
    have h0 : ¬ x < 0 := by
      intro h
      rw [Int32.lt_iff_toInt_lt] at h
      rw [Int32.le_iff_toInt_le, nI_toInt ha] at h1
      have : (0 : Int32).toInt = 0 := rfl
      omega
    obtain ⟨j, hj, rfl⟩ := nI_of h0
    rw [nI_leI (by omega) (by omega)] at h1 h2
    exact ⟨j, h1, h2, rfl⟩
theorem out_t (a b : Nat) (A B : Int32) {x : Int32} (h : InR a b x) (hb : b < 2 ^ 31 := by decide) (ha : a < 2 ^ 31 := by decide) (eA : A = nI a := by rfl) (eB : B = nI b := by rfl) : F_X6_outside x A B = some 0 := by
  have h1 := (InR_iff hb ha).mp h
  unfold F_X6_outside
  rw [eA, eB, if_neg (Int32.not_lt.mpr h1.1), if_pos h1.2]
theorem out_f (a b : Nat) (A B : Int32) {x : Int32} (h : ¬ InR a b x) (hb : b < 2 ^ 31 := by decide) (ha : a < 2 ^ 31 := by decide) (eA : A = nI a := by rfl) (eB : B = nI b := by rfl) : F_X6_outside x A B = some 1 := by
  unfold F_X6_outside F_X6_outside_10
  rw [eA, eB]
  split
  · rfl
  · rename_i h1
    rw [if_neg]
    exact fun h2 => h ((InR_iff hb ha).mpr ⟨Int32.not_lt.mp h1, h2⟩)
theorem in_t (a b : Nat) (A B : Int32) {x : Int32} (h : InR a b x) (hb : b < 2 ^ 31 := by decide) (ha : a < 2 ^ 31 := by decide) (eA : A = nI a := by rfl) (eB : B = nI b := by rfl) : F_X7_in x A B = some 1 := by
  have h1 := (InR_iff hb ha).mp h
  unfold F_X7_in
  rw [eA, eB, if_neg (Int32.not_lt.mpr h1.1), if_neg (Int32.not_lt.mpr h1.2)]
theorem in_f (a b : Nat) (A B : Int32) {x : Int32} (h : ¬ InR a b x) (hb : b < 2 ^ 31 := by decide) (ha : a < 2 ^ 31 := by decide) (eA : A = nI a := by rfl) (eB : B = nI b := by rfl) : F_X7_in x A B = some 0 := by
  unfold F_X7_in
  rw [eA, eB]
  split
  · rfl
  · rename_i h1
    rw [if_pos]
    exact Int32.not_le.mp fun h2 => h ((InR_iff hb ha).mpr ⟨Int32.not_lt.mp h1, h2⟩)
theorem rN0 : rN .boolean 0 = some 0 := by rfl
theorem rN1 : rN .boolean 1 = some 1 := by rfl
theorem nI_m1 {n : Nat} (h : 1 ≤ n) : nI n - 1 = nI (n - 1) := by
  obtain ⟨k, rfl⟩ : ∃ k, n = k + 1 := ⟨n - 1, by omega⟩
  exact nI_pred k
/-! persons -/
def IsP (T : Tn) (x : Int32) : Prop := ∃ p, p < tN T ∧ x = nI p
theorem IsP_in {T : Tn} {x : Int32} (h1 : 1 ≤ tN T) : IsP T x ↔ InR 0 (tN T - 1) x := ⟨fun ⟨p, h, e⟩ => ⟨p, Nat.zero_le _, by omega, e⟩, fun ⟨p, _, h, e⟩ => ⟨p, by omega, e⟩⟩
section Easy
variable {M : Mem} {G : Sg}
theorem CI.sh (h : CI M G) : CSh M := h.1
theorem CI.ta (h : CI M G) : TA M 9 (gT G) := h.2.2.1
theorem CI.r1 (h : CI M G) : fR M 6 5 1 = some 9 := h.1.f rfl
theorem CI.c (h : CI M G) : chkT M 6 5 = some () := h.1.c
theorem CI.noP_t (h : CI M G) (hG : GOk G) {x : Int32} (hp : IsP (gT G) x) : F_X6_noPerson 5 x M = some 0 := by
  have h1 := hG.2.2.1.1
  have h7 := hG.2.2.1.2.1
  unfold F_X6_noPerson
  simp only [h.r1, Option.bind_some, h.ta.ck, town_size h.ta]
  rw [out_t 0 (tN (gT G) - 1) 0 (nI (tN (gT G)) - 1) ((IsP_in h1).mp hp) (by omega) (by decide) rfl (nI_m1 h1)]
  rfl
theorem CI.noP_f (h : CI M G) (hG : GOk G) {x : Int32} (hp : ¬ IsP (gT G) x) : F_X6_noPerson 5 x M = some 1 := by
  have h1 := hG.2.2.1.1
  have h7 := hG.2.2.1.2.1
  unfold F_X6_noPerson
  simp only [h.r1, Option.bind_some, h.ta.ck, town_size h.ta]
  rw [out_f 0 (tN (gT G) - 1) 0 (nI (tN (gT G)) - 1) (fun q => hp ((IsP_in h1).mpr q)) (by omega) (by decide) rfl (nI_m1 h1)]
  rfl
theorem RI.isP_t (h : RI M G) (hG : GOk G) {x : Int32} (hp : IsP (gT G) x) : F_X7_isPerson 100 x M = some 1 := by
  have h1 := hG.2.2.1.1
  have h7 := hG.2.2.1.2.1
  unfold F_X7_isPerson
  simp only [h.1.n, Option.bind_some]
  rw [in_t 0 (tN (gT G) - 1) 0 (nI (tN (gT G)) - 1) ((IsP_in h1).mp hp) (by omega) (by decide) rfl (nI_m1 h1)]
  rfl
theorem RI.isP_f (h : RI M G) (hG : GOk G) {x : Int32} (hp : ¬ IsP (gT G) x) : F_X7_isPerson 100 x M = some 0 := by
  have h1 := hG.2.2.1.1
  have h7 := hG.2.2.1.2.1
  unfold F_X7_isPerson
  simp only [h.1.n, Option.bind_some]
  rw [in_f 0 (tN (gT G) - 1) 0 (nI (tN (gT G)) - 1) (fun q => hp ((IsP_in h1).mpr q)) (by omega) (by decide) rfl (nI_m1 h1)]
  rfl
def IsPr (T : Tn) (x y : Int32) : Prop := IsP T x ∧ IsP T y ∧ ¬ x = y
theorem CI.noPr_t (h : CI M G) (hG : GOk G) {x y : Int32} (hp : IsPr (gT G) x y) : F_X6_noPair 5 x y M = some 0 := by
  unfold F_X6_noPair
  simp only [h.c, Option.bind_some, h.noP_t hG hp.1, h.noP_t hG hp.2.1, if_true, if_neg hp.2.2]
theorem CI.noPr_f (h : CI M G) (hG : GOk G) {x y : Int32} (hp : ¬ IsPr (gT G) x y) : F_X6_noPair 5 x y M = some 1 := by
  unfold F_X6_noPair
  have d10 : ¬ (1 : Int32) = 0 := by decide
  by_cases h1 : IsP (gT G) x
  · by_cases h2 : IsP (gT G) y
    · by_cases h3 : x = y
      · simp only [h.c, Option.bind_some, h.noP_t hG h1, h.noP_t hG h2, if_true, if_pos h3, F_X6_noPair_21]
      · exact absurd ⟨h1, h2, h3⟩ hp
    · simp only [h.c, Option.bind_some, h.noP_t hG h1, h.noP_f hG h2, if_true, if_neg d10, F_X6_noPair_21]
  · simp only [h.c, Option.bind_some, h.noP_f hG h1, if_neg d10, F_X6_noPair_21]
end Easy
theorem d10 : ¬ (1 : Int32) = 0 := by decide
/-- a question that changes nothing, on either side -/
def QQ (fc fr : Mem → Option Int32) (G : Sg) : Prop := ∃ r, (∀ M, CI M G → fc M = some r) ∧ ∀ M, RI M G → fr M = some r
/-- the class answers r, and stands for G' then -/
def C_ (r : Int32) (G' : Sg) (o : Option (Int32 × Mem)) (M : Mem) : Prop := ∃ M', o = some (r, M') ∧ CI M' G' ∧ Fr oC M M'
def R_ (r : Int32) (G' : Sg) (o : Option (Int32 × Mem)) (M : Mem) : Prop := ∃ M', o = some (r, M') ∧ RI M' G' ∧ Fr oM M M'
def QM (fc fr : Mem → Option (Int32 × Mem)) (G : Sg) : Prop := ∃ r G', GOk G' ∧ (∀ M, CI M G → C_ r G' (fc M) M) ∧ ∀ M, RI M G → R_ r G' (fr M) M
/-- the class uses its own cells to find out; the reference changes nothing -/
def QC (fc : Mem → Option (Int32 × Mem)) (fr : Mem → Option Int32) (G : Sg) : Prop := ∃ r, (∀ M, CI M G → C_ r G (fc M) M) ∧ ∀ M, RI M G → fr M = some r
def QR (fc : Mem → Option Int32) (fr : Mem → Option (Int32 × Mem)) (G : Sg) : Prop := ∃ r, (∀ M, CI M G → fc M = some r) ∧ ∀ M, RI M G → R_ r G (fr M) M
theorem C_.same {r : Int32} {G : Sg} {M : Mem} (h : CI M G) : C_ r G (some (r, M)) M := ⟨M, rfl, h, Fr.rf⟩
theorem R_.same {r : Int32} {G : Sg} {M : Mem} (h : RI M G) : R_ r G (some (r, M)) M := ⟨M, rfl, h, Fr.rf⟩
theorem q_person {G : Sg} (hG : GOk G) (x y : Int32) : QQ (F_X6_person 5 x y) (F_X7_person 100 x y) G := by
  by_cases hp : IsP (gT G) x
  · by_cases hy : InR 0 4 y
    · obtain ⟨p, hpN, rfl⟩ := id hp
      refine ⟨if y = 0 then tK (gT G) p else if y = 1 then tD (gT G) p else if y = 2 then tW (gT G) p else if y = 3 then tY (gT G) p else tP (gT G) p, fun M h => ?_, fun M h => ?_⟩
      · unfold F_X6_person
        simp only [h.c, h.r1, Option.bind_some, h.noP_t hG hp, if_true, out_t 0 4 0 4 hy, h.ta.ck, town_kindOf h.ta hpN, town_doorOf h.ta hpN, town_widthOf h.ta hpN, town_yardOf h.ta hpN, town_paceOf h.ta hpN]
        repeat' split
        all_goals rfl
      · unfold F_X7_person
        simp only [h.1.ck, Option.bind_some, h.isP_t hG hp, in_t 0 4 0 4 hy, h.1.r1, h.1.r4, h.1.r5, h.1.r6, h.1.r7, h.1.k hpN, h.1.d hpN, h.1.w hpN, h.1.y hpN, h.1.p hpN, if_neg d10]
        repeat' split
        all_goals rfl
    · refine ⟨-1, fun M h => ?_, fun M h => ?_⟩
      · unfold F_X6_person
        simp only [h.c, Option.bind_some, h.noP_t hG hp, if_true, out_f 0 4 0 4 hy, if_neg d10]
      · unfold F_X7_person
        simp only [h.1.ck, Option.bind_some, h.isP_t hG hp, in_f 0 4 0 4 hy, if_neg d10, if_true]
  · refine ⟨-1, fun M h => ?_, fun M h => ?_⟩
    · unfold F_X6_person
      simp only [h.c, Option.bind_some, h.noP_f hG hp, if_neg d10]
    · unfold F_X7_person
      simp only [h.1.ck, Option.bind_some, h.isP_f hG hp, if_true]
theorem ref_pair_f {M : Mem} {G : Sg} (h : RI M G) (hG : GOk G) {x y : Int32} (hp : ¬ IsPr (gT G) x y) : (F_X7_isPerson 100 x M = some 0) ∨ (F_X7_isPerson 100 x M = some 1 ∧ F_X7_isPerson 100 y M = some 0) ∨ (F_X7_isPerson 100 x M = some 1 ∧ F_X7_isPerson 100 y M = some 1 ∧ x = y) := by
  by_cases h1 : IsP (gT G) x
  · by_cases h2 : IsP (gT G) y
    · by_cases h3 : x = y
      · exact Or.inr (Or.inr ⟨h.isP_t hG h1, h.isP_t hG h2, h3⟩)
      · exact absurd ⟨h1, h2, h3⟩ hp
    · exact Or.inr (Or.inl ⟨h.isP_t hG h1, h.isP_f hG h2⟩)
  · exact Or.inl (h.isP_f hG h1)
theorem q_near {G : Sg} (hG : GOk G) (x y : Int32) : QQ (F_X6_near 5 x y) (F_X7_near 100 x y) G := by
  by_cases hp : IsPr (gT G) x y
  · obtain ⟨⟨p, hpN, rfl⟩, ⟨q, hqN, rfl⟩, hne⟩ := id hp
    refine ⟨btw (gT G) p q, fun M h => ?_, fun M h => ?_⟩
    · unfold F_X6_near
      simp only [h.c, h.r1, Option.bind_some, h.noPr_t hG hp, if_true, h.ta.ck, town_between h.ta hpN hqN]
    · unfold F_X7_near
      simp only [h.1.ck, Option.bind_some, h.isP_t hG hp.1, h.isP_t hG hp.2.1, if_neg d10, if_neg hne, ref_meets h.1 hpN hqN, ref_isAbout h.1 hpN hqN]
      rw [isA_btw]
      rcases btw_3 (gT G) p q with e | ⟨e, -⟩ | ⟨e, -⟩ <;> rw [e] <;> rfl
  · refine ⟨-1, fun M h => ?_, fun M h => ?_⟩
    · unfold F_X6_near
      simp only [h.c, Option.bind_some, h.noPr_f hG hp, if_neg d10]
    · unfold F_X7_near
      rcases ref_pair_f h hG hp with e | ⟨e, e2⟩ | ⟨e, e2, e3⟩
      · simp only [h.1.ck, Option.bind_some, e, if_true]
      · simp only [h.1.ck, Option.bind_some, e, e2, if_neg d10, if_true]
      · simp only [h.1.ck, Option.bind_some, e, e2, if_neg d10, if_pos e3]
theorem noD_t {x : Int32} (h : InR 0 5 x) : F_X6_noDoor x = some 0 := by
  unfold F_X6_noDoor
  rw [out_t 0 5 0 5 h]
  rfl
theorem noD_f {x : Int32} (h : ¬ InR 0 5 x) : F_X6_noDoor x = some 1 := by
  unfold F_X6_noDoor
  rw [out_f 0 5 0 5 h]
  rfl
theorem isD_t {x : Int32} (h : InR 0 5 x) : F_X7_isDoor x = some 1 := by
  unfold F_X7_isDoor
  rw [in_t 0 5 0 5 h]
  rfl
theorem isD_f {x : Int32} (h : ¬ InR 0 5 x) : F_X7_isDoor x = some 0 := by
  unfold F_X7_isDoor
  rw [in_f 0 5 0 5 h]
  rfl
theorem q_about {G : Sg} (hG : GOk G) (x : Int32) : QQ (F_X6_about 5 x) (F_X7_about 100 x) G := by
  by_cases hd : InR 0 5 x
  · refine ⟨goB (gT G) x, fun M h => ?_, fun M h => ?_⟩
    · unfold F_X6_about
      simp only [noD_t hd, Option.bind_some, if_true, h.r1, h.ta.ck, town_goers h.ta]
    · unfold F_X7_about
      simp only [isD_t hd, Option.bind_some, if_neg d10, h.1.ck, ref_thoseAbout h.1]
  · refine ⟨-1, fun M h => ?_, fun M h => ?_⟩
    · unfold F_X6_about
      simp only [noD_f hd, Option.bind_some, if_neg d10]
    · unfold F_X7_about
      simp only [isD_f hd, Option.bind_some, if_true]
/-- the reference's yard behind some days, for the kind and pace that stand in its rows -/
theorem ref_yardBehind {M : Mem} {T : Tn} (h : RA M T) {n p : Nat} (hn : n ≤ 1000) (hp : p < tN T) : F_X7_yardBehind 100 (nI p) (nI n) M = some (yB T n p (tK T p) (tP T p)) := by
  unfold F_X7_yardBehind yB
  simp only [h.r4, h.r6, Option.bind_some, h.d hp, h.y hp]
  split
  · rfl
  · have key : ∀ (j i f : Nat) (y : Int32), i + j = n → j < f → F_X7_yardBehind_28 M f 100 (nI p) (nI n) y (nI i) = some (itr (fun i y => jrem (y + gO (tDy T + nI i) (tK T p) (tP T p)) 12) j i y) := by
      intro j
      induction j with
      | zero =>
        intro i f y hi hf
        obtain ⟨f, rfl, -⟩ := fu_get hf
        simp only [F_X7_yardBehind_28]
        rw [if_pos (nI_le (by omega) (by omega))]
        rfl
      | succ j ih =>
        intro i f y hi hf
        obtain ⟨f, rfl, hf⟩ := fu_get hf
        simp only [F_X7_yardBehind_28]
        rw [if_neg (nI_ge (by omega) (by omega))]
        simp only [Option.bind_some, h.dy, h.r1, h.r7, h.k hp, h.p hp, ref_goes]
        rw [nI_1, ih _ _ _ (by omega) (by omega)]
        rfl
    exact key n 0 FU _ (by omega) (by unfold FU; omega)
