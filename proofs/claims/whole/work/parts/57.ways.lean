/-! SPREAD, THE REFERENCE: the next width, the ways -/
/-- the guests' cells -/
def WM (M : Mem) (T : Tn) (d : Int32) : Prop := RS M ∧ mI M 100 24 = nI (ngG T d) ∧ ∀ a, a < ngG T d → Bt (mI M 116 a) (fun b => b < ngG T d ∧ ¬ a = b ∧ cfG T d a b = true)
theorem WM.fr {M M' : Mem} {T : Tn} {d : Int32} (h : WM M T d) (hf : Fr (fun a => a = 117) M M') : WM M' T d := by
  refine ⟨h.1.fm hf, ?_, ?_⟩
  · rw [hf.i (by omega)]; exact h.2.1
  · rw [hf.i (by omega)]; exact h.2.2
theorem ngG_7 {T : Tn} (h7 : tN T ≤ 7) (d : Int32) : ngG T d ≤ 7 := Nat.le_trans (ixG_le T d _) h7
theorem r_may {M : Mem} {T : Tn} {d : Int32} (h7 : tN T ≤ 7) (h : WM M T d) {a t : Nat} {w : Nat → Nat} (ha : a < ngG T d) (hw : ∀ b, b < a → mI M 117 b = nI (w b)) (hm : mxW w a ≤ a) (ht : t ≤ 8) (r66 : Nat → Int32 → Int32 → Int32 → Option Int32) (x4 : Int32) : F_X7_nextWidth_79 M r66 FU 100 (nI a) x4 (nI t) 1 0 = if fre (cfG T d) w a t then some (nI t) else r66 100 (nI a) x4 (nI (t + 1)) := by
  have hg := ngG_7 h7 d
  have k0 : ∀ (k b n : Nat), b + k = a → k < n → F_X7_nextWidth_79 M r66 n 100 (nI a) x4 (nI t) 0 (nI b) = r66 100 (nI a) x4 (nI (t + 1)) := by
    intro k
    induction k with
    | zero =>
      intro b n hb hn
      obtain ⟨n, rfl, -⟩ := fu_get hn
      simp only [F_X7_nextWidth_79]
      rw [if_pos (nI_le (by omega) (by omega)), if_pos trivial, nI_1]
    | succ k ih =>
      intro b n hb hn
      obtain ⟨n, rfl, hn⟩ := fu_get hn
      simp only [F_X7_nextWidth_79]
      unfold F_X7_nextWidth_120 F_X7_nextWidth_121
      rw [if_neg (nI_ge (by omega) (by omega)), if_pos trivial, nI_1]
      exact ih (b + 1) n (by omega) (by omega)
  have key : ∀ (k b n : Nat), b + k = a → k < n → ((∀ j, b ≤ j → j < a → ¬ (w j = t ∧ cfG T d a j = true)) → F_X7_nextWidth_79 M r66 n 100 (nI a) x4 (nI t) 1 (nI b) = some (nI t)) ∧ ((∃ j, b ≤ j ∧ j < a ∧ w j = t ∧ cfG T d a j = true) → F_X7_nextWidth_79 M r66 n 100 (nI a) x4 (nI t) 1 (nI b) = r66 100 (nI a) x4 (nI (t + 1))) := by
    intro k
    induction k with
    | zero =>
      intro b n hb hn
      obtain ⟨n, rfl, -⟩ := fu_get hn
      refine ⟨fun _ => ?_, fun ⟨j, x, y, _⟩ => by omega⟩
      simp only [F_X7_nextWidth_79]
      rw [if_pos (nI_le (by omega) (by omega)), if_neg d10]
    | succ k ih =>
      intro b n hb hn
      obtain ⟨n, rfl, hn⟩ := fu_get hn
      obtain ⟨i1, i2⟩ := ih (b + 1) n (by omega) (by omega)
      have z := k0 k (b + 1) n (by omega) (by omega)
      have hwb := mxW_le w a b (by omega)
      have ew : nI (w b) = nI t ↔ w b = t := nI_eq (by omega) (by omega)
      simp only [F_X7_nextWidth_79]
      unfold F_X7_nextWidth_116 F_X7_nextWidth_120 F_X7_nextWidth_121
      rw [if_neg (nI_ge (by omega) (by omega)), if_neg d10, h.1.r 26 (a := 115) rfl, Option.bind_some, ldI_nI (h.1.s 26 (a := 115) rfl) (by omega) (by omega), Option.bind_some, nI_1]
      by_cases e : cfG T d a b = true
      · rw [(h.2.2 a ha).has_t (q := b) (by omega) ⟨by omega, by omega, e⟩, Option.bind_some, if_neg d10, h.1.r 27 (a := 116) rfl, Option.bind_some, ldI_nI (h.1.s 27 (a := 116) rfl) (by omega) (by omega), Option.bind_some, hw b (by omega)]
        by_cases e2 : w b = t
        · rw [if_pos (ew.mpr e2)]
          exact ⟨fun y => absurd ⟨e2, e⟩ (y b (by omega) (by omega)), fun _ => z⟩
        · rw [if_neg (fun y => e2 (ew.mp y))]
          refine ⟨fun y => i1 (fun j p q => y j (by omega) q), fun ⟨j, p, q, c, c2⟩ => i2 ⟨j, ?_, q, c, c2⟩⟩
          have : j ≠ b := fun y => e2 (by rw [← y]; exact c)
          omega
      · rw [(h.2.2 a ha).has_f (q := b) (by omega) (fun y => e y.2.2), Option.bind_some, if_pos rfl]
        refine ⟨fun y => i1 (fun j p q => y j (by omega) q), fun ⟨j, p, q, c, c2⟩ => i2 ⟨j, ?_, q, c, c2⟩⟩
        have : j ≠ b := fun y => e (by rw [← y]; exact c2)
        omega
  obtain ⟨k1, k2⟩ := key a 0 FU (by omega) (FU_gt (by omega))
  by_cases e : fre (cfG T d) w a t
  · rw [if_pos e]
    exact k1 (fun j _ hj => e j hj)
  · rw [if_neg e]
    exact k2 (Classical.byContradiction (fun z => e (fun b hb y => z ⟨b, by omega, hb, y⟩)))
theorem r_next {M : Mem} {T : Tn} {d : Int32} (h7 : tN T ≤ 7) (h : WM M T d) {a t0 L : Nat} {w : Nat → Nat} (ha : a < ngG T d) (hw : ∀ b, b < a → mI M 117 b = nI (w b)) (ht : mI M 117 a = nI t0) (hm : mxW w a ≤ a) (hL : L ≤ 7) (h0 : t0 ≤ min (mxW w a + 1) L) : F_X7_nextWidth 100 (nI a) (nI L) M = some (nI (sNx (cfG T d) w a (min (mxW w a + 1) L - t0) (t0 + 1))) := by
  have hg := ngG_7 h7 d
  have s117 := h.1.s 27 (a := 116) rfl
  have r117 := h.1.r 27 (a := 116) rfl
  have k66 : ∀ (j t n : Nat), t + j = min (mxW w a + 1) L + 1 → 1 ≤ t → j < n → F_X7_nextWidth_66 M n 100 (nI a) (nI (min (mxW w a + 1) L)) (nI t) = some (nI (sNx (cfG T d) w a j t)) := by
    intro j
    induction j with
    | zero =>
      intro t n hj ht hn
      obtain ⟨n, rfl, -⟩ := fu_get hn
      simp only [F_X7_nextWidth_66]
      rw [if_pos (nI_lt (by omega) (by omega))]
      rfl
    | succ j ih =>
      intro t n hj ht hn
      obtain ⟨n, rfl, hn⟩ := fu_get hn
      simp only [F_X7_nextWidth_66]
      rw [if_neg (nI_nlt (by omega) (by omega)), r_may h7 h ha hw hm (by omega), ih (t + 1) n (by omega) (by omega) (by omega)]
      unfold sNx
      by_cases e : fre (cfG T d) w a t
      · rw [if_pos e, if_pos e]
      · rw [if_neg e, if_neg e]
        cases j <;> rfl
  have k5 : ∀ (k b n : Nat), b + k = a → k < n → F_X7_nextWidth_5 M n 100 (nI a) (nI L) (nI (mxW w b)) (nI b) = F_X7_nextWidth_54 M 100 (nI a) (nI (min (mxW w a + 1) L)) := by
    intro k
    induction k with
    | zero =>
      intro b n hb hn
      obtain ⟨n, rfl, -⟩ := fu_get hn
      have : b = a := by omega
      subst this
      simp only [F_X7_nextWidth_5]
      rw [if_pos (nI_le (by omega) (by omega)), nI_1]
      by_cases e : L ≤ mxW w b + 1
      · rw [if_pos (nI_le e (by omega)), Nat.min_eq_right e]
      · rw [if_neg (nI_ge (by omega) (by omega)), Nat.min_eq_left (by omega)]
    | succ k ih =>
      intro b n hb hn
      obtain ⟨n, rfl, hn⟩ := fu_get hn
      have hwb := mxW_le w a b (by omega)
      have ih' := ih (b + 1) n (by omega) (by omega)
      have hbm : ∀ b', b' ≤ a → mxW w b' ≤ mxW w a := by
        intro b' hb'
        clear ih ih' hn hb
        induction a with
        | zero => rw [show b' = 0 by omega]; exact Nat.le_refl _
        | succ a iha =>
          by_cases e : b' = a + 1
          · rw [e]; exact Nat.le_refl _
          · show _ ≤ max (mxW w a) (w a)
            have hh : mxW w b' ≤ mxW w a := by
              clear iha hwb h0 hm ht hw ha
              have : ∀ c e, mxW w c ≤ mxW w (c + e) := fun c e => by
                induction e with
                | zero => exact Nat.le_refl _
                | succ e ih => exact Nat.le_trans ih (Nat.le_max_left _ _)
              have := this b' (a - b')
              rw [show b' + (a - b') = a by omega] at this
              exact this
            omega
      have hmb := hbm b (by omega)
      simp only [F_X7_nextWidth_5]
      unfold F_X7_nextWidth_33
      rw [if_neg (nI_ge (by omega) (by omega)), r117, Option.bind_some, ldI_nI s117 (by omega) (by omega), Option.bind_some, hw b (by omega), nI_1, Option.bind_some, ldI_nI s117 (by omega) (by omega), Option.bind_some, hw b (by omega)]
      rw [show mxW w (b + 1) = max (mxW w b) (w b) from rfl] at ih'
      by_cases e : w b ≤ mxW w b
      · rw [if_pos (nI_le e (by omega))]
        rw [Nat.max_eq_left e] at ih'
        exact ih'
      · rw [if_neg (nI_ge (by omega) (by omega))]
        rw [Nat.max_eq_right (by omega)] at ih'
        exact ih'
  unfold F_X7_nextWidth
  refine (k5 a 0 FU (by omega) (FU_gt (by omega))).trans ?_
  unfold F_X7_nextWidth_54
  rw [r117, Option.bind_some, ldI_nI s117 (by omega) (by omega), Option.bind_some, ht, nI_1]
  exact k66 _ _ FU (by omega) (by omega) (FU_gt (by omega))
def sK : Nat → Nat
  | 0 => 0
  | k + 1 => 1 + (7 - k) * (1 + sK k)
/-- how the reference's search goes on from a guest -/
def RW (T : Tn) (d : Int32) (L a : Nat) (w : Nat → Nat) (C : Nat) (M : Mem) (s : Option (Nat → Nat)) : Prop := ∃ c M', c ≤ C ∧ Fr (fun a => a = 117) M M' ∧ ((∃ r, s = some r ∧ (∀ n, F_X7_isWay_25 (n + c) 100 (nI L) (nI a) M = F_X7_isWay_25 n 100 (nI L) (nI (ngG T d)) M') ∧ ∀ b, b < ngG T d → mI M' 117 b = nI (r b)) ∨ (s = none ∧ (∀ n, F_X7_isWay_25 (n + c) 100 (nI L) (nI a) M = F_X7_isWay_25 n 100 (nI L) (nI a + -1) M') ∧ (∀ b, b < a → mI M' 117 b = nI (w b)) ∧ ∀ b, a ≤ b → b < ngG T d → mI M' 117 b = 0))
theorem r_run {T : Tn} {d : Int32} (h7 : tN T ≤ 7) {L : Nat} (hL : L ≤ 7) : ∀ (k a : Nat) (w : Nat → Nat) (M : Mem), a + k = ngG T d → WM M T d → (∀ b, b < a → mI M 117 b = nI (w b)) → (∀ b, a ≤ b → b < ngG T d → mI M 117 b = 0) → mxW w a ≤ a → RW T d L a w (sK k) M (sPt (cfG T d) L k a w) := by
  have hg := ngG_7 h7 d
  intro k
  induction k with
  | zero =>
    intro a w M ha h hw hz hm
    have : a = ngG T d := by omega
    subst this
    exact ⟨0, M, Nat.le_refl _, Fr.rf, Or.inl ⟨w, rfl, fun n => rfl, hw⟩⟩
  | succ k ih =>
    intro a w M ha h hw hz hm
    have haG : a < ngG T d := by omega
    have loop : ∀ (J j t0 : Nat) (M : Mem), j ≤ J → t0 + j = min (mxW w a + 1) L → WM M T d → (∀ b, b < a → mI M 117 b = nI (w b)) → mI M 117 a = nI t0 → (∀ b, a < b → b < ngG T d → mI M 117 b = 0) → RW T d L a w (1 + j * (1 + sK k)) M (sTr (fun t => if fre (cfG T d) w a t then sPt (cfG T d) L k (a + 1) (va_up w a t) else none) j (t0 + 1)) := by
      intro J
      induction J with
      | zero =>
        intro j t0 M hJ hj h hw ht hz
        have : j = 0 := by omega
        subst this
        have hn := r_next h7 h haG hw ht hm hL (by omega)
        rw [show min (mxW w a + 1) L - t0 = 0 by omega] at hn
        have hn' : F_X7_nextWidth 100 (nI a) (nI L) M = some 0 := hn
        refine ⟨1, uI M 117 a 0, by omega, Fr.uI rfl, Or.inr ⟨rfl, fun n => ?_, fun b hb => ?_, fun b h1 h2 => ?_⟩⟩
        · show F_X7_isWay_25 (n + 1) 100 (nI L) (nI a) M = _
          simp only [F_X7_isWay_25]
          unfold F_X7_isWay_64
          rw [if_neg (nI_pos (by omega)), h.1.i, Option.bind_some, h.2.1, if_neg (nI_ge (by omega) (by omega)), h.1.r 27 (a := 116) rfl, Option.bind_some, h.1.ck, Option.bind_some, hn', Option.bind_some, stI_nI _ (h.1.s 27 (a := 116) rfl) (by omega) (by omega), Option.bind_some, h.1.up.r 27 (a := 116) rfl, Option.bind_some, ldI_nI (h.1.up.s 27 (a := 116) rfl) (by omega) (by omega), Option.bind_some, mI_uI, if_pos rfl, upd_eq, if_pos (by decide)]
        · rw [mI_uI, if_pos rfl, upd_ne (by omega)]; exact hw b hb
        · rw [mI_uI, if_pos rfl]
          by_cases e : b = a
          · rw [e, upd_eq]
          · rw [upd_ne e]; exact hz b (by omega) h2
      | succ J ihJ =>
        intro j t0 M hJ hj h hw ht hz
        have hn := r_next h7 h haG hw ht hm hL (by omega)
        rw [show min (mxW w a + 1) L - t0 = j by omega] at hn
        have step : ∀ v M', M' = uI M 117 a (nI v) → v ≤ 8 → F_X7_nextWidth 100 (nI a) (nI L) M = some (nI v) → ∀ n, F_X7_isWay_25 (n + 1) 100 (nI L) (nI a) M = if v = 0 then F_X7_isWay_25 n 100 (nI L) (nI a + -1) M' else F_X7_isWay_25 n 100 (nI L) (nI (a + 1)) M' := by
          intro v M' hM' hv hnv n
          rw [hM']
          simp only [F_X7_isWay_25]
          unfold F_X7_isWay_64
          rw [if_neg (nI_pos (by omega)), h.1.i, Option.bind_some, h.2.1, if_neg (nI_ge (by omega) (by omega)), h.1.r 27 (a := 116) rfl, Option.bind_some, h.1.ck, Option.bind_some, hnv, Option.bind_some, stI_nI _ (h.1.s 27 (a := 116) rfl) (by omega) (by omega), Option.bind_some, h.1.up.r 27 (a := 116) rfl, Option.bind_some, ldI_nI (h.1.up.s 27 (a := 116) rfl) (by omega) (by omega), Option.bind_some, mI_uI, if_pos rfl, upd_eq, nI_1]
          by_cases e : v = 0
          · rw [if_pos (by rw [e]; decide), if_pos e]
          · rw [if_neg (nI_nle (by omega) (by omega)), if_neg e]
        rcases sNx_tr (cf := cfG T d) (w := w) (a := a) (f := fun t => if fre (cfG T d) w a t then sPt (cfG T d) L k (a + 1) (va_up w a t) else none) (fun t e => if_neg e) j (t0 + 1) (by omega) with ⟨e1, e2⟩ | ⟨i, hi, e1, e2, e3⟩
        · rw [e1] at hn
          have st := step 0 _ rfl (by omega) hn
          refine ⟨1, uI M 117 a (nI 0), Nat.le_add_right _ _, Fr.uI rfl, Or.inr ⟨e2, fun n => ?_, fun b hb => ?_, fun b h1 h2 => ?_⟩⟩
          · rw [st n, if_pos rfl]
          · rw [mI_uI, if_pos rfl, upd_ne (by omega)]; exact hw b hb
          · rw [mI_uI, if_pos rfl]
            by_cases e : b = a
            · rw [e, upd_eq]; rfl
            · rw [upd_ne e]; exact hz b (by omega) h2
        · rw [e1] at hn
          have st := step (t0 + 1 + i) _ rfl (by omega) hn
          have hf1 : Fr (fun a => a = 117) M (uI M 117 a (nI (t0 + 1 + i))) := Fr.uI rfl
          have ii := ih (a + 1) (va_up w a (t0 + 1 + i)) (uI M 117 a (nI (t0 + 1 + i))) (by omega) (h.fr hf1) (fun b hb => by
            rw [mI_uI, if_pos rfl]
            by_cases e : b = a
            · rw [e, upd_eq, vu_eq]
            · rw [upd_ne e, vu_ne e]; exact hw b (by omega)) (fun b h1 h2 => by
            rw [mI_uI, if_pos rfl, upd_ne (by omega)]; exact hz b (by omega) h2) (by rw [mxW_up]; omega)
          obtain ⟨c, M1, c1, c2, c3⟩ := ii
          have hmul : (j - i - 1 + 1) * (1 + sK k) ≤ j * (1 + sK k) := Nat.mul_le_mul_right _ (by omega)
          rw [Nat.succ_mul] at hmul
          obtain ⟨j', hj'⟩ : ∃ j', j - i = j' + 1 := ⟨j - i - 1, by omega⟩
          rw [e3, hj']
          conv => arg 8; unfold sTr
          simp only [if_pos e2]
          rcases c3 with ⟨r, r1, r2, r3⟩ | ⟨r1, r2, r3, r4⟩
          · rw [r1]
            refine ⟨c + 1, M1, by omega, hf1.tr c2, Or.inl ⟨r, rfl, fun n => ?_, r3⟩⟩
            show F_X7_isWay_25 (n + c + 1) 100 (nI L) (nI a) M = _
            rw [st (n + c), if_neg (by omega)]
            exact r2 n
          · rw [r1]
            have h1 : WM M1 T d := h.fr (hf1.tr c2)
            obtain ⟨c', M2, d1, d2, d3⟩ := ihJ j' (t0 + 1 + i) M1 (by omega) (by omega) h1 (fun b hb => by rw [r3 b (by omega), vu_ne (by omega)]) (by rw [r3 a (by omega), vu_eq]) (fun b h1 h2 => r4 b (by omega) h2)
            have r2' : ∀ n, F_X7_isWay_25 (n + c) 100 (nI L) (nI (a + 1)) (uI M 117 a (nI (t0 + 1 + i))) = F_X7_isWay_25 n 100 (nI L) (nI a) M1 := fun n => by rw [r2 n, nI_dn]
            have hjj : j - i - 1 = j' := by omega
            rw [hjj] at hmul
            refine ⟨c' + c + 1, M2, by omega, (hf1.tr c2).tr d2, ?_⟩
            have tr1 : ∀ n, F_X7_isWay_25 (n + (c' + c + 1)) 100 (nI L) (nI a) M = F_X7_isWay_25 (n + c') 100 (nI L) (nI a) M1 := fun n => by
              show F_X7_isWay_25 (n + (c' + c) + 1) 100 (nI L) (nI a) M = _
              rw [st (n + (c' + c)), if_neg (by omega), ← Nat.add_assoc]
              exact r2' (n + c')
            rcases d3 with ⟨r, q1, q2, q3⟩ | ⟨q1, q2, q3⟩
            · exact Or.inl ⟨r, q1, fun n => (tr1 n).trans (q2 n), q3⟩
            · exact Or.inr ⟨q1, fun n => (tr1 n).trans (q2 n), q3⟩
    have hh := loop (min (mxW w a + 1) L) (min (mxW w a + 1) L) 0 M (Nat.le_refl _) (by omega) h hw (hz a (by omega) haG) (fun b h1 h2 => hz b (by omega) h2)
    obtain ⟨c, M', c1, c2⟩ := hh
    refine ⟨c, M', Nat.le_trans c1 ?_, c2⟩
    show 1 + min (mxW w a + 1) L * (1 + sK k) ≤ 1 + (7 - k) * (1 + sK k)
    exact Nat.add_le_add_left (Nat.mul_le_mul_right _ (by omega)) 1
theorem sK_le {k : Nat} (h : k ≤ 7) : sK k ≤ 7000 := by
  have : ∀ k, k < 8 → sK k ≤ 7000 := by decide +kernel
  exact this k (by omega)
theorem r_way {T : Tn} {d : Int32} (h7 : tN T ≤ 7) {L : Nat} (hL : L ≤ 7) {M : Mem} (h : WM M T d) : ∃ M', F_X7_isWay 100 (nI L) M = some (sVl (pwG T d L), M') ∧ Fr (fun a => a = 117) M M' ∧ ∀ r, pwG T d L = some r → ∀ b, b < ngG T d → mI M' 117 b = nI (r b) := by
  have hg := ngG_7 h7 d
  have k4 : ∀ (k b n : Nat) (M1 : Mem), b + k = ngG T d → k < n → WM M1 T d → Fr (fun a => a = 117) M M1 → (∀ x, x < b → mI M1 117 x = 0) → ∃ M2, F_X7_isWay_4 n 100 (nI L) 0 (nI b) M1 = F_X7_isWay_25 FU 100 (nI L) 0 M2 ∧ WM M2 T d ∧ Fr (fun a => a = 117) M M2 ∧ ∀ x, x < ngG T d → mI M2 117 x = 0 := by
    intro k
    induction k with
    | zero =>
      intro b n M1 hb hn h hf hz
      obtain ⟨n, rfl, -⟩ := fu_get hn
      refine ⟨M1, ?_, h, hf, fun x hx => hz x (by omega)⟩
      simp only [F_X7_isWay_4]
      rw [h.1.i, Option.bind_some, h.2.1, if_pos (nI_le (by omega) (by omega))]
    | succ k ih =>
      intro b n M1 hb hn h hf hz
      obtain ⟨n, rfl, hn⟩ := fu_get hn
      have hf1 : Fr (fun a => a = 117) M1 (uI M1 117 b 0) := Fr.uI rfl
      obtain ⟨M2, g1, g2⟩ := ih (b + 1) n (uI M1 117 b 0) (by omega) (by omega) (h.fr hf1) (hf.tr hf1) (fun x hx => by
        rw [mI_uI, if_pos rfl]
        by_cases e : x = b
        · rw [e, upd_eq]
        · rw [upd_ne e]; exact hz x (by omega))
      refine ⟨M2, ?_, g2⟩
      simp only [F_X7_isWay_4]
      rw [h.1.i, Option.bind_some, h.2.1, if_neg (nI_ge (by omega) (by omega)), h.1.r 27 (a := 116) rfl, Option.bind_some, stI_nI _ (h.1.s 27 (a := 116) rfl) (by omega) (by omega), Option.bind_some, nI_1]
      exact g1
  obtain ⟨M1, g1, g2, g3, g4⟩ := k4 (ngG T d) 0 FU M (by omega) (FU_gt (by omega)) h Fr.rf (fun x hx => absurd hx (Nat.not_lt_zero x))
  obtain ⟨c, M2, c1, c2, c3⟩ := r_run h7 hL (ngG T d) 0 (fun _ => 0) M1 (by omega) g2 (fun b hb => absurd hb (Nat.not_lt_zero b)) (fun b _ hb => g4 b hb) (Nat.le_refl _)
  have hc := sK_le (show ngG T d ≤ 7 by omega)
  have h2 := g2.fr c2
  have eF : FU = (999999 - c) + 1 + c := by show 1000000 = _; omega
  have g1' : F_X7_isWay 100 (nI L) M = F_X7_isWay_25 ((999999 - c) + 1 + c) 100 (nI L) (nI 0) M1 := by
    unfold F_X7_isWay
    rw [← eF]
    exact g1
  refine ⟨M2, ?_, g3.tr c2, ?_⟩
  · rw [g1']
    rcases c3 with ⟨r, r1, r2, r3⟩ | ⟨r1, r2, r3⟩
    · rw [r2]
      have : pwG T d L = some r := r1
      rw [this]
      simp only [F_X7_isWay_25]
      unfold F_X7_isWay_69
      rw [if_neg (nI_pos (by omega)), h2.1.i, Option.bind_some, h2.2.1, if_pos (nI_le (Nat.le_refl _) (by omega)), Option.bind_some, if_pos rfl]
      rfl
    · rw [r2]
      have : pwG T d L = none := r1
      rw [this]
      simp only [F_X7_isWay_25]
      unfold F_X7_isWay_69
      rw [if_pos (show nI 0 + -1 < 0 by decide), h2.1.i, Option.bind_some, h2.2.1, if_neg (fun z => by
        have : ∀ n, n < 8 → ¬ (nI 0 + -1 = nI n) := by decide +kernel
        exact this _ (by omega) z)]
      rfl
  · intro r hr
    rcases c3 with ⟨r', r1, r2, r3⟩ | ⟨r1, r2, r3⟩
    · have : pwG T d L = some r' := r1
      rw [this] at hr
      cases hr
      exact r3
    · have : pwG T d L = none := r1
      rw [this] at hr
      cases hr
