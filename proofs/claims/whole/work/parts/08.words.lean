def chkT (M : Mem) (t a : Nat) : Option Unit := if (mS M a).1 = t then some () else none
theorem chkT_eq {M : Mem} {t a : Nat} {u : Unit} (h : chkT M t a = some u) : (mS M a).1 = t := by
  unfold chkT at h
  split at h
  · assumption
  · cases h
theorem chkT_lt {M : Mem} {t a : Nat} {u : Unit} (h : chkT M t a = some u) (ht : t < 13) : (mS M a).1 < 13 := by rw [chkT_eq h]; exact ht
theorem rN_of {ty : FieldType} {v w : Int32} (h : rN ty v = some w) : narrow ty (.int v) = .int v := by
  unfold rN at h
  split at h
  · assumption
  · cases h
def mkL : List Bool → List Value → List Value
  | [], vs => vs
  | _ :: _, [] => []
  | b :: bs, v :: vs => (match b with | true => v | false => JK) :: mkL bs vs
theorem mkL_get : ∀ (bs : List Bool) (vs : List Value) (i : Nat) (v : Value), (mkL bs vs)[i]? = some v → isJ v = false → vs[i]? = some v
  | [], _, _, _, h, _ => h
  | _ :: _, [], _, _, h, _ => h
  | b :: bs, w :: vs, 0, v, h, hj => by
    cases b with
    | true => exact h
    | false => simp [mkL] at h; subst h; cases hj
  | b :: bs, w :: vs, i + 1, v, h, hj => by
    have h1 : (mkL bs vs)[i]? = some v := by simpa [mkL] using h
    have h2 := mkL_get bs vs i v h1 hj
    simpa using h2
theorem mkL_len : ∀ (bs : List Bool) (vs : List Value), (mkL bs vs).length = vs.length
  | [], _ => rfl
  | _ :: _, [] => rfl
  | _ :: bs, _ :: vs => by simp [mkL, mkL_len bs vs]
section More
variable {D : DT} {l : Launch} {Y : MT} {kc ks kc2 ks2 pc : Nat} {ls st : List Value} {M : Mem} {post : Option Value → Mem → Prop}
/-- fewer locals are known -/
theorem wp_weak (bs : List Bool) (k : WP D l Y kc ks pc (mkL bs ls) st M post) : WP D l Y kc ks pc ls st M post := by
  intro p e s m args below meth c E H locs hR hS lsA hl
  refine k p e s m args below meth c E H locs hR hS lsA ⟨⟨hl.1.1, hl.1.2.1, fun q hq => ?_⟩, by rw [mkL_len]; exact hl.2⟩
  obtain ⟨v, h1, h2, h3⟩ := asc_of hq
  have h4 := hl.at (mkL_get bs ls q.1 v h1 h2) h2
  rw [h3]
  exact h4
theorem cgV_i {Y' : MT} {t b index n N : Nat} {C : String} {T : u_T} {As stk : List Value} {M' : Mem} {v : Int32} (hd : decode (mC Y) pc = .ok (.invokevirtual index, 3)) (hw : Cond.methodLink (mY Y).cls index (mY Y') ∈ gtbl) (hce : CeV Y' C n) (hcl : classes[t]? = some (C, T, N)) (h10 : t < 10) (hfit : Fit Y Y') (hcap : kc + (mRm Y').cells ≤ (mRm Y).cells ∧ ks + (mRm Y').slots ≤ (mRm Y).slots) (hk1 : kc + (mRm Y').cells = kc2) (hk2 : ks + (mRm Y').slots = ks2) (ht : (mS M b).1 = t) (hC : Ct D l Y' (.ref b :: As) M (fun r N => r = some (.int v) ∧ N = M')) (hn : As.length = n) (hst : stk = As.reverse ++ .ref b :: st) (hroom : (st.map fun v => v.category).sum ≤ 8) (k : WP D l Y kc2 ks2 (pc + 3) ls (.int v :: st) M' post) : WP D l Y kc ks pc ls stk M post := by
  subst hk1; subst hk2
  refine wp_callV hd hw hce hcl h10 hfit hcap ht hC hn hst hroom ?_
  rintro _ _ ⟨rfl, rfl⟩
  exact k
theorem cgS_i {Y' : MT} {index n : Nat} {As stk : List Value} {M' : Mem} {v : Int32} (hd : decode (mC Y) pc = .ok (.invokestatic index, 3)) (hw : Cond.methodLink (mY Y).cls index (mY Y') ∈ gtbl) (hce : CeS Y' n) (hfit : Fit Y Y') (hcap : kc + (mRm Y').cells ≤ (mRm Y).cells ∧ ks + (mRm Y').slots ≤ (mRm Y).slots) (hk1 : kc + (mRm Y').cells = kc2) (hk2 : ks + (mRm Y').slots = ks2) (hC : Ct D l Y' As M (fun r N => r = some (.int v) ∧ N = M')) (hn : As.length = n) (hst : stk = As.reverse ++ st) (hroom : (st.map fun v => v.category).sum ≤ 8) (k : WP D l Y kc2 ks2 (pc + 3) ls (.int v :: st) M' post) : WP D l Y kc ks pc ls stk M post := by
  subst hk1; subst hk2
  refine wp_callS hd hw hce hfit hcap hC hn hst hroom ?_
  rintro _ _ ⟨rfl, rfl⟩
  exact k
theorem cgSN_i {Y' : MT} {index n : Nat} {host : String} {As stk : List Value} {M' : Mem} {v : Int32} (hd : decode (mC Y) pc = .ok (.invokestatic index, 3)) (hw : Cond.methodLinkNest (mY Y).cls index (mY Y') host ∈ nestTbl) (hce : CeS Y' n) (hfit : Fit Y Y') (hcap : kc + (mRm Y').cells ≤ (mRm Y).cells ∧ ks + (mRm Y').slots ≤ (mRm Y).slots) (hk1 : kc + (mRm Y').cells = kc2) (hk2 : ks + (mRm Y').slots = ks2) (hC : Ct D l Y' As M (fun r N => r = some (.int v) ∧ N = M')) (hn : As.length = n) (hst : stk = As.reverse ++ st) (hroom : (st.map fun v => v.category).sum ≤ 8) (k : WP D l Y kc2 ks2 (pc + 3) ls (.int v :: st) M' post) : WP D l Y kc ks pc ls stk M post := by
  subst hk1; subst hk2
  refine wp_callSN hd hw hce hfit hcap hC hn hst hroom ?_
  rintro _ _ ⟨rfl, rfl⟩
  exact k
theorem cgV_l {Y' : MT} {t b index n N : Nat} {C : String} {T : u_T} {As stk : List Value} {M' : Mem} {v : Int64} (hd : decode (mC Y) pc = .ok (.invokevirtual index, 3)) (hw : Cond.methodLink (mY Y).cls index (mY Y') ∈ gtbl) (hce : CeV Y' C n) (hcl : classes[t]? = some (C, T, N)) (h10 : t < 10) (hfit : Fit Y Y') (hcap : kc + (mRm Y').cells ≤ (mRm Y).cells ∧ ks + (mRm Y').slots ≤ (mRm Y).slots) (hk1 : kc + (mRm Y').cells = kc2) (hk2 : ks + (mRm Y').slots = ks2) (ht : (mS M b).1 = t) (hC : Ct D l Y' (.ref b :: As) M (fun r N => r = some (.long v) ∧ N = M')) (hn : As.length = n) (hst : stk = As.reverse ++ .ref b :: st) (hroom : (st.map fun v => v.category).sum ≤ 8) (k : WP D l Y kc2 ks2 (pc + 3) ls (.long v :: st) M' post) : WP D l Y kc ks pc ls stk M post := by
  subst hk1; subst hk2
  refine wp_callV hd hw hce hcl h10 hfit hcap ht hC hn hst hroom ?_
  rintro _ _ ⟨rfl, rfl⟩
  exact k
theorem cgS_l {Y' : MT} {index n : Nat} {As stk : List Value} {M' : Mem} {v : Int64} (hd : decode (mC Y) pc = .ok (.invokestatic index, 3)) (hw : Cond.methodLink (mY Y).cls index (mY Y') ∈ gtbl) (hce : CeS Y' n) (hfit : Fit Y Y') (hcap : kc + (mRm Y').cells ≤ (mRm Y).cells ∧ ks + (mRm Y').slots ≤ (mRm Y).slots) (hk1 : kc + (mRm Y').cells = kc2) (hk2 : ks + (mRm Y').slots = ks2) (hC : Ct D l Y' As M (fun r N => r = some (.long v) ∧ N = M')) (hn : As.length = n) (hst : stk = As.reverse ++ st) (hroom : (st.map fun v => v.category).sum ≤ 8) (k : WP D l Y kc2 ks2 (pc + 3) ls (.long v :: st) M' post) : WP D l Y kc ks pc ls stk M post := by
  subst hk1; subst hk2
  refine wp_callS hd hw hce hfit hcap hC hn hst hroom ?_
  rintro _ _ ⟨rfl, rfl⟩
  exact k
theorem cgSN_l {Y' : MT} {index n : Nat} {host : String} {As stk : List Value} {M' : Mem} {v : Int64} (hd : decode (mC Y) pc = .ok (.invokestatic index, 3)) (hw : Cond.methodLinkNest (mY Y).cls index (mY Y') host ∈ nestTbl) (hce : CeS Y' n) (hfit : Fit Y Y') (hcap : kc + (mRm Y').cells ≤ (mRm Y).cells ∧ ks + (mRm Y').slots ≤ (mRm Y).slots) (hk1 : kc + (mRm Y').cells = kc2) (hk2 : ks + (mRm Y').slots = ks2) (hC : Ct D l Y' As M (fun r N => r = some (.long v) ∧ N = M')) (hn : As.length = n) (hst : stk = As.reverse ++ st) (hroom : (st.map fun v => v.category).sum ≤ 8) (k : WP D l Y kc2 ks2 (pc + 3) ls (.long v :: st) M' post) : WP D l Y kc ks pc ls stk M post := by
  subst hk1; subst hk2
  refine wp_callSN hd hw hce hfit hcap hC hn hst hroom ?_
  rintro _ _ ⟨rfl, rfl⟩
  exact k
theorem cgV_v {Y' : MT} {t b index n N : Nat} {C : String} {T : u_T} {As stk : List Value} {M' : Mem} (hd : decode (mC Y) pc = .ok (.invokevirtual index, 3)) (hw : Cond.methodLink (mY Y).cls index (mY Y') ∈ gtbl) (hce : CeV Y' C n) (hcl : classes[t]? = some (C, T, N)) (h10 : t < 10) (hfit : Fit Y Y') (hcap : kc + (mRm Y').cells ≤ (mRm Y).cells ∧ ks + (mRm Y').slots ≤ (mRm Y).slots) (hk1 : kc + (mRm Y').cells = kc2) (hk2 : ks + (mRm Y').slots = ks2) (ht : (mS M b).1 = t) (hC : Ct D l Y' (.ref b :: As) M (fun r N => r = none ∧ N = M')) (hn : As.length = n) (hst : stk = As.reverse ++ .ref b :: st) (hroom : (st.map fun v => v.category).sum ≤ 8) (k : WP D l Y kc2 ks2 (pc + 3) ls (st) M' post) : WP D l Y kc ks pc ls stk M post := by
  subst hk1; subst hk2
  refine wp_callV hd hw hce hcl h10 hfit hcap ht hC hn hst hroom ?_
  rintro _ _ ⟨rfl, rfl⟩
  exact k
theorem cgS_v {Y' : MT} {index n : Nat} {As stk : List Value} {M' : Mem} (hd : decode (mC Y) pc = .ok (.invokestatic index, 3)) (hw : Cond.methodLink (mY Y).cls index (mY Y') ∈ gtbl) (hce : CeS Y' n) (hfit : Fit Y Y') (hcap : kc + (mRm Y').cells ≤ (mRm Y).cells ∧ ks + (mRm Y').slots ≤ (mRm Y).slots) (hk1 : kc + (mRm Y').cells = kc2) (hk2 : ks + (mRm Y').slots = ks2) (hC : Ct D l Y' As M (fun r N => r = none ∧ N = M')) (hn : As.length = n) (hst : stk = As.reverse ++ st) (hroom : (st.map fun v => v.category).sum ≤ 8) (k : WP D l Y kc2 ks2 (pc + 3) ls (st) M' post) : WP D l Y kc ks pc ls stk M post := by
  subst hk1; subst hk2
  refine wp_callS hd hw hce hfit hcap hC hn hst hroom ?_
  rintro _ _ ⟨rfl, rfl⟩
  exact k
theorem cgI_v {Y' : MT} {b index n : Nat} {As stk : List Value} {M' : Mem} (hd : decode (mC Y) pc = .ok (.invokespecial index, 3)) (hw : Cond.methodLink (mY Y).cls index (mY Y') ∈ gtbl) (hce : CeI Y' n) (hfit : Fit Y Y') (hcap : kc + (mRm Y').cells ≤ (mRm Y).cells ∧ ks + (mRm Y').slots ≤ (mRm Y).slots) (hk1 : kc + (mRm Y').cells = kc2) (hk2 : ks + (mRm Y').slots = ks2) (ht : (mS M b).1 < 13) (hC : Ct D l Y' (.ref b :: As) M (fun r N => r = none ∧ N = M')) (hn : As.length = n) (hst : stk = As.reverse ++ .ref b :: st) (hroom : (st.map fun v => v.category).sum ≤ 8) (k : WP D l Y kc2 ks2 (pc + 3) ls (st) M' post) : WP D l Y kc ks pc ls stk M post := by
  subst hk1; subst hk2
  refine wp_callI hd hw hce hfit hcap ht hC hn hst hroom ?_
  rintro _ _ ⟨rfl, rfl⟩
  exact k
theorem cgSN_v {Y' : MT} {index n : Nat} {host : String} {As stk : List Value} {M' : Mem} (hd : decode (mC Y) pc = .ok (.invokestatic index, 3)) (hw : Cond.methodLinkNest (mY Y).cls index (mY Y') host ∈ nestTbl) (hce : CeS Y' n) (hfit : Fit Y Y') (hcap : kc + (mRm Y').cells ≤ (mRm Y).cells ∧ ks + (mRm Y').slots ≤ (mRm Y).slots) (hk1 : kc + (mRm Y').cells = kc2) (hk2 : ks + (mRm Y').slots = ks2) (hC : Ct D l Y' As M (fun r N => r = none ∧ N = M')) (hn : As.length = n) (hst : stk = As.reverse ++ st) (hroom : (st.map fun v => v.category).sum ≤ 8) (k : WP D l Y kc2 ks2 (pc + 3) ls (st) M' post) : WP D l Y kc ks pc ls stk M post := by
  subst hk1; subst hk2
  refine wp_callSN hd hw hce hfit hcap hC hn hst hroom ?_
  rintro _ _ ⟨rfl, rfl⟩
  exact k
theorem cgIN_v {Y' : MT} {b index n : Nat} {host : String} {As stk : List Value} {M' : Mem} (hd : decode (mC Y) pc = .ok (.invokespecial index, 3)) (hw : Cond.methodLinkNest (mY Y).cls index (mY Y') host ∈ nestTbl) (hce : CeI Y' n) (hfit : Fit Y Y') (hcap : kc + (mRm Y').cells ≤ (mRm Y).cells ∧ ks + (mRm Y').slots ≤ (mRm Y).slots) (hk1 : kc + (mRm Y').cells = kc2) (hk2 : ks + (mRm Y').slots = ks2) (ht : (mS M b).1 < 13) (hC : Ct D l Y' (.ref b :: As) M (fun r N => r = none ∧ N = M')) (hn : As.length = n) (hst : stk = As.reverse ++ .ref b :: st) (hroom : (st.map fun v => v.category).sum ≤ 8) (k : WP D l Y kc2 ks2 (pc + 3) ls (st) M' post) : WP D l Y kc ks pc ls stk M post := by
  subst hk1; subst hk2
  refine wp_callIN hd hw hce hfit hcap ht hC hn hst hroom ?_
  rintro _ _ ⟨rfl, rfl⟩
  exact k
end More
theorem cl0 : ClsOk 0 RX0 TX0 2 tyX0 := ⟨rfl, in0, tyX0_ok, nmX0, by decide, rfl, by decide +kernel, refCase tyX0 0 2 (by decide +kernel)⟩
theorem cl1 : ClsOk 1 RX1 TX1 4 tyX1 := ⟨rfl, in1, tyX1_ok, nmX1, by decide, rfl, by decide +kernel, refCase tyX1 1 4 (by decide +kernel)⟩
theorem cl2 : ClsOk 2 RX2 TX2 2 tyX2 := ⟨rfl, in2, tyX2_ok, nmX2, by decide, rfl, by decide +kernel, refCase tyX2 2 2 (by decide +kernel)⟩
theorem cl3 : ClsOk 3 RX3 TX3 3 tyX3 := ⟨rfl, in3, tyX3_ok, nmX3, by decide, rfl, by decide +kernel, refCase tyX3 3 3 (by decide +kernel)⟩
theorem cl4 : ClsOk 4 RX4 TX4 4 tyX4 := ⟨rfl, in4, tyX4_ok, nmX4, by decide, rfl, by decide +kernel, refCase tyX4 4 4 (by decide +kernel)⟩
theorem cl5 : ClsOk 5 RX5 TX5 8 tyX5 := ⟨rfl, in5, tyX5_ok, nmX5, by decide, rfl, by decide +kernel, refCase tyX5 5 8 (by decide +kernel)⟩
theorem cl6 : ClsOk 6 RX6 TX6 10 tyX6 := ⟨rfl, in6, tyX6_ok, nmX6, by decide, rfl, by decide +kernel, refCase tyX6 6 10 (by decide +kernel)⟩
theorem cl7 : ClsOk 7 RX7 TX7 30 tyX7 := ⟨rfl, in7, tyX7_ok, nmX7, by decide, rfl, by decide +kernel, refCase tyX7 7 30 (by decide +kernel)⟩
theorem fl_X6_10 : Cond.fieldLink RX6 10 RX6 (TX6 0).2.1 (TX6 0).2.2.1 ∈ gtbl := tw1 146 rfl rfl
theorem fl_X6_19 : Cond.fieldLink RX6 19 RX6 (TX6 1).2.1 (TX6 1).2.2.1 ∈ gtbl := tw1 147 rfl rfl
theorem fl_X6_23 : Cond.fieldLink RX6 23 RX6 (TX6 2).2.1 (TX6 2).2.2.1 ∈ gtbl := tw1 148 rfl rfl
theorem fl_X6_31 : Cond.fieldLink RX6 31 RX6 (TX6 3).2.1 (TX6 3).2.2.1 ∈ gtbl := tw1 149 rfl rfl
theorem fl_X6_35 : Cond.fieldLink RX6 35 RX6 (TX6 4).2.1 (TX6 4).2.2.1 ∈ gtbl := tw1 150 rfl rfl
theorem fl_X6_41 : Cond.fieldLink RX6 41 RX6 (TX6 5).2.1 (TX6 5).2.2.1 ∈ gtbl := tw1 151 rfl rfl
theorem fl_X6_45 : Cond.fieldLink RX6 45 RX6 (TX6 6).2.1 (TX6 6).2.2.1 ∈ gtbl := tw1 152 rfl rfl
theorem fl_X6_51 : Cond.fieldLink RX6 51 RX6 (TX6 7).2.1 (TX6 7).2.2.1 ∈ gtbl := tw1 153 rfl rfl
theorem fl_X6_58 : Cond.fieldLink RX6 58 RX6 (TX6 8).2.1 (TX6 8).2.2.1 ∈ gtbl := tw1 154 rfl rfl
theorem fl_X6_62 : Cond.fieldLink RX6 62 RX6 (TX6 9).2.1 (TX6 9).2.2.1 ∈ gtbl := tw1 155 rfl rfl
theorem fl_X6_66 : Cond.fieldLink RX6 66 RX6 "FIRST_TOWN" "[I" ∈ gtbl := tw1 140 rfl rfl
theorem fl_X0_9 : Cond.fieldLink RX0 9 RX0 (TX0 0).2.1 (TX0 0).2.2.1 ∈ gtbl := tw1 133 rfl rfl
theorem fl_X0_15 : Cond.fieldLink RX0 15 RX0 (TX0 1).2.1 (TX0 1).2.2.1 ∈ gtbl := tw1 134 rfl rfl
theorem fl_X1_11 : Cond.fieldLink RX1 11 RX1 (TX1 0).2.1 (TX1 0).2.2.1 ∈ gtbl := tw1 95 rfl rfl
theorem fl_X1_15 : Cond.fieldLink RX1 15 RX1 (TX1 1).2.1 (TX1 1).2.2.1 ∈ gtbl := tw1 96 rfl rfl
theorem fl_X1_18 : Cond.fieldLink RX1 18 RX1 (TX1 2).2.1 (TX1 2).2.2.1 ∈ gtbl := tw1 97 rfl rfl
theorem fl_X1_21 : Cond.fieldLink RX1 21 RX1 (TX1 3).2.1 (TX1 3).2.2.1 ∈ gtbl := tw1 98 rfl rfl
theorem fl_X2_7 : Cond.fieldLink RX2 7 RX2 (TX2 1).2.1 (TX2 1).2.2.1 ∈ gtbl := tw1 83 rfl rfl
theorem fl_X2_21 : Cond.fieldLink RX2 21 RX2 (TX2 0).2.1 (TX2 0).2.2.1 ∈ gtbl := tw1 82 rfl rfl
theorem fl_X3_11 : Cond.fieldLink RX3 11 RX3 (TX3 0).2.1 (TX3 0).2.2.1 ∈ gtbl := tw1 27 rfl rfl
theorem fl_X3_15 : Cond.fieldLink RX3 15 RX3 (TX3 1).2.1 (TX3 1).2.2.1 ∈ gtbl := tw1 28 rfl rfl
theorem fl_X3_19 : Cond.fieldLink RX3 19 RX3 (TX3 2).2.1 (TX3 2).2.2.1 ∈ gtbl := tw1 29 rfl rfl
theorem fl_X3_47 : Cond.fieldLink RX3 47 RX3 "LEAST" "[I" ∈ gtbl := tw1 232 rfl rfl
theorem fl_X3_50 : Cond.fieldLink RX3 50 RX3 "MOST" "[I" ∈ gtbl := tw1 234 rfl rfl
theorem fl_X4_9 : Cond.fieldLink RX4 9 RX4 (TX4 0).2.1 (TX4 0).2.2.1 ∈ gtbl := tw1 114 rfl rfl
theorem fl_X4_15 : Cond.fieldLink RX4 15 RX4 (TX4 1).2.1 (TX4 1).2.2.1 ∈ gtbl := tw1 115 rfl rfl
theorem fl_X4_18 : Cond.fieldLink RX4 18 RX4 (TX4 2).2.1 (TX4 2).2.2.1 ∈ gtbl := tw1 116 rfl rfl
theorem fl_X4_22 : Cond.fieldLink RX4 22 RX4 (TX4 3).2.1 (TX4 3).2.2.1 ∈ gtbl := tw1 117 rfl rfl
theorem fl_X5_9 : Cond.fieldLink RX5 9 RX5 (TX5 0).2.1 (TX5 0).2.2.1 ∈ gtbl := tw1 45 rfl rfl
theorem fl_X5_15 : Cond.fieldLink RX5 15 RX5 (TX5 1).2.1 (TX5 1).2.2.1 ∈ gtbl := tw1 46 rfl rfl
theorem fl_X5_18 : Cond.fieldLink RX5 18 RX5 (TX5 2).2.1 (TX5 2).2.2.1 ∈ gtbl := tw1 47 rfl rfl
theorem fl_X5_21 : Cond.fieldLink RX5 21 RX5 (TX5 3).2.1 (TX5 3).2.2.1 ∈ gtbl := tw1 48 rfl rfl
theorem fl_X5_24 : Cond.fieldLink RX5 24 RX5 (TX5 4).2.1 (TX5 4).2.2.1 ∈ gtbl := tw1 49 rfl rfl
theorem fl_X5_27 : Cond.fieldLink RX5 27 RX5 (TX5 5).2.1 (TX5 5).2.2.1 ∈ gtbl := tw1 50 rfl rfl
theorem fl_X5_31 : Cond.fieldLink RX5 31 RX5 (TX5 6).2.1 (TX5 6).2.2.1 ∈ gtbl := tw1 51 rfl rfl
theorem fl_X5_34 : Cond.fieldLink RX5 34 RX5 (TX5 7).2.1 (TX5 7).2.2.1 ∈ gtbl := tw1 52 rfl rfl
theorem fl_X7_9 : Cond.fieldLink RX7 9 RX7 (TX7 1).2.1 (TX7 1).2.2.1 ∈ gtbl := tw3 113 rfl rfl
theorem fl_X7_13 : Cond.fieldLink RX7 13 RX7 (TX7 4).2.1 (TX7 4).2.2.1 ∈ gtbl := tw3 116 rfl rfl
theorem fl_X7_16 : Cond.fieldLink RX7 16 RX7 (TX7 5).2.1 (TX7 5).2.2.1 ∈ gtbl := tw3 117 rfl rfl
theorem fl_X7_19 : Cond.fieldLink RX7 19 RX7 (TX7 6).2.1 (TX7 6).2.2.1 ∈ gtbl := tw3 118 rfl rfl
theorem fl_X7_22 : Cond.fieldLink RX7 22 RX7 (TX7 7).2.1 (TX7 7).2.2.1 ∈ gtbl := tw3 119 rfl rfl
theorem fl_X7_25 : Cond.fieldLink RX7 25 RX7 (TX7 9).2.1 (TX7 9).2.2.1 ∈ gtbl := tw3 121 rfl rfl
theorem fl_X7_28 : Cond.fieldLink RX7 28 RX7 (TX7 10).2.1 (TX7 10).2.2.1 ∈ gtbl := tw3 122 rfl rfl
theorem fl_X7_31 : Cond.fieldLink RX7 31 RX7 (TX7 11).2.1 (TX7 11).2.2.1 ∈ gtbl := tw3 123 rfl rfl
theorem fl_X7_34 : Cond.fieldLink RX7 34 RX7 (TX7 13).2.1 (TX7 13).2.2.1 ∈ gtbl := tw3 125 rfl rfl
theorem fl_X7_37 : Cond.fieldLink RX7 37 RX7 (TX7 14).2.1 (TX7 14).2.2.1 ∈ gtbl := tw3 126 rfl rfl
theorem fl_X7_40 : Cond.fieldLink RX7 40 RX7 (TX7 15).2.1 (TX7 15).2.2.1 ∈ gtbl := tw3 127 rfl rfl
theorem fl_X7_43 : Cond.fieldLink RX7 43 RX7 (TX7 19).2.1 (TX7 19).2.2.1 ∈ gtbl := tw3 131 rfl rfl
theorem fl_X7_46 : Cond.fieldLink RX7 46 RX7 (TX7 21).2.1 (TX7 21).2.2.1 ∈ gtbl := tw3 133 rfl rfl
theorem fl_X7_49 : Cond.fieldLink RX7 49 RX7 (TX7 23).2.1 (TX7 23).2.2.1 ∈ gtbl := tw3 135 rfl rfl
theorem fl_X7_52 : Cond.fieldLink RX7 52 RX7 (TX7 25).2.1 (TX7 25).2.2.1 ∈ gtbl := tw3 137 rfl rfl
theorem fl_X7_55 : Cond.fieldLink RX7 55 RX7 (TX7 26).2.1 (TX7 26).2.2.1 ∈ gtbl := tw3 138 rfl rfl
theorem fl_X7_58 : Cond.fieldLink RX7 58 RX7 (TX7 27).2.1 (TX7 27).2.2.1 ∈ gtbl := tw3 139 rfl rfl
theorem fl_X7_61 : Cond.fieldLink RX7 61 RX7 (TX7 28).2.1 (TX7 28).2.2.1 ∈ gtbl := tw3 140 rfl rfl
theorem fl_X7_68 : Cond.fieldLink RX7 68 RX7 (TX7 0).2.1 (TX7 0).2.2.1 ∈ gtbl := tw3 112 rfl rfl
theorem fl_X7_76 : Cond.fieldLink RX7 76 RX7 (TX7 16).2.1 (TX7 16).2.2.1 ∈ gtbl := tw3 128 rfl rfl
theorem fl_X7_79 : Cond.fieldLink RX7 79 RX7 (TX7 17).2.1 (TX7 17).2.2.1 ∈ gtbl := tw3 129 rfl rfl
theorem fl_X7_90 : Cond.fieldLink RX7 90 RX7 (TX7 20).2.1 (TX7 20).2.2.1 ∈ gtbl := tw3 132 rfl rfl
theorem fl_X7_93 : Cond.fieldLink RX7 93 RX7 (TX7 18).2.1 (TX7 18).2.2.1 ∈ gtbl := tw3 130 rfl rfl
theorem fl_X7_109 : Cond.fieldLink RX7 109 RX7 (TX7 2).2.1 (TX7 2).2.2.1 ∈ gtbl := tw3 114 rfl rfl
theorem fl_X7_112 : Cond.fieldLink RX7 112 RX7 (TX7 3).2.1 (TX7 3).2.2.1 ∈ gtbl := tw3 115 rfl rfl
theorem fl_X7_115 : Cond.fieldLink RX7 115 RX7 (TX7 8).2.1 (TX7 8).2.2.1 ∈ gtbl := tw3 120 rfl rfl
theorem fl_X7_118 : Cond.fieldLink RX7 118 RX7 (TX7 12).2.1 (TX7 12).2.2.1 ∈ gtbl := tw3 124 rfl rfl
theorem fl_X7_121 : Cond.fieldLink RX7 121 RX7 (TX7 22).2.1 (TX7 22).2.2.1 ∈ gtbl := tw3 134 rfl rfl
theorem fl_X7_124 : Cond.fieldLink RX7 124 RX7 (TX7 29).2.1 (TX7 29).2.2.1 ∈ gtbl := tw3 141 rfl rfl
theorem fl_X7_198 : Cond.fieldLink RX7 198 RX7 (TX7 24).2.1 (TX7 24).2.2.1 ∈ gtbl := tw3 136 rfl rfl
theorem ml_X6_1 : Cond.methodLink RX6 1 objectInit ∈ gtbl := tw1 18 rfl rfl
theorem ml_X6_28 : Cond.methodLink RX6 28 yX2_init ∈ gtbl := tw1 72 rfl rfl
theorem ml_X6_69 : Cond.methodLink RX6 69 yX5_settle ∈ gtbl := tw1 142 rfl rfl
theorem ml_X6_73 : Cond.methodLink RX6 73 yX6_outside ∈ gtbl := tw1 181 rfl rfl
theorem ml_X6_77 : Cond.methodLink RX6 77 yX3_append ∈ gtbl := tw1 184 rfl rfl
theorem ml_X6_81 : Cond.methodLink RX6 81 yX3_length ∈ gtbl := tw1 188 rfl rfl
theorem ml_X6_85 : Cond.methodLink RX6 85 yX3_empty ∈ gtbl := tw1 196 rfl rfl
theorem ml_X6_88 : Cond.methodLink RX6 88 yX3_readInto ∈ gtbl := tw1 204 rfl rfl
theorem ml_X6_92 : Cond.methodLink RX6 92 yX5_size ∈ gtbl := tw2 1 rfl rfl
theorem ml_X6_95 : Cond.methodLink RX6 95 yX5_become ∈ gtbl := tw2 5 rfl rfl
theorem ml_X6_99 : Cond.methodLink RX6 99 yX1_empty ∈ gtbl := tw2 12 rfl rfl
theorem ml_X6_100 : Cond.methodLink RX6 100 yX2_empty ∈ gtbl := tw2 16 rfl rfl
theorem ml_X6_102 : Cond.methodLink RX6 102 yX6_noPerson ∈ gtbl := tw2 24 rfl rfl
theorem ml_X6_106 : Cond.methodLink RX6 106 yX5_kindOf ∈ gtbl := tw2 28 rfl rfl
theorem ml_X6_110 : Cond.methodLink RX6 110 yX5_doorOf ∈ gtbl := tw2 32 rfl rfl
theorem ml_X6_113 : Cond.methodLink RX6 113 yX5_widthOf ∈ gtbl := tw2 36 rfl rfl
theorem ml_X6_116 : Cond.methodLink RX6 116 yX5_yardOf ∈ gtbl := tw2 40 rfl rfl
theorem ml_X6_119 : Cond.methodLink RX6 119 yX5_paceOf ∈ gtbl := tw2 44 rfl rfl
theorem ml_X6_122 : Cond.methodLink RX6 122 yX6_noPair ∈ gtbl := tw2 52 rfl rfl
theorem ml_X6_126 : Cond.methodLink RX6 126 yX5_between ∈ gtbl := tw2 56 rfl rfl
theorem ml_X6_130 : Cond.methodLink RX6 130 yX6_noDoor ∈ gtbl := tw2 64 rfl rfl
theorem ml_X6_133 : Cond.methodLink RX6 133 yX5_goersAbout ∈ gtbl := tw2 67 rfl rfl
theorem ml_X6_136 : Cond.methodLink RX6 136 yX5_day ∈ gtbl := tw2 75 rfl rfl
theorem ml_X6_139 : Cond.methodLink RX6 139 yX2_put ∈ gtbl := tw2 79 rfl rfl
theorem ml_X6_142 : Cond.methodLink RX6 142 yX5_letDaysGoBy ∈ gtbl := tw2 92 rfl rfl
theorem ml_X6_145 : Cond.methodLink RX6 145 yX5_hangWreath ∈ gtbl := tw2 116 rfl rfl
theorem ml_X6_149 : Cond.methodLink RX6 149 yJ6_bitCount_0f7a4 ∈ gtbl := tw2 120 rfl rfl
theorem ml_X6_154 : Cond.methodLink RX6 154 yX5_setPace ∈ gtbl := tw2 134 rfl rfl
theorem ml_X6_158 : Cond.methodLink RX6 158 yX2_takeInto ∈ gtbl := tw2 142 rfl rfl
theorem ml_X6_162 : Cond.methodLink RX6 162 yX2_size ∈ gtbl := tw2 146 rfl rfl
theorem ml_X6_163 : Cond.methodLink RX6 163 yX5_yardBehind ∈ gtbl := tw2 154 rfl rfl
theorem ml_X6_167 : Cond.methodLink RX6 167 yX5_goRound ∈ gtbl := tw2 159 rfl rfl
theorem ml_X6_170 : Cond.methodLink RX6 170 yX5_shareWreath ∈ gtbl := tw2 168 rfl rfl
theorem ml_X6_173 : Cond.methodLink RX6 173 yX6_widthsMet ∈ gtbl := tw2 176 rfl rfl
theorem ml_X6_176 : Cond.methodLink RX6 176 yX4_choose ∈ gtbl := tw2 184 rfl rfl
theorem ml_X6_180 : Cond.methodLink RX6 180 yX4_tintOf ∈ gtbl := tw2 210 rfl rfl
theorem ml_X6_183 : Cond.methodLink RX6 183 yX1_note ∈ gtbl := tw2 222 rfl rfl
theorem ml_X6_186 : Cond.methodLink RX6 186 yX1_size ∈ gtbl := tw2 226 rfl rfl
theorem ml_X6_187 : Cond.methodLink RX6 187 yX1_fitPerson ∈ gtbl := tw2 234 rfl rfl
theorem ml_X6_191 : Cond.methodLink RX6 191 yX1_fitRing ∈ gtbl := tw3 11 rfl rfl
theorem ml_X6_194 : Cond.methodLink RX6 194 yX6_markYardsOfRings ∈ gtbl := tw3 19 rfl rfl
theorem ml_X6_197 : Cond.methodLink RX6 197 yX0_follow ∈ gtbl := tw3 32 rfl rfl
theorem ml_X6_201 : Cond.methodLink RX6 201 yX0_weightAt ∈ gtbl := tw3 46 rfl rfl
theorem ml_X6_204 : Cond.methodLink RX6 204 yX6_powerOfTen ∈ gtbl := tw3 50 rfl rfl
theorem ml_X6_207 : Cond.methodLink RX6 207 yX6_commonDivisor ∈ gtbl := tw3 53 rfl rfl
theorem ml_X6_210 : Cond.methodLink RX6 210 Lib.Math.max.name ∈ gtbl := tw3 56 rfl rfl
theorem ml_X6_215 : Cond.methodLink RX6 215 yX6_draw ∈ gtbl := tw3 61 rfl rfl
theorem ml_X6_218 : Cond.methodLink RX6 218 yX5_stir ∈ gtbl := tw3 68 rfl rfl
theorem ml_X6_221 : Cond.methodLink RX6 221 yX5_goers ∈ gtbl := tw3 74 rfl rfl
theorem ml_X6_224 : Cond.methodLink RX6 224 yX5_yardsAdded ∈ gtbl := tw3 80 rfl rfl
theorem ml_X6_227 : Cond.methodLink RX6 227 yX2_isFull ∈ gtbl := tw3 88 rfl rfl
theorem ml_X6_231 : Cond.methodLink RX6 231 yX5_pairs ∈ gtbl := tw3 97 rfl rfl
theorem ml_X6_234 : Cond.methodLink RX6 234 yX5_meetings ∈ gtbl := tw3 98 rfl rfl
theorem ml_X6_237 : Cond.methodLink RX6 237 yJ7_fill_53178 ∈ gtbl := tw3 23 rfl rfl
theorem ml_X0_3 : Cond.methodLink RX0 3 objectInit ∈ gtbl := tw1 132 rfl rfl
theorem ml_X0_18 : Cond.methodLink RX0 18 yJ7_fill_53178 ∈ gtbl := tw3 36 rfl rfl
theorem ml_X0_24 : Cond.methodLink RX0 24 yX5_yardOf ∈ gtbl := tw3 37 rfl rfl
theorem ml_X0_30 : Cond.methodLink RX0 30 yX5_day ∈ gtbl := tw3 38 rfl rfl
theorem ml_X0_34 : Cond.methodLink RX0 34 yX5_kindOf ∈ gtbl := tw3 39 rfl rfl
theorem ml_X0_37 : Cond.methodLink RX0 37 yX5_paceOf ∈ gtbl := tw3 40 rfl rfl
theorem ml_X0_40 : Cond.methodLink RX0 40 yX5_yardsOn ∈ gtbl := tw3 41 rfl rfl
theorem ml_X0_44 : Cond.methodLink RX0 44 yX0_goOn ∈ gtbl := tw3 42 rfl rfl
theorem ml_X1_3 : Cond.methodLink RX1 3 objectInit ∈ gtbl := tw1 94 rfl rfl
theorem ml_X1_25 : Cond.methodLink RX1 25 yX5_yardBehind ∈ gtbl := tw2 238 rfl rfl
theorem ml_X2_1 : Cond.methodLink RX2 1 objectInit ∈ gtbl := tw1 75 rfl rfl
theorem ml_X2_13 : Cond.methodLink RX2 13 Lib.Math.max.name ∈ gtbl := tw1 76 rfl rfl
theorem ml_X2_26 : Cond.methodLink RX2 26 yX2_isFull ∈ gtbl := tw2 83 rfl rfl
theorem ml_X2_30 : Cond.methodLink RX2 30 yX2_dropLowest ∈ gtbl := tw2 87 rfl rfl
theorem ml_X2_33 : Cond.methodLink RX2 33 yX5_become ∈ gtbl := tw2 91 rfl rfl
theorem ml_X3_3 : Cond.methodLink RX3 3 objectInit ∈ gtbl := tw1 26 rfl rfl
theorem ml_X3_23 : Cond.methodLink RX3 23 yX5_empty ∈ gtbl := tw1 208 rfl rfl
theorem ml_X3_28 : Cond.methodLink RX3 28 yX3_readItem ∈ gtbl := tw1 212 rfl rfl
theorem ml_X3_32 : Cond.methodLink RX3 32 yX5_settle ∈ gtbl := tw1 236 rfl rfl
theorem ml_X3_36 : Cond.methodLink RX3 36 yX3_letterAt ∈ gtbl := tw1 216 rfl rfl
theorem ml_X3_40 : Cond.methodLink RX3 40 yX3_figuresAt ∈ gtbl := tw1 221 rfl rfl
theorem ml_X3_43 : Cond.methodLink RX3 43 yX3_numberAt ∈ gtbl := tw1 228 rfl rfl
theorem ml_X3_57 : Cond.methodLink RX3 57 yX3_isFigure ∈ gtbl := tw1 225 rfl rfl
theorem ml_X4_3 : Cond.methodLink RX4 3 objectInit ∈ gtbl := tw1 113 rfl rfl
theorem ml_X4_25 : Cond.methodLink RX4 25 yX5_size ∈ gtbl := tw2 188 rfl rfl
theorem ml_X4_31 : Cond.methodLink RX4 31 yX5_goersAbout ∈ gtbl := tw2 189 rfl rfl
theorem ml_X4_35 : Cond.methodLink RX4 35 yJ7_fill_53178 ∈ gtbl := tw2 190 rfl rfl
theorem ml_X4_41 : Cond.methodLink RX4 41 yX4_markClashes ∈ gtbl := tw2 193 rfl rfl
theorem ml_X4_45 : Cond.methodLink RX4 45 yX5_goRound ∈ gtbl := tw2 198 rfl rfl
theorem ml_X4_48 : Cond.methodLink RX4 48 yX4_paint ∈ gtbl := tw2 199 rfl rfl
theorem ml_X4_52 : Cond.methodLink RX4 52 yX5_between ∈ gtbl := tw2 197 rfl rfl
theorem ml_X4_56 : Cond.methodLink RX4 56 Lib.Math.min.name ∈ gtbl := tw2 202 rfl rfl
theorem ml_X4_61 : Cond.methodLink RX4 61 yX4_isFree ∈ gtbl := tw2 205 rfl rfl
theorem ml_X4_65 : Cond.methodLink RX4 65 Lib.Math.max.name ∈ gtbl := tw2 209 rfl rfl
theorem ml_X5_3 : Cond.methodLink RX5 3 objectInit ∈ gtbl := tw1 44 rfl rfl
theorem ml_X5_37 : Cond.methodLink RX5 37 arraycopyName ∈ gtbl := tw2 9 rfl rfl
theorem ml_X5_43 : Cond.methodLink RX5 43 yX5_goersAbout ∈ gtbl := tw3 78 rfl rfl
theorem ml_X5_47 : Cond.methodLink RX5 47 yJ6_bitCount_0f7a4 ∈ gtbl := tw3 79 rfl rfl
theorem ml_X5_52 : Cond.methodLink RX5 52 yX5_between ∈ gtbl := tw2 111 rfl rfl
theorem ml_X5_56 : Cond.methodLink RX5 56 yX5_goRound ∈ gtbl := tw2 96 rfl rfl
theorem ml_X5_59 : Cond.methodLink RX5 59 yX5_pairs ∈ gtbl := tw2 107 rfl rfl
theorem ml_X5_62 : Cond.methodLink RX5 62 yX5_yardBehind ∈ gtbl := tw2 100 rfl rfl
theorem ml_X5_66 : Cond.methodLink RX5 66 yX5_yardsOn ∈ gtbl := tw2 104 rfl rfl
theorem ml_X5_70 : Cond.methodLink RX5 70 yX5_hangWreath ∈ gtbl := tw3 72 rfl rfl
theorem ml_X5_74 : Cond.methodLink RX5 74 yX5_setPace ∈ gtbl := tw3 73 rfl rfl
theorem ml_L_9 : Cond.methodLink RL 9 yX6_init ∈ gtbl := tw1 15 rfl rfl
theorem ml_L_12 : Cond.methodLink RL 12 yX7_init ∈ gtbl := tw3 104 rfl rfl
theorem ml_L_13 : Cond.methodLink RL 13 yX6_write ∈ gtbl := tw1 177 rfl rfl
theorem ml_L_17 : Cond.methodLink RL 17 yX7_write ∈ gtbl := tw3 203 rfl rfl
theorem ml_L_18 : Cond.methodLink RL 18 yX6_wipe ∈ gtbl := tw1 192 rfl rfl
theorem ml_L_22 : Cond.methodLink RL 22 yX7_wipe ∈ gtbl := tw3 210 rfl rfl
theorem ml_L_23 : Cond.methodLink RL 23 yX6_fault ∈ gtbl := tw1 200 rfl rfl
theorem ml_L_26 : Cond.methodLink RL 26 yX7_fault ∈ gtbl := tw3 214 rfl rfl
theorem ml_L_27 : Cond.methodLink RL 27 yX6_lay ∈ gtbl := tw1 237 rfl rfl
theorem ml_L_30 : Cond.methodLink RL 30 yX7_lay ∈ gtbl := tw3 237 rfl rfl
theorem ml_L_31 : Cond.methodLink RL 31 yX6_person ∈ gtbl := tw2 20 rfl rfl
theorem ml_L_35 : Cond.methodLink RL 35 yX7_person ∈ gtbl := tw4 2 rfl rfl
theorem ml_L_36 : Cond.methodLink RL 36 yX6_near ∈ gtbl := tw2 48 rfl rfl
theorem ml_L_39 : Cond.methodLink RL 39 yX7_near ∈ gtbl := tw4 10 rfl rfl
theorem ml_L_40 : Cond.methodLink RL 40 yX6_about ∈ gtbl := tw2 60 rfl rfl
theorem ml_L_43 : Cond.methodLink RL 43 yX7_about ∈ gtbl := tw4 22 rfl rfl
theorem ml_L_44 : Cond.methodLink RL 44 yX6_pass ∈ gtbl := tw2 71 rfl rfl
theorem ml_L_47 : Cond.methodLink RL 47 yX7_pass ∈ gtbl := tw4 33 rfl rfl
theorem ml_L_48 : Cond.methodLink RL 48 yX6_weave ∈ gtbl := tw2 112 rfl rfl
theorem ml_L_52 : Cond.methodLink RL 52 yX7_weave ∈ gtbl := tw4 64 rfl rfl
theorem ml_L_53 : Cond.methodLink RL 53 yX6_off ∈ gtbl := tw2 126 rfl rfl
theorem ml_L_56 : Cond.methodLink RL 56 yX7_off ∈ gtbl := tw4 75 rfl rfl
theorem ml_L_57 : Cond.methodLink RL 57 yX6_pace ∈ gtbl := tw2 130 rfl rfl
theorem ml_L_60 : Cond.methodLink RL 60 yX7_pace ∈ gtbl := tw4 79 rfl rfl
theorem ml_L_61 : Cond.methodLink RL 61 yX6_undo ∈ gtbl := tw2 138 rfl rfl
theorem ml_L_64 : Cond.methodLink RL 64 yX7_undo ∈ gtbl := tw4 83 rfl rfl
theorem ml_L_65 : Cond.methodLink RL 65 yX6_behind ∈ gtbl := tw2 150 rfl rfl
theorem ml_L_68 : Cond.methodLink RL 68 yX7_behind ∈ gtbl := tw4 91 rfl rfl
theorem ml_L_69 : Cond.methodLink RL 69 yX6_first ∈ gtbl := tw2 155 rfl rfl
theorem ml_L_72 : Cond.methodLink RL 72 yX7_first ∈ gtbl := tw4 99 rfl rfl
theorem ml_L_73 : Cond.methodLink RL 73 yX6_all ∈ gtbl := tw2 160 rfl rfl
theorem ml_L_76 : Cond.methodLink RL 76 yX7_all ∈ gtbl := tw4 107 rfl rfl
theorem ml_L_77 : Cond.methodLink RL 77 yX6_paces ∈ gtbl := tw2 164 rfl rfl
theorem ml_L_80 : Cond.methodLink RL 80 yX7_paces ∈ gtbl := tw4 119 rfl rfl
theorem ml_L_81 : Cond.methodLink RL 81 yX6_shy ∈ gtbl := tw2 172 rfl rfl
theorem ml_L_84 : Cond.methodLink RL 84 yX7_shy ∈ gtbl := tw4 123 rfl rfl
theorem ml_L_85 : Cond.methodLink RL 85 yX6_spread ∈ gtbl := tw2 180 rfl rfl
theorem ml_L_88 : Cond.methodLink RL 88 yX7_spread ∈ gtbl := tw4 134 rfl rfl
theorem ml_L_89 : Cond.methodLink RL 89 yX6_dear ∈ gtbl := tw2 214 rfl rfl
theorem ml_L_92 : Cond.methodLink RL 92 yX7_dear ∈ gtbl := tw4 150 rfl rfl
theorem ml_L_93 : Cond.methodLink RL 93 yX6_seen ∈ gtbl := tw2 218 rfl rfl
theorem ml_L_96 : Cond.methodLink RL 96 yX7_seen ∈ gtbl := tw4 154 rfl rfl
theorem ml_L_97 : Cond.methodLink RL 97 yX6_kinds ∈ gtbl := tw2 230 rfl rfl
theorem ml_L_100 : Cond.methodLink RL 100 yX7_kinds ∈ gtbl := tw4 158 rfl rfl
theorem ml_L_101 : Cond.methodLink RL 101 yX6_speeds ∈ gtbl := tw2 239 rfl rfl
theorem ml_L_104 : Cond.methodLink RL 104 yX7_speeds ∈ gtbl := tw4 166 rfl rfl
theorem ml_L_105 : Cond.methodLink RL 105 yX6_told ∈ gtbl := tw3 3 rfl rfl
theorem ml_L_108 : Cond.methodLink RL 108 yX7_told ∈ gtbl := tw4 170 rfl rfl
theorem ml_L_109 : Cond.methodLink RL 109 yX6_rings ∈ gtbl := tw3 7 rfl rfl
theorem ml_L_112 : Cond.methodLink RL 112 yX7_rings ∈ gtbl := tw4 174 rfl rfl
theorem ml_L_113 : Cond.methodLink RL 113 yX6_look ∈ gtbl := tw3 15 rfl rfl
theorem ml_L_116 : Cond.methodLink RL 116 yX7_look ∈ gtbl := tw4 182 rfl rfl
theorem ml_L_117 : Cond.methodLink RL 117 yX6_forget ∈ gtbl := tw3 24 rfl rfl
theorem ml_L_120 : Cond.methodLink RL 120 yX7_forget ∈ gtbl := tw4 190 rfl rfl
theorem ml_L_121 : Cond.methodLink RL 121 yX6_likely ∈ gtbl := tw3 28 rfl rfl
theorem ml_L_125 : Cond.methodLink RL 125 yX7_likely ∈ gtbl := tw4 194 rfl rfl
theorem ml_L_126 : Cond.methodLink RL 126 yX6_season ∈ gtbl := tw3 57 rfl rfl
theorem ml_L_129 : Cond.methodLink RL 129 yX7_season ∈ gtbl := tw4 202 rfl rfl
theorem ml_L_130 : Cond.methodLink RL 130 yX6_keep ∈ gtbl := tw3 84 rfl rfl
theorem ml_L_133 : Cond.methodLink RL 133 yX7_keep ∈ gtbl := tw4 210 rfl rfl
theorem ml_L_134 : Cond.methodLink RL 134 yX6_back ∈ gtbl := tw3 89 rfl rfl
theorem ml_L_137 : Cond.methodLink RL 137 yX7_back ∈ gtbl := tw4 214 rfl rfl
theorem ml_L_138 : Cond.methodLink RL 138 yX6_count ∈ gtbl := tw3 93 rfl rfl
theorem ml_L_141 : Cond.methodLink RL 141 yX7_count ∈ gtbl := tw4 218 rfl rfl
theorem ml_X7_3 : Cond.methodLink RX7 3 objectInit ∈ gtbl := tw3 107 rfl rfl
theorem ml_X7_64 : Cond.methodLink RX7 64 yX7_comes ∈ gtbl := tw3 108 rfl rfl
theorem ml_X7_72 : Cond.methodLink RX7 72 yX7_in ∈ gtbl := tw3 207 rfl rfl
theorem ml_X7_82 : Cond.methodLink RX7 82 yX7_here ∈ gtbl := tw3 222 rfl rfl
theorem ml_X7_86 : Cond.methodLink RX7 86 yX7_isFigure ∈ gtbl := tw3 233 rfl rfl
theorem ml_X7_96 : Cond.methodLink RX7 96 yX7_highest ∈ gtbl := tw3 226 rfl rfl
theorem ml_X7_100 : Cond.methodLink RX7 100 yX7_number ∈ gtbl := tw3 229 rfl rfl
theorem ml_X7_103 : Cond.methodLink RX7 103 yX7_readsItem ∈ gtbl := tw3 218 rfl rfl
theorem ml_X7_106 : Cond.methodLink RX7 106 yX7_fault ∈ gtbl := tw4 1 rfl rfl
theorem ml_X7_127 : Cond.methodLink RX7 127 yX7_goes ∈ gtbl := tw4 57 rfl rfl
theorem ml_X7_131 : Cond.methodLink RX7 131 yX7_isAbout ∈ gtbl := tw4 18 rfl rfl
theorem ml_X7_135 : Cond.methodLink RX7 135 yX7_yardThen ∈ gtbl := tw4 53 rfl rfl
theorem ml_X7_139 : Cond.methodLink RX7 139 yX7_pairs ∈ gtbl := tw4 60 rfl rfl
theorem ml_X7_143 : Cond.methodLink RX7 143 yX7_passes ∈ gtbl := tw4 49 rfl rfl
theorem ml_X7_146 : Cond.methodLink RX7 146 yX7_isPerson ∈ gtbl := tw4 6 rfl rfl
theorem ml_X7_150 : Cond.methodLink RX7 150 yX7_meets ∈ gtbl := tw4 14 rfl rfl
theorem ml_X7_153 : Cond.methodLink RX7 153 yX7_isDoor ∈ gtbl := tw4 26 rfl rfl
theorem ml_X7_156 : Cond.methodLink RX7 156 yX7_thoseAbout ∈ gtbl := tw4 29 rfl rfl
theorem ml_X7_159 : Cond.methodLink RX7 159 yX7_lays ∈ gtbl := tw4 41 rfl rfl
theorem ml_X7_163 : Cond.methodLink RX7 163 yX7_notes ∈ gtbl := tw4 37 rfl rfl
theorem ml_X7_166 : Cond.methodLink RX7 166 yX7_goesOn ∈ gtbl := tw4 45 rfl rfl
theorem ml_X7_170 : Cond.methodLink RX7 170 yX7_weaves ∈ gtbl := tw4 68 rfl rfl
theorem ml_X7_174 : Cond.methodLink RX7 174 yX7_bits ∈ gtbl := tw4 72 rfl rfl
theorem ml_X7_177 : Cond.methodLink RX7 177 yX7_takes ∈ gtbl := tw4 87 rfl rfl
theorem ml_X7_180 : Cond.methodLink RX7 180 yX7_yardBehind ∈ gtbl := tw4 95 rfl rfl
theorem ml_X7_183 : Cond.methodLink RX7 183 yX7_isSame ∈ gtbl := tw4 103 rfl rfl
theorem ml_X7_186 : Cond.methodLink RX7 186 yX7_begin ∈ gtbl := tw4 111 rfl rfl
theorem ml_X7_189 : Cond.methodLink RX7 189 yX7_putBack ∈ gtbl := tw4 115 rfl rfl
theorem ml_X7_192 : Cond.methodLink RX7 192 yX7_share ∈ gtbl := tw4 127 rfl rfl
theorem ml_X7_195 : Cond.methodLink RX7 195 yX7_has ∈ gtbl := tw4 131 rfl rfl
theorem ml_X7_201 : Cond.methodLink RX7 201 yX7_nextWidth ∈ gtbl := tw4 146 rfl rfl
theorem ml_X7_204 : Cond.methodLink RX7 204 yX7_setGuests ∈ gtbl := tw4 138 rfl rfl
theorem ml_X7_207 : Cond.methodLink RX7 207 yX7_isWay ∈ gtbl := tw4 142 rfl rfl
theorem ml_X7_210 : Cond.methodLink RX7 210 yX7_isSo ∈ gtbl := tw4 162 rfl rfl
theorem ml_X7_213 : Cond.methodLink RX7 213 yX7_isRing ∈ gtbl := tw4 178 rfl rfl
theorem ml_X7_216 : Cond.methodLink RX7 216 yX7_yardsBehind ∈ gtbl := tw4 186 rfl rfl
theorem ml_X7_221 : Cond.methodLink RX7 221 yX7_common ∈ gtbl := tw4 199 rfl rfl
theorem ml_X7_233 : Cond.methodLink RX7 233 yX7_aboutMany ∈ gtbl := tw4 222 rfl rfl
theorem nl_X6_9 : Cond.methodLinkNest RX6 9 yX3_init RX6 ∈ nestTbl := List.mem_of_getElem? (i := 0) rfl
theorem nl_X6_18 : Cond.methodLinkNest RX6 18 yX5_init RX6 ∈ nestTbl := List.mem_of_getElem? (i := 1) rfl
theorem nl_X6_40 : Cond.methodLinkNest RX6 40 yX1_init RX6 ∈ nestTbl := List.mem_of_getElem? (i := 3) rfl
theorem nl_X6_50 : Cond.methodLinkNest RX6 50 yX4_init RX6 ∈ nestTbl := List.mem_of_getElem? (i := 4) rfl
theorem nl_X6_57 : Cond.methodLinkNest RX6 57 yX0_init RX6 ∈ nestTbl := List.mem_of_getElem? (i := 5) rfl
theorem nl_X2_25 : Cond.methodLinkNest RX2 25 yX5_init RX6 ∈ nestTbl := List.mem_of_getElem? (i := 2) rfl
theorem nl_X3_53 : Cond.methodLinkNest RX3 53 yX6_outside RX6 ∈ nestTbl := List.mem_of_getElem? (i := 6) rfl
theorem kl_X6_7 : Cond.classLink RX6 7 RX3 ∈ gtbl := tw1 21 rfl rfl
theorem kl_X6_16 : Cond.classLink RX6 16 RX5 ∈ gtbl := tw1 39 rfl rfl
theorem kl_X6_26 : Cond.classLink RX6 26 RX2 ∈ gtbl := tw1 70 rfl rfl
theorem kl_X6_38 : Cond.classLink RX6 38 RX1 ∈ gtbl := tw1 89 rfl rfl
theorem kl_X6_48 : Cond.classLink RX6 48 RX4 ∈ gtbl := tw1 108 rfl rfl
theorem kl_X6_55 : Cond.classLink RX6 55 RX0 ∈ gtbl := tw1 127 rfl rfl
theorem kl_X2_19 : Cond.classLink RX2 19 RX5 ∈ gtbl := tw1 79 rfl rfl
theorem kl_L_7 : Cond.classLink RL 7 RX6 ∈ gtbl := tw1 13 rfl rfl
theorem kl_L_10 : Cond.classLink RL 10 RX7 ∈ gtbl := tw3 102 rfl rfl
theorem cw_X6_243 : Cond.constantLong RX6 243 (7919) ∈ gtbl := tw3 64 rfl rfl
theorem cw_X6_245 : Cond.constantLong RX6 245 (6151) ∈ gtbl := tw3 65 rfl rfl
theorem cw_X6_247 : Cond.constantLong RX6 247 (65521) ∈ gtbl := tw3 66 rfl rfl
theorem cw_X6_249 : Cond.constantLong RX6 249 (2) ∈ gtbl := tw3 67 rfl rfl
theorem cw_X7_219 : Cond.constantLong RX7 219 (10) ∈ gtbl := tw4 198 rfl rfl
theorem cw_X7_225 : Cond.constantLong RX7 225 (7919) ∈ gtbl := tw4 206 rfl rfl
theorem cw_X7_227 : Cond.constantLong RX7 227 (6151) ∈ gtbl := tw4 207 rfl rfl
theorem cw_X7_229 : Cond.constantLong RX7 229 (65521) ∈ gtbl := tw4 208 rfl rfl
theorem cw_X7_231 : Cond.constantLong RX7 231 (2) ∈ gtbl := tw4 209 rfl rfl
theorem cw_J6_265 : Cond.constant RJ6 265 (1431655765) ∈ gtbl := tw2 123 rfl rfl
theorem cw_J6_266 : Cond.constant RJ6 266 (858993459) ∈ gtbl := tw2 124 rfl rfl
theorem cw_J6_267 : Cond.constant RJ6 267 (252645135) ∈ gtbl := tw2 125 rfl rfl
theorem iw_0 : Cond.instantiable RX0 2 ∈ gtbl := tw1 128 rfl rfl
theorem nw_0 : Cond.initialized RX0 ∈ gtbl := tw1 8 rfl rfl
theorem iw_1 : Cond.instantiable RX1 4 ∈ gtbl := tw1 90 rfl rfl
theorem nw_1 : Cond.initialized RX1 ∈ gtbl := tw1 6 rfl rfl
theorem iw_2 : Cond.instantiable RX2 2 ∈ gtbl := tw1 71 rfl rfl
theorem nw_2 : Cond.initialized RX2 ∈ gtbl := tw1 4 rfl rfl
theorem iw_3 : Cond.instantiable RX3 3 ∈ gtbl := tw1 22 rfl rfl
theorem nw_3 : Cond.initialized RX3 ∈ gtbl := tw1 2 rfl rfl
theorem iw_4 : Cond.instantiable RX4 4 ∈ gtbl := tw1 109 rfl rfl
theorem nw_4 : Cond.initialized RX4 ∈ gtbl := tw1 7 rfl rfl
theorem iw_5 : Cond.instantiable RX5 8 ∈ gtbl := tw1 40 rfl rfl
theorem nw_5 : Cond.initialized RX5 ∈ gtbl := tw1 3 rfl rfl
theorem iw_6 : Cond.instantiable RX6 10 ∈ gtbl := tw1 14 rfl rfl
theorem nw_6 : Cond.initialized RX6 ∈ gtbl := tw1 1 rfl rfl
theorem iw_7 : Cond.instantiable RX7 30 ∈ gtbl := tw3 103 rfl rfl
theorem nw_7 : Cond.initialized RX7 ∈ gtbl := tw1 9 rfl rfl
theorem nw_J6 : Cond.initialized RJ6 ∈ gtbl := tw1 11 rfl rfl
theorem nw_J7 : Cond.initialized RJ7 ∈ gtbl := tw1 12 rfl rfl
theorem aw_int : Cond.arrayClass .int ∈ gtbl := tw1 38 rfl rfl
theorem aw_char : Cond.arrayClass .char ∈ gtbl := tw1 37 rfl rfl
theorem maxw1 : Cond.static Lib.Math.max.name ∈ gtbl := tw1 77 rfl rfl
theorem maxw2 : Cond.initialized "java/lang/Math" ∈ gtbl := tw1 5 rfl rfl
theorem maxw3 : Cond.code Lib.Math.max.name Lib.Math.max.code 2 (some .int) ∈ gtbl := tw1 78 (by decide +kernel) rfl
theorem minw1 : Cond.static Lib.Math.min.name ∈ gtbl := tw2 203 rfl rfl
theorem minw2 : Cond.initialized "java/lang/Math" ∈ gtbl := tw1 5 rfl rfl
theorem minw3 : Cond.code Lib.Math.min.name Lib.Math.min.code 2 (some .int) ∈ gtbl := tw2 204 (by decide +kernel) rfl
theorem cpw1 : Cond.native arraycopyName ∈ gtbl := tw2 11 rfl rfl
theorem cpw2 : Cond.static arraycopyName ∈ gtbl := tw2 10 rfl rfl
theorem cpw3 : Cond.initialized "java/lang/System" ∈ gtbl := tw1 10 rfl rfl
theorem objw1 : Cond.instanceMethod objectInit ∈ gtbl := tw1 19 rfl rfl
theorem objw2 : Cond.code objectInit ⟨#[0xb1]⟩ 1 none ∈ gtbl := tw1 20 (by decide +kernel) rfl
def Y_J6_bitCount : MT := (yJ6_bitCount_0f7a4, cJ6_bitCount_0f7a4, 1, (some .int), rmk 1 0 0)
theorem ce_J6_bitCount : CeS Y_J6_bitCount 1 := ⟨tw2 121 rfl rfl, nw_J6, tw2 122 rfl rfl, by decide, by decide, by decide +kernel⟩
def Y_J7_fill : MT := (yJ7_fill_53178, cJ7_fill_53178, 4, none, rmk 1 0 0)
theorem ce_J7_fill : CeS Y_J7_fill 2 := ⟨tw2 191 rfl rfl, nw_J7, tw2 192 rfl rfl, by decide, by decide, by decide +kernel⟩
def Y_L_law : MT := (yL_law, cL_law, 4, (some .boolean), room_1)
def Y_X0_follow : MT := (yX0_follow, cX0_follow, 6, none, rmk 3 0 0)
theorem ce_X0_follow : CeV Y_X0_follow RX0 4 := ⟨tw3 33 rfl rfl, tw3 34 rfl rfl, nw_0, tw3 35 rfl rfl, rfl, by decide, by decide, by decide +kernel⟩
def Y_X0_goOn : MT := (yX0_goOn, cX0_goOn, 4, none, rmk 2 0 0)
theorem ce_X0_goOn : CeV Y_X0_goOn RX0 2 := ⟨tw3 44 rfl rfl, tw0 11 rfl rfl, nw_0, tw3 45 rfl rfl, rfl, by decide, by decide, by decide +kernel⟩
def Y_X0_init : MT := (yX0_init, cX0_init, 1, none, rmk 1 2 24)
theorem ce_X0_init : CeI Y_X0_init 0 := ⟨tw1 130 rfl rfl, nw_0, tw1 131 rfl rfl, rfl, rfl, by decide, by decide, by decide +kernel⟩
def Y_X0_weightAt : MT := (yX0_weightAt, cX0_weightAt, 2, (some .int), rmk 1 0 0)
theorem ce_X0_weightAt : CeV Y_X0_weightAt RX0 1 := ⟨tw3 47 rfl rfl, tw3 48 rfl rfl, nw_0, tw3 49 rfl rfl, rfl, by decide, by decide, by decide +kernel⟩
def Y_X1_empty : MT := (yX1_empty, cX1_empty, 2, (some .int), rmk 1 0 0)
theorem ce_X1_empty : CeV Y_X1_empty RX1 0 := ⟨tw2 13 rfl rfl, tw2 14 rfl rfl, nw_1, tw2 15 rfl rfl, rfl, by decide, by decide, by decide +kernel⟩
def Y_X1_fitPerson : MT := (yX1_fitPerson, cX1_fitPerson, 6, (some .boolean), rmk 3 0 0)
theorem ce_X1_fitPerson : CeV Y_X1_fitPerson RX1 4 := ⟨tw2 235 rfl rfl, tw2 236 rfl rfl, nw_1, tw2 237 rfl rfl, rfl, by decide, by decide, by decide +kernel⟩
def Y_X1_fitRing : MT := (yX1_fitRing, cX1_fitRing, 4, (some .boolean), rmk 1 0 0)
theorem ce_X1_fitRing : CeV Y_X1_fitRing RX1 2 := ⟨tw3 12 rfl rfl, tw3 13 rfl rfl, nw_1, tw3 14 rfl rfl, rfl, by decide, by decide, by decide +kernel⟩
def Y_X1_init : MT := (yX1_init, cX1_init, 1, none, rmk 1 3 18)
theorem ce_X1_init : CeI Y_X1_init 0 := ⟨tw1 92 rfl rfl, nw_1, tw1 93 rfl rfl, rfl, rfl, by decide, by decide, by decide +kernel⟩
def Y_X1_note : MT := (yX1_note, cX1_note, 4, (some .boolean), rmk 1 0 0)
theorem ce_X1_note : CeV Y_X1_note RX1 3 := ⟨tw2 223 rfl rfl, tw2 224 rfl rfl, nw_1, tw2 225 rfl rfl, rfl, by decide, by decide, by decide +kernel⟩
def Y_X1_size : MT := (yX1_size, cX1_size, 1, (some .int), rmk 1 0 0)
theorem ce_X1_size : CeV Y_X1_size RX1 0 := ⟨tw2 227 rfl rfl, tw2 228 rfl rfl, nw_1, tw2 229 rfl rfl, rfl, by decide, by decide, by decide +kernel⟩
def Y_X2_dropLowest : MT := (yX2_dropLowest, cX2_dropLowest, 3, none, rmk 1 0 0)
theorem ce_X2_dropLowest : CeV Y_X2_dropLowest RX2 0 := ⟨tw2 89 rfl rfl, tw0 6 rfl rfl, nw_2, tw2 90 rfl rfl, rfl, by decide, by decide, by decide +kernel⟩
def Y_X2_empty : MT := (yX2_empty, cX2_empty, 1, none, rmk 1 0 0)
theorem ce_X2_empty : CeV Y_X2_empty RX2 0 := ⟨tw2 17 rfl rfl, tw2 18 rfl rfl, nw_2, tw2 19 rfl rfl, rfl, by decide, by decide, by decide +kernel⟩
def Y_X2_init : MT := (yX2_init, cX2_init, 3, none, rmk 2 103 747)
theorem ce_X2_init : CeI Y_X2_init 1 := ⟨tw1 73 rfl rfl, nw_2, tw1 74 rfl rfl, rfl, rfl, by decide, by decide, by decide +kernel⟩
def Y_X2_isFull : MT := (yX2_isFull, cX2_isFull, 1, (some .boolean), rmk 1 0 0)
theorem ce_X2_isFull : CeV Y_X2_isFull RX2 0 := ⟨tw2 84 rfl rfl, tw2 85 rfl rfl, nw_2, tw2 86 rfl rfl, rfl, by decide, by decide, by decide +kernel⟩
def Y_X2_put : MT := (yX2_put, cX2_put, 2, none, rmk 2 0 0)
theorem ce_X2_put : CeV Y_X2_put RX2 1 := ⟨tw2 80 rfl rfl, tw2 81 rfl rfl, nw_2, tw2 82 rfl rfl, rfl, by decide, by decide, by decide +kernel⟩
def Y_X2_size : MT := (yX2_size, cX2_size, 1, (some .int), rmk 1 0 0)
theorem ce_X2_size : CeV Y_X2_size RX2 0 := ⟨tw2 147 rfl rfl, tw2 148 rfl rfl, nw_2, tw2 149 rfl rfl, rfl, by decide, by decide, by decide +kernel⟩
def Y_X2_takeInto : MT := (yX2_takeInto, cX2_takeInto, 2, (some .boolean), rmk 2 0 0)
theorem ce_X2_takeInto : CeV Y_X2_takeInto RX2 1 := ⟨tw2 143 rfl rfl, tw2 144 rfl rfl, nw_2, tw2 145 rfl rfl, rfl, by decide, by decide, by decide +kernel⟩
def Y_X3_append : MT := (yX3_append, cX3_append, 2, (some .boolean), rmk 1 0 0)
theorem ce_X3_append : CeV Y_X3_append RX3 1 := ⟨tw1 185 rfl rfl, tw1 186 rfl rfl, nw_3, tw1 187 rfl rfl, rfl, by decide, by decide, by decide +kernel⟩
def Y_X3_empty : MT := (yX3_empty, cX3_empty, 2, (some .int), rmk 1 0 0)
theorem ce_X3_empty : CeV Y_X3_empty RX3 0 := ⟨tw1 197 rfl rfl, tw1 198 rfl rfl, nw_3, tw1 199 rfl rfl, rfl, by decide, by decide, by decide +kernel⟩
def Y_X3_figuresAt : MT := (yX3_figuresAt, cX3_figuresAt, 2, (some .int), rmk 3 0 0)
theorem ce_X3_figuresAt : CeV Y_X3_figuresAt RX3 1 := ⟨tw1 223 rfl rfl, tw0 2 rfl rfl, nw_3, tw1 224 rfl rfl, rfl, by decide, by decide, by decide +kernel⟩
def Y_X3_init : MT := (yX3_init, cX3_init, 1, none, rmk 1 2 205)
theorem ce_X3_init : CeI Y_X3_init 0 := ⟨tw1 24 rfl rfl, nw_3, tw1 25 rfl rfl, rfl, rfl, by decide, by decide, by decide +kernel⟩
def Y_X3_isFigure : MT := (yX3_isFigure, cX3_isFigure, 1, (some .boolean), rmk 1 0 0)
theorem ce_X3_isFigure : CeS Y_X3_isFigure 1 := ⟨tw1 226 rfl rfl, nw_3, tw1 227 rfl rfl, by decide, by decide, by decide +kernel⟩
def Y_X3_length : MT := (yX3_length, cX3_length, 1, (some .int), rmk 1 0 0)
theorem ce_X3_length : CeV Y_X3_length RX3 0 := ⟨tw1 189 rfl rfl, tw1 190 rfl rfl, nw_3, tw1 191 rfl rfl, rfl, by decide, by decide, by decide +kernel⟩
def Y_X3_letterAt : MT := (yX3_letterAt, cX3_letterAt, 2, (some .char), rmk 2 0 0)
theorem ce_X3_letterAt : CeV Y_X3_letterAt RX3 1 := ⟨tw1 218 rfl rfl, tw0 1 rfl rfl, nw_3, tw1 219 rfl rfl, rfl, by decide, by decide, by decide +kernel⟩
def Y_X3_numberAt : MT := (yX3_numberAt, cX3_numberAt, 5, (some .int), rmk 3 0 0)
theorem ce_X3_numberAt : CeV Y_X3_numberAt RX3 2 := ⟨tw1 230 rfl rfl, tw0 3 rfl rfl, nw_3, tw1 231 rfl rfl, rfl, by decide, by decide, by decide +kernel⟩
def Y_X3_readInto : MT := (yX3_readInto, cX3_readInto, 5, (some .int), rmk 5 0 0)
theorem ce_X3_readInto : CeV Y_X3_readInto RX3 1 := ⟨tw1 205 rfl rfl, tw1 206 rfl rfl, nw_3, tw1 207 rfl rfl, rfl, by decide, by decide, by decide +kernel⟩
def Y_X3_readItem : MT := (yX3_readItem, cX3_readItem, 7, (some .int), rmk 4 0 0)
theorem ce_X3_readItem : CeV Y_X3_readItem RX3 1 := ⟨tw1 214 rfl rfl, tw0 0 rfl rfl, nw_3, tw1 215 rfl rfl, rfl, by decide, by decide, by decide +kernel⟩
def Y_X4_choose : MT := (yX4_choose, cX4_choose, 4, (some .int), rmk 12 0 0)
theorem ce_X4_choose : CeV Y_X4_choose RX4 2 := ⟨tw2 185 rfl rfl, tw2 186 rfl rfl, nw_4, tw2 187 rfl rfl, rfl, by decide, by decide, by decide +kernel⟩
def Y_X4_init : MT := (yX4_init, cX4_init, 1, none, rmk 1 2 14)
theorem ce_X4_init : CeI Y_X4_init 0 := ⟨tw1 111 rfl rfl, nw_4, tw1 112 rfl rfl, rfl, rfl, by decide, by decide, by decide +kernel⟩
def Y_X4_isFree : MT := (yX4_isFree, cX4_isFree, 4, (some .boolean), rmk 1 0 0)
theorem ce_X4_isFree : CeV Y_X4_isFree RX4 2 := ⟨tw2 207 rfl rfl, tw0 9 rfl rfl, nw_4, tw2 208 rfl rfl, rfl, by decide, by decide, by decide +kernel⟩
def Y_X4_markClashes : MT := (yX4_markClashes, cX4_markClashes, 4, none, rmk 2 0 0)
theorem ce_X4_markClashes : CeV Y_X4_markClashes RX4 1 := ⟨tw2 195 rfl rfl, tw0 8 rfl rfl, nw_4, tw2 196 rfl rfl, rfl, by decide, by decide, by decide +kernel⟩
def Y_X4_paint (k : Nat) : MT := (yX4_paint, cX4_paint, 6, (some .boolean), rmk (k + 2) 0 0)
theorem ce_X4_paint {k : Nat} : CeS (Y_X4_paint k) 4 := ⟨tw2 200 rfl rfl, nw_4, tw2 201 rfl rfl, by show yX4_paint.cls ≠ _; decide, by show yX4_paint.cls ≠ _; decide, by show (parseMethodDescriptor yX4_paint.desc).map _ = _; decide +kernel⟩
def Y_X4_tintOf : MT := (yX4_tintOf, cX4_tintOf, 2, (some .int), rmk 1 0 0)
theorem ce_X4_tintOf : CeV Y_X4_tintOf RX4 1 := ⟨tw2 211 rfl rfl, tw2 212 rfl rfl, nw_4, tw2 213 rfl rfl, rfl, by decide, by decide, by decide +kernel⟩
def Y_X5_become : MT := (yX5_become, cX5_become, 2, none, rmk 1 0 0)
theorem ce_X5_become : CeV Y_X5_become RX5 1 := ⟨tw2 6 rfl rfl, tw2 7 rfl rfl, nw_5, tw2 8 rfl rfl, rfl, by decide, by decide, by decide +kernel⟩
def Y_X5_between : MT := (yX5_between, cX5_between, 3, (some .int), rmk 1 0 0)
theorem ce_X5_between : CeV Y_X5_between RX5 2 := ⟨tw2 57 rfl rfl, tw2 58 rfl rfl, nw_5, tw2 59 rfl rfl, rfl, by decide, by decide, by decide +kernel⟩
def Y_X5_day : MT := (yX5_day, cX5_day, 1, (some .int), rmk 1 0 0)
theorem ce_X5_day : CeV Y_X5_day RX5 0 := ⟨tw2 76 rfl rfl, tw2 77 rfl rfl, nw_5, tw2 78 rfl rfl, rfl, by decide, by decide, by decide +kernel⟩
def Y_X5_doorOf : MT := (yX5_doorOf, cX5_doorOf, 2, (some .int), rmk 1 0 0)
theorem ce_X5_doorOf : CeV Y_X5_doorOf RX5 1 := ⟨tw2 33 rfl rfl, tw2 34 rfl rfl, nw_5, tw2 35 rfl rfl, rfl, by decide, by decide, by decide +kernel⟩
def Y_X5_empty : MT := (yX5_empty, cX5_empty, 1, none, rmk 1 0 0)
theorem ce_X5_empty : CeV Y_X5_empty RX5 0 := ⟨tw1 209 rfl rfl, tw1 210 rfl rfl, nw_5, tw1 211 rfl rfl, rfl, by decide, by decide, by decide +kernel⟩
def Y_X5_goRound : MT := (yX5_goRound, cX5_goRound, 2, none, rmk 3 0 0)
theorem ce_X5_goRound : CeV Y_X5_goRound RX5 0 := ⟨tw2 97 rfl rfl, tw2 98 rfl rfl, nw_5, tw2 99 rfl rfl, rfl, by decide, by decide, by decide +kernel⟩
def Y_X5_goers : MT := (yX5_goers, cX5_goers, 1, (some .int), rmk 2 0 0)
theorem ce_X5_goers : CeV Y_X5_goers RX5 0 := ⟨tw3 75 rfl rfl, tw3 76 rfl rfl, nw_5, tw3 77 rfl rfl, rfl, by decide, by decide, by decide +kernel⟩
def Y_X5_goersAbout : MT := (yX5_goersAbout, cX5_goersAbout, 4, (some .int), rmk 1 0 0)
theorem ce_X5_goersAbout : CeV Y_X5_goersAbout RX5 1 := ⟨tw2 68 rfl rfl, tw2 69 rfl rfl, nw_5, tw2 70 rfl rfl, rfl, by decide, by decide, by decide +kernel⟩
def Y_X5_hangWreath : MT := (yX5_hangWreath, cX5_hangWreath, 4, none, rmk 1 0 0)
theorem ce_X5_hangWreath : CeV Y_X5_hangWreath RX5 3 := ⟨tw2 117 rfl rfl, tw2 118 rfl rfl, nw_5, tw2 119 rfl rfl, rfl, by decide, by decide, by decide +kernel⟩
def Y_X5_init : MT := (yX5_init, cX5_init, 1, none, rmk 1 5 35)
theorem ce_X5_init : CeI Y_X5_init 0 := ⟨tw1 42 rfl rfl, nw_5, tw1 43 rfl rfl, rfl, rfl, by decide, by decide, by decide +kernel⟩
def Y_X5_kindOf : MT := (yX5_kindOf, cX5_kindOf, 2, (some .int), rmk 1 0 0)
theorem ce_X5_kindOf : CeV Y_X5_kindOf RX5 1 := ⟨tw2 29 rfl rfl, tw2 30 rfl rfl, nw_5, tw2 31 rfl rfl, rfl, by decide, by decide, by decide +kernel⟩
def Y_X5_letDaysGoBy : MT := (yX5_letDaysGoBy, cX5_letDaysGoBy, 4, (some .int), rmk 4 0 0)
theorem ce_X5_letDaysGoBy : CeV Y_X5_letDaysGoBy RX5 1 := ⟨tw2 93 rfl rfl, tw2 94 rfl rfl, nw_5, tw2 95 rfl rfl, rfl, by decide, by decide, by decide +kernel⟩
def Y_X5_meetings : MT := (yX5_meetings, cX5_meetings, 1, (some .int), rmk 1 0 0)
theorem ce_X5_meetings : CeV Y_X5_meetings RX5 0 := ⟨tw3 99 rfl rfl, tw3 100 rfl rfl, nw_5, tw3 101 rfl rfl, rfl, by decide, by decide, by decide +kernel⟩
def Y_X5_paceOf : MT := (yX5_paceOf, cX5_paceOf, 2, (some .int), rmk 1 0 0)
theorem ce_X5_paceOf : CeV Y_X5_paceOf RX5 1 := ⟨tw2 45 rfl rfl, tw2 46 rfl rfl, nw_5, tw2 47 rfl rfl, rfl, by decide, by decide, by decide +kernel⟩
def Y_X5_pairs : MT := (yX5_pairs, cX5_pairs, 5, (some .int), rmk 2 0 0)
theorem ce_X5_pairs : CeV Y_X5_pairs RX5 1 := ⟨tw2 108 rfl rfl, tw2 109 rfl rfl, nw_5, tw2 110 rfl rfl, rfl, by decide, by decide, by decide +kernel⟩
def Y_X5_setPace : MT := (yX5_setPace, cX5_setPace, 3, none, rmk 1 0 0)
theorem ce_X5_setPace : CeV Y_X5_setPace RX5 2 := ⟨tw2 135 rfl rfl, tw2 136 rfl rfl, nw_5, tw2 137 rfl rfl, rfl, by decide, by decide, by decide +kernel⟩
def Y_X5_settle : MT := (yX5_settle, cX5_settle, 6, none, rmk 1 0 0)
theorem ce_X5_settle : CeV Y_X5_settle RX5 5 := ⟨tw1 143 rfl rfl, tw1 144 rfl rfl, nw_5, tw1 145 rfl rfl, rfl, by decide, by decide, by decide +kernel⟩
def Y_X5_shareWreath : MT := (yX5_shareWreath, cX5_shareWreath, 3, (some .boolean), rmk 1 0 0)
theorem ce_X5_shareWreath : CeV Y_X5_shareWreath RX5 2 := ⟨tw2 169 rfl rfl, tw2 170 rfl rfl, nw_5, tw2 171 rfl rfl, rfl, by decide, by decide, by decide +kernel⟩
def Y_X5_size : MT := (yX5_size, cX5_size, 1, (some .int), rmk 1 0 0)
theorem ce_X5_size : CeV Y_X5_size RX5 0 := ⟨tw2 2 rfl rfl, tw2 3 rfl rfl, nw_5, tw2 4 rfl rfl, rfl, by decide, by decide, by decide +kernel⟩
def Y_X5_stir : MT := (yX5_stir, cX5_stir, 3, none, rmk 2 0 0)
theorem ce_X5_stir : CeV Y_X5_stir RX5 1 := ⟨tw3 69 rfl rfl, tw3 70 rfl rfl, nw_5, tw3 71 rfl rfl, rfl, by decide, by decide, by decide +kernel⟩
def Y_X5_widthOf : MT := (yX5_widthOf, cX5_widthOf, 2, (some .int), rmk 1 0 0)
theorem ce_X5_widthOf : CeV Y_X5_widthOf RX5 1 := ⟨tw2 37 rfl rfl, tw2 38 rfl rfl, nw_5, tw2 39 rfl rfl, rfl, by decide, by decide, by decide +kernel⟩
def Y_X5_yardBehind : MT := (yX5_yardBehind, cX5_yardBehind, 7, (some .int), rmk 2 0 0)
theorem ce_X5_yardBehind : CeV Y_X5_yardBehind RX5 4 := ⟨tw2 101 rfl rfl, tw2 102 rfl rfl, nw_5, tw2 103 rfl rfl, rfl, by decide, by decide, by decide +kernel⟩
def Y_X5_yardOf : MT := (yX5_yardOf, cX5_yardOf, 2, (some .int), rmk 1 0 0)
theorem ce_X5_yardOf : CeV Y_X5_yardOf RX5 1 := ⟨tw2 41 rfl rfl, tw2 42 rfl rfl, nw_5, tw2 43 rfl rfl, rfl, by decide, by decide, by decide +kernel⟩
def Y_X5_yardsAdded : MT := (yX5_yardsAdded, cX5_yardsAdded, 3, (some .int), rmk 1 0 0)
theorem ce_X5_yardsAdded : CeV Y_X5_yardsAdded RX5 0 := ⟨tw3 81 rfl rfl, tw3 82 rfl rfl, nw_5, tw3 83 rfl rfl, rfl, by decide, by decide, by decide +kernel⟩
def Y_X5_yardsOn : MT := (yX5_yardsOn, cX5_yardsOn, 3, (some .int), rmk 1 0 0)
theorem ce_X5_yardsOn : CeS Y_X5_yardsOn 3 := ⟨tw2 105 rfl rfl, nw_5, tw2 106 rfl rfl, by decide, by decide, by decide +kernel⟩
def Y_X6_about : MT := (yX6_about, cX6_about, 2, (some .int), rmk 3 0 0)
theorem ce_X6_about : CeV Y_X6_about RX6 1 := ⟨tw2 61 rfl rfl, tw2 62 rfl rfl, nw_6, tw2 63 rfl rfl, rfl, by decide, by decide, by decide +kernel⟩
def Y_X6_all : MT := (yX6_all, cX6_all, 2, (some .int), rmk 5 0 0)
theorem ce_X6_all : CeV Y_X6_all RX6 1 := ⟨tw2 161 rfl rfl, tw2 162 rfl rfl, nw_6, tw2 163 rfl rfl, rfl, by decide, by decide, by decide +kernel⟩
def Y_X6_back : MT := (yX6_back, cX6_back, 1, (some .int), rmk 3 0 0)
theorem ce_X6_back : CeV Y_X6_back RX6 0 := ⟨tw3 90 rfl rfl, tw3 91 rfl rfl, nw_6, tw3 92 rfl rfl, rfl, by decide, by decide, by decide +kernel⟩
def Y_X6_behind : MT := (yX6_behind, cX6_behind, 3, (some .int), rmk 3 0 0)
theorem ce_X6_behind : CeV Y_X6_behind RX6 2 := ⟨tw2 151 rfl rfl, tw2 152 rfl rfl, nw_6, tw2 153 rfl rfl, rfl, by decide, by decide, by decide +kernel⟩
def Y_X6_commonDivisor : MT := (yX6_commonDivisor, cX6_commonDivisor, 6, (some .int), rmk 1 0 0)
theorem ce_X6_commonDivisor : CeS Y_X6_commonDivisor 2 := ⟨tw3 54 rfl rfl, nw_6, tw3 55 rfl rfl, by decide, by decide, by decide +kernel⟩
def Y_X6_count : MT := (yX6_count, cX6_count, 2, (some .int), rmk 3 0 0)
theorem ce_X6_count : CeV Y_X6_count RX6 1 := ⟨tw3 94 rfl rfl, tw3 95 rfl rfl, nw_6, tw3 96 rfl rfl, rfl, by decide, by decide, by decide +kernel⟩
def Y_X6_dear : MT := (yX6_dear, cX6_dear, 6, (some .int), rmk 2 0 0)
theorem ce_X6_dear : CeV Y_X6_dear RX6 1 := ⟨tw2 215 rfl rfl, tw2 216 rfl rfl, nw_6, tw2 217 rfl rfl, rfl, by decide, by decide, by decide +kernel⟩
def Y_X6_draw : MT := (yX6_draw, cX6_draw, 4, (some .int), rmk 1 0 0)
theorem ce_X6_draw : CeS Y_X6_draw 2 := ⟨tw3 62 rfl rfl, nw_6, tw3 63 rfl rfl, by decide, by decide, by decide +kernel⟩
def Y_X6_fault : MT := (yX6_fault, cX6_fault, 1, (some .int), rmk 6 0 0)
theorem ce_X6_fault : CeV Y_X6_fault RX6 0 := ⟨tw1 201 rfl rfl, tw1 202 rfl rfl, nw_6, tw1 203 rfl rfl, rfl, by decide, by decide, by decide +kernel⟩
def Y_X6_first : MT := (yX6_first, cX6_first, 4, (some .int), rmk 4 0 0)
theorem ce_X6_first : CeV Y_X6_first RX6 2 := ⟨tw2 156 rfl rfl, tw2 157 rfl rfl, nw_6, tw2 158 rfl rfl, rfl, by decide, by decide, by decide +kernel⟩
def Y_X6_forget : MT := (yX6_forget, cX6_forget, 1, (some .int), rmk 2 0 0)
theorem ce_X6_forget : CeV Y_X6_forget RX6 0 := ⟨tw3 25 rfl rfl, tw3 26 rfl rfl, nw_6, tw3 27 rfl rfl, rfl, by decide, by decide, by decide +kernel⟩
def Y_X6_init : MT := (yX6_init, cX6_init, 2, none, rmk 3 238 1893)
theorem ce_X6_init : CeI Y_X6_init 0 := ⟨tw1 16 rfl rfl, nw_6, tw1 17 rfl rfl, rfl, rfl, by decide, by decide, by decide +kernel⟩
def Y_X6_keep : MT := (yX6_keep, cX6_keep, 1, (some .int), rmk 3 0 0)
theorem ce_X6_keep : CeV Y_X6_keep RX6 0 := ⟨tw3 85 rfl rfl, tw3 86 rfl rfl, nw_6, tw3 87 rfl rfl, rfl, by decide, by decide, by decide +kernel⟩
def Y_X6_kinds : MT := (yX6_kinds, cX6_kinds, 4, (some .int), rmk 4 0 0)
theorem ce_X6_kinds : CeV Y_X6_kinds RX6 1 := ⟨tw2 231 rfl rfl, tw2 232 rfl rfl, nw_6, tw2 233 rfl rfl, rfl, by decide, by decide, by decide +kernel⟩
def Y_X6_lay : MT := (yX6_lay, cX6_lay, 1, (some .int), rmk 6 0 0)
theorem ce_X6_lay : CeV Y_X6_lay RX6 0 := ⟨tw1 238 rfl rfl, tw1 239 rfl rfl, nw_6, tw2 0 rfl rfl, rfl, by decide, by decide, by decide +kernel⟩
def Y_X6_likely : MT := (yX6_likely, cX6_likely, 9, (some .int), rmk 4 0 0)
theorem ce_X6_likely : CeV Y_X6_likely RX6 5 := ⟨tw3 29 rfl rfl, tw3 30 rfl rfl, nw_6, tw3 31 rfl rfl, rfl, by decide, by decide, by decide +kernel⟩
def Y_X6_look : MT := (yX6_look, cX6_look, 6, (some .int), rmk 3 0 0)
theorem ce_X6_look : CeV Y_X6_look RX6 1 := ⟨tw3 16 rfl rfl, tw3 17 rfl rfl, nw_6, tw3 18 rfl rfl, rfl, by decide, by decide, by decide +kernel⟩
def Y_X6_markYardsOfRings : MT := (yX6_markYardsOfRings, cX6_markYardsOfRings, 5, none, rmk 2 0 0)
theorem ce_X6_markYardsOfRings : CeV Y_X6_markYardsOfRings RX6 0 := ⟨tw3 21 rfl rfl, tw0 10 rfl rfl, nw_6, tw3 22 rfl rfl, rfl, by decide, by decide, by decide +kernel⟩
def Y_X6_near : MT := (yX6_near, cX6_near, 3, (some .int), rmk 4 0 0)
theorem ce_X6_near : CeV Y_X6_near RX6 2 := ⟨tw2 49 rfl rfl, tw2 50 rfl rfl, nw_6, tw2 51 rfl rfl, rfl, by decide, by decide, by decide +kernel⟩
def Y_X6_noDoor : MT := (yX6_noDoor, cX6_noDoor, 1, (some .boolean), rmk 2 0 0)
theorem ce_X6_noDoor : CeS Y_X6_noDoor 1 := ⟨tw2 65 rfl rfl, nw_6, tw2 66 rfl rfl, by decide, by decide, by decide +kernel⟩
def Y_X6_noPair : MT := (yX6_noPair, cX6_noPair, 3, (some .boolean), rmk 3 0 0)
theorem ce_X6_noPair : CeV Y_X6_noPair RX6 2 := ⟨tw2 54 rfl rfl, tw0 5 rfl rfl, nw_6, tw2 55 rfl rfl, rfl, by decide, by decide, by decide +kernel⟩
def Y_X6_noPerson : MT := (yX6_noPerson, cX6_noPerson, 2, (some .boolean), rmk 2 0 0)
theorem ce_X6_noPerson : CeV Y_X6_noPerson RX6 1 := ⟨tw2 26 rfl rfl, tw0 4 rfl rfl, nw_6, tw2 27 rfl rfl, rfl, by decide, by decide, by decide +kernel⟩
def Y_X6_off : MT := (yX6_off, cX6_off, 3, (some .int), rmk 3 0 0)
theorem ce_X6_off : CeV Y_X6_off RX6 1 := ⟨tw2 127 rfl rfl, tw2 128 rfl rfl, nw_6, tw2 129 rfl rfl, rfl, by decide, by decide, by decide +kernel⟩
def Y_X6_outside : MT := (yX6_outside, cX6_outside, 3, (some .boolean), rmk 1 0 0)
theorem ce_X6_outside : CeS Y_X6_outside 3 := ⟨tw1 182 rfl rfl, nw_6, tw1 183 rfl rfl, by decide, by decide, by decide +kernel⟩
def Y_X6_pace : MT := (yX6_pace, cX6_pace, 4, (some .int), rmk 3 0 0)
theorem ce_X6_pace : CeV Y_X6_pace RX6 2 := ⟨tw2 131 rfl rfl, tw2 132 rfl rfl, nw_6, tw2 133 rfl rfl, rfl, by decide, by decide, by decide +kernel⟩
def Y_X6_paces : MT := (yX6_paces, cX6_paces, 7, (some .int), rmk 4 0 0)
theorem ce_X6_paces : CeV Y_X6_paces RX6 3 := ⟨tw2 165 rfl rfl, tw2 166 rfl rfl, nw_6, tw2 167 rfl rfl, rfl, by decide, by decide, by decide +kernel⟩
def Y_X6_pass : MT := (yX6_pass, cX6_pass, 2, (some .int), rmk 5 0 0)
theorem ce_X6_pass : CeV Y_X6_pass RX6 1 := ⟨tw2 72 rfl rfl, tw2 73 rfl rfl, nw_6, tw2 74 rfl rfl, rfl, by decide, by decide, by decide +kernel⟩
def Y_X6_person : MT := (yX6_person, cX6_person, 3, (some .int), rmk 3 0 0)
theorem ce_X6_person : CeV Y_X6_person RX6 2 := ⟨tw2 21 rfl rfl, tw2 22 rfl rfl, nw_6, tw2 23 rfl rfl, rfl, by decide, by decide, by decide +kernel⟩
def Y_X6_powerOfTen : MT := (yX6_powerOfTen, cX6_powerOfTen, 3, (some .int), rmk 1 0 0)
theorem ce_X6_powerOfTen : CeS Y_X6_powerOfTen 1 := ⟨tw3 51 rfl rfl, nw_6, tw3 52 rfl rfl, by decide, by decide, by decide +kernel⟩
def Y_X6_rings : MT := (yX6_rings, cX6_rings, 5, (some .int), rmk 2 0 0)
theorem ce_X6_rings : CeV Y_X6_rings RX6 1 := ⟨tw3 8 rfl rfl, tw3 9 rfl rfl, nw_6, tw3 10 rfl rfl, rfl, by decide, by decide, by decide +kernel⟩
def Y_X6_season : MT := (yX6_season, cX6_season, 6, (some .int), rmk 5 0 0)
theorem ce_X6_season : CeV Y_X6_season RX6 3 := ⟨tw3 58 rfl rfl, tw3 59 rfl rfl, nw_6, tw3 60 rfl rfl, rfl, by decide, by decide, by decide +kernel⟩
def Y_X6_seen : MT := (yX6_seen, cX6_seen, 4, (some .int), rmk 3 0 0)
theorem ce_X6_seen : CeV Y_X6_seen RX6 3 := ⟨tw2 219 rfl rfl, tw2 220 rfl rfl, nw_6, tw2 221 rfl rfl, rfl, by decide, by decide, by decide +kernel⟩
def Y_X6_shy : MT := (yX6_shy, cX6_shy, 4, (some .int), rmk 5 0 0)
theorem ce_X6_shy : CeV Y_X6_shy RX6 1 := ⟨tw2 173 rfl rfl, tw2 174 rfl rfl, nw_6, tw2 175 rfl rfl, rfl, by decide, by decide, by decide +kernel⟩
def Y_X6_speeds : MT := (yX6_speeds, cX6_speeds, 4, (some .int), rmk 4 0 0)
theorem ce_X6_speeds : CeV Y_X6_speeds RX6 1 := ⟨tw3 0 rfl rfl, tw3 1 rfl rfl, nw_6, tw3 2 rfl rfl, rfl, by decide, by decide, by decide +kernel⟩
def Y_X6_spread : MT := (yX6_spread, cX6_spread, 4, (some .int), rmk 13 0 0)
theorem ce_X6_spread : CeV Y_X6_spread RX6 2 := ⟨tw2 181 rfl rfl, tw2 182 rfl rfl, nw_6, tw2 183 rfl rfl, rfl, by decide, by decide, by decide +kernel⟩
def Y_X6_told : MT := (yX6_told, cX6_told, 3, (some .int), rmk 2 0 0)
theorem ce_X6_told : CeV Y_X6_told RX6 2 := ⟨tw3 4 rfl rfl, tw3 5 rfl rfl, nw_6, tw3 6 rfl rfl, rfl, by decide, by decide, by decide +kernel⟩
def Y_X6_undo : MT := (yX6_undo, cX6_undo, 1, (some .int), rmk 3 0 0)
theorem ce_X6_undo : CeV Y_X6_undo RX6 0 := ⟨tw2 139 rfl rfl, tw2 140 rfl rfl, nw_6, tw2 141 rfl rfl, rfl, by decide, by decide, by decide +kernel⟩
def Y_X6_weave : MT := (yX6_weave, cX6_weave, 4, (some .int), rmk 3 0 0)
theorem ce_X6_weave : CeV Y_X6_weave RX6 3 := ⟨tw2 113 rfl rfl, tw2 114 rfl rfl, nw_6, tw2 115 rfl rfl, rfl, by decide, by decide, by decide +kernel⟩
def Y_X6_widthsMet : MT := (yX6_widthsMet, cX6_widthsMet, 5, (some .int), rmk 4 0 0)
theorem ce_X6_widthsMet : CeV Y_X6_widthsMet RX6 1 := ⟨tw2 178 rfl rfl, tw0 7 rfl rfl, nw_6, tw2 179 rfl rfl, rfl, by decide, by decide, by decide +kernel⟩
def Y_X6_wipe : MT := (yX6_wipe, cX6_wipe, 1, (some .int), rmk 2 0 0)
theorem ce_X6_wipe : CeV Y_X6_wipe RX6 0 := ⟨tw1 193 rfl rfl, tw1 194 rfl rfl, nw_6, tw1 195 rfl rfl, rfl, by decide, by decide, by decide +kernel⟩
def Y_X6_write : MT := (yX6_write, cX6_write, 2, (some .int), rmk 2 0 0)
theorem ce_X6_write : CeV Y_X6_write RX6 1 := ⟨tw1 178 rfl rfl, tw1 179 rfl rfl, nw_6, tw1 180 rfl rfl, rfl, by decide, by decide, by decide +kernel⟩
def Y_X7_about : MT := (yX7_about, cX7_about, 2, (some .int), rmk 3 0 0)
theorem ce_X7_about : CeV Y_X7_about RX7 1 := ⟨tw4 23 rfl rfl, tw4 24 rfl rfl, nw_7, tw4 25 rfl rfl, rfl, by decide, by decide, by decide +kernel⟩
def Y_X7_aboutMany : MT := (yX7_aboutMany, cX7_aboutMany, 3, (some .int), rmk 1 0 0)
theorem ce_X7_aboutMany : CeV Y_X7_aboutMany RX7 0 := ⟨tw4 224 rfl rfl, tw0 40 rfl rfl, nw_7, tw4 225 rfl rfl, rfl, by decide, by decide, by decide +kernel⟩
def Y_X7_all : MT := (yX7_all, cX7_all, 4, (some .int), rmk 5 0 0)
theorem ce_X7_all : CeV Y_X7_all RX7 1 := ⟨tw4 108 rfl rfl, tw4 109 rfl rfl, nw_7, tw4 110 rfl rfl, rfl, by decide, by decide, by decide +kernel⟩
def Y_X7_back : MT := (yX7_back, cX7_back, 1, (some .int), rmk 2 0 0)
theorem ce_X7_back : CeV Y_X7_back RX7 0 := ⟨tw4 215 rfl rfl, tw4 216 rfl rfl, nw_7, tw4 217 rfl rfl, rfl, by decide, by decide, by decide +kernel⟩
def Y_X7_begin : MT := (yX7_begin, cX7_begin, 1, none, rmk 2 0 0)
theorem ce_X7_begin : CeV Y_X7_begin RX7 0 := ⟨tw4 113 rfl rfl, tw0 31 rfl rfl, nw_7, tw4 114 rfl rfl, rfl, by decide, by decide, by decide +kernel⟩
def Y_X7_behind : MT := (yX7_behind, cX7_behind, 3, (some .int), rmk 3 0 0)
theorem ce_X7_behind : CeV Y_X7_behind RX7 2 := ⟨tw4 92 rfl rfl, tw4 93 rfl rfl, nw_7, tw4 94 rfl rfl, rfl, by decide, by decide, by decide +kernel⟩
def Y_X7_bits : MT := (yX7_bits, cX7_bits, 3, (some .int), rmk 1 0 0)
theorem ce_X7_bits : CeS Y_X7_bits 1 := ⟨tw4 73 rfl rfl, nw_7, tw4 74 rfl rfl, by decide, by decide, by decide +kernel⟩
def Y_X7_comes : MT := (yX7_comes, cX7_comes, 6, none, rmk 1 0 0)
theorem ce_X7_comes : CeV Y_X7_comes RX7 5 := ⟨tw3 110 rfl rfl, tw0 12 rfl rfl, nw_7, tw3 111 rfl rfl, rfl, by decide, by decide, by decide +kernel⟩
def Y_X7_common : MT := (yX7_common, cX7_common, 10, (some .long), rmk 1 0 0)
theorem ce_X7_common : CeS Y_X7_common 2 := ⟨tw4 200 rfl rfl, nw_7, tw4 201 rfl rfl, by decide, by decide, by decide +kernel⟩
def Y_X7_count : MT := (yX7_count, cX7_count, 2, (some .int), rmk 3 0 0)
theorem ce_X7_count : CeV Y_X7_count RX7 1 := ⟨tw4 219 rfl rfl, tw4 220 rfl rfl, nw_7, tw4 221 rfl rfl, rfl, by decide, by decide, by decide +kernel⟩
def Y_X7_dear : MT := (yX7_dear, cX7_dear, 6, (some .int), rmk 2 0 0)
theorem ce_X7_dear : CeV Y_X7_dear RX7 1 := ⟨tw4 151 rfl rfl, tw4 152 rfl rfl, nw_7, tw4 153 rfl rfl, rfl, by decide, by decide, by decide +kernel⟩
def Y_X7_fault : MT := (yX7_fault, cX7_fault, 2, (some .int), rmk 5 0 0)
theorem ce_X7_fault : CeV Y_X7_fault RX7 0 := ⟨tw3 215 rfl rfl, tw3 216 rfl rfl, nw_7, tw3 217 rfl rfl, rfl, by decide, by decide, by decide +kernel⟩
def Y_X7_first : MT := (yX7_first, cX7_first, 4, (some .int), rmk 3 0 0)
theorem ce_X7_first : CeV Y_X7_first RX7 2 := ⟨tw4 100 rfl rfl, tw4 101 rfl rfl, nw_7, tw4 102 rfl rfl, rfl, by decide, by decide, by decide +kernel⟩
def Y_X7_forget : MT := (yX7_forget, cX7_forget, 2, (some .int), rmk 1 0 0)
theorem ce_X7_forget : CeV Y_X7_forget RX7 0 := ⟨tw4 191 rfl rfl, tw4 192 rfl rfl, nw_7, tw4 193 rfl rfl, rfl, by decide, by decide, by decide +kernel⟩
def Y_X7_goes : MT := (yX7_goes, cX7_goes, 3, (some .int), rmk 1 0 0)
theorem ce_X7_goes : CeS Y_X7_goes 3 := ⟨tw4 58 rfl rfl, nw_7, tw4 59 rfl rfl, by decide, by decide, by decide +kernel⟩
def Y_X7_goesOn : MT := (yX7_goesOn, cX7_goesOn, 3, none, rmk 4 0 0)
theorem ce_X7_goesOn : CeV Y_X7_goesOn RX7 1 := ⟨tw4 47 rfl rfl, tw0 23 rfl rfl, nw_7, tw4 48 rfl rfl, rfl, by decide, by decide, by decide +kernel⟩
def Y_X7_has : MT := (yX7_has, cX7_has, 2, (some .boolean), rmk 1 0 0)
theorem ce_X7_has : CeS Y_X7_has 2 := ⟨tw4 132 rfl rfl, nw_7, tw4 133 rfl rfl, by decide, by decide, by decide +kernel⟩
def Y_X7_here : MT := (yX7_here, cX7_here, 1, (some .int), rmk 1 0 0)
theorem ce_X7_here : CeV Y_X7_here RX7 0 := ⟨tw3 224 rfl rfl, tw0 14 rfl rfl, nw_7, tw3 225 rfl rfl, rfl, by decide, by decide, by decide +kernel⟩
def Y_X7_highest : MT := (yX7_highest, cX7_highest, 1, (some .int), rmk 1 0 0)
theorem ce_X7_highest : CeS Y_X7_highest 1 := ⟨tw3 227 rfl rfl, nw_7, tw3 228 rfl rfl, by decide, by decide, by decide +kernel⟩
def Y_X7_in : MT := (yX7_in, cX7_in, 3, (some .boolean), rmk 1 0 0)
theorem ce_X7_in : CeS Y_X7_in 3 := ⟨tw3 208 rfl rfl, nw_7, tw3 209 rfl rfl, by decide, by decide, by decide +kernel⟩
def Y_X7_init : MT := (yX7_init, cX7_init, 1, none, rmk 2 18 651)
theorem ce_X7_init : CeI Y_X7_init 0 := ⟨tw3 105 rfl rfl, nw_7, tw3 106 rfl rfl, rfl, rfl, by decide, by decide, by decide +kernel⟩
def Y_X7_isAbout : MT := (yX7_isAbout, cX7_isAbout, 3, (some .boolean), rmk 1 0 0)
theorem ce_X7_isAbout : CeV Y_X7_isAbout RX7 2 := ⟨tw4 20 rfl rfl, tw0 19 rfl rfl, nw_7, tw4 21 rfl rfl, rfl, by decide, by decide, by decide +kernel⟩
def Y_X7_isDoor : MT := (yX7_isDoor, cX7_isDoor, 1, (some .boolean), rmk 2 0 0)
theorem ce_X7_isDoor : CeS Y_X7_isDoor 1 := ⟨tw4 27 rfl rfl, nw_7, tw4 28 rfl rfl, by decide, by decide, by decide +kernel⟩
def Y_X7_isFigure : MT := (yX7_isFigure, cX7_isFigure, 1, (some .boolean), rmk 2 0 0)
theorem ce_X7_isFigure : CeV Y_X7_isFigure RX7 0 := ⟨tw3 235 rfl rfl, tw0 16 rfl rfl, nw_7, tw3 236 rfl rfl, rfl, by decide, by decide, by decide +kernel⟩
def Y_X7_isPerson : MT := (yX7_isPerson, cX7_isPerson, 2, (some .boolean), rmk 2 0 0)
theorem ce_X7_isPerson : CeV Y_X7_isPerson RX7 1 := ⟨tw4 8 rfl rfl, tw0 17 rfl rfl, nw_7, tw4 9 rfl rfl, rfl, by decide, by decide, by decide +kernel⟩
def Y_X7_isRing : MT := (yX7_isRing, cX7_isRing, 5, (some .boolean), rmk 1 0 0)
theorem ce_X7_isRing : CeV Y_X7_isRing RX7 2 := ⟨tw4 180 rfl rfl, tw0 38 rfl rfl, nw_7, tw4 181 rfl rfl, rfl, by decide, by decide, by decide +kernel⟩
def Y_X7_isSame : MT := (yX7_isSame, cX7_isSame, 3, (some .boolean), rmk 1 0 0)
theorem ce_X7_isSame : CeV Y_X7_isSame RX7 2 := ⟨tw4 105 rfl rfl, tw0 30 rfl rfl, nw_7, tw4 106 rfl rfl, rfl, by decide, by decide, by decide +kernel⟩
def Y_X7_isSo : MT := (yX7_isSo, cX7_isSo, 4, (some .boolean), rmk 3 0 0)
theorem ce_X7_isSo : CeV Y_X7_isSo RX7 1 := ⟨tw4 164 rfl rfl, tw0 37 rfl rfl, nw_7, tw4 165 rfl rfl, rfl, by decide, by decide, by decide +kernel⟩
def Y_X7_isWay : MT := (yX7_isWay, cX7_isWay, 4, (some .boolean), rmk 3 0 0)
theorem ce_X7_isWay : CeV Y_X7_isWay RX7 1 := ⟨tw4 144 rfl rfl, tw0 35 rfl rfl, nw_7, tw4 145 rfl rfl, rfl, by decide, by decide, by decide +kernel⟩
def Y_X7_keep : MT := (yX7_keep, cX7_keep, 1, (some .int), rmk 2 0 0)
theorem ce_X7_keep : CeV Y_X7_keep RX7 0 := ⟨tw4 211 rfl rfl, tw4 212 rfl rfl, nw_7, tw4 213 rfl rfl, rfl, by decide, by decide, by decide +kernel⟩
def Y_X7_kinds : MT := (yX7_kinds, cX7_kinds, 5, (some .int), rmk 4 0 0)
theorem ce_X7_kinds : CeV Y_X7_kinds RX7 1 := ⟨tw4 159 rfl rfl, tw4 160 rfl rfl, nw_7, tw4 161 rfl rfl, rfl, by decide, by decide, by decide +kernel⟩
def Y_X7_lay : MT := (yX7_lay, cX7_lay, 2, (some .int), rmk 6 0 0)
theorem ce_X7_lay : CeV Y_X7_lay RX7 0 := ⟨tw3 238 rfl rfl, tw3 239 rfl rfl, nw_7, tw4 0 rfl rfl, rfl, by decide, by decide, by decide +kernel⟩
def Y_X7_lays : MT := (yX7_lays, cX7_lays, 4, none, rmk 1 0 0)
theorem ce_X7_lays : CeV Y_X7_lays RX7 2 := ⟨tw4 43 rfl rfl, tw0 22 rfl rfl, nw_7, tw4 44 rfl rfl, rfl, by decide, by decide, by decide +kernel⟩
def Y_X7_likely : MT := (yX7_likely, cX7_likely, 16, (some .int), rmk 3 0 0)
theorem ce_X7_likely : CeV Y_X7_likely RX7 5 := ⟨tw4 195 rfl rfl, tw4 196 rfl rfl, nw_7, tw4 197 rfl rfl, rfl, by decide, by decide, by decide +kernel⟩
def Y_X7_look : MT := (yX7_look, cX7_look, 6, (some .int), rmk 3 0 0)
theorem ce_X7_look : CeV Y_X7_look RX7 1 := ⟨tw4 183 rfl rfl, tw4 184 rfl rfl, nw_7, tw4 185 rfl rfl, rfl, by decide, by decide, by decide +kernel⟩
def Y_X7_meets : MT := (yX7_meets, cX7_meets, 3, (some .boolean), rmk 2 0 0)
theorem ce_X7_meets : CeV Y_X7_meets RX7 2 := ⟨tw4 16 rfl rfl, tw0 18 rfl rfl, nw_7, tw4 17 rfl rfl, rfl, by decide, by decide, by decide +kernel⟩
def Y_X7_near : MT := (yX7_near, cX7_near, 3, (some .int), rmk 3 0 0)
theorem ce_X7_near : CeV Y_X7_near RX7 2 := ⟨tw4 11 rfl rfl, tw4 12 rfl rfl, nw_7, tw4 13 rfl rfl, rfl, by decide, by decide, by decide +kernel⟩
def Y_X7_nextWidth : MT := (yX7_nextWidth, cX7_nextWidth, 8, (some .int), rmk 2 0 0)
theorem ce_X7_nextWidth : CeV Y_X7_nextWidth RX7 2 := ⟨tw4 148 rfl rfl, tw0 36 rfl rfl, nw_7, tw4 149 rfl rfl, rfl, by decide, by decide, by decide +kernel⟩
def Y_X7_notes : MT := (yX7_notes, cX7_notes, 2, none, rmk 2 0 0)
theorem ce_X7_notes : CeV Y_X7_notes RX7 0 := ⟨tw4 39 rfl rfl, tw0 21 rfl rfl, nw_7, tw4 40 rfl rfl, rfl, by decide, by decide, by decide +kernel⟩
def Y_X7_number : MT := (yX7_number, cX7_number, 5, (some .boolean), rmk 3 0 0)
theorem ce_X7_number : CeV Y_X7_number RX7 3 := ⟨tw3 231 rfl rfl, tw0 15 rfl rfl, nw_7, tw3 232 rfl rfl, rfl, by decide, by decide, by decide +kernel⟩
def Y_X7_off : MT := (yX7_off, cX7_off, 3, (some .int), rmk 3 0 0)
theorem ce_X7_off : CeV Y_X7_off RX7 1 := ⟨tw4 76 rfl rfl, tw4 77 rfl rfl, nw_7, tw4 78 rfl rfl, rfl, by decide, by decide, by decide +kernel⟩
def Y_X7_pace : MT := (yX7_pace, cX7_pace, 4, (some .int), rmk 3 0 0)
theorem ce_X7_pace : CeV Y_X7_pace RX7 2 := ⟨tw4 80 rfl rfl, tw4 81 rfl rfl, nw_7, tw4 82 rfl rfl, rfl, by decide, by decide, by decide +kernel⟩
def Y_X7_paces : MT := (yX7_paces, cX7_paces, 7, (some .int), rmk 3 0 0)
theorem ce_X7_paces : CeV Y_X7_paces RX7 3 := ⟨tw4 120 rfl rfl, tw4 121 rfl rfl, nw_7, tw4 122 rfl rfl, rfl, by decide, by decide, by decide +kernel⟩
def Y_X7_pairs : MT := (yX7_pairs, cX7_pairs, 5, (some .int), rmk 2 0 0)
theorem ce_X7_pairs : CeV Y_X7_pairs RX7 1 := ⟨tw4 62 rfl rfl, tw0 26 rfl rfl, nw_7, tw4 63 rfl rfl, rfl, by decide, by decide, by decide +kernel⟩
def Y_X7_pass : MT := (yX7_pass, cX7_pass, 3, (some .int), rmk 5 0 0)
theorem ce_X7_pass : CeV Y_X7_pass RX7 1 := ⟨tw4 34 rfl rfl, tw4 35 rfl rfl, nw_7, tw4 36 rfl rfl, rfl, by decide, by decide, by decide +kernel⟩
def Y_X7_passes : MT := (yX7_passes, cX7_passes, 2, none, rmk 3 0 0)
theorem ce_X7_passes : CeV Y_X7_passes RX7 0 := ⟨tw4 51 rfl rfl, tw0 24 rfl rfl, nw_7, tw4 52 rfl rfl, rfl, by decide, by decide, by decide +kernel⟩
def Y_X7_person : MT := (yX7_person, cX7_person, 3, (some .int), rmk 3 0 0)
theorem ce_X7_person : CeV Y_X7_person RX7 2 := ⟨tw4 3 rfl rfl, tw4 4 rfl rfl, nw_7, tw4 5 rfl rfl, rfl, by decide, by decide, by decide +kernel⟩
def Y_X7_putBack : MT := (yX7_putBack, cX7_putBack, 1, none, rmk 2 0 0)
theorem ce_X7_putBack : CeV Y_X7_putBack RX7 0 := ⟨tw4 117 rfl rfl, tw0 32 rfl rfl, nw_7, tw4 118 rfl rfl, rfl, by decide, by decide, by decide +kernel⟩
def Y_X7_readsItem : MT := (yX7_readsItem, cX7_readsItem, 3, (some .boolean), rmk 4 0 0)
theorem ce_X7_readsItem : CeV Y_X7_readsItem RX7 0 := ⟨tw3 220 rfl rfl, tw0 13 rfl rfl, nw_7, tw3 221 rfl rfl, rfl, by decide, by decide, by decide +kernel⟩
def Y_X7_rings : MT := (yX7_rings, cX7_rings, 7, (some .int), rmk 2 0 0)
theorem ce_X7_rings : CeV Y_X7_rings RX7 1 := ⟨tw4 175 rfl rfl, tw4 176 rfl rfl, nw_7, tw4 177 rfl rfl, rfl, by decide, by decide, by decide +kernel⟩
def Y_X7_season : MT := (yX7_season, cX7_season, 11, (some .int), rmk 4 0 0)
theorem ce_X7_season : CeV Y_X7_season RX7 3 := ⟨tw4 203 rfl rfl, tw4 204 rfl rfl, nw_7, tw4 205 rfl rfl, rfl, by decide, by decide, by decide +kernel⟩
def Y_X7_seen : MT := (yX7_seen, cX7_seen, 4, (some .int), rmk 3 0 0)
theorem ce_X7_seen : CeV Y_X7_seen RX7 3 := ⟨tw4 155 rfl rfl, tw4 156 rfl rfl, nw_7, tw4 157 rfl rfl, rfl, by decide, by decide, by decide +kernel⟩
def Y_X7_setGuests : MT := (yX7_setGuests, cX7_setGuests, 4, none, rmk 4 0 0)
theorem ce_X7_setGuests : CeV Y_X7_setGuests RX7 1 := ⟨tw4 140 rfl rfl, tw0 34 rfl rfl, nw_7, tw4 141 rfl rfl, rfl, by decide, by decide, by decide +kernel⟩
def Y_X7_share : MT := (yX7_share, cX7_share, 5, (some .boolean), rmk 3 0 0)
theorem ce_X7_share : CeV Y_X7_share RX7 2 := ⟨tw4 129 rfl rfl, tw0 33 rfl rfl, nw_7, tw4 130 rfl rfl, rfl, by decide, by decide, by decide +kernel⟩
def Y_X7_shy : MT := (yX7_shy, cX7_shy, 4, (some .int), rmk 4 0 0)
theorem ce_X7_shy : CeV Y_X7_shy RX7 1 := ⟨tw4 124 rfl rfl, tw4 125 rfl rfl, nw_7, tw4 126 rfl rfl, rfl, by decide, by decide, by decide +kernel⟩
def Y_X7_speeds : MT := (yX7_speeds, cX7_speeds, 5, (some .int), rmk 4 0 0)
theorem ce_X7_speeds : CeV Y_X7_speeds RX7 1 := ⟨tw4 167 rfl rfl, tw4 168 rfl rfl, nw_7, tw4 169 rfl rfl, rfl, by decide, by decide, by decide +kernel⟩
def Y_X7_spread : MT := (yX7_spread, cX7_spread, 6, (some .int), rmk 5 0 0)
theorem ce_X7_spread : CeV Y_X7_spread RX7 2 := ⟨tw4 135 rfl rfl, tw4 136 rfl rfl, nw_7, tw4 137 rfl rfl, rfl, by decide, by decide, by decide +kernel⟩
def Y_X7_takes : MT := (yX7_takes, cX7_takes, 4, none, rmk 1 0 0)
theorem ce_X7_takes : CeV Y_X7_takes RX7 2 := ⟨tw4 89 rfl rfl, tw0 28 rfl rfl, nw_7, tw4 90 rfl rfl, rfl, by decide, by decide, by decide +kernel⟩
def Y_X7_thoseAbout : MT := (yX7_thoseAbout, cX7_thoseAbout, 4, (some .int), rmk 1 0 0)
theorem ce_X7_thoseAbout : CeV Y_X7_thoseAbout RX7 1 := ⟨tw4 31 rfl rfl, tw0 20 rfl rfl, nw_7, tw4 32 rfl rfl, rfl, by decide, by decide, by decide +kernel⟩
def Y_X7_told : MT := (yX7_told, cX7_told, 3, (some .int), rmk 2 0 0)
theorem ce_X7_told : CeV Y_X7_told RX7 2 := ⟨tw4 171 rfl rfl, tw4 172 rfl rfl, nw_7, tw4 173 rfl rfl, rfl, by decide, by decide, by decide +kernel⟩
def Y_X7_undo : MT := (yX7_undo, cX7_undo, 1, (some .int), rmk 2 0 0)
theorem ce_X7_undo : CeV Y_X7_undo RX7 0 := ⟨tw4 84 rfl rfl, tw4 85 rfl rfl, nw_7, tw4 86 rfl rfl, rfl, by decide, by decide, by decide +kernel⟩
def Y_X7_weave : MT := (yX7_weave, cX7_weave, 4, (some .int), rmk 3 0 0)
theorem ce_X7_weave : CeV Y_X7_weave RX7 3 := ⟨tw4 65 rfl rfl, tw4 66 rfl rfl, nw_7, tw4 67 rfl rfl, rfl, by decide, by decide, by decide +kernel⟩
def Y_X7_weaves : MT := (yX7_weaves, cX7_weaves, 4, none, rmk 1 0 0)
theorem ce_X7_weaves : CeV Y_X7_weaves RX7 3 := ⟨tw4 70 rfl rfl, tw0 27 rfl rfl, nw_7, tw4 71 rfl rfl, rfl, by decide, by decide, by decide +kernel⟩
def Y_X7_wipe : MT := (yX7_wipe, cX7_wipe, 2, (some .int), rmk 1 0 0)
theorem ce_X7_wipe : CeV Y_X7_wipe RX7 0 := ⟨tw3 211 rfl rfl, tw3 212 rfl rfl, nw_7, tw3 213 rfl rfl, rfl, by decide, by decide, by decide +kernel⟩
def Y_X7_write : MT := (yX7_write, cX7_write, 2, (some .int), rmk 2 0 0)
theorem ce_X7_write : CeV Y_X7_write RX7 1 := ⟨tw3 204 rfl rfl, tw3 205 rfl rfl, nw_7, tw3 206 rfl rfl, rfl, by decide, by decide, by decide +kernel⟩
def Y_X7_yardBehind : MT := (yX7_yardBehind, cX7_yardBehind, 5, (some .int), rmk 2 0 0)
theorem ce_X7_yardBehind : CeV Y_X7_yardBehind RX7 2 := ⟨tw4 97 rfl rfl, tw0 29 rfl rfl, nw_7, tw4 98 rfl rfl, rfl, by decide, by decide, by decide +kernel⟩
def Y_X7_yardThen : MT := (yX7_yardThen, cX7_yardThen, 3, (some .int), rmk 2 0 0)
theorem ce_X7_yardThen : CeV Y_X7_yardThen RX7 2 := ⟨tw4 55 rfl rfl, tw0 25 rfl rfl, nw_7, tw4 56 rfl rfl, rfl, by decide, by decide, by decide +kernel⟩
def Y_X7_yardsBehind : MT := (yX7_yardsBehind, cX7_yardsBehind, 5, (some .int), rmk 2 0 0)
theorem ce_X7_yardsBehind : CeV Y_X7_yardsBehind RX7 1 := ⟨tw4 188 rfl rfl, tw0 39 rfl rfl, nw_7, tw4 189 rfl rfl, rfl, by decide, by decide, by decide +kernel⟩
