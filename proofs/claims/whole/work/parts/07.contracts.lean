section Ends
variable {D : DT} {l : Launch} {Y : MT} {kc ks pc : Nat} {ls st : List Value} {M : Mem} {post : Option Value → Mem → Prop}
theorem wp_iret {v : Int32} {ty : FieldType} (hd : decode (mC Y) pc = .ok (.ireturn, 1)) (hr : mT Y = some ty) (hn : narrow ty (.int v) = .int v) (h1 : kc ≤ (mRm Y).cells) (h2 : ks ≤ (mRm Y).slots) (h : post (some (.int v)) M) : WP D l Y kc ks pc ls [.int v] M post := by
  intro p e s m args below meth c E H locs hR hS lsA hl
  refine W.widen h1 h2 ?_
  exact W.zret E.1 E.2.1 (E.2.2.1.trans hr) hn (fun t ht hW => ⟨⟨some (.int v), M, rfl, h, by rw [ht]; exact hR⟩, hS.F ht⟩) hS.2.2 hd (hlocks := E.2.2.2.2.2.2.1)
theorem wp_lret {v : Int64} (hd : decode (mC Y) pc = .ok (.lreturn, 1)) (hr : mT Y = some .long) (h1 : kc ≤ (mRm Y).cells) (h2 : ks ≤ (mRm Y).slots) (h : post (some (.long v)) M) : WP D l Y kc ks pc ls [.long v] M post := by
  intro p e s m args below meth c E H locs hR hS lsA hl
  refine W.widen h1 h2 ?_
  exact W.lret E.1 E.2.1 (E.2.2.1.trans hr) (fun t ht hW => ⟨⟨some (.long v), M, rfl, h, by rw [ht]; exact hR⟩, hS.F ht⟩) hS.2.2 hd (hlocks := E.2.2.2.2.2.2.1)
theorem wp_vret (hd : decode (mC Y) pc = .ok (.return_, 1)) (hr : mT Y = none) (h1 : kc ≤ (mRm Y).cells) (h2 : ks ≤ (mRm Y).slots) (h : post none M) : WP D l Y kc ks pc ls [] M post := by
  intro p e s m args below meth c E H locs hR hS lsA hl
  refine W.widen h1 h2 ?_
  exact W.vret E.1 E.2.1 (E.2.2.1.trans hr) (fun t ht hW => ⟨⟨none, M, rfl, h, by rw [ht]; exact hR⟩, hS.F ht⟩) hS.2.2 hd (hlocks := E.2.2.2.2.2.2.1)
end Ends
section Calls
variable {D : DT} {l : Launch} {Y : MT} {kc ks pc : Nat} {ls st : List Value} {M : Mem} {post : Option Value → Mem → Prop}
theorem call_go {p : Program} {e : Env} {R : Room} {s : State} {m : MethodId} {args : Array Value} {below : List Frame} {meth : Method} {c : Code} {H : Heap} {locs : List Loc} {cells slots mc ms : Nat} {lsA : Array Slot} {st0 rest : List Value} {P : Option Value → Mem → Prop} {a : Array Value} {Q : State → Prop}
    (hr : va_Run p l e R s m args below meth c H locs cells slots mc ms (F0 m pc lsA st0) rest (QcOf D P a) (Anew D)) (hS : va_S (Anew D) s.heap H locs)
    (kk : ∀ (r : Option Value) (M' : Mem) (H1 : Heap) (locs1 : List Loc), P r M' → Rel D H1 M' → va_S (Anew D) s.heap H1 locs1 → W p l e R s m args below meth c H1 locs1 (cells + mc) (slots + ms) Q (F0 m (pc + 3) lsA ((r.map (cv D)).toList ++ rest))) : W p l e R s m args below meth c H locs cells slots Q (F0 m pc lsA st0) := by
  intro T hT X
  obtain ⟨v, st₀, t, T', L, h0, X', hL, e1, e2, ⟨⟨r, M', hv, hp, hR⟩, hz, hk⟩, st⟩ := hr T hT X
  cases hv
  rw [h0] at hz hk
  obtain ⟨t2, a1, b1⟩ := kk r M' T'.heap (locs ++ L) hp (by rw [e1]; exact hR)
    ⟨Nat.le_trans hS.1 (by rw [e1]; exact hz), fun q h1 h2 => by rw [e1, hk q (Nat.lt_of_lt_of_le h1 hS.1) h2]; exact hS.2.1 q h1 h2, fun q hq => by
      rcases List.mem_append.mp hq with h | h
      · exact hS.2.2 q h
      · exact hL q h⟩ T' rfl X'
  exact ⟨t2, st t2 a1, b1⟩
theorem KK.calling {U : State} (h : KK D U) (g : JFrame) (mk : MethodId) (a : Array Value) : KK D (U.calling g mk a) := by
  refine ⟨h.1, h.2.1, fun w hw => ?_, va_AO.moved (u := U) (U := U.calling g mk a) (Vm.Alike.refl U.vm) h.2.2.2⟩
  have hz := h.2.2.1 w hw
  simp only [nestTbl, List.mem_cons, List.not_mem_nil, or_false] at hw
  rcases hw with rfl | rfl | rfl | rfl | rfl | rfl | rfl <;> exact va_Nw.same (u := U) (U := U.calling g mk a) rfl rfl hz
theorem pc_blind (av : List Value) : FrameBlind (PcOf D av M) := fun a U g mk q => ⟨q.1, q.2.1, q.2.2.1.calling g mk a, q.2.2.2⟩
theorem pc_here {s : State} {H : Heap} {locs : List Loc} (hR : Rel D H M) (hK : KK D s) (hO : Old D s.heap) (hS : va_S (Anew D) s.heap H locs) (av : List Value) : ∀ U : State, U.heap = H → s.WarmedH U.vm → PcOf D av M (av.map (cv D)).toArray U := fun U hU hW => ⟨rfl, by rw [hU]; exact hR, hK.warm hW, by rw [hU]; exact hO.step hS⟩
theorem good_gt {ws : List Cond} (h : ∀ w ∈ ws, w ∈ gtbl) : GoodIn gtbl ws := fun w hw => ⟨h w hw, good_of_word (gt_good w (h w hw))⟩
theorem wsY_gt {Y' : MT} (h : Cond.code (mY Y') (mC Y') (mL Y') (mT Y') ∈ gtbl) : ∀ w ∈ wsY Y', w ∈ gtbl := fun w hw => by
  rcases List.mem_cons.mp hw with rfl | h2
  · exact h
  · exact h2
/-- the callee's frame and locals fit -/
def Fit (Y Y' : MT) : Prop := (mRm Y').frames + 1 ≤ (mRm Y).frames ∧ 8 + (mL Y' + 11) + (mRm Y').locals ≤ (mRm Y).locals
def CeV (Y' : MT) (C : String) (n : Nat) : Prop := Cond.instanceMethod (mY Y') ∈ gtbl ∧ Cond.selects C (mY Y') (mY Y') ∈ gtbl ∧ Cond.initialized C ∈ gtbl ∧ Cond.code (mY Y') (mC Y') (mL Y') (mT Y') ∈ gtbl ∧ (mY Y').cls = C ∧ (mY Y').cls ≠ "java/lang/invoke/MethodHandle" ∧ (mY Y').cls ≠ "java/lang/invoke/VarHandle" ∧ (parseMethodDescriptor (mY Y').desc).map (fun d => d.parameters.length) = some n
def CeS (Y' : MT) (n : Nat) : Prop := Cond.static (mY Y') ∈ gtbl ∧ Cond.initialized (mY Y').cls ∈ gtbl ∧ Cond.code (mY Y') (mC Y') (mL Y') (mT Y') ∈ gtbl ∧ (mY Y').cls ≠ "java/lang/invoke/MethodHandle" ∧ (mY Y').cls ≠ "java/lang/invoke/VarHandle" ∧ (parseMethodDescriptor (mY Y').desc).map (fun d => d.parameters.length) = some n
def CeI (Y' : MT) (n : Nat) : Prop := Cond.instanceMethod (mY Y') ∈ gtbl ∧ Cond.initialized (mY Y').cls ∈ gtbl ∧ Cond.code (mY Y') (mC Y') (mL Y') (mT Y') ∈ gtbl ∧ (mY Y').name = "<init>" ∧ mT Y' = none ∧ (mY Y').cls ≠ "java/lang/invoke/MethodHandle" ∧ (mY Y').cls ≠ "java/lang/invoke/VarHandle" ∧ (parseMethodDescriptor (mY Y').desc).map (fun d => d.parameters.length) = some n
theorem cat_map (st : List Value) : ((st.map (cv D)).map fun v => v.category).sum = (st.map fun v => v.category).sum := by rw [List.map_map]; congr 1; apply List.map_congr_left; intro v _; exact cv_cat D v
theorem back_map (r : Option Value) (st : List Value) : (r.map (cv D)).toList ++ st.map (cv D) = (r.toList ++ st).map (cv D) := by cases r <;> simp
theorem wp_callV {Y' : MT} {t b index n N : Nat} {C : String} {T : u_T} {As stk : List Value} {P : Option Value → Mem → Prop} (hd : decode (mC Y) pc = .ok (.invokevirtual index, 3)) (hw : Cond.methodLink (mY Y).cls index (mY Y') ∈ gtbl) (hce : CeV Y' C n) (hcl : classes[t]? = some (C, T, N)) (h10 : t < 10) (hfit : Fit Y Y') (hcap : kc + (mRm Y').cells ≤ (mRm Y).cells ∧ ks + (mRm Y').slots ≤ (mRm Y).slots) (ht : (mS M b).1 = t) (hC : Ct D l Y' (.ref b :: As) M P) (hn : As.length = n) (hst : stk = As.reverse ++ .ref b :: st) (hroom : (st.map fun v => v.category).sum ≤ 8)
    (k : ∀ (r : Option Value) (M' : Mem), P r M' → WP D l Y (kc + (mRm Y').cells) (ks + (mRm Y').slots) (pc + 3) ls (r.toList ++ st) M' post) : WP D l Y kc ks pc ls stk M post := by
  intro p e s m args below meth c E H locs hR hS lsA hl
  obtain ⟨c1, c2, c3, c4, c5⟩ := hce
  have hts := E.2.2.2.2.2.1
  have hlv := hR.live (a := b) (by omega)
  have hK := E.2.2.2.2.2.2.2.2.1
  have hrecv := va_recv (q := (C, T, N)) (KK.K hK) (hR.obj ht h10) (q0 := 0) hcl rfl
  have hpre := pc_here hR hK E.2.2.2.2.2.2.2.2.2 hS (.ref b :: As)
  rw [List.map_cons, cv_ref hlv.1] at hpre
  subst hst
  have hstk : (As.reverse ++ .ref b :: st).map (cv D) = (As.map (cv D)).reverse ++ .ref (dBase D + (b - 5)) :: st.map (cv D) := by
    rw [List.map_append, List.map_reverse, List.map_cons, cv_ref hlv.1]
  rw [hstk]
  refine call_go (va_runV (n := n) (As := As.map (cv D)) ⟨E.1, E.2.1, E.2.2.2.1, E.2.2.2.2.1, hts⟩ hC (cwV n hts (good_gt (fun w hw' => ?_)) rfl rfl rfl c5 hfit) ⟨pc_blind _, hrecv, hpre⟩ rfl (by rw [List.length_map]; exact hn) hl.1.1 rfl (by show 2 * 0 + _ ≤ 8; rw [cat_map]; omega) hd hcap) hS (fun r M' H1 locs1 hP hR1 hS1 => ?_)
  · rcases List.mem_append.mp hw' with h | h
    · simp only [List.mem_cons, List.not_mem_nil, or_false] at h
      rcases h with rfl | rfl | rfl | rfl
      · exact hw
      · exact c1
      · exact c2
      · exact c3
    · exact wsY_gt c4 w h
  · rw [back_map]
    exact k r M' hP p e s m args below meth c E H1 locs1 hR1 hS1 lsA hl
theorem wp_callS {Y' : MT} {index n : Nat} {As stk : List Value} {P : Option Value → Mem → Prop} (hd : decode (mC Y) pc = .ok (.invokestatic index, 3)) (hw : Cond.methodLink (mY Y).cls index (mY Y') ∈ gtbl) (hce : CeS Y' n) (hfit : Fit Y Y') (hcap : kc + (mRm Y').cells ≤ (mRm Y).cells ∧ ks + (mRm Y').slots ≤ (mRm Y).slots) (hC : Ct D l Y' As M P) (hn : As.length = n) (hst : stk = As.reverse ++ st) (hroom : (st.map fun v => v.category).sum ≤ 8)
    (k : ∀ (r : Option Value) (M' : Mem), P r M' → WP D l Y (kc + (mRm Y').cells) (ks + (mRm Y').slots) (pc + 3) ls (r.toList ++ st) M' post) : WP D l Y kc ks pc ls stk M post := by
  intro p e s m args below meth c E H locs hR hS lsA hl
  obtain ⟨c1, c2, c3, c5⟩ := hce
  have hts := E.2.2.2.2.2.1
  have hK := E.2.2.2.2.2.2.2.2.1
  subst hst
  rw [List.map_append, List.map_reverse]
  refine call_go (va_runS (n := n) (As := As.map (cv D)) ⟨E.1, E.2.1, E.2.2.2.1, E.2.2.2.2.1, hts⟩ hC (va_cwS n hts (good_gt (fun w hw' => ?_)) rfl rfl rfl c5 hfit) ⟨pc_blind _, pc_here hR hK E.2.2.2.2.2.2.2.2.2 hS As⟩ rfl (by rw [List.length_map]; exact hn) hl.1.1 rfl (by show 2 * 0 + _ ≤ 8; rw [cat_map]; omega) hd hcap) hS (fun r M' H1 locs1 hP hR1 hS1 => ?_)
  · rcases List.mem_append.mp hw' with h | h
    · simp only [List.mem_cons, List.not_mem_nil, or_false] at h
      rcases h with rfl | rfl | rfl
      · exact hw
      · exact c1
      · exact c2
    · exact wsY_gt c3 w h
  · rw [back_map]
    exact k r M' hP p e s m args below meth c E H1 locs1 hR1 hS1 lsA hl
theorem wp_callSN {Y' : MT} {index n : Nat} {host : String} {As stk : List Value} {P : Option Value → Mem → Prop} (hd : decode (mC Y) pc = .ok (.invokestatic index, 3)) (hw : Cond.methodLinkNest (mY Y).cls index (mY Y') host ∈ nestTbl) (hce : CeS Y' n) (hfit : Fit Y Y') (hcap : kc + (mRm Y').cells ≤ (mRm Y).cells ∧ ks + (mRm Y').slots ≤ (mRm Y).slots) (hC : Ct D l Y' As M P) (hn : As.length = n) (hst : stk = As.reverse ++ st) (hroom : (st.map fun v => v.category).sum ≤ 8)
    (k : ∀ (r : Option Value) (M' : Mem), P r M' → WP D l Y (kc + (mRm Y').cells) (ks + (mRm Y').slots) (pc + 3) ls (r.toList ++ st) M' post) : WP D l Y kc ks pc ls stk M post := by
  intro p e s m args below meth c E H locs hR hS lsA hl
  obtain ⟨c1, c2, c3, c5⟩ := hce
  have hts := E.2.2.2.2.2.1
  have hK := E.2.2.2.2.2.2.2.2.1
  subst hst
  rw [List.map_append, List.map_reverse]
  refine call_go (va_runSN (n := n) (As := As.map (cv D)) ⟨E.1, E.2.1, E.2.2.2.1, E.2.2.2.2.1, hts⟩ hC ⟨va_cnB n hts (good_gt (wsY_gt c3)) rfl rfl rfl (hK.2.2.1 _ hw) (hts _ c2) c5 hfit, hts _ c1, trivial⟩ ⟨pc_blind _, pc_here hR hK E.2.2.2.2.2.2.2.2.2 hS As⟩ rfl (by rw [List.length_map]; exact hn) hl.1.1 rfl (by show 2 * 0 + _ ≤ 8; rw [cat_map]; omega) hd hcap) hS (fun r M' H1 locs1 hP hR1 hS1 => ?_)
  rw [back_map]
  exact k r M' hP p e s m args below meth c E H1 locs1 hR1 hS1 lsA hl
theorem wp_callI {Y' : MT} {b index n : Nat} {As stk : List Value} {P : Option Value → Mem → Prop} (hd : decode (mC Y) pc = .ok (.invokespecial index, 3)) (hw : Cond.methodLink (mY Y).cls index (mY Y') ∈ gtbl) (hce : CeI Y' n) (hfit : Fit Y Y') (hcap : kc + (mRm Y').cells ≤ (mRm Y).cells ∧ ks + (mRm Y').slots ≤ (mRm Y).slots) (ht : (mS M b).1 < 13) (hC : Ct D l Y' (.ref b :: As) M P) (hn : As.length = n) (hst : stk = As.reverse ++ .ref b :: st) (hroom : (st.map fun v => v.category).sum ≤ 8)
    (k : ∀ (r : Option Value) (M' : Mem), P r M' → WP D l Y (kc + (mRm Y').cells) (ks + (mRm Y').slots) (pc + 3) ls (r.toList ++ st) M' post) : WP D l Y kc ks pc ls stk M post := by
  intro p e s m args below meth c E H locs hR hS lsA hl
  obtain ⟨c1, c2, c3, c4, c6, c5⟩ := hce
  have hts := E.2.2.2.2.2.1
  have hlv := hR.live (a := b) ht
  have hK := E.2.2.2.2.2.2.2.2.1
  have hpre := pc_here hR hK E.2.2.2.2.2.2.2.2.2 hS (.ref b :: As)
  rw [List.map_cons, cv_ref hlv.1] at hpre
  subst hst
  have hstk : (As.reverse ++ .ref b :: st).map (cv D) = (As.map (cv D)).reverse ++ .ref (dBase D + (b - 5)) :: st.map (cv D) := by
    rw [List.map_append, List.map_reverse, List.map_cons, cv_ref hlv.1]
  rw [hstk]
  refine call_go (va_runI (n := n) (As := As.map (cv D)) ⟨E.1, E.2.1, E.2.2.2.1, E.2.2.2.2.1, hts⟩ hC (cwI n hts (good_gt (wsY_gt c3)) (by rw [← c6]; rfl) rfl rfl (hts _ c2) (hts _ hw) (hts _ c1) c4 c5 hfit) ⟨pc_blind _, hpre⟩ rfl (by rw [List.length_map]; exact hn) hl.1.1 rfl (by show 2 * 0 + _ ≤ 8; rw [cat_map]; omega) hd hcap) hS (fun r M' H1 locs1 hP hR1 hS1 => ?_)
  rw [back_map]
  exact k r M' hP p e s m args below meth c E H1 locs1 hR1 hS1 lsA hl
theorem wp_callIN {Y' : MT} {b index n : Nat} {host : String} {As stk : List Value} {P : Option Value → Mem → Prop} (hd : decode (mC Y) pc = .ok (.invokespecial index, 3)) (hw : Cond.methodLinkNest (mY Y).cls index (mY Y') host ∈ nestTbl) (hce : CeI Y' n) (hfit : Fit Y Y') (hcap : kc + (mRm Y').cells ≤ (mRm Y).cells ∧ ks + (mRm Y').slots ≤ (mRm Y).slots) (ht : (mS M b).1 < 13) (hC : Ct D l Y' (.ref b :: As) M P) (hn : As.length = n) (hst : stk = As.reverse ++ .ref b :: st) (hroom : (st.map fun v => v.category).sum ≤ 8)
    (k : ∀ (r : Option Value) (M' : Mem), P r M' → WP D l Y (kc + (mRm Y').cells) (ks + (mRm Y').slots) (pc + 3) ls (r.toList ++ st) M' post) : WP D l Y kc ks pc ls stk M post := by
  intro p e s m args below meth c E H locs hR hS lsA hl
  obtain ⟨c1, c2, c3, c4, c6, c5⟩ := hce
  have hts := E.2.2.2.2.2.1
  have hlv := hR.live (a := b) ht
  have hK := E.2.2.2.2.2.2.2.2.1
  have hpre := pc_here hR hK E.2.2.2.2.2.2.2.2.2 hS (.ref b :: As)
  rw [List.map_cons, cv_ref hlv.1] at hpre
  subst hst
  have hstk : (As.reverse ++ .ref b :: st).map (cv D) = (As.map (cv D)).reverse ++ .ref (dBase D + (b - 5)) :: st.map (cv D) := by
    rw [List.map_append, List.map_reverse, List.map_cons, cv_ref hlv.1]
  rw [hstk]
  refine call_go (va_runIN (n := n) (As := As.map (cv D)) ⟨E.1, E.2.1, E.2.2.2.1, E.2.2.2.2.1, hts⟩ hC ⟨va_cnB n hts (good_gt (wsY_gt c3)) (by rw [← c6]; rfl) rfl rfl (hK.2.2.1 _ hw) (hts _ c2) c5 hfit, c4, hts _ c1⟩ ⟨pc_blind _, hpre⟩ rfl (by rw [List.length_map]; exact hn) hl.1.1 rfl (by show 2 * 0 + _ ≤ 8; rw [cat_map]; omega) hd hcap) hS (fun r M' H1 locs1 hP hR1 hS1 => ?_)
  rw [back_map]
  exact k r M' hP p e s m args below meth c E H1 locs1 hR1 hS1 lsA hl
/-! a contract out of the walk from its entry -/
def entA (av : List Value) : List Value := av.flatMap fun v => if v.category = 2 then [v, JK] else [v]
theorem entA_len (av : List Value) : (entA av).length = (lg_sl (av.map (cv D))).length := by
  induction av with
  | nil => rfl
  | cons v t ih =>
    have h1 : entA (v :: t) = (if v.category = 2 then [v, JK] else [v]) ++ entA t := rfl
    have h2 : lg_sl ((v :: t).map (cv D)) = (if (cv D v).category = 2 then [.val (cv D v), .second] else [.val (cv D v)]) ++ lg_sl (t.map (cv D)) := rfl
    rw [h1, h2, List.length_append, List.length_append, ih, cv_cat]
    by_cases h : v.category = 2 <;> simp [h]
theorem ent_in (av : List Value) : ∀ (o i : Nat) (v : Value), (entA av)[i]? = some v → isJ v = false → (∀ w ∈ av, isJ w = false) → (o + i, cv D v) ∈ lv_args o (av.map (cv D)) := by
  induction av with
  | nil => intro o i v h; simp [entA] at h
  | cons w t ih =>
    intro o i v h hj ha
    have h1 : entA (w :: t) = (if w.category = 2 then [w, JK] else [w]) ++ entA t := rfl
    rw [h1] at h
    have ha' : ∀ w ∈ t, isJ w = false := fun x hx => ha x (List.mem_cons_of_mem _ hx)
    rw [List.map_cons]
    unfold lv_args
    by_cases hc : w.category = 2
    · rw [if_pos hc] at h
      match i, h with
      | 0, h => cases h; exact List.mem_cons_self
      | 1, h => cases h; cases hj
      | i + 2, h =>
        have h2 : (entA t)[i]? = some v := by simpa using h
        have h3 := ih (o + 2) i v h2 hj ha'
        refine List.mem_cons_of_mem _ ?_
        rw [cv_cat, hc]
        rw [show o + (i + 2) = o + 2 + i by omega]
        exact h3
    · rw [if_neg hc] at h
      match i, h with
      | 0, h => cases h; exact List.mem_cons_self
      | i + 1, h =>
        have h2 : (entA t)[i]? = some v := by simpa using h
        have h3 := ih (o + 1) i v h2 hj ha'
        have hc1 : w.category = 1 := (lv_cat w).resolve_right hc
        refine List.mem_cons_of_mem _ ?_
        rw [cv_cat, hc1]
        rw [show o + (i + 1) = o + 1 + i by omega]
        exact h3
theorem ct_of {av ls0 : List Value} (hp : plainName (mY Y).cls = true) (hJ : av.all (fun v => !isJ v) = true) (he : entA av ++ List.replicate (mL Y - (entA av).length) JK = ls0) (hlen : Nat.ble (entA av).length (mL Y) = true) (h : WP D l Y 0 0 0 ls0 [] M post) : Ct D l Y av M post := by
  refine Met.ofW (cc := mC Y) (maxL := mL Y) (ret := mT Y) hp rfl ?_
  intro p e s m args below meth c s₁ B hml hv
  obtain ⟨rfl, hR, hK, hO⟩ := hv
  have hlen : (entA av).length ≤ mL Y := Nat.le_of_ble_eq_true hlen
  have E : Ent D Y p s m (av.map (cv D)).toArray meth c := ⟨B.exec, B.bytes, B.returns, hml, findClass_of_methodNamed B.named, fun w hw => atoms_spec (ws := wsY Y) B.pre w (List.mem_cons_of_mem _ hw), B.notSynchronized, fun h => (name_of_methodNamed B.named B.method).1.trans h, hK, hO⟩
  rw [lg_entry_eq]
  have hl := lv_entry (av.map (cv D)) (n := mL Y) (by rw [← entA_len]; exact hlen)
  have hJ' : ∀ w ∈ av, isJ w = false := fun w hw => by simpa using List.all_eq_true.mp hJ w hw
  refine h p e s m _ below meth c E s.heap [] hR va_S.rf _ ⟨⟨hl.1, hl.2.1, fun q hq => ?_⟩, ?_⟩
  · obtain ⟨v, h1, h2, h3⟩ := asc_of hq
    rw [← he] at h1
    have hq1 : q.1 < (entA av).length := by
      rcases Nat.lt_or_ge q.1 (entA av).length with hlt | hge
      · exact hlt
      · rw [List.getElem?_append_right hge] at h1
        have := List.mem_of_getElem? h1
        rw [(List.mem_replicate.mp this).2] at h2
        cases h2
    rw [List.getElem?_append_left hq1] at h1
    have h4 := ent_in (D := D) av 0 q.1 v h1 h2 hJ'
    rw [Nat.zero_add, ← h3] at h4
    exact hl.2.2 q h4
  · rw [← he, List.length_append, List.length_replicate]
    omega
end Calls
/-! what a functional program answers -/
def HI (o : Option (Int32 × Mem)) (post : Option Value → Mem → Prop) : Prop := ∃ r N, o = some (r, N) ∧ post (some (.int r)) N
def HL (o : Option (Int64 × Mem)) (post : Option Value → Mem → Prop) : Prop := ∃ r N, o = some (r, N) ∧ post (some (.long r)) N
def HV (o : Option Mem) (post : Option Value → Mem → Prop) : Prop := ∃ N, o = some N ∧ post none N
def PI (M : Mem) (o : Option Int32) (post : Option Value → Mem → Prop) : Prop := ∃ r, o = some r ∧ post (some (.int r)) M
def PL (M : Mem) (o : Option Int64) (post : Option Value → Mem → Prop) : Prop := ∃ r, o = some r ∧ post (some (.long r)) M
theorem HI.none {post : Option Value → Mem → Prop} (h : HI none post) : False := by obtain ⟨_, _, h, _⟩ := h; cases h
theorem HL.none {post : Option Value → Mem → Prop} (h : HL none post) : False := by obtain ⟨_, _, h, _⟩ := h; cases h
theorem HV.none {post : Option Value → Mem → Prop} (h : HV none post) : False := by obtain ⟨_, h, _⟩ := h; cases h
theorem PI.none {M : Mem} {post : Option Value → Mem → Prop} (h : PI M none post) : False := by obtain ⟨_, h, _⟩ := h; cases h
theorem PL.none {M : Mem} {post : Option Value → Mem → Prop} (h : PL M none post) : False := by obtain ⟨_, h, _⟩ := h; cases h
theorem bind_ex {α β : Type} {o : Option α} {f : α → Option β} {q : β} (h : o.bind f = some q) : ∃ v, o = some v ∧ f v = some q := by
  cases o with
  | none => cases h
  | some v => exact ⟨v, rfl, h⟩
theorem HI.bind {α : Type} {o : Option α} {f : α → Option (Int32 × Mem)} {post : Option Value → Mem → Prop} (h : HI (o.bind f) post) : ∃ v, o = some v ∧ HI (f v) post := by
  obtain ⟨r, N, h, hp⟩ := h
  obtain ⟨v, h1, h2⟩ := bind_ex h
  exact ⟨v, h1, r, N, h2, hp⟩
theorem HL.bind {α : Type} {o : Option α} {f : α → Option (Int64 × Mem)} {post : Option Value → Mem → Prop} (h : HL (o.bind f) post) : ∃ v, o = some v ∧ HL (f v) post := by
  obtain ⟨r, N, h, hp⟩ := h
  obtain ⟨v, h1, h2⟩ := bind_ex h
  exact ⟨v, h1, r, N, h2, hp⟩
theorem HV.bind {α : Type} {o : Option α} {f : α → Option Mem} {post : Option Value → Mem → Prop} (h : HV (o.bind f) post) : ∃ v, o = some v ∧ HV (f v) post := by
  obtain ⟨N, h, hp⟩ := h
  obtain ⟨v, h1, h2⟩ := bind_ex h
  exact ⟨v, h1, N, h2, hp⟩
theorem PI.bind {α : Type} {M : Mem} {o : Option α} {f : α → Option Int32} {post : Option Value → Mem → Prop} (h : PI M (o.bind f) post) : ∃ v, o = some v ∧ PI M (f v) post := by
  obtain ⟨r, h, hp⟩ := h
  obtain ⟨v, h1, h2⟩ := bind_ex h
  exact ⟨v, h1, r, h2, hp⟩
theorem PL.bind {α : Type} {M : Mem} {o : Option α} {f : α → Option Int64} {post : Option Value → Mem → Prop} (h : PL M (o.bind f) post) : ∃ v, o = some v ∧ PL M (f v) post := by
  obtain ⟨r, h, hp⟩ := h
  obtain ⟨v, h1, h2⟩ := bind_ex h
  exact ⟨v, h1, r, h2, hp⟩
theorem HI.some {v : Int32} {N : Mem} {post : Option Value → Mem → Prop} (h : HI (some (v, N)) post) : post (Option.some (.int v)) N := by obtain ⟨_, _, h, hp⟩ := h; cases h; exact hp
theorem HL.some {v : Int64} {N : Mem} {post : Option Value → Mem → Prop} (h : HL (some (v, N)) post) : post (Option.some (.long v)) N := by obtain ⟨_, _, h, hp⟩ := h; cases h; exact hp
theorem HV.some {N : Mem} {post : Option Value → Mem → Prop} (h : HV (some N) post) : post Option.none N := by obtain ⟨_, h, hp⟩ := h; cases h; exact hp
theorem PI.some {M : Mem} {v : Int32} {post : Option Value → Mem → Prop} (h : PI M (some v) post) : post (Option.some (.int v)) M := by obtain ⟨_, h, hp⟩ := h; cases h; exact hp
theorem PL.some {M : Mem} {v : Int64} {post : Option Value → Mem → Prop} (h : PL M (some v) post) : post (Option.some (.long v)) M := by obtain ⟨_, h, hp⟩ := h; cases h; exact hp
theorem HI.t {c : Prop} [Decidable c] {a b : Option (Int32 × Mem)} {post : Option Value → Mem → Prop} (hc : c) (h : HI (if c then a else b) post) : HI a post := by rwa [if_pos hc] at h
theorem HI.f {c : Prop} [Decidable c] {a b : Option (Int32 × Mem)} {post : Option Value → Mem → Prop} (hc : ¬ c) (h : HI (if c then a else b) post) : HI b post := by rwa [if_neg hc] at h
theorem HL.t {c : Prop} [Decidable c] {a b : Option (Int64 × Mem)} {post : Option Value → Mem → Prop} (hc : c) (h : HL (if c then a else b) post) : HL a post := by rwa [if_pos hc] at h
theorem HL.f {c : Prop} [Decidable c] {a b : Option (Int64 × Mem)} {post : Option Value → Mem → Prop} (hc : ¬ c) (h : HL (if c then a else b) post) : HL b post := by rwa [if_neg hc] at h
theorem HV.t {c : Prop} [Decidable c] {a b : Option Mem} {post : Option Value → Mem → Prop} (hc : c) (h : HV (if c then a else b) post) : HV a post := by rwa [if_pos hc] at h
theorem HV.f {c : Prop} [Decidable c] {a b : Option Mem} {post : Option Value → Mem → Prop} (hc : ¬ c) (h : HV (if c then a else b) post) : HV b post := by rwa [if_neg hc] at h
theorem PI.t {M : Mem} {c : Prop} [Decidable c] {a b : Option Int32} {post : Option Value → Mem → Prop} (hc : c) (h : PI M (if c then a else b) post) : PI M a post := by rwa [if_pos hc] at h
theorem PI.f {M : Mem} {c : Prop} [Decidable c] {a b : Option Int32} {post : Option Value → Mem → Prop} (hc : ¬ c) (h : PI M (if c then a else b) post) : PI M b post := by rwa [if_neg hc] at h
theorem PL.t {M : Mem} {c : Prop} [Decidable c] {a b : Option Int64} {post : Option Value → Mem → Prop} (hc : c) (h : PL M (if c then a else b) post) : PL M a post := by rwa [if_pos hc] at h
theorem PL.f {M : Mem} {c : Prop} [Decidable c] {a b : Option Int64} {post : Option Value → Mem → Prop} (hc : ¬ c) (h : PL M (if c then a else b) post) : PL M b post := by rwa [if_neg hc] at h
def FU : Nat := 1000000
