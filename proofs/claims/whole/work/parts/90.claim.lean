def R_law : String := "WreathOrbitsLaw"
def lw_P (b : Addr) (xs : List Int32) (args : Array Value) (s : State) : Prop := args = #[.ref b] ∧ s.IntsAt b xs ∧ xs.length ≤ 384 ∧ (Jvm.Cond.and given_1 narrow_1).before args s = true
def lw_Q (_ : Array Value) (s : State) (o : Outcome) (t : State) : Prop := o = .returned (some (.int 1)) ∧ Framed s o t [] 600000 7302250
def lw_Z (below : List Frame) (a : Array Value) (s : State) : State → Prop := fun t => ∃ o, t.status = .running ∧ Ended t below o ∧ lw_Q a s o t
/-- the law's own end, with 1 on the stack, nothing written that was there before, its room as the claim has it -/
theorem lw_ret {p : Program} {l : Launch} {e : Env} {s : State} {m : MethodId} {below : List Frame} {meth : Method} {c : Code} {b : Nat} (hx : p.tables.exec = Jvm.exec) (hb : c.code = code) (hr : meth.sig.returnType = ret) (hlocks : meth.locks = false) {pc : Nat} {H : Heap} {ls : Array Slot} (hdg : decode code pc = .ok (.ireturn, 1)) : W p l e room_1 s m #[Value.ref b] below meth c H [] 600000 7302250 (lw_Z below #[Value.ref b] s) (F0 m pc ls [.int 1]) := by
  intro T hT X
  obtain ⟨fs, hret, hrun, hended, hW, hframe⟩ := X.leave (v := some (.int 1)) (hlocks := hlocks) (fun h => by rw [hr] at h; cases h)
  have hmeth' : T.vm.method? m = some meth := X.method'
  refine ⟨T.setFrames fs, ?_, .returned (some (.int 1)), hrun, hended, rfl, ⟨_, rfl⟩, hW, hframe⟩
  jvm_step X.here [X.here.top, hx, hb, hdg, hmeth', hr, ret, narrow_b1]
  (try refine ⟨rfl, ?_⟩); (try refine ⟨rfl, ?_⟩)
  first | (intro acts; rw [hret _ acts rfl rfl rfl]) | rw [hret _ _ rfl rfl rfl]
  exact Steps.refl _
/-- what holds at the law's entry: the machine, the code, the tables' words (any of lw_tbl by 'hts w (by decide +kernel)'), the script of L ints xs at the cell b, what the Statement gives of the start (any of its parts by flat_of_before) -/
def lw_At (p : Program) (s : State) (m : MethodId) (meth : Method) (c : Code) (b L : Nat) (xs : Nat → Int32) : Prop :=
  p.tables.exec = Jvm.exec ∧ c.code = code ∧ meth.sig.returnType = ret ∧ c.maxLocals = 4 ∧ s.vm.findClass R_law = some m.cls ∧ (∀ w ∈ lw_tbl, w.before #[Value.ref b] s = true) ∧ va_X b L xs s s.heap ∧ b < s.heap.size ∧ meth.locks = false ∧ (Jvm.Cond.and given_1 narrow_1).before #[Value.ref b] s = true
section Start
variable {p : Program} {l : Launch} {e : Env} {R : Room} {s : State} {m : MethodId} {args : Array Value} {below : List Frame} {meth : Method} {c : Code} {H : Heap} {locs : List Loc} {cells slots : Nat}
theorem W.mono {Q Q2 : State → Prop} {g : JFrame} (hQ : ∀ t, Q t → Q2 t) (k : W p l e R s m args below meth c H locs cells slots Q g) : W p l e R s m args below meth c H locs cells slots Q2 g := fun T hT X => by
  obtain ⟨t, a, b⟩ := k T hT X
  exact ⟨t, a, hQ t b⟩
end Start
theorem tb2 {args : Array Value} {s : State} {A : Nat → Prop} (hA : ∀ a : Nat, a < s.heap.size → ¬ A a) (hgv : (Jvm.Cond.and given_1 narrow_1).before args s = true) : ∃ t : Nat, (Term.static "WreathOrbits" "FIRST_TOWN" "[I").eval args s none [] s = some (.ref t) ∧ va_T .int t 35 (fun j => .int (tab2.getD j 0)) A s s.heap := by
  have hs := flat_of_before _ hgv
  refine va_Tof (by decide) (hs (.arrayOf (Term.static "WreathOrbits" "FIRST_TOWN" "[I") .int) (by decide +kernel)) (va_eqt (hs (.eq (.length (Term.static "WreathOrbits" "FIRST_TOWN" "[I")) (.int 35)) (by decide +kernel))) (fun j hj => ?_) hA
  match j, hj with
  | 0, _ => exact va_eqt (hs (.eq (.elem (Term.static "WreathOrbits" "FIRST_TOWN" "[I") (.int 0)) (.int 0)) (by decide +kernel))
  | 1, _ => exact va_eqt (hs (.eq (.elem (Term.static "WreathOrbits" "FIRST_TOWN" "[I") (.int 1)) (.int 0)) (by decide +kernel))
  | 2, _ => exact va_eqt (hs (.eq (.elem (Term.static "WreathOrbits" "FIRST_TOWN" "[I") (.int 2)) (.int 3)) (by decide +kernel))
  | 3, _ => exact va_eqt (hs (.eq (.elem (Term.static "WreathOrbits" "FIRST_TOWN" "[I") (.int 3)) (.int 0)) (by decide +kernel))
  | 4, _ => exact va_eqt (hs (.eq (.elem (Term.static "WreathOrbits" "FIRST_TOWN" "[I") (.int 4)) (.int 1)) (by decide +kernel))
  | 5, _ => exact va_eqt (hs (.eq (.elem (Term.static "WreathOrbits" "FIRST_TOWN" "[I") (.int 5)) (.int 1)) (by decide +kernel))
  | 6, _ => exact va_eqt (hs (.eq (.elem (Term.static "WreathOrbits" "FIRST_TOWN" "[I") (.int 6)) (.int 0)) (by decide +kernel))
  | 7, _ => exact va_eqt (hs (.eq (.elem (Term.static "WreathOrbits" "FIRST_TOWN" "[I") (.int 7)) (.int 3)) (by decide +kernel))
  | 8, _ => exact va_eqt (hs (.eq (.elem (Term.static "WreathOrbits" "FIRST_TOWN" "[I") (.int 8)) (.int 6)) (by decide +kernel))
  | 9, _ => exact va_eqt (hs (.eq (.elem (Term.static "WreathOrbits" "FIRST_TOWN" "[I") (.int 9)) (.int 2)) (by decide +kernel))
  | 10, _ => exact va_eqt (hs (.eq (.elem (Term.static "WreathOrbits" "FIRST_TOWN" "[I") (.int 10)) (.int 2)) (by decide +kernel))
  | 11, _ => exact va_eqt (hs (.eq (.elem (Term.static "WreathOrbits" "FIRST_TOWN" "[I") (.int 11)) (.int 0)) (by decide +kernel))
  | 12, _ => exact va_eqt (hs (.eq (.elem (Term.static "WreathOrbits" "FIRST_TOWN" "[I") (.int 12)) (.int 3)) (by decide +kernel))
  | 13, _ => exact va_eqt (hs (.eq (.elem (Term.static "WreathOrbits" "FIRST_TOWN" "[I") (.int 13)) (.int 4)) (by decide +kernel))
  | 14, _ => exact va_eqt (hs (.eq (.elem (Term.static "WreathOrbits" "FIRST_TOWN" "[I") (.int 14)) (.int 5)) (by decide +kernel))
  | 15, _ => exact va_eqt (hs (.eq (.elem (Term.static "WreathOrbits" "FIRST_TOWN" "[I") (.int 15)) (.int 3)) (by decide +kernel))
  | 16, _ => exact va_eqt (hs (.eq (.elem (Term.static "WreathOrbits" "FIRST_TOWN" "[I") (.int 16)) (.int 1)) (by decide +kernel))
  | 17, _ => exact va_eqt (hs (.eq (.elem (Term.static "WreathOrbits" "FIRST_TOWN" "[I") (.int 17)) (.int 2)) (by decide +kernel))
  | 18, _ => exact va_eqt (hs (.eq (.elem (Term.static "WreathOrbits" "FIRST_TOWN" "[I") (.int 18)) (.int 9)) (by decide +kernel))
  | 19, _ => exact va_eqt (hs (.eq (.elem (Term.static "WreathOrbits" "FIRST_TOWN" "[I") (.int 19)) (.int 1)) (by decide +kernel))
  | 20, _ => exact va_eqt (hs (.eq (.elem (Term.static "WreathOrbits" "FIRST_TOWN" "[I") (.int 20)) (.int 0)) (by decide +kernel))
  | 21, _ => exact va_eqt (hs (.eq (.elem (Term.static "WreathOrbits" "FIRST_TOWN" "[I") (.int 21)) (.int 1)) (by decide +kernel))
  | 22, _ => exact va_eqt (hs (.eq (.elem (Term.static "WreathOrbits" "FIRST_TOWN" "[I") (.int 22)) (.int 2)) (by decide +kernel))
  | 23, _ => exact va_eqt (hs (.eq (.elem (Term.static "WreathOrbits" "FIRST_TOWN" "[I") (.int 23)) (.int 3)) (by decide +kernel))
  | 24, _ => exact va_eqt (hs (.eq (.elem (Term.static "WreathOrbits" "FIRST_TOWN" "[I") (.int 24)) (.int 7)) (by decide +kernel))
  | 25, _ => exact va_eqt (hs (.eq (.elem (Term.static "WreathOrbits" "FIRST_TOWN" "[I") (.int 25)) (.int 2)) (by decide +kernel))
  | 26, _ => exact va_eqt (hs (.eq (.elem (Term.static "WreathOrbits" "FIRST_TOWN" "[I") (.int 26)) (.int 1)) (by decide +kernel))
  | 27, _ => exact va_eqt (hs (.eq (.elem (Term.static "WreathOrbits" "FIRST_TOWN" "[I") (.int 27)) (.int 5)) (by decide +kernel))
  | 28, _ => exact va_eqt (hs (.eq (.elem (Term.static "WreathOrbits" "FIRST_TOWN" "[I") (.int 28)) (.int 3)) (by decide +kernel))
  | 29, _ => exact va_eqt (hs (.eq (.elem (Term.static "WreathOrbits" "FIRST_TOWN" "[I") (.int 29)) (.int 1)) (by decide +kernel))
  | 30, _ => exact va_eqt (hs (.eq (.elem (Term.static "WreathOrbits" "FIRST_TOWN" "[I") (.int 30)) (.int 1)) (by decide +kernel))
  | 31, _ => exact va_eqt (hs (.eq (.elem (Term.static "WreathOrbits" "FIRST_TOWN" "[I") (.int 31)) (.int 4)) (by decide +kernel))
  | 32, _ => exact va_eqt (hs (.eq (.elem (Term.static "WreathOrbits" "FIRST_TOWN" "[I") (.int 32)) (.int 1)) (by decide +kernel))
  | 33, _ => exact va_eqt (hs (.eq (.elem (Term.static "WreathOrbits" "FIRST_TOWN" "[I") (.int 33)) (.int 0)) (by decide +kernel))
  | 34, _ => exact va_eqt (hs (.eq (.elem (Term.static "WreathOrbits" "FIRST_TOWN" "[I") (.int 34)) (.int 0)) (by decide +kernel))
  | j + 35, h => exact absurd h (by omega)
theorem tb3 {args : Array Value} {s : State} {A : Nat → Prop} (hA : ∀ a : Nat, a < s.heap.size → ¬ A a) (hgv : (Jvm.Cond.and given_1 narrow_1).before args s = true) : ∃ t : Nat, (Term.static "WreathOrbits$Text" "LEAST" "[I").eval args s none [] s = some (.ref t) ∧ va_T .int t 5 (fun j => .int (tab3.getD j 0)) A s s.heap := by
  have hs := flat_of_before _ hgv
  refine va_Tof (by decide) (hs (.arrayOf (Term.static "WreathOrbits$Text" "LEAST" "[I") .int) (by decide +kernel)) (va_eqt (hs (.eq (.length (Term.static "WreathOrbits$Text" "LEAST" "[I")) (.int 5)) (by decide +kernel))) (fun j hj => ?_) hA
  match j, hj with
  | 0, _ => exact va_eqt (hs (.eq (.elem (Term.static "WreathOrbits$Text" "LEAST" "[I") (.int 0)) (.int 0)) (by decide +kernel))
  | 1, _ => exact va_eqt (hs (.eq (.elem (Term.static "WreathOrbits$Text" "LEAST" "[I") (.int 1)) (.int 0)) (by decide +kernel))
  | 2, _ => exact va_eqt (hs (.eq (.elem (Term.static "WreathOrbits$Text" "LEAST" "[I") (.int 2)) (.int 1)) (by decide +kernel))
  | 3, _ => exact va_eqt (hs (.eq (.elem (Term.static "WreathOrbits$Text" "LEAST" "[I") (.int 3)) (.int 0)) (by decide +kernel))
  | 4, _ => exact va_eqt (hs (.eq (.elem (Term.static "WreathOrbits$Text" "LEAST" "[I") (.int 4)) (.int 0)) (by decide +kernel))
  | j + 5, h => exact absurd h (by omega)
theorem tb4 {args : Array Value} {s : State} {A : Nat → Prop} (hA : ∀ a : Nat, a < s.heap.size → ¬ A a) (hgv : (Jvm.Cond.and given_1 narrow_1).before args s = true) : ∃ t : Nat, (Term.static "WreathOrbits$Text" "MOST" "[I").eval args s none [] s = some (.ref t) ∧ va_T .int t 5 (fun j => .int (tab4.getD j 0)) A s s.heap := by
  have hs := flat_of_before _ hgv
  refine va_Tof (by decide) (hs (.arrayOf (Term.static "WreathOrbits$Text" "MOST" "[I") .int) (by decide +kernel)) (va_eqt (hs (.eq (.length (Term.static "WreathOrbits$Text" "MOST" "[I")) (.int 5)) (by decide +kernel))) (fun j hj => ?_) hA
  match j, hj with
  | 0, _ => exact va_eqt (hs (.eq (.elem (Term.static "WreathOrbits$Text" "MOST" "[I") (.int 0)) (.int 3)) (by decide +kernel))
  | 1, _ => exact va_eqt (hs (.eq (.elem (Term.static "WreathOrbits$Text" "MOST" "[I") (.int 1)) (.int 5)) (by decide +kernel))
  | 2, _ => exact va_eqt (hs (.eq (.elem (Term.static "WreathOrbits$Text" "MOST" "[I") (.int 2)) (.int 9)) (by decide +kernel))
  | 3, _ => exact va_eqt (hs (.eq (.elem (Term.static "WreathOrbits$Text" "MOST" "[I") (.int 3)) (.int 11)) (by decide +kernel))
  | 4, _ => exact va_eqt (hs (.eq (.elem (Term.static "WreathOrbits$Text" "MOST" "[I") (.int 4)) (.int 11)) (by decide +kernel))
  | j + 5, h => exact absurd h (by omega)
set_option maxHeartbeats 4000000 in
theorem whole_start {p : Program} {e : Env} {s : State} {m : MethodId} {below : List Frame} {meth : Method} {c : Code} (l : Launch) (hflags : l.flags = flags0) {b L : Nat} {xs : Nat → Int32} (hL : L ≤ 384) (C0 : lw_At p s m meth c b L xs) : W p l e room_1 s m #[Value.ref b] below meth c s.heap [] 0 0 (lw_Z below #[Value.ref b] s) (entryFrame m ([Value.ref b] : List Value).toArray 4) := by
  obtain ⟨hx, hb, hr, hml, hown, hts, hX, hbl, hlocks, hgv⟩ := id C0
  have htg : ∀ w ∈ gtbl, w.before #[Value.ref b] s = true := fun w h => hts w (gt_in w h)
  obtain ⟨c0, i0, q0⟩ := u_known (C := RX0) (T := TX0) (N := 2) (n := 2) htg in0 (htg _ iw_0)
  obtain ⟨c1, i1, q1⟩ := u_known (C := RX1) (T := TX1) (N := 4) (n := 4) htg in1 (htg _ iw_1)
  obtain ⟨c2, i2, q2⟩ := u_known (C := RX2) (T := TX2) (N := 2) (n := 2) htg in2 (htg _ iw_2)
  obtain ⟨c3, i3, q3⟩ := u_known (C := RX3) (T := TX3) (N := 3) (n := 3) htg in3 (htg _ iw_3)
  obtain ⟨c4, i4, q4⟩ := u_known (C := RX4) (T := TX4) (N := 4) (n := 4) htg in4 (htg _ iw_4)
  obtain ⟨c5, i5, q5⟩ := u_known (C := RX5) (T := TX5) (N := 8) (n := 8) htg in5 (htg _ iw_5)
  obtain ⟨c6, i6, q6⟩ := u_known (C := RX6) (T := TX6) (N := 10) (n := 10) htg in6 (htg _ iw_6)
  obtain ⟨c7, i7, q7⟩ := u_known (C := RX7) (T := TX7) (N := 30) (n := 30) htg in7 (htg _ iw_7)
  obtain ⟨a10, k10, n10, f10, g10, h10⟩ := Cond.arrayClass_spec (htg _ aw_int)
  obtain ⟨a11, k11, n11, f11, g11, h11⟩ := Cond.arrayClass_spec (htg _ aw_char)
  have hAO : va_AO RX5 s := va_AO.of (hts (.arrayOver (.object RX5)) (List.mem_append_right _ (List.mem_append_left _ (List.mem_of_getElem? (l := tables_1_1) (i := 80) rfl))))
  obtain ⟨n12, a12, k12, f12, -, g12, h12, e12⟩ := Cond.arrayOver_spec hAO
  have hA : ∀ a : Nat, a < s.heap.size → ¬ s.heap.size ≤ a := fun a h => Nat.not_le.mpr h
  obtain ⟨t2, v2, T2⟩ := tb2 (A := fun q => s.heap.size ≤ q) hA hgv
  obtain ⟨t3, v3, T3⟩ := tb3 (A := fun q => s.heap.size ≤ q) hA hgv
  obtain ⟨t4, v4, T4⟩ := tb4 (A := fun q => s.heap.size ≤ q) hA hgv
  have Z2 : va_Z RX6 "FIRST_TOWN" "[I" (.ref t2) (fun q => s.heap.size ≤ q) s s.heap := va_Zof (hts (.laysStatic RX6 "FIRST_TOWN" "[I") (List.mem_append_right _ (List.mem_append_left _ (List.mem_of_getElem? (l := tables_1_1) (i := 141) rfl)))) (htg _ nw_6) v2 hA
  have Z3 : va_Z RX3 "LEAST" "[I" (.ref t3) (fun q => s.heap.size ≤ q) s s.heap := va_Zof (hts (.laysStatic RX3 "LEAST" "[I") (List.mem_append_right _ (List.mem_append_left _ (List.mem_of_getElem? (l := tables_1_1) (i := 233) rfl)))) (htg _ nw_3) v3 hA
  have Z4 : va_Z RX3 "MOST" "[I" (.ref t4) (fun q => s.heap.size ≤ q) s s.heap := va_Zof (hts (.laysStatic RX3 "MOST" "[I") (List.mem_append_right _ (List.mem_append_left _ (List.mem_of_getElem? (l := tables_1_1) (i := 235) rfl)))) (htg _ nw_3) v4 hA
  have TX : va_T .int b L (fun j => .int (xs j)) (fun q => s.heap.size ≤ q) s s.heap := by
    obtain ⟨scr, x1, x2, x3, x4, x5⟩ := hX
    exact ⟨scr, x1, x2, x3, by omega, by rw [x4], x5, hA b hbl⟩
  let dC : Nat → ClassId := fun k => match k with | 0 => c0 | 1 => c1 | 2 => c2 | 3 => c3 | 4 => c4 | 5 => c5 | 6 => c6 | _ => c7
  let dI : Nat → Nat → Nat := fun k => match k with | 0 => i0 | 1 => i1 | 2 => i2 | 3 => i3 | 4 => i4 | 5 => i5 | 6 => i6 | _ => i7
  let aC : Nat → ClassId := fun k => match k with | 10 => a10 | 11 => a11 | _ => a12
  let ro : Nat → Nat := fun k => match k with | 1 => b | 2 => t2 | 3 => t3 | _ => t4
  let D : DT := ((dC, dI), aC, ro, s)
  have hKc : va_K D.1 classes (tyTab D) s := by
    refine ⟨fun k q hq => ?_, fun k q hq => ?_⟩
    · match k, hq with
      | 0, hq => cases hq; exact q0
      | 1, hq => cases hq; exact q1
      | 2, hq => cases hq; exact q2
      | 3, hq => cases hq; exact q3
      | 4, hq => cases hq; exact q4
      | 5, hq => cases hq; exact q5
      | 6, hq => cases hq; exact q6
      | 7, hq => cases hq; exact q7
      | k + 8, hq => simp [classes] at hq
    · rcases k with _ | _ | _ | k
      · cases hq; exact ⟨fun n z => ⟨fun k h => (by cases h), k10, g10, n10, h10⟩, f10⟩
      · cases hq; exact ⟨fun n z => ⟨fun k h => (by cases h), k11, g11, n11, h11⟩, f11⟩
      · cases hq; exact ⟨fun n z => ⟨fun k h => (by cases h), k12, g12, n12, h12⟩, k12, n12, g12, h12, f12, e12⟩
      · simp [tyTab] at hq
  have hDOk : DOk D := ⟨hKc, Z2, Z3, Z4⟩
  have hnest : ∀ w ∈ nestTbl, va_Nw w s := by
    intro w hw
    simp only [nestTbl, List.mem_cons, List.not_mem_nil, or_false] at hw
    rcases hw with rfl | rfl | rfl | rfl | rfl | rfl | rfl
    · exact va_Nw.of rfl (hts (.methodLinkNest RX6 9 yX3_init RX6) (List.mem_append_right _ (List.mem_append_left _ (List.mem_of_getElem? (l := tables_1_1) (i := 23) rfl))))
    · exact va_Nw.of rfl (hts (.methodLinkNest RX6 18 yX5_init RX6) (List.mem_append_right _ (List.mem_append_left _ (List.mem_of_getElem? (l := tables_1_1) (i := 41) rfl))))
    · exact va_Nw.of rfl (hts (.methodLinkNest RX2 25 yX5_init RX6) (List.mem_append_right _ (List.mem_append_left _ (List.mem_of_getElem? (l := tables_1_1) (i := 81) rfl))))
    · exact va_Nw.of rfl (hts (.methodLinkNest RX6 40 yX1_init RX6) (List.mem_append_right _ (List.mem_append_left _ (List.mem_of_getElem? (l := tables_1_1) (i := 91) rfl))))
    · exact va_Nw.of rfl (hts (.methodLinkNest RX6 50 yX4_init RX6) (List.mem_append_right _ (List.mem_append_left _ (List.mem_of_getElem? (l := tables_1_1) (i := 110) rfl))))
    · exact va_Nw.of rfl (hts (.methodLinkNest RX6 57 yX0_init RX6) (List.mem_append_right _ (List.mem_append_left _ (List.mem_of_getElem? (l := tables_1_1) (i := 129) rfl))))
    · exact va_Nw.of rfl (hts (.methodLinkNest RX3 53 yX6_outside RX6) (List.mem_append_right _ (List.mem_append_left _ (List.mem_of_getElem? (l := tables_1_1) (i := 220) rfl))))
  have hKK : KK D s := ⟨hDOk, Vm.Alike.refl _, hnest, hAO⟩
  have hOld : Old D s.heap := ⟨Nat.le_refl _, fun _ _ => rfl⟩
  have hE : Ent D Y_L_law p s m #[Value.ref b] meth c := ⟨hx, hb, hr, hml, hown, htg, hlocks, fun h => absurd h (by decide), hKK, hOld⟩
  have hRel : Rel D s.heap (M0 L xs) := by
    refine ⟨fun a h5 hn => absurd hn (by show ¬ a < 5; omega), by show s.heap.size = s.heap.size + (5 - 5); omega, Nat.le_refl _, fun a h => ?_, fun a h => ?_⟩
    · exfalso
      revert h
      show ¬ ((if a = 1 then (13, L) else if a = 2 then (13, 35) else if a = 3 then (13, 5) else if a = 4 then (13, 5) else (99, 0)) : Nat × Nat).1 < 13
      repeat' split
      all_goals simp
    · have h4 : a = 1 ∨ a = 2 ∨ a = 3 ∨ a = 4 := by
        revert h
        show ((if a = 1 then (13, L) else if a = 2 then (13, 35) else if a = 3 then (13, 5) else if a = 4 then (13, 5) else (99, 0)) : Nat × Nat).1 = 13 → _
        repeat' split
        all_goals (intro h; first | omega | cases h)
      rcases h4 with rfl | rfl | rfl | rfl
      · exact ⟨by omega, by omega, TX⟩
      · exact ⟨by omega, by omega, T2⟩
      · exact ⟨by omega, by omega, T3⟩
      · exact ⟨by omega, by omega, T4⟩
  obtain ⟨M1, hF⟩ := law_pure L xs hL
  have hW := w_L_law_0 (D := D) (l := l) (m := M0 L xs) (x0 := 1) (post := fun v _ => v = some (.int 1)) ⟨1, M1, hF, rfl⟩
  rw [lg_entry_eq]
  have hl := lv_entry ([Value.ref b]) (n := 4) (Nat.le_of_ble_eq_true rfl)
  have hLR : LR D ((lg_sl [Value.ref b] ++ List.replicate (4 - (lg_sl [Value.ref b]).length) Slot.unset).toArray) 4 [.ref 1, JK, JK, JK] := ⟨hl, by decide⟩
  refine W.mono (fun t ht => ?_) (hW p e s m #[Value.ref b] below meth c hE s.heap [] hRel va_S.rf _ hLR)
  obtain ⟨o, h1, h2, ⟨⟨r, M2, h3, h4, -⟩, -⟩, Ls, ⟨h5, h6, h7⟩, h8⟩ := ht
  subst h4
  exact ⟨o, h1, h2, h3, h5, h6, h7.weaken (fun y hy hlt => absurd hlt (Nat.not_lt.mpr (h8 y hy))) (Nat.le_refl _) (Nat.le_refl _)⟩
set_option maxHeartbeats 4000000 in
theorem lw_walk (l : Launch) (hflags : l.flags = flags0) (b : Addr) (xs : List Int32) : MetFree l x (headSpec (Jvm.Cond.code x code maxLocals ret :: tables_1) room_1) (lw_P b xs) (fun _ _ _ _ _ => True) lw_Q := by
  refine MetFree.of_bodyS (code := code) (maxLocals := maxLocals) (ret := ret) (by decide) ?_ ?_
  · intro args s m h hn
    obtain ⟨meth, c, h1, h2, h3, h4, h5, h6, -, -⟩ := Cond.code_spec hn (atoms_spec (ws := Jvm.Cond.code x code maxLocals ret :: tables_1) h _ List.mem_cons_self)
    exact ⟨meth, c, h1, h2, h3, h4, h5, h6⟩
  · intro p e s m args below meth c s₁ B hml0 hP _
    obtain ⟨rfl, hx, hbd, hgv⟩ := hP
    obtain ⟨scr, harrAt, hlist, hof, hsmall⟩ := hx
    obtain ⟨hcb, hkn, -, -⟩ := State.arrayAt?_spec harrAt
    have hown : s.vm.findClass R_law = some m.cls := findClass_of_methodNamed B.named
    have hts0 : ∀ c ∈ (Jvm.Cond.code x code maxLocals ret :: tables_1), c.before #[Value.ref b] s = true := atoms_spec (ws := Jvm.Cond.code x code maxLocals ret :: tables_1) B.pre
    have hts : ∀ w ∈ lw_tbl, w.before #[Value.ref b] s = true := k2_hts_sels lw_privs (fun w hw => hts0 w (List.mem_cons_of_mem _ hw)) lw_privs_ok
    have hml : c.maxLocals = 4 := B.maxLocals_eq (hts0 _ List.mem_cons_self)
    have X₀ : Stand p l e room_1 s m #[Value.ref b] below meth c s₁ [] 0 0 := Stand.of_body B
    have hh0 : s₁.heap = s.heap := by rw [B.state]; rfl
    have hsz : scr.slots.size = xs.length := by rw [← Array.length_toList, hlist, List.length_map]
    have hval : ∀ j : Nat, j < xs.length → scr.slots[j]? = some (.int (xs.getD j 0)) := fun j hj => by
      rw [← Array.getElem?_toList, hlist]
      simp [hj]
    have hbl : b < s.heap.size := (Array.getElem?_eq_some_iff.mp hcb).1
    have hX : va_X b xs.length (fun j => xs.getD j 0) s s.heap := ⟨scr, hcb, hof, hkn, hsz, hval⟩
    have K : W p l e room_1 s m #[Value.ref b] below meth c s₁.heap [] 0 0 (lw_Z below #[Value.ref b] s) (entryFrame m ([Value.ref b] : List Value).toArray 4) := by
      rw [hh0]
      exact whole_start l hflags hbd ⟨B.exec, B.bytes, B.returns, hml, hown, hts, hX, hbl, B.notSynchronized, hgv⟩
    obtain ⟨t, a1, o, b1, b2, b3⟩ := K s₁ rfl X₀
    exact ⟨t, o, a1, b1, b2, b3⟩
theorem lw_pre_spec {args : Array Value} {s : State} (h : (Jvm.Cond.and given_1 narrow_1).before args s = true) (hr : rest_1_c.before args s = true) : ∃ (b : Addr) (xs : List Int32), lw_P b xs args s := by
  have hs := flat_of_before _ h
  have hq := flat_of_before _ hr
  have hc : (Cond.count 1).before args s = true := hs _ (by decide +kernel)
  have harr : (Cond.arrayOf (.arg 0) .int).before args s = true := hs _ (by decide +kernel)
  have hle : (Cond.le (.length (.arg 0)) (.int 384)).before args s = true := hs _ (by decide +kernel)
  have hlen : (Cond.isInt (.length (.arg 0))).before args s = true := hq _ (by decide +kernel)
  have hall : (Cond.all (.arg 0) (.isInt (.elem (.arg 0) (.index 0)))).before args s = true := hq _ (by decide +kernel)
  obtain ⟨b, xs, hb, hx⟩ := State.ints_of_pre rfl harr hlen hall
  have hsm : xs.length < 2 ^ 31 := hx.choose_spec.2.2.2
  have hev : (Term.length (.arg 0)).eval args s none [] s = some (.int xs.length.toInt32) := hx.length_eval hb
  have hv := Cond.le_ints hev (show (Term.int 384).eval args s none [] s = some (.int 384) from rfl)
  have hd : xs.length.toInt32 ≤ 384 := by
    simpa [Cond.before, Cond.holds, hv] using hle
  have hN : xs.length ≤ 384 := (Int32.ofNat_le_ofNat hsm (by decide)).mp (show Int32.ofNat xs.length ≤ Int32.ofNat 384 from hd)
  exact ⟨b, xs, Cond.one_arg hc (show args[0]? = some (.ref b) from hb), hx, hN, h⟩
theorem lw_comes (l : Launch) (hflags : l.flags = flags0) : Comes l x (Jvm.Cond.code x code maxLocals ret :: tables_1) room_1 (fun tb e args s => Calls_1 tb e args s ∧ rest_1 tb e args s ∧ Pre_1 tb e args s)
    (fun _ _ args s o t => lw_Q args s o t) := by
  intro p e ha hc hk s m args below hf hfit hheap happ hpre
  obtain ⟨b, xs, hP⟩ := lw_pre_spec hpre.2.2 hpre.2.1
  obtain ⟨k, o, h1, h2, h3, hQ⟩ := lw_walk l hflags b xs p e ha hc hk s m args below hf ((Spec.applies_iff_loose hf).mp happ).1 hP trivial
  exact ⟨k, o, h1, h2, h3, hQ⟩
theorem lw_frame {s t : State} {o : Outcome} {args : Array Value} (h : Framed s o t [] 600000 7302250) :
    Framed s o t (fieldLocs frame_1_writes args s ++ arrayLocs frame_1_arrays args s ++ staticLocs frame_1_statics s) 600000 7302250 := h
theorem lw_limb (L : Cond) (hL : ∀ (args : Array Value) (s t : State), L.after args s (.returned (some (.int 1))) t = true) :
    ArmFor flags0 classFile x code maxLocals ret World_1 tables_1 room_1 Calls_1 rest_1 Pre_1
      (fun tb e a s o t => postC L tb e a s o t ∧ Framed s o t (fieldLocs frame_1_writes a s ++ arrayLocs frame_1_arrays a s ++ staticLocs frame_1_statics s) 600000 7302250) := by
  intro l hflags _ _ p e ha hc hk s m args below hf hfit hheap happ hpre
  obtain ⟨k, o, h1, h2, h3, rfl, hF⟩ := lw_comes l hflags p e ha hc hk s m args below hf hfit hheap happ hpre
  exact ⟨k, _, h1, h2, h3, hL args s _, lw_frame hF⟩
theorem i_vc : Claimed_1_1 ∧ Claimed_1_2 := ⟨lw_limb limb_1_1 (fun args s t => by simp [limb_1_1, Cond.after, Cond.holds, Cond.value]), lw_limb limb_1_2 (fun args s t => Cond.after_iff.mpr (by
  first | (rw [show limb_1_2 = Cond.eq .result (.int 1) from rfl, Cond.eq_ints (x := 1) (y := 1) rfl rfl]; simp; done) | (simp [limb_1_2, Cond.value, Term.eval]; done)))⟩

