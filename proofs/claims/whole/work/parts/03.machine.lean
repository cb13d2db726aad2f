/-! THE SMALL MACHINE: all cells that the law makes, numbered 5, 6, .. in the order of their making (0: null; 1 to 4: the script and the three tables); what they hold; how a heap holds it -/
abbrev Mem : Type := Nat × (Nat → Nat × Nat) × (Nat → Nat → Int32) × (Nat → Nat → Nat)
def mN (M : Mem) : Nat := M.1
def mS (M : Mem) : Nat → Nat × Nat := M.2.1
def mI (M : Mem) : Nat → Nat → Int32 := M.2.2.1
def mR (M : Mem) : Nat → Nat → Nat := M.2.2.2
def up1 {α : Type} (f : Nat → Nat → α) (a i : Nat) (v : α) : Nat → Nat → α := fun b j => if b = a then (if j = i then v else f b j) else f b j
def upR {α : Type} (f : Nat → α) (a : Nat) (v : α) : Nat → α := fun b => if b = a then v else f b
def uI (M : Mem) (a i : Nat) (v : Int32) : Mem := (M.1, M.2.1, up1 M.2.2.1 a i v, M.2.2.2)
def uR (M : Mem) (a i v : Nat) : Mem := (M.1, M.2.1, M.2.2.1, up1 M.2.2.2 a i v)
def uRow (M : Mem) (a : Nat) (f : Nat → Int32) : Mem := (M.1, M.2.1, upR M.2.2.1 a f, M.2.2.2)
def mNew (M : Mem) (t n : Nat) : Mem := (M.1 + 1, upR M.2.1 M.1 (t, n), upR M.2.2.1 M.1 (fun _ => 0), upR M.2.2.2 M.1 (fun _ => 0))
def jrem (x y : Int32) : Int32 := x - x / y * y
def jremL (x y : Int64) : Int64 := x - x / y * y
def jchar (x : Int32) : Int32 := (x.toUInt32 % 65536).toInt32
def jmax (x y : Int32) : Int32 := if x < y then y else x
def jmin (x y : Int32) : Int32 := if y < x then y else x
def inR (i : Int32) (n : Nat) : Bool := !(decide (i < 0) || decide (n ≤ i.toNatClampNeg))
theorem inR_in {i : Int32} {n : Nat} (h : inR i n = true) : vp_in i n := by
  simp only [inR, Bool.not_eq_true', Bool.or_eq_false_iff, decide_eq_false_iff_not] at h
  exact fun q => q.elim h.1 h.2
/-! the operations; 'none' where the machine would throw -/
def fI (M : Mem) (t a f : Nat) : Option Int32 := if (mS M a).1 = t then some (mI M a f) else none
def fR (M : Mem) (t a f : Nat) : Option Nat := if (mS M a).1 = t then some (mR M a f) else none
def pI (M : Mem) (t a f : Nat) (v : Int32) : Option Mem := if (mS M a).1 = t then some (uI M a f v) else none
def pR (M : Mem) (t a f v : Nat) : Option Mem := if (mS M a).1 = t then some (uR M a f v) else none
def ldI (M : Mem) (a : Nat) (i : Int32) : Option Int32 := if ((mS M a).1 = 10 ∨ (mS M a).1 = 13) ∧ inR i (mS M a).2 = true then some (mI M a i.toNatClampNeg) else none
def stI (M : Mem) (a : Nat) (i v : Int32) : Option Mem := if (mS M a).1 = 10 ∧ inR i (mS M a).2 = true then some (uI M a i.toNatClampNeg v) else none
def ldC (M : Mem) (a : Nat) (i : Int32) : Option Int32 := if (mS M a).1 = 11 ∧ inR i (mS M a).2 = true then some (mI M a i.toNatClampNeg) else none
def stC (M : Mem) (a : Nat) (i v : Int32) : Option Mem := if (mS M a).1 = 11 ∧ inR i (mS M a).2 = true then some (uI M a i.toNatClampNeg (vp_nar .char v)) else none
def ldR (M : Mem) (a : Nat) (i : Int32) : Option Nat := if (mS M a).1 = 12 ∧ inR i (mS M a).2 = true then some (mR M a i.toNatClampNeg) else none
def stR (M : Mem) (a : Nat) (i : Int32) (v : Nat) : Option Mem := if ((mS M a).1 = 12 ∧ (mS M v).1 = 5) ∧ inR i (mS M a).2 = true then some (uR M a i.toNatClampNeg v) else none
def aLen (M : Mem) (a : Nat) : Option Int32 := if 10 ≤ (mS M a).1 ∧ (mS M a).1 ≤ 13 then some (Int32.ofNat (mS M a).2) else none
def cpA (M : Mem) (a : Nat) (sp : Int32) (b : Nat) (dp n : Int32) : Option Mem :=
  if ((mS M a).1 = 10 ∧ (mS M b).1 = 10) ∧ (¬ sp < 0 ∧ ¬ dp < 0 ∧ ¬ n < 0) ∧ sp.toNatClampNeg + n.toNatClampNeg ≤ (mS M a).2 ∧ dp.toNatClampNeg + n.toNatClampNeg ≤ (mS M b).2 then
    some (uRow M b (va_cpy (mI M a) (mI M b) sp.toNatClampNeg dp.toNatClampNeg n.toNatClampNeg)) else none
def rN (ty : FieldType) (v : Int32) : Option Int32 := if narrow ty (.int v) = .int v then some v else none
/-- classes and slots; array classes by their tags; the addresses of 1 to 4; the state at the law's entry -/
abbrev DT : Type := va_G × (Nat → ClassId) × (Nat → Nat) × State
def dBase (D : DT) : Nat := D.2.2.2.heap.size
def dAd (D : DT) (k : Nat) : Nat := if k < 5 then D.2.2.1 k else dBase D + (k - 5)
def oR (D : DT) (k : Nat) : Option Nat := if k = 0 then none else some (dAd D k)
def cv (D : DT) : Value → Value
  | .ref k => va_rf (oR D k)
  | .int x => .int x
  | .long x => .long x
  | v => v
def Anew (D : DT) : Nat → Prop := fun q => dBase D ≤ q
def fldV (D : DT) (M : Mem) (a t f : Nat) : Value := if refF t f = true then va_rf (oR D (mR M a f)) else .int (mI M a f)
def cellE (D : DT) (M : Mem) (a : Nat) : va_E :=
  if (mS M a).1 < 10 then .inr ((mS M a).1, (List.range (nF (mS M a).1)).map (fldV D M a (mS M a).1))
  else if (mS M a).1 = 12 then .inl (D.2.1 12, ((mS M a).2, .inr (.inr (.inr (.inr (fun j => oR D (mR M a j)))))))
  else .inl (D.2.1 (mS M a).1, ((mS M a).2, .inl (mI M a)))
def CellAt (D : DT) (H : Heap) (M : Mem) (a : Nat) : Prop := va_at D.1 classes (dBase D + (a - 5), cellE D M a) H
def Rel (D : DT) (H : Heap) (M : Mem) : Prop :=
  (∀ a, 5 ≤ a → a < mN M → CellAt D H M a) ∧ H.size = dBase D + (mN M - 5) ∧ 5 ≤ mN M ∧ (∀ a, (mS M a).1 < 13 → 5 ≤ a ∧ a < mN M) ∧
  (∀ a, (mS M a).1 = 13 → a ≠ 0 ∧ a < 5 ∧ va_T .int (D.2.2.1 a) (mS M a).2 (fun j => .int (mI M a j)) (Anew D) D.2.2.2 D.2.2.2.heap)
def tyTab (D : DT) : List (ClassId × FieldType) := [(D.2.1 10, .int), (D.2.1 11, .char), (D.2.1 12, .object RX5)]
def nestTbl : List Cond := [.methodLinkNest RX6 9 yX3_init RX6, .methodLinkNest RX6 18 yX5_init RX6, .methodLinkNest RX2 25 yX5_init RX6, .methodLinkNest RX6 40 yX1_init RX6, .methodLinkNest RX6 50 yX4_init RX6, .methodLinkNest RX6 57 yX0_init RX6, .methodLinkNest RX3 53 yX6_outside RX6]
def DOk (D : DT) : Prop := va_K D.1 classes (tyTab D) D.2.2.2 ∧ va_Z RX6 "FIRST_TOWN" "[I" (.ref (D.2.2.1 2)) (Anew D) D.2.2.2 D.2.2.2.heap ∧ va_Z RX3 "LEAST" "[I" (.ref (D.2.2.1 3)) (Anew D) D.2.2.2 D.2.2.2.heap ∧ va_Z RX3 "MOST" "[I" (.ref (D.2.2.1 4)) (Anew D) D.2.2.2 D.2.2.2.heap
def KK (D : DT) (s : State) : Prop := DOk D ∧ D.2.2.2.vm.Alike s.vm ∧ (∀ w ∈ nestTbl, va_Nw w s) ∧ va_AO RX5 s
def Old (D : DT) (H : Heap) : Prop := dBase D ≤ H.size ∧ ∀ q, q < dBase D → H[q]? = D.2.2.2.heap[q]?
/-- a method: name, bytes, locals, what it returns, its room -/
abbrev MT : Type := MethodName × ByteArray × Nat × Option FieldType × Room
def mY (Y : MT) : MethodName := Y.1
def mC (Y : MT) : ByteArray := Y.2.1
def mL (Y : MT) : Nat := Y.2.2.1
def mT (Y : MT) : Option FieldType := Y.2.2.2.1
def mRm (Y : MT) : Room := Y.2.2.2.2
def rmk (d c s : Nat) : Room := { frames := d, cells := c, slots := s, locals := 100 * d }
def wsY (Y : MT) : List Cond := .code (mY Y) (mC Y) (mL Y) (mT Y) :: gtbl
abbrev JK : Value := Value.retAddr 0
def isJ : Value → Bool
  | .retAddr _ => true
  | _ => false
def asc (D : DT) (ls : List Value) : List (Nat × Value) := (List.range ls.length).filterMap fun i => (ls[i]?).bind fun v => if isJ v = true then none else some (i, cv D v)
def LR (D : DT) (lsA : Array Slot) (n : Nat) (ls : List Value) : Prop := lv_has lsA n (asc D ls) ∧ ls.length ≤ n
def Ent (D : DT) (Y : MT) (p : Program) (s : State) (m : MethodId) (args : Array Value) (meth : Method) (c : Code) : Prop :=
  p.tables.exec = Jvm.exec ∧ c.code = mC Y ∧ meth.sig.returnType = mT Y ∧ c.maxLocals = mL Y ∧ s.vm.findClass (mY Y).cls = some m.cls ∧ (∀ w ∈ gtbl, w.before args s = true) ∧ meth.locks = false ∧ ((mY Y).name = "<init>" → meth.name = "<init>") ∧ KK D s ∧ Old D s.heap
def PcOf (D : DT) (av : List Value) (M : Mem) : Array Value → State → Prop := fun v U => v = (av.map (cv D)).toArray ∧ Rel D U.heap M ∧ KK D U ∧ Old D U.heap
def QcOf (D : DT) (post : Option Value → Mem → Prop) : Array Value → State → Outcome → State → Prop := fun _ st o t =>
  (∃ (r : Option Value) (M' : Mem), o = .returned (r.map (cv D)) ∧ post r M' ∧ Rel D t.heap M') ∧ va_F (Anew D) st t
def Ct (D : DT) (l : Launch) (Y : MT) (av : List Value) (M : Mem) (post : Option Value → Mem → Prop) : Prop :=
  Met l (mY Y) (wsY Y) (mRm Y) (PcOf D av M) (QcOf D post) (mRm Y).cells (mRm Y).slots (Anew D)
def WP (D : DT) (l : Launch) (Y : MT) (kc ks pc : Nat) (ls st : List Value) (M : Mem) (post : Option Value → Mem → Prop) : Prop :=
  ∀ (p : Program) (e : Env) (s : State) (m : MethodId) (args : Array Value) (below : List Frame) (meth : Method) (c : Code), Ent D Y p s m args meth c →
    ∀ (H : Heap) (locs : List Loc), Rel D H M → va_S (Anew D) s.heap H locs → ∀ lsA : Array Slot, LR D lsA (mL Y) ls →
      W p l e (mRm Y) s m args below meth c H locs kc ks (MQ below (QcOf D post) args s (mRm Y).cells (mRm Y).slots (Anew D)) (F0 m pc lsA (st.map (cv D)))
/-! plain facts -/
theorem cv_cat (D : DT) (v : Value) : (cv D v).category = v.category := by
  cases v <;> try rfl
  rename_i k
  show (va_rf (oR D k)).category = 1
  unfold oR
  split <;> rfl
theorem cv_ref {D : DT} {a : Nat} (h : 5 ≤ a) : cv D (.ref a) = .ref (dBase D + (a - 5)) := by
  show va_rf (oR D a) = _
  rw [oR, if_neg (by omega), dAd, if_neg (by omega)]; rfl
theorem cv_ro {D : DT} {a : Nat} (h0 : a ≠ 0) (h : a < 5) : cv D (.ref a) = .ref (D.2.2.1 a) := by
  show va_rf (oR D a) = _
  rw [oR, if_neg h0, dAd, if_pos h]; rfl
theorem asc_in {D : DT} {ls : List Value} {i : Nat} {v : Value} (h : ls[i]? = some v) (hj : isJ v = false) : (i, cv D v) ∈ asc D ls := by
  refine List.mem_filterMap.mpr ⟨i, List.mem_range.mpr (List.getElem?_eq_some_iff.mp h).1, ?_⟩
  simp [h, hj]
theorem asc_of {D : DT} {ls : List Value} {q : Nat × Value} (h : q ∈ asc D ls) : ∃ v, ls[q.1]? = some v ∧ isJ v = false ∧ q.2 = cv D v := by
  obtain ⟨i, -, hi⟩ := List.mem_filterMap.mp h
  cases hv : ls[i]? with
  | none => simp [hv] at hi
  | some v =>
    simp only [hv, Option.bind_some] at hi
    by_cases hj : isJ v = true
    · simp [hj] at hi
    · rw [if_neg hj] at hi
      cases hi
      exact ⟨v, hv, by simpa using hj, rfl⟩
theorem LR.at {D : DT} {lsA : Array Slot} {n : Nat} {ls : List Value} (h : LR D lsA n ls) {i : Nat} {v : Value} (hv : ls[i]? = some v) (hj : isJ v = false) : lsA[i]? = some (.val (cv D v)) := h.1.2.2 _ (asc_in hv hj)
/-- no long stands ahead of a place -/
def okS (ls : List Value) : Nat → Bool
  | 0 => true
  | j + 1 => match ls[j]? with
    | some (.long _) => false
    | some (.double _) => false
    | _ => true
theorem okS_cat {ls : List Value} {j : Nat} (h : okS ls (j + 1) = true) {v : Value} (hv : ls[j]? = some v) : ¬ v.category = 2 := by
  simp only [okS, hv] at h
  cases v <;> simp_all [Value.category]
theorem LR.set1 {D : DT} {lsA ls' : Array Slot} {n : Nat} {ls : List Value} {i : Nat} {v : Value} (h : LR D lsA n ls) (hk : okS ls i = true) (h' : lv_has ls' n ((i, cv D v) :: (asc D ls).filter (fun q => !(q.1 == i) && !(q.1 + 1 == i && q.2.category == 2)))) : LR D ls' n (ls.set i v) := by
  refine ⟨⟨h'.1, h'.2.1, fun q hq => ?_⟩, by rw [List.length_set]; exact h.2⟩
  obtain ⟨w, h1, h2, h3⟩ := asc_of hq
  by_cases e : q.1 = i
  · have hl := (List.getElem?_eq_some_iff.mp h1).1
    rw [List.length_set] at hl
    rw [e, List.getElem?_set_self (by omega)] at h1
    cases h1
    have := h'.2.2 (i, cv D v) List.mem_cons_self
    rw [h3, e]
    exact this
  · rw [List.getElem?_set_ne (fun z => e z.symm)] at h1
    refine h'.2.2 q (List.mem_cons_of_mem _ (List.mem_filter.mpr ⟨?_, ?_⟩))
    · have := asc_in (D := D) h1 h2
      rw [← h3] at this
      exact this
    · simp only [Bool.and_eq_true, Bool.not_eq_true', beq_eq_false_iff_ne, ne_eq, Bool.and_eq_false_iff]
      refine ⟨e, ?_⟩
      by_cases e2 : q.1 + 1 = i
      · right
        rw [h3, cv_cat]
        rw [← e2] at hk
        exact okS_cat hk h1
      · exact Or.inl e2
theorem LR.set2 {D : DT} {lsA ls' : Array Slot} {n : Nat} {ls : List Value} {i : Nat} {v : Value} (h : LR D lsA n ls) (hk : okS ls i = true) (h' : lv_has ls' n ((i, cv D v) :: (asc D ls).filter (fun q => !(q.1 == i) && (!(q.1 == i + 1) && !(q.1 + 1 == i && q.2.category == 2))))) : LR D ls' n ((ls.set i v).set (i + 1) JK) := by
  refine ⟨⟨h'.1, h'.2.1, fun q hq => ?_⟩, by rw [List.length_set, List.length_set]; exact h.2⟩
  obtain ⟨w, h1, h2, h3⟩ := asc_of hq
  have hl := (List.getElem?_eq_some_iff.mp h1).1
  rw [List.length_set, List.length_set] at hl
  by_cases e1 : q.1 = i + 1
  · rw [e1, List.getElem?_set_self (by rw [List.length_set]; omega)] at h1
    cases h1
    cases h2
  · rw [List.getElem?_set_ne (fun z => e1 z.symm)] at h1
    by_cases e : q.1 = i
    · rw [e, List.getElem?_set_self (by omega)] at h1
      cases h1
      have := h'.2.2 (i, cv D v) List.mem_cons_self
      rw [h3, e]
      exact this
    · rw [List.getElem?_set_ne (fun z => e z.symm)] at h1
      refine h'.2.2 q (List.mem_cons_of_mem _ (List.mem_filter.mpr ⟨?_, ?_⟩))
      · have := asc_in (D := D) h1 h2
        rw [← h3] at this
        exact this
      · simp only [Bool.and_eq_true, Bool.not_eq_true', beq_eq_false_iff_ne, ne_eq, Bool.and_eq_false_iff]
        refine ⟨e, e1, ?_⟩
        by_cases e2 : q.1 + 1 = i
        · right
          rw [h3, cv_cat]
          rw [← e2] at hk
          exact okS_cat hk h1
        · exact Or.inl e2
theorem KK.K {D : DT} {s : State} (h : KK D s) : va_K D.1 classes (tyTab D) s := va_K.moved h.2.1 h.1.1
theorem KK.warm {D : DT} {s U : State} (h : KK D s) (hW : s.WarmedH U.vm) : KK D U := by
  refine ⟨h.1, h.2.1.trans hW.alike, ?_, h.2.2.2.moved hW.alike⟩
  intro w hw
  have hz := h.2.2.1 w hw
  simp only [nestTbl, List.mem_cons, List.not_mem_nil, or_false] at hw
  rcases hw with rfl | rfl | rfl | rfl | rfl | rfl | rfl <;> exact va_Nw.warmM hW hz
theorem Anew_S {D : DT} {s : State} (h : Old D s.heap) : ∀ q : Nat, s.heap.size ≤ q → Anew D q := fun _ hq => Nat.le_trans h.1 hq
theorem Old.step {D : DT} {s : State} {H : Heap} {locs : List Loc} (h : Old D s.heap) (hS : va_S (Anew D) s.heap H locs) : Old D H := by
  refine ⟨Nat.le_trans h.1 hS.1, fun q hq => ?_⟩
  rw [hS.2.1 q (Nat.lt_of_lt_of_le hq h.1) (fun z => absurd (show dBase D ≤ q from z) (by omega))]
  exact h.2 q hq
