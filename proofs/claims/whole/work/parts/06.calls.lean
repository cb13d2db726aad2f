section Making
variable {D : DT} {l : Launch} {Y : MT} {kc ks pc : Nat} {ls st : List Value} {M : Mem} {post : Option Value → Mem → Prop}
/-- a new cell, behind the last -/
theorem Rel.new {H H' : Heap} (h : Rel D H M) {t n : Nat} (ht : t < 13) (hc : CellAt D H' (mNew M t n) (mN M)) (hz : H'.size = H.size + 1) (ho : ∀ q, q < H.size → H'[q]? = H[q]?) : Rel D H' (mNew M t n) := by
  have hn : mN (mNew M t n) = mN M + 1 := rfl
  have h5 := h.2.2.1
  have hs : ∀ b, b ≠ mN M → mS (mNew M t n) b = mS M b := fun b hb => by show upR _ _ _ b = _; simp [upR, show b ≠ M.1 from hb, mS]
  have hI : ∀ b, b ≠ mN M → mI (mNew M t n) b = mI M b := fun b hb => by show upR _ _ _ b = _; simp [upR, show b ≠ M.1 from hb, mI]
  have hRr : ∀ b, b ≠ mN M → mR (mNew M t n) b = mR M b := fun b hb => by show upR _ _ _ b = _; simp [upR, show b ≠ M.1 from hb, mR]
  have hce : ∀ b, b ≠ mN M → cellE D (mNew M t n) b = cellE D M b := by
    intro b hb
    have e : fldV D (mNew M t n) b = fldV D M b := by
      funext t f
      unfold fldV
      rw [hI b hb, hRr b hb]
    unfold cellE
    rw [hs b hb, e, hI b hb, hRr b hb]
  refine ⟨fun b hb5 hb => ?_, ?_, ?_, ?_, ?_⟩
  · by_cases e : b = mN M
    · subst e; exact hc
    · unfold CellAt
      rw [hce b e]
      have hb' : b < mN M := by omega
      refine va_at.kept (h.1 b hb5 hb') (ho _ ?_)
      show dBase D + (b - 5) < _
      rw [h.2.1]
      omega
  · rw [hz, hn, h.2.1]; omega
  · rw [hn]; omega
  · intro b hb
    by_cases e : b = mN M
    · omega
    · rw [hs b e] at hb
      have := h.2.2.2.1 b hb
      omega
  · intro b hb
    by_cases e : b = mN M
    · subst e
      have : (mS (mNew M t n) (mN M)).1 = t := by simp [mS, mNew, upR, mN]
      omega
    · rw [hs b e] at hb ⊢
      rw [hI b e]
      exact h.2.2.2.2 b hb
theorem va_S.grow {A : Nat → Prop} {H0 H H1 : Heap} {locs : List Loc} (h : va_S A H0 H locs) (z : H1.size = H.size + 1) (oq : ∀ q : Nat, q < H.size → H1[q]? = H[q]?) : va_S A H0 H1 locs :=
  ⟨Nat.le_trans h.1 (by omega), fun q h1 h2 => (oq q (Nat.lt_of_lt_of_le h1 h.1)).trans (h.2.1 q h1 h2), h.2.2⟩
theorem cv_size {H : Heap} (h : Rel D H M) : Value.ref H.size = cv D (.ref (mN M)) := by
  rw [cv_ref h.2.2.1, h.2.1]
theorem wp_new {C : String} {T : u_T} {N t index : Nat} {ty : Nat → FieldType} (hcl : ClsOk t C T N ty) (hw1 : Cond.classLink (mY Y).cls index C ∈ gtbl) (hw2 : Cond.instantiable C N ∈ gtbl) (hw3 : Cond.initialized C ∈ gtbl) (hd : decode (mC Y) pc = .ok (.new index, 3)) (h1 : kc + 1 ≤ (mRm Y).cells) (h2 : ks + N ≤ (mRm Y).slots) (k : WP D l Y (kc + 1) (ks + N) (pc + 3) ls (.ref (mN M) :: st) (mNew M t N) post) : WP D l Y kc ks pc ls st M post := by
  intro p e s m args below meth c E H locs hR hS lsA hl
  obtain ⟨hc, hin, hty, hnm, h10, hnf, hown, hrf⟩ := hcl
  have hK := KK.K E.2.2.2.2.2.2.2.2.1
  have hts := E.2.2.2.2.2.1
  have hKn := hK.1 t _ hc
  refine W.newcK E.1 E.2.1 E.2.2.2.2.1 (hts _ hw1) (hts _ hw2) (hts _ hw3) rfl hd h1 h2 hKn.2.1 rfl fun H1 kC hkC e1 z1 o1 => ?_
  have hk := k p e s m args below meth c E H1 locs (hR.new (by omega) ?_ z1 o1) (hS.grow z1 o1) lsA hl
  · rw [List.map_cons, ← cv_size hR] at hk
    exact hk
  · have hb := u_born ty hts hin hKn hkC e1 hty
    unfold CellAt cellE
    have es : mS (mNew M t N) (mN M) = (t, N) := by show upR _ _ _ _ = _; simp [upR, mN]
    rw [es, if_pos h10]
    refine ⟨_, hc, ?_⟩
    have ha : dBase D + (mN M - 5) = H.size := hR.2.1.symm
    show t_OB (dBase D + (mN M - 5)) _ _ _ _ _
    rw [ha]
    refine hb.to (fun j hj => ?_)
    unfold vp_V
    rw [List.getD_eq_getElem?_getD, List.getElem?_map, List.getElem?_range (by rw [hnf]; exact hj)]
    have eI : mI (mNew M t N) (mN M) = fun _ => 0 := by show upR _ _ _ _ = _; simp [upR, mN]
    have eR : mR (mNew M t N) (mN M) = fun _ => 0 := by show upR _ _ _ _ = _; simp [upR, mN]
    show _ = fldV D (mNew M t N) (mN M) t j
    unfold fldV
    rw [eI, eR]
    by_cases hr : refF t j = true
    · rw [if_pos hr]
      obtain ⟨z, hz | ⟨c', hz⟩⟩ := (hrf j hj).2 hr <;> rw [hz] <;> rfl
    · rw [if_neg hr, (hrf j hj).1 (by simpa using hr)]
      rfl
theorem wp_newarr {t N : Nat} {n : Int32} {ty : FieldType} {atype : ArrayType} (hta : newarray.typeOf atype = ty) (htt : t ≠ 12) (ht : 10 ≤ t ∧ t < 13) (hdv : defaultValue ty = .int 0) (hDc : ∀ s, KK D s → s.vm.findClass ("[" ++ ty.toString) = some (D.2.1 t)) (hw : Cond.arrayClass ty ∈ gtbl) (hd : decode (mC Y) pc = .ok (.newarray atype, 2)) (hn0 : ¬ n < 0) (hn : n.toNatClampNeg = N) (hb : N * componentBytes ty ≤ 536870912) (h1 : kc + 1 ≤ (mRm Y).cells) (h2 : ks + N ≤ (mRm Y).slots) (k : WP D l Y (kc + 1) (ks + N) (pc + 2) ls (.ref (mN M) :: st) (mNew M t N) post) : WP D l Y kc ks pc ls (.int n :: st) M post := by
  intro p e s m args below meth c E H locs hR hS lsA hl
  have hts := E.2.2.2.2.2.1
  subst hta
  refine va_newaK E.1 E.2.1 (hts _ hw) rfl hd rfl hn0 hn hb h1 h2 rfl fun H1 cA e1 z1 o1 _ hNm => ?_
  have hcA : cA = D.2.1 t := Option.some.inj (hNm.symm.trans (hDc s E.2.2.2.2.2.2.2.2.1))
  subst hcA
  have hk := k p e s m args below meth c E H1 locs (hR.new ht.2 ?_ z1 o1) (hS.grow z1 o1) lsA hl
  · rw [List.map_cons, ← cv_size hR] at hk
    exact hk
  · unfold CellAt cellE
    have es : mS (mNew M t N) (mN M) = (t, N) := by show upR _ _ _ _ = _; simp [upR, mN]
    have eI : mI (mNew M t N) (mN M) = fun _ => 0 := by show upR _ _ _ _ = _; simp [upR, mN]
    rw [es, if_neg (by show ¬ t < 10; omega), if_neg htt]
    show H1[dBase D + (mN M - 5)]? = some (vp_cell _ _)
    rw [← hR.2.1, e1, eI, hdv]
    rfl
theorem KK.ca {s : State} (h : KK D s) (i : Nat) (q : ClassId × FieldType) (hi : (tyTab D)[i]? = some q) : va_RA s q.1 q.2 := (h.K.2 i q hi).2
theorem wp_newI {N : Nat} {n : Int32} (hw : Cond.arrayClass .int ∈ gtbl) (hd : decode (mC Y) pc = .ok (.newarray .int, 2)) (hn0 : ¬ n < 0) (hn : n.toNatClampNeg = N) (hb : N * 4 ≤ 536870912) (h1 : kc + 1 ≤ (mRm Y).cells) (h2 : ks + N ≤ (mRm Y).slots) (k : WP D l Y (kc + 1) (ks + N) (pc + 2) ls (.ref (mN M) :: st) (mNew M 10 N) post) : WP D l Y kc ks pc ls (.int n :: st) M post :=
  wp_newarr (ty := .int) rfl (by omega) (by omega) rfl (fun s h => h.ca 0 _ rfl) hw hd hn0 hn hb h1 h2 k
theorem wp_newC {N : Nat} {n : Int32} (hw : Cond.arrayClass .char ∈ gtbl) (hd : decode (mC Y) pc = .ok (.newarray .char, 2)) (hn0 : ¬ n < 0) (hn : n.toNatClampNeg = N) (hb : N * componentBytes .char ≤ 536870912) (h1 : kc + 1 ≤ (mRm Y).cells) (h2 : ks + N ≤ (mRm Y).slots) (k : WP D l Y (kc + 1) (ks + N) (pc + 2) ls (.ref (mN M) :: st) (mNew M 11 N) post) : WP D l Y kc ks pc ls (.int n :: st) M post :=
  wp_newarr (ty := .char) rfl (by omega) (by omega) rfl (fun s h => h.ca 1 _ rfl) hw hd hn0 hn hb h1 h2 k
/-- Town[] of at most 16 -/
def nA (M : Mem) (n : Int32) : Option Mem := if n < 0 ∨ 16 < n.toNatClampNeg then none else some (mNew M 12 n.toNatClampNeg)
theorem wp_anewT {index : Nat} {n : Int32} {M' : Mem} (hw : Cond.classLink (mY Y).cls index RX5 ∈ gtbl) (hd : decode (mC Y) pc = .ok (.anewarray index, 3)) (hg : nA M n = some M') (h1 : kc + 1 ≤ (mRm Y).cells) (h2 : ks + 16 ≤ (mRm Y).slots) (k : WP D l Y (kc + 1) (ks + 16) (pc + 3) ls (.ref (mN M) :: st) M' post) : WP D l Y kc ks pc ls (.int n :: st) M post := by
  unfold nA at hg
  split at hg
  · cases hg
  · rename_i hno
    cases hg
    have hn0 : ¬ n < 0 := fun q => hno (Or.inl q)
    have hn16 : n.toNatClampNeg ≤ 16 := Nat.not_lt.mp fun q => hno (Or.inr q)
    have k := wp_widen (kc := kc + 1) (ks := ks + n.toNatClampNeg) (Nat.le_refl _) (by omega) k
    intro p e s m args below meth c E H locs hR hS lsA hl
    have hts := E.2.2.2.2.2.1
    refine W.anew E.1 E.2.1 E.2.2.2.2.1 (hts _ hw) (va_AO.use E.2.2.2.2.2.2.2.2.1.2.2.2) rfl hd rfl hn0 (by omega) h1 (by omega) fun cA kA comp f1 f2 f3 f4 => ?_
    obtain ⟨_, _, _, _, _, hNm⟩ := (E.2.2.2.2.2.2.2.2.1).ca 2 _ rfl
    have hcA : cA = D.2.1 12 := Option.some.inj (f1.symm.trans hNm)
    subst hcA
    generalize hH1 : H.push ({ cls := D.2.1 12, slots := Array.replicate n.toNatClampNeg .null, vm := .none } : Cell) = H1
    have z1 : H1.size = H.size + 1 := by rw [← hH1, Array.size_push]
    have e1 : H1[H.size]? = some (arrV (D.2.1 12) n.toNatClampNeg (fun _ => .null)) := by rw [← hH1, Array.getElem?_push_size, ← arrV_new]
    have o1 : ∀ q : Nat, q < H.size → H1[q]? = H[q]? := fun q hq => by rw [← hH1, Array.getElem?_push, if_neg (Nat.ne_of_lt hq)]
    have hk := k p e s m args below meth c E H1 locs (hR.new (by omega) ?_ z1 o1) (hS.grow z1 o1) lsA hl
    · rw [List.map_cons, ← cv_size hR] at hk
      exact hk
    · unfold CellAt cellE
      have es : mS (mNew M 12 n.toNatClampNeg) (mN M) = (12, n.toNatClampNeg) := by show upR _ _ _ _ = _; simp [upR, mN]
      have eR : mR (mNew M 12 n.toNatClampNeg) (mN M) = fun _ => 0 := by show upR _ _ _ _ = _; simp [upR, mN]
      rw [es, if_neg (by show ¬ 12 < 10; omega), if_pos rfl]
      show H1[dBase D + (mN M - 5)]? = some (vp_cell _ _)
      rw [← hR.2.1, e1, eR]
      rfl
/-! statics, the copying of rows, Object's own constructor, Math -/
theorem wp_gets {C n d : String} {index a : Nat} (ha0 : a ≠ 0) (ha5 : a < 5) (hZ : DOk D → va_Z C n d (.ref (D.2.2.1 a)) (Anew D) D.2.2.2 D.2.2.2.heap) (hw : Cond.fieldLink (mY Y).cls index C n d ∈ gtbl) (hd : decode (mC Y) pc = .ok (.getstatic index, 3)) (k : WP D l Y kc ks (pc + 3) ls (.ref a :: st) M post) : WP D l Y kc ks pc ls st M post := by
  intro p e s m args below meth c E H locs hR hS lsA hl
  have hk := k p e s m args below meth c E H locs hR hS lsA hl
  rw [List.map_cons, cv_ro ha0 ha5] at hk
  have hO : Old D s.heap := E.2.2.2.2.2.2.2.2.2
  have hZ2 : va_Z C n d (.ref (D.2.2.1 a)) (Anew D) s s.heap := ((hZ E.2.2.2.2.2.2.2.2.1.1).moved E.2.2.2.2.2.2.2.2.1.2.1).kept (fun q hq _ => hO.2 q hq)
  exact va_gets E.1 E.2.1 hZ2 hS E.2.2.2.2.1 (E.2.2.2.2.2.1 _ hw) (fun _ h => h) hd hk
theorem wp_gets2 {index : Nat} (hw : Cond.fieldLink (mY Y).cls index RX6 "FIRST_TOWN" "[I" ∈ gtbl) (hd : decode (mC Y) pc = .ok (.getstatic index, 3)) (k : WP D l Y kc ks (pc + 3) ls (.ref 2 :: st) M post) : WP D l Y kc ks pc ls st M post := wp_gets (by omega) (by omega) (fun h => h.2.1) hw hd k
theorem wp_gets3 {index : Nat} (hw : Cond.fieldLink (mY Y).cls index RX3 "LEAST" "[I" ∈ gtbl) (hd : decode (mC Y) pc = .ok (.getstatic index, 3)) (k : WP D l Y kc ks (pc + 3) ls (.ref 3 :: st) M post) : WP D l Y kc ks pc ls st M post := wp_gets (by omega) (by omega) (fun h => h.2.2.1) hw hd k
theorem wp_gets4 {index : Nat} (hw : Cond.fieldLink (mY Y).cls index RX3 "MOST" "[I" ∈ gtbl) (hd : decode (mC Y) pc = .ok (.getstatic index, 3)) (k : WP D l Y kc ks (pc + 3) ls (.ref 4 :: st) M post) : WP D l Y kc ks pc ls st M post := wp_gets (by omega) (by omega) (fun h => h.2.2.2) hw hd k
theorem wp_objInit {index a : Nat} (hw1 : Cond.methodLink (mY Y).cls index objectInit ∈ gtbl) (hw2 : Cond.instanceMethod objectInit ∈ gtbl) (hw3 : Cond.code objectInit ⟨#[0xb1]⟩ 1 none ∈ gtbl) (hd : decode (mC Y) pc = .ok (.invokespecial index, 3)) (ht : (mS M a).1 < 13) (hf : 1 ≤ (mRm Y).frames) (hlo : (st.map fun v => v.category).sum + 12 ≤ (mRm Y).locals) (k : WP D l Y kc ks (pc + 3) ls st M post) : WP D l Y kc ks pc ls (.ref a :: st) M post := by
  intro p e s m args below meth c E H locs hR hS lsA hl
  have hlv := hR.live ht
  rw [List.map_cons, cv_ref hlv.1]
  have hts := E.2.2.2.2.2.1
  have hcat : ((st.map (cv D)).map fun v => v.category).sum = (st.map fun v => v.category).sum := by rw [List.map_map]; congr 1; apply List.map_congr_left; intro v _; exact cv_cat D v
  exact W.objInit E.1 E.2.1 E.2.2.2.2.1 (hts _ hw1) (hts _ hw2) (hts _ hw3) rfl (by rw [E.2.2.2.1]; exact hl.1.1) rfl hd hf (by show 2 * 0 + _ + 12 ≤ _; rw [hcat]; omega) (k p e s m args below meth c E H locs hR hS lsA hl)
theorem wp_max {index : Nat} {x y : Int32} (hw1 : Cond.methodLink (mY Y).cls index Lib.Math.max.name ∈ gtbl) (hw2 : Cond.static Lib.Math.max.name ∈ gtbl) (hw3 : Cond.initialized "java/lang/Math" ∈ gtbl) (hw4 : Cond.code Lib.Math.max.name Lib.Math.max.code 2 (some .int) ∈ gtbl) (hd : decode (mC Y) pc = .ok (.invokestatic index, 3)) (hf : 1 ≤ (mRm Y).frames) (hlo : (st.map fun v => v.category).sum + 13 ≤ (mRm Y).locals) (hc : kc ≤ (mRm Y).cells) (hs : ks ≤ (mRm Y).slots) (k : WP D l Y kc ks (pc + 3) ls (.int (jmax x y) :: st) M post) : WP D l Y kc ks pc ls (.int y :: .int x :: st) M post := by
  intro p e s m args below meth c E H locs hR hS lsA hl
  have hts := E.2.2.2.2.2.1
  have hcat : ((st.map (cv D)).map fun v => v.category).sum = (st.map fun v => v.category).sum := by rw [List.map_map]; congr 1; apply List.map_congr_left; intro v _; exact cv_cat D v
  exact va_mmax E.1 E.2.1 (by rw [E.2.2.2.1]; exact hl.1.1.symm) E.2.2.2.2.1 (hts _ hw1) (hts _ hw2) (hts _ hw3) (hts _ hw4) hf (by rw [hcat]; exact hlo) hc hs hd (k p e s m args below meth c E H locs hR hS lsA hl)
theorem wp_min {index : Nat} {x y : Int32} (hw1 : Cond.methodLink (mY Y).cls index Lib.Math.min.name ∈ gtbl) (hw2 : Cond.static Lib.Math.min.name ∈ gtbl) (hw3 : Cond.initialized "java/lang/Math" ∈ gtbl) (hw4 : Cond.code Lib.Math.min.name Lib.Math.min.code 2 (some .int) ∈ gtbl) (hd : decode (mC Y) pc = .ok (.invokestatic index, 3)) (hf : 1 ≤ (mRm Y).frames) (hlo : (st.map fun v => v.category).sum + 13 ≤ (mRm Y).locals) (hc : kc ≤ (mRm Y).cells) (hs : ks ≤ (mRm Y).slots) (k : WP D l Y kc ks (pc + 3) ls (.int (jmin x y) :: st) M post) : WP D l Y kc ks pc ls (.int y :: .int x :: st) M post := by
  intro p e s m args below meth c E H locs hR hS lsA hl
  have hts := E.2.2.2.2.2.1
  have hcat : ((st.map (cv D)).map fun v => v.category).sum = (st.map fun v => v.category).sum := by rw [List.map_map]; congr 1; apply List.map_congr_left; intro v _; exact cv_cat D v
  exact va_mmin E.1 E.2.1 (by rw [E.2.2.2.1]; exact hl.1.1.symm) E.2.2.2.2.1 (hts _ hw1) (hts _ hw2) (hts _ hw3) (hts _ hw4) hf (by rw [hcat]; exact hlo) hc hs hd (k p e s m args below meth c E H locs hR hS lsA hl)
theorem wp_copy {index a b : Nat} {sp dp n : Int32} {M' : Mem} (hw1 : Cond.methodLink (mY Y).cls index arraycopyName ∈ gtbl) (hw2 : Cond.native arraycopyName ∈ gtbl) (hw3 : Cond.static arraycopyName ∈ gtbl) (hw4 : Cond.initialized "java/lang/System" ∈ gtbl) (hd : decode (mC Y) pc = .ok (.invokestatic index, 3)) (hf : 1 ≤ (mRm Y).frames) (hlo : (st.map fun v => v.category).sum + (nativeFrameWords "java/lang/System" "arraycopy" 5 + 11) ≤ (mRm Y).locals) (hg : cpA M a sp b dp n = some M') (k : WP D l Y kc ks (pc + 3) ls st M' post) : WP D l Y kc ks pc ls (.int n :: .int dp :: .ref b :: .int sp :: .ref a :: st) M post := by
  intro p e s m args below meth c E H locs hR hS lsA hl
  unfold cpA at hg
  split at hg
  · rename_i hh
    cases hg
    obtain ⟨⟨hta, htb⟩, ⟨h1, h2, h3⟩, h4, h5⟩ := hh
    have hts := E.2.2.2.2.2.1
    have hK := KK.K E.2.2.2.2.2.2.2.2.1
    have hcat : ((st.map (cv D)).map fun v => v.category).sum = (st.map fun v => v.category).sum := by rw [List.map_map]; congr 1; apply List.map_congr_left; intro v _; exact cv_cat D v
    have hla := hR.live (a := a) (by omega)
    have hlb := hR.live (a := b) (by omega)
    simp only [List.map_cons]
    rw [cv_ref hla.1, cv_ref hlb.1]
    have nn : ∀ z : Int32, ¬ z < 0 → z.toInt = (z.toNatClampNeg : Int) := by
      intro z hz
      have hz0 : (0 : Int) ≤ z.toInt := by
        have := Int32.not_lt.mp hz
        simpa using Int32.le_iff_toInt_le.mp this
      show z.toInt = ((z.toInt.toNat : Nat) : Int)
      omega
    intro T hT X
    have hc0 : H[dBase D + (a - 5)]? = some (vp_cell (D.2.1 10) ((mS M a).2, .inl (mI M a))) := (hR.arr hta (by omega) (by omega) (by omega)) 0 _ rfl
    have hc1 : H[dBase D + (b - 5)]? = some (vp_cell (D.2.1 10) ((mS M b).2, .inl (mI M b))) := (hR.arr htb (by omega) (by omega) (by omega)) 0 _ rfl
    obtain ⟨-, k0, hk0, cm0, hkk0⟩ := (hK.2 0 _ rfl).1 (mS M a).2 (fun j => .int (mI M a j))
    obtain ⟨-, k1, hk1, cm1, hkk1⟩ := (hK.2 0 _ rfl).1 (mS M b).2 (fun j => .int (mI M b j))
    obtain ⟨vm', X', step⟩ := X.arraycopy E.1 E.2.2.2.2.1 (hts _ hw1) (hts _ hw2) (hts _ hw3) (hts _ hw4) (src := dBase D + (a - 5)) (dst := dBase D + (b - 5)) (cs := vp_cell (D.2.1 10) ((mS M a).2, .inl (mI M a))) (cd := vp_cell (D.2.1 10) ((mS M b).2, .inl (mI M b))) (srcPos := sp) (destPos := dp) (n := n) (by rw [hT]; exact hc0) (by rw [hT]; exact hc1)
      (fun _ h => by cases h) (fun _ h => by cases h) (fun h => by cases h) (fun h => by cases h) hk0 hk1 hkk0 hkk1 (by simp [refKind]) h1 h2 h3
      (by rw [nn sp h1, nn n h3]; show ¬ _ > ((arrV _ _ (fun j => .int (mI M a j))).slots.size : Int); rw [arrV_size]; omega)
      (by rw [nn dp h2, nn n h3]; show ¬ _ > ((arrV _ _ (fun j => .int (mI M b j))).slots.size : Int); rw [arrV_size]; omega)
      (fun vm₁ _ i hi => by
        have e : (vp_cell (D.2.1 10) ((mS M a).2, .inl (mI M a))).slots.getD (sp.toNatClampNeg + i) .null = .int (mI M a (sp.toNatClampNeg + i)) := by
          show (arrV _ _ (fun j => .int (mI M a j))).slots.getD _ _ = _
          rw [Array.getD_eq_getD_getElem?, arrV_read _ _ (by omega)]
          rfl
        refine ⟨?_, ?_⟩
        · rw [e]; rfl
        · rw [e]; exact trivial)
      (g := F0 m pc lsA (.int n :: .int dp :: .ref (dBase D + (b - 5)) :: .int sp :: .ref (dBase D + (a - 5)) :: st.map (cv D))) rfl (by rw [E.2.2.2.1]; exact hl.1.1) (rest := st.map (cv D)) rfl (by rw [E.2.1]; exact hd) hf (by show 2 * 0 + _ + _ ≤ _; rw [hcat]; omega)
    have e9 : copied (vp_cell (D.2.1 10) ((mS M a).2, .inl (mI M a))) (vp_cell (D.2.1 10) ((mS M b).2, .inl (mI M b))) sp dp n = vp_cell (D.2.1 10) ((mS M b).2, .inl (va_cpy (mI M a) (mI M b) sp.toNatClampNeg dp.toNatClampNeg n.toNatClampNeg)) := va_copied (fun z => .int z) (D.2.1 10) (D.2.1 10) (mI M a) (mI M b) h4
    rw [e9] at X' step
    generalize hcl : vp_cell (D.2.1 10) ((mS M b).2, .inl (va_cpy (mI M a) (mI M b) sp.toNatClampNeg dp.toNatClampNeg n.toNatClampNeg)) = cl at X' step
    have hlt : dBase D + (b - 5) < H.size := (Array.getElem?_eq_some_iff.mp hc1).1
    have hheap : ((T.setVm vm').setCell (dBase D + (b - 5)) cl).heap = H.setIfInBounds (dBase D + (b - 5)) cl := by rw [← hT]; rfl
    have oq : ∀ q : Nat, q ≠ dBase D + (b - 5) → (H.setIfInBounds (dBase D + (b - 5)) cl)[q]? = H[q]? := fun q hq => by simp [Array.getElem?_setIfInBounds, Ne.symm hq]
    have hz : (H.setIfInBounds (dBase D + (b - 5)) cl).size = H.size := by simp
    have hat : (H.setIfInBounds (dBase D + (b - 5)) cl)[dBase D + (b - 5)]? = some cl := by simp [Array.getElem?_setIfInBounds, hlt]
    obtain ⟨t, a1, b1⟩ := k p e s m args below meth c E (H.setIfInBounds (dBase D + (b - 5)) cl) _ (hR.row _ _ rfl htb (Or.inl rfl) (by rw [hat, ← hcl]) hz oq) ⟨by rw [hz]; exact hS.1, fun q g1 g2 => by
        rw [oq q (fun e' => g2 (by rw [e']; exact Nat.le_add_right _ _))]
        exact hS.2.1 q g1 g2, fun q hq => by
        rcases List.mem_append.mp hq with h | h
        · exact hS.2.2 q h
        · obtain ⟨z, -, hz⟩ := List.mem_map.mp h
          rw [← hz]
          exact Nat.le_add_right _ _⟩ lsA hl _ hheap X'
    exact ⟨t, step t a1, b1⟩
  · cases hg
end Making
