/-! the cells: what a class's table says, once a class -/
def ClsOk (t : Nat) (C : String) (T : u_T) (N : Nat) (ty : Nat → FieldType) : Prop :=
  classes[t]? = some (C, T, N) ∧ (∀ w ∈ u_ws C T N, w ∈ gtbl) ∧ (∀ k, k < N → parseFieldDescriptor (T k).2.2.1 = some (ty k)) ∧ (∀ a, a < N → ∀ b, b < N → a ≠ b → (T a).2.1 ≠ (T b).2.1) ∧ t < 10 ∧ nF t = N ∧ (∀ k, k < N → (T k).1 = C) ∧ ∀ k, k < N → (refF t k = false → ty k = .int) ∧ (refF t k = true → ∃ z, ty k = .array z ∨ ∃ c, ty k = .object c)
theorem refCase (ty : Nat → FieldType) (t N : Nat) (h : ∀ k, k < N → (match ty k with | .int => !refF t k | .array _ => refF t k | .object _ => refF t k | _ => false) = true) : ∀ k, k < N → (refF t k = false → ty k = .int) ∧ (refF t k = true → ∃ z, ty k = .array z ∨ ∃ c, ty k = .object c) := by
  intro k hk
  have h1 := h k hk
  refine ⟨fun h2 => ?_, fun h2 => ?_⟩
  · cases hty : ty k <;> simp_all
  · cases hty : ty k <;> simp_all
section Mem
variable {D : DT} {l : Launch} {Y : MT} {kc ks pc : Nat} {ls st : List Value} {M : Mem} {post : Option Value → Mem → Prop}
theorem Rel.live {H : Heap} (h : Rel D H M) {a : Nat} (ht : (mS M a).1 < 13) : 5 ≤ a ∧ a < mN M := h.2.2.2.1 a ht
theorem Rel.obj {H : Heap} (h : Rel D H M) {a t : Nat} (ht : (mS M a).1 = t) (h10 : t < 10) : va_P D.1 classes [(dBase D + (a - 5), .inr (t, (List.range (nF t)).map (fldV D M a t)))] H := by
  have hl := h.live (a := a) (by omega)
  have h1 := h.1 a hl.1 hl.2
  unfold CellAt cellE at h1
  rw [ht, if_pos h10] at h1
  intro k q hk
  cases k with
  | zero => cases hk; exact h1
  | succ k => simp at hk
theorem Rel.arr {H : Heap} (h : Rel D H M) {a t : Nat} (ht : (mS M a).1 = t) (h10 : 10 ≤ t) (h12 : t ≠ 12) (h13 : t < 13) : va_P D.1 classes [(dBase D + (a - 5), .inl (D.2.1 t, ((mS M a).2, .inl (mI M a))))] H := by
  have hl := h.live (a := a) (by omega)
  have h1 := h.1 a hl.1 hl.2
  unfold CellAt cellE at h1
  rw [ht, if_neg (by omega), if_neg h12] at h1
  intro k q hk
  cases k with
  | zero => cases hk; exact h1
  | succ k => simp at hk
theorem Rel.rarr {H : Heap} (h : Rel D H M) {a : Nat} (ht : (mS M a).1 = 12) : va_P D.1 classes [(dBase D + (a - 5), .inl (D.2.1 12, ((mS M a).2, .inr (.inr (.inr (.inr (fun j => oR D (mR M a j))))))))] H := by
  have hl := h.live (a := a) (by omega)
  have h1 := h.1 a hl.1 hl.2
  unfold CellAt cellE at h1
  rw [ht, if_neg (by omega), if_pos rfl] at h1
  intro k q hk
  cases k with
  | zero => cases hk; exact h1
  | succ k => simp at hk
/-- another memory, of the same cells, that differs at one of them -/
theorem Rel.put {H H' : Heap} {M' : Mem} (h : Rel D H M) {a : Nat} (hl : 5 ≤ a ∧ a < mN M) (hn : mN M' = mN M) (hs : mS M' = mS M) (hI : ∀ b, b ≠ a → mI M' b = mI M b) (hRr : ∀ b, b ≠ a → mR M' b = mR M b) (hc : CellAt D H' M' a) (hz : H'.size = H.size) (ho : ∀ q, q ≠ dBase D + (a - 5) → H'[q]? = H[q]?) : Rel D H' M' := by
  have hce : ∀ b, b ≠ a → cellE D M' b = cellE D M b := by
    intro b hb
    have e : fldV D M' b = fldV D M b := by
      funext t f
      unfold fldV
      rw [hI b hb, hRr b hb]
    unfold cellE
    rw [hs, e, hI b hb, hRr b hb]
  refine ⟨fun b h5 hb => ?_, ?_, ?_, ?_, ?_⟩
  · by_cases e : b = a
    · subst e; exact hc
    · unfold CellAt
      rw [hce b e]
      refine va_at.kept (h.1 b h5 (by omega)) (ho _ ?_)
      show dBase D + (b - 5) ≠ _
      omega
  · rw [hz, hn]; exact h.2.1
  · rw [hn]; exact h.2.2.1
  · rw [hs, hn]; exact h.2.2.2.1
  · intro b hb
    rw [hs] at hb ⊢
    have h1 := h.2.2.2.2 b hb
    rw [hI b (by omega)]
    exact h1
theorem map_range_set {α : Type} (n k : Nat) (f g : Nat → α) (hk : k < n) (h : ∀ j, j ≠ k → f j = g j) : ((List.range n).map f).set k (g k) = (List.range n).map g := by
  apply List.ext_getElem?
  intro i
  by_cases hi : i = k
  · subst hi
    rw [List.getElem?_set_self (by simpa using hk), List.getElem?_map, List.getElem?_range hk]
    rfl
  · rw [List.getElem?_set_ne (fun z => hi z.symm), List.getElem?_map, List.getElem?_map]
    by_cases h2 : i < n
    · rw [List.getElem?_range h2]
      simp [h i hi]
    · rw [List.getElem?_eq_none (by simpa using h2)]
      rfl
/-! getfield -/
theorem wp_getV {C : String} {T : u_T} {N t a f index : Nat} {ty : Nat → FieldType} (hcl : ClsOk t C T N ty) (hf : f < N) (hw : Cond.fieldLink (mY Y).cls index C (T f).2.1 (T f).2.2.1 ∈ gtbl) (hd : decode (mC Y) pc = .ok (.getfield index, 3)) (ht : (mS M a).1 = t) {v : Value} (hv : fldV D M a t f = cv D v) (k : WP D l Y kc ks (pc + 3) ls (v :: st) M post) : WP D l Y kc ks pc ls (.ref a :: st) M post := by
  intro p e s m args below meth c E H locs hR hS lsA hl
  obtain ⟨hc, hin, hty, hnm, h10, hnf, hown, -⟩ := hcl
  have hlv := hR.live (a := a) (by omega)
  have hk := k p e s m args below meth c E H locs hR hS lsA hl
  rw [List.map_cons, ← hv] at hk
  rw [List.map_cons, cv_ref hlv.1]
  refine va_get E.1 E.2.1 E.2.2.2.2.2.1 hin E.2.2.2.2.1 (KK.K E.2.2.2.2.2.2.2.2.1) (hR.obj ht h10) 0 rfl hc f hf (E.2.2.2.2.2.1 _ hw) (fun x hx => by rw [hown f hf] at hx; exact hx) ?_ hd hk
  rw [hnf, List.getElem?_map, List.getElem?_range hf]
  rfl
theorem wp_getI {C : String} {T : u_T} {N t a f index : Nat} {ty : Nat → FieldType} {v : Int32} (hcl : ClsOk t C T N ty) (hf : f < N) (hr : refF t f = false) (hw : Cond.fieldLink (mY Y).cls index C (T f).2.1 (T f).2.2.1 ∈ gtbl) (hd : decode (mC Y) pc = .ok (.getfield index, 3)) (hg : fI M t a f = some v) (k : WP D l Y kc ks (pc + 3) ls (.int v :: st) M post) : WP D l Y kc ks pc ls (.ref a :: st) M post := by
  unfold fI at hg
  split at hg
  · rename_i ht
    cases hg
    exact wp_getV hcl hf hw hd ht (by unfold fldV; rw [hr]; rfl) k
  · cases hg
theorem wp_getR {C : String} {T : u_T} {N t a f index : Nat} {ty : Nat → FieldType} {v : Nat} (hcl : ClsOk t C T N ty) (hf : f < N) (hr : refF t f = true) (hw : Cond.fieldLink (mY Y).cls index C (T f).2.1 (T f).2.2.1 ∈ gtbl) (hd : decode (mC Y) pc = .ok (.getfield index, 3)) (hg : fR M t a f = some v) (k : WP D l Y kc ks (pc + 3) ls (.ref v :: st) M post) : WP D l Y kc ks pc ls (.ref a :: st) M post := by
  unfold fR at hg
  split at hg
  · rename_i ht
    cases hg
    exact wp_getV hcl hf hw hd ht (by unfold fldV; rw [hr]; rfl) k
  · cases hg
/-! putfield -/
theorem wp_putV {C : String} {T : u_T} {N t a f index : Nat} {ty : Nat → FieldType} {M' : Mem} {v : Value} (hcl : ClsOk t C T N ty) (hf : f < N) (hw : Cond.fieldLink (mY Y).cls index C (T f).2.1 (T f).2.2.1 ∈ gtbl) (hfin : (T f).2.2.2 = false ∨ ((mY Y).name = "<init>" ∧ (mY Y).cls = C)) (hd : decode (mC Y) pc = .ok (.putfield index, 3)) (ht : (mS M a).1 = t)
    (hn : narrow (ty f) (cv D v) = cv D v) (hfit : fits (ty f) (cv D v) = true) (hN : mN M' = mN M) (hSs : mS M' = mS M) (hI : ∀ b, b ≠ a → mI M' b = mI M b) (hRr : ∀ b, b ≠ a → mR M' b = mR M b) (hv : fldV D M' a t f = cv D v) (hvo : ∀ j, j ≠ f → fldV D M' a t j = fldV D M a t j)
    (k : WP D l Y kc ks (pc + 3) ls st M' post) : WP D l Y kc ks pc ls (v :: .ref a :: st) M post := by
  intro p e s m args below meth c E H locs hR hS lsA hl
  obtain ⟨hc, hin, hty, hnm, h10, hnf, hown, -⟩ := hcl
  have hlv := hR.live (a := a) (by omega)
  have hK := KK.K E.2.2.2.2.2.2.2.2.1
  have hts := E.2.2.2.2.2.1
  have hA : Anew D (dBase D + (a - 5)) := Nat.le_add_right _ _
  obtain ⟨r, h1, cell, q1, q2, q3, q4⟩ := (hR.obj ht h10) 0 _ rfl
  have hr : r = (C, T, N) := Option.some.inj (h1.symm.trans hc)
  subst hr
  have hap := va_apart (own := C) hts hin ty hty hnm hK hc
  obtain ⟨hSl, hfc, kC, hkC, hkind⟩ := hK.1 t _ hc
  obtain ⟨cf, kf, fi, fd, hi, hsl⟩ := hSl f hf
  have hi2 : s.fieldFound? C (T f).2.1 (T f).2.2.1 = some (cf, kf, fi, fd) := by rw [hown f hf] at hi; exact hi
  have hst := (u_facts hfc hkC (u_lays hts hin hf) hi).1
  have key : ∀ H' : Heap, H'[dBase D + (a - 5)]? = some (cell.setSlot fd.slot (cv D v)) → H'.size = H.size → (∀ q, q ≠ dBase D + (a - 5) → H'[q]? = H[q]?) →
      W p l e (mRm Y) s m args below meth c H' (locs ++ [⟨dBase D + (a - 5), fd.slot⟩]) kc ks (MQ below (QcOf D post) args s (mRm Y).cells (mRm Y).slots (Anew D)) (F0 m (pc + 3) lsA (st.map (cv D))) := by
    intro H' e1 e2 e3
    refine k p e s m args below meth c E H' _ (hR.put hlv hN hSs hI hRr ?_ e2 e3) (hS.put e2 e3 hA) lsA hl
    have e1' : H'[dBase D + (a - 5)]? = some (cell.setSlot (D.1.2 t f) (cv D v)) := by rw [e1, ← hsl]
    unfold CellAt cellE
    rw [hSs, ht, if_pos h10]
    refine ⟨_, hc, ⟨_, e1', q2, q3, fun j hj => ?_⟩⟩
    have h2 := t_set q4 hap hf (cv D v) j hj
    refine h2.trans (congrArg some ?_)
    have hget : ∀ (g : Nat → Value), vp_V ((List.range (nF t)).map g) j = g j := by
      intro g
      unfold vp_V
      rw [List.getD_eq_getElem?_getD, List.getElem?_map, List.getElem?_range (by rw [hnf]; exact hj)]
      rfl
    show updV _ f (cv D v) j = vp_V ((List.range (nF t)).map (fldV D M' a t)) j
    rw [hget]
    unfold updV
    by_cases hjf : j = f
    · subst hjf
      rw [if_pos rfl, hv]
    · rw [if_neg hjf, hget, hvo j hjf]
  rw [List.map_cons, List.map_cons, cv_ref hlv.1]
  by_cases hfl : (T f).2.2.2 = true
  · have hini : (mY Y).name = "<init>" ∧ (mY Y).cls = C := hfin.resolve_left (by rw [hfl]; exact fun z => by cases z)
    have hlay := hts _ (hin _ (u_in_lay hf))
    unfold u_lay at hlay
    rw [if_pos hfl] at hlay
    have hcf : m.cls = cf := by
      obtain ⟨_, _, c', _, _, _, -, -, hf', -, -, -, hown2, -⟩ := Cond.laysFinal_spec hlay
      have e1 : c' = cf := by have := hi.symm.trans hf'; simp at this; exact this.1.symm
      rw [hown f hf, ← hini.2] at hown2
      rw [← e1]; exact Option.some.inj (E.2.2.2.2.1.symm.trans hown2)
    have h6 := u_fits hfc hkC hkind (Or.inr hlay) hi (hty f hf) hn hfit
    exact W.putFinK E.1 E.2.1 E.2.2.2.2.1 (hts _ hw) hi2 hst hcf (E.2.2.2.2.2.2.2.1 hini.1) (by rw [q2]; exact h6) q1 q3 (by rw [hsl]; exact k2_hasslot (q4 f hf)) rfl rfl hd key
  · have hlay := hts _ (hin _ (u_in_lay hf))
    unfold u_lay at hlay
    rw [if_neg hfl] at hlay
    have h6 := u_store hfc hkC hkind hlay hi (hty f hf) hn hfit
    exact W.putK E.1 E.2.1 (f := fd) ⟨E.2.2.2.2.1, hts _ hw, ⟨_, _, _, hi2⟩, hst⟩ (by rw [q2]; exact h6) q1 q3 (by rw [hsl]; exact k2_hasslot (q4 f hf)) rfl rfl hd key
theorem up1_ne {α : Type} {f : Nat → Nat → α} {a i b : Nat} {v : α} (h : b ≠ a) : up1 f a i v b = f b := by funext j; simp [up1, h]
theorem up1_eq {α : Type} {f : Nat → Nat → α} {a i : Nat} {v : α} : up1 f a i v a i = v := by simp [up1]
theorem up1_j {α : Type} {f : Nat → Nat → α} {a i j b : Nat} {v : α} (h : j ≠ i) : up1 f a i v b j = f b j := by
  unfold up1
  rw [if_neg h]
  split <;> rfl
theorem wp_putI {C : String} {T : u_T} {N t a f index : Nat} {ty : Nat → FieldType} {M' : Mem} {v : Int32} (hcl : ClsOk t C T N ty) (hf : f < N) (hr : refF t f = false) (hw : Cond.fieldLink (mY Y).cls index C (T f).2.1 (T f).2.2.1 ∈ gtbl) (hfin : (T f).2.2.2 = false ∨ ((mY Y).name = "<init>" ∧ (mY Y).cls = C)) (hd : decode (mC Y) pc = .ok (.putfield index, 3)) (hg : pI M t a f v = some M') (k : WP D l Y kc ks (pc + 3) ls st M' post) : WP D l Y kc ks pc ls (.int v :: .ref a :: st) M post := by
  unfold pI at hg
  split at hg
  · rename_i ht
    cases hg
    have hty : ty f = .int := (hcl.2.2.2.2.2.2.2 f hf).1 hr
    refine wp_putV (M' := uI M a f v) hcl hf hw hfin hd ht (by rw [hty]; rfl) (by rw [hty]; rfl) rfl rfl (fun b hb => up1_ne hb) (fun b _ => rfl) ?_ ?_ k
    · unfold fldV
      rw [hr, if_neg (by decide)]
      show Value.int (up1 _ a f v a f) = _
      rw [up1_eq]
      rfl
    · intro j hj
      unfold fldV
      show (if refF t j = true then _ else Value.int (up1 _ a f v a j)) = _
      rw [up1_j hj]
      rfl
  · cases hg
theorem fits_ref (D : DT) (v : Nat) {t : FieldType} (h : ∃ z, t = .array z ∨ ∃ c, t = .object c) : narrow t (cv D (.ref v)) = cv D (.ref v) ∧ fits t (cv D (.ref v)) = true := by
  obtain ⟨z, rfl | ⟨c, rfl⟩⟩ := h
  · show narrow _ (va_rf (oR D v)) = va_rf (oR D v) ∧ fits _ (va_rf (oR D v)) = true
    cases oR D v <;> exact ⟨rfl, rfl⟩
  · show narrow _ (va_rf (oR D v)) = va_rf (oR D v) ∧ fits _ (va_rf (oR D v)) = true
    cases oR D v <;> exact ⟨rfl, rfl⟩
theorem wp_putR {C : String} {T : u_T} {N t a f index v : Nat} {ty : Nat → FieldType} {M' : Mem} (hcl : ClsOk t C T N ty) (hf : f < N) (hr : refF t f = true) (hw : Cond.fieldLink (mY Y).cls index C (T f).2.1 (T f).2.2.1 ∈ gtbl) (hfin : (T f).2.2.2 = false ∨ ((mY Y).name = "<init>" ∧ (mY Y).cls = C)) (hd : decode (mC Y) pc = .ok (.putfield index, 3)) (hg : pR M t a f v = some M') (k : WP D l Y kc ks (pc + 3) ls st M' post) : WP D l Y kc ks pc ls (.ref v :: .ref a :: st) M post := by
  unfold pR at hg
  split at hg
  · rename_i ht
    cases hg
    have hty := (hcl.2.2.2.2.2.2.2 f hf).2 hr
    have hfr := fits_ref D v hty
    refine wp_putV (M' := uR M a f v) hcl hf hw hfin hd ht hfr.1 hfr.2 rfl rfl (fun b _ => rfl) (fun b hb => up1_ne hb) ?_ ?_ k
    · unfold fldV
      rw [hr, if_pos rfl]
      show va_rf (oR D (up1 _ a f v a f)) = _
      rw [up1_eq]
      rfl
    · intro j hj
      unfold fldV
      show (if refF t j = true then va_rf (oR D (up1 _ a f v a j)) else _) = _
      rw [up1_j hj]
      rfl
  · cases hg
/-! arrays -/
theorem KK.int {s : State} (h : KK D s) : (tyTab D)[0]? = some (D.2.1 10, .int) := rfl
theorem wp_iaload {a : Nat} {i v : Int32} (hd : decode (mC Y) pc = .ok (.iaload, 1)) (hg : ldI M a i = some v) (k : WP D l Y kc ks (pc + 1) ls (.int v :: st) M post) : WP D l Y kc ks pc ls (.int i :: .ref a :: st) M post := by
  intro p e s m args below meth c E H locs hR hS lsA hl
  have hk := k p e s m args below meth c E H locs hR hS lsA hl
  unfold ldI at hg
  split at hg
  · rename_i ht
    cases hg
    obtain ⟨ht, hin⟩ := ht
    rw [List.map_cons, List.map_cons]
    rcases ht with ht | ht
    · have hlv := hR.live (a := a) (by omega)
      rw [cv_ref hlv.1]
      exact va_iald E.1 E.2.1 (KK.K E.2.2.2.2.2.2.2.2.1) (hR.arr ht (by omega) (by omega) (by omega)) 0 0 rfl rfl (inR_in hin) hd hk
    · obtain ⟨h0, h5, hT⟩ := hR.2.2.2.2 a ht
      rw [cv_ro h0 h5]
      have hO : Old D s.heap := E.2.2.2.2.2.2.2.2.2
      have hT2 : va_T .int (D.2.2.1 a) (mS M a).2 (fun j => .int (mI M a j)) (Anew D) s s.heap := (hT.moved E.2.2.2.2.2.2.2.2.1.2.1).kept (fun q hq _ => hO.2 q hq)
      exact va_ti E.1 E.2.1 hT2 hS (inR_in hin) rfl hd hk
  · cases hg
theorem wp_caload {a : Nat} {i v : Int32} (hd : decode (mC Y) pc = .ok (.caload, 1)) (hg : ldC M a i = some v) (k : WP D l Y kc ks (pc + 1) ls (.int v :: st) M post) : WP D l Y kc ks pc ls (.int i :: .ref a :: st) M post := by
  intro p e s m args below meth c E H locs hR hS lsA hl
  have hk := k p e s m args below meth c E H locs hR hS lsA hl
  unfold ldC at hg
  split at hg
  · rename_i ht
    cases hg
    obtain ⟨ht, hin⟩ := ht
    rw [List.map_cons, List.map_cons]
    have hlv := hR.live (a := a) (by omega)
    rw [cv_ref hlv.1]
    exact va_cald E.1 E.2.1 (KK.K E.2.2.2.2.2.2.2.2.1) (hR.arr ht (by omega) (by omega) (by omega)) 0 1 rfl rfl (inR_in hin) hd hk
  · cases hg
theorem wp_aaload {a v : Nat} {i : Int32} (hd : decode (mC Y) pc = .ok (.aaload, 1)) (hg : ldR M a i = some v) (k : WP D l Y kc ks (pc + 1) ls (.ref v :: st) M post) : WP D l Y kc ks pc ls (.int i :: .ref a :: st) M post := by
  intro p e s m args below meth c E H locs hR hS lsA hl
  have hk := k p e s m args below meth c E H locs hR hS lsA hl
  unfold ldR at hg
  split at hg
  · rename_i ht
    cases hg
    obtain ⟨ht, hin⟩ := ht
    rw [List.map_cons, List.map_cons]
    have hlv := hR.live (a := a) (by omega)
    rw [cv_ref hlv.1]
    exact va_aldq E.1 E.2.1 (KK.K E.2.2.2.2.2.2.2.2.1) (hR.rarr ht) 0 2 rfl rfl (inR_in hin) hd hk
  · cases hg
theorem wp_alen {a : Nat} {v : Int32} (hd : decode (mC Y) pc = .ok (.arraylength, 1)) (hg : aLen M a = some v) (k : WP D l Y kc ks (pc + 1) ls (.int v :: st) M post) : WP D l Y kc ks pc ls (.ref a :: st) M post := by
  intro p e s m args below meth c E H locs hR hS lsA hl
  have hk := k p e s m args below meth c E H locs hR hS lsA hl
  have hK := KK.K E.2.2.2.2.2.2.2.2.1
  unfold aLen at hg
  split at hg
  · rename_i ht
    cases hg
    rw [List.map_cons]
    have h4 : (mS M a).1 = 10 ∨ (mS M a).1 = 11 ∨ (mS M a).1 = 12 ∨ (mS M a).1 = 13 := by omega
    rcases h4 with ht | ht | ht | ht
    · rw [cv_ref (hR.live (a := a) (by omega)).1]
      exact va_alen E.1 E.2.1 hK (hR.arr ht (by omega) (by omega) (by omega)) 0 0 rfl rfl rfl hd hk
    · rw [cv_ref (hR.live (a := a) (by omega)).1]
      exact va_alen E.1 E.2.1 hK (hR.arr ht (by omega) (by omega) (by omega)) 0 1 rfl rfl rfl hd hk
    · rw [cv_ref (hR.live (a := a) (by omega)).1]
      exact va_alen E.1 E.2.1 hK (hR.rarr ht) 0 2 rfl rfl rfl hd hk
    · obtain ⟨h0, h5, hT⟩ := hR.2.2.2.2 a ht
      rw [cv_ro h0 h5]
      have hO : Old D s.heap := E.2.2.2.2.2.2.2.2.2
      have hT2 : va_T .int (D.2.2.1 a) (mS M a).2 (fun j => .int (mI M a j)) (Anew D) s s.heap := (hT.moved E.2.2.2.2.2.2.2.2.1.2.1).kept (fun q hq _ => hO.2 q hq)
      exact va_tlen E.1 E.2.1 hT2 hS rfl hd hk
  · cases hg
/-- a row of ints is another one -/
theorem Rel.row {H H' : Heap} (h : Rel D H M) {a t : Nat} (f : Nat → Int32) (M' : Mem) (hM : M' = uRow M a f) (ht : (mS M a).1 = t) (h10 : t = 10 ∨ t = 11) (hc : H'[dBase D + (a - 5)]? = some (vp_cell (D.2.1 t) ((mS M a).2, .inl f))) (hz : H'.size = H.size) (ho : ∀ q, q ≠ dBase D + (a - 5) → H'[q]? = H[q]?) : Rel D H' M' := by
  subst hM
  refine h.put (h.live (a := a) (by omega)) rfl rfl (fun b hb => ?_) (fun b _ => rfl) ?_ hz ho
  · show upR _ a f b = _
    simp [upR, hb, mI]
  · unfold CellAt cellE
    show va_at _ _ (_, if (mS M a).1 < 10 then _ else if (mS M a).1 = 12 then _ else _) _
    rw [if_neg (by omega), if_neg (by omega)]
    show H'[_]? = some (vp_cell (D.2.1 (mS M a).1) ((mS M a).2, .inl (upR (M.2.2.1) a f a)))
    rw [ht, hc]
    simp [upR]
theorem uI_row (M : Mem) (a i : Nat) (v : Int32) : uI M a i v = uRow M a (upd (mI M a) i v) := by
  unfold uI uRow
  congr 3
  funext b j
  by_cases hb : b = a
  · subst hb
    simp [up1, upR, upd, mI]
  · simp [up1, upR, hb]
theorem wp_iastore {a : Nat} {i v : Int32} {M' : Mem} (hd : decode (mC Y) pc = .ok (.iastore, 1)) (hg : stI M a i v = some M') (k : WP D l Y kc ks (pc + 1) ls st M' post) : WP D l Y kc ks pc ls (.int v :: .int i :: .ref a :: st) M post := by
  intro p e s m args below meth c E H locs hR hS lsA hl
  unfold stI at hg
  split at hg
  · rename_i ht
    cases hg
    obtain ⟨ht, hin⟩ := ht
    rw [List.map_cons, List.map_cons, List.map_cons]
    have hlv := hR.live (a := a) (by omega)
    rw [cv_ref hlv.1]
    have hK := KK.K E.2.2.2.2.2.2.2.2.1
    refine W.iast E.1 E.2.1 ((hR.arr ht (by omega) (by omega) (by omega)) 0 _ rfl) ((hK.2 0 _ rfl).1 (mS M a).2 (fun j => .int (mI M a j))) (fun q => by cases q) (by show ¬ (i < 0 ∨ (arrV _ _ _).slots.size ≤ _); rw [arrV_size]; exact inR_in hin) rfl rfl hd fun H1 e1 z oq => ?_
    refine k p e s m args below meth c E H1 _ (hR.row _ _ (uI_row M a _ v) ht (Or.inl rfl) ?_ z oq) (hS.put z oq (Nat.le_add_right _ _)) lsA hl
    rw [e1, vp_cell_i, arrV_store]
    rw [vp_cell_i]
    congr 2
    funext q
    by_cases hq : q = i.toNatClampNeg
    · subst hq; simp [updV, upd]
    · simp [updV, upd, hq]
  · cases hg
theorem wp_castore {a : Nat} {i v : Int32} {M' : Mem} (hd : decode (mC Y) pc = .ok (.castore, 1)) (hg : stC M a i v = some M') (k : WP D l Y kc ks (pc + 1) ls st M' post) : WP D l Y kc ks pc ls (.int v :: .int i :: .ref a :: st) M post := by
  intro p e s m args below meth c E H locs hR hS lsA hl
  unfold stC at hg
  split at hg
  · rename_i ht
    cases hg
    obtain ⟨ht, hin⟩ := ht
    rw [List.map_cons, List.map_cons, List.map_cons]
    have hlv := hR.live (a := a) (by omega)
    rw [cv_ref hlv.1]
    have hK := KK.K E.2.2.2.2.2.2.2.2.1
    refine W.cast E.1 E.2.1 ((hR.arr ht (by omega) (by omega) (by omega)) 0 _ rfl) ((hK.2 1 _ rfl).1 (mS M a).2 (fun j => .int (mI M a j))) (fun q => by cases q) (by show ¬ (i < 0 ∨ (arrV _ _ _).slots.size ≤ _); rw [arrV_size]; exact inR_in hin) rfl rfl hd fun H1 e1 z oq => ?_
    refine k p e s m args below meth c E H1 _ (hR.row _ _ (uI_row M a _ _) ht (Or.inr rfl) ?_ z oq) (hS.put z oq (Nat.le_add_right _ _)) lsA hl
    rw [e1, vp_cell_i, arrV_store]
    rw [vp_cell_i]
    congr 2
    funext q
    by_cases hq : q = i.toNatClampNeg
    · subst hq
      simp [updV, upd, vp_nar]
      try rfl
    · simp [updV, upd, hq]
  · cases hg
theorem wp_aastore {a v : Nat} {i : Int32} {M' : Mem} (hd : decode (mC Y) pc = .ok (.aastore, 1)) (hg : stR M a i v = some M') (k : WP D l Y kc ks (pc + 1) ls st M' post) : WP D l Y kc ks pc ls (.ref v :: .int i :: .ref a :: st) M post := by
  intro p e s m args below meth c E H locs hR hS lsA hl
  unfold stR at hg
  split at hg
  · rename_i ht
    cases hg
    obtain ⟨⟨ht, htv⟩, hin⟩ := ht
    rw [List.map_cons, List.map_cons, List.map_cons]
    have hlv := hR.live (a := a) (by omega)
    have hlw := hR.live (a := v) (by omega)
    rw [cv_ref hlv.1, cv_ref hlw.1]
    have hK := KK.K E.2.2.2.2.2.2.2.2.1
    have hin' := inR_in hin
    have hlt : i.toNatClampNeg < (mS M a).2 := Nat.not_le.mp fun q => hin' (Or.inr q)
    have h0 : ¬ i < 0 := fun q => hin' (Or.inl q)
    obtain ⟨r', hr', cellV, g1, g2, g3, -⟩ := (hR.obj htv (by omega)) 0 _ rfl
    have hcls := (hK.1 5 _ rfl).2
    obtain ⟨kA, comp, k1, k2, k3, -⟩ := (hK.2 2 _ rfl).2
    have hcomp : comp = D.1.1 5 := Option.some.inj (k3.symm.trans hcls.1)
    subst hcomp
    obtain ⟨kC, hkC, -⟩ := hcls.2
    refine W.aast E.1 E.2.1 ((hR.rarr ht) 0 _ rfl) (fun q h => by cases h) (fun h => by cases h) k1 k2 rfl hkC ⟨h0, by show _ < (arrV _ _ _).slots.size; rw [arrV_size]; exact hlt⟩ g1 (fun q h => by rw [g3] at h; cases h) (by rw [g2]; exact hkC) (by rw [g2]; exact va_assign hcls) rfl rfl hd fun H1 e1 z oq => ?_
    refine k p e s m args below meth c E H1 _ (hR.put hlv rfl rfl (fun b _ => rfl) (fun b hb => up1_ne hb) ?_ z oq) (hS.put z oq (Nat.le_add_right _ _)) lsA hl
    unfold CellAt cellE
    show va_at _ _ (_, if (mS M a).1 < 10 then _ else if (mS M a).1 = 12 then _ else _) _
    rw [if_neg (by omega), if_pos ht]
    show H1[_]? = some (vp_cell _ _)
    rw [e1, vp_cell_q, arrV_store, vp_cell_q]
    congr 2
    funext q
    by_cases hq : q = i.toNatClampNeg
    · subst hq
      show updV _ _ _ _ = va_rf (oR D (up1 _ a _ v a _))
      rw [up1_eq]
      have e9 := cv_ref (D := D) hlw.1
      simp only [updV, if_true]
      exact e9.symm
    · show updV _ _ _ _ = va_rf (oR D (up1 _ a _ v a _))
      rw [up1_j hq]
      simp [updV, hq, mR]
  · cases hg
end Mem
