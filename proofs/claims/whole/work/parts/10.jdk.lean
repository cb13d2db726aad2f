def F_J6_bitCount (x0 : Int32) : Option Int32 :=
  (some ((((((((x0 - (((x0).toUInt32 >>> (((1 : Int32) : Int32).toUInt32 &&& Int32.toUInt32 31)).toInt32 &&& (1431655765 : Int32))) &&& (858993459 : Int32)) + ((((x0 - (((x0).toUInt32 >>> (((1 : Int32) : Int32).toUInt32 &&& Int32.toUInt32 31)).toInt32 &&& (1431655765 : Int32)))).toUInt32 >>> (((2 : Int32) : Int32).toUInt32 &&& Int32.toUInt32 31)).toInt32 &&& (858993459 : Int32))) + (((((x0 - (((x0).toUInt32 >>> (((1 : Int32) : Int32).toUInt32 &&& Int32.toUInt32 31)).toInt32 &&& (1431655765 : Int32))) &&& (858993459 : Int32)) + ((((x0 - (((x0).toUInt32 >>> (((1 : Int32) : Int32).toUInt32 &&& Int32.toUInt32 31)).toInt32 &&& (1431655765 : Int32)))).toUInt32 >>> (((2 : Int32) : Int32).toUInt32 &&& Int32.toUInt32 31)).toInt32 &&& (858993459 : Int32)))).toUInt32 >>> (((4 : Int32) : Int32).toUInt32 &&& Int32.toUInt32 31)).toInt32) &&& (252645135 : Int32)) + (((((((x0 - (((x0).toUInt32 >>> (((1 : Int32) : Int32).toUInt32 &&& Int32.toUInt32 31)).toInt32 &&& (1431655765 : Int32))) &&& (858993459 : Int32)) + ((((x0 - (((x0).toUInt32 >>> (((1 : Int32) : Int32).toUInt32 &&& Int32.toUInt32 31)).toInt32 &&& (1431655765 : Int32)))).toUInt32 >>> (((2 : Int32) : Int32).toUInt32 &&& Int32.toUInt32 31)).toInt32 &&& (858993459 : Int32))) + (((((x0 - (((x0).toUInt32 >>> (((1 : Int32) : Int32).toUInt32 &&& Int32.toUInt32 31)).toInt32 &&& (1431655765 : Int32))) &&& (858993459 : Int32)) + ((((x0 - (((x0).toUInt32 >>> (((1 : Int32) : Int32).toUInt32 &&& Int32.toUInt32 31)).toInt32 &&& (1431655765 : Int32)))).toUInt32 >>> (((2 : Int32) : Int32).toUInt32 &&& Int32.toUInt32 31)).toInt32 &&& (858993459 : Int32)))).toUInt32 >>> (((4 : Int32) : Int32).toUInt32 &&& Int32.toUInt32 31)).toInt32) &&& (252645135 : Int32))).toUInt32 >>> (((8 : Int32) : Int32).toUInt32 &&& Int32.toUInt32 31)).toInt32) + ((((((((x0 - (((x0).toUInt32 >>> (((1 : Int32) : Int32).toUInt32 &&& Int32.toUInt32 31)).toInt32 &&& (1431655765 : Int32))) &&& (858993459 : Int32)) + ((((x0 - (((x0).toUInt32 >>> (((1 : Int32) : Int32).toUInt32 &&& Int32.toUInt32 31)).toInt32 &&& (1431655765 : Int32)))).toUInt32 >>> (((2 : Int32) : Int32).toUInt32 &&& Int32.toUInt32 31)).toInt32 &&& (858993459 : Int32))) + (((((x0 - (((x0).toUInt32 >>> (((1 : Int32) : Int32).toUInt32 &&& Int32.toUInt32 31)).toInt32 &&& (1431655765 : Int32))) &&& (858993459 : Int32)) + ((((x0 - (((x0).toUInt32 >>> (((1 : Int32) : Int32).toUInt32 &&& Int32.toUInt32 31)).toInt32 &&& (1431655765 : Int32)))).toUInt32 >>> (((2 : Int32) : Int32).toUInt32 &&& Int32.toUInt32 31)).toInt32 &&& (858993459 : Int32)))).toUInt32 >>> (((4 : Int32) : Int32).toUInt32 &&& Int32.toUInt32 31)).toInt32) &&& (252645135 : Int32)) + (((((((x0 - (((x0).toUInt32 >>> (((1 : Int32) : Int32).toUInt32 &&& Int32.toUInt32 31)).toInt32 &&& (1431655765 : Int32))) &&& (858993459 : Int32)) + ((((x0 - (((x0).toUInt32 >>> (((1 : Int32) : Int32).toUInt32 &&& Int32.toUInt32 31)).toInt32 &&& (1431655765 : Int32)))).toUInt32 >>> (((2 : Int32) : Int32).toUInt32 &&& Int32.toUInt32 31)).toInt32 &&& (858993459 : Int32))) + (((((x0 - (((x0).toUInt32 >>> (((1 : Int32) : Int32).toUInt32 &&& Int32.toUInt32 31)).toInt32 &&& (1431655765 : Int32))) &&& (858993459 : Int32)) + ((((x0 - (((x0).toUInt32 >>> (((1 : Int32) : Int32).toUInt32 &&& Int32.toUInt32 31)).toInt32 &&& (1431655765 : Int32)))).toUInt32 >>> (((2 : Int32) : Int32).toUInt32 &&& Int32.toUInt32 31)).toInt32 &&& (858993459 : Int32)))).toUInt32 >>> (((4 : Int32) : Int32).toUInt32 &&& Int32.toUInt32 31)).toInt32) &&& (252645135 : Int32))).toUInt32 >>> (((8 : Int32) : Int32).toUInt32 &&& Int32.toUInt32 31)).toInt32)).toUInt32 >>> (((16 : Int32) : Int32).toUInt32 &&& Int32.toUInt32 31)).toInt32) &&& (63 : Int32)))
def F_J7_fill_5 : Nat → Nat → Int32 → Int32 → Int32 → Mem → Option Mem
  | 0 => fun _ _ _ _ _ => none
  | n + 1 => fun x0 x1 x2 x3 m =>
  (if x3 ≤ x2 then
  (some m)
  else
  (stI m x0 x2 x1).bind fun m2 =>
  ((F_J7_fill_5 n) x0 x1 (x2 + 1) x3 m2))
def F_J7_fill (x0 : Nat) (x1 : Int32) (m : Mem) : Option Mem :=
  (aLen m x0).bind fun v3 =>
  (F_J7_fill_5 FU x0 x1 (0 : Int32) v3 m)
theorem dJ6_bitCount_0 : decode (mC Y_J6_bitCount) 0 = .ok (.iload_n 0, 1) := by decide +kernel
theorem dJ6_bitCount_1 : decode (mC Y_J6_bitCount) 1 = .ok (.iload_n 0, 1) := by decide +kernel
theorem dJ6_bitCount_2 : decode (mC Y_J6_bitCount) 2 = .ok (.iconst 1, 1) := by decide +kernel
theorem dJ6_bitCount_3 : decode (mC Y_J6_bitCount) 3 = .ok (.iushr, 1) := by decide +kernel
theorem dJ6_bitCount_4 : decode (mC Y_J6_bitCount) 4 = .ok (.ldc_w 265, 3) := by decide +kernel
theorem dJ6_bitCount_7 : decode (mC Y_J6_bitCount) 7 = .ok (.iand, 1) := by decide +kernel
theorem dJ6_bitCount_8 : decode (mC Y_J6_bitCount) 8 = .ok (.isub, 1) := by decide +kernel
theorem dJ6_bitCount_9 : decode (mC Y_J6_bitCount) 9 = .ok (.istore_n 0, 1) := by decide +kernel
theorem dJ6_bitCount_10 : decode (mC Y_J6_bitCount) 10 = .ok (.iload_n 0, 1) := by decide +kernel
theorem dJ6_bitCount_11 : decode (mC Y_J6_bitCount) 11 = .ok (.ldc_w 266, 3) := by decide +kernel
theorem dJ6_bitCount_14 : decode (mC Y_J6_bitCount) 14 = .ok (.iand, 1) := by decide +kernel
theorem dJ6_bitCount_15 : decode (mC Y_J6_bitCount) 15 = .ok (.iload_n 0, 1) := by decide +kernel
theorem dJ6_bitCount_16 : decode (mC Y_J6_bitCount) 16 = .ok (.iconst 2, 1) := by decide +kernel
theorem dJ6_bitCount_17 : decode (mC Y_J6_bitCount) 17 = .ok (.iushr, 1) := by decide +kernel
theorem dJ6_bitCount_18 : decode (mC Y_J6_bitCount) 18 = .ok (.ldc_w 266, 3) := by decide +kernel
theorem dJ6_bitCount_21 : decode (mC Y_J6_bitCount) 21 = .ok (.iand, 1) := by decide +kernel
theorem dJ6_bitCount_22 : decode (mC Y_J6_bitCount) 22 = .ok (.iadd, 1) := by decide +kernel
theorem dJ6_bitCount_23 : decode (mC Y_J6_bitCount) 23 = .ok (.istore_n 0, 1) := by decide +kernel
theorem dJ6_bitCount_24 : decode (mC Y_J6_bitCount) 24 = .ok (.iload_n 0, 1) := by decide +kernel
theorem dJ6_bitCount_25 : decode (mC Y_J6_bitCount) 25 = .ok (.iload_n 0, 1) := by decide +kernel
theorem dJ6_bitCount_26 : decode (mC Y_J6_bitCount) 26 = .ok (.iconst 4, 1) := by decide +kernel
theorem dJ6_bitCount_27 : decode (mC Y_J6_bitCount) 27 = .ok (.iushr, 1) := by decide +kernel
theorem dJ6_bitCount_28 : decode (mC Y_J6_bitCount) 28 = .ok (.iadd, 1) := by decide +kernel
theorem dJ6_bitCount_29 : decode (mC Y_J6_bitCount) 29 = .ok (.ldc_w 267, 3) := by decide +kernel
theorem dJ6_bitCount_32 : decode (mC Y_J6_bitCount) 32 = .ok (.iand, 1) := by decide +kernel
theorem dJ6_bitCount_33 : decode (mC Y_J6_bitCount) 33 = .ok (.istore_n 0, 1) := by decide +kernel
theorem dJ6_bitCount_34 : decode (mC Y_J6_bitCount) 34 = .ok (.iload_n 0, 1) := by decide +kernel
theorem dJ6_bitCount_35 : decode (mC Y_J6_bitCount) 35 = .ok (.iload_n 0, 1) := by decide +kernel
theorem dJ6_bitCount_36 : decode (mC Y_J6_bitCount) 36 = .ok (.bipush 8, 2) := by decide +kernel
theorem dJ6_bitCount_38 : decode (mC Y_J6_bitCount) 38 = .ok (.iushr, 1) := by decide +kernel
theorem dJ6_bitCount_39 : decode (mC Y_J6_bitCount) 39 = .ok (.iadd, 1) := by decide +kernel
theorem dJ6_bitCount_40 : decode (mC Y_J6_bitCount) 40 = .ok (.istore_n 0, 1) := by decide +kernel
theorem dJ6_bitCount_41 : decode (mC Y_J6_bitCount) 41 = .ok (.iload_n 0, 1) := by decide +kernel
theorem dJ6_bitCount_42 : decode (mC Y_J6_bitCount) 42 = .ok (.iload_n 0, 1) := by decide +kernel
theorem dJ6_bitCount_43 : decode (mC Y_J6_bitCount) 43 = .ok (.bipush 16, 2) := by decide +kernel
theorem dJ6_bitCount_45 : decode (mC Y_J6_bitCount) 45 = .ok (.iushr, 1) := by decide +kernel
theorem dJ6_bitCount_46 : decode (mC Y_J6_bitCount) 46 = .ok (.iadd, 1) := by decide +kernel
theorem dJ6_bitCount_47 : decode (mC Y_J6_bitCount) 47 = .ok (.istore_n 0, 1) := by decide +kernel
theorem dJ6_bitCount_48 : decode (mC Y_J6_bitCount) 48 = .ok (.iload_n 0, 1) := by decide +kernel
theorem dJ6_bitCount_49 : decode (mC Y_J6_bitCount) 49 = .ok (.bipush 63, 2) := by decide +kernel
theorem dJ6_bitCount_51 : decode (mC Y_J6_bitCount) 51 = .ok (.iand, 1) := by decide +kernel
theorem dJ6_bitCount_52 : decode (mC Y_J6_bitCount) 52 = .ok (.ireturn, 1) := by decide +kernel
theorem dJ7_fill_0 : decode (mC Y_J7_fill) 0 = .ok (.iconst 0, 1) := by decide +kernel
theorem dJ7_fill_1 : decode (mC Y_J7_fill) 1 = .ok (.istore_n 2, 1) := by decide +kernel
theorem dJ7_fill_2 : decode (mC Y_J7_fill) 2 = .ok (.aload_n 0, 1) := by decide +kernel
theorem dJ7_fill_3 : decode (mC Y_J7_fill) 3 = .ok (.arraylength, 1) := by decide +kernel
theorem dJ7_fill_4 : decode (mC Y_J7_fill) 4 = .ok (.istore_n 3, 1) := by decide +kernel
theorem dJ7_fill_5 : decode (mC Y_J7_fill) 5 = .ok (.iload_n 2, 1) := by decide +kernel
theorem dJ7_fill_6 : decode (mC Y_J7_fill) 6 = .ok (.iload_n 3, 1) := by decide +kernel
theorem dJ7_fill_7 : decode (mC Y_J7_fill) 7 = .ok (.if_icmp .ge 13, 3) := by decide +kernel
theorem dJ7_fill_10 : decode (mC Y_J7_fill) 10 = .ok (.aload_n 0, 1) := by decide +kernel
theorem dJ7_fill_11 : decode (mC Y_J7_fill) 11 = .ok (.iload_n 2, 1) := by decide +kernel
theorem dJ7_fill_12 : decode (mC Y_J7_fill) 12 = .ok (.iload_n 1, 1) := by decide +kernel
theorem dJ7_fill_13 : decode (mC Y_J7_fill) 13 = .ok (.iastore, 1) := by decide +kernel
theorem dJ7_fill_14 : decode (mC Y_J7_fill) 14 = .ok (.iinc 2 1, 3) := by decide +kernel
theorem dJ7_fill_17 : decode (mC Y_J7_fill) 17 = .ok (.goto (-12), 3) := by decide +kernel
theorem dJ7_fill_20 : decode (mC Y_J7_fill) 20 = .ok (.return_, 1) := by decide +kernel
theorem ct_J6_bitCount {D : DT} {l : Launch} {m : Mem} {x0 : Int32} {r : Int32} (h : F_J6_bitCount x0 = some r) : Ct D l Y_J6_bitCount [.int x0] m (fun (v : Option Value) (N : Mem) => v = some (Value.int r) ∧ N = m) := by
  refine ct_of (by decide) (by rfl) (ls0 := [.int x0]) rfl rfl ?_
  have h : PI m (F_J6_bitCount x0) (fun (v : Option Value) (N : Mem) => v = some (Value.int r) ∧ N = m) := ⟨r, h, rfl, rfl⟩
  revert h
  generalize (fun (v : Option Value) (N : Mem) => v = some (Value.int r) ∧ N = m) = post
  intro h
  refine wp_iload_n (i := 0) dJ6_bitCount_0 rfl rfl ?_
  refine wp_iload_n (i := 0) dJ6_bitCount_1 rfl rfl ?_
  refine wp_iconst (v := 1) dJ6_bitCount_2 (by decide) ?_
  refine wp_iushr dJ6_bitCount_3 ?_
  refine wp_ldcw dJ6_bitCount_4 cw_J6_265 ?_
  refine wp_iand dJ6_bitCount_7 ?_
  refine wp_isub dJ6_bitCount_8 ?_
  refine wp_istore_n (i := 0) dJ6_bitCount_9 rfl rfl rfl ?_
  refine wp_iload_n (i := 0) dJ6_bitCount_10 rfl rfl ?_
  refine wp_ldcw dJ6_bitCount_11 cw_J6_266 ?_
  refine wp_iand dJ6_bitCount_14 ?_
  refine wp_iload_n (i := 0) dJ6_bitCount_15 rfl rfl ?_
  refine wp_iconst (v := 2) dJ6_bitCount_16 (by decide) ?_
  refine wp_iushr dJ6_bitCount_17 ?_
  refine wp_ldcw dJ6_bitCount_18 cw_J6_266 ?_
  refine wp_iand dJ6_bitCount_21 ?_
  refine wp_iadd dJ6_bitCount_22 ?_
  refine wp_istore_n (i := 0) dJ6_bitCount_23 rfl rfl rfl ?_
  refine wp_iload_n (i := 0) dJ6_bitCount_24 rfl rfl ?_
  refine wp_iload_n (i := 0) dJ6_bitCount_25 rfl rfl ?_
  refine wp_iconst (v := 4) dJ6_bitCount_26 (by decide) ?_
  refine wp_iushr dJ6_bitCount_27 ?_
  refine wp_iadd dJ6_bitCount_28 ?_
  refine wp_ldcw dJ6_bitCount_29 cw_J6_267 ?_
  refine wp_iand dJ6_bitCount_32 ?_
  refine wp_istore_n (i := 0) dJ6_bitCount_33 rfl rfl rfl ?_
  refine wp_iload_n (i := 0) dJ6_bitCount_34 rfl rfl ?_
  refine wp_iload_n (i := 0) dJ6_bitCount_35 rfl rfl ?_
  refine wp_bipush (v := 8) dJ6_bitCount_36 (by decide) ?_
  refine wp_iushr dJ6_bitCount_38 ?_
  refine wp_iadd dJ6_bitCount_39 ?_
  refine wp_istore_n (i := 0) dJ6_bitCount_40 rfl rfl rfl ?_
  refine wp_iload_n (i := 0) dJ6_bitCount_41 rfl rfl ?_
  refine wp_iload_n (i := 0) dJ6_bitCount_42 rfl rfl ?_
  refine wp_bipush (v := 16) dJ6_bitCount_43 (by decide) ?_
  refine wp_iushr dJ6_bitCount_45 ?_
  refine wp_iadd dJ6_bitCount_46 ?_
  refine wp_istore_n (i := 0) dJ6_bitCount_47 rfl rfl rfl ?_
  refine wp_iload_n (i := 0) dJ6_bitCount_48 rfl rfl ?_
  refine wp_bipush (v := 63) dJ6_bitCount_49 (by decide) ?_
  refine wp_iand dJ6_bitCount_51 ?_
  exact wp_iret dJ6_bitCount_52 rfl rfl (Nat.le_of_ble_eq_true rfl) (Nat.le_of_ble_eq_true rfl) (PI.some h)
theorem w_J7_fill_5 {D : DT} {l : Launch} {post : Option Value → Mem → Prop} : ∀ (n : Nat) (x0 : Nat) (x1 : Int32) (x2 : Int32) (x3 : Int32) (m : Mem), HV (F_J7_fill_5 n x0 x1 x2 x3 m) post → WP D l Y_J7_fill 0 0 5 [.ref x0, .int x1, .int x2, .int x3] [] m post := by
  intro n
  induction n with
  | zero => intro x0 x1 x2 x3 m h; exact (HV.none h).elim
  | succ n ih =>
    intro x0 x1 x2 x3 m h
    refine wp_iload_n (i := 2) dJ7_fill_5 rfl rfl ?_
    refine wp_iload_n (i := 3) dJ7_fill_6 rfl rfl ?_
    refine wp_icmp_ge (tgt := 20) dJ7_fill_7 (by decide) (fun c1 => ?_) (fun c1 => ?_)
    · have h := HV.t c1 h
      exact wp_vret dJ7_fill_20 rfl (Nat.le_of_ble_eq_true rfl) (Nat.le_of_ble_eq_true rfl) (HV.some h)
    · have h := HV.f c1 h
      refine wp_aload_n (i := 0) dJ7_fill_10 rfl rfl ?_
      refine wp_iload_n (i := 2) dJ7_fill_11 rfl rfl ?_
      refine wp_iload_n (i := 1) dJ7_fill_12 rfl rfl ?_
      obtain ⟨m2, em2, h⟩ := HV.bind h
      refine wp_iastore dJ7_fill_13 em2 ?_
      refine wp_iinc (v := 1) dJ7_fill_14 rfl (by decide) rfl rfl ?_
      refine wp_goto (tgt := 5) dJ7_fill_17 (by decide) ?_
      exact (ih _ _ _ _ _ h)
theorem ct_J7_fill {D : DT} {l : Launch} {m : Mem} {x0 : Nat} {x1 : Int32} {r : Mem} (h : F_J7_fill x0 x1 m = some r) : Ct D l Y_J7_fill [.ref x0, .int x1] m (fun (v : Option Value) (N : Mem) => v = none ∧ N = r) := by
  refine ct_of (by decide) (by rfl) (ls0 := [.ref x0, .int x1, JK, JK]) rfl rfl ?_
  have h : HV (F_J7_fill x0 x1 m) (fun (v : Option Value) (N : Mem) => v = none ∧ N = r) := ⟨r, h, rfl, rfl⟩
  revert h
  generalize (fun (v : Option Value) (N : Mem) => v = none ∧ N = r) = post
  intro h
  refine wp_iconst (v := 0) dJ7_fill_0 (by decide) ?_
  refine wp_istore_n (i := 2) dJ7_fill_1 rfl rfl rfl ?_
  refine wp_aload_n (i := 0) dJ7_fill_2 rfl rfl ?_
  obtain ⟨v3, ev3, h⟩ := HV.bind h
  refine wp_alen dJ7_fill_3 ev3 ?_
  refine wp_istore_n (i := 3) dJ7_fill_4 rfl rfl rfl ?_
  exact (w_J7_fill_5 _ _ _ _ _ _ h)
