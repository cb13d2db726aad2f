def F_X3_init (x0 : Nat) (m : Mem) : Option Mem :=
  (chkT m 3 x0).bind fun v1 =>
  (pR (mNew m 11 200) 3 x0 0 (mN m)).bind fun m2 =>
  (pR (mNew m2 10 5) 3 x0 1 (mN m2)).bind fun m3 =>
  (pI m3 3 x0 2 (0 : Int32)).bind fun m4 =>
  (some m4)
def F_X6_outside_10  : Option Int32 :=
  (some (1 : Int32))
def F_X6_outside (x0 : Int32) (x1 : Int32) (x2 : Int32) : Option Int32 :=
  (if x0 < x1 then
  (F_X6_outside_10)
  else
  (if x0 ≤ x2 then
  (some (0 : Int32))
  else
  (F_X6_outside_10)))
def F_X3_append (x0 : Nat) (x1 : Int32) (m : Mem) : Option (Int32 × Mem) :=
  (fI m 3 x0 2).bind fun v1 =>
  (if v1 < (200 : Int32) then
  (fR m 3 x0 0).bind fun v3 =>
  (fI m 3 x0 2).bind fun v4 =>
  (stC m v3 v4 x1).bind fun m5 =>
  (fI m5 3 x0 2).bind fun v6 =>
  (pI m5 3 x0 2 (v6 + (1 : Int32))).bind fun m7 =>
  (some ((1 : Int32), m7))
  else
  (some ((0 : Int32), m)))
def F_X3_length (x0 : Nat) (m : Mem) : Option Int32 :=
  (fI m 3 x0 2).bind fun v1 =>
  (some v1)
def F_X3_empty (x0 : Nat) (m : Mem) : Option (Int32 × Mem) :=
  (fI m 3 x0 2).bind fun v1 =>
  (pI m 3 x0 2 (0 : Int32)).bind fun m2 =>
  (some (v1, m2))
def F_X3_letterAt (x0 : Nat) (x1 : Int32) (m : Mem) : Option Int32 :=
  (fI m 3 x0 2).bind fun v1 =>
  (F_X6_outside x1 (0 : Int32) (v1 - (1 : Int32))).bind fun v2 =>
  (if v2 = 0 then
  (fR m 3 x0 0).bind fun v4 =>
  (ldC m v4 x1).bind fun v5 =>
  (rN .char v5).bind fun v6 =>
  some v5
  else
  (some (0 : Int32)))
def F_X3_isFigure (x0 : Int32) : Option Int32 :=
  (if x0 < (48 : Int32) then
  (some (0 : Int32))
  else
  (if (57 : Int32) < x0 then
  (some (0 : Int32))
  else
  (some (1 : Int32))))
def F_X3_figuresAt (x0 : Nat) (x1 : Int32) (m : Mem) : Option Int32 :=
  (chkT m 3 x0).bind fun v2 =>
  (F_X3_letterAt x0 x1 m).bind fun v1 =>
  (F_X3_isFigure v1).bind fun v3 =>
  (if v3 = 0 then
  (some (0 : Int32))
  else
  (chkT m 3 x0).bind fun v6 =>
  (F_X3_letterAt x0 (x1 + (1 : Int32)) m).bind fun v5 =>
  (F_X3_isFigure v5).bind fun v7 =>
  (if v7 = 0 then
  (some (1 : Int32))
  else
  (some (2 : Int32))))
def F_X3_numberAt_5 (m : Mem) : Nat → Nat → Int32 → Int32 → Int32 → Int32 → Option Int32
  | 0 => fun _ _ _ _ _ => none
  | n + 1 => fun x0 x1 x2 x3 x4 =>
  (if x2 ≤ x4 then
  (some x3)
  else
  (chkT m 3 x0).bind fun v3 =>
  (F_X3_letterAt x0 (x1 + x4) m).bind fun v2 =>
  ((F_X3_numberAt_5 m n) x0 x1 x2 (((10 : Int32) * x3) + (v2 - (48 : Int32))) (x4 + 1)))
def F_X3_numberAt (x0 : Nat) (x1 : Int32) (x2 : Int32) (m : Mem) : Option Int32 :=
  (F_X3_numberAt_5 m FU x0 x1 x2 (0 : Int32) (0 : Int32))
def F_X3_readItem_60 (r19 : Nat → Int32 → Int32 → Mem → Option (Int32 × Mem)) (x0 : Nat) (x2 : Int32) (x3 : Int32) (x4 : Int32) (x5 : Int32) (s0 : Int32) (m : Mem) : Option (Int32 × Mem) :=
  (ldI m 3 x3).bind fun v1 =>
  (ldI m 4 x3).bind fun v2 =>
  (F_X6_outside x5 v1 v2).bind fun v3 =>
  (if v3 = 0 then
  (chkT m 3 x0).bind fun v6 =>
  (F_X3_letterAt x0 (x2 + x4) m).bind fun v5 =>
  (if v5 = s0 then
  (fR m 3 x0 1).bind fun v8 =>
  (stI m v8 x3 x5).bind fun m9 =>
  (r19 x0 (x2 + (x4 + (1 : Int32))) (x3 + 1) m9)
  else
  (some ((-4 : Int32), m)))
  else
  (some ((-4 : Int32), m)))
def F_X3_readItem_19 : Nat → Nat → Int32 → Int32 → Mem → Option (Int32 × Mem)
  | 0 => fun _ _ _ _ => none
  | n + 1 => fun x0 x2 x3 m =>
  (if (5 : Int32) ≤ x3 then
  (some (x2, m))
  else
  (chkT m 3 x0).bind fun v12 =>
  (F_X3_figuresAt x0 x2 m).bind fun v11 =>
  (if v11 = 0 then
  (some ((-4 : Int32), m))
  else
  (chkT m 3 x0).bind fun v15 =>
  (F_X3_numberAt x0 x2 v11 m).bind fun v14 =>
  (if (4 : Int32) ≤ x3 then
  (F_X3_readItem_60 (F_X3_readItem_19 n) x0 x2 x3 v11 v14 (59 : Int32) m)
  else
  (F_X3_readItem_60 (F_X3_readItem_19 n) x0 x2 x3 v11 v14 (44 : Int32) m))))
def F_X3_readItem (x0 : Nat) (x1 : Int32) (m : Mem) : Option (Int32 × Mem) :=
  (chkT m 3 x0).bind fun v18 =>
  (F_X3_letterAt x0 x1 m).bind fun v17 =>
  (if v17 = (112 : Int32) then
  (F_X3_readItem_19 FU x0 (x1 + (1 : Int32)) (0 : Int32) m)
  else
  (some ((-4 : Int32), m)))
def F_X3_readInto_38 (r8 : Nat → Nat → Int32 → Int32 → Mem → Option (Int32 × Mem)) (x0 : Nat) (x1 : Nat) (x2 : Int32) (x3 : Int32) (s0 : Int32) (m : Mem) : Option (Int32 × Mem) :=
  (if s0 = (-4 : Int32) then
  (some (x2, m))
  else
  (fR m 3 x0 1).bind fun v2 =>
  (ldI m v2 (0 : Int32)).bind fun v3 =>
  (fR m 3 x0 1).bind fun v4 =>
  (ldI m v4 (1 : Int32)).bind fun v5 =>
  (fR m 3 x0 1).bind fun v6 =>
  (ldI m v6 (2 : Int32)).bind fun v7 =>
  (fR m 3 x0 1).bind fun v8 =>
  (ldI m v8 (3 : Int32)).bind fun v9 =>
  (fR m 3 x0 1).bind fun v10 =>
  (ldI m v10 (4 : Int32)).bind fun v11 =>
  (chkT m 5 x1).bind fun v13 =>
  (F_X5_settle x1 v3 v5 v7 v9 v11 m).bind fun v12 =>
  (r8 x0 x1 s0 (x3 + 1) v12))
def F_X3_readInto_8 : Nat → Nat → Nat → Int32 → Int32 → Mem → Option (Int32 × Mem)
  | 0 => fun _ _ _ _ _ => none
  | n + 1 => fun x0 x1 x2 x3 m =>
  (if (7 : Int32) < x3 then
  (some ((-4 : Int32), m))
  else
  (fI m 3 x0 2).bind fun v15 =>
  (if v15 ≤ x2 then
  (some ((-4 : Int32), m))
  else
  (if (7 : Int32) ≤ x3 then
  (F_X3_readInto_38 (F_X3_readInto_8 n) x0 x1 x2 x3 (-4 : Int32) m)
  else
  (chkT m 3 x0).bind fun v19 =>
  (F_X3_readItem x0 x2 m).bind fun v18 =>
  (F_X3_readInto_38 (F_X3_readInto_8 n) x0 x1 x2 x3 v18.1 v18.2))))
def F_X3_readInto (x0 : Nat) (x1 : Nat) (m : Mem) : Option (Int32 × Mem) :=
  (chkT m 5 x1).bind fun v21 =>
  (F_X5_empty x1 m).bind fun v20 =>
  (F_X3_readInto_8 FU x0 x1 (0 : Int32) (0 : Int32) v20)
theorem dX3_init_0 : decode (mC Y_X3_init) 0 = .ok (.aload_n 0, 1) := by decide +kernel
theorem dX3_init_1 : decode (mC Y_X3_init) 1 = .ok (.invokespecial 3, 3) := by decide +kernel
theorem dX3_init_4 : decode (mC Y_X3_init) 4 = .ok (.aload_n 0, 1) := by decide +kernel
theorem dX3_init_5 : decode (mC Y_X3_init) 5 = .ok (.sipush 200, 3) := by decide +kernel
theorem dX3_init_8 : decode (mC Y_X3_init) 8 = .ok (.newarray .char, 2) := by decide +kernel
theorem dX3_init_10 : decode (mC Y_X3_init) 10 = .ok (.putfield 11, 3) := by decide +kernel
theorem dX3_init_13 : decode (mC Y_X3_init) 13 = .ok (.aload_n 0, 1) := by decide +kernel
theorem dX3_init_14 : decode (mC Y_X3_init) 14 = .ok (.iconst 5, 1) := by decide +kernel
theorem dX3_init_15 : decode (mC Y_X3_init) 15 = .ok (.newarray .int, 2) := by decide +kernel
theorem dX3_init_17 : decode (mC Y_X3_init) 17 = .ok (.putfield 15, 3) := by decide +kernel
theorem dX3_init_20 : decode (mC Y_X3_init) 20 = .ok (.aload_n 0, 1) := by decide +kernel
theorem dX3_init_21 : decode (mC Y_X3_init) 21 = .ok (.iconst 0, 1) := by decide +kernel
theorem dX3_init_22 : decode (mC Y_X3_init) 22 = .ok (.putfield 19, 3) := by decide +kernel
theorem dX3_init_25 : decode (mC Y_X3_init) 25 = .ok (.return_, 1) := by decide +kernel
theorem dX6_outside_0 : decode (mC Y_X6_outside) 0 = .ok (.iload_n 0, 1) := by decide +kernel
theorem dX6_outside_1 : decode (mC Y_X6_outside) 1 = .ok (.iload_n 1, 1) := by decide +kernel
theorem dX6_outside_2 : decode (mC Y_X6_outside) 2 = .ok (.if_icmp .lt 8, 3) := by decide +kernel
theorem dX6_outside_5 : decode (mC Y_X6_outside) 5 = .ok (.iload_n 0, 1) := by decide +kernel
theorem dX6_outside_6 : decode (mC Y_X6_outside) 6 = .ok (.iload_n 2, 1) := by decide +kernel
theorem dX6_outside_7 : decode (mC Y_X6_outside) 7 = .ok (.if_icmp .le 7, 3) := by decide +kernel
theorem dX6_outside_10 : decode (mC Y_X6_outside) 10 = .ok (.iconst 1, 1) := by decide +kernel
theorem dX6_outside_11 : decode (mC Y_X6_outside) 11 = .ok (.goto 4, 3) := by decide +kernel
theorem dX6_outside_14 : decode (mC Y_X6_outside) 14 = .ok (.iconst 0, 1) := by decide +kernel
theorem dX6_outside_15 : decode (mC Y_X6_outside) 15 = .ok (.ireturn, 1) := by decide +kernel
theorem dX3_append_0 : decode (mC Y_X3_append) 0 = .ok (.aload_n 0, 1) := by decide +kernel
theorem dX3_append_1 : decode (mC Y_X3_append) 1 = .ok (.getfield 19, 3) := by decide +kernel
theorem dX3_append_4 : decode (mC Y_X3_append) 4 = .ok (.sipush 200, 3) := by decide +kernel
theorem dX3_append_7 : decode (mC Y_X3_append) 7 = .ok (.if_icmp .lt 5, 3) := by decide +kernel
theorem dX3_append_10 : decode (mC Y_X3_append) 10 = .ok (.iconst 0, 1) := by decide +kernel
theorem dX3_append_11 : decode (mC Y_X3_append) 11 = .ok (.ireturn, 1) := by decide +kernel
theorem dX3_append_12 : decode (mC Y_X3_append) 12 = .ok (.aload_n 0, 1) := by decide +kernel
theorem dX3_append_13 : decode (mC Y_X3_append) 13 = .ok (.getfield 11, 3) := by decide +kernel
theorem dX3_append_16 : decode (mC Y_X3_append) 16 = .ok (.aload_n 0, 1) := by decide +kernel
theorem dX3_append_17 : decode (mC Y_X3_append) 17 = .ok (.getfield 19, 3) := by decide +kernel
theorem dX3_append_20 : decode (mC Y_X3_append) 20 = .ok (.iload_n 1, 1) := by decide +kernel
theorem dX3_append_21 : decode (mC Y_X3_append) 21 = .ok (.castore, 1) := by decide +kernel
theorem dX3_append_22 : decode (mC Y_X3_append) 22 = .ok (.aload_n 0, 1) := by decide +kernel
theorem dX3_append_23 : decode (mC Y_X3_append) 23 = .ok (.dup, 1) := by decide +kernel
theorem dX3_append_24 : decode (mC Y_X3_append) 24 = .ok (.getfield 19, 3) := by decide +kernel
theorem dX3_append_27 : decode (mC Y_X3_append) 27 = .ok (.iconst 1, 1) := by decide +kernel
theorem dX3_append_28 : decode (mC Y_X3_append) 28 = .ok (.iadd, 1) := by decide +kernel
theorem dX3_append_29 : decode (mC Y_X3_append) 29 = .ok (.putfield 19, 3) := by decide +kernel
theorem dX3_append_32 : decode (mC Y_X3_append) 32 = .ok (.iconst 1, 1) := by decide +kernel
theorem dX3_append_33 : decode (mC Y_X3_append) 33 = .ok (.ireturn, 1) := by decide +kernel
theorem dX3_length_0 : decode (mC Y_X3_length) 0 = .ok (.aload_n 0, 1) := by decide +kernel
theorem dX3_length_1 : decode (mC Y_X3_length) 1 = .ok (.getfield 19, 3) := by decide +kernel
theorem dX3_length_4 : decode (mC Y_X3_length) 4 = .ok (.ireturn, 1) := by decide +kernel
theorem dX3_empty_0 : decode (mC Y_X3_empty) 0 = .ok (.aload_n 0, 1) := by decide +kernel
theorem dX3_empty_1 : decode (mC Y_X3_empty) 1 = .ok (.getfield 19, 3) := by decide +kernel
theorem dX3_empty_4 : decode (mC Y_X3_empty) 4 = .ok (.istore_n 1, 1) := by decide +kernel
theorem dX3_empty_5 : decode (mC Y_X3_empty) 5 = .ok (.aload_n 0, 1) := by decide +kernel
theorem dX3_empty_6 : decode (mC Y_X3_empty) 6 = .ok (.iconst 0, 1) := by decide +kernel
theorem dX3_empty_7 : decode (mC Y_X3_empty) 7 = .ok (.putfield 19, 3) := by decide +kernel
theorem dX3_empty_10 : decode (mC Y_X3_empty) 10 = .ok (.iload_n 1, 1) := by decide +kernel
theorem dX3_empty_11 : decode (mC Y_X3_empty) 11 = .ok (.ireturn, 1) := by decide +kernel
theorem dX3_letterAt_0 : decode (mC Y_X3_letterAt) 0 = .ok (.iload_n 1, 1) := by decide +kernel
theorem dX3_letterAt_1 : decode (mC Y_X3_letterAt) 1 = .ok (.iconst 0, 1) := by decide +kernel
theorem dX3_letterAt_2 : decode (mC Y_X3_letterAt) 2 = .ok (.aload_n 0, 1) := by decide +kernel
theorem dX3_letterAt_3 : decode (mC Y_X3_letterAt) 3 = .ok (.getfield 19, 3) := by decide +kernel
theorem dX3_letterAt_6 : decode (mC Y_X3_letterAt) 6 = .ok (.iconst 1, 1) := by decide +kernel
theorem dX3_letterAt_7 : decode (mC Y_X3_letterAt) 7 = .ok (.isub, 1) := by decide +kernel
theorem dX3_letterAt_8 : decode (mC Y_X3_letterAt) 8 = .ok (.invokestatic 53, 3) := by decide +kernel
theorem dX3_letterAt_11 : decode (mC Y_X3_letterAt) 11 = .ok (.ifCond .eq 7, 3) := by decide +kernel
theorem dX3_letterAt_14 : decode (mC Y_X3_letterAt) 14 = .ok (.iconst 0, 1) := by decide +kernel
theorem dX3_letterAt_15 : decode (mC Y_X3_letterAt) 15 = .ok (.goto 9, 3) := by decide +kernel
theorem dX3_letterAt_18 : decode (mC Y_X3_letterAt) 18 = .ok (.aload_n 0, 1) := by decide +kernel
theorem dX3_letterAt_19 : decode (mC Y_X3_letterAt) 19 = .ok (.getfield 11, 3) := by decide +kernel
theorem dX3_letterAt_22 : decode (mC Y_X3_letterAt) 22 = .ok (.iload_n 1, 1) := by decide +kernel
theorem dX3_letterAt_23 : decode (mC Y_X3_letterAt) 23 = .ok (.caload, 1) := by decide +kernel
theorem dX3_letterAt_24 : decode (mC Y_X3_letterAt) 24 = .ok (.ireturn, 1) := by decide +kernel
theorem dX3_isFigure_0 : decode (mC Y_X3_isFigure) 0 = .ok (.iload_n 0, 1) := by decide +kernel
theorem dX3_isFigure_1 : decode (mC Y_X3_isFigure) 1 = .ok (.bipush 48, 2) := by decide +kernel
theorem dX3_isFigure_3 : decode (mC Y_X3_isFigure) 3 = .ok (.if_icmp .lt 13, 3) := by decide +kernel
theorem dX3_isFigure_6 : decode (mC Y_X3_isFigure) 6 = .ok (.iload_n 0, 1) := by decide +kernel
theorem dX3_isFigure_7 : decode (mC Y_X3_isFigure) 7 = .ok (.bipush 57, 2) := by decide +kernel
theorem dX3_isFigure_9 : decode (mC Y_X3_isFigure) 9 = .ok (.if_icmp .gt 7, 3) := by decide +kernel
theorem dX3_isFigure_12 : decode (mC Y_X3_isFigure) 12 = .ok (.iconst 1, 1) := by decide +kernel
theorem dX3_isFigure_13 : decode (mC Y_X3_isFigure) 13 = .ok (.goto 4, 3) := by decide +kernel
theorem dX3_isFigure_16 : decode (mC Y_X3_isFigure) 16 = .ok (.iconst 0, 1) := by decide +kernel
theorem dX3_isFigure_17 : decode (mC Y_X3_isFigure) 17 = .ok (.ireturn, 1) := by decide +kernel
theorem dX3_figuresAt_0 : decode (mC Y_X3_figuresAt) 0 = .ok (.aload_n 0, 1) := by decide +kernel
theorem dX3_figuresAt_1 : decode (mC Y_X3_figuresAt) 1 = .ok (.iload_n 1, 1) := by decide +kernel
theorem dX3_figuresAt_2 : decode (mC Y_X3_figuresAt) 2 = .ok (.invokevirtual 36, 3) := by decide +kernel
theorem dX3_figuresAt_5 : decode (mC Y_X3_figuresAt) 5 = .ok (.invokestatic 57, 3) := by decide +kernel
theorem dX3_figuresAt_8 : decode (mC Y_X3_figuresAt) 8 = .ok (.ifCond .ne 5, 3) := by decide +kernel
theorem dX3_figuresAt_11 : decode (mC Y_X3_figuresAt) 11 = .ok (.iconst 0, 1) := by decide +kernel
theorem dX3_figuresAt_12 : decode (mC Y_X3_figuresAt) 12 = .ok (.ireturn, 1) := by decide +kernel
theorem dX3_figuresAt_13 : decode (mC Y_X3_figuresAt) 13 = .ok (.aload_n 0, 1) := by decide +kernel
theorem dX3_figuresAt_14 : decode (mC Y_X3_figuresAt) 14 = .ok (.iload_n 1, 1) := by decide +kernel
theorem dX3_figuresAt_15 : decode (mC Y_X3_figuresAt) 15 = .ok (.iconst 1, 1) := by decide +kernel
theorem dX3_figuresAt_16 : decode (mC Y_X3_figuresAt) 16 = .ok (.iadd, 1) := by decide +kernel
theorem dX3_figuresAt_17 : decode (mC Y_X3_figuresAt) 17 = .ok (.invokevirtual 36, 3) := by decide +kernel
theorem dX3_figuresAt_20 : decode (mC Y_X3_figuresAt) 20 = .ok (.invokestatic 57, 3) := by decide +kernel
theorem dX3_figuresAt_23 : decode (mC Y_X3_figuresAt) 23 = .ok (.ifCond .eq 7, 3) := by decide +kernel
theorem dX3_figuresAt_26 : decode (mC Y_X3_figuresAt) 26 = .ok (.iconst 2, 1) := by decide +kernel
theorem dX3_figuresAt_27 : decode (mC Y_X3_figuresAt) 27 = .ok (.goto 4, 3) := by decide +kernel
theorem dX3_figuresAt_30 : decode (mC Y_X3_figuresAt) 30 = .ok (.iconst 1, 1) := by decide +kernel
theorem dX3_figuresAt_31 : decode (mC Y_X3_figuresAt) 31 = .ok (.ireturn, 1) := by decide +kernel
theorem dX3_numberAt_0 : decode (mC Y_X3_numberAt) 0 = .ok (.iconst 0, 1) := by decide +kernel
theorem dX3_numberAt_1 : decode (mC Y_X3_numberAt) 1 = .ok (.istore_n 3, 1) := by decide +kernel
theorem dX3_numberAt_2 : decode (mC Y_X3_numberAt) 2 = .ok (.iconst 0, 1) := by decide +kernel
theorem dX3_numberAt_3 : decode (mC Y_X3_numberAt) 3 = .ok (.istore 4, 2) := by decide +kernel
theorem dX3_numberAt_5 : decode (mC Y_X3_numberAt) 5 = .ok (.iload 4, 2) := by decide +kernel
theorem dX3_numberAt_7 : decode (mC Y_X3_numberAt) 7 = .ok (.iload_n 2, 1) := by decide +kernel
theorem dX3_numberAt_8 : decode (mC Y_X3_numberAt) 8 = .ok (.if_icmp .ge 26, 3) := by decide +kernel
theorem dX3_numberAt_11 : decode (mC Y_X3_numberAt) 11 = .ok (.bipush 10, 2) := by decide +kernel
theorem dX3_numberAt_13 : decode (mC Y_X3_numberAt) 13 = .ok (.iload_n 3, 1) := by decide +kernel
theorem dX3_numberAt_14 : decode (mC Y_X3_numberAt) 14 = .ok (.imul, 1) := by decide +kernel
theorem dX3_numberAt_15 : decode (mC Y_X3_numberAt) 15 = .ok (.aload_n 0, 1) := by decide +kernel
theorem dX3_numberAt_16 : decode (mC Y_X3_numberAt) 16 = .ok (.iload_n 1, 1) := by decide +kernel
theorem dX3_numberAt_17 : decode (mC Y_X3_numberAt) 17 = .ok (.iload 4, 2) := by decide +kernel
theorem dX3_numberAt_19 : decode (mC Y_X3_numberAt) 19 = .ok (.iadd, 1) := by decide +kernel
theorem dX3_numberAt_20 : decode (mC Y_X3_numberAt) 20 = .ok (.invokevirtual 36, 3) := by decide +kernel
theorem dX3_numberAt_23 : decode (mC Y_X3_numberAt) 23 = .ok (.bipush 48, 2) := by decide +kernel
theorem dX3_numberAt_25 : decode (mC Y_X3_numberAt) 25 = .ok (.isub, 1) := by decide +kernel
theorem dX3_numberAt_26 : decode (mC Y_X3_numberAt) 26 = .ok (.iadd, 1) := by decide +kernel
theorem dX3_numberAt_27 : decode (mC Y_X3_numberAt) 27 = .ok (.istore_n 3, 1) := by decide +kernel
theorem dX3_numberAt_28 : decode (mC Y_X3_numberAt) 28 = .ok (.iinc 4 1, 3) := by decide +kernel
theorem dX3_numberAt_31 : decode (mC Y_X3_numberAt) 31 = .ok (.goto (-26), 3) := by decide +kernel
theorem dX3_numberAt_34 : decode (mC Y_X3_numberAt) 34 = .ok (.iload_n 3, 1) := by decide +kernel
theorem dX3_numberAt_35 : decode (mC Y_X3_numberAt) 35 = .ok (.ireturn, 1) := by decide +kernel
theorem dX3_readItem_0 : decode (mC Y_X3_readItem) 0 = .ok (.aload_n 0, 1) := by decide +kernel
theorem dX3_readItem_1 : decode (mC Y_X3_readItem) 1 = .ok (.iload_n 1, 1) := by decide +kernel
theorem dX3_readItem_2 : decode (mC Y_X3_readItem) 2 = .ok (.invokevirtual 36, 3) := by decide +kernel
theorem dX3_readItem_5 : decode (mC Y_X3_readItem) 5 = .ok (.bipush 112, 2) := by decide +kernel
theorem dX3_readItem_7 : decode (mC Y_X3_readItem) 7 = .ok (.if_icmp .eq 6, 3) := by decide +kernel
theorem dX3_readItem_10 : decode (mC Y_X3_readItem) 10 = .ok (.bipush (-4), 2) := by decide +kernel
theorem dX3_readItem_12 : decode (mC Y_X3_readItem) 12 = .ok (.ireturn, 1) := by decide +kernel
theorem dX3_readItem_13 : decode (mC Y_X3_readItem) 13 = .ok (.iload_n 1, 1) := by decide +kernel
theorem dX3_readItem_14 : decode (mC Y_X3_readItem) 14 = .ok (.iconst 1, 1) := by decide +kernel
theorem dX3_readItem_15 : decode (mC Y_X3_readItem) 15 = .ok (.iadd, 1) := by decide +kernel
theorem dX3_readItem_16 : decode (mC Y_X3_readItem) 16 = .ok (.istore_n 2, 1) := by decide +kernel
theorem dX3_readItem_17 : decode (mC Y_X3_readItem) 17 = .ok (.iconst 0, 1) := by decide +kernel
theorem dX3_readItem_18 : decode (mC Y_X3_readItem) 18 = .ok (.istore_n 3, 1) := by decide +kernel
theorem dX3_readItem_19 : decode (mC Y_X3_readItem) 19 = .ok (.iload_n 3, 1) := by decide +kernel
theorem dX3_readItem_20 : decode (mC Y_X3_readItem) 20 = .ok (.iconst 5, 1) := by decide +kernel
theorem dX3_readItem_21 : decode (mC Y_X3_readItem) 21 = .ok (.if_icmp .ge 96, 3) := by decide +kernel
theorem dX3_readItem_24 : decode (mC Y_X3_readItem) 24 = .ok (.aload_n 0, 1) := by decide +kernel
theorem dX3_readItem_25 : decode (mC Y_X3_readItem) 25 = .ok (.iload_n 2, 1) := by decide +kernel
theorem dX3_readItem_26 : decode (mC Y_X3_readItem) 26 = .ok (.invokevirtual 40, 3) := by decide +kernel
theorem dX3_readItem_29 : decode (mC Y_X3_readItem) 29 = .ok (.istore 4, 2) := by decide +kernel
theorem dX3_readItem_31 : decode (mC Y_X3_readItem) 31 = .ok (.iload 4, 2) := by decide +kernel
theorem dX3_readItem_33 : decode (mC Y_X3_readItem) 33 = .ok (.ifCond .ne 6, 3) := by decide +kernel
theorem dX3_readItem_36 : decode (mC Y_X3_readItem) 36 = .ok (.bipush (-4), 2) := by decide +kernel
theorem dX3_readItem_38 : decode (mC Y_X3_readItem) 38 = .ok (.ireturn, 1) := by decide +kernel
theorem dX3_readItem_39 : decode (mC Y_X3_readItem) 39 = .ok (.aload_n 0, 1) := by decide +kernel
theorem dX3_readItem_40 : decode (mC Y_X3_readItem) 40 = .ok (.iload_n 2, 1) := by decide +kernel
theorem dX3_readItem_41 : decode (mC Y_X3_readItem) 41 = .ok (.iload 4, 2) := by decide +kernel
theorem dX3_readItem_43 : decode (mC Y_X3_readItem) 43 = .ok (.invokevirtual 43, 3) := by decide +kernel
theorem dX3_readItem_46 : decode (mC Y_X3_readItem) 46 = .ok (.istore 5, 2) := by decide +kernel
theorem dX3_readItem_48 : decode (mC Y_X3_readItem) 48 = .ok (.iload_n 3, 1) := by decide +kernel
theorem dX3_readItem_49 : decode (mC Y_X3_readItem) 49 = .ok (.iconst 4, 1) := by decide +kernel
theorem dX3_readItem_50 : decode (mC Y_X3_readItem) 50 = .ok (.if_icmp .ge 8, 3) := by decide +kernel
theorem dX3_readItem_53 : decode (mC Y_X3_readItem) 53 = .ok (.bipush 44, 2) := by decide +kernel
theorem dX3_readItem_55 : decode (mC Y_X3_readItem) 55 = .ok (.goto 5, 3) := by decide +kernel
theorem dX3_readItem_58 : decode (mC Y_X3_readItem) 58 = .ok (.bipush 59, 2) := by decide +kernel
theorem dX3_readItem_60 : decode (mC Y_X3_readItem) 60 = .ok (.istore 6, 2) := by decide +kernel
theorem dX3_readItem_62 : decode (mC Y_X3_readItem) 62 = .ok (.iload 5, 2) := by decide +kernel
theorem dX3_readItem_64 : decode (mC Y_X3_readItem) 64 = .ok (.getstatic 47, 3) := by decide +kernel
theorem dX3_readItem_67 : decode (mC Y_X3_readItem) 67 = .ok (.iload_n 3, 1) := by decide +kernel
theorem dX3_readItem_68 : decode (mC Y_X3_readItem) 68 = .ok (.iaload, 1) := by decide +kernel
theorem dX3_readItem_69 : decode (mC Y_X3_readItem) 69 = .ok (.getstatic 50, 3) := by decide +kernel
theorem dX3_readItem_72 : decode (mC Y_X3_readItem) 72 = .ok (.iload_n 3, 1) := by decide +kernel
theorem dX3_readItem_73 : decode (mC Y_X3_readItem) 73 = .ok (.iaload, 1) := by decide +kernel
theorem dX3_readItem_74 : decode (mC Y_X3_readItem) 74 = .ok (.invokestatic 53, 3) := by decide +kernel
theorem dX3_readItem_77 : decode (mC Y_X3_readItem) 77 = .ok (.ifCond .ne 16, 3) := by decide +kernel
theorem dX3_readItem_80 : decode (mC Y_X3_readItem) 80 = .ok (.aload_n 0, 1) := by decide +kernel
theorem dX3_readItem_81 : decode (mC Y_X3_readItem) 81 = .ok (.iload_n 2, 1) := by decide +kernel
theorem dX3_readItem_82 : decode (mC Y_X3_readItem) 82 = .ok (.iload 4, 2) := by decide +kernel
theorem dX3_readItem_84 : decode (mC Y_X3_readItem) 84 = .ok (.iadd, 1) := by decide +kernel
theorem dX3_readItem_85 : decode (mC Y_X3_readItem) 85 = .ok (.invokevirtual 36, 3) := by decide +kernel
theorem dX3_readItem_88 : decode (mC Y_X3_readItem) 88 = .ok (.iload 6, 2) := by decide +kernel
theorem dX3_readItem_90 : decode (mC Y_X3_readItem) 90 = .ok (.if_icmp .eq 6, 3) := by decide +kernel
theorem dX3_readItem_93 : decode (mC Y_X3_readItem) 93 = .ok (.bipush (-4), 2) := by decide +kernel
theorem dX3_readItem_95 : decode (mC Y_X3_readItem) 95 = .ok (.ireturn, 1) := by decide +kernel
theorem dX3_readItem_96 : decode (mC Y_X3_readItem) 96 = .ok (.aload_n 0, 1) := by decide +kernel
theorem dX3_readItem_97 : decode (mC Y_X3_readItem) 97 = .ok (.getfield 15, 3) := by decide +kernel
theorem dX3_readItem_100 : decode (mC Y_X3_readItem) 100 = .ok (.iload_n 3, 1) := by decide +kernel
theorem dX3_readItem_101 : decode (mC Y_X3_readItem) 101 = .ok (.iload 5, 2) := by decide +kernel
theorem dX3_readItem_103 : decode (mC Y_X3_readItem) 103 = .ok (.iastore, 1) := by decide +kernel
theorem dX3_readItem_104 : decode (mC Y_X3_readItem) 104 = .ok (.iload_n 2, 1) := by decide +kernel
theorem dX3_readItem_105 : decode (mC Y_X3_readItem) 105 = .ok (.iload 4, 2) := by decide +kernel
theorem dX3_readItem_107 : decode (mC Y_X3_readItem) 107 = .ok (.iconst 1, 1) := by decide +kernel
theorem dX3_readItem_108 : decode (mC Y_X3_readItem) 108 = .ok (.iadd, 1) := by decide +kernel
theorem dX3_readItem_109 : decode (mC Y_X3_readItem) 109 = .ok (.iadd, 1) := by decide +kernel
theorem dX3_readItem_110 : decode (mC Y_X3_readItem) 110 = .ok (.istore_n 2, 1) := by decide +kernel
theorem dX3_readItem_111 : decode (mC Y_X3_readItem) 111 = .ok (.iinc 3 1, 3) := by decide +kernel
theorem dX3_readItem_114 : decode (mC Y_X3_readItem) 114 = .ok (.goto (-95), 3) := by decide +kernel
theorem dX3_readItem_117 : decode (mC Y_X3_readItem) 117 = .ok (.iload_n 2, 1) := by decide +kernel
theorem dX3_readItem_118 : decode (mC Y_X3_readItem) 118 = .ok (.ireturn, 1) := by decide +kernel
theorem dX3_readInto_0 : decode (mC Y_X3_readInto) 0 = .ok (.aload_n 1, 1) := by decide +kernel
theorem dX3_readInto_1 : decode (mC Y_X3_readInto) 1 = .ok (.invokevirtual 23, 3) := by decide +kernel
theorem dX3_readInto_4 : decode (mC Y_X3_readInto) 4 = .ok (.iconst 0, 1) := by decide +kernel
theorem dX3_readInto_5 : decode (mC Y_X3_readInto) 5 = .ok (.istore_n 2, 1) := by decide +kernel
theorem dX3_readInto_6 : decode (mC Y_X3_readInto) 6 = .ok (.iconst 0, 1) := by decide +kernel
theorem dX3_readInto_7 : decode (mC Y_X3_readInto) 7 = .ok (.istore_n 3, 1) := by decide +kernel
theorem dX3_readInto_8 : decode (mC Y_X3_readInto) 8 = .ok (.iload_n 3, 1) := by decide +kernel
theorem dX3_readInto_9 : decode (mC Y_X3_readInto) 9 = .ok (.bipush 7, 2) := by decide +kernel
theorem dX3_readInto_11 : decode (mC Y_X3_readInto) 11 = .ok (.if_icmp .gt 81, 3) := by decide +kernel
theorem dX3_readInto_14 : decode (mC Y_X3_readInto) 14 = .ok (.iload_n 2, 1) := by decide +kernel
theorem dX3_readInto_15 : decode (mC Y_X3_readInto) 15 = .ok (.aload_n 0, 1) := by decide +kernel
theorem dX3_readInto_16 : decode (mC Y_X3_readInto) 16 = .ok (.getfield 19, 3) := by decide +kernel
theorem dX3_readInto_19 : decode (mC Y_X3_readInto) 19 = .ok (.if_icmp .ge 73, 3) := by decide +kernel
theorem dX3_readInto_22 : decode (mC Y_X3_readInto) 22 = .ok (.iload_n 3, 1) := by decide +kernel
theorem dX3_readInto_23 : decode (mC Y_X3_readInto) 23 = .ok (.bipush 7, 2) := by decide +kernel
theorem dX3_readInto_25 : decode (mC Y_X3_readInto) 25 = .ok (.if_icmp .ge 11, 3) := by decide +kernel
theorem dX3_readInto_28 : decode (mC Y_X3_readInto) 28 = .ok (.aload_n 0, 1) := by decide +kernel
theorem dX3_readInto_29 : decode (mC Y_X3_readInto) 29 = .ok (.iload_n 2, 1) := by decide +kernel
theorem dX3_readInto_30 : decode (mC Y_X3_readInto) 30 = .ok (.invokevirtual 28, 3) := by decide +kernel
theorem dX3_readInto_33 : decode (mC Y_X3_readInto) 33 = .ok (.goto 5, 3) := by decide +kernel
theorem dX3_readInto_36 : decode (mC Y_X3_readInto) 36 = .ok (.bipush (-4), 2) := by decide +kernel
theorem dX3_readInto_38 : decode (mC Y_X3_readInto) 38 = .ok (.istore 4, 2) := by decide +kernel
theorem dX3_readInto_40 : decode (mC Y_X3_readInto) 40 = .ok (.iload 4, 2) := by decide +kernel
theorem dX3_readInto_42 : decode (mC Y_X3_readInto) 42 = .ok (.bipush (-4), 2) := by decide +kernel
theorem dX3_readInto_44 : decode (mC Y_X3_readInto) 44 = .ok (.if_icmp .ne 5, 3) := by decide +kernel
theorem dX3_readInto_47 : decode (mC Y_X3_readInto) 47 = .ok (.iload_n 2, 1) := by decide +kernel
theorem dX3_readInto_48 : decode (mC Y_X3_readInto) 48 = .ok (.ireturn, 1) := by decide +kernel
theorem dX3_readInto_49 : decode (mC Y_X3_readInto) 49 = .ok (.aload_n 1, 1) := by decide +kernel
theorem dX3_readInto_50 : decode (mC Y_X3_readInto) 50 = .ok (.aload_n 0, 1) := by decide +kernel
theorem dX3_readInto_51 : decode (mC Y_X3_readInto) 51 = .ok (.getfield 15, 3) := by decide +kernel
theorem dX3_readInto_54 : decode (mC Y_X3_readInto) 54 = .ok (.iconst 0, 1) := by decide +kernel
theorem dX3_readInto_55 : decode (mC Y_X3_readInto) 55 = .ok (.iaload, 1) := by decide +kernel
theorem dX3_readInto_56 : decode (mC Y_X3_readInto) 56 = .ok (.aload_n 0, 1) := by decide +kernel
theorem dX3_readInto_57 : decode (mC Y_X3_readInto) 57 = .ok (.getfield 15, 3) := by decide +kernel
theorem dX3_readInto_60 : decode (mC Y_X3_readInto) 60 = .ok (.iconst 1, 1) := by decide +kernel
theorem dX3_readInto_61 : decode (mC Y_X3_readInto) 61 = .ok (.iaload, 1) := by decide +kernel
theorem dX3_readInto_62 : decode (mC Y_X3_readInto) 62 = .ok (.aload_n 0, 1) := by decide +kernel
theorem dX3_readInto_63 : decode (mC Y_X3_readInto) 63 = .ok (.getfield 15, 3) := by decide +kernel
theorem dX3_readInto_66 : decode (mC Y_X3_readInto) 66 = .ok (.iconst 2, 1) := by decide +kernel
theorem dX3_readInto_67 : decode (mC Y_X3_readInto) 67 = .ok (.iaload, 1) := by decide +kernel
theorem dX3_readInto_68 : decode (mC Y_X3_readInto) 68 = .ok (.aload_n 0, 1) := by decide +kernel
theorem dX3_readInto_69 : decode (mC Y_X3_readInto) 69 = .ok (.getfield 15, 3) := by decide +kernel
theorem dX3_readInto_72 : decode (mC Y_X3_readInto) 72 = .ok (.iconst 3, 1) := by decide +kernel
theorem dX3_readInto_73 : decode (mC Y_X3_readInto) 73 = .ok (.iaload, 1) := by decide +kernel
theorem dX3_readInto_74 : decode (mC Y_X3_readInto) 74 = .ok (.aload_n 0, 1) := by decide +kernel
theorem dX3_readInto_75 : decode (mC Y_X3_readInto) 75 = .ok (.getfield 15, 3) := by decide +kernel
theorem dX3_readInto_78 : decode (mC Y_X3_readInto) 78 = .ok (.iconst 4, 1) := by decide +kernel
theorem dX3_readInto_79 : decode (mC Y_X3_readInto) 79 = .ok (.iaload, 1) := by decide +kernel
theorem dX3_readInto_80 : decode (mC Y_X3_readInto) 80 = .ok (.invokevirtual 32, 3) := by decide +kernel
theorem dX3_readInto_83 : decode (mC Y_X3_readInto) 83 = .ok (.iload 4, 2) := by decide +kernel
theorem dX3_readInto_85 : decode (mC Y_X3_readInto) 85 = .ok (.istore_n 2, 1) := by decide +kernel
theorem dX3_readInto_86 : decode (mC Y_X3_readInto) 86 = .ok (.iinc 3 1, 3) := by decide +kernel
theorem dX3_readInto_89 : decode (mC Y_X3_readInto) 89 = .ok (.goto (-81), 3) := by decide +kernel
theorem dX3_readInto_92 : decode (mC Y_X3_readInto) 92 = .ok (.bipush (-4), 2) := by decide +kernel
theorem dX3_readInto_94 : decode (mC Y_X3_readInto) 94 = .ok (.ireturn, 1) := by decide +kernel
theorem ct_X3_init {D : DT} {l : Launch} {m : Mem} {x0 : Nat} {r : Mem} (h : F_X3_init x0 m = some r) : Ct D l Y_X3_init [.ref x0] m (fun (v : Option Value) (N : Mem) => v = none ∧ N = r) := by
  refine ct_of (by decide) (by rfl) (ls0 := [.ref x0]) rfl rfl ?_
  have h : HV (F_X3_init x0 m) (fun (v : Option Value) (N : Mem) => v = none ∧ N = r) := ⟨r, h, rfl, rfl⟩
  revert h
  generalize (fun (v : Option Value) (N : Mem) => v = none ∧ N = r) = post
  intro h
  refine wp_aload_n (i := 0) dX3_init_0 rfl rfl ?_
  obtain ⟨v1, ev1, h⟩ := HV.bind h
  refine wp_objInit ml_X3_3 objw1 objw2 dX3_init_1 (chkT_lt ev1 (by decide)) (Nat.le_of_ble_eq_true rfl) (Nat.le_of_ble_eq_true rfl) ?_
  refine wp_aload_n (i := 0) dX3_init_4 rfl rfl ?_
  refine wp_sipush (v := 200) dX3_init_5 (by decide) ?_
  refine wp_newC (N := 200) aw_char dX3_init_8 (by decide) (by decide) (by decide) (Nat.le_of_ble_eq_true rfl) (Nat.le_of_ble_eq_true rfl) ?_
  obtain ⟨m2, em2, h⟩ := HV.bind h
  refine wp_putR cl3 (f := 0) (by decide) rfl fl_X3_11 (Or.inr ⟨rfl, rfl⟩) dX3_init_10 em2 ?_
  refine wp_aload_n (i := 0) dX3_init_13 rfl rfl ?_
  refine wp_iconst (v := 5) dX3_init_14 (by decide) ?_
  refine wp_newI (N := 5) aw_int dX3_init_15 (by decide) (by decide) (by decide) (Nat.le_of_ble_eq_true rfl) (Nat.le_of_ble_eq_true rfl) ?_
  obtain ⟨m3, em3, h⟩ := HV.bind h
  refine wp_putR cl3 (f := 1) (by decide) rfl fl_X3_15 (Or.inr ⟨rfl, rfl⟩) dX3_init_17 em3 ?_
  refine wp_aload_n (i := 0) dX3_init_20 rfl rfl ?_
  refine wp_iconst (v := 0) dX3_init_21 (by decide) ?_
  obtain ⟨m4, em4, h⟩ := HV.bind h
  refine wp_putI cl3 (f := 2) (by decide) rfl fl_X3_19 (Or.inl rfl) dX3_init_22 em4 ?_
  exact wp_vret dX3_init_25 rfl (Nat.le_of_ble_eq_true rfl) (Nat.le_of_ble_eq_true rfl) (HV.some h)
theorem w_X6_outside_10 {D : DT} {l : Launch} {post : Option Value → Mem → Prop} {m : Mem}  (h : PI m (F_X6_outside_10 ) post) : WP D l Y_X6_outside 0 0 10 [JK, JK, JK] [] m post := by
  refine wp_iconst (v := 1) dX6_outside_10 (by decide) ?_
  refine wp_goto (tgt := 15) dX6_outside_11 (by decide) ?_
  exact wp_iret dX6_outside_15 rfl (by decide) (Nat.le_of_ble_eq_true rfl) (Nat.le_of_ble_eq_true rfl) (PI.some h)
theorem ct_X6_outside {D : DT} {l : Launch} {m : Mem} {x0 : Int32} {x1 : Int32} {x2 : Int32} {r : Int32} (h : F_X6_outside x0 x1 x2 = some r) : Ct D l Y_X6_outside [.int x0, .int x1, .int x2] m (fun (v : Option Value) (N : Mem) => v = some (Value.int r) ∧ N = m) := by
  refine ct_of (by decide) (by rfl) (ls0 := [.int x0, .int x1, .int x2]) rfl rfl ?_
  have h : PI m (F_X6_outside x0 x1 x2) (fun (v : Option Value) (N : Mem) => v = some (Value.int r) ∧ N = m) := ⟨r, h, rfl, rfl⟩
  revert h
  generalize (fun (v : Option Value) (N : Mem) => v = some (Value.int r) ∧ N = m) = post
  intro h
  refine wp_iload_n (i := 0) dX6_outside_0 rfl rfl ?_
  refine wp_iload_n (i := 1) dX6_outside_1 rfl rfl ?_
  refine wp_icmp_lt (tgt := 10) dX6_outside_2 (by decide) (fun c1 => ?_) (fun c1 => ?_)
  · have h := PI.t c1 h
    exact wp_weak [false, false, false] (w_X6_outside_10 h)
  · have h := PI.f c1 h
    refine wp_iload_n (i := 0) dX6_outside_5 rfl rfl ?_
    refine wp_iload_n (i := 2) dX6_outside_6 rfl rfl ?_
    refine wp_icmp_le (tgt := 14) dX6_outside_7 (by decide) (fun c2 => ?_) (fun c2 => ?_)
    · have h := PI.t c2 h
      refine wp_iconst (v := 0) dX6_outside_14 (by decide) ?_
      exact wp_iret dX6_outside_15 rfl (by decide) (Nat.le_of_ble_eq_true rfl) (Nat.le_of_ble_eq_true rfl) (PI.some h)
    · have h := PI.f c2 h
      exact wp_weak [false, false, false] (w_X6_outside_10 h)
theorem ct_X3_append {D : DT} {l : Launch} {m : Mem} {x0 : Nat} {x1 : Int32} {r : (Int32 × Mem)} (h : F_X3_append x0 x1 m = some r) : Ct D l Y_X3_append [.ref x0, .int x1] m (fun (v : Option Value) (N : Mem) => v = some (Value.int r.1) ∧ N = r.2) := by
  refine ct_of (by decide) (by rfl) (ls0 := [.ref x0, .int x1]) rfl rfl ?_
  have h : HI (F_X3_append x0 x1 m) (fun (v : Option Value) (N : Mem) => v = some (Value.int r.1) ∧ N = r.2) := ⟨r.1, r.2, h, rfl, rfl⟩
  revert h
  generalize (fun (v : Option Value) (N : Mem) => v = some (Value.int r.1) ∧ N = r.2) = post
  intro h
  refine wp_aload_n (i := 0) dX3_append_0 rfl rfl ?_
  obtain ⟨v1, ev1, h⟩ := HI.bind h
  refine wp_getI cl3 (f := 2) (by decide) rfl fl_X3_19 dX3_append_1 ev1 ?_
  refine wp_sipush (v := 200) dX3_append_4 (by decide) ?_
  refine wp_icmp_lt (tgt := 12) dX3_append_7 (by decide) (fun c2 => ?_) (fun c2 => ?_)
  · have h := HI.t c2 h
    refine wp_aload_n (i := 0) dX3_append_12 rfl rfl ?_
    obtain ⟨v3, ev3, h⟩ := HI.bind h
    refine wp_getR cl3 (f := 0) (by decide) rfl fl_X3_11 dX3_append_13 ev3 ?_
    refine wp_aload_n (i := 0) dX3_append_16 rfl rfl ?_
    obtain ⟨v4, ev4, h⟩ := HI.bind h
    refine wp_getI cl3 (f := 2) (by decide) rfl fl_X3_19 dX3_append_17 ev4 ?_
    refine wp_iload_n (i := 1) dX3_append_20 rfl rfl ?_
    obtain ⟨m5, em5, h⟩ := HI.bind h
    refine wp_castore dX3_append_21 em5 ?_
    refine wp_aload_n (i := 0) dX3_append_22 rfl rfl ?_
    refine wp_dup dX3_append_23 rfl ?_
    obtain ⟨v6, ev6, h⟩ := HI.bind h
    refine wp_getI cl3 (f := 2) (by decide) rfl fl_X3_19 dX3_append_24 ev6 ?_
    refine wp_iconst (v := 1) dX3_append_27 (by decide) ?_
    refine wp_iadd dX3_append_28 ?_
    obtain ⟨m7, em7, h⟩ := HI.bind h
    refine wp_putI cl3 (f := 2) (by decide) rfl fl_X3_19 (Or.inl rfl) dX3_append_29 em7 ?_
    refine wp_iconst (v := 1) dX3_append_32 (by decide) ?_
    exact wp_iret dX3_append_33 rfl (by decide) (Nat.le_of_ble_eq_true rfl) (Nat.le_of_ble_eq_true rfl) (HI.some h)
  · have h := HI.f c2 h
    refine wp_iconst (v := 0) dX3_append_10 (by decide) ?_
    exact wp_iret dX3_append_11 rfl (by decide) (Nat.le_of_ble_eq_true rfl) (Nat.le_of_ble_eq_true rfl) (HI.some h)
theorem ct_X3_length {D : DT} {l : Launch} {m : Mem} {x0 : Nat} {r : Int32} (h : F_X3_length x0 m = some r) : Ct D l Y_X3_length [.ref x0] m (fun (v : Option Value) (N : Mem) => v = some (Value.int r) ∧ N = m) := by
  refine ct_of (by decide) (by rfl) (ls0 := [.ref x0]) rfl rfl ?_
  have h : PI m (F_X3_length x0 m) (fun (v : Option Value) (N : Mem) => v = some (Value.int r) ∧ N = m) := ⟨r, h, rfl, rfl⟩
  revert h
  generalize (fun (v : Option Value) (N : Mem) => v = some (Value.int r) ∧ N = m) = post
  intro h
  refine wp_aload_n (i := 0) dX3_length_0 rfl rfl ?_
  obtain ⟨v1, ev1, h⟩ := PI.bind h
  refine wp_getI cl3 (f := 2) (by decide) rfl fl_X3_19 dX3_length_1 ev1 ?_
  exact wp_iret dX3_length_4 rfl rfl (Nat.le_of_ble_eq_true rfl) (Nat.le_of_ble_eq_true rfl) (PI.some h)
theorem ct_X3_empty {D : DT} {l : Launch} {m : Mem} {x0 : Nat} {r : (Int32 × Mem)} (h : F_X3_empty x0 m = some r) : Ct D l Y_X3_empty [.ref x0] m (fun (v : Option Value) (N : Mem) => v = some (Value.int r.1) ∧ N = r.2) := by
  refine ct_of (by decide) (by rfl) (ls0 := [.ref x0, JK]) rfl rfl ?_
  have h : HI (F_X3_empty x0 m) (fun (v : Option Value) (N : Mem) => v = some (Value.int r.1) ∧ N = r.2) := ⟨r.1, r.2, h, rfl, rfl⟩
  revert h
  generalize (fun (v : Option Value) (N : Mem) => v = some (Value.int r.1) ∧ N = r.2) = post
  intro h
  refine wp_aload_n (i := 0) dX3_empty_0 rfl rfl ?_
  obtain ⟨v1, ev1, h⟩ := HI.bind h
  refine wp_getI cl3 (f := 2) (by decide) rfl fl_X3_19 dX3_empty_1 ev1 ?_
  refine wp_istore_n (i := 1) dX3_empty_4 rfl rfl rfl ?_
  refine wp_aload_n (i := 0) dX3_empty_5 rfl rfl ?_
  refine wp_iconst (v := 0) dX3_empty_6 (by decide) ?_
  obtain ⟨m2, em2, h⟩ := HI.bind h
  refine wp_putI cl3 (f := 2) (by decide) rfl fl_X3_19 (Or.inl rfl) dX3_empty_7 em2 ?_
  refine wp_iload_n (i := 1) dX3_empty_10 rfl rfl ?_
  exact wp_iret dX3_empty_11 rfl rfl (Nat.le_of_ble_eq_true rfl) (Nat.le_of_ble_eq_true rfl) (HI.some h)
theorem ct_X3_letterAt {D : DT} {l : Launch} {m : Mem} {x0 : Nat} {x1 : Int32} {r : Int32} (h : F_X3_letterAt x0 x1 m = some r) : Ct D l Y_X3_letterAt [.ref x0, .int x1] m (fun (v : Option Value) (N : Mem) => v = some (Value.int r) ∧ N = m) := by
  refine ct_of (by decide) (by rfl) (ls0 := [.ref x0, .int x1]) rfl rfl ?_
  have h : PI m (F_X3_letterAt x0 x1 m) (fun (v : Option Value) (N : Mem) => v = some (Value.int r) ∧ N = m) := ⟨r, h, rfl, rfl⟩
  revert h
  generalize (fun (v : Option Value) (N : Mem) => v = some (Value.int r) ∧ N = m) = post
  intro h
  refine wp_iload_n (i := 1) dX3_letterAt_0 rfl rfl ?_
  refine wp_iconst (v := 0) dX3_letterAt_1 (by decide) ?_
  refine wp_aload_n (i := 0) dX3_letterAt_2 rfl rfl ?_
  obtain ⟨v1, ev1, h⟩ := PI.bind h
  refine wp_getI cl3 (f := 2) (by decide) rfl fl_X3_19 dX3_letterAt_3 ev1 ?_
  refine wp_iconst (v := 1) dX3_letterAt_6 (by decide) ?_
  refine wp_isub dX3_letterAt_7 ?_
  obtain ⟨v2, ev2, h⟩ := PI.bind h
  refine cgSN_i (Y' := Y_X6_outside) (kc2 := 0) (ks2 := 0) dX3_letterAt_8 nl_X3_53 ce_X6_outside ⟨(Nat.le_of_ble_eq_true rfl), (Nat.le_of_ble_eq_true rfl)⟩ ⟨(Nat.le_of_ble_eq_true rfl), (Nat.le_of_ble_eq_true rfl)⟩ rfl rfl (ct_X6_outside ev2) rfl rfl (Nat.le_of_ble_eq_true rfl) ?_
  refine wp_if_eq (tgt := 18) dX3_letterAt_11 (by decide) (fun c3 => ?_) (fun c3 => ?_)
  · have h := PI.t c3 h
    refine wp_aload_n (i := 0) dX3_letterAt_18 rfl rfl ?_
    obtain ⟨v4, ev4, h⟩ := PI.bind h
    refine wp_getR cl3 (f := 0) (by decide) rfl fl_X3_11 dX3_letterAt_19 ev4 ?_
    refine wp_iload_n (i := 1) dX3_letterAt_22 rfl rfl ?_
    obtain ⟨v5, ev5, h⟩ := PI.bind h
    refine wp_caload dX3_letterAt_23 ev5 ?_
    obtain ⟨v6, ev6, h⟩ := PI.bind h
    exact wp_iret dX3_letterAt_24 rfl (rN_of ev6) (Nat.le_of_ble_eq_true rfl) (Nat.le_of_ble_eq_true rfl) (PI.some h)
  · have h := PI.f c3 h
    refine wp_iconst (v := 0) dX3_letterAt_14 (by decide) ?_
    refine wp_goto (tgt := 24) dX3_letterAt_15 (by decide) ?_
    exact wp_iret dX3_letterAt_24 rfl (by decide) (Nat.le_of_ble_eq_true rfl) (Nat.le_of_ble_eq_true rfl) (PI.some h)
theorem ct_X3_isFigure {D : DT} {l : Launch} {m : Mem} {x0 : Int32} {r : Int32} (h : F_X3_isFigure x0 = some r) : Ct D l Y_X3_isFigure [.int x0] m (fun (v : Option Value) (N : Mem) => v = some (Value.int r) ∧ N = m) := by
  refine ct_of (by decide) (by rfl) (ls0 := [.int x0]) rfl rfl ?_
  have h : PI m (F_X3_isFigure x0) (fun (v : Option Value) (N : Mem) => v = some (Value.int r) ∧ N = m) := ⟨r, h, rfl, rfl⟩
  revert h
  generalize (fun (v : Option Value) (N : Mem) => v = some (Value.int r) ∧ N = m) = post
  intro h
  refine wp_iload_n (i := 0) dX3_isFigure_0 rfl rfl ?_
  refine wp_bipush (v := 48) dX3_isFigure_1 (by decide) ?_
  refine wp_icmp_lt (tgt := 16) dX3_isFigure_3 (by decide) (fun c1 => ?_) (fun c1 => ?_)
  · have h := PI.t c1 h
    refine wp_iconst (v := 0) dX3_isFigure_16 (by decide) ?_
    exact wp_iret dX3_isFigure_17 rfl (by decide) (Nat.le_of_ble_eq_true rfl) (Nat.le_of_ble_eq_true rfl) (PI.some h)
  · have h := PI.f c1 h
    refine wp_iload_n (i := 0) dX3_isFigure_6 rfl rfl ?_
    refine wp_bipush (v := 57) dX3_isFigure_7 (by decide) ?_
    refine wp_icmp_gt (tgt := 16) dX3_isFigure_9 (by decide) (fun c2 => ?_) (fun c2 => ?_)
    · have h := PI.t c2 h
      refine wp_iconst (v := 0) dX3_isFigure_16 (by decide) ?_
      exact wp_iret dX3_isFigure_17 rfl (by decide) (Nat.le_of_ble_eq_true rfl) (Nat.le_of_ble_eq_true rfl) (PI.some h)
    · have h := PI.f c2 h
      refine wp_iconst (v := 1) dX3_isFigure_12 (by decide) ?_
      refine wp_goto (tgt := 17) dX3_isFigure_13 (by decide) ?_
      exact wp_iret dX3_isFigure_17 rfl (by decide) (Nat.le_of_ble_eq_true rfl) (Nat.le_of_ble_eq_true rfl) (PI.some h)
theorem ct_X3_figuresAt {D : DT} {l : Launch} {m : Mem} {x0 : Nat} {x1 : Int32} {r : Int32} (h : F_X3_figuresAt x0 x1 m = some r) : Ct D l Y_X3_figuresAt [.ref x0, .int x1] m (fun (v : Option Value) (N : Mem) => v = some (Value.int r) ∧ N = m) := by
  refine ct_of (by decide) (by rfl) (ls0 := [.ref x0, .int x1]) rfl rfl ?_
  have h : PI m (F_X3_figuresAt x0 x1 m) (fun (v : Option Value) (N : Mem) => v = some (Value.int r) ∧ N = m) := ⟨r, h, rfl, rfl⟩
  revert h
  generalize (fun (v : Option Value) (N : Mem) => v = some (Value.int r) ∧ N = m) = post
  intro h
  refine wp_aload_n (i := 0) dX3_figuresAt_0 rfl rfl ?_
  refine wp_iload_n (i := 1) dX3_figuresAt_1 rfl rfl ?_
  obtain ⟨v2, ev2, h⟩ := PI.bind h
  obtain ⟨v1, ev1, h⟩ := PI.bind h
  refine cgV_i (Y' := Y_X3_letterAt) (kc2 := 0) (ks2 := 0) dX3_figuresAt_2 ml_X3_36 ce_X3_letterAt (t := 3) rfl (by decide) ⟨(Nat.le_of_ble_eq_true rfl), (Nat.le_of_ble_eq_true rfl)⟩ ⟨(Nat.le_of_ble_eq_true rfl), (Nat.le_of_ble_eq_true rfl)⟩ rfl rfl (chkT_eq ev2) (ct_X3_letterAt ev1) rfl rfl (Nat.le_of_ble_eq_true rfl) ?_
  obtain ⟨v3, ev3, h⟩ := PI.bind h
  refine cgS_i (Y' := Y_X3_isFigure) (kc2 := 0) (ks2 := 0) dX3_figuresAt_5 ml_X3_57 ce_X3_isFigure ⟨(Nat.le_of_ble_eq_true rfl), (Nat.le_of_ble_eq_true rfl)⟩ ⟨(Nat.le_of_ble_eq_true rfl), (Nat.le_of_ble_eq_true rfl)⟩ rfl rfl (ct_X3_isFigure ev3) rfl rfl (Nat.le_of_ble_eq_true rfl) ?_
  refine wp_if_ne (tgt := 13) dX3_figuresAt_8 (by decide) (fun c4 => ?_) (fun c4 => ?_)
  · have h := PI.f c4 h
    refine wp_aload_n (i := 0) dX3_figuresAt_13 rfl rfl ?_
    refine wp_iload_n (i := 1) dX3_figuresAt_14 rfl rfl ?_
    refine wp_iconst (v := 1) dX3_figuresAt_15 (by decide) ?_
    refine wp_iadd dX3_figuresAt_16 ?_
    obtain ⟨v6, ev6, h⟩ := PI.bind h
    obtain ⟨v5, ev5, h⟩ := PI.bind h
    refine cgV_i (Y' := Y_X3_letterAt) (kc2 := 0) (ks2 := 0) dX3_figuresAt_17 ml_X3_36 ce_X3_letterAt (t := 3) rfl (by decide) ⟨(Nat.le_of_ble_eq_true rfl), (Nat.le_of_ble_eq_true rfl)⟩ ⟨(Nat.le_of_ble_eq_true rfl), (Nat.le_of_ble_eq_true rfl)⟩ rfl rfl (chkT_eq ev6) (ct_X3_letterAt ev5) rfl rfl (Nat.le_of_ble_eq_true rfl) ?_
    obtain ⟨v7, ev7, h⟩ := PI.bind h
    refine cgS_i (Y' := Y_X3_isFigure) (kc2 := 0) (ks2 := 0) dX3_figuresAt_20 ml_X3_57 ce_X3_isFigure ⟨(Nat.le_of_ble_eq_true rfl), (Nat.le_of_ble_eq_true rfl)⟩ ⟨(Nat.le_of_ble_eq_true rfl), (Nat.le_of_ble_eq_true rfl)⟩ rfl rfl (ct_X3_isFigure ev7) rfl rfl (Nat.le_of_ble_eq_true rfl) ?_
    refine wp_if_eq (tgt := 30) dX3_figuresAt_23 (by decide) (fun c8 => ?_) (fun c8 => ?_)
    · have h := PI.t c8 h
      refine wp_iconst (v := 1) dX3_figuresAt_30 (by decide) ?_
      exact wp_iret dX3_figuresAt_31 rfl rfl (Nat.le_of_ble_eq_true rfl) (Nat.le_of_ble_eq_true rfl) (PI.some h)
    · have h := PI.f c8 h
      refine wp_iconst (v := 2) dX3_figuresAt_26 (by decide) ?_
      refine wp_goto (tgt := 31) dX3_figuresAt_27 (by decide) ?_
      exact wp_iret dX3_figuresAt_31 rfl rfl (Nat.le_of_ble_eq_true rfl) (Nat.le_of_ble_eq_true rfl) (PI.some h)
  · have h := PI.t c4 h
    refine wp_iconst (v := 0) dX3_figuresAt_11 (by decide) ?_
    exact wp_iret dX3_figuresAt_12 rfl rfl (Nat.le_of_ble_eq_true rfl) (Nat.le_of_ble_eq_true rfl) (PI.some h)
theorem w_X3_numberAt_5 {D : DT} {l : Launch} {post : Option Value → Mem → Prop} {m : Mem} : ∀ (n : Nat) (x0 : Nat) (x1 : Int32) (x2 : Int32) (x3 : Int32) (x4 : Int32), PI m (F_X3_numberAt_5 m n x0 x1 x2 x3 x4) post → WP D l Y_X3_numberAt 0 0 5 [.ref x0, .int x1, .int x2, .int x3, .int x4] [] m post := by
  intro n
  induction n with
  | zero => intro x0 x1 x2 x3 x4 h; exact (PI.none h).elim
  | succ n ih =>
    intro x0 x1 x2 x3 x4 h
    refine wp_iload dX3_numberAt_5 rfl ?_
    refine wp_iload_n (i := 2) dX3_numberAt_7 rfl rfl ?_
    refine wp_icmp_ge (tgt := 34) dX3_numberAt_8 (by decide) (fun c1 => ?_) (fun c1 => ?_)
    · have h := PI.t c1 h
      refine wp_iload_n (i := 3) dX3_numberAt_34 rfl rfl ?_
      exact wp_iret dX3_numberAt_35 rfl rfl (Nat.le_of_ble_eq_true rfl) (Nat.le_of_ble_eq_true rfl) (PI.some h)
    · have h := PI.f c1 h
      refine wp_bipush (v := 10) dX3_numberAt_11 (by decide) ?_
      refine wp_iload_n (i := 3) dX3_numberAt_13 rfl rfl ?_
      refine wp_imul dX3_numberAt_14 ?_
      refine wp_aload_n (i := 0) dX3_numberAt_15 rfl rfl ?_
      refine wp_iload_n (i := 1) dX3_numberAt_16 rfl rfl ?_
      refine wp_iload dX3_numberAt_17 rfl ?_
      refine wp_iadd dX3_numberAt_19 ?_
      obtain ⟨v3, ev3, h⟩ := PI.bind h
      obtain ⟨v2, ev2, h⟩ := PI.bind h
      refine cgV_i (Y' := Y_X3_letterAt) (kc2 := 0) (ks2 := 0) dX3_numberAt_20 ml_X3_36 ce_X3_letterAt (t := 3) rfl (by decide) ⟨(Nat.le_of_ble_eq_true rfl), (Nat.le_of_ble_eq_true rfl)⟩ ⟨(Nat.le_of_ble_eq_true rfl), (Nat.le_of_ble_eq_true rfl)⟩ rfl rfl (chkT_eq ev3) (ct_X3_letterAt ev2) rfl rfl (Nat.le_of_ble_eq_true rfl) ?_
      refine wp_bipush (v := 48) dX3_numberAt_23 (by decide) ?_
      refine wp_isub dX3_numberAt_25 ?_
      refine wp_iadd dX3_numberAt_26 ?_
      refine wp_istore_n (i := 3) dX3_numberAt_27 rfl rfl rfl ?_
      refine wp_iinc (v := 1) dX3_numberAt_28 rfl (by decide) rfl rfl ?_
      refine wp_goto (tgt := 5) dX3_numberAt_31 (by decide) ?_
      exact (ih _ _ _ _ _ h)
theorem ct_X3_numberAt {D : DT} {l : Launch} {m : Mem} {x0 : Nat} {x1 : Int32} {x2 : Int32} {r : Int32} (h : F_X3_numberAt x0 x1 x2 m = some r) : Ct D l Y_X3_numberAt [.ref x0, .int x1, .int x2] m (fun (v : Option Value) (N : Mem) => v = some (Value.int r) ∧ N = m) := by
  refine ct_of (by decide) (by rfl) (ls0 := [.ref x0, .int x1, .int x2, JK, JK]) rfl rfl ?_
  have h : PI m (F_X3_numberAt x0 x1 x2 m) (fun (v : Option Value) (N : Mem) => v = some (Value.int r) ∧ N = m) := ⟨r, h, rfl, rfl⟩
  revert h
  generalize (fun (v : Option Value) (N : Mem) => v = some (Value.int r) ∧ N = m) = post
  intro h
  refine wp_iconst (v := 0) dX3_numberAt_0 (by decide) ?_
  refine wp_istore_n (i := 3) dX3_numberAt_1 rfl rfl rfl ?_
  refine wp_iconst (v := 0) dX3_numberAt_2 (by decide) ?_
  refine wp_istore dX3_numberAt_3 rfl rfl ?_
  exact (w_X3_numberAt_5 _ _ _ _ _ _ h)
theorem w_X3_readItem_60 {D : DT} {l : Launch} {post : Option Value → Mem → Prop} {r19 : Nat → Int32 → Int32 → Mem → Option (Int32 × Mem)} (hr19 : ∀ (x0 : Nat) (x2 : Int32) (x3 : Int32) (m : Mem), HI (r19 x0 x2 x3 m) post → WP D l Y_X3_readItem 0 0 19 [.ref x0, JK, .int x2, .int x3, JK, JK, JK] [] m post) {x0 : Nat} {x2 : Int32} {x3 : Int32} {x4 : Int32} {x5 : Int32} {s0 : Int32} {m : Mem} (h : HI (F_X3_readItem_60 r19 x0 x2 x3 x4 x5 s0 m) post) : WP D l Y_X3_readItem 0 0 60 [.ref x0, JK, .int x2, .int x3, .int x4, .int x5, JK] [.int s0] m post := by
  refine wp_istore dX3_readItem_60 rfl rfl ?_
  refine wp_iload dX3_readItem_62 rfl ?_
  refine wp_gets3 fl_X3_47 dX3_readItem_64 ?_
  refine wp_iload_n (i := 3) dX3_readItem_67 rfl rfl ?_
  obtain ⟨v1, ev1, h⟩ := HI.bind h
  refine wp_iaload dX3_readItem_68 ev1 ?_
  refine wp_gets4 fl_X3_50 dX3_readItem_69 ?_
  refine wp_iload_n (i := 3) dX3_readItem_72 rfl rfl ?_
  obtain ⟨v2, ev2, h⟩ := HI.bind h
  refine wp_iaload dX3_readItem_73 ev2 ?_
  obtain ⟨v3, ev3, h⟩ := HI.bind h
  refine cgSN_i (Y' := Y_X6_outside) (kc2 := 0) (ks2 := 0) dX3_readItem_74 nl_X3_53 ce_X6_outside ⟨(Nat.le_of_ble_eq_true rfl), (Nat.le_of_ble_eq_true rfl)⟩ ⟨(Nat.le_of_ble_eq_true rfl), (Nat.le_of_ble_eq_true rfl)⟩ rfl rfl (ct_X6_outside ev3) rfl rfl (Nat.le_of_ble_eq_true rfl) ?_
  refine wp_if_ne (tgt := 93) dX3_readItem_77 (by decide) (fun c4 => ?_) (fun c4 => ?_)
  · have h := HI.f c4 h
    refine wp_bipush (v := -4) dX3_readItem_93 (by decide) ?_
    exact wp_iret dX3_readItem_95 rfl rfl (Nat.le_of_ble_eq_true rfl) (Nat.le_of_ble_eq_true rfl) (HI.some h)
  · have h := HI.t c4 h
    refine wp_aload_n (i := 0) dX3_readItem_80 rfl rfl ?_
    refine wp_iload_n (i := 2) dX3_readItem_81 rfl rfl ?_
    refine wp_iload dX3_readItem_82 rfl ?_
    refine wp_iadd dX3_readItem_84 ?_
    obtain ⟨v6, ev6, h⟩ := HI.bind h
    obtain ⟨v5, ev5, h⟩ := HI.bind h
    refine cgV_i (Y' := Y_X3_letterAt) (kc2 := 0) (ks2 := 0) dX3_readItem_85 ml_X3_36 ce_X3_letterAt (t := 3) rfl (by decide) ⟨(Nat.le_of_ble_eq_true rfl), (Nat.le_of_ble_eq_true rfl)⟩ ⟨(Nat.le_of_ble_eq_true rfl), (Nat.le_of_ble_eq_true rfl)⟩ rfl rfl (chkT_eq ev6) (ct_X3_letterAt ev5) rfl rfl (Nat.le_of_ble_eq_true rfl) ?_
    refine wp_iload dX3_readItem_88 rfl ?_
    refine wp_icmp_eq (tgt := 96) dX3_readItem_90 (by decide) (fun c7 => ?_) (fun c7 => ?_)
    · have h := HI.t c7 h
      refine wp_aload_n (i := 0) dX3_readItem_96 rfl rfl ?_
      obtain ⟨v8, ev8, h⟩ := HI.bind h
      refine wp_getR cl3 (f := 1) (by decide) rfl fl_X3_15 dX3_readItem_97 ev8 ?_
      refine wp_iload_n (i := 3) dX3_readItem_100 rfl rfl ?_
      refine wp_iload dX3_readItem_101 rfl ?_
      obtain ⟨m9, em9, h⟩ := HI.bind h
      refine wp_iastore dX3_readItem_103 em9 ?_
      refine wp_iload_n (i := 2) dX3_readItem_104 rfl rfl ?_
      refine wp_iload dX3_readItem_105 rfl ?_
      refine wp_iconst (v := 1) dX3_readItem_107 (by decide) ?_
      refine wp_iadd dX3_readItem_108 ?_
      refine wp_iadd dX3_readItem_109 ?_
      refine wp_istore_n (i := 2) dX3_readItem_110 rfl rfl rfl ?_
      refine wp_iinc (v := 1) dX3_readItem_111 rfl (by decide) rfl rfl ?_
      refine wp_goto (tgt := 19) dX3_readItem_114 (by decide) ?_
      exact wp_weak [true, true, true, true, false, false, false] (hr19 _ _ _ _ h)
    · have h := HI.f c7 h
      refine wp_bipush (v := -4) dX3_readItem_93 (by decide) ?_
      exact wp_iret dX3_readItem_95 rfl rfl (Nat.le_of_ble_eq_true rfl) (Nat.le_of_ble_eq_true rfl) (HI.some h)
theorem w_X3_readItem_19 {D : DT} {l : Launch} {post : Option Value → Mem → Prop} : ∀ (n : Nat) (x0 : Nat) (x2 : Int32) (x3 : Int32) (m : Mem), HI (F_X3_readItem_19 n x0 x2 x3 m) post → WP D l Y_X3_readItem 0 0 19 [.ref x0, JK, .int x2, .int x3, JK, JK, JK] [] m post := by
  intro n
  induction n with
  | zero => intro x0 x2 x3 m h; exact (HI.none h).elim
  | succ n ih =>
    intro x0 x2 x3 m h
    refine wp_iload_n (i := 3) dX3_readItem_19 rfl rfl ?_
    refine wp_iconst (v := 5) dX3_readItem_20 (by decide) ?_
    refine wp_icmp_ge (tgt := 117) dX3_readItem_21 (by decide) (fun c10 => ?_) (fun c10 => ?_)
    · have h := HI.t c10 h
      refine wp_iload_n (i := 2) dX3_readItem_117 rfl rfl ?_
      exact wp_iret dX3_readItem_118 rfl rfl (Nat.le_of_ble_eq_true rfl) (Nat.le_of_ble_eq_true rfl) (HI.some h)
    · have h := HI.f c10 h
      refine wp_aload_n (i := 0) dX3_readItem_24 rfl rfl ?_
      refine wp_iload_n (i := 2) dX3_readItem_25 rfl rfl ?_
      obtain ⟨v12, ev12, h⟩ := HI.bind h
      obtain ⟨v11, ev11, h⟩ := HI.bind h
      refine cgV_i (Y' := Y_X3_figuresAt) (kc2 := 0) (ks2 := 0) dX3_readItem_26 ml_X3_40 ce_X3_figuresAt (t := 3) rfl (by decide) ⟨(Nat.le_of_ble_eq_true rfl), (Nat.le_of_ble_eq_true rfl)⟩ ⟨(Nat.le_of_ble_eq_true rfl), (Nat.le_of_ble_eq_true rfl)⟩ rfl rfl (chkT_eq ev12) (ct_X3_figuresAt ev11) rfl rfl (Nat.le_of_ble_eq_true rfl) ?_
      refine wp_istore dX3_readItem_29 rfl rfl ?_
      refine wp_iload dX3_readItem_31 rfl ?_
      refine wp_if_ne (tgt := 39) dX3_readItem_33 (by decide) (fun c13 => ?_) (fun c13 => ?_)
      · have h := HI.f c13 h
        refine wp_aload_n (i := 0) dX3_readItem_39 rfl rfl ?_
        refine wp_iload_n (i := 2) dX3_readItem_40 rfl rfl ?_
        refine wp_iload dX3_readItem_41 rfl ?_
        obtain ⟨v15, ev15, h⟩ := HI.bind h
        obtain ⟨v14, ev14, h⟩ := HI.bind h
        refine cgV_i (Y' := Y_X3_numberAt) (kc2 := 0) (ks2 := 0) dX3_readItem_43 ml_X3_43 ce_X3_numberAt (t := 3) rfl (by decide) ⟨(Nat.le_of_ble_eq_true rfl), (Nat.le_of_ble_eq_true rfl)⟩ ⟨(Nat.le_of_ble_eq_true rfl), (Nat.le_of_ble_eq_true rfl)⟩ rfl rfl (chkT_eq ev15) (ct_X3_numberAt ev14) rfl rfl (Nat.le_of_ble_eq_true rfl) ?_
        refine wp_istore dX3_readItem_46 rfl rfl ?_
        refine wp_iload_n (i := 3) dX3_readItem_48 rfl rfl ?_
        refine wp_iconst (v := 4) dX3_readItem_49 (by decide) ?_
        refine wp_icmp_ge (tgt := 58) dX3_readItem_50 (by decide) (fun c16 => ?_) (fun c16 => ?_)
        · have h := HI.t c16 h
          refine wp_bipush (v := 59) dX3_readItem_58 (by decide) ?_
          exact (w_X3_readItem_60 ih h)
        · have h := HI.f c16 h
          refine wp_bipush (v := 44) dX3_readItem_53 (by decide) ?_
          refine wp_goto (tgt := 60) dX3_readItem_55 (by decide) ?_
          exact (w_X3_readItem_60 ih h)
      · have h := HI.t c13 h
        refine wp_bipush (v := -4) dX3_readItem_36 (by decide) ?_
        exact wp_iret dX3_readItem_38 rfl rfl (Nat.le_of_ble_eq_true rfl) (Nat.le_of_ble_eq_true rfl) (HI.some h)
theorem ct_X3_readItem {D : DT} {l : Launch} {m : Mem} {x0 : Nat} {x1 : Int32} {r : (Int32 × Mem)} (h : F_X3_readItem x0 x1 m = some r) : Ct D l Y_X3_readItem [.ref x0, .int x1] m (fun (v : Option Value) (N : Mem) => v = some (Value.int r.1) ∧ N = r.2) := by
  refine ct_of (by decide) (by rfl) (ls0 := [.ref x0, .int x1, JK, JK, JK, JK, JK]) rfl rfl ?_
  have h : HI (F_X3_readItem x0 x1 m) (fun (v : Option Value) (N : Mem) => v = some (Value.int r.1) ∧ N = r.2) := ⟨r.1, r.2, h, rfl, rfl⟩
  revert h
  generalize (fun (v : Option Value) (N : Mem) => v = some (Value.int r.1) ∧ N = r.2) = post
  intro h
  refine wp_aload_n (i := 0) dX3_readItem_0 rfl rfl ?_
  refine wp_iload_n (i := 1) dX3_readItem_1 rfl rfl ?_
  obtain ⟨v18, ev18, h⟩ := HI.bind h
  obtain ⟨v17, ev17, h⟩ := HI.bind h
  refine cgV_i (Y' := Y_X3_letterAt) (kc2 := 0) (ks2 := 0) dX3_readItem_2 ml_X3_36 ce_X3_letterAt (t := 3) rfl (by decide) ⟨(Nat.le_of_ble_eq_true rfl), (Nat.le_of_ble_eq_true rfl)⟩ ⟨(Nat.le_of_ble_eq_true rfl), (Nat.le_of_ble_eq_true rfl)⟩ rfl rfl (chkT_eq ev18) (ct_X3_letterAt ev17) rfl rfl (Nat.le_of_ble_eq_true rfl) ?_
  refine wp_bipush (v := 112) dX3_readItem_5 (by decide) ?_
  refine wp_icmp_eq (tgt := 13) dX3_readItem_7 (by decide) (fun c19 => ?_) (fun c19 => ?_)
  · have h := HI.t c19 h
    refine wp_iload_n (i := 1) dX3_readItem_13 rfl rfl ?_
    refine wp_iconst (v := 1) dX3_readItem_14 (by decide) ?_
    refine wp_iadd dX3_readItem_15 ?_
    refine wp_istore_n (i := 2) dX3_readItem_16 rfl rfl rfl ?_
    refine wp_iconst (v := 0) dX3_readItem_17 (by decide) ?_
    refine wp_istore_n (i := 3) dX3_readItem_18 rfl rfl rfl ?_
    exact wp_weak [true, false, true, true, true, true, true] (w_X3_readItem_19 _ _ _ _ _ h)
  · have h := HI.f c19 h
    refine wp_bipush (v := -4) dX3_readItem_10 (by decide) ?_
    exact wp_iret dX3_readItem_12 rfl rfl (Nat.le_of_ble_eq_true rfl) (Nat.le_of_ble_eq_true rfl) (HI.some h)
theorem w_X3_readInto_38 {D : DT} {l : Launch} {post : Option Value → Mem → Prop} {r8 : Nat → Nat → Int32 → Int32 → Mem → Option (Int32 × Mem)} (hr8 : ∀ (x0 : Nat) (x1 : Nat) (x2 : Int32) (x3 : Int32) (m : Mem), HI (r8 x0 x1 x2 x3 m) post → WP D l Y_X3_readInto 0 0 8 [.ref x0, .ref x1, .int x2, .int x3, JK] [] m post) {x0 : Nat} {x1 : Nat} {x2 : Int32} {x3 : Int32} {s0 : Int32} {m : Mem} (h : HI (F_X3_readInto_38 r8 x0 x1 x2 x3 s0 m) post) : WP D l Y_X3_readInto 0 0 38 [.ref x0, .ref x1, .int x2, .int x3, JK] [.int s0] m post := by
  refine wp_istore dX3_readInto_38 rfl rfl ?_
  refine wp_iload dX3_readInto_40 rfl ?_
  refine wp_bipush (v := -4) dX3_readInto_42 (by decide) ?_
  refine wp_icmp_ne (tgt := 49) dX3_readInto_44 (by decide) (fun c1 => ?_) (fun c1 => ?_)
  · have h := HI.f c1 h
    refine wp_aload_n (i := 1) dX3_readInto_49 rfl rfl ?_
    refine wp_aload_n (i := 0) dX3_readInto_50 rfl rfl ?_
    obtain ⟨v2, ev2, h⟩ := HI.bind h
    refine wp_getR cl3 (f := 1) (by decide) rfl fl_X3_15 dX3_readInto_51 ev2 ?_
    refine wp_iconst (v := 0) dX3_readInto_54 (by decide) ?_
    obtain ⟨v3, ev3, h⟩ := HI.bind h
    refine wp_iaload dX3_readInto_55 ev3 ?_
    refine wp_aload_n (i := 0) dX3_readInto_56 rfl rfl ?_
    obtain ⟨v4, ev4, h⟩ := HI.bind h
    refine wp_getR cl3 (f := 1) (by decide) rfl fl_X3_15 dX3_readInto_57 ev4 ?_
    refine wp_iconst (v := 1) dX3_readInto_60 (by decide) ?_
    obtain ⟨v5, ev5, h⟩ := HI.bind h
    refine wp_iaload dX3_readInto_61 ev5 ?_
    refine wp_aload_n (i := 0) dX3_readInto_62 rfl rfl ?_
    obtain ⟨v6, ev6, h⟩ := HI.bind h
    refine wp_getR cl3 (f := 1) (by decide) rfl fl_X3_15 dX3_readInto_63 ev6 ?_
    refine wp_iconst (v := 2) dX3_readInto_66 (by decide) ?_
    obtain ⟨v7, ev7, h⟩ := HI.bind h
    refine wp_iaload dX3_readInto_67 ev7 ?_
    refine wp_aload_n (i := 0) dX3_readInto_68 rfl rfl ?_
    obtain ⟨v8, ev8, h⟩ := HI.bind h
    refine wp_getR cl3 (f := 1) (by decide) rfl fl_X3_15 dX3_readInto_69 ev8 ?_
    refine wp_iconst (v := 3) dX3_readInto_72 (by decide) ?_
    obtain ⟨v9, ev9, h⟩ := HI.bind h
    refine wp_iaload dX3_readInto_73 ev9 ?_
    refine wp_aload_n (i := 0) dX3_readInto_74 rfl rfl ?_
    obtain ⟨v10, ev10, h⟩ := HI.bind h
    refine wp_getR cl3 (f := 1) (by decide) rfl fl_X3_15 dX3_readInto_75 ev10 ?_
    refine wp_iconst (v := 4) dX3_readInto_78 (by decide) ?_
    obtain ⟨v11, ev11, h⟩ := HI.bind h
    refine wp_iaload dX3_readInto_79 ev11 ?_
    obtain ⟨v13, ev13, h⟩ := HI.bind h
    obtain ⟨v12, ev12, h⟩ := HI.bind h
    refine cgV_v (Y' := Y_X5_settle) (kc2 := 0) (ks2 := 0) dX3_readInto_80 ml_X3_32 ce_X5_settle (t := 5) rfl (by decide) ⟨(Nat.le_of_ble_eq_true rfl), (Nat.le_of_ble_eq_true rfl)⟩ ⟨(Nat.le_of_ble_eq_true rfl), (Nat.le_of_ble_eq_true rfl)⟩ rfl rfl (chkT_eq ev13) (ct_X5_settle ev12) rfl rfl (Nat.le_of_ble_eq_true rfl) ?_
    refine wp_iload dX3_readInto_83 rfl ?_
    refine wp_istore_n (i := 2) dX3_readInto_85 rfl rfl rfl ?_
    refine wp_iinc (v := 1) dX3_readInto_86 rfl (by decide) rfl rfl ?_
    refine wp_goto (tgt := 8) dX3_readInto_89 (by decide) ?_
    exact wp_weak [true, true, true, true, false] (hr8 _ _ _ _ _ h)
  · have h := HI.t c1 h
    refine wp_iload_n (i := 2) dX3_readInto_47 rfl rfl ?_
    exact wp_iret dX3_readInto_48 rfl rfl (Nat.le_of_ble_eq_true rfl) (Nat.le_of_ble_eq_true rfl) (HI.some h)
theorem w_X3_readInto_8 {D : DT} {l : Launch} {post : Option Value → Mem → Prop} : ∀ (n : Nat) (x0 : Nat) (x1 : Nat) (x2 : Int32) (x3 : Int32) (m : Mem), HI (F_X3_readInto_8 n x0 x1 x2 x3 m) post → WP D l Y_X3_readInto 0 0 8 [.ref x0, .ref x1, .int x2, .int x3, JK] [] m post := by
  intro n
  induction n with
  | zero => intro x0 x1 x2 x3 m h; exact (HI.none h).elim
  | succ n ih =>
    intro x0 x1 x2 x3 m h
    refine wp_iload_n (i := 3) dX3_readInto_8 rfl rfl ?_
    refine wp_bipush (v := 7) dX3_readInto_9 (by decide) ?_
    refine wp_icmp_gt (tgt := 92) dX3_readInto_11 (by decide) (fun c14 => ?_) (fun c14 => ?_)
    · have h := HI.t c14 h
      refine wp_bipush (v := -4) dX3_readInto_92 (by decide) ?_
      exact wp_iret dX3_readInto_94 rfl rfl (Nat.le_of_ble_eq_true rfl) (Nat.le_of_ble_eq_true rfl) (HI.some h)
    · have h := HI.f c14 h
      refine wp_iload_n (i := 2) dX3_readInto_14 rfl rfl ?_
      refine wp_aload_n (i := 0) dX3_readInto_15 rfl rfl ?_
      obtain ⟨v15, ev15, h⟩ := HI.bind h
      refine wp_getI cl3 (f := 2) (by decide) rfl fl_X3_19 dX3_readInto_16 ev15 ?_
      refine wp_icmp_ge (tgt := 92) dX3_readInto_19 (by decide) (fun c16 => ?_) (fun c16 => ?_)
      · have h := HI.t c16 h
        refine wp_bipush (v := -4) dX3_readInto_92 (by decide) ?_
        exact wp_iret dX3_readInto_94 rfl rfl (Nat.le_of_ble_eq_true rfl) (Nat.le_of_ble_eq_true rfl) (HI.some h)
      · have h := HI.f c16 h
        refine wp_iload_n (i := 3) dX3_readInto_22 rfl rfl ?_
        refine wp_bipush (v := 7) dX3_readInto_23 (by decide) ?_
        refine wp_icmp_ge (tgt := 36) dX3_readInto_25 (by decide) (fun c17 => ?_) (fun c17 => ?_)
        · have h := HI.t c17 h
          refine wp_bipush (v := -4) dX3_readInto_36 (by decide) ?_
          exact (w_X3_readInto_38 ih h)
        · have h := HI.f c17 h
          refine wp_aload_n (i := 0) dX3_readInto_28 rfl rfl ?_
          refine wp_iload_n (i := 2) dX3_readInto_29 rfl rfl ?_
          obtain ⟨v19, ev19, h⟩ := HI.bind h
          obtain ⟨v18, ev18, h⟩ := HI.bind h
          refine cgV_i (Y' := Y_X3_readItem) (kc2 := 0) (ks2 := 0) dX3_readInto_30 ml_X3_28 ce_X3_readItem (t := 3) rfl (by decide) ⟨(Nat.le_of_ble_eq_true rfl), (Nat.le_of_ble_eq_true rfl)⟩ ⟨(Nat.le_of_ble_eq_true rfl), (Nat.le_of_ble_eq_true rfl)⟩ rfl rfl (chkT_eq ev19) (ct_X3_readItem ev18) rfl rfl (Nat.le_of_ble_eq_true rfl) ?_
          refine wp_goto (tgt := 38) dX3_readInto_33 (by decide) ?_
          exact (w_X3_readInto_38 ih h)
theorem ct_X3_readInto {D : DT} {l : Launch} {m : Mem} {x0 : Nat} {x1 : Nat} {r : (Int32 × Mem)} (h : F_X3_readInto x0 x1 m = some r) : Ct D l Y_X3_readInto [.ref x0, .ref x1] m (fun (v : Option Value) (N : Mem) => v = some (Value.int r.1) ∧ N = r.2) := by
  refine ct_of (by decide) (by rfl) (ls0 := [.ref x0, .ref x1, JK, JK, JK]) rfl rfl ?_
  have h : HI (F_X3_readInto x0 x1 m) (fun (v : Option Value) (N : Mem) => v = some (Value.int r.1) ∧ N = r.2) := ⟨r.1, r.2, h, rfl, rfl⟩
  revert h
  generalize (fun (v : Option Value) (N : Mem) => v = some (Value.int r.1) ∧ N = r.2) = post
  intro h
  refine wp_aload_n (i := 1) dX3_readInto_0 rfl rfl ?_
  obtain ⟨v21, ev21, h⟩ := HI.bind h
  obtain ⟨v20, ev20, h⟩ := HI.bind h
  refine cgV_v (Y' := Y_X5_empty) (kc2 := 0) (ks2 := 0) dX3_readInto_1 ml_X3_23 ce_X5_empty (t := 5) rfl (by decide) ⟨(Nat.le_of_ble_eq_true rfl), (Nat.le_of_ble_eq_true rfl)⟩ ⟨(Nat.le_of_ble_eq_true rfl), (Nat.le_of_ble_eq_true rfl)⟩ rfl rfl (chkT_eq ev21) (ct_X5_empty ev20) rfl rfl (Nat.le_of_ble_eq_true rfl) ?_
  refine wp_iconst (v := 0) dX3_readInto_4 (by decide) ?_
  refine wp_istore_n (i := 2) dX3_readInto_5 rfl rfl rfl ?_
  refine wp_iconst (v := 0) dX3_readInto_6 (by decide) ?_
  refine wp_istore_n (i := 3) dX3_readInto_7 rfl rfl rfl ?_
  exact (w_X3_readInto_8 _ _ _ _ _ _ h)
