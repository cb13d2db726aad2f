def F_X2_init_23 : Nat → Nat → Int32 → Mem → Option Mem
  | 0 => fun _ _ _ => none
  | n + 1 => fun x0 x2 m =>
  (fR m 2 x0 0).bind fun v1 =>
  (aLen m v1).bind fun v2 =>
  (if v2 ≤ x2 then
  (some m)
  else
  (fR m 2 x0 0).bind fun v4 =>
  (chkT (mNew m 5 8) 5 (mN m)).bind fun v6 =>
  (F_X5_init (mN m) (mNew m 5 8)).bind fun v5 =>
  (stR v5 v4 x2 (mN m)).bind fun m7 =>
  ((F_X2_init_23 n) x0 (x2 + 1) m7))
def F_X2_init (x0 : Nat) (x1 : Int32) (m : Mem) : Option Mem :=
  (chkT m 2 x0).bind fun v8 =>
  (pI m 2 x0 1 (0 : Int32)).bind fun m9 =>
  (nA m9 (jmax (1 : Int32) x1)).bind fun m10 =>
  (pR m10 2 x0 0 (mN m9)).bind fun m11 =>
  (F_X2_init_23 17 x0 (0 : Int32) m11)
def F_X1_init (x0 : Nat) (m : Mem) : Option Mem :=
  (chkT m 1 x0).bind fun v1 =>
  (pR (mNew m 10 6) 1 x0 0 (mN m)).bind fun m2 =>
  (pR (mNew m2 10 6) 1 x0 1 (mN m2)).bind fun m3 =>
  (pR (mNew m3 10 6) 1 x0 2 (mN m3)).bind fun m4 =>
  (pI m4 1 x0 3 (0 : Int32)).bind fun m5 =>
  (some m5)
def F_X4_init (x0 : Nat) (m : Mem) : Option Mem :=
  (chkT m 4 x0).bind fun v1 =>
  (pR (mNew m 10 7) 4 x0 0 (mN m)).bind fun m2 =>
  (pR (mNew m2 10 7) 4 x0 1 (mN m2)).bind fun m3 =>
  (pI m3 4 x0 2 (0 : Int32)).bind fun m4 =>
  (pI m4 4 x0 3 (0 : Int32)).bind fun m5 =>
  (some m5)
def F_X0_init (x0 : Nat) (m : Mem) : Option Mem :=
  (chkT m 0 x0).bind fun v1 =>
  (pR (mNew m 10 12) 0 x0 0 (mN m)).bind fun m2 =>
  (pR (mNew m2 10 12) 0 x0 1 (mN m2)).bind fun m3 =>
  (some m3)
def F_X1_empty (x0 : Nat) (m : Mem) : Option (Int32 × Mem) :=
  (fI m 1 x0 3).bind fun v1 =>
  (pI m 1 x0 3 (0 : Int32)).bind fun m2 =>
  (some (v1, m2))
def F_X2_empty (x0 : Nat) (m : Mem) : Option Mem :=
  (pI m 2 x0 1 (0 : Int32)).bind fun m1 =>
  (some m1)
def F_X2_isFull (x0 : Nat) (m : Mem) : Option Int32 :=
  (fI m 2 x0 1).bind fun v1 =>
  (fR m 2 x0 0).bind fun v2 =>
  (aLen m v2).bind fun v3 =>
  (if v1 < v3 then
  (some (0 : Int32))
  else
  (some (1 : Int32)))
def F_X2_dropLowest_9 : Nat → Nat → Nat → Int32 → Mem → Option Mem
  | 0 => fun _ _ _ _ => none
  | n + 1 => fun x0 x1 x2 m =>
  (fR m 2 x0 0).bind fun v1 =>
  (aLen m v1).bind fun v2 =>
  (if v2 ≤ x2 then
  (fR m 2 x0 0).bind fun v4 =>
  (fR m 2 x0 0).bind fun v5 =>
  (aLen m v5).bind fun v6 =>
  (stR m v4 (v6 - (1 : Int32)) x1).bind fun m7 =>
  (fR m7 2 x0 0).bind fun v8 =>
  (aLen m7 v8).bind fun v9 =>
  (pI m7 2 x0 1 (v9 - (1 : Int32))).bind fun m10 =>
  (some m10)
  else
  (fR m 2 x0 0).bind fun v11 =>
  (fR m 2 x0 0).bind fun v12 =>
  (ldR m v12 x2).bind fun v13 =>
  (stR m v11 (x2 - (1 : Int32)) v13).bind fun m14 =>
  ((F_X2_dropLowest_9 n) x0 x1 (x2 + 1) m14))
def F_X2_dropLowest (x0 : Nat) (m : Mem) : Option Mem :=
  (fR m 2 x0 0).bind fun v15 =>
  (ldR m v15 (0 : Int32)).bind fun v16 =>
  (F_X2_dropLowest_9 FU x0 v16 (1 : Int32) m)
def F_X2_put_11 (x0 : Nat) (x1 : Nat) (m : Mem) : Option Mem :=
  (fR m 2 x0 0).bind fun v1 =>
  (fI m 2 x0 1).bind fun v2 =>
  (ldR m v1 v2).bind fun v3 =>
  (chkT m 5 v3).bind fun v5 =>
  (F_X5_become v3 x1 m).bind fun v4 =>
  (fI v4 2 x0 1).bind fun v6 =>
  (pI v4 2 x0 1 (v6 + (1 : Int32))).bind fun m7 =>
  (some m7)
def F_X2_put (x0 : Nat) (x1 : Nat) (m : Mem) : Option Mem :=
  (chkT m 2 x0).bind fun v9 =>
  (F_X2_isFull x0 m).bind fun v8 =>
  (if v8 = 0 then
  (F_X2_put_11 x0 x1 m)
  else
  (chkT m 2 x0).bind fun v12 =>
  (F_X2_dropLowest x0 m).bind fun v11 =>
  (F_X2_put_11 x0 x1 v11))
def F_X2_takeInto (x0 : Nat) (x1 : Nat) (m : Mem) : Option (Int32 × Mem) :=
  (fI m 2 x0 1).bind fun v1 =>
  (if (1 : Int32) ≤ v1 then
  (fI m 2 x0 1).bind fun v3 =>
  (pI m 2 x0 1 (v3 - (1 : Int32))).bind fun m4 =>
  (fR m4 2 x0 0).bind fun v5 =>
  (fI m4 2 x0 1).bind fun v6 =>
  (ldR m4 v5 v6).bind fun v7 =>
  (chkT m4 5 x1).bind fun v9 =>
  (F_X5_become x1 v7 m4).bind fun v8 =>
  (some ((1 : Int32), v8))
  else
  (some ((0 : Int32), m)))
def F_X2_size (x0 : Nat) (m : Mem) : Option Int32 :=
  (fI m 2 x0 1).bind fun v1 =>
  (some v1)
def F_X4_markClashes_38 (r2 : Nat → Nat → Int32 → Mem → Option Mem) (r12 : Nat → Nat → Int32 → Int32 → Mem → Option Mem) (x0 : Nat) (x1 : Nat) (x2 : Int32) (x3 : Int32) (m : Mem) : Option Mem :=
  (r12 x0 x1 x2 (x3 + 1) m)
def F_X4_markClashes_12 (r2 : Nat → Nat → Int32 → Mem → Option Mem) : Nat → Nat → Nat → Int32 → Int32 → Mem → Option Mem
  | 0 => fun _ _ _ _ _ => none
  | n + 1 => fun x0 x1 x2 x3 m =>
  (if x2 ≤ x3 then
  (r2 x0 x1 (x2 + 1) m)
  else
  (chkT m 5 x1).bind fun v3 =>
  (F_X5_between x1 x2 x3 m).bind fun v2 =>
  (if v2 = 0 then
  (F_X4_markClashes_38 r2 (F_X4_markClashes_12 r2 n) x0 x1 x2 x3 m)
  else
  (fR m 4 x0 0).bind fun v5 =>
  (ldI m v5 x2).bind fun v6 =>
  (stI m v5 x2 (v6 ||| ((1 : Int32) <<< (x3 &&& 31)))).bind fun m7 =>
  (F_X4_markClashes_38 r2 (F_X4_markClashes_12 r2 n) x0 x1 x2 x3 m7)))
def F_X4_markClashes_2 : Nat → Nat → Nat → Int32 → Mem → Option Mem
  | 0 => fun _ _ _ _ => none
  | n + 1 => fun x0 x1 x2 m =>
  (fI m 4 x0 2).bind fun v8 =>
  (if v8 ≤ x2 then
  (some m)
  else
  (F_X4_markClashes_12 (F_X4_markClashes_2 n) FU x0 x1 x2 (0 : Int32) m))
def F_X4_markClashes (x0 : Nat) (x1 : Nat) (m : Mem) : Option Mem :=
  (F_X4_markClashes_2 FU x0 x1 (0 : Int32) m)
def F_X4_isFree_32 (m : Mem) (r2 : Nat → Int32 → Int32 → Int32 → Option Int32) (x0 : Nat) (x1 : Int32) (x2 : Int32) (x3 : Int32) : Option Int32 :=
  (r2 x0 x1 x2 (x3 + 1))
def F_X4_isFree_2 (m : Mem) : Nat → Nat → Int32 → Int32 → Int32 → Option Int32
  | 0 => fun _ _ _ _ => none
  | n + 1 => fun x0 x1 x2 x3 =>
  (if x1 ≤ x3 then
  (some (1 : Int32))
  else
  (fR m 4 x0 1).bind fun v2 =>
  (ldI m v2 x3).bind fun v3 =>
  (if v3 = x2 then
  (fR m 4 x0 0).bind fun v5 =>
  (ldI m v5 x1).bind fun v6 =>
  (if (v6 &&& ((1 : Int32) <<< (x3 &&& 31))) = 0 then
  (F_X4_isFree_32 m (F_X4_isFree_2 m n) x0 x1 x2 x3)
  else
  (some (0 : Int32)))
  else
  (F_X4_isFree_32 m (F_X4_isFree_2 m n) x0 x1 x2 x3)))
def F_X4_isFree (x0 : Nat) (x1 : Int32) (x2 : Int32) (m : Mem) : Option Int32 :=
  (F_X4_isFree_2 m FU x0 x1 x2 (0 : Int32))
def F_X4_paint_95 (rc : Nat → Int32 → Int32 → Int32 → Mem → Option (Int32 × Mem)) (r51 : Nat → Int32 → Int32 → Int32 → Int32 → Int32 → Mem → Option (Int32 × Mem)) (x0 : Nat) (x1 : Int32) (x2 : Int32) (x3 : Int32) (x4 : Int32) (x5 : Int32) (m : Mem) : Option (Int32 × Mem) :=
  (r51 x0 x1 x2 x3 x4 (x5 + 1) m)
def F_X4_paint_51 (rc : Nat → Int32 → Int32 → Int32 → Mem → Option (Int32 × Mem)) : Nat → Nat → Int32 → Int32 → Int32 → Int32 → Int32 → Mem → Option (Int32 × Mem)
  | 0 => fun _ _ _ _ _ _ _ => none
  | n + 1 => fun x0 x1 x2 x3 x4 x5 m =>
  (if x4 < x5 then
  (some ((0 : Int32), m))
  else
  (chkT m 4 x0).bind fun v3 =>
  (F_X4_isFree x0 x1 x5 m).bind fun v2 =>
  (if v2 = 0 then
  (F_X4_paint_95 rc (F_X4_paint_51 rc n) x0 x1 x2 x3 x4 x5 m)
  else
  (fR m 4 x0 1).bind fun v5 =>
  (stI m v5 x1 x5).bind fun m6 =>
  (rc x0 (x1 + (1 : Int32)) (jmax x2 x5) x3 m6).bind fun v7 =>
  (if v7.1 = 0 then
  (F_X4_paint_95 rc (F_X4_paint_51 rc n) x0 x1 x2 x3 x4 x5 v7.2)
  else
  (some ((1 : Int32), v7.2)))))
def F_X4_paint : Nat → Nat → Int32 → Int32 → Int32 → Mem → Option (Int32 × Mem)
  | 0 => fun _ _ _ _ _ => none
  | k + 1 => fun x0 x1 x2 x3 m =>
  (fI m 4 x0 2).bind fun v9 =>
  (if x1 < v9 then
  (fI m 4 x0 3).bind fun v11 =>
  (if (v11 &&& ((1 : Int32) <<< (x1 &&& 31))) = 0 then
  (fR m 4 x0 1).bind fun v13 =>
  (stI m v13 x1 (-4 : Int32)).bind fun m14 =>
  ((F_X4_paint k) x0 (x1 + (1 : Int32)) x2 x3 m14).bind fun v15 =>
  (rN .boolean v15.1).bind fun v16 =>
  some (v15.1, v15.2)
  else
  (F_X4_paint_51 (F_X4_paint k) FU x0 x1 x2 x3 (jmin (x2 + (1 : Int32)) x3) (1 : Int32) m))
  else
  (some ((1 : Int32), m)))
def F_X4_choose_50 : Nat → Nat → Int32 → Mem → Option (Int32 × Mem)
  | 0 => fun _ _ _ => none
  | n + 1 => fun x0 x3 m =>
  (if (7 : Int32) ≤ x3 then
  (F_X4_paint 9 x0 (0 : Int32) (0 : Int32) (7 : Int32) m).bind fun v2 =>
  (some ((7 : Int32), v2.2))
  else
  (F_X4_paint 9 x0 (0 : Int32) (0 : Int32) x3 m).bind fun v3 =>
  (if v3.1 = 0 then
  ((F_X4_choose_50 n) x0 (x3 + 1) v3.2)
  else
  (some (x3, v3.2))))
def F_X4_choose_27 : Nat → Nat → Nat → Int32 → Mem → Option (Int32 × Mem)
  | 0 => fun _ _ _ _ => none
  | n + 1 => fun x0 x1 x3 m =>
  (if (24 : Int32) < x3 then
  (F_X4_choose_50 FU x0 (0 : Int32) m)
  else
  (chkT m 4 x0).bind fun v7 =>
  (F_X4_markClashes x0 x1 m).bind fun v6 =>
  (chkT v6 5 x1).bind fun v9 =>
  (F_X5_goRound x1 v6).bind fun v8 =>
  ((F_X4_choose_27 n) x0 x1 (x3 + 1) v8))
def F_X4_choose (x0 : Nat) (x1 : Nat) (x2 : Int32) (m : Mem) : Option (Int32 × Mem) :=
  (chkT m 5 x1).bind fun v11 =>
  (F_X5_size x1 m).bind fun v10 =>
  (pI m 4 x0 2 v10).bind fun m12 =>
  (chkT m12 5 x1).bind fun v14 =>
  (F_X5_goersAbout x1 x2 m12).bind fun v13 =>
  (pI m12 4 x0 3 v13).bind fun m15 =>
  (fR m15 4 x0 0).bind fun v16 =>
  (F_J7_fill v16 (0 : Int32) m15).bind fun v17 =>
  (F_X4_choose_27 FU x0 x1 (0 : Int32) v17)
def F_X4_tintOf (x0 : Nat) (x1 : Int32) (m : Mem) : Option Int32 :=
  (fR m 4 x0 1).bind fun v1 =>
  (ldI m v1 x1).bind fun v2 =>
  (some v2)
def F_X1_note (x0 : Nat) (x1 : Int32) (x2 : Int32) (x3 : Int32) (m : Mem) : Option (Int32 × Mem) :=
  (fI m 1 x0 3).bind fun v1 =>
  (if v1 < (6 : Int32) then
  (fR m 1 x0 0).bind fun v3 =>
  (fI m 1 x0 3).bind fun v4 =>
  (stI m v3 v4 x1).bind fun m5 =>
  (fR m5 1 x0 1).bind fun v6 =>
  (fI m5 1 x0 3).bind fun v7 =>
  (stI m5 v6 v7 x2).bind fun m8 =>
  (fR m8 1 x0 2).bind fun v9 =>
  (fI m8 1 x0 3).bind fun v10 =>
  (stI m8 v9 v10 x3).bind fun m11 =>
  (fI m11 1 x0 3).bind fun v12 =>
  (pI m11 1 x0 3 (v12 + (1 : Int32))).bind fun m13 =>
  (some ((1 : Int32), m13))
  else
  (some ((0 : Int32), m)))
def F_X1_size (x0 : Nat) (m : Mem) : Option Int32 :=
  (fI m 1 x0 3).bind fun v1 =>
  (some v1)
def F_X1_fitPerson_50 (m : Mem) (r3 : Nat → Nat → Int32 → Int32 → Int32 → Int32 → Option Int32) (x0 : Nat) (x1 : Nat) (x2 : Int32) (x3 : Int32) (x4 : Int32) (x5 : Int32) : Option Int32 :=
  (r3 x0 x1 x2 x3 x4 (x5 + 1))
def F_X1_fitPerson_3 (m : Mem) : Nat → Nat → Nat → Int32 → Int32 → Int32 → Int32 → Option Int32
  | 0 => fun _ _ _ _ _ _ => none
  | n + 1 => fun x0 x1 x2 x3 x4 x5 =>
  (fI m 1 x0 3).bind fun v1 =>
  (if v1 ≤ x5 then
  (some (1 : Int32))
  else
  (fR m 1 x0 0).bind fun v3 =>
  (ldI m v3 x5).bind fun v4 =>
  (if v4 = x2 then
  (fR m 1 x0 1).bind fun v6 =>
  (ldI m v6 x5).bind fun v7 =>
  (chkT m 5 x1).bind fun v9 =>
  (F_X5_yardBehind x1 v7 x2 x3 x4 m).bind fun v8 =>
  (fR m 1 x0 2).bind fun v10 =>
  (ldI m v10 x5).bind fun v11 =>
  (if v8 = v11 then
  (F_X1_fitPerson_50 m (F_X1_fitPerson_3 m n) x0 x1 x2 x3 x4 x5)
  else
  (some (0 : Int32)))
  else
  (F_X1_fitPerson_50 m (F_X1_fitPerson_3 m n) x0 x1 x2 x3 x4 x5)))
def F_X1_fitPerson (x0 : Nat) (x1 : Nat) (x2 : Int32) (x3 : Int32) (x4 : Int32) (m : Mem) : Option Int32 :=
  (F_X1_fitPerson_3 m FU x0 x1 x2 x3 x4 (0 : Int32))
def F_X1_fitRing_2 (m : Mem) : Nat → Nat → Int32 → Int32 → Int32 → Option Int32
  | 0 => fun _ _ _ _ => none
  | n + 1 => fun x0 x1 x2 x3 =>
  (fI m 1 x0 3).bind fun v1 =>
  (if v1 ≤ x3 then
  (some (1 : Int32))
  else
  (fR m 1 x0 1).bind fun v3 =>
  (ldI m v3 x3).bind fun v4 =>
  (fR m 1 x0 2).bind fun v5 =>
  (ldI m v5 x3).bind fun v6 =>
  (if (jrem (x1 + (v4 * x2)) (12 : Int32)) = v6 then
  ((F_X1_fitRing_2 m n) x0 x1 x2 (x3 + 1))
  else
  (some (0 : Int32))))
def F_X1_fitRing (x0 : Nat) (x1 : Int32) (x2 : Int32) (m : Mem) : Option Int32 :=
  (F_X1_fitRing_2 m FU x0 x1 x2 (0 : Int32))
def F_X0_goOn_10 : Nat → Nat → Int32 → Int32 → Int32 → Mem → Option Mem
  | 0 => fun _ _ _ _ _ => none
  | n + 1 => fun x0 x1 x2 x3 m =>
  (if (12 : Int32) ≤ x3 then
  (fR m 0 x0 0).bind fun v2 =>
  (fR m 0 x0 1).bind fun v3 =>
  (pR m 0 x0 0 v3).bind fun m4 =>
  (pR m4 0 x0 1 v2).bind fun m5 =>
  (some m5)
  else
  (fR m 0 x0 1).bind fun v6 =>
  (ldI m v6 x3).bind fun v7 =>
  (fR m 0 x0 0).bind fun v8 =>
  (ldI m v8 x3).bind fun v9 =>
  (stI m v6 x3 (v7 + (v9 * x2))).bind fun m10 =>
  (fR m10 0 x0 1).bind fun v11 =>
  (ldI m10 v11 (jrem (x3 + x1) (12 : Int32))).bind fun v12 =>
  (fR m10 0 x0 0).bind fun v13 =>
  (ldI m10 v13 x3).bind fun v14 =>
  (stI m10 v11 (jrem (x3 + x1) (12 : Int32)) (v12 + (v14 * ((10 : Int32) - x2)))).bind fun m15 =>
  ((F_X0_goOn_10 n) x0 x1 x2 (x3 + 1) m15))
def F_X0_goOn (x0 : Nat) (x1 : Int32) (x2 : Int32) (m : Mem) : Option Mem :=
  (fR m 0 x0 1).bind fun v16 =>
  (F_J7_fill v16 (0 : Int32) m).bind fun v17 =>
  (F_X0_goOn_10 FU x0 x1 x2 (0 : Int32) v17)
def F_X0_follow_22 : Nat → Nat → Nat → Int32 → Int32 → Int32 → Int32 → Mem → Option Mem
  | 0 => fun _ _ _ _ _ _ _ => none
  | n + 1 => fun x0 x1 x2 x3 x4 x5 m =>
  (if x3 ≤ x5 then
  (some m)
  else
  (chkT m 5 x1).bind fun v3 =>
  (F_X5_day x1 m).bind fun v2 =>
  (chkT m 5 x1).bind fun v5 =>
  (F_X5_kindOf x1 x2 m).bind fun v4 =>
  (chkT m 5 x1).bind fun v7 =>
  (F_X5_paceOf x1 x2 m).bind fun v6 =>
  (F_X5_yardsOn (v2 + x5) v4 v6).bind fun v8 =>
  (chkT m 0 x0).bind fun v10 =>
  (F_X0_goOn x0 v8 x4 m).bind fun v9 =>
  ((F_X0_follow_22 n) x0 x1 x2 x3 x4 (x5 + 1) v9))
def F_X0_follow (x0 : Nat) (x1 : Nat) (x2 : Int32) (x3 : Int32) (x4 : Int32) (m : Mem) : Option Mem :=
  (fR m 0 x0 0).bind fun v11 =>
  (F_J7_fill v11 (0 : Int32) m).bind fun v12 =>
  (fR v12 0 x0 0).bind fun v13 =>
  (chkT v12 5 x1).bind fun v15 =>
  (F_X5_yardOf x1 x2 v12).bind fun v14 =>
  (stI v12 v13 v14 (1 : Int32)).bind fun m16 =>
  (F_X0_follow_22 FU x0 x1 x2 x3 x4 (0 : Int32) m16)
def F_X0_weightAt (x0 : Nat) (x1 : Int32) (m : Mem) : Option Int32 :=
  (fR m 0 x0 0).bind fun v1 =>
  (ldI m v1 x1).bind fun v2 =>
  (some v2)
theorem dX2_init_0 : decode (mC Y_X2_init) 0 = .ok (.aload_n 0, 1) := by decide +kernel
theorem dX2_init_1 : decode (mC Y_X2_init) 1 = .ok (.invokespecial 1, 3) := by decide +kernel
theorem dX2_init_4 : decode (mC Y_X2_init) 4 = .ok (.aload_n 0, 1) := by decide +kernel
theorem dX2_init_5 : decode (mC Y_X2_init) 5 = .ok (.iconst 0, 1) := by decide +kernel
theorem dX2_init_6 : decode (mC Y_X2_init) 6 = .ok (.putfield 7, 3) := by decide +kernel
theorem dX2_init_9 : decode (mC Y_X2_init) 9 = .ok (.aload_n 0, 1) := by decide +kernel
theorem dX2_init_10 : decode (mC Y_X2_init) 10 = .ok (.iconst 1, 1) := by decide +kernel
theorem dX2_init_11 : decode (mC Y_X2_init) 11 = .ok (.iload_n 1, 1) := by decide +kernel
theorem dX2_init_12 : decode (mC Y_X2_init) 12 = .ok (.invokestatic 13, 3) := by decide +kernel
theorem dX2_init_15 : decode (mC Y_X2_init) 15 = .ok (.anewarray 19, 3) := by decide +kernel
theorem dX2_init_18 : decode (mC Y_X2_init) 18 = .ok (.putfield 21, 3) := by decide +kernel
theorem dX2_init_21 : decode (mC Y_X2_init) 21 = .ok (.iconst 0, 1) := by decide +kernel
theorem dX2_init_22 : decode (mC Y_X2_init) 22 = .ok (.istore_n 2, 1) := by decide +kernel
theorem dX2_init_23 : decode (mC Y_X2_init) 23 = .ok (.iload_n 2, 1) := by decide +kernel
theorem dX2_init_24 : decode (mC Y_X2_init) 24 = .ok (.aload_n 0, 1) := by decide +kernel
theorem dX2_init_25 : decode (mC Y_X2_init) 25 = .ok (.getfield 21, 3) := by decide +kernel
theorem dX2_init_28 : decode (mC Y_X2_init) 28 = .ok (.arraylength, 1) := by decide +kernel
theorem dX2_init_29 : decode (mC Y_X2_init) 29 = .ok (.if_icmp .ge 22, 3) := by decide +kernel
theorem dX2_init_32 : decode (mC Y_X2_init) 32 = .ok (.aload_n 0, 1) := by decide +kernel
theorem dX2_init_33 : decode (mC Y_X2_init) 33 = .ok (.getfield 21, 3) := by decide +kernel
theorem dX2_init_36 : decode (mC Y_X2_init) 36 = .ok (.iload_n 2, 1) := by decide +kernel
theorem dX2_init_37 : decode (mC Y_X2_init) 37 = .ok (.new 19, 3) := by decide +kernel
theorem dX2_init_40 : decode (mC Y_X2_init) 40 = .ok (.dup, 1) := by decide +kernel
theorem dX2_init_41 : decode (mC Y_X2_init) 41 = .ok (.invokespecial 25, 3) := by decide +kernel
theorem dX2_init_44 : decode (mC Y_X2_init) 44 = .ok (.aastore, 1) := by decide +kernel
theorem dX2_init_45 : decode (mC Y_X2_init) 45 = .ok (.iinc 2 1, 3) := by decide +kernel
theorem dX2_init_48 : decode (mC Y_X2_init) 48 = .ok (.goto (-25), 3) := by decide +kernel
theorem dX2_init_51 : decode (mC Y_X2_init) 51 = .ok (.return_, 1) := by decide +kernel
theorem dX1_init_0 : decode (mC Y_X1_init) 0 = .ok (.aload_n 0, 1) := by decide +kernel
theorem dX1_init_1 : decode (mC Y_X1_init) 1 = .ok (.invokespecial 3, 3) := by decide +kernel
theorem dX1_init_4 : decode (mC Y_X1_init) 4 = .ok (.aload_n 0, 1) := by decide +kernel
theorem dX1_init_5 : decode (mC Y_X1_init) 5 = .ok (.bipush 6, 2) := by decide +kernel
theorem dX1_init_7 : decode (mC Y_X1_init) 7 = .ok (.newarray .int, 2) := by decide +kernel
theorem dX1_init_9 : decode (mC Y_X1_init) 9 = .ok (.putfield 11, 3) := by decide +kernel
theorem dX1_init_12 : decode (mC Y_X1_init) 12 = .ok (.aload_n 0, 1) := by decide +kernel
theorem dX1_init_13 : decode (mC Y_X1_init) 13 = .ok (.bipush 6, 2) := by decide +kernel
theorem dX1_init_15 : decode (mC Y_X1_init) 15 = .ok (.newarray .int, 2) := by decide +kernel
theorem dX1_init_17 : decode (mC Y_X1_init) 17 = .ok (.putfield 15, 3) := by decide +kernel
theorem dX1_init_20 : decode (mC Y_X1_init) 20 = .ok (.aload_n 0, 1) := by decide +kernel
theorem dX1_init_21 : decode (mC Y_X1_init) 21 = .ok (.bipush 6, 2) := by decide +kernel
theorem dX1_init_23 : decode (mC Y_X1_init) 23 = .ok (.newarray .int, 2) := by decide +kernel
theorem dX1_init_25 : decode (mC Y_X1_init) 25 = .ok (.putfield 18, 3) := by decide +kernel
theorem dX1_init_28 : decode (mC Y_X1_init) 28 = .ok (.aload_n 0, 1) := by decide +kernel
theorem dX1_init_29 : decode (mC Y_X1_init) 29 = .ok (.iconst 0, 1) := by decide +kernel
theorem dX1_init_30 : decode (mC Y_X1_init) 30 = .ok (.putfield 21, 3) := by decide +kernel
theorem dX1_init_33 : decode (mC Y_X1_init) 33 = .ok (.return_, 1) := by decide +kernel
theorem dX4_init_0 : decode (mC Y_X4_init) 0 = .ok (.aload_n 0, 1) := by decide +kernel
theorem dX4_init_1 : decode (mC Y_X4_init) 1 = .ok (.invokespecial 3, 3) := by decide +kernel
theorem dX4_init_4 : decode (mC Y_X4_init) 4 = .ok (.aload_n 0, 1) := by decide +kernel
theorem dX4_init_5 : decode (mC Y_X4_init) 5 = .ok (.bipush 7, 2) := by decide +kernel
theorem dX4_init_7 : decode (mC Y_X4_init) 7 = .ok (.newarray .int, 2) := by decide +kernel
theorem dX4_init_9 : decode (mC Y_X4_init) 9 = .ok (.putfield 9, 3) := by decide +kernel
theorem dX4_init_12 : decode (mC Y_X4_init) 12 = .ok (.aload_n 0, 1) := by decide +kernel
theorem dX4_init_13 : decode (mC Y_X4_init) 13 = .ok (.bipush 7, 2) := by decide +kernel
theorem dX4_init_15 : decode (mC Y_X4_init) 15 = .ok (.newarray .int, 2) := by decide +kernel
theorem dX4_init_17 : decode (mC Y_X4_init) 17 = .ok (.putfield 15, 3) := by decide +kernel
theorem dX4_init_20 : decode (mC Y_X4_init) 20 = .ok (.aload_n 0, 1) := by decide +kernel
theorem dX4_init_21 : decode (mC Y_X4_init) 21 = .ok (.iconst 0, 1) := by decide +kernel
theorem dX4_init_22 : decode (mC Y_X4_init) 22 = .ok (.putfield 18, 3) := by decide +kernel
theorem dX4_init_25 : decode (mC Y_X4_init) 25 = .ok (.aload_n 0, 1) := by decide +kernel
theorem dX4_init_26 : decode (mC Y_X4_init) 26 = .ok (.iconst 0, 1) := by decide +kernel
theorem dX4_init_27 : decode (mC Y_X4_init) 27 = .ok (.putfield 22, 3) := by decide +kernel
theorem dX4_init_30 : decode (mC Y_X4_init) 30 = .ok (.return_, 1) := by decide +kernel
theorem dX0_init_0 : decode (mC Y_X0_init) 0 = .ok (.aload_n 0, 1) := by decide +kernel
theorem dX0_init_1 : decode (mC Y_X0_init) 1 = .ok (.invokespecial 3, 3) := by decide +kernel
theorem dX0_init_4 : decode (mC Y_X0_init) 4 = .ok (.aload_n 0, 1) := by decide +kernel
theorem dX0_init_5 : decode (mC Y_X0_init) 5 = .ok (.bipush 12, 2) := by decide +kernel
theorem dX0_init_7 : decode (mC Y_X0_init) 7 = .ok (.newarray .int, 2) := by decide +kernel
theorem dX0_init_9 : decode (mC Y_X0_init) 9 = .ok (.putfield 9, 3) := by decide +kernel
theorem dX0_init_12 : decode (mC Y_X0_init) 12 = .ok (.aload_n 0, 1) := by decide +kernel
theorem dX0_init_13 : decode (mC Y_X0_init) 13 = .ok (.bipush 12, 2) := by decide +kernel
theorem dX0_init_15 : decode (mC Y_X0_init) 15 = .ok (.newarray .int, 2) := by decide +kernel
theorem dX0_init_17 : decode (mC Y_X0_init) 17 = .ok (.putfield 15, 3) := by decide +kernel
theorem dX0_init_20 : decode (mC Y_X0_init) 20 = .ok (.return_, 1) := by decide +kernel
theorem dX1_empty_0 : decode (mC Y_X1_empty) 0 = .ok (.aload_n 0, 1) := by decide +kernel
theorem dX1_empty_1 : decode (mC Y_X1_empty) 1 = .ok (.getfield 21, 3) := by decide +kernel
theorem dX1_empty_4 : decode (mC Y_X1_empty) 4 = .ok (.istore_n 1, 1) := by decide +kernel
theorem dX1_empty_5 : decode (mC Y_X1_empty) 5 = .ok (.aload_n 0, 1) := by decide +kernel
theorem dX1_empty_6 : decode (mC Y_X1_empty) 6 = .ok (.iconst 0, 1) := by decide +kernel
theorem dX1_empty_7 : decode (mC Y_X1_empty) 7 = .ok (.putfield 21, 3) := by decide +kernel
theorem dX1_empty_10 : decode (mC Y_X1_empty) 10 = .ok (.iload_n 1, 1) := by decide +kernel
theorem dX1_empty_11 : decode (mC Y_X1_empty) 11 = .ok (.ireturn, 1) := by decide +kernel
theorem dX2_empty_0 : decode (mC Y_X2_empty) 0 = .ok (.aload_n 0, 1) := by decide +kernel
theorem dX2_empty_1 : decode (mC Y_X2_empty) 1 = .ok (.iconst 0, 1) := by decide +kernel
theorem dX2_empty_2 : decode (mC Y_X2_empty) 2 = .ok (.putfield 7, 3) := by decide +kernel
theorem dX2_empty_5 : decode (mC Y_X2_empty) 5 = .ok (.return_, 1) := by decide +kernel
theorem dX2_isFull_0 : decode (mC Y_X2_isFull) 0 = .ok (.aload_n 0, 1) := by decide +kernel
theorem dX2_isFull_1 : decode (mC Y_X2_isFull) 1 = .ok (.getfield 7, 3) := by decide +kernel
theorem dX2_isFull_4 : decode (mC Y_X2_isFull) 4 = .ok (.aload_n 0, 1) := by decide +kernel
theorem dX2_isFull_5 : decode (mC Y_X2_isFull) 5 = .ok (.getfield 21, 3) := by decide +kernel
theorem dX2_isFull_8 : decode (mC Y_X2_isFull) 8 = .ok (.arraylength, 1) := by decide +kernel
theorem dX2_isFull_9 : decode (mC Y_X2_isFull) 9 = .ok (.if_icmp .lt 7, 3) := by decide +kernel
theorem dX2_isFull_12 : decode (mC Y_X2_isFull) 12 = .ok (.iconst 1, 1) := by decide +kernel
theorem dX2_isFull_13 : decode (mC Y_X2_isFull) 13 = .ok (.goto 4, 3) := by decide +kernel
theorem dX2_isFull_16 : decode (mC Y_X2_isFull) 16 = .ok (.iconst 0, 1) := by decide +kernel
theorem dX2_isFull_17 : decode (mC Y_X2_isFull) 17 = .ok (.ireturn, 1) := by decide +kernel
theorem dX2_dropLowest_0 : decode (mC Y_X2_dropLowest) 0 = .ok (.aload_n 0, 1) := by decide +kernel
theorem dX2_dropLowest_1 : decode (mC Y_X2_dropLowest) 1 = .ok (.getfield 21, 3) := by decide +kernel
theorem dX2_dropLowest_4 : decode (mC Y_X2_dropLowest) 4 = .ok (.iconst 0, 1) := by decide +kernel
theorem dX2_dropLowest_5 : decode (mC Y_X2_dropLowest) 5 = .ok (.aaload, 1) := by decide +kernel
theorem dX2_dropLowest_6 : decode (mC Y_X2_dropLowest) 6 = .ok (.astore_n 1, 1) := by decide +kernel
theorem dX2_dropLowest_7 : decode (mC Y_X2_dropLowest) 7 = .ok (.iconst 1, 1) := by decide +kernel
theorem dX2_dropLowest_8 : decode (mC Y_X2_dropLowest) 8 = .ok (.istore_n 2, 1) := by decide +kernel
theorem dX2_dropLowest_9 : decode (mC Y_X2_dropLowest) 9 = .ok (.iload_n 2, 1) := by decide +kernel
theorem dX2_dropLowest_10 : decode (mC Y_X2_dropLowest) 10 = .ok (.aload_n 0, 1) := by decide +kernel
theorem dX2_dropLowest_11 : decode (mC Y_X2_dropLowest) 11 = .ok (.getfield 21, 3) := by decide +kernel
theorem dX2_dropLowest_14 : decode (mC Y_X2_dropLowest) 14 = .ok (.arraylength, 1) := by decide +kernel
theorem dX2_dropLowest_15 : decode (mC Y_X2_dropLowest) 15 = .ok (.if_icmp .ge 23, 3) := by decide +kernel
theorem dX2_dropLowest_18 : decode (mC Y_X2_dropLowest) 18 = .ok (.aload_n 0, 1) := by decide +kernel
theorem dX2_dropLowest_19 : decode (mC Y_X2_dropLowest) 19 = .ok (.getfield 21, 3) := by decide +kernel
theorem dX2_dropLowest_22 : decode (mC Y_X2_dropLowest) 22 = .ok (.iload_n 2, 1) := by decide +kernel
theorem dX2_dropLowest_23 : decode (mC Y_X2_dropLowest) 23 = .ok (.iconst 1, 1) := by decide +kernel
theorem dX2_dropLowest_24 : decode (mC Y_X2_dropLowest) 24 = .ok (.isub, 1) := by decide +kernel
theorem dX2_dropLowest_25 : decode (mC Y_X2_dropLowest) 25 = .ok (.aload_n 0, 1) := by decide +kernel
theorem dX2_dropLowest_26 : decode (mC Y_X2_dropLowest) 26 = .ok (.getfield 21, 3) := by decide +kernel
theorem dX2_dropLowest_29 : decode (mC Y_X2_dropLowest) 29 = .ok (.iload_n 2, 1) := by decide +kernel
theorem dX2_dropLowest_30 : decode (mC Y_X2_dropLowest) 30 = .ok (.aaload, 1) := by decide +kernel
theorem dX2_dropLowest_31 : decode (mC Y_X2_dropLowest) 31 = .ok (.aastore, 1) := by decide +kernel
theorem dX2_dropLowest_32 : decode (mC Y_X2_dropLowest) 32 = .ok (.iinc 2 1, 3) := by decide +kernel
theorem dX2_dropLowest_35 : decode (mC Y_X2_dropLowest) 35 = .ok (.goto (-26), 3) := by decide +kernel
theorem dX2_dropLowest_38 : decode (mC Y_X2_dropLowest) 38 = .ok (.aload_n 0, 1) := by decide +kernel
theorem dX2_dropLowest_39 : decode (mC Y_X2_dropLowest) 39 = .ok (.getfield 21, 3) := by decide +kernel
theorem dX2_dropLowest_42 : decode (mC Y_X2_dropLowest) 42 = .ok (.aload_n 0, 1) := by decide +kernel
theorem dX2_dropLowest_43 : decode (mC Y_X2_dropLowest) 43 = .ok (.getfield 21, 3) := by decide +kernel
theorem dX2_dropLowest_46 : decode (mC Y_X2_dropLowest) 46 = .ok (.arraylength, 1) := by decide +kernel
theorem dX2_dropLowest_47 : decode (mC Y_X2_dropLowest) 47 = .ok (.iconst 1, 1) := by decide +kernel
theorem dX2_dropLowest_48 : decode (mC Y_X2_dropLowest) 48 = .ok (.isub, 1) := by decide +kernel
theorem dX2_dropLowest_49 : decode (mC Y_X2_dropLowest) 49 = .ok (.aload_n 1, 1) := by decide +kernel
theorem dX2_dropLowest_50 : decode (mC Y_X2_dropLowest) 50 = .ok (.aastore, 1) := by decide +kernel
theorem dX2_dropLowest_51 : decode (mC Y_X2_dropLowest) 51 = .ok (.aload_n 0, 1) := by decide +kernel
theorem dX2_dropLowest_52 : decode (mC Y_X2_dropLowest) 52 = .ok (.aload_n 0, 1) := by decide +kernel
theorem dX2_dropLowest_53 : decode (mC Y_X2_dropLowest) 53 = .ok (.getfield 21, 3) := by decide +kernel
theorem dX2_dropLowest_56 : decode (mC Y_X2_dropLowest) 56 = .ok (.arraylength, 1) := by decide +kernel
theorem dX2_dropLowest_57 : decode (mC Y_X2_dropLowest) 57 = .ok (.iconst 1, 1) := by decide +kernel
theorem dX2_dropLowest_58 : decode (mC Y_X2_dropLowest) 58 = .ok (.isub, 1) := by decide +kernel
theorem dX2_dropLowest_59 : decode (mC Y_X2_dropLowest) 59 = .ok (.putfield 7, 3) := by decide +kernel
theorem dX2_dropLowest_62 : decode (mC Y_X2_dropLowest) 62 = .ok (.return_, 1) := by decide +kernel
theorem dX2_put_0 : decode (mC Y_X2_put) 0 = .ok (.aload_n 0, 1) := by decide +kernel
theorem dX2_put_1 : decode (mC Y_X2_put) 1 = .ok (.invokevirtual 26, 3) := by decide +kernel
theorem dX2_put_4 : decode (mC Y_X2_put) 4 = .ok (.ifCond .eq 7, 3) := by decide +kernel
theorem dX2_put_7 : decode (mC Y_X2_put) 7 = .ok (.aload_n 0, 1) := by decide +kernel
theorem dX2_put_8 : decode (mC Y_X2_put) 8 = .ok (.invokevirtual 30, 3) := by decide +kernel
theorem dX2_put_11 : decode (mC Y_X2_put) 11 = .ok (.aload_n 0, 1) := by decide +kernel
theorem dX2_put_12 : decode (mC Y_X2_put) 12 = .ok (.getfield 21, 3) := by decide +kernel
theorem dX2_put_15 : decode (mC Y_X2_put) 15 = .ok (.aload_n 0, 1) := by decide +kernel
theorem dX2_put_16 : decode (mC Y_X2_put) 16 = .ok (.getfield 7, 3) := by decide +kernel
theorem dX2_put_19 : decode (mC Y_X2_put) 19 = .ok (.aaload, 1) := by decide +kernel
theorem dX2_put_20 : decode (mC Y_X2_put) 20 = .ok (.aload_n 1, 1) := by decide +kernel
theorem dX2_put_21 : decode (mC Y_X2_put) 21 = .ok (.invokevirtual 33, 3) := by decide +kernel
theorem dX2_put_24 : decode (mC Y_X2_put) 24 = .ok (.aload_n 0, 1) := by decide +kernel
theorem dX2_put_25 : decode (mC Y_X2_put) 25 = .ok (.dup, 1) := by decide +kernel
theorem dX2_put_26 : decode (mC Y_X2_put) 26 = .ok (.getfield 7, 3) := by decide +kernel
theorem dX2_put_29 : decode (mC Y_X2_put) 29 = .ok (.iconst 1, 1) := by decide +kernel
theorem dX2_put_30 : decode (mC Y_X2_put) 30 = .ok (.iadd, 1) := by decide +kernel
theorem dX2_put_31 : decode (mC Y_X2_put) 31 = .ok (.putfield 7, 3) := by decide +kernel
theorem dX2_put_34 : decode (mC Y_X2_put) 34 = .ok (.return_, 1) := by decide +kernel
theorem dX2_takeInto_0 : decode (mC Y_X2_takeInto) 0 = .ok (.aload_n 0, 1) := by decide +kernel
theorem dX2_takeInto_1 : decode (mC Y_X2_takeInto) 1 = .ok (.getfield 7, 3) := by decide +kernel
theorem dX2_takeInto_4 : decode (mC Y_X2_takeInto) 4 = .ok (.iconst 1, 1) := by decide +kernel
theorem dX2_takeInto_5 : decode (mC Y_X2_takeInto) 5 = .ok (.if_icmp .ge 5, 3) := by decide +kernel
theorem dX2_takeInto_8 : decode (mC Y_X2_takeInto) 8 = .ok (.iconst 0, 1) := by decide +kernel
theorem dX2_takeInto_9 : decode (mC Y_X2_takeInto) 9 = .ok (.ireturn, 1) := by decide +kernel
theorem dX2_takeInto_10 : decode (mC Y_X2_takeInto) 10 = .ok (.aload_n 0, 1) := by decide +kernel
theorem dX2_takeInto_11 : decode (mC Y_X2_takeInto) 11 = .ok (.dup, 1) := by decide +kernel
theorem dX2_takeInto_12 : decode (mC Y_X2_takeInto) 12 = .ok (.getfield 7, 3) := by decide +kernel
theorem dX2_takeInto_15 : decode (mC Y_X2_takeInto) 15 = .ok (.iconst 1, 1) := by decide +kernel
theorem dX2_takeInto_16 : decode (mC Y_X2_takeInto) 16 = .ok (.isub, 1) := by decide +kernel
theorem dX2_takeInto_17 : decode (mC Y_X2_takeInto) 17 = .ok (.putfield 7, 3) := by decide +kernel
theorem dX2_takeInto_20 : decode (mC Y_X2_takeInto) 20 = .ok (.aload_n 1, 1) := by decide +kernel
theorem dX2_takeInto_21 : decode (mC Y_X2_takeInto) 21 = .ok (.aload_n 0, 1) := by decide +kernel
theorem dX2_takeInto_22 : decode (mC Y_X2_takeInto) 22 = .ok (.getfield 21, 3) := by decide +kernel
theorem dX2_takeInto_25 : decode (mC Y_X2_takeInto) 25 = .ok (.aload_n 0, 1) := by decide +kernel
theorem dX2_takeInto_26 : decode (mC Y_X2_takeInto) 26 = .ok (.getfield 7, 3) := by decide +kernel
theorem dX2_takeInto_29 : decode (mC Y_X2_takeInto) 29 = .ok (.aaload, 1) := by decide +kernel
theorem dX2_takeInto_30 : decode (mC Y_X2_takeInto) 30 = .ok (.invokevirtual 33, 3) := by decide +kernel
theorem dX2_takeInto_33 : decode (mC Y_X2_takeInto) 33 = .ok (.iconst 1, 1) := by decide +kernel
theorem dX2_takeInto_34 : decode (mC Y_X2_takeInto) 34 = .ok (.ireturn, 1) := by decide +kernel
theorem dX2_size_0 : decode (mC Y_X2_size) 0 = .ok (.aload_n 0, 1) := by decide +kernel
theorem dX2_size_1 : decode (mC Y_X2_size) 1 = .ok (.getfield 7, 3) := by decide +kernel
theorem dX2_size_4 : decode (mC Y_X2_size) 4 = .ok (.ireturn, 1) := by decide +kernel
theorem dX4_markClashes_0 : decode (mC Y_X4_markClashes) 0 = .ok (.iconst 0, 1) := by decide +kernel
theorem dX4_markClashes_1 : decode (mC Y_X4_markClashes) 1 = .ok (.istore_n 2, 1) := by decide +kernel
theorem dX4_markClashes_2 : decode (mC Y_X4_markClashes) 2 = .ok (.iload_n 2, 1) := by decide +kernel
theorem dX4_markClashes_3 : decode (mC Y_X4_markClashes) 3 = .ok (.aload_n 0, 1) := by decide +kernel
theorem dX4_markClashes_4 : decode (mC Y_X4_markClashes) 4 = .ok (.getfield 18, 3) := by decide +kernel
theorem dX4_markClashes_7 : decode (mC Y_X4_markClashes) 7 = .ok (.if_icmp .ge 43, 3) := by decide +kernel
theorem dX4_markClashes_10 : decode (mC Y_X4_markClashes) 10 = .ok (.iconst 0, 1) := by decide +kernel
theorem dX4_markClashes_11 : decode (mC Y_X4_markClashes) 11 = .ok (.istore_n 3, 1) := by decide +kernel
theorem dX4_markClashes_12 : decode (mC Y_X4_markClashes) 12 = .ok (.iload_n 3, 1) := by decide +kernel
theorem dX4_markClashes_13 : decode (mC Y_X4_markClashes) 13 = .ok (.iload_n 2, 1) := by decide +kernel
theorem dX4_markClashes_14 : decode (mC Y_X4_markClashes) 14 = .ok (.if_icmp .ge 30, 3) := by decide +kernel
theorem dX4_markClashes_17 : decode (mC Y_X4_markClashes) 17 = .ok (.aload_n 1, 1) := by decide +kernel
theorem dX4_markClashes_18 : decode (mC Y_X4_markClashes) 18 = .ok (.iload_n 2, 1) := by decide +kernel
theorem dX4_markClashes_19 : decode (mC Y_X4_markClashes) 19 = .ok (.iload_n 3, 1) := by decide +kernel
theorem dX4_markClashes_20 : decode (mC Y_X4_markClashes) 20 = .ok (.invokevirtual 52, 3) := by decide +kernel
theorem dX4_markClashes_23 : decode (mC Y_X4_markClashes) 23 = .ok (.ifCond .eq 15, 3) := by decide +kernel
theorem dX4_markClashes_26 : decode (mC Y_X4_markClashes) 26 = .ok (.aload_n 0, 1) := by decide +kernel
theorem dX4_markClashes_27 : decode (mC Y_X4_markClashes) 27 = .ok (.getfield 9, 3) := by decide +kernel
theorem dX4_markClashes_30 : decode (mC Y_X4_markClashes) 30 = .ok (.iload_n 2, 1) := by decide +kernel
theorem dX4_markClashes_31 : decode (mC Y_X4_markClashes) 31 = .ok (.dup2, 1) := by decide +kernel
theorem dX4_markClashes_32 : decode (mC Y_X4_markClashes) 32 = .ok (.iaload, 1) := by decide +kernel
theorem dX4_markClashes_33 : decode (mC Y_X4_markClashes) 33 = .ok (.iconst 1, 1) := by decide +kernel
theorem dX4_markClashes_34 : decode (mC Y_X4_markClashes) 34 = .ok (.iload_n 3, 1) := by decide +kernel
theorem dX4_markClashes_35 : decode (mC Y_X4_markClashes) 35 = .ok (.ishl, 1) := by decide +kernel
theorem dX4_markClashes_36 : decode (mC Y_X4_markClashes) 36 = .ok (.ior, 1) := by decide +kernel
theorem dX4_markClashes_37 : decode (mC Y_X4_markClashes) 37 = .ok (.iastore, 1) := by decide +kernel
theorem dX4_markClashes_38 : decode (mC Y_X4_markClashes) 38 = .ok (.iinc 3 1, 3) := by decide +kernel
theorem dX4_markClashes_41 : decode (mC Y_X4_markClashes) 41 = .ok (.goto (-29), 3) := by decide +kernel
theorem dX4_markClashes_44 : decode (mC Y_X4_markClashes) 44 = .ok (.iinc 2 1, 3) := by decide +kernel
theorem dX4_markClashes_47 : decode (mC Y_X4_markClashes) 47 = .ok (.goto (-45), 3) := by decide +kernel
theorem dX4_markClashes_50 : decode (mC Y_X4_markClashes) 50 = .ok (.return_, 1) := by decide +kernel
theorem dX4_isFree_0 : decode (mC Y_X4_isFree) 0 = .ok (.iconst 0, 1) := by decide +kernel
theorem dX4_isFree_1 : decode (mC Y_X4_isFree) 1 = .ok (.istore_n 3, 1) := by decide +kernel
theorem dX4_isFree_2 : decode (mC Y_X4_isFree) 2 = .ok (.iload_n 3, 1) := by decide +kernel
theorem dX4_isFree_3 : decode (mC Y_X4_isFree) 3 = .ok (.iload_n 1, 1) := by decide +kernel
theorem dX4_isFree_4 : decode (mC Y_X4_isFree) 4 = .ok (.if_icmp .ge 34, 3) := by decide +kernel
theorem dX4_isFree_7 : decode (mC Y_X4_isFree) 7 = .ok (.aload_n 0, 1) := by decide +kernel
theorem dX4_isFree_8 : decode (mC Y_X4_isFree) 8 = .ok (.getfield 15, 3) := by decide +kernel
theorem dX4_isFree_11 : decode (mC Y_X4_isFree) 11 = .ok (.iload_n 3, 1) := by decide +kernel
theorem dX4_isFree_12 : decode (mC Y_X4_isFree) 12 = .ok (.iaload, 1) := by decide +kernel
theorem dX4_isFree_13 : decode (mC Y_X4_isFree) 13 = .ok (.iload_n 2, 1) := by decide +kernel
theorem dX4_isFree_14 : decode (mC Y_X4_isFree) 14 = .ok (.if_icmp .ne 18, 3) := by decide +kernel
theorem dX4_isFree_17 : decode (mC Y_X4_isFree) 17 = .ok (.aload_n 0, 1) := by decide +kernel
theorem dX4_isFree_18 : decode (mC Y_X4_isFree) 18 = .ok (.getfield 9, 3) := by decide +kernel
theorem dX4_isFree_21 : decode (mC Y_X4_isFree) 21 = .ok (.iload_n 1, 1) := by decide +kernel
theorem dX4_isFree_22 : decode (mC Y_X4_isFree) 22 = .ok (.iaload, 1) := by decide +kernel
theorem dX4_isFree_23 : decode (mC Y_X4_isFree) 23 = .ok (.iconst 1, 1) := by decide +kernel
theorem dX4_isFree_24 : decode (mC Y_X4_isFree) 24 = .ok (.iload_n 3, 1) := by decide +kernel
theorem dX4_isFree_25 : decode (mC Y_X4_isFree) 25 = .ok (.ishl, 1) := by decide +kernel
theorem dX4_isFree_26 : decode (mC Y_X4_isFree) 26 = .ok (.iand, 1) := by decide +kernel
theorem dX4_isFree_27 : decode (mC Y_X4_isFree) 27 = .ok (.ifCond .eq 5, 3) := by decide +kernel
theorem dX4_isFree_30 : decode (mC Y_X4_isFree) 30 = .ok (.iconst 0, 1) := by decide +kernel
theorem dX4_isFree_31 : decode (mC Y_X4_isFree) 31 = .ok (.ireturn, 1) := by decide +kernel
theorem dX4_isFree_32 : decode (mC Y_X4_isFree) 32 = .ok (.iinc 3 1, 3) := by decide +kernel
theorem dX4_isFree_35 : decode (mC Y_X4_isFree) 35 = .ok (.goto (-33), 3) := by decide +kernel
theorem dX4_isFree_38 : decode (mC Y_X4_isFree) 38 = .ok (.iconst 1, 1) := by decide +kernel
theorem dX4_isFree_39 : decode (mC Y_X4_isFree) 39 = .ok (.ireturn, 1) := by decide +kernel
theorem dX4_paint_0 {k : Nat} : decode (mC (Y_X4_paint k)) 0 = .ok (.iload_n 1, 1) := by show decode cX4_paint 0 = _; decide +kernel
theorem dX4_paint_1 {k : Nat} : decode (mC (Y_X4_paint k)) 1 = .ok (.aload_n 0, 1) := by show decode cX4_paint 1 = _; decide +kernel
theorem dX4_paint_2 {k : Nat} : decode (mC (Y_X4_paint k)) 2 = .ok (.getfield 18, 3) := by show decode cX4_paint 2 = _; decide +kernel
theorem dX4_paint_5 {k : Nat} : decode (mC (Y_X4_paint k)) 5 = .ok (.if_icmp .lt 5, 3) := by show decode cX4_paint 5 = _; decide +kernel
theorem dX4_paint_8 {k : Nat} : decode (mC (Y_X4_paint k)) 8 = .ok (.iconst 1, 1) := by show decode cX4_paint 8 = _; decide +kernel
theorem dX4_paint_9 {k : Nat} : decode (mC (Y_X4_paint k)) 9 = .ok (.ireturn, 1) := by show decode cX4_paint 9 = _; decide +kernel
theorem dX4_paint_10 {k : Nat} : decode (mC (Y_X4_paint k)) 10 = .ok (.aload_n 0, 1) := by show decode cX4_paint 10 = _; decide +kernel
theorem dX4_paint_11 {k : Nat} : decode (mC (Y_X4_paint k)) 11 = .ok (.getfield 22, 3) := by show decode cX4_paint 11 = _; decide +kernel
theorem dX4_paint_14 {k : Nat} : decode (mC (Y_X4_paint k)) 14 = .ok (.iconst 1, 1) := by show decode cX4_paint 14 = _; decide +kernel
theorem dX4_paint_15 {k : Nat} : decode (mC (Y_X4_paint k)) 15 = .ok (.iload_n 1, 1) := by show decode cX4_paint 15 = _; decide +kernel
theorem dX4_paint_16 {k : Nat} : decode (mC (Y_X4_paint k)) 16 = .ok (.ishl, 1) := by show decode cX4_paint 16 = _; decide +kernel
theorem dX4_paint_17 {k : Nat} : decode (mC (Y_X4_paint k)) 17 = .ok (.iand, 1) := by show decode cX4_paint 17 = _; decide +kernel
theorem dX4_paint_18 {k : Nat} : decode (mC (Y_X4_paint k)) 18 = .ok (.ifCond .ne 21, 3) := by show decode cX4_paint 18 = _; decide +kernel
theorem dX4_paint_21 {k : Nat} : decode (mC (Y_X4_paint k)) 21 = .ok (.aload_n 0, 1) := by show decode cX4_paint 21 = _; decide +kernel
theorem dX4_paint_22 {k : Nat} : decode (mC (Y_X4_paint k)) 22 = .ok (.getfield 15, 3) := by show decode cX4_paint 22 = _; decide +kernel
theorem dX4_paint_25 {k : Nat} : decode (mC (Y_X4_paint k)) 25 = .ok (.iload_n 1, 1) := by show decode cX4_paint 25 = _; decide +kernel
theorem dX4_paint_26 {k : Nat} : decode (mC (Y_X4_paint k)) 26 = .ok (.bipush (-4), 2) := by show decode cX4_paint 26 = _; decide +kernel
theorem dX4_paint_28 {k : Nat} : decode (mC (Y_X4_paint k)) 28 = .ok (.iastore, 1) := by show decode cX4_paint 28 = _; decide +kernel
theorem dX4_paint_29 {k : Nat} : decode (mC (Y_X4_paint k)) 29 = .ok (.aload_n 0, 1) := by show decode cX4_paint 29 = _; decide +kernel
theorem dX4_paint_30 {k : Nat} : decode (mC (Y_X4_paint k)) 30 = .ok (.iload_n 1, 1) := by show decode cX4_paint 30 = _; decide +kernel
theorem dX4_paint_31 {k : Nat} : decode (mC (Y_X4_paint k)) 31 = .ok (.iconst 1, 1) := by show decode cX4_paint 31 = _; decide +kernel
theorem dX4_paint_32 {k : Nat} : decode (mC (Y_X4_paint k)) 32 = .ok (.iadd, 1) := by show decode cX4_paint 32 = _; decide +kernel
theorem dX4_paint_33 {k : Nat} : decode (mC (Y_X4_paint k)) 33 = .ok (.iload_n 2, 1) := by show decode cX4_paint 33 = _; decide +kernel
theorem dX4_paint_34 {k : Nat} : decode (mC (Y_X4_paint k)) 34 = .ok (.iload_n 3, 1) := by show decode cX4_paint 34 = _; decide +kernel
theorem dX4_paint_35 {k : Nat} : decode (mC (Y_X4_paint k)) 35 = .ok (.invokestatic 48, 3) := by show decode cX4_paint 35 = _; decide +kernel
theorem dX4_paint_38 {k : Nat} : decode (mC (Y_X4_paint k)) 38 = .ok (.ireturn, 1) := by show decode cX4_paint 38 = _; decide +kernel
theorem dX4_paint_39 {k : Nat} : decode (mC (Y_X4_paint k)) 39 = .ok (.iload_n 2, 1) := by show decode cX4_paint 39 = _; decide +kernel
theorem dX4_paint_40 {k : Nat} : decode (mC (Y_X4_paint k)) 40 = .ok (.iconst 1, 1) := by show decode cX4_paint 40 = _; decide +kernel
theorem dX4_paint_41 {k : Nat} : decode (mC (Y_X4_paint k)) 41 = .ok (.iadd, 1) := by show decode cX4_paint 41 = _; decide +kernel
theorem dX4_paint_42 {k : Nat} : decode (mC (Y_X4_paint k)) 42 = .ok (.iload_n 3, 1) := by show decode cX4_paint 42 = _; decide +kernel
theorem dX4_paint_43 {k : Nat} : decode (mC (Y_X4_paint k)) 43 = .ok (.invokestatic 56, 3) := by show decode cX4_paint 43 = _; decide +kernel
theorem dX4_paint_46 {k : Nat} : decode (mC (Y_X4_paint k)) 46 = .ok (.istore 4, 2) := by show decode cX4_paint 46 = _; decide +kernel
theorem dX4_paint_48 {k : Nat} : decode (mC (Y_X4_paint k)) 48 = .ok (.iconst 1, 1) := by show decode cX4_paint 48 = _; decide +kernel
theorem dX4_paint_49 {k : Nat} : decode (mC (Y_X4_paint k)) 49 = .ok (.istore 5, 2) := by show decode cX4_paint 49 = _; decide +kernel
theorem dX4_paint_51 {k : Nat} : decode (mC (Y_X4_paint k)) 51 = .ok (.iload 5, 2) := by show decode cX4_paint 51 = _; decide +kernel
theorem dX4_paint_53 {k : Nat} : decode (mC (Y_X4_paint k)) 53 = .ok (.iload 4, 2) := by show decode cX4_paint 53 = _; decide +kernel
theorem dX4_paint_55 {k : Nat} : decode (mC (Y_X4_paint k)) 55 = .ok (.if_icmp .gt 46, 3) := by show decode cX4_paint 55 = _; decide +kernel
theorem dX4_paint_58 {k : Nat} : decode (mC (Y_X4_paint k)) 58 = .ok (.aload_n 0, 1) := by show decode cX4_paint 58 = _; decide +kernel
theorem dX4_paint_59 {k : Nat} : decode (mC (Y_X4_paint k)) 59 = .ok (.iload_n 1, 1) := by show decode cX4_paint 59 = _; decide +kernel
theorem dX4_paint_60 {k : Nat} : decode (mC (Y_X4_paint k)) 60 = .ok (.iload 5, 2) := by show decode cX4_paint 60 = _; decide +kernel
theorem dX4_paint_62 {k : Nat} : decode (mC (Y_X4_paint k)) 62 = .ok (.invokevirtual 61, 3) := by show decode cX4_paint 62 = _; decide +kernel
theorem dX4_paint_65 {k : Nat} : decode (mC (Y_X4_paint k)) 65 = .ok (.ifCond .eq 30, 3) := by show decode cX4_paint 65 = _; decide +kernel
theorem dX4_paint_68 {k : Nat} : decode (mC (Y_X4_paint k)) 68 = .ok (.aload_n 0, 1) := by show decode cX4_paint 68 = _; decide +kernel
theorem dX4_paint_69 {k : Nat} : decode (mC (Y_X4_paint k)) 69 = .ok (.getfield 15, 3) := by show decode cX4_paint 69 = _; decide +kernel
theorem dX4_paint_72 {k : Nat} : decode (mC (Y_X4_paint k)) 72 = .ok (.iload_n 1, 1) := by show decode cX4_paint 72 = _; decide +kernel
theorem dX4_paint_73 {k : Nat} : decode (mC (Y_X4_paint k)) 73 = .ok (.iload 5, 2) := by show decode cX4_paint 73 = _; decide +kernel
theorem dX4_paint_75 {k : Nat} : decode (mC (Y_X4_paint k)) 75 = .ok (.iastore, 1) := by show decode cX4_paint 75 = _; decide +kernel
theorem dX4_paint_76 {k : Nat} : decode (mC (Y_X4_paint k)) 76 = .ok (.aload_n 0, 1) := by show decode cX4_paint 76 = _; decide +kernel
theorem dX4_paint_77 {k : Nat} : decode (mC (Y_X4_paint k)) 77 = .ok (.iload_n 1, 1) := by show decode cX4_paint 77 = _; decide +kernel
theorem dX4_paint_78 {k : Nat} : decode (mC (Y_X4_paint k)) 78 = .ok (.iconst 1, 1) := by show decode cX4_paint 78 = _; decide +kernel
theorem dX4_paint_79 {k : Nat} : decode (mC (Y_X4_paint k)) 79 = .ok (.iadd, 1) := by show decode cX4_paint 79 = _; decide +kernel
theorem dX4_paint_80 {k : Nat} : decode (mC (Y_X4_paint k)) 80 = .ok (.iload_n 2, 1) := by show decode cX4_paint 80 = _; decide +kernel
theorem dX4_paint_81 {k : Nat} : decode (mC (Y_X4_paint k)) 81 = .ok (.iload 5, 2) := by show decode cX4_paint 81 = _; decide +kernel
theorem dX4_paint_83 {k : Nat} : decode (mC (Y_X4_paint k)) 83 = .ok (.invokestatic 65, 3) := by show decode cX4_paint 83 = _; decide +kernel
theorem dX4_paint_86 {k : Nat} : decode (mC (Y_X4_paint k)) 86 = .ok (.iload_n 3, 1) := by show decode cX4_paint 86 = _; decide +kernel
theorem dX4_paint_87 {k : Nat} : decode (mC (Y_X4_paint k)) 87 = .ok (.invokestatic 48, 3) := by show decode cX4_paint 87 = _; decide +kernel
theorem dX4_paint_90 {k : Nat} : decode (mC (Y_X4_paint k)) 90 = .ok (.ifCond .eq 5, 3) := by show decode cX4_paint 90 = _; decide +kernel
theorem dX4_paint_93 {k : Nat} : decode (mC (Y_X4_paint k)) 93 = .ok (.iconst 1, 1) := by show decode cX4_paint 93 = _; decide +kernel
theorem dX4_paint_94 {k : Nat} : decode (mC (Y_X4_paint k)) 94 = .ok (.ireturn, 1) := by show decode cX4_paint 94 = _; decide +kernel
theorem dX4_paint_95 {k : Nat} : decode (mC (Y_X4_paint k)) 95 = .ok (.iinc 5 1, 3) := by show decode cX4_paint 95 = _; decide +kernel
theorem dX4_paint_98 {k : Nat} : decode (mC (Y_X4_paint k)) 98 = .ok (.goto (-47), 3) := by show decode cX4_paint 98 = _; decide +kernel
theorem dX4_paint_101 {k : Nat} : decode (mC (Y_X4_paint k)) 101 = .ok (.iconst 0, 1) := by show decode cX4_paint 101 = _; decide +kernel
theorem dX4_paint_102 {k : Nat} : decode (mC (Y_X4_paint k)) 102 = .ok (.ireturn, 1) := by show decode cX4_paint 102 = _; decide +kernel
theorem dX4_choose_0 : decode (mC Y_X4_choose) 0 = .ok (.aload_n 0, 1) := by decide +kernel
theorem dX4_choose_1 : decode (mC Y_X4_choose) 1 = .ok (.aload_n 1, 1) := by decide +kernel
theorem dX4_choose_2 : decode (mC Y_X4_choose) 2 = .ok (.invokevirtual 25, 3) := by decide +kernel
theorem dX4_choose_5 : decode (mC Y_X4_choose) 5 = .ok (.putfield 18, 3) := by decide +kernel
theorem dX4_choose_8 : decode (mC Y_X4_choose) 8 = .ok (.aload_n 0, 1) := by decide +kernel
theorem dX4_choose_9 : decode (mC Y_X4_choose) 9 = .ok (.aload_n 1, 1) := by decide +kernel
theorem dX4_choose_10 : decode (mC Y_X4_choose) 10 = .ok (.iload_n 2, 1) := by decide +kernel
theorem dX4_choose_11 : decode (mC Y_X4_choose) 11 = .ok (.invokevirtual 31, 3) := by decide +kernel
theorem dX4_choose_14 : decode (mC Y_X4_choose) 14 = .ok (.putfield 22, 3) := by decide +kernel
theorem dX4_choose_17 : decode (mC Y_X4_choose) 17 = .ok (.aload_n 0, 1) := by decide +kernel
theorem dX4_choose_18 : decode (mC Y_X4_choose) 18 = .ok (.getfield 9, 3) := by decide +kernel
theorem dX4_choose_21 : decode (mC Y_X4_choose) 21 = .ok (.iconst 0, 1) := by decide +kernel
theorem dX4_choose_22 : decode (mC Y_X4_choose) 22 = .ok (.invokestatic 35, 3) := by decide +kernel
theorem dX4_choose_25 : decode (mC Y_X4_choose) 25 = .ok (.iconst 0, 1) := by decide +kernel
theorem dX4_choose_26 : decode (mC Y_X4_choose) 26 = .ok (.istore_n 3, 1) := by decide +kernel
theorem dX4_choose_27 : decode (mC Y_X4_choose) 27 = .ok (.iload_n 3, 1) := by decide +kernel
theorem dX4_choose_28 : decode (mC Y_X4_choose) 28 = .ok (.bipush 24, 2) := by decide +kernel
theorem dX4_choose_30 : decode (mC Y_X4_choose) 30 = .ok (.if_icmp .gt 18, 3) := by decide +kernel
theorem dX4_choose_33 : decode (mC Y_X4_choose) 33 = .ok (.aload_n 0, 1) := by decide +kernel
theorem dX4_choose_34 : decode (mC Y_X4_choose) 34 = .ok (.aload_n 1, 1) := by decide +kernel
theorem dX4_choose_35 : decode (mC Y_X4_choose) 35 = .ok (.invokevirtual 41, 3) := by decide +kernel
theorem dX4_choose_38 : decode (mC Y_X4_choose) 38 = .ok (.aload_n 1, 1) := by decide +kernel
theorem dX4_choose_39 : decode (mC Y_X4_choose) 39 = .ok (.invokevirtual 45, 3) := by decide +kernel
theorem dX4_choose_42 : decode (mC Y_X4_choose) 42 = .ok (.iinc 3 1, 3) := by decide +kernel
theorem dX4_choose_45 : decode (mC Y_X4_choose) 45 = .ok (.goto (-18), 3) := by decide +kernel
theorem dX4_choose_48 : decode (mC Y_X4_choose) 48 = .ok (.iconst 0, 1) := by decide +kernel
theorem dX4_choose_49 : decode (mC Y_X4_choose) 49 = .ok (.istore_n 3, 1) := by decide +kernel
theorem dX4_choose_50 : decode (mC Y_X4_choose) 50 = .ok (.iload_n 3, 1) := by decide +kernel
theorem dX4_choose_51 : decode (mC Y_X4_choose) 51 = .ok (.bipush 7, 2) := by decide +kernel
theorem dX4_choose_53 : decode (mC Y_X4_choose) 53 = .ok (.if_icmp .ge 21, 3) := by decide +kernel
theorem dX4_choose_56 : decode (mC Y_X4_choose) 56 = .ok (.aload_n 0, 1) := by decide +kernel
theorem dX4_choose_57 : decode (mC Y_X4_choose) 57 = .ok (.iconst 0, 1) := by decide +kernel
theorem dX4_choose_58 : decode (mC Y_X4_choose) 58 = .ok (.iconst 0, 1) := by decide +kernel
theorem dX4_choose_59 : decode (mC Y_X4_choose) 59 = .ok (.iload_n 3, 1) := by decide +kernel
theorem dX4_choose_60 : decode (mC Y_X4_choose) 60 = .ok (.invokestatic 48, 3) := by decide +kernel
theorem dX4_choose_63 : decode (mC Y_X4_choose) 63 = .ok (.ifCond .eq 5, 3) := by decide +kernel
theorem dX4_choose_66 : decode (mC Y_X4_choose) 66 = .ok (.iload_n 3, 1) := by decide +kernel
theorem dX4_choose_67 : decode (mC Y_X4_choose) 67 = .ok (.ireturn, 1) := by decide +kernel
theorem dX4_choose_68 : decode (mC Y_X4_choose) 68 = .ok (.iinc 3 1, 3) := by decide +kernel
theorem dX4_choose_71 : decode (mC Y_X4_choose) 71 = .ok (.goto (-21), 3) := by decide +kernel
theorem dX4_choose_74 : decode (mC Y_X4_choose) 74 = .ok (.aload_n 0, 1) := by decide +kernel
theorem dX4_choose_75 : decode (mC Y_X4_choose) 75 = .ok (.iconst 0, 1) := by decide +kernel
theorem dX4_choose_76 : decode (mC Y_X4_choose) 76 = .ok (.iconst 0, 1) := by decide +kernel
theorem dX4_choose_77 : decode (mC Y_X4_choose) 77 = .ok (.bipush 7, 2) := by decide +kernel
theorem dX4_choose_79 : decode (mC Y_X4_choose) 79 = .ok (.invokestatic 48, 3) := by decide +kernel
theorem dX4_choose_82 : decode (mC Y_X4_choose) 82 = .ok (.pop, 1) := by decide +kernel
theorem dX4_choose_83 : decode (mC Y_X4_choose) 83 = .ok (.bipush 7, 2) := by decide +kernel
theorem dX4_choose_85 : decode (mC Y_X4_choose) 85 = .ok (.ireturn, 1) := by decide +kernel
theorem dX4_tintOf_0 : decode (mC Y_X4_tintOf) 0 = .ok (.aload_n 0, 1) := by decide +kernel
theorem dX4_tintOf_1 : decode (mC Y_X4_tintOf) 1 = .ok (.getfield 15, 3) := by decide +kernel
theorem dX4_tintOf_4 : decode (mC Y_X4_tintOf) 4 = .ok (.iload_n 1, 1) := by decide +kernel
theorem dX4_tintOf_5 : decode (mC Y_X4_tintOf) 5 = .ok (.iaload, 1) := by decide +kernel
theorem dX4_tintOf_6 : decode (mC Y_X4_tintOf) 6 = .ok (.ireturn, 1) := by decide +kernel
theorem dX1_note_0 : decode (mC Y_X1_note) 0 = .ok (.aload_n 0, 1) := by decide +kernel
theorem dX1_note_1 : decode (mC Y_X1_note) 1 = .ok (.getfield 21, 3) := by decide +kernel
theorem dX1_note_4 : decode (mC Y_X1_note) 4 = .ok (.bipush 6, 2) := by decide +kernel
theorem dX1_note_6 : decode (mC Y_X1_note) 6 = .ok (.if_icmp .lt 5, 3) := by decide +kernel
theorem dX1_note_9 : decode (mC Y_X1_note) 9 = .ok (.iconst 0, 1) := by decide +kernel
theorem dX1_note_10 : decode (mC Y_X1_note) 10 = .ok (.ireturn, 1) := by decide +kernel
theorem dX1_note_11 : decode (mC Y_X1_note) 11 = .ok (.aload_n 0, 1) := by decide +kernel
theorem dX1_note_12 : decode (mC Y_X1_note) 12 = .ok (.getfield 11, 3) := by decide +kernel
theorem dX1_note_15 : decode (mC Y_X1_note) 15 = .ok (.aload_n 0, 1) := by decide +kernel
theorem dX1_note_16 : decode (mC Y_X1_note) 16 = .ok (.getfield 21, 3) := by decide +kernel
theorem dX1_note_19 : decode (mC Y_X1_note) 19 = .ok (.iload_n 1, 1) := by decide +kernel
theorem dX1_note_20 : decode (mC Y_X1_note) 20 = .ok (.iastore, 1) := by decide +kernel
theorem dX1_note_21 : decode (mC Y_X1_note) 21 = .ok (.aload_n 0, 1) := by decide +kernel
theorem dX1_note_22 : decode (mC Y_X1_note) 22 = .ok (.getfield 15, 3) := by decide +kernel
theorem dX1_note_25 : decode (mC Y_X1_note) 25 = .ok (.aload_n 0, 1) := by decide +kernel
theorem dX1_note_26 : decode (mC Y_X1_note) 26 = .ok (.getfield 21, 3) := by decide +kernel
theorem dX1_note_29 : decode (mC Y_X1_note) 29 = .ok (.iload_n 2, 1) := by decide +kernel
theorem dX1_note_30 : decode (mC Y_X1_note) 30 = .ok (.iastore, 1) := by decide +kernel
theorem dX1_note_31 : decode (mC Y_X1_note) 31 = .ok (.aload_n 0, 1) := by decide +kernel
theorem dX1_note_32 : decode (mC Y_X1_note) 32 = .ok (.getfield 18, 3) := by decide +kernel
theorem dX1_note_35 : decode (mC Y_X1_note) 35 = .ok (.aload_n 0, 1) := by decide +kernel
theorem dX1_note_36 : decode (mC Y_X1_note) 36 = .ok (.getfield 21, 3) := by decide +kernel
theorem dX1_note_39 : decode (mC Y_X1_note) 39 = .ok (.iload_n 3, 1) := by decide +kernel
theorem dX1_note_40 : decode (mC Y_X1_note) 40 = .ok (.iastore, 1) := by decide +kernel
theorem dX1_note_41 : decode (mC Y_X1_note) 41 = .ok (.aload_n 0, 1) := by decide +kernel
theorem dX1_note_42 : decode (mC Y_X1_note) 42 = .ok (.dup, 1) := by decide +kernel
theorem dX1_note_43 : decode (mC Y_X1_note) 43 = .ok (.getfield 21, 3) := by decide +kernel
theorem dX1_note_46 : decode (mC Y_X1_note) 46 = .ok (.iconst 1, 1) := by decide +kernel
theorem dX1_note_47 : decode (mC Y_X1_note) 47 = .ok (.iadd, 1) := by decide +kernel
theorem dX1_note_48 : decode (mC Y_X1_note) 48 = .ok (.putfield 21, 3) := by decide +kernel
theorem dX1_note_51 : decode (mC Y_X1_note) 51 = .ok (.iconst 1, 1) := by decide +kernel
theorem dX1_note_52 : decode (mC Y_X1_note) 52 = .ok (.ireturn, 1) := by decide +kernel
theorem dX1_size_0 : decode (mC Y_X1_size) 0 = .ok (.aload_n 0, 1) := by decide +kernel
theorem dX1_size_1 : decode (mC Y_X1_size) 1 = .ok (.getfield 21, 3) := by decide +kernel
theorem dX1_size_4 : decode (mC Y_X1_size) 4 = .ok (.ireturn, 1) := by decide +kernel
theorem dX1_fitPerson_0 : decode (mC Y_X1_fitPerson) 0 = .ok (.iconst 0, 1) := by decide +kernel
theorem dX1_fitPerson_1 : decode (mC Y_X1_fitPerson) 1 = .ok (.istore 5, 2) := by decide +kernel
theorem dX1_fitPerson_3 : decode (mC Y_X1_fitPerson) 3 = .ok (.iload 5, 2) := by decide +kernel
theorem dX1_fitPerson_5 : decode (mC Y_X1_fitPerson) 5 = .ok (.aload_n 0, 1) := by decide +kernel
theorem dX1_fitPerson_6 : decode (mC Y_X1_fitPerson) 6 = .ok (.getfield 21, 3) := by decide +kernel
theorem dX1_fitPerson_9 : decode (mC Y_X1_fitPerson) 9 = .ok (.if_icmp .ge 47, 3) := by decide +kernel
theorem dX1_fitPerson_12 : decode (mC Y_X1_fitPerson) 12 = .ok (.aload_n 0, 1) := by decide +kernel
theorem dX1_fitPerson_13 : decode (mC Y_X1_fitPerson) 13 = .ok (.getfield 11, 3) := by decide +kernel
theorem dX1_fitPerson_16 : decode (mC Y_X1_fitPerson) 16 = .ok (.iload 5, 2) := by decide +kernel
theorem dX1_fitPerson_18 : decode (mC Y_X1_fitPerson) 18 = .ok (.iaload, 1) := by decide +kernel
theorem dX1_fitPerson_19 : decode (mC Y_X1_fitPerson) 19 = .ok (.iload_n 2, 1) := by decide +kernel
theorem dX1_fitPerson_20 : decode (mC Y_X1_fitPerson) 20 = .ok (.if_icmp .ne 30, 3) := by decide +kernel
theorem dX1_fitPerson_23 : decode (mC Y_X1_fitPerson) 23 = .ok (.aload_n 1, 1) := by decide +kernel
theorem dX1_fitPerson_24 : decode (mC Y_X1_fitPerson) 24 = .ok (.aload_n 0, 1) := by decide +kernel
theorem dX1_fitPerson_25 : decode (mC Y_X1_fitPerson) 25 = .ok (.getfield 15, 3) := by decide +kernel
theorem dX1_fitPerson_28 : decode (mC Y_X1_fitPerson) 28 = .ok (.iload 5, 2) := by decide +kernel
theorem dX1_fitPerson_30 : decode (mC Y_X1_fitPerson) 30 = .ok (.iaload, 1) := by decide +kernel
theorem dX1_fitPerson_31 : decode (mC Y_X1_fitPerson) 31 = .ok (.iload_n 2, 1) := by decide +kernel
theorem dX1_fitPerson_32 : decode (mC Y_X1_fitPerson) 32 = .ok (.iload_n 3, 1) := by decide +kernel
theorem dX1_fitPerson_33 : decode (mC Y_X1_fitPerson) 33 = .ok (.iload 4, 2) := by decide +kernel
theorem dX1_fitPerson_35 : decode (mC Y_X1_fitPerson) 35 = .ok (.invokevirtual 25, 3) := by decide +kernel
theorem dX1_fitPerson_38 : decode (mC Y_X1_fitPerson) 38 = .ok (.aload_n 0, 1) := by decide +kernel
theorem dX1_fitPerson_39 : decode (mC Y_X1_fitPerson) 39 = .ok (.getfield 18, 3) := by decide +kernel
theorem dX1_fitPerson_42 : decode (mC Y_X1_fitPerson) 42 = .ok (.iload 5, 2) := by decide +kernel
theorem dX1_fitPerson_44 : decode (mC Y_X1_fitPerson) 44 = .ok (.iaload, 1) := by decide +kernel
theorem dX1_fitPerson_45 : decode (mC Y_X1_fitPerson) 45 = .ok (.if_icmp .eq 5, 3) := by decide +kernel
theorem dX1_fitPerson_48 : decode (mC Y_X1_fitPerson) 48 = .ok (.iconst 0, 1) := by decide +kernel
theorem dX1_fitPerson_49 : decode (mC Y_X1_fitPerson) 49 = .ok (.ireturn, 1) := by decide +kernel
theorem dX1_fitPerson_50 : decode (mC Y_X1_fitPerson) 50 = .ok (.iinc 5 1, 3) := by decide +kernel
theorem dX1_fitPerson_53 : decode (mC Y_X1_fitPerson) 53 = .ok (.goto (-50), 3) := by decide +kernel
theorem dX1_fitPerson_56 : decode (mC Y_X1_fitPerson) 56 = .ok (.iconst 1, 1) := by decide +kernel
theorem dX1_fitPerson_57 : decode (mC Y_X1_fitPerson) 57 = .ok (.ireturn, 1) := by decide +kernel
theorem dX1_fitRing_0 : decode (mC Y_X1_fitRing) 0 = .ok (.iconst 0, 1) := by decide +kernel
theorem dX1_fitRing_1 : decode (mC Y_X1_fitRing) 1 = .ok (.istore_n 3, 1) := by decide +kernel
theorem dX1_fitRing_2 : decode (mC Y_X1_fitRing) 2 = .ok (.iload_n 3, 1) := by decide +kernel
theorem dX1_fitRing_3 : decode (mC Y_X1_fitRing) 3 = .ok (.aload_n 0, 1) := by decide +kernel
theorem dX1_fitRing_4 : decode (mC Y_X1_fitRing) 4 = .ok (.getfield 21, 3) := by decide +kernel
theorem dX1_fitRing_7 : decode (mC Y_X1_fitRing) 7 = .ok (.if_icmp .ge 33, 3) := by decide +kernel
theorem dX1_fitRing_10 : decode (mC Y_X1_fitRing) 10 = .ok (.iload_n 1, 1) := by decide +kernel
theorem dX1_fitRing_11 : decode (mC Y_X1_fitRing) 11 = .ok (.aload_n 0, 1) := by decide +kernel
theorem dX1_fitRing_12 : decode (mC Y_X1_fitRing) 12 = .ok (.getfield 15, 3) := by decide +kernel
theorem dX1_fitRing_15 : decode (mC Y_X1_fitRing) 15 = .ok (.iload_n 3, 1) := by decide +kernel
theorem dX1_fitRing_16 : decode (mC Y_X1_fitRing) 16 = .ok (.iaload, 1) := by decide +kernel
theorem dX1_fitRing_17 : decode (mC Y_X1_fitRing) 17 = .ok (.iload_n 2, 1) := by decide +kernel
theorem dX1_fitRing_18 : decode (mC Y_X1_fitRing) 18 = .ok (.imul, 1) := by decide +kernel
theorem dX1_fitRing_19 : decode (mC Y_X1_fitRing) 19 = .ok (.iadd, 1) := by decide +kernel
theorem dX1_fitRing_20 : decode (mC Y_X1_fitRing) 20 = .ok (.bipush 12, 2) := by decide +kernel
theorem dX1_fitRing_22 : decode (mC Y_X1_fitRing) 22 = .ok (.irem, 1) := by decide +kernel
theorem dX1_fitRing_23 : decode (mC Y_X1_fitRing) 23 = .ok (.aload_n 0, 1) := by decide +kernel
theorem dX1_fitRing_24 : decode (mC Y_X1_fitRing) 24 = .ok (.getfield 18, 3) := by decide +kernel
theorem dX1_fitRing_27 : decode (mC Y_X1_fitRing) 27 = .ok (.iload_n 3, 1) := by decide +kernel
theorem dX1_fitRing_28 : decode (mC Y_X1_fitRing) 28 = .ok (.iaload, 1) := by decide +kernel
theorem dX1_fitRing_29 : decode (mC Y_X1_fitRing) 29 = .ok (.if_icmp .eq 5, 3) := by decide +kernel
theorem dX1_fitRing_32 : decode (mC Y_X1_fitRing) 32 = .ok (.iconst 0, 1) := by decide +kernel
theorem dX1_fitRing_33 : decode (mC Y_X1_fitRing) 33 = .ok (.ireturn, 1) := by decide +kernel
theorem dX1_fitRing_34 : decode (mC Y_X1_fitRing) 34 = .ok (.iinc 3 1, 3) := by decide +kernel
theorem dX1_fitRing_37 : decode (mC Y_X1_fitRing) 37 = .ok (.goto (-35), 3) := by decide +kernel
theorem dX1_fitRing_40 : decode (mC Y_X1_fitRing) 40 = .ok (.iconst 1, 1) := by decide +kernel
theorem dX1_fitRing_41 : decode (mC Y_X1_fitRing) 41 = .ok (.ireturn, 1) := by decide +kernel
theorem dX0_goOn_0 : decode (mC Y_X0_goOn) 0 = .ok (.aload_n 0, 1) := by decide +kernel
theorem dX0_goOn_1 : decode (mC Y_X0_goOn) 1 = .ok (.getfield 15, 3) := by decide +kernel
theorem dX0_goOn_4 : decode (mC Y_X0_goOn) 4 = .ok (.iconst 0, 1) := by decide +kernel
theorem dX0_goOn_5 : decode (mC Y_X0_goOn) 5 = .ok (.invokestatic 18, 3) := by decide +kernel
theorem dX0_goOn_8 : decode (mC Y_X0_goOn) 8 = .ok (.iconst 0, 1) := by decide +kernel
theorem dX0_goOn_9 : decode (mC Y_X0_goOn) 9 = .ok (.istore_n 3, 1) := by decide +kernel
theorem dX0_goOn_10 : decode (mC Y_X0_goOn) 10 = .ok (.iload_n 3, 1) := by decide +kernel
theorem dX0_goOn_11 : decode (mC Y_X0_goOn) 11 = .ok (.bipush 12, 2) := by decide +kernel
theorem dX0_goOn_13 : decode (mC Y_X0_goOn) 13 = .ok (.if_icmp .ge 51, 3) := by decide +kernel
theorem dX0_goOn_16 : decode (mC Y_X0_goOn) 16 = .ok (.aload_n 0, 1) := by decide +kernel
theorem dX0_goOn_17 : decode (mC Y_X0_goOn) 17 = .ok (.getfield 15, 3) := by decide +kernel
theorem dX0_goOn_20 : decode (mC Y_X0_goOn) 20 = .ok (.iload_n 3, 1) := by decide +kernel
theorem dX0_goOn_21 : decode (mC Y_X0_goOn) 21 = .ok (.dup2, 1) := by decide +kernel
theorem dX0_goOn_22 : decode (mC Y_X0_goOn) 22 = .ok (.iaload, 1) := by decide +kernel
theorem dX0_goOn_23 : decode (mC Y_X0_goOn) 23 = .ok (.aload_n 0, 1) := by decide +kernel
theorem dX0_goOn_24 : decode (mC Y_X0_goOn) 24 = .ok (.getfield 9, 3) := by decide +kernel
theorem dX0_goOn_27 : decode (mC Y_X0_goOn) 27 = .ok (.iload_n 3, 1) := by decide +kernel
theorem dX0_goOn_28 : decode (mC Y_X0_goOn) 28 = .ok (.iaload, 1) := by decide +kernel
theorem dX0_goOn_29 : decode (mC Y_X0_goOn) 29 = .ok (.iload_n 2, 1) := by decide +kernel
theorem dX0_goOn_30 : decode (mC Y_X0_goOn) 30 = .ok (.imul, 1) := by decide +kernel
theorem dX0_goOn_31 : decode (mC Y_X0_goOn) 31 = .ok (.iadd, 1) := by decide +kernel
theorem dX0_goOn_32 : decode (mC Y_X0_goOn) 32 = .ok (.iastore, 1) := by decide +kernel
theorem dX0_goOn_33 : decode (mC Y_X0_goOn) 33 = .ok (.aload_n 0, 1) := by decide +kernel
theorem dX0_goOn_34 : decode (mC Y_X0_goOn) 34 = .ok (.getfield 15, 3) := by decide +kernel
theorem dX0_goOn_37 : decode (mC Y_X0_goOn) 37 = .ok (.iload_n 3, 1) := by decide +kernel
theorem dX0_goOn_38 : decode (mC Y_X0_goOn) 38 = .ok (.iload_n 1, 1) := by decide +kernel
theorem dX0_goOn_39 : decode (mC Y_X0_goOn) 39 = .ok (.iadd, 1) := by decide +kernel
theorem dX0_goOn_40 : decode (mC Y_X0_goOn) 40 = .ok (.bipush 12, 2) := by decide +kernel
theorem dX0_goOn_42 : decode (mC Y_X0_goOn) 42 = .ok (.irem, 1) := by decide +kernel
theorem dX0_goOn_43 : decode (mC Y_X0_goOn) 43 = .ok (.dup2, 1) := by decide +kernel
theorem dX0_goOn_44 : decode (mC Y_X0_goOn) 44 = .ok (.iaload, 1) := by decide +kernel
theorem dX0_goOn_45 : decode (mC Y_X0_goOn) 45 = .ok (.aload_n 0, 1) := by decide +kernel
theorem dX0_goOn_46 : decode (mC Y_X0_goOn) 46 = .ok (.getfield 9, 3) := by decide +kernel
theorem dX0_goOn_49 : decode (mC Y_X0_goOn) 49 = .ok (.iload_n 3, 1) := by decide +kernel
theorem dX0_goOn_50 : decode (mC Y_X0_goOn) 50 = .ok (.iaload, 1) := by decide +kernel
theorem dX0_goOn_51 : decode (mC Y_X0_goOn) 51 = .ok (.bipush 10, 2) := by decide +kernel
theorem dX0_goOn_53 : decode (mC Y_X0_goOn) 53 = .ok (.iload_n 2, 1) := by decide +kernel
theorem dX0_goOn_54 : decode (mC Y_X0_goOn) 54 = .ok (.isub, 1) := by decide +kernel
theorem dX0_goOn_55 : decode (mC Y_X0_goOn) 55 = .ok (.imul, 1) := by decide +kernel
theorem dX0_goOn_56 : decode (mC Y_X0_goOn) 56 = .ok (.iadd, 1) := by decide +kernel
theorem dX0_goOn_57 : decode (mC Y_X0_goOn) 57 = .ok (.iastore, 1) := by decide +kernel
theorem dX0_goOn_58 : decode (mC Y_X0_goOn) 58 = .ok (.iinc 3 1, 3) := by decide +kernel
theorem dX0_goOn_61 : decode (mC Y_X0_goOn) 61 = .ok (.goto (-51), 3) := by decide +kernel
theorem dX0_goOn_64 : decode (mC Y_X0_goOn) 64 = .ok (.aload_n 0, 1) := by decide +kernel
theorem dX0_goOn_65 : decode (mC Y_X0_goOn) 65 = .ok (.getfield 9, 3) := by decide +kernel
theorem dX0_goOn_68 : decode (mC Y_X0_goOn) 68 = .ok (.astore_n 3, 1) := by decide +kernel
theorem dX0_goOn_69 : decode (mC Y_X0_goOn) 69 = .ok (.aload_n 0, 1) := by decide +kernel
theorem dX0_goOn_70 : decode (mC Y_X0_goOn) 70 = .ok (.aload_n 0, 1) := by decide +kernel
theorem dX0_goOn_71 : decode (mC Y_X0_goOn) 71 = .ok (.getfield 15, 3) := by decide +kernel
theorem dX0_goOn_74 : decode (mC Y_X0_goOn) 74 = .ok (.putfield 9, 3) := by decide +kernel
theorem dX0_goOn_77 : decode (mC Y_X0_goOn) 77 = .ok (.aload_n 0, 1) := by decide +kernel
theorem dX0_goOn_78 : decode (mC Y_X0_goOn) 78 = .ok (.aload_n 3, 1) := by decide +kernel
theorem dX0_goOn_79 : decode (mC Y_X0_goOn) 79 = .ok (.putfield 15, 3) := by decide +kernel
theorem dX0_goOn_82 : decode (mC Y_X0_goOn) 82 = .ok (.return_, 1) := by decide +kernel
theorem dX0_follow_0 : decode (mC Y_X0_follow) 0 = .ok (.aload_n 0, 1) := by decide +kernel
theorem dX0_follow_1 : decode (mC Y_X0_follow) 1 = .ok (.getfield 9, 3) := by decide +kernel
theorem dX0_follow_4 : decode (mC Y_X0_follow) 4 = .ok (.iconst 0, 1) := by decide +kernel
theorem dX0_follow_5 : decode (mC Y_X0_follow) 5 = .ok (.invokestatic 18, 3) := by decide +kernel
theorem dX0_follow_8 : decode (mC Y_X0_follow) 8 = .ok (.aload_n 0, 1) := by decide +kernel
theorem dX0_follow_9 : decode (mC Y_X0_follow) 9 = .ok (.getfield 9, 3) := by decide +kernel
theorem dX0_follow_12 : decode (mC Y_X0_follow) 12 = .ok (.aload_n 1, 1) := by decide +kernel
theorem dX0_follow_13 : decode (mC Y_X0_follow) 13 = .ok (.iload_n 2, 1) := by decide +kernel
theorem dX0_follow_14 : decode (mC Y_X0_follow) 14 = .ok (.invokevirtual 24, 3) := by decide +kernel
theorem dX0_follow_17 : decode (mC Y_X0_follow) 17 = .ok (.iconst 1, 1) := by decide +kernel
theorem dX0_follow_18 : decode (mC Y_X0_follow) 18 = .ok (.iastore, 1) := by decide +kernel
theorem dX0_follow_19 : decode (mC Y_X0_follow) 19 = .ok (.iconst 0, 1) := by decide +kernel
theorem dX0_follow_20 : decode (mC Y_X0_follow) 20 = .ok (.istore 5, 2) := by decide +kernel
theorem dX0_follow_22 : decode (mC Y_X0_follow) 22 = .ok (.iload 5, 2) := by decide +kernel
theorem dX0_follow_24 : decode (mC Y_X0_follow) 24 = .ok (.iload_n 3, 1) := by decide +kernel
theorem dX0_follow_25 : decode (mC Y_X0_follow) 25 = .ok (.if_icmp .ge 35, 3) := by decide +kernel
theorem dX0_follow_28 : decode (mC Y_X0_follow) 28 = .ok (.aload_n 0, 1) := by decide +kernel
theorem dX0_follow_29 : decode (mC Y_X0_follow) 29 = .ok (.aload_n 1, 1) := by decide +kernel
theorem dX0_follow_30 : decode (mC Y_X0_follow) 30 = .ok (.invokevirtual 30, 3) := by decide +kernel
theorem dX0_follow_33 : decode (mC Y_X0_follow) 33 = .ok (.iload 5, 2) := by decide +kernel
theorem dX0_follow_35 : decode (mC Y_X0_follow) 35 = .ok (.iadd, 1) := by decide +kernel
theorem dX0_follow_36 : decode (mC Y_X0_follow) 36 = .ok (.aload_n 1, 1) := by decide +kernel
theorem dX0_follow_37 : decode (mC Y_X0_follow) 37 = .ok (.iload_n 2, 1) := by decide +kernel
theorem dX0_follow_38 : decode (mC Y_X0_follow) 38 = .ok (.invokevirtual 34, 3) := by decide +kernel
theorem dX0_follow_41 : decode (mC Y_X0_follow) 41 = .ok (.aload_n 1, 1) := by decide +kernel
theorem dX0_follow_42 : decode (mC Y_X0_follow) 42 = .ok (.iload_n 2, 1) := by decide +kernel
theorem dX0_follow_43 : decode (mC Y_X0_follow) 43 = .ok (.invokevirtual 37, 3) := by decide +kernel
theorem dX0_follow_46 : decode (mC Y_X0_follow) 46 = .ok (.invokestatic 40, 3) := by decide +kernel
theorem dX0_follow_49 : decode (mC Y_X0_follow) 49 = .ok (.iload 4, 2) := by decide +kernel
theorem dX0_follow_51 : decode (mC Y_X0_follow) 51 = .ok (.invokevirtual 44, 3) := by decide +kernel
theorem dX0_follow_54 : decode (mC Y_X0_follow) 54 = .ok (.iinc 5 1, 3) := by decide +kernel
theorem dX0_follow_57 : decode (mC Y_X0_follow) 57 = .ok (.goto (-35), 3) := by decide +kernel
theorem dX0_follow_60 : decode (mC Y_X0_follow) 60 = .ok (.return_, 1) := by decide +kernel
theorem dX0_weightAt_0 : decode (mC Y_X0_weightAt) 0 = .ok (.aload_n 0, 1) := by decide +kernel
theorem dX0_weightAt_1 : decode (mC Y_X0_weightAt) 1 = .ok (.getfield 9, 3) := by decide +kernel
theorem dX0_weightAt_4 : decode (mC Y_X0_weightAt) 4 = .ok (.iload_n 1, 1) := by decide +kernel
theorem dX0_weightAt_5 : decode (mC Y_X0_weightAt) 5 = .ok (.iaload, 1) := by decide +kernel
theorem dX0_weightAt_6 : decode (mC Y_X0_weightAt) 6 = .ok (.ireturn, 1) := by decide +kernel
theorem w_X2_init_23 {D : DT} {l : Launch} {post : Option Value → Mem → Prop} : ∀ (n kc ks : Nat), kc + 6 * n ≤ 103 → ks + 43 * n ≤ 747 → ∀ (x0 : Nat) (x2 : Int32) (m : Mem), HV (F_X2_init_23 n x0 x2 m) post → WP D l Y_X2_init kc ks 23 [.ref x0, JK, .int x2] [] m post := by
  intro n
  induction n with
  | zero => intro kc ks _ _ x0 x2 m h; exact (HV.none h).elim
  | succ n ih =>
    intro kc ks hkc hks x0 x2 m h
    refine wp_iload_n (i := 2) dX2_init_23 rfl rfl ?_
    refine wp_aload_n (i := 0) dX2_init_24 rfl rfl ?_
    obtain ⟨v1, ev1, h⟩ := HV.bind h
    refine wp_getR cl2 (f := 0) (by decide) rfl fl_X2_21 dX2_init_25 ev1 ?_
    obtain ⟨v2, ev2, h⟩ := HV.bind h
    refine wp_alen dX2_init_28 ev2 ?_
    refine wp_icmp_ge (tgt := 51) dX2_init_29 (by decide) (fun c3 => ?_) (fun c3 => ?_)
    · have h := HV.t c3 h
      exact wp_vret dX2_init_51 rfl (by show _ ≤ 103; omega) (by show _ ≤ 747; omega) (HV.some h)
    · have h := HV.f c3 h
      refine wp_aload_n (i := 0) dX2_init_32 rfl rfl ?_
      obtain ⟨v4, ev4, h⟩ := HV.bind h
      refine wp_getR cl2 (f := 0) (by decide) rfl fl_X2_21 dX2_init_33 ev4 ?_
      refine wp_iload_n (i := 2) dX2_init_36 rfl rfl ?_
      refine wp_new cl5 kl_X2_19 iw_5 nw_5 dX2_init_37 (by show _ ≤ 103; omega) (by show _ ≤ 747; omega) ?_
      refine wp_dup dX2_init_40 rfl ?_
      obtain ⟨v6, ev6, h⟩ := HV.bind h
      obtain ⟨v5, ev5, h⟩ := HV.bind h
      refine cgIN_v (Y' := Y_X5_init) (kc2 := ((kc + 1) + 5)) (ks2 := ((ks + 8) + 35)) dX2_init_41 nl_X2_25 ce_X5_init ⟨(Nat.le_of_ble_eq_true rfl), (Nat.le_of_ble_eq_true rfl)⟩ ⟨by show _ + 5 ≤ 103; omega, by show _ + 35 ≤ 747; omega⟩ rfl rfl (chkT_lt ev6 (by decide)) (ct_X5_init ev5) rfl rfl (Nat.le_of_ble_eq_true rfl) ?_
      obtain ⟨m7, em7, h⟩ := HV.bind h
      refine wp_aastore dX2_init_44 em7 ?_
      refine wp_iinc (v := 1) dX2_init_45 rfl (by decide) rfl rfl ?_
      refine wp_goto (tgt := 23) dX2_init_48 (by decide) ?_
      exact (ih _ _ (by omega) (by omega) _ _ _ h)
theorem ct_X2_init {D : DT} {l : Launch} {m : Mem} {x0 : Nat} {x1 : Int32} {r : Mem} (h : F_X2_init x0 x1 m = some r) : Ct D l Y_X2_init [.ref x0, .int x1] m (fun (v : Option Value) (N : Mem) => v = none ∧ N = r) := by
  refine ct_of (by decide) (by rfl) (ls0 := [.ref x0, .int x1, JK]) rfl rfl ?_
  have h : HV (F_X2_init x0 x1 m) (fun (v : Option Value) (N : Mem) => v = none ∧ N = r) := ⟨r, h, rfl, rfl⟩
  revert h
  generalize (fun (v : Option Value) (N : Mem) => v = none ∧ N = r) = post
  intro h
  refine wp_aload_n (i := 0) dX2_init_0 rfl rfl ?_
  obtain ⟨v8, ev8, h⟩ := HV.bind h
  refine wp_objInit ml_X2_1 objw1 objw2 dX2_init_1 (chkT_lt ev8 (by decide)) (Nat.le_of_ble_eq_true rfl) (Nat.le_of_ble_eq_true rfl) ?_
  refine wp_aload_n (i := 0) dX2_init_4 rfl rfl ?_
  refine wp_iconst (v := 0) dX2_init_5 (by decide) ?_
  obtain ⟨m9, em9, h⟩ := HV.bind h
  refine wp_putI cl2 (f := 1) (by decide) rfl fl_X2_7 (Or.inl rfl) dX2_init_6 em9 ?_
  refine wp_aload_n (i := 0) dX2_init_9 rfl rfl ?_
  refine wp_iconst (v := 1) dX2_init_10 (by decide) ?_
  refine wp_iload_n (i := 1) dX2_init_11 rfl rfl ?_
  refine wp_max ml_X2_13 maxw1 maxw2 maxw3 dX2_init_12 (Nat.le_of_ble_eq_true rfl) (Nat.le_of_ble_eq_true rfl) (Nat.le_of_ble_eq_true rfl) (Nat.le_of_ble_eq_true rfl) ?_
  obtain ⟨m10, em10, h⟩ := HV.bind h
  refine wp_anewT kl_X2_19 dX2_init_15 em10 (Nat.le_of_ble_eq_true rfl) (Nat.le_of_ble_eq_true rfl) ?_
  obtain ⟨m11, em11, h⟩ := HV.bind h
  refine wp_putR cl2 (f := 0) (by decide) rfl fl_X2_21 (Or.inr ⟨rfl, rfl⟩) dX2_init_18 em11 ?_
  refine wp_iconst (v := 0) dX2_init_21 (by decide) ?_
  refine wp_istore_n (i := 2) dX2_init_22 rfl rfl rfl ?_
  exact wp_weak [true, false, true] (w_X2_init_23 _ _ _ (by omega) (by omega) _ _ _ h)
theorem ct_X1_init {D : DT} {l : Launch} {m : Mem} {x0 : Nat} {r : Mem} (h : F_X1_init x0 m = some r) : Ct D l Y_X1_init [.ref x0] m (fun (v : Option Value) (N : Mem) => v = none ∧ N = r) := by
  refine ct_of (by decide) (by rfl) (ls0 := [.ref x0]) rfl rfl ?_
  have h : HV (F_X1_init x0 m) (fun (v : Option Value) (N : Mem) => v = none ∧ N = r) := ⟨r, h, rfl, rfl⟩
  revert h
  generalize (fun (v : Option Value) (N : Mem) => v = none ∧ N = r) = post
  intro h
  refine wp_aload_n (i := 0) dX1_init_0 rfl rfl ?_
  obtain ⟨v1, ev1, h⟩ := HV.bind h
  refine wp_objInit ml_X1_3 objw1 objw2 dX1_init_1 (chkT_lt ev1 (by decide)) (Nat.le_of_ble_eq_true rfl) (Nat.le_of_ble_eq_true rfl) ?_
  refine wp_aload_n (i := 0) dX1_init_4 rfl rfl ?_
  refine wp_bipush (v := 6) dX1_init_5 (by decide) ?_
  refine wp_newI (N := 6) aw_int dX1_init_7 (by decide) (by decide) (by decide) (Nat.le_of_ble_eq_true rfl) (Nat.le_of_ble_eq_true rfl) ?_
  obtain ⟨m2, em2, h⟩ := HV.bind h
  refine wp_putR cl1 (f := 0) (by decide) rfl fl_X1_11 (Or.inr ⟨rfl, rfl⟩) dX1_init_9 em2 ?_
  refine wp_aload_n (i := 0) dX1_init_12 rfl rfl ?_
  refine wp_bipush (v := 6) dX1_init_13 (by decide) ?_
  refine wp_newI (N := 6) aw_int dX1_init_15 (by decide) (by decide) (by decide) (Nat.le_of_ble_eq_true rfl) (Nat.le_of_ble_eq_true rfl) ?_
  obtain ⟨m3, em3, h⟩ := HV.bind h
  refine wp_putR cl1 (f := 1) (by decide) rfl fl_X1_15 (Or.inr ⟨rfl, rfl⟩) dX1_init_17 em3 ?_
  refine wp_aload_n (i := 0) dX1_init_20 rfl rfl ?_
  refine wp_bipush (v := 6) dX1_init_21 (by decide) ?_
  refine wp_newI (N := 6) aw_int dX1_init_23 (by decide) (by decide) (by decide) (Nat.le_of_ble_eq_true rfl) (Nat.le_of_ble_eq_true rfl) ?_
  obtain ⟨m4, em4, h⟩ := HV.bind h
  refine wp_putR cl1 (f := 2) (by decide) rfl fl_X1_18 (Or.inr ⟨rfl, rfl⟩) dX1_init_25 em4 ?_
  refine wp_aload_n (i := 0) dX1_init_28 rfl rfl ?_
  refine wp_iconst (v := 0) dX1_init_29 (by decide) ?_
  obtain ⟨m5, em5, h⟩ := HV.bind h
  refine wp_putI cl1 (f := 3) (by decide) rfl fl_X1_21 (Or.inl rfl) dX1_init_30 em5 ?_
  exact wp_vret dX1_init_33 rfl (Nat.le_of_ble_eq_true rfl) (Nat.le_of_ble_eq_true rfl) (HV.some h)
theorem ct_X4_init {D : DT} {l : Launch} {m : Mem} {x0 : Nat} {r : Mem} (h : F_X4_init x0 m = some r) : Ct D l Y_X4_init [.ref x0] m (fun (v : Option Value) (N : Mem) => v = none ∧ N = r) := by
  refine ct_of (by decide) (by rfl) (ls0 := [.ref x0]) rfl rfl ?_
  have h : HV (F_X4_init x0 m) (fun (v : Option Value) (N : Mem) => v = none ∧ N = r) := ⟨r, h, rfl, rfl⟩
  revert h
  generalize (fun (v : Option Value) (N : Mem) => v = none ∧ N = r) = post
  intro h
  refine wp_aload_n (i := 0) dX4_init_0 rfl rfl ?_
  obtain ⟨v1, ev1, h⟩ := HV.bind h
  refine wp_objInit ml_X4_3 objw1 objw2 dX4_init_1 (chkT_lt ev1 (by decide)) (Nat.le_of_ble_eq_true rfl) (Nat.le_of_ble_eq_true rfl) ?_
  refine wp_aload_n (i := 0) dX4_init_4 rfl rfl ?_
  refine wp_bipush (v := 7) dX4_init_5 (by decide) ?_
  refine wp_newI (N := 7) aw_int dX4_init_7 (by decide) (by decide) (by decide) (Nat.le_of_ble_eq_true rfl) (Nat.le_of_ble_eq_true rfl) ?_
  obtain ⟨m2, em2, h⟩ := HV.bind h
  refine wp_putR cl4 (f := 0) (by decide) rfl fl_X4_9 (Or.inr ⟨rfl, rfl⟩) dX4_init_9 em2 ?_
  refine wp_aload_n (i := 0) dX4_init_12 rfl rfl ?_
  refine wp_bipush (v := 7) dX4_init_13 (by decide) ?_
  refine wp_newI (N := 7) aw_int dX4_init_15 (by decide) (by decide) (by decide) (Nat.le_of_ble_eq_true rfl) (Nat.le_of_ble_eq_true rfl) ?_
  obtain ⟨m3, em3, h⟩ := HV.bind h
  refine wp_putR cl4 (f := 1) (by decide) rfl fl_X4_15 (Or.inr ⟨rfl, rfl⟩) dX4_init_17 em3 ?_
  refine wp_aload_n (i := 0) dX4_init_20 rfl rfl ?_
  refine wp_iconst (v := 0) dX4_init_21 (by decide) ?_
  obtain ⟨m4, em4, h⟩ := HV.bind h
  refine wp_putI cl4 (f := 2) (by decide) rfl fl_X4_18 (Or.inl rfl) dX4_init_22 em4 ?_
  refine wp_aload_n (i := 0) dX4_init_25 rfl rfl ?_
  refine wp_iconst (v := 0) dX4_init_26 (by decide) ?_
  obtain ⟨m5, em5, h⟩ := HV.bind h
  refine wp_putI cl4 (f := 3) (by decide) rfl fl_X4_22 (Or.inl rfl) dX4_init_27 em5 ?_
  exact wp_vret dX4_init_30 rfl (Nat.le_of_ble_eq_true rfl) (Nat.le_of_ble_eq_true rfl) (HV.some h)
theorem ct_X0_init {D : DT} {l : Launch} {m : Mem} {x0 : Nat} {r : Mem} (h : F_X0_init x0 m = some r) : Ct D l Y_X0_init [.ref x0] m (fun (v : Option Value) (N : Mem) => v = none ∧ N = r) := by
  refine ct_of (by decide) (by rfl) (ls0 := [.ref x0]) rfl rfl ?_
  have h : HV (F_X0_init x0 m) (fun (v : Option Value) (N : Mem) => v = none ∧ N = r) := ⟨r, h, rfl, rfl⟩
  revert h
  generalize (fun (v : Option Value) (N : Mem) => v = none ∧ N = r) = post
  intro h
  refine wp_aload_n (i := 0) dX0_init_0 rfl rfl ?_
  obtain ⟨v1, ev1, h⟩ := HV.bind h
  refine wp_objInit ml_X0_3 objw1 objw2 dX0_init_1 (chkT_lt ev1 (by decide)) (Nat.le_of_ble_eq_true rfl) (Nat.le_of_ble_eq_true rfl) ?_
  refine wp_aload_n (i := 0) dX0_init_4 rfl rfl ?_
  refine wp_bipush (v := 12) dX0_init_5 (by decide) ?_
  refine wp_newI (N := 12) aw_int dX0_init_7 (by decide) (by decide) (by decide) (Nat.le_of_ble_eq_true rfl) (Nat.le_of_ble_eq_true rfl) ?_
  obtain ⟨m2, em2, h⟩ := HV.bind h
  refine wp_putR cl0 (f := 0) (by decide) rfl fl_X0_9 (Or.inl rfl) dX0_init_9 em2 ?_
  refine wp_aload_n (i := 0) dX0_init_12 rfl rfl ?_
  refine wp_bipush (v := 12) dX0_init_13 (by decide) ?_
  refine wp_newI (N := 12) aw_int dX0_init_15 (by decide) (by decide) (by decide) (Nat.le_of_ble_eq_true rfl) (Nat.le_of_ble_eq_true rfl) ?_
  obtain ⟨m3, em3, h⟩ := HV.bind h
  refine wp_putR cl0 (f := 1) (by decide) rfl fl_X0_15 (Or.inl rfl) dX0_init_17 em3 ?_
  exact wp_vret dX0_init_20 rfl (Nat.le_of_ble_eq_true rfl) (Nat.le_of_ble_eq_true rfl) (HV.some h)
theorem ct_X1_empty {D : DT} {l : Launch} {m : Mem} {x0 : Nat} {r : (Int32 × Mem)} (h : F_X1_empty x0 m = some r) : Ct D l Y_X1_empty [.ref x0] m (fun (v : Option Value) (N : Mem) => v = some (Value.int r.1) ∧ N = r.2) := by
  refine ct_of (by decide) (by rfl) (ls0 := [.ref x0, JK]) rfl rfl ?_
  have h : HI (F_X1_empty x0 m) (fun (v : Option Value) (N : Mem) => v = some (Value.int r.1) ∧ N = r.2) := ⟨r.1, r.2, h, rfl, rfl⟩
  revert h
  generalize (fun (v : Option Value) (N : Mem) => v = some (Value.int r.1) ∧ N = r.2) = post
  intro h
  refine wp_aload_n (i := 0) dX1_empty_0 rfl rfl ?_
  obtain ⟨v1, ev1, h⟩ := HI.bind h
  refine wp_getI cl1 (f := 3) (by decide) rfl fl_X1_21 dX1_empty_1 ev1 ?_
  refine wp_istore_n (i := 1) dX1_empty_4 rfl rfl rfl ?_
  refine wp_aload_n (i := 0) dX1_empty_5 rfl rfl ?_
  refine wp_iconst (v := 0) dX1_empty_6 (by decide) ?_
  obtain ⟨m2, em2, h⟩ := HI.bind h
  refine wp_putI cl1 (f := 3) (by decide) rfl fl_X1_21 (Or.inl rfl) dX1_empty_7 em2 ?_
  refine wp_iload_n (i := 1) dX1_empty_10 rfl rfl ?_
  exact wp_iret dX1_empty_11 rfl rfl (Nat.le_of_ble_eq_true rfl) (Nat.le_of_ble_eq_true rfl) (HI.some h)
theorem ct_X2_empty {D : DT} {l : Launch} {m : Mem} {x0 : Nat} {r : Mem} (h : F_X2_empty x0 m = some r) : Ct D l Y_X2_empty [.ref x0] m (fun (v : Option Value) (N : Mem) => v = none ∧ N = r) := by
  refine ct_of (by decide) (by rfl) (ls0 := [.ref x0]) rfl rfl ?_
  have h : HV (F_X2_empty x0 m) (fun (v : Option Value) (N : Mem) => v = none ∧ N = r) := ⟨r, h, rfl, rfl⟩
  revert h
  generalize (fun (v : Option Value) (N : Mem) => v = none ∧ N = r) = post
  intro h
  refine wp_aload_n (i := 0) dX2_empty_0 rfl rfl ?_
  refine wp_iconst (v := 0) dX2_empty_1 (by decide) ?_
  obtain ⟨m1, em1, h⟩ := HV.bind h
  refine wp_putI cl2 (f := 1) (by decide) rfl fl_X2_7 (Or.inl rfl) dX2_empty_2 em1 ?_
  exact wp_vret dX2_empty_5 rfl (Nat.le_of_ble_eq_true rfl) (Nat.le_of_ble_eq_true rfl) (HV.some h)
theorem ct_X2_isFull {D : DT} {l : Launch} {m : Mem} {x0 : Nat} {r : Int32} (h : F_X2_isFull x0 m = some r) : Ct D l Y_X2_isFull [.ref x0] m (fun (v : Option Value) (N : Mem) => v = some (Value.int r) ∧ N = m) := by
  refine ct_of (by decide) (by rfl) (ls0 := [.ref x0]) rfl rfl ?_
  have h : PI m (F_X2_isFull x0 m) (fun (v : Option Value) (N : Mem) => v = some (Value.int r) ∧ N = m) := ⟨r, h, rfl, rfl⟩
  revert h
  generalize (fun (v : Option Value) (N : Mem) => v = some (Value.int r) ∧ N = m) = post
  intro h
  refine wp_aload_n (i := 0) dX2_isFull_0 rfl rfl ?_
  obtain ⟨v1, ev1, h⟩ := PI.bind h
  refine wp_getI cl2 (f := 1) (by decide) rfl fl_X2_7 dX2_isFull_1 ev1 ?_
  refine wp_aload_n (i := 0) dX2_isFull_4 rfl rfl ?_
  obtain ⟨v2, ev2, h⟩ := PI.bind h
  refine wp_getR cl2 (f := 0) (by decide) rfl fl_X2_21 dX2_isFull_5 ev2 ?_
  obtain ⟨v3, ev3, h⟩ := PI.bind h
  refine wp_alen dX2_isFull_8 ev3 ?_
  refine wp_icmp_lt (tgt := 16) dX2_isFull_9 (by decide) (fun c4 => ?_) (fun c4 => ?_)
  · have h := PI.t c4 h
    refine wp_iconst (v := 0) dX2_isFull_16 (by decide) ?_
    exact wp_iret dX2_isFull_17 rfl (by decide) (Nat.le_of_ble_eq_true rfl) (Nat.le_of_ble_eq_true rfl) (PI.some h)
  · have h := PI.f c4 h
    refine wp_iconst (v := 1) dX2_isFull_12 (by decide) ?_
    refine wp_goto (tgt := 17) dX2_isFull_13 (by decide) ?_
    exact wp_iret dX2_isFull_17 rfl (by decide) (Nat.le_of_ble_eq_true rfl) (Nat.le_of_ble_eq_true rfl) (PI.some h)
theorem w_X2_dropLowest_9 {D : DT} {l : Launch} {post : Option Value → Mem → Prop} : ∀ (n : Nat) (x0 : Nat) (x1 : Nat) (x2 : Int32) (m : Mem), HV (F_X2_dropLowest_9 n x0 x1 x2 m) post → WP D l Y_X2_dropLowest 0 0 9 [.ref x0, .ref x1, .int x2] [] m post := by
  intro n
  induction n with
  | zero => intro x0 x1 x2 m h; exact (HV.none h).elim
  | succ n ih =>
    intro x0 x1 x2 m h
    refine wp_iload_n (i := 2) dX2_dropLowest_9 rfl rfl ?_
    refine wp_aload_n (i := 0) dX2_dropLowest_10 rfl rfl ?_
    obtain ⟨v1, ev1, h⟩ := HV.bind h
    refine wp_getR cl2 (f := 0) (by decide) rfl fl_X2_21 dX2_dropLowest_11 ev1 ?_
    obtain ⟨v2, ev2, h⟩ := HV.bind h
    refine wp_alen dX2_dropLowest_14 ev2 ?_
    refine wp_icmp_ge (tgt := 38) dX2_dropLowest_15 (by decide) (fun c3 => ?_) (fun c3 => ?_)
    · have h := HV.t c3 h
      refine wp_aload_n (i := 0) dX2_dropLowest_38 rfl rfl ?_
      obtain ⟨v4, ev4, h⟩ := HV.bind h
      refine wp_getR cl2 (f := 0) (by decide) rfl fl_X2_21 dX2_dropLowest_39 ev4 ?_
      refine wp_aload_n (i := 0) dX2_dropLowest_42 rfl rfl ?_
      obtain ⟨v5, ev5, h⟩ := HV.bind h
      refine wp_getR cl2 (f := 0) (by decide) rfl fl_X2_21 dX2_dropLowest_43 ev5 ?_
      obtain ⟨v6, ev6, h⟩ := HV.bind h
      refine wp_alen dX2_dropLowest_46 ev6 ?_
      refine wp_iconst (v := 1) dX2_dropLowest_47 (by decide) ?_
      refine wp_isub dX2_dropLowest_48 ?_
      refine wp_aload_n (i := 1) dX2_dropLowest_49 rfl rfl ?_
      obtain ⟨m7, em7, h⟩ := HV.bind h
      refine wp_aastore dX2_dropLowest_50 em7 ?_
      refine wp_aload_n (i := 0) dX2_dropLowest_51 rfl rfl ?_
      refine wp_aload_n (i := 0) dX2_dropLowest_52 rfl rfl ?_
      obtain ⟨v8, ev8, h⟩ := HV.bind h
      refine wp_getR cl2 (f := 0) (by decide) rfl fl_X2_21 dX2_dropLowest_53 ev8 ?_
      obtain ⟨v9, ev9, h⟩ := HV.bind h
      refine wp_alen dX2_dropLowest_56 ev9 ?_
      refine wp_iconst (v := 1) dX2_dropLowest_57 (by decide) ?_
      refine wp_isub dX2_dropLowest_58 ?_
      obtain ⟨m10, em10, h⟩ := HV.bind h
      refine wp_putI cl2 (f := 1) (by decide) rfl fl_X2_7 (Or.inl rfl) dX2_dropLowest_59 em10 ?_
      exact wp_vret dX2_dropLowest_62 rfl (Nat.le_of_ble_eq_true rfl) (Nat.le_of_ble_eq_true rfl) (HV.some h)
    · have h := HV.f c3 h
      refine wp_aload_n (i := 0) dX2_dropLowest_18 rfl rfl ?_
      obtain ⟨v11, ev11, h⟩ := HV.bind h
      refine wp_getR cl2 (f := 0) (by decide) rfl fl_X2_21 dX2_dropLowest_19 ev11 ?_
      refine wp_iload_n (i := 2) dX2_dropLowest_22 rfl rfl ?_
      refine wp_iconst (v := 1) dX2_dropLowest_23 (by decide) ?_
      refine wp_isub dX2_dropLowest_24 ?_
      refine wp_aload_n (i := 0) dX2_dropLowest_25 rfl rfl ?_
      obtain ⟨v12, ev12, h⟩ := HV.bind h
      refine wp_getR cl2 (f := 0) (by decide) rfl fl_X2_21 dX2_dropLowest_26 ev12 ?_
      refine wp_iload_n (i := 2) dX2_dropLowest_29 rfl rfl ?_
      obtain ⟨v13, ev13, h⟩ := HV.bind h
      refine wp_aaload dX2_dropLowest_30 ev13 ?_
      obtain ⟨m14, em14, h⟩ := HV.bind h
      refine wp_aastore dX2_dropLowest_31 em14 ?_
      refine wp_iinc (v := 1) dX2_dropLowest_32 rfl (by decide) rfl rfl ?_
      refine wp_goto (tgt := 9) dX2_dropLowest_35 (by decide) ?_
      exact (ih _ _ _ _ h)
theorem ct_X2_dropLowest {D : DT} {l : Launch} {m : Mem} {x0 : Nat} {r : Mem} (h : F_X2_dropLowest x0 m = some r) : Ct D l Y_X2_dropLowest [.ref x0] m (fun (v : Option Value) (N : Mem) => v = none ∧ N = r) := by
  refine ct_of (by decide) (by rfl) (ls0 := [.ref x0, JK, JK]) rfl rfl ?_
  have h : HV (F_X2_dropLowest x0 m) (fun (v : Option Value) (N : Mem) => v = none ∧ N = r) := ⟨r, h, rfl, rfl⟩
  revert h
  generalize (fun (v : Option Value) (N : Mem) => v = none ∧ N = r) = post
  intro h
  refine wp_aload_n (i := 0) dX2_dropLowest_0 rfl rfl ?_
  obtain ⟨v15, ev15, h⟩ := HV.bind h
  refine wp_getR cl2 (f := 0) (by decide) rfl fl_X2_21 dX2_dropLowest_1 ev15 ?_
  refine wp_iconst (v := 0) dX2_dropLowest_4 (by decide) ?_
  obtain ⟨v16, ev16, h⟩ := HV.bind h
  refine wp_aaload dX2_dropLowest_5 ev16 ?_
  refine wp_astore_n (i := 1) dX2_dropLowest_6 rfl rfl rfl ?_
  refine wp_iconst (v := 1) dX2_dropLowest_7 (by decide) ?_
  refine wp_istore_n (i := 2) dX2_dropLowest_8 rfl rfl rfl ?_
  exact (w_X2_dropLowest_9 _ _ _ _ _ h)
theorem w_X2_put_11 {D : DT} {l : Launch} {post : Option Value → Mem → Prop} {x0 : Nat} {x1 : Nat} {m : Mem} (h : HV (F_X2_put_11 x0 x1 m) post) : WP D l Y_X2_put 0 0 11 [.ref x0, .ref x1] [] m post := by
  refine wp_aload_n (i := 0) dX2_put_11 rfl rfl ?_
  obtain ⟨v1, ev1, h⟩ := HV.bind h
  refine wp_getR cl2 (f := 0) (by decide) rfl fl_X2_21 dX2_put_12 ev1 ?_
  refine wp_aload_n (i := 0) dX2_put_15 rfl rfl ?_
  obtain ⟨v2, ev2, h⟩ := HV.bind h
  refine wp_getI cl2 (f := 1) (by decide) rfl fl_X2_7 dX2_put_16 ev2 ?_
  obtain ⟨v3, ev3, h⟩ := HV.bind h
  refine wp_aaload dX2_put_19 ev3 ?_
  refine wp_aload_n (i := 1) dX2_put_20 rfl rfl ?_
  obtain ⟨v5, ev5, h⟩ := HV.bind h
  obtain ⟨v4, ev4, h⟩ := HV.bind h
  refine cgV_v (Y' := Y_X5_become) (kc2 := 0) (ks2 := 0) dX2_put_21 ml_X2_33 ce_X5_become (t := 5) rfl (by decide) ⟨(Nat.le_of_ble_eq_true rfl), (Nat.le_of_ble_eq_true rfl)⟩ ⟨(Nat.le_of_ble_eq_true rfl), (Nat.le_of_ble_eq_true rfl)⟩ rfl rfl (chkT_eq ev5) (ct_X5_become ev4) rfl rfl (Nat.le_of_ble_eq_true rfl) ?_
  refine wp_aload_n (i := 0) dX2_put_24 rfl rfl ?_
  refine wp_dup dX2_put_25 rfl ?_
  obtain ⟨v6, ev6, h⟩ := HV.bind h
  refine wp_getI cl2 (f := 1) (by decide) rfl fl_X2_7 dX2_put_26 ev6 ?_
  refine wp_iconst (v := 1) dX2_put_29 (by decide) ?_
  refine wp_iadd dX2_put_30 ?_
  obtain ⟨m7, em7, h⟩ := HV.bind h
  refine wp_putI cl2 (f := 1) (by decide) rfl fl_X2_7 (Or.inl rfl) dX2_put_31 em7 ?_
  exact wp_vret dX2_put_34 rfl (Nat.le_of_ble_eq_true rfl) (Nat.le_of_ble_eq_true rfl) (HV.some h)
theorem ct_X2_put {D : DT} {l : Launch} {m : Mem} {x0 : Nat} {x1 : Nat} {r : Mem} (h : F_X2_put x0 x1 m = some r) : Ct D l Y_X2_put [.ref x0, .ref x1] m (fun (v : Option Value) (N : Mem) => v = none ∧ N = r) := by
  refine ct_of (by decide) (by rfl) (ls0 := [.ref x0, .ref x1]) rfl rfl ?_
  have h : HV (F_X2_put x0 x1 m) (fun (v : Option Value) (N : Mem) => v = none ∧ N = r) := ⟨r, h, rfl, rfl⟩
  revert h
  generalize (fun (v : Option Value) (N : Mem) => v = none ∧ N = r) = post
  intro h
  refine wp_aload_n (i := 0) dX2_put_0 rfl rfl ?_
  obtain ⟨v9, ev9, h⟩ := HV.bind h
  obtain ⟨v8, ev8, h⟩ := HV.bind h
  refine cgV_i (Y' := Y_X2_isFull) (kc2 := 0) (ks2 := 0) dX2_put_1 ml_X2_26 ce_X2_isFull (t := 2) rfl (by decide) ⟨(Nat.le_of_ble_eq_true rfl), (Nat.le_of_ble_eq_true rfl)⟩ ⟨(Nat.le_of_ble_eq_true rfl), (Nat.le_of_ble_eq_true rfl)⟩ rfl rfl (chkT_eq ev9) (ct_X2_isFull ev8) rfl rfl (Nat.le_of_ble_eq_true rfl) ?_
  refine wp_if_eq (tgt := 11) dX2_put_4 (by decide) (fun c10 => ?_) (fun c10 => ?_)
  · have h := HV.t c10 h
    exact (w_X2_put_11 h)
  · have h := HV.f c10 h
    refine wp_aload_n (i := 0) dX2_put_7 rfl rfl ?_
    obtain ⟨v12, ev12, h⟩ := HV.bind h
    obtain ⟨v11, ev11, h⟩ := HV.bind h
    refine cgV_v (Y' := Y_X2_dropLowest) (kc2 := 0) (ks2 := 0) dX2_put_8 ml_X2_30 ce_X2_dropLowest (t := 2) rfl (by decide) ⟨(Nat.le_of_ble_eq_true rfl), (Nat.le_of_ble_eq_true rfl)⟩ ⟨(Nat.le_of_ble_eq_true rfl), (Nat.le_of_ble_eq_true rfl)⟩ rfl rfl (chkT_eq ev12) (ct_X2_dropLowest ev11) rfl rfl (Nat.le_of_ble_eq_true rfl) ?_
    exact (w_X2_put_11 h)
theorem ct_X2_takeInto {D : DT} {l : Launch} {m : Mem} {x0 : Nat} {x1 : Nat} {r : (Int32 × Mem)} (h : F_X2_takeInto x0 x1 m = some r) : Ct D l Y_X2_takeInto [.ref x0, .ref x1] m (fun (v : Option Value) (N : Mem) => v = some (Value.int r.1) ∧ N = r.2) := by
  refine ct_of (by decide) (by rfl) (ls0 := [.ref x0, .ref x1]) rfl rfl ?_
  have h : HI (F_X2_takeInto x0 x1 m) (fun (v : Option Value) (N : Mem) => v = some (Value.int r.1) ∧ N = r.2) := ⟨r.1, r.2, h, rfl, rfl⟩
  revert h
  generalize (fun (v : Option Value) (N : Mem) => v = some (Value.int r.1) ∧ N = r.2) = post
  intro h
  refine wp_aload_n (i := 0) dX2_takeInto_0 rfl rfl ?_
  obtain ⟨v1, ev1, h⟩ := HI.bind h
  refine wp_getI cl2 (f := 1) (by decide) rfl fl_X2_7 dX2_takeInto_1 ev1 ?_
  refine wp_iconst (v := 1) dX2_takeInto_4 (by decide) ?_
  refine wp_icmp_ge (tgt := 10) dX2_takeInto_5 (by decide) (fun c2 => ?_) (fun c2 => ?_)
  · have h := HI.t c2 h
    refine wp_aload_n (i := 0) dX2_takeInto_10 rfl rfl ?_
    refine wp_dup dX2_takeInto_11 rfl ?_
    obtain ⟨v3, ev3, h⟩ := HI.bind h
    refine wp_getI cl2 (f := 1) (by decide) rfl fl_X2_7 dX2_takeInto_12 ev3 ?_
    refine wp_iconst (v := 1) dX2_takeInto_15 (by decide) ?_
    refine wp_isub dX2_takeInto_16 ?_
    obtain ⟨m4, em4, h⟩ := HI.bind h
    refine wp_putI cl2 (f := 1) (by decide) rfl fl_X2_7 (Or.inl rfl) dX2_takeInto_17 em4 ?_
    refine wp_aload_n (i := 1) dX2_takeInto_20 rfl rfl ?_
    refine wp_aload_n (i := 0) dX2_takeInto_21 rfl rfl ?_
    obtain ⟨v5, ev5, h⟩ := HI.bind h
    refine wp_getR cl2 (f := 0) (by decide) rfl fl_X2_21 dX2_takeInto_22 ev5 ?_
    refine wp_aload_n (i := 0) dX2_takeInto_25 rfl rfl ?_
    obtain ⟨v6, ev6, h⟩ := HI.bind h
    refine wp_getI cl2 (f := 1) (by decide) rfl fl_X2_7 dX2_takeInto_26 ev6 ?_
    obtain ⟨v7, ev7, h⟩ := HI.bind h
    refine wp_aaload dX2_takeInto_29 ev7 ?_
    obtain ⟨v9, ev9, h⟩ := HI.bind h
    obtain ⟨v8, ev8, h⟩ := HI.bind h
    refine cgV_v (Y' := Y_X5_become) (kc2 := 0) (ks2 := 0) dX2_takeInto_30 ml_X2_33 ce_X5_become (t := 5) rfl (by decide) ⟨(Nat.le_of_ble_eq_true rfl), (Nat.le_of_ble_eq_true rfl)⟩ ⟨(Nat.le_of_ble_eq_true rfl), (Nat.le_of_ble_eq_true rfl)⟩ rfl rfl (chkT_eq ev9) (ct_X5_become ev8) rfl rfl (Nat.le_of_ble_eq_true rfl) ?_
    refine wp_iconst (v := 1) dX2_takeInto_33 (by decide) ?_
    exact wp_iret dX2_takeInto_34 rfl (by decide) (Nat.le_of_ble_eq_true rfl) (Nat.le_of_ble_eq_true rfl) (HI.some h)
  · have h := HI.f c2 h
    refine wp_iconst (v := 0) dX2_takeInto_8 (by decide) ?_
    exact wp_iret dX2_takeInto_9 rfl (by decide) (Nat.le_of_ble_eq_true rfl) (Nat.le_of_ble_eq_true rfl) (HI.some h)
theorem ct_X2_size {D : DT} {l : Launch} {m : Mem} {x0 : Nat} {r : Int32} (h : F_X2_size x0 m = some r) : Ct D l Y_X2_size [.ref x0] m (fun (v : Option Value) (N : Mem) => v = some (Value.int r) ∧ N = m) := by
  refine ct_of (by decide) (by rfl) (ls0 := [.ref x0]) rfl rfl ?_
  have h : PI m (F_X2_size x0 m) (fun (v : Option Value) (N : Mem) => v = some (Value.int r) ∧ N = m) := ⟨r, h, rfl, rfl⟩
  revert h
  generalize (fun (v : Option Value) (N : Mem) => v = some (Value.int r) ∧ N = m) = post
  intro h
  refine wp_aload_n (i := 0) dX2_size_0 rfl rfl ?_
  obtain ⟨v1, ev1, h⟩ := PI.bind h
  refine wp_getI cl2 (f := 1) (by decide) rfl fl_X2_7 dX2_size_1 ev1 ?_
  exact wp_iret dX2_size_4 rfl rfl (Nat.le_of_ble_eq_true rfl) (Nat.le_of_ble_eq_true rfl) (PI.some h)
theorem w_X4_markClashes_38 {D : DT} {l : Launch} {post : Option Value → Mem → Prop} {r2 : Nat → Nat → Int32 → Mem → Option Mem} {r12 : Nat → Nat → Int32 → Int32 → Mem → Option Mem} (hr2 : ∀ (x0 : Nat) (x1 : Nat) (x2 : Int32) (m : Mem), HV (r2 x0 x1 x2 m) post → WP D l Y_X4_markClashes 0 0 2 [.ref x0, .ref x1, .int x2, JK] [] m post) (hr12 : ∀ (x0 : Nat) (x1 : Nat) (x2 : Int32) (x3 : Int32) (m : Mem), HV (r12 x0 x1 x2 x3 m) post → WP D l Y_X4_markClashes 0 0 12 [.ref x0, .ref x1, .int x2, .int x3] [] m post) {x0 : Nat} {x1 : Nat} {x2 : Int32} {x3 : Int32} {m : Mem} (h : HV (F_X4_markClashes_38 r2 r12 x0 x1 x2 x3 m) post) : WP D l Y_X4_markClashes 0 0 38 [.ref x0, .ref x1, .int x2, .int x3] [] m post := by
  refine wp_iinc (v := 1) dX4_markClashes_38 rfl (by decide) rfl rfl ?_
  refine wp_goto (tgt := 12) dX4_markClashes_41 (by decide) ?_
  exact (hr12 _ _ _ _ _ h)
theorem w_X4_markClashes_12 {D : DT} {l : Launch} {post : Option Value → Mem → Prop} {r2 : Nat → Nat → Int32 → Mem → Option Mem} (hr2 : ∀ (x0 : Nat) (x1 : Nat) (x2 : Int32) (m : Mem), HV (r2 x0 x1 x2 m) post → WP D l Y_X4_markClashes 0 0 2 [.ref x0, .ref x1, .int x2, JK] [] m post) : ∀ (n : Nat) (x0 : Nat) (x1 : Nat) (x2 : Int32) (x3 : Int32) (m : Mem), HV (F_X4_markClashes_12 r2 n x0 x1 x2 x3 m) post → WP D l Y_X4_markClashes 0 0 12 [.ref x0, .ref x1, .int x2, .int x3] [] m post := by
  intro n
  induction n with
  | zero => intro x0 x1 x2 x3 m h; exact (HV.none h).elim
  | succ n ih =>
    intro x0 x1 x2 x3 m h
    refine wp_iload_n (i := 3) dX4_markClashes_12 rfl rfl ?_
    refine wp_iload_n (i := 2) dX4_markClashes_13 rfl rfl ?_
    refine wp_icmp_ge (tgt := 44) dX4_markClashes_14 (by decide) (fun c1 => ?_) (fun c1 => ?_)
    · have h := HV.t c1 h
      refine wp_iinc (v := 1) dX4_markClashes_44 rfl (by decide) rfl rfl ?_
      refine wp_goto (tgt := 2) dX4_markClashes_47 (by decide) ?_
      exact wp_weak [true, true, true, false] (hr2 _ _ _ _ h)
    · have h := HV.f c1 h
      refine wp_aload_n (i := 1) dX4_markClashes_17 rfl rfl ?_
      refine wp_iload_n (i := 2) dX4_markClashes_18 rfl rfl ?_
      refine wp_iload_n (i := 3) dX4_markClashes_19 rfl rfl ?_
      obtain ⟨v3, ev3, h⟩ := HV.bind h
      obtain ⟨v2, ev2, h⟩ := HV.bind h
      refine cgV_i (Y' := Y_X5_between) (kc2 := 0) (ks2 := 0) dX4_markClashes_20 ml_X4_52 ce_X5_between (t := 5) rfl (by decide) ⟨(Nat.le_of_ble_eq_true rfl), (Nat.le_of_ble_eq_true rfl)⟩ ⟨(Nat.le_of_ble_eq_true rfl), (Nat.le_of_ble_eq_true rfl)⟩ rfl rfl (chkT_eq ev3) (ct_X5_between ev2) rfl rfl (Nat.le_of_ble_eq_true rfl) ?_
      refine wp_if_eq (tgt := 38) dX4_markClashes_23 (by decide) (fun c4 => ?_) (fun c4 => ?_)
      · have h := HV.t c4 h
        exact (w_X4_markClashes_38 hr2 ih h)
      · have h := HV.f c4 h
        refine wp_aload_n (i := 0) dX4_markClashes_26 rfl rfl ?_
        obtain ⟨v5, ev5, h⟩ := HV.bind h
        refine wp_getR cl4 (f := 0) (by decide) rfl fl_X4_9 dX4_markClashes_27 ev5 ?_
        refine wp_iload_n (i := 2) dX4_markClashes_30 rfl rfl ?_
        refine wp_dup2 dX4_markClashes_31 rfl rfl ?_
        obtain ⟨v6, ev6, h⟩ := HV.bind h
        refine wp_iaload dX4_markClashes_32 ev6 ?_
        refine wp_iconst (v := 1) dX4_markClashes_33 (by decide) ?_
        refine wp_iload_n (i := 3) dX4_markClashes_34 rfl rfl ?_
        refine wp_ishl dX4_markClashes_35 ?_
        refine wp_ior dX4_markClashes_36 ?_
        obtain ⟨m7, em7, h⟩ := HV.bind h
        refine wp_iastore dX4_markClashes_37 em7 ?_
        exact (w_X4_markClashes_38 hr2 ih h)
theorem w_X4_markClashes_2 {D : DT} {l : Launch} {post : Option Value → Mem → Prop} : ∀ (n : Nat) (x0 : Nat) (x1 : Nat) (x2 : Int32) (m : Mem), HV (F_X4_markClashes_2 n x0 x1 x2 m) post → WP D l Y_X4_markClashes 0 0 2 [.ref x0, .ref x1, .int x2, JK] [] m post := by
  intro n
  induction n with
  | zero => intro x0 x1 x2 m h; exact (HV.none h).elim
  | succ n ih =>
    intro x0 x1 x2 m h
    refine wp_iload_n (i := 2) dX4_markClashes_2 rfl rfl ?_
    refine wp_aload_n (i := 0) dX4_markClashes_3 rfl rfl ?_
    obtain ⟨v8, ev8, h⟩ := HV.bind h
    refine wp_getI cl4 (f := 2) (by decide) rfl fl_X4_18 dX4_markClashes_4 ev8 ?_
    refine wp_icmp_ge (tgt := 50) dX4_markClashes_7 (by decide) (fun c9 => ?_) (fun c9 => ?_)
    · have h := HV.t c9 h
      exact wp_vret dX4_markClashes_50 rfl (Nat.le_of_ble_eq_true rfl) (Nat.le_of_ble_eq_true rfl) (HV.some h)
    · have h := HV.f c9 h
      refine wp_iconst (v := 0) dX4_markClashes_10 (by decide) ?_
      refine wp_istore_n (i := 3) dX4_markClashes_11 rfl rfl rfl ?_
      exact (w_X4_markClashes_12 ih _ _ _ _ _ _ h)
theorem ct_X4_markClashes {D : DT} {l : Launch} {m : Mem} {x0 : Nat} {x1 : Nat} {r : Mem} (h : F_X4_markClashes x0 x1 m = some r) : Ct D l Y_X4_markClashes [.ref x0, .ref x1] m (fun (v : Option Value) (N : Mem) => v = none ∧ N = r) := by
  refine ct_of (by decide) (by rfl) (ls0 := [.ref x0, .ref x1, JK, JK]) rfl rfl ?_
  have h : HV (F_X4_markClashes x0 x1 m) (fun (v : Option Value) (N : Mem) => v = none ∧ N = r) := ⟨r, h, rfl, rfl⟩
  revert h
  generalize (fun (v : Option Value) (N : Mem) => v = none ∧ N = r) = post
  intro h
  refine wp_iconst (v := 0) dX4_markClashes_0 (by decide) ?_
  refine wp_istore_n (i := 2) dX4_markClashes_1 rfl rfl rfl ?_
  exact (w_X4_markClashes_2 _ _ _ _ _ h)
theorem w_X4_isFree_32 {D : DT} {l : Launch} {post : Option Value → Mem → Prop} {m : Mem} {r2 : Nat → Int32 → Int32 → Int32 → Option Int32} (hr2 : ∀ (x0 : Nat) (x1 : Int32) (x2 : Int32) (x3 : Int32), PI m (r2 x0 x1 x2 x3) post → WP D l Y_X4_isFree 0 0 2 [.ref x0, .int x1, .int x2, .int x3] [] m post) {x0 : Nat} {x1 : Int32} {x2 : Int32} {x3 : Int32} (h : PI m (F_X4_isFree_32 m r2 x0 x1 x2 x3) post) : WP D l Y_X4_isFree 0 0 32 [.ref x0, .int x1, .int x2, .int x3] [] m post := by
  refine wp_iinc (v := 1) dX4_isFree_32 rfl (by decide) rfl rfl ?_
  refine wp_goto (tgt := 2) dX4_isFree_35 (by decide) ?_
  exact (hr2 _ _ _ _ h)
theorem w_X4_isFree_2 {D : DT} {l : Launch} {post : Option Value → Mem → Prop} {m : Mem} : ∀ (n : Nat) (x0 : Nat) (x1 : Int32) (x2 : Int32) (x3 : Int32), PI m (F_X4_isFree_2 m n x0 x1 x2 x3) post → WP D l Y_X4_isFree 0 0 2 [.ref x0, .int x1, .int x2, .int x3] [] m post := by
  intro n
  induction n with
  | zero => intro x0 x1 x2 x3 h; exact (PI.none h).elim
  | succ n ih =>
    intro x0 x1 x2 x3 h
    refine wp_iload_n (i := 3) dX4_isFree_2 rfl rfl ?_
    refine wp_iload_n (i := 1) dX4_isFree_3 rfl rfl ?_
    refine wp_icmp_ge (tgt := 38) dX4_isFree_4 (by decide) (fun c1 => ?_) (fun c1 => ?_)
    · have h := PI.t c1 h
      refine wp_iconst (v := 1) dX4_isFree_38 (by decide) ?_
      exact wp_iret dX4_isFree_39 rfl (by decide) (Nat.le_of_ble_eq_true rfl) (Nat.le_of_ble_eq_true rfl) (PI.some h)
    · have h := PI.f c1 h
      refine wp_aload_n (i := 0) dX4_isFree_7 rfl rfl ?_
      obtain ⟨v2, ev2, h⟩ := PI.bind h
      refine wp_getR cl4 (f := 1) (by decide) rfl fl_X4_15 dX4_isFree_8 ev2 ?_
      refine wp_iload_n (i := 3) dX4_isFree_11 rfl rfl ?_
      obtain ⟨v3, ev3, h⟩ := PI.bind h
      refine wp_iaload dX4_isFree_12 ev3 ?_
      refine wp_iload_n (i := 2) dX4_isFree_13 rfl rfl ?_
      refine wp_icmp_ne (tgt := 32) dX4_isFree_14 (by decide) (fun c4 => ?_) (fun c4 => ?_)
      · have h := PI.f c4 h
        exact (w_X4_isFree_32 ih h)
      · have h := PI.t c4 h
        refine wp_aload_n (i := 0) dX4_isFree_17 rfl rfl ?_
        obtain ⟨v5, ev5, h⟩ := PI.bind h
        refine wp_getR cl4 (f := 0) (by decide) rfl fl_X4_9 dX4_isFree_18 ev5 ?_
        refine wp_iload_n (i := 1) dX4_isFree_21 rfl rfl ?_
        obtain ⟨v6, ev6, h⟩ := PI.bind h
        refine wp_iaload dX4_isFree_22 ev6 ?_
        refine wp_iconst (v := 1) dX4_isFree_23 (by decide) ?_
        refine wp_iload_n (i := 3) dX4_isFree_24 rfl rfl ?_
        refine wp_ishl dX4_isFree_25 ?_
        refine wp_iand dX4_isFree_26 ?_
        refine wp_if_eq (tgt := 32) dX4_isFree_27 (by decide) (fun c7 => ?_) (fun c7 => ?_)
        · have h := PI.t c7 h
          exact (w_X4_isFree_32 ih h)
        · have h := PI.f c7 h
          refine wp_iconst (v := 0) dX4_isFree_30 (by decide) ?_
          exact wp_iret dX4_isFree_31 rfl (by decide) (Nat.le_of_ble_eq_true rfl) (Nat.le_of_ble_eq_true rfl) (PI.some h)
theorem ct_X4_isFree {D : DT} {l : Launch} {m : Mem} {x0 : Nat} {x1 : Int32} {x2 : Int32} {r : Int32} (h : F_X4_isFree x0 x1 x2 m = some r) : Ct D l Y_X4_isFree [.ref x0, .int x1, .int x2] m (fun (v : Option Value) (N : Mem) => v = some (Value.int r) ∧ N = m) := by
  refine ct_of (by decide) (by rfl) (ls0 := [.ref x0, .int x1, .int x2, JK]) rfl rfl ?_
  have h : PI m (F_X4_isFree x0 x1 x2 m) (fun (v : Option Value) (N : Mem) => v = some (Value.int r) ∧ N = m) := ⟨r, h, rfl, rfl⟩
  revert h
  generalize (fun (v : Option Value) (N : Mem) => v = some (Value.int r) ∧ N = m) = post
  intro h
  refine wp_iconst (v := 0) dX4_isFree_0 (by decide) ?_
  refine wp_istore_n (i := 3) dX4_isFree_1 rfl rfl rfl ?_
  exact (w_X4_isFree_2 _ _ _ _ _ h)
theorem w_X4_paint_95 {D : DT} {l : Launch} {post : Option Value → Mem → Prop} {k : Nat} {rc : Nat → Int32 → Int32 → Int32 → Mem → Option (Int32 × Mem)} {r51 : Nat → Int32 → Int32 → Int32 → Int32 → Int32 → Mem → Option (Int32 × Mem)} (hk : ∀ {m : Mem} {x0 : Nat} {x1 : Int32} {x2 : Int32} {x3 : Int32} {r : (Int32 × Mem)}, rc x0 x1 x2 x3 m = some r → Ct D l (Y_X4_paint k) [.ref x0, .int x1, .int x2, .int x3] m (fun v N => v = some (.int r.1) ∧ N = r.2)) (hr51 : ∀ (x0 : Nat) (x1 : Int32) (x2 : Int32) (x3 : Int32) (x4 : Int32) (x5 : Int32) (m : Mem), HI (r51 x0 x1 x2 x3 x4 x5 m) post → WP D l (Y_X4_paint (k + 1)) 0 0 51 [.ref x0, .int x1, .int x2, .int x3, .int x4, .int x5] [] m post) {x0 : Nat} {x1 : Int32} {x2 : Int32} {x3 : Int32} {x4 : Int32} {x5 : Int32} {m : Mem} (h : HI (F_X4_paint_95 rc r51 x0 x1 x2 x3 x4 x5 m) post) : WP D l (Y_X4_paint (k + 1)) 0 0 95 [.ref x0, .int x1, .int x2, .int x3, .int x4, .int x5] [] m post := by
  refine wp_iinc (v := 1) dX4_paint_95 rfl (by decide) rfl rfl ?_
  refine wp_goto (tgt := 51) dX4_paint_98 (by decide) ?_
  exact (hr51 _ _ _ _ _ _ _ h)
theorem w_X4_paint_51 {D : DT} {l : Launch} {post : Option Value → Mem → Prop} {k : Nat} {rc : Nat → Int32 → Int32 → Int32 → Mem → Option (Int32 × Mem)} (hk : ∀ {m : Mem} {x0 : Nat} {x1 : Int32} {x2 : Int32} {x3 : Int32} {r : (Int32 × Mem)}, rc x0 x1 x2 x3 m = some r → Ct D l (Y_X4_paint k) [.ref x0, .int x1, .int x2, .int x3] m (fun v N => v = some (.int r.1) ∧ N = r.2)) : ∀ (n : Nat) (x0 : Nat) (x1 : Int32) (x2 : Int32) (x3 : Int32) (x4 : Int32) (x5 : Int32) (m : Mem), HI (F_X4_paint_51 rc n x0 x1 x2 x3 x4 x5 m) post → WP D l (Y_X4_paint (k + 1)) 0 0 51 [.ref x0, .int x1, .int x2, .int x3, .int x4, .int x5] [] m post := by
  intro n
  induction n with
  | zero => intro x0 x1 x2 x3 x4 x5 m h; exact (HI.none h).elim
  | succ n ih =>
    intro x0 x1 x2 x3 x4 x5 m h
    refine wp_iload dX4_paint_51 rfl ?_
    refine wp_iload dX4_paint_53 rfl ?_
    refine wp_icmp_gt (tgt := 101) dX4_paint_55 (by decide) (fun c1 => ?_) (fun c1 => ?_)
    · have h := HI.t c1 h
      refine wp_iconst (v := 0) dX4_paint_101 (by decide) ?_
      exact wp_iret dX4_paint_102 rfl (by decide) (Nat.le_of_ble_eq_true rfl) (Nat.le_of_ble_eq_true rfl) (HI.some h)
    · have h := HI.f c1 h
      refine wp_aload_n (i := 0) dX4_paint_58 rfl rfl ?_
      refine wp_iload_n (i := 1) dX4_paint_59 rfl rfl ?_
      refine wp_iload dX4_paint_60 rfl ?_
      obtain ⟨v3, ev3, h⟩ := HI.bind h
      obtain ⟨v2, ev2, h⟩ := HI.bind h
      refine cgV_i (Y' := Y_X4_isFree) (kc2 := 0) (ks2 := 0) dX4_paint_62 ml_X4_61 ce_X4_isFree (t := 4) rfl (by decide) ⟨by show 1 + 1 ≤ k + 1 + 2; omega, by show 8 + (4 + 11) + 100 * 1 ≤ 100 * (k + 1 + 2); omega⟩ ⟨(Nat.le_of_ble_eq_true rfl), (Nat.le_of_ble_eq_true rfl)⟩ rfl rfl (chkT_eq ev3) (ct_X4_isFree ev2) rfl rfl (Nat.le_of_ble_eq_true rfl) ?_
      refine wp_if_eq (tgt := 95) dX4_paint_65 (by decide) (fun c4 => ?_) (fun c4 => ?_)
      · have h := HI.t c4 h
        exact (w_X4_paint_95 hk ih h)
      · have h := HI.f c4 h
        refine wp_aload_n (i := 0) dX4_paint_68 rfl rfl ?_
        obtain ⟨v5, ev5, h⟩ := HI.bind h
        refine wp_getR cl4 (f := 1) (by decide) rfl fl_X4_15 dX4_paint_69 ev5 ?_
        refine wp_iload_n (i := 1) dX4_paint_72 rfl rfl ?_
        refine wp_iload dX4_paint_73 rfl ?_
        obtain ⟨m6, em6, h⟩ := HI.bind h
        refine wp_iastore dX4_paint_75 em6 ?_
        refine wp_aload_n (i := 0) dX4_paint_76 rfl rfl ?_
        refine wp_iload_n (i := 1) dX4_paint_77 rfl rfl ?_
        refine wp_iconst (v := 1) dX4_paint_78 (by decide) ?_
        refine wp_iadd dX4_paint_79 ?_
        refine wp_iload_n (i := 2) dX4_paint_80 rfl rfl ?_
        refine wp_iload dX4_paint_81 rfl ?_
        refine wp_max ml_X4_65 maxw1 maxw2 maxw3 dX4_paint_83 (by show 1 ≤ k + 1 + 2; omega) (Nat.le_trans (m := 100) (Nat.le_of_ble_eq_true rfl) (by show 100 ≤ 100 * (k + 1 + 2); omega)) (Nat.le_of_ble_eq_true rfl) (Nat.le_of_ble_eq_true rfl) ?_
        refine wp_iload_n (i := 3) dX4_paint_86 rfl rfl ?_
        obtain ⟨v7, ev7, h⟩ := HI.bind h
        refine cgS_i (Y' := Y_X4_paint k) (kc2 := 0) (ks2 := 0) dX4_paint_87 ml_X4_48 ce_X4_paint ⟨by show k + 2 + 1 ≤ k + 1 + 2; omega, by show 8 + (6 + 11) + 100 * (k + 2) ≤ 100 * (k + 1 + 2); omega⟩ ⟨(Nat.le_of_ble_eq_true rfl), (Nat.le_of_ble_eq_true rfl)⟩ rfl rfl (hk ev7) rfl rfl (Nat.le_of_ble_eq_true rfl) ?_
        refine wp_if_eq (tgt := 95) dX4_paint_90 (by decide) (fun c8 => ?_) (fun c8 => ?_)
        · have h := HI.t c8 h
          exact (w_X4_paint_95 hk ih h)
        · have h := HI.f c8 h
          refine wp_iconst (v := 1) dX4_paint_93 (by decide) ?_
          exact wp_iret dX4_paint_94 rfl (by decide) (Nat.le_of_ble_eq_true rfl) (Nat.le_of_ble_eq_true rfl) (HI.some h)
theorem ct_X4_paint {D : DT} {l : Launch} : ∀ (k : Nat) {m : Mem} {x0 : Nat} {x1 : Int32} {x2 : Int32} {x3 : Int32} {r : (Int32 × Mem)} (h : F_X4_paint k x0 x1 x2 x3 m = some r), Ct D l (Y_X4_paint k) [.ref x0, .int x1, .int x2, .int x3] m (fun (v : Option Value) (N : Mem) => v = some (Value.int r.1) ∧ N = r.2) := by
  intro k
  induction k with
  | zero => intro m x0 x1 x2 x3 r h; cases h
  | succ k hk =>
    intro m x0 x1 x2 x3 r h
    refine ct_of (by show plainName yX4_paint.cls = true; decide) (by rfl) (ls0 := [.ref x0, .int x1, .int x2, .int x3, JK, JK]) rfl rfl ?_
    have h : HI (F_X4_paint (k + 1) x0 x1 x2 x3 m) (fun (v : Option Value) (N : Mem) => v = some (Value.int r.1) ∧ N = r.2) := ⟨r.1, r.2, h, rfl, rfl⟩
    revert h
    generalize (fun (v : Option Value) (N : Mem) => v = some (Value.int r.1) ∧ N = r.2) = post
    intro h
    refine wp_iload_n (i := 1) dX4_paint_0 rfl rfl ?_
    refine wp_aload_n (i := 0) dX4_paint_1 rfl rfl ?_
    obtain ⟨v9, ev9, h⟩ := HI.bind h
    refine wp_getI cl4 (f := 2) (by decide) rfl fl_X4_18 dX4_paint_2 ev9 ?_
    refine wp_icmp_lt (tgt := 10) dX4_paint_5 (by decide) (fun c10 => ?_) (fun c10 => ?_)
    · have h := HI.t c10 h
      refine wp_aload_n (i := 0) dX4_paint_10 rfl rfl ?_
      obtain ⟨v11, ev11, h⟩ := HI.bind h
      refine wp_getI cl4 (f := 3) (by decide) rfl fl_X4_22 dX4_paint_11 ev11 ?_
      refine wp_iconst (v := 1) dX4_paint_14 (by decide) ?_
      refine wp_iload_n (i := 1) dX4_paint_15 rfl rfl ?_
      refine wp_ishl dX4_paint_16 ?_
      refine wp_iand dX4_paint_17 ?_
      refine wp_if_ne (tgt := 39) dX4_paint_18 (by decide) (fun c12 => ?_) (fun c12 => ?_)
      · have h := HI.f c12 h
        refine wp_iload_n (i := 2) dX4_paint_39 rfl rfl ?_
        refine wp_iconst (v := 1) dX4_paint_40 (by decide) ?_
        refine wp_iadd dX4_paint_41 ?_
        refine wp_iload_n (i := 3) dX4_paint_42 rfl rfl ?_
        refine wp_min ml_X4_56 minw1 minw2 minw3 dX4_paint_43 (by show 1 ≤ k + 1 + 2; omega) (Nat.le_trans (m := 100) (Nat.le_of_ble_eq_true rfl) (by show 100 ≤ 100 * (k + 1 + 2); omega)) (Nat.le_of_ble_eq_true rfl) (Nat.le_of_ble_eq_true rfl) ?_
        refine wp_istore dX4_paint_46 rfl rfl ?_
        refine wp_iconst (v := 1) dX4_paint_48 (by decide) ?_
        refine wp_istore dX4_paint_49 rfl rfl ?_
        exact (w_X4_paint_51 hk _ _ _ _ _ _ _ _ h)
      · have h := HI.t c12 h
        refine wp_aload_n (i := 0) dX4_paint_21 rfl rfl ?_
        obtain ⟨v13, ev13, h⟩ := HI.bind h
        refine wp_getR cl4 (f := 1) (by decide) rfl fl_X4_15 dX4_paint_22 ev13 ?_
        refine wp_iload_n (i := 1) dX4_paint_25 rfl rfl ?_
        refine wp_bipush (v := -4) dX4_paint_26 (by decide) ?_
        obtain ⟨m14, em14, h⟩ := HI.bind h
        refine wp_iastore dX4_paint_28 em14 ?_
        refine wp_aload_n (i := 0) dX4_paint_29 rfl rfl ?_
        refine wp_iload_n (i := 1) dX4_paint_30 rfl rfl ?_
        refine wp_iconst (v := 1) dX4_paint_31 (by decide) ?_
        refine wp_iadd dX4_paint_32 ?_
        refine wp_iload_n (i := 2) dX4_paint_33 rfl rfl ?_
        refine wp_iload_n (i := 3) dX4_paint_34 rfl rfl ?_
        obtain ⟨v15, ev15, h⟩ := HI.bind h
        refine cgS_i (Y' := Y_X4_paint k) (kc2 := 0) (ks2 := 0) dX4_paint_35 ml_X4_48 ce_X4_paint ⟨by show k + 2 + 1 ≤ k + 1 + 2; omega, by show 8 + (6 + 11) + 100 * (k + 2) ≤ 100 * (k + 1 + 2); omega⟩ ⟨(Nat.le_of_ble_eq_true rfl), (Nat.le_of_ble_eq_true rfl)⟩ rfl rfl (hk ev15) rfl rfl (Nat.le_of_ble_eq_true rfl) ?_
        obtain ⟨v16, ev16, h⟩ := HI.bind h
        exact wp_iret dX4_paint_38 rfl (rN_of ev16) (Nat.le_of_ble_eq_true rfl) (Nat.le_of_ble_eq_true rfl) (HI.some h)
    · have h := HI.f c10 h
      refine wp_iconst (v := 1) dX4_paint_8 (by decide) ?_
      exact wp_iret dX4_paint_9 rfl (by decide) (Nat.le_of_ble_eq_true rfl) (Nat.le_of_ble_eq_true rfl) (HI.some h)
theorem w_X4_choose_50 {D : DT} {l : Launch} {post : Option Value → Mem → Prop} : ∀ (n : Nat) (x0 : Nat) (x3 : Int32) (m : Mem), HI (F_X4_choose_50 n x0 x3 m) post → WP D l Y_X4_choose 0 0 50 [.ref x0, JK, JK, .int x3] [] m post := by
  intro n
  induction n with
  | zero => intro x0 x3 m h; exact (HI.none h).elim
  | succ n ih =>
    intro x0 x3 m h
    refine wp_iload_n (i := 3) dX4_choose_50 rfl rfl ?_
    refine wp_bipush (v := 7) dX4_choose_51 (by decide) ?_
    refine wp_icmp_ge (tgt := 74) dX4_choose_53 (by decide) (fun c1 => ?_) (fun c1 => ?_)
    · have h := HI.t c1 h
      refine wp_aload_n (i := 0) dX4_choose_74 rfl rfl ?_
      refine wp_iconst (v := 0) dX4_choose_75 (by decide) ?_
      refine wp_iconst (v := 0) dX4_choose_76 (by decide) ?_
      refine wp_bipush (v := 7) dX4_choose_77 (by decide) ?_
      obtain ⟨v2, ev2, h⟩ := HI.bind h
      refine cgS_i (Y' := Y_X4_paint 9) (kc2 := 0) (ks2 := 0) dX4_choose_79 ml_X4_48 ce_X4_paint ⟨(Nat.le_of_ble_eq_true rfl), (Nat.le_of_ble_eq_true rfl)⟩ ⟨(Nat.le_of_ble_eq_true rfl), (Nat.le_of_ble_eq_true rfl)⟩ rfl rfl (ct_X4_paint 9 ev2) rfl rfl (Nat.le_of_ble_eq_true rfl) ?_
      refine wp_pop dX4_choose_82 rfl ?_
      refine wp_bipush (v := 7) dX4_choose_83 (by decide) ?_
      exact wp_iret dX4_choose_85 rfl rfl (Nat.le_of_ble_eq_true rfl) (Nat.le_of_ble_eq_true rfl) (HI.some h)
    · have h := HI.f c1 h
      refine wp_aload_n (i := 0) dX4_choose_56 rfl rfl ?_
      refine wp_iconst (v := 0) dX4_choose_57 (by decide) ?_
      refine wp_iconst (v := 0) dX4_choose_58 (by decide) ?_
      refine wp_iload_n (i := 3) dX4_choose_59 rfl rfl ?_
      obtain ⟨v3, ev3, h⟩ := HI.bind h
      refine cgS_i (Y' := Y_X4_paint 9) (kc2 := 0) (ks2 := 0) dX4_choose_60 ml_X4_48 ce_X4_paint ⟨(Nat.le_of_ble_eq_true rfl), (Nat.le_of_ble_eq_true rfl)⟩ ⟨(Nat.le_of_ble_eq_true rfl), (Nat.le_of_ble_eq_true rfl)⟩ rfl rfl (ct_X4_paint 9 ev3) rfl rfl (Nat.le_of_ble_eq_true rfl) ?_
      refine wp_if_eq (tgt := 68) dX4_choose_63 (by decide) (fun c4 => ?_) (fun c4 => ?_)
      · have h := HI.t c4 h
        refine wp_iinc (v := 1) dX4_choose_68 rfl (by decide) rfl rfl ?_
        refine wp_goto (tgt := 50) dX4_choose_71 (by decide) ?_
        exact (ih _ _ _ h)
      · have h := HI.f c4 h
        refine wp_iload_n (i := 3) dX4_choose_66 rfl rfl ?_
        exact wp_iret dX4_choose_67 rfl rfl (Nat.le_of_ble_eq_true rfl) (Nat.le_of_ble_eq_true rfl) (HI.some h)
theorem w_X4_choose_27 {D : DT} {l : Launch} {post : Option Value → Mem → Prop} : ∀ (n : Nat) (x0 : Nat) (x1 : Nat) (x3 : Int32) (m : Mem), HI (F_X4_choose_27 n x0 x1 x3 m) post → WP D l Y_X4_choose 0 0 27 [.ref x0, .ref x1, JK, .int x3] [] m post := by
  intro n
  induction n with
  | zero => intro x0 x1 x3 m h; exact (HI.none h).elim
  | succ n ih =>
    intro x0 x1 x3 m h
    refine wp_iload_n (i := 3) dX4_choose_27 rfl rfl ?_
    refine wp_bipush (v := 24) dX4_choose_28 (by decide) ?_
    refine wp_icmp_gt (tgt := 48) dX4_choose_30 (by decide) (fun c5 => ?_) (fun c5 => ?_)
    · have h := HI.t c5 h
      refine wp_iconst (v := 0) dX4_choose_48 (by decide) ?_
      refine wp_istore_n (i := 3) dX4_choose_49 rfl rfl rfl ?_
      exact wp_weak [true, false, true, true] (w_X4_choose_50 _ _ _ _ h)
    · have h := HI.f c5 h
      refine wp_aload_n (i := 0) dX4_choose_33 rfl rfl ?_
      refine wp_aload_n (i := 1) dX4_choose_34 rfl rfl ?_
      obtain ⟨v7, ev7, h⟩ := HI.bind h
      obtain ⟨v6, ev6, h⟩ := HI.bind h
      refine cgV_v (Y' := Y_X4_markClashes) (kc2 := 0) (ks2 := 0) dX4_choose_35 ml_X4_41 ce_X4_markClashes (t := 4) rfl (by decide) ⟨(Nat.le_of_ble_eq_true rfl), (Nat.le_of_ble_eq_true rfl)⟩ ⟨(Nat.le_of_ble_eq_true rfl), (Nat.le_of_ble_eq_true rfl)⟩ rfl rfl (chkT_eq ev7) (ct_X4_markClashes ev6) rfl rfl (Nat.le_of_ble_eq_true rfl) ?_
      refine wp_aload_n (i := 1) dX4_choose_38 rfl rfl ?_
      obtain ⟨v9, ev9, h⟩ := HI.bind h
      obtain ⟨v8, ev8, h⟩ := HI.bind h
      refine cgV_v (Y' := Y_X5_goRound) (kc2 := 0) (ks2 := 0) dX4_choose_39 ml_X4_45 ce_X5_goRound (t := 5) rfl (by decide) ⟨(Nat.le_of_ble_eq_true rfl), (Nat.le_of_ble_eq_true rfl)⟩ ⟨(Nat.le_of_ble_eq_true rfl), (Nat.le_of_ble_eq_true rfl)⟩ rfl rfl (chkT_eq ev9) (ct_X5_goRound ev8) rfl rfl (Nat.le_of_ble_eq_true rfl) ?_
      refine wp_iinc (v := 1) dX4_choose_42 rfl (by decide) rfl rfl ?_
      refine wp_goto (tgt := 27) dX4_choose_45 (by decide) ?_
      exact (ih _ _ _ _ h)
theorem ct_X4_choose {D : DT} {l : Launch} {m : Mem} {x0 : Nat} {x1 : Nat} {x2 : Int32} {r : (Int32 × Mem)} (h : F_X4_choose x0 x1 x2 m = some r) : Ct D l Y_X4_choose [.ref x0, .ref x1, .int x2] m (fun (v : Option Value) (N : Mem) => v = some (Value.int r.1) ∧ N = r.2) := by
  refine ct_of (by decide) (by rfl) (ls0 := [.ref x0, .ref x1, .int x2, JK]) rfl rfl ?_
  have h : HI (F_X4_choose x0 x1 x2 m) (fun (v : Option Value) (N : Mem) => v = some (Value.int r.1) ∧ N = r.2) := ⟨r.1, r.2, h, rfl, rfl⟩
  revert h
  generalize (fun (v : Option Value) (N : Mem) => v = some (Value.int r.1) ∧ N = r.2) = post
  intro h
  refine wp_aload_n (i := 0) dX4_choose_0 rfl rfl ?_
  refine wp_aload_n (i := 1) dX4_choose_1 rfl rfl ?_
  obtain ⟨v11, ev11, h⟩ := HI.bind h
  obtain ⟨v10, ev10, h⟩ := HI.bind h
  refine cgV_i (Y' := Y_X5_size) (kc2 := 0) (ks2 := 0) dX4_choose_2 ml_X4_25 ce_X5_size (t := 5) rfl (by decide) ⟨(Nat.le_of_ble_eq_true rfl), (Nat.le_of_ble_eq_true rfl)⟩ ⟨(Nat.le_of_ble_eq_true rfl), (Nat.le_of_ble_eq_true rfl)⟩ rfl rfl (chkT_eq ev11) (ct_X5_size ev10) rfl rfl (Nat.le_of_ble_eq_true rfl) ?_
  obtain ⟨m12, em12, h⟩ := HI.bind h
  refine wp_putI cl4 (f := 2) (by decide) rfl fl_X4_18 (Or.inl rfl) dX4_choose_5 em12 ?_
  refine wp_aload_n (i := 0) dX4_choose_8 rfl rfl ?_
  refine wp_aload_n (i := 1) dX4_choose_9 rfl rfl ?_
  refine wp_iload_n (i := 2) dX4_choose_10 rfl rfl ?_
  obtain ⟨v14, ev14, h⟩ := HI.bind h
  obtain ⟨v13, ev13, h⟩ := HI.bind h
  refine cgV_i (Y' := Y_X5_goersAbout) (kc2 := 0) (ks2 := 0) dX4_choose_11 ml_X4_31 ce_X5_goersAbout (t := 5) rfl (by decide) ⟨(Nat.le_of_ble_eq_true rfl), (Nat.le_of_ble_eq_true rfl)⟩ ⟨(Nat.le_of_ble_eq_true rfl), (Nat.le_of_ble_eq_true rfl)⟩ rfl rfl (chkT_eq ev14) (ct_X5_goersAbout ev13) rfl rfl (Nat.le_of_ble_eq_true rfl) ?_
  obtain ⟨m15, em15, h⟩ := HI.bind h
  refine wp_putI cl4 (f := 3) (by decide) rfl fl_X4_22 (Or.inl rfl) dX4_choose_14 em15 ?_
  refine wp_aload_n (i := 0) dX4_choose_17 rfl rfl ?_
  obtain ⟨v16, ev16, h⟩ := HI.bind h
  refine wp_getR cl4 (f := 0) (by decide) rfl fl_X4_9 dX4_choose_18 ev16 ?_
  refine wp_iconst (v := 0) dX4_choose_21 (by decide) ?_
  obtain ⟨v17, ev17, h⟩ := HI.bind h
  refine cgS_v (Y' := Y_J7_fill) (kc2 := 0) (ks2 := 0) dX4_choose_22 ml_X4_35 ce_J7_fill ⟨(Nat.le_of_ble_eq_true rfl), (Nat.le_of_ble_eq_true rfl)⟩ ⟨(Nat.le_of_ble_eq_true rfl), (Nat.le_of_ble_eq_true rfl)⟩ rfl rfl (ct_J7_fill ev17) rfl rfl (Nat.le_of_ble_eq_true rfl) ?_
  refine wp_iconst (v := 0) dX4_choose_25 (by decide) ?_
  refine wp_istore_n (i := 3) dX4_choose_26 rfl rfl rfl ?_
  exact wp_weak [true, true, false, true] (w_X4_choose_27 _ _ _ _ _ h)
theorem ct_X4_tintOf {D : DT} {l : Launch} {m : Mem} {x0 : Nat} {x1 : Int32} {r : Int32} (h : F_X4_tintOf x0 x1 m = some r) : Ct D l Y_X4_tintOf [.ref x0, .int x1] m (fun (v : Option Value) (N : Mem) => v = some (Value.int r) ∧ N = m) := by
  refine ct_of (by decide) (by rfl) (ls0 := [.ref x0, .int x1]) rfl rfl ?_
  have h : PI m (F_X4_tintOf x0 x1 m) (fun (v : Option Value) (N : Mem) => v = some (Value.int r) ∧ N = m) := ⟨r, h, rfl, rfl⟩
  revert h
  generalize (fun (v : Option Value) (N : Mem) => v = some (Value.int r) ∧ N = m) = post
  intro h
  refine wp_aload_n (i := 0) dX4_tintOf_0 rfl rfl ?_
  obtain ⟨v1, ev1, h⟩ := PI.bind h
  refine wp_getR cl4 (f := 1) (by decide) rfl fl_X4_15 dX4_tintOf_1 ev1 ?_
  refine wp_iload_n (i := 1) dX4_tintOf_4 rfl rfl ?_
  obtain ⟨v2, ev2, h⟩ := PI.bind h
  refine wp_iaload dX4_tintOf_5 ev2 ?_
  exact wp_iret dX4_tintOf_6 rfl rfl (Nat.le_of_ble_eq_true rfl) (Nat.le_of_ble_eq_true rfl) (PI.some h)
theorem ct_X1_note {D : DT} {l : Launch} {m : Mem} {x0 : Nat} {x1 : Int32} {x2 : Int32} {x3 : Int32} {r : (Int32 × Mem)} (h : F_X1_note x0 x1 x2 x3 m = some r) : Ct D l Y_X1_note [.ref x0, .int x1, .int x2, .int x3] m (fun (v : Option Value) (N : Mem) => v = some (Value.int r.1) ∧ N = r.2) := by
  refine ct_of (by decide) (by rfl) (ls0 := [.ref x0, .int x1, .int x2, .int x3]) rfl rfl ?_
  have h : HI (F_X1_note x0 x1 x2 x3 m) (fun (v : Option Value) (N : Mem) => v = some (Value.int r.1) ∧ N = r.2) := ⟨r.1, r.2, h, rfl, rfl⟩
  revert h
  generalize (fun (v : Option Value) (N : Mem) => v = some (Value.int r.1) ∧ N = r.2) = post
  intro h
  refine wp_aload_n (i := 0) dX1_note_0 rfl rfl ?_
  obtain ⟨v1, ev1, h⟩ := HI.bind h
  refine wp_getI cl1 (f := 3) (by decide) rfl fl_X1_21 dX1_note_1 ev1 ?_
  refine wp_bipush (v := 6) dX1_note_4 (by decide) ?_
  refine wp_icmp_lt (tgt := 11) dX1_note_6 (by decide) (fun c2 => ?_) (fun c2 => ?_)
  · have h := HI.t c2 h
    refine wp_aload_n (i := 0) dX1_note_11 rfl rfl ?_
    obtain ⟨v3, ev3, h⟩ := HI.bind h
    refine wp_getR cl1 (f := 0) (by decide) rfl fl_X1_11 dX1_note_12 ev3 ?_
    refine wp_aload_n (i := 0) dX1_note_15 rfl rfl ?_
    obtain ⟨v4, ev4, h⟩ := HI.bind h
    refine wp_getI cl1 (f := 3) (by decide) rfl fl_X1_21 dX1_note_16 ev4 ?_
    refine wp_iload_n (i := 1) dX1_note_19 rfl rfl ?_
    obtain ⟨m5, em5, h⟩ := HI.bind h
    refine wp_iastore dX1_note_20 em5 ?_
    refine wp_aload_n (i := 0) dX1_note_21 rfl rfl ?_
    obtain ⟨v6, ev6, h⟩ := HI.bind h
    refine wp_getR cl1 (f := 1) (by decide) rfl fl_X1_15 dX1_note_22 ev6 ?_
    refine wp_aload_n (i := 0) dX1_note_25 rfl rfl ?_
    obtain ⟨v7, ev7, h⟩ := HI.bind h
    refine wp_getI cl1 (f := 3) (by decide) rfl fl_X1_21 dX1_note_26 ev7 ?_
    refine wp_iload_n (i := 2) dX1_note_29 rfl rfl ?_
    obtain ⟨m8, em8, h⟩ := HI.bind h
    refine wp_iastore dX1_note_30 em8 ?_
    refine wp_aload_n (i := 0) dX1_note_31 rfl rfl ?_
    obtain ⟨v9, ev9, h⟩ := HI.bind h
    refine wp_getR cl1 (f := 2) (by decide) rfl fl_X1_18 dX1_note_32 ev9 ?_
    refine wp_aload_n (i := 0) dX1_note_35 rfl rfl ?_
    obtain ⟨v10, ev10, h⟩ := HI.bind h
    refine wp_getI cl1 (f := 3) (by decide) rfl fl_X1_21 dX1_note_36 ev10 ?_
    refine wp_iload_n (i := 3) dX1_note_39 rfl rfl ?_
    obtain ⟨m11, em11, h⟩ := HI.bind h
    refine wp_iastore dX1_note_40 em11 ?_
    refine wp_aload_n (i := 0) dX1_note_41 rfl rfl ?_
    refine wp_dup dX1_note_42 rfl ?_
    obtain ⟨v12, ev12, h⟩ := HI.bind h
    refine wp_getI cl1 (f := 3) (by decide) rfl fl_X1_21 dX1_note_43 ev12 ?_
    refine wp_iconst (v := 1) dX1_note_46 (by decide) ?_
    refine wp_iadd dX1_note_47 ?_
    obtain ⟨m13, em13, h⟩ := HI.bind h
    refine wp_putI cl1 (f := 3) (by decide) rfl fl_X1_21 (Or.inl rfl) dX1_note_48 em13 ?_
    refine wp_iconst (v := 1) dX1_note_51 (by decide) ?_
    exact wp_iret dX1_note_52 rfl (by decide) (Nat.le_of_ble_eq_true rfl) (Nat.le_of_ble_eq_true rfl) (HI.some h)
  · have h := HI.f c2 h
    refine wp_iconst (v := 0) dX1_note_9 (by decide) ?_
    exact wp_iret dX1_note_10 rfl (by decide) (Nat.le_of_ble_eq_true rfl) (Nat.le_of_ble_eq_true rfl) (HI.some h)
theorem ct_X1_size {D : DT} {l : Launch} {m : Mem} {x0 : Nat} {r : Int32} (h : F_X1_size x0 m = some r) : Ct D l Y_X1_size [.ref x0] m (fun (v : Option Value) (N : Mem) => v = some (Value.int r) ∧ N = m) := by
  refine ct_of (by decide) (by rfl) (ls0 := [.ref x0]) rfl rfl ?_
  have h : PI m (F_X1_size x0 m) (fun (v : Option Value) (N : Mem) => v = some (Value.int r) ∧ N = m) := ⟨r, h, rfl, rfl⟩
  revert h
  generalize (fun (v : Option Value) (N : Mem) => v = some (Value.int r) ∧ N = m) = post
  intro h
  refine wp_aload_n (i := 0) dX1_size_0 rfl rfl ?_
  obtain ⟨v1, ev1, h⟩ := PI.bind h
  refine wp_getI cl1 (f := 3) (by decide) rfl fl_X1_21 dX1_size_1 ev1 ?_
  exact wp_iret dX1_size_4 rfl rfl (Nat.le_of_ble_eq_true rfl) (Nat.le_of_ble_eq_true rfl) (PI.some h)
theorem w_X1_fitPerson_50 {D : DT} {l : Launch} {post : Option Value → Mem → Prop} {m : Mem} {r3 : Nat → Nat → Int32 → Int32 → Int32 → Int32 → Option Int32} (hr3 : ∀ (x0 : Nat) (x1 : Nat) (x2 : Int32) (x3 : Int32) (x4 : Int32) (x5 : Int32), PI m (r3 x0 x1 x2 x3 x4 x5) post → WP D l Y_X1_fitPerson 0 0 3 [.ref x0, .ref x1, .int x2, .int x3, .int x4, .int x5] [] m post) {x0 : Nat} {x1 : Nat} {x2 : Int32} {x3 : Int32} {x4 : Int32} {x5 : Int32} (h : PI m (F_X1_fitPerson_50 m r3 x0 x1 x2 x3 x4 x5) post) : WP D l Y_X1_fitPerson 0 0 50 [.ref x0, .ref x1, .int x2, .int x3, .int x4, .int x5] [] m post := by
  refine wp_iinc (v := 1) dX1_fitPerson_50 rfl (by decide) rfl rfl ?_
  refine wp_goto (tgt := 3) dX1_fitPerson_53 (by decide) ?_
  exact (hr3 _ _ _ _ _ _ h)
theorem w_X1_fitPerson_3 {D : DT} {l : Launch} {post : Option Value → Mem → Prop} {m : Mem} : ∀ (n : Nat) (x0 : Nat) (x1 : Nat) (x2 : Int32) (x3 : Int32) (x4 : Int32) (x5 : Int32), PI m (F_X1_fitPerson_3 m n x0 x1 x2 x3 x4 x5) post → WP D l Y_X1_fitPerson 0 0 3 [.ref x0, .ref x1, .int x2, .int x3, .int x4, .int x5] [] m post := by
  intro n
  induction n with
  | zero => intro x0 x1 x2 x3 x4 x5 h; exact (PI.none h).elim
  | succ n ih =>
    intro x0 x1 x2 x3 x4 x5 h
    refine wp_iload dX1_fitPerson_3 rfl ?_
    refine wp_aload_n (i := 0) dX1_fitPerson_5 rfl rfl ?_
    obtain ⟨v1, ev1, h⟩ := PI.bind h
    refine wp_getI cl1 (f := 3) (by decide) rfl fl_X1_21 dX1_fitPerson_6 ev1 ?_
    refine wp_icmp_ge (tgt := 56) dX1_fitPerson_9 (by decide) (fun c2 => ?_) (fun c2 => ?_)
    · have h := PI.t c2 h
      refine wp_iconst (v := 1) dX1_fitPerson_56 (by decide) ?_
      exact wp_iret dX1_fitPerson_57 rfl (by decide) (Nat.le_of_ble_eq_true rfl) (Nat.le_of_ble_eq_true rfl) (PI.some h)
    · have h := PI.f c2 h
      refine wp_aload_n (i := 0) dX1_fitPerson_12 rfl rfl ?_
      obtain ⟨v3, ev3, h⟩ := PI.bind h
      refine wp_getR cl1 (f := 0) (by decide) rfl fl_X1_11 dX1_fitPerson_13 ev3 ?_
      refine wp_iload dX1_fitPerson_16 rfl ?_
      obtain ⟨v4, ev4, h⟩ := PI.bind h
      refine wp_iaload dX1_fitPerson_18 ev4 ?_
      refine wp_iload_n (i := 2) dX1_fitPerson_19 rfl rfl ?_
      refine wp_icmp_ne (tgt := 50) dX1_fitPerson_20 (by decide) (fun c5 => ?_) (fun c5 => ?_)
      · have h := PI.f c5 h
        exact (w_X1_fitPerson_50 ih h)
      · have h := PI.t c5 h
        refine wp_aload_n (i := 1) dX1_fitPerson_23 rfl rfl ?_
        refine wp_aload_n (i := 0) dX1_fitPerson_24 rfl rfl ?_
        obtain ⟨v6, ev6, h⟩ := PI.bind h
        refine wp_getR cl1 (f := 1) (by decide) rfl fl_X1_15 dX1_fitPerson_25 ev6 ?_
        refine wp_iload dX1_fitPerson_28 rfl ?_
        obtain ⟨v7, ev7, h⟩ := PI.bind h
        refine wp_iaload dX1_fitPerson_30 ev7 ?_
        refine wp_iload_n (i := 2) dX1_fitPerson_31 rfl rfl ?_
        refine wp_iload_n (i := 3) dX1_fitPerson_32 rfl rfl ?_
        refine wp_iload dX1_fitPerson_33 rfl ?_
        obtain ⟨v9, ev9, h⟩ := PI.bind h
        obtain ⟨v8, ev8, h⟩ := PI.bind h
        refine cgV_i (Y' := Y_X5_yardBehind) (kc2 := 0) (ks2 := 0) dX1_fitPerson_35 ml_X1_25 ce_X5_yardBehind (t := 5) rfl (by decide) ⟨(Nat.le_of_ble_eq_true rfl), (Nat.le_of_ble_eq_true rfl)⟩ ⟨(Nat.le_of_ble_eq_true rfl), (Nat.le_of_ble_eq_true rfl)⟩ rfl rfl (chkT_eq ev9) (ct_X5_yardBehind ev8) rfl rfl (Nat.le_of_ble_eq_true rfl) ?_
        refine wp_aload_n (i := 0) dX1_fitPerson_38 rfl rfl ?_
        obtain ⟨v10, ev10, h⟩ := PI.bind h
        refine wp_getR cl1 (f := 2) (by decide) rfl fl_X1_18 dX1_fitPerson_39 ev10 ?_
        refine wp_iload dX1_fitPerson_42 rfl ?_
        obtain ⟨v11, ev11, h⟩ := PI.bind h
        refine wp_iaload dX1_fitPerson_44 ev11 ?_
        refine wp_icmp_eq (tgt := 50) dX1_fitPerson_45 (by decide) (fun c12 => ?_) (fun c12 => ?_)
        · have h := PI.t c12 h
          exact (w_X1_fitPerson_50 ih h)
        · have h := PI.f c12 h
          refine wp_iconst (v := 0) dX1_fitPerson_48 (by decide) ?_
          exact wp_iret dX1_fitPerson_49 rfl (by decide) (Nat.le_of_ble_eq_true rfl) (Nat.le_of_ble_eq_true rfl) (PI.some h)
theorem ct_X1_fitPerson {D : DT} {l : Launch} {m : Mem} {x0 : Nat} {x1 : Nat} {x2 : Int32} {x3 : Int32} {x4 : Int32} {r : Int32} (h : F_X1_fitPerson x0 x1 x2 x3 x4 m = some r) : Ct D l Y_X1_fitPerson [.ref x0, .ref x1, .int x2, .int x3, .int x4] m (fun (v : Option Value) (N : Mem) => v = some (Value.int r) ∧ N = m) := by
  refine ct_of (by decide) (by rfl) (ls0 := [.ref x0, .ref x1, .int x2, .int x3, .int x4, JK]) rfl rfl ?_
  have h : PI m (F_X1_fitPerson x0 x1 x2 x3 x4 m) (fun (v : Option Value) (N : Mem) => v = some (Value.int r) ∧ N = m) := ⟨r, h, rfl, rfl⟩
  revert h
  generalize (fun (v : Option Value) (N : Mem) => v = some (Value.int r) ∧ N = m) = post
  intro h
  refine wp_iconst (v := 0) dX1_fitPerson_0 (by decide) ?_
  refine wp_istore dX1_fitPerson_1 rfl rfl ?_
  exact (w_X1_fitPerson_3 _ _ _ _ _ _ _ h)
theorem w_X1_fitRing_2 {D : DT} {l : Launch} {post : Option Value → Mem → Prop} {m : Mem} : ∀ (n : Nat) (x0 : Nat) (x1 : Int32) (x2 : Int32) (x3 : Int32), PI m (F_X1_fitRing_2 m n x0 x1 x2 x3) post → WP D l Y_X1_fitRing 0 0 2 [.ref x0, .int x1, .int x2, .int x3] [] m post := by
  intro n
  induction n with
  | zero => intro x0 x1 x2 x3 h; exact (PI.none h).elim
  | succ n ih =>
    intro x0 x1 x2 x3 h
    refine wp_iload_n (i := 3) dX1_fitRing_2 rfl rfl ?_
    refine wp_aload_n (i := 0) dX1_fitRing_3 rfl rfl ?_
    obtain ⟨v1, ev1, h⟩ := PI.bind h
    refine wp_getI cl1 (f := 3) (by decide) rfl fl_X1_21 dX1_fitRing_4 ev1 ?_
    refine wp_icmp_ge (tgt := 40) dX1_fitRing_7 (by decide) (fun c2 => ?_) (fun c2 => ?_)
    · have h := PI.t c2 h
      refine wp_iconst (v := 1) dX1_fitRing_40 (by decide) ?_
      exact wp_iret dX1_fitRing_41 rfl (by decide) (Nat.le_of_ble_eq_true rfl) (Nat.le_of_ble_eq_true rfl) (PI.some h)
    · have h := PI.f c2 h
      refine wp_iload_n (i := 1) dX1_fitRing_10 rfl rfl ?_
      refine wp_aload_n (i := 0) dX1_fitRing_11 rfl rfl ?_
      obtain ⟨v3, ev3, h⟩ := PI.bind h
      refine wp_getR cl1 (f := 1) (by decide) rfl fl_X1_15 dX1_fitRing_12 ev3 ?_
      refine wp_iload_n (i := 3) dX1_fitRing_15 rfl rfl ?_
      obtain ⟨v4, ev4, h⟩ := PI.bind h
      refine wp_iaload dX1_fitRing_16 ev4 ?_
      refine wp_iload_n (i := 2) dX1_fitRing_17 rfl rfl ?_
      refine wp_imul dX1_fitRing_18 ?_
      refine wp_iadd dX1_fitRing_19 ?_
      refine wp_bipush (v := 12) dX1_fitRing_20 (by decide) ?_
      refine wp_irem dX1_fitRing_22 (by decide) ?_
      refine wp_aload_n (i := 0) dX1_fitRing_23 rfl rfl ?_
      obtain ⟨v5, ev5, h⟩ := PI.bind h
      refine wp_getR cl1 (f := 2) (by decide) rfl fl_X1_18 dX1_fitRing_24 ev5 ?_
      refine wp_iload_n (i := 3) dX1_fitRing_27 rfl rfl ?_
      obtain ⟨v6, ev6, h⟩ := PI.bind h
      refine wp_iaload dX1_fitRing_28 ev6 ?_
      refine wp_icmp_eq (tgt := 34) dX1_fitRing_29 (by decide) (fun c7 => ?_) (fun c7 => ?_)
      · have h := PI.t c7 h
        refine wp_iinc (v := 1) dX1_fitRing_34 rfl (by decide) rfl rfl ?_
        refine wp_goto (tgt := 2) dX1_fitRing_37 (by decide) ?_
        exact (ih _ _ _ _ h)
      · have h := PI.f c7 h
        refine wp_iconst (v := 0) dX1_fitRing_32 (by decide) ?_
        exact wp_iret dX1_fitRing_33 rfl (by decide) (Nat.le_of_ble_eq_true rfl) (Nat.le_of_ble_eq_true rfl) (PI.some h)
theorem ct_X1_fitRing {D : DT} {l : Launch} {m : Mem} {x0 : Nat} {x1 : Int32} {x2 : Int32} {r : Int32} (h : F_X1_fitRing x0 x1 x2 m = some r) : Ct D l Y_X1_fitRing [.ref x0, .int x1, .int x2] m (fun (v : Option Value) (N : Mem) => v = some (Value.int r) ∧ N = m) := by
  refine ct_of (by decide) (by rfl) (ls0 := [.ref x0, .int x1, .int x2, JK]) rfl rfl ?_
  have h : PI m (F_X1_fitRing x0 x1 x2 m) (fun (v : Option Value) (N : Mem) => v = some (Value.int r) ∧ N = m) := ⟨r, h, rfl, rfl⟩
  revert h
  generalize (fun (v : Option Value) (N : Mem) => v = some (Value.int r) ∧ N = m) = post
  intro h
  refine wp_iconst (v := 0) dX1_fitRing_0 (by decide) ?_
  refine wp_istore_n (i := 3) dX1_fitRing_1 rfl rfl rfl ?_
  exact (w_X1_fitRing_2 _ _ _ _ _ h)
theorem w_X0_goOn_10 {D : DT} {l : Launch} {post : Option Value → Mem → Prop} : ∀ (n : Nat) (x0 : Nat) (x1 : Int32) (x2 : Int32) (x3 : Int32) (m : Mem), HV (F_X0_goOn_10 n x0 x1 x2 x3 m) post → WP D l Y_X0_goOn 0 0 10 [.ref x0, .int x1, .int x2, .int x3] [] m post := by
  intro n
  induction n with
  | zero => intro x0 x1 x2 x3 m h; exact (HV.none h).elim
  | succ n ih =>
    intro x0 x1 x2 x3 m h
    refine wp_iload_n (i := 3) dX0_goOn_10 rfl rfl ?_
    refine wp_bipush (v := 12) dX0_goOn_11 (by decide) ?_
    refine wp_icmp_ge (tgt := 64) dX0_goOn_13 (by decide) (fun c1 => ?_) (fun c1 => ?_)
    · have h := HV.t c1 h
      refine wp_aload_n (i := 0) dX0_goOn_64 rfl rfl ?_
      obtain ⟨v2, ev2, h⟩ := HV.bind h
      refine wp_getR cl0 (f := 0) (by decide) rfl fl_X0_9 dX0_goOn_65 ev2 ?_
      refine wp_astore_n (i := 3) dX0_goOn_68 rfl rfl rfl ?_
      refine wp_aload_n (i := 0) dX0_goOn_69 rfl rfl ?_
      refine wp_aload_n (i := 0) dX0_goOn_70 rfl rfl ?_
      obtain ⟨v3, ev3, h⟩ := HV.bind h
      refine wp_getR cl0 (f := 1) (by decide) rfl fl_X0_15 dX0_goOn_71 ev3 ?_
      obtain ⟨m4, em4, h⟩ := HV.bind h
      refine wp_putR cl0 (f := 0) (by decide) rfl fl_X0_9 (Or.inl rfl) dX0_goOn_74 em4 ?_
      refine wp_aload_n (i := 0) dX0_goOn_77 rfl rfl ?_
      refine wp_aload_n (i := 3) dX0_goOn_78 rfl rfl ?_
      obtain ⟨m5, em5, h⟩ := HV.bind h
      refine wp_putR cl0 (f := 1) (by decide) rfl fl_X0_15 (Or.inl rfl) dX0_goOn_79 em5 ?_
      exact wp_vret dX0_goOn_82 rfl (Nat.le_of_ble_eq_true rfl) (Nat.le_of_ble_eq_true rfl) (HV.some h)
    · have h := HV.f c1 h
      refine wp_aload_n (i := 0) dX0_goOn_16 rfl rfl ?_
      obtain ⟨v6, ev6, h⟩ := HV.bind h
      refine wp_getR cl0 (f := 1) (by decide) rfl fl_X0_15 dX0_goOn_17 ev6 ?_
      refine wp_iload_n (i := 3) dX0_goOn_20 rfl rfl ?_
      refine wp_dup2 dX0_goOn_21 rfl rfl ?_
      obtain ⟨v7, ev7, h⟩ := HV.bind h
      refine wp_iaload dX0_goOn_22 ev7 ?_
      refine wp_aload_n (i := 0) dX0_goOn_23 rfl rfl ?_
      obtain ⟨v8, ev8, h⟩ := HV.bind h
      refine wp_getR cl0 (f := 0) (by decide) rfl fl_X0_9 dX0_goOn_24 ev8 ?_
      refine wp_iload_n (i := 3) dX0_goOn_27 rfl rfl ?_
      obtain ⟨v9, ev9, h⟩ := HV.bind h
      refine wp_iaload dX0_goOn_28 ev9 ?_
      refine wp_iload_n (i := 2) dX0_goOn_29 rfl rfl ?_
      refine wp_imul dX0_goOn_30 ?_
      refine wp_iadd dX0_goOn_31 ?_
      obtain ⟨m10, em10, h⟩ := HV.bind h
      refine wp_iastore dX0_goOn_32 em10 ?_
      refine wp_aload_n (i := 0) dX0_goOn_33 rfl rfl ?_
      obtain ⟨v11, ev11, h⟩ := HV.bind h
      refine wp_getR cl0 (f := 1) (by decide) rfl fl_X0_15 dX0_goOn_34 ev11 ?_
      refine wp_iload_n (i := 3) dX0_goOn_37 rfl rfl ?_
      refine wp_iload_n (i := 1) dX0_goOn_38 rfl rfl ?_
      refine wp_iadd dX0_goOn_39 ?_
      refine wp_bipush (v := 12) dX0_goOn_40 (by decide) ?_
      refine wp_irem dX0_goOn_42 (by decide) ?_
      refine wp_dup2 dX0_goOn_43 rfl rfl ?_
      obtain ⟨v12, ev12, h⟩ := HV.bind h
      refine wp_iaload dX0_goOn_44 ev12 ?_
      refine wp_aload_n (i := 0) dX0_goOn_45 rfl rfl ?_
      obtain ⟨v13, ev13, h⟩ := HV.bind h
      refine wp_getR cl0 (f := 0) (by decide) rfl fl_X0_9 dX0_goOn_46 ev13 ?_
      refine wp_iload_n (i := 3) dX0_goOn_49 rfl rfl ?_
      obtain ⟨v14, ev14, h⟩ := HV.bind h
      refine wp_iaload dX0_goOn_50 ev14 ?_
      refine wp_bipush (v := 10) dX0_goOn_51 (by decide) ?_
      refine wp_iload_n (i := 2) dX0_goOn_53 rfl rfl ?_
      refine wp_isub dX0_goOn_54 ?_
      refine wp_imul dX0_goOn_55 ?_
      refine wp_iadd dX0_goOn_56 ?_
      obtain ⟨m15, em15, h⟩ := HV.bind h
      refine wp_iastore dX0_goOn_57 em15 ?_
      refine wp_iinc (v := 1) dX0_goOn_58 rfl (by decide) rfl rfl ?_
      refine wp_goto (tgt := 10) dX0_goOn_61 (by decide) ?_
      exact (ih _ _ _ _ _ h)
theorem ct_X0_goOn {D : DT} {l : Launch} {m : Mem} {x0 : Nat} {x1 : Int32} {x2 : Int32} {r : Mem} (h : F_X0_goOn x0 x1 x2 m = some r) : Ct D l Y_X0_goOn [.ref x0, .int x1, .int x2] m (fun (v : Option Value) (N : Mem) => v = none ∧ N = r) := by
  refine ct_of (by decide) (by rfl) (ls0 := [.ref x0, .int x1, .int x2, JK]) rfl rfl ?_
  have h : HV (F_X0_goOn x0 x1 x2 m) (fun (v : Option Value) (N : Mem) => v = none ∧ N = r) := ⟨r, h, rfl, rfl⟩
  revert h
  generalize (fun (v : Option Value) (N : Mem) => v = none ∧ N = r) = post
  intro h
  refine wp_aload_n (i := 0) dX0_goOn_0 rfl rfl ?_
  obtain ⟨v16, ev16, h⟩ := HV.bind h
  refine wp_getR cl0 (f := 1) (by decide) rfl fl_X0_15 dX0_goOn_1 ev16 ?_
  refine wp_iconst (v := 0) dX0_goOn_4 (by decide) ?_
  obtain ⟨v17, ev17, h⟩ := HV.bind h
  refine cgS_v (Y' := Y_J7_fill) (kc2 := 0) (ks2 := 0) dX0_goOn_5 ml_X0_18 ce_J7_fill ⟨(Nat.le_of_ble_eq_true rfl), (Nat.le_of_ble_eq_true rfl)⟩ ⟨(Nat.le_of_ble_eq_true rfl), (Nat.le_of_ble_eq_true rfl)⟩ rfl rfl (ct_J7_fill ev17) rfl rfl (Nat.le_of_ble_eq_true rfl) ?_
  refine wp_iconst (v := 0) dX0_goOn_8 (by decide) ?_
  refine wp_istore_n (i := 3) dX0_goOn_9 rfl rfl rfl ?_
  exact (w_X0_goOn_10 _ _ _ _ _ _ h)
theorem w_X0_follow_22 {D : DT} {l : Launch} {post : Option Value → Mem → Prop} : ∀ (n : Nat) (x0 : Nat) (x1 : Nat) (x2 : Int32) (x3 : Int32) (x4 : Int32) (x5 : Int32) (m : Mem), HV (F_X0_follow_22 n x0 x1 x2 x3 x4 x5 m) post → WP D l Y_X0_follow 0 0 22 [.ref x0, .ref x1, .int x2, .int x3, .int x4, .int x5] [] m post := by
  intro n
  induction n with
  | zero => intro x0 x1 x2 x3 x4 x5 m h; exact (HV.none h).elim
  | succ n ih =>
    intro x0 x1 x2 x3 x4 x5 m h
    refine wp_iload dX0_follow_22 rfl ?_
    refine wp_iload_n (i := 3) dX0_follow_24 rfl rfl ?_
    refine wp_icmp_ge (tgt := 60) dX0_follow_25 (by decide) (fun c1 => ?_) (fun c1 => ?_)
    · have h := HV.t c1 h
      exact wp_vret dX0_follow_60 rfl (Nat.le_of_ble_eq_true rfl) (Nat.le_of_ble_eq_true rfl) (HV.some h)
    · have h := HV.f c1 h
      refine wp_aload_n (i := 0) dX0_follow_28 rfl rfl ?_
      refine wp_aload_n (i := 1) dX0_follow_29 rfl rfl ?_
      obtain ⟨v3, ev3, h⟩ := HV.bind h
      obtain ⟨v2, ev2, h⟩ := HV.bind h
      refine cgV_i (Y' := Y_X5_day) (kc2 := 0) (ks2 := 0) dX0_follow_30 ml_X0_30 ce_X5_day (t := 5) rfl (by decide) ⟨(Nat.le_of_ble_eq_true rfl), (Nat.le_of_ble_eq_true rfl)⟩ ⟨(Nat.le_of_ble_eq_true rfl), (Nat.le_of_ble_eq_true rfl)⟩ rfl rfl (chkT_eq ev3) (ct_X5_day ev2) rfl rfl (Nat.le_of_ble_eq_true rfl) ?_
      refine wp_iload dX0_follow_33 rfl ?_
      refine wp_iadd dX0_follow_35 ?_
      refine wp_aload_n (i := 1) dX0_follow_36 rfl rfl ?_
      refine wp_iload_n (i := 2) dX0_follow_37 rfl rfl ?_
      obtain ⟨v5, ev5, h⟩ := HV.bind h
      obtain ⟨v4, ev4, h⟩ := HV.bind h
      refine cgV_i (Y' := Y_X5_kindOf) (kc2 := 0) (ks2 := 0) dX0_follow_38 ml_X0_34 ce_X5_kindOf (t := 5) rfl (by decide) ⟨(Nat.le_of_ble_eq_true rfl), (Nat.le_of_ble_eq_true rfl)⟩ ⟨(Nat.le_of_ble_eq_true rfl), (Nat.le_of_ble_eq_true rfl)⟩ rfl rfl (chkT_eq ev5) (ct_X5_kindOf ev4) rfl rfl (Nat.le_of_ble_eq_true rfl) ?_
      refine wp_aload_n (i := 1) dX0_follow_41 rfl rfl ?_
      refine wp_iload_n (i := 2) dX0_follow_42 rfl rfl ?_
      obtain ⟨v7, ev7, h⟩ := HV.bind h
      obtain ⟨v6, ev6, h⟩ := HV.bind h
      refine cgV_i (Y' := Y_X5_paceOf) (kc2 := 0) (ks2 := 0) dX0_follow_43 ml_X0_37 ce_X5_paceOf (t := 5) rfl (by decide) ⟨(Nat.le_of_ble_eq_true rfl), (Nat.le_of_ble_eq_true rfl)⟩ ⟨(Nat.le_of_ble_eq_true rfl), (Nat.le_of_ble_eq_true rfl)⟩ rfl rfl (chkT_eq ev7) (ct_X5_paceOf ev6) rfl rfl (Nat.le_of_ble_eq_true rfl) ?_
      obtain ⟨v8, ev8, h⟩ := HV.bind h
      refine cgS_i (Y' := Y_X5_yardsOn) (kc2 := 0) (ks2 := 0) dX0_follow_46 ml_X0_40 ce_X5_yardsOn ⟨(Nat.le_of_ble_eq_true rfl), (Nat.le_of_ble_eq_true rfl)⟩ ⟨(Nat.le_of_ble_eq_true rfl), (Nat.le_of_ble_eq_true rfl)⟩ rfl rfl (ct_X5_yardsOn ev8) rfl rfl (Nat.le_of_ble_eq_true rfl) ?_
      refine wp_iload dX0_follow_49 rfl ?_
      obtain ⟨v10, ev10, h⟩ := HV.bind h
      obtain ⟨v9, ev9, h⟩ := HV.bind h
      refine cgV_v (Y' := Y_X0_goOn) (kc2 := 0) (ks2 := 0) dX0_follow_51 ml_X0_44 ce_X0_goOn (t := 0) rfl (by decide) ⟨(Nat.le_of_ble_eq_true rfl), (Nat.le_of_ble_eq_true rfl)⟩ ⟨(Nat.le_of_ble_eq_true rfl), (Nat.le_of_ble_eq_true rfl)⟩ rfl rfl (chkT_eq ev10) (ct_X0_goOn ev9) rfl rfl (Nat.le_of_ble_eq_true rfl) ?_
      refine wp_iinc (v := 1) dX0_follow_54 rfl (by decide) rfl rfl ?_
      refine wp_goto (tgt := 22) dX0_follow_57 (by decide) ?_
      exact (ih _ _ _ _ _ _ _ h)
theorem ct_X0_follow {D : DT} {l : Launch} {m : Mem} {x0 : Nat} {x1 : Nat} {x2 : Int32} {x3 : Int32} {x4 : Int32} {r : Mem} (h : F_X0_follow x0 x1 x2 x3 x4 m = some r) : Ct D l Y_X0_follow [.ref x0, .ref x1, .int x2, .int x3, .int x4] m (fun (v : Option Value) (N : Mem) => v = none ∧ N = r) := by
  refine ct_of (by decide) (by rfl) (ls0 := [.ref x0, .ref x1, .int x2, .int x3, .int x4, JK]) rfl rfl ?_
  have h : HV (F_X0_follow x0 x1 x2 x3 x4 m) (fun (v : Option Value) (N : Mem) => v = none ∧ N = r) := ⟨r, h, rfl, rfl⟩
  revert h
  generalize (fun (v : Option Value) (N : Mem) => v = none ∧ N = r) = post
  intro h
  refine wp_aload_n (i := 0) dX0_follow_0 rfl rfl ?_
  obtain ⟨v11, ev11, h⟩ := HV.bind h
  refine wp_getR cl0 (f := 0) (by decide) rfl fl_X0_9 dX0_follow_1 ev11 ?_
  refine wp_iconst (v := 0) dX0_follow_4 (by decide) ?_
  obtain ⟨v12, ev12, h⟩ := HV.bind h
  refine cgS_v (Y' := Y_J7_fill) (kc2 := 0) (ks2 := 0) dX0_follow_5 ml_X0_18 ce_J7_fill ⟨(Nat.le_of_ble_eq_true rfl), (Nat.le_of_ble_eq_true rfl)⟩ ⟨(Nat.le_of_ble_eq_true rfl), (Nat.le_of_ble_eq_true rfl)⟩ rfl rfl (ct_J7_fill ev12) rfl rfl (Nat.le_of_ble_eq_true rfl) ?_
  refine wp_aload_n (i := 0) dX0_follow_8 rfl rfl ?_
  obtain ⟨v13, ev13, h⟩ := HV.bind h
  refine wp_getR cl0 (f := 0) (by decide) rfl fl_X0_9 dX0_follow_9 ev13 ?_
  refine wp_aload_n (i := 1) dX0_follow_12 rfl rfl ?_
  refine wp_iload_n (i := 2) dX0_follow_13 rfl rfl ?_
  obtain ⟨v15, ev15, h⟩ := HV.bind h
  obtain ⟨v14, ev14, h⟩ := HV.bind h
  refine cgV_i (Y' := Y_X5_yardOf) (kc2 := 0) (ks2 := 0) dX0_follow_14 ml_X0_24 ce_X5_yardOf (t := 5) rfl (by decide) ⟨(Nat.le_of_ble_eq_true rfl), (Nat.le_of_ble_eq_true rfl)⟩ ⟨(Nat.le_of_ble_eq_true rfl), (Nat.le_of_ble_eq_true rfl)⟩ rfl rfl (chkT_eq ev15) (ct_X5_yardOf ev14) rfl rfl (Nat.le_of_ble_eq_true rfl) ?_
  refine wp_iconst (v := 1) dX0_follow_17 (by decide) ?_
  obtain ⟨m16, em16, h⟩ := HV.bind h
  refine wp_iastore dX0_follow_18 em16 ?_
  refine wp_iconst (v := 0) dX0_follow_19 (by decide) ?_
  refine wp_istore dX0_follow_20 rfl rfl ?_
  exact (w_X0_follow_22 _ _ _ _ _ _ _ _ h)
theorem ct_X0_weightAt {D : DT} {l : Launch} {m : Mem} {x0 : Nat} {x1 : Int32} {r : Int32} (h : F_X0_weightAt x0 x1 m = some r) : Ct D l Y_X0_weightAt [.ref x0, .int x1] m (fun (v : Option Value) (N : Mem) => v = some (Value.int r) ∧ N = m) := by
  refine ct_of (by decide) (by rfl) (ls0 := [.ref x0, .int x1]) rfl rfl ?_
  have h : PI m (F_X0_weightAt x0 x1 m) (fun (v : Option Value) (N : Mem) => v = some (Value.int r) ∧ N = m) := ⟨r, h, rfl, rfl⟩
  revert h
  generalize (fun (v : Option Value) (N : Mem) => v = some (Value.int r) ∧ N = m) = post
  intro h
  refine wp_aload_n (i := 0) dX0_weightAt_0 rfl rfl ?_
  obtain ⟨v1, ev1, h⟩ := PI.bind h
  refine wp_getR cl0 (f := 0) (by decide) rfl fl_X0_9 dX0_weightAt_1 ev1 ?_
  refine wp_iload_n (i := 1) dX0_weightAt_4 rfl rfl ?_
  obtain ⟨v2, ev2, h⟩ := PI.bind h
  refine wp_iaload dX0_weightAt_5 ev2 ?_
  exact wp_iret dX0_weightAt_6 rfl rfl (Nat.le_of_ble_eq_true rfl) (Nat.le_of_ble_eq_true rfl) (PI.some h)
