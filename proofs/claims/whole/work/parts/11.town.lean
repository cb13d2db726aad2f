def F_X5_init (x0 : Nat) (m : Mem) : Option Mem :=
  (chkT m 5 x0).bind fun v1 =>
  (pR (mNew m 10 7) 5 x0 0 (mN m)).bind fun m2 =>
  (pR (mNew m2 10 7) 5 x0 1 (mN m2)).bind fun m3 =>
  (pR (mNew m3 10 7) 5 x0 2 (mN m3)).bind fun m4 =>
  (pR (mNew m4 10 7) 5 x0 3 (mN m4)).bind fun m5 =>
  (pR (mNew m5 10 7) 5 x0 4 (mN m5)).bind fun m6 =>
  (pI m6 5 x0 5 (0 : Int32)).bind fun m7 =>
  (pI m7 5 x0 6 (0 : Int32)).bind fun m8 =>
  (pI m8 5 x0 7 (0 : Int32)).bind fun m9 =>
  (some m9)
def F_X5_settle (x0 : Nat) (x1 : Int32) (x2 : Int32) (x3 : Int32) (x4 : Int32) (x5 : Int32) (m : Mem) : Option Mem :=
  (fI m 5 x0 5).bind fun v1 =>
  (if (7 : Int32) ≤ v1 then
  (some m)
  else
  (fR m 5 x0 0).bind fun v3 =>
  (fI m 5 x0 5).bind fun v4 =>
  (stI m v3 v4 x1).bind fun m5 =>
  (fR m5 5 x0 1).bind fun v6 =>
  (fI m5 5 x0 5).bind fun v7 =>
  (stI m5 v6 v7 x2).bind fun m8 =>
  (fR m8 5 x0 2).bind fun v9 =>
  (fI m8 5 x0 5).bind fun v10 =>
  (stI m8 v9 v10 x3).bind fun m11 =>
  (fR m11 5 x0 3).bind fun v12 =>
  (fI m11 5 x0 5).bind fun v13 =>
  (stI m11 v12 v13 x4).bind fun m14 =>
  (fR m14 5 x0 4).bind fun v15 =>
  (fI m14 5 x0 5).bind fun v16 =>
  (stI m14 v15 v16 x5).bind fun m17 =>
  (fI m17 5 x0 5).bind fun v18 =>
  (pI m17 5 x0 5 (v18 + (1 : Int32))).bind fun m19 =>
  (some m19))
def F_X5_empty (x0 : Nat) (m : Mem) : Option Mem :=
  (pI m 5 x0 5 (0 : Int32)).bind fun m1 =>
  (pI m1 5 x0 6 (0 : Int32)).bind fun m2 =>
  (pI m2 5 x0 7 (0 : Int32)).bind fun m3 =>
  (some m3)
def F_X5_size (x0 : Nat) (m : Mem) : Option Int32 :=
  (fI m 5 x0 5).bind fun v1 =>
  (some v1)
def F_X5_become (x0 : Nat) (x1 : Nat) (m : Mem) : Option Mem :=
  (fR m 5 x1 0).bind fun v1 =>
  (fR m 5 x0 0).bind fun v2 =>
  (cpA m v1 (0 : Int32) v2 (0 : Int32) (7 : Int32)).bind fun m3 =>
  (fR m3 5 x1 1).bind fun v4 =>
  (fR m3 5 x0 1).bind fun v5 =>
  (cpA m3 v4 (0 : Int32) v5 (0 : Int32) (7 : Int32)).bind fun m6 =>
  (fR m6 5 x1 2).bind fun v7 =>
  (fR m6 5 x0 2).bind fun v8 =>
  (cpA m6 v7 (0 : Int32) v8 (0 : Int32) (7 : Int32)).bind fun m9 =>
  (fR m9 5 x1 3).bind fun v10 =>
  (fR m9 5 x0 3).bind fun v11 =>
  (cpA m9 v10 (0 : Int32) v11 (0 : Int32) (7 : Int32)).bind fun m12 =>
  (fR m12 5 x1 4).bind fun v13 =>
  (fR m12 5 x0 4).bind fun v14 =>
  (cpA m12 v13 (0 : Int32) v14 (0 : Int32) (7 : Int32)).bind fun m15 =>
  (fI m15 5 x1 5).bind fun v16 =>
  (pI m15 5 x0 5 v16).bind fun m17 =>
  (fI m17 5 x1 6).bind fun v18 =>
  (pI m17 5 x0 6 v18).bind fun m19 =>
  (fI m19 5 x1 7).bind fun v20 =>
  (pI m19 5 x0 7 v20).bind fun m21 =>
  (some m21)
def F_X5_kindOf (x0 : Nat) (x1 : Int32) (m : Mem) : Option Int32 :=
  (fR m 5 x0 0).bind fun v1 =>
  (ldI m v1 x1).bind fun v2 =>
  (some v2)
def F_X5_doorOf (x0 : Nat) (x1 : Int32) (m : Mem) : Option Int32 :=
  (fR m 5 x0 1).bind fun v1 =>
  (ldI m v1 x1).bind fun v2 =>
  (some v2)
def F_X5_widthOf (x0 : Nat) (x1 : Int32) (m : Mem) : Option Int32 :=
  (fR m 5 x0 2).bind fun v1 =>
  (ldI m v1 x1).bind fun v2 =>
  (some v2)
def F_X5_yardOf (x0 : Nat) (x1 : Int32) (m : Mem) : Option Int32 :=
  (fR m 5 x0 3).bind fun v1 =>
  (ldI m v1 x1).bind fun v2 =>
  (some v2)
def F_X5_paceOf (x0 : Nat) (x1 : Int32) (m : Mem) : Option Int32 :=
  (fR m 5 x0 4).bind fun v1 =>
  (ldI m v1 x1).bind fun v2 =>
  (some v2)
def F_X5_between (x0 : Nat) (x1 : Int32) (x2 : Int32) (m : Mem) : Option Int32 :=
  (fR m 5 x0 1).bind fun v1 =>
  (ldI m v1 x1).bind fun v2 =>
  (if v2 = (-4 : Int32) then
  (some (0 : Int32))
  else
  (fR m 5 x0 1).bind fun v4 =>
  (ldI m v4 x1).bind fun v5 =>
  (fR m 5 x0 1).bind fun v6 =>
  (ldI m v6 x2).bind fun v7 =>
  (if v5 = v7 then
  (fR m 5 x0 3).bind fun v9 =>
  (ldI m v9 x1).bind fun v10 =>
  (fR m 5 x0 3).bind fun v11 =>
  (ldI m v11 x2).bind fun v12 =>
  (if v10 = v12 then
  (fR m 5 x0 2).bind fun v14 =>
  (ldI m v14 x1).bind fun v15 =>
  (fR m 5 x0 2).bind fun v16 =>
  (ldI m v16 x2).bind fun v17 =>
  (if v15 = v17 then
  (some (2 : Int32))
  else
  (some (1 : Int32)))
  else
  (some (0 : Int32)))
  else
  (some (0 : Int32))))
def F_X5_goersAbout_28 (m : Mem) (r4 : Nat → Int32 → Int32 → Int32 → Option Int32) (x0 : Nat) (x1 : Int32) (x2 : Int32) (x3 : Int32) : Option Int32 :=
  (r4 x0 x1 x2 (x3 + 1))
def F_X5_goersAbout_4 (m : Mem) : Nat → Nat → Int32 → Int32 → Int32 → Option Int32
  | 0 => fun _ _ _ _ => none
  | n + 1 => fun x0 x1 x2 x3 =>
  (fI m 5 x0 5).bind fun v1 =>
  (if v1 ≤ x3 then
  (some x2)
  else
  (fR m 5 x0 1).bind fun v3 =>
  (ldI m v3 x3).bind fun v4 =>
  (if v4 = x1 then
  (F_X5_goersAbout_28 m (F_X5_goersAbout_4 m n) x0 x1 (x2 ||| ((1 : Int32) <<< (x3 &&& 31))) x3)
  else
  (F_X5_goersAbout_28 m (F_X5_goersAbout_4 m n) x0 x1 x2 x3)))
def F_X5_goersAbout (x0 : Nat) (x1 : Int32) (m : Mem) : Option Int32 :=
  (F_X5_goersAbout_4 m FU x0 x1 (0 : Int32) (0 : Int32))
def F_X5_day (x0 : Nat) (m : Mem) : Option Int32 :=
  (fI m 5 x0 6).bind fun v1 =>
  (some v1)
def F_X5_yardsOn (x0 : Int32) (x1 : Int32) (x2 : Int32) : Option Int32 :=
  (if x1 = 1 then
  (if (jrem x0 (2 : Int32)) = 0 then
  (some x2)
  else
  (some (0 : Int32)))
  else
  (if x1 = 2 then
  (some ((2 : Int32) * x2))
  else
  (if x1 = 3 then
  (if (jrem x0 (3 : Int32)) = 0 then
  (some (x2 + (1 : Int32)))
  else
  (some x2))
  else
  (some x2))))
def F_X5_yardBehind_25 (m : Mem) : Nat → Nat → Int32 → Int32 → Int32 → Int32 → Int32 → Option Int32
  | 0 => fun _ _ _ _ _ _ => none
  | n + 1 => fun x0 x1 x3 x4 x5 x6 =>
  (if x1 ≤ x6 then
  (some x5)
  else
  (fI m 5 x0 6).bind fun v2 =>
  (F_X5_yardsOn (v2 + x6) x3 x4).bind fun v3 =>
  ((F_X5_yardBehind_25 m n) x0 x1 x3 x4 (jrem (x5 + v3) (12 : Int32)) (x6 + 1)))
def F_X5_yardBehind (x0 : Nat) (x1 : Int32) (x2 : Int32) (x3 : Int32) (x4 : Int32) (m : Mem) : Option Int32 :=
  (fR m 5 x0 3).bind fun v4 =>
  (ldI m v4 x2).bind fun v5 =>
  (fR m 5 x0 1).bind fun v6 =>
  (ldI m v6 x2).bind fun v7 =>
  (if v7 = (-4 : Int32) then
  (some v5)
  else
  (F_X5_yardBehind_25 m FU x0 x1 x3 x4 v5 (0 : Int32)))
def F_X5_goRound_2 : Nat → Nat → Int32 → Mem → Option Mem
  | 0 => fun _ _ _ => none
  | n + 1 => fun x0 x1 m =>
  (fI m 5 x0 5).bind fun v1 =>
  (if v1 ≤ x1 then
  (fI m 5 x0 6).bind fun v3 =>
  (pI m 5 x0 6 (v3 + (1 : Int32))).bind fun m4 =>
  (some m4)
  else
  (fR m 5 x0 3).bind fun v5 =>
  (fR m 5 x0 0).bind fun v6 =>
  (ldI m v6 x1).bind fun v7 =>
  (fR m 5 x0 4).bind fun v8 =>
  (ldI m v8 x1).bind fun v9 =>
  (chkT m 5 x0).bind fun v11 =>
  (F_X5_yardBehind x0 (1 : Int32) x1 v7 v9 m).bind fun v10 =>
  (stI m v5 x1 v10).bind fun m12 =>
  ((F_X5_goRound_2 n) x0 (x1 + 1) m12))
def F_X5_goRound (x0 : Nat) (m : Mem) : Option Mem :=
  (F_X5_goRound_2 FU x0 (0 : Int32) m)
def F_X5_pairs_40 (m : Mem) (r4 : Nat → Int32 → Int32 → Int32 → Option Int32) (r17 : Nat → Int32 → Int32 → Int32 → Int32 → Option Int32) (x0 : Nat) (x1 : Int32) (x2 : Int32) (x3 : Int32) (x4 : Int32) : Option Int32 :=
  (r17 x0 x1 x2 x3 (x4 + 1))
def F_X5_pairs_17 (m : Mem) (r4 : Nat → Int32 → Int32 → Int32 → Option Int32) : Nat → Nat → Int32 → Int32 → Int32 → Int32 → Option Int32
  | 0 => fun _ _ _ _ _ => none
  | n + 1 => fun x0 x1 x2 x3 x4 =>
  (fI m 5 x0 5).bind fun v1 =>
  (if v1 ≤ x4 then
  (r4 x0 x1 x2 (x3 + 1))
  else
  (chkT m 5 x0).bind fun v4 =>
  (F_X5_between x0 x3 x4 m).bind fun v3 =>
  (if v3 = x1 then
  (F_X5_pairs_40 m r4 (F_X5_pairs_17 m r4 n) x0 x1 (x2 + 1) x3 x4)
  else
  (F_X5_pairs_40 m r4 (F_X5_pairs_17 m r4 n) x0 x1 x2 x3 x4)))
def F_X5_pairs_4 (m : Mem) : Nat → Nat → Int32 → Int32 → Int32 → Option Int32
  | 0 => fun _ _ _ _ => none
  | n + 1 => fun x0 x1 x2 x3 =>
  (fI m 5 x0 5).bind fun v6 =>
  (if v6 ≤ x3 then
  (some x2)
  else
  (F_X5_pairs_17 m (F_X5_pairs_4 m n) FU x0 x1 x2 x3 (x3 + (1 : Int32))))
def F_X5_pairs (x0 : Nat) (x1 : Int32) (m : Mem) : Option Int32 :=
  (F_X5_pairs_4 m FU x0 x1 (0 : Int32) (0 : Int32))
def F_X5_letDaysGoBy_4 : Nat → Nat → Int32 → Int32 → Int32 → Mem → Option (Int32 × Mem)
  | 0 => fun _ _ _ _ _ => none
  | n + 1 => fun x0 x1 x2 x3 m =>
  (if x1 ≤ x3 then
  (fI m 5 x0 7).bind fun v2 =>
  (pI m 5 x0 7 (v2 + x2)).bind fun m3 =>
  (some (x2, m3))
  else
  (chkT m 5 x0).bind fun v5 =>
  (F_X5_goRound x0 m).bind fun v4 =>
  (chkT v4 5 x0).bind fun v7 =>
  (F_X5_pairs x0 (2 : Int32) v4).bind fun v6 =>
  ((F_X5_letDaysGoBy_4 n) x0 x1 (x2 + v6) (x3 + 1) v4))
def F_X5_letDaysGoBy (x0 : Nat) (x1 : Int32) (m : Mem) : Option (Int32 × Mem) :=
  (F_X5_letDaysGoBy_4 FU x0 x1 (0 : Int32) (0 : Int32) m)
def F_X5_hangWreath (x0 : Nat) (x1 : Int32) (x2 : Int32) (x3 : Int32) (m : Mem) : Option Mem :=
  (fR m 5 x0 1).bind fun v1 =>
  (stI m v1 x1 x2).bind fun m2 =>
  (fR m2 5 x0 2).bind fun v3 =>
  (stI m2 v3 x1 x3).bind fun m4 =>
  (some m4)
def F_X5_setPace (x0 : Nat) (x1 : Int32) (x2 : Int32) (m : Mem) : Option Mem :=
  (fR m 5 x0 4).bind fun v1 =>
  (stI m v1 x1 x2).bind fun m2 =>
  (some m2)
def F_X5_shareWreath (x0 : Nat) (x1 : Int32) (x2 : Int32) (m : Mem) : Option Int32 :=
  (fR m 5 x0 1).bind fun v1 =>
  (ldI m v1 x1).bind fun v2 =>
  (if v2 = (-4 : Int32) then
  (some (0 : Int32))
  else
  (fR m 5 x0 1).bind fun v4 =>
  (ldI m v4 x1).bind fun v5 =>
  (fR m 5 x0 1).bind fun v6 =>
  (ldI m v6 x2).bind fun v7 =>
  (if v5 = v7 then
  (fR m 5 x0 2).bind fun v9 =>
  (ldI m v9 x1).bind fun v10 =>
  (fR m 5 x0 2).bind fun v11 =>
  (ldI m v11 x2).bind fun v12 =>
  (if v10 = v12 then
  (some (1 : Int32))
  else
  (some (0 : Int32)))
  else
  (some (0 : Int32))))
def F_X5_stir (x0 : Nat) (x1 : Int32) (m : Mem) : Option Mem :=
  (fI m 5 x0 5).bind fun v1 =>
  (if (1 : Int32) ≤ v1 then
  (fI m 5 x0 5).bind fun v3 =>
  (if v3 = 0 then none else
  (if (jrem (x1 / (8 : Int32)) (6 : Int32)) = 0 then
  (chkT m 5 x0).bind fun v7 =>
  (F_X5_hangWreath x0 (jrem x1 v3) (jrem (x1 / (64 : Int32)) (6 : Int32)) ((jrem (x1 / (512 : Int32)) (9 : Int32)) + (1 : Int32)) m).bind fun v6 =>
  (some v6)
  else
  (if (jrem (x1 / (8 : Int32)) (6 : Int32)) = 1 then
  (chkT m 5 x0).bind fun v10 =>
  (F_X5_hangWreath x0 (jrem x1 v3) (-4 : Int32) (-4 : Int32) m).bind fun v9 =>
  (some v9)
  else
  (if (jrem (x1 / (8 : Int32)) (6 : Int32)) = 2 then
  (chkT m 5 x0).bind fun v13 =>
  (F_X5_setPace x0 (jrem x1 v3) (jrem (x1 / (64 : Int32)) (12 : Int32)) m).bind fun v12 =>
  (some v12)
  else
  (some m)))))
  else
  (some m))
def F_X5_goers (x0 : Nat) (m : Mem) : Option Int32 :=
  (fI m 5 x0 5).bind fun v1 =>
  (chkT m 5 x0).bind fun v3 =>
  (F_X5_goersAbout x0 (-4 : Int32) m).bind fun v2 =>
  (F_J6_bitCount v2).bind fun v4 =>
  (some (v1 - v4))
def F_X5_yardsAdded_4 (m : Mem) : Nat → Nat → Int32 → Int32 → Option Int32
  | 0 => fun _ _ _ => none
  | n + 1 => fun x0 x1 x2 =>
  (fI m 5 x0 5).bind fun v1 =>
  (if v1 ≤ x2 then
  (some x1)
  else
  (fR m 5 x0 3).bind fun v3 =>
  (ldI m v3 x2).bind fun v4 =>
  ((F_X5_yardsAdded_4 m n) x0 (x1 + v4) (x2 + 1)))
def F_X5_yardsAdded (x0 : Nat) (m : Mem) : Option Int32 :=
  (F_X5_yardsAdded_4 m FU x0 (0 : Int32) (0 : Int32))
def F_X5_meetings (x0 : Nat) (m : Mem) : Option Int32 :=
  (fI m 5 x0 7).bind fun v1 =>
  (some v1)
theorem dX5_init_0 : decode (mC Y_X5_init) 0 = .ok (.aload_n 0, 1) := by decide +kernel
theorem dX5_init_1 : decode (mC Y_X5_init) 1 = .ok (.invokespecial 3, 3) := by decide +kernel
theorem dX5_init_4 : decode (mC Y_X5_init) 4 = .ok (.aload_n 0, 1) := by decide +kernel
theorem dX5_init_5 : decode (mC Y_X5_init) 5 = .ok (.bipush 7, 2) := by decide +kernel
theorem dX5_init_7 : decode (mC Y_X5_init) 7 = .ok (.newarray .int, 2) := by decide +kernel
theorem dX5_init_9 : decode (mC Y_X5_init) 9 = .ok (.putfield 9, 3) := by decide +kernel
theorem dX5_init_12 : decode (mC Y_X5_init) 12 = .ok (.aload_n 0, 1) := by decide +kernel
theorem dX5_init_13 : decode (mC Y_X5_init) 13 = .ok (.bipush 7, 2) := by decide +kernel
theorem dX5_init_15 : decode (mC Y_X5_init) 15 = .ok (.newarray .int, 2) := by decide +kernel
theorem dX5_init_17 : decode (mC Y_X5_init) 17 = .ok (.putfield 15, 3) := by decide +kernel
theorem dX5_init_20 : decode (mC Y_X5_init) 20 = .ok (.aload_n 0, 1) := by decide +kernel
theorem dX5_init_21 : decode (mC Y_X5_init) 21 = .ok (.bipush 7, 2) := by decide +kernel
theorem dX5_init_23 : decode (mC Y_X5_init) 23 = .ok (.newarray .int, 2) := by decide +kernel
theorem dX5_init_25 : decode (mC Y_X5_init) 25 = .ok (.putfield 18, 3) := by decide +kernel
theorem dX5_init_28 : decode (mC Y_X5_init) 28 = .ok (.aload_n 0, 1) := by decide +kernel
theorem dX5_init_29 : decode (mC Y_X5_init) 29 = .ok (.bipush 7, 2) := by decide +kernel
theorem dX5_init_31 : decode (mC Y_X5_init) 31 = .ok (.newarray .int, 2) := by decide +kernel
theorem dX5_init_33 : decode (mC Y_X5_init) 33 = .ok (.putfield 21, 3) := by decide +kernel
theorem dX5_init_36 : decode (mC Y_X5_init) 36 = .ok (.aload_n 0, 1) := by decide +kernel
theorem dX5_init_37 : decode (mC Y_X5_init) 37 = .ok (.bipush 7, 2) := by decide +kernel
theorem dX5_init_39 : decode (mC Y_X5_init) 39 = .ok (.newarray .int, 2) := by decide +kernel
theorem dX5_init_41 : decode (mC Y_X5_init) 41 = .ok (.putfield 24, 3) := by decide +kernel
theorem dX5_init_44 : decode (mC Y_X5_init) 44 = .ok (.aload_n 0, 1) := by decide +kernel
theorem dX5_init_45 : decode (mC Y_X5_init) 45 = .ok (.iconst 0, 1) := by decide +kernel
theorem dX5_init_46 : decode (mC Y_X5_init) 46 = .ok (.putfield 27, 3) := by decide +kernel
theorem dX5_init_49 : decode (mC Y_X5_init) 49 = .ok (.aload_n 0, 1) := by decide +kernel
theorem dX5_init_50 : decode (mC Y_X5_init) 50 = .ok (.iconst 0, 1) := by decide +kernel
theorem dX5_init_51 : decode (mC Y_X5_init) 51 = .ok (.putfield 31, 3) := by decide +kernel
theorem dX5_init_54 : decode (mC Y_X5_init) 54 = .ok (.aload_n 0, 1) := by decide +kernel
theorem dX5_init_55 : decode (mC Y_X5_init) 55 = .ok (.iconst 0, 1) := by decide +kernel
theorem dX5_init_56 : decode (mC Y_X5_init) 56 = .ok (.putfield 34, 3) := by decide +kernel
theorem dX5_init_59 : decode (mC Y_X5_init) 59 = .ok (.return_, 1) := by decide +kernel
theorem dX5_settle_0 : decode (mC Y_X5_settle) 0 = .ok (.aload_n 0, 1) := by decide +kernel
theorem dX5_settle_1 : decode (mC Y_X5_settle) 1 = .ok (.getfield 27, 3) := by decide +kernel
theorem dX5_settle_4 : decode (mC Y_X5_settle) 4 = .ok (.bipush 7, 2) := by decide +kernel
theorem dX5_settle_6 : decode (mC Y_X5_settle) 6 = .ok (.if_icmp .ge 65, 3) := by decide +kernel
theorem dX5_settle_9 : decode (mC Y_X5_settle) 9 = .ok (.aload_n 0, 1) := by decide +kernel
theorem dX5_settle_10 : decode (mC Y_X5_settle) 10 = .ok (.getfield 9, 3) := by decide +kernel
theorem dX5_settle_13 : decode (mC Y_X5_settle) 13 = .ok (.aload_n 0, 1) := by decide +kernel
theorem dX5_settle_14 : decode (mC Y_X5_settle) 14 = .ok (.getfield 27, 3) := by decide +kernel
theorem dX5_settle_17 : decode (mC Y_X5_settle) 17 = .ok (.iload_n 1, 1) := by decide +kernel
theorem dX5_settle_18 : decode (mC Y_X5_settle) 18 = .ok (.iastore, 1) := by decide +kernel
theorem dX5_settle_19 : decode (mC Y_X5_settle) 19 = .ok (.aload_n 0, 1) := by decide +kernel
theorem dX5_settle_20 : decode (mC Y_X5_settle) 20 = .ok (.getfield 15, 3) := by decide +kernel
theorem dX5_settle_23 : decode (mC Y_X5_settle) 23 = .ok (.aload_n 0, 1) := by decide +kernel
theorem dX5_settle_24 : decode (mC Y_X5_settle) 24 = .ok (.getfield 27, 3) := by decide +kernel
theorem dX5_settle_27 : decode (mC Y_X5_settle) 27 = .ok (.iload_n 2, 1) := by decide +kernel
theorem dX5_settle_28 : decode (mC Y_X5_settle) 28 = .ok (.iastore, 1) := by decide +kernel
theorem dX5_settle_29 : decode (mC Y_X5_settle) 29 = .ok (.aload_n 0, 1) := by decide +kernel
theorem dX5_settle_30 : decode (mC Y_X5_settle) 30 = .ok (.getfield 18, 3) := by decide +kernel
theorem dX5_settle_33 : decode (mC Y_X5_settle) 33 = .ok (.aload_n 0, 1) := by decide +kernel
theorem dX5_settle_34 : decode (mC Y_X5_settle) 34 = .ok (.getfield 27, 3) := by decide +kernel
theorem dX5_settle_37 : decode (mC Y_X5_settle) 37 = .ok (.iload_n 3, 1) := by decide +kernel
theorem dX5_settle_38 : decode (mC Y_X5_settle) 38 = .ok (.iastore, 1) := by decide +kernel
theorem dX5_settle_39 : decode (mC Y_X5_settle) 39 = .ok (.aload_n 0, 1) := by decide +kernel
theorem dX5_settle_40 : decode (mC Y_X5_settle) 40 = .ok (.getfield 21, 3) := by decide +kernel
theorem dX5_settle_43 : decode (mC Y_X5_settle) 43 = .ok (.aload_n 0, 1) := by decide +kernel
theorem dX5_settle_44 : decode (mC Y_X5_settle) 44 = .ok (.getfield 27, 3) := by decide +kernel
theorem dX5_settle_47 : decode (mC Y_X5_settle) 47 = .ok (.iload 4, 2) := by decide +kernel
theorem dX5_settle_49 : decode (mC Y_X5_settle) 49 = .ok (.iastore, 1) := by decide +kernel
theorem dX5_settle_50 : decode (mC Y_X5_settle) 50 = .ok (.aload_n 0, 1) := by decide +kernel
theorem dX5_settle_51 : decode (mC Y_X5_settle) 51 = .ok (.getfield 24, 3) := by decide +kernel
theorem dX5_settle_54 : decode (mC Y_X5_settle) 54 = .ok (.aload_n 0, 1) := by decide +kernel
theorem dX5_settle_55 : decode (mC Y_X5_settle) 55 = .ok (.getfield 27, 3) := by decide +kernel
theorem dX5_settle_58 : decode (mC Y_X5_settle) 58 = .ok (.iload 5, 2) := by decide +kernel
theorem dX5_settle_60 : decode (mC Y_X5_settle) 60 = .ok (.iastore, 1) := by decide +kernel
theorem dX5_settle_61 : decode (mC Y_X5_settle) 61 = .ok (.aload_n 0, 1) := by decide +kernel
theorem dX5_settle_62 : decode (mC Y_X5_settle) 62 = .ok (.dup, 1) := by decide +kernel
theorem dX5_settle_63 : decode (mC Y_X5_settle) 63 = .ok (.getfield 27, 3) := by decide +kernel
theorem dX5_settle_66 : decode (mC Y_X5_settle) 66 = .ok (.iconst 1, 1) := by decide +kernel
theorem dX5_settle_67 : decode (mC Y_X5_settle) 67 = .ok (.iadd, 1) := by decide +kernel
theorem dX5_settle_68 : decode (mC Y_X5_settle) 68 = .ok (.putfield 27, 3) := by decide +kernel
theorem dX5_settle_71 : decode (mC Y_X5_settle) 71 = .ok (.return_, 1) := by decide +kernel
theorem dX5_empty_0 : decode (mC Y_X5_empty) 0 = .ok (.aload_n 0, 1) := by decide +kernel
theorem dX5_empty_1 : decode (mC Y_X5_empty) 1 = .ok (.iconst 0, 1) := by decide +kernel
theorem dX5_empty_2 : decode (mC Y_X5_empty) 2 = .ok (.putfield 27, 3) := by decide +kernel
theorem dX5_empty_5 : decode (mC Y_X5_empty) 5 = .ok (.aload_n 0, 1) := by decide +kernel
theorem dX5_empty_6 : decode (mC Y_X5_empty) 6 = .ok (.iconst 0, 1) := by decide +kernel
theorem dX5_empty_7 : decode (mC Y_X5_empty) 7 = .ok (.putfield 31, 3) := by decide +kernel
theorem dX5_empty_10 : decode (mC Y_X5_empty) 10 = .ok (.aload_n 0, 1) := by decide +kernel
theorem dX5_empty_11 : decode (mC Y_X5_empty) 11 = .ok (.iconst 0, 1) := by decide +kernel
theorem dX5_empty_12 : decode (mC Y_X5_empty) 12 = .ok (.putfield 34, 3) := by decide +kernel
theorem dX5_empty_15 : decode (mC Y_X5_empty) 15 = .ok (.return_, 1) := by decide +kernel
theorem dX5_size_0 : decode (mC Y_X5_size) 0 = .ok (.aload_n 0, 1) := by decide +kernel
theorem dX5_size_1 : decode (mC Y_X5_size) 1 = .ok (.getfield 27, 3) := by decide +kernel
theorem dX5_size_4 : decode (mC Y_X5_size) 4 = .ok (.ireturn, 1) := by decide +kernel
theorem dX5_become_0 : decode (mC Y_X5_become) 0 = .ok (.aload_n 1, 1) := by decide +kernel
theorem dX5_become_1 : decode (mC Y_X5_become) 1 = .ok (.getfield 9, 3) := by decide +kernel
theorem dX5_become_4 : decode (mC Y_X5_become) 4 = .ok (.iconst 0, 1) := by decide +kernel
theorem dX5_become_5 : decode (mC Y_X5_become) 5 = .ok (.aload_n 0, 1) := by decide +kernel
theorem dX5_become_6 : decode (mC Y_X5_become) 6 = .ok (.getfield 9, 3) := by decide +kernel
theorem dX5_become_9 : decode (mC Y_X5_become) 9 = .ok (.iconst 0, 1) := by decide +kernel
theorem dX5_become_10 : decode (mC Y_X5_become) 10 = .ok (.bipush 7, 2) := by decide +kernel
theorem dX5_become_12 : decode (mC Y_X5_become) 12 = .ok (.invokestatic 37, 3) := by decide +kernel
theorem dX5_become_15 : decode (mC Y_X5_become) 15 = .ok (.aload_n 1, 1) := by decide +kernel
theorem dX5_become_16 : decode (mC Y_X5_become) 16 = .ok (.getfield 15, 3) := by decide +kernel
theorem dX5_become_19 : decode (mC Y_X5_become) 19 = .ok (.iconst 0, 1) := by decide +kernel
theorem dX5_become_20 : decode (mC Y_X5_become) 20 = .ok (.aload_n 0, 1) := by decide +kernel
theorem dX5_become_21 : decode (mC Y_X5_become) 21 = .ok (.getfield 15, 3) := by decide +kernel
theorem dX5_become_24 : decode (mC Y_X5_become) 24 = .ok (.iconst 0, 1) := by decide +kernel
theorem dX5_become_25 : decode (mC Y_X5_become) 25 = .ok (.bipush 7, 2) := by decide +kernel
theorem dX5_become_27 : decode (mC Y_X5_become) 27 = .ok (.invokestatic 37, 3) := by decide +kernel
theorem dX5_become_30 : decode (mC Y_X5_become) 30 = .ok (.aload_n 1, 1) := by decide +kernel
theorem dX5_become_31 : decode (mC Y_X5_become) 31 = .ok (.getfield 18, 3) := by decide +kernel
theorem dX5_become_34 : decode (mC Y_X5_become) 34 = .ok (.iconst 0, 1) := by decide +kernel
theorem dX5_become_35 : decode (mC Y_X5_become) 35 = .ok (.aload_n 0, 1) := by decide +kernel
theorem dX5_become_36 : decode (mC Y_X5_become) 36 = .ok (.getfield 18, 3) := by decide +kernel
theorem dX5_become_39 : decode (mC Y_X5_become) 39 = .ok (.iconst 0, 1) := by decide +kernel
theorem dX5_become_40 : decode (mC Y_X5_become) 40 = .ok (.bipush 7, 2) := by decide +kernel
theorem dX5_become_42 : decode (mC Y_X5_become) 42 = .ok (.invokestatic 37, 3) := by decide +kernel
theorem dX5_become_45 : decode (mC Y_X5_become) 45 = .ok (.aload_n 1, 1) := by decide +kernel
theorem dX5_become_46 : decode (mC Y_X5_become) 46 = .ok (.getfield 21, 3) := by decide +kernel
theorem dX5_become_49 : decode (mC Y_X5_become) 49 = .ok (.iconst 0, 1) := by decide +kernel
theorem dX5_become_50 : decode (mC Y_X5_become) 50 = .ok (.aload_n 0, 1) := by decide +kernel
theorem dX5_become_51 : decode (mC Y_X5_become) 51 = .ok (.getfield 21, 3) := by decide +kernel
theorem dX5_become_54 : decode (mC Y_X5_become) 54 = .ok (.iconst 0, 1) := by decide +kernel
theorem dX5_become_55 : decode (mC Y_X5_become) 55 = .ok (.bipush 7, 2) := by decide +kernel
theorem dX5_become_57 : decode (mC Y_X5_become) 57 = .ok (.invokestatic 37, 3) := by decide +kernel
theorem dX5_become_60 : decode (mC Y_X5_become) 60 = .ok (.aload_n 1, 1) := by decide +kernel
theorem dX5_become_61 : decode (mC Y_X5_become) 61 = .ok (.getfield 24, 3) := by decide +kernel
theorem dX5_become_64 : decode (mC Y_X5_become) 64 = .ok (.iconst 0, 1) := by decide +kernel
theorem dX5_become_65 : decode (mC Y_X5_become) 65 = .ok (.aload_n 0, 1) := by decide +kernel
theorem dX5_become_66 : decode (mC Y_X5_become) 66 = .ok (.getfield 24, 3) := by decide +kernel
theorem dX5_become_69 : decode (mC Y_X5_become) 69 = .ok (.iconst 0, 1) := by decide +kernel
theorem dX5_become_70 : decode (mC Y_X5_become) 70 = .ok (.bipush 7, 2) := by decide +kernel
theorem dX5_become_72 : decode (mC Y_X5_become) 72 = .ok (.invokestatic 37, 3) := by decide +kernel
theorem dX5_become_75 : decode (mC Y_X5_become) 75 = .ok (.aload_n 0, 1) := by decide +kernel
theorem dX5_become_76 : decode (mC Y_X5_become) 76 = .ok (.aload_n 1, 1) := by decide +kernel
theorem dX5_become_77 : decode (mC Y_X5_become) 77 = .ok (.getfield 27, 3) := by decide +kernel
theorem dX5_become_80 : decode (mC Y_X5_become) 80 = .ok (.putfield 27, 3) := by decide +kernel
theorem dX5_become_83 : decode (mC Y_X5_become) 83 = .ok (.aload_n 0, 1) := by decide +kernel
theorem dX5_become_84 : decode (mC Y_X5_become) 84 = .ok (.aload_n 1, 1) := by decide +kernel
theorem dX5_become_85 : decode (mC Y_X5_become) 85 = .ok (.getfield 31, 3) := by decide +kernel
theorem dX5_become_88 : decode (mC Y_X5_become) 88 = .ok (.putfield 31, 3) := by decide +kernel
theorem dX5_become_91 : decode (mC Y_X5_become) 91 = .ok (.aload_n 0, 1) := by decide +kernel
theorem dX5_become_92 : decode (mC Y_X5_become) 92 = .ok (.aload_n 1, 1) := by decide +kernel
theorem dX5_become_93 : decode (mC Y_X5_become) 93 = .ok (.getfield 34, 3) := by decide +kernel
theorem dX5_become_96 : decode (mC Y_X5_become) 96 = .ok (.putfield 34, 3) := by decide +kernel
theorem dX5_become_99 : decode (mC Y_X5_become) 99 = .ok (.return_, 1) := by decide +kernel
theorem dX5_kindOf_0 : decode (mC Y_X5_kindOf) 0 = .ok (.aload_n 0, 1) := by decide +kernel
theorem dX5_kindOf_1 : decode (mC Y_X5_kindOf) 1 = .ok (.getfield 9, 3) := by decide +kernel
theorem dX5_kindOf_4 : decode (mC Y_X5_kindOf) 4 = .ok (.iload_n 1, 1) := by decide +kernel
theorem dX5_kindOf_5 : decode (mC Y_X5_kindOf) 5 = .ok (.iaload, 1) := by decide +kernel
theorem dX5_kindOf_6 : decode (mC Y_X5_kindOf) 6 = .ok (.ireturn, 1) := by decide +kernel
theorem dX5_doorOf_0 : decode (mC Y_X5_doorOf) 0 = .ok (.aload_n 0, 1) := by decide +kernel
theorem dX5_doorOf_1 : decode (mC Y_X5_doorOf) 1 = .ok (.getfield 15, 3) := by decide +kernel
theorem dX5_doorOf_4 : decode (mC Y_X5_doorOf) 4 = .ok (.iload_n 1, 1) := by decide +kernel
theorem dX5_doorOf_5 : decode (mC Y_X5_doorOf) 5 = .ok (.iaload, 1) := by decide +kernel
theorem dX5_doorOf_6 : decode (mC Y_X5_doorOf) 6 = .ok (.ireturn, 1) := by decide +kernel
theorem dX5_widthOf_0 : decode (mC Y_X5_widthOf) 0 = .ok (.aload_n 0, 1) := by decide +kernel
theorem dX5_widthOf_1 : decode (mC Y_X5_widthOf) 1 = .ok (.getfield 18, 3) := by decide +kernel
theorem dX5_widthOf_4 : decode (mC Y_X5_widthOf) 4 = .ok (.iload_n 1, 1) := by decide +kernel
theorem dX5_widthOf_5 : decode (mC Y_X5_widthOf) 5 = .ok (.iaload, 1) := by decide +kernel
theorem dX5_widthOf_6 : decode (mC Y_X5_widthOf) 6 = .ok (.ireturn, 1) := by decide +kernel
theorem dX5_yardOf_0 : decode (mC Y_X5_yardOf) 0 = .ok (.aload_n 0, 1) := by decide +kernel
theorem dX5_yardOf_1 : decode (mC Y_X5_yardOf) 1 = .ok (.getfield 21, 3) := by decide +kernel
theorem dX5_yardOf_4 : decode (mC Y_X5_yardOf) 4 = .ok (.iload_n 1, 1) := by decide +kernel
theorem dX5_yardOf_5 : decode (mC Y_X5_yardOf) 5 = .ok (.iaload, 1) := by decide +kernel
theorem dX5_yardOf_6 : decode (mC Y_X5_yardOf) 6 = .ok (.ireturn, 1) := by decide +kernel
theorem dX5_paceOf_0 : decode (mC Y_X5_paceOf) 0 = .ok (.aload_n 0, 1) := by decide +kernel
theorem dX5_paceOf_1 : decode (mC Y_X5_paceOf) 1 = .ok (.getfield 24, 3) := by decide +kernel
theorem dX5_paceOf_4 : decode (mC Y_X5_paceOf) 4 = .ok (.iload_n 1, 1) := by decide +kernel
theorem dX5_paceOf_5 : decode (mC Y_X5_paceOf) 5 = .ok (.iaload, 1) := by decide +kernel
theorem dX5_paceOf_6 : decode (mC Y_X5_paceOf) 6 = .ok (.ireturn, 1) := by decide +kernel
theorem dX5_between_0 : decode (mC Y_X5_between) 0 = .ok (.aload_n 0, 1) := by decide +kernel
theorem dX5_between_1 : decode (mC Y_X5_between) 1 = .ok (.getfield 15, 3) := by decide +kernel
theorem dX5_between_4 : decode (mC Y_X5_between) 4 = .ok (.iload_n 1, 1) := by decide +kernel
theorem dX5_between_5 : decode (mC Y_X5_between) 5 = .ok (.iaload, 1) := by decide +kernel
theorem dX5_between_6 : decode (mC Y_X5_between) 6 = .ok (.bipush (-4), 2) := by decide +kernel
theorem dX5_between_8 : decode (mC Y_X5_between) 8 = .ok (.if_icmp .eq 33, 3) := by decide +kernel
theorem dX5_between_11 : decode (mC Y_X5_between) 11 = .ok (.aload_n 0, 1) := by decide +kernel
theorem dX5_between_12 : decode (mC Y_X5_between) 12 = .ok (.getfield 15, 3) := by decide +kernel
theorem dX5_between_15 : decode (mC Y_X5_between) 15 = .ok (.iload_n 1, 1) := by decide +kernel
theorem dX5_between_16 : decode (mC Y_X5_between) 16 = .ok (.iaload, 1) := by decide +kernel
theorem dX5_between_17 : decode (mC Y_X5_between) 17 = .ok (.aload_n 0, 1) := by decide +kernel
theorem dX5_between_18 : decode (mC Y_X5_between) 18 = .ok (.getfield 15, 3) := by decide +kernel
theorem dX5_between_21 : decode (mC Y_X5_between) 21 = .ok (.iload_n 2, 1) := by decide +kernel
theorem dX5_between_22 : decode (mC Y_X5_between) 22 = .ok (.iaload, 1) := by decide +kernel
theorem dX5_between_23 : decode (mC Y_X5_between) 23 = .ok (.if_icmp .ne 18, 3) := by decide +kernel
theorem dX5_between_26 : decode (mC Y_X5_between) 26 = .ok (.aload_n 0, 1) := by decide +kernel
theorem dX5_between_27 : decode (mC Y_X5_between) 27 = .ok (.getfield 21, 3) := by decide +kernel
theorem dX5_between_30 : decode (mC Y_X5_between) 30 = .ok (.iload_n 1, 1) := by decide +kernel
theorem dX5_between_31 : decode (mC Y_X5_between) 31 = .ok (.iaload, 1) := by decide +kernel
theorem dX5_between_32 : decode (mC Y_X5_between) 32 = .ok (.aload_n 0, 1) := by decide +kernel
theorem dX5_between_33 : decode (mC Y_X5_between) 33 = .ok (.getfield 21, 3) := by decide +kernel
theorem dX5_between_36 : decode (mC Y_X5_between) 36 = .ok (.iload_n 2, 1) := by decide +kernel
theorem dX5_between_37 : decode (mC Y_X5_between) 37 = .ok (.iaload, 1) := by decide +kernel
theorem dX5_between_38 : decode (mC Y_X5_between) 38 = .ok (.if_icmp .eq 5, 3) := by decide +kernel
theorem dX5_between_41 : decode (mC Y_X5_between) 41 = .ok (.iconst 0, 1) := by decide +kernel
theorem dX5_between_42 : decode (mC Y_X5_between) 42 = .ok (.ireturn, 1) := by decide +kernel
theorem dX5_between_43 : decode (mC Y_X5_between) 43 = .ok (.aload_n 0, 1) := by decide +kernel
theorem dX5_between_44 : decode (mC Y_X5_between) 44 = .ok (.getfield 18, 3) := by decide +kernel
theorem dX5_between_47 : decode (mC Y_X5_between) 47 = .ok (.iload_n 1, 1) := by decide +kernel
theorem dX5_between_48 : decode (mC Y_X5_between) 48 = .ok (.iaload, 1) := by decide +kernel
theorem dX5_between_49 : decode (mC Y_X5_between) 49 = .ok (.aload_n 0, 1) := by decide +kernel
theorem dX5_between_50 : decode (mC Y_X5_between) 50 = .ok (.getfield 18, 3) := by decide +kernel
theorem dX5_between_53 : decode (mC Y_X5_between) 53 = .ok (.iload_n 2, 1) := by decide +kernel
theorem dX5_between_54 : decode (mC Y_X5_between) 54 = .ok (.iaload, 1) := by decide +kernel
theorem dX5_between_55 : decode (mC Y_X5_between) 55 = .ok (.if_icmp .ne 7, 3) := by decide +kernel
theorem dX5_between_58 : decode (mC Y_X5_between) 58 = .ok (.iconst 2, 1) := by decide +kernel
theorem dX5_between_59 : decode (mC Y_X5_between) 59 = .ok (.goto 4, 3) := by decide +kernel
theorem dX5_between_62 : decode (mC Y_X5_between) 62 = .ok (.iconst 1, 1) := by decide +kernel
theorem dX5_between_63 : decode (mC Y_X5_between) 63 = .ok (.ireturn, 1) := by decide +kernel
theorem dX5_goersAbout_0 : decode (mC Y_X5_goersAbout) 0 = .ok (.iconst 0, 1) := by decide +kernel
theorem dX5_goersAbout_1 : decode (mC Y_X5_goersAbout) 1 = .ok (.istore_n 2, 1) := by decide +kernel
theorem dX5_goersAbout_2 : decode (mC Y_X5_goersAbout) 2 = .ok (.iconst 0, 1) := by decide +kernel
theorem dX5_goersAbout_3 : decode (mC Y_X5_goersAbout) 3 = .ok (.istore_n 3, 1) := by decide +kernel
theorem dX5_goersAbout_4 : decode (mC Y_X5_goersAbout) 4 = .ok (.iload_n 3, 1) := by decide +kernel
theorem dX5_goersAbout_5 : decode (mC Y_X5_goersAbout) 5 = .ok (.aload_n 0, 1) := by decide +kernel
theorem dX5_goersAbout_6 : decode (mC Y_X5_goersAbout) 6 = .ok (.getfield 27, 3) := by decide +kernel
theorem dX5_goersAbout_9 : decode (mC Y_X5_goersAbout) 9 = .ok (.if_icmp .ge 25, 3) := by decide +kernel
theorem dX5_goersAbout_12 : decode (mC Y_X5_goersAbout) 12 = .ok (.aload_n 0, 1) := by decide +kernel
theorem dX5_goersAbout_13 : decode (mC Y_X5_goersAbout) 13 = .ok (.getfield 15, 3) := by decide +kernel
theorem dX5_goersAbout_16 : decode (mC Y_X5_goersAbout) 16 = .ok (.iload_n 3, 1) := by decide +kernel
theorem dX5_goersAbout_17 : decode (mC Y_X5_goersAbout) 17 = .ok (.iaload, 1) := by decide +kernel
theorem dX5_goersAbout_18 : decode (mC Y_X5_goersAbout) 18 = .ok (.iload_n 1, 1) := by decide +kernel
theorem dX5_goersAbout_19 : decode (mC Y_X5_goersAbout) 19 = .ok (.if_icmp .ne 9, 3) := by decide +kernel
theorem dX5_goersAbout_22 : decode (mC Y_X5_goersAbout) 22 = .ok (.iload_n 2, 1) := by decide +kernel
theorem dX5_goersAbout_23 : decode (mC Y_X5_goersAbout) 23 = .ok (.iconst 1, 1) := by decide +kernel
theorem dX5_goersAbout_24 : decode (mC Y_X5_goersAbout) 24 = .ok (.iload_n 3, 1) := by decide +kernel
theorem dX5_goersAbout_25 : decode (mC Y_X5_goersAbout) 25 = .ok (.ishl, 1) := by decide +kernel
theorem dX5_goersAbout_26 : decode (mC Y_X5_goersAbout) 26 = .ok (.ior, 1) := by decide +kernel
theorem dX5_goersAbout_27 : decode (mC Y_X5_goersAbout) 27 = .ok (.istore_n 2, 1) := by decide +kernel
theorem dX5_goersAbout_28 : decode (mC Y_X5_goersAbout) 28 = .ok (.iinc 3 1, 3) := by decide +kernel
theorem dX5_goersAbout_31 : decode (mC Y_X5_goersAbout) 31 = .ok (.goto (-27), 3) := by decide +kernel
theorem dX5_goersAbout_34 : decode (mC Y_X5_goersAbout) 34 = .ok (.iload_n 2, 1) := by decide +kernel
theorem dX5_goersAbout_35 : decode (mC Y_X5_goersAbout) 35 = .ok (.ireturn, 1) := by decide +kernel
theorem dX5_day_0 : decode (mC Y_X5_day) 0 = .ok (.aload_n 0, 1) := by decide +kernel
theorem dX5_day_1 : decode (mC Y_X5_day) 1 = .ok (.getfield 31, 3) := by decide +kernel
theorem dX5_day_4 : decode (mC Y_X5_day) 4 = .ok (.ireturn, 1) := by decide +kernel
theorem dX5_yardsOn_0 : decode (mC Y_X5_yardsOn) 0 = .ok (.iload_n 1, 1) := by decide +kernel
theorem dX5_yardsOn_1 : decode (mC Y_X5_yardsOn) 1 = .ok (.tableswitch 57 1 3 #[27, 39, 43], 27) := by decide +kernel
theorem dX5_yardsOn_28 : decode (mC Y_X5_yardsOn) 28 = .ok (.iload_n 0, 1) := by decide +kernel
theorem dX5_yardsOn_29 : decode (mC Y_X5_yardsOn) 29 = .ok (.iconst 2, 1) := by decide +kernel
theorem dX5_yardsOn_30 : decode (mC Y_X5_yardsOn) 30 = .ok (.irem, 1) := by decide +kernel
theorem dX5_yardsOn_31 : decode (mC Y_X5_yardsOn) 31 = .ok (.ifCond .ne 7, 3) := by decide +kernel
theorem dX5_yardsOn_34 : decode (mC Y_X5_yardsOn) 34 = .ok (.iload_n 2, 1) := by decide +kernel
theorem dX5_yardsOn_35 : decode (mC Y_X5_yardsOn) 35 = .ok (.goto 4, 3) := by decide +kernel
theorem dX5_yardsOn_38 : decode (mC Y_X5_yardsOn) 38 = .ok (.iconst 0, 1) := by decide +kernel
theorem dX5_yardsOn_39 : decode (mC Y_X5_yardsOn) 39 = .ok (.ireturn, 1) := by decide +kernel
theorem dX5_yardsOn_40 : decode (mC Y_X5_yardsOn) 40 = .ok (.iconst 2, 1) := by decide +kernel
theorem dX5_yardsOn_41 : decode (mC Y_X5_yardsOn) 41 = .ok (.iload_n 2, 1) := by decide +kernel
theorem dX5_yardsOn_42 : decode (mC Y_X5_yardsOn) 42 = .ok (.imul, 1) := by decide +kernel
theorem dX5_yardsOn_43 : decode (mC Y_X5_yardsOn) 43 = .ok (.ireturn, 1) := by decide +kernel
theorem dX5_yardsOn_44 : decode (mC Y_X5_yardsOn) 44 = .ok (.iload_n 0, 1) := by decide +kernel
theorem dX5_yardsOn_45 : decode (mC Y_X5_yardsOn) 45 = .ok (.iconst 3, 1) := by decide +kernel
theorem dX5_yardsOn_46 : decode (mC Y_X5_yardsOn) 46 = .ok (.irem, 1) := by decide +kernel
theorem dX5_yardsOn_47 : decode (mC Y_X5_yardsOn) 47 = .ok (.ifCond .ne 9, 3) := by decide +kernel
theorem dX5_yardsOn_50 : decode (mC Y_X5_yardsOn) 50 = .ok (.iload_n 2, 1) := by decide +kernel
theorem dX5_yardsOn_51 : decode (mC Y_X5_yardsOn) 51 = .ok (.iconst 1, 1) := by decide +kernel
theorem dX5_yardsOn_52 : decode (mC Y_X5_yardsOn) 52 = .ok (.iadd, 1) := by decide +kernel
theorem dX5_yardsOn_53 : decode (mC Y_X5_yardsOn) 53 = .ok (.goto 4, 3) := by decide +kernel
theorem dX5_yardsOn_56 : decode (mC Y_X5_yardsOn) 56 = .ok (.iload_n 2, 1) := by decide +kernel
theorem dX5_yardsOn_57 : decode (mC Y_X5_yardsOn) 57 = .ok (.ireturn, 1) := by decide +kernel
theorem dX5_yardsOn_58 : decode (mC Y_X5_yardsOn) 58 = .ok (.iload_n 2, 1) := by decide +kernel
theorem dX5_yardsOn_59 : decode (mC Y_X5_yardsOn) 59 = .ok (.ireturn, 1) := by decide +kernel
theorem dX5_yardBehind_0 : decode (mC Y_X5_yardBehind) 0 = .ok (.aload_n 0, 1) := by decide +kernel
theorem dX5_yardBehind_1 : decode (mC Y_X5_yardBehind) 1 = .ok (.getfield 21, 3) := by decide +kernel
theorem dX5_yardBehind_4 : decode (mC Y_X5_yardBehind) 4 = .ok (.iload_n 2, 1) := by decide +kernel
theorem dX5_yardBehind_5 : decode (mC Y_X5_yardBehind) 5 = .ok (.iaload, 1) := by decide +kernel
theorem dX5_yardBehind_6 : decode (mC Y_X5_yardBehind) 6 = .ok (.istore 5, 2) := by decide +kernel
theorem dX5_yardBehind_8 : decode (mC Y_X5_yardBehind) 8 = .ok (.aload_n 0, 1) := by decide +kernel
theorem dX5_yardBehind_9 : decode (mC Y_X5_yardBehind) 9 = .ok (.getfield 15, 3) := by decide +kernel
theorem dX5_yardBehind_12 : decode (mC Y_X5_yardBehind) 12 = .ok (.iload_n 2, 1) := by decide +kernel
theorem dX5_yardBehind_13 : decode (mC Y_X5_yardBehind) 13 = .ok (.iaload, 1) := by decide +kernel
theorem dX5_yardBehind_14 : decode (mC Y_X5_yardBehind) 14 = .ok (.bipush (-4), 2) := by decide +kernel
theorem dX5_yardBehind_16 : decode (mC Y_X5_yardBehind) 16 = .ok (.if_icmp .ne 6, 3) := by decide +kernel
theorem dX5_yardBehind_19 : decode (mC Y_X5_yardBehind) 19 = .ok (.iload 5, 2) := by decide +kernel
theorem dX5_yardBehind_21 : decode (mC Y_X5_yardBehind) 21 = .ok (.ireturn, 1) := by decide +kernel
theorem dX5_yardBehind_22 : decode (mC Y_X5_yardBehind) 22 = .ok (.iconst 0, 1) := by decide +kernel
theorem dX5_yardBehind_23 : decode (mC Y_X5_yardBehind) 23 = .ok (.istore 6, 2) := by decide +kernel
theorem dX5_yardBehind_25 : decode (mC Y_X5_yardBehind) 25 = .ok (.iload 6, 2) := by decide +kernel
theorem dX5_yardBehind_27 : decode (mC Y_X5_yardBehind) 27 = .ok (.iload_n 1, 1) := by decide +kernel
theorem dX5_yardBehind_28 : decode (mC Y_X5_yardBehind) 28 = .ok (.if_icmp .ge 30, 3) := by decide +kernel
theorem dX5_yardBehind_31 : decode (mC Y_X5_yardBehind) 31 = .ok (.iload 5, 2) := by decide +kernel
theorem dX5_yardBehind_33 : decode (mC Y_X5_yardBehind) 33 = .ok (.aload_n 0, 1) := by decide +kernel
theorem dX5_yardBehind_34 : decode (mC Y_X5_yardBehind) 34 = .ok (.getfield 31, 3) := by decide +kernel
theorem dX5_yardBehind_37 : decode (mC Y_X5_yardBehind) 37 = .ok (.iload 6, 2) := by decide +kernel
theorem dX5_yardBehind_39 : decode (mC Y_X5_yardBehind) 39 = .ok (.iadd, 1) := by decide +kernel
theorem dX5_yardBehind_40 : decode (mC Y_X5_yardBehind) 40 = .ok (.iload_n 3, 1) := by decide +kernel
theorem dX5_yardBehind_41 : decode (mC Y_X5_yardBehind) 41 = .ok (.iload 4, 2) := by decide +kernel
theorem dX5_yardBehind_43 : decode (mC Y_X5_yardBehind) 43 = .ok (.invokestatic 66, 3) := by decide +kernel
theorem dX5_yardBehind_46 : decode (mC Y_X5_yardBehind) 46 = .ok (.iadd, 1) := by decide +kernel
theorem dX5_yardBehind_47 : decode (mC Y_X5_yardBehind) 47 = .ok (.bipush 12, 2) := by decide +kernel
theorem dX5_yardBehind_49 : decode (mC Y_X5_yardBehind) 49 = .ok (.irem, 1) := by decide +kernel
theorem dX5_yardBehind_50 : decode (mC Y_X5_yardBehind) 50 = .ok (.istore 5, 2) := by decide +kernel
theorem dX5_yardBehind_52 : decode (mC Y_X5_yardBehind) 52 = .ok (.iinc 6 1, 3) := by decide +kernel
theorem dX5_yardBehind_55 : decode (mC Y_X5_yardBehind) 55 = .ok (.goto (-30), 3) := by decide +kernel
theorem dX5_yardBehind_58 : decode (mC Y_X5_yardBehind) 58 = .ok (.iload 5, 2) := by decide +kernel
theorem dX5_yardBehind_60 : decode (mC Y_X5_yardBehind) 60 = .ok (.ireturn, 1) := by decide +kernel
theorem dX5_goRound_0 : decode (mC Y_X5_goRound) 0 = .ok (.iconst 0, 1) := by decide +kernel
theorem dX5_goRound_1 : decode (mC Y_X5_goRound) 1 = .ok (.istore_n 1, 1) := by decide +kernel
theorem dX5_goRound_2 : decode (mC Y_X5_goRound) 2 = .ok (.iload_n 1, 1) := by decide +kernel
theorem dX5_goRound_3 : decode (mC Y_X5_goRound) 3 = .ok (.aload_n 0, 1) := by decide +kernel
theorem dX5_goRound_4 : decode (mC Y_X5_goRound) 4 = .ok (.getfield 27, 3) := by decide +kernel
theorem dX5_goRound_7 : decode (mC Y_X5_goRound) 7 = .ok (.if_icmp .ge 33, 3) := by decide +kernel
theorem dX5_goRound_10 : decode (mC Y_X5_goRound) 10 = .ok (.aload_n 0, 1) := by decide +kernel
theorem dX5_goRound_11 : decode (mC Y_X5_goRound) 11 = .ok (.getfield 21, 3) := by decide +kernel
theorem dX5_goRound_14 : decode (mC Y_X5_goRound) 14 = .ok (.iload_n 1, 1) := by decide +kernel
theorem dX5_goRound_15 : decode (mC Y_X5_goRound) 15 = .ok (.aload_n 0, 1) := by decide +kernel
theorem dX5_goRound_16 : decode (mC Y_X5_goRound) 16 = .ok (.iconst 1, 1) := by decide +kernel
theorem dX5_goRound_17 : decode (mC Y_X5_goRound) 17 = .ok (.iload_n 1, 1) := by decide +kernel
theorem dX5_goRound_18 : decode (mC Y_X5_goRound) 18 = .ok (.aload_n 0, 1) := by decide +kernel
theorem dX5_goRound_19 : decode (mC Y_X5_goRound) 19 = .ok (.getfield 9, 3) := by decide +kernel
theorem dX5_goRound_22 : decode (mC Y_X5_goRound) 22 = .ok (.iload_n 1, 1) := by decide +kernel
theorem dX5_goRound_23 : decode (mC Y_X5_goRound) 23 = .ok (.iaload, 1) := by decide +kernel
theorem dX5_goRound_24 : decode (mC Y_X5_goRound) 24 = .ok (.aload_n 0, 1) := by decide +kernel
theorem dX5_goRound_25 : decode (mC Y_X5_goRound) 25 = .ok (.getfield 24, 3) := by decide +kernel
theorem dX5_goRound_28 : decode (mC Y_X5_goRound) 28 = .ok (.iload_n 1, 1) := by decide +kernel
theorem dX5_goRound_29 : decode (mC Y_X5_goRound) 29 = .ok (.iaload, 1) := by decide +kernel
theorem dX5_goRound_30 : decode (mC Y_X5_goRound) 30 = .ok (.invokevirtual 62, 3) := by decide +kernel
theorem dX5_goRound_33 : decode (mC Y_X5_goRound) 33 = .ok (.iastore, 1) := by decide +kernel
theorem dX5_goRound_34 : decode (mC Y_X5_goRound) 34 = .ok (.iinc 1 1, 3) := by decide +kernel
theorem dX5_goRound_37 : decode (mC Y_X5_goRound) 37 = .ok (.goto (-35), 3) := by decide +kernel
theorem dX5_goRound_40 : decode (mC Y_X5_goRound) 40 = .ok (.aload_n 0, 1) := by decide +kernel
theorem dX5_goRound_41 : decode (mC Y_X5_goRound) 41 = .ok (.dup, 1) := by decide +kernel
theorem dX5_goRound_42 : decode (mC Y_X5_goRound) 42 = .ok (.getfield 31, 3) := by decide +kernel
theorem dX5_goRound_45 : decode (mC Y_X5_goRound) 45 = .ok (.iconst 1, 1) := by decide +kernel
theorem dX5_goRound_46 : decode (mC Y_X5_goRound) 46 = .ok (.iadd, 1) := by decide +kernel
theorem dX5_goRound_47 : decode (mC Y_X5_goRound) 47 = .ok (.putfield 31, 3) := by decide +kernel
theorem dX5_goRound_50 : decode (mC Y_X5_goRound) 50 = .ok (.return_, 1) := by decide +kernel
theorem dX5_pairs_0 : decode (mC Y_X5_pairs) 0 = .ok (.iconst 0, 1) := by decide +kernel
theorem dX5_pairs_1 : decode (mC Y_X5_pairs) 1 = .ok (.istore_n 2, 1) := by decide +kernel
theorem dX5_pairs_2 : decode (mC Y_X5_pairs) 2 = .ok (.iconst 0, 1) := by decide +kernel
theorem dX5_pairs_3 : decode (mC Y_X5_pairs) 3 = .ok (.istore_n 3, 1) := by decide +kernel
theorem dX5_pairs_4 : decode (mC Y_X5_pairs) 4 = .ok (.iload_n 3, 1) := by decide +kernel
theorem dX5_pairs_5 : decode (mC Y_X5_pairs) 5 = .ok (.aload_n 0, 1) := by decide +kernel
theorem dX5_pairs_6 : decode (mC Y_X5_pairs) 6 = .ok (.getfield 27, 3) := by decide +kernel
theorem dX5_pairs_9 : decode (mC Y_X5_pairs) 9 = .ok (.if_icmp .ge 43, 3) := by decide +kernel
theorem dX5_pairs_12 : decode (mC Y_X5_pairs) 12 = .ok (.iload_n 3, 1) := by decide +kernel
theorem dX5_pairs_13 : decode (mC Y_X5_pairs) 13 = .ok (.iconst 1, 1) := by decide +kernel
theorem dX5_pairs_14 : decode (mC Y_X5_pairs) 14 = .ok (.iadd, 1) := by decide +kernel
theorem dX5_pairs_15 : decode (mC Y_X5_pairs) 15 = .ok (.istore 4, 2) := by decide +kernel
theorem dX5_pairs_17 : decode (mC Y_X5_pairs) 17 = .ok (.iload 4, 2) := by decide +kernel
theorem dX5_pairs_19 : decode (mC Y_X5_pairs) 19 = .ok (.aload_n 0, 1) := by decide +kernel
theorem dX5_pairs_20 : decode (mC Y_X5_pairs) 20 = .ok (.getfield 27, 3) := by decide +kernel
theorem dX5_pairs_23 : decode (mC Y_X5_pairs) 23 = .ok (.if_icmp .ge 23, 3) := by decide +kernel
theorem dX5_pairs_26 : decode (mC Y_X5_pairs) 26 = .ok (.aload_n 0, 1) := by decide +kernel
theorem dX5_pairs_27 : decode (mC Y_X5_pairs) 27 = .ok (.iload_n 3, 1) := by decide +kernel
theorem dX5_pairs_28 : decode (mC Y_X5_pairs) 28 = .ok (.iload 4, 2) := by decide +kernel
theorem dX5_pairs_30 : decode (mC Y_X5_pairs) 30 = .ok (.invokevirtual 52, 3) := by decide +kernel
theorem dX5_pairs_33 : decode (mC Y_X5_pairs) 33 = .ok (.iload_n 1, 1) := by decide +kernel
theorem dX5_pairs_34 : decode (mC Y_X5_pairs) 34 = .ok (.if_icmp .ne 6, 3) := by decide +kernel
theorem dX5_pairs_37 : decode (mC Y_X5_pairs) 37 = .ok (.iinc 2 1, 3) := by decide +kernel
theorem dX5_pairs_40 : decode (mC Y_X5_pairs) 40 = .ok (.iinc 4 1, 3) := by decide +kernel
theorem dX5_pairs_43 : decode (mC Y_X5_pairs) 43 = .ok (.goto (-26), 3) := by decide +kernel
theorem dX5_pairs_46 : decode (mC Y_X5_pairs) 46 = .ok (.iinc 3 1, 3) := by decide +kernel
theorem dX5_pairs_49 : decode (mC Y_X5_pairs) 49 = .ok (.goto (-45), 3) := by decide +kernel
theorem dX5_pairs_52 : decode (mC Y_X5_pairs) 52 = .ok (.iload_n 2, 1) := by decide +kernel
theorem dX5_pairs_53 : decode (mC Y_X5_pairs) 53 = .ok (.ireturn, 1) := by decide +kernel
theorem dX5_letDaysGoBy_0 : decode (mC Y_X5_letDaysGoBy) 0 = .ok (.iconst 0, 1) := by decide +kernel
theorem dX5_letDaysGoBy_1 : decode (mC Y_X5_letDaysGoBy) 1 = .ok (.istore_n 2, 1) := by decide +kernel
theorem dX5_letDaysGoBy_2 : decode (mC Y_X5_letDaysGoBy) 2 = .ok (.iconst 0, 1) := by decide +kernel
theorem dX5_letDaysGoBy_3 : decode (mC Y_X5_letDaysGoBy) 3 = .ok (.istore_n 3, 1) := by decide +kernel
theorem dX5_letDaysGoBy_4 : decode (mC Y_X5_letDaysGoBy) 4 = .ok (.iload_n 3, 1) := by decide +kernel
theorem dX5_letDaysGoBy_5 : decode (mC Y_X5_letDaysGoBy) 5 = .ok (.iload_n 1, 1) := by decide +kernel
theorem dX5_letDaysGoBy_6 : decode (mC Y_X5_letDaysGoBy) 6 = .ok (.if_icmp .ge 21, 3) := by decide +kernel
theorem dX5_letDaysGoBy_9 : decode (mC Y_X5_letDaysGoBy) 9 = .ok (.aload_n 0, 1) := by decide +kernel
theorem dX5_letDaysGoBy_10 : decode (mC Y_X5_letDaysGoBy) 10 = .ok (.invokevirtual 56, 3) := by decide +kernel
theorem dX5_letDaysGoBy_13 : decode (mC Y_X5_letDaysGoBy) 13 = .ok (.iload_n 2, 1) := by decide +kernel
theorem dX5_letDaysGoBy_14 : decode (mC Y_X5_letDaysGoBy) 14 = .ok (.aload_n 0, 1) := by decide +kernel
theorem dX5_letDaysGoBy_15 : decode (mC Y_X5_letDaysGoBy) 15 = .ok (.iconst 2, 1) := by decide +kernel
theorem dX5_letDaysGoBy_16 : decode (mC Y_X5_letDaysGoBy) 16 = .ok (.invokevirtual 59, 3) := by decide +kernel
theorem dX5_letDaysGoBy_19 : decode (mC Y_X5_letDaysGoBy) 19 = .ok (.iadd, 1) := by decide +kernel
theorem dX5_letDaysGoBy_20 : decode (mC Y_X5_letDaysGoBy) 20 = .ok (.istore_n 2, 1) := by decide +kernel
theorem dX5_letDaysGoBy_21 : decode (mC Y_X5_letDaysGoBy) 21 = .ok (.iinc 3 1, 3) := by decide +kernel
theorem dX5_letDaysGoBy_24 : decode (mC Y_X5_letDaysGoBy) 24 = .ok (.goto (-20), 3) := by decide +kernel
theorem dX5_letDaysGoBy_27 : decode (mC Y_X5_letDaysGoBy) 27 = .ok (.aload_n 0, 1) := by decide +kernel
theorem dX5_letDaysGoBy_28 : decode (mC Y_X5_letDaysGoBy) 28 = .ok (.dup, 1) := by decide +kernel
theorem dX5_letDaysGoBy_29 : decode (mC Y_X5_letDaysGoBy) 29 = .ok (.getfield 34, 3) := by decide +kernel
theorem dX5_letDaysGoBy_32 : decode (mC Y_X5_letDaysGoBy) 32 = .ok (.iload_n 2, 1) := by decide +kernel
theorem dX5_letDaysGoBy_33 : decode (mC Y_X5_letDaysGoBy) 33 = .ok (.iadd, 1) := by decide +kernel
theorem dX5_letDaysGoBy_34 : decode (mC Y_X5_letDaysGoBy) 34 = .ok (.putfield 34, 3) := by decide +kernel
theorem dX5_letDaysGoBy_37 : decode (mC Y_X5_letDaysGoBy) 37 = .ok (.iload_n 2, 1) := by decide +kernel
theorem dX5_letDaysGoBy_38 : decode (mC Y_X5_letDaysGoBy) 38 = .ok (.ireturn, 1) := by decide +kernel
theorem dX5_hangWreath_0 : decode (mC Y_X5_hangWreath) 0 = .ok (.aload_n 0, 1) := by decide +kernel
theorem dX5_hangWreath_1 : decode (mC Y_X5_hangWreath) 1 = .ok (.getfield 15, 3) := by decide +kernel
theorem dX5_hangWreath_4 : decode (mC Y_X5_hangWreath) 4 = .ok (.iload_n 1, 1) := by decide +kernel
theorem dX5_hangWreath_5 : decode (mC Y_X5_hangWreath) 5 = .ok (.iload_n 2, 1) := by decide +kernel
theorem dX5_hangWreath_6 : decode (mC Y_X5_hangWreath) 6 = .ok (.iastore, 1) := by decide +kernel
theorem dX5_hangWreath_7 : decode (mC Y_X5_hangWreath) 7 = .ok (.aload_n 0, 1) := by decide +kernel
theorem dX5_hangWreath_8 : decode (mC Y_X5_hangWreath) 8 = .ok (.getfield 18, 3) := by decide +kernel
theorem dX5_hangWreath_11 : decode (mC Y_X5_hangWreath) 11 = .ok (.iload_n 1, 1) := by decide +kernel
theorem dX5_hangWreath_12 : decode (mC Y_X5_hangWreath) 12 = .ok (.iload_n 3, 1) := by decide +kernel
theorem dX5_hangWreath_13 : decode (mC Y_X5_hangWreath) 13 = .ok (.iastore, 1) := by decide +kernel
theorem dX5_hangWreath_14 : decode (mC Y_X5_hangWreath) 14 = .ok (.return_, 1) := by decide +kernel
theorem dX5_setPace_0 : decode (mC Y_X5_setPace) 0 = .ok (.aload_n 0, 1) := by decide +kernel
theorem dX5_setPace_1 : decode (mC Y_X5_setPace) 1 = .ok (.getfield 24, 3) := by decide +kernel
theorem dX5_setPace_4 : decode (mC Y_X5_setPace) 4 = .ok (.iload_n 1, 1) := by decide +kernel
theorem dX5_setPace_5 : decode (mC Y_X5_setPace) 5 = .ok (.iload_n 2, 1) := by decide +kernel
theorem dX5_setPace_6 : decode (mC Y_X5_setPace) 6 = .ok (.iastore, 1) := by decide +kernel
theorem dX5_setPace_7 : decode (mC Y_X5_setPace) 7 = .ok (.return_, 1) := by decide +kernel
theorem dX5_shareWreath_0 : decode (mC Y_X5_shareWreath) 0 = .ok (.aload_n 0, 1) := by decide +kernel
theorem dX5_shareWreath_1 : decode (mC Y_X5_shareWreath) 1 = .ok (.getfield 15, 3) := by decide +kernel
theorem dX5_shareWreath_4 : decode (mC Y_X5_shareWreath) 4 = .ok (.iload_n 1, 1) := by decide +kernel
theorem dX5_shareWreath_5 : decode (mC Y_X5_shareWreath) 5 = .ok (.iaload, 1) := by decide +kernel
theorem dX5_shareWreath_6 : decode (mC Y_X5_shareWreath) 6 = .ok (.bipush (-4), 2) := by decide +kernel
theorem dX5_shareWreath_8 : decode (mC Y_X5_shareWreath) 8 = .ok (.if_icmp .eq 37, 3) := by decide +kernel
theorem dX5_shareWreath_11 : decode (mC Y_X5_shareWreath) 11 = .ok (.aload_n 0, 1) := by decide +kernel
theorem dX5_shareWreath_12 : decode (mC Y_X5_shareWreath) 12 = .ok (.getfield 15, 3) := by decide +kernel
theorem dX5_shareWreath_15 : decode (mC Y_X5_shareWreath) 15 = .ok (.iload_n 1, 1) := by decide +kernel
theorem dX5_shareWreath_16 : decode (mC Y_X5_shareWreath) 16 = .ok (.iaload, 1) := by decide +kernel
theorem dX5_shareWreath_17 : decode (mC Y_X5_shareWreath) 17 = .ok (.aload_n 0, 1) := by decide +kernel
theorem dX5_shareWreath_18 : decode (mC Y_X5_shareWreath) 18 = .ok (.getfield 15, 3) := by decide +kernel
theorem dX5_shareWreath_21 : decode (mC Y_X5_shareWreath) 21 = .ok (.iload_n 2, 1) := by decide +kernel
theorem dX5_shareWreath_22 : decode (mC Y_X5_shareWreath) 22 = .ok (.iaload, 1) := by decide +kernel
theorem dX5_shareWreath_23 : decode (mC Y_X5_shareWreath) 23 = .ok (.if_icmp .ne 22, 3) := by decide +kernel
theorem dX5_shareWreath_26 : decode (mC Y_X5_shareWreath) 26 = .ok (.aload_n 0, 1) := by decide +kernel
theorem dX5_shareWreath_27 : decode (mC Y_X5_shareWreath) 27 = .ok (.getfield 18, 3) := by decide +kernel
theorem dX5_shareWreath_30 : decode (mC Y_X5_shareWreath) 30 = .ok (.iload_n 1, 1) := by decide +kernel
theorem dX5_shareWreath_31 : decode (mC Y_X5_shareWreath) 31 = .ok (.iaload, 1) := by decide +kernel
theorem dX5_shareWreath_32 : decode (mC Y_X5_shareWreath) 32 = .ok (.aload_n 0, 1) := by decide +kernel
theorem dX5_shareWreath_33 : decode (mC Y_X5_shareWreath) 33 = .ok (.getfield 18, 3) := by decide +kernel
theorem dX5_shareWreath_36 : decode (mC Y_X5_shareWreath) 36 = .ok (.iload_n 2, 1) := by decide +kernel
theorem dX5_shareWreath_37 : decode (mC Y_X5_shareWreath) 37 = .ok (.iaload, 1) := by decide +kernel
theorem dX5_shareWreath_38 : decode (mC Y_X5_shareWreath) 38 = .ok (.if_icmp .ne 7, 3) := by decide +kernel
theorem dX5_shareWreath_41 : decode (mC Y_X5_shareWreath) 41 = .ok (.iconst 1, 1) := by decide +kernel
theorem dX5_shareWreath_42 : decode (mC Y_X5_shareWreath) 42 = .ok (.goto 4, 3) := by decide +kernel
theorem dX5_shareWreath_45 : decode (mC Y_X5_shareWreath) 45 = .ok (.iconst 0, 1) := by decide +kernel
theorem dX5_shareWreath_46 : decode (mC Y_X5_shareWreath) 46 = .ok (.ireturn, 1) := by decide +kernel
theorem dX5_stir_0 : decode (mC Y_X5_stir) 0 = .ok (.aload_n 0, 1) := by decide +kernel
theorem dX5_stir_1 : decode (mC Y_X5_stir) 1 = .ok (.getfield 27, 3) := by decide +kernel
theorem dX5_stir_4 : decode (mC Y_X5_stir) 4 = .ok (.iconst 1, 1) := by decide +kernel
theorem dX5_stir_5 : decode (mC Y_X5_stir) 5 = .ok (.if_icmp .ge 4, 3) := by decide +kernel
theorem dX5_stir_8 : decode (mC Y_X5_stir) 8 = .ok (.return_, 1) := by decide +kernel
theorem dX5_stir_9 : decode (mC Y_X5_stir) 9 = .ok (.iload_n 1, 1) := by decide +kernel
theorem dX5_stir_10 : decode (mC Y_X5_stir) 10 = .ok (.aload_n 0, 1) := by decide +kernel
theorem dX5_stir_11 : decode (mC Y_X5_stir) 11 = .ok (.getfield 27, 3) := by decide +kernel
theorem dX5_stir_14 : decode (mC Y_X5_stir) 14 = .ok (.irem, 1) := by decide +kernel
theorem dX5_stir_15 : decode (mC Y_X5_stir) 15 = .ok (.istore_n 2, 1) := by decide +kernel
theorem dX5_stir_16 : decode (mC Y_X5_stir) 16 = .ok (.iload_n 1, 1) := by decide +kernel
theorem dX5_stir_17 : decode (mC Y_X5_stir) 17 = .ok (.bipush 8, 2) := by decide +kernel
theorem dX5_stir_19 : decode (mC Y_X5_stir) 19 = .ok (.idiv, 1) := by decide +kernel
theorem dX5_stir_20 : decode (mC Y_X5_stir) 20 = .ok (.bipush 6, 2) := by decide +kernel
theorem dX5_stir_22 : decode (mC Y_X5_stir) 22 = .ok (.irem, 1) := by decide +kernel
theorem dX5_stir_23 : decode (mC Y_X5_stir) 23 = .ok (.tableswitch 77 0 2 #[25, 50, 62], 25) := by decide +kernel
theorem dX5_stir_48 : decode (mC Y_X5_stir) 48 = .ok (.aload_n 0, 1) := by decide +kernel
theorem dX5_stir_49 : decode (mC Y_X5_stir) 49 = .ok (.iload_n 2, 1) := by decide +kernel
theorem dX5_stir_50 : decode (mC Y_X5_stir) 50 = .ok (.iload_n 1, 1) := by decide +kernel
theorem dX5_stir_51 : decode (mC Y_X5_stir) 51 = .ok (.bipush 64, 2) := by decide +kernel
theorem dX5_stir_53 : decode (mC Y_X5_stir) 53 = .ok (.idiv, 1) := by decide +kernel
theorem dX5_stir_54 : decode (mC Y_X5_stir) 54 = .ok (.bipush 6, 2) := by decide +kernel
theorem dX5_stir_56 : decode (mC Y_X5_stir) 56 = .ok (.irem, 1) := by decide +kernel
theorem dX5_stir_57 : decode (mC Y_X5_stir) 57 = .ok (.iload_n 1, 1) := by decide +kernel
theorem dX5_stir_58 : decode (mC Y_X5_stir) 58 = .ok (.sipush 512, 3) := by decide +kernel
theorem dX5_stir_61 : decode (mC Y_X5_stir) 61 = .ok (.idiv, 1) := by decide +kernel
theorem dX5_stir_62 : decode (mC Y_X5_stir) 62 = .ok (.bipush 9, 2) := by decide +kernel
theorem dX5_stir_64 : decode (mC Y_X5_stir) 64 = .ok (.irem, 1) := by decide +kernel
theorem dX5_stir_65 : decode (mC Y_X5_stir) 65 = .ok (.iconst 1, 1) := by decide +kernel
theorem dX5_stir_66 : decode (mC Y_X5_stir) 66 = .ok (.iadd, 1) := by decide +kernel
theorem dX5_stir_67 : decode (mC Y_X5_stir) 67 = .ok (.invokevirtual 70, 3) := by decide +kernel
theorem dX5_stir_70 : decode (mC Y_X5_stir) 70 = .ok (.goto 30, 3) := by decide +kernel
theorem dX5_stir_73 : decode (mC Y_X5_stir) 73 = .ok (.aload_n 0, 1) := by decide +kernel
theorem dX5_stir_74 : decode (mC Y_X5_stir) 74 = .ok (.iload_n 2, 1) := by decide +kernel
theorem dX5_stir_75 : decode (mC Y_X5_stir) 75 = .ok (.bipush (-4), 2) := by decide +kernel
theorem dX5_stir_77 : decode (mC Y_X5_stir) 77 = .ok (.bipush (-4), 2) := by decide +kernel
theorem dX5_stir_79 : decode (mC Y_X5_stir) 79 = .ok (.invokevirtual 70, 3) := by decide +kernel
theorem dX5_stir_82 : decode (mC Y_X5_stir) 82 = .ok (.goto 18, 3) := by decide +kernel
theorem dX5_stir_85 : decode (mC Y_X5_stir) 85 = .ok (.aload_n 0, 1) := by decide +kernel
theorem dX5_stir_86 : decode (mC Y_X5_stir) 86 = .ok (.iload_n 2, 1) := by decide +kernel
theorem dX5_stir_87 : decode (mC Y_X5_stir) 87 = .ok (.iload_n 1, 1) := by decide +kernel
theorem dX5_stir_88 : decode (mC Y_X5_stir) 88 = .ok (.bipush 64, 2) := by decide +kernel
theorem dX5_stir_90 : decode (mC Y_X5_stir) 90 = .ok (.idiv, 1) := by decide +kernel
theorem dX5_stir_91 : decode (mC Y_X5_stir) 91 = .ok (.bipush 12, 2) := by decide +kernel
theorem dX5_stir_93 : decode (mC Y_X5_stir) 93 = .ok (.irem, 1) := by decide +kernel
theorem dX5_stir_94 : decode (mC Y_X5_stir) 94 = .ok (.invokevirtual 74, 3) := by decide +kernel
theorem dX5_stir_97 : decode (mC Y_X5_stir) 97 = .ok (.goto 3, 3) := by decide +kernel
theorem dX5_stir_100 : decode (mC Y_X5_stir) 100 = .ok (.return_, 1) := by decide +kernel
theorem dX5_goers_0 : decode (mC Y_X5_goers) 0 = .ok (.aload_n 0, 1) := by decide +kernel
theorem dX5_goers_1 : decode (mC Y_X5_goers) 1 = .ok (.getfield 27, 3) := by decide +kernel
theorem dX5_goers_4 : decode (mC Y_X5_goers) 4 = .ok (.aload_n 0, 1) := by decide +kernel
theorem dX5_goers_5 : decode (mC Y_X5_goers) 5 = .ok (.bipush (-4), 2) := by decide +kernel
theorem dX5_goers_7 : decode (mC Y_X5_goers) 7 = .ok (.invokevirtual 43, 3) := by decide +kernel
theorem dX5_goers_10 : decode (mC Y_X5_goers) 10 = .ok (.invokestatic 47, 3) := by decide +kernel
theorem dX5_goers_13 : decode (mC Y_X5_goers) 13 = .ok (.isub, 1) := by decide +kernel
theorem dX5_goers_14 : decode (mC Y_X5_goers) 14 = .ok (.ireturn, 1) := by decide +kernel
theorem dX5_yardsAdded_0 : decode (mC Y_X5_yardsAdded) 0 = .ok (.iconst 0, 1) := by decide +kernel
theorem dX5_yardsAdded_1 : decode (mC Y_X5_yardsAdded) 1 = .ok (.istore_n 1, 1) := by decide +kernel
theorem dX5_yardsAdded_2 : decode (mC Y_X5_yardsAdded) 2 = .ok (.iconst 0, 1) := by decide +kernel
theorem dX5_yardsAdded_3 : decode (mC Y_X5_yardsAdded) 3 = .ok (.istore_n 2, 1) := by decide +kernel
theorem dX5_yardsAdded_4 : decode (mC Y_X5_yardsAdded) 4 = .ok (.iload_n 2, 1) := by decide +kernel
theorem dX5_yardsAdded_5 : decode (mC Y_X5_yardsAdded) 5 = .ok (.aload_n 0, 1) := by decide +kernel
theorem dX5_yardsAdded_6 : decode (mC Y_X5_yardsAdded) 6 = .ok (.getfield 27, 3) := by decide +kernel
theorem dX5_yardsAdded_9 : decode (mC Y_X5_yardsAdded) 9 = .ok (.if_icmp .ge 18, 3) := by decide +kernel
theorem dX5_yardsAdded_12 : decode (mC Y_X5_yardsAdded) 12 = .ok (.iload_n 1, 1) := by decide +kernel
theorem dX5_yardsAdded_13 : decode (mC Y_X5_yardsAdded) 13 = .ok (.aload_n 0, 1) := by decide +kernel
theorem dX5_yardsAdded_14 : decode (mC Y_X5_yardsAdded) 14 = .ok (.getfield 21, 3) := by decide +kernel
theorem dX5_yardsAdded_17 : decode (mC Y_X5_yardsAdded) 17 = .ok (.iload_n 2, 1) := by decide +kernel
theorem dX5_yardsAdded_18 : decode (mC Y_X5_yardsAdded) 18 = .ok (.iaload, 1) := by decide +kernel
theorem dX5_yardsAdded_19 : decode (mC Y_X5_yardsAdded) 19 = .ok (.iadd, 1) := by decide +kernel
theorem dX5_yardsAdded_20 : decode (mC Y_X5_yardsAdded) 20 = .ok (.istore_n 1, 1) := by decide +kernel
theorem dX5_yardsAdded_21 : decode (mC Y_X5_yardsAdded) 21 = .ok (.iinc 2 1, 3) := by decide +kernel
theorem dX5_yardsAdded_24 : decode (mC Y_X5_yardsAdded) 24 = .ok (.goto (-20), 3) := by decide +kernel
theorem dX5_yardsAdded_27 : decode (mC Y_X5_yardsAdded) 27 = .ok (.iload_n 1, 1) := by decide +kernel
theorem dX5_yardsAdded_28 : decode (mC Y_X5_yardsAdded) 28 = .ok (.ireturn, 1) := by decide +kernel
theorem dX5_meetings_0 : decode (mC Y_X5_meetings) 0 = .ok (.aload_n 0, 1) := by decide +kernel
theorem dX5_meetings_1 : decode (mC Y_X5_meetings) 1 = .ok (.getfield 34, 3) := by decide +kernel
theorem dX5_meetings_4 : decode (mC Y_X5_meetings) 4 = .ok (.ireturn, 1) := by decide +kernel
theorem ct_X5_init {D : DT} {l : Launch} {m : Mem} {x0 : Nat} {r : Mem} (h : F_X5_init x0 m = some r) : Ct D l Y_X5_init [.ref x0] m (fun (v : Option Value) (N : Mem) => v = none ∧ N = r) := by
  refine ct_of (by decide) (by rfl) (ls0 := [.ref x0]) rfl rfl ?_
  have h : HV (F_X5_init x0 m) (fun (v : Option Value) (N : Mem) => v = none ∧ N = r) := ⟨r, h, rfl, rfl⟩
  revert h
  generalize (fun (v : Option Value) (N : Mem) => v = none ∧ N = r) = post
  intro h
  refine wp_aload_n (i := 0) dX5_init_0 rfl rfl ?_
  obtain ⟨v1, ev1, h⟩ := HV.bind h
  refine wp_objInit ml_X5_3 objw1 objw2 dX5_init_1 (chkT_lt ev1 (by decide)) (Nat.le_of_ble_eq_true rfl) (Nat.le_of_ble_eq_true rfl) ?_
  refine wp_aload_n (i := 0) dX5_init_4 rfl rfl ?_
  refine wp_bipush (v := 7) dX5_init_5 (by decide) ?_
  refine wp_newI (N := 7) aw_int dX5_init_7 (by decide) (by decide) (by decide) (Nat.le_of_ble_eq_true rfl) (Nat.le_of_ble_eq_true rfl) ?_
  obtain ⟨m2, em2, h⟩ := HV.bind h
  refine wp_putR cl5 (f := 0) (by decide) rfl fl_X5_9 (Or.inr ⟨rfl, rfl⟩) dX5_init_9 em2 ?_
  refine wp_aload_n (i := 0) dX5_init_12 rfl rfl ?_
  refine wp_bipush (v := 7) dX5_init_13 (by decide) ?_
  refine wp_newI (N := 7) aw_int dX5_init_15 (by decide) (by decide) (by decide) (Nat.le_of_ble_eq_true rfl) (Nat.le_of_ble_eq_true rfl) ?_
  obtain ⟨m3, em3, h⟩ := HV.bind h
  refine wp_putR cl5 (f := 1) (by decide) rfl fl_X5_15 (Or.inr ⟨rfl, rfl⟩) dX5_init_17 em3 ?_
  refine wp_aload_n (i := 0) dX5_init_20 rfl rfl ?_
  refine wp_bipush (v := 7) dX5_init_21 (by decide) ?_
  refine wp_newI (N := 7) aw_int dX5_init_23 (by decide) (by decide) (by decide) (Nat.le_of_ble_eq_true rfl) (Nat.le_of_ble_eq_true rfl) ?_
  obtain ⟨m4, em4, h⟩ := HV.bind h
  refine wp_putR cl5 (f := 2) (by decide) rfl fl_X5_18 (Or.inr ⟨rfl, rfl⟩) dX5_init_25 em4 ?_
  refine wp_aload_n (i := 0) dX5_init_28 rfl rfl ?_
  refine wp_bipush (v := 7) dX5_init_29 (by decide) ?_
  refine wp_newI (N := 7) aw_int dX5_init_31 (by decide) (by decide) (by decide) (Nat.le_of_ble_eq_true rfl) (Nat.le_of_ble_eq_true rfl) ?_
  obtain ⟨m5, em5, h⟩ := HV.bind h
  refine wp_putR cl5 (f := 3) (by decide) rfl fl_X5_21 (Or.inr ⟨rfl, rfl⟩) dX5_init_33 em5 ?_
  refine wp_aload_n (i := 0) dX5_init_36 rfl rfl ?_
  refine wp_bipush (v := 7) dX5_init_37 (by decide) ?_
  refine wp_newI (N := 7) aw_int dX5_init_39 (by decide) (by decide) (by decide) (Nat.le_of_ble_eq_true rfl) (Nat.le_of_ble_eq_true rfl) ?_
  obtain ⟨m6, em6, h⟩ := HV.bind h
  refine wp_putR cl5 (f := 4) (by decide) rfl fl_X5_24 (Or.inr ⟨rfl, rfl⟩) dX5_init_41 em6 ?_
  refine wp_aload_n (i := 0) dX5_init_44 rfl rfl ?_
  refine wp_iconst (v := 0) dX5_init_45 (by decide) ?_
  obtain ⟨m7, em7, h⟩ := HV.bind h
  refine wp_putI cl5 (f := 5) (by decide) rfl fl_X5_27 (Or.inl rfl) dX5_init_46 em7 ?_
  refine wp_aload_n (i := 0) dX5_init_49 rfl rfl ?_
  refine wp_iconst (v := 0) dX5_init_50 (by decide) ?_
  obtain ⟨m8, em8, h⟩ := HV.bind h
  refine wp_putI cl5 (f := 6) (by decide) rfl fl_X5_31 (Or.inl rfl) dX5_init_51 em8 ?_
  refine wp_aload_n (i := 0) dX5_init_54 rfl rfl ?_
  refine wp_iconst (v := 0) dX5_init_55 (by decide) ?_
  obtain ⟨m9, em9, h⟩ := HV.bind h
  refine wp_putI cl5 (f := 7) (by decide) rfl fl_X5_34 (Or.inl rfl) dX5_init_56 em9 ?_
  exact wp_vret dX5_init_59 rfl (Nat.le_of_ble_eq_true rfl) (Nat.le_of_ble_eq_true rfl) (HV.some h)
theorem ct_X5_settle {D : DT} {l : Launch} {m : Mem} {x0 : Nat} {x1 : Int32} {x2 : Int32} {x3 : Int32} {x4 : Int32} {x5 : Int32} {r : Mem} (h : F_X5_settle x0 x1 x2 x3 x4 x5 m = some r) : Ct D l Y_X5_settle [.ref x0, .int x1, .int x2, .int x3, .int x4, .int x5] m (fun (v : Option Value) (N : Mem) => v = none ∧ N = r) := by
  refine ct_of (by decide) (by rfl) (ls0 := [.ref x0, .int x1, .int x2, .int x3, .int x4, .int x5]) rfl rfl ?_
  have h : HV (F_X5_settle x0 x1 x2 x3 x4 x5 m) (fun (v : Option Value) (N : Mem) => v = none ∧ N = r) := ⟨r, h, rfl, rfl⟩
  revert h
  generalize (fun (v : Option Value) (N : Mem) => v = none ∧ N = r) = post
  intro h
  refine wp_aload_n (i := 0) dX5_settle_0 rfl rfl ?_
  obtain ⟨v1, ev1, h⟩ := HV.bind h
  refine wp_getI cl5 (f := 5) (by decide) rfl fl_X5_27 dX5_settle_1 ev1 ?_
  refine wp_bipush (v := 7) dX5_settle_4 (by decide) ?_
  refine wp_icmp_ge (tgt := 71) dX5_settle_6 (by decide) (fun c2 => ?_) (fun c2 => ?_)
  · have h := HV.t c2 h
    exact wp_vret dX5_settle_71 rfl (Nat.le_of_ble_eq_true rfl) (Nat.le_of_ble_eq_true rfl) (HV.some h)
  · have h := HV.f c2 h
    refine wp_aload_n (i := 0) dX5_settle_9 rfl rfl ?_
    obtain ⟨v3, ev3, h⟩ := HV.bind h
    refine wp_getR cl5 (f := 0) (by decide) rfl fl_X5_9 dX5_settle_10 ev3 ?_
    refine wp_aload_n (i := 0) dX5_settle_13 rfl rfl ?_
    obtain ⟨v4, ev4, h⟩ := HV.bind h
    refine wp_getI cl5 (f := 5) (by decide) rfl fl_X5_27 dX5_settle_14 ev4 ?_
    refine wp_iload_n (i := 1) dX5_settle_17 rfl rfl ?_
    obtain ⟨m5, em5, h⟩ := HV.bind h
    refine wp_iastore dX5_settle_18 em5 ?_
    refine wp_aload_n (i := 0) dX5_settle_19 rfl rfl ?_
    obtain ⟨v6, ev6, h⟩ := HV.bind h
    refine wp_getR cl5 (f := 1) (by decide) rfl fl_X5_15 dX5_settle_20 ev6 ?_
    refine wp_aload_n (i := 0) dX5_settle_23 rfl rfl ?_
    obtain ⟨v7, ev7, h⟩ := HV.bind h
    refine wp_getI cl5 (f := 5) (by decide) rfl fl_X5_27 dX5_settle_24 ev7 ?_
    refine wp_iload_n (i := 2) dX5_settle_27 rfl rfl ?_
    obtain ⟨m8, em8, h⟩ := HV.bind h
    refine wp_iastore dX5_settle_28 em8 ?_
    refine wp_aload_n (i := 0) dX5_settle_29 rfl rfl ?_
    obtain ⟨v9, ev9, h⟩ := HV.bind h
    refine wp_getR cl5 (f := 2) (by decide) rfl fl_X5_18 dX5_settle_30 ev9 ?_
    refine wp_aload_n (i := 0) dX5_settle_33 rfl rfl ?_
    obtain ⟨v10, ev10, h⟩ := HV.bind h
    refine wp_getI cl5 (f := 5) (by decide) rfl fl_X5_27 dX5_settle_34 ev10 ?_
    refine wp_iload_n (i := 3) dX5_settle_37 rfl rfl ?_
    obtain ⟨m11, em11, h⟩ := HV.bind h
    refine wp_iastore dX5_settle_38 em11 ?_
    refine wp_aload_n (i := 0) dX5_settle_39 rfl rfl ?_
    obtain ⟨v12, ev12, h⟩ := HV.bind h
    refine wp_getR cl5 (f := 3) (by decide) rfl fl_X5_21 dX5_settle_40 ev12 ?_
    refine wp_aload_n (i := 0) dX5_settle_43 rfl rfl ?_
    obtain ⟨v13, ev13, h⟩ := HV.bind h
    refine wp_getI cl5 (f := 5) (by decide) rfl fl_X5_27 dX5_settle_44 ev13 ?_
    refine wp_iload dX5_settle_47 rfl ?_
    obtain ⟨m14, em14, h⟩ := HV.bind h
    refine wp_iastore dX5_settle_49 em14 ?_
    refine wp_aload_n (i := 0) dX5_settle_50 rfl rfl ?_
    obtain ⟨v15, ev15, h⟩ := HV.bind h
    refine wp_getR cl5 (f := 4) (by decide) rfl fl_X5_24 dX5_settle_51 ev15 ?_
    refine wp_aload_n (i := 0) dX5_settle_54 rfl rfl ?_
    obtain ⟨v16, ev16, h⟩ := HV.bind h
    refine wp_getI cl5 (f := 5) (by decide) rfl fl_X5_27 dX5_settle_55 ev16 ?_
    refine wp_iload dX5_settle_58 rfl ?_
    obtain ⟨m17, em17, h⟩ := HV.bind h
    refine wp_iastore dX5_settle_60 em17 ?_
    refine wp_aload_n (i := 0) dX5_settle_61 rfl rfl ?_
    refine wp_dup dX5_settle_62 rfl ?_
    obtain ⟨v18, ev18, h⟩ := HV.bind h
    refine wp_getI cl5 (f := 5) (by decide) rfl fl_X5_27 dX5_settle_63 ev18 ?_
    refine wp_iconst (v := 1) dX5_settle_66 (by decide) ?_
    refine wp_iadd dX5_settle_67 ?_
    obtain ⟨m19, em19, h⟩ := HV.bind h
    refine wp_putI cl5 (f := 5) (by decide) rfl fl_X5_27 (Or.inl rfl) dX5_settle_68 em19 ?_
    exact wp_vret dX5_settle_71 rfl (Nat.le_of_ble_eq_true rfl) (Nat.le_of_ble_eq_true rfl) (HV.some h)
theorem ct_X5_empty {D : DT} {l : Launch} {m : Mem} {x0 : Nat} {r : Mem} (h : F_X5_empty x0 m = some r) : Ct D l Y_X5_empty [.ref x0] m (fun (v : Option Value) (N : Mem) => v = none ∧ N = r) := by
  refine ct_of (by decide) (by rfl) (ls0 := [.ref x0]) rfl rfl ?_
  have h : HV (F_X5_empty x0 m) (fun (v : Option Value) (N : Mem) => v = none ∧ N = r) := ⟨r, h, rfl, rfl⟩
  revert h
  generalize (fun (v : Option Value) (N : Mem) => v = none ∧ N = r) = post
  intro h
  refine wp_aload_n (i := 0) dX5_empty_0 rfl rfl ?_
  refine wp_iconst (v := 0) dX5_empty_1 (by decide) ?_
  obtain ⟨m1, em1, h⟩ := HV.bind h
  refine wp_putI cl5 (f := 5) (by decide) rfl fl_X5_27 (Or.inl rfl) dX5_empty_2 em1 ?_
  refine wp_aload_n (i := 0) dX5_empty_5 rfl rfl ?_
  refine wp_iconst (v := 0) dX5_empty_6 (by decide) ?_
  obtain ⟨m2, em2, h⟩ := HV.bind h
  refine wp_putI cl5 (f := 6) (by decide) rfl fl_X5_31 (Or.inl rfl) dX5_empty_7 em2 ?_
  refine wp_aload_n (i := 0) dX5_empty_10 rfl rfl ?_
  refine wp_iconst (v := 0) dX5_empty_11 (by decide) ?_
  obtain ⟨m3, em3, h⟩ := HV.bind h
  refine wp_putI cl5 (f := 7) (by decide) rfl fl_X5_34 (Or.inl rfl) dX5_empty_12 em3 ?_
  exact wp_vret dX5_empty_15 rfl (Nat.le_of_ble_eq_true rfl) (Nat.le_of_ble_eq_true rfl) (HV.some h)
theorem ct_X5_size {D : DT} {l : Launch} {m : Mem} {x0 : Nat} {r : Int32} (h : F_X5_size x0 m = some r) : Ct D l Y_X5_size [.ref x0] m (fun (v : Option Value) (N : Mem) => v = some (Value.int r) ∧ N = m) := by
  refine ct_of (by decide) (by rfl) (ls0 := [.ref x0]) rfl rfl ?_
  have h : PI m (F_X5_size x0 m) (fun (v : Option Value) (N : Mem) => v = some (Value.int r) ∧ N = m) := ⟨r, h, rfl, rfl⟩
  revert h
  generalize (fun (v : Option Value) (N : Mem) => v = some (Value.int r) ∧ N = m) = post
  intro h
  refine wp_aload_n (i := 0) dX5_size_0 rfl rfl ?_
  obtain ⟨v1, ev1, h⟩ := PI.bind h
  refine wp_getI cl5 (f := 5) (by decide) rfl fl_X5_27 dX5_size_1 ev1 ?_
  exact wp_iret dX5_size_4 rfl rfl (Nat.le_of_ble_eq_true rfl) (Nat.le_of_ble_eq_true rfl) (PI.some h)
theorem ct_X5_become {D : DT} {l : Launch} {m : Mem} {x0 : Nat} {x1 : Nat} {r : Mem} (h : F_X5_become x0 x1 m = some r) : Ct D l Y_X5_become [.ref x0, .ref x1] m (fun (v : Option Value) (N : Mem) => v = none ∧ N = r) := by
  refine ct_of (by decide) (by rfl) (ls0 := [.ref x0, .ref x1]) rfl rfl ?_
  have h : HV (F_X5_become x0 x1 m) (fun (v : Option Value) (N : Mem) => v = none ∧ N = r) := ⟨r, h, rfl, rfl⟩
  revert h
  generalize (fun (v : Option Value) (N : Mem) => v = none ∧ N = r) = post
  intro h
  refine wp_aload_n (i := 1) dX5_become_0 rfl rfl ?_
  obtain ⟨v1, ev1, h⟩ := HV.bind h
  refine wp_getR cl5 (f := 0) (by decide) rfl fl_X5_9 dX5_become_1 ev1 ?_
  refine wp_iconst (v := 0) dX5_become_4 (by decide) ?_
  refine wp_aload_n (i := 0) dX5_become_5 rfl rfl ?_
  obtain ⟨v2, ev2, h⟩ := HV.bind h
  refine wp_getR cl5 (f := 0) (by decide) rfl fl_X5_9 dX5_become_6 ev2 ?_
  refine wp_iconst (v := 0) dX5_become_9 (by decide) ?_
  refine wp_bipush (v := 7) dX5_become_10 (by decide) ?_
  obtain ⟨m3, em3, h⟩ := HV.bind h
  refine wp_copy ml_X5_37 cpw1 cpw2 cpw3 dX5_become_12 (Nat.le_of_ble_eq_true rfl) (Nat.le_of_ble_eq_true rfl) em3 ?_
  refine wp_aload_n (i := 1) dX5_become_15 rfl rfl ?_
  obtain ⟨v4, ev4, h⟩ := HV.bind h
  refine wp_getR cl5 (f := 1) (by decide) rfl fl_X5_15 dX5_become_16 ev4 ?_
  refine wp_iconst (v := 0) dX5_become_19 (by decide) ?_
  refine wp_aload_n (i := 0) dX5_become_20 rfl rfl ?_
  obtain ⟨v5, ev5, h⟩ := HV.bind h
  refine wp_getR cl5 (f := 1) (by decide) rfl fl_X5_15 dX5_become_21 ev5 ?_
  refine wp_iconst (v := 0) dX5_become_24 (by decide) ?_
  refine wp_bipush (v := 7) dX5_become_25 (by decide) ?_
  obtain ⟨m6, em6, h⟩ := HV.bind h
  refine wp_copy ml_X5_37 cpw1 cpw2 cpw3 dX5_become_27 (Nat.le_of_ble_eq_true rfl) (Nat.le_of_ble_eq_true rfl) em6 ?_
  refine wp_aload_n (i := 1) dX5_become_30 rfl rfl ?_
  obtain ⟨v7, ev7, h⟩ := HV.bind h
  refine wp_getR cl5 (f := 2) (by decide) rfl fl_X5_18 dX5_become_31 ev7 ?_
  refine wp_iconst (v := 0) dX5_become_34 (by decide) ?_
  refine wp_aload_n (i := 0) dX5_become_35 rfl rfl ?_
  obtain ⟨v8, ev8, h⟩ := HV.bind h
  refine wp_getR cl5 (f := 2) (by decide) rfl fl_X5_18 dX5_become_36 ev8 ?_
  refine wp_iconst (v := 0) dX5_become_39 (by decide) ?_
  refine wp_bipush (v := 7) dX5_become_40 (by decide) ?_
  obtain ⟨m9, em9, h⟩ := HV.bind h
  refine wp_copy ml_X5_37 cpw1 cpw2 cpw3 dX5_become_42 (Nat.le_of_ble_eq_true rfl) (Nat.le_of_ble_eq_true rfl) em9 ?_
  refine wp_aload_n (i := 1) dX5_become_45 rfl rfl ?_
  obtain ⟨v10, ev10, h⟩ := HV.bind h
  refine wp_getR cl5 (f := 3) (by decide) rfl fl_X5_21 dX5_become_46 ev10 ?_
  refine wp_iconst (v := 0) dX5_become_49 (by decide) ?_
  refine wp_aload_n (i := 0) dX5_become_50 rfl rfl ?_
  obtain ⟨v11, ev11, h⟩ := HV.bind h
  refine wp_getR cl5 (f := 3) (by decide) rfl fl_X5_21 dX5_become_51 ev11 ?_
  refine wp_iconst (v := 0) dX5_become_54 (by decide) ?_
  refine wp_bipush (v := 7) dX5_become_55 (by decide) ?_
  obtain ⟨m12, em12, h⟩ := HV.bind h
  refine wp_copy ml_X5_37 cpw1 cpw2 cpw3 dX5_become_57 (Nat.le_of_ble_eq_true rfl) (Nat.le_of_ble_eq_true rfl) em12 ?_
  refine wp_aload_n (i := 1) dX5_become_60 rfl rfl ?_
  obtain ⟨v13, ev13, h⟩ := HV.bind h
  refine wp_getR cl5 (f := 4) (by decide) rfl fl_X5_24 dX5_become_61 ev13 ?_
  refine wp_iconst (v := 0) dX5_become_64 (by decide) ?_
  refine wp_aload_n (i := 0) dX5_become_65 rfl rfl ?_
  obtain ⟨v14, ev14, h⟩ := HV.bind h
  refine wp_getR cl5 (f := 4) (by decide) rfl fl_X5_24 dX5_become_66 ev14 ?_
  refine wp_iconst (v := 0) dX5_become_69 (by decide) ?_
  refine wp_bipush (v := 7) dX5_become_70 (by decide) ?_
  obtain ⟨m15, em15, h⟩ := HV.bind h
  refine wp_copy ml_X5_37 cpw1 cpw2 cpw3 dX5_become_72 (Nat.le_of_ble_eq_true rfl) (Nat.le_of_ble_eq_true rfl) em15 ?_
  refine wp_aload_n (i := 0) dX5_become_75 rfl rfl ?_
  refine wp_aload_n (i := 1) dX5_become_76 rfl rfl ?_
  obtain ⟨v16, ev16, h⟩ := HV.bind h
  refine wp_getI cl5 (f := 5) (by decide) rfl fl_X5_27 dX5_become_77 ev16 ?_
  obtain ⟨m17, em17, h⟩ := HV.bind h
  refine wp_putI cl5 (f := 5) (by decide) rfl fl_X5_27 (Or.inl rfl) dX5_become_80 em17 ?_
  refine wp_aload_n (i := 0) dX5_become_83 rfl rfl ?_
  refine wp_aload_n (i := 1) dX5_become_84 rfl rfl ?_
  obtain ⟨v18, ev18, h⟩ := HV.bind h
  refine wp_getI cl5 (f := 6) (by decide) rfl fl_X5_31 dX5_become_85 ev18 ?_
  obtain ⟨m19, em19, h⟩ := HV.bind h
  refine wp_putI cl5 (f := 6) (by decide) rfl fl_X5_31 (Or.inl rfl) dX5_become_88 em19 ?_
  refine wp_aload_n (i := 0) dX5_become_91 rfl rfl ?_
  refine wp_aload_n (i := 1) dX5_become_92 rfl rfl ?_
  obtain ⟨v20, ev20, h⟩ := HV.bind h
  refine wp_getI cl5 (f := 7) (by decide) rfl fl_X5_34 dX5_become_93 ev20 ?_
  obtain ⟨m21, em21, h⟩ := HV.bind h
  refine wp_putI cl5 (f := 7) (by decide) rfl fl_X5_34 (Or.inl rfl) dX5_become_96 em21 ?_
  exact wp_vret dX5_become_99 rfl (Nat.le_of_ble_eq_true rfl) (Nat.le_of_ble_eq_true rfl) (HV.some h)
theorem ct_X5_kindOf {D : DT} {l : Launch} {m : Mem} {x0 : Nat} {x1 : Int32} {r : Int32} (h : F_X5_kindOf x0 x1 m = some r) : Ct D l Y_X5_kindOf [.ref x0, .int x1] m (fun (v : Option Value) (N : Mem) => v = some (Value.int r) ∧ N = m) := by
  refine ct_of (by decide) (by rfl) (ls0 := [.ref x0, .int x1]) rfl rfl ?_
  have h : PI m (F_X5_kindOf x0 x1 m) (fun (v : Option Value) (N : Mem) => v = some (Value.int r) ∧ N = m) := ⟨r, h, rfl, rfl⟩
  revert h
  generalize (fun (v : Option Value) (N : Mem) => v = some (Value.int r) ∧ N = m) = post
  intro h
  refine wp_aload_n (i := 0) dX5_kindOf_0 rfl rfl ?_
  obtain ⟨v1, ev1, h⟩ := PI.bind h
  refine wp_getR cl5 (f := 0) (by decide) rfl fl_X5_9 dX5_kindOf_1 ev1 ?_
  refine wp_iload_n (i := 1) dX5_kindOf_4 rfl rfl ?_
  obtain ⟨v2, ev2, h⟩ := PI.bind h
  refine wp_iaload dX5_kindOf_5 ev2 ?_
  exact wp_iret dX5_kindOf_6 rfl rfl (Nat.le_of_ble_eq_true rfl) (Nat.le_of_ble_eq_true rfl) (PI.some h)
theorem ct_X5_doorOf {D : DT} {l : Launch} {m : Mem} {x0 : Nat} {x1 : Int32} {r : Int32} (h : F_X5_doorOf x0 x1 m = some r) : Ct D l Y_X5_doorOf [.ref x0, .int x1] m (fun (v : Option Value) (N : Mem) => v = some (Value.int r) ∧ N = m) := by
  refine ct_of (by decide) (by rfl) (ls0 := [.ref x0, .int x1]) rfl rfl ?_
  have h : PI m (F_X5_doorOf x0 x1 m) (fun (v : Option Value) (N : Mem) => v = some (Value.int r) ∧ N = m) := ⟨r, h, rfl, rfl⟩
  revert h
  generalize (fun (v : Option Value) (N : Mem) => v = some (Value.int r) ∧ N = m) = post
  intro h
  refine wp_aload_n (i := 0) dX5_doorOf_0 rfl rfl ?_
  obtain ⟨v1, ev1, h⟩ := PI.bind h
  refine wp_getR cl5 (f := 1) (by decide) rfl fl_X5_15 dX5_doorOf_1 ev1 ?_
  refine wp_iload_n (i := 1) dX5_doorOf_4 rfl rfl ?_
  obtain ⟨v2, ev2, h⟩ := PI.bind h
  refine wp_iaload dX5_doorOf_5 ev2 ?_
  exact wp_iret dX5_doorOf_6 rfl rfl (Nat.le_of_ble_eq_true rfl) (Nat.le_of_ble_eq_true rfl) (PI.some h)
theorem ct_X5_widthOf {D : DT} {l : Launch} {m : Mem} {x0 : Nat} {x1 : Int32} {r : Int32} (h : F_X5_widthOf x0 x1 m = some r) : Ct D l Y_X5_widthOf [.ref x0, .int x1] m (fun (v : Option Value) (N : Mem) => v = some (Value.int r) ∧ N = m) := by
  refine ct_of (by decide) (by rfl) (ls0 := [.ref x0, .int x1]) rfl rfl ?_
  have h : PI m (F_X5_widthOf x0 x1 m) (fun (v : Option Value) (N : Mem) => v = some (Value.int r) ∧ N = m) := ⟨r, h, rfl, rfl⟩
  revert h
  generalize (fun (v : Option Value) (N : Mem) => v = some (Value.int r) ∧ N = m) = post
  intro h
  refine wp_aload_n (i := 0) dX5_widthOf_0 rfl rfl ?_
  obtain ⟨v1, ev1, h⟩ := PI.bind h
  refine wp_getR cl5 (f := 2) (by decide) rfl fl_X5_18 dX5_widthOf_1 ev1 ?_
  refine wp_iload_n (i := 1) dX5_widthOf_4 rfl rfl ?_
  obtain ⟨v2, ev2, h⟩ := PI.bind h
  refine wp_iaload dX5_widthOf_5 ev2 ?_
  exact wp_iret dX5_widthOf_6 rfl rfl (Nat.le_of_ble_eq_true rfl) (Nat.le_of_ble_eq_true rfl) (PI.some h)
theorem ct_X5_yardOf {D : DT} {l : Launch} {m : Mem} {x0 : Nat} {x1 : Int32} {r : Int32} (h : F_X5_yardOf x0 x1 m = some r) : Ct D l Y_X5_yardOf [.ref x0, .int x1] m (fun (v : Option Value) (N : Mem) => v = some (Value.int r) ∧ N = m) := by
  refine ct_of (by decide) (by rfl) (ls0 := [.ref x0, .int x1]) rfl rfl ?_
  have h : PI m (F_X5_yardOf x0 x1 m) (fun (v : Option Value) (N : Mem) => v = some (Value.int r) ∧ N = m) := ⟨r, h, rfl, rfl⟩
  revert h
  generalize (fun (v : Option Value) (N : Mem) => v = some (Value.int r) ∧ N = m) = post
  intro h
  refine wp_aload_n (i := 0) dX5_yardOf_0 rfl rfl ?_
  obtain ⟨v1, ev1, h⟩ := PI.bind h
  refine wp_getR cl5 (f := 3) (by decide) rfl fl_X5_21 dX5_yardOf_1 ev1 ?_
  refine wp_iload_n (i := 1) dX5_yardOf_4 rfl rfl ?_
  obtain ⟨v2, ev2, h⟩ := PI.bind h
  refine wp_iaload dX5_yardOf_5 ev2 ?_
  exact wp_iret dX5_yardOf_6 rfl rfl (Nat.le_of_ble_eq_true rfl) (Nat.le_of_ble_eq_true rfl) (PI.some h)
theorem ct_X5_paceOf {D : DT} {l : Launch} {m : Mem} {x0 : Nat} {x1 : Int32} {r : Int32} (h : F_X5_paceOf x0 x1 m = some r) : Ct D l Y_X5_paceOf [.ref x0, .int x1] m (fun (v : Option Value) (N : Mem) => v = some (Value.int r) ∧ N = m) := by
  refine ct_of (by decide) (by rfl) (ls0 := [.ref x0, .int x1]) rfl rfl ?_
  have h : PI m (F_X5_paceOf x0 x1 m) (fun (v : Option Value) (N : Mem) => v = some (Value.int r) ∧ N = m) := ⟨r, h, rfl, rfl⟩
  revert h
  generalize (fun (v : Option Value) (N : Mem) => v = some (Value.int r) ∧ N = m) = post
  intro h
  refine wp_aload_n (i := 0) dX5_paceOf_0 rfl rfl ?_
  obtain ⟨v1, ev1, h⟩ := PI.bind h
  refine wp_getR cl5 (f := 4) (by decide) rfl fl_X5_24 dX5_paceOf_1 ev1 ?_
  refine wp_iload_n (i := 1) dX5_paceOf_4 rfl rfl ?_
  obtain ⟨v2, ev2, h⟩ := PI.bind h
  refine wp_iaload dX5_paceOf_5 ev2 ?_
  exact wp_iret dX5_paceOf_6 rfl rfl (Nat.le_of_ble_eq_true rfl) (Nat.le_of_ble_eq_true rfl) (PI.some h)
theorem ct_X5_between {D : DT} {l : Launch} {m : Mem} {x0 : Nat} {x1 : Int32} {x2 : Int32} {r : Int32} (h : F_X5_between x0 x1 x2 m = some r) : Ct D l Y_X5_between [.ref x0, .int x1, .int x2] m (fun (v : Option Value) (N : Mem) => v = some (Value.int r) ∧ N = m) := by
  refine ct_of (by decide) (by rfl) (ls0 := [.ref x0, .int x1, .int x2]) rfl rfl ?_
  have h : PI m (F_X5_between x0 x1 x2 m) (fun (v : Option Value) (N : Mem) => v = some (Value.int r) ∧ N = m) := ⟨r, h, rfl, rfl⟩
  revert h
  generalize (fun (v : Option Value) (N : Mem) => v = some (Value.int r) ∧ N = m) = post
  intro h
  refine wp_aload_n (i := 0) dX5_between_0 rfl rfl ?_
  obtain ⟨v1, ev1, h⟩ := PI.bind h
  refine wp_getR cl5 (f := 1) (by decide) rfl fl_X5_15 dX5_between_1 ev1 ?_
  refine wp_iload_n (i := 1) dX5_between_4 rfl rfl ?_
  obtain ⟨v2, ev2, h⟩ := PI.bind h
  refine wp_iaload dX5_between_5 ev2 ?_
  refine wp_bipush (v := -4) dX5_between_6 (by decide) ?_
  refine wp_icmp_eq (tgt := 41) dX5_between_8 (by decide) (fun c3 => ?_) (fun c3 => ?_)
  · have h := PI.t c3 h
    refine wp_iconst (v := 0) dX5_between_41 (by decide) ?_
    exact wp_iret dX5_between_42 rfl rfl (Nat.le_of_ble_eq_true rfl) (Nat.le_of_ble_eq_true rfl) (PI.some h)
  · have h := PI.f c3 h
    refine wp_aload_n (i := 0) dX5_between_11 rfl rfl ?_
    obtain ⟨v4, ev4, h⟩ := PI.bind h
    refine wp_getR cl5 (f := 1) (by decide) rfl fl_X5_15 dX5_between_12 ev4 ?_
    refine wp_iload_n (i := 1) dX5_between_15 rfl rfl ?_
    obtain ⟨v5, ev5, h⟩ := PI.bind h
    refine wp_iaload dX5_between_16 ev5 ?_
    refine wp_aload_n (i := 0) dX5_between_17 rfl rfl ?_
    obtain ⟨v6, ev6, h⟩ := PI.bind h
    refine wp_getR cl5 (f := 1) (by decide) rfl fl_X5_15 dX5_between_18 ev6 ?_
    refine wp_iload_n (i := 2) dX5_between_21 rfl rfl ?_
    obtain ⟨v7, ev7, h⟩ := PI.bind h
    refine wp_iaload dX5_between_22 ev7 ?_
    refine wp_icmp_ne (tgt := 41) dX5_between_23 (by decide) (fun c8 => ?_) (fun c8 => ?_)
    · have h := PI.f c8 h
      refine wp_iconst (v := 0) dX5_between_41 (by decide) ?_
      exact wp_iret dX5_between_42 rfl rfl (Nat.le_of_ble_eq_true rfl) (Nat.le_of_ble_eq_true rfl) (PI.some h)
    · have h := PI.t c8 h
      refine wp_aload_n (i := 0) dX5_between_26 rfl rfl ?_
      obtain ⟨v9, ev9, h⟩ := PI.bind h
      refine wp_getR cl5 (f := 3) (by decide) rfl fl_X5_21 dX5_between_27 ev9 ?_
      refine wp_iload_n (i := 1) dX5_between_30 rfl rfl ?_
      obtain ⟨v10, ev10, h⟩ := PI.bind h
      refine wp_iaload dX5_between_31 ev10 ?_
      refine wp_aload_n (i := 0) dX5_between_32 rfl rfl ?_
      obtain ⟨v11, ev11, h⟩ := PI.bind h
      refine wp_getR cl5 (f := 3) (by decide) rfl fl_X5_21 dX5_between_33 ev11 ?_
      refine wp_iload_n (i := 2) dX5_between_36 rfl rfl ?_
      obtain ⟨v12, ev12, h⟩ := PI.bind h
      refine wp_iaload dX5_between_37 ev12 ?_
      refine wp_icmp_eq (tgt := 43) dX5_between_38 (by decide) (fun c13 => ?_) (fun c13 => ?_)
      · have h := PI.t c13 h
        refine wp_aload_n (i := 0) dX5_between_43 rfl rfl ?_
        obtain ⟨v14, ev14, h⟩ := PI.bind h
        refine wp_getR cl5 (f := 2) (by decide) rfl fl_X5_18 dX5_between_44 ev14 ?_
        refine wp_iload_n (i := 1) dX5_between_47 rfl rfl ?_
        obtain ⟨v15, ev15, h⟩ := PI.bind h
        refine wp_iaload dX5_between_48 ev15 ?_
        refine wp_aload_n (i := 0) dX5_between_49 rfl rfl ?_
        obtain ⟨v16, ev16, h⟩ := PI.bind h
        refine wp_getR cl5 (f := 2) (by decide) rfl fl_X5_18 dX5_between_50 ev16 ?_
        refine wp_iload_n (i := 2) dX5_between_53 rfl rfl ?_
        obtain ⟨v17, ev17, h⟩ := PI.bind h
        refine wp_iaload dX5_between_54 ev17 ?_
        refine wp_icmp_ne (tgt := 62) dX5_between_55 (by decide) (fun c18 => ?_) (fun c18 => ?_)
        · have h := PI.f c18 h
          refine wp_iconst (v := 1) dX5_between_62 (by decide) ?_
          exact wp_iret dX5_between_63 rfl rfl (Nat.le_of_ble_eq_true rfl) (Nat.le_of_ble_eq_true rfl) (PI.some h)
        · have h := PI.t c18 h
          refine wp_iconst (v := 2) dX5_between_58 (by decide) ?_
          refine wp_goto (tgt := 63) dX5_between_59 (by decide) ?_
          exact wp_iret dX5_between_63 rfl rfl (Nat.le_of_ble_eq_true rfl) (Nat.le_of_ble_eq_true rfl) (PI.some h)
      · have h := PI.f c13 h
        refine wp_iconst (v := 0) dX5_between_41 (by decide) ?_
        exact wp_iret dX5_between_42 rfl rfl (Nat.le_of_ble_eq_true rfl) (Nat.le_of_ble_eq_true rfl) (PI.some h)
theorem w_X5_goersAbout_28 {D : DT} {l : Launch} {post : Option Value → Mem → Prop} {m : Mem} {r4 : Nat → Int32 → Int32 → Int32 → Option Int32} (hr4 : ∀ (x0 : Nat) (x1 : Int32) (x2 : Int32) (x3 : Int32), PI m (r4 x0 x1 x2 x3) post → WP D l Y_X5_goersAbout 0 0 4 [.ref x0, .int x1, .int x2, .int x3] [] m post) {x0 : Nat} {x1 : Int32} {x2 : Int32} {x3 : Int32} (h : PI m (F_X5_goersAbout_28 m r4 x0 x1 x2 x3) post) : WP D l Y_X5_goersAbout 0 0 28 [.ref x0, .int x1, .int x2, .int x3] [] m post := by
  refine wp_iinc (v := 1) dX5_goersAbout_28 rfl (by decide) rfl rfl ?_
  refine wp_goto (tgt := 4) dX5_goersAbout_31 (by decide) ?_
  exact (hr4 _ _ _ _ h)
theorem w_X5_goersAbout_4 {D : DT} {l : Launch} {post : Option Value → Mem → Prop} {m : Mem} : ∀ (n : Nat) (x0 : Nat) (x1 : Int32) (x2 : Int32) (x3 : Int32), PI m (F_X5_goersAbout_4 m n x0 x1 x2 x3) post → WP D l Y_X5_goersAbout 0 0 4 [.ref x0, .int x1, .int x2, .int x3] [] m post := by
  intro n
  induction n with
  | zero => intro x0 x1 x2 x3 h; exact (PI.none h).elim
  | succ n ih =>
    intro x0 x1 x2 x3 h
    refine wp_iload_n (i := 3) dX5_goersAbout_4 rfl rfl ?_
    refine wp_aload_n (i := 0) dX5_goersAbout_5 rfl rfl ?_
    obtain ⟨v1, ev1, h⟩ := PI.bind h
    refine wp_getI cl5 (f := 5) (by decide) rfl fl_X5_27 dX5_goersAbout_6 ev1 ?_
    refine wp_icmp_ge (tgt := 34) dX5_goersAbout_9 (by decide) (fun c2 => ?_) (fun c2 => ?_)
    · have h := PI.t c2 h
      refine wp_iload_n (i := 2) dX5_goersAbout_34 rfl rfl ?_
      exact wp_iret dX5_goersAbout_35 rfl rfl (Nat.le_of_ble_eq_true rfl) (Nat.le_of_ble_eq_true rfl) (PI.some h)
    · have h := PI.f c2 h
      refine wp_aload_n (i := 0) dX5_goersAbout_12 rfl rfl ?_
      obtain ⟨v3, ev3, h⟩ := PI.bind h
      refine wp_getR cl5 (f := 1) (by decide) rfl fl_X5_15 dX5_goersAbout_13 ev3 ?_
      refine wp_iload_n (i := 3) dX5_goersAbout_16 rfl rfl ?_
      obtain ⟨v4, ev4, h⟩ := PI.bind h
      refine wp_iaload dX5_goersAbout_17 ev4 ?_
      refine wp_iload_n (i := 1) dX5_goersAbout_18 rfl rfl ?_
      refine wp_icmp_ne (tgt := 28) dX5_goersAbout_19 (by decide) (fun c5 => ?_) (fun c5 => ?_)
      · have h := PI.f c5 h
        exact (w_X5_goersAbout_28 ih h)
      · have h := PI.t c5 h
        refine wp_iload_n (i := 2) dX5_goersAbout_22 rfl rfl ?_
        refine wp_iconst (v := 1) dX5_goersAbout_23 (by decide) ?_
        refine wp_iload_n (i := 3) dX5_goersAbout_24 rfl rfl ?_
        refine wp_ishl dX5_goersAbout_25 ?_
        refine wp_ior dX5_goersAbout_26 ?_
        refine wp_istore_n (i := 2) dX5_goersAbout_27 rfl rfl rfl ?_
        exact (w_X5_goersAbout_28 ih h)
theorem ct_X5_goersAbout {D : DT} {l : Launch} {m : Mem} {x0 : Nat} {x1 : Int32} {r : Int32} (h : F_X5_goersAbout x0 x1 m = some r) : Ct D l Y_X5_goersAbout [.ref x0, .int x1] m (fun (v : Option Value) (N : Mem) => v = some (Value.int r) ∧ N = m) := by
  refine ct_of (by decide) (by rfl) (ls0 := [.ref x0, .int x1, JK, JK]) rfl rfl ?_
  have h : PI m (F_X5_goersAbout x0 x1 m) (fun (v : Option Value) (N : Mem) => v = some (Value.int r) ∧ N = m) := ⟨r, h, rfl, rfl⟩
  revert h
  generalize (fun (v : Option Value) (N : Mem) => v = some (Value.int r) ∧ N = m) = post
  intro h
  refine wp_iconst (v := 0) dX5_goersAbout_0 (by decide) ?_
  refine wp_istore_n (i := 2) dX5_goersAbout_1 rfl rfl rfl ?_
  refine wp_iconst (v := 0) dX5_goersAbout_2 (by decide) ?_
  refine wp_istore_n (i := 3) dX5_goersAbout_3 rfl rfl rfl ?_
  exact (w_X5_goersAbout_4 _ _ _ _ _ h)
theorem ct_X5_day {D : DT} {l : Launch} {m : Mem} {x0 : Nat} {r : Int32} (h : F_X5_day x0 m = some r) : Ct D l Y_X5_day [.ref x0] m (fun (v : Option Value) (N : Mem) => v = some (Value.int r) ∧ N = m) := by
  refine ct_of (by decide) (by rfl) (ls0 := [.ref x0]) rfl rfl ?_
  have h : PI m (F_X5_day x0 m) (fun (v : Option Value) (N : Mem) => v = some (Value.int r) ∧ N = m) := ⟨r, h, rfl, rfl⟩
  revert h
  generalize (fun (v : Option Value) (N : Mem) => v = some (Value.int r) ∧ N = m) = post
  intro h
  refine wp_aload_n (i := 0) dX5_day_0 rfl rfl ?_
  obtain ⟨v1, ev1, h⟩ := PI.bind h
  refine wp_getI cl5 (f := 6) (by decide) rfl fl_X5_31 dX5_day_1 ev1 ?_
  exact wp_iret dX5_day_4 rfl rfl (Nat.le_of_ble_eq_true rfl) (Nat.le_of_ble_eq_true rfl) (PI.some h)
theorem ct_X5_yardsOn {D : DT} {l : Launch} {m : Mem} {x0 : Int32} {x1 : Int32} {x2 : Int32} {r : Int32} (h : F_X5_yardsOn x0 x1 x2 = some r) : Ct D l Y_X5_yardsOn [.int x0, .int x1, .int x2] m (fun (v : Option Value) (N : Mem) => v = some (Value.int r) ∧ N = m) := by
  refine ct_of (by decide) (by rfl) (ls0 := [.int x0, .int x1, .int x2]) rfl rfl ?_
  have h : PI m (F_X5_yardsOn x0 x1 x2) (fun (v : Option Value) (N : Mem) => v = some (Value.int r) ∧ N = m) := ⟨r, h, rfl, rfl⟩
  revert h
  generalize (fun (v : Option Value) (N : Mem) => v = some (Value.int r) ∧ N = m) = post
  intro h
  refine wp_iload_n (i := 1) dX5_yardsOn_0 rfl rfl ?_
  by_cases c1 : x1 = 1
  · have h := PI.t c1 h
    refine wp_tsIn (tgt := 28) (v := 1) (z := 1) (off := 27) dX5_yardsOn_1 c1 (by decide) (by decide) (by decide) (by decide) (by decide) ?_
    refine wp_iload_n (i := 0) dX5_yardsOn_28 rfl rfl ?_
    refine wp_iconst (v := 2) dX5_yardsOn_29 (by decide) ?_
    refine wp_irem dX5_yardsOn_30 (by decide) ?_
    refine wp_if_ne (tgt := 38) dX5_yardsOn_31 (by decide) (fun c2 => ?_) (fun c2 => ?_)
    · have h := PI.f c2 h
      refine wp_iconst (v := 0) dX5_yardsOn_38 (by decide) ?_
      exact wp_iret dX5_yardsOn_39 rfl rfl (Nat.le_of_ble_eq_true rfl) (Nat.le_of_ble_eq_true rfl) (PI.some h)
    · have h := PI.t c2 h
      refine wp_iload_n (i := 2) dX5_yardsOn_34 rfl rfl ?_
      refine wp_goto (tgt := 39) dX5_yardsOn_35 (by decide) ?_
      exact wp_iret dX5_yardsOn_39 rfl rfl (Nat.le_of_ble_eq_true rfl) (Nat.le_of_ble_eq_true rfl) (PI.some h)
  have h := PI.f c1 h
  by_cases c3 : x1 = 2
  · have h := PI.t c3 h
    refine wp_tsIn (tgt := 40) (v := 2) (z := 2) (off := 39) dX5_yardsOn_1 c3 (by decide) (by decide) (by decide) (by decide) (by decide) ?_
    refine wp_iconst (v := 2) dX5_yardsOn_40 (by decide) ?_
    refine wp_iload_n (i := 2) dX5_yardsOn_41 rfl rfl ?_
    refine wp_imul dX5_yardsOn_42 ?_
    exact wp_iret dX5_yardsOn_43 rfl rfl (Nat.le_of_ble_eq_true rfl) (Nat.le_of_ble_eq_true rfl) (PI.some h)
  have h := PI.f c3 h
  by_cases c4 : x1 = 3
  · have h := PI.t c4 h
    refine wp_tsIn (tgt := 44) (v := 3) (z := 3) (off := 43) dX5_yardsOn_1 c4 (by decide) (by decide) (by decide) (by decide) (by decide) ?_
    refine wp_iload_n (i := 0) dX5_yardsOn_44 rfl rfl ?_
    refine wp_iconst (v := 3) dX5_yardsOn_45 (by decide) ?_
    refine wp_irem dX5_yardsOn_46 (by decide) ?_
    refine wp_if_ne (tgt := 56) dX5_yardsOn_47 (by decide) (fun c5 => ?_) (fun c5 => ?_)
    · have h := PI.f c5 h
      refine wp_iload_n (i := 2) dX5_yardsOn_56 rfl rfl ?_
      exact wp_iret dX5_yardsOn_57 rfl rfl (Nat.le_of_ble_eq_true rfl) (Nat.le_of_ble_eq_true rfl) (PI.some h)
    · have h := PI.t c5 h
      refine wp_iload_n (i := 2) dX5_yardsOn_50 rfl rfl ?_
      refine wp_iconst (v := 1) dX5_yardsOn_51 (by decide) ?_
      refine wp_iadd dX5_yardsOn_52 ?_
      refine wp_goto (tgt := 57) dX5_yardsOn_53 (by decide) ?_
      exact wp_iret dX5_yardsOn_57 rfl rfl (Nat.le_of_ble_eq_true rfl) (Nat.le_of_ble_eq_true rfl) (PI.some h)
  have h := PI.f c4 h
  have hz : (x1).toInt < 1 ∨ 3 < (x1).toInt := by
    have nc1 := lv_neT (a := 1) c1 (by decide)
    have nc3 := lv_neT (a := 2) c3 (by decide)
    have nc4 := lv_neT (a := 3) c4 (by decide)
    omega
  refine wp_tsOut (tgt := 58) dX5_yardsOn_1 hz (by decide) ?_
  refine wp_iload_n (i := 2) dX5_yardsOn_58 rfl rfl ?_
  exact wp_iret dX5_yardsOn_59 rfl rfl (Nat.le_of_ble_eq_true rfl) (Nat.le_of_ble_eq_true rfl) (PI.some h)
theorem w_X5_yardBehind_25 {D : DT} {l : Launch} {post : Option Value → Mem → Prop} {m : Mem} : ∀ (n : Nat) (x0 : Nat) (x1 : Int32) (x3 : Int32) (x4 : Int32) (x5 : Int32) (x6 : Int32), PI m (F_X5_yardBehind_25 m n x0 x1 x3 x4 x5 x6) post → WP D l Y_X5_yardBehind 0 0 25 [.ref x0, .int x1, JK, .int x3, .int x4, .int x5, .int x6] [] m post := by
  intro n
  induction n with
  | zero => intro x0 x1 x3 x4 x5 x6 h; exact (PI.none h).elim
  | succ n ih =>
    intro x0 x1 x3 x4 x5 x6 h
    refine wp_iload dX5_yardBehind_25 rfl ?_
    refine wp_iload_n (i := 1) dX5_yardBehind_27 rfl rfl ?_
    refine wp_icmp_ge (tgt := 58) dX5_yardBehind_28 (by decide) (fun c1 => ?_) (fun c1 => ?_)
    · have h := PI.t c1 h
      refine wp_iload dX5_yardBehind_58 rfl ?_
      exact wp_iret dX5_yardBehind_60 rfl rfl (Nat.le_of_ble_eq_true rfl) (Nat.le_of_ble_eq_true rfl) (PI.some h)
    · have h := PI.f c1 h
      refine wp_iload dX5_yardBehind_31 rfl ?_
      refine wp_aload_n (i := 0) dX5_yardBehind_33 rfl rfl ?_
      obtain ⟨v2, ev2, h⟩ := PI.bind h
      refine wp_getI cl5 (f := 6) (by decide) rfl fl_X5_31 dX5_yardBehind_34 ev2 ?_
      refine wp_iload dX5_yardBehind_37 rfl ?_
      refine wp_iadd dX5_yardBehind_39 ?_
      refine wp_iload_n (i := 3) dX5_yardBehind_40 rfl rfl ?_
      refine wp_iload dX5_yardBehind_41 rfl ?_
      obtain ⟨v3, ev3, h⟩ := PI.bind h
      refine cgS_i (Y' := Y_X5_yardsOn) (kc2 := 0) (ks2 := 0) dX5_yardBehind_43 ml_X5_66 ce_X5_yardsOn ⟨(Nat.le_of_ble_eq_true rfl), (Nat.le_of_ble_eq_true rfl)⟩ ⟨(Nat.le_of_ble_eq_true rfl), (Nat.le_of_ble_eq_true rfl)⟩ rfl rfl (ct_X5_yardsOn ev3) rfl rfl (Nat.le_of_ble_eq_true rfl) ?_
      refine wp_iadd dX5_yardBehind_46 ?_
      refine wp_bipush (v := 12) dX5_yardBehind_47 (by decide) ?_
      refine wp_irem dX5_yardBehind_49 (by decide) ?_
      refine wp_istore dX5_yardBehind_50 rfl rfl ?_
      refine wp_iinc (v := 1) dX5_yardBehind_52 rfl (by decide) rfl rfl ?_
      refine wp_goto (tgt := 25) dX5_yardBehind_55 (by decide) ?_
      exact (ih _ _ _ _ _ _ h)
theorem ct_X5_yardBehind {D : DT} {l : Launch} {m : Mem} {x0 : Nat} {x1 : Int32} {x2 : Int32} {x3 : Int32} {x4 : Int32} {r : Int32} (h : F_X5_yardBehind x0 x1 x2 x3 x4 m = some r) : Ct D l Y_X5_yardBehind [.ref x0, .int x1, .int x2, .int x3, .int x4] m (fun (v : Option Value) (N : Mem) => v = some (Value.int r) ∧ N = m) := by
  refine ct_of (by decide) (by rfl) (ls0 := [.ref x0, .int x1, .int x2, .int x3, .int x4, JK, JK]) rfl rfl ?_
  have h : PI m (F_X5_yardBehind x0 x1 x2 x3 x4 m) (fun (v : Option Value) (N : Mem) => v = some (Value.int r) ∧ N = m) := ⟨r, h, rfl, rfl⟩
  revert h
  generalize (fun (v : Option Value) (N : Mem) => v = some (Value.int r) ∧ N = m) = post
  intro h
  refine wp_aload_n (i := 0) dX5_yardBehind_0 rfl rfl ?_
  obtain ⟨v4, ev4, h⟩ := PI.bind h
  refine wp_getR cl5 (f := 3) (by decide) rfl fl_X5_21 dX5_yardBehind_1 ev4 ?_
  refine wp_iload_n (i := 2) dX5_yardBehind_4 rfl rfl ?_
  obtain ⟨v5, ev5, h⟩ := PI.bind h
  refine wp_iaload dX5_yardBehind_5 ev5 ?_
  refine wp_istore dX5_yardBehind_6 rfl rfl ?_
  refine wp_aload_n (i := 0) dX5_yardBehind_8 rfl rfl ?_
  obtain ⟨v6, ev6, h⟩ := PI.bind h
  refine wp_getR cl5 (f := 1) (by decide) rfl fl_X5_15 dX5_yardBehind_9 ev6 ?_
  refine wp_iload_n (i := 2) dX5_yardBehind_12 rfl rfl ?_
  obtain ⟨v7, ev7, h⟩ := PI.bind h
  refine wp_iaload dX5_yardBehind_13 ev7 ?_
  refine wp_bipush (v := -4) dX5_yardBehind_14 (by decide) ?_
  refine wp_icmp_ne (tgt := 22) dX5_yardBehind_16 (by decide) (fun c8 => ?_) (fun c8 => ?_)
  · have h := PI.f c8 h
    refine wp_iconst (v := 0) dX5_yardBehind_22 (by decide) ?_
    refine wp_istore dX5_yardBehind_23 rfl rfl ?_
    exact wp_weak [true, true, false, true, true, true, true] (w_X5_yardBehind_25 _ _ _ _ _ _ _ h)
  · have h := PI.t c8 h
    refine wp_iload dX5_yardBehind_19 rfl ?_
    exact wp_iret dX5_yardBehind_21 rfl rfl (Nat.le_of_ble_eq_true rfl) (Nat.le_of_ble_eq_true rfl) (PI.some h)
theorem w_X5_goRound_2 {D : DT} {l : Launch} {post : Option Value → Mem → Prop} : ∀ (n : Nat) (x0 : Nat) (x1 : Int32) (m : Mem), HV (F_X5_goRound_2 n x0 x1 m) post → WP D l Y_X5_goRound 0 0 2 [.ref x0, .int x1] [] m post := by
  intro n
  induction n with
  | zero => intro x0 x1 m h; exact (HV.none h).elim
  | succ n ih =>
    intro x0 x1 m h
    refine wp_iload_n (i := 1) dX5_goRound_2 rfl rfl ?_
    refine wp_aload_n (i := 0) dX5_goRound_3 rfl rfl ?_
    obtain ⟨v1, ev1, h⟩ := HV.bind h
    refine wp_getI cl5 (f := 5) (by decide) rfl fl_X5_27 dX5_goRound_4 ev1 ?_
    refine wp_icmp_ge (tgt := 40) dX5_goRound_7 (by decide) (fun c2 => ?_) (fun c2 => ?_)
    · have h := HV.t c2 h
      refine wp_aload_n (i := 0) dX5_goRound_40 rfl rfl ?_
      refine wp_dup dX5_goRound_41 rfl ?_
      obtain ⟨v3, ev3, h⟩ := HV.bind h
      refine wp_getI cl5 (f := 6) (by decide) rfl fl_X5_31 dX5_goRound_42 ev3 ?_
      refine wp_iconst (v := 1) dX5_goRound_45 (by decide) ?_
      refine wp_iadd dX5_goRound_46 ?_
      obtain ⟨m4, em4, h⟩ := HV.bind h
      refine wp_putI cl5 (f := 6) (by decide) rfl fl_X5_31 (Or.inl rfl) dX5_goRound_47 em4 ?_
      exact wp_vret dX5_goRound_50 rfl (Nat.le_of_ble_eq_true rfl) (Nat.le_of_ble_eq_true rfl) (HV.some h)
    · have h := HV.f c2 h
      refine wp_aload_n (i := 0) dX5_goRound_10 rfl rfl ?_
      obtain ⟨v5, ev5, h⟩ := HV.bind h
      refine wp_getR cl5 (f := 3) (by decide) rfl fl_X5_21 dX5_goRound_11 ev5 ?_
      refine wp_iload_n (i := 1) dX5_goRound_14 rfl rfl ?_
      refine wp_aload_n (i := 0) dX5_goRound_15 rfl rfl ?_
      refine wp_iconst (v := 1) dX5_goRound_16 (by decide) ?_
      refine wp_iload_n (i := 1) dX5_goRound_17 rfl rfl ?_
      refine wp_aload_n (i := 0) dX5_goRound_18 rfl rfl ?_
      obtain ⟨v6, ev6, h⟩ := HV.bind h
      refine wp_getR cl5 (f := 0) (by decide) rfl fl_X5_9 dX5_goRound_19 ev6 ?_
      refine wp_iload_n (i := 1) dX5_goRound_22 rfl rfl ?_
      obtain ⟨v7, ev7, h⟩ := HV.bind h
      refine wp_iaload dX5_goRound_23 ev7 ?_
      refine wp_aload_n (i := 0) dX5_goRound_24 rfl rfl ?_
      obtain ⟨v8, ev8, h⟩ := HV.bind h
      refine wp_getR cl5 (f := 4) (by decide) rfl fl_X5_24 dX5_goRound_25 ev8 ?_
      refine wp_iload_n (i := 1) dX5_goRound_28 rfl rfl ?_
      obtain ⟨v9, ev9, h⟩ := HV.bind h
      refine wp_iaload dX5_goRound_29 ev9 ?_
      obtain ⟨v11, ev11, h⟩ := HV.bind h
      obtain ⟨v10, ev10, h⟩ := HV.bind h
      refine cgV_i (Y' := Y_X5_yardBehind) (kc2 := 0) (ks2 := 0) dX5_goRound_30 ml_X5_62 ce_X5_yardBehind (t := 5) rfl (by decide) ⟨(Nat.le_of_ble_eq_true rfl), (Nat.le_of_ble_eq_true rfl)⟩ ⟨(Nat.le_of_ble_eq_true rfl), (Nat.le_of_ble_eq_true rfl)⟩ rfl rfl (chkT_eq ev11) (ct_X5_yardBehind ev10) rfl rfl (Nat.le_of_ble_eq_true rfl) ?_
      obtain ⟨m12, em12, h⟩ := HV.bind h
      refine wp_iastore dX5_goRound_33 em12 ?_
      refine wp_iinc (v := 1) dX5_goRound_34 rfl (by decide) rfl rfl ?_
      refine wp_goto (tgt := 2) dX5_goRound_37 (by decide) ?_
      exact (ih _ _ _ h)
theorem ct_X5_goRound {D : DT} {l : Launch} {m : Mem} {x0 : Nat} {r : Mem} (h : F_X5_goRound x0 m = some r) : Ct D l Y_X5_goRound [.ref x0] m (fun (v : Option Value) (N : Mem) => v = none ∧ N = r) := by
  refine ct_of (by decide) (by rfl) (ls0 := [.ref x0, JK]) rfl rfl ?_
  have h : HV (F_X5_goRound x0 m) (fun (v : Option Value) (N : Mem) => v = none ∧ N = r) := ⟨r, h, rfl, rfl⟩
  revert h
  generalize (fun (v : Option Value) (N : Mem) => v = none ∧ N = r) = post
  intro h
  refine wp_iconst (v := 0) dX5_goRound_0 (by decide) ?_
  refine wp_istore_n (i := 1) dX5_goRound_1 rfl rfl rfl ?_
  exact (w_X5_goRound_2 _ _ _ _ h)
theorem w_X5_pairs_40 {D : DT} {l : Launch} {post : Option Value → Mem → Prop} {m : Mem} {r4 : Nat → Int32 → Int32 → Int32 → Option Int32} {r17 : Nat → Int32 → Int32 → Int32 → Int32 → Option Int32} (hr4 : ∀ (x0 : Nat) (x1 : Int32) (x2 : Int32) (x3 : Int32), PI m (r4 x0 x1 x2 x3) post → WP D l Y_X5_pairs 0 0 4 [.ref x0, .int x1, .int x2, .int x3, JK] [] m post) (hr17 : ∀ (x0 : Nat) (x1 : Int32) (x2 : Int32) (x3 : Int32) (x4 : Int32), PI m (r17 x0 x1 x2 x3 x4) post → WP D l Y_X5_pairs 0 0 17 [.ref x0, .int x1, .int x2, .int x3, .int x4] [] m post) {x0 : Nat} {x1 : Int32} {x2 : Int32} {x3 : Int32} {x4 : Int32} (h : PI m (F_X5_pairs_40 m r4 r17 x0 x1 x2 x3 x4) post) : WP D l Y_X5_pairs 0 0 40 [.ref x0, .int x1, .int x2, .int x3, .int x4] [] m post := by
  refine wp_iinc (v := 1) dX5_pairs_40 rfl (by decide) rfl rfl ?_
  refine wp_goto (tgt := 17) dX5_pairs_43 (by decide) ?_
  exact (hr17 _ _ _ _ _ h)
theorem w_X5_pairs_17 {D : DT} {l : Launch} {post : Option Value → Mem → Prop} {m : Mem} {r4 : Nat → Int32 → Int32 → Int32 → Option Int32} (hr4 : ∀ (x0 : Nat) (x1 : Int32) (x2 : Int32) (x3 : Int32), PI m (r4 x0 x1 x2 x3) post → WP D l Y_X5_pairs 0 0 4 [.ref x0, .int x1, .int x2, .int x3, JK] [] m post) : ∀ (n : Nat) (x0 : Nat) (x1 : Int32) (x2 : Int32) (x3 : Int32) (x4 : Int32), PI m (F_X5_pairs_17 m r4 n x0 x1 x2 x3 x4) post → WP D l Y_X5_pairs 0 0 17 [.ref x0, .int x1, .int x2, .int x3, .int x4] [] m post := by
  intro n
  induction n with
  | zero => intro x0 x1 x2 x3 x4 h; exact (PI.none h).elim
  | succ n ih =>
    intro x0 x1 x2 x3 x4 h
    refine wp_iload dX5_pairs_17 rfl ?_
    refine wp_aload_n (i := 0) dX5_pairs_19 rfl rfl ?_
    obtain ⟨v1, ev1, h⟩ := PI.bind h
    refine wp_getI cl5 (f := 5) (by decide) rfl fl_X5_27 dX5_pairs_20 ev1 ?_
    refine wp_icmp_ge (tgt := 46) dX5_pairs_23 (by decide) (fun c2 => ?_) (fun c2 => ?_)
    · have h := PI.t c2 h
      refine wp_iinc (v := 1) dX5_pairs_46 rfl (by decide) rfl rfl ?_
      refine wp_goto (tgt := 4) dX5_pairs_49 (by decide) ?_
      exact wp_weak [true, true, true, true, false] (hr4 _ _ _ _ h)
    · have h := PI.f c2 h
      refine wp_aload_n (i := 0) dX5_pairs_26 rfl rfl ?_
      refine wp_iload_n (i := 3) dX5_pairs_27 rfl rfl ?_
      refine wp_iload dX5_pairs_28 rfl ?_
      obtain ⟨v4, ev4, h⟩ := PI.bind h
      obtain ⟨v3, ev3, h⟩ := PI.bind h
      refine cgV_i (Y' := Y_X5_between) (kc2 := 0) (ks2 := 0) dX5_pairs_30 ml_X5_52 ce_X5_between (t := 5) rfl (by decide) ⟨(Nat.le_of_ble_eq_true rfl), (Nat.le_of_ble_eq_true rfl)⟩ ⟨(Nat.le_of_ble_eq_true rfl), (Nat.le_of_ble_eq_true rfl)⟩ rfl rfl (chkT_eq ev4) (ct_X5_between ev3) rfl rfl (Nat.le_of_ble_eq_true rfl) ?_
      refine wp_iload_n (i := 1) dX5_pairs_33 rfl rfl ?_
      refine wp_icmp_ne (tgt := 40) dX5_pairs_34 (by decide) (fun c5 => ?_) (fun c5 => ?_)
      · have h := PI.f c5 h
        exact (w_X5_pairs_40 hr4 ih h)
      · have h := PI.t c5 h
        refine wp_iinc (v := 1) dX5_pairs_37 rfl (by decide) rfl rfl ?_
        exact (w_X5_pairs_40 hr4 ih h)
theorem w_X5_pairs_4 {D : DT} {l : Launch} {post : Option Value → Mem → Prop} {m : Mem} : ∀ (n : Nat) (x0 : Nat) (x1 : Int32) (x2 : Int32) (x3 : Int32), PI m (F_X5_pairs_4 m n x0 x1 x2 x3) post → WP D l Y_X5_pairs 0 0 4 [.ref x0, .int x1, .int x2, .int x3, JK] [] m post := by
  intro n
  induction n with
  | zero => intro x0 x1 x2 x3 h; exact (PI.none h).elim
  | succ n ih =>
    intro x0 x1 x2 x3 h
    refine wp_iload_n (i := 3) dX5_pairs_4 rfl rfl ?_
    refine wp_aload_n (i := 0) dX5_pairs_5 rfl rfl ?_
    obtain ⟨v6, ev6, h⟩ := PI.bind h
    refine wp_getI cl5 (f := 5) (by decide) rfl fl_X5_27 dX5_pairs_6 ev6 ?_
    refine wp_icmp_ge (tgt := 52) dX5_pairs_9 (by decide) (fun c7 => ?_) (fun c7 => ?_)
    · have h := PI.t c7 h
      refine wp_iload_n (i := 2) dX5_pairs_52 rfl rfl ?_
      exact wp_iret dX5_pairs_53 rfl rfl (Nat.le_of_ble_eq_true rfl) (Nat.le_of_ble_eq_true rfl) (PI.some h)
    · have h := PI.f c7 h
      refine wp_iload_n (i := 3) dX5_pairs_12 rfl rfl ?_
      refine wp_iconst (v := 1) dX5_pairs_13 (by decide) ?_
      refine wp_iadd dX5_pairs_14 ?_
      refine wp_istore dX5_pairs_15 rfl rfl ?_
      exact (w_X5_pairs_17 ih _ _ _ _ _ _ h)
theorem ct_X5_pairs {D : DT} {l : Launch} {m : Mem} {x0 : Nat} {x1 : Int32} {r : Int32} (h : F_X5_pairs x0 x1 m = some r) : Ct D l Y_X5_pairs [.ref x0, .int x1] m (fun (v : Option Value) (N : Mem) => v = some (Value.int r) ∧ N = m) := by
  refine ct_of (by decide) (by rfl) (ls0 := [.ref x0, .int x1, JK, JK, JK]) rfl rfl ?_
  have h : PI m (F_X5_pairs x0 x1 m) (fun (v : Option Value) (N : Mem) => v = some (Value.int r) ∧ N = m) := ⟨r, h, rfl, rfl⟩
  revert h
  generalize (fun (v : Option Value) (N : Mem) => v = some (Value.int r) ∧ N = m) = post
  intro h
  refine wp_iconst (v := 0) dX5_pairs_0 (by decide) ?_
  refine wp_istore_n (i := 2) dX5_pairs_1 rfl rfl rfl ?_
  refine wp_iconst (v := 0) dX5_pairs_2 (by decide) ?_
  refine wp_istore_n (i := 3) dX5_pairs_3 rfl rfl rfl ?_
  exact (w_X5_pairs_4 _ _ _ _ _ h)
theorem w_X5_letDaysGoBy_4 {D : DT} {l : Launch} {post : Option Value → Mem → Prop} : ∀ (n : Nat) (x0 : Nat) (x1 : Int32) (x2 : Int32) (x3 : Int32) (m : Mem), HI (F_X5_letDaysGoBy_4 n x0 x1 x2 x3 m) post → WP D l Y_X5_letDaysGoBy 0 0 4 [.ref x0, .int x1, .int x2, .int x3] [] m post := by
  intro n
  induction n with
  | zero => intro x0 x1 x2 x3 m h; exact (HI.none h).elim
  | succ n ih =>
    intro x0 x1 x2 x3 m h
    refine wp_iload_n (i := 3) dX5_letDaysGoBy_4 rfl rfl ?_
    refine wp_iload_n (i := 1) dX5_letDaysGoBy_5 rfl rfl ?_
    refine wp_icmp_ge (tgt := 27) dX5_letDaysGoBy_6 (by decide) (fun c1 => ?_) (fun c1 => ?_)
    · have h := HI.t c1 h
      refine wp_aload_n (i := 0) dX5_letDaysGoBy_27 rfl rfl ?_
      refine wp_dup dX5_letDaysGoBy_28 rfl ?_
      obtain ⟨v2, ev2, h⟩ := HI.bind h
      refine wp_getI cl5 (f := 7) (by decide) rfl fl_X5_34 dX5_letDaysGoBy_29 ev2 ?_
      refine wp_iload_n (i := 2) dX5_letDaysGoBy_32 rfl rfl ?_
      refine wp_iadd dX5_letDaysGoBy_33 ?_
      obtain ⟨m3, em3, h⟩ := HI.bind h
      refine wp_putI cl5 (f := 7) (by decide) rfl fl_X5_34 (Or.inl rfl) dX5_letDaysGoBy_34 em3 ?_
      refine wp_iload_n (i := 2) dX5_letDaysGoBy_37 rfl rfl ?_
      exact wp_iret dX5_letDaysGoBy_38 rfl rfl (Nat.le_of_ble_eq_true rfl) (Nat.le_of_ble_eq_true rfl) (HI.some h)
    · have h := HI.f c1 h
      refine wp_aload_n (i := 0) dX5_letDaysGoBy_9 rfl rfl ?_
      obtain ⟨v5, ev5, h⟩ := HI.bind h
      obtain ⟨v4, ev4, h⟩ := HI.bind h
      refine cgV_v (Y' := Y_X5_goRound) (kc2 := 0) (ks2 := 0) dX5_letDaysGoBy_10 ml_X5_56 ce_X5_goRound (t := 5) rfl (by decide) ⟨(Nat.le_of_ble_eq_true rfl), (Nat.le_of_ble_eq_true rfl)⟩ ⟨(Nat.le_of_ble_eq_true rfl), (Nat.le_of_ble_eq_true rfl)⟩ rfl rfl (chkT_eq ev5) (ct_X5_goRound ev4) rfl rfl (Nat.le_of_ble_eq_true rfl) ?_
      refine wp_iload_n (i := 2) dX5_letDaysGoBy_13 rfl rfl ?_
      refine wp_aload_n (i := 0) dX5_letDaysGoBy_14 rfl rfl ?_
      refine wp_iconst (v := 2) dX5_letDaysGoBy_15 (by decide) ?_
      obtain ⟨v7, ev7, h⟩ := HI.bind h
      obtain ⟨v6, ev6, h⟩ := HI.bind h
      refine cgV_i (Y' := Y_X5_pairs) (kc2 := 0) (ks2 := 0) dX5_letDaysGoBy_16 ml_X5_59 ce_X5_pairs (t := 5) rfl (by decide) ⟨(Nat.le_of_ble_eq_true rfl), (Nat.le_of_ble_eq_true rfl)⟩ ⟨(Nat.le_of_ble_eq_true rfl), (Nat.le_of_ble_eq_true rfl)⟩ rfl rfl (chkT_eq ev7) (ct_X5_pairs ev6) rfl rfl (Nat.le_of_ble_eq_true rfl) ?_
      refine wp_iadd dX5_letDaysGoBy_19 ?_
      refine wp_istore_n (i := 2) dX5_letDaysGoBy_20 rfl rfl rfl ?_
      refine wp_iinc (v := 1) dX5_letDaysGoBy_21 rfl (by decide) rfl rfl ?_
      refine wp_goto (tgt := 4) dX5_letDaysGoBy_24 (by decide) ?_
      exact (ih _ _ _ _ _ h)
theorem ct_X5_letDaysGoBy {D : DT} {l : Launch} {m : Mem} {x0 : Nat} {x1 : Int32} {r : (Int32 × Mem)} (h : F_X5_letDaysGoBy x0 x1 m = some r) : Ct D l Y_X5_letDaysGoBy [.ref x0, .int x1] m (fun (v : Option Value) (N : Mem) => v = some (Value.int r.1) ∧ N = r.2) := by
  refine ct_of (by decide) (by rfl) (ls0 := [.ref x0, .int x1, JK, JK]) rfl rfl ?_
  have h : HI (F_X5_letDaysGoBy x0 x1 m) (fun (v : Option Value) (N : Mem) => v = some (Value.int r.1) ∧ N = r.2) := ⟨r.1, r.2, h, rfl, rfl⟩
  revert h
  generalize (fun (v : Option Value) (N : Mem) => v = some (Value.int r.1) ∧ N = r.2) = post
  intro h
  refine wp_iconst (v := 0) dX5_letDaysGoBy_0 (by decide) ?_
  refine wp_istore_n (i := 2) dX5_letDaysGoBy_1 rfl rfl rfl ?_
  refine wp_iconst (v := 0) dX5_letDaysGoBy_2 (by decide) ?_
  refine wp_istore_n (i := 3) dX5_letDaysGoBy_3 rfl rfl rfl ?_
  exact (w_X5_letDaysGoBy_4 _ _ _ _ _ _ h)
theorem ct_X5_hangWreath {D : DT} {l : Launch} {m : Mem} {x0 : Nat} {x1 : Int32} {x2 : Int32} {x3 : Int32} {r : Mem} (h : F_X5_hangWreath x0 x1 x2 x3 m = some r) : Ct D l Y_X5_hangWreath [.ref x0, .int x1, .int x2, .int x3] m (fun (v : Option Value) (N : Mem) => v = none ∧ N = r) := by
  refine ct_of (by decide) (by rfl) (ls0 := [.ref x0, .int x1, .int x2, .int x3]) rfl rfl ?_
  have h : HV (F_X5_hangWreath x0 x1 x2 x3 m) (fun (v : Option Value) (N : Mem) => v = none ∧ N = r) := ⟨r, h, rfl, rfl⟩
  revert h
  generalize (fun (v : Option Value) (N : Mem) => v = none ∧ N = r) = post
  intro h
  refine wp_aload_n (i := 0) dX5_hangWreath_0 rfl rfl ?_
  obtain ⟨v1, ev1, h⟩ := HV.bind h
  refine wp_getR cl5 (f := 1) (by decide) rfl fl_X5_15 dX5_hangWreath_1 ev1 ?_
  refine wp_iload_n (i := 1) dX5_hangWreath_4 rfl rfl ?_
  refine wp_iload_n (i := 2) dX5_hangWreath_5 rfl rfl ?_
  obtain ⟨m2, em2, h⟩ := HV.bind h
  refine wp_iastore dX5_hangWreath_6 em2 ?_
  refine wp_aload_n (i := 0) dX5_hangWreath_7 rfl rfl ?_
  obtain ⟨v3, ev3, h⟩ := HV.bind h
  refine wp_getR cl5 (f := 2) (by decide) rfl fl_X5_18 dX5_hangWreath_8 ev3 ?_
  refine wp_iload_n (i := 1) dX5_hangWreath_11 rfl rfl ?_
  refine wp_iload_n (i := 3) dX5_hangWreath_12 rfl rfl ?_
  obtain ⟨m4, em4, h⟩ := HV.bind h
  refine wp_iastore dX5_hangWreath_13 em4 ?_
  exact wp_vret dX5_hangWreath_14 rfl (Nat.le_of_ble_eq_true rfl) (Nat.le_of_ble_eq_true rfl) (HV.some h)
theorem ct_X5_setPace {D : DT} {l : Launch} {m : Mem} {x0 : Nat} {x1 : Int32} {x2 : Int32} {r : Mem} (h : F_X5_setPace x0 x1 x2 m = some r) : Ct D l Y_X5_setPace [.ref x0, .int x1, .int x2] m (fun (v : Option Value) (N : Mem) => v = none ∧ N = r) := by
  refine ct_of (by decide) (by rfl) (ls0 := [.ref x0, .int x1, .int x2]) rfl rfl ?_
  have h : HV (F_X5_setPace x0 x1 x2 m) (fun (v : Option Value) (N : Mem) => v = none ∧ N = r) := ⟨r, h, rfl, rfl⟩
  revert h
  generalize (fun (v : Option Value) (N : Mem) => v = none ∧ N = r) = post
  intro h
  refine wp_aload_n (i := 0) dX5_setPace_0 rfl rfl ?_
  obtain ⟨v1, ev1, h⟩ := HV.bind h
  refine wp_getR cl5 (f := 4) (by decide) rfl fl_X5_24 dX5_setPace_1 ev1 ?_
  refine wp_iload_n (i := 1) dX5_setPace_4 rfl rfl ?_
  refine wp_iload_n (i := 2) dX5_setPace_5 rfl rfl ?_
  obtain ⟨m2, em2, h⟩ := HV.bind h
  refine wp_iastore dX5_setPace_6 em2 ?_
  exact wp_vret dX5_setPace_7 rfl (Nat.le_of_ble_eq_true rfl) (Nat.le_of_ble_eq_true rfl) (HV.some h)
theorem ct_X5_shareWreath {D : DT} {l : Launch} {m : Mem} {x0 : Nat} {x1 : Int32} {x2 : Int32} {r : Int32} (h : F_X5_shareWreath x0 x1 x2 m = some r) : Ct D l Y_X5_shareWreath [.ref x0, .int x1, .int x2] m (fun (v : Option Value) (N : Mem) => v = some (Value.int r) ∧ N = m) := by
  refine ct_of (by decide) (by rfl) (ls0 := [.ref x0, .int x1, .int x2]) rfl rfl ?_
  have h : PI m (F_X5_shareWreath x0 x1 x2 m) (fun (v : Option Value) (N : Mem) => v = some (Value.int r) ∧ N = m) := ⟨r, h, rfl, rfl⟩
  revert h
  generalize (fun (v : Option Value) (N : Mem) => v = some (Value.int r) ∧ N = m) = post
  intro h
  refine wp_aload_n (i := 0) dX5_shareWreath_0 rfl rfl ?_
  obtain ⟨v1, ev1, h⟩ := PI.bind h
  refine wp_getR cl5 (f := 1) (by decide) rfl fl_X5_15 dX5_shareWreath_1 ev1 ?_
  refine wp_iload_n (i := 1) dX5_shareWreath_4 rfl rfl ?_
  obtain ⟨v2, ev2, h⟩ := PI.bind h
  refine wp_iaload dX5_shareWreath_5 ev2 ?_
  refine wp_bipush (v := -4) dX5_shareWreath_6 (by decide) ?_
  refine wp_icmp_eq (tgt := 45) dX5_shareWreath_8 (by decide) (fun c3 => ?_) (fun c3 => ?_)
  · have h := PI.t c3 h
    refine wp_iconst (v := 0) dX5_shareWreath_45 (by decide) ?_
    exact wp_iret dX5_shareWreath_46 rfl (by decide) (Nat.le_of_ble_eq_true rfl) (Nat.le_of_ble_eq_true rfl) (PI.some h)
  · have h := PI.f c3 h
    refine wp_aload_n (i := 0) dX5_shareWreath_11 rfl rfl ?_
    obtain ⟨v4, ev4, h⟩ := PI.bind h
    refine wp_getR cl5 (f := 1) (by decide) rfl fl_X5_15 dX5_shareWreath_12 ev4 ?_
    refine wp_iload_n (i := 1) dX5_shareWreath_15 rfl rfl ?_
    obtain ⟨v5, ev5, h⟩ := PI.bind h
    refine wp_iaload dX5_shareWreath_16 ev5 ?_
    refine wp_aload_n (i := 0) dX5_shareWreath_17 rfl rfl ?_
    obtain ⟨v6, ev6, h⟩ := PI.bind h
    refine wp_getR cl5 (f := 1) (by decide) rfl fl_X5_15 dX5_shareWreath_18 ev6 ?_
    refine wp_iload_n (i := 2) dX5_shareWreath_21 rfl rfl ?_
    obtain ⟨v7, ev7, h⟩ := PI.bind h
    refine wp_iaload dX5_shareWreath_22 ev7 ?_
    refine wp_icmp_ne (tgt := 45) dX5_shareWreath_23 (by decide) (fun c8 => ?_) (fun c8 => ?_)
    · have h := PI.f c8 h
      refine wp_iconst (v := 0) dX5_shareWreath_45 (by decide) ?_
      exact wp_iret dX5_shareWreath_46 rfl (by decide) (Nat.le_of_ble_eq_true rfl) (Nat.le_of_ble_eq_true rfl) (PI.some h)
    · have h := PI.t c8 h
      refine wp_aload_n (i := 0) dX5_shareWreath_26 rfl rfl ?_
      obtain ⟨v9, ev9, h⟩ := PI.bind h
      refine wp_getR cl5 (f := 2) (by decide) rfl fl_X5_18 dX5_shareWreath_27 ev9 ?_
      refine wp_iload_n (i := 1) dX5_shareWreath_30 rfl rfl ?_
      obtain ⟨v10, ev10, h⟩ := PI.bind h
      refine wp_iaload dX5_shareWreath_31 ev10 ?_
      refine wp_aload_n (i := 0) dX5_shareWreath_32 rfl rfl ?_
      obtain ⟨v11, ev11, h⟩ := PI.bind h
      refine wp_getR cl5 (f := 2) (by decide) rfl fl_X5_18 dX5_shareWreath_33 ev11 ?_
      refine wp_iload_n (i := 2) dX5_shareWreath_36 rfl rfl ?_
      obtain ⟨v12, ev12, h⟩ := PI.bind h
      refine wp_iaload dX5_shareWreath_37 ev12 ?_
      refine wp_icmp_ne (tgt := 45) dX5_shareWreath_38 (by decide) (fun c13 => ?_) (fun c13 => ?_)
      · have h := PI.f c13 h
        refine wp_iconst (v := 0) dX5_shareWreath_45 (by decide) ?_
        exact wp_iret dX5_shareWreath_46 rfl (by decide) (Nat.le_of_ble_eq_true rfl) (Nat.le_of_ble_eq_true rfl) (PI.some h)
      · have h := PI.t c13 h
        refine wp_iconst (v := 1) dX5_shareWreath_41 (by decide) ?_
        refine wp_goto (tgt := 46) dX5_shareWreath_42 (by decide) ?_
        exact wp_iret dX5_shareWreath_46 rfl (by decide) (Nat.le_of_ble_eq_true rfl) (Nat.le_of_ble_eq_true rfl) (PI.some h)
theorem ct_X5_stir {D : DT} {l : Launch} {m : Mem} {x0 : Nat} {x1 : Int32} {r : Mem} (h : F_X5_stir x0 x1 m = some r) : Ct D l Y_X5_stir [.ref x0, .int x1] m (fun (v : Option Value) (N : Mem) => v = none ∧ N = r) := by
  refine ct_of (by decide) (by rfl) (ls0 := [.ref x0, .int x1, JK]) rfl rfl ?_
  have h : HV (F_X5_stir x0 x1 m) (fun (v : Option Value) (N : Mem) => v = none ∧ N = r) := ⟨r, h, rfl, rfl⟩
  revert h
  generalize (fun (v : Option Value) (N : Mem) => v = none ∧ N = r) = post
  intro h
  refine wp_aload_n (i := 0) dX5_stir_0 rfl rfl ?_
  obtain ⟨v1, ev1, h⟩ := HV.bind h
  refine wp_getI cl5 (f := 5) (by decide) rfl fl_X5_27 dX5_stir_1 ev1 ?_
  refine wp_iconst (v := 1) dX5_stir_4 (by decide) ?_
  refine wp_icmp_ge (tgt := 9) dX5_stir_5 (by decide) (fun c2 => ?_) (fun c2 => ?_)
  · have h := HV.t c2 h
    refine wp_iload_n (i := 1) dX5_stir_9 rfl rfl ?_
    refine wp_aload_n (i := 0) dX5_stir_10 rfl rfl ?_
    obtain ⟨v3, ev3, h⟩ := HV.bind h
    refine wp_getI cl5 (f := 5) (by decide) rfl fl_X5_27 dX5_stir_11 ev3 ?_
    have c4 : ¬ v3 = 0 := fun q => (HV.none (HV.t q h)).elim
    have h := HV.f c4 h
    refine wp_irem dX5_stir_14 c4 ?_
    refine wp_istore_n (i := 2) dX5_stir_15 rfl rfl rfl ?_
    refine wp_iload_n (i := 1) dX5_stir_16 rfl rfl ?_
    refine wp_bipush (v := 8) dX5_stir_17 (by decide) ?_
    refine wp_idiv dX5_stir_19 (by decide) ?_
    refine wp_bipush (v := 6) dX5_stir_20 (by decide) ?_
    refine wp_irem dX5_stir_22 (by decide) ?_
    by_cases c5 : (jrem (x1 / (8 : Int32)) (6 : Int32)) = 0
    · have h := HV.t c5 h
      refine wp_tsIn (tgt := 48) (v := 0) (z := 0) (off := 25) dX5_stir_23 c5 (by decide) (by decide) (by decide) (by decide) (by decide) ?_
      refine wp_aload_n (i := 0) dX5_stir_48 rfl rfl ?_
      refine wp_iload_n (i := 2) dX5_stir_49 rfl rfl ?_
      refine wp_iload_n (i := 1) dX5_stir_50 rfl rfl ?_
      refine wp_bipush (v := 64) dX5_stir_51 (by decide) ?_
      refine wp_idiv dX5_stir_53 (by decide) ?_
      refine wp_bipush (v := 6) dX5_stir_54 (by decide) ?_
      refine wp_irem dX5_stir_56 (by decide) ?_
      refine wp_iload_n (i := 1) dX5_stir_57 rfl rfl ?_
      refine wp_sipush (v := 512) dX5_stir_58 (by decide) ?_
      refine wp_idiv dX5_stir_61 (by decide) ?_
      refine wp_bipush (v := 9) dX5_stir_62 (by decide) ?_
      refine wp_irem dX5_stir_64 (by decide) ?_
      refine wp_iconst (v := 1) dX5_stir_65 (by decide) ?_
      refine wp_iadd dX5_stir_66 ?_
      obtain ⟨v7, ev7, h⟩ := HV.bind h
      obtain ⟨v6, ev6, h⟩ := HV.bind h
      refine cgV_v (Y' := Y_X5_hangWreath) (kc2 := 0) (ks2 := 0) dX5_stir_67 ml_X5_70 ce_X5_hangWreath (t := 5) rfl (by decide) ⟨(Nat.le_of_ble_eq_true rfl), (Nat.le_of_ble_eq_true rfl)⟩ ⟨(Nat.le_of_ble_eq_true rfl), (Nat.le_of_ble_eq_true rfl)⟩ rfl rfl (chkT_eq ev7) (ct_X5_hangWreath ev6) rfl rfl (Nat.le_of_ble_eq_true rfl) ?_
      refine wp_goto (tgt := 100) dX5_stir_70 (by decide) ?_
      exact wp_vret dX5_stir_100 rfl (Nat.le_of_ble_eq_true rfl) (Nat.le_of_ble_eq_true rfl) (HV.some h)
    have h := HV.f c5 h
    by_cases c8 : (jrem (x1 / (8 : Int32)) (6 : Int32)) = 1
    · have h := HV.t c8 h
      refine wp_tsIn (tgt := 73) (v := 1) (z := 1) (off := 50) dX5_stir_23 c8 (by decide) (by decide) (by decide) (by decide) (by decide) ?_
      refine wp_aload_n (i := 0) dX5_stir_73 rfl rfl ?_
      refine wp_iload_n (i := 2) dX5_stir_74 rfl rfl ?_
      refine wp_bipush (v := -4) dX5_stir_75 (by decide) ?_
      refine wp_bipush (v := -4) dX5_stir_77 (by decide) ?_
      obtain ⟨v10, ev10, h⟩ := HV.bind h
      obtain ⟨v9, ev9, h⟩ := HV.bind h
      refine cgV_v (Y' := Y_X5_hangWreath) (kc2 := 0) (ks2 := 0) dX5_stir_79 ml_X5_70 ce_X5_hangWreath (t := 5) rfl (by decide) ⟨(Nat.le_of_ble_eq_true rfl), (Nat.le_of_ble_eq_true rfl)⟩ ⟨(Nat.le_of_ble_eq_true rfl), (Nat.le_of_ble_eq_true rfl)⟩ rfl rfl (chkT_eq ev10) (ct_X5_hangWreath ev9) rfl rfl (Nat.le_of_ble_eq_true rfl) ?_
      refine wp_goto (tgt := 100) dX5_stir_82 (by decide) ?_
      exact wp_vret dX5_stir_100 rfl (Nat.le_of_ble_eq_true rfl) (Nat.le_of_ble_eq_true rfl) (HV.some h)
    have h := HV.f c8 h
    by_cases c11 : (jrem (x1 / (8 : Int32)) (6 : Int32)) = 2
    · have h := HV.t c11 h
      refine wp_tsIn (tgt := 85) (v := 2) (z := 2) (off := 62) dX5_stir_23 c11 (by decide) (by decide) (by decide) (by decide) (by decide) ?_
      refine wp_aload_n (i := 0) dX5_stir_85 rfl rfl ?_
      refine wp_iload_n (i := 2) dX5_stir_86 rfl rfl ?_
      refine wp_iload_n (i := 1) dX5_stir_87 rfl rfl ?_
      refine wp_bipush (v := 64) dX5_stir_88 (by decide) ?_
      refine wp_idiv dX5_stir_90 (by decide) ?_
      refine wp_bipush (v := 12) dX5_stir_91 (by decide) ?_
      refine wp_irem dX5_stir_93 (by decide) ?_
      obtain ⟨v13, ev13, h⟩ := HV.bind h
      obtain ⟨v12, ev12, h⟩ := HV.bind h
      refine cgV_v (Y' := Y_X5_setPace) (kc2 := 0) (ks2 := 0) dX5_stir_94 ml_X5_74 ce_X5_setPace (t := 5) rfl (by decide) ⟨(Nat.le_of_ble_eq_true rfl), (Nat.le_of_ble_eq_true rfl)⟩ ⟨(Nat.le_of_ble_eq_true rfl), (Nat.le_of_ble_eq_true rfl)⟩ rfl rfl (chkT_eq ev13) (ct_X5_setPace ev12) rfl rfl (Nat.le_of_ble_eq_true rfl) ?_
      refine wp_goto (tgt := 100) dX5_stir_97 (by decide) ?_
      exact wp_vret dX5_stir_100 rfl (Nat.le_of_ble_eq_true rfl) (Nat.le_of_ble_eq_true rfl) (HV.some h)
    have h := HV.f c11 h
    have hz : ((jrem (x1 / (8 : Int32)) (6 : Int32))).toInt < 0 ∨ 2 < ((jrem (x1 / (8 : Int32)) (6 : Int32))).toInt := by
      have nc5 := lv_neT (a := 0) c5 (by decide)
      have nc8 := lv_neT (a := 1) c8 (by decide)
      have nc11 := lv_neT (a := 2) c11 (by decide)
      omega
    refine wp_tsOut (tgt := 100) dX5_stir_23 hz (by decide) ?_
    exact wp_vret dX5_stir_100 rfl (Nat.le_of_ble_eq_true rfl) (Nat.le_of_ble_eq_true rfl) (HV.some h)
  · have h := HV.f c2 h
    exact wp_vret dX5_stir_8 rfl (Nat.le_of_ble_eq_true rfl) (Nat.le_of_ble_eq_true rfl) (HV.some h)
theorem ct_X5_goers {D : DT} {l : Launch} {m : Mem} {x0 : Nat} {r : Int32} (h : F_X5_goers x0 m = some r) : Ct D l Y_X5_goers [.ref x0] m (fun (v : Option Value) (N : Mem) => v = some (Value.int r) ∧ N = m) := by
  refine ct_of (by decide) (by rfl) (ls0 := [.ref x0]) rfl rfl ?_
  have h : PI m (F_X5_goers x0 m) (fun (v : Option Value) (N : Mem) => v = some (Value.int r) ∧ N = m) := ⟨r, h, rfl, rfl⟩
  revert h
  generalize (fun (v : Option Value) (N : Mem) => v = some (Value.int r) ∧ N = m) = post
  intro h
  refine wp_aload_n (i := 0) dX5_goers_0 rfl rfl ?_
  obtain ⟨v1, ev1, h⟩ := PI.bind h
  refine wp_getI cl5 (f := 5) (by decide) rfl fl_X5_27 dX5_goers_1 ev1 ?_
  refine wp_aload_n (i := 0) dX5_goers_4 rfl rfl ?_
  refine wp_bipush (v := -4) dX5_goers_5 (by decide) ?_
  obtain ⟨v3, ev3, h⟩ := PI.bind h
  obtain ⟨v2, ev2, h⟩ := PI.bind h
  refine cgV_i (Y' := Y_X5_goersAbout) (kc2 := 0) (ks2 := 0) dX5_goers_7 ml_X5_43 ce_X5_goersAbout (t := 5) rfl (by decide) ⟨(Nat.le_of_ble_eq_true rfl), (Nat.le_of_ble_eq_true rfl)⟩ ⟨(Nat.le_of_ble_eq_true rfl), (Nat.le_of_ble_eq_true rfl)⟩ rfl rfl (chkT_eq ev3) (ct_X5_goersAbout ev2) rfl rfl (Nat.le_of_ble_eq_true rfl) ?_
  obtain ⟨v4, ev4, h⟩ := PI.bind h
  refine cgS_i (Y' := Y_J6_bitCount) (kc2 := 0) (ks2 := 0) dX5_goers_10 ml_X5_47 ce_J6_bitCount ⟨(Nat.le_of_ble_eq_true rfl), (Nat.le_of_ble_eq_true rfl)⟩ ⟨(Nat.le_of_ble_eq_true rfl), (Nat.le_of_ble_eq_true rfl)⟩ rfl rfl (ct_J6_bitCount ev4) rfl rfl (Nat.le_of_ble_eq_true rfl) ?_
  refine wp_isub dX5_goers_13 ?_
  exact wp_iret dX5_goers_14 rfl rfl (Nat.le_of_ble_eq_true rfl) (Nat.le_of_ble_eq_true rfl) (PI.some h)
theorem w_X5_yardsAdded_4 {D : DT} {l : Launch} {post : Option Value → Mem → Prop} {m : Mem} : ∀ (n : Nat) (x0 : Nat) (x1 : Int32) (x2 : Int32), PI m (F_X5_yardsAdded_4 m n x0 x1 x2) post → WP D l Y_X5_yardsAdded 0 0 4 [.ref x0, .int x1, .int x2] [] m post := by
  intro n
  induction n with
  | zero => intro x0 x1 x2 h; exact (PI.none h).elim
  | succ n ih =>
    intro x0 x1 x2 h
    refine wp_iload_n (i := 2) dX5_yardsAdded_4 rfl rfl ?_
    refine wp_aload_n (i := 0) dX5_yardsAdded_5 rfl rfl ?_
    obtain ⟨v1, ev1, h⟩ := PI.bind h
    refine wp_getI cl5 (f := 5) (by decide) rfl fl_X5_27 dX5_yardsAdded_6 ev1 ?_
    refine wp_icmp_ge (tgt := 27) dX5_yardsAdded_9 (by decide) (fun c2 => ?_) (fun c2 => ?_)
    · have h := PI.t c2 h
      refine wp_iload_n (i := 1) dX5_yardsAdded_27 rfl rfl ?_
      exact wp_iret dX5_yardsAdded_28 rfl rfl (Nat.le_of_ble_eq_true rfl) (Nat.le_of_ble_eq_true rfl) (PI.some h)
    · have h := PI.f c2 h
      refine wp_iload_n (i := 1) dX5_yardsAdded_12 rfl rfl ?_
      refine wp_aload_n (i := 0) dX5_yardsAdded_13 rfl rfl ?_
      obtain ⟨v3, ev3, h⟩ := PI.bind h
      refine wp_getR cl5 (f := 3) (by decide) rfl fl_X5_21 dX5_yardsAdded_14 ev3 ?_
      refine wp_iload_n (i := 2) dX5_yardsAdded_17 rfl rfl ?_
      obtain ⟨v4, ev4, h⟩ := PI.bind h
      refine wp_iaload dX5_yardsAdded_18 ev4 ?_
      refine wp_iadd dX5_yardsAdded_19 ?_
      refine wp_istore_n (i := 1) dX5_yardsAdded_20 rfl rfl rfl ?_
      refine wp_iinc (v := 1) dX5_yardsAdded_21 rfl (by decide) rfl rfl ?_
      refine wp_goto (tgt := 4) dX5_yardsAdded_24 (by decide) ?_
      exact (ih _ _ _ h)
theorem ct_X5_yardsAdded {D : DT} {l : Launch} {m : Mem} {x0 : Nat} {r : Int32} (h : F_X5_yardsAdded x0 m = some r) : Ct D l Y_X5_yardsAdded [.ref x0] m (fun (v : Option Value) (N : Mem) => v = some (Value.int r) ∧ N = m) := by
  refine ct_of (by decide) (by rfl) (ls0 := [.ref x0, JK, JK]) rfl rfl ?_
  have h : PI m (F_X5_yardsAdded x0 m) (fun (v : Option Value) (N : Mem) => v = some (Value.int r) ∧ N = m) := ⟨r, h, rfl, rfl⟩
  revert h
  generalize (fun (v : Option Value) (N : Mem) => v = some (Value.int r) ∧ N = m) = post
  intro h
  refine wp_iconst (v := 0) dX5_yardsAdded_0 (by decide) ?_
  refine wp_istore_n (i := 1) dX5_yardsAdded_1 rfl rfl rfl ?_
  refine wp_iconst (v := 0) dX5_yardsAdded_2 (by decide) ?_
  refine wp_istore_n (i := 2) dX5_yardsAdded_3 rfl rfl rfl ?_
  exact (w_X5_yardsAdded_4 _ _ _ _ h)
theorem ct_X5_meetings {D : DT} {l : Launch} {m : Mem} {x0 : Nat} {r : Int32} (h : F_X5_meetings x0 m = some r) : Ct D l Y_X5_meetings [.ref x0] m (fun (v : Option Value) (N : Mem) => v = some (Value.int r) ∧ N = m) := by
  refine ct_of (by decide) (by rfl) (ls0 := [.ref x0]) rfl rfl ?_
  have h : PI m (F_X5_meetings x0 m) (fun (v : Option Value) (N : Mem) => v = some (Value.int r) ∧ N = m) := ⟨r, h, rfl, rfl⟩
  revert h
  generalize (fun (v : Option Value) (N : Mem) => v = some (Value.int r) ∧ N = m) = post
  intro h
  refine wp_aload_n (i := 0) dX5_meetings_0 rfl rfl ?_
  obtain ⟨v1, ev1, h⟩ := PI.bind h
  refine wp_getI cl5 (f := 7) (by decide) rfl fl_X5_34 dX5_meetings_1 ev1 ?_
  exact wp_iret dX5_meetings_4 rfl rfl (Nat.le_of_ble_eq_true rfl) (Nat.le_of_ble_eq_true rfl) (PI.some h)
