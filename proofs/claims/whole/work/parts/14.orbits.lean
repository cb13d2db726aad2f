def F_X6_init_116 : Nat → Nat → Int32 → Mem → Option Mem
  | 0 => fun _ _ _ => none
  | n + 1 => fun x0 x1 m =>
  (aLen m 2).bind fun v1 =>
  (if v1 ≤ (x1 + (4 : Int32)) then
  (some m)
  else
  (fR m 6 x0 1).bind fun v3 =>
  (ldI m 2 x1).bind fun v4 =>
  (ldI m 2 (x1 + (1 : Int32))).bind fun v5 =>
  (ldI m 2 (x1 + (2 : Int32))).bind fun v6 =>
  (ldI m 2 (x1 + (3 : Int32))).bind fun v7 =>
  (ldI m 2 (x1 + (4 : Int32))).bind fun v8 =>
  (chkT m 5 v3).bind fun v10 =>
  (F_X5_settle v3 v4 v5 v6 v7 v8 m).bind fun v9 =>
  ((F_X6_init_116 n) x0 (x1 + 5) v9))
def F_X6_init (x0 : Nat) (m : Mem) : Option Mem :=
  (chkT m 6 x0).bind fun v11 =>
  (chkT (mNew m 3 3) 3 (mN m)).bind fun v13 =>
  (F_X3_init (mN m) (mNew m 3 3)).bind fun v12 =>
  (pR v12 6 x0 0 (mN m)).bind fun m14 =>
  (chkT (mNew m14 5 8) 5 (mN m14)).bind fun v16 =>
  (F_X5_init (mN m14) (mNew m14 5 8)).bind fun v15 =>
  (pR v15 6 x0 1 (mN m14)).bind fun m17 =>
  (chkT (mNew m17 5 8) 5 (mN m17)).bind fun v19 =>
  (F_X5_init (mN m17) (mNew m17 5 8)).bind fun v18 =>
  (pR v18 6 x0 2 (mN m17)).bind fun m20 =>
  (chkT (mNew m20 2 2) 2 (mN m20)).bind fun v22 =>
  (F_X2_init (mN m20) (8 : Int32) (mNew m20 2 2)).bind fun v21 =>
  (pR v21 6 x0 3 (mN m20)).bind fun m23 =>
  (chkT (mNew m23 2 2) 2 (mN m23)).bind fun v25 =>
  (F_X2_init (mN m23) (2 : Int32) (mNew m23 2 2)).bind fun v24 =>
  (pR v24 6 x0 4 (mN m23)).bind fun m26 =>
  (chkT (mNew m26 1 4) 1 (mN m26)).bind fun v28 =>
  (F_X1_init (mN m26) (mNew m26 1 4)).bind fun v27 =>
  (pR v27 6 x0 5 (mN m26)).bind fun m29 =>
  (chkT (mNew m29 1 4) 1 (mN m29)).bind fun v31 =>
  (F_X1_init (mN m29) (mNew m29 1 4)).bind fun v30 =>
  (pR v30 6 x0 6 (mN m29)).bind fun m32 =>
  (chkT (mNew m32 4 4) 4 (mN m32)).bind fun v34 =>
  (F_X4_init (mN m32) (mNew m32 4 4)).bind fun v33 =>
  (pR v33 6 x0 7 (mN m32)).bind fun m35 =>
  (chkT (mNew m35 0 2) 0 (mN m35)).bind fun v37 =>
  (F_X0_init (mN m35) (mNew m35 0 2)).bind fun v36 =>
  (pR v36 6 x0 8 (mN m35)).bind fun m38 =>
  (pR (mNew m38 10 13) 6 x0 9 (mN m38)).bind fun m39 =>
  (F_X6_init_116 FU x0 (0 : Int32) m39)
def F_X6_write (x0 : Nat) (x1 : Int32) (m : Mem) : Option (Int32 × Mem) :=
  (F_X6_outside x1 (32 : Int32) (126 : Int32)).bind fun v1 =>
  (if v1 = 0 then
  (fR m 6 x0 0).bind fun v3 =>
  (chkT m 3 v3).bind fun v5 =>
  (F_X3_append v3 (jchar x1) m).bind fun v4 =>
  (if v4.1 = 0 then
  (some ((-3 : Int32), v4.2))
  else
  (fR v4.2 6 x0 0).bind fun v7 =>
  (chkT v4.2 3 v7).bind fun v9 =>
  (F_X3_length v7 v4.2).bind fun v8 =>
  (some (v8, v4.2)))
  else
  (some ((-1 : Int32), m)))
def F_X6_wipe (x0 : Nat) (m : Mem) : Option (Int32 × Mem) :=
  (fR m 6 x0 0).bind fun v1 =>
  (chkT m 3 v1).bind fun v3 =>
  (F_X3_empty v1 m).bind fun v2 =>
  (some (v2.1, v2.2))
def F_X6_fault (x0 : Nat) (m : Mem) : Option (Int32 × Mem) :=
  (fR m 6 x0 0).bind fun v1 =>
  (fR m 6 x0 2).bind fun v2 =>
  (chkT m 3 v1).bind fun v4 =>
  (F_X3_readInto v1 v2 m).bind fun v3 =>
  (some (v3.1, v3.2))
def F_X6_lay (x0 : Nat) (m : Mem) : Option (Int32 × Mem) :=
  (fR m 6 x0 0).bind fun v1 =>
  (fR m 6 x0 2).bind fun v2 =>
  (chkT m 3 v1).bind fun v4 =>
  (F_X3_readInto v1 v2 m).bind fun v3 =>
  (if v3.1 = (-4 : Int32) then
  (fR v3.2 6 x0 2).bind fun v6 =>
  (chkT v3.2 5 v6).bind fun v8 =>
  (F_X5_size v6 v3.2).bind fun v7 =>
  (if v7 = 0 then
  (some ((-2 : Int32), v3.2))
  else
  (fR v3.2 6 x0 1).bind fun v10 =>
  (fR v3.2 6 x0 2).bind fun v11 =>
  (chkT v3.2 5 v10).bind fun v13 =>
  (F_X5_become v10 v11 v3.2).bind fun v12 =>
  (fR v12 6 x0 5).bind fun v14 =>
  (chkT v12 1 v14).bind fun v16 =>
  (F_X1_empty v14 v12).bind fun v15 =>
  (fR v15.2 6 x0 6).bind fun v17 =>
  (chkT v15.2 1 v17).bind fun v19 =>
  (F_X1_empty v17 v15.2).bind fun v18 =>
  (fR v18.2 6 x0 3).bind fun v20 =>
  (chkT v18.2 2 v20).bind fun v22 =>
  (F_X2_empty v20 v18.2).bind fun v21 =>
  (fR v21 6 x0 4).bind fun v23 =>
  (chkT v21 2 v23).bind fun v25 =>
  (F_X2_empty v23 v21).bind fun v24 =>
  (fR v24 6 x0 1).bind fun v26 =>
  (chkT v24 5 v26).bind fun v28 =>
  (F_X5_size v26 v24).bind fun v27 =>
  (some (v27, v24)))
  else
  (some ((-2 : Int32), v3.2)))
def F_X6_noPerson (x0 : Nat) (x1 : Int32) (m : Mem) : Option Int32 :=
  (fR m 6 x0 1).bind fun v1 =>
  (chkT m 5 v1).bind fun v3 =>
  (F_X5_size v1 m).bind fun v2 =>
  (F_X6_outside x1 (0 : Int32) (v2 - (1 : Int32))).bind fun v4 =>
  (rN .boolean v4).bind fun v5 =>
  some v4
def F_X6_person (x0 : Nat) (x1 : Int32) (x2 : Int32) (m : Mem) : Option Int32 :=
  (chkT m 6 x0).bind fun v2 =>
  (F_X6_noPerson x0 x1 m).bind fun v1 =>
  (if v1 = 0 then
  (F_X6_outside x2 (0 : Int32) (4 : Int32)).bind fun v4 =>
  (if v4 = 0 then
  (if x2 = 0 then
  (fR m 6 x0 1).bind fun v7 =>
  (chkT m 5 v7).bind fun v9 =>
  (F_X5_kindOf v7 x1 m).bind fun v8 =>
  (some v8)
  else
  (if x2 = 1 then
  (fR m 6 x0 1).bind fun v11 =>
  (chkT m 5 v11).bind fun v13 =>
  (F_X5_doorOf v11 x1 m).bind fun v12 =>
  (some v12)
  else
  (if x2 = 2 then
  (fR m 6 x0 1).bind fun v15 =>
  (chkT m 5 v15).bind fun v17 =>
  (F_X5_widthOf v15 x1 m).bind fun v16 =>
  (some v16)
  else
  (if x2 = 3 then
  (fR m 6 x0 1).bind fun v19 =>
  (chkT m 5 v19).bind fun v21 =>
  (F_X5_yardOf v19 x1 m).bind fun v20 =>
  (some v20)
  else
  (fR m 6 x0 1).bind fun v22 =>
  (chkT m 5 v22).bind fun v24 =>
  (F_X5_paceOf v22 x1 m).bind fun v23 =>
  (some v23)))))
  else
  (some (-1 : Int32)))
  else
  (some (-1 : Int32)))
def F_X6_noPair_21 (m : Mem)  : Option Int32 :=
  (some (1 : Int32))
def F_X6_noPair (x0 : Nat) (x1 : Int32) (x2 : Int32) (m : Mem) : Option Int32 :=
  (chkT m 6 x0).bind fun v2 =>
  (F_X6_noPerson x0 x1 m).bind fun v1 =>
  (if v1 = 0 then
  (chkT m 6 x0).bind fun v5 =>
  (F_X6_noPerson x0 x2 m).bind fun v4 =>
  (if v4 = 0 then
  (if x1 = x2 then
  (F_X6_noPair_21 m)
  else
  (some (0 : Int32)))
  else
  (F_X6_noPair_21 m))
  else
  (F_X6_noPair_21 m))
def F_X6_near (x0 : Nat) (x1 : Int32) (x2 : Int32) (m : Mem) : Option Int32 :=
  (chkT m 6 x0).bind fun v2 =>
  (F_X6_noPair x0 x1 x2 m).bind fun v1 =>
  (if v1 = 0 then
  (fR m 6 x0 1).bind fun v4 =>
  (chkT m 5 v4).bind fun v6 =>
  (F_X5_between v4 x1 x2 m).bind fun v5 =>
  (some v5)
  else
  (some (-1 : Int32)))
def F_X6_noDoor (x0 : Int32) : Option Int32 :=
  (F_X6_outside x0 (0 : Int32) (5 : Int32)).bind fun v1 =>
  (rN .boolean v1).bind fun v2 =>
  some v1
def F_X6_about (x0 : Nat) (x1 : Int32) (m : Mem) : Option Int32 :=
  (F_X6_noDoor x1).bind fun v1 =>
  (if v1 = 0 then
  (fR m 6 x0 1).bind fun v3 =>
  (chkT m 5 v3).bind fun v5 =>
  (F_X5_goersAbout v3 x1 m).bind fun v4 =>
  (some v4)
  else
  (some (-1 : Int32)))
def F_X6_pass (x0 : Nat) (x1 : Int32) (m : Mem) : Option (Int32 × Mem) :=
  (F_X6_outside x1 (1 : Int32) (20 : Int32)).bind fun v1 =>
  (if v1 = 0 then
  (fR m 6 x0 1).bind fun v3 =>
  (chkT m 5 v3).bind fun v5 =>
  (F_X5_day v3 m).bind fun v4 =>
  (if (v4 + x1) ≤ (999 : Int32) then
  (fR m 6 x0 3).bind fun v7 =>
  (fR m 6 x0 1).bind fun v8 =>
  (chkT m 2 v7).bind fun v10 =>
  (F_X2_put v7 v8 m).bind fun v9 =>
  (fR v9 6 x0 1).bind fun v11 =>
  (chkT v9 5 v11).bind fun v13 =>
  (F_X5_letDaysGoBy v11 x1 v9).bind fun v12 =>
  (some (v12.1, v12.2))
  else
  (some ((-2 : Int32), m)))
  else
  (some ((-1 : Int32), m)))
def F_X6_weave_54 (x0 : Nat) (x1 : Int32) (x2 : Int32) (x3 : Int32) (m : Mem) : Option (Int32 × Mem) :=
  (fR m 6 x0 3).bind fun v1 =>
  (fR m 6 x0 1).bind fun v2 =>
  (chkT m 2 v1).bind fun v4 =>
  (F_X2_put v1 v2 m).bind fun v3 =>
  (fR v3 6 x0 1).bind fun v5 =>
  (chkT v3 5 v5).bind fun v7 =>
  (F_X5_hangWreath v5 x1 x2 x3 v3).bind fun v6 =>
  (fR v6 6 x0 1).bind fun v8 =>
  (chkT v6 5 v8).bind fun v10 =>
  (F_X5_goersAbout v8 x2 v6).bind fun v9 =>
  (F_J6_bitCount v9).bind fun v11 =>
  (some (v11, v6))
def F_X6_weave (x0 : Nat) (x1 : Int32) (x2 : Int32) (x3 : Int32) (m : Mem) : Option (Int32 × Mem) :=
  (chkT m 6 x0).bind fun v13 =>
  (F_X6_noPerson x0 x1 m).bind fun v12 =>
  (if v12 = 0 then
  (F_X6_noDoor x2).bind fun v15 =>
  (if v15 = 0 then
  (F_X6_outside x3 (1 : Int32) (9 : Int32)).bind fun v17 =>
  (if v17 = 0 then
  (fR m 6 x0 1).bind fun v19 =>
  (chkT m 5 v19).bind fun v21 =>
  (F_X5_doorOf v19 x1 m).bind fun v20 =>
  (if v20 = x2 then
  (fR m 6 x0 1).bind fun v23 =>
  (chkT m 5 v23).bind fun v25 =>
  (F_X5_widthOf v23 x1 m).bind fun v24 =>
  (if v24 = x3 then
  (some ((-2 : Int32), m))
  else
  (F_X6_weave_54 x0 x1 x2 x3 m))
  else
  (F_X6_weave_54 x0 x1 x2 x3 m))
  else
  (some ((-1 : Int32), m)))
  else
  (some ((-1 : Int32), m)))
  else
  (some ((-1 : Int32), m)))
def F_X6_off (x0 : Nat) (x1 : Int32) (m : Mem) : Option (Int32 × Mem) :=
  (chkT m 6 x0).bind fun v2 =>
  (F_X6_noPerson x0 x1 m).bind fun v1 =>
  (if v1 = 0 then
  (fR m 6 x0 1).bind fun v4 =>
  (chkT m 5 v4).bind fun v6 =>
  (F_X5_doorOf v4 x1 m).bind fun v5 =>
  (if v5 = (-4 : Int32) then
  (some ((-2 : Int32), m))
  else
  (fR m 6 x0 3).bind fun v8 =>
  (fR m 6 x0 1).bind fun v9 =>
  (chkT m 2 v8).bind fun v11 =>
  (F_X2_put v8 v9 m).bind fun v10 =>
  (fR v10 6 x0 1).bind fun v12 =>
  (chkT v10 5 v12).bind fun v14 =>
  (F_X5_hangWreath v12 x1 (-4 : Int32) (-4 : Int32) v10).bind fun v13 =>
  (some (v5, v13)))
  else
  (some ((-1 : Int32), m)))
def F_X6_pace (x0 : Nat) (x1 : Int32) (x2 : Int32) (m : Mem) : Option (Int32 × Mem) :=
  (chkT m 6 x0).bind fun v2 =>
  (F_X6_noPerson x0 x1 m).bind fun v1 =>
  (if v1 = 0 then
  (F_X6_outside x2 (0 : Int32) (11 : Int32)).bind fun v4 =>
  (if v4 = 0 then
  (fR m 6 x0 1).bind fun v6 =>
  (chkT m 5 v6).bind fun v8 =>
  (F_X5_paceOf v6 x1 m).bind fun v7 =>
  (if v7 = x2 then
  (some ((-2 : Int32), m))
  else
  (fR m 6 x0 3).bind fun v10 =>
  (fR m 6 x0 1).bind fun v11 =>
  (chkT m 2 v10).bind fun v13 =>
  (F_X2_put v10 v11 m).bind fun v12 =>
  (fR v12 6 x0 1).bind fun v14 =>
  (chkT v12 5 v14).bind fun v16 =>
  (F_X5_setPace v14 x1 x2 v12).bind fun v15 =>
  (some (v7, v15)))
  else
  (some ((-1 : Int32), m)))
  else
  (some ((-1 : Int32), m)))
def F_X6_undo (x0 : Nat) (m : Mem) : Option (Int32 × Mem) :=
  (fR m 6 x0 3).bind fun v1 =>
  (fR m 6 x0 1).bind fun v2 =>
  (chkT m 2 v1).bind fun v4 =>
  (F_X2_takeInto v1 v2 m).bind fun v3 =>
  (if v3.1 = 0 then
  (some ((-2 : Int32), v3.2))
  else
  (fR v3.2 6 x0 3).bind fun v6 =>
  (chkT v3.2 2 v6).bind fun v8 =>
  (F_X2_size v6 v3.2).bind fun v7 =>
  (some (v7, v3.2)))
def F_X6_behind (x0 : Nat) (x1 : Int32) (x2 : Int32) (m : Mem) : Option Int32 :=
  (F_X6_outside x1 (0 : Int32) (60 : Int32)).bind fun v1 =>
  (if v1 = 0 then
  (chkT m 6 x0).bind fun v4 =>
  (F_X6_noPerson x0 x2 m).bind fun v3 =>
  (if v3 = 0 then
  (fR m 6 x0 1).bind fun v6 =>
  (fR m 6 x0 1).bind fun v7 =>
  (chkT m 5 v7).bind fun v9 =>
  (F_X5_kindOf v7 x2 m).bind fun v8 =>
  (fR m 6 x0 1).bind fun v10 =>
  (chkT m 5 v10).bind fun v12 =>
  (F_X5_paceOf v10 x2 m).bind fun v11 =>
  (chkT m 5 v6).bind fun v14 =>
  (F_X5_yardBehind v6 x1 x2 v8 v11 m).bind fun v13 =>
  (some v13)
  else
  (some (-1 : Int32)))
  else
  (some (-1 : Int32)))
def F_X6_first_24 : Nat → Nat → Int32 → Int32 → Int32 → Mem → Option (Int32 × Mem)
  | 0 => fun _ _ _ _ _ => none
  | n + 1 => fun x0 x1 x2 x3 m =>
  (if (60 : Int32) < x3 then
  (some ((-4 : Int32), m))
  else
  (fR m 6 x0 2).bind fun v2 =>
  (chkT m 5 v2).bind fun v4 =>
  (F_X5_between v2 x1 x2 m).bind fun v3 =>
  (if v3 = (2 : Int32) then
  (some (x3, m))
  else
  (fR m 6 x0 2).bind fun v6 =>
  (chkT m 5 v6).bind fun v8 =>
  (F_X5_goRound v6 m).bind fun v7 =>
  ((F_X6_first_24 n) x0 x1 x2 (x3 + 1) v7)))
def F_X6_first (x0 : Nat) (x1 : Int32) (x2 : Int32) (m : Mem) : Option (Int32 × Mem) :=
  (chkT m 6 x0).bind fun v10 =>
  (F_X6_noPair x0 x1 x2 m).bind fun v9 =>
  (if v9 = 0 then
  (fR m 6 x0 2).bind fun v12 =>
  (fR m 6 x0 1).bind fun v13 =>
  (chkT m 5 v12).bind fun v15 =>
  (F_X5_become v12 v13 m).bind fun v14 =>
  (F_X6_first_24 FU x0 x1 x2 (0 : Int32) v14)
  else
  (some ((-1 : Int32), m)))
def F_X6_all (x0 : Nat) (x1 : Int32) (m : Mem) : Option (Int32 × Mem) :=
  (F_X6_outside x1 (1 : Int32) (60 : Int32)).bind fun v1 =>
  (if v1 = 0 then
  (fR m 6 x0 2).bind fun v3 =>
  (fR m 6 x0 1).bind fun v4 =>
  (chkT m 5 v3).bind fun v6 =>
  (F_X5_become v3 v4 m).bind fun v5 =>
  (fR v5 6 x0 2).bind fun v7 =>
  (chkT v5 5 v7).bind fun v9 =>
  (F_X5_letDaysGoBy v7 x1 v5).bind fun v8 =>
  (some (v8.1, v8.2))
  else
  (some ((-1 : Int32), m)))
def F_X6_paces_108 (m : Mem) (r68 : Nat → Int32 → Int32 → Int32 → Int32 → Int32 → Option Int32) (x0 : Nat) (x1 : Int32) (x3 : Int32) (x4 : Int32) (x5 : Int32) (x6 : Int32) : Option Int32 :=
  (r68 x0 x1 x3 x4 x5 (x6 + 1))
def F_X6_paces_68 (m : Mem) : Nat → Nat → Int32 → Int32 → Int32 → Int32 → Int32 → Option Int32
  | 0 => fun _ _ _ _ _ _ => none
  | n + 1 => fun x0 x1 x3 x4 x5 x6 =>
  (if (12 : Int32) ≤ x6 then
  (some x5)
  else
  (fR m 6 x0 1).bind fun v2 =>
  (fR m 6 x0 1).bind fun v3 =>
  (chkT m 5 v3).bind fun v5 =>
  (F_X5_kindOf v3 x1 m).bind fun v4 =>
  (chkT m 5 v2).bind fun v7 =>
  (F_X5_yardBehind v2 x3 x1 v4 x6 m).bind fun v6 =>
  (if v6 = x4 then
  (F_X6_paces_108 m (F_X6_paces_68 m n) x0 x1 x3 x4 (x5 ||| ((1 : Int32) <<< (x6 &&& 31))) x6)
  else
  (F_X6_paces_108 m (F_X6_paces_68 m n) x0 x1 x3 x4 x5 x6)))
def F_X6_paces (x0 : Nat) (x1 : Int32) (x2 : Int32) (x3 : Int32) (m : Mem) : Option Int32 :=
  (chkT m 6 x0).bind fun v10 =>
  (F_X6_noPair x0 x1 x2 m).bind fun v9 =>
  (if v9 = 0 then
  (F_X6_outside x3 (1 : Int32) (24 : Int32)).bind fun v12 =>
  (if v12 = 0 then
  (fR m 6 x0 1).bind fun v14 =>
  (chkT m 5 v14).bind fun v16 =>
  (F_X5_shareWreath v14 x1 x2 m).bind fun v15 =>
  (if v15 = 0 then
  (some (0 : Int32))
  else
  (fR m 6 x0 1).bind fun v18 =>
  (fR m 6 x0 1).bind fun v19 =>
  (chkT m 5 v19).bind fun v21 =>
  (F_X5_kindOf v19 x2 m).bind fun v20 =>
  (fR m 6 x0 1).bind fun v22 =>
  (chkT m 5 v22).bind fun v24 =>
  (F_X5_paceOf v22 x2 m).bind fun v23 =>
  (chkT m 5 v18).bind fun v26 =>
  (F_X5_yardBehind v18 x3 x2 v20 v23 m).bind fun v25 =>
  (F_X6_paces_68 m FU x0 x1 x3 v25 (0 : Int32) (0 : Int32)))
  else
  (some (-1 : Int32)))
  else
  (some (-1 : Int32)))
def F_X6_widthsMet_69 (r15 : Nat → Int32 → Int32 → Int32 → Mem → Option (Int32 × Mem)) (r24 : Nat → Int32 → Int32 → Int32 → Int32 → Mem → Option (Int32 × Mem)) (x0 : Nat) (x1 : Int32) (x2 : Int32) (x3 : Int32) (x4 : Int32) (m : Mem) : Option (Int32 × Mem) :=
  (r24 x0 x1 x2 x3 (x4 + 1) m)
def F_X6_widthsMet_24 (r15 : Nat → Int32 → Int32 → Int32 → Mem → Option (Int32 × Mem)) : Nat → Nat → Int32 → Int32 → Int32 → Int32 → Mem → Option (Int32 × Mem)
  | 0 => fun _ _ _ _ _ _ => none
  | n + 1 => fun x0 x1 x2 x3 x4 m =>
  (fR m 6 x0 2).bind fun v1 =>
  (chkT m 5 v1).bind fun v3 =>
  (F_X5_size v1 m).bind fun v2 =>
  (if v2 ≤ x4 then
  (fR m 6 x0 2).bind fun v5 =>
  (chkT m 5 v5).bind fun v7 =>
  (F_X5_goRound v5 m).bind fun v6 =>
  (r15 x0 x1 x2 (x3 + 1) v6)
  else
  (if x4 = x1 then
  (F_X6_widthsMet_69 r15 (F_X6_widthsMet_24 r15 n) x0 x1 x2 x3 x4 m)
  else
  (fR m 6 x0 2).bind fun v9 =>
  (chkT m 5 v9).bind fun v11 =>
  (F_X5_between v9 x1 x4 m).bind fun v10 =>
  (if v10 = 0 then
  (F_X6_widthsMet_69 r15 (F_X6_widthsMet_24 r15 n) x0 x1 x2 x3 x4 m)
  else
  (fR m 6 x0 2).bind fun v13 =>
  (chkT m 5 v13).bind fun v15 =>
  (F_X5_widthOf v13 x4 m).bind fun v14 =>
  (F_X6_widthsMet_69 r15 (F_X6_widthsMet_24 r15 n) x0 x1 (x2 ||| ((1 : Int32) <<< (v14 &&& 31))) x3 x4 m))))
def F_X6_widthsMet_15 : Nat → Nat → Int32 → Int32 → Int32 → Mem → Option (Int32 × Mem)
  | 0 => fun _ _ _ _ _ => none
  | n + 1 => fun x0 x1 x2 x3 m =>
  (if (24 : Int32) < x3 then
  (some (x2, m))
  else
  (F_X6_widthsMet_24 (F_X6_widthsMet_15 n) FU x0 x1 x2 x3 (0 : Int32) m))
def F_X6_widthsMet (x0 : Nat) (x1 : Int32) (m : Mem) : Option (Int32 × Mem) :=
  (fR m 6 x0 2).bind fun v17 =>
  (fR m 6 x0 1).bind fun v18 =>
  (chkT m 5 v17).bind fun v20 =>
  (F_X5_become v17 v18 m).bind fun v19 =>
  (F_X6_widthsMet_15 FU x0 x1 (0 : Int32) (0 : Int32) v19)
def F_X6_shy_34 : Nat → Int32 → Int32 → Mem → Option (Int32 × Mem)
  | 0 => fun _ _ _ => none
  | n + 1 => fun x2 x3 m =>
  (if (9 : Int32) < x3 then
  (some ((-4 : Int32), m))
  else
  (if (x2 &&& ((1 : Int32) <<< (x3 &&& 31))) = 0 then
  (some (x3, m))
  else
  ((F_X6_shy_34 n) x2 (x3 + 1) m)))
def F_X6_shy (x0 : Nat) (x1 : Int32) (m : Mem) : Option (Int32 × Mem) :=
  (chkT m 6 x0).bind fun v4 =>
  (F_X6_noPerson x0 x1 m).bind fun v3 =>
  (if v3 = 0 then
  (fR m 6 x0 1).bind fun v6 =>
  (chkT m 5 v6).bind fun v8 =>
  (F_X5_doorOf v6 x1 m).bind fun v7 =>
  (if v7 = (-4 : Int32) then
  (some ((-2 : Int32), m))
  else
  (chkT m 6 x0).bind fun v11 =>
  (F_X6_widthsMet x0 x1 m).bind fun v10 =>
  (F_X6_shy_34 FU v10.1 (1 : Int32) v10.2))
  else
  (some ((-1 : Int32), m)))
def F_X6_spread (x0 : Nat) (x1 : Int32) (x2 : Int32) (m : Mem) : Option (Int32 × Mem) :=
  (F_X6_noDoor x1).bind fun v1 =>
  (if v1 = 0 then
  (fR m 6 x0 1).bind fun v3 =>
  (chkT m 5 v3).bind fun v5 =>
  (F_X5_size v3 m).bind fun v4 =>
  (F_X6_outside x2 (-1 : Int32) (v4 - (1 : Int32))).bind fun v6 =>
  (if v6 = 0 then
  (fR m 6 x0 2).bind fun v8 =>
  (fR m 6 x0 1).bind fun v9 =>
  (chkT m 5 v8).bind fun v11 =>
  (F_X5_become v8 v9 m).bind fun v10 =>
  (fR v10 6 x0 7).bind fun v12 =>
  (fR v10 6 x0 2).bind fun v13 =>
  (chkT v10 4 v12).bind fun v15 =>
  (F_X4_choose v12 v13 x1 v10).bind fun v14 =>
  (if x2 = (-1 : Int32) then
  (some (v14.1, v14.2))
  else
  (fR v14.2 6 x0 7).bind fun v17 =>
  (chkT v14.2 4 v17).bind fun v19 =>
  (F_X4_tintOf v17 x2 v14.2).bind fun v18 =>
  (some (v18, v14.2)))
  else
  (some ((-1 : Int32), m)))
  else
  (some ((-1 : Int32), m)))
def F_X6_dear_51 (m : Mem) (r18 : Nat → Int32 → Int32 → Int32 → Int32 → Option Int32) (x0 : Nat) (x1 : Int32) (x2 : Int32) (x3 : Int32) (x4 : Int32) : Option Int32 :=
  (r18 x0 x1 x2 x3 (x4 + 1))
def F_X6_dear_18 (m : Mem) : Nat → Nat → Int32 → Int32 → Int32 → Int32 → Option Int32
  | 0 => fun _ _ _ _ _ => none
  | n + 1 => fun x0 x1 x2 x3 x4 =>
  (if (6 : Int32) ≤ x4 then
  (if x1 = 0 then
  (some x2)
  else
  (some x3))
  else
  (fR m 6 x0 1).bind fun v3 =>
  (chkT m 5 v3).bind fun v5 =>
  (F_X5_goersAbout v3 x4 m).bind fun v4 =>
  (F_J6_bitCount v4).bind fun v6 =>
  (if v6 ≤ x3 then
  (F_X6_dear_51 m (F_X6_dear_18 m n) x0 x1 x2 x3 x4)
  else
  (F_X6_dear_51 m (F_X6_dear_18 m n) x0 x1 x4 v6 x4)))
def F_X6_dear (x0 : Nat) (x1 : Int32) (m : Mem) : Option Int32 :=
  (F_X6_outside x1 (0 : Int32) (1 : Int32)).bind fun v8 =>
  (if v8 = 0 then
  (F_X6_dear_18 m FU x0 x1 (0 : Int32) (0 : Int32) (0 : Int32))
  else
  (some (-1 : Int32)))
def F_X6_seen (x0 : Nat) (x1 : Int32) (x2 : Int32) (x3 : Int32) (m : Mem) : Option (Int32 × Mem) :=
  (chkT m 6 x0).bind fun v2 =>
  (F_X6_noPerson x0 x1 m).bind fun v1 =>
  (if v1 = 0 then
  (F_X6_outside x2 (0 : Int32) (24 : Int32)).bind fun v4 =>
  (if v4 = 0 then
  (F_X6_outside x3 (0 : Int32) (11 : Int32)).bind fun v6 =>
  (if v6 = 0 then
  (fR m 6 x0 5).bind fun v8 =>
  (chkT m 1 v8).bind fun v10 =>
  (F_X1_note v8 x1 x2 x3 m).bind fun v9 =>
  (if v9.1 = 0 then
  (some ((-3 : Int32), v9.2))
  else
  (fR v9.2 6 x0 5).bind fun v12 =>
  (chkT v9.2 1 v12).bind fun v14 =>
  (F_X1_size v12 v9.2).bind fun v13 =>
  (some (v13, v9.2)))
  else
  (some ((-1 : Int32), m)))
  else
  (some ((-1 : Int32), m)))
  else
  (some ((-1 : Int32), m)))
def F_X6_kinds_49 (m : Mem) (r14 : Nat → Int32 → Int32 → Int32 → Option Int32) (x0 : Nat) (x1 : Int32) (x2 : Int32) (x3 : Int32) : Option Int32 :=
  (r14 x0 x1 x2 (x3 + 1))
def F_X6_kinds_14 (m : Mem) : Nat → Nat → Int32 → Int32 → Int32 → Option Int32
  | 0 => fun _ _ _ _ => none
  | n + 1 => fun x0 x1 x2 x3 =>
  (if (4 : Int32) ≤ x3 then
  (some x2)
  else
  (fR m 6 x0 5).bind fun v2 =>
  (fR m 6 x0 1).bind fun v3 =>
  (fR m 6 x0 1).bind fun v4 =>
  (chkT m 5 v4).bind fun v6 =>
  (F_X5_paceOf v4 x1 m).bind fun v5 =>
  (chkT m 1 v2).bind fun v8 =>
  (F_X1_fitPerson v2 v3 x1 x3 v5 m).bind fun v7 =>
  (if v7 = 0 then
  (F_X6_kinds_49 m (F_X6_kinds_14 m n) x0 x1 x2 x3)
  else
  (F_X6_kinds_49 m (F_X6_kinds_14 m n) x0 x1 (x2 ||| ((1 : Int32) <<< (x3 &&& 31))) x3)))
def F_X6_kinds (x0 : Nat) (x1 : Int32) (m : Mem) : Option Int32 :=
  (chkT m 6 x0).bind fun v11 =>
  (F_X6_noPerson x0 x1 m).bind fun v10 =>
  (if v10 = 0 then
  (F_X6_kinds_14 m FU x0 x1 (0 : Int32) (0 : Int32))
  else
  (some (-1 : Int32)))
def F_X6_speeds_50 (m : Mem) (r14 : Nat → Int32 → Int32 → Int32 → Option Int32) (x0 : Nat) (x1 : Int32) (x2 : Int32) (x3 : Int32) : Option Int32 :=
  (r14 x0 x1 x2 (x3 + 1))
def F_X6_speeds_14 (m : Mem) : Nat → Nat → Int32 → Int32 → Int32 → Option Int32
  | 0 => fun _ _ _ _ => none
  | n + 1 => fun x0 x1 x2 x3 =>
  (if (12 : Int32) ≤ x3 then
  (some x2)
  else
  (fR m 6 x0 5).bind fun v2 =>
  (fR m 6 x0 1).bind fun v3 =>
  (fR m 6 x0 1).bind fun v4 =>
  (chkT m 5 v4).bind fun v6 =>
  (F_X5_kindOf v4 x1 m).bind fun v5 =>
  (chkT m 1 v2).bind fun v8 =>
  (F_X1_fitPerson v2 v3 x1 v5 x3 m).bind fun v7 =>
  (if v7 = 0 then
  (F_X6_speeds_50 m (F_X6_speeds_14 m n) x0 x1 x2 x3)
  else
  (F_X6_speeds_50 m (F_X6_speeds_14 m n) x0 x1 (x2 ||| ((1 : Int32) <<< (x3 &&& 31))) x3)))
def F_X6_speeds (x0 : Nat) (x1 : Int32) (m : Mem) : Option Int32 :=
  (chkT m 6 x0).bind fun v11 =>
  (F_X6_noPerson x0 x1 m).bind fun v10 =>
  (if v10 = 0 then
  (F_X6_speeds_14 m FU x0 x1 (0 : Int32) (0 : Int32))
  else
  (some (-1 : Int32)))
def F_X6_told (x0 : Nat) (x1 : Int32) (x2 : Int32) (m : Mem) : Option (Int32 × Mem) :=
  (F_X6_outside x1 (0 : Int32) (24 : Int32)).bind fun v1 =>
  (if v1 = 0 then
  (F_X6_outside x2 (0 : Int32) (11 : Int32)).bind fun v3 =>
  (if v3 = 0 then
  (fR m 6 x0 6).bind fun v5 =>
  (chkT m 1 v5).bind fun v7 =>
  (F_X1_note v5 (-4 : Int32) x1 x2 m).bind fun v6 =>
  (if v6.1 = 0 then
  (some ((-3 : Int32), v6.2))
  else
  (fR v6.2 6 x0 6).bind fun v9 =>
  (chkT v6.2 1 v9).bind fun v11 =>
  (F_X1_size v9 v6.2).bind fun v10 =>
  (some (v10, v6.2)))
  else
  (some ((-1 : Int32), m)))
  else
  (some ((-1 : Int32), m)))
def F_X6_rings_59 (m : Mem) (r19 : Nat → Int32 → Int32 → Int32 → Int32 → Option Int32) (x0 : Nat) (x1 : Int32) (x2 : Int32) (x3 : Int32) (x4 : Int32) : Option Int32 :=
  (r19 x0 x1 x2 x3 (x4 + 1))
def F_X6_rings_19 (m : Mem) : Nat → Nat → Int32 → Int32 → Int32 → Int32 → Option Int32
  | 0 => fun _ _ _ _ _ => none
  | n + 1 => fun x0 x1 x2 x3 x4 =>
  (if (144 : Int32) ≤ x4 then
  (if x1 = 0 then
  (some x2)
  else
  (some x3))
  else
  (fR m 6 x0 6).bind fun v3 =>
  (chkT m 1 v3).bind fun v5 =>
  (F_X1_fitRing v3 (x4 / (12 : Int32)) (jrem x4 (12 : Int32)) m).bind fun v4 =>
  (if v4 = 0 then
  (F_X6_rings_59 m (F_X6_rings_19 m n) x0 x1 x2 x3 x4)
  else
  (if x3 = (-4 : Int32) then
  (F_X6_rings_59 m (F_X6_rings_19 m n) x0 x1 (x2 + 1) x4 x4)
  else
  (F_X6_rings_59 m (F_X6_rings_19 m n) x0 x1 (x2 + 1) x3 x4))))
def F_X6_rings (x0 : Nat) (x1 : Int32) (m : Mem) : Option Int32 :=
  (F_X6_outside x1 (0 : Int32) (1 : Int32)).bind fun v8 =>
  (if v8 = 0 then
  (F_X6_rings_19 m FU x0 x1 (0 : Int32) (-4 : Int32) (0 : Int32))
  else
  (some (-1 : Int32)))
def F_X6_markYardsOfRings_76 (r10 : Nat → Int32 → Mem → Option Mem) (x0 : Nat) (x1 : Int32) (m : Mem) : Option Mem :=
  (r10 x0 (x1 + 1) m)
def F_X6_markYardsOfRings_42 (r10 : Nat → Int32 → Mem → Option Mem) : Nat → Nat → Int32 → Int32 → Int32 → Int32 → Mem → Option Mem
  | 0 => fun _ _ _ _ _ _ => none
  | n + 1 => fun x0 x1 x2 x3 x4 m =>
  (if (12 : Int32) < x4 then
  (F_X6_markYardsOfRings_76 r10 x0 x1 m)
  else
  (fR m 6 x0 9).bind fun v2 =>
  (ldI m v2 x4).bind fun v3 =>
  (stI m v2 x4 (v3 ||| ((1 : Int32) <<< ((jrem (x2 + (x4 * x3)) (12 : Int32)) &&& 31)))).bind fun m4 =>
  ((F_X6_markYardsOfRings_42 r10 n) x0 x1 x2 x3 (x4 + 1) m4))
def F_X6_markYardsOfRings_10 : Nat → Nat → Int32 → Mem → Option Mem
  | 0 => fun _ _ _ => none
  | n + 1 => fun x0 x1 m =>
  (if (144 : Int32) ≤ x1 then
  (some m)
  else
  (fR m 6 x0 6).bind fun v6 =>
  (chkT m 1 v6).bind fun v8 =>
  (F_X1_fitRing v6 (x1 / (12 : Int32)) (jrem x1 (12 : Int32)) m).bind fun v7 =>
  (if v7 = 0 then
  (F_X6_markYardsOfRings_76 (F_X6_markYardsOfRings_10 n) x0 x1 m)
  else
  (F_X6_markYardsOfRings_42 (F_X6_markYardsOfRings_10 n) FU x0 x1 (x1 / (12 : Int32)) (jrem x1 (12 : Int32)) (0 : Int32) m)))
def F_X6_markYardsOfRings (x0 : Nat) (m : Mem) : Option Mem :=
  (fR m 6 x0 9).bind fun v10 =>
  (F_J7_fill v10 (0 : Int32) m).bind fun v11 =>
  (F_X6_markYardsOfRings_10 FU x0 (0 : Int32) v11)
def F_X6_look_53 (r22 : Nat → Int32 → Int32 → Int32 → Int32 → Mem → Option (Int32 × Mem)) (x0 : Nat) (x1 : Int32) (x2 : Int32) (x3 : Int32) (x4 : Int32) (m : Mem) : Option (Int32 × Mem) :=
  (r22 x0 x1 x2 x3 (x4 + 1) m)
def F_X6_look_22 : Nat → Nat → Int32 → Int32 → Int32 → Int32 → Mem → Option (Int32 × Mem)
  | 0 => fun _ _ _ _ _ _ => none
  | n + 1 => fun x0 x1 x2 x3 x4 m =>
  (if (12 : Int32) < x4 then
  (if x1 = 0 then
  (some (x2, m))
  else
  (some (x3, m)))
  else
  (fR m 6 x0 9).bind fun v3 =>
  (ldI m v3 x4).bind fun v4 =>
  (F_J6_bitCount v4).bind fun v5 =>
  (if v5 ≤ x3 then
  (F_X6_look_53 (F_X6_look_22 n) x0 x1 x2 x3 x4 m)
  else
  (F_X6_look_53 (F_X6_look_22 n) x0 x1 x4 v5 x4 m)))
def F_X6_look (x0 : Nat) (x1 : Int32) (m : Mem) : Option (Int32 × Mem) :=
  (F_X6_outside x1 (0 : Int32) (1 : Int32)).bind fun v7 =>
  (if v7 = 0 then
  (chkT m 6 x0).bind fun v10 =>
  (F_X6_markYardsOfRings x0 m).bind fun v9 =>
  (F_X6_look_22 FU x0 x1 (0 : Int32) (0 : Int32) (0 : Int32) v9)
  else
  (some ((-1 : Int32), m)))
def F_X6_forget (x0 : Nat) (m : Mem) : Option (Int32 × Mem) :=
  (fR m 6 x0 5).bind fun v1 =>
  (chkT m 1 v1).bind fun v3 =>
  (F_X1_empty v1 m).bind fun v2 =>
  (fR v2.2 6 x0 6).bind fun v4 =>
  (chkT v2.2 1 v4).bind fun v6 =>
  (F_X1_empty v4 v2.2).bind fun v5 =>
  (some ((v2.1 + v5.1), v5.2))
def F_X6_powerOfTen_4 : Nat → Int32 → Int32 → Int32 → Option Int32
  | 0 => fun _ _ _ => none
  | n + 1 => fun x0 x1 x2 =>
  (if x0 ≤ x2 then
  (some x1)
  else
  ((F_X6_powerOfTen_4 n) x0 (x1 * (10 : Int32)) (x2 + 1)))
def F_X6_powerOfTen (x0 : Int32) : Option Int32 :=
  (F_X6_powerOfTen_4 FU x0 (1 : Int32) (0 : Int32))
def F_X6_commonDivisor_7 : Nat → Int32 → Int32 → Int32 → Option Int32
  | 0 => fun _ _ _ => none
  | n + 1 => fun x2 x3 x4 =>
  (if (100 : Int32) ≤ x4 then
  (some x2)
  else
  (if x3 = 0 then
  (some x2)
  else
  (if x3 = 0 then none else
  ((F_X6_commonDivisor_7 n) x3 (jrem x2 x3) (x4 + 1)))))
def F_X6_commonDivisor (x0 : Int32) (x1 : Int32) : Option Int32 :=
  (F_X6_commonDivisor_7 FU x0 x1 (0 : Int32))
def F_X6_likely_106 (x3 : Int32) (x5 : Int32) (x6 : Int32) (m : Mem) : Option (Int32 × Mem) :=
  (F_X6_powerOfTen x3).bind fun v1 =>
  (F_X6_commonDivisor x6 v1).bind fun v2 =>
  (if x5 = 0 then
  (if (jmax (1 : Int32) v2) = 0 then none else
  (some ((x6 / (jmax (1 : Int32) v2)), m)))
  else
  (if (jmax (1 : Int32) v2) = 0 then none else
  (some ((v1 / (jmax (1 : Int32) v2)), m))))
def F_X6_likely (x0 : Nat) (x1 : Int32) (x2 : Int32) (x3 : Int32) (x4 : Int32) (x5 : Int32) (m : Mem) : Option (Int32 × Mem) :=
  (chkT m 6 x0).bind fun v7 =>
  (F_X6_noPair x0 x1 x2 m).bind fun v6 =>
  (if v6 = 0 then
  (F_X6_outside x3 (0 : Int32) (7 : Int32)).bind fun v9 =>
  (if v9 = 0 then
  (F_X6_outside x4 (0 : Int32) (10 : Int32)).bind fun v11 =>
  (if v11 = 0 then
  (F_X6_outside x5 (0 : Int32) (1 : Int32)).bind fun v13 =>
  (if v13 = 0 then
  (fR m 6 x0 1).bind fun v15 =>
  (chkT m 5 v15).bind fun v17 =>
  (F_X5_shareWreath v15 x1 x2 m).bind fun v16 =>
  (if v16 = 0 then
  (F_X6_likely_106 x3 x5 (0 : Int32) m)
  else
  (fR m 6 x0 8).bind fun v19 =>
  (fR m 6 x0 1).bind fun v20 =>
  (chkT m 0 v19).bind fun v22 =>
  (F_X0_follow v19 v20 x1 x3 x4 m).bind fun v21 =>
  (fR v21 6 x0 8).bind fun v23 =>
  (fR v21 6 x0 1).bind fun v24 =>
  (fR v21 6 x0 1).bind fun v25 =>
  (chkT v21 5 v25).bind fun v27 =>
  (F_X5_kindOf v25 x2 v21).bind fun v26 =>
  (fR v21 6 x0 1).bind fun v28 =>
  (chkT v21 5 v28).bind fun v30 =>
  (F_X5_paceOf v28 x2 v21).bind fun v29 =>
  (chkT v21 5 v24).bind fun v32 =>
  (F_X5_yardBehind v24 x3 x2 v26 v29 v21).bind fun v31 =>
  (chkT v21 0 v23).bind fun v34 =>
  (F_X0_weightAt v23 v31 v21).bind fun v33 =>
  (F_X6_likely_106 x3 x5 v33 v21))
  else
  (some ((-1 : Int32), m)))
  else
  (some ((-1 : Int32), m)))
  else
  (some ((-1 : Int32), m)))
  else
  (some ((-1 : Int32), m)))
def F_X6_draw (x0 : Int32) (x1 : Int32) : Option Int32 :=
  (some (Int64.toInt32 ((jremL (((((7919 : Int64) * (Int32.toInt64 x0)) + ((6151 : Int64) * (Int32.toInt64 x1))) + (1 : Int64)) * ((((7919 : Int64) * (Int32.toInt64 x0)) + ((6151 : Int64) * (Int32.toInt64 x1))) + (1 : Int64))) (65521 : Int64)) / (2 : Int64))))
def F_X6_season_49 : Nat → Nat → Int32 → Int32 → Int32 → Int32 → Int32 → Mem → Option (Int32 × Mem)
  | 0 => fun _ _ _ _ _ _ _ => none
  | n + 1 => fun x0 x1 x2 x3 x4 x5 m =>
  (if x2 ≤ x5 then
  (if x3 = 0 then
  (some (x4, m))
  else
  (if x3 = 1 then
  (fR m 6 x0 2).bind fun v4 =>
  (chkT m 5 v4).bind fun v6 =>
  (F_X5_goers v4 m).bind fun v5 =>
  (some (v5, m))
  else
  (fR m 6 x0 2).bind fun v7 =>
  (chkT m 5 v7).bind fun v9 =>
  (F_X5_yardsAdded v7 m).bind fun v8 =>
  (some (v8, m))))
  else
  (fR m 6 x0 2).bind fun v10 =>
  (F_X6_draw x1 x5).bind fun v11 =>
  (chkT m 5 v10).bind fun v13 =>
  (F_X5_stir v10 v11 m).bind fun v12 =>
  (fR v12 6 x0 2).bind fun v14 =>
  (chkT v12 5 v14).bind fun v16 =>
  (F_X5_letDaysGoBy v14 (1 : Int32) v12).bind fun v15 =>
  ((F_X6_season_49 n) x0 x1 x2 x3 (x4 + v15.1) (x5 + 1) v15.2))
def F_X6_season (x0 : Nat) (x1 : Int32) (x2 : Int32) (x3 : Int32) (m : Mem) : Option (Int32 × Mem) :=
  (F_X6_outside x1 (0 : Int32) (9999 : Int32)).bind fun v17 =>
  (if v17 = 0 then
  (F_X6_outside x2 (1 : Int32) (60 : Int32)).bind fun v19 =>
  (if v19 = 0 then
  (F_X6_outside x3 (0 : Int32) (2 : Int32)).bind fun v21 =>
  (if v21 = 0 then
  (fR m 6 x0 2).bind fun v23 =>
  (fR m 6 x0 1).bind fun v24 =>
  (chkT m 5 v23).bind fun v26 =>
  (F_X5_become v23 v24 m).bind fun v25 =>
  (F_X6_season_49 FU x0 x1 x2 x3 (0 : Int32) (0 : Int32) v25)
  else
  (some ((-1 : Int32), m)))
  else
  (some ((-1 : Int32), m)))
  else
  (some ((-1 : Int32), m)))
def F_X6_keep (x0 : Nat) (m : Mem) : Option (Int32 × Mem) :=
  (fR m 6 x0 4).bind fun v1 =>
  (chkT m 2 v1).bind fun v3 =>
  (F_X2_isFull v1 m).bind fun v2 =>
  (if v2 = 0 then
  (fR m 6 x0 4).bind fun v5 =>
  (fR m 6 x0 1).bind fun v6 =>
  (chkT m 2 v5).bind fun v8 =>
  (F_X2_put v5 v6 m).bind fun v7 =>
  (fR v7 6 x0 4).bind fun v9 =>
  (chkT v7 2 v9).bind fun v11 =>
  (F_X2_size v9 v7).bind fun v10 =>
  (some (v10, v7))
  else
  (some ((-3 : Int32), m)))
def F_X6_back (x0 : Nat) (m : Mem) : Option (Int32 × Mem) :=
  (fR m 6 x0 4).bind fun v1 =>
  (fR m 6 x0 1).bind fun v2 =>
  (chkT m 2 v1).bind fun v4 =>
  (F_X2_takeInto v1 v2 m).bind fun v3 =>
  (if v3.1 = 0 then
  (some ((-2 : Int32), v3.2))
  else
  (fR v3.2 6 x0 3).bind fun v6 =>
  (chkT v3.2 2 v6).bind fun v8 =>
  (F_X2_empty v6 v3.2).bind fun v7 =>
  (fR v7 6 x0 4).bind fun v9 =>
  (chkT v7 2 v9).bind fun v11 =>
  (F_X2_size v9 v7).bind fun v10 =>
  (some (v10, v7)))
def F_X6_count (x0 : Nat) (x1 : Int32) (m : Mem) : Option Int32 :=
  (if x1 = 0 then
  (fR m 6 x0 1).bind fun v2 =>
  (chkT m 5 v2).bind fun v4 =>
  (F_X5_size v2 m).bind fun v3 =>
  (some v3)
  else
  (if x1 = 1 then
  (fR m 6 x0 1).bind fun v6 =>
  (chkT m 5 v6).bind fun v8 =>
  (F_X5_day v6 m).bind fun v7 =>
  (some v7)
  else
  (if x1 = 2 then
  (fR m 6 x0 1).bind fun v10 =>
  (chkT m 5 v10).bind fun v12 =>
  (F_X5_goers v10 m).bind fun v11 =>
  (some v11)
  else
  (if x1 = 3 then
  (fR m 6 x0 1).bind fun v14 =>
  (chkT m 5 v14).bind fun v16 =>
  (F_X5_pairs v14 (2 : Int32) m).bind fun v15 =>
  (some v15)
  else
  (if x1 = 4 then
  (fR m 6 x0 1).bind fun v18 =>
  (chkT m 5 v18).bind fun v20 =>
  (F_X5_pairs v18 (1 : Int32) m).bind fun v19 =>
  (some v19)
  else
  (if x1 = 5 then
  (fR m 6 x0 1).bind fun v22 =>
  (chkT m 5 v22).bind fun v24 =>
  (F_X5_meetings v22 m).bind fun v23 =>
  (some v23)
  else
  (if x1 = 6 then
  (fR m 6 x0 5).bind fun v26 =>
  (chkT m 1 v26).bind fun v28 =>
  (F_X1_size v26 m).bind fun v27 =>
  (some v27)
  else
  (if x1 = 7 then
  (fR m 6 x0 6).bind fun v30 =>
  (chkT m 1 v30).bind fun v32 =>
  (F_X1_size v30 m).bind fun v31 =>
  (some v31)
  else
  (if x1 = 8 then
  (fR m 6 x0 3).bind fun v34 =>
  (chkT m 2 v34).bind fun v36 =>
  (F_X2_size v34 m).bind fun v35 =>
  (some v35)
  else
  (if x1 = 9 then
  (fR m 6 x0 4).bind fun v38 =>
  (chkT m 2 v38).bind fun v40 =>
  (F_X2_size v38 m).bind fun v39 =>
  (some v39)
  else
  (if x1 = 10 then
  (fR m 6 x0 0).bind fun v42 =>
  (chkT m 3 v42).bind fun v44 =>
  (F_X3_length v42 m).bind fun v43 =>
  (some v43)
  else
  (some (-1 : Int32)))))))))))))
theorem dX6_init_0 : decode (mC Y_X6_init) 0 = .ok (.aload_n 0, 1) := by decide +kernel
theorem dX6_init_1 : decode (mC Y_X6_init) 1 = .ok (.invokespecial 1, 3) := by decide +kernel
theorem dX6_init_4 : decode (mC Y_X6_init) 4 = .ok (.aload_n 0, 1) := by decide +kernel
theorem dX6_init_5 : decode (mC Y_X6_init) 5 = .ok (.new 7, 3) := by decide +kernel
theorem dX6_init_8 : decode (mC Y_X6_init) 8 = .ok (.dup, 1) := by decide +kernel
theorem dX6_init_9 : decode (mC Y_X6_init) 9 = .ok (.invokespecial 9, 3) := by decide +kernel
theorem dX6_init_12 : decode (mC Y_X6_init) 12 = .ok (.putfield 10, 3) := by decide +kernel
theorem dX6_init_15 : decode (mC Y_X6_init) 15 = .ok (.aload_n 0, 1) := by decide +kernel
theorem dX6_init_16 : decode (mC Y_X6_init) 16 = .ok (.new 16, 3) := by decide +kernel
theorem dX6_init_19 : decode (mC Y_X6_init) 19 = .ok (.dup, 1) := by decide +kernel
theorem dX6_init_20 : decode (mC Y_X6_init) 20 = .ok (.invokespecial 18, 3) := by decide +kernel
theorem dX6_init_23 : decode (mC Y_X6_init) 23 = .ok (.putfield 19, 3) := by decide +kernel
theorem dX6_init_26 : decode (mC Y_X6_init) 26 = .ok (.aload_n 0, 1) := by decide +kernel
theorem dX6_init_27 : decode (mC Y_X6_init) 27 = .ok (.new 16, 3) := by decide +kernel
theorem dX6_init_30 : decode (mC Y_X6_init) 30 = .ok (.dup, 1) := by decide +kernel
theorem dX6_init_31 : decode (mC Y_X6_init) 31 = .ok (.invokespecial 18, 3) := by decide +kernel
theorem dX6_init_34 : decode (mC Y_X6_init) 34 = .ok (.putfield 23, 3) := by decide +kernel
theorem dX6_init_37 : decode (mC Y_X6_init) 37 = .ok (.aload_n 0, 1) := by decide +kernel
theorem dX6_init_38 : decode (mC Y_X6_init) 38 = .ok (.new 26, 3) := by decide +kernel
theorem dX6_init_41 : decode (mC Y_X6_init) 41 = .ok (.dup, 1) := by decide +kernel
theorem dX6_init_42 : decode (mC Y_X6_init) 42 = .ok (.bipush 8, 2) := by decide +kernel
theorem dX6_init_44 : decode (mC Y_X6_init) 44 = .ok (.invokespecial 28, 3) := by decide +kernel
theorem dX6_init_47 : decode (mC Y_X6_init) 47 = .ok (.putfield 31, 3) := by decide +kernel
theorem dX6_init_50 : decode (mC Y_X6_init) 50 = .ok (.aload_n 0, 1) := by decide +kernel
theorem dX6_init_51 : decode (mC Y_X6_init) 51 = .ok (.new 26, 3) := by decide +kernel
theorem dX6_init_54 : decode (mC Y_X6_init) 54 = .ok (.dup, 1) := by decide +kernel
theorem dX6_init_55 : decode (mC Y_X6_init) 55 = .ok (.iconst 2, 1) := by decide +kernel
theorem dX6_init_56 : decode (mC Y_X6_init) 56 = .ok (.invokespecial 28, 3) := by decide +kernel
theorem dX6_init_59 : decode (mC Y_X6_init) 59 = .ok (.putfield 35, 3) := by decide +kernel
theorem dX6_init_62 : decode (mC Y_X6_init) 62 = .ok (.aload_n 0, 1) := by decide +kernel
theorem dX6_init_63 : decode (mC Y_X6_init) 63 = .ok (.new 38, 3) := by decide +kernel
theorem dX6_init_66 : decode (mC Y_X6_init) 66 = .ok (.dup, 1) := by decide +kernel
theorem dX6_init_67 : decode (mC Y_X6_init) 67 = .ok (.invokespecial 40, 3) := by decide +kernel
theorem dX6_init_70 : decode (mC Y_X6_init) 70 = .ok (.putfield 41, 3) := by decide +kernel
theorem dX6_init_73 : decode (mC Y_X6_init) 73 = .ok (.aload_n 0, 1) := by decide +kernel
theorem dX6_init_74 : decode (mC Y_X6_init) 74 = .ok (.new 38, 3) := by decide +kernel
theorem dX6_init_77 : decode (mC Y_X6_init) 77 = .ok (.dup, 1) := by decide +kernel
theorem dX6_init_78 : decode (mC Y_X6_init) 78 = .ok (.invokespecial 40, 3) := by decide +kernel
theorem dX6_init_81 : decode (mC Y_X6_init) 81 = .ok (.putfield 45, 3) := by decide +kernel
theorem dX6_init_84 : decode (mC Y_X6_init) 84 = .ok (.aload_n 0, 1) := by decide +kernel
theorem dX6_init_85 : decode (mC Y_X6_init) 85 = .ok (.new 48, 3) := by decide +kernel
theorem dX6_init_88 : decode (mC Y_X6_init) 88 = .ok (.dup, 1) := by decide +kernel
theorem dX6_init_89 : decode (mC Y_X6_init) 89 = .ok (.invokespecial 50, 3) := by decide +kernel
theorem dX6_init_92 : decode (mC Y_X6_init) 92 = .ok (.putfield 51, 3) := by decide +kernel
theorem dX6_init_95 : decode (mC Y_X6_init) 95 = .ok (.aload_n 0, 1) := by decide +kernel
theorem dX6_init_96 : decode (mC Y_X6_init) 96 = .ok (.new 55, 3) := by decide +kernel
theorem dX6_init_99 : decode (mC Y_X6_init) 99 = .ok (.dup, 1) := by decide +kernel
theorem dX6_init_100 : decode (mC Y_X6_init) 100 = .ok (.invokespecial 57, 3) := by decide +kernel
theorem dX6_init_103 : decode (mC Y_X6_init) 103 = .ok (.putfield 58, 3) := by decide +kernel
theorem dX6_init_106 : decode (mC Y_X6_init) 106 = .ok (.aload_n 0, 1) := by decide +kernel
theorem dX6_init_107 : decode (mC Y_X6_init) 107 = .ok (.bipush 13, 2) := by decide +kernel
theorem dX6_init_109 : decode (mC Y_X6_init) 109 = .ok (.newarray .int, 2) := by decide +kernel
theorem dX6_init_111 : decode (mC Y_X6_init) 111 = .ok (.putfield 62, 3) := by decide +kernel
theorem dX6_init_114 : decode (mC Y_X6_init) 114 = .ok (.iconst 0, 1) := by decide +kernel
theorem dX6_init_115 : decode (mC Y_X6_init) 115 = .ok (.istore_n 1, 1) := by decide +kernel
theorem dX6_init_116 : decode (mC Y_X6_init) 116 = .ok (.iload_n 1, 1) := by decide +kernel
theorem dX6_init_117 : decode (mC Y_X6_init) 117 = .ok (.iconst 4, 1) := by decide +kernel
theorem dX6_init_118 : decode (mC Y_X6_init) 118 = .ok (.iadd, 1) := by decide +kernel
theorem dX6_init_119 : decode (mC Y_X6_init) 119 = .ok (.getstatic 66, 3) := by decide +kernel
theorem dX6_init_122 : decode (mC Y_X6_init) 122 = .ok (.arraylength, 1) := by decide +kernel
theorem dX6_init_123 : decode (mC Y_X6_init) 123 = .ok (.if_icmp .ge 49, 3) := by decide +kernel
theorem dX6_init_126 : decode (mC Y_X6_init) 126 = .ok (.aload_n 0, 1) := by decide +kernel
theorem dX6_init_127 : decode (mC Y_X6_init) 127 = .ok (.getfield 19, 3) := by decide +kernel
theorem dX6_init_130 : decode (mC Y_X6_init) 130 = .ok (.getstatic 66, 3) := by decide +kernel
theorem dX6_init_133 : decode (mC Y_X6_init) 133 = .ok (.iload_n 1, 1) := by decide +kernel
theorem dX6_init_134 : decode (mC Y_X6_init) 134 = .ok (.iaload, 1) := by decide +kernel
theorem dX6_init_135 : decode (mC Y_X6_init) 135 = .ok (.getstatic 66, 3) := by decide +kernel
theorem dX6_init_138 : decode (mC Y_X6_init) 138 = .ok (.iload_n 1, 1) := by decide +kernel
theorem dX6_init_139 : decode (mC Y_X6_init) 139 = .ok (.iconst 1, 1) := by decide +kernel
theorem dX6_init_140 : decode (mC Y_X6_init) 140 = .ok (.iadd, 1) := by decide +kernel
theorem dX6_init_141 : decode (mC Y_X6_init) 141 = .ok (.iaload, 1) := by decide +kernel
theorem dX6_init_142 : decode (mC Y_X6_init) 142 = .ok (.getstatic 66, 3) := by decide +kernel
theorem dX6_init_145 : decode (mC Y_X6_init) 145 = .ok (.iload_n 1, 1) := by decide +kernel
theorem dX6_init_146 : decode (mC Y_X6_init) 146 = .ok (.iconst 2, 1) := by decide +kernel
theorem dX6_init_147 : decode (mC Y_X6_init) 147 = .ok (.iadd, 1) := by decide +kernel
theorem dX6_init_148 : decode (mC Y_X6_init) 148 = .ok (.iaload, 1) := by decide +kernel
theorem dX6_init_149 : decode (mC Y_X6_init) 149 = .ok (.getstatic 66, 3) := by decide +kernel
theorem dX6_init_152 : decode (mC Y_X6_init) 152 = .ok (.iload_n 1, 1) := by decide +kernel
theorem dX6_init_153 : decode (mC Y_X6_init) 153 = .ok (.iconst 3, 1) := by decide +kernel
theorem dX6_init_154 : decode (mC Y_X6_init) 154 = .ok (.iadd, 1) := by decide +kernel
theorem dX6_init_155 : decode (mC Y_X6_init) 155 = .ok (.iaload, 1) := by decide +kernel
theorem dX6_init_156 : decode (mC Y_X6_init) 156 = .ok (.getstatic 66, 3) := by decide +kernel
theorem dX6_init_159 : decode (mC Y_X6_init) 159 = .ok (.iload_n 1, 1) := by decide +kernel
theorem dX6_init_160 : decode (mC Y_X6_init) 160 = .ok (.iconst 4, 1) := by decide +kernel
theorem dX6_init_161 : decode (mC Y_X6_init) 161 = .ok (.iadd, 1) := by decide +kernel
theorem dX6_init_162 : decode (mC Y_X6_init) 162 = .ok (.iaload, 1) := by decide +kernel
theorem dX6_init_163 : decode (mC Y_X6_init) 163 = .ok (.invokevirtual 69, 3) := by decide +kernel
theorem dX6_init_166 : decode (mC Y_X6_init) 166 = .ok (.iinc 1 5, 3) := by decide +kernel
theorem dX6_init_169 : decode (mC Y_X6_init) 169 = .ok (.goto (-53), 3) := by decide +kernel
theorem dX6_init_172 : decode (mC Y_X6_init) 172 = .ok (.return_, 1) := by decide +kernel
theorem dX6_write_0 : decode (mC Y_X6_write) 0 = .ok (.iload_n 1, 1) := by decide +kernel
theorem dX6_write_1 : decode (mC Y_X6_write) 1 = .ok (.bipush 32, 2) := by decide +kernel
theorem dX6_write_3 : decode (mC Y_X6_write) 3 = .ok (.bipush 126, 2) := by decide +kernel
theorem dX6_write_5 : decode (mC Y_X6_write) 5 = .ok (.invokestatic 73, 3) := by decide +kernel
theorem dX6_write_8 : decode (mC Y_X6_write) 8 = .ok (.ifCond .eq 5, 3) := by decide +kernel
theorem dX6_write_11 : decode (mC Y_X6_write) 11 = .ok (.iconst (-1), 1) := by decide +kernel
theorem dX6_write_12 : decode (mC Y_X6_write) 12 = .ok (.ireturn, 1) := by decide +kernel
theorem dX6_write_13 : decode (mC Y_X6_write) 13 = .ok (.aload_n 0, 1) := by decide +kernel
theorem dX6_write_14 : decode (mC Y_X6_write) 14 = .ok (.getfield 10, 3) := by decide +kernel
theorem dX6_write_17 : decode (mC Y_X6_write) 17 = .ok (.iload_n 1, 1) := by decide +kernel
theorem dX6_write_18 : decode (mC Y_X6_write) 18 = .ok (.i2c, 1) := by decide +kernel
theorem dX6_write_19 : decode (mC Y_X6_write) 19 = .ok (.invokevirtual 77, 3) := by decide +kernel
theorem dX6_write_22 : decode (mC Y_X6_write) 22 = .ok (.ifCond .eq 13, 3) := by decide +kernel
theorem dX6_write_25 : decode (mC Y_X6_write) 25 = .ok (.aload_n 0, 1) := by decide +kernel
theorem dX6_write_26 : decode (mC Y_X6_write) 26 = .ok (.getfield 10, 3) := by decide +kernel
theorem dX6_write_29 : decode (mC Y_X6_write) 29 = .ok (.invokevirtual 81, 3) := by decide +kernel
theorem dX6_write_32 : decode (mC Y_X6_write) 32 = .ok (.goto 5, 3) := by decide +kernel
theorem dX6_write_35 : decode (mC Y_X6_write) 35 = .ok (.bipush (-3), 2) := by decide +kernel
theorem dX6_write_37 : decode (mC Y_X6_write) 37 = .ok (.ireturn, 1) := by decide +kernel
theorem dX6_wipe_0 : decode (mC Y_X6_wipe) 0 = .ok (.aload_n 0, 1) := by decide +kernel
theorem dX6_wipe_1 : decode (mC Y_X6_wipe) 1 = .ok (.getfield 10, 3) := by decide +kernel
theorem dX6_wipe_4 : decode (mC Y_X6_wipe) 4 = .ok (.invokevirtual 85, 3) := by decide +kernel
theorem dX6_wipe_7 : decode (mC Y_X6_wipe) 7 = .ok (.ireturn, 1) := by decide +kernel
theorem dX6_fault_0 : decode (mC Y_X6_fault) 0 = .ok (.aload_n 0, 1) := by decide +kernel
theorem dX6_fault_1 : decode (mC Y_X6_fault) 1 = .ok (.getfield 10, 3) := by decide +kernel
theorem dX6_fault_4 : decode (mC Y_X6_fault) 4 = .ok (.aload_n 0, 1) := by decide +kernel
theorem dX6_fault_5 : decode (mC Y_X6_fault) 5 = .ok (.getfield 23, 3) := by decide +kernel
theorem dX6_fault_8 : decode (mC Y_X6_fault) 8 = .ok (.invokevirtual 88, 3) := by decide +kernel
theorem dX6_fault_11 : decode (mC Y_X6_fault) 11 = .ok (.ireturn, 1) := by decide +kernel
theorem dX6_lay_0 : decode (mC Y_X6_lay) 0 = .ok (.aload_n 0, 1) := by decide +kernel
theorem dX6_lay_1 : decode (mC Y_X6_lay) 1 = .ok (.getfield 10, 3) := by decide +kernel
theorem dX6_lay_4 : decode (mC Y_X6_lay) 4 = .ok (.aload_n 0, 1) := by decide +kernel
theorem dX6_lay_5 : decode (mC Y_X6_lay) 5 = .ok (.getfield 23, 3) := by decide +kernel
theorem dX6_lay_8 : decode (mC Y_X6_lay) 8 = .ok (.invokevirtual 88, 3) := by decide +kernel
theorem dX6_lay_11 : decode (mC Y_X6_lay) 11 = .ok (.bipush (-4), 2) := by decide +kernel
theorem dX6_lay_13 : decode (mC Y_X6_lay) 13 = .ok (.if_icmp .ne 13, 3) := by decide +kernel
theorem dX6_lay_16 : decode (mC Y_X6_lay) 16 = .ok (.aload_n 0, 1) := by decide +kernel
theorem dX6_lay_17 : decode (mC Y_X6_lay) 17 = .ok (.getfield 23, 3) := by decide +kernel
theorem dX6_lay_20 : decode (mC Y_X6_lay) 20 = .ok (.invokevirtual 92, 3) := by decide +kernel
theorem dX6_lay_23 : decode (mC Y_X6_lay) 23 = .ok (.ifCond .ne 6, 3) := by decide +kernel
theorem dX6_lay_26 : decode (mC Y_X6_lay) 26 = .ok (.bipush (-2), 2) := by decide +kernel
theorem dX6_lay_28 : decode (mC Y_X6_lay) 28 = .ok (.ireturn, 1) := by decide +kernel
theorem dX6_lay_29 : decode (mC Y_X6_lay) 29 = .ok (.aload_n 0, 1) := by decide +kernel
theorem dX6_lay_30 : decode (mC Y_X6_lay) 30 = .ok (.getfield 19, 3) := by decide +kernel
theorem dX6_lay_33 : decode (mC Y_X6_lay) 33 = .ok (.aload_n 0, 1) := by decide +kernel
theorem dX6_lay_34 : decode (mC Y_X6_lay) 34 = .ok (.getfield 23, 3) := by decide +kernel
theorem dX6_lay_37 : decode (mC Y_X6_lay) 37 = .ok (.invokevirtual 95, 3) := by decide +kernel
theorem dX6_lay_40 : decode (mC Y_X6_lay) 40 = .ok (.aload_n 0, 1) := by decide +kernel
theorem dX6_lay_41 : decode (mC Y_X6_lay) 41 = .ok (.getfield 41, 3) := by decide +kernel
theorem dX6_lay_44 : decode (mC Y_X6_lay) 44 = .ok (.invokevirtual 99, 3) := by decide +kernel
theorem dX6_lay_47 : decode (mC Y_X6_lay) 47 = .ok (.pop, 1) := by decide +kernel
theorem dX6_lay_48 : decode (mC Y_X6_lay) 48 = .ok (.aload_n 0, 1) := by decide +kernel
theorem dX6_lay_49 : decode (mC Y_X6_lay) 49 = .ok (.getfield 45, 3) := by decide +kernel
theorem dX6_lay_52 : decode (mC Y_X6_lay) 52 = .ok (.invokevirtual 99, 3) := by decide +kernel
theorem dX6_lay_55 : decode (mC Y_X6_lay) 55 = .ok (.pop, 1) := by decide +kernel
theorem dX6_lay_56 : decode (mC Y_X6_lay) 56 = .ok (.aload_n 0, 1) := by decide +kernel
theorem dX6_lay_57 : decode (mC Y_X6_lay) 57 = .ok (.getfield 31, 3) := by decide +kernel
theorem dX6_lay_60 : decode (mC Y_X6_lay) 60 = .ok (.invokevirtual 100, 3) := by decide +kernel
theorem dX6_lay_63 : decode (mC Y_X6_lay) 63 = .ok (.aload_n 0, 1) := by decide +kernel
theorem dX6_lay_64 : decode (mC Y_X6_lay) 64 = .ok (.getfield 35, 3) := by decide +kernel
theorem dX6_lay_67 : decode (mC Y_X6_lay) 67 = .ok (.invokevirtual 100, 3) := by decide +kernel
theorem dX6_lay_70 : decode (mC Y_X6_lay) 70 = .ok (.aload_n 0, 1) := by decide +kernel
theorem dX6_lay_71 : decode (mC Y_X6_lay) 71 = .ok (.getfield 19, 3) := by decide +kernel
theorem dX6_lay_74 : decode (mC Y_X6_lay) 74 = .ok (.invokevirtual 92, 3) := by decide +kernel
theorem dX6_lay_77 : decode (mC Y_X6_lay) 77 = .ok (.ireturn, 1) := by decide +kernel
theorem dX6_noPerson_0 : decode (mC Y_X6_noPerson) 0 = .ok (.iload_n 1, 1) := by decide +kernel
theorem dX6_noPerson_1 : decode (mC Y_X6_noPerson) 1 = .ok (.iconst 0, 1) := by decide +kernel
theorem dX6_noPerson_2 : decode (mC Y_X6_noPerson) 2 = .ok (.aload_n 0, 1) := by decide +kernel
theorem dX6_noPerson_3 : decode (mC Y_X6_noPerson) 3 = .ok (.getfield 19, 3) := by decide +kernel
theorem dX6_noPerson_6 : decode (mC Y_X6_noPerson) 6 = .ok (.invokevirtual 92, 3) := by decide +kernel
theorem dX6_noPerson_9 : decode (mC Y_X6_noPerson) 9 = .ok (.iconst 1, 1) := by decide +kernel
theorem dX6_noPerson_10 : decode (mC Y_X6_noPerson) 10 = .ok (.isub, 1) := by decide +kernel
theorem dX6_noPerson_11 : decode (mC Y_X6_noPerson) 11 = .ok (.invokestatic 73, 3) := by decide +kernel
theorem dX6_noPerson_14 : decode (mC Y_X6_noPerson) 14 = .ok (.ireturn, 1) := by decide +kernel
theorem dX6_person_0 : decode (mC Y_X6_person) 0 = .ok (.aload_n 0, 1) := by decide +kernel
theorem dX6_person_1 : decode (mC Y_X6_person) 1 = .ok (.iload_n 1, 1) := by decide +kernel
theorem dX6_person_2 : decode (mC Y_X6_person) 2 = .ok (.invokevirtual 102, 3) := by decide +kernel
theorem dX6_person_5 : decode (mC Y_X6_person) 5 = .ok (.ifCond .ne 12, 3) := by decide +kernel
theorem dX6_person_8 : decode (mC Y_X6_person) 8 = .ok (.iload_n 2, 1) := by decide +kernel
theorem dX6_person_9 : decode (mC Y_X6_person) 9 = .ok (.iconst 0, 1) := by decide +kernel
theorem dX6_person_10 : decode (mC Y_X6_person) 10 = .ok (.iconst 4, 1) := by decide +kernel
theorem dX6_person_11 : decode (mC Y_X6_person) 11 = .ok (.invokestatic 73, 3) := by decide +kernel
theorem dX6_person_14 : decode (mC Y_X6_person) 14 = .ok (.ifCond .eq 5, 3) := by decide +kernel
theorem dX6_person_17 : decode (mC Y_X6_person) 17 = .ok (.iconst (-1), 1) := by decide +kernel
theorem dX6_person_18 : decode (mC Y_X6_person) 18 = .ok (.ireturn, 1) := by decide +kernel
theorem dX6_person_19 : decode (mC Y_X6_person) 19 = .ok (.iload_n 2, 1) := by decide +kernel
theorem dX6_person_20 : decode (mC Y_X6_person) 20 = .ok (.tableswitch 68 0 3 #[32, 41, 50, 59], 32) := by decide +kernel
theorem dX6_person_52 : decode (mC Y_X6_person) 52 = .ok (.aload_n 0, 1) := by decide +kernel
theorem dX6_person_53 : decode (mC Y_X6_person) 53 = .ok (.getfield 19, 3) := by decide +kernel
theorem dX6_person_56 : decode (mC Y_X6_person) 56 = .ok (.iload_n 1, 1) := by decide +kernel
theorem dX6_person_57 : decode (mC Y_X6_person) 57 = .ok (.invokevirtual 106, 3) := by decide +kernel
theorem dX6_person_60 : decode (mC Y_X6_person) 60 = .ok (.ireturn, 1) := by decide +kernel
theorem dX6_person_61 : decode (mC Y_X6_person) 61 = .ok (.aload_n 0, 1) := by decide +kernel
theorem dX6_person_62 : decode (mC Y_X6_person) 62 = .ok (.getfield 19, 3) := by decide +kernel
theorem dX6_person_65 : decode (mC Y_X6_person) 65 = .ok (.iload_n 1, 1) := by decide +kernel
theorem dX6_person_66 : decode (mC Y_X6_person) 66 = .ok (.invokevirtual 110, 3) := by decide +kernel
theorem dX6_person_69 : decode (mC Y_X6_person) 69 = .ok (.ireturn, 1) := by decide +kernel
theorem dX6_person_70 : decode (mC Y_X6_person) 70 = .ok (.aload_n 0, 1) := by decide +kernel
theorem dX6_person_71 : decode (mC Y_X6_person) 71 = .ok (.getfield 19, 3) := by decide +kernel
theorem dX6_person_74 : decode (mC Y_X6_person) 74 = .ok (.iload_n 1, 1) := by decide +kernel
theorem dX6_person_75 : decode (mC Y_X6_person) 75 = .ok (.invokevirtual 113, 3) := by decide +kernel
theorem dX6_person_78 : decode (mC Y_X6_person) 78 = .ok (.ireturn, 1) := by decide +kernel
theorem dX6_person_79 : decode (mC Y_X6_person) 79 = .ok (.aload_n 0, 1) := by decide +kernel
theorem dX6_person_80 : decode (mC Y_X6_person) 80 = .ok (.getfield 19, 3) := by decide +kernel
theorem dX6_person_83 : decode (mC Y_X6_person) 83 = .ok (.iload_n 1, 1) := by decide +kernel
theorem dX6_person_84 : decode (mC Y_X6_person) 84 = .ok (.invokevirtual 116, 3) := by decide +kernel
theorem dX6_person_87 : decode (mC Y_X6_person) 87 = .ok (.ireturn, 1) := by decide +kernel
theorem dX6_person_88 : decode (mC Y_X6_person) 88 = .ok (.aload_n 0, 1) := by decide +kernel
theorem dX6_person_89 : decode (mC Y_X6_person) 89 = .ok (.getfield 19, 3) := by decide +kernel
theorem dX6_person_92 : decode (mC Y_X6_person) 92 = .ok (.iload_n 1, 1) := by decide +kernel
theorem dX6_person_93 : decode (mC Y_X6_person) 93 = .ok (.invokevirtual 119, 3) := by decide +kernel
theorem dX6_person_96 : decode (mC Y_X6_person) 96 = .ok (.ireturn, 1) := by decide +kernel
theorem dX6_noPair_0 : decode (mC Y_X6_noPair) 0 = .ok (.aload_n 0, 1) := by decide +kernel
theorem dX6_noPair_1 : decode (mC Y_X6_noPair) 1 = .ok (.iload_n 1, 1) := by decide +kernel
theorem dX6_noPair_2 : decode (mC Y_X6_noPair) 2 = .ok (.invokevirtual 102, 3) := by decide +kernel
theorem dX6_noPair_5 : decode (mC Y_X6_noPair) 5 = .ok (.ifCond .ne 16, 3) := by decide +kernel
theorem dX6_noPair_8 : decode (mC Y_X6_noPair) 8 = .ok (.aload_n 0, 1) := by decide +kernel
theorem dX6_noPair_9 : decode (mC Y_X6_noPair) 9 = .ok (.iload_n 2, 1) := by decide +kernel
theorem dX6_noPair_10 : decode (mC Y_X6_noPair) 10 = .ok (.invokevirtual 102, 3) := by decide +kernel
theorem dX6_noPair_13 : decode (mC Y_X6_noPair) 13 = .ok (.ifCond .ne 8, 3) := by decide +kernel
theorem dX6_noPair_16 : decode (mC Y_X6_noPair) 16 = .ok (.iload_n 1, 1) := by decide +kernel
theorem dX6_noPair_17 : decode (mC Y_X6_noPair) 17 = .ok (.iload_n 2, 1) := by decide +kernel
theorem dX6_noPair_18 : decode (mC Y_X6_noPair) 18 = .ok (.if_icmp .ne 7, 3) := by decide +kernel
theorem dX6_noPair_21 : decode (mC Y_X6_noPair) 21 = .ok (.iconst 1, 1) := by decide +kernel
theorem dX6_noPair_22 : decode (mC Y_X6_noPair) 22 = .ok (.goto 4, 3) := by decide +kernel
theorem dX6_noPair_25 : decode (mC Y_X6_noPair) 25 = .ok (.iconst 0, 1) := by decide +kernel
theorem dX6_noPair_26 : decode (mC Y_X6_noPair) 26 = .ok (.ireturn, 1) := by decide +kernel
theorem dX6_near_0 : decode (mC Y_X6_near) 0 = .ok (.aload_n 0, 1) := by decide +kernel
theorem dX6_near_1 : decode (mC Y_X6_near) 1 = .ok (.iload_n 1, 1) := by decide +kernel
theorem dX6_near_2 : decode (mC Y_X6_near) 2 = .ok (.iload_n 2, 1) := by decide +kernel
theorem dX6_near_3 : decode (mC Y_X6_near) 3 = .ok (.invokevirtual 122, 3) := by decide +kernel
theorem dX6_near_6 : decode (mC Y_X6_near) 6 = .ok (.ifCond .eq 7, 3) := by decide +kernel
theorem dX6_near_9 : decode (mC Y_X6_near) 9 = .ok (.iconst (-1), 1) := by decide +kernel
theorem dX6_near_10 : decode (mC Y_X6_near) 10 = .ok (.goto 12, 3) := by decide +kernel
theorem dX6_near_13 : decode (mC Y_X6_near) 13 = .ok (.aload_n 0, 1) := by decide +kernel
theorem dX6_near_14 : decode (mC Y_X6_near) 14 = .ok (.getfield 19, 3) := by decide +kernel
theorem dX6_near_17 : decode (mC Y_X6_near) 17 = .ok (.iload_n 1, 1) := by decide +kernel
theorem dX6_near_18 : decode (mC Y_X6_near) 18 = .ok (.iload_n 2, 1) := by decide +kernel
theorem dX6_near_19 : decode (mC Y_X6_near) 19 = .ok (.invokevirtual 126, 3) := by decide +kernel
theorem dX6_near_22 : decode (mC Y_X6_near) 22 = .ok (.ireturn, 1) := by decide +kernel
theorem dX6_noDoor_0 : decode (mC Y_X6_noDoor) 0 = .ok (.iload_n 0, 1) := by decide +kernel
theorem dX6_noDoor_1 : decode (mC Y_X6_noDoor) 1 = .ok (.iconst 0, 1) := by decide +kernel
theorem dX6_noDoor_2 : decode (mC Y_X6_noDoor) 2 = .ok (.iconst 5, 1) := by decide +kernel
theorem dX6_noDoor_3 : decode (mC Y_X6_noDoor) 3 = .ok (.invokestatic 73, 3) := by decide +kernel
theorem dX6_noDoor_6 : decode (mC Y_X6_noDoor) 6 = .ok (.ireturn, 1) := by decide +kernel
theorem dX6_about_0 : decode (mC Y_X6_about) 0 = .ok (.iload_n 1, 1) := by decide +kernel
theorem dX6_about_1 : decode (mC Y_X6_about) 1 = .ok (.invokestatic 130, 3) := by decide +kernel
theorem dX6_about_4 : decode (mC Y_X6_about) 4 = .ok (.ifCond .eq 7, 3) := by decide +kernel
theorem dX6_about_7 : decode (mC Y_X6_about) 7 = .ok (.iconst (-1), 1) := by decide +kernel
theorem dX6_about_8 : decode (mC Y_X6_about) 8 = .ok (.goto 11, 3) := by decide +kernel
theorem dX6_about_11 : decode (mC Y_X6_about) 11 = .ok (.aload_n 0, 1) := by decide +kernel
theorem dX6_about_12 : decode (mC Y_X6_about) 12 = .ok (.getfield 19, 3) := by decide +kernel
theorem dX6_about_15 : decode (mC Y_X6_about) 15 = .ok (.iload_n 1, 1) := by decide +kernel
theorem dX6_about_16 : decode (mC Y_X6_about) 16 = .ok (.invokevirtual 133, 3) := by decide +kernel
theorem dX6_about_19 : decode (mC Y_X6_about) 19 = .ok (.ireturn, 1) := by decide +kernel
theorem dX6_pass_0 : decode (mC Y_X6_pass) 0 = .ok (.iload_n 1, 1) := by decide +kernel
theorem dX6_pass_1 : decode (mC Y_X6_pass) 1 = .ok (.iconst 1, 1) := by decide +kernel
theorem dX6_pass_2 : decode (mC Y_X6_pass) 2 = .ok (.bipush 20, 2) := by decide +kernel
theorem dX6_pass_4 : decode (mC Y_X6_pass) 4 = .ok (.invokestatic 73, 3) := by decide +kernel
theorem dX6_pass_7 : decode (mC Y_X6_pass) 7 = .ok (.ifCond .eq 5, 3) := by decide +kernel
theorem dX6_pass_10 : decode (mC Y_X6_pass) 10 = .ok (.iconst (-1), 1) := by decide +kernel
theorem dX6_pass_11 : decode (mC Y_X6_pass) 11 = .ok (.ireturn, 1) := by decide +kernel
theorem dX6_pass_12 : decode (mC Y_X6_pass) 12 = .ok (.aload_n 0, 1) := by decide +kernel
theorem dX6_pass_13 : decode (mC Y_X6_pass) 13 = .ok (.getfield 19, 3) := by decide +kernel
theorem dX6_pass_16 : decode (mC Y_X6_pass) 16 = .ok (.invokevirtual 136, 3) := by decide +kernel
theorem dX6_pass_19 : decode (mC Y_X6_pass) 19 = .ok (.iload_n 1, 1) := by decide +kernel
theorem dX6_pass_20 : decode (mC Y_X6_pass) 20 = .ok (.iadd, 1) := by decide +kernel
theorem dX6_pass_21 : decode (mC Y_X6_pass) 21 = .ok (.sipush 999, 3) := by decide +kernel
theorem dX6_pass_24 : decode (mC Y_X6_pass) 24 = .ok (.if_icmp .le 6, 3) := by decide +kernel
theorem dX6_pass_27 : decode (mC Y_X6_pass) 27 = .ok (.bipush (-2), 2) := by decide +kernel
theorem dX6_pass_29 : decode (mC Y_X6_pass) 29 = .ok (.ireturn, 1) := by decide +kernel
theorem dX6_pass_30 : decode (mC Y_X6_pass) 30 = .ok (.aload_n 0, 1) := by decide +kernel
theorem dX6_pass_31 : decode (mC Y_X6_pass) 31 = .ok (.getfield 31, 3) := by decide +kernel
theorem dX6_pass_34 : decode (mC Y_X6_pass) 34 = .ok (.aload_n 0, 1) := by decide +kernel
theorem dX6_pass_35 : decode (mC Y_X6_pass) 35 = .ok (.getfield 19, 3) := by decide +kernel
theorem dX6_pass_38 : decode (mC Y_X6_pass) 38 = .ok (.invokevirtual 139, 3) := by decide +kernel
theorem dX6_pass_41 : decode (mC Y_X6_pass) 41 = .ok (.aload_n 0, 1) := by decide +kernel
theorem dX6_pass_42 : decode (mC Y_X6_pass) 42 = .ok (.getfield 19, 3) := by decide +kernel
theorem dX6_pass_45 : decode (mC Y_X6_pass) 45 = .ok (.iload_n 1, 1) := by decide +kernel
theorem dX6_pass_46 : decode (mC Y_X6_pass) 46 = .ok (.invokevirtual 142, 3) := by decide +kernel
theorem dX6_pass_49 : decode (mC Y_X6_pass) 49 = .ok (.ireturn, 1) := by decide +kernel
theorem dX6_weave_0 : decode (mC Y_X6_weave) 0 = .ok (.aload_n 0, 1) := by decide +kernel
theorem dX6_weave_1 : decode (mC Y_X6_weave) 1 = .ok (.iload_n 1, 1) := by decide +kernel
theorem dX6_weave_2 : decode (mC Y_X6_weave) 2 = .ok (.invokevirtual 102, 3) := by decide +kernel
theorem dX6_weave_5 : decode (mC Y_X6_weave) 5 = .ok (.ifCond .ne 20, 3) := by decide +kernel
theorem dX6_weave_8 : decode (mC Y_X6_weave) 8 = .ok (.iload_n 2, 1) := by decide +kernel
theorem dX6_weave_9 : decode (mC Y_X6_weave) 9 = .ok (.invokestatic 130, 3) := by decide +kernel
theorem dX6_weave_12 : decode (mC Y_X6_weave) 12 = .ok (.ifCond .ne 13, 3) := by decide +kernel
theorem dX6_weave_15 : decode (mC Y_X6_weave) 15 = .ok (.iload_n 3, 1) := by decide +kernel
theorem dX6_weave_16 : decode (mC Y_X6_weave) 16 = .ok (.iconst 1, 1) := by decide +kernel
theorem dX6_weave_17 : decode (mC Y_X6_weave) 17 = .ok (.bipush 9, 2) := by decide +kernel
theorem dX6_weave_19 : decode (mC Y_X6_weave) 19 = .ok (.invokestatic 73, 3) := by decide +kernel
theorem dX6_weave_22 : decode (mC Y_X6_weave) 22 = .ok (.ifCond .eq 5, 3) := by decide +kernel
theorem dX6_weave_25 : decode (mC Y_X6_weave) 25 = .ok (.iconst (-1), 1) := by decide +kernel
theorem dX6_weave_26 : decode (mC Y_X6_weave) 26 = .ok (.ireturn, 1) := by decide +kernel
theorem dX6_weave_27 : decode (mC Y_X6_weave) 27 = .ok (.aload_n 0, 1) := by decide +kernel
theorem dX6_weave_28 : decode (mC Y_X6_weave) 28 = .ok (.getfield 19, 3) := by decide +kernel
theorem dX6_weave_31 : decode (mC Y_X6_weave) 31 = .ok (.iload_n 1, 1) := by decide +kernel
theorem dX6_weave_32 : decode (mC Y_X6_weave) 32 = .ok (.invokevirtual 110, 3) := by decide +kernel
theorem dX6_weave_35 : decode (mC Y_X6_weave) 35 = .ok (.iload_n 2, 1) := by decide +kernel
theorem dX6_weave_36 : decode (mC Y_X6_weave) 36 = .ok (.if_icmp .ne 18, 3) := by decide +kernel
theorem dX6_weave_39 : decode (mC Y_X6_weave) 39 = .ok (.aload_n 0, 1) := by decide +kernel
theorem dX6_weave_40 : decode (mC Y_X6_weave) 40 = .ok (.getfield 19, 3) := by decide +kernel
theorem dX6_weave_43 : decode (mC Y_X6_weave) 43 = .ok (.iload_n 1, 1) := by decide +kernel
theorem dX6_weave_44 : decode (mC Y_X6_weave) 44 = .ok (.invokevirtual 113, 3) := by decide +kernel
theorem dX6_weave_47 : decode (mC Y_X6_weave) 47 = .ok (.iload_n 3, 1) := by decide +kernel
theorem dX6_weave_48 : decode (mC Y_X6_weave) 48 = .ok (.if_icmp .ne 6, 3) := by decide +kernel
theorem dX6_weave_51 : decode (mC Y_X6_weave) 51 = .ok (.bipush (-2), 2) := by decide +kernel
theorem dX6_weave_53 : decode (mC Y_X6_weave) 53 = .ok (.ireturn, 1) := by decide +kernel
theorem dX6_weave_54 : decode (mC Y_X6_weave) 54 = .ok (.aload_n 0, 1) := by decide +kernel
theorem dX6_weave_55 : decode (mC Y_X6_weave) 55 = .ok (.getfield 31, 3) := by decide +kernel
theorem dX6_weave_58 : decode (mC Y_X6_weave) 58 = .ok (.aload_n 0, 1) := by decide +kernel
theorem dX6_weave_59 : decode (mC Y_X6_weave) 59 = .ok (.getfield 19, 3) := by decide +kernel
theorem dX6_weave_62 : decode (mC Y_X6_weave) 62 = .ok (.invokevirtual 139, 3) := by decide +kernel
theorem dX6_weave_65 : decode (mC Y_X6_weave) 65 = .ok (.aload_n 0, 1) := by decide +kernel
theorem dX6_weave_66 : decode (mC Y_X6_weave) 66 = .ok (.getfield 19, 3) := by decide +kernel
theorem dX6_weave_69 : decode (mC Y_X6_weave) 69 = .ok (.iload_n 1, 1) := by decide +kernel
theorem dX6_weave_70 : decode (mC Y_X6_weave) 70 = .ok (.iload_n 2, 1) := by decide +kernel
theorem dX6_weave_71 : decode (mC Y_X6_weave) 71 = .ok (.iload_n 3, 1) := by decide +kernel
theorem dX6_weave_72 : decode (mC Y_X6_weave) 72 = .ok (.invokevirtual 145, 3) := by decide +kernel
theorem dX6_weave_75 : decode (mC Y_X6_weave) 75 = .ok (.aload_n 0, 1) := by decide +kernel
theorem dX6_weave_76 : decode (mC Y_X6_weave) 76 = .ok (.getfield 19, 3) := by decide +kernel
theorem dX6_weave_79 : decode (mC Y_X6_weave) 79 = .ok (.iload_n 2, 1) := by decide +kernel
theorem dX6_weave_80 : decode (mC Y_X6_weave) 80 = .ok (.invokevirtual 133, 3) := by decide +kernel
theorem dX6_weave_83 : decode (mC Y_X6_weave) 83 = .ok (.invokestatic 149, 3) := by decide +kernel
theorem dX6_weave_86 : decode (mC Y_X6_weave) 86 = .ok (.ireturn, 1) := by decide +kernel
theorem dX6_off_0 : decode (mC Y_X6_off) 0 = .ok (.aload_n 0, 1) := by decide +kernel
theorem dX6_off_1 : decode (mC Y_X6_off) 1 = .ok (.iload_n 1, 1) := by decide +kernel
theorem dX6_off_2 : decode (mC Y_X6_off) 2 = .ok (.invokevirtual 102, 3) := by decide +kernel
theorem dX6_off_5 : decode (mC Y_X6_off) 5 = .ok (.ifCond .eq 5, 3) := by decide +kernel
theorem dX6_off_8 : decode (mC Y_X6_off) 8 = .ok (.iconst (-1), 1) := by decide +kernel
theorem dX6_off_9 : decode (mC Y_X6_off) 9 = .ok (.ireturn, 1) := by decide +kernel
theorem dX6_off_10 : decode (mC Y_X6_off) 10 = .ok (.aload_n 0, 1) := by decide +kernel
theorem dX6_off_11 : decode (mC Y_X6_off) 11 = .ok (.getfield 19, 3) := by decide +kernel
theorem dX6_off_14 : decode (mC Y_X6_off) 14 = .ok (.iload_n 1, 1) := by decide +kernel
theorem dX6_off_15 : decode (mC Y_X6_off) 15 = .ok (.invokevirtual 110, 3) := by decide +kernel
theorem dX6_off_18 : decode (mC Y_X6_off) 18 = .ok (.istore_n 2, 1) := by decide +kernel
theorem dX6_off_19 : decode (mC Y_X6_off) 19 = .ok (.iload_n 2, 1) := by decide +kernel
theorem dX6_off_20 : decode (mC Y_X6_off) 20 = .ok (.bipush (-4), 2) := by decide +kernel
theorem dX6_off_22 : decode (mC Y_X6_off) 22 = .ok (.if_icmp .ne 6, 3) := by decide +kernel
theorem dX6_off_25 : decode (mC Y_X6_off) 25 = .ok (.bipush (-2), 2) := by decide +kernel
theorem dX6_off_27 : decode (mC Y_X6_off) 27 = .ok (.ireturn, 1) := by decide +kernel
theorem dX6_off_28 : decode (mC Y_X6_off) 28 = .ok (.aload_n 0, 1) := by decide +kernel
theorem dX6_off_29 : decode (mC Y_X6_off) 29 = .ok (.getfield 31, 3) := by decide +kernel
theorem dX6_off_32 : decode (mC Y_X6_off) 32 = .ok (.aload_n 0, 1) := by decide +kernel
theorem dX6_off_33 : decode (mC Y_X6_off) 33 = .ok (.getfield 19, 3) := by decide +kernel
theorem dX6_off_36 : decode (mC Y_X6_off) 36 = .ok (.invokevirtual 139, 3) := by decide +kernel
theorem dX6_off_39 : decode (mC Y_X6_off) 39 = .ok (.aload_n 0, 1) := by decide +kernel
theorem dX6_off_40 : decode (mC Y_X6_off) 40 = .ok (.getfield 19, 3) := by decide +kernel
theorem dX6_off_43 : decode (mC Y_X6_off) 43 = .ok (.iload_n 1, 1) := by decide +kernel
theorem dX6_off_44 : decode (mC Y_X6_off) 44 = .ok (.bipush (-4), 2) := by decide +kernel
theorem dX6_off_46 : decode (mC Y_X6_off) 46 = .ok (.bipush (-4), 2) := by decide +kernel
theorem dX6_off_48 : decode (mC Y_X6_off) 48 = .ok (.invokevirtual 145, 3) := by decide +kernel
theorem dX6_off_51 : decode (mC Y_X6_off) 51 = .ok (.iload_n 2, 1) := by decide +kernel
theorem dX6_off_52 : decode (mC Y_X6_off) 52 = .ok (.ireturn, 1) := by decide +kernel
theorem dX6_pace_0 : decode (mC Y_X6_pace) 0 = .ok (.aload_n 0, 1) := by decide +kernel
theorem dX6_pace_1 : decode (mC Y_X6_pace) 1 = .ok (.iload_n 1, 1) := by decide +kernel
theorem dX6_pace_2 : decode (mC Y_X6_pace) 2 = .ok (.invokevirtual 102, 3) := by decide +kernel
theorem dX6_pace_5 : decode (mC Y_X6_pace) 5 = .ok (.ifCond .ne 13, 3) := by decide +kernel
theorem dX6_pace_8 : decode (mC Y_X6_pace) 8 = .ok (.iload_n 2, 1) := by decide +kernel
theorem dX6_pace_9 : decode (mC Y_X6_pace) 9 = .ok (.iconst 0, 1) := by decide +kernel
theorem dX6_pace_10 : decode (mC Y_X6_pace) 10 = .ok (.bipush 11, 2) := by decide +kernel
theorem dX6_pace_12 : decode (mC Y_X6_pace) 12 = .ok (.invokestatic 73, 3) := by decide +kernel
theorem dX6_pace_15 : decode (mC Y_X6_pace) 15 = .ok (.ifCond .eq 5, 3) := by decide +kernel
theorem dX6_pace_18 : decode (mC Y_X6_pace) 18 = .ok (.iconst (-1), 1) := by decide +kernel
theorem dX6_pace_19 : decode (mC Y_X6_pace) 19 = .ok (.ireturn, 1) := by decide +kernel
theorem dX6_pace_20 : decode (mC Y_X6_pace) 20 = .ok (.aload_n 0, 1) := by decide +kernel
theorem dX6_pace_21 : decode (mC Y_X6_pace) 21 = .ok (.getfield 19, 3) := by decide +kernel
theorem dX6_pace_24 : decode (mC Y_X6_pace) 24 = .ok (.iload_n 1, 1) := by decide +kernel
theorem dX6_pace_25 : decode (mC Y_X6_pace) 25 = .ok (.invokevirtual 119, 3) := by decide +kernel
theorem dX6_pace_28 : decode (mC Y_X6_pace) 28 = .ok (.istore_n 3, 1) := by decide +kernel
theorem dX6_pace_29 : decode (mC Y_X6_pace) 29 = .ok (.iload_n 3, 1) := by decide +kernel
theorem dX6_pace_30 : decode (mC Y_X6_pace) 30 = .ok (.iload_n 2, 1) := by decide +kernel
theorem dX6_pace_31 : decode (mC Y_X6_pace) 31 = .ok (.if_icmp .ne 6, 3) := by decide +kernel
theorem dX6_pace_34 : decode (mC Y_X6_pace) 34 = .ok (.bipush (-2), 2) := by decide +kernel
theorem dX6_pace_36 : decode (mC Y_X6_pace) 36 = .ok (.ireturn, 1) := by decide +kernel
theorem dX6_pace_37 : decode (mC Y_X6_pace) 37 = .ok (.aload_n 0, 1) := by decide +kernel
theorem dX6_pace_38 : decode (mC Y_X6_pace) 38 = .ok (.getfield 31, 3) := by decide +kernel
theorem dX6_pace_41 : decode (mC Y_X6_pace) 41 = .ok (.aload_n 0, 1) := by decide +kernel
theorem dX6_pace_42 : decode (mC Y_X6_pace) 42 = .ok (.getfield 19, 3) := by decide +kernel
theorem dX6_pace_45 : decode (mC Y_X6_pace) 45 = .ok (.invokevirtual 139, 3) := by decide +kernel
theorem dX6_pace_48 : decode (mC Y_X6_pace) 48 = .ok (.aload_n 0, 1) := by decide +kernel
theorem dX6_pace_49 : decode (mC Y_X6_pace) 49 = .ok (.getfield 19, 3) := by decide +kernel
theorem dX6_pace_52 : decode (mC Y_X6_pace) 52 = .ok (.iload_n 1, 1) := by decide +kernel
theorem dX6_pace_53 : decode (mC Y_X6_pace) 53 = .ok (.iload_n 2, 1) := by decide +kernel
theorem dX6_pace_54 : decode (mC Y_X6_pace) 54 = .ok (.invokevirtual 154, 3) := by decide +kernel
theorem dX6_pace_57 : decode (mC Y_X6_pace) 57 = .ok (.iload_n 3, 1) := by decide +kernel
theorem dX6_pace_58 : decode (mC Y_X6_pace) 58 = .ok (.ireturn, 1) := by decide +kernel
theorem dX6_undo_0 : decode (mC Y_X6_undo) 0 = .ok (.aload_n 0, 1) := by decide +kernel
theorem dX6_undo_1 : decode (mC Y_X6_undo) 1 = .ok (.getfield 31, 3) := by decide +kernel
theorem dX6_undo_4 : decode (mC Y_X6_undo) 4 = .ok (.aload_n 0, 1) := by decide +kernel
theorem dX6_undo_5 : decode (mC Y_X6_undo) 5 = .ok (.getfield 19, 3) := by decide +kernel
theorem dX6_undo_8 : decode (mC Y_X6_undo) 8 = .ok (.invokevirtual 158, 3) := by decide +kernel
theorem dX6_undo_11 : decode (mC Y_X6_undo) 11 = .ok (.ifCond .eq 13, 3) := by decide +kernel
theorem dX6_undo_14 : decode (mC Y_X6_undo) 14 = .ok (.aload_n 0, 1) := by decide +kernel
theorem dX6_undo_15 : decode (mC Y_X6_undo) 15 = .ok (.getfield 31, 3) := by decide +kernel
theorem dX6_undo_18 : decode (mC Y_X6_undo) 18 = .ok (.invokevirtual 162, 3) := by decide +kernel
theorem dX6_undo_21 : decode (mC Y_X6_undo) 21 = .ok (.goto 5, 3) := by decide +kernel
theorem dX6_undo_24 : decode (mC Y_X6_undo) 24 = .ok (.bipush (-2), 2) := by decide +kernel
theorem dX6_undo_26 : decode (mC Y_X6_undo) 26 = .ok (.ireturn, 1) := by decide +kernel
theorem dX6_behind_0 : decode (mC Y_X6_behind) 0 = .ok (.iload_n 1, 1) := by decide +kernel
theorem dX6_behind_1 : decode (mC Y_X6_behind) 1 = .ok (.iconst 0, 1) := by decide +kernel
theorem dX6_behind_2 : decode (mC Y_X6_behind) 2 = .ok (.bipush 60, 2) := by decide +kernel
theorem dX6_behind_4 : decode (mC Y_X6_behind) 4 = .ok (.invokestatic 73, 3) := by decide +kernel
theorem dX6_behind_7 : decode (mC Y_X6_behind) 7 = .ok (.ifCond .ne 11, 3) := by decide +kernel
theorem dX6_behind_10 : decode (mC Y_X6_behind) 10 = .ok (.aload_n 0, 1) := by decide +kernel
theorem dX6_behind_11 : decode (mC Y_X6_behind) 11 = .ok (.iload_n 2, 1) := by decide +kernel
theorem dX6_behind_12 : decode (mC Y_X6_behind) 12 = .ok (.invokevirtual 102, 3) := by decide +kernel
theorem dX6_behind_15 : decode (mC Y_X6_behind) 15 = .ok (.ifCond .eq 5, 3) := by decide +kernel
theorem dX6_behind_18 : decode (mC Y_X6_behind) 18 = .ok (.iconst (-1), 1) := by decide +kernel
theorem dX6_behind_19 : decode (mC Y_X6_behind) 19 = .ok (.ireturn, 1) := by decide +kernel
theorem dX6_behind_20 : decode (mC Y_X6_behind) 20 = .ok (.aload_n 0, 1) := by decide +kernel
theorem dX6_behind_21 : decode (mC Y_X6_behind) 21 = .ok (.getfield 19, 3) := by decide +kernel
theorem dX6_behind_24 : decode (mC Y_X6_behind) 24 = .ok (.iload_n 1, 1) := by decide +kernel
theorem dX6_behind_25 : decode (mC Y_X6_behind) 25 = .ok (.iload_n 2, 1) := by decide +kernel
theorem dX6_behind_26 : decode (mC Y_X6_behind) 26 = .ok (.aload_n 0, 1) := by decide +kernel
theorem dX6_behind_27 : decode (mC Y_X6_behind) 27 = .ok (.getfield 19, 3) := by decide +kernel
theorem dX6_behind_30 : decode (mC Y_X6_behind) 30 = .ok (.iload_n 2, 1) := by decide +kernel
theorem dX6_behind_31 : decode (mC Y_X6_behind) 31 = .ok (.invokevirtual 106, 3) := by decide +kernel
theorem dX6_behind_34 : decode (mC Y_X6_behind) 34 = .ok (.aload_n 0, 1) := by decide +kernel
theorem dX6_behind_35 : decode (mC Y_X6_behind) 35 = .ok (.getfield 19, 3) := by decide +kernel
theorem dX6_behind_38 : decode (mC Y_X6_behind) 38 = .ok (.iload_n 2, 1) := by decide +kernel
theorem dX6_behind_39 : decode (mC Y_X6_behind) 39 = .ok (.invokevirtual 119, 3) := by decide +kernel
theorem dX6_behind_42 : decode (mC Y_X6_behind) 42 = .ok (.invokevirtual 163, 3) := by decide +kernel
theorem dX6_behind_45 : decode (mC Y_X6_behind) 45 = .ok (.ireturn, 1) := by decide +kernel
theorem dX6_first_0 : decode (mC Y_X6_first) 0 = .ok (.aload_n 0, 1) := by decide +kernel
theorem dX6_first_1 : decode (mC Y_X6_first) 1 = .ok (.iload_n 1, 1) := by decide +kernel
theorem dX6_first_2 : decode (mC Y_X6_first) 2 = .ok (.iload_n 2, 1) := by decide +kernel
theorem dX6_first_3 : decode (mC Y_X6_first) 3 = .ok (.invokevirtual 122, 3) := by decide +kernel
theorem dX6_first_6 : decode (mC Y_X6_first) 6 = .ok (.ifCond .eq 5, 3) := by decide +kernel
theorem dX6_first_9 : decode (mC Y_X6_first) 9 = .ok (.iconst (-1), 1) := by decide +kernel
theorem dX6_first_10 : decode (mC Y_X6_first) 10 = .ok (.ireturn, 1) := by decide +kernel
theorem dX6_first_11 : decode (mC Y_X6_first) 11 = .ok (.aload_n 0, 1) := by decide +kernel
theorem dX6_first_12 : decode (mC Y_X6_first) 12 = .ok (.getfield 23, 3) := by decide +kernel
theorem dX6_first_15 : decode (mC Y_X6_first) 15 = .ok (.aload_n 0, 1) := by decide +kernel
theorem dX6_first_16 : decode (mC Y_X6_first) 16 = .ok (.getfield 19, 3) := by decide +kernel
theorem dX6_first_19 : decode (mC Y_X6_first) 19 = .ok (.invokevirtual 95, 3) := by decide +kernel
theorem dX6_first_22 : decode (mC Y_X6_first) 22 = .ok (.iconst 0, 1) := by decide +kernel
theorem dX6_first_23 : decode (mC Y_X6_first) 23 = .ok (.istore_n 3, 1) := by decide +kernel
theorem dX6_first_24 : decode (mC Y_X6_first) 24 = .ok (.iload_n 3, 1) := by decide +kernel
theorem dX6_first_25 : decode (mC Y_X6_first) 25 = .ok (.bipush 60, 2) := by decide +kernel
theorem dX6_first_27 : decode (mC Y_X6_first) 27 = .ok (.if_icmp .gt 31, 3) := by decide +kernel
theorem dX6_first_30 : decode (mC Y_X6_first) 30 = .ok (.aload_n 0, 1) := by decide +kernel
theorem dX6_first_31 : decode (mC Y_X6_first) 31 = .ok (.getfield 23, 3) := by decide +kernel
theorem dX6_first_34 : decode (mC Y_X6_first) 34 = .ok (.iload_n 1, 1) := by decide +kernel
theorem dX6_first_35 : decode (mC Y_X6_first) 35 = .ok (.iload_n 2, 1) := by decide +kernel
theorem dX6_first_36 : decode (mC Y_X6_first) 36 = .ok (.invokevirtual 126, 3) := by decide +kernel
theorem dX6_first_39 : decode (mC Y_X6_first) 39 = .ok (.iconst 2, 1) := by decide +kernel
theorem dX6_first_40 : decode (mC Y_X6_first) 40 = .ok (.if_icmp .ne 5, 3) := by decide +kernel
theorem dX6_first_43 : decode (mC Y_X6_first) 43 = .ok (.iload_n 3, 1) := by decide +kernel
theorem dX6_first_44 : decode (mC Y_X6_first) 44 = .ok (.ireturn, 1) := by decide +kernel
theorem dX6_first_45 : decode (mC Y_X6_first) 45 = .ok (.aload_n 0, 1) := by decide +kernel
theorem dX6_first_46 : decode (mC Y_X6_first) 46 = .ok (.getfield 23, 3) := by decide +kernel
theorem dX6_first_49 : decode (mC Y_X6_first) 49 = .ok (.invokevirtual 167, 3) := by decide +kernel
theorem dX6_first_52 : decode (mC Y_X6_first) 52 = .ok (.iinc 3 1, 3) := by decide +kernel
theorem dX6_first_55 : decode (mC Y_X6_first) 55 = .ok (.goto (-31), 3) := by decide +kernel
theorem dX6_first_58 : decode (mC Y_X6_first) 58 = .ok (.bipush (-4), 2) := by decide +kernel
theorem dX6_first_60 : decode (mC Y_X6_first) 60 = .ok (.ireturn, 1) := by decide +kernel
theorem dX6_all_0 : decode (mC Y_X6_all) 0 = .ok (.iload_n 1, 1) := by decide +kernel
theorem dX6_all_1 : decode (mC Y_X6_all) 1 = .ok (.iconst 1, 1) := by decide +kernel
theorem dX6_all_2 : decode (mC Y_X6_all) 2 = .ok (.bipush 60, 2) := by decide +kernel
theorem dX6_all_4 : decode (mC Y_X6_all) 4 = .ok (.invokestatic 73, 3) := by decide +kernel
theorem dX6_all_7 : decode (mC Y_X6_all) 7 = .ok (.ifCond .eq 5, 3) := by decide +kernel
theorem dX6_all_10 : decode (mC Y_X6_all) 10 = .ok (.iconst (-1), 1) := by decide +kernel
theorem dX6_all_11 : decode (mC Y_X6_all) 11 = .ok (.ireturn, 1) := by decide +kernel
theorem dX6_all_12 : decode (mC Y_X6_all) 12 = .ok (.aload_n 0, 1) := by decide +kernel
theorem dX6_all_13 : decode (mC Y_X6_all) 13 = .ok (.getfield 23, 3) := by decide +kernel
theorem dX6_all_16 : decode (mC Y_X6_all) 16 = .ok (.aload_n 0, 1) := by decide +kernel
theorem dX6_all_17 : decode (mC Y_X6_all) 17 = .ok (.getfield 19, 3) := by decide +kernel
theorem dX6_all_20 : decode (mC Y_X6_all) 20 = .ok (.invokevirtual 95, 3) := by decide +kernel
theorem dX6_all_23 : decode (mC Y_X6_all) 23 = .ok (.aload_n 0, 1) := by decide +kernel
theorem dX6_all_24 : decode (mC Y_X6_all) 24 = .ok (.getfield 23, 3) := by decide +kernel
theorem dX6_all_27 : decode (mC Y_X6_all) 27 = .ok (.iload_n 1, 1) := by decide +kernel
theorem dX6_all_28 : decode (mC Y_X6_all) 28 = .ok (.invokevirtual 142, 3) := by decide +kernel
theorem dX6_all_31 : decode (mC Y_X6_all) 31 = .ok (.ireturn, 1) := by decide +kernel
theorem dX6_paces_0 : decode (mC Y_X6_paces) 0 = .ok (.aload_n 0, 1) := by decide +kernel
theorem dX6_paces_1 : decode (mC Y_X6_paces) 1 = .ok (.iload_n 1, 1) := by decide +kernel
theorem dX6_paces_2 : decode (mC Y_X6_paces) 2 = .ok (.iload_n 2, 1) := by decide +kernel
theorem dX6_paces_3 : decode (mC Y_X6_paces) 3 = .ok (.invokevirtual 122, 3) := by decide +kernel
theorem dX6_paces_6 : decode (mC Y_X6_paces) 6 = .ok (.ifCond .ne 13, 3) := by decide +kernel
theorem dX6_paces_9 : decode (mC Y_X6_paces) 9 = .ok (.iload_n 3, 1) := by decide +kernel
theorem dX6_paces_10 : decode (mC Y_X6_paces) 10 = .ok (.iconst 1, 1) := by decide +kernel
theorem dX6_paces_11 : decode (mC Y_X6_paces) 11 = .ok (.bipush 24, 2) := by decide +kernel
theorem dX6_paces_13 : decode (mC Y_X6_paces) 13 = .ok (.invokestatic 73, 3) := by decide +kernel
theorem dX6_paces_16 : decode (mC Y_X6_paces) 16 = .ok (.ifCond .eq 5, 3) := by decide +kernel
theorem dX6_paces_19 : decode (mC Y_X6_paces) 19 = .ok (.iconst (-1), 1) := by decide +kernel
theorem dX6_paces_20 : decode (mC Y_X6_paces) 20 = .ok (.ireturn, 1) := by decide +kernel
theorem dX6_paces_21 : decode (mC Y_X6_paces) 21 = .ok (.aload_n 0, 1) := by decide +kernel
theorem dX6_paces_22 : decode (mC Y_X6_paces) 22 = .ok (.getfield 19, 3) := by decide +kernel
theorem dX6_paces_25 : decode (mC Y_X6_paces) 25 = .ok (.iload_n 1, 1) := by decide +kernel
theorem dX6_paces_26 : decode (mC Y_X6_paces) 26 = .ok (.iload_n 2, 1) := by decide +kernel
theorem dX6_paces_27 : decode (mC Y_X6_paces) 27 = .ok (.invokevirtual 170, 3) := by decide +kernel
theorem dX6_paces_30 : decode (mC Y_X6_paces) 30 = .ok (.ifCond .ne 5, 3) := by decide +kernel
theorem dX6_paces_33 : decode (mC Y_X6_paces) 33 = .ok (.iconst 0, 1) := by decide +kernel
theorem dX6_paces_34 : decode (mC Y_X6_paces) 34 = .ok (.ireturn, 1) := by decide +kernel
theorem dX6_paces_35 : decode (mC Y_X6_paces) 35 = .ok (.aload_n 0, 1) := by decide +kernel
theorem dX6_paces_36 : decode (mC Y_X6_paces) 36 = .ok (.getfield 19, 3) := by decide +kernel
theorem dX6_paces_39 : decode (mC Y_X6_paces) 39 = .ok (.iload_n 3, 1) := by decide +kernel
theorem dX6_paces_40 : decode (mC Y_X6_paces) 40 = .ok (.iload_n 2, 1) := by decide +kernel
theorem dX6_paces_41 : decode (mC Y_X6_paces) 41 = .ok (.aload_n 0, 1) := by decide +kernel
theorem dX6_paces_42 : decode (mC Y_X6_paces) 42 = .ok (.getfield 19, 3) := by decide +kernel
theorem dX6_paces_45 : decode (mC Y_X6_paces) 45 = .ok (.iload_n 2, 1) := by decide +kernel
theorem dX6_paces_46 : decode (mC Y_X6_paces) 46 = .ok (.invokevirtual 106, 3) := by decide +kernel
theorem dX6_paces_49 : decode (mC Y_X6_paces) 49 = .ok (.aload_n 0, 1) := by decide +kernel
theorem dX6_paces_50 : decode (mC Y_X6_paces) 50 = .ok (.getfield 19, 3) := by decide +kernel
theorem dX6_paces_53 : decode (mC Y_X6_paces) 53 = .ok (.iload_n 2, 1) := by decide +kernel
theorem dX6_paces_54 : decode (mC Y_X6_paces) 54 = .ok (.invokevirtual 119, 3) := by decide +kernel
theorem dX6_paces_57 : decode (mC Y_X6_paces) 57 = .ok (.invokevirtual 163, 3) := by decide +kernel
theorem dX6_paces_60 : decode (mC Y_X6_paces) 60 = .ok (.istore 4, 2) := by decide +kernel
theorem dX6_paces_62 : decode (mC Y_X6_paces) 62 = .ok (.iconst 0, 1) := by decide +kernel
theorem dX6_paces_63 : decode (mC Y_X6_paces) 63 = .ok (.istore 5, 2) := by decide +kernel
theorem dX6_paces_65 : decode (mC Y_X6_paces) 65 = .ok (.iconst 0, 1) := by decide +kernel
theorem dX6_paces_66 : decode (mC Y_X6_paces) 66 = .ok (.istore 6, 2) := by decide +kernel
theorem dX6_paces_68 : decode (mC Y_X6_paces) 68 = .ok (.iload 6, 2) := by decide +kernel
theorem dX6_paces_70 : decode (mC Y_X6_paces) 70 = .ok (.bipush 12, 2) := by decide +kernel
theorem dX6_paces_72 : decode (mC Y_X6_paces) 72 = .ok (.if_icmp .ge 42, 3) := by decide +kernel
theorem dX6_paces_75 : decode (mC Y_X6_paces) 75 = .ok (.aload_n 0, 1) := by decide +kernel
theorem dX6_paces_76 : decode (mC Y_X6_paces) 76 = .ok (.getfield 19, 3) := by decide +kernel
theorem dX6_paces_79 : decode (mC Y_X6_paces) 79 = .ok (.iload_n 3, 1) := by decide +kernel
theorem dX6_paces_80 : decode (mC Y_X6_paces) 80 = .ok (.iload_n 1, 1) := by decide +kernel
theorem dX6_paces_81 : decode (mC Y_X6_paces) 81 = .ok (.aload_n 0, 1) := by decide +kernel
theorem dX6_paces_82 : decode (mC Y_X6_paces) 82 = .ok (.getfield 19, 3) := by decide +kernel
theorem dX6_paces_85 : decode (mC Y_X6_paces) 85 = .ok (.iload_n 1, 1) := by decide +kernel
theorem dX6_paces_86 : decode (mC Y_X6_paces) 86 = .ok (.invokevirtual 106, 3) := by decide +kernel
theorem dX6_paces_89 : decode (mC Y_X6_paces) 89 = .ok (.iload 6, 2) := by decide +kernel
theorem dX6_paces_91 : decode (mC Y_X6_paces) 91 = .ok (.invokevirtual 163, 3) := by decide +kernel
theorem dX6_paces_94 : decode (mC Y_X6_paces) 94 = .ok (.iload 4, 2) := by decide +kernel
theorem dX6_paces_96 : decode (mC Y_X6_paces) 96 = .ok (.if_icmp .ne 12, 3) := by decide +kernel
theorem dX6_paces_99 : decode (mC Y_X6_paces) 99 = .ok (.iload 5, 2) := by decide +kernel
theorem dX6_paces_101 : decode (mC Y_X6_paces) 101 = .ok (.iconst 1, 1) := by decide +kernel
theorem dX6_paces_102 : decode (mC Y_X6_paces) 102 = .ok (.iload 6, 2) := by decide +kernel
theorem dX6_paces_104 : decode (mC Y_X6_paces) 104 = .ok (.ishl, 1) := by decide +kernel
theorem dX6_paces_105 : decode (mC Y_X6_paces) 105 = .ok (.ior, 1) := by decide +kernel
theorem dX6_paces_106 : decode (mC Y_X6_paces) 106 = .ok (.istore 5, 2) := by decide +kernel
theorem dX6_paces_108 : decode (mC Y_X6_paces) 108 = .ok (.iinc 6 1, 3) := by decide +kernel
theorem dX6_paces_111 : decode (mC Y_X6_paces) 111 = .ok (.goto (-43), 3) := by decide +kernel
theorem dX6_paces_114 : decode (mC Y_X6_paces) 114 = .ok (.iload 5, 2) := by decide +kernel
theorem dX6_paces_116 : decode (mC Y_X6_paces) 116 = .ok (.ireturn, 1) := by decide +kernel
theorem dX6_widthsMet_0 : decode (mC Y_X6_widthsMet) 0 = .ok (.aload_n 0, 1) := by decide +kernel
theorem dX6_widthsMet_1 : decode (mC Y_X6_widthsMet) 1 = .ok (.getfield 23, 3) := by decide +kernel
theorem dX6_widthsMet_4 : decode (mC Y_X6_widthsMet) 4 = .ok (.aload_n 0, 1) := by decide +kernel
theorem dX6_widthsMet_5 : decode (mC Y_X6_widthsMet) 5 = .ok (.getfield 19, 3) := by decide +kernel
theorem dX6_widthsMet_8 : decode (mC Y_X6_widthsMet) 8 = .ok (.invokevirtual 95, 3) := by decide +kernel
theorem dX6_widthsMet_11 : decode (mC Y_X6_widthsMet) 11 = .ok (.iconst 0, 1) := by decide +kernel
theorem dX6_widthsMet_12 : decode (mC Y_X6_widthsMet) 12 = .ok (.istore_n 2, 1) := by decide +kernel
theorem dX6_widthsMet_13 : decode (mC Y_X6_widthsMet) 13 = .ok (.iconst 0, 1) := by decide +kernel
theorem dX6_widthsMet_14 : decode (mC Y_X6_widthsMet) 14 = .ok (.istore_n 3, 1) := by decide +kernel
theorem dX6_widthsMet_15 : decode (mC Y_X6_widthsMet) 15 = .ok (.iload_n 3, 1) := by decide +kernel
theorem dX6_widthsMet_16 : decode (mC Y_X6_widthsMet) 16 = .ok (.bipush 24, 2) := by decide +kernel
theorem dX6_widthsMet_18 : decode (mC Y_X6_widthsMet) 18 = .ok (.if_icmp .gt 70, 3) := by decide +kernel
theorem dX6_widthsMet_21 : decode (mC Y_X6_widthsMet) 21 = .ok (.iconst 0, 1) := by decide +kernel
theorem dX6_widthsMet_22 : decode (mC Y_X6_widthsMet) 22 = .ok (.istore 4, 2) := by decide +kernel
theorem dX6_widthsMet_24 : decode (mC Y_X6_widthsMet) 24 = .ok (.iload 4, 2) := by decide +kernel
theorem dX6_widthsMet_26 : decode (mC Y_X6_widthsMet) 26 = .ok (.aload_n 0, 1) := by decide +kernel
theorem dX6_widthsMet_27 : decode (mC Y_X6_widthsMet) 27 = .ok (.getfield 23, 3) := by decide +kernel
theorem dX6_widthsMet_30 : decode (mC Y_X6_widthsMet) 30 = .ok (.invokevirtual 92, 3) := by decide +kernel
theorem dX6_widthsMet_33 : decode (mC Y_X6_widthsMet) 33 = .ok (.if_icmp .ge 42, 3) := by decide +kernel
theorem dX6_widthsMet_36 : decode (mC Y_X6_widthsMet) 36 = .ok (.iload 4, 2) := by decide +kernel
theorem dX6_widthsMet_38 : decode (mC Y_X6_widthsMet) 38 = .ok (.iload_n 1, 1) := by decide +kernel
theorem dX6_widthsMet_39 : decode (mC Y_X6_widthsMet) 39 = .ok (.if_icmp .eq 30, 3) := by decide +kernel
theorem dX6_widthsMet_42 : decode (mC Y_X6_widthsMet) 42 = .ok (.aload_n 0, 1) := by decide +kernel
theorem dX6_widthsMet_43 : decode (mC Y_X6_widthsMet) 43 = .ok (.getfield 23, 3) := by decide +kernel
theorem dX6_widthsMet_46 : decode (mC Y_X6_widthsMet) 46 = .ok (.iload_n 1, 1) := by decide +kernel
theorem dX6_widthsMet_47 : decode (mC Y_X6_widthsMet) 47 = .ok (.iload 4, 2) := by decide +kernel
theorem dX6_widthsMet_49 : decode (mC Y_X6_widthsMet) 49 = .ok (.invokevirtual 126, 3) := by decide +kernel
theorem dX6_widthsMet_52 : decode (mC Y_X6_widthsMet) 52 = .ok (.ifCond .eq 17, 3) := by decide +kernel
theorem dX6_widthsMet_55 : decode (mC Y_X6_widthsMet) 55 = .ok (.iload_n 2, 1) := by decide +kernel
theorem dX6_widthsMet_56 : decode (mC Y_X6_widthsMet) 56 = .ok (.iconst 1, 1) := by decide +kernel
theorem dX6_widthsMet_57 : decode (mC Y_X6_widthsMet) 57 = .ok (.aload_n 0, 1) := by decide +kernel
theorem dX6_widthsMet_58 : decode (mC Y_X6_widthsMet) 58 = .ok (.getfield 23, 3) := by decide +kernel
theorem dX6_widthsMet_61 : decode (mC Y_X6_widthsMet) 61 = .ok (.iload 4, 2) := by decide +kernel
theorem dX6_widthsMet_63 : decode (mC Y_X6_widthsMet) 63 = .ok (.invokevirtual 113, 3) := by decide +kernel
theorem dX6_widthsMet_66 : decode (mC Y_X6_widthsMet) 66 = .ok (.ishl, 1) := by decide +kernel
theorem dX6_widthsMet_67 : decode (mC Y_X6_widthsMet) 67 = .ok (.ior, 1) := by decide +kernel
theorem dX6_widthsMet_68 : decode (mC Y_X6_widthsMet) 68 = .ok (.istore_n 2, 1) := by decide +kernel
theorem dX6_widthsMet_69 : decode (mC Y_X6_widthsMet) 69 = .ok (.iinc 4 1, 3) := by decide +kernel
theorem dX6_widthsMet_72 : decode (mC Y_X6_widthsMet) 72 = .ok (.goto (-48), 3) := by decide +kernel
theorem dX6_widthsMet_75 : decode (mC Y_X6_widthsMet) 75 = .ok (.aload_n 0, 1) := by decide +kernel
theorem dX6_widthsMet_76 : decode (mC Y_X6_widthsMet) 76 = .ok (.getfield 23, 3) := by decide +kernel
theorem dX6_widthsMet_79 : decode (mC Y_X6_widthsMet) 79 = .ok (.invokevirtual 167, 3) := by decide +kernel
theorem dX6_widthsMet_82 : decode (mC Y_X6_widthsMet) 82 = .ok (.iinc 3 1, 3) := by decide +kernel
theorem dX6_widthsMet_85 : decode (mC Y_X6_widthsMet) 85 = .ok (.goto (-70), 3) := by decide +kernel
theorem dX6_widthsMet_88 : decode (mC Y_X6_widthsMet) 88 = .ok (.iload_n 2, 1) := by decide +kernel
theorem dX6_widthsMet_89 : decode (mC Y_X6_widthsMet) 89 = .ok (.ireturn, 1) := by decide +kernel
theorem dX6_shy_0 : decode (mC Y_X6_shy) 0 = .ok (.aload_n 0, 1) := by decide +kernel
theorem dX6_shy_1 : decode (mC Y_X6_shy) 1 = .ok (.iload_n 1, 1) := by decide +kernel
theorem dX6_shy_2 : decode (mC Y_X6_shy) 2 = .ok (.invokevirtual 102, 3) := by decide +kernel
theorem dX6_shy_5 : decode (mC Y_X6_shy) 5 = .ok (.ifCond .eq 5, 3) := by decide +kernel
theorem dX6_shy_8 : decode (mC Y_X6_shy) 8 = .ok (.iconst (-1), 1) := by decide +kernel
theorem dX6_shy_9 : decode (mC Y_X6_shy) 9 = .ok (.ireturn, 1) := by decide +kernel
theorem dX6_shy_10 : decode (mC Y_X6_shy) 10 = .ok (.aload_n 0, 1) := by decide +kernel
theorem dX6_shy_11 : decode (mC Y_X6_shy) 11 = .ok (.getfield 19, 3) := by decide +kernel
theorem dX6_shy_14 : decode (mC Y_X6_shy) 14 = .ok (.iload_n 1, 1) := by decide +kernel
theorem dX6_shy_15 : decode (mC Y_X6_shy) 15 = .ok (.invokevirtual 110, 3) := by decide +kernel
theorem dX6_shy_18 : decode (mC Y_X6_shy) 18 = .ok (.bipush (-4), 2) := by decide +kernel
theorem dX6_shy_20 : decode (mC Y_X6_shy) 20 = .ok (.if_icmp .ne 6, 3) := by decide +kernel
theorem dX6_shy_23 : decode (mC Y_X6_shy) 23 = .ok (.bipush (-2), 2) := by decide +kernel
theorem dX6_shy_25 : decode (mC Y_X6_shy) 25 = .ok (.ireturn, 1) := by decide +kernel
theorem dX6_shy_26 : decode (mC Y_X6_shy) 26 = .ok (.aload_n 0, 1) := by decide +kernel
theorem dX6_shy_27 : decode (mC Y_X6_shy) 27 = .ok (.iload_n 1, 1) := by decide +kernel
theorem dX6_shy_28 : decode (mC Y_X6_shy) 28 = .ok (.invokevirtual 173, 3) := by decide +kernel
theorem dX6_shy_31 : decode (mC Y_X6_shy) 31 = .ok (.istore_n 2, 1) := by decide +kernel
theorem dX6_shy_32 : decode (mC Y_X6_shy) 32 = .ok (.iconst 1, 1) := by decide +kernel
theorem dX6_shy_33 : decode (mC Y_X6_shy) 33 = .ok (.istore_n 3, 1) := by decide +kernel
theorem dX6_shy_34 : decode (mC Y_X6_shy) 34 = .ok (.iload_n 3, 1) := by decide +kernel
theorem dX6_shy_35 : decode (mC Y_X6_shy) 35 = .ok (.bipush 9, 2) := by decide +kernel
theorem dX6_shy_37 : decode (mC Y_X6_shy) 37 = .ok (.if_icmp .gt 19, 3) := by decide +kernel
theorem dX6_shy_40 : decode (mC Y_X6_shy) 40 = .ok (.iload_n 2, 1) := by decide +kernel
theorem dX6_shy_41 : decode (mC Y_X6_shy) 41 = .ok (.iconst 1, 1) := by decide +kernel
theorem dX6_shy_42 : decode (mC Y_X6_shy) 42 = .ok (.iload_n 3, 1) := by decide +kernel
theorem dX6_shy_43 : decode (mC Y_X6_shy) 43 = .ok (.ishl, 1) := by decide +kernel
theorem dX6_shy_44 : decode (mC Y_X6_shy) 44 = .ok (.iand, 1) := by decide +kernel
theorem dX6_shy_45 : decode (mC Y_X6_shy) 45 = .ok (.ifCond .ne 5, 3) := by decide +kernel
theorem dX6_shy_48 : decode (mC Y_X6_shy) 48 = .ok (.iload_n 3, 1) := by decide +kernel
theorem dX6_shy_49 : decode (mC Y_X6_shy) 49 = .ok (.ireturn, 1) := by decide +kernel
theorem dX6_shy_50 : decode (mC Y_X6_shy) 50 = .ok (.iinc 3 1, 3) := by decide +kernel
theorem dX6_shy_53 : decode (mC Y_X6_shy) 53 = .ok (.goto (-19), 3) := by decide +kernel
theorem dX6_shy_56 : decode (mC Y_X6_shy) 56 = .ok (.bipush (-4), 2) := by decide +kernel
theorem dX6_shy_58 : decode (mC Y_X6_shy) 58 = .ok (.ireturn, 1) := by decide +kernel
theorem dX6_spread_0 : decode (mC Y_X6_spread) 0 = .ok (.iload_n 1, 1) := by decide +kernel
theorem dX6_spread_1 : decode (mC Y_X6_spread) 1 = .ok (.invokestatic 130, 3) := by decide +kernel
theorem dX6_spread_4 : decode (mC Y_X6_spread) 4 = .ok (.ifCond .ne 20, 3) := by decide +kernel
theorem dX6_spread_7 : decode (mC Y_X6_spread) 7 = .ok (.iload_n 2, 1) := by decide +kernel
theorem dX6_spread_8 : decode (mC Y_X6_spread) 8 = .ok (.iconst (-1), 1) := by decide +kernel
theorem dX6_spread_9 : decode (mC Y_X6_spread) 9 = .ok (.aload_n 0, 1) := by decide +kernel
theorem dX6_spread_10 : decode (mC Y_X6_spread) 10 = .ok (.getfield 19, 3) := by decide +kernel
theorem dX6_spread_13 : decode (mC Y_X6_spread) 13 = .ok (.invokevirtual 92, 3) := by decide +kernel
theorem dX6_spread_16 : decode (mC Y_X6_spread) 16 = .ok (.iconst 1, 1) := by decide +kernel
theorem dX6_spread_17 : decode (mC Y_X6_spread) 17 = .ok (.isub, 1) := by decide +kernel
theorem dX6_spread_18 : decode (mC Y_X6_spread) 18 = .ok (.invokestatic 73, 3) := by decide +kernel
theorem dX6_spread_21 : decode (mC Y_X6_spread) 21 = .ok (.ifCond .eq 5, 3) := by decide +kernel
theorem dX6_spread_24 : decode (mC Y_X6_spread) 24 = .ok (.iconst (-1), 1) := by decide +kernel
theorem dX6_spread_25 : decode (mC Y_X6_spread) 25 = .ok (.ireturn, 1) := by decide +kernel
theorem dX6_spread_26 : decode (mC Y_X6_spread) 26 = .ok (.aload_n 0, 1) := by decide +kernel
theorem dX6_spread_27 : decode (mC Y_X6_spread) 27 = .ok (.getfield 23, 3) := by decide +kernel
theorem dX6_spread_30 : decode (mC Y_X6_spread) 30 = .ok (.aload_n 0, 1) := by decide +kernel
theorem dX6_spread_31 : decode (mC Y_X6_spread) 31 = .ok (.getfield 19, 3) := by decide +kernel
theorem dX6_spread_34 : decode (mC Y_X6_spread) 34 = .ok (.invokevirtual 95, 3) := by decide +kernel
theorem dX6_spread_37 : decode (mC Y_X6_spread) 37 = .ok (.aload_n 0, 1) := by decide +kernel
theorem dX6_spread_38 : decode (mC Y_X6_spread) 38 = .ok (.getfield 51, 3) := by decide +kernel
theorem dX6_spread_41 : decode (mC Y_X6_spread) 41 = .ok (.aload_n 0, 1) := by decide +kernel
theorem dX6_spread_42 : decode (mC Y_X6_spread) 42 = .ok (.getfield 23, 3) := by decide +kernel
theorem dX6_spread_45 : decode (mC Y_X6_spread) 45 = .ok (.iload_n 1, 1) := by decide +kernel
theorem dX6_spread_46 : decode (mC Y_X6_spread) 46 = .ok (.invokevirtual 176, 3) := by decide +kernel
theorem dX6_spread_49 : decode (mC Y_X6_spread) 49 = .ok (.istore_n 3, 1) := by decide +kernel
theorem dX6_spread_50 : decode (mC Y_X6_spread) 50 = .ok (.iload_n 2, 1) := by decide +kernel
theorem dX6_spread_51 : decode (mC Y_X6_spread) 51 = .ok (.iconst (-1), 1) := by decide +kernel
theorem dX6_spread_52 : decode (mC Y_X6_spread) 52 = .ok (.if_icmp .ne 7, 3) := by decide +kernel
theorem dX6_spread_55 : decode (mC Y_X6_spread) 55 = .ok (.iload_n 3, 1) := by decide +kernel
theorem dX6_spread_56 : decode (mC Y_X6_spread) 56 = .ok (.goto 11, 3) := by decide +kernel
theorem dX6_spread_59 : decode (mC Y_X6_spread) 59 = .ok (.aload_n 0, 1) := by decide +kernel
theorem dX6_spread_60 : decode (mC Y_X6_spread) 60 = .ok (.getfield 51, 3) := by decide +kernel
theorem dX6_spread_63 : decode (mC Y_X6_spread) 63 = .ok (.iload_n 2, 1) := by decide +kernel
theorem dX6_spread_64 : decode (mC Y_X6_spread) 64 = .ok (.invokevirtual 180, 3) := by decide +kernel
theorem dX6_spread_67 : decode (mC Y_X6_spread) 67 = .ok (.ireturn, 1) := by decide +kernel
theorem dX6_dear_0 : decode (mC Y_X6_dear) 0 = .ok (.iload_n 1, 1) := by decide +kernel
theorem dX6_dear_1 : decode (mC Y_X6_dear) 1 = .ok (.iconst 0, 1) := by decide +kernel
theorem dX6_dear_2 : decode (mC Y_X6_dear) 2 = .ok (.iconst 1, 1) := by decide +kernel
theorem dX6_dear_3 : decode (mC Y_X6_dear) 3 = .ok (.invokestatic 73, 3) := by decide +kernel
theorem dX6_dear_6 : decode (mC Y_X6_dear) 6 = .ok (.ifCond .eq 5, 3) := by decide +kernel
theorem dX6_dear_9 : decode (mC Y_X6_dear) 9 = .ok (.iconst (-1), 1) := by decide +kernel
theorem dX6_dear_10 : decode (mC Y_X6_dear) 10 = .ok (.ireturn, 1) := by decide +kernel
theorem dX6_dear_11 : decode (mC Y_X6_dear) 11 = .ok (.iconst 0, 1) := by decide +kernel
theorem dX6_dear_12 : decode (mC Y_X6_dear) 12 = .ok (.istore_n 2, 1) := by decide +kernel
theorem dX6_dear_13 : decode (mC Y_X6_dear) 13 = .ok (.iconst 0, 1) := by decide +kernel
theorem dX6_dear_14 : decode (mC Y_X6_dear) 14 = .ok (.istore_n 3, 1) := by decide +kernel
theorem dX6_dear_15 : decode (mC Y_X6_dear) 15 = .ok (.iconst 0, 1) := by decide +kernel
theorem dX6_dear_16 : decode (mC Y_X6_dear) 16 = .ok (.istore 4, 2) := by decide +kernel
theorem dX6_dear_18 : decode (mC Y_X6_dear) 18 = .ok (.iload 4, 2) := by decide +kernel
theorem dX6_dear_20 : decode (mC Y_X6_dear) 20 = .ok (.bipush 6, 2) := by decide +kernel
theorem dX6_dear_22 : decode (mC Y_X6_dear) 22 = .ok (.if_icmp .ge 35, 3) := by decide +kernel
theorem dX6_dear_25 : decode (mC Y_X6_dear) 25 = .ok (.aload_n 0, 1) := by decide +kernel
theorem dX6_dear_26 : decode (mC Y_X6_dear) 26 = .ok (.getfield 19, 3) := by decide +kernel
theorem dX6_dear_29 : decode (mC Y_X6_dear) 29 = .ok (.iload 4, 2) := by decide +kernel
theorem dX6_dear_31 : decode (mC Y_X6_dear) 31 = .ok (.invokevirtual 133, 3) := by decide +kernel
theorem dX6_dear_34 : decode (mC Y_X6_dear) 34 = .ok (.invokestatic 149, 3) := by decide +kernel
theorem dX6_dear_37 : decode (mC Y_X6_dear) 37 = .ok (.istore 5, 2) := by decide +kernel
theorem dX6_dear_39 : decode (mC Y_X6_dear) 39 = .ok (.iload 5, 2) := by decide +kernel
theorem dX6_dear_41 : decode (mC Y_X6_dear) 41 = .ok (.iload_n 3, 1) := by decide +kernel
theorem dX6_dear_42 : decode (mC Y_X6_dear) 42 = .ok (.if_icmp .le 9, 3) := by decide +kernel
theorem dX6_dear_45 : decode (mC Y_X6_dear) 45 = .ok (.iload 4, 2) := by decide +kernel
theorem dX6_dear_47 : decode (mC Y_X6_dear) 47 = .ok (.istore_n 2, 1) := by decide +kernel
theorem dX6_dear_48 : decode (mC Y_X6_dear) 48 = .ok (.iload 5, 2) := by decide +kernel
theorem dX6_dear_50 : decode (mC Y_X6_dear) 50 = .ok (.istore_n 3, 1) := by decide +kernel
theorem dX6_dear_51 : decode (mC Y_X6_dear) 51 = .ok (.iinc 4 1, 3) := by decide +kernel
theorem dX6_dear_54 : decode (mC Y_X6_dear) 54 = .ok (.goto (-36), 3) := by decide +kernel
theorem dX6_dear_57 : decode (mC Y_X6_dear) 57 = .ok (.iload_n 1, 1) := by decide +kernel
theorem dX6_dear_58 : decode (mC Y_X6_dear) 58 = .ok (.ifCond .ne 7, 3) := by decide +kernel
theorem dX6_dear_61 : decode (mC Y_X6_dear) 61 = .ok (.iload_n 2, 1) := by decide +kernel
theorem dX6_dear_62 : decode (mC Y_X6_dear) 62 = .ok (.goto 4, 3) := by decide +kernel
theorem dX6_dear_65 : decode (mC Y_X6_dear) 65 = .ok (.iload_n 3, 1) := by decide +kernel
theorem dX6_dear_66 : decode (mC Y_X6_dear) 66 = .ok (.ireturn, 1) := by decide +kernel
theorem dX6_seen_0 : decode (mC Y_X6_seen) 0 = .ok (.aload_n 0, 1) := by decide +kernel
theorem dX6_seen_1 : decode (mC Y_X6_seen) 1 = .ok (.iload_n 1, 1) := by decide +kernel
theorem dX6_seen_2 : decode (mC Y_X6_seen) 2 = .ok (.invokevirtual 102, 3) := by decide +kernel
theorem dX6_seen_5 : decode (mC Y_X6_seen) 5 = .ok (.ifCond .ne 23, 3) := by decide +kernel
theorem dX6_seen_8 : decode (mC Y_X6_seen) 8 = .ok (.iload_n 2, 1) := by decide +kernel
theorem dX6_seen_9 : decode (mC Y_X6_seen) 9 = .ok (.iconst 0, 1) := by decide +kernel
theorem dX6_seen_10 : decode (mC Y_X6_seen) 10 = .ok (.bipush 24, 2) := by decide +kernel
theorem dX6_seen_12 : decode (mC Y_X6_seen) 12 = .ok (.invokestatic 73, 3) := by decide +kernel
theorem dX6_seen_15 : decode (mC Y_X6_seen) 15 = .ok (.ifCond .ne 13, 3) := by decide +kernel
theorem dX6_seen_18 : decode (mC Y_X6_seen) 18 = .ok (.iload_n 3, 1) := by decide +kernel
theorem dX6_seen_19 : decode (mC Y_X6_seen) 19 = .ok (.iconst 0, 1) := by decide +kernel
theorem dX6_seen_20 : decode (mC Y_X6_seen) 20 = .ok (.bipush 11, 2) := by decide +kernel
theorem dX6_seen_22 : decode (mC Y_X6_seen) 22 = .ok (.invokestatic 73, 3) := by decide +kernel
theorem dX6_seen_25 : decode (mC Y_X6_seen) 25 = .ok (.ifCond .eq 5, 3) := by decide +kernel
theorem dX6_seen_28 : decode (mC Y_X6_seen) 28 = .ok (.iconst (-1), 1) := by decide +kernel
theorem dX6_seen_29 : decode (mC Y_X6_seen) 29 = .ok (.ireturn, 1) := by decide +kernel
theorem dX6_seen_30 : decode (mC Y_X6_seen) 30 = .ok (.aload_n 0, 1) := by decide +kernel
theorem dX6_seen_31 : decode (mC Y_X6_seen) 31 = .ok (.getfield 41, 3) := by decide +kernel
theorem dX6_seen_34 : decode (mC Y_X6_seen) 34 = .ok (.iload_n 1, 1) := by decide +kernel
theorem dX6_seen_35 : decode (mC Y_X6_seen) 35 = .ok (.iload_n 2, 1) := by decide +kernel
theorem dX6_seen_36 : decode (mC Y_X6_seen) 36 = .ok (.iload_n 3, 1) := by decide +kernel
theorem dX6_seen_37 : decode (mC Y_X6_seen) 37 = .ok (.invokevirtual 183, 3) := by decide +kernel
theorem dX6_seen_40 : decode (mC Y_X6_seen) 40 = .ok (.ifCond .eq 13, 3) := by decide +kernel
theorem dX6_seen_43 : decode (mC Y_X6_seen) 43 = .ok (.aload_n 0, 1) := by decide +kernel
theorem dX6_seen_44 : decode (mC Y_X6_seen) 44 = .ok (.getfield 41, 3) := by decide +kernel
theorem dX6_seen_47 : decode (mC Y_X6_seen) 47 = .ok (.invokevirtual 186, 3) := by decide +kernel
theorem dX6_seen_50 : decode (mC Y_X6_seen) 50 = .ok (.goto 5, 3) := by decide +kernel
theorem dX6_seen_53 : decode (mC Y_X6_seen) 53 = .ok (.bipush (-3), 2) := by decide +kernel
theorem dX6_seen_55 : decode (mC Y_X6_seen) 55 = .ok (.ireturn, 1) := by decide +kernel
theorem dX6_kinds_0 : decode (mC Y_X6_kinds) 0 = .ok (.aload_n 0, 1) := by decide +kernel
theorem dX6_kinds_1 : decode (mC Y_X6_kinds) 1 = .ok (.iload_n 1, 1) := by decide +kernel
theorem dX6_kinds_2 : decode (mC Y_X6_kinds) 2 = .ok (.invokevirtual 102, 3) := by decide +kernel
theorem dX6_kinds_5 : decode (mC Y_X6_kinds) 5 = .ok (.ifCond .eq 5, 3) := by decide +kernel
theorem dX6_kinds_8 : decode (mC Y_X6_kinds) 8 = .ok (.iconst (-1), 1) := by decide +kernel
theorem dX6_kinds_9 : decode (mC Y_X6_kinds) 9 = .ok (.ireturn, 1) := by decide +kernel
theorem dX6_kinds_10 : decode (mC Y_X6_kinds) 10 = .ok (.iconst 0, 1) := by decide +kernel
theorem dX6_kinds_11 : decode (mC Y_X6_kinds) 11 = .ok (.istore_n 2, 1) := by decide +kernel
theorem dX6_kinds_12 : decode (mC Y_X6_kinds) 12 = .ok (.iconst 0, 1) := by decide +kernel
theorem dX6_kinds_13 : decode (mC Y_X6_kinds) 13 = .ok (.istore_n 3, 1) := by decide +kernel
theorem dX6_kinds_14 : decode (mC Y_X6_kinds) 14 = .ok (.iload_n 3, 1) := by decide +kernel
theorem dX6_kinds_15 : decode (mC Y_X6_kinds) 15 = .ok (.iconst 4, 1) := by decide +kernel
theorem dX6_kinds_16 : decode (mC Y_X6_kinds) 16 = .ok (.if_icmp .ge 39, 3) := by decide +kernel
theorem dX6_kinds_19 : decode (mC Y_X6_kinds) 19 = .ok (.aload_n 0, 1) := by decide +kernel
theorem dX6_kinds_20 : decode (mC Y_X6_kinds) 20 = .ok (.getfield 41, 3) := by decide +kernel
theorem dX6_kinds_23 : decode (mC Y_X6_kinds) 23 = .ok (.aload_n 0, 1) := by decide +kernel
theorem dX6_kinds_24 : decode (mC Y_X6_kinds) 24 = .ok (.getfield 19, 3) := by decide +kernel
theorem dX6_kinds_27 : decode (mC Y_X6_kinds) 27 = .ok (.iload_n 1, 1) := by decide +kernel
theorem dX6_kinds_28 : decode (mC Y_X6_kinds) 28 = .ok (.iload_n 3, 1) := by decide +kernel
theorem dX6_kinds_29 : decode (mC Y_X6_kinds) 29 = .ok (.aload_n 0, 1) := by decide +kernel
theorem dX6_kinds_30 : decode (mC Y_X6_kinds) 30 = .ok (.getfield 19, 3) := by decide +kernel
theorem dX6_kinds_33 : decode (mC Y_X6_kinds) 33 = .ok (.iload_n 1, 1) := by decide +kernel
theorem dX6_kinds_34 : decode (mC Y_X6_kinds) 34 = .ok (.invokevirtual 119, 3) := by decide +kernel
theorem dX6_kinds_37 : decode (mC Y_X6_kinds) 37 = .ok (.invokevirtual 187, 3) := by decide +kernel
theorem dX6_kinds_40 : decode (mC Y_X6_kinds) 40 = .ok (.ifCond .eq 9, 3) := by decide +kernel
theorem dX6_kinds_43 : decode (mC Y_X6_kinds) 43 = .ok (.iload_n 2, 1) := by decide +kernel
theorem dX6_kinds_44 : decode (mC Y_X6_kinds) 44 = .ok (.iconst 1, 1) := by decide +kernel
theorem dX6_kinds_45 : decode (mC Y_X6_kinds) 45 = .ok (.iload_n 3, 1) := by decide +kernel
theorem dX6_kinds_46 : decode (mC Y_X6_kinds) 46 = .ok (.ishl, 1) := by decide +kernel
theorem dX6_kinds_47 : decode (mC Y_X6_kinds) 47 = .ok (.ior, 1) := by decide +kernel
theorem dX6_kinds_48 : decode (mC Y_X6_kinds) 48 = .ok (.istore_n 2, 1) := by decide +kernel
theorem dX6_kinds_49 : decode (mC Y_X6_kinds) 49 = .ok (.iinc 3 1, 3) := by decide +kernel
theorem dX6_kinds_52 : decode (mC Y_X6_kinds) 52 = .ok (.goto (-38), 3) := by decide +kernel
theorem dX6_kinds_55 : decode (mC Y_X6_kinds) 55 = .ok (.iload_n 2, 1) := by decide +kernel
theorem dX6_kinds_56 : decode (mC Y_X6_kinds) 56 = .ok (.ireturn, 1) := by decide +kernel
theorem dX6_speeds_0 : decode (mC Y_X6_speeds) 0 = .ok (.aload_n 0, 1) := by decide +kernel
theorem dX6_speeds_1 : decode (mC Y_X6_speeds) 1 = .ok (.iload_n 1, 1) := by decide +kernel
theorem dX6_speeds_2 : decode (mC Y_X6_speeds) 2 = .ok (.invokevirtual 102, 3) := by decide +kernel
theorem dX6_speeds_5 : decode (mC Y_X6_speeds) 5 = .ok (.ifCond .eq 5, 3) := by decide +kernel
theorem dX6_speeds_8 : decode (mC Y_X6_speeds) 8 = .ok (.iconst (-1), 1) := by decide +kernel
theorem dX6_speeds_9 : decode (mC Y_X6_speeds) 9 = .ok (.ireturn, 1) := by decide +kernel
theorem dX6_speeds_10 : decode (mC Y_X6_speeds) 10 = .ok (.iconst 0, 1) := by decide +kernel
theorem dX6_speeds_11 : decode (mC Y_X6_speeds) 11 = .ok (.istore_n 2, 1) := by decide +kernel
theorem dX6_speeds_12 : decode (mC Y_X6_speeds) 12 = .ok (.iconst 0, 1) := by decide +kernel
theorem dX6_speeds_13 : decode (mC Y_X6_speeds) 13 = .ok (.istore_n 3, 1) := by decide +kernel
theorem dX6_speeds_14 : decode (mC Y_X6_speeds) 14 = .ok (.iload_n 3, 1) := by decide +kernel
theorem dX6_speeds_15 : decode (mC Y_X6_speeds) 15 = .ok (.bipush 12, 2) := by decide +kernel
theorem dX6_speeds_17 : decode (mC Y_X6_speeds) 17 = .ok (.if_icmp .ge 39, 3) := by decide +kernel
theorem dX6_speeds_20 : decode (mC Y_X6_speeds) 20 = .ok (.aload_n 0, 1) := by decide +kernel
theorem dX6_speeds_21 : decode (mC Y_X6_speeds) 21 = .ok (.getfield 41, 3) := by decide +kernel
theorem dX6_speeds_24 : decode (mC Y_X6_speeds) 24 = .ok (.aload_n 0, 1) := by decide +kernel
theorem dX6_speeds_25 : decode (mC Y_X6_speeds) 25 = .ok (.getfield 19, 3) := by decide +kernel
theorem dX6_speeds_28 : decode (mC Y_X6_speeds) 28 = .ok (.iload_n 1, 1) := by decide +kernel
theorem dX6_speeds_29 : decode (mC Y_X6_speeds) 29 = .ok (.aload_n 0, 1) := by decide +kernel
theorem dX6_speeds_30 : decode (mC Y_X6_speeds) 30 = .ok (.getfield 19, 3) := by decide +kernel
theorem dX6_speeds_33 : decode (mC Y_X6_speeds) 33 = .ok (.iload_n 1, 1) := by decide +kernel
theorem dX6_speeds_34 : decode (mC Y_X6_speeds) 34 = .ok (.invokevirtual 106, 3) := by decide +kernel
theorem dX6_speeds_37 : decode (mC Y_X6_speeds) 37 = .ok (.iload_n 3, 1) := by decide +kernel
theorem dX6_speeds_38 : decode (mC Y_X6_speeds) 38 = .ok (.invokevirtual 187, 3) := by decide +kernel
theorem dX6_speeds_41 : decode (mC Y_X6_speeds) 41 = .ok (.ifCond .eq 9, 3) := by decide +kernel
theorem dX6_speeds_44 : decode (mC Y_X6_speeds) 44 = .ok (.iload_n 2, 1) := by decide +kernel
theorem dX6_speeds_45 : decode (mC Y_X6_speeds) 45 = .ok (.iconst 1, 1) := by decide +kernel
theorem dX6_speeds_46 : decode (mC Y_X6_speeds) 46 = .ok (.iload_n 3, 1) := by decide +kernel
theorem dX6_speeds_47 : decode (mC Y_X6_speeds) 47 = .ok (.ishl, 1) := by decide +kernel
theorem dX6_speeds_48 : decode (mC Y_X6_speeds) 48 = .ok (.ior, 1) := by decide +kernel
theorem dX6_speeds_49 : decode (mC Y_X6_speeds) 49 = .ok (.istore_n 2, 1) := by decide +kernel
theorem dX6_speeds_50 : decode (mC Y_X6_speeds) 50 = .ok (.iinc 3 1, 3) := by decide +kernel
theorem dX6_speeds_53 : decode (mC Y_X6_speeds) 53 = .ok (.goto (-39), 3) := by decide +kernel
theorem dX6_speeds_56 : decode (mC Y_X6_speeds) 56 = .ok (.iload_n 2, 1) := by decide +kernel
theorem dX6_speeds_57 : decode (mC Y_X6_speeds) 57 = .ok (.ireturn, 1) := by decide +kernel
theorem dX6_told_0 : decode (mC Y_X6_told) 0 = .ok (.iload_n 1, 1) := by decide +kernel
theorem dX6_told_1 : decode (mC Y_X6_told) 1 = .ok (.iconst 0, 1) := by decide +kernel
theorem dX6_told_2 : decode (mC Y_X6_told) 2 = .ok (.bipush 24, 2) := by decide +kernel
theorem dX6_told_4 : decode (mC Y_X6_told) 4 = .ok (.invokestatic 73, 3) := by decide +kernel
theorem dX6_told_7 : decode (mC Y_X6_told) 7 = .ok (.ifCond .ne 13, 3) := by decide +kernel
theorem dX6_told_10 : decode (mC Y_X6_told) 10 = .ok (.iload_n 2, 1) := by decide +kernel
theorem dX6_told_11 : decode (mC Y_X6_told) 11 = .ok (.iconst 0, 1) := by decide +kernel
theorem dX6_told_12 : decode (mC Y_X6_told) 12 = .ok (.bipush 11, 2) := by decide +kernel
theorem dX6_told_14 : decode (mC Y_X6_told) 14 = .ok (.invokestatic 73, 3) := by decide +kernel
theorem dX6_told_17 : decode (mC Y_X6_told) 17 = .ok (.ifCond .eq 5, 3) := by decide +kernel
theorem dX6_told_20 : decode (mC Y_X6_told) 20 = .ok (.iconst (-1), 1) := by decide +kernel
theorem dX6_told_21 : decode (mC Y_X6_told) 21 = .ok (.ireturn, 1) := by decide +kernel
theorem dX6_told_22 : decode (mC Y_X6_told) 22 = .ok (.aload_n 0, 1) := by decide +kernel
theorem dX6_told_23 : decode (mC Y_X6_told) 23 = .ok (.getfield 45, 3) := by decide +kernel
theorem dX6_told_26 : decode (mC Y_X6_told) 26 = .ok (.bipush (-4), 2) := by decide +kernel
theorem dX6_told_28 : decode (mC Y_X6_told) 28 = .ok (.iload_n 1, 1) := by decide +kernel
theorem dX6_told_29 : decode (mC Y_X6_told) 29 = .ok (.iload_n 2, 1) := by decide +kernel
theorem dX6_told_30 : decode (mC Y_X6_told) 30 = .ok (.invokevirtual 183, 3) := by decide +kernel
theorem dX6_told_33 : decode (mC Y_X6_told) 33 = .ok (.ifCond .eq 13, 3) := by decide +kernel
theorem dX6_told_36 : decode (mC Y_X6_told) 36 = .ok (.aload_n 0, 1) := by decide +kernel
theorem dX6_told_37 : decode (mC Y_X6_told) 37 = .ok (.getfield 45, 3) := by decide +kernel
theorem dX6_told_40 : decode (mC Y_X6_told) 40 = .ok (.invokevirtual 186, 3) := by decide +kernel
theorem dX6_told_43 : decode (mC Y_X6_told) 43 = .ok (.goto 5, 3) := by decide +kernel
theorem dX6_told_46 : decode (mC Y_X6_told) 46 = .ok (.bipush (-3), 2) := by decide +kernel
theorem dX6_told_48 : decode (mC Y_X6_told) 48 = .ok (.ireturn, 1) := by decide +kernel
theorem dX6_rings_0 : decode (mC Y_X6_rings) 0 = .ok (.iload_n 1, 1) := by decide +kernel
theorem dX6_rings_1 : decode (mC Y_X6_rings) 1 = .ok (.iconst 0, 1) := by decide +kernel
theorem dX6_rings_2 : decode (mC Y_X6_rings) 2 = .ok (.iconst 1, 1) := by decide +kernel
theorem dX6_rings_3 : decode (mC Y_X6_rings) 3 = .ok (.invokestatic 73, 3) := by decide +kernel
theorem dX6_rings_6 : decode (mC Y_X6_rings) 6 = .ok (.ifCond .eq 5, 3) := by decide +kernel
theorem dX6_rings_9 : decode (mC Y_X6_rings) 9 = .ok (.iconst (-1), 1) := by decide +kernel
theorem dX6_rings_10 : decode (mC Y_X6_rings) 10 = .ok (.ireturn, 1) := by decide +kernel
theorem dX6_rings_11 : decode (mC Y_X6_rings) 11 = .ok (.iconst 0, 1) := by decide +kernel
theorem dX6_rings_12 : decode (mC Y_X6_rings) 12 = .ok (.istore_n 2, 1) := by decide +kernel
theorem dX6_rings_13 : decode (mC Y_X6_rings) 13 = .ok (.bipush (-4), 2) := by decide +kernel
theorem dX6_rings_15 : decode (mC Y_X6_rings) 15 = .ok (.istore_n 3, 1) := by decide +kernel
theorem dX6_rings_16 : decode (mC Y_X6_rings) 16 = .ok (.iconst 0, 1) := by decide +kernel
theorem dX6_rings_17 : decode (mC Y_X6_rings) 17 = .ok (.istore 4, 2) := by decide +kernel
theorem dX6_rings_19 : decode (mC Y_X6_rings) 19 = .ok (.iload 4, 2) := by decide +kernel
theorem dX6_rings_21 : decode (mC Y_X6_rings) 21 = .ok (.sipush 144, 3) := by decide +kernel
theorem dX6_rings_24 : decode (mC Y_X6_rings) 24 = .ok (.if_icmp .ge 41, 3) := by decide +kernel
theorem dX6_rings_27 : decode (mC Y_X6_rings) 27 = .ok (.aload_n 0, 1) := by decide +kernel
theorem dX6_rings_28 : decode (mC Y_X6_rings) 28 = .ok (.getfield 45, 3) := by decide +kernel
theorem dX6_rings_31 : decode (mC Y_X6_rings) 31 = .ok (.iload 4, 2) := by decide +kernel
theorem dX6_rings_33 : decode (mC Y_X6_rings) 33 = .ok (.bipush 12, 2) := by decide +kernel
theorem dX6_rings_35 : decode (mC Y_X6_rings) 35 = .ok (.idiv, 1) := by decide +kernel
theorem dX6_rings_36 : decode (mC Y_X6_rings) 36 = .ok (.iload 4, 2) := by decide +kernel
theorem dX6_rings_38 : decode (mC Y_X6_rings) 38 = .ok (.bipush 12, 2) := by decide +kernel
theorem dX6_rings_40 : decode (mC Y_X6_rings) 40 = .ok (.irem, 1) := by decide +kernel
theorem dX6_rings_41 : decode (mC Y_X6_rings) 41 = .ok (.invokevirtual 191, 3) := by decide +kernel
theorem dX6_rings_44 : decode (mC Y_X6_rings) 44 = .ok (.ifCond .eq 15, 3) := by decide +kernel
theorem dX6_rings_47 : decode (mC Y_X6_rings) 47 = .ok (.iinc 2 1, 3) := by decide +kernel
theorem dX6_rings_50 : decode (mC Y_X6_rings) 50 = .ok (.iload_n 3, 1) := by decide +kernel
theorem dX6_rings_51 : decode (mC Y_X6_rings) 51 = .ok (.bipush (-4), 2) := by decide +kernel
theorem dX6_rings_53 : decode (mC Y_X6_rings) 53 = .ok (.if_icmp .ne 6, 3) := by decide +kernel
theorem dX6_rings_56 : decode (mC Y_X6_rings) 56 = .ok (.iload 4, 2) := by decide +kernel
theorem dX6_rings_58 : decode (mC Y_X6_rings) 58 = .ok (.istore_n 3, 1) := by decide +kernel
theorem dX6_rings_59 : decode (mC Y_X6_rings) 59 = .ok (.iinc 4 1, 3) := by decide +kernel
theorem dX6_rings_62 : decode (mC Y_X6_rings) 62 = .ok (.goto (-43), 3) := by decide +kernel
theorem dX6_rings_65 : decode (mC Y_X6_rings) 65 = .ok (.iload_n 1, 1) := by decide +kernel
theorem dX6_rings_66 : decode (mC Y_X6_rings) 66 = .ok (.ifCond .ne 7, 3) := by decide +kernel
theorem dX6_rings_69 : decode (mC Y_X6_rings) 69 = .ok (.iload_n 2, 1) := by decide +kernel
theorem dX6_rings_70 : decode (mC Y_X6_rings) 70 = .ok (.goto 4, 3) := by decide +kernel
theorem dX6_rings_73 : decode (mC Y_X6_rings) 73 = .ok (.iload_n 3, 1) := by decide +kernel
theorem dX6_rings_74 : decode (mC Y_X6_rings) 74 = .ok (.ireturn, 1) := by decide +kernel
theorem dX6_markYardsOfRings_0 : decode (mC Y_X6_markYardsOfRings) 0 = .ok (.aload_n 0, 1) := by decide +kernel
theorem dX6_markYardsOfRings_1 : decode (mC Y_X6_markYardsOfRings) 1 = .ok (.getfield 62, 3) := by decide +kernel
theorem dX6_markYardsOfRings_4 : decode (mC Y_X6_markYardsOfRings) 4 = .ok (.iconst 0, 1) := by decide +kernel
theorem dX6_markYardsOfRings_5 : decode (mC Y_X6_markYardsOfRings) 5 = .ok (.invokestatic 237, 3) := by decide +kernel
theorem dX6_markYardsOfRings_8 : decode (mC Y_X6_markYardsOfRings) 8 = .ok (.iconst 0, 1) := by decide +kernel
theorem dX6_markYardsOfRings_9 : decode (mC Y_X6_markYardsOfRings) 9 = .ok (.istore_n 1, 1) := by decide +kernel
theorem dX6_markYardsOfRings_10 : decode (mC Y_X6_markYardsOfRings) 10 = .ok (.iload_n 1, 1) := by decide +kernel
theorem dX6_markYardsOfRings_11 : decode (mC Y_X6_markYardsOfRings) 11 = .ok (.sipush 144, 3) := by decide +kernel
theorem dX6_markYardsOfRings_14 : decode (mC Y_X6_markYardsOfRings) 14 = .ok (.if_icmp .ge 68, 3) := by decide +kernel
theorem dX6_markYardsOfRings_17 : decode (mC Y_X6_markYardsOfRings) 17 = .ok (.iload_n 1, 1) := by decide +kernel
theorem dX6_markYardsOfRings_18 : decode (mC Y_X6_markYardsOfRings) 18 = .ok (.bipush 12, 2) := by decide +kernel
theorem dX6_markYardsOfRings_20 : decode (mC Y_X6_markYardsOfRings) 20 = .ok (.idiv, 1) := by decide +kernel
theorem dX6_markYardsOfRings_21 : decode (mC Y_X6_markYardsOfRings) 21 = .ok (.istore_n 2, 1) := by decide +kernel
theorem dX6_markYardsOfRings_22 : decode (mC Y_X6_markYardsOfRings) 22 = .ok (.iload_n 1, 1) := by decide +kernel
theorem dX6_markYardsOfRings_23 : decode (mC Y_X6_markYardsOfRings) 23 = .ok (.bipush 12, 2) := by decide +kernel
theorem dX6_markYardsOfRings_25 : decode (mC Y_X6_markYardsOfRings) 25 = .ok (.irem, 1) := by decide +kernel
theorem dX6_markYardsOfRings_26 : decode (mC Y_X6_markYardsOfRings) 26 = .ok (.istore_n 3, 1) := by decide +kernel
theorem dX6_markYardsOfRings_27 : decode (mC Y_X6_markYardsOfRings) 27 = .ok (.aload_n 0, 1) := by decide +kernel
theorem dX6_markYardsOfRings_28 : decode (mC Y_X6_markYardsOfRings) 28 = .ok (.getfield 45, 3) := by decide +kernel
theorem dX6_markYardsOfRings_31 : decode (mC Y_X6_markYardsOfRings) 31 = .ok (.iload_n 2, 1) := by decide +kernel
theorem dX6_markYardsOfRings_32 : decode (mC Y_X6_markYardsOfRings) 32 = .ok (.iload_n 3, 1) := by decide +kernel
theorem dX6_markYardsOfRings_33 : decode (mC Y_X6_markYardsOfRings) 33 = .ok (.invokevirtual 191, 3) := by decide +kernel
theorem dX6_markYardsOfRings_36 : decode (mC Y_X6_markYardsOfRings) 36 = .ok (.ifCond .eq 40, 3) := by decide +kernel
theorem dX6_markYardsOfRings_39 : decode (mC Y_X6_markYardsOfRings) 39 = .ok (.iconst 0, 1) := by decide +kernel
theorem dX6_markYardsOfRings_40 : decode (mC Y_X6_markYardsOfRings) 40 = .ok (.istore 4, 2) := by decide +kernel
theorem dX6_markYardsOfRings_42 : decode (mC Y_X6_markYardsOfRings) 42 = .ok (.iload 4, 2) := by decide +kernel
theorem dX6_markYardsOfRings_44 : decode (mC Y_X6_markYardsOfRings) 44 = .ok (.bipush 12, 2) := by decide +kernel
theorem dX6_markYardsOfRings_46 : decode (mC Y_X6_markYardsOfRings) 46 = .ok (.if_icmp .gt 30, 3) := by decide +kernel
theorem dX6_markYardsOfRings_49 : decode (mC Y_X6_markYardsOfRings) 49 = .ok (.aload_n 0, 1) := by decide +kernel
theorem dX6_markYardsOfRings_50 : decode (mC Y_X6_markYardsOfRings) 50 = .ok (.getfield 62, 3) := by decide +kernel
theorem dX6_markYardsOfRings_53 : decode (mC Y_X6_markYardsOfRings) 53 = .ok (.iload 4, 2) := by decide +kernel
theorem dX6_markYardsOfRings_55 : decode (mC Y_X6_markYardsOfRings) 55 = .ok (.dup2, 1) := by decide +kernel
theorem dX6_markYardsOfRings_56 : decode (mC Y_X6_markYardsOfRings) 56 = .ok (.iaload, 1) := by decide +kernel
theorem dX6_markYardsOfRings_57 : decode (mC Y_X6_markYardsOfRings) 57 = .ok (.iconst 1, 1) := by decide +kernel
theorem dX6_markYardsOfRings_58 : decode (mC Y_X6_markYardsOfRings) 58 = .ok (.iload_n 2, 1) := by decide +kernel
theorem dX6_markYardsOfRings_59 : decode (mC Y_X6_markYardsOfRings) 59 = .ok (.iload 4, 2) := by decide +kernel
theorem dX6_markYardsOfRings_61 : decode (mC Y_X6_markYardsOfRings) 61 = .ok (.iload_n 3, 1) := by decide +kernel
theorem dX6_markYardsOfRings_62 : decode (mC Y_X6_markYardsOfRings) 62 = .ok (.imul, 1) := by decide +kernel
theorem dX6_markYardsOfRings_63 : decode (mC Y_X6_markYardsOfRings) 63 = .ok (.iadd, 1) := by decide +kernel
theorem dX6_markYardsOfRings_64 : decode (mC Y_X6_markYardsOfRings) 64 = .ok (.bipush 12, 2) := by decide +kernel
theorem dX6_markYardsOfRings_66 : decode (mC Y_X6_markYardsOfRings) 66 = .ok (.irem, 1) := by decide +kernel
theorem dX6_markYardsOfRings_67 : decode (mC Y_X6_markYardsOfRings) 67 = .ok (.ishl, 1) := by decide +kernel
theorem dX6_markYardsOfRings_68 : decode (mC Y_X6_markYardsOfRings) 68 = .ok (.ior, 1) := by decide +kernel
theorem dX6_markYardsOfRings_69 : decode (mC Y_X6_markYardsOfRings) 69 = .ok (.iastore, 1) := by decide +kernel
theorem dX6_markYardsOfRings_70 : decode (mC Y_X6_markYardsOfRings) 70 = .ok (.iinc 4 1, 3) := by decide +kernel
theorem dX6_markYardsOfRings_73 : decode (mC Y_X6_markYardsOfRings) 73 = .ok (.goto (-31), 3) := by decide +kernel
theorem dX6_markYardsOfRings_76 : decode (mC Y_X6_markYardsOfRings) 76 = .ok (.iinc 1 1, 3) := by decide +kernel
theorem dX6_markYardsOfRings_79 : decode (mC Y_X6_markYardsOfRings) 79 = .ok (.goto (-69), 3) := by decide +kernel
theorem dX6_markYardsOfRings_82 : decode (mC Y_X6_markYardsOfRings) 82 = .ok (.return_, 1) := by decide +kernel
theorem dX6_look_0 : decode (mC Y_X6_look) 0 = .ok (.iload_n 1, 1) := by decide +kernel
theorem dX6_look_1 : decode (mC Y_X6_look) 1 = .ok (.iconst 0, 1) := by decide +kernel
theorem dX6_look_2 : decode (mC Y_X6_look) 2 = .ok (.iconst 1, 1) := by decide +kernel
theorem dX6_look_3 : decode (mC Y_X6_look) 3 = .ok (.invokestatic 73, 3) := by decide +kernel
theorem dX6_look_6 : decode (mC Y_X6_look) 6 = .ok (.ifCond .eq 5, 3) := by decide +kernel
theorem dX6_look_9 : decode (mC Y_X6_look) 9 = .ok (.iconst (-1), 1) := by decide +kernel
theorem dX6_look_10 : decode (mC Y_X6_look) 10 = .ok (.ireturn, 1) := by decide +kernel
theorem dX6_look_11 : decode (mC Y_X6_look) 11 = .ok (.aload_n 0, 1) := by decide +kernel
theorem dX6_look_12 : decode (mC Y_X6_look) 12 = .ok (.invokevirtual 194, 3) := by decide +kernel
theorem dX6_look_15 : decode (mC Y_X6_look) 15 = .ok (.iconst 0, 1) := by decide +kernel
theorem dX6_look_16 : decode (mC Y_X6_look) 16 = .ok (.istore_n 2, 1) := by decide +kernel
theorem dX6_look_17 : decode (mC Y_X6_look) 17 = .ok (.iconst 0, 1) := by decide +kernel
theorem dX6_look_18 : decode (mC Y_X6_look) 18 = .ok (.istore_n 3, 1) := by decide +kernel
theorem dX6_look_19 : decode (mC Y_X6_look) 19 = .ok (.iconst 0, 1) := by decide +kernel
theorem dX6_look_20 : decode (mC Y_X6_look) 20 = .ok (.istore 4, 2) := by decide +kernel
theorem dX6_look_22 : decode (mC Y_X6_look) 22 = .ok (.iload 4, 2) := by decide +kernel
theorem dX6_look_24 : decode (mC Y_X6_look) 24 = .ok (.bipush 12, 2) := by decide +kernel
theorem dX6_look_26 : decode (mC Y_X6_look) 26 = .ok (.if_icmp .gt 33, 3) := by decide +kernel
theorem dX6_look_29 : decode (mC Y_X6_look) 29 = .ok (.aload_n 0, 1) := by decide +kernel
theorem dX6_look_30 : decode (mC Y_X6_look) 30 = .ok (.getfield 62, 3) := by decide +kernel
theorem dX6_look_33 : decode (mC Y_X6_look) 33 = .ok (.iload 4, 2) := by decide +kernel
theorem dX6_look_35 : decode (mC Y_X6_look) 35 = .ok (.iaload, 1) := by decide +kernel
theorem dX6_look_36 : decode (mC Y_X6_look) 36 = .ok (.invokestatic 149, 3) := by decide +kernel
theorem dX6_look_39 : decode (mC Y_X6_look) 39 = .ok (.istore 5, 2) := by decide +kernel
theorem dX6_look_41 : decode (mC Y_X6_look) 41 = .ok (.iload 5, 2) := by decide +kernel
theorem dX6_look_43 : decode (mC Y_X6_look) 43 = .ok (.iload_n 3, 1) := by decide +kernel
theorem dX6_look_44 : decode (mC Y_X6_look) 44 = .ok (.if_icmp .le 9, 3) := by decide +kernel
theorem dX6_look_47 : decode (mC Y_X6_look) 47 = .ok (.iload 4, 2) := by decide +kernel
theorem dX6_look_49 : decode (mC Y_X6_look) 49 = .ok (.istore_n 2, 1) := by decide +kernel
theorem dX6_look_50 : decode (mC Y_X6_look) 50 = .ok (.iload 5, 2) := by decide +kernel
theorem dX6_look_52 : decode (mC Y_X6_look) 52 = .ok (.istore_n 3, 1) := by decide +kernel
theorem dX6_look_53 : decode (mC Y_X6_look) 53 = .ok (.iinc 4 1, 3) := by decide +kernel
theorem dX6_look_56 : decode (mC Y_X6_look) 56 = .ok (.goto (-34), 3) := by decide +kernel
theorem dX6_look_59 : decode (mC Y_X6_look) 59 = .ok (.iload_n 1, 1) := by decide +kernel
theorem dX6_look_60 : decode (mC Y_X6_look) 60 = .ok (.ifCond .ne 7, 3) := by decide +kernel
theorem dX6_look_63 : decode (mC Y_X6_look) 63 = .ok (.iload_n 2, 1) := by decide +kernel
theorem dX6_look_64 : decode (mC Y_X6_look) 64 = .ok (.goto 4, 3) := by decide +kernel
theorem dX6_look_67 : decode (mC Y_X6_look) 67 = .ok (.iload_n 3, 1) := by decide +kernel
theorem dX6_look_68 : decode (mC Y_X6_look) 68 = .ok (.ireturn, 1) := by decide +kernel
theorem dX6_forget_0 : decode (mC Y_X6_forget) 0 = .ok (.aload_n 0, 1) := by decide +kernel
theorem dX6_forget_1 : decode (mC Y_X6_forget) 1 = .ok (.getfield 41, 3) := by decide +kernel
theorem dX6_forget_4 : decode (mC Y_X6_forget) 4 = .ok (.invokevirtual 99, 3) := by decide +kernel
theorem dX6_forget_7 : decode (mC Y_X6_forget) 7 = .ok (.aload_n 0, 1) := by decide +kernel
theorem dX6_forget_8 : decode (mC Y_X6_forget) 8 = .ok (.getfield 45, 3) := by decide +kernel
theorem dX6_forget_11 : decode (mC Y_X6_forget) 11 = .ok (.invokevirtual 99, 3) := by decide +kernel
theorem dX6_forget_14 : decode (mC Y_X6_forget) 14 = .ok (.iadd, 1) := by decide +kernel
theorem dX6_forget_15 : decode (mC Y_X6_forget) 15 = .ok (.ireturn, 1) := by decide +kernel
theorem dX6_powerOfTen_0 : decode (mC Y_X6_powerOfTen) 0 = .ok (.iconst 1, 1) := by decide +kernel
theorem dX6_powerOfTen_1 : decode (mC Y_X6_powerOfTen) 1 = .ok (.istore_n 1, 1) := by decide +kernel
theorem dX6_powerOfTen_2 : decode (mC Y_X6_powerOfTen) 2 = .ok (.iconst 0, 1) := by decide +kernel
theorem dX6_powerOfTen_3 : decode (mC Y_X6_powerOfTen) 3 = .ok (.istore_n 2, 1) := by decide +kernel
theorem dX6_powerOfTen_4 : decode (mC Y_X6_powerOfTen) 4 = .ok (.iload_n 2, 1) := by decide +kernel
theorem dX6_powerOfTen_5 : decode (mC Y_X6_powerOfTen) 5 = .ok (.iload_n 0, 1) := by decide +kernel
theorem dX6_powerOfTen_6 : decode (mC Y_X6_powerOfTen) 6 = .ok (.if_icmp .ge 14, 3) := by decide +kernel
theorem dX6_powerOfTen_9 : decode (mC Y_X6_powerOfTen) 9 = .ok (.iload_n 1, 1) := by decide +kernel
theorem dX6_powerOfTen_10 : decode (mC Y_X6_powerOfTen) 10 = .ok (.bipush 10, 2) := by decide +kernel
theorem dX6_powerOfTen_12 : decode (mC Y_X6_powerOfTen) 12 = .ok (.imul, 1) := by decide +kernel
theorem dX6_powerOfTen_13 : decode (mC Y_X6_powerOfTen) 13 = .ok (.istore_n 1, 1) := by decide +kernel
theorem dX6_powerOfTen_14 : decode (mC Y_X6_powerOfTen) 14 = .ok (.iinc 2 1, 3) := by decide +kernel
theorem dX6_powerOfTen_17 : decode (mC Y_X6_powerOfTen) 17 = .ok (.goto (-13), 3) := by decide +kernel
theorem dX6_powerOfTen_20 : decode (mC Y_X6_powerOfTen) 20 = .ok (.iload_n 1, 1) := by decide +kernel
theorem dX6_powerOfTen_21 : decode (mC Y_X6_powerOfTen) 21 = .ok (.ireturn, 1) := by decide +kernel
theorem dX6_commonDivisor_0 : decode (mC Y_X6_commonDivisor) 0 = .ok (.iload_n 0, 1) := by decide +kernel
theorem dX6_commonDivisor_1 : decode (mC Y_X6_commonDivisor) 1 = .ok (.istore_n 2, 1) := by decide +kernel
theorem dX6_commonDivisor_2 : decode (mC Y_X6_commonDivisor) 2 = .ok (.iload_n 1, 1) := by decide +kernel
theorem dX6_commonDivisor_3 : decode (mC Y_X6_commonDivisor) 3 = .ok (.istore_n 3, 1) := by decide +kernel
theorem dX6_commonDivisor_4 : decode (mC Y_X6_commonDivisor) 4 = .ok (.iconst 0, 1) := by decide +kernel
theorem dX6_commonDivisor_5 : decode (mC Y_X6_commonDivisor) 5 = .ok (.istore 4, 2) := by decide +kernel
theorem dX6_commonDivisor_7 : decode (mC Y_X6_commonDivisor) 7 = .ok (.iload 4, 2) := by decide +kernel
theorem dX6_commonDivisor_9 : decode (mC Y_X6_commonDivisor) 9 = .ok (.bipush 100, 2) := by decide +kernel
theorem dX6_commonDivisor_11 : decode (mC Y_X6_commonDivisor) 11 = .ok (.if_icmp .ge 23, 3) := by decide +kernel
theorem dX6_commonDivisor_14 : decode (mC Y_X6_commonDivisor) 14 = .ok (.iload_n 3, 1) := by decide +kernel
theorem dX6_commonDivisor_15 : decode (mC Y_X6_commonDivisor) 15 = .ok (.ifCond .eq 19, 3) := by decide +kernel
theorem dX6_commonDivisor_18 : decode (mC Y_X6_commonDivisor) 18 = .ok (.iload_n 2, 1) := by decide +kernel
theorem dX6_commonDivisor_19 : decode (mC Y_X6_commonDivisor) 19 = .ok (.iload_n 3, 1) := by decide +kernel
theorem dX6_commonDivisor_20 : decode (mC Y_X6_commonDivisor) 20 = .ok (.irem, 1) := by decide +kernel
theorem dX6_commonDivisor_21 : decode (mC Y_X6_commonDivisor) 21 = .ok (.istore 5, 2) := by decide +kernel
theorem dX6_commonDivisor_23 : decode (mC Y_X6_commonDivisor) 23 = .ok (.iload_n 3, 1) := by decide +kernel
theorem dX6_commonDivisor_24 : decode (mC Y_X6_commonDivisor) 24 = .ok (.istore_n 2, 1) := by decide +kernel
theorem dX6_commonDivisor_25 : decode (mC Y_X6_commonDivisor) 25 = .ok (.iload 5, 2) := by decide +kernel
theorem dX6_commonDivisor_27 : decode (mC Y_X6_commonDivisor) 27 = .ok (.istore_n 3, 1) := by decide +kernel
theorem dX6_commonDivisor_28 : decode (mC Y_X6_commonDivisor) 28 = .ok (.iinc 4 1, 3) := by decide +kernel
theorem dX6_commonDivisor_31 : decode (mC Y_X6_commonDivisor) 31 = .ok (.goto (-24), 3) := by decide +kernel
theorem dX6_commonDivisor_34 : decode (mC Y_X6_commonDivisor) 34 = .ok (.iload_n 2, 1) := by decide +kernel
theorem dX6_commonDivisor_35 : decode (mC Y_X6_commonDivisor) 35 = .ok (.ireturn, 1) := by decide +kernel
theorem dX6_likely_0 : decode (mC Y_X6_likely) 0 = .ok (.aload_n 0, 1) := by decide +kernel
theorem dX6_likely_1 : decode (mC Y_X6_likely) 1 = .ok (.iload_n 1, 1) := by decide +kernel
theorem dX6_likely_2 : decode (mC Y_X6_likely) 2 = .ok (.iload_n 2, 1) := by decide +kernel
theorem dX6_likely_3 : decode (mC Y_X6_likely) 3 = .ok (.invokevirtual 122, 3) := by decide +kernel
theorem dX6_likely_6 : decode (mC Y_X6_likely) 6 = .ok (.ifCond .ne 34, 3) := by decide +kernel
theorem dX6_likely_9 : decode (mC Y_X6_likely) 9 = .ok (.iload_n 3, 1) := by decide +kernel
theorem dX6_likely_10 : decode (mC Y_X6_likely) 10 = .ok (.iconst 0, 1) := by decide +kernel
theorem dX6_likely_11 : decode (mC Y_X6_likely) 11 = .ok (.bipush 7, 2) := by decide +kernel
theorem dX6_likely_13 : decode (mC Y_X6_likely) 13 = .ok (.invokestatic 73, 3) := by decide +kernel
theorem dX6_likely_16 : decode (mC Y_X6_likely) 16 = .ok (.ifCond .ne 24, 3) := by decide +kernel
theorem dX6_likely_19 : decode (mC Y_X6_likely) 19 = .ok (.iload 4, 2) := by decide +kernel
theorem dX6_likely_21 : decode (mC Y_X6_likely) 21 = .ok (.iconst 0, 1) := by decide +kernel
theorem dX6_likely_22 : decode (mC Y_X6_likely) 22 = .ok (.bipush 10, 2) := by decide +kernel
theorem dX6_likely_24 : decode (mC Y_X6_likely) 24 = .ok (.invokestatic 73, 3) := by decide +kernel
theorem dX6_likely_27 : decode (mC Y_X6_likely) 27 = .ok (.ifCond .ne 13, 3) := by decide +kernel
theorem dX6_likely_30 : decode (mC Y_X6_likely) 30 = .ok (.iload 5, 2) := by decide +kernel
theorem dX6_likely_32 : decode (mC Y_X6_likely) 32 = .ok (.iconst 0, 1) := by decide +kernel
theorem dX6_likely_33 : decode (mC Y_X6_likely) 33 = .ok (.iconst 1, 1) := by decide +kernel
theorem dX6_likely_34 : decode (mC Y_X6_likely) 34 = .ok (.invokestatic 73, 3) := by decide +kernel
theorem dX6_likely_37 : decode (mC Y_X6_likely) 37 = .ok (.ifCond .eq 5, 3) := by decide +kernel
theorem dX6_likely_40 : decode (mC Y_X6_likely) 40 = .ok (.iconst (-1), 1) := by decide +kernel
theorem dX6_likely_41 : decode (mC Y_X6_likely) 41 = .ok (.ireturn, 1) := by decide +kernel
theorem dX6_likely_42 : decode (mC Y_X6_likely) 42 = .ok (.iconst 0, 1) := by decide +kernel
theorem dX6_likely_43 : decode (mC Y_X6_likely) 43 = .ok (.istore 6, 2) := by decide +kernel
theorem dX6_likely_45 : decode (mC Y_X6_likely) 45 = .ok (.aload_n 0, 1) := by decide +kernel
theorem dX6_likely_46 : decode (mC Y_X6_likely) 46 = .ok (.getfield 19, 3) := by decide +kernel
theorem dX6_likely_49 : decode (mC Y_X6_likely) 49 = .ok (.iload_n 1, 1) := by decide +kernel
theorem dX6_likely_50 : decode (mC Y_X6_likely) 50 = .ok (.iload_n 2, 1) := by decide +kernel
theorem dX6_likely_51 : decode (mC Y_X6_likely) 51 = .ok (.invokevirtual 170, 3) := by decide +kernel
theorem dX6_likely_54 : decode (mC Y_X6_likely) 54 = .ok (.ifCond .eq 52, 3) := by decide +kernel
theorem dX6_likely_57 : decode (mC Y_X6_likely) 57 = .ok (.aload_n 0, 1) := by decide +kernel
theorem dX6_likely_58 : decode (mC Y_X6_likely) 58 = .ok (.getfield 58, 3) := by decide +kernel
theorem dX6_likely_61 : decode (mC Y_X6_likely) 61 = .ok (.aload_n 0, 1) := by decide +kernel
theorem dX6_likely_62 : decode (mC Y_X6_likely) 62 = .ok (.getfield 19, 3) := by decide +kernel
theorem dX6_likely_65 : decode (mC Y_X6_likely) 65 = .ok (.iload_n 1, 1) := by decide +kernel
theorem dX6_likely_66 : decode (mC Y_X6_likely) 66 = .ok (.iload_n 3, 1) := by decide +kernel
theorem dX6_likely_67 : decode (mC Y_X6_likely) 67 = .ok (.iload 4, 2) := by decide +kernel
theorem dX6_likely_69 : decode (mC Y_X6_likely) 69 = .ok (.invokevirtual 197, 3) := by decide +kernel
theorem dX6_likely_72 : decode (mC Y_X6_likely) 72 = .ok (.aload_n 0, 1) := by decide +kernel
theorem dX6_likely_73 : decode (mC Y_X6_likely) 73 = .ok (.getfield 58, 3) := by decide +kernel
theorem dX6_likely_76 : decode (mC Y_X6_likely) 76 = .ok (.aload_n 0, 1) := by decide +kernel
theorem dX6_likely_77 : decode (mC Y_X6_likely) 77 = .ok (.getfield 19, 3) := by decide +kernel
theorem dX6_likely_80 : decode (mC Y_X6_likely) 80 = .ok (.iload_n 3, 1) := by decide +kernel
theorem dX6_likely_81 : decode (mC Y_X6_likely) 81 = .ok (.iload_n 2, 1) := by decide +kernel
theorem dX6_likely_82 : decode (mC Y_X6_likely) 82 = .ok (.aload_n 0, 1) := by decide +kernel
theorem dX6_likely_83 : decode (mC Y_X6_likely) 83 = .ok (.getfield 19, 3) := by decide +kernel
theorem dX6_likely_86 : decode (mC Y_X6_likely) 86 = .ok (.iload_n 2, 1) := by decide +kernel
theorem dX6_likely_87 : decode (mC Y_X6_likely) 87 = .ok (.invokevirtual 106, 3) := by decide +kernel
theorem dX6_likely_90 : decode (mC Y_X6_likely) 90 = .ok (.aload_n 0, 1) := by decide +kernel
theorem dX6_likely_91 : decode (mC Y_X6_likely) 91 = .ok (.getfield 19, 3) := by decide +kernel
theorem dX6_likely_94 : decode (mC Y_X6_likely) 94 = .ok (.iload_n 2, 1) := by decide +kernel
theorem dX6_likely_95 : decode (mC Y_X6_likely) 95 = .ok (.invokevirtual 119, 3) := by decide +kernel
theorem dX6_likely_98 : decode (mC Y_X6_likely) 98 = .ok (.invokevirtual 163, 3) := by decide +kernel
theorem dX6_likely_101 : decode (mC Y_X6_likely) 101 = .ok (.invokevirtual 201, 3) := by decide +kernel
theorem dX6_likely_104 : decode (mC Y_X6_likely) 104 = .ok (.istore 6, 2) := by decide +kernel
theorem dX6_likely_106 : decode (mC Y_X6_likely) 106 = .ok (.iload_n 3, 1) := by decide +kernel
theorem dX6_likely_107 : decode (mC Y_X6_likely) 107 = .ok (.invokestatic 204, 3) := by decide +kernel
theorem dX6_likely_110 : decode (mC Y_X6_likely) 110 = .ok (.istore 7, 2) := by decide +kernel
theorem dX6_likely_112 : decode (mC Y_X6_likely) 112 = .ok (.iconst 1, 1) := by decide +kernel
theorem dX6_likely_113 : decode (mC Y_X6_likely) 113 = .ok (.iload 6, 2) := by decide +kernel
theorem dX6_likely_115 : decode (mC Y_X6_likely) 115 = .ok (.iload 7, 2) := by decide +kernel
theorem dX6_likely_117 : decode (mC Y_X6_likely) 117 = .ok (.invokestatic 207, 3) := by decide +kernel
theorem dX6_likely_120 : decode (mC Y_X6_likely) 120 = .ok (.invokestatic 210, 3) := by decide +kernel
theorem dX6_likely_123 : decode (mC Y_X6_likely) 123 = .ok (.istore 8, 2) := by decide +kernel
theorem dX6_likely_125 : decode (mC Y_X6_likely) 125 = .ok (.iload 5, 2) := by decide +kernel
theorem dX6_likely_127 : decode (mC Y_X6_likely) 127 = .ok (.ifCond .ne 11, 3) := by decide +kernel
theorem dX6_likely_130 : decode (mC Y_X6_likely) 130 = .ok (.iload 6, 2) := by decide +kernel
theorem dX6_likely_132 : decode (mC Y_X6_likely) 132 = .ok (.iload 8, 2) := by decide +kernel
theorem dX6_likely_134 : decode (mC Y_X6_likely) 134 = .ok (.idiv, 1) := by decide +kernel
theorem dX6_likely_135 : decode (mC Y_X6_likely) 135 = .ok (.goto 8, 3) := by decide +kernel
theorem dX6_likely_138 : decode (mC Y_X6_likely) 138 = .ok (.iload 7, 2) := by decide +kernel
theorem dX6_likely_140 : decode (mC Y_X6_likely) 140 = .ok (.iload 8, 2) := by decide +kernel
theorem dX6_likely_142 : decode (mC Y_X6_likely) 142 = .ok (.idiv, 1) := by decide +kernel
theorem dX6_likely_143 : decode (mC Y_X6_likely) 143 = .ok (.ireturn, 1) := by decide +kernel
theorem dX6_draw_0 : decode (mC Y_X6_draw) 0 = .ok (.ldc2_w 243, 3) := by decide +kernel
theorem dX6_draw_3 : decode (mC Y_X6_draw) 3 = .ok (.iload_n 0, 1) := by decide +kernel
theorem dX6_draw_4 : decode (mC Y_X6_draw) 4 = .ok (.i2l, 1) := by decide +kernel
theorem dX6_draw_5 : decode (mC Y_X6_draw) 5 = .ok (.lmul, 1) := by decide +kernel
theorem dX6_draw_6 : decode (mC Y_X6_draw) 6 = .ok (.ldc2_w 245, 3) := by decide +kernel
theorem dX6_draw_9 : decode (mC Y_X6_draw) 9 = .ok (.iload_n 1, 1) := by decide +kernel
theorem dX6_draw_10 : decode (mC Y_X6_draw) 10 = .ok (.i2l, 1) := by decide +kernel
theorem dX6_draw_11 : decode (mC Y_X6_draw) 11 = .ok (.lmul, 1) := by decide +kernel
theorem dX6_draw_12 : decode (mC Y_X6_draw) 12 = .ok (.ladd, 1) := by decide +kernel
theorem dX6_draw_13 : decode (mC Y_X6_draw) 13 = .ok (.lconst 1, 1) := by decide +kernel
theorem dX6_draw_14 : decode (mC Y_X6_draw) 14 = .ok (.ladd, 1) := by decide +kernel
theorem dX6_draw_15 : decode (mC Y_X6_draw) 15 = .ok (.lstore_n 2, 1) := by decide +kernel
theorem dX6_draw_16 : decode (mC Y_X6_draw) 16 = .ok (.lload_n 2, 1) := by decide +kernel
theorem dX6_draw_17 : decode (mC Y_X6_draw) 17 = .ok (.lload_n 2, 1) := by decide +kernel
theorem dX6_draw_18 : decode (mC Y_X6_draw) 18 = .ok (.lmul, 1) := by decide +kernel
theorem dX6_draw_19 : decode (mC Y_X6_draw) 19 = .ok (.ldc2_w 247, 3) := by decide +kernel
theorem dX6_draw_22 : decode (mC Y_X6_draw) 22 = .ok (.lrem, 1) := by decide +kernel
theorem dX6_draw_23 : decode (mC Y_X6_draw) 23 = .ok (.ldc2_w 249, 3) := by decide +kernel
theorem dX6_draw_26 : decode (mC Y_X6_draw) 26 = .ok (.ldiv, 1) := by decide +kernel
theorem dX6_draw_27 : decode (mC Y_X6_draw) 27 = .ok (.l2i, 1) := by decide +kernel
theorem dX6_draw_28 : decode (mC Y_X6_draw) 28 = .ok (.ireturn, 1) := by decide +kernel
theorem dX6_season_0 : decode (mC Y_X6_season) 0 = .ok (.iload_n 1, 1) := by decide +kernel
theorem dX6_season_1 : decode (mC Y_X6_season) 1 = .ok (.iconst 0, 1) := by decide +kernel
theorem dX6_season_2 : decode (mC Y_X6_season) 2 = .ok (.sipush 9999, 3) := by decide +kernel
theorem dX6_season_5 : decode (mC Y_X6_season) 5 = .ok (.invokestatic 73, 3) := by decide +kernel
theorem dX6_season_8 : decode (mC Y_X6_season) 8 = .ok (.ifCond .ne 22, 3) := by decide +kernel
theorem dX6_season_11 : decode (mC Y_X6_season) 11 = .ok (.iload_n 2, 1) := by decide +kernel
theorem dX6_season_12 : decode (mC Y_X6_season) 12 = .ok (.iconst 1, 1) := by decide +kernel
theorem dX6_season_13 : decode (mC Y_X6_season) 13 = .ok (.bipush 60, 2) := by decide +kernel
theorem dX6_season_15 : decode (mC Y_X6_season) 15 = .ok (.invokestatic 73, 3) := by decide +kernel
theorem dX6_season_18 : decode (mC Y_X6_season) 18 = .ok (.ifCond .ne 12, 3) := by decide +kernel
theorem dX6_season_21 : decode (mC Y_X6_season) 21 = .ok (.iload_n 3, 1) := by decide +kernel
theorem dX6_season_22 : decode (mC Y_X6_season) 22 = .ok (.iconst 0, 1) := by decide +kernel
theorem dX6_season_23 : decode (mC Y_X6_season) 23 = .ok (.iconst 2, 1) := by decide +kernel
theorem dX6_season_24 : decode (mC Y_X6_season) 24 = .ok (.invokestatic 73, 3) := by decide +kernel
theorem dX6_season_27 : decode (mC Y_X6_season) 27 = .ok (.ifCond .eq 5, 3) := by decide +kernel
theorem dX6_season_30 : decode (mC Y_X6_season) 30 = .ok (.iconst (-1), 1) := by decide +kernel
theorem dX6_season_31 : decode (mC Y_X6_season) 31 = .ok (.ireturn, 1) := by decide +kernel
theorem dX6_season_32 : decode (mC Y_X6_season) 32 = .ok (.aload_n 0, 1) := by decide +kernel
theorem dX6_season_33 : decode (mC Y_X6_season) 33 = .ok (.getfield 23, 3) := by decide +kernel
theorem dX6_season_36 : decode (mC Y_X6_season) 36 = .ok (.aload_n 0, 1) := by decide +kernel
theorem dX6_season_37 : decode (mC Y_X6_season) 37 = .ok (.getfield 19, 3) := by decide +kernel
theorem dX6_season_40 : decode (mC Y_X6_season) 40 = .ok (.invokevirtual 95, 3) := by decide +kernel
theorem dX6_season_43 : decode (mC Y_X6_season) 43 = .ok (.iconst 0, 1) := by decide +kernel
theorem dX6_season_44 : decode (mC Y_X6_season) 44 = .ok (.istore 4, 2) := by decide +kernel
theorem dX6_season_46 : decode (mC Y_X6_season) 46 = .ok (.iconst 0, 1) := by decide +kernel
theorem dX6_season_47 : decode (mC Y_X6_season) 47 = .ok (.istore 5, 2) := by decide +kernel
theorem dX6_season_49 : decode (mC Y_X6_season) 49 = .ok (.iload 5, 2) := by decide +kernel
theorem dX6_season_51 : decode (mC Y_X6_season) 51 = .ok (.iload_n 2, 1) := by decide +kernel
theorem dX6_season_52 : decode (mC Y_X6_season) 52 = .ok (.if_icmp .ge 35, 3) := by decide +kernel
theorem dX6_season_55 : decode (mC Y_X6_season) 55 = .ok (.aload_n 0, 1) := by decide +kernel
theorem dX6_season_56 : decode (mC Y_X6_season) 56 = .ok (.getfield 23, 3) := by decide +kernel
theorem dX6_season_59 : decode (mC Y_X6_season) 59 = .ok (.iload_n 1, 1) := by decide +kernel
theorem dX6_season_60 : decode (mC Y_X6_season) 60 = .ok (.iload 5, 2) := by decide +kernel
theorem dX6_season_62 : decode (mC Y_X6_season) 62 = .ok (.invokestatic 215, 3) := by decide +kernel
theorem dX6_season_65 : decode (mC Y_X6_season) 65 = .ok (.invokevirtual 218, 3) := by decide +kernel
theorem dX6_season_68 : decode (mC Y_X6_season) 68 = .ok (.iload 4, 2) := by decide +kernel
theorem dX6_season_70 : decode (mC Y_X6_season) 70 = .ok (.aload_n 0, 1) := by decide +kernel
theorem dX6_season_71 : decode (mC Y_X6_season) 71 = .ok (.getfield 23, 3) := by decide +kernel
theorem dX6_season_74 : decode (mC Y_X6_season) 74 = .ok (.iconst 1, 1) := by decide +kernel
theorem dX6_season_75 : decode (mC Y_X6_season) 75 = .ok (.invokevirtual 142, 3) := by decide +kernel
theorem dX6_season_78 : decode (mC Y_X6_season) 78 = .ok (.iadd, 1) := by decide +kernel
theorem dX6_season_79 : decode (mC Y_X6_season) 79 = .ok (.istore 4, 2) := by decide +kernel
theorem dX6_season_81 : decode (mC Y_X6_season) 81 = .ok (.iinc 5 1, 3) := by decide +kernel
theorem dX6_season_84 : decode (mC Y_X6_season) 84 = .ok (.goto (-35), 3) := by decide +kernel
theorem dX6_season_87 : decode (mC Y_X6_season) 87 = .ok (.iload_n 3, 1) := by decide +kernel
theorem dX6_season_88 : decode (mC Y_X6_season) 88 = .ok (.lookupswitch 39 #[(0, 28), (1, 31)], 28) := by decide +kernel
theorem dX6_season_116 : decode (mC Y_X6_season) 116 = .ok (.iload 4, 2) := by decide +kernel
theorem dX6_season_118 : decode (mC Y_X6_season) 118 = .ok (.ireturn, 1) := by decide +kernel
theorem dX6_season_119 : decode (mC Y_X6_season) 119 = .ok (.aload_n 0, 1) := by decide +kernel
theorem dX6_season_120 : decode (mC Y_X6_season) 120 = .ok (.getfield 23, 3) := by decide +kernel
theorem dX6_season_123 : decode (mC Y_X6_season) 123 = .ok (.invokevirtual 221, 3) := by decide +kernel
theorem dX6_season_126 : decode (mC Y_X6_season) 126 = .ok (.ireturn, 1) := by decide +kernel
theorem dX6_season_127 : decode (mC Y_X6_season) 127 = .ok (.aload_n 0, 1) := by decide +kernel
theorem dX6_season_128 : decode (mC Y_X6_season) 128 = .ok (.getfield 23, 3) := by decide +kernel
theorem dX6_season_131 : decode (mC Y_X6_season) 131 = .ok (.invokevirtual 224, 3) := by decide +kernel
theorem dX6_season_134 : decode (mC Y_X6_season) 134 = .ok (.ireturn, 1) := by decide +kernel
theorem dX6_keep_0 : decode (mC Y_X6_keep) 0 = .ok (.aload_n 0, 1) := by decide +kernel
theorem dX6_keep_1 : decode (mC Y_X6_keep) 1 = .ok (.getfield 35, 3) := by decide +kernel
theorem dX6_keep_4 : decode (mC Y_X6_keep) 4 = .ok (.invokevirtual 227, 3) := by decide +kernel
theorem dX6_keep_7 : decode (mC Y_X6_keep) 7 = .ok (.ifCond .eq 6, 3) := by decide +kernel
theorem dX6_keep_10 : decode (mC Y_X6_keep) 10 = .ok (.bipush (-3), 2) := by decide +kernel
theorem dX6_keep_12 : decode (mC Y_X6_keep) 12 = .ok (.ireturn, 1) := by decide +kernel
theorem dX6_keep_13 : decode (mC Y_X6_keep) 13 = .ok (.aload_n 0, 1) := by decide +kernel
theorem dX6_keep_14 : decode (mC Y_X6_keep) 14 = .ok (.getfield 35, 3) := by decide +kernel
theorem dX6_keep_17 : decode (mC Y_X6_keep) 17 = .ok (.aload_n 0, 1) := by decide +kernel
theorem dX6_keep_18 : decode (mC Y_X6_keep) 18 = .ok (.getfield 19, 3) := by decide +kernel
theorem dX6_keep_21 : decode (mC Y_X6_keep) 21 = .ok (.invokevirtual 139, 3) := by decide +kernel
theorem dX6_keep_24 : decode (mC Y_X6_keep) 24 = .ok (.aload_n 0, 1) := by decide +kernel
theorem dX6_keep_25 : decode (mC Y_X6_keep) 25 = .ok (.getfield 35, 3) := by decide +kernel
theorem dX6_keep_28 : decode (mC Y_X6_keep) 28 = .ok (.invokevirtual 162, 3) := by decide +kernel
theorem dX6_keep_31 : decode (mC Y_X6_keep) 31 = .ok (.ireturn, 1) := by decide +kernel
theorem dX6_back_0 : decode (mC Y_X6_back) 0 = .ok (.aload_n 0, 1) := by decide +kernel
theorem dX6_back_1 : decode (mC Y_X6_back) 1 = .ok (.getfield 35, 3) := by decide +kernel
theorem dX6_back_4 : decode (mC Y_X6_back) 4 = .ok (.aload_n 0, 1) := by decide +kernel
theorem dX6_back_5 : decode (mC Y_X6_back) 5 = .ok (.getfield 19, 3) := by decide +kernel
theorem dX6_back_8 : decode (mC Y_X6_back) 8 = .ok (.invokevirtual 158, 3) := by decide +kernel
theorem dX6_back_11 : decode (mC Y_X6_back) 11 = .ok (.ifCond .ne 6, 3) := by decide +kernel
theorem dX6_back_14 : decode (mC Y_X6_back) 14 = .ok (.bipush (-2), 2) := by decide +kernel
theorem dX6_back_16 : decode (mC Y_X6_back) 16 = .ok (.ireturn, 1) := by decide +kernel
theorem dX6_back_17 : decode (mC Y_X6_back) 17 = .ok (.aload_n 0, 1) := by decide +kernel
theorem dX6_back_18 : decode (mC Y_X6_back) 18 = .ok (.getfield 31, 3) := by decide +kernel
theorem dX6_back_21 : decode (mC Y_X6_back) 21 = .ok (.invokevirtual 100, 3) := by decide +kernel
theorem dX6_back_24 : decode (mC Y_X6_back) 24 = .ok (.aload_n 0, 1) := by decide +kernel
theorem dX6_back_25 : decode (mC Y_X6_back) 25 = .ok (.getfield 35, 3) := by decide +kernel
theorem dX6_back_28 : decode (mC Y_X6_back) 28 = .ok (.invokevirtual 162, 3) := by decide +kernel
theorem dX6_back_31 : decode (mC Y_X6_back) 31 = .ok (.ireturn, 1) := by decide +kernel
theorem dX6_count_0 : decode (mC Y_X6_count) 0 = .ok (.iload_n 1, 1) := by decide +kernel
theorem dX6_count_1 : decode (mC Y_X6_count) 1 = .ok (.tableswitch 149 0 10 #[59, 67, 75, 83, 92, 101, 109, 117, 125, 133, 141], 59) := by decide +kernel
theorem dX6_count_60 : decode (mC Y_X6_count) 60 = .ok (.aload_n 0, 1) := by decide +kernel
theorem dX6_count_61 : decode (mC Y_X6_count) 61 = .ok (.getfield 19, 3) := by decide +kernel
theorem dX6_count_64 : decode (mC Y_X6_count) 64 = .ok (.invokevirtual 92, 3) := by decide +kernel
theorem dX6_count_67 : decode (mC Y_X6_count) 67 = .ok (.ireturn, 1) := by decide +kernel
theorem dX6_count_68 : decode (mC Y_X6_count) 68 = .ok (.aload_n 0, 1) := by decide +kernel
theorem dX6_count_69 : decode (mC Y_X6_count) 69 = .ok (.getfield 19, 3) := by decide +kernel
theorem dX6_count_72 : decode (mC Y_X6_count) 72 = .ok (.invokevirtual 136, 3) := by decide +kernel
theorem dX6_count_75 : decode (mC Y_X6_count) 75 = .ok (.ireturn, 1) := by decide +kernel
theorem dX6_count_76 : decode (mC Y_X6_count) 76 = .ok (.aload_n 0, 1) := by decide +kernel
theorem dX6_count_77 : decode (mC Y_X6_count) 77 = .ok (.getfield 19, 3) := by decide +kernel
theorem dX6_count_80 : decode (mC Y_X6_count) 80 = .ok (.invokevirtual 221, 3) := by decide +kernel
theorem dX6_count_83 : decode (mC Y_X6_count) 83 = .ok (.ireturn, 1) := by decide +kernel
theorem dX6_count_84 : decode (mC Y_X6_count) 84 = .ok (.aload_n 0, 1) := by decide +kernel
theorem dX6_count_85 : decode (mC Y_X6_count) 85 = .ok (.getfield 19, 3) := by decide +kernel
theorem dX6_count_88 : decode (mC Y_X6_count) 88 = .ok (.iconst 2, 1) := by decide +kernel
theorem dX6_count_89 : decode (mC Y_X6_count) 89 = .ok (.invokevirtual 231, 3) := by decide +kernel
theorem dX6_count_92 : decode (mC Y_X6_count) 92 = .ok (.ireturn, 1) := by decide +kernel
theorem dX6_count_93 : decode (mC Y_X6_count) 93 = .ok (.aload_n 0, 1) := by decide +kernel
theorem dX6_count_94 : decode (mC Y_X6_count) 94 = .ok (.getfield 19, 3) := by decide +kernel
theorem dX6_count_97 : decode (mC Y_X6_count) 97 = .ok (.iconst 1, 1) := by decide +kernel
theorem dX6_count_98 : decode (mC Y_X6_count) 98 = .ok (.invokevirtual 231, 3) := by decide +kernel
theorem dX6_count_101 : decode (mC Y_X6_count) 101 = .ok (.ireturn, 1) := by decide +kernel
theorem dX6_count_102 : decode (mC Y_X6_count) 102 = .ok (.aload_n 0, 1) := by decide +kernel
theorem dX6_count_103 : decode (mC Y_X6_count) 103 = .ok (.getfield 19, 3) := by decide +kernel
theorem dX6_count_106 : decode (mC Y_X6_count) 106 = .ok (.invokevirtual 234, 3) := by decide +kernel
theorem dX6_count_109 : decode (mC Y_X6_count) 109 = .ok (.ireturn, 1) := by decide +kernel
theorem dX6_count_110 : decode (mC Y_X6_count) 110 = .ok (.aload_n 0, 1) := by decide +kernel
theorem dX6_count_111 : decode (mC Y_X6_count) 111 = .ok (.getfield 41, 3) := by decide +kernel
theorem dX6_count_114 : decode (mC Y_X6_count) 114 = .ok (.invokevirtual 186, 3) := by decide +kernel
theorem dX6_count_117 : decode (mC Y_X6_count) 117 = .ok (.ireturn, 1) := by decide +kernel
theorem dX6_count_118 : decode (mC Y_X6_count) 118 = .ok (.aload_n 0, 1) := by decide +kernel
theorem dX6_count_119 : decode (mC Y_X6_count) 119 = .ok (.getfield 45, 3) := by decide +kernel
theorem dX6_count_122 : decode (mC Y_X6_count) 122 = .ok (.invokevirtual 186, 3) := by decide +kernel
theorem dX6_count_125 : decode (mC Y_X6_count) 125 = .ok (.ireturn, 1) := by decide +kernel
theorem dX6_count_126 : decode (mC Y_X6_count) 126 = .ok (.aload_n 0, 1) := by decide +kernel
theorem dX6_count_127 : decode (mC Y_X6_count) 127 = .ok (.getfield 31, 3) := by decide +kernel
theorem dX6_count_130 : decode (mC Y_X6_count) 130 = .ok (.invokevirtual 162, 3) := by decide +kernel
theorem dX6_count_133 : decode (mC Y_X6_count) 133 = .ok (.ireturn, 1) := by decide +kernel
theorem dX6_count_134 : decode (mC Y_X6_count) 134 = .ok (.aload_n 0, 1) := by decide +kernel
theorem dX6_count_135 : decode (mC Y_X6_count) 135 = .ok (.getfield 35, 3) := by decide +kernel
theorem dX6_count_138 : decode (mC Y_X6_count) 138 = .ok (.invokevirtual 162, 3) := by decide +kernel
theorem dX6_count_141 : decode (mC Y_X6_count) 141 = .ok (.ireturn, 1) := by decide +kernel
theorem dX6_count_142 : decode (mC Y_X6_count) 142 = .ok (.aload_n 0, 1) := by decide +kernel
theorem dX6_count_143 : decode (mC Y_X6_count) 143 = .ok (.getfield 10, 3) := by decide +kernel
theorem dX6_count_146 : decode (mC Y_X6_count) 146 = .ok (.invokevirtual 81, 3) := by decide +kernel
theorem dX6_count_149 : decode (mC Y_X6_count) 149 = .ok (.ireturn, 1) := by decide +kernel
theorem dX6_count_150 : decode (mC Y_X6_count) 150 = .ok (.iconst (-1), 1) := by decide +kernel
theorem dX6_count_151 : decode (mC Y_X6_count) 151 = .ok (.ireturn, 1) := by decide +kernel
theorem w_X6_init_116 {D : DT} {l : Launch} {post : Option Value → Mem → Prop} : ∀ (n : Nat) (x0 : Nat) (x1 : Int32) (m : Mem), HV (F_X6_init_116 n x0 x1 m) post → WP D l Y_X6_init 238 1893 116 [.ref x0, .int x1] [] m post := by
  intro n
  induction n with
  | zero => intro x0 x1 m h; exact (HV.none h).elim
  | succ n ih =>
    intro x0 x1 m h
    refine wp_iload_n (i := 1) dX6_init_116 rfl rfl ?_
    refine wp_iconst (v := 4) dX6_init_117 (by decide) ?_
    refine wp_iadd dX6_init_118 ?_
    refine wp_gets2 fl_X6_66 dX6_init_119 ?_
    obtain ⟨v1, ev1, h⟩ := HV.bind h
    refine wp_alen dX6_init_122 ev1 ?_
    refine wp_icmp_ge (tgt := 172) dX6_init_123 (by decide) (fun c2 => ?_) (fun c2 => ?_)
    · have h := HV.t c2 h
      exact wp_vret dX6_init_172 rfl (Nat.le_of_ble_eq_true rfl) (Nat.le_of_ble_eq_true rfl) (HV.some h)
    · have h := HV.f c2 h
      refine wp_aload_n (i := 0) dX6_init_126 rfl rfl ?_
      obtain ⟨v3, ev3, h⟩ := HV.bind h
      refine wp_getR cl6 (f := 1) (by decide) rfl fl_X6_19 dX6_init_127 ev3 ?_
      refine wp_gets2 fl_X6_66 dX6_init_130 ?_
      refine wp_iload_n (i := 1) dX6_init_133 rfl rfl ?_
      obtain ⟨v4, ev4, h⟩ := HV.bind h
      refine wp_iaload dX6_init_134 ev4 ?_
      refine wp_gets2 fl_X6_66 dX6_init_135 ?_
      refine wp_iload_n (i := 1) dX6_init_138 rfl rfl ?_
      refine wp_iconst (v := 1) dX6_init_139 (by decide) ?_
      refine wp_iadd dX6_init_140 ?_
      obtain ⟨v5, ev5, h⟩ := HV.bind h
      refine wp_iaload dX6_init_141 ev5 ?_
      refine wp_gets2 fl_X6_66 dX6_init_142 ?_
      refine wp_iload_n (i := 1) dX6_init_145 rfl rfl ?_
      refine wp_iconst (v := 2) dX6_init_146 (by decide) ?_
      refine wp_iadd dX6_init_147 ?_
      obtain ⟨v6, ev6, h⟩ := HV.bind h
      refine wp_iaload dX6_init_148 ev6 ?_
      refine wp_gets2 fl_X6_66 dX6_init_149 ?_
      refine wp_iload_n (i := 1) dX6_init_152 rfl rfl ?_
      refine wp_iconst (v := 3) dX6_init_153 (by decide) ?_
      refine wp_iadd dX6_init_154 ?_
      obtain ⟨v7, ev7, h⟩ := HV.bind h
      refine wp_iaload dX6_init_155 ev7 ?_
      refine wp_gets2 fl_X6_66 dX6_init_156 ?_
      refine wp_iload_n (i := 1) dX6_init_159 rfl rfl ?_
      refine wp_iconst (v := 4) dX6_init_160 (by decide) ?_
      refine wp_iadd dX6_init_161 ?_
      obtain ⟨v8, ev8, h⟩ := HV.bind h
      refine wp_iaload dX6_init_162 ev8 ?_
      obtain ⟨v10, ev10, h⟩ := HV.bind h
      obtain ⟨v9, ev9, h⟩ := HV.bind h
      refine cgV_v (Y' := Y_X5_settle) (kc2 := 238) (ks2 := 1893) dX6_init_163 ml_X6_69 ce_X5_settle (t := 5) rfl (by decide) ⟨(Nat.le_of_ble_eq_true rfl), (Nat.le_of_ble_eq_true rfl)⟩ ⟨(Nat.le_of_ble_eq_true rfl), (Nat.le_of_ble_eq_true rfl)⟩ rfl rfl (chkT_eq ev10) (ct_X5_settle ev9) rfl rfl (Nat.le_of_ble_eq_true rfl) ?_
      refine wp_iinc (v := 5) dX6_init_166 rfl (by decide) rfl rfl ?_
      refine wp_goto (tgt := 116) dX6_init_169 (by decide) ?_
      exact (ih _ _ _ h)
theorem ct_X6_init {D : DT} {l : Launch} {m : Mem} {x0 : Nat} {r : Mem} (h : F_X6_init x0 m = some r) : Ct D l Y_X6_init [.ref x0] m (fun (v : Option Value) (N : Mem) => v = none ∧ N = r) := by
  refine ct_of (by decide) (by rfl) (ls0 := [.ref x0, JK]) rfl rfl ?_
  have h : HV (F_X6_init x0 m) (fun (v : Option Value) (N : Mem) => v = none ∧ N = r) := ⟨r, h, rfl, rfl⟩
  revert h
  generalize (fun (v : Option Value) (N : Mem) => v = none ∧ N = r) = post
  intro h
  refine wp_aload_n (i := 0) dX6_init_0 rfl rfl ?_
  obtain ⟨v11, ev11, h⟩ := HV.bind h
  refine wp_objInit ml_X6_1 objw1 objw2 dX6_init_1 (chkT_lt ev11 (by decide)) (Nat.le_of_ble_eq_true rfl) (Nat.le_of_ble_eq_true rfl) ?_
  refine wp_aload_n (i := 0) dX6_init_4 rfl rfl ?_
  refine wp_new cl3 kl_X6_7 iw_3 nw_3 dX6_init_5 (Nat.le_of_ble_eq_true rfl) (Nat.le_of_ble_eq_true rfl) ?_
  refine wp_dup dX6_init_8 rfl ?_
  obtain ⟨v13, ev13, h⟩ := HV.bind h
  obtain ⟨v12, ev12, h⟩ := HV.bind h
  refine cgIN_v (Y' := Y_X3_init) (kc2 := 3) (ks2 := 208) dX6_init_9 nl_X6_9 ce_X3_init ⟨(Nat.le_of_ble_eq_true rfl), (Nat.le_of_ble_eq_true rfl)⟩ ⟨(Nat.le_of_ble_eq_true rfl), (Nat.le_of_ble_eq_true rfl)⟩ rfl rfl (chkT_lt ev13 (by decide)) (ct_X3_init ev12) rfl rfl (Nat.le_of_ble_eq_true rfl) ?_
  obtain ⟨m14, em14, h⟩ := HV.bind h
  refine wp_putR cl6 (f := 0) (by decide) rfl fl_X6_10 (Or.inr ⟨rfl, rfl⟩) dX6_init_12 em14 ?_
  refine wp_aload_n (i := 0) dX6_init_15 rfl rfl ?_
  refine wp_new cl5 kl_X6_16 iw_5 nw_5 dX6_init_16 (Nat.le_of_ble_eq_true rfl) (Nat.le_of_ble_eq_true rfl) ?_
  refine wp_dup dX6_init_19 rfl ?_
  obtain ⟨v16, ev16, h⟩ := HV.bind h
  obtain ⟨v15, ev15, h⟩ := HV.bind h
  refine cgIN_v (Y' := Y_X5_init) (kc2 := 9) (ks2 := 251) dX6_init_20 nl_X6_18 ce_X5_init ⟨(Nat.le_of_ble_eq_true rfl), (Nat.le_of_ble_eq_true rfl)⟩ ⟨(Nat.le_of_ble_eq_true rfl), (Nat.le_of_ble_eq_true rfl)⟩ rfl rfl (chkT_lt ev16 (by decide)) (ct_X5_init ev15) rfl rfl (Nat.le_of_ble_eq_true rfl) ?_
  obtain ⟨m17, em17, h⟩ := HV.bind h
  refine wp_putR cl6 (f := 1) (by decide) rfl fl_X6_19 (Or.inr ⟨rfl, rfl⟩) dX6_init_23 em17 ?_
  refine wp_aload_n (i := 0) dX6_init_26 rfl rfl ?_
  refine wp_new cl5 kl_X6_16 iw_5 nw_5 dX6_init_27 (Nat.le_of_ble_eq_true rfl) (Nat.le_of_ble_eq_true rfl) ?_
  refine wp_dup dX6_init_30 rfl ?_
  obtain ⟨v19, ev19, h⟩ := HV.bind h
  obtain ⟨v18, ev18, h⟩ := HV.bind h
  refine cgIN_v (Y' := Y_X5_init) (kc2 := 15) (ks2 := 294) dX6_init_31 nl_X6_18 ce_X5_init ⟨(Nat.le_of_ble_eq_true rfl), (Nat.le_of_ble_eq_true rfl)⟩ ⟨(Nat.le_of_ble_eq_true rfl), (Nat.le_of_ble_eq_true rfl)⟩ rfl rfl (chkT_lt ev19 (by decide)) (ct_X5_init ev18) rfl rfl (Nat.le_of_ble_eq_true rfl) ?_
  obtain ⟨m20, em20, h⟩ := HV.bind h
  refine wp_putR cl6 (f := 2) (by decide) rfl fl_X6_23 (Or.inr ⟨rfl, rfl⟩) dX6_init_34 em20 ?_
  refine wp_aload_n (i := 0) dX6_init_37 rfl rfl ?_
  refine wp_new cl2 kl_X6_26 iw_2 nw_2 dX6_init_38 (Nat.le_of_ble_eq_true rfl) (Nat.le_of_ble_eq_true rfl) ?_
  refine wp_dup dX6_init_41 rfl ?_
  refine wp_bipush (v := 8) dX6_init_42 (by decide) ?_
  obtain ⟨v22, ev22, h⟩ := HV.bind h
  obtain ⟨v21, ev21, h⟩ := HV.bind h
  refine cgI_v (Y' := Y_X2_init) (kc2 := 119) (ks2 := 1043) dX6_init_44 ml_X6_28 ce_X2_init ⟨(Nat.le_of_ble_eq_true rfl), (Nat.le_of_ble_eq_true rfl)⟩ ⟨(Nat.le_of_ble_eq_true rfl), (Nat.le_of_ble_eq_true rfl)⟩ rfl rfl (chkT_lt ev22 (by decide)) (ct_X2_init ev21) rfl rfl (Nat.le_of_ble_eq_true rfl) ?_
  obtain ⟨m23, em23, h⟩ := HV.bind h
  refine wp_putR cl6 (f := 3) (by decide) rfl fl_X6_31 (Or.inr ⟨rfl, rfl⟩) dX6_init_47 em23 ?_
  refine wp_aload_n (i := 0) dX6_init_50 rfl rfl ?_
  refine wp_new cl2 kl_X6_26 iw_2 nw_2 dX6_init_51 (Nat.le_of_ble_eq_true rfl) (Nat.le_of_ble_eq_true rfl) ?_
  refine wp_dup dX6_init_54 rfl ?_
  refine wp_iconst (v := 2) dX6_init_55 (by decide) ?_
  obtain ⟨v25, ev25, h⟩ := HV.bind h
  obtain ⟨v24, ev24, h⟩ := HV.bind h
  refine cgI_v (Y' := Y_X2_init) (kc2 := 223) (ks2 := 1792) dX6_init_56 ml_X6_28 ce_X2_init ⟨(Nat.le_of_ble_eq_true rfl), (Nat.le_of_ble_eq_true rfl)⟩ ⟨(Nat.le_of_ble_eq_true rfl), (Nat.le_of_ble_eq_true rfl)⟩ rfl rfl (chkT_lt ev25 (by decide)) (ct_X2_init ev24) rfl rfl (Nat.le_of_ble_eq_true rfl) ?_
  obtain ⟨m26, em26, h⟩ := HV.bind h
  refine wp_putR cl6 (f := 4) (by decide) rfl fl_X6_35 (Or.inr ⟨rfl, rfl⟩) dX6_init_59 em26 ?_
  refine wp_aload_n (i := 0) dX6_init_62 rfl rfl ?_
  refine wp_new cl1 kl_X6_38 iw_1 nw_1 dX6_init_63 (Nat.le_of_ble_eq_true rfl) (Nat.le_of_ble_eq_true rfl) ?_
  refine wp_dup dX6_init_66 rfl ?_
  obtain ⟨v28, ev28, h⟩ := HV.bind h
  obtain ⟨v27, ev27, h⟩ := HV.bind h
  refine cgIN_v (Y' := Y_X1_init) (kc2 := 227) (ks2 := 1814) dX6_init_67 nl_X6_40 ce_X1_init ⟨(Nat.le_of_ble_eq_true rfl), (Nat.le_of_ble_eq_true rfl)⟩ ⟨(Nat.le_of_ble_eq_true rfl), (Nat.le_of_ble_eq_true rfl)⟩ rfl rfl (chkT_lt ev28 (by decide)) (ct_X1_init ev27) rfl rfl (Nat.le_of_ble_eq_true rfl) ?_
  obtain ⟨m29, em29, h⟩ := HV.bind h
  refine wp_putR cl6 (f := 5) (by decide) rfl fl_X6_41 (Or.inr ⟨rfl, rfl⟩) dX6_init_70 em29 ?_
  refine wp_aload_n (i := 0) dX6_init_73 rfl rfl ?_
  refine wp_new cl1 kl_X6_38 iw_1 nw_1 dX6_init_74 (Nat.le_of_ble_eq_true rfl) (Nat.le_of_ble_eq_true rfl) ?_
  refine wp_dup dX6_init_77 rfl ?_
  obtain ⟨v31, ev31, h⟩ := HV.bind h
  obtain ⟨v30, ev30, h⟩ := HV.bind h
  refine cgIN_v (Y' := Y_X1_init) (kc2 := 231) (ks2 := 1836) dX6_init_78 nl_X6_40 ce_X1_init ⟨(Nat.le_of_ble_eq_true rfl), (Nat.le_of_ble_eq_true rfl)⟩ ⟨(Nat.le_of_ble_eq_true rfl), (Nat.le_of_ble_eq_true rfl)⟩ rfl rfl (chkT_lt ev31 (by decide)) (ct_X1_init ev30) rfl rfl (Nat.le_of_ble_eq_true rfl) ?_
  obtain ⟨m32, em32, h⟩ := HV.bind h
  refine wp_putR cl6 (f := 6) (by decide) rfl fl_X6_45 (Or.inr ⟨rfl, rfl⟩) dX6_init_81 em32 ?_
  refine wp_aload_n (i := 0) dX6_init_84 rfl rfl ?_
  refine wp_new cl4 kl_X6_48 iw_4 nw_4 dX6_init_85 (Nat.le_of_ble_eq_true rfl) (Nat.le_of_ble_eq_true rfl) ?_
  refine wp_dup dX6_init_88 rfl ?_
  obtain ⟨v34, ev34, h⟩ := HV.bind h
  obtain ⟨v33, ev33, h⟩ := HV.bind h
  refine cgIN_v (Y' := Y_X4_init) (kc2 := 234) (ks2 := 1854) dX6_init_89 nl_X6_50 ce_X4_init ⟨(Nat.le_of_ble_eq_true rfl), (Nat.le_of_ble_eq_true rfl)⟩ ⟨(Nat.le_of_ble_eq_true rfl), (Nat.le_of_ble_eq_true rfl)⟩ rfl rfl (chkT_lt ev34 (by decide)) (ct_X4_init ev33) rfl rfl (Nat.le_of_ble_eq_true rfl) ?_
  obtain ⟨m35, em35, h⟩ := HV.bind h
  refine wp_putR cl6 (f := 7) (by decide) rfl fl_X6_51 (Or.inr ⟨rfl, rfl⟩) dX6_init_92 em35 ?_
  refine wp_aload_n (i := 0) dX6_init_95 rfl rfl ?_
  refine wp_new cl0 kl_X6_55 iw_0 nw_0 dX6_init_96 (Nat.le_of_ble_eq_true rfl) (Nat.le_of_ble_eq_true rfl) ?_
  refine wp_dup dX6_init_99 rfl ?_
  obtain ⟨v37, ev37, h⟩ := HV.bind h
  obtain ⟨v36, ev36, h⟩ := HV.bind h
  refine cgIN_v (Y' := Y_X0_init) (kc2 := 237) (ks2 := 1880) dX6_init_100 nl_X6_57 ce_X0_init ⟨(Nat.le_of_ble_eq_true rfl), (Nat.le_of_ble_eq_true rfl)⟩ ⟨(Nat.le_of_ble_eq_true rfl), (Nat.le_of_ble_eq_true rfl)⟩ rfl rfl (chkT_lt ev37 (by decide)) (ct_X0_init ev36) rfl rfl (Nat.le_of_ble_eq_true rfl) ?_
  obtain ⟨m38, em38, h⟩ := HV.bind h
  refine wp_putR cl6 (f := 8) (by decide) rfl fl_X6_58 (Or.inr ⟨rfl, rfl⟩) dX6_init_103 em38 ?_
  refine wp_aload_n (i := 0) dX6_init_106 rfl rfl ?_
  refine wp_bipush (v := 13) dX6_init_107 (by decide) ?_
  refine wp_newI (N := 13) aw_int dX6_init_109 (by decide) (by decide) (by decide) (Nat.le_of_ble_eq_true rfl) (Nat.le_of_ble_eq_true rfl) ?_
  obtain ⟨m39, em39, h⟩ := HV.bind h
  refine wp_putR cl6 (f := 9) (by decide) rfl fl_X6_62 (Or.inr ⟨rfl, rfl⟩) dX6_init_111 em39 ?_
  refine wp_iconst (v := 0) dX6_init_114 (by decide) ?_
  refine wp_istore_n (i := 1) dX6_init_115 rfl rfl rfl ?_
  exact (w_X6_init_116 _ _ _ _ h)
theorem ct_X6_write {D : DT} {l : Launch} {m : Mem} {x0 : Nat} {x1 : Int32} {r : (Int32 × Mem)} (h : F_X6_write x0 x1 m = some r) : Ct D l Y_X6_write [.ref x0, .int x1] m (fun (v : Option Value) (N : Mem) => v = some (Value.int r.1) ∧ N = r.2) := by
  refine ct_of (by decide) (by rfl) (ls0 := [.ref x0, .int x1]) rfl rfl ?_
  have h : HI (F_X6_write x0 x1 m) (fun (v : Option Value) (N : Mem) => v = some (Value.int r.1) ∧ N = r.2) := ⟨r.1, r.2, h, rfl, rfl⟩
  revert h
  generalize (fun (v : Option Value) (N : Mem) => v = some (Value.int r.1) ∧ N = r.2) = post
  intro h
  refine wp_iload_n (i := 1) dX6_write_0 rfl rfl ?_
  refine wp_bipush (v := 32) dX6_write_1 (by decide) ?_
  refine wp_bipush (v := 126) dX6_write_3 (by decide) ?_
  obtain ⟨v1, ev1, h⟩ := HI.bind h
  refine cgS_i (Y' := Y_X6_outside) (kc2 := 0) (ks2 := 0) dX6_write_5 ml_X6_73 ce_X6_outside ⟨(Nat.le_of_ble_eq_true rfl), (Nat.le_of_ble_eq_true rfl)⟩ ⟨(Nat.le_of_ble_eq_true rfl), (Nat.le_of_ble_eq_true rfl)⟩ rfl rfl (ct_X6_outside ev1) rfl rfl (Nat.le_of_ble_eq_true rfl) ?_
  refine wp_if_eq (tgt := 13) dX6_write_8 (by decide) (fun c2 => ?_) (fun c2 => ?_)
  · have h := HI.t c2 h
    refine wp_aload_n (i := 0) dX6_write_13 rfl rfl ?_
    obtain ⟨v3, ev3, h⟩ := HI.bind h
    refine wp_getR cl6 (f := 0) (by decide) rfl fl_X6_10 dX6_write_14 ev3 ?_
    refine wp_iload_n (i := 1) dX6_write_17 rfl rfl ?_
    refine wp_i2c dX6_write_18 ?_
    obtain ⟨v5, ev5, h⟩ := HI.bind h
    obtain ⟨v4, ev4, h⟩ := HI.bind h
    refine cgV_i (Y' := Y_X3_append) (kc2 := 0) (ks2 := 0) dX6_write_19 ml_X6_77 ce_X3_append (t := 3) rfl (by decide) ⟨(Nat.le_of_ble_eq_true rfl), (Nat.le_of_ble_eq_true rfl)⟩ ⟨(Nat.le_of_ble_eq_true rfl), (Nat.le_of_ble_eq_true rfl)⟩ rfl rfl (chkT_eq ev5) (ct_X3_append ev4) rfl rfl (Nat.le_of_ble_eq_true rfl) ?_
    refine wp_if_eq (tgt := 35) dX6_write_22 (by decide) (fun c6 => ?_) (fun c6 => ?_)
    · have h := HI.t c6 h
      refine wp_bipush (v := -3) dX6_write_35 (by decide) ?_
      exact wp_iret dX6_write_37 rfl rfl (Nat.le_of_ble_eq_true rfl) (Nat.le_of_ble_eq_true rfl) (HI.some h)
    · have h := HI.f c6 h
      refine wp_aload_n (i := 0) dX6_write_25 rfl rfl ?_
      obtain ⟨v7, ev7, h⟩ := HI.bind h
      refine wp_getR cl6 (f := 0) (by decide) rfl fl_X6_10 dX6_write_26 ev7 ?_
      obtain ⟨v9, ev9, h⟩ := HI.bind h
      obtain ⟨v8, ev8, h⟩ := HI.bind h
      refine cgV_i (Y' := Y_X3_length) (kc2 := 0) (ks2 := 0) dX6_write_29 ml_X6_81 ce_X3_length (t := 3) rfl (by decide) ⟨(Nat.le_of_ble_eq_true rfl), (Nat.le_of_ble_eq_true rfl)⟩ ⟨(Nat.le_of_ble_eq_true rfl), (Nat.le_of_ble_eq_true rfl)⟩ rfl rfl (chkT_eq ev9) (ct_X3_length ev8) rfl rfl (Nat.le_of_ble_eq_true rfl) ?_
      refine wp_goto (tgt := 37) dX6_write_32 (by decide) ?_
      exact wp_iret dX6_write_37 rfl rfl (Nat.le_of_ble_eq_true rfl) (Nat.le_of_ble_eq_true rfl) (HI.some h)
  · have h := HI.f c2 h
    refine wp_iconst (v := -1) dX6_write_11 (by decide) ?_
    exact wp_iret dX6_write_12 rfl rfl (Nat.le_of_ble_eq_true rfl) (Nat.le_of_ble_eq_true rfl) (HI.some h)
theorem ct_X6_wipe {D : DT} {l : Launch} {m : Mem} {x0 : Nat} {r : (Int32 × Mem)} (h : F_X6_wipe x0 m = some r) : Ct D l Y_X6_wipe [.ref x0] m (fun (v : Option Value) (N : Mem) => v = some (Value.int r.1) ∧ N = r.2) := by
  refine ct_of (by decide) (by rfl) (ls0 := [.ref x0]) rfl rfl ?_
  have h : HI (F_X6_wipe x0 m) (fun (v : Option Value) (N : Mem) => v = some (Value.int r.1) ∧ N = r.2) := ⟨r.1, r.2, h, rfl, rfl⟩
  revert h
  generalize (fun (v : Option Value) (N : Mem) => v = some (Value.int r.1) ∧ N = r.2) = post
  intro h
  refine wp_aload_n (i := 0) dX6_wipe_0 rfl rfl ?_
  obtain ⟨v1, ev1, h⟩ := HI.bind h
  refine wp_getR cl6 (f := 0) (by decide) rfl fl_X6_10 dX6_wipe_1 ev1 ?_
  obtain ⟨v3, ev3, h⟩ := HI.bind h
  obtain ⟨v2, ev2, h⟩ := HI.bind h
  refine cgV_i (Y' := Y_X3_empty) (kc2 := 0) (ks2 := 0) dX6_wipe_4 ml_X6_85 ce_X3_empty (t := 3) rfl (by decide) ⟨(Nat.le_of_ble_eq_true rfl), (Nat.le_of_ble_eq_true rfl)⟩ ⟨(Nat.le_of_ble_eq_true rfl), (Nat.le_of_ble_eq_true rfl)⟩ rfl rfl (chkT_eq ev3) (ct_X3_empty ev2) rfl rfl (Nat.le_of_ble_eq_true rfl) ?_
  exact wp_iret dX6_wipe_7 rfl rfl (Nat.le_of_ble_eq_true rfl) (Nat.le_of_ble_eq_true rfl) (HI.some h)
theorem ct_X6_fault {D : DT} {l : Launch} {m : Mem} {x0 : Nat} {r : (Int32 × Mem)} (h : F_X6_fault x0 m = some r) : Ct D l Y_X6_fault [.ref x0] m (fun (v : Option Value) (N : Mem) => v = some (Value.int r.1) ∧ N = r.2) := by
  refine ct_of (by decide) (by rfl) (ls0 := [.ref x0]) rfl rfl ?_
  have h : HI (F_X6_fault x0 m) (fun (v : Option Value) (N : Mem) => v = some (Value.int r.1) ∧ N = r.2) := ⟨r.1, r.2, h, rfl, rfl⟩
  revert h
  generalize (fun (v : Option Value) (N : Mem) => v = some (Value.int r.1) ∧ N = r.2) = post
  intro h
  refine wp_aload_n (i := 0) dX6_fault_0 rfl rfl ?_
  obtain ⟨v1, ev1, h⟩ := HI.bind h
  refine wp_getR cl6 (f := 0) (by decide) rfl fl_X6_10 dX6_fault_1 ev1 ?_
  refine wp_aload_n (i := 0) dX6_fault_4 rfl rfl ?_
  obtain ⟨v2, ev2, h⟩ := HI.bind h
  refine wp_getR cl6 (f := 2) (by decide) rfl fl_X6_23 dX6_fault_5 ev2 ?_
  obtain ⟨v4, ev4, h⟩ := HI.bind h
  obtain ⟨v3, ev3, h⟩ := HI.bind h
  refine cgV_i (Y' := Y_X3_readInto) (kc2 := 0) (ks2 := 0) dX6_fault_8 ml_X6_88 ce_X3_readInto (t := 3) rfl (by decide) ⟨(Nat.le_of_ble_eq_true rfl), (Nat.le_of_ble_eq_true rfl)⟩ ⟨(Nat.le_of_ble_eq_true rfl), (Nat.le_of_ble_eq_true rfl)⟩ rfl rfl (chkT_eq ev4) (ct_X3_readInto ev3) rfl rfl (Nat.le_of_ble_eq_true rfl) ?_
  exact wp_iret dX6_fault_11 rfl rfl (Nat.le_of_ble_eq_true rfl) (Nat.le_of_ble_eq_true rfl) (HI.some h)
theorem ct_X6_lay {D : DT} {l : Launch} {m : Mem} {x0 : Nat} {r : (Int32 × Mem)} (h : F_X6_lay x0 m = some r) : Ct D l Y_X6_lay [.ref x0] m (fun (v : Option Value) (N : Mem) => v = some (Value.int r.1) ∧ N = r.2) := by
  refine ct_of (by decide) (by rfl) (ls0 := [.ref x0]) rfl rfl ?_
  have h : HI (F_X6_lay x0 m) (fun (v : Option Value) (N : Mem) => v = some (Value.int r.1) ∧ N = r.2) := ⟨r.1, r.2, h, rfl, rfl⟩
  revert h
  generalize (fun (v : Option Value) (N : Mem) => v = some (Value.int r.1) ∧ N = r.2) = post
  intro h
  refine wp_aload_n (i := 0) dX6_lay_0 rfl rfl ?_
  obtain ⟨v1, ev1, h⟩ := HI.bind h
  refine wp_getR cl6 (f := 0) (by decide) rfl fl_X6_10 dX6_lay_1 ev1 ?_
  refine wp_aload_n (i := 0) dX6_lay_4 rfl rfl ?_
  obtain ⟨v2, ev2, h⟩ := HI.bind h
  refine wp_getR cl6 (f := 2) (by decide) rfl fl_X6_23 dX6_lay_5 ev2 ?_
  obtain ⟨v4, ev4, h⟩ := HI.bind h
  obtain ⟨v3, ev3, h⟩ := HI.bind h
  refine cgV_i (Y' := Y_X3_readInto) (kc2 := 0) (ks2 := 0) dX6_lay_8 ml_X6_88 ce_X3_readInto (t := 3) rfl (by decide) ⟨(Nat.le_of_ble_eq_true rfl), (Nat.le_of_ble_eq_true rfl)⟩ ⟨(Nat.le_of_ble_eq_true rfl), (Nat.le_of_ble_eq_true rfl)⟩ rfl rfl (chkT_eq ev4) (ct_X3_readInto ev3) rfl rfl (Nat.le_of_ble_eq_true rfl) ?_
  refine wp_bipush (v := -4) dX6_lay_11 (by decide) ?_
  refine wp_icmp_ne (tgt := 26) dX6_lay_13 (by decide) (fun c5 => ?_) (fun c5 => ?_)
  · have h := HI.f c5 h
    refine wp_bipush (v := -2) dX6_lay_26 (by decide) ?_
    exact wp_iret dX6_lay_28 rfl rfl (Nat.le_of_ble_eq_true rfl) (Nat.le_of_ble_eq_true rfl) (HI.some h)
  · have h := HI.t c5 h
    refine wp_aload_n (i := 0) dX6_lay_16 rfl rfl ?_
    obtain ⟨v6, ev6, h⟩ := HI.bind h
    refine wp_getR cl6 (f := 2) (by decide) rfl fl_X6_23 dX6_lay_17 ev6 ?_
    obtain ⟨v8, ev8, h⟩ := HI.bind h
    obtain ⟨v7, ev7, h⟩ := HI.bind h
    refine cgV_i (Y' := Y_X5_size) (kc2 := 0) (ks2 := 0) dX6_lay_20 ml_X6_92 ce_X5_size (t := 5) rfl (by decide) ⟨(Nat.le_of_ble_eq_true rfl), (Nat.le_of_ble_eq_true rfl)⟩ ⟨(Nat.le_of_ble_eq_true rfl), (Nat.le_of_ble_eq_true rfl)⟩ rfl rfl (chkT_eq ev8) (ct_X5_size ev7) rfl rfl (Nat.le_of_ble_eq_true rfl) ?_
    refine wp_if_ne (tgt := 29) dX6_lay_23 (by decide) (fun c9 => ?_) (fun c9 => ?_)
    · have h := HI.f c9 h
      refine wp_aload_n (i := 0) dX6_lay_29 rfl rfl ?_
      obtain ⟨v10, ev10, h⟩ := HI.bind h
      refine wp_getR cl6 (f := 1) (by decide) rfl fl_X6_19 dX6_lay_30 ev10 ?_
      refine wp_aload_n (i := 0) dX6_lay_33 rfl rfl ?_
      obtain ⟨v11, ev11, h⟩ := HI.bind h
      refine wp_getR cl6 (f := 2) (by decide) rfl fl_X6_23 dX6_lay_34 ev11 ?_
      obtain ⟨v13, ev13, h⟩ := HI.bind h
      obtain ⟨v12, ev12, h⟩ := HI.bind h
      refine cgV_v (Y' := Y_X5_become) (kc2 := 0) (ks2 := 0) dX6_lay_37 ml_X6_95 ce_X5_become (t := 5) rfl (by decide) ⟨(Nat.le_of_ble_eq_true rfl), (Nat.le_of_ble_eq_true rfl)⟩ ⟨(Nat.le_of_ble_eq_true rfl), (Nat.le_of_ble_eq_true rfl)⟩ rfl rfl (chkT_eq ev13) (ct_X5_become ev12) rfl rfl (Nat.le_of_ble_eq_true rfl) ?_
      refine wp_aload_n (i := 0) dX6_lay_40 rfl rfl ?_
      obtain ⟨v14, ev14, h⟩ := HI.bind h
      refine wp_getR cl6 (f := 5) (by decide) rfl fl_X6_41 dX6_lay_41 ev14 ?_
      obtain ⟨v16, ev16, h⟩ := HI.bind h
      obtain ⟨v15, ev15, h⟩ := HI.bind h
      refine cgV_i (Y' := Y_X1_empty) (kc2 := 0) (ks2 := 0) dX6_lay_44 ml_X6_99 ce_X1_empty (t := 1) rfl (by decide) ⟨(Nat.le_of_ble_eq_true rfl), (Nat.le_of_ble_eq_true rfl)⟩ ⟨(Nat.le_of_ble_eq_true rfl), (Nat.le_of_ble_eq_true rfl)⟩ rfl rfl (chkT_eq ev16) (ct_X1_empty ev15) rfl rfl (Nat.le_of_ble_eq_true rfl) ?_
      refine wp_pop dX6_lay_47 rfl ?_
      refine wp_aload_n (i := 0) dX6_lay_48 rfl rfl ?_
      obtain ⟨v17, ev17, h⟩ := HI.bind h
      refine wp_getR cl6 (f := 6) (by decide) rfl fl_X6_45 dX6_lay_49 ev17 ?_
      obtain ⟨v19, ev19, h⟩ := HI.bind h
      obtain ⟨v18, ev18, h⟩ := HI.bind h
      refine cgV_i (Y' := Y_X1_empty) (kc2 := 0) (ks2 := 0) dX6_lay_52 ml_X6_99 ce_X1_empty (t := 1) rfl (by decide) ⟨(Nat.le_of_ble_eq_true rfl), (Nat.le_of_ble_eq_true rfl)⟩ ⟨(Nat.le_of_ble_eq_true rfl), (Nat.le_of_ble_eq_true rfl)⟩ rfl rfl (chkT_eq ev19) (ct_X1_empty ev18) rfl rfl (Nat.le_of_ble_eq_true rfl) ?_
      refine wp_pop dX6_lay_55 rfl ?_
      refine wp_aload_n (i := 0) dX6_lay_56 rfl rfl ?_
      obtain ⟨v20, ev20, h⟩ := HI.bind h
      refine wp_getR cl6 (f := 3) (by decide) rfl fl_X6_31 dX6_lay_57 ev20 ?_
      obtain ⟨v22, ev22, h⟩ := HI.bind h
      obtain ⟨v21, ev21, h⟩ := HI.bind h
      refine cgV_v (Y' := Y_X2_empty) (kc2 := 0) (ks2 := 0) dX6_lay_60 ml_X6_100 ce_X2_empty (t := 2) rfl (by decide) ⟨(Nat.le_of_ble_eq_true rfl), (Nat.le_of_ble_eq_true rfl)⟩ ⟨(Nat.le_of_ble_eq_true rfl), (Nat.le_of_ble_eq_true rfl)⟩ rfl rfl (chkT_eq ev22) (ct_X2_empty ev21) rfl rfl (Nat.le_of_ble_eq_true rfl) ?_
      refine wp_aload_n (i := 0) dX6_lay_63 rfl rfl ?_
      obtain ⟨v23, ev23, h⟩ := HI.bind h
      refine wp_getR cl6 (f := 4) (by decide) rfl fl_X6_35 dX6_lay_64 ev23 ?_
      obtain ⟨v25, ev25, h⟩ := HI.bind h
      obtain ⟨v24, ev24, h⟩ := HI.bind h
      refine cgV_v (Y' := Y_X2_empty) (kc2 := 0) (ks2 := 0) dX6_lay_67 ml_X6_100 ce_X2_empty (t := 2) rfl (by decide) ⟨(Nat.le_of_ble_eq_true rfl), (Nat.le_of_ble_eq_true rfl)⟩ ⟨(Nat.le_of_ble_eq_true rfl), (Nat.le_of_ble_eq_true rfl)⟩ rfl rfl (chkT_eq ev25) (ct_X2_empty ev24) rfl rfl (Nat.le_of_ble_eq_true rfl) ?_
      refine wp_aload_n (i := 0) dX6_lay_70 rfl rfl ?_
      obtain ⟨v26, ev26, h⟩ := HI.bind h
      refine wp_getR cl6 (f := 1) (by decide) rfl fl_X6_19 dX6_lay_71 ev26 ?_
      obtain ⟨v28, ev28, h⟩ := HI.bind h
      obtain ⟨v27, ev27, h⟩ := HI.bind h
      refine cgV_i (Y' := Y_X5_size) (kc2 := 0) (ks2 := 0) dX6_lay_74 ml_X6_92 ce_X5_size (t := 5) rfl (by decide) ⟨(Nat.le_of_ble_eq_true rfl), (Nat.le_of_ble_eq_true rfl)⟩ ⟨(Nat.le_of_ble_eq_true rfl), (Nat.le_of_ble_eq_true rfl)⟩ rfl rfl (chkT_eq ev28) (ct_X5_size ev27) rfl rfl (Nat.le_of_ble_eq_true rfl) ?_
      exact wp_iret dX6_lay_77 rfl rfl (Nat.le_of_ble_eq_true rfl) (Nat.le_of_ble_eq_true rfl) (HI.some h)
    · have h := HI.t c9 h
      refine wp_bipush (v := -2) dX6_lay_26 (by decide) ?_
      exact wp_iret dX6_lay_28 rfl rfl (Nat.le_of_ble_eq_true rfl) (Nat.le_of_ble_eq_true rfl) (HI.some h)
theorem ct_X6_noPerson {D : DT} {l : Launch} {m : Mem} {x0 : Nat} {x1 : Int32} {r : Int32} (h : F_X6_noPerson x0 x1 m = some r) : Ct D l Y_X6_noPerson [.ref x0, .int x1] m (fun (v : Option Value) (N : Mem) => v = some (Value.int r) ∧ N = m) := by
  refine ct_of (by decide) (by rfl) (ls0 := [.ref x0, .int x1]) rfl rfl ?_
  have h : PI m (F_X6_noPerson x0 x1 m) (fun (v : Option Value) (N : Mem) => v = some (Value.int r) ∧ N = m) := ⟨r, h, rfl, rfl⟩
  revert h
  generalize (fun (v : Option Value) (N : Mem) => v = some (Value.int r) ∧ N = m) = post
  intro h
  refine wp_iload_n (i := 1) dX6_noPerson_0 rfl rfl ?_
  refine wp_iconst (v := 0) dX6_noPerson_1 (by decide) ?_
  refine wp_aload_n (i := 0) dX6_noPerson_2 rfl rfl ?_
  obtain ⟨v1, ev1, h⟩ := PI.bind h
  refine wp_getR cl6 (f := 1) (by decide) rfl fl_X6_19 dX6_noPerson_3 ev1 ?_
  obtain ⟨v3, ev3, h⟩ := PI.bind h
  obtain ⟨v2, ev2, h⟩ := PI.bind h
  refine cgV_i (Y' := Y_X5_size) (kc2 := 0) (ks2 := 0) dX6_noPerson_6 ml_X6_92 ce_X5_size (t := 5) rfl (by decide) ⟨(Nat.le_of_ble_eq_true rfl), (Nat.le_of_ble_eq_true rfl)⟩ ⟨(Nat.le_of_ble_eq_true rfl), (Nat.le_of_ble_eq_true rfl)⟩ rfl rfl (chkT_eq ev3) (ct_X5_size ev2) rfl rfl (Nat.le_of_ble_eq_true rfl) ?_
  refine wp_iconst (v := 1) dX6_noPerson_9 (by decide) ?_
  refine wp_isub dX6_noPerson_10 ?_
  obtain ⟨v4, ev4, h⟩ := PI.bind h
  refine cgS_i (Y' := Y_X6_outside) (kc2 := 0) (ks2 := 0) dX6_noPerson_11 ml_X6_73 ce_X6_outside ⟨(Nat.le_of_ble_eq_true rfl), (Nat.le_of_ble_eq_true rfl)⟩ ⟨(Nat.le_of_ble_eq_true rfl), (Nat.le_of_ble_eq_true rfl)⟩ rfl rfl (ct_X6_outside ev4) rfl rfl (Nat.le_of_ble_eq_true rfl) ?_
  obtain ⟨v5, ev5, h⟩ := PI.bind h
  exact wp_iret dX6_noPerson_14 rfl (rN_of ev5) (Nat.le_of_ble_eq_true rfl) (Nat.le_of_ble_eq_true rfl) (PI.some h)
theorem ct_X6_person {D : DT} {l : Launch} {m : Mem} {x0 : Nat} {x1 : Int32} {x2 : Int32} {r : Int32} (h : F_X6_person x0 x1 x2 m = some r) : Ct D l Y_X6_person [.ref x0, .int x1, .int x2] m (fun (v : Option Value) (N : Mem) => v = some (Value.int r) ∧ N = m) := by
  refine ct_of (by decide) (by rfl) (ls0 := [.ref x0, .int x1, .int x2]) rfl rfl ?_
  have h : PI m (F_X6_person x0 x1 x2 m) (fun (v : Option Value) (N : Mem) => v = some (Value.int r) ∧ N = m) := ⟨r, h, rfl, rfl⟩
  revert h
  generalize (fun (v : Option Value) (N : Mem) => v = some (Value.int r) ∧ N = m) = post
  intro h
  refine wp_aload_n (i := 0) dX6_person_0 rfl rfl ?_
  refine wp_iload_n (i := 1) dX6_person_1 rfl rfl ?_
  obtain ⟨v2, ev2, h⟩ := PI.bind h
  obtain ⟨v1, ev1, h⟩ := PI.bind h
  refine cgV_i (Y' := Y_X6_noPerson) (kc2 := 0) (ks2 := 0) dX6_person_2 ml_X6_102 ce_X6_noPerson (t := 6) rfl (by decide) ⟨(Nat.le_of_ble_eq_true rfl), (Nat.le_of_ble_eq_true rfl)⟩ ⟨(Nat.le_of_ble_eq_true rfl), (Nat.le_of_ble_eq_true rfl)⟩ rfl rfl (chkT_eq ev2) (ct_X6_noPerson ev1) rfl rfl (Nat.le_of_ble_eq_true rfl) ?_
  refine wp_if_ne (tgt := 17) dX6_person_5 (by decide) (fun c3 => ?_) (fun c3 => ?_)
  · have h := PI.f c3 h
    refine wp_iconst (v := -1) dX6_person_17 (by decide) ?_
    exact wp_iret dX6_person_18 rfl rfl (Nat.le_of_ble_eq_true rfl) (Nat.le_of_ble_eq_true rfl) (PI.some h)
  · have h := PI.t c3 h
    refine wp_iload_n (i := 2) dX6_person_8 rfl rfl ?_
    refine wp_iconst (v := 0) dX6_person_9 (by decide) ?_
    refine wp_iconst (v := 4) dX6_person_10 (by decide) ?_
    obtain ⟨v4, ev4, h⟩ := PI.bind h
    refine cgS_i (Y' := Y_X6_outside) (kc2 := 0) (ks2 := 0) dX6_person_11 ml_X6_73 ce_X6_outside ⟨(Nat.le_of_ble_eq_true rfl), (Nat.le_of_ble_eq_true rfl)⟩ ⟨(Nat.le_of_ble_eq_true rfl), (Nat.le_of_ble_eq_true rfl)⟩ rfl rfl (ct_X6_outside ev4) rfl rfl (Nat.le_of_ble_eq_true rfl) ?_
    refine wp_if_eq (tgt := 19) dX6_person_14 (by decide) (fun c5 => ?_) (fun c5 => ?_)
    · have h := PI.t c5 h
      refine wp_iload_n (i := 2) dX6_person_19 rfl rfl ?_
      by_cases c6 : x2 = 0
      · have h := PI.t c6 h
        refine wp_tsIn (tgt := 52) (v := 0) (z := 0) (off := 32) dX6_person_20 c6 (by decide) (by decide) (by decide) (by decide) (by decide) ?_
        refine wp_aload_n (i := 0) dX6_person_52 rfl rfl ?_
        obtain ⟨v7, ev7, h⟩ := PI.bind h
        refine wp_getR cl6 (f := 1) (by decide) rfl fl_X6_19 dX6_person_53 ev7 ?_
        refine wp_iload_n (i := 1) dX6_person_56 rfl rfl ?_
        obtain ⟨v9, ev9, h⟩ := PI.bind h
        obtain ⟨v8, ev8, h⟩ := PI.bind h
        refine cgV_i (Y' := Y_X5_kindOf) (kc2 := 0) (ks2 := 0) dX6_person_57 ml_X6_106 ce_X5_kindOf (t := 5) rfl (by decide) ⟨(Nat.le_of_ble_eq_true rfl), (Nat.le_of_ble_eq_true rfl)⟩ ⟨(Nat.le_of_ble_eq_true rfl), (Nat.le_of_ble_eq_true rfl)⟩ rfl rfl (chkT_eq ev9) (ct_X5_kindOf ev8) rfl rfl (Nat.le_of_ble_eq_true rfl) ?_
        exact wp_iret dX6_person_60 rfl rfl (Nat.le_of_ble_eq_true rfl) (Nat.le_of_ble_eq_true rfl) (PI.some h)
      have h := PI.f c6 h
      by_cases c10 : x2 = 1
      · have h := PI.t c10 h
        refine wp_tsIn (tgt := 61) (v := 1) (z := 1) (off := 41) dX6_person_20 c10 (by decide) (by decide) (by decide) (by decide) (by decide) ?_
        refine wp_aload_n (i := 0) dX6_person_61 rfl rfl ?_
        obtain ⟨v11, ev11, h⟩ := PI.bind h
        refine wp_getR cl6 (f := 1) (by decide) rfl fl_X6_19 dX6_person_62 ev11 ?_
        refine wp_iload_n (i := 1) dX6_person_65 rfl rfl ?_
        obtain ⟨v13, ev13, h⟩ := PI.bind h
        obtain ⟨v12, ev12, h⟩ := PI.bind h
        refine cgV_i (Y' := Y_X5_doorOf) (kc2 := 0) (ks2 := 0) dX6_person_66 ml_X6_110 ce_X5_doorOf (t := 5) rfl (by decide) ⟨(Nat.le_of_ble_eq_true rfl), (Nat.le_of_ble_eq_true rfl)⟩ ⟨(Nat.le_of_ble_eq_true rfl), (Nat.le_of_ble_eq_true rfl)⟩ rfl rfl (chkT_eq ev13) (ct_X5_doorOf ev12) rfl rfl (Nat.le_of_ble_eq_true rfl) ?_
        exact wp_iret dX6_person_69 rfl rfl (Nat.le_of_ble_eq_true rfl) (Nat.le_of_ble_eq_true rfl) (PI.some h)
      have h := PI.f c10 h
      by_cases c14 : x2 = 2
      · have h := PI.t c14 h
        refine wp_tsIn (tgt := 70) (v := 2) (z := 2) (off := 50) dX6_person_20 c14 (by decide) (by decide) (by decide) (by decide) (by decide) ?_
        refine wp_aload_n (i := 0) dX6_person_70 rfl rfl ?_
        obtain ⟨v15, ev15, h⟩ := PI.bind h
        refine wp_getR cl6 (f := 1) (by decide) rfl fl_X6_19 dX6_person_71 ev15 ?_
        refine wp_iload_n (i := 1) dX6_person_74 rfl rfl ?_
        obtain ⟨v17, ev17, h⟩ := PI.bind h
        obtain ⟨v16, ev16, h⟩ := PI.bind h
        refine cgV_i (Y' := Y_X5_widthOf) (kc2 := 0) (ks2 := 0) dX6_person_75 ml_X6_113 ce_X5_widthOf (t := 5) rfl (by decide) ⟨(Nat.le_of_ble_eq_true rfl), (Nat.le_of_ble_eq_true rfl)⟩ ⟨(Nat.le_of_ble_eq_true rfl), (Nat.le_of_ble_eq_true rfl)⟩ rfl rfl (chkT_eq ev17) (ct_X5_widthOf ev16) rfl rfl (Nat.le_of_ble_eq_true rfl) ?_
        exact wp_iret dX6_person_78 rfl rfl (Nat.le_of_ble_eq_true rfl) (Nat.le_of_ble_eq_true rfl) (PI.some h)
      have h := PI.f c14 h
      by_cases c18 : x2 = 3
      · have h := PI.t c18 h
        refine wp_tsIn (tgt := 79) (v := 3) (z := 3) (off := 59) dX6_person_20 c18 (by decide) (by decide) (by decide) (by decide) (by decide) ?_
        refine wp_aload_n (i := 0) dX6_person_79 rfl rfl ?_
        obtain ⟨v19, ev19, h⟩ := PI.bind h
        refine wp_getR cl6 (f := 1) (by decide) rfl fl_X6_19 dX6_person_80 ev19 ?_
        refine wp_iload_n (i := 1) dX6_person_83 rfl rfl ?_
        obtain ⟨v21, ev21, h⟩ := PI.bind h
        obtain ⟨v20, ev20, h⟩ := PI.bind h
        refine cgV_i (Y' := Y_X5_yardOf) (kc2 := 0) (ks2 := 0) dX6_person_84 ml_X6_116 ce_X5_yardOf (t := 5) rfl (by decide) ⟨(Nat.le_of_ble_eq_true rfl), (Nat.le_of_ble_eq_true rfl)⟩ ⟨(Nat.le_of_ble_eq_true rfl), (Nat.le_of_ble_eq_true rfl)⟩ rfl rfl (chkT_eq ev21) (ct_X5_yardOf ev20) rfl rfl (Nat.le_of_ble_eq_true rfl) ?_
        exact wp_iret dX6_person_87 rfl rfl (Nat.le_of_ble_eq_true rfl) (Nat.le_of_ble_eq_true rfl) (PI.some h)
      have h := PI.f c18 h
      have hz : (x2).toInt < 0 ∨ 3 < (x2).toInt := by
        have nc6 := lv_neT (a := 0) c6 (by decide)
        have nc10 := lv_neT (a := 1) c10 (by decide)
        have nc14 := lv_neT (a := 2) c14 (by decide)
        have nc18 := lv_neT (a := 3) c18 (by decide)
        omega
      refine wp_tsOut (tgt := 88) dX6_person_20 hz (by decide) ?_
      refine wp_aload_n (i := 0) dX6_person_88 rfl rfl ?_
      obtain ⟨v22, ev22, h⟩ := PI.bind h
      refine wp_getR cl6 (f := 1) (by decide) rfl fl_X6_19 dX6_person_89 ev22 ?_
      refine wp_iload_n (i := 1) dX6_person_92 rfl rfl ?_
      obtain ⟨v24, ev24, h⟩ := PI.bind h
      obtain ⟨v23, ev23, h⟩ := PI.bind h
      refine cgV_i (Y' := Y_X5_paceOf) (kc2 := 0) (ks2 := 0) dX6_person_93 ml_X6_119 ce_X5_paceOf (t := 5) rfl (by decide) ⟨(Nat.le_of_ble_eq_true rfl), (Nat.le_of_ble_eq_true rfl)⟩ ⟨(Nat.le_of_ble_eq_true rfl), (Nat.le_of_ble_eq_true rfl)⟩ rfl rfl (chkT_eq ev24) (ct_X5_paceOf ev23) rfl rfl (Nat.le_of_ble_eq_true rfl) ?_
      exact wp_iret dX6_person_96 rfl rfl (Nat.le_of_ble_eq_true rfl) (Nat.le_of_ble_eq_true rfl) (PI.some h)
    · have h := PI.f c5 h
      refine wp_iconst (v := -1) dX6_person_17 (by decide) ?_
      exact wp_iret dX6_person_18 rfl rfl (Nat.le_of_ble_eq_true rfl) (Nat.le_of_ble_eq_true rfl) (PI.some h)
theorem w_X6_noPair_21 {D : DT} {l : Launch} {post : Option Value → Mem → Prop} {m : Mem}  (h : PI m (F_X6_noPair_21 m ) post) : WP D l Y_X6_noPair 0 0 21 [JK, JK, JK] [] m post := by
  refine wp_iconst (v := 1) dX6_noPair_21 (by decide) ?_
  refine wp_goto (tgt := 26) dX6_noPair_22 (by decide) ?_
  exact wp_iret dX6_noPair_26 rfl (by decide) (Nat.le_of_ble_eq_true rfl) (Nat.le_of_ble_eq_true rfl) (PI.some h)
theorem ct_X6_noPair {D : DT} {l : Launch} {m : Mem} {x0 : Nat} {x1 : Int32} {x2 : Int32} {r : Int32} (h : F_X6_noPair x0 x1 x2 m = some r) : Ct D l Y_X6_noPair [.ref x0, .int x1, .int x2] m (fun (v : Option Value) (N : Mem) => v = some (Value.int r) ∧ N = m) := by
  refine ct_of (by decide) (by rfl) (ls0 := [.ref x0, .int x1, .int x2]) rfl rfl ?_
  have h : PI m (F_X6_noPair x0 x1 x2 m) (fun (v : Option Value) (N : Mem) => v = some (Value.int r) ∧ N = m) := ⟨r, h, rfl, rfl⟩
  revert h
  generalize (fun (v : Option Value) (N : Mem) => v = some (Value.int r) ∧ N = m) = post
  intro h
  refine wp_aload_n (i := 0) dX6_noPair_0 rfl rfl ?_
  refine wp_iload_n (i := 1) dX6_noPair_1 rfl rfl ?_
  obtain ⟨v2, ev2, h⟩ := PI.bind h
  obtain ⟨v1, ev1, h⟩ := PI.bind h
  refine cgV_i (Y' := Y_X6_noPerson) (kc2 := 0) (ks2 := 0) dX6_noPair_2 ml_X6_102 ce_X6_noPerson (t := 6) rfl (by decide) ⟨(Nat.le_of_ble_eq_true rfl), (Nat.le_of_ble_eq_true rfl)⟩ ⟨(Nat.le_of_ble_eq_true rfl), (Nat.le_of_ble_eq_true rfl)⟩ rfl rfl (chkT_eq ev2) (ct_X6_noPerson ev1) rfl rfl (Nat.le_of_ble_eq_true rfl) ?_
  refine wp_if_ne (tgt := 21) dX6_noPair_5 (by decide) (fun c3 => ?_) (fun c3 => ?_)
  · have h := PI.f c3 h
    exact wp_weak [false, false, false] (w_X6_noPair_21 h)
  · have h := PI.t c3 h
    refine wp_aload_n (i := 0) dX6_noPair_8 rfl rfl ?_
    refine wp_iload_n (i := 2) dX6_noPair_9 rfl rfl ?_
    obtain ⟨v5, ev5, h⟩ := PI.bind h
    obtain ⟨v4, ev4, h⟩ := PI.bind h
    refine cgV_i (Y' := Y_X6_noPerson) (kc2 := 0) (ks2 := 0) dX6_noPair_10 ml_X6_102 ce_X6_noPerson (t := 6) rfl (by decide) ⟨(Nat.le_of_ble_eq_true rfl), (Nat.le_of_ble_eq_true rfl)⟩ ⟨(Nat.le_of_ble_eq_true rfl), (Nat.le_of_ble_eq_true rfl)⟩ rfl rfl (chkT_eq ev5) (ct_X6_noPerson ev4) rfl rfl (Nat.le_of_ble_eq_true rfl) ?_
    refine wp_if_ne (tgt := 21) dX6_noPair_13 (by decide) (fun c6 => ?_) (fun c6 => ?_)
    · have h := PI.f c6 h
      exact wp_weak [false, false, false] (w_X6_noPair_21 h)
    · have h := PI.t c6 h
      refine wp_iload_n (i := 1) dX6_noPair_16 rfl rfl ?_
      refine wp_iload_n (i := 2) dX6_noPair_17 rfl rfl ?_
      refine wp_icmp_ne (tgt := 25) dX6_noPair_18 (by decide) (fun c7 => ?_) (fun c7 => ?_)
      · have h := PI.f c7 h
        refine wp_iconst (v := 0) dX6_noPair_25 (by decide) ?_
        exact wp_iret dX6_noPair_26 rfl (by decide) (Nat.le_of_ble_eq_true rfl) (Nat.le_of_ble_eq_true rfl) (PI.some h)
      · have h := PI.t c7 h
        exact wp_weak [false, false, false] (w_X6_noPair_21 h)
theorem ct_X6_near {D : DT} {l : Launch} {m : Mem} {x0 : Nat} {x1 : Int32} {x2 : Int32} {r : Int32} (h : F_X6_near x0 x1 x2 m = some r) : Ct D l Y_X6_near [.ref x0, .int x1, .int x2] m (fun (v : Option Value) (N : Mem) => v = some (Value.int r) ∧ N = m) := by
  refine ct_of (by decide) (by rfl) (ls0 := [.ref x0, .int x1, .int x2]) rfl rfl ?_
  have h : PI m (F_X6_near x0 x1 x2 m) (fun (v : Option Value) (N : Mem) => v = some (Value.int r) ∧ N = m) := ⟨r, h, rfl, rfl⟩
  revert h
  generalize (fun (v : Option Value) (N : Mem) => v = some (Value.int r) ∧ N = m) = post
  intro h
  refine wp_aload_n (i := 0) dX6_near_0 rfl rfl ?_
  refine wp_iload_n (i := 1) dX6_near_1 rfl rfl ?_
  refine wp_iload_n (i := 2) dX6_near_2 rfl rfl ?_
  obtain ⟨v2, ev2, h⟩ := PI.bind h
  obtain ⟨v1, ev1, h⟩ := PI.bind h
  refine cgV_i (Y' := Y_X6_noPair) (kc2 := 0) (ks2 := 0) dX6_near_3 ml_X6_122 ce_X6_noPair (t := 6) rfl (by decide) ⟨(Nat.le_of_ble_eq_true rfl), (Nat.le_of_ble_eq_true rfl)⟩ ⟨(Nat.le_of_ble_eq_true rfl), (Nat.le_of_ble_eq_true rfl)⟩ rfl rfl (chkT_eq ev2) (ct_X6_noPair ev1) rfl rfl (Nat.le_of_ble_eq_true rfl) ?_
  refine wp_if_eq (tgt := 13) dX6_near_6 (by decide) (fun c3 => ?_) (fun c3 => ?_)
  · have h := PI.t c3 h
    refine wp_aload_n (i := 0) dX6_near_13 rfl rfl ?_
    obtain ⟨v4, ev4, h⟩ := PI.bind h
    refine wp_getR cl6 (f := 1) (by decide) rfl fl_X6_19 dX6_near_14 ev4 ?_
    refine wp_iload_n (i := 1) dX6_near_17 rfl rfl ?_
    refine wp_iload_n (i := 2) dX6_near_18 rfl rfl ?_
    obtain ⟨v6, ev6, h⟩ := PI.bind h
    obtain ⟨v5, ev5, h⟩ := PI.bind h
    refine cgV_i (Y' := Y_X5_between) (kc2 := 0) (ks2 := 0) dX6_near_19 ml_X6_126 ce_X5_between (t := 5) rfl (by decide) ⟨(Nat.le_of_ble_eq_true rfl), (Nat.le_of_ble_eq_true rfl)⟩ ⟨(Nat.le_of_ble_eq_true rfl), (Nat.le_of_ble_eq_true rfl)⟩ rfl rfl (chkT_eq ev6) (ct_X5_between ev5) rfl rfl (Nat.le_of_ble_eq_true rfl) ?_
    exact wp_iret dX6_near_22 rfl rfl (Nat.le_of_ble_eq_true rfl) (Nat.le_of_ble_eq_true rfl) (PI.some h)
  · have h := PI.f c3 h
    refine wp_iconst (v := -1) dX6_near_9 (by decide) ?_
    refine wp_goto (tgt := 22) dX6_near_10 (by decide) ?_
    exact wp_iret dX6_near_22 rfl rfl (Nat.le_of_ble_eq_true rfl) (Nat.le_of_ble_eq_true rfl) (PI.some h)
theorem ct_X6_noDoor {D : DT} {l : Launch} {m : Mem} {x0 : Int32} {r : Int32} (h : F_X6_noDoor x0 = some r) : Ct D l Y_X6_noDoor [.int x0] m (fun (v : Option Value) (N : Mem) => v = some (Value.int r) ∧ N = m) := by
  refine ct_of (by decide) (by rfl) (ls0 := [.int x0]) rfl rfl ?_
  have h : PI m (F_X6_noDoor x0) (fun (v : Option Value) (N : Mem) => v = some (Value.int r) ∧ N = m) := ⟨r, h, rfl, rfl⟩
  revert h
  generalize (fun (v : Option Value) (N : Mem) => v = some (Value.int r) ∧ N = m) = post
  intro h
  refine wp_iload_n (i := 0) dX6_noDoor_0 rfl rfl ?_
  refine wp_iconst (v := 0) dX6_noDoor_1 (by decide) ?_
  refine wp_iconst (v := 5) dX6_noDoor_2 (by decide) ?_
  obtain ⟨v1, ev1, h⟩ := PI.bind h
  refine cgS_i (Y' := Y_X6_outside) (kc2 := 0) (ks2 := 0) dX6_noDoor_3 ml_X6_73 ce_X6_outside ⟨(Nat.le_of_ble_eq_true rfl), (Nat.le_of_ble_eq_true rfl)⟩ ⟨(Nat.le_of_ble_eq_true rfl), (Nat.le_of_ble_eq_true rfl)⟩ rfl rfl (ct_X6_outside ev1) rfl rfl (Nat.le_of_ble_eq_true rfl) ?_
  obtain ⟨v2, ev2, h⟩ := PI.bind h
  exact wp_iret dX6_noDoor_6 rfl (rN_of ev2) (Nat.le_of_ble_eq_true rfl) (Nat.le_of_ble_eq_true rfl) (PI.some h)
theorem ct_X6_about {D : DT} {l : Launch} {m : Mem} {x0 : Nat} {x1 : Int32} {r : Int32} (h : F_X6_about x0 x1 m = some r) : Ct D l Y_X6_about [.ref x0, .int x1] m (fun (v : Option Value) (N : Mem) => v = some (Value.int r) ∧ N = m) := by
  refine ct_of (by decide) (by rfl) (ls0 := [.ref x0, .int x1]) rfl rfl ?_
  have h : PI m (F_X6_about x0 x1 m) (fun (v : Option Value) (N : Mem) => v = some (Value.int r) ∧ N = m) := ⟨r, h, rfl, rfl⟩
  revert h
  generalize (fun (v : Option Value) (N : Mem) => v = some (Value.int r) ∧ N = m) = post
  intro h
  refine wp_iload_n (i := 1) dX6_about_0 rfl rfl ?_
  obtain ⟨v1, ev1, h⟩ := PI.bind h
  refine cgS_i (Y' := Y_X6_noDoor) (kc2 := 0) (ks2 := 0) dX6_about_1 ml_X6_130 ce_X6_noDoor ⟨(Nat.le_of_ble_eq_true rfl), (Nat.le_of_ble_eq_true rfl)⟩ ⟨(Nat.le_of_ble_eq_true rfl), (Nat.le_of_ble_eq_true rfl)⟩ rfl rfl (ct_X6_noDoor ev1) rfl rfl (Nat.le_of_ble_eq_true rfl) ?_
  refine wp_if_eq (tgt := 11) dX6_about_4 (by decide) (fun c2 => ?_) (fun c2 => ?_)
  · have h := PI.t c2 h
    refine wp_aload_n (i := 0) dX6_about_11 rfl rfl ?_
    obtain ⟨v3, ev3, h⟩ := PI.bind h
    refine wp_getR cl6 (f := 1) (by decide) rfl fl_X6_19 dX6_about_12 ev3 ?_
    refine wp_iload_n (i := 1) dX6_about_15 rfl rfl ?_
    obtain ⟨v5, ev5, h⟩ := PI.bind h
    obtain ⟨v4, ev4, h⟩ := PI.bind h
    refine cgV_i (Y' := Y_X5_goersAbout) (kc2 := 0) (ks2 := 0) dX6_about_16 ml_X6_133 ce_X5_goersAbout (t := 5) rfl (by decide) ⟨(Nat.le_of_ble_eq_true rfl), (Nat.le_of_ble_eq_true rfl)⟩ ⟨(Nat.le_of_ble_eq_true rfl), (Nat.le_of_ble_eq_true rfl)⟩ rfl rfl (chkT_eq ev5) (ct_X5_goersAbout ev4) rfl rfl (Nat.le_of_ble_eq_true rfl) ?_
    exact wp_iret dX6_about_19 rfl rfl (Nat.le_of_ble_eq_true rfl) (Nat.le_of_ble_eq_true rfl) (PI.some h)
  · have h := PI.f c2 h
    refine wp_iconst (v := -1) dX6_about_7 (by decide) ?_
    refine wp_goto (tgt := 19) dX6_about_8 (by decide) ?_
    exact wp_iret dX6_about_19 rfl rfl (Nat.le_of_ble_eq_true rfl) (Nat.le_of_ble_eq_true rfl) (PI.some h)
theorem ct_X6_pass {D : DT} {l : Launch} {m : Mem} {x0 : Nat} {x1 : Int32} {r : (Int32 × Mem)} (h : F_X6_pass x0 x1 m = some r) : Ct D l Y_X6_pass [.ref x0, .int x1] m (fun (v : Option Value) (N : Mem) => v = some (Value.int r.1) ∧ N = r.2) := by
  refine ct_of (by decide) (by rfl) (ls0 := [.ref x0, .int x1]) rfl rfl ?_
  have h : HI (F_X6_pass x0 x1 m) (fun (v : Option Value) (N : Mem) => v = some (Value.int r.1) ∧ N = r.2) := ⟨r.1, r.2, h, rfl, rfl⟩
  revert h
  generalize (fun (v : Option Value) (N : Mem) => v = some (Value.int r.1) ∧ N = r.2) = post
  intro h
  refine wp_iload_n (i := 1) dX6_pass_0 rfl rfl ?_
  refine wp_iconst (v := 1) dX6_pass_1 (by decide) ?_
  refine wp_bipush (v := 20) dX6_pass_2 (by decide) ?_
  obtain ⟨v1, ev1, h⟩ := HI.bind h
  refine cgS_i (Y' := Y_X6_outside) (kc2 := 0) (ks2 := 0) dX6_pass_4 ml_X6_73 ce_X6_outside ⟨(Nat.le_of_ble_eq_true rfl), (Nat.le_of_ble_eq_true rfl)⟩ ⟨(Nat.le_of_ble_eq_true rfl), (Nat.le_of_ble_eq_true rfl)⟩ rfl rfl (ct_X6_outside ev1) rfl rfl (Nat.le_of_ble_eq_true rfl) ?_
  refine wp_if_eq (tgt := 12) dX6_pass_7 (by decide) (fun c2 => ?_) (fun c2 => ?_)
  · have h := HI.t c2 h
    refine wp_aload_n (i := 0) dX6_pass_12 rfl rfl ?_
    obtain ⟨v3, ev3, h⟩ := HI.bind h
    refine wp_getR cl6 (f := 1) (by decide) rfl fl_X6_19 dX6_pass_13 ev3 ?_
    obtain ⟨v5, ev5, h⟩ := HI.bind h
    obtain ⟨v4, ev4, h⟩ := HI.bind h
    refine cgV_i (Y' := Y_X5_day) (kc2 := 0) (ks2 := 0) dX6_pass_16 ml_X6_136 ce_X5_day (t := 5) rfl (by decide) ⟨(Nat.le_of_ble_eq_true rfl), (Nat.le_of_ble_eq_true rfl)⟩ ⟨(Nat.le_of_ble_eq_true rfl), (Nat.le_of_ble_eq_true rfl)⟩ rfl rfl (chkT_eq ev5) (ct_X5_day ev4) rfl rfl (Nat.le_of_ble_eq_true rfl) ?_
    refine wp_iload_n (i := 1) dX6_pass_19 rfl rfl ?_
    refine wp_iadd dX6_pass_20 ?_
    refine wp_sipush (v := 999) dX6_pass_21 (by decide) ?_
    refine wp_icmp_le (tgt := 30) dX6_pass_24 (by decide) (fun c6 => ?_) (fun c6 => ?_)
    · have h := HI.t c6 h
      refine wp_aload_n (i := 0) dX6_pass_30 rfl rfl ?_
      obtain ⟨v7, ev7, h⟩ := HI.bind h
      refine wp_getR cl6 (f := 3) (by decide) rfl fl_X6_31 dX6_pass_31 ev7 ?_
      refine wp_aload_n (i := 0) dX6_pass_34 rfl rfl ?_
      obtain ⟨v8, ev8, h⟩ := HI.bind h
      refine wp_getR cl6 (f := 1) (by decide) rfl fl_X6_19 dX6_pass_35 ev8 ?_
      obtain ⟨v10, ev10, h⟩ := HI.bind h
      obtain ⟨v9, ev9, h⟩ := HI.bind h
      refine cgV_v (Y' := Y_X2_put) (kc2 := 0) (ks2 := 0) dX6_pass_38 ml_X6_139 ce_X2_put (t := 2) rfl (by decide) ⟨(Nat.le_of_ble_eq_true rfl), (Nat.le_of_ble_eq_true rfl)⟩ ⟨(Nat.le_of_ble_eq_true rfl), (Nat.le_of_ble_eq_true rfl)⟩ rfl rfl (chkT_eq ev10) (ct_X2_put ev9) rfl rfl (Nat.le_of_ble_eq_true rfl) ?_
      refine wp_aload_n (i := 0) dX6_pass_41 rfl rfl ?_
      obtain ⟨v11, ev11, h⟩ := HI.bind h
      refine wp_getR cl6 (f := 1) (by decide) rfl fl_X6_19 dX6_pass_42 ev11 ?_
      refine wp_iload_n (i := 1) dX6_pass_45 rfl rfl ?_
      obtain ⟨v13, ev13, h⟩ := HI.bind h
      obtain ⟨v12, ev12, h⟩ := HI.bind h
      refine cgV_i (Y' := Y_X5_letDaysGoBy) (kc2 := 0) (ks2 := 0) dX6_pass_46 ml_X6_142 ce_X5_letDaysGoBy (t := 5) rfl (by decide) ⟨(Nat.le_of_ble_eq_true rfl), (Nat.le_of_ble_eq_true rfl)⟩ ⟨(Nat.le_of_ble_eq_true rfl), (Nat.le_of_ble_eq_true rfl)⟩ rfl rfl (chkT_eq ev13) (ct_X5_letDaysGoBy ev12) rfl rfl (Nat.le_of_ble_eq_true rfl) ?_
      exact wp_iret dX6_pass_49 rfl rfl (Nat.le_of_ble_eq_true rfl) (Nat.le_of_ble_eq_true rfl) (HI.some h)
    · have h := HI.f c6 h
      refine wp_bipush (v := -2) dX6_pass_27 (by decide) ?_
      exact wp_iret dX6_pass_29 rfl rfl (Nat.le_of_ble_eq_true rfl) (Nat.le_of_ble_eq_true rfl) (HI.some h)
  · have h := HI.f c2 h
    refine wp_iconst (v := -1) dX6_pass_10 (by decide) ?_
    exact wp_iret dX6_pass_11 rfl rfl (Nat.le_of_ble_eq_true rfl) (Nat.le_of_ble_eq_true rfl) (HI.some h)
theorem w_X6_weave_54 {D : DT} {l : Launch} {post : Option Value → Mem → Prop} {x0 : Nat} {x1 : Int32} {x2 : Int32} {x3 : Int32} {m : Mem} (h : HI (F_X6_weave_54 x0 x1 x2 x3 m) post) : WP D l Y_X6_weave 0 0 54 [.ref x0, .int x1, .int x2, .int x3] [] m post := by
  refine wp_aload_n (i := 0) dX6_weave_54 rfl rfl ?_
  obtain ⟨v1, ev1, h⟩ := HI.bind h
  refine wp_getR cl6 (f := 3) (by decide) rfl fl_X6_31 dX6_weave_55 ev1 ?_
  refine wp_aload_n (i := 0) dX6_weave_58 rfl rfl ?_
  obtain ⟨v2, ev2, h⟩ := HI.bind h
  refine wp_getR cl6 (f := 1) (by decide) rfl fl_X6_19 dX6_weave_59 ev2 ?_
  obtain ⟨v4, ev4, h⟩ := HI.bind h
  obtain ⟨v3, ev3, h⟩ := HI.bind h
  refine cgV_v (Y' := Y_X2_put) (kc2 := 0) (ks2 := 0) dX6_weave_62 ml_X6_139 ce_X2_put (t := 2) rfl (by decide) ⟨(Nat.le_of_ble_eq_true rfl), (Nat.le_of_ble_eq_true rfl)⟩ ⟨(Nat.le_of_ble_eq_true rfl), (Nat.le_of_ble_eq_true rfl)⟩ rfl rfl (chkT_eq ev4) (ct_X2_put ev3) rfl rfl (Nat.le_of_ble_eq_true rfl) ?_
  refine wp_aload_n (i := 0) dX6_weave_65 rfl rfl ?_
  obtain ⟨v5, ev5, h⟩ := HI.bind h
  refine wp_getR cl6 (f := 1) (by decide) rfl fl_X6_19 dX6_weave_66 ev5 ?_
  refine wp_iload_n (i := 1) dX6_weave_69 rfl rfl ?_
  refine wp_iload_n (i := 2) dX6_weave_70 rfl rfl ?_
  refine wp_iload_n (i := 3) dX6_weave_71 rfl rfl ?_
  obtain ⟨v7, ev7, h⟩ := HI.bind h
  obtain ⟨v6, ev6, h⟩ := HI.bind h
  refine cgV_v (Y' := Y_X5_hangWreath) (kc2 := 0) (ks2 := 0) dX6_weave_72 ml_X6_145 ce_X5_hangWreath (t := 5) rfl (by decide) ⟨(Nat.le_of_ble_eq_true rfl), (Nat.le_of_ble_eq_true rfl)⟩ ⟨(Nat.le_of_ble_eq_true rfl), (Nat.le_of_ble_eq_true rfl)⟩ rfl rfl (chkT_eq ev7) (ct_X5_hangWreath ev6) rfl rfl (Nat.le_of_ble_eq_true rfl) ?_
  refine wp_aload_n (i := 0) dX6_weave_75 rfl rfl ?_
  obtain ⟨v8, ev8, h⟩ := HI.bind h
  refine wp_getR cl6 (f := 1) (by decide) rfl fl_X6_19 dX6_weave_76 ev8 ?_
  refine wp_iload_n (i := 2) dX6_weave_79 rfl rfl ?_
  obtain ⟨v10, ev10, h⟩ := HI.bind h
  obtain ⟨v9, ev9, h⟩ := HI.bind h
  refine cgV_i (Y' := Y_X5_goersAbout) (kc2 := 0) (ks2 := 0) dX6_weave_80 ml_X6_133 ce_X5_goersAbout (t := 5) rfl (by decide) ⟨(Nat.le_of_ble_eq_true rfl), (Nat.le_of_ble_eq_true rfl)⟩ ⟨(Nat.le_of_ble_eq_true rfl), (Nat.le_of_ble_eq_true rfl)⟩ rfl rfl (chkT_eq ev10) (ct_X5_goersAbout ev9) rfl rfl (Nat.le_of_ble_eq_true rfl) ?_
  obtain ⟨v11, ev11, h⟩ := HI.bind h
  refine cgS_i (Y' := Y_J6_bitCount) (kc2 := 0) (ks2 := 0) dX6_weave_83 ml_X6_149 ce_J6_bitCount ⟨(Nat.le_of_ble_eq_true rfl), (Nat.le_of_ble_eq_true rfl)⟩ ⟨(Nat.le_of_ble_eq_true rfl), (Nat.le_of_ble_eq_true rfl)⟩ rfl rfl (ct_J6_bitCount ev11) rfl rfl (Nat.le_of_ble_eq_true rfl) ?_
  exact wp_iret dX6_weave_86 rfl rfl (Nat.le_of_ble_eq_true rfl) (Nat.le_of_ble_eq_true rfl) (HI.some h)
theorem ct_X6_weave {D : DT} {l : Launch} {m : Mem} {x0 : Nat} {x1 : Int32} {x2 : Int32} {x3 : Int32} {r : (Int32 × Mem)} (h : F_X6_weave x0 x1 x2 x3 m = some r) : Ct D l Y_X6_weave [.ref x0, .int x1, .int x2, .int x3] m (fun (v : Option Value) (N : Mem) => v = some (Value.int r.1) ∧ N = r.2) := by
  refine ct_of (by decide) (by rfl) (ls0 := [.ref x0, .int x1, .int x2, .int x3]) rfl rfl ?_
  have h : HI (F_X6_weave x0 x1 x2 x3 m) (fun (v : Option Value) (N : Mem) => v = some (Value.int r.1) ∧ N = r.2) := ⟨r.1, r.2, h, rfl, rfl⟩
  revert h
  generalize (fun (v : Option Value) (N : Mem) => v = some (Value.int r.1) ∧ N = r.2) = post
  intro h
  refine wp_aload_n (i := 0) dX6_weave_0 rfl rfl ?_
  refine wp_iload_n (i := 1) dX6_weave_1 rfl rfl ?_
  obtain ⟨v13, ev13, h⟩ := HI.bind h
  obtain ⟨v12, ev12, h⟩ := HI.bind h
  refine cgV_i (Y' := Y_X6_noPerson) (kc2 := 0) (ks2 := 0) dX6_weave_2 ml_X6_102 ce_X6_noPerson (t := 6) rfl (by decide) ⟨(Nat.le_of_ble_eq_true rfl), (Nat.le_of_ble_eq_true rfl)⟩ ⟨(Nat.le_of_ble_eq_true rfl), (Nat.le_of_ble_eq_true rfl)⟩ rfl rfl (chkT_eq ev13) (ct_X6_noPerson ev12) rfl rfl (Nat.le_of_ble_eq_true rfl) ?_
  refine wp_if_ne (tgt := 25) dX6_weave_5 (by decide) (fun c14 => ?_) (fun c14 => ?_)
  · have h := HI.f c14 h
    refine wp_iconst (v := -1) dX6_weave_25 (by decide) ?_
    exact wp_iret dX6_weave_26 rfl rfl (Nat.le_of_ble_eq_true rfl) (Nat.le_of_ble_eq_true rfl) (HI.some h)
  · have h := HI.t c14 h
    refine wp_iload_n (i := 2) dX6_weave_8 rfl rfl ?_
    obtain ⟨v15, ev15, h⟩ := HI.bind h
    refine cgS_i (Y' := Y_X6_noDoor) (kc2 := 0) (ks2 := 0) dX6_weave_9 ml_X6_130 ce_X6_noDoor ⟨(Nat.le_of_ble_eq_true rfl), (Nat.le_of_ble_eq_true rfl)⟩ ⟨(Nat.le_of_ble_eq_true rfl), (Nat.le_of_ble_eq_true rfl)⟩ rfl rfl (ct_X6_noDoor ev15) rfl rfl (Nat.le_of_ble_eq_true rfl) ?_
    refine wp_if_ne (tgt := 25) dX6_weave_12 (by decide) (fun c16 => ?_) (fun c16 => ?_)
    · have h := HI.f c16 h
      refine wp_iconst (v := -1) dX6_weave_25 (by decide) ?_
      exact wp_iret dX6_weave_26 rfl rfl (Nat.le_of_ble_eq_true rfl) (Nat.le_of_ble_eq_true rfl) (HI.some h)
    · have h := HI.t c16 h
      refine wp_iload_n (i := 3) dX6_weave_15 rfl rfl ?_
      refine wp_iconst (v := 1) dX6_weave_16 (by decide) ?_
      refine wp_bipush (v := 9) dX6_weave_17 (by decide) ?_
      obtain ⟨v17, ev17, h⟩ := HI.bind h
      refine cgS_i (Y' := Y_X6_outside) (kc2 := 0) (ks2 := 0) dX6_weave_19 ml_X6_73 ce_X6_outside ⟨(Nat.le_of_ble_eq_true rfl), (Nat.le_of_ble_eq_true rfl)⟩ ⟨(Nat.le_of_ble_eq_true rfl), (Nat.le_of_ble_eq_true rfl)⟩ rfl rfl (ct_X6_outside ev17) rfl rfl (Nat.le_of_ble_eq_true rfl) ?_
      refine wp_if_eq (tgt := 27) dX6_weave_22 (by decide) (fun c18 => ?_) (fun c18 => ?_)
      · have h := HI.t c18 h
        refine wp_aload_n (i := 0) dX6_weave_27 rfl rfl ?_
        obtain ⟨v19, ev19, h⟩ := HI.bind h
        refine wp_getR cl6 (f := 1) (by decide) rfl fl_X6_19 dX6_weave_28 ev19 ?_
        refine wp_iload_n (i := 1) dX6_weave_31 rfl rfl ?_
        obtain ⟨v21, ev21, h⟩ := HI.bind h
        obtain ⟨v20, ev20, h⟩ := HI.bind h
        refine cgV_i (Y' := Y_X5_doorOf) (kc2 := 0) (ks2 := 0) dX6_weave_32 ml_X6_110 ce_X5_doorOf (t := 5) rfl (by decide) ⟨(Nat.le_of_ble_eq_true rfl), (Nat.le_of_ble_eq_true rfl)⟩ ⟨(Nat.le_of_ble_eq_true rfl), (Nat.le_of_ble_eq_true rfl)⟩ rfl rfl (chkT_eq ev21) (ct_X5_doorOf ev20) rfl rfl (Nat.le_of_ble_eq_true rfl) ?_
        refine wp_iload_n (i := 2) dX6_weave_35 rfl rfl ?_
        refine wp_icmp_ne (tgt := 54) dX6_weave_36 (by decide) (fun c22 => ?_) (fun c22 => ?_)
        · have h := HI.f c22 h
          exact (w_X6_weave_54 h)
        · have h := HI.t c22 h
          refine wp_aload_n (i := 0) dX6_weave_39 rfl rfl ?_
          obtain ⟨v23, ev23, h⟩ := HI.bind h
          refine wp_getR cl6 (f := 1) (by decide) rfl fl_X6_19 dX6_weave_40 ev23 ?_
          refine wp_iload_n (i := 1) dX6_weave_43 rfl rfl ?_
          obtain ⟨v25, ev25, h⟩ := HI.bind h
          obtain ⟨v24, ev24, h⟩ := HI.bind h
          refine cgV_i (Y' := Y_X5_widthOf) (kc2 := 0) (ks2 := 0) dX6_weave_44 ml_X6_113 ce_X5_widthOf (t := 5) rfl (by decide) ⟨(Nat.le_of_ble_eq_true rfl), (Nat.le_of_ble_eq_true rfl)⟩ ⟨(Nat.le_of_ble_eq_true rfl), (Nat.le_of_ble_eq_true rfl)⟩ rfl rfl (chkT_eq ev25) (ct_X5_widthOf ev24) rfl rfl (Nat.le_of_ble_eq_true rfl) ?_
          refine wp_iload_n (i := 3) dX6_weave_47 rfl rfl ?_
          refine wp_icmp_ne (tgt := 54) dX6_weave_48 (by decide) (fun c26 => ?_) (fun c26 => ?_)
          · have h := HI.f c26 h
            exact (w_X6_weave_54 h)
          · have h := HI.t c26 h
            refine wp_bipush (v := -2) dX6_weave_51 (by decide) ?_
            exact wp_iret dX6_weave_53 rfl rfl (Nat.le_of_ble_eq_true rfl) (Nat.le_of_ble_eq_true rfl) (HI.some h)
      · have h := HI.f c18 h
        refine wp_iconst (v := -1) dX6_weave_25 (by decide) ?_
        exact wp_iret dX6_weave_26 rfl rfl (Nat.le_of_ble_eq_true rfl) (Nat.le_of_ble_eq_true rfl) (HI.some h)
theorem ct_X6_off {D : DT} {l : Launch} {m : Mem} {x0 : Nat} {x1 : Int32} {r : (Int32 × Mem)} (h : F_X6_off x0 x1 m = some r) : Ct D l Y_X6_off [.ref x0, .int x1] m (fun (v : Option Value) (N : Mem) => v = some (Value.int r.1) ∧ N = r.2) := by
  refine ct_of (by decide) (by rfl) (ls0 := [.ref x0, .int x1, JK]) rfl rfl ?_
  have h : HI (F_X6_off x0 x1 m) (fun (v : Option Value) (N : Mem) => v = some (Value.int r.1) ∧ N = r.2) := ⟨r.1, r.2, h, rfl, rfl⟩
  revert h
  generalize (fun (v : Option Value) (N : Mem) => v = some (Value.int r.1) ∧ N = r.2) = post
  intro h
  refine wp_aload_n (i := 0) dX6_off_0 rfl rfl ?_
  refine wp_iload_n (i := 1) dX6_off_1 rfl rfl ?_
  obtain ⟨v2, ev2, h⟩ := HI.bind h
  obtain ⟨v1, ev1, h⟩ := HI.bind h
  refine cgV_i (Y' := Y_X6_noPerson) (kc2 := 0) (ks2 := 0) dX6_off_2 ml_X6_102 ce_X6_noPerson (t := 6) rfl (by decide) ⟨(Nat.le_of_ble_eq_true rfl), (Nat.le_of_ble_eq_true rfl)⟩ ⟨(Nat.le_of_ble_eq_true rfl), (Nat.le_of_ble_eq_true rfl)⟩ rfl rfl (chkT_eq ev2) (ct_X6_noPerson ev1) rfl rfl (Nat.le_of_ble_eq_true rfl) ?_
  refine wp_if_eq (tgt := 10) dX6_off_5 (by decide) (fun c3 => ?_) (fun c3 => ?_)
  · have h := HI.t c3 h
    refine wp_aload_n (i := 0) dX6_off_10 rfl rfl ?_
    obtain ⟨v4, ev4, h⟩ := HI.bind h
    refine wp_getR cl6 (f := 1) (by decide) rfl fl_X6_19 dX6_off_11 ev4 ?_
    refine wp_iload_n (i := 1) dX6_off_14 rfl rfl ?_
    obtain ⟨v6, ev6, h⟩ := HI.bind h
    obtain ⟨v5, ev5, h⟩ := HI.bind h
    refine cgV_i (Y' := Y_X5_doorOf) (kc2 := 0) (ks2 := 0) dX6_off_15 ml_X6_110 ce_X5_doorOf (t := 5) rfl (by decide) ⟨(Nat.le_of_ble_eq_true rfl), (Nat.le_of_ble_eq_true rfl)⟩ ⟨(Nat.le_of_ble_eq_true rfl), (Nat.le_of_ble_eq_true rfl)⟩ rfl rfl (chkT_eq ev6) (ct_X5_doorOf ev5) rfl rfl (Nat.le_of_ble_eq_true rfl) ?_
    refine wp_istore_n (i := 2) dX6_off_18 rfl rfl rfl ?_
    refine wp_iload_n (i := 2) dX6_off_19 rfl rfl ?_
    refine wp_bipush (v := -4) dX6_off_20 (by decide) ?_
    refine wp_icmp_ne (tgt := 28) dX6_off_22 (by decide) (fun c7 => ?_) (fun c7 => ?_)
    · have h := HI.f c7 h
      refine wp_aload_n (i := 0) dX6_off_28 rfl rfl ?_
      obtain ⟨v8, ev8, h⟩ := HI.bind h
      refine wp_getR cl6 (f := 3) (by decide) rfl fl_X6_31 dX6_off_29 ev8 ?_
      refine wp_aload_n (i := 0) dX6_off_32 rfl rfl ?_
      obtain ⟨v9, ev9, h⟩ := HI.bind h
      refine wp_getR cl6 (f := 1) (by decide) rfl fl_X6_19 dX6_off_33 ev9 ?_
      obtain ⟨v11, ev11, h⟩ := HI.bind h
      obtain ⟨v10, ev10, h⟩ := HI.bind h
      refine cgV_v (Y' := Y_X2_put) (kc2 := 0) (ks2 := 0) dX6_off_36 ml_X6_139 ce_X2_put (t := 2) rfl (by decide) ⟨(Nat.le_of_ble_eq_true rfl), (Nat.le_of_ble_eq_true rfl)⟩ ⟨(Nat.le_of_ble_eq_true rfl), (Nat.le_of_ble_eq_true rfl)⟩ rfl rfl (chkT_eq ev11) (ct_X2_put ev10) rfl rfl (Nat.le_of_ble_eq_true rfl) ?_
      refine wp_aload_n (i := 0) dX6_off_39 rfl rfl ?_
      obtain ⟨v12, ev12, h⟩ := HI.bind h
      refine wp_getR cl6 (f := 1) (by decide) rfl fl_X6_19 dX6_off_40 ev12 ?_
      refine wp_iload_n (i := 1) dX6_off_43 rfl rfl ?_
      refine wp_bipush (v := -4) dX6_off_44 (by decide) ?_
      refine wp_bipush (v := -4) dX6_off_46 (by decide) ?_
      obtain ⟨v14, ev14, h⟩ := HI.bind h
      obtain ⟨v13, ev13, h⟩ := HI.bind h
      refine cgV_v (Y' := Y_X5_hangWreath) (kc2 := 0) (ks2 := 0) dX6_off_48 ml_X6_145 ce_X5_hangWreath (t := 5) rfl (by decide) ⟨(Nat.le_of_ble_eq_true rfl), (Nat.le_of_ble_eq_true rfl)⟩ ⟨(Nat.le_of_ble_eq_true rfl), (Nat.le_of_ble_eq_true rfl)⟩ rfl rfl (chkT_eq ev14) (ct_X5_hangWreath ev13) rfl rfl (Nat.le_of_ble_eq_true rfl) ?_
      refine wp_iload_n (i := 2) dX6_off_51 rfl rfl ?_
      exact wp_iret dX6_off_52 rfl rfl (Nat.le_of_ble_eq_true rfl) (Nat.le_of_ble_eq_true rfl) (HI.some h)
    · have h := HI.t c7 h
      refine wp_bipush (v := -2) dX6_off_25 (by decide) ?_
      exact wp_iret dX6_off_27 rfl rfl (Nat.le_of_ble_eq_true rfl) (Nat.le_of_ble_eq_true rfl) (HI.some h)
  · have h := HI.f c3 h
    refine wp_iconst (v := -1) dX6_off_8 (by decide) ?_
    exact wp_iret dX6_off_9 rfl rfl (Nat.le_of_ble_eq_true rfl) (Nat.le_of_ble_eq_true rfl) (HI.some h)
theorem ct_X6_pace {D : DT} {l : Launch} {m : Mem} {x0 : Nat} {x1 : Int32} {x2 : Int32} {r : (Int32 × Mem)} (h : F_X6_pace x0 x1 x2 m = some r) : Ct D l Y_X6_pace [.ref x0, .int x1, .int x2] m (fun (v : Option Value) (N : Mem) => v = some (Value.int r.1) ∧ N = r.2) := by
  refine ct_of (by decide) (by rfl) (ls0 := [.ref x0, .int x1, .int x2, JK]) rfl rfl ?_
  have h : HI (F_X6_pace x0 x1 x2 m) (fun (v : Option Value) (N : Mem) => v = some (Value.int r.1) ∧ N = r.2) := ⟨r.1, r.2, h, rfl, rfl⟩
  revert h
  generalize (fun (v : Option Value) (N : Mem) => v = some (Value.int r.1) ∧ N = r.2) = post
  intro h
  refine wp_aload_n (i := 0) dX6_pace_0 rfl rfl ?_
  refine wp_iload_n (i := 1) dX6_pace_1 rfl rfl ?_
  obtain ⟨v2, ev2, h⟩ := HI.bind h
  obtain ⟨v1, ev1, h⟩ := HI.bind h
  refine cgV_i (Y' := Y_X6_noPerson) (kc2 := 0) (ks2 := 0) dX6_pace_2 ml_X6_102 ce_X6_noPerson (t := 6) rfl (by decide) ⟨(Nat.le_of_ble_eq_true rfl), (Nat.le_of_ble_eq_true rfl)⟩ ⟨(Nat.le_of_ble_eq_true rfl), (Nat.le_of_ble_eq_true rfl)⟩ rfl rfl (chkT_eq ev2) (ct_X6_noPerson ev1) rfl rfl (Nat.le_of_ble_eq_true rfl) ?_
  refine wp_if_ne (tgt := 18) dX6_pace_5 (by decide) (fun c3 => ?_) (fun c3 => ?_)
  · have h := HI.f c3 h
    refine wp_iconst (v := -1) dX6_pace_18 (by decide) ?_
    exact wp_iret dX6_pace_19 rfl rfl (Nat.le_of_ble_eq_true rfl) (Nat.le_of_ble_eq_true rfl) (HI.some h)
  · have h := HI.t c3 h
    refine wp_iload_n (i := 2) dX6_pace_8 rfl rfl ?_
    refine wp_iconst (v := 0) dX6_pace_9 (by decide) ?_
    refine wp_bipush (v := 11) dX6_pace_10 (by decide) ?_
    obtain ⟨v4, ev4, h⟩ := HI.bind h
    refine cgS_i (Y' := Y_X6_outside) (kc2 := 0) (ks2 := 0) dX6_pace_12 ml_X6_73 ce_X6_outside ⟨(Nat.le_of_ble_eq_true rfl), (Nat.le_of_ble_eq_true rfl)⟩ ⟨(Nat.le_of_ble_eq_true rfl), (Nat.le_of_ble_eq_true rfl)⟩ rfl rfl (ct_X6_outside ev4) rfl rfl (Nat.le_of_ble_eq_true rfl) ?_
    refine wp_if_eq (tgt := 20) dX6_pace_15 (by decide) (fun c5 => ?_) (fun c5 => ?_)
    · have h := HI.t c5 h
      refine wp_aload_n (i := 0) dX6_pace_20 rfl rfl ?_
      obtain ⟨v6, ev6, h⟩ := HI.bind h
      refine wp_getR cl6 (f := 1) (by decide) rfl fl_X6_19 dX6_pace_21 ev6 ?_
      refine wp_iload_n (i := 1) dX6_pace_24 rfl rfl ?_
      obtain ⟨v8, ev8, h⟩ := HI.bind h
      obtain ⟨v7, ev7, h⟩ := HI.bind h
      refine cgV_i (Y' := Y_X5_paceOf) (kc2 := 0) (ks2 := 0) dX6_pace_25 ml_X6_119 ce_X5_paceOf (t := 5) rfl (by decide) ⟨(Nat.le_of_ble_eq_true rfl), (Nat.le_of_ble_eq_true rfl)⟩ ⟨(Nat.le_of_ble_eq_true rfl), (Nat.le_of_ble_eq_true rfl)⟩ rfl rfl (chkT_eq ev8) (ct_X5_paceOf ev7) rfl rfl (Nat.le_of_ble_eq_true rfl) ?_
      refine wp_istore_n (i := 3) dX6_pace_28 rfl rfl rfl ?_
      refine wp_iload_n (i := 3) dX6_pace_29 rfl rfl ?_
      refine wp_iload_n (i := 2) dX6_pace_30 rfl rfl ?_
      refine wp_icmp_ne (tgt := 37) dX6_pace_31 (by decide) (fun c9 => ?_) (fun c9 => ?_)
      · have h := HI.f c9 h
        refine wp_aload_n (i := 0) dX6_pace_37 rfl rfl ?_
        obtain ⟨v10, ev10, h⟩ := HI.bind h
        refine wp_getR cl6 (f := 3) (by decide) rfl fl_X6_31 dX6_pace_38 ev10 ?_
        refine wp_aload_n (i := 0) dX6_pace_41 rfl rfl ?_
        obtain ⟨v11, ev11, h⟩ := HI.bind h
        refine wp_getR cl6 (f := 1) (by decide) rfl fl_X6_19 dX6_pace_42 ev11 ?_
        obtain ⟨v13, ev13, h⟩ := HI.bind h
        obtain ⟨v12, ev12, h⟩ := HI.bind h
        refine cgV_v (Y' := Y_X2_put) (kc2 := 0) (ks2 := 0) dX6_pace_45 ml_X6_139 ce_X2_put (t := 2) rfl (by decide) ⟨(Nat.le_of_ble_eq_true rfl), (Nat.le_of_ble_eq_true rfl)⟩ ⟨(Nat.le_of_ble_eq_true rfl), (Nat.le_of_ble_eq_true rfl)⟩ rfl rfl (chkT_eq ev13) (ct_X2_put ev12) rfl rfl (Nat.le_of_ble_eq_true rfl) ?_
        refine wp_aload_n (i := 0) dX6_pace_48 rfl rfl ?_
        obtain ⟨v14, ev14, h⟩ := HI.bind h
        refine wp_getR cl6 (f := 1) (by decide) rfl fl_X6_19 dX6_pace_49 ev14 ?_
        refine wp_iload_n (i := 1) dX6_pace_52 rfl rfl ?_
        refine wp_iload_n (i := 2) dX6_pace_53 rfl rfl ?_
        obtain ⟨v16, ev16, h⟩ := HI.bind h
        obtain ⟨v15, ev15, h⟩ := HI.bind h
        refine cgV_v (Y' := Y_X5_setPace) (kc2 := 0) (ks2 := 0) dX6_pace_54 ml_X6_154 ce_X5_setPace (t := 5) rfl (by decide) ⟨(Nat.le_of_ble_eq_true rfl), (Nat.le_of_ble_eq_true rfl)⟩ ⟨(Nat.le_of_ble_eq_true rfl), (Nat.le_of_ble_eq_true rfl)⟩ rfl rfl (chkT_eq ev16) (ct_X5_setPace ev15) rfl rfl (Nat.le_of_ble_eq_true rfl) ?_
        refine wp_iload_n (i := 3) dX6_pace_57 rfl rfl ?_
        exact wp_iret dX6_pace_58 rfl rfl (Nat.le_of_ble_eq_true rfl) (Nat.le_of_ble_eq_true rfl) (HI.some h)
      · have h := HI.t c9 h
        refine wp_bipush (v := -2) dX6_pace_34 (by decide) ?_
        exact wp_iret dX6_pace_36 rfl rfl (Nat.le_of_ble_eq_true rfl) (Nat.le_of_ble_eq_true rfl) (HI.some h)
    · have h := HI.f c5 h
      refine wp_iconst (v := -1) dX6_pace_18 (by decide) ?_
      exact wp_iret dX6_pace_19 rfl rfl (Nat.le_of_ble_eq_true rfl) (Nat.le_of_ble_eq_true rfl) (HI.some h)
theorem ct_X6_undo {D : DT} {l : Launch} {m : Mem} {x0 : Nat} {r : (Int32 × Mem)} (h : F_X6_undo x0 m = some r) : Ct D l Y_X6_undo [.ref x0] m (fun (v : Option Value) (N : Mem) => v = some (Value.int r.1) ∧ N = r.2) := by
  refine ct_of (by decide) (by rfl) (ls0 := [.ref x0]) rfl rfl ?_
  have h : HI (F_X6_undo x0 m) (fun (v : Option Value) (N : Mem) => v = some (Value.int r.1) ∧ N = r.2) := ⟨r.1, r.2, h, rfl, rfl⟩
  revert h
  generalize (fun (v : Option Value) (N : Mem) => v = some (Value.int r.1) ∧ N = r.2) = post
  intro h
  refine wp_aload_n (i := 0) dX6_undo_0 rfl rfl ?_
  obtain ⟨v1, ev1, h⟩ := HI.bind h
  refine wp_getR cl6 (f := 3) (by decide) rfl fl_X6_31 dX6_undo_1 ev1 ?_
  refine wp_aload_n (i := 0) dX6_undo_4 rfl rfl ?_
  obtain ⟨v2, ev2, h⟩ := HI.bind h
  refine wp_getR cl6 (f := 1) (by decide) rfl fl_X6_19 dX6_undo_5 ev2 ?_
  obtain ⟨v4, ev4, h⟩ := HI.bind h
  obtain ⟨v3, ev3, h⟩ := HI.bind h
  refine cgV_i (Y' := Y_X2_takeInto) (kc2 := 0) (ks2 := 0) dX6_undo_8 ml_X6_158 ce_X2_takeInto (t := 2) rfl (by decide) ⟨(Nat.le_of_ble_eq_true rfl), (Nat.le_of_ble_eq_true rfl)⟩ ⟨(Nat.le_of_ble_eq_true rfl), (Nat.le_of_ble_eq_true rfl)⟩ rfl rfl (chkT_eq ev4) (ct_X2_takeInto ev3) rfl rfl (Nat.le_of_ble_eq_true rfl) ?_
  refine wp_if_eq (tgt := 24) dX6_undo_11 (by decide) (fun c5 => ?_) (fun c5 => ?_)
  · have h := HI.t c5 h
    refine wp_bipush (v := -2) dX6_undo_24 (by decide) ?_
    exact wp_iret dX6_undo_26 rfl rfl (Nat.le_of_ble_eq_true rfl) (Nat.le_of_ble_eq_true rfl) (HI.some h)
  · have h := HI.f c5 h
    refine wp_aload_n (i := 0) dX6_undo_14 rfl rfl ?_
    obtain ⟨v6, ev6, h⟩ := HI.bind h
    refine wp_getR cl6 (f := 3) (by decide) rfl fl_X6_31 dX6_undo_15 ev6 ?_
    obtain ⟨v8, ev8, h⟩ := HI.bind h
    obtain ⟨v7, ev7, h⟩ := HI.bind h
    refine cgV_i (Y' := Y_X2_size) (kc2 := 0) (ks2 := 0) dX6_undo_18 ml_X6_162 ce_X2_size (t := 2) rfl (by decide) ⟨(Nat.le_of_ble_eq_true rfl), (Nat.le_of_ble_eq_true rfl)⟩ ⟨(Nat.le_of_ble_eq_true rfl), (Nat.le_of_ble_eq_true rfl)⟩ rfl rfl (chkT_eq ev8) (ct_X2_size ev7) rfl rfl (Nat.le_of_ble_eq_true rfl) ?_
    refine wp_goto (tgt := 26) dX6_undo_21 (by decide) ?_
    exact wp_iret dX6_undo_26 rfl rfl (Nat.le_of_ble_eq_true rfl) (Nat.le_of_ble_eq_true rfl) (HI.some h)
theorem ct_X6_behind {D : DT} {l : Launch} {m : Mem} {x0 : Nat} {x1 : Int32} {x2 : Int32} {r : Int32} (h : F_X6_behind x0 x1 x2 m = some r) : Ct D l Y_X6_behind [.ref x0, .int x1, .int x2] m (fun (v : Option Value) (N : Mem) => v = some (Value.int r) ∧ N = m) := by
  refine ct_of (by decide) (by rfl) (ls0 := [.ref x0, .int x1, .int x2]) rfl rfl ?_
  have h : PI m (F_X6_behind x0 x1 x2 m) (fun (v : Option Value) (N : Mem) => v = some (Value.int r) ∧ N = m) := ⟨r, h, rfl, rfl⟩
  revert h
  generalize (fun (v : Option Value) (N : Mem) => v = some (Value.int r) ∧ N = m) = post
  intro h
  refine wp_iload_n (i := 1) dX6_behind_0 rfl rfl ?_
  refine wp_iconst (v := 0) dX6_behind_1 (by decide) ?_
  refine wp_bipush (v := 60) dX6_behind_2 (by decide) ?_
  obtain ⟨v1, ev1, h⟩ := PI.bind h
  refine cgS_i (Y' := Y_X6_outside) (kc2 := 0) (ks2 := 0) dX6_behind_4 ml_X6_73 ce_X6_outside ⟨(Nat.le_of_ble_eq_true rfl), (Nat.le_of_ble_eq_true rfl)⟩ ⟨(Nat.le_of_ble_eq_true rfl), (Nat.le_of_ble_eq_true rfl)⟩ rfl rfl (ct_X6_outside ev1) rfl rfl (Nat.le_of_ble_eq_true rfl) ?_
  refine wp_if_ne (tgt := 18) dX6_behind_7 (by decide) (fun c2 => ?_) (fun c2 => ?_)
  · have h := PI.f c2 h
    refine wp_iconst (v := -1) dX6_behind_18 (by decide) ?_
    exact wp_iret dX6_behind_19 rfl rfl (Nat.le_of_ble_eq_true rfl) (Nat.le_of_ble_eq_true rfl) (PI.some h)
  · have h := PI.t c2 h
    refine wp_aload_n (i := 0) dX6_behind_10 rfl rfl ?_
    refine wp_iload_n (i := 2) dX6_behind_11 rfl rfl ?_
    obtain ⟨v4, ev4, h⟩ := PI.bind h
    obtain ⟨v3, ev3, h⟩ := PI.bind h
    refine cgV_i (Y' := Y_X6_noPerson) (kc2 := 0) (ks2 := 0) dX6_behind_12 ml_X6_102 ce_X6_noPerson (t := 6) rfl (by decide) ⟨(Nat.le_of_ble_eq_true rfl), (Nat.le_of_ble_eq_true rfl)⟩ ⟨(Nat.le_of_ble_eq_true rfl), (Nat.le_of_ble_eq_true rfl)⟩ rfl rfl (chkT_eq ev4) (ct_X6_noPerson ev3) rfl rfl (Nat.le_of_ble_eq_true rfl) ?_
    refine wp_if_eq (tgt := 20) dX6_behind_15 (by decide) (fun c5 => ?_) (fun c5 => ?_)
    · have h := PI.t c5 h
      refine wp_aload_n (i := 0) dX6_behind_20 rfl rfl ?_
      obtain ⟨v6, ev6, h⟩ := PI.bind h
      refine wp_getR cl6 (f := 1) (by decide) rfl fl_X6_19 dX6_behind_21 ev6 ?_
      refine wp_iload_n (i := 1) dX6_behind_24 rfl rfl ?_
      refine wp_iload_n (i := 2) dX6_behind_25 rfl rfl ?_
      refine wp_aload_n (i := 0) dX6_behind_26 rfl rfl ?_
      obtain ⟨v7, ev7, h⟩ := PI.bind h
      refine wp_getR cl6 (f := 1) (by decide) rfl fl_X6_19 dX6_behind_27 ev7 ?_
      refine wp_iload_n (i := 2) dX6_behind_30 rfl rfl ?_
      obtain ⟨v9, ev9, h⟩ := PI.bind h
      obtain ⟨v8, ev8, h⟩ := PI.bind h
      refine cgV_i (Y' := Y_X5_kindOf) (kc2 := 0) (ks2 := 0) dX6_behind_31 ml_X6_106 ce_X5_kindOf (t := 5) rfl (by decide) ⟨(Nat.le_of_ble_eq_true rfl), (Nat.le_of_ble_eq_true rfl)⟩ ⟨(Nat.le_of_ble_eq_true rfl), (Nat.le_of_ble_eq_true rfl)⟩ rfl rfl (chkT_eq ev9) (ct_X5_kindOf ev8) rfl rfl (Nat.le_of_ble_eq_true rfl) ?_
      refine wp_aload_n (i := 0) dX6_behind_34 rfl rfl ?_
      obtain ⟨v10, ev10, h⟩ := PI.bind h
      refine wp_getR cl6 (f := 1) (by decide) rfl fl_X6_19 dX6_behind_35 ev10 ?_
      refine wp_iload_n (i := 2) dX6_behind_38 rfl rfl ?_
      obtain ⟨v12, ev12, h⟩ := PI.bind h
      obtain ⟨v11, ev11, h⟩ := PI.bind h
      refine cgV_i (Y' := Y_X5_paceOf) (kc2 := 0) (ks2 := 0) dX6_behind_39 ml_X6_119 ce_X5_paceOf (t := 5) rfl (by decide) ⟨(Nat.le_of_ble_eq_true rfl), (Nat.le_of_ble_eq_true rfl)⟩ ⟨(Nat.le_of_ble_eq_true rfl), (Nat.le_of_ble_eq_true rfl)⟩ rfl rfl (chkT_eq ev12) (ct_X5_paceOf ev11) rfl rfl (Nat.le_of_ble_eq_true rfl) ?_
      obtain ⟨v14, ev14, h⟩ := PI.bind h
      obtain ⟨v13, ev13, h⟩ := PI.bind h
      refine cgV_i (Y' := Y_X5_yardBehind) (kc2 := 0) (ks2 := 0) dX6_behind_42 ml_X6_163 ce_X5_yardBehind (t := 5) rfl (by decide) ⟨(Nat.le_of_ble_eq_true rfl), (Nat.le_of_ble_eq_true rfl)⟩ ⟨(Nat.le_of_ble_eq_true rfl), (Nat.le_of_ble_eq_true rfl)⟩ rfl rfl (chkT_eq ev14) (ct_X5_yardBehind ev13) rfl rfl (Nat.le_of_ble_eq_true rfl) ?_
      exact wp_iret dX6_behind_45 rfl rfl (Nat.le_of_ble_eq_true rfl) (Nat.le_of_ble_eq_true rfl) (PI.some h)
    · have h := PI.f c5 h
      refine wp_iconst (v := -1) dX6_behind_18 (by decide) ?_
      exact wp_iret dX6_behind_19 rfl rfl (Nat.le_of_ble_eq_true rfl) (Nat.le_of_ble_eq_true rfl) (PI.some h)
theorem w_X6_first_24 {D : DT} {l : Launch} {post : Option Value → Mem → Prop} : ∀ (n : Nat) (x0 : Nat) (x1 : Int32) (x2 : Int32) (x3 : Int32) (m : Mem), HI (F_X6_first_24 n x0 x1 x2 x3 m) post → WP D l Y_X6_first 0 0 24 [.ref x0, .int x1, .int x2, .int x3] [] m post := by
  intro n
  induction n with
  | zero => intro x0 x1 x2 x3 m h; exact (HI.none h).elim
  | succ n ih =>
    intro x0 x1 x2 x3 m h
    refine wp_iload_n (i := 3) dX6_first_24 rfl rfl ?_
    refine wp_bipush (v := 60) dX6_first_25 (by decide) ?_
    refine wp_icmp_gt (tgt := 58) dX6_first_27 (by decide) (fun c1 => ?_) (fun c1 => ?_)
    · have h := HI.t c1 h
      refine wp_bipush (v := -4) dX6_first_58 (by decide) ?_
      exact wp_iret dX6_first_60 rfl rfl (Nat.le_of_ble_eq_true rfl) (Nat.le_of_ble_eq_true rfl) (HI.some h)
    · have h := HI.f c1 h
      refine wp_aload_n (i := 0) dX6_first_30 rfl rfl ?_
      obtain ⟨v2, ev2, h⟩ := HI.bind h
      refine wp_getR cl6 (f := 2) (by decide) rfl fl_X6_23 dX6_first_31 ev2 ?_
      refine wp_iload_n (i := 1) dX6_first_34 rfl rfl ?_
      refine wp_iload_n (i := 2) dX6_first_35 rfl rfl ?_
      obtain ⟨v4, ev4, h⟩ := HI.bind h
      obtain ⟨v3, ev3, h⟩ := HI.bind h
      refine cgV_i (Y' := Y_X5_between) (kc2 := 0) (ks2 := 0) dX6_first_36 ml_X6_126 ce_X5_between (t := 5) rfl (by decide) ⟨(Nat.le_of_ble_eq_true rfl), (Nat.le_of_ble_eq_true rfl)⟩ ⟨(Nat.le_of_ble_eq_true rfl), (Nat.le_of_ble_eq_true rfl)⟩ rfl rfl (chkT_eq ev4) (ct_X5_between ev3) rfl rfl (Nat.le_of_ble_eq_true rfl) ?_
      refine wp_iconst (v := 2) dX6_first_39 (by decide) ?_
      refine wp_icmp_ne (tgt := 45) dX6_first_40 (by decide) (fun c5 => ?_) (fun c5 => ?_)
      · have h := HI.f c5 h
        refine wp_aload_n (i := 0) dX6_first_45 rfl rfl ?_
        obtain ⟨v6, ev6, h⟩ := HI.bind h
        refine wp_getR cl6 (f := 2) (by decide) rfl fl_X6_23 dX6_first_46 ev6 ?_
        obtain ⟨v8, ev8, h⟩ := HI.bind h
        obtain ⟨v7, ev7, h⟩ := HI.bind h
        refine cgV_v (Y' := Y_X5_goRound) (kc2 := 0) (ks2 := 0) dX6_first_49 ml_X6_167 ce_X5_goRound (t := 5) rfl (by decide) ⟨(Nat.le_of_ble_eq_true rfl), (Nat.le_of_ble_eq_true rfl)⟩ ⟨(Nat.le_of_ble_eq_true rfl), (Nat.le_of_ble_eq_true rfl)⟩ rfl rfl (chkT_eq ev8) (ct_X5_goRound ev7) rfl rfl (Nat.le_of_ble_eq_true rfl) ?_
        refine wp_iinc (v := 1) dX6_first_52 rfl (by decide) rfl rfl ?_
        refine wp_goto (tgt := 24) dX6_first_55 (by decide) ?_
        exact (ih _ _ _ _ _ h)
      · have h := HI.t c5 h
        refine wp_iload_n (i := 3) dX6_first_43 rfl rfl ?_
        exact wp_iret dX6_first_44 rfl rfl (Nat.le_of_ble_eq_true rfl) (Nat.le_of_ble_eq_true rfl) (HI.some h)
theorem ct_X6_first {D : DT} {l : Launch} {m : Mem} {x0 : Nat} {x1 : Int32} {x2 : Int32} {r : (Int32 × Mem)} (h : F_X6_first x0 x1 x2 m = some r) : Ct D l Y_X6_first [.ref x0, .int x1, .int x2] m (fun (v : Option Value) (N : Mem) => v = some (Value.int r.1) ∧ N = r.2) := by
  refine ct_of (by decide) (by rfl) (ls0 := [.ref x0, .int x1, .int x2, JK]) rfl rfl ?_
  have h : HI (F_X6_first x0 x1 x2 m) (fun (v : Option Value) (N : Mem) => v = some (Value.int r.1) ∧ N = r.2) := ⟨r.1, r.2, h, rfl, rfl⟩
  revert h
  generalize (fun (v : Option Value) (N : Mem) => v = some (Value.int r.1) ∧ N = r.2) = post
  intro h
  refine wp_aload_n (i := 0) dX6_first_0 rfl rfl ?_
  refine wp_iload_n (i := 1) dX6_first_1 rfl rfl ?_
  refine wp_iload_n (i := 2) dX6_first_2 rfl rfl ?_
  obtain ⟨v10, ev10, h⟩ := HI.bind h
  obtain ⟨v9, ev9, h⟩ := HI.bind h
  refine cgV_i (Y' := Y_X6_noPair) (kc2 := 0) (ks2 := 0) dX6_first_3 ml_X6_122 ce_X6_noPair (t := 6) rfl (by decide) ⟨(Nat.le_of_ble_eq_true rfl), (Nat.le_of_ble_eq_true rfl)⟩ ⟨(Nat.le_of_ble_eq_true rfl), (Nat.le_of_ble_eq_true rfl)⟩ rfl rfl (chkT_eq ev10) (ct_X6_noPair ev9) rfl rfl (Nat.le_of_ble_eq_true rfl) ?_
  refine wp_if_eq (tgt := 11) dX6_first_6 (by decide) (fun c11 => ?_) (fun c11 => ?_)
  · have h := HI.t c11 h
    refine wp_aload_n (i := 0) dX6_first_11 rfl rfl ?_
    obtain ⟨v12, ev12, h⟩ := HI.bind h
    refine wp_getR cl6 (f := 2) (by decide) rfl fl_X6_23 dX6_first_12 ev12 ?_
    refine wp_aload_n (i := 0) dX6_first_15 rfl rfl ?_
    obtain ⟨v13, ev13, h⟩ := HI.bind h
    refine wp_getR cl6 (f := 1) (by decide) rfl fl_X6_19 dX6_first_16 ev13 ?_
    obtain ⟨v15, ev15, h⟩ := HI.bind h
    obtain ⟨v14, ev14, h⟩ := HI.bind h
    refine cgV_v (Y' := Y_X5_become) (kc2 := 0) (ks2 := 0) dX6_first_19 ml_X6_95 ce_X5_become (t := 5) rfl (by decide) ⟨(Nat.le_of_ble_eq_true rfl), (Nat.le_of_ble_eq_true rfl)⟩ ⟨(Nat.le_of_ble_eq_true rfl), (Nat.le_of_ble_eq_true rfl)⟩ rfl rfl (chkT_eq ev15) (ct_X5_become ev14) rfl rfl (Nat.le_of_ble_eq_true rfl) ?_
    refine wp_iconst (v := 0) dX6_first_22 (by decide) ?_
    refine wp_istore_n (i := 3) dX6_first_23 rfl rfl rfl ?_
    exact (w_X6_first_24 _ _ _ _ _ _ h)
  · have h := HI.f c11 h
    refine wp_iconst (v := -1) dX6_first_9 (by decide) ?_
    exact wp_iret dX6_first_10 rfl rfl (Nat.le_of_ble_eq_true rfl) (Nat.le_of_ble_eq_true rfl) (HI.some h)
theorem ct_X6_all {D : DT} {l : Launch} {m : Mem} {x0 : Nat} {x1 : Int32} {r : (Int32 × Mem)} (h : F_X6_all x0 x1 m = some r) : Ct D l Y_X6_all [.ref x0, .int x1] m (fun (v : Option Value) (N : Mem) => v = some (Value.int r.1) ∧ N = r.2) := by
  refine ct_of (by decide) (by rfl) (ls0 := [.ref x0, .int x1]) rfl rfl ?_
  have h : HI (F_X6_all x0 x1 m) (fun (v : Option Value) (N : Mem) => v = some (Value.int r.1) ∧ N = r.2) := ⟨r.1, r.2, h, rfl, rfl⟩
  revert h
  generalize (fun (v : Option Value) (N : Mem) => v = some (Value.int r.1) ∧ N = r.2) = post
  intro h
  refine wp_iload_n (i := 1) dX6_all_0 rfl rfl ?_
  refine wp_iconst (v := 1) dX6_all_1 (by decide) ?_
  refine wp_bipush (v := 60) dX6_all_2 (by decide) ?_
  obtain ⟨v1, ev1, h⟩ := HI.bind h
  refine cgS_i (Y' := Y_X6_outside) (kc2 := 0) (ks2 := 0) dX6_all_4 ml_X6_73 ce_X6_outside ⟨(Nat.le_of_ble_eq_true rfl), (Nat.le_of_ble_eq_true rfl)⟩ ⟨(Nat.le_of_ble_eq_true rfl), (Nat.le_of_ble_eq_true rfl)⟩ rfl rfl (ct_X6_outside ev1) rfl rfl (Nat.le_of_ble_eq_true rfl) ?_
  refine wp_if_eq (tgt := 12) dX6_all_7 (by decide) (fun c2 => ?_) (fun c2 => ?_)
  · have h := HI.t c2 h
    refine wp_aload_n (i := 0) dX6_all_12 rfl rfl ?_
    obtain ⟨v3, ev3, h⟩ := HI.bind h
    refine wp_getR cl6 (f := 2) (by decide) rfl fl_X6_23 dX6_all_13 ev3 ?_
    refine wp_aload_n (i := 0) dX6_all_16 rfl rfl ?_
    obtain ⟨v4, ev4, h⟩ := HI.bind h
    refine wp_getR cl6 (f := 1) (by decide) rfl fl_X6_19 dX6_all_17 ev4 ?_
    obtain ⟨v6, ev6, h⟩ := HI.bind h
    obtain ⟨v5, ev5, h⟩ := HI.bind h
    refine cgV_v (Y' := Y_X5_become) (kc2 := 0) (ks2 := 0) dX6_all_20 ml_X6_95 ce_X5_become (t := 5) rfl (by decide) ⟨(Nat.le_of_ble_eq_true rfl), (Nat.le_of_ble_eq_true rfl)⟩ ⟨(Nat.le_of_ble_eq_true rfl), (Nat.le_of_ble_eq_true rfl)⟩ rfl rfl (chkT_eq ev6) (ct_X5_become ev5) rfl rfl (Nat.le_of_ble_eq_true rfl) ?_
    refine wp_aload_n (i := 0) dX6_all_23 rfl rfl ?_
    obtain ⟨v7, ev7, h⟩ := HI.bind h
    refine wp_getR cl6 (f := 2) (by decide) rfl fl_X6_23 dX6_all_24 ev7 ?_
    refine wp_iload_n (i := 1) dX6_all_27 rfl rfl ?_
    obtain ⟨v9, ev9, h⟩ := HI.bind h
    obtain ⟨v8, ev8, h⟩ := HI.bind h
    refine cgV_i (Y' := Y_X5_letDaysGoBy) (kc2 := 0) (ks2 := 0) dX6_all_28 ml_X6_142 ce_X5_letDaysGoBy (t := 5) rfl (by decide) ⟨(Nat.le_of_ble_eq_true rfl), (Nat.le_of_ble_eq_true rfl)⟩ ⟨(Nat.le_of_ble_eq_true rfl), (Nat.le_of_ble_eq_true rfl)⟩ rfl rfl (chkT_eq ev9) (ct_X5_letDaysGoBy ev8) rfl rfl (Nat.le_of_ble_eq_true rfl) ?_
    exact wp_iret dX6_all_31 rfl rfl (Nat.le_of_ble_eq_true rfl) (Nat.le_of_ble_eq_true rfl) (HI.some h)
  · have h := HI.f c2 h
    refine wp_iconst (v := -1) dX6_all_10 (by decide) ?_
    exact wp_iret dX6_all_11 rfl rfl (Nat.le_of_ble_eq_true rfl) (Nat.le_of_ble_eq_true rfl) (HI.some h)
theorem w_X6_paces_108 {D : DT} {l : Launch} {post : Option Value → Mem → Prop} {m : Mem} {r68 : Nat → Int32 → Int32 → Int32 → Int32 → Int32 → Option Int32} (hr68 : ∀ (x0 : Nat) (x1 : Int32) (x3 : Int32) (x4 : Int32) (x5 : Int32) (x6 : Int32), PI m (r68 x0 x1 x3 x4 x5 x6) post → WP D l Y_X6_paces 0 0 68 [.ref x0, .int x1, JK, .int x3, .int x4, .int x5, .int x6] [] m post) {x0 : Nat} {x1 : Int32} {x3 : Int32} {x4 : Int32} {x5 : Int32} {x6 : Int32} (h : PI m (F_X6_paces_108 m r68 x0 x1 x3 x4 x5 x6) post) : WP D l Y_X6_paces 0 0 108 [.ref x0, .int x1, JK, .int x3, .int x4, .int x5, .int x6] [] m post := by
  refine wp_iinc (v := 1) dX6_paces_108 rfl (by decide) rfl rfl ?_
  refine wp_goto (tgt := 68) dX6_paces_111 (by decide) ?_
  exact (hr68 _ _ _ _ _ _ h)
theorem w_X6_paces_68 {D : DT} {l : Launch} {post : Option Value → Mem → Prop} {m : Mem} : ∀ (n : Nat) (x0 : Nat) (x1 : Int32) (x3 : Int32) (x4 : Int32) (x5 : Int32) (x6 : Int32), PI m (F_X6_paces_68 m n x0 x1 x3 x4 x5 x6) post → WP D l Y_X6_paces 0 0 68 [.ref x0, .int x1, JK, .int x3, .int x4, .int x5, .int x6] [] m post := by
  intro n
  induction n with
  | zero => intro x0 x1 x3 x4 x5 x6 h; exact (PI.none h).elim
  | succ n ih =>
    intro x0 x1 x3 x4 x5 x6 h
    refine wp_iload dX6_paces_68 rfl ?_
    refine wp_bipush (v := 12) dX6_paces_70 (by decide) ?_
    refine wp_icmp_ge (tgt := 114) dX6_paces_72 (by decide) (fun c1 => ?_) (fun c1 => ?_)
    · have h := PI.t c1 h
      refine wp_iload dX6_paces_114 rfl ?_
      exact wp_iret dX6_paces_116 rfl rfl (Nat.le_of_ble_eq_true rfl) (Nat.le_of_ble_eq_true rfl) (PI.some h)
    · have h := PI.f c1 h
      refine wp_aload_n (i := 0) dX6_paces_75 rfl rfl ?_
      obtain ⟨v2, ev2, h⟩ := PI.bind h
      refine wp_getR cl6 (f := 1) (by decide) rfl fl_X6_19 dX6_paces_76 ev2 ?_
      refine wp_iload_n (i := 3) dX6_paces_79 rfl rfl ?_
      refine wp_iload_n (i := 1) dX6_paces_80 rfl rfl ?_
      refine wp_aload_n (i := 0) dX6_paces_81 rfl rfl ?_
      obtain ⟨v3, ev3, h⟩ := PI.bind h
      refine wp_getR cl6 (f := 1) (by decide) rfl fl_X6_19 dX6_paces_82 ev3 ?_
      refine wp_iload_n (i := 1) dX6_paces_85 rfl rfl ?_
      obtain ⟨v5, ev5, h⟩ := PI.bind h
      obtain ⟨v4, ev4, h⟩ := PI.bind h
      refine cgV_i (Y' := Y_X5_kindOf) (kc2 := 0) (ks2 := 0) dX6_paces_86 ml_X6_106 ce_X5_kindOf (t := 5) rfl (by decide) ⟨(Nat.le_of_ble_eq_true rfl), (Nat.le_of_ble_eq_true rfl)⟩ ⟨(Nat.le_of_ble_eq_true rfl), (Nat.le_of_ble_eq_true rfl)⟩ rfl rfl (chkT_eq ev5) (ct_X5_kindOf ev4) rfl rfl (Nat.le_of_ble_eq_true rfl) ?_
      refine wp_iload dX6_paces_89 rfl ?_
      obtain ⟨v7, ev7, h⟩ := PI.bind h
      obtain ⟨v6, ev6, h⟩ := PI.bind h
      refine cgV_i (Y' := Y_X5_yardBehind) (kc2 := 0) (ks2 := 0) dX6_paces_91 ml_X6_163 ce_X5_yardBehind (t := 5) rfl (by decide) ⟨(Nat.le_of_ble_eq_true rfl), (Nat.le_of_ble_eq_true rfl)⟩ ⟨(Nat.le_of_ble_eq_true rfl), (Nat.le_of_ble_eq_true rfl)⟩ rfl rfl (chkT_eq ev7) (ct_X5_yardBehind ev6) rfl rfl (Nat.le_of_ble_eq_true rfl) ?_
      refine wp_iload dX6_paces_94 rfl ?_
      refine wp_icmp_ne (tgt := 108) dX6_paces_96 (by decide) (fun c8 => ?_) (fun c8 => ?_)
      · have h := PI.f c8 h
        exact (w_X6_paces_108 ih h)
      · have h := PI.t c8 h
        refine wp_iload dX6_paces_99 rfl ?_
        refine wp_iconst (v := 1) dX6_paces_101 (by decide) ?_
        refine wp_iload dX6_paces_102 rfl ?_
        refine wp_ishl dX6_paces_104 ?_
        refine wp_ior dX6_paces_105 ?_
        refine wp_istore dX6_paces_106 rfl rfl ?_
        exact (w_X6_paces_108 ih h)
theorem ct_X6_paces {D : DT} {l : Launch} {m : Mem} {x0 : Nat} {x1 : Int32} {x2 : Int32} {x3 : Int32} {r : Int32} (h : F_X6_paces x0 x1 x2 x3 m = some r) : Ct D l Y_X6_paces [.ref x0, .int x1, .int x2, .int x3] m (fun (v : Option Value) (N : Mem) => v = some (Value.int r) ∧ N = m) := by
  refine ct_of (by decide) (by rfl) (ls0 := [.ref x0, .int x1, .int x2, .int x3, JK, JK, JK]) rfl rfl ?_
  have h : PI m (F_X6_paces x0 x1 x2 x3 m) (fun (v : Option Value) (N : Mem) => v = some (Value.int r) ∧ N = m) := ⟨r, h, rfl, rfl⟩
  revert h
  generalize (fun (v : Option Value) (N : Mem) => v = some (Value.int r) ∧ N = m) = post
  intro h
  refine wp_aload_n (i := 0) dX6_paces_0 rfl rfl ?_
  refine wp_iload_n (i := 1) dX6_paces_1 rfl rfl ?_
  refine wp_iload_n (i := 2) dX6_paces_2 rfl rfl ?_
  obtain ⟨v10, ev10, h⟩ := PI.bind h
  obtain ⟨v9, ev9, h⟩ := PI.bind h
  refine cgV_i (Y' := Y_X6_noPair) (kc2 := 0) (ks2 := 0) dX6_paces_3 ml_X6_122 ce_X6_noPair (t := 6) rfl (by decide) ⟨(Nat.le_of_ble_eq_true rfl), (Nat.le_of_ble_eq_true rfl)⟩ ⟨(Nat.le_of_ble_eq_true rfl), (Nat.le_of_ble_eq_true rfl)⟩ rfl rfl (chkT_eq ev10) (ct_X6_noPair ev9) rfl rfl (Nat.le_of_ble_eq_true rfl) ?_
  refine wp_if_ne (tgt := 19) dX6_paces_6 (by decide) (fun c11 => ?_) (fun c11 => ?_)
  · have h := PI.f c11 h
    refine wp_iconst (v := -1) dX6_paces_19 (by decide) ?_
    exact wp_iret dX6_paces_20 rfl rfl (Nat.le_of_ble_eq_true rfl) (Nat.le_of_ble_eq_true rfl) (PI.some h)
  · have h := PI.t c11 h
    refine wp_iload_n (i := 3) dX6_paces_9 rfl rfl ?_
    refine wp_iconst (v := 1) dX6_paces_10 (by decide) ?_
    refine wp_bipush (v := 24) dX6_paces_11 (by decide) ?_
    obtain ⟨v12, ev12, h⟩ := PI.bind h
    refine cgS_i (Y' := Y_X6_outside) (kc2 := 0) (ks2 := 0) dX6_paces_13 ml_X6_73 ce_X6_outside ⟨(Nat.le_of_ble_eq_true rfl), (Nat.le_of_ble_eq_true rfl)⟩ ⟨(Nat.le_of_ble_eq_true rfl), (Nat.le_of_ble_eq_true rfl)⟩ rfl rfl (ct_X6_outside ev12) rfl rfl (Nat.le_of_ble_eq_true rfl) ?_
    refine wp_if_eq (tgt := 21) dX6_paces_16 (by decide) (fun c13 => ?_) (fun c13 => ?_)
    · have h := PI.t c13 h
      refine wp_aload_n (i := 0) dX6_paces_21 rfl rfl ?_
      obtain ⟨v14, ev14, h⟩ := PI.bind h
      refine wp_getR cl6 (f := 1) (by decide) rfl fl_X6_19 dX6_paces_22 ev14 ?_
      refine wp_iload_n (i := 1) dX6_paces_25 rfl rfl ?_
      refine wp_iload_n (i := 2) dX6_paces_26 rfl rfl ?_
      obtain ⟨v16, ev16, h⟩ := PI.bind h
      obtain ⟨v15, ev15, h⟩ := PI.bind h
      refine cgV_i (Y' := Y_X5_shareWreath) (kc2 := 0) (ks2 := 0) dX6_paces_27 ml_X6_170 ce_X5_shareWreath (t := 5) rfl (by decide) ⟨(Nat.le_of_ble_eq_true rfl), (Nat.le_of_ble_eq_true rfl)⟩ ⟨(Nat.le_of_ble_eq_true rfl), (Nat.le_of_ble_eq_true rfl)⟩ rfl rfl (chkT_eq ev16) (ct_X5_shareWreath ev15) rfl rfl (Nat.le_of_ble_eq_true rfl) ?_
      refine wp_if_ne (tgt := 35) dX6_paces_30 (by decide) (fun c17 => ?_) (fun c17 => ?_)
      · have h := PI.f c17 h
        refine wp_aload_n (i := 0) dX6_paces_35 rfl rfl ?_
        obtain ⟨v18, ev18, h⟩ := PI.bind h
        refine wp_getR cl6 (f := 1) (by decide) rfl fl_X6_19 dX6_paces_36 ev18 ?_
        refine wp_iload_n (i := 3) dX6_paces_39 rfl rfl ?_
        refine wp_iload_n (i := 2) dX6_paces_40 rfl rfl ?_
        refine wp_aload_n (i := 0) dX6_paces_41 rfl rfl ?_
        obtain ⟨v19, ev19, h⟩ := PI.bind h
        refine wp_getR cl6 (f := 1) (by decide) rfl fl_X6_19 dX6_paces_42 ev19 ?_
        refine wp_iload_n (i := 2) dX6_paces_45 rfl rfl ?_
        obtain ⟨v21, ev21, h⟩ := PI.bind h
        obtain ⟨v20, ev20, h⟩ := PI.bind h
        refine cgV_i (Y' := Y_X5_kindOf) (kc2 := 0) (ks2 := 0) dX6_paces_46 ml_X6_106 ce_X5_kindOf (t := 5) rfl (by decide) ⟨(Nat.le_of_ble_eq_true rfl), (Nat.le_of_ble_eq_true rfl)⟩ ⟨(Nat.le_of_ble_eq_true rfl), (Nat.le_of_ble_eq_true rfl)⟩ rfl rfl (chkT_eq ev21) (ct_X5_kindOf ev20) rfl rfl (Nat.le_of_ble_eq_true rfl) ?_
        refine wp_aload_n (i := 0) dX6_paces_49 rfl rfl ?_
        obtain ⟨v22, ev22, h⟩ := PI.bind h
        refine wp_getR cl6 (f := 1) (by decide) rfl fl_X6_19 dX6_paces_50 ev22 ?_
        refine wp_iload_n (i := 2) dX6_paces_53 rfl rfl ?_
        obtain ⟨v24, ev24, h⟩ := PI.bind h
        obtain ⟨v23, ev23, h⟩ := PI.bind h
        refine cgV_i (Y' := Y_X5_paceOf) (kc2 := 0) (ks2 := 0) dX6_paces_54 ml_X6_119 ce_X5_paceOf (t := 5) rfl (by decide) ⟨(Nat.le_of_ble_eq_true rfl), (Nat.le_of_ble_eq_true rfl)⟩ ⟨(Nat.le_of_ble_eq_true rfl), (Nat.le_of_ble_eq_true rfl)⟩ rfl rfl (chkT_eq ev24) (ct_X5_paceOf ev23) rfl rfl (Nat.le_of_ble_eq_true rfl) ?_
        obtain ⟨v26, ev26, h⟩ := PI.bind h
        obtain ⟨v25, ev25, h⟩ := PI.bind h
        refine cgV_i (Y' := Y_X5_yardBehind) (kc2 := 0) (ks2 := 0) dX6_paces_57 ml_X6_163 ce_X5_yardBehind (t := 5) rfl (by decide) ⟨(Nat.le_of_ble_eq_true rfl), (Nat.le_of_ble_eq_true rfl)⟩ ⟨(Nat.le_of_ble_eq_true rfl), (Nat.le_of_ble_eq_true rfl)⟩ rfl rfl (chkT_eq ev26) (ct_X5_yardBehind ev25) rfl rfl (Nat.le_of_ble_eq_true rfl) ?_
        refine wp_istore dX6_paces_60 rfl rfl ?_
        refine wp_iconst (v := 0) dX6_paces_62 (by decide) ?_
        refine wp_istore dX6_paces_63 rfl rfl ?_
        refine wp_iconst (v := 0) dX6_paces_65 (by decide) ?_
        refine wp_istore dX6_paces_66 rfl rfl ?_
        exact wp_weak [true, true, false, true, true, true, true] (w_X6_paces_68 _ _ _ _ _ _ _ h)
      · have h := PI.t c17 h
        refine wp_iconst (v := 0) dX6_paces_33 (by decide) ?_
        exact wp_iret dX6_paces_34 rfl rfl (Nat.le_of_ble_eq_true rfl) (Nat.le_of_ble_eq_true rfl) (PI.some h)
    · have h := PI.f c13 h
      refine wp_iconst (v := -1) dX6_paces_19 (by decide) ?_
      exact wp_iret dX6_paces_20 rfl rfl (Nat.le_of_ble_eq_true rfl) (Nat.le_of_ble_eq_true rfl) (PI.some h)
theorem w_X6_widthsMet_69 {D : DT} {l : Launch} {post : Option Value → Mem → Prop} {r15 : Nat → Int32 → Int32 → Int32 → Mem → Option (Int32 × Mem)} {r24 : Nat → Int32 → Int32 → Int32 → Int32 → Mem → Option (Int32 × Mem)} (hr15 : ∀ (x0 : Nat) (x1 : Int32) (x2 : Int32) (x3 : Int32) (m : Mem), HI (r15 x0 x1 x2 x3 m) post → WP D l Y_X6_widthsMet 0 0 15 [.ref x0, .int x1, .int x2, .int x3, JK] [] m post) (hr24 : ∀ (x0 : Nat) (x1 : Int32) (x2 : Int32) (x3 : Int32) (x4 : Int32) (m : Mem), HI (r24 x0 x1 x2 x3 x4 m) post → WP D l Y_X6_widthsMet 0 0 24 [.ref x0, .int x1, .int x2, .int x3, .int x4] [] m post) {x0 : Nat} {x1 : Int32} {x2 : Int32} {x3 : Int32} {x4 : Int32} {m : Mem} (h : HI (F_X6_widthsMet_69 r15 r24 x0 x1 x2 x3 x4 m) post) : WP D l Y_X6_widthsMet 0 0 69 [.ref x0, .int x1, .int x2, .int x3, .int x4] [] m post := by
  refine wp_iinc (v := 1) dX6_widthsMet_69 rfl (by decide) rfl rfl ?_
  refine wp_goto (tgt := 24) dX6_widthsMet_72 (by decide) ?_
  exact (hr24 _ _ _ _ _ _ h)
theorem w_X6_widthsMet_24 {D : DT} {l : Launch} {post : Option Value → Mem → Prop} {r15 : Nat → Int32 → Int32 → Int32 → Mem → Option (Int32 × Mem)} (hr15 : ∀ (x0 : Nat) (x1 : Int32) (x2 : Int32) (x3 : Int32) (m : Mem), HI (r15 x0 x1 x2 x3 m) post → WP D l Y_X6_widthsMet 0 0 15 [.ref x0, .int x1, .int x2, .int x3, JK] [] m post) : ∀ (n : Nat) (x0 : Nat) (x1 : Int32) (x2 : Int32) (x3 : Int32) (x4 : Int32) (m : Mem), HI (F_X6_widthsMet_24 r15 n x0 x1 x2 x3 x4 m) post → WP D l Y_X6_widthsMet 0 0 24 [.ref x0, .int x1, .int x2, .int x3, .int x4] [] m post := by
  intro n
  induction n with
  | zero => intro x0 x1 x2 x3 x4 m h; exact (HI.none h).elim
  | succ n ih =>
    intro x0 x1 x2 x3 x4 m h
    refine wp_iload dX6_widthsMet_24 rfl ?_
    refine wp_aload_n (i := 0) dX6_widthsMet_26 rfl rfl ?_
    obtain ⟨v1, ev1, h⟩ := HI.bind h
    refine wp_getR cl6 (f := 2) (by decide) rfl fl_X6_23 dX6_widthsMet_27 ev1 ?_
    obtain ⟨v3, ev3, h⟩ := HI.bind h
    obtain ⟨v2, ev2, h⟩ := HI.bind h
    refine cgV_i (Y' := Y_X5_size) (kc2 := 0) (ks2 := 0) dX6_widthsMet_30 ml_X6_92 ce_X5_size (t := 5) rfl (by decide) ⟨(Nat.le_of_ble_eq_true rfl), (Nat.le_of_ble_eq_true rfl)⟩ ⟨(Nat.le_of_ble_eq_true rfl), (Nat.le_of_ble_eq_true rfl)⟩ rfl rfl (chkT_eq ev3) (ct_X5_size ev2) rfl rfl (Nat.le_of_ble_eq_true rfl) ?_
    refine wp_icmp_ge (tgt := 75) dX6_widthsMet_33 (by decide) (fun c4 => ?_) (fun c4 => ?_)
    · have h := HI.t c4 h
      refine wp_aload_n (i := 0) dX6_widthsMet_75 rfl rfl ?_
      obtain ⟨v5, ev5, h⟩ := HI.bind h
      refine wp_getR cl6 (f := 2) (by decide) rfl fl_X6_23 dX6_widthsMet_76 ev5 ?_
      obtain ⟨v7, ev7, h⟩ := HI.bind h
      obtain ⟨v6, ev6, h⟩ := HI.bind h
      refine cgV_v (Y' := Y_X5_goRound) (kc2 := 0) (ks2 := 0) dX6_widthsMet_79 ml_X6_167 ce_X5_goRound (t := 5) rfl (by decide) ⟨(Nat.le_of_ble_eq_true rfl), (Nat.le_of_ble_eq_true rfl)⟩ ⟨(Nat.le_of_ble_eq_true rfl), (Nat.le_of_ble_eq_true rfl)⟩ rfl rfl (chkT_eq ev7) (ct_X5_goRound ev6) rfl rfl (Nat.le_of_ble_eq_true rfl) ?_
      refine wp_iinc (v := 1) dX6_widthsMet_82 rfl (by decide) rfl rfl ?_
      refine wp_goto (tgt := 15) dX6_widthsMet_85 (by decide) ?_
      exact wp_weak [true, true, true, true, false] (hr15 _ _ _ _ _ h)
    · have h := HI.f c4 h
      refine wp_iload dX6_widthsMet_36 rfl ?_
      refine wp_iload_n (i := 1) dX6_widthsMet_38 rfl rfl ?_
      refine wp_icmp_eq (tgt := 69) dX6_widthsMet_39 (by decide) (fun c8 => ?_) (fun c8 => ?_)
      · have h := HI.t c8 h
        exact (w_X6_widthsMet_69 hr15 ih h)
      · have h := HI.f c8 h
        refine wp_aload_n (i := 0) dX6_widthsMet_42 rfl rfl ?_
        obtain ⟨v9, ev9, h⟩ := HI.bind h
        refine wp_getR cl6 (f := 2) (by decide) rfl fl_X6_23 dX6_widthsMet_43 ev9 ?_
        refine wp_iload_n (i := 1) dX6_widthsMet_46 rfl rfl ?_
        refine wp_iload dX6_widthsMet_47 rfl ?_
        obtain ⟨v11, ev11, h⟩ := HI.bind h
        obtain ⟨v10, ev10, h⟩ := HI.bind h
        refine cgV_i (Y' := Y_X5_between) (kc2 := 0) (ks2 := 0) dX6_widthsMet_49 ml_X6_126 ce_X5_between (t := 5) rfl (by decide) ⟨(Nat.le_of_ble_eq_true rfl), (Nat.le_of_ble_eq_true rfl)⟩ ⟨(Nat.le_of_ble_eq_true rfl), (Nat.le_of_ble_eq_true rfl)⟩ rfl rfl (chkT_eq ev11) (ct_X5_between ev10) rfl rfl (Nat.le_of_ble_eq_true rfl) ?_
        refine wp_if_eq (tgt := 69) dX6_widthsMet_52 (by decide) (fun c12 => ?_) (fun c12 => ?_)
        · have h := HI.t c12 h
          exact (w_X6_widthsMet_69 hr15 ih h)
        · have h := HI.f c12 h
          refine wp_iload_n (i := 2) dX6_widthsMet_55 rfl rfl ?_
          refine wp_iconst (v := 1) dX6_widthsMet_56 (by decide) ?_
          refine wp_aload_n (i := 0) dX6_widthsMet_57 rfl rfl ?_
          obtain ⟨v13, ev13, h⟩ := HI.bind h
          refine wp_getR cl6 (f := 2) (by decide) rfl fl_X6_23 dX6_widthsMet_58 ev13 ?_
          refine wp_iload dX6_widthsMet_61 rfl ?_
          obtain ⟨v15, ev15, h⟩ := HI.bind h
          obtain ⟨v14, ev14, h⟩ := HI.bind h
          refine cgV_i (Y' := Y_X5_widthOf) (kc2 := 0) (ks2 := 0) dX6_widthsMet_63 ml_X6_113 ce_X5_widthOf (t := 5) rfl (by decide) ⟨(Nat.le_of_ble_eq_true rfl), (Nat.le_of_ble_eq_true rfl)⟩ ⟨(Nat.le_of_ble_eq_true rfl), (Nat.le_of_ble_eq_true rfl)⟩ rfl rfl (chkT_eq ev15) (ct_X5_widthOf ev14) rfl rfl (Nat.le_of_ble_eq_true rfl) ?_
          refine wp_ishl dX6_widthsMet_66 ?_
          refine wp_ior dX6_widthsMet_67 ?_
          refine wp_istore_n (i := 2) dX6_widthsMet_68 rfl rfl rfl ?_
          exact (w_X6_widthsMet_69 hr15 ih h)
theorem w_X6_widthsMet_15 {D : DT} {l : Launch} {post : Option Value → Mem → Prop} : ∀ (n : Nat) (x0 : Nat) (x1 : Int32) (x2 : Int32) (x3 : Int32) (m : Mem), HI (F_X6_widthsMet_15 n x0 x1 x2 x3 m) post → WP D l Y_X6_widthsMet 0 0 15 [.ref x0, .int x1, .int x2, .int x3, JK] [] m post := by
  intro n
  induction n with
  | zero => intro x0 x1 x2 x3 m h; exact (HI.none h).elim
  | succ n ih =>
    intro x0 x1 x2 x3 m h
    refine wp_iload_n (i := 3) dX6_widthsMet_15 rfl rfl ?_
    refine wp_bipush (v := 24) dX6_widthsMet_16 (by decide) ?_
    refine wp_icmp_gt (tgt := 88) dX6_widthsMet_18 (by decide) (fun c16 => ?_) (fun c16 => ?_)
    · have h := HI.t c16 h
      refine wp_iload_n (i := 2) dX6_widthsMet_88 rfl rfl ?_
      exact wp_iret dX6_widthsMet_89 rfl rfl (Nat.le_of_ble_eq_true rfl) (Nat.le_of_ble_eq_true rfl) (HI.some h)
    · have h := HI.f c16 h
      refine wp_iconst (v := 0) dX6_widthsMet_21 (by decide) ?_
      refine wp_istore dX6_widthsMet_22 rfl rfl ?_
      exact (w_X6_widthsMet_24 ih _ _ _ _ _ _ _ h)
theorem ct_X6_widthsMet {D : DT} {l : Launch} {m : Mem} {x0 : Nat} {x1 : Int32} {r : (Int32 × Mem)} (h : F_X6_widthsMet x0 x1 m = some r) : Ct D l Y_X6_widthsMet [.ref x0, .int x1] m (fun (v : Option Value) (N : Mem) => v = some (Value.int r.1) ∧ N = r.2) := by
  refine ct_of (by decide) (by rfl) (ls0 := [.ref x0, .int x1, JK, JK, JK]) rfl rfl ?_
  have h : HI (F_X6_widthsMet x0 x1 m) (fun (v : Option Value) (N : Mem) => v = some (Value.int r.1) ∧ N = r.2) := ⟨r.1, r.2, h, rfl, rfl⟩
  revert h
  generalize (fun (v : Option Value) (N : Mem) => v = some (Value.int r.1) ∧ N = r.2) = post
  intro h
  refine wp_aload_n (i := 0) dX6_widthsMet_0 rfl rfl ?_
  obtain ⟨v17, ev17, h⟩ := HI.bind h
  refine wp_getR cl6 (f := 2) (by decide) rfl fl_X6_23 dX6_widthsMet_1 ev17 ?_
  refine wp_aload_n (i := 0) dX6_widthsMet_4 rfl rfl ?_
  obtain ⟨v18, ev18, h⟩ := HI.bind h
  refine wp_getR cl6 (f := 1) (by decide) rfl fl_X6_19 dX6_widthsMet_5 ev18 ?_
  obtain ⟨v20, ev20, h⟩ := HI.bind h
  obtain ⟨v19, ev19, h⟩ := HI.bind h
  refine cgV_v (Y' := Y_X5_become) (kc2 := 0) (ks2 := 0) dX6_widthsMet_8 ml_X6_95 ce_X5_become (t := 5) rfl (by decide) ⟨(Nat.le_of_ble_eq_true rfl), (Nat.le_of_ble_eq_true rfl)⟩ ⟨(Nat.le_of_ble_eq_true rfl), (Nat.le_of_ble_eq_true rfl)⟩ rfl rfl (chkT_eq ev20) (ct_X5_become ev19) rfl rfl (Nat.le_of_ble_eq_true rfl) ?_
  refine wp_iconst (v := 0) dX6_widthsMet_11 (by decide) ?_
  refine wp_istore_n (i := 2) dX6_widthsMet_12 rfl rfl rfl ?_
  refine wp_iconst (v := 0) dX6_widthsMet_13 (by decide) ?_
  refine wp_istore_n (i := 3) dX6_widthsMet_14 rfl rfl rfl ?_
  exact (w_X6_widthsMet_15 _ _ _ _ _ _ h)
theorem w_X6_shy_34 {D : DT} {l : Launch} {post : Option Value → Mem → Prop} : ∀ (n : Nat) (x2 : Int32) (x3 : Int32) (m : Mem), HI (F_X6_shy_34 n x2 x3 m) post → WP D l Y_X6_shy 0 0 34 [JK, JK, .int x2, .int x3] [] m post := by
  intro n
  induction n with
  | zero => intro x2 x3 m h; exact (HI.none h).elim
  | succ n ih =>
    intro x2 x3 m h
    refine wp_iload_n (i := 3) dX6_shy_34 rfl rfl ?_
    refine wp_bipush (v := 9) dX6_shy_35 (by decide) ?_
    refine wp_icmp_gt (tgt := 56) dX6_shy_37 (by decide) (fun c1 => ?_) (fun c1 => ?_)
    · have h := HI.t c1 h
      refine wp_bipush (v := -4) dX6_shy_56 (by decide) ?_
      exact wp_iret dX6_shy_58 rfl rfl (Nat.le_of_ble_eq_true rfl) (Nat.le_of_ble_eq_true rfl) (HI.some h)
    · have h := HI.f c1 h
      refine wp_iload_n (i := 2) dX6_shy_40 rfl rfl ?_
      refine wp_iconst (v := 1) dX6_shy_41 (by decide) ?_
      refine wp_iload_n (i := 3) dX6_shy_42 rfl rfl ?_
      refine wp_ishl dX6_shy_43 ?_
      refine wp_iand dX6_shy_44 ?_
      refine wp_if_ne (tgt := 50) dX6_shy_45 (by decide) (fun c2 => ?_) (fun c2 => ?_)
      · have h := HI.f c2 h
        refine wp_iinc (v := 1) dX6_shy_50 rfl (by decide) rfl rfl ?_
        refine wp_goto (tgt := 34) dX6_shy_53 (by decide) ?_
        exact (ih _ _ _ h)
      · have h := HI.t c2 h
        refine wp_iload_n (i := 3) dX6_shy_48 rfl rfl ?_
        exact wp_iret dX6_shy_49 rfl rfl (Nat.le_of_ble_eq_true rfl) (Nat.le_of_ble_eq_true rfl) (HI.some h)
theorem ct_X6_shy {D : DT} {l : Launch} {m : Mem} {x0 : Nat} {x1 : Int32} {r : (Int32 × Mem)} (h : F_X6_shy x0 x1 m = some r) : Ct D l Y_X6_shy [.ref x0, .int x1] m (fun (v : Option Value) (N : Mem) => v = some (Value.int r.1) ∧ N = r.2) := by
  refine ct_of (by decide) (by rfl) (ls0 := [.ref x0, .int x1, JK, JK]) rfl rfl ?_
  have h : HI (F_X6_shy x0 x1 m) (fun (v : Option Value) (N : Mem) => v = some (Value.int r.1) ∧ N = r.2) := ⟨r.1, r.2, h, rfl, rfl⟩
  revert h
  generalize (fun (v : Option Value) (N : Mem) => v = some (Value.int r.1) ∧ N = r.2) = post
  intro h
  refine wp_aload_n (i := 0) dX6_shy_0 rfl rfl ?_
  refine wp_iload_n (i := 1) dX6_shy_1 rfl rfl ?_
  obtain ⟨v4, ev4, h⟩ := HI.bind h
  obtain ⟨v3, ev3, h⟩ := HI.bind h
  refine cgV_i (Y' := Y_X6_noPerson) (kc2 := 0) (ks2 := 0) dX6_shy_2 ml_X6_102 ce_X6_noPerson (t := 6) rfl (by decide) ⟨(Nat.le_of_ble_eq_true rfl), (Nat.le_of_ble_eq_true rfl)⟩ ⟨(Nat.le_of_ble_eq_true rfl), (Nat.le_of_ble_eq_true rfl)⟩ rfl rfl (chkT_eq ev4) (ct_X6_noPerson ev3) rfl rfl (Nat.le_of_ble_eq_true rfl) ?_
  refine wp_if_eq (tgt := 10) dX6_shy_5 (by decide) (fun c5 => ?_) (fun c5 => ?_)
  · have h := HI.t c5 h
    refine wp_aload_n (i := 0) dX6_shy_10 rfl rfl ?_
    obtain ⟨v6, ev6, h⟩ := HI.bind h
    refine wp_getR cl6 (f := 1) (by decide) rfl fl_X6_19 dX6_shy_11 ev6 ?_
    refine wp_iload_n (i := 1) dX6_shy_14 rfl rfl ?_
    obtain ⟨v8, ev8, h⟩ := HI.bind h
    obtain ⟨v7, ev7, h⟩ := HI.bind h
    refine cgV_i (Y' := Y_X5_doorOf) (kc2 := 0) (ks2 := 0) dX6_shy_15 ml_X6_110 ce_X5_doorOf (t := 5) rfl (by decide) ⟨(Nat.le_of_ble_eq_true rfl), (Nat.le_of_ble_eq_true rfl)⟩ ⟨(Nat.le_of_ble_eq_true rfl), (Nat.le_of_ble_eq_true rfl)⟩ rfl rfl (chkT_eq ev8) (ct_X5_doorOf ev7) rfl rfl (Nat.le_of_ble_eq_true rfl) ?_
    refine wp_bipush (v := -4) dX6_shy_18 (by decide) ?_
    refine wp_icmp_ne (tgt := 26) dX6_shy_20 (by decide) (fun c9 => ?_) (fun c9 => ?_)
    · have h := HI.f c9 h
      refine wp_aload_n (i := 0) dX6_shy_26 rfl rfl ?_
      refine wp_iload_n (i := 1) dX6_shy_27 rfl rfl ?_
      obtain ⟨v11, ev11, h⟩ := HI.bind h
      obtain ⟨v10, ev10, h⟩ := HI.bind h
      refine cgV_i (Y' := Y_X6_widthsMet) (kc2 := 0) (ks2 := 0) dX6_shy_28 ml_X6_173 ce_X6_widthsMet (t := 6) rfl (by decide) ⟨(Nat.le_of_ble_eq_true rfl), (Nat.le_of_ble_eq_true rfl)⟩ ⟨(Nat.le_of_ble_eq_true rfl), (Nat.le_of_ble_eq_true rfl)⟩ rfl rfl (chkT_eq ev11) (ct_X6_widthsMet ev10) rfl rfl (Nat.le_of_ble_eq_true rfl) ?_
      refine wp_istore_n (i := 2) dX6_shy_31 rfl rfl rfl ?_
      refine wp_iconst (v := 1) dX6_shy_32 (by decide) ?_
      refine wp_istore_n (i := 3) dX6_shy_33 rfl rfl rfl ?_
      exact wp_weak [false, false, true, true] (w_X6_shy_34 _ _ _ _ h)
    · have h := HI.t c9 h
      refine wp_bipush (v := -2) dX6_shy_23 (by decide) ?_
      exact wp_iret dX6_shy_25 rfl rfl (Nat.le_of_ble_eq_true rfl) (Nat.le_of_ble_eq_true rfl) (HI.some h)
  · have h := HI.f c5 h
    refine wp_iconst (v := -1) dX6_shy_8 (by decide) ?_
    exact wp_iret dX6_shy_9 rfl rfl (Nat.le_of_ble_eq_true rfl) (Nat.le_of_ble_eq_true rfl) (HI.some h)
theorem ct_X6_spread {D : DT} {l : Launch} {m : Mem} {x0 : Nat} {x1 : Int32} {x2 : Int32} {r : (Int32 × Mem)} (h : F_X6_spread x0 x1 x2 m = some r) : Ct D l Y_X6_spread [.ref x0, .int x1, .int x2] m (fun (v : Option Value) (N : Mem) => v = some (Value.int r.1) ∧ N = r.2) := by
  refine ct_of (by decide) (by rfl) (ls0 := [.ref x0, .int x1, .int x2, JK]) rfl rfl ?_
  have h : HI (F_X6_spread x0 x1 x2 m) (fun (v : Option Value) (N : Mem) => v = some (Value.int r.1) ∧ N = r.2) := ⟨r.1, r.2, h, rfl, rfl⟩
  revert h
  generalize (fun (v : Option Value) (N : Mem) => v = some (Value.int r.1) ∧ N = r.2) = post
  intro h
  refine wp_iload_n (i := 1) dX6_spread_0 rfl rfl ?_
  obtain ⟨v1, ev1, h⟩ := HI.bind h
  refine cgS_i (Y' := Y_X6_noDoor) (kc2 := 0) (ks2 := 0) dX6_spread_1 ml_X6_130 ce_X6_noDoor ⟨(Nat.le_of_ble_eq_true rfl), (Nat.le_of_ble_eq_true rfl)⟩ ⟨(Nat.le_of_ble_eq_true rfl), (Nat.le_of_ble_eq_true rfl)⟩ rfl rfl (ct_X6_noDoor ev1) rfl rfl (Nat.le_of_ble_eq_true rfl) ?_
  refine wp_if_ne (tgt := 24) dX6_spread_4 (by decide) (fun c2 => ?_) (fun c2 => ?_)
  · have h := HI.f c2 h
    refine wp_iconst (v := -1) dX6_spread_24 (by decide) ?_
    exact wp_iret dX6_spread_25 rfl rfl (Nat.le_of_ble_eq_true rfl) (Nat.le_of_ble_eq_true rfl) (HI.some h)
  · have h := HI.t c2 h
    refine wp_iload_n (i := 2) dX6_spread_7 rfl rfl ?_
    refine wp_iconst (v := -1) dX6_spread_8 (by decide) ?_
    refine wp_aload_n (i := 0) dX6_spread_9 rfl rfl ?_
    obtain ⟨v3, ev3, h⟩ := HI.bind h
    refine wp_getR cl6 (f := 1) (by decide) rfl fl_X6_19 dX6_spread_10 ev3 ?_
    obtain ⟨v5, ev5, h⟩ := HI.bind h
    obtain ⟨v4, ev4, h⟩ := HI.bind h
    refine cgV_i (Y' := Y_X5_size) (kc2 := 0) (ks2 := 0) dX6_spread_13 ml_X6_92 ce_X5_size (t := 5) rfl (by decide) ⟨(Nat.le_of_ble_eq_true rfl), (Nat.le_of_ble_eq_true rfl)⟩ ⟨(Nat.le_of_ble_eq_true rfl), (Nat.le_of_ble_eq_true rfl)⟩ rfl rfl (chkT_eq ev5) (ct_X5_size ev4) rfl rfl (Nat.le_of_ble_eq_true rfl) ?_
    refine wp_iconst (v := 1) dX6_spread_16 (by decide) ?_
    refine wp_isub dX6_spread_17 ?_
    obtain ⟨v6, ev6, h⟩ := HI.bind h
    refine cgS_i (Y' := Y_X6_outside) (kc2 := 0) (ks2 := 0) dX6_spread_18 ml_X6_73 ce_X6_outside ⟨(Nat.le_of_ble_eq_true rfl), (Nat.le_of_ble_eq_true rfl)⟩ ⟨(Nat.le_of_ble_eq_true rfl), (Nat.le_of_ble_eq_true rfl)⟩ rfl rfl (ct_X6_outside ev6) rfl rfl (Nat.le_of_ble_eq_true rfl) ?_
    refine wp_if_eq (tgt := 26) dX6_spread_21 (by decide) (fun c7 => ?_) (fun c7 => ?_)
    · have h := HI.t c7 h
      refine wp_aload_n (i := 0) dX6_spread_26 rfl rfl ?_
      obtain ⟨v8, ev8, h⟩ := HI.bind h
      refine wp_getR cl6 (f := 2) (by decide) rfl fl_X6_23 dX6_spread_27 ev8 ?_
      refine wp_aload_n (i := 0) dX6_spread_30 rfl rfl ?_
      obtain ⟨v9, ev9, h⟩ := HI.bind h
      refine wp_getR cl6 (f := 1) (by decide) rfl fl_X6_19 dX6_spread_31 ev9 ?_
      obtain ⟨v11, ev11, h⟩ := HI.bind h
      obtain ⟨v10, ev10, h⟩ := HI.bind h
      refine cgV_v (Y' := Y_X5_become) (kc2 := 0) (ks2 := 0) dX6_spread_34 ml_X6_95 ce_X5_become (t := 5) rfl (by decide) ⟨(Nat.le_of_ble_eq_true rfl), (Nat.le_of_ble_eq_true rfl)⟩ ⟨(Nat.le_of_ble_eq_true rfl), (Nat.le_of_ble_eq_true rfl)⟩ rfl rfl (chkT_eq ev11) (ct_X5_become ev10) rfl rfl (Nat.le_of_ble_eq_true rfl) ?_
      refine wp_aload_n (i := 0) dX6_spread_37 rfl rfl ?_
      obtain ⟨v12, ev12, h⟩ := HI.bind h
      refine wp_getR cl6 (f := 7) (by decide) rfl fl_X6_51 dX6_spread_38 ev12 ?_
      refine wp_aload_n (i := 0) dX6_spread_41 rfl rfl ?_
      obtain ⟨v13, ev13, h⟩ := HI.bind h
      refine wp_getR cl6 (f := 2) (by decide) rfl fl_X6_23 dX6_spread_42 ev13 ?_
      refine wp_iload_n (i := 1) dX6_spread_45 rfl rfl ?_
      obtain ⟨v15, ev15, h⟩ := HI.bind h
      obtain ⟨v14, ev14, h⟩ := HI.bind h
      refine cgV_i (Y' := Y_X4_choose) (kc2 := 0) (ks2 := 0) dX6_spread_46 ml_X6_176 ce_X4_choose (t := 4) rfl (by decide) ⟨(Nat.le_of_ble_eq_true rfl), (Nat.le_of_ble_eq_true rfl)⟩ ⟨(Nat.le_of_ble_eq_true rfl), (Nat.le_of_ble_eq_true rfl)⟩ rfl rfl (chkT_eq ev15) (ct_X4_choose ev14) rfl rfl (Nat.le_of_ble_eq_true rfl) ?_
      refine wp_istore_n (i := 3) dX6_spread_49 rfl rfl rfl ?_
      refine wp_iload_n (i := 2) dX6_spread_50 rfl rfl ?_
      refine wp_iconst (v := -1) dX6_spread_51 (by decide) ?_
      refine wp_icmp_ne (tgt := 59) dX6_spread_52 (by decide) (fun c16 => ?_) (fun c16 => ?_)
      · have h := HI.f c16 h
        refine wp_aload_n (i := 0) dX6_spread_59 rfl rfl ?_
        obtain ⟨v17, ev17, h⟩ := HI.bind h
        refine wp_getR cl6 (f := 7) (by decide) rfl fl_X6_51 dX6_spread_60 ev17 ?_
        refine wp_iload_n (i := 2) dX6_spread_63 rfl rfl ?_
        obtain ⟨v19, ev19, h⟩ := HI.bind h
        obtain ⟨v18, ev18, h⟩ := HI.bind h
        refine cgV_i (Y' := Y_X4_tintOf) (kc2 := 0) (ks2 := 0) dX6_spread_64 ml_X6_180 ce_X4_tintOf (t := 4) rfl (by decide) ⟨(Nat.le_of_ble_eq_true rfl), (Nat.le_of_ble_eq_true rfl)⟩ ⟨(Nat.le_of_ble_eq_true rfl), (Nat.le_of_ble_eq_true rfl)⟩ rfl rfl (chkT_eq ev19) (ct_X4_tintOf ev18) rfl rfl (Nat.le_of_ble_eq_true rfl) ?_
        exact wp_iret dX6_spread_67 rfl rfl (Nat.le_of_ble_eq_true rfl) (Nat.le_of_ble_eq_true rfl) (HI.some h)
      · have h := HI.t c16 h
        refine wp_iload_n (i := 3) dX6_spread_55 rfl rfl ?_
        refine wp_goto (tgt := 67) dX6_spread_56 (by decide) ?_
        exact wp_iret dX6_spread_67 rfl rfl (Nat.le_of_ble_eq_true rfl) (Nat.le_of_ble_eq_true rfl) (HI.some h)
    · have h := HI.f c7 h
      refine wp_iconst (v := -1) dX6_spread_24 (by decide) ?_
      exact wp_iret dX6_spread_25 rfl rfl (Nat.le_of_ble_eq_true rfl) (Nat.le_of_ble_eq_true rfl) (HI.some h)
theorem w_X6_dear_51 {D : DT} {l : Launch} {post : Option Value → Mem → Prop} {m : Mem} {r18 : Nat → Int32 → Int32 → Int32 → Int32 → Option Int32} (hr18 : ∀ (x0 : Nat) (x1 : Int32) (x2 : Int32) (x3 : Int32) (x4 : Int32), PI m (r18 x0 x1 x2 x3 x4) post → WP D l Y_X6_dear 0 0 18 [.ref x0, .int x1, .int x2, .int x3, .int x4, JK] [] m post) {x0 : Nat} {x1 : Int32} {x2 : Int32} {x3 : Int32} {x4 : Int32} (h : PI m (F_X6_dear_51 m r18 x0 x1 x2 x3 x4) post) : WP D l Y_X6_dear 0 0 51 [.ref x0, .int x1, .int x2, .int x3, .int x4, JK] [] m post := by
  refine wp_iinc (v := 1) dX6_dear_51 rfl (by decide) rfl rfl ?_
  refine wp_goto (tgt := 18) dX6_dear_54 (by decide) ?_
  exact (hr18 _ _ _ _ _ h)
theorem w_X6_dear_18 {D : DT} {l : Launch} {post : Option Value → Mem → Prop} {m : Mem} : ∀ (n : Nat) (x0 : Nat) (x1 : Int32) (x2 : Int32) (x3 : Int32) (x4 : Int32), PI m (F_X6_dear_18 m n x0 x1 x2 x3 x4) post → WP D l Y_X6_dear 0 0 18 [.ref x0, .int x1, .int x2, .int x3, .int x4, JK] [] m post := by
  intro n
  induction n with
  | zero => intro x0 x1 x2 x3 x4 h; exact (PI.none h).elim
  | succ n ih =>
    intro x0 x1 x2 x3 x4 h
    refine wp_iload dX6_dear_18 rfl ?_
    refine wp_bipush (v := 6) dX6_dear_20 (by decide) ?_
    refine wp_icmp_ge (tgt := 57) dX6_dear_22 (by decide) (fun c1 => ?_) (fun c1 => ?_)
    · have h := PI.t c1 h
      refine wp_iload_n (i := 1) dX6_dear_57 rfl rfl ?_
      refine wp_if_ne (tgt := 65) dX6_dear_58 (by decide) (fun c2 => ?_) (fun c2 => ?_)
      · have h := PI.f c2 h
        refine wp_iload_n (i := 3) dX6_dear_65 rfl rfl ?_
        exact wp_iret dX6_dear_66 rfl rfl (Nat.le_of_ble_eq_true rfl) (Nat.le_of_ble_eq_true rfl) (PI.some h)
      · have h := PI.t c2 h
        refine wp_iload_n (i := 2) dX6_dear_61 rfl rfl ?_
        refine wp_goto (tgt := 66) dX6_dear_62 (by decide) ?_
        exact wp_iret dX6_dear_66 rfl rfl (Nat.le_of_ble_eq_true rfl) (Nat.le_of_ble_eq_true rfl) (PI.some h)
    · have h := PI.f c1 h
      refine wp_aload_n (i := 0) dX6_dear_25 rfl rfl ?_
      obtain ⟨v3, ev3, h⟩ := PI.bind h
      refine wp_getR cl6 (f := 1) (by decide) rfl fl_X6_19 dX6_dear_26 ev3 ?_
      refine wp_iload dX6_dear_29 rfl ?_
      obtain ⟨v5, ev5, h⟩ := PI.bind h
      obtain ⟨v4, ev4, h⟩ := PI.bind h
      refine cgV_i (Y' := Y_X5_goersAbout) (kc2 := 0) (ks2 := 0) dX6_dear_31 ml_X6_133 ce_X5_goersAbout (t := 5) rfl (by decide) ⟨(Nat.le_of_ble_eq_true rfl), (Nat.le_of_ble_eq_true rfl)⟩ ⟨(Nat.le_of_ble_eq_true rfl), (Nat.le_of_ble_eq_true rfl)⟩ rfl rfl (chkT_eq ev5) (ct_X5_goersAbout ev4) rfl rfl (Nat.le_of_ble_eq_true rfl) ?_
      obtain ⟨v6, ev6, h⟩ := PI.bind h
      refine cgS_i (Y' := Y_J6_bitCount) (kc2 := 0) (ks2 := 0) dX6_dear_34 ml_X6_149 ce_J6_bitCount ⟨(Nat.le_of_ble_eq_true rfl), (Nat.le_of_ble_eq_true rfl)⟩ ⟨(Nat.le_of_ble_eq_true rfl), (Nat.le_of_ble_eq_true rfl)⟩ rfl rfl (ct_J6_bitCount ev6) rfl rfl (Nat.le_of_ble_eq_true rfl) ?_
      refine wp_istore dX6_dear_37 rfl rfl ?_
      refine wp_iload dX6_dear_39 rfl ?_
      refine wp_iload_n (i := 3) dX6_dear_41 rfl rfl ?_
      refine wp_icmp_le (tgt := 51) dX6_dear_42 (by decide) (fun c7 => ?_) (fun c7 => ?_)
      · have h := PI.t c7 h
        exact wp_weak [true, true, true, true, true, false] (w_X6_dear_51 ih h)
      · have h := PI.f c7 h
        refine wp_iload dX6_dear_45 rfl ?_
        refine wp_istore_n (i := 2) dX6_dear_47 rfl rfl rfl ?_
        refine wp_iload dX6_dear_48 rfl ?_
        refine wp_istore_n (i := 3) dX6_dear_50 rfl rfl rfl ?_
        exact wp_weak [true, true, true, true, true, false] (w_X6_dear_51 ih h)
theorem ct_X6_dear {D : DT} {l : Launch} {m : Mem} {x0 : Nat} {x1 : Int32} {r : Int32} (h : F_X6_dear x0 x1 m = some r) : Ct D l Y_X6_dear [.ref x0, .int x1] m (fun (v : Option Value) (N : Mem) => v = some (Value.int r) ∧ N = m) := by
  refine ct_of (by decide) (by rfl) (ls0 := [.ref x0, .int x1, JK, JK, JK, JK]) rfl rfl ?_
  have h : PI m (F_X6_dear x0 x1 m) (fun (v : Option Value) (N : Mem) => v = some (Value.int r) ∧ N = m) := ⟨r, h, rfl, rfl⟩
  revert h
  generalize (fun (v : Option Value) (N : Mem) => v = some (Value.int r) ∧ N = m) = post
  intro h
  refine wp_iload_n (i := 1) dX6_dear_0 rfl rfl ?_
  refine wp_iconst (v := 0) dX6_dear_1 (by decide) ?_
  refine wp_iconst (v := 1) dX6_dear_2 (by decide) ?_
  obtain ⟨v8, ev8, h⟩ := PI.bind h
  refine cgS_i (Y' := Y_X6_outside) (kc2 := 0) (ks2 := 0) dX6_dear_3 ml_X6_73 ce_X6_outside ⟨(Nat.le_of_ble_eq_true rfl), (Nat.le_of_ble_eq_true rfl)⟩ ⟨(Nat.le_of_ble_eq_true rfl), (Nat.le_of_ble_eq_true rfl)⟩ rfl rfl (ct_X6_outside ev8) rfl rfl (Nat.le_of_ble_eq_true rfl) ?_
  refine wp_if_eq (tgt := 11) dX6_dear_6 (by decide) (fun c9 => ?_) (fun c9 => ?_)
  · have h := PI.t c9 h
    refine wp_iconst (v := 0) dX6_dear_11 (by decide) ?_
    refine wp_istore_n (i := 2) dX6_dear_12 rfl rfl rfl ?_
    refine wp_iconst (v := 0) dX6_dear_13 (by decide) ?_
    refine wp_istore_n (i := 3) dX6_dear_14 rfl rfl rfl ?_
    refine wp_iconst (v := 0) dX6_dear_15 (by decide) ?_
    refine wp_istore dX6_dear_16 rfl rfl ?_
    exact (w_X6_dear_18 _ _ _ _ _ _ h)
  · have h := PI.f c9 h
    refine wp_iconst (v := -1) dX6_dear_9 (by decide) ?_
    exact wp_iret dX6_dear_10 rfl rfl (Nat.le_of_ble_eq_true rfl) (Nat.le_of_ble_eq_true rfl) (PI.some h)
theorem ct_X6_seen {D : DT} {l : Launch} {m : Mem} {x0 : Nat} {x1 : Int32} {x2 : Int32} {x3 : Int32} {r : (Int32 × Mem)} (h : F_X6_seen x0 x1 x2 x3 m = some r) : Ct D l Y_X6_seen [.ref x0, .int x1, .int x2, .int x3] m (fun (v : Option Value) (N : Mem) => v = some (Value.int r.1) ∧ N = r.2) := by
  refine ct_of (by decide) (by rfl) (ls0 := [.ref x0, .int x1, .int x2, .int x3]) rfl rfl ?_
  have h : HI (F_X6_seen x0 x1 x2 x3 m) (fun (v : Option Value) (N : Mem) => v = some (Value.int r.1) ∧ N = r.2) := ⟨r.1, r.2, h, rfl, rfl⟩
  revert h
  generalize (fun (v : Option Value) (N : Mem) => v = some (Value.int r.1) ∧ N = r.2) = post
  intro h
  refine wp_aload_n (i := 0) dX6_seen_0 rfl rfl ?_
  refine wp_iload_n (i := 1) dX6_seen_1 rfl rfl ?_
  obtain ⟨v2, ev2, h⟩ := HI.bind h
  obtain ⟨v1, ev1, h⟩ := HI.bind h
  refine cgV_i (Y' := Y_X6_noPerson) (kc2 := 0) (ks2 := 0) dX6_seen_2 ml_X6_102 ce_X6_noPerson (t := 6) rfl (by decide) ⟨(Nat.le_of_ble_eq_true rfl), (Nat.le_of_ble_eq_true rfl)⟩ ⟨(Nat.le_of_ble_eq_true rfl), (Nat.le_of_ble_eq_true rfl)⟩ rfl rfl (chkT_eq ev2) (ct_X6_noPerson ev1) rfl rfl (Nat.le_of_ble_eq_true rfl) ?_
  refine wp_if_ne (tgt := 28) dX6_seen_5 (by decide) (fun c3 => ?_) (fun c3 => ?_)
  · have h := HI.f c3 h
    refine wp_iconst (v := -1) dX6_seen_28 (by decide) ?_
    exact wp_iret dX6_seen_29 rfl rfl (Nat.le_of_ble_eq_true rfl) (Nat.le_of_ble_eq_true rfl) (HI.some h)
  · have h := HI.t c3 h
    refine wp_iload_n (i := 2) dX6_seen_8 rfl rfl ?_
    refine wp_iconst (v := 0) dX6_seen_9 (by decide) ?_
    refine wp_bipush (v := 24) dX6_seen_10 (by decide) ?_
    obtain ⟨v4, ev4, h⟩ := HI.bind h
    refine cgS_i (Y' := Y_X6_outside) (kc2 := 0) (ks2 := 0) dX6_seen_12 ml_X6_73 ce_X6_outside ⟨(Nat.le_of_ble_eq_true rfl), (Nat.le_of_ble_eq_true rfl)⟩ ⟨(Nat.le_of_ble_eq_true rfl), (Nat.le_of_ble_eq_true rfl)⟩ rfl rfl (ct_X6_outside ev4) rfl rfl (Nat.le_of_ble_eq_true rfl) ?_
    refine wp_if_ne (tgt := 28) dX6_seen_15 (by decide) (fun c5 => ?_) (fun c5 => ?_)
    · have h := HI.f c5 h
      refine wp_iconst (v := -1) dX6_seen_28 (by decide) ?_
      exact wp_iret dX6_seen_29 rfl rfl (Nat.le_of_ble_eq_true rfl) (Nat.le_of_ble_eq_true rfl) (HI.some h)
    · have h := HI.t c5 h
      refine wp_iload_n (i := 3) dX6_seen_18 rfl rfl ?_
      refine wp_iconst (v := 0) dX6_seen_19 (by decide) ?_
      refine wp_bipush (v := 11) dX6_seen_20 (by decide) ?_
      obtain ⟨v6, ev6, h⟩ := HI.bind h
      refine cgS_i (Y' := Y_X6_outside) (kc2 := 0) (ks2 := 0) dX6_seen_22 ml_X6_73 ce_X6_outside ⟨(Nat.le_of_ble_eq_true rfl), (Nat.le_of_ble_eq_true rfl)⟩ ⟨(Nat.le_of_ble_eq_true rfl), (Nat.le_of_ble_eq_true rfl)⟩ rfl rfl (ct_X6_outside ev6) rfl rfl (Nat.le_of_ble_eq_true rfl) ?_
      refine wp_if_eq (tgt := 30) dX6_seen_25 (by decide) (fun c7 => ?_) (fun c7 => ?_)
      · have h := HI.t c7 h
        refine wp_aload_n (i := 0) dX6_seen_30 rfl rfl ?_
        obtain ⟨v8, ev8, h⟩ := HI.bind h
        refine wp_getR cl6 (f := 5) (by decide) rfl fl_X6_41 dX6_seen_31 ev8 ?_
        refine wp_iload_n (i := 1) dX6_seen_34 rfl rfl ?_
        refine wp_iload_n (i := 2) dX6_seen_35 rfl rfl ?_
        refine wp_iload_n (i := 3) dX6_seen_36 rfl rfl ?_
        obtain ⟨v10, ev10, h⟩ := HI.bind h
        obtain ⟨v9, ev9, h⟩ := HI.bind h
        refine cgV_i (Y' := Y_X1_note) (kc2 := 0) (ks2 := 0) dX6_seen_37 ml_X6_183 ce_X1_note (t := 1) rfl (by decide) ⟨(Nat.le_of_ble_eq_true rfl), (Nat.le_of_ble_eq_true rfl)⟩ ⟨(Nat.le_of_ble_eq_true rfl), (Nat.le_of_ble_eq_true rfl)⟩ rfl rfl (chkT_eq ev10) (ct_X1_note ev9) rfl rfl (Nat.le_of_ble_eq_true rfl) ?_
        refine wp_if_eq (tgt := 53) dX6_seen_40 (by decide) (fun c11 => ?_) (fun c11 => ?_)
        · have h := HI.t c11 h
          refine wp_bipush (v := -3) dX6_seen_53 (by decide) ?_
          exact wp_iret dX6_seen_55 rfl rfl (Nat.le_of_ble_eq_true rfl) (Nat.le_of_ble_eq_true rfl) (HI.some h)
        · have h := HI.f c11 h
          refine wp_aload_n (i := 0) dX6_seen_43 rfl rfl ?_
          obtain ⟨v12, ev12, h⟩ := HI.bind h
          refine wp_getR cl6 (f := 5) (by decide) rfl fl_X6_41 dX6_seen_44 ev12 ?_
          obtain ⟨v14, ev14, h⟩ := HI.bind h
          obtain ⟨v13, ev13, h⟩ := HI.bind h
          refine cgV_i (Y' := Y_X1_size) (kc2 := 0) (ks2 := 0) dX6_seen_47 ml_X6_186 ce_X1_size (t := 1) rfl (by decide) ⟨(Nat.le_of_ble_eq_true rfl), (Nat.le_of_ble_eq_true rfl)⟩ ⟨(Nat.le_of_ble_eq_true rfl), (Nat.le_of_ble_eq_true rfl)⟩ rfl rfl (chkT_eq ev14) (ct_X1_size ev13) rfl rfl (Nat.le_of_ble_eq_true rfl) ?_
          refine wp_goto (tgt := 55) dX6_seen_50 (by decide) ?_
          exact wp_iret dX6_seen_55 rfl rfl (Nat.le_of_ble_eq_true rfl) (Nat.le_of_ble_eq_true rfl) (HI.some h)
      · have h := HI.f c7 h
        refine wp_iconst (v := -1) dX6_seen_28 (by decide) ?_
        exact wp_iret dX6_seen_29 rfl rfl (Nat.le_of_ble_eq_true rfl) (Nat.le_of_ble_eq_true rfl) (HI.some h)
theorem w_X6_kinds_49 {D : DT} {l : Launch} {post : Option Value → Mem → Prop} {m : Mem} {r14 : Nat → Int32 → Int32 → Int32 → Option Int32} (hr14 : ∀ (x0 : Nat) (x1 : Int32) (x2 : Int32) (x3 : Int32), PI m (r14 x0 x1 x2 x3) post → WP D l Y_X6_kinds 0 0 14 [.ref x0, .int x1, .int x2, .int x3] [] m post) {x0 : Nat} {x1 : Int32} {x2 : Int32} {x3 : Int32} (h : PI m (F_X6_kinds_49 m r14 x0 x1 x2 x3) post) : WP D l Y_X6_kinds 0 0 49 [.ref x0, .int x1, .int x2, .int x3] [] m post := by
  refine wp_iinc (v := 1) dX6_kinds_49 rfl (by decide) rfl rfl ?_
  refine wp_goto (tgt := 14) dX6_kinds_52 (by decide) ?_
  exact (hr14 _ _ _ _ h)
theorem w_X6_kinds_14 {D : DT} {l : Launch} {post : Option Value → Mem → Prop} {m : Mem} : ∀ (n : Nat) (x0 : Nat) (x1 : Int32) (x2 : Int32) (x3 : Int32), PI m (F_X6_kinds_14 m n x0 x1 x2 x3) post → WP D l Y_X6_kinds 0 0 14 [.ref x0, .int x1, .int x2, .int x3] [] m post := by
  intro n
  induction n with
  | zero => intro x0 x1 x2 x3 h; exact (PI.none h).elim
  | succ n ih =>
    intro x0 x1 x2 x3 h
    refine wp_iload_n (i := 3) dX6_kinds_14 rfl rfl ?_
    refine wp_iconst (v := 4) dX6_kinds_15 (by decide) ?_
    refine wp_icmp_ge (tgt := 55) dX6_kinds_16 (by decide) (fun c1 => ?_) (fun c1 => ?_)
    · have h := PI.t c1 h
      refine wp_iload_n (i := 2) dX6_kinds_55 rfl rfl ?_
      exact wp_iret dX6_kinds_56 rfl rfl (Nat.le_of_ble_eq_true rfl) (Nat.le_of_ble_eq_true rfl) (PI.some h)
    · have h := PI.f c1 h
      refine wp_aload_n (i := 0) dX6_kinds_19 rfl rfl ?_
      obtain ⟨v2, ev2, h⟩ := PI.bind h
      refine wp_getR cl6 (f := 5) (by decide) rfl fl_X6_41 dX6_kinds_20 ev2 ?_
      refine wp_aload_n (i := 0) dX6_kinds_23 rfl rfl ?_
      obtain ⟨v3, ev3, h⟩ := PI.bind h
      refine wp_getR cl6 (f := 1) (by decide) rfl fl_X6_19 dX6_kinds_24 ev3 ?_
      refine wp_iload_n (i := 1) dX6_kinds_27 rfl rfl ?_
      refine wp_iload_n (i := 3) dX6_kinds_28 rfl rfl ?_
      refine wp_aload_n (i := 0) dX6_kinds_29 rfl rfl ?_
      obtain ⟨v4, ev4, h⟩ := PI.bind h
      refine wp_getR cl6 (f := 1) (by decide) rfl fl_X6_19 dX6_kinds_30 ev4 ?_
      refine wp_iload_n (i := 1) dX6_kinds_33 rfl rfl ?_
      obtain ⟨v6, ev6, h⟩ := PI.bind h
      obtain ⟨v5, ev5, h⟩ := PI.bind h
      refine cgV_i (Y' := Y_X5_paceOf) (kc2 := 0) (ks2 := 0) dX6_kinds_34 ml_X6_119 ce_X5_paceOf (t := 5) rfl (by decide) ⟨(Nat.le_of_ble_eq_true rfl), (Nat.le_of_ble_eq_true rfl)⟩ ⟨(Nat.le_of_ble_eq_true rfl), (Nat.le_of_ble_eq_true rfl)⟩ rfl rfl (chkT_eq ev6) (ct_X5_paceOf ev5) rfl rfl (Nat.le_of_ble_eq_true rfl) ?_
      obtain ⟨v8, ev8, h⟩ := PI.bind h
      obtain ⟨v7, ev7, h⟩ := PI.bind h
      refine cgV_i (Y' := Y_X1_fitPerson) (kc2 := 0) (ks2 := 0) dX6_kinds_37 ml_X6_187 ce_X1_fitPerson (t := 1) rfl (by decide) ⟨(Nat.le_of_ble_eq_true rfl), (Nat.le_of_ble_eq_true rfl)⟩ ⟨(Nat.le_of_ble_eq_true rfl), (Nat.le_of_ble_eq_true rfl)⟩ rfl rfl (chkT_eq ev8) (ct_X1_fitPerson ev7) rfl rfl (Nat.le_of_ble_eq_true rfl) ?_
      refine wp_if_eq (tgt := 49) dX6_kinds_40 (by decide) (fun c9 => ?_) (fun c9 => ?_)
      · have h := PI.t c9 h
        exact (w_X6_kinds_49 ih h)
      · have h := PI.f c9 h
        refine wp_iload_n (i := 2) dX6_kinds_43 rfl rfl ?_
        refine wp_iconst (v := 1) dX6_kinds_44 (by decide) ?_
        refine wp_iload_n (i := 3) dX6_kinds_45 rfl rfl ?_
        refine wp_ishl dX6_kinds_46 ?_
        refine wp_ior dX6_kinds_47 ?_
        refine wp_istore_n (i := 2) dX6_kinds_48 rfl rfl rfl ?_
        exact (w_X6_kinds_49 ih h)
theorem ct_X6_kinds {D : DT} {l : Launch} {m : Mem} {x0 : Nat} {x1 : Int32} {r : Int32} (h : F_X6_kinds x0 x1 m = some r) : Ct D l Y_X6_kinds [.ref x0, .int x1] m (fun (v : Option Value) (N : Mem) => v = some (Value.int r) ∧ N = m) := by
  refine ct_of (by decide) (by rfl) (ls0 := [.ref x0, .int x1, JK, JK]) rfl rfl ?_
  have h : PI m (F_X6_kinds x0 x1 m) (fun (v : Option Value) (N : Mem) => v = some (Value.int r) ∧ N = m) := ⟨r, h, rfl, rfl⟩
  revert h
  generalize (fun (v : Option Value) (N : Mem) => v = some (Value.int r) ∧ N = m) = post
  intro h
  refine wp_aload_n (i := 0) dX6_kinds_0 rfl rfl ?_
  refine wp_iload_n (i := 1) dX6_kinds_1 rfl rfl ?_
  obtain ⟨v11, ev11, h⟩ := PI.bind h
  obtain ⟨v10, ev10, h⟩ := PI.bind h
  refine cgV_i (Y' := Y_X6_noPerson) (kc2 := 0) (ks2 := 0) dX6_kinds_2 ml_X6_102 ce_X6_noPerson (t := 6) rfl (by decide) ⟨(Nat.le_of_ble_eq_true rfl), (Nat.le_of_ble_eq_true rfl)⟩ ⟨(Nat.le_of_ble_eq_true rfl), (Nat.le_of_ble_eq_true rfl)⟩ rfl rfl (chkT_eq ev11) (ct_X6_noPerson ev10) rfl rfl (Nat.le_of_ble_eq_true rfl) ?_
  refine wp_if_eq (tgt := 10) dX6_kinds_5 (by decide) (fun c12 => ?_) (fun c12 => ?_)
  · have h := PI.t c12 h
    refine wp_iconst (v := 0) dX6_kinds_10 (by decide) ?_
    refine wp_istore_n (i := 2) dX6_kinds_11 rfl rfl rfl ?_
    refine wp_iconst (v := 0) dX6_kinds_12 (by decide) ?_
    refine wp_istore_n (i := 3) dX6_kinds_13 rfl rfl rfl ?_
    exact (w_X6_kinds_14 _ _ _ _ _ h)
  · have h := PI.f c12 h
    refine wp_iconst (v := -1) dX6_kinds_8 (by decide) ?_
    exact wp_iret dX6_kinds_9 rfl rfl (Nat.le_of_ble_eq_true rfl) (Nat.le_of_ble_eq_true rfl) (PI.some h)
theorem w_X6_speeds_50 {D : DT} {l : Launch} {post : Option Value → Mem → Prop} {m : Mem} {r14 : Nat → Int32 → Int32 → Int32 → Option Int32} (hr14 : ∀ (x0 : Nat) (x1 : Int32) (x2 : Int32) (x3 : Int32), PI m (r14 x0 x1 x2 x3) post → WP D l Y_X6_speeds 0 0 14 [.ref x0, .int x1, .int x2, .int x3] [] m post) {x0 : Nat} {x1 : Int32} {x2 : Int32} {x3 : Int32} (h : PI m (F_X6_speeds_50 m r14 x0 x1 x2 x3) post) : WP D l Y_X6_speeds 0 0 50 [.ref x0, .int x1, .int x2, .int x3] [] m post := by
  refine wp_iinc (v := 1) dX6_speeds_50 rfl (by decide) rfl rfl ?_
  refine wp_goto (tgt := 14) dX6_speeds_53 (by decide) ?_
  exact (hr14 _ _ _ _ h)
theorem w_X6_speeds_14 {D : DT} {l : Launch} {post : Option Value → Mem → Prop} {m : Mem} : ∀ (n : Nat) (x0 : Nat) (x1 : Int32) (x2 : Int32) (x3 : Int32), PI m (F_X6_speeds_14 m n x0 x1 x2 x3) post → WP D l Y_X6_speeds 0 0 14 [.ref x0, .int x1, .int x2, .int x3] [] m post := by
  intro n
  induction n with
  | zero => intro x0 x1 x2 x3 h; exact (PI.none h).elim
  | succ n ih =>
    intro x0 x1 x2 x3 h
    refine wp_iload_n (i := 3) dX6_speeds_14 rfl rfl ?_
    refine wp_bipush (v := 12) dX6_speeds_15 (by decide) ?_
    refine wp_icmp_ge (tgt := 56) dX6_speeds_17 (by decide) (fun c1 => ?_) (fun c1 => ?_)
    · have h := PI.t c1 h
      refine wp_iload_n (i := 2) dX6_speeds_56 rfl rfl ?_
      exact wp_iret dX6_speeds_57 rfl rfl (Nat.le_of_ble_eq_true rfl) (Nat.le_of_ble_eq_true rfl) (PI.some h)
    · have h := PI.f c1 h
      refine wp_aload_n (i := 0) dX6_speeds_20 rfl rfl ?_
      obtain ⟨v2, ev2, h⟩ := PI.bind h
      refine wp_getR cl6 (f := 5) (by decide) rfl fl_X6_41 dX6_speeds_21 ev2 ?_
      refine wp_aload_n (i := 0) dX6_speeds_24 rfl rfl ?_
      obtain ⟨v3, ev3, h⟩ := PI.bind h
      refine wp_getR cl6 (f := 1) (by decide) rfl fl_X6_19 dX6_speeds_25 ev3 ?_
      refine wp_iload_n (i := 1) dX6_speeds_28 rfl rfl ?_
      refine wp_aload_n (i := 0) dX6_speeds_29 rfl rfl ?_
      obtain ⟨v4, ev4, h⟩ := PI.bind h
      refine wp_getR cl6 (f := 1) (by decide) rfl fl_X6_19 dX6_speeds_30 ev4 ?_
      refine wp_iload_n (i := 1) dX6_speeds_33 rfl rfl ?_
      obtain ⟨v6, ev6, h⟩ := PI.bind h
      obtain ⟨v5, ev5, h⟩ := PI.bind h
      refine cgV_i (Y' := Y_X5_kindOf) (kc2 := 0) (ks2 := 0) dX6_speeds_34 ml_X6_106 ce_X5_kindOf (t := 5) rfl (by decide) ⟨(Nat.le_of_ble_eq_true rfl), (Nat.le_of_ble_eq_true rfl)⟩ ⟨(Nat.le_of_ble_eq_true rfl), (Nat.le_of_ble_eq_true rfl)⟩ rfl rfl (chkT_eq ev6) (ct_X5_kindOf ev5) rfl rfl (Nat.le_of_ble_eq_true rfl) ?_
      refine wp_iload_n (i := 3) dX6_speeds_37 rfl rfl ?_
      obtain ⟨v8, ev8, h⟩ := PI.bind h
      obtain ⟨v7, ev7, h⟩ := PI.bind h
      refine cgV_i (Y' := Y_X1_fitPerson) (kc2 := 0) (ks2 := 0) dX6_speeds_38 ml_X6_187 ce_X1_fitPerson (t := 1) rfl (by decide) ⟨(Nat.le_of_ble_eq_true rfl), (Nat.le_of_ble_eq_true rfl)⟩ ⟨(Nat.le_of_ble_eq_true rfl), (Nat.le_of_ble_eq_true rfl)⟩ rfl rfl (chkT_eq ev8) (ct_X1_fitPerson ev7) rfl rfl (Nat.le_of_ble_eq_true rfl) ?_
      refine wp_if_eq (tgt := 50) dX6_speeds_41 (by decide) (fun c9 => ?_) (fun c9 => ?_)
      · have h := PI.t c9 h
        exact (w_X6_speeds_50 ih h)
      · have h := PI.f c9 h
        refine wp_iload_n (i := 2) dX6_speeds_44 rfl rfl ?_
        refine wp_iconst (v := 1) dX6_speeds_45 (by decide) ?_
        refine wp_iload_n (i := 3) dX6_speeds_46 rfl rfl ?_
        refine wp_ishl dX6_speeds_47 ?_
        refine wp_ior dX6_speeds_48 ?_
        refine wp_istore_n (i := 2) dX6_speeds_49 rfl rfl rfl ?_
        exact (w_X6_speeds_50 ih h)
theorem ct_X6_speeds {D : DT} {l : Launch} {m : Mem} {x0 : Nat} {x1 : Int32} {r : Int32} (h : F_X6_speeds x0 x1 m = some r) : Ct D l Y_X6_speeds [.ref x0, .int x1] m (fun (v : Option Value) (N : Mem) => v = some (Value.int r) ∧ N = m) := by
  refine ct_of (by decide) (by rfl) (ls0 := [.ref x0, .int x1, JK, JK]) rfl rfl ?_
  have h : PI m (F_X6_speeds x0 x1 m) (fun (v : Option Value) (N : Mem) => v = some (Value.int r) ∧ N = m) := ⟨r, h, rfl, rfl⟩
  revert h
  generalize (fun (v : Option Value) (N : Mem) => v = some (Value.int r) ∧ N = m) = post
  intro h
  refine wp_aload_n (i := 0) dX6_speeds_0 rfl rfl ?_
  refine wp_iload_n (i := 1) dX6_speeds_1 rfl rfl ?_
  obtain ⟨v11, ev11, h⟩ := PI.bind h
  obtain ⟨v10, ev10, h⟩ := PI.bind h
  refine cgV_i (Y' := Y_X6_noPerson) (kc2 := 0) (ks2 := 0) dX6_speeds_2 ml_X6_102 ce_X6_noPerson (t := 6) rfl (by decide) ⟨(Nat.le_of_ble_eq_true rfl), (Nat.le_of_ble_eq_true rfl)⟩ ⟨(Nat.le_of_ble_eq_true rfl), (Nat.le_of_ble_eq_true rfl)⟩ rfl rfl (chkT_eq ev11) (ct_X6_noPerson ev10) rfl rfl (Nat.le_of_ble_eq_true rfl) ?_
  refine wp_if_eq (tgt := 10) dX6_speeds_5 (by decide) (fun c12 => ?_) (fun c12 => ?_)
  · have h := PI.t c12 h
    refine wp_iconst (v := 0) dX6_speeds_10 (by decide) ?_
    refine wp_istore_n (i := 2) dX6_speeds_11 rfl rfl rfl ?_
    refine wp_iconst (v := 0) dX6_speeds_12 (by decide) ?_
    refine wp_istore_n (i := 3) dX6_speeds_13 rfl rfl rfl ?_
    exact (w_X6_speeds_14 _ _ _ _ _ h)
  · have h := PI.f c12 h
    refine wp_iconst (v := -1) dX6_speeds_8 (by decide) ?_
    exact wp_iret dX6_speeds_9 rfl rfl (Nat.le_of_ble_eq_true rfl) (Nat.le_of_ble_eq_true rfl) (PI.some h)
theorem ct_X6_told {D : DT} {l : Launch} {m : Mem} {x0 : Nat} {x1 : Int32} {x2 : Int32} {r : (Int32 × Mem)} (h : F_X6_told x0 x1 x2 m = some r) : Ct D l Y_X6_told [.ref x0, .int x1, .int x2] m (fun (v : Option Value) (N : Mem) => v = some (Value.int r.1) ∧ N = r.2) := by
  refine ct_of (by decide) (by rfl) (ls0 := [.ref x0, .int x1, .int x2]) rfl rfl ?_
  have h : HI (F_X6_told x0 x1 x2 m) (fun (v : Option Value) (N : Mem) => v = some (Value.int r.1) ∧ N = r.2) := ⟨r.1, r.2, h, rfl, rfl⟩
  revert h
  generalize (fun (v : Option Value) (N : Mem) => v = some (Value.int r.1) ∧ N = r.2) = post
  intro h
  refine wp_iload_n (i := 1) dX6_told_0 rfl rfl ?_
  refine wp_iconst (v := 0) dX6_told_1 (by decide) ?_
  refine wp_bipush (v := 24) dX6_told_2 (by decide) ?_
  obtain ⟨v1, ev1, h⟩ := HI.bind h
  refine cgS_i (Y' := Y_X6_outside) (kc2 := 0) (ks2 := 0) dX6_told_4 ml_X6_73 ce_X6_outside ⟨(Nat.le_of_ble_eq_true rfl), (Nat.le_of_ble_eq_true rfl)⟩ ⟨(Nat.le_of_ble_eq_true rfl), (Nat.le_of_ble_eq_true rfl)⟩ rfl rfl (ct_X6_outside ev1) rfl rfl (Nat.le_of_ble_eq_true rfl) ?_
  refine wp_if_ne (tgt := 20) dX6_told_7 (by decide) (fun c2 => ?_) (fun c2 => ?_)
  · have h := HI.f c2 h
    refine wp_iconst (v := -1) dX6_told_20 (by decide) ?_
    exact wp_iret dX6_told_21 rfl rfl (Nat.le_of_ble_eq_true rfl) (Nat.le_of_ble_eq_true rfl) (HI.some h)
  · have h := HI.t c2 h
    refine wp_iload_n (i := 2) dX6_told_10 rfl rfl ?_
    refine wp_iconst (v := 0) dX6_told_11 (by decide) ?_
    refine wp_bipush (v := 11) dX6_told_12 (by decide) ?_
    obtain ⟨v3, ev3, h⟩ := HI.bind h
    refine cgS_i (Y' := Y_X6_outside) (kc2 := 0) (ks2 := 0) dX6_told_14 ml_X6_73 ce_X6_outside ⟨(Nat.le_of_ble_eq_true rfl), (Nat.le_of_ble_eq_true rfl)⟩ ⟨(Nat.le_of_ble_eq_true rfl), (Nat.le_of_ble_eq_true rfl)⟩ rfl rfl (ct_X6_outside ev3) rfl rfl (Nat.le_of_ble_eq_true rfl) ?_
    refine wp_if_eq (tgt := 22) dX6_told_17 (by decide) (fun c4 => ?_) (fun c4 => ?_)
    · have h := HI.t c4 h
      refine wp_aload_n (i := 0) dX6_told_22 rfl rfl ?_
      obtain ⟨v5, ev5, h⟩ := HI.bind h
      refine wp_getR cl6 (f := 6) (by decide) rfl fl_X6_45 dX6_told_23 ev5 ?_
      refine wp_bipush (v := -4) dX6_told_26 (by decide) ?_
      refine wp_iload_n (i := 1) dX6_told_28 rfl rfl ?_
      refine wp_iload_n (i := 2) dX6_told_29 rfl rfl ?_
      obtain ⟨v7, ev7, h⟩ := HI.bind h
      obtain ⟨v6, ev6, h⟩ := HI.bind h
      refine cgV_i (Y' := Y_X1_note) (kc2 := 0) (ks2 := 0) dX6_told_30 ml_X6_183 ce_X1_note (t := 1) rfl (by decide) ⟨(Nat.le_of_ble_eq_true rfl), (Nat.le_of_ble_eq_true rfl)⟩ ⟨(Nat.le_of_ble_eq_true rfl), (Nat.le_of_ble_eq_true rfl)⟩ rfl rfl (chkT_eq ev7) (ct_X1_note ev6) rfl rfl (Nat.le_of_ble_eq_true rfl) ?_
      refine wp_if_eq (tgt := 46) dX6_told_33 (by decide) (fun c8 => ?_) (fun c8 => ?_)
      · have h := HI.t c8 h
        refine wp_bipush (v := -3) dX6_told_46 (by decide) ?_
        exact wp_iret dX6_told_48 rfl rfl (Nat.le_of_ble_eq_true rfl) (Nat.le_of_ble_eq_true rfl) (HI.some h)
      · have h := HI.f c8 h
        refine wp_aload_n (i := 0) dX6_told_36 rfl rfl ?_
        obtain ⟨v9, ev9, h⟩ := HI.bind h
        refine wp_getR cl6 (f := 6) (by decide) rfl fl_X6_45 dX6_told_37 ev9 ?_
        obtain ⟨v11, ev11, h⟩ := HI.bind h
        obtain ⟨v10, ev10, h⟩ := HI.bind h
        refine cgV_i (Y' := Y_X1_size) (kc2 := 0) (ks2 := 0) dX6_told_40 ml_X6_186 ce_X1_size (t := 1) rfl (by decide) ⟨(Nat.le_of_ble_eq_true rfl), (Nat.le_of_ble_eq_true rfl)⟩ ⟨(Nat.le_of_ble_eq_true rfl), (Nat.le_of_ble_eq_true rfl)⟩ rfl rfl (chkT_eq ev11) (ct_X1_size ev10) rfl rfl (Nat.le_of_ble_eq_true rfl) ?_
        refine wp_goto (tgt := 48) dX6_told_43 (by decide) ?_
        exact wp_iret dX6_told_48 rfl rfl (Nat.le_of_ble_eq_true rfl) (Nat.le_of_ble_eq_true rfl) (HI.some h)
    · have h := HI.f c4 h
      refine wp_iconst (v := -1) dX6_told_20 (by decide) ?_
      exact wp_iret dX6_told_21 rfl rfl (Nat.le_of_ble_eq_true rfl) (Nat.le_of_ble_eq_true rfl) (HI.some h)
theorem w_X6_rings_59 {D : DT} {l : Launch} {post : Option Value → Mem → Prop} {m : Mem} {r19 : Nat → Int32 → Int32 → Int32 → Int32 → Option Int32} (hr19 : ∀ (x0 : Nat) (x1 : Int32) (x2 : Int32) (x3 : Int32) (x4 : Int32), PI m (r19 x0 x1 x2 x3 x4) post → WP D l Y_X6_rings 0 0 19 [.ref x0, .int x1, .int x2, .int x3, .int x4] [] m post) {x0 : Nat} {x1 : Int32} {x2 : Int32} {x3 : Int32} {x4 : Int32} (h : PI m (F_X6_rings_59 m r19 x0 x1 x2 x3 x4) post) : WP D l Y_X6_rings 0 0 59 [.ref x0, .int x1, .int x2, .int x3, .int x4] [] m post := by
  refine wp_iinc (v := 1) dX6_rings_59 rfl (by decide) rfl rfl ?_
  refine wp_goto (tgt := 19) dX6_rings_62 (by decide) ?_
  exact (hr19 _ _ _ _ _ h)
theorem w_X6_rings_19 {D : DT} {l : Launch} {post : Option Value → Mem → Prop} {m : Mem} : ∀ (n : Nat) (x0 : Nat) (x1 : Int32) (x2 : Int32) (x3 : Int32) (x4 : Int32), PI m (F_X6_rings_19 m n x0 x1 x2 x3 x4) post → WP D l Y_X6_rings 0 0 19 [.ref x0, .int x1, .int x2, .int x3, .int x4] [] m post := by
  intro n
  induction n with
  | zero => intro x0 x1 x2 x3 x4 h; exact (PI.none h).elim
  | succ n ih =>
    intro x0 x1 x2 x3 x4 h
    refine wp_iload dX6_rings_19 rfl ?_
    refine wp_sipush (v := 144) dX6_rings_21 (by decide) ?_
    refine wp_icmp_ge (tgt := 65) dX6_rings_24 (by decide) (fun c1 => ?_) (fun c1 => ?_)
    · have h := PI.t c1 h
      refine wp_iload_n (i := 1) dX6_rings_65 rfl rfl ?_
      refine wp_if_ne (tgt := 73) dX6_rings_66 (by decide) (fun c2 => ?_) (fun c2 => ?_)
      · have h := PI.f c2 h
        refine wp_iload_n (i := 3) dX6_rings_73 rfl rfl ?_
        exact wp_iret dX6_rings_74 rfl rfl (Nat.le_of_ble_eq_true rfl) (Nat.le_of_ble_eq_true rfl) (PI.some h)
      · have h := PI.t c2 h
        refine wp_iload_n (i := 2) dX6_rings_69 rfl rfl ?_
        refine wp_goto (tgt := 74) dX6_rings_70 (by decide) ?_
        exact wp_iret dX6_rings_74 rfl rfl (Nat.le_of_ble_eq_true rfl) (Nat.le_of_ble_eq_true rfl) (PI.some h)
    · have h := PI.f c1 h
      refine wp_aload_n (i := 0) dX6_rings_27 rfl rfl ?_
      obtain ⟨v3, ev3, h⟩ := PI.bind h
      refine wp_getR cl6 (f := 6) (by decide) rfl fl_X6_45 dX6_rings_28 ev3 ?_
      refine wp_iload dX6_rings_31 rfl ?_
      refine wp_bipush (v := 12) dX6_rings_33 (by decide) ?_
      refine wp_idiv dX6_rings_35 (by decide) ?_
      refine wp_iload dX6_rings_36 rfl ?_
      refine wp_bipush (v := 12) dX6_rings_38 (by decide) ?_
      refine wp_irem dX6_rings_40 (by decide) ?_
      obtain ⟨v5, ev5, h⟩ := PI.bind h
      obtain ⟨v4, ev4, h⟩ := PI.bind h
      refine cgV_i (Y' := Y_X1_fitRing) (kc2 := 0) (ks2 := 0) dX6_rings_41 ml_X6_191 ce_X1_fitRing (t := 1) rfl (by decide) ⟨(Nat.le_of_ble_eq_true rfl), (Nat.le_of_ble_eq_true rfl)⟩ ⟨(Nat.le_of_ble_eq_true rfl), (Nat.le_of_ble_eq_true rfl)⟩ rfl rfl (chkT_eq ev5) (ct_X1_fitRing ev4) rfl rfl (Nat.le_of_ble_eq_true rfl) ?_
      refine wp_if_eq (tgt := 59) dX6_rings_44 (by decide) (fun c6 => ?_) (fun c6 => ?_)
      · have h := PI.t c6 h
        exact (w_X6_rings_59 ih h)
      · have h := PI.f c6 h
        refine wp_iinc (v := 1) dX6_rings_47 rfl (by decide) rfl rfl ?_
        refine wp_iload_n (i := 3) dX6_rings_50 rfl rfl ?_
        refine wp_bipush (v := -4) dX6_rings_51 (by decide) ?_
        refine wp_icmp_ne (tgt := 59) dX6_rings_53 (by decide) (fun c7 => ?_) (fun c7 => ?_)
        · have h := PI.f c7 h
          exact (w_X6_rings_59 ih h)
        · have h := PI.t c7 h
          refine wp_iload dX6_rings_56 rfl ?_
          refine wp_istore_n (i := 3) dX6_rings_58 rfl rfl rfl ?_
          exact (w_X6_rings_59 ih h)
theorem ct_X6_rings {D : DT} {l : Launch} {m : Mem} {x0 : Nat} {x1 : Int32} {r : Int32} (h : F_X6_rings x0 x1 m = some r) : Ct D l Y_X6_rings [.ref x0, .int x1] m (fun (v : Option Value) (N : Mem) => v = some (Value.int r) ∧ N = m) := by
  refine ct_of (by decide) (by rfl) (ls0 := [.ref x0, .int x1, JK, JK, JK]) rfl rfl ?_
  have h : PI m (F_X6_rings x0 x1 m) (fun (v : Option Value) (N : Mem) => v = some (Value.int r) ∧ N = m) := ⟨r, h, rfl, rfl⟩
  revert h
  generalize (fun (v : Option Value) (N : Mem) => v = some (Value.int r) ∧ N = m) = post
  intro h
  refine wp_iload_n (i := 1) dX6_rings_0 rfl rfl ?_
  refine wp_iconst (v := 0) dX6_rings_1 (by decide) ?_
  refine wp_iconst (v := 1) dX6_rings_2 (by decide) ?_
  obtain ⟨v8, ev8, h⟩ := PI.bind h
  refine cgS_i (Y' := Y_X6_outside) (kc2 := 0) (ks2 := 0) dX6_rings_3 ml_X6_73 ce_X6_outside ⟨(Nat.le_of_ble_eq_true rfl), (Nat.le_of_ble_eq_true rfl)⟩ ⟨(Nat.le_of_ble_eq_true rfl), (Nat.le_of_ble_eq_true rfl)⟩ rfl rfl (ct_X6_outside ev8) rfl rfl (Nat.le_of_ble_eq_true rfl) ?_
  refine wp_if_eq (tgt := 11) dX6_rings_6 (by decide) (fun c9 => ?_) (fun c9 => ?_)
  · have h := PI.t c9 h
    refine wp_iconst (v := 0) dX6_rings_11 (by decide) ?_
    refine wp_istore_n (i := 2) dX6_rings_12 rfl rfl rfl ?_
    refine wp_bipush (v := -4) dX6_rings_13 (by decide) ?_
    refine wp_istore_n (i := 3) dX6_rings_15 rfl rfl rfl ?_
    refine wp_iconst (v := 0) dX6_rings_16 (by decide) ?_
    refine wp_istore dX6_rings_17 rfl rfl ?_
    exact (w_X6_rings_19 _ _ _ _ _ _ h)
  · have h := PI.f c9 h
    refine wp_iconst (v := -1) dX6_rings_9 (by decide) ?_
    exact wp_iret dX6_rings_10 rfl rfl (Nat.le_of_ble_eq_true rfl) (Nat.le_of_ble_eq_true rfl) (PI.some h)
theorem w_X6_markYardsOfRings_76 {D : DT} {l : Launch} {post : Option Value → Mem → Prop} {r10 : Nat → Int32 → Mem → Option Mem} (hr10 : ∀ (x0 : Nat) (x1 : Int32) (m : Mem), HV (r10 x0 x1 m) post → WP D l Y_X6_markYardsOfRings 0 0 10 [.ref x0, .int x1, JK, JK, JK] [] m post) {x0 : Nat} {x1 : Int32} {m : Mem} (h : HV (F_X6_markYardsOfRings_76 r10 x0 x1 m) post) : WP D l Y_X6_markYardsOfRings 0 0 76 [.ref x0, .int x1, JK, JK, JK] [] m post := by
  refine wp_iinc (v := 1) dX6_markYardsOfRings_76 rfl (by decide) rfl rfl ?_
  refine wp_goto (tgt := 10) dX6_markYardsOfRings_79 (by decide) ?_
  exact (hr10 _ _ _ h)
theorem w_X6_markYardsOfRings_42 {D : DT} {l : Launch} {post : Option Value → Mem → Prop} {r10 : Nat → Int32 → Mem → Option Mem} (hr10 : ∀ (x0 : Nat) (x1 : Int32) (m : Mem), HV (r10 x0 x1 m) post → WP D l Y_X6_markYardsOfRings 0 0 10 [.ref x0, .int x1, JK, JK, JK] [] m post) : ∀ (n : Nat) (x0 : Nat) (x1 : Int32) (x2 : Int32) (x3 : Int32) (x4 : Int32) (m : Mem), HV (F_X6_markYardsOfRings_42 r10 n x0 x1 x2 x3 x4 m) post → WP D l Y_X6_markYardsOfRings 0 0 42 [.ref x0, .int x1, .int x2, .int x3, .int x4] [] m post := by
  intro n
  induction n with
  | zero => intro x0 x1 x2 x3 x4 m h; exact (HV.none h).elim
  | succ n ih =>
    intro x0 x1 x2 x3 x4 m h
    refine wp_iload dX6_markYardsOfRings_42 rfl ?_
    refine wp_bipush (v := 12) dX6_markYardsOfRings_44 (by decide) ?_
    refine wp_icmp_gt (tgt := 76) dX6_markYardsOfRings_46 (by decide) (fun c1 => ?_) (fun c1 => ?_)
    · have h := HV.t c1 h
      exact wp_weak [true, true, false, false, false] (w_X6_markYardsOfRings_76 hr10 h)
    · have h := HV.f c1 h
      refine wp_aload_n (i := 0) dX6_markYardsOfRings_49 rfl rfl ?_
      obtain ⟨v2, ev2, h⟩ := HV.bind h
      refine wp_getR cl6 (f := 9) (by decide) rfl fl_X6_62 dX6_markYardsOfRings_50 ev2 ?_
      refine wp_iload dX6_markYardsOfRings_53 rfl ?_
      refine wp_dup2 dX6_markYardsOfRings_55 rfl rfl ?_
      obtain ⟨v3, ev3, h⟩ := HV.bind h
      refine wp_iaload dX6_markYardsOfRings_56 ev3 ?_
      refine wp_iconst (v := 1) dX6_markYardsOfRings_57 (by decide) ?_
      refine wp_iload_n (i := 2) dX6_markYardsOfRings_58 rfl rfl ?_
      refine wp_iload dX6_markYardsOfRings_59 rfl ?_
      refine wp_iload_n (i := 3) dX6_markYardsOfRings_61 rfl rfl ?_
      refine wp_imul dX6_markYardsOfRings_62 ?_
      refine wp_iadd dX6_markYardsOfRings_63 ?_
      refine wp_bipush (v := 12) dX6_markYardsOfRings_64 (by decide) ?_
      refine wp_irem dX6_markYardsOfRings_66 (by decide) ?_
      refine wp_ishl dX6_markYardsOfRings_67 ?_
      refine wp_ior dX6_markYardsOfRings_68 ?_
      obtain ⟨m4, em4, h⟩ := HV.bind h
      refine wp_iastore dX6_markYardsOfRings_69 em4 ?_
      refine wp_iinc (v := 1) dX6_markYardsOfRings_70 rfl (by decide) rfl rfl ?_
      refine wp_goto (tgt := 42) dX6_markYardsOfRings_73 (by decide) ?_
      exact (ih _ _ _ _ _ _ h)
theorem w_X6_markYardsOfRings_10 {D : DT} {l : Launch} {post : Option Value → Mem → Prop} : ∀ (n : Nat) (x0 : Nat) (x1 : Int32) (m : Mem), HV (F_X6_markYardsOfRings_10 n x0 x1 m) post → WP D l Y_X6_markYardsOfRings 0 0 10 [.ref x0, .int x1, JK, JK, JK] [] m post := by
  intro n
  induction n with
  | zero => intro x0 x1 m h; exact (HV.none h).elim
  | succ n ih =>
    intro x0 x1 m h
    refine wp_iload_n (i := 1) dX6_markYardsOfRings_10 rfl rfl ?_
    refine wp_sipush (v := 144) dX6_markYardsOfRings_11 (by decide) ?_
    refine wp_icmp_ge (tgt := 82) dX6_markYardsOfRings_14 (by decide) (fun c5 => ?_) (fun c5 => ?_)
    · have h := HV.t c5 h
      exact wp_vret dX6_markYardsOfRings_82 rfl (Nat.le_of_ble_eq_true rfl) (Nat.le_of_ble_eq_true rfl) (HV.some h)
    · have h := HV.f c5 h
      refine wp_iload_n (i := 1) dX6_markYardsOfRings_17 rfl rfl ?_
      refine wp_bipush (v := 12) dX6_markYardsOfRings_18 (by decide) ?_
      refine wp_idiv dX6_markYardsOfRings_20 (by decide) ?_
      refine wp_istore_n (i := 2) dX6_markYardsOfRings_21 rfl rfl rfl ?_
      refine wp_iload_n (i := 1) dX6_markYardsOfRings_22 rfl rfl ?_
      refine wp_bipush (v := 12) dX6_markYardsOfRings_23 (by decide) ?_
      refine wp_irem dX6_markYardsOfRings_25 (by decide) ?_
      refine wp_istore_n (i := 3) dX6_markYardsOfRings_26 rfl rfl rfl ?_
      refine wp_aload_n (i := 0) dX6_markYardsOfRings_27 rfl rfl ?_
      obtain ⟨v6, ev6, h⟩ := HV.bind h
      refine wp_getR cl6 (f := 6) (by decide) rfl fl_X6_45 dX6_markYardsOfRings_28 ev6 ?_
      refine wp_iload_n (i := 2) dX6_markYardsOfRings_31 rfl rfl ?_
      refine wp_iload_n (i := 3) dX6_markYardsOfRings_32 rfl rfl ?_
      obtain ⟨v8, ev8, h⟩ := HV.bind h
      obtain ⟨v7, ev7, h⟩ := HV.bind h
      refine cgV_i (Y' := Y_X1_fitRing) (kc2 := 0) (ks2 := 0) dX6_markYardsOfRings_33 ml_X6_191 ce_X1_fitRing (t := 1) rfl (by decide) ⟨(Nat.le_of_ble_eq_true rfl), (Nat.le_of_ble_eq_true rfl)⟩ ⟨(Nat.le_of_ble_eq_true rfl), (Nat.le_of_ble_eq_true rfl)⟩ rfl rfl (chkT_eq ev8) (ct_X1_fitRing ev7) rfl rfl (Nat.le_of_ble_eq_true rfl) ?_
      refine wp_if_eq (tgt := 76) dX6_markYardsOfRings_36 (by decide) (fun c9 => ?_) (fun c9 => ?_)
      · have h := HV.t c9 h
        exact wp_weak [true, true, false, false, true] (w_X6_markYardsOfRings_76 ih h)
      · have h := HV.f c9 h
        refine wp_iconst (v := 0) dX6_markYardsOfRings_39 (by decide) ?_
        refine wp_istore dX6_markYardsOfRings_40 rfl rfl ?_
        exact (w_X6_markYardsOfRings_42 ih _ _ _ _ _ _ _ h)
theorem ct_X6_markYardsOfRings {D : DT} {l : Launch} {m : Mem} {x0 : Nat} {r : Mem} (h : F_X6_markYardsOfRings x0 m = some r) : Ct D l Y_X6_markYardsOfRings [.ref x0] m (fun (v : Option Value) (N : Mem) => v = none ∧ N = r) := by
  refine ct_of (by decide) (by rfl) (ls0 := [.ref x0, JK, JK, JK, JK]) rfl rfl ?_
  have h : HV (F_X6_markYardsOfRings x0 m) (fun (v : Option Value) (N : Mem) => v = none ∧ N = r) := ⟨r, h, rfl, rfl⟩
  revert h
  generalize (fun (v : Option Value) (N : Mem) => v = none ∧ N = r) = post
  intro h
  refine wp_aload_n (i := 0) dX6_markYardsOfRings_0 rfl rfl ?_
  obtain ⟨v10, ev10, h⟩ := HV.bind h
  refine wp_getR cl6 (f := 9) (by decide) rfl fl_X6_62 dX6_markYardsOfRings_1 ev10 ?_
  refine wp_iconst (v := 0) dX6_markYardsOfRings_4 (by decide) ?_
  obtain ⟨v11, ev11, h⟩ := HV.bind h
  refine cgS_v (Y' := Y_J7_fill) (kc2 := 0) (ks2 := 0) dX6_markYardsOfRings_5 ml_X6_237 ce_J7_fill ⟨(Nat.le_of_ble_eq_true rfl), (Nat.le_of_ble_eq_true rfl)⟩ ⟨(Nat.le_of_ble_eq_true rfl), (Nat.le_of_ble_eq_true rfl)⟩ rfl rfl (ct_J7_fill ev11) rfl rfl (Nat.le_of_ble_eq_true rfl) ?_
  refine wp_iconst (v := 0) dX6_markYardsOfRings_8 (by decide) ?_
  refine wp_istore_n (i := 1) dX6_markYardsOfRings_9 rfl rfl rfl ?_
  exact (w_X6_markYardsOfRings_10 _ _ _ _ h)
theorem w_X6_look_53 {D : DT} {l : Launch} {post : Option Value → Mem → Prop} {r22 : Nat → Int32 → Int32 → Int32 → Int32 → Mem → Option (Int32 × Mem)} (hr22 : ∀ (x0 : Nat) (x1 : Int32) (x2 : Int32) (x3 : Int32) (x4 : Int32) (m : Mem), HI (r22 x0 x1 x2 x3 x4 m) post → WP D l Y_X6_look 0 0 22 [.ref x0, .int x1, .int x2, .int x3, .int x4, JK] [] m post) {x0 : Nat} {x1 : Int32} {x2 : Int32} {x3 : Int32} {x4 : Int32} {m : Mem} (h : HI (F_X6_look_53 r22 x0 x1 x2 x3 x4 m) post) : WP D l Y_X6_look 0 0 53 [.ref x0, .int x1, .int x2, .int x3, .int x4, JK] [] m post := by
  refine wp_iinc (v := 1) dX6_look_53 rfl (by decide) rfl rfl ?_
  refine wp_goto (tgt := 22) dX6_look_56 (by decide) ?_
  exact (hr22 _ _ _ _ _ _ h)
theorem w_X6_look_22 {D : DT} {l : Launch} {post : Option Value → Mem → Prop} : ∀ (n : Nat) (x0 : Nat) (x1 : Int32) (x2 : Int32) (x3 : Int32) (x4 : Int32) (m : Mem), HI (F_X6_look_22 n x0 x1 x2 x3 x4 m) post → WP D l Y_X6_look 0 0 22 [.ref x0, .int x1, .int x2, .int x3, .int x4, JK] [] m post := by
  intro n
  induction n with
  | zero => intro x0 x1 x2 x3 x4 m h; exact (HI.none h).elim
  | succ n ih =>
    intro x0 x1 x2 x3 x4 m h
    refine wp_iload dX6_look_22 rfl ?_
    refine wp_bipush (v := 12) dX6_look_24 (by decide) ?_
    refine wp_icmp_gt (tgt := 59) dX6_look_26 (by decide) (fun c1 => ?_) (fun c1 => ?_)
    · have h := HI.t c1 h
      refine wp_iload_n (i := 1) dX6_look_59 rfl rfl ?_
      refine wp_if_ne (tgt := 67) dX6_look_60 (by decide) (fun c2 => ?_) (fun c2 => ?_)
      · have h := HI.f c2 h
        refine wp_iload_n (i := 3) dX6_look_67 rfl rfl ?_
        exact wp_iret dX6_look_68 rfl rfl (Nat.le_of_ble_eq_true rfl) (Nat.le_of_ble_eq_true rfl) (HI.some h)
      · have h := HI.t c2 h
        refine wp_iload_n (i := 2) dX6_look_63 rfl rfl ?_
        refine wp_goto (tgt := 68) dX6_look_64 (by decide) ?_
        exact wp_iret dX6_look_68 rfl rfl (Nat.le_of_ble_eq_true rfl) (Nat.le_of_ble_eq_true rfl) (HI.some h)
    · have h := HI.f c1 h
      refine wp_aload_n (i := 0) dX6_look_29 rfl rfl ?_
      obtain ⟨v3, ev3, h⟩ := HI.bind h
      refine wp_getR cl6 (f := 9) (by decide) rfl fl_X6_62 dX6_look_30 ev3 ?_
      refine wp_iload dX6_look_33 rfl ?_
      obtain ⟨v4, ev4, h⟩ := HI.bind h
      refine wp_iaload dX6_look_35 ev4 ?_
      obtain ⟨v5, ev5, h⟩ := HI.bind h
      refine cgS_i (Y' := Y_J6_bitCount) (kc2 := 0) (ks2 := 0) dX6_look_36 ml_X6_149 ce_J6_bitCount ⟨(Nat.le_of_ble_eq_true rfl), (Nat.le_of_ble_eq_true rfl)⟩ ⟨(Nat.le_of_ble_eq_true rfl), (Nat.le_of_ble_eq_true rfl)⟩ rfl rfl (ct_J6_bitCount ev5) rfl rfl (Nat.le_of_ble_eq_true rfl) ?_
      refine wp_istore dX6_look_39 rfl rfl ?_
      refine wp_iload dX6_look_41 rfl ?_
      refine wp_iload_n (i := 3) dX6_look_43 rfl rfl ?_
      refine wp_icmp_le (tgt := 53) dX6_look_44 (by decide) (fun c6 => ?_) (fun c6 => ?_)
      · have h := HI.t c6 h
        exact wp_weak [true, true, true, true, true, false] (w_X6_look_53 ih h)
      · have h := HI.f c6 h
        refine wp_iload dX6_look_47 rfl ?_
        refine wp_istore_n (i := 2) dX6_look_49 rfl rfl rfl ?_
        refine wp_iload dX6_look_50 rfl ?_
        refine wp_istore_n (i := 3) dX6_look_52 rfl rfl rfl ?_
        exact wp_weak [true, true, true, true, true, false] (w_X6_look_53 ih h)
theorem ct_X6_look {D : DT} {l : Launch} {m : Mem} {x0 : Nat} {x1 : Int32} {r : (Int32 × Mem)} (h : F_X6_look x0 x1 m = some r) : Ct D l Y_X6_look [.ref x0, .int x1] m (fun (v : Option Value) (N : Mem) => v = some (Value.int r.1) ∧ N = r.2) := by
  refine ct_of (by decide) (by rfl) (ls0 := [.ref x0, .int x1, JK, JK, JK, JK]) rfl rfl ?_
  have h : HI (F_X6_look x0 x1 m) (fun (v : Option Value) (N : Mem) => v = some (Value.int r.1) ∧ N = r.2) := ⟨r.1, r.2, h, rfl, rfl⟩
  revert h
  generalize (fun (v : Option Value) (N : Mem) => v = some (Value.int r.1) ∧ N = r.2) = post
  intro h
  refine wp_iload_n (i := 1) dX6_look_0 rfl rfl ?_
  refine wp_iconst (v := 0) dX6_look_1 (by decide) ?_
  refine wp_iconst (v := 1) dX6_look_2 (by decide) ?_
  obtain ⟨v7, ev7, h⟩ := HI.bind h
  refine cgS_i (Y' := Y_X6_outside) (kc2 := 0) (ks2 := 0) dX6_look_3 ml_X6_73 ce_X6_outside ⟨(Nat.le_of_ble_eq_true rfl), (Nat.le_of_ble_eq_true rfl)⟩ ⟨(Nat.le_of_ble_eq_true rfl), (Nat.le_of_ble_eq_true rfl)⟩ rfl rfl (ct_X6_outside ev7) rfl rfl (Nat.le_of_ble_eq_true rfl) ?_
  refine wp_if_eq (tgt := 11) dX6_look_6 (by decide) (fun c8 => ?_) (fun c8 => ?_)
  · have h := HI.t c8 h
    refine wp_aload_n (i := 0) dX6_look_11 rfl rfl ?_
    obtain ⟨v10, ev10, h⟩ := HI.bind h
    obtain ⟨v9, ev9, h⟩ := HI.bind h
    refine cgV_v (Y' := Y_X6_markYardsOfRings) (kc2 := 0) (ks2 := 0) dX6_look_12 ml_X6_194 ce_X6_markYardsOfRings (t := 6) rfl (by decide) ⟨(Nat.le_of_ble_eq_true rfl), (Nat.le_of_ble_eq_true rfl)⟩ ⟨(Nat.le_of_ble_eq_true rfl), (Nat.le_of_ble_eq_true rfl)⟩ rfl rfl (chkT_eq ev10) (ct_X6_markYardsOfRings ev9) rfl rfl (Nat.le_of_ble_eq_true rfl) ?_
    refine wp_iconst (v := 0) dX6_look_15 (by decide) ?_
    refine wp_istore_n (i := 2) dX6_look_16 rfl rfl rfl ?_
    refine wp_iconst (v := 0) dX6_look_17 (by decide) ?_
    refine wp_istore_n (i := 3) dX6_look_18 rfl rfl rfl ?_
    refine wp_iconst (v := 0) dX6_look_19 (by decide) ?_
    refine wp_istore dX6_look_20 rfl rfl ?_
    exact (w_X6_look_22 _ _ _ _ _ _ _ h)
  · have h := HI.f c8 h
    refine wp_iconst (v := -1) dX6_look_9 (by decide) ?_
    exact wp_iret dX6_look_10 rfl rfl (Nat.le_of_ble_eq_true rfl) (Nat.le_of_ble_eq_true rfl) (HI.some h)
theorem ct_X6_forget {D : DT} {l : Launch} {m : Mem} {x0 : Nat} {r : (Int32 × Mem)} (h : F_X6_forget x0 m = some r) : Ct D l Y_X6_forget [.ref x0] m (fun (v : Option Value) (N : Mem) => v = some (Value.int r.1) ∧ N = r.2) := by
  refine ct_of (by decide) (by rfl) (ls0 := [.ref x0]) rfl rfl ?_
  have h : HI (F_X6_forget x0 m) (fun (v : Option Value) (N : Mem) => v = some (Value.int r.1) ∧ N = r.2) := ⟨r.1, r.2, h, rfl, rfl⟩
  revert h
  generalize (fun (v : Option Value) (N : Mem) => v = some (Value.int r.1) ∧ N = r.2) = post
  intro h
  refine wp_aload_n (i := 0) dX6_forget_0 rfl rfl ?_
  obtain ⟨v1, ev1, h⟩ := HI.bind h
  refine wp_getR cl6 (f := 5) (by decide) rfl fl_X6_41 dX6_forget_1 ev1 ?_
  obtain ⟨v3, ev3, h⟩ := HI.bind h
  obtain ⟨v2, ev2, h⟩ := HI.bind h
  refine cgV_i (Y' := Y_X1_empty) (kc2 := 0) (ks2 := 0) dX6_forget_4 ml_X6_99 ce_X1_empty (t := 1) rfl (by decide) ⟨(Nat.le_of_ble_eq_true rfl), (Nat.le_of_ble_eq_true rfl)⟩ ⟨(Nat.le_of_ble_eq_true rfl), (Nat.le_of_ble_eq_true rfl)⟩ rfl rfl (chkT_eq ev3) (ct_X1_empty ev2) rfl rfl (Nat.le_of_ble_eq_true rfl) ?_
  refine wp_aload_n (i := 0) dX6_forget_7 rfl rfl ?_
  obtain ⟨v4, ev4, h⟩ := HI.bind h
  refine wp_getR cl6 (f := 6) (by decide) rfl fl_X6_45 dX6_forget_8 ev4 ?_
  obtain ⟨v6, ev6, h⟩ := HI.bind h
  obtain ⟨v5, ev5, h⟩ := HI.bind h
  refine cgV_i (Y' := Y_X1_empty) (kc2 := 0) (ks2 := 0) dX6_forget_11 ml_X6_99 ce_X1_empty (t := 1) rfl (by decide) ⟨(Nat.le_of_ble_eq_true rfl), (Nat.le_of_ble_eq_true rfl)⟩ ⟨(Nat.le_of_ble_eq_true rfl), (Nat.le_of_ble_eq_true rfl)⟩ rfl rfl (chkT_eq ev6) (ct_X1_empty ev5) rfl rfl (Nat.le_of_ble_eq_true rfl) ?_
  refine wp_iadd dX6_forget_14 ?_
  exact wp_iret dX6_forget_15 rfl rfl (Nat.le_of_ble_eq_true rfl) (Nat.le_of_ble_eq_true rfl) (HI.some h)
theorem w_X6_powerOfTen_4 {D : DT} {l : Launch} {post : Option Value → Mem → Prop} {m : Mem} : ∀ (n : Nat) (x0 : Int32) (x1 : Int32) (x2 : Int32), PI m (F_X6_powerOfTen_4 n x0 x1 x2) post → WP D l Y_X6_powerOfTen 0 0 4 [.int x0, .int x1, .int x2] [] m post := by
  intro n
  induction n with
  | zero => intro x0 x1 x2 h; exact (PI.none h).elim
  | succ n ih =>
    intro x0 x1 x2 h
    refine wp_iload_n (i := 2) dX6_powerOfTen_4 rfl rfl ?_
    refine wp_iload_n (i := 0) dX6_powerOfTen_5 rfl rfl ?_
    refine wp_icmp_ge (tgt := 20) dX6_powerOfTen_6 (by decide) (fun c1 => ?_) (fun c1 => ?_)
    · have h := PI.t c1 h
      refine wp_iload_n (i := 1) dX6_powerOfTen_20 rfl rfl ?_
      exact wp_iret dX6_powerOfTen_21 rfl rfl (Nat.le_of_ble_eq_true rfl) (Nat.le_of_ble_eq_true rfl) (PI.some h)
    · have h := PI.f c1 h
      refine wp_iload_n (i := 1) dX6_powerOfTen_9 rfl rfl ?_
      refine wp_bipush (v := 10) dX6_powerOfTen_10 (by decide) ?_
      refine wp_imul dX6_powerOfTen_12 ?_
      refine wp_istore_n (i := 1) dX6_powerOfTen_13 rfl rfl rfl ?_
      refine wp_iinc (v := 1) dX6_powerOfTen_14 rfl (by decide) rfl rfl ?_
      refine wp_goto (tgt := 4) dX6_powerOfTen_17 (by decide) ?_
      exact (ih _ _ _ h)
theorem ct_X6_powerOfTen {D : DT} {l : Launch} {m : Mem} {x0 : Int32} {r : Int32} (h : F_X6_powerOfTen x0 = some r) : Ct D l Y_X6_powerOfTen [.int x0] m (fun (v : Option Value) (N : Mem) => v = some (Value.int r) ∧ N = m) := by
  refine ct_of (by decide) (by rfl) (ls0 := [.int x0, JK, JK]) rfl rfl ?_
  have h : PI m (F_X6_powerOfTen x0) (fun (v : Option Value) (N : Mem) => v = some (Value.int r) ∧ N = m) := ⟨r, h, rfl, rfl⟩
  revert h
  generalize (fun (v : Option Value) (N : Mem) => v = some (Value.int r) ∧ N = m) = post
  intro h
  refine wp_iconst (v := 1) dX6_powerOfTen_0 (by decide) ?_
  refine wp_istore_n (i := 1) dX6_powerOfTen_1 rfl rfl rfl ?_
  refine wp_iconst (v := 0) dX6_powerOfTen_2 (by decide) ?_
  refine wp_istore_n (i := 2) dX6_powerOfTen_3 rfl rfl rfl ?_
  exact (w_X6_powerOfTen_4 _ _ _ _ h)
theorem w_X6_commonDivisor_7 {D : DT} {l : Launch} {post : Option Value → Mem → Prop} {m : Mem} : ∀ (n : Nat) (x2 : Int32) (x3 : Int32) (x4 : Int32), PI m (F_X6_commonDivisor_7 n x2 x3 x4) post → WP D l Y_X6_commonDivisor 0 0 7 [JK, JK, .int x2, .int x3, .int x4, JK] [] m post := by
  intro n
  induction n with
  | zero => intro x2 x3 x4 h; exact (PI.none h).elim
  | succ n ih =>
    intro x2 x3 x4 h
    refine wp_iload dX6_commonDivisor_7 rfl ?_
    refine wp_bipush (v := 100) dX6_commonDivisor_9 (by decide) ?_
    refine wp_icmp_ge (tgt := 34) dX6_commonDivisor_11 (by decide) (fun c1 => ?_) (fun c1 => ?_)
    · have h := PI.t c1 h
      refine wp_iload_n (i := 2) dX6_commonDivisor_34 rfl rfl ?_
      exact wp_iret dX6_commonDivisor_35 rfl rfl (Nat.le_of_ble_eq_true rfl) (Nat.le_of_ble_eq_true rfl) (PI.some h)
    · have h := PI.f c1 h
      refine wp_iload_n (i := 3) dX6_commonDivisor_14 rfl rfl ?_
      refine wp_if_eq (tgt := 34) dX6_commonDivisor_15 (by decide) (fun c2 => ?_) (fun c2 => ?_)
      · have h := PI.t c2 h
        refine wp_iload_n (i := 2) dX6_commonDivisor_34 rfl rfl ?_
        exact wp_iret dX6_commonDivisor_35 rfl rfl (Nat.le_of_ble_eq_true rfl) (Nat.le_of_ble_eq_true rfl) (PI.some h)
      · have h := PI.f c2 h
        refine wp_iload_n (i := 2) dX6_commonDivisor_18 rfl rfl ?_
        refine wp_iload_n (i := 3) dX6_commonDivisor_19 rfl rfl ?_
        have c3 : ¬ x3 = 0 := fun q => (PI.none (PI.t q h)).elim
        have h := PI.f c3 h
        refine wp_irem dX6_commonDivisor_20 c3 ?_
        refine wp_istore dX6_commonDivisor_21 rfl rfl ?_
        refine wp_iload_n (i := 3) dX6_commonDivisor_23 rfl rfl ?_
        refine wp_istore_n (i := 2) dX6_commonDivisor_24 rfl rfl rfl ?_
        refine wp_iload dX6_commonDivisor_25 rfl ?_
        refine wp_istore_n (i := 3) dX6_commonDivisor_27 rfl rfl rfl ?_
        refine wp_iinc (v := 1) dX6_commonDivisor_28 rfl (by decide) rfl rfl ?_
        refine wp_goto (tgt := 7) dX6_commonDivisor_31 (by decide) ?_
        exact wp_weak [true, true, true, true, true, false] (ih _ _ _ h)
theorem ct_X6_commonDivisor {D : DT} {l : Launch} {m : Mem} {x0 : Int32} {x1 : Int32} {r : Int32} (h : F_X6_commonDivisor x0 x1 = some r) : Ct D l Y_X6_commonDivisor [.int x0, .int x1] m (fun (v : Option Value) (N : Mem) => v = some (Value.int r) ∧ N = m) := by
  refine ct_of (by decide) (by rfl) (ls0 := [.int x0, .int x1, JK, JK, JK, JK]) rfl rfl ?_
  have h : PI m (F_X6_commonDivisor x0 x1) (fun (v : Option Value) (N : Mem) => v = some (Value.int r) ∧ N = m) := ⟨r, h, rfl, rfl⟩
  revert h
  generalize (fun (v : Option Value) (N : Mem) => v = some (Value.int r) ∧ N = m) = post
  intro h
  refine wp_iload_n (i := 0) dX6_commonDivisor_0 rfl rfl ?_
  refine wp_istore_n (i := 2) dX6_commonDivisor_1 rfl rfl rfl ?_
  refine wp_iload_n (i := 1) dX6_commonDivisor_2 rfl rfl ?_
  refine wp_istore_n (i := 3) dX6_commonDivisor_3 rfl rfl rfl ?_
  refine wp_iconst (v := 0) dX6_commonDivisor_4 (by decide) ?_
  refine wp_istore dX6_commonDivisor_5 rfl rfl ?_
  exact wp_weak [false, false, true, true, true, true] (w_X6_commonDivisor_7 _ _ _ _ h)
theorem w_X6_likely_106 {D : DT} {l : Launch} {post : Option Value → Mem → Prop} {x3 : Int32} {x5 : Int32} {x6 : Int32} {m : Mem} (h : HI (F_X6_likely_106 x3 x5 x6 m) post) : WP D l Y_X6_likely 0 0 106 [JK, JK, JK, .int x3, JK, .int x5, .int x6, JK, JK] [] m post := by
  refine wp_iload_n (i := 3) dX6_likely_106 rfl rfl ?_
  obtain ⟨v1, ev1, h⟩ := HI.bind h
  refine cgS_i (Y' := Y_X6_powerOfTen) (kc2 := 0) (ks2 := 0) dX6_likely_107 ml_X6_204 ce_X6_powerOfTen ⟨(Nat.le_of_ble_eq_true rfl), (Nat.le_of_ble_eq_true rfl)⟩ ⟨(Nat.le_of_ble_eq_true rfl), (Nat.le_of_ble_eq_true rfl)⟩ rfl rfl (ct_X6_powerOfTen ev1) rfl rfl (Nat.le_of_ble_eq_true rfl) ?_
  refine wp_istore dX6_likely_110 rfl rfl ?_
  refine wp_iconst (v := 1) dX6_likely_112 (by decide) ?_
  refine wp_iload dX6_likely_113 rfl ?_
  refine wp_iload dX6_likely_115 rfl ?_
  obtain ⟨v2, ev2, h⟩ := HI.bind h
  refine cgS_i (Y' := Y_X6_commonDivisor) (kc2 := 0) (ks2 := 0) dX6_likely_117 ml_X6_207 ce_X6_commonDivisor ⟨(Nat.le_of_ble_eq_true rfl), (Nat.le_of_ble_eq_true rfl)⟩ ⟨(Nat.le_of_ble_eq_true rfl), (Nat.le_of_ble_eq_true rfl)⟩ rfl rfl (ct_X6_commonDivisor ev2) rfl rfl (Nat.le_of_ble_eq_true rfl) ?_
  refine wp_max ml_X6_210 maxw1 maxw2 maxw3 dX6_likely_120 (Nat.le_of_ble_eq_true rfl) (Nat.le_of_ble_eq_true rfl) (Nat.le_of_ble_eq_true rfl) (Nat.le_of_ble_eq_true rfl) ?_
  refine wp_istore dX6_likely_123 rfl rfl ?_
  refine wp_iload dX6_likely_125 rfl ?_
  refine wp_if_ne (tgt := 138) dX6_likely_127 (by decide) (fun c3 => ?_) (fun c3 => ?_)
  · have h := HI.f c3 h
    refine wp_iload dX6_likely_138 rfl ?_
    refine wp_iload dX6_likely_140 rfl ?_
    have c4 : ¬ (jmax (1 : Int32) v2) = 0 := fun q => (HI.none (HI.t q h)).elim
    have h := HI.f c4 h
    refine wp_idiv dX6_likely_142 c4 ?_
    exact wp_iret dX6_likely_143 rfl rfl (Nat.le_of_ble_eq_true rfl) (Nat.le_of_ble_eq_true rfl) (HI.some h)
  · have h := HI.t c3 h
    refine wp_iload dX6_likely_130 rfl ?_
    refine wp_iload dX6_likely_132 rfl ?_
    have c5 : ¬ (jmax (1 : Int32) v2) = 0 := fun q => (HI.none (HI.t q h)).elim
    have h := HI.f c5 h
    refine wp_idiv dX6_likely_134 c5 ?_
    refine wp_goto (tgt := 143) dX6_likely_135 (by decide) ?_
    exact wp_iret dX6_likely_143 rfl rfl (Nat.le_of_ble_eq_true rfl) (Nat.le_of_ble_eq_true rfl) (HI.some h)
theorem ct_X6_likely {D : DT} {l : Launch} {m : Mem} {x0 : Nat} {x1 : Int32} {x2 : Int32} {x3 : Int32} {x4 : Int32} {x5 : Int32} {r : (Int32 × Mem)} (h : F_X6_likely x0 x1 x2 x3 x4 x5 m = some r) : Ct D l Y_X6_likely [.ref x0, .int x1, .int x2, .int x3, .int x4, .int x5] m (fun (v : Option Value) (N : Mem) => v = some (Value.int r.1) ∧ N = r.2) := by
  refine ct_of (by decide) (by rfl) (ls0 := [.ref x0, .int x1, .int x2, .int x3, .int x4, .int x5, JK, JK, JK]) rfl rfl ?_
  have h : HI (F_X6_likely x0 x1 x2 x3 x4 x5 m) (fun (v : Option Value) (N : Mem) => v = some (Value.int r.1) ∧ N = r.2) := ⟨r.1, r.2, h, rfl, rfl⟩
  revert h
  generalize (fun (v : Option Value) (N : Mem) => v = some (Value.int r.1) ∧ N = r.2) = post
  intro h
  refine wp_aload_n (i := 0) dX6_likely_0 rfl rfl ?_
  refine wp_iload_n (i := 1) dX6_likely_1 rfl rfl ?_
  refine wp_iload_n (i := 2) dX6_likely_2 rfl rfl ?_
  obtain ⟨v7, ev7, h⟩ := HI.bind h
  obtain ⟨v6, ev6, h⟩ := HI.bind h
  refine cgV_i (Y' := Y_X6_noPair) (kc2 := 0) (ks2 := 0) dX6_likely_3 ml_X6_122 ce_X6_noPair (t := 6) rfl (by decide) ⟨(Nat.le_of_ble_eq_true rfl), (Nat.le_of_ble_eq_true rfl)⟩ ⟨(Nat.le_of_ble_eq_true rfl), (Nat.le_of_ble_eq_true rfl)⟩ rfl rfl (chkT_eq ev7) (ct_X6_noPair ev6) rfl rfl (Nat.le_of_ble_eq_true rfl) ?_
  refine wp_if_ne (tgt := 40) dX6_likely_6 (by decide) (fun c8 => ?_) (fun c8 => ?_)
  · have h := HI.f c8 h
    refine wp_iconst (v := -1) dX6_likely_40 (by decide) ?_
    exact wp_iret dX6_likely_41 rfl rfl (Nat.le_of_ble_eq_true rfl) (Nat.le_of_ble_eq_true rfl) (HI.some h)
  · have h := HI.t c8 h
    refine wp_iload_n (i := 3) dX6_likely_9 rfl rfl ?_
    refine wp_iconst (v := 0) dX6_likely_10 (by decide) ?_
    refine wp_bipush (v := 7) dX6_likely_11 (by decide) ?_
    obtain ⟨v9, ev9, h⟩ := HI.bind h
    refine cgS_i (Y' := Y_X6_outside) (kc2 := 0) (ks2 := 0) dX6_likely_13 ml_X6_73 ce_X6_outside ⟨(Nat.le_of_ble_eq_true rfl), (Nat.le_of_ble_eq_true rfl)⟩ ⟨(Nat.le_of_ble_eq_true rfl), (Nat.le_of_ble_eq_true rfl)⟩ rfl rfl (ct_X6_outside ev9) rfl rfl (Nat.le_of_ble_eq_true rfl) ?_
    refine wp_if_ne (tgt := 40) dX6_likely_16 (by decide) (fun c10 => ?_) (fun c10 => ?_)
    · have h := HI.f c10 h
      refine wp_iconst (v := -1) dX6_likely_40 (by decide) ?_
      exact wp_iret dX6_likely_41 rfl rfl (Nat.le_of_ble_eq_true rfl) (Nat.le_of_ble_eq_true rfl) (HI.some h)
    · have h := HI.t c10 h
      refine wp_iload dX6_likely_19 rfl ?_
      refine wp_iconst (v := 0) dX6_likely_21 (by decide) ?_
      refine wp_bipush (v := 10) dX6_likely_22 (by decide) ?_
      obtain ⟨v11, ev11, h⟩ := HI.bind h
      refine cgS_i (Y' := Y_X6_outside) (kc2 := 0) (ks2 := 0) dX6_likely_24 ml_X6_73 ce_X6_outside ⟨(Nat.le_of_ble_eq_true rfl), (Nat.le_of_ble_eq_true rfl)⟩ ⟨(Nat.le_of_ble_eq_true rfl), (Nat.le_of_ble_eq_true rfl)⟩ rfl rfl (ct_X6_outside ev11) rfl rfl (Nat.le_of_ble_eq_true rfl) ?_
      refine wp_if_ne (tgt := 40) dX6_likely_27 (by decide) (fun c12 => ?_) (fun c12 => ?_)
      · have h := HI.f c12 h
        refine wp_iconst (v := -1) dX6_likely_40 (by decide) ?_
        exact wp_iret dX6_likely_41 rfl rfl (Nat.le_of_ble_eq_true rfl) (Nat.le_of_ble_eq_true rfl) (HI.some h)
      · have h := HI.t c12 h
        refine wp_iload dX6_likely_30 rfl ?_
        refine wp_iconst (v := 0) dX6_likely_32 (by decide) ?_
        refine wp_iconst (v := 1) dX6_likely_33 (by decide) ?_
        obtain ⟨v13, ev13, h⟩ := HI.bind h
        refine cgS_i (Y' := Y_X6_outside) (kc2 := 0) (ks2 := 0) dX6_likely_34 ml_X6_73 ce_X6_outside ⟨(Nat.le_of_ble_eq_true rfl), (Nat.le_of_ble_eq_true rfl)⟩ ⟨(Nat.le_of_ble_eq_true rfl), (Nat.le_of_ble_eq_true rfl)⟩ rfl rfl (ct_X6_outside ev13) rfl rfl (Nat.le_of_ble_eq_true rfl) ?_
        refine wp_if_eq (tgt := 42) dX6_likely_37 (by decide) (fun c14 => ?_) (fun c14 => ?_)
        · have h := HI.t c14 h
          refine wp_iconst (v := 0) dX6_likely_42 (by decide) ?_
          refine wp_istore dX6_likely_43 rfl rfl ?_
          refine wp_aload_n (i := 0) dX6_likely_45 rfl rfl ?_
          obtain ⟨v15, ev15, h⟩ := HI.bind h
          refine wp_getR cl6 (f := 1) (by decide) rfl fl_X6_19 dX6_likely_46 ev15 ?_
          refine wp_iload_n (i := 1) dX6_likely_49 rfl rfl ?_
          refine wp_iload_n (i := 2) dX6_likely_50 rfl rfl ?_
          obtain ⟨v17, ev17, h⟩ := HI.bind h
          obtain ⟨v16, ev16, h⟩ := HI.bind h
          refine cgV_i (Y' := Y_X5_shareWreath) (kc2 := 0) (ks2 := 0) dX6_likely_51 ml_X6_170 ce_X5_shareWreath (t := 5) rfl (by decide) ⟨(Nat.le_of_ble_eq_true rfl), (Nat.le_of_ble_eq_true rfl)⟩ ⟨(Nat.le_of_ble_eq_true rfl), (Nat.le_of_ble_eq_true rfl)⟩ rfl rfl (chkT_eq ev17) (ct_X5_shareWreath ev16) rfl rfl (Nat.le_of_ble_eq_true rfl) ?_
          refine wp_if_eq (tgt := 106) dX6_likely_54 (by decide) (fun c18 => ?_) (fun c18 => ?_)
          · have h := HI.t c18 h
            exact wp_weak [false, false, false, true, false, true, true, true, true] (w_X6_likely_106 h)
          · have h := HI.f c18 h
            refine wp_aload_n (i := 0) dX6_likely_57 rfl rfl ?_
            obtain ⟨v19, ev19, h⟩ := HI.bind h
            refine wp_getR cl6 (f := 8) (by decide) rfl fl_X6_58 dX6_likely_58 ev19 ?_
            refine wp_aload_n (i := 0) dX6_likely_61 rfl rfl ?_
            obtain ⟨v20, ev20, h⟩ := HI.bind h
            refine wp_getR cl6 (f := 1) (by decide) rfl fl_X6_19 dX6_likely_62 ev20 ?_
            refine wp_iload_n (i := 1) dX6_likely_65 rfl rfl ?_
            refine wp_iload_n (i := 3) dX6_likely_66 rfl rfl ?_
            refine wp_iload dX6_likely_67 rfl ?_
            obtain ⟨v22, ev22, h⟩ := HI.bind h
            obtain ⟨v21, ev21, h⟩ := HI.bind h
            refine cgV_v (Y' := Y_X0_follow) (kc2 := 0) (ks2 := 0) dX6_likely_69 ml_X6_197 ce_X0_follow (t := 0) rfl (by decide) ⟨(Nat.le_of_ble_eq_true rfl), (Nat.le_of_ble_eq_true rfl)⟩ ⟨(Nat.le_of_ble_eq_true rfl), (Nat.le_of_ble_eq_true rfl)⟩ rfl rfl (chkT_eq ev22) (ct_X0_follow ev21) rfl rfl (Nat.le_of_ble_eq_true rfl) ?_
            refine wp_aload_n (i := 0) dX6_likely_72 rfl rfl ?_
            obtain ⟨v23, ev23, h⟩ := HI.bind h
            refine wp_getR cl6 (f := 8) (by decide) rfl fl_X6_58 dX6_likely_73 ev23 ?_
            refine wp_aload_n (i := 0) dX6_likely_76 rfl rfl ?_
            obtain ⟨v24, ev24, h⟩ := HI.bind h
            refine wp_getR cl6 (f := 1) (by decide) rfl fl_X6_19 dX6_likely_77 ev24 ?_
            refine wp_iload_n (i := 3) dX6_likely_80 rfl rfl ?_
            refine wp_iload_n (i := 2) dX6_likely_81 rfl rfl ?_
            refine wp_aload_n (i := 0) dX6_likely_82 rfl rfl ?_
            obtain ⟨v25, ev25, h⟩ := HI.bind h
            refine wp_getR cl6 (f := 1) (by decide) rfl fl_X6_19 dX6_likely_83 ev25 ?_
            refine wp_iload_n (i := 2) dX6_likely_86 rfl rfl ?_
            obtain ⟨v27, ev27, h⟩ := HI.bind h
            obtain ⟨v26, ev26, h⟩ := HI.bind h
            refine cgV_i (Y' := Y_X5_kindOf) (kc2 := 0) (ks2 := 0) dX6_likely_87 ml_X6_106 ce_X5_kindOf (t := 5) rfl (by decide) ⟨(Nat.le_of_ble_eq_true rfl), (Nat.le_of_ble_eq_true rfl)⟩ ⟨(Nat.le_of_ble_eq_true rfl), (Nat.le_of_ble_eq_true rfl)⟩ rfl rfl (chkT_eq ev27) (ct_X5_kindOf ev26) rfl rfl (Nat.le_of_ble_eq_true rfl) ?_
            refine wp_aload_n (i := 0) dX6_likely_90 rfl rfl ?_
            obtain ⟨v28, ev28, h⟩ := HI.bind h
            refine wp_getR cl6 (f := 1) (by decide) rfl fl_X6_19 dX6_likely_91 ev28 ?_
            refine wp_iload_n (i := 2) dX6_likely_94 rfl rfl ?_
            obtain ⟨v30, ev30, h⟩ := HI.bind h
            obtain ⟨v29, ev29, h⟩ := HI.bind h
            refine cgV_i (Y' := Y_X5_paceOf) (kc2 := 0) (ks2 := 0) dX6_likely_95 ml_X6_119 ce_X5_paceOf (t := 5) rfl (by decide) ⟨(Nat.le_of_ble_eq_true rfl), (Nat.le_of_ble_eq_true rfl)⟩ ⟨(Nat.le_of_ble_eq_true rfl), (Nat.le_of_ble_eq_true rfl)⟩ rfl rfl (chkT_eq ev30) (ct_X5_paceOf ev29) rfl rfl (Nat.le_of_ble_eq_true rfl) ?_
            obtain ⟨v32, ev32, h⟩ := HI.bind h
            obtain ⟨v31, ev31, h⟩ := HI.bind h
            refine cgV_i (Y' := Y_X5_yardBehind) (kc2 := 0) (ks2 := 0) dX6_likely_98 ml_X6_163 ce_X5_yardBehind (t := 5) rfl (by decide) ⟨(Nat.le_of_ble_eq_true rfl), (Nat.le_of_ble_eq_true rfl)⟩ ⟨(Nat.le_of_ble_eq_true rfl), (Nat.le_of_ble_eq_true rfl)⟩ rfl rfl (chkT_eq ev32) (ct_X5_yardBehind ev31) rfl rfl (Nat.le_of_ble_eq_true rfl) ?_
            obtain ⟨v34, ev34, h⟩ := HI.bind h
            obtain ⟨v33, ev33, h⟩ := HI.bind h
            refine cgV_i (Y' := Y_X0_weightAt) (kc2 := 0) (ks2 := 0) dX6_likely_101 ml_X6_201 ce_X0_weightAt (t := 0) rfl (by decide) ⟨(Nat.le_of_ble_eq_true rfl), (Nat.le_of_ble_eq_true rfl)⟩ ⟨(Nat.le_of_ble_eq_true rfl), (Nat.le_of_ble_eq_true rfl)⟩ rfl rfl (chkT_eq ev34) (ct_X0_weightAt ev33) rfl rfl (Nat.le_of_ble_eq_true rfl) ?_
            refine wp_istore dX6_likely_104 rfl rfl ?_
            exact wp_weak [false, false, false, true, false, true, true, true, true] (w_X6_likely_106 h)
        · have h := HI.f c14 h
          refine wp_iconst (v := -1) dX6_likely_40 (by decide) ?_
          exact wp_iret dX6_likely_41 rfl rfl (Nat.le_of_ble_eq_true rfl) (Nat.le_of_ble_eq_true rfl) (HI.some h)
theorem ct_X6_draw {D : DT} {l : Launch} {m : Mem} {x0 : Int32} {x1 : Int32} {r : Int32} (h : F_X6_draw x0 x1 = some r) : Ct D l Y_X6_draw [.int x0, .int x1] m (fun (v : Option Value) (N : Mem) => v = some (Value.int r) ∧ N = m) := by
  refine ct_of (by decide) (by rfl) (ls0 := [.int x0, .int x1, JK, JK]) rfl rfl ?_
  have h : PI m (F_X6_draw x0 x1) (fun (v : Option Value) (N : Mem) => v = some (Value.int r) ∧ N = m) := ⟨r, h, rfl, rfl⟩
  revert h
  generalize (fun (v : Option Value) (N : Mem) => v = some (Value.int r) ∧ N = m) = post
  intro h
  refine wp_ldc2 dX6_draw_0 cw_X6_243 ?_
  refine wp_iload_n (i := 0) dX6_draw_3 rfl rfl ?_
  refine wp_i2l dX6_draw_4 ?_
  refine wp_lmul dX6_draw_5 ?_
  refine wp_ldc2 dX6_draw_6 cw_X6_245 ?_
  refine wp_iload_n (i := 1) dX6_draw_9 rfl rfl ?_
  refine wp_i2l dX6_draw_10 ?_
  refine wp_lmul dX6_draw_11 ?_
  refine wp_ladd dX6_draw_12 ?_
  refine wp_lconst (v := 1) dX6_draw_13 (by decide) ?_
  refine wp_ladd dX6_draw_14 ?_
  refine wp_lstore_n (i := 2) dX6_draw_15 rfl rfl rfl ?_
  refine wp_lload_n (i := 2) dX6_draw_16 rfl rfl ?_
  refine wp_lload_n (i := 2) dX6_draw_17 rfl rfl ?_
  refine wp_lmul dX6_draw_18 ?_
  refine wp_ldc2 dX6_draw_19 cw_X6_247 ?_
  refine wp_lrem dX6_draw_22 (by decide) ?_
  refine wp_ldc2 dX6_draw_23 cw_X6_249 ?_
  refine wp_ldiv dX6_draw_26 (by decide) ?_
  refine wp_l2i dX6_draw_27 ?_
  exact wp_iret dX6_draw_28 rfl rfl (Nat.le_of_ble_eq_true rfl) (Nat.le_of_ble_eq_true rfl) (PI.some h)
theorem w_X6_season_49 {D : DT} {l : Launch} {post : Option Value → Mem → Prop} : ∀ (n : Nat) (x0 : Nat) (x1 : Int32) (x2 : Int32) (x3 : Int32) (x4 : Int32) (x5 : Int32) (m : Mem), HI (F_X6_season_49 n x0 x1 x2 x3 x4 x5 m) post → WP D l Y_X6_season 0 0 49 [.ref x0, .int x1, .int x2, .int x3, .int x4, .int x5] [] m post := by
  intro n
  induction n with
  | zero => intro x0 x1 x2 x3 x4 x5 m h; exact (HI.none h).elim
  | succ n ih =>
    intro x0 x1 x2 x3 x4 x5 m h
    refine wp_iload dX6_season_49 rfl ?_
    refine wp_iload_n (i := 2) dX6_season_51 rfl rfl ?_
    refine wp_icmp_ge (tgt := 87) dX6_season_52 (by decide) (fun c1 => ?_) (fun c1 => ?_)
    · have h := HI.t c1 h
      refine wp_iload_n (i := 3) dX6_season_87 rfl rfl ?_
      by_cases c2 : x3 = 0
      · have h := HI.t c2 h
        refine wp_ls (tgt := 116) (off := 28) dX6_season_88 (by decide) (by rw [c2]; decide) (by decide) ?_
        refine wp_iload dX6_season_116 rfl ?_
        exact wp_iret dX6_season_118 rfl rfl (Nat.le_of_ble_eq_true rfl) (Nat.le_of_ble_eq_true rfl) (HI.some h)
      have h := HI.f c2 h
      by_cases c3 : x3 = 1
      · have h := HI.t c3 h
        refine wp_ls (tgt := 119) (off := 31) dX6_season_88 (by decide) (by rw [c3]; decide) (by decide) ?_
        refine wp_aload_n (i := 0) dX6_season_119 rfl rfl ?_
        obtain ⟨v4, ev4, h⟩ := HI.bind h
        refine wp_getR cl6 (f := 2) (by decide) rfl fl_X6_23 dX6_season_120 ev4 ?_
        obtain ⟨v6, ev6, h⟩ := HI.bind h
        obtain ⟨v5, ev5, h⟩ := HI.bind h
        refine cgV_i (Y' := Y_X5_goers) (kc2 := 0) (ks2 := 0) dX6_season_123 ml_X6_221 ce_X5_goers (t := 5) rfl (by decide) ⟨(Nat.le_of_ble_eq_true rfl), (Nat.le_of_ble_eq_true rfl)⟩ ⟨(Nat.le_of_ble_eq_true rfl), (Nat.le_of_ble_eq_true rfl)⟩ rfl rfl (chkT_eq ev6) (ct_X5_goers ev5) rfl rfl (Nat.le_of_ble_eq_true rfl) ?_
        exact wp_iret dX6_season_126 rfl rfl (Nat.le_of_ble_eq_true rfl) (Nat.le_of_ble_eq_true rfl) (HI.some h)
      have h := HI.f c3 h
      refine wp_ls (tgt := 127) (off := 39) dX6_season_88 (by decide) ((lv_osw c2 (by decide)).trans ((lv_osw c3 (by decide)).trans rfl)) (by decide) ?_
      refine wp_aload_n (i := 0) dX6_season_127 rfl rfl ?_
      obtain ⟨v7, ev7, h⟩ := HI.bind h
      refine wp_getR cl6 (f := 2) (by decide) rfl fl_X6_23 dX6_season_128 ev7 ?_
      obtain ⟨v9, ev9, h⟩ := HI.bind h
      obtain ⟨v8, ev8, h⟩ := HI.bind h
      refine cgV_i (Y' := Y_X5_yardsAdded) (kc2 := 0) (ks2 := 0) dX6_season_131 ml_X6_224 ce_X5_yardsAdded (t := 5) rfl (by decide) ⟨(Nat.le_of_ble_eq_true rfl), (Nat.le_of_ble_eq_true rfl)⟩ ⟨(Nat.le_of_ble_eq_true rfl), (Nat.le_of_ble_eq_true rfl)⟩ rfl rfl (chkT_eq ev9) (ct_X5_yardsAdded ev8) rfl rfl (Nat.le_of_ble_eq_true rfl) ?_
      exact wp_iret dX6_season_134 rfl rfl (Nat.le_of_ble_eq_true rfl) (Nat.le_of_ble_eq_true rfl) (HI.some h)
    · have h := HI.f c1 h
      refine wp_aload_n (i := 0) dX6_season_55 rfl rfl ?_
      obtain ⟨v10, ev10, h⟩ := HI.bind h
      refine wp_getR cl6 (f := 2) (by decide) rfl fl_X6_23 dX6_season_56 ev10 ?_
      refine wp_iload_n (i := 1) dX6_season_59 rfl rfl ?_
      refine wp_iload dX6_season_60 rfl ?_
      obtain ⟨v11, ev11, h⟩ := HI.bind h
      refine cgS_i (Y' := Y_X6_draw) (kc2 := 0) (ks2 := 0) dX6_season_62 ml_X6_215 ce_X6_draw ⟨(Nat.le_of_ble_eq_true rfl), (Nat.le_of_ble_eq_true rfl)⟩ ⟨(Nat.le_of_ble_eq_true rfl), (Nat.le_of_ble_eq_true rfl)⟩ rfl rfl (ct_X6_draw ev11) rfl rfl (Nat.le_of_ble_eq_true rfl) ?_
      obtain ⟨v13, ev13, h⟩ := HI.bind h
      obtain ⟨v12, ev12, h⟩ := HI.bind h
      refine cgV_v (Y' := Y_X5_stir) (kc2 := 0) (ks2 := 0) dX6_season_65 ml_X6_218 ce_X5_stir (t := 5) rfl (by decide) ⟨(Nat.le_of_ble_eq_true rfl), (Nat.le_of_ble_eq_true rfl)⟩ ⟨(Nat.le_of_ble_eq_true rfl), (Nat.le_of_ble_eq_true rfl)⟩ rfl rfl (chkT_eq ev13) (ct_X5_stir ev12) rfl rfl (Nat.le_of_ble_eq_true rfl) ?_
      refine wp_iload dX6_season_68 rfl ?_
      refine wp_aload_n (i := 0) dX6_season_70 rfl rfl ?_
      obtain ⟨v14, ev14, h⟩ := HI.bind h
      refine wp_getR cl6 (f := 2) (by decide) rfl fl_X6_23 dX6_season_71 ev14 ?_
      refine wp_iconst (v := 1) dX6_season_74 (by decide) ?_
      obtain ⟨v16, ev16, h⟩ := HI.bind h
      obtain ⟨v15, ev15, h⟩ := HI.bind h
      refine cgV_i (Y' := Y_X5_letDaysGoBy) (kc2 := 0) (ks2 := 0) dX6_season_75 ml_X6_142 ce_X5_letDaysGoBy (t := 5) rfl (by decide) ⟨(Nat.le_of_ble_eq_true rfl), (Nat.le_of_ble_eq_true rfl)⟩ ⟨(Nat.le_of_ble_eq_true rfl), (Nat.le_of_ble_eq_true rfl)⟩ rfl rfl (chkT_eq ev16) (ct_X5_letDaysGoBy ev15) rfl rfl (Nat.le_of_ble_eq_true rfl) ?_
      refine wp_iadd dX6_season_78 ?_
      refine wp_istore dX6_season_79 rfl rfl ?_
      refine wp_iinc (v := 1) dX6_season_81 rfl (by decide) rfl rfl ?_
      refine wp_goto (tgt := 49) dX6_season_84 (by decide) ?_
      exact (ih _ _ _ _ _ _ _ h)
theorem ct_X6_season {D : DT} {l : Launch} {m : Mem} {x0 : Nat} {x1 : Int32} {x2 : Int32} {x3 : Int32} {r : (Int32 × Mem)} (h : F_X6_season x0 x1 x2 x3 m = some r) : Ct D l Y_X6_season [.ref x0, .int x1, .int x2, .int x3] m (fun (v : Option Value) (N : Mem) => v = some (Value.int r.1) ∧ N = r.2) := by
  refine ct_of (by decide) (by rfl) (ls0 := [.ref x0, .int x1, .int x2, .int x3, JK, JK]) rfl rfl ?_
  have h : HI (F_X6_season x0 x1 x2 x3 m) (fun (v : Option Value) (N : Mem) => v = some (Value.int r.1) ∧ N = r.2) := ⟨r.1, r.2, h, rfl, rfl⟩
  revert h
  generalize (fun (v : Option Value) (N : Mem) => v = some (Value.int r.1) ∧ N = r.2) = post
  intro h
  refine wp_iload_n (i := 1) dX6_season_0 rfl rfl ?_
  refine wp_iconst (v := 0) dX6_season_1 (by decide) ?_
  refine wp_sipush (v := 9999) dX6_season_2 (by decide) ?_
  obtain ⟨v17, ev17, h⟩ := HI.bind h
  refine cgS_i (Y' := Y_X6_outside) (kc2 := 0) (ks2 := 0) dX6_season_5 ml_X6_73 ce_X6_outside ⟨(Nat.le_of_ble_eq_true rfl), (Nat.le_of_ble_eq_true rfl)⟩ ⟨(Nat.le_of_ble_eq_true rfl), (Nat.le_of_ble_eq_true rfl)⟩ rfl rfl (ct_X6_outside ev17) rfl rfl (Nat.le_of_ble_eq_true rfl) ?_
  refine wp_if_ne (tgt := 30) dX6_season_8 (by decide) (fun c18 => ?_) (fun c18 => ?_)
  · have h := HI.f c18 h
    refine wp_iconst (v := -1) dX6_season_30 (by decide) ?_
    exact wp_iret dX6_season_31 rfl rfl (Nat.le_of_ble_eq_true rfl) (Nat.le_of_ble_eq_true rfl) (HI.some h)
  · have h := HI.t c18 h
    refine wp_iload_n (i := 2) dX6_season_11 rfl rfl ?_
    refine wp_iconst (v := 1) dX6_season_12 (by decide) ?_
    refine wp_bipush (v := 60) dX6_season_13 (by decide) ?_
    obtain ⟨v19, ev19, h⟩ := HI.bind h
    refine cgS_i (Y' := Y_X6_outside) (kc2 := 0) (ks2 := 0) dX6_season_15 ml_X6_73 ce_X6_outside ⟨(Nat.le_of_ble_eq_true rfl), (Nat.le_of_ble_eq_true rfl)⟩ ⟨(Nat.le_of_ble_eq_true rfl), (Nat.le_of_ble_eq_true rfl)⟩ rfl rfl (ct_X6_outside ev19) rfl rfl (Nat.le_of_ble_eq_true rfl) ?_
    refine wp_if_ne (tgt := 30) dX6_season_18 (by decide) (fun c20 => ?_) (fun c20 => ?_)
    · have h := HI.f c20 h
      refine wp_iconst (v := -1) dX6_season_30 (by decide) ?_
      exact wp_iret dX6_season_31 rfl rfl (Nat.le_of_ble_eq_true rfl) (Nat.le_of_ble_eq_true rfl) (HI.some h)
    · have h := HI.t c20 h
      refine wp_iload_n (i := 3) dX6_season_21 rfl rfl ?_
      refine wp_iconst (v := 0) dX6_season_22 (by decide) ?_
      refine wp_iconst (v := 2) dX6_season_23 (by decide) ?_
      obtain ⟨v21, ev21, h⟩ := HI.bind h
      refine cgS_i (Y' := Y_X6_outside) (kc2 := 0) (ks2 := 0) dX6_season_24 ml_X6_73 ce_X6_outside ⟨(Nat.le_of_ble_eq_true rfl), (Nat.le_of_ble_eq_true rfl)⟩ ⟨(Nat.le_of_ble_eq_true rfl), (Nat.le_of_ble_eq_true rfl)⟩ rfl rfl (ct_X6_outside ev21) rfl rfl (Nat.le_of_ble_eq_true rfl) ?_
      refine wp_if_eq (tgt := 32) dX6_season_27 (by decide) (fun c22 => ?_) (fun c22 => ?_)
      · have h := HI.t c22 h
        refine wp_aload_n (i := 0) dX6_season_32 rfl rfl ?_
        obtain ⟨v23, ev23, h⟩ := HI.bind h
        refine wp_getR cl6 (f := 2) (by decide) rfl fl_X6_23 dX6_season_33 ev23 ?_
        refine wp_aload_n (i := 0) dX6_season_36 rfl rfl ?_
        obtain ⟨v24, ev24, h⟩ := HI.bind h
        refine wp_getR cl6 (f := 1) (by decide) rfl fl_X6_19 dX6_season_37 ev24 ?_
        obtain ⟨v26, ev26, h⟩ := HI.bind h
        obtain ⟨v25, ev25, h⟩ := HI.bind h
        refine cgV_v (Y' := Y_X5_become) (kc2 := 0) (ks2 := 0) dX6_season_40 ml_X6_95 ce_X5_become (t := 5) rfl (by decide) ⟨(Nat.le_of_ble_eq_true rfl), (Nat.le_of_ble_eq_true rfl)⟩ ⟨(Nat.le_of_ble_eq_true rfl), (Nat.le_of_ble_eq_true rfl)⟩ rfl rfl (chkT_eq ev26) (ct_X5_become ev25) rfl rfl (Nat.le_of_ble_eq_true rfl) ?_
        refine wp_iconst (v := 0) dX6_season_43 (by decide) ?_
        refine wp_istore dX6_season_44 rfl rfl ?_
        refine wp_iconst (v := 0) dX6_season_46 (by decide) ?_
        refine wp_istore dX6_season_47 rfl rfl ?_
        exact (w_X6_season_49 _ _ _ _ _ _ _ _ h)
      · have h := HI.f c22 h
        refine wp_iconst (v := -1) dX6_season_30 (by decide) ?_
        exact wp_iret dX6_season_31 rfl rfl (Nat.le_of_ble_eq_true rfl) (Nat.le_of_ble_eq_true rfl) (HI.some h)
theorem ct_X6_keep {D : DT} {l : Launch} {m : Mem} {x0 : Nat} {r : (Int32 × Mem)} (h : F_X6_keep x0 m = some r) : Ct D l Y_X6_keep [.ref x0] m (fun (v : Option Value) (N : Mem) => v = some (Value.int r.1) ∧ N = r.2) := by
  refine ct_of (by decide) (by rfl) (ls0 := [.ref x0]) rfl rfl ?_
  have h : HI (F_X6_keep x0 m) (fun (v : Option Value) (N : Mem) => v = some (Value.int r.1) ∧ N = r.2) := ⟨r.1, r.2, h, rfl, rfl⟩
  revert h
  generalize (fun (v : Option Value) (N : Mem) => v = some (Value.int r.1) ∧ N = r.2) = post
  intro h
  refine wp_aload_n (i := 0) dX6_keep_0 rfl rfl ?_
  obtain ⟨v1, ev1, h⟩ := HI.bind h
  refine wp_getR cl6 (f := 4) (by decide) rfl fl_X6_35 dX6_keep_1 ev1 ?_
  obtain ⟨v3, ev3, h⟩ := HI.bind h
  obtain ⟨v2, ev2, h⟩ := HI.bind h
  refine cgV_i (Y' := Y_X2_isFull) (kc2 := 0) (ks2 := 0) dX6_keep_4 ml_X6_227 ce_X2_isFull (t := 2) rfl (by decide) ⟨(Nat.le_of_ble_eq_true rfl), (Nat.le_of_ble_eq_true rfl)⟩ ⟨(Nat.le_of_ble_eq_true rfl), (Nat.le_of_ble_eq_true rfl)⟩ rfl rfl (chkT_eq ev3) (ct_X2_isFull ev2) rfl rfl (Nat.le_of_ble_eq_true rfl) ?_
  refine wp_if_eq (tgt := 13) dX6_keep_7 (by decide) (fun c4 => ?_) (fun c4 => ?_)
  · have h := HI.t c4 h
    refine wp_aload_n (i := 0) dX6_keep_13 rfl rfl ?_
    obtain ⟨v5, ev5, h⟩ := HI.bind h
    refine wp_getR cl6 (f := 4) (by decide) rfl fl_X6_35 dX6_keep_14 ev5 ?_
    refine wp_aload_n (i := 0) dX6_keep_17 rfl rfl ?_
    obtain ⟨v6, ev6, h⟩ := HI.bind h
    refine wp_getR cl6 (f := 1) (by decide) rfl fl_X6_19 dX6_keep_18 ev6 ?_
    obtain ⟨v8, ev8, h⟩ := HI.bind h
    obtain ⟨v7, ev7, h⟩ := HI.bind h
    refine cgV_v (Y' := Y_X2_put) (kc2 := 0) (ks2 := 0) dX6_keep_21 ml_X6_139 ce_X2_put (t := 2) rfl (by decide) ⟨(Nat.le_of_ble_eq_true rfl), (Nat.le_of_ble_eq_true rfl)⟩ ⟨(Nat.le_of_ble_eq_true rfl), (Nat.le_of_ble_eq_true rfl)⟩ rfl rfl (chkT_eq ev8) (ct_X2_put ev7) rfl rfl (Nat.le_of_ble_eq_true rfl) ?_
    refine wp_aload_n (i := 0) dX6_keep_24 rfl rfl ?_
    obtain ⟨v9, ev9, h⟩ := HI.bind h
    refine wp_getR cl6 (f := 4) (by decide) rfl fl_X6_35 dX6_keep_25 ev9 ?_
    obtain ⟨v11, ev11, h⟩ := HI.bind h
    obtain ⟨v10, ev10, h⟩ := HI.bind h
    refine cgV_i (Y' := Y_X2_size) (kc2 := 0) (ks2 := 0) dX6_keep_28 ml_X6_162 ce_X2_size (t := 2) rfl (by decide) ⟨(Nat.le_of_ble_eq_true rfl), (Nat.le_of_ble_eq_true rfl)⟩ ⟨(Nat.le_of_ble_eq_true rfl), (Nat.le_of_ble_eq_true rfl)⟩ rfl rfl (chkT_eq ev11) (ct_X2_size ev10) rfl rfl (Nat.le_of_ble_eq_true rfl) ?_
    exact wp_iret dX6_keep_31 rfl rfl (Nat.le_of_ble_eq_true rfl) (Nat.le_of_ble_eq_true rfl) (HI.some h)
  · have h := HI.f c4 h
    refine wp_bipush (v := -3) dX6_keep_10 (by decide) ?_
    exact wp_iret dX6_keep_12 rfl rfl (Nat.le_of_ble_eq_true rfl) (Nat.le_of_ble_eq_true rfl) (HI.some h)
theorem ct_X6_back {D : DT} {l : Launch} {m : Mem} {x0 : Nat} {r : (Int32 × Mem)} (h : F_X6_back x0 m = some r) : Ct D l Y_X6_back [.ref x0] m (fun (v : Option Value) (N : Mem) => v = some (Value.int r.1) ∧ N = r.2) := by
  refine ct_of (by decide) (by rfl) (ls0 := [.ref x0]) rfl rfl ?_
  have h : HI (F_X6_back x0 m) (fun (v : Option Value) (N : Mem) => v = some (Value.int r.1) ∧ N = r.2) := ⟨r.1, r.2, h, rfl, rfl⟩
  revert h
  generalize (fun (v : Option Value) (N : Mem) => v = some (Value.int r.1) ∧ N = r.2) = post
  intro h
  refine wp_aload_n (i := 0) dX6_back_0 rfl rfl ?_
  obtain ⟨v1, ev1, h⟩ := HI.bind h
  refine wp_getR cl6 (f := 4) (by decide) rfl fl_X6_35 dX6_back_1 ev1 ?_
  refine wp_aload_n (i := 0) dX6_back_4 rfl rfl ?_
  obtain ⟨v2, ev2, h⟩ := HI.bind h
  refine wp_getR cl6 (f := 1) (by decide) rfl fl_X6_19 dX6_back_5 ev2 ?_
  obtain ⟨v4, ev4, h⟩ := HI.bind h
  obtain ⟨v3, ev3, h⟩ := HI.bind h
  refine cgV_i (Y' := Y_X2_takeInto) (kc2 := 0) (ks2 := 0) dX6_back_8 ml_X6_158 ce_X2_takeInto (t := 2) rfl (by decide) ⟨(Nat.le_of_ble_eq_true rfl), (Nat.le_of_ble_eq_true rfl)⟩ ⟨(Nat.le_of_ble_eq_true rfl), (Nat.le_of_ble_eq_true rfl)⟩ rfl rfl (chkT_eq ev4) (ct_X2_takeInto ev3) rfl rfl (Nat.le_of_ble_eq_true rfl) ?_
  refine wp_if_ne (tgt := 17) dX6_back_11 (by decide) (fun c5 => ?_) (fun c5 => ?_)
  · have h := HI.f c5 h
    refine wp_aload_n (i := 0) dX6_back_17 rfl rfl ?_
    obtain ⟨v6, ev6, h⟩ := HI.bind h
    refine wp_getR cl6 (f := 3) (by decide) rfl fl_X6_31 dX6_back_18 ev6 ?_
    obtain ⟨v8, ev8, h⟩ := HI.bind h
    obtain ⟨v7, ev7, h⟩ := HI.bind h
    refine cgV_v (Y' := Y_X2_empty) (kc2 := 0) (ks2 := 0) dX6_back_21 ml_X6_100 ce_X2_empty (t := 2) rfl (by decide) ⟨(Nat.le_of_ble_eq_true rfl), (Nat.le_of_ble_eq_true rfl)⟩ ⟨(Nat.le_of_ble_eq_true rfl), (Nat.le_of_ble_eq_true rfl)⟩ rfl rfl (chkT_eq ev8) (ct_X2_empty ev7) rfl rfl (Nat.le_of_ble_eq_true rfl) ?_
    refine wp_aload_n (i := 0) dX6_back_24 rfl rfl ?_
    obtain ⟨v9, ev9, h⟩ := HI.bind h
    refine wp_getR cl6 (f := 4) (by decide) rfl fl_X6_35 dX6_back_25 ev9 ?_
    obtain ⟨v11, ev11, h⟩ := HI.bind h
    obtain ⟨v10, ev10, h⟩ := HI.bind h
    refine cgV_i (Y' := Y_X2_size) (kc2 := 0) (ks2 := 0) dX6_back_28 ml_X6_162 ce_X2_size (t := 2) rfl (by decide) ⟨(Nat.le_of_ble_eq_true rfl), (Nat.le_of_ble_eq_true rfl)⟩ ⟨(Nat.le_of_ble_eq_true rfl), (Nat.le_of_ble_eq_true rfl)⟩ rfl rfl (chkT_eq ev11) (ct_X2_size ev10) rfl rfl (Nat.le_of_ble_eq_true rfl) ?_
    exact wp_iret dX6_back_31 rfl rfl (Nat.le_of_ble_eq_true rfl) (Nat.le_of_ble_eq_true rfl) (HI.some h)
  · have h := HI.t c5 h
    refine wp_bipush (v := -2) dX6_back_14 (by decide) ?_
    exact wp_iret dX6_back_16 rfl rfl (Nat.le_of_ble_eq_true rfl) (Nat.le_of_ble_eq_true rfl) (HI.some h)
theorem ct_X6_count {D : DT} {l : Launch} {m : Mem} {x0 : Nat} {x1 : Int32} {r : Int32} (h : F_X6_count x0 x1 m = some r) : Ct D l Y_X6_count [.ref x0, .int x1] m (fun (v : Option Value) (N : Mem) => v = some (Value.int r) ∧ N = m) := by
  refine ct_of (by decide) (by rfl) (ls0 := [.ref x0, .int x1]) rfl rfl ?_
  have h : PI m (F_X6_count x0 x1 m) (fun (v : Option Value) (N : Mem) => v = some (Value.int r) ∧ N = m) := ⟨r, h, rfl, rfl⟩
  revert h
  generalize (fun (v : Option Value) (N : Mem) => v = some (Value.int r) ∧ N = m) = post
  intro h
  refine wp_iload_n (i := 1) dX6_count_0 rfl rfl ?_
  by_cases c1 : x1 = 0
  · have h := PI.t c1 h
    refine wp_tsIn (tgt := 60) (v := 0) (z := 0) (off := 59) dX6_count_1 c1 (by decide) (by decide) (by decide) (by decide) (by decide) ?_
    refine wp_aload_n (i := 0) dX6_count_60 rfl rfl ?_
    obtain ⟨v2, ev2, h⟩ := PI.bind h
    refine wp_getR cl6 (f := 1) (by decide) rfl fl_X6_19 dX6_count_61 ev2 ?_
    obtain ⟨v4, ev4, h⟩ := PI.bind h
    obtain ⟨v3, ev3, h⟩ := PI.bind h
    refine cgV_i (Y' := Y_X5_size) (kc2 := 0) (ks2 := 0) dX6_count_64 ml_X6_92 ce_X5_size (t := 5) rfl (by decide) ⟨(Nat.le_of_ble_eq_true rfl), (Nat.le_of_ble_eq_true rfl)⟩ ⟨(Nat.le_of_ble_eq_true rfl), (Nat.le_of_ble_eq_true rfl)⟩ rfl rfl (chkT_eq ev4) (ct_X5_size ev3) rfl rfl (Nat.le_of_ble_eq_true rfl) ?_
    exact wp_iret dX6_count_67 rfl rfl (Nat.le_of_ble_eq_true rfl) (Nat.le_of_ble_eq_true rfl) (PI.some h)
  have h := PI.f c1 h
  by_cases c5 : x1 = 1
  · have h := PI.t c5 h
    refine wp_tsIn (tgt := 68) (v := 1) (z := 1) (off := 67) dX6_count_1 c5 (by decide) (by decide) (by decide) (by decide) (by decide) ?_
    refine wp_aload_n (i := 0) dX6_count_68 rfl rfl ?_
    obtain ⟨v6, ev6, h⟩ := PI.bind h
    refine wp_getR cl6 (f := 1) (by decide) rfl fl_X6_19 dX6_count_69 ev6 ?_
    obtain ⟨v8, ev8, h⟩ := PI.bind h
    obtain ⟨v7, ev7, h⟩ := PI.bind h
    refine cgV_i (Y' := Y_X5_day) (kc2 := 0) (ks2 := 0) dX6_count_72 ml_X6_136 ce_X5_day (t := 5) rfl (by decide) ⟨(Nat.le_of_ble_eq_true rfl), (Nat.le_of_ble_eq_true rfl)⟩ ⟨(Nat.le_of_ble_eq_true rfl), (Nat.le_of_ble_eq_true rfl)⟩ rfl rfl (chkT_eq ev8) (ct_X5_day ev7) rfl rfl (Nat.le_of_ble_eq_true rfl) ?_
    exact wp_iret dX6_count_75 rfl rfl (Nat.le_of_ble_eq_true rfl) (Nat.le_of_ble_eq_true rfl) (PI.some h)
  have h := PI.f c5 h
  by_cases c9 : x1 = 2
  · have h := PI.t c9 h
    refine wp_tsIn (tgt := 76) (v := 2) (z := 2) (off := 75) dX6_count_1 c9 (by decide) (by decide) (by decide) (by decide) (by decide) ?_
    refine wp_aload_n (i := 0) dX6_count_76 rfl rfl ?_
    obtain ⟨v10, ev10, h⟩ := PI.bind h
    refine wp_getR cl6 (f := 1) (by decide) rfl fl_X6_19 dX6_count_77 ev10 ?_
    obtain ⟨v12, ev12, h⟩ := PI.bind h
    obtain ⟨v11, ev11, h⟩ := PI.bind h
    refine cgV_i (Y' := Y_X5_goers) (kc2 := 0) (ks2 := 0) dX6_count_80 ml_X6_221 ce_X5_goers (t := 5) rfl (by decide) ⟨(Nat.le_of_ble_eq_true rfl), (Nat.le_of_ble_eq_true rfl)⟩ ⟨(Nat.le_of_ble_eq_true rfl), (Nat.le_of_ble_eq_true rfl)⟩ rfl rfl (chkT_eq ev12) (ct_X5_goers ev11) rfl rfl (Nat.le_of_ble_eq_true rfl) ?_
    exact wp_iret dX6_count_83 rfl rfl (Nat.le_of_ble_eq_true rfl) (Nat.le_of_ble_eq_true rfl) (PI.some h)
  have h := PI.f c9 h
  by_cases c13 : x1 = 3
  · have h := PI.t c13 h
    refine wp_tsIn (tgt := 84) (v := 3) (z := 3) (off := 83) dX6_count_1 c13 (by decide) (by decide) (by decide) (by decide) (by decide) ?_
    refine wp_aload_n (i := 0) dX6_count_84 rfl rfl ?_
    obtain ⟨v14, ev14, h⟩ := PI.bind h
    refine wp_getR cl6 (f := 1) (by decide) rfl fl_X6_19 dX6_count_85 ev14 ?_
    refine wp_iconst (v := 2) dX6_count_88 (by decide) ?_
    obtain ⟨v16, ev16, h⟩ := PI.bind h
    obtain ⟨v15, ev15, h⟩ := PI.bind h
    refine cgV_i (Y' := Y_X5_pairs) (kc2 := 0) (ks2 := 0) dX6_count_89 ml_X6_231 ce_X5_pairs (t := 5) rfl (by decide) ⟨(Nat.le_of_ble_eq_true rfl), (Nat.le_of_ble_eq_true rfl)⟩ ⟨(Nat.le_of_ble_eq_true rfl), (Nat.le_of_ble_eq_true rfl)⟩ rfl rfl (chkT_eq ev16) (ct_X5_pairs ev15) rfl rfl (Nat.le_of_ble_eq_true rfl) ?_
    exact wp_iret dX6_count_92 rfl rfl (Nat.le_of_ble_eq_true rfl) (Nat.le_of_ble_eq_true rfl) (PI.some h)
  have h := PI.f c13 h
  by_cases c17 : x1 = 4
  · have h := PI.t c17 h
    refine wp_tsIn (tgt := 93) (v := 4) (z := 4) (off := 92) dX6_count_1 c17 (by decide) (by decide) (by decide) (by decide) (by decide) ?_
    refine wp_aload_n (i := 0) dX6_count_93 rfl rfl ?_
    obtain ⟨v18, ev18, h⟩ := PI.bind h
    refine wp_getR cl6 (f := 1) (by decide) rfl fl_X6_19 dX6_count_94 ev18 ?_
    refine wp_iconst (v := 1) dX6_count_97 (by decide) ?_
    obtain ⟨v20, ev20, h⟩ := PI.bind h
    obtain ⟨v19, ev19, h⟩ := PI.bind h
    refine cgV_i (Y' := Y_X5_pairs) (kc2 := 0) (ks2 := 0) dX6_count_98 ml_X6_231 ce_X5_pairs (t := 5) rfl (by decide) ⟨(Nat.le_of_ble_eq_true rfl), (Nat.le_of_ble_eq_true rfl)⟩ ⟨(Nat.le_of_ble_eq_true rfl), (Nat.le_of_ble_eq_true rfl)⟩ rfl rfl (chkT_eq ev20) (ct_X5_pairs ev19) rfl rfl (Nat.le_of_ble_eq_true rfl) ?_
    exact wp_iret dX6_count_101 rfl rfl (Nat.le_of_ble_eq_true rfl) (Nat.le_of_ble_eq_true rfl) (PI.some h)
  have h := PI.f c17 h
  by_cases c21 : x1 = 5
  · have h := PI.t c21 h
    refine wp_tsIn (tgt := 102) (v := 5) (z := 5) (off := 101) dX6_count_1 c21 (by decide) (by decide) (by decide) (by decide) (by decide) ?_
    refine wp_aload_n (i := 0) dX6_count_102 rfl rfl ?_
    obtain ⟨v22, ev22, h⟩ := PI.bind h
    refine wp_getR cl6 (f := 1) (by decide) rfl fl_X6_19 dX6_count_103 ev22 ?_
    obtain ⟨v24, ev24, h⟩ := PI.bind h
    obtain ⟨v23, ev23, h⟩ := PI.bind h
    refine cgV_i (Y' := Y_X5_meetings) (kc2 := 0) (ks2 := 0) dX6_count_106 ml_X6_234 ce_X5_meetings (t := 5) rfl (by decide) ⟨(Nat.le_of_ble_eq_true rfl), (Nat.le_of_ble_eq_true rfl)⟩ ⟨(Nat.le_of_ble_eq_true rfl), (Nat.le_of_ble_eq_true rfl)⟩ rfl rfl (chkT_eq ev24) (ct_X5_meetings ev23) rfl rfl (Nat.le_of_ble_eq_true rfl) ?_
    exact wp_iret dX6_count_109 rfl rfl (Nat.le_of_ble_eq_true rfl) (Nat.le_of_ble_eq_true rfl) (PI.some h)
  have h := PI.f c21 h
  by_cases c25 : x1 = 6
  · have h := PI.t c25 h
    refine wp_tsIn (tgt := 110) (v := 6) (z := 6) (off := 109) dX6_count_1 c25 (by decide) (by decide) (by decide) (by decide) (by decide) ?_
    refine wp_aload_n (i := 0) dX6_count_110 rfl rfl ?_
    obtain ⟨v26, ev26, h⟩ := PI.bind h
    refine wp_getR cl6 (f := 5) (by decide) rfl fl_X6_41 dX6_count_111 ev26 ?_
    obtain ⟨v28, ev28, h⟩ := PI.bind h
    obtain ⟨v27, ev27, h⟩ := PI.bind h
    refine cgV_i (Y' := Y_X1_size) (kc2 := 0) (ks2 := 0) dX6_count_114 ml_X6_186 ce_X1_size (t := 1) rfl (by decide) ⟨(Nat.le_of_ble_eq_true rfl), (Nat.le_of_ble_eq_true rfl)⟩ ⟨(Nat.le_of_ble_eq_true rfl), (Nat.le_of_ble_eq_true rfl)⟩ rfl rfl (chkT_eq ev28) (ct_X1_size ev27) rfl rfl (Nat.le_of_ble_eq_true rfl) ?_
    exact wp_iret dX6_count_117 rfl rfl (Nat.le_of_ble_eq_true rfl) (Nat.le_of_ble_eq_true rfl) (PI.some h)
  have h := PI.f c25 h
  by_cases c29 : x1 = 7
  · have h := PI.t c29 h
    refine wp_tsIn (tgt := 118) (v := 7) (z := 7) (off := 117) dX6_count_1 c29 (by decide) (by decide) (by decide) (by decide) (by decide) ?_
    refine wp_aload_n (i := 0) dX6_count_118 rfl rfl ?_
    obtain ⟨v30, ev30, h⟩ := PI.bind h
    refine wp_getR cl6 (f := 6) (by decide) rfl fl_X6_45 dX6_count_119 ev30 ?_
    obtain ⟨v32, ev32, h⟩ := PI.bind h
    obtain ⟨v31, ev31, h⟩ := PI.bind h
    refine cgV_i (Y' := Y_X1_size) (kc2 := 0) (ks2 := 0) dX6_count_122 ml_X6_186 ce_X1_size (t := 1) rfl (by decide) ⟨(Nat.le_of_ble_eq_true rfl), (Nat.le_of_ble_eq_true rfl)⟩ ⟨(Nat.le_of_ble_eq_true rfl), (Nat.le_of_ble_eq_true rfl)⟩ rfl rfl (chkT_eq ev32) (ct_X1_size ev31) rfl rfl (Nat.le_of_ble_eq_true rfl) ?_
    exact wp_iret dX6_count_125 rfl rfl (Nat.le_of_ble_eq_true rfl) (Nat.le_of_ble_eq_true rfl) (PI.some h)
  have h := PI.f c29 h
  by_cases c33 : x1 = 8
  · have h := PI.t c33 h
    refine wp_tsIn (tgt := 126) (v := 8) (z := 8) (off := 125) dX6_count_1 c33 (by decide) (by decide) (by decide) (by decide) (by decide) ?_
    refine wp_aload_n (i := 0) dX6_count_126 rfl rfl ?_
    obtain ⟨v34, ev34, h⟩ := PI.bind h
    refine wp_getR cl6 (f := 3) (by decide) rfl fl_X6_31 dX6_count_127 ev34 ?_
    obtain ⟨v36, ev36, h⟩ := PI.bind h
    obtain ⟨v35, ev35, h⟩ := PI.bind h
    refine cgV_i (Y' := Y_X2_size) (kc2 := 0) (ks2 := 0) dX6_count_130 ml_X6_162 ce_X2_size (t := 2) rfl (by decide) ⟨(Nat.le_of_ble_eq_true rfl), (Nat.le_of_ble_eq_true rfl)⟩ ⟨(Nat.le_of_ble_eq_true rfl), (Nat.le_of_ble_eq_true rfl)⟩ rfl rfl (chkT_eq ev36) (ct_X2_size ev35) rfl rfl (Nat.le_of_ble_eq_true rfl) ?_
    exact wp_iret dX6_count_133 rfl rfl (Nat.le_of_ble_eq_true rfl) (Nat.le_of_ble_eq_true rfl) (PI.some h)
  have h := PI.f c33 h
  by_cases c37 : x1 = 9
  · have h := PI.t c37 h
    refine wp_tsIn (tgt := 134) (v := 9) (z := 9) (off := 133) dX6_count_1 c37 (by decide) (by decide) (by decide) (by decide) (by decide) ?_
    refine wp_aload_n (i := 0) dX6_count_134 rfl rfl ?_
    obtain ⟨v38, ev38, h⟩ := PI.bind h
    refine wp_getR cl6 (f := 4) (by decide) rfl fl_X6_35 dX6_count_135 ev38 ?_
    obtain ⟨v40, ev40, h⟩ := PI.bind h
    obtain ⟨v39, ev39, h⟩ := PI.bind h
    refine cgV_i (Y' := Y_X2_size) (kc2 := 0) (ks2 := 0) dX6_count_138 ml_X6_162 ce_X2_size (t := 2) rfl (by decide) ⟨(Nat.le_of_ble_eq_true rfl), (Nat.le_of_ble_eq_true rfl)⟩ ⟨(Nat.le_of_ble_eq_true rfl), (Nat.le_of_ble_eq_true rfl)⟩ rfl rfl (chkT_eq ev40) (ct_X2_size ev39) rfl rfl (Nat.le_of_ble_eq_true rfl) ?_
    exact wp_iret dX6_count_141 rfl rfl (Nat.le_of_ble_eq_true rfl) (Nat.le_of_ble_eq_true rfl) (PI.some h)
  have h := PI.f c37 h
  by_cases c41 : x1 = 10
  · have h := PI.t c41 h
    refine wp_tsIn (tgt := 142) (v := 10) (z := 10) (off := 141) dX6_count_1 c41 (by decide) (by decide) (by decide) (by decide) (by decide) ?_
    refine wp_aload_n (i := 0) dX6_count_142 rfl rfl ?_
    obtain ⟨v42, ev42, h⟩ := PI.bind h
    refine wp_getR cl6 (f := 0) (by decide) rfl fl_X6_10 dX6_count_143 ev42 ?_
    obtain ⟨v44, ev44, h⟩ := PI.bind h
    obtain ⟨v43, ev43, h⟩ := PI.bind h
    refine cgV_i (Y' := Y_X3_length) (kc2 := 0) (ks2 := 0) dX6_count_146 ml_X6_81 ce_X3_length (t := 3) rfl (by decide) ⟨(Nat.le_of_ble_eq_true rfl), (Nat.le_of_ble_eq_true rfl)⟩ ⟨(Nat.le_of_ble_eq_true rfl), (Nat.le_of_ble_eq_true rfl)⟩ rfl rfl (chkT_eq ev44) (ct_X3_length ev43) rfl rfl (Nat.le_of_ble_eq_true rfl) ?_
    exact wp_iret dX6_count_149 rfl rfl (Nat.le_of_ble_eq_true rfl) (Nat.le_of_ble_eq_true rfl) (PI.some h)
  have h := PI.f c41 h
  have hz : (x1).toInt < 0 ∨ 10 < (x1).toInt := by
    have nc1 := lv_neT (a := 0) c1 (by decide)
    have nc5 := lv_neT (a := 1) c5 (by decide)
    have nc9 := lv_neT (a := 2) c9 (by decide)
    have nc13 := lv_neT (a := 3) c13 (by decide)
    have nc17 := lv_neT (a := 4) c17 (by decide)
    have nc21 := lv_neT (a := 5) c21 (by decide)
    have nc25 := lv_neT (a := 6) c25 (by decide)
    have nc29 := lv_neT (a := 7) c29 (by decide)
    have nc33 := lv_neT (a := 8) c33 (by decide)
    have nc37 := lv_neT (a := 9) c37 (by decide)
    have nc41 := lv_neT (a := 10) c41 (by decide)
    omega
  refine wp_tsOut (tgt := 150) dX6_count_1 hz (by decide) ?_
  refine wp_iconst (v := -1) dX6_count_150 (by decide) ?_
  exact wp_iret dX6_count_151 rfl rfl (Nat.le_of_ble_eq_true rfl) (Nat.le_of_ble_eq_true rfl) (PI.some h)
