def F_X7_comes (x0 : Nat) (x1 : Int32) (x2 : Int32) (x3 : Int32) (x4 : Int32) (x5 : Int32) (m : Mem) : Option Mem :=
  (fR m 7 x0 1).bind fun v1 =>
  (fI m 7 x0 0).bind fun v2 =>
  (stI m v1 v2 x1).bind fun m3 =>
  (fR m3 7 x0 4).bind fun v4 =>
  (fI m3 7 x0 0).bind fun v5 =>
  (stI m3 v4 v5 x2).bind fun m6 =>
  (fR m6 7 x0 5).bind fun v7 =>
  (fI m6 7 x0 0).bind fun v8 =>
  (stI m6 v7 v8 x3).bind fun m9 =>
  (fR m9 7 x0 6).bind fun v10 =>
  (fI m9 7 x0 0).bind fun v11 =>
  (stI m9 v10 v11 x4).bind fun m12 =>
  (fR m12 7 x0 7).bind fun v13 =>
  (fI m12 7 x0 0).bind fun v14 =>
  (stI m12 v13 v14 x5).bind fun m15 =>
  (fI m15 7 x0 0).bind fun v16 =>
  (pI m15 7 x0 0 (v16 + (1 : Int32))).bind fun m17 =>
  (some m17)
def F_X7_init (x0 : Nat) (m : Mem) : Option Mem :=
  (chkT m 7 x0).bind fun v1 =>
  (pR (mNew m 10 7) 7 x0 1 (mN m)).bind fun m2 =>
  (pR (mNew m2 10 7) 7 x0 4 (mN m2)).bind fun m3 =>
  (pR (mNew m3 10 7) 7 x0 5 (mN m3)).bind fun m4 =>
  (pR (mNew m4 10 7) 7 x0 6 (mN m4)).bind fun m5 =>
  (pR (mNew m5 10 7) 7 x0 7 (mN m5)).bind fun m6 =>
  (pR (mNew m6 10 6) 7 x0 9 (mN m6)).bind fun m7 =>
  (pR (mNew m7 10 6) 7 x0 10 (mN m7)).bind fun m8 =>
  (pR (mNew m8 10 6) 7 x0 11 (mN m8)).bind fun m9 =>
  (pR (mNew m9 10 6) 7 x0 13 (mN m9)).bind fun m10 =>
  (pR (mNew m10 10 6) 7 x0 14 (mN m10)).bind fun m11 =>
  (pR (mNew m11 10 200) 7 x0 15 (mN m11)).bind fun m12 =>
  (pR (mNew m12 10 35) 7 x0 19 (mN m12)).bind fun m13 =>
  (pR (mNew m13 10 240) 7 x0 21 (mN m13)).bind fun m14 =>
  (pR (mNew m14 10 30) 7 x0 23 (mN m14)).bind fun m15 =>
  (pR (mNew m15 10 7) 7 x0 25 (mN m15)).bind fun m16 =>
  (pR (mNew m16 10 7) 7 x0 26 (mN m16)).bind fun m17 =>
  (pR (mNew m17 10 7) 7 x0 27 (mN m17)).bind fun m18 =>
  (pR (mNew m18 10 60) 7 x0 28 (mN m18)).bind fun m19 =>
  (chkT m19 7 x0).bind fun v21 =>
  (F_X7_comes x0 (0 : Int32) (0 : Int32) (3 : Int32) (0 : Int32) (1 : Int32) m19).bind fun v20 =>
  (chkT v20 7 x0).bind fun v23 =>
  (F_X7_comes x0 (1 : Int32) (0 : Int32) (3 : Int32) (6 : Int32) (2 : Int32) v20).bind fun v22 =>
  (chkT v22 7 x0).bind fun v25 =>
  (F_X7_comes x0 (2 : Int32) (0 : Int32) (3 : Int32) (4 : Int32) (5 : Int32) v22).bind fun v24 =>
  (chkT v24 7 x0).bind fun v27 =>
  (F_X7_comes x0 (3 : Int32) (1 : Int32) (2 : Int32) (9 : Int32) (1 : Int32) v24).bind fun v26 =>
  (chkT v26 7 x0).bind fun v29 =>
  (F_X7_comes x0 (0 : Int32) (1 : Int32) (2 : Int32) (3 : Int32) (7 : Int32) v26).bind fun v28 =>
  (chkT v28 7 x0).bind fun v31 =>
  (F_X7_comes x0 (2 : Int32) (1 : Int32) (5 : Int32) (3 : Int32) (1 : Int32) v28).bind fun v30 =>
  (chkT v30 7 x0).bind fun v33 =>
  (F_X7_comes x0 (1 : Int32) (4 : Int32) (1 : Int32) (0 : Int32) (0 : Int32) v30).bind fun v32 =>
  (some v32)
def F_X7_in (x0 : Int32) (x1 : Int32) (x2 : Int32) : Option Int32 :=
  (if x0 < x1 then
  (some (0 : Int32))
  else
  (if x2 < x0 then
  (some (0 : Int32))
  else
  (some (1 : Int32))))
def F_X7_write (x0 : Nat) (x1 : Int32) (m : Mem) : Option (Int32 × Mem) :=
  (F_X7_in x1 (32 : Int32) (126 : Int32)).bind fun v1 =>
  (if v1 = 0 then
  (some ((-1 : Int32), m))
  else
  (fI m 7 x0 16).bind fun v3 =>
  (if v3 = (200 : Int32) then
  (some ((-3 : Int32), m))
  else
  (fR m 7 x0 15).bind fun v5 =>
  (fI m 7 x0 16).bind fun v6 =>
  (stI m v5 v6 x1).bind fun m7 =>
  (fI m7 7 x0 16).bind fun v8 =>
  (pI m7 7 x0 16 (v8 + (1 : Int32))).bind fun m9 =>
  (fI m9 7 x0 16).bind fun v10 =>
  (some (v10, m9))))
def F_X7_wipe (x0 : Nat) (m : Mem) : Option (Int32 × Mem) :=
  (fI m 7 x0 16).bind fun v1 =>
  (pI m 7 x0 16 (0 : Int32)).bind fun m2 =>
  (some (v1, m2))
def F_X7_here (x0 : Nat) (m : Mem) : Option Int32 :=
  (fI m 7 x0 17).bind fun v1 =>
  (fI m 7 x0 16).bind fun v2 =>
  (if v2 ≤ v1 then
  (some (0 : Int32))
  else
  (fR m 7 x0 15).bind fun v4 =>
  (fI m 7 x0 17).bind fun v5 =>
  (ldI m v4 v5).bind fun v6 =>
  (some v6))
def F_X7_highest (x0 : Int32) : Option Int32 :=
  (if x0 = 0 then
  (some (3 : Int32))
  else
  (if x0 = (1 : Int32) then
  (some (5 : Int32))
  else
  (if x0 = (2 : Int32) then
  (some (9 : Int32))
  else
  (some (11 : Int32)))))
def F_X7_isFigure (x0 : Nat) (m : Mem) : Option Int32 :=
  (chkT m 7 x0).bind fun v2 =>
  (F_X7_here x0 m).bind fun v1 =>
  (F_X7_in v1 (48 : Int32) (57 : Int32)).bind fun v3 =>
  (rN .boolean v3).bind fun v4 =>
  some v3
def F_X7_number_60 (x0 : Nat) (x1 : Int32) (x2 : Int32) (x3 : Int32) (x4 : Int32) (m : Mem) : Option (Int32 × Mem) :=
  (pI m 7 x0 20 x4).bind fun m1 =>
  (chkT m1 7 x0).bind fun v3 =>
  (F_X7_here x0 m1).bind fun v2 =>
  (if v2 = x3 then
  (F_X7_in x4 x1 x2).bind fun v5 =>
  (if v5 = 0 then
  (some ((0 : Int32), m1))
  else
  (fI m1 7 x0 17).bind fun v7 =>
  (pI m1 7 x0 17 (v7 + (1 : Int32))).bind fun m8 =>
  (some ((1 : Int32), m8)))
  else
  (some ((0 : Int32), m1)))
def F_X7_number (x0 : Nat) (x1 : Int32) (x2 : Int32) (x3 : Int32) (m : Mem) : Option (Int32 × Mem) :=
  (chkT m 7 x0).bind fun v10 =>
  (F_X7_isFigure x0 m).bind fun v9 =>
  (if v9 = 0 then
  (some ((0 : Int32), m))
  else
  (chkT m 7 x0).bind fun v13 =>
  (F_X7_here x0 m).bind fun v12 =>
  (fI m 7 x0 17).bind fun v14 =>
  (pI m 7 x0 17 (v14 + (1 : Int32))).bind fun m15 =>
  (chkT m15 7 x0).bind fun v17 =>
  (F_X7_isFigure x0 m15).bind fun v16 =>
  (if v16 = 0 then
  (F_X7_number_60 x0 x1 x2 x3 (v12 - (48 : Int32)) m15)
  else
  (chkT m15 7 x0).bind fun v20 =>
  (F_X7_here x0 m15).bind fun v19 =>
  (fI m15 7 x0 17).bind fun v21 =>
  (pI m15 7 x0 17 (v21 + (1 : Int32))).bind fun m22 =>
  (F_X7_number_60 x0 x1 x2 x3 ((((10 : Int32) * (v12 - (48 : Int32))) + v19) - (48 : Int32)) m22)))
def F_X7_readsItem_66 (r34 : Nat → Int32 → Mem → Option (Int32 × Mem)) (x0 : Nat) (x2 : Int32) (s0 : Nat) (s1 : Int32) (s2 : Int32) (s3 : Int32) (m : Mem) : Option (Int32 × Mem) :=
  (chkT m 7 s0).bind fun v2 =>
  (F_X7_number s0 s1 s2 s3 m).bind fun v1 =>
  (if v1.1 = 0 then
  (some ((0 : Int32), v1.2))
  else
  (fR v1.2 7 x0 19).bind fun v4 =>
  (fI v1.2 7 x0 18).bind fun v5 =>
  (fI v1.2 7 x0 20).bind fun v6 =>
  (stI v1.2 v4 (((5 : Int32) * v5) + x2) v6).bind fun m7 =>
  (r34 x0 (x2 + 1) m7))
def F_X7_readsItem_50 (r34 : Nat → Int32 → Mem → Option (Int32 × Mem)) (x0 : Nat) (x2 : Int32) (s0 : Nat) (s1 : Int32) (m : Mem) : Option (Int32 × Mem) :=
  (F_X7_highest x2).bind fun v8 =>
  (if x2 = (4 : Int32) then
  (F_X7_readsItem_66 r34 x0 x2 s0 s1 v8 (59 : Int32) m)
  else
  (F_X7_readsItem_66 r34 x0 x2 s0 s1 v8 (44 : Int32) m))
def F_X7_readsItem_34 : Nat → Nat → Int32 → Mem → Option (Int32 × Mem)
  | 0 => fun _ _ _ => none
  | n + 1 => fun x0 x2 m =>
  (if (5 : Int32) ≤ x2 then
  (fI m 7 x0 18).bind fun v11 =>
  (pI m 7 x0 18 (v11 + (1 : Int32))).bind fun m12 =>
  (some ((1 : Int32), m12))
  else
  (if x2 = (2 : Int32) then
  (F_X7_readsItem_50 (F_X7_readsItem_34 n) x0 x2 x0 (1 : Int32) m)
  else
  (F_X7_readsItem_50 (F_X7_readsItem_34 n) x0 x2 x0 (0 : Int32) m)))
def F_X7_readsItem (x0 : Nat) (m : Mem) : Option (Int32 × Mem) :=
  (chkT m 7 x0).bind fun v15 =>
  (F_X7_here x0 m).bind fun v14 =>
  (fI m 7 x0 17).bind fun v16 =>
  (pI m 7 x0 17 (v16 + (1 : Int32))).bind fun m17 =>
  (if v14 = (112 : Int32) then
  (fI m17 7 x0 18).bind fun v19 =>
  (if v19 = (7 : Int32) then
  (some ((0 : Int32), m17))
  else
  (F_X7_readsItem_34 FU x0 (0 : Int32) m17))
  else
  (some ((0 : Int32), m17)))
def F_X7_fault_10 : Nat → Nat → Mem → Option (Int32 × Mem)
  | 0 => fun _ _ => none
  | n + 1 => fun x0 m =>
  (fI m 7 x0 17).bind fun v1 =>
  (fI m 7 x0 16).bind fun v2 =>
  (if v2 ≤ v1 then
  (some ((-4 : Int32), m))
  else
  (fI m 7 x0 17).bind fun v4 =>
  (chkT m 7 x0).bind fun v6 =>
  (F_X7_readsItem x0 m).bind fun v5 =>
  (if v5.1 = 0 then
  (some (v4, v5.2))
  else
  ((F_X7_fault_10 n) x0 v5.2)))
def F_X7_fault (x0 : Nat) (m : Mem) : Option (Int32 × Mem) :=
  (pI m 7 x0 17 (0 : Int32)).bind fun m8 =>
  (pI m8 7 x0 18 (0 : Int32)).bind fun m9 =>
  (F_X7_fault_10 FU x0 m9)
def F_X7_lay_26 : Nat → Nat → Int32 → Mem → Option (Int32 × Mem)
  | 0 => fun _ _ _ => none
  | n + 1 => fun x0 x1 m =>
  (fI m 7 x0 18).bind fun v1 =>
  (if v1 ≤ x1 then
  (pI m 7 x0 2 (0 : Int32)).bind fun m3 =>
  (pI m3 7 x0 3 (0 : Int32)).bind fun m4 =>
  (pI m4 7 x0 8 (0 : Int32)).bind fun m5 =>
  (pI m5 7 x0 12 (0 : Int32)).bind fun m6 =>
  (pI m6 7 x0 22 (0 : Int32)).bind fun m7 =>
  (pI m7 7 x0 29 (0 : Int32)).bind fun m8 =>
  (fI m8 7 x0 0).bind fun v9 =>
  (some (v9, m8))
  else
  (fR m 7 x0 19).bind fun v10 =>
  (ldI m v10 ((5 : Int32) * x1)).bind fun v11 =>
  (fR m 7 x0 19).bind fun v12 =>
  (ldI m v12 (((5 : Int32) * x1) + (1 : Int32))).bind fun v13 =>
  (fR m 7 x0 19).bind fun v14 =>
  (ldI m v14 (((5 : Int32) * x1) + (2 : Int32))).bind fun v15 =>
  (fR m 7 x0 19).bind fun v16 =>
  (ldI m v16 (((5 : Int32) * x1) + (3 : Int32))).bind fun v17 =>
  (fR m 7 x0 19).bind fun v18 =>
  (ldI m v18 (((5 : Int32) * x1) + (4 : Int32))).bind fun v19 =>
  (chkT m 7 x0).bind fun v21 =>
  (F_X7_comes x0 v11 v13 v15 v17 v19 m).bind fun v20 =>
  ((F_X7_lay_26 n) x0 (x1 + 1) v20))
def F_X7_lay (x0 : Nat) (m : Mem) : Option (Int32 × Mem) :=
  (chkT m 7 x0).bind fun v23 =>
  (F_X7_fault x0 m).bind fun v22 =>
  (if v22.1 = (-4 : Int32) then
  (fI v22.2 7 x0 18).bind fun v25 =>
  (if v25 = 0 then
  (some ((-2 : Int32), v22.2))
  else
  (pI v22.2 7 x0 0 (0 : Int32)).bind fun m27 =>
  (F_X7_lay_26 FU x0 (0 : Int32) m27))
  else
  (some ((-2 : Int32), v22.2)))
def F_X7_isPerson (x0 : Nat) (x1 : Int32) (m : Mem) : Option Int32 :=
  (fI m 7 x0 0).bind fun v1 =>
  (F_X7_in x1 (0 : Int32) (v1 - (1 : Int32))).bind fun v2 =>
  (rN .boolean v2).bind fun v3 =>
  some v2
def F_X7_person (x0 : Nat) (x1 : Int32) (x2 : Int32) (m : Mem) : Option Int32 :=
  (chkT m 7 x0).bind fun v2 =>
  (F_X7_isPerson x0 x1 m).bind fun v1 =>
  (if v1 = 0 then
  (some (-1 : Int32))
  else
  (F_X7_in x2 (0 : Int32) (4 : Int32)).bind fun v4 =>
  (if v4 = 0 then
  (some (-1 : Int32))
  else
  (if x2 = 0 then
  (fR m 7 x0 1).bind fun v18 =>
  (ldI m v18 x1).bind fun v19 =>
  (some v19)
  else
  (if x2 = (1 : Int32) then
  (fR m 7 x0 4).bind fun v16 =>
  (ldI m v16 x1).bind fun v17 =>
  (some v17)
  else
  (if x2 = (2 : Int32) then
  (fR m 7 x0 5).bind fun v14 =>
  (ldI m v14 x1).bind fun v15 =>
  (some v15)
  else
  (if x2 = (3 : Int32) then
  (fR m 7 x0 6).bind fun v12 =>
  (ldI m v12 x1).bind fun v13 =>
  (some v13)
  else
  (fR m 7 x0 7).bind fun v10 =>
  (ldI m v10 x1).bind fun v11 =>
  (some v11)))))))
def F_X7_isAbout (x0 : Nat) (x1 : Int32) (x2 : Int32) (m : Mem) : Option Int32 :=
  (fR m 7 x0 4).bind fun v1 =>
  (ldI m v1 x1).bind fun v2 =>
  (if v2 = (-4 : Int32) then
  (some (0 : Int32))
  else
  (fR m 7 x0 4).bind fun v4 =>
  (ldI m v4 x1).bind fun v5 =>
  (fR m 7 x0 4).bind fun v6 =>
  (ldI m v6 x2).bind fun v7 =>
  (if v5 = v7 then
  (fR m 7 x0 6).bind fun v9 =>
  (ldI m v9 x1).bind fun v10 =>
  (fR m 7 x0 6).bind fun v11 =>
  (ldI m v11 x2).bind fun v12 =>
  (if v10 = v12 then
  (some (1 : Int32))
  else
  (some (0 : Int32)))
  else
  (some (0 : Int32))))
def F_X7_meets (x0 : Nat) (x1 : Int32) (x2 : Int32) (m : Mem) : Option Int32 :=
  (chkT m 7 x0).bind fun v2 =>
  (F_X7_isAbout x0 x1 x2 m).bind fun v1 =>
  (if v1 = 0 then
  (some (0 : Int32))
  else
  (fR m 7 x0 5).bind fun v4 =>
  (ldI m v4 x1).bind fun v5 =>
  (fR m 7 x0 5).bind fun v6 =>
  (ldI m v6 x2).bind fun v7 =>
  (if v5 = v7 then
  (some (1 : Int32))
  else
  (some (0 : Int32))))
def F_X7_near (x0 : Nat) (x1 : Int32) (x2 : Int32) (m : Mem) : Option Int32 :=
  (chkT m 7 x0).bind fun v2 =>
  (F_X7_isPerson x0 x1 m).bind fun v1 =>
  (if v1 = 0 then
  (some (-1 : Int32))
  else
  (chkT m 7 x0).bind fun v5 =>
  (F_X7_isPerson x0 x2 m).bind fun v4 =>
  (if v4 = 0 then
  (some (-1 : Int32))
  else
  (if x1 = x2 then
  (some (-1 : Int32))
  else
  (chkT m 7 x0).bind fun v9 =>
  (F_X7_meets x0 x1 x2 m).bind fun v8 =>
  (if v8 = 0 then
  (chkT m 7 x0).bind fun v12 =>
  (F_X7_isAbout x0 x1 x2 m).bind fun v11 =>
  (if v11 = 0 then
  (some (0 : Int32))
  else
  (some (1 : Int32)))
  else
  (some (2 : Int32))))))
def F_X7_isDoor (x0 : Int32) : Option Int32 :=
  (F_X7_in x0 (0 : Int32) (5 : Int32)).bind fun v1 =>
  (rN .boolean v1).bind fun v2 =>
  some v1
def F_X7_thoseAbout_30 (m : Mem) (r4 : Nat → Int32 → Int32 → Int32 → Option Int32) (x0 : Nat) (x1 : Int32) (x3 : Int32) (s0 : Int32) (s1 : Int32) : Option Int32 :=
  (r4 x0 x1 (s0 ||| s1) (x3 + 1))
def F_X7_thoseAbout_4 (m : Mem) : Nat → Nat → Int32 → Int32 → Int32 → Option Int32
  | 0 => fun _ _ _ _ => none
  | n + 1 => fun x0 x1 x2 x3 =>
  (fI m 7 x0 0).bind fun v1 =>
  (if v1 ≤ x3 then
  (some x2)
  else
  (fR m 7 x0 4).bind fun v3 =>
  (ldI m v3 x3).bind fun v4 =>
  (if v4 = x1 then
  (F_X7_thoseAbout_30 m (F_X7_thoseAbout_4 m n) x0 x1 x3 x2 ((1 : Int32) <<< (x3 &&& 31)))
  else
  (F_X7_thoseAbout_30 m (F_X7_thoseAbout_4 m n) x0 x1 x3 x2 (0 : Int32))))
def F_X7_thoseAbout (x0 : Nat) (x1 : Int32) (m : Mem) : Option Int32 :=
  (F_X7_thoseAbout_4 m FU x0 x1 (0 : Int32) (0 : Int32))
def F_X7_about (x0 : Nat) (x1 : Int32) (m : Mem) : Option Int32 :=
  (F_X7_isDoor x1).bind fun v1 =>
  (if v1 = 0 then
  (some (-1 : Int32))
  else
  (chkT m 7 x0).bind fun v4 =>
  (F_X7_thoseAbout x0 x1 m).bind fun v3 =>
  (some v3))
def F_X7_lays_18 : Nat → Nat → Nat → Int32 → Int32 → Mem → Option Mem
  | 0 => fun _ _ _ _ _ => none
  | n + 1 => fun x0 x1 x2 x3 m =>
  (if (7 : Int32) ≤ x3 then
  (some m)
  else
  (fR m 7 x0 4).bind fun v2 =>
  (ldI m v2 x3).bind fun v3 =>
  (stI m x1 ((x2 + (2 : Int32)) + x3) v3).bind fun m4 =>
  (fR m4 7 x0 5).bind fun v5 =>
  (ldI m4 v5 x3).bind fun v6 =>
  (stI m4 x1 ((x2 + (9 : Int32)) + x3) v6).bind fun m7 =>
  (fR m7 7 x0 6).bind fun v8 =>
  (ldI m7 v8 x3).bind fun v9 =>
  (stI m7 x1 ((x2 + (16 : Int32)) + x3) v9).bind fun m10 =>
  (fR m10 7 x0 7).bind fun v11 =>
  (ldI m10 v11 x3).bind fun v12 =>
  (stI m10 x1 ((x2 + (23 : Int32)) + x3) v12).bind fun m13 =>
  ((F_X7_lays_18 n) x0 x1 x2 (x3 + 1) m13))
def F_X7_lays (x0 : Nat) (x1 : Nat) (x2 : Int32) (m : Mem) : Option Mem :=
  (fI m 7 x0 2).bind fun v14 =>
  (stI m x1 x2 v14).bind fun m15 =>
  (fI m15 7 x0 3).bind fun v16 =>
  (stI m15 x1 (x2 + (1 : Int32)) v16).bind fun m17 =>
  (F_X7_lays_18 FU x0 x1 x2 (0 : Int32) m17)
def F_X7_notes_49 (x0 : Nat) (m : Mem) : Option Mem :=
  (fR m 7 x0 21).bind fun v1 =>
  (fI m 7 x0 22).bind fun v2 =>
  (chkT m 7 x0).bind fun v4 =>
  (F_X7_lays x0 v1 ((30 : Int32) * v2) m).bind fun v3 =>
  (fI v3 7 x0 22).bind fun v5 =>
  (pI v3 7 x0 22 (v5 + (1 : Int32))).bind fun m6 =>
  (some m6)
def F_X7_notes_11 : Nat → Nat → Int32 → Mem → Option Mem
  | 0 => fun _ _ _ => none
  | n + 1 => fun x0 x1 m =>
  (if (210 : Int32) ≤ x1 then
  (fI m 7 x0 22).bind fun v8 =>
  (pI m 7 x0 22 (v8 - (1 : Int32))).bind fun m9 =>
  (F_X7_notes_49 x0 m9)
  else
  (fR m 7 x0 21).bind fun v10 =>
  (fR m 7 x0 21).bind fun v11 =>
  (ldI m v11 (x1 + (30 : Int32))).bind fun v12 =>
  (stI m v10 x1 v12).bind fun m13 =>
  ((F_X7_notes_11 n) x0 (x1 + 1) m13))
def F_X7_notes (x0 : Nat) (m : Mem) : Option Mem :=
  (fI m 7 x0 22).bind fun v14 =>
  (if v14 = (8 : Int32) then
  (F_X7_notes_11 FU x0 (0 : Int32) m)
  else
  (F_X7_notes_49 x0 m))
def F_X7_goes (x0 : Int32) (x1 : Int32) (x2 : Int32) : Option Int32 :=
  (if x0 = 1 then
  (if (jrem x2 (2 : Int32)) = 0 then
  (some x1)
  else
  (some (0 : Int32)))
  else
  (if x0 = 2 then
  (some ((2 : Int32) * x1))
  else
  (if x0 = 3 then
  (if (jrem x2 (3 : Int32)) = 0 then
  (some (x1 + (1 : Int32)))
  else
  (some x1))
  else
  (some x1))))
def F_X7_yardThen (x0 : Nat) (x1 : Int32) (x2 : Int32) (m : Mem) : Option Int32 :=
  (fR m 7 x0 4).bind fun v1 =>
  (ldI m v1 x1).bind fun v2 =>
  (if v2 = (-4 : Int32) then
  (fR m 7 x0 6).bind fun v11 =>
  (ldI m v11 x1).bind fun v12 =>
  (some v12)
  else
  (fR m 7 x0 6).bind fun v4 =>
  (ldI m v4 x1).bind fun v5 =>
  (fR m 7 x0 1).bind fun v6 =>
  (ldI m v6 x1).bind fun v7 =>
  (fR m 7 x0 7).bind fun v8 =>
  (ldI m v8 x1).bind fun v9 =>
  (F_X7_goes v7 v9 x2).bind fun v10 =>
  (some (jrem (v5 + v10) (12 : Int32))))
def F_X7_pairs_62 (m : Mem) (r4 : Nat → Int32 → Int32 → Int32 → Option Int32) (r15 : Nat → Int32 → Int32 → Int32 → Int32 → Option Int32) (x0 : Nat) (x1 : Int32) (x3 : Int32) (x4 : Int32) (s0 : Int32) (s1 : Int32) : Option Int32 :=
  (r15 x0 x1 (s0 + s1) x3 (x4 + 1))
def F_X7_pairs_61 (m : Mem) (r4 : Nat → Int32 → Int32 → Int32 → Option Int32) (r15 : Nat → Int32 → Int32 → Int32 → Int32 → Option Int32) (x0 : Nat) (x1 : Int32) (x3 : Int32) (x4 : Int32) (s0 : Int32) : Option Int32 :=
  (F_X7_pairs_62 m r4 r15 x0 x1 x3 x4 s0 (0 : Int32))
def F_X7_pairs_53 (m : Mem) (r4 : Nat → Int32 → Int32 → Int32 → Option Int32) (r15 : Nat → Int32 → Int32 → Int32 → Int32 → Option Int32) (x0 : Nat) (x1 : Int32) (x3 : Int32) (x4 : Int32) (s0 : Int32) (s1 : Int32) : Option Int32 :=
  (if s1 = x1 then
  (F_X7_pairs_62 m r4 r15 x0 x1 x3 x4 s0 (1 : Int32))
  else
  (F_X7_pairs_61 m r4 r15 x0 x1 x3 x4 s0))
def F_X7_pairs_15 (m : Mem) (r4 : Nat → Int32 → Int32 → Int32 → Option Int32) : Nat → Nat → Int32 → Int32 → Int32 → Int32 → Option Int32
  | 0 => fun _ _ _ _ _ => none
  | n + 1 => fun x0 x1 x2 x3 x4 =>
  (if x3 ≤ x4 then
  (r4 x0 x1 x2 (x3 + 1))
  else
  (chkT m 7 x0).bind fun v4 =>
  (F_X7_isAbout x0 x3 x4 m).bind fun v3 =>
  (if v3 = 0 then
  (F_X7_pairs_61 m r4 (F_X7_pairs_15 m r4 n) x0 x1 x3 x4 x2)
  else
  (fR m 7 x0 5).bind fun v6 =>
  (ldI m v6 x3).bind fun v7 =>
  (fR m 7 x0 5).bind fun v8 =>
  (ldI m v8 x4).bind fun v9 =>
  (if v7 = v9 then
  (F_X7_pairs_53 m r4 (F_X7_pairs_15 m r4 n) x0 x1 x3 x4 x2 (1 : Int32))
  else
  (F_X7_pairs_53 m r4 (F_X7_pairs_15 m r4 n) x0 x1 x3 x4 x2 (0 : Int32)))))
def F_X7_pairs_4 (m : Mem) : Nat → Nat → Int32 → Int32 → Int32 → Option Int32
  | 0 => fun _ _ _ _ => none
  | n + 1 => fun x0 x1 x2 x3 =>
  (fI m 7 x0 0).bind fun v11 =>
  (if v11 ≤ x3 then
  (some x2)
  else
  (F_X7_pairs_15 m (F_X7_pairs_4 m n) FU x0 x1 x2 x3 (0 : Int32)))
def F_X7_pairs (x0 : Nat) (x1 : Int32) (m : Mem) : Option Int32 :=
  (F_X7_pairs_4 m FU x0 x1 (0 : Int32) (0 : Int32))
def F_X7_passes_2 : Nat → Nat → Int32 → Mem → Option Mem
  | 0 => fun _ _ _ => none
  | n + 1 => fun x0 x1 m =>
  (fI m 7 x0 0).bind fun v1 =>
  (if v1 ≤ x1 then
  (fI m 7 x0 2).bind fun v3 =>
  (pI m 7 x0 2 (v3 + (1 : Int32))).bind fun m4 =>
  (fI m4 7 x0 3).bind fun v5 =>
  (chkT m4 7 x0).bind fun v7 =>
  (F_X7_pairs x0 (1 : Int32) m4).bind fun v6 =>
  (pI m4 7 x0 3 (v5 + v6)).bind fun m8 =>
  (some m8)
  else
  (fR m 7 x0 6).bind fun v9 =>
  (fI m 7 x0 2).bind fun v10 =>
  (chkT m 7 x0).bind fun v12 =>
  (F_X7_yardThen x0 x1 v10 m).bind fun v11 =>
  (stI m v9 x1 v11).bind fun m13 =>
  ((F_X7_passes_2 n) x0 (x1 + 1) m13))
def F_X7_passes (x0 : Nat) (m : Mem) : Option Mem :=
  (F_X7_passes_2 FU x0 (0 : Int32) m)
def F_X7_goesOn_2 : Nat → Nat → Int32 → Int32 → Mem → Option Mem
  | 0 => fun _ _ _ _ => none
  | n + 1 => fun x0 x1 x2 m =>
  (if x1 ≤ x2 then
  (some m)
  else
  (chkT m 7 x0).bind fun v3 =>
  (F_X7_passes x0 m).bind fun v2 =>
  ((F_X7_goesOn_2 n) x0 x1 (x2 + 1) v2))
def F_X7_goesOn (x0 : Nat) (x1 : Int32) (m : Mem) : Option Mem :=
  (F_X7_goesOn_2 FU x0 x1 (0 : Int32) m)
def F_X7_pass (x0 : Nat) (x1 : Int32) (m : Mem) : Option (Int32 × Mem) :=
  (F_X7_in x1 (1 : Int32) (20 : Int32)).bind fun v1 =>
  (if v1 = 0 then
  (some ((-1 : Int32), m))
  else
  (fI m 7 x0 2).bind fun v3 =>
  (if (v3 + x1) ≤ (999 : Int32) then
  (chkT m 7 x0).bind fun v6 =>
  (F_X7_notes x0 m).bind fun v5 =>
  (fI v5 7 x0 3).bind fun v7 =>
  (chkT v5 7 x0).bind fun v9 =>
  (F_X7_goesOn x0 x1 v5).bind fun v8 =>
  (fI v8 7 x0 3).bind fun v10 =>
  (some ((v10 - v7), v8))
  else
  (some ((-2 : Int32), m))))
def F_X7_weaves (x0 : Nat) (x1 : Int32) (x2 : Int32) (x3 : Int32) (m : Mem) : Option Mem :=
  (fR m 7 x0 4).bind fun v1 =>
  (stI m v1 x1 x2).bind fun m2 =>
  (fR m2 7 x0 5).bind fun v3 =>
  (stI m2 v3 x1 x3).bind fun m4 =>
  (some m4)
def F_X7_bits_4 : Nat → Int32 → Int32 → Int32 → Option Int32
  | 0 => fun _ _ _ => none
  | n + 1 => fun x0 x1 x2 =>
  (if (12 : Int32) ≤ x2 then
  (some x1)
  else
  ((F_X7_bits_4 n) x0 (x1 + ((x0 >>> (x2 &&& 31)) &&& (1 : Int32))) (x2 + 1)))
def F_X7_bits (x0 : Int32) : Option Int32 :=
  (F_X7_bits_4 FU x0 (0 : Int32) (0 : Int32))
def F_X7_weave_50 (x0 : Nat) (x1 : Int32) (x2 : Int32) (x3 : Int32) (m : Mem) : Option (Int32 × Mem) :=
  (chkT m 7 x0).bind fun v2 =>
  (F_X7_notes x0 m).bind fun v1 =>
  (chkT v1 7 x0).bind fun v4 =>
  (F_X7_weaves x0 x1 x2 x3 v1).bind fun v3 =>
  (chkT v3 7 x0).bind fun v6 =>
  (F_X7_thoseAbout x0 x2 v3).bind fun v5 =>
  (F_X7_bits v5).bind fun v7 =>
  (some (v7, v3))
def F_X7_weave (x0 : Nat) (x1 : Int32) (x2 : Int32) (x3 : Int32) (m : Mem) : Option (Int32 × Mem) :=
  (chkT m 7 x0).bind fun v9 =>
  (F_X7_isPerson x0 x1 m).bind fun v8 =>
  (if v8 = 0 then
  (some ((-1 : Int32), m))
  else
  (F_X7_isDoor x2).bind fun v11 =>
  (if v11 = 0 then
  (some ((-1 : Int32), m))
  else
  (F_X7_in x3 (1 : Int32) (9 : Int32)).bind fun v13 =>
  (if v13 = 0 then
  (some ((-1 : Int32), m))
  else
  (fR m 7 x0 4).bind fun v15 =>
  (ldI m v15 x1).bind fun v16 =>
  (if v16 = x2 then
  (fR m 7 x0 5).bind fun v18 =>
  (ldI m v18 x1).bind fun v19 =>
  (if v19 = x3 then
  (some ((-2 : Int32), m))
  else
  (F_X7_weave_50 x0 x1 x2 x3 m))
  else
  (F_X7_weave_50 x0 x1 x2 x3 m)))))
def F_X7_off (x0 : Nat) (x1 : Int32) (m : Mem) : Option (Int32 × Mem) :=
  (chkT m 7 x0).bind fun v2 =>
  (F_X7_isPerson x0 x1 m).bind fun v1 =>
  (if v1 = 0 then
  (some ((-1 : Int32), m))
  else
  (fR m 7 x0 4).bind fun v4 =>
  (ldI m v4 x1).bind fun v5 =>
  (if v5 = (-4 : Int32) then
  (some ((-2 : Int32), m))
  else
  (chkT m 7 x0).bind fun v8 =>
  (F_X7_notes x0 m).bind fun v7 =>
  (fR v7 7 x0 4).bind fun v9 =>
  (ldI v7 v9 x1).bind fun v10 =>
  (chkT v7 7 x0).bind fun v12 =>
  (F_X7_weaves x0 x1 (-4 : Int32) (-4 : Int32) v7).bind fun v11 =>
  (some (v10, v11))))
def F_X7_pace (x0 : Nat) (x1 : Int32) (x2 : Int32) (m : Mem) : Option (Int32 × Mem) :=
  (chkT m 7 x0).bind fun v2 =>
  (F_X7_isPerson x0 x1 m).bind fun v1 =>
  (if v1 = 0 then
  (some ((-1 : Int32), m))
  else
  (F_X7_in x2 (0 : Int32) (11 : Int32)).bind fun v4 =>
  (if v4 = 0 then
  (some ((-1 : Int32), m))
  else
  (fR m 7 x0 7).bind fun v6 =>
  (ldI m v6 x1).bind fun v7 =>
  (if v7 = x2 then
  (some ((-2 : Int32), m))
  else
  (chkT m 7 x0).bind fun v10 =>
  (F_X7_notes x0 m).bind fun v9 =>
  (fR v9 7 x0 7).bind fun v11 =>
  (stI v9 v11 x1 x2).bind fun m12 =>
  (some (v7, m12)))))
def F_X7_takes_18 : Nat → Nat → Nat → Int32 → Int32 → Mem → Option Mem
  | 0 => fun _ _ _ _ _ => none
  | n + 1 => fun x0 x1 x2 x3 m =>
  (if (7 : Int32) ≤ x3 then
  (some m)
  else
  (fR m 7 x0 4).bind fun v2 =>
  (ldI m x1 ((x2 + (2 : Int32)) + x3)).bind fun v3 =>
  (stI m v2 x3 v3).bind fun m4 =>
  (fR m4 7 x0 5).bind fun v5 =>
  (ldI m4 x1 ((x2 + (9 : Int32)) + x3)).bind fun v6 =>
  (stI m4 v5 x3 v6).bind fun m7 =>
  (fR m7 7 x0 6).bind fun v8 =>
  (ldI m7 x1 ((x2 + (16 : Int32)) + x3)).bind fun v9 =>
  (stI m7 v8 x3 v9).bind fun m10 =>
  (fR m10 7 x0 7).bind fun v11 =>
  (ldI m10 x1 ((x2 + (23 : Int32)) + x3)).bind fun v12 =>
  (stI m10 v11 x3 v12).bind fun m13 =>
  ((F_X7_takes_18 n) x0 x1 x2 (x3 + 1) m13))
def F_X7_takes (x0 : Nat) (x1 : Nat) (x2 : Int32) (m : Mem) : Option Mem :=
  (ldI m x1 x2).bind fun v14 =>
  (pI m 7 x0 2 v14).bind fun m15 =>
  (ldI m15 x1 (x2 + (1 : Int32))).bind fun v16 =>
  (pI m15 7 x0 3 v16).bind fun m17 =>
  (F_X7_takes_18 FU x0 x1 x2 (0 : Int32) m17)
def F_X7_undo (x0 : Nat) (m : Mem) : Option (Int32 × Mem) :=
  (fI m 7 x0 22).bind fun v1 =>
  (if v1 = 0 then
  (some ((-2 : Int32), m))
  else
  (fI m 7 x0 22).bind fun v3 =>
  (pI m 7 x0 22 (v3 - (1 : Int32))).bind fun m4 =>
  (fR m4 7 x0 21).bind fun v5 =>
  (fI m4 7 x0 22).bind fun v6 =>
  (chkT m4 7 x0).bind fun v8 =>
  (F_X7_takes x0 v5 ((30 : Int32) * v6) m4).bind fun v7 =>
  (fI v7 7 x0 22).bind fun v9 =>
  (some (v9, v7)))
def F_X7_yardBehind_28 (m : Mem) : Nat → Nat → Int32 → Int32 → Int32 → Int32 → Option Int32
  | 0 => fun _ _ _ _ _ => none
  | n + 1 => fun x0 x1 x2 x3 x4 =>
  (if x2 ≤ x4 then
  (some x3)
  else
  (fR m 7 x0 1).bind fun v2 =>
  (ldI m v2 x1).bind fun v3 =>
  (fR m 7 x0 7).bind fun v4 =>
  (ldI m v4 x1).bind fun v5 =>
  (fI m 7 x0 2).bind fun v6 =>
  (F_X7_goes v3 v5 (v6 + x4)).bind fun v7 =>
  ((F_X7_yardBehind_28 m n) x0 x1 x2 (jrem (x3 + v7) (12 : Int32)) (x4 + 1)))
def F_X7_yardBehind (x0 : Nat) (x1 : Int32) (x2 : Int32) (m : Mem) : Option Int32 :=
  (fR m 7 x0 4).bind fun v8 =>
  (ldI m v8 x1).bind fun v9 =>
  (if v9 = (-4 : Int32) then
  (fR m 7 x0 6).bind fun v13 =>
  (ldI m v13 x1).bind fun v14 =>
  (some v14)
  else
  (fR m 7 x0 6).bind fun v11 =>
  (ldI m v11 x1).bind fun v12 =>
  (F_X7_yardBehind_28 m FU x0 x1 x2 v12 (0 : Int32)))
def F_X7_behind (x0 : Nat) (x1 : Int32) (x2 : Int32) (m : Mem) : Option Int32 :=
  (F_X7_in x1 (0 : Int32) (60 : Int32)).bind fun v1 =>
  (if v1 = 0 then
  (some (-1 : Int32))
  else
  (chkT m 7 x0).bind fun v4 =>
  (F_X7_isPerson x0 x2 m).bind fun v3 =>
  (if v3 = 0 then
  (some (-1 : Int32))
  else
  (chkT m 7 x0).bind fun v7 =>
  (F_X7_yardBehind x0 x2 x1 m).bind fun v6 =>
  (some v6)))
def F_X7_isSame (x0 : Nat) (x1 : Int32) (x2 : Int32) (m : Mem) : Option Int32 :=
  (fR m 7 x0 4).bind fun v1 =>
  (ldI m v1 x1).bind fun v2 =>
  (if v2 = (-4 : Int32) then
  (some (0 : Int32))
  else
  (fR m 7 x0 4).bind fun v4 =>
  (ldI m v4 x1).bind fun v5 =>
  (fR m 7 x0 4).bind fun v6 =>
  (ldI m v6 x2).bind fun v7 =>
  (if v5 = v7 then
  (fR m 7 x0 5).bind fun v9 =>
  (ldI m v9 x1).bind fun v10 =>
  (fR m 7 x0 5).bind fun v11 =>
  (ldI m v11 x2).bind fun v12 =>
  (if v10 = v12 then
  (some (1 : Int32))
  else
  (some (0 : Int32)))
  else
  (some (0 : Int32))))
def F_X7_first_52 (m : Mem) (x0 : Nat) (x1 : Int32) (x2 : Int32) (x3 : Int32) : Option Int32 :=
  (chkT m 7 x0).bind fun v2 =>
  (F_X7_isSame x0 x1 x2 m).bind fun v1 =>
  (if v1 = 0 then
  (some (-4 : Int32))
  else
  (if (60 : Int32) < x3 then
  (some (-4 : Int32))
  else
  (some x3)))
def F_X7_first_25 (m : Mem) : Nat → Nat → Int32 → Int32 → Int32 → Option Int32
  | 0 => fun _ _ _ _ => none
  | n + 1 => fun x0 x1 x2 x3 =>
  (if (60 : Int32) < x3 then
  (F_X7_first_52 m x0 x1 x2 x3)
  else
  (chkT m 7 x0).bind fun v7 =>
  (F_X7_yardBehind x0 x1 x3 m).bind fun v6 =>
  (chkT m 7 x0).bind fun v9 =>
  (F_X7_yardBehind x0 x2 x3 m).bind fun v8 =>
  (if v6 = v8 then
  (F_X7_first_52 m x0 x1 x2 x3)
  else
  ((F_X7_first_25 m n) x0 x1 x2 (x3 + 1))))
def F_X7_first (x0 : Nat) (x1 : Int32) (x2 : Int32) (m : Mem) : Option Int32 :=
  (chkT m 7 x0).bind fun v12 =>
  (F_X7_isPerson x0 x1 m).bind fun v11 =>
  (if v11 = 0 then
  (some (-1 : Int32))
  else
  (chkT m 7 x0).bind fun v15 =>
  (F_X7_isPerson x0 x2 m).bind fun v14 =>
  (if v14 = 0 then
  (some (-1 : Int32))
  else
  (if x1 = x2 then
  (some (-1 : Int32))
  else
  (F_X7_first_25 m FU x0 x1 x2 (0 : Int32)))))
def F_X7_begin (x0 : Nat) (m : Mem) : Option Mem :=
  (fR m 7 x0 23).bind fun v1 =>
  (chkT m 7 x0).bind fun v3 =>
  (F_X7_lays x0 v1 (0 : Int32) m).bind fun v2 =>
  (some v2)
def F_X7_putBack (x0 : Nat) (m : Mem) : Option Mem :=
  (fR m 7 x0 23).bind fun v1 =>
  (chkT m 7 x0).bind fun v3 =>
  (F_X7_takes x0 v1 (0 : Int32) m).bind fun v2 =>
  (some v2)
def F_X7_all (x0 : Nat) (x1 : Int32) (m : Mem) : Option (Int32 × Mem) :=
  (F_X7_in x1 (1 : Int32) (60 : Int32)).bind fun v1 =>
  (if v1 = 0 then
  (some ((-1 : Int32), m))
  else
  (chkT m 7 x0).bind fun v4 =>
  (F_X7_begin x0 m).bind fun v3 =>
  (fI v3 7 x0 3).bind fun v5 =>
  (chkT v3 7 x0).bind fun v7 =>
  (F_X7_goesOn x0 x1 v3).bind fun v6 =>
  (fI v6 7 x0 3).bind fun v8 =>
  (chkT v6 7 x0).bind fun v10 =>
  (F_X7_putBack x0 v6).bind fun v9 =>
  (some ((v8 - v5), v9)))
def F_X7_paces_96 (r47 : Nat → Int32 → Int32 → Int32 → Int32 → Int32 → Int32 → Mem → Option (Int32 × Mem)) (x0 : Nat) (x1 : Int32) (x2 : Int32) (x3 : Int32) (x4 : Int32) (x6 : Int32) (s0 : Int32) (s1 : Int32) (m : Mem) : Option (Int32 × Mem) :=
  (r47 x0 x1 x2 x3 x4 (s0 ||| s1) (x6 + 1) m)
def F_X7_paces_95 (r47 : Nat → Int32 → Int32 → Int32 → Int32 → Int32 → Int32 → Mem → Option (Int32 × Mem)) (x0 : Nat) (x1 : Int32) (x2 : Int32) (x3 : Int32) (x4 : Int32) (x6 : Int32) (s0 : Int32) (m : Mem) : Option (Int32 × Mem) :=
  (F_X7_paces_96 r47 x0 x1 x2 x3 x4 x6 s0 (0 : Int32) m)
def F_X7_paces_47 : Nat → Nat → Int32 → Int32 → Int32 → Int32 → Int32 → Int32 → Mem → Option (Int32 × Mem)
  | 0 => fun _ _ _ _ _ _ _ _ => none
  | n + 1 => fun x0 x1 x2 x3 x4 x5 x6 m =>
  (if (12 : Int32) ≤ x6 then
  (fR m 7 x0 7).bind fun v2 =>
  (stI m v2 x1 x4).bind fun m3 =>
  (some (x5, m3))
  else
  (fR m 7 x0 7).bind fun v4 =>
  (stI m v4 x1 x6).bind fun m5 =>
  (chkT m5 7 x0).bind fun v7 =>
  (F_X7_isSame x0 x1 x2 m5).bind fun v6 =>
  (if v6 = 0 then
  (F_X7_paces_95 (F_X7_paces_47 n) x0 x1 x2 x3 x4 x6 x5 m5)
  else
  (chkT m5 7 x0).bind fun v10 =>
  (F_X7_yardBehind x0 x1 x3 m5).bind fun v9 =>
  (chkT m5 7 x0).bind fun v12 =>
  (F_X7_yardBehind x0 x2 x3 m5).bind fun v11 =>
  (if v9 = v11 then
  (F_X7_paces_96 (F_X7_paces_47 n) x0 x1 x2 x3 x4 x6 x5 ((1 : Int32) <<< (x6 &&& 31)) m5)
  else
  (F_X7_paces_95 (F_X7_paces_47 n) x0 x1 x2 x3 x4 x6 x5 m5))))
def F_X7_paces (x0 : Nat) (x1 : Int32) (x2 : Int32) (x3 : Int32) (m : Mem) : Option (Int32 × Mem) :=
  (chkT m 7 x0).bind fun v15 =>
  (F_X7_isPerson x0 x1 m).bind fun v14 =>
  (if v14 = 0 then
  (some ((-1 : Int32), m))
  else
  (chkT m 7 x0).bind fun v18 =>
  (F_X7_isPerson x0 x2 m).bind fun v17 =>
  (if v17 = 0 then
  (some ((-1 : Int32), m))
  else
  (if x1 = x2 then
  (some ((-1 : Int32), m))
  else
  (F_X7_in x3 (1 : Int32) (24 : Int32)).bind fun v21 =>
  (if v21 = 0 then
  (some ((-1 : Int32), m))
  else
  (fR m 7 x0 7).bind fun v23 =>
  (ldI m v23 x1).bind fun v24 =>
  (F_X7_paces_47 FU x0 x1 x2 x3 v24 (0 : Int32) (0 : Int32) m)))))
def F_X7_share_38 (m : Mem) (r5 : Nat → Int32 → Int32 → Int32 → Int32 → Option Int32) (x0 : Nat) (x1 : Int32) (x2 : Int32) (x4 : Int32) (s0 : Int32) : Option Int32 :=
  (r5 x0 x1 x2 s0 (x4 + 1))
def F_X7_share_33 (m : Mem) (r5 : Nat → Int32 → Int32 → Int32 → Int32 → Option Int32) (x0 : Nat) (x1 : Int32) (x2 : Int32) (x4 : Int32) : Option Int32 :=
  (F_X7_share_38 m r5 x0 x1 x2 x4 (1 : Int32))
def F_X7_share_5 (m : Mem) : Nat → Nat → Int32 → Int32 → Int32 → Int32 → Option Int32
  | 0 => fun _ _ _ _ _ => none
  | n + 1 => fun x0 x1 x2 x3 x4 =>
  (if (24 : Int32) < x4 then
  (rN .boolean x3).bind fun v2 =>
  some x3
  else
  (if x3 = 0 then
  (chkT m 7 x0).bind fun v5 =>
  (F_X7_yardBehind x0 x1 x4 m).bind fun v4 =>
  (chkT m 7 x0).bind fun v7 =>
  (F_X7_yardBehind x0 x2 x4 m).bind fun v6 =>
  (if v4 = v6 then
  (F_X7_share_33 m (F_X7_share_5 m n) x0 x1 x2 x4)
  else
  (F_X7_share_38 m (F_X7_share_5 m n) x0 x1 x2 x4 (0 : Int32)))
  else
  (F_X7_share_33 m (F_X7_share_5 m n) x0 x1 x2 x4)))
def F_X7_share (x0 : Nat) (x1 : Int32) (x2 : Int32) (m : Mem) : Option Int32 :=
  (F_X7_share_5 m FU x0 x1 x2 (0 : Int32) (0 : Int32))
def F_X7_has (x0 : Int32) (x1 : Int32) : Option Int32 :=
  (if ((x0 >>> (x1 &&& 31)) &&& (1 : Int32)) = (1 : Int32) then
  (some (1 : Int32))
  else
  (some (0 : Int32)))
def F_X7_shy_78 (m : Mem) (r28 : Nat → Int32 → Int32 → Int32 → Option Int32) (x0 : Nat) (x1 : Int32) (x3 : Int32) (s0 : Int32) (s1 : Int32) : Option Int32 :=
  (r28 x0 x1 (s0 ||| s1) (x3 + 1))
def F_X7_shy_77 (m : Mem) (r28 : Nat → Int32 → Int32 → Int32 → Option Int32) (x0 : Nat) (x1 : Int32) (x3 : Int32) (s0 : Int32) : Option Int32 :=
  (F_X7_shy_78 m r28 x0 x1 x3 s0 (0 : Int32))
def F_X7_shy_108 (m : Mem) (x3 : Int32) : Option Int32 :=
  (if (9 : Int32) < x3 then
  (some (-4 : Int32))
  else
  (some x3))
def F_X7_shy_88 (m : Mem) : Nat → Int32 → Int32 → Option Int32
  | 0 => fun _ _ => none
  | n + 1 => fun x2 x3 =>
  (if (9 : Int32) < x3 then
  (F_X7_shy_108 m x3)
  else
  (F_X7_has x2 x3).bind fun v3 =>
  (if v3 = 0 then
  (F_X7_shy_108 m x3)
  else
  ((F_X7_shy_88 m n) x2 (x3 + 1))))
def F_X7_shy_28 (m : Mem) : Nat → Nat → Int32 → Int32 → Int32 → Option Int32
  | 0 => fun _ _ _ _ => none
  | n + 1 => fun x0 x1 x2 x3 =>
  (fI m 7 x0 0).bind fun v5 =>
  (if v5 ≤ x3 then
  (F_X7_shy_88 m FU x2 (1 : Int32))
  else
  (if x3 = x1 then
  (F_X7_shy_77 m (F_X7_shy_28 m n) x0 x1 x3 x2)
  else
  (fR m 7 x0 4).bind fun v8 =>
  (ldI m v8 x3).bind fun v9 =>
  (fR m 7 x0 4).bind fun v10 =>
  (ldI m v10 x1).bind fun v11 =>
  (if v9 = v11 then
  (chkT m 7 x0).bind fun v14 =>
  (F_X7_share x0 x1 x3 m).bind fun v13 =>
  (if v13 = 0 then
  (F_X7_shy_77 m (F_X7_shy_28 m n) x0 x1 x3 x2)
  else
  (fR m 7 x0 5).bind fun v16 =>
  (ldI m v16 x3).bind fun v17 =>
  (F_X7_shy_78 m (F_X7_shy_28 m n) x0 x1 x3 x2 ((1 : Int32) <<< (v17 &&& 31))))
  else
  (F_X7_shy_77 m (F_X7_shy_28 m n) x0 x1 x3 x2))))
def F_X7_shy (x0 : Nat) (x1 : Int32) (m : Mem) : Option Int32 :=
  (chkT m 7 x0).bind fun v19 =>
  (F_X7_isPerson x0 x1 m).bind fun v18 =>
  (if v18 = 0 then
  (some (-1 : Int32))
  else
  (fR m 7 x0 4).bind fun v21 =>
  (ldI m v21 x1).bind fun v22 =>
  (if v22 = (-4 : Int32) then
  (some (-2 : Int32))
  else
  (F_X7_shy_28 m FU x0 x1 (0 : Int32) (0 : Int32))))
def F_X7_setGuests_45 (r7 : Nat → Int32 → Int32 → Mem → Option Mem) (x0 : Nat) (x1 : Int32) (x2 : Int32) (m : Mem) : Option Mem :=
  (r7 x0 x1 (x2 + 1) m)
def F_X7_setGuests_116 (r53 : Nat → Int32 → Mem → Option Mem) (r70 : Nat → Int32 → Int32 → Mem → Option Mem) (x0 : Nat) (x2 : Int32) (x3 : Int32) (s0 : Nat) (s1 : Int32) (s2 : Int32) (s3 : Int32) (m : Mem) : Option Mem :=
  (stI m s0 s1 (s2 ||| s3)).bind fun m1 =>
  (r70 x0 x2 (x3 + 1) m1)
def F_X7_setGuests_115 (r53 : Nat → Int32 → Mem → Option Mem) (r70 : Nat → Int32 → Int32 → Mem → Option Mem) (x0 : Nat) (x2 : Int32) (x3 : Int32) (s0 : Nat) (s1 : Int32) (s2 : Int32) (m : Mem) : Option Mem :=
  (F_X7_setGuests_116 r53 r70 x0 x2 x3 s0 s1 s2 (0 : Int32) m)
def F_X7_setGuests_70 (r53 : Nat → Int32 → Mem → Option Mem) : Nat → Nat → Int32 → Int32 → Mem → Option Mem
  | 0 => fun _ _ _ _ => none
  | n + 1 => fun x0 x2 x3 m =>
  (fI m 7 x0 24).bind fun v2 =>
  (if v2 ≤ x3 then
  (r53 x0 (x2 + 1) m)
  else
  (fR m 7 x0 26).bind fun v4 =>
  (ldI m v4 x2).bind fun v5 =>
  (if x2 = x3 then
  (F_X7_setGuests_115 r53 (F_X7_setGuests_70 r53 n) x0 x2 x3 v4 x2 v5 m)
  else
  (fR m 7 x0 25).bind fun v7 =>
  (ldI m v7 x2).bind fun v8 =>
  (fR m 7 x0 25).bind fun v9 =>
  (ldI m v9 x3).bind fun v10 =>
  (chkT m 7 x0).bind fun v12 =>
  (F_X7_share x0 v8 v10 m).bind fun v11 =>
  (if v11 = 0 then
  (F_X7_setGuests_115 r53 (F_X7_setGuests_70 r53 n) x0 x2 x3 v4 x2 v5 m)
  else
  (F_X7_setGuests_116 r53 (F_X7_setGuests_70 r53 n) x0 x2 x3 v4 x2 v5 ((1 : Int32) <<< (x3 &&& 31)) m))))
def F_X7_setGuests_53 : Nat → Nat → Int32 → Mem → Option Mem
  | 0 => fun _ _ _ => none
  | n + 1 => fun x0 x2 m =>
  (fI m 7 x0 24).bind fun v14 =>
  (if v14 ≤ x2 then
  (some m)
  else
  (fR m 7 x0 26).bind fun v16 =>
  (stI m v16 x2 (0 : Int32)).bind fun m17 =>
  (F_X7_setGuests_70 (F_X7_setGuests_53 n) FU x0 x2 (0 : Int32) m17))
def F_X7_setGuests_7 : Nat → Nat → Int32 → Int32 → Mem → Option Mem
  | 0 => fun _ _ _ _ => none
  | n + 1 => fun x0 x1 x2 m =>
  (fI m 7 x0 0).bind fun v18 =>
  (if v18 ≤ x2 then
  (F_X7_setGuests_53 FU x0 (0 : Int32) m)
  else
  (fR m 7 x0 4).bind fun v20 =>
  (ldI m v20 x2).bind fun v21 =>
  (if v21 = x1 then
  (fR m 7 x0 25).bind fun v23 =>
  (fI m 7 x0 24).bind fun v24 =>
  (stI m v23 v24 x2).bind fun m25 =>
  (fI m25 7 x0 24).bind fun v26 =>
  (pI m25 7 x0 24 (v26 + (1 : Int32))).bind fun m27 =>
  (F_X7_setGuests_45 (F_X7_setGuests_7 n) x0 x1 x2 m27)
  else
  (F_X7_setGuests_45 (F_X7_setGuests_7 n) x0 x1 x2 m)))
def F_X7_setGuests (x0 : Nat) (x1 : Int32) (m : Mem) : Option Mem :=
  (pI m 7 x0 24 (0 : Int32)).bind fun m28 =>
  (F_X7_setGuests_7 FU x0 x1 (0 : Int32) m28)
def F_X7_nextWidth_33 (m : Mem) (r5 : Nat → Int32 → Int32 → Int32 → Int32 → Option Int32) (x0 : Nat) (x1 : Int32) (x2 : Int32) (x4 : Int32) (s0 : Int32) : Option Int32 :=
  (r5 x0 x1 x2 s0 (x4 + 1))
def F_X7_nextWidth_121 (m : Mem) (r66 : Nat → Int32 → Int32 → Int32 → Option Int32) (r79 : Nat → Int32 → Int32 → Int32 → Int32 → Int32 → Option Int32) (x0 : Nat) (x1 : Int32) (x4 : Int32) (x5 : Int32) (x7 : Int32) (s0 : Int32) : Option Int32 :=
  (r79 x0 x1 x4 x5 s0 (x7 + 1))
def F_X7_nextWidth_116 (m : Mem) (r66 : Nat → Int32 → Int32 → Int32 → Option Int32) (r79 : Nat → Int32 → Int32 → Int32 → Int32 → Int32 → Option Int32) (x0 : Nat) (x1 : Int32) (x4 : Int32) (x5 : Int32) (x7 : Int32) : Option Int32 :=
  (F_X7_nextWidth_121 m r66 r79 x0 x1 x4 x5 x7 (1 : Int32))
def F_X7_nextWidth_120 (m : Mem) (r66 : Nat → Int32 → Int32 → Int32 → Option Int32) (r79 : Nat → Int32 → Int32 → Int32 → Int32 → Int32 → Option Int32) (x0 : Nat) (x1 : Int32) (x4 : Int32) (x5 : Int32) (x7 : Int32) : Option Int32 :=
  (F_X7_nextWidth_121 m r66 r79 x0 x1 x4 x5 x7 (0 : Int32))
def F_X7_nextWidth_79 (m : Mem) (r66 : Nat → Int32 → Int32 → Int32 → Option Int32) : Nat → Nat → Int32 → Int32 → Int32 → Int32 → Int32 → Option Int32
  | 0 => fun _ _ _ _ _ _ => none
  | n + 1 => fun x0 x1 x4 x5 x6 x7 =>
  (if x1 ≤ x7 then
  (if x6 = 0 then
  (r66 x0 x1 x4 (x5 + 1))
  else
  (some x5))
  else
  (if x6 = 0 then
  (F_X7_nextWidth_120 m r66 (F_X7_nextWidth_79 m r66 n) x0 x1 x4 x5 x7)
  else
  (fR m 7 x0 26).bind fun v4 =>
  (ldI m v4 x1).bind fun v5 =>
  (F_X7_has v5 x7).bind fun v6 =>
  (if v6 = 0 then
  (F_X7_nextWidth_116 m r66 (F_X7_nextWidth_79 m r66 n) x0 x1 x4 x5 x7)
  else
  (fR m 7 x0 27).bind fun v8 =>
  (ldI m v8 x7).bind fun v9 =>
  (if v9 = x5 then
  (F_X7_nextWidth_120 m r66 (F_X7_nextWidth_79 m r66 n) x0 x1 x4 x5 x7)
  else
  (F_X7_nextWidth_116 m r66 (F_X7_nextWidth_79 m r66 n) x0 x1 x4 x5 x7)))))
def F_X7_nextWidth_66 (m : Mem) : Nat → Nat → Int32 → Int32 → Int32 → Option Int32
  | 0 => fun _ _ _ _ => none
  | n + 1 => fun x0 x1 x4 x5 =>
  (if x4 < x5 then
  (some (0 : Int32))
  else
  (F_X7_nextWidth_79 m (F_X7_nextWidth_66 m n) FU x0 x1 x4 x5 (1 : Int32) (0 : Int32)))
def F_X7_nextWidth_54 (m : Mem) (x0 : Nat) (x1 : Int32) (s0 : Int32) : Option Int32 :=
  (fR m 7 x0 27).bind fun v12 =>
  (ldI m v12 x1).bind fun v13 =>
  (F_X7_nextWidth_66 m FU x0 x1 s0 (v13 + (1 : Int32)))
def F_X7_nextWidth_5 (m : Mem) : Nat → Nat → Int32 → Int32 → Int32 → Int32 → Option Int32
  | 0 => fun _ _ _ _ _ => none
  | n + 1 => fun x0 x1 x2 x3 x4 =>
  (if x1 ≤ x4 then
  (if x2 ≤ (x3 + (1 : Int32)) then
  (F_X7_nextWidth_54 m x0 x1 x2)
  else
  (F_X7_nextWidth_54 m x0 x1 (x3 + (1 : Int32))))
  else
  (fR m 7 x0 27).bind fun v16 =>
  (ldI m v16 x4).bind fun v17 =>
  (if v17 ≤ x3 then
  (F_X7_nextWidth_33 m (F_X7_nextWidth_5 m n) x0 x1 x2 x4 x3)
  else
  (fR m 7 x0 27).bind fun v19 =>
  (ldI m v19 x4).bind fun v20 =>
  (F_X7_nextWidth_33 m (F_X7_nextWidth_5 m n) x0 x1 x2 x4 v20)))
def F_X7_nextWidth (x0 : Nat) (x1 : Int32) (x2 : Int32) (m : Mem) : Option Int32 :=
  (F_X7_nextWidth_5 m FU x0 x1 x2 (0 : Int32) (0 : Int32))
def F_X7_isWay_64 (r25 : Nat → Int32 → Int32 → Mem → Option (Int32 × Mem)) (x0 : Nat) (x1 : Int32) (s0 : Int32) (s1 : Int32) (m : Mem) : Option (Int32 × Mem) :=
  (r25 x0 x1 (s0 + s1) m)
def F_X7_isWay_69 (x0 : Nat) (x2 : Int32) (m : Mem) : Option (Int32 × Mem) :=
  (fI m 7 x0 24).bind fun v1 =>
  (if x2 = v1 then
  (some ((1 : Int32), m))
  else
  (some ((0 : Int32), m)))
def F_X7_isWay_25 : Nat → Nat → Int32 → Int32 → Mem → Option (Int32 × Mem)
  | 0 => fun _ _ _ _ => none
  | n + 1 => fun x0 x1 x2 m =>
  (if x2 < 0 then
  (F_X7_isWay_69 x0 x2 m)
  else
  (fI m 7 x0 24).bind fun v4 =>
  (if v4 ≤ x2 then
  (F_X7_isWay_69 x0 x2 m)
  else
  (fR m 7 x0 27).bind fun v6 =>
  (chkT m 7 x0).bind fun v8 =>
  (F_X7_nextWidth x0 x2 x1 m).bind fun v7 =>
  (stI m v6 x2 v7).bind fun m9 =>
  (fR m9 7 x0 27).bind fun v10 =>
  (ldI m9 v10 x2).bind fun v11 =>
  (if v11 ≤ 0 then
  (F_X7_isWay_64 (F_X7_isWay_25 n) x0 x1 x2 (-1 : Int32) m9)
  else
  (F_X7_isWay_64 (F_X7_isWay_25 n) x0 x1 x2 (1 : Int32) m9))))
def F_X7_isWay_4 : Nat → Nat → Int32 → Int32 → Int32 → Mem → Option (Int32 × Mem)
  | 0 => fun _ _ _ _ _ => none
  | n + 1 => fun x0 x1 x2 x3 m =>
  (fI m 7 x0 24).bind fun v13 =>
  (if v13 ≤ x3 then
  (F_X7_isWay_25 FU x0 x1 x2 m)
  else
  (fR m 7 x0 27).bind fun v15 =>
  (stI m v15 x3 (0 : Int32)).bind fun m16 =>
  ((F_X7_isWay_4 n) x0 x1 x2 (x3 + 1) m16))
def F_X7_isWay (x0 : Nat) (x1 : Int32) (m : Mem) : Option (Int32 × Mem) :=
  (F_X7_isWay_4 FU x0 x1 (0 : Int32) (0 : Int32) m)
def F_X7_spread_89 (r57 : Nat → Int32 → Int32 → Int32 → Mem → Option (Int32 × Mem)) (x0 : Nat) (x2 : Int32) (x5 : Int32) (s0 : Int32) (m : Mem) : Option (Int32 × Mem) :=
  (r57 x0 x2 s0 (x5 + 1) m)
def F_X7_spread_57 : Nat → Nat → Int32 → Int32 → Int32 → Mem → Option (Int32 × Mem)
  | 0 => fun _ _ _ _ _ => none
  | n + 1 => fun x0 x2 x4 x5 m =>
  (fI m 7 x0 24).bind fun v1 =>
  (if v1 ≤ x5 then
  (some (x4, m))
  else
  (fR m 7 x0 25).bind fun v3 =>
  (ldI m v3 x5).bind fun v4 =>
  (if v4 = x2 then
  (fR m 7 x0 27).bind fun v6 =>
  (ldI m v6 x5).bind fun v7 =>
  (F_X7_spread_89 (F_X7_spread_57 n) x0 x2 x5 v7 m)
  else
  (F_X7_spread_89 (F_X7_spread_57 n) x0 x2 x5 x4 m)))
def F_X7_spread_30 : Nat → Nat → Int32 → Int32 → Mem → Option (Int32 × Mem)
  | 0 => fun _ _ _ _ => none
  | n + 1 => fun x0 x2 x3 m =>
  (chkT m 7 x0).bind fun v9 =>
  (F_X7_isWay x0 x3 m).bind fun v8 =>
  (if v8.1 = 0 then
  ((F_X7_spread_30 n) x0 x2 (x3 + 1) v8.2)
  else
  (if 0 ≤ x2 then
  (F_X7_spread_57 FU x0 x2 (-4 : Int32) (0 : Int32) v8.2)
  else
  (some (x3, v8.2))))
def F_X7_spread (x0 : Nat) (x1 : Int32) (x2 : Int32) (m : Mem) : Option (Int32 × Mem) :=
  (F_X7_isDoor x1).bind fun v12 =>
  (if v12 = 0 then
  (some ((-1 : Int32), m))
  else
  (fI m 7 x0 0).bind fun v14 =>
  (F_X7_in x2 (-1 : Int32) (v14 - (1 : Int32))).bind fun v15 =>
  (if v15 = 0 then
  (some ((-1 : Int32), m))
  else
  (chkT m 7 x0).bind fun v18 =>
  (F_X7_setGuests x0 x1 m).bind fun v17 =>
  (F_X7_spread_30 FU x0 x2 (0 : Int32) v17)))
def F_X7_dear_61 (m : Mem) (r18 : Nat → Int32 → Int32 → Int32 → Int32 → Option Int32) (x0 : Nat) (x1 : Int32) (x2 : Int32) (x4 : Int32) (s0 : Int32) : Option Int32 :=
  (r18 x0 x1 x2 s0 (x4 + 1))
def F_X7_dear_48 (m : Mem) (r18 : Nat → Int32 → Int32 → Int32 → Int32 → Option Int32) (x0 : Nat) (x1 : Int32) (x3 : Int32) (x4 : Int32) (x5 : Int32) (s0 : Int32) : Option Int32 :=
  (if x5 ≤ x3 then
  (F_X7_dear_61 m r18 x0 x1 s0 x4 x3)
  else
  (F_X7_dear_61 m r18 x0 x1 s0 x4 x5))
def F_X7_dear_18 (m : Mem) : Nat → Nat → Int32 → Int32 → Int32 → Int32 → Option Int32
  | 0 => fun _ _ _ _ _ => none
  | n + 1 => fun x0 x1 x2 x3 x4 =>
  (if (6 : Int32) ≤ x4 then
  (if x1 = 0 then
  (some x2)
  else
  (some x3))
  else
  (chkT m 7 x0).bind fun v5 =>
  (F_X7_thoseAbout x0 x4 m).bind fun v4 =>
  (F_X7_bits v4).bind fun v6 =>
  (if v6 ≤ x3 then
  (F_X7_dear_48 m (F_X7_dear_18 m n) x0 x1 x3 x4 v6 x2)
  else
  (F_X7_dear_48 m (F_X7_dear_18 m n) x0 x1 x3 x4 v6 x4)))
def F_X7_dear (x0 : Nat) (x1 : Int32) (m : Mem) : Option Int32 :=
  (F_X7_in x1 (0 : Int32) (1 : Int32)).bind fun v8 =>
  (if v8 = 0 then
  (some (-1 : Int32))
  else
  (F_X7_dear_18 m FU x0 x1 (0 : Int32) (0 : Int32) (0 : Int32)))
def F_X7_seen (x0 : Nat) (x1 : Int32) (x2 : Int32) (x3 : Int32) (m : Mem) : Option (Int32 × Mem) :=
  (chkT m 7 x0).bind fun v2 =>
  (F_X7_isPerson x0 x1 m).bind fun v1 =>
  (if v1 = 0 then
  (some ((-1 : Int32), m))
  else
  (F_X7_in x2 (0 : Int32) (24 : Int32)).bind fun v4 =>
  (if v4 = 0 then
  (some ((-1 : Int32), m))
  else
  (F_X7_in x3 (0 : Int32) (11 : Int32)).bind fun v6 =>
  (if v6 = 0 then
  (some ((-1 : Int32), m))
  else
  (fI m 7 x0 8).bind fun v8 =>
  (if v8 = (6 : Int32) then
  (some ((-3 : Int32), m))
  else
  (fR m 7 x0 9).bind fun v10 =>
  (fI m 7 x0 8).bind fun v11 =>
  (stI m v10 v11 x1).bind fun m12 =>
  (fR m12 7 x0 10).bind fun v13 =>
  (fI m12 7 x0 8).bind fun v14 =>
  (stI m12 v13 v14 x2).bind fun m15 =>
  (fR m15 7 x0 11).bind fun v16 =>
  (fI m15 7 x0 8).bind fun v17 =>
  (stI m15 v16 v17 x3).bind fun m18 =>
  (fI m18 7 x0 8).bind fun v19 =>
  (pI m18 7 x0 8 (v19 + (1 : Int32))).bind fun m20 =>
  (fI m20 7 x0 8).bind fun v21 =>
  (some (v21, m20))))))
def F_X7_isSo_51 (m : Mem) (r4 : Nat → Int32 → Int32 → Int32 → Option Int32) (x0 : Nat) (x1 : Int32) (x3 : Int32) (s0 : Int32) : Option Int32 :=
  (r4 x0 x1 s0 (x3 + 1))
def F_X7_isSo_46 (m : Mem) (r4 : Nat → Int32 → Int32 → Int32 → Option Int32) (x0 : Nat) (x1 : Int32) (x3 : Int32) : Option Int32 :=
  (F_X7_isSo_51 m r4 x0 x1 x3 (1 : Int32))
def F_X7_isSo_50 (m : Mem) (r4 : Nat → Int32 → Int32 → Int32 → Option Int32) (x0 : Nat) (x1 : Int32) (x3 : Int32) : Option Int32 :=
  (F_X7_isSo_51 m r4 x0 x1 x3 (0 : Int32))
def F_X7_isSo_4 (m : Mem) : Nat → Nat → Int32 → Int32 → Int32 → Option Int32
  | 0 => fun _ _ _ _ => none
  | n + 1 => fun x0 x1 x2 x3 =>
  (fI m 7 x0 8).bind fun v1 =>
  (if v1 ≤ x3 then
  (rN .boolean x2).bind fun v3 =>
  some x2
  else
  (if x2 = 0 then
  (F_X7_isSo_50 m (F_X7_isSo_4 m n) x0 x1 x3)
  else
  (fR m 7 x0 9).bind fun v5 =>
  (ldI m v5 x3).bind fun v6 =>
  (if v6 = x1 then
  (fR m 7 x0 10).bind fun v8 =>
  (ldI m v8 x3).bind fun v9 =>
  (chkT m 7 x0).bind fun v11 =>
  (F_X7_yardBehind x0 x1 v9 m).bind fun v10 =>
  (fR m 7 x0 11).bind fun v12 =>
  (ldI m v12 x3).bind fun v13 =>
  (if v10 = v13 then
  (F_X7_isSo_46 m (F_X7_isSo_4 m n) x0 x1 x3)
  else
  (F_X7_isSo_50 m (F_X7_isSo_4 m n) x0 x1 x3))
  else
  (F_X7_isSo_46 m (F_X7_isSo_4 m n) x0 x1 x3))))
def F_X7_isSo (x0 : Nat) (x1 : Int32) (m : Mem) : Option Int32 :=
  (F_X7_isSo_4 m FU x0 x1 (1 : Int32) (0 : Int32))
def F_X7_kinds_53 (r22 : Nat → Int32 → Int32 → Int32 → Int32 → Mem → Option (Int32 × Mem)) (x0 : Nat) (x1 : Int32) (x2 : Int32) (x4 : Int32) (s0 : Int32) (s1 : Int32) (m : Mem) : Option (Int32 × Mem) :=
  (r22 x0 x1 x2 (s0 ||| s1) (x4 + 1) m)
def F_X7_kinds_22 : Nat → Nat → Int32 → Int32 → Int32 → Int32 → Mem → Option (Int32 × Mem)
  | 0 => fun _ _ _ _ _ _ => none
  | n + 1 => fun x0 x1 x2 x3 x4 m =>
  (if (3 : Int32) < x4 then
  (fR m 7 x0 1).bind fun v2 =>
  (stI m v2 x1 x2).bind fun m3 =>
  (some (x3, m3))
  else
  (fR m 7 x0 1).bind fun v4 =>
  (stI m v4 x1 x4).bind fun m5 =>
  (chkT m5 7 x0).bind fun v7 =>
  (F_X7_isSo x0 x1 m5).bind fun v6 =>
  (if v6 = 0 then
  (F_X7_kinds_53 (F_X7_kinds_22 n) x0 x1 x2 x4 x3 (0 : Int32) m5)
  else
  (F_X7_kinds_53 (F_X7_kinds_22 n) x0 x1 x2 x4 x3 ((1 : Int32) <<< (x4 &&& 31)) m5)))
def F_X7_kinds (x0 : Nat) (x1 : Int32) (m : Mem) : Option (Int32 × Mem) :=
  (chkT m 7 x0).bind fun v10 =>
  (F_X7_isPerson x0 x1 m).bind fun v9 =>
  (if v9 = 0 then
  (some ((-1 : Int32), m))
  else
  (fR m 7 x0 1).bind fun v12 =>
  (ldI m v12 x1).bind fun v13 =>
  (F_X7_kinds_22 FU x0 x1 v13 (0 : Int32) (0 : Int32) m))
def F_X7_speeds_54 (r22 : Nat → Int32 → Int32 → Int32 → Int32 → Mem → Option (Int32 × Mem)) (x0 : Nat) (x1 : Int32) (x2 : Int32) (x4 : Int32) (s0 : Int32) (s1 : Int32) (m : Mem) : Option (Int32 × Mem) :=
  (r22 x0 x1 x2 (s0 ||| s1) (x4 + 1) m)
def F_X7_speeds_22 : Nat → Nat → Int32 → Int32 → Int32 → Int32 → Mem → Option (Int32 × Mem)
  | 0 => fun _ _ _ _ _ _ => none
  | n + 1 => fun x0 x1 x2 x3 x4 m =>
  (if (12 : Int32) ≤ x4 then
  (fR m 7 x0 7).bind fun v2 =>
  (stI m v2 x1 x2).bind fun m3 =>
  (some (x3, m3))
  else
  (fR m 7 x0 7).bind fun v4 =>
  (stI m v4 x1 x4).bind fun m5 =>
  (chkT m5 7 x0).bind fun v7 =>
  (F_X7_isSo x0 x1 m5).bind fun v6 =>
  (if v6 = 0 then
  (F_X7_speeds_54 (F_X7_speeds_22 n) x0 x1 x2 x4 x3 (0 : Int32) m5)
  else
  (F_X7_speeds_54 (F_X7_speeds_22 n) x0 x1 x2 x4 x3 ((1 : Int32) <<< (x4 &&& 31)) m5)))
def F_X7_speeds (x0 : Nat) (x1 : Int32) (m : Mem) : Option (Int32 × Mem) :=
  (chkT m 7 x0).bind fun v10 =>
  (F_X7_isPerson x0 x1 m).bind fun v9 =>
  (if v9 = 0 then
  (some ((-1 : Int32), m))
  else
  (fR m 7 x0 7).bind fun v12 =>
  (ldI m v12 x1).bind fun v13 =>
  (F_X7_speeds_22 FU x0 x1 v13 (0 : Int32) (0 : Int32) m))
def F_X7_told (x0 : Nat) (x1 : Int32) (x2 : Int32) (m : Mem) : Option (Int32 × Mem) :=
  (F_X7_in x1 (0 : Int32) (24 : Int32)).bind fun v1 =>
  (if v1 = 0 then
  (some ((-1 : Int32), m))
  else
  (F_X7_in x2 (0 : Int32) (11 : Int32)).bind fun v3 =>
  (if v3 = 0 then
  (some ((-1 : Int32), m))
  else
  (fI m 7 x0 12).bind fun v5 =>
  (if v5 = (6 : Int32) then
  (some ((-3 : Int32), m))
  else
  (fR m 7 x0 13).bind fun v7 =>
  (fI m 7 x0 12).bind fun v8 =>
  (stI m v7 v8 x1).bind fun m9 =>
  (fR m9 7 x0 14).bind fun v10 =>
  (fI m9 7 x0 12).bind fun v11 =>
  (stI m9 v10 v11 x2).bind fun m12 =>
  (fI m12 7 x0 12).bind fun v13 =>
  (pI m12 7 x0 12 (v13 + (1 : Int32))).bind fun m14 =>
  (fI m14 7 x0 12).bind fun v15 =>
  (some (v15, m14)))))
def F_X7_isRing_47 (m : Mem) (r5 : Nat → Int32 → Int32 → Int32 → Int32 → Option Int32) (x0 : Nat) (x1 : Int32) (x2 : Int32) (x4 : Int32) (s0 : Int32) : Option Int32 :=
  (r5 x0 x1 x2 s0 (x4 + 1))
def F_X7_isRing_46 (m : Mem) (r5 : Nat → Int32 → Int32 → Int32 → Int32 → Option Int32) (x0 : Nat) (x1 : Int32) (x2 : Int32) (x4 : Int32) : Option Int32 :=
  (F_X7_isRing_47 m r5 x0 x1 x2 x4 (0 : Int32))
def F_X7_isRing_5 (m : Mem) : Nat → Nat → Int32 → Int32 → Int32 → Int32 → Option Int32
  | 0 => fun _ _ _ _ _ => none
  | n + 1 => fun x0 x1 x2 x3 x4 =>
  (fI m 7 x0 12).bind fun v1 =>
  (if v1 ≤ x4 then
  (rN .boolean x3).bind fun v3 =>
  some x3
  else
  (if x3 = 0 then
  (F_X7_isRing_46 m (F_X7_isRing_5 m n) x0 x1 x2 x4)
  else
  (fR m 7 x0 13).bind fun v5 =>
  (ldI m v5 x4).bind fun v6 =>
  (fR m 7 x0 14).bind fun v7 =>
  (ldI m v7 x4).bind fun v8 =>
  (if (jrem (x1 + (v6 * x2)) (12 : Int32)) = v8 then
  (F_X7_isRing_47 m (F_X7_isRing_5 m n) x0 x1 x2 x4 (1 : Int32))
  else
  (F_X7_isRing_46 m (F_X7_isRing_5 m n) x0 x1 x2 x4))))
def F_X7_isRing (x0 : Nat) (x1 : Int32) (x2 : Int32) (m : Mem) : Option Int32 :=
  (F_X7_isRing_5 m FU x0 x1 x2 (1 : Int32) (0 : Int32))
def F_X7_rings_73 (m : Mem) (r20 : Nat → Int32 → Int32 → Int32 → Int32 → Option Int32) (r29 : Nat → Int32 → Int32 → Int32 → Int32 → Int32 → Option Int32) (x0 : Nat) (x1 : Int32) (x3 : Int32) (x4 : Int32) (x5 : Int32) (s0 : Int32) (s1 : Int32) : Option Int32 :=
  (r29 x0 x1 (s0 + s1) x3 x4 (x5 + (-1)))
def F_X7_rings_61 (m : Mem) (r20 : Nat → Int32 → Int32 → Int32 → Int32 → Option Int32) (r29 : Nat → Int32 → Int32 → Int32 → Int32 → Int32 → Option Int32) (x0 : Nat) (x1 : Int32) (x2 : Int32) (x4 : Int32) (x5 : Int32) (x6 : Int32) (s0 : Int32) : Option Int32 :=
  (if x6 = 0 then
  (F_X7_rings_73 m r20 r29 x0 x1 s0 x4 x5 x2 (0 : Int32))
  else
  (F_X7_rings_73 m r20 r29 x0 x1 s0 x4 x5 x2 (1 : Int32)))
def F_X7_rings_29 (m : Mem) (r20 : Nat → Int32 → Int32 → Int32 → Int32 → Option Int32) : Nat → Nat → Int32 → Int32 → Int32 → Int32 → Int32 → Option Int32
  | 0 => fun _ _ _ _ _ _ => none
  | n + 1 => fun x0 x1 x2 x3 x4 x5 =>
  (if x5 < 0 then
  (r20 x0 x1 x2 x3 (x4 + (-1)))
  else
  (chkT m 7 x0).bind fun v4 =>
  (F_X7_isRing x0 x4 x5 m).bind fun v3 =>
  (if v3 = 0 then
  (F_X7_rings_61 m r20 (F_X7_rings_29 m r20 n) x0 x1 x2 x4 x5 v3 x3)
  else
  (F_X7_rings_61 m r20 (F_X7_rings_29 m r20 n) x0 x1 x2 x4 x5 v3 (((12 : Int32) * x4) + x5))))
def F_X7_rings_20 (m : Mem) : Nat → Nat → Int32 → Int32 → Int32 → Int32 → Option Int32
  | 0 => fun _ _ _ _ _ => none
  | n + 1 => fun x0 x1 x2 x3 x4 =>
  (if x4 < 0 then
  (if x1 = 0 then
  (some x2)
  else
  (some x3))
  else
  (F_X7_rings_29 m (F_X7_rings_20 m n) FU x0 x1 x2 x3 x4 (11 : Int32)))
def F_X7_rings (x0 : Nat) (x1 : Int32) (m : Mem) : Option Int32 :=
  (F_X7_in x1 (0 : Int32) (1 : Int32)).bind fun v8 =>
  (if v8 = 0 then
  (some (-1 : Int32))
  else
  (F_X7_rings_20 m FU x0 x1 (0 : Int32) (-4 : Int32) (11 : Int32)))
def F_X7_yardsBehind_46 (m : Mem) (r4 : Nat → Int32 → Int32 → Int32 → Option Int32) (r13 : Nat → Int32 → Int32 → Int32 → Int32 → Option Int32) (x0 : Nat) (x1 : Int32) (x3 : Int32) (x4 : Int32) (s0 : Int32) (s1 : Int32) : Option Int32 :=
  (r13 x0 x1 (s0 ||| s1) x3 (x4 + 1))
def F_X7_yardsBehind_13 (m : Mem) (r4 : Nat → Int32 → Int32 → Int32 → Option Int32) : Nat → Nat → Int32 → Int32 → Int32 → Int32 → Option Int32
  | 0 => fun _ _ _ _ _ => none
  | n + 1 => fun x0 x1 x2 x3 x4 =>
  (if (12 : Int32) ≤ x4 then
  (r4 x0 x1 x2 (x3 + 1))
  else
  (chkT m 7 x0).bind fun v3 =>
  (F_X7_isRing x0 x3 x4 m).bind fun v2 =>
  (if v2 = 0 then
  (F_X7_yardsBehind_46 m r4 (F_X7_yardsBehind_13 m r4 n) x0 x1 x3 x4 x2 (0 : Int32))
  else
  (F_X7_yardsBehind_46 m r4 (F_X7_yardsBehind_13 m r4 n) x0 x1 x3 x4 x2 ((1 : Int32) <<< ((jrem (x3 + (x1 * x4)) (12 : Int32)) &&& 31)))))
def F_X7_yardsBehind_4 (m : Mem) : Nat → Nat → Int32 → Int32 → Int32 → Option Int32
  | 0 => fun _ _ _ _ => none
  | n + 1 => fun x0 x1 x2 x3 =>
  (if (12 : Int32) ≤ x3 then
  (F_X7_bits x2).bind fun v6 =>
  (some v6)
  else
  (F_X7_yardsBehind_13 m (F_X7_yardsBehind_4 m n) FU x0 x1 x2 x3 (0 : Int32)))
def F_X7_yardsBehind (x0 : Nat) (x1 : Int32) (m : Mem) : Option Int32 :=
  (F_X7_yardsBehind_4 m FU x0 x1 (0 : Int32) (0 : Int32))
def F_X7_look_58 (m : Mem) (r18 : Nat → Int32 → Int32 → Int32 → Int32 → Option Int32) (x0 : Nat) (x1 : Int32) (x2 : Int32) (x4 : Int32) (s0 : Int32) : Option Int32 :=
  (r18 x0 x1 x2 s0 (x4 + 1))
def F_X7_look_45 (m : Mem) (r18 : Nat → Int32 → Int32 → Int32 → Int32 → Option Int32) (x0 : Nat) (x1 : Int32) (x3 : Int32) (x4 : Int32) (x5 : Int32) (s0 : Int32) : Option Int32 :=
  (if x5 ≤ x3 then
  (F_X7_look_58 m r18 x0 x1 s0 x4 x3)
  else
  (F_X7_look_58 m r18 x0 x1 s0 x4 x5))
def F_X7_look_18 (m : Mem) : Nat → Nat → Int32 → Int32 → Int32 → Int32 → Option Int32
  | 0 => fun _ _ _ _ _ => none
  | n + 1 => fun x0 x1 x2 x3 x4 =>
  (if (12 : Int32) < x4 then
  (if x1 = 0 then
  (some x2)
  else
  (some x3))
  else
  (chkT m 7 x0).bind fun v5 =>
  (F_X7_yardsBehind x0 x4 m).bind fun v4 =>
  (if v4 ≤ x3 then
  (F_X7_look_45 m (F_X7_look_18 m n) x0 x1 x3 x4 v4 x2)
  else
  (F_X7_look_45 m (F_X7_look_18 m n) x0 x1 x3 x4 v4 x4)))
def F_X7_look (x0 : Nat) (x1 : Int32) (m : Mem) : Option Int32 :=
  (F_X7_in x1 (0 : Int32) (1 : Int32)).bind fun v7 =>
  (if v7 = 0 then
  (some (-1 : Int32))
  else
  (F_X7_look_18 m FU x0 x1 (0 : Int32) (0 : Int32) (0 : Int32)))
def F_X7_forget (x0 : Nat) (m : Mem) : Option (Int32 × Mem) :=
  (fI m 7 x0 8).bind fun v1 =>
  (fI m 7 x0 12).bind fun v2 =>
  (pI m 7 x0 8 (0 : Int32)).bind fun m3 =>
  (pI m3 7 x0 12 (0 : Int32)).bind fun m4 =>
  (some ((v1 + v2), m4))
def F_X7_common_6 : Nat → Int64 → Int64 → Option Int64
  | 0 => fun _ _ => none
  | n + 1 => fun x4 x6 =>
  (if (lg_cmp x6 (0 : Int64)) = 0 then
  (some x4)
  else
  (if x6 = 0 then none else
  ((F_X7_common_6 n) x6 (jremL x4 x6))))
def F_X7_common (x0 : Int64) (x2 : Int64) : Option Int64 :=
  (F_X7_common_6 FU x0 x2)
def F_X7_likely_187 (m : Mem) (r94 : Nat → Int32 → Int32 → Int32 → Int32 → Int32 → Int32 → Int64 → Int64 → Int32 → Option Int32) (r116 : Nat → Int32 → Int32 → Int32 → Int32 → Int32 → Int32 → Int64 → Int64 → Int32 → Int64 → Int32 → Int32 → Option Int32) (x0 : Nat) (x1 : Int32) (x2 : Int32) (x3 : Int32) (x4 : Int32) (x5 : Int32) (x6 : Int32) (x7 : Int64) (x9 : Int64) (x11 : Int32) (x12 : Int64) (x15 : Int32) (s0 : Int32) (s1 : Int32) : Option Int32 :=
  (r116 x0 x1 x2 x3 x4 x5 x6 x7 x9 x11 x12 (s0 + s1) (x15 + 1))
def F_X7_likely_146 (m : Mem) (r94 : Nat → Int32 → Int32 → Int32 → Int32 → Int32 → Int32 → Int64 → Int64 → Int32 → Option Int32) (r116 : Nat → Int32 → Int32 → Int32 → Int32 → Int32 → Int32 → Int64 → Int64 → Int32 → Int64 → Int32 → Int32 → Option Int32) (x0 : Nat) (x1 : Int32) (x2 : Int32) (x3 : Int32) (x4 : Int32) (x5 : Int32) (x6 : Int32) (x7 : Int64) (x9 : Int64) (x11 : Int32) (x14 : Int32) (x15 : Int32) (s0 : Int64) (s1 : Int64) : Option Int32 :=
  (F_X7_has x11 x15).bind fun v1 =>
  (if v1 = 0 then
  (fR m 7 x0 1).bind fun v3 =>
  (ldI m v3 x1).bind fun v4 =>
  (fR m 7 x0 7).bind fun v5 =>
  (ldI m v5 x1).bind fun v6 =>
  (fI m 7 x0 2).bind fun v7 =>
  (F_X7_goes v4 v6 (v7 + x15)).bind fun v8 =>
  (F_X7_likely_187 m r94 r116 x0 x1 x2 x3 x4 x5 x6 x7 x9 x11 (s0 * s1) x15 x14 v8)
  else
  (F_X7_likely_187 m r94 r116 x0 x1 x2 x3 x4 x5 x6 x7 x9 x11 (s0 * s1) x15 x14 (0 : Int32)))
def F_X7_likely_223 (m : Mem) (r94 : Nat → Int32 → Int32 → Int32 → Int32 → Int32 → Int32 → Int64 → Int64 → Int32 → Option Int32) (x0 : Nat) (x1 : Int32) (x2 : Int32) (x3 : Int32) (x4 : Int32) (x5 : Int32) (x6 : Int32) (x9 : Int64) (x11 : Int32) (s0 : Int64) (s1 : Int64) : Option Int32 :=
  (r94 x0 x1 x2 x3 x4 x5 x6 (s0 + s1) x9 (x11 + 1))
def F_X7_likely_222 (m : Mem) (r94 : Nat → Int32 → Int32 → Int32 → Int32 → Int32 → Int32 → Int64 → Int64 → Int32 → Option Int32) (x0 : Nat) (x1 : Int32) (x2 : Int32) (x3 : Int32) (x4 : Int32) (x5 : Int32) (x6 : Int32) (x9 : Int64) (x11 : Int32) (s0 : Int64) : Option Int32 :=
  (F_X7_likely_223 m r94 x0 x1 x2 x3 x4 x5 x6 x9 x11 s0 (0 : Int64))
def F_X7_likely_116 (m : Mem) (r94 : Nat → Int32 → Int32 → Int32 → Int32 → Int32 → Int32 → Int64 → Int64 → Int32 → Option Int32) : Nat → Nat → Int32 → Int32 → Int32 → Int32 → Int32 → Int32 → Int64 → Int64 → Int32 → Int64 → Int32 → Int32 → Option Int32
  | 0 => fun _ _ _ _ _ _ _ _ _ _ _ _ _ => none
  | n + 1 => fun x0 x1 x2 x3 x4 x5 x6 x7 x9 x11 x12 x14 x15 =>
  (if x3 ≤ x15 then
  (chkT m 7 x0).bind fun v11 =>
  (F_X7_isSame x0 x1 x2 m).bind fun v10 =>
  (if v10 = 0 then
  (F_X7_likely_222 m r94 x0 x1 x2 x3 x4 x5 x6 x9 x11 x7)
  else
  (if (jrem x14 (12 : Int32)) = x6 then
  (F_X7_likely_223 m r94 x0 x1 x2 x3 x4 x5 x6 x9 x11 x7 x12)
  else
  (F_X7_likely_222 m r94 x0 x1 x2 x3 x4 x5 x6 x9 x11 x7)))
  else
  (F_X7_has x11 x15).bind fun v14 =>
  (if v14 = 0 then
  (F_X7_likely_146 m r94 (F_X7_likely_116 m r94 n) x0 x1 x2 x3 x4 x5 x6 x7 x9 x11 x14 x15 x12 (Int32.toInt64 ((10 : Int32) - x4)))
  else
  (F_X7_likely_146 m r94 (F_X7_likely_116 m r94 n) x0 x1 x2 x3 x4 x5 x6 x7 x9 x11 x14 x15 x12 (Int32.toInt64 x4))))
def F_X7_likely_259 (m : Mem) (s0 : Int64) : Option Int32 :=
  (some (Int64.toInt32 s0))
def F_X7_likely_94 (m : Mem) : Nat → Nat → Int32 → Int32 → Int32 → Int32 → Int32 → Int32 → Int64 → Int64 → Int32 → Option Int32
  | 0 => fun _ _ _ _ _ _ _ _ _ _ => none
  | n + 1 => fun x0 x1 x2 x3 x4 x5 x6 x7 x9 x11 =>
  (if ((1 : Int32) <<< (x3 &&& 31)) ≤ x11 then
  (F_X7_common x7 x9).bind fun v17 =>
  (if x5 = 0 then
  (if v17 = 0 then none else
  (F_X7_likely_259 m (x7 / v17)))
  else
  (if v17 = 0 then none else
  (F_X7_likely_259 m (x9 / v17))))
  else
  (fR m 7 x0 6).bind fun v21 =>
  (ldI m v21 x1).bind fun v22 =>
  (F_X7_likely_116 m (F_X7_likely_94 m n) FU x0 x1 x2 x3 x4 x5 x6 x7 x9 x11 (1 : Int64) v22 (0 : Int32)))
def F_X7_likely_71 (m : Mem) : Nat → Nat → Int32 → Int32 → Int32 → Int32 → Int32 → Int32 → Int64 → Int64 → Int32 → Option Int32
  | 0 => fun _ _ _ _ _ _ _ _ _ _ => none
  | n + 1 => fun x0 x1 x2 x3 x4 x5 x6 x7 x9 x11 =>
  (if x3 ≤ x11 then
  (F_X7_likely_94 m FU x0 x1 x2 x3 x4 x5 x6 x7 x9 (0 : Int32))
  else
  ((F_X7_likely_71 m n) x0 x1 x2 x3 x4 x5 x6 x7 (x9 * (10 : Int64)) (x11 + 1)))
def F_X7_likely (x0 : Nat) (x1 : Int32) (x2 : Int32) (x3 : Int32) (x4 : Int32) (x5 : Int32) (m : Mem) : Option Int32 :=
  (chkT m 7 x0).bind fun v25 =>
  (F_X7_isPerson x0 x1 m).bind fun v24 =>
  (if v24 = 0 then
  (some (-1 : Int32))
  else
  (chkT m 7 x0).bind fun v28 =>
  (F_X7_isPerson x0 x2 m).bind fun v27 =>
  (if v27 = 0 then
  (some (-1 : Int32))
  else
  (if x1 = x2 then
  (some (-1 : Int32))
  else
  (F_X7_in x3 (0 : Int32) (7 : Int32)).bind fun v31 =>
  (if v31 = 0 then
  (some (-1 : Int32))
  else
  (F_X7_in x4 (0 : Int32) (10 : Int32)).bind fun v33 =>
  (if v33 = 0 then
  (some (-1 : Int32))
  else
  (F_X7_in x5 (0 : Int32) (1 : Int32)).bind fun v35 =>
  (if v35 = 0 then
  (some (-1 : Int32))
  else
  (chkT m 7 x0).bind fun v38 =>
  (F_X7_yardBehind x0 x2 x3 m).bind fun v37 =>
  (F_X7_likely_71 m FU x0 x1 x2 x3 x4 x5 v37 (0 : Int64) (1 : Int64) (0 : Int32))))))))
def F_X7_season_177 (r45 : Nat → Int32 → Int32 → Int32 → Int32 → Int32 → Mem → Option (Int32 × Mem)) (x0 : Nat) (x1 : Int32) (x2 : Int32) (x3 : Int32) (x4 : Int32) (x5 : Int32) (m : Mem) : Option (Int32 × Mem) :=
  (chkT m 7 x0).bind fun v2 =>
  (F_X7_passes x0 m).bind fun v1 =>
  (r45 x0 x1 x2 x3 x4 (x5 + 1) v1)
def F_X7_season_236 (r196 : Nat → Int32 → Int32 → Int32 → Int32 → Int32 → Mem → Option (Int32 × Mem)) (x0 : Nat) (x3 : Int32) (x4 : Int32) (x5 : Int32) (x7 : Int32) (s0 : Int32) (s1 : Int32) (m : Mem) : Option (Int32 × Mem) :=
  (r196 x0 x3 x4 x5 (s0 + s1) (x7 + 1) m)
def F_X7_season_271 (x0 : Nat) (s0 : Int32) (m : Mem) : Option (Int32 × Mem) :=
  (chkT m 7 x0).bind fun v4 =>
  (F_X7_putBack x0 m).bind fun v3 =>
  (some (s0, v3))
def F_X7_season_196 : Nat → Nat → Int32 → Int32 → Int32 → Int32 → Int32 → Mem → Option (Int32 × Mem)
  | 0 => fun _ _ _ _ _ _ _ => none
  | n + 1 => fun x0 x3 x4 x5 x6 x7 m =>
  (fI m 7 x0 0).bind fun v5 =>
  (if v5 ≤ x7 then
  (if x3 = 0 then
  (fI m 7 x0 3).bind fun v9 =>
  (F_X7_season_271 x0 (v9 - x4) m)
  else
  (if x3 = (1 : Int32) then
  (F_X7_season_271 x0 x6 m)
  else
  (F_X7_season_271 x0 x5 m)))
  else
  (fR m 7 x0 6).bind fun v10 =>
  (ldI m v10 x7).bind fun v11 =>
  (fR m 7 x0 4).bind fun v12 =>
  (ldI m v12 x7).bind fun v13 =>
  (if v13 = (-4 : Int32) then
  (F_X7_season_236 (F_X7_season_196 n) x0 x3 x4 (x5 + v11) x7 x6 (0 : Int32) m)
  else
  (F_X7_season_236 (F_X7_season_196 n) x0 x3 x4 (x5 + v11) x7 x6 (1 : Int32) m)))
def F_X7_season_45 : Nat → Nat → Int32 → Int32 → Int32 → Int32 → Int32 → Mem → Option (Int32 × Mem)
  | 0 => fun _ _ _ _ _ _ _ => none
  | n + 1 => fun x0 x1 x2 x3 x4 x5 m =>
  (if x2 ≤ x5 then
  (F_X7_season_196 FU x0 x3 x4 (0 : Int32) (0 : Int32) (0 : Int32) m)
  else
  (fI m 7 x0 0).bind fun v16 =>
  (if v16 = 0 then none else
  (if (jrem ((Int64.toInt32 ((jremL (((((7919 : Int64) * (Int32.toInt64 x1)) + ((6151 : Int64) * (Int32.toInt64 x5))) + (1 : Int64)) * ((((7919 : Int64) * (Int32.toInt64 x1)) + ((6151 : Int64) * (Int32.toInt64 x5))) + (1 : Int64))) (65521 : Int64)) / (2 : Int64))) / (8 : Int32)) (6 : Int32)) = 0 then
  (chkT m 7 x0).bind fun v26 =>
  (F_X7_weaves x0 (jrem (Int64.toInt32 ((jremL (((((7919 : Int64) * (Int32.toInt64 x1)) + ((6151 : Int64) * (Int32.toInt64 x5))) + (1 : Int64)) * ((((7919 : Int64) * (Int32.toInt64 x1)) + ((6151 : Int64) * (Int32.toInt64 x5))) + (1 : Int64))) (65521 : Int64)) / (2 : Int64))) v16) (jrem ((Int64.toInt32 ((jremL (((((7919 : Int64) * (Int32.toInt64 x1)) + ((6151 : Int64) * (Int32.toInt64 x5))) + (1 : Int64)) * ((((7919 : Int64) * (Int32.toInt64 x1)) + ((6151 : Int64) * (Int32.toInt64 x5))) + (1 : Int64))) (65521 : Int64)) / (2 : Int64))) / (64 : Int32)) (6 : Int32)) ((jrem ((Int64.toInt32 ((jremL (((((7919 : Int64) * (Int32.toInt64 x1)) + ((6151 : Int64) * (Int32.toInt64 x5))) + (1 : Int64)) * ((((7919 : Int64) * (Int32.toInt64 x1)) + ((6151 : Int64) * (Int32.toInt64 x5))) + (1 : Int64))) (65521 : Int64)) / (2 : Int64))) / (512 : Int32)) (9 : Int32)) + (1 : Int32)) m).bind fun v25 =>
  (F_X7_season_177 (F_X7_season_45 n) x0 x1 x2 x3 x4 x5 v25)
  else
  (if (jrem ((Int64.toInt32 ((jremL (((((7919 : Int64) * (Int32.toInt64 x1)) + ((6151 : Int64) * (Int32.toInt64 x5))) + (1 : Int64)) * ((((7919 : Int64) * (Int32.toInt64 x1)) + ((6151 : Int64) * (Int32.toInt64 x5))) + (1 : Int64))) (65521 : Int64)) / (2 : Int64))) / (8 : Int32)) (6 : Int32)) = (1 : Int32) then
  (chkT m 7 x0).bind fun v24 =>
  (F_X7_weaves x0 (jrem (Int64.toInt32 ((jremL (((((7919 : Int64) * (Int32.toInt64 x1)) + ((6151 : Int64) * (Int32.toInt64 x5))) + (1 : Int64)) * ((((7919 : Int64) * (Int32.toInt64 x1)) + ((6151 : Int64) * (Int32.toInt64 x5))) + (1 : Int64))) (65521 : Int64)) / (2 : Int64))) v16) (-4 : Int32) (-4 : Int32) m).bind fun v23 =>
  (F_X7_season_177 (F_X7_season_45 n) x0 x1 x2 x3 x4 x5 v23)
  else
  (if (jrem ((Int64.toInt32 ((jremL (((((7919 : Int64) * (Int32.toInt64 x1)) + ((6151 : Int64) * (Int32.toInt64 x5))) + (1 : Int64)) * ((((7919 : Int64) * (Int32.toInt64 x1)) + ((6151 : Int64) * (Int32.toInt64 x5))) + (1 : Int64))) (65521 : Int64)) / (2 : Int64))) / (8 : Int32)) (6 : Int32)) = (2 : Int32) then
  (fR m 7 x0 7).bind fun v21 =>
  (stI m v21 (jrem (Int64.toInt32 ((jremL (((((7919 : Int64) * (Int32.toInt64 x1)) + ((6151 : Int64) * (Int32.toInt64 x5))) + (1 : Int64)) * ((((7919 : Int64) * (Int32.toInt64 x1)) + ((6151 : Int64) * (Int32.toInt64 x5))) + (1 : Int64))) (65521 : Int64)) / (2 : Int64))) v16) (jrem ((Int64.toInt32 ((jremL (((((7919 : Int64) * (Int32.toInt64 x1)) + ((6151 : Int64) * (Int32.toInt64 x5))) + (1 : Int64)) * ((((7919 : Int64) * (Int32.toInt64 x1)) + ((6151 : Int64) * (Int32.toInt64 x5))) + (1 : Int64))) (65521 : Int64)) / (2 : Int64))) / (64 : Int32)) (12 : Int32))).bind fun m22 =>
  (F_X7_season_177 (F_X7_season_45 n) x0 x1 x2 x3 x4 x5 m22)
  else
  (F_X7_season_177 (F_X7_season_45 n) x0 x1 x2 x3 x4 x5 m))))))
def F_X7_season (x0 : Nat) (x1 : Int32) (x2 : Int32) (x3 : Int32) (m : Mem) : Option (Int32 × Mem) :=
  (F_X7_in x1 (0 : Int32) (9999 : Int32)).bind fun v27 =>
  (if v27 = 0 then
  (some ((-1 : Int32), m))
  else
  (F_X7_in x2 (1 : Int32) (60 : Int32)).bind fun v29 =>
  (if v29 = 0 then
  (some ((-1 : Int32), m))
  else
  (F_X7_in x3 (0 : Int32) (2 : Int32)).bind fun v31 =>
  (if v31 = 0 then
  (some ((-1 : Int32), m))
  else
  (chkT m 7 x0).bind fun v34 =>
  (F_X7_begin x0 m).bind fun v33 =>
  (fI v33 7 x0 3).bind fun v35 =>
  (F_X7_season_45 FU x0 x1 x2 x3 v35 (0 : Int32) v33))))
def F_X7_keep (x0 : Nat) (m : Mem) : Option (Int32 × Mem) :=
  (fI m 7 x0 29).bind fun v1 =>
  (if v1 = (2 : Int32) then
  (some ((-3 : Int32), m))
  else
  (fR m 7 x0 28).bind fun v3 =>
  (fI m 7 x0 29).bind fun v4 =>
  (chkT m 7 x0).bind fun v6 =>
  (F_X7_lays x0 v3 ((30 : Int32) * v4) m).bind fun v5 =>
  (fI v5 7 x0 29).bind fun v7 =>
  (pI v5 7 x0 29 (v7 + (1 : Int32))).bind fun m8 =>
  (fI m8 7 x0 29).bind fun v9 =>
  (some (v9, m8)))
def F_X7_back (x0 : Nat) (m : Mem) : Option (Int32 × Mem) :=
  (fI m 7 x0 29).bind fun v1 =>
  (if v1 = 0 then
  (some ((-2 : Int32), m))
  else
  (fI m 7 x0 29).bind fun v3 =>
  (pI m 7 x0 29 (v3 - (1 : Int32))).bind fun m4 =>
  (fR m4 7 x0 28).bind fun v5 =>
  (fI m4 7 x0 29).bind fun v6 =>
  (chkT m4 7 x0).bind fun v8 =>
  (F_X7_takes x0 v5 ((30 : Int32) * v6) m4).bind fun v7 =>
  (pI v7 7 x0 22 (0 : Int32)).bind fun m9 =>
  (fI m9 7 x0 29).bind fun v10 =>
  (some (v10, m9)))
def F_X7_aboutMany_29 (m : Mem) (r4 : Nat → Int32 → Int32 → Option Int32) (x0 : Nat) (x2 : Int32) (s0 : Int32) (s1 : Int32) : Option Int32 :=
  (r4 x0 (s0 + s1) (x2 + 1))
def F_X7_aboutMany_4 (m : Mem) : Nat → Nat → Int32 → Int32 → Option Int32
  | 0 => fun _ _ _ => none
  | n + 1 => fun x0 x1 x2 =>
  (fI m 7 x0 0).bind fun v1 =>
  (if v1 ≤ x2 then
  (some x1)
  else
  (fR m 7 x0 4).bind fun v3 =>
  (ldI m v3 x2).bind fun v4 =>
  (if v4 = (-4 : Int32) then
  (F_X7_aboutMany_29 m (F_X7_aboutMany_4 m n) x0 x2 x1 (0 : Int32))
  else
  (F_X7_aboutMany_29 m (F_X7_aboutMany_4 m n) x0 x2 x1 (1 : Int32))))
def F_X7_aboutMany (x0 : Nat) (m : Mem) : Option Int32 :=
  (F_X7_aboutMany_4 m FU x0 (0 : Int32) (0 : Int32))
def F_X7_count (x0 : Nat) (x1 : Int32) (m : Mem) : Option Int32 :=
  (F_X7_in x1 (0 : Int32) (10 : Int32)).bind fun v1 =>
  (if v1 = 0 then
  (some (-1 : Int32))
  else
  (if x1 = 0 then
  (fI m 7 x0 0).bind fun v4 =>
  (some v4)
  else
  (if x1 = 1 then
  (fI m 7 x0 2).bind fun v6 =>
  (some v6)
  else
  (if x1 = 2 then
  (chkT m 7 x0).bind fun v9 =>
  (F_X7_aboutMany x0 m).bind fun v8 =>
  (some v8)
  else
  (if x1 = 3 then
  (chkT m 7 x0).bind fun v12 =>
  (F_X7_pairs x0 (1 : Int32) m).bind fun v11 =>
  (some v11)
  else
  (if x1 = 4 then
  (chkT m 7 x0).bind fun v15 =>
  (F_X7_pairs x0 (0 : Int32) m).bind fun v14 =>
  (some v14)
  else
  (if x1 = 5 then
  (fI m 7 x0 3).bind fun v17 =>
  (some v17)
  else
  (if x1 = 6 then
  (fI m 7 x0 8).bind fun v19 =>
  (some v19)
  else
  (if x1 = 7 then
  (fI m 7 x0 12).bind fun v21 =>
  (some v21)
  else
  (if x1 = 8 then
  (fI m 7 x0 22).bind fun v23 =>
  (some v23)
  else
  (if x1 = 9 then
  (fI m 7 x0 29).bind fun v25 =>
  (some v25)
  else
  (fI m 7 x0 16).bind fun v26 =>
  (some v26))))))))))))
theorem dX7_comes_0 : decode (mC Y_X7_comes) 0 = .ok (.aload_n 0, 1) := by decide +kernel
theorem dX7_comes_1 : decode (mC Y_X7_comes) 1 = .ok (.getfield 9, 3) := by decide +kernel
theorem dX7_comes_4 : decode (mC Y_X7_comes) 4 = .ok (.aload_n 0, 1) := by decide +kernel
theorem dX7_comes_5 : decode (mC Y_X7_comes) 5 = .ok (.getfield 68, 3) := by decide +kernel
theorem dX7_comes_8 : decode (mC Y_X7_comes) 8 = .ok (.iload_n 1, 1) := by decide +kernel
theorem dX7_comes_9 : decode (mC Y_X7_comes) 9 = .ok (.iastore, 1) := by decide +kernel
theorem dX7_comes_10 : decode (mC Y_X7_comes) 10 = .ok (.aload_n 0, 1) := by decide +kernel
theorem dX7_comes_11 : decode (mC Y_X7_comes) 11 = .ok (.getfield 13, 3) := by decide +kernel
theorem dX7_comes_14 : decode (mC Y_X7_comes) 14 = .ok (.aload_n 0, 1) := by decide +kernel
theorem dX7_comes_15 : decode (mC Y_X7_comes) 15 = .ok (.getfield 68, 3) := by decide +kernel
theorem dX7_comes_18 : decode (mC Y_X7_comes) 18 = .ok (.iload_n 2, 1) := by decide +kernel
theorem dX7_comes_19 : decode (mC Y_X7_comes) 19 = .ok (.iastore, 1) := by decide +kernel
theorem dX7_comes_20 : decode (mC Y_X7_comes) 20 = .ok (.aload_n 0, 1) := by decide +kernel
theorem dX7_comes_21 : decode (mC Y_X7_comes) 21 = .ok (.getfield 16, 3) := by decide +kernel
theorem dX7_comes_24 : decode (mC Y_X7_comes) 24 = .ok (.aload_n 0, 1) := by decide +kernel
theorem dX7_comes_25 : decode (mC Y_X7_comes) 25 = .ok (.getfield 68, 3) := by decide +kernel
theorem dX7_comes_28 : decode (mC Y_X7_comes) 28 = .ok (.iload_n 3, 1) := by decide +kernel
theorem dX7_comes_29 : decode (mC Y_X7_comes) 29 = .ok (.iastore, 1) := by decide +kernel
theorem dX7_comes_30 : decode (mC Y_X7_comes) 30 = .ok (.aload_n 0, 1) := by decide +kernel
theorem dX7_comes_31 : decode (mC Y_X7_comes) 31 = .ok (.getfield 19, 3) := by decide +kernel
theorem dX7_comes_34 : decode (mC Y_X7_comes) 34 = .ok (.aload_n 0, 1) := by decide +kernel
theorem dX7_comes_35 : decode (mC Y_X7_comes) 35 = .ok (.getfield 68, 3) := by decide +kernel
theorem dX7_comes_38 : decode (mC Y_X7_comes) 38 = .ok (.iload 4, 2) := by decide +kernel
theorem dX7_comes_40 : decode (mC Y_X7_comes) 40 = .ok (.iastore, 1) := by decide +kernel
theorem dX7_comes_41 : decode (mC Y_X7_comes) 41 = .ok (.aload_n 0, 1) := by decide +kernel
theorem dX7_comes_42 : decode (mC Y_X7_comes) 42 = .ok (.getfield 22, 3) := by decide +kernel
theorem dX7_comes_45 : decode (mC Y_X7_comes) 45 = .ok (.aload_n 0, 1) := by decide +kernel
theorem dX7_comes_46 : decode (mC Y_X7_comes) 46 = .ok (.getfield 68, 3) := by decide +kernel
theorem dX7_comes_49 : decode (mC Y_X7_comes) 49 = .ok (.iload 5, 2) := by decide +kernel
theorem dX7_comes_51 : decode (mC Y_X7_comes) 51 = .ok (.iastore, 1) := by decide +kernel
theorem dX7_comes_52 : decode (mC Y_X7_comes) 52 = .ok (.aload_n 0, 1) := by decide +kernel
theorem dX7_comes_53 : decode (mC Y_X7_comes) 53 = .ok (.dup, 1) := by decide +kernel
theorem dX7_comes_54 : decode (mC Y_X7_comes) 54 = .ok (.getfield 68, 3) := by decide +kernel
theorem dX7_comes_57 : decode (mC Y_X7_comes) 57 = .ok (.iconst 1, 1) := by decide +kernel
theorem dX7_comes_58 : decode (mC Y_X7_comes) 58 = .ok (.iadd, 1) := by decide +kernel
theorem dX7_comes_59 : decode (mC Y_X7_comes) 59 = .ok (.putfield 68, 3) := by decide +kernel
theorem dX7_comes_62 : decode (mC Y_X7_comes) 62 = .ok (.return_, 1) := by decide +kernel
theorem dX7_init_0 : decode (mC Y_X7_init) 0 = .ok (.aload_n 0, 1) := by decide +kernel
theorem dX7_init_1 : decode (mC Y_X7_init) 1 = .ok (.invokespecial 3, 3) := by decide +kernel
theorem dX7_init_4 : decode (mC Y_X7_init) 4 = .ok (.aload_n 0, 1) := by decide +kernel
theorem dX7_init_5 : decode (mC Y_X7_init) 5 = .ok (.bipush 7, 2) := by decide +kernel
theorem dX7_init_7 : decode (mC Y_X7_init) 7 = .ok (.newarray .int, 2) := by decide +kernel
theorem dX7_init_9 : decode (mC Y_X7_init) 9 = .ok (.putfield 9, 3) := by decide +kernel
theorem dX7_init_12 : decode (mC Y_X7_init) 12 = .ok (.aload_n 0, 1) := by decide +kernel
theorem dX7_init_13 : decode (mC Y_X7_init) 13 = .ok (.bipush 7, 2) := by decide +kernel
theorem dX7_init_15 : decode (mC Y_X7_init) 15 = .ok (.newarray .int, 2) := by decide +kernel
theorem dX7_init_17 : decode (mC Y_X7_init) 17 = .ok (.putfield 13, 3) := by decide +kernel
theorem dX7_init_20 : decode (mC Y_X7_init) 20 = .ok (.aload_n 0, 1) := by decide +kernel
theorem dX7_init_21 : decode (mC Y_X7_init) 21 = .ok (.bipush 7, 2) := by decide +kernel
theorem dX7_init_23 : decode (mC Y_X7_init) 23 = .ok (.newarray .int, 2) := by decide +kernel
theorem dX7_init_25 : decode (mC Y_X7_init) 25 = .ok (.putfield 16, 3) := by decide +kernel
theorem dX7_init_28 : decode (mC Y_X7_init) 28 = .ok (.aload_n 0, 1) := by decide +kernel
theorem dX7_init_29 : decode (mC Y_X7_init) 29 = .ok (.bipush 7, 2) := by decide +kernel
theorem dX7_init_31 : decode (mC Y_X7_init) 31 = .ok (.newarray .int, 2) := by decide +kernel
theorem dX7_init_33 : decode (mC Y_X7_init) 33 = .ok (.putfield 19, 3) := by decide +kernel
theorem dX7_init_36 : decode (mC Y_X7_init) 36 = .ok (.aload_n 0, 1) := by decide +kernel
theorem dX7_init_37 : decode (mC Y_X7_init) 37 = .ok (.bipush 7, 2) := by decide +kernel
theorem dX7_init_39 : decode (mC Y_X7_init) 39 = .ok (.newarray .int, 2) := by decide +kernel
theorem dX7_init_41 : decode (mC Y_X7_init) 41 = .ok (.putfield 22, 3) := by decide +kernel
theorem dX7_init_44 : decode (mC Y_X7_init) 44 = .ok (.aload_n 0, 1) := by decide +kernel
theorem dX7_init_45 : decode (mC Y_X7_init) 45 = .ok (.bipush 6, 2) := by decide +kernel
theorem dX7_init_47 : decode (mC Y_X7_init) 47 = .ok (.newarray .int, 2) := by decide +kernel
theorem dX7_init_49 : decode (mC Y_X7_init) 49 = .ok (.putfield 25, 3) := by decide +kernel
theorem dX7_init_52 : decode (mC Y_X7_init) 52 = .ok (.aload_n 0, 1) := by decide +kernel
theorem dX7_init_53 : decode (mC Y_X7_init) 53 = .ok (.bipush 6, 2) := by decide +kernel
theorem dX7_init_55 : decode (mC Y_X7_init) 55 = .ok (.newarray .int, 2) := by decide +kernel
theorem dX7_init_57 : decode (mC Y_X7_init) 57 = .ok (.putfield 28, 3) := by decide +kernel
theorem dX7_init_60 : decode (mC Y_X7_init) 60 = .ok (.aload_n 0, 1) := by decide +kernel
theorem dX7_init_61 : decode (mC Y_X7_init) 61 = .ok (.bipush 6, 2) := by decide +kernel
theorem dX7_init_63 : decode (mC Y_X7_init) 63 = .ok (.newarray .int, 2) := by decide +kernel
theorem dX7_init_65 : decode (mC Y_X7_init) 65 = .ok (.putfield 31, 3) := by decide +kernel
theorem dX7_init_68 : decode (mC Y_X7_init) 68 = .ok (.aload_n 0, 1) := by decide +kernel
theorem dX7_init_69 : decode (mC Y_X7_init) 69 = .ok (.bipush 6, 2) := by decide +kernel
theorem dX7_init_71 : decode (mC Y_X7_init) 71 = .ok (.newarray .int, 2) := by decide +kernel
theorem dX7_init_73 : decode (mC Y_X7_init) 73 = .ok (.putfield 34, 3) := by decide +kernel
theorem dX7_init_76 : decode (mC Y_X7_init) 76 = .ok (.aload_n 0, 1) := by decide +kernel
theorem dX7_init_77 : decode (mC Y_X7_init) 77 = .ok (.bipush 6, 2) := by decide +kernel
theorem dX7_init_79 : decode (mC Y_X7_init) 79 = .ok (.newarray .int, 2) := by decide +kernel
theorem dX7_init_81 : decode (mC Y_X7_init) 81 = .ok (.putfield 37, 3) := by decide +kernel
theorem dX7_init_84 : decode (mC Y_X7_init) 84 = .ok (.aload_n 0, 1) := by decide +kernel
theorem dX7_init_85 : decode (mC Y_X7_init) 85 = .ok (.sipush 200, 3) := by decide +kernel
theorem dX7_init_88 : decode (mC Y_X7_init) 88 = .ok (.newarray .int, 2) := by decide +kernel
theorem dX7_init_90 : decode (mC Y_X7_init) 90 = .ok (.putfield 40, 3) := by decide +kernel
theorem dX7_init_93 : decode (mC Y_X7_init) 93 = .ok (.aload_n 0, 1) := by decide +kernel
theorem dX7_init_94 : decode (mC Y_X7_init) 94 = .ok (.bipush 35, 2) := by decide +kernel
theorem dX7_init_96 : decode (mC Y_X7_init) 96 = .ok (.newarray .int, 2) := by decide +kernel
theorem dX7_init_98 : decode (mC Y_X7_init) 98 = .ok (.putfield 43, 3) := by decide +kernel
theorem dX7_init_101 : decode (mC Y_X7_init) 101 = .ok (.aload_n 0, 1) := by decide +kernel
theorem dX7_init_102 : decode (mC Y_X7_init) 102 = .ok (.sipush 240, 3) := by decide +kernel
theorem dX7_init_105 : decode (mC Y_X7_init) 105 = .ok (.newarray .int, 2) := by decide +kernel
theorem dX7_init_107 : decode (mC Y_X7_init) 107 = .ok (.putfield 46, 3) := by decide +kernel
theorem dX7_init_110 : decode (mC Y_X7_init) 110 = .ok (.aload_n 0, 1) := by decide +kernel
theorem dX7_init_111 : decode (mC Y_X7_init) 111 = .ok (.bipush 30, 2) := by decide +kernel
theorem dX7_init_113 : decode (mC Y_X7_init) 113 = .ok (.newarray .int, 2) := by decide +kernel
theorem dX7_init_115 : decode (mC Y_X7_init) 115 = .ok (.putfield 49, 3) := by decide +kernel
theorem dX7_init_118 : decode (mC Y_X7_init) 118 = .ok (.aload_n 0, 1) := by decide +kernel
theorem dX7_init_119 : decode (mC Y_X7_init) 119 = .ok (.bipush 7, 2) := by decide +kernel
theorem dX7_init_121 : decode (mC Y_X7_init) 121 = .ok (.newarray .int, 2) := by decide +kernel
theorem dX7_init_123 : decode (mC Y_X7_init) 123 = .ok (.putfield 52, 3) := by decide +kernel
theorem dX7_init_126 : decode (mC Y_X7_init) 126 = .ok (.aload_n 0, 1) := by decide +kernel
theorem dX7_init_127 : decode (mC Y_X7_init) 127 = .ok (.bipush 7, 2) := by decide +kernel
theorem dX7_init_129 : decode (mC Y_X7_init) 129 = .ok (.newarray .int, 2) := by decide +kernel
theorem dX7_init_131 : decode (mC Y_X7_init) 131 = .ok (.putfield 55, 3) := by decide +kernel
theorem dX7_init_134 : decode (mC Y_X7_init) 134 = .ok (.aload_n 0, 1) := by decide +kernel
theorem dX7_init_135 : decode (mC Y_X7_init) 135 = .ok (.bipush 7, 2) := by decide +kernel
theorem dX7_init_137 : decode (mC Y_X7_init) 137 = .ok (.newarray .int, 2) := by decide +kernel
theorem dX7_init_139 : decode (mC Y_X7_init) 139 = .ok (.putfield 58, 3) := by decide +kernel
theorem dX7_init_142 : decode (mC Y_X7_init) 142 = .ok (.aload_n 0, 1) := by decide +kernel
theorem dX7_init_143 : decode (mC Y_X7_init) 143 = .ok (.bipush 60, 2) := by decide +kernel
theorem dX7_init_145 : decode (mC Y_X7_init) 145 = .ok (.newarray .int, 2) := by decide +kernel
theorem dX7_init_147 : decode (mC Y_X7_init) 147 = .ok (.putfield 61, 3) := by decide +kernel
theorem dX7_init_150 : decode (mC Y_X7_init) 150 = .ok (.aload_n 0, 1) := by decide +kernel
theorem dX7_init_151 : decode (mC Y_X7_init) 151 = .ok (.iconst 0, 1) := by decide +kernel
theorem dX7_init_152 : decode (mC Y_X7_init) 152 = .ok (.iconst 0, 1) := by decide +kernel
theorem dX7_init_153 : decode (mC Y_X7_init) 153 = .ok (.iconst 3, 1) := by decide +kernel
theorem dX7_init_154 : decode (mC Y_X7_init) 154 = .ok (.iconst 0, 1) := by decide +kernel
theorem dX7_init_155 : decode (mC Y_X7_init) 155 = .ok (.iconst 1, 1) := by decide +kernel
theorem dX7_init_156 : decode (mC Y_X7_init) 156 = .ok (.invokevirtual 64, 3) := by decide +kernel
theorem dX7_init_159 : decode (mC Y_X7_init) 159 = .ok (.aload_n 0, 1) := by decide +kernel
theorem dX7_init_160 : decode (mC Y_X7_init) 160 = .ok (.iconst 1, 1) := by decide +kernel
theorem dX7_init_161 : decode (mC Y_X7_init) 161 = .ok (.iconst 0, 1) := by decide +kernel
theorem dX7_init_162 : decode (mC Y_X7_init) 162 = .ok (.iconst 3, 1) := by decide +kernel
theorem dX7_init_163 : decode (mC Y_X7_init) 163 = .ok (.bipush 6, 2) := by decide +kernel
theorem dX7_init_165 : decode (mC Y_X7_init) 165 = .ok (.iconst 2, 1) := by decide +kernel
theorem dX7_init_166 : decode (mC Y_X7_init) 166 = .ok (.invokevirtual 64, 3) := by decide +kernel
theorem dX7_init_169 : decode (mC Y_X7_init) 169 = .ok (.aload_n 0, 1) := by decide +kernel
theorem dX7_init_170 : decode (mC Y_X7_init) 170 = .ok (.iconst 2, 1) := by decide +kernel
theorem dX7_init_171 : decode (mC Y_X7_init) 171 = .ok (.iconst 0, 1) := by decide +kernel
theorem dX7_init_172 : decode (mC Y_X7_init) 172 = .ok (.iconst 3, 1) := by decide +kernel
theorem dX7_init_173 : decode (mC Y_X7_init) 173 = .ok (.iconst 4, 1) := by decide +kernel
theorem dX7_init_174 : decode (mC Y_X7_init) 174 = .ok (.iconst 5, 1) := by decide +kernel
theorem dX7_init_175 : decode (mC Y_X7_init) 175 = .ok (.invokevirtual 64, 3) := by decide +kernel
theorem dX7_init_178 : decode (mC Y_X7_init) 178 = .ok (.aload_n 0, 1) := by decide +kernel
theorem dX7_init_179 : decode (mC Y_X7_init) 179 = .ok (.iconst 3, 1) := by decide +kernel
theorem dX7_init_180 : decode (mC Y_X7_init) 180 = .ok (.iconst 1, 1) := by decide +kernel
theorem dX7_init_181 : decode (mC Y_X7_init) 181 = .ok (.iconst 2, 1) := by decide +kernel
theorem dX7_init_182 : decode (mC Y_X7_init) 182 = .ok (.bipush 9, 2) := by decide +kernel
theorem dX7_init_184 : decode (mC Y_X7_init) 184 = .ok (.iconst 1, 1) := by decide +kernel
theorem dX7_init_185 : decode (mC Y_X7_init) 185 = .ok (.invokevirtual 64, 3) := by decide +kernel
theorem dX7_init_188 : decode (mC Y_X7_init) 188 = .ok (.aload_n 0, 1) := by decide +kernel
theorem dX7_init_189 : decode (mC Y_X7_init) 189 = .ok (.iconst 0, 1) := by decide +kernel
theorem dX7_init_190 : decode (mC Y_X7_init) 190 = .ok (.iconst 1, 1) := by decide +kernel
theorem dX7_init_191 : decode (mC Y_X7_init) 191 = .ok (.iconst 2, 1) := by decide +kernel
theorem dX7_init_192 : decode (mC Y_X7_init) 192 = .ok (.iconst 3, 1) := by decide +kernel
theorem dX7_init_193 : decode (mC Y_X7_init) 193 = .ok (.bipush 7, 2) := by decide +kernel
theorem dX7_init_195 : decode (mC Y_X7_init) 195 = .ok (.invokevirtual 64, 3) := by decide +kernel
theorem dX7_init_198 : decode (mC Y_X7_init) 198 = .ok (.aload_n 0, 1) := by decide +kernel
theorem dX7_init_199 : decode (mC Y_X7_init) 199 = .ok (.iconst 2, 1) := by decide +kernel
theorem dX7_init_200 : decode (mC Y_X7_init) 200 = .ok (.iconst 1, 1) := by decide +kernel
theorem dX7_init_201 : decode (mC Y_X7_init) 201 = .ok (.iconst 5, 1) := by decide +kernel
theorem dX7_init_202 : decode (mC Y_X7_init) 202 = .ok (.iconst 3, 1) := by decide +kernel
theorem dX7_init_203 : decode (mC Y_X7_init) 203 = .ok (.iconst 1, 1) := by decide +kernel
theorem dX7_init_204 : decode (mC Y_X7_init) 204 = .ok (.invokevirtual 64, 3) := by decide +kernel
theorem dX7_init_207 : decode (mC Y_X7_init) 207 = .ok (.aload_n 0, 1) := by decide +kernel
theorem dX7_init_208 : decode (mC Y_X7_init) 208 = .ok (.iconst 1, 1) := by decide +kernel
theorem dX7_init_209 : decode (mC Y_X7_init) 209 = .ok (.iconst 4, 1) := by decide +kernel
theorem dX7_init_210 : decode (mC Y_X7_init) 210 = .ok (.iconst 1, 1) := by decide +kernel
theorem dX7_init_211 : decode (mC Y_X7_init) 211 = .ok (.iconst 0, 1) := by decide +kernel
theorem dX7_init_212 : decode (mC Y_X7_init) 212 = .ok (.iconst 0, 1) := by decide +kernel
theorem dX7_init_213 : decode (mC Y_X7_init) 213 = .ok (.invokevirtual 64, 3) := by decide +kernel
theorem dX7_init_216 : decode (mC Y_X7_init) 216 = .ok (.return_, 1) := by decide +kernel
theorem dX7_in_0 : decode (mC Y_X7_in) 0 = .ok (.iload_n 0, 1) := by decide +kernel
theorem dX7_in_1 : decode (mC Y_X7_in) 1 = .ok (.iload_n 1, 1) := by decide +kernel
theorem dX7_in_2 : decode (mC Y_X7_in) 2 = .ok (.if_icmp .lt 12, 3) := by decide +kernel
theorem dX7_in_5 : decode (mC Y_X7_in) 5 = .ok (.iload_n 0, 1) := by decide +kernel
theorem dX7_in_6 : decode (mC Y_X7_in) 6 = .ok (.iload_n 2, 1) := by decide +kernel
theorem dX7_in_7 : decode (mC Y_X7_in) 7 = .ok (.if_icmp .gt 7, 3) := by decide +kernel
theorem dX7_in_10 : decode (mC Y_X7_in) 10 = .ok (.iconst 1, 1) := by decide +kernel
theorem dX7_in_11 : decode (mC Y_X7_in) 11 = .ok (.goto 4, 3) := by decide +kernel
theorem dX7_in_14 : decode (mC Y_X7_in) 14 = .ok (.iconst 0, 1) := by decide +kernel
theorem dX7_in_15 : decode (mC Y_X7_in) 15 = .ok (.ireturn, 1) := by decide +kernel
theorem dX7_write_0 : decode (mC Y_X7_write) 0 = .ok (.iload_n 1, 1) := by decide +kernel
theorem dX7_write_1 : decode (mC Y_X7_write) 1 = .ok (.bipush 32, 2) := by decide +kernel
theorem dX7_write_3 : decode (mC Y_X7_write) 3 = .ok (.bipush 126, 2) := by decide +kernel
theorem dX7_write_5 : decode (mC Y_X7_write) 5 = .ok (.invokestatic 72, 3) := by decide +kernel
theorem dX7_write_8 : decode (mC Y_X7_write) 8 = .ok (.ifCond .ne 5, 3) := by decide +kernel
theorem dX7_write_11 : decode (mC Y_X7_write) 11 = .ok (.iconst (-1), 1) := by decide +kernel
theorem dX7_write_12 : decode (mC Y_X7_write) 12 = .ok (.ireturn, 1) := by decide +kernel
theorem dX7_write_13 : decode (mC Y_X7_write) 13 = .ok (.aload_n 0, 1) := by decide +kernel
theorem dX7_write_14 : decode (mC Y_X7_write) 14 = .ok (.getfield 76, 3) := by decide +kernel
theorem dX7_write_17 : decode (mC Y_X7_write) 17 = .ok (.sipush 200, 3) := by decide +kernel
theorem dX7_write_20 : decode (mC Y_X7_write) 20 = .ok (.if_icmp .ne 6, 3) := by decide +kernel
theorem dX7_write_23 : decode (mC Y_X7_write) 23 = .ok (.bipush (-3), 2) := by decide +kernel
theorem dX7_write_25 : decode (mC Y_X7_write) 25 = .ok (.ireturn, 1) := by decide +kernel
theorem dX7_write_26 : decode (mC Y_X7_write) 26 = .ok (.aload_n 0, 1) := by decide +kernel
theorem dX7_write_27 : decode (mC Y_X7_write) 27 = .ok (.getfield 40, 3) := by decide +kernel
theorem dX7_write_30 : decode (mC Y_X7_write) 30 = .ok (.aload_n 0, 1) := by decide +kernel
theorem dX7_write_31 : decode (mC Y_X7_write) 31 = .ok (.getfield 76, 3) := by decide +kernel
theorem dX7_write_34 : decode (mC Y_X7_write) 34 = .ok (.iload_n 1, 1) := by decide +kernel
theorem dX7_write_35 : decode (mC Y_X7_write) 35 = .ok (.iastore, 1) := by decide +kernel
theorem dX7_write_36 : decode (mC Y_X7_write) 36 = .ok (.aload_n 0, 1) := by decide +kernel
theorem dX7_write_37 : decode (mC Y_X7_write) 37 = .ok (.dup, 1) := by decide +kernel
theorem dX7_write_38 : decode (mC Y_X7_write) 38 = .ok (.getfield 76, 3) := by decide +kernel
theorem dX7_write_41 : decode (mC Y_X7_write) 41 = .ok (.iconst 1, 1) := by decide +kernel
theorem dX7_write_42 : decode (mC Y_X7_write) 42 = .ok (.iadd, 1) := by decide +kernel
theorem dX7_write_43 : decode (mC Y_X7_write) 43 = .ok (.putfield 76, 3) := by decide +kernel
theorem dX7_write_46 : decode (mC Y_X7_write) 46 = .ok (.aload_n 0, 1) := by decide +kernel
theorem dX7_write_47 : decode (mC Y_X7_write) 47 = .ok (.getfield 76, 3) := by decide +kernel
theorem dX7_write_50 : decode (mC Y_X7_write) 50 = .ok (.ireturn, 1) := by decide +kernel
theorem dX7_wipe_0 : decode (mC Y_X7_wipe) 0 = .ok (.aload_n 0, 1) := by decide +kernel
theorem dX7_wipe_1 : decode (mC Y_X7_wipe) 1 = .ok (.getfield 76, 3) := by decide +kernel
theorem dX7_wipe_4 : decode (mC Y_X7_wipe) 4 = .ok (.istore_n 1, 1) := by decide +kernel
theorem dX7_wipe_5 : decode (mC Y_X7_wipe) 5 = .ok (.aload_n 0, 1) := by decide +kernel
theorem dX7_wipe_6 : decode (mC Y_X7_wipe) 6 = .ok (.iconst 0, 1) := by decide +kernel
theorem dX7_wipe_7 : decode (mC Y_X7_wipe) 7 = .ok (.putfield 76, 3) := by decide +kernel
theorem dX7_wipe_10 : decode (mC Y_X7_wipe) 10 = .ok (.iload_n 1, 1) := by decide +kernel
theorem dX7_wipe_11 : decode (mC Y_X7_wipe) 11 = .ok (.ireturn, 1) := by decide +kernel
theorem dX7_here_0 : decode (mC Y_X7_here) 0 = .ok (.aload_n 0, 1) := by decide +kernel
theorem dX7_here_1 : decode (mC Y_X7_here) 1 = .ok (.getfield 79, 3) := by decide +kernel
theorem dX7_here_4 : decode (mC Y_X7_here) 4 = .ok (.aload_n 0, 1) := by decide +kernel
theorem dX7_here_5 : decode (mC Y_X7_here) 5 = .ok (.getfield 76, 3) := by decide +kernel
theorem dX7_here_8 : decode (mC Y_X7_here) 8 = .ok (.if_icmp .ge 15, 3) := by decide +kernel
theorem dX7_here_11 : decode (mC Y_X7_here) 11 = .ok (.aload_n 0, 1) := by decide +kernel
theorem dX7_here_12 : decode (mC Y_X7_here) 12 = .ok (.getfield 40, 3) := by decide +kernel
theorem dX7_here_15 : decode (mC Y_X7_here) 15 = .ok (.aload_n 0, 1) := by decide +kernel
theorem dX7_here_16 : decode (mC Y_X7_here) 16 = .ok (.getfield 79, 3) := by decide +kernel
theorem dX7_here_19 : decode (mC Y_X7_here) 19 = .ok (.iaload, 1) := by decide +kernel
theorem dX7_here_20 : decode (mC Y_X7_here) 20 = .ok (.goto 4, 3) := by decide +kernel
theorem dX7_here_23 : decode (mC Y_X7_here) 23 = .ok (.iconst 0, 1) := by decide +kernel
theorem dX7_here_24 : decode (mC Y_X7_here) 24 = .ok (.ireturn, 1) := by decide +kernel
theorem dX7_highest_0 : decode (mC Y_X7_highest) 0 = .ok (.iload_n 0, 1) := by decide +kernel
theorem dX7_highest_1 : decode (mC Y_X7_highest) 1 = .ok (.ifCond .ne 7, 3) := by decide +kernel
theorem dX7_highest_4 : decode (mC Y_X7_highest) 4 = .ok (.iconst 3, 1) := by decide +kernel
theorem dX7_highest_5 : decode (mC Y_X7_highest) 5 = .ok (.goto 24, 3) := by decide +kernel
theorem dX7_highest_8 : decode (mC Y_X7_highest) 8 = .ok (.iload_n 0, 1) := by decide +kernel
theorem dX7_highest_9 : decode (mC Y_X7_highest) 9 = .ok (.iconst 1, 1) := by decide +kernel
theorem dX7_highest_10 : decode (mC Y_X7_highest) 10 = .ok (.if_icmp .ne 7, 3) := by decide +kernel
theorem dX7_highest_13 : decode (mC Y_X7_highest) 13 = .ok (.iconst 5, 1) := by decide +kernel
theorem dX7_highest_14 : decode (mC Y_X7_highest) 14 = .ok (.goto 15, 3) := by decide +kernel
theorem dX7_highest_17 : decode (mC Y_X7_highest) 17 = .ok (.iload_n 0, 1) := by decide +kernel
theorem dX7_highest_18 : decode (mC Y_X7_highest) 18 = .ok (.iconst 2, 1) := by decide +kernel
theorem dX7_highest_19 : decode (mC Y_X7_highest) 19 = .ok (.if_icmp .ne 8, 3) := by decide +kernel
theorem dX7_highest_22 : decode (mC Y_X7_highest) 22 = .ok (.bipush 9, 2) := by decide +kernel
theorem dX7_highest_24 : decode (mC Y_X7_highest) 24 = .ok (.goto 5, 3) := by decide +kernel
theorem dX7_highest_27 : decode (mC Y_X7_highest) 27 = .ok (.bipush 11, 2) := by decide +kernel
theorem dX7_highest_29 : decode (mC Y_X7_highest) 29 = .ok (.ireturn, 1) := by decide +kernel
theorem dX7_isFigure_0 : decode (mC Y_X7_isFigure) 0 = .ok (.aload_n 0, 1) := by decide +kernel
theorem dX7_isFigure_1 : decode (mC Y_X7_isFigure) 1 = .ok (.invokevirtual 82, 3) := by decide +kernel
theorem dX7_isFigure_4 : decode (mC Y_X7_isFigure) 4 = .ok (.bipush 48, 2) := by decide +kernel
theorem dX7_isFigure_6 : decode (mC Y_X7_isFigure) 6 = .ok (.bipush 57, 2) := by decide +kernel
theorem dX7_isFigure_8 : decode (mC Y_X7_isFigure) 8 = .ok (.invokestatic 72, 3) := by decide +kernel
theorem dX7_isFigure_11 : decode (mC Y_X7_isFigure) 11 = .ok (.ireturn, 1) := by decide +kernel
theorem dX7_number_0 : decode (mC Y_X7_number) 0 = .ok (.aload_n 0, 1) := by decide +kernel
theorem dX7_number_1 : decode (mC Y_X7_number) 1 = .ok (.invokevirtual 86, 3) := by decide +kernel
theorem dX7_number_4 : decode (mC Y_X7_number) 4 = .ok (.ifCond .ne 5, 3) := by decide +kernel
theorem dX7_number_7 : decode (mC Y_X7_number) 7 = .ok (.iconst 0, 1) := by decide +kernel
theorem dX7_number_8 : decode (mC Y_X7_number) 8 = .ok (.ireturn, 1) := by decide +kernel
theorem dX7_number_9 : decode (mC Y_X7_number) 9 = .ok (.aload_n 0, 1) := by decide +kernel
theorem dX7_number_10 : decode (mC Y_X7_number) 10 = .ok (.invokevirtual 82, 3) := by decide +kernel
theorem dX7_number_13 : decode (mC Y_X7_number) 13 = .ok (.bipush 48, 2) := by decide +kernel
theorem dX7_number_15 : decode (mC Y_X7_number) 15 = .ok (.isub, 1) := by decide +kernel
theorem dX7_number_16 : decode (mC Y_X7_number) 16 = .ok (.istore 4, 2) := by decide +kernel
theorem dX7_number_18 : decode (mC Y_X7_number) 18 = .ok (.aload_n 0, 1) := by decide +kernel
theorem dX7_number_19 : decode (mC Y_X7_number) 19 = .ok (.dup, 1) := by decide +kernel
theorem dX7_number_20 : decode (mC Y_X7_number) 20 = .ok (.getfield 79, 3) := by decide +kernel
theorem dX7_number_23 : decode (mC Y_X7_number) 23 = .ok (.iconst 1, 1) := by decide +kernel
theorem dX7_number_24 : decode (mC Y_X7_number) 24 = .ok (.iadd, 1) := by decide +kernel
theorem dX7_number_25 : decode (mC Y_X7_number) 25 = .ok (.putfield 79, 3) := by decide +kernel
theorem dX7_number_28 : decode (mC Y_X7_number) 28 = .ok (.aload_n 0, 1) := by decide +kernel
theorem dX7_number_29 : decode (mC Y_X7_number) 29 = .ok (.invokevirtual 86, 3) := by decide +kernel
theorem dX7_number_32 : decode (mC Y_X7_number) 32 = .ok (.ifCond .eq 28, 3) := by decide +kernel
theorem dX7_number_35 : decode (mC Y_X7_number) 35 = .ok (.bipush 10, 2) := by decide +kernel
theorem dX7_number_37 : decode (mC Y_X7_number) 37 = .ok (.iload 4, 2) := by decide +kernel
theorem dX7_number_39 : decode (mC Y_X7_number) 39 = .ok (.imul, 1) := by decide +kernel
theorem dX7_number_40 : decode (mC Y_X7_number) 40 = .ok (.aload_n 0, 1) := by decide +kernel
theorem dX7_number_41 : decode (mC Y_X7_number) 41 = .ok (.invokevirtual 82, 3) := by decide +kernel
theorem dX7_number_44 : decode (mC Y_X7_number) 44 = .ok (.iadd, 1) := by decide +kernel
theorem dX7_number_45 : decode (mC Y_X7_number) 45 = .ok (.bipush 48, 2) := by decide +kernel
theorem dX7_number_47 : decode (mC Y_X7_number) 47 = .ok (.isub, 1) := by decide +kernel
theorem dX7_number_48 : decode (mC Y_X7_number) 48 = .ok (.istore 4, 2) := by decide +kernel
theorem dX7_number_50 : decode (mC Y_X7_number) 50 = .ok (.aload_n 0, 1) := by decide +kernel
theorem dX7_number_51 : decode (mC Y_X7_number) 51 = .ok (.dup, 1) := by decide +kernel
theorem dX7_number_52 : decode (mC Y_X7_number) 52 = .ok (.getfield 79, 3) := by decide +kernel
theorem dX7_number_55 : decode (mC Y_X7_number) 55 = .ok (.iconst 1, 1) := by decide +kernel
theorem dX7_number_56 : decode (mC Y_X7_number) 56 = .ok (.iadd, 1) := by decide +kernel
theorem dX7_number_57 : decode (mC Y_X7_number) 57 = .ok (.putfield 79, 3) := by decide +kernel
theorem dX7_number_60 : decode (mC Y_X7_number) 60 = .ok (.aload_n 0, 1) := by decide +kernel
theorem dX7_number_61 : decode (mC Y_X7_number) 61 = .ok (.iload 4, 2) := by decide +kernel
theorem dX7_number_63 : decode (mC Y_X7_number) 63 = .ok (.putfield 90, 3) := by decide +kernel
theorem dX7_number_66 : decode (mC Y_X7_number) 66 = .ok (.aload_n 0, 1) := by decide +kernel
theorem dX7_number_67 : decode (mC Y_X7_number) 67 = .ok (.invokevirtual 82, 3) := by decide +kernel
theorem dX7_number_70 : decode (mC Y_X7_number) 70 = .ok (.iload_n 3, 1) := by decide +kernel
theorem dX7_number_71 : decode (mC Y_X7_number) 71 = .ok (.if_icmp .ne 13, 3) := by decide +kernel
theorem dX7_number_74 : decode (mC Y_X7_number) 74 = .ok (.iload 4, 2) := by decide +kernel
theorem dX7_number_76 : decode (mC Y_X7_number) 76 = .ok (.iload_n 1, 1) := by decide +kernel
theorem dX7_number_77 : decode (mC Y_X7_number) 77 = .ok (.iload_n 2, 1) := by decide +kernel
theorem dX7_number_78 : decode (mC Y_X7_number) 78 = .ok (.invokestatic 72, 3) := by decide +kernel
theorem dX7_number_81 : decode (mC Y_X7_number) 81 = .ok (.ifCond .ne 5, 3) := by decide +kernel
theorem dX7_number_84 : decode (mC Y_X7_number) 84 = .ok (.iconst 0, 1) := by decide +kernel
theorem dX7_number_85 : decode (mC Y_X7_number) 85 = .ok (.ireturn, 1) := by decide +kernel
theorem dX7_number_86 : decode (mC Y_X7_number) 86 = .ok (.aload_n 0, 1) := by decide +kernel
theorem dX7_number_87 : decode (mC Y_X7_number) 87 = .ok (.dup, 1) := by decide +kernel
theorem dX7_number_88 : decode (mC Y_X7_number) 88 = .ok (.getfield 79, 3) := by decide +kernel
theorem dX7_number_91 : decode (mC Y_X7_number) 91 = .ok (.iconst 1, 1) := by decide +kernel
theorem dX7_number_92 : decode (mC Y_X7_number) 92 = .ok (.iadd, 1) := by decide +kernel
theorem dX7_number_93 : decode (mC Y_X7_number) 93 = .ok (.putfield 79, 3) := by decide +kernel
theorem dX7_number_96 : decode (mC Y_X7_number) 96 = .ok (.iconst 1, 1) := by decide +kernel
theorem dX7_number_97 : decode (mC Y_X7_number) 97 = .ok (.ireturn, 1) := by decide +kernel
theorem dX7_readsItem_0 : decode (mC Y_X7_readsItem) 0 = .ok (.aload_n 0, 1) := by decide +kernel
theorem dX7_readsItem_1 : decode (mC Y_X7_readsItem) 1 = .ok (.invokevirtual 82, 3) := by decide +kernel
theorem dX7_readsItem_4 : decode (mC Y_X7_readsItem) 4 = .ok (.istore_n 1, 1) := by decide +kernel
theorem dX7_readsItem_5 : decode (mC Y_X7_readsItem) 5 = .ok (.aload_n 0, 1) := by decide +kernel
theorem dX7_readsItem_6 : decode (mC Y_X7_readsItem) 6 = .ok (.dup, 1) := by decide +kernel
theorem dX7_readsItem_7 : decode (mC Y_X7_readsItem) 7 = .ok (.getfield 79, 3) := by decide +kernel
theorem dX7_readsItem_10 : decode (mC Y_X7_readsItem) 10 = .ok (.iconst 1, 1) := by decide +kernel
theorem dX7_readsItem_11 : decode (mC Y_X7_readsItem) 11 = .ok (.iadd, 1) := by decide +kernel
theorem dX7_readsItem_12 : decode (mC Y_X7_readsItem) 12 = .ok (.putfield 79, 3) := by decide +kernel
theorem dX7_readsItem_15 : decode (mC Y_X7_readsItem) 15 = .ok (.iload_n 1, 1) := by decide +kernel
theorem dX7_readsItem_16 : decode (mC Y_X7_readsItem) 16 = .ok (.bipush 112, 2) := by decide +kernel
theorem dX7_readsItem_18 : decode (mC Y_X7_readsItem) 18 = .ok (.if_icmp .ne 12, 3) := by decide +kernel
theorem dX7_readsItem_21 : decode (mC Y_X7_readsItem) 21 = .ok (.aload_n 0, 1) := by decide +kernel
theorem dX7_readsItem_22 : decode (mC Y_X7_readsItem) 22 = .ok (.getfield 93, 3) := by decide +kernel
theorem dX7_readsItem_25 : decode (mC Y_X7_readsItem) 25 = .ok (.bipush 7, 2) := by decide +kernel
theorem dX7_readsItem_27 : decode (mC Y_X7_readsItem) 27 = .ok (.if_icmp .ne 5, 3) := by decide +kernel
theorem dX7_readsItem_30 : decode (mC Y_X7_readsItem) 30 = .ok (.iconst 0, 1) := by decide +kernel
theorem dX7_readsItem_31 : decode (mC Y_X7_readsItem) 31 = .ok (.ireturn, 1) := by decide +kernel
theorem dX7_readsItem_32 : decode (mC Y_X7_readsItem) 32 = .ok (.iconst 0, 1) := by decide +kernel
theorem dX7_readsItem_33 : decode (mC Y_X7_readsItem) 33 = .ok (.istore_n 2, 1) := by decide +kernel
theorem dX7_readsItem_34 : decode (mC Y_X7_readsItem) 34 = .ok (.iload_n 2, 1) := by decide +kernel
theorem dX7_readsItem_35 : decode (mC Y_X7_readsItem) 35 = .ok (.iconst 5, 1) := by decide +kernel
theorem dX7_readsItem_36 : decode (mC Y_X7_readsItem) 36 = .ok (.if_icmp .ge 61, 3) := by decide +kernel
theorem dX7_readsItem_39 : decode (mC Y_X7_readsItem) 39 = .ok (.aload_n 0, 1) := by decide +kernel
theorem dX7_readsItem_40 : decode (mC Y_X7_readsItem) 40 = .ok (.iload_n 2, 1) := by decide +kernel
theorem dX7_readsItem_41 : decode (mC Y_X7_readsItem) 41 = .ok (.iconst 2, 1) := by decide +kernel
theorem dX7_readsItem_42 : decode (mC Y_X7_readsItem) 42 = .ok (.if_icmp .ne 7, 3) := by decide +kernel
theorem dX7_readsItem_45 : decode (mC Y_X7_readsItem) 45 = .ok (.iconst 1, 1) := by decide +kernel
theorem dX7_readsItem_46 : decode (mC Y_X7_readsItem) 46 = .ok (.goto 4, 3) := by decide +kernel
theorem dX7_readsItem_49 : decode (mC Y_X7_readsItem) 49 = .ok (.iconst 0, 1) := by decide +kernel
theorem dX7_readsItem_50 : decode (mC Y_X7_readsItem) 50 = .ok (.iload_n 2, 1) := by decide +kernel
theorem dX7_readsItem_51 : decode (mC Y_X7_readsItem) 51 = .ok (.invokestatic 96, 3) := by decide +kernel
theorem dX7_readsItem_54 : decode (mC Y_X7_readsItem) 54 = .ok (.iload_n 2, 1) := by decide +kernel
theorem dX7_readsItem_55 : decode (mC Y_X7_readsItem) 55 = .ok (.iconst 4, 1) := by decide +kernel
theorem dX7_readsItem_56 : decode (mC Y_X7_readsItem) 56 = .ok (.if_icmp .ne 8, 3) := by decide +kernel
theorem dX7_readsItem_59 : decode (mC Y_X7_readsItem) 59 = .ok (.bipush 59, 2) := by decide +kernel
theorem dX7_readsItem_61 : decode (mC Y_X7_readsItem) 61 = .ok (.goto 5, 3) := by decide +kernel
theorem dX7_readsItem_64 : decode (mC Y_X7_readsItem) 64 = .ok (.bipush 44, 2) := by decide +kernel
theorem dX7_readsItem_66 : decode (mC Y_X7_readsItem) 66 = .ok (.invokevirtual 100, 3) := by decide +kernel
theorem dX7_readsItem_69 : decode (mC Y_X7_readsItem) 69 = .ok (.ifCond .ne 5, 3) := by decide +kernel
theorem dX7_readsItem_72 : decode (mC Y_X7_readsItem) 72 = .ok (.iconst 0, 1) := by decide +kernel
theorem dX7_readsItem_73 : decode (mC Y_X7_readsItem) 73 = .ok (.ireturn, 1) := by decide +kernel
theorem dX7_readsItem_74 : decode (mC Y_X7_readsItem) 74 = .ok (.aload_n 0, 1) := by decide +kernel
theorem dX7_readsItem_75 : decode (mC Y_X7_readsItem) 75 = .ok (.getfield 43, 3) := by decide +kernel
theorem dX7_readsItem_78 : decode (mC Y_X7_readsItem) 78 = .ok (.iconst 5, 1) := by decide +kernel
theorem dX7_readsItem_79 : decode (mC Y_X7_readsItem) 79 = .ok (.aload_n 0, 1) := by decide +kernel
theorem dX7_readsItem_80 : decode (mC Y_X7_readsItem) 80 = .ok (.getfield 93, 3) := by decide +kernel
theorem dX7_readsItem_83 : decode (mC Y_X7_readsItem) 83 = .ok (.imul, 1) := by decide +kernel
theorem dX7_readsItem_84 : decode (mC Y_X7_readsItem) 84 = .ok (.iload_n 2, 1) := by decide +kernel
theorem dX7_readsItem_85 : decode (mC Y_X7_readsItem) 85 = .ok (.iadd, 1) := by decide +kernel
theorem dX7_readsItem_86 : decode (mC Y_X7_readsItem) 86 = .ok (.aload_n 0, 1) := by decide +kernel
theorem dX7_readsItem_87 : decode (mC Y_X7_readsItem) 87 = .ok (.getfield 90, 3) := by decide +kernel
theorem dX7_readsItem_90 : decode (mC Y_X7_readsItem) 90 = .ok (.iastore, 1) := by decide +kernel
theorem dX7_readsItem_91 : decode (mC Y_X7_readsItem) 91 = .ok (.iinc 2 1, 3) := by decide +kernel
theorem dX7_readsItem_94 : decode (mC Y_X7_readsItem) 94 = .ok (.goto (-60), 3) := by decide +kernel
theorem dX7_readsItem_97 : decode (mC Y_X7_readsItem) 97 = .ok (.aload_n 0, 1) := by decide +kernel
theorem dX7_readsItem_98 : decode (mC Y_X7_readsItem) 98 = .ok (.dup, 1) := by decide +kernel
theorem dX7_readsItem_99 : decode (mC Y_X7_readsItem) 99 = .ok (.getfield 93, 3) := by decide +kernel
theorem dX7_readsItem_102 : decode (mC Y_X7_readsItem) 102 = .ok (.iconst 1, 1) := by decide +kernel
theorem dX7_readsItem_103 : decode (mC Y_X7_readsItem) 103 = .ok (.iadd, 1) := by decide +kernel
theorem dX7_readsItem_104 : decode (mC Y_X7_readsItem) 104 = .ok (.putfield 93, 3) := by decide +kernel
theorem dX7_readsItem_107 : decode (mC Y_X7_readsItem) 107 = .ok (.iconst 1, 1) := by decide +kernel
theorem dX7_readsItem_108 : decode (mC Y_X7_readsItem) 108 = .ok (.ireturn, 1) := by decide +kernel
theorem dX7_fault_0 : decode (mC Y_X7_fault) 0 = .ok (.aload_n 0, 1) := by decide +kernel
theorem dX7_fault_1 : decode (mC Y_X7_fault) 1 = .ok (.iconst 0, 1) := by decide +kernel
theorem dX7_fault_2 : decode (mC Y_X7_fault) 2 = .ok (.putfield 79, 3) := by decide +kernel
theorem dX7_fault_5 : decode (mC Y_X7_fault) 5 = .ok (.aload_n 0, 1) := by decide +kernel
theorem dX7_fault_6 : decode (mC Y_X7_fault) 6 = .ok (.iconst 0, 1) := by decide +kernel
theorem dX7_fault_7 : decode (mC Y_X7_fault) 7 = .ok (.putfield 93, 3) := by decide +kernel
theorem dX7_fault_10 : decode (mC Y_X7_fault) 10 = .ok (.aload_n 0, 1) := by decide +kernel
theorem dX7_fault_11 : decode (mC Y_X7_fault) 11 = .ok (.getfield 79, 3) := by decide +kernel
theorem dX7_fault_14 : decode (mC Y_X7_fault) 14 = .ok (.aload_n 0, 1) := by decide +kernel
theorem dX7_fault_15 : decode (mC Y_X7_fault) 15 = .ok (.getfield 76, 3) := by decide +kernel
theorem dX7_fault_18 : decode (mC Y_X7_fault) 18 = .ok (.if_icmp .ge 20, 3) := by decide +kernel
theorem dX7_fault_21 : decode (mC Y_X7_fault) 21 = .ok (.aload_n 0, 1) := by decide +kernel
theorem dX7_fault_22 : decode (mC Y_X7_fault) 22 = .ok (.getfield 79, 3) := by decide +kernel
theorem dX7_fault_25 : decode (mC Y_X7_fault) 25 = .ok (.istore_n 1, 1) := by decide +kernel
theorem dX7_fault_26 : decode (mC Y_X7_fault) 26 = .ok (.aload_n 0, 1) := by decide +kernel
theorem dX7_fault_27 : decode (mC Y_X7_fault) 27 = .ok (.invokevirtual 103, 3) := by decide +kernel
theorem dX7_fault_30 : decode (mC Y_X7_fault) 30 = .ok (.ifCond .ne 5, 3) := by decide +kernel
theorem dX7_fault_33 : decode (mC Y_X7_fault) 33 = .ok (.iload_n 1, 1) := by decide +kernel
theorem dX7_fault_34 : decode (mC Y_X7_fault) 34 = .ok (.ireturn, 1) := by decide +kernel
theorem dX7_fault_35 : decode (mC Y_X7_fault) 35 = .ok (.goto (-25), 3) := by decide +kernel
theorem dX7_fault_38 : decode (mC Y_X7_fault) 38 = .ok (.bipush (-4), 2) := by decide +kernel
theorem dX7_fault_40 : decode (mC Y_X7_fault) 40 = .ok (.ireturn, 1) := by decide +kernel
theorem dX7_lay_0 : decode (mC Y_X7_lay) 0 = .ok (.aload_n 0, 1) := by decide +kernel
theorem dX7_lay_1 : decode (mC Y_X7_lay) 1 = .ok (.invokevirtual 106, 3) := by decide +kernel
theorem dX7_lay_4 : decode (mC Y_X7_lay) 4 = .ok (.bipush (-4), 2) := by decide +kernel
theorem dX7_lay_6 : decode (mC Y_X7_lay) 6 = .ok (.if_icmp .ne 10, 3) := by decide +kernel
theorem dX7_lay_9 : decode (mC Y_X7_lay) 9 = .ok (.aload_n 0, 1) := by decide +kernel
theorem dX7_lay_10 : decode (mC Y_X7_lay) 10 = .ok (.getfield 93, 3) := by decide +kernel
theorem dX7_lay_13 : decode (mC Y_X7_lay) 13 = .ok (.ifCond .ne 6, 3) := by decide +kernel
theorem dX7_lay_16 : decode (mC Y_X7_lay) 16 = .ok (.bipush (-2), 2) := by decide +kernel
theorem dX7_lay_18 : decode (mC Y_X7_lay) 18 = .ok (.ireturn, 1) := by decide +kernel
theorem dX7_lay_19 : decode (mC Y_X7_lay) 19 = .ok (.aload_n 0, 1) := by decide +kernel
theorem dX7_lay_20 : decode (mC Y_X7_lay) 20 = .ok (.iconst 0, 1) := by decide +kernel
theorem dX7_lay_21 : decode (mC Y_X7_lay) 21 = .ok (.putfield 68, 3) := by decide +kernel
theorem dX7_lay_24 : decode (mC Y_X7_lay) 24 = .ok (.iconst 0, 1) := by decide +kernel
theorem dX7_lay_25 : decode (mC Y_X7_lay) 25 = .ok (.istore_n 1, 1) := by decide +kernel
theorem dX7_lay_26 : decode (mC Y_X7_lay) 26 = .ok (.iload_n 1, 1) := by decide +kernel
theorem dX7_lay_27 : decode (mC Y_X7_lay) 27 = .ok (.aload_n 0, 1) := by decide +kernel
theorem dX7_lay_28 : decode (mC Y_X7_lay) 28 = .ok (.getfield 93, 3) := by decide +kernel
theorem dX7_lay_31 : decode (mC Y_X7_lay) 31 = .ok (.if_icmp .ge 61, 3) := by decide +kernel
theorem dX7_lay_34 : decode (mC Y_X7_lay) 34 = .ok (.aload_n 0, 1) := by decide +kernel
theorem dX7_lay_35 : decode (mC Y_X7_lay) 35 = .ok (.aload_n 0, 1) := by decide +kernel
theorem dX7_lay_36 : decode (mC Y_X7_lay) 36 = .ok (.getfield 43, 3) := by decide +kernel
theorem dX7_lay_39 : decode (mC Y_X7_lay) 39 = .ok (.iconst 5, 1) := by decide +kernel
theorem dX7_lay_40 : decode (mC Y_X7_lay) 40 = .ok (.iload_n 1, 1) := by decide +kernel
theorem dX7_lay_41 : decode (mC Y_X7_lay) 41 = .ok (.imul, 1) := by decide +kernel
theorem dX7_lay_42 : decode (mC Y_X7_lay) 42 = .ok (.iaload, 1) := by decide +kernel
theorem dX7_lay_43 : decode (mC Y_X7_lay) 43 = .ok (.aload_n 0, 1) := by decide +kernel
theorem dX7_lay_44 : decode (mC Y_X7_lay) 44 = .ok (.getfield 43, 3) := by decide +kernel
theorem dX7_lay_47 : decode (mC Y_X7_lay) 47 = .ok (.iconst 5, 1) := by decide +kernel
theorem dX7_lay_48 : decode (mC Y_X7_lay) 48 = .ok (.iload_n 1, 1) := by decide +kernel
theorem dX7_lay_49 : decode (mC Y_X7_lay) 49 = .ok (.imul, 1) := by decide +kernel
theorem dX7_lay_50 : decode (mC Y_X7_lay) 50 = .ok (.iconst 1, 1) := by decide +kernel
theorem dX7_lay_51 : decode (mC Y_X7_lay) 51 = .ok (.iadd, 1) := by decide +kernel
theorem dX7_lay_52 : decode (mC Y_X7_lay) 52 = .ok (.iaload, 1) := by decide +kernel
theorem dX7_lay_53 : decode (mC Y_X7_lay) 53 = .ok (.aload_n 0, 1) := by decide +kernel
theorem dX7_lay_54 : decode (mC Y_X7_lay) 54 = .ok (.getfield 43, 3) := by decide +kernel
theorem dX7_lay_57 : decode (mC Y_X7_lay) 57 = .ok (.iconst 5, 1) := by decide +kernel
theorem dX7_lay_58 : decode (mC Y_X7_lay) 58 = .ok (.iload_n 1, 1) := by decide +kernel
theorem dX7_lay_59 : decode (mC Y_X7_lay) 59 = .ok (.imul, 1) := by decide +kernel
theorem dX7_lay_60 : decode (mC Y_X7_lay) 60 = .ok (.iconst 2, 1) := by decide +kernel
theorem dX7_lay_61 : decode (mC Y_X7_lay) 61 = .ok (.iadd, 1) := by decide +kernel
theorem dX7_lay_62 : decode (mC Y_X7_lay) 62 = .ok (.iaload, 1) := by decide +kernel
theorem dX7_lay_63 : decode (mC Y_X7_lay) 63 = .ok (.aload_n 0, 1) := by decide +kernel
theorem dX7_lay_64 : decode (mC Y_X7_lay) 64 = .ok (.getfield 43, 3) := by decide +kernel
theorem dX7_lay_67 : decode (mC Y_X7_lay) 67 = .ok (.iconst 5, 1) := by decide +kernel
theorem dX7_lay_68 : decode (mC Y_X7_lay) 68 = .ok (.iload_n 1, 1) := by decide +kernel
theorem dX7_lay_69 : decode (mC Y_X7_lay) 69 = .ok (.imul, 1) := by decide +kernel
theorem dX7_lay_70 : decode (mC Y_X7_lay) 70 = .ok (.iconst 3, 1) := by decide +kernel
theorem dX7_lay_71 : decode (mC Y_X7_lay) 71 = .ok (.iadd, 1) := by decide +kernel
theorem dX7_lay_72 : decode (mC Y_X7_lay) 72 = .ok (.iaload, 1) := by decide +kernel
theorem dX7_lay_73 : decode (mC Y_X7_lay) 73 = .ok (.aload_n 0, 1) := by decide +kernel
theorem dX7_lay_74 : decode (mC Y_X7_lay) 74 = .ok (.getfield 43, 3) := by decide +kernel
theorem dX7_lay_77 : decode (mC Y_X7_lay) 77 = .ok (.iconst 5, 1) := by decide +kernel
theorem dX7_lay_78 : decode (mC Y_X7_lay) 78 = .ok (.iload_n 1, 1) := by decide +kernel
theorem dX7_lay_79 : decode (mC Y_X7_lay) 79 = .ok (.imul, 1) := by decide +kernel
theorem dX7_lay_80 : decode (mC Y_X7_lay) 80 = .ok (.iconst 4, 1) := by decide +kernel
theorem dX7_lay_81 : decode (mC Y_X7_lay) 81 = .ok (.iadd, 1) := by decide +kernel
theorem dX7_lay_82 : decode (mC Y_X7_lay) 82 = .ok (.iaload, 1) := by decide +kernel
theorem dX7_lay_83 : decode (mC Y_X7_lay) 83 = .ok (.invokevirtual 64, 3) := by decide +kernel
theorem dX7_lay_86 : decode (mC Y_X7_lay) 86 = .ok (.iinc 1 1, 3) := by decide +kernel
theorem dX7_lay_89 : decode (mC Y_X7_lay) 89 = .ok (.goto (-63), 3) := by decide +kernel
theorem dX7_lay_92 : decode (mC Y_X7_lay) 92 = .ok (.aload_n 0, 1) := by decide +kernel
theorem dX7_lay_93 : decode (mC Y_X7_lay) 93 = .ok (.iconst 0, 1) := by decide +kernel
theorem dX7_lay_94 : decode (mC Y_X7_lay) 94 = .ok (.putfield 109, 3) := by decide +kernel
theorem dX7_lay_97 : decode (mC Y_X7_lay) 97 = .ok (.aload_n 0, 1) := by decide +kernel
theorem dX7_lay_98 : decode (mC Y_X7_lay) 98 = .ok (.iconst 0, 1) := by decide +kernel
theorem dX7_lay_99 : decode (mC Y_X7_lay) 99 = .ok (.putfield 112, 3) := by decide +kernel
theorem dX7_lay_102 : decode (mC Y_X7_lay) 102 = .ok (.aload_n 0, 1) := by decide +kernel
theorem dX7_lay_103 : decode (mC Y_X7_lay) 103 = .ok (.iconst 0, 1) := by decide +kernel
theorem dX7_lay_104 : decode (mC Y_X7_lay) 104 = .ok (.putfield 115, 3) := by decide +kernel
theorem dX7_lay_107 : decode (mC Y_X7_lay) 107 = .ok (.aload_n 0, 1) := by decide +kernel
theorem dX7_lay_108 : decode (mC Y_X7_lay) 108 = .ok (.iconst 0, 1) := by decide +kernel
theorem dX7_lay_109 : decode (mC Y_X7_lay) 109 = .ok (.putfield 118, 3) := by decide +kernel
theorem dX7_lay_112 : decode (mC Y_X7_lay) 112 = .ok (.aload_n 0, 1) := by decide +kernel
theorem dX7_lay_113 : decode (mC Y_X7_lay) 113 = .ok (.iconst 0, 1) := by decide +kernel
theorem dX7_lay_114 : decode (mC Y_X7_lay) 114 = .ok (.putfield 121, 3) := by decide +kernel
theorem dX7_lay_117 : decode (mC Y_X7_lay) 117 = .ok (.aload_n 0, 1) := by decide +kernel
theorem dX7_lay_118 : decode (mC Y_X7_lay) 118 = .ok (.iconst 0, 1) := by decide +kernel
theorem dX7_lay_119 : decode (mC Y_X7_lay) 119 = .ok (.putfield 124, 3) := by decide +kernel
theorem dX7_lay_122 : decode (mC Y_X7_lay) 122 = .ok (.aload_n 0, 1) := by decide +kernel
theorem dX7_lay_123 : decode (mC Y_X7_lay) 123 = .ok (.getfield 68, 3) := by decide +kernel
theorem dX7_lay_126 : decode (mC Y_X7_lay) 126 = .ok (.ireturn, 1) := by decide +kernel
theorem dX7_isPerson_0 : decode (mC Y_X7_isPerson) 0 = .ok (.iload_n 1, 1) := by decide +kernel
theorem dX7_isPerson_1 : decode (mC Y_X7_isPerson) 1 = .ok (.iconst 0, 1) := by decide +kernel
theorem dX7_isPerson_2 : decode (mC Y_X7_isPerson) 2 = .ok (.aload_n 0, 1) := by decide +kernel
theorem dX7_isPerson_3 : decode (mC Y_X7_isPerson) 3 = .ok (.getfield 68, 3) := by decide +kernel
theorem dX7_isPerson_6 : decode (mC Y_X7_isPerson) 6 = .ok (.iconst 1, 1) := by decide +kernel
theorem dX7_isPerson_7 : decode (mC Y_X7_isPerson) 7 = .ok (.isub, 1) := by decide +kernel
theorem dX7_isPerson_8 : decode (mC Y_X7_isPerson) 8 = .ok (.invokestatic 72, 3) := by decide +kernel
theorem dX7_isPerson_11 : decode (mC Y_X7_isPerson) 11 = .ok (.ireturn, 1) := by decide +kernel
theorem dX7_person_0 : decode (mC Y_X7_person) 0 = .ok (.aload_n 0, 1) := by decide +kernel
theorem dX7_person_1 : decode (mC Y_X7_person) 1 = .ok (.iload_n 1, 1) := by decide +kernel
theorem dX7_person_2 : decode (mC Y_X7_person) 2 = .ok (.invokevirtual 146, 3) := by decide +kernel
theorem dX7_person_5 : decode (mC Y_X7_person) 5 = .ok (.ifCond .eq 12, 3) := by decide +kernel
theorem dX7_person_8 : decode (mC Y_X7_person) 8 = .ok (.iload_n 2, 1) := by decide +kernel
theorem dX7_person_9 : decode (mC Y_X7_person) 9 = .ok (.iconst 0, 1) := by decide +kernel
theorem dX7_person_10 : decode (mC Y_X7_person) 10 = .ok (.iconst 4, 1) := by decide +kernel
theorem dX7_person_11 : decode (mC Y_X7_person) 11 = .ok (.invokestatic 72, 3) := by decide +kernel
theorem dX7_person_14 : decode (mC Y_X7_person) 14 = .ok (.ifCond .ne 5, 3) := by decide +kernel
theorem dX7_person_17 : decode (mC Y_X7_person) 17 = .ok (.iconst (-1), 1) := by decide +kernel
theorem dX7_person_18 : decode (mC Y_X7_person) 18 = .ok (.ireturn, 1) := by decide +kernel
theorem dX7_person_19 : decode (mC Y_X7_person) 19 = .ok (.iload_n 2, 1) := by decide +kernel
theorem dX7_person_20 : decode (mC Y_X7_person) 20 = .ok (.ifCond .ne 12, 3) := by decide +kernel
theorem dX7_person_23 : decode (mC Y_X7_person) 23 = .ok (.aload_n 0, 1) := by decide +kernel
theorem dX7_person_24 : decode (mC Y_X7_person) 24 = .ok (.getfield 9, 3) := by decide +kernel
theorem dX7_person_27 : decode (mC Y_X7_person) 27 = .ok (.iload_n 1, 1) := by decide +kernel
theorem dX7_person_28 : decode (mC Y_X7_person) 28 = .ok (.iaload, 1) := by decide +kernel
theorem dX7_person_29 : decode (mC Y_X7_person) 29 = .ok (.goto 51, 3) := by decide +kernel
theorem dX7_person_32 : decode (mC Y_X7_person) 32 = .ok (.iload_n 2, 1) := by decide +kernel
theorem dX7_person_33 : decode (mC Y_X7_person) 33 = .ok (.iconst 1, 1) := by decide +kernel
theorem dX7_person_34 : decode (mC Y_X7_person) 34 = .ok (.if_icmp .ne 12, 3) := by decide +kernel
theorem dX7_person_37 : decode (mC Y_X7_person) 37 = .ok (.aload_n 0, 1) := by decide +kernel
theorem dX7_person_38 : decode (mC Y_X7_person) 38 = .ok (.getfield 13, 3) := by decide +kernel
theorem dX7_person_41 : decode (mC Y_X7_person) 41 = .ok (.iload_n 1, 1) := by decide +kernel
theorem dX7_person_42 : decode (mC Y_X7_person) 42 = .ok (.iaload, 1) := by decide +kernel
theorem dX7_person_43 : decode (mC Y_X7_person) 43 = .ok (.goto 37, 3) := by decide +kernel
theorem dX7_person_46 : decode (mC Y_X7_person) 46 = .ok (.iload_n 2, 1) := by decide +kernel
theorem dX7_person_47 : decode (mC Y_X7_person) 47 = .ok (.iconst 2, 1) := by decide +kernel
theorem dX7_person_48 : decode (mC Y_X7_person) 48 = .ok (.if_icmp .ne 12, 3) := by decide +kernel
theorem dX7_person_51 : decode (mC Y_X7_person) 51 = .ok (.aload_n 0, 1) := by decide +kernel
theorem dX7_person_52 : decode (mC Y_X7_person) 52 = .ok (.getfield 16, 3) := by decide +kernel
theorem dX7_person_55 : decode (mC Y_X7_person) 55 = .ok (.iload_n 1, 1) := by decide +kernel
theorem dX7_person_56 : decode (mC Y_X7_person) 56 = .ok (.iaload, 1) := by decide +kernel
theorem dX7_person_57 : decode (mC Y_X7_person) 57 = .ok (.goto 23, 3) := by decide +kernel
theorem dX7_person_60 : decode (mC Y_X7_person) 60 = .ok (.iload_n 2, 1) := by decide +kernel
theorem dX7_person_61 : decode (mC Y_X7_person) 61 = .ok (.iconst 3, 1) := by decide +kernel
theorem dX7_person_62 : decode (mC Y_X7_person) 62 = .ok (.if_icmp .ne 12, 3) := by decide +kernel
theorem dX7_person_65 : decode (mC Y_X7_person) 65 = .ok (.aload_n 0, 1) := by decide +kernel
theorem dX7_person_66 : decode (mC Y_X7_person) 66 = .ok (.getfield 19, 3) := by decide +kernel
theorem dX7_person_69 : decode (mC Y_X7_person) 69 = .ok (.iload_n 1, 1) := by decide +kernel
theorem dX7_person_70 : decode (mC Y_X7_person) 70 = .ok (.iaload, 1) := by decide +kernel
theorem dX7_person_71 : decode (mC Y_X7_person) 71 = .ok (.goto 9, 3) := by decide +kernel
theorem dX7_person_74 : decode (mC Y_X7_person) 74 = .ok (.aload_n 0, 1) := by decide +kernel
theorem dX7_person_75 : decode (mC Y_X7_person) 75 = .ok (.getfield 22, 3) := by decide +kernel
theorem dX7_person_78 : decode (mC Y_X7_person) 78 = .ok (.iload_n 1, 1) := by decide +kernel
theorem dX7_person_79 : decode (mC Y_X7_person) 79 = .ok (.iaload, 1) := by decide +kernel
theorem dX7_person_80 : decode (mC Y_X7_person) 80 = .ok (.ireturn, 1) := by decide +kernel
theorem dX7_isAbout_0 : decode (mC Y_X7_isAbout) 0 = .ok (.aload_n 0, 1) := by decide +kernel
theorem dX7_isAbout_1 : decode (mC Y_X7_isAbout) 1 = .ok (.getfield 13, 3) := by decide +kernel
theorem dX7_isAbout_4 : decode (mC Y_X7_isAbout) 4 = .ok (.iload_n 1, 1) := by decide +kernel
theorem dX7_isAbout_5 : decode (mC Y_X7_isAbout) 5 = .ok (.iaload, 1) := by decide +kernel
theorem dX7_isAbout_6 : decode (mC Y_X7_isAbout) 6 = .ok (.bipush (-4), 2) := by decide +kernel
theorem dX7_isAbout_8 : decode (mC Y_X7_isAbout) 8 = .ok (.if_icmp .eq 37, 3) := by decide +kernel
theorem dX7_isAbout_11 : decode (mC Y_X7_isAbout) 11 = .ok (.aload_n 0, 1) := by decide +kernel
theorem dX7_isAbout_12 : decode (mC Y_X7_isAbout) 12 = .ok (.getfield 13, 3) := by decide +kernel
theorem dX7_isAbout_15 : decode (mC Y_X7_isAbout) 15 = .ok (.iload_n 1, 1) := by decide +kernel
theorem dX7_isAbout_16 : decode (mC Y_X7_isAbout) 16 = .ok (.iaload, 1) := by decide +kernel
theorem dX7_isAbout_17 : decode (mC Y_X7_isAbout) 17 = .ok (.aload_n 0, 1) := by decide +kernel
theorem dX7_isAbout_18 : decode (mC Y_X7_isAbout) 18 = .ok (.getfield 13, 3) := by decide +kernel
theorem dX7_isAbout_21 : decode (mC Y_X7_isAbout) 21 = .ok (.iload_n 2, 1) := by decide +kernel
theorem dX7_isAbout_22 : decode (mC Y_X7_isAbout) 22 = .ok (.iaload, 1) := by decide +kernel
theorem dX7_isAbout_23 : decode (mC Y_X7_isAbout) 23 = .ok (.if_icmp .ne 22, 3) := by decide +kernel
theorem dX7_isAbout_26 : decode (mC Y_X7_isAbout) 26 = .ok (.aload_n 0, 1) := by decide +kernel
theorem dX7_isAbout_27 : decode (mC Y_X7_isAbout) 27 = .ok (.getfield 19, 3) := by decide +kernel
theorem dX7_isAbout_30 : decode (mC Y_X7_isAbout) 30 = .ok (.iload_n 1, 1) := by decide +kernel
theorem dX7_isAbout_31 : decode (mC Y_X7_isAbout) 31 = .ok (.iaload, 1) := by decide +kernel
theorem dX7_isAbout_32 : decode (mC Y_X7_isAbout) 32 = .ok (.aload_n 0, 1) := by decide +kernel
theorem dX7_isAbout_33 : decode (mC Y_X7_isAbout) 33 = .ok (.getfield 19, 3) := by decide +kernel
theorem dX7_isAbout_36 : decode (mC Y_X7_isAbout) 36 = .ok (.iload_n 2, 1) := by decide +kernel
theorem dX7_isAbout_37 : decode (mC Y_X7_isAbout) 37 = .ok (.iaload, 1) := by decide +kernel
theorem dX7_isAbout_38 : decode (mC Y_X7_isAbout) 38 = .ok (.if_icmp .ne 7, 3) := by decide +kernel
theorem dX7_isAbout_41 : decode (mC Y_X7_isAbout) 41 = .ok (.iconst 1, 1) := by decide +kernel
theorem dX7_isAbout_42 : decode (mC Y_X7_isAbout) 42 = .ok (.goto 4, 3) := by decide +kernel
theorem dX7_isAbout_45 : decode (mC Y_X7_isAbout) 45 = .ok (.iconst 0, 1) := by decide +kernel
theorem dX7_isAbout_46 : decode (mC Y_X7_isAbout) 46 = .ok (.ireturn, 1) := by decide +kernel
theorem dX7_meets_0 : decode (mC Y_X7_meets) 0 = .ok (.aload_n 0, 1) := by decide +kernel
theorem dX7_meets_1 : decode (mC Y_X7_meets) 1 = .ok (.iload_n 1, 1) := by decide +kernel
theorem dX7_meets_2 : decode (mC Y_X7_meets) 2 = .ok (.iload_n 2, 1) := by decide +kernel
theorem dX7_meets_3 : decode (mC Y_X7_meets) 3 = .ok (.invokevirtual 131, 3) := by decide +kernel
theorem dX7_meets_6 : decode (mC Y_X7_meets) 6 = .ok (.ifCond .eq 22, 3) := by decide +kernel
theorem dX7_meets_9 : decode (mC Y_X7_meets) 9 = .ok (.aload_n 0, 1) := by decide +kernel
theorem dX7_meets_10 : decode (mC Y_X7_meets) 10 = .ok (.getfield 16, 3) := by decide +kernel
theorem dX7_meets_13 : decode (mC Y_X7_meets) 13 = .ok (.iload_n 1, 1) := by decide +kernel
theorem dX7_meets_14 : decode (mC Y_X7_meets) 14 = .ok (.iaload, 1) := by decide +kernel
theorem dX7_meets_15 : decode (mC Y_X7_meets) 15 = .ok (.aload_n 0, 1) := by decide +kernel
theorem dX7_meets_16 : decode (mC Y_X7_meets) 16 = .ok (.getfield 16, 3) := by decide +kernel
theorem dX7_meets_19 : decode (mC Y_X7_meets) 19 = .ok (.iload_n 2, 1) := by decide +kernel
theorem dX7_meets_20 : decode (mC Y_X7_meets) 20 = .ok (.iaload, 1) := by decide +kernel
theorem dX7_meets_21 : decode (mC Y_X7_meets) 21 = .ok (.if_icmp .ne 7, 3) := by decide +kernel
theorem dX7_meets_24 : decode (mC Y_X7_meets) 24 = .ok (.iconst 1, 1) := by decide +kernel
theorem dX7_meets_25 : decode (mC Y_X7_meets) 25 = .ok (.goto 4, 3) := by decide +kernel
theorem dX7_meets_28 : decode (mC Y_X7_meets) 28 = .ok (.iconst 0, 1) := by decide +kernel
theorem dX7_meets_29 : decode (mC Y_X7_meets) 29 = .ok (.ireturn, 1) := by decide +kernel
theorem dX7_near_0 : decode (mC Y_X7_near) 0 = .ok (.aload_n 0, 1) := by decide +kernel
theorem dX7_near_1 : decode (mC Y_X7_near) 1 = .ok (.iload_n 1, 1) := by decide +kernel
theorem dX7_near_2 : decode (mC Y_X7_near) 2 = .ok (.invokevirtual 146, 3) := by decide +kernel
theorem dX7_near_5 : decode (mC Y_X7_near) 5 = .ok (.ifCond .eq 16, 3) := by decide +kernel
theorem dX7_near_8 : decode (mC Y_X7_near) 8 = .ok (.aload_n 0, 1) := by decide +kernel
theorem dX7_near_9 : decode (mC Y_X7_near) 9 = .ok (.iload_n 2, 1) := by decide +kernel
theorem dX7_near_10 : decode (mC Y_X7_near) 10 = .ok (.invokevirtual 146, 3) := by decide +kernel
theorem dX7_near_13 : decode (mC Y_X7_near) 13 = .ok (.ifCond .eq 8, 3) := by decide +kernel
theorem dX7_near_16 : decode (mC Y_X7_near) 16 = .ok (.iload_n 1, 1) := by decide +kernel
theorem dX7_near_17 : decode (mC Y_X7_near) 17 = .ok (.iload_n 2, 1) := by decide +kernel
theorem dX7_near_18 : decode (mC Y_X7_near) 18 = .ok (.if_icmp .ne 5, 3) := by decide +kernel
theorem dX7_near_21 : decode (mC Y_X7_near) 21 = .ok (.iconst (-1), 1) := by decide +kernel
theorem dX7_near_22 : decode (mC Y_X7_near) 22 = .ok (.ireturn, 1) := by decide +kernel
theorem dX7_near_23 : decode (mC Y_X7_near) 23 = .ok (.aload_n 0, 1) := by decide +kernel
theorem dX7_near_24 : decode (mC Y_X7_near) 24 = .ok (.iload_n 1, 1) := by decide +kernel
theorem dX7_near_25 : decode (mC Y_X7_near) 25 = .ok (.iload_n 2, 1) := by decide +kernel
theorem dX7_near_26 : decode (mC Y_X7_near) 26 = .ok (.invokevirtual 150, 3) := by decide +kernel
theorem dX7_near_29 : decode (mC Y_X7_near) 29 = .ok (.ifCond .eq 7, 3) := by decide +kernel
theorem dX7_near_32 : decode (mC Y_X7_near) 32 = .ok (.iconst 2, 1) := by decide +kernel
theorem dX7_near_33 : decode (mC Y_X7_near) 33 = .ok (.goto 17, 3) := by decide +kernel
theorem dX7_near_36 : decode (mC Y_X7_near) 36 = .ok (.aload_n 0, 1) := by decide +kernel
theorem dX7_near_37 : decode (mC Y_X7_near) 37 = .ok (.iload_n 1, 1) := by decide +kernel
theorem dX7_near_38 : decode (mC Y_X7_near) 38 = .ok (.iload_n 2, 1) := by decide +kernel
theorem dX7_near_39 : decode (mC Y_X7_near) 39 = .ok (.invokevirtual 131, 3) := by decide +kernel
theorem dX7_near_42 : decode (mC Y_X7_near) 42 = .ok (.ifCond .eq 7, 3) := by decide +kernel
theorem dX7_near_45 : decode (mC Y_X7_near) 45 = .ok (.iconst 1, 1) := by decide +kernel
theorem dX7_near_46 : decode (mC Y_X7_near) 46 = .ok (.goto 4, 3) := by decide +kernel
theorem dX7_near_49 : decode (mC Y_X7_near) 49 = .ok (.iconst 0, 1) := by decide +kernel
theorem dX7_near_50 : decode (mC Y_X7_near) 50 = .ok (.ireturn, 1) := by decide +kernel
theorem dX7_isDoor_0 : decode (mC Y_X7_isDoor) 0 = .ok (.iload_n 0, 1) := by decide +kernel
theorem dX7_isDoor_1 : decode (mC Y_X7_isDoor) 1 = .ok (.iconst 0, 1) := by decide +kernel
theorem dX7_isDoor_2 : decode (mC Y_X7_isDoor) 2 = .ok (.iconst 5, 1) := by decide +kernel
theorem dX7_isDoor_3 : decode (mC Y_X7_isDoor) 3 = .ok (.invokestatic 72, 3) := by decide +kernel
theorem dX7_isDoor_6 : decode (mC Y_X7_isDoor) 6 = .ok (.ireturn, 1) := by decide +kernel
theorem dX7_thoseAbout_0 : decode (mC Y_X7_thoseAbout) 0 = .ok (.iconst 0, 1) := by decide +kernel
theorem dX7_thoseAbout_1 : decode (mC Y_X7_thoseAbout) 1 = .ok (.istore_n 2, 1) := by decide +kernel
theorem dX7_thoseAbout_2 : decode (mC Y_X7_thoseAbout) 2 = .ok (.iconst 0, 1) := by decide +kernel
theorem dX7_thoseAbout_3 : decode (mC Y_X7_thoseAbout) 3 = .ok (.istore_n 3, 1) := by decide +kernel
theorem dX7_thoseAbout_4 : decode (mC Y_X7_thoseAbout) 4 = .ok (.iload_n 3, 1) := by decide +kernel
theorem dX7_thoseAbout_5 : decode (mC Y_X7_thoseAbout) 5 = .ok (.aload_n 0, 1) := by decide +kernel
theorem dX7_thoseAbout_6 : decode (mC Y_X7_thoseAbout) 6 = .ok (.getfield 68, 3) := by decide +kernel
theorem dX7_thoseAbout_9 : decode (mC Y_X7_thoseAbout) 9 = .ok (.if_icmp .ge 29, 3) := by decide +kernel
theorem dX7_thoseAbout_12 : decode (mC Y_X7_thoseAbout) 12 = .ok (.iload_n 2, 1) := by decide +kernel
theorem dX7_thoseAbout_13 : decode (mC Y_X7_thoseAbout) 13 = .ok (.aload_n 0, 1) := by decide +kernel
theorem dX7_thoseAbout_14 : decode (mC Y_X7_thoseAbout) 14 = .ok (.getfield 13, 3) := by decide +kernel
theorem dX7_thoseAbout_17 : decode (mC Y_X7_thoseAbout) 17 = .ok (.iload_n 3, 1) := by decide +kernel
theorem dX7_thoseAbout_18 : decode (mC Y_X7_thoseAbout) 18 = .ok (.iaload, 1) := by decide +kernel
theorem dX7_thoseAbout_19 : decode (mC Y_X7_thoseAbout) 19 = .ok (.iload_n 1, 1) := by decide +kernel
theorem dX7_thoseAbout_20 : decode (mC Y_X7_thoseAbout) 20 = .ok (.if_icmp .ne 9, 3) := by decide +kernel
theorem dX7_thoseAbout_23 : decode (mC Y_X7_thoseAbout) 23 = .ok (.iconst 1, 1) := by decide +kernel
theorem dX7_thoseAbout_24 : decode (mC Y_X7_thoseAbout) 24 = .ok (.iload_n 3, 1) := by decide +kernel
theorem dX7_thoseAbout_25 : decode (mC Y_X7_thoseAbout) 25 = .ok (.ishl, 1) := by decide +kernel
theorem dX7_thoseAbout_26 : decode (mC Y_X7_thoseAbout) 26 = .ok (.goto 4, 3) := by decide +kernel
theorem dX7_thoseAbout_29 : decode (mC Y_X7_thoseAbout) 29 = .ok (.iconst 0, 1) := by decide +kernel
theorem dX7_thoseAbout_30 : decode (mC Y_X7_thoseAbout) 30 = .ok (.ior, 1) := by decide +kernel
theorem dX7_thoseAbout_31 : decode (mC Y_X7_thoseAbout) 31 = .ok (.istore_n 2, 1) := by decide +kernel
theorem dX7_thoseAbout_32 : decode (mC Y_X7_thoseAbout) 32 = .ok (.iinc 3 1, 3) := by decide +kernel
theorem dX7_thoseAbout_35 : decode (mC Y_X7_thoseAbout) 35 = .ok (.goto (-31), 3) := by decide +kernel
theorem dX7_thoseAbout_38 : decode (mC Y_X7_thoseAbout) 38 = .ok (.iload_n 2, 1) := by decide +kernel
theorem dX7_thoseAbout_39 : decode (mC Y_X7_thoseAbout) 39 = .ok (.ireturn, 1) := by decide +kernel
theorem dX7_about_0 : decode (mC Y_X7_about) 0 = .ok (.iload_n 1, 1) := by decide +kernel
theorem dX7_about_1 : decode (mC Y_X7_about) 1 = .ok (.invokestatic 153, 3) := by decide +kernel
theorem dX7_about_4 : decode (mC Y_X7_about) 4 = .ok (.ifCond .eq 11, 3) := by decide +kernel
theorem dX7_about_7 : decode (mC Y_X7_about) 7 = .ok (.aload_n 0, 1) := by decide +kernel
theorem dX7_about_8 : decode (mC Y_X7_about) 8 = .ok (.iload_n 1, 1) := by decide +kernel
theorem dX7_about_9 : decode (mC Y_X7_about) 9 = .ok (.invokevirtual 156, 3) := by decide +kernel
theorem dX7_about_12 : decode (mC Y_X7_about) 12 = .ok (.goto 4, 3) := by decide +kernel
theorem dX7_about_15 : decode (mC Y_X7_about) 15 = .ok (.iconst (-1), 1) := by decide +kernel
theorem dX7_about_16 : decode (mC Y_X7_about) 16 = .ok (.ireturn, 1) := by decide +kernel
theorem dX7_lays_0 : decode (mC Y_X7_lays) 0 = .ok (.aload_n 1, 1) := by decide +kernel
theorem dX7_lays_1 : decode (mC Y_X7_lays) 1 = .ok (.iload_n 2, 1) := by decide +kernel
theorem dX7_lays_2 : decode (mC Y_X7_lays) 2 = .ok (.aload_n 0, 1) := by decide +kernel
theorem dX7_lays_3 : decode (mC Y_X7_lays) 3 = .ok (.getfield 109, 3) := by decide +kernel
theorem dX7_lays_6 : decode (mC Y_X7_lays) 6 = .ok (.iastore, 1) := by decide +kernel
theorem dX7_lays_7 : decode (mC Y_X7_lays) 7 = .ok (.aload_n 1, 1) := by decide +kernel
theorem dX7_lays_8 : decode (mC Y_X7_lays) 8 = .ok (.iload_n 2, 1) := by decide +kernel
theorem dX7_lays_9 : decode (mC Y_X7_lays) 9 = .ok (.iconst 1, 1) := by decide +kernel
theorem dX7_lays_10 : decode (mC Y_X7_lays) 10 = .ok (.iadd, 1) := by decide +kernel
theorem dX7_lays_11 : decode (mC Y_X7_lays) 11 = .ok (.aload_n 0, 1) := by decide +kernel
theorem dX7_lays_12 : decode (mC Y_X7_lays) 12 = .ok (.getfield 112, 3) := by decide +kernel
theorem dX7_lays_15 : decode (mC Y_X7_lays) 15 = .ok (.iastore, 1) := by decide +kernel
theorem dX7_lays_16 : decode (mC Y_X7_lays) 16 = .ok (.iconst 0, 1) := by decide +kernel
theorem dX7_lays_17 : decode (mC Y_X7_lays) 17 = .ok (.istore_n 3, 1) := by decide +kernel
theorem dX7_lays_18 : decode (mC Y_X7_lays) 18 = .ok (.iload_n 3, 1) := by decide +kernel
theorem dX7_lays_19 : decode (mC Y_X7_lays) 19 = .ok (.bipush 7, 2) := by decide +kernel
theorem dX7_lays_21 : decode (mC Y_X7_lays) 21 = .ok (.if_icmp .ge 64, 3) := by decide +kernel
theorem dX7_lays_24 : decode (mC Y_X7_lays) 24 = .ok (.aload_n 1, 1) := by decide +kernel
theorem dX7_lays_25 : decode (mC Y_X7_lays) 25 = .ok (.iload_n 2, 1) := by decide +kernel
theorem dX7_lays_26 : decode (mC Y_X7_lays) 26 = .ok (.iconst 2, 1) := by decide +kernel
theorem dX7_lays_27 : decode (mC Y_X7_lays) 27 = .ok (.iadd, 1) := by decide +kernel
theorem dX7_lays_28 : decode (mC Y_X7_lays) 28 = .ok (.iload_n 3, 1) := by decide +kernel
theorem dX7_lays_29 : decode (mC Y_X7_lays) 29 = .ok (.iadd, 1) := by decide +kernel
theorem dX7_lays_30 : decode (mC Y_X7_lays) 30 = .ok (.aload_n 0, 1) := by decide +kernel
theorem dX7_lays_31 : decode (mC Y_X7_lays) 31 = .ok (.getfield 13, 3) := by decide +kernel
theorem dX7_lays_34 : decode (mC Y_X7_lays) 34 = .ok (.iload_n 3, 1) := by decide +kernel
theorem dX7_lays_35 : decode (mC Y_X7_lays) 35 = .ok (.iaload, 1) := by decide +kernel
theorem dX7_lays_36 : decode (mC Y_X7_lays) 36 = .ok (.iastore, 1) := by decide +kernel
theorem dX7_lays_37 : decode (mC Y_X7_lays) 37 = .ok (.aload_n 1, 1) := by decide +kernel
theorem dX7_lays_38 : decode (mC Y_X7_lays) 38 = .ok (.iload_n 2, 1) := by decide +kernel
theorem dX7_lays_39 : decode (mC Y_X7_lays) 39 = .ok (.bipush 9, 2) := by decide +kernel
theorem dX7_lays_41 : decode (mC Y_X7_lays) 41 = .ok (.iadd, 1) := by decide +kernel
theorem dX7_lays_42 : decode (mC Y_X7_lays) 42 = .ok (.iload_n 3, 1) := by decide +kernel
theorem dX7_lays_43 : decode (mC Y_X7_lays) 43 = .ok (.iadd, 1) := by decide +kernel
theorem dX7_lays_44 : decode (mC Y_X7_lays) 44 = .ok (.aload_n 0, 1) := by decide +kernel
theorem dX7_lays_45 : decode (mC Y_X7_lays) 45 = .ok (.getfield 16, 3) := by decide +kernel
theorem dX7_lays_48 : decode (mC Y_X7_lays) 48 = .ok (.iload_n 3, 1) := by decide +kernel
theorem dX7_lays_49 : decode (mC Y_X7_lays) 49 = .ok (.iaload, 1) := by decide +kernel
theorem dX7_lays_50 : decode (mC Y_X7_lays) 50 = .ok (.iastore, 1) := by decide +kernel
theorem dX7_lays_51 : decode (mC Y_X7_lays) 51 = .ok (.aload_n 1, 1) := by decide +kernel
theorem dX7_lays_52 : decode (mC Y_X7_lays) 52 = .ok (.iload_n 2, 1) := by decide +kernel
theorem dX7_lays_53 : decode (mC Y_X7_lays) 53 = .ok (.bipush 16, 2) := by decide +kernel
theorem dX7_lays_55 : decode (mC Y_X7_lays) 55 = .ok (.iadd, 1) := by decide +kernel
theorem dX7_lays_56 : decode (mC Y_X7_lays) 56 = .ok (.iload_n 3, 1) := by decide +kernel
theorem dX7_lays_57 : decode (mC Y_X7_lays) 57 = .ok (.iadd, 1) := by decide +kernel
theorem dX7_lays_58 : decode (mC Y_X7_lays) 58 = .ok (.aload_n 0, 1) := by decide +kernel
theorem dX7_lays_59 : decode (mC Y_X7_lays) 59 = .ok (.getfield 19, 3) := by decide +kernel
theorem dX7_lays_62 : decode (mC Y_X7_lays) 62 = .ok (.iload_n 3, 1) := by decide +kernel
theorem dX7_lays_63 : decode (mC Y_X7_lays) 63 = .ok (.iaload, 1) := by decide +kernel
theorem dX7_lays_64 : decode (mC Y_X7_lays) 64 = .ok (.iastore, 1) := by decide +kernel
theorem dX7_lays_65 : decode (mC Y_X7_lays) 65 = .ok (.aload_n 1, 1) := by decide +kernel
theorem dX7_lays_66 : decode (mC Y_X7_lays) 66 = .ok (.iload_n 2, 1) := by decide +kernel
theorem dX7_lays_67 : decode (mC Y_X7_lays) 67 = .ok (.bipush 23, 2) := by decide +kernel
theorem dX7_lays_69 : decode (mC Y_X7_lays) 69 = .ok (.iadd, 1) := by decide +kernel
theorem dX7_lays_70 : decode (mC Y_X7_lays) 70 = .ok (.iload_n 3, 1) := by decide +kernel
theorem dX7_lays_71 : decode (mC Y_X7_lays) 71 = .ok (.iadd, 1) := by decide +kernel
theorem dX7_lays_72 : decode (mC Y_X7_lays) 72 = .ok (.aload_n 0, 1) := by decide +kernel
theorem dX7_lays_73 : decode (mC Y_X7_lays) 73 = .ok (.getfield 22, 3) := by decide +kernel
theorem dX7_lays_76 : decode (mC Y_X7_lays) 76 = .ok (.iload_n 3, 1) := by decide +kernel
theorem dX7_lays_77 : decode (mC Y_X7_lays) 77 = .ok (.iaload, 1) := by decide +kernel
theorem dX7_lays_78 : decode (mC Y_X7_lays) 78 = .ok (.iastore, 1) := by decide +kernel
theorem dX7_lays_79 : decode (mC Y_X7_lays) 79 = .ok (.iinc 3 1, 3) := by decide +kernel
theorem dX7_lays_82 : decode (mC Y_X7_lays) 82 = .ok (.goto (-64), 3) := by decide +kernel
theorem dX7_lays_85 : decode (mC Y_X7_lays) 85 = .ok (.return_, 1) := by decide +kernel
theorem dX7_notes_0 : decode (mC Y_X7_notes) 0 = .ok (.aload_n 0, 1) := by decide +kernel
theorem dX7_notes_1 : decode (mC Y_X7_notes) 1 = .ok (.getfield 121, 3) := by decide +kernel
theorem dX7_notes_4 : decode (mC Y_X7_notes) 4 = .ok (.bipush 8, 2) := by decide +kernel
theorem dX7_notes_6 : decode (mC Y_X7_notes) 6 = .ok (.if_icmp .ne 43, 3) := by decide +kernel
theorem dX7_notes_9 : decode (mC Y_X7_notes) 9 = .ok (.iconst 0, 1) := by decide +kernel
theorem dX7_notes_10 : decode (mC Y_X7_notes) 10 = .ok (.istore_n 1, 1) := by decide +kernel
theorem dX7_notes_11 : decode (mC Y_X7_notes) 11 = .ok (.iload_n 1, 1) := by decide +kernel
theorem dX7_notes_12 : decode (mC Y_X7_notes) 12 = .ok (.sipush 210, 3) := by decide +kernel
theorem dX7_notes_15 : decode (mC Y_X7_notes) 15 = .ok (.if_icmp .ge 24, 3) := by decide +kernel
theorem dX7_notes_18 : decode (mC Y_X7_notes) 18 = .ok (.aload_n 0, 1) := by decide +kernel
theorem dX7_notes_19 : decode (mC Y_X7_notes) 19 = .ok (.getfield 46, 3) := by decide +kernel
theorem dX7_notes_22 : decode (mC Y_X7_notes) 22 = .ok (.iload_n 1, 1) := by decide +kernel
theorem dX7_notes_23 : decode (mC Y_X7_notes) 23 = .ok (.aload_n 0, 1) := by decide +kernel
theorem dX7_notes_24 : decode (mC Y_X7_notes) 24 = .ok (.getfield 46, 3) := by decide +kernel
theorem dX7_notes_27 : decode (mC Y_X7_notes) 27 = .ok (.iload_n 1, 1) := by decide +kernel
theorem dX7_notes_28 : decode (mC Y_X7_notes) 28 = .ok (.bipush 30, 2) := by decide +kernel
theorem dX7_notes_30 : decode (mC Y_X7_notes) 30 = .ok (.iadd, 1) := by decide +kernel
theorem dX7_notes_31 : decode (mC Y_X7_notes) 31 = .ok (.iaload, 1) := by decide +kernel
theorem dX7_notes_32 : decode (mC Y_X7_notes) 32 = .ok (.iastore, 1) := by decide +kernel
theorem dX7_notes_33 : decode (mC Y_X7_notes) 33 = .ok (.iinc 1 1, 3) := by decide +kernel
theorem dX7_notes_36 : decode (mC Y_X7_notes) 36 = .ok (.goto (-25), 3) := by decide +kernel
theorem dX7_notes_39 : decode (mC Y_X7_notes) 39 = .ok (.aload_n 0, 1) := by decide +kernel
theorem dX7_notes_40 : decode (mC Y_X7_notes) 40 = .ok (.dup, 1) := by decide +kernel
theorem dX7_notes_41 : decode (mC Y_X7_notes) 41 = .ok (.getfield 121, 3) := by decide +kernel
theorem dX7_notes_44 : decode (mC Y_X7_notes) 44 = .ok (.iconst 1, 1) := by decide +kernel
theorem dX7_notes_45 : decode (mC Y_X7_notes) 45 = .ok (.isub, 1) := by decide +kernel
theorem dX7_notes_46 : decode (mC Y_X7_notes) 46 = .ok (.putfield 121, 3) := by decide +kernel
theorem dX7_notes_49 : decode (mC Y_X7_notes) 49 = .ok (.aload_n 0, 1) := by decide +kernel
theorem dX7_notes_50 : decode (mC Y_X7_notes) 50 = .ok (.aload_n 0, 1) := by decide +kernel
theorem dX7_notes_51 : decode (mC Y_X7_notes) 51 = .ok (.getfield 46, 3) := by decide +kernel
theorem dX7_notes_54 : decode (mC Y_X7_notes) 54 = .ok (.bipush 30, 2) := by decide +kernel
theorem dX7_notes_56 : decode (mC Y_X7_notes) 56 = .ok (.aload_n 0, 1) := by decide +kernel
theorem dX7_notes_57 : decode (mC Y_X7_notes) 57 = .ok (.getfield 121, 3) := by decide +kernel
theorem dX7_notes_60 : decode (mC Y_X7_notes) 60 = .ok (.imul, 1) := by decide +kernel
theorem dX7_notes_61 : decode (mC Y_X7_notes) 61 = .ok (.invokevirtual 159, 3) := by decide +kernel
theorem dX7_notes_64 : decode (mC Y_X7_notes) 64 = .ok (.aload_n 0, 1) := by decide +kernel
theorem dX7_notes_65 : decode (mC Y_X7_notes) 65 = .ok (.dup, 1) := by decide +kernel
theorem dX7_notes_66 : decode (mC Y_X7_notes) 66 = .ok (.getfield 121, 3) := by decide +kernel
theorem dX7_notes_69 : decode (mC Y_X7_notes) 69 = .ok (.iconst 1, 1) := by decide +kernel
theorem dX7_notes_70 : decode (mC Y_X7_notes) 70 = .ok (.iadd, 1) := by decide +kernel
theorem dX7_notes_71 : decode (mC Y_X7_notes) 71 = .ok (.putfield 121, 3) := by decide +kernel
theorem dX7_notes_74 : decode (mC Y_X7_notes) 74 = .ok (.return_, 1) := by decide +kernel
theorem dX7_goes_0 : decode (mC Y_X7_goes) 0 = .ok (.iload_n 0, 1) := by decide +kernel
theorem dX7_goes_1 : decode (mC Y_X7_goes) 1 = .ok (.tableswitch 57 1 3 #[27, 39, 43], 27) := by decide +kernel
theorem dX7_goes_28 : decode (mC Y_X7_goes) 28 = .ok (.iload_n 2, 1) := by decide +kernel
theorem dX7_goes_29 : decode (mC Y_X7_goes) 29 = .ok (.iconst 2, 1) := by decide +kernel
theorem dX7_goes_30 : decode (mC Y_X7_goes) 30 = .ok (.irem, 1) := by decide +kernel
theorem dX7_goes_31 : decode (mC Y_X7_goes) 31 = .ok (.ifCond .ne 7, 3) := by decide +kernel
theorem dX7_goes_34 : decode (mC Y_X7_goes) 34 = .ok (.iload_n 1, 1) := by decide +kernel
theorem dX7_goes_35 : decode (mC Y_X7_goes) 35 = .ok (.goto 4, 3) := by decide +kernel
theorem dX7_goes_38 : decode (mC Y_X7_goes) 38 = .ok (.iconst 0, 1) := by decide +kernel
theorem dX7_goes_39 : decode (mC Y_X7_goes) 39 = .ok (.ireturn, 1) := by decide +kernel
theorem dX7_goes_40 : decode (mC Y_X7_goes) 40 = .ok (.iconst 2, 1) := by decide +kernel
theorem dX7_goes_41 : decode (mC Y_X7_goes) 41 = .ok (.iload_n 1, 1) := by decide +kernel
theorem dX7_goes_42 : decode (mC Y_X7_goes) 42 = .ok (.imul, 1) := by decide +kernel
theorem dX7_goes_43 : decode (mC Y_X7_goes) 43 = .ok (.ireturn, 1) := by decide +kernel
theorem dX7_goes_44 : decode (mC Y_X7_goes) 44 = .ok (.iload_n 2, 1) := by decide +kernel
theorem dX7_goes_45 : decode (mC Y_X7_goes) 45 = .ok (.iconst 3, 1) := by decide +kernel
theorem dX7_goes_46 : decode (mC Y_X7_goes) 46 = .ok (.irem, 1) := by decide +kernel
theorem dX7_goes_47 : decode (mC Y_X7_goes) 47 = .ok (.ifCond .ne 9, 3) := by decide +kernel
theorem dX7_goes_50 : decode (mC Y_X7_goes) 50 = .ok (.iload_n 1, 1) := by decide +kernel
theorem dX7_goes_51 : decode (mC Y_X7_goes) 51 = .ok (.iconst 1, 1) := by decide +kernel
theorem dX7_goes_52 : decode (mC Y_X7_goes) 52 = .ok (.iadd, 1) := by decide +kernel
theorem dX7_goes_53 : decode (mC Y_X7_goes) 53 = .ok (.goto 4, 3) := by decide +kernel
theorem dX7_goes_56 : decode (mC Y_X7_goes) 56 = .ok (.iload_n 1, 1) := by decide +kernel
theorem dX7_goes_57 : decode (mC Y_X7_goes) 57 = .ok (.ireturn, 1) := by decide +kernel
theorem dX7_goes_58 : decode (mC Y_X7_goes) 58 = .ok (.iload_n 1, 1) := by decide +kernel
theorem dX7_goes_59 : decode (mC Y_X7_goes) 59 = .ok (.ireturn, 1) := by decide +kernel
theorem dX7_yardThen_0 : decode (mC Y_X7_yardThen) 0 = .ok (.aload_n 0, 1) := by decide +kernel
theorem dX7_yardThen_1 : decode (mC Y_X7_yardThen) 1 = .ok (.getfield 13, 3) := by decide +kernel
theorem dX7_yardThen_4 : decode (mC Y_X7_yardThen) 4 = .ok (.iload_n 1, 1) := by decide +kernel
theorem dX7_yardThen_5 : decode (mC Y_X7_yardThen) 5 = .ok (.iaload, 1) := by decide +kernel
theorem dX7_yardThen_6 : decode (mC Y_X7_yardThen) 6 = .ok (.bipush (-4), 2) := by decide +kernel
theorem dX7_yardThen_8 : decode (mC Y_X7_yardThen) 8 = .ok (.if_icmp .ne 12, 3) := by decide +kernel
theorem dX7_yardThen_11 : decode (mC Y_X7_yardThen) 11 = .ok (.aload_n 0, 1) := by decide +kernel
theorem dX7_yardThen_12 : decode (mC Y_X7_yardThen) 12 = .ok (.getfield 19, 3) := by decide +kernel
theorem dX7_yardThen_15 : decode (mC Y_X7_yardThen) 15 = .ok (.iload_n 1, 1) := by decide +kernel
theorem dX7_yardThen_16 : decode (mC Y_X7_yardThen) 16 = .ok (.iaload, 1) := by decide +kernel
theorem dX7_yardThen_17 : decode (mC Y_X7_yardThen) 17 = .ok (.goto 29, 3) := by decide +kernel
theorem dX7_yardThen_20 : decode (mC Y_X7_yardThen) 20 = .ok (.aload_n 0, 1) := by decide +kernel
theorem dX7_yardThen_21 : decode (mC Y_X7_yardThen) 21 = .ok (.getfield 19, 3) := by decide +kernel
theorem dX7_yardThen_24 : decode (mC Y_X7_yardThen) 24 = .ok (.iload_n 1, 1) := by decide +kernel
theorem dX7_yardThen_25 : decode (mC Y_X7_yardThen) 25 = .ok (.iaload, 1) := by decide +kernel
theorem dX7_yardThen_26 : decode (mC Y_X7_yardThen) 26 = .ok (.aload_n 0, 1) := by decide +kernel
theorem dX7_yardThen_27 : decode (mC Y_X7_yardThen) 27 = .ok (.getfield 9, 3) := by decide +kernel
theorem dX7_yardThen_30 : decode (mC Y_X7_yardThen) 30 = .ok (.iload_n 1, 1) := by decide +kernel
theorem dX7_yardThen_31 : decode (mC Y_X7_yardThen) 31 = .ok (.iaload, 1) := by decide +kernel
theorem dX7_yardThen_32 : decode (mC Y_X7_yardThen) 32 = .ok (.aload_n 0, 1) := by decide +kernel
theorem dX7_yardThen_33 : decode (mC Y_X7_yardThen) 33 = .ok (.getfield 22, 3) := by decide +kernel
theorem dX7_yardThen_36 : decode (mC Y_X7_yardThen) 36 = .ok (.iload_n 1, 1) := by decide +kernel
theorem dX7_yardThen_37 : decode (mC Y_X7_yardThen) 37 = .ok (.iaload, 1) := by decide +kernel
theorem dX7_yardThen_38 : decode (mC Y_X7_yardThen) 38 = .ok (.iload_n 2, 1) := by decide +kernel
theorem dX7_yardThen_39 : decode (mC Y_X7_yardThen) 39 = .ok (.invokestatic 127, 3) := by decide +kernel
theorem dX7_yardThen_42 : decode (mC Y_X7_yardThen) 42 = .ok (.iadd, 1) := by decide +kernel
theorem dX7_yardThen_43 : decode (mC Y_X7_yardThen) 43 = .ok (.bipush 12, 2) := by decide +kernel
theorem dX7_yardThen_45 : decode (mC Y_X7_yardThen) 45 = .ok (.irem, 1) := by decide +kernel
theorem dX7_yardThen_46 : decode (mC Y_X7_yardThen) 46 = .ok (.ireturn, 1) := by decide +kernel
theorem dX7_pairs_0 : decode (mC Y_X7_pairs) 0 = .ok (.iconst 0, 1) := by decide +kernel
theorem dX7_pairs_1 : decode (mC Y_X7_pairs) 1 = .ok (.istore_n 2, 1) := by decide +kernel
theorem dX7_pairs_2 : decode (mC Y_X7_pairs) 2 = .ok (.iconst 0, 1) := by decide +kernel
theorem dX7_pairs_3 : decode (mC Y_X7_pairs) 3 = .ok (.istore_n 3, 1) := by decide +kernel
theorem dX7_pairs_4 : decode (mC Y_X7_pairs) 4 = .ok (.iload_n 3, 1) := by decide +kernel
theorem dX7_pairs_5 : decode (mC Y_X7_pairs) 5 = .ok (.aload_n 0, 1) := by decide +kernel
theorem dX7_pairs_6 : decode (mC Y_X7_pairs) 6 = .ok (.getfield 68, 3) := by decide +kernel
theorem dX7_pairs_9 : decode (mC Y_X7_pairs) 9 = .ok (.if_icmp .ge 67, 3) := by decide +kernel
theorem dX7_pairs_12 : decode (mC Y_X7_pairs) 12 = .ok (.iconst 0, 1) := by decide +kernel
theorem dX7_pairs_13 : decode (mC Y_X7_pairs) 13 = .ok (.istore 4, 2) := by decide +kernel
theorem dX7_pairs_15 : decode (mC Y_X7_pairs) 15 = .ok (.iload 4, 2) := by decide +kernel
theorem dX7_pairs_17 : decode (mC Y_X7_pairs) 17 = .ok (.iload_n 3, 1) := by decide +kernel
theorem dX7_pairs_18 : decode (mC Y_X7_pairs) 18 = .ok (.if_icmp .ge 52, 3) := by decide +kernel
theorem dX7_pairs_21 : decode (mC Y_X7_pairs) 21 = .ok (.iload_n 2, 1) := by decide +kernel
theorem dX7_pairs_22 : decode (mC Y_X7_pairs) 22 = .ok (.aload_n 0, 1) := by decide +kernel
theorem dX7_pairs_23 : decode (mC Y_X7_pairs) 23 = .ok (.iload_n 3, 1) := by decide +kernel
theorem dX7_pairs_24 : decode (mC Y_X7_pairs) 24 = .ok (.iload 4, 2) := by decide +kernel
theorem dX7_pairs_26 : decode (mC Y_X7_pairs) 26 = .ok (.invokevirtual 131, 3) := by decide +kernel
theorem dX7_pairs_29 : decode (mC Y_X7_pairs) 29 = .ok (.ifCond .eq 32, 3) := by decide +kernel
theorem dX7_pairs_32 : decode (mC Y_X7_pairs) 32 = .ok (.aload_n 0, 1) := by decide +kernel
theorem dX7_pairs_33 : decode (mC Y_X7_pairs) 33 = .ok (.getfield 16, 3) := by decide +kernel
theorem dX7_pairs_36 : decode (mC Y_X7_pairs) 36 = .ok (.iload_n 3, 1) := by decide +kernel
theorem dX7_pairs_37 : decode (mC Y_X7_pairs) 37 = .ok (.iaload, 1) := by decide +kernel
theorem dX7_pairs_38 : decode (mC Y_X7_pairs) 38 = .ok (.aload_n 0, 1) := by decide +kernel
theorem dX7_pairs_39 : decode (mC Y_X7_pairs) 39 = .ok (.getfield 16, 3) := by decide +kernel
theorem dX7_pairs_42 : decode (mC Y_X7_pairs) 42 = .ok (.iload 4, 2) := by decide +kernel
theorem dX7_pairs_44 : decode (mC Y_X7_pairs) 44 = .ok (.iaload, 1) := by decide +kernel
theorem dX7_pairs_45 : decode (mC Y_X7_pairs) 45 = .ok (.if_icmp .ne 7, 3) := by decide +kernel
theorem dX7_pairs_48 : decode (mC Y_X7_pairs) 48 = .ok (.iconst 1, 1) := by decide +kernel
theorem dX7_pairs_49 : decode (mC Y_X7_pairs) 49 = .ok (.goto 4, 3) := by decide +kernel
theorem dX7_pairs_52 : decode (mC Y_X7_pairs) 52 = .ok (.iconst 0, 1) := by decide +kernel
theorem dX7_pairs_53 : decode (mC Y_X7_pairs) 53 = .ok (.iload_n 1, 1) := by decide +kernel
theorem dX7_pairs_54 : decode (mC Y_X7_pairs) 54 = .ok (.if_icmp .ne 7, 3) := by decide +kernel
theorem dX7_pairs_57 : decode (mC Y_X7_pairs) 57 = .ok (.iconst 1, 1) := by decide +kernel
theorem dX7_pairs_58 : decode (mC Y_X7_pairs) 58 = .ok (.goto 4, 3) := by decide +kernel
theorem dX7_pairs_61 : decode (mC Y_X7_pairs) 61 = .ok (.iconst 0, 1) := by decide +kernel
theorem dX7_pairs_62 : decode (mC Y_X7_pairs) 62 = .ok (.iadd, 1) := by decide +kernel
theorem dX7_pairs_63 : decode (mC Y_X7_pairs) 63 = .ok (.istore_n 2, 1) := by decide +kernel
theorem dX7_pairs_64 : decode (mC Y_X7_pairs) 64 = .ok (.iinc 4 1, 3) := by decide +kernel
theorem dX7_pairs_67 : decode (mC Y_X7_pairs) 67 = .ok (.goto (-52), 3) := by decide +kernel
theorem dX7_pairs_70 : decode (mC Y_X7_pairs) 70 = .ok (.iinc 3 1, 3) := by decide +kernel
theorem dX7_pairs_73 : decode (mC Y_X7_pairs) 73 = .ok (.goto (-69), 3) := by decide +kernel
theorem dX7_pairs_76 : decode (mC Y_X7_pairs) 76 = .ok (.iload_n 2, 1) := by decide +kernel
theorem dX7_pairs_77 : decode (mC Y_X7_pairs) 77 = .ok (.ireturn, 1) := by decide +kernel
theorem dX7_passes_0 : decode (mC Y_X7_passes) 0 = .ok (.iconst 0, 1) := by decide +kernel
theorem dX7_passes_1 : decode (mC Y_X7_passes) 1 = .ok (.istore_n 1, 1) := by decide +kernel
theorem dX7_passes_2 : decode (mC Y_X7_passes) 2 = .ok (.iload_n 1, 1) := by decide +kernel
theorem dX7_passes_3 : decode (mC Y_X7_passes) 3 = .ok (.aload_n 0, 1) := by decide +kernel
theorem dX7_passes_4 : decode (mC Y_X7_passes) 4 = .ok (.getfield 68, 3) := by decide +kernel
theorem dX7_passes_7 : decode (mC Y_X7_passes) 7 = .ok (.if_icmp .ge 24, 3) := by decide +kernel
theorem dX7_passes_10 : decode (mC Y_X7_passes) 10 = .ok (.aload_n 0, 1) := by decide +kernel
theorem dX7_passes_11 : decode (mC Y_X7_passes) 11 = .ok (.getfield 19, 3) := by decide +kernel
theorem dX7_passes_14 : decode (mC Y_X7_passes) 14 = .ok (.iload_n 1, 1) := by decide +kernel
theorem dX7_passes_15 : decode (mC Y_X7_passes) 15 = .ok (.aload_n 0, 1) := by decide +kernel
theorem dX7_passes_16 : decode (mC Y_X7_passes) 16 = .ok (.iload_n 1, 1) := by decide +kernel
theorem dX7_passes_17 : decode (mC Y_X7_passes) 17 = .ok (.aload_n 0, 1) := by decide +kernel
theorem dX7_passes_18 : decode (mC Y_X7_passes) 18 = .ok (.getfield 109, 3) := by decide +kernel
theorem dX7_passes_21 : decode (mC Y_X7_passes) 21 = .ok (.invokevirtual 135, 3) := by decide +kernel
theorem dX7_passes_24 : decode (mC Y_X7_passes) 24 = .ok (.iastore, 1) := by decide +kernel
theorem dX7_passes_25 : decode (mC Y_X7_passes) 25 = .ok (.iinc 1 1, 3) := by decide +kernel
theorem dX7_passes_28 : decode (mC Y_X7_passes) 28 = .ok (.goto (-26), 3) := by decide +kernel
theorem dX7_passes_31 : decode (mC Y_X7_passes) 31 = .ok (.aload_n 0, 1) := by decide +kernel
theorem dX7_passes_32 : decode (mC Y_X7_passes) 32 = .ok (.dup, 1) := by decide +kernel
theorem dX7_passes_33 : decode (mC Y_X7_passes) 33 = .ok (.getfield 109, 3) := by decide +kernel
theorem dX7_passes_36 : decode (mC Y_X7_passes) 36 = .ok (.iconst 1, 1) := by decide +kernel
theorem dX7_passes_37 : decode (mC Y_X7_passes) 37 = .ok (.iadd, 1) := by decide +kernel
theorem dX7_passes_38 : decode (mC Y_X7_passes) 38 = .ok (.putfield 109, 3) := by decide +kernel
theorem dX7_passes_41 : decode (mC Y_X7_passes) 41 = .ok (.aload_n 0, 1) := by decide +kernel
theorem dX7_passes_42 : decode (mC Y_X7_passes) 42 = .ok (.dup, 1) := by decide +kernel
theorem dX7_passes_43 : decode (mC Y_X7_passes) 43 = .ok (.getfield 112, 3) := by decide +kernel
theorem dX7_passes_46 : decode (mC Y_X7_passes) 46 = .ok (.aload_n 0, 1) := by decide +kernel
theorem dX7_passes_47 : decode (mC Y_X7_passes) 47 = .ok (.iconst 1, 1) := by decide +kernel
theorem dX7_passes_48 : decode (mC Y_X7_passes) 48 = .ok (.invokevirtual 139, 3) := by decide +kernel
theorem dX7_passes_51 : decode (mC Y_X7_passes) 51 = .ok (.iadd, 1) := by decide +kernel
theorem dX7_passes_52 : decode (mC Y_X7_passes) 52 = .ok (.putfield 112, 3) := by decide +kernel
theorem dX7_passes_55 : decode (mC Y_X7_passes) 55 = .ok (.return_, 1) := by decide +kernel
theorem dX7_goesOn_0 : decode (mC Y_X7_goesOn) 0 = .ok (.iconst 0, 1) := by decide +kernel
theorem dX7_goesOn_1 : decode (mC Y_X7_goesOn) 1 = .ok (.istore_n 2, 1) := by decide +kernel
theorem dX7_goesOn_2 : decode (mC Y_X7_goesOn) 2 = .ok (.iload_n 2, 1) := by decide +kernel
theorem dX7_goesOn_3 : decode (mC Y_X7_goesOn) 3 = .ok (.iload_n 1, 1) := by decide +kernel
theorem dX7_goesOn_4 : decode (mC Y_X7_goesOn) 4 = .ok (.if_icmp .ge 13, 3) := by decide +kernel
theorem dX7_goesOn_7 : decode (mC Y_X7_goesOn) 7 = .ok (.aload_n 0, 1) := by decide +kernel
theorem dX7_goesOn_8 : decode (mC Y_X7_goesOn) 8 = .ok (.invokevirtual 143, 3) := by decide +kernel
theorem dX7_goesOn_11 : decode (mC Y_X7_goesOn) 11 = .ok (.iinc 2 1, 3) := by decide +kernel
theorem dX7_goesOn_14 : decode (mC Y_X7_goesOn) 14 = .ok (.goto (-12), 3) := by decide +kernel
theorem dX7_goesOn_17 : decode (mC Y_X7_goesOn) 17 = .ok (.return_, 1) := by decide +kernel
theorem dX7_pass_0 : decode (mC Y_X7_pass) 0 = .ok (.iload_n 1, 1) := by decide +kernel
theorem dX7_pass_1 : decode (mC Y_X7_pass) 1 = .ok (.iconst 1, 1) := by decide +kernel
theorem dX7_pass_2 : decode (mC Y_X7_pass) 2 = .ok (.bipush 20, 2) := by decide +kernel
theorem dX7_pass_4 : decode (mC Y_X7_pass) 4 = .ok (.invokestatic 72, 3) := by decide +kernel
theorem dX7_pass_7 : decode (mC Y_X7_pass) 7 = .ok (.ifCond .ne 5, 3) := by decide +kernel
theorem dX7_pass_10 : decode (mC Y_X7_pass) 10 = .ok (.iconst (-1), 1) := by decide +kernel
theorem dX7_pass_11 : decode (mC Y_X7_pass) 11 = .ok (.ireturn, 1) := by decide +kernel
theorem dX7_pass_12 : decode (mC Y_X7_pass) 12 = .ok (.aload_n 0, 1) := by decide +kernel
theorem dX7_pass_13 : decode (mC Y_X7_pass) 13 = .ok (.getfield 109, 3) := by decide +kernel
theorem dX7_pass_16 : decode (mC Y_X7_pass) 16 = .ok (.iload_n 1, 1) := by decide +kernel
theorem dX7_pass_17 : decode (mC Y_X7_pass) 17 = .ok (.iadd, 1) := by decide +kernel
theorem dX7_pass_18 : decode (mC Y_X7_pass) 18 = .ok (.sipush 999, 3) := by decide +kernel
theorem dX7_pass_21 : decode (mC Y_X7_pass) 21 = .ok (.if_icmp .le 6, 3) := by decide +kernel
theorem dX7_pass_24 : decode (mC Y_X7_pass) 24 = .ok (.bipush (-2), 2) := by decide +kernel
theorem dX7_pass_26 : decode (mC Y_X7_pass) 26 = .ok (.ireturn, 1) := by decide +kernel
theorem dX7_pass_27 : decode (mC Y_X7_pass) 27 = .ok (.aload_n 0, 1) := by decide +kernel
theorem dX7_pass_28 : decode (mC Y_X7_pass) 28 = .ok (.invokevirtual 163, 3) := by decide +kernel
theorem dX7_pass_31 : decode (mC Y_X7_pass) 31 = .ok (.aload_n 0, 1) := by decide +kernel
theorem dX7_pass_32 : decode (mC Y_X7_pass) 32 = .ok (.getfield 112, 3) := by decide +kernel
theorem dX7_pass_35 : decode (mC Y_X7_pass) 35 = .ok (.istore_n 2, 1) := by decide +kernel
theorem dX7_pass_36 : decode (mC Y_X7_pass) 36 = .ok (.aload_n 0, 1) := by decide +kernel
theorem dX7_pass_37 : decode (mC Y_X7_pass) 37 = .ok (.iload_n 1, 1) := by decide +kernel
theorem dX7_pass_38 : decode (mC Y_X7_pass) 38 = .ok (.invokevirtual 166, 3) := by decide +kernel
theorem dX7_pass_41 : decode (mC Y_X7_pass) 41 = .ok (.aload_n 0, 1) := by decide +kernel
theorem dX7_pass_42 : decode (mC Y_X7_pass) 42 = .ok (.getfield 112, 3) := by decide +kernel
theorem dX7_pass_45 : decode (mC Y_X7_pass) 45 = .ok (.iload_n 2, 1) := by decide +kernel
theorem dX7_pass_46 : decode (mC Y_X7_pass) 46 = .ok (.isub, 1) := by decide +kernel
theorem dX7_pass_47 : decode (mC Y_X7_pass) 47 = .ok (.ireturn, 1) := by decide +kernel
theorem dX7_weaves_0 : decode (mC Y_X7_weaves) 0 = .ok (.aload_n 0, 1) := by decide +kernel
theorem dX7_weaves_1 : decode (mC Y_X7_weaves) 1 = .ok (.getfield 13, 3) := by decide +kernel
theorem dX7_weaves_4 : decode (mC Y_X7_weaves) 4 = .ok (.iload_n 1, 1) := by decide +kernel
theorem dX7_weaves_5 : decode (mC Y_X7_weaves) 5 = .ok (.iload_n 2, 1) := by decide +kernel
theorem dX7_weaves_6 : decode (mC Y_X7_weaves) 6 = .ok (.iastore, 1) := by decide +kernel
theorem dX7_weaves_7 : decode (mC Y_X7_weaves) 7 = .ok (.aload_n 0, 1) := by decide +kernel
theorem dX7_weaves_8 : decode (mC Y_X7_weaves) 8 = .ok (.getfield 16, 3) := by decide +kernel
theorem dX7_weaves_11 : decode (mC Y_X7_weaves) 11 = .ok (.iload_n 1, 1) := by decide +kernel
theorem dX7_weaves_12 : decode (mC Y_X7_weaves) 12 = .ok (.iload_n 3, 1) := by decide +kernel
theorem dX7_weaves_13 : decode (mC Y_X7_weaves) 13 = .ok (.iastore, 1) := by decide +kernel
theorem dX7_weaves_14 : decode (mC Y_X7_weaves) 14 = .ok (.return_, 1) := by decide +kernel
theorem dX7_bits_0 : decode (mC Y_X7_bits) 0 = .ok (.iconst 0, 1) := by decide +kernel
theorem dX7_bits_1 : decode (mC Y_X7_bits) 1 = .ok (.istore_n 1, 1) := by decide +kernel
theorem dX7_bits_2 : decode (mC Y_X7_bits) 2 = .ok (.iconst 0, 1) := by decide +kernel
theorem dX7_bits_3 : decode (mC Y_X7_bits) 3 = .ok (.istore_n 2, 1) := by decide +kernel
theorem dX7_bits_4 : decode (mC Y_X7_bits) 4 = .ok (.iload_n 2, 1) := by decide +kernel
theorem dX7_bits_5 : decode (mC Y_X7_bits) 5 = .ok (.bipush 12, 2) := by decide +kernel
theorem dX7_bits_7 : decode (mC Y_X7_bits) 7 = .ok (.if_icmp .ge 17, 3) := by decide +kernel
theorem dX7_bits_10 : decode (mC Y_X7_bits) 10 = .ok (.iload_n 1, 1) := by decide +kernel
theorem dX7_bits_11 : decode (mC Y_X7_bits) 11 = .ok (.iload_n 0, 1) := by decide +kernel
theorem dX7_bits_12 : decode (mC Y_X7_bits) 12 = .ok (.iload_n 2, 1) := by decide +kernel
theorem dX7_bits_13 : decode (mC Y_X7_bits) 13 = .ok (.ishr, 1) := by decide +kernel
theorem dX7_bits_14 : decode (mC Y_X7_bits) 14 = .ok (.iconst 1, 1) := by decide +kernel
theorem dX7_bits_15 : decode (mC Y_X7_bits) 15 = .ok (.iand, 1) := by decide +kernel
theorem dX7_bits_16 : decode (mC Y_X7_bits) 16 = .ok (.iadd, 1) := by decide +kernel
theorem dX7_bits_17 : decode (mC Y_X7_bits) 17 = .ok (.istore_n 1, 1) := by decide +kernel
theorem dX7_bits_18 : decode (mC Y_X7_bits) 18 = .ok (.iinc 2 1, 3) := by decide +kernel
theorem dX7_bits_21 : decode (mC Y_X7_bits) 21 = .ok (.goto (-17), 3) := by decide +kernel
theorem dX7_bits_24 : decode (mC Y_X7_bits) 24 = .ok (.iload_n 1, 1) := by decide +kernel
theorem dX7_bits_25 : decode (mC Y_X7_bits) 25 = .ok (.ireturn, 1) := by decide +kernel
theorem dX7_weave_0 : decode (mC Y_X7_weave) 0 = .ok (.aload_n 0, 1) := by decide +kernel
theorem dX7_weave_1 : decode (mC Y_X7_weave) 1 = .ok (.iload_n 1, 1) := by decide +kernel
theorem dX7_weave_2 : decode (mC Y_X7_weave) 2 = .ok (.invokevirtual 146, 3) := by decide +kernel
theorem dX7_weave_5 : decode (mC Y_X7_weave) 5 = .ok (.ifCond .eq 20, 3) := by decide +kernel
theorem dX7_weave_8 : decode (mC Y_X7_weave) 8 = .ok (.iload_n 2, 1) := by decide +kernel
theorem dX7_weave_9 : decode (mC Y_X7_weave) 9 = .ok (.invokestatic 153, 3) := by decide +kernel
theorem dX7_weave_12 : decode (mC Y_X7_weave) 12 = .ok (.ifCond .eq 13, 3) := by decide +kernel
theorem dX7_weave_15 : decode (mC Y_X7_weave) 15 = .ok (.iload_n 3, 1) := by decide +kernel
theorem dX7_weave_16 : decode (mC Y_X7_weave) 16 = .ok (.iconst 1, 1) := by decide +kernel
theorem dX7_weave_17 : decode (mC Y_X7_weave) 17 = .ok (.bipush 9, 2) := by decide +kernel
theorem dX7_weave_19 : decode (mC Y_X7_weave) 19 = .ok (.invokestatic 72, 3) := by decide +kernel
theorem dX7_weave_22 : decode (mC Y_X7_weave) 22 = .ok (.ifCond .ne 5, 3) := by decide +kernel
theorem dX7_weave_25 : decode (mC Y_X7_weave) 25 = .ok (.iconst (-1), 1) := by decide +kernel
theorem dX7_weave_26 : decode (mC Y_X7_weave) 26 = .ok (.ireturn, 1) := by decide +kernel
theorem dX7_weave_27 : decode (mC Y_X7_weave) 27 = .ok (.aload_n 0, 1) := by decide +kernel
theorem dX7_weave_28 : decode (mC Y_X7_weave) 28 = .ok (.getfield 13, 3) := by decide +kernel
theorem dX7_weave_31 : decode (mC Y_X7_weave) 31 = .ok (.iload_n 1, 1) := by decide +kernel
theorem dX7_weave_32 : decode (mC Y_X7_weave) 32 = .ok (.iaload, 1) := by decide +kernel
theorem dX7_weave_33 : decode (mC Y_X7_weave) 33 = .ok (.iload_n 2, 1) := by decide +kernel
theorem dX7_weave_34 : decode (mC Y_X7_weave) 34 = .ok (.if_icmp .ne 16, 3) := by decide +kernel
theorem dX7_weave_37 : decode (mC Y_X7_weave) 37 = .ok (.aload_n 0, 1) := by decide +kernel
theorem dX7_weave_38 : decode (mC Y_X7_weave) 38 = .ok (.getfield 16, 3) := by decide +kernel
theorem dX7_weave_41 : decode (mC Y_X7_weave) 41 = .ok (.iload_n 1, 1) := by decide +kernel
theorem dX7_weave_42 : decode (mC Y_X7_weave) 42 = .ok (.iaload, 1) := by decide +kernel
theorem dX7_weave_43 : decode (mC Y_X7_weave) 43 = .ok (.iload_n 3, 1) := by decide +kernel
theorem dX7_weave_44 : decode (mC Y_X7_weave) 44 = .ok (.if_icmp .ne 6, 3) := by decide +kernel
theorem dX7_weave_47 : decode (mC Y_X7_weave) 47 = .ok (.bipush (-2), 2) := by decide +kernel
theorem dX7_weave_49 : decode (mC Y_X7_weave) 49 = .ok (.ireturn, 1) := by decide +kernel
theorem dX7_weave_50 : decode (mC Y_X7_weave) 50 = .ok (.aload_n 0, 1) := by decide +kernel
theorem dX7_weave_51 : decode (mC Y_X7_weave) 51 = .ok (.invokevirtual 163, 3) := by decide +kernel
theorem dX7_weave_54 : decode (mC Y_X7_weave) 54 = .ok (.aload_n 0, 1) := by decide +kernel
theorem dX7_weave_55 : decode (mC Y_X7_weave) 55 = .ok (.iload_n 1, 1) := by decide +kernel
theorem dX7_weave_56 : decode (mC Y_X7_weave) 56 = .ok (.iload_n 2, 1) := by decide +kernel
theorem dX7_weave_57 : decode (mC Y_X7_weave) 57 = .ok (.iload_n 3, 1) := by decide +kernel
theorem dX7_weave_58 : decode (mC Y_X7_weave) 58 = .ok (.invokevirtual 170, 3) := by decide +kernel
theorem dX7_weave_61 : decode (mC Y_X7_weave) 61 = .ok (.aload_n 0, 1) := by decide +kernel
theorem dX7_weave_62 : decode (mC Y_X7_weave) 62 = .ok (.iload_n 2, 1) := by decide +kernel
theorem dX7_weave_63 : decode (mC Y_X7_weave) 63 = .ok (.invokevirtual 156, 3) := by decide +kernel
theorem dX7_weave_66 : decode (mC Y_X7_weave) 66 = .ok (.invokestatic 174, 3) := by decide +kernel
theorem dX7_weave_69 : decode (mC Y_X7_weave) 69 = .ok (.ireturn, 1) := by decide +kernel
theorem dX7_off_0 : decode (mC Y_X7_off) 0 = .ok (.aload_n 0, 1) := by decide +kernel
theorem dX7_off_1 : decode (mC Y_X7_off) 1 = .ok (.iload_n 1, 1) := by decide +kernel
theorem dX7_off_2 : decode (mC Y_X7_off) 2 = .ok (.invokevirtual 146, 3) := by decide +kernel
theorem dX7_off_5 : decode (mC Y_X7_off) 5 = .ok (.ifCond .ne 5, 3) := by decide +kernel
theorem dX7_off_8 : decode (mC Y_X7_off) 8 = .ok (.iconst (-1), 1) := by decide +kernel
theorem dX7_off_9 : decode (mC Y_X7_off) 9 = .ok (.ireturn, 1) := by decide +kernel
theorem dX7_off_10 : decode (mC Y_X7_off) 10 = .ok (.aload_n 0, 1) := by decide +kernel
theorem dX7_off_11 : decode (mC Y_X7_off) 11 = .ok (.getfield 13, 3) := by decide +kernel
theorem dX7_off_14 : decode (mC Y_X7_off) 14 = .ok (.iload_n 1, 1) := by decide +kernel
theorem dX7_off_15 : decode (mC Y_X7_off) 15 = .ok (.iaload, 1) := by decide +kernel
theorem dX7_off_16 : decode (mC Y_X7_off) 16 = .ok (.bipush (-4), 2) := by decide +kernel
theorem dX7_off_18 : decode (mC Y_X7_off) 18 = .ok (.if_icmp .ne 6, 3) := by decide +kernel
theorem dX7_off_21 : decode (mC Y_X7_off) 21 = .ok (.bipush (-2), 2) := by decide +kernel
theorem dX7_off_23 : decode (mC Y_X7_off) 23 = .ok (.ireturn, 1) := by decide +kernel
theorem dX7_off_24 : decode (mC Y_X7_off) 24 = .ok (.aload_n 0, 1) := by decide +kernel
theorem dX7_off_25 : decode (mC Y_X7_off) 25 = .ok (.invokevirtual 163, 3) := by decide +kernel
theorem dX7_off_28 : decode (mC Y_X7_off) 28 = .ok (.aload_n 0, 1) := by decide +kernel
theorem dX7_off_29 : decode (mC Y_X7_off) 29 = .ok (.getfield 13, 3) := by decide +kernel
theorem dX7_off_32 : decode (mC Y_X7_off) 32 = .ok (.iload_n 1, 1) := by decide +kernel
theorem dX7_off_33 : decode (mC Y_X7_off) 33 = .ok (.iaload, 1) := by decide +kernel
theorem dX7_off_34 : decode (mC Y_X7_off) 34 = .ok (.istore_n 2, 1) := by decide +kernel
theorem dX7_off_35 : decode (mC Y_X7_off) 35 = .ok (.aload_n 0, 1) := by decide +kernel
theorem dX7_off_36 : decode (mC Y_X7_off) 36 = .ok (.iload_n 1, 1) := by decide +kernel
theorem dX7_off_37 : decode (mC Y_X7_off) 37 = .ok (.bipush (-4), 2) := by decide +kernel
theorem dX7_off_39 : decode (mC Y_X7_off) 39 = .ok (.bipush (-4), 2) := by decide +kernel
theorem dX7_off_41 : decode (mC Y_X7_off) 41 = .ok (.invokevirtual 170, 3) := by decide +kernel
theorem dX7_off_44 : decode (mC Y_X7_off) 44 = .ok (.iload_n 2, 1) := by decide +kernel
theorem dX7_off_45 : decode (mC Y_X7_off) 45 = .ok (.ireturn, 1) := by decide +kernel
theorem dX7_pace_0 : decode (mC Y_X7_pace) 0 = .ok (.aload_n 0, 1) := by decide +kernel
theorem dX7_pace_1 : decode (mC Y_X7_pace) 1 = .ok (.iload_n 1, 1) := by decide +kernel
theorem dX7_pace_2 : decode (mC Y_X7_pace) 2 = .ok (.invokevirtual 146, 3) := by decide +kernel
theorem dX7_pace_5 : decode (mC Y_X7_pace) 5 = .ok (.ifCond .eq 13, 3) := by decide +kernel
theorem dX7_pace_8 : decode (mC Y_X7_pace) 8 = .ok (.iload_n 2, 1) := by decide +kernel
theorem dX7_pace_9 : decode (mC Y_X7_pace) 9 = .ok (.iconst 0, 1) := by decide +kernel
theorem dX7_pace_10 : decode (mC Y_X7_pace) 10 = .ok (.bipush 11, 2) := by decide +kernel
theorem dX7_pace_12 : decode (mC Y_X7_pace) 12 = .ok (.invokestatic 72, 3) := by decide +kernel
theorem dX7_pace_15 : decode (mC Y_X7_pace) 15 = .ok (.ifCond .ne 5, 3) := by decide +kernel
theorem dX7_pace_18 : decode (mC Y_X7_pace) 18 = .ok (.iconst (-1), 1) := by decide +kernel
theorem dX7_pace_19 : decode (mC Y_X7_pace) 19 = .ok (.ireturn, 1) := by decide +kernel
theorem dX7_pace_20 : decode (mC Y_X7_pace) 20 = .ok (.aload_n 0, 1) := by decide +kernel
theorem dX7_pace_21 : decode (mC Y_X7_pace) 21 = .ok (.getfield 22, 3) := by decide +kernel
theorem dX7_pace_24 : decode (mC Y_X7_pace) 24 = .ok (.iload_n 1, 1) := by decide +kernel
theorem dX7_pace_25 : decode (mC Y_X7_pace) 25 = .ok (.iaload, 1) := by decide +kernel
theorem dX7_pace_26 : decode (mC Y_X7_pace) 26 = .ok (.istore_n 3, 1) := by decide +kernel
theorem dX7_pace_27 : decode (mC Y_X7_pace) 27 = .ok (.iload_n 3, 1) := by decide +kernel
theorem dX7_pace_28 : decode (mC Y_X7_pace) 28 = .ok (.iload_n 2, 1) := by decide +kernel
theorem dX7_pace_29 : decode (mC Y_X7_pace) 29 = .ok (.if_icmp .ne 6, 3) := by decide +kernel
theorem dX7_pace_32 : decode (mC Y_X7_pace) 32 = .ok (.bipush (-2), 2) := by decide +kernel
theorem dX7_pace_34 : decode (mC Y_X7_pace) 34 = .ok (.ireturn, 1) := by decide +kernel
theorem dX7_pace_35 : decode (mC Y_X7_pace) 35 = .ok (.aload_n 0, 1) := by decide +kernel
theorem dX7_pace_36 : decode (mC Y_X7_pace) 36 = .ok (.invokevirtual 163, 3) := by decide +kernel
theorem dX7_pace_39 : decode (mC Y_X7_pace) 39 = .ok (.aload_n 0, 1) := by decide +kernel
theorem dX7_pace_40 : decode (mC Y_X7_pace) 40 = .ok (.getfield 22, 3) := by decide +kernel
theorem dX7_pace_43 : decode (mC Y_X7_pace) 43 = .ok (.iload_n 1, 1) := by decide +kernel
theorem dX7_pace_44 : decode (mC Y_X7_pace) 44 = .ok (.iload_n 2, 1) := by decide +kernel
theorem dX7_pace_45 : decode (mC Y_X7_pace) 45 = .ok (.iastore, 1) := by decide +kernel
theorem dX7_pace_46 : decode (mC Y_X7_pace) 46 = .ok (.iload_n 3, 1) := by decide +kernel
theorem dX7_pace_47 : decode (mC Y_X7_pace) 47 = .ok (.ireturn, 1) := by decide +kernel
theorem dX7_takes_0 : decode (mC Y_X7_takes) 0 = .ok (.aload_n 0, 1) := by decide +kernel
theorem dX7_takes_1 : decode (mC Y_X7_takes) 1 = .ok (.aload_n 1, 1) := by decide +kernel
theorem dX7_takes_2 : decode (mC Y_X7_takes) 2 = .ok (.iload_n 2, 1) := by decide +kernel
theorem dX7_takes_3 : decode (mC Y_X7_takes) 3 = .ok (.iaload, 1) := by decide +kernel
theorem dX7_takes_4 : decode (mC Y_X7_takes) 4 = .ok (.putfield 109, 3) := by decide +kernel
theorem dX7_takes_7 : decode (mC Y_X7_takes) 7 = .ok (.aload_n 0, 1) := by decide +kernel
theorem dX7_takes_8 : decode (mC Y_X7_takes) 8 = .ok (.aload_n 1, 1) := by decide +kernel
theorem dX7_takes_9 : decode (mC Y_X7_takes) 9 = .ok (.iload_n 2, 1) := by decide +kernel
theorem dX7_takes_10 : decode (mC Y_X7_takes) 10 = .ok (.iconst 1, 1) := by decide +kernel
theorem dX7_takes_11 : decode (mC Y_X7_takes) 11 = .ok (.iadd, 1) := by decide +kernel
theorem dX7_takes_12 : decode (mC Y_X7_takes) 12 = .ok (.iaload, 1) := by decide +kernel
theorem dX7_takes_13 : decode (mC Y_X7_takes) 13 = .ok (.putfield 112, 3) := by decide +kernel
theorem dX7_takes_16 : decode (mC Y_X7_takes) 16 = .ok (.iconst 0, 1) := by decide +kernel
theorem dX7_takes_17 : decode (mC Y_X7_takes) 17 = .ok (.istore_n 3, 1) := by decide +kernel
theorem dX7_takes_18 : decode (mC Y_X7_takes) 18 = .ok (.iload_n 3, 1) := by decide +kernel
theorem dX7_takes_19 : decode (mC Y_X7_takes) 19 = .ok (.bipush 7, 2) := by decide +kernel
theorem dX7_takes_21 : decode (mC Y_X7_takes) 21 = .ok (.if_icmp .ge 64, 3) := by decide +kernel
theorem dX7_takes_24 : decode (mC Y_X7_takes) 24 = .ok (.aload_n 0, 1) := by decide +kernel
theorem dX7_takes_25 : decode (mC Y_X7_takes) 25 = .ok (.getfield 13, 3) := by decide +kernel
theorem dX7_takes_28 : decode (mC Y_X7_takes) 28 = .ok (.iload_n 3, 1) := by decide +kernel
theorem dX7_takes_29 : decode (mC Y_X7_takes) 29 = .ok (.aload_n 1, 1) := by decide +kernel
theorem dX7_takes_30 : decode (mC Y_X7_takes) 30 = .ok (.iload_n 2, 1) := by decide +kernel
theorem dX7_takes_31 : decode (mC Y_X7_takes) 31 = .ok (.iconst 2, 1) := by decide +kernel
theorem dX7_takes_32 : decode (mC Y_X7_takes) 32 = .ok (.iadd, 1) := by decide +kernel
theorem dX7_takes_33 : decode (mC Y_X7_takes) 33 = .ok (.iload_n 3, 1) := by decide +kernel
theorem dX7_takes_34 : decode (mC Y_X7_takes) 34 = .ok (.iadd, 1) := by decide +kernel
theorem dX7_takes_35 : decode (mC Y_X7_takes) 35 = .ok (.iaload, 1) := by decide +kernel
theorem dX7_takes_36 : decode (mC Y_X7_takes) 36 = .ok (.iastore, 1) := by decide +kernel
theorem dX7_takes_37 : decode (mC Y_X7_takes) 37 = .ok (.aload_n 0, 1) := by decide +kernel
theorem dX7_takes_38 : decode (mC Y_X7_takes) 38 = .ok (.getfield 16, 3) := by decide +kernel
theorem dX7_takes_41 : decode (mC Y_X7_takes) 41 = .ok (.iload_n 3, 1) := by decide +kernel
theorem dX7_takes_42 : decode (mC Y_X7_takes) 42 = .ok (.aload_n 1, 1) := by decide +kernel
theorem dX7_takes_43 : decode (mC Y_X7_takes) 43 = .ok (.iload_n 2, 1) := by decide +kernel
theorem dX7_takes_44 : decode (mC Y_X7_takes) 44 = .ok (.bipush 9, 2) := by decide +kernel
theorem dX7_takes_46 : decode (mC Y_X7_takes) 46 = .ok (.iadd, 1) := by decide +kernel
theorem dX7_takes_47 : decode (mC Y_X7_takes) 47 = .ok (.iload_n 3, 1) := by decide +kernel
theorem dX7_takes_48 : decode (mC Y_X7_takes) 48 = .ok (.iadd, 1) := by decide +kernel
theorem dX7_takes_49 : decode (mC Y_X7_takes) 49 = .ok (.iaload, 1) := by decide +kernel
theorem dX7_takes_50 : decode (mC Y_X7_takes) 50 = .ok (.iastore, 1) := by decide +kernel
theorem dX7_takes_51 : decode (mC Y_X7_takes) 51 = .ok (.aload_n 0, 1) := by decide +kernel
theorem dX7_takes_52 : decode (mC Y_X7_takes) 52 = .ok (.getfield 19, 3) := by decide +kernel
theorem dX7_takes_55 : decode (mC Y_X7_takes) 55 = .ok (.iload_n 3, 1) := by decide +kernel
theorem dX7_takes_56 : decode (mC Y_X7_takes) 56 = .ok (.aload_n 1, 1) := by decide +kernel
theorem dX7_takes_57 : decode (mC Y_X7_takes) 57 = .ok (.iload_n 2, 1) := by decide +kernel
theorem dX7_takes_58 : decode (mC Y_X7_takes) 58 = .ok (.bipush 16, 2) := by decide +kernel
theorem dX7_takes_60 : decode (mC Y_X7_takes) 60 = .ok (.iadd, 1) := by decide +kernel
theorem dX7_takes_61 : decode (mC Y_X7_takes) 61 = .ok (.iload_n 3, 1) := by decide +kernel
theorem dX7_takes_62 : decode (mC Y_X7_takes) 62 = .ok (.iadd, 1) := by decide +kernel
theorem dX7_takes_63 : decode (mC Y_X7_takes) 63 = .ok (.iaload, 1) := by decide +kernel
theorem dX7_takes_64 : decode (mC Y_X7_takes) 64 = .ok (.iastore, 1) := by decide +kernel
theorem dX7_takes_65 : decode (mC Y_X7_takes) 65 = .ok (.aload_n 0, 1) := by decide +kernel
theorem dX7_takes_66 : decode (mC Y_X7_takes) 66 = .ok (.getfield 22, 3) := by decide +kernel
theorem dX7_takes_69 : decode (mC Y_X7_takes) 69 = .ok (.iload_n 3, 1) := by decide +kernel
theorem dX7_takes_70 : decode (mC Y_X7_takes) 70 = .ok (.aload_n 1, 1) := by decide +kernel
theorem dX7_takes_71 : decode (mC Y_X7_takes) 71 = .ok (.iload_n 2, 1) := by decide +kernel
theorem dX7_takes_72 : decode (mC Y_X7_takes) 72 = .ok (.bipush 23, 2) := by decide +kernel
theorem dX7_takes_74 : decode (mC Y_X7_takes) 74 = .ok (.iadd, 1) := by decide +kernel
theorem dX7_takes_75 : decode (mC Y_X7_takes) 75 = .ok (.iload_n 3, 1) := by decide +kernel
theorem dX7_takes_76 : decode (mC Y_X7_takes) 76 = .ok (.iadd, 1) := by decide +kernel
theorem dX7_takes_77 : decode (mC Y_X7_takes) 77 = .ok (.iaload, 1) := by decide +kernel
theorem dX7_takes_78 : decode (mC Y_X7_takes) 78 = .ok (.iastore, 1) := by decide +kernel
theorem dX7_takes_79 : decode (mC Y_X7_takes) 79 = .ok (.iinc 3 1, 3) := by decide +kernel
theorem dX7_takes_82 : decode (mC Y_X7_takes) 82 = .ok (.goto (-64), 3) := by decide +kernel
theorem dX7_takes_85 : decode (mC Y_X7_takes) 85 = .ok (.return_, 1) := by decide +kernel
theorem dX7_undo_0 : decode (mC Y_X7_undo) 0 = .ok (.aload_n 0, 1) := by decide +kernel
theorem dX7_undo_1 : decode (mC Y_X7_undo) 1 = .ok (.getfield 121, 3) := by decide +kernel
theorem dX7_undo_4 : decode (mC Y_X7_undo) 4 = .ok (.ifCond .ne 6, 3) := by decide +kernel
theorem dX7_undo_7 : decode (mC Y_X7_undo) 7 = .ok (.bipush (-2), 2) := by decide +kernel
theorem dX7_undo_9 : decode (mC Y_X7_undo) 9 = .ok (.ireturn, 1) := by decide +kernel
theorem dX7_undo_10 : decode (mC Y_X7_undo) 10 = .ok (.aload_n 0, 1) := by decide +kernel
theorem dX7_undo_11 : decode (mC Y_X7_undo) 11 = .ok (.dup, 1) := by decide +kernel
theorem dX7_undo_12 : decode (mC Y_X7_undo) 12 = .ok (.getfield 121, 3) := by decide +kernel
theorem dX7_undo_15 : decode (mC Y_X7_undo) 15 = .ok (.iconst 1, 1) := by decide +kernel
theorem dX7_undo_16 : decode (mC Y_X7_undo) 16 = .ok (.isub, 1) := by decide +kernel
theorem dX7_undo_17 : decode (mC Y_X7_undo) 17 = .ok (.putfield 121, 3) := by decide +kernel
theorem dX7_undo_20 : decode (mC Y_X7_undo) 20 = .ok (.aload_n 0, 1) := by decide +kernel
theorem dX7_undo_21 : decode (mC Y_X7_undo) 21 = .ok (.aload_n 0, 1) := by decide +kernel
theorem dX7_undo_22 : decode (mC Y_X7_undo) 22 = .ok (.getfield 46, 3) := by decide +kernel
theorem dX7_undo_25 : decode (mC Y_X7_undo) 25 = .ok (.bipush 30, 2) := by decide +kernel
theorem dX7_undo_27 : decode (mC Y_X7_undo) 27 = .ok (.aload_n 0, 1) := by decide +kernel
theorem dX7_undo_28 : decode (mC Y_X7_undo) 28 = .ok (.getfield 121, 3) := by decide +kernel
theorem dX7_undo_31 : decode (mC Y_X7_undo) 31 = .ok (.imul, 1) := by decide +kernel
theorem dX7_undo_32 : decode (mC Y_X7_undo) 32 = .ok (.invokevirtual 177, 3) := by decide +kernel
theorem dX7_undo_35 : decode (mC Y_X7_undo) 35 = .ok (.aload_n 0, 1) := by decide +kernel
theorem dX7_undo_36 : decode (mC Y_X7_undo) 36 = .ok (.getfield 121, 3) := by decide +kernel
theorem dX7_undo_39 : decode (mC Y_X7_undo) 39 = .ok (.ireturn, 1) := by decide +kernel
theorem dX7_yardBehind_0 : decode (mC Y_X7_yardBehind) 0 = .ok (.aload_n 0, 1) := by decide +kernel
theorem dX7_yardBehind_1 : decode (mC Y_X7_yardBehind) 1 = .ok (.getfield 13, 3) := by decide +kernel
theorem dX7_yardBehind_4 : decode (mC Y_X7_yardBehind) 4 = .ok (.iload_n 1, 1) := by decide +kernel
theorem dX7_yardBehind_5 : decode (mC Y_X7_yardBehind) 5 = .ok (.iaload, 1) := by decide +kernel
theorem dX7_yardBehind_6 : decode (mC Y_X7_yardBehind) 6 = .ok (.bipush (-4), 2) := by decide +kernel
theorem dX7_yardBehind_8 : decode (mC Y_X7_yardBehind) 8 = .ok (.if_icmp .ne 10, 3) := by decide +kernel
theorem dX7_yardBehind_11 : decode (mC Y_X7_yardBehind) 11 = .ok (.aload_n 0, 1) := by decide +kernel
theorem dX7_yardBehind_12 : decode (mC Y_X7_yardBehind) 12 = .ok (.getfield 19, 3) := by decide +kernel
theorem dX7_yardBehind_15 : decode (mC Y_X7_yardBehind) 15 = .ok (.iload_n 1, 1) := by decide +kernel
theorem dX7_yardBehind_16 : decode (mC Y_X7_yardBehind) 16 = .ok (.iaload, 1) := by decide +kernel
theorem dX7_yardBehind_17 : decode (mC Y_X7_yardBehind) 17 = .ok (.ireturn, 1) := by decide +kernel
theorem dX7_yardBehind_18 : decode (mC Y_X7_yardBehind) 18 = .ok (.aload_n 0, 1) := by decide +kernel
theorem dX7_yardBehind_19 : decode (mC Y_X7_yardBehind) 19 = .ok (.getfield 19, 3) := by decide +kernel
theorem dX7_yardBehind_22 : decode (mC Y_X7_yardBehind) 22 = .ok (.iload_n 1, 1) := by decide +kernel
theorem dX7_yardBehind_23 : decode (mC Y_X7_yardBehind) 23 = .ok (.iaload, 1) := by decide +kernel
theorem dX7_yardBehind_24 : decode (mC Y_X7_yardBehind) 24 = .ok (.istore_n 3, 1) := by decide +kernel
theorem dX7_yardBehind_25 : decode (mC Y_X7_yardBehind) 25 = .ok (.iconst 0, 1) := by decide +kernel
theorem dX7_yardBehind_26 : decode (mC Y_X7_yardBehind) 26 = .ok (.istore 4, 2) := by decide +kernel
theorem dX7_yardBehind_28 : decode (mC Y_X7_yardBehind) 28 = .ok (.iload 4, 2) := by decide +kernel
theorem dX7_yardBehind_30 : decode (mC Y_X7_yardBehind) 30 = .ok (.iload_n 2, 1) := by decide +kernel
theorem dX7_yardBehind_31 : decode (mC Y_X7_yardBehind) 31 = .ok (.if_icmp .ge 37, 3) := by decide +kernel
theorem dX7_yardBehind_34 : decode (mC Y_X7_yardBehind) 34 = .ok (.iload_n 3, 1) := by decide +kernel
theorem dX7_yardBehind_35 : decode (mC Y_X7_yardBehind) 35 = .ok (.aload_n 0, 1) := by decide +kernel
theorem dX7_yardBehind_36 : decode (mC Y_X7_yardBehind) 36 = .ok (.getfield 9, 3) := by decide +kernel
theorem dX7_yardBehind_39 : decode (mC Y_X7_yardBehind) 39 = .ok (.iload_n 1, 1) := by decide +kernel
theorem dX7_yardBehind_40 : decode (mC Y_X7_yardBehind) 40 = .ok (.iaload, 1) := by decide +kernel
theorem dX7_yardBehind_41 : decode (mC Y_X7_yardBehind) 41 = .ok (.aload_n 0, 1) := by decide +kernel
theorem dX7_yardBehind_42 : decode (mC Y_X7_yardBehind) 42 = .ok (.getfield 22, 3) := by decide +kernel
theorem dX7_yardBehind_45 : decode (mC Y_X7_yardBehind) 45 = .ok (.iload_n 1, 1) := by decide +kernel
theorem dX7_yardBehind_46 : decode (mC Y_X7_yardBehind) 46 = .ok (.iaload, 1) := by decide +kernel
theorem dX7_yardBehind_47 : decode (mC Y_X7_yardBehind) 47 = .ok (.aload_n 0, 1) := by decide +kernel
theorem dX7_yardBehind_48 : decode (mC Y_X7_yardBehind) 48 = .ok (.getfield 109, 3) := by decide +kernel
theorem dX7_yardBehind_51 : decode (mC Y_X7_yardBehind) 51 = .ok (.iload 4, 2) := by decide +kernel
theorem dX7_yardBehind_53 : decode (mC Y_X7_yardBehind) 53 = .ok (.iadd, 1) := by decide +kernel
theorem dX7_yardBehind_54 : decode (mC Y_X7_yardBehind) 54 = .ok (.invokestatic 127, 3) := by decide +kernel
theorem dX7_yardBehind_57 : decode (mC Y_X7_yardBehind) 57 = .ok (.iadd, 1) := by decide +kernel
theorem dX7_yardBehind_58 : decode (mC Y_X7_yardBehind) 58 = .ok (.bipush 12, 2) := by decide +kernel
theorem dX7_yardBehind_60 : decode (mC Y_X7_yardBehind) 60 = .ok (.irem, 1) := by decide +kernel
theorem dX7_yardBehind_61 : decode (mC Y_X7_yardBehind) 61 = .ok (.istore_n 3, 1) := by decide +kernel
theorem dX7_yardBehind_62 : decode (mC Y_X7_yardBehind) 62 = .ok (.iinc 4 1, 3) := by decide +kernel
theorem dX7_yardBehind_65 : decode (mC Y_X7_yardBehind) 65 = .ok (.goto (-37), 3) := by decide +kernel
theorem dX7_yardBehind_68 : decode (mC Y_X7_yardBehind) 68 = .ok (.iload_n 3, 1) := by decide +kernel
theorem dX7_yardBehind_69 : decode (mC Y_X7_yardBehind) 69 = .ok (.ireturn, 1) := by decide +kernel
theorem dX7_behind_0 : decode (mC Y_X7_behind) 0 = .ok (.iload_n 1, 1) := by decide +kernel
theorem dX7_behind_1 : decode (mC Y_X7_behind) 1 = .ok (.iconst 0, 1) := by decide +kernel
theorem dX7_behind_2 : decode (mC Y_X7_behind) 2 = .ok (.bipush 60, 2) := by decide +kernel
theorem dX7_behind_4 : decode (mC Y_X7_behind) 4 = .ok (.invokestatic 72, 3) := by decide +kernel
theorem dX7_behind_7 : decode (mC Y_X7_behind) 7 = .ok (.ifCond .eq 20, 3) := by decide +kernel
theorem dX7_behind_10 : decode (mC Y_X7_behind) 10 = .ok (.aload_n 0, 1) := by decide +kernel
theorem dX7_behind_11 : decode (mC Y_X7_behind) 11 = .ok (.iload_n 2, 1) := by decide +kernel
theorem dX7_behind_12 : decode (mC Y_X7_behind) 12 = .ok (.invokevirtual 146, 3) := by decide +kernel
theorem dX7_behind_15 : decode (mC Y_X7_behind) 15 = .ok (.ifCond .eq 12, 3) := by decide +kernel
theorem dX7_behind_18 : decode (mC Y_X7_behind) 18 = .ok (.aload_n 0, 1) := by decide +kernel
theorem dX7_behind_19 : decode (mC Y_X7_behind) 19 = .ok (.iload_n 2, 1) := by decide +kernel
theorem dX7_behind_20 : decode (mC Y_X7_behind) 20 = .ok (.iload_n 1, 1) := by decide +kernel
theorem dX7_behind_21 : decode (mC Y_X7_behind) 21 = .ok (.invokevirtual 180, 3) := by decide +kernel
theorem dX7_behind_24 : decode (mC Y_X7_behind) 24 = .ok (.goto 4, 3) := by decide +kernel
theorem dX7_behind_27 : decode (mC Y_X7_behind) 27 = .ok (.iconst (-1), 1) := by decide +kernel
theorem dX7_behind_28 : decode (mC Y_X7_behind) 28 = .ok (.ireturn, 1) := by decide +kernel
theorem dX7_isSame_0 : decode (mC Y_X7_isSame) 0 = .ok (.aload_n 0, 1) := by decide +kernel
theorem dX7_isSame_1 : decode (mC Y_X7_isSame) 1 = .ok (.getfield 13, 3) := by decide +kernel
theorem dX7_isSame_4 : decode (mC Y_X7_isSame) 4 = .ok (.iload_n 1, 1) := by decide +kernel
theorem dX7_isSame_5 : decode (mC Y_X7_isSame) 5 = .ok (.iaload, 1) := by decide +kernel
theorem dX7_isSame_6 : decode (mC Y_X7_isSame) 6 = .ok (.bipush (-4), 2) := by decide +kernel
theorem dX7_isSame_8 : decode (mC Y_X7_isSame) 8 = .ok (.if_icmp .eq 37, 3) := by decide +kernel
theorem dX7_isSame_11 : decode (mC Y_X7_isSame) 11 = .ok (.aload_n 0, 1) := by decide +kernel
theorem dX7_isSame_12 : decode (mC Y_X7_isSame) 12 = .ok (.getfield 13, 3) := by decide +kernel
theorem dX7_isSame_15 : decode (mC Y_X7_isSame) 15 = .ok (.iload_n 1, 1) := by decide +kernel
theorem dX7_isSame_16 : decode (mC Y_X7_isSame) 16 = .ok (.iaload, 1) := by decide +kernel
theorem dX7_isSame_17 : decode (mC Y_X7_isSame) 17 = .ok (.aload_n 0, 1) := by decide +kernel
theorem dX7_isSame_18 : decode (mC Y_X7_isSame) 18 = .ok (.getfield 13, 3) := by decide +kernel
theorem dX7_isSame_21 : decode (mC Y_X7_isSame) 21 = .ok (.iload_n 2, 1) := by decide +kernel
theorem dX7_isSame_22 : decode (mC Y_X7_isSame) 22 = .ok (.iaload, 1) := by decide +kernel
theorem dX7_isSame_23 : decode (mC Y_X7_isSame) 23 = .ok (.if_icmp .ne 22, 3) := by decide +kernel
theorem dX7_isSame_26 : decode (mC Y_X7_isSame) 26 = .ok (.aload_n 0, 1) := by decide +kernel
theorem dX7_isSame_27 : decode (mC Y_X7_isSame) 27 = .ok (.getfield 16, 3) := by decide +kernel
theorem dX7_isSame_30 : decode (mC Y_X7_isSame) 30 = .ok (.iload_n 1, 1) := by decide +kernel
theorem dX7_isSame_31 : decode (mC Y_X7_isSame) 31 = .ok (.iaload, 1) := by decide +kernel
theorem dX7_isSame_32 : decode (mC Y_X7_isSame) 32 = .ok (.aload_n 0, 1) := by decide +kernel
theorem dX7_isSame_33 : decode (mC Y_X7_isSame) 33 = .ok (.getfield 16, 3) := by decide +kernel
theorem dX7_isSame_36 : decode (mC Y_X7_isSame) 36 = .ok (.iload_n 2, 1) := by decide +kernel
theorem dX7_isSame_37 : decode (mC Y_X7_isSame) 37 = .ok (.iaload, 1) := by decide +kernel
theorem dX7_isSame_38 : decode (mC Y_X7_isSame) 38 = .ok (.if_icmp .ne 7, 3) := by decide +kernel
theorem dX7_isSame_41 : decode (mC Y_X7_isSame) 41 = .ok (.iconst 1, 1) := by decide +kernel
theorem dX7_isSame_42 : decode (mC Y_X7_isSame) 42 = .ok (.goto 4, 3) := by decide +kernel
theorem dX7_isSame_45 : decode (mC Y_X7_isSame) 45 = .ok (.iconst 0, 1) := by decide +kernel
theorem dX7_isSame_46 : decode (mC Y_X7_isSame) 46 = .ok (.ireturn, 1) := by decide +kernel
theorem dX7_first_0 : decode (mC Y_X7_first) 0 = .ok (.aload_n 0, 1) := by decide +kernel
theorem dX7_first_1 : decode (mC Y_X7_first) 1 = .ok (.iload_n 1, 1) := by decide +kernel
theorem dX7_first_2 : decode (mC Y_X7_first) 2 = .ok (.invokevirtual 146, 3) := by decide +kernel
theorem dX7_first_5 : decode (mC Y_X7_first) 5 = .ok (.ifCond .eq 16, 3) := by decide +kernel
theorem dX7_first_8 : decode (mC Y_X7_first) 8 = .ok (.aload_n 0, 1) := by decide +kernel
theorem dX7_first_9 : decode (mC Y_X7_first) 9 = .ok (.iload_n 2, 1) := by decide +kernel
theorem dX7_first_10 : decode (mC Y_X7_first) 10 = .ok (.invokevirtual 146, 3) := by decide +kernel
theorem dX7_first_13 : decode (mC Y_X7_first) 13 = .ok (.ifCond .eq 8, 3) := by decide +kernel
theorem dX7_first_16 : decode (mC Y_X7_first) 16 = .ok (.iload_n 1, 1) := by decide +kernel
theorem dX7_first_17 : decode (mC Y_X7_first) 17 = .ok (.iload_n 2, 1) := by decide +kernel
theorem dX7_first_18 : decode (mC Y_X7_first) 18 = .ok (.if_icmp .ne 5, 3) := by decide +kernel
theorem dX7_first_21 : decode (mC Y_X7_first) 21 = .ok (.iconst (-1), 1) := by decide +kernel
theorem dX7_first_22 : decode (mC Y_X7_first) 22 = .ok (.ireturn, 1) := by decide +kernel
theorem dX7_first_23 : decode (mC Y_X7_first) 23 = .ok (.iconst 0, 1) := by decide +kernel
theorem dX7_first_24 : decode (mC Y_X7_first) 24 = .ok (.istore_n 3, 1) := by decide +kernel
theorem dX7_first_25 : decode (mC Y_X7_first) 25 = .ok (.iload_n 3, 1) := by decide +kernel
theorem dX7_first_26 : decode (mC Y_X7_first) 26 = .ok (.bipush 60, 2) := by decide +kernel
theorem dX7_first_28 : decode (mC Y_X7_first) 28 = .ok (.if_icmp .gt 24, 3) := by decide +kernel
theorem dX7_first_31 : decode (mC Y_X7_first) 31 = .ok (.aload_n 0, 1) := by decide +kernel
theorem dX7_first_32 : decode (mC Y_X7_first) 32 = .ok (.iload_n 1, 1) := by decide +kernel
theorem dX7_first_33 : decode (mC Y_X7_first) 33 = .ok (.iload_n 3, 1) := by decide +kernel
theorem dX7_first_34 : decode (mC Y_X7_first) 34 = .ok (.invokevirtual 180, 3) := by decide +kernel
theorem dX7_first_37 : decode (mC Y_X7_first) 37 = .ok (.aload_n 0, 1) := by decide +kernel
theorem dX7_first_38 : decode (mC Y_X7_first) 38 = .ok (.iload_n 2, 1) := by decide +kernel
theorem dX7_first_39 : decode (mC Y_X7_first) 39 = .ok (.iload_n 3, 1) := by decide +kernel
theorem dX7_first_40 : decode (mC Y_X7_first) 40 = .ok (.invokevirtual 180, 3) := by decide +kernel
theorem dX7_first_43 : decode (mC Y_X7_first) 43 = .ok (.if_icmp .eq 9, 3) := by decide +kernel
theorem dX7_first_46 : decode (mC Y_X7_first) 46 = .ok (.iinc 3 1, 3) := by decide +kernel
theorem dX7_first_49 : decode (mC Y_X7_first) 49 = .ok (.goto (-24), 3) := by decide +kernel
theorem dX7_first_52 : decode (mC Y_X7_first) 52 = .ok (.aload_n 0, 1) := by decide +kernel
theorem dX7_first_53 : decode (mC Y_X7_first) 53 = .ok (.iload_n 1, 1) := by decide +kernel
theorem dX7_first_54 : decode (mC Y_X7_first) 54 = .ok (.iload_n 2, 1) := by decide +kernel
theorem dX7_first_55 : decode (mC Y_X7_first) 55 = .ok (.invokevirtual 183, 3) := by decide +kernel
theorem dX7_first_58 : decode (mC Y_X7_first) 58 = .ok (.ifCond .eq 13, 3) := by decide +kernel
theorem dX7_first_61 : decode (mC Y_X7_first) 61 = .ok (.iload_n 3, 1) := by decide +kernel
theorem dX7_first_62 : decode (mC Y_X7_first) 62 = .ok (.bipush 60, 2) := by decide +kernel
theorem dX7_first_64 : decode (mC Y_X7_first) 64 = .ok (.if_icmp .gt 7, 3) := by decide +kernel
theorem dX7_first_67 : decode (mC Y_X7_first) 67 = .ok (.iload_n 3, 1) := by decide +kernel
theorem dX7_first_68 : decode (mC Y_X7_first) 68 = .ok (.goto 5, 3) := by decide +kernel
theorem dX7_first_71 : decode (mC Y_X7_first) 71 = .ok (.bipush (-4), 2) := by decide +kernel
theorem dX7_first_73 : decode (mC Y_X7_first) 73 = .ok (.ireturn, 1) := by decide +kernel
theorem dX7_begin_0 : decode (mC Y_X7_begin) 0 = .ok (.aload_n 0, 1) := by decide +kernel
theorem dX7_begin_1 : decode (mC Y_X7_begin) 1 = .ok (.aload_n 0, 1) := by decide +kernel
theorem dX7_begin_2 : decode (mC Y_X7_begin) 2 = .ok (.getfield 49, 3) := by decide +kernel
theorem dX7_begin_5 : decode (mC Y_X7_begin) 5 = .ok (.iconst 0, 1) := by decide +kernel
theorem dX7_begin_6 : decode (mC Y_X7_begin) 6 = .ok (.invokevirtual 159, 3) := by decide +kernel
theorem dX7_begin_9 : decode (mC Y_X7_begin) 9 = .ok (.return_, 1) := by decide +kernel
theorem dX7_putBack_0 : decode (mC Y_X7_putBack) 0 = .ok (.aload_n 0, 1) := by decide +kernel
theorem dX7_putBack_1 : decode (mC Y_X7_putBack) 1 = .ok (.aload_n 0, 1) := by decide +kernel
theorem dX7_putBack_2 : decode (mC Y_X7_putBack) 2 = .ok (.getfield 49, 3) := by decide +kernel
theorem dX7_putBack_5 : decode (mC Y_X7_putBack) 5 = .ok (.iconst 0, 1) := by decide +kernel
theorem dX7_putBack_6 : decode (mC Y_X7_putBack) 6 = .ok (.invokevirtual 177, 3) := by decide +kernel
theorem dX7_putBack_9 : decode (mC Y_X7_putBack) 9 = .ok (.return_, 1) := by decide +kernel
theorem dX7_all_0 : decode (mC Y_X7_all) 0 = .ok (.iload_n 1, 1) := by decide +kernel
theorem dX7_all_1 : decode (mC Y_X7_all) 1 = .ok (.iconst 1, 1) := by decide +kernel
theorem dX7_all_2 : decode (mC Y_X7_all) 2 = .ok (.bipush 60, 2) := by decide +kernel
theorem dX7_all_4 : decode (mC Y_X7_all) 4 = .ok (.invokestatic 72, 3) := by decide +kernel
theorem dX7_all_7 : decode (mC Y_X7_all) 7 = .ok (.ifCond .ne 5, 3) := by decide +kernel
theorem dX7_all_10 : decode (mC Y_X7_all) 10 = .ok (.iconst (-1), 1) := by decide +kernel
theorem dX7_all_11 : decode (mC Y_X7_all) 11 = .ok (.ireturn, 1) := by decide +kernel
theorem dX7_all_12 : decode (mC Y_X7_all) 12 = .ok (.aload_n 0, 1) := by decide +kernel
theorem dX7_all_13 : decode (mC Y_X7_all) 13 = .ok (.invokevirtual 186, 3) := by decide +kernel
theorem dX7_all_16 : decode (mC Y_X7_all) 16 = .ok (.aload_n 0, 1) := by decide +kernel
theorem dX7_all_17 : decode (mC Y_X7_all) 17 = .ok (.getfield 112, 3) := by decide +kernel
theorem dX7_all_20 : decode (mC Y_X7_all) 20 = .ok (.istore_n 2, 1) := by decide +kernel
theorem dX7_all_21 : decode (mC Y_X7_all) 21 = .ok (.aload_n 0, 1) := by decide +kernel
theorem dX7_all_22 : decode (mC Y_X7_all) 22 = .ok (.iload_n 1, 1) := by decide +kernel
theorem dX7_all_23 : decode (mC Y_X7_all) 23 = .ok (.invokevirtual 166, 3) := by decide +kernel
theorem dX7_all_26 : decode (mC Y_X7_all) 26 = .ok (.aload_n 0, 1) := by decide +kernel
theorem dX7_all_27 : decode (mC Y_X7_all) 27 = .ok (.getfield 112, 3) := by decide +kernel
theorem dX7_all_30 : decode (mC Y_X7_all) 30 = .ok (.iload_n 2, 1) := by decide +kernel
theorem dX7_all_31 : decode (mC Y_X7_all) 31 = .ok (.isub, 1) := by decide +kernel
theorem dX7_all_32 : decode (mC Y_X7_all) 32 = .ok (.istore_n 3, 1) := by decide +kernel
theorem dX7_all_33 : decode (mC Y_X7_all) 33 = .ok (.aload_n 0, 1) := by decide +kernel
theorem dX7_all_34 : decode (mC Y_X7_all) 34 = .ok (.invokevirtual 189, 3) := by decide +kernel
theorem dX7_all_37 : decode (mC Y_X7_all) 37 = .ok (.iload_n 3, 1) := by decide +kernel
theorem dX7_all_38 : decode (mC Y_X7_all) 38 = .ok (.ireturn, 1) := by decide +kernel
theorem dX7_paces_0 : decode (mC Y_X7_paces) 0 = .ok (.aload_n 0, 1) := by decide +kernel
theorem dX7_paces_1 : decode (mC Y_X7_paces) 1 = .ok (.iload_n 1, 1) := by decide +kernel
theorem dX7_paces_2 : decode (mC Y_X7_paces) 2 = .ok (.invokevirtual 146, 3) := by decide +kernel
theorem dX7_paces_5 : decode (mC Y_X7_paces) 5 = .ok (.ifCond .eq 26, 3) := by decide +kernel
theorem dX7_paces_8 : decode (mC Y_X7_paces) 8 = .ok (.aload_n 0, 1) := by decide +kernel
theorem dX7_paces_9 : decode (mC Y_X7_paces) 9 = .ok (.iload_n 2, 1) := by decide +kernel
theorem dX7_paces_10 : decode (mC Y_X7_paces) 10 = .ok (.invokevirtual 146, 3) := by decide +kernel
theorem dX7_paces_13 : decode (mC Y_X7_paces) 13 = .ok (.ifCond .eq 18, 3) := by decide +kernel
theorem dX7_paces_16 : decode (mC Y_X7_paces) 16 = .ok (.iload_n 1, 1) := by decide +kernel
theorem dX7_paces_17 : decode (mC Y_X7_paces) 17 = .ok (.iload_n 2, 1) := by decide +kernel
theorem dX7_paces_18 : decode (mC Y_X7_paces) 18 = .ok (.if_icmp .eq 13, 3) := by decide +kernel
theorem dX7_paces_21 : decode (mC Y_X7_paces) 21 = .ok (.iload_n 3, 1) := by decide +kernel
theorem dX7_paces_22 : decode (mC Y_X7_paces) 22 = .ok (.iconst 1, 1) := by decide +kernel
theorem dX7_paces_23 : decode (mC Y_X7_paces) 23 = .ok (.bipush 24, 2) := by decide +kernel
theorem dX7_paces_25 : decode (mC Y_X7_paces) 25 = .ok (.invokestatic 72, 3) := by decide +kernel
theorem dX7_paces_28 : decode (mC Y_X7_paces) 28 = .ok (.ifCond .ne 5, 3) := by decide +kernel
theorem dX7_paces_31 : decode (mC Y_X7_paces) 31 = .ok (.iconst (-1), 1) := by decide +kernel
theorem dX7_paces_32 : decode (mC Y_X7_paces) 32 = .ok (.ireturn, 1) := by decide +kernel
theorem dX7_paces_33 : decode (mC Y_X7_paces) 33 = .ok (.aload_n 0, 1) := by decide +kernel
theorem dX7_paces_34 : decode (mC Y_X7_paces) 34 = .ok (.getfield 22, 3) := by decide +kernel
theorem dX7_paces_37 : decode (mC Y_X7_paces) 37 = .ok (.iload_n 1, 1) := by decide +kernel
theorem dX7_paces_38 : decode (mC Y_X7_paces) 38 = .ok (.iaload, 1) := by decide +kernel
theorem dX7_paces_39 : decode (mC Y_X7_paces) 39 = .ok (.istore 4, 2) := by decide +kernel
theorem dX7_paces_41 : decode (mC Y_X7_paces) 41 = .ok (.iconst 0, 1) := by decide +kernel
theorem dX7_paces_42 : decode (mC Y_X7_paces) 42 = .ok (.istore 5, 2) := by decide +kernel
theorem dX7_paces_44 : decode (mC Y_X7_paces) 44 = .ok (.iconst 0, 1) := by decide +kernel
theorem dX7_paces_45 : decode (mC Y_X7_paces) 45 = .ok (.istore 6, 2) := by decide +kernel
theorem dX7_paces_47 : decode (mC Y_X7_paces) 47 = .ok (.iload 6, 2) := by decide +kernel
theorem dX7_paces_49 : decode (mC Y_X7_paces) 49 = .ok (.bipush 12, 2) := by decide +kernel
theorem dX7_paces_51 : decode (mC Y_X7_paces) 51 = .ok (.if_icmp .ge 54, 3) := by decide +kernel
theorem dX7_paces_54 : decode (mC Y_X7_paces) 54 = .ok (.aload_n 0, 1) := by decide +kernel
theorem dX7_paces_55 : decode (mC Y_X7_paces) 55 = .ok (.getfield 22, 3) := by decide +kernel
theorem dX7_paces_58 : decode (mC Y_X7_paces) 58 = .ok (.iload_n 1, 1) := by decide +kernel
theorem dX7_paces_59 : decode (mC Y_X7_paces) 59 = .ok (.iload 6, 2) := by decide +kernel
theorem dX7_paces_61 : decode (mC Y_X7_paces) 61 = .ok (.iastore, 1) := by decide +kernel
theorem dX7_paces_62 : decode (mC Y_X7_paces) 62 = .ok (.iload 5, 2) := by decide +kernel
theorem dX7_paces_64 : decode (mC Y_X7_paces) 64 = .ok (.aload_n 0, 1) := by decide +kernel
theorem dX7_paces_65 : decode (mC Y_X7_paces) 65 = .ok (.iload_n 1, 1) := by decide +kernel
theorem dX7_paces_66 : decode (mC Y_X7_paces) 66 = .ok (.iload_n 2, 1) := by decide +kernel
theorem dX7_paces_67 : decode (mC Y_X7_paces) 67 = .ok (.invokevirtual 183, 3) := by decide +kernel
theorem dX7_paces_70 : decode (mC Y_X7_paces) 70 = .ok (.ifCond .eq 25, 3) := by decide +kernel
theorem dX7_paces_73 : decode (mC Y_X7_paces) 73 = .ok (.aload_n 0, 1) := by decide +kernel
theorem dX7_paces_74 : decode (mC Y_X7_paces) 74 = .ok (.iload_n 1, 1) := by decide +kernel
theorem dX7_paces_75 : decode (mC Y_X7_paces) 75 = .ok (.iload_n 3, 1) := by decide +kernel
theorem dX7_paces_76 : decode (mC Y_X7_paces) 76 = .ok (.invokevirtual 180, 3) := by decide +kernel
theorem dX7_paces_79 : decode (mC Y_X7_paces) 79 = .ok (.aload_n 0, 1) := by decide +kernel
theorem dX7_paces_80 : decode (mC Y_X7_paces) 80 = .ok (.iload_n 2, 1) := by decide +kernel
theorem dX7_paces_81 : decode (mC Y_X7_paces) 81 = .ok (.iload_n 3, 1) := by decide +kernel
theorem dX7_paces_82 : decode (mC Y_X7_paces) 82 = .ok (.invokevirtual 180, 3) := by decide +kernel
theorem dX7_paces_85 : decode (mC Y_X7_paces) 85 = .ok (.if_icmp .ne 10, 3) := by decide +kernel
theorem dX7_paces_88 : decode (mC Y_X7_paces) 88 = .ok (.iconst 1, 1) := by decide +kernel
theorem dX7_paces_89 : decode (mC Y_X7_paces) 89 = .ok (.iload 6, 2) := by decide +kernel
theorem dX7_paces_91 : decode (mC Y_X7_paces) 91 = .ok (.ishl, 1) := by decide +kernel
theorem dX7_paces_92 : decode (mC Y_X7_paces) 92 = .ok (.goto 4, 3) := by decide +kernel
theorem dX7_paces_95 : decode (mC Y_X7_paces) 95 = .ok (.iconst 0, 1) := by decide +kernel
theorem dX7_paces_96 : decode (mC Y_X7_paces) 96 = .ok (.ior, 1) := by decide +kernel
theorem dX7_paces_97 : decode (mC Y_X7_paces) 97 = .ok (.istore 5, 2) := by decide +kernel
theorem dX7_paces_99 : decode (mC Y_X7_paces) 99 = .ok (.iinc 6 1, 3) := by decide +kernel
theorem dX7_paces_102 : decode (mC Y_X7_paces) 102 = .ok (.goto (-55), 3) := by decide +kernel
theorem dX7_paces_105 : decode (mC Y_X7_paces) 105 = .ok (.aload_n 0, 1) := by decide +kernel
theorem dX7_paces_106 : decode (mC Y_X7_paces) 106 = .ok (.getfield 22, 3) := by decide +kernel
theorem dX7_paces_109 : decode (mC Y_X7_paces) 109 = .ok (.iload_n 1, 1) := by decide +kernel
theorem dX7_paces_110 : decode (mC Y_X7_paces) 110 = .ok (.iload 4, 2) := by decide +kernel
theorem dX7_paces_112 : decode (mC Y_X7_paces) 112 = .ok (.iastore, 1) := by decide +kernel
theorem dX7_paces_113 : decode (mC Y_X7_paces) 113 = .ok (.iload 5, 2) := by decide +kernel
theorem dX7_paces_115 : decode (mC Y_X7_paces) 115 = .ok (.ireturn, 1) := by decide +kernel
theorem dX7_share_0 : decode (mC Y_X7_share) 0 = .ok (.iconst 0, 1) := by decide +kernel
theorem dX7_share_1 : decode (mC Y_X7_share) 1 = .ok (.istore_n 3, 1) := by decide +kernel
theorem dX7_share_2 : decode (mC Y_X7_share) 2 = .ok (.iconst 0, 1) := by decide +kernel
theorem dX7_share_3 : decode (mC Y_X7_share) 3 = .ok (.istore 4, 2) := by decide +kernel
theorem dX7_share_5 : decode (mC Y_X7_share) 5 = .ok (.iload 4, 2) := by decide +kernel
theorem dX7_share_7 : decode (mC Y_X7_share) 7 = .ok (.bipush 24, 2) := by decide +kernel
theorem dX7_share_9 : decode (mC Y_X7_share) 9 = .ok (.if_icmp .gt 36, 3) := by decide +kernel
theorem dX7_share_12 : decode (mC Y_X7_share) 12 = .ok (.iload_n 3, 1) := by decide +kernel
theorem dX7_share_13 : decode (mC Y_X7_share) 13 = .ok (.ifCond .ne 20, 3) := by decide +kernel
theorem dX7_share_16 : decode (mC Y_X7_share) 16 = .ok (.aload_n 0, 1) := by decide +kernel
theorem dX7_share_17 : decode (mC Y_X7_share) 17 = .ok (.iload_n 1, 1) := by decide +kernel
theorem dX7_share_18 : decode (mC Y_X7_share) 18 = .ok (.iload 4, 2) := by decide +kernel
theorem dX7_share_20 : decode (mC Y_X7_share) 20 = .ok (.invokevirtual 180, 3) := by decide +kernel
theorem dX7_share_23 : decode (mC Y_X7_share) 23 = .ok (.aload_n 0, 1) := by decide +kernel
theorem dX7_share_24 : decode (mC Y_X7_share) 24 = .ok (.iload_n 2, 1) := by decide +kernel
theorem dX7_share_25 : decode (mC Y_X7_share) 25 = .ok (.iload 4, 2) := by decide +kernel
theorem dX7_share_27 : decode (mC Y_X7_share) 27 = .ok (.invokevirtual 180, 3) := by decide +kernel
theorem dX7_share_30 : decode (mC Y_X7_share) 30 = .ok (.if_icmp .ne 7, 3) := by decide +kernel
theorem dX7_share_33 : decode (mC Y_X7_share) 33 = .ok (.iconst 1, 1) := by decide +kernel
theorem dX7_share_34 : decode (mC Y_X7_share) 34 = .ok (.goto 4, 3) := by decide +kernel
theorem dX7_share_37 : decode (mC Y_X7_share) 37 = .ok (.iconst 0, 1) := by decide +kernel
theorem dX7_share_38 : decode (mC Y_X7_share) 38 = .ok (.istore_n 3, 1) := by decide +kernel
theorem dX7_share_39 : decode (mC Y_X7_share) 39 = .ok (.iinc 4 1, 3) := by decide +kernel
theorem dX7_share_42 : decode (mC Y_X7_share) 42 = .ok (.goto (-37), 3) := by decide +kernel
theorem dX7_share_45 : decode (mC Y_X7_share) 45 = .ok (.iload_n 3, 1) := by decide +kernel
theorem dX7_share_46 : decode (mC Y_X7_share) 46 = .ok (.ireturn, 1) := by decide +kernel
theorem dX7_has_0 : decode (mC Y_X7_has) 0 = .ok (.iload_n 0, 1) := by decide +kernel
theorem dX7_has_1 : decode (mC Y_X7_has) 1 = .ok (.iload_n 1, 1) := by decide +kernel
theorem dX7_has_2 : decode (mC Y_X7_has) 2 = .ok (.ishr, 1) := by decide +kernel
theorem dX7_has_3 : decode (mC Y_X7_has) 3 = .ok (.iconst 1, 1) := by decide +kernel
theorem dX7_has_4 : decode (mC Y_X7_has) 4 = .ok (.iand, 1) := by decide +kernel
theorem dX7_has_5 : decode (mC Y_X7_has) 5 = .ok (.iconst 1, 1) := by decide +kernel
theorem dX7_has_6 : decode (mC Y_X7_has) 6 = .ok (.if_icmp .ne 7, 3) := by decide +kernel
theorem dX7_has_9 : decode (mC Y_X7_has) 9 = .ok (.iconst 1, 1) := by decide +kernel
theorem dX7_has_10 : decode (mC Y_X7_has) 10 = .ok (.goto 4, 3) := by decide +kernel
theorem dX7_has_13 : decode (mC Y_X7_has) 13 = .ok (.iconst 0, 1) := by decide +kernel
theorem dX7_has_14 : decode (mC Y_X7_has) 14 = .ok (.ireturn, 1) := by decide +kernel
theorem dX7_shy_0 : decode (mC Y_X7_shy) 0 = .ok (.aload_n 0, 1) := by decide +kernel
theorem dX7_shy_1 : decode (mC Y_X7_shy) 1 = .ok (.iload_n 1, 1) := by decide +kernel
theorem dX7_shy_2 : decode (mC Y_X7_shy) 2 = .ok (.invokevirtual 146, 3) := by decide +kernel
theorem dX7_shy_5 : decode (mC Y_X7_shy) 5 = .ok (.ifCond .ne 5, 3) := by decide +kernel
theorem dX7_shy_8 : decode (mC Y_X7_shy) 8 = .ok (.iconst (-1), 1) := by decide +kernel
theorem dX7_shy_9 : decode (mC Y_X7_shy) 9 = .ok (.ireturn, 1) := by decide +kernel
theorem dX7_shy_10 : decode (mC Y_X7_shy) 10 = .ok (.aload_n 0, 1) := by decide +kernel
theorem dX7_shy_11 : decode (mC Y_X7_shy) 11 = .ok (.getfield 13, 3) := by decide +kernel
theorem dX7_shy_14 : decode (mC Y_X7_shy) 14 = .ok (.iload_n 1, 1) := by decide +kernel
theorem dX7_shy_15 : decode (mC Y_X7_shy) 15 = .ok (.iaload, 1) := by decide +kernel
theorem dX7_shy_16 : decode (mC Y_X7_shy) 16 = .ok (.bipush (-4), 2) := by decide +kernel
theorem dX7_shy_18 : decode (mC Y_X7_shy) 18 = .ok (.if_icmp .ne 6, 3) := by decide +kernel
theorem dX7_shy_21 : decode (mC Y_X7_shy) 21 = .ok (.bipush (-2), 2) := by decide +kernel
theorem dX7_shy_23 : decode (mC Y_X7_shy) 23 = .ok (.ireturn, 1) := by decide +kernel
theorem dX7_shy_24 : decode (mC Y_X7_shy) 24 = .ok (.iconst 0, 1) := by decide +kernel
theorem dX7_shy_25 : decode (mC Y_X7_shy) 25 = .ok (.istore_n 2, 1) := by decide +kernel
theorem dX7_shy_26 : decode (mC Y_X7_shy) 26 = .ok (.iconst 0, 1) := by decide +kernel
theorem dX7_shy_27 : decode (mC Y_X7_shy) 27 = .ok (.istore_n 3, 1) := by decide +kernel
theorem dX7_shy_28 : decode (mC Y_X7_shy) 28 = .ok (.iload_n 3, 1) := by decide +kernel
theorem dX7_shy_29 : decode (mC Y_X7_shy) 29 = .ok (.aload_n 0, 1) := by decide +kernel
theorem dX7_shy_30 : decode (mC Y_X7_shy) 30 = .ok (.getfield 68, 3) := by decide +kernel
theorem dX7_shy_33 : decode (mC Y_X7_shy) 33 = .ok (.if_icmp .ge 53, 3) := by decide +kernel
theorem dX7_shy_36 : decode (mC Y_X7_shy) 36 = .ok (.iload_n 2, 1) := by decide +kernel
theorem dX7_shy_37 : decode (mC Y_X7_shy) 37 = .ok (.iload_n 3, 1) := by decide +kernel
theorem dX7_shy_38 : decode (mC Y_X7_shy) 38 = .ok (.iload_n 1, 1) := by decide +kernel
theorem dX7_shy_39 : decode (mC Y_X7_shy) 39 = .ok (.if_icmp .eq 38, 3) := by decide +kernel
theorem dX7_shy_42 : decode (mC Y_X7_shy) 42 = .ok (.aload_n 0, 1) := by decide +kernel
theorem dX7_shy_43 : decode (mC Y_X7_shy) 43 = .ok (.getfield 13, 3) := by decide +kernel
theorem dX7_shy_46 : decode (mC Y_X7_shy) 46 = .ok (.iload_n 3, 1) := by decide +kernel
theorem dX7_shy_47 : decode (mC Y_X7_shy) 47 = .ok (.iaload, 1) := by decide +kernel
theorem dX7_shy_48 : decode (mC Y_X7_shy) 48 = .ok (.aload_n 0, 1) := by decide +kernel
theorem dX7_shy_49 : decode (mC Y_X7_shy) 49 = .ok (.getfield 13, 3) := by decide +kernel
theorem dX7_shy_52 : decode (mC Y_X7_shy) 52 = .ok (.iload_n 1, 1) := by decide +kernel
theorem dX7_shy_53 : decode (mC Y_X7_shy) 53 = .ok (.iaload, 1) := by decide +kernel
theorem dX7_shy_54 : decode (mC Y_X7_shy) 54 = .ok (.if_icmp .ne 23, 3) := by decide +kernel
theorem dX7_shy_57 : decode (mC Y_X7_shy) 57 = .ok (.aload_n 0, 1) := by decide +kernel
theorem dX7_shy_58 : decode (mC Y_X7_shy) 58 = .ok (.iload_n 1, 1) := by decide +kernel
theorem dX7_shy_59 : decode (mC Y_X7_shy) 59 = .ok (.iload_n 3, 1) := by decide +kernel
theorem dX7_shy_60 : decode (mC Y_X7_shy) 60 = .ok (.invokevirtual 192, 3) := by decide +kernel
theorem dX7_shy_63 : decode (mC Y_X7_shy) 63 = .ok (.ifCond .eq 14, 3) := by decide +kernel
theorem dX7_shy_66 : decode (mC Y_X7_shy) 66 = .ok (.iconst 1, 1) := by decide +kernel
theorem dX7_shy_67 : decode (mC Y_X7_shy) 67 = .ok (.aload_n 0, 1) := by decide +kernel
theorem dX7_shy_68 : decode (mC Y_X7_shy) 68 = .ok (.getfield 16, 3) := by decide +kernel
theorem dX7_shy_71 : decode (mC Y_X7_shy) 71 = .ok (.iload_n 3, 1) := by decide +kernel
theorem dX7_shy_72 : decode (mC Y_X7_shy) 72 = .ok (.iaload, 1) := by decide +kernel
theorem dX7_shy_73 : decode (mC Y_X7_shy) 73 = .ok (.ishl, 1) := by decide +kernel
theorem dX7_shy_74 : decode (mC Y_X7_shy) 74 = .ok (.goto 4, 3) := by decide +kernel
theorem dX7_shy_77 : decode (mC Y_X7_shy) 77 = .ok (.iconst 0, 1) := by decide +kernel
theorem dX7_shy_78 : decode (mC Y_X7_shy) 78 = .ok (.ior, 1) := by decide +kernel
theorem dX7_shy_79 : decode (mC Y_X7_shy) 79 = .ok (.istore_n 2, 1) := by decide +kernel
theorem dX7_shy_80 : decode (mC Y_X7_shy) 80 = .ok (.iinc 3 1, 3) := by decide +kernel
theorem dX7_shy_83 : decode (mC Y_X7_shy) 83 = .ok (.goto (-55), 3) := by decide +kernel
theorem dX7_shy_86 : decode (mC Y_X7_shy) 86 = .ok (.iconst 1, 1) := by decide +kernel
theorem dX7_shy_87 : decode (mC Y_X7_shy) 87 = .ok (.istore_n 3, 1) := by decide +kernel
theorem dX7_shy_88 : decode (mC Y_X7_shy) 88 = .ok (.iload_n 3, 1) := by decide +kernel
theorem dX7_shy_89 : decode (mC Y_X7_shy) 89 = .ok (.bipush 9, 2) := by decide +kernel
theorem dX7_shy_91 : decode (mC Y_X7_shy) 91 = .ok (.if_icmp .gt 17, 3) := by decide +kernel
theorem dX7_shy_94 : decode (mC Y_X7_shy) 94 = .ok (.iload_n 2, 1) := by decide +kernel
theorem dX7_shy_95 : decode (mC Y_X7_shy) 95 = .ok (.iload_n 3, 1) := by decide +kernel
theorem dX7_shy_96 : decode (mC Y_X7_shy) 96 = .ok (.invokestatic 195, 3) := by decide +kernel
theorem dX7_shy_99 : decode (mC Y_X7_shy) 99 = .ok (.ifCond .eq 9, 3) := by decide +kernel
theorem dX7_shy_102 : decode (mC Y_X7_shy) 102 = .ok (.iinc 3 1, 3) := by decide +kernel
theorem dX7_shy_105 : decode (mC Y_X7_shy) 105 = .ok (.goto (-17), 3) := by decide +kernel
theorem dX7_shy_108 : decode (mC Y_X7_shy) 108 = .ok (.iload_n 3, 1) := by decide +kernel
theorem dX7_shy_109 : decode (mC Y_X7_shy) 109 = .ok (.bipush 9, 2) := by decide +kernel
theorem dX7_shy_111 : decode (mC Y_X7_shy) 111 = .ok (.if_icmp .gt 7, 3) := by decide +kernel
theorem dX7_shy_114 : decode (mC Y_X7_shy) 114 = .ok (.iload_n 3, 1) := by decide +kernel
theorem dX7_shy_115 : decode (mC Y_X7_shy) 115 = .ok (.goto 5, 3) := by decide +kernel
theorem dX7_shy_118 : decode (mC Y_X7_shy) 118 = .ok (.bipush (-4), 2) := by decide +kernel
theorem dX7_shy_120 : decode (mC Y_X7_shy) 120 = .ok (.ireturn, 1) := by decide +kernel
theorem dX7_setGuests_0 : decode (mC Y_X7_setGuests) 0 = .ok (.aload_n 0, 1) := by decide +kernel
theorem dX7_setGuests_1 : decode (mC Y_X7_setGuests) 1 = .ok (.iconst 0, 1) := by decide +kernel
theorem dX7_setGuests_2 : decode (mC Y_X7_setGuests) 2 = .ok (.putfield 198, 3) := by decide +kernel
theorem dX7_setGuests_5 : decode (mC Y_X7_setGuests) 5 = .ok (.iconst 0, 1) := by decide +kernel
theorem dX7_setGuests_6 : decode (mC Y_X7_setGuests) 6 = .ok (.istore_n 2, 1) := by decide +kernel
theorem dX7_setGuests_7 : decode (mC Y_X7_setGuests) 7 = .ok (.iload_n 2, 1) := by decide +kernel
theorem dX7_setGuests_8 : decode (mC Y_X7_setGuests) 8 = .ok (.aload_n 0, 1) := by decide +kernel
theorem dX7_setGuests_9 : decode (mC Y_X7_setGuests) 9 = .ok (.getfield 68, 3) := by decide +kernel
theorem dX7_setGuests_12 : decode (mC Y_X7_setGuests) 12 = .ok (.if_icmp .ge 39, 3) := by decide +kernel
theorem dX7_setGuests_15 : decode (mC Y_X7_setGuests) 15 = .ok (.aload_n 0, 1) := by decide +kernel
theorem dX7_setGuests_16 : decode (mC Y_X7_setGuests) 16 = .ok (.getfield 13, 3) := by decide +kernel
theorem dX7_setGuests_19 : decode (mC Y_X7_setGuests) 19 = .ok (.iload_n 2, 1) := by decide +kernel
theorem dX7_setGuests_20 : decode (mC Y_X7_setGuests) 20 = .ok (.iaload, 1) := by decide +kernel
theorem dX7_setGuests_21 : decode (mC Y_X7_setGuests) 21 = .ok (.iload_n 1, 1) := by decide +kernel
theorem dX7_setGuests_22 : decode (mC Y_X7_setGuests) 22 = .ok (.if_icmp .ne 23, 3) := by decide +kernel
theorem dX7_setGuests_25 : decode (mC Y_X7_setGuests) 25 = .ok (.aload_n 0, 1) := by decide +kernel
theorem dX7_setGuests_26 : decode (mC Y_X7_setGuests) 26 = .ok (.getfield 52, 3) := by decide +kernel
theorem dX7_setGuests_29 : decode (mC Y_X7_setGuests) 29 = .ok (.aload_n 0, 1) := by decide +kernel
theorem dX7_setGuests_30 : decode (mC Y_X7_setGuests) 30 = .ok (.getfield 198, 3) := by decide +kernel
theorem dX7_setGuests_33 : decode (mC Y_X7_setGuests) 33 = .ok (.iload_n 2, 1) := by decide +kernel
theorem dX7_setGuests_34 : decode (mC Y_X7_setGuests) 34 = .ok (.iastore, 1) := by decide +kernel
theorem dX7_setGuests_35 : decode (mC Y_X7_setGuests) 35 = .ok (.aload_n 0, 1) := by decide +kernel
theorem dX7_setGuests_36 : decode (mC Y_X7_setGuests) 36 = .ok (.dup, 1) := by decide +kernel
theorem dX7_setGuests_37 : decode (mC Y_X7_setGuests) 37 = .ok (.getfield 198, 3) := by decide +kernel
theorem dX7_setGuests_40 : decode (mC Y_X7_setGuests) 40 = .ok (.iconst 1, 1) := by decide +kernel
theorem dX7_setGuests_41 : decode (mC Y_X7_setGuests) 41 = .ok (.iadd, 1) := by decide +kernel
theorem dX7_setGuests_42 : decode (mC Y_X7_setGuests) 42 = .ok (.putfield 198, 3) := by decide +kernel
theorem dX7_setGuests_45 : decode (mC Y_X7_setGuests) 45 = .ok (.iinc 2 1, 3) := by decide +kernel
theorem dX7_setGuests_48 : decode (mC Y_X7_setGuests) 48 = .ok (.goto (-41), 3) := by decide +kernel
theorem dX7_setGuests_51 : decode (mC Y_X7_setGuests) 51 = .ok (.iconst 0, 1) := by decide +kernel
theorem dX7_setGuests_52 : decode (mC Y_X7_setGuests) 52 = .ok (.istore_n 2, 1) := by decide +kernel
theorem dX7_setGuests_53 : decode (mC Y_X7_setGuests) 53 = .ok (.iload_n 2, 1) := by decide +kernel
theorem dX7_setGuests_54 : decode (mC Y_X7_setGuests) 54 = .ok (.aload_n 0, 1) := by decide +kernel
theorem dX7_setGuests_55 : decode (mC Y_X7_setGuests) 55 = .ok (.getfield 198, 3) := by decide +kernel
theorem dX7_setGuests_58 : decode (mC Y_X7_setGuests) 58 = .ok (.if_icmp .ge 72, 3) := by decide +kernel
theorem dX7_setGuests_61 : decode (mC Y_X7_setGuests) 61 = .ok (.aload_n 0, 1) := by decide +kernel
theorem dX7_setGuests_62 : decode (mC Y_X7_setGuests) 62 = .ok (.getfield 55, 3) := by decide +kernel
theorem dX7_setGuests_65 : decode (mC Y_X7_setGuests) 65 = .ok (.iload_n 2, 1) := by decide +kernel
theorem dX7_setGuests_66 : decode (mC Y_X7_setGuests) 66 = .ok (.iconst 0, 1) := by decide +kernel
theorem dX7_setGuests_67 : decode (mC Y_X7_setGuests) 67 = .ok (.iastore, 1) := by decide +kernel
theorem dX7_setGuests_68 : decode (mC Y_X7_setGuests) 68 = .ok (.iconst 0, 1) := by decide +kernel
theorem dX7_setGuests_69 : decode (mC Y_X7_setGuests) 69 = .ok (.istore_n 3, 1) := by decide +kernel
theorem dX7_setGuests_70 : decode (mC Y_X7_setGuests) 70 = .ok (.iload_n 3, 1) := by decide +kernel
theorem dX7_setGuests_71 : decode (mC Y_X7_setGuests) 71 = .ok (.aload_n 0, 1) := by decide +kernel
theorem dX7_setGuests_72 : decode (mC Y_X7_setGuests) 72 = .ok (.getfield 198, 3) := by decide +kernel
theorem dX7_setGuests_75 : decode (mC Y_X7_setGuests) 75 = .ok (.if_icmp .ge 49, 3) := by decide +kernel
theorem dX7_setGuests_78 : decode (mC Y_X7_setGuests) 78 = .ok (.aload_n 0, 1) := by decide +kernel
theorem dX7_setGuests_79 : decode (mC Y_X7_setGuests) 79 = .ok (.getfield 55, 3) := by decide +kernel
theorem dX7_setGuests_82 : decode (mC Y_X7_setGuests) 82 = .ok (.iload_n 2, 1) := by decide +kernel
theorem dX7_setGuests_83 : decode (mC Y_X7_setGuests) 83 = .ok (.dup2, 1) := by decide +kernel
theorem dX7_setGuests_84 : decode (mC Y_X7_setGuests) 84 = .ok (.iaload, 1) := by decide +kernel
theorem dX7_setGuests_85 : decode (mC Y_X7_setGuests) 85 = .ok (.iload_n 2, 1) := by decide +kernel
theorem dX7_setGuests_86 : decode (mC Y_X7_setGuests) 86 = .ok (.iload_n 3, 1) := by decide +kernel
theorem dX7_setGuests_87 : decode (mC Y_X7_setGuests) 87 = .ok (.if_icmp .eq 28, 3) := by decide +kernel
theorem dX7_setGuests_90 : decode (mC Y_X7_setGuests) 90 = .ok (.aload_n 0, 1) := by decide +kernel
theorem dX7_setGuests_91 : decode (mC Y_X7_setGuests) 91 = .ok (.aload_n 0, 1) := by decide +kernel
theorem dX7_setGuests_92 : decode (mC Y_X7_setGuests) 92 = .ok (.getfield 52, 3) := by decide +kernel
theorem dX7_setGuests_95 : decode (mC Y_X7_setGuests) 95 = .ok (.iload_n 2, 1) := by decide +kernel
theorem dX7_setGuests_96 : decode (mC Y_X7_setGuests) 96 = .ok (.iaload, 1) := by decide +kernel
theorem dX7_setGuests_97 : decode (mC Y_X7_setGuests) 97 = .ok (.aload_n 0, 1) := by decide +kernel
theorem dX7_setGuests_98 : decode (mC Y_X7_setGuests) 98 = .ok (.getfield 52, 3) := by decide +kernel
theorem dX7_setGuests_101 : decode (mC Y_X7_setGuests) 101 = .ok (.iload_n 3, 1) := by decide +kernel
theorem dX7_setGuests_102 : decode (mC Y_X7_setGuests) 102 = .ok (.iaload, 1) := by decide +kernel
theorem dX7_setGuests_103 : decode (mC Y_X7_setGuests) 103 = .ok (.invokevirtual 192, 3) := by decide +kernel
theorem dX7_setGuests_106 : decode (mC Y_X7_setGuests) 106 = .ok (.ifCond .eq 9, 3) := by decide +kernel
theorem dX7_setGuests_109 : decode (mC Y_X7_setGuests) 109 = .ok (.iconst 1, 1) := by decide +kernel
theorem dX7_setGuests_110 : decode (mC Y_X7_setGuests) 110 = .ok (.iload_n 3, 1) := by decide +kernel
theorem dX7_setGuests_111 : decode (mC Y_X7_setGuests) 111 = .ok (.ishl, 1) := by decide +kernel
theorem dX7_setGuests_112 : decode (mC Y_X7_setGuests) 112 = .ok (.goto 4, 3) := by decide +kernel
theorem dX7_setGuests_115 : decode (mC Y_X7_setGuests) 115 = .ok (.iconst 0, 1) := by decide +kernel
theorem dX7_setGuests_116 : decode (mC Y_X7_setGuests) 116 = .ok (.ior, 1) := by decide +kernel
theorem dX7_setGuests_117 : decode (mC Y_X7_setGuests) 117 = .ok (.iastore, 1) := by decide +kernel
theorem dX7_setGuests_118 : decode (mC Y_X7_setGuests) 118 = .ok (.iinc 3 1, 3) := by decide +kernel
theorem dX7_setGuests_121 : decode (mC Y_X7_setGuests) 121 = .ok (.goto (-51), 3) := by decide +kernel
theorem dX7_setGuests_124 : decode (mC Y_X7_setGuests) 124 = .ok (.iinc 2 1, 3) := by decide +kernel
theorem dX7_setGuests_127 : decode (mC Y_X7_setGuests) 127 = .ok (.goto (-74), 3) := by decide +kernel
theorem dX7_setGuests_130 : decode (mC Y_X7_setGuests) 130 = .ok (.return_, 1) := by decide +kernel
theorem dX7_nextWidth_0 : decode (mC Y_X7_nextWidth) 0 = .ok (.iconst 0, 1) := by decide +kernel
theorem dX7_nextWidth_1 : decode (mC Y_X7_nextWidth) 1 = .ok (.istore_n 3, 1) := by decide +kernel
theorem dX7_nextWidth_2 : decode (mC Y_X7_nextWidth) 2 = .ok (.iconst 0, 1) := by decide +kernel
theorem dX7_nextWidth_3 : decode (mC Y_X7_nextWidth) 3 = .ok (.istore 4, 2) := by decide +kernel
theorem dX7_nextWidth_5 : decode (mC Y_X7_nextWidth) 5 = .ok (.iload 4, 2) := by decide +kernel
theorem dX7_nextWidth_7 : decode (mC Y_X7_nextWidth) 7 = .ok (.iload_n 1, 1) := by decide +kernel
theorem dX7_nextWidth_8 : decode (mC Y_X7_nextWidth) 8 = .ok (.if_icmp .ge 32, 3) := by decide +kernel
theorem dX7_nextWidth_11 : decode (mC Y_X7_nextWidth) 11 = .ok (.aload_n 0, 1) := by decide +kernel
theorem dX7_nextWidth_12 : decode (mC Y_X7_nextWidth) 12 = .ok (.getfield 58, 3) := by decide +kernel
theorem dX7_nextWidth_15 : decode (mC Y_X7_nextWidth) 15 = .ok (.iload 4, 2) := by decide +kernel
theorem dX7_nextWidth_17 : decode (mC Y_X7_nextWidth) 17 = .ok (.iaload, 1) := by decide +kernel
theorem dX7_nextWidth_18 : decode (mC Y_X7_nextWidth) 18 = .ok (.iload_n 3, 1) := by decide +kernel
theorem dX7_nextWidth_19 : decode (mC Y_X7_nextWidth) 19 = .ok (.if_icmp .le 13, 3) := by decide +kernel
theorem dX7_nextWidth_22 : decode (mC Y_X7_nextWidth) 22 = .ok (.aload_n 0, 1) := by decide +kernel
theorem dX7_nextWidth_23 : decode (mC Y_X7_nextWidth) 23 = .ok (.getfield 58, 3) := by decide +kernel
theorem dX7_nextWidth_26 : decode (mC Y_X7_nextWidth) 26 = .ok (.iload 4, 2) := by decide +kernel
theorem dX7_nextWidth_28 : decode (mC Y_X7_nextWidth) 28 = .ok (.iaload, 1) := by decide +kernel
theorem dX7_nextWidth_29 : decode (mC Y_X7_nextWidth) 29 = .ok (.goto 4, 3) := by decide +kernel
theorem dX7_nextWidth_32 : decode (mC Y_X7_nextWidth) 32 = .ok (.iload_n 3, 1) := by decide +kernel
theorem dX7_nextWidth_33 : decode (mC Y_X7_nextWidth) 33 = .ok (.istore_n 3, 1) := by decide +kernel
theorem dX7_nextWidth_34 : decode (mC Y_X7_nextWidth) 34 = .ok (.iinc 4 1, 3) := by decide +kernel
theorem dX7_nextWidth_37 : decode (mC Y_X7_nextWidth) 37 = .ok (.goto (-32), 3) := by decide +kernel
theorem dX7_nextWidth_40 : decode (mC Y_X7_nextWidth) 40 = .ok (.iload_n 3, 1) := by decide +kernel
theorem dX7_nextWidth_41 : decode (mC Y_X7_nextWidth) 41 = .ok (.iconst 1, 1) := by decide +kernel
theorem dX7_nextWidth_42 : decode (mC Y_X7_nextWidth) 42 = .ok (.iadd, 1) := by decide +kernel
theorem dX7_nextWidth_43 : decode (mC Y_X7_nextWidth) 43 = .ok (.iload_n 2, 1) := by decide +kernel
theorem dX7_nextWidth_44 : decode (mC Y_X7_nextWidth) 44 = .ok (.if_icmp .ge 9, 3) := by decide +kernel
theorem dX7_nextWidth_47 : decode (mC Y_X7_nextWidth) 47 = .ok (.iload_n 3, 1) := by decide +kernel
theorem dX7_nextWidth_48 : decode (mC Y_X7_nextWidth) 48 = .ok (.iconst 1, 1) := by decide +kernel
theorem dX7_nextWidth_49 : decode (mC Y_X7_nextWidth) 49 = .ok (.iadd, 1) := by decide +kernel
theorem dX7_nextWidth_50 : decode (mC Y_X7_nextWidth) 50 = .ok (.goto 4, 3) := by decide +kernel
theorem dX7_nextWidth_53 : decode (mC Y_X7_nextWidth) 53 = .ok (.iload_n 2, 1) := by decide +kernel
theorem dX7_nextWidth_54 : decode (mC Y_X7_nextWidth) 54 = .ok (.istore 4, 2) := by decide +kernel
theorem dX7_nextWidth_56 : decode (mC Y_X7_nextWidth) 56 = .ok (.aload_n 0, 1) := by decide +kernel
theorem dX7_nextWidth_57 : decode (mC Y_X7_nextWidth) 57 = .ok (.getfield 58, 3) := by decide +kernel
theorem dX7_nextWidth_60 : decode (mC Y_X7_nextWidth) 60 = .ok (.iload_n 1, 1) := by decide +kernel
theorem dX7_nextWidth_61 : decode (mC Y_X7_nextWidth) 61 = .ok (.iaload, 1) := by decide +kernel
theorem dX7_nextWidth_62 : decode (mC Y_X7_nextWidth) 62 = .ok (.iconst 1, 1) := by decide +kernel
theorem dX7_nextWidth_63 : decode (mC Y_X7_nextWidth) 63 = .ok (.iadd, 1) := by decide +kernel
theorem dX7_nextWidth_64 : decode (mC Y_X7_nextWidth) 64 = .ok (.istore 5, 2) := by decide +kernel
theorem dX7_nextWidth_66 : decode (mC Y_X7_nextWidth) 66 = .ok (.iload 5, 2) := by decide +kernel
theorem dX7_nextWidth_68 : decode (mC Y_X7_nextWidth) 68 = .ok (.iload 4, 2) := by decide +kernel
theorem dX7_nextWidth_70 : decode (mC Y_X7_nextWidth) 70 = .ok (.if_icmp .gt 73, 3) := by decide +kernel
theorem dX7_nextWidth_73 : decode (mC Y_X7_nextWidth) 73 = .ok (.iconst 1, 1) := by decide +kernel
theorem dX7_nextWidth_74 : decode (mC Y_X7_nextWidth) 74 = .ok (.istore 6, 2) := by decide +kernel
theorem dX7_nextWidth_76 : decode (mC Y_X7_nextWidth) 76 = .ok (.iconst 0, 1) := by decide +kernel
theorem dX7_nextWidth_77 : decode (mC Y_X7_nextWidth) 77 = .ok (.istore 7, 2) := by decide +kernel
theorem dX7_nextWidth_79 : decode (mC Y_X7_nextWidth) 79 = .ok (.iload 7, 2) := by decide +kernel
theorem dX7_nextWidth_81 : decode (mC Y_X7_nextWidth) 81 = .ok (.iload_n 1, 1) := by decide +kernel
theorem dX7_nextWidth_82 : decode (mC Y_X7_nextWidth) 82 = .ok (.if_icmp .ge 47, 3) := by decide +kernel
theorem dX7_nextWidth_85 : decode (mC Y_X7_nextWidth) 85 = .ok (.iload 6, 2) := by decide +kernel
theorem dX7_nextWidth_87 : decode (mC Y_X7_nextWidth) 87 = .ok (.ifCond .eq 33, 3) := by decide +kernel
theorem dX7_nextWidth_90 : decode (mC Y_X7_nextWidth) 90 = .ok (.aload_n 0, 1) := by decide +kernel
theorem dX7_nextWidth_91 : decode (mC Y_X7_nextWidth) 91 = .ok (.getfield 55, 3) := by decide +kernel
theorem dX7_nextWidth_94 : decode (mC Y_X7_nextWidth) 94 = .ok (.iload_n 1, 1) := by decide +kernel
theorem dX7_nextWidth_95 : decode (mC Y_X7_nextWidth) 95 = .ok (.iaload, 1) := by decide +kernel
theorem dX7_nextWidth_96 : decode (mC Y_X7_nextWidth) 96 = .ok (.iload 7, 2) := by decide +kernel
theorem dX7_nextWidth_98 : decode (mC Y_X7_nextWidth) 98 = .ok (.invokestatic 195, 3) := by decide +kernel
theorem dX7_nextWidth_101 : decode (mC Y_X7_nextWidth) 101 = .ok (.ifCond .eq 15, 3) := by decide +kernel
theorem dX7_nextWidth_104 : decode (mC Y_X7_nextWidth) 104 = .ok (.aload_n 0, 1) := by decide +kernel
theorem dX7_nextWidth_105 : decode (mC Y_X7_nextWidth) 105 = .ok (.getfield 58, 3) := by decide +kernel
theorem dX7_nextWidth_108 : decode (mC Y_X7_nextWidth) 108 = .ok (.iload 7, 2) := by decide +kernel
theorem dX7_nextWidth_110 : decode (mC Y_X7_nextWidth) 110 = .ok (.iaload, 1) := by decide +kernel
theorem dX7_nextWidth_111 : decode (mC Y_X7_nextWidth) 111 = .ok (.iload 5, 2) := by decide +kernel
theorem dX7_nextWidth_113 : decode (mC Y_X7_nextWidth) 113 = .ok (.if_icmp .eq 7, 3) := by decide +kernel
theorem dX7_nextWidth_116 : decode (mC Y_X7_nextWidth) 116 = .ok (.iconst 1, 1) := by decide +kernel
theorem dX7_nextWidth_117 : decode (mC Y_X7_nextWidth) 117 = .ok (.goto 4, 3) := by decide +kernel
theorem dX7_nextWidth_120 : decode (mC Y_X7_nextWidth) 120 = .ok (.iconst 0, 1) := by decide +kernel
theorem dX7_nextWidth_121 : decode (mC Y_X7_nextWidth) 121 = .ok (.istore 6, 2) := by decide +kernel
theorem dX7_nextWidth_123 : decode (mC Y_X7_nextWidth) 123 = .ok (.iinc 7 1, 3) := by decide +kernel
theorem dX7_nextWidth_126 : decode (mC Y_X7_nextWidth) 126 = .ok (.goto (-47), 3) := by decide +kernel
theorem dX7_nextWidth_129 : decode (mC Y_X7_nextWidth) 129 = .ok (.iload 6, 2) := by decide +kernel
theorem dX7_nextWidth_131 : decode (mC Y_X7_nextWidth) 131 = .ok (.ifCond .eq 6, 3) := by decide +kernel
theorem dX7_nextWidth_134 : decode (mC Y_X7_nextWidth) 134 = .ok (.iload 5, 2) := by decide +kernel
theorem dX7_nextWidth_136 : decode (mC Y_X7_nextWidth) 136 = .ok (.ireturn, 1) := by decide +kernel
theorem dX7_nextWidth_137 : decode (mC Y_X7_nextWidth) 137 = .ok (.iinc 5 1, 3) := by decide +kernel
theorem dX7_nextWidth_140 : decode (mC Y_X7_nextWidth) 140 = .ok (.goto (-74), 3) := by decide +kernel
theorem dX7_nextWidth_143 : decode (mC Y_X7_nextWidth) 143 = .ok (.iconst 0, 1) := by decide +kernel
theorem dX7_nextWidth_144 : decode (mC Y_X7_nextWidth) 144 = .ok (.ireturn, 1) := by decide +kernel
theorem dX7_isWay_0 : decode (mC Y_X7_isWay) 0 = .ok (.iconst 0, 1) := by decide +kernel
theorem dX7_isWay_1 : decode (mC Y_X7_isWay) 1 = .ok (.istore_n 2, 1) := by decide +kernel
theorem dX7_isWay_2 : decode (mC Y_X7_isWay) 2 = .ok (.iconst 0, 1) := by decide +kernel
theorem dX7_isWay_3 : decode (mC Y_X7_isWay) 3 = .ok (.istore_n 3, 1) := by decide +kernel
theorem dX7_isWay_4 : decode (mC Y_X7_isWay) 4 = .ok (.iload_n 3, 1) := by decide +kernel
theorem dX7_isWay_5 : decode (mC Y_X7_isWay) 5 = .ok (.aload_n 0, 1) := by decide +kernel
theorem dX7_isWay_6 : decode (mC Y_X7_isWay) 6 = .ok (.getfield 198, 3) := by decide +kernel
theorem dX7_isWay_9 : decode (mC Y_X7_isWay) 9 = .ok (.if_icmp .ge 16, 3) := by decide +kernel
theorem dX7_isWay_12 : decode (mC Y_X7_isWay) 12 = .ok (.aload_n 0, 1) := by decide +kernel
theorem dX7_isWay_13 : decode (mC Y_X7_isWay) 13 = .ok (.getfield 58, 3) := by decide +kernel
theorem dX7_isWay_16 : decode (mC Y_X7_isWay) 16 = .ok (.iload_n 3, 1) := by decide +kernel
theorem dX7_isWay_17 : decode (mC Y_X7_isWay) 17 = .ok (.iconst 0, 1) := by decide +kernel
theorem dX7_isWay_18 : decode (mC Y_X7_isWay) 18 = .ok (.iastore, 1) := by decide +kernel
theorem dX7_isWay_19 : decode (mC Y_X7_isWay) 19 = .ok (.iinc 3 1, 3) := by decide +kernel
theorem dX7_isWay_22 : decode (mC Y_X7_isWay) 22 = .ok (.goto (-18), 3) := by decide +kernel
theorem dX7_isWay_25 : decode (mC Y_X7_isWay) 25 = .ok (.iload_n 2, 1) := by decide +kernel
theorem dX7_isWay_26 : decode (mC Y_X7_isWay) 26 = .ok (.ifCond .lt 43, 3) := by decide +kernel
theorem dX7_isWay_29 : decode (mC Y_X7_isWay) 29 = .ok (.iload_n 2, 1) := by decide +kernel
theorem dX7_isWay_30 : decode (mC Y_X7_isWay) 30 = .ok (.aload_n 0, 1) := by decide +kernel
theorem dX7_isWay_31 : decode (mC Y_X7_isWay) 31 = .ok (.getfield 198, 3) := by decide +kernel
theorem dX7_isWay_34 : decode (mC Y_X7_isWay) 34 = .ok (.if_icmp .ge 35, 3) := by decide +kernel
theorem dX7_isWay_37 : decode (mC Y_X7_isWay) 37 = .ok (.aload_n 0, 1) := by decide +kernel
theorem dX7_isWay_38 : decode (mC Y_X7_isWay) 38 = .ok (.getfield 58, 3) := by decide +kernel
theorem dX7_isWay_41 : decode (mC Y_X7_isWay) 41 = .ok (.iload_n 2, 1) := by decide +kernel
theorem dX7_isWay_42 : decode (mC Y_X7_isWay) 42 = .ok (.aload_n 0, 1) := by decide +kernel
theorem dX7_isWay_43 : decode (mC Y_X7_isWay) 43 = .ok (.iload_n 2, 1) := by decide +kernel
theorem dX7_isWay_44 : decode (mC Y_X7_isWay) 44 = .ok (.iload_n 1, 1) := by decide +kernel
theorem dX7_isWay_45 : decode (mC Y_X7_isWay) 45 = .ok (.invokevirtual 201, 3) := by decide +kernel
theorem dX7_isWay_48 : decode (mC Y_X7_isWay) 48 = .ok (.iastore, 1) := by decide +kernel
theorem dX7_isWay_49 : decode (mC Y_X7_isWay) 49 = .ok (.iload_n 2, 1) := by decide +kernel
theorem dX7_isWay_50 : decode (mC Y_X7_isWay) 50 = .ok (.aload_n 0, 1) := by decide +kernel
theorem dX7_isWay_51 : decode (mC Y_X7_isWay) 51 = .ok (.getfield 58, 3) := by decide +kernel
theorem dX7_isWay_54 : decode (mC Y_X7_isWay) 54 = .ok (.iload_n 2, 1) := by decide +kernel
theorem dX7_isWay_55 : decode (mC Y_X7_isWay) 55 = .ok (.iaload, 1) := by decide +kernel
theorem dX7_isWay_56 : decode (mC Y_X7_isWay) 56 = .ok (.ifCond .le 7, 3) := by decide +kernel
theorem dX7_isWay_59 : decode (mC Y_X7_isWay) 59 = .ok (.iconst 1, 1) := by decide +kernel
theorem dX7_isWay_60 : decode (mC Y_X7_isWay) 60 = .ok (.goto 4, 3) := by decide +kernel
theorem dX7_isWay_63 : decode (mC Y_X7_isWay) 63 = .ok (.iconst (-1), 1) := by decide +kernel
theorem dX7_isWay_64 : decode (mC Y_X7_isWay) 64 = .ok (.iadd, 1) := by decide +kernel
theorem dX7_isWay_65 : decode (mC Y_X7_isWay) 65 = .ok (.istore_n 2, 1) := by decide +kernel
theorem dX7_isWay_66 : decode (mC Y_X7_isWay) 66 = .ok (.goto (-41), 3) := by decide +kernel
theorem dX7_isWay_69 : decode (mC Y_X7_isWay) 69 = .ok (.iload_n 2, 1) := by decide +kernel
theorem dX7_isWay_70 : decode (mC Y_X7_isWay) 70 = .ok (.aload_n 0, 1) := by decide +kernel
theorem dX7_isWay_71 : decode (mC Y_X7_isWay) 71 = .ok (.getfield 198, 3) := by decide +kernel
theorem dX7_isWay_74 : decode (mC Y_X7_isWay) 74 = .ok (.if_icmp .ne 7, 3) := by decide +kernel
theorem dX7_isWay_77 : decode (mC Y_X7_isWay) 77 = .ok (.iconst 1, 1) := by decide +kernel
theorem dX7_isWay_78 : decode (mC Y_X7_isWay) 78 = .ok (.goto 4, 3) := by decide +kernel
theorem dX7_isWay_81 : decode (mC Y_X7_isWay) 81 = .ok (.iconst 0, 1) := by decide +kernel
theorem dX7_isWay_82 : decode (mC Y_X7_isWay) 82 = .ok (.ireturn, 1) := by decide +kernel
theorem dX7_spread_0 : decode (mC Y_X7_spread) 0 = .ok (.iload_n 1, 1) := by decide +kernel
theorem dX7_spread_1 : decode (mC Y_X7_spread) 1 = .ok (.invokestatic 153, 3) := by decide +kernel
theorem dX7_spread_4 : decode (mC Y_X7_spread) 4 = .ok (.ifCond .eq 17, 3) := by decide +kernel
theorem dX7_spread_7 : decode (mC Y_X7_spread) 7 = .ok (.iload_n 2, 1) := by decide +kernel
theorem dX7_spread_8 : decode (mC Y_X7_spread) 8 = .ok (.iconst (-1), 1) := by decide +kernel
theorem dX7_spread_9 : decode (mC Y_X7_spread) 9 = .ok (.aload_n 0, 1) := by decide +kernel
theorem dX7_spread_10 : decode (mC Y_X7_spread) 10 = .ok (.getfield 68, 3) := by decide +kernel
theorem dX7_spread_13 : decode (mC Y_X7_spread) 13 = .ok (.iconst 1, 1) := by decide +kernel
theorem dX7_spread_14 : decode (mC Y_X7_spread) 14 = .ok (.isub, 1) := by decide +kernel
theorem dX7_spread_15 : decode (mC Y_X7_spread) 15 = .ok (.invokestatic 72, 3) := by decide +kernel
theorem dX7_spread_18 : decode (mC Y_X7_spread) 18 = .ok (.ifCond .ne 5, 3) := by decide +kernel
theorem dX7_spread_21 : decode (mC Y_X7_spread) 21 = .ok (.iconst (-1), 1) := by decide +kernel
theorem dX7_spread_22 : decode (mC Y_X7_spread) 22 = .ok (.ireturn, 1) := by decide +kernel
theorem dX7_spread_23 : decode (mC Y_X7_spread) 23 = .ok (.aload_n 0, 1) := by decide +kernel
theorem dX7_spread_24 : decode (mC Y_X7_spread) 24 = .ok (.iload_n 1, 1) := by decide +kernel
theorem dX7_spread_25 : decode (mC Y_X7_spread) 25 = .ok (.invokevirtual 204, 3) := by decide +kernel
theorem dX7_spread_28 : decode (mC Y_X7_spread) 28 = .ok (.iconst 0, 1) := by decide +kernel
theorem dX7_spread_29 : decode (mC Y_X7_spread) 29 = .ok (.istore_n 3, 1) := by decide +kernel
theorem dX7_spread_30 : decode (mC Y_X7_spread) 30 = .ok (.aload_n 0, 1) := by decide +kernel
theorem dX7_spread_31 : decode (mC Y_X7_spread) 31 = .ok (.iload_n 3, 1) := by decide +kernel
theorem dX7_spread_32 : decode (mC Y_X7_spread) 32 = .ok (.invokevirtual 207, 3) := by decide +kernel
theorem dX7_spread_35 : decode (mC Y_X7_spread) 35 = .ok (.ifCond .ne 9, 3) := by decide +kernel
theorem dX7_spread_38 : decode (mC Y_X7_spread) 38 = .ok (.iinc 3 1, 3) := by decide +kernel
theorem dX7_spread_41 : decode (mC Y_X7_spread) 41 = .ok (.goto (-11), 3) := by decide +kernel
theorem dX7_spread_44 : decode (mC Y_X7_spread) 44 = .ok (.iload_n 2, 1) := by decide +kernel
theorem dX7_spread_45 : decode (mC Y_X7_spread) 45 = .ok (.ifCond .ge 5, 3) := by decide +kernel
theorem dX7_spread_48 : decode (mC Y_X7_spread) 48 = .ok (.iload_n 3, 1) := by decide +kernel
theorem dX7_spread_49 : decode (mC Y_X7_spread) 49 = .ok (.ireturn, 1) := by decide +kernel
theorem dX7_spread_50 : decode (mC Y_X7_spread) 50 = .ok (.bipush (-4), 2) := by decide +kernel
theorem dX7_spread_52 : decode (mC Y_X7_spread) 52 = .ok (.istore 4, 2) := by decide +kernel
theorem dX7_spread_54 : decode (mC Y_X7_spread) 54 = .ok (.iconst 0, 1) := by decide +kernel
theorem dX7_spread_55 : decode (mC Y_X7_spread) 55 = .ok (.istore 5, 2) := by decide +kernel
theorem dX7_spread_57 : decode (mC Y_X7_spread) 57 = .ok (.iload 5, 2) := by decide +kernel
theorem dX7_spread_59 : decode (mC Y_X7_spread) 59 = .ok (.aload_n 0, 1) := by decide +kernel
theorem dX7_spread_60 : decode (mC Y_X7_spread) 60 = .ok (.getfield 198, 3) := by decide +kernel
theorem dX7_spread_63 : decode (mC Y_X7_spread) 63 = .ok (.if_icmp .ge 34, 3) := by decide +kernel
theorem dX7_spread_66 : decode (mC Y_X7_spread) 66 = .ok (.aload_n 0, 1) := by decide +kernel
theorem dX7_spread_67 : decode (mC Y_X7_spread) 67 = .ok (.getfield 52, 3) := by decide +kernel
theorem dX7_spread_70 : decode (mC Y_X7_spread) 70 = .ok (.iload 5, 2) := by decide +kernel
theorem dX7_spread_72 : decode (mC Y_X7_spread) 72 = .ok (.iaload, 1) := by decide +kernel
theorem dX7_spread_73 : decode (mC Y_X7_spread) 73 = .ok (.iload_n 2, 1) := by decide +kernel
theorem dX7_spread_74 : decode (mC Y_X7_spread) 74 = .ok (.if_icmp .ne 13, 3) := by decide +kernel
theorem dX7_spread_77 : decode (mC Y_X7_spread) 77 = .ok (.aload_n 0, 1) := by decide +kernel
theorem dX7_spread_78 : decode (mC Y_X7_spread) 78 = .ok (.getfield 58, 3) := by decide +kernel
theorem dX7_spread_81 : decode (mC Y_X7_spread) 81 = .ok (.iload 5, 2) := by decide +kernel
theorem dX7_spread_83 : decode (mC Y_X7_spread) 83 = .ok (.iaload, 1) := by decide +kernel
theorem dX7_spread_84 : decode (mC Y_X7_spread) 84 = .ok (.goto 5, 3) := by decide +kernel
theorem dX7_spread_87 : decode (mC Y_X7_spread) 87 = .ok (.iload 4, 2) := by decide +kernel
theorem dX7_spread_89 : decode (mC Y_X7_spread) 89 = .ok (.istore 4, 2) := by decide +kernel
theorem dX7_spread_91 : decode (mC Y_X7_spread) 91 = .ok (.iinc 5 1, 3) := by decide +kernel
theorem dX7_spread_94 : decode (mC Y_X7_spread) 94 = .ok (.goto (-37), 3) := by decide +kernel
theorem dX7_spread_97 : decode (mC Y_X7_spread) 97 = .ok (.iload 4, 2) := by decide +kernel
theorem dX7_spread_99 : decode (mC Y_X7_spread) 99 = .ok (.ireturn, 1) := by decide +kernel
theorem dX7_dear_0 : decode (mC Y_X7_dear) 0 = .ok (.iload_n 1, 1) := by decide +kernel
theorem dX7_dear_1 : decode (mC Y_X7_dear) 1 = .ok (.iconst 0, 1) := by decide +kernel
theorem dX7_dear_2 : decode (mC Y_X7_dear) 2 = .ok (.iconst 1, 1) := by decide +kernel
theorem dX7_dear_3 : decode (mC Y_X7_dear) 3 = .ok (.invokestatic 72, 3) := by decide +kernel
theorem dX7_dear_6 : decode (mC Y_X7_dear) 6 = .ok (.ifCond .ne 5, 3) := by decide +kernel
theorem dX7_dear_9 : decode (mC Y_X7_dear) 9 = .ok (.iconst (-1), 1) := by decide +kernel
theorem dX7_dear_10 : decode (mC Y_X7_dear) 10 = .ok (.ireturn, 1) := by decide +kernel
theorem dX7_dear_11 : decode (mC Y_X7_dear) 11 = .ok (.iconst 0, 1) := by decide +kernel
theorem dX7_dear_12 : decode (mC Y_X7_dear) 12 = .ok (.istore_n 2, 1) := by decide +kernel
theorem dX7_dear_13 : decode (mC Y_X7_dear) 13 = .ok (.iconst 0, 1) := by decide +kernel
theorem dX7_dear_14 : decode (mC Y_X7_dear) 14 = .ok (.istore_n 3, 1) := by decide +kernel
theorem dX7_dear_15 : decode (mC Y_X7_dear) 15 = .ok (.iconst 0, 1) := by decide +kernel
theorem dX7_dear_16 : decode (mC Y_X7_dear) 16 = .ok (.istore 4, 2) := by decide +kernel
theorem dX7_dear_18 : decode (mC Y_X7_dear) 18 = .ok (.iload 4, 2) := by decide +kernel
theorem dX7_dear_20 : decode (mC Y_X7_dear) 20 = .ok (.bipush 6, 2) := by decide +kernel
theorem dX7_dear_22 : decode (mC Y_X7_dear) 22 = .ok (.if_icmp .ge 46, 3) := by decide +kernel
theorem dX7_dear_25 : decode (mC Y_X7_dear) 25 = .ok (.aload_n 0, 1) := by decide +kernel
theorem dX7_dear_26 : decode (mC Y_X7_dear) 26 = .ok (.iload 4, 2) := by decide +kernel
theorem dX7_dear_28 : decode (mC Y_X7_dear) 28 = .ok (.invokevirtual 156, 3) := by decide +kernel
theorem dX7_dear_31 : decode (mC Y_X7_dear) 31 = .ok (.invokestatic 174, 3) := by decide +kernel
theorem dX7_dear_34 : decode (mC Y_X7_dear) 34 = .ok (.istore 5, 2) := by decide +kernel
theorem dX7_dear_36 : decode (mC Y_X7_dear) 36 = .ok (.iload 5, 2) := by decide +kernel
theorem dX7_dear_38 : decode (mC Y_X7_dear) 38 = .ok (.iload_n 3, 1) := by decide +kernel
theorem dX7_dear_39 : decode (mC Y_X7_dear) 39 = .ok (.if_icmp .le 8, 3) := by decide +kernel
theorem dX7_dear_42 : decode (mC Y_X7_dear) 42 = .ok (.iload 4, 2) := by decide +kernel
theorem dX7_dear_44 : decode (mC Y_X7_dear) 44 = .ok (.goto 4, 3) := by decide +kernel
theorem dX7_dear_47 : decode (mC Y_X7_dear) 47 = .ok (.iload_n 2, 1) := by decide +kernel
theorem dX7_dear_48 : decode (mC Y_X7_dear) 48 = .ok (.istore_n 2, 1) := by decide +kernel
theorem dX7_dear_49 : decode (mC Y_X7_dear) 49 = .ok (.iload 5, 2) := by decide +kernel
theorem dX7_dear_51 : decode (mC Y_X7_dear) 51 = .ok (.iload_n 3, 1) := by decide +kernel
theorem dX7_dear_52 : decode (mC Y_X7_dear) 52 = .ok (.if_icmp .le 8, 3) := by decide +kernel
theorem dX7_dear_55 : decode (mC Y_X7_dear) 55 = .ok (.iload 5, 2) := by decide +kernel
theorem dX7_dear_57 : decode (mC Y_X7_dear) 57 = .ok (.goto 4, 3) := by decide +kernel
theorem dX7_dear_60 : decode (mC Y_X7_dear) 60 = .ok (.iload_n 3, 1) := by decide +kernel
theorem dX7_dear_61 : decode (mC Y_X7_dear) 61 = .ok (.istore_n 3, 1) := by decide +kernel
theorem dX7_dear_62 : decode (mC Y_X7_dear) 62 = .ok (.iinc 4 1, 3) := by decide +kernel
theorem dX7_dear_65 : decode (mC Y_X7_dear) 65 = .ok (.goto (-47), 3) := by decide +kernel
theorem dX7_dear_68 : decode (mC Y_X7_dear) 68 = .ok (.iload_n 1, 1) := by decide +kernel
theorem dX7_dear_69 : decode (mC Y_X7_dear) 69 = .ok (.ifCond .ne 7, 3) := by decide +kernel
theorem dX7_dear_72 : decode (mC Y_X7_dear) 72 = .ok (.iload_n 2, 1) := by decide +kernel
theorem dX7_dear_73 : decode (mC Y_X7_dear) 73 = .ok (.goto 4, 3) := by decide +kernel
theorem dX7_dear_76 : decode (mC Y_X7_dear) 76 = .ok (.iload_n 3, 1) := by decide +kernel
theorem dX7_dear_77 : decode (mC Y_X7_dear) 77 = .ok (.ireturn, 1) := by decide +kernel
theorem dX7_seen_0 : decode (mC Y_X7_seen) 0 = .ok (.aload_n 0, 1) := by decide +kernel
theorem dX7_seen_1 : decode (mC Y_X7_seen) 1 = .ok (.iload_n 1, 1) := by decide +kernel
theorem dX7_seen_2 : decode (mC Y_X7_seen) 2 = .ok (.invokevirtual 146, 3) := by decide +kernel
theorem dX7_seen_5 : decode (mC Y_X7_seen) 5 = .ok (.ifCond .eq 23, 3) := by decide +kernel
theorem dX7_seen_8 : decode (mC Y_X7_seen) 8 = .ok (.iload_n 2, 1) := by decide +kernel
theorem dX7_seen_9 : decode (mC Y_X7_seen) 9 = .ok (.iconst 0, 1) := by decide +kernel
theorem dX7_seen_10 : decode (mC Y_X7_seen) 10 = .ok (.bipush 24, 2) := by decide +kernel
theorem dX7_seen_12 : decode (mC Y_X7_seen) 12 = .ok (.invokestatic 72, 3) := by decide +kernel
theorem dX7_seen_15 : decode (mC Y_X7_seen) 15 = .ok (.ifCond .eq 13, 3) := by decide +kernel
theorem dX7_seen_18 : decode (mC Y_X7_seen) 18 = .ok (.iload_n 3, 1) := by decide +kernel
theorem dX7_seen_19 : decode (mC Y_X7_seen) 19 = .ok (.iconst 0, 1) := by decide +kernel
theorem dX7_seen_20 : decode (mC Y_X7_seen) 20 = .ok (.bipush 11, 2) := by decide +kernel
theorem dX7_seen_22 : decode (mC Y_X7_seen) 22 = .ok (.invokestatic 72, 3) := by decide +kernel
theorem dX7_seen_25 : decode (mC Y_X7_seen) 25 = .ok (.ifCond .ne 5, 3) := by decide +kernel
theorem dX7_seen_28 : decode (mC Y_X7_seen) 28 = .ok (.iconst (-1), 1) := by decide +kernel
theorem dX7_seen_29 : decode (mC Y_X7_seen) 29 = .ok (.ireturn, 1) := by decide +kernel
theorem dX7_seen_30 : decode (mC Y_X7_seen) 30 = .ok (.aload_n 0, 1) := by decide +kernel
theorem dX7_seen_31 : decode (mC Y_X7_seen) 31 = .ok (.getfield 115, 3) := by decide +kernel
theorem dX7_seen_34 : decode (mC Y_X7_seen) 34 = .ok (.bipush 6, 2) := by decide +kernel
theorem dX7_seen_36 : decode (mC Y_X7_seen) 36 = .ok (.if_icmp .ne 6, 3) := by decide +kernel
theorem dX7_seen_39 : decode (mC Y_X7_seen) 39 = .ok (.bipush (-3), 2) := by decide +kernel
theorem dX7_seen_41 : decode (mC Y_X7_seen) 41 = .ok (.ireturn, 1) := by decide +kernel
theorem dX7_seen_42 : decode (mC Y_X7_seen) 42 = .ok (.aload_n 0, 1) := by decide +kernel
theorem dX7_seen_43 : decode (mC Y_X7_seen) 43 = .ok (.getfield 25, 3) := by decide +kernel
theorem dX7_seen_46 : decode (mC Y_X7_seen) 46 = .ok (.aload_n 0, 1) := by decide +kernel
theorem dX7_seen_47 : decode (mC Y_X7_seen) 47 = .ok (.getfield 115, 3) := by decide +kernel
theorem dX7_seen_50 : decode (mC Y_X7_seen) 50 = .ok (.iload_n 1, 1) := by decide +kernel
theorem dX7_seen_51 : decode (mC Y_X7_seen) 51 = .ok (.iastore, 1) := by decide +kernel
theorem dX7_seen_52 : decode (mC Y_X7_seen) 52 = .ok (.aload_n 0, 1) := by decide +kernel
theorem dX7_seen_53 : decode (mC Y_X7_seen) 53 = .ok (.getfield 28, 3) := by decide +kernel
theorem dX7_seen_56 : decode (mC Y_X7_seen) 56 = .ok (.aload_n 0, 1) := by decide +kernel
theorem dX7_seen_57 : decode (mC Y_X7_seen) 57 = .ok (.getfield 115, 3) := by decide +kernel
theorem dX7_seen_60 : decode (mC Y_X7_seen) 60 = .ok (.iload_n 2, 1) := by decide +kernel
theorem dX7_seen_61 : decode (mC Y_X7_seen) 61 = .ok (.iastore, 1) := by decide +kernel
theorem dX7_seen_62 : decode (mC Y_X7_seen) 62 = .ok (.aload_n 0, 1) := by decide +kernel
theorem dX7_seen_63 : decode (mC Y_X7_seen) 63 = .ok (.getfield 31, 3) := by decide +kernel
theorem dX7_seen_66 : decode (mC Y_X7_seen) 66 = .ok (.aload_n 0, 1) := by decide +kernel
theorem dX7_seen_67 : decode (mC Y_X7_seen) 67 = .ok (.getfield 115, 3) := by decide +kernel
theorem dX7_seen_70 : decode (mC Y_X7_seen) 70 = .ok (.iload_n 3, 1) := by decide +kernel
theorem dX7_seen_71 : decode (mC Y_X7_seen) 71 = .ok (.iastore, 1) := by decide +kernel
theorem dX7_seen_72 : decode (mC Y_X7_seen) 72 = .ok (.aload_n 0, 1) := by decide +kernel
theorem dX7_seen_73 : decode (mC Y_X7_seen) 73 = .ok (.dup, 1) := by decide +kernel
theorem dX7_seen_74 : decode (mC Y_X7_seen) 74 = .ok (.getfield 115, 3) := by decide +kernel
theorem dX7_seen_77 : decode (mC Y_X7_seen) 77 = .ok (.iconst 1, 1) := by decide +kernel
theorem dX7_seen_78 : decode (mC Y_X7_seen) 78 = .ok (.iadd, 1) := by decide +kernel
theorem dX7_seen_79 : decode (mC Y_X7_seen) 79 = .ok (.putfield 115, 3) := by decide +kernel
theorem dX7_seen_82 : decode (mC Y_X7_seen) 82 = .ok (.aload_n 0, 1) := by decide +kernel
theorem dX7_seen_83 : decode (mC Y_X7_seen) 83 = .ok (.getfield 115, 3) := by decide +kernel
theorem dX7_seen_86 : decode (mC Y_X7_seen) 86 = .ok (.ireturn, 1) := by decide +kernel
theorem dX7_isSo_0 : decode (mC Y_X7_isSo) 0 = .ok (.iconst 1, 1) := by decide +kernel
theorem dX7_isSo_1 : decode (mC Y_X7_isSo) 1 = .ok (.istore_n 2, 1) := by decide +kernel
theorem dX7_isSo_2 : decode (mC Y_X7_isSo) 2 = .ok (.iconst 0, 1) := by decide +kernel
theorem dX7_isSo_3 : decode (mC Y_X7_isSo) 3 = .ok (.istore_n 3, 1) := by decide +kernel
theorem dX7_isSo_4 : decode (mC Y_X7_isSo) 4 = .ok (.iload_n 3, 1) := by decide +kernel
theorem dX7_isSo_5 : decode (mC Y_X7_isSo) 5 = .ok (.aload_n 0, 1) := by decide +kernel
theorem dX7_isSo_6 : decode (mC Y_X7_isSo) 6 = .ok (.getfield 115, 3) := by decide +kernel
theorem dX7_isSo_9 : decode (mC Y_X7_isSo) 9 = .ok (.if_icmp .ge 49, 3) := by decide +kernel
theorem dX7_isSo_12 : decode (mC Y_X7_isSo) 12 = .ok (.iload_n 2, 1) := by decide +kernel
theorem dX7_isSo_13 : decode (mC Y_X7_isSo) 13 = .ok (.ifCond .eq 37, 3) := by decide +kernel
theorem dX7_isSo_16 : decode (mC Y_X7_isSo) 16 = .ok (.aload_n 0, 1) := by decide +kernel
theorem dX7_isSo_17 : decode (mC Y_X7_isSo) 17 = .ok (.getfield 25, 3) := by decide +kernel
theorem dX7_isSo_20 : decode (mC Y_X7_isSo) 20 = .ok (.iload_n 3, 1) := by decide +kernel
theorem dX7_isSo_21 : decode (mC Y_X7_isSo) 21 = .ok (.iaload, 1) := by decide +kernel
theorem dX7_isSo_22 : decode (mC Y_X7_isSo) 22 = .ok (.iload_n 1, 1) := by decide +kernel
theorem dX7_isSo_23 : decode (mC Y_X7_isSo) 23 = .ok (.if_icmp .ne 23, 3) := by decide +kernel
theorem dX7_isSo_26 : decode (mC Y_X7_isSo) 26 = .ok (.aload_n 0, 1) := by decide +kernel
theorem dX7_isSo_27 : decode (mC Y_X7_isSo) 27 = .ok (.iload_n 1, 1) := by decide +kernel
theorem dX7_isSo_28 : decode (mC Y_X7_isSo) 28 = .ok (.aload_n 0, 1) := by decide +kernel
theorem dX7_isSo_29 : decode (mC Y_X7_isSo) 29 = .ok (.getfield 28, 3) := by decide +kernel
theorem dX7_isSo_32 : decode (mC Y_X7_isSo) 32 = .ok (.iload_n 3, 1) := by decide +kernel
theorem dX7_isSo_33 : decode (mC Y_X7_isSo) 33 = .ok (.iaload, 1) := by decide +kernel
theorem dX7_isSo_34 : decode (mC Y_X7_isSo) 34 = .ok (.invokevirtual 180, 3) := by decide +kernel
theorem dX7_isSo_37 : decode (mC Y_X7_isSo) 37 = .ok (.aload_n 0, 1) := by decide +kernel
theorem dX7_isSo_38 : decode (mC Y_X7_isSo) 38 = .ok (.getfield 31, 3) := by decide +kernel
theorem dX7_isSo_41 : decode (mC Y_X7_isSo) 41 = .ok (.iload_n 3, 1) := by decide +kernel
theorem dX7_isSo_42 : decode (mC Y_X7_isSo) 42 = .ok (.iaload, 1) := by decide +kernel
theorem dX7_isSo_43 : decode (mC Y_X7_isSo) 43 = .ok (.if_icmp .ne 7, 3) := by decide +kernel
theorem dX7_isSo_46 : decode (mC Y_X7_isSo) 46 = .ok (.iconst 1, 1) := by decide +kernel
theorem dX7_isSo_47 : decode (mC Y_X7_isSo) 47 = .ok (.goto 4, 3) := by decide +kernel
theorem dX7_isSo_50 : decode (mC Y_X7_isSo) 50 = .ok (.iconst 0, 1) := by decide +kernel
theorem dX7_isSo_51 : decode (mC Y_X7_isSo) 51 = .ok (.istore_n 2, 1) := by decide +kernel
theorem dX7_isSo_52 : decode (mC Y_X7_isSo) 52 = .ok (.iinc 3 1, 3) := by decide +kernel
theorem dX7_isSo_55 : decode (mC Y_X7_isSo) 55 = .ok (.goto (-51), 3) := by decide +kernel
theorem dX7_isSo_58 : decode (mC Y_X7_isSo) 58 = .ok (.iload_n 2, 1) := by decide +kernel
theorem dX7_isSo_59 : decode (mC Y_X7_isSo) 59 = .ok (.ireturn, 1) := by decide +kernel
theorem dX7_kinds_0 : decode (mC Y_X7_kinds) 0 = .ok (.aload_n 0, 1) := by decide +kernel
theorem dX7_kinds_1 : decode (mC Y_X7_kinds) 1 = .ok (.iload_n 1, 1) := by decide +kernel
theorem dX7_kinds_2 : decode (mC Y_X7_kinds) 2 = .ok (.invokevirtual 146, 3) := by decide +kernel
theorem dX7_kinds_5 : decode (mC Y_X7_kinds) 5 = .ok (.ifCond .ne 5, 3) := by decide +kernel
theorem dX7_kinds_8 : decode (mC Y_X7_kinds) 8 = .ok (.iconst (-1), 1) := by decide +kernel
theorem dX7_kinds_9 : decode (mC Y_X7_kinds) 9 = .ok (.ireturn, 1) := by decide +kernel
theorem dX7_kinds_10 : decode (mC Y_X7_kinds) 10 = .ok (.aload_n 0, 1) := by decide +kernel
theorem dX7_kinds_11 : decode (mC Y_X7_kinds) 11 = .ok (.getfield 9, 3) := by decide +kernel
theorem dX7_kinds_14 : decode (mC Y_X7_kinds) 14 = .ok (.iload_n 1, 1) := by decide +kernel
theorem dX7_kinds_15 : decode (mC Y_X7_kinds) 15 = .ok (.iaload, 1) := by decide +kernel
theorem dX7_kinds_16 : decode (mC Y_X7_kinds) 16 = .ok (.istore_n 2, 1) := by decide +kernel
theorem dX7_kinds_17 : decode (mC Y_X7_kinds) 17 = .ok (.iconst 0, 1) := by decide +kernel
theorem dX7_kinds_18 : decode (mC Y_X7_kinds) 18 = .ok (.istore_n 3, 1) := by decide +kernel
theorem dX7_kinds_19 : decode (mC Y_X7_kinds) 19 = .ok (.iconst 0, 1) := by decide +kernel
theorem dX7_kinds_20 : decode (mC Y_X7_kinds) 20 = .ok (.istore 4, 2) := by decide +kernel
theorem dX7_kinds_22 : decode (mC Y_X7_kinds) 22 = .ok (.iload 4, 2) := by decide +kernel
theorem dX7_kinds_24 : decode (mC Y_X7_kinds) 24 = .ok (.iconst 3, 1) := by decide +kernel
theorem dX7_kinds_25 : decode (mC Y_X7_kinds) 25 = .ok (.if_icmp .gt 36, 3) := by decide +kernel
theorem dX7_kinds_28 : decode (mC Y_X7_kinds) 28 = .ok (.aload_n 0, 1) := by decide +kernel
theorem dX7_kinds_29 : decode (mC Y_X7_kinds) 29 = .ok (.getfield 9, 3) := by decide +kernel
theorem dX7_kinds_32 : decode (mC Y_X7_kinds) 32 = .ok (.iload_n 1, 1) := by decide +kernel
theorem dX7_kinds_33 : decode (mC Y_X7_kinds) 33 = .ok (.iload 4, 2) := by decide +kernel
theorem dX7_kinds_35 : decode (mC Y_X7_kinds) 35 = .ok (.iastore, 1) := by decide +kernel
theorem dX7_kinds_36 : decode (mC Y_X7_kinds) 36 = .ok (.iload_n 3, 1) := by decide +kernel
theorem dX7_kinds_37 : decode (mC Y_X7_kinds) 37 = .ok (.aload_n 0, 1) := by decide +kernel
theorem dX7_kinds_38 : decode (mC Y_X7_kinds) 38 = .ok (.iload_n 1, 1) := by decide +kernel
theorem dX7_kinds_39 : decode (mC Y_X7_kinds) 39 = .ok (.invokevirtual 210, 3) := by decide +kernel
theorem dX7_kinds_42 : decode (mC Y_X7_kinds) 42 = .ok (.ifCond .eq 10, 3) := by decide +kernel
theorem dX7_kinds_45 : decode (mC Y_X7_kinds) 45 = .ok (.iconst 1, 1) := by decide +kernel
theorem dX7_kinds_46 : decode (mC Y_X7_kinds) 46 = .ok (.iload 4, 2) := by decide +kernel
theorem dX7_kinds_48 : decode (mC Y_X7_kinds) 48 = .ok (.ishl, 1) := by decide +kernel
theorem dX7_kinds_49 : decode (mC Y_X7_kinds) 49 = .ok (.goto 4, 3) := by decide +kernel
theorem dX7_kinds_52 : decode (mC Y_X7_kinds) 52 = .ok (.iconst 0, 1) := by decide +kernel
theorem dX7_kinds_53 : decode (mC Y_X7_kinds) 53 = .ok (.ior, 1) := by decide +kernel
theorem dX7_kinds_54 : decode (mC Y_X7_kinds) 54 = .ok (.istore_n 3, 1) := by decide +kernel
theorem dX7_kinds_55 : decode (mC Y_X7_kinds) 55 = .ok (.iinc 4 1, 3) := by decide +kernel
theorem dX7_kinds_58 : decode (mC Y_X7_kinds) 58 = .ok (.goto (-36), 3) := by decide +kernel
theorem dX7_kinds_61 : decode (mC Y_X7_kinds) 61 = .ok (.aload_n 0, 1) := by decide +kernel
theorem dX7_kinds_62 : decode (mC Y_X7_kinds) 62 = .ok (.getfield 9, 3) := by decide +kernel
theorem dX7_kinds_65 : decode (mC Y_X7_kinds) 65 = .ok (.iload_n 1, 1) := by decide +kernel
theorem dX7_kinds_66 : decode (mC Y_X7_kinds) 66 = .ok (.iload_n 2, 1) := by decide +kernel
theorem dX7_kinds_67 : decode (mC Y_X7_kinds) 67 = .ok (.iastore, 1) := by decide +kernel
theorem dX7_kinds_68 : decode (mC Y_X7_kinds) 68 = .ok (.iload_n 3, 1) := by decide +kernel
theorem dX7_kinds_69 : decode (mC Y_X7_kinds) 69 = .ok (.ireturn, 1) := by decide +kernel
theorem dX7_speeds_0 : decode (mC Y_X7_speeds) 0 = .ok (.aload_n 0, 1) := by decide +kernel
theorem dX7_speeds_1 : decode (mC Y_X7_speeds) 1 = .ok (.iload_n 1, 1) := by decide +kernel
theorem dX7_speeds_2 : decode (mC Y_X7_speeds) 2 = .ok (.invokevirtual 146, 3) := by decide +kernel
theorem dX7_speeds_5 : decode (mC Y_X7_speeds) 5 = .ok (.ifCond .ne 5, 3) := by decide +kernel
theorem dX7_speeds_8 : decode (mC Y_X7_speeds) 8 = .ok (.iconst (-1), 1) := by decide +kernel
theorem dX7_speeds_9 : decode (mC Y_X7_speeds) 9 = .ok (.ireturn, 1) := by decide +kernel
theorem dX7_speeds_10 : decode (mC Y_X7_speeds) 10 = .ok (.aload_n 0, 1) := by decide +kernel
theorem dX7_speeds_11 : decode (mC Y_X7_speeds) 11 = .ok (.getfield 22, 3) := by decide +kernel
theorem dX7_speeds_14 : decode (mC Y_X7_speeds) 14 = .ok (.iload_n 1, 1) := by decide +kernel
theorem dX7_speeds_15 : decode (mC Y_X7_speeds) 15 = .ok (.iaload, 1) := by decide +kernel
theorem dX7_speeds_16 : decode (mC Y_X7_speeds) 16 = .ok (.istore_n 2, 1) := by decide +kernel
theorem dX7_speeds_17 : decode (mC Y_X7_speeds) 17 = .ok (.iconst 0, 1) := by decide +kernel
theorem dX7_speeds_18 : decode (mC Y_X7_speeds) 18 = .ok (.istore_n 3, 1) := by decide +kernel
theorem dX7_speeds_19 : decode (mC Y_X7_speeds) 19 = .ok (.iconst 0, 1) := by decide +kernel
theorem dX7_speeds_20 : decode (mC Y_X7_speeds) 20 = .ok (.istore 4, 2) := by decide +kernel
theorem dX7_speeds_22 : decode (mC Y_X7_speeds) 22 = .ok (.iload 4, 2) := by decide +kernel
theorem dX7_speeds_24 : decode (mC Y_X7_speeds) 24 = .ok (.bipush 12, 2) := by decide +kernel
theorem dX7_speeds_26 : decode (mC Y_X7_speeds) 26 = .ok (.if_icmp .ge 36, 3) := by decide +kernel
theorem dX7_speeds_29 : decode (mC Y_X7_speeds) 29 = .ok (.aload_n 0, 1) := by decide +kernel
theorem dX7_speeds_30 : decode (mC Y_X7_speeds) 30 = .ok (.getfield 22, 3) := by decide +kernel
theorem dX7_speeds_33 : decode (mC Y_X7_speeds) 33 = .ok (.iload_n 1, 1) := by decide +kernel
theorem dX7_speeds_34 : decode (mC Y_X7_speeds) 34 = .ok (.iload 4, 2) := by decide +kernel
theorem dX7_speeds_36 : decode (mC Y_X7_speeds) 36 = .ok (.iastore, 1) := by decide +kernel
theorem dX7_speeds_37 : decode (mC Y_X7_speeds) 37 = .ok (.iload_n 3, 1) := by decide +kernel
theorem dX7_speeds_38 : decode (mC Y_X7_speeds) 38 = .ok (.aload_n 0, 1) := by decide +kernel
theorem dX7_speeds_39 : decode (mC Y_X7_speeds) 39 = .ok (.iload_n 1, 1) := by decide +kernel
theorem dX7_speeds_40 : decode (mC Y_X7_speeds) 40 = .ok (.invokevirtual 210, 3) := by decide +kernel
theorem dX7_speeds_43 : decode (mC Y_X7_speeds) 43 = .ok (.ifCond .eq 10, 3) := by decide +kernel
theorem dX7_speeds_46 : decode (mC Y_X7_speeds) 46 = .ok (.iconst 1, 1) := by decide +kernel
theorem dX7_speeds_47 : decode (mC Y_X7_speeds) 47 = .ok (.iload 4, 2) := by decide +kernel
theorem dX7_speeds_49 : decode (mC Y_X7_speeds) 49 = .ok (.ishl, 1) := by decide +kernel
theorem dX7_speeds_50 : decode (mC Y_X7_speeds) 50 = .ok (.goto 4, 3) := by decide +kernel
theorem dX7_speeds_53 : decode (mC Y_X7_speeds) 53 = .ok (.iconst 0, 1) := by decide +kernel
theorem dX7_speeds_54 : decode (mC Y_X7_speeds) 54 = .ok (.ior, 1) := by decide +kernel
theorem dX7_speeds_55 : decode (mC Y_X7_speeds) 55 = .ok (.istore_n 3, 1) := by decide +kernel
theorem dX7_speeds_56 : decode (mC Y_X7_speeds) 56 = .ok (.iinc 4 1, 3) := by decide +kernel
theorem dX7_speeds_59 : decode (mC Y_X7_speeds) 59 = .ok (.goto (-37), 3) := by decide +kernel
theorem dX7_speeds_62 : decode (mC Y_X7_speeds) 62 = .ok (.aload_n 0, 1) := by decide +kernel
theorem dX7_speeds_63 : decode (mC Y_X7_speeds) 63 = .ok (.getfield 22, 3) := by decide +kernel
theorem dX7_speeds_66 : decode (mC Y_X7_speeds) 66 = .ok (.iload_n 1, 1) := by decide +kernel
theorem dX7_speeds_67 : decode (mC Y_X7_speeds) 67 = .ok (.iload_n 2, 1) := by decide +kernel
theorem dX7_speeds_68 : decode (mC Y_X7_speeds) 68 = .ok (.iastore, 1) := by decide +kernel
theorem dX7_speeds_69 : decode (mC Y_X7_speeds) 69 = .ok (.iload_n 3, 1) := by decide +kernel
theorem dX7_speeds_70 : decode (mC Y_X7_speeds) 70 = .ok (.ireturn, 1) := by decide +kernel
theorem dX7_told_0 : decode (mC Y_X7_told) 0 = .ok (.iload_n 1, 1) := by decide +kernel
theorem dX7_told_1 : decode (mC Y_X7_told) 1 = .ok (.iconst 0, 1) := by decide +kernel
theorem dX7_told_2 : decode (mC Y_X7_told) 2 = .ok (.bipush 24, 2) := by decide +kernel
theorem dX7_told_4 : decode (mC Y_X7_told) 4 = .ok (.invokestatic 72, 3) := by decide +kernel
theorem dX7_told_7 : decode (mC Y_X7_told) 7 = .ok (.ifCond .eq 13, 3) := by decide +kernel
theorem dX7_told_10 : decode (mC Y_X7_told) 10 = .ok (.iload_n 2, 1) := by decide +kernel
theorem dX7_told_11 : decode (mC Y_X7_told) 11 = .ok (.iconst 0, 1) := by decide +kernel
theorem dX7_told_12 : decode (mC Y_X7_told) 12 = .ok (.bipush 11, 2) := by decide +kernel
theorem dX7_told_14 : decode (mC Y_X7_told) 14 = .ok (.invokestatic 72, 3) := by decide +kernel
theorem dX7_told_17 : decode (mC Y_X7_told) 17 = .ok (.ifCond .ne 5, 3) := by decide +kernel
theorem dX7_told_20 : decode (mC Y_X7_told) 20 = .ok (.iconst (-1), 1) := by decide +kernel
theorem dX7_told_21 : decode (mC Y_X7_told) 21 = .ok (.ireturn, 1) := by decide +kernel
theorem dX7_told_22 : decode (mC Y_X7_told) 22 = .ok (.aload_n 0, 1) := by decide +kernel
theorem dX7_told_23 : decode (mC Y_X7_told) 23 = .ok (.getfield 118, 3) := by decide +kernel
theorem dX7_told_26 : decode (mC Y_X7_told) 26 = .ok (.bipush 6, 2) := by decide +kernel
theorem dX7_told_28 : decode (mC Y_X7_told) 28 = .ok (.if_icmp .ne 6, 3) := by decide +kernel
theorem dX7_told_31 : decode (mC Y_X7_told) 31 = .ok (.bipush (-3), 2) := by decide +kernel
theorem dX7_told_33 : decode (mC Y_X7_told) 33 = .ok (.ireturn, 1) := by decide +kernel
theorem dX7_told_34 : decode (mC Y_X7_told) 34 = .ok (.aload_n 0, 1) := by decide +kernel
theorem dX7_told_35 : decode (mC Y_X7_told) 35 = .ok (.getfield 34, 3) := by decide +kernel
theorem dX7_told_38 : decode (mC Y_X7_told) 38 = .ok (.aload_n 0, 1) := by decide +kernel
theorem dX7_told_39 : decode (mC Y_X7_told) 39 = .ok (.getfield 118, 3) := by decide +kernel
theorem dX7_told_42 : decode (mC Y_X7_told) 42 = .ok (.iload_n 1, 1) := by decide +kernel
theorem dX7_told_43 : decode (mC Y_X7_told) 43 = .ok (.iastore, 1) := by decide +kernel
theorem dX7_told_44 : decode (mC Y_X7_told) 44 = .ok (.aload_n 0, 1) := by decide +kernel
theorem dX7_told_45 : decode (mC Y_X7_told) 45 = .ok (.getfield 37, 3) := by decide +kernel
theorem dX7_told_48 : decode (mC Y_X7_told) 48 = .ok (.aload_n 0, 1) := by decide +kernel
theorem dX7_told_49 : decode (mC Y_X7_told) 49 = .ok (.getfield 118, 3) := by decide +kernel
theorem dX7_told_52 : decode (mC Y_X7_told) 52 = .ok (.iload_n 2, 1) := by decide +kernel
theorem dX7_told_53 : decode (mC Y_X7_told) 53 = .ok (.iastore, 1) := by decide +kernel
theorem dX7_told_54 : decode (mC Y_X7_told) 54 = .ok (.aload_n 0, 1) := by decide +kernel
theorem dX7_told_55 : decode (mC Y_X7_told) 55 = .ok (.dup, 1) := by decide +kernel
theorem dX7_told_56 : decode (mC Y_X7_told) 56 = .ok (.getfield 118, 3) := by decide +kernel
theorem dX7_told_59 : decode (mC Y_X7_told) 59 = .ok (.iconst 1, 1) := by decide +kernel
theorem dX7_told_60 : decode (mC Y_X7_told) 60 = .ok (.iadd, 1) := by decide +kernel
theorem dX7_told_61 : decode (mC Y_X7_told) 61 = .ok (.putfield 118, 3) := by decide +kernel
theorem dX7_told_64 : decode (mC Y_X7_told) 64 = .ok (.aload_n 0, 1) := by decide +kernel
theorem dX7_told_65 : decode (mC Y_X7_told) 65 = .ok (.getfield 118, 3) := by decide +kernel
theorem dX7_told_68 : decode (mC Y_X7_told) 68 = .ok (.ireturn, 1) := by decide +kernel
theorem dX7_isRing_0 : decode (mC Y_X7_isRing) 0 = .ok (.iconst 1, 1) := by decide +kernel
theorem dX7_isRing_1 : decode (mC Y_X7_isRing) 1 = .ok (.istore_n 3, 1) := by decide +kernel
theorem dX7_isRing_2 : decode (mC Y_X7_isRing) 2 = .ok (.iconst 0, 1) := by decide +kernel
theorem dX7_isRing_3 : decode (mC Y_X7_isRing) 3 = .ok (.istore 4, 2) := by decide +kernel
theorem dX7_isRing_5 : decode (mC Y_X7_isRing) 5 = .ok (.iload 4, 2) := by decide +kernel
theorem dX7_isRing_7 : decode (mC Y_X7_isRing) 7 = .ok (.aload_n 0, 1) := by decide +kernel
theorem dX7_isRing_8 : decode (mC Y_X7_isRing) 8 = .ok (.getfield 118, 3) := by decide +kernel
theorem dX7_isRing_11 : decode (mC Y_X7_isRing) 11 = .ok (.if_icmp .ge 43, 3) := by decide +kernel
theorem dX7_isRing_14 : decode (mC Y_X7_isRing) 14 = .ok (.iload_n 3, 1) := by decide +kernel
theorem dX7_isRing_15 : decode (mC Y_X7_isRing) 15 = .ok (.ifCond .eq 31, 3) := by decide +kernel
theorem dX7_isRing_18 : decode (mC Y_X7_isRing) 18 = .ok (.iload_n 1, 1) := by decide +kernel
theorem dX7_isRing_19 : decode (mC Y_X7_isRing) 19 = .ok (.aload_n 0, 1) := by decide +kernel
theorem dX7_isRing_20 : decode (mC Y_X7_isRing) 20 = .ok (.getfield 34, 3) := by decide +kernel
theorem dX7_isRing_23 : decode (mC Y_X7_isRing) 23 = .ok (.iload 4, 2) := by decide +kernel
theorem dX7_isRing_25 : decode (mC Y_X7_isRing) 25 = .ok (.iaload, 1) := by decide +kernel
theorem dX7_isRing_26 : decode (mC Y_X7_isRing) 26 = .ok (.iload_n 2, 1) := by decide +kernel
theorem dX7_isRing_27 : decode (mC Y_X7_isRing) 27 = .ok (.imul, 1) := by decide +kernel
theorem dX7_isRing_28 : decode (mC Y_X7_isRing) 28 = .ok (.iadd, 1) := by decide +kernel
theorem dX7_isRing_29 : decode (mC Y_X7_isRing) 29 = .ok (.bipush 12, 2) := by decide +kernel
theorem dX7_isRing_31 : decode (mC Y_X7_isRing) 31 = .ok (.irem, 1) := by decide +kernel
theorem dX7_isRing_32 : decode (mC Y_X7_isRing) 32 = .ok (.aload_n 0, 1) := by decide +kernel
theorem dX7_isRing_33 : decode (mC Y_X7_isRing) 33 = .ok (.getfield 37, 3) := by decide +kernel
theorem dX7_isRing_36 : decode (mC Y_X7_isRing) 36 = .ok (.iload 4, 2) := by decide +kernel
theorem dX7_isRing_38 : decode (mC Y_X7_isRing) 38 = .ok (.iaload, 1) := by decide +kernel
theorem dX7_isRing_39 : decode (mC Y_X7_isRing) 39 = .ok (.if_icmp .ne 7, 3) := by decide +kernel
theorem dX7_isRing_42 : decode (mC Y_X7_isRing) 42 = .ok (.iconst 1, 1) := by decide +kernel
theorem dX7_isRing_43 : decode (mC Y_X7_isRing) 43 = .ok (.goto 4, 3) := by decide +kernel
theorem dX7_isRing_46 : decode (mC Y_X7_isRing) 46 = .ok (.iconst 0, 1) := by decide +kernel
theorem dX7_isRing_47 : decode (mC Y_X7_isRing) 47 = .ok (.istore_n 3, 1) := by decide +kernel
theorem dX7_isRing_48 : decode (mC Y_X7_isRing) 48 = .ok (.iinc 4 1, 3) := by decide +kernel
theorem dX7_isRing_51 : decode (mC Y_X7_isRing) 51 = .ok (.goto (-46), 3) := by decide +kernel
theorem dX7_isRing_54 : decode (mC Y_X7_isRing) 54 = .ok (.iload_n 3, 1) := by decide +kernel
theorem dX7_isRing_55 : decode (mC Y_X7_isRing) 55 = .ok (.ireturn, 1) := by decide +kernel
theorem dX7_rings_0 : decode (mC Y_X7_rings) 0 = .ok (.iload_n 1, 1) := by decide +kernel
theorem dX7_rings_1 : decode (mC Y_X7_rings) 1 = .ok (.iconst 0, 1) := by decide +kernel
theorem dX7_rings_2 : decode (mC Y_X7_rings) 2 = .ok (.iconst 1, 1) := by decide +kernel
theorem dX7_rings_3 : decode (mC Y_X7_rings) 3 = .ok (.invokestatic 72, 3) := by decide +kernel
theorem dX7_rings_6 : decode (mC Y_X7_rings) 6 = .ok (.ifCond .ne 5, 3) := by decide +kernel
theorem dX7_rings_9 : decode (mC Y_X7_rings) 9 = .ok (.iconst (-1), 1) := by decide +kernel
theorem dX7_rings_10 : decode (mC Y_X7_rings) 10 = .ok (.ireturn, 1) := by decide +kernel
theorem dX7_rings_11 : decode (mC Y_X7_rings) 11 = .ok (.iconst 0, 1) := by decide +kernel
theorem dX7_rings_12 : decode (mC Y_X7_rings) 12 = .ok (.istore_n 2, 1) := by decide +kernel
theorem dX7_rings_13 : decode (mC Y_X7_rings) 13 = .ok (.bipush (-4), 2) := by decide +kernel
theorem dX7_rings_15 : decode (mC Y_X7_rings) 15 = .ok (.istore_n 3, 1) := by decide +kernel
theorem dX7_rings_16 : decode (mC Y_X7_rings) 16 = .ok (.bipush 11, 2) := by decide +kernel
theorem dX7_rings_18 : decode (mC Y_X7_rings) 18 = .ok (.istore 4, 2) := by decide +kernel
theorem dX7_rings_20 : decode (mC Y_X7_rings) 20 = .ok (.iload 4, 2) := by decide +kernel
theorem dX7_rings_22 : decode (mC Y_X7_rings) 22 = .ok (.ifCond .lt 65, 3) := by decide +kernel
theorem dX7_rings_25 : decode (mC Y_X7_rings) 25 = .ok (.bipush 11, 2) := by decide +kernel
theorem dX7_rings_27 : decode (mC Y_X7_rings) 27 = .ok (.istore 5, 2) := by decide +kernel
theorem dX7_rings_29 : decode (mC Y_X7_rings) 29 = .ok (.iload 5, 2) := by decide +kernel
theorem dX7_rings_31 : decode (mC Y_X7_rings) 31 = .ok (.ifCond .lt 50, 3) := by decide +kernel
theorem dX7_rings_34 : decode (mC Y_X7_rings) 34 = .ok (.aload_n 0, 1) := by decide +kernel
theorem dX7_rings_35 : decode (mC Y_X7_rings) 35 = .ok (.iload 4, 2) := by decide +kernel
theorem dX7_rings_37 : decode (mC Y_X7_rings) 37 = .ok (.iload 5, 2) := by decide +kernel
theorem dX7_rings_39 : decode (mC Y_X7_rings) 39 = .ok (.invokevirtual 213, 3) := by decide +kernel
theorem dX7_rings_42 : decode (mC Y_X7_rings) 42 = .ok (.istore 6, 2) := by decide +kernel
theorem dX7_rings_44 : decode (mC Y_X7_rings) 44 = .ok (.iload 6, 2) := by decide +kernel
theorem dX7_rings_46 : decode (mC Y_X7_rings) 46 = .ok (.ifCond .eq 14, 3) := by decide +kernel
theorem dX7_rings_49 : decode (mC Y_X7_rings) 49 = .ok (.bipush 12, 2) := by decide +kernel
theorem dX7_rings_51 : decode (mC Y_X7_rings) 51 = .ok (.iload 4, 2) := by decide +kernel
theorem dX7_rings_53 : decode (mC Y_X7_rings) 53 = .ok (.imul, 1) := by decide +kernel
theorem dX7_rings_54 : decode (mC Y_X7_rings) 54 = .ok (.iload 5, 2) := by decide +kernel
theorem dX7_rings_56 : decode (mC Y_X7_rings) 56 = .ok (.iadd, 1) := by decide +kernel
theorem dX7_rings_57 : decode (mC Y_X7_rings) 57 = .ok (.goto 4, 3) := by decide +kernel
theorem dX7_rings_60 : decode (mC Y_X7_rings) 60 = .ok (.iload_n 3, 1) := by decide +kernel
theorem dX7_rings_61 : decode (mC Y_X7_rings) 61 = .ok (.istore_n 3, 1) := by decide +kernel
theorem dX7_rings_62 : decode (mC Y_X7_rings) 62 = .ok (.iload_n 2, 1) := by decide +kernel
theorem dX7_rings_63 : decode (mC Y_X7_rings) 63 = .ok (.iload 6, 2) := by decide +kernel
theorem dX7_rings_65 : decode (mC Y_X7_rings) 65 = .ok (.ifCond .eq 7, 3) := by decide +kernel
theorem dX7_rings_68 : decode (mC Y_X7_rings) 68 = .ok (.iconst 1, 1) := by decide +kernel
theorem dX7_rings_69 : decode (mC Y_X7_rings) 69 = .ok (.goto 4, 3) := by decide +kernel
theorem dX7_rings_72 : decode (mC Y_X7_rings) 72 = .ok (.iconst 0, 1) := by decide +kernel
theorem dX7_rings_73 : decode (mC Y_X7_rings) 73 = .ok (.iadd, 1) := by decide +kernel
theorem dX7_rings_74 : decode (mC Y_X7_rings) 74 = .ok (.istore_n 2, 1) := by decide +kernel
theorem dX7_rings_75 : decode (mC Y_X7_rings) 75 = .ok (.iinc 5 (-1), 3) := by decide +kernel
theorem dX7_rings_78 : decode (mC Y_X7_rings) 78 = .ok (.goto (-49), 3) := by decide +kernel
theorem dX7_rings_81 : decode (mC Y_X7_rings) 81 = .ok (.iinc 4 (-1), 3) := by decide +kernel
theorem dX7_rings_84 : decode (mC Y_X7_rings) 84 = .ok (.goto (-64), 3) := by decide +kernel
theorem dX7_rings_87 : decode (mC Y_X7_rings) 87 = .ok (.iload_n 1, 1) := by decide +kernel
theorem dX7_rings_88 : decode (mC Y_X7_rings) 88 = .ok (.ifCond .ne 7, 3) := by decide +kernel
theorem dX7_rings_91 : decode (mC Y_X7_rings) 91 = .ok (.iload_n 2, 1) := by decide +kernel
theorem dX7_rings_92 : decode (mC Y_X7_rings) 92 = .ok (.goto 4, 3) := by decide +kernel
theorem dX7_rings_95 : decode (mC Y_X7_rings) 95 = .ok (.iload_n 3, 1) := by decide +kernel
theorem dX7_rings_96 : decode (mC Y_X7_rings) 96 = .ok (.ireturn, 1) := by decide +kernel
theorem dX7_yardsBehind_0 : decode (mC Y_X7_yardsBehind) 0 = .ok (.iconst 0, 1) := by decide +kernel
theorem dX7_yardsBehind_1 : decode (mC Y_X7_yardsBehind) 1 = .ok (.istore_n 2, 1) := by decide +kernel
theorem dX7_yardsBehind_2 : decode (mC Y_X7_yardsBehind) 2 = .ok (.iconst 0, 1) := by decide +kernel
theorem dX7_yardsBehind_3 : decode (mC Y_X7_yardsBehind) 3 = .ok (.istore_n 3, 1) := by decide +kernel
theorem dX7_yardsBehind_4 : decode (mC Y_X7_yardsBehind) 4 = .ok (.iload_n 3, 1) := by decide +kernel
theorem dX7_yardsBehind_5 : decode (mC Y_X7_yardsBehind) 5 = .ok (.bipush 12, 2) := by decide +kernel
theorem dX7_yardsBehind_7 : decode (mC Y_X7_yardsBehind) 7 = .ok (.if_icmp .ge 53, 3) := by decide +kernel
theorem dX7_yardsBehind_10 : decode (mC Y_X7_yardsBehind) 10 = .ok (.iconst 0, 1) := by decide +kernel
theorem dX7_yardsBehind_11 : decode (mC Y_X7_yardsBehind) 11 = .ok (.istore 4, 2) := by decide +kernel
theorem dX7_yardsBehind_13 : decode (mC Y_X7_yardsBehind) 13 = .ok (.iload 4, 2) := by decide +kernel
theorem dX7_yardsBehind_15 : decode (mC Y_X7_yardsBehind) 15 = .ok (.bipush 12, 2) := by decide +kernel
theorem dX7_yardsBehind_17 : decode (mC Y_X7_yardsBehind) 17 = .ok (.if_icmp .ge 37, 3) := by decide +kernel
theorem dX7_yardsBehind_20 : decode (mC Y_X7_yardsBehind) 20 = .ok (.iload_n 2, 1) := by decide +kernel
theorem dX7_yardsBehind_21 : decode (mC Y_X7_yardsBehind) 21 = .ok (.aload_n 0, 1) := by decide +kernel
theorem dX7_yardsBehind_22 : decode (mC Y_X7_yardsBehind) 22 = .ok (.iload_n 3, 1) := by decide +kernel
theorem dX7_yardsBehind_23 : decode (mC Y_X7_yardsBehind) 23 = .ok (.iload 4, 2) := by decide +kernel
theorem dX7_yardsBehind_25 : decode (mC Y_X7_yardsBehind) 25 = .ok (.invokevirtual 213, 3) := by decide +kernel
theorem dX7_yardsBehind_28 : decode (mC Y_X7_yardsBehind) 28 = .ok (.ifCond .eq 17, 3) := by decide +kernel
theorem dX7_yardsBehind_31 : decode (mC Y_X7_yardsBehind) 31 = .ok (.iconst 1, 1) := by decide +kernel
theorem dX7_yardsBehind_32 : decode (mC Y_X7_yardsBehind) 32 = .ok (.iload_n 3, 1) := by decide +kernel
theorem dX7_yardsBehind_33 : decode (mC Y_X7_yardsBehind) 33 = .ok (.iload_n 1, 1) := by decide +kernel
theorem dX7_yardsBehind_34 : decode (mC Y_X7_yardsBehind) 34 = .ok (.iload 4, 2) := by decide +kernel
theorem dX7_yardsBehind_36 : decode (mC Y_X7_yardsBehind) 36 = .ok (.imul, 1) := by decide +kernel
theorem dX7_yardsBehind_37 : decode (mC Y_X7_yardsBehind) 37 = .ok (.iadd, 1) := by decide +kernel
theorem dX7_yardsBehind_38 : decode (mC Y_X7_yardsBehind) 38 = .ok (.bipush 12, 2) := by decide +kernel
theorem dX7_yardsBehind_40 : decode (mC Y_X7_yardsBehind) 40 = .ok (.irem, 1) := by decide +kernel
theorem dX7_yardsBehind_41 : decode (mC Y_X7_yardsBehind) 41 = .ok (.ishl, 1) := by decide +kernel
theorem dX7_yardsBehind_42 : decode (mC Y_X7_yardsBehind) 42 = .ok (.goto 4, 3) := by decide +kernel
theorem dX7_yardsBehind_45 : decode (mC Y_X7_yardsBehind) 45 = .ok (.iconst 0, 1) := by decide +kernel
theorem dX7_yardsBehind_46 : decode (mC Y_X7_yardsBehind) 46 = .ok (.ior, 1) := by decide +kernel
theorem dX7_yardsBehind_47 : decode (mC Y_X7_yardsBehind) 47 = .ok (.istore_n 2, 1) := by decide +kernel
theorem dX7_yardsBehind_48 : decode (mC Y_X7_yardsBehind) 48 = .ok (.iinc 4 1, 3) := by decide +kernel
theorem dX7_yardsBehind_51 : decode (mC Y_X7_yardsBehind) 51 = .ok (.goto (-38), 3) := by decide +kernel
theorem dX7_yardsBehind_54 : decode (mC Y_X7_yardsBehind) 54 = .ok (.iinc 3 1, 3) := by decide +kernel
theorem dX7_yardsBehind_57 : decode (mC Y_X7_yardsBehind) 57 = .ok (.goto (-53), 3) := by decide +kernel
theorem dX7_yardsBehind_60 : decode (mC Y_X7_yardsBehind) 60 = .ok (.iload_n 2, 1) := by decide +kernel
theorem dX7_yardsBehind_61 : decode (mC Y_X7_yardsBehind) 61 = .ok (.invokestatic 174, 3) := by decide +kernel
theorem dX7_yardsBehind_64 : decode (mC Y_X7_yardsBehind) 64 = .ok (.ireturn, 1) := by decide +kernel
theorem dX7_look_0 : decode (mC Y_X7_look) 0 = .ok (.iload_n 1, 1) := by decide +kernel
theorem dX7_look_1 : decode (mC Y_X7_look) 1 = .ok (.iconst 0, 1) := by decide +kernel
theorem dX7_look_2 : decode (mC Y_X7_look) 2 = .ok (.iconst 1, 1) := by decide +kernel
theorem dX7_look_3 : decode (mC Y_X7_look) 3 = .ok (.invokestatic 72, 3) := by decide +kernel
theorem dX7_look_6 : decode (mC Y_X7_look) 6 = .ok (.ifCond .ne 5, 3) := by decide +kernel
theorem dX7_look_9 : decode (mC Y_X7_look) 9 = .ok (.iconst (-1), 1) := by decide +kernel
theorem dX7_look_10 : decode (mC Y_X7_look) 10 = .ok (.ireturn, 1) := by decide +kernel
theorem dX7_look_11 : decode (mC Y_X7_look) 11 = .ok (.iconst 0, 1) := by decide +kernel
theorem dX7_look_12 : decode (mC Y_X7_look) 12 = .ok (.istore_n 2, 1) := by decide +kernel
theorem dX7_look_13 : decode (mC Y_X7_look) 13 = .ok (.iconst 0, 1) := by decide +kernel
theorem dX7_look_14 : decode (mC Y_X7_look) 14 = .ok (.istore_n 3, 1) := by decide +kernel
theorem dX7_look_15 : decode (mC Y_X7_look) 15 = .ok (.iconst 0, 1) := by decide +kernel
theorem dX7_look_16 : decode (mC Y_X7_look) 16 = .ok (.istore 4, 2) := by decide +kernel
theorem dX7_look_18 : decode (mC Y_X7_look) 18 = .ok (.iload 4, 2) := by decide +kernel
theorem dX7_look_20 : decode (mC Y_X7_look) 20 = .ok (.bipush 12, 2) := by decide +kernel
theorem dX7_look_22 : decode (mC Y_X7_look) 22 = .ok (.if_icmp .gt 43, 3) := by decide +kernel
theorem dX7_look_25 : decode (mC Y_X7_look) 25 = .ok (.aload_n 0, 1) := by decide +kernel
theorem dX7_look_26 : decode (mC Y_X7_look) 26 = .ok (.iload 4, 2) := by decide +kernel
theorem dX7_look_28 : decode (mC Y_X7_look) 28 = .ok (.invokevirtual 216, 3) := by decide +kernel
theorem dX7_look_31 : decode (mC Y_X7_look) 31 = .ok (.istore 5, 2) := by decide +kernel
theorem dX7_look_33 : decode (mC Y_X7_look) 33 = .ok (.iload 5, 2) := by decide +kernel
theorem dX7_look_35 : decode (mC Y_X7_look) 35 = .ok (.iload_n 3, 1) := by decide +kernel
theorem dX7_look_36 : decode (mC Y_X7_look) 36 = .ok (.if_icmp .le 8, 3) := by decide +kernel
theorem dX7_look_39 : decode (mC Y_X7_look) 39 = .ok (.iload 4, 2) := by decide +kernel
theorem dX7_look_41 : decode (mC Y_X7_look) 41 = .ok (.goto 4, 3) := by decide +kernel
theorem dX7_look_44 : decode (mC Y_X7_look) 44 = .ok (.iload_n 2, 1) := by decide +kernel
theorem dX7_look_45 : decode (mC Y_X7_look) 45 = .ok (.istore_n 2, 1) := by decide +kernel
theorem dX7_look_46 : decode (mC Y_X7_look) 46 = .ok (.iload 5, 2) := by decide +kernel
theorem dX7_look_48 : decode (mC Y_X7_look) 48 = .ok (.iload_n 3, 1) := by decide +kernel
theorem dX7_look_49 : decode (mC Y_X7_look) 49 = .ok (.if_icmp .le 8, 3) := by decide +kernel
theorem dX7_look_52 : decode (mC Y_X7_look) 52 = .ok (.iload 5, 2) := by decide +kernel
theorem dX7_look_54 : decode (mC Y_X7_look) 54 = .ok (.goto 4, 3) := by decide +kernel
theorem dX7_look_57 : decode (mC Y_X7_look) 57 = .ok (.iload_n 3, 1) := by decide +kernel
theorem dX7_look_58 : decode (mC Y_X7_look) 58 = .ok (.istore_n 3, 1) := by decide +kernel
theorem dX7_look_59 : decode (mC Y_X7_look) 59 = .ok (.iinc 4 1, 3) := by decide +kernel
theorem dX7_look_62 : decode (mC Y_X7_look) 62 = .ok (.goto (-44), 3) := by decide +kernel
theorem dX7_look_65 : decode (mC Y_X7_look) 65 = .ok (.iload_n 1, 1) := by decide +kernel
theorem dX7_look_66 : decode (mC Y_X7_look) 66 = .ok (.ifCond .ne 7, 3) := by decide +kernel
theorem dX7_look_69 : decode (mC Y_X7_look) 69 = .ok (.iload_n 2, 1) := by decide +kernel
theorem dX7_look_70 : decode (mC Y_X7_look) 70 = .ok (.goto 4, 3) := by decide +kernel
theorem dX7_look_73 : decode (mC Y_X7_look) 73 = .ok (.iload_n 3, 1) := by decide +kernel
theorem dX7_look_74 : decode (mC Y_X7_look) 74 = .ok (.ireturn, 1) := by decide +kernel
theorem dX7_forget_0 : decode (mC Y_X7_forget) 0 = .ok (.aload_n 0, 1) := by decide +kernel
theorem dX7_forget_1 : decode (mC Y_X7_forget) 1 = .ok (.getfield 115, 3) := by decide +kernel
theorem dX7_forget_4 : decode (mC Y_X7_forget) 4 = .ok (.aload_n 0, 1) := by decide +kernel
theorem dX7_forget_5 : decode (mC Y_X7_forget) 5 = .ok (.getfield 118, 3) := by decide +kernel
theorem dX7_forget_8 : decode (mC Y_X7_forget) 8 = .ok (.iadd, 1) := by decide +kernel
theorem dX7_forget_9 : decode (mC Y_X7_forget) 9 = .ok (.istore_n 1, 1) := by decide +kernel
theorem dX7_forget_10 : decode (mC Y_X7_forget) 10 = .ok (.aload_n 0, 1) := by decide +kernel
theorem dX7_forget_11 : decode (mC Y_X7_forget) 11 = .ok (.iconst 0, 1) := by decide +kernel
theorem dX7_forget_12 : decode (mC Y_X7_forget) 12 = .ok (.putfield 115, 3) := by decide +kernel
theorem dX7_forget_15 : decode (mC Y_X7_forget) 15 = .ok (.aload_n 0, 1) := by decide +kernel
theorem dX7_forget_16 : decode (mC Y_X7_forget) 16 = .ok (.iconst 0, 1) := by decide +kernel
theorem dX7_forget_17 : decode (mC Y_X7_forget) 17 = .ok (.putfield 118, 3) := by decide +kernel
theorem dX7_forget_20 : decode (mC Y_X7_forget) 20 = .ok (.iload_n 1, 1) := by decide +kernel
theorem dX7_forget_21 : decode (mC Y_X7_forget) 21 = .ok (.ireturn, 1) := by decide +kernel
theorem dX7_common_0 : decode (mC Y_X7_common) 0 = .ok (.lload_n 0, 1) := by decide +kernel
theorem dX7_common_1 : decode (mC Y_X7_common) 1 = .ok (.lstore 4, 2) := by decide +kernel
theorem dX7_common_3 : decode (mC Y_X7_common) 3 = .ok (.lload_n 2, 1) := by decide +kernel
theorem dX7_common_4 : decode (mC Y_X7_common) 4 = .ok (.lstore 6, 2) := by decide +kernel
theorem dX7_common_6 : decode (mC Y_X7_common) 6 = .ok (.lload 6, 2) := by decide +kernel
theorem dX7_common_8 : decode (mC Y_X7_common) 8 = .ok (.lconst 0, 1) := by decide +kernel
theorem dX7_common_9 : decode (mC Y_X7_common) 9 = .ok (.lcmp, 1) := by decide +kernel
theorem dX7_common_10 : decode (mC Y_X7_common) 10 = .ok (.ifCond .eq 21, 3) := by decide +kernel
theorem dX7_common_13 : decode (mC Y_X7_common) 13 = .ok (.lload 4, 2) := by decide +kernel
theorem dX7_common_15 : decode (mC Y_X7_common) 15 = .ok (.lload 6, 2) := by decide +kernel
theorem dX7_common_17 : decode (mC Y_X7_common) 17 = .ok (.lrem, 1) := by decide +kernel
theorem dX7_common_18 : decode (mC Y_X7_common) 18 = .ok (.lstore 8, 2) := by decide +kernel
theorem dX7_common_20 : decode (mC Y_X7_common) 20 = .ok (.lload 6, 2) := by decide +kernel
theorem dX7_common_22 : decode (mC Y_X7_common) 22 = .ok (.lstore 4, 2) := by decide +kernel
theorem dX7_common_24 : decode (mC Y_X7_common) 24 = .ok (.lload 8, 2) := by decide +kernel
theorem dX7_common_26 : decode (mC Y_X7_common) 26 = .ok (.lstore 6, 2) := by decide +kernel
theorem dX7_common_28 : decode (mC Y_X7_common) 28 = .ok (.goto (-22), 3) := by decide +kernel
theorem dX7_common_31 : decode (mC Y_X7_common) 31 = .ok (.lload 4, 2) := by decide +kernel
theorem dX7_common_33 : decode (mC Y_X7_common) 33 = .ok (.lreturn, 1) := by decide +kernel
theorem dX7_likely_0 : decode (mC Y_X7_likely) 0 = .ok (.aload_n 0, 1) := by decide +kernel
theorem dX7_likely_1 : decode (mC Y_X7_likely) 1 = .ok (.iload_n 1, 1) := by decide +kernel
theorem dX7_likely_2 : decode (mC Y_X7_likely) 2 = .ok (.invokevirtual 146, 3) := by decide +kernel
theorem dX7_likely_5 : decode (mC Y_X7_likely) 5 = .ok (.ifCond .eq 47, 3) := by decide +kernel
theorem dX7_likely_8 : decode (mC Y_X7_likely) 8 = .ok (.aload_n 0, 1) := by decide +kernel
theorem dX7_likely_9 : decode (mC Y_X7_likely) 9 = .ok (.iload_n 2, 1) := by decide +kernel
theorem dX7_likely_10 : decode (mC Y_X7_likely) 10 = .ok (.invokevirtual 146, 3) := by decide +kernel
theorem dX7_likely_13 : decode (mC Y_X7_likely) 13 = .ok (.ifCond .eq 39, 3) := by decide +kernel
theorem dX7_likely_16 : decode (mC Y_X7_likely) 16 = .ok (.iload_n 1, 1) := by decide +kernel
theorem dX7_likely_17 : decode (mC Y_X7_likely) 17 = .ok (.iload_n 2, 1) := by decide +kernel
theorem dX7_likely_18 : decode (mC Y_X7_likely) 18 = .ok (.if_icmp .eq 34, 3) := by decide +kernel
theorem dX7_likely_21 : decode (mC Y_X7_likely) 21 = .ok (.iload_n 3, 1) := by decide +kernel
theorem dX7_likely_22 : decode (mC Y_X7_likely) 22 = .ok (.iconst 0, 1) := by decide +kernel
theorem dX7_likely_23 : decode (mC Y_X7_likely) 23 = .ok (.bipush 7, 2) := by decide +kernel
theorem dX7_likely_25 : decode (mC Y_X7_likely) 25 = .ok (.invokestatic 72, 3) := by decide +kernel
theorem dX7_likely_28 : decode (mC Y_X7_likely) 28 = .ok (.ifCond .eq 24, 3) := by decide +kernel
theorem dX7_likely_31 : decode (mC Y_X7_likely) 31 = .ok (.iload 4, 2) := by decide +kernel
theorem dX7_likely_33 : decode (mC Y_X7_likely) 33 = .ok (.iconst 0, 1) := by decide +kernel
theorem dX7_likely_34 : decode (mC Y_X7_likely) 34 = .ok (.bipush 10, 2) := by decide +kernel
theorem dX7_likely_36 : decode (mC Y_X7_likely) 36 = .ok (.invokestatic 72, 3) := by decide +kernel
theorem dX7_likely_39 : decode (mC Y_X7_likely) 39 = .ok (.ifCond .eq 13, 3) := by decide +kernel
theorem dX7_likely_42 : decode (mC Y_X7_likely) 42 = .ok (.iload 5, 2) := by decide +kernel
theorem dX7_likely_44 : decode (mC Y_X7_likely) 44 = .ok (.iconst 0, 1) := by decide +kernel
theorem dX7_likely_45 : decode (mC Y_X7_likely) 45 = .ok (.iconst 1, 1) := by decide +kernel
theorem dX7_likely_46 : decode (mC Y_X7_likely) 46 = .ok (.invokestatic 72, 3) := by decide +kernel
theorem dX7_likely_49 : decode (mC Y_X7_likely) 49 = .ok (.ifCond .ne 5, 3) := by decide +kernel
theorem dX7_likely_52 : decode (mC Y_X7_likely) 52 = .ok (.iconst (-1), 1) := by decide +kernel
theorem dX7_likely_53 : decode (mC Y_X7_likely) 53 = .ok (.ireturn, 1) := by decide +kernel
theorem dX7_likely_54 : decode (mC Y_X7_likely) 54 = .ok (.aload_n 0, 1) := by decide +kernel
theorem dX7_likely_55 : decode (mC Y_X7_likely) 55 = .ok (.iload_n 2, 1) := by decide +kernel
theorem dX7_likely_56 : decode (mC Y_X7_likely) 56 = .ok (.iload_n 3, 1) := by decide +kernel
theorem dX7_likely_57 : decode (mC Y_X7_likely) 57 = .ok (.invokevirtual 180, 3) := by decide +kernel
theorem dX7_likely_60 : decode (mC Y_X7_likely) 60 = .ok (.istore 6, 2) := by decide +kernel
theorem dX7_likely_62 : decode (mC Y_X7_likely) 62 = .ok (.lconst 0, 1) := by decide +kernel
theorem dX7_likely_63 : decode (mC Y_X7_likely) 63 = .ok (.lstore 7, 2) := by decide +kernel
theorem dX7_likely_65 : decode (mC Y_X7_likely) 65 = .ok (.lconst 1, 1) := by decide +kernel
theorem dX7_likely_66 : decode (mC Y_X7_likely) 66 = .ok (.lstore 9, 2) := by decide +kernel
theorem dX7_likely_68 : decode (mC Y_X7_likely) 68 = .ok (.iconst 0, 1) := by decide +kernel
theorem dX7_likely_69 : decode (mC Y_X7_likely) 69 = .ok (.istore 11, 2) := by decide +kernel
theorem dX7_likely_71 : decode (mC Y_X7_likely) 71 = .ok (.iload 11, 2) := by decide +kernel
theorem dX7_likely_73 : decode (mC Y_X7_likely) 73 = .ok (.iload_n 3, 1) := by decide +kernel
theorem dX7_likely_74 : decode (mC Y_X7_likely) 74 = .ok (.if_icmp .ge 17, 3) := by decide +kernel
theorem dX7_likely_77 : decode (mC Y_X7_likely) 77 = .ok (.lload 9, 2) := by decide +kernel
theorem dX7_likely_79 : decode (mC Y_X7_likely) 79 = .ok (.ldc2_w 219, 3) := by decide +kernel
theorem dX7_likely_82 : decode (mC Y_X7_likely) 82 = .ok (.lmul, 1) := by decide +kernel
theorem dX7_likely_83 : decode (mC Y_X7_likely) 83 = .ok (.lstore 9, 2) := by decide +kernel
theorem dX7_likely_85 : decode (mC Y_X7_likely) 85 = .ok (.iinc 11 1, 3) := by decide +kernel
theorem dX7_likely_88 : decode (mC Y_X7_likely) 88 = .ok (.goto (-17), 3) := by decide +kernel
theorem dX7_likely_91 : decode (mC Y_X7_likely) 91 = .ok (.iconst 0, 1) := by decide +kernel
theorem dX7_likely_92 : decode (mC Y_X7_likely) 92 = .ok (.istore 11, 2) := by decide +kernel
theorem dX7_likely_94 : decode (mC Y_X7_likely) 94 = .ok (.iload 11, 2) := by decide +kernel
theorem dX7_likely_96 : decode (mC Y_X7_likely) 96 = .ok (.iconst 1, 1) := by decide +kernel
theorem dX7_likely_97 : decode (mC Y_X7_likely) 97 = .ok (.iload_n 3, 1) := by decide +kernel
theorem dX7_likely_98 : decode (mC Y_X7_likely) 98 = .ok (.ishl, 1) := by decide +kernel
theorem dX7_likely_99 : decode (mC Y_X7_likely) 99 = .ok (.if_icmp .ge 133, 3) := by decide +kernel
theorem dX7_likely_102 : decode (mC Y_X7_likely) 102 = .ok (.lconst 1, 1) := by decide +kernel
theorem dX7_likely_103 : decode (mC Y_X7_likely) 103 = .ok (.lstore 12, 2) := by decide +kernel
theorem dX7_likely_105 : decode (mC Y_X7_likely) 105 = .ok (.aload_n 0, 1) := by decide +kernel
theorem dX7_likely_106 : decode (mC Y_X7_likely) 106 = .ok (.getfield 19, 3) := by decide +kernel
theorem dX7_likely_109 : decode (mC Y_X7_likely) 109 = .ok (.iload_n 1, 1) := by decide +kernel
theorem dX7_likely_110 : decode (mC Y_X7_likely) 110 = .ok (.iaload, 1) := by decide +kernel
theorem dX7_likely_111 : decode (mC Y_X7_likely) 111 = .ok (.istore 14, 2) := by decide +kernel
theorem dX7_likely_113 : decode (mC Y_X7_likely) 113 = .ok (.iconst 0, 1) := by decide +kernel
theorem dX7_likely_114 : decode (mC Y_X7_likely) 114 = .ok (.istore 15, 2) := by decide +kernel
theorem dX7_likely_116 : decode (mC Y_X7_likely) 116 = .ok (.iload 15, 2) := by decide +kernel
theorem dX7_likely_118 : decode (mC Y_X7_likely) 118 = .ok (.iload_n 3, 1) := by decide +kernel
theorem dX7_likely_119 : decode (mC Y_X7_likely) 119 = .ok (.if_icmp .ge 77, 3) := by decide +kernel
theorem dX7_likely_122 : decode (mC Y_X7_likely) 122 = .ok (.lload 12, 2) := by decide +kernel
theorem dX7_likely_124 : decode (mC Y_X7_likely) 124 = .ok (.iload 11, 2) := by decide +kernel
theorem dX7_likely_126 : decode (mC Y_X7_likely) 126 = .ok (.iload 15, 2) := by decide +kernel
theorem dX7_likely_128 : decode (mC Y_X7_likely) 128 = .ok (.invokestatic 195, 3) := by decide +kernel
theorem dX7_likely_131 : decode (mC Y_X7_likely) 131 = .ok (.ifCond .eq 9, 3) := by decide +kernel
theorem dX7_likely_134 : decode (mC Y_X7_likely) 134 = .ok (.iload 4, 2) := by decide +kernel
theorem dX7_likely_136 : decode (mC Y_X7_likely) 136 = .ok (.i2l, 1) := by decide +kernel
theorem dX7_likely_137 : decode (mC Y_X7_likely) 137 = .ok (.goto 9, 3) := by decide +kernel
theorem dX7_likely_140 : decode (mC Y_X7_likely) 140 = .ok (.bipush 10, 2) := by decide +kernel
theorem dX7_likely_142 : decode (mC Y_X7_likely) 142 = .ok (.iload 4, 2) := by decide +kernel
theorem dX7_likely_144 : decode (mC Y_X7_likely) 144 = .ok (.isub, 1) := by decide +kernel
theorem dX7_likely_145 : decode (mC Y_X7_likely) 145 = .ok (.i2l, 1) := by decide +kernel
theorem dX7_likely_146 : decode (mC Y_X7_likely) 146 = .ok (.lmul, 1) := by decide +kernel
theorem dX7_likely_147 : decode (mC Y_X7_likely) 147 = .ok (.lstore 12, 2) := by decide +kernel
theorem dX7_likely_149 : decode (mC Y_X7_likely) 149 = .ok (.iload 14, 2) := by decide +kernel
theorem dX7_likely_151 : decode (mC Y_X7_likely) 151 = .ok (.iload 11, 2) := by decide +kernel
theorem dX7_likely_153 : decode (mC Y_X7_likely) 153 = .ok (.iload 15, 2) := by decide +kernel
theorem dX7_likely_155 : decode (mC Y_X7_likely) 155 = .ok (.invokestatic 195, 3) := by decide +kernel
theorem dX7_likely_158 : decode (mC Y_X7_likely) 158 = .ok (.ifCond .eq 7, 3) := by decide +kernel
theorem dX7_likely_161 : decode (mC Y_X7_likely) 161 = .ok (.iconst 0, 1) := by decide +kernel
theorem dX7_likely_162 : decode (mC Y_X7_likely) 162 = .ok (.goto 25, 3) := by decide +kernel
theorem dX7_likely_165 : decode (mC Y_X7_likely) 165 = .ok (.aload_n 0, 1) := by decide +kernel
theorem dX7_likely_166 : decode (mC Y_X7_likely) 166 = .ok (.getfield 9, 3) := by decide +kernel
theorem dX7_likely_169 : decode (mC Y_X7_likely) 169 = .ok (.iload_n 1, 1) := by decide +kernel
theorem dX7_likely_170 : decode (mC Y_X7_likely) 170 = .ok (.iaload, 1) := by decide +kernel
theorem dX7_likely_171 : decode (mC Y_X7_likely) 171 = .ok (.aload_n 0, 1) := by decide +kernel
theorem dX7_likely_172 : decode (mC Y_X7_likely) 172 = .ok (.getfield 22, 3) := by decide +kernel
theorem dX7_likely_175 : decode (mC Y_X7_likely) 175 = .ok (.iload_n 1, 1) := by decide +kernel
theorem dX7_likely_176 : decode (mC Y_X7_likely) 176 = .ok (.iaload, 1) := by decide +kernel
theorem dX7_likely_177 : decode (mC Y_X7_likely) 177 = .ok (.aload_n 0, 1) := by decide +kernel
theorem dX7_likely_178 : decode (mC Y_X7_likely) 178 = .ok (.getfield 109, 3) := by decide +kernel
theorem dX7_likely_181 : decode (mC Y_X7_likely) 181 = .ok (.iload 15, 2) := by decide +kernel
theorem dX7_likely_183 : decode (mC Y_X7_likely) 183 = .ok (.iadd, 1) := by decide +kernel
theorem dX7_likely_184 : decode (mC Y_X7_likely) 184 = .ok (.invokestatic 127, 3) := by decide +kernel
theorem dX7_likely_187 : decode (mC Y_X7_likely) 187 = .ok (.iadd, 1) := by decide +kernel
theorem dX7_likely_188 : decode (mC Y_X7_likely) 188 = .ok (.istore 14, 2) := by decide +kernel
theorem dX7_likely_190 : decode (mC Y_X7_likely) 190 = .ok (.iinc 15 1, 3) := by decide +kernel
theorem dX7_likely_193 : decode (mC Y_X7_likely) 193 = .ok (.goto (-77), 3) := by decide +kernel
theorem dX7_likely_196 : decode (mC Y_X7_likely) 196 = .ok (.lload 7, 2) := by decide +kernel
theorem dX7_likely_198 : decode (mC Y_X7_likely) 198 = .ok (.aload_n 0, 1) := by decide +kernel
theorem dX7_likely_199 : decode (mC Y_X7_likely) 199 = .ok (.iload_n 1, 1) := by decide +kernel
theorem dX7_likely_200 : decode (mC Y_X7_likely) 200 = .ok (.iload_n 2, 1) := by decide +kernel
theorem dX7_likely_201 : decode (mC Y_X7_likely) 201 = .ok (.invokevirtual 183, 3) := by decide +kernel
theorem dX7_likely_204 : decode (mC Y_X7_likely) 204 = .ok (.ifCond .eq 18, 3) := by decide +kernel
theorem dX7_likely_207 : decode (mC Y_X7_likely) 207 = .ok (.iload 14, 2) := by decide +kernel
theorem dX7_likely_209 : decode (mC Y_X7_likely) 209 = .ok (.bipush 12, 2) := by decide +kernel
theorem dX7_likely_211 : decode (mC Y_X7_likely) 211 = .ok (.irem, 1) := by decide +kernel
theorem dX7_likely_212 : decode (mC Y_X7_likely) 212 = .ok (.iload 6, 2) := by decide +kernel
theorem dX7_likely_214 : decode (mC Y_X7_likely) 214 = .ok (.if_icmp .ne 8, 3) := by decide +kernel
theorem dX7_likely_217 : decode (mC Y_X7_likely) 217 = .ok (.lload 12, 2) := by decide +kernel
theorem dX7_likely_219 : decode (mC Y_X7_likely) 219 = .ok (.goto 4, 3) := by decide +kernel
theorem dX7_likely_222 : decode (mC Y_X7_likely) 222 = .ok (.lconst 0, 1) := by decide +kernel
theorem dX7_likely_223 : decode (mC Y_X7_likely) 223 = .ok (.ladd, 1) := by decide +kernel
theorem dX7_likely_224 : decode (mC Y_X7_likely) 224 = .ok (.lstore 7, 2) := by decide +kernel
theorem dX7_likely_226 : decode (mC Y_X7_likely) 226 = .ok (.iinc 11 1, 3) := by decide +kernel
theorem dX7_likely_229 : decode (mC Y_X7_likely) 229 = .ok (.goto (-135), 3) := by decide +kernel
theorem dX7_likely_232 : decode (mC Y_X7_likely) 232 = .ok (.lload 7, 2) := by decide +kernel
theorem dX7_likely_234 : decode (mC Y_X7_likely) 234 = .ok (.lload 9, 2) := by decide +kernel
theorem dX7_likely_236 : decode (mC Y_X7_likely) 236 = .ok (.invokestatic 221, 3) := by decide +kernel
theorem dX7_likely_239 : decode (mC Y_X7_likely) 239 = .ok (.lstore 11, 2) := by decide +kernel
theorem dX7_likely_241 : decode (mC Y_X7_likely) 241 = .ok (.iload 5, 2) := by decide +kernel
theorem dX7_likely_243 : decode (mC Y_X7_likely) 243 = .ok (.ifCond .ne 11, 3) := by decide +kernel
theorem dX7_likely_246 : decode (mC Y_X7_likely) 246 = .ok (.lload 7, 2) := by decide +kernel
theorem dX7_likely_248 : decode (mC Y_X7_likely) 248 = .ok (.lload 11, 2) := by decide +kernel
theorem dX7_likely_250 : decode (mC Y_X7_likely) 250 = .ok (.ldiv, 1) := by decide +kernel
theorem dX7_likely_251 : decode (mC Y_X7_likely) 251 = .ok (.goto 8, 3) := by decide +kernel
theorem dX7_likely_254 : decode (mC Y_X7_likely) 254 = .ok (.lload 9, 2) := by decide +kernel
theorem dX7_likely_256 : decode (mC Y_X7_likely) 256 = .ok (.lload 11, 2) := by decide +kernel
theorem dX7_likely_258 : decode (mC Y_X7_likely) 258 = .ok (.ldiv, 1) := by decide +kernel
theorem dX7_likely_259 : decode (mC Y_X7_likely) 259 = .ok (.l2i, 1) := by decide +kernel
theorem dX7_likely_260 : decode (mC Y_X7_likely) 260 = .ok (.ireturn, 1) := by decide +kernel
theorem dX7_season_0 : decode (mC Y_X7_season) 0 = .ok (.iload_n 1, 1) := by decide +kernel
theorem dX7_season_1 : decode (mC Y_X7_season) 1 = .ok (.iconst 0, 1) := by decide +kernel
theorem dX7_season_2 : decode (mC Y_X7_season) 2 = .ok (.sipush 9999, 3) := by decide +kernel
theorem dX7_season_5 : decode (mC Y_X7_season) 5 = .ok (.invokestatic 72, 3) := by decide +kernel
theorem dX7_season_8 : decode (mC Y_X7_season) 8 = .ok (.ifCond .eq 22, 3) := by decide +kernel
theorem dX7_season_11 : decode (mC Y_X7_season) 11 = .ok (.iload_n 2, 1) := by decide +kernel
theorem dX7_season_12 : decode (mC Y_X7_season) 12 = .ok (.iconst 1, 1) := by decide +kernel
theorem dX7_season_13 : decode (mC Y_X7_season) 13 = .ok (.bipush 60, 2) := by decide +kernel
theorem dX7_season_15 : decode (mC Y_X7_season) 15 = .ok (.invokestatic 72, 3) := by decide +kernel
theorem dX7_season_18 : decode (mC Y_X7_season) 18 = .ok (.ifCond .eq 12, 3) := by decide +kernel
theorem dX7_season_21 : decode (mC Y_X7_season) 21 = .ok (.iload_n 3, 1) := by decide +kernel
theorem dX7_season_22 : decode (mC Y_X7_season) 22 = .ok (.iconst 0, 1) := by decide +kernel
theorem dX7_season_23 : decode (mC Y_X7_season) 23 = .ok (.iconst 2, 1) := by decide +kernel
theorem dX7_season_24 : decode (mC Y_X7_season) 24 = .ok (.invokestatic 72, 3) := by decide +kernel
theorem dX7_season_27 : decode (mC Y_X7_season) 27 = .ok (.ifCond .ne 5, 3) := by decide +kernel
theorem dX7_season_30 : decode (mC Y_X7_season) 30 = .ok (.iconst (-1), 1) := by decide +kernel
theorem dX7_season_31 : decode (mC Y_X7_season) 31 = .ok (.ireturn, 1) := by decide +kernel
theorem dX7_season_32 : decode (mC Y_X7_season) 32 = .ok (.aload_n 0, 1) := by decide +kernel
theorem dX7_season_33 : decode (mC Y_X7_season) 33 = .ok (.invokevirtual 186, 3) := by decide +kernel
theorem dX7_season_36 : decode (mC Y_X7_season) 36 = .ok (.aload_n 0, 1) := by decide +kernel
theorem dX7_season_37 : decode (mC Y_X7_season) 37 = .ok (.getfield 112, 3) := by decide +kernel
theorem dX7_season_40 : decode (mC Y_X7_season) 40 = .ok (.istore 4, 2) := by decide +kernel
theorem dX7_season_42 : decode (mC Y_X7_season) 42 = .ok (.iconst 0, 1) := by decide +kernel
theorem dX7_season_43 : decode (mC Y_X7_season) 43 = .ok (.istore 5, 2) := by decide +kernel
theorem dX7_season_45 : decode (mC Y_X7_season) 45 = .ok (.iload 5, 2) := by decide +kernel
theorem dX7_season_47 : decode (mC Y_X7_season) 47 = .ok (.iload_n 2, 1) := by decide +kernel
theorem dX7_season_48 : decode (mC Y_X7_season) 48 = .ok (.if_icmp .ge 139, 3) := by decide +kernel
theorem dX7_season_51 : decode (mC Y_X7_season) 51 = .ok (.ldc2_w 225, 3) := by decide +kernel
theorem dX7_season_54 : decode (mC Y_X7_season) 54 = .ok (.iload_n 1, 1) := by decide +kernel
theorem dX7_season_55 : decode (mC Y_X7_season) 55 = .ok (.i2l, 1) := by decide +kernel
theorem dX7_season_56 : decode (mC Y_X7_season) 56 = .ok (.lmul, 1) := by decide +kernel
theorem dX7_season_57 : decode (mC Y_X7_season) 57 = .ok (.ldc2_w 227, 3) := by decide +kernel
theorem dX7_season_60 : decode (mC Y_X7_season) 60 = .ok (.iload 5, 2) := by decide +kernel
theorem dX7_season_62 : decode (mC Y_X7_season) 62 = .ok (.i2l, 1) := by decide +kernel
theorem dX7_season_63 : decode (mC Y_X7_season) 63 = .ok (.lmul, 1) := by decide +kernel
theorem dX7_season_64 : decode (mC Y_X7_season) 64 = .ok (.ladd, 1) := by decide +kernel
theorem dX7_season_65 : decode (mC Y_X7_season) 65 = .ok (.lconst 1, 1) := by decide +kernel
theorem dX7_season_66 : decode (mC Y_X7_season) 66 = .ok (.ladd, 1) := by decide +kernel
theorem dX7_season_67 : decode (mC Y_X7_season) 67 = .ok (.lstore 6, 2) := by decide +kernel
theorem dX7_season_69 : decode (mC Y_X7_season) 69 = .ok (.lload 6, 2) := by decide +kernel
theorem dX7_season_71 : decode (mC Y_X7_season) 71 = .ok (.lload 6, 2) := by decide +kernel
theorem dX7_season_73 : decode (mC Y_X7_season) 73 = .ok (.lmul, 1) := by decide +kernel
theorem dX7_season_74 : decode (mC Y_X7_season) 74 = .ok (.ldc2_w 229, 3) := by decide +kernel
theorem dX7_season_77 : decode (mC Y_X7_season) 77 = .ok (.lrem, 1) := by decide +kernel
theorem dX7_season_78 : decode (mC Y_X7_season) 78 = .ok (.ldc2_w 231, 3) := by decide +kernel
theorem dX7_season_81 : decode (mC Y_X7_season) 81 = .ok (.ldiv, 1) := by decide +kernel
theorem dX7_season_82 : decode (mC Y_X7_season) 82 = .ok (.l2i, 1) := by decide +kernel
theorem dX7_season_83 : decode (mC Y_X7_season) 83 = .ok (.istore 8, 2) := by decide +kernel
theorem dX7_season_85 : decode (mC Y_X7_season) 85 = .ok (.iload 8, 2) := by decide +kernel
theorem dX7_season_87 : decode (mC Y_X7_season) 87 = .ok (.aload_n 0, 1) := by decide +kernel
theorem dX7_season_88 : decode (mC Y_X7_season) 88 = .ok (.getfield 68, 3) := by decide +kernel
theorem dX7_season_91 : decode (mC Y_X7_season) 91 = .ok (.irem, 1) := by decide +kernel
theorem dX7_season_92 : decode (mC Y_X7_season) 92 = .ok (.istore 9, 2) := by decide +kernel
theorem dX7_season_94 : decode (mC Y_X7_season) 94 = .ok (.iload 8, 2) := by decide +kernel
theorem dX7_season_96 : decode (mC Y_X7_season) 96 = .ok (.bipush 8, 2) := by decide +kernel
theorem dX7_season_98 : decode (mC Y_X7_season) 98 = .ok (.idiv, 1) := by decide +kernel
theorem dX7_season_99 : decode (mC Y_X7_season) 99 = .ok (.bipush 6, 2) := by decide +kernel
theorem dX7_season_101 : decode (mC Y_X7_season) 101 = .ok (.irem, 1) := by decide +kernel
theorem dX7_season_102 : decode (mC Y_X7_season) 102 = .ok (.istore 10, 2) := by decide +kernel
theorem dX7_season_104 : decode (mC Y_X7_season) 104 = .ok (.iload 10, 2) := by decide +kernel
theorem dX7_season_106 : decode (mC Y_X7_season) 106 = .ok (.ifCond .ne 31, 3) := by decide +kernel
theorem dX7_season_109 : decode (mC Y_X7_season) 109 = .ok (.aload_n 0, 1) := by decide +kernel
theorem dX7_season_110 : decode (mC Y_X7_season) 110 = .ok (.iload 9, 2) := by decide +kernel
theorem dX7_season_112 : decode (mC Y_X7_season) 112 = .ok (.iload 8, 2) := by decide +kernel
theorem dX7_season_114 : decode (mC Y_X7_season) 114 = .ok (.bipush 64, 2) := by decide +kernel
theorem dX7_season_116 : decode (mC Y_X7_season) 116 = .ok (.idiv, 1) := by decide +kernel
theorem dX7_season_117 : decode (mC Y_X7_season) 117 = .ok (.bipush 6, 2) := by decide +kernel
theorem dX7_season_119 : decode (mC Y_X7_season) 119 = .ok (.irem, 1) := by decide +kernel
theorem dX7_season_120 : decode (mC Y_X7_season) 120 = .ok (.iload 8, 2) := by decide +kernel
theorem dX7_season_122 : decode (mC Y_X7_season) 122 = .ok (.sipush 512, 3) := by decide +kernel
theorem dX7_season_125 : decode (mC Y_X7_season) 125 = .ok (.idiv, 1) := by decide +kernel
theorem dX7_season_126 : decode (mC Y_X7_season) 126 = .ok (.bipush 9, 2) := by decide +kernel
theorem dX7_season_128 : decode (mC Y_X7_season) 128 = .ok (.irem, 1) := by decide +kernel
theorem dX7_season_129 : decode (mC Y_X7_season) 129 = .ok (.iconst 1, 1) := by decide +kernel
theorem dX7_season_130 : decode (mC Y_X7_season) 130 = .ok (.iadd, 1) := by decide +kernel
theorem dX7_season_131 : decode (mC Y_X7_season) 131 = .ok (.invokevirtual 170, 3) := by decide +kernel
theorem dX7_season_134 : decode (mC Y_X7_season) 134 = .ok (.goto 43, 3) := by decide +kernel
theorem dX7_season_137 : decode (mC Y_X7_season) 137 = .ok (.iload 10, 2) := by decide +kernel
theorem dX7_season_139 : decode (mC Y_X7_season) 139 = .ok (.iconst 1, 1) := by decide +kernel
theorem dX7_season_140 : decode (mC Y_X7_season) 140 = .ok (.if_icmp .ne 16, 3) := by decide +kernel
theorem dX7_season_143 : decode (mC Y_X7_season) 143 = .ok (.aload_n 0, 1) := by decide +kernel
theorem dX7_season_144 : decode (mC Y_X7_season) 144 = .ok (.iload 9, 2) := by decide +kernel
theorem dX7_season_146 : decode (mC Y_X7_season) 146 = .ok (.bipush (-4), 2) := by decide +kernel
theorem dX7_season_148 : decode (mC Y_X7_season) 148 = .ok (.bipush (-4), 2) := by decide +kernel
theorem dX7_season_150 : decode (mC Y_X7_season) 150 = .ok (.invokevirtual 170, 3) := by decide +kernel
theorem dX7_season_153 : decode (mC Y_X7_season) 153 = .ok (.goto 24, 3) := by decide +kernel
theorem dX7_season_156 : decode (mC Y_X7_season) 156 = .ok (.iload 10, 2) := by decide +kernel
theorem dX7_season_158 : decode (mC Y_X7_season) 158 = .ok (.iconst 2, 1) := by decide +kernel
theorem dX7_season_159 : decode (mC Y_X7_season) 159 = .ok (.if_icmp .ne 18, 3) := by decide +kernel
theorem dX7_season_162 : decode (mC Y_X7_season) 162 = .ok (.aload_n 0, 1) := by decide +kernel
theorem dX7_season_163 : decode (mC Y_X7_season) 163 = .ok (.getfield 22, 3) := by decide +kernel
theorem dX7_season_166 : decode (mC Y_X7_season) 166 = .ok (.iload 9, 2) := by decide +kernel
theorem dX7_season_168 : decode (mC Y_X7_season) 168 = .ok (.iload 8, 2) := by decide +kernel
theorem dX7_season_170 : decode (mC Y_X7_season) 170 = .ok (.bipush 64, 2) := by decide +kernel
theorem dX7_season_172 : decode (mC Y_X7_season) 172 = .ok (.idiv, 1) := by decide +kernel
theorem dX7_season_173 : decode (mC Y_X7_season) 173 = .ok (.bipush 12, 2) := by decide +kernel
theorem dX7_season_175 : decode (mC Y_X7_season) 175 = .ok (.irem, 1) := by decide +kernel
theorem dX7_season_176 : decode (mC Y_X7_season) 176 = .ok (.iastore, 1) := by decide +kernel
theorem dX7_season_177 : decode (mC Y_X7_season) 177 = .ok (.aload_n 0, 1) := by decide +kernel
theorem dX7_season_178 : decode (mC Y_X7_season) 178 = .ok (.invokevirtual 143, 3) := by decide +kernel
theorem dX7_season_181 : decode (mC Y_X7_season) 181 = .ok (.iinc 5 1, 3) := by decide +kernel
theorem dX7_season_184 : decode (mC Y_X7_season) 184 = .ok (.goto (-139), 3) := by decide +kernel
theorem dX7_season_187 : decode (mC Y_X7_season) 187 = .ok (.iconst 0, 1) := by decide +kernel
theorem dX7_season_188 : decode (mC Y_X7_season) 188 = .ok (.istore 5, 2) := by decide +kernel
theorem dX7_season_190 : decode (mC Y_X7_season) 190 = .ok (.iconst 0, 1) := by decide +kernel
theorem dX7_season_191 : decode (mC Y_X7_season) 191 = .ok (.istore 6, 2) := by decide +kernel
theorem dX7_season_193 : decode (mC Y_X7_season) 193 = .ok (.iconst 0, 1) := by decide +kernel
theorem dX7_season_194 : decode (mC Y_X7_season) 194 = .ok (.istore 7, 2) := by decide +kernel
theorem dX7_season_196 : decode (mC Y_X7_season) 196 = .ok (.iload 7, 2) := by decide +kernel
theorem dX7_season_198 : decode (mC Y_X7_season) 198 = .ok (.aload_n 0, 1) := by decide +kernel
theorem dX7_season_199 : decode (mC Y_X7_season) 199 = .ok (.getfield 68, 3) := by decide +kernel
theorem dX7_season_202 : decode (mC Y_X7_season) 202 = .ok (.if_icmp .ge 43, 3) := by decide +kernel
theorem dX7_season_205 : decode (mC Y_X7_season) 205 = .ok (.iload 5, 2) := by decide +kernel
theorem dX7_season_207 : decode (mC Y_X7_season) 207 = .ok (.aload_n 0, 1) := by decide +kernel
theorem dX7_season_208 : decode (mC Y_X7_season) 208 = .ok (.getfield 19, 3) := by decide +kernel
theorem dX7_season_211 : decode (mC Y_X7_season) 211 = .ok (.iload 7, 2) := by decide +kernel
theorem dX7_season_213 : decode (mC Y_X7_season) 213 = .ok (.iaload, 1) := by decide +kernel
theorem dX7_season_214 : decode (mC Y_X7_season) 214 = .ok (.iadd, 1) := by decide +kernel
theorem dX7_season_215 : decode (mC Y_X7_season) 215 = .ok (.istore 5, 2) := by decide +kernel
theorem dX7_season_217 : decode (mC Y_X7_season) 217 = .ok (.iload 6, 2) := by decide +kernel
theorem dX7_season_219 : decode (mC Y_X7_season) 219 = .ok (.aload_n 0, 1) := by decide +kernel
theorem dX7_season_220 : decode (mC Y_X7_season) 220 = .ok (.getfield 13, 3) := by decide +kernel
theorem dX7_season_223 : decode (mC Y_X7_season) 223 = .ok (.iload 7, 2) := by decide +kernel
theorem dX7_season_225 : decode (mC Y_X7_season) 225 = .ok (.iaload, 1) := by decide +kernel
theorem dX7_season_226 : decode (mC Y_X7_season) 226 = .ok (.bipush (-4), 2) := by decide +kernel
theorem dX7_season_228 : decode (mC Y_X7_season) 228 = .ok (.if_icmp .ne 7, 3) := by decide +kernel
theorem dX7_season_231 : decode (mC Y_X7_season) 231 = .ok (.iconst 0, 1) := by decide +kernel
theorem dX7_season_232 : decode (mC Y_X7_season) 232 = .ok (.goto 4, 3) := by decide +kernel
theorem dX7_season_235 : decode (mC Y_X7_season) 235 = .ok (.iconst 1, 1) := by decide +kernel
theorem dX7_season_236 : decode (mC Y_X7_season) 236 = .ok (.iadd, 1) := by decide +kernel
theorem dX7_season_237 : decode (mC Y_X7_season) 237 = .ok (.istore 6, 2) := by decide +kernel
theorem dX7_season_239 : decode (mC Y_X7_season) 239 = .ok (.iinc 7 1, 3) := by decide +kernel
theorem dX7_season_242 : decode (mC Y_X7_season) 242 = .ok (.goto (-46), 3) := by decide +kernel
theorem dX7_season_245 : decode (mC Y_X7_season) 245 = .ok (.iload_n 3, 1) := by decide +kernel
theorem dX7_season_246 : decode (mC Y_X7_season) 246 = .ok (.ifCond .ne 13, 3) := by decide +kernel
theorem dX7_season_249 : decode (mC Y_X7_season) 249 = .ok (.aload_n 0, 1) := by decide +kernel
theorem dX7_season_250 : decode (mC Y_X7_season) 250 = .ok (.getfield 112, 3) := by decide +kernel
theorem dX7_season_253 : decode (mC Y_X7_season) 253 = .ok (.iload 4, 2) := by decide +kernel
theorem dX7_season_255 : decode (mC Y_X7_season) 255 = .ok (.isub, 1) := by decide +kernel
theorem dX7_season_256 : decode (mC Y_X7_season) 256 = .ok (.goto 15, 3) := by decide +kernel
theorem dX7_season_259 : decode (mC Y_X7_season) 259 = .ok (.iload_n 3, 1) := by decide +kernel
theorem dX7_season_260 : decode (mC Y_X7_season) 260 = .ok (.iconst 1, 1) := by decide +kernel
theorem dX7_season_261 : decode (mC Y_X7_season) 261 = .ok (.if_icmp .ne 8, 3) := by decide +kernel
theorem dX7_season_264 : decode (mC Y_X7_season) 264 = .ok (.iload 6, 2) := by decide +kernel
theorem dX7_season_266 : decode (mC Y_X7_season) 266 = .ok (.goto 5, 3) := by decide +kernel
theorem dX7_season_269 : decode (mC Y_X7_season) 269 = .ok (.iload 5, 2) := by decide +kernel
theorem dX7_season_271 : decode (mC Y_X7_season) 271 = .ok (.istore 7, 2) := by decide +kernel
theorem dX7_season_273 : decode (mC Y_X7_season) 273 = .ok (.aload_n 0, 1) := by decide +kernel
theorem dX7_season_274 : decode (mC Y_X7_season) 274 = .ok (.invokevirtual 189, 3) := by decide +kernel
theorem dX7_season_277 : decode (mC Y_X7_season) 277 = .ok (.iload 7, 2) := by decide +kernel
theorem dX7_season_279 : decode (mC Y_X7_season) 279 = .ok (.ireturn, 1) := by decide +kernel
theorem dX7_keep_0 : decode (mC Y_X7_keep) 0 = .ok (.aload_n 0, 1) := by decide +kernel
theorem dX7_keep_1 : decode (mC Y_X7_keep) 1 = .ok (.getfield 124, 3) := by decide +kernel
theorem dX7_keep_4 : decode (mC Y_X7_keep) 4 = .ok (.iconst 2, 1) := by decide +kernel
theorem dX7_keep_5 : decode (mC Y_X7_keep) 5 = .ok (.if_icmp .ne 6, 3) := by decide +kernel
theorem dX7_keep_8 : decode (mC Y_X7_keep) 8 = .ok (.bipush (-3), 2) := by decide +kernel
theorem dX7_keep_10 : decode (mC Y_X7_keep) 10 = .ok (.ireturn, 1) := by decide +kernel
theorem dX7_keep_11 : decode (mC Y_X7_keep) 11 = .ok (.aload_n 0, 1) := by decide +kernel
theorem dX7_keep_12 : decode (mC Y_X7_keep) 12 = .ok (.aload_n 0, 1) := by decide +kernel
theorem dX7_keep_13 : decode (mC Y_X7_keep) 13 = .ok (.getfield 61, 3) := by decide +kernel
theorem dX7_keep_16 : decode (mC Y_X7_keep) 16 = .ok (.bipush 30, 2) := by decide +kernel
theorem dX7_keep_18 : decode (mC Y_X7_keep) 18 = .ok (.aload_n 0, 1) := by decide +kernel
theorem dX7_keep_19 : decode (mC Y_X7_keep) 19 = .ok (.getfield 124, 3) := by decide +kernel
theorem dX7_keep_22 : decode (mC Y_X7_keep) 22 = .ok (.imul, 1) := by decide +kernel
theorem dX7_keep_23 : decode (mC Y_X7_keep) 23 = .ok (.invokevirtual 159, 3) := by decide +kernel
theorem dX7_keep_26 : decode (mC Y_X7_keep) 26 = .ok (.aload_n 0, 1) := by decide +kernel
theorem dX7_keep_27 : decode (mC Y_X7_keep) 27 = .ok (.dup, 1) := by decide +kernel
theorem dX7_keep_28 : decode (mC Y_X7_keep) 28 = .ok (.getfield 124, 3) := by decide +kernel
theorem dX7_keep_31 : decode (mC Y_X7_keep) 31 = .ok (.iconst 1, 1) := by decide +kernel
theorem dX7_keep_32 : decode (mC Y_X7_keep) 32 = .ok (.iadd, 1) := by decide +kernel
theorem dX7_keep_33 : decode (mC Y_X7_keep) 33 = .ok (.putfield 124, 3) := by decide +kernel
theorem dX7_keep_36 : decode (mC Y_X7_keep) 36 = .ok (.aload_n 0, 1) := by decide +kernel
theorem dX7_keep_37 : decode (mC Y_X7_keep) 37 = .ok (.getfield 124, 3) := by decide +kernel
theorem dX7_keep_40 : decode (mC Y_X7_keep) 40 = .ok (.ireturn, 1) := by decide +kernel
theorem dX7_back_0 : decode (mC Y_X7_back) 0 = .ok (.aload_n 0, 1) := by decide +kernel
theorem dX7_back_1 : decode (mC Y_X7_back) 1 = .ok (.getfield 124, 3) := by decide +kernel
theorem dX7_back_4 : decode (mC Y_X7_back) 4 = .ok (.ifCond .ne 6, 3) := by decide +kernel
theorem dX7_back_7 : decode (mC Y_X7_back) 7 = .ok (.bipush (-2), 2) := by decide +kernel
theorem dX7_back_9 : decode (mC Y_X7_back) 9 = .ok (.ireturn, 1) := by decide +kernel
theorem dX7_back_10 : decode (mC Y_X7_back) 10 = .ok (.aload_n 0, 1) := by decide +kernel
theorem dX7_back_11 : decode (mC Y_X7_back) 11 = .ok (.dup, 1) := by decide +kernel
theorem dX7_back_12 : decode (mC Y_X7_back) 12 = .ok (.getfield 124, 3) := by decide +kernel
theorem dX7_back_15 : decode (mC Y_X7_back) 15 = .ok (.iconst 1, 1) := by decide +kernel
theorem dX7_back_16 : decode (mC Y_X7_back) 16 = .ok (.isub, 1) := by decide +kernel
theorem dX7_back_17 : decode (mC Y_X7_back) 17 = .ok (.putfield 124, 3) := by decide +kernel
theorem dX7_back_20 : decode (mC Y_X7_back) 20 = .ok (.aload_n 0, 1) := by decide +kernel
theorem dX7_back_21 : decode (mC Y_X7_back) 21 = .ok (.aload_n 0, 1) := by decide +kernel
theorem dX7_back_22 : decode (mC Y_X7_back) 22 = .ok (.getfield 61, 3) := by decide +kernel
theorem dX7_back_25 : decode (mC Y_X7_back) 25 = .ok (.bipush 30, 2) := by decide +kernel
theorem dX7_back_27 : decode (mC Y_X7_back) 27 = .ok (.aload_n 0, 1) := by decide +kernel
theorem dX7_back_28 : decode (mC Y_X7_back) 28 = .ok (.getfield 124, 3) := by decide +kernel
theorem dX7_back_31 : decode (mC Y_X7_back) 31 = .ok (.imul, 1) := by decide +kernel
theorem dX7_back_32 : decode (mC Y_X7_back) 32 = .ok (.invokevirtual 177, 3) := by decide +kernel
theorem dX7_back_35 : decode (mC Y_X7_back) 35 = .ok (.aload_n 0, 1) := by decide +kernel
theorem dX7_back_36 : decode (mC Y_X7_back) 36 = .ok (.iconst 0, 1) := by decide +kernel
theorem dX7_back_37 : decode (mC Y_X7_back) 37 = .ok (.putfield 121, 3) := by decide +kernel
theorem dX7_back_40 : decode (mC Y_X7_back) 40 = .ok (.aload_n 0, 1) := by decide +kernel
theorem dX7_back_41 : decode (mC Y_X7_back) 41 = .ok (.getfield 124, 3) := by decide +kernel
theorem dX7_back_44 : decode (mC Y_X7_back) 44 = .ok (.ireturn, 1) := by decide +kernel
theorem dX7_aboutMany_0 : decode (mC Y_X7_aboutMany) 0 = .ok (.iconst 0, 1) := by decide +kernel
theorem dX7_aboutMany_1 : decode (mC Y_X7_aboutMany) 1 = .ok (.istore_n 1, 1) := by decide +kernel
theorem dX7_aboutMany_2 : decode (mC Y_X7_aboutMany) 2 = .ok (.iconst 0, 1) := by decide +kernel
theorem dX7_aboutMany_3 : decode (mC Y_X7_aboutMany) 3 = .ok (.istore_n 2, 1) := by decide +kernel
theorem dX7_aboutMany_4 : decode (mC Y_X7_aboutMany) 4 = .ok (.iload_n 2, 1) := by decide +kernel
theorem dX7_aboutMany_5 : decode (mC Y_X7_aboutMany) 5 = .ok (.aload_n 0, 1) := by decide +kernel
theorem dX7_aboutMany_6 : decode (mC Y_X7_aboutMany) 6 = .ok (.getfield 68, 3) := by decide +kernel
theorem dX7_aboutMany_9 : decode (mC Y_X7_aboutMany) 9 = .ok (.if_icmp .ge 28, 3) := by decide +kernel
theorem dX7_aboutMany_12 : decode (mC Y_X7_aboutMany) 12 = .ok (.iload_n 1, 1) := by decide +kernel
theorem dX7_aboutMany_13 : decode (mC Y_X7_aboutMany) 13 = .ok (.aload_n 0, 1) := by decide +kernel
theorem dX7_aboutMany_14 : decode (mC Y_X7_aboutMany) 14 = .ok (.getfield 13, 3) := by decide +kernel
theorem dX7_aboutMany_17 : decode (mC Y_X7_aboutMany) 17 = .ok (.iload_n 2, 1) := by decide +kernel
theorem dX7_aboutMany_18 : decode (mC Y_X7_aboutMany) 18 = .ok (.iaload, 1) := by decide +kernel
theorem dX7_aboutMany_19 : decode (mC Y_X7_aboutMany) 19 = .ok (.bipush (-4), 2) := by decide +kernel
theorem dX7_aboutMany_21 : decode (mC Y_X7_aboutMany) 21 = .ok (.if_icmp .ne 7, 3) := by decide +kernel
theorem dX7_aboutMany_24 : decode (mC Y_X7_aboutMany) 24 = .ok (.iconst 0, 1) := by decide +kernel
theorem dX7_aboutMany_25 : decode (mC Y_X7_aboutMany) 25 = .ok (.goto 4, 3) := by decide +kernel
theorem dX7_aboutMany_28 : decode (mC Y_X7_aboutMany) 28 = .ok (.iconst 1, 1) := by decide +kernel
theorem dX7_aboutMany_29 : decode (mC Y_X7_aboutMany) 29 = .ok (.iadd, 1) := by decide +kernel
theorem dX7_aboutMany_30 : decode (mC Y_X7_aboutMany) 30 = .ok (.istore_n 1, 1) := by decide +kernel
theorem dX7_aboutMany_31 : decode (mC Y_X7_aboutMany) 31 = .ok (.iinc 2 1, 3) := by decide +kernel
theorem dX7_aboutMany_34 : decode (mC Y_X7_aboutMany) 34 = .ok (.goto (-30), 3) := by decide +kernel
theorem dX7_aboutMany_37 : decode (mC Y_X7_aboutMany) 37 = .ok (.iload_n 1, 1) := by decide +kernel
theorem dX7_aboutMany_38 : decode (mC Y_X7_aboutMany) 38 = .ok (.ireturn, 1) := by decide +kernel
theorem dX7_count_0 : decode (mC Y_X7_count) 0 = .ok (.iload_n 1, 1) := by decide +kernel
theorem dX7_count_1 : decode (mC Y_X7_count) 1 = .ok (.iconst 0, 1) := by decide +kernel
theorem dX7_count_2 : decode (mC Y_X7_count) 2 = .ok (.bipush 10, 2) := by decide +kernel
theorem dX7_count_4 : decode (mC Y_X7_count) 4 = .ok (.invokestatic 72, 3) := by decide +kernel
theorem dX7_count_7 : decode (mC Y_X7_count) 7 = .ok (.ifCond .ne 5, 3) := by decide +kernel
theorem dX7_count_10 : decode (mC Y_X7_count) 10 = .ok (.iconst (-1), 1) := by decide +kernel
theorem dX7_count_11 : decode (mC Y_X7_count) 11 = .ok (.ireturn, 1) := by decide +kernel
theorem dX7_count_12 : decode (mC Y_X7_count) 12 = .ok (.iload_n 1, 1) := by decide +kernel
theorem dX7_count_13 : decode (mC Y_X7_count) 13 = .ok (.tableswitch 107 0 9 #[55, 60, 65, 70, 76, 82, 87, 92, 97, 102], 55) := by decide +kernel
theorem dX7_count_68 : decode (mC Y_X7_count) 68 = .ok (.aload_n 0, 1) := by decide +kernel
theorem dX7_count_69 : decode (mC Y_X7_count) 69 = .ok (.getfield 68, 3) := by decide +kernel
theorem dX7_count_72 : decode (mC Y_X7_count) 72 = .ok (.ireturn, 1) := by decide +kernel
theorem dX7_count_73 : decode (mC Y_X7_count) 73 = .ok (.aload_n 0, 1) := by decide +kernel
theorem dX7_count_74 : decode (mC Y_X7_count) 74 = .ok (.getfield 109, 3) := by decide +kernel
theorem dX7_count_77 : decode (mC Y_X7_count) 77 = .ok (.ireturn, 1) := by decide +kernel
theorem dX7_count_78 : decode (mC Y_X7_count) 78 = .ok (.aload_n 0, 1) := by decide +kernel
theorem dX7_count_79 : decode (mC Y_X7_count) 79 = .ok (.invokevirtual 233, 3) := by decide +kernel
theorem dX7_count_82 : decode (mC Y_X7_count) 82 = .ok (.ireturn, 1) := by decide +kernel
theorem dX7_count_83 : decode (mC Y_X7_count) 83 = .ok (.aload_n 0, 1) := by decide +kernel
theorem dX7_count_84 : decode (mC Y_X7_count) 84 = .ok (.iconst 1, 1) := by decide +kernel
theorem dX7_count_85 : decode (mC Y_X7_count) 85 = .ok (.invokevirtual 139, 3) := by decide +kernel
theorem dX7_count_88 : decode (mC Y_X7_count) 88 = .ok (.ireturn, 1) := by decide +kernel
theorem dX7_count_89 : decode (mC Y_X7_count) 89 = .ok (.aload_n 0, 1) := by decide +kernel
theorem dX7_count_90 : decode (mC Y_X7_count) 90 = .ok (.iconst 0, 1) := by decide +kernel
theorem dX7_count_91 : decode (mC Y_X7_count) 91 = .ok (.invokevirtual 139, 3) := by decide +kernel
theorem dX7_count_94 : decode (mC Y_X7_count) 94 = .ok (.ireturn, 1) := by decide +kernel
theorem dX7_count_95 : decode (mC Y_X7_count) 95 = .ok (.aload_n 0, 1) := by decide +kernel
theorem dX7_count_96 : decode (mC Y_X7_count) 96 = .ok (.getfield 112, 3) := by decide +kernel
theorem dX7_count_99 : decode (mC Y_X7_count) 99 = .ok (.ireturn, 1) := by decide +kernel
theorem dX7_count_100 : decode (mC Y_X7_count) 100 = .ok (.aload_n 0, 1) := by decide +kernel
theorem dX7_count_101 : decode (mC Y_X7_count) 101 = .ok (.getfield 115, 3) := by decide +kernel
theorem dX7_count_104 : decode (mC Y_X7_count) 104 = .ok (.ireturn, 1) := by decide +kernel
theorem dX7_count_105 : decode (mC Y_X7_count) 105 = .ok (.aload_n 0, 1) := by decide +kernel
theorem dX7_count_106 : decode (mC Y_X7_count) 106 = .ok (.getfield 118, 3) := by decide +kernel
theorem dX7_count_109 : decode (mC Y_X7_count) 109 = .ok (.ireturn, 1) := by decide +kernel
theorem dX7_count_110 : decode (mC Y_X7_count) 110 = .ok (.aload_n 0, 1) := by decide +kernel
theorem dX7_count_111 : decode (mC Y_X7_count) 111 = .ok (.getfield 121, 3) := by decide +kernel
theorem dX7_count_114 : decode (mC Y_X7_count) 114 = .ok (.ireturn, 1) := by decide +kernel
theorem dX7_count_115 : decode (mC Y_X7_count) 115 = .ok (.aload_n 0, 1) := by decide +kernel
theorem dX7_count_116 : decode (mC Y_X7_count) 116 = .ok (.getfield 124, 3) := by decide +kernel
theorem dX7_count_119 : decode (mC Y_X7_count) 119 = .ok (.ireturn, 1) := by decide +kernel
theorem dX7_count_120 : decode (mC Y_X7_count) 120 = .ok (.aload_n 0, 1) := by decide +kernel
theorem dX7_count_121 : decode (mC Y_X7_count) 121 = .ok (.getfield 76, 3) := by decide +kernel
theorem dX7_count_124 : decode (mC Y_X7_count) 124 = .ok (.ireturn, 1) := by decide +kernel
theorem ct_X7_comes {D : DT} {l : Launch} {m : Mem} {x0 : Nat} {x1 : Int32} {x2 : Int32} {x3 : Int32} {x4 : Int32} {x5 : Int32} {r : Mem} (h : F_X7_comes x0 x1 x2 x3 x4 x5 m = some r) : Ct D l Y_X7_comes [.ref x0, .int x1, .int x2, .int x3, .int x4, .int x5] m (fun (v : Option Value) (N : Mem) => v = none ∧ N = r) := by
  refine ct_of (by decide) (by rfl) (ls0 := [.ref x0, .int x1, .int x2, .int x3, .int x4, .int x5]) rfl rfl ?_
  have h : HV (F_X7_comes x0 x1 x2 x3 x4 x5 m) (fun (v : Option Value) (N : Mem) => v = none ∧ N = r) := ⟨r, h, rfl, rfl⟩
  revert h
  generalize (fun (v : Option Value) (N : Mem) => v = none ∧ N = r) = post
  intro h
  refine wp_aload_n (i := 0) dX7_comes_0 rfl rfl ?_
  obtain ⟨v1, ev1, h⟩ := HV.bind h
  refine wp_getR cl7 (f := 1) (by decide) rfl fl_X7_9 dX7_comes_1 ev1 ?_
  refine wp_aload_n (i := 0) dX7_comes_4 rfl rfl ?_
  obtain ⟨v2, ev2, h⟩ := HV.bind h
  refine wp_getI cl7 (f := 0) (by decide) rfl fl_X7_68 dX7_comes_5 ev2 ?_
  refine wp_iload_n (i := 1) dX7_comes_8 rfl rfl ?_
  obtain ⟨m3, em3, h⟩ := HV.bind h
  refine wp_iastore dX7_comes_9 em3 ?_
  refine wp_aload_n (i := 0) dX7_comes_10 rfl rfl ?_
  obtain ⟨v4, ev4, h⟩ := HV.bind h
  refine wp_getR cl7 (f := 4) (by decide) rfl fl_X7_13 dX7_comes_11 ev4 ?_
  refine wp_aload_n (i := 0) dX7_comes_14 rfl rfl ?_
  obtain ⟨v5, ev5, h⟩ := HV.bind h
  refine wp_getI cl7 (f := 0) (by decide) rfl fl_X7_68 dX7_comes_15 ev5 ?_
  refine wp_iload_n (i := 2) dX7_comes_18 rfl rfl ?_
  obtain ⟨m6, em6, h⟩ := HV.bind h
  refine wp_iastore dX7_comes_19 em6 ?_
  refine wp_aload_n (i := 0) dX7_comes_20 rfl rfl ?_
  obtain ⟨v7, ev7, h⟩ := HV.bind h
  refine wp_getR cl7 (f := 5) (by decide) rfl fl_X7_16 dX7_comes_21 ev7 ?_
  refine wp_aload_n (i := 0) dX7_comes_24 rfl rfl ?_
  obtain ⟨v8, ev8, h⟩ := HV.bind h
  refine wp_getI cl7 (f := 0) (by decide) rfl fl_X7_68 dX7_comes_25 ev8 ?_
  refine wp_iload_n (i := 3) dX7_comes_28 rfl rfl ?_
  obtain ⟨m9, em9, h⟩ := HV.bind h
  refine wp_iastore dX7_comes_29 em9 ?_
  refine wp_aload_n (i := 0) dX7_comes_30 rfl rfl ?_
  obtain ⟨v10, ev10, h⟩ := HV.bind h
  refine wp_getR cl7 (f := 6) (by decide) rfl fl_X7_19 dX7_comes_31 ev10 ?_
  refine wp_aload_n (i := 0) dX7_comes_34 rfl rfl ?_
  obtain ⟨v11, ev11, h⟩ := HV.bind h
  refine wp_getI cl7 (f := 0) (by decide) rfl fl_X7_68 dX7_comes_35 ev11 ?_
  refine wp_iload dX7_comes_38 rfl ?_
  obtain ⟨m12, em12, h⟩ := HV.bind h
  refine wp_iastore dX7_comes_40 em12 ?_
  refine wp_aload_n (i := 0) dX7_comes_41 rfl rfl ?_
  obtain ⟨v13, ev13, h⟩ := HV.bind h
  refine wp_getR cl7 (f := 7) (by decide) rfl fl_X7_22 dX7_comes_42 ev13 ?_
  refine wp_aload_n (i := 0) dX7_comes_45 rfl rfl ?_
  obtain ⟨v14, ev14, h⟩ := HV.bind h
  refine wp_getI cl7 (f := 0) (by decide) rfl fl_X7_68 dX7_comes_46 ev14 ?_
  refine wp_iload dX7_comes_49 rfl ?_
  obtain ⟨m15, em15, h⟩ := HV.bind h
  refine wp_iastore dX7_comes_51 em15 ?_
  refine wp_aload_n (i := 0) dX7_comes_52 rfl rfl ?_
  refine wp_dup dX7_comes_53 rfl ?_
  obtain ⟨v16, ev16, h⟩ := HV.bind h
  refine wp_getI cl7 (f := 0) (by decide) rfl fl_X7_68 dX7_comes_54 ev16 ?_
  refine wp_iconst (v := 1) dX7_comes_57 (by decide) ?_
  refine wp_iadd dX7_comes_58 ?_
  obtain ⟨m17, em17, h⟩ := HV.bind h
  refine wp_putI cl7 (f := 0) (by decide) rfl fl_X7_68 (Or.inl rfl) dX7_comes_59 em17 ?_
  exact wp_vret dX7_comes_62 rfl (Nat.le_of_ble_eq_true rfl) (Nat.le_of_ble_eq_true rfl) (HV.some h)
theorem ct_X7_init {D : DT} {l : Launch} {m : Mem} {x0 : Nat} {r : Mem} (h : F_X7_init x0 m = some r) : Ct D l Y_X7_init [.ref x0] m (fun (v : Option Value) (N : Mem) => v = none ∧ N = r) := by
  refine ct_of (by decide) (by rfl) (ls0 := [.ref x0]) rfl rfl ?_
  have h : HV (F_X7_init x0 m) (fun (v : Option Value) (N : Mem) => v = none ∧ N = r) := ⟨r, h, rfl, rfl⟩
  revert h
  generalize (fun (v : Option Value) (N : Mem) => v = none ∧ N = r) = post
  intro h
  refine wp_aload_n (i := 0) dX7_init_0 rfl rfl ?_
  obtain ⟨v1, ev1, h⟩ := HV.bind h
  refine wp_objInit ml_X7_3 objw1 objw2 dX7_init_1 (chkT_lt ev1 (by decide)) (Nat.le_of_ble_eq_true rfl) (Nat.le_of_ble_eq_true rfl) ?_
  refine wp_aload_n (i := 0) dX7_init_4 rfl rfl ?_
  refine wp_bipush (v := 7) dX7_init_5 (by decide) ?_
  refine wp_newI (N := 7) aw_int dX7_init_7 (by decide) (by decide) (by decide) (Nat.le_of_ble_eq_true rfl) (Nat.le_of_ble_eq_true rfl) ?_
  obtain ⟨m2, em2, h⟩ := HV.bind h
  refine wp_putR cl7 (f := 1) (by decide) rfl fl_X7_9 (Or.inr ⟨rfl, rfl⟩) dX7_init_9 em2 ?_
  refine wp_aload_n (i := 0) dX7_init_12 rfl rfl ?_
  refine wp_bipush (v := 7) dX7_init_13 (by decide) ?_
  refine wp_newI (N := 7) aw_int dX7_init_15 (by decide) (by decide) (by decide) (Nat.le_of_ble_eq_true rfl) (Nat.le_of_ble_eq_true rfl) ?_
  obtain ⟨m3, em3, h⟩ := HV.bind h
  refine wp_putR cl7 (f := 4) (by decide) rfl fl_X7_13 (Or.inr ⟨rfl, rfl⟩) dX7_init_17 em3 ?_
  refine wp_aload_n (i := 0) dX7_init_20 rfl rfl ?_
  refine wp_bipush (v := 7) dX7_init_21 (by decide) ?_
  refine wp_newI (N := 7) aw_int dX7_init_23 (by decide) (by decide) (by decide) (Nat.le_of_ble_eq_true rfl) (Nat.le_of_ble_eq_true rfl) ?_
  obtain ⟨m4, em4, h⟩ := HV.bind h
  refine wp_putR cl7 (f := 5) (by decide) rfl fl_X7_16 (Or.inr ⟨rfl, rfl⟩) dX7_init_25 em4 ?_
  refine wp_aload_n (i := 0) dX7_init_28 rfl rfl ?_
  refine wp_bipush (v := 7) dX7_init_29 (by decide) ?_
  refine wp_newI (N := 7) aw_int dX7_init_31 (by decide) (by decide) (by decide) (Nat.le_of_ble_eq_true rfl) (Nat.le_of_ble_eq_true rfl) ?_
  obtain ⟨m5, em5, h⟩ := HV.bind h
  refine wp_putR cl7 (f := 6) (by decide) rfl fl_X7_19 (Or.inr ⟨rfl, rfl⟩) dX7_init_33 em5 ?_
  refine wp_aload_n (i := 0) dX7_init_36 rfl rfl ?_
  refine wp_bipush (v := 7) dX7_init_37 (by decide) ?_
  refine wp_newI (N := 7) aw_int dX7_init_39 (by decide) (by decide) (by decide) (Nat.le_of_ble_eq_true rfl) (Nat.le_of_ble_eq_true rfl) ?_
  obtain ⟨m6, em6, h⟩ := HV.bind h
  refine wp_putR cl7 (f := 7) (by decide) rfl fl_X7_22 (Or.inr ⟨rfl, rfl⟩) dX7_init_41 em6 ?_
  refine wp_aload_n (i := 0) dX7_init_44 rfl rfl ?_
  refine wp_bipush (v := 6) dX7_init_45 (by decide) ?_
  refine wp_newI (N := 6) aw_int dX7_init_47 (by decide) (by decide) (by decide) (Nat.le_of_ble_eq_true rfl) (Nat.le_of_ble_eq_true rfl) ?_
  obtain ⟨m7, em7, h⟩ := HV.bind h
  refine wp_putR cl7 (f := 9) (by decide) rfl fl_X7_25 (Or.inr ⟨rfl, rfl⟩) dX7_init_49 em7 ?_
  refine wp_aload_n (i := 0) dX7_init_52 rfl rfl ?_
  refine wp_bipush (v := 6) dX7_init_53 (by decide) ?_
  refine wp_newI (N := 6) aw_int dX7_init_55 (by decide) (by decide) (by decide) (Nat.le_of_ble_eq_true rfl) (Nat.le_of_ble_eq_true rfl) ?_
  obtain ⟨m8, em8, h⟩ := HV.bind h
  refine wp_putR cl7 (f := 10) (by decide) rfl fl_X7_28 (Or.inr ⟨rfl, rfl⟩) dX7_init_57 em8 ?_
  refine wp_aload_n (i := 0) dX7_init_60 rfl rfl ?_
  refine wp_bipush (v := 6) dX7_init_61 (by decide) ?_
  refine wp_newI (N := 6) aw_int dX7_init_63 (by decide) (by decide) (by decide) (Nat.le_of_ble_eq_true rfl) (Nat.le_of_ble_eq_true rfl) ?_
  obtain ⟨m9, em9, h⟩ := HV.bind h
  refine wp_putR cl7 (f := 11) (by decide) rfl fl_X7_31 (Or.inr ⟨rfl, rfl⟩) dX7_init_65 em9 ?_
  refine wp_aload_n (i := 0) dX7_init_68 rfl rfl ?_
  refine wp_bipush (v := 6) dX7_init_69 (by decide) ?_
  refine wp_newI (N := 6) aw_int dX7_init_71 (by decide) (by decide) (by decide) (Nat.le_of_ble_eq_true rfl) (Nat.le_of_ble_eq_true rfl) ?_
  obtain ⟨m10, em10, h⟩ := HV.bind h
  refine wp_putR cl7 (f := 13) (by decide) rfl fl_X7_34 (Or.inr ⟨rfl, rfl⟩) dX7_init_73 em10 ?_
  refine wp_aload_n (i := 0) dX7_init_76 rfl rfl ?_
  refine wp_bipush (v := 6) dX7_init_77 (by decide) ?_
  refine wp_newI (N := 6) aw_int dX7_init_79 (by decide) (by decide) (by decide) (Nat.le_of_ble_eq_true rfl) (Nat.le_of_ble_eq_true rfl) ?_
  obtain ⟨m11, em11, h⟩ := HV.bind h
  refine wp_putR cl7 (f := 14) (by decide) rfl fl_X7_37 (Or.inr ⟨rfl, rfl⟩) dX7_init_81 em11 ?_
  refine wp_aload_n (i := 0) dX7_init_84 rfl rfl ?_
  refine wp_sipush (v := 200) dX7_init_85 (by decide) ?_
  refine wp_newI (N := 200) aw_int dX7_init_88 (by decide) (by decide) (by decide) (Nat.le_of_ble_eq_true rfl) (Nat.le_of_ble_eq_true rfl) ?_
  obtain ⟨m12, em12, h⟩ := HV.bind h
  refine wp_putR cl7 (f := 15) (by decide) rfl fl_X7_40 (Or.inr ⟨rfl, rfl⟩) dX7_init_90 em12 ?_
  refine wp_aload_n (i := 0) dX7_init_93 rfl rfl ?_
  refine wp_bipush (v := 35) dX7_init_94 (by decide) ?_
  refine wp_newI (N := 35) aw_int dX7_init_96 (by decide) (by decide) (by decide) (Nat.le_of_ble_eq_true rfl) (Nat.le_of_ble_eq_true rfl) ?_
  obtain ⟨m13, em13, h⟩ := HV.bind h
  refine wp_putR cl7 (f := 19) (by decide) rfl fl_X7_43 (Or.inr ⟨rfl, rfl⟩) dX7_init_98 em13 ?_
  refine wp_aload_n (i := 0) dX7_init_101 rfl rfl ?_
  refine wp_sipush (v := 240) dX7_init_102 (by decide) ?_
  refine wp_newI (N := 240) aw_int dX7_init_105 (by decide) (by decide) (by decide) (Nat.le_of_ble_eq_true rfl) (Nat.le_of_ble_eq_true rfl) ?_
  obtain ⟨m14, em14, h⟩ := HV.bind h
  refine wp_putR cl7 (f := 21) (by decide) rfl fl_X7_46 (Or.inr ⟨rfl, rfl⟩) dX7_init_107 em14 ?_
  refine wp_aload_n (i := 0) dX7_init_110 rfl rfl ?_
  refine wp_bipush (v := 30) dX7_init_111 (by decide) ?_
  refine wp_newI (N := 30) aw_int dX7_init_113 (by decide) (by decide) (by decide) (Nat.le_of_ble_eq_true rfl) (Nat.le_of_ble_eq_true rfl) ?_
  obtain ⟨m15, em15, h⟩ := HV.bind h
  refine wp_putR cl7 (f := 23) (by decide) rfl fl_X7_49 (Or.inr ⟨rfl, rfl⟩) dX7_init_115 em15 ?_
  refine wp_aload_n (i := 0) dX7_init_118 rfl rfl ?_
  refine wp_bipush (v := 7) dX7_init_119 (by decide) ?_
  refine wp_newI (N := 7) aw_int dX7_init_121 (by decide) (by decide) (by decide) (Nat.le_of_ble_eq_true rfl) (Nat.le_of_ble_eq_true rfl) ?_
  obtain ⟨m16, em16, h⟩ := HV.bind h
  refine wp_putR cl7 (f := 25) (by decide) rfl fl_X7_52 (Or.inr ⟨rfl, rfl⟩) dX7_init_123 em16 ?_
  refine wp_aload_n (i := 0) dX7_init_126 rfl rfl ?_
  refine wp_bipush (v := 7) dX7_init_127 (by decide) ?_
  refine wp_newI (N := 7) aw_int dX7_init_129 (by decide) (by decide) (by decide) (Nat.le_of_ble_eq_true rfl) (Nat.le_of_ble_eq_true rfl) ?_
  obtain ⟨m17, em17, h⟩ := HV.bind h
  refine wp_putR cl7 (f := 26) (by decide) rfl fl_X7_55 (Or.inr ⟨rfl, rfl⟩) dX7_init_131 em17 ?_
  refine wp_aload_n (i := 0) dX7_init_134 rfl rfl ?_
  refine wp_bipush (v := 7) dX7_init_135 (by decide) ?_
  refine wp_newI (N := 7) aw_int dX7_init_137 (by decide) (by decide) (by decide) (Nat.le_of_ble_eq_true rfl) (Nat.le_of_ble_eq_true rfl) ?_
  obtain ⟨m18, em18, h⟩ := HV.bind h
  refine wp_putR cl7 (f := 27) (by decide) rfl fl_X7_58 (Or.inr ⟨rfl, rfl⟩) dX7_init_139 em18 ?_
  refine wp_aload_n (i := 0) dX7_init_142 rfl rfl ?_
  refine wp_bipush (v := 60) dX7_init_143 (by decide) ?_
  refine wp_newI (N := 60) aw_int dX7_init_145 (by decide) (by decide) (by decide) (Nat.le_of_ble_eq_true rfl) (Nat.le_of_ble_eq_true rfl) ?_
  obtain ⟨m19, em19, h⟩ := HV.bind h
  refine wp_putR cl7 (f := 28) (by decide) rfl fl_X7_61 (Or.inr ⟨rfl, rfl⟩) dX7_init_147 em19 ?_
  refine wp_aload_n (i := 0) dX7_init_150 rfl rfl ?_
  refine wp_iconst (v := 0) dX7_init_151 (by decide) ?_
  refine wp_iconst (v := 0) dX7_init_152 (by decide) ?_
  refine wp_iconst (v := 3) dX7_init_153 (by decide) ?_
  refine wp_iconst (v := 0) dX7_init_154 (by decide) ?_
  refine wp_iconst (v := 1) dX7_init_155 (by decide) ?_
  obtain ⟨v21, ev21, h⟩ := HV.bind h
  obtain ⟨v20, ev20, h⟩ := HV.bind h
  refine cgV_v (Y' := Y_X7_comes) (kc2 := 18) (ks2 := 651) dX7_init_156 ml_X7_64 ce_X7_comes (t := 7) rfl (by decide) ⟨(Nat.le_of_ble_eq_true rfl), (Nat.le_of_ble_eq_true rfl)⟩ ⟨(Nat.le_of_ble_eq_true rfl), (Nat.le_of_ble_eq_true rfl)⟩ rfl rfl (chkT_eq ev21) (ct_X7_comes ev20) rfl rfl (Nat.le_of_ble_eq_true rfl) ?_
  refine wp_aload_n (i := 0) dX7_init_159 rfl rfl ?_
  refine wp_iconst (v := 1) dX7_init_160 (by decide) ?_
  refine wp_iconst (v := 0) dX7_init_161 (by decide) ?_
  refine wp_iconst (v := 3) dX7_init_162 (by decide) ?_
  refine wp_bipush (v := 6) dX7_init_163 (by decide) ?_
  refine wp_iconst (v := 2) dX7_init_165 (by decide) ?_
  obtain ⟨v23, ev23, h⟩ := HV.bind h
  obtain ⟨v22, ev22, h⟩ := HV.bind h
  refine cgV_v (Y' := Y_X7_comes) (kc2 := 18) (ks2 := 651) dX7_init_166 ml_X7_64 ce_X7_comes (t := 7) rfl (by decide) ⟨(Nat.le_of_ble_eq_true rfl), (Nat.le_of_ble_eq_true rfl)⟩ ⟨(Nat.le_of_ble_eq_true rfl), (Nat.le_of_ble_eq_true rfl)⟩ rfl rfl (chkT_eq ev23) (ct_X7_comes ev22) rfl rfl (Nat.le_of_ble_eq_true rfl) ?_
  refine wp_aload_n (i := 0) dX7_init_169 rfl rfl ?_
  refine wp_iconst (v := 2) dX7_init_170 (by decide) ?_
  refine wp_iconst (v := 0) dX7_init_171 (by decide) ?_
  refine wp_iconst (v := 3) dX7_init_172 (by decide) ?_
  refine wp_iconst (v := 4) dX7_init_173 (by decide) ?_
  refine wp_iconst (v := 5) dX7_init_174 (by decide) ?_
  obtain ⟨v25, ev25, h⟩ := HV.bind h
  obtain ⟨v24, ev24, h⟩ := HV.bind h
  refine cgV_v (Y' := Y_X7_comes) (kc2 := 18) (ks2 := 651) dX7_init_175 ml_X7_64 ce_X7_comes (t := 7) rfl (by decide) ⟨(Nat.le_of_ble_eq_true rfl), (Nat.le_of_ble_eq_true rfl)⟩ ⟨(Nat.le_of_ble_eq_true rfl), (Nat.le_of_ble_eq_true rfl)⟩ rfl rfl (chkT_eq ev25) (ct_X7_comes ev24) rfl rfl (Nat.le_of_ble_eq_true rfl) ?_
  refine wp_aload_n (i := 0) dX7_init_178 rfl rfl ?_
  refine wp_iconst (v := 3) dX7_init_179 (by decide) ?_
  refine wp_iconst (v := 1) dX7_init_180 (by decide) ?_
  refine wp_iconst (v := 2) dX7_init_181 (by decide) ?_
  refine wp_bipush (v := 9) dX7_init_182 (by decide) ?_
  refine wp_iconst (v := 1) dX7_init_184 (by decide) ?_
  obtain ⟨v27, ev27, h⟩ := HV.bind h
  obtain ⟨v26, ev26, h⟩ := HV.bind h
  refine cgV_v (Y' := Y_X7_comes) (kc2 := 18) (ks2 := 651) dX7_init_185 ml_X7_64 ce_X7_comes (t := 7) rfl (by decide) ⟨(Nat.le_of_ble_eq_true rfl), (Nat.le_of_ble_eq_true rfl)⟩ ⟨(Nat.le_of_ble_eq_true rfl), (Nat.le_of_ble_eq_true rfl)⟩ rfl rfl (chkT_eq ev27) (ct_X7_comes ev26) rfl rfl (Nat.le_of_ble_eq_true rfl) ?_
  refine wp_aload_n (i := 0) dX7_init_188 rfl rfl ?_
  refine wp_iconst (v := 0) dX7_init_189 (by decide) ?_
  refine wp_iconst (v := 1) dX7_init_190 (by decide) ?_
  refine wp_iconst (v := 2) dX7_init_191 (by decide) ?_
  refine wp_iconst (v := 3) dX7_init_192 (by decide) ?_
  refine wp_bipush (v := 7) dX7_init_193 (by decide) ?_
  obtain ⟨v29, ev29, h⟩ := HV.bind h
  obtain ⟨v28, ev28, h⟩ := HV.bind h
  refine cgV_v (Y' := Y_X7_comes) (kc2 := 18) (ks2 := 651) dX7_init_195 ml_X7_64 ce_X7_comes (t := 7) rfl (by decide) ⟨(Nat.le_of_ble_eq_true rfl), (Nat.le_of_ble_eq_true rfl)⟩ ⟨(Nat.le_of_ble_eq_true rfl), (Nat.le_of_ble_eq_true rfl)⟩ rfl rfl (chkT_eq ev29) (ct_X7_comes ev28) rfl rfl (Nat.le_of_ble_eq_true rfl) ?_
  refine wp_aload_n (i := 0) dX7_init_198 rfl rfl ?_
  refine wp_iconst (v := 2) dX7_init_199 (by decide) ?_
  refine wp_iconst (v := 1) dX7_init_200 (by decide) ?_
  refine wp_iconst (v := 5) dX7_init_201 (by decide) ?_
  refine wp_iconst (v := 3) dX7_init_202 (by decide) ?_
  refine wp_iconst (v := 1) dX7_init_203 (by decide) ?_
  obtain ⟨v31, ev31, h⟩ := HV.bind h
  obtain ⟨v30, ev30, h⟩ := HV.bind h
  refine cgV_v (Y' := Y_X7_comes) (kc2 := 18) (ks2 := 651) dX7_init_204 ml_X7_64 ce_X7_comes (t := 7) rfl (by decide) ⟨(Nat.le_of_ble_eq_true rfl), (Nat.le_of_ble_eq_true rfl)⟩ ⟨(Nat.le_of_ble_eq_true rfl), (Nat.le_of_ble_eq_true rfl)⟩ rfl rfl (chkT_eq ev31) (ct_X7_comes ev30) rfl rfl (Nat.le_of_ble_eq_true rfl) ?_
  refine wp_aload_n (i := 0) dX7_init_207 rfl rfl ?_
  refine wp_iconst (v := 1) dX7_init_208 (by decide) ?_
  refine wp_iconst (v := 4) dX7_init_209 (by decide) ?_
  refine wp_iconst (v := 1) dX7_init_210 (by decide) ?_
  refine wp_iconst (v := 0) dX7_init_211 (by decide) ?_
  refine wp_iconst (v := 0) dX7_init_212 (by decide) ?_
  obtain ⟨v33, ev33, h⟩ := HV.bind h
  obtain ⟨v32, ev32, h⟩ := HV.bind h
  refine cgV_v (Y' := Y_X7_comes) (kc2 := 18) (ks2 := 651) dX7_init_213 ml_X7_64 ce_X7_comes (t := 7) rfl (by decide) ⟨(Nat.le_of_ble_eq_true rfl), (Nat.le_of_ble_eq_true rfl)⟩ ⟨(Nat.le_of_ble_eq_true rfl), (Nat.le_of_ble_eq_true rfl)⟩ rfl rfl (chkT_eq ev33) (ct_X7_comes ev32) rfl rfl (Nat.le_of_ble_eq_true rfl) ?_
  exact wp_vret dX7_init_216 rfl (Nat.le_of_ble_eq_true rfl) (Nat.le_of_ble_eq_true rfl) (HV.some h)
theorem ct_X7_in {D : DT} {l : Launch} {m : Mem} {x0 : Int32} {x1 : Int32} {x2 : Int32} {r : Int32} (h : F_X7_in x0 x1 x2 = some r) : Ct D l Y_X7_in [.int x0, .int x1, .int x2] m (fun (v : Option Value) (N : Mem) => v = some (Value.int r) ∧ N = m) := by
  refine ct_of (by decide) (by rfl) (ls0 := [.int x0, .int x1, .int x2]) rfl rfl ?_
  have h : PI m (F_X7_in x0 x1 x2) (fun (v : Option Value) (N : Mem) => v = some (Value.int r) ∧ N = m) := ⟨r, h, rfl, rfl⟩
  revert h
  generalize (fun (v : Option Value) (N : Mem) => v = some (Value.int r) ∧ N = m) = post
  intro h
  refine wp_iload_n (i := 0) dX7_in_0 rfl rfl ?_
  refine wp_iload_n (i := 1) dX7_in_1 rfl rfl ?_
  refine wp_icmp_lt (tgt := 14) dX7_in_2 (by decide) (fun c1 => ?_) (fun c1 => ?_)
  · have h := PI.t c1 h
    refine wp_iconst (v := 0) dX7_in_14 (by decide) ?_
    exact wp_iret dX7_in_15 rfl (by decide) (Nat.le_of_ble_eq_true rfl) (Nat.le_of_ble_eq_true rfl) (PI.some h)
  · have h := PI.f c1 h
    refine wp_iload_n (i := 0) dX7_in_5 rfl rfl ?_
    refine wp_iload_n (i := 2) dX7_in_6 rfl rfl ?_
    refine wp_icmp_gt (tgt := 14) dX7_in_7 (by decide) (fun c2 => ?_) (fun c2 => ?_)
    · have h := PI.t c2 h
      refine wp_iconst (v := 0) dX7_in_14 (by decide) ?_
      exact wp_iret dX7_in_15 rfl (by decide) (Nat.le_of_ble_eq_true rfl) (Nat.le_of_ble_eq_true rfl) (PI.some h)
    · have h := PI.f c2 h
      refine wp_iconst (v := 1) dX7_in_10 (by decide) ?_
      refine wp_goto (tgt := 15) dX7_in_11 (by decide) ?_
      exact wp_iret dX7_in_15 rfl (by decide) (Nat.le_of_ble_eq_true rfl) (Nat.le_of_ble_eq_true rfl) (PI.some h)
theorem ct_X7_write {D : DT} {l : Launch} {m : Mem} {x0 : Nat} {x1 : Int32} {r : (Int32 × Mem)} (h : F_X7_write x0 x1 m = some r) : Ct D l Y_X7_write [.ref x0, .int x1] m (fun (v : Option Value) (N : Mem) => v = some (Value.int r.1) ∧ N = r.2) := by
  refine ct_of (by decide) (by rfl) (ls0 := [.ref x0, .int x1]) rfl rfl ?_
  have h : HI (F_X7_write x0 x1 m) (fun (v : Option Value) (N : Mem) => v = some (Value.int r.1) ∧ N = r.2) := ⟨r.1, r.2, h, rfl, rfl⟩
  revert h
  generalize (fun (v : Option Value) (N : Mem) => v = some (Value.int r.1) ∧ N = r.2) = post
  intro h
  refine wp_iload_n (i := 1) dX7_write_0 rfl rfl ?_
  refine wp_bipush (v := 32) dX7_write_1 (by decide) ?_
  refine wp_bipush (v := 126) dX7_write_3 (by decide) ?_
  obtain ⟨v1, ev1, h⟩ := HI.bind h
  refine cgS_i (Y' := Y_X7_in) (kc2 := 0) (ks2 := 0) dX7_write_5 ml_X7_72 ce_X7_in ⟨(Nat.le_of_ble_eq_true rfl), (Nat.le_of_ble_eq_true rfl)⟩ ⟨(Nat.le_of_ble_eq_true rfl), (Nat.le_of_ble_eq_true rfl)⟩ rfl rfl (ct_X7_in ev1) rfl rfl (Nat.le_of_ble_eq_true rfl) ?_
  refine wp_if_ne (tgt := 13) dX7_write_8 (by decide) (fun c2 => ?_) (fun c2 => ?_)
  · have h := HI.f c2 h
    refine wp_aload_n (i := 0) dX7_write_13 rfl rfl ?_
    obtain ⟨v3, ev3, h⟩ := HI.bind h
    refine wp_getI cl7 (f := 16) (by decide) rfl fl_X7_76 dX7_write_14 ev3 ?_
    refine wp_sipush (v := 200) dX7_write_17 (by decide) ?_
    refine wp_icmp_ne (tgt := 26) dX7_write_20 (by decide) (fun c4 => ?_) (fun c4 => ?_)
    · have h := HI.f c4 h
      refine wp_aload_n (i := 0) dX7_write_26 rfl rfl ?_
      obtain ⟨v5, ev5, h⟩ := HI.bind h
      refine wp_getR cl7 (f := 15) (by decide) rfl fl_X7_40 dX7_write_27 ev5 ?_
      refine wp_aload_n (i := 0) dX7_write_30 rfl rfl ?_
      obtain ⟨v6, ev6, h⟩ := HI.bind h
      refine wp_getI cl7 (f := 16) (by decide) rfl fl_X7_76 dX7_write_31 ev6 ?_
      refine wp_iload_n (i := 1) dX7_write_34 rfl rfl ?_
      obtain ⟨m7, em7, h⟩ := HI.bind h
      refine wp_iastore dX7_write_35 em7 ?_
      refine wp_aload_n (i := 0) dX7_write_36 rfl rfl ?_
      refine wp_dup dX7_write_37 rfl ?_
      obtain ⟨v8, ev8, h⟩ := HI.bind h
      refine wp_getI cl7 (f := 16) (by decide) rfl fl_X7_76 dX7_write_38 ev8 ?_
      refine wp_iconst (v := 1) dX7_write_41 (by decide) ?_
      refine wp_iadd dX7_write_42 ?_
      obtain ⟨m9, em9, h⟩ := HI.bind h
      refine wp_putI cl7 (f := 16) (by decide) rfl fl_X7_76 (Or.inl rfl) dX7_write_43 em9 ?_
      refine wp_aload_n (i := 0) dX7_write_46 rfl rfl ?_
      obtain ⟨v10, ev10, h⟩ := HI.bind h
      refine wp_getI cl7 (f := 16) (by decide) rfl fl_X7_76 dX7_write_47 ev10 ?_
      exact wp_iret dX7_write_50 rfl rfl (Nat.le_of_ble_eq_true rfl) (Nat.le_of_ble_eq_true rfl) (HI.some h)
    · have h := HI.t c4 h
      refine wp_bipush (v := -3) dX7_write_23 (by decide) ?_
      exact wp_iret dX7_write_25 rfl rfl (Nat.le_of_ble_eq_true rfl) (Nat.le_of_ble_eq_true rfl) (HI.some h)
  · have h := HI.t c2 h
    refine wp_iconst (v := -1) dX7_write_11 (by decide) ?_
    exact wp_iret dX7_write_12 rfl rfl (Nat.le_of_ble_eq_true rfl) (Nat.le_of_ble_eq_true rfl) (HI.some h)
theorem ct_X7_wipe {D : DT} {l : Launch} {m : Mem} {x0 : Nat} {r : (Int32 × Mem)} (h : F_X7_wipe x0 m = some r) : Ct D l Y_X7_wipe [.ref x0] m (fun (v : Option Value) (N : Mem) => v = some (Value.int r.1) ∧ N = r.2) := by
  refine ct_of (by decide) (by rfl) (ls0 := [.ref x0, JK]) rfl rfl ?_
  have h : HI (F_X7_wipe x0 m) (fun (v : Option Value) (N : Mem) => v = some (Value.int r.1) ∧ N = r.2) := ⟨r.1, r.2, h, rfl, rfl⟩
  revert h
  generalize (fun (v : Option Value) (N : Mem) => v = some (Value.int r.1) ∧ N = r.2) = post
  intro h
  refine wp_aload_n (i := 0) dX7_wipe_0 rfl rfl ?_
  obtain ⟨v1, ev1, h⟩ := HI.bind h
  refine wp_getI cl7 (f := 16) (by decide) rfl fl_X7_76 dX7_wipe_1 ev1 ?_
  refine wp_istore_n (i := 1) dX7_wipe_4 rfl rfl rfl ?_
  refine wp_aload_n (i := 0) dX7_wipe_5 rfl rfl ?_
  refine wp_iconst (v := 0) dX7_wipe_6 (by decide) ?_
  obtain ⟨m2, em2, h⟩ := HI.bind h
  refine wp_putI cl7 (f := 16) (by decide) rfl fl_X7_76 (Or.inl rfl) dX7_wipe_7 em2 ?_
  refine wp_iload_n (i := 1) dX7_wipe_10 rfl rfl ?_
  exact wp_iret dX7_wipe_11 rfl rfl (Nat.le_of_ble_eq_true rfl) (Nat.le_of_ble_eq_true rfl) (HI.some h)
theorem ct_X7_here {D : DT} {l : Launch} {m : Mem} {x0 : Nat} {r : Int32} (h : F_X7_here x0 m = some r) : Ct D l Y_X7_here [.ref x0] m (fun (v : Option Value) (N : Mem) => v = some (Value.int r) ∧ N = m) := by
  refine ct_of (by decide) (by rfl) (ls0 := [.ref x0]) rfl rfl ?_
  have h : PI m (F_X7_here x0 m) (fun (v : Option Value) (N : Mem) => v = some (Value.int r) ∧ N = m) := ⟨r, h, rfl, rfl⟩
  revert h
  generalize (fun (v : Option Value) (N : Mem) => v = some (Value.int r) ∧ N = m) = post
  intro h
  refine wp_aload_n (i := 0) dX7_here_0 rfl rfl ?_
  obtain ⟨v1, ev1, h⟩ := PI.bind h
  refine wp_getI cl7 (f := 17) (by decide) rfl fl_X7_79 dX7_here_1 ev1 ?_
  refine wp_aload_n (i := 0) dX7_here_4 rfl rfl ?_
  obtain ⟨v2, ev2, h⟩ := PI.bind h
  refine wp_getI cl7 (f := 16) (by decide) rfl fl_X7_76 dX7_here_5 ev2 ?_
  refine wp_icmp_ge (tgt := 23) dX7_here_8 (by decide) (fun c3 => ?_) (fun c3 => ?_)
  · have h := PI.t c3 h
    refine wp_iconst (v := 0) dX7_here_23 (by decide) ?_
    exact wp_iret dX7_here_24 rfl rfl (Nat.le_of_ble_eq_true rfl) (Nat.le_of_ble_eq_true rfl) (PI.some h)
  · have h := PI.f c3 h
    refine wp_aload_n (i := 0) dX7_here_11 rfl rfl ?_
    obtain ⟨v4, ev4, h⟩ := PI.bind h
    refine wp_getR cl7 (f := 15) (by decide) rfl fl_X7_40 dX7_here_12 ev4 ?_
    refine wp_aload_n (i := 0) dX7_here_15 rfl rfl ?_
    obtain ⟨v5, ev5, h⟩ := PI.bind h
    refine wp_getI cl7 (f := 17) (by decide) rfl fl_X7_79 dX7_here_16 ev5 ?_
    obtain ⟨v6, ev6, h⟩ := PI.bind h
    refine wp_iaload dX7_here_19 ev6 ?_
    refine wp_goto (tgt := 24) dX7_here_20 (by decide) ?_
    exact wp_iret dX7_here_24 rfl rfl (Nat.le_of_ble_eq_true rfl) (Nat.le_of_ble_eq_true rfl) (PI.some h)
theorem ct_X7_highest {D : DT} {l : Launch} {m : Mem} {x0 : Int32} {r : Int32} (h : F_X7_highest x0 = some r) : Ct D l Y_X7_highest [.int x0] m (fun (v : Option Value) (N : Mem) => v = some (Value.int r) ∧ N = m) := by
  refine ct_of (by decide) (by rfl) (ls0 := [.int x0]) rfl rfl ?_
  have h : PI m (F_X7_highest x0) (fun (v : Option Value) (N : Mem) => v = some (Value.int r) ∧ N = m) := ⟨r, h, rfl, rfl⟩
  revert h
  generalize (fun (v : Option Value) (N : Mem) => v = some (Value.int r) ∧ N = m) = post
  intro h
  refine wp_iload_n (i := 0) dX7_highest_0 rfl rfl ?_
  refine wp_if_ne (tgt := 8) dX7_highest_1 (by decide) (fun c1 => ?_) (fun c1 => ?_)
  · have h := PI.f c1 h
    refine wp_iload_n (i := 0) dX7_highest_8 rfl rfl ?_
    refine wp_iconst (v := 1) dX7_highest_9 (by decide) ?_
    refine wp_icmp_ne (tgt := 17) dX7_highest_10 (by decide) (fun c2 => ?_) (fun c2 => ?_)
    · have h := PI.f c2 h
      refine wp_iload_n (i := 0) dX7_highest_17 rfl rfl ?_
      refine wp_iconst (v := 2) dX7_highest_18 (by decide) ?_
      refine wp_icmp_ne (tgt := 27) dX7_highest_19 (by decide) (fun c3 => ?_) (fun c3 => ?_)
      · have h := PI.f c3 h
        refine wp_bipush (v := 11) dX7_highest_27 (by decide) ?_
        exact wp_iret dX7_highest_29 rfl rfl (Nat.le_of_ble_eq_true rfl) (Nat.le_of_ble_eq_true rfl) (PI.some h)
      · have h := PI.t c3 h
        refine wp_bipush (v := 9) dX7_highest_22 (by decide) ?_
        refine wp_goto (tgt := 29) dX7_highest_24 (by decide) ?_
        exact wp_iret dX7_highest_29 rfl rfl (Nat.le_of_ble_eq_true rfl) (Nat.le_of_ble_eq_true rfl) (PI.some h)
    · have h := PI.t c2 h
      refine wp_iconst (v := 5) dX7_highest_13 (by decide) ?_
      refine wp_goto (tgt := 29) dX7_highest_14 (by decide) ?_
      exact wp_iret dX7_highest_29 rfl rfl (Nat.le_of_ble_eq_true rfl) (Nat.le_of_ble_eq_true rfl) (PI.some h)
  · have h := PI.t c1 h
    refine wp_iconst (v := 3) dX7_highest_4 (by decide) ?_
    refine wp_goto (tgt := 29) dX7_highest_5 (by decide) ?_
    exact wp_iret dX7_highest_29 rfl rfl (Nat.le_of_ble_eq_true rfl) (Nat.le_of_ble_eq_true rfl) (PI.some h)
theorem ct_X7_isFigure {D : DT} {l : Launch} {m : Mem} {x0 : Nat} {r : Int32} (h : F_X7_isFigure x0 m = some r) : Ct D l Y_X7_isFigure [.ref x0] m (fun (v : Option Value) (N : Mem) => v = some (Value.int r) ∧ N = m) := by
  refine ct_of (by decide) (by rfl) (ls0 := [.ref x0]) rfl rfl ?_
  have h : PI m (F_X7_isFigure x0 m) (fun (v : Option Value) (N : Mem) => v = some (Value.int r) ∧ N = m) := ⟨r, h, rfl, rfl⟩
  revert h
  generalize (fun (v : Option Value) (N : Mem) => v = some (Value.int r) ∧ N = m) = post
  intro h
  refine wp_aload_n (i := 0) dX7_isFigure_0 rfl rfl ?_
  obtain ⟨v2, ev2, h⟩ := PI.bind h
  obtain ⟨v1, ev1, h⟩ := PI.bind h
  refine cgV_i (Y' := Y_X7_here) (kc2 := 0) (ks2 := 0) dX7_isFigure_1 ml_X7_82 ce_X7_here (t := 7) rfl (by decide) ⟨(Nat.le_of_ble_eq_true rfl), (Nat.le_of_ble_eq_true rfl)⟩ ⟨(Nat.le_of_ble_eq_true rfl), (Nat.le_of_ble_eq_true rfl)⟩ rfl rfl (chkT_eq ev2) (ct_X7_here ev1) rfl rfl (Nat.le_of_ble_eq_true rfl) ?_
  refine wp_bipush (v := 48) dX7_isFigure_4 (by decide) ?_
  refine wp_bipush (v := 57) dX7_isFigure_6 (by decide) ?_
  obtain ⟨v3, ev3, h⟩ := PI.bind h
  refine cgS_i (Y' := Y_X7_in) (kc2 := 0) (ks2 := 0) dX7_isFigure_8 ml_X7_72 ce_X7_in ⟨(Nat.le_of_ble_eq_true rfl), (Nat.le_of_ble_eq_true rfl)⟩ ⟨(Nat.le_of_ble_eq_true rfl), (Nat.le_of_ble_eq_true rfl)⟩ rfl rfl (ct_X7_in ev3) rfl rfl (Nat.le_of_ble_eq_true rfl) ?_
  obtain ⟨v4, ev4, h⟩ := PI.bind h
  exact wp_iret dX7_isFigure_11 rfl (rN_of ev4) (Nat.le_of_ble_eq_true rfl) (Nat.le_of_ble_eq_true rfl) (PI.some h)
theorem w_X7_number_60 {D : DT} {l : Launch} {post : Option Value → Mem → Prop} {x0 : Nat} {x1 : Int32} {x2 : Int32} {x3 : Int32} {x4 : Int32} {m : Mem} (h : HI (F_X7_number_60 x0 x1 x2 x3 x4 m) post) : WP D l Y_X7_number 0 0 60 [.ref x0, .int x1, .int x2, .int x3, .int x4] [] m post := by
  refine wp_aload_n (i := 0) dX7_number_60 rfl rfl ?_
  refine wp_iload dX7_number_61 rfl ?_
  obtain ⟨m1, em1, h⟩ := HI.bind h
  refine wp_putI cl7 (f := 20) (by decide) rfl fl_X7_90 (Or.inl rfl) dX7_number_63 em1 ?_
  refine wp_aload_n (i := 0) dX7_number_66 rfl rfl ?_
  obtain ⟨v3, ev3, h⟩ := HI.bind h
  obtain ⟨v2, ev2, h⟩ := HI.bind h
  refine cgV_i (Y' := Y_X7_here) (kc2 := 0) (ks2 := 0) dX7_number_67 ml_X7_82 ce_X7_here (t := 7) rfl (by decide) ⟨(Nat.le_of_ble_eq_true rfl), (Nat.le_of_ble_eq_true rfl)⟩ ⟨(Nat.le_of_ble_eq_true rfl), (Nat.le_of_ble_eq_true rfl)⟩ rfl rfl (chkT_eq ev3) (ct_X7_here ev2) rfl rfl (Nat.le_of_ble_eq_true rfl) ?_
  refine wp_iload_n (i := 3) dX7_number_70 rfl rfl ?_
  refine wp_icmp_ne (tgt := 84) dX7_number_71 (by decide) (fun c4 => ?_) (fun c4 => ?_)
  · have h := HI.f c4 h
    refine wp_iconst (v := 0) dX7_number_84 (by decide) ?_
    exact wp_iret dX7_number_85 rfl (by decide) (Nat.le_of_ble_eq_true rfl) (Nat.le_of_ble_eq_true rfl) (HI.some h)
  · have h := HI.t c4 h
    refine wp_iload dX7_number_74 rfl ?_
    refine wp_iload_n (i := 1) dX7_number_76 rfl rfl ?_
    refine wp_iload_n (i := 2) dX7_number_77 rfl rfl ?_
    obtain ⟨v5, ev5, h⟩ := HI.bind h
    refine cgS_i (Y' := Y_X7_in) (kc2 := 0) (ks2 := 0) dX7_number_78 ml_X7_72 ce_X7_in ⟨(Nat.le_of_ble_eq_true rfl), (Nat.le_of_ble_eq_true rfl)⟩ ⟨(Nat.le_of_ble_eq_true rfl), (Nat.le_of_ble_eq_true rfl)⟩ rfl rfl (ct_X7_in ev5) rfl rfl (Nat.le_of_ble_eq_true rfl) ?_
    refine wp_if_ne (tgt := 86) dX7_number_81 (by decide) (fun c6 => ?_) (fun c6 => ?_)
    · have h := HI.f c6 h
      refine wp_aload_n (i := 0) dX7_number_86 rfl rfl ?_
      refine wp_dup dX7_number_87 rfl ?_
      obtain ⟨v7, ev7, h⟩ := HI.bind h
      refine wp_getI cl7 (f := 17) (by decide) rfl fl_X7_79 dX7_number_88 ev7 ?_
      refine wp_iconst (v := 1) dX7_number_91 (by decide) ?_
      refine wp_iadd dX7_number_92 ?_
      obtain ⟨m8, em8, h⟩ := HI.bind h
      refine wp_putI cl7 (f := 17) (by decide) rfl fl_X7_79 (Or.inl rfl) dX7_number_93 em8 ?_
      refine wp_iconst (v := 1) dX7_number_96 (by decide) ?_
      exact wp_iret dX7_number_97 rfl (by decide) (Nat.le_of_ble_eq_true rfl) (Nat.le_of_ble_eq_true rfl) (HI.some h)
    · have h := HI.t c6 h
      refine wp_iconst (v := 0) dX7_number_84 (by decide) ?_
      exact wp_iret dX7_number_85 rfl (by decide) (Nat.le_of_ble_eq_true rfl) (Nat.le_of_ble_eq_true rfl) (HI.some h)
theorem ct_X7_number {D : DT} {l : Launch} {m : Mem} {x0 : Nat} {x1 : Int32} {x2 : Int32} {x3 : Int32} {r : (Int32 × Mem)} (h : F_X7_number x0 x1 x2 x3 m = some r) : Ct D l Y_X7_number [.ref x0, .int x1, .int x2, .int x3] m (fun (v : Option Value) (N : Mem) => v = some (Value.int r.1) ∧ N = r.2) := by
  refine ct_of (by decide) (by rfl) (ls0 := [.ref x0, .int x1, .int x2, .int x3, JK]) rfl rfl ?_
  have h : HI (F_X7_number x0 x1 x2 x3 m) (fun (v : Option Value) (N : Mem) => v = some (Value.int r.1) ∧ N = r.2) := ⟨r.1, r.2, h, rfl, rfl⟩
  revert h
  generalize (fun (v : Option Value) (N : Mem) => v = some (Value.int r.1) ∧ N = r.2) = post
  intro h
  refine wp_aload_n (i := 0) dX7_number_0 rfl rfl ?_
  obtain ⟨v10, ev10, h⟩ := HI.bind h
  obtain ⟨v9, ev9, h⟩ := HI.bind h
  refine cgV_i (Y' := Y_X7_isFigure) (kc2 := 0) (ks2 := 0) dX7_number_1 ml_X7_86 ce_X7_isFigure (t := 7) rfl (by decide) ⟨(Nat.le_of_ble_eq_true rfl), (Nat.le_of_ble_eq_true rfl)⟩ ⟨(Nat.le_of_ble_eq_true rfl), (Nat.le_of_ble_eq_true rfl)⟩ rfl rfl (chkT_eq ev10) (ct_X7_isFigure ev9) rfl rfl (Nat.le_of_ble_eq_true rfl) ?_
  refine wp_if_ne (tgt := 9) dX7_number_4 (by decide) (fun c11 => ?_) (fun c11 => ?_)
  · have h := HI.f c11 h
    refine wp_aload_n (i := 0) dX7_number_9 rfl rfl ?_
    obtain ⟨v13, ev13, h⟩ := HI.bind h
    obtain ⟨v12, ev12, h⟩ := HI.bind h
    refine cgV_i (Y' := Y_X7_here) (kc2 := 0) (ks2 := 0) dX7_number_10 ml_X7_82 ce_X7_here (t := 7) rfl (by decide) ⟨(Nat.le_of_ble_eq_true rfl), (Nat.le_of_ble_eq_true rfl)⟩ ⟨(Nat.le_of_ble_eq_true rfl), (Nat.le_of_ble_eq_true rfl)⟩ rfl rfl (chkT_eq ev13) (ct_X7_here ev12) rfl rfl (Nat.le_of_ble_eq_true rfl) ?_
    refine wp_bipush (v := 48) dX7_number_13 (by decide) ?_
    refine wp_isub dX7_number_15 ?_
    refine wp_istore dX7_number_16 rfl rfl ?_
    refine wp_aload_n (i := 0) dX7_number_18 rfl rfl ?_
    refine wp_dup dX7_number_19 rfl ?_
    obtain ⟨v14, ev14, h⟩ := HI.bind h
    refine wp_getI cl7 (f := 17) (by decide) rfl fl_X7_79 dX7_number_20 ev14 ?_
    refine wp_iconst (v := 1) dX7_number_23 (by decide) ?_
    refine wp_iadd dX7_number_24 ?_
    obtain ⟨m15, em15, h⟩ := HI.bind h
    refine wp_putI cl7 (f := 17) (by decide) rfl fl_X7_79 (Or.inl rfl) dX7_number_25 em15 ?_
    refine wp_aload_n (i := 0) dX7_number_28 rfl rfl ?_
    obtain ⟨v17, ev17, h⟩ := HI.bind h
    obtain ⟨v16, ev16, h⟩ := HI.bind h
    refine cgV_i (Y' := Y_X7_isFigure) (kc2 := 0) (ks2 := 0) dX7_number_29 ml_X7_86 ce_X7_isFigure (t := 7) rfl (by decide) ⟨(Nat.le_of_ble_eq_true rfl), (Nat.le_of_ble_eq_true rfl)⟩ ⟨(Nat.le_of_ble_eq_true rfl), (Nat.le_of_ble_eq_true rfl)⟩ rfl rfl (chkT_eq ev17) (ct_X7_isFigure ev16) rfl rfl (Nat.le_of_ble_eq_true rfl) ?_
    refine wp_if_eq (tgt := 60) dX7_number_32 (by decide) (fun c18 => ?_) (fun c18 => ?_)
    · have h := HI.t c18 h
      exact (w_X7_number_60 h)
    · have h := HI.f c18 h
      refine wp_bipush (v := 10) dX7_number_35 (by decide) ?_
      refine wp_iload dX7_number_37 rfl ?_
      refine wp_imul dX7_number_39 ?_
      refine wp_aload_n (i := 0) dX7_number_40 rfl rfl ?_
      obtain ⟨v20, ev20, h⟩ := HI.bind h
      obtain ⟨v19, ev19, h⟩ := HI.bind h
      refine cgV_i (Y' := Y_X7_here) (kc2 := 0) (ks2 := 0) dX7_number_41 ml_X7_82 ce_X7_here (t := 7) rfl (by decide) ⟨(Nat.le_of_ble_eq_true rfl), (Nat.le_of_ble_eq_true rfl)⟩ ⟨(Nat.le_of_ble_eq_true rfl), (Nat.le_of_ble_eq_true rfl)⟩ rfl rfl (chkT_eq ev20) (ct_X7_here ev19) rfl rfl (Nat.le_of_ble_eq_true rfl) ?_
      refine wp_iadd dX7_number_44 ?_
      refine wp_bipush (v := 48) dX7_number_45 (by decide) ?_
      refine wp_isub dX7_number_47 ?_
      refine wp_istore dX7_number_48 rfl rfl ?_
      refine wp_aload_n (i := 0) dX7_number_50 rfl rfl ?_
      refine wp_dup dX7_number_51 rfl ?_
      obtain ⟨v21, ev21, h⟩ := HI.bind h
      refine wp_getI cl7 (f := 17) (by decide) rfl fl_X7_79 dX7_number_52 ev21 ?_
      refine wp_iconst (v := 1) dX7_number_55 (by decide) ?_
      refine wp_iadd dX7_number_56 ?_
      obtain ⟨m22, em22, h⟩ := HI.bind h
      refine wp_putI cl7 (f := 17) (by decide) rfl fl_X7_79 (Or.inl rfl) dX7_number_57 em22 ?_
      exact (w_X7_number_60 h)
  · have h := HI.t c11 h
    refine wp_iconst (v := 0) dX7_number_7 (by decide) ?_
    exact wp_iret dX7_number_8 rfl (by decide) (Nat.le_of_ble_eq_true rfl) (Nat.le_of_ble_eq_true rfl) (HI.some h)
theorem w_X7_readsItem_66 {D : DT} {l : Launch} {post : Option Value → Mem → Prop} {r34 : Nat → Int32 → Mem → Option (Int32 × Mem)} (hr34 : ∀ (x0 : Nat) (x2 : Int32) (m : Mem), HI (r34 x0 x2 m) post → WP D l Y_X7_readsItem 0 0 34 [.ref x0, JK, .int x2] [] m post) {x0 : Nat} {x2 : Int32} {s0 : Nat} {s1 : Int32} {s2 : Int32} {s3 : Int32} {m : Mem} (h : HI (F_X7_readsItem_66 r34 x0 x2 s0 s1 s2 s3 m) post) : WP D l Y_X7_readsItem 0 0 66 [.ref x0, JK, .int x2] [.int s3, .int s2, .int s1, .ref s0] m post := by
  obtain ⟨v2, ev2, h⟩ := HI.bind h
  obtain ⟨v1, ev1, h⟩ := HI.bind h
  refine cgV_i (Y' := Y_X7_number) (kc2 := 0) (ks2 := 0) dX7_readsItem_66 ml_X7_100 ce_X7_number (t := 7) rfl (by decide) ⟨(Nat.le_of_ble_eq_true rfl), (Nat.le_of_ble_eq_true rfl)⟩ ⟨(Nat.le_of_ble_eq_true rfl), (Nat.le_of_ble_eq_true rfl)⟩ rfl rfl (chkT_eq ev2) (ct_X7_number ev1) rfl rfl (Nat.le_of_ble_eq_true rfl) ?_
  refine wp_if_ne (tgt := 74) dX7_readsItem_69 (by decide) (fun c3 => ?_) (fun c3 => ?_)
  · have h := HI.f c3 h
    refine wp_aload_n (i := 0) dX7_readsItem_74 rfl rfl ?_
    obtain ⟨v4, ev4, h⟩ := HI.bind h
    refine wp_getR cl7 (f := 19) (by decide) rfl fl_X7_43 dX7_readsItem_75 ev4 ?_
    refine wp_iconst (v := 5) dX7_readsItem_78 (by decide) ?_
    refine wp_aload_n (i := 0) dX7_readsItem_79 rfl rfl ?_
    obtain ⟨v5, ev5, h⟩ := HI.bind h
    refine wp_getI cl7 (f := 18) (by decide) rfl fl_X7_93 dX7_readsItem_80 ev5 ?_
    refine wp_imul dX7_readsItem_83 ?_
    refine wp_iload_n (i := 2) dX7_readsItem_84 rfl rfl ?_
    refine wp_iadd dX7_readsItem_85 ?_
    refine wp_aload_n (i := 0) dX7_readsItem_86 rfl rfl ?_
    obtain ⟨v6, ev6, h⟩ := HI.bind h
    refine wp_getI cl7 (f := 20) (by decide) rfl fl_X7_90 dX7_readsItem_87 ev6 ?_
    obtain ⟨m7, em7, h⟩ := HI.bind h
    refine wp_iastore dX7_readsItem_90 em7 ?_
    refine wp_iinc (v := 1) dX7_readsItem_91 rfl (by decide) rfl rfl ?_
    refine wp_goto (tgt := 34) dX7_readsItem_94 (by decide) ?_
    exact (hr34 _ _ _ h)
  · have h := HI.t c3 h
    refine wp_iconst (v := 0) dX7_readsItem_72 (by decide) ?_
    exact wp_iret dX7_readsItem_73 rfl (by decide) (Nat.le_of_ble_eq_true rfl) (Nat.le_of_ble_eq_true rfl) (HI.some h)
theorem w_X7_readsItem_50 {D : DT} {l : Launch} {post : Option Value → Mem → Prop} {r34 : Nat → Int32 → Mem → Option (Int32 × Mem)} (hr34 : ∀ (x0 : Nat) (x2 : Int32) (m : Mem), HI (r34 x0 x2 m) post → WP D l Y_X7_readsItem 0 0 34 [.ref x0, JK, .int x2] [] m post) {x0 : Nat} {x2 : Int32} {s0 : Nat} {s1 : Int32} {m : Mem} (h : HI (F_X7_readsItem_50 r34 x0 x2 s0 s1 m) post) : WP D l Y_X7_readsItem 0 0 50 [.ref x0, JK, .int x2] [.int s1, .ref s0] m post := by
  refine wp_iload_n (i := 2) dX7_readsItem_50 rfl rfl ?_
  obtain ⟨v8, ev8, h⟩ := HI.bind h
  refine cgS_i (Y' := Y_X7_highest) (kc2 := 0) (ks2 := 0) dX7_readsItem_51 ml_X7_96 ce_X7_highest ⟨(Nat.le_of_ble_eq_true rfl), (Nat.le_of_ble_eq_true rfl)⟩ ⟨(Nat.le_of_ble_eq_true rfl), (Nat.le_of_ble_eq_true rfl)⟩ rfl rfl (ct_X7_highest ev8) rfl rfl (Nat.le_of_ble_eq_true rfl) ?_
  refine wp_iload_n (i := 2) dX7_readsItem_54 rfl rfl ?_
  refine wp_iconst (v := 4) dX7_readsItem_55 (by decide) ?_
  refine wp_icmp_ne (tgt := 64) dX7_readsItem_56 (by decide) (fun c9 => ?_) (fun c9 => ?_)
  · have h := HI.f c9 h
    refine wp_bipush (v := 44) dX7_readsItem_64 (by decide) ?_
    exact (w_X7_readsItem_66 hr34 h)
  · have h := HI.t c9 h
    refine wp_bipush (v := 59) dX7_readsItem_59 (by decide) ?_
    refine wp_goto (tgt := 66) dX7_readsItem_61 (by decide) ?_
    exact (w_X7_readsItem_66 hr34 h)
theorem w_X7_readsItem_34 {D : DT} {l : Launch} {post : Option Value → Mem → Prop} : ∀ (n : Nat) (x0 : Nat) (x2 : Int32) (m : Mem), HI (F_X7_readsItem_34 n x0 x2 m) post → WP D l Y_X7_readsItem 0 0 34 [.ref x0, JK, .int x2] [] m post := by
  intro n
  induction n with
  | zero => intro x0 x2 m h; exact (HI.none h).elim
  | succ n ih =>
    intro x0 x2 m h
    refine wp_iload_n (i := 2) dX7_readsItem_34 rfl rfl ?_
    refine wp_iconst (v := 5) dX7_readsItem_35 (by decide) ?_
    refine wp_icmp_ge (tgt := 97) dX7_readsItem_36 (by decide) (fun c10 => ?_) (fun c10 => ?_)
    · have h := HI.t c10 h
      refine wp_aload_n (i := 0) dX7_readsItem_97 rfl rfl ?_
      refine wp_dup dX7_readsItem_98 rfl ?_
      obtain ⟨v11, ev11, h⟩ := HI.bind h
      refine wp_getI cl7 (f := 18) (by decide) rfl fl_X7_93 dX7_readsItem_99 ev11 ?_
      refine wp_iconst (v := 1) dX7_readsItem_102 (by decide) ?_
      refine wp_iadd dX7_readsItem_103 ?_
      obtain ⟨m12, em12, h⟩ := HI.bind h
      refine wp_putI cl7 (f := 18) (by decide) rfl fl_X7_93 (Or.inl rfl) dX7_readsItem_104 em12 ?_
      refine wp_iconst (v := 1) dX7_readsItem_107 (by decide) ?_
      exact wp_iret dX7_readsItem_108 rfl (by decide) (Nat.le_of_ble_eq_true rfl) (Nat.le_of_ble_eq_true rfl) (HI.some h)
    · have h := HI.f c10 h
      refine wp_aload_n (i := 0) dX7_readsItem_39 rfl rfl ?_
      refine wp_iload_n (i := 2) dX7_readsItem_40 rfl rfl ?_
      refine wp_iconst (v := 2) dX7_readsItem_41 (by decide) ?_
      refine wp_icmp_ne (tgt := 49) dX7_readsItem_42 (by decide) (fun c13 => ?_) (fun c13 => ?_)
      · have h := HI.f c13 h
        refine wp_iconst (v := 0) dX7_readsItem_49 (by decide) ?_
        exact (w_X7_readsItem_50 ih h)
      · have h := HI.t c13 h
        refine wp_iconst (v := 1) dX7_readsItem_45 (by decide) ?_
        refine wp_goto (tgt := 50) dX7_readsItem_46 (by decide) ?_
        exact (w_X7_readsItem_50 ih h)
theorem ct_X7_readsItem {D : DT} {l : Launch} {m : Mem} {x0 : Nat} {r : (Int32 × Mem)} (h : F_X7_readsItem x0 m = some r) : Ct D l Y_X7_readsItem [.ref x0] m (fun (v : Option Value) (N : Mem) => v = some (Value.int r.1) ∧ N = r.2) := by
  refine ct_of (by decide) (by rfl) (ls0 := [.ref x0, JK, JK]) rfl rfl ?_
  have h : HI (F_X7_readsItem x0 m) (fun (v : Option Value) (N : Mem) => v = some (Value.int r.1) ∧ N = r.2) := ⟨r.1, r.2, h, rfl, rfl⟩
  revert h
  generalize (fun (v : Option Value) (N : Mem) => v = some (Value.int r.1) ∧ N = r.2) = post
  intro h
  refine wp_aload_n (i := 0) dX7_readsItem_0 rfl rfl ?_
  obtain ⟨v15, ev15, h⟩ := HI.bind h
  obtain ⟨v14, ev14, h⟩ := HI.bind h
  refine cgV_i (Y' := Y_X7_here) (kc2 := 0) (ks2 := 0) dX7_readsItem_1 ml_X7_82 ce_X7_here (t := 7) rfl (by decide) ⟨(Nat.le_of_ble_eq_true rfl), (Nat.le_of_ble_eq_true rfl)⟩ ⟨(Nat.le_of_ble_eq_true rfl), (Nat.le_of_ble_eq_true rfl)⟩ rfl rfl (chkT_eq ev15) (ct_X7_here ev14) rfl rfl (Nat.le_of_ble_eq_true rfl) ?_
  refine wp_istore_n (i := 1) dX7_readsItem_4 rfl rfl rfl ?_
  refine wp_aload_n (i := 0) dX7_readsItem_5 rfl rfl ?_
  refine wp_dup dX7_readsItem_6 rfl ?_
  obtain ⟨v16, ev16, h⟩ := HI.bind h
  refine wp_getI cl7 (f := 17) (by decide) rfl fl_X7_79 dX7_readsItem_7 ev16 ?_
  refine wp_iconst (v := 1) dX7_readsItem_10 (by decide) ?_
  refine wp_iadd dX7_readsItem_11 ?_
  obtain ⟨m17, em17, h⟩ := HI.bind h
  refine wp_putI cl7 (f := 17) (by decide) rfl fl_X7_79 (Or.inl rfl) dX7_readsItem_12 em17 ?_
  refine wp_iload_n (i := 1) dX7_readsItem_15 rfl rfl ?_
  refine wp_bipush (v := 112) dX7_readsItem_16 (by decide) ?_
  refine wp_icmp_ne (tgt := 30) dX7_readsItem_18 (by decide) (fun c18 => ?_) (fun c18 => ?_)
  · have h := HI.f c18 h
    refine wp_iconst (v := 0) dX7_readsItem_30 (by decide) ?_
    exact wp_iret dX7_readsItem_31 rfl (by decide) (Nat.le_of_ble_eq_true rfl) (Nat.le_of_ble_eq_true rfl) (HI.some h)
  · have h := HI.t c18 h
    refine wp_aload_n (i := 0) dX7_readsItem_21 rfl rfl ?_
    obtain ⟨v19, ev19, h⟩ := HI.bind h
    refine wp_getI cl7 (f := 18) (by decide) rfl fl_X7_93 dX7_readsItem_22 ev19 ?_
    refine wp_bipush (v := 7) dX7_readsItem_25 (by decide) ?_
    refine wp_icmp_ne (tgt := 32) dX7_readsItem_27 (by decide) (fun c20 => ?_) (fun c20 => ?_)
    · have h := HI.f c20 h
      refine wp_iconst (v := 0) dX7_readsItem_32 (by decide) ?_
      refine wp_istore_n (i := 2) dX7_readsItem_33 rfl rfl rfl ?_
      exact wp_weak [true, false, true] (w_X7_readsItem_34 _ _ _ _ h)
    · have h := HI.t c20 h
      refine wp_iconst (v := 0) dX7_readsItem_30 (by decide) ?_
      exact wp_iret dX7_readsItem_31 rfl (by decide) (Nat.le_of_ble_eq_true rfl) (Nat.le_of_ble_eq_true rfl) (HI.some h)
theorem w_X7_fault_10 {D : DT} {l : Launch} {post : Option Value → Mem → Prop} : ∀ (n : Nat) (x0 : Nat) (m : Mem), HI (F_X7_fault_10 n x0 m) post → WP D l Y_X7_fault 0 0 10 [.ref x0, JK] [] m post := by
  intro n
  induction n with
  | zero => intro x0 m h; exact (HI.none h).elim
  | succ n ih =>
    intro x0 m h
    refine wp_aload_n (i := 0) dX7_fault_10 rfl rfl ?_
    obtain ⟨v1, ev1, h⟩ := HI.bind h
    refine wp_getI cl7 (f := 17) (by decide) rfl fl_X7_79 dX7_fault_11 ev1 ?_
    refine wp_aload_n (i := 0) dX7_fault_14 rfl rfl ?_
    obtain ⟨v2, ev2, h⟩ := HI.bind h
    refine wp_getI cl7 (f := 16) (by decide) rfl fl_X7_76 dX7_fault_15 ev2 ?_
    refine wp_icmp_ge (tgt := 38) dX7_fault_18 (by decide) (fun c3 => ?_) (fun c3 => ?_)
    · have h := HI.t c3 h
      refine wp_bipush (v := -4) dX7_fault_38 (by decide) ?_
      exact wp_iret dX7_fault_40 rfl rfl (Nat.le_of_ble_eq_true rfl) (Nat.le_of_ble_eq_true rfl) (HI.some h)
    · have h := HI.f c3 h
      refine wp_aload_n (i := 0) dX7_fault_21 rfl rfl ?_
      obtain ⟨v4, ev4, h⟩ := HI.bind h
      refine wp_getI cl7 (f := 17) (by decide) rfl fl_X7_79 dX7_fault_22 ev4 ?_
      refine wp_istore_n (i := 1) dX7_fault_25 rfl rfl rfl ?_
      refine wp_aload_n (i := 0) dX7_fault_26 rfl rfl ?_
      obtain ⟨v6, ev6, h⟩ := HI.bind h
      obtain ⟨v5, ev5, h⟩ := HI.bind h
      refine cgV_i (Y' := Y_X7_readsItem) (kc2 := 0) (ks2 := 0) dX7_fault_27 ml_X7_103 ce_X7_readsItem (t := 7) rfl (by decide) ⟨(Nat.le_of_ble_eq_true rfl), (Nat.le_of_ble_eq_true rfl)⟩ ⟨(Nat.le_of_ble_eq_true rfl), (Nat.le_of_ble_eq_true rfl)⟩ rfl rfl (chkT_eq ev6) (ct_X7_readsItem ev5) rfl rfl (Nat.le_of_ble_eq_true rfl) ?_
      refine wp_if_ne (tgt := 35) dX7_fault_30 (by decide) (fun c7 => ?_) (fun c7 => ?_)
      · have h := HI.f c7 h
        refine wp_goto (tgt := 10) dX7_fault_35 (by decide) ?_
        exact wp_weak [true, false] (ih _ _ h)
      · have h := HI.t c7 h
        refine wp_iload_n (i := 1) dX7_fault_33 rfl rfl ?_
        exact wp_iret dX7_fault_34 rfl rfl (Nat.le_of_ble_eq_true rfl) (Nat.le_of_ble_eq_true rfl) (HI.some h)
theorem ct_X7_fault {D : DT} {l : Launch} {m : Mem} {x0 : Nat} {r : (Int32 × Mem)} (h : F_X7_fault x0 m = some r) : Ct D l Y_X7_fault [.ref x0] m (fun (v : Option Value) (N : Mem) => v = some (Value.int r.1) ∧ N = r.2) := by
  refine ct_of (by decide) (by rfl) (ls0 := [.ref x0, JK]) rfl rfl ?_
  have h : HI (F_X7_fault x0 m) (fun (v : Option Value) (N : Mem) => v = some (Value.int r.1) ∧ N = r.2) := ⟨r.1, r.2, h, rfl, rfl⟩
  revert h
  generalize (fun (v : Option Value) (N : Mem) => v = some (Value.int r.1) ∧ N = r.2) = post
  intro h
  refine wp_aload_n (i := 0) dX7_fault_0 rfl rfl ?_
  refine wp_iconst (v := 0) dX7_fault_1 (by decide) ?_
  obtain ⟨m8, em8, h⟩ := HI.bind h
  refine wp_putI cl7 (f := 17) (by decide) rfl fl_X7_79 (Or.inl rfl) dX7_fault_2 em8 ?_
  refine wp_aload_n (i := 0) dX7_fault_5 rfl rfl ?_
  refine wp_iconst (v := 0) dX7_fault_6 (by decide) ?_
  obtain ⟨m9, em9, h⟩ := HI.bind h
  refine wp_putI cl7 (f := 18) (by decide) rfl fl_X7_93 (Or.inl rfl) dX7_fault_7 em9 ?_
  exact (w_X7_fault_10 _ _ _ h)
theorem w_X7_lay_26 {D : DT} {l : Launch} {post : Option Value → Mem → Prop} : ∀ (n : Nat) (x0 : Nat) (x1 : Int32) (m : Mem), HI (F_X7_lay_26 n x0 x1 m) post → WP D l Y_X7_lay 0 0 26 [.ref x0, .int x1] [] m post := by
  intro n
  induction n with
  | zero => intro x0 x1 m h; exact (HI.none h).elim
  | succ n ih =>
    intro x0 x1 m h
    refine wp_iload_n (i := 1) dX7_lay_26 rfl rfl ?_
    refine wp_aload_n (i := 0) dX7_lay_27 rfl rfl ?_
    obtain ⟨v1, ev1, h⟩ := HI.bind h
    refine wp_getI cl7 (f := 18) (by decide) rfl fl_X7_93 dX7_lay_28 ev1 ?_
    refine wp_icmp_ge (tgt := 92) dX7_lay_31 (by decide) (fun c2 => ?_) (fun c2 => ?_)
    · have h := HI.t c2 h
      refine wp_aload_n (i := 0) dX7_lay_92 rfl rfl ?_
      refine wp_iconst (v := 0) dX7_lay_93 (by decide) ?_
      obtain ⟨m3, em3, h⟩ := HI.bind h
      refine wp_putI cl7 (f := 2) (by decide) rfl fl_X7_109 (Or.inl rfl) dX7_lay_94 em3 ?_
      refine wp_aload_n (i := 0) dX7_lay_97 rfl rfl ?_
      refine wp_iconst (v := 0) dX7_lay_98 (by decide) ?_
      obtain ⟨m4, em4, h⟩ := HI.bind h
      refine wp_putI cl7 (f := 3) (by decide) rfl fl_X7_112 (Or.inl rfl) dX7_lay_99 em4 ?_
      refine wp_aload_n (i := 0) dX7_lay_102 rfl rfl ?_
      refine wp_iconst (v := 0) dX7_lay_103 (by decide) ?_
      obtain ⟨m5, em5, h⟩ := HI.bind h
      refine wp_putI cl7 (f := 8) (by decide) rfl fl_X7_115 (Or.inl rfl) dX7_lay_104 em5 ?_
      refine wp_aload_n (i := 0) dX7_lay_107 rfl rfl ?_
      refine wp_iconst (v := 0) dX7_lay_108 (by decide) ?_
      obtain ⟨m6, em6, h⟩ := HI.bind h
      refine wp_putI cl7 (f := 12) (by decide) rfl fl_X7_118 (Or.inl rfl) dX7_lay_109 em6 ?_
      refine wp_aload_n (i := 0) dX7_lay_112 rfl rfl ?_
      refine wp_iconst (v := 0) dX7_lay_113 (by decide) ?_
      obtain ⟨m7, em7, h⟩ := HI.bind h
      refine wp_putI cl7 (f := 22) (by decide) rfl fl_X7_121 (Or.inl rfl) dX7_lay_114 em7 ?_
      refine wp_aload_n (i := 0) dX7_lay_117 rfl rfl ?_
      refine wp_iconst (v := 0) dX7_lay_118 (by decide) ?_
      obtain ⟨m8, em8, h⟩ := HI.bind h
      refine wp_putI cl7 (f := 29) (by decide) rfl fl_X7_124 (Or.inl rfl) dX7_lay_119 em8 ?_
      refine wp_aload_n (i := 0) dX7_lay_122 rfl rfl ?_
      obtain ⟨v9, ev9, h⟩ := HI.bind h
      refine wp_getI cl7 (f := 0) (by decide) rfl fl_X7_68 dX7_lay_123 ev9 ?_
      exact wp_iret dX7_lay_126 rfl rfl (Nat.le_of_ble_eq_true rfl) (Nat.le_of_ble_eq_true rfl) (HI.some h)
    · have h := HI.f c2 h
      refine wp_aload_n (i := 0) dX7_lay_34 rfl rfl ?_
      refine wp_aload_n (i := 0) dX7_lay_35 rfl rfl ?_
      obtain ⟨v10, ev10, h⟩ := HI.bind h
      refine wp_getR cl7 (f := 19) (by decide) rfl fl_X7_43 dX7_lay_36 ev10 ?_
      refine wp_iconst (v := 5) dX7_lay_39 (by decide) ?_
      refine wp_iload_n (i := 1) dX7_lay_40 rfl rfl ?_
      refine wp_imul dX7_lay_41 ?_
      obtain ⟨v11, ev11, h⟩ := HI.bind h
      refine wp_iaload dX7_lay_42 ev11 ?_
      refine wp_aload_n (i := 0) dX7_lay_43 rfl rfl ?_
      obtain ⟨v12, ev12, h⟩ := HI.bind h
      refine wp_getR cl7 (f := 19) (by decide) rfl fl_X7_43 dX7_lay_44 ev12 ?_
      refine wp_iconst (v := 5) dX7_lay_47 (by decide) ?_
      refine wp_iload_n (i := 1) dX7_lay_48 rfl rfl ?_
      refine wp_imul dX7_lay_49 ?_
      refine wp_iconst (v := 1) dX7_lay_50 (by decide) ?_
      refine wp_iadd dX7_lay_51 ?_
      obtain ⟨v13, ev13, h⟩ := HI.bind h
      refine wp_iaload dX7_lay_52 ev13 ?_
      refine wp_aload_n (i := 0) dX7_lay_53 rfl rfl ?_
      obtain ⟨v14, ev14, h⟩ := HI.bind h
      refine wp_getR cl7 (f := 19) (by decide) rfl fl_X7_43 dX7_lay_54 ev14 ?_
      refine wp_iconst (v := 5) dX7_lay_57 (by decide) ?_
      refine wp_iload_n (i := 1) dX7_lay_58 rfl rfl ?_
      refine wp_imul dX7_lay_59 ?_
      refine wp_iconst (v := 2) dX7_lay_60 (by decide) ?_
      refine wp_iadd dX7_lay_61 ?_
      obtain ⟨v15, ev15, h⟩ := HI.bind h
      refine wp_iaload dX7_lay_62 ev15 ?_
      refine wp_aload_n (i := 0) dX7_lay_63 rfl rfl ?_
      obtain ⟨v16, ev16, h⟩ := HI.bind h
      refine wp_getR cl7 (f := 19) (by decide) rfl fl_X7_43 dX7_lay_64 ev16 ?_
      refine wp_iconst (v := 5) dX7_lay_67 (by decide) ?_
      refine wp_iload_n (i := 1) dX7_lay_68 rfl rfl ?_
      refine wp_imul dX7_lay_69 ?_
      refine wp_iconst (v := 3) dX7_lay_70 (by decide) ?_
      refine wp_iadd dX7_lay_71 ?_
      obtain ⟨v17, ev17, h⟩ := HI.bind h
      refine wp_iaload dX7_lay_72 ev17 ?_
      refine wp_aload_n (i := 0) dX7_lay_73 rfl rfl ?_
      obtain ⟨v18, ev18, h⟩ := HI.bind h
      refine wp_getR cl7 (f := 19) (by decide) rfl fl_X7_43 dX7_lay_74 ev18 ?_
      refine wp_iconst (v := 5) dX7_lay_77 (by decide) ?_
      refine wp_iload_n (i := 1) dX7_lay_78 rfl rfl ?_
      refine wp_imul dX7_lay_79 ?_
      refine wp_iconst (v := 4) dX7_lay_80 (by decide) ?_
      refine wp_iadd dX7_lay_81 ?_
      obtain ⟨v19, ev19, h⟩ := HI.bind h
      refine wp_iaload dX7_lay_82 ev19 ?_
      obtain ⟨v21, ev21, h⟩ := HI.bind h
      obtain ⟨v20, ev20, h⟩ := HI.bind h
      refine cgV_v (Y' := Y_X7_comes) (kc2 := 0) (ks2 := 0) dX7_lay_83 ml_X7_64 ce_X7_comes (t := 7) rfl (by decide) ⟨(Nat.le_of_ble_eq_true rfl), (Nat.le_of_ble_eq_true rfl)⟩ ⟨(Nat.le_of_ble_eq_true rfl), (Nat.le_of_ble_eq_true rfl)⟩ rfl rfl (chkT_eq ev21) (ct_X7_comes ev20) rfl rfl (Nat.le_of_ble_eq_true rfl) ?_
      refine wp_iinc (v := 1) dX7_lay_86 rfl (by decide) rfl rfl ?_
      refine wp_goto (tgt := 26) dX7_lay_89 (by decide) ?_
      exact (ih _ _ _ h)
theorem ct_X7_lay {D : DT} {l : Launch} {m : Mem} {x0 : Nat} {r : (Int32 × Mem)} (h : F_X7_lay x0 m = some r) : Ct D l Y_X7_lay [.ref x0] m (fun (v : Option Value) (N : Mem) => v = some (Value.int r.1) ∧ N = r.2) := by
  refine ct_of (by decide) (by rfl) (ls0 := [.ref x0, JK]) rfl rfl ?_
  have h : HI (F_X7_lay x0 m) (fun (v : Option Value) (N : Mem) => v = some (Value.int r.1) ∧ N = r.2) := ⟨r.1, r.2, h, rfl, rfl⟩
  revert h
  generalize (fun (v : Option Value) (N : Mem) => v = some (Value.int r.1) ∧ N = r.2) = post
  intro h
  refine wp_aload_n (i := 0) dX7_lay_0 rfl rfl ?_
  obtain ⟨v23, ev23, h⟩ := HI.bind h
  obtain ⟨v22, ev22, h⟩ := HI.bind h
  refine cgV_i (Y' := Y_X7_fault) (kc2 := 0) (ks2 := 0) dX7_lay_1 ml_X7_106 ce_X7_fault (t := 7) rfl (by decide) ⟨(Nat.le_of_ble_eq_true rfl), (Nat.le_of_ble_eq_true rfl)⟩ ⟨(Nat.le_of_ble_eq_true rfl), (Nat.le_of_ble_eq_true rfl)⟩ rfl rfl (chkT_eq ev23) (ct_X7_fault ev22) rfl rfl (Nat.le_of_ble_eq_true rfl) ?_
  refine wp_bipush (v := -4) dX7_lay_4 (by decide) ?_
  refine wp_icmp_ne (tgt := 16) dX7_lay_6 (by decide) (fun c24 => ?_) (fun c24 => ?_)
  · have h := HI.f c24 h
    refine wp_bipush (v := -2) dX7_lay_16 (by decide) ?_
    exact wp_iret dX7_lay_18 rfl rfl (Nat.le_of_ble_eq_true rfl) (Nat.le_of_ble_eq_true rfl) (HI.some h)
  · have h := HI.t c24 h
    refine wp_aload_n (i := 0) dX7_lay_9 rfl rfl ?_
    obtain ⟨v25, ev25, h⟩ := HI.bind h
    refine wp_getI cl7 (f := 18) (by decide) rfl fl_X7_93 dX7_lay_10 ev25 ?_
    refine wp_if_ne (tgt := 19) dX7_lay_13 (by decide) (fun c26 => ?_) (fun c26 => ?_)
    · have h := HI.f c26 h
      refine wp_aload_n (i := 0) dX7_lay_19 rfl rfl ?_
      refine wp_iconst (v := 0) dX7_lay_20 (by decide) ?_
      obtain ⟨m27, em27, h⟩ := HI.bind h
      refine wp_putI cl7 (f := 0) (by decide) rfl fl_X7_68 (Or.inl rfl) dX7_lay_21 em27 ?_
      refine wp_iconst (v := 0) dX7_lay_24 (by decide) ?_
      refine wp_istore_n (i := 1) dX7_lay_25 rfl rfl rfl ?_
      exact (w_X7_lay_26 _ _ _ _ h)
    · have h := HI.t c26 h
      refine wp_bipush (v := -2) dX7_lay_16 (by decide) ?_
      exact wp_iret dX7_lay_18 rfl rfl (Nat.le_of_ble_eq_true rfl) (Nat.le_of_ble_eq_true rfl) (HI.some h)
theorem ct_X7_isPerson {D : DT} {l : Launch} {m : Mem} {x0 : Nat} {x1 : Int32} {r : Int32} (h : F_X7_isPerson x0 x1 m = some r) : Ct D l Y_X7_isPerson [.ref x0, .int x1] m (fun (v : Option Value) (N : Mem) => v = some (Value.int r) ∧ N = m) := by
  refine ct_of (by decide) (by rfl) (ls0 := [.ref x0, .int x1]) rfl rfl ?_
  have h : PI m (F_X7_isPerson x0 x1 m) (fun (v : Option Value) (N : Mem) => v = some (Value.int r) ∧ N = m) := ⟨r, h, rfl, rfl⟩
  revert h
  generalize (fun (v : Option Value) (N : Mem) => v = some (Value.int r) ∧ N = m) = post
  intro h
  refine wp_iload_n (i := 1) dX7_isPerson_0 rfl rfl ?_
  refine wp_iconst (v := 0) dX7_isPerson_1 (by decide) ?_
  refine wp_aload_n (i := 0) dX7_isPerson_2 rfl rfl ?_
  obtain ⟨v1, ev1, h⟩ := PI.bind h
  refine wp_getI cl7 (f := 0) (by decide) rfl fl_X7_68 dX7_isPerson_3 ev1 ?_
  refine wp_iconst (v := 1) dX7_isPerson_6 (by decide) ?_
  refine wp_isub dX7_isPerson_7 ?_
  obtain ⟨v2, ev2, h⟩ := PI.bind h
  refine cgS_i (Y' := Y_X7_in) (kc2 := 0) (ks2 := 0) dX7_isPerson_8 ml_X7_72 ce_X7_in ⟨(Nat.le_of_ble_eq_true rfl), (Nat.le_of_ble_eq_true rfl)⟩ ⟨(Nat.le_of_ble_eq_true rfl), (Nat.le_of_ble_eq_true rfl)⟩ rfl rfl (ct_X7_in ev2) rfl rfl (Nat.le_of_ble_eq_true rfl) ?_
  obtain ⟨v3, ev3, h⟩ := PI.bind h
  exact wp_iret dX7_isPerson_11 rfl (rN_of ev3) (Nat.le_of_ble_eq_true rfl) (Nat.le_of_ble_eq_true rfl) (PI.some h)
theorem ct_X7_person {D : DT} {l : Launch} {m : Mem} {x0 : Nat} {x1 : Int32} {x2 : Int32} {r : Int32} (h : F_X7_person x0 x1 x2 m = some r) : Ct D l Y_X7_person [.ref x0, .int x1, .int x2] m (fun (v : Option Value) (N : Mem) => v = some (Value.int r) ∧ N = m) := by
  refine ct_of (by decide) (by rfl) (ls0 := [.ref x0, .int x1, .int x2]) rfl rfl ?_
  have h : PI m (F_X7_person x0 x1 x2 m) (fun (v : Option Value) (N : Mem) => v = some (Value.int r) ∧ N = m) := ⟨r, h, rfl, rfl⟩
  revert h
  generalize (fun (v : Option Value) (N : Mem) => v = some (Value.int r) ∧ N = m) = post
  intro h
  refine wp_aload_n (i := 0) dX7_person_0 rfl rfl ?_
  refine wp_iload_n (i := 1) dX7_person_1 rfl rfl ?_
  obtain ⟨v2, ev2, h⟩ := PI.bind h
  obtain ⟨v1, ev1, h⟩ := PI.bind h
  refine cgV_i (Y' := Y_X7_isPerson) (kc2 := 0) (ks2 := 0) dX7_person_2 ml_X7_146 ce_X7_isPerson (t := 7) rfl (by decide) ⟨(Nat.le_of_ble_eq_true rfl), (Nat.le_of_ble_eq_true rfl)⟩ ⟨(Nat.le_of_ble_eq_true rfl), (Nat.le_of_ble_eq_true rfl)⟩ rfl rfl (chkT_eq ev2) (ct_X7_isPerson ev1) rfl rfl (Nat.le_of_ble_eq_true rfl) ?_
  refine wp_if_eq (tgt := 17) dX7_person_5 (by decide) (fun c3 => ?_) (fun c3 => ?_)
  · have h := PI.t c3 h
    refine wp_iconst (v := -1) dX7_person_17 (by decide) ?_
    exact wp_iret dX7_person_18 rfl rfl (Nat.le_of_ble_eq_true rfl) (Nat.le_of_ble_eq_true rfl) (PI.some h)
  · have h := PI.f c3 h
    refine wp_iload_n (i := 2) dX7_person_8 rfl rfl ?_
    refine wp_iconst (v := 0) dX7_person_9 (by decide) ?_
    refine wp_iconst (v := 4) dX7_person_10 (by decide) ?_
    obtain ⟨v4, ev4, h⟩ := PI.bind h
    refine cgS_i (Y' := Y_X7_in) (kc2 := 0) (ks2 := 0) dX7_person_11 ml_X7_72 ce_X7_in ⟨(Nat.le_of_ble_eq_true rfl), (Nat.le_of_ble_eq_true rfl)⟩ ⟨(Nat.le_of_ble_eq_true rfl), (Nat.le_of_ble_eq_true rfl)⟩ rfl rfl (ct_X7_in ev4) rfl rfl (Nat.le_of_ble_eq_true rfl) ?_
    refine wp_if_ne (tgt := 19) dX7_person_14 (by decide) (fun c5 => ?_) (fun c5 => ?_)
    · have h := PI.f c5 h
      refine wp_iload_n (i := 2) dX7_person_19 rfl rfl ?_
      refine wp_if_ne (tgt := 32) dX7_person_20 (by decide) (fun c6 => ?_) (fun c6 => ?_)
      · have h := PI.f c6 h
        refine wp_iload_n (i := 2) dX7_person_32 rfl rfl ?_
        refine wp_iconst (v := 1) dX7_person_33 (by decide) ?_
        refine wp_icmp_ne (tgt := 46) dX7_person_34 (by decide) (fun c7 => ?_) (fun c7 => ?_)
        · have h := PI.f c7 h
          refine wp_iload_n (i := 2) dX7_person_46 rfl rfl ?_
          refine wp_iconst (v := 2) dX7_person_47 (by decide) ?_
          refine wp_icmp_ne (tgt := 60) dX7_person_48 (by decide) (fun c8 => ?_) (fun c8 => ?_)
          · have h := PI.f c8 h
            refine wp_iload_n (i := 2) dX7_person_60 rfl rfl ?_
            refine wp_iconst (v := 3) dX7_person_61 (by decide) ?_
            refine wp_icmp_ne (tgt := 74) dX7_person_62 (by decide) (fun c9 => ?_) (fun c9 => ?_)
            · have h := PI.f c9 h
              refine wp_aload_n (i := 0) dX7_person_74 rfl rfl ?_
              obtain ⟨v10, ev10, h⟩ := PI.bind h
              refine wp_getR cl7 (f := 7) (by decide) rfl fl_X7_22 dX7_person_75 ev10 ?_
              refine wp_iload_n (i := 1) dX7_person_78 rfl rfl ?_
              obtain ⟨v11, ev11, h⟩ := PI.bind h
              refine wp_iaload dX7_person_79 ev11 ?_
              exact wp_iret dX7_person_80 rfl rfl (Nat.le_of_ble_eq_true rfl) (Nat.le_of_ble_eq_true rfl) (PI.some h)
            · have h := PI.t c9 h
              refine wp_aload_n (i := 0) dX7_person_65 rfl rfl ?_
              obtain ⟨v12, ev12, h⟩ := PI.bind h
              refine wp_getR cl7 (f := 6) (by decide) rfl fl_X7_19 dX7_person_66 ev12 ?_
              refine wp_iload_n (i := 1) dX7_person_69 rfl rfl ?_
              obtain ⟨v13, ev13, h⟩ := PI.bind h
              refine wp_iaload dX7_person_70 ev13 ?_
              refine wp_goto (tgt := 80) dX7_person_71 (by decide) ?_
              exact wp_iret dX7_person_80 rfl rfl (Nat.le_of_ble_eq_true rfl) (Nat.le_of_ble_eq_true rfl) (PI.some h)
          · have h := PI.t c8 h
            refine wp_aload_n (i := 0) dX7_person_51 rfl rfl ?_
            obtain ⟨v14, ev14, h⟩ := PI.bind h
            refine wp_getR cl7 (f := 5) (by decide) rfl fl_X7_16 dX7_person_52 ev14 ?_
            refine wp_iload_n (i := 1) dX7_person_55 rfl rfl ?_
            obtain ⟨v15, ev15, h⟩ := PI.bind h
            refine wp_iaload dX7_person_56 ev15 ?_
            refine wp_goto (tgt := 80) dX7_person_57 (by decide) ?_
            exact wp_iret dX7_person_80 rfl rfl (Nat.le_of_ble_eq_true rfl) (Nat.le_of_ble_eq_true rfl) (PI.some h)
        · have h := PI.t c7 h
          refine wp_aload_n (i := 0) dX7_person_37 rfl rfl ?_
          obtain ⟨v16, ev16, h⟩ := PI.bind h
          refine wp_getR cl7 (f := 4) (by decide) rfl fl_X7_13 dX7_person_38 ev16 ?_
          refine wp_iload_n (i := 1) dX7_person_41 rfl rfl ?_
          obtain ⟨v17, ev17, h⟩ := PI.bind h
          refine wp_iaload dX7_person_42 ev17 ?_
          refine wp_goto (tgt := 80) dX7_person_43 (by decide) ?_
          exact wp_iret dX7_person_80 rfl rfl (Nat.le_of_ble_eq_true rfl) (Nat.le_of_ble_eq_true rfl) (PI.some h)
      · have h := PI.t c6 h
        refine wp_aload_n (i := 0) dX7_person_23 rfl rfl ?_
        obtain ⟨v18, ev18, h⟩ := PI.bind h
        refine wp_getR cl7 (f := 1) (by decide) rfl fl_X7_9 dX7_person_24 ev18 ?_
        refine wp_iload_n (i := 1) dX7_person_27 rfl rfl ?_
        obtain ⟨v19, ev19, h⟩ := PI.bind h
        refine wp_iaload dX7_person_28 ev19 ?_
        refine wp_goto (tgt := 80) dX7_person_29 (by decide) ?_
        exact wp_iret dX7_person_80 rfl rfl (Nat.le_of_ble_eq_true rfl) (Nat.le_of_ble_eq_true rfl) (PI.some h)
    · have h := PI.t c5 h
      refine wp_iconst (v := -1) dX7_person_17 (by decide) ?_
      exact wp_iret dX7_person_18 rfl rfl (Nat.le_of_ble_eq_true rfl) (Nat.le_of_ble_eq_true rfl) (PI.some h)
theorem ct_X7_isAbout {D : DT} {l : Launch} {m : Mem} {x0 : Nat} {x1 : Int32} {x2 : Int32} {r : Int32} (h : F_X7_isAbout x0 x1 x2 m = some r) : Ct D l Y_X7_isAbout [.ref x0, .int x1, .int x2] m (fun (v : Option Value) (N : Mem) => v = some (Value.int r) ∧ N = m) := by
  refine ct_of (by decide) (by rfl) (ls0 := [.ref x0, .int x1, .int x2]) rfl rfl ?_
  have h : PI m (F_X7_isAbout x0 x1 x2 m) (fun (v : Option Value) (N : Mem) => v = some (Value.int r) ∧ N = m) := ⟨r, h, rfl, rfl⟩
  revert h
  generalize (fun (v : Option Value) (N : Mem) => v = some (Value.int r) ∧ N = m) = post
  intro h
  refine wp_aload_n (i := 0) dX7_isAbout_0 rfl rfl ?_
  obtain ⟨v1, ev1, h⟩ := PI.bind h
  refine wp_getR cl7 (f := 4) (by decide) rfl fl_X7_13 dX7_isAbout_1 ev1 ?_
  refine wp_iload_n (i := 1) dX7_isAbout_4 rfl rfl ?_
  obtain ⟨v2, ev2, h⟩ := PI.bind h
  refine wp_iaload dX7_isAbout_5 ev2 ?_
  refine wp_bipush (v := -4) dX7_isAbout_6 (by decide) ?_
  refine wp_icmp_eq (tgt := 45) dX7_isAbout_8 (by decide) (fun c3 => ?_) (fun c3 => ?_)
  · have h := PI.t c3 h
    refine wp_iconst (v := 0) dX7_isAbout_45 (by decide) ?_
    exact wp_iret dX7_isAbout_46 rfl (by decide) (Nat.le_of_ble_eq_true rfl) (Nat.le_of_ble_eq_true rfl) (PI.some h)
  · have h := PI.f c3 h
    refine wp_aload_n (i := 0) dX7_isAbout_11 rfl rfl ?_
    obtain ⟨v4, ev4, h⟩ := PI.bind h
    refine wp_getR cl7 (f := 4) (by decide) rfl fl_X7_13 dX7_isAbout_12 ev4 ?_
    refine wp_iload_n (i := 1) dX7_isAbout_15 rfl rfl ?_
    obtain ⟨v5, ev5, h⟩ := PI.bind h
    refine wp_iaload dX7_isAbout_16 ev5 ?_
    refine wp_aload_n (i := 0) dX7_isAbout_17 rfl rfl ?_
    obtain ⟨v6, ev6, h⟩ := PI.bind h
    refine wp_getR cl7 (f := 4) (by decide) rfl fl_X7_13 dX7_isAbout_18 ev6 ?_
    refine wp_iload_n (i := 2) dX7_isAbout_21 rfl rfl ?_
    obtain ⟨v7, ev7, h⟩ := PI.bind h
    refine wp_iaload dX7_isAbout_22 ev7 ?_
    refine wp_icmp_ne (tgt := 45) dX7_isAbout_23 (by decide) (fun c8 => ?_) (fun c8 => ?_)
    · have h := PI.f c8 h
      refine wp_iconst (v := 0) dX7_isAbout_45 (by decide) ?_
      exact wp_iret dX7_isAbout_46 rfl (by decide) (Nat.le_of_ble_eq_true rfl) (Nat.le_of_ble_eq_true rfl) (PI.some h)
    · have h := PI.t c8 h
      refine wp_aload_n (i := 0) dX7_isAbout_26 rfl rfl ?_
      obtain ⟨v9, ev9, h⟩ := PI.bind h
      refine wp_getR cl7 (f := 6) (by decide) rfl fl_X7_19 dX7_isAbout_27 ev9 ?_
      refine wp_iload_n (i := 1) dX7_isAbout_30 rfl rfl ?_
      obtain ⟨v10, ev10, h⟩ := PI.bind h
      refine wp_iaload dX7_isAbout_31 ev10 ?_
      refine wp_aload_n (i := 0) dX7_isAbout_32 rfl rfl ?_
      obtain ⟨v11, ev11, h⟩ := PI.bind h
      refine wp_getR cl7 (f := 6) (by decide) rfl fl_X7_19 dX7_isAbout_33 ev11 ?_
      refine wp_iload_n (i := 2) dX7_isAbout_36 rfl rfl ?_
      obtain ⟨v12, ev12, h⟩ := PI.bind h
      refine wp_iaload dX7_isAbout_37 ev12 ?_
      refine wp_icmp_ne (tgt := 45) dX7_isAbout_38 (by decide) (fun c13 => ?_) (fun c13 => ?_)
      · have h := PI.f c13 h
        refine wp_iconst (v := 0) dX7_isAbout_45 (by decide) ?_
        exact wp_iret dX7_isAbout_46 rfl (by decide) (Nat.le_of_ble_eq_true rfl) (Nat.le_of_ble_eq_true rfl) (PI.some h)
      · have h := PI.t c13 h
        refine wp_iconst (v := 1) dX7_isAbout_41 (by decide) ?_
        refine wp_goto (tgt := 46) dX7_isAbout_42 (by decide) ?_
        exact wp_iret dX7_isAbout_46 rfl (by decide) (Nat.le_of_ble_eq_true rfl) (Nat.le_of_ble_eq_true rfl) (PI.some h)
theorem ct_X7_meets {D : DT} {l : Launch} {m : Mem} {x0 : Nat} {x1 : Int32} {x2 : Int32} {r : Int32} (h : F_X7_meets x0 x1 x2 m = some r) : Ct D l Y_X7_meets [.ref x0, .int x1, .int x2] m (fun (v : Option Value) (N : Mem) => v = some (Value.int r) ∧ N = m) := by
  refine ct_of (by decide) (by rfl) (ls0 := [.ref x0, .int x1, .int x2]) rfl rfl ?_
  have h : PI m (F_X7_meets x0 x1 x2 m) (fun (v : Option Value) (N : Mem) => v = some (Value.int r) ∧ N = m) := ⟨r, h, rfl, rfl⟩
  revert h
  generalize (fun (v : Option Value) (N : Mem) => v = some (Value.int r) ∧ N = m) = post
  intro h
  refine wp_aload_n (i := 0) dX7_meets_0 rfl rfl ?_
  refine wp_iload_n (i := 1) dX7_meets_1 rfl rfl ?_
  refine wp_iload_n (i := 2) dX7_meets_2 rfl rfl ?_
  obtain ⟨v2, ev2, h⟩ := PI.bind h
  obtain ⟨v1, ev1, h⟩ := PI.bind h
  refine cgV_i (Y' := Y_X7_isAbout) (kc2 := 0) (ks2 := 0) dX7_meets_3 ml_X7_131 ce_X7_isAbout (t := 7) rfl (by decide) ⟨(Nat.le_of_ble_eq_true rfl), (Nat.le_of_ble_eq_true rfl)⟩ ⟨(Nat.le_of_ble_eq_true rfl), (Nat.le_of_ble_eq_true rfl)⟩ rfl rfl (chkT_eq ev2) (ct_X7_isAbout ev1) rfl rfl (Nat.le_of_ble_eq_true rfl) ?_
  refine wp_if_eq (tgt := 28) dX7_meets_6 (by decide) (fun c3 => ?_) (fun c3 => ?_)
  · have h := PI.t c3 h
    refine wp_iconst (v := 0) dX7_meets_28 (by decide) ?_
    exact wp_iret dX7_meets_29 rfl (by decide) (Nat.le_of_ble_eq_true rfl) (Nat.le_of_ble_eq_true rfl) (PI.some h)
  · have h := PI.f c3 h
    refine wp_aload_n (i := 0) dX7_meets_9 rfl rfl ?_
    obtain ⟨v4, ev4, h⟩ := PI.bind h
    refine wp_getR cl7 (f := 5) (by decide) rfl fl_X7_16 dX7_meets_10 ev4 ?_
    refine wp_iload_n (i := 1) dX7_meets_13 rfl rfl ?_
    obtain ⟨v5, ev5, h⟩ := PI.bind h
    refine wp_iaload dX7_meets_14 ev5 ?_
    refine wp_aload_n (i := 0) dX7_meets_15 rfl rfl ?_
    obtain ⟨v6, ev6, h⟩ := PI.bind h
    refine wp_getR cl7 (f := 5) (by decide) rfl fl_X7_16 dX7_meets_16 ev6 ?_
    refine wp_iload_n (i := 2) dX7_meets_19 rfl rfl ?_
    obtain ⟨v7, ev7, h⟩ := PI.bind h
    refine wp_iaload dX7_meets_20 ev7 ?_
    refine wp_icmp_ne (tgt := 28) dX7_meets_21 (by decide) (fun c8 => ?_) (fun c8 => ?_)
    · have h := PI.f c8 h
      refine wp_iconst (v := 0) dX7_meets_28 (by decide) ?_
      exact wp_iret dX7_meets_29 rfl (by decide) (Nat.le_of_ble_eq_true rfl) (Nat.le_of_ble_eq_true rfl) (PI.some h)
    · have h := PI.t c8 h
      refine wp_iconst (v := 1) dX7_meets_24 (by decide) ?_
      refine wp_goto (tgt := 29) dX7_meets_25 (by decide) ?_
      exact wp_iret dX7_meets_29 rfl (by decide) (Nat.le_of_ble_eq_true rfl) (Nat.le_of_ble_eq_true rfl) (PI.some h)
theorem ct_X7_near {D : DT} {l : Launch} {m : Mem} {x0 : Nat} {x1 : Int32} {x2 : Int32} {r : Int32} (h : F_X7_near x0 x1 x2 m = some r) : Ct D l Y_X7_near [.ref x0, .int x1, .int x2] m (fun (v : Option Value) (N : Mem) => v = some (Value.int r) ∧ N = m) := by
  refine ct_of (by decide) (by rfl) (ls0 := [.ref x0, .int x1, .int x2]) rfl rfl ?_
  have h : PI m (F_X7_near x0 x1 x2 m) (fun (v : Option Value) (N : Mem) => v = some (Value.int r) ∧ N = m) := ⟨r, h, rfl, rfl⟩
  revert h
  generalize (fun (v : Option Value) (N : Mem) => v = some (Value.int r) ∧ N = m) = post
  intro h
  refine wp_aload_n (i := 0) dX7_near_0 rfl rfl ?_
  refine wp_iload_n (i := 1) dX7_near_1 rfl rfl ?_
  obtain ⟨v2, ev2, h⟩ := PI.bind h
  obtain ⟨v1, ev1, h⟩ := PI.bind h
  refine cgV_i (Y' := Y_X7_isPerson) (kc2 := 0) (ks2 := 0) dX7_near_2 ml_X7_146 ce_X7_isPerson (t := 7) rfl (by decide) ⟨(Nat.le_of_ble_eq_true rfl), (Nat.le_of_ble_eq_true rfl)⟩ ⟨(Nat.le_of_ble_eq_true rfl), (Nat.le_of_ble_eq_true rfl)⟩ rfl rfl (chkT_eq ev2) (ct_X7_isPerson ev1) rfl rfl (Nat.le_of_ble_eq_true rfl) ?_
  refine wp_if_eq (tgt := 21) dX7_near_5 (by decide) (fun c3 => ?_) (fun c3 => ?_)
  · have h := PI.t c3 h
    refine wp_iconst (v := -1) dX7_near_21 (by decide) ?_
    exact wp_iret dX7_near_22 rfl rfl (Nat.le_of_ble_eq_true rfl) (Nat.le_of_ble_eq_true rfl) (PI.some h)
  · have h := PI.f c3 h
    refine wp_aload_n (i := 0) dX7_near_8 rfl rfl ?_
    refine wp_iload_n (i := 2) dX7_near_9 rfl rfl ?_
    obtain ⟨v5, ev5, h⟩ := PI.bind h
    obtain ⟨v4, ev4, h⟩ := PI.bind h
    refine cgV_i (Y' := Y_X7_isPerson) (kc2 := 0) (ks2 := 0) dX7_near_10 ml_X7_146 ce_X7_isPerson (t := 7) rfl (by decide) ⟨(Nat.le_of_ble_eq_true rfl), (Nat.le_of_ble_eq_true rfl)⟩ ⟨(Nat.le_of_ble_eq_true rfl), (Nat.le_of_ble_eq_true rfl)⟩ rfl rfl (chkT_eq ev5) (ct_X7_isPerson ev4) rfl rfl (Nat.le_of_ble_eq_true rfl) ?_
    refine wp_if_eq (tgt := 21) dX7_near_13 (by decide) (fun c6 => ?_) (fun c6 => ?_)
    · have h := PI.t c6 h
      refine wp_iconst (v := -1) dX7_near_21 (by decide) ?_
      exact wp_iret dX7_near_22 rfl rfl (Nat.le_of_ble_eq_true rfl) (Nat.le_of_ble_eq_true rfl) (PI.some h)
    · have h := PI.f c6 h
      refine wp_iload_n (i := 1) dX7_near_16 rfl rfl ?_
      refine wp_iload_n (i := 2) dX7_near_17 rfl rfl ?_
      refine wp_icmp_ne (tgt := 23) dX7_near_18 (by decide) (fun c7 => ?_) (fun c7 => ?_)
      · have h := PI.f c7 h
        refine wp_aload_n (i := 0) dX7_near_23 rfl rfl ?_
        refine wp_iload_n (i := 1) dX7_near_24 rfl rfl ?_
        refine wp_iload_n (i := 2) dX7_near_25 rfl rfl ?_
        obtain ⟨v9, ev9, h⟩ := PI.bind h
        obtain ⟨v8, ev8, h⟩ := PI.bind h
        refine cgV_i (Y' := Y_X7_meets) (kc2 := 0) (ks2 := 0) dX7_near_26 ml_X7_150 ce_X7_meets (t := 7) rfl (by decide) ⟨(Nat.le_of_ble_eq_true rfl), (Nat.le_of_ble_eq_true rfl)⟩ ⟨(Nat.le_of_ble_eq_true rfl), (Nat.le_of_ble_eq_true rfl)⟩ rfl rfl (chkT_eq ev9) (ct_X7_meets ev8) rfl rfl (Nat.le_of_ble_eq_true rfl) ?_
        refine wp_if_eq (tgt := 36) dX7_near_29 (by decide) (fun c10 => ?_) (fun c10 => ?_)
        · have h := PI.t c10 h
          refine wp_aload_n (i := 0) dX7_near_36 rfl rfl ?_
          refine wp_iload_n (i := 1) dX7_near_37 rfl rfl ?_
          refine wp_iload_n (i := 2) dX7_near_38 rfl rfl ?_
          obtain ⟨v12, ev12, h⟩ := PI.bind h
          obtain ⟨v11, ev11, h⟩ := PI.bind h
          refine cgV_i (Y' := Y_X7_isAbout) (kc2 := 0) (ks2 := 0) dX7_near_39 ml_X7_131 ce_X7_isAbout (t := 7) rfl (by decide) ⟨(Nat.le_of_ble_eq_true rfl), (Nat.le_of_ble_eq_true rfl)⟩ ⟨(Nat.le_of_ble_eq_true rfl), (Nat.le_of_ble_eq_true rfl)⟩ rfl rfl (chkT_eq ev12) (ct_X7_isAbout ev11) rfl rfl (Nat.le_of_ble_eq_true rfl) ?_
          refine wp_if_eq (tgt := 49) dX7_near_42 (by decide) (fun c13 => ?_) (fun c13 => ?_)
          · have h := PI.t c13 h
            refine wp_iconst (v := 0) dX7_near_49 (by decide) ?_
            exact wp_iret dX7_near_50 rfl rfl (Nat.le_of_ble_eq_true rfl) (Nat.le_of_ble_eq_true rfl) (PI.some h)
          · have h := PI.f c13 h
            refine wp_iconst (v := 1) dX7_near_45 (by decide) ?_
            refine wp_goto (tgt := 50) dX7_near_46 (by decide) ?_
            exact wp_iret dX7_near_50 rfl rfl (Nat.le_of_ble_eq_true rfl) (Nat.le_of_ble_eq_true rfl) (PI.some h)
        · have h := PI.f c10 h
          refine wp_iconst (v := 2) dX7_near_32 (by decide) ?_
          refine wp_goto (tgt := 50) dX7_near_33 (by decide) ?_
          exact wp_iret dX7_near_50 rfl rfl (Nat.le_of_ble_eq_true rfl) (Nat.le_of_ble_eq_true rfl) (PI.some h)
      · have h := PI.t c7 h
        refine wp_iconst (v := -1) dX7_near_21 (by decide) ?_
        exact wp_iret dX7_near_22 rfl rfl (Nat.le_of_ble_eq_true rfl) (Nat.le_of_ble_eq_true rfl) (PI.some h)
theorem ct_X7_isDoor {D : DT} {l : Launch} {m : Mem} {x0 : Int32} {r : Int32} (h : F_X7_isDoor x0 = some r) : Ct D l Y_X7_isDoor [.int x0] m (fun (v : Option Value) (N : Mem) => v = some (Value.int r) ∧ N = m) := by
  refine ct_of (by decide) (by rfl) (ls0 := [.int x0]) rfl rfl ?_
  have h : PI m (F_X7_isDoor x0) (fun (v : Option Value) (N : Mem) => v = some (Value.int r) ∧ N = m) := ⟨r, h, rfl, rfl⟩
  revert h
  generalize (fun (v : Option Value) (N : Mem) => v = some (Value.int r) ∧ N = m) = post
  intro h
  refine wp_iload_n (i := 0) dX7_isDoor_0 rfl rfl ?_
  refine wp_iconst (v := 0) dX7_isDoor_1 (by decide) ?_
  refine wp_iconst (v := 5) dX7_isDoor_2 (by decide) ?_
  obtain ⟨v1, ev1, h⟩ := PI.bind h
  refine cgS_i (Y' := Y_X7_in) (kc2 := 0) (ks2 := 0) dX7_isDoor_3 ml_X7_72 ce_X7_in ⟨(Nat.le_of_ble_eq_true rfl), (Nat.le_of_ble_eq_true rfl)⟩ ⟨(Nat.le_of_ble_eq_true rfl), (Nat.le_of_ble_eq_true rfl)⟩ rfl rfl (ct_X7_in ev1) rfl rfl (Nat.le_of_ble_eq_true rfl) ?_
  obtain ⟨v2, ev2, h⟩ := PI.bind h
  exact wp_iret dX7_isDoor_6 rfl (rN_of ev2) (Nat.le_of_ble_eq_true rfl) (Nat.le_of_ble_eq_true rfl) (PI.some h)
theorem w_X7_thoseAbout_30 {D : DT} {l : Launch} {post : Option Value → Mem → Prop} {m : Mem} {r4 : Nat → Int32 → Int32 → Int32 → Option Int32} (hr4 : ∀ (x0 : Nat) (x1 : Int32) (x2 : Int32) (x3 : Int32), PI m (r4 x0 x1 x2 x3) post → WP D l Y_X7_thoseAbout 0 0 4 [.ref x0, .int x1, .int x2, .int x3] [] m post) {x0 : Nat} {x1 : Int32} {x3 : Int32} {s0 : Int32} {s1 : Int32} (h : PI m (F_X7_thoseAbout_30 m r4 x0 x1 x3 s0 s1) post) : WP D l Y_X7_thoseAbout 0 0 30 [.ref x0, .int x1, JK, .int x3] [.int s1, .int s0] m post := by
  refine wp_ior dX7_thoseAbout_30 ?_
  refine wp_istore_n (i := 2) dX7_thoseAbout_31 rfl rfl rfl ?_
  refine wp_iinc (v := 1) dX7_thoseAbout_32 rfl (by decide) rfl rfl ?_
  refine wp_goto (tgt := 4) dX7_thoseAbout_35 (by decide) ?_
  exact (hr4 _ _ _ _ h)
theorem w_X7_thoseAbout_4 {D : DT} {l : Launch} {post : Option Value → Mem → Prop} {m : Mem} : ∀ (n : Nat) (x0 : Nat) (x1 : Int32) (x2 : Int32) (x3 : Int32), PI m (F_X7_thoseAbout_4 m n x0 x1 x2 x3) post → WP D l Y_X7_thoseAbout 0 0 4 [.ref x0, .int x1, .int x2, .int x3] [] m post := by
  intro n
  induction n with
  | zero => intro x0 x1 x2 x3 h; exact (PI.none h).elim
  | succ n ih =>
    intro x0 x1 x2 x3 h
    refine wp_iload_n (i := 3) dX7_thoseAbout_4 rfl rfl ?_
    refine wp_aload_n (i := 0) dX7_thoseAbout_5 rfl rfl ?_
    obtain ⟨v1, ev1, h⟩ := PI.bind h
    refine wp_getI cl7 (f := 0) (by decide) rfl fl_X7_68 dX7_thoseAbout_6 ev1 ?_
    refine wp_icmp_ge (tgt := 38) dX7_thoseAbout_9 (by decide) (fun c2 => ?_) (fun c2 => ?_)
    · have h := PI.t c2 h
      refine wp_iload_n (i := 2) dX7_thoseAbout_38 rfl rfl ?_
      exact wp_iret dX7_thoseAbout_39 rfl rfl (Nat.le_of_ble_eq_true rfl) (Nat.le_of_ble_eq_true rfl) (PI.some h)
    · have h := PI.f c2 h
      refine wp_iload_n (i := 2) dX7_thoseAbout_12 rfl rfl ?_
      refine wp_aload_n (i := 0) dX7_thoseAbout_13 rfl rfl ?_
      obtain ⟨v3, ev3, h⟩ := PI.bind h
      refine wp_getR cl7 (f := 4) (by decide) rfl fl_X7_13 dX7_thoseAbout_14 ev3 ?_
      refine wp_iload_n (i := 3) dX7_thoseAbout_17 rfl rfl ?_
      obtain ⟨v4, ev4, h⟩ := PI.bind h
      refine wp_iaload dX7_thoseAbout_18 ev4 ?_
      refine wp_iload_n (i := 1) dX7_thoseAbout_19 rfl rfl ?_
      refine wp_icmp_ne (tgt := 29) dX7_thoseAbout_20 (by decide) (fun c5 => ?_) (fun c5 => ?_)
      · have h := PI.f c5 h
        refine wp_iconst (v := 0) dX7_thoseAbout_29 (by decide) ?_
        exact wp_weak [true, true, false, true] (w_X7_thoseAbout_30 ih h)
      · have h := PI.t c5 h
        refine wp_iconst (v := 1) dX7_thoseAbout_23 (by decide) ?_
        refine wp_iload_n (i := 3) dX7_thoseAbout_24 rfl rfl ?_
        refine wp_ishl dX7_thoseAbout_25 ?_
        refine wp_goto (tgt := 30) dX7_thoseAbout_26 (by decide) ?_
        exact wp_weak [true, true, false, true] (w_X7_thoseAbout_30 ih h)
theorem ct_X7_thoseAbout {D : DT} {l : Launch} {m : Mem} {x0 : Nat} {x1 : Int32} {r : Int32} (h : F_X7_thoseAbout x0 x1 m = some r) : Ct D l Y_X7_thoseAbout [.ref x0, .int x1] m (fun (v : Option Value) (N : Mem) => v = some (Value.int r) ∧ N = m) := by
  refine ct_of (by decide) (by rfl) (ls0 := [.ref x0, .int x1, JK, JK]) rfl rfl ?_
  have h : PI m (F_X7_thoseAbout x0 x1 m) (fun (v : Option Value) (N : Mem) => v = some (Value.int r) ∧ N = m) := ⟨r, h, rfl, rfl⟩
  revert h
  generalize (fun (v : Option Value) (N : Mem) => v = some (Value.int r) ∧ N = m) = post
  intro h
  refine wp_iconst (v := 0) dX7_thoseAbout_0 (by decide) ?_
  refine wp_istore_n (i := 2) dX7_thoseAbout_1 rfl rfl rfl ?_
  refine wp_iconst (v := 0) dX7_thoseAbout_2 (by decide) ?_
  refine wp_istore_n (i := 3) dX7_thoseAbout_3 rfl rfl rfl ?_
  exact (w_X7_thoseAbout_4 _ _ _ _ _ h)
theorem ct_X7_about {D : DT} {l : Launch} {m : Mem} {x0 : Nat} {x1 : Int32} {r : Int32} (h : F_X7_about x0 x1 m = some r) : Ct D l Y_X7_about [.ref x0, .int x1] m (fun (v : Option Value) (N : Mem) => v = some (Value.int r) ∧ N = m) := by
  refine ct_of (by decide) (by rfl) (ls0 := [.ref x0, .int x1]) rfl rfl ?_
  have h : PI m (F_X7_about x0 x1 m) (fun (v : Option Value) (N : Mem) => v = some (Value.int r) ∧ N = m) := ⟨r, h, rfl, rfl⟩
  revert h
  generalize (fun (v : Option Value) (N : Mem) => v = some (Value.int r) ∧ N = m) = post
  intro h
  refine wp_iload_n (i := 1) dX7_about_0 rfl rfl ?_
  obtain ⟨v1, ev1, h⟩ := PI.bind h
  refine cgS_i (Y' := Y_X7_isDoor) (kc2 := 0) (ks2 := 0) dX7_about_1 ml_X7_153 ce_X7_isDoor ⟨(Nat.le_of_ble_eq_true rfl), (Nat.le_of_ble_eq_true rfl)⟩ ⟨(Nat.le_of_ble_eq_true rfl), (Nat.le_of_ble_eq_true rfl)⟩ rfl rfl (ct_X7_isDoor ev1) rfl rfl (Nat.le_of_ble_eq_true rfl) ?_
  refine wp_if_eq (tgt := 15) dX7_about_4 (by decide) (fun c2 => ?_) (fun c2 => ?_)
  · have h := PI.t c2 h
    refine wp_iconst (v := -1) dX7_about_15 (by decide) ?_
    exact wp_iret dX7_about_16 rfl rfl (Nat.le_of_ble_eq_true rfl) (Nat.le_of_ble_eq_true rfl) (PI.some h)
  · have h := PI.f c2 h
    refine wp_aload_n (i := 0) dX7_about_7 rfl rfl ?_
    refine wp_iload_n (i := 1) dX7_about_8 rfl rfl ?_
    obtain ⟨v4, ev4, h⟩ := PI.bind h
    obtain ⟨v3, ev3, h⟩ := PI.bind h
    refine cgV_i (Y' := Y_X7_thoseAbout) (kc2 := 0) (ks2 := 0) dX7_about_9 ml_X7_156 ce_X7_thoseAbout (t := 7) rfl (by decide) ⟨(Nat.le_of_ble_eq_true rfl), (Nat.le_of_ble_eq_true rfl)⟩ ⟨(Nat.le_of_ble_eq_true rfl), (Nat.le_of_ble_eq_true rfl)⟩ rfl rfl (chkT_eq ev4) (ct_X7_thoseAbout ev3) rfl rfl (Nat.le_of_ble_eq_true rfl) ?_
    refine wp_goto (tgt := 16) dX7_about_12 (by decide) ?_
    exact wp_iret dX7_about_16 rfl rfl (Nat.le_of_ble_eq_true rfl) (Nat.le_of_ble_eq_true rfl) (PI.some h)
theorem w_X7_lays_18 {D : DT} {l : Launch} {post : Option Value → Mem → Prop} : ∀ (n : Nat) (x0 : Nat) (x1 : Nat) (x2 : Int32) (x3 : Int32) (m : Mem), HV (F_X7_lays_18 n x0 x1 x2 x3 m) post → WP D l Y_X7_lays 0 0 18 [.ref x0, .ref x1, .int x2, .int x3] [] m post := by
  intro n
  induction n with
  | zero => intro x0 x1 x2 x3 m h; exact (HV.none h).elim
  | succ n ih =>
    intro x0 x1 x2 x3 m h
    refine wp_iload_n (i := 3) dX7_lays_18 rfl rfl ?_
    refine wp_bipush (v := 7) dX7_lays_19 (by decide) ?_
    refine wp_icmp_ge (tgt := 85) dX7_lays_21 (by decide) (fun c1 => ?_) (fun c1 => ?_)
    · have h := HV.t c1 h
      exact wp_vret dX7_lays_85 rfl (Nat.le_of_ble_eq_true rfl) (Nat.le_of_ble_eq_true rfl) (HV.some h)
    · have h := HV.f c1 h
      refine wp_aload_n (i := 1) dX7_lays_24 rfl rfl ?_
      refine wp_iload_n (i := 2) dX7_lays_25 rfl rfl ?_
      refine wp_iconst (v := 2) dX7_lays_26 (by decide) ?_
      refine wp_iadd dX7_lays_27 ?_
      refine wp_iload_n (i := 3) dX7_lays_28 rfl rfl ?_
      refine wp_iadd dX7_lays_29 ?_
      refine wp_aload_n (i := 0) dX7_lays_30 rfl rfl ?_
      obtain ⟨v2, ev2, h⟩ := HV.bind h
      refine wp_getR cl7 (f := 4) (by decide) rfl fl_X7_13 dX7_lays_31 ev2 ?_
      refine wp_iload_n (i := 3) dX7_lays_34 rfl rfl ?_
      obtain ⟨v3, ev3, h⟩ := HV.bind h
      refine wp_iaload dX7_lays_35 ev3 ?_
      obtain ⟨m4, em4, h⟩ := HV.bind h
      refine wp_iastore dX7_lays_36 em4 ?_
      refine wp_aload_n (i := 1) dX7_lays_37 rfl rfl ?_
      refine wp_iload_n (i := 2) dX7_lays_38 rfl rfl ?_
      refine wp_bipush (v := 9) dX7_lays_39 (by decide) ?_
      refine wp_iadd dX7_lays_41 ?_
      refine wp_iload_n (i := 3) dX7_lays_42 rfl rfl ?_
      refine wp_iadd dX7_lays_43 ?_
      refine wp_aload_n (i := 0) dX7_lays_44 rfl rfl ?_
      obtain ⟨v5, ev5, h⟩ := HV.bind h
      refine wp_getR cl7 (f := 5) (by decide) rfl fl_X7_16 dX7_lays_45 ev5 ?_
      refine wp_iload_n (i := 3) dX7_lays_48 rfl rfl ?_
      obtain ⟨v6, ev6, h⟩ := HV.bind h
      refine wp_iaload dX7_lays_49 ev6 ?_
      obtain ⟨m7, em7, h⟩ := HV.bind h
      refine wp_iastore dX7_lays_50 em7 ?_
      refine wp_aload_n (i := 1) dX7_lays_51 rfl rfl ?_
      refine wp_iload_n (i := 2) dX7_lays_52 rfl rfl ?_
      refine wp_bipush (v := 16) dX7_lays_53 (by decide) ?_
      refine wp_iadd dX7_lays_55 ?_
      refine wp_iload_n (i := 3) dX7_lays_56 rfl rfl ?_
      refine wp_iadd dX7_lays_57 ?_
      refine wp_aload_n (i := 0) dX7_lays_58 rfl rfl ?_
      obtain ⟨v8, ev8, h⟩ := HV.bind h
      refine wp_getR cl7 (f := 6) (by decide) rfl fl_X7_19 dX7_lays_59 ev8 ?_
      refine wp_iload_n (i := 3) dX7_lays_62 rfl rfl ?_
      obtain ⟨v9, ev9, h⟩ := HV.bind h
      refine wp_iaload dX7_lays_63 ev9 ?_
      obtain ⟨m10, em10, h⟩ := HV.bind h
      refine wp_iastore dX7_lays_64 em10 ?_
      refine wp_aload_n (i := 1) dX7_lays_65 rfl rfl ?_
      refine wp_iload_n (i := 2) dX7_lays_66 rfl rfl ?_
      refine wp_bipush (v := 23) dX7_lays_67 (by decide) ?_
      refine wp_iadd dX7_lays_69 ?_
      refine wp_iload_n (i := 3) dX7_lays_70 rfl rfl ?_
      refine wp_iadd dX7_lays_71 ?_
      refine wp_aload_n (i := 0) dX7_lays_72 rfl rfl ?_
      obtain ⟨v11, ev11, h⟩ := HV.bind h
      refine wp_getR cl7 (f := 7) (by decide) rfl fl_X7_22 dX7_lays_73 ev11 ?_
      refine wp_iload_n (i := 3) dX7_lays_76 rfl rfl ?_
      obtain ⟨v12, ev12, h⟩ := HV.bind h
      refine wp_iaload dX7_lays_77 ev12 ?_
      obtain ⟨m13, em13, h⟩ := HV.bind h
      refine wp_iastore dX7_lays_78 em13 ?_
      refine wp_iinc (v := 1) dX7_lays_79 rfl (by decide) rfl rfl ?_
      refine wp_goto (tgt := 18) dX7_lays_82 (by decide) ?_
      exact (ih _ _ _ _ _ h)
theorem ct_X7_lays {D : DT} {l : Launch} {m : Mem} {x0 : Nat} {x1 : Nat} {x2 : Int32} {r : Mem} (h : F_X7_lays x0 x1 x2 m = some r) : Ct D l Y_X7_lays [.ref x0, .ref x1, .int x2] m (fun (v : Option Value) (N : Mem) => v = none ∧ N = r) := by
  refine ct_of (by decide) (by rfl) (ls0 := [.ref x0, .ref x1, .int x2, JK]) rfl rfl ?_
  have h : HV (F_X7_lays x0 x1 x2 m) (fun (v : Option Value) (N : Mem) => v = none ∧ N = r) := ⟨r, h, rfl, rfl⟩
  revert h
  generalize (fun (v : Option Value) (N : Mem) => v = none ∧ N = r) = post
  intro h
  refine wp_aload_n (i := 1) dX7_lays_0 rfl rfl ?_
  refine wp_iload_n (i := 2) dX7_lays_1 rfl rfl ?_
  refine wp_aload_n (i := 0) dX7_lays_2 rfl rfl ?_
  obtain ⟨v14, ev14, h⟩ := HV.bind h
  refine wp_getI cl7 (f := 2) (by decide) rfl fl_X7_109 dX7_lays_3 ev14 ?_
  obtain ⟨m15, em15, h⟩ := HV.bind h
  refine wp_iastore dX7_lays_6 em15 ?_
  refine wp_aload_n (i := 1) dX7_lays_7 rfl rfl ?_
  refine wp_iload_n (i := 2) dX7_lays_8 rfl rfl ?_
  refine wp_iconst (v := 1) dX7_lays_9 (by decide) ?_
  refine wp_iadd dX7_lays_10 ?_
  refine wp_aload_n (i := 0) dX7_lays_11 rfl rfl ?_
  obtain ⟨v16, ev16, h⟩ := HV.bind h
  refine wp_getI cl7 (f := 3) (by decide) rfl fl_X7_112 dX7_lays_12 ev16 ?_
  obtain ⟨m17, em17, h⟩ := HV.bind h
  refine wp_iastore dX7_lays_15 em17 ?_
  refine wp_iconst (v := 0) dX7_lays_16 (by decide) ?_
  refine wp_istore_n (i := 3) dX7_lays_17 rfl rfl rfl ?_
  exact (w_X7_lays_18 _ _ _ _ _ _ h)
theorem w_X7_notes_49 {D : DT} {l : Launch} {post : Option Value → Mem → Prop} {x0 : Nat} {m : Mem} (h : HV (F_X7_notes_49 x0 m) post) : WP D l Y_X7_notes 0 0 49 [.ref x0, JK] [] m post := by
  refine wp_aload_n (i := 0) dX7_notes_49 rfl rfl ?_
  refine wp_aload_n (i := 0) dX7_notes_50 rfl rfl ?_
  obtain ⟨v1, ev1, h⟩ := HV.bind h
  refine wp_getR cl7 (f := 21) (by decide) rfl fl_X7_46 dX7_notes_51 ev1 ?_
  refine wp_bipush (v := 30) dX7_notes_54 (by decide) ?_
  refine wp_aload_n (i := 0) dX7_notes_56 rfl rfl ?_
  obtain ⟨v2, ev2, h⟩ := HV.bind h
  refine wp_getI cl7 (f := 22) (by decide) rfl fl_X7_121 dX7_notes_57 ev2 ?_
  refine wp_imul dX7_notes_60 ?_
  obtain ⟨v4, ev4, h⟩ := HV.bind h
  obtain ⟨v3, ev3, h⟩ := HV.bind h
  refine cgV_v (Y' := Y_X7_lays) (kc2 := 0) (ks2 := 0) dX7_notes_61 ml_X7_159 ce_X7_lays (t := 7) rfl (by decide) ⟨(Nat.le_of_ble_eq_true rfl), (Nat.le_of_ble_eq_true rfl)⟩ ⟨(Nat.le_of_ble_eq_true rfl), (Nat.le_of_ble_eq_true rfl)⟩ rfl rfl (chkT_eq ev4) (ct_X7_lays ev3) rfl rfl (Nat.le_of_ble_eq_true rfl) ?_
  refine wp_aload_n (i := 0) dX7_notes_64 rfl rfl ?_
  refine wp_dup dX7_notes_65 rfl ?_
  obtain ⟨v5, ev5, h⟩ := HV.bind h
  refine wp_getI cl7 (f := 22) (by decide) rfl fl_X7_121 dX7_notes_66 ev5 ?_
  refine wp_iconst (v := 1) dX7_notes_69 (by decide) ?_
  refine wp_iadd dX7_notes_70 ?_
  obtain ⟨m6, em6, h⟩ := HV.bind h
  refine wp_putI cl7 (f := 22) (by decide) rfl fl_X7_121 (Or.inl rfl) dX7_notes_71 em6 ?_
  exact wp_vret dX7_notes_74 rfl (Nat.le_of_ble_eq_true rfl) (Nat.le_of_ble_eq_true rfl) (HV.some h)
theorem w_X7_notes_11 {D : DT} {l : Launch} {post : Option Value → Mem → Prop} : ∀ (n : Nat) (x0 : Nat) (x1 : Int32) (m : Mem), HV (F_X7_notes_11 n x0 x1 m) post → WP D l Y_X7_notes 0 0 11 [.ref x0, .int x1] [] m post := by
  intro n
  induction n with
  | zero => intro x0 x1 m h; exact (HV.none h).elim
  | succ n ih =>
    intro x0 x1 m h
    refine wp_iload_n (i := 1) dX7_notes_11 rfl rfl ?_
    refine wp_sipush (v := 210) dX7_notes_12 (by decide) ?_
    refine wp_icmp_ge (tgt := 39) dX7_notes_15 (by decide) (fun c7 => ?_) (fun c7 => ?_)
    · have h := HV.t c7 h
      refine wp_aload_n (i := 0) dX7_notes_39 rfl rfl ?_
      refine wp_dup dX7_notes_40 rfl ?_
      obtain ⟨v8, ev8, h⟩ := HV.bind h
      refine wp_getI cl7 (f := 22) (by decide) rfl fl_X7_121 dX7_notes_41 ev8 ?_
      refine wp_iconst (v := 1) dX7_notes_44 (by decide) ?_
      refine wp_isub dX7_notes_45 ?_
      obtain ⟨m9, em9, h⟩ := HV.bind h
      refine wp_putI cl7 (f := 22) (by decide) rfl fl_X7_121 (Or.inl rfl) dX7_notes_46 em9 ?_
      exact wp_weak [true, false] (w_X7_notes_49 h)
    · have h := HV.f c7 h
      refine wp_aload_n (i := 0) dX7_notes_18 rfl rfl ?_
      obtain ⟨v10, ev10, h⟩ := HV.bind h
      refine wp_getR cl7 (f := 21) (by decide) rfl fl_X7_46 dX7_notes_19 ev10 ?_
      refine wp_iload_n (i := 1) dX7_notes_22 rfl rfl ?_
      refine wp_aload_n (i := 0) dX7_notes_23 rfl rfl ?_
      obtain ⟨v11, ev11, h⟩ := HV.bind h
      refine wp_getR cl7 (f := 21) (by decide) rfl fl_X7_46 dX7_notes_24 ev11 ?_
      refine wp_iload_n (i := 1) dX7_notes_27 rfl rfl ?_
      refine wp_bipush (v := 30) dX7_notes_28 (by decide) ?_
      refine wp_iadd dX7_notes_30 ?_
      obtain ⟨v12, ev12, h⟩ := HV.bind h
      refine wp_iaload dX7_notes_31 ev12 ?_
      obtain ⟨m13, em13, h⟩ := HV.bind h
      refine wp_iastore dX7_notes_32 em13 ?_
      refine wp_iinc (v := 1) dX7_notes_33 rfl (by decide) rfl rfl ?_
      refine wp_goto (tgt := 11) dX7_notes_36 (by decide) ?_
      exact (ih _ _ _ h)
theorem ct_X7_notes {D : DT} {l : Launch} {m : Mem} {x0 : Nat} {r : Mem} (h : F_X7_notes x0 m = some r) : Ct D l Y_X7_notes [.ref x0] m (fun (v : Option Value) (N : Mem) => v = none ∧ N = r) := by
  refine ct_of (by decide) (by rfl) (ls0 := [.ref x0, JK]) rfl rfl ?_
  have h : HV (F_X7_notes x0 m) (fun (v : Option Value) (N : Mem) => v = none ∧ N = r) := ⟨r, h, rfl, rfl⟩
  revert h
  generalize (fun (v : Option Value) (N : Mem) => v = none ∧ N = r) = post
  intro h
  refine wp_aload_n (i := 0) dX7_notes_0 rfl rfl ?_
  obtain ⟨v14, ev14, h⟩ := HV.bind h
  refine wp_getI cl7 (f := 22) (by decide) rfl fl_X7_121 dX7_notes_1 ev14 ?_
  refine wp_bipush (v := 8) dX7_notes_4 (by decide) ?_
  refine wp_icmp_ne (tgt := 49) dX7_notes_6 (by decide) (fun c15 => ?_) (fun c15 => ?_)
  · have h := HV.f c15 h
    exact (w_X7_notes_49 h)
  · have h := HV.t c15 h
    refine wp_iconst (v := 0) dX7_notes_9 (by decide) ?_
    refine wp_istore_n (i := 1) dX7_notes_10 rfl rfl rfl ?_
    exact (w_X7_notes_11 _ _ _ _ h)
theorem ct_X7_goes {D : DT} {l : Launch} {m : Mem} {x0 : Int32} {x1 : Int32} {x2 : Int32} {r : Int32} (h : F_X7_goes x0 x1 x2 = some r) : Ct D l Y_X7_goes [.int x0, .int x1, .int x2] m (fun (v : Option Value) (N : Mem) => v = some (Value.int r) ∧ N = m) := by
  refine ct_of (by decide) (by rfl) (ls0 := [.int x0, .int x1, .int x2]) rfl rfl ?_
  have h : PI m (F_X7_goes x0 x1 x2) (fun (v : Option Value) (N : Mem) => v = some (Value.int r) ∧ N = m) := ⟨r, h, rfl, rfl⟩
  revert h
  generalize (fun (v : Option Value) (N : Mem) => v = some (Value.int r) ∧ N = m) = post
  intro h
  refine wp_iload_n (i := 0) dX7_goes_0 rfl rfl ?_
  by_cases c1 : x0 = 1
  · have h := PI.t c1 h
    refine wp_tsIn (tgt := 28) (v := 1) (z := 1) (off := 27) dX7_goes_1 c1 (by decide) (by decide) (by decide) (by decide) (by decide) ?_
    refine wp_iload_n (i := 2) dX7_goes_28 rfl rfl ?_
    refine wp_iconst (v := 2) dX7_goes_29 (by decide) ?_
    refine wp_irem dX7_goes_30 (by decide) ?_
    refine wp_if_ne (tgt := 38) dX7_goes_31 (by decide) (fun c2 => ?_) (fun c2 => ?_)
    · have h := PI.f c2 h
      refine wp_iconst (v := 0) dX7_goes_38 (by decide) ?_
      exact wp_iret dX7_goes_39 rfl rfl (Nat.le_of_ble_eq_true rfl) (Nat.le_of_ble_eq_true rfl) (PI.some h)
    · have h := PI.t c2 h
      refine wp_iload_n (i := 1) dX7_goes_34 rfl rfl ?_
      refine wp_goto (tgt := 39) dX7_goes_35 (by decide) ?_
      exact wp_iret dX7_goes_39 rfl rfl (Nat.le_of_ble_eq_true rfl) (Nat.le_of_ble_eq_true rfl) (PI.some h)
  have h := PI.f c1 h
  by_cases c3 : x0 = 2
  · have h := PI.t c3 h
    refine wp_tsIn (tgt := 40) (v := 2) (z := 2) (off := 39) dX7_goes_1 c3 (by decide) (by decide) (by decide) (by decide) (by decide) ?_
    refine wp_iconst (v := 2) dX7_goes_40 (by decide) ?_
    refine wp_iload_n (i := 1) dX7_goes_41 rfl rfl ?_
    refine wp_imul dX7_goes_42 ?_
    exact wp_iret dX7_goes_43 rfl rfl (Nat.le_of_ble_eq_true rfl) (Nat.le_of_ble_eq_true rfl) (PI.some h)
  have h := PI.f c3 h
  by_cases c4 : x0 = 3
  · have h := PI.t c4 h
    refine wp_tsIn (tgt := 44) (v := 3) (z := 3) (off := 43) dX7_goes_1 c4 (by decide) (by decide) (by decide) (by decide) (by decide) ?_
    refine wp_iload_n (i := 2) dX7_goes_44 rfl rfl ?_
    refine wp_iconst (v := 3) dX7_goes_45 (by decide) ?_
    refine wp_irem dX7_goes_46 (by decide) ?_
    refine wp_if_ne (tgt := 56) dX7_goes_47 (by decide) (fun c5 => ?_) (fun c5 => ?_)
    · have h := PI.f c5 h
      refine wp_iload_n (i := 1) dX7_goes_56 rfl rfl ?_
      exact wp_iret dX7_goes_57 rfl rfl (Nat.le_of_ble_eq_true rfl) (Nat.le_of_ble_eq_true rfl) (PI.some h)
    · have h := PI.t c5 h
      refine wp_iload_n (i := 1) dX7_goes_50 rfl rfl ?_
      refine wp_iconst (v := 1) dX7_goes_51 (by decide) ?_
      refine wp_iadd dX7_goes_52 ?_
      refine wp_goto (tgt := 57) dX7_goes_53 (by decide) ?_
      exact wp_iret dX7_goes_57 rfl rfl (Nat.le_of_ble_eq_true rfl) (Nat.le_of_ble_eq_true rfl) (PI.some h)
  have h := PI.f c4 h
  have hz : (x0).toInt < 1 ∨ 3 < (x0).toInt := by
    have nc1 := lv_neT (a := 1) c1 (by decide)
    have nc3 := lv_neT (a := 2) c3 (by decide)
    have nc4 := lv_neT (a := 3) c4 (by decide)
    omega
  refine wp_tsOut (tgt := 58) dX7_goes_1 hz (by decide) ?_
  refine wp_iload_n (i := 1) dX7_goes_58 rfl rfl ?_
  exact wp_iret dX7_goes_59 rfl rfl (Nat.le_of_ble_eq_true rfl) (Nat.le_of_ble_eq_true rfl) (PI.some h)
theorem ct_X7_yardThen {D : DT} {l : Launch} {m : Mem} {x0 : Nat} {x1 : Int32} {x2 : Int32} {r : Int32} (h : F_X7_yardThen x0 x1 x2 m = some r) : Ct D l Y_X7_yardThen [.ref x0, .int x1, .int x2] m (fun (v : Option Value) (N : Mem) => v = some (Value.int r) ∧ N = m) := by
  refine ct_of (by decide) (by rfl) (ls0 := [.ref x0, .int x1, .int x2]) rfl rfl ?_
  have h : PI m (F_X7_yardThen x0 x1 x2 m) (fun (v : Option Value) (N : Mem) => v = some (Value.int r) ∧ N = m) := ⟨r, h, rfl, rfl⟩
  revert h
  generalize (fun (v : Option Value) (N : Mem) => v = some (Value.int r) ∧ N = m) = post
  intro h
  refine wp_aload_n (i := 0) dX7_yardThen_0 rfl rfl ?_
  obtain ⟨v1, ev1, h⟩ := PI.bind h
  refine wp_getR cl7 (f := 4) (by decide) rfl fl_X7_13 dX7_yardThen_1 ev1 ?_
  refine wp_iload_n (i := 1) dX7_yardThen_4 rfl rfl ?_
  obtain ⟨v2, ev2, h⟩ := PI.bind h
  refine wp_iaload dX7_yardThen_5 ev2 ?_
  refine wp_bipush (v := -4) dX7_yardThen_6 (by decide) ?_
  refine wp_icmp_ne (tgt := 20) dX7_yardThen_8 (by decide) (fun c3 => ?_) (fun c3 => ?_)
  · have h := PI.f c3 h
    refine wp_aload_n (i := 0) dX7_yardThen_20 rfl rfl ?_
    obtain ⟨v4, ev4, h⟩ := PI.bind h
    refine wp_getR cl7 (f := 6) (by decide) rfl fl_X7_19 dX7_yardThen_21 ev4 ?_
    refine wp_iload_n (i := 1) dX7_yardThen_24 rfl rfl ?_
    obtain ⟨v5, ev5, h⟩ := PI.bind h
    refine wp_iaload dX7_yardThen_25 ev5 ?_
    refine wp_aload_n (i := 0) dX7_yardThen_26 rfl rfl ?_
    obtain ⟨v6, ev6, h⟩ := PI.bind h
    refine wp_getR cl7 (f := 1) (by decide) rfl fl_X7_9 dX7_yardThen_27 ev6 ?_
    refine wp_iload_n (i := 1) dX7_yardThen_30 rfl rfl ?_
    obtain ⟨v7, ev7, h⟩ := PI.bind h
    refine wp_iaload dX7_yardThen_31 ev7 ?_
    refine wp_aload_n (i := 0) dX7_yardThen_32 rfl rfl ?_
    obtain ⟨v8, ev8, h⟩ := PI.bind h
    refine wp_getR cl7 (f := 7) (by decide) rfl fl_X7_22 dX7_yardThen_33 ev8 ?_
    refine wp_iload_n (i := 1) dX7_yardThen_36 rfl rfl ?_
    obtain ⟨v9, ev9, h⟩ := PI.bind h
    refine wp_iaload dX7_yardThen_37 ev9 ?_
    refine wp_iload_n (i := 2) dX7_yardThen_38 rfl rfl ?_
    obtain ⟨v10, ev10, h⟩ := PI.bind h
    refine cgS_i (Y' := Y_X7_goes) (kc2 := 0) (ks2 := 0) dX7_yardThen_39 ml_X7_127 ce_X7_goes ⟨(Nat.le_of_ble_eq_true rfl), (Nat.le_of_ble_eq_true rfl)⟩ ⟨(Nat.le_of_ble_eq_true rfl), (Nat.le_of_ble_eq_true rfl)⟩ rfl rfl (ct_X7_goes ev10) rfl rfl (Nat.le_of_ble_eq_true rfl) ?_
    refine wp_iadd dX7_yardThen_42 ?_
    refine wp_bipush (v := 12) dX7_yardThen_43 (by decide) ?_
    refine wp_irem dX7_yardThen_45 (by decide) ?_
    exact wp_iret dX7_yardThen_46 rfl rfl (Nat.le_of_ble_eq_true rfl) (Nat.le_of_ble_eq_true rfl) (PI.some h)
  · have h := PI.t c3 h
    refine wp_aload_n (i := 0) dX7_yardThen_11 rfl rfl ?_
    obtain ⟨v11, ev11, h⟩ := PI.bind h
    refine wp_getR cl7 (f := 6) (by decide) rfl fl_X7_19 dX7_yardThen_12 ev11 ?_
    refine wp_iload_n (i := 1) dX7_yardThen_15 rfl rfl ?_
    obtain ⟨v12, ev12, h⟩ := PI.bind h
    refine wp_iaload dX7_yardThen_16 ev12 ?_
    refine wp_goto (tgt := 46) dX7_yardThen_17 (by decide) ?_
    exact wp_iret dX7_yardThen_46 rfl rfl (Nat.le_of_ble_eq_true rfl) (Nat.le_of_ble_eq_true rfl) (PI.some h)
theorem w_X7_pairs_62 {D : DT} {l : Launch} {post : Option Value → Mem → Prop} {m : Mem} {r4 : Nat → Int32 → Int32 → Int32 → Option Int32} {r15 : Nat → Int32 → Int32 → Int32 → Int32 → Option Int32} (hr4 : ∀ (x0 : Nat) (x1 : Int32) (x2 : Int32) (x3 : Int32), PI m (r4 x0 x1 x2 x3) post → WP D l Y_X7_pairs 0 0 4 [.ref x0, .int x1, .int x2, .int x3, JK] [] m post) (hr15 : ∀ (x0 : Nat) (x1 : Int32) (x2 : Int32) (x3 : Int32) (x4 : Int32), PI m (r15 x0 x1 x2 x3 x4) post → WP D l Y_X7_pairs 0 0 15 [.ref x0, .int x1, .int x2, .int x3, .int x4] [] m post) {x0 : Nat} {x1 : Int32} {x3 : Int32} {x4 : Int32} {s0 : Int32} {s1 : Int32} (h : PI m (F_X7_pairs_62 m r4 r15 x0 x1 x3 x4 s0 s1) post) : WP D l Y_X7_pairs 0 0 62 [.ref x0, .int x1, JK, .int x3, .int x4] [.int s1, .int s0] m post := by
  refine wp_iadd dX7_pairs_62 ?_
  refine wp_istore_n (i := 2) dX7_pairs_63 rfl rfl rfl ?_
  refine wp_iinc (v := 1) dX7_pairs_64 rfl (by decide) rfl rfl ?_
  refine wp_goto (tgt := 15) dX7_pairs_67 (by decide) ?_
  exact (hr15 _ _ _ _ _ h)
theorem w_X7_pairs_61 {D : DT} {l : Launch} {post : Option Value → Mem → Prop} {m : Mem} {r4 : Nat → Int32 → Int32 → Int32 → Option Int32} {r15 : Nat → Int32 → Int32 → Int32 → Int32 → Option Int32} (hr4 : ∀ (x0 : Nat) (x1 : Int32) (x2 : Int32) (x3 : Int32), PI m (r4 x0 x1 x2 x3) post → WP D l Y_X7_pairs 0 0 4 [.ref x0, .int x1, .int x2, .int x3, JK] [] m post) (hr15 : ∀ (x0 : Nat) (x1 : Int32) (x2 : Int32) (x3 : Int32) (x4 : Int32), PI m (r15 x0 x1 x2 x3 x4) post → WP D l Y_X7_pairs 0 0 15 [.ref x0, .int x1, .int x2, .int x3, .int x4] [] m post) {x0 : Nat} {x1 : Int32} {x3 : Int32} {x4 : Int32} {s0 : Int32} (h : PI m (F_X7_pairs_61 m r4 r15 x0 x1 x3 x4 s0) post) : WP D l Y_X7_pairs 0 0 61 [.ref x0, .int x1, JK, .int x3, .int x4] [.int s0] m post := by
  refine wp_iconst (v := 0) dX7_pairs_61 (by decide) ?_
  exact (w_X7_pairs_62 hr4 hr15 h)
theorem w_X7_pairs_53 {D : DT} {l : Launch} {post : Option Value → Mem → Prop} {m : Mem} {r4 : Nat → Int32 → Int32 → Int32 → Option Int32} {r15 : Nat → Int32 → Int32 → Int32 → Int32 → Option Int32} (hr4 : ∀ (x0 : Nat) (x1 : Int32) (x2 : Int32) (x3 : Int32), PI m (r4 x0 x1 x2 x3) post → WP D l Y_X7_pairs 0 0 4 [.ref x0, .int x1, .int x2, .int x3, JK] [] m post) (hr15 : ∀ (x0 : Nat) (x1 : Int32) (x2 : Int32) (x3 : Int32) (x4 : Int32), PI m (r15 x0 x1 x2 x3 x4) post → WP D l Y_X7_pairs 0 0 15 [.ref x0, .int x1, .int x2, .int x3, .int x4] [] m post) {x0 : Nat} {x1 : Int32} {x3 : Int32} {x4 : Int32} {s0 : Int32} {s1 : Int32} (h : PI m (F_X7_pairs_53 m r4 r15 x0 x1 x3 x4 s0 s1) post) : WP D l Y_X7_pairs 0 0 53 [.ref x0, .int x1, JK, .int x3, .int x4] [.int s1, .int s0] m post := by
  refine wp_iload_n (i := 1) dX7_pairs_53 rfl rfl ?_
  refine wp_icmp_ne (tgt := 61) dX7_pairs_54 (by decide) (fun c1 => ?_) (fun c1 => ?_)
  · have h := PI.f c1 h
    exact (w_X7_pairs_61 hr4 hr15 h)
  · have h := PI.t c1 h
    refine wp_iconst (v := 1) dX7_pairs_57 (by decide) ?_
    refine wp_goto (tgt := 62) dX7_pairs_58 (by decide) ?_
    exact (w_X7_pairs_62 hr4 hr15 h)
theorem w_X7_pairs_15 {D : DT} {l : Launch} {post : Option Value → Mem → Prop} {m : Mem} {r4 : Nat → Int32 → Int32 → Int32 → Option Int32} (hr4 : ∀ (x0 : Nat) (x1 : Int32) (x2 : Int32) (x3 : Int32), PI m (r4 x0 x1 x2 x3) post → WP D l Y_X7_pairs 0 0 4 [.ref x0, .int x1, .int x2, .int x3, JK] [] m post) : ∀ (n : Nat) (x0 : Nat) (x1 : Int32) (x2 : Int32) (x3 : Int32) (x4 : Int32), PI m (F_X7_pairs_15 m r4 n x0 x1 x2 x3 x4) post → WP D l Y_X7_pairs 0 0 15 [.ref x0, .int x1, .int x2, .int x3, .int x4] [] m post := by
  intro n
  induction n with
  | zero => intro x0 x1 x2 x3 x4 h; exact (PI.none h).elim
  | succ n ih =>
    intro x0 x1 x2 x3 x4 h
    refine wp_iload dX7_pairs_15 rfl ?_
    refine wp_iload_n (i := 3) dX7_pairs_17 rfl rfl ?_
    refine wp_icmp_ge (tgt := 70) dX7_pairs_18 (by decide) (fun c2 => ?_) (fun c2 => ?_)
    · have h := PI.t c2 h
      refine wp_iinc (v := 1) dX7_pairs_70 rfl (by decide) rfl rfl ?_
      refine wp_goto (tgt := 4) dX7_pairs_73 (by decide) ?_
      exact wp_weak [true, true, true, true, false] (hr4 _ _ _ _ h)
    · have h := PI.f c2 h
      refine wp_iload_n (i := 2) dX7_pairs_21 rfl rfl ?_
      refine wp_aload_n (i := 0) dX7_pairs_22 rfl rfl ?_
      refine wp_iload_n (i := 3) dX7_pairs_23 rfl rfl ?_
      refine wp_iload dX7_pairs_24 rfl ?_
      obtain ⟨v4, ev4, h⟩ := PI.bind h
      obtain ⟨v3, ev3, h⟩ := PI.bind h
      refine cgV_i (Y' := Y_X7_isAbout) (kc2 := 0) (ks2 := 0) dX7_pairs_26 ml_X7_131 ce_X7_isAbout (t := 7) rfl (by decide) ⟨(Nat.le_of_ble_eq_true rfl), (Nat.le_of_ble_eq_true rfl)⟩ ⟨(Nat.le_of_ble_eq_true rfl), (Nat.le_of_ble_eq_true rfl)⟩ rfl rfl (chkT_eq ev4) (ct_X7_isAbout ev3) rfl rfl (Nat.le_of_ble_eq_true rfl) ?_
      refine wp_if_eq (tgt := 61) dX7_pairs_29 (by decide) (fun c5 => ?_) (fun c5 => ?_)
      · have h := PI.t c5 h
        exact wp_weak [true, true, false, true, true] (w_X7_pairs_61 hr4 ih h)
      · have h := PI.f c5 h
        refine wp_aload_n (i := 0) dX7_pairs_32 rfl rfl ?_
        obtain ⟨v6, ev6, h⟩ := PI.bind h
        refine wp_getR cl7 (f := 5) (by decide) rfl fl_X7_16 dX7_pairs_33 ev6 ?_
        refine wp_iload_n (i := 3) dX7_pairs_36 rfl rfl ?_
        obtain ⟨v7, ev7, h⟩ := PI.bind h
        refine wp_iaload dX7_pairs_37 ev7 ?_
        refine wp_aload_n (i := 0) dX7_pairs_38 rfl rfl ?_
        obtain ⟨v8, ev8, h⟩ := PI.bind h
        refine wp_getR cl7 (f := 5) (by decide) rfl fl_X7_16 dX7_pairs_39 ev8 ?_
        refine wp_iload dX7_pairs_42 rfl ?_
        obtain ⟨v9, ev9, h⟩ := PI.bind h
        refine wp_iaload dX7_pairs_44 ev9 ?_
        refine wp_icmp_ne (tgt := 52) dX7_pairs_45 (by decide) (fun c10 => ?_) (fun c10 => ?_)
        · have h := PI.f c10 h
          refine wp_iconst (v := 0) dX7_pairs_52 (by decide) ?_
          exact wp_weak [true, true, false, true, true] (w_X7_pairs_53 hr4 ih h)
        · have h := PI.t c10 h
          refine wp_iconst (v := 1) dX7_pairs_48 (by decide) ?_
          refine wp_goto (tgt := 53) dX7_pairs_49 (by decide) ?_
          exact wp_weak [true, true, false, true, true] (w_X7_pairs_53 hr4 ih h)
theorem w_X7_pairs_4 {D : DT} {l : Launch} {post : Option Value → Mem → Prop} {m : Mem} : ∀ (n : Nat) (x0 : Nat) (x1 : Int32) (x2 : Int32) (x3 : Int32), PI m (F_X7_pairs_4 m n x0 x1 x2 x3) post → WP D l Y_X7_pairs 0 0 4 [.ref x0, .int x1, .int x2, .int x3, JK] [] m post := by
  intro n
  induction n with
  | zero => intro x0 x1 x2 x3 h; exact (PI.none h).elim
  | succ n ih =>
    intro x0 x1 x2 x3 h
    refine wp_iload_n (i := 3) dX7_pairs_4 rfl rfl ?_
    refine wp_aload_n (i := 0) dX7_pairs_5 rfl rfl ?_
    obtain ⟨v11, ev11, h⟩ := PI.bind h
    refine wp_getI cl7 (f := 0) (by decide) rfl fl_X7_68 dX7_pairs_6 ev11 ?_
    refine wp_icmp_ge (tgt := 76) dX7_pairs_9 (by decide) (fun c12 => ?_) (fun c12 => ?_)
    · have h := PI.t c12 h
      refine wp_iload_n (i := 2) dX7_pairs_76 rfl rfl ?_
      exact wp_iret dX7_pairs_77 rfl rfl (Nat.le_of_ble_eq_true rfl) (Nat.le_of_ble_eq_true rfl) (PI.some h)
    · have h := PI.f c12 h
      refine wp_iconst (v := 0) dX7_pairs_12 (by decide) ?_
      refine wp_istore dX7_pairs_13 rfl rfl ?_
      exact (w_X7_pairs_15 ih _ _ _ _ _ _ h)
theorem ct_X7_pairs {D : DT} {l : Launch} {m : Mem} {x0 : Nat} {x1 : Int32} {r : Int32} (h : F_X7_pairs x0 x1 m = some r) : Ct D l Y_X7_pairs [.ref x0, .int x1] m (fun (v : Option Value) (N : Mem) => v = some (Value.int r) ∧ N = m) := by
  refine ct_of (by decide) (by rfl) (ls0 := [.ref x0, .int x1, JK, JK, JK]) rfl rfl ?_
  have h : PI m (F_X7_pairs x0 x1 m) (fun (v : Option Value) (N : Mem) => v = some (Value.int r) ∧ N = m) := ⟨r, h, rfl, rfl⟩
  revert h
  generalize (fun (v : Option Value) (N : Mem) => v = some (Value.int r) ∧ N = m) = post
  intro h
  refine wp_iconst (v := 0) dX7_pairs_0 (by decide) ?_
  refine wp_istore_n (i := 2) dX7_pairs_1 rfl rfl rfl ?_
  refine wp_iconst (v := 0) dX7_pairs_2 (by decide) ?_
  refine wp_istore_n (i := 3) dX7_pairs_3 rfl rfl rfl ?_
  exact (w_X7_pairs_4 _ _ _ _ _ h)
theorem w_X7_passes_2 {D : DT} {l : Launch} {post : Option Value → Mem → Prop} : ∀ (n : Nat) (x0 : Nat) (x1 : Int32) (m : Mem), HV (F_X7_passes_2 n x0 x1 m) post → WP D l Y_X7_passes 0 0 2 [.ref x0, .int x1] [] m post := by
  intro n
  induction n with
  | zero => intro x0 x1 m h; exact (HV.none h).elim
  | succ n ih =>
    intro x0 x1 m h
    refine wp_iload_n (i := 1) dX7_passes_2 rfl rfl ?_
    refine wp_aload_n (i := 0) dX7_passes_3 rfl rfl ?_
    obtain ⟨v1, ev1, h⟩ := HV.bind h
    refine wp_getI cl7 (f := 0) (by decide) rfl fl_X7_68 dX7_passes_4 ev1 ?_
    refine wp_icmp_ge (tgt := 31) dX7_passes_7 (by decide) (fun c2 => ?_) (fun c2 => ?_)
    · have h := HV.t c2 h
      refine wp_aload_n (i := 0) dX7_passes_31 rfl rfl ?_
      refine wp_dup dX7_passes_32 rfl ?_
      obtain ⟨v3, ev3, h⟩ := HV.bind h
      refine wp_getI cl7 (f := 2) (by decide) rfl fl_X7_109 dX7_passes_33 ev3 ?_
      refine wp_iconst (v := 1) dX7_passes_36 (by decide) ?_
      refine wp_iadd dX7_passes_37 ?_
      obtain ⟨m4, em4, h⟩ := HV.bind h
      refine wp_putI cl7 (f := 2) (by decide) rfl fl_X7_109 (Or.inl rfl) dX7_passes_38 em4 ?_
      refine wp_aload_n (i := 0) dX7_passes_41 rfl rfl ?_
      refine wp_dup dX7_passes_42 rfl ?_
      obtain ⟨v5, ev5, h⟩ := HV.bind h
      refine wp_getI cl7 (f := 3) (by decide) rfl fl_X7_112 dX7_passes_43 ev5 ?_
      refine wp_aload_n (i := 0) dX7_passes_46 rfl rfl ?_
      refine wp_iconst (v := 1) dX7_passes_47 (by decide) ?_
      obtain ⟨v7, ev7, h⟩ := HV.bind h
      obtain ⟨v6, ev6, h⟩ := HV.bind h
      refine cgV_i (Y' := Y_X7_pairs) (kc2 := 0) (ks2 := 0) dX7_passes_48 ml_X7_139 ce_X7_pairs (t := 7) rfl (by decide) ⟨(Nat.le_of_ble_eq_true rfl), (Nat.le_of_ble_eq_true rfl)⟩ ⟨(Nat.le_of_ble_eq_true rfl), (Nat.le_of_ble_eq_true rfl)⟩ rfl rfl (chkT_eq ev7) (ct_X7_pairs ev6) rfl rfl (Nat.le_of_ble_eq_true rfl) ?_
      refine wp_iadd dX7_passes_51 ?_
      obtain ⟨m8, em8, h⟩ := HV.bind h
      refine wp_putI cl7 (f := 3) (by decide) rfl fl_X7_112 (Or.inl rfl) dX7_passes_52 em8 ?_
      exact wp_vret dX7_passes_55 rfl (Nat.le_of_ble_eq_true rfl) (Nat.le_of_ble_eq_true rfl) (HV.some h)
    · have h := HV.f c2 h
      refine wp_aload_n (i := 0) dX7_passes_10 rfl rfl ?_
      obtain ⟨v9, ev9, h⟩ := HV.bind h
      refine wp_getR cl7 (f := 6) (by decide) rfl fl_X7_19 dX7_passes_11 ev9 ?_
      refine wp_iload_n (i := 1) dX7_passes_14 rfl rfl ?_
      refine wp_aload_n (i := 0) dX7_passes_15 rfl rfl ?_
      refine wp_iload_n (i := 1) dX7_passes_16 rfl rfl ?_
      refine wp_aload_n (i := 0) dX7_passes_17 rfl rfl ?_
      obtain ⟨v10, ev10, h⟩ := HV.bind h
      refine wp_getI cl7 (f := 2) (by decide) rfl fl_X7_109 dX7_passes_18 ev10 ?_
      obtain ⟨v12, ev12, h⟩ := HV.bind h
      obtain ⟨v11, ev11, h⟩ := HV.bind h
      refine cgV_i (Y' := Y_X7_yardThen) (kc2 := 0) (ks2 := 0) dX7_passes_21 ml_X7_135 ce_X7_yardThen (t := 7) rfl (by decide) ⟨(Nat.le_of_ble_eq_true rfl), (Nat.le_of_ble_eq_true rfl)⟩ ⟨(Nat.le_of_ble_eq_true rfl), (Nat.le_of_ble_eq_true rfl)⟩ rfl rfl (chkT_eq ev12) (ct_X7_yardThen ev11) rfl rfl (Nat.le_of_ble_eq_true rfl) ?_
      obtain ⟨m13, em13, h⟩ := HV.bind h
      refine wp_iastore dX7_passes_24 em13 ?_
      refine wp_iinc (v := 1) dX7_passes_25 rfl (by decide) rfl rfl ?_
      refine wp_goto (tgt := 2) dX7_passes_28 (by decide) ?_
      exact (ih _ _ _ h)
theorem ct_X7_passes {D : DT} {l : Launch} {m : Mem} {x0 : Nat} {r : Mem} (h : F_X7_passes x0 m = some r) : Ct D l Y_X7_passes [.ref x0] m (fun (v : Option Value) (N : Mem) => v = none ∧ N = r) := by
  refine ct_of (by decide) (by rfl) (ls0 := [.ref x0, JK]) rfl rfl ?_
  have h : HV (F_X7_passes x0 m) (fun (v : Option Value) (N : Mem) => v = none ∧ N = r) := ⟨r, h, rfl, rfl⟩
  revert h
  generalize (fun (v : Option Value) (N : Mem) => v = none ∧ N = r) = post
  intro h
  refine wp_iconst (v := 0) dX7_passes_0 (by decide) ?_
  refine wp_istore_n (i := 1) dX7_passes_1 rfl rfl rfl ?_
  exact (w_X7_passes_2 _ _ _ _ h)
theorem w_X7_goesOn_2 {D : DT} {l : Launch} {post : Option Value → Mem → Prop} : ∀ (n : Nat) (x0 : Nat) (x1 : Int32) (x2 : Int32) (m : Mem), HV (F_X7_goesOn_2 n x0 x1 x2 m) post → WP D l Y_X7_goesOn 0 0 2 [.ref x0, .int x1, .int x2] [] m post := by
  intro n
  induction n with
  | zero => intro x0 x1 x2 m h; exact (HV.none h).elim
  | succ n ih =>
    intro x0 x1 x2 m h
    refine wp_iload_n (i := 2) dX7_goesOn_2 rfl rfl ?_
    refine wp_iload_n (i := 1) dX7_goesOn_3 rfl rfl ?_
    refine wp_icmp_ge (tgt := 17) dX7_goesOn_4 (by decide) (fun c1 => ?_) (fun c1 => ?_)
    · have h := HV.t c1 h
      exact wp_vret dX7_goesOn_17 rfl (Nat.le_of_ble_eq_true rfl) (Nat.le_of_ble_eq_true rfl) (HV.some h)
    · have h := HV.f c1 h
      refine wp_aload_n (i := 0) dX7_goesOn_7 rfl rfl ?_
      obtain ⟨v3, ev3, h⟩ := HV.bind h
      obtain ⟨v2, ev2, h⟩ := HV.bind h
      refine cgV_v (Y' := Y_X7_passes) (kc2 := 0) (ks2 := 0) dX7_goesOn_8 ml_X7_143 ce_X7_passes (t := 7) rfl (by decide) ⟨(Nat.le_of_ble_eq_true rfl), (Nat.le_of_ble_eq_true rfl)⟩ ⟨(Nat.le_of_ble_eq_true rfl), (Nat.le_of_ble_eq_true rfl)⟩ rfl rfl (chkT_eq ev3) (ct_X7_passes ev2) rfl rfl (Nat.le_of_ble_eq_true rfl) ?_
      refine wp_iinc (v := 1) dX7_goesOn_11 rfl (by decide) rfl rfl ?_
      refine wp_goto (tgt := 2) dX7_goesOn_14 (by decide) ?_
      exact (ih _ _ _ _ h)
theorem ct_X7_goesOn {D : DT} {l : Launch} {m : Mem} {x0 : Nat} {x1 : Int32} {r : Mem} (h : F_X7_goesOn x0 x1 m = some r) : Ct D l Y_X7_goesOn [.ref x0, .int x1] m (fun (v : Option Value) (N : Mem) => v = none ∧ N = r) := by
  refine ct_of (by decide) (by rfl) (ls0 := [.ref x0, .int x1, JK]) rfl rfl ?_
  have h : HV (F_X7_goesOn x0 x1 m) (fun (v : Option Value) (N : Mem) => v = none ∧ N = r) := ⟨r, h, rfl, rfl⟩
  revert h
  generalize (fun (v : Option Value) (N : Mem) => v = none ∧ N = r) = post
  intro h
  refine wp_iconst (v := 0) dX7_goesOn_0 (by decide) ?_
  refine wp_istore_n (i := 2) dX7_goesOn_1 rfl rfl rfl ?_
  exact (w_X7_goesOn_2 _ _ _ _ _ h)
theorem ct_X7_pass {D : DT} {l : Launch} {m : Mem} {x0 : Nat} {x1 : Int32} {r : (Int32 × Mem)} (h : F_X7_pass x0 x1 m = some r) : Ct D l Y_X7_pass [.ref x0, .int x1] m (fun (v : Option Value) (N : Mem) => v = some (Value.int r.1) ∧ N = r.2) := by
  refine ct_of (by decide) (by rfl) (ls0 := [.ref x0, .int x1, JK]) rfl rfl ?_
  have h : HI (F_X7_pass x0 x1 m) (fun (v : Option Value) (N : Mem) => v = some (Value.int r.1) ∧ N = r.2) := ⟨r.1, r.2, h, rfl, rfl⟩
  revert h
  generalize (fun (v : Option Value) (N : Mem) => v = some (Value.int r.1) ∧ N = r.2) = post
  intro h
  refine wp_iload_n (i := 1) dX7_pass_0 rfl rfl ?_
  refine wp_iconst (v := 1) dX7_pass_1 (by decide) ?_
  refine wp_bipush (v := 20) dX7_pass_2 (by decide) ?_
  obtain ⟨v1, ev1, h⟩ := HI.bind h
  refine cgS_i (Y' := Y_X7_in) (kc2 := 0) (ks2 := 0) dX7_pass_4 ml_X7_72 ce_X7_in ⟨(Nat.le_of_ble_eq_true rfl), (Nat.le_of_ble_eq_true rfl)⟩ ⟨(Nat.le_of_ble_eq_true rfl), (Nat.le_of_ble_eq_true rfl)⟩ rfl rfl (ct_X7_in ev1) rfl rfl (Nat.le_of_ble_eq_true rfl) ?_
  refine wp_if_ne (tgt := 12) dX7_pass_7 (by decide) (fun c2 => ?_) (fun c2 => ?_)
  · have h := HI.f c2 h
    refine wp_aload_n (i := 0) dX7_pass_12 rfl rfl ?_
    obtain ⟨v3, ev3, h⟩ := HI.bind h
    refine wp_getI cl7 (f := 2) (by decide) rfl fl_X7_109 dX7_pass_13 ev3 ?_
    refine wp_iload_n (i := 1) dX7_pass_16 rfl rfl ?_
    refine wp_iadd dX7_pass_17 ?_
    refine wp_sipush (v := 999) dX7_pass_18 (by decide) ?_
    refine wp_icmp_le (tgt := 27) dX7_pass_21 (by decide) (fun c4 => ?_) (fun c4 => ?_)
    · have h := HI.t c4 h
      refine wp_aload_n (i := 0) dX7_pass_27 rfl rfl ?_
      obtain ⟨v6, ev6, h⟩ := HI.bind h
      obtain ⟨v5, ev5, h⟩ := HI.bind h
      refine cgV_v (Y' := Y_X7_notes) (kc2 := 0) (ks2 := 0) dX7_pass_28 ml_X7_163 ce_X7_notes (t := 7) rfl (by decide) ⟨(Nat.le_of_ble_eq_true rfl), (Nat.le_of_ble_eq_true rfl)⟩ ⟨(Nat.le_of_ble_eq_true rfl), (Nat.le_of_ble_eq_true rfl)⟩ rfl rfl (chkT_eq ev6) (ct_X7_notes ev5) rfl rfl (Nat.le_of_ble_eq_true rfl) ?_
      refine wp_aload_n (i := 0) dX7_pass_31 rfl rfl ?_
      obtain ⟨v7, ev7, h⟩ := HI.bind h
      refine wp_getI cl7 (f := 3) (by decide) rfl fl_X7_112 dX7_pass_32 ev7 ?_
      refine wp_istore_n (i := 2) dX7_pass_35 rfl rfl rfl ?_
      refine wp_aload_n (i := 0) dX7_pass_36 rfl rfl ?_
      refine wp_iload_n (i := 1) dX7_pass_37 rfl rfl ?_
      obtain ⟨v9, ev9, h⟩ := HI.bind h
      obtain ⟨v8, ev8, h⟩ := HI.bind h
      refine cgV_v (Y' := Y_X7_goesOn) (kc2 := 0) (ks2 := 0) dX7_pass_38 ml_X7_166 ce_X7_goesOn (t := 7) rfl (by decide) ⟨(Nat.le_of_ble_eq_true rfl), (Nat.le_of_ble_eq_true rfl)⟩ ⟨(Nat.le_of_ble_eq_true rfl), (Nat.le_of_ble_eq_true rfl)⟩ rfl rfl (chkT_eq ev9) (ct_X7_goesOn ev8) rfl rfl (Nat.le_of_ble_eq_true rfl) ?_
      refine wp_aload_n (i := 0) dX7_pass_41 rfl rfl ?_
      obtain ⟨v10, ev10, h⟩ := HI.bind h
      refine wp_getI cl7 (f := 3) (by decide) rfl fl_X7_112 dX7_pass_42 ev10 ?_
      refine wp_iload_n (i := 2) dX7_pass_45 rfl rfl ?_
      refine wp_isub dX7_pass_46 ?_
      exact wp_iret dX7_pass_47 rfl rfl (Nat.le_of_ble_eq_true rfl) (Nat.le_of_ble_eq_true rfl) (HI.some h)
    · have h := HI.f c4 h
      refine wp_bipush (v := -2) dX7_pass_24 (by decide) ?_
      exact wp_iret dX7_pass_26 rfl rfl (Nat.le_of_ble_eq_true rfl) (Nat.le_of_ble_eq_true rfl) (HI.some h)
  · have h := HI.t c2 h
    refine wp_iconst (v := -1) dX7_pass_10 (by decide) ?_
    exact wp_iret dX7_pass_11 rfl rfl (Nat.le_of_ble_eq_true rfl) (Nat.le_of_ble_eq_true rfl) (HI.some h)
theorem ct_X7_weaves {D : DT} {l : Launch} {m : Mem} {x0 : Nat} {x1 : Int32} {x2 : Int32} {x3 : Int32} {r : Mem} (h : F_X7_weaves x0 x1 x2 x3 m = some r) : Ct D l Y_X7_weaves [.ref x0, .int x1, .int x2, .int x3] m (fun (v : Option Value) (N : Mem) => v = none ∧ N = r) := by
  refine ct_of (by decide) (by rfl) (ls0 := [.ref x0, .int x1, .int x2, .int x3]) rfl rfl ?_
  have h : HV (F_X7_weaves x0 x1 x2 x3 m) (fun (v : Option Value) (N : Mem) => v = none ∧ N = r) := ⟨r, h, rfl, rfl⟩
  revert h
  generalize (fun (v : Option Value) (N : Mem) => v = none ∧ N = r) = post
  intro h
  refine wp_aload_n (i := 0) dX7_weaves_0 rfl rfl ?_
  obtain ⟨v1, ev1, h⟩ := HV.bind h
  refine wp_getR cl7 (f := 4) (by decide) rfl fl_X7_13 dX7_weaves_1 ev1 ?_
  refine wp_iload_n (i := 1) dX7_weaves_4 rfl rfl ?_
  refine wp_iload_n (i := 2) dX7_weaves_5 rfl rfl ?_
  obtain ⟨m2, em2, h⟩ := HV.bind h
  refine wp_iastore dX7_weaves_6 em2 ?_
  refine wp_aload_n (i := 0) dX7_weaves_7 rfl rfl ?_
  obtain ⟨v3, ev3, h⟩ := HV.bind h
  refine wp_getR cl7 (f := 5) (by decide) rfl fl_X7_16 dX7_weaves_8 ev3 ?_
  refine wp_iload_n (i := 1) dX7_weaves_11 rfl rfl ?_
  refine wp_iload_n (i := 3) dX7_weaves_12 rfl rfl ?_
  obtain ⟨m4, em4, h⟩ := HV.bind h
  refine wp_iastore dX7_weaves_13 em4 ?_
  exact wp_vret dX7_weaves_14 rfl (Nat.le_of_ble_eq_true rfl) (Nat.le_of_ble_eq_true rfl) (HV.some h)
theorem w_X7_bits_4 {D : DT} {l : Launch} {post : Option Value → Mem → Prop} {m : Mem} : ∀ (n : Nat) (x0 : Int32) (x1 : Int32) (x2 : Int32), PI m (F_X7_bits_4 n x0 x1 x2) post → WP D l Y_X7_bits 0 0 4 [.int x0, .int x1, .int x2] [] m post := by
  intro n
  induction n with
  | zero => intro x0 x1 x2 h; exact (PI.none h).elim
  | succ n ih =>
    intro x0 x1 x2 h
    refine wp_iload_n (i := 2) dX7_bits_4 rfl rfl ?_
    refine wp_bipush (v := 12) dX7_bits_5 (by decide) ?_
    refine wp_icmp_ge (tgt := 24) dX7_bits_7 (by decide) (fun c1 => ?_) (fun c1 => ?_)
    · have h := PI.t c1 h
      refine wp_iload_n (i := 1) dX7_bits_24 rfl rfl ?_
      exact wp_iret dX7_bits_25 rfl rfl (Nat.le_of_ble_eq_true rfl) (Nat.le_of_ble_eq_true rfl) (PI.some h)
    · have h := PI.f c1 h
      refine wp_iload_n (i := 1) dX7_bits_10 rfl rfl ?_
      refine wp_iload_n (i := 0) dX7_bits_11 rfl rfl ?_
      refine wp_iload_n (i := 2) dX7_bits_12 rfl rfl ?_
      refine wp_ishr dX7_bits_13 ?_
      refine wp_iconst (v := 1) dX7_bits_14 (by decide) ?_
      refine wp_iand dX7_bits_15 ?_
      refine wp_iadd dX7_bits_16 ?_
      refine wp_istore_n (i := 1) dX7_bits_17 rfl rfl rfl ?_
      refine wp_iinc (v := 1) dX7_bits_18 rfl (by decide) rfl rfl ?_
      refine wp_goto (tgt := 4) dX7_bits_21 (by decide) ?_
      exact (ih _ _ _ h)
theorem ct_X7_bits {D : DT} {l : Launch} {m : Mem} {x0 : Int32} {r : Int32} (h : F_X7_bits x0 = some r) : Ct D l Y_X7_bits [.int x0] m (fun (v : Option Value) (N : Mem) => v = some (Value.int r) ∧ N = m) := by
  refine ct_of (by decide) (by rfl) (ls0 := [.int x0, JK, JK]) rfl rfl ?_
  have h : PI m (F_X7_bits x0) (fun (v : Option Value) (N : Mem) => v = some (Value.int r) ∧ N = m) := ⟨r, h, rfl, rfl⟩
  revert h
  generalize (fun (v : Option Value) (N : Mem) => v = some (Value.int r) ∧ N = m) = post
  intro h
  refine wp_iconst (v := 0) dX7_bits_0 (by decide) ?_
  refine wp_istore_n (i := 1) dX7_bits_1 rfl rfl rfl ?_
  refine wp_iconst (v := 0) dX7_bits_2 (by decide) ?_
  refine wp_istore_n (i := 2) dX7_bits_3 rfl rfl rfl ?_
  exact (w_X7_bits_4 _ _ _ _ h)
theorem w_X7_weave_50 {D : DT} {l : Launch} {post : Option Value → Mem → Prop} {x0 : Nat} {x1 : Int32} {x2 : Int32} {x3 : Int32} {m : Mem} (h : HI (F_X7_weave_50 x0 x1 x2 x3 m) post) : WP D l Y_X7_weave 0 0 50 [.ref x0, .int x1, .int x2, .int x3] [] m post := by
  refine wp_aload_n (i := 0) dX7_weave_50 rfl rfl ?_
  obtain ⟨v2, ev2, h⟩ := HI.bind h
  obtain ⟨v1, ev1, h⟩ := HI.bind h
  refine cgV_v (Y' := Y_X7_notes) (kc2 := 0) (ks2 := 0) dX7_weave_51 ml_X7_163 ce_X7_notes (t := 7) rfl (by decide) ⟨(Nat.le_of_ble_eq_true rfl), (Nat.le_of_ble_eq_true rfl)⟩ ⟨(Nat.le_of_ble_eq_true rfl), (Nat.le_of_ble_eq_true rfl)⟩ rfl rfl (chkT_eq ev2) (ct_X7_notes ev1) rfl rfl (Nat.le_of_ble_eq_true rfl) ?_
  refine wp_aload_n (i := 0) dX7_weave_54 rfl rfl ?_
  refine wp_iload_n (i := 1) dX7_weave_55 rfl rfl ?_
  refine wp_iload_n (i := 2) dX7_weave_56 rfl rfl ?_
  refine wp_iload_n (i := 3) dX7_weave_57 rfl rfl ?_
  obtain ⟨v4, ev4, h⟩ := HI.bind h
  obtain ⟨v3, ev3, h⟩ := HI.bind h
  refine cgV_v (Y' := Y_X7_weaves) (kc2 := 0) (ks2 := 0) dX7_weave_58 ml_X7_170 ce_X7_weaves (t := 7) rfl (by decide) ⟨(Nat.le_of_ble_eq_true rfl), (Nat.le_of_ble_eq_true rfl)⟩ ⟨(Nat.le_of_ble_eq_true rfl), (Nat.le_of_ble_eq_true rfl)⟩ rfl rfl (chkT_eq ev4) (ct_X7_weaves ev3) rfl rfl (Nat.le_of_ble_eq_true rfl) ?_
  refine wp_aload_n (i := 0) dX7_weave_61 rfl rfl ?_
  refine wp_iload_n (i := 2) dX7_weave_62 rfl rfl ?_
  obtain ⟨v6, ev6, h⟩ := HI.bind h
  obtain ⟨v5, ev5, h⟩ := HI.bind h
  refine cgV_i (Y' := Y_X7_thoseAbout) (kc2 := 0) (ks2 := 0) dX7_weave_63 ml_X7_156 ce_X7_thoseAbout (t := 7) rfl (by decide) ⟨(Nat.le_of_ble_eq_true rfl), (Nat.le_of_ble_eq_true rfl)⟩ ⟨(Nat.le_of_ble_eq_true rfl), (Nat.le_of_ble_eq_true rfl)⟩ rfl rfl (chkT_eq ev6) (ct_X7_thoseAbout ev5) rfl rfl (Nat.le_of_ble_eq_true rfl) ?_
  obtain ⟨v7, ev7, h⟩ := HI.bind h
  refine cgS_i (Y' := Y_X7_bits) (kc2 := 0) (ks2 := 0) dX7_weave_66 ml_X7_174 ce_X7_bits ⟨(Nat.le_of_ble_eq_true rfl), (Nat.le_of_ble_eq_true rfl)⟩ ⟨(Nat.le_of_ble_eq_true rfl), (Nat.le_of_ble_eq_true rfl)⟩ rfl rfl (ct_X7_bits ev7) rfl rfl (Nat.le_of_ble_eq_true rfl) ?_
  exact wp_iret dX7_weave_69 rfl rfl (Nat.le_of_ble_eq_true rfl) (Nat.le_of_ble_eq_true rfl) (HI.some h)
theorem ct_X7_weave {D : DT} {l : Launch} {m : Mem} {x0 : Nat} {x1 : Int32} {x2 : Int32} {x3 : Int32} {r : (Int32 × Mem)} (h : F_X7_weave x0 x1 x2 x3 m = some r) : Ct D l Y_X7_weave [.ref x0, .int x1, .int x2, .int x3] m (fun (v : Option Value) (N : Mem) => v = some (Value.int r.1) ∧ N = r.2) := by
  refine ct_of (by decide) (by rfl) (ls0 := [.ref x0, .int x1, .int x2, .int x3]) rfl rfl ?_
  have h : HI (F_X7_weave x0 x1 x2 x3 m) (fun (v : Option Value) (N : Mem) => v = some (Value.int r.1) ∧ N = r.2) := ⟨r.1, r.2, h, rfl, rfl⟩
  revert h
  generalize (fun (v : Option Value) (N : Mem) => v = some (Value.int r.1) ∧ N = r.2) = post
  intro h
  refine wp_aload_n (i := 0) dX7_weave_0 rfl rfl ?_
  refine wp_iload_n (i := 1) dX7_weave_1 rfl rfl ?_
  obtain ⟨v9, ev9, h⟩ := HI.bind h
  obtain ⟨v8, ev8, h⟩ := HI.bind h
  refine cgV_i (Y' := Y_X7_isPerson) (kc2 := 0) (ks2 := 0) dX7_weave_2 ml_X7_146 ce_X7_isPerson (t := 7) rfl (by decide) ⟨(Nat.le_of_ble_eq_true rfl), (Nat.le_of_ble_eq_true rfl)⟩ ⟨(Nat.le_of_ble_eq_true rfl), (Nat.le_of_ble_eq_true rfl)⟩ rfl rfl (chkT_eq ev9) (ct_X7_isPerson ev8) rfl rfl (Nat.le_of_ble_eq_true rfl) ?_
  refine wp_if_eq (tgt := 25) dX7_weave_5 (by decide) (fun c10 => ?_) (fun c10 => ?_)
  · have h := HI.t c10 h
    refine wp_iconst (v := -1) dX7_weave_25 (by decide) ?_
    exact wp_iret dX7_weave_26 rfl rfl (Nat.le_of_ble_eq_true rfl) (Nat.le_of_ble_eq_true rfl) (HI.some h)
  · have h := HI.f c10 h
    refine wp_iload_n (i := 2) dX7_weave_8 rfl rfl ?_
    obtain ⟨v11, ev11, h⟩ := HI.bind h
    refine cgS_i (Y' := Y_X7_isDoor) (kc2 := 0) (ks2 := 0) dX7_weave_9 ml_X7_153 ce_X7_isDoor ⟨(Nat.le_of_ble_eq_true rfl), (Nat.le_of_ble_eq_true rfl)⟩ ⟨(Nat.le_of_ble_eq_true rfl), (Nat.le_of_ble_eq_true rfl)⟩ rfl rfl (ct_X7_isDoor ev11) rfl rfl (Nat.le_of_ble_eq_true rfl) ?_
    refine wp_if_eq (tgt := 25) dX7_weave_12 (by decide) (fun c12 => ?_) (fun c12 => ?_)
    · have h := HI.t c12 h
      refine wp_iconst (v := -1) dX7_weave_25 (by decide) ?_
      exact wp_iret dX7_weave_26 rfl rfl (Nat.le_of_ble_eq_true rfl) (Nat.le_of_ble_eq_true rfl) (HI.some h)
    · have h := HI.f c12 h
      refine wp_iload_n (i := 3) dX7_weave_15 rfl rfl ?_
      refine wp_iconst (v := 1) dX7_weave_16 (by decide) ?_
      refine wp_bipush (v := 9) dX7_weave_17 (by decide) ?_
      obtain ⟨v13, ev13, h⟩ := HI.bind h
      refine cgS_i (Y' := Y_X7_in) (kc2 := 0) (ks2 := 0) dX7_weave_19 ml_X7_72 ce_X7_in ⟨(Nat.le_of_ble_eq_true rfl), (Nat.le_of_ble_eq_true rfl)⟩ ⟨(Nat.le_of_ble_eq_true rfl), (Nat.le_of_ble_eq_true rfl)⟩ rfl rfl (ct_X7_in ev13) rfl rfl (Nat.le_of_ble_eq_true rfl) ?_
      refine wp_if_ne (tgt := 27) dX7_weave_22 (by decide) (fun c14 => ?_) (fun c14 => ?_)
      · have h := HI.f c14 h
        refine wp_aload_n (i := 0) dX7_weave_27 rfl rfl ?_
        obtain ⟨v15, ev15, h⟩ := HI.bind h
        refine wp_getR cl7 (f := 4) (by decide) rfl fl_X7_13 dX7_weave_28 ev15 ?_
        refine wp_iload_n (i := 1) dX7_weave_31 rfl rfl ?_
        obtain ⟨v16, ev16, h⟩ := HI.bind h
        refine wp_iaload dX7_weave_32 ev16 ?_
        refine wp_iload_n (i := 2) dX7_weave_33 rfl rfl ?_
        refine wp_icmp_ne (tgt := 50) dX7_weave_34 (by decide) (fun c17 => ?_) (fun c17 => ?_)
        · have h := HI.f c17 h
          exact (w_X7_weave_50 h)
        · have h := HI.t c17 h
          refine wp_aload_n (i := 0) dX7_weave_37 rfl rfl ?_
          obtain ⟨v18, ev18, h⟩ := HI.bind h
          refine wp_getR cl7 (f := 5) (by decide) rfl fl_X7_16 dX7_weave_38 ev18 ?_
          refine wp_iload_n (i := 1) dX7_weave_41 rfl rfl ?_
          obtain ⟨v19, ev19, h⟩ := HI.bind h
          refine wp_iaload dX7_weave_42 ev19 ?_
          refine wp_iload_n (i := 3) dX7_weave_43 rfl rfl ?_
          refine wp_icmp_ne (tgt := 50) dX7_weave_44 (by decide) (fun c20 => ?_) (fun c20 => ?_)
          · have h := HI.f c20 h
            exact (w_X7_weave_50 h)
          · have h := HI.t c20 h
            refine wp_bipush (v := -2) dX7_weave_47 (by decide) ?_
            exact wp_iret dX7_weave_49 rfl rfl (Nat.le_of_ble_eq_true rfl) (Nat.le_of_ble_eq_true rfl) (HI.some h)
      · have h := HI.t c14 h
        refine wp_iconst (v := -1) dX7_weave_25 (by decide) ?_
        exact wp_iret dX7_weave_26 rfl rfl (Nat.le_of_ble_eq_true rfl) (Nat.le_of_ble_eq_true rfl) (HI.some h)
theorem ct_X7_off {D : DT} {l : Launch} {m : Mem} {x0 : Nat} {x1 : Int32} {r : (Int32 × Mem)} (h : F_X7_off x0 x1 m = some r) : Ct D l Y_X7_off [.ref x0, .int x1] m (fun (v : Option Value) (N : Mem) => v = some (Value.int r.1) ∧ N = r.2) := by
  refine ct_of (by decide) (by rfl) (ls0 := [.ref x0, .int x1, JK]) rfl rfl ?_
  have h : HI (F_X7_off x0 x1 m) (fun (v : Option Value) (N : Mem) => v = some (Value.int r.1) ∧ N = r.2) := ⟨r.1, r.2, h, rfl, rfl⟩
  revert h
  generalize (fun (v : Option Value) (N : Mem) => v = some (Value.int r.1) ∧ N = r.2) = post
  intro h
  refine wp_aload_n (i := 0) dX7_off_0 rfl rfl ?_
  refine wp_iload_n (i := 1) dX7_off_1 rfl rfl ?_
  obtain ⟨v2, ev2, h⟩ := HI.bind h
  obtain ⟨v1, ev1, h⟩ := HI.bind h
  refine cgV_i (Y' := Y_X7_isPerson) (kc2 := 0) (ks2 := 0) dX7_off_2 ml_X7_146 ce_X7_isPerson (t := 7) rfl (by decide) ⟨(Nat.le_of_ble_eq_true rfl), (Nat.le_of_ble_eq_true rfl)⟩ ⟨(Nat.le_of_ble_eq_true rfl), (Nat.le_of_ble_eq_true rfl)⟩ rfl rfl (chkT_eq ev2) (ct_X7_isPerson ev1) rfl rfl (Nat.le_of_ble_eq_true rfl) ?_
  refine wp_if_ne (tgt := 10) dX7_off_5 (by decide) (fun c3 => ?_) (fun c3 => ?_)
  · have h := HI.f c3 h
    refine wp_aload_n (i := 0) dX7_off_10 rfl rfl ?_
    obtain ⟨v4, ev4, h⟩ := HI.bind h
    refine wp_getR cl7 (f := 4) (by decide) rfl fl_X7_13 dX7_off_11 ev4 ?_
    refine wp_iload_n (i := 1) dX7_off_14 rfl rfl ?_
    obtain ⟨v5, ev5, h⟩ := HI.bind h
    refine wp_iaload dX7_off_15 ev5 ?_
    refine wp_bipush (v := -4) dX7_off_16 (by decide) ?_
    refine wp_icmp_ne (tgt := 24) dX7_off_18 (by decide) (fun c6 => ?_) (fun c6 => ?_)
    · have h := HI.f c6 h
      refine wp_aload_n (i := 0) dX7_off_24 rfl rfl ?_
      obtain ⟨v8, ev8, h⟩ := HI.bind h
      obtain ⟨v7, ev7, h⟩ := HI.bind h
      refine cgV_v (Y' := Y_X7_notes) (kc2 := 0) (ks2 := 0) dX7_off_25 ml_X7_163 ce_X7_notes (t := 7) rfl (by decide) ⟨(Nat.le_of_ble_eq_true rfl), (Nat.le_of_ble_eq_true rfl)⟩ ⟨(Nat.le_of_ble_eq_true rfl), (Nat.le_of_ble_eq_true rfl)⟩ rfl rfl (chkT_eq ev8) (ct_X7_notes ev7) rfl rfl (Nat.le_of_ble_eq_true rfl) ?_
      refine wp_aload_n (i := 0) dX7_off_28 rfl rfl ?_
      obtain ⟨v9, ev9, h⟩ := HI.bind h
      refine wp_getR cl7 (f := 4) (by decide) rfl fl_X7_13 dX7_off_29 ev9 ?_
      refine wp_iload_n (i := 1) dX7_off_32 rfl rfl ?_
      obtain ⟨v10, ev10, h⟩ := HI.bind h
      refine wp_iaload dX7_off_33 ev10 ?_
      refine wp_istore_n (i := 2) dX7_off_34 rfl rfl rfl ?_
      refine wp_aload_n (i := 0) dX7_off_35 rfl rfl ?_
      refine wp_iload_n (i := 1) dX7_off_36 rfl rfl ?_
      refine wp_bipush (v := -4) dX7_off_37 (by decide) ?_
      refine wp_bipush (v := -4) dX7_off_39 (by decide) ?_
      obtain ⟨v12, ev12, h⟩ := HI.bind h
      obtain ⟨v11, ev11, h⟩ := HI.bind h
      refine cgV_v (Y' := Y_X7_weaves) (kc2 := 0) (ks2 := 0) dX7_off_41 ml_X7_170 ce_X7_weaves (t := 7) rfl (by decide) ⟨(Nat.le_of_ble_eq_true rfl), (Nat.le_of_ble_eq_true rfl)⟩ ⟨(Nat.le_of_ble_eq_true rfl), (Nat.le_of_ble_eq_true rfl)⟩ rfl rfl (chkT_eq ev12) (ct_X7_weaves ev11) rfl rfl (Nat.le_of_ble_eq_true rfl) ?_
      refine wp_iload_n (i := 2) dX7_off_44 rfl rfl ?_
      exact wp_iret dX7_off_45 rfl rfl (Nat.le_of_ble_eq_true rfl) (Nat.le_of_ble_eq_true rfl) (HI.some h)
    · have h := HI.t c6 h
      refine wp_bipush (v := -2) dX7_off_21 (by decide) ?_
      exact wp_iret dX7_off_23 rfl rfl (Nat.le_of_ble_eq_true rfl) (Nat.le_of_ble_eq_true rfl) (HI.some h)
  · have h := HI.t c3 h
    refine wp_iconst (v := -1) dX7_off_8 (by decide) ?_
    exact wp_iret dX7_off_9 rfl rfl (Nat.le_of_ble_eq_true rfl) (Nat.le_of_ble_eq_true rfl) (HI.some h)
theorem ct_X7_pace {D : DT} {l : Launch} {m : Mem} {x0 : Nat} {x1 : Int32} {x2 : Int32} {r : (Int32 × Mem)} (h : F_X7_pace x0 x1 x2 m = some r) : Ct D l Y_X7_pace [.ref x0, .int x1, .int x2] m (fun (v : Option Value) (N : Mem) => v = some (Value.int r.1) ∧ N = r.2) := by
  refine ct_of (by decide) (by rfl) (ls0 := [.ref x0, .int x1, .int x2, JK]) rfl rfl ?_
  have h : HI (F_X7_pace x0 x1 x2 m) (fun (v : Option Value) (N : Mem) => v = some (Value.int r.1) ∧ N = r.2) := ⟨r.1, r.2, h, rfl, rfl⟩
  revert h
  generalize (fun (v : Option Value) (N : Mem) => v = some (Value.int r.1) ∧ N = r.2) = post
  intro h
  refine wp_aload_n (i := 0) dX7_pace_0 rfl rfl ?_
  refine wp_iload_n (i := 1) dX7_pace_1 rfl rfl ?_
  obtain ⟨v2, ev2, h⟩ := HI.bind h
  obtain ⟨v1, ev1, h⟩ := HI.bind h
  refine cgV_i (Y' := Y_X7_isPerson) (kc2 := 0) (ks2 := 0) dX7_pace_2 ml_X7_146 ce_X7_isPerson (t := 7) rfl (by decide) ⟨(Nat.le_of_ble_eq_true rfl), (Nat.le_of_ble_eq_true rfl)⟩ ⟨(Nat.le_of_ble_eq_true rfl), (Nat.le_of_ble_eq_true rfl)⟩ rfl rfl (chkT_eq ev2) (ct_X7_isPerson ev1) rfl rfl (Nat.le_of_ble_eq_true rfl) ?_
  refine wp_if_eq (tgt := 18) dX7_pace_5 (by decide) (fun c3 => ?_) (fun c3 => ?_)
  · have h := HI.t c3 h
    refine wp_iconst (v := -1) dX7_pace_18 (by decide) ?_
    exact wp_iret dX7_pace_19 rfl rfl (Nat.le_of_ble_eq_true rfl) (Nat.le_of_ble_eq_true rfl) (HI.some h)
  · have h := HI.f c3 h
    refine wp_iload_n (i := 2) dX7_pace_8 rfl rfl ?_
    refine wp_iconst (v := 0) dX7_pace_9 (by decide) ?_
    refine wp_bipush (v := 11) dX7_pace_10 (by decide) ?_
    obtain ⟨v4, ev4, h⟩ := HI.bind h
    refine cgS_i (Y' := Y_X7_in) (kc2 := 0) (ks2 := 0) dX7_pace_12 ml_X7_72 ce_X7_in ⟨(Nat.le_of_ble_eq_true rfl), (Nat.le_of_ble_eq_true rfl)⟩ ⟨(Nat.le_of_ble_eq_true rfl), (Nat.le_of_ble_eq_true rfl)⟩ rfl rfl (ct_X7_in ev4) rfl rfl (Nat.le_of_ble_eq_true rfl) ?_
    refine wp_if_ne (tgt := 20) dX7_pace_15 (by decide) (fun c5 => ?_) (fun c5 => ?_)
    · have h := HI.f c5 h
      refine wp_aload_n (i := 0) dX7_pace_20 rfl rfl ?_
      obtain ⟨v6, ev6, h⟩ := HI.bind h
      refine wp_getR cl7 (f := 7) (by decide) rfl fl_X7_22 dX7_pace_21 ev6 ?_
      refine wp_iload_n (i := 1) dX7_pace_24 rfl rfl ?_
      obtain ⟨v7, ev7, h⟩ := HI.bind h
      refine wp_iaload dX7_pace_25 ev7 ?_
      refine wp_istore_n (i := 3) dX7_pace_26 rfl rfl rfl ?_
      refine wp_iload_n (i := 3) dX7_pace_27 rfl rfl ?_
      refine wp_iload_n (i := 2) dX7_pace_28 rfl rfl ?_
      refine wp_icmp_ne (tgt := 35) dX7_pace_29 (by decide) (fun c8 => ?_) (fun c8 => ?_)
      · have h := HI.f c8 h
        refine wp_aload_n (i := 0) dX7_pace_35 rfl rfl ?_
        obtain ⟨v10, ev10, h⟩ := HI.bind h
        obtain ⟨v9, ev9, h⟩ := HI.bind h
        refine cgV_v (Y' := Y_X7_notes) (kc2 := 0) (ks2 := 0) dX7_pace_36 ml_X7_163 ce_X7_notes (t := 7) rfl (by decide) ⟨(Nat.le_of_ble_eq_true rfl), (Nat.le_of_ble_eq_true rfl)⟩ ⟨(Nat.le_of_ble_eq_true rfl), (Nat.le_of_ble_eq_true rfl)⟩ rfl rfl (chkT_eq ev10) (ct_X7_notes ev9) rfl rfl (Nat.le_of_ble_eq_true rfl) ?_
        refine wp_aload_n (i := 0) dX7_pace_39 rfl rfl ?_
        obtain ⟨v11, ev11, h⟩ := HI.bind h
        refine wp_getR cl7 (f := 7) (by decide) rfl fl_X7_22 dX7_pace_40 ev11 ?_
        refine wp_iload_n (i := 1) dX7_pace_43 rfl rfl ?_
        refine wp_iload_n (i := 2) dX7_pace_44 rfl rfl ?_
        obtain ⟨m12, em12, h⟩ := HI.bind h
        refine wp_iastore dX7_pace_45 em12 ?_
        refine wp_iload_n (i := 3) dX7_pace_46 rfl rfl ?_
        exact wp_iret dX7_pace_47 rfl rfl (Nat.le_of_ble_eq_true rfl) (Nat.le_of_ble_eq_true rfl) (HI.some h)
      · have h := HI.t c8 h
        refine wp_bipush (v := -2) dX7_pace_32 (by decide) ?_
        exact wp_iret dX7_pace_34 rfl rfl (Nat.le_of_ble_eq_true rfl) (Nat.le_of_ble_eq_true rfl) (HI.some h)
    · have h := HI.t c5 h
      refine wp_iconst (v := -1) dX7_pace_18 (by decide) ?_
      exact wp_iret dX7_pace_19 rfl rfl (Nat.le_of_ble_eq_true rfl) (Nat.le_of_ble_eq_true rfl) (HI.some h)
theorem w_X7_takes_18 {D : DT} {l : Launch} {post : Option Value → Mem → Prop} : ∀ (n : Nat) (x0 : Nat) (x1 : Nat) (x2 : Int32) (x3 : Int32) (m : Mem), HV (F_X7_takes_18 n x0 x1 x2 x3 m) post → WP D l Y_X7_takes 0 0 18 [.ref x0, .ref x1, .int x2, .int x3] [] m post := by
  intro n
  induction n with
  | zero => intro x0 x1 x2 x3 m h; exact (HV.none h).elim
  | succ n ih =>
    intro x0 x1 x2 x3 m h
    refine wp_iload_n (i := 3) dX7_takes_18 rfl rfl ?_
    refine wp_bipush (v := 7) dX7_takes_19 (by decide) ?_
    refine wp_icmp_ge (tgt := 85) dX7_takes_21 (by decide) (fun c1 => ?_) (fun c1 => ?_)
    · have h := HV.t c1 h
      exact wp_vret dX7_takes_85 rfl (Nat.le_of_ble_eq_true rfl) (Nat.le_of_ble_eq_true rfl) (HV.some h)
    · have h := HV.f c1 h
      refine wp_aload_n (i := 0) dX7_takes_24 rfl rfl ?_
      obtain ⟨v2, ev2, h⟩ := HV.bind h
      refine wp_getR cl7 (f := 4) (by decide) rfl fl_X7_13 dX7_takes_25 ev2 ?_
      refine wp_iload_n (i := 3) dX7_takes_28 rfl rfl ?_
      refine wp_aload_n (i := 1) dX7_takes_29 rfl rfl ?_
      refine wp_iload_n (i := 2) dX7_takes_30 rfl rfl ?_
      refine wp_iconst (v := 2) dX7_takes_31 (by decide) ?_
      refine wp_iadd dX7_takes_32 ?_
      refine wp_iload_n (i := 3) dX7_takes_33 rfl rfl ?_
      refine wp_iadd dX7_takes_34 ?_
      obtain ⟨v3, ev3, h⟩ := HV.bind h
      refine wp_iaload dX7_takes_35 ev3 ?_
      obtain ⟨m4, em4, h⟩ := HV.bind h
      refine wp_iastore dX7_takes_36 em4 ?_
      refine wp_aload_n (i := 0) dX7_takes_37 rfl rfl ?_
      obtain ⟨v5, ev5, h⟩ := HV.bind h
      refine wp_getR cl7 (f := 5) (by decide) rfl fl_X7_16 dX7_takes_38 ev5 ?_
      refine wp_iload_n (i := 3) dX7_takes_41 rfl rfl ?_
      refine wp_aload_n (i := 1) dX7_takes_42 rfl rfl ?_
      refine wp_iload_n (i := 2) dX7_takes_43 rfl rfl ?_
      refine wp_bipush (v := 9) dX7_takes_44 (by decide) ?_
      refine wp_iadd dX7_takes_46 ?_
      refine wp_iload_n (i := 3) dX7_takes_47 rfl rfl ?_
      refine wp_iadd dX7_takes_48 ?_
      obtain ⟨v6, ev6, h⟩ := HV.bind h
      refine wp_iaload dX7_takes_49 ev6 ?_
      obtain ⟨m7, em7, h⟩ := HV.bind h
      refine wp_iastore dX7_takes_50 em7 ?_
      refine wp_aload_n (i := 0) dX7_takes_51 rfl rfl ?_
      obtain ⟨v8, ev8, h⟩ := HV.bind h
      refine wp_getR cl7 (f := 6) (by decide) rfl fl_X7_19 dX7_takes_52 ev8 ?_
      refine wp_iload_n (i := 3) dX7_takes_55 rfl rfl ?_
      refine wp_aload_n (i := 1) dX7_takes_56 rfl rfl ?_
      refine wp_iload_n (i := 2) dX7_takes_57 rfl rfl ?_
      refine wp_bipush (v := 16) dX7_takes_58 (by decide) ?_
      refine wp_iadd dX7_takes_60 ?_
      refine wp_iload_n (i := 3) dX7_takes_61 rfl rfl ?_
      refine wp_iadd dX7_takes_62 ?_
      obtain ⟨v9, ev9, h⟩ := HV.bind h
      refine wp_iaload dX7_takes_63 ev9 ?_
      obtain ⟨m10, em10, h⟩ := HV.bind h
      refine wp_iastore dX7_takes_64 em10 ?_
      refine wp_aload_n (i := 0) dX7_takes_65 rfl rfl ?_
      obtain ⟨v11, ev11, h⟩ := HV.bind h
      refine wp_getR cl7 (f := 7) (by decide) rfl fl_X7_22 dX7_takes_66 ev11 ?_
      refine wp_iload_n (i := 3) dX7_takes_69 rfl rfl ?_
      refine wp_aload_n (i := 1) dX7_takes_70 rfl rfl ?_
      refine wp_iload_n (i := 2) dX7_takes_71 rfl rfl ?_
      refine wp_bipush (v := 23) dX7_takes_72 (by decide) ?_
      refine wp_iadd dX7_takes_74 ?_
      refine wp_iload_n (i := 3) dX7_takes_75 rfl rfl ?_
      refine wp_iadd dX7_takes_76 ?_
      obtain ⟨v12, ev12, h⟩ := HV.bind h
      refine wp_iaload dX7_takes_77 ev12 ?_
      obtain ⟨m13, em13, h⟩ := HV.bind h
      refine wp_iastore dX7_takes_78 em13 ?_
      refine wp_iinc (v := 1) dX7_takes_79 rfl (by decide) rfl rfl ?_
      refine wp_goto (tgt := 18) dX7_takes_82 (by decide) ?_
      exact (ih _ _ _ _ _ h)
theorem ct_X7_takes {D : DT} {l : Launch} {m : Mem} {x0 : Nat} {x1 : Nat} {x2 : Int32} {r : Mem} (h : F_X7_takes x0 x1 x2 m = some r) : Ct D l Y_X7_takes [.ref x0, .ref x1, .int x2] m (fun (v : Option Value) (N : Mem) => v = none ∧ N = r) := by
  refine ct_of (by decide) (by rfl) (ls0 := [.ref x0, .ref x1, .int x2, JK]) rfl rfl ?_
  have h : HV (F_X7_takes x0 x1 x2 m) (fun (v : Option Value) (N : Mem) => v = none ∧ N = r) := ⟨r, h, rfl, rfl⟩
  revert h
  generalize (fun (v : Option Value) (N : Mem) => v = none ∧ N = r) = post
  intro h
  refine wp_aload_n (i := 0) dX7_takes_0 rfl rfl ?_
  refine wp_aload_n (i := 1) dX7_takes_1 rfl rfl ?_
  refine wp_iload_n (i := 2) dX7_takes_2 rfl rfl ?_
  obtain ⟨v14, ev14, h⟩ := HV.bind h
  refine wp_iaload dX7_takes_3 ev14 ?_
  obtain ⟨m15, em15, h⟩ := HV.bind h
  refine wp_putI cl7 (f := 2) (by decide) rfl fl_X7_109 (Or.inl rfl) dX7_takes_4 em15 ?_
  refine wp_aload_n (i := 0) dX7_takes_7 rfl rfl ?_
  refine wp_aload_n (i := 1) dX7_takes_8 rfl rfl ?_
  refine wp_iload_n (i := 2) dX7_takes_9 rfl rfl ?_
  refine wp_iconst (v := 1) dX7_takes_10 (by decide) ?_
  refine wp_iadd dX7_takes_11 ?_
  obtain ⟨v16, ev16, h⟩ := HV.bind h
  refine wp_iaload dX7_takes_12 ev16 ?_
  obtain ⟨m17, em17, h⟩ := HV.bind h
  refine wp_putI cl7 (f := 3) (by decide) rfl fl_X7_112 (Or.inl rfl) dX7_takes_13 em17 ?_
  refine wp_iconst (v := 0) dX7_takes_16 (by decide) ?_
  refine wp_istore_n (i := 3) dX7_takes_17 rfl rfl rfl ?_
  exact (w_X7_takes_18 _ _ _ _ _ _ h)
theorem ct_X7_undo {D : DT} {l : Launch} {m : Mem} {x0 : Nat} {r : (Int32 × Mem)} (h : F_X7_undo x0 m = some r) : Ct D l Y_X7_undo [.ref x0] m (fun (v : Option Value) (N : Mem) => v = some (Value.int r.1) ∧ N = r.2) := by
  refine ct_of (by decide) (by rfl) (ls0 := [.ref x0]) rfl rfl ?_
  have h : HI (F_X7_undo x0 m) (fun (v : Option Value) (N : Mem) => v = some (Value.int r.1) ∧ N = r.2) := ⟨r.1, r.2, h, rfl, rfl⟩
  revert h
  generalize (fun (v : Option Value) (N : Mem) => v = some (Value.int r.1) ∧ N = r.2) = post
  intro h
  refine wp_aload_n (i := 0) dX7_undo_0 rfl rfl ?_
  obtain ⟨v1, ev1, h⟩ := HI.bind h
  refine wp_getI cl7 (f := 22) (by decide) rfl fl_X7_121 dX7_undo_1 ev1 ?_
  refine wp_if_ne (tgt := 10) dX7_undo_4 (by decide) (fun c2 => ?_) (fun c2 => ?_)
  · have h := HI.f c2 h
    refine wp_aload_n (i := 0) dX7_undo_10 rfl rfl ?_
    refine wp_dup dX7_undo_11 rfl ?_
    obtain ⟨v3, ev3, h⟩ := HI.bind h
    refine wp_getI cl7 (f := 22) (by decide) rfl fl_X7_121 dX7_undo_12 ev3 ?_
    refine wp_iconst (v := 1) dX7_undo_15 (by decide) ?_
    refine wp_isub dX7_undo_16 ?_
    obtain ⟨m4, em4, h⟩ := HI.bind h
    refine wp_putI cl7 (f := 22) (by decide) rfl fl_X7_121 (Or.inl rfl) dX7_undo_17 em4 ?_
    refine wp_aload_n (i := 0) dX7_undo_20 rfl rfl ?_
    refine wp_aload_n (i := 0) dX7_undo_21 rfl rfl ?_
    obtain ⟨v5, ev5, h⟩ := HI.bind h
    refine wp_getR cl7 (f := 21) (by decide) rfl fl_X7_46 dX7_undo_22 ev5 ?_
    refine wp_bipush (v := 30) dX7_undo_25 (by decide) ?_
    refine wp_aload_n (i := 0) dX7_undo_27 rfl rfl ?_
    obtain ⟨v6, ev6, h⟩ := HI.bind h
    refine wp_getI cl7 (f := 22) (by decide) rfl fl_X7_121 dX7_undo_28 ev6 ?_
    refine wp_imul dX7_undo_31 ?_
    obtain ⟨v8, ev8, h⟩ := HI.bind h
    obtain ⟨v7, ev7, h⟩ := HI.bind h
    refine cgV_v (Y' := Y_X7_takes) (kc2 := 0) (ks2 := 0) dX7_undo_32 ml_X7_177 ce_X7_takes (t := 7) rfl (by decide) ⟨(Nat.le_of_ble_eq_true rfl), (Nat.le_of_ble_eq_true rfl)⟩ ⟨(Nat.le_of_ble_eq_true rfl), (Nat.le_of_ble_eq_true rfl)⟩ rfl rfl (chkT_eq ev8) (ct_X7_takes ev7) rfl rfl (Nat.le_of_ble_eq_true rfl) ?_
    refine wp_aload_n (i := 0) dX7_undo_35 rfl rfl ?_
    obtain ⟨v9, ev9, h⟩ := HI.bind h
    refine wp_getI cl7 (f := 22) (by decide) rfl fl_X7_121 dX7_undo_36 ev9 ?_
    exact wp_iret dX7_undo_39 rfl rfl (Nat.le_of_ble_eq_true rfl) (Nat.le_of_ble_eq_true rfl) (HI.some h)
  · have h := HI.t c2 h
    refine wp_bipush (v := -2) dX7_undo_7 (by decide) ?_
    exact wp_iret dX7_undo_9 rfl rfl (Nat.le_of_ble_eq_true rfl) (Nat.le_of_ble_eq_true rfl) (HI.some h)
theorem w_X7_yardBehind_28 {D : DT} {l : Launch} {post : Option Value → Mem → Prop} {m : Mem} : ∀ (n : Nat) (x0 : Nat) (x1 : Int32) (x2 : Int32) (x3 : Int32) (x4 : Int32), PI m (F_X7_yardBehind_28 m n x0 x1 x2 x3 x4) post → WP D l Y_X7_yardBehind 0 0 28 [.ref x0, .int x1, .int x2, .int x3, .int x4] [] m post := by
  intro n
  induction n with
  | zero => intro x0 x1 x2 x3 x4 h; exact (PI.none h).elim
  | succ n ih =>
    intro x0 x1 x2 x3 x4 h
    refine wp_iload dX7_yardBehind_28 rfl ?_
    refine wp_iload_n (i := 2) dX7_yardBehind_30 rfl rfl ?_
    refine wp_icmp_ge (tgt := 68) dX7_yardBehind_31 (by decide) (fun c1 => ?_) (fun c1 => ?_)
    · have h := PI.t c1 h
      refine wp_iload_n (i := 3) dX7_yardBehind_68 rfl rfl ?_
      exact wp_iret dX7_yardBehind_69 rfl rfl (Nat.le_of_ble_eq_true rfl) (Nat.le_of_ble_eq_true rfl) (PI.some h)
    · have h := PI.f c1 h
      refine wp_iload_n (i := 3) dX7_yardBehind_34 rfl rfl ?_
      refine wp_aload_n (i := 0) dX7_yardBehind_35 rfl rfl ?_
      obtain ⟨v2, ev2, h⟩ := PI.bind h
      refine wp_getR cl7 (f := 1) (by decide) rfl fl_X7_9 dX7_yardBehind_36 ev2 ?_
      refine wp_iload_n (i := 1) dX7_yardBehind_39 rfl rfl ?_
      obtain ⟨v3, ev3, h⟩ := PI.bind h
      refine wp_iaload dX7_yardBehind_40 ev3 ?_
      refine wp_aload_n (i := 0) dX7_yardBehind_41 rfl rfl ?_
      obtain ⟨v4, ev4, h⟩ := PI.bind h
      refine wp_getR cl7 (f := 7) (by decide) rfl fl_X7_22 dX7_yardBehind_42 ev4 ?_
      refine wp_iload_n (i := 1) dX7_yardBehind_45 rfl rfl ?_
      obtain ⟨v5, ev5, h⟩ := PI.bind h
      refine wp_iaload dX7_yardBehind_46 ev5 ?_
      refine wp_aload_n (i := 0) dX7_yardBehind_47 rfl rfl ?_
      obtain ⟨v6, ev6, h⟩ := PI.bind h
      refine wp_getI cl7 (f := 2) (by decide) rfl fl_X7_109 dX7_yardBehind_48 ev6 ?_
      refine wp_iload dX7_yardBehind_51 rfl ?_
      refine wp_iadd dX7_yardBehind_53 ?_
      obtain ⟨v7, ev7, h⟩ := PI.bind h
      refine cgS_i (Y' := Y_X7_goes) (kc2 := 0) (ks2 := 0) dX7_yardBehind_54 ml_X7_127 ce_X7_goes ⟨(Nat.le_of_ble_eq_true rfl), (Nat.le_of_ble_eq_true rfl)⟩ ⟨(Nat.le_of_ble_eq_true rfl), (Nat.le_of_ble_eq_true rfl)⟩ rfl rfl (ct_X7_goes ev7) rfl rfl (Nat.le_of_ble_eq_true rfl) ?_
      refine wp_iadd dX7_yardBehind_57 ?_
      refine wp_bipush (v := 12) dX7_yardBehind_58 (by decide) ?_
      refine wp_irem dX7_yardBehind_60 (by decide) ?_
      refine wp_istore_n (i := 3) dX7_yardBehind_61 rfl rfl rfl ?_
      refine wp_iinc (v := 1) dX7_yardBehind_62 rfl (by decide) rfl rfl ?_
      refine wp_goto (tgt := 28) dX7_yardBehind_65 (by decide) ?_
      exact (ih _ _ _ _ _ h)
theorem ct_X7_yardBehind {D : DT} {l : Launch} {m : Mem} {x0 : Nat} {x1 : Int32} {x2 : Int32} {r : Int32} (h : F_X7_yardBehind x0 x1 x2 m = some r) : Ct D l Y_X7_yardBehind [.ref x0, .int x1, .int x2] m (fun (v : Option Value) (N : Mem) => v = some (Value.int r) ∧ N = m) := by
  refine ct_of (by decide) (by rfl) (ls0 := [.ref x0, .int x1, .int x2, JK, JK]) rfl rfl ?_
  have h : PI m (F_X7_yardBehind x0 x1 x2 m) (fun (v : Option Value) (N : Mem) => v = some (Value.int r) ∧ N = m) := ⟨r, h, rfl, rfl⟩
  revert h
  generalize (fun (v : Option Value) (N : Mem) => v = some (Value.int r) ∧ N = m) = post
  intro h
  refine wp_aload_n (i := 0) dX7_yardBehind_0 rfl rfl ?_
  obtain ⟨v8, ev8, h⟩ := PI.bind h
  refine wp_getR cl7 (f := 4) (by decide) rfl fl_X7_13 dX7_yardBehind_1 ev8 ?_
  refine wp_iload_n (i := 1) dX7_yardBehind_4 rfl rfl ?_
  obtain ⟨v9, ev9, h⟩ := PI.bind h
  refine wp_iaload dX7_yardBehind_5 ev9 ?_
  refine wp_bipush (v := -4) dX7_yardBehind_6 (by decide) ?_
  refine wp_icmp_ne (tgt := 18) dX7_yardBehind_8 (by decide) (fun c10 => ?_) (fun c10 => ?_)
  · have h := PI.f c10 h
    refine wp_aload_n (i := 0) dX7_yardBehind_18 rfl rfl ?_
    obtain ⟨v11, ev11, h⟩ := PI.bind h
    refine wp_getR cl7 (f := 6) (by decide) rfl fl_X7_19 dX7_yardBehind_19 ev11 ?_
    refine wp_iload_n (i := 1) dX7_yardBehind_22 rfl rfl ?_
    obtain ⟨v12, ev12, h⟩ := PI.bind h
    refine wp_iaload dX7_yardBehind_23 ev12 ?_
    refine wp_istore_n (i := 3) dX7_yardBehind_24 rfl rfl rfl ?_
    refine wp_iconst (v := 0) dX7_yardBehind_25 (by decide) ?_
    refine wp_istore dX7_yardBehind_26 rfl rfl ?_
    exact (w_X7_yardBehind_28 _ _ _ _ _ _ h)
  · have h := PI.t c10 h
    refine wp_aload_n (i := 0) dX7_yardBehind_11 rfl rfl ?_
    obtain ⟨v13, ev13, h⟩ := PI.bind h
    refine wp_getR cl7 (f := 6) (by decide) rfl fl_X7_19 dX7_yardBehind_12 ev13 ?_
    refine wp_iload_n (i := 1) dX7_yardBehind_15 rfl rfl ?_
    obtain ⟨v14, ev14, h⟩ := PI.bind h
    refine wp_iaload dX7_yardBehind_16 ev14 ?_
    exact wp_iret dX7_yardBehind_17 rfl rfl (Nat.le_of_ble_eq_true rfl) (Nat.le_of_ble_eq_true rfl) (PI.some h)
theorem ct_X7_behind {D : DT} {l : Launch} {m : Mem} {x0 : Nat} {x1 : Int32} {x2 : Int32} {r : Int32} (h : F_X7_behind x0 x1 x2 m = some r) : Ct D l Y_X7_behind [.ref x0, .int x1, .int x2] m (fun (v : Option Value) (N : Mem) => v = some (Value.int r) ∧ N = m) := by
  refine ct_of (by decide) (by rfl) (ls0 := [.ref x0, .int x1, .int x2]) rfl rfl ?_
  have h : PI m (F_X7_behind x0 x1 x2 m) (fun (v : Option Value) (N : Mem) => v = some (Value.int r) ∧ N = m) := ⟨r, h, rfl, rfl⟩
  revert h
  generalize (fun (v : Option Value) (N : Mem) => v = some (Value.int r) ∧ N = m) = post
  intro h
  refine wp_iload_n (i := 1) dX7_behind_0 rfl rfl ?_
  refine wp_iconst (v := 0) dX7_behind_1 (by decide) ?_
  refine wp_bipush (v := 60) dX7_behind_2 (by decide) ?_
  obtain ⟨v1, ev1, h⟩ := PI.bind h
  refine cgS_i (Y' := Y_X7_in) (kc2 := 0) (ks2 := 0) dX7_behind_4 ml_X7_72 ce_X7_in ⟨(Nat.le_of_ble_eq_true rfl), (Nat.le_of_ble_eq_true rfl)⟩ ⟨(Nat.le_of_ble_eq_true rfl), (Nat.le_of_ble_eq_true rfl)⟩ rfl rfl (ct_X7_in ev1) rfl rfl (Nat.le_of_ble_eq_true rfl) ?_
  refine wp_if_eq (tgt := 27) dX7_behind_7 (by decide) (fun c2 => ?_) (fun c2 => ?_)
  · have h := PI.t c2 h
    refine wp_iconst (v := -1) dX7_behind_27 (by decide) ?_
    exact wp_iret dX7_behind_28 rfl rfl (Nat.le_of_ble_eq_true rfl) (Nat.le_of_ble_eq_true rfl) (PI.some h)
  · have h := PI.f c2 h
    refine wp_aload_n (i := 0) dX7_behind_10 rfl rfl ?_
    refine wp_iload_n (i := 2) dX7_behind_11 rfl rfl ?_
    obtain ⟨v4, ev4, h⟩ := PI.bind h
    obtain ⟨v3, ev3, h⟩ := PI.bind h
    refine cgV_i (Y' := Y_X7_isPerson) (kc2 := 0) (ks2 := 0) dX7_behind_12 ml_X7_146 ce_X7_isPerson (t := 7) rfl (by decide) ⟨(Nat.le_of_ble_eq_true rfl), (Nat.le_of_ble_eq_true rfl)⟩ ⟨(Nat.le_of_ble_eq_true rfl), (Nat.le_of_ble_eq_true rfl)⟩ rfl rfl (chkT_eq ev4) (ct_X7_isPerson ev3) rfl rfl (Nat.le_of_ble_eq_true rfl) ?_
    refine wp_if_eq (tgt := 27) dX7_behind_15 (by decide) (fun c5 => ?_) (fun c5 => ?_)
    · have h := PI.t c5 h
      refine wp_iconst (v := -1) dX7_behind_27 (by decide) ?_
      exact wp_iret dX7_behind_28 rfl rfl (Nat.le_of_ble_eq_true rfl) (Nat.le_of_ble_eq_true rfl) (PI.some h)
    · have h := PI.f c5 h
      refine wp_aload_n (i := 0) dX7_behind_18 rfl rfl ?_
      refine wp_iload_n (i := 2) dX7_behind_19 rfl rfl ?_
      refine wp_iload_n (i := 1) dX7_behind_20 rfl rfl ?_
      obtain ⟨v7, ev7, h⟩ := PI.bind h
      obtain ⟨v6, ev6, h⟩ := PI.bind h
      refine cgV_i (Y' := Y_X7_yardBehind) (kc2 := 0) (ks2 := 0) dX7_behind_21 ml_X7_180 ce_X7_yardBehind (t := 7) rfl (by decide) ⟨(Nat.le_of_ble_eq_true rfl), (Nat.le_of_ble_eq_true rfl)⟩ ⟨(Nat.le_of_ble_eq_true rfl), (Nat.le_of_ble_eq_true rfl)⟩ rfl rfl (chkT_eq ev7) (ct_X7_yardBehind ev6) rfl rfl (Nat.le_of_ble_eq_true rfl) ?_
      refine wp_goto (tgt := 28) dX7_behind_24 (by decide) ?_
      exact wp_iret dX7_behind_28 rfl rfl (Nat.le_of_ble_eq_true rfl) (Nat.le_of_ble_eq_true rfl) (PI.some h)
theorem ct_X7_isSame {D : DT} {l : Launch} {m : Mem} {x0 : Nat} {x1 : Int32} {x2 : Int32} {r : Int32} (h : F_X7_isSame x0 x1 x2 m = some r) : Ct D l Y_X7_isSame [.ref x0, .int x1, .int x2] m (fun (v : Option Value) (N : Mem) => v = some (Value.int r) ∧ N = m) := by
  refine ct_of (by decide) (by rfl) (ls0 := [.ref x0, .int x1, .int x2]) rfl rfl ?_
  have h : PI m (F_X7_isSame x0 x1 x2 m) (fun (v : Option Value) (N : Mem) => v = some (Value.int r) ∧ N = m) := ⟨r, h, rfl, rfl⟩
  revert h
  generalize (fun (v : Option Value) (N : Mem) => v = some (Value.int r) ∧ N = m) = post
  intro h
  refine wp_aload_n (i := 0) dX7_isSame_0 rfl rfl ?_
  obtain ⟨v1, ev1, h⟩ := PI.bind h
  refine wp_getR cl7 (f := 4) (by decide) rfl fl_X7_13 dX7_isSame_1 ev1 ?_
  refine wp_iload_n (i := 1) dX7_isSame_4 rfl rfl ?_
  obtain ⟨v2, ev2, h⟩ := PI.bind h
  refine wp_iaload dX7_isSame_5 ev2 ?_
  refine wp_bipush (v := -4) dX7_isSame_6 (by decide) ?_
  refine wp_icmp_eq (tgt := 45) dX7_isSame_8 (by decide) (fun c3 => ?_) (fun c3 => ?_)
  · have h := PI.t c3 h
    refine wp_iconst (v := 0) dX7_isSame_45 (by decide) ?_
    exact wp_iret dX7_isSame_46 rfl (by decide) (Nat.le_of_ble_eq_true rfl) (Nat.le_of_ble_eq_true rfl) (PI.some h)
  · have h := PI.f c3 h
    refine wp_aload_n (i := 0) dX7_isSame_11 rfl rfl ?_
    obtain ⟨v4, ev4, h⟩ := PI.bind h
    refine wp_getR cl7 (f := 4) (by decide) rfl fl_X7_13 dX7_isSame_12 ev4 ?_
    refine wp_iload_n (i := 1) dX7_isSame_15 rfl rfl ?_
    obtain ⟨v5, ev5, h⟩ := PI.bind h
    refine wp_iaload dX7_isSame_16 ev5 ?_
    refine wp_aload_n (i := 0) dX7_isSame_17 rfl rfl ?_
    obtain ⟨v6, ev6, h⟩ := PI.bind h
    refine wp_getR cl7 (f := 4) (by decide) rfl fl_X7_13 dX7_isSame_18 ev6 ?_
    refine wp_iload_n (i := 2) dX7_isSame_21 rfl rfl ?_
    obtain ⟨v7, ev7, h⟩ := PI.bind h
    refine wp_iaload dX7_isSame_22 ev7 ?_
    refine wp_icmp_ne (tgt := 45) dX7_isSame_23 (by decide) (fun c8 => ?_) (fun c8 => ?_)
    · have h := PI.f c8 h
      refine wp_iconst (v := 0) dX7_isSame_45 (by decide) ?_
      exact wp_iret dX7_isSame_46 rfl (by decide) (Nat.le_of_ble_eq_true rfl) (Nat.le_of_ble_eq_true rfl) (PI.some h)
    · have h := PI.t c8 h
      refine wp_aload_n (i := 0) dX7_isSame_26 rfl rfl ?_
      obtain ⟨v9, ev9, h⟩ := PI.bind h
      refine wp_getR cl7 (f := 5) (by decide) rfl fl_X7_16 dX7_isSame_27 ev9 ?_
      refine wp_iload_n (i := 1) dX7_isSame_30 rfl rfl ?_
      obtain ⟨v10, ev10, h⟩ := PI.bind h
      refine wp_iaload dX7_isSame_31 ev10 ?_
      refine wp_aload_n (i := 0) dX7_isSame_32 rfl rfl ?_
      obtain ⟨v11, ev11, h⟩ := PI.bind h
      refine wp_getR cl7 (f := 5) (by decide) rfl fl_X7_16 dX7_isSame_33 ev11 ?_
      refine wp_iload_n (i := 2) dX7_isSame_36 rfl rfl ?_
      obtain ⟨v12, ev12, h⟩ := PI.bind h
      refine wp_iaload dX7_isSame_37 ev12 ?_
      refine wp_icmp_ne (tgt := 45) dX7_isSame_38 (by decide) (fun c13 => ?_) (fun c13 => ?_)
      · have h := PI.f c13 h
        refine wp_iconst (v := 0) dX7_isSame_45 (by decide) ?_
        exact wp_iret dX7_isSame_46 rfl (by decide) (Nat.le_of_ble_eq_true rfl) (Nat.le_of_ble_eq_true rfl) (PI.some h)
      · have h := PI.t c13 h
        refine wp_iconst (v := 1) dX7_isSame_41 (by decide) ?_
        refine wp_goto (tgt := 46) dX7_isSame_42 (by decide) ?_
        exact wp_iret dX7_isSame_46 rfl (by decide) (Nat.le_of_ble_eq_true rfl) (Nat.le_of_ble_eq_true rfl) (PI.some h)
theorem w_X7_first_52 {D : DT} {l : Launch} {post : Option Value → Mem → Prop} {m : Mem} {x0 : Nat} {x1 : Int32} {x2 : Int32} {x3 : Int32} (h : PI m (F_X7_first_52 m x0 x1 x2 x3) post) : WP D l Y_X7_first 0 0 52 [.ref x0, .int x1, .int x2, .int x3] [] m post := by
  refine wp_aload_n (i := 0) dX7_first_52 rfl rfl ?_
  refine wp_iload_n (i := 1) dX7_first_53 rfl rfl ?_
  refine wp_iload_n (i := 2) dX7_first_54 rfl rfl ?_
  obtain ⟨v2, ev2, h⟩ := PI.bind h
  obtain ⟨v1, ev1, h⟩ := PI.bind h
  refine cgV_i (Y' := Y_X7_isSame) (kc2 := 0) (ks2 := 0) dX7_first_55 ml_X7_183 ce_X7_isSame (t := 7) rfl (by decide) ⟨(Nat.le_of_ble_eq_true rfl), (Nat.le_of_ble_eq_true rfl)⟩ ⟨(Nat.le_of_ble_eq_true rfl), (Nat.le_of_ble_eq_true rfl)⟩ rfl rfl (chkT_eq ev2) (ct_X7_isSame ev1) rfl rfl (Nat.le_of_ble_eq_true rfl) ?_
  refine wp_if_eq (tgt := 71) dX7_first_58 (by decide) (fun c3 => ?_) (fun c3 => ?_)
  · have h := PI.t c3 h
    refine wp_bipush (v := -4) dX7_first_71 (by decide) ?_
    exact wp_iret dX7_first_73 rfl rfl (Nat.le_of_ble_eq_true rfl) (Nat.le_of_ble_eq_true rfl) (PI.some h)
  · have h := PI.f c3 h
    refine wp_iload_n (i := 3) dX7_first_61 rfl rfl ?_
    refine wp_bipush (v := 60) dX7_first_62 (by decide) ?_
    refine wp_icmp_gt (tgt := 71) dX7_first_64 (by decide) (fun c4 => ?_) (fun c4 => ?_)
    · have h := PI.t c4 h
      refine wp_bipush (v := -4) dX7_first_71 (by decide) ?_
      exact wp_iret dX7_first_73 rfl rfl (Nat.le_of_ble_eq_true rfl) (Nat.le_of_ble_eq_true rfl) (PI.some h)
    · have h := PI.f c4 h
      refine wp_iload_n (i := 3) dX7_first_67 rfl rfl ?_
      refine wp_goto (tgt := 73) dX7_first_68 (by decide) ?_
      exact wp_iret dX7_first_73 rfl rfl (Nat.le_of_ble_eq_true rfl) (Nat.le_of_ble_eq_true rfl) (PI.some h)
theorem w_X7_first_25 {D : DT} {l : Launch} {post : Option Value → Mem → Prop} {m : Mem} : ∀ (n : Nat) (x0 : Nat) (x1 : Int32) (x2 : Int32) (x3 : Int32), PI m (F_X7_first_25 m n x0 x1 x2 x3) post → WP D l Y_X7_first 0 0 25 [.ref x0, .int x1, .int x2, .int x3] [] m post := by
  intro n
  induction n with
  | zero => intro x0 x1 x2 x3 h; exact (PI.none h).elim
  | succ n ih =>
    intro x0 x1 x2 x3 h
    refine wp_iload_n (i := 3) dX7_first_25 rfl rfl ?_
    refine wp_bipush (v := 60) dX7_first_26 (by decide) ?_
    refine wp_icmp_gt (tgt := 52) dX7_first_28 (by decide) (fun c5 => ?_) (fun c5 => ?_)
    · have h := PI.t c5 h
      exact (w_X7_first_52 h)
    · have h := PI.f c5 h
      refine wp_aload_n (i := 0) dX7_first_31 rfl rfl ?_
      refine wp_iload_n (i := 1) dX7_first_32 rfl rfl ?_
      refine wp_iload_n (i := 3) dX7_first_33 rfl rfl ?_
      obtain ⟨v7, ev7, h⟩ := PI.bind h
      obtain ⟨v6, ev6, h⟩ := PI.bind h
      refine cgV_i (Y' := Y_X7_yardBehind) (kc2 := 0) (ks2 := 0) dX7_first_34 ml_X7_180 ce_X7_yardBehind (t := 7) rfl (by decide) ⟨(Nat.le_of_ble_eq_true rfl), (Nat.le_of_ble_eq_true rfl)⟩ ⟨(Nat.le_of_ble_eq_true rfl), (Nat.le_of_ble_eq_true rfl)⟩ rfl rfl (chkT_eq ev7) (ct_X7_yardBehind ev6) rfl rfl (Nat.le_of_ble_eq_true rfl) ?_
      refine wp_aload_n (i := 0) dX7_first_37 rfl rfl ?_
      refine wp_iload_n (i := 2) dX7_first_38 rfl rfl ?_
      refine wp_iload_n (i := 3) dX7_first_39 rfl rfl ?_
      obtain ⟨v9, ev9, h⟩ := PI.bind h
      obtain ⟨v8, ev8, h⟩ := PI.bind h
      refine cgV_i (Y' := Y_X7_yardBehind) (kc2 := 0) (ks2 := 0) dX7_first_40 ml_X7_180 ce_X7_yardBehind (t := 7) rfl (by decide) ⟨(Nat.le_of_ble_eq_true rfl), (Nat.le_of_ble_eq_true rfl)⟩ ⟨(Nat.le_of_ble_eq_true rfl), (Nat.le_of_ble_eq_true rfl)⟩ rfl rfl (chkT_eq ev9) (ct_X7_yardBehind ev8) rfl rfl (Nat.le_of_ble_eq_true rfl) ?_
      refine wp_icmp_eq (tgt := 52) dX7_first_43 (by decide) (fun c10 => ?_) (fun c10 => ?_)
      · have h := PI.t c10 h
        exact (w_X7_first_52 h)
      · have h := PI.f c10 h
        refine wp_iinc (v := 1) dX7_first_46 rfl (by decide) rfl rfl ?_
        refine wp_goto (tgt := 25) dX7_first_49 (by decide) ?_
        exact (ih _ _ _ _ h)
theorem ct_X7_first {D : DT} {l : Launch} {m : Mem} {x0 : Nat} {x1 : Int32} {x2 : Int32} {r : Int32} (h : F_X7_first x0 x1 x2 m = some r) : Ct D l Y_X7_first [.ref x0, .int x1, .int x2] m (fun (v : Option Value) (N : Mem) => v = some (Value.int r) ∧ N = m) := by
  refine ct_of (by decide) (by rfl) (ls0 := [.ref x0, .int x1, .int x2, JK]) rfl rfl ?_
  have h : PI m (F_X7_first x0 x1 x2 m) (fun (v : Option Value) (N : Mem) => v = some (Value.int r) ∧ N = m) := ⟨r, h, rfl, rfl⟩
  revert h
  generalize (fun (v : Option Value) (N : Mem) => v = some (Value.int r) ∧ N = m) = post
  intro h
  refine wp_aload_n (i := 0) dX7_first_0 rfl rfl ?_
  refine wp_iload_n (i := 1) dX7_first_1 rfl rfl ?_
  obtain ⟨v12, ev12, h⟩ := PI.bind h
  obtain ⟨v11, ev11, h⟩ := PI.bind h
  refine cgV_i (Y' := Y_X7_isPerson) (kc2 := 0) (ks2 := 0) dX7_first_2 ml_X7_146 ce_X7_isPerson (t := 7) rfl (by decide) ⟨(Nat.le_of_ble_eq_true rfl), (Nat.le_of_ble_eq_true rfl)⟩ ⟨(Nat.le_of_ble_eq_true rfl), (Nat.le_of_ble_eq_true rfl)⟩ rfl rfl (chkT_eq ev12) (ct_X7_isPerson ev11) rfl rfl (Nat.le_of_ble_eq_true rfl) ?_
  refine wp_if_eq (tgt := 21) dX7_first_5 (by decide) (fun c13 => ?_) (fun c13 => ?_)
  · have h := PI.t c13 h
    refine wp_iconst (v := -1) dX7_first_21 (by decide) ?_
    exact wp_iret dX7_first_22 rfl rfl (Nat.le_of_ble_eq_true rfl) (Nat.le_of_ble_eq_true rfl) (PI.some h)
  · have h := PI.f c13 h
    refine wp_aload_n (i := 0) dX7_first_8 rfl rfl ?_
    refine wp_iload_n (i := 2) dX7_first_9 rfl rfl ?_
    obtain ⟨v15, ev15, h⟩ := PI.bind h
    obtain ⟨v14, ev14, h⟩ := PI.bind h
    refine cgV_i (Y' := Y_X7_isPerson) (kc2 := 0) (ks2 := 0) dX7_first_10 ml_X7_146 ce_X7_isPerson (t := 7) rfl (by decide) ⟨(Nat.le_of_ble_eq_true rfl), (Nat.le_of_ble_eq_true rfl)⟩ ⟨(Nat.le_of_ble_eq_true rfl), (Nat.le_of_ble_eq_true rfl)⟩ rfl rfl (chkT_eq ev15) (ct_X7_isPerson ev14) rfl rfl (Nat.le_of_ble_eq_true rfl) ?_
    refine wp_if_eq (tgt := 21) dX7_first_13 (by decide) (fun c16 => ?_) (fun c16 => ?_)
    · have h := PI.t c16 h
      refine wp_iconst (v := -1) dX7_first_21 (by decide) ?_
      exact wp_iret dX7_first_22 rfl rfl (Nat.le_of_ble_eq_true rfl) (Nat.le_of_ble_eq_true rfl) (PI.some h)
    · have h := PI.f c16 h
      refine wp_iload_n (i := 1) dX7_first_16 rfl rfl ?_
      refine wp_iload_n (i := 2) dX7_first_17 rfl rfl ?_
      refine wp_icmp_ne (tgt := 23) dX7_first_18 (by decide) (fun c17 => ?_) (fun c17 => ?_)
      · have h := PI.f c17 h
        refine wp_iconst (v := 0) dX7_first_23 (by decide) ?_
        refine wp_istore_n (i := 3) dX7_first_24 rfl rfl rfl ?_
        exact (w_X7_first_25 _ _ _ _ _ h)
      · have h := PI.t c17 h
        refine wp_iconst (v := -1) dX7_first_21 (by decide) ?_
        exact wp_iret dX7_first_22 rfl rfl (Nat.le_of_ble_eq_true rfl) (Nat.le_of_ble_eq_true rfl) (PI.some h)
theorem ct_X7_begin {D : DT} {l : Launch} {m : Mem} {x0 : Nat} {r : Mem} (h : F_X7_begin x0 m = some r) : Ct D l Y_X7_begin [.ref x0] m (fun (v : Option Value) (N : Mem) => v = none ∧ N = r) := by
  refine ct_of (by decide) (by rfl) (ls0 := [.ref x0]) rfl rfl ?_
  have h : HV (F_X7_begin x0 m) (fun (v : Option Value) (N : Mem) => v = none ∧ N = r) := ⟨r, h, rfl, rfl⟩
  revert h
  generalize (fun (v : Option Value) (N : Mem) => v = none ∧ N = r) = post
  intro h
  refine wp_aload_n (i := 0) dX7_begin_0 rfl rfl ?_
  refine wp_aload_n (i := 0) dX7_begin_1 rfl rfl ?_
  obtain ⟨v1, ev1, h⟩ := HV.bind h
  refine wp_getR cl7 (f := 23) (by decide) rfl fl_X7_49 dX7_begin_2 ev1 ?_
  refine wp_iconst (v := 0) dX7_begin_5 (by decide) ?_
  obtain ⟨v3, ev3, h⟩ := HV.bind h
  obtain ⟨v2, ev2, h⟩ := HV.bind h
  refine cgV_v (Y' := Y_X7_lays) (kc2 := 0) (ks2 := 0) dX7_begin_6 ml_X7_159 ce_X7_lays (t := 7) rfl (by decide) ⟨(Nat.le_of_ble_eq_true rfl), (Nat.le_of_ble_eq_true rfl)⟩ ⟨(Nat.le_of_ble_eq_true rfl), (Nat.le_of_ble_eq_true rfl)⟩ rfl rfl (chkT_eq ev3) (ct_X7_lays ev2) rfl rfl (Nat.le_of_ble_eq_true rfl) ?_
  exact wp_vret dX7_begin_9 rfl (Nat.le_of_ble_eq_true rfl) (Nat.le_of_ble_eq_true rfl) (HV.some h)
theorem ct_X7_putBack {D : DT} {l : Launch} {m : Mem} {x0 : Nat} {r : Mem} (h : F_X7_putBack x0 m = some r) : Ct D l Y_X7_putBack [.ref x0] m (fun (v : Option Value) (N : Mem) => v = none ∧ N = r) := by
  refine ct_of (by decide) (by rfl) (ls0 := [.ref x0]) rfl rfl ?_
  have h : HV (F_X7_putBack x0 m) (fun (v : Option Value) (N : Mem) => v = none ∧ N = r) := ⟨r, h, rfl, rfl⟩
  revert h
  generalize (fun (v : Option Value) (N : Mem) => v = none ∧ N = r) = post
  intro h
  refine wp_aload_n (i := 0) dX7_putBack_0 rfl rfl ?_
  refine wp_aload_n (i := 0) dX7_putBack_1 rfl rfl ?_
  obtain ⟨v1, ev1, h⟩ := HV.bind h
  refine wp_getR cl7 (f := 23) (by decide) rfl fl_X7_49 dX7_putBack_2 ev1 ?_
  refine wp_iconst (v := 0) dX7_putBack_5 (by decide) ?_
  obtain ⟨v3, ev3, h⟩ := HV.bind h
  obtain ⟨v2, ev2, h⟩ := HV.bind h
  refine cgV_v (Y' := Y_X7_takes) (kc2 := 0) (ks2 := 0) dX7_putBack_6 ml_X7_177 ce_X7_takes (t := 7) rfl (by decide) ⟨(Nat.le_of_ble_eq_true rfl), (Nat.le_of_ble_eq_true rfl)⟩ ⟨(Nat.le_of_ble_eq_true rfl), (Nat.le_of_ble_eq_true rfl)⟩ rfl rfl (chkT_eq ev3) (ct_X7_takes ev2) rfl rfl (Nat.le_of_ble_eq_true rfl) ?_
  exact wp_vret dX7_putBack_9 rfl (Nat.le_of_ble_eq_true rfl) (Nat.le_of_ble_eq_true rfl) (HV.some h)
theorem ct_X7_all {D : DT} {l : Launch} {m : Mem} {x0 : Nat} {x1 : Int32} {r : (Int32 × Mem)} (h : F_X7_all x0 x1 m = some r) : Ct D l Y_X7_all [.ref x0, .int x1] m (fun (v : Option Value) (N : Mem) => v = some (Value.int r.1) ∧ N = r.2) := by
  refine ct_of (by decide) (by rfl) (ls0 := [.ref x0, .int x1, JK, JK]) rfl rfl ?_
  have h : HI (F_X7_all x0 x1 m) (fun (v : Option Value) (N : Mem) => v = some (Value.int r.1) ∧ N = r.2) := ⟨r.1, r.2, h, rfl, rfl⟩
  revert h
  generalize (fun (v : Option Value) (N : Mem) => v = some (Value.int r.1) ∧ N = r.2) = post
  intro h
  refine wp_iload_n (i := 1) dX7_all_0 rfl rfl ?_
  refine wp_iconst (v := 1) dX7_all_1 (by decide) ?_
  refine wp_bipush (v := 60) dX7_all_2 (by decide) ?_
  obtain ⟨v1, ev1, h⟩ := HI.bind h
  refine cgS_i (Y' := Y_X7_in) (kc2 := 0) (ks2 := 0) dX7_all_4 ml_X7_72 ce_X7_in ⟨(Nat.le_of_ble_eq_true rfl), (Nat.le_of_ble_eq_true rfl)⟩ ⟨(Nat.le_of_ble_eq_true rfl), (Nat.le_of_ble_eq_true rfl)⟩ rfl rfl (ct_X7_in ev1) rfl rfl (Nat.le_of_ble_eq_true rfl) ?_
  refine wp_if_ne (tgt := 12) dX7_all_7 (by decide) (fun c2 => ?_) (fun c2 => ?_)
  · have h := HI.f c2 h
    refine wp_aload_n (i := 0) dX7_all_12 rfl rfl ?_
    obtain ⟨v4, ev4, h⟩ := HI.bind h
    obtain ⟨v3, ev3, h⟩ := HI.bind h
    refine cgV_v (Y' := Y_X7_begin) (kc2 := 0) (ks2 := 0) dX7_all_13 ml_X7_186 ce_X7_begin (t := 7) rfl (by decide) ⟨(Nat.le_of_ble_eq_true rfl), (Nat.le_of_ble_eq_true rfl)⟩ ⟨(Nat.le_of_ble_eq_true rfl), (Nat.le_of_ble_eq_true rfl)⟩ rfl rfl (chkT_eq ev4) (ct_X7_begin ev3) rfl rfl (Nat.le_of_ble_eq_true rfl) ?_
    refine wp_aload_n (i := 0) dX7_all_16 rfl rfl ?_
    obtain ⟨v5, ev5, h⟩ := HI.bind h
    refine wp_getI cl7 (f := 3) (by decide) rfl fl_X7_112 dX7_all_17 ev5 ?_
    refine wp_istore_n (i := 2) dX7_all_20 rfl rfl rfl ?_
    refine wp_aload_n (i := 0) dX7_all_21 rfl rfl ?_
    refine wp_iload_n (i := 1) dX7_all_22 rfl rfl ?_
    obtain ⟨v7, ev7, h⟩ := HI.bind h
    obtain ⟨v6, ev6, h⟩ := HI.bind h
    refine cgV_v (Y' := Y_X7_goesOn) (kc2 := 0) (ks2 := 0) dX7_all_23 ml_X7_166 ce_X7_goesOn (t := 7) rfl (by decide) ⟨(Nat.le_of_ble_eq_true rfl), (Nat.le_of_ble_eq_true rfl)⟩ ⟨(Nat.le_of_ble_eq_true rfl), (Nat.le_of_ble_eq_true rfl)⟩ rfl rfl (chkT_eq ev7) (ct_X7_goesOn ev6) rfl rfl (Nat.le_of_ble_eq_true rfl) ?_
    refine wp_aload_n (i := 0) dX7_all_26 rfl rfl ?_
    obtain ⟨v8, ev8, h⟩ := HI.bind h
    refine wp_getI cl7 (f := 3) (by decide) rfl fl_X7_112 dX7_all_27 ev8 ?_
    refine wp_iload_n (i := 2) dX7_all_30 rfl rfl ?_
    refine wp_isub dX7_all_31 ?_
    refine wp_istore_n (i := 3) dX7_all_32 rfl rfl rfl ?_
    refine wp_aload_n (i := 0) dX7_all_33 rfl rfl ?_
    obtain ⟨v10, ev10, h⟩ := HI.bind h
    obtain ⟨v9, ev9, h⟩ := HI.bind h
    refine cgV_v (Y' := Y_X7_putBack) (kc2 := 0) (ks2 := 0) dX7_all_34 ml_X7_189 ce_X7_putBack (t := 7) rfl (by decide) ⟨(Nat.le_of_ble_eq_true rfl), (Nat.le_of_ble_eq_true rfl)⟩ ⟨(Nat.le_of_ble_eq_true rfl), (Nat.le_of_ble_eq_true rfl)⟩ rfl rfl (chkT_eq ev10) (ct_X7_putBack ev9) rfl rfl (Nat.le_of_ble_eq_true rfl) ?_
    refine wp_iload_n (i := 3) dX7_all_37 rfl rfl ?_
    exact wp_iret dX7_all_38 rfl rfl (Nat.le_of_ble_eq_true rfl) (Nat.le_of_ble_eq_true rfl) (HI.some h)
  · have h := HI.t c2 h
    refine wp_iconst (v := -1) dX7_all_10 (by decide) ?_
    exact wp_iret dX7_all_11 rfl rfl (Nat.le_of_ble_eq_true rfl) (Nat.le_of_ble_eq_true rfl) (HI.some h)
theorem w_X7_paces_96 {D : DT} {l : Launch} {post : Option Value → Mem → Prop} {r47 : Nat → Int32 → Int32 → Int32 → Int32 → Int32 → Int32 → Mem → Option (Int32 × Mem)} (hr47 : ∀ (x0 : Nat) (x1 : Int32) (x2 : Int32) (x3 : Int32) (x4 : Int32) (x5 : Int32) (x6 : Int32) (m : Mem), HI (r47 x0 x1 x2 x3 x4 x5 x6 m) post → WP D l Y_X7_paces 0 0 47 [.ref x0, .int x1, .int x2, .int x3, .int x4, .int x5, .int x6] [] m post) {x0 : Nat} {x1 : Int32} {x2 : Int32} {x3 : Int32} {x4 : Int32} {x6 : Int32} {s0 : Int32} {s1 : Int32} {m : Mem} (h : HI (F_X7_paces_96 r47 x0 x1 x2 x3 x4 x6 s0 s1 m) post) : WP D l Y_X7_paces 0 0 96 [.ref x0, .int x1, .int x2, .int x3, .int x4, JK, .int x6] [.int s1, .int s0] m post := by
  refine wp_ior dX7_paces_96 ?_
  refine wp_istore dX7_paces_97 rfl rfl ?_
  refine wp_iinc (v := 1) dX7_paces_99 rfl (by decide) rfl rfl ?_
  refine wp_goto (tgt := 47) dX7_paces_102 (by decide) ?_
  exact (hr47 _ _ _ _ _ _ _ _ h)
theorem w_X7_paces_95 {D : DT} {l : Launch} {post : Option Value → Mem → Prop} {r47 : Nat → Int32 → Int32 → Int32 → Int32 → Int32 → Int32 → Mem → Option (Int32 × Mem)} (hr47 : ∀ (x0 : Nat) (x1 : Int32) (x2 : Int32) (x3 : Int32) (x4 : Int32) (x5 : Int32) (x6 : Int32) (m : Mem), HI (r47 x0 x1 x2 x3 x4 x5 x6 m) post → WP D l Y_X7_paces 0 0 47 [.ref x0, .int x1, .int x2, .int x3, .int x4, .int x5, .int x6] [] m post) {x0 : Nat} {x1 : Int32} {x2 : Int32} {x3 : Int32} {x4 : Int32} {x6 : Int32} {s0 : Int32} {m : Mem} (h : HI (F_X7_paces_95 r47 x0 x1 x2 x3 x4 x6 s0 m) post) : WP D l Y_X7_paces 0 0 95 [.ref x0, .int x1, .int x2, .int x3, .int x4, JK, .int x6] [.int s0] m post := by
  refine wp_iconst (v := 0) dX7_paces_95 (by decide) ?_
  exact (w_X7_paces_96 hr47 h)
theorem w_X7_paces_47 {D : DT} {l : Launch} {post : Option Value → Mem → Prop} : ∀ (n : Nat) (x0 : Nat) (x1 : Int32) (x2 : Int32) (x3 : Int32) (x4 : Int32) (x5 : Int32) (x6 : Int32) (m : Mem), HI (F_X7_paces_47 n x0 x1 x2 x3 x4 x5 x6 m) post → WP D l Y_X7_paces 0 0 47 [.ref x0, .int x1, .int x2, .int x3, .int x4, .int x5, .int x6] [] m post := by
  intro n
  induction n with
  | zero => intro x0 x1 x2 x3 x4 x5 x6 m h; exact (HI.none h).elim
  | succ n ih =>
    intro x0 x1 x2 x3 x4 x5 x6 m h
    refine wp_iload dX7_paces_47 rfl ?_
    refine wp_bipush (v := 12) dX7_paces_49 (by decide) ?_
    refine wp_icmp_ge (tgt := 105) dX7_paces_51 (by decide) (fun c1 => ?_) (fun c1 => ?_)
    · have h := HI.t c1 h
      refine wp_aload_n (i := 0) dX7_paces_105 rfl rfl ?_
      obtain ⟨v2, ev2, h⟩ := HI.bind h
      refine wp_getR cl7 (f := 7) (by decide) rfl fl_X7_22 dX7_paces_106 ev2 ?_
      refine wp_iload_n (i := 1) dX7_paces_109 rfl rfl ?_
      refine wp_iload dX7_paces_110 rfl ?_
      obtain ⟨m3, em3, h⟩ := HI.bind h
      refine wp_iastore dX7_paces_112 em3 ?_
      refine wp_iload dX7_paces_113 rfl ?_
      exact wp_iret dX7_paces_115 rfl rfl (Nat.le_of_ble_eq_true rfl) (Nat.le_of_ble_eq_true rfl) (HI.some h)
    · have h := HI.f c1 h
      refine wp_aload_n (i := 0) dX7_paces_54 rfl rfl ?_
      obtain ⟨v4, ev4, h⟩ := HI.bind h
      refine wp_getR cl7 (f := 7) (by decide) rfl fl_X7_22 dX7_paces_55 ev4 ?_
      refine wp_iload_n (i := 1) dX7_paces_58 rfl rfl ?_
      refine wp_iload dX7_paces_59 rfl ?_
      obtain ⟨m5, em5, h⟩ := HI.bind h
      refine wp_iastore dX7_paces_61 em5 ?_
      refine wp_iload dX7_paces_62 rfl ?_
      refine wp_aload_n (i := 0) dX7_paces_64 rfl rfl ?_
      refine wp_iload_n (i := 1) dX7_paces_65 rfl rfl ?_
      refine wp_iload_n (i := 2) dX7_paces_66 rfl rfl ?_
      obtain ⟨v7, ev7, h⟩ := HI.bind h
      obtain ⟨v6, ev6, h⟩ := HI.bind h
      refine cgV_i (Y' := Y_X7_isSame) (kc2 := 0) (ks2 := 0) dX7_paces_67 ml_X7_183 ce_X7_isSame (t := 7) rfl (by decide) ⟨(Nat.le_of_ble_eq_true rfl), (Nat.le_of_ble_eq_true rfl)⟩ ⟨(Nat.le_of_ble_eq_true rfl), (Nat.le_of_ble_eq_true rfl)⟩ rfl rfl (chkT_eq ev7) (ct_X7_isSame ev6) rfl rfl (Nat.le_of_ble_eq_true rfl) ?_
      refine wp_if_eq (tgt := 95) dX7_paces_70 (by decide) (fun c8 => ?_) (fun c8 => ?_)
      · have h := HI.t c8 h
        exact wp_weak [true, true, true, true, true, false, true] (w_X7_paces_95 ih h)
      · have h := HI.f c8 h
        refine wp_aload_n (i := 0) dX7_paces_73 rfl rfl ?_
        refine wp_iload_n (i := 1) dX7_paces_74 rfl rfl ?_
        refine wp_iload_n (i := 3) dX7_paces_75 rfl rfl ?_
        obtain ⟨v10, ev10, h⟩ := HI.bind h
        obtain ⟨v9, ev9, h⟩ := HI.bind h
        refine cgV_i (Y' := Y_X7_yardBehind) (kc2 := 0) (ks2 := 0) dX7_paces_76 ml_X7_180 ce_X7_yardBehind (t := 7) rfl (by decide) ⟨(Nat.le_of_ble_eq_true rfl), (Nat.le_of_ble_eq_true rfl)⟩ ⟨(Nat.le_of_ble_eq_true rfl), (Nat.le_of_ble_eq_true rfl)⟩ rfl rfl (chkT_eq ev10) (ct_X7_yardBehind ev9) rfl rfl (Nat.le_of_ble_eq_true rfl) ?_
        refine wp_aload_n (i := 0) dX7_paces_79 rfl rfl ?_
        refine wp_iload_n (i := 2) dX7_paces_80 rfl rfl ?_
        refine wp_iload_n (i := 3) dX7_paces_81 rfl rfl ?_
        obtain ⟨v12, ev12, h⟩ := HI.bind h
        obtain ⟨v11, ev11, h⟩ := HI.bind h
        refine cgV_i (Y' := Y_X7_yardBehind) (kc2 := 0) (ks2 := 0) dX7_paces_82 ml_X7_180 ce_X7_yardBehind (t := 7) rfl (by decide) ⟨(Nat.le_of_ble_eq_true rfl), (Nat.le_of_ble_eq_true rfl)⟩ ⟨(Nat.le_of_ble_eq_true rfl), (Nat.le_of_ble_eq_true rfl)⟩ rfl rfl (chkT_eq ev12) (ct_X7_yardBehind ev11) rfl rfl (Nat.le_of_ble_eq_true rfl) ?_
        refine wp_icmp_ne (tgt := 95) dX7_paces_85 (by decide) (fun c13 => ?_) (fun c13 => ?_)
        · have h := HI.f c13 h
          exact wp_weak [true, true, true, true, true, false, true] (w_X7_paces_95 ih h)
        · have h := HI.t c13 h
          refine wp_iconst (v := 1) dX7_paces_88 (by decide) ?_
          refine wp_iload dX7_paces_89 rfl ?_
          refine wp_ishl dX7_paces_91 ?_
          refine wp_goto (tgt := 96) dX7_paces_92 (by decide) ?_
          exact wp_weak [true, true, true, true, true, false, true] (w_X7_paces_96 ih h)
theorem ct_X7_paces {D : DT} {l : Launch} {m : Mem} {x0 : Nat} {x1 : Int32} {x2 : Int32} {x3 : Int32} {r : (Int32 × Mem)} (h : F_X7_paces x0 x1 x2 x3 m = some r) : Ct D l Y_X7_paces [.ref x0, .int x1, .int x2, .int x3] m (fun (v : Option Value) (N : Mem) => v = some (Value.int r.1) ∧ N = r.2) := by
  refine ct_of (by decide) (by rfl) (ls0 := [.ref x0, .int x1, .int x2, .int x3, JK, JK, JK]) rfl rfl ?_
  have h : HI (F_X7_paces x0 x1 x2 x3 m) (fun (v : Option Value) (N : Mem) => v = some (Value.int r.1) ∧ N = r.2) := ⟨r.1, r.2, h, rfl, rfl⟩
  revert h
  generalize (fun (v : Option Value) (N : Mem) => v = some (Value.int r.1) ∧ N = r.2) = post
  intro h
  refine wp_aload_n (i := 0) dX7_paces_0 rfl rfl ?_
  refine wp_iload_n (i := 1) dX7_paces_1 rfl rfl ?_
  obtain ⟨v15, ev15, h⟩ := HI.bind h
  obtain ⟨v14, ev14, h⟩ := HI.bind h
  refine cgV_i (Y' := Y_X7_isPerson) (kc2 := 0) (ks2 := 0) dX7_paces_2 ml_X7_146 ce_X7_isPerson (t := 7) rfl (by decide) ⟨(Nat.le_of_ble_eq_true rfl), (Nat.le_of_ble_eq_true rfl)⟩ ⟨(Nat.le_of_ble_eq_true rfl), (Nat.le_of_ble_eq_true rfl)⟩ rfl rfl (chkT_eq ev15) (ct_X7_isPerson ev14) rfl rfl (Nat.le_of_ble_eq_true rfl) ?_
  refine wp_if_eq (tgt := 31) dX7_paces_5 (by decide) (fun c16 => ?_) (fun c16 => ?_)
  · have h := HI.t c16 h
    refine wp_iconst (v := -1) dX7_paces_31 (by decide) ?_
    exact wp_iret dX7_paces_32 rfl rfl (Nat.le_of_ble_eq_true rfl) (Nat.le_of_ble_eq_true rfl) (HI.some h)
  · have h := HI.f c16 h
    refine wp_aload_n (i := 0) dX7_paces_8 rfl rfl ?_
    refine wp_iload_n (i := 2) dX7_paces_9 rfl rfl ?_
    obtain ⟨v18, ev18, h⟩ := HI.bind h
    obtain ⟨v17, ev17, h⟩ := HI.bind h
    refine cgV_i (Y' := Y_X7_isPerson) (kc2 := 0) (ks2 := 0) dX7_paces_10 ml_X7_146 ce_X7_isPerson (t := 7) rfl (by decide) ⟨(Nat.le_of_ble_eq_true rfl), (Nat.le_of_ble_eq_true rfl)⟩ ⟨(Nat.le_of_ble_eq_true rfl), (Nat.le_of_ble_eq_true rfl)⟩ rfl rfl (chkT_eq ev18) (ct_X7_isPerson ev17) rfl rfl (Nat.le_of_ble_eq_true rfl) ?_
    refine wp_if_eq (tgt := 31) dX7_paces_13 (by decide) (fun c19 => ?_) (fun c19 => ?_)
    · have h := HI.t c19 h
      refine wp_iconst (v := -1) dX7_paces_31 (by decide) ?_
      exact wp_iret dX7_paces_32 rfl rfl (Nat.le_of_ble_eq_true rfl) (Nat.le_of_ble_eq_true rfl) (HI.some h)
    · have h := HI.f c19 h
      refine wp_iload_n (i := 1) dX7_paces_16 rfl rfl ?_
      refine wp_iload_n (i := 2) dX7_paces_17 rfl rfl ?_
      refine wp_icmp_eq (tgt := 31) dX7_paces_18 (by decide) (fun c20 => ?_) (fun c20 => ?_)
      · have h := HI.t c20 h
        refine wp_iconst (v := -1) dX7_paces_31 (by decide) ?_
        exact wp_iret dX7_paces_32 rfl rfl (Nat.le_of_ble_eq_true rfl) (Nat.le_of_ble_eq_true rfl) (HI.some h)
      · have h := HI.f c20 h
        refine wp_iload_n (i := 3) dX7_paces_21 rfl rfl ?_
        refine wp_iconst (v := 1) dX7_paces_22 (by decide) ?_
        refine wp_bipush (v := 24) dX7_paces_23 (by decide) ?_
        obtain ⟨v21, ev21, h⟩ := HI.bind h
        refine cgS_i (Y' := Y_X7_in) (kc2 := 0) (ks2 := 0) dX7_paces_25 ml_X7_72 ce_X7_in ⟨(Nat.le_of_ble_eq_true rfl), (Nat.le_of_ble_eq_true rfl)⟩ ⟨(Nat.le_of_ble_eq_true rfl), (Nat.le_of_ble_eq_true rfl)⟩ rfl rfl (ct_X7_in ev21) rfl rfl (Nat.le_of_ble_eq_true rfl) ?_
        refine wp_if_ne (tgt := 33) dX7_paces_28 (by decide) (fun c22 => ?_) (fun c22 => ?_)
        · have h := HI.f c22 h
          refine wp_aload_n (i := 0) dX7_paces_33 rfl rfl ?_
          obtain ⟨v23, ev23, h⟩ := HI.bind h
          refine wp_getR cl7 (f := 7) (by decide) rfl fl_X7_22 dX7_paces_34 ev23 ?_
          refine wp_iload_n (i := 1) dX7_paces_37 rfl rfl ?_
          obtain ⟨v24, ev24, h⟩ := HI.bind h
          refine wp_iaload dX7_paces_38 ev24 ?_
          refine wp_istore dX7_paces_39 rfl rfl ?_
          refine wp_iconst (v := 0) dX7_paces_41 (by decide) ?_
          refine wp_istore dX7_paces_42 rfl rfl ?_
          refine wp_iconst (v := 0) dX7_paces_44 (by decide) ?_
          refine wp_istore dX7_paces_45 rfl rfl ?_
          exact (w_X7_paces_47 _ _ _ _ _ _ _ _ _ h)
        · have h := HI.t c22 h
          refine wp_iconst (v := -1) dX7_paces_31 (by decide) ?_
          exact wp_iret dX7_paces_32 rfl rfl (Nat.le_of_ble_eq_true rfl) (Nat.le_of_ble_eq_true rfl) (HI.some h)
theorem w_X7_share_38 {D : DT} {l : Launch} {post : Option Value → Mem → Prop} {m : Mem} {r5 : Nat → Int32 → Int32 → Int32 → Int32 → Option Int32} (hr5 : ∀ (x0 : Nat) (x1 : Int32) (x2 : Int32) (x3 : Int32) (x4 : Int32), PI m (r5 x0 x1 x2 x3 x4) post → WP D l Y_X7_share 0 0 5 [.ref x0, .int x1, .int x2, .int x3, .int x4] [] m post) {x0 : Nat} {x1 : Int32} {x2 : Int32} {x4 : Int32} {s0 : Int32} (h : PI m (F_X7_share_38 m r5 x0 x1 x2 x4 s0) post) : WP D l Y_X7_share 0 0 38 [.ref x0, .int x1, .int x2, JK, .int x4] [.int s0] m post := by
  refine wp_istore_n (i := 3) dX7_share_38 rfl rfl rfl ?_
  refine wp_iinc (v := 1) dX7_share_39 rfl (by decide) rfl rfl ?_
  refine wp_goto (tgt := 5) dX7_share_42 (by decide) ?_
  exact (hr5 _ _ _ _ _ h)
theorem w_X7_share_33 {D : DT} {l : Launch} {post : Option Value → Mem → Prop} {m : Mem} {r5 : Nat → Int32 → Int32 → Int32 → Int32 → Option Int32} (hr5 : ∀ (x0 : Nat) (x1 : Int32) (x2 : Int32) (x3 : Int32) (x4 : Int32), PI m (r5 x0 x1 x2 x3 x4) post → WP D l Y_X7_share 0 0 5 [.ref x0, .int x1, .int x2, .int x3, .int x4] [] m post) {x0 : Nat} {x1 : Int32} {x2 : Int32} {x4 : Int32} (h : PI m (F_X7_share_33 m r5 x0 x1 x2 x4) post) : WP D l Y_X7_share 0 0 33 [.ref x0, .int x1, .int x2, JK, .int x4] [] m post := by
  refine wp_iconst (v := 1) dX7_share_33 (by decide) ?_
  refine wp_goto (tgt := 38) dX7_share_34 (by decide) ?_
  exact (w_X7_share_38 hr5 h)
theorem w_X7_share_5 {D : DT} {l : Launch} {post : Option Value → Mem → Prop} {m : Mem} : ∀ (n : Nat) (x0 : Nat) (x1 : Int32) (x2 : Int32) (x3 : Int32) (x4 : Int32), PI m (F_X7_share_5 m n x0 x1 x2 x3 x4) post → WP D l Y_X7_share 0 0 5 [.ref x0, .int x1, .int x2, .int x3, .int x4] [] m post := by
  intro n
  induction n with
  | zero => intro x0 x1 x2 x3 x4 h; exact (PI.none h).elim
  | succ n ih =>
    intro x0 x1 x2 x3 x4 h
    refine wp_iload dX7_share_5 rfl ?_
    refine wp_bipush (v := 24) dX7_share_7 (by decide) ?_
    refine wp_icmp_gt (tgt := 45) dX7_share_9 (by decide) (fun c1 => ?_) (fun c1 => ?_)
    · have h := PI.t c1 h
      refine wp_iload_n (i := 3) dX7_share_45 rfl rfl ?_
      obtain ⟨v2, ev2, h⟩ := PI.bind h
      exact wp_iret dX7_share_46 rfl (rN_of ev2) (Nat.le_of_ble_eq_true rfl) (Nat.le_of_ble_eq_true rfl) (PI.some h)
    · have h := PI.f c1 h
      refine wp_iload_n (i := 3) dX7_share_12 rfl rfl ?_
      refine wp_if_ne (tgt := 33) dX7_share_13 (by decide) (fun c3 => ?_) (fun c3 => ?_)
      · have h := PI.f c3 h
        exact wp_weak [true, true, true, false, true] (w_X7_share_33 ih h)
      · have h := PI.t c3 h
        refine wp_aload_n (i := 0) dX7_share_16 rfl rfl ?_
        refine wp_iload_n (i := 1) dX7_share_17 rfl rfl ?_
        refine wp_iload dX7_share_18 rfl ?_
        obtain ⟨v5, ev5, h⟩ := PI.bind h
        obtain ⟨v4, ev4, h⟩ := PI.bind h
        refine cgV_i (Y' := Y_X7_yardBehind) (kc2 := 0) (ks2 := 0) dX7_share_20 ml_X7_180 ce_X7_yardBehind (t := 7) rfl (by decide) ⟨(Nat.le_of_ble_eq_true rfl), (Nat.le_of_ble_eq_true rfl)⟩ ⟨(Nat.le_of_ble_eq_true rfl), (Nat.le_of_ble_eq_true rfl)⟩ rfl rfl (chkT_eq ev5) (ct_X7_yardBehind ev4) rfl rfl (Nat.le_of_ble_eq_true rfl) ?_
        refine wp_aload_n (i := 0) dX7_share_23 rfl rfl ?_
        refine wp_iload_n (i := 2) dX7_share_24 rfl rfl ?_
        refine wp_iload dX7_share_25 rfl ?_
        obtain ⟨v7, ev7, h⟩ := PI.bind h
        obtain ⟨v6, ev6, h⟩ := PI.bind h
        refine cgV_i (Y' := Y_X7_yardBehind) (kc2 := 0) (ks2 := 0) dX7_share_27 ml_X7_180 ce_X7_yardBehind (t := 7) rfl (by decide) ⟨(Nat.le_of_ble_eq_true rfl), (Nat.le_of_ble_eq_true rfl)⟩ ⟨(Nat.le_of_ble_eq_true rfl), (Nat.le_of_ble_eq_true rfl)⟩ rfl rfl (chkT_eq ev7) (ct_X7_yardBehind ev6) rfl rfl (Nat.le_of_ble_eq_true rfl) ?_
        refine wp_icmp_ne (tgt := 37) dX7_share_30 (by decide) (fun c8 => ?_) (fun c8 => ?_)
        · have h := PI.f c8 h
          refine wp_iconst (v := 0) dX7_share_37 (by decide) ?_
          exact wp_weak [true, true, true, false, true] (w_X7_share_38 ih h)
        · have h := PI.t c8 h
          exact wp_weak [true, true, true, false, true] (w_X7_share_33 ih h)
theorem ct_X7_share {D : DT} {l : Launch} {m : Mem} {x0 : Nat} {x1 : Int32} {x2 : Int32} {r : Int32} (h : F_X7_share x0 x1 x2 m = some r) : Ct D l Y_X7_share [.ref x0, .int x1, .int x2] m (fun (v : Option Value) (N : Mem) => v = some (Value.int r) ∧ N = m) := by
  refine ct_of (by decide) (by rfl) (ls0 := [.ref x0, .int x1, .int x2, JK, JK]) rfl rfl ?_
  have h : PI m (F_X7_share x0 x1 x2 m) (fun (v : Option Value) (N : Mem) => v = some (Value.int r) ∧ N = m) := ⟨r, h, rfl, rfl⟩
  revert h
  generalize (fun (v : Option Value) (N : Mem) => v = some (Value.int r) ∧ N = m) = post
  intro h
  refine wp_iconst (v := 0) dX7_share_0 (by decide) ?_
  refine wp_istore_n (i := 3) dX7_share_1 rfl rfl rfl ?_
  refine wp_iconst (v := 0) dX7_share_2 (by decide) ?_
  refine wp_istore dX7_share_3 rfl rfl ?_
  exact (w_X7_share_5 _ _ _ _ _ _ h)
theorem ct_X7_has {D : DT} {l : Launch} {m : Mem} {x0 : Int32} {x1 : Int32} {r : Int32} (h : F_X7_has x0 x1 = some r) : Ct D l Y_X7_has [.int x0, .int x1] m (fun (v : Option Value) (N : Mem) => v = some (Value.int r) ∧ N = m) := by
  refine ct_of (by decide) (by rfl) (ls0 := [.int x0, .int x1]) rfl rfl ?_
  have h : PI m (F_X7_has x0 x1) (fun (v : Option Value) (N : Mem) => v = some (Value.int r) ∧ N = m) := ⟨r, h, rfl, rfl⟩
  revert h
  generalize (fun (v : Option Value) (N : Mem) => v = some (Value.int r) ∧ N = m) = post
  intro h
  refine wp_iload_n (i := 0) dX7_has_0 rfl rfl ?_
  refine wp_iload_n (i := 1) dX7_has_1 rfl rfl ?_
  refine wp_ishr dX7_has_2 ?_
  refine wp_iconst (v := 1) dX7_has_3 (by decide) ?_
  refine wp_iand dX7_has_4 ?_
  refine wp_iconst (v := 1) dX7_has_5 (by decide) ?_
  refine wp_icmp_ne (tgt := 13) dX7_has_6 (by decide) (fun c1 => ?_) (fun c1 => ?_)
  · have h := PI.f c1 h
    refine wp_iconst (v := 0) dX7_has_13 (by decide) ?_
    exact wp_iret dX7_has_14 rfl (by decide) (Nat.le_of_ble_eq_true rfl) (Nat.le_of_ble_eq_true rfl) (PI.some h)
  · have h := PI.t c1 h
    refine wp_iconst (v := 1) dX7_has_9 (by decide) ?_
    refine wp_goto (tgt := 14) dX7_has_10 (by decide) ?_
    exact wp_iret dX7_has_14 rfl (by decide) (Nat.le_of_ble_eq_true rfl) (Nat.le_of_ble_eq_true rfl) (PI.some h)
theorem w_X7_shy_78 {D : DT} {l : Launch} {post : Option Value → Mem → Prop} {m : Mem} {r28 : Nat → Int32 → Int32 → Int32 → Option Int32} (hr28 : ∀ (x0 : Nat) (x1 : Int32) (x2 : Int32) (x3 : Int32), PI m (r28 x0 x1 x2 x3) post → WP D l Y_X7_shy 0 0 28 [.ref x0, .int x1, .int x2, .int x3] [] m post) {x0 : Nat} {x1 : Int32} {x3 : Int32} {s0 : Int32} {s1 : Int32} (h : PI m (F_X7_shy_78 m r28 x0 x1 x3 s0 s1) post) : WP D l Y_X7_shy 0 0 78 [.ref x0, .int x1, JK, .int x3] [.int s1, .int s0] m post := by
  refine wp_ior dX7_shy_78 ?_
  refine wp_istore_n (i := 2) dX7_shy_79 rfl rfl rfl ?_
  refine wp_iinc (v := 1) dX7_shy_80 rfl (by decide) rfl rfl ?_
  refine wp_goto (tgt := 28) dX7_shy_83 (by decide) ?_
  exact (hr28 _ _ _ _ h)
theorem w_X7_shy_77 {D : DT} {l : Launch} {post : Option Value → Mem → Prop} {m : Mem} {r28 : Nat → Int32 → Int32 → Int32 → Option Int32} (hr28 : ∀ (x0 : Nat) (x1 : Int32) (x2 : Int32) (x3 : Int32), PI m (r28 x0 x1 x2 x3) post → WP D l Y_X7_shy 0 0 28 [.ref x0, .int x1, .int x2, .int x3] [] m post) {x0 : Nat} {x1 : Int32} {x3 : Int32} {s0 : Int32} (h : PI m (F_X7_shy_77 m r28 x0 x1 x3 s0) post) : WP D l Y_X7_shy 0 0 77 [.ref x0, .int x1, JK, .int x3] [.int s0] m post := by
  refine wp_iconst (v := 0) dX7_shy_77 (by decide) ?_
  exact (w_X7_shy_78 hr28 h)
theorem w_X7_shy_108 {D : DT} {l : Launch} {post : Option Value → Mem → Prop} {m : Mem} {x3 : Int32} (h : PI m (F_X7_shy_108 m x3) post) : WP D l Y_X7_shy 0 0 108 [JK, JK, JK, .int x3] [] m post := by
  refine wp_iload_n (i := 3) dX7_shy_108 rfl rfl ?_
  refine wp_bipush (v := 9) dX7_shy_109 (by decide) ?_
  refine wp_icmp_gt (tgt := 118) dX7_shy_111 (by decide) (fun c1 => ?_) (fun c1 => ?_)
  · have h := PI.t c1 h
    refine wp_bipush (v := -4) dX7_shy_118 (by decide) ?_
    exact wp_iret dX7_shy_120 rfl rfl (Nat.le_of_ble_eq_true rfl) (Nat.le_of_ble_eq_true rfl) (PI.some h)
  · have h := PI.f c1 h
    refine wp_iload_n (i := 3) dX7_shy_114 rfl rfl ?_
    refine wp_goto (tgt := 120) dX7_shy_115 (by decide) ?_
    exact wp_iret dX7_shy_120 rfl rfl (Nat.le_of_ble_eq_true rfl) (Nat.le_of_ble_eq_true rfl) (PI.some h)
theorem w_X7_shy_88 {D : DT} {l : Launch} {post : Option Value → Mem → Prop} {m : Mem} : ∀ (n : Nat) (x2 : Int32) (x3 : Int32), PI m (F_X7_shy_88 m n x2 x3) post → WP D l Y_X7_shy 0 0 88 [JK, JK, .int x2, .int x3] [] m post := by
  intro n
  induction n with
  | zero => intro x2 x3 h; exact (PI.none h).elim
  | succ n ih =>
    intro x2 x3 h
    refine wp_iload_n (i := 3) dX7_shy_88 rfl rfl ?_
    refine wp_bipush (v := 9) dX7_shy_89 (by decide) ?_
    refine wp_icmp_gt (tgt := 108) dX7_shy_91 (by decide) (fun c2 => ?_) (fun c2 => ?_)
    · have h := PI.t c2 h
      exact wp_weak [true, true, false, true] (w_X7_shy_108 h)
    · have h := PI.f c2 h
      refine wp_iload_n (i := 2) dX7_shy_94 rfl rfl ?_
      refine wp_iload_n (i := 3) dX7_shy_95 rfl rfl ?_
      obtain ⟨v3, ev3, h⟩ := PI.bind h
      refine cgS_i (Y' := Y_X7_has) (kc2 := 0) (ks2 := 0) dX7_shy_96 ml_X7_195 ce_X7_has ⟨(Nat.le_of_ble_eq_true rfl), (Nat.le_of_ble_eq_true rfl)⟩ ⟨(Nat.le_of_ble_eq_true rfl), (Nat.le_of_ble_eq_true rfl)⟩ rfl rfl (ct_X7_has ev3) rfl rfl (Nat.le_of_ble_eq_true rfl) ?_
      refine wp_if_eq (tgt := 108) dX7_shy_99 (by decide) (fun c4 => ?_) (fun c4 => ?_)
      · have h := PI.t c4 h
        exact wp_weak [true, true, false, true] (w_X7_shy_108 h)
      · have h := PI.f c4 h
        refine wp_iinc (v := 1) dX7_shy_102 rfl (by decide) rfl rfl ?_
        refine wp_goto (tgt := 88) dX7_shy_105 (by decide) ?_
        exact (ih _ _ h)
theorem w_X7_shy_28 {D : DT} {l : Launch} {post : Option Value → Mem → Prop} {m : Mem} : ∀ (n : Nat) (x0 : Nat) (x1 : Int32) (x2 : Int32) (x3 : Int32), PI m (F_X7_shy_28 m n x0 x1 x2 x3) post → WP D l Y_X7_shy 0 0 28 [.ref x0, .int x1, .int x2, .int x3] [] m post := by
  intro n
  induction n with
  | zero => intro x0 x1 x2 x3 h; exact (PI.none h).elim
  | succ n ih =>
    intro x0 x1 x2 x3 h
    refine wp_iload_n (i := 3) dX7_shy_28 rfl rfl ?_
    refine wp_aload_n (i := 0) dX7_shy_29 rfl rfl ?_
    obtain ⟨v5, ev5, h⟩ := PI.bind h
    refine wp_getI cl7 (f := 0) (by decide) rfl fl_X7_68 dX7_shy_30 ev5 ?_
    refine wp_icmp_ge (tgt := 86) dX7_shy_33 (by decide) (fun c6 => ?_) (fun c6 => ?_)
    · have h := PI.t c6 h
      refine wp_iconst (v := 1) dX7_shy_86 (by decide) ?_
      refine wp_istore_n (i := 3) dX7_shy_87 rfl rfl rfl ?_
      exact wp_weak [false, false, true, true] (w_X7_shy_88 _ _ _ h)
    · have h := PI.f c6 h
      refine wp_iload_n (i := 2) dX7_shy_36 rfl rfl ?_
      refine wp_iload_n (i := 3) dX7_shy_37 rfl rfl ?_
      refine wp_iload_n (i := 1) dX7_shy_38 rfl rfl ?_
      refine wp_icmp_eq (tgt := 77) dX7_shy_39 (by decide) (fun c7 => ?_) (fun c7 => ?_)
      · have h := PI.t c7 h
        exact wp_weak [true, true, false, true] (w_X7_shy_77 ih h)
      · have h := PI.f c7 h
        refine wp_aload_n (i := 0) dX7_shy_42 rfl rfl ?_
        obtain ⟨v8, ev8, h⟩ := PI.bind h
        refine wp_getR cl7 (f := 4) (by decide) rfl fl_X7_13 dX7_shy_43 ev8 ?_
        refine wp_iload_n (i := 3) dX7_shy_46 rfl rfl ?_
        obtain ⟨v9, ev9, h⟩ := PI.bind h
        refine wp_iaload dX7_shy_47 ev9 ?_
        refine wp_aload_n (i := 0) dX7_shy_48 rfl rfl ?_
        obtain ⟨v10, ev10, h⟩ := PI.bind h
        refine wp_getR cl7 (f := 4) (by decide) rfl fl_X7_13 dX7_shy_49 ev10 ?_
        refine wp_iload_n (i := 1) dX7_shy_52 rfl rfl ?_
        obtain ⟨v11, ev11, h⟩ := PI.bind h
        refine wp_iaload dX7_shy_53 ev11 ?_
        refine wp_icmp_ne (tgt := 77) dX7_shy_54 (by decide) (fun c12 => ?_) (fun c12 => ?_)
        · have h := PI.f c12 h
          exact wp_weak [true, true, false, true] (w_X7_shy_77 ih h)
        · have h := PI.t c12 h
          refine wp_aload_n (i := 0) dX7_shy_57 rfl rfl ?_
          refine wp_iload_n (i := 1) dX7_shy_58 rfl rfl ?_
          refine wp_iload_n (i := 3) dX7_shy_59 rfl rfl ?_
          obtain ⟨v14, ev14, h⟩ := PI.bind h
          obtain ⟨v13, ev13, h⟩ := PI.bind h
          refine cgV_i (Y' := Y_X7_share) (kc2 := 0) (ks2 := 0) dX7_shy_60 ml_X7_192 ce_X7_share (t := 7) rfl (by decide) ⟨(Nat.le_of_ble_eq_true rfl), (Nat.le_of_ble_eq_true rfl)⟩ ⟨(Nat.le_of_ble_eq_true rfl), (Nat.le_of_ble_eq_true rfl)⟩ rfl rfl (chkT_eq ev14) (ct_X7_share ev13) rfl rfl (Nat.le_of_ble_eq_true rfl) ?_
          refine wp_if_eq (tgt := 77) dX7_shy_63 (by decide) (fun c15 => ?_) (fun c15 => ?_)
          · have h := PI.t c15 h
            exact wp_weak [true, true, false, true] (w_X7_shy_77 ih h)
          · have h := PI.f c15 h
            refine wp_iconst (v := 1) dX7_shy_66 (by decide) ?_
            refine wp_aload_n (i := 0) dX7_shy_67 rfl rfl ?_
            obtain ⟨v16, ev16, h⟩ := PI.bind h
            refine wp_getR cl7 (f := 5) (by decide) rfl fl_X7_16 dX7_shy_68 ev16 ?_
            refine wp_iload_n (i := 3) dX7_shy_71 rfl rfl ?_
            obtain ⟨v17, ev17, h⟩ := PI.bind h
            refine wp_iaload dX7_shy_72 ev17 ?_
            refine wp_ishl dX7_shy_73 ?_
            refine wp_goto (tgt := 78) dX7_shy_74 (by decide) ?_
            exact wp_weak [true, true, false, true] (w_X7_shy_78 ih h)
theorem ct_X7_shy {D : DT} {l : Launch} {m : Mem} {x0 : Nat} {x1 : Int32} {r : Int32} (h : F_X7_shy x0 x1 m = some r) : Ct D l Y_X7_shy [.ref x0, .int x1] m (fun (v : Option Value) (N : Mem) => v = some (Value.int r) ∧ N = m) := by
  refine ct_of (by decide) (by rfl) (ls0 := [.ref x0, .int x1, JK, JK]) rfl rfl ?_
  have h : PI m (F_X7_shy x0 x1 m) (fun (v : Option Value) (N : Mem) => v = some (Value.int r) ∧ N = m) := ⟨r, h, rfl, rfl⟩
  revert h
  generalize (fun (v : Option Value) (N : Mem) => v = some (Value.int r) ∧ N = m) = post
  intro h
  refine wp_aload_n (i := 0) dX7_shy_0 rfl rfl ?_
  refine wp_iload_n (i := 1) dX7_shy_1 rfl rfl ?_
  obtain ⟨v19, ev19, h⟩ := PI.bind h
  obtain ⟨v18, ev18, h⟩ := PI.bind h
  refine cgV_i (Y' := Y_X7_isPerson) (kc2 := 0) (ks2 := 0) dX7_shy_2 ml_X7_146 ce_X7_isPerson (t := 7) rfl (by decide) ⟨(Nat.le_of_ble_eq_true rfl), (Nat.le_of_ble_eq_true rfl)⟩ ⟨(Nat.le_of_ble_eq_true rfl), (Nat.le_of_ble_eq_true rfl)⟩ rfl rfl (chkT_eq ev19) (ct_X7_isPerson ev18) rfl rfl (Nat.le_of_ble_eq_true rfl) ?_
  refine wp_if_ne (tgt := 10) dX7_shy_5 (by decide) (fun c20 => ?_) (fun c20 => ?_)
  · have h := PI.f c20 h
    refine wp_aload_n (i := 0) dX7_shy_10 rfl rfl ?_
    obtain ⟨v21, ev21, h⟩ := PI.bind h
    refine wp_getR cl7 (f := 4) (by decide) rfl fl_X7_13 dX7_shy_11 ev21 ?_
    refine wp_iload_n (i := 1) dX7_shy_14 rfl rfl ?_
    obtain ⟨v22, ev22, h⟩ := PI.bind h
    refine wp_iaload dX7_shy_15 ev22 ?_
    refine wp_bipush (v := -4) dX7_shy_16 (by decide) ?_
    refine wp_icmp_ne (tgt := 24) dX7_shy_18 (by decide) (fun c23 => ?_) (fun c23 => ?_)
    · have h := PI.f c23 h
      refine wp_iconst (v := 0) dX7_shy_24 (by decide) ?_
      refine wp_istore_n (i := 2) dX7_shy_25 rfl rfl rfl ?_
      refine wp_iconst (v := 0) dX7_shy_26 (by decide) ?_
      refine wp_istore_n (i := 3) dX7_shy_27 rfl rfl rfl ?_
      exact (w_X7_shy_28 _ _ _ _ _ h)
    · have h := PI.t c23 h
      refine wp_bipush (v := -2) dX7_shy_21 (by decide) ?_
      exact wp_iret dX7_shy_23 rfl rfl (Nat.le_of_ble_eq_true rfl) (Nat.le_of_ble_eq_true rfl) (PI.some h)
  · have h := PI.t c20 h
    refine wp_iconst (v := -1) dX7_shy_8 (by decide) ?_
    exact wp_iret dX7_shy_9 rfl rfl (Nat.le_of_ble_eq_true rfl) (Nat.le_of_ble_eq_true rfl) (PI.some h)
theorem w_X7_setGuests_45 {D : DT} {l : Launch} {post : Option Value → Mem → Prop} {r7 : Nat → Int32 → Int32 → Mem → Option Mem} (hr7 : ∀ (x0 : Nat) (x1 : Int32) (x2 : Int32) (m : Mem), HV (r7 x0 x1 x2 m) post → WP D l Y_X7_setGuests 0 0 7 [.ref x0, .int x1, .int x2, JK] [] m post) {x0 : Nat} {x1 : Int32} {x2 : Int32} {m : Mem} (h : HV (F_X7_setGuests_45 r7 x0 x1 x2 m) post) : WP D l Y_X7_setGuests 0 0 45 [.ref x0, .int x1, .int x2, JK] [] m post := by
  refine wp_iinc (v := 1) dX7_setGuests_45 rfl (by decide) rfl rfl ?_
  refine wp_goto (tgt := 7) dX7_setGuests_48 (by decide) ?_
  exact (hr7 _ _ _ _ h)
theorem w_X7_setGuests_116 {D : DT} {l : Launch} {post : Option Value → Mem → Prop} {r53 : Nat → Int32 → Mem → Option Mem} {r70 : Nat → Int32 → Int32 → Mem → Option Mem} (hr53 : ∀ (x0 : Nat) (x2 : Int32) (m : Mem), HV (r53 x0 x2 m) post → WP D l Y_X7_setGuests 0 0 53 [.ref x0, JK, .int x2, JK] [] m post) (hr70 : ∀ (x0 : Nat) (x2 : Int32) (x3 : Int32) (m : Mem), HV (r70 x0 x2 x3 m) post → WP D l Y_X7_setGuests 0 0 70 [.ref x0, JK, .int x2, .int x3] [] m post) {x0 : Nat} {x2 : Int32} {x3 : Int32} {s0 : Nat} {s1 : Int32} {s2 : Int32} {s3 : Int32} {m : Mem} (h : HV (F_X7_setGuests_116 r53 r70 x0 x2 x3 s0 s1 s2 s3 m) post) : WP D l Y_X7_setGuests 0 0 116 [.ref x0, JK, .int x2, .int x3] [.int s3, .int s2, .int s1, .ref s0] m post := by
  refine wp_ior dX7_setGuests_116 ?_
  obtain ⟨m1, em1, h⟩ := HV.bind h
  refine wp_iastore dX7_setGuests_117 em1 ?_
  refine wp_iinc (v := 1) dX7_setGuests_118 rfl (by decide) rfl rfl ?_
  refine wp_goto (tgt := 70) dX7_setGuests_121 (by decide) ?_
  exact (hr70 _ _ _ _ h)
theorem w_X7_setGuests_115 {D : DT} {l : Launch} {post : Option Value → Mem → Prop} {r53 : Nat → Int32 → Mem → Option Mem} {r70 : Nat → Int32 → Int32 → Mem → Option Mem} (hr53 : ∀ (x0 : Nat) (x2 : Int32) (m : Mem), HV (r53 x0 x2 m) post → WP D l Y_X7_setGuests 0 0 53 [.ref x0, JK, .int x2, JK] [] m post) (hr70 : ∀ (x0 : Nat) (x2 : Int32) (x3 : Int32) (m : Mem), HV (r70 x0 x2 x3 m) post → WP D l Y_X7_setGuests 0 0 70 [.ref x0, JK, .int x2, .int x3] [] m post) {x0 : Nat} {x2 : Int32} {x3 : Int32} {s0 : Nat} {s1 : Int32} {s2 : Int32} {m : Mem} (h : HV (F_X7_setGuests_115 r53 r70 x0 x2 x3 s0 s1 s2 m) post) : WP D l Y_X7_setGuests 0 0 115 [.ref x0, JK, .int x2, .int x3] [.int s2, .int s1, .ref s0] m post := by
  refine wp_iconst (v := 0) dX7_setGuests_115 (by decide) ?_
  exact (w_X7_setGuests_116 hr53 hr70 h)
theorem w_X7_setGuests_70 {D : DT} {l : Launch} {post : Option Value → Mem → Prop} {r53 : Nat → Int32 → Mem → Option Mem} (hr53 : ∀ (x0 : Nat) (x2 : Int32) (m : Mem), HV (r53 x0 x2 m) post → WP D l Y_X7_setGuests 0 0 53 [.ref x0, JK, .int x2, JK] [] m post) : ∀ (n : Nat) (x0 : Nat) (x2 : Int32) (x3 : Int32) (m : Mem), HV (F_X7_setGuests_70 r53 n x0 x2 x3 m) post → WP D l Y_X7_setGuests 0 0 70 [.ref x0, JK, .int x2, .int x3] [] m post := by
  intro n
  induction n with
  | zero => intro x0 x2 x3 m h; exact (HV.none h).elim
  | succ n ih =>
    intro x0 x2 x3 m h
    refine wp_iload_n (i := 3) dX7_setGuests_70 rfl rfl ?_
    refine wp_aload_n (i := 0) dX7_setGuests_71 rfl rfl ?_
    obtain ⟨v2, ev2, h⟩ := HV.bind h
    refine wp_getI cl7 (f := 24) (by decide) rfl fl_X7_198 dX7_setGuests_72 ev2 ?_
    refine wp_icmp_ge (tgt := 124) dX7_setGuests_75 (by decide) (fun c3 => ?_) (fun c3 => ?_)
    · have h := HV.t c3 h
      refine wp_iinc (v := 1) dX7_setGuests_124 rfl (by decide) rfl rfl ?_
      refine wp_goto (tgt := 53) dX7_setGuests_127 (by decide) ?_
      exact wp_weak [true, true, true, false] (hr53 _ _ _ h)
    · have h := HV.f c3 h
      refine wp_aload_n (i := 0) dX7_setGuests_78 rfl rfl ?_
      obtain ⟨v4, ev4, h⟩ := HV.bind h
      refine wp_getR cl7 (f := 26) (by decide) rfl fl_X7_55 dX7_setGuests_79 ev4 ?_
      refine wp_iload_n (i := 2) dX7_setGuests_82 rfl rfl ?_
      refine wp_dup2 dX7_setGuests_83 rfl rfl ?_
      obtain ⟨v5, ev5, h⟩ := HV.bind h
      refine wp_iaload dX7_setGuests_84 ev5 ?_
      refine wp_iload_n (i := 2) dX7_setGuests_85 rfl rfl ?_
      refine wp_iload_n (i := 3) dX7_setGuests_86 rfl rfl ?_
      refine wp_icmp_eq (tgt := 115) dX7_setGuests_87 (by decide) (fun c6 => ?_) (fun c6 => ?_)
      · have h := HV.t c6 h
        exact (w_X7_setGuests_115 hr53 ih h)
      · have h := HV.f c6 h
        refine wp_aload_n (i := 0) dX7_setGuests_90 rfl rfl ?_
        refine wp_aload_n (i := 0) dX7_setGuests_91 rfl rfl ?_
        obtain ⟨v7, ev7, h⟩ := HV.bind h
        refine wp_getR cl7 (f := 25) (by decide) rfl fl_X7_52 dX7_setGuests_92 ev7 ?_
        refine wp_iload_n (i := 2) dX7_setGuests_95 rfl rfl ?_
        obtain ⟨v8, ev8, h⟩ := HV.bind h
        refine wp_iaload dX7_setGuests_96 ev8 ?_
        refine wp_aload_n (i := 0) dX7_setGuests_97 rfl rfl ?_
        obtain ⟨v9, ev9, h⟩ := HV.bind h
        refine wp_getR cl7 (f := 25) (by decide) rfl fl_X7_52 dX7_setGuests_98 ev9 ?_
        refine wp_iload_n (i := 3) dX7_setGuests_101 rfl rfl ?_
        obtain ⟨v10, ev10, h⟩ := HV.bind h
        refine wp_iaload dX7_setGuests_102 ev10 ?_
        obtain ⟨v12, ev12, h⟩ := HV.bind h
        obtain ⟨v11, ev11, h⟩ := HV.bind h
        refine cgV_i (Y' := Y_X7_share) (kc2 := 0) (ks2 := 0) dX7_setGuests_103 ml_X7_192 ce_X7_share (t := 7) rfl (by decide) ⟨(Nat.le_of_ble_eq_true rfl), (Nat.le_of_ble_eq_true rfl)⟩ ⟨(Nat.le_of_ble_eq_true rfl), (Nat.le_of_ble_eq_true rfl)⟩ rfl rfl (chkT_eq ev12) (ct_X7_share ev11) rfl rfl (Nat.le_of_ble_eq_true rfl) ?_
        refine wp_if_eq (tgt := 115) dX7_setGuests_106 (by decide) (fun c13 => ?_) (fun c13 => ?_)
        · have h := HV.t c13 h
          exact (w_X7_setGuests_115 hr53 ih h)
        · have h := HV.f c13 h
          refine wp_iconst (v := 1) dX7_setGuests_109 (by decide) ?_
          refine wp_iload_n (i := 3) dX7_setGuests_110 rfl rfl ?_
          refine wp_ishl dX7_setGuests_111 ?_
          refine wp_goto (tgt := 116) dX7_setGuests_112 (by decide) ?_
          exact (w_X7_setGuests_116 hr53 ih h)
theorem w_X7_setGuests_53 {D : DT} {l : Launch} {post : Option Value → Mem → Prop} : ∀ (n : Nat) (x0 : Nat) (x2 : Int32) (m : Mem), HV (F_X7_setGuests_53 n x0 x2 m) post → WP D l Y_X7_setGuests 0 0 53 [.ref x0, JK, .int x2, JK] [] m post := by
  intro n
  induction n with
  | zero => intro x0 x2 m h; exact (HV.none h).elim
  | succ n ih =>
    intro x0 x2 m h
    refine wp_iload_n (i := 2) dX7_setGuests_53 rfl rfl ?_
    refine wp_aload_n (i := 0) dX7_setGuests_54 rfl rfl ?_
    obtain ⟨v14, ev14, h⟩ := HV.bind h
    refine wp_getI cl7 (f := 24) (by decide) rfl fl_X7_198 dX7_setGuests_55 ev14 ?_
    refine wp_icmp_ge (tgt := 130) dX7_setGuests_58 (by decide) (fun c15 => ?_) (fun c15 => ?_)
    · have h := HV.t c15 h
      exact wp_vret dX7_setGuests_130 rfl (Nat.le_of_ble_eq_true rfl) (Nat.le_of_ble_eq_true rfl) (HV.some h)
    · have h := HV.f c15 h
      refine wp_aload_n (i := 0) dX7_setGuests_61 rfl rfl ?_
      obtain ⟨v16, ev16, h⟩ := HV.bind h
      refine wp_getR cl7 (f := 26) (by decide) rfl fl_X7_55 dX7_setGuests_62 ev16 ?_
      refine wp_iload_n (i := 2) dX7_setGuests_65 rfl rfl ?_
      refine wp_iconst (v := 0) dX7_setGuests_66 (by decide) ?_
      obtain ⟨m17, em17, h⟩ := HV.bind h
      refine wp_iastore dX7_setGuests_67 em17 ?_
      refine wp_iconst (v := 0) dX7_setGuests_68 (by decide) ?_
      refine wp_istore_n (i := 3) dX7_setGuests_69 rfl rfl rfl ?_
      exact (w_X7_setGuests_70 ih _ _ _ _ _ h)
theorem w_X7_setGuests_7 {D : DT} {l : Launch} {post : Option Value → Mem → Prop} : ∀ (n : Nat) (x0 : Nat) (x1 : Int32) (x2 : Int32) (m : Mem), HV (F_X7_setGuests_7 n x0 x1 x2 m) post → WP D l Y_X7_setGuests 0 0 7 [.ref x0, .int x1, .int x2, JK] [] m post := by
  intro n
  induction n with
  | zero => intro x0 x1 x2 m h; exact (HV.none h).elim
  | succ n ih =>
    intro x0 x1 x2 m h
    refine wp_iload_n (i := 2) dX7_setGuests_7 rfl rfl ?_
    refine wp_aload_n (i := 0) dX7_setGuests_8 rfl rfl ?_
    obtain ⟨v18, ev18, h⟩ := HV.bind h
    refine wp_getI cl7 (f := 0) (by decide) rfl fl_X7_68 dX7_setGuests_9 ev18 ?_
    refine wp_icmp_ge (tgt := 51) dX7_setGuests_12 (by decide) (fun c19 => ?_) (fun c19 => ?_)
    · have h := HV.t c19 h
      refine wp_iconst (v := 0) dX7_setGuests_51 (by decide) ?_
      refine wp_istore_n (i := 2) dX7_setGuests_52 rfl rfl rfl ?_
      exact wp_weak [true, false, true, true] (w_X7_setGuests_53 _ _ _ _ h)
    · have h := HV.f c19 h
      refine wp_aload_n (i := 0) dX7_setGuests_15 rfl rfl ?_
      obtain ⟨v20, ev20, h⟩ := HV.bind h
      refine wp_getR cl7 (f := 4) (by decide) rfl fl_X7_13 dX7_setGuests_16 ev20 ?_
      refine wp_iload_n (i := 2) dX7_setGuests_19 rfl rfl ?_
      obtain ⟨v21, ev21, h⟩ := HV.bind h
      refine wp_iaload dX7_setGuests_20 ev21 ?_
      refine wp_iload_n (i := 1) dX7_setGuests_21 rfl rfl ?_
      refine wp_icmp_ne (tgt := 45) dX7_setGuests_22 (by decide) (fun c22 => ?_) (fun c22 => ?_)
      · have h := HV.f c22 h
        exact (w_X7_setGuests_45 ih h)
      · have h := HV.t c22 h
        refine wp_aload_n (i := 0) dX7_setGuests_25 rfl rfl ?_
        obtain ⟨v23, ev23, h⟩ := HV.bind h
        refine wp_getR cl7 (f := 25) (by decide) rfl fl_X7_52 dX7_setGuests_26 ev23 ?_
        refine wp_aload_n (i := 0) dX7_setGuests_29 rfl rfl ?_
        obtain ⟨v24, ev24, h⟩ := HV.bind h
        refine wp_getI cl7 (f := 24) (by decide) rfl fl_X7_198 dX7_setGuests_30 ev24 ?_
        refine wp_iload_n (i := 2) dX7_setGuests_33 rfl rfl ?_
        obtain ⟨m25, em25, h⟩ := HV.bind h
        refine wp_iastore dX7_setGuests_34 em25 ?_
        refine wp_aload_n (i := 0) dX7_setGuests_35 rfl rfl ?_
        refine wp_dup dX7_setGuests_36 rfl ?_
        obtain ⟨v26, ev26, h⟩ := HV.bind h
        refine wp_getI cl7 (f := 24) (by decide) rfl fl_X7_198 dX7_setGuests_37 ev26 ?_
        refine wp_iconst (v := 1) dX7_setGuests_40 (by decide) ?_
        refine wp_iadd dX7_setGuests_41 ?_
        obtain ⟨m27, em27, h⟩ := HV.bind h
        refine wp_putI cl7 (f := 24) (by decide) rfl fl_X7_198 (Or.inl rfl) dX7_setGuests_42 em27 ?_
        exact (w_X7_setGuests_45 ih h)
theorem ct_X7_setGuests {D : DT} {l : Launch} {m : Mem} {x0 : Nat} {x1 : Int32} {r : Mem} (h : F_X7_setGuests x0 x1 m = some r) : Ct D l Y_X7_setGuests [.ref x0, .int x1] m (fun (v : Option Value) (N : Mem) => v = none ∧ N = r) := by
  refine ct_of (by decide) (by rfl) (ls0 := [.ref x0, .int x1, JK, JK]) rfl rfl ?_
  have h : HV (F_X7_setGuests x0 x1 m) (fun (v : Option Value) (N : Mem) => v = none ∧ N = r) := ⟨r, h, rfl, rfl⟩
  revert h
  generalize (fun (v : Option Value) (N : Mem) => v = none ∧ N = r) = post
  intro h
  refine wp_aload_n (i := 0) dX7_setGuests_0 rfl rfl ?_
  refine wp_iconst (v := 0) dX7_setGuests_1 (by decide) ?_
  obtain ⟨m28, em28, h⟩ := HV.bind h
  refine wp_putI cl7 (f := 24) (by decide) rfl fl_X7_198 (Or.inl rfl) dX7_setGuests_2 em28 ?_
  refine wp_iconst (v := 0) dX7_setGuests_5 (by decide) ?_
  refine wp_istore_n (i := 2) dX7_setGuests_6 rfl rfl rfl ?_
  exact (w_X7_setGuests_7 _ _ _ _ _ h)
theorem w_X7_nextWidth_33 {D : DT} {l : Launch} {post : Option Value → Mem → Prop} {m : Mem} {r5 : Nat → Int32 → Int32 → Int32 → Int32 → Option Int32} (hr5 : ∀ (x0 : Nat) (x1 : Int32) (x2 : Int32) (x3 : Int32) (x4 : Int32), PI m (r5 x0 x1 x2 x3 x4) post → WP D l Y_X7_nextWidth 0 0 5 [.ref x0, .int x1, .int x2, .int x3, .int x4, JK, JK, JK] [] m post) {x0 : Nat} {x1 : Int32} {x2 : Int32} {x4 : Int32} {s0 : Int32} (h : PI m (F_X7_nextWidth_33 m r5 x0 x1 x2 x4 s0) post) : WP D l Y_X7_nextWidth 0 0 33 [.ref x0, .int x1, .int x2, JK, .int x4, JK, JK, JK] [.int s0] m post := by
  refine wp_istore_n (i := 3) dX7_nextWidth_33 rfl rfl rfl ?_
  refine wp_iinc (v := 1) dX7_nextWidth_34 rfl (by decide) rfl rfl ?_
  refine wp_goto (tgt := 5) dX7_nextWidth_37 (by decide) ?_
  exact (hr5 _ _ _ _ _ h)
theorem w_X7_nextWidth_121 {D : DT} {l : Launch} {post : Option Value → Mem → Prop} {m : Mem} {r66 : Nat → Int32 → Int32 → Int32 → Option Int32} {r79 : Nat → Int32 → Int32 → Int32 → Int32 → Int32 → Option Int32} (hr66 : ∀ (x0 : Nat) (x1 : Int32) (x4 : Int32) (x5 : Int32), PI m (r66 x0 x1 x4 x5) post → WP D l Y_X7_nextWidth 0 0 66 [.ref x0, .int x1, JK, JK, .int x4, .int x5, JK, JK] [] m post) (hr79 : ∀ (x0 : Nat) (x1 : Int32) (x4 : Int32) (x5 : Int32) (x6 : Int32) (x7 : Int32), PI m (r79 x0 x1 x4 x5 x6 x7) post → WP D l Y_X7_nextWidth 0 0 79 [.ref x0, .int x1, JK, JK, .int x4, .int x5, .int x6, .int x7] [] m post) {x0 : Nat} {x1 : Int32} {x4 : Int32} {x5 : Int32} {x7 : Int32} {s0 : Int32} (h : PI m (F_X7_nextWidth_121 m r66 r79 x0 x1 x4 x5 x7 s0) post) : WP D l Y_X7_nextWidth 0 0 121 [.ref x0, .int x1, JK, JK, .int x4, .int x5, JK, .int x7] [.int s0] m post := by
  refine wp_istore dX7_nextWidth_121 rfl rfl ?_
  refine wp_iinc (v := 1) dX7_nextWidth_123 rfl (by decide) rfl rfl ?_
  refine wp_goto (tgt := 79) dX7_nextWidth_126 (by decide) ?_
  exact (hr79 _ _ _ _ _ _ h)
theorem w_X7_nextWidth_116 {D : DT} {l : Launch} {post : Option Value → Mem → Prop} {m : Mem} {r66 : Nat → Int32 → Int32 → Int32 → Option Int32} {r79 : Nat → Int32 → Int32 → Int32 → Int32 → Int32 → Option Int32} (hr66 : ∀ (x0 : Nat) (x1 : Int32) (x4 : Int32) (x5 : Int32), PI m (r66 x0 x1 x4 x5) post → WP D l Y_X7_nextWidth 0 0 66 [.ref x0, .int x1, JK, JK, .int x4, .int x5, JK, JK] [] m post) (hr79 : ∀ (x0 : Nat) (x1 : Int32) (x4 : Int32) (x5 : Int32) (x6 : Int32) (x7 : Int32), PI m (r79 x0 x1 x4 x5 x6 x7) post → WP D l Y_X7_nextWidth 0 0 79 [.ref x0, .int x1, JK, JK, .int x4, .int x5, .int x6, .int x7] [] m post) {x0 : Nat} {x1 : Int32} {x4 : Int32} {x5 : Int32} {x7 : Int32} (h : PI m (F_X7_nextWidth_116 m r66 r79 x0 x1 x4 x5 x7) post) : WP D l Y_X7_nextWidth 0 0 116 [.ref x0, .int x1, JK, JK, .int x4, .int x5, JK, .int x7] [] m post := by
  refine wp_iconst (v := 1) dX7_nextWidth_116 (by decide) ?_
  refine wp_goto (tgt := 121) dX7_nextWidth_117 (by decide) ?_
  exact (w_X7_nextWidth_121 hr66 hr79 h)
theorem w_X7_nextWidth_120 {D : DT} {l : Launch} {post : Option Value → Mem → Prop} {m : Mem} {r66 : Nat → Int32 → Int32 → Int32 → Option Int32} {r79 : Nat → Int32 → Int32 → Int32 → Int32 → Int32 → Option Int32} (hr66 : ∀ (x0 : Nat) (x1 : Int32) (x4 : Int32) (x5 : Int32), PI m (r66 x0 x1 x4 x5) post → WP D l Y_X7_nextWidth 0 0 66 [.ref x0, .int x1, JK, JK, .int x4, .int x5, JK, JK] [] m post) (hr79 : ∀ (x0 : Nat) (x1 : Int32) (x4 : Int32) (x5 : Int32) (x6 : Int32) (x7 : Int32), PI m (r79 x0 x1 x4 x5 x6 x7) post → WP D l Y_X7_nextWidth 0 0 79 [.ref x0, .int x1, JK, JK, .int x4, .int x5, .int x6, .int x7] [] m post) {x0 : Nat} {x1 : Int32} {x4 : Int32} {x5 : Int32} {x7 : Int32} (h : PI m (F_X7_nextWidth_120 m r66 r79 x0 x1 x4 x5 x7) post) : WP D l Y_X7_nextWidth 0 0 120 [.ref x0, .int x1, JK, JK, .int x4, .int x5, JK, .int x7] [] m post := by
  refine wp_iconst (v := 0) dX7_nextWidth_120 (by decide) ?_
  exact (w_X7_nextWidth_121 hr66 hr79 h)
theorem w_X7_nextWidth_79 {D : DT} {l : Launch} {post : Option Value → Mem → Prop} {m : Mem} {r66 : Nat → Int32 → Int32 → Int32 → Option Int32} (hr66 : ∀ (x0 : Nat) (x1 : Int32) (x4 : Int32) (x5 : Int32), PI m (r66 x0 x1 x4 x5) post → WP D l Y_X7_nextWidth 0 0 66 [.ref x0, .int x1, JK, JK, .int x4, .int x5, JK, JK] [] m post) : ∀ (n : Nat) (x0 : Nat) (x1 : Int32) (x4 : Int32) (x5 : Int32) (x6 : Int32) (x7 : Int32), PI m (F_X7_nextWidth_79 m r66 n x0 x1 x4 x5 x6 x7) post → WP D l Y_X7_nextWidth 0 0 79 [.ref x0, .int x1, JK, JK, .int x4, .int x5, .int x6, .int x7] [] m post := by
  intro n
  induction n with
  | zero => intro x0 x1 x4 x5 x6 x7 h; exact (PI.none h).elim
  | succ n ih =>
    intro x0 x1 x4 x5 x6 x7 h
    refine wp_iload dX7_nextWidth_79 rfl ?_
    refine wp_iload_n (i := 1) dX7_nextWidth_81 rfl rfl ?_
    refine wp_icmp_ge (tgt := 129) dX7_nextWidth_82 (by decide) (fun c1 => ?_) (fun c1 => ?_)
    · have h := PI.t c1 h
      refine wp_iload dX7_nextWidth_129 rfl ?_
      refine wp_if_eq (tgt := 137) dX7_nextWidth_131 (by decide) (fun c2 => ?_) (fun c2 => ?_)
      · have h := PI.t c2 h
        refine wp_iinc (v := 1) dX7_nextWidth_137 rfl (by decide) rfl rfl ?_
        refine wp_goto (tgt := 66) dX7_nextWidth_140 (by decide) ?_
        exact wp_weak [true, true, true, true, true, true, false, false] (hr66 _ _ _ _ h)
      · have h := PI.f c2 h
        refine wp_iload dX7_nextWidth_134 rfl ?_
        exact wp_iret dX7_nextWidth_136 rfl rfl (Nat.le_of_ble_eq_true rfl) (Nat.le_of_ble_eq_true rfl) (PI.some h)
    · have h := PI.f c1 h
      refine wp_iload dX7_nextWidth_85 rfl ?_
      refine wp_if_eq (tgt := 120) dX7_nextWidth_87 (by decide) (fun c3 => ?_) (fun c3 => ?_)
      · have h := PI.t c3 h
        exact wp_weak [true, true, true, true, true, true, false, true] (w_X7_nextWidth_120 hr66 ih h)
      · have h := PI.f c3 h
        refine wp_aload_n (i := 0) dX7_nextWidth_90 rfl rfl ?_
        obtain ⟨v4, ev4, h⟩ := PI.bind h
        refine wp_getR cl7 (f := 26) (by decide) rfl fl_X7_55 dX7_nextWidth_91 ev4 ?_
        refine wp_iload_n (i := 1) dX7_nextWidth_94 rfl rfl ?_
        obtain ⟨v5, ev5, h⟩ := PI.bind h
        refine wp_iaload dX7_nextWidth_95 ev5 ?_
        refine wp_iload dX7_nextWidth_96 rfl ?_
        obtain ⟨v6, ev6, h⟩ := PI.bind h
        refine cgS_i (Y' := Y_X7_has) (kc2 := 0) (ks2 := 0) dX7_nextWidth_98 ml_X7_195 ce_X7_has ⟨(Nat.le_of_ble_eq_true rfl), (Nat.le_of_ble_eq_true rfl)⟩ ⟨(Nat.le_of_ble_eq_true rfl), (Nat.le_of_ble_eq_true rfl)⟩ rfl rfl (ct_X7_has ev6) rfl rfl (Nat.le_of_ble_eq_true rfl) ?_
        refine wp_if_eq (tgt := 116) dX7_nextWidth_101 (by decide) (fun c7 => ?_) (fun c7 => ?_)
        · have h := PI.t c7 h
          exact wp_weak [true, true, true, true, true, true, false, true] (w_X7_nextWidth_116 hr66 ih h)
        · have h := PI.f c7 h
          refine wp_aload_n (i := 0) dX7_nextWidth_104 rfl rfl ?_
          obtain ⟨v8, ev8, h⟩ := PI.bind h
          refine wp_getR cl7 (f := 27) (by decide) rfl fl_X7_58 dX7_nextWidth_105 ev8 ?_
          refine wp_iload dX7_nextWidth_108 rfl ?_
          obtain ⟨v9, ev9, h⟩ := PI.bind h
          refine wp_iaload dX7_nextWidth_110 ev9 ?_
          refine wp_iload dX7_nextWidth_111 rfl ?_
          refine wp_icmp_eq (tgt := 120) dX7_nextWidth_113 (by decide) (fun c10 => ?_) (fun c10 => ?_)
          · have h := PI.t c10 h
            exact wp_weak [true, true, true, true, true, true, false, true] (w_X7_nextWidth_120 hr66 ih h)
          · have h := PI.f c10 h
            exact wp_weak [true, true, true, true, true, true, false, true] (w_X7_nextWidth_116 hr66 ih h)
theorem w_X7_nextWidth_66 {D : DT} {l : Launch} {post : Option Value → Mem → Prop} {m : Mem} : ∀ (n : Nat) (x0 : Nat) (x1 : Int32) (x4 : Int32) (x5 : Int32), PI m (F_X7_nextWidth_66 m n x0 x1 x4 x5) post → WP D l Y_X7_nextWidth 0 0 66 [.ref x0, .int x1, JK, JK, .int x4, .int x5, JK, JK] [] m post := by
  intro n
  induction n with
  | zero => intro x0 x1 x4 x5 h; exact (PI.none h).elim
  | succ n ih =>
    intro x0 x1 x4 x5 h
    refine wp_iload dX7_nextWidth_66 rfl ?_
    refine wp_iload dX7_nextWidth_68 rfl ?_
    refine wp_icmp_gt (tgt := 143) dX7_nextWidth_70 (by decide) (fun c11 => ?_) (fun c11 => ?_)
    · have h := PI.t c11 h
      refine wp_iconst (v := 0) dX7_nextWidth_143 (by decide) ?_
      exact wp_iret dX7_nextWidth_144 rfl rfl (Nat.le_of_ble_eq_true rfl) (Nat.le_of_ble_eq_true rfl) (PI.some h)
    · have h := PI.f c11 h
      refine wp_iconst (v := 1) dX7_nextWidth_73 (by decide) ?_
      refine wp_istore dX7_nextWidth_74 rfl rfl ?_
      refine wp_iconst (v := 0) dX7_nextWidth_76 (by decide) ?_
      refine wp_istore dX7_nextWidth_77 rfl rfl ?_
      exact (w_X7_nextWidth_79 ih _ _ _ _ _ _ _ h)
theorem w_X7_nextWidth_54 {D : DT} {l : Launch} {post : Option Value → Mem → Prop} {m : Mem} {x0 : Nat} {x1 : Int32} {s0 : Int32} (h : PI m (F_X7_nextWidth_54 m x0 x1 s0) post) : WP D l Y_X7_nextWidth 0 0 54 [.ref x0, .int x1, JK, JK, JK, JK, JK, JK] [.int s0] m post := by
  refine wp_istore dX7_nextWidth_54 rfl rfl ?_
  refine wp_aload_n (i := 0) dX7_nextWidth_56 rfl rfl ?_
  obtain ⟨v12, ev12, h⟩ := PI.bind h
  refine wp_getR cl7 (f := 27) (by decide) rfl fl_X7_58 dX7_nextWidth_57 ev12 ?_
  refine wp_iload_n (i := 1) dX7_nextWidth_60 rfl rfl ?_
  obtain ⟨v13, ev13, h⟩ := PI.bind h
  refine wp_iaload dX7_nextWidth_61 ev13 ?_
  refine wp_iconst (v := 1) dX7_nextWidth_62 (by decide) ?_
  refine wp_iadd dX7_nextWidth_63 ?_
  refine wp_istore dX7_nextWidth_64 rfl rfl ?_
  exact (w_X7_nextWidth_66 _ _ _ _ _ h)
theorem w_X7_nextWidth_5 {D : DT} {l : Launch} {post : Option Value → Mem → Prop} {m : Mem} : ∀ (n : Nat) (x0 : Nat) (x1 : Int32) (x2 : Int32) (x3 : Int32) (x4 : Int32), PI m (F_X7_nextWidth_5 m n x0 x1 x2 x3 x4) post → WP D l Y_X7_nextWidth 0 0 5 [.ref x0, .int x1, .int x2, .int x3, .int x4, JK, JK, JK] [] m post := by
  intro n
  induction n with
  | zero => intro x0 x1 x2 x3 x4 h; exact (PI.none h).elim
  | succ n ih =>
    intro x0 x1 x2 x3 x4 h
    refine wp_iload dX7_nextWidth_5 rfl ?_
    refine wp_iload_n (i := 1) dX7_nextWidth_7 rfl rfl ?_
    refine wp_icmp_ge (tgt := 40) dX7_nextWidth_8 (by decide) (fun c14 => ?_) (fun c14 => ?_)
    · have h := PI.t c14 h
      refine wp_iload_n (i := 3) dX7_nextWidth_40 rfl rfl ?_
      refine wp_iconst (v := 1) dX7_nextWidth_41 (by decide) ?_
      refine wp_iadd dX7_nextWidth_42 ?_
      refine wp_iload_n (i := 2) dX7_nextWidth_43 rfl rfl ?_
      refine wp_icmp_ge (tgt := 53) dX7_nextWidth_44 (by decide) (fun c15 => ?_) (fun c15 => ?_)
      · have h := PI.t c15 h
        refine wp_iload_n (i := 2) dX7_nextWidth_53 rfl rfl ?_
        exact wp_weak [true, true, false, false, false, true, true, true] (w_X7_nextWidth_54 h)
      · have h := PI.f c15 h
        refine wp_iload_n (i := 3) dX7_nextWidth_47 rfl rfl ?_
        refine wp_iconst (v := 1) dX7_nextWidth_48 (by decide) ?_
        refine wp_iadd dX7_nextWidth_49 ?_
        refine wp_goto (tgt := 54) dX7_nextWidth_50 (by decide) ?_
        exact wp_weak [true, true, false, false, false, true, true, true] (w_X7_nextWidth_54 h)
    · have h := PI.f c14 h
      refine wp_aload_n (i := 0) dX7_nextWidth_11 rfl rfl ?_
      obtain ⟨v16, ev16, h⟩ := PI.bind h
      refine wp_getR cl7 (f := 27) (by decide) rfl fl_X7_58 dX7_nextWidth_12 ev16 ?_
      refine wp_iload dX7_nextWidth_15 rfl ?_
      obtain ⟨v17, ev17, h⟩ := PI.bind h
      refine wp_iaload dX7_nextWidth_17 ev17 ?_
      refine wp_iload_n (i := 3) dX7_nextWidth_18 rfl rfl ?_
      refine wp_icmp_le (tgt := 32) dX7_nextWidth_19 (by decide) (fun c18 => ?_) (fun c18 => ?_)
      · have h := PI.t c18 h
        refine wp_iload_n (i := 3) dX7_nextWidth_32 rfl rfl ?_
        exact wp_weak [true, true, true, false, true, true, true, true] (w_X7_nextWidth_33 ih h)
      · have h := PI.f c18 h
        refine wp_aload_n (i := 0) dX7_nextWidth_22 rfl rfl ?_
        obtain ⟨v19, ev19, h⟩ := PI.bind h
        refine wp_getR cl7 (f := 27) (by decide) rfl fl_X7_58 dX7_nextWidth_23 ev19 ?_
        refine wp_iload dX7_nextWidth_26 rfl ?_
        obtain ⟨v20, ev20, h⟩ := PI.bind h
        refine wp_iaload dX7_nextWidth_28 ev20 ?_
        refine wp_goto (tgt := 33) dX7_nextWidth_29 (by decide) ?_
        exact wp_weak [true, true, true, false, true, true, true, true] (w_X7_nextWidth_33 ih h)
theorem ct_X7_nextWidth {D : DT} {l : Launch} {m : Mem} {x0 : Nat} {x1 : Int32} {x2 : Int32} {r : Int32} (h : F_X7_nextWidth x0 x1 x2 m = some r) : Ct D l Y_X7_nextWidth [.ref x0, .int x1, .int x2] m (fun (v : Option Value) (N : Mem) => v = some (Value.int r) ∧ N = m) := by
  refine ct_of (by decide) (by rfl) (ls0 := [.ref x0, .int x1, .int x2, JK, JK, JK, JK, JK]) rfl rfl ?_
  have h : PI m (F_X7_nextWidth x0 x1 x2 m) (fun (v : Option Value) (N : Mem) => v = some (Value.int r) ∧ N = m) := ⟨r, h, rfl, rfl⟩
  revert h
  generalize (fun (v : Option Value) (N : Mem) => v = some (Value.int r) ∧ N = m) = post
  intro h
  refine wp_iconst (v := 0) dX7_nextWidth_0 (by decide) ?_
  refine wp_istore_n (i := 3) dX7_nextWidth_1 rfl rfl rfl ?_
  refine wp_iconst (v := 0) dX7_nextWidth_2 (by decide) ?_
  refine wp_istore dX7_nextWidth_3 rfl rfl ?_
  exact (w_X7_nextWidth_5 _ _ _ _ _ _ h)
theorem w_X7_isWay_64 {D : DT} {l : Launch} {post : Option Value → Mem → Prop} {r25 : Nat → Int32 → Int32 → Mem → Option (Int32 × Mem)} (hr25 : ∀ (x0 : Nat) (x1 : Int32) (x2 : Int32) (m : Mem), HI (r25 x0 x1 x2 m) post → WP D l Y_X7_isWay 0 0 25 [.ref x0, .int x1, .int x2, JK] [] m post) {x0 : Nat} {x1 : Int32} {s0 : Int32} {s1 : Int32} {m : Mem} (h : HI (F_X7_isWay_64 r25 x0 x1 s0 s1 m) post) : WP D l Y_X7_isWay 0 0 64 [.ref x0, .int x1, JK, JK] [.int s1, .int s0] m post := by
  refine wp_iadd dX7_isWay_64 ?_
  refine wp_istore_n (i := 2) dX7_isWay_65 rfl rfl rfl ?_
  refine wp_goto (tgt := 25) dX7_isWay_66 (by decide) ?_
  exact (hr25 _ _ _ _ h)
theorem w_X7_isWay_69 {D : DT} {l : Launch} {post : Option Value → Mem → Prop} {x0 : Nat} {x2 : Int32} {m : Mem} (h : HI (F_X7_isWay_69 x0 x2 m) post) : WP D l Y_X7_isWay 0 0 69 [.ref x0, JK, .int x2, JK] [] m post := by
  refine wp_iload_n (i := 2) dX7_isWay_69 rfl rfl ?_
  refine wp_aload_n (i := 0) dX7_isWay_70 rfl rfl ?_
  obtain ⟨v1, ev1, h⟩ := HI.bind h
  refine wp_getI cl7 (f := 24) (by decide) rfl fl_X7_198 dX7_isWay_71 ev1 ?_
  refine wp_icmp_ne (tgt := 81) dX7_isWay_74 (by decide) (fun c2 => ?_) (fun c2 => ?_)
  · have h := HI.f c2 h
    refine wp_iconst (v := 0) dX7_isWay_81 (by decide) ?_
    exact wp_iret dX7_isWay_82 rfl (by decide) (Nat.le_of_ble_eq_true rfl) (Nat.le_of_ble_eq_true rfl) (HI.some h)
  · have h := HI.t c2 h
    refine wp_iconst (v := 1) dX7_isWay_77 (by decide) ?_
    refine wp_goto (tgt := 82) dX7_isWay_78 (by decide) ?_
    exact wp_iret dX7_isWay_82 rfl (by decide) (Nat.le_of_ble_eq_true rfl) (Nat.le_of_ble_eq_true rfl) (HI.some h)
theorem w_X7_isWay_25 {D : DT} {l : Launch} {post : Option Value → Mem → Prop} : ∀ (n : Nat) (x0 : Nat) (x1 : Int32) (x2 : Int32) (m : Mem), HI (F_X7_isWay_25 n x0 x1 x2 m) post → WP D l Y_X7_isWay 0 0 25 [.ref x0, .int x1, .int x2, JK] [] m post := by
  intro n
  induction n with
  | zero => intro x0 x1 x2 m h; exact (HI.none h).elim
  | succ n ih =>
    intro x0 x1 x2 m h
    refine wp_iload_n (i := 2) dX7_isWay_25 rfl rfl ?_
    refine wp_if_lt (tgt := 69) dX7_isWay_26 (by decide) (fun c3 => ?_) (fun c3 => ?_)
    · have h := HI.t c3 h
      exact wp_weak [true, false, true, true] (w_X7_isWay_69 h)
    · have h := HI.f c3 h
      refine wp_iload_n (i := 2) dX7_isWay_29 rfl rfl ?_
      refine wp_aload_n (i := 0) dX7_isWay_30 rfl rfl ?_
      obtain ⟨v4, ev4, h⟩ := HI.bind h
      refine wp_getI cl7 (f := 24) (by decide) rfl fl_X7_198 dX7_isWay_31 ev4 ?_
      refine wp_icmp_ge (tgt := 69) dX7_isWay_34 (by decide) (fun c5 => ?_) (fun c5 => ?_)
      · have h := HI.t c5 h
        exact wp_weak [true, false, true, true] (w_X7_isWay_69 h)
      · have h := HI.f c5 h
        refine wp_aload_n (i := 0) dX7_isWay_37 rfl rfl ?_
        obtain ⟨v6, ev6, h⟩ := HI.bind h
        refine wp_getR cl7 (f := 27) (by decide) rfl fl_X7_58 dX7_isWay_38 ev6 ?_
        refine wp_iload_n (i := 2) dX7_isWay_41 rfl rfl ?_
        refine wp_aload_n (i := 0) dX7_isWay_42 rfl rfl ?_
        refine wp_iload_n (i := 2) dX7_isWay_43 rfl rfl ?_
        refine wp_iload_n (i := 1) dX7_isWay_44 rfl rfl ?_
        obtain ⟨v8, ev8, h⟩ := HI.bind h
        obtain ⟨v7, ev7, h⟩ := HI.bind h
        refine cgV_i (Y' := Y_X7_nextWidth) (kc2 := 0) (ks2 := 0) dX7_isWay_45 ml_X7_201 ce_X7_nextWidth (t := 7) rfl (by decide) ⟨(Nat.le_of_ble_eq_true rfl), (Nat.le_of_ble_eq_true rfl)⟩ ⟨(Nat.le_of_ble_eq_true rfl), (Nat.le_of_ble_eq_true rfl)⟩ rfl rfl (chkT_eq ev8) (ct_X7_nextWidth ev7) rfl rfl (Nat.le_of_ble_eq_true rfl) ?_
        obtain ⟨m9, em9, h⟩ := HI.bind h
        refine wp_iastore dX7_isWay_48 em9 ?_
        refine wp_iload_n (i := 2) dX7_isWay_49 rfl rfl ?_
        refine wp_aload_n (i := 0) dX7_isWay_50 rfl rfl ?_
        obtain ⟨v10, ev10, h⟩ := HI.bind h
        refine wp_getR cl7 (f := 27) (by decide) rfl fl_X7_58 dX7_isWay_51 ev10 ?_
        refine wp_iload_n (i := 2) dX7_isWay_54 rfl rfl ?_
        obtain ⟨v11, ev11, h⟩ := HI.bind h
        refine wp_iaload dX7_isWay_55 ev11 ?_
        refine wp_if_le (tgt := 63) dX7_isWay_56 (by decide) (fun c12 => ?_) (fun c12 => ?_)
        · have h := HI.t c12 h
          refine wp_iconst (v := -1) dX7_isWay_63 (by decide) ?_
          exact wp_weak [true, true, false, true] (w_X7_isWay_64 ih h)
        · have h := HI.f c12 h
          refine wp_iconst (v := 1) dX7_isWay_59 (by decide) ?_
          refine wp_goto (tgt := 64) dX7_isWay_60 (by decide) ?_
          exact wp_weak [true, true, false, true] (w_X7_isWay_64 ih h)
theorem w_X7_isWay_4 {D : DT} {l : Launch} {post : Option Value → Mem → Prop} : ∀ (n : Nat) (x0 : Nat) (x1 : Int32) (x2 : Int32) (x3 : Int32) (m : Mem), HI (F_X7_isWay_4 n x0 x1 x2 x3 m) post → WP D l Y_X7_isWay 0 0 4 [.ref x0, .int x1, .int x2, .int x3] [] m post := by
  intro n
  induction n with
  | zero => intro x0 x1 x2 x3 m h; exact (HI.none h).elim
  | succ n ih =>
    intro x0 x1 x2 x3 m h
    refine wp_iload_n (i := 3) dX7_isWay_4 rfl rfl ?_
    refine wp_aload_n (i := 0) dX7_isWay_5 rfl rfl ?_
    obtain ⟨v13, ev13, h⟩ := HI.bind h
    refine wp_getI cl7 (f := 24) (by decide) rfl fl_X7_198 dX7_isWay_6 ev13 ?_
    refine wp_icmp_ge (tgt := 25) dX7_isWay_9 (by decide) (fun c14 => ?_) (fun c14 => ?_)
    · have h := HI.t c14 h
      exact wp_weak [true, true, true, false] (w_X7_isWay_25 _ _ _ _ _ h)
    · have h := HI.f c14 h
      refine wp_aload_n (i := 0) dX7_isWay_12 rfl rfl ?_
      obtain ⟨v15, ev15, h⟩ := HI.bind h
      refine wp_getR cl7 (f := 27) (by decide) rfl fl_X7_58 dX7_isWay_13 ev15 ?_
      refine wp_iload_n (i := 3) dX7_isWay_16 rfl rfl ?_
      refine wp_iconst (v := 0) dX7_isWay_17 (by decide) ?_
      obtain ⟨m16, em16, h⟩ := HI.bind h
      refine wp_iastore dX7_isWay_18 em16 ?_
      refine wp_iinc (v := 1) dX7_isWay_19 rfl (by decide) rfl rfl ?_
      refine wp_goto (tgt := 4) dX7_isWay_22 (by decide) ?_
      exact (ih _ _ _ _ _ h)
theorem ct_X7_isWay {D : DT} {l : Launch} {m : Mem} {x0 : Nat} {x1 : Int32} {r : (Int32 × Mem)} (h : F_X7_isWay x0 x1 m = some r) : Ct D l Y_X7_isWay [.ref x0, .int x1] m (fun (v : Option Value) (N : Mem) => v = some (Value.int r.1) ∧ N = r.2) := by
  refine ct_of (by decide) (by rfl) (ls0 := [.ref x0, .int x1, JK, JK]) rfl rfl ?_
  have h : HI (F_X7_isWay x0 x1 m) (fun (v : Option Value) (N : Mem) => v = some (Value.int r.1) ∧ N = r.2) := ⟨r.1, r.2, h, rfl, rfl⟩
  revert h
  generalize (fun (v : Option Value) (N : Mem) => v = some (Value.int r.1) ∧ N = r.2) = post
  intro h
  refine wp_iconst (v := 0) dX7_isWay_0 (by decide) ?_
  refine wp_istore_n (i := 2) dX7_isWay_1 rfl rfl rfl ?_
  refine wp_iconst (v := 0) dX7_isWay_2 (by decide) ?_
  refine wp_istore_n (i := 3) dX7_isWay_3 rfl rfl rfl ?_
  exact (w_X7_isWay_4 _ _ _ _ _ _ h)
theorem w_X7_spread_89 {D : DT} {l : Launch} {post : Option Value → Mem → Prop} {r57 : Nat → Int32 → Int32 → Int32 → Mem → Option (Int32 × Mem)} (hr57 : ∀ (x0 : Nat) (x2 : Int32) (x4 : Int32) (x5 : Int32) (m : Mem), HI (r57 x0 x2 x4 x5 m) post → WP D l Y_X7_spread 0 0 57 [.ref x0, JK, .int x2, JK, .int x4, .int x5] [] m post) {x0 : Nat} {x2 : Int32} {x5 : Int32} {s0 : Int32} {m : Mem} (h : HI (F_X7_spread_89 r57 x0 x2 x5 s0 m) post) : WP D l Y_X7_spread 0 0 89 [.ref x0, JK, .int x2, JK, JK, .int x5] [.int s0] m post := by
  refine wp_istore dX7_spread_89 rfl rfl ?_
  refine wp_iinc (v := 1) dX7_spread_91 rfl (by decide) rfl rfl ?_
  refine wp_goto (tgt := 57) dX7_spread_94 (by decide) ?_
  exact (hr57 _ _ _ _ _ h)
theorem w_X7_spread_57 {D : DT} {l : Launch} {post : Option Value → Mem → Prop} : ∀ (n : Nat) (x0 : Nat) (x2 : Int32) (x4 : Int32) (x5 : Int32) (m : Mem), HI (F_X7_spread_57 n x0 x2 x4 x5 m) post → WP D l Y_X7_spread 0 0 57 [.ref x0, JK, .int x2, JK, .int x4, .int x5] [] m post := by
  intro n
  induction n with
  | zero => intro x0 x2 x4 x5 m h; exact (HI.none h).elim
  | succ n ih =>
    intro x0 x2 x4 x5 m h
    refine wp_iload dX7_spread_57 rfl ?_
    refine wp_aload_n (i := 0) dX7_spread_59 rfl rfl ?_
    obtain ⟨v1, ev1, h⟩ := HI.bind h
    refine wp_getI cl7 (f := 24) (by decide) rfl fl_X7_198 dX7_spread_60 ev1 ?_
    refine wp_icmp_ge (tgt := 97) dX7_spread_63 (by decide) (fun c2 => ?_) (fun c2 => ?_)
    · have h := HI.t c2 h
      refine wp_iload dX7_spread_97 rfl ?_
      exact wp_iret dX7_spread_99 rfl rfl (Nat.le_of_ble_eq_true rfl) (Nat.le_of_ble_eq_true rfl) (HI.some h)
    · have h := HI.f c2 h
      refine wp_aload_n (i := 0) dX7_spread_66 rfl rfl ?_
      obtain ⟨v3, ev3, h⟩ := HI.bind h
      refine wp_getR cl7 (f := 25) (by decide) rfl fl_X7_52 dX7_spread_67 ev3 ?_
      refine wp_iload dX7_spread_70 rfl ?_
      obtain ⟨v4, ev4, h⟩ := HI.bind h
      refine wp_iaload dX7_spread_72 ev4 ?_
      refine wp_iload_n (i := 2) dX7_spread_73 rfl rfl ?_
      refine wp_icmp_ne (tgt := 87) dX7_spread_74 (by decide) (fun c5 => ?_) (fun c5 => ?_)
      · have h := HI.f c5 h
        refine wp_iload dX7_spread_87 rfl ?_
        exact wp_weak [true, true, true, true, false, true] (w_X7_spread_89 ih h)
      · have h := HI.t c5 h
        refine wp_aload_n (i := 0) dX7_spread_77 rfl rfl ?_
        obtain ⟨v6, ev6, h⟩ := HI.bind h
        refine wp_getR cl7 (f := 27) (by decide) rfl fl_X7_58 dX7_spread_78 ev6 ?_
        refine wp_iload dX7_spread_81 rfl ?_
        obtain ⟨v7, ev7, h⟩ := HI.bind h
        refine wp_iaload dX7_spread_83 ev7 ?_
        refine wp_goto (tgt := 89) dX7_spread_84 (by decide) ?_
        exact wp_weak [true, true, true, true, false, true] (w_X7_spread_89 ih h)
theorem w_X7_spread_30 {D : DT} {l : Launch} {post : Option Value → Mem → Prop} : ∀ (n : Nat) (x0 : Nat) (x2 : Int32) (x3 : Int32) (m : Mem), HI (F_X7_spread_30 n x0 x2 x3 m) post → WP D l Y_X7_spread 0 0 30 [.ref x0, JK, .int x2, .int x3, JK, JK] [] m post := by
  intro n
  induction n with
  | zero => intro x0 x2 x3 m h; exact (HI.none h).elim
  | succ n ih =>
    intro x0 x2 x3 m h
    refine wp_aload_n (i := 0) dX7_spread_30 rfl rfl ?_
    refine wp_iload_n (i := 3) dX7_spread_31 rfl rfl ?_
    obtain ⟨v9, ev9, h⟩ := HI.bind h
    obtain ⟨v8, ev8, h⟩ := HI.bind h
    refine cgV_i (Y' := Y_X7_isWay) (kc2 := 0) (ks2 := 0) dX7_spread_32 ml_X7_207 ce_X7_isWay (t := 7) rfl (by decide) ⟨(Nat.le_of_ble_eq_true rfl), (Nat.le_of_ble_eq_true rfl)⟩ ⟨(Nat.le_of_ble_eq_true rfl), (Nat.le_of_ble_eq_true rfl)⟩ rfl rfl (chkT_eq ev9) (ct_X7_isWay ev8) rfl rfl (Nat.le_of_ble_eq_true rfl) ?_
    refine wp_if_ne (tgt := 44) dX7_spread_35 (by decide) (fun c10 => ?_) (fun c10 => ?_)
    · have h := HI.f c10 h
      refine wp_iload_n (i := 2) dX7_spread_44 rfl rfl ?_
      refine wp_if_ge (tgt := 50) dX7_spread_45 (by decide) (fun c11 => ?_) (fun c11 => ?_)
      · have h := HI.t c11 h
        refine wp_bipush (v := -4) dX7_spread_50 (by decide) ?_
        refine wp_istore dX7_spread_52 rfl rfl ?_
        refine wp_iconst (v := 0) dX7_spread_54 (by decide) ?_
        refine wp_istore dX7_spread_55 rfl rfl ?_
        exact wp_weak [true, true, true, false, true, true] (w_X7_spread_57 _ _ _ _ _ _ h)
      · have h := HI.f c11 h
        refine wp_iload_n (i := 3) dX7_spread_48 rfl rfl ?_
        exact wp_iret dX7_spread_49 rfl rfl (Nat.le_of_ble_eq_true rfl) (Nat.le_of_ble_eq_true rfl) (HI.some h)
    · have h := HI.t c10 h
      refine wp_iinc (v := 1) dX7_spread_38 rfl (by decide) rfl rfl ?_
      refine wp_goto (tgt := 30) dX7_spread_41 (by decide) ?_
      exact (ih _ _ _ _ h)
theorem ct_X7_spread {D : DT} {l : Launch} {m : Mem} {x0 : Nat} {x1 : Int32} {x2 : Int32} {r : (Int32 × Mem)} (h : F_X7_spread x0 x1 x2 m = some r) : Ct D l Y_X7_spread [.ref x0, .int x1, .int x2] m (fun (v : Option Value) (N : Mem) => v = some (Value.int r.1) ∧ N = r.2) := by
  refine ct_of (by decide) (by rfl) (ls0 := [.ref x0, .int x1, .int x2, JK, JK, JK]) rfl rfl ?_
  have h : HI (F_X7_spread x0 x1 x2 m) (fun (v : Option Value) (N : Mem) => v = some (Value.int r.1) ∧ N = r.2) := ⟨r.1, r.2, h, rfl, rfl⟩
  revert h
  generalize (fun (v : Option Value) (N : Mem) => v = some (Value.int r.1) ∧ N = r.2) = post
  intro h
  refine wp_iload_n (i := 1) dX7_spread_0 rfl rfl ?_
  obtain ⟨v12, ev12, h⟩ := HI.bind h
  refine cgS_i (Y' := Y_X7_isDoor) (kc2 := 0) (ks2 := 0) dX7_spread_1 ml_X7_153 ce_X7_isDoor ⟨(Nat.le_of_ble_eq_true rfl), (Nat.le_of_ble_eq_true rfl)⟩ ⟨(Nat.le_of_ble_eq_true rfl), (Nat.le_of_ble_eq_true rfl)⟩ rfl rfl (ct_X7_isDoor ev12) rfl rfl (Nat.le_of_ble_eq_true rfl) ?_
  refine wp_if_eq (tgt := 21) dX7_spread_4 (by decide) (fun c13 => ?_) (fun c13 => ?_)
  · have h := HI.t c13 h
    refine wp_iconst (v := -1) dX7_spread_21 (by decide) ?_
    exact wp_iret dX7_spread_22 rfl rfl (Nat.le_of_ble_eq_true rfl) (Nat.le_of_ble_eq_true rfl) (HI.some h)
  · have h := HI.f c13 h
    refine wp_iload_n (i := 2) dX7_spread_7 rfl rfl ?_
    refine wp_iconst (v := -1) dX7_spread_8 (by decide) ?_
    refine wp_aload_n (i := 0) dX7_spread_9 rfl rfl ?_
    obtain ⟨v14, ev14, h⟩ := HI.bind h
    refine wp_getI cl7 (f := 0) (by decide) rfl fl_X7_68 dX7_spread_10 ev14 ?_
    refine wp_iconst (v := 1) dX7_spread_13 (by decide) ?_
    refine wp_isub dX7_spread_14 ?_
    obtain ⟨v15, ev15, h⟩ := HI.bind h
    refine cgS_i (Y' := Y_X7_in) (kc2 := 0) (ks2 := 0) dX7_spread_15 ml_X7_72 ce_X7_in ⟨(Nat.le_of_ble_eq_true rfl), (Nat.le_of_ble_eq_true rfl)⟩ ⟨(Nat.le_of_ble_eq_true rfl), (Nat.le_of_ble_eq_true rfl)⟩ rfl rfl (ct_X7_in ev15) rfl rfl (Nat.le_of_ble_eq_true rfl) ?_
    refine wp_if_ne (tgt := 23) dX7_spread_18 (by decide) (fun c16 => ?_) (fun c16 => ?_)
    · have h := HI.f c16 h
      refine wp_aload_n (i := 0) dX7_spread_23 rfl rfl ?_
      refine wp_iload_n (i := 1) dX7_spread_24 rfl rfl ?_
      obtain ⟨v18, ev18, h⟩ := HI.bind h
      obtain ⟨v17, ev17, h⟩ := HI.bind h
      refine cgV_v (Y' := Y_X7_setGuests) (kc2 := 0) (ks2 := 0) dX7_spread_25 ml_X7_204 ce_X7_setGuests (t := 7) rfl (by decide) ⟨(Nat.le_of_ble_eq_true rfl), (Nat.le_of_ble_eq_true rfl)⟩ ⟨(Nat.le_of_ble_eq_true rfl), (Nat.le_of_ble_eq_true rfl)⟩ rfl rfl (chkT_eq ev18) (ct_X7_setGuests ev17) rfl rfl (Nat.le_of_ble_eq_true rfl) ?_
      refine wp_iconst (v := 0) dX7_spread_28 (by decide) ?_
      refine wp_istore_n (i := 3) dX7_spread_29 rfl rfl rfl ?_
      exact wp_weak [true, false, true, true, true, true] (w_X7_spread_30 _ _ _ _ _ h)
    · have h := HI.t c16 h
      refine wp_iconst (v := -1) dX7_spread_21 (by decide) ?_
      exact wp_iret dX7_spread_22 rfl rfl (Nat.le_of_ble_eq_true rfl) (Nat.le_of_ble_eq_true rfl) (HI.some h)
theorem w_X7_dear_61 {D : DT} {l : Launch} {post : Option Value → Mem → Prop} {m : Mem} {r18 : Nat → Int32 → Int32 → Int32 → Int32 → Option Int32} (hr18 : ∀ (x0 : Nat) (x1 : Int32) (x2 : Int32) (x3 : Int32) (x4 : Int32), PI m (r18 x0 x1 x2 x3 x4) post → WP D l Y_X7_dear 0 0 18 [.ref x0, .int x1, .int x2, .int x3, .int x4, JK] [] m post) {x0 : Nat} {x1 : Int32} {x2 : Int32} {x4 : Int32} {s0 : Int32} (h : PI m (F_X7_dear_61 m r18 x0 x1 x2 x4 s0) post) : WP D l Y_X7_dear 0 0 61 [.ref x0, .int x1, .int x2, JK, .int x4, JK] [.int s0] m post := by
  refine wp_istore_n (i := 3) dX7_dear_61 rfl rfl rfl ?_
  refine wp_iinc (v := 1) dX7_dear_62 rfl (by decide) rfl rfl ?_
  refine wp_goto (tgt := 18) dX7_dear_65 (by decide) ?_
  exact (hr18 _ _ _ _ _ h)
theorem w_X7_dear_48 {D : DT} {l : Launch} {post : Option Value → Mem → Prop} {m : Mem} {r18 : Nat → Int32 → Int32 → Int32 → Int32 → Option Int32} (hr18 : ∀ (x0 : Nat) (x1 : Int32) (x2 : Int32) (x3 : Int32) (x4 : Int32), PI m (r18 x0 x1 x2 x3 x4) post → WP D l Y_X7_dear 0 0 18 [.ref x0, .int x1, .int x2, .int x3, .int x4, JK] [] m post) {x0 : Nat} {x1 : Int32} {x3 : Int32} {x4 : Int32} {x5 : Int32} {s0 : Int32} (h : PI m (F_X7_dear_48 m r18 x0 x1 x3 x4 x5 s0) post) : WP D l Y_X7_dear 0 0 48 [.ref x0, .int x1, JK, .int x3, .int x4, .int x5] [.int s0] m post := by
  refine wp_istore_n (i := 2) dX7_dear_48 rfl rfl rfl ?_
  refine wp_iload dX7_dear_49 rfl ?_
  refine wp_iload_n (i := 3) dX7_dear_51 rfl rfl ?_
  refine wp_icmp_le (tgt := 60) dX7_dear_52 (by decide) (fun c1 => ?_) (fun c1 => ?_)
  · have h := PI.t c1 h
    refine wp_iload_n (i := 3) dX7_dear_60 rfl rfl ?_
    exact wp_weak [true, true, true, false, true, false] (w_X7_dear_61 hr18 h)
  · have h := PI.f c1 h
    refine wp_iload dX7_dear_55 rfl ?_
    refine wp_goto (tgt := 61) dX7_dear_57 (by decide) ?_
    exact wp_weak [true, true, true, false, true, false] (w_X7_dear_61 hr18 h)
theorem w_X7_dear_18 {D : DT} {l : Launch} {post : Option Value → Mem → Prop} {m : Mem} : ∀ (n : Nat) (x0 : Nat) (x1 : Int32) (x2 : Int32) (x3 : Int32) (x4 : Int32), PI m (F_X7_dear_18 m n x0 x1 x2 x3 x4) post → WP D l Y_X7_dear 0 0 18 [.ref x0, .int x1, .int x2, .int x3, .int x4, JK] [] m post := by
  intro n
  induction n with
  | zero => intro x0 x1 x2 x3 x4 h; exact (PI.none h).elim
  | succ n ih =>
    intro x0 x1 x2 x3 x4 h
    refine wp_iload dX7_dear_18 rfl ?_
    refine wp_bipush (v := 6) dX7_dear_20 (by decide) ?_
    refine wp_icmp_ge (tgt := 68) dX7_dear_22 (by decide) (fun c2 => ?_) (fun c2 => ?_)
    · have h := PI.t c2 h
      refine wp_iload_n (i := 1) dX7_dear_68 rfl rfl ?_
      refine wp_if_ne (tgt := 76) dX7_dear_69 (by decide) (fun c3 => ?_) (fun c3 => ?_)
      · have h := PI.f c3 h
        refine wp_iload_n (i := 3) dX7_dear_76 rfl rfl ?_
        exact wp_iret dX7_dear_77 rfl rfl (Nat.le_of_ble_eq_true rfl) (Nat.le_of_ble_eq_true rfl) (PI.some h)
      · have h := PI.t c3 h
        refine wp_iload_n (i := 2) dX7_dear_72 rfl rfl ?_
        refine wp_goto (tgt := 77) dX7_dear_73 (by decide) ?_
        exact wp_iret dX7_dear_77 rfl rfl (Nat.le_of_ble_eq_true rfl) (Nat.le_of_ble_eq_true rfl) (PI.some h)
    · have h := PI.f c2 h
      refine wp_aload_n (i := 0) dX7_dear_25 rfl rfl ?_
      refine wp_iload dX7_dear_26 rfl ?_
      obtain ⟨v5, ev5, h⟩ := PI.bind h
      obtain ⟨v4, ev4, h⟩ := PI.bind h
      refine cgV_i (Y' := Y_X7_thoseAbout) (kc2 := 0) (ks2 := 0) dX7_dear_28 ml_X7_156 ce_X7_thoseAbout (t := 7) rfl (by decide) ⟨(Nat.le_of_ble_eq_true rfl), (Nat.le_of_ble_eq_true rfl)⟩ ⟨(Nat.le_of_ble_eq_true rfl), (Nat.le_of_ble_eq_true rfl)⟩ rfl rfl (chkT_eq ev5) (ct_X7_thoseAbout ev4) rfl rfl (Nat.le_of_ble_eq_true rfl) ?_
      obtain ⟨v6, ev6, h⟩ := PI.bind h
      refine cgS_i (Y' := Y_X7_bits) (kc2 := 0) (ks2 := 0) dX7_dear_31 ml_X7_174 ce_X7_bits ⟨(Nat.le_of_ble_eq_true rfl), (Nat.le_of_ble_eq_true rfl)⟩ ⟨(Nat.le_of_ble_eq_true rfl), (Nat.le_of_ble_eq_true rfl)⟩ rfl rfl (ct_X7_bits ev6) rfl rfl (Nat.le_of_ble_eq_true rfl) ?_
      refine wp_istore dX7_dear_34 rfl rfl ?_
      refine wp_iload dX7_dear_36 rfl ?_
      refine wp_iload_n (i := 3) dX7_dear_38 rfl rfl ?_
      refine wp_icmp_le (tgt := 47) dX7_dear_39 (by decide) (fun c7 => ?_) (fun c7 => ?_)
      · have h := PI.t c7 h
        refine wp_iload_n (i := 2) dX7_dear_47 rfl rfl ?_
        exact wp_weak [true, true, false, true, true, true] (w_X7_dear_48 ih h)
      · have h := PI.f c7 h
        refine wp_iload dX7_dear_42 rfl ?_
        refine wp_goto (tgt := 48) dX7_dear_44 (by decide) ?_
        exact wp_weak [true, true, false, true, true, true] (w_X7_dear_48 ih h)
theorem ct_X7_dear {D : DT} {l : Launch} {m : Mem} {x0 : Nat} {x1 : Int32} {r : Int32} (h : F_X7_dear x0 x1 m = some r) : Ct D l Y_X7_dear [.ref x0, .int x1] m (fun (v : Option Value) (N : Mem) => v = some (Value.int r) ∧ N = m) := by
  refine ct_of (by decide) (by rfl) (ls0 := [.ref x0, .int x1, JK, JK, JK, JK]) rfl rfl ?_
  have h : PI m (F_X7_dear x0 x1 m) (fun (v : Option Value) (N : Mem) => v = some (Value.int r) ∧ N = m) := ⟨r, h, rfl, rfl⟩
  revert h
  generalize (fun (v : Option Value) (N : Mem) => v = some (Value.int r) ∧ N = m) = post
  intro h
  refine wp_iload_n (i := 1) dX7_dear_0 rfl rfl ?_
  refine wp_iconst (v := 0) dX7_dear_1 (by decide) ?_
  refine wp_iconst (v := 1) dX7_dear_2 (by decide) ?_
  obtain ⟨v8, ev8, h⟩ := PI.bind h
  refine cgS_i (Y' := Y_X7_in) (kc2 := 0) (ks2 := 0) dX7_dear_3 ml_X7_72 ce_X7_in ⟨(Nat.le_of_ble_eq_true rfl), (Nat.le_of_ble_eq_true rfl)⟩ ⟨(Nat.le_of_ble_eq_true rfl), (Nat.le_of_ble_eq_true rfl)⟩ rfl rfl (ct_X7_in ev8) rfl rfl (Nat.le_of_ble_eq_true rfl) ?_
  refine wp_if_ne (tgt := 11) dX7_dear_6 (by decide) (fun c9 => ?_) (fun c9 => ?_)
  · have h := PI.f c9 h
    refine wp_iconst (v := 0) dX7_dear_11 (by decide) ?_
    refine wp_istore_n (i := 2) dX7_dear_12 rfl rfl rfl ?_
    refine wp_iconst (v := 0) dX7_dear_13 (by decide) ?_
    refine wp_istore_n (i := 3) dX7_dear_14 rfl rfl rfl ?_
    refine wp_iconst (v := 0) dX7_dear_15 (by decide) ?_
    refine wp_istore dX7_dear_16 rfl rfl ?_
    exact (w_X7_dear_18 _ _ _ _ _ _ h)
  · have h := PI.t c9 h
    refine wp_iconst (v := -1) dX7_dear_9 (by decide) ?_
    exact wp_iret dX7_dear_10 rfl rfl (Nat.le_of_ble_eq_true rfl) (Nat.le_of_ble_eq_true rfl) (PI.some h)
theorem ct_X7_seen {D : DT} {l : Launch} {m : Mem} {x0 : Nat} {x1 : Int32} {x2 : Int32} {x3 : Int32} {r : (Int32 × Mem)} (h : F_X7_seen x0 x1 x2 x3 m = some r) : Ct D l Y_X7_seen [.ref x0, .int x1, .int x2, .int x3] m (fun (v : Option Value) (N : Mem) => v = some (Value.int r.1) ∧ N = r.2) := by
  refine ct_of (by decide) (by rfl) (ls0 := [.ref x0, .int x1, .int x2, .int x3]) rfl rfl ?_
  have h : HI (F_X7_seen x0 x1 x2 x3 m) (fun (v : Option Value) (N : Mem) => v = some (Value.int r.1) ∧ N = r.2) := ⟨r.1, r.2, h, rfl, rfl⟩
  revert h
  generalize (fun (v : Option Value) (N : Mem) => v = some (Value.int r.1) ∧ N = r.2) = post
  intro h
  refine wp_aload_n (i := 0) dX7_seen_0 rfl rfl ?_
  refine wp_iload_n (i := 1) dX7_seen_1 rfl rfl ?_
  obtain ⟨v2, ev2, h⟩ := HI.bind h
  obtain ⟨v1, ev1, h⟩ := HI.bind h
  refine cgV_i (Y' := Y_X7_isPerson) (kc2 := 0) (ks2 := 0) dX7_seen_2 ml_X7_146 ce_X7_isPerson (t := 7) rfl (by decide) ⟨(Nat.le_of_ble_eq_true rfl), (Nat.le_of_ble_eq_true rfl)⟩ ⟨(Nat.le_of_ble_eq_true rfl), (Nat.le_of_ble_eq_true rfl)⟩ rfl rfl (chkT_eq ev2) (ct_X7_isPerson ev1) rfl rfl (Nat.le_of_ble_eq_true rfl) ?_
  refine wp_if_eq (tgt := 28) dX7_seen_5 (by decide) (fun c3 => ?_) (fun c3 => ?_)
  · have h := HI.t c3 h
    refine wp_iconst (v := -1) dX7_seen_28 (by decide) ?_
    exact wp_iret dX7_seen_29 rfl rfl (Nat.le_of_ble_eq_true rfl) (Nat.le_of_ble_eq_true rfl) (HI.some h)
  · have h := HI.f c3 h
    refine wp_iload_n (i := 2) dX7_seen_8 rfl rfl ?_
    refine wp_iconst (v := 0) dX7_seen_9 (by decide) ?_
    refine wp_bipush (v := 24) dX7_seen_10 (by decide) ?_
    obtain ⟨v4, ev4, h⟩ := HI.bind h
    refine cgS_i (Y' := Y_X7_in) (kc2 := 0) (ks2 := 0) dX7_seen_12 ml_X7_72 ce_X7_in ⟨(Nat.le_of_ble_eq_true rfl), (Nat.le_of_ble_eq_true rfl)⟩ ⟨(Nat.le_of_ble_eq_true rfl), (Nat.le_of_ble_eq_true rfl)⟩ rfl rfl (ct_X7_in ev4) rfl rfl (Nat.le_of_ble_eq_true rfl) ?_
    refine wp_if_eq (tgt := 28) dX7_seen_15 (by decide) (fun c5 => ?_) (fun c5 => ?_)
    · have h := HI.t c5 h
      refine wp_iconst (v := -1) dX7_seen_28 (by decide) ?_
      exact wp_iret dX7_seen_29 rfl rfl (Nat.le_of_ble_eq_true rfl) (Nat.le_of_ble_eq_true rfl) (HI.some h)
    · have h := HI.f c5 h
      refine wp_iload_n (i := 3) dX7_seen_18 rfl rfl ?_
      refine wp_iconst (v := 0) dX7_seen_19 (by decide) ?_
      refine wp_bipush (v := 11) dX7_seen_20 (by decide) ?_
      obtain ⟨v6, ev6, h⟩ := HI.bind h
      refine cgS_i (Y' := Y_X7_in) (kc2 := 0) (ks2 := 0) dX7_seen_22 ml_X7_72 ce_X7_in ⟨(Nat.le_of_ble_eq_true rfl), (Nat.le_of_ble_eq_true rfl)⟩ ⟨(Nat.le_of_ble_eq_true rfl), (Nat.le_of_ble_eq_true rfl)⟩ rfl rfl (ct_X7_in ev6) rfl rfl (Nat.le_of_ble_eq_true rfl) ?_
      refine wp_if_ne (tgt := 30) dX7_seen_25 (by decide) (fun c7 => ?_) (fun c7 => ?_)
      · have h := HI.f c7 h
        refine wp_aload_n (i := 0) dX7_seen_30 rfl rfl ?_
        obtain ⟨v8, ev8, h⟩ := HI.bind h
        refine wp_getI cl7 (f := 8) (by decide) rfl fl_X7_115 dX7_seen_31 ev8 ?_
        refine wp_bipush (v := 6) dX7_seen_34 (by decide) ?_
        refine wp_icmp_ne (tgt := 42) dX7_seen_36 (by decide) (fun c9 => ?_) (fun c9 => ?_)
        · have h := HI.f c9 h
          refine wp_aload_n (i := 0) dX7_seen_42 rfl rfl ?_
          obtain ⟨v10, ev10, h⟩ := HI.bind h
          refine wp_getR cl7 (f := 9) (by decide) rfl fl_X7_25 dX7_seen_43 ev10 ?_
          refine wp_aload_n (i := 0) dX7_seen_46 rfl rfl ?_
          obtain ⟨v11, ev11, h⟩ := HI.bind h
          refine wp_getI cl7 (f := 8) (by decide) rfl fl_X7_115 dX7_seen_47 ev11 ?_
          refine wp_iload_n (i := 1) dX7_seen_50 rfl rfl ?_
          obtain ⟨m12, em12, h⟩ := HI.bind h
          refine wp_iastore dX7_seen_51 em12 ?_
          refine wp_aload_n (i := 0) dX7_seen_52 rfl rfl ?_
          obtain ⟨v13, ev13, h⟩ := HI.bind h
          refine wp_getR cl7 (f := 10) (by decide) rfl fl_X7_28 dX7_seen_53 ev13 ?_
          refine wp_aload_n (i := 0) dX7_seen_56 rfl rfl ?_
          obtain ⟨v14, ev14, h⟩ := HI.bind h
          refine wp_getI cl7 (f := 8) (by decide) rfl fl_X7_115 dX7_seen_57 ev14 ?_
          refine wp_iload_n (i := 2) dX7_seen_60 rfl rfl ?_
          obtain ⟨m15, em15, h⟩ := HI.bind h
          refine wp_iastore dX7_seen_61 em15 ?_
          refine wp_aload_n (i := 0) dX7_seen_62 rfl rfl ?_
          obtain ⟨v16, ev16, h⟩ := HI.bind h
          refine wp_getR cl7 (f := 11) (by decide) rfl fl_X7_31 dX7_seen_63 ev16 ?_
          refine wp_aload_n (i := 0) dX7_seen_66 rfl rfl ?_
          obtain ⟨v17, ev17, h⟩ := HI.bind h
          refine wp_getI cl7 (f := 8) (by decide) rfl fl_X7_115 dX7_seen_67 ev17 ?_
          refine wp_iload_n (i := 3) dX7_seen_70 rfl rfl ?_
          obtain ⟨m18, em18, h⟩ := HI.bind h
          refine wp_iastore dX7_seen_71 em18 ?_
          refine wp_aload_n (i := 0) dX7_seen_72 rfl rfl ?_
          refine wp_dup dX7_seen_73 rfl ?_
          obtain ⟨v19, ev19, h⟩ := HI.bind h
          refine wp_getI cl7 (f := 8) (by decide) rfl fl_X7_115 dX7_seen_74 ev19 ?_
          refine wp_iconst (v := 1) dX7_seen_77 (by decide) ?_
          refine wp_iadd dX7_seen_78 ?_
          obtain ⟨m20, em20, h⟩ := HI.bind h
          refine wp_putI cl7 (f := 8) (by decide) rfl fl_X7_115 (Or.inl rfl) dX7_seen_79 em20 ?_
          refine wp_aload_n (i := 0) dX7_seen_82 rfl rfl ?_
          obtain ⟨v21, ev21, h⟩ := HI.bind h
          refine wp_getI cl7 (f := 8) (by decide) rfl fl_X7_115 dX7_seen_83 ev21 ?_
          exact wp_iret dX7_seen_86 rfl rfl (Nat.le_of_ble_eq_true rfl) (Nat.le_of_ble_eq_true rfl) (HI.some h)
        · have h := HI.t c9 h
          refine wp_bipush (v := -3) dX7_seen_39 (by decide) ?_
          exact wp_iret dX7_seen_41 rfl rfl (Nat.le_of_ble_eq_true rfl) (Nat.le_of_ble_eq_true rfl) (HI.some h)
      · have h := HI.t c7 h
        refine wp_iconst (v := -1) dX7_seen_28 (by decide) ?_
        exact wp_iret dX7_seen_29 rfl rfl (Nat.le_of_ble_eq_true rfl) (Nat.le_of_ble_eq_true rfl) (HI.some h)
theorem w_X7_isSo_51 {D : DT} {l : Launch} {post : Option Value → Mem → Prop} {m : Mem} {r4 : Nat → Int32 → Int32 → Int32 → Option Int32} (hr4 : ∀ (x0 : Nat) (x1 : Int32) (x2 : Int32) (x3 : Int32), PI m (r4 x0 x1 x2 x3) post → WP D l Y_X7_isSo 0 0 4 [.ref x0, .int x1, .int x2, .int x3] [] m post) {x0 : Nat} {x1 : Int32} {x3 : Int32} {s0 : Int32} (h : PI m (F_X7_isSo_51 m r4 x0 x1 x3 s0) post) : WP D l Y_X7_isSo 0 0 51 [.ref x0, .int x1, JK, .int x3] [.int s0] m post := by
  refine wp_istore_n (i := 2) dX7_isSo_51 rfl rfl rfl ?_
  refine wp_iinc (v := 1) dX7_isSo_52 rfl (by decide) rfl rfl ?_
  refine wp_goto (tgt := 4) dX7_isSo_55 (by decide) ?_
  exact (hr4 _ _ _ _ h)
theorem w_X7_isSo_46 {D : DT} {l : Launch} {post : Option Value → Mem → Prop} {m : Mem} {r4 : Nat → Int32 → Int32 → Int32 → Option Int32} (hr4 : ∀ (x0 : Nat) (x1 : Int32) (x2 : Int32) (x3 : Int32), PI m (r4 x0 x1 x2 x3) post → WP D l Y_X7_isSo 0 0 4 [.ref x0, .int x1, .int x2, .int x3] [] m post) {x0 : Nat} {x1 : Int32} {x3 : Int32} (h : PI m (F_X7_isSo_46 m r4 x0 x1 x3) post) : WP D l Y_X7_isSo 0 0 46 [.ref x0, .int x1, JK, .int x3] [] m post := by
  refine wp_iconst (v := 1) dX7_isSo_46 (by decide) ?_
  refine wp_goto (tgt := 51) dX7_isSo_47 (by decide) ?_
  exact (w_X7_isSo_51 hr4 h)
theorem w_X7_isSo_50 {D : DT} {l : Launch} {post : Option Value → Mem → Prop} {m : Mem} {r4 : Nat → Int32 → Int32 → Int32 → Option Int32} (hr4 : ∀ (x0 : Nat) (x1 : Int32) (x2 : Int32) (x3 : Int32), PI m (r4 x0 x1 x2 x3) post → WP D l Y_X7_isSo 0 0 4 [.ref x0, .int x1, .int x2, .int x3] [] m post) {x0 : Nat} {x1 : Int32} {x3 : Int32} (h : PI m (F_X7_isSo_50 m r4 x0 x1 x3) post) : WP D l Y_X7_isSo 0 0 50 [.ref x0, .int x1, JK, .int x3] [] m post := by
  refine wp_iconst (v := 0) dX7_isSo_50 (by decide) ?_
  exact (w_X7_isSo_51 hr4 h)
theorem w_X7_isSo_4 {D : DT} {l : Launch} {post : Option Value → Mem → Prop} {m : Mem} : ∀ (n : Nat) (x0 : Nat) (x1 : Int32) (x2 : Int32) (x3 : Int32), PI m (F_X7_isSo_4 m n x0 x1 x2 x3) post → WP D l Y_X7_isSo 0 0 4 [.ref x0, .int x1, .int x2, .int x3] [] m post := by
  intro n
  induction n with
  | zero => intro x0 x1 x2 x3 h; exact (PI.none h).elim
  | succ n ih =>
    intro x0 x1 x2 x3 h
    refine wp_iload_n (i := 3) dX7_isSo_4 rfl rfl ?_
    refine wp_aload_n (i := 0) dX7_isSo_5 rfl rfl ?_
    obtain ⟨v1, ev1, h⟩ := PI.bind h
    refine wp_getI cl7 (f := 8) (by decide) rfl fl_X7_115 dX7_isSo_6 ev1 ?_
    refine wp_icmp_ge (tgt := 58) dX7_isSo_9 (by decide) (fun c2 => ?_) (fun c2 => ?_)
    · have h := PI.t c2 h
      refine wp_iload_n (i := 2) dX7_isSo_58 rfl rfl ?_
      obtain ⟨v3, ev3, h⟩ := PI.bind h
      exact wp_iret dX7_isSo_59 rfl (rN_of ev3) (Nat.le_of_ble_eq_true rfl) (Nat.le_of_ble_eq_true rfl) (PI.some h)
    · have h := PI.f c2 h
      refine wp_iload_n (i := 2) dX7_isSo_12 rfl rfl ?_
      refine wp_if_eq (tgt := 50) dX7_isSo_13 (by decide) (fun c4 => ?_) (fun c4 => ?_)
      · have h := PI.t c4 h
        exact wp_weak [true, true, false, true] (w_X7_isSo_50 ih h)
      · have h := PI.f c4 h
        refine wp_aload_n (i := 0) dX7_isSo_16 rfl rfl ?_
        obtain ⟨v5, ev5, h⟩ := PI.bind h
        refine wp_getR cl7 (f := 9) (by decide) rfl fl_X7_25 dX7_isSo_17 ev5 ?_
        refine wp_iload_n (i := 3) dX7_isSo_20 rfl rfl ?_
        obtain ⟨v6, ev6, h⟩ := PI.bind h
        refine wp_iaload dX7_isSo_21 ev6 ?_
        refine wp_iload_n (i := 1) dX7_isSo_22 rfl rfl ?_
        refine wp_icmp_ne (tgt := 46) dX7_isSo_23 (by decide) (fun c7 => ?_) (fun c7 => ?_)
        · have h := PI.f c7 h
          exact wp_weak [true, true, false, true] (w_X7_isSo_46 ih h)
        · have h := PI.t c7 h
          refine wp_aload_n (i := 0) dX7_isSo_26 rfl rfl ?_
          refine wp_iload_n (i := 1) dX7_isSo_27 rfl rfl ?_
          refine wp_aload_n (i := 0) dX7_isSo_28 rfl rfl ?_
          obtain ⟨v8, ev8, h⟩ := PI.bind h
          refine wp_getR cl7 (f := 10) (by decide) rfl fl_X7_28 dX7_isSo_29 ev8 ?_
          refine wp_iload_n (i := 3) dX7_isSo_32 rfl rfl ?_
          obtain ⟨v9, ev9, h⟩ := PI.bind h
          refine wp_iaload dX7_isSo_33 ev9 ?_
          obtain ⟨v11, ev11, h⟩ := PI.bind h
          obtain ⟨v10, ev10, h⟩ := PI.bind h
          refine cgV_i (Y' := Y_X7_yardBehind) (kc2 := 0) (ks2 := 0) dX7_isSo_34 ml_X7_180 ce_X7_yardBehind (t := 7) rfl (by decide) ⟨(Nat.le_of_ble_eq_true rfl), (Nat.le_of_ble_eq_true rfl)⟩ ⟨(Nat.le_of_ble_eq_true rfl), (Nat.le_of_ble_eq_true rfl)⟩ rfl rfl (chkT_eq ev11) (ct_X7_yardBehind ev10) rfl rfl (Nat.le_of_ble_eq_true rfl) ?_
          refine wp_aload_n (i := 0) dX7_isSo_37 rfl rfl ?_
          obtain ⟨v12, ev12, h⟩ := PI.bind h
          refine wp_getR cl7 (f := 11) (by decide) rfl fl_X7_31 dX7_isSo_38 ev12 ?_
          refine wp_iload_n (i := 3) dX7_isSo_41 rfl rfl ?_
          obtain ⟨v13, ev13, h⟩ := PI.bind h
          refine wp_iaload dX7_isSo_42 ev13 ?_
          refine wp_icmp_ne (tgt := 50) dX7_isSo_43 (by decide) (fun c14 => ?_) (fun c14 => ?_)
          · have h := PI.f c14 h
            exact wp_weak [true, true, false, true] (w_X7_isSo_50 ih h)
          · have h := PI.t c14 h
            exact wp_weak [true, true, false, true] (w_X7_isSo_46 ih h)
theorem ct_X7_isSo {D : DT} {l : Launch} {m : Mem} {x0 : Nat} {x1 : Int32} {r : Int32} (h : F_X7_isSo x0 x1 m = some r) : Ct D l Y_X7_isSo [.ref x0, .int x1] m (fun (v : Option Value) (N : Mem) => v = some (Value.int r) ∧ N = m) := by
  refine ct_of (by decide) (by rfl) (ls0 := [.ref x0, .int x1, JK, JK]) rfl rfl ?_
  have h : PI m (F_X7_isSo x0 x1 m) (fun (v : Option Value) (N : Mem) => v = some (Value.int r) ∧ N = m) := ⟨r, h, rfl, rfl⟩
  revert h
  generalize (fun (v : Option Value) (N : Mem) => v = some (Value.int r) ∧ N = m) = post
  intro h
  refine wp_iconst (v := 1) dX7_isSo_0 (by decide) ?_
  refine wp_istore_n (i := 2) dX7_isSo_1 rfl rfl rfl ?_
  refine wp_iconst (v := 0) dX7_isSo_2 (by decide) ?_
  refine wp_istore_n (i := 3) dX7_isSo_3 rfl rfl rfl ?_
  exact (w_X7_isSo_4 _ _ _ _ _ h)
theorem w_X7_kinds_53 {D : DT} {l : Launch} {post : Option Value → Mem → Prop} {r22 : Nat → Int32 → Int32 → Int32 → Int32 → Mem → Option (Int32 × Mem)} (hr22 : ∀ (x0 : Nat) (x1 : Int32) (x2 : Int32) (x3 : Int32) (x4 : Int32) (m : Mem), HI (r22 x0 x1 x2 x3 x4 m) post → WP D l Y_X7_kinds 0 0 22 [.ref x0, .int x1, .int x2, .int x3, .int x4] [] m post) {x0 : Nat} {x1 : Int32} {x2 : Int32} {x4 : Int32} {s0 : Int32} {s1 : Int32} {m : Mem} (h : HI (F_X7_kinds_53 r22 x0 x1 x2 x4 s0 s1 m) post) : WP D l Y_X7_kinds 0 0 53 [.ref x0, .int x1, .int x2, JK, .int x4] [.int s1, .int s0] m post := by
  refine wp_ior dX7_kinds_53 ?_
  refine wp_istore_n (i := 3) dX7_kinds_54 rfl rfl rfl ?_
  refine wp_iinc (v := 1) dX7_kinds_55 rfl (by decide) rfl rfl ?_
  refine wp_goto (tgt := 22) dX7_kinds_58 (by decide) ?_
  exact (hr22 _ _ _ _ _ _ h)
theorem w_X7_kinds_22 {D : DT} {l : Launch} {post : Option Value → Mem → Prop} : ∀ (n : Nat) (x0 : Nat) (x1 : Int32) (x2 : Int32) (x3 : Int32) (x4 : Int32) (m : Mem), HI (F_X7_kinds_22 n x0 x1 x2 x3 x4 m) post → WP D l Y_X7_kinds 0 0 22 [.ref x0, .int x1, .int x2, .int x3, .int x4] [] m post := by
  intro n
  induction n with
  | zero => intro x0 x1 x2 x3 x4 m h; exact (HI.none h).elim
  | succ n ih =>
    intro x0 x1 x2 x3 x4 m h
    refine wp_iload dX7_kinds_22 rfl ?_
    refine wp_iconst (v := 3) dX7_kinds_24 (by decide) ?_
    refine wp_icmp_gt (tgt := 61) dX7_kinds_25 (by decide) (fun c1 => ?_) (fun c1 => ?_)
    · have h := HI.t c1 h
      refine wp_aload_n (i := 0) dX7_kinds_61 rfl rfl ?_
      obtain ⟨v2, ev2, h⟩ := HI.bind h
      refine wp_getR cl7 (f := 1) (by decide) rfl fl_X7_9 dX7_kinds_62 ev2 ?_
      refine wp_iload_n (i := 1) dX7_kinds_65 rfl rfl ?_
      refine wp_iload_n (i := 2) dX7_kinds_66 rfl rfl ?_
      obtain ⟨m3, em3, h⟩ := HI.bind h
      refine wp_iastore dX7_kinds_67 em3 ?_
      refine wp_iload_n (i := 3) dX7_kinds_68 rfl rfl ?_
      exact wp_iret dX7_kinds_69 rfl rfl (Nat.le_of_ble_eq_true rfl) (Nat.le_of_ble_eq_true rfl) (HI.some h)
    · have h := HI.f c1 h
      refine wp_aload_n (i := 0) dX7_kinds_28 rfl rfl ?_
      obtain ⟨v4, ev4, h⟩ := HI.bind h
      refine wp_getR cl7 (f := 1) (by decide) rfl fl_X7_9 dX7_kinds_29 ev4 ?_
      refine wp_iload_n (i := 1) dX7_kinds_32 rfl rfl ?_
      refine wp_iload dX7_kinds_33 rfl ?_
      obtain ⟨m5, em5, h⟩ := HI.bind h
      refine wp_iastore dX7_kinds_35 em5 ?_
      refine wp_iload_n (i := 3) dX7_kinds_36 rfl rfl ?_
      refine wp_aload_n (i := 0) dX7_kinds_37 rfl rfl ?_
      refine wp_iload_n (i := 1) dX7_kinds_38 rfl rfl ?_
      obtain ⟨v7, ev7, h⟩ := HI.bind h
      obtain ⟨v6, ev6, h⟩ := HI.bind h
      refine cgV_i (Y' := Y_X7_isSo) (kc2 := 0) (ks2 := 0) dX7_kinds_39 ml_X7_210 ce_X7_isSo (t := 7) rfl (by decide) ⟨(Nat.le_of_ble_eq_true rfl), (Nat.le_of_ble_eq_true rfl)⟩ ⟨(Nat.le_of_ble_eq_true rfl), (Nat.le_of_ble_eq_true rfl)⟩ rfl rfl (chkT_eq ev7) (ct_X7_isSo ev6) rfl rfl (Nat.le_of_ble_eq_true rfl) ?_
      refine wp_if_eq (tgt := 52) dX7_kinds_42 (by decide) (fun c8 => ?_) (fun c8 => ?_)
      · have h := HI.t c8 h
        refine wp_iconst (v := 0) dX7_kinds_52 (by decide) ?_
        exact wp_weak [true, true, true, false, true] (w_X7_kinds_53 ih h)
      · have h := HI.f c8 h
        refine wp_iconst (v := 1) dX7_kinds_45 (by decide) ?_
        refine wp_iload dX7_kinds_46 rfl ?_
        refine wp_ishl dX7_kinds_48 ?_
        refine wp_goto (tgt := 53) dX7_kinds_49 (by decide) ?_
        exact wp_weak [true, true, true, false, true] (w_X7_kinds_53 ih h)
theorem ct_X7_kinds {D : DT} {l : Launch} {m : Mem} {x0 : Nat} {x1 : Int32} {r : (Int32 × Mem)} (h : F_X7_kinds x0 x1 m = some r) : Ct D l Y_X7_kinds [.ref x0, .int x1] m (fun (v : Option Value) (N : Mem) => v = some (Value.int r.1) ∧ N = r.2) := by
  refine ct_of (by decide) (by rfl) (ls0 := [.ref x0, .int x1, JK, JK, JK]) rfl rfl ?_
  have h : HI (F_X7_kinds x0 x1 m) (fun (v : Option Value) (N : Mem) => v = some (Value.int r.1) ∧ N = r.2) := ⟨r.1, r.2, h, rfl, rfl⟩
  revert h
  generalize (fun (v : Option Value) (N : Mem) => v = some (Value.int r.1) ∧ N = r.2) = post
  intro h
  refine wp_aload_n (i := 0) dX7_kinds_0 rfl rfl ?_
  refine wp_iload_n (i := 1) dX7_kinds_1 rfl rfl ?_
  obtain ⟨v10, ev10, h⟩ := HI.bind h
  obtain ⟨v9, ev9, h⟩ := HI.bind h
  refine cgV_i (Y' := Y_X7_isPerson) (kc2 := 0) (ks2 := 0) dX7_kinds_2 ml_X7_146 ce_X7_isPerson (t := 7) rfl (by decide) ⟨(Nat.le_of_ble_eq_true rfl), (Nat.le_of_ble_eq_true rfl)⟩ ⟨(Nat.le_of_ble_eq_true rfl), (Nat.le_of_ble_eq_true rfl)⟩ rfl rfl (chkT_eq ev10) (ct_X7_isPerson ev9) rfl rfl (Nat.le_of_ble_eq_true rfl) ?_
  refine wp_if_ne (tgt := 10) dX7_kinds_5 (by decide) (fun c11 => ?_) (fun c11 => ?_)
  · have h := HI.f c11 h
    refine wp_aload_n (i := 0) dX7_kinds_10 rfl rfl ?_
    obtain ⟨v12, ev12, h⟩ := HI.bind h
    refine wp_getR cl7 (f := 1) (by decide) rfl fl_X7_9 dX7_kinds_11 ev12 ?_
    refine wp_iload_n (i := 1) dX7_kinds_14 rfl rfl ?_
    obtain ⟨v13, ev13, h⟩ := HI.bind h
    refine wp_iaload dX7_kinds_15 ev13 ?_
    refine wp_istore_n (i := 2) dX7_kinds_16 rfl rfl rfl ?_
    refine wp_iconst (v := 0) dX7_kinds_17 (by decide) ?_
    refine wp_istore_n (i := 3) dX7_kinds_18 rfl rfl rfl ?_
    refine wp_iconst (v := 0) dX7_kinds_19 (by decide) ?_
    refine wp_istore dX7_kinds_20 rfl rfl ?_
    exact (w_X7_kinds_22 _ _ _ _ _ _ _ h)
  · have h := HI.t c11 h
    refine wp_iconst (v := -1) dX7_kinds_8 (by decide) ?_
    exact wp_iret dX7_kinds_9 rfl rfl (Nat.le_of_ble_eq_true rfl) (Nat.le_of_ble_eq_true rfl) (HI.some h)
theorem w_X7_speeds_54 {D : DT} {l : Launch} {post : Option Value → Mem → Prop} {r22 : Nat → Int32 → Int32 → Int32 → Int32 → Mem → Option (Int32 × Mem)} (hr22 : ∀ (x0 : Nat) (x1 : Int32) (x2 : Int32) (x3 : Int32) (x4 : Int32) (m : Mem), HI (r22 x0 x1 x2 x3 x4 m) post → WP D l Y_X7_speeds 0 0 22 [.ref x0, .int x1, .int x2, .int x3, .int x4] [] m post) {x0 : Nat} {x1 : Int32} {x2 : Int32} {x4 : Int32} {s0 : Int32} {s1 : Int32} {m : Mem} (h : HI (F_X7_speeds_54 r22 x0 x1 x2 x4 s0 s1 m) post) : WP D l Y_X7_speeds 0 0 54 [.ref x0, .int x1, .int x2, JK, .int x4] [.int s1, .int s0] m post := by
  refine wp_ior dX7_speeds_54 ?_
  refine wp_istore_n (i := 3) dX7_speeds_55 rfl rfl rfl ?_
  refine wp_iinc (v := 1) dX7_speeds_56 rfl (by decide) rfl rfl ?_
  refine wp_goto (tgt := 22) dX7_speeds_59 (by decide) ?_
  exact (hr22 _ _ _ _ _ _ h)
theorem w_X7_speeds_22 {D : DT} {l : Launch} {post : Option Value → Mem → Prop} : ∀ (n : Nat) (x0 : Nat) (x1 : Int32) (x2 : Int32) (x3 : Int32) (x4 : Int32) (m : Mem), HI (F_X7_speeds_22 n x0 x1 x2 x3 x4 m) post → WP D l Y_X7_speeds 0 0 22 [.ref x0, .int x1, .int x2, .int x3, .int x4] [] m post := by
  intro n
  induction n with
  | zero => intro x0 x1 x2 x3 x4 m h; exact (HI.none h).elim
  | succ n ih =>
    intro x0 x1 x2 x3 x4 m h
    refine wp_iload dX7_speeds_22 rfl ?_
    refine wp_bipush (v := 12) dX7_speeds_24 (by decide) ?_
    refine wp_icmp_ge (tgt := 62) dX7_speeds_26 (by decide) (fun c1 => ?_) (fun c1 => ?_)
    · have h := HI.t c1 h
      refine wp_aload_n (i := 0) dX7_speeds_62 rfl rfl ?_
      obtain ⟨v2, ev2, h⟩ := HI.bind h
      refine wp_getR cl7 (f := 7) (by decide) rfl fl_X7_22 dX7_speeds_63 ev2 ?_
      refine wp_iload_n (i := 1) dX7_speeds_66 rfl rfl ?_
      refine wp_iload_n (i := 2) dX7_speeds_67 rfl rfl ?_
      obtain ⟨m3, em3, h⟩ := HI.bind h
      refine wp_iastore dX7_speeds_68 em3 ?_
      refine wp_iload_n (i := 3) dX7_speeds_69 rfl rfl ?_
      exact wp_iret dX7_speeds_70 rfl rfl (Nat.le_of_ble_eq_true rfl) (Nat.le_of_ble_eq_true rfl) (HI.some h)
    · have h := HI.f c1 h
      refine wp_aload_n (i := 0) dX7_speeds_29 rfl rfl ?_
      obtain ⟨v4, ev4, h⟩ := HI.bind h
      refine wp_getR cl7 (f := 7) (by decide) rfl fl_X7_22 dX7_speeds_30 ev4 ?_
      refine wp_iload_n (i := 1) dX7_speeds_33 rfl rfl ?_
      refine wp_iload dX7_speeds_34 rfl ?_
      obtain ⟨m5, em5, h⟩ := HI.bind h
      refine wp_iastore dX7_speeds_36 em5 ?_
      refine wp_iload_n (i := 3) dX7_speeds_37 rfl rfl ?_
      refine wp_aload_n (i := 0) dX7_speeds_38 rfl rfl ?_
      refine wp_iload_n (i := 1) dX7_speeds_39 rfl rfl ?_
      obtain ⟨v7, ev7, h⟩ := HI.bind h
      obtain ⟨v6, ev6, h⟩ := HI.bind h
      refine cgV_i (Y' := Y_X7_isSo) (kc2 := 0) (ks2 := 0) dX7_speeds_40 ml_X7_210 ce_X7_isSo (t := 7) rfl (by decide) ⟨(Nat.le_of_ble_eq_true rfl), (Nat.le_of_ble_eq_true rfl)⟩ ⟨(Nat.le_of_ble_eq_true rfl), (Nat.le_of_ble_eq_true rfl)⟩ rfl rfl (chkT_eq ev7) (ct_X7_isSo ev6) rfl rfl (Nat.le_of_ble_eq_true rfl) ?_
      refine wp_if_eq (tgt := 53) dX7_speeds_43 (by decide) (fun c8 => ?_) (fun c8 => ?_)
      · have h := HI.t c8 h
        refine wp_iconst (v := 0) dX7_speeds_53 (by decide) ?_
        exact wp_weak [true, true, true, false, true] (w_X7_speeds_54 ih h)
      · have h := HI.f c8 h
        refine wp_iconst (v := 1) dX7_speeds_46 (by decide) ?_
        refine wp_iload dX7_speeds_47 rfl ?_
        refine wp_ishl dX7_speeds_49 ?_
        refine wp_goto (tgt := 54) dX7_speeds_50 (by decide) ?_
        exact wp_weak [true, true, true, false, true] (w_X7_speeds_54 ih h)
theorem ct_X7_speeds {D : DT} {l : Launch} {m : Mem} {x0 : Nat} {x1 : Int32} {r : (Int32 × Mem)} (h : F_X7_speeds x0 x1 m = some r) : Ct D l Y_X7_speeds [.ref x0, .int x1] m (fun (v : Option Value) (N : Mem) => v = some (Value.int r.1) ∧ N = r.2) := by
  refine ct_of (by decide) (by rfl) (ls0 := [.ref x0, .int x1, JK, JK, JK]) rfl rfl ?_
  have h : HI (F_X7_speeds x0 x1 m) (fun (v : Option Value) (N : Mem) => v = some (Value.int r.1) ∧ N = r.2) := ⟨r.1, r.2, h, rfl, rfl⟩
  revert h
  generalize (fun (v : Option Value) (N : Mem) => v = some (Value.int r.1) ∧ N = r.2) = post
  intro h
  refine wp_aload_n (i := 0) dX7_speeds_0 rfl rfl ?_
  refine wp_iload_n (i := 1) dX7_speeds_1 rfl rfl ?_
  obtain ⟨v10, ev10, h⟩ := HI.bind h
  obtain ⟨v9, ev9, h⟩ := HI.bind h
  refine cgV_i (Y' := Y_X7_isPerson) (kc2 := 0) (ks2 := 0) dX7_speeds_2 ml_X7_146 ce_X7_isPerson (t := 7) rfl (by decide) ⟨(Nat.le_of_ble_eq_true rfl), (Nat.le_of_ble_eq_true rfl)⟩ ⟨(Nat.le_of_ble_eq_true rfl), (Nat.le_of_ble_eq_true rfl)⟩ rfl rfl (chkT_eq ev10) (ct_X7_isPerson ev9) rfl rfl (Nat.le_of_ble_eq_true rfl) ?_
  refine wp_if_ne (tgt := 10) dX7_speeds_5 (by decide) (fun c11 => ?_) (fun c11 => ?_)
  · have h := HI.f c11 h
    refine wp_aload_n (i := 0) dX7_speeds_10 rfl rfl ?_
    obtain ⟨v12, ev12, h⟩ := HI.bind h
    refine wp_getR cl7 (f := 7) (by decide) rfl fl_X7_22 dX7_speeds_11 ev12 ?_
    refine wp_iload_n (i := 1) dX7_speeds_14 rfl rfl ?_
    obtain ⟨v13, ev13, h⟩ := HI.bind h
    refine wp_iaload dX7_speeds_15 ev13 ?_
    refine wp_istore_n (i := 2) dX7_speeds_16 rfl rfl rfl ?_
    refine wp_iconst (v := 0) dX7_speeds_17 (by decide) ?_
    refine wp_istore_n (i := 3) dX7_speeds_18 rfl rfl rfl ?_
    refine wp_iconst (v := 0) dX7_speeds_19 (by decide) ?_
    refine wp_istore dX7_speeds_20 rfl rfl ?_
    exact (w_X7_speeds_22 _ _ _ _ _ _ _ h)
  · have h := HI.t c11 h
    refine wp_iconst (v := -1) dX7_speeds_8 (by decide) ?_
    exact wp_iret dX7_speeds_9 rfl rfl (Nat.le_of_ble_eq_true rfl) (Nat.le_of_ble_eq_true rfl) (HI.some h)
theorem ct_X7_told {D : DT} {l : Launch} {m : Mem} {x0 : Nat} {x1 : Int32} {x2 : Int32} {r : (Int32 × Mem)} (h : F_X7_told x0 x1 x2 m = some r) : Ct D l Y_X7_told [.ref x0, .int x1, .int x2] m (fun (v : Option Value) (N : Mem) => v = some (Value.int r.1) ∧ N = r.2) := by
  refine ct_of (by decide) (by rfl) (ls0 := [.ref x0, .int x1, .int x2]) rfl rfl ?_
  have h : HI (F_X7_told x0 x1 x2 m) (fun (v : Option Value) (N : Mem) => v = some (Value.int r.1) ∧ N = r.2) := ⟨r.1, r.2, h, rfl, rfl⟩
  revert h
  generalize (fun (v : Option Value) (N : Mem) => v = some (Value.int r.1) ∧ N = r.2) = post
  intro h
  refine wp_iload_n (i := 1) dX7_told_0 rfl rfl ?_
  refine wp_iconst (v := 0) dX7_told_1 (by decide) ?_
  refine wp_bipush (v := 24) dX7_told_2 (by decide) ?_
  obtain ⟨v1, ev1, h⟩ := HI.bind h
  refine cgS_i (Y' := Y_X7_in) (kc2 := 0) (ks2 := 0) dX7_told_4 ml_X7_72 ce_X7_in ⟨(Nat.le_of_ble_eq_true rfl), (Nat.le_of_ble_eq_true rfl)⟩ ⟨(Nat.le_of_ble_eq_true rfl), (Nat.le_of_ble_eq_true rfl)⟩ rfl rfl (ct_X7_in ev1) rfl rfl (Nat.le_of_ble_eq_true rfl) ?_
  refine wp_if_eq (tgt := 20) dX7_told_7 (by decide) (fun c2 => ?_) (fun c2 => ?_)
  · have h := HI.t c2 h
    refine wp_iconst (v := -1) dX7_told_20 (by decide) ?_
    exact wp_iret dX7_told_21 rfl rfl (Nat.le_of_ble_eq_true rfl) (Nat.le_of_ble_eq_true rfl) (HI.some h)
  · have h := HI.f c2 h
    refine wp_iload_n (i := 2) dX7_told_10 rfl rfl ?_
    refine wp_iconst (v := 0) dX7_told_11 (by decide) ?_
    refine wp_bipush (v := 11) dX7_told_12 (by decide) ?_
    obtain ⟨v3, ev3, h⟩ := HI.bind h
    refine cgS_i (Y' := Y_X7_in) (kc2 := 0) (ks2 := 0) dX7_told_14 ml_X7_72 ce_X7_in ⟨(Nat.le_of_ble_eq_true rfl), (Nat.le_of_ble_eq_true rfl)⟩ ⟨(Nat.le_of_ble_eq_true rfl), (Nat.le_of_ble_eq_true rfl)⟩ rfl rfl (ct_X7_in ev3) rfl rfl (Nat.le_of_ble_eq_true rfl) ?_
    refine wp_if_ne (tgt := 22) dX7_told_17 (by decide) (fun c4 => ?_) (fun c4 => ?_)
    · have h := HI.f c4 h
      refine wp_aload_n (i := 0) dX7_told_22 rfl rfl ?_
      obtain ⟨v5, ev5, h⟩ := HI.bind h
      refine wp_getI cl7 (f := 12) (by decide) rfl fl_X7_118 dX7_told_23 ev5 ?_
      refine wp_bipush (v := 6) dX7_told_26 (by decide) ?_
      refine wp_icmp_ne (tgt := 34) dX7_told_28 (by decide) (fun c6 => ?_) (fun c6 => ?_)
      · have h := HI.f c6 h
        refine wp_aload_n (i := 0) dX7_told_34 rfl rfl ?_
        obtain ⟨v7, ev7, h⟩ := HI.bind h
        refine wp_getR cl7 (f := 13) (by decide) rfl fl_X7_34 dX7_told_35 ev7 ?_
        refine wp_aload_n (i := 0) dX7_told_38 rfl rfl ?_
        obtain ⟨v8, ev8, h⟩ := HI.bind h
        refine wp_getI cl7 (f := 12) (by decide) rfl fl_X7_118 dX7_told_39 ev8 ?_
        refine wp_iload_n (i := 1) dX7_told_42 rfl rfl ?_
        obtain ⟨m9, em9, h⟩ := HI.bind h
        refine wp_iastore dX7_told_43 em9 ?_
        refine wp_aload_n (i := 0) dX7_told_44 rfl rfl ?_
        obtain ⟨v10, ev10, h⟩ := HI.bind h
        refine wp_getR cl7 (f := 14) (by decide) rfl fl_X7_37 dX7_told_45 ev10 ?_
        refine wp_aload_n (i := 0) dX7_told_48 rfl rfl ?_
        obtain ⟨v11, ev11, h⟩ := HI.bind h
        refine wp_getI cl7 (f := 12) (by decide) rfl fl_X7_118 dX7_told_49 ev11 ?_
        refine wp_iload_n (i := 2) dX7_told_52 rfl rfl ?_
        obtain ⟨m12, em12, h⟩ := HI.bind h
        refine wp_iastore dX7_told_53 em12 ?_
        refine wp_aload_n (i := 0) dX7_told_54 rfl rfl ?_
        refine wp_dup dX7_told_55 rfl ?_
        obtain ⟨v13, ev13, h⟩ := HI.bind h
        refine wp_getI cl7 (f := 12) (by decide) rfl fl_X7_118 dX7_told_56 ev13 ?_
        refine wp_iconst (v := 1) dX7_told_59 (by decide) ?_
        refine wp_iadd dX7_told_60 ?_
        obtain ⟨m14, em14, h⟩ := HI.bind h
        refine wp_putI cl7 (f := 12) (by decide) rfl fl_X7_118 (Or.inl rfl) dX7_told_61 em14 ?_
        refine wp_aload_n (i := 0) dX7_told_64 rfl rfl ?_
        obtain ⟨v15, ev15, h⟩ := HI.bind h
        refine wp_getI cl7 (f := 12) (by decide) rfl fl_X7_118 dX7_told_65 ev15 ?_
        exact wp_iret dX7_told_68 rfl rfl (Nat.le_of_ble_eq_true rfl) (Nat.le_of_ble_eq_true rfl) (HI.some h)
      · have h := HI.t c6 h
        refine wp_bipush (v := -3) dX7_told_31 (by decide) ?_
        exact wp_iret dX7_told_33 rfl rfl (Nat.le_of_ble_eq_true rfl) (Nat.le_of_ble_eq_true rfl) (HI.some h)
    · have h := HI.t c4 h
      refine wp_iconst (v := -1) dX7_told_20 (by decide) ?_
      exact wp_iret dX7_told_21 rfl rfl (Nat.le_of_ble_eq_true rfl) (Nat.le_of_ble_eq_true rfl) (HI.some h)
theorem w_X7_isRing_47 {D : DT} {l : Launch} {post : Option Value → Mem → Prop} {m : Mem} {r5 : Nat → Int32 → Int32 → Int32 → Int32 → Option Int32} (hr5 : ∀ (x0 : Nat) (x1 : Int32) (x2 : Int32) (x3 : Int32) (x4 : Int32), PI m (r5 x0 x1 x2 x3 x4) post → WP D l Y_X7_isRing 0 0 5 [.ref x0, .int x1, .int x2, .int x3, .int x4] [] m post) {x0 : Nat} {x1 : Int32} {x2 : Int32} {x4 : Int32} {s0 : Int32} (h : PI m (F_X7_isRing_47 m r5 x0 x1 x2 x4 s0) post) : WP D l Y_X7_isRing 0 0 47 [.ref x0, .int x1, .int x2, JK, .int x4] [.int s0] m post := by
  refine wp_istore_n (i := 3) dX7_isRing_47 rfl rfl rfl ?_
  refine wp_iinc (v := 1) dX7_isRing_48 rfl (by decide) rfl rfl ?_
  refine wp_goto (tgt := 5) dX7_isRing_51 (by decide) ?_
  exact (hr5 _ _ _ _ _ h)
theorem w_X7_isRing_46 {D : DT} {l : Launch} {post : Option Value → Mem → Prop} {m : Mem} {r5 : Nat → Int32 → Int32 → Int32 → Int32 → Option Int32} (hr5 : ∀ (x0 : Nat) (x1 : Int32) (x2 : Int32) (x3 : Int32) (x4 : Int32), PI m (r5 x0 x1 x2 x3 x4) post → WP D l Y_X7_isRing 0 0 5 [.ref x0, .int x1, .int x2, .int x3, .int x4] [] m post) {x0 : Nat} {x1 : Int32} {x2 : Int32} {x4 : Int32} (h : PI m (F_X7_isRing_46 m r5 x0 x1 x2 x4) post) : WP D l Y_X7_isRing 0 0 46 [.ref x0, .int x1, .int x2, JK, .int x4] [] m post := by
  refine wp_iconst (v := 0) dX7_isRing_46 (by decide) ?_
  exact (w_X7_isRing_47 hr5 h)
theorem w_X7_isRing_5 {D : DT} {l : Launch} {post : Option Value → Mem → Prop} {m : Mem} : ∀ (n : Nat) (x0 : Nat) (x1 : Int32) (x2 : Int32) (x3 : Int32) (x4 : Int32), PI m (F_X7_isRing_5 m n x0 x1 x2 x3 x4) post → WP D l Y_X7_isRing 0 0 5 [.ref x0, .int x1, .int x2, .int x3, .int x4] [] m post := by
  intro n
  induction n with
  | zero => intro x0 x1 x2 x3 x4 h; exact (PI.none h).elim
  | succ n ih =>
    intro x0 x1 x2 x3 x4 h
    refine wp_iload dX7_isRing_5 rfl ?_
    refine wp_aload_n (i := 0) dX7_isRing_7 rfl rfl ?_
    obtain ⟨v1, ev1, h⟩ := PI.bind h
    refine wp_getI cl7 (f := 12) (by decide) rfl fl_X7_118 dX7_isRing_8 ev1 ?_
    refine wp_icmp_ge (tgt := 54) dX7_isRing_11 (by decide) (fun c2 => ?_) (fun c2 => ?_)
    · have h := PI.t c2 h
      refine wp_iload_n (i := 3) dX7_isRing_54 rfl rfl ?_
      obtain ⟨v3, ev3, h⟩ := PI.bind h
      exact wp_iret dX7_isRing_55 rfl (rN_of ev3) (Nat.le_of_ble_eq_true rfl) (Nat.le_of_ble_eq_true rfl) (PI.some h)
    · have h := PI.f c2 h
      refine wp_iload_n (i := 3) dX7_isRing_14 rfl rfl ?_
      refine wp_if_eq (tgt := 46) dX7_isRing_15 (by decide) (fun c4 => ?_) (fun c4 => ?_)
      · have h := PI.t c4 h
        exact wp_weak [true, true, true, false, true] (w_X7_isRing_46 ih h)
      · have h := PI.f c4 h
        refine wp_iload_n (i := 1) dX7_isRing_18 rfl rfl ?_
        refine wp_aload_n (i := 0) dX7_isRing_19 rfl rfl ?_
        obtain ⟨v5, ev5, h⟩ := PI.bind h
        refine wp_getR cl7 (f := 13) (by decide) rfl fl_X7_34 dX7_isRing_20 ev5 ?_
        refine wp_iload dX7_isRing_23 rfl ?_
        obtain ⟨v6, ev6, h⟩ := PI.bind h
        refine wp_iaload dX7_isRing_25 ev6 ?_
        refine wp_iload_n (i := 2) dX7_isRing_26 rfl rfl ?_
        refine wp_imul dX7_isRing_27 ?_
        refine wp_iadd dX7_isRing_28 ?_
        refine wp_bipush (v := 12) dX7_isRing_29 (by decide) ?_
        refine wp_irem dX7_isRing_31 (by decide) ?_
        refine wp_aload_n (i := 0) dX7_isRing_32 rfl rfl ?_
        obtain ⟨v7, ev7, h⟩ := PI.bind h
        refine wp_getR cl7 (f := 14) (by decide) rfl fl_X7_37 dX7_isRing_33 ev7 ?_
        refine wp_iload dX7_isRing_36 rfl ?_
        obtain ⟨v8, ev8, h⟩ := PI.bind h
        refine wp_iaload dX7_isRing_38 ev8 ?_
        refine wp_icmp_ne (tgt := 46) dX7_isRing_39 (by decide) (fun c9 => ?_) (fun c9 => ?_)
        · have h := PI.f c9 h
          exact wp_weak [true, true, true, false, true] (w_X7_isRing_46 ih h)
        · have h := PI.t c9 h
          refine wp_iconst (v := 1) dX7_isRing_42 (by decide) ?_
          refine wp_goto (tgt := 47) dX7_isRing_43 (by decide) ?_
          exact wp_weak [true, true, true, false, true] (w_X7_isRing_47 ih h)
theorem ct_X7_isRing {D : DT} {l : Launch} {m : Mem} {x0 : Nat} {x1 : Int32} {x2 : Int32} {r : Int32} (h : F_X7_isRing x0 x1 x2 m = some r) : Ct D l Y_X7_isRing [.ref x0, .int x1, .int x2] m (fun (v : Option Value) (N : Mem) => v = some (Value.int r) ∧ N = m) := by
  refine ct_of (by decide) (by rfl) (ls0 := [.ref x0, .int x1, .int x2, JK, JK]) rfl rfl ?_
  have h : PI m (F_X7_isRing x0 x1 x2 m) (fun (v : Option Value) (N : Mem) => v = some (Value.int r) ∧ N = m) := ⟨r, h, rfl, rfl⟩
  revert h
  generalize (fun (v : Option Value) (N : Mem) => v = some (Value.int r) ∧ N = m) = post
  intro h
  refine wp_iconst (v := 1) dX7_isRing_0 (by decide) ?_
  refine wp_istore_n (i := 3) dX7_isRing_1 rfl rfl rfl ?_
  refine wp_iconst (v := 0) dX7_isRing_2 (by decide) ?_
  refine wp_istore dX7_isRing_3 rfl rfl ?_
  exact (w_X7_isRing_5 _ _ _ _ _ _ h)
theorem w_X7_rings_73 {D : DT} {l : Launch} {post : Option Value → Mem → Prop} {m : Mem} {r20 : Nat → Int32 → Int32 → Int32 → Int32 → Option Int32} {r29 : Nat → Int32 → Int32 → Int32 → Int32 → Int32 → Option Int32} (hr20 : ∀ (x0 : Nat) (x1 : Int32) (x2 : Int32) (x3 : Int32) (x4 : Int32), PI m (r20 x0 x1 x2 x3 x4) post → WP D l Y_X7_rings 0 0 20 [.ref x0, .int x1, .int x2, .int x3, .int x4, JK, JK] [] m post) (hr29 : ∀ (x0 : Nat) (x1 : Int32) (x2 : Int32) (x3 : Int32) (x4 : Int32) (x5 : Int32), PI m (r29 x0 x1 x2 x3 x4 x5) post → WP D l Y_X7_rings 0 0 29 [.ref x0, .int x1, .int x2, .int x3, .int x4, .int x5, JK] [] m post) {x0 : Nat} {x1 : Int32} {x3 : Int32} {x4 : Int32} {x5 : Int32} {s0 : Int32} {s1 : Int32} (h : PI m (F_X7_rings_73 m r20 r29 x0 x1 x3 x4 x5 s0 s1) post) : WP D l Y_X7_rings 0 0 73 [.ref x0, .int x1, JK, .int x3, .int x4, .int x5, JK] [.int s1, .int s0] m post := by
  refine wp_iadd dX7_rings_73 ?_
  refine wp_istore_n (i := 2) dX7_rings_74 rfl rfl rfl ?_
  refine wp_iinc (v := (-1)) dX7_rings_75 rfl (by decide) rfl rfl ?_
  refine wp_goto (tgt := 29) dX7_rings_78 (by decide) ?_
  exact (hr29 _ _ _ _ _ _ h)
theorem w_X7_rings_61 {D : DT} {l : Launch} {post : Option Value → Mem → Prop} {m : Mem} {r20 : Nat → Int32 → Int32 → Int32 → Int32 → Option Int32} {r29 : Nat → Int32 → Int32 → Int32 → Int32 → Int32 → Option Int32} (hr20 : ∀ (x0 : Nat) (x1 : Int32) (x2 : Int32) (x3 : Int32) (x4 : Int32), PI m (r20 x0 x1 x2 x3 x4) post → WP D l Y_X7_rings 0 0 20 [.ref x0, .int x1, .int x2, .int x3, .int x4, JK, JK] [] m post) (hr29 : ∀ (x0 : Nat) (x1 : Int32) (x2 : Int32) (x3 : Int32) (x4 : Int32) (x5 : Int32), PI m (r29 x0 x1 x2 x3 x4 x5) post → WP D l Y_X7_rings 0 0 29 [.ref x0, .int x1, .int x2, .int x3, .int x4, .int x5, JK] [] m post) {x0 : Nat} {x1 : Int32} {x2 : Int32} {x4 : Int32} {x5 : Int32} {x6 : Int32} {s0 : Int32} (h : PI m (F_X7_rings_61 m r20 r29 x0 x1 x2 x4 x5 x6 s0) post) : WP D l Y_X7_rings 0 0 61 [.ref x0, .int x1, .int x2, JK, .int x4, .int x5, .int x6] [.int s0] m post := by
  refine wp_istore_n (i := 3) dX7_rings_61 rfl rfl rfl ?_
  refine wp_iload_n (i := 2) dX7_rings_62 rfl rfl ?_
  refine wp_iload dX7_rings_63 rfl ?_
  refine wp_if_eq (tgt := 72) dX7_rings_65 (by decide) (fun c1 => ?_) (fun c1 => ?_)
  · have h := PI.t c1 h
    refine wp_iconst (v := 0) dX7_rings_72 (by decide) ?_
    exact wp_weak [true, true, false, true, true, true, false] (w_X7_rings_73 hr20 hr29 h)
  · have h := PI.f c1 h
    refine wp_iconst (v := 1) dX7_rings_68 (by decide) ?_
    refine wp_goto (tgt := 73) dX7_rings_69 (by decide) ?_
    exact wp_weak [true, true, false, true, true, true, false] (w_X7_rings_73 hr20 hr29 h)
theorem w_X7_rings_29 {D : DT} {l : Launch} {post : Option Value → Mem → Prop} {m : Mem} {r20 : Nat → Int32 → Int32 → Int32 → Int32 → Option Int32} (hr20 : ∀ (x0 : Nat) (x1 : Int32) (x2 : Int32) (x3 : Int32) (x4 : Int32), PI m (r20 x0 x1 x2 x3 x4) post → WP D l Y_X7_rings 0 0 20 [.ref x0, .int x1, .int x2, .int x3, .int x4, JK, JK] [] m post) : ∀ (n : Nat) (x0 : Nat) (x1 : Int32) (x2 : Int32) (x3 : Int32) (x4 : Int32) (x5 : Int32), PI m (F_X7_rings_29 m r20 n x0 x1 x2 x3 x4 x5) post → WP D l Y_X7_rings 0 0 29 [.ref x0, .int x1, .int x2, .int x3, .int x4, .int x5, JK] [] m post := by
  intro n
  induction n with
  | zero => intro x0 x1 x2 x3 x4 x5 h; exact (PI.none h).elim
  | succ n ih =>
    intro x0 x1 x2 x3 x4 x5 h
    refine wp_iload dX7_rings_29 rfl ?_
    refine wp_if_lt (tgt := 81) dX7_rings_31 (by decide) (fun c2 => ?_) (fun c2 => ?_)
    · have h := PI.t c2 h
      refine wp_iinc (v := (-1)) dX7_rings_81 rfl (by decide) rfl rfl ?_
      refine wp_goto (tgt := 20) dX7_rings_84 (by decide) ?_
      exact wp_weak [true, true, true, true, true, false, true] (hr20 _ _ _ _ _ h)
    · have h := PI.f c2 h
      refine wp_aload_n (i := 0) dX7_rings_34 rfl rfl ?_
      refine wp_iload dX7_rings_35 rfl ?_
      refine wp_iload dX7_rings_37 rfl ?_
      obtain ⟨v4, ev4, h⟩ := PI.bind h
      obtain ⟨v3, ev3, h⟩ := PI.bind h
      refine cgV_i (Y' := Y_X7_isRing) (kc2 := 0) (ks2 := 0) dX7_rings_39 ml_X7_213 ce_X7_isRing (t := 7) rfl (by decide) ⟨(Nat.le_of_ble_eq_true rfl), (Nat.le_of_ble_eq_true rfl)⟩ ⟨(Nat.le_of_ble_eq_true rfl), (Nat.le_of_ble_eq_true rfl)⟩ rfl rfl (chkT_eq ev4) (ct_X7_isRing ev3) rfl rfl (Nat.le_of_ble_eq_true rfl) ?_
      refine wp_istore dX7_rings_42 rfl rfl ?_
      refine wp_iload dX7_rings_44 rfl ?_
      refine wp_if_eq (tgt := 60) dX7_rings_46 (by decide) (fun c5 => ?_) (fun c5 => ?_)
      · have h := PI.t c5 h
        refine wp_iload_n (i := 3) dX7_rings_60 rfl rfl ?_
        exact wp_weak [true, true, true, false, true, true, true] (w_X7_rings_61 hr20 ih h)
      · have h := PI.f c5 h
        refine wp_bipush (v := 12) dX7_rings_49 (by decide) ?_
        refine wp_iload dX7_rings_51 rfl ?_
        refine wp_imul dX7_rings_53 ?_
        refine wp_iload dX7_rings_54 rfl ?_
        refine wp_iadd dX7_rings_56 ?_
        refine wp_goto (tgt := 61) dX7_rings_57 (by decide) ?_
        exact wp_weak [true, true, true, false, true, true, true] (w_X7_rings_61 hr20 ih h)
theorem w_X7_rings_20 {D : DT} {l : Launch} {post : Option Value → Mem → Prop} {m : Mem} : ∀ (n : Nat) (x0 : Nat) (x1 : Int32) (x2 : Int32) (x3 : Int32) (x4 : Int32), PI m (F_X7_rings_20 m n x0 x1 x2 x3 x4) post → WP D l Y_X7_rings 0 0 20 [.ref x0, .int x1, .int x2, .int x3, .int x4, JK, JK] [] m post := by
  intro n
  induction n with
  | zero => intro x0 x1 x2 x3 x4 h; exact (PI.none h).elim
  | succ n ih =>
    intro x0 x1 x2 x3 x4 h
    refine wp_iload dX7_rings_20 rfl ?_
    refine wp_if_lt (tgt := 87) dX7_rings_22 (by decide) (fun c6 => ?_) (fun c6 => ?_)
    · have h := PI.t c6 h
      refine wp_iload_n (i := 1) dX7_rings_87 rfl rfl ?_
      refine wp_if_ne (tgt := 95) dX7_rings_88 (by decide) (fun c7 => ?_) (fun c7 => ?_)
      · have h := PI.f c7 h
        refine wp_iload_n (i := 3) dX7_rings_95 rfl rfl ?_
        exact wp_iret dX7_rings_96 rfl rfl (Nat.le_of_ble_eq_true rfl) (Nat.le_of_ble_eq_true rfl) (PI.some h)
      · have h := PI.t c7 h
        refine wp_iload_n (i := 2) dX7_rings_91 rfl rfl ?_
        refine wp_goto (tgt := 96) dX7_rings_92 (by decide) ?_
        exact wp_iret dX7_rings_96 rfl rfl (Nat.le_of_ble_eq_true rfl) (Nat.le_of_ble_eq_true rfl) (PI.some h)
    · have h := PI.f c6 h
      refine wp_bipush (v := 11) dX7_rings_25 (by decide) ?_
      refine wp_istore dX7_rings_27 rfl rfl ?_
      exact (w_X7_rings_29 ih _ _ _ _ _ _ _ h)
theorem ct_X7_rings {D : DT} {l : Launch} {m : Mem} {x0 : Nat} {x1 : Int32} {r : Int32} (h : F_X7_rings x0 x1 m = some r) : Ct D l Y_X7_rings [.ref x0, .int x1] m (fun (v : Option Value) (N : Mem) => v = some (Value.int r) ∧ N = m) := by
  refine ct_of (by decide) (by rfl) (ls0 := [.ref x0, .int x1, JK, JK, JK, JK, JK]) rfl rfl ?_
  have h : PI m (F_X7_rings x0 x1 m) (fun (v : Option Value) (N : Mem) => v = some (Value.int r) ∧ N = m) := ⟨r, h, rfl, rfl⟩
  revert h
  generalize (fun (v : Option Value) (N : Mem) => v = some (Value.int r) ∧ N = m) = post
  intro h
  refine wp_iload_n (i := 1) dX7_rings_0 rfl rfl ?_
  refine wp_iconst (v := 0) dX7_rings_1 (by decide) ?_
  refine wp_iconst (v := 1) dX7_rings_2 (by decide) ?_
  obtain ⟨v8, ev8, h⟩ := PI.bind h
  refine cgS_i (Y' := Y_X7_in) (kc2 := 0) (ks2 := 0) dX7_rings_3 ml_X7_72 ce_X7_in ⟨(Nat.le_of_ble_eq_true rfl), (Nat.le_of_ble_eq_true rfl)⟩ ⟨(Nat.le_of_ble_eq_true rfl), (Nat.le_of_ble_eq_true rfl)⟩ rfl rfl (ct_X7_in ev8) rfl rfl (Nat.le_of_ble_eq_true rfl) ?_
  refine wp_if_ne (tgt := 11) dX7_rings_6 (by decide) (fun c9 => ?_) (fun c9 => ?_)
  · have h := PI.f c9 h
    refine wp_iconst (v := 0) dX7_rings_11 (by decide) ?_
    refine wp_istore_n (i := 2) dX7_rings_12 rfl rfl rfl ?_
    refine wp_bipush (v := -4) dX7_rings_13 (by decide) ?_
    refine wp_istore_n (i := 3) dX7_rings_15 rfl rfl rfl ?_
    refine wp_bipush (v := 11) dX7_rings_16 (by decide) ?_
    refine wp_istore dX7_rings_18 rfl rfl ?_
    exact (w_X7_rings_20 _ _ _ _ _ _ h)
  · have h := PI.t c9 h
    refine wp_iconst (v := -1) dX7_rings_9 (by decide) ?_
    exact wp_iret dX7_rings_10 rfl rfl (Nat.le_of_ble_eq_true rfl) (Nat.le_of_ble_eq_true rfl) (PI.some h)
theorem w_X7_yardsBehind_46 {D : DT} {l : Launch} {post : Option Value → Mem → Prop} {m : Mem} {r4 : Nat → Int32 → Int32 → Int32 → Option Int32} {r13 : Nat → Int32 → Int32 → Int32 → Int32 → Option Int32} (hr4 : ∀ (x0 : Nat) (x1 : Int32) (x2 : Int32) (x3 : Int32), PI m (r4 x0 x1 x2 x3) post → WP D l Y_X7_yardsBehind 0 0 4 [.ref x0, .int x1, .int x2, .int x3, JK] [] m post) (hr13 : ∀ (x0 : Nat) (x1 : Int32) (x2 : Int32) (x3 : Int32) (x4 : Int32), PI m (r13 x0 x1 x2 x3 x4) post → WP D l Y_X7_yardsBehind 0 0 13 [.ref x0, .int x1, .int x2, .int x3, .int x4] [] m post) {x0 : Nat} {x1 : Int32} {x3 : Int32} {x4 : Int32} {s0 : Int32} {s1 : Int32} (h : PI m (F_X7_yardsBehind_46 m r4 r13 x0 x1 x3 x4 s0 s1) post) : WP D l Y_X7_yardsBehind 0 0 46 [.ref x0, .int x1, JK, .int x3, .int x4] [.int s1, .int s0] m post := by
  refine wp_ior dX7_yardsBehind_46 ?_
  refine wp_istore_n (i := 2) dX7_yardsBehind_47 rfl rfl rfl ?_
  refine wp_iinc (v := 1) dX7_yardsBehind_48 rfl (by decide) rfl rfl ?_
  refine wp_goto (tgt := 13) dX7_yardsBehind_51 (by decide) ?_
  exact (hr13 _ _ _ _ _ h)
theorem w_X7_yardsBehind_13 {D : DT} {l : Launch} {post : Option Value → Mem → Prop} {m : Mem} {r4 : Nat → Int32 → Int32 → Int32 → Option Int32} (hr4 : ∀ (x0 : Nat) (x1 : Int32) (x2 : Int32) (x3 : Int32), PI m (r4 x0 x1 x2 x3) post → WP D l Y_X7_yardsBehind 0 0 4 [.ref x0, .int x1, .int x2, .int x3, JK] [] m post) : ∀ (n : Nat) (x0 : Nat) (x1 : Int32) (x2 : Int32) (x3 : Int32) (x4 : Int32), PI m (F_X7_yardsBehind_13 m r4 n x0 x1 x2 x3 x4) post → WP D l Y_X7_yardsBehind 0 0 13 [.ref x0, .int x1, .int x2, .int x3, .int x4] [] m post := by
  intro n
  induction n with
  | zero => intro x0 x1 x2 x3 x4 h; exact (PI.none h).elim
  | succ n ih =>
    intro x0 x1 x2 x3 x4 h
    refine wp_iload dX7_yardsBehind_13 rfl ?_
    refine wp_bipush (v := 12) dX7_yardsBehind_15 (by decide) ?_
    refine wp_icmp_ge (tgt := 54) dX7_yardsBehind_17 (by decide) (fun c1 => ?_) (fun c1 => ?_)
    · have h := PI.t c1 h
      refine wp_iinc (v := 1) dX7_yardsBehind_54 rfl (by decide) rfl rfl ?_
      refine wp_goto (tgt := 4) dX7_yardsBehind_57 (by decide) ?_
      exact wp_weak [true, true, true, true, false] (hr4 _ _ _ _ h)
    · have h := PI.f c1 h
      refine wp_iload_n (i := 2) dX7_yardsBehind_20 rfl rfl ?_
      refine wp_aload_n (i := 0) dX7_yardsBehind_21 rfl rfl ?_
      refine wp_iload_n (i := 3) dX7_yardsBehind_22 rfl rfl ?_
      refine wp_iload dX7_yardsBehind_23 rfl ?_
      obtain ⟨v3, ev3, h⟩ := PI.bind h
      obtain ⟨v2, ev2, h⟩ := PI.bind h
      refine cgV_i (Y' := Y_X7_isRing) (kc2 := 0) (ks2 := 0) dX7_yardsBehind_25 ml_X7_213 ce_X7_isRing (t := 7) rfl (by decide) ⟨(Nat.le_of_ble_eq_true rfl), (Nat.le_of_ble_eq_true rfl)⟩ ⟨(Nat.le_of_ble_eq_true rfl), (Nat.le_of_ble_eq_true rfl)⟩ rfl rfl (chkT_eq ev3) (ct_X7_isRing ev2) rfl rfl (Nat.le_of_ble_eq_true rfl) ?_
      refine wp_if_eq (tgt := 45) dX7_yardsBehind_28 (by decide) (fun c4 => ?_) (fun c4 => ?_)
      · have h := PI.t c4 h
        refine wp_iconst (v := 0) dX7_yardsBehind_45 (by decide) ?_
        exact wp_weak [true, true, false, true, true] (w_X7_yardsBehind_46 hr4 ih h)
      · have h := PI.f c4 h
        refine wp_iconst (v := 1) dX7_yardsBehind_31 (by decide) ?_
        refine wp_iload_n (i := 3) dX7_yardsBehind_32 rfl rfl ?_
        refine wp_iload_n (i := 1) dX7_yardsBehind_33 rfl rfl ?_
        refine wp_iload dX7_yardsBehind_34 rfl ?_
        refine wp_imul dX7_yardsBehind_36 ?_
        refine wp_iadd dX7_yardsBehind_37 ?_
        refine wp_bipush (v := 12) dX7_yardsBehind_38 (by decide) ?_
        refine wp_irem dX7_yardsBehind_40 (by decide) ?_
        refine wp_ishl dX7_yardsBehind_41 ?_
        refine wp_goto (tgt := 46) dX7_yardsBehind_42 (by decide) ?_
        exact wp_weak [true, true, false, true, true] (w_X7_yardsBehind_46 hr4 ih h)
theorem w_X7_yardsBehind_4 {D : DT} {l : Launch} {post : Option Value → Mem → Prop} {m : Mem} : ∀ (n : Nat) (x0 : Nat) (x1 : Int32) (x2 : Int32) (x3 : Int32), PI m (F_X7_yardsBehind_4 m n x0 x1 x2 x3) post → WP D l Y_X7_yardsBehind 0 0 4 [.ref x0, .int x1, .int x2, .int x3, JK] [] m post := by
  intro n
  induction n with
  | zero => intro x0 x1 x2 x3 h; exact (PI.none h).elim
  | succ n ih =>
    intro x0 x1 x2 x3 h
    refine wp_iload_n (i := 3) dX7_yardsBehind_4 rfl rfl ?_
    refine wp_bipush (v := 12) dX7_yardsBehind_5 (by decide) ?_
    refine wp_icmp_ge (tgt := 60) dX7_yardsBehind_7 (by decide) (fun c5 => ?_) (fun c5 => ?_)
    · have h := PI.t c5 h
      refine wp_iload_n (i := 2) dX7_yardsBehind_60 rfl rfl ?_
      obtain ⟨v6, ev6, h⟩ := PI.bind h
      refine cgS_i (Y' := Y_X7_bits) (kc2 := 0) (ks2 := 0) dX7_yardsBehind_61 ml_X7_174 ce_X7_bits ⟨(Nat.le_of_ble_eq_true rfl), (Nat.le_of_ble_eq_true rfl)⟩ ⟨(Nat.le_of_ble_eq_true rfl), (Nat.le_of_ble_eq_true rfl)⟩ rfl rfl (ct_X7_bits ev6) rfl rfl (Nat.le_of_ble_eq_true rfl) ?_
      exact wp_iret dX7_yardsBehind_64 rfl rfl (Nat.le_of_ble_eq_true rfl) (Nat.le_of_ble_eq_true rfl) (PI.some h)
    · have h := PI.f c5 h
      refine wp_iconst (v := 0) dX7_yardsBehind_10 (by decide) ?_
      refine wp_istore dX7_yardsBehind_11 rfl rfl ?_
      exact (w_X7_yardsBehind_13 ih _ _ _ _ _ _ h)
theorem ct_X7_yardsBehind {D : DT} {l : Launch} {m : Mem} {x0 : Nat} {x1 : Int32} {r : Int32} (h : F_X7_yardsBehind x0 x1 m = some r) : Ct D l Y_X7_yardsBehind [.ref x0, .int x1] m (fun (v : Option Value) (N : Mem) => v = some (Value.int r) ∧ N = m) := by
  refine ct_of (by decide) (by rfl) (ls0 := [.ref x0, .int x1, JK, JK, JK]) rfl rfl ?_
  have h : PI m (F_X7_yardsBehind x0 x1 m) (fun (v : Option Value) (N : Mem) => v = some (Value.int r) ∧ N = m) := ⟨r, h, rfl, rfl⟩
  revert h
  generalize (fun (v : Option Value) (N : Mem) => v = some (Value.int r) ∧ N = m) = post
  intro h
  refine wp_iconst (v := 0) dX7_yardsBehind_0 (by decide) ?_
  refine wp_istore_n (i := 2) dX7_yardsBehind_1 rfl rfl rfl ?_
  refine wp_iconst (v := 0) dX7_yardsBehind_2 (by decide) ?_
  refine wp_istore_n (i := 3) dX7_yardsBehind_3 rfl rfl rfl ?_
  exact (w_X7_yardsBehind_4 _ _ _ _ _ h)
theorem w_X7_look_58 {D : DT} {l : Launch} {post : Option Value → Mem → Prop} {m : Mem} {r18 : Nat → Int32 → Int32 → Int32 → Int32 → Option Int32} (hr18 : ∀ (x0 : Nat) (x1 : Int32) (x2 : Int32) (x3 : Int32) (x4 : Int32), PI m (r18 x0 x1 x2 x3 x4) post → WP D l Y_X7_look 0 0 18 [.ref x0, .int x1, .int x2, .int x3, .int x4, JK] [] m post) {x0 : Nat} {x1 : Int32} {x2 : Int32} {x4 : Int32} {s0 : Int32} (h : PI m (F_X7_look_58 m r18 x0 x1 x2 x4 s0) post) : WP D l Y_X7_look 0 0 58 [.ref x0, .int x1, .int x2, JK, .int x4, JK] [.int s0] m post := by
  refine wp_istore_n (i := 3) dX7_look_58 rfl rfl rfl ?_
  refine wp_iinc (v := 1) dX7_look_59 rfl (by decide) rfl rfl ?_
  refine wp_goto (tgt := 18) dX7_look_62 (by decide) ?_
  exact (hr18 _ _ _ _ _ h)
theorem w_X7_look_45 {D : DT} {l : Launch} {post : Option Value → Mem → Prop} {m : Mem} {r18 : Nat → Int32 → Int32 → Int32 → Int32 → Option Int32} (hr18 : ∀ (x0 : Nat) (x1 : Int32) (x2 : Int32) (x3 : Int32) (x4 : Int32), PI m (r18 x0 x1 x2 x3 x4) post → WP D l Y_X7_look 0 0 18 [.ref x0, .int x1, .int x2, .int x3, .int x4, JK] [] m post) {x0 : Nat} {x1 : Int32} {x3 : Int32} {x4 : Int32} {x5 : Int32} {s0 : Int32} (h : PI m (F_X7_look_45 m r18 x0 x1 x3 x4 x5 s0) post) : WP D l Y_X7_look 0 0 45 [.ref x0, .int x1, JK, .int x3, .int x4, .int x5] [.int s0] m post := by
  refine wp_istore_n (i := 2) dX7_look_45 rfl rfl rfl ?_
  refine wp_iload dX7_look_46 rfl ?_
  refine wp_iload_n (i := 3) dX7_look_48 rfl rfl ?_
  refine wp_icmp_le (tgt := 57) dX7_look_49 (by decide) (fun c1 => ?_) (fun c1 => ?_)
  · have h := PI.t c1 h
    refine wp_iload_n (i := 3) dX7_look_57 rfl rfl ?_
    exact wp_weak [true, true, true, false, true, false] (w_X7_look_58 hr18 h)
  · have h := PI.f c1 h
    refine wp_iload dX7_look_52 rfl ?_
    refine wp_goto (tgt := 58) dX7_look_54 (by decide) ?_
    exact wp_weak [true, true, true, false, true, false] (w_X7_look_58 hr18 h)
theorem w_X7_look_18 {D : DT} {l : Launch} {post : Option Value → Mem → Prop} {m : Mem} : ∀ (n : Nat) (x0 : Nat) (x1 : Int32) (x2 : Int32) (x3 : Int32) (x4 : Int32), PI m (F_X7_look_18 m n x0 x1 x2 x3 x4) post → WP D l Y_X7_look 0 0 18 [.ref x0, .int x1, .int x2, .int x3, .int x4, JK] [] m post := by
  intro n
  induction n with
  | zero => intro x0 x1 x2 x3 x4 h; exact (PI.none h).elim
  | succ n ih =>
    intro x0 x1 x2 x3 x4 h
    refine wp_iload dX7_look_18 rfl ?_
    refine wp_bipush (v := 12) dX7_look_20 (by decide) ?_
    refine wp_icmp_gt (tgt := 65) dX7_look_22 (by decide) (fun c2 => ?_) (fun c2 => ?_)
    · have h := PI.t c2 h
      refine wp_iload_n (i := 1) dX7_look_65 rfl rfl ?_
      refine wp_if_ne (tgt := 73) dX7_look_66 (by decide) (fun c3 => ?_) (fun c3 => ?_)
      · have h := PI.f c3 h
        refine wp_iload_n (i := 3) dX7_look_73 rfl rfl ?_
        exact wp_iret dX7_look_74 rfl rfl (Nat.le_of_ble_eq_true rfl) (Nat.le_of_ble_eq_true rfl) (PI.some h)
      · have h := PI.t c3 h
        refine wp_iload_n (i := 2) dX7_look_69 rfl rfl ?_
        refine wp_goto (tgt := 74) dX7_look_70 (by decide) ?_
        exact wp_iret dX7_look_74 rfl rfl (Nat.le_of_ble_eq_true rfl) (Nat.le_of_ble_eq_true rfl) (PI.some h)
    · have h := PI.f c2 h
      refine wp_aload_n (i := 0) dX7_look_25 rfl rfl ?_
      refine wp_iload dX7_look_26 rfl ?_
      obtain ⟨v5, ev5, h⟩ := PI.bind h
      obtain ⟨v4, ev4, h⟩ := PI.bind h
      refine cgV_i (Y' := Y_X7_yardsBehind) (kc2 := 0) (ks2 := 0) dX7_look_28 ml_X7_216 ce_X7_yardsBehind (t := 7) rfl (by decide) ⟨(Nat.le_of_ble_eq_true rfl), (Nat.le_of_ble_eq_true rfl)⟩ ⟨(Nat.le_of_ble_eq_true rfl), (Nat.le_of_ble_eq_true rfl)⟩ rfl rfl (chkT_eq ev5) (ct_X7_yardsBehind ev4) rfl rfl (Nat.le_of_ble_eq_true rfl) ?_
      refine wp_istore dX7_look_31 rfl rfl ?_
      refine wp_iload dX7_look_33 rfl ?_
      refine wp_iload_n (i := 3) dX7_look_35 rfl rfl ?_
      refine wp_icmp_le (tgt := 44) dX7_look_36 (by decide) (fun c6 => ?_) (fun c6 => ?_)
      · have h := PI.t c6 h
        refine wp_iload_n (i := 2) dX7_look_44 rfl rfl ?_
        exact wp_weak [true, true, false, true, true, true] (w_X7_look_45 ih h)
      · have h := PI.f c6 h
        refine wp_iload dX7_look_39 rfl ?_
        refine wp_goto (tgt := 45) dX7_look_41 (by decide) ?_
        exact wp_weak [true, true, false, true, true, true] (w_X7_look_45 ih h)
theorem ct_X7_look {D : DT} {l : Launch} {m : Mem} {x0 : Nat} {x1 : Int32} {r : Int32} (h : F_X7_look x0 x1 m = some r) : Ct D l Y_X7_look [.ref x0, .int x1] m (fun (v : Option Value) (N : Mem) => v = some (Value.int r) ∧ N = m) := by
  refine ct_of (by decide) (by rfl) (ls0 := [.ref x0, .int x1, JK, JK, JK, JK]) rfl rfl ?_
  have h : PI m (F_X7_look x0 x1 m) (fun (v : Option Value) (N : Mem) => v = some (Value.int r) ∧ N = m) := ⟨r, h, rfl, rfl⟩
  revert h
  generalize (fun (v : Option Value) (N : Mem) => v = some (Value.int r) ∧ N = m) = post
  intro h
  refine wp_iload_n (i := 1) dX7_look_0 rfl rfl ?_
  refine wp_iconst (v := 0) dX7_look_1 (by decide) ?_
  refine wp_iconst (v := 1) dX7_look_2 (by decide) ?_
  obtain ⟨v7, ev7, h⟩ := PI.bind h
  refine cgS_i (Y' := Y_X7_in) (kc2 := 0) (ks2 := 0) dX7_look_3 ml_X7_72 ce_X7_in ⟨(Nat.le_of_ble_eq_true rfl), (Nat.le_of_ble_eq_true rfl)⟩ ⟨(Nat.le_of_ble_eq_true rfl), (Nat.le_of_ble_eq_true rfl)⟩ rfl rfl (ct_X7_in ev7) rfl rfl (Nat.le_of_ble_eq_true rfl) ?_
  refine wp_if_ne (tgt := 11) dX7_look_6 (by decide) (fun c8 => ?_) (fun c8 => ?_)
  · have h := PI.f c8 h
    refine wp_iconst (v := 0) dX7_look_11 (by decide) ?_
    refine wp_istore_n (i := 2) dX7_look_12 rfl rfl rfl ?_
    refine wp_iconst (v := 0) dX7_look_13 (by decide) ?_
    refine wp_istore_n (i := 3) dX7_look_14 rfl rfl rfl ?_
    refine wp_iconst (v := 0) dX7_look_15 (by decide) ?_
    refine wp_istore dX7_look_16 rfl rfl ?_
    exact (w_X7_look_18 _ _ _ _ _ _ h)
  · have h := PI.t c8 h
    refine wp_iconst (v := -1) dX7_look_9 (by decide) ?_
    exact wp_iret dX7_look_10 rfl rfl (Nat.le_of_ble_eq_true rfl) (Nat.le_of_ble_eq_true rfl) (PI.some h)
theorem ct_X7_forget {D : DT} {l : Launch} {m : Mem} {x0 : Nat} {r : (Int32 × Mem)} (h : F_X7_forget x0 m = some r) : Ct D l Y_X7_forget [.ref x0] m (fun (v : Option Value) (N : Mem) => v = some (Value.int r.1) ∧ N = r.2) := by
  refine ct_of (by decide) (by rfl) (ls0 := [.ref x0, JK]) rfl rfl ?_
  have h : HI (F_X7_forget x0 m) (fun (v : Option Value) (N : Mem) => v = some (Value.int r.1) ∧ N = r.2) := ⟨r.1, r.2, h, rfl, rfl⟩
  revert h
  generalize (fun (v : Option Value) (N : Mem) => v = some (Value.int r.1) ∧ N = r.2) = post
  intro h
  refine wp_aload_n (i := 0) dX7_forget_0 rfl rfl ?_
  obtain ⟨v1, ev1, h⟩ := HI.bind h
  refine wp_getI cl7 (f := 8) (by decide) rfl fl_X7_115 dX7_forget_1 ev1 ?_
  refine wp_aload_n (i := 0) dX7_forget_4 rfl rfl ?_
  obtain ⟨v2, ev2, h⟩ := HI.bind h
  refine wp_getI cl7 (f := 12) (by decide) rfl fl_X7_118 dX7_forget_5 ev2 ?_
  refine wp_iadd dX7_forget_8 ?_
  refine wp_istore_n (i := 1) dX7_forget_9 rfl rfl rfl ?_
  refine wp_aload_n (i := 0) dX7_forget_10 rfl rfl ?_
  refine wp_iconst (v := 0) dX7_forget_11 (by decide) ?_
  obtain ⟨m3, em3, h⟩ := HI.bind h
  refine wp_putI cl7 (f := 8) (by decide) rfl fl_X7_115 (Or.inl rfl) dX7_forget_12 em3 ?_
  refine wp_aload_n (i := 0) dX7_forget_15 rfl rfl ?_
  refine wp_iconst (v := 0) dX7_forget_16 (by decide) ?_
  obtain ⟨m4, em4, h⟩ := HI.bind h
  refine wp_putI cl7 (f := 12) (by decide) rfl fl_X7_118 (Or.inl rfl) dX7_forget_17 em4 ?_
  refine wp_iload_n (i := 1) dX7_forget_20 rfl rfl ?_
  exact wp_iret dX7_forget_21 rfl rfl (Nat.le_of_ble_eq_true rfl) (Nat.le_of_ble_eq_true rfl) (HI.some h)
theorem w_X7_common_6 {D : DT} {l : Launch} {post : Option Value → Mem → Prop} {m : Mem} : ∀ (n : Nat) (x4 : Int64) (x6 : Int64), PL m (F_X7_common_6 n x4 x6) post → WP D l Y_X7_common 0 0 6 [JK, JK, JK, JK, .long x4, JK, .long x6, JK, JK, JK] [] m post := by
  intro n
  induction n with
  | zero => intro x4 x6 h; exact (PL.none h).elim
  | succ n ih =>
    intro x4 x6 h
    refine wp_lload dX7_common_6 rfl ?_
    refine wp_lconst (v := 0) dX7_common_8 (by decide) ?_
    refine wp_lcmp dX7_common_9 ?_
    refine wp_if_eq (tgt := 31) dX7_common_10 (by decide) (fun c1 => ?_) (fun c1 => ?_)
    · have h := PL.t c1 h
      refine wp_lload dX7_common_31 rfl ?_
      exact wp_lret dX7_common_33 rfl (Nat.le_of_ble_eq_true rfl) (Nat.le_of_ble_eq_true rfl) (PL.some h)
    · have h := PL.f c1 h
      refine wp_lload dX7_common_13 rfl ?_
      refine wp_lload dX7_common_15 rfl ?_
      have c2 : ¬ x6 = 0 := fun q => (PL.none (PL.t q h)).elim
      have h := PL.f c2 h
      refine wp_lrem dX7_common_17 c2 ?_
      refine wp_lstore dX7_common_18 rfl rfl ?_
      refine wp_lload dX7_common_20 rfl ?_
      refine wp_lstore dX7_common_22 rfl rfl ?_
      refine wp_lload dX7_common_24 rfl ?_
      refine wp_lstore dX7_common_26 rfl rfl ?_
      refine wp_goto (tgt := 6) dX7_common_28 (by decide) ?_
      exact wp_weak [true, true, true, true, true, true, true, true, false, true] (ih _ _ h)
theorem ct_X7_common {D : DT} {l : Launch} {m : Mem} {x0 : Int64} {x2 : Int64} {r : Int64} (h : F_X7_common x0 x2 = some r) : Ct D l Y_X7_common [.long x0, .long x2] m (fun (v : Option Value) (N : Mem) => v = some (Value.long r) ∧ N = m) := by
  refine ct_of (by decide) (by rfl) (ls0 := [.long x0, JK, .long x2, JK, JK, JK, JK, JK, JK, JK]) rfl rfl ?_
  have h : PL m (F_X7_common x0 x2) (fun (v : Option Value) (N : Mem) => v = some (Value.long r) ∧ N = m) := ⟨r, h, rfl, rfl⟩
  revert h
  generalize (fun (v : Option Value) (N : Mem) => v = some (Value.long r) ∧ N = m) = post
  intro h
  refine wp_lload_n (i := 0) dX7_common_0 rfl rfl ?_
  refine wp_lstore dX7_common_1 rfl rfl ?_
  refine wp_lload_n (i := 2) dX7_common_3 rfl rfl ?_
  refine wp_lstore dX7_common_4 rfl rfl ?_
  exact wp_weak [false, true, false, true, true, true, true, true, true, true] (w_X7_common_6 _ _ _ h)
theorem w_X7_likely_187 {D : DT} {l : Launch} {post : Option Value → Mem → Prop} {m : Mem} {r94 : Nat → Int32 → Int32 → Int32 → Int32 → Int32 → Int32 → Int64 → Int64 → Int32 → Option Int32} {r116 : Nat → Int32 → Int32 → Int32 → Int32 → Int32 → Int32 → Int64 → Int64 → Int32 → Int64 → Int32 → Int32 → Option Int32} (hr94 : ∀ (x0 : Nat) (x1 : Int32) (x2 : Int32) (x3 : Int32) (x4 : Int32) (x5 : Int32) (x6 : Int32) (x7 : Int64) (x9 : Int64) (x11 : Int32), PI m (r94 x0 x1 x2 x3 x4 x5 x6 x7 x9 x11) post → WP D l Y_X7_likely 0 0 94 [.ref x0, .int x1, .int x2, .int x3, .int x4, .int x5, .int x6, .long x7, JK, .long x9, JK, .int x11, JK, JK, JK, JK] [] m post) (hr116 : ∀ (x0 : Nat) (x1 : Int32) (x2 : Int32) (x3 : Int32) (x4 : Int32) (x5 : Int32) (x6 : Int32) (x7 : Int64) (x9 : Int64) (x11 : Int32) (x12 : Int64) (x14 : Int32) (x15 : Int32), PI m (r116 x0 x1 x2 x3 x4 x5 x6 x7 x9 x11 x12 x14 x15) post → WP D l Y_X7_likely 0 0 116 [.ref x0, .int x1, .int x2, .int x3, .int x4, .int x5, .int x6, .long x7, JK, .long x9, JK, .int x11, .long x12, JK, .int x14, .int x15] [] m post) {x0 : Nat} {x1 : Int32} {x2 : Int32} {x3 : Int32} {x4 : Int32} {x5 : Int32} {x6 : Int32} {x7 : Int64} {x9 : Int64} {x11 : Int32} {x12 : Int64} {x15 : Int32} {s0 : Int32} {s1 : Int32} (h : PI m (F_X7_likely_187 m r94 r116 x0 x1 x2 x3 x4 x5 x6 x7 x9 x11 x12 x15 s0 s1) post) : WP D l Y_X7_likely 0 0 187 [.ref x0, .int x1, .int x2, .int x3, .int x4, .int x5, .int x6, .long x7, JK, .long x9, JK, .int x11, .long x12, JK, JK, .int x15] [.int s1, .int s0] m post := by
  refine wp_iadd dX7_likely_187 ?_
  refine wp_istore dX7_likely_188 rfl rfl ?_
  refine wp_iinc (v := 1) dX7_likely_190 rfl (by decide) rfl rfl ?_
  refine wp_goto (tgt := 116) dX7_likely_193 (by decide) ?_
  exact (hr116 _ _ _ _ _ _ _ _ _ _ _ _ _ h)
theorem w_X7_likely_146 {D : DT} {l : Launch} {post : Option Value → Mem → Prop} {m : Mem} {r94 : Nat → Int32 → Int32 → Int32 → Int32 → Int32 → Int32 → Int64 → Int64 → Int32 → Option Int32} {r116 : Nat → Int32 → Int32 → Int32 → Int32 → Int32 → Int32 → Int64 → Int64 → Int32 → Int64 → Int32 → Int32 → Option Int32} (hr94 : ∀ (x0 : Nat) (x1 : Int32) (x2 : Int32) (x3 : Int32) (x4 : Int32) (x5 : Int32) (x6 : Int32) (x7 : Int64) (x9 : Int64) (x11 : Int32), PI m (r94 x0 x1 x2 x3 x4 x5 x6 x7 x9 x11) post → WP D l Y_X7_likely 0 0 94 [.ref x0, .int x1, .int x2, .int x3, .int x4, .int x5, .int x6, .long x7, JK, .long x9, JK, .int x11, JK, JK, JK, JK] [] m post) (hr116 : ∀ (x0 : Nat) (x1 : Int32) (x2 : Int32) (x3 : Int32) (x4 : Int32) (x5 : Int32) (x6 : Int32) (x7 : Int64) (x9 : Int64) (x11 : Int32) (x12 : Int64) (x14 : Int32) (x15 : Int32), PI m (r116 x0 x1 x2 x3 x4 x5 x6 x7 x9 x11 x12 x14 x15) post → WP D l Y_X7_likely 0 0 116 [.ref x0, .int x1, .int x2, .int x3, .int x4, .int x5, .int x6, .long x7, JK, .long x9, JK, .int x11, .long x12, JK, .int x14, .int x15] [] m post) {x0 : Nat} {x1 : Int32} {x2 : Int32} {x3 : Int32} {x4 : Int32} {x5 : Int32} {x6 : Int32} {x7 : Int64} {x9 : Int64} {x11 : Int32} {x14 : Int32} {x15 : Int32} {s0 : Int64} {s1 : Int64} (h : PI m (F_X7_likely_146 m r94 r116 x0 x1 x2 x3 x4 x5 x6 x7 x9 x11 x14 x15 s0 s1) post) : WP D l Y_X7_likely 0 0 146 [.ref x0, .int x1, .int x2, .int x3, .int x4, .int x5, .int x6, .long x7, JK, .long x9, JK, .int x11, JK, JK, .int x14, .int x15] [.long s1, .long s0] m post := by
  refine wp_lmul dX7_likely_146 ?_
  refine wp_lstore dX7_likely_147 rfl rfl ?_
  refine wp_iload dX7_likely_149 rfl ?_
  refine wp_iload dX7_likely_151 rfl ?_
  refine wp_iload dX7_likely_153 rfl ?_
  obtain ⟨v1, ev1, h⟩ := PI.bind h
  refine cgS_i (Y' := Y_X7_has) (kc2 := 0) (ks2 := 0) dX7_likely_155 ml_X7_195 ce_X7_has ⟨(Nat.le_of_ble_eq_true rfl), (Nat.le_of_ble_eq_true rfl)⟩ ⟨(Nat.le_of_ble_eq_true rfl), (Nat.le_of_ble_eq_true rfl)⟩ rfl rfl (ct_X7_has ev1) rfl rfl (Nat.le_of_ble_eq_true rfl) ?_
  refine wp_if_eq (tgt := 165) dX7_likely_158 (by decide) (fun c2 => ?_) (fun c2 => ?_)
  · have h := PI.t c2 h
    refine wp_aload_n (i := 0) dX7_likely_165 rfl rfl ?_
    obtain ⟨v3, ev3, h⟩ := PI.bind h
    refine wp_getR cl7 (f := 1) (by decide) rfl fl_X7_9 dX7_likely_166 ev3 ?_
    refine wp_iload_n (i := 1) dX7_likely_169 rfl rfl ?_
    obtain ⟨v4, ev4, h⟩ := PI.bind h
    refine wp_iaload dX7_likely_170 ev4 ?_
    refine wp_aload_n (i := 0) dX7_likely_171 rfl rfl ?_
    obtain ⟨v5, ev5, h⟩ := PI.bind h
    refine wp_getR cl7 (f := 7) (by decide) rfl fl_X7_22 dX7_likely_172 ev5 ?_
    refine wp_iload_n (i := 1) dX7_likely_175 rfl rfl ?_
    obtain ⟨v6, ev6, h⟩ := PI.bind h
    refine wp_iaload dX7_likely_176 ev6 ?_
    refine wp_aload_n (i := 0) dX7_likely_177 rfl rfl ?_
    obtain ⟨v7, ev7, h⟩ := PI.bind h
    refine wp_getI cl7 (f := 2) (by decide) rfl fl_X7_109 dX7_likely_178 ev7 ?_
    refine wp_iload dX7_likely_181 rfl ?_
    refine wp_iadd dX7_likely_183 ?_
    obtain ⟨v8, ev8, h⟩ := PI.bind h
    refine cgS_i (Y' := Y_X7_goes) (kc2 := 0) (ks2 := 0) dX7_likely_184 ml_X7_127 ce_X7_goes ⟨(Nat.le_of_ble_eq_true rfl), (Nat.le_of_ble_eq_true rfl)⟩ ⟨(Nat.le_of_ble_eq_true rfl), (Nat.le_of_ble_eq_true rfl)⟩ rfl rfl (ct_X7_goes ev8) rfl rfl (Nat.le_of_ble_eq_true rfl) ?_
    exact wp_weak [true, true, true, true, true, true, true, true, true, true, true, true, true, true, false, true] (w_X7_likely_187 hr94 hr116 h)
  · have h := PI.f c2 h
    refine wp_iconst (v := 0) dX7_likely_161 (by decide) ?_
    refine wp_goto (tgt := 187) dX7_likely_162 (by decide) ?_
    exact wp_weak [true, true, true, true, true, true, true, true, true, true, true, true, true, true, false, true] (w_X7_likely_187 hr94 hr116 h)
theorem w_X7_likely_223 {D : DT} {l : Launch} {post : Option Value → Mem → Prop} {m : Mem} {r94 : Nat → Int32 → Int32 → Int32 → Int32 → Int32 → Int32 → Int64 → Int64 → Int32 → Option Int32} (hr94 : ∀ (x0 : Nat) (x1 : Int32) (x2 : Int32) (x3 : Int32) (x4 : Int32) (x5 : Int32) (x6 : Int32) (x7 : Int64) (x9 : Int64) (x11 : Int32), PI m (r94 x0 x1 x2 x3 x4 x5 x6 x7 x9 x11) post → WP D l Y_X7_likely 0 0 94 [.ref x0, .int x1, .int x2, .int x3, .int x4, .int x5, .int x6, .long x7, JK, .long x9, JK, .int x11, JK, JK, JK, JK] [] m post) {x0 : Nat} {x1 : Int32} {x2 : Int32} {x3 : Int32} {x4 : Int32} {x5 : Int32} {x6 : Int32} {x9 : Int64} {x11 : Int32} {s0 : Int64} {s1 : Int64} (h : PI m (F_X7_likely_223 m r94 x0 x1 x2 x3 x4 x5 x6 x9 x11 s0 s1) post) : WP D l Y_X7_likely 0 0 223 [.ref x0, .int x1, .int x2, .int x3, .int x4, .int x5, .int x6, JK, JK, .long x9, JK, .int x11, JK, JK, JK, JK] [.long s1, .long s0] m post := by
  refine wp_ladd dX7_likely_223 ?_
  refine wp_lstore dX7_likely_224 rfl rfl ?_
  refine wp_iinc (v := 1) dX7_likely_226 rfl (by decide) rfl rfl ?_
  refine wp_goto (tgt := 94) dX7_likely_229 (by decide) ?_
  exact (hr94 _ _ _ _ _ _ _ _ _ _ h)
theorem w_X7_likely_222 {D : DT} {l : Launch} {post : Option Value → Mem → Prop} {m : Mem} {r94 : Nat → Int32 → Int32 → Int32 → Int32 → Int32 → Int32 → Int64 → Int64 → Int32 → Option Int32} (hr94 : ∀ (x0 : Nat) (x1 : Int32) (x2 : Int32) (x3 : Int32) (x4 : Int32) (x5 : Int32) (x6 : Int32) (x7 : Int64) (x9 : Int64) (x11 : Int32), PI m (r94 x0 x1 x2 x3 x4 x5 x6 x7 x9 x11) post → WP D l Y_X7_likely 0 0 94 [.ref x0, .int x1, .int x2, .int x3, .int x4, .int x5, .int x6, .long x7, JK, .long x9, JK, .int x11, JK, JK, JK, JK] [] m post) {x0 : Nat} {x1 : Int32} {x2 : Int32} {x3 : Int32} {x4 : Int32} {x5 : Int32} {x6 : Int32} {x9 : Int64} {x11 : Int32} {s0 : Int64} (h : PI m (F_X7_likely_222 m r94 x0 x1 x2 x3 x4 x5 x6 x9 x11 s0) post) : WP D l Y_X7_likely 0 0 222 [.ref x0, .int x1, .int x2, .int x3, .int x4, .int x5, .int x6, JK, JK, .long x9, JK, .int x11, JK, JK, JK, JK] [.long s0] m post := by
  refine wp_lconst (v := 0) dX7_likely_222 (by decide) ?_
  exact (w_X7_likely_223 hr94 h)
theorem w_X7_likely_116 {D : DT} {l : Launch} {post : Option Value → Mem → Prop} {m : Mem} {r94 : Nat → Int32 → Int32 → Int32 → Int32 → Int32 → Int32 → Int64 → Int64 → Int32 → Option Int32} (hr94 : ∀ (x0 : Nat) (x1 : Int32) (x2 : Int32) (x3 : Int32) (x4 : Int32) (x5 : Int32) (x6 : Int32) (x7 : Int64) (x9 : Int64) (x11 : Int32), PI m (r94 x0 x1 x2 x3 x4 x5 x6 x7 x9 x11) post → WP D l Y_X7_likely 0 0 94 [.ref x0, .int x1, .int x2, .int x3, .int x4, .int x5, .int x6, .long x7, JK, .long x9, JK, .int x11, JK, JK, JK, JK] [] m post) : ∀ (n : Nat) (x0 : Nat) (x1 : Int32) (x2 : Int32) (x3 : Int32) (x4 : Int32) (x5 : Int32) (x6 : Int32) (x7 : Int64) (x9 : Int64) (x11 : Int32) (x12 : Int64) (x14 : Int32) (x15 : Int32), PI m (F_X7_likely_116 m r94 n x0 x1 x2 x3 x4 x5 x6 x7 x9 x11 x12 x14 x15) post → WP D l Y_X7_likely 0 0 116 [.ref x0, .int x1, .int x2, .int x3, .int x4, .int x5, .int x6, .long x7, JK, .long x9, JK, .int x11, .long x12, JK, .int x14, .int x15] [] m post := by
  intro n
  induction n with
  | zero => intro x0 x1 x2 x3 x4 x5 x6 x7 x9 x11 x12 x14 x15 h; exact (PI.none h).elim
  | succ n ih =>
    intro x0 x1 x2 x3 x4 x5 x6 x7 x9 x11 x12 x14 x15 h
    refine wp_iload dX7_likely_116 rfl ?_
    refine wp_iload_n (i := 3) dX7_likely_118 rfl rfl ?_
    refine wp_icmp_ge (tgt := 196) dX7_likely_119 (by decide) (fun c9 => ?_) (fun c9 => ?_)
    · have h := PI.t c9 h
      refine wp_lload dX7_likely_196 rfl ?_
      refine wp_aload_n (i := 0) dX7_likely_198 rfl rfl ?_
      refine wp_iload_n (i := 1) dX7_likely_199 rfl rfl ?_
      refine wp_iload_n (i := 2) dX7_likely_200 rfl rfl ?_
      obtain ⟨v11, ev11, h⟩ := PI.bind h
      obtain ⟨v10, ev10, h⟩ := PI.bind h
      refine cgV_i (Y' := Y_X7_isSame) (kc2 := 0) (ks2 := 0) dX7_likely_201 ml_X7_183 ce_X7_isSame (t := 7) rfl (by decide) ⟨(Nat.le_of_ble_eq_true rfl), (Nat.le_of_ble_eq_true rfl)⟩ ⟨(Nat.le_of_ble_eq_true rfl), (Nat.le_of_ble_eq_true rfl)⟩ rfl rfl (chkT_eq ev11) (ct_X7_isSame ev10) rfl rfl (Nat.le_of_ble_eq_true rfl) ?_
      refine wp_if_eq (tgt := 222) dX7_likely_204 (by decide) (fun c12 => ?_) (fun c12 => ?_)
      · have h := PI.t c12 h
        exact wp_weak [true, true, true, true, true, true, true, false, true, true, true, true, false, true, false, false] (w_X7_likely_222 hr94 h)
      · have h := PI.f c12 h
        refine wp_iload dX7_likely_207 rfl ?_
        refine wp_bipush (v := 12) dX7_likely_209 (by decide) ?_
        refine wp_irem dX7_likely_211 (by decide) ?_
        refine wp_iload dX7_likely_212 rfl ?_
        refine wp_icmp_ne (tgt := 222) dX7_likely_214 (by decide) (fun c13 => ?_) (fun c13 => ?_)
        · have h := PI.f c13 h
          exact wp_weak [true, true, true, true, true, true, true, false, true, true, true, true, false, true, false, false] (w_X7_likely_222 hr94 h)
        · have h := PI.t c13 h
          refine wp_lload dX7_likely_217 rfl ?_
          refine wp_goto (tgt := 223) dX7_likely_219 (by decide) ?_
          exact wp_weak [true, true, true, true, true, true, true, false, true, true, true, true, false, true, false, false] (w_X7_likely_223 hr94 h)
    · have h := PI.f c9 h
      refine wp_lload dX7_likely_122 rfl ?_
      refine wp_iload dX7_likely_124 rfl ?_
      refine wp_iload dX7_likely_126 rfl ?_
      obtain ⟨v14, ev14, h⟩ := PI.bind h
      refine cgS_i (Y' := Y_X7_has) (kc2 := 0) (ks2 := 0) dX7_likely_128 ml_X7_195 ce_X7_has ⟨(Nat.le_of_ble_eq_true rfl), (Nat.le_of_ble_eq_true rfl)⟩ ⟨(Nat.le_of_ble_eq_true rfl), (Nat.le_of_ble_eq_true rfl)⟩ rfl rfl (ct_X7_has ev14) rfl rfl (Nat.le_of_ble_eq_true rfl) ?_
      refine wp_if_eq (tgt := 140) dX7_likely_131 (by decide) (fun c15 => ?_) (fun c15 => ?_)
      · have h := PI.t c15 h
        refine wp_bipush (v := 10) dX7_likely_140 (by decide) ?_
        refine wp_iload dX7_likely_142 rfl ?_
        refine wp_isub dX7_likely_144 ?_
        refine wp_i2l dX7_likely_145 ?_
        exact wp_weak [true, true, true, true, true, true, true, true, true, true, true, true, false, true, true, true] (w_X7_likely_146 hr94 ih h)
      · have h := PI.f c15 h
        refine wp_iload dX7_likely_134 rfl ?_
        refine wp_i2l dX7_likely_136 ?_
        refine wp_goto (tgt := 146) dX7_likely_137 (by decide) ?_
        exact wp_weak [true, true, true, true, true, true, true, true, true, true, true, true, false, true, true, true] (w_X7_likely_146 hr94 ih h)
theorem w_X7_likely_259 {D : DT} {l : Launch} {post : Option Value → Mem → Prop} {m : Mem} {s0 : Int64} (h : PI m (F_X7_likely_259 m s0) post) : WP D l Y_X7_likely 0 0 259 [JK, JK, JK, JK, JK, JK, JK, JK, JK, JK, JK, JK, JK, JK, JK, JK] [.long s0] m post := by
  refine wp_l2i dX7_likely_259 ?_
  exact wp_iret dX7_likely_260 rfl rfl (Nat.le_of_ble_eq_true rfl) (Nat.le_of_ble_eq_true rfl) (PI.some h)
theorem w_X7_likely_94 {D : DT} {l : Launch} {post : Option Value → Mem → Prop} {m : Mem} : ∀ (n : Nat) (x0 : Nat) (x1 : Int32) (x2 : Int32) (x3 : Int32) (x4 : Int32) (x5 : Int32) (x6 : Int32) (x7 : Int64) (x9 : Int64) (x11 : Int32), PI m (F_X7_likely_94 m n x0 x1 x2 x3 x4 x5 x6 x7 x9 x11) post → WP D l Y_X7_likely 0 0 94 [.ref x0, .int x1, .int x2, .int x3, .int x4, .int x5, .int x6, .long x7, JK, .long x9, JK, .int x11, JK, JK, JK, JK] [] m post := by
  intro n
  induction n with
  | zero => intro x0 x1 x2 x3 x4 x5 x6 x7 x9 x11 h; exact (PI.none h).elim
  | succ n ih =>
    intro x0 x1 x2 x3 x4 x5 x6 x7 x9 x11 h
    refine wp_iload dX7_likely_94 rfl ?_
    refine wp_iconst (v := 1) dX7_likely_96 (by decide) ?_
    refine wp_iload_n (i := 3) dX7_likely_97 rfl rfl ?_
    refine wp_ishl dX7_likely_98 ?_
    refine wp_icmp_ge (tgt := 232) dX7_likely_99 (by decide) (fun c16 => ?_) (fun c16 => ?_)
    · have h := PI.t c16 h
      refine wp_lload dX7_likely_232 rfl ?_
      refine wp_lload dX7_likely_234 rfl ?_
      obtain ⟨v17, ev17, h⟩ := PI.bind h
      refine cgS_l (Y' := Y_X7_common) (kc2 := 0) (ks2 := 0) dX7_likely_236 ml_X7_221 ce_X7_common ⟨(Nat.le_of_ble_eq_true rfl), (Nat.le_of_ble_eq_true rfl)⟩ ⟨(Nat.le_of_ble_eq_true rfl), (Nat.le_of_ble_eq_true rfl)⟩ rfl rfl (ct_X7_common ev17) rfl rfl (Nat.le_of_ble_eq_true rfl) ?_
      refine wp_lstore dX7_likely_239 rfl rfl ?_
      refine wp_iload dX7_likely_241 rfl ?_
      refine wp_if_ne (tgt := 254) dX7_likely_243 (by decide) (fun c18 => ?_) (fun c18 => ?_)
      · have h := PI.f c18 h
        refine wp_lload dX7_likely_254 rfl ?_
        refine wp_lload dX7_likely_256 rfl ?_
        have c19 : ¬ v17 = 0 := fun q => (PI.none (PI.t q h)).elim
        have h := PI.f c19 h
        refine wp_ldiv dX7_likely_258 c19 ?_
        exact wp_weak [false, false, false, false, false, false, false, false, true, false, true, false, true, true, true, true] (w_X7_likely_259 h)
      · have h := PI.t c18 h
        refine wp_lload dX7_likely_246 rfl ?_
        refine wp_lload dX7_likely_248 rfl ?_
        have c20 : ¬ v17 = 0 := fun q => (PI.none (PI.t q h)).elim
        have h := PI.f c20 h
        refine wp_ldiv dX7_likely_250 c20 ?_
        refine wp_goto (tgt := 259) dX7_likely_251 (by decide) ?_
        exact wp_weak [false, false, false, false, false, false, false, false, true, false, true, false, true, true, true, true] (w_X7_likely_259 h)
    · have h := PI.f c16 h
      refine wp_lconst (v := 1) dX7_likely_102 (by decide) ?_
      refine wp_lstore dX7_likely_103 rfl rfl ?_
      refine wp_aload_n (i := 0) dX7_likely_105 rfl rfl ?_
      obtain ⟨v21, ev21, h⟩ := PI.bind h
      refine wp_getR cl7 (f := 6) (by decide) rfl fl_X7_19 dX7_likely_106 ev21 ?_
      refine wp_iload_n (i := 1) dX7_likely_109 rfl rfl ?_
      obtain ⟨v22, ev22, h⟩ := PI.bind h
      refine wp_iaload dX7_likely_110 ev22 ?_
      refine wp_istore dX7_likely_111 rfl rfl ?_
      refine wp_iconst (v := 0) dX7_likely_113 (by decide) ?_
      refine wp_istore dX7_likely_114 rfl rfl ?_
      exact (w_X7_likely_116 ih _ _ _ _ _ _ _ _ _ _ _ _ _ _ h)
theorem w_X7_likely_71 {D : DT} {l : Launch} {post : Option Value → Mem → Prop} {m : Mem} : ∀ (n : Nat) (x0 : Nat) (x1 : Int32) (x2 : Int32) (x3 : Int32) (x4 : Int32) (x5 : Int32) (x6 : Int32) (x7 : Int64) (x9 : Int64) (x11 : Int32), PI m (F_X7_likely_71 m n x0 x1 x2 x3 x4 x5 x6 x7 x9 x11) post → WP D l Y_X7_likely 0 0 71 [.ref x0, .int x1, .int x2, .int x3, .int x4, .int x5, .int x6, .long x7, JK, .long x9, JK, .int x11, JK, JK, JK, JK] [] m post := by
  intro n
  induction n with
  | zero => intro x0 x1 x2 x3 x4 x5 x6 x7 x9 x11 h; exact (PI.none h).elim
  | succ n ih =>
    intro x0 x1 x2 x3 x4 x5 x6 x7 x9 x11 h
    refine wp_iload dX7_likely_71 rfl ?_
    refine wp_iload_n (i := 3) dX7_likely_73 rfl rfl ?_
    refine wp_icmp_ge (tgt := 91) dX7_likely_74 (by decide) (fun c23 => ?_) (fun c23 => ?_)
    · have h := PI.t c23 h
      refine wp_iconst (v := 0) dX7_likely_91 (by decide) ?_
      refine wp_istore dX7_likely_92 rfl rfl ?_
      exact (w_X7_likely_94 _ _ _ _ _ _ _ _ _ _ _ h)
    · have h := PI.f c23 h
      refine wp_lload dX7_likely_77 rfl ?_
      refine wp_ldc2 dX7_likely_79 cw_X7_219 ?_
      refine wp_lmul dX7_likely_82 ?_
      refine wp_lstore dX7_likely_83 rfl rfl ?_
      refine wp_iinc (v := 1) dX7_likely_85 rfl (by decide) rfl rfl ?_
      refine wp_goto (tgt := 71) dX7_likely_88 (by decide) ?_
      exact (ih _ _ _ _ _ _ _ _ _ _ h)
theorem ct_X7_likely {D : DT} {l : Launch} {m : Mem} {x0 : Nat} {x1 : Int32} {x2 : Int32} {x3 : Int32} {x4 : Int32} {x5 : Int32} {r : Int32} (h : F_X7_likely x0 x1 x2 x3 x4 x5 m = some r) : Ct D l Y_X7_likely [.ref x0, .int x1, .int x2, .int x3, .int x4, .int x5] m (fun (v : Option Value) (N : Mem) => v = some (Value.int r) ∧ N = m) := by
  refine ct_of (by decide) (by rfl) (ls0 := [.ref x0, .int x1, .int x2, .int x3, .int x4, .int x5, JK, JK, JK, JK, JK, JK, JK, JK, JK, JK]) rfl rfl ?_
  have h : PI m (F_X7_likely x0 x1 x2 x3 x4 x5 m) (fun (v : Option Value) (N : Mem) => v = some (Value.int r) ∧ N = m) := ⟨r, h, rfl, rfl⟩
  revert h
  generalize (fun (v : Option Value) (N : Mem) => v = some (Value.int r) ∧ N = m) = post
  intro h
  refine wp_aload_n (i := 0) dX7_likely_0 rfl rfl ?_
  refine wp_iload_n (i := 1) dX7_likely_1 rfl rfl ?_
  obtain ⟨v25, ev25, h⟩ := PI.bind h
  obtain ⟨v24, ev24, h⟩ := PI.bind h
  refine cgV_i (Y' := Y_X7_isPerson) (kc2 := 0) (ks2 := 0) dX7_likely_2 ml_X7_146 ce_X7_isPerson (t := 7) rfl (by decide) ⟨(Nat.le_of_ble_eq_true rfl), (Nat.le_of_ble_eq_true rfl)⟩ ⟨(Nat.le_of_ble_eq_true rfl), (Nat.le_of_ble_eq_true rfl)⟩ rfl rfl (chkT_eq ev25) (ct_X7_isPerson ev24) rfl rfl (Nat.le_of_ble_eq_true rfl) ?_
  refine wp_if_eq (tgt := 52) dX7_likely_5 (by decide) (fun c26 => ?_) (fun c26 => ?_)
  · have h := PI.t c26 h
    refine wp_iconst (v := -1) dX7_likely_52 (by decide) ?_
    exact wp_iret dX7_likely_53 rfl rfl (Nat.le_of_ble_eq_true rfl) (Nat.le_of_ble_eq_true rfl) (PI.some h)
  · have h := PI.f c26 h
    refine wp_aload_n (i := 0) dX7_likely_8 rfl rfl ?_
    refine wp_iload_n (i := 2) dX7_likely_9 rfl rfl ?_
    obtain ⟨v28, ev28, h⟩ := PI.bind h
    obtain ⟨v27, ev27, h⟩ := PI.bind h
    refine cgV_i (Y' := Y_X7_isPerson) (kc2 := 0) (ks2 := 0) dX7_likely_10 ml_X7_146 ce_X7_isPerson (t := 7) rfl (by decide) ⟨(Nat.le_of_ble_eq_true rfl), (Nat.le_of_ble_eq_true rfl)⟩ ⟨(Nat.le_of_ble_eq_true rfl), (Nat.le_of_ble_eq_true rfl)⟩ rfl rfl (chkT_eq ev28) (ct_X7_isPerson ev27) rfl rfl (Nat.le_of_ble_eq_true rfl) ?_
    refine wp_if_eq (tgt := 52) dX7_likely_13 (by decide) (fun c29 => ?_) (fun c29 => ?_)
    · have h := PI.t c29 h
      refine wp_iconst (v := -1) dX7_likely_52 (by decide) ?_
      exact wp_iret dX7_likely_53 rfl rfl (Nat.le_of_ble_eq_true rfl) (Nat.le_of_ble_eq_true rfl) (PI.some h)
    · have h := PI.f c29 h
      refine wp_iload_n (i := 1) dX7_likely_16 rfl rfl ?_
      refine wp_iload_n (i := 2) dX7_likely_17 rfl rfl ?_
      refine wp_icmp_eq (tgt := 52) dX7_likely_18 (by decide) (fun c30 => ?_) (fun c30 => ?_)
      · have h := PI.t c30 h
        refine wp_iconst (v := -1) dX7_likely_52 (by decide) ?_
        exact wp_iret dX7_likely_53 rfl rfl (Nat.le_of_ble_eq_true rfl) (Nat.le_of_ble_eq_true rfl) (PI.some h)
      · have h := PI.f c30 h
        refine wp_iload_n (i := 3) dX7_likely_21 rfl rfl ?_
        refine wp_iconst (v := 0) dX7_likely_22 (by decide) ?_
        refine wp_bipush (v := 7) dX7_likely_23 (by decide) ?_
        obtain ⟨v31, ev31, h⟩ := PI.bind h
        refine cgS_i (Y' := Y_X7_in) (kc2 := 0) (ks2 := 0) dX7_likely_25 ml_X7_72 ce_X7_in ⟨(Nat.le_of_ble_eq_true rfl), (Nat.le_of_ble_eq_true rfl)⟩ ⟨(Nat.le_of_ble_eq_true rfl), (Nat.le_of_ble_eq_true rfl)⟩ rfl rfl (ct_X7_in ev31) rfl rfl (Nat.le_of_ble_eq_true rfl) ?_
        refine wp_if_eq (tgt := 52) dX7_likely_28 (by decide) (fun c32 => ?_) (fun c32 => ?_)
        · have h := PI.t c32 h
          refine wp_iconst (v := -1) dX7_likely_52 (by decide) ?_
          exact wp_iret dX7_likely_53 rfl rfl (Nat.le_of_ble_eq_true rfl) (Nat.le_of_ble_eq_true rfl) (PI.some h)
        · have h := PI.f c32 h
          refine wp_iload dX7_likely_31 rfl ?_
          refine wp_iconst (v := 0) dX7_likely_33 (by decide) ?_
          refine wp_bipush (v := 10) dX7_likely_34 (by decide) ?_
          obtain ⟨v33, ev33, h⟩ := PI.bind h
          refine cgS_i (Y' := Y_X7_in) (kc2 := 0) (ks2 := 0) dX7_likely_36 ml_X7_72 ce_X7_in ⟨(Nat.le_of_ble_eq_true rfl), (Nat.le_of_ble_eq_true rfl)⟩ ⟨(Nat.le_of_ble_eq_true rfl), (Nat.le_of_ble_eq_true rfl)⟩ rfl rfl (ct_X7_in ev33) rfl rfl (Nat.le_of_ble_eq_true rfl) ?_
          refine wp_if_eq (tgt := 52) dX7_likely_39 (by decide) (fun c34 => ?_) (fun c34 => ?_)
          · have h := PI.t c34 h
            refine wp_iconst (v := -1) dX7_likely_52 (by decide) ?_
            exact wp_iret dX7_likely_53 rfl rfl (Nat.le_of_ble_eq_true rfl) (Nat.le_of_ble_eq_true rfl) (PI.some h)
          · have h := PI.f c34 h
            refine wp_iload dX7_likely_42 rfl ?_
            refine wp_iconst (v := 0) dX7_likely_44 (by decide) ?_
            refine wp_iconst (v := 1) dX7_likely_45 (by decide) ?_
            obtain ⟨v35, ev35, h⟩ := PI.bind h
            refine cgS_i (Y' := Y_X7_in) (kc2 := 0) (ks2 := 0) dX7_likely_46 ml_X7_72 ce_X7_in ⟨(Nat.le_of_ble_eq_true rfl), (Nat.le_of_ble_eq_true rfl)⟩ ⟨(Nat.le_of_ble_eq_true rfl), (Nat.le_of_ble_eq_true rfl)⟩ rfl rfl (ct_X7_in ev35) rfl rfl (Nat.le_of_ble_eq_true rfl) ?_
            refine wp_if_ne (tgt := 54) dX7_likely_49 (by decide) (fun c36 => ?_) (fun c36 => ?_)
            · have h := PI.f c36 h
              refine wp_aload_n (i := 0) dX7_likely_54 rfl rfl ?_
              refine wp_iload_n (i := 2) dX7_likely_55 rfl rfl ?_
              refine wp_iload_n (i := 3) dX7_likely_56 rfl rfl ?_
              obtain ⟨v38, ev38, h⟩ := PI.bind h
              obtain ⟨v37, ev37, h⟩ := PI.bind h
              refine cgV_i (Y' := Y_X7_yardBehind) (kc2 := 0) (ks2 := 0) dX7_likely_57 ml_X7_180 ce_X7_yardBehind (t := 7) rfl (by decide) ⟨(Nat.le_of_ble_eq_true rfl), (Nat.le_of_ble_eq_true rfl)⟩ ⟨(Nat.le_of_ble_eq_true rfl), (Nat.le_of_ble_eq_true rfl)⟩ rfl rfl (chkT_eq ev38) (ct_X7_yardBehind ev37) rfl rfl (Nat.le_of_ble_eq_true rfl) ?_
              refine wp_istore dX7_likely_60 rfl rfl ?_
              refine wp_lconst (v := 0) dX7_likely_62 (by decide) ?_
              refine wp_lstore dX7_likely_63 rfl rfl ?_
              refine wp_lconst (v := 1) dX7_likely_65 (by decide) ?_
              refine wp_lstore dX7_likely_66 rfl rfl ?_
              refine wp_iconst (v := 0) dX7_likely_68 (by decide) ?_
              refine wp_istore dX7_likely_69 rfl rfl ?_
              exact (w_X7_likely_71 _ _ _ _ _ _ _ _ _ _ _ h)
            · have h := PI.t c36 h
              refine wp_iconst (v := -1) dX7_likely_52 (by decide) ?_
              exact wp_iret dX7_likely_53 rfl rfl (Nat.le_of_ble_eq_true rfl) (Nat.le_of_ble_eq_true rfl) (PI.some h)
theorem w_X7_season_177 {D : DT} {l : Launch} {post : Option Value → Mem → Prop} {r45 : Nat → Int32 → Int32 → Int32 → Int32 → Int32 → Mem → Option (Int32 × Mem)} (hr45 : ∀ (x0 : Nat) (x1 : Int32) (x2 : Int32) (x3 : Int32) (x4 : Int32) (x5 : Int32) (m : Mem), HI (r45 x0 x1 x2 x3 x4 x5 m) post → WP D l Y_X7_season 0 0 45 [.ref x0, .int x1, .int x2, .int x3, .int x4, .int x5, JK, JK, JK, JK, JK] [] m post) {x0 : Nat} {x1 : Int32} {x2 : Int32} {x3 : Int32} {x4 : Int32} {x5 : Int32} {m : Mem} (h : HI (F_X7_season_177 r45 x0 x1 x2 x3 x4 x5 m) post) : WP D l Y_X7_season 0 0 177 [.ref x0, .int x1, .int x2, .int x3, .int x4, .int x5, JK, JK, JK, JK, JK] [] m post := by
  refine wp_aload_n (i := 0) dX7_season_177 rfl rfl ?_
  obtain ⟨v2, ev2, h⟩ := HI.bind h
  obtain ⟨v1, ev1, h⟩ := HI.bind h
  refine cgV_v (Y' := Y_X7_passes) (kc2 := 0) (ks2 := 0) dX7_season_178 ml_X7_143 ce_X7_passes (t := 7) rfl (by decide) ⟨(Nat.le_of_ble_eq_true rfl), (Nat.le_of_ble_eq_true rfl)⟩ ⟨(Nat.le_of_ble_eq_true rfl), (Nat.le_of_ble_eq_true rfl)⟩ rfl rfl (chkT_eq ev2) (ct_X7_passes ev1) rfl rfl (Nat.le_of_ble_eq_true rfl) ?_
  refine wp_iinc (v := 1) dX7_season_181 rfl (by decide) rfl rfl ?_
  refine wp_goto (tgt := 45) dX7_season_184 (by decide) ?_
  exact (hr45 _ _ _ _ _ _ _ h)
theorem w_X7_season_236 {D : DT} {l : Launch} {post : Option Value → Mem → Prop} {r196 : Nat → Int32 → Int32 → Int32 → Int32 → Int32 → Mem → Option (Int32 × Mem)} (hr196 : ∀ (x0 : Nat) (x3 : Int32) (x4 : Int32) (x5 : Int32) (x6 : Int32) (x7 : Int32) (m : Mem), HI (r196 x0 x3 x4 x5 x6 x7 m) post → WP D l Y_X7_season 0 0 196 [.ref x0, JK, JK, .int x3, .int x4, .int x5, .int x6, .int x7, JK, JK, JK] [] m post) {x0 : Nat} {x3 : Int32} {x4 : Int32} {x5 : Int32} {x7 : Int32} {s0 : Int32} {s1 : Int32} {m : Mem} (h : HI (F_X7_season_236 r196 x0 x3 x4 x5 x7 s0 s1 m) post) : WP D l Y_X7_season 0 0 236 [.ref x0, JK, JK, .int x3, .int x4, .int x5, JK, .int x7, JK, JK, JK] [.int s1, .int s0] m post := by
  refine wp_iadd dX7_season_236 ?_
  refine wp_istore dX7_season_237 rfl rfl ?_
  refine wp_iinc (v := 1) dX7_season_239 rfl (by decide) rfl rfl ?_
  refine wp_goto (tgt := 196) dX7_season_242 (by decide) ?_
  exact (hr196 _ _ _ _ _ _ _ h)
theorem w_X7_season_271 {D : DT} {l : Launch} {post : Option Value → Mem → Prop} {x0 : Nat} {s0 : Int32} {m : Mem} (h : HI (F_X7_season_271 x0 s0 m) post) : WP D l Y_X7_season 0 0 271 [.ref x0, JK, JK, JK, JK, JK, JK, JK, JK, JK, JK] [.int s0] m post := by
  refine wp_istore dX7_season_271 rfl rfl ?_
  refine wp_aload_n (i := 0) dX7_season_273 rfl rfl ?_
  obtain ⟨v4, ev4, h⟩ := HI.bind h
  obtain ⟨v3, ev3, h⟩ := HI.bind h
  refine cgV_v (Y' := Y_X7_putBack) (kc2 := 0) (ks2 := 0) dX7_season_274 ml_X7_189 ce_X7_putBack (t := 7) rfl (by decide) ⟨(Nat.le_of_ble_eq_true rfl), (Nat.le_of_ble_eq_true rfl)⟩ ⟨(Nat.le_of_ble_eq_true rfl), (Nat.le_of_ble_eq_true rfl)⟩ rfl rfl (chkT_eq ev4) (ct_X7_putBack ev3) rfl rfl (Nat.le_of_ble_eq_true rfl) ?_
  refine wp_iload dX7_season_277 rfl ?_
  exact wp_iret dX7_season_279 rfl rfl (Nat.le_of_ble_eq_true rfl) (Nat.le_of_ble_eq_true rfl) (HI.some h)
theorem w_X7_season_196 {D : DT} {l : Launch} {post : Option Value → Mem → Prop} : ∀ (n : Nat) (x0 : Nat) (x3 : Int32) (x4 : Int32) (x5 : Int32) (x6 : Int32) (x7 : Int32) (m : Mem), HI (F_X7_season_196 n x0 x3 x4 x5 x6 x7 m) post → WP D l Y_X7_season 0 0 196 [.ref x0, JK, JK, .int x3, .int x4, .int x5, .int x6, .int x7, JK, JK, JK] [] m post := by
  intro n
  induction n with
  | zero => intro x0 x3 x4 x5 x6 x7 m h; exact (HI.none h).elim
  | succ n ih =>
    intro x0 x3 x4 x5 x6 x7 m h
    refine wp_iload dX7_season_196 rfl ?_
    refine wp_aload_n (i := 0) dX7_season_198 rfl rfl ?_
    obtain ⟨v5, ev5, h⟩ := HI.bind h
    refine wp_getI cl7 (f := 0) (by decide) rfl fl_X7_68 dX7_season_199 ev5 ?_
    refine wp_icmp_ge (tgt := 245) dX7_season_202 (by decide) (fun c6 => ?_) (fun c6 => ?_)
    · have h := HI.t c6 h
      refine wp_iload_n (i := 3) dX7_season_245 rfl rfl ?_
      refine wp_if_ne (tgt := 259) dX7_season_246 (by decide) (fun c7 => ?_) (fun c7 => ?_)
      · have h := HI.f c7 h
        refine wp_iload_n (i := 3) dX7_season_259 rfl rfl ?_
        refine wp_iconst (v := 1) dX7_season_260 (by decide) ?_
        refine wp_icmp_ne (tgt := 269) dX7_season_261 (by decide) (fun c8 => ?_) (fun c8 => ?_)
        · have h := HI.f c8 h
          refine wp_iload dX7_season_269 rfl ?_
          exact wp_weak [true, true, true, false, false, false, false, false, true, true, true] (w_X7_season_271 h)
        · have h := HI.t c8 h
          refine wp_iload dX7_season_264 rfl ?_
          refine wp_goto (tgt := 271) dX7_season_266 (by decide) ?_
          exact wp_weak [true, true, true, false, false, false, false, false, true, true, true] (w_X7_season_271 h)
      · have h := HI.t c7 h
        refine wp_aload_n (i := 0) dX7_season_249 rfl rfl ?_
        obtain ⟨v9, ev9, h⟩ := HI.bind h
        refine wp_getI cl7 (f := 3) (by decide) rfl fl_X7_112 dX7_season_250 ev9 ?_
        refine wp_iload dX7_season_253 rfl ?_
        refine wp_isub dX7_season_255 ?_
        refine wp_goto (tgt := 271) dX7_season_256 (by decide) ?_
        exact wp_weak [true, true, true, false, false, false, false, false, true, true, true] (w_X7_season_271 h)
    · have h := HI.f c6 h
      refine wp_iload dX7_season_205 rfl ?_
      refine wp_aload_n (i := 0) dX7_season_207 rfl rfl ?_
      obtain ⟨v10, ev10, h⟩ := HI.bind h
      refine wp_getR cl7 (f := 6) (by decide) rfl fl_X7_19 dX7_season_208 ev10 ?_
      refine wp_iload dX7_season_211 rfl ?_
      obtain ⟨v11, ev11, h⟩ := HI.bind h
      refine wp_iaload dX7_season_213 ev11 ?_
      refine wp_iadd dX7_season_214 ?_
      refine wp_istore dX7_season_215 rfl rfl ?_
      refine wp_iload dX7_season_217 rfl ?_
      refine wp_aload_n (i := 0) dX7_season_219 rfl rfl ?_
      obtain ⟨v12, ev12, h⟩ := HI.bind h
      refine wp_getR cl7 (f := 4) (by decide) rfl fl_X7_13 dX7_season_220 ev12 ?_
      refine wp_iload dX7_season_223 rfl ?_
      obtain ⟨v13, ev13, h⟩ := HI.bind h
      refine wp_iaload dX7_season_225 ev13 ?_
      refine wp_bipush (v := -4) dX7_season_226 (by decide) ?_
      refine wp_icmp_ne (tgt := 235) dX7_season_228 (by decide) (fun c14 => ?_) (fun c14 => ?_)
      · have h := HI.f c14 h
        refine wp_iconst (v := 1) dX7_season_235 (by decide) ?_
        exact wp_weak [true, true, true, true, true, true, false, true, true, true, true] (w_X7_season_236 ih h)
      · have h := HI.t c14 h
        refine wp_iconst (v := 0) dX7_season_231 (by decide) ?_
        refine wp_goto (tgt := 236) dX7_season_232 (by decide) ?_
        exact wp_weak [true, true, true, true, true, true, false, true, true, true, true] (w_X7_season_236 ih h)
theorem w_X7_season_45 {D : DT} {l : Launch} {post : Option Value → Mem → Prop} : ∀ (n : Nat) (x0 : Nat) (x1 : Int32) (x2 : Int32) (x3 : Int32) (x4 : Int32) (x5 : Int32) (m : Mem), HI (F_X7_season_45 n x0 x1 x2 x3 x4 x5 m) post → WP D l Y_X7_season 0 0 45 [.ref x0, .int x1, .int x2, .int x3, .int x4, .int x5, JK, JK, JK, JK, JK] [] m post := by
  intro n
  induction n with
  | zero => intro x0 x1 x2 x3 x4 x5 m h; exact (HI.none h).elim
  | succ n ih =>
    intro x0 x1 x2 x3 x4 x5 m h
    refine wp_iload dX7_season_45 rfl ?_
    refine wp_iload_n (i := 2) dX7_season_47 rfl rfl ?_
    refine wp_icmp_ge (tgt := 187) dX7_season_48 (by decide) (fun c15 => ?_) (fun c15 => ?_)
    · have h := HI.t c15 h
      refine wp_iconst (v := 0) dX7_season_187 (by decide) ?_
      refine wp_istore dX7_season_188 rfl rfl ?_
      refine wp_iconst (v := 0) dX7_season_190 (by decide) ?_
      refine wp_istore dX7_season_191 rfl rfl ?_
      refine wp_iconst (v := 0) dX7_season_193 (by decide) ?_
      refine wp_istore dX7_season_194 rfl rfl ?_
      exact wp_weak [true, false, false, true, true, true, true, true, true, true, true] (w_X7_season_196 _ _ _ _ _ _ _ _ h)
    · have h := HI.f c15 h
      refine wp_ldc2 dX7_season_51 cw_X7_225 ?_
      refine wp_iload_n (i := 1) dX7_season_54 rfl rfl ?_
      refine wp_i2l dX7_season_55 ?_
      refine wp_lmul dX7_season_56 ?_
      refine wp_ldc2 dX7_season_57 cw_X7_227 ?_
      refine wp_iload dX7_season_60 rfl ?_
      refine wp_i2l dX7_season_62 ?_
      refine wp_lmul dX7_season_63 ?_
      refine wp_ladd dX7_season_64 ?_
      refine wp_lconst (v := 1) dX7_season_65 (by decide) ?_
      refine wp_ladd dX7_season_66 ?_
      refine wp_lstore dX7_season_67 rfl rfl ?_
      refine wp_lload dX7_season_69 rfl ?_
      refine wp_lload dX7_season_71 rfl ?_
      refine wp_lmul dX7_season_73 ?_
      refine wp_ldc2 dX7_season_74 cw_X7_229 ?_
      refine wp_lrem dX7_season_77 (by decide) ?_
      refine wp_ldc2 dX7_season_78 cw_X7_231 ?_
      refine wp_ldiv dX7_season_81 (by decide) ?_
      refine wp_l2i dX7_season_82 ?_
      refine wp_istore dX7_season_83 rfl rfl ?_
      refine wp_iload dX7_season_85 rfl ?_
      refine wp_aload_n (i := 0) dX7_season_87 rfl rfl ?_
      obtain ⟨v16, ev16, h⟩ := HI.bind h
      refine wp_getI cl7 (f := 0) (by decide) rfl fl_X7_68 dX7_season_88 ev16 ?_
      have c17 : ¬ v16 = 0 := fun q => (HI.none (HI.t q h)).elim
      have h := HI.f c17 h
      refine wp_irem dX7_season_91 c17 ?_
      refine wp_istore dX7_season_92 rfl rfl ?_
      refine wp_iload dX7_season_94 rfl ?_
      refine wp_bipush (v := 8) dX7_season_96 (by decide) ?_
      refine wp_idiv dX7_season_98 (by decide) ?_
      refine wp_bipush (v := 6) dX7_season_99 (by decide) ?_
      refine wp_irem dX7_season_101 (by decide) ?_
      refine wp_istore dX7_season_102 rfl rfl ?_
      refine wp_iload dX7_season_104 rfl ?_
      refine wp_if_ne (tgt := 137) dX7_season_106 (by decide) (fun c18 => ?_) (fun c18 => ?_)
      · have h := HI.f c18 h
        refine wp_iload dX7_season_137 rfl ?_
        refine wp_iconst (v := 1) dX7_season_139 (by decide) ?_
        refine wp_icmp_ne (tgt := 156) dX7_season_140 (by decide) (fun c19 => ?_) (fun c19 => ?_)
        · have h := HI.f c19 h
          refine wp_iload dX7_season_156 rfl ?_
          refine wp_iconst (v := 2) dX7_season_158 (by decide) ?_
          refine wp_icmp_ne (tgt := 177) dX7_season_159 (by decide) (fun c20 => ?_) (fun c20 => ?_)
          · have h := HI.f c20 h
            exact wp_weak [true, true, true, true, true, true, false, true, false, false, false] (w_X7_season_177 ih h)
          · have h := HI.t c20 h
            refine wp_aload_n (i := 0) dX7_season_162 rfl rfl ?_
            obtain ⟨v21, ev21, h⟩ := HI.bind h
            refine wp_getR cl7 (f := 7) (by decide) rfl fl_X7_22 dX7_season_163 ev21 ?_
            refine wp_iload dX7_season_166 rfl ?_
            refine wp_iload dX7_season_168 rfl ?_
            refine wp_bipush (v := 64) dX7_season_170 (by decide) ?_
            refine wp_idiv dX7_season_172 (by decide) ?_
            refine wp_bipush (v := 12) dX7_season_173 (by decide) ?_
            refine wp_irem dX7_season_175 (by decide) ?_
            obtain ⟨m22, em22, h⟩ := HI.bind h
            refine wp_iastore dX7_season_176 em22 ?_
            exact wp_weak [true, true, true, true, true, true, false, true, false, false, false] (w_X7_season_177 ih h)
        · have h := HI.t c19 h
          refine wp_aload_n (i := 0) dX7_season_143 rfl rfl ?_
          refine wp_iload dX7_season_144 rfl ?_
          refine wp_bipush (v := -4) dX7_season_146 (by decide) ?_
          refine wp_bipush (v := -4) dX7_season_148 (by decide) ?_
          obtain ⟨v24, ev24, h⟩ := HI.bind h
          obtain ⟨v23, ev23, h⟩ := HI.bind h
          refine cgV_v (Y' := Y_X7_weaves) (kc2 := 0) (ks2 := 0) dX7_season_150 ml_X7_170 ce_X7_weaves (t := 7) rfl (by decide) ⟨(Nat.le_of_ble_eq_true rfl), (Nat.le_of_ble_eq_true rfl)⟩ ⟨(Nat.le_of_ble_eq_true rfl), (Nat.le_of_ble_eq_true rfl)⟩ rfl rfl (chkT_eq ev24) (ct_X7_weaves ev23) rfl rfl (Nat.le_of_ble_eq_true rfl) ?_
          refine wp_goto (tgt := 177) dX7_season_153 (by decide) ?_
          exact wp_weak [true, true, true, true, true, true, false, true, false, false, false] (w_X7_season_177 ih h)
      · have h := HI.t c18 h
        refine wp_aload_n (i := 0) dX7_season_109 rfl rfl ?_
        refine wp_iload dX7_season_110 rfl ?_
        refine wp_iload dX7_season_112 rfl ?_
        refine wp_bipush (v := 64) dX7_season_114 (by decide) ?_
        refine wp_idiv dX7_season_116 (by decide) ?_
        refine wp_bipush (v := 6) dX7_season_117 (by decide) ?_
        refine wp_irem dX7_season_119 (by decide) ?_
        refine wp_iload dX7_season_120 rfl ?_
        refine wp_sipush (v := 512) dX7_season_122 (by decide) ?_
        refine wp_idiv dX7_season_125 (by decide) ?_
        refine wp_bipush (v := 9) dX7_season_126 (by decide) ?_
        refine wp_irem dX7_season_128 (by decide) ?_
        refine wp_iconst (v := 1) dX7_season_129 (by decide) ?_
        refine wp_iadd dX7_season_130 ?_
        obtain ⟨v26, ev26, h⟩ := HI.bind h
        obtain ⟨v25, ev25, h⟩ := HI.bind h
        refine cgV_v (Y' := Y_X7_weaves) (kc2 := 0) (ks2 := 0) dX7_season_131 ml_X7_170 ce_X7_weaves (t := 7) rfl (by decide) ⟨(Nat.le_of_ble_eq_true rfl), (Nat.le_of_ble_eq_true rfl)⟩ ⟨(Nat.le_of_ble_eq_true rfl), (Nat.le_of_ble_eq_true rfl)⟩ rfl rfl (chkT_eq ev26) (ct_X7_weaves ev25) rfl rfl (Nat.le_of_ble_eq_true rfl) ?_
        refine wp_goto (tgt := 177) dX7_season_134 (by decide) ?_
        exact wp_weak [true, true, true, true, true, true, false, true, false, false, false] (w_X7_season_177 ih h)
theorem ct_X7_season {D : DT} {l : Launch} {m : Mem} {x0 : Nat} {x1 : Int32} {x2 : Int32} {x3 : Int32} {r : (Int32 × Mem)} (h : F_X7_season x0 x1 x2 x3 m = some r) : Ct D l Y_X7_season [.ref x0, .int x1, .int x2, .int x3] m (fun (v : Option Value) (N : Mem) => v = some (Value.int r.1) ∧ N = r.2) := by
  refine ct_of (by decide) (by rfl) (ls0 := [.ref x0, .int x1, .int x2, .int x3, JK, JK, JK, JK, JK, JK, JK]) rfl rfl ?_
  have h : HI (F_X7_season x0 x1 x2 x3 m) (fun (v : Option Value) (N : Mem) => v = some (Value.int r.1) ∧ N = r.2) := ⟨r.1, r.2, h, rfl, rfl⟩
  revert h
  generalize (fun (v : Option Value) (N : Mem) => v = some (Value.int r.1) ∧ N = r.2) = post
  intro h
  refine wp_iload_n (i := 1) dX7_season_0 rfl rfl ?_
  refine wp_iconst (v := 0) dX7_season_1 (by decide) ?_
  refine wp_sipush (v := 9999) dX7_season_2 (by decide) ?_
  obtain ⟨v27, ev27, h⟩ := HI.bind h
  refine cgS_i (Y' := Y_X7_in) (kc2 := 0) (ks2 := 0) dX7_season_5 ml_X7_72 ce_X7_in ⟨(Nat.le_of_ble_eq_true rfl), (Nat.le_of_ble_eq_true rfl)⟩ ⟨(Nat.le_of_ble_eq_true rfl), (Nat.le_of_ble_eq_true rfl)⟩ rfl rfl (ct_X7_in ev27) rfl rfl (Nat.le_of_ble_eq_true rfl) ?_
  refine wp_if_eq (tgt := 30) dX7_season_8 (by decide) (fun c28 => ?_) (fun c28 => ?_)
  · have h := HI.t c28 h
    refine wp_iconst (v := -1) dX7_season_30 (by decide) ?_
    exact wp_iret dX7_season_31 rfl rfl (Nat.le_of_ble_eq_true rfl) (Nat.le_of_ble_eq_true rfl) (HI.some h)
  · have h := HI.f c28 h
    refine wp_iload_n (i := 2) dX7_season_11 rfl rfl ?_
    refine wp_iconst (v := 1) dX7_season_12 (by decide) ?_
    refine wp_bipush (v := 60) dX7_season_13 (by decide) ?_
    obtain ⟨v29, ev29, h⟩ := HI.bind h
    refine cgS_i (Y' := Y_X7_in) (kc2 := 0) (ks2 := 0) dX7_season_15 ml_X7_72 ce_X7_in ⟨(Nat.le_of_ble_eq_true rfl), (Nat.le_of_ble_eq_true rfl)⟩ ⟨(Nat.le_of_ble_eq_true rfl), (Nat.le_of_ble_eq_true rfl)⟩ rfl rfl (ct_X7_in ev29) rfl rfl (Nat.le_of_ble_eq_true rfl) ?_
    refine wp_if_eq (tgt := 30) dX7_season_18 (by decide) (fun c30 => ?_) (fun c30 => ?_)
    · have h := HI.t c30 h
      refine wp_iconst (v := -1) dX7_season_30 (by decide) ?_
      exact wp_iret dX7_season_31 rfl rfl (Nat.le_of_ble_eq_true rfl) (Nat.le_of_ble_eq_true rfl) (HI.some h)
    · have h := HI.f c30 h
      refine wp_iload_n (i := 3) dX7_season_21 rfl rfl ?_
      refine wp_iconst (v := 0) dX7_season_22 (by decide) ?_
      refine wp_iconst (v := 2) dX7_season_23 (by decide) ?_
      obtain ⟨v31, ev31, h⟩ := HI.bind h
      refine cgS_i (Y' := Y_X7_in) (kc2 := 0) (ks2 := 0) dX7_season_24 ml_X7_72 ce_X7_in ⟨(Nat.le_of_ble_eq_true rfl), (Nat.le_of_ble_eq_true rfl)⟩ ⟨(Nat.le_of_ble_eq_true rfl), (Nat.le_of_ble_eq_true rfl)⟩ rfl rfl (ct_X7_in ev31) rfl rfl (Nat.le_of_ble_eq_true rfl) ?_
      refine wp_if_ne (tgt := 32) dX7_season_27 (by decide) (fun c32 => ?_) (fun c32 => ?_)
      · have h := HI.f c32 h
        refine wp_aload_n (i := 0) dX7_season_32 rfl rfl ?_
        obtain ⟨v34, ev34, h⟩ := HI.bind h
        obtain ⟨v33, ev33, h⟩ := HI.bind h
        refine cgV_v (Y' := Y_X7_begin) (kc2 := 0) (ks2 := 0) dX7_season_33 ml_X7_186 ce_X7_begin (t := 7) rfl (by decide) ⟨(Nat.le_of_ble_eq_true rfl), (Nat.le_of_ble_eq_true rfl)⟩ ⟨(Nat.le_of_ble_eq_true rfl), (Nat.le_of_ble_eq_true rfl)⟩ rfl rfl (chkT_eq ev34) (ct_X7_begin ev33) rfl rfl (Nat.le_of_ble_eq_true rfl) ?_
        refine wp_aload_n (i := 0) dX7_season_36 rfl rfl ?_
        obtain ⟨v35, ev35, h⟩ := HI.bind h
        refine wp_getI cl7 (f := 3) (by decide) rfl fl_X7_112 dX7_season_37 ev35 ?_
        refine wp_istore dX7_season_40 rfl rfl ?_
        refine wp_iconst (v := 0) dX7_season_42 (by decide) ?_
        refine wp_istore dX7_season_43 rfl rfl ?_
        exact (w_X7_season_45 _ _ _ _ _ _ _ _ h)
      · have h := HI.t c32 h
        refine wp_iconst (v := -1) dX7_season_30 (by decide) ?_
        exact wp_iret dX7_season_31 rfl rfl (Nat.le_of_ble_eq_true rfl) (Nat.le_of_ble_eq_true rfl) (HI.some h)
theorem ct_X7_keep {D : DT} {l : Launch} {m : Mem} {x0 : Nat} {r : (Int32 × Mem)} (h : F_X7_keep x0 m = some r) : Ct D l Y_X7_keep [.ref x0] m (fun (v : Option Value) (N : Mem) => v = some (Value.int r.1) ∧ N = r.2) := by
  refine ct_of (by decide) (by rfl) (ls0 := [.ref x0]) rfl rfl ?_
  have h : HI (F_X7_keep x0 m) (fun (v : Option Value) (N : Mem) => v = some (Value.int r.1) ∧ N = r.2) := ⟨r.1, r.2, h, rfl, rfl⟩
  revert h
  generalize (fun (v : Option Value) (N : Mem) => v = some (Value.int r.1) ∧ N = r.2) = post
  intro h
  refine wp_aload_n (i := 0) dX7_keep_0 rfl rfl ?_
  obtain ⟨v1, ev1, h⟩ := HI.bind h
  refine wp_getI cl7 (f := 29) (by decide) rfl fl_X7_124 dX7_keep_1 ev1 ?_
  refine wp_iconst (v := 2) dX7_keep_4 (by decide) ?_
  refine wp_icmp_ne (tgt := 11) dX7_keep_5 (by decide) (fun c2 => ?_) (fun c2 => ?_)
  · have h := HI.f c2 h
    refine wp_aload_n (i := 0) dX7_keep_11 rfl rfl ?_
    refine wp_aload_n (i := 0) dX7_keep_12 rfl rfl ?_
    obtain ⟨v3, ev3, h⟩ := HI.bind h
    refine wp_getR cl7 (f := 28) (by decide) rfl fl_X7_61 dX7_keep_13 ev3 ?_
    refine wp_bipush (v := 30) dX7_keep_16 (by decide) ?_
    refine wp_aload_n (i := 0) dX7_keep_18 rfl rfl ?_
    obtain ⟨v4, ev4, h⟩ := HI.bind h
    refine wp_getI cl7 (f := 29) (by decide) rfl fl_X7_124 dX7_keep_19 ev4 ?_
    refine wp_imul dX7_keep_22 ?_
    obtain ⟨v6, ev6, h⟩ := HI.bind h
    obtain ⟨v5, ev5, h⟩ := HI.bind h
    refine cgV_v (Y' := Y_X7_lays) (kc2 := 0) (ks2 := 0) dX7_keep_23 ml_X7_159 ce_X7_lays (t := 7) rfl (by decide) ⟨(Nat.le_of_ble_eq_true rfl), (Nat.le_of_ble_eq_true rfl)⟩ ⟨(Nat.le_of_ble_eq_true rfl), (Nat.le_of_ble_eq_true rfl)⟩ rfl rfl (chkT_eq ev6) (ct_X7_lays ev5) rfl rfl (Nat.le_of_ble_eq_true rfl) ?_
    refine wp_aload_n (i := 0) dX7_keep_26 rfl rfl ?_
    refine wp_dup dX7_keep_27 rfl ?_
    obtain ⟨v7, ev7, h⟩ := HI.bind h
    refine wp_getI cl7 (f := 29) (by decide) rfl fl_X7_124 dX7_keep_28 ev7 ?_
    refine wp_iconst (v := 1) dX7_keep_31 (by decide) ?_
    refine wp_iadd dX7_keep_32 ?_
    obtain ⟨m8, em8, h⟩ := HI.bind h
    refine wp_putI cl7 (f := 29) (by decide) rfl fl_X7_124 (Or.inl rfl) dX7_keep_33 em8 ?_
    refine wp_aload_n (i := 0) dX7_keep_36 rfl rfl ?_
    obtain ⟨v9, ev9, h⟩ := HI.bind h
    refine wp_getI cl7 (f := 29) (by decide) rfl fl_X7_124 dX7_keep_37 ev9 ?_
    exact wp_iret dX7_keep_40 rfl rfl (Nat.le_of_ble_eq_true rfl) (Nat.le_of_ble_eq_true rfl) (HI.some h)
  · have h := HI.t c2 h
    refine wp_bipush (v := -3) dX7_keep_8 (by decide) ?_
    exact wp_iret dX7_keep_10 rfl rfl (Nat.le_of_ble_eq_true rfl) (Nat.le_of_ble_eq_true rfl) (HI.some h)
theorem ct_X7_back {D : DT} {l : Launch} {m : Mem} {x0 : Nat} {r : (Int32 × Mem)} (h : F_X7_back x0 m = some r) : Ct D l Y_X7_back [.ref x0] m (fun (v : Option Value) (N : Mem) => v = some (Value.int r.1) ∧ N = r.2) := by
  refine ct_of (by decide) (by rfl) (ls0 := [.ref x0]) rfl rfl ?_
  have h : HI (F_X7_back x0 m) (fun (v : Option Value) (N : Mem) => v = some (Value.int r.1) ∧ N = r.2) := ⟨r.1, r.2, h, rfl, rfl⟩
  revert h
  generalize (fun (v : Option Value) (N : Mem) => v = some (Value.int r.1) ∧ N = r.2) = post
  intro h
  refine wp_aload_n (i := 0) dX7_back_0 rfl rfl ?_
  obtain ⟨v1, ev1, h⟩ := HI.bind h
  refine wp_getI cl7 (f := 29) (by decide) rfl fl_X7_124 dX7_back_1 ev1 ?_
  refine wp_if_ne (tgt := 10) dX7_back_4 (by decide) (fun c2 => ?_) (fun c2 => ?_)
  · have h := HI.f c2 h
    refine wp_aload_n (i := 0) dX7_back_10 rfl rfl ?_
    refine wp_dup dX7_back_11 rfl ?_
    obtain ⟨v3, ev3, h⟩ := HI.bind h
    refine wp_getI cl7 (f := 29) (by decide) rfl fl_X7_124 dX7_back_12 ev3 ?_
    refine wp_iconst (v := 1) dX7_back_15 (by decide) ?_
    refine wp_isub dX7_back_16 ?_
    obtain ⟨m4, em4, h⟩ := HI.bind h
    refine wp_putI cl7 (f := 29) (by decide) rfl fl_X7_124 (Or.inl rfl) dX7_back_17 em4 ?_
    refine wp_aload_n (i := 0) dX7_back_20 rfl rfl ?_
    refine wp_aload_n (i := 0) dX7_back_21 rfl rfl ?_
    obtain ⟨v5, ev5, h⟩ := HI.bind h
    refine wp_getR cl7 (f := 28) (by decide) rfl fl_X7_61 dX7_back_22 ev5 ?_
    refine wp_bipush (v := 30) dX7_back_25 (by decide) ?_
    refine wp_aload_n (i := 0) dX7_back_27 rfl rfl ?_
    obtain ⟨v6, ev6, h⟩ := HI.bind h
    refine wp_getI cl7 (f := 29) (by decide) rfl fl_X7_124 dX7_back_28 ev6 ?_
    refine wp_imul dX7_back_31 ?_
    obtain ⟨v8, ev8, h⟩ := HI.bind h
    obtain ⟨v7, ev7, h⟩ := HI.bind h
    refine cgV_v (Y' := Y_X7_takes) (kc2 := 0) (ks2 := 0) dX7_back_32 ml_X7_177 ce_X7_takes (t := 7) rfl (by decide) ⟨(Nat.le_of_ble_eq_true rfl), (Nat.le_of_ble_eq_true rfl)⟩ ⟨(Nat.le_of_ble_eq_true rfl), (Nat.le_of_ble_eq_true rfl)⟩ rfl rfl (chkT_eq ev8) (ct_X7_takes ev7) rfl rfl (Nat.le_of_ble_eq_true rfl) ?_
    refine wp_aload_n (i := 0) dX7_back_35 rfl rfl ?_
    refine wp_iconst (v := 0) dX7_back_36 (by decide) ?_
    obtain ⟨m9, em9, h⟩ := HI.bind h
    refine wp_putI cl7 (f := 22) (by decide) rfl fl_X7_121 (Or.inl rfl) dX7_back_37 em9 ?_
    refine wp_aload_n (i := 0) dX7_back_40 rfl rfl ?_
    obtain ⟨v10, ev10, h⟩ := HI.bind h
    refine wp_getI cl7 (f := 29) (by decide) rfl fl_X7_124 dX7_back_41 ev10 ?_
    exact wp_iret dX7_back_44 rfl rfl (Nat.le_of_ble_eq_true rfl) (Nat.le_of_ble_eq_true rfl) (HI.some h)
  · have h := HI.t c2 h
    refine wp_bipush (v := -2) dX7_back_7 (by decide) ?_
    exact wp_iret dX7_back_9 rfl rfl (Nat.le_of_ble_eq_true rfl) (Nat.le_of_ble_eq_true rfl) (HI.some h)
theorem w_X7_aboutMany_29 {D : DT} {l : Launch} {post : Option Value → Mem → Prop} {m : Mem} {r4 : Nat → Int32 → Int32 → Option Int32} (hr4 : ∀ (x0 : Nat) (x1 : Int32) (x2 : Int32), PI m (r4 x0 x1 x2) post → WP D l Y_X7_aboutMany 0 0 4 [.ref x0, .int x1, .int x2] [] m post) {x0 : Nat} {x2 : Int32} {s0 : Int32} {s1 : Int32} (h : PI m (F_X7_aboutMany_29 m r4 x0 x2 s0 s1) post) : WP D l Y_X7_aboutMany 0 0 29 [.ref x0, JK, .int x2] [.int s1, .int s0] m post := by
  refine wp_iadd dX7_aboutMany_29 ?_
  refine wp_istore_n (i := 1) dX7_aboutMany_30 rfl rfl rfl ?_
  refine wp_iinc (v := 1) dX7_aboutMany_31 rfl (by decide) rfl rfl ?_
  refine wp_goto (tgt := 4) dX7_aboutMany_34 (by decide) ?_
  exact (hr4 _ _ _ h)
theorem w_X7_aboutMany_4 {D : DT} {l : Launch} {post : Option Value → Mem → Prop} {m : Mem} : ∀ (n : Nat) (x0 : Nat) (x1 : Int32) (x2 : Int32), PI m (F_X7_aboutMany_4 m n x0 x1 x2) post → WP D l Y_X7_aboutMany 0 0 4 [.ref x0, .int x1, .int x2] [] m post := by
  intro n
  induction n with
  | zero => intro x0 x1 x2 h; exact (PI.none h).elim
  | succ n ih =>
    intro x0 x1 x2 h
    refine wp_iload_n (i := 2) dX7_aboutMany_4 rfl rfl ?_
    refine wp_aload_n (i := 0) dX7_aboutMany_5 rfl rfl ?_
    obtain ⟨v1, ev1, h⟩ := PI.bind h
    refine wp_getI cl7 (f := 0) (by decide) rfl fl_X7_68 dX7_aboutMany_6 ev1 ?_
    refine wp_icmp_ge (tgt := 37) dX7_aboutMany_9 (by decide) (fun c2 => ?_) (fun c2 => ?_)
    · have h := PI.t c2 h
      refine wp_iload_n (i := 1) dX7_aboutMany_37 rfl rfl ?_
      exact wp_iret dX7_aboutMany_38 rfl rfl (Nat.le_of_ble_eq_true rfl) (Nat.le_of_ble_eq_true rfl) (PI.some h)
    · have h := PI.f c2 h
      refine wp_iload_n (i := 1) dX7_aboutMany_12 rfl rfl ?_
      refine wp_aload_n (i := 0) dX7_aboutMany_13 rfl rfl ?_
      obtain ⟨v3, ev3, h⟩ := PI.bind h
      refine wp_getR cl7 (f := 4) (by decide) rfl fl_X7_13 dX7_aboutMany_14 ev3 ?_
      refine wp_iload_n (i := 2) dX7_aboutMany_17 rfl rfl ?_
      obtain ⟨v4, ev4, h⟩ := PI.bind h
      refine wp_iaload dX7_aboutMany_18 ev4 ?_
      refine wp_bipush (v := -4) dX7_aboutMany_19 (by decide) ?_
      refine wp_icmp_ne (tgt := 28) dX7_aboutMany_21 (by decide) (fun c5 => ?_) (fun c5 => ?_)
      · have h := PI.f c5 h
        refine wp_iconst (v := 1) dX7_aboutMany_28 (by decide) ?_
        exact wp_weak [true, false, true] (w_X7_aboutMany_29 ih h)
      · have h := PI.t c5 h
        refine wp_iconst (v := 0) dX7_aboutMany_24 (by decide) ?_
        refine wp_goto (tgt := 29) dX7_aboutMany_25 (by decide) ?_
        exact wp_weak [true, false, true] (w_X7_aboutMany_29 ih h)
theorem ct_X7_aboutMany {D : DT} {l : Launch} {m : Mem} {x0 : Nat} {r : Int32} (h : F_X7_aboutMany x0 m = some r) : Ct D l Y_X7_aboutMany [.ref x0] m (fun (v : Option Value) (N : Mem) => v = some (Value.int r) ∧ N = m) := by
  refine ct_of (by decide) (by rfl) (ls0 := [.ref x0, JK, JK]) rfl rfl ?_
  have h : PI m (F_X7_aboutMany x0 m) (fun (v : Option Value) (N : Mem) => v = some (Value.int r) ∧ N = m) := ⟨r, h, rfl, rfl⟩
  revert h
  generalize (fun (v : Option Value) (N : Mem) => v = some (Value.int r) ∧ N = m) = post
  intro h
  refine wp_iconst (v := 0) dX7_aboutMany_0 (by decide) ?_
  refine wp_istore_n (i := 1) dX7_aboutMany_1 rfl rfl rfl ?_
  refine wp_iconst (v := 0) dX7_aboutMany_2 (by decide) ?_
  refine wp_istore_n (i := 2) dX7_aboutMany_3 rfl rfl rfl ?_
  exact (w_X7_aboutMany_4 _ _ _ _ h)
theorem ct_X7_count {D : DT} {l : Launch} {m : Mem} {x0 : Nat} {x1 : Int32} {r : Int32} (h : F_X7_count x0 x1 m = some r) : Ct D l Y_X7_count [.ref x0, .int x1] m (fun (v : Option Value) (N : Mem) => v = some (Value.int r) ∧ N = m) := by
  refine ct_of (by decide) (by rfl) (ls0 := [.ref x0, .int x1]) rfl rfl ?_
  have h : PI m (F_X7_count x0 x1 m) (fun (v : Option Value) (N : Mem) => v = some (Value.int r) ∧ N = m) := ⟨r, h, rfl, rfl⟩
  revert h
  generalize (fun (v : Option Value) (N : Mem) => v = some (Value.int r) ∧ N = m) = post
  intro h
  refine wp_iload_n (i := 1) dX7_count_0 rfl rfl ?_
  refine wp_iconst (v := 0) dX7_count_1 (by decide) ?_
  refine wp_bipush (v := 10) dX7_count_2 (by decide) ?_
  obtain ⟨v1, ev1, h⟩ := PI.bind h
  refine cgS_i (Y' := Y_X7_in) (kc2 := 0) (ks2 := 0) dX7_count_4 ml_X7_72 ce_X7_in ⟨(Nat.le_of_ble_eq_true rfl), (Nat.le_of_ble_eq_true rfl)⟩ ⟨(Nat.le_of_ble_eq_true rfl), (Nat.le_of_ble_eq_true rfl)⟩ rfl rfl (ct_X7_in ev1) rfl rfl (Nat.le_of_ble_eq_true rfl) ?_
  refine wp_if_ne (tgt := 12) dX7_count_7 (by decide) (fun c2 => ?_) (fun c2 => ?_)
  · have h := PI.f c2 h
    refine wp_iload_n (i := 1) dX7_count_12 rfl rfl ?_
    by_cases c3 : x1 = 0
    · have h := PI.t c3 h
      refine wp_tsIn (tgt := 68) (v := 0) (z := 0) (off := 55) dX7_count_13 c3 (by decide) (by decide) (by decide) (by decide) (by decide) ?_
      refine wp_aload_n (i := 0) dX7_count_68 rfl rfl ?_
      obtain ⟨v4, ev4, h⟩ := PI.bind h
      refine wp_getI cl7 (f := 0) (by decide) rfl fl_X7_68 dX7_count_69 ev4 ?_
      exact wp_iret dX7_count_72 rfl rfl (Nat.le_of_ble_eq_true rfl) (Nat.le_of_ble_eq_true rfl) (PI.some h)
    have h := PI.f c3 h
    by_cases c5 : x1 = 1
    · have h := PI.t c5 h
      refine wp_tsIn (tgt := 73) (v := 1) (z := 1) (off := 60) dX7_count_13 c5 (by decide) (by decide) (by decide) (by decide) (by decide) ?_
      refine wp_aload_n (i := 0) dX7_count_73 rfl rfl ?_
      obtain ⟨v6, ev6, h⟩ := PI.bind h
      refine wp_getI cl7 (f := 2) (by decide) rfl fl_X7_109 dX7_count_74 ev6 ?_
      exact wp_iret dX7_count_77 rfl rfl (Nat.le_of_ble_eq_true rfl) (Nat.le_of_ble_eq_true rfl) (PI.some h)
    have h := PI.f c5 h
    by_cases c7 : x1 = 2
    · have h := PI.t c7 h
      refine wp_tsIn (tgt := 78) (v := 2) (z := 2) (off := 65) dX7_count_13 c7 (by decide) (by decide) (by decide) (by decide) (by decide) ?_
      refine wp_aload_n (i := 0) dX7_count_78 rfl rfl ?_
      obtain ⟨v9, ev9, h⟩ := PI.bind h
      obtain ⟨v8, ev8, h⟩ := PI.bind h
      refine cgV_i (Y' := Y_X7_aboutMany) (kc2 := 0) (ks2 := 0) dX7_count_79 ml_X7_233 ce_X7_aboutMany (t := 7) rfl (by decide) ⟨(Nat.le_of_ble_eq_true rfl), (Nat.le_of_ble_eq_true rfl)⟩ ⟨(Nat.le_of_ble_eq_true rfl), (Nat.le_of_ble_eq_true rfl)⟩ rfl rfl (chkT_eq ev9) (ct_X7_aboutMany ev8) rfl rfl (Nat.le_of_ble_eq_true rfl) ?_
      exact wp_iret dX7_count_82 rfl rfl (Nat.le_of_ble_eq_true rfl) (Nat.le_of_ble_eq_true rfl) (PI.some h)
    have h := PI.f c7 h
    by_cases c10 : x1 = 3
    · have h := PI.t c10 h
      refine wp_tsIn (tgt := 83) (v := 3) (z := 3) (off := 70) dX7_count_13 c10 (by decide) (by decide) (by decide) (by decide) (by decide) ?_
      refine wp_aload_n (i := 0) dX7_count_83 rfl rfl ?_
      refine wp_iconst (v := 1) dX7_count_84 (by decide) ?_
      obtain ⟨v12, ev12, h⟩ := PI.bind h
      obtain ⟨v11, ev11, h⟩ := PI.bind h
      refine cgV_i (Y' := Y_X7_pairs) (kc2 := 0) (ks2 := 0) dX7_count_85 ml_X7_139 ce_X7_pairs (t := 7) rfl (by decide) ⟨(Nat.le_of_ble_eq_true rfl), (Nat.le_of_ble_eq_true rfl)⟩ ⟨(Nat.le_of_ble_eq_true rfl), (Nat.le_of_ble_eq_true rfl)⟩ rfl rfl (chkT_eq ev12) (ct_X7_pairs ev11) rfl rfl (Nat.le_of_ble_eq_true rfl) ?_
      exact wp_iret dX7_count_88 rfl rfl (Nat.le_of_ble_eq_true rfl) (Nat.le_of_ble_eq_true rfl) (PI.some h)
    have h := PI.f c10 h
    by_cases c13 : x1 = 4
    · have h := PI.t c13 h
      refine wp_tsIn (tgt := 89) (v := 4) (z := 4) (off := 76) dX7_count_13 c13 (by decide) (by decide) (by decide) (by decide) (by decide) ?_
      refine wp_aload_n (i := 0) dX7_count_89 rfl rfl ?_
      refine wp_iconst (v := 0) dX7_count_90 (by decide) ?_
      obtain ⟨v15, ev15, h⟩ := PI.bind h
      obtain ⟨v14, ev14, h⟩ := PI.bind h
      refine cgV_i (Y' := Y_X7_pairs) (kc2 := 0) (ks2 := 0) dX7_count_91 ml_X7_139 ce_X7_pairs (t := 7) rfl (by decide) ⟨(Nat.le_of_ble_eq_true rfl), (Nat.le_of_ble_eq_true rfl)⟩ ⟨(Nat.le_of_ble_eq_true rfl), (Nat.le_of_ble_eq_true rfl)⟩ rfl rfl (chkT_eq ev15) (ct_X7_pairs ev14) rfl rfl (Nat.le_of_ble_eq_true rfl) ?_
      exact wp_iret dX7_count_94 rfl rfl (Nat.le_of_ble_eq_true rfl) (Nat.le_of_ble_eq_true rfl) (PI.some h)
    have h := PI.f c13 h
    by_cases c16 : x1 = 5
    · have h := PI.t c16 h
      refine wp_tsIn (tgt := 95) (v := 5) (z := 5) (off := 82) dX7_count_13 c16 (by decide) (by decide) (by decide) (by decide) (by decide) ?_
      refine wp_aload_n (i := 0) dX7_count_95 rfl rfl ?_
      obtain ⟨v17, ev17, h⟩ := PI.bind h
      refine wp_getI cl7 (f := 3) (by decide) rfl fl_X7_112 dX7_count_96 ev17 ?_
      exact wp_iret dX7_count_99 rfl rfl (Nat.le_of_ble_eq_true rfl) (Nat.le_of_ble_eq_true rfl) (PI.some h)
    have h := PI.f c16 h
    by_cases c18 : x1 = 6
    · have h := PI.t c18 h
      refine wp_tsIn (tgt := 100) (v := 6) (z := 6) (off := 87) dX7_count_13 c18 (by decide) (by decide) (by decide) (by decide) (by decide) ?_
      refine wp_aload_n (i := 0) dX7_count_100 rfl rfl ?_
      obtain ⟨v19, ev19, h⟩ := PI.bind h
      refine wp_getI cl7 (f := 8) (by decide) rfl fl_X7_115 dX7_count_101 ev19 ?_
      exact wp_iret dX7_count_104 rfl rfl (Nat.le_of_ble_eq_true rfl) (Nat.le_of_ble_eq_true rfl) (PI.some h)
    have h := PI.f c18 h
    by_cases c20 : x1 = 7
    · have h := PI.t c20 h
      refine wp_tsIn (tgt := 105) (v := 7) (z := 7) (off := 92) dX7_count_13 c20 (by decide) (by decide) (by decide) (by decide) (by decide) ?_
      refine wp_aload_n (i := 0) dX7_count_105 rfl rfl ?_
      obtain ⟨v21, ev21, h⟩ := PI.bind h
      refine wp_getI cl7 (f := 12) (by decide) rfl fl_X7_118 dX7_count_106 ev21 ?_
      exact wp_iret dX7_count_109 rfl rfl (Nat.le_of_ble_eq_true rfl) (Nat.le_of_ble_eq_true rfl) (PI.some h)
    have h := PI.f c20 h
    by_cases c22 : x1 = 8
    · have h := PI.t c22 h
      refine wp_tsIn (tgt := 110) (v := 8) (z := 8) (off := 97) dX7_count_13 c22 (by decide) (by decide) (by decide) (by decide) (by decide) ?_
      refine wp_aload_n (i := 0) dX7_count_110 rfl rfl ?_
      obtain ⟨v23, ev23, h⟩ := PI.bind h
      refine wp_getI cl7 (f := 22) (by decide) rfl fl_X7_121 dX7_count_111 ev23 ?_
      exact wp_iret dX7_count_114 rfl rfl (Nat.le_of_ble_eq_true rfl) (Nat.le_of_ble_eq_true rfl) (PI.some h)
    have h := PI.f c22 h
    by_cases c24 : x1 = 9
    · have h := PI.t c24 h
      refine wp_tsIn (tgt := 115) (v := 9) (z := 9) (off := 102) dX7_count_13 c24 (by decide) (by decide) (by decide) (by decide) (by decide) ?_
      refine wp_aload_n (i := 0) dX7_count_115 rfl rfl ?_
      obtain ⟨v25, ev25, h⟩ := PI.bind h
      refine wp_getI cl7 (f := 29) (by decide) rfl fl_X7_124 dX7_count_116 ev25 ?_
      exact wp_iret dX7_count_119 rfl rfl (Nat.le_of_ble_eq_true rfl) (Nat.le_of_ble_eq_true rfl) (PI.some h)
    have h := PI.f c24 h
    have hz : (x1).toInt < 0 ∨ 9 < (x1).toInt := by
      have nc3 := lv_neT (a := 0) c3 (by decide)
      have nc5 := lv_neT (a := 1) c5 (by decide)
      have nc7 := lv_neT (a := 2) c7 (by decide)
      have nc10 := lv_neT (a := 3) c10 (by decide)
      have nc13 := lv_neT (a := 4) c13 (by decide)
      have nc16 := lv_neT (a := 5) c16 (by decide)
      have nc18 := lv_neT (a := 6) c18 (by decide)
      have nc20 := lv_neT (a := 7) c20 (by decide)
      have nc22 := lv_neT (a := 8) c22 (by decide)
      have nc24 := lv_neT (a := 9) c24 (by decide)
      omega
    refine wp_tsOut (tgt := 120) dX7_count_13 hz (by decide) ?_
    refine wp_aload_n (i := 0) dX7_count_120 rfl rfl ?_
    obtain ⟨v26, ev26, h⟩ := PI.bind h
    refine wp_getI cl7 (f := 16) (by decide) rfl fl_X7_76 dX7_count_121 ev26 ?_
    exact wp_iret dX7_count_124 rfl rfl (Nat.le_of_ble_eq_true rfl) (Nat.le_of_ble_eq_true rfl) (PI.some h)
  · have h := PI.t c2 h
    refine wp_iconst (v := -1) dX7_count_10 (by decide) ?_
    exact wp_iret dX7_count_11 rfl rfl (Nat.le_of_ble_eq_true rfl) (Nat.le_of_ble_eq_true rfl) (PI.some h)
