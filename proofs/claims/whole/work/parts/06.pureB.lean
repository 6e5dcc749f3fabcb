def f_X1_breaks_18 (p1 : Int32) (p2 : Int32) (p3 : Int32) (p4 : Int32) (p5 : Int32) (I : SI) : Option (Int32 × SI) :=
  some ((0 : Int32), (ups (ups (ups (ups (sets I 18 p1) 16 (0 : Int32).toNatClampNeg p2) 16 (1 : Int32).toNatClampNeg p3) 16 (2 : Int32).toNatClampNeg p4) 16 (3 : Int32).toNatClampNeg p5))
def f_X1_breaks_21 (p1 : Int32) (p2 : Int32) (p3 : Int32) (p4 : Int32) (p5 : Int32) (I : SI) : Option (Int32 × SI) :=
  some ((0 : Int32), (ups (ups (ups (ups (sets I 21 p1) 19 (0 : Int32).toNatClampNeg p2) 19 (1 : Int32).toNatClampNeg p3) 19 (2 : Int32).toNatClampNeg p4) 19 (3 : Int32).toNatClampNeg p5))
def f_X7_placeOf (p0 : Int32) (p1 : Int32) (p2 : Int32) : Option (Int32) :=
  some ((((p0 * (5 : Int32)) + p1) * (5 : Int32)) + p2)
def f_X7_number (x : Nat) (p1 : Int32) (p2 : Int32) (p3 : Int32) (I : SI) : Option (Int32) :=
  bd (f_X7_placeOf p1 p2 p3) (fun r_1 =>
   gd (r_1 < 0 ∨ 125 ≤ r_1.toNatClampNeg) (
   some (I x r_1.toNatClampNeg)
   )
  )
def lp_X1_firstUnlike_18 (x : Nat) (v1 : Int32) (v2 : Int32) (v3 : Int32) (v4 : Int32) (I : SI) : Nat → Int32 → Int32 → Option (Int32)
  | 0, _, _ => none
  | n + 1, v5, v6 =>
    if (I (8 + x) 0) ≤ v6 then (
     some v5
    ) else (
     bd (f_X7_number x v1 v2 v6 I) (fun r_2 =>
      bd (f_X7_number x v6 v3 v4 I) (fun r_3 =>
       bd (f_X7_number x v2 v3 v6 I) (fun r_4 =>
        bd (f_X7_number x v1 v6 v4 I) (fun r_5 =>
         lp_X1_firstUnlike_18 x v1 v2 v3 v4 I n (v5 + ((r_2 * r_3) - (r_4 * r_5))) (v6 + (1 : Int32))
        )
       )
      )
     )
    )
def lp_X1_firstUnlike_3 (x : Nat) (v1 : Int32) (v2 : Int32) (v3 : Int32) (I : SI) : Nat → Int32 → Option (Nat × Int32)
  | 0, _ => none
  | n + 1, v4 =>
    if (I (8 + x) 0) ≤ v4 then (
     some (1, (0 : Int32))
    ) else (
     bd (lp_X1_firstUnlike_18 x v1 v2 v3 v4 I FU (0 : Int32) (0 : Int32)) (fun w5_7 =>
      if w5_7 = 0 then (
       lp_X1_firstUnlike_3 x v1 v2 v3 I n (v4 + (1 : Int32))
      ) else (
       some (0, v4)
      )
     )
    )
def f_X1_firstUnlike (x : Nat) (p1 : Int32) (p2 : Int32) (p3 : Int32) (I : SI) : Option (Int32) :=
  bd (lp_X1_firstUnlike_3 x p1 p2 p3 I FU (0 : Int32)) (fun (t_9, w4_9) =>
   if t_9 = 0 then (
    some w4_9
   ) else (
    some (-1 : Int32)
   )
  )
def lp_X1_threeHolds_18_23 (x : Nat) (v2 : Int32) (v3 : Int32) (I : SI) : Nat → Int32 → Option (Nat × Int32 × Int32)
  | 0, _ => none
  | n + 1, v4 =>
    if (I (8 + x) 0) ≤ v4 then (
     some (1, (0 : Int32), (0 : Int32))
    ) else (
     bd (f_X1_firstUnlike x v2 v3 v4 I) (fun r_2 =>
      if r_2 = (-1 : Int32) then (
       lp_X1_threeHolds_18_23 x v2 v3 I n (v4 + (1 : Int32))
      ) else (
       some (0, v4, r_2)
      )
     )
    )
def lp_X1_threeHolds_18_12 (x : Nat) (v2 : Int32) (I : SI) : Nat → Int32 → Option (Nat × Int32 × Int32 × Int32)
  | 0, _ => none
  | n + 1, v3 =>
    if (I (8 + x) 0) ≤ v3 then (
     some (1, (0 : Int32), (0 : Int32), (0 : Int32))
    ) else (
     bd (lp_X1_threeHolds_18_23 x v2 v3 I FU (1 : Int32)) (fun (t_5, w4_5, w5_5) =>
      if t_5 = 0 then (
       some (0, v3, w4_5, w5_5)
      ) else (
       lp_X1_threeHolds_18_12 x v2 I n (v3 + (1 : Int32))
      )
     )
    )
def lp_X1_threeHolds_18_2 (x : Nat) (I : SI) : Nat → Int32 → Option (Nat × Int32 × Int32 × Int32 × Int32)
  | 0, _ => none
  | n + 1, v2 =>
    if (I (8 + x) 0) ≤ v2 then (
     some (1, (0 : Int32), (0 : Int32), (0 : Int32), (0 : Int32))
    ) else (
     bd (lp_X1_threeHolds_18_12 x v2 I FU (1 : Int32)) (fun (t_7, w3_7, w4_7, w5_7) =>
      if t_7 = 0 then (
       some (0, v2, w3_7, w4_7, w5_7)
      ) else (
       lp_X1_threeHolds_18_2 x I n (v2 + (1 : Int32))
      )
     )
    )
def f_X1_threeHolds_18 (x : Nat) (I : SI) : Option (Int32 × SI) :=
  bd (lp_X1_threeHolds_18_2 x I FU (1 : Int32)) (fun (t_8, w2_8, w3_8, w4_8, w5_8) =>
   if t_8 = 0 then (
    bd (f_X1_breaks_18 (5 : Int32) w2_8 w3_8 w4_8 w5_8 I) (fun (r_9, I_9) =>
     gd (¬ (r_9 = 0 ∨ r_9 = 1)) (
     some (r_9, I_9)
     )
    )
   ) else (
    some ((1 : Int32), I)
   )
  )
def lp_X1_threeHolds_21_23 (x : Nat) (v2 : Int32) (v3 : Int32) (I : SI) : Nat → Int32 → Option (Nat × Int32 × Int32)
  | 0, _ => none
  | n + 1, v4 =>
    if (I (8 + x) 0) ≤ v4 then (
     some (1, (0 : Int32), (0 : Int32))
    ) else (
     bd (f_X1_firstUnlike x v2 v3 v4 I) (fun r_2 =>
      if r_2 = (-1 : Int32) then (
       lp_X1_threeHolds_21_23 x v2 v3 I n (v4 + (1 : Int32))
      ) else (
       some (0, v4, r_2)
      )
     )
    )
def lp_X1_threeHolds_21_12 (x : Nat) (v2 : Int32) (I : SI) : Nat → Int32 → Option (Nat × Int32 × Int32 × Int32)
  | 0, _ => none
  | n + 1, v3 =>
    if (I (8 + x) 0) ≤ v3 then (
     some (1, (0 : Int32), (0 : Int32), (0 : Int32))
    ) else (
     bd (lp_X1_threeHolds_21_23 x v2 v3 I FU (1 : Int32)) (fun (t_5, w4_5, w5_5) =>
      if t_5 = 0 then (
       some (0, v3, w4_5, w5_5)
      ) else (
       lp_X1_threeHolds_21_12 x v2 I n (v3 + (1 : Int32))
      )
     )
    )
def lp_X1_threeHolds_21_2 (x : Nat) (I : SI) : Nat → Int32 → Option (Nat × Int32 × Int32 × Int32 × Int32)
  | 0, _ => none
  | n + 1, v2 =>
    if (I (8 + x) 0) ≤ v2 then (
     some (1, (0 : Int32), (0 : Int32), (0 : Int32), (0 : Int32))
    ) else (
     bd (lp_X1_threeHolds_21_12 x v2 I FU (1 : Int32)) (fun (t_7, w3_7, w4_7, w5_7) =>
      if t_7 = 0 then (
       some (0, v2, w3_7, w4_7, w5_7)
      ) else (
       lp_X1_threeHolds_21_2 x I n (v2 + (1 : Int32))
      )
     )
    )
def f_X1_threeHolds_21 (x : Nat) (I : SI) : Option (Int32 × SI) :=
  bd (lp_X1_threeHolds_21_2 x I FU (1 : Int32)) (fun (t_8, w2_8, w3_8, w4_8, w5_8) =>
   if t_8 = 0 then (
    bd (f_X1_breaks_21 (5 : Int32) w2_8 w3_8 w4_8 w5_8 I) (fun (r_9, I_9) =>
     gd (¬ (r_9 = 0 ∨ r_9 = 1)) (
     some (r_9, I_9)
     )
    )
   ) else (
    some ((1 : Int32), I)
   )
  )
def lp_J7_fill_5 (gk gn : Nat) (v1 : Int32) (v3 : Int32) : Nat → Int32 → SI → Option (SI)
  | 0, _, _ => none
  | n + 1, v2, I =>
    if v3 ≤ v2 then (
     some I
    ) else (
     gd (v2 < 0 ∨ gn ≤ v2.toNatClampNeg) (
     lp_J7_fill_5 gk gn v1 v3 n (v2 + (1 : Int32)) (ups I gk v2.toNatClampNeg v1)
     )
    )
def f_J7_fill (gk gn : Nat) (p1 : Int32) (I : SI) : Option (SI) :=
  bd (lp_J7_fill_5 gk gn p1 (nI gn) FU (0 : Int32) I) (fun I_3 =>
   some I_3
  )
def lp_J7_fillJ_6 (gk gn : Nat) (v1 : Int64) (v4 : Int32) : Nat → Int32 → SJ → Option (SJ)
  | 0, _, _ => none
  | n + 1, v3, J =>
    if v4 ≤ v3 then (
     some J
    ) else (
     gd (v3 < 0 ∨ gn ≤ v3.toNatClampNeg) (
     lp_J7_fillJ_6 gk gn v1 v4 n (v3 + (1 : Int32)) (upj J gk v3.toNatClampNeg v1)
     )
    )
def f_J7_fillJ (gk gn : Nat) (p1 : Int64) (J : SJ) : Option (SJ) :=
  bd (lp_J7_fillJ_6 gk gn p1 (nI gn) FU (0 : Int32) J) (fun J_3 =>
   some J_3
  )
def f_J6_bitCount (p0 : Int32) : Option (Int32) :=
  some ((((((((p0 - (((p0.toUInt32 >>> ((1 : Int32).toUInt32 &&& Int32.toUInt32 31)).toInt32) &&& (1431655765 : Int32))) &&& (858993459 : Int32)) + ((((p0 - (((p0.toUInt32 >>> ((1 : Int32).toUInt32 &&& Int32.toUInt32 31)).toInt32) &&& (1431655765 : Int32))).toUInt32 >>> ((2 : Int32).toUInt32 &&& Int32.toUInt32 31)).toInt32) &&& (858993459 : Int32))) + (((((p0 - (((p0.toUInt32 >>> ((1 : Int32).toUInt32 &&& Int32.toUInt32 31)).toInt32) &&& (1431655765 : Int32))) &&& (858993459 : Int32)) + ((((p0 - (((p0.toUInt32 >>> ((1 : Int32).toUInt32 &&& Int32.toUInt32 31)).toInt32) &&& (1431655765 : Int32))).toUInt32 >>> ((2 : Int32).toUInt32 &&& Int32.toUInt32 31)).toInt32) &&& (858993459 : Int32))).toUInt32 >>> ((4 : Int32).toUInt32 &&& Int32.toUInt32 31)).toInt32)) &&& (252645135 : Int32)) + (((((((p0 - (((p0.toUInt32 >>> ((1 : Int32).toUInt32 &&& Int32.toUInt32 31)).toInt32) &&& (1431655765 : Int32))) &&& (858993459 : Int32)) + ((((p0 - (((p0.toUInt32 >>> ((1 : Int32).toUInt32 &&& Int32.toUInt32 31)).toInt32) &&& (1431655765 : Int32))).toUInt32 >>> ((2 : Int32).toUInt32 &&& Int32.toUInt32 31)).toInt32) &&& (858993459 : Int32))) + (((((p0 - (((p0.toUInt32 >>> ((1 : Int32).toUInt32 &&& Int32.toUInt32 31)).toInt32) &&& (1431655765 : Int32))) &&& (858993459 : Int32)) + ((((p0 - (((p0.toUInt32 >>> ((1 : Int32).toUInt32 &&& Int32.toUInt32 31)).toInt32) &&& (1431655765 : Int32))).toUInt32 >>> ((2 : Int32).toUInt32 &&& Int32.toUInt32 31)).toInt32) &&& (858993459 : Int32))).toUInt32 >>> ((4 : Int32).toUInt32 &&& Int32.toUInt32 31)).toInt32)) &&& (252645135 : Int32)).toUInt32 >>> ((8 : Int32).toUInt32 &&& Int32.toUInt32 31)).toInt32)) + ((((((((p0 - (((p0.toUInt32 >>> ((1 : Int32).toUInt32 &&& Int32.toUInt32 31)).toInt32) &&& (1431655765 : Int32))) &&& (858993459 : Int32)) + ((((p0 - (((p0.toUInt32 >>> ((1 : Int32).toUInt32 &&& Int32.toUInt32 31)).toInt32) &&& (1431655765 : Int32))).toUInt32 >>> ((2 : Int32).toUInt32 &&& Int32.toUInt32 31)).toInt32) &&& (858993459 : Int32))) + (((((p0 - (((p0.toUInt32 >>> ((1 : Int32).toUInt32 &&& Int32.toUInt32 31)).toInt32) &&& (1431655765 : Int32))) &&& (858993459 : Int32)) + ((((p0 - (((p0.toUInt32 >>> ((1 : Int32).toUInt32 &&& Int32.toUInt32 31)).toInt32) &&& (1431655765 : Int32))).toUInt32 >>> ((2 : Int32).toUInt32 &&& Int32.toUInt32 31)).toInt32) &&& (858993459 : Int32))).toUInt32 >>> ((4 : Int32).toUInt32 &&& Int32.toUInt32 31)).toInt32)) &&& (252645135 : Int32)) + (((((((p0 - (((p0.toUInt32 >>> ((1 : Int32).toUInt32 &&& Int32.toUInt32 31)).toInt32) &&& (1431655765 : Int32))) &&& (858993459 : Int32)) + ((((p0 - (((p0.toUInt32 >>> ((1 : Int32).toUInt32 &&& Int32.toUInt32 31)).toInt32) &&& (1431655765 : Int32))).toUInt32 >>> ((2 : Int32).toUInt32 &&& Int32.toUInt32 31)).toInt32) &&& (858993459 : Int32))) + (((((p0 - (((p0.toUInt32 >>> ((1 : Int32).toUInt32 &&& Int32.toUInt32 31)).toInt32) &&& (1431655765 : Int32))) &&& (858993459 : Int32)) + ((((p0 - (((p0.toUInt32 >>> ((1 : Int32).toUInt32 &&& Int32.toUInt32 31)).toInt32) &&& (1431655765 : Int32))).toUInt32 >>> ((2 : Int32).toUInt32 &&& Int32.toUInt32 31)).toInt32) &&& (858993459 : Int32))).toUInt32 >>> ((4 : Int32).toUInt32 &&& Int32.toUInt32 31)).toInt32)) &&& (252645135 : Int32)).toUInt32 >>> ((8 : Int32).toUInt32 &&& Int32.toUInt32 31)).toInt32)).toUInt32 >>> ((16 : Int32).toUInt32 &&& Int32.toUInt32 31)).toInt32)) &&& (63 : Int32))
def f_X7_has (x : Nat) (p1 : Int32) (I : SI) : Option (Int32) :=
  if p1 < 0 then (
   some (0 : Int32)
  ) else (
   if (I (8 + x) 0) ≤ p1 then (
    some (0 : Int32)
   ) else (
    some (1 : Int32)
   )
  )
def f_X7_setNumber (x : Nat) (p1 : Int32) (p2 : Int32) (p3 : Int32) (p4 : Int32) (I : SI) : Option (SI) :=
  bd (f_X7_placeOf p1 p2 p3) (fun r_1 =>
   gd (r_1 < 0 ∨ 125 ≤ r_1.toNatClampNeg) (
   some (ups I x r_1.toNatClampNeg p4)
   )
  )
def lp_X7_reset_15 (x : Nat) (v1 : Int32) : Nat → Int32 → SI → Option (SI)
  | 0, _, _ => none
  | n + 1, v2, I =>
    if v1 ≤ v2 then (
     some I
    ) else (
     bd (f_X7_setNumber x (0 : Int32) v2 v2 (1 : Int32) I) (fun I_2 =>
      bd (f_X7_setNumber x v2 (0 : Int32) v2 (1 : Int32) I_2) (fun I_3 =>
       lp_X7_reset_15 x v1 n (v2 + (1 : Int32)) I_3
      )
     )
    )
def f_X7_reset (x : Nat) (p1 : Int32) (I : SI) : Option (SI) :=
  bd (f_J7_fill x 125 (0 : Int32) I) (fun I_4 =>
   bd (lp_X7_reset_15 x p1 FU (0 : Int32) (sets I_4 (8 + x) p1)) (fun I_5 =>
    some I_5
   )
  )
def f_X7_become (x : Nat) (y : Nat) (I : SI) : Option (SI) :=
  gd ((0 : Int32) < 0 ∨ (0 : Int32) < 0 ∨ (125 : Int32) < 0 ∨ 125 < (0 : Int32).toNatClampNeg + (125 : Int32).toNatClampNeg ∨ 125 < (0 : Int32).toNatClampNeg + (125 : Int32).toNatClampNeg) (
  some (va_up (sets I (8 + x) (I (8 + y) 0)) x (va_cpy ((sets I (8 + x) (I (8 + y) 0)) y) ((sets I (8 + x) (I (8 + y) 0)) x) (0 : Int32).toNatClampNeg (0 : Int32).toNatClampNeg (125 : Int32).toNatClampNeg))
  )
def lp_X7_fuseAsGroup_9 (x : Nat) (v1 : Int32) (v2 : Int32) : Nat → Int32 → SI → Option (SI)
  | 0, _, _ => none
  | n + 1, v3, I =>
    if v1 ≤ v3 then (
     some I
    ) else (
     if (v2 + v3) < v1 then (
      bd (f_X7_setNumber x v2 v3 (v2 + v3) (1 : Int32) I) (fun I_3 =>
       lp_X7_fuseAsGroup_9 x v1 v2 n (v3 + (1 : Int32)) I_3
      )
     ) else (
      bd (f_X7_setNumber x v2 v3 ((v2 + v3) - v1) (1 : Int32) I) (fun I_4 =>
       lp_X7_fuseAsGroup_9 x v1 v2 n (v3 + (1 : Int32)) I_4
      )
     )
    )
def lp_X7_fuseAsGroup_2 (x : Nat) (v1 : Int32) : Nat → Int32 → SI → Option (SI)
  | 0, _, _ => none
  | n + 1, v2, I =>
    if v1 ≤ v2 then (
     some I
    ) else (
     bd (lp_X7_fuseAsGroup_9 x v1 v2 FU (0 : Int32) I) (fun I_6 =>
      lp_X7_fuseAsGroup_2 x v1 n (v2 + (1 : Int32)) I_6
     )
    )
def f_X7_fuseAsGroup (x : Nat) (p1 : Int32) (I : SI) : Option (SI) :=
  bd (lp_X7_fuseAsGroup_2 x p1 FU (0 : Int32) I) (fun I_7 =>
   some I_7
  )
def lp_X7_placeBlock_27 (x : Nat) (y : Nat) (v2 : Int32) (v3 : Int32) (v4 : Int32) (v5 : Int32) (v6 : Int32) (v7 : Int32) : Nat → Int32 → SI → Option (Nat × SI)
  | 0, _, _ => none
  | n + 1, v8, I =>
    if (I (8 + y) 0) ≤ v8 then (
     some (1, I)
    ) else (
     bd (f_X7_number y v6 v7 v8 I) (fun r_2 =>
      if (v2 * r_2) ≤ (9 : Int32) then (
       bd (f_X7_setNumber x (v3 + v6) (v4 + v7) (v5 + v8) (v2 * r_2) I) (fun I_4 =>
        lp_X7_placeBlock_27 x y v2 v3 v4 v5 v6 v7 n (v8 + (1 : Int32)) I_4
       )
      ) else (
       some (0, I)
      )
     )
    )
def lp_X7_placeBlock_15 (x : Nat) (y : Nat) (v2 : Int32) (v3 : Int32) (v4 : Int32) (v5 : Int32) (v6 : Int32) : Nat → Int32 → SI → Option (Nat × SI)
  | 0, _, _ => none
  | n + 1, v7, I =>
    if (I (8 + y) 0) ≤ v7 then (
     some (1, I)
    ) else (
     bd (lp_X7_placeBlock_27 x y v2 v3 v4 v5 v6 v7 FU (0 : Int32) I) (fun (t_6, I_6) =>
      if t_6 = 0 then (
       some (0, I_6)
      ) else (
       lp_X7_placeBlock_15 x y v2 v3 v4 v5 v6 n (v7 + (1 : Int32)) I_6
      )
     )
    )
def lp_X7_placeBlock_3 (x : Nat) (y : Nat) (v2 : Int32) (v3 : Int32) (v4 : Int32) (v5 : Int32) : Nat → Int32 → SI → Option (Nat × SI)
  | 0, _, _ => none
  | n + 1, v6, I =>
    if (I (8 + y) 0) ≤ v6 then (
     some (1, I)
    ) else (
     bd (lp_X7_placeBlock_15 x y v2 v3 v4 v5 v6 FU (0 : Int32) I) (fun (t_8, I_8) =>
      if t_8 = 0 then (
       some (0, I_8)
      ) else (
       lp_X7_placeBlock_3 x y v2 v3 v4 v5 n (v6 + (1 : Int32)) I_8
      )
     )
    )
def f_X7_placeBlock (x : Nat) (y : Nat) (p2 : Int32) (p3 : Int32) (p4 : Int32) (p5 : Int32) (I : SI) : Option (Int32 × SI) :=
  bd (lp_X7_placeBlock_3 x y p2 p3 p4 p5 FU (0 : Int32) I) (fun (t_9, I_9) =>
   if t_9 = 0 then (
    some ((0 : Int32), I_9)
   ) else (
    some ((1 : Int32), I_9)
   )
  )
def lp_X7_becomeProduct_42 (x : Nat) (y : Nat) (z : Nat) (v3 : Int32) (v4 : Int32) (v5 : Int32) : Nat → Int32 → SI → Option (Nat × SI)
  | 0, _, _ => none
  | n + 1, v6, I =>
    if (I (8 + y) 0) ≤ v6 then (
     some (1, I)
    ) else (
     bd (f_X7_number y v4 v5 v6 I) (fun r_2 =>
      bd (f_X7_placeBlock x z r_2 (v4 * v3) (v5 * v3) (v6 * v3) I) (fun (r_3, I_3) =>
       if r_3 = 0 then (
        some (0, I_3)
       ) else (
        lp_X7_becomeProduct_42 x y z v3 v4 v5 n (v6 + (1 : Int32)) I_3
       )
      )
     )
    )
def lp_X7_becomeProduct_30 (x : Nat) (y : Nat) (z : Nat) (v3 : Int32) (v4 : Int32) : Nat → Int32 → SI → Option (Nat × SI)
  | 0, _, _ => none
  | n + 1, v5, I =>
    if (I (8 + y) 0) ≤ v5 then (
     some (1, I)
    ) else (
     bd (lp_X7_becomeProduct_42 x y z v3 v4 v5 FU (0 : Int32) I) (fun (t_6, I_6) =>
      if t_6 = 0 then (
       some (0, I_6)
      ) else (
       lp_X7_becomeProduct_30 x y z v3 v4 n (v5 + (1 : Int32)) I_6
      )
     )
    )
def lp_X7_becomeProduct_18 (x : Nat) (y : Nat) (z : Nat) (v3 : Int32) : Nat → Int32 → SI → Option (Nat × SI)
  | 0, _, _ => none
  | n + 1, v4, I =>
    if (I (8 + y) 0) ≤ v4 then (
     some (1, I)
    ) else (
     bd (lp_X7_becomeProduct_30 x y z v3 v4 FU (0 : Int32) I) (fun (t_8, I_8) =>
      if t_8 = 0 then (
       some (0, I_8)
      ) else (
       lp_X7_becomeProduct_18 x y z v3 n (v4 + (1 : Int32)) I_8
      )
     )
    )
def f_X7_becomeProduct (x : Nat) (y : Nat) (z : Nat) (I : SI) : Option (Int32 × SI) :=
  bd (f_X7_reset x ((I (8 + y) 0) * (I (8 + z) 0)) I) (fun I_9 =>
   bd (lp_X7_becomeProduct_18 x y z (I (8 + z) 0) FU (0 : Int32) I_9) (fun (t_10, I_10) =>
    if t_10 = 0 then (
     some ((0 : Int32), I_10)
    ) else (
     some ((1 : Int32), I_10)
    )
   )
  )
def lp_X7_mixInto_39 (x : Nat) (v5 : Int32) (v6 : Int32) (I : SI) : Nat → Int64 → Int32 → Option (Int64)
  | 0, _, _ => none
  | n + 1, v3, v7 =>
    if (I (8 + x) 0) ≤ v7 then (
     some v3
    ) else (
     bd (f_X7_number x v5 v6 v7 I) (fun r_2 =>
      lp_X7_mixInto_39 x v5 v6 I n (((31 : Int64) * v3) + (r_2.toInt64)) (v7 + (1 : Int32))
     )
    )
def lp_X7_mixInto_27 (x : Nat) (v5 : Int32) (I : SI) : Nat → Int64 → Int32 → Option (Int64)
  | 0, _, _ => none
  | n + 1, v3, v6 =>
    if (I (8 + x) 0) ≤ v6 then (
     some v3
    ) else (
     bd (lp_X7_mixInto_39 x v5 v6 I FU v3 (0 : Int32)) (fun w3_4 =>
      lp_X7_mixInto_27 x v5 I n w3_4 (v6 + (1 : Int32))
     )
    )
def lp_X7_mixInto_15 (x : Nat) (I : SI) : Nat → Int64 → Int32 → Option (Int64)
  | 0, _, _ => none
  | n + 1, v3, v5 =>
    if (I (8 + x) 0) ≤ v5 then (
     some v3
    ) else (
     bd (lp_X7_mixInto_27 x v5 I FU v3 (0 : Int32)) (fun w3_6 =>
      lp_X7_mixInto_15 x I n w3_6 (v5 + (1 : Int32))
     )
    )
def f_X7_mixInto (x : Nat) (p1 : Int64) (I : SI) : Option (Int64) :=
  bd (lp_X7_mixInto_15 x I FU (((31 : Int64) * p1) + ((I (8 + x) 0).toInt64)) (0 : Int32)) (fun w3_7 =>
   some w3_7
  )
def f_X5_holds (p0 : Int32) (p1 : Int32) : Option (Int32) :=
  if ((p0 >>> (p1 &&& 31)) &&& (1 : Int32)) = 0 then (
   some (0 : Int32)
  ) else (
   some (1 : Int32)
  )
def lp_X0_expandedMinor_16 (v1 : Int32) (v2 : Int32) (v3 : Int32) (I : SI) (J : SJ) : Nat → Int64 → Int64 → Int32 → Option (Int64)
  | 0, _, _, _ => none
  | n + 1, v4, v6, v8 =>
    if v8 < 0 then (
     some v4
    ) else (
     bd (f_X5_holds v2 v8) (fun r_2 =>
      if r_2 = 0 then (
       lp_X0_expandedMinor_16 v1 v2 v3 I J n v4 v6 (v8 + (-1 : Int32))
      ) else (
       if v8 = v3 then (
        gd (((v3 * (5 : Int32)) + v8) < 0 ∨ 25 ≤ ((v3 * (5 : Int32)) + v8).toNatClampNeg) (
        gd ((v2 &&& (((1 : Int32) <<< (v8 &&& 31)) ^^^ (-1 : Int32))) < 0 ∨ 32 ≤ (v2 &&& (((1 : Int32) <<< (v8 &&& 31)) ^^^ (-1 : Int32))).toNatClampNeg) (
        lp_X0_expandedMinor_16 v1 v2 v3 I J n (v4 + ((v6 * ((v1.toInt64) - ((10 : Int64) * ((I 30 ((v3 * (5 : Int32)) + v8).toNatClampNeg).toInt64)))) * (J 31 (v2 &&& (((1 : Int32) <<< (v8 &&& 31)) ^^^ (-1 : Int32))).toNatClampNeg))) (-v6) (v8 + (-1 : Int32))
        )
        )
       ) else (
        gd (((v3 * (5 : Int32)) + v8) < 0 ∨ 25 ≤ ((v3 * (5 : Int32)) + v8).toNatClampNeg) (
        gd ((v2 &&& (((1 : Int32) <<< (v8 &&& 31)) ^^^ (-1 : Int32))) < 0 ∨ 32 ≤ (v2 &&& (((1 : Int32) <<< (v8 &&& 31)) ^^^ (-1 : Int32))).toNatClampNeg) (
        lp_X0_expandedMinor_16 v1 v2 v3 I J n (v4 + ((v6 * (((0 : Int32).toInt64) - ((10 : Int64) * ((I 30 ((v3 * (5 : Int32)) + v8).toNatClampNeg).toInt64)))) * (J 31 (v2 &&& (((1 : Int32) <<< (v8 &&& 31)) ^^^ (-1 : Int32))).toNatClampNeg))) (-v6) (v8 + (-1 : Int32))
        )
        )
       )
      )
     )
    )
def f_X0_expandedMinor (p1 : Int32) (p2 : Int32) (I : SI) (J : SJ) : Option (Int64) :=
  bd (f_J6_bitCount p2) (fun r_9 =>
   bd (lp_X0_expandedMinor_16 p1 p2 (r_9 - (1 : Int32)) I J FU (0 : Int64) (1 : Int64) (4 : Int32)) (fun w4_10 =>
    some w4_10
   )
  )
def lp_X0_isAbove_9 (v1 : Int32) (v2 : Int32) (I : SI) : Nat → Int32 → SJ → Option (Nat × SJ)
  | 0, _, _ => none
  | n + 1, v3, J =>
    if ((1 : Int32) <<< (v2 &&& 31)) ≤ v3 then (
     some (1, J)
    ) else (
     bd (f_X0_expandedMinor v1 v3 I J) (fun r_2 =>
      gd (v3 < 0 ∨ 32 ≤ v3.toNatClampNeg) (
      if (v3 &&& (v3 + (1 : Int32))) = 0 then (
       if (1 : Int32) = 0 then (
        lp_X0_isAbove_9 v1 v2 I n (v3 + (1 : Int32)) (upj J 31 v3.toNatClampNeg r_2)
       ) else (
        gd (v3 < 0 ∨ 32 ≤ v3.toNatClampNeg) (
        if 0 < (lg_cmp ((upj J 31 v3.toNatClampNeg r_2) 31 v3.toNatClampNeg) (0 : Int64)) then (
         lp_X0_isAbove_9 v1 v2 I n (v3 + (1 : Int32)) (upj J 31 v3.toNatClampNeg r_2)
        ) else (
         some (0, (upj J 31 v3.toNatClampNeg r_2))
        )
        )
       )
      ) else (
       if (0 : Int32) = 0 then (
        lp_X0_isAbove_9 v1 v2 I n (v3 + (1 : Int32)) (upj J 31 v3.toNatClampNeg r_2)
       ) else (
        gd (v3 < 0 ∨ 32 ≤ v3.toNatClampNeg) (
        if 0 < (lg_cmp ((upj J 31 v3.toNatClampNeg r_2) 31 v3.toNatClampNeg) (0 : Int64)) then (
         lp_X0_isAbove_9 v1 v2 I n (v3 + (1 : Int32)) (upj J 31 v3.toNatClampNeg r_2)
        ) else (
         some (0, (upj J 31 v3.toNatClampNeg r_2))
        )
        )
       )
      )
      )
     )
    )
def f_X0_isAbove (p1 : Int32) (p2 : Int32) (I : SI) (J : SJ) : Option (Int32 × SJ) :=
  bd (lp_X0_isAbove_9 p1 p2 I FU (1 : Int32) (upj J 31 (0 : Int32).toNatClampNeg (1 : Int64))) (fun (t_11, J_11) =>
   if t_11 = 0 then (
    some ((0 : Int32), J_11)
   ) else (
    some ((1 : Int32), J_11)
   )
  )
def lp_X0_addUp_26 (x : Nat) (v2 : Int32) (v3 : Int32) (I : SI) : Nat → Int32 → Int32 → Option (Int32)
  | 0, _, _ => none
  | n + 1, v4, v5 =>
    if (I (8 + x) 0) ≤ v5 then (
     some v4
    ) else (
     bd (f_X7_number x v5 v2 v3 I) (fun r_2 =>
      lp_X0_addUp_26 x v2 v3 I n (v4 + r_2) (v5 + (1 : Int32))
     )
    )
def lp_X0_addUp_12 (x : Nat) (v2 : Int32) : Nat → Int32 → SI → Option (SI)
  | 0, _, _ => none
  | n + 1, v3, I =>
    if (I (8 + x) 0) ≤ v3 then (
     some I
    ) else (
     bd (lp_X0_addUp_26 x v2 v3 I FU (0 : Int32) (0 : Int32)) (fun w4_4 =>
      gd (((v2 * (5 : Int32)) + v3) < 0 ∨ 25 ≤ ((v2 * (5 : Int32)) + v3).toNatClampNeg) (
      lp_X0_addUp_12 x v2 n (v3 + (1 : Int32)) (ups I 30 ((v2 * (5 : Int32)) + v3).toNatClampNeg w4_4)
      )
     )
    )
def lp_X0_addUp_2 (x : Nat) : Nat → Int32 → SI → Option (SI)
  | 0, _, _ => none
  | n + 1, v2, I =>
    if (I (8 + x) 0) ≤ v2 then (
     some I
    ) else (
     bd (lp_X0_addUp_12 x v2 FU (0 : Int32) I) (fun I_7 =>
      lp_X0_addUp_2 x n (v2 + (1 : Int32)) I_7
     )
    )
def f_X0_addUp (x : Nat) (I : SI) : Option (SI) :=
  bd (lp_X0_addUp_2 x FU (0 : Int32) I) (fun I_8 =>
   some I_8
  )
def lp_X0_tenths_14 (x : Nat) (I : SI) : Nat → Int32 → Int32 → Int32 → SJ → Option (Int32 × SJ)
  | 0, _, _, _, _ => none
  | n + 1, v2, v3, v4, J =>
    if (12 : Int32) ≤ v4 then (
     some (v2, J)
    ) else (
     if (v3 - v2) ≤ (1 : Int32) then (
      some (v2, J)
     ) else (
      bd (f_X0_isAbove ((v2 + v3) >>> ((1 : Int32) &&& 31)) (I (8 + x) 0) I J) (fun (r_3, J_3) =>
       if r_3 = 0 then (
        lp_X0_tenths_14 x I n ((v2 + v3) >>> ((1 : Int32) &&& 31)) v3 (v4 + (1 : Int32)) J_3
       ) else (
        lp_X0_tenths_14 x I n v2 ((v2 + v3) >>> ((1 : Int32) &&& 31)) (v4 + (1 : Int32)) J_3
       )
      )
     )
    )
def f_X0_tenths (x : Nat) (I : SI) (J : SJ) : Option (Int32 × SI × SJ) :=
  bd (f_X0_addUp x I) (fun I_5 =>
   bd (lp_X0_tenths_14 x I_5 FU (0 : Int32) (2251 : Int32) (0 : Int32) J) (fun (w2_6, J_6) =>
    some (w2_6, I_5, J_6)
   )
  )
def lp_X1_unitHolds_12 (x : Nat) (v2 : Int32) (I : SI) : Nat → Int32 → Option (Nat × Int32)
  | 0, _ => none
  | n + 1, v3 =>
    if (I (8 + x) 0) ≤ v3 then (
     some (1, (0 : Int32))
    ) else (
     if v2 = v3 then (
      bd (f_X7_number x (0 : Int32) v2 v3 I) (fun r_7 =>
       if r_7 = (1 : Int32) then (
        bd (f_X7_number x v2 (0 : Int32) v3 I) (fun r_9 =>
         if r_9 = (1 : Int32) then (
          lp_X1_unitHolds_12 x v2 I n (v3 + (1 : Int32))
         ) else (
          some (0, v3)
         )
        )
       ) else (
        some (0, v3)
       )
      )
     ) else (
      bd (f_X7_number x (0 : Int32) v2 v3 I) (fun r_3 =>
       if r_3 = (0 : Int32) then (
        bd (f_X7_number x v2 (0 : Int32) v3 I) (fun r_5 =>
         if r_5 = (0 : Int32) then (
          lp_X1_unitHolds_12 x v2 I n (v3 + (1 : Int32))
         ) else (
          some (0, v3)
         )
        )
       ) else (
        some (0, v3)
       )
      )
     )
    )
def lp_X1_unitHolds_2 (x : Nat) (I : SI) : Nat → Int32 → Option (Nat × Int32 × Int32)
  | 0, _ => none
  | n + 1, v2 =>
    if (I (8 + x) 0) ≤ v2 then (
     some (1, (0 : Int32), (0 : Int32))
    ) else (
     bd (lp_X1_unitHolds_12 x v2 I FU (0 : Int32)) (fun (t_12, w3_12) =>
      if t_12 = 0 then (
       some (0, v2, w3_12)
      ) else (
       lp_X1_unitHolds_2 x I n (v2 + (1 : Int32))
      )
     )
    )
def f_X1_unitHolds (x : Nat) (I : SI) : Option (Int32 × SI) :=
  bd (lp_X1_unitHolds_2 x I FU (0 : Int32)) (fun (t_13, w2_13, w3_13) =>
   if t_13 = 0 then (
    bd (f_X1_breaks_18 (1 : Int32) w2_13 w3_13 (-1 : Int32) (-1 : Int32) I) (fun (r_14, I_14) =>
     gd (¬ (r_14 = 0 ∨ r_14 = 1)) (
     some (r_14, I_14)
     )
    )
   ) else (
    some ((1 : Int32), I)
   )
  )
def lp_X1_eitherWayHolds_23 (x : Nat) (v2 : Int32) (v3 : Int32) (I : SI) : Nat → Int32 → Option (Nat × Int32)
  | 0, _ => none
  | n + 1, v4 =>
    if (I (8 + x) 0) ≤ v4 then (
     some (1, (0 : Int32))
    ) else (
     bd (f_X7_number x v2 v3 v4 I) (fun r_2 =>
      bd (f_X7_number x v3 v2 v4 I) (fun r_3 =>
       if r_2 = r_3 then (
        lp_X1_eitherWayHolds_23 x v2 v3 I n (v4 + (1 : Int32))
       ) else (
        some (0, v4)
       )
      )
     )
    )
def lp_X1_eitherWayHolds_12 (x : Nat) (v2 : Int32) (I : SI) : Nat → Int32 → Option (Nat × Int32 × Int32)
  | 0, _ => none
  | n + 1, v3 =>
    if (I (8 + x) 0) ≤ v3 then (
     some (1, (0 : Int32), (0 : Int32))
    ) else (
     bd (lp_X1_eitherWayHolds_23 x v2 v3 I FU (0 : Int32)) (fun (t_6, w4_6) =>
      if t_6 = 0 then (
       some (0, v3, w4_6)
      ) else (
       lp_X1_eitherWayHolds_12 x v2 I n (v3 + (1 : Int32))
      )
     )
    )
def lp_X1_eitherWayHolds_2 (x : Nat) (I : SI) : Nat → Int32 → Option (Nat × Int32 × Int32 × Int32)
  | 0, _ => none
  | n + 1, v2 =>
    if (I (8 + x) 0) ≤ v2 then (
     some (1, (0 : Int32), (0 : Int32), (0 : Int32))
    ) else (
     bd (lp_X1_eitherWayHolds_12 x v2 I FU (0 : Int32)) (fun (t_8, w3_8, w4_8) =>
      if t_8 = 0 then (
       some (0, v2, w3_8, w4_8)
      ) else (
       lp_X1_eitherWayHolds_2 x I n (v2 + (1 : Int32))
      )
     )
    )
def f_X1_eitherWayHolds (x : Nat) (I : SI) : Option (Int32 × SI) :=
  bd (lp_X1_eitherWayHolds_2 x I FU (0 : Int32)) (fun (t_9, w2_9, w3_9, w4_9) =>
   if t_9 = 0 then (
    bd (f_X1_breaks_18 (2 : Int32) w2_9 w3_9 w4_9 (-1 : Int32) I) (fun (r_10, I_10) =>
     gd (¬ (r_10 = 0 ∨ r_10 = 1)) (
     some (r_10, I_10)
     )
    )
   ) else (
    some ((1 : Int32), I)
   )
  )
def lp_X1_partnersHold_15 (x : Nat) (v2 : Int32) : Nat → Int32 → Int32 → SI → Option (Int32 × SI)
  | 0, _, _, _ => none
  | n + 1, v3, v4, I =>
    if (I (8 + x) 0) ≤ v4 then (
     some (v3, I)
    ) else (
     bd (f_X7_number x v2 v4 (0 : Int32) I) (fun r_2 =>
      bd (f_X7_number x v2 v4 (0 : Int32) I) (fun r_3 =>
       if r_3 ≤ 0 then (
        lp_X1_partnersHold_15 x v2 n (v3 + r_2) (v4 + (1 : Int32)) I
       ) else (
        gd (v2 < 0 ∨ 5 ≤ v2.toNatClampNeg) (
        lp_X1_partnersHold_15 x v2 n (v3 + r_2) (v4 + (1 : Int32)) (ups I 17 v2.toNatClampNeg v4)
        )
       )
      )
     )
    )
def lp_X1_partnersHold_2 (x : Nat) : Nat → Int32 → SI → Option (Nat × Int32 × SI)
  | 0, _, _ => none
  | n + 1, v2, I =>
    if (I (8 + x) 0) ≤ v2 then (
     some (1, (0 : Int32), I)
    ) else (
     bd (lp_X1_partnersHold_15 x v2 FU (0 : Int32) (0 : Int32) I) (fun (w3_7, I_7) =>
      if w3_7 = (1 : Int32) then (
       lp_X1_partnersHold_2 x n (v2 + (1 : Int32)) I_7
      ) else (
       some (0, v2, I_7)
      )
     )
    )
def f_X1_partnersHold (x : Nat) (I : SI) : Option (Int32 × SI) :=
  bd (lp_X1_partnersHold_2 x FU (0 : Int32) I) (fun (t_9, w2_9, I_9) =>
   if t_9 = 0 then (
    bd (f_X1_breaks_18 (3 : Int32) w2_9 (-1 : Int32) (-1 : Int32) (-1 : Int32) I_9) (fun (r_10, I_10) =>
     gd (¬ (r_10 = 0 ∨ r_10 = 1)) (
     some (r_10, I_10)
     )
    )
   ) else (
    some ((1 : Int32), I_9)
   )
  )
def lp_X1_turnedHolds_23 (x : Nat) (v2 : Int32) (v3 : Int32) (I : SI) : Nat → Int32 → Option (Nat × Int32)
  | 0, _ => none
  | n + 1, v4 =>
    if (I (8 + x) 0) ≤ v4 then (
     some (1, (0 : Int32))
    ) else (
     bd (f_X7_number x v2 v3 v4 I) (fun r_2 =>
      gd (v2 < 0 ∨ 5 ≤ v2.toNatClampNeg) (
      bd (f_X7_number x (I 17 v2.toNatClampNeg) v4 v3 I) (fun r_4 =>
       if r_2 = r_4 then (
        lp_X1_turnedHolds_23 x v2 v3 I n (v4 + (1 : Int32))
       ) else (
        some (0, v4)
       )
      )
      )
     )
    )
def lp_X1_turnedHolds_12 (x : Nat) (v2 : Int32) (I : SI) : Nat → Int32 → Option (Nat × Int32 × Int32)
  | 0, _ => none
  | n + 1, v3 =>
    if (I (8 + x) 0) ≤ v3 then (
     some (1, (0 : Int32), (0 : Int32))
    ) else (
     bd (lp_X1_turnedHolds_23 x v2 v3 I FU (0 : Int32)) (fun (t_7, w4_7) =>
      if t_7 = 0 then (
       some (0, v3, w4_7)
      ) else (
       lp_X1_turnedHolds_12 x v2 I n (v3 + (1 : Int32))
      )
     )
    )
def lp_X1_turnedHolds_2 (x : Nat) (I : SI) : Nat → Int32 → Option (Nat × Int32 × Int32 × Int32)
  | 0, _ => none
  | n + 1, v2 =>
    if (I (8 + x) 0) ≤ v2 then (
     some (1, (0 : Int32), (0 : Int32), (0 : Int32))
    ) else (
     bd (lp_X1_turnedHolds_12 x v2 I FU (0 : Int32)) (fun (t_9, w3_9, w4_9) =>
      if t_9 = 0 then (
       some (0, v2, w3_9, w4_9)
      ) else (
       lp_X1_turnedHolds_2 x I n (v2 + (1 : Int32))
      )
     )
    )
def f_X1_turnedHolds (x : Nat) (I : SI) : Option (Int32 × SI) :=
  bd (lp_X1_turnedHolds_2 x I FU (0 : Int32)) (fun (t_10, w2_10, w3_10, w4_10) =>
   if t_10 = 0 then (
    bd (f_X1_breaks_18 (4 : Int32) w2_10 w3_10 w4_10 (-1 : Int32) I) (fun (r_11, I_11) =>
     gd (¬ (r_11 = 0 ∨ r_11 = 1)) (
     some (r_11, I_11)
     )
    )
   ) else (
    some ((1 : Int32), I)
   )
  )
def f_X1_allHold (x : Nat) (I : SI) : Option (Int32 × SI) :=
  bd (f_J7_fill 16 4 (-1 : Int32) (sets I 18 (0 : Int32))) (fun I_1 =>
   bd (f_X1_unitHolds x I_1) (fun (r_2, I_2) =>
    if r_2 = 0 then (
     some ((0 : Int32), I_2)
    ) else (
     bd (f_X1_eitherWayHolds x I_2) (fun (r_4, I_4) =>
      if r_4 = 0 then (
       some ((0 : Int32), I_4)
      ) else (
       bd (f_X1_partnersHold x I_4) (fun (r_6, I_6) =>
        if r_6 = 0 then (
         some ((0 : Int32), I_6)
        ) else (
         bd (f_X1_turnedHolds x I_6) (fun (r_8, I_8) =>
          if r_8 = 0 then (
           some ((0 : Int32), I_8)
          ) else (
           bd (f_X1_threeHolds_18 x I_8) (fun (r_10, I_10) =>
            if r_10 = 0 then (
             some ((0 : Int32), I_10)
            ) else (
             some ((1 : Int32), I_10)
            )
           )
          )
         )
        )
       )
      )
     )
    )
   )
  )
def f_X2_partnerOf (p1 : Int32) (I : SI) : Option (Int32) :=
  if (I 52 0) = (1 : Int32) then (
   if p1 = (1 : Int32) then (
    some ((3 : Int32) - p1)
   ) else (
    if p1 = (2 : Int32) then (
     some ((3 : Int32) - p1)
    ) else (
     some p1
    )
   )
  ) else (
   some p1
  )
def lp_X2_markAlike_12  : Nat → Int32 → Int32 → Int32 → Int32 → SI → Option (SI)
  | 0, _, _, _, _, _ => none
  | n + 1, v4, v5, v6, v7, I =>
    if (12 : Int32) ≤ v7 then (
     some I
    ) else (
     bd (f_X7_placeOf v4 v5 v6) (fun r_2 =>
      gd (r_2 < 0 ∨ 125 ≤ r_2.toNatClampNeg) (
      if (v7 &&& (1 : Int32)) = 0 then (
       lp_X2_markAlike_12  n v5 v4 v6 (v7 + (1 : Int32)) (ups I 22 r_2.toNatClampNeg (I 53 0))
      ) else (
       bd (f_X2_partnerOf v4 (ups I 22 r_2.toNatClampNeg (I 53 0))) (fun r_5 =>
        lp_X2_markAlike_12  n r_5 v6 v5 (v7 + (1 : Int32)) (ups I 22 r_2.toNatClampNeg (I 53 0))
       )
      )
      )
     )
    )
def f_X2_markAlike (p1 : Int32) (p2 : Int32) (p3 : Int32) (I : SI) : Option (SI) :=
  bd (lp_X2_markAlike_12  FU p1 p2 p3 (0 : Int32) I) (fun I_6 =>
   some I_6
  )
def lp_X2_findFree_35 (v1 : Int32) (v2 : Int32) : Nat → Int32 → SI → Option (SI)
  | 0, _, _ => none
  | n + 1, v3, I =>
    if (I 50 0) ≤ v3 then (
     some I
    ) else (
     bd (f_X7_placeOf v1 v2 v3) (fun r_2 =>
      gd (r_2 < 0 ∨ 125 ≤ r_2.toNatClampNeg) (
      if (I 22 r_2.toNatClampNeg) = (-1 : Int32) then (
       if (10 : Int32) ≤ (I 53 0) then (
        lp_X2_findFree_35 v1 v2 n (v3 + (1 : Int32)) I
       ) else (
        bd (f_X2_markAlike v1 v2 v3 I) (fun I_6 =>
         lp_X2_findFree_35 v1 v2 n (v3 + (1 : Int32)) (sets I_6 53 ((I_6 53 0) + (1 : Int32)))
        )
       )
      ) else (
       lp_X2_findFree_35 v1 v2 n (v3 + (1 : Int32)) I
      )
      )
     )
    )
def lp_X2_findFree_25 (v1 : Int32) : Nat → Int32 → SI → Option (SI)
  | 0, _, _ => none
  | n + 1, v2, I =>
    if (I 50 0) ≤ v2 then (
     some I
    ) else (
     bd (lp_X2_findFree_35 v1 v2 FU (1 : Int32) I) (fun I_8 =>
      lp_X2_findFree_25 v1 n (v2 + (1 : Int32)) I_8
     )
    )
def lp_X2_findFree_15  : Nat → Int32 → SI → Option (SI)
  | 0, _, _ => none
  | n + 1, v1, I =>
    if (I 50 0) ≤ v1 then (
     some I
    ) else (
     bd (lp_X2_findFree_25 v1 FU (1 : Int32) I) (fun I_10 =>
      lp_X2_findFree_15  n (v1 + (1 : Int32)) I_10
     )
    )
def f_X2_findFree (I : SI) : Option (SI) :=
  bd (f_J7_fill 22 125 (-1 : Int32) I) (fun I_11 =>
   bd (lp_X2_findFree_15  FU (1 : Int32) (sets I_11 53 (0 : Int32))) (fun I_12 =>
    some I_12
   )
  )
def lp_X2_buildCandidate_48 (v1 : Int32) (v2 : Int32) : Nat → Int32 → SI → Option (SI)
  | 0, _, _ => none
  | n + 1, v3, I =>
    if (I 50 0) ≤ v3 then (
     some I
    ) else (
     bd (f_X7_placeOf v1 v2 v3) (fun r_2 =>
      gd (r_2 < 0 ∨ 125 ≤ r_2.toNatClampNeg) (
      if (I 22 r_2.toNatClampNeg) = (-1 : Int32) then (
       bd (f_X7_setNumber 7 v1 v2 v3 (0 : Int32) I) (fun I_7 =>
        lp_X2_buildCandidate_48 v1 v2 n (v3 + (1 : Int32)) I_7
       )
      ) else (
       gd ((I 22 r_2.toNatClampNeg) < 0 ∨ 10 ≤ (I 22 r_2.toNatClampNeg).toNatClampNeg) (
       bd (f_X7_setNumber 7 v1 v2 v3 (I 23 (I 22 r_2.toNatClampNeg).toNatClampNeg) I) (fun I_6 =>
        lp_X2_buildCandidate_48 v1 v2 n (v3 + (1 : Int32)) I_6
       )
       )
      )
      )
     )
    )
def lp_X2_buildCandidate_38 (v1 : Int32) : Nat → Int32 → SI → Option (SI)
  | 0, _, _ => none
  | n + 1, v2, I =>
    if (I 50 0) ≤ v2 then (
     some I
    ) else (
     bd (lp_X2_buildCandidate_48 v1 v2 FU (1 : Int32) I) (fun I_9 =>
      lp_X2_buildCandidate_38 v1 n (v2 + (1 : Int32)) I_9
     )
    )
def lp_X2_buildCandidate_13  : Nat → Int32 → SI → Option (SI)
  | 0, _, _ => none
  | n + 1, v1, I =>
    if (I 50 0) ≤ v1 then (
     some I
    ) else (
     bd (f_X2_partnerOf v1 I) (fun r_11 =>
      bd (f_X7_setNumber 7 v1 r_11 (0 : Int32) (1 : Int32) I) (fun I_12 =>
       bd (lp_X2_buildCandidate_38 v1 FU (1 : Int32) I_12) (fun I_13 =>
        lp_X2_buildCandidate_13  n (v1 + (1 : Int32)) I_13
       )
      )
     )
    )
def f_X2_buildCandidate (I : SI) : Option (SI) :=
  bd (f_X7_reset 7 (I 50 0) I) (fun I_14 =>
   bd (lp_X2_buildCandidate_13  FU (1 : Int32) I_14) (fun I_15 =>
    some I_15
   )
  )
def lp_X2_nextRow_7  : Nat → Int32 → SI → Option (Nat × Int32 × SI)
  | 0, _, _ => none
  | n + 1, v1, I =>
    if v1 < 0 then (
     some (1, (0 : Int32), I)
    ) else (
     gd (v1 < 0 ∨ 10 ≤ v1.toNatClampNeg) (
     if (I 51 0) ≤ (I 23 v1.toNatClampNeg) then (
      gd (v1 < 0 ∨ 10 ≤ v1.toNatClampNeg) (
      lp_X2_nextRow_7  n (v1 + (-1 : Int32)) (ups I 23 v1.toNatClampNeg (0 : Int32))
      )
     ) else (
      some (0, v1, I)
     )
     )
    )
def f_X2_nextRow (I : SI) : Option (Int32 × SI) :=
  bd (lp_X2_nextRow_7  FU ((I 53 0) - (1 : Int32)) I) (fun (t_5, w1_5, I_5) =>
   if t_5 = 0 then (
    gd (w1_5 < 0 ∨ 10 ≤ w1_5.toNatClampNeg) (
    gd (w1_5 < 0 ∨ 10 ≤ w1_5.toNatClampNeg) (
    some ((1 : Int32), (ups I_5 23 w1_5.toNatClampNeg ((I_5 23 w1_5.toNatClampNeg) + (1 : Int32))))
    )
    )
   ) else (
    some ((0 : Int32), I_5)
   )
  )
def lp_X2_packedRow_4 (I : SI) : Nat → Int32 → Int32 → Option (Int32)
  | 0, _, _ => none
  | n + 1, v1, v2 =>
    if (I 53 0) ≤ v2 then (
     some v1
    ) else (
     gd (v2 < 0 ∨ 10 ≤ v2.toNatClampNeg) (
     lp_X2_packedRow_4 I n ((v1 <<< ((2 : Int32) &&& 31)) ||| (I 23 v2.toNatClampNeg)) (v2 + (1 : Int32))
     )
    )
def f_X2_packedRow (I : SI) : Option (Int32) :=
  bd (lp_X2_packedRow_4 I FU (0 : Int32) (0 : Int32)) (fun w1_3 =>
   some w1_3
  )
def lp_X2_findRight_17  : Nat → Int32 → Int32 → SI → Option (SI)
  | 0, _, _, _ => none
  | n + 1, v1, v2, I =>
    if (1024 : Int32) ≤ v2 then (
     some I
    ) else (
     if v1 = 0 then (
      some I
     ) else (
      bd (f_X2_buildCandidate I) (fun I_3 =>
       bd (f_X1_threeHolds_21 7 I_3) (fun (r_4, I_4) =>
        if r_4 = 0 then (
         bd (f_X2_nextRow I_4) (fun (r_6, I_6) =>
          lp_X2_findRight_17  n r_6 (v2 + (1 : Int32)) I_6
         )
        ) else (
         bd (f_X2_packedRow I_4) (fun r_7 =>
          gd ((I_4 54 0) < 0 ∨ 1024 ≤ (I_4 54 0).toNatClampNeg) (
          bd (f_X2_nextRow (sets (ups I_4 24 (I_4 54 0).toNatClampNeg r_7) 54 (((ups I_4 24 (I_4 54 0).toNatClampNeg r_7) 54 0) + (1 : Int32)))) (fun (r_9, I_9) =>
           lp_X2_findRight_17  n r_9 (v2 + (1 : Int32)) I_9
          )
          )
         )
        )
       )
      )
     )
    )
def f_X2_findRight (I : SI) : Option (SI) :=
  bd (f_J7_fill 23 10 (0 : Int32) (sets I 54 (0 : Int32))) (fun I_10 =>
   bd (lp_X2_findRight_17  FU (1 : Int32) (0 : Int32) I_10) (fun I_11 =>
    some I_11
   )
  )
def f_X2_howMany (p1 : Int32) (p2 : Int32) (p3 : Int32) (I : SI) : Option (Int32 × SI) :=
  if p1 = (I 50 0) then (
   if p2 = (I 51 0) then (
    if p3 = (I 52 0) then (
     some ((I 54 0), I)
    ) else (
     bd (f_X2_findFree (sets (sets (sets I 50 p1) 51 p2) 52 p3)) (fun I_8 =>
      bd (f_X2_findRight I_8) (fun I_9 =>
       some ((I_9 54 0), I_9)
      )
     )
    )
   ) else (
    bd (f_X2_findFree (sets (sets (sets I 50 p1) 51 p2) 52 p3)) (fun I_5 =>
     bd (f_X2_findRight I_5) (fun I_6 =>
      some ((I_6 54 0), I_6)
     )
    )
   )
  ) else (
   bd (f_X2_findFree (sets (sets (sets I 50 p1) 51 p2) 52 p3)) (fun I_2 =>
    bd (f_X2_findRight I_2) (fun I_3 =>
     some ((I_3 54 0), I_3)
    )
   )
  )
def lp_X2_write_28 (x : Nat) : Nat → Int32 → Int32 → SI → Option (SI)
  | 0, _, _, _ => none
  | n + 1, v3, v4, I =>
    if v4 < 0 then (
     some I
    ) else (
     gd (v4 < 0 ∨ 10 ≤ v4.toNatClampNeg) (
     lp_X2_write_28 x n (v3 >>> ((2 : Int32) &&& 31)) (v4 + (-1 : Int32)) (ups I 23 v4.toNatClampNeg (v3 &&& (3 : Int32)))
     )
    )
def f_X2_write (x : Nat) (p2 : Int32) (I : SI) : Option (SI) :=
  if p2 < 0 then (
   some I
  ) else (
   if p2 < (I 54 0) then (
    gd (p2 < 0 ∨ 1024 ≤ p2.toNatClampNeg) (
    bd (lp_X2_write_28 x FU (I 24 p2.toNatClampNeg) ((I 53 0) - (1 : Int32)) I) (fun I_6 =>
     bd (f_X2_buildCandidate I_6) (fun I_7 =>
      bd (f_X7_become x 7 I_7) (fun I_8 =>
       some I_8
      )
     )
    )
    )
   ) else (
    some I
   )
  )
def lp_X3_alike_25 (x : Nat) (y : Nat) (v3 : Int32) (v4 : Int32) (I : SI) : Nat → Int32 → Option (Nat)
  | 0, _ => none
  | n + 1, v5 =>
    if (I (8 + x) 0) ≤ v5 then (
     some 1
    ) else (
     bd (f_X7_number x v3 v4 v5 I) (fun r_2 =>
      gd (v3 < 0 ∨ 5 ≤ v3.toNatClampNeg) (
      gd (v4 < 0 ∨ 5 ≤ v4.toNatClampNeg) (
      gd (v5 < 0 ∨ 5 ≤ v5.toNatClampNeg) (
      bd (f_X7_number y (I 26 v3.toNatClampNeg) (I 26 v4.toNatClampNeg) (I 26 v5.toNatClampNeg) I) (fun r_6 =>
       if r_2 = r_6 then (
        lp_X3_alike_25 x y v3 v4 I n (v5 + (1 : Int32))
       ) else (
        some 0
       )
      )
      )
      )
      )
     )
    )
def lp_X3_alike_13 (x : Nat) (y : Nat) (v3 : Int32) (I : SI) : Nat → Int32 → Option (Nat)
  | 0, _ => none
  | n + 1, v4 =>
    if (I (8 + x) 0) ≤ v4 then (
     some 1
    ) else (
     bd (lp_X3_alike_25 x y v3 v4 I FU (0 : Int32)) (fun t_9 =>
      if t_9 = 0 then (
       some 0
      ) else (
       lp_X3_alike_13 x y v3 I n (v4 + (1 : Int32))
      )
     )
    )
def lp_X3_alike_2 (x : Nat) (y : Nat) (I : SI) : Nat → Int32 → Option (Nat)
  | 0, _ => none
  | n + 1, v3 =>
    if (I (8 + x) 0) ≤ v3 then (
     some 1
    ) else (
     bd (lp_X3_alike_13 x y v3 I FU (0 : Int32)) (fun t_11 =>
      if t_11 = 0 then (
       some 0
      ) else (
       lp_X3_alike_2 x y I n (v3 + (1 : Int32))
      )
     )
    )
def f_X3_alike (x : Nat) (y : Nat) (I : SI) : Option (Int32) :=
  bd (lp_X3_alike_2 x y I FU (0 : Int32)) (fun t_12 =>
   if t_12 = 0 then (
    some (0 : Int32)
   ) else (
    some (1 : Int32)
   )
  )
def lp_X3_countFrom_29 (rec : Int32 → Int32 → SI → Option (Int32 × SI)) (x : Nat) (y : Nat) (v3 : Int32) (v4 : Int32) : Nat → Int32 → Int32 → SI → Option (Int32 × SI)
  | 0, _, _, _ => none
  | n + 1, v5, v6, I =>
    if (I (8 + x) 0) ≤ v6 then (
     some (v5, I)
    ) else (
     if ((v4 >>> (v6 &&& 31)) &&& (1 : Int32)) = 0 then (
      gd (v3 < 0 ∨ 5 ≤ v3.toNatClampNeg) (
      bd (rec (v3 + (1 : Int32)) (v4 ||| ((1 : Int32) <<< (v6 &&& 31))) (ups I 26 v3.toNatClampNeg v6)) (fun (r_4, I_4) =>
       lp_X3_countFrom_29 rec x y v3 v4 n (v5 + r_4) (v6 + (1 : Int32)) I_4
      )
      )
     ) else (
      lp_X3_countFrom_29 rec x y v3 v4 n v5 (v6 + (1 : Int32)) I
     )
    )
def f_X3_countFrom (x y : Nat) : Nat → Int32 → Int32 → SI → Option (Int32 × SI)
  | 0, _, _, _ => none
  | d + 1, p3, p4, I =>
    if p3 < (I (8 + x) 0) then (
     bd (lp_X3_countFrom_29 (f_X3_countFrom x y d) x y p3 p4 FU (0 : Int32) (1 : Int32) I) (fun (w5_6, I_6) =>
      some (w5_6, I_6)
     )
    ) else (
     bd (f_X3_alike x y I) (fun r_7 =>
      if r_7 = 0 then (
       some ((0 : Int32), I)
      ) else (
       some ((1 : Int32), I)
      )
     )
    )
def f_X3_count (x : Nat) (y : Nat) (I : SI) : Option (Int32 × SI) :=
  if (I (8 + x) 0) = (I (8 + y) 0) then (
   bd (f_X3_countFrom x y 6 (1 : Int32) (1 : Int32) I) (fun (r_2, I_2) =>
    some (r_2, I_2)
   )
  ) else (
   some ((0 : Int32), I)
  )
def lp_X4_lastOfBroken_41 (x : Nat) (v2 : Int32) (v3 : Int32) (v4 : Int32) (I : SI) : Nat → Int32 → Int32 → Int32 → Option (Int32 × Int32)
  | 0, _, _, _ => none
  | n + 1, v5, v6, v7 =>
    if (I (8 + x) 0) ≤ v7 then (
     some (v5, v6)
    ) else (
     bd (f_X7_number x v3 v4 v7 I) (fun r_2 =>
      gd (v7 < 0 ∨ 5 ≤ v7.toNatClampNeg) (
      if r_2 ≤ 0 then (
       lp_X4_lastOfBroken_41 x v2 v3 v4 I n (v5 - (r_2 * (I 28 v7.toNatClampNeg))) v6 (v7 + (1 : Int32))
      ) else (
       lp_X4_lastOfBroken_41 x v2 v3 v4 I n (v5 - (r_2 * (I 28 v7.toNatClampNeg))) (if v6 < v7 then v7 else v6) (v7 + (1 : Int32))
      )
      )
     )
    )
def lp_X4_lastOfBroken_13 (x : Nat) (v2 : Int32) (v3 : Int32) (I : SI) : Nat → Int32 → Option (Nat × Int32)
  | 0, _ => none
  | n + 1, v4 =>
    if v3 < v4 then (
     some (1, (0 : Int32))
    ) else (
     gd (v3 < 0 ∨ 5 ≤ v3.toNatClampNeg) (
     gd (v4 < 0 ∨ 5 ≤ v4.toNatClampNeg) (
     bd (lp_X4_lastOfBroken_41 x v2 v3 v4 I FU ((I 28 v3.toNatClampNeg) * (I 28 v4.toNatClampNeg)) v3 (0 : Int32)) (fun (w5_8, w6_8) =>
      if v2 ≤ 0 then (
       lp_X4_lastOfBroken_13 x v2 v3 I n (v4 + (1 : Int32))
      ) else (
       gd (v2 = 0) (
       if (w5_8 - w5_8 / v2 * v2) = 0 then (
        lp_X4_lastOfBroken_13 x v2 v3 I n (v4 + (1 : Int32))
       ) else (
        some (0, w6_8)
       )
       )
      )
     )
     )
     )
    )
def lp_X4_lastOfBroken_2 (x : Nat) (v2 : Int32) (I : SI) : Nat → Int32 → Option (Nat × Int32)
  | 0, _ => none
  | n + 1, v3 =>
    if (I (8 + x) 0) ≤ v3 then (
     some (1, (0 : Int32))
    ) else (
     bd (lp_X4_lastOfBroken_13 x v2 v3 I FU (1 : Int32)) (fun (t_13, w6_13) =>
      if t_13 = 0 then (
       some (0, w6_13)
      ) else (
       lp_X4_lastOfBroken_2 x v2 I n (v3 + (1 : Int32))
      )
     )
    )
def f_X4_lastOfBroken (x : Nat) (p2 : Int32) (I : SI) : Option (Int32) :=
  bd (lp_X4_lastOfBroken_2 x p2 I FU (1 : Int32)) (fun (t_14, w6_14) =>
   if t_14 = 0 then (
    some w6_14
   ) else (
    some (-1 : Int32)
   )
  )
def lp_X4_nextRow_5 (v2 : Int32) (v3 : Int32) : Nat → Int32 → SI → Option (Nat × Int32 × SI)
  | 0, _, _ => none
  | n + 1, v4, I =>
    if v4 < (1 : Int32) then (
     some (1, (0 : Int32), I)
    ) else (
     if v3 < v4 then (
      gd (v4 < 0 ∨ 5 ≤ v4.toNatClampNeg) (
      lp_X4_nextRow_5 v2 v3 n (v4 + (-1 : Int32)) (ups I 28 v4.toNatClampNeg (0 : Int32))
      )
     ) else (
      gd (v4 < 0 ∨ 5 ≤ v4.toNatClampNeg) (
      if (v2 - (1 : Int32)) ≤ (I 28 v4.toNatClampNeg) then (
       gd (v4 < 0 ∨ 5 ≤ v4.toNatClampNeg) (
       lp_X4_nextRow_5 v2 v3 n (v4 + (-1 : Int32)) (ups I 28 v4.toNatClampNeg (0 : Int32))
       )
      ) else (
       some (0, v4, I)
      )
      )
     )
    )
def f_X4_nextRow (p1 : Int32) (p2 : Int32) (p3 : Int32) (I : SI) : Option (Int32 × SI) :=
  bd (lp_X4_nextRow_5 p2 p3 FU (p1 - (1 : Int32)) I) (fun (t_7, w4_7, I_7) =>
   if t_7 = 0 then (
    gd (w4_7 < 0 ∨ 5 ≤ w4_7.toNatClampNeg) (
    gd (w4_7 < 0 ∨ 5 ≤ w4_7.toNatClampNeg) (
    some ((1 : Int32), (ups I_7 28 w4_7.toNatClampNeg ((I_7 28 w4_7.toNatClampNeg) + (1 : Int32))))
    )
    )
   ) else (
    some ((0 : Int32), I_7)
   )
  )
def lp_X4_walk_34 (x : Nat) (v2 : Int32) (v3 : Int32) : Nat → Int32 → Int32 → SI → Option (Nat × SI)
  | 0, _, _, _ => none
  | n + 1, v4, v5, I =>
    if (28561 : Int32) ≤ v5 then (
     some (1, I)
    ) else (
     if v4 = 0 then (
      some (1, I)
     ) else (
      bd (f_X4_lastOfBroken x v2 I) (fun r_3 =>
       if r_3 = (-1 : Int32) then (
        if (I 29 0) = v3 then (
         some (0, I)
        ) else (
         bd (f_X4_nextRow ((sets I 29 ((I 29 0) + (1 : Int32))) (8 + x) 0) v2 (((sets I 29 ((I 29 0) + (1 : Int32))) (8 + x) 0) - (1 : Int32)) (sets I 29 ((I 29 0) + (1 : Int32)))) (fun (r_7, I_7) =>
          lp_X4_walk_34 x v2 v3 n r_7 (v5 + (1 : Int32)) I_7
         )
        )
       ) else (
        bd (f_X4_nextRow (I (8 + x) 0) v2 r_3 I) (fun (r_5, I_5) =>
         lp_X4_walk_34 x v2 v3 n r_5 (v5 + (1 : Int32)) I_5
        )
       )
      )
     )
    )
def f_X4_walk (x : Nat) (p2 : Int32) (p3 : Int32) (I : SI) : Option (Int32 × SI) :=
  bd (f_J7_fill 28 5 (0 : Int32) (sets I 29 (0 : Int32))) (fun I_8 =>
   if p2 ≤ 0 then (
    bd (lp_X4_walk_34 x p2 p3 FU (0 : Int32) (0 : Int32) (ups I_8 28 (0 : Int32).toNatClampNeg (1 : Int32))) (fun (t_10, I_10) =>
     if t_10 = 0 then (
      some ((1 : Int32), I_10)
     ) else (
      some ((0 : Int32), I_10)
     )
    )
   ) else (
    bd (lp_X4_walk_34 x p2 p3 FU (1 : Int32) (0 : Int32) (ups I_8 28 (0 : Int32).toNatClampNeg (1 : Int32))) (fun (t_11, I_11) =>
     if t_11 = 0 then (
      some ((1 : Int32), I_11)
     ) else (
      some ((0 : Int32), I_11)
     )
    )
   )
  )
def f_X4_count (x : Nat) (p2 : Int32) (I : SI) : Option (Int32 × SI) :=
  bd (f_X4_walk x p2 (-1 : Int32) I) (fun (r_1, I_1) =>
   some ((I_1 29 0), I_1)
  )
def f_X4_find (x : Nat) (p2 : Int32) (p3 : Int32) (I : SI) : Option (Int32 × SI) :=
  bd (f_X4_walk x p2 p3 I) (fun (r_1, I_1) =>
   gd (¬ (r_1 = 0 ∨ r_1 = 1)) (
   some (r_1, I_1)
   )
  )
def lp_X5_firstOf_2 (v0 : Int32) : Nat → Int32 → Option (Nat × Int32)
  | 0, _ => none
  | n + 1, v1 =>
    if (5 : Int32) ≤ v1 then (
     some (1, (0 : Int32))
    ) else (
     bd (f_X5_holds v0 v1) (fun r_2 =>
      if r_2 = 0 then (
       lp_X5_firstOf_2 v0 n (v1 + (1 : Int32))
      ) else (
       some (0, v1)
      )
     )
    )
def f_X5_firstOf (p0 : Int32) : Option (Int32) :=
  bd (lp_X5_firstOf_2 p0 FU (0 : Int32)) (fun (t_4, w1_4) =>
   if t_4 = 0 then (
    some w1_4
   ) else (
    some (-1 : Int32)
   )
  )
def lp_X5_fusedWithAny_17 (x : Nat) (v1 : Int32) (v2 : Int32) (v4 : Int32) (I : SI) : Nat → Int32 → Int32 → Option (Int32)
  | 0, _, _ => none
  | n + 1, v3, v5 =>
    if (I (8 + x) 0) ≤ v5 then (
     some v3
    ) else (
     bd (f_X5_holds v2 v4) (fun r_2 =>
      if r_2 = 0 then (
       lp_X5_fusedWithAny_17 x v1 v2 v4 I n v3 (v5 + (1 : Int32))
      ) else (
       bd (f_X7_number x v1 v4 v5 I) (fun r_4 =>
        if r_4 ≤ 0 then (
         lp_X5_fusedWithAny_17 x v1 v2 v4 I n v3 (v5 + (1 : Int32))
        ) else (
         lp_X5_fusedWithAny_17 x v1 v2 v4 I n (v3 ||| ((1 : Int32) <<< (v5 &&& 31))) (v5 + (1 : Int32))
        )
       )
      )
     )
    )
def lp_X5_fusedWithAny_5 (x : Nat) (v1 : Int32) (v2 : Int32) (I : SI) : Nat → Int32 → Int32 → Option (Int32)
  | 0, _, _ => none
  | n + 1, v3, v4 =>
    if (I (8 + x) 0) ≤ v4 then (
     some v3
    ) else (
     bd (lp_X5_fusedWithAny_17 x v1 v2 v4 I FU v3 (0 : Int32)) (fun w3_7 =>
      lp_X5_fusedWithAny_5 x v1 v2 I n w3_7 (v4 + (1 : Int32))
     )
    )
def f_X5_fusedWithAny (x : Nat) (p1 : Int32) (p2 : Int32) (I : SI) : Option (Int32) :=
  bd (lp_X5_fusedWithAny_5 x p1 p2 I FU (0 : Int32) (0 : Int32)) (fun w3_8 =>
   some w3_8
  )
def lp_X5_grow_5 (x : Nat) (v2 : Int32) (I : SI) : Nat → Int32 → Int32 → Option (Int32)
  | 0, _, _ => none
  | n + 1, v3, v4 =>
    if (I (8 + x) 0) ≤ v4 then (
     some v3
    ) else (
     bd (f_X5_holds v2 v4) (fun r_2 =>
      if r_2 = 0 then (
       lp_X5_grow_5 x v2 I n v3 (v4 + (1 : Int32))
      ) else (
       gd (v4 < 0 ∨ 5 ≤ v4.toNatClampNeg) (
       bd (f_X5_fusedWithAny x v4 v2 I) (fun r_5 =>
        lp_X5_grow_5 x v2 I n (v3 ||| (((1 : Int32) <<< ((I 17 v4.toNatClampNeg) &&& 31)) ||| r_5)) (v4 + (1 : Int32))
       )
       )
      )
     )
    )
def f_X5_grow (x : Nat) (p2 : Int32) (I : SI) : Option (Int32) :=
  bd (lp_X5_grow_5 x p2 I FU p2 (0 : Int32)) (fun w3_6 =>
   some w3_6
  )
def lp_X5_closure_7 (x : Nat) (I : SI) : Nat → Int32 → Int32 → Option (Int32)
  | 0, _, _ => none
  | n + 1, v3, v4 =>
    if (I (8 + x) 0) ≤ v4 then (
     some v3
    ) else (
     bd (f_X5_grow x v3 I) (fun r_2 =>
      lp_X5_closure_7 x I n r_2 (v4 + (1 : Int32))
     )
    )
def f_X5_closure (x : Nat) (p2 : Int32) (I : SI) : Option (Int32) :=
  bd (lp_X5_closure_7 x I FU (p2 ||| (1 : Int32)) (0 : Int32)) (fun w3_3 =>
   some w3_3
  )
def lp_X5_innermost_4 (x : Nat) (I : SI) : Nat → Int32 → Int32 → Option (Int32)
  | 0, _, _ => none
  | n + 1, v2, v3 =>
    if (I (8 + x) 0) ≤ v3 then (
     some v2
    ) else (
     gd (v3 < 0 ∨ 5 ≤ v3.toNatClampNeg) (
     bd (f_X5_fusedWithAny x v3 ((1 : Int32) <<< ((I 17 v3.toNatClampNeg) &&& 31)) I) (fun r_3 =>
      lp_X5_innermost_4 x I n (v2 ||| r_3) (v3 + (1 : Int32))
     )
     )
    )
def f_X5_innermost (x : Nat) (I : SI) : Option (Int32) :=
  bd (lp_X5_innermost_4 x I FU (0 : Int32) (0 : Int32)) (fun w2_4 =>
   bd (f_X5_closure x w2_4 I) (fun r_5 =>
    some r_5
   )
  )
def lp_X5_countClosed_4 (x : Nat) (I : SI) : Nat → Int32 → Int32 → Option (Int32)
  | 0, _, _ => none
  | n + 1, v2, v3 =>
    if ((1 : Int32) <<< ((I (8 + x) 0) &&& 31)) ≤ v3 then (
     some v2
    ) else (
     if (v3 &&& (1 : Int32)) = 0 then (
      lp_X5_countClosed_4 x I n v2 (v3 + (1 : Int32))
     ) else (
      bd (f_X5_grow x v3 I) (fun r_3 =>
       if r_3 = v3 then (
        lp_X5_countClosed_4 x I n (v2 + (1 : Int32)) (v3 + (1 : Int32))
       ) else (
        lp_X5_countClosed_4 x I n v2 (v3 + (1 : Int32))
       )
      )
     )
    )
def f_X5_countClosed (x : Nat) (I : SI) : Option (Int32) :=
  bd (lp_X5_countClosed_4 x I FU (0 : Int32) (1 : Int32)) (fun w2_5 =>
   some w2_5
  )
def f_X6_begin (p1 : Int32) (J : SJ) : Option (SJ) :=
  bd (f_J7_fillJ 34 5 (0 : Int64) J) (fun J_1 =>
   gd (p1 < 0 ∨ 5 ≤ p1.toNatClampNeg) (
   some (upj J_1 34 p1.toNatClampNeg (1 : Int64))
   )
  )
def lp_X6_fuseWith_20 (x : Nat) (v2 : Int32) (v3 : Int32) (I : SI) : Nat → Int32 → SJ → Option (SJ)
  | 0, _, _ => none
  | n + 1, v4, J =>
    if (I (8 + x) 0) ≤ v4 then (
     some J
    ) else (
     gd (v3 < 0 ∨ 5 ≤ v3.toNatClampNeg) (
     gd (v4 < 0 ∨ 5 ≤ v4.toNatClampNeg) (
     bd (f_X7_number x v4 v2 v3 I) (fun r_4 =>
      gd (v3 < 0 ∨ 5 ≤ v3.toNatClampNeg) (
      lp_X6_fuseWith_20 x v2 v3 I n (v4 + (1 : Int32)) (upj J 35 v3.toNatClampNeg ((J 35 v3.toNatClampNeg) + ((J 34 v4.toNatClampNeg) * (r_4.toInt64))))
      )
     )
     )
     )
    )
def lp_X6_fuseWith_2 (x : Nat) (v2 : Int32) (I : SI) : Nat → Int32 → SJ → Option (SJ)
  | 0, _, _ => none
  | n + 1, v3, J =>
    if (I (8 + x) 0) ≤ v3 then (
     some J
    ) else (
     gd (v3 < 0 ∨ 5 ≤ v3.toNatClampNeg) (
     bd (lp_X6_fuseWith_20 x v2 v3 I FU (0 : Int32) (upj J 35 v3.toNatClampNeg (0 : Int64))) (fun J_8 =>
      lp_X6_fuseWith_2 x v2 I n (v3 + (1 : Int32)) J_8
     )
     )
    )
def f_X6_fuseWith (x : Nat) (p2 : Int32) (I : SI) (J : SJ) : Option (SJ) :=
  bd (lp_X6_fuseWith_2 x p2 I FU (0 : Int32) J) (fun J_9 =>
   gd ((0 : Int32) < 0 ∨ (0 : Int32) < 0 ∨ (I (8 + x) 0) < 0 ∨ 5 < (0 : Int32).toNatClampNeg + (I (8 + x) 0).toNatClampNeg ∨ 5 < (0 : Int32).toNatClampNeg + (I (8 + x) 0).toNatClampNeg) (
   some (va_up J_9 34 (va_cpy (J_9 35) (J_9 34) (0 : Int32).toNatClampNeg (0 : Int32).toNatClampNeg (I (8 + x) 0).toNatClampNeg))
   )
  )
def f_X8_isTable (p0 : Int32) : Option (Int32) :=
  if p0 < 0 then (
   some (0 : Int32)
  ) else (
   if (6 : Int32) ≤ p0 then (
    some (0 : Int32)
   ) else (
    some (1 : Int32)
   )
  )
def f_X8_rank (p1 : Int32) (p2 : Int32) (I : SI) : Option (Int32 × SI) :=
  bd (f_X8_isTable p1) (fun r_1 =>
   if r_1 = 0 then (
    some ((-2 : Int32), I)
   ) else (
    if p2 < (1 : Int32) then (
     some ((-2 : Int32), I)
    ) else (
     if p2 ≤ (5 : Int32) then (
      gd (p1 < 0 ∨ 6 ≤ p1.toNatClampNeg) (
      bd (f_X7_reset p1.toNatClampNeg p2 I) (fun I_6 =>
       some ((1 : Int32), I_6)
      )
      )
     ) else (
      some ((-2 : Int32), I)
     )
    )
   )
  )
def f_X8_isKind (p1 : Int32) (p2 : Int32) (I : SI) : Option (Int32) :=
  bd (f_X8_isTable p1) (fun r_1 =>
   if r_1 = 0 then (
    some (0 : Int32)
   ) else (
    gd (p1 < 0 ∨ 6 ≤ p1.toNatClampNeg) (
    bd (f_X7_has p1.toNatClampNeg p2 I) (fun r_4 =>
     if r_4 = 0 then (
      some (0 : Int32)
     ) else (
      some (1 : Int32)
     )
    )
    )
   )
  )
def f_X8_isPlace (p1 : Int32) (p2 : Int32) (p3 : Int32) (p4 : Int32) (I : SI) : Option (Int32) :=
  bd (f_X8_isKind p1 p2 I) (fun r_1 =>
   if r_1 = 0 then (
    some (0 : Int32)
   ) else (
    gd (p1 < 0 ∨ 6 ≤ p1.toNatClampNeg) (
    bd (f_X7_has p1.toNatClampNeg p3 I) (fun r_4 =>
     if r_4 = 0 then (
      some (0 : Int32)
     ) else (
      gd (p1 < 0 ∨ 6 ≤ p1.toNatClampNeg) (
      bd (f_X7_has p1.toNatClampNeg p4 I) (fun r_7 =>
       if r_7 = 0 then (
        some (0 : Int32)
       ) else (
        some (1 : Int32)
       )
      )
      )
     )
    )
    )
   )
  )
def f_X8_put (p1 : Int32) (p2 : Int32) (p3 : Int32) (p4 : Int32) (p5 : Int32) (I : SI) : Option (Int32 × SI) :=
  bd (f_X8_isPlace p1 p2 p3 p4 I) (fun r_1 =>
   if r_1 = 0 then (
    some ((-2 : Int32), I)
   ) else (
    if p5 < 0 then (
     some ((-2 : Int32), I)
    ) else (
     if p5 ≤ (9 : Int32) then (
      gd (p1 < 0 ∨ 6 ≤ p1.toNatClampNeg) (
      bd (f_X7_number p1.toNatClampNeg p2 p3 p4 I) (fun r_6 =>
       gd (p1 < 0 ∨ 6 ≤ p1.toNatClampNeg) (
       bd (f_X7_setNumber p1.toNatClampNeg p2 p3 p4 p5 I) (fun I_8 =>
        some (r_6, I_8)
       )
       )
      )
      )
     ) else (
      some ((-2 : Int32), I)
     )
    )
   )
  )
def f_X8_at (p1 : Int32) (p2 : Int32) (p3 : Int32) (p4 : Int32) (I : SI) : Option (Int32) :=
  bd (f_X8_isPlace p1 p2 p3 p4 I) (fun r_1 =>
   if r_1 = 0 then (
    some (-2 : Int32)
   ) else (
    gd (p1 < 0 ∨ 6 ≤ p1.toNatClampNeg) (
    bd (f_X7_number p1.toNatClampNeg p2 p3 p4 I) (fun r_4 =>
     some r_4
    )
    )
   )
  )
def f_X8_fault (p1 : Int32) (p2 : Int32) (I : SI) : Option (Int32 × SI) :=
  bd (f_X8_isTable p1) (fun r_1 =>
   if r_1 = 0 then (
    some ((-2 : Int32), I)
   ) else (
    if p2 < 0 then (
     some ((-2 : Int32), I)
    ) else (
     if p2 ≤ (4 : Int32) then (
      gd (p1 < 0 ∨ 6 ≤ p1.toNatClampNeg) (
      bd (f_X1_allHold p1.toNatClampNeg I) (fun (r_6, I_6) =>
       if p2 = 0 then (
        some ((I_6 18 0), I_6)
       ) else (
        gd ((p2 - (1 : Int32)) < 0 ∨ 4 ≤ (p2 - (1 : Int32)).toNatClampNeg) (
        some ((I_6 16 (p2 - (1 : Int32)).toNatClampNeg), I_6)
        )
       )
      )
      )
     ) else (
      some ((-2 : Int32), I)
     )
    )
   )
  )
def f_X8_isRight (p1 : Int32) (I : SI) : Option (Int32 × SI) :=
  gd (p1 < 0 ∨ 6 ≤ p1.toNatClampNeg) (
  bd (f_X1_allHold p1.toNatClampNeg I) (fun (r_2, I_2) =>
   gd (¬ (r_2 = 0 ∨ r_2 = 1)) (
   some (r_2, I_2)
   )
  )
  )
def f_X8_partner (p1 : Int32) (p2 : Int32) (I : SI) : Option (Int32 × SI) :=
  bd (f_X8_isKind p1 p2 I) (fun r_1 =>
   if r_1 = 0 then (
    some ((-2 : Int32), I)
   ) else (
    bd (f_X8_isRight p1 I) (fun (r_3, I_3) =>
     if r_3 = 0 then (
      some ((-3 : Int32), I_3)
     ) else (
      gd (p2 < 0 ∨ 5 ≤ p2.toNatClampNeg) (
      some ((I_3 17 p2.toNatClampNeg), I_3)
      )
     )
    )
   )
  )
def f_X8_copy (p1 : Int32) (p2 : Int32) (I : SI) : Option (Int32 × SI) :=
  bd (f_X8_isTable p1) (fun r_1 =>
   if r_1 = 0 then (
    some ((-2 : Int32), I)
   ) else (
    bd (f_X8_isTable p2) (fun r_3 =>
     if r_3 = 0 then (
      some ((-2 : Int32), I)
     ) else (
      gd (p2 < 0 ∨ 6 ≤ p2.toNatClampNeg) (
      gd (p1 < 0 ∨ 6 ≤ p1.toNatClampNeg) (
      bd (f_X7_become p2.toNatClampNeg p1.toNatClampNeg I) (fun I_7 =>
       gd (p2 < 0 ∨ 6 ≤ p2.toNatClampNeg) (
       some ((I_7 (8 + p2.toNatClampNeg) 0), I_7)
       )
      )
      )
      )
     )
    )
   )
  )
def f_X8_group (p1 : Int32) (p2 : Int32) (I : SI) : Option (Int32 × SI) :=
  bd (f_X8_isTable p1) (fun r_1 =>
   if r_1 = 0 then (
    some ((-2 : Int32), I)
   ) else (
    if p2 < (1 : Int32) then (
     some ((-2 : Int32), I)
    ) else (
     if p2 ≤ (5 : Int32) then (
      gd (p1 < 0 ∨ 6 ≤ p1.toNatClampNeg) (
      bd (f_X7_reset p1.toNatClampNeg p2 I) (fun I_6 =>
       gd (p1 < 0 ∨ 6 ≤ p1.toNatClampNeg) (
       bd (f_X7_fuseAsGroup p1.toNatClampNeg p2 I_6) (fun I_8 =>
        some ((1 : Int32), I_8)
       )
       )
      )
      )
     ) else (
      some ((-2 : Int32), I)
     )
    )
   )
  )
def lp_X8_near_55 (v1 : Int32) (v2 : Int32) (v3 : Int32) : Nat → Int32 → SI → Option (SI)
  | 0, _, _ => none
  | n + 1, v4, I =>
    if v2 ≤ v4 then (
     some I
    ) else (
     gd (v1 < 0 ∨ 6 ≤ v1.toNatClampNeg) (
     bd (f_X7_setNumber v1.toNatClampNeg v2 v4 v2 (1 : Int32) I) (fun I_3 =>
      gd (v1 < 0 ∨ 6 ≤ v1.toNatClampNeg) (
      bd (f_X7_setNumber v1.toNatClampNeg v4 v2 v2 (1 : Int32) I_3) (fun I_5 =>
       gd (v1 < 0 ∨ 6 ≤ v1.toNatClampNeg) (
       bd (f_X7_setNumber v1.toNatClampNeg v2 v2 v4 (1 : Int32) I_5) (fun I_7 =>
        lp_X8_near_55 v1 v2 v3 n (v4 + (1 : Int32)) I_7
       )
       )
      )
      )
     )
     )
    )
def f_X8_near (p1 : Int32) (p2 : Int32) (p3 : Int32) (I : SI) : Option (Int32 × SI) :=
  bd (f_X8_isTable p1) (fun r_8 =>
   if r_8 = 0 then (
    some ((-2 : Int32), I)
   ) else (
    if p2 < (1 : Int32) then (
     some ((-2 : Int32), I)
    ) else (
     if (5 : Int32) ≤ p2 then (
      some ((-2 : Int32), I)
     ) else (
      if p3 < 0 then (
       some ((-2 : Int32), I)
      ) else (
       if p3 ≤ (9 : Int32) then (
        gd (p1 < 0 ∨ 6 ≤ p1.toNatClampNeg) (
        bd (f_X7_reset p1.toNatClampNeg (p2 + (1 : Int32)) I) (fun I_15 =>
         gd (p1 < 0 ∨ 6 ≤ p1.toNatClampNeg) (
         bd (f_X7_fuseAsGroup p1.toNatClampNeg p2 I_15) (fun I_17 =>
          bd (lp_X8_near_55 p1 p2 p3 FU (0 : Int32) I_17) (fun I_18 =>
           gd (p1 < 0 ∨ 6 ≤ p1.toNatClampNeg) (
           bd (f_X7_setNumber p1.toNatClampNeg p2 p2 p2 p3 I_18) (fun I_20 =>
            some ((1 : Int32), I_20)
           )
           )
          )
         )
         )
        )
        )
       ) else (
        some ((-2 : Int32), I)
       )
      )
     )
    )
   )
  )
def f_X8_together (p1 : Int32) (p2 : Int32) (p3 : Int32) (I : SI) : Option (Int32 × SI) :=
  bd (f_X8_isTable p1) (fun r_1 =>
   if r_1 = 0 then (
    some ((-2 : Int32), I)
   ) else (
    bd (f_X8_isTable p2) (fun r_3 =>
     if r_3 = 0 then (
      some ((-2 : Int32), I)
     ) else (
      bd (f_X8_isTable p3) (fun r_5 =>
       if r_5 = 0 then (
        some ((-2 : Int32), I)
       ) else (
        gd (p1 < 0 ∨ 6 ≤ p1.toNatClampNeg) (
        gd (p2 < 0 ∨ 6 ≤ p2.toNatClampNeg) (
        if ((I (8 + p1.toNatClampNeg) 0) * (I (8 + p2.toNatClampNeg) 0)) ≤ (5 : Int32) then (
         gd (p1 < 0 ∨ 6 ≤ p1.toNatClampNeg) (
         gd (p2 < 0 ∨ 6 ≤ p2.toNatClampNeg) (
         bd (f_X7_becomeProduct 6 p1.toNatClampNeg p2.toNatClampNeg I) (fun (r_12, I_12) =>
          if r_12 = 0 then (
           some ((-3 : Int32), I_12)
          ) else (
           gd (p3 < 0 ∨ 6 ≤ p3.toNatClampNeg) (
           bd (f_X7_become p3.toNatClampNeg 6 I_12) (fun I_15 =>
            some ((I_15 (8 + 6) 0), I_15)
           )
           )
          )
         )
         )
         )
        ) else (
         some ((-3 : Int32), I)
        )
        )
        )
       )
      )
     )
    )
   )
  )
def f_X8_isListed (p0 : Int32) (p1 : Int32) (p2 : Int32) : Option (Int32) :=
  if p0 = (4 : Int32) then (
   if p0 = (2 : Int32) then (
    if p0 < (2 : Int32) then (
     some (0 : Int32)
    ) else (
     if (4 : Int32) < p0 then (
      some (0 : Int32)
     ) else (
      if p1 < (1 : Int32) then (
       some (0 : Int32)
      ) else (
       if (1 : Int32) < p1 then (
        some (0 : Int32)
       ) else (
        if p2 < 0 then (
         some (0 : Int32)
        ) else (
         if (0 : Int32) < p2 then (
          some (0 : Int32)
         ) else (
          some (1 : Int32)
         )
        )
       )
      )
     )
    )
   ) else (
    if p0 < (2 : Int32) then (
     some (0 : Int32)
    ) else (
     if (4 : Int32) < p0 then (
      some (0 : Int32)
     ) else (
      if p1 < (1 : Int32) then (
       some (0 : Int32)
      ) else (
       if (1 : Int32) < p1 then (
        some (0 : Int32)
       ) else (
        if p2 < 0 then (
         some (0 : Int32)
        ) else (
         if (1 : Int32) < p2 then (
          some (0 : Int32)
         ) else (
          some (1 : Int32)
         )
        )
       )
      )
     )
    )
   )
  ) else (
   if p0 = (2 : Int32) then (
    if p0 < (2 : Int32) then (
     some (0 : Int32)
    ) else (
     if (4 : Int32) < p0 then (
      some (0 : Int32)
     ) else (
      if p1 < (1 : Int32) then (
       some (0 : Int32)
      ) else (
       if (3 : Int32) < p1 then (
        some (0 : Int32)
       ) else (
        if p2 < 0 then (
         some (0 : Int32)
        ) else (
         if (0 : Int32) < p2 then (
          some (0 : Int32)
         ) else (
          some (1 : Int32)
         )
        )
       )
      )
     )
    )
   ) else (
    if p0 < (2 : Int32) then (
     some (0 : Int32)
    ) else (
     if (4 : Int32) < p0 then (
      some (0 : Int32)
     ) else (
      if p1 < (1 : Int32) then (
       some (0 : Int32)
      ) else (
       if (3 : Int32) < p1 then (
        some (0 : Int32)
       ) else (
        if p2 < 0 then (
         some (0 : Int32)
        ) else (
         if (1 : Int32) < p2 then (
          some (0 : Int32)
         ) else (
          some (1 : Int32)
         )
        )
       )
      )
     )
    )
   )
  )
def f_X8_list (p1 : Int32) (p2 : Int32) (p3 : Int32) (I : SI) : Option (Int32 × SI) :=
  bd (f_X8_isListed p1 p2 p3) (fun r_1 =>
   if r_1 = 0 then (
    some ((-2 : Int32), I)
   ) else (
    bd (f_X2_howMany p1 p2 p3 I) (fun (r_3, I_3) =>
     some (r_3, I_3)
    )
   )
  )
def f_X8_take (p1 : Int32) (p2 : Int32) (p3 : Int32) (p4 : Int32) (p5 : Int32) (I : SI) : Option (Int32 × SI) :=
  bd (f_X8_isTable p1) (fun r_1 =>
   if r_1 = 0 then (
    some ((-2 : Int32), I)
   ) else (
    bd (f_X8_isListed p2 p3 p4) (fun r_3 =>
     if r_3 = 0 then (
      some ((-2 : Int32), I)
     ) else (
      if 0 ≤ p5 then (
       bd (f_X2_howMany p2 p3 p4 I) (fun (r_6, I_6) =>
        if p5 < r_6 then (
         gd (p1 < 0 ∨ 6 ≤ p1.toNatClampNeg) (
         bd (f_X2_write p1.toNatClampNeg p5 I_6) (fun I_9 =>
          some ((1 : Int32), I_9)
         )
         )
        ) else (
         some ((-3 : Int32), I_6)
        )
       )
      ) else (
       some ((-2 : Int32), I)
      )
     )
    )
   )
  )
def f_X8_letter (p1 : Int32) (I : SI) : Option (Int32 × SI) :=
  if p1 < 0 then (
   some ((-2 : Int32), I)
  ) else (
   if p1 < (5 : Int32) then (
    if (I 38 0) < (14 : Int32) then (
     gd ((I 38 0) < 0 ∨ 14 ≤ (I 38 0).toNatClampNeg) (
     some (((sets (ups I 33 (I 38 0).toNatClampNeg p1) 38 (((ups I 33 (I 38 0).toNatClampNeg p1) 38 0) + (1 : Int32))) 38 0), (sets (ups I 33 (I 38 0).toNatClampNeg p1) 38 (((ups I 33 (I 38 0).toNatClampNeg p1) 38 0) + (1 : Int32))))
     )
    ) else (
     some ((-3 : Int32), I)
    )
   ) else (
    some ((-2 : Int32), I)
   )
  )
def f_X8_empty (I : SI) : Option (Int32 × SI) :=
  some ((I 38 0), (sets I 38 (0 : Int32)))
def lp_X8_hasWord_2 (x : Nat) (I : SI) : Nat → Int32 → Option (Nat)
  | 0, _ => none
  | n + 1, v2 =>
    if (I 38 0) ≤ v2 then (
     some 1
    ) else (
     gd (v2 < 0 ∨ 14 ≤ v2.toNatClampNeg) (
     bd (f_X7_has x (I 33 v2.toNatClampNeg) I) (fun r_3 =>
      if r_3 = 0 then (
       some 0
      ) else (
       lp_X8_hasWord_2 x I n (v2 + (1 : Int32))
      )
     )
     )
    )
def f_X8_hasWord (x : Nat) (I : SI) : Option (Int32) :=
  bd (lp_X8_hasWord_2 x I FU (0 : Int32)) (fun t_5 =>
   if t_5 = 0 then (
    some (0 : Int32)
   ) else (
    some (1 : Int32)
   )
  )
def lp_X8_fused_36 (v1 : Int32) (v2 : Int32) (I : SI) : Nat → Int32 → SJ → Option (SJ)
  | 0, _, _ => none
  | n + 1, v3, J =>
    if (I 38 0) ≤ v3 then (
     some J
    ) else (
     gd (v1 < 0 ∨ 6 ≤ v1.toNatClampNeg) (
     gd (v3 < 0 ∨ 14 ≤ v3.toNatClampNeg) (
     bd (f_X6_fuseWith v1.toNatClampNeg (I 33 v3.toNatClampNeg) I J) (fun J_4 =>
      lp_X8_fused_36 v1 v2 I n (v3 + (1 : Int32)) J_4
     )
     )
     )
    )
def f_X8_fused (p1 : Int32) (p2 : Int32) (I : SI) (J : SJ) : Option (Int64 × SJ) :=
  bd (f_X8_isKind p1 p2 I) (fun r_5 =>
   if r_5 = 0 then (
    some ((-2 : Int64), J)
   ) else (
    gd (p1 < 0 ∨ 6 ≤ p1.toNatClampNeg) (
    bd (f_X8_hasWord p1.toNatClampNeg I) (fun r_8 =>
     if r_8 = 0 then (
      some ((-2 : Int64), J)
     ) else (
      bd (f_X6_begin (0 : Int32) J) (fun J_10 =>
       bd (lp_X8_fused_36 p1 p2 I FU (0 : Int32) J_10) (fun J_11 =>
        gd (p2 < 0 ∨ 5 ≤ p2.toNatClampNeg) (
        some ((J_11 34 p2.toNatClampNeg), J_11)
        )
       )
      )
     )
    )
    )
   )
  )
def lp_X8_ways_39 (v1 : Int32) (v3 : Int32) (v4 : Int32) (v5 : Int32) (I : SI) : Nat → Int32 → SJ → Option (SJ)
  | 0, _, _ => none
  | n + 1, v6, J =>
    if v4 ≤ v6 then (
     some J
    ) else (
     gd (v1 < 0 ∨ 6 ≤ v1.toNatClampNeg) (
     bd (f_X6_fuseWith v1.toNatClampNeg v3 I J) (fun J_3 =>
      lp_X8_ways_39 v1 v3 v4 v5 I n (v6 + (1 : Int32)) J_3
     )
     )
    )
def f_X8_ways (p1 : Int32) (p2 : Int32) (p3 : Int32) (p4 : Int32) (p5 : Int32) (I : SI) (J : SJ) : Option (Int64 × SJ) :=
  bd (f_X8_isPlace p1 p2 p3 p5 I) (fun r_4 =>
   if r_4 = 0 then (
    some ((-2 : Int64), J)
   ) else (
    if p4 < 0 then (
     some ((-2 : Int64), J)
    ) else (
     if p4 ≤ (12 : Int32) then (
      bd (f_X6_begin p2 J) (fun J_8 =>
       bd (lp_X8_ways_39 p1 p3 p4 p5 I FU (0 : Int32) J_8) (fun J_9 =>
        gd (p5 < 0 ∨ 5 ≤ p5.toNatClampNeg) (
        some ((J_9 34 p5.toNatClampNeg), J_9)
        )
       )
      )
     ) else (
      some ((-2 : Int64), J)
     )
    )
   )
  )
def f_X8_isSet (p1 : Int32) (p2 : Int32) (I : SI) : Option (Int32) :=
  bd (f_X8_isTable p1) (fun r_1 =>
   if r_1 = 0 then (
    some (0 : Int32)
   ) else (
    if p2 < 0 then (
     some (0 : Int32)
    ) else (
     gd (p1 < 0 ∨ 6 ≤ p1.toNatClampNeg) (
     if ((1 : Int32) <<< ((I (8 + p1.toNatClampNeg) 0) &&& 31)) ≤ p2 then (
      some (0 : Int32)
     ) else (
      some (1 : Int32)
     )
     )
    )
   )
  )
def f_X8_closed (p1 : Int32) (p2 : Int32) (I : SI) : Option (Int32 × SI) :=
  bd (f_X8_isSet p1 p2 I) (fun r_1 =>
   if r_1 = 0 then (
    some ((-2 : Int32), I)
   ) else (
    if p2 = 0 then (
     some ((-2 : Int32), I)
    ) else (
     bd (f_X8_isRight p1 I) (fun (r_4, I_4) =>
      if r_4 = 0 then (
       some ((-3 : Int32), I_4)
      ) else (
       gd (p1 < 0 ∨ 6 ≤ p1.toNatClampNeg) (
       bd (f_X5_closure p1.toNatClampNeg p2 I_4) (fun r_7 =>
        if r_7 = p2 then (
         some ((1 : Int32), I_4)
        ) else (
         some ((0 : Int32), I_4)
        )
       )
       )
      )
     )
    )
   )
  )
def f_X8_least (p1 : Int32) (p2 : Int32) (I : SI) : Option (Int32 × SI) :=
  bd (f_X8_isSet p1 p2 I) (fun r_1 =>
   if r_1 = 0 then (
    some ((-2 : Int32), I)
   ) else (
    bd (f_X8_isRight p1 I) (fun (r_3, I_3) =>
     if r_3 = 0 then (
      some ((-3 : Int32), I_3)
     ) else (
      gd (p1 < 0 ∨ 6 ≤ p1.toNatClampNeg) (
      bd (f_X5_closure p1.toNatClampNeg p2 I_3) (fun r_6 =>
       some (r_6, I_3)
      )
      )
     )
    )
   )
  )
def f_X8_core (p1 : Int32) (I : SI) : Option (Int32 × SI) :=
  bd (f_X8_isTable p1) (fun r_1 =>
   if r_1 = 0 then (
    some ((-2 : Int32), I)
   ) else (
    bd (f_X8_isRight p1 I) (fun (r_3, I_3) =>
     if r_3 = 0 then (
      some ((-3 : Int32), I_3)
     ) else (
      gd (p1 < 0 ∨ 6 ≤ p1.toNatClampNeg) (
      bd (f_X5_innermost p1.toNatClampNeg I_3) (fun r_6 =>
       some (r_6, I_3)
      )
      )
     )
    )
   )
  )
def f_X8_grade (p1 : Int32) (p2 : Int32) (I : SI) : Option (Int32 × SI) :=
  bd (f_X8_isKind p1 p2 I) (fun r_1 =>
   if r_1 = 0 then (
    some ((-2 : Int32), I)
   ) else (
    bd (f_X8_isRight p1 I) (fun (r_3, I_3) =>
     if r_3 = 0 then (
      some ((-3 : Int32), I_3)
     ) else (
      gd (p1 < 0 ∨ 6 ≤ p1.toNatClampNeg) (
      bd (f_X5_innermost p1.toNatClampNeg I_3) (fun r_6 =>
       gd (p1 < 0 ∨ 6 ≤ p1.toNatClampNeg) (
       bd (f_X5_fusedWithAny p1.toNatClampNeg p2 r_6 I_3) (fun r_8 =>
        bd (f_X5_firstOf r_8) (fun r_9 =>
         some (r_9, I_3)
        )
       )
       )
      )
      )
     )
    )
   )
  )
def f_X8_within (p1 : Int32) (I : SI) : Option (Int32 × SI) :=
  bd (f_X8_isTable p1) (fun r_1 =>
   if r_1 = 0 then (
    some ((-2 : Int32), I)
   ) else (
    bd (f_X8_isRight p1 I) (fun (r_3, I_3) =>
     if r_3 = 0 then (
      some ((-3 : Int32), I_3)
     ) else (
      gd (p1 < 0 ∨ 6 ≤ p1.toNatClampNeg) (
      bd (f_X5_countClosed p1.toNatClampNeg I_3) (fun r_6 =>
       some (r_6, I_3)
      )
      )
     )
    )
   )
  )
def f_X8_like (p1 : Int32) (p2 : Int32) (I : SI) : Option (Int32 × SI) :=
  bd (f_X8_isTable p1) (fun r_1 =>
   if r_1 = 0 then (
    some ((-2 : Int32), I)
   ) else (
    bd (f_X8_isTable p2) (fun r_3 =>
     if r_3 = 0 then (
      some ((-2 : Int32), I)
     ) else (
      gd (p1 < 0 ∨ 6 ≤ p1.toNatClampNeg) (
      gd (p2 < 0 ∨ 6 ≤ p2.toNatClampNeg) (
      bd (f_X3_count p1.toNatClampNeg p2.toNatClampNeg I) (fun (r_7, I_7) =>
       some (r_7, I_7)
      )
      )
      )
     )
    )
   )
  )
def lp_X8_isPrime_9 (v0 : Int32) (v2 : Int32) : Nat → Int32 → Option (Nat)
  | 0, _ => none
  | n + 1, v3 =>
    if v2 ≤ v3 then (
     some 1
    ) else (
     gd (v3 < 0 ∨ 6 ≤ v3.toNatClampNeg) (
     if (primes v3.toNatClampNeg) = v0 then (
      some 0
     ) else (
      lp_X8_isPrime_9 v0 v2 n (v3 + (1 : Int32))
     )
     )
    )
def f_X8_isPrime (p0 : Int32) : Option (Int32) :=
  bd (lp_X8_isPrime_9 p0 (6 : Int32) FU (0 : Int32)) (fun t_4 =>
   if t_4 = 0 then (
    some (1 : Int32)
   ) else (
    some (0 : Int32)
   )
  )
def f_X8_maps (p1 : Int32) (p2 : Int32) (I : SI) : Option (Int32 × SI) :=
  bd (f_X8_isTable p1) (fun r_1 =>
   if r_1 = 0 then (
    some ((-2 : Int32), I)
   ) else (
    bd (f_X8_isPrime p2) (fun r_3 =>
     if r_3 = 0 then (
      some ((-2 : Int32), I)
     ) else (
      bd (f_X8_isRight p1 I) (fun (r_5, I_5) =>
       if r_5 = 0 then (
        some ((-3 : Int32), I_5)
       ) else (
        gd (p1 < 0 ∨ 6 ≤ p1.toNatClampNeg) (
        bd (f_X4_count p1.toNatClampNeg p2 I_5) (fun (r_8, I_8) =>
         some (r_8, I_8)
        )
        )
       )
      )
     )
    )
   )
  )
def f_X8_map (p1 : Int32) (p2 : Int32) (p3 : Int32) (p4 : Int32) (I : SI) : Option (Int32 × SI) :=
  bd (f_X8_isKind p1 p4 I) (fun r_1 =>
   if r_1 = 0 then (
    some ((-2 : Int32), I)
   ) else (
    bd (f_X8_isPrime p2) (fun r_3 =>
     if r_3 = 0 then (
      some ((-2 : Int32), I)
     ) else (
      if 0 ≤ p3 then (
       bd (f_X8_isRight p1 I) (fun (r_6, I_6) =>
        if r_6 = 0 then (
         some ((-3 : Int32), I_6)
        ) else (
         gd (p1 < 0 ∨ 6 ≤ p1.toNatClampNeg) (
         bd (f_X4_find p1.toNatClampNeg p2 p3 I_6) (fun (r_9, I_9) =>
          if r_9 = 0 then (
           some ((-1 : Int32), I_9)
          ) else (
           gd (p4 < 0 ∨ 5 ≤ p4.toNatClampNeg) (
           some ((I_9 28 p4.toNatClampNeg), I_9)
           )
          )
         )
         )
        )
       )
      ) else (
       some ((-2 : Int32), I)
      )
     )
    )
   )
  )
def f_X8_size (p1 : Int32) (I : SI) (J : SJ) : Option (Int32 × SI × SJ) :=
  bd (f_X8_isTable p1) (fun r_1 =>
   if r_1 = 0 then (
    some ((-2 : Int32), I, J)
   ) else (
    bd (f_X8_isRight p1 I) (fun (r_3, I_3) =>
     if r_3 = 0 then (
      some ((-3 : Int32), I_3, J)
     ) else (
      gd (p1 < 0 ∨ 6 ≤ p1.toNatClampNeg) (
      bd (f_X0_tenths p1.toNatClampNeg I_3 J) (fun (r_6, I_6, J_6) =>
       some (r_6, I_6, J_6)
      )
      )
     )
    )
   )
  )
def lp_X8_digest_6 (I : SI) : Nat → Int64 → Int32 → Option (Int64)
  | 0, _, _ => none
  | n + 1, v1, v3 =>
    if (6 : Int32) ≤ v3 then (
     some v1
    ) else (
     gd (v3 < 0 ∨ 6 ≤ v3.toNatClampNeg) (
     bd (f_X7_mixInto v3.toNatClampNeg v1 I) (fun r_3 =>
      lp_X8_digest_6 I n r_3 (v3 + (1 : Int32))
     )
     )
    )
def lp_X8_digest_43 (I : SI) : Nat → Int64 → Int32 → Option (Int64)
  | 0, _, _ => none
  | n + 1, v1, v3 =>
    if (I 38 0) ≤ v3 then (
     some v1
    ) else (
     gd (v3 < 0 ∨ 14 ≤ v3.toNatClampNeg) (
     lp_X8_digest_43 I n (((31 : Int64) * v1) + ((I 33 v3.toNatClampNeg).toInt64)) (v3 + (1 : Int32))
     )
    )
def f_X8_digest (I : SI) : Option (Int64) :=
  bd (lp_X8_digest_6 I FU (223 : Int64) (0 : Int32)) (fun w1_6 =>
   bd (lp_X8_digest_43 I FU (((31 : Int64) * w1_6) + ((I 38 0).toInt64)) (0 : Int32)) (fun w1_7 =>
    some w1_7
   )
  )
