def f_X9_in (p0 : Int64) (p2 : Int64) (p4 : Int64) : Option (Int32) :=
  if (lg_cmp p0 p2) < 0 then (
   some (0 : Int32)
  ) else (
   if 0 < (lg_cmp p0 p4) then (
    some (0 : Int32)
   ) else (
    some (1 : Int32)
   )
  )
def f_X9_n (p1 : Int32) (p2 : Int32) (p3 : Int32) (p4 : Int32) (I : SI) : Option (Int32) :=
  gd ((((((125 : Int32) * p1) + ((25 : Int32) * p2)) + ((5 : Int32) * p3)) + p4) < 0 ∨ 875 ≤ (((((125 : Int32) * p1) + ((25 : Int32) * p2)) + ((5 : Int32) * p3)) + p4).toNatClampNeg) (
  some (I 1 (((((125 : Int32) * p1) + ((25 : Int32) * p2)) + ((5 : Int32) * p3)) + p4).toNatClampNeg)
  )
def f_X9_lay (p1 : Int32) (p2 : Int32) (p3 : Int32) (p4 : Int32) (p5 : Int32) (I : SI) : Option (SI) :=
  gd ((((((125 : Int32) * p1) + ((25 : Int32) * p2)) + ((5 : Int32) * p3)) + p4) < 0 ∨ 875 ≤ (((((125 : Int32) * p1) + ((25 : Int32) * p2)) + ((5 : Int32) * p3)) + p4).toNatClampNeg) (
  some (ups I 1 (((((125 : Int32) * p1) + ((25 : Int32) * p2)) + ((5 : Int32) * p3)) + p4).toNatClampNeg p5)
  )
def lp_X9_begin_9 (v1 : Int32) (v2 : Int32) : Nat → Int32 → SI → Option (SI)
  | 0, _, _ => none
  | n + 1, v3, I =>
    if (125 : Int32) ≤ v3 then (
     some I
    ) else (
     gd ((((125 : Int32) * v1) + v3) < 0 ∨ 875 ≤ (((125 : Int32) * v1) + v3).toNatClampNeg) (
     lp_X9_begin_9 v1 v2 n (v3 + (1 : Int32)) (ups I 1 (((125 : Int32) * v1) + v3).toNatClampNeg (0 : Int32))
     )
    )
def lp_X9_begin_35 (v1 : Int32) (v2 : Int32) : Nat → Int32 → SI → Option (SI)
  | 0, _, _ => none
  | n + 1, v3, I =>
    if v2 ≤ v3 then (
     some I
    ) else (
     bd (f_X9_lay v1 (0 : Int32) v3 v3 (1 : Int32) I) (fun I_4 =>
      bd (f_X9_lay v1 v3 (0 : Int32) v3 (1 : Int32) I_4) (fun I_5 =>
       lp_X9_begin_35 v1 v2 n (v3 + (1 : Int32)) I_5
      )
     )
    )
def f_X9_begin (p1 : Int32) (p2 : Int32) (I : SI) : Option (SI) :=
  gd (p1 < 0 ∨ 7 ≤ p1.toNatClampNeg) (
  bd (lp_X9_begin_9 p1 p2 FU (0 : Int32) (ups I 0 p1.toNatClampNeg p2)) (fun I_7 =>
   bd (lp_X9_begin_35 p1 p2 FU (0 : Int32) I_7) (fun I_8 =>
    some I_8
   )
  )
  )
def lp_X9_carry_14 (v1 : Int32) (v2 : Int32) : Nat → Int32 → SI → Option (SI)
  | 0, _, _ => none
  | n + 1, v3, I =>
    if (125 : Int32) ≤ v3 then (
     some I
    ) else (
     gd ((((125 : Int32) * v1) + v3) < 0 ∨ 875 ≤ (((125 : Int32) * v1) + v3).toNatClampNeg) (
     gd ((((125 : Int32) * v2) + v3) < 0 ∨ 875 ≤ (((125 : Int32) * v2) + v3).toNatClampNeg) (
     lp_X9_carry_14 v1 v2 n (v3 + (1 : Int32)) (ups I 1 (((125 : Int32) * v2) + v3).toNatClampNeg (I 1 (((125 : Int32) * v1) + v3).toNatClampNeg))
     )
     )
    )
def f_X9_carry (p1 : Int32) (p2 : Int32) (I : SI) : Option (SI) :=
  gd (p1 < 0 ∨ 7 ≤ p1.toNatClampNeg) (
  gd (p2 < 0 ∨ 7 ≤ p2.toNatClampNeg) (
  bd (lp_X9_carry_14 p1 p2 FU (0 : Int32) (ups I 0 p2.toNatClampNeg (I 0 p1.toNatClampNeg))) (fun I_6 =>
   some I_6
  )
  )
  )
def f_X9_noTable (p0 : Int32) : Option (Int32) :=
  bd (f_X9_in (p0.toInt64) (0 : Int64) (5 : Int64)) (fun r_1 =>
   if r_1 = 0 then (
    some (1 : Int32)
   ) else (
    some (0 : Int32)
   )
  )
def f_X9_isKind (p1 : Int32) (p2 : Int32) (I : SI) : Option (Int32) :=
  gd (p1 < 0 ∨ 7 ≤ p1.toNatClampNeg) (
  bd (f_X9_in (p2.toInt64) (0 : Int64) (((I 0 p1.toNatClampNeg) - (1 : Int32)).toInt64)) (fun r_2 =>
   gd (¬ (r_2 = 0 ∨ r_2 = 1)) (
   some r_2
   )
  )
  )
def f_X9_rank (p1 : Int32) (p2 : Int32) (I : SI) : Option (Int32 × SI) :=
  bd (f_X9_noTable p1) (fun r_1 =>
   if r_1 = 0 then (
    bd (f_X9_in (p2.toInt64) (1 : Int64) (5 : Int64)) (fun r_3 =>
     if r_3 = 0 then (
      some ((-2 : Int32), I)
     ) else (
      bd (f_X9_begin p1 p2 I) (fun I_5 =>
       some ((1 : Int32), I_5)
      )
     )
    )
   ) else (
    some ((-2 : Int32), I)
   )
  )
def f_X9_put (p1 : Int32) (p2 : Int32) (p3 : Int32) (p4 : Int32) (p5 : Int32) (I : SI) : Option (Int32 × SI) :=
  bd (f_X9_noTable p1) (fun r_1 =>
   if r_1 = 0 then (
    bd (f_X9_isKind p1 p2 I) (fun r_3 =>
     if r_3 = 0 then (
      some ((-2 : Int32), I)
     ) else (
      bd (f_X9_isKind p1 p3 I) (fun r_5 =>
       if r_5 = 0 then (
        some ((-2 : Int32), I)
       ) else (
        bd (f_X9_isKind p1 p4 I) (fun r_7 =>
         if r_7 = 0 then (
          some ((-2 : Int32), I)
         ) else (
          bd (f_X9_in (p5.toInt64) (0 : Int64) (9 : Int64)) (fun r_9 =>
           if r_9 = 0 then (
            some ((-2 : Int32), I)
           ) else (
            bd (f_X9_n p1 p2 p3 p4 I) (fun r_11 =>
             bd (f_X9_lay p1 p2 p3 p4 p5 I) (fun I_12 =>
              some (r_11, I_12)
             )
            )
           )
          )
         )
        )
       )
      )
     )
    )
   ) else (
    some ((-2 : Int32), I)
   )
  )
def f_X9_at (p1 : Int32) (p2 : Int32) (p3 : Int32) (p4 : Int32) (I : SI) : Option (Int32) :=
  bd (f_X9_noTable p1) (fun r_1 =>
   if r_1 = 0 then (
    bd (f_X9_isKind p1 p2 I) (fun r_3 =>
     if r_3 = 0 then (
      some (-2 : Int32)
     ) else (
      bd (f_X9_isKind p1 p3 I) (fun r_5 =>
       if r_5 = 0 then (
        some (-2 : Int32)
       ) else (
        bd (f_X9_isKind p1 p4 I) (fun r_7 =>
         if r_7 = 0 then (
          some (-2 : Int32)
         ) else (
          bd (f_X9_n p1 p2 p3 p4 I) (fun r_9 =>
           some r_9
          )
         )
        )
       )
      )
     )
    )
   ) else (
    some (-2 : Int32)
   )
  )
def f_X9_tell (p1 : Int32) (p2 : Int32) (p3 : Int32) (p4 : Int32) (p5 : Int32) (I : SI) : Option (Int32 × SI) :=
  some ((1 : Int32), (ups (ups (ups (ups (ups I 2 (0 : Int32).toNatClampNeg p1) 2 (1 : Int32).toNatClampNeg p2) 2 (2 : Int32).toNatClampNeg p3) 2 (3 : Int32).toNatClampNeg p4) 2 (4 : Int32).toNatClampNeg p5))
def lp_X9_breaksUnit_14 (v1 : Int32) (v2 : Int32) (I : SI) : Nat → Int32 → Option (Nat × Int32)
  | 0, _ => none
  | n + 1, v3 =>
    gd (v1 < 0 ∨ 7 ≤ v1.toNatClampNeg) (
    if (I 0 v1.toNatClampNeg) ≤ v3 then (
     some (1, (0 : Int32))
    ) else (
     if v2 = v3 then (
      bd (f_X9_n v1 (0 : Int32) v2 v3 I) (fun r_8 =>
       if r_8 = (1 : Int32) then (
        bd (f_X9_n v1 v2 (0 : Int32) v3 I) (fun r_10 =>
         if r_10 = (1 : Int32) then (
          lp_X9_breaksUnit_14 v1 v2 I n (v3 + (1 : Int32))
         ) else (
          some (0, v3)
         )
        )
       ) else (
        some (0, v3)
       )
      )
     ) else (
      bd (f_X9_n v1 (0 : Int32) v2 v3 I) (fun r_4 =>
       if r_4 = (0 : Int32) then (
        bd (f_X9_n v1 v2 (0 : Int32) v3 I) (fun r_6 =>
         if r_6 = (0 : Int32) then (
          lp_X9_breaksUnit_14 v1 v2 I n (v3 + (1 : Int32))
         ) else (
          some (0, v3)
         )
        )
       ) else (
        some (0, v3)
       )
      )
     )
    )
    )
def lp_X9_breaksUnit_2 (v1 : Int32) (I : SI) : Nat → Int32 → Option (Nat × Int32 × Int32)
  | 0, _ => none
  | n + 1, v2 =>
    gd (v1 < 0 ∨ 7 ≤ v1.toNatClampNeg) (
    if (I 0 v1.toNatClampNeg) ≤ v2 then (
     some (1, (0 : Int32), (0 : Int32))
    ) else (
     bd (lp_X9_breaksUnit_14 v1 v2 I FU (0 : Int32)) (fun (t_14, w3_14) =>
      if t_14 = 0 then (
       some (0, v2, w3_14)
      ) else (
       lp_X9_breaksUnit_2 v1 I n (v2 + (1 : Int32))
      )
     )
    )
    )
def f_X9_breaksUnit (p1 : Int32) (I : SI) : Option (Int32 × SI) :=
  bd (lp_X9_breaksUnit_2 p1 I FU (0 : Int32)) (fun (t_15, w2_15, w3_15) =>
   if t_15 = 0 then (
    bd (f_X9_tell (1 : Int32) w2_15 w3_15 (-1 : Int32) (-1 : Int32) I) (fun (r_16, I_16) =>
     gd (¬ (r_16 = 0 ∨ r_16 = 1)) (
     some (r_16, I_16)
     )
    )
   ) else (
    some ((0 : Int32), I)
   )
  )
def lp_X9_breaksPartners_17 (v1 : Int32) (v2 : Int32) : Nat → Int32 → Int32 → SI → Option (Int32 × SI)
  | 0, _, _, _ => none
  | n + 1, v3, v4, I =>
    gd (v1 < 0 ∨ 7 ≤ v1.toNatClampNeg) (
    if (I 0 v1.toNatClampNeg) ≤ v4 then (
     some (v3, I)
    ) else (
     bd (f_X9_n v1 v2 v4 (0 : Int32) I) (fun r_3 =>
      if r_3 = 0 then (
       if r_3 ≤ 0 then (
        gd (v2 < 0 ∨ 5 ≤ v2.toNatClampNeg) (
        gd (v2 < 0 ∨ 5 ≤ v2.toNatClampNeg) (
        lp_X9_breaksPartners_17 v1 v2 n (v3 + (0 : Int32)) (v4 + (1 : Int32)) (ups I 3 v2.toNatClampNeg (I 3 v2.toNatClampNeg))
        )
        )
       ) else (
        gd (v2 < 0 ∨ 5 ≤ v2.toNatClampNeg) (
        lp_X9_breaksPartners_17 v1 v2 n (v3 + (0 : Int32)) (v4 + (1 : Int32)) (ups I 3 v2.toNatClampNeg v4)
        )
       )
      ) else (
       if r_3 = (1 : Int32) then (
        if r_3 ≤ 0 then (
         gd (v2 < 0 ∨ 5 ≤ v2.toNatClampNeg) (
         gd (v2 < 0 ∨ 5 ≤ v2.toNatClampNeg) (
         lp_X9_breaksPartners_17 v1 v2 n (v3 + (1 : Int32)) (v4 + (1 : Int32)) (ups I 3 v2.toNatClampNeg (I 3 v2.toNatClampNeg))
         )
         )
        ) else (
         gd (v2 < 0 ∨ 5 ≤ v2.toNatClampNeg) (
         lp_X9_breaksPartners_17 v1 v2 n (v3 + (1 : Int32)) (v4 + (1 : Int32)) (ups I 3 v2.toNatClampNeg v4)
         )
        )
       ) else (
        if r_3 ≤ 0 then (
         gd (v2 < 0 ∨ 5 ≤ v2.toNatClampNeg) (
         gd (v2 < 0 ∨ 5 ≤ v2.toNatClampNeg) (
         lp_X9_breaksPartners_17 v1 v2 n (v3 + (9 : Int32)) (v4 + (1 : Int32)) (ups I 3 v2.toNatClampNeg (I 3 v2.toNatClampNeg))
         )
         )
        ) else (
         gd (v2 < 0 ∨ 5 ≤ v2.toNatClampNeg) (
         lp_X9_breaksPartners_17 v1 v2 n (v3 + (9 : Int32)) (v4 + (1 : Int32)) (ups I 3 v2.toNatClampNeg v4)
         )
        )
       )
      )
     )
    )
    )
def lp_X9_breaksPartners_2 (v1 : Int32) : Nat → Int32 → SI → Option (Nat × Int32 × SI)
  | 0, _, _ => none
  | n + 1, v2, I =>
    gd (v1 < 0 ∨ 7 ≤ v1.toNatClampNeg) (
    if (I 0 v1.toNatClampNeg) ≤ v2 then (
     some (1, (0 : Int32), I)
    ) else (
     bd (lp_X9_breaksPartners_17 v1 v2 FU (0 : Int32) (0 : Int32) I) (fun (w3_20, I_20) =>
      if w3_20 = (1 : Int32) then (
       lp_X9_breaksPartners_2 v1 n (v2 + (1 : Int32)) I_20
      ) else (
       some (0, v2, I_20)
      )
     )
    )
    )
def f_X9_breaksPartners (p1 : Int32) (I : SI) : Option (Int32 × SI) :=
  bd (lp_X9_breaksPartners_2 p1 FU (0 : Int32) I) (fun (t_22, w2_22, I_22) =>
   if t_22 = 0 then (
    bd (f_X9_tell (3 : Int32) w2_22 (-1 : Int32) (-1 : Int32) (-1 : Int32) I_22) (fun (r_23, I_23) =>
     gd (¬ (r_23 = 0 ∨ r_23 = 1)) (
     some (r_23, I_23)
     )
    )
   ) else (
    some ((0 : Int32), I_22)
   )
  )
def lp_X9_breaksThree_10 (v1 : Int32) (v2 : Int32) (v3 : Int32) (I : SI) : Nat → Int32 → Option (Nat × Int32 × Int32 × Int32)
  | 0, _ => none
  | n + 1, v4 =>
    if ((v3 * v3) * v3) ≤ v4 then (
     some (1, (0 : Int32), (0 : Int32), (0 : Int32))
    ) else (
     gd ((v3 * v3) = 0) (
     gd (v3 = 0) (
     gd (v3 = 0) (
     gd (v3 = 0) (
     if v2 = (2 : Int32) then (
      bd (f_X9_n v1 ((v4 / v3) - (v4 / v3) / v3 * v3) (v4 / (v3 * v3)) (v4 - v4 / v3 * v3) I) (fun r_11 =>
       bd (f_X9_n v1 (v4 / (v3 * v3)) ((v4 / v3) - (v4 / v3) / v3 * v3) (v4 - v4 / v3 * v3) I) (fun r_12 =>
        if r_12 = r_11 then (
         lp_X9_breaksThree_10 v1 v2 v3 I n (v4 + (1 : Int32))
        ) else (
         some (0, (v4 / (v3 * v3)), ((v4 / v3) - (v4 / v3) / v3 * v3), (v4 - v4 / v3 * v3))
        )
       )
      )
     ) else (
      gd ((v4 / (v3 * v3)) < 0 ∨ 5 ≤ (v4 / (v3 * v3)).toNatClampNeg) (
      bd (f_X9_n v1 (I 3 (v4 / (v3 * v3)).toNatClampNeg) (v4 - v4 / v3 * v3) ((v4 / v3) - (v4 / v3) / v3 * v3) I) (fun r_8 =>
       bd (f_X9_n v1 (v4 / (v3 * v3)) ((v4 / v3) - (v4 / v3) / v3 * v3) (v4 - v4 / v3 * v3) I) (fun r_9 =>
        if r_9 = r_8 then (
         lp_X9_breaksThree_10 v1 v2 v3 I n (v4 + (1 : Int32))
        ) else (
         some (0, (v4 / (v3 * v3)), ((v4 / v3) - (v4 / v3) / v3 * v3), (v4 - v4 / v3 * v3))
        )
       )
      )
      )
     )
     )
     )
     )
     )
    )
def f_X9_breaksThree (p1 : Int32) (p2 : Int32) (I : SI) : Option (Int32 × SI) :=
  gd (p1 < 0 ∨ 7 ≤ p1.toNatClampNeg) (
  bd (lp_X9_breaksThree_10 p1 p2 (I 0 p1.toNatClampNeg) I FU (0 : Int32)) (fun (t_15, w5_15, w6_15, w7_15) =>
   if t_15 = 0 then (
    bd (f_X9_tell p2 w5_15 w6_15 w7_15 (-1 : Int32) I) (fun (r_16, I_16) =>
     gd (¬ (r_16 = 0 ∨ r_16 = 1)) (
     some (r_16, I_16)
     )
    )
   ) else (
    some ((0 : Int32), I)
   )
  )
  )
def lp_X9_breaksSums_56 (v1 : Int32) (v2 : Int32) (v3 : Int32) (v4 : Int32) (v5 : Int32) (v6 : Int32) (v7 : Int32) (I : SI) : Nat → Int32 → Int32 → Option (Int32)
  | 0, _, _ => none
  | n + 1, v8, v9 =>
    if v2 ≤ v9 then (
     some v8
    ) else (
     bd (f_X9_n v1 v4 v5 v9 I) (fun r_2 =>
      bd (f_X9_n v1 v9 v6 v7 I) (fun r_3 =>
       bd (f_X9_n v1 v5 v6 v9 I) (fun r_4 =>
        bd (f_X9_n v1 v4 v9 v7 I) (fun r_5 =>
         lp_X9_breaksSums_56 v1 v2 v3 v4 v5 v6 v7 I n (v8 + ((r_2 * r_3) - (r_4 * r_5))) (v9 + (1 : Int32))
        )
       )
      )
     )
    )
def lp_X9_breaksSums_9 (v1 : Int32) (v2 : Int32) (I : SI) : Nat → Int32 → Option (Nat × Int32 × Int32 × Int32 × Int32)
  | 0, _ => none
  | n + 1, v3 =>
    if (((v2 * v2) * v2) * v2) ≤ v3 then (
     some (1, (0 : Int32), (0 : Int32), (0 : Int32), (0 : Int32))
    ) else (
     gd (((v2 * v2) * v2) = 0) (
     gd ((v2 * v2) = 0) (
     gd (v2 = 0) (
     gd (v2 = 0) (
     gd (v2 = 0) (
     gd (v2 = 0) (
     bd (lp_X9_breaksSums_56 v1 v2 v3 (v3 / ((v2 * v2) * v2)) ((v3 / (v2 * v2)) - (v3 / (v2 * v2)) / v2 * v2) ((v3 / v2) - (v3 / v2) / v2 * v2) (v3 - v3 / v2 * v2) I FU (0 : Int32) (0 : Int32)) (fun w8_13 =>
      if w8_13 = 0 then (
       lp_X9_breaksSums_9 v1 v2 I n (v3 + (1 : Int32))
      ) else (
       some (0, (v3 / ((v2 * v2) * v2)), ((v3 / (v2 * v2)) - (v3 / (v2 * v2)) / v2 * v2), ((v3 / v2) - (v3 / v2) / v2 * v2), (v3 - v3 / v2 * v2))
      )
     )
     )
     )
     )
     )
     )
     )
    )
def f_X9_breaksSums (p1 : Int32) (I : SI) : Option (Int32 × SI) :=
  gd (p1 < 0 ∨ 7 ≤ p1.toNatClampNeg) (
  bd (lp_X9_breaksSums_9 p1 (I 0 p1.toNatClampNeg) I FU (0 : Int32)) (fun (t_16, w4_16, w5_16, w6_16, w7_16) =>
   if t_16 = 0 then (
    bd (f_X9_tell (5 : Int32) w4_16 w5_16 w6_16 w7_16 I) (fun (r_17, I_17) =>
     gd (¬ (r_17 = 0 ∨ r_17 = 1)) (
     some (r_17, I_17)
     )
    )
   ) else (
    some ((0 : Int32), I)
   )
  )
  )
def f_X9_isRight (p1 : Int32) (I : SI) : Option (Int32 × SI) :=
  bd (f_X9_breaksUnit p1 I) (fun (r_1, I_1) =>
   if r_1 = 0 then (
    bd (f_X9_breaksThree p1 (2 : Int32) I_1) (fun (r_7, I_7) =>
     if r_7 = 0 then (
      bd (f_X9_breaksPartners p1 I_7) (fun (r_13, I_13) =>
       if r_13 = 0 then (
        bd (f_X9_breaksThree p1 (4 : Int32) I_13) (fun (r_19, I_19) =>
         if r_19 = 0 then (
          bd (f_X9_breaksSums p1 I_19) (fun (r_25, I_25) =>
           if r_25 = 0 then (
            if (0 : Int32) = 0 then (
             bd (f_X9_tell (0 : Int32) (-1 : Int32) (-1 : Int32) (-1 : Int32) (-1 : Int32) I_25) (fun (r_29, I_29) =>
              if (0 : Int32) = 0 then (
               some ((1 : Int32), I_29)
              ) else (
               some ((0 : Int32), I_29)
              )
             )
            ) else (
             if (0 : Int32) = 0 then (
              some ((1 : Int32), I_25)
             ) else (
              some ((0 : Int32), I_25)
             )
            )
           ) else (
            if (1 : Int32) = 0 then (
             bd (f_X9_tell (0 : Int32) (-1 : Int32) (-1 : Int32) (-1 : Int32) (-1 : Int32) I_25) (fun (r_33, I_33) =>
              if (1 : Int32) = 0 then (
               some ((1 : Int32), I_33)
              ) else (
               some ((0 : Int32), I_33)
              )
             )
            ) else (
             if (1 : Int32) = 0 then (
              some ((1 : Int32), I_25)
             ) else (
              some ((0 : Int32), I_25)
             )
            )
           )
          )
         ) else (
          if (1 : Int32) = 0 then (
           bd (f_X9_tell (0 : Int32) (-1 : Int32) (-1 : Int32) (-1 : Int32) (-1 : Int32) I_19) (fun (r_23, I_23) =>
            if (1 : Int32) = 0 then (
             some ((1 : Int32), I_23)
            ) else (
             some ((0 : Int32), I_23)
            )
           )
          ) else (
           if (1 : Int32) = 0 then (
            some ((1 : Int32), I_19)
           ) else (
            some ((0 : Int32), I_19)
           )
          )
         )
        )
       ) else (
        if (1 : Int32) = 0 then (
         bd (f_X9_tell (0 : Int32) (-1 : Int32) (-1 : Int32) (-1 : Int32) (-1 : Int32) I_13) (fun (r_17, I_17) =>
          if (1 : Int32) = 0 then (
           some ((1 : Int32), I_17)
          ) else (
           some ((0 : Int32), I_17)
          )
         )
        ) else (
         if (1 : Int32) = 0 then (
          some ((1 : Int32), I_13)
         ) else (
          some ((0 : Int32), I_13)
         )
        )
       )
      )
     ) else (
      if (1 : Int32) = 0 then (
       bd (f_X9_tell (0 : Int32) (-1 : Int32) (-1 : Int32) (-1 : Int32) (-1 : Int32) I_7) (fun (r_11, I_11) =>
        if (1 : Int32) = 0 then (
         some ((1 : Int32), I_11)
        ) else (
         some ((0 : Int32), I_11)
        )
       )
      ) else (
       if (1 : Int32) = 0 then (
        some ((1 : Int32), I_7)
       ) else (
        some ((0 : Int32), I_7)
       )
      )
     )
    )
   ) else (
    if (1 : Int32) = 0 then (
     bd (f_X9_tell (0 : Int32) (-1 : Int32) (-1 : Int32) (-1 : Int32) (-1 : Int32) I_1) (fun (r_5, I_5) =>
      if (1 : Int32) = 0 then (
       some ((1 : Int32), I_5)
      ) else (
       some ((0 : Int32), I_5)
      )
     )
    ) else (
     if (1 : Int32) = 0 then (
      some ((1 : Int32), I_1)
     ) else (
      some ((0 : Int32), I_1)
     )
    )
   )
  )
def f_X9_fault (p1 : Int32) (p2 : Int32) (I : SI) : Option (Int32 × SI) :=
  bd (f_X9_noTable p1) (fun r_1 =>
   if r_1 = 0 then (
    bd (f_X9_in (p2.toInt64) (0 : Int64) (4 : Int64)) (fun r_3 =>
     if r_3 = 0 then (
      some ((-2 : Int32), I)
     ) else (
      bd (f_X9_isRight p1 I) (fun (r_5, I_5) =>
       gd (p2 < 0 ∨ 5 ≤ p2.toNatClampNeg) (
       some ((I_5 2 p2.toNatClampNeg), I_5)
       )
      )
     )
    )
   ) else (
    some ((-2 : Int32), I)
   )
  )
def f_X9_partner (p1 : Int32) (p2 : Int32) (I : SI) : Option (Int32 × SI) :=
  bd (f_X9_noTable p1) (fun r_1 =>
   if r_1 = 0 then (
    bd (f_X9_isKind p1 p2 I) (fun r_3 =>
     if r_3 = 0 then (
      some ((-2 : Int32), I)
     ) else (
      bd (f_X9_isRight p1 I) (fun (r_5, I_5) =>
       if r_5 = 0 then (
        some ((-3 : Int32), I_5)
       ) else (
        gd (p2 < 0 ∨ 5 ≤ p2.toNatClampNeg) (
        some ((I_5 3 p2.toNatClampNeg), I_5)
        )
       )
      )
     )
    )
   ) else (
    some ((-2 : Int32), I)
   )
  )
def f_X9_copy (p1 : Int32) (p2 : Int32) (I : SI) : Option (Int32 × SI) :=
  bd (f_X9_noTable p1) (fun r_1 =>
   if r_1 = 0 then (
    bd (f_X9_noTable p2) (fun r_3 =>
     if r_3 = 0 then (
      bd (f_X9_carry p1 p2 I) (fun I_5 =>
       gd (p2 < 0 ∨ 7 ≤ p2.toNatClampNeg) (
       some ((I_5 0 p2.toNatClampNeg), I_5)
       )
      )
     ) else (
      some ((-2 : Int32), I)
     )
    )
   ) else (
    some ((-2 : Int32), I)
   )
  )
def lp_X9_layGroup_10 (v1 : Int32) (v2 : Int32) (v3 : Int32) : Nat → Int32 → SI → Option (SI)
  | 0, _, _ => none
  | n + 1, v4, I =>
    if v2 ≤ v4 then (
     some I
    ) else (
     if (v3 + v4) < v2 then (
      bd (f_X9_lay v1 v3 v4 (v3 + v4) (1 : Int32) I) (fun I_3 =>
       lp_X9_layGroup_10 v1 v2 v3 n (v4 + (1 : Int32)) I_3
      )
     ) else (
      bd (f_X9_lay v1 v3 v4 ((v3 + v4) - v2) (1 : Int32) I) (fun I_4 =>
       lp_X9_layGroup_10 v1 v2 v3 n (v4 + (1 : Int32)) I_4
      )
     )
    )
def lp_X9_layGroup_2 (v1 : Int32) (v2 : Int32) : Nat → Int32 → SI → Option (SI)
  | 0, _, _ => none
  | n + 1, v3, I =>
    if v2 ≤ v3 then (
     some I
    ) else (
     bd (lp_X9_layGroup_10 v1 v2 v3 FU (0 : Int32) I) (fun I_6 =>
      lp_X9_layGroup_2 v1 v2 n (v3 + (1 : Int32)) I_6
     )
    )
def f_X9_layGroup (p1 : Int32) (p2 : Int32) (I : SI) : Option (SI) :=
  bd (lp_X9_layGroup_2 p1 p2 FU (0 : Int32) I) (fun I_7 =>
   some I_7
  )
def f_X9_group (p1 : Int32) (p2 : Int32) (I : SI) : Option (Int32 × SI) :=
  bd (f_X9_noTable p1) (fun r_1 =>
   if r_1 = 0 then (
    bd (f_X9_in (p2.toInt64) (1 : Int64) (5 : Int64)) (fun r_3 =>
     if r_3 = 0 then (
      some ((-2 : Int32), I)
     ) else (
      bd (f_X9_begin p1 p2 I) (fun I_5 =>
       bd (f_X9_layGroup p1 p2 I_5) (fun I_6 =>
        some ((1 : Int32), I_6)
       )
      )
     )
    )
   ) else (
    some ((-2 : Int32), I)
   )
  )
def lp_X9_near_51 (v1 : Int32) (v2 : Int32) (v3 : Int32) : Nat → Int32 → SI → Option (SI)
  | 0, _, _ => none
  | n + 1, v4, I =>
    if v2 ≤ v4 then (
     some I
    ) else (
     bd (f_X9_lay v1 v4 v2 v2 (1 : Int32) I) (fun I_2 =>
      bd (f_X9_lay v1 v2 v4 v2 (1 : Int32) I_2) (fun I_3 =>
       bd (f_X9_lay v1 v2 v2 v4 (1 : Int32) I_3) (fun I_4 =>
        lp_X9_near_51 v1 v2 v3 n (v4 + (1 : Int32)) I_4
       )
      )
     )
    )
def f_X9_near (p1 : Int32) (p2 : Int32) (p3 : Int32) (I : SI) : Option (Int32 × SI) :=
  bd (f_X9_noTable p1) (fun r_5 =>
   if r_5 = 0 then (
    bd (f_X9_in (p2.toInt64) (1 : Int64) (4 : Int64)) (fun r_7 =>
     if r_7 = 0 then (
      some ((-2 : Int32), I)
     ) else (
      bd (f_X9_in (p3.toInt64) (0 : Int64) (9 : Int64)) (fun r_9 =>
       if r_9 = 0 then (
        some ((-2 : Int32), I)
       ) else (
        bd (f_X9_begin p1 (p2 + (1 : Int32)) I) (fun I_11 =>
         bd (f_X9_layGroup p1 p2 I_11) (fun I_12 =>
          bd (lp_X9_near_51 p1 p2 p3 FU (0 : Int32) I_12) (fun I_13 =>
           bd (f_X9_lay p1 p2 p2 p2 p3 I_13) (fun I_14 =>
            some ((1 : Int32), I_14)
           )
          )
         )
        )
       )
      )
     )
    )
   ) else (
    some ((-2 : Int32), I)
   )
  )
def lp_X9_together_92 (v1 : Int32) (v2 : Int32) (v3 : Int32) (v4 : Int32) (v5 : Int32) (v6 : Int32) (v7 : Int32) : Nat → Int32 → SI → Option (Nat × SI)
  | 0, _, _ => none
  | n + 1, v8, I =>
    if (v4 * v5) ≤ v8 then (
     some (1, I)
    ) else (
     gd (v5 = 0) (
     gd (v5 = 0) (
     gd (v5 = 0) (
     bd (f_X9_n v1 (v6 / v5) (v7 / v5) (v8 / v5) I) (fun r_5 =>
      gd (v5 = 0) (
      gd (v5 = 0) (
      gd (v5 = 0) (
      bd (f_X9_n v2 (v6 - v6 / v5 * v5) (v7 - v7 / v5 * v5) (v8 - v8 / v5 * v5) I) (fun r_9 =>
       if (r_5 * r_9) ≤ (9 : Int32) then (
        bd (f_X9_lay (6 : Int32) v6 v7 v8 (r_5 * r_9) I) (fun I_11 =>
         lp_X9_together_92 v1 v2 v3 v4 v5 v6 v7 n (v8 + (1 : Int32)) I_11
        )
       ) else (
        some (0, I)
       )
      )
      )
      )
      )
     )
     )
     )
     )
    )
def lp_X9_together_79 (v1 : Int32) (v2 : Int32) (v3 : Int32) (v4 : Int32) (v5 : Int32) (v6 : Int32) : Nat → Int32 → SI → Option (Nat × SI)
  | 0, _, _ => none
  | n + 1, v7, I =>
    if (v4 * v5) ≤ v7 then (
     some (1, I)
    ) else (
     bd (lp_X9_together_92 v1 v2 v3 v4 v5 v6 v7 FU (0 : Int32) I) (fun (t_13, I_13) =>
      if t_13 = 0 then (
       some (0, I_13)
      ) else (
       lp_X9_together_79 v1 v2 v3 v4 v5 v6 n (v7 + (1 : Int32)) I_13
      )
     )
    )
def lp_X9_together_66 (v1 : Int32) (v2 : Int32) (v3 : Int32) (v4 : Int32) (v5 : Int32) : Nat → Int32 → SI → Option (Nat × SI)
  | 0, _, _ => none
  | n + 1, v6, I =>
    if (v4 * v5) ≤ v6 then (
     some (1, I)
    ) else (
     bd (lp_X9_together_79 v1 v2 v3 v4 v5 v6 FU (0 : Int32) I) (fun (t_15, I_15) =>
      if t_15 = 0 then (
       some (0, I_15)
      ) else (
       lp_X9_together_66 v1 v2 v3 v4 v5 n (v6 + (1 : Int32)) I_15
      )
     )
    )
def f_X9_together (p1 : Int32) (p2 : Int32) (p3 : Int32) (I : SI) : Option (Int32 × SI) :=
  bd (f_X9_noTable p1) (fun r_16 =>
   if r_16 = 0 then (
    bd (f_X9_noTable p2) (fun r_18 =>
     if r_18 = 0 then (
      bd (f_X9_noTable p3) (fun r_20 =>
       if r_20 = 0 then (
        gd (p1 < 0 ∨ 7 ≤ p1.toNatClampNeg) (
        gd (p2 < 0 ∨ 7 ≤ p2.toNatClampNeg) (
        if ((I 0 p1.toNatClampNeg) * (I 0 p2.toNatClampNeg)) ≤ (5 : Int32) then (
         bd (f_X9_begin (6 : Int32) ((I 0 p1.toNatClampNeg) * (I 0 p2.toNatClampNeg)) I) (fun I_25 =>
          bd (lp_X9_together_66 p1 p2 p3 (I 0 p1.toNatClampNeg) (I 0 p2.toNatClampNeg) FU (0 : Int32) I_25) (fun (t_26, I_26) =>
           if t_26 = 0 then (
            some ((-3 : Int32), I_26)
           ) else (
            bd (f_X9_carry (6 : Int32) p3 I_26) (fun I_27 =>
             some (((I 0 p1.toNatClampNeg) * (I 0 p2.toNatClampNeg)), I_27)
            )
           )
          )
         )
        ) else (
         some ((-3 : Int32), I)
        )
        )
        )
       ) else (
        some ((-2 : Int32), I)
       )
      )
     ) else (
      some ((-2 : Int32), I)
     )
    )
   ) else (
    some ((-2 : Int32), I)
   )
  )
def f_X9_mate (p0 : Int32) (p1 : Int32) : Option (Int32) :=
  if p1 = (1 : Int32) then (
   if p0 = (1 : Int32) then (
    some ((3 : Int32) - p0)
   ) else (
    if p0 = (2 : Int32) then (
     some ((3 : Int32) - p0)
    ) else (
     some p0
    )
   )
  ) else (
   some p0
  )
def f_X9_placeOf (p0 : Int32) (p1 : Int32) (p2 : Int32) : Option (Int32) :=
  some ((((25 : Int32) * p0) + ((5 : Int32) * p1)) + p2)
def f_X9_join (p1 : Int32) (p2 : Int32) (I : SI) : Option (Int32 × SI) :=
  gd (p1 < 0 ∨ 125 ≤ p1.toNatClampNeg) (
  gd (p2 < 0 ∨ 125 ≤ p2.toNatClampNeg) (
  if (I 4 p2.toNatClampNeg) ≤ (I 4 p1.toNatClampNeg) then (
   gd (p2 < 0 ∨ 125 ≤ p2.toNatClampNeg) (
   gd (p1 < 0 ∨ 125 ≤ p1.toNatClampNeg) (
   gd (p2 < 0 ∨ 125 ≤ p2.toNatClampNeg) (
   if (I 4 p1.toNatClampNeg) = (I 4 p2.toNatClampNeg) then (
    gd (p1 < 0 ∨ 125 ≤ p1.toNatClampNeg) (
    gd (p2 < 0 ∨ 125 ≤ p2.toNatClampNeg) (
    some ((0 : Int32), (ups (ups I 4 p1.toNatClampNeg (I 4 p2.toNatClampNeg)) 4 p2.toNatClampNeg (I 4 p2.toNatClampNeg)))
    )
    )
   ) else (
    gd (p1 < 0 ∨ 125 ≤ p1.toNatClampNeg) (
    gd (p2 < 0 ∨ 125 ≤ p2.toNatClampNeg) (
    some ((1 : Int32), (ups (ups I 4 p1.toNatClampNeg (I 4 p2.toNatClampNeg)) 4 p2.toNatClampNeg (I 4 p2.toNatClampNeg)))
    )
    )
   )
   )
   )
   )
  ) else (
   gd (p1 < 0 ∨ 125 ≤ p1.toNatClampNeg) (
   gd (p1 < 0 ∨ 125 ≤ p1.toNatClampNeg) (
   gd (p2 < 0 ∨ 125 ≤ p2.toNatClampNeg) (
   if (I 4 p1.toNatClampNeg) = (I 4 p2.toNatClampNeg) then (
    gd (p1 < 0 ∨ 125 ≤ p1.toNatClampNeg) (
    gd (p2 < 0 ∨ 125 ≤ p2.toNatClampNeg) (
    some ((0 : Int32), (ups (ups I 4 p1.toNatClampNeg (I 4 p1.toNatClampNeg)) 4 p2.toNatClampNeg (I 4 p1.toNatClampNeg)))
    )
    )
   ) else (
    gd (p1 < 0 ∨ 125 ≤ p1.toNatClampNeg) (
    gd (p2 < 0 ∨ 125 ≤ p2.toNatClampNeg) (
    some ((1 : Int32), (ups (ups I 4 p1.toNatClampNeg (I 4 p1.toNatClampNeg)) 4 p2.toNatClampNeg (I 4 p1.toNatClampNeg)))
    )
    )
   )
   )
   )
   )
  )
  )
  )
def lp_X9_findLike_2 (v1 : Int32) (v2 : Int32) : Nat → Int32 → SI → Option (SI)
  | 0, _, _ => none
  | n + 1, v3, I =>
    if (125 : Int32) ≤ v3 then (
     some I
    ) else (
     gd (v3 < 0 ∨ 125 ≤ v3.toNatClampNeg) (
     lp_X9_findLike_2 v1 v2 n (v3 + (1 : Int32)) (ups I 4 v3.toNatClampNeg v3)
     )
    )
def lp_X9_findLike_175 (v1 : Int32) (v4 : Int32) (v5 : Int32) : Nat → Int32 → SI → Option (SI)
  | 0, _, _ => none
  | n + 1, v6, I =>
    if v1 ≤ v6 then (
     some I
    ) else (
     bd (f_X9_placeOf v4 v5 v6) (fun r_4 =>
      gd (r_4 < 0 ∨ 125 ≤ r_4.toNatClampNeg) (
      bd (f_X9_placeOf v4 v5 v6) (fun r_6 =>
       if (I 4 r_4.toNatClampNeg) = r_6 then (
        bd (f_X9_placeOf v4 v5 v6) (fun r_8 =>
         gd ((I 14 0) < 0 ∨ 125 ≤ (I 14 0).toNatClampNeg) (
         lp_X9_findLike_175 v1 v4 v5 n (v6 + (1 : Int32)) (sets (ups I 5 (I 14 0).toNatClampNeg r_8) 14 (((ups I 5 (I 14 0).toNatClampNeg r_8) 14 0) + (1 : Int32)))
         )
        )
       ) else (
        lp_X9_findLike_175 v1 v4 v5 n (v6 + (1 : Int32)) I
       )
      )
      )
     )
    )
def lp_X9_findLike_50 (v1 : Int32) (v2 : Int32) (v4 : Int32) (v5 : Int32) : Nat → Int32 → Int32 → SI → Option (Int32 × SI)
  | 0, _, _, _ => none
  | n + 1, v3, v6, I =>
    if v1 ≤ v6 then (
     some (v3, I)
    ) else (
     bd (f_X9_placeOf v4 v5 v6) (fun r_11 =>
      bd (f_X9_placeOf v5 v4 v6) (fun r_12 =>
       bd (f_X9_join r_11 r_12 I) (fun (r_13, I_13) =>
        bd (f_X9_placeOf v4 v5 v6) (fun r_14 =>
         bd (f_X9_mate v4 v2) (fun r_15 =>
          bd (f_X9_placeOf r_15 v6 v5) (fun r_16 =>
           bd (f_X9_join r_14 r_16 I_13) (fun (r_17, I_17) =>
            if v3 = 0 then (
             if r_13 = 0 then (
              if r_17 = 0 then (
               lp_X9_findLike_50 v1 v2 v4 v5 n (0 : Int32) (v6 + (1 : Int32)) I_17
              ) else (
               lp_X9_findLike_50 v1 v2 v4 v5 n (1 : Int32) (v6 + (1 : Int32)) I_17
              )
             ) else (
              lp_X9_findLike_50 v1 v2 v4 v5 n (1 : Int32) (v6 + (1 : Int32)) I_17
             )
            ) else (
             lp_X9_findLike_50 v1 v2 v4 v5 n (1 : Int32) (v6 + (1 : Int32)) I_17
            )
           )
          )
         )
        )
       )
      )
     )
    )
def lp_X9_findLike_166 (v1 : Int32) (v4 : Int32) : Nat → Int32 → SI → Option (SI)
  | 0, _, _ => none
  | n + 1, v5, I =>
    if v1 ≤ v5 then (
     some I
    ) else (
     bd (lp_X9_findLike_175 v1 v4 v5 FU (1 : Int32) I) (fun I_22 =>
      lp_X9_findLike_166 v1 v4 n (v5 + (1 : Int32)) I_22
     )
    )
def lp_X9_findLike_41 (v1 : Int32) (v2 : Int32) (v4 : Int32) : Nat → Int32 → Int32 → SI → Option (Int32 × SI)
  | 0, _, _, _ => none
  | n + 1, v3, v5, I =>
    if v1 ≤ v5 then (
     some (v3, I)
    ) else (
     bd (lp_X9_findLike_50 v1 v2 v4 v5 FU v3 (1 : Int32) I) (fun (w3_24, I_24) =>
      lp_X9_findLike_41 v1 v2 v4 n w3_24 (v5 + (1 : Int32)) I_24
     )
    )
def lp_X9_findLike_157 (v1 : Int32) : Nat → Int32 → SI → Option (SI)
  | 0, _, _ => none
  | n + 1, v4, I =>
    if v1 ≤ v4 then (
     some I
    ) else (
     bd (lp_X9_findLike_166 v1 v4 FU (1 : Int32) I) (fun I_26 =>
      lp_X9_findLike_157 v1 n (v4 + (1 : Int32)) I_26
     )
    )
def lp_X9_findLike_32 (v1 : Int32) (v2 : Int32) : Nat → Int32 → Int32 → SI → Option (Int32 × SI)
  | 0, _, _, _ => none
  | n + 1, v3, v4, I =>
    if v1 ≤ v4 then (
     some (v3, I)
    ) else (
     bd (lp_X9_findLike_41 v1 v2 v4 FU v3 (1 : Int32) I) (fun (w3_28, I_28) =>
      lp_X9_findLike_32 v1 v2 n w3_28 (v4 + (1 : Int32)) I_28
     )
    )
def lp_X9_findLike_23 (v1 : Int32) (v2 : Int32) : Nat → Int32 → SI → Option (SI)
  | 0, _, _ => none
  | n + 1, v3, I =>
    if v3 = 0 then (
     some I
    ) else (
     bd (lp_X9_findLike_32 v1 v2 FU (0 : Int32) (1 : Int32) I) (fun (w3_30, I_30) =>
      lp_X9_findLike_23 v1 v2 n w3_30 I_30
     )
    )
def f_X9_findLike (p1 : Int32) (p2 : Int32) (I : SI) : Option (SI) :=
  bd (lp_X9_findLike_2 p1 p2 FU (0 : Int32) I) (fun I_31 =>
   bd (lp_X9_findLike_23 p1 p2 FU (1 : Int32) I_31) (fun I_32 =>
    bd (lp_X9_findLike_157 p1 FU (1 : Int32) (sets I_32 14 (0 : Int32))) (fun I_33 =>
     some I_33
    )
   )
  )
def lp_X9_layOut_97 (v1 : Int32) (v3 : Int32) (v6 : Int32) (v7 : Int32) : Nat → Int32 → SI → Option (SI)
  | 0, _, _ => none
  | n + 1, v8, I =>
    if v1 ≤ v8 then (
     some I
    ) else (
     bd (f_X9_placeOf v6 v7 v8) (fun r_2 =>
      gd (r_2 < 0 ∨ 125 ≤ r_2.toNatClampNeg) (
      gd (((750 : Int32) + (I 4 r_2.toNatClampNeg)) < 0 ∨ 875 ≤ ((750 : Int32) + (I 4 r_2.toNatClampNeg)).toNatClampNeg) (
      bd (f_X9_lay (6 : Int32) v6 v7 v8 (I 1 ((750 : Int32) + (I 4 r_2.toNatClampNeg)).toNatClampNeg) I) (fun I_5 =>
       lp_X9_layOut_97 v1 v3 v6 v7 n (v8 + (1 : Int32)) I_5
      )
      )
      )
     )
    )
def lp_X9_layOut_19 (v1 : Int32) (v2 : Int32) (v3 : Int32) : Nat → Int32 → Int32 → SI → Option (SI)
  | 0, _, _, _ => none
  | n + 1, v5, v6, I =>
    if v6 < 0 then (
     some I
    ) else (
     gd (v6 < 0 ∨ 125 ≤ v6.toNatClampNeg) (
     gd ((v2 + (1 : Int32)) = 0) (
     gd (((750 : Int32) + (I 5 v6.toNatClampNeg)) < 0 ∨ 875 ≤ ((750 : Int32) + (I 5 v6.toNatClampNeg)).toNatClampNeg) (
     gd ((v2 + (1 : Int32)) = 0) (
     lp_X9_layOut_19 v1 v2 v3 n (v5 / (v2 + (1 : Int32))) (v6 + (-1 : Int32)) (ups I 1 ((750 : Int32) + (I 5 v6.toNatClampNeg)).toNatClampNeg (v5 - v5 / (v2 + (1 : Int32)) * (v2 + (1 : Int32))))
     )
     )
     )
     )
    )
def lp_X9_layOut_88 (v1 : Int32) (v3 : Int32) (v6 : Int32) : Nat → Int32 → SI → Option (SI)
  | 0, _, _ => none
  | n + 1, v7, I =>
    if v1 ≤ v7 then (
     some I
    ) else (
     bd (lp_X9_layOut_97 v1 v3 v6 v7 FU (1 : Int32) I) (fun I_12 =>
      lp_X9_layOut_88 v1 v3 v6 n (v7 + (1 : Int32)) I_12
     )
    )
def lp_X9_layOut_63 (v1 : Int32) (v3 : Int32) : Nat → Int32 → SI → Option (SI)
  | 0, _, _ => none
  | n + 1, v6, I =>
    if v1 ≤ v6 then (
     some I
    ) else (
     bd (f_X9_mate v6 v3) (fun r_14 =>
      bd (f_X9_lay (6 : Int32) v6 r_14 (0 : Int32) (1 : Int32) I) (fun I_15 =>
       bd (lp_X9_layOut_88 v1 v3 v6 FU (1 : Int32) I_15) (fun I_16 =>
        lp_X9_layOut_63 v1 v3 n (v6 + (1 : Int32)) I_16
       )
      )
     )
    )
def f_X9_layOut (p1 : Int32) (p2 : Int32) (p3 : Int32) (p4 : Int32) (I : SI) : Option (SI) :=
  bd (f_X9_begin (6 : Int32) p1 I) (fun I_17 =>
   bd (lp_X9_layOut_19 p1 p2 p3 FU p4 ((I_17 14 0) - (1 : Int32)) I_17) (fun I_18 =>
    bd (lp_X9_layOut_63 p1 p3 FU (1 : Int32) I_18) (fun I_19 =>
     some I_19
    )
   )
  )
def f_X9_isListed (p0 : Int32) (p1 : Int32) (p2 : Int32) : Option (Int32) :=
  bd (f_X9_in (p0.toInt64) (2 : Int64) (4 : Int64)) (fun r_1 =>
   if r_1 = 0 then (
    some (0 : Int32)
   ) else (
    if p0 = (4 : Int32) then (
     bd (f_X9_in (p1.toInt64) (1 : Int64) (1 : Int64)) (fun r_11 =>
      if r_11 = 0 then (
       some (0 : Int32)
      ) else (
       if p0 = (2 : Int32) then (
        bd (f_X9_in (p2.toInt64) (0 : Int64) (0 : Int64)) (fun r_16 =>
         if r_16 = 0 then (
          some (0 : Int32)
         ) else (
          some (1 : Int32)
         )
        )
       ) else (
        bd (f_X9_in (p2.toInt64) (0 : Int64) (1 : Int64)) (fun r_14 =>
         if r_14 = 0 then (
          some (0 : Int32)
         ) else (
          some (1 : Int32)
         )
        )
       )
      )
     )
    ) else (
     bd (f_X9_in (p1.toInt64) (1 : Int64) (3 : Int64)) (fun r_4 =>
      if r_4 = 0 then (
       some (0 : Int32)
      ) else (
       if p0 = (2 : Int32) then (
        bd (f_X9_in (p2.toInt64) (0 : Int64) (0 : Int64)) (fun r_9 =>
         if r_9 = 0 then (
          some (0 : Int32)
         ) else (
          some (1 : Int32)
         )
        )
       ) else (
        bd (f_X9_in (p2.toInt64) (0 : Int64) (1 : Int64)) (fun r_7 =>
         if r_7 = 0 then (
          some (0 : Int32)
         ) else (
          some (1 : Int32)
         )
        )
       )
      )
     )
    )
   )
  )
def lp_X9_goThrough_12 (v1 : Int32) (v2 : Int32) (v3 : Int32) (v4 : Int32) (I : SI) : Nat → Int32 → Int32 → Option (Int32)
  | 0, _, _ => none
  | n + 1, v5, v6 =>
    if (I 14 0) ≤ v6 then (
     some v5
    ) else (
     lp_X9_goThrough_12 v1 v2 v3 v4 I n (v5 * (v2 + (1 : Int32))) (v6 + (1 : Int32))
    )
def lp_X9_goThrough_41 (v1 : Int32) (v2 : Int32) (v3 : Int32) (v4 : Int32) (v5 : Int32) : Nat → Int32 → Int32 → SI → Option (Int32 × SI)
  | 0, _, _, _ => none
  | n + 1, v6, v7, I =>
    if v5 ≤ v7 then (
     some (v6, I)
    ) else (
     if v6 = (v4 + (1 : Int32)) then (
      some (v6, I)
     ) else (
      bd (f_X9_layOut v1 v2 v3 v7 I) (fun I_4 =>
       bd (f_X9_isRight (6 : Int32) I_4) (fun (r_5, I_5) =>
        if r_5 = 0 then (
         lp_X9_goThrough_41 v1 v2 v3 v4 v5 n (v6 + (0 : Int32)) (v7 + (1 : Int32)) I_5
        ) else (
         lp_X9_goThrough_41 v1 v2 v3 v4 v5 n (v6 + (1 : Int32)) (v7 + (1 : Int32)) I_5
        )
       )
      )
     )
    )
def f_X9_goThrough (p1 : Int32) (p2 : Int32) (p3 : Int32) (p4 : Int32) (I : SI) : Option (Int32 × SI) :=
  bd (f_X9_findLike p1 p3 I) (fun I_7 =>
   bd (lp_X9_goThrough_12 p1 p2 p3 p4 I_7 FU (1 : Int32) (0 : Int32)) (fun w5_8 =>
    bd (lp_X9_goThrough_41 p1 p2 p3 p4 w5_8 FU (0 : Int32) (0 : Int32) I_7) (fun (w6_9, I_9) =>
     some (w6_9, I_9)
    )
   )
  )
def f_X9_list (p1 : Int32) (p2 : Int32) (p3 : Int32) (I : SI) : Option (Int32 × SI) :=
  bd (f_X9_isListed p1 p2 p3) (fun r_1 =>
   if r_1 = 0 then (
    some ((-2 : Int32), I)
   ) else (
    bd (f_X9_goThrough p1 p2 p3 (-2 : Int32) I) (fun (r_3, I_3) =>
     some (r_3, I_3)
    )
   )
  )
def f_X9_take (p1 : Int32) (p2 : Int32) (p3 : Int32) (p4 : Int32) (p5 : Int32) (I : SI) : Option (Int32 × SI) :=
  bd (f_X9_noTable p1) (fun r_1 =>
   if r_1 = 0 then (
    bd (f_X9_isListed p2 p3 p4) (fun r_3 =>
     if r_3 = 0 then (
      some ((-2 : Int32), I)
     ) else (
      if 0 ≤ p5 then (
       if (100000 : Int32) < p5 then (
        some ((-3 : Int32), I)
       ) else (
        bd (f_X9_goThrough p2 p3 p4 p5 I) (fun (r_7, I_7) =>
         if r_7 = (p5 + (1 : Int32)) then (
          bd (f_X9_carry (6 : Int32) p1 I_7) (fun I_9 =>
           some ((1 : Int32), I_9)
          )
         ) else (
          some ((-3 : Int32), I_7)
         )
        )
       )
      ) else (
       some ((-2 : Int32), I)
      )
     )
    )
   ) else (
    some ((-2 : Int32), I)
   )
  )
def f_X9_letter (p1 : Int32) (I : SI) : Option (Int32 × SI) :=
  bd (f_X9_in (p1.toInt64) (0 : Int64) (4 : Int64)) (fun r_1 =>
   if r_1 = 0 then (
    some ((-2 : Int32), I)
   ) else (
    if (I 15 0) = (14 : Int32) then (
     some ((-3 : Int32), I)
    ) else (
     gd ((I 15 0) < 0 ∨ 14 ≤ (I 15 0).toNatClampNeg) (
     some (((sets (ups I 6 (I 15 0).toNatClampNeg p1) 15 (((ups I 6 (I 15 0).toNatClampNeg p1) 15 0) + (1 : Int32))) 15 0), (sets (ups I 6 (I 15 0).toNatClampNeg p1) 15 (((ups I 6 (I 15 0).toNatClampNeg p1) 15 0) + (1 : Int32))))
     )
    )
   )
  )
def f_X9_empty (I : SI) : Option (Int32 × SI) :=
  some ((I 15 0), (sets I 15 (0 : Int32)))
def lp_X9_start_2 (v2 : Int32) : Nat → Int32 → SJ → Option (SJ)
  | 0, _, _ => none
  | n + 1, v3, J =>
    if (5 : Int32) ≤ v3 then (
     some J
    ) else (
     if v3 = v2 then (
      gd (v3 < 0 ∨ 5 ≤ v3.toNatClampNeg) (
      lp_X9_start_2 v2 n (v3 + (1 : Int32)) (upj J 7 v3.toNatClampNeg (1 : Int64))
      )
     ) else (
      gd (v3 < 0 ∨ 5 ≤ v3.toNatClampNeg) (
      lp_X9_start_2 v2 n (v3 + (1 : Int32)) (upj J 7 v3.toNatClampNeg (0 : Int64))
      )
     )
    )
def f_X9_start (p1 : Int32) (p2 : Int32) (J : SJ) : Option (SJ) :=
  bd (lp_X9_start_2 p2 FU (0 : Int32) J) (fun J_5 =>
   some J_5
  )
def lp_X9_fuse_74 (v1 : Int32) (I : SI) : Nat → Int32 → SJ → Option (SJ)
  | 0, _, _ => none
  | n + 1, v3, J =>
    gd (v1 < 0 ∨ 7 ≤ v1.toNatClampNeg) (
    if (I 0 v1.toNatClampNeg) ≤ v3 then (
     some J
    ) else (
     gd (v3 < 0 ∨ 5 ≤ v3.toNatClampNeg) (
     gd (v3 < 0 ∨ 5 ≤ v3.toNatClampNeg) (
     lp_X9_fuse_74 v1 I n (v3 + (1 : Int32)) (upj J 7 v3.toNatClampNeg (J 8 v3.toNatClampNeg))
     )
     )
    )
    )
def lp_X9_fuse_22 (v1 : Int32) (v2 : Int32) (v3 : Int32) (I : SI) : Nat → Int32 → SJ → Option (SJ)
  | 0, _, _ => none
  | n + 1, v4, J =>
    gd (v1 < 0 ∨ 7 ≤ v1.toNatClampNeg) (
    if (I 0 v1.toNatClampNeg) ≤ v4 then (
     some J
    ) else (
     gd (v3 < 0 ∨ 5 ≤ v3.toNatClampNeg) (
     gd (v4 < 0 ∨ 5 ≤ v4.toNatClampNeg) (
     bd (f_X9_n v1 v4 v2 v3 I) (fun r_9 =>
      gd (v3 < 0 ∨ 5 ≤ v3.toNatClampNeg) (
      lp_X9_fuse_22 v1 v2 v3 I n (v4 + (1 : Int32)) (upj J 8 v3.toNatClampNeg ((J 8 v3.toNatClampNeg) + ((J 7 v4.toNatClampNeg) * (r_9.toInt64))))
      )
     )
     )
     )
    )
    )
def lp_X9_fuse_2 (v1 : Int32) (v2 : Int32) (I : SI) : Nat → Int32 → SJ → Option (SJ)
  | 0, _, _ => none
  | n + 1, v3, J =>
    gd (v1 < 0 ∨ 7 ≤ v1.toNatClampNeg) (
    if (I 0 v1.toNatClampNeg) ≤ v3 then (
     some J
    ) else (
     gd (v3 < 0 ∨ 5 ≤ v3.toNatClampNeg) (
     bd (lp_X9_fuse_22 v1 v2 v3 I FU (0 : Int32) (upj J 8 v3.toNatClampNeg (0 : Int64))) (fun J_14 =>
      lp_X9_fuse_2 v1 v2 I n (v3 + (1 : Int32)) J_14
     )
     )
    )
    )
def f_X9_fuse (p1 : Int32) (p2 : Int32) (I : SI) (J : SJ) : Option (SJ) :=
  bd (lp_X9_fuse_2 p1 p2 I FU (0 : Int32) J) (fun J_15 =>
   bd (lp_X9_fuse_74 p1 I FU (0 : Int32) J_15) (fun J_16 =>
    some J_16
   )
  )
def lp_X9_fused_28 (v1 : Int32) (v2 : Int32) (I : SI) : Nat → Int32 → SJ → Option (Nat × SJ)
  | 0, _, _ => none
  | n + 1, v3, J =>
    if (I 15 0) ≤ v3 then (
     some (1, J)
    ) else (
     gd (v3 < 0 ∨ 14 ≤ v3.toNatClampNeg) (
     bd (f_X9_isKind v1 (I 6 v3.toNatClampNeg) I) (fun r_3 =>
      if r_3 = 0 then (
       some (0, J)
      ) else (
       gd (v3 < 0 ∨ 14 ≤ v3.toNatClampNeg) (
       bd (f_X9_fuse v1 (I 6 v3.toNatClampNeg) I J) (fun J_6 =>
        lp_X9_fused_28 v1 v2 I n (v3 + (1 : Int32)) J_6
       )
       )
      )
     )
     )
    )
def f_X9_fused (p1 : Int32) (p2 : Int32) (I : SI) (J : SJ) : Option (Int64 × SJ) :=
  bd (f_X9_noTable p1) (fun r_7 =>
   if r_7 = 0 then (
    bd (f_X9_isKind p1 p2 I) (fun r_9 =>
     if r_9 = 0 then (
      some ((-2 : Int64), J)
     ) else (
      bd (f_X9_start p1 (0 : Int32) J) (fun J_11 =>
       bd (lp_X9_fused_28 p1 p2 I FU (0 : Int32) J_11) (fun (t_12, J_12) =>
        if t_12 = 0 then (
         some ((-2 : Int64), J_12)
        ) else (
         gd (p2 < 0 ∨ 5 ≤ p2.toNatClampNeg) (
         some ((J_12 7 p2.toNatClampNeg), J_12)
         )
        )
       )
      )
     )
    )
   ) else (
    some ((-2 : Int64), J)
   )
  )
def lp_X9_ways_61 (v1 : Int32) (v3 : Int32) (v4 : Int32) (v5 : Int32) (I : SI) : Nat → Int32 → SJ → Option (SJ)
  | 0, _, _ => none
  | n + 1, v6, J =>
    if v4 ≤ v6 then (
     some J
    ) else (
     bd (f_X9_fuse v1 v3 I J) (fun J_2 =>
      lp_X9_ways_61 v1 v3 v4 v5 I n (v6 + (1 : Int32)) J_2
     )
    )
def f_X9_ways (p1 : Int32) (p2 : Int32) (p3 : Int32) (p4 : Int32) (p5 : Int32) (I : SI) (J : SJ) : Option (Int64 × SJ) :=
  bd (f_X9_noTable p1) (fun r_3 =>
   if r_3 = 0 then (
    bd (f_X9_isKind p1 p2 I) (fun r_5 =>
     if r_5 = 0 then (
      some ((-2 : Int64), J)
     ) else (
      bd (f_X9_isKind p1 p3 I) (fun r_7 =>
       if r_7 = 0 then (
        some ((-2 : Int64), J)
       ) else (
        bd (f_X9_in (p4.toInt64) (0 : Int64) (12 : Int64)) (fun r_9 =>
         if r_9 = 0 then (
          some ((-2 : Int64), J)
         ) else (
          bd (f_X9_isKind p1 p5 I) (fun r_11 =>
           if r_11 = 0 then (
            some ((-2 : Int64), J)
           ) else (
            bd (f_X9_start p1 p2 J) (fun J_13 =>
             bd (lp_X9_ways_61 p1 p3 p4 p5 I FU (0 : Int32) J_13) (fun J_14 =>
              gd (p5 < 0 ∨ 5 ≤ p5.toNatClampNeg) (
              some ((J_14 7 p5.toNatClampNeg), J_14)
              )
             )
            )
           )
          )
         )
        )
       )
      )
     )
    )
   ) else (
    some ((-2 : Int64), J)
   )
  )
def lp_X9_close_70 (v1 : Int32) (v4 : Int32) (v5 : Int32) (v6 : Int32) (I : SI) : Nat → Int32 → Int32 → Option (Int32)
  | 0, _, _ => none
  | n + 1, v3, v7 =>
    gd (v1 < 0 ∨ 7 ≤ v1.toNatClampNeg) (
    if (I 0 v1.toNatClampNeg) ≤ v7 then (
     some v3
    ) else (
     if ((v4 >>> (v6 &&& 31)) &&& (1 : Int32)) = (1 : Int32) then (
      bd (f_X9_n v1 v5 v6 v7 I) (fun r_4 =>
       if r_4 ≤ 0 then (
        lp_X9_close_70 v1 v4 v5 v6 I n (v3 ||| (0 : Int32)) (v7 + (1 : Int32))
       ) else (
        lp_X9_close_70 v1 v4 v5 v6 I n (v3 ||| ((1 : Int32) <<< (v7 &&& 31))) (v7 + (1 : Int32))
       )
      )
     ) else (
      lp_X9_close_70 v1 v4 v5 v6 I n (v3 ||| (0 : Int32)) (v7 + (1 : Int32))
     )
    )
    )
def lp_X9_close_56 (v1 : Int32) (v4 : Int32) (v5 : Int32) (I : SI) : Nat → Int32 → Int32 → Option (Int32)
  | 0, _, _ => none
  | n + 1, v3, v6 =>
    gd (v1 < 0 ∨ 7 ≤ v1.toNatClampNeg) (
    if (I 0 v1.toNatClampNeg) ≤ v6 then (
     some v3
    ) else (
     bd (lp_X9_close_70 v1 v4 v5 v6 I FU v3 (0 : Int32)) (fun w3_8 =>
      lp_X9_close_56 v1 v4 v5 I n w3_8 (v6 + (1 : Int32))
     )
    )
    )
def lp_X9_close_19 (v1 : Int32) (v4 : Int32) (I : SI) : Nat → Int32 → Int32 → Option (Int32)
  | 0, _, _ => none
  | n + 1, v3, v5 =>
    gd (v1 < 0 ∨ 7 ≤ v1.toNatClampNeg) (
    if (I 0 v1.toNatClampNeg) ≤ v5 then (
     some v3
    ) else (
     if ((v4 >>> (v5 &&& 31)) &&& (1 : Int32)) = (1 : Int32) then (
      gd (v5 < 0 ∨ 5 ≤ v5.toNatClampNeg) (
      bd (lp_X9_close_56 v1 v4 v5 I FU (v3 ||| ((1 : Int32) <<< ((I 3 v5.toNatClampNeg) &&& 31))) (0 : Int32)) (fun w3_13 =>
       lp_X9_close_19 v1 v4 I n w3_13 (v5 + (1 : Int32))
      )
      )
     ) else (
      lp_X9_close_19 v1 v4 I n v3 (v5 + (1 : Int32))
     )
    )
    )
def lp_X9_close_7 (v1 : Int32) (I : SI) : Nat → Int32 → Int32 → Option (Int32)
  | 0, _, _ => none
  | n + 1, v3, v4 =>
    if v3 = v4 then (
     some v3
    ) else (
     bd (lp_X9_close_19 v1 v3 I FU v3 (0 : Int32)) (fun w3_15 =>
      lp_X9_close_7 v1 I n w3_15 v3
     )
    )
def f_X9_close (p1 : Int32) (p2 : Int32) (I : SI) : Option (Int32) :=
  bd (lp_X9_close_7 p1 I FU (p2 ||| (1 : Int32)) (0 : Int32)) (fun w3_16 =>
   some w3_16
  )
def f_X9_isSet (p1 : Int32) (p2 : Int32) (p3 : Int32) (I : SI) : Option (Int32) :=
  gd (p1 < 0 ∨ 7 ≤ p1.toNatClampNeg) (
  bd (f_X9_in (p2.toInt64) (p3.toInt64) ((((1 : Int32) <<< ((I 0 p1.toNatClampNeg) &&& 31)) - (1 : Int32)).toInt64)) (fun r_2 =>
   gd (¬ (r_2 = 0 ∨ r_2 = 1)) (
   some r_2
   )
  )
  )
def f_X9_closed (p1 : Int32) (p2 : Int32) (I : SI) : Option (Int32 × SI) :=
  bd (f_X9_noTable p1) (fun r_1 =>
   if r_1 = 0 then (
    bd (f_X9_isSet p1 p2 (1 : Int32) I) (fun r_3 =>
     if r_3 = 0 then (
      some ((-2 : Int32), I)
     ) else (
      bd (f_X9_isRight p1 I) (fun (r_5, I_5) =>
       if r_5 = 0 then (
        some ((-3 : Int32), I_5)
       ) else (
        bd (f_X9_close p1 p2 I_5) (fun r_7 =>
         if r_7 = p2 then (
          some ((1 : Int32), I_5)
         ) else (
          some ((0 : Int32), I_5)
         )
        )
       )
      )
     )
    )
   ) else (
    some ((-2 : Int32), I)
   )
  )
def f_X9_least (p1 : Int32) (p2 : Int32) (I : SI) : Option (Int32 × SI) :=
  bd (f_X9_noTable p1) (fun r_1 =>
   if r_1 = 0 then (
    bd (f_X9_isSet p1 p2 (0 : Int32) I) (fun r_3 =>
     if r_3 = 0 then (
      some ((-2 : Int32), I)
     ) else (
      bd (f_X9_isRight p1 I) (fun (r_5, I_5) =>
       if r_5 = 0 then (
        some ((-3 : Int32), I_5)
       ) else (
        bd (f_X9_close p1 p2 I_5) (fun r_7 =>
         some (r_7, I_5)
        )
       )
      )
     )
    )
   ) else (
    some ((-2 : Int32), I)
   )
  )
def lp_X9_coreOf_17 (v1 : Int32) (v3 : Int32) (I : SI) : Nat → Int32 → Int32 → Option (Int32)
  | 0, _, _ => none
  | n + 1, v2, v4 =>
    gd (v1 < 0 ∨ 7 ≤ v1.toNatClampNeg) (
    if (I 0 v1.toNatClampNeg) ≤ v4 then (
     some v2
    ) else (
     gd (v3 < 0 ∨ 5 ≤ v3.toNatClampNeg) (
     bd (f_X9_n v1 v3 (I 3 v3.toNatClampNeg) v4 I) (fun r_4 =>
      if r_4 ≤ 0 then (
       lp_X9_coreOf_17 v1 v3 I n (v2 ||| (0 : Int32)) (v4 + (1 : Int32))
      ) else (
       lp_X9_coreOf_17 v1 v3 I n (v2 ||| ((1 : Int32) <<< (v4 &&& 31))) (v4 + (1 : Int32))
      )
     )
     )
    )
    )
def lp_X9_coreOf_4 (v1 : Int32) (I : SI) : Nat → Int32 → Int32 → Option (Int32)
  | 0, _, _ => none
  | n + 1, v2, v3 =>
    gd (v1 < 0 ∨ 7 ≤ v1.toNatClampNeg) (
    if (I 0 v1.toNatClampNeg) ≤ v3 then (
     some v2
    ) else (
     bd (lp_X9_coreOf_17 v1 v3 I FU v2 (0 : Int32)) (fun w2_8 =>
      lp_X9_coreOf_4 v1 I n w2_8 (v3 + (1 : Int32))
     )
    )
    )
def f_X9_coreOf (p1 : Int32) (I : SI) : Option (Int32) :=
  bd (lp_X9_coreOf_4 p1 I FU (0 : Int32) (0 : Int32)) (fun w2_9 =>
   bd (f_X9_close p1 w2_9 I) (fun r_10 =>
    some r_10
   )
  )
def f_X9_core (p1 : Int32) (I : SI) : Option (Int32 × SI) :=
  bd (f_X9_noTable p1) (fun r_1 =>
   if r_1 = 0 then (
    bd (f_X9_isRight p1 I) (fun (r_3, I_3) =>
     if r_3 = 0 then (
      some ((-3 : Int32), I_3)
     ) else (
      bd (f_X9_coreOf p1 I_3) (fun r_5 =>
       some (r_5, I_3)
      )
     )
    )
   ) else (
    some ((-2 : Int32), I)
   )
  )
def lp_X9_grade_60 (v1 : Int32) (v2 : Int32) (v3 : Int32) (v4 : Int32) (v5 : Int32) (I : SI) : Nat → Int32 → Int32 → Option (Int32)
  | 0, _, _ => none
  | n + 1, v6, v7 =>
    gd (v1 < 0 ∨ 7 ≤ v1.toNatClampNeg) (
    if (I 0 v1.toNatClampNeg) ≤ v7 then (
     some v6
    ) else (
     if v6 = 0 then (
      if ((v3 >>> (v7 &&& 31)) &&& (1 : Int32)) = (1 : Int32) then (
       bd (f_X9_n v1 v2 v7 v5 I) (fun r_5 =>
        if r_5 ≤ 0 then (
         lp_X9_grade_60 v1 v2 v3 v4 v5 I n (0 : Int32) (v7 + (1 : Int32))
        ) else (
         lp_X9_grade_60 v1 v2 v3 v4 v5 I n (1 : Int32) (v7 + (1 : Int32))
        )
       )
      ) else (
       lp_X9_grade_60 v1 v2 v3 v4 v5 I n (0 : Int32) (v7 + (1 : Int32))
      )
     ) else (
      lp_X9_grade_60 v1 v2 v3 v4 v5 I n (1 : Int32) (v7 + (1 : Int32))
     )
    )
    )
def lp_X9_grade_49 (v1 : Int32) (v2 : Int32) (v3 : Int32) (I : SI) : Nat → Int32 → Int32 → Option (Int32)
  | 0, _, _ => none
  | n + 1, v4, v5 =>
    if v5 < 0 then (
     some v4
    ) else (
     bd (lp_X9_grade_60 v1 v2 v3 v4 v5 I FU (0 : Int32) (0 : Int32)) (fun w6_8 =>
      if w6_8 = 0 then (
       lp_X9_grade_49 v1 v2 v3 I n v4 (v5 + (-1 : Int32))
      ) else (
       lp_X9_grade_49 v1 v2 v3 I n v5 (v5 + (-1 : Int32))
      )
     )
    )
def f_X9_grade (p1 : Int32) (p2 : Int32) (I : SI) : Option (Int32 × SI) :=
  bd (f_X9_noTable p1) (fun r_10 =>
   if r_10 = 0 then (
    bd (f_X9_isKind p1 p2 I) (fun r_12 =>
     if r_12 = 0 then (
      some ((-2 : Int32), I)
     ) else (
      bd (f_X9_isRight p1 I) (fun (r_14, I_14) =>
       if r_14 = 0 then (
        some ((-3 : Int32), I_14)
       ) else (
        bd (f_X9_coreOf p1 I_14) (fun r_16 =>
         gd (p1 < 0 ∨ 7 ≤ p1.toNatClampNeg) (
         bd (lp_X9_grade_49 p1 p2 r_16 I_14 FU p2 ((I_14 0 p1.toNatClampNeg) - (1 : Int32))) (fun w4_18 =>
          some (w4_18, I_14)
         )
         )
        )
       )
      )
     )
    )
   ) else (
    some ((-2 : Int32), I)
   )
  )
def lp_X9_within_25 (v1 : Int32) (I : SI) : Nat → Int32 → Int32 → Option (Int32)
  | 0, _, _ => none
  | n + 1, v2, v3 =>
    gd (v1 < 0 ∨ 7 ≤ v1.toNatClampNeg) (
    if ((1 : Int32) <<< ((I 0 v1.toNatClampNeg) &&& 31)) ≤ v3 then (
     some v2
    ) else (
     bd (f_X9_close v1 v3 I) (fun r_3 =>
      if r_3 = v3 then (
       lp_X9_within_25 v1 I n (v2 + (1 : Int32)) (v3 + (1 : Int32))
      ) else (
       lp_X9_within_25 v1 I n (v2 + (0 : Int32)) (v3 + (1 : Int32))
      )
     )
    )
    )
def f_X9_within (p1 : Int32) (I : SI) : Option (Int32 × SI) :=
  bd (f_X9_noTable p1) (fun r_5 =>
   if r_5 = 0 then (
    bd (f_X9_isRight p1 I) (fun (r_7, I_7) =>
     if r_7 = 0 then (
      some ((-3 : Int32), I_7)
     ) else (
      bd (lp_X9_within_25 p1 I_7 FU (0 : Int32) (1 : Int32)) (fun w2_9 =>
       some (w2_9, I_7)
      )
     )
    )
   ) else (
    some ((-2 : Int32), I)
   )
  )
def lp_X9_layNaming_15 (v1 : Int32) : Nat → Int32 → Int32 → Int32 → SI → Option (Int32 × SI)
  | 0, _, _, _, _ => none
  | n + 1, v3, v4, v5, I =>
    if v1 ≤ v5 then (
     some (v4, I)
    ) else (
     gd (v1 = 0) (
     gd (v5 < 0 ∨ 5 ≤ v5.toNatClampNeg) (
     gd (v1 = 0) (
     gd (v5 < 0 ∨ 5 ≤ v5.toNatClampNeg) (
     lp_X9_layNaming_15 v1 n (v3 / v1) (v4 ||| ((1 : Int32) <<< (((ups I 9 v5.toNatClampNeg (v3 - v3 / v1 * v1)) 9 v5.toNatClampNeg) &&& 31))) (v5 + (1 : Int32)) (ups I 9 v5.toNatClampNeg (v3 - v3 / v1 * v1))
     )
     )
     )
     )
    )
def f_X9_layNaming (p1 : Int32) (p2 : Int32) (I : SI) : Option (Int32 × SI) :=
  bd (lp_X9_layNaming_15 p1 FU p2 (1 : Int32) (1 : Int32) (ups I 9 (0 : Int32).toNatClampNeg (0 : Int32))) (fun (w4_6, I_6) =>
   if w4_6 = (((1 : Int32) <<< (p1 &&& 31)) - (1 : Int32)) then (
    some ((1 : Int32), I_6)
   ) else (
    some ((0 : Int32), I_6)
   )
  )
def lp_X9_isLike_33 (v1 : Int32) (v2 : Int32) (v4 : Int32) (v5 : Int32) (I : SI) : Nat → Int32 → Int32 → Option (Int32)
  | 0, _, _ => none
  | n + 1, v3, v6 =>
    gd (v1 < 0 ∨ 7 ≤ v1.toNatClampNeg) (
    if (I 0 v1.toNatClampNeg) ≤ v6 then (
     some v3
    ) else (
     if v3 = 0 then (
      lp_X9_isLike_33 v1 v2 v4 v5 I n (0 : Int32) (v6 + (1 : Int32))
     ) else (
      bd (f_X9_n v1 v4 v5 v6 I) (fun r_4 =>
       gd (v4 < 0 ∨ 5 ≤ v4.toNatClampNeg) (
       gd (v5 < 0 ∨ 5 ≤ v5.toNatClampNeg) (
       gd (v6 < 0 ∨ 5 ≤ v6.toNatClampNeg) (
       bd (f_X9_n v2 (I 9 v4.toNatClampNeg) (I 9 v5.toNatClampNeg) (I 9 v6.toNatClampNeg) I) (fun r_8 =>
        if r_4 = r_8 then (
         lp_X9_isLike_33 v1 v2 v4 v5 I n (1 : Int32) (v6 + (1 : Int32))
        ) else (
         lp_X9_isLike_33 v1 v2 v4 v5 I n (0 : Int32) (v6 + (1 : Int32))
        )
       )
       )
       )
       )
      )
     )
    )
    )
def lp_X9_isLike_19 (v1 : Int32) (v2 : Int32) (v4 : Int32) (I : SI) : Nat → Int32 → Int32 → Option (Int32)
  | 0, _, _ => none
  | n + 1, v3, v5 =>
    gd (v1 < 0 ∨ 7 ≤ v1.toNatClampNeg) (
    if (I 0 v1.toNatClampNeg) ≤ v5 then (
     some v3
    ) else (
     bd (lp_X9_isLike_33 v1 v2 v4 v5 I FU v3 (0 : Int32)) (fun w3_12 =>
      lp_X9_isLike_19 v1 v2 v4 I n w3_12 (v5 + (1 : Int32))
     )
    )
    )
def lp_X9_isLike_5 (v1 : Int32) (v2 : Int32) (I : SI) : Nat → Int32 → Int32 → Option (Int32)
  | 0, _, _ => none
  | n + 1, v3, v4 =>
    gd (v1 < 0 ∨ 7 ≤ v1.toNatClampNeg) (
    if (I 0 v1.toNatClampNeg) ≤ v4 then (
     some v3
    ) else (
     bd (lp_X9_isLike_19 v1 v2 v4 I FU v3 (0 : Int32)) (fun w3_15 =>
      lp_X9_isLike_5 v1 v2 I n w3_15 (v4 + (1 : Int32))
     )
    )
    )
def f_X9_isLike (p1 : Int32) (p2 : Int32) (I : SI) : Option (Int32) :=
  bd (lp_X9_isLike_5 p1 p2 I FU (1 : Int32) (0 : Int32)) (fun w3_16 =>
   gd (¬ (w3_16 = 0 ∨ w3_16 = 1)) (
   some w3_16
   )
  )
def lp_X9_like_42 (v1 : Int32) (v2 : Int32) (v3 : Int32) : Nat → Int32 → Int32 → Option (Int32)
  | 0, _, _ => none
  | n + 1, v4, v5 =>
    if v3 ≤ v5 then (
     some v4
    ) else (
     lp_X9_like_42 v1 v2 v3 n (v4 * v3) (v5 + (1 : Int32))
    )
def lp_X9_like_66 (v1 : Int32) (v2 : Int32) (v3 : Int32) (v4 : Int32) : Nat → Int32 → Int32 → SI → Option (Int32 × SI)
  | 0, _, _, _ => none
  | n + 1, v5, v6, I =>
    if v4 ≤ v6 then (
     some (v5, I)
    ) else (
     bd (f_X9_layNaming v3 v6 I) (fun (r_3, I_3) =>
      if r_3 = 0 then (
       lp_X9_like_66 v1 v2 v3 v4 n (v5 + (0 : Int32)) (v6 + (1 : Int32)) I_3
      ) else (
       bd (f_X9_isLike v1 v2 I_3) (fun r_5 =>
        if r_5 = 0 then (
         lp_X9_like_66 v1 v2 v3 v4 n (v5 + (0 : Int32)) (v6 + (1 : Int32)) I_3
        ) else (
         lp_X9_like_66 v1 v2 v3 v4 n (v5 + (1 : Int32)) (v6 + (1 : Int32)) I_3
        )
       )
      )
     )
    )
def f_X9_like (p1 : Int32) (p2 : Int32) (I : SI) : Option (Int32 × SI) :=
  bd (f_X9_noTable p1) (fun r_7 =>
   if r_7 = 0 then (
    bd (f_X9_noTable p2) (fun r_9 =>
     if r_9 = 0 then (
      gd (p1 < 0 ∨ 7 ≤ p1.toNatClampNeg) (
      gd (p2 < 0 ∨ 7 ≤ p2.toNatClampNeg) (
      if (I 0 p1.toNatClampNeg) = (I 0 p2.toNatClampNeg) then (
       bd (lp_X9_like_42 p1 p2 (I 0 p1.toNatClampNeg) FU (1 : Int32) (1 : Int32)) (fun w4_14 =>
        bd (lp_X9_like_66 p1 p2 (I 0 p1.toNatClampNeg) w4_14 FU (0 : Int32) (0 : Int32) I) (fun (w5_15, I_15) =>
         some (w5_15, I_15)
        )
       )
      ) else (
       some ((0 : Int32), I)
      )
      )
      )
     ) else (
      some ((-2 : Int32), I)
     )
    )
   ) else (
    some ((-2 : Int32), I)
   )
  )
def f_X9_isPrime (p0 : Int32) : Option (Int32) :=
  if p0 = (2 : Int32) then (
   some (1 : Int32)
  ) else (
   if p0 = (3 : Int32) then (
    some (1 : Int32)
   ) else (
    if p0 = (5 : Int32) then (
     some (1 : Int32)
    ) else (
     if p0 = (7 : Int32) then (
      some (1 : Int32)
     ) else (
      if p0 = (11 : Int32) then (
       some (1 : Int32)
      ) else (
       if p0 = (13 : Int32) then (
        some (1 : Int32)
       ) else (
        some (0 : Int32)
       )
      )
     )
    )
   )
  )
def lp_X9_isMap_45 (v1 : Int32) (v2 : Int32) (v3 : Int32) (v4 : Int32) (I : SI) : Nat → Int32 → Int32 → Option (Int32)
  | 0, _, _ => none
  | n + 1, v5, v6 =>
    gd (v1 < 0 ∨ 7 ≤ v1.toNatClampNeg) (
    if (I 0 v1.toNatClampNeg) ≤ v6 then (
     some v5
    ) else (
     bd (f_X9_n v1 v3 v4 v6 I) (fun r_3 =>
      gd (v6 < 0 ∨ 5 ≤ v6.toNatClampNeg) (
      lp_X9_isMap_45 v1 v2 v3 v4 I n (v5 - (r_3 * (I 10 v6.toNatClampNeg))) (v6 + (1 : Int32))
      )
     )
    )
    )
def lp_X9_isMap_15 (v1 : Int32) (v2 : Int32) (v3 : Int32) (I : SI) : Nat → Int32 → Option (Nat)
  | 0, _ => none
  | n + 1, v4 =>
    gd (v1 < 0 ∨ 7 ≤ v1.toNatClampNeg) (
    if (I 0 v1.toNatClampNeg) ≤ v4 then (
     some 1
    ) else (
     gd (v3 < 0 ∨ 5 ≤ v3.toNatClampNeg) (
     gd (v4 < 0 ∨ 5 ≤ v4.toNatClampNeg) (
     bd (lp_X9_isMap_45 v1 v2 v3 v4 I FU ((I 10 v3.toNatClampNeg) * (I 10 v4.toNatClampNeg)) (0 : Int32)) (fun w5_9 =>
      gd (v2 = 0) (
      if (w5_9 - w5_9 / v2 * v2) = 0 then (
       lp_X9_isMap_15 v1 v2 v3 I n (v4 + (1 : Int32))
      ) else (
       some 0
      )
      )
     )
     )
     )
    )
    )
def lp_X9_isMap_2 (v1 : Int32) (v2 : Int32) (I : SI) : Nat → Int32 → Option (Nat)
  | 0, _ => none
  | n + 1, v3 =>
    gd (v1 < 0 ∨ 7 ≤ v1.toNatClampNeg) (
    if (I 0 v1.toNatClampNeg) ≤ v3 then (
     some 1
    ) else (
     bd (lp_X9_isMap_15 v1 v2 v3 I FU (0 : Int32)) (fun t_14 =>
      if t_14 = 0 then (
       some 0
      ) else (
       lp_X9_isMap_2 v1 v2 I n (v3 + (1 : Int32))
      )
     )
    )
    )
def f_X9_isMap (p1 : Int32) (p2 : Int32) (I : SI) : Option (Int32) :=
  bd (lp_X9_isMap_2 p1 p2 I FU (0 : Int32)) (fun t_15 =>
   if t_15 = 0 then (
    some (0 : Int32)
   ) else (
    some (1 : Int32)
   )
  )
def lp_X9_findMaps_6 (v1 : Int32) (v2 : Int32) (v3 : Int32) (I : SI) : Nat → Int32 → Int32 → Option (Int32)
  | 0, _, _ => none
  | n + 1, v4, v5 =>
    gd (v1 < 0 ∨ 7 ≤ v1.toNatClampNeg) (
    if (I 0 v1.toNatClampNeg) ≤ v5 then (
     some v4
    ) else (
     lp_X9_findMaps_6 v1 v2 v3 I n (v4 * v2) (v5 + (1 : Int32))
    )
    )
def lp_X9_findMaps_71 (v1 : Int32) (v2 : Int32) (v3 : Int32) (v4 : Int32) (v5 : Int32) (v6 : Int32) : Nat → Int32 → Int32 → SI → Option (SI)
  | 0, _, _, _ => none
  | n + 1, v7, v8, I =>
    if v8 ≤ 0 then (
     some I
    ) else (
     gd (v2 = 0) (
     gd (v8 < 0 ∨ 5 ≤ v8.toNatClampNeg) (
     gd (v2 = 0) (
     lp_X9_findMaps_71 v1 v2 v3 v4 v5 v6 n (v7 / v2) (v8 + (-1 : Int32)) (ups I 10 v8.toNatClampNeg (v7 - v7 / v2 * v2))
     )
     )
     )
    )
def lp_X9_findMaps_35 (v1 : Int32) (v2 : Int32) (v3 : Int32) (v4 : Int32) : Nat → Int32 → Int32 → SI → Option (Int32 × SI)
  | 0, _, _, _ => none
  | n + 1, v5, v6, I =>
    if v4 ≤ v6 then (
     some (v5, I)
    ) else (
     if v5 = (v3 + (1 : Int32)) then (
      some (v5, I)
     ) else (
      gd (v1 < 0 ∨ 7 ≤ v1.toNatClampNeg) (
      bd (lp_X9_findMaps_71 v1 v2 v3 v4 v5 v6 FU v6 (((ups I 10 (0 : Int32).toNatClampNeg (1 : Int32)) 0 v1.toNatClampNeg) - (1 : Int32)) (ups I 10 (0 : Int32).toNatClampNeg (1 : Int32))) (fun I_10 =>
       bd (f_X9_isMap v1 v2 I_10) (fun r_11 =>
        if r_11 = 0 then (
         lp_X9_findMaps_35 v1 v2 v3 v4 n (v5 + (0 : Int32)) (v6 + (1 : Int32)) I_10
        ) else (
         lp_X9_findMaps_35 v1 v2 v3 v4 n (v5 + (1 : Int32)) (v6 + (1 : Int32)) I_10
        )
       )
      )
      )
     )
    )
def f_X9_findMaps (p1 : Int32) (p2 : Int32) (p3 : Int32) (I : SI) : Option (Int32 × SI) :=
  bd (lp_X9_findMaps_6 p1 p2 p3 I FU (1 : Int32) (1 : Int32)) (fun w4_13 =>
   bd (lp_X9_findMaps_35 p1 p2 p3 w4_13 FU (0 : Int32) (0 : Int32) I) (fun (w5_14, I_14) =>
    some (w5_14, I_14)
   )
  )
def f_X9_maps (p1 : Int32) (p2 : Int32) (I : SI) : Option (Int32 × SI) :=
  bd (f_X9_noTable p1) (fun r_1 =>
   if r_1 = 0 then (
    bd (f_X9_isPrime p2) (fun r_3 =>
     if r_3 = 0 then (
      some ((-2 : Int32), I)
     ) else (
      bd (f_X9_isRight p1 I) (fun (r_5, I_5) =>
       if r_5 = 0 then (
        some ((-3 : Int32), I_5)
       ) else (
        bd (f_X9_findMaps p1 p2 (-2 : Int32) I_5) (fun (r_7, I_7) =>
         some (r_7, I_7)
        )
       )
      )
     )
    )
   ) else (
    some ((-2 : Int32), I)
   )
  )
def f_X9_map (p1 : Int32) (p2 : Int32) (p3 : Int32) (p4 : Int32) (I : SI) : Option (Int32 × SI) :=
  bd (f_X9_noTable p1) (fun r_1 =>
   if r_1 = 0 then (
    bd (f_X9_isPrime p2) (fun r_3 =>
     if r_3 = 0 then (
      some ((-2 : Int32), I)
     ) else (
      if p3 < 0 then (
       some ((-2 : Int32), I)
      ) else (
       bd (f_X9_isKind p1 p4 I) (fun r_6 =>
        if r_6 = 0 then (
         some ((-2 : Int32), I)
        ) else (
         bd (f_X9_isRight p1 I) (fun (r_8, I_8) =>
          if r_8 = 0 then (
           some ((-3 : Int32), I_8)
          ) else (
           if (100000 : Int32) ≤ p3 then (
            some ((-1 : Int32), I_8)
           ) else (
            bd (f_X9_findMaps p1 p2 p3 I_8) (fun (r_11, I_11) =>
             if r_11 = (p3 + (1 : Int32)) then (
              gd (p4 < 0 ∨ 5 ≤ p4.toNatClampNeg) (
              some ((I_11 10 p4.toNatClampNeg), I_11)
              )
             ) else (
              some ((-1 : Int32), I_11)
             )
            )
           )
          )
         )
        )
       )
      )
     )
    )
   ) else (
    some ((-2 : Int32), I)
   )
  )
def lp_X9_layLines_32 (v1 : Int32) (v2 : Int32) (v3 : Int32) (v4 : Int32) (I : SI) : Nat → Int32 → Int32 → Option (Int32)
  | 0, _, _ => none
  | n + 1, v5, v6 =>
    gd (v1 < 0 ∨ 7 ≤ v1.toNatClampNeg) (
    if (I 0 v1.toNatClampNeg) ≤ v6 then (
     some v5
    ) else (
     bd (f_X9_n v1 v6 v3 v4 I) (fun r_3 =>
      lp_X9_layLines_32 v1 v2 v3 v4 I n (v5 + r_3) (v6 + (1 : Int32))
     )
    )
    )
def lp_X9_layLines_15 (v1 : Int32) (v2 : Int32) (v3 : Int32) : Nat → Int32 → SI → Option (SI)
  | 0, _, _ => none
  | n + 1, v4, I =>
    gd (v1 < 0 ∨ 7 ≤ v1.toNatClampNeg) (
    if (I 0 v1.toNatClampNeg) ≤ v4 then (
     some I
    ) else (
     bd (lp_X9_layLines_32 v1 v2 v3 v4 I FU (0 : Int32) (0 : Int32)) (fun w5_6 =>
      if v3 = v4 then (
       gd ((((5 : Int32) * v3) + v4) < 0 ∨ 25 ≤ (((5 : Int32) * v3) + v4).toNatClampNeg) (
       lp_X9_layLines_15 v1 v2 v3 n (v4 + (1 : Int32)) (ups I 11 (((5 : Int32) * v3) + v4).toNatClampNeg (v2 - ((10 : Int32) * w5_6)))
       )
      ) else (
       gd ((((5 : Int32) * v3) + v4) < 0 ∨ 25 ≤ (((5 : Int32) * v3) + v4).toNatClampNeg) (
       lp_X9_layLines_15 v1 v2 v3 n (v4 + (1 : Int32)) (ups I 11 (((5 : Int32) * v3) + v4).toNatClampNeg ((0 : Int32) - ((10 : Int32) * w5_6)))
       )
      )
     )
    )
    )
def lp_X9_layLines_2 (v1 : Int32) (v2 : Int32) : Nat → Int32 → SI → Option (SI)
  | 0, _, _ => none
  | n + 1, v3, I =>
    gd (v1 < 0 ∨ 7 ≤ v1.toNatClampNeg) (
    if (I 0 v1.toNatClampNeg) ≤ v3 then (
     some I
    ) else (
     bd (lp_X9_layLines_15 v1 v2 v3 FU (0 : Int32) I) (fun I_12 =>
      lp_X9_layLines_2 v1 v2 n (v3 + (1 : Int32)) I_12
     )
    )
    )
def f_X9_layLines (p1 : Int32) (p2 : Int32) (I : SI) : Option (SI) :=
  bd (lp_X9_layLines_2 p1 p2 FU (0 : Int32) I) (fun I_13 =>
   some I_13
  )
def lp_X9_layTurn_31 (v1 : Int32) (v3 : Int32) (v5 : Int32) (I : SI) : Nat → Int32 → Int32 → Option (Int32)
  | 0, _, _ => none
  | n + 1, v4, v6 =>
    if v5 ≤ v6 then (
     some v4
    ) else (
     gd (v6 < 0 ∨ 5 ≤ v6.toNatClampNeg) (
     gd (v5 < 0 ∨ 5 ≤ v5.toNatClampNeg) (
     if (I 12 v6.toNatClampNeg) = (I 12 v5.toNatClampNeg) then (
      lp_X9_layTurn_31 v1 v3 v5 I n (0 : Int32) (v6 + (1 : Int32))
     ) else (
      gd (v6 < 0 ∨ 5 ≤ v6.toNatClampNeg) (
      gd (v5 < 0 ∨ 5 ≤ v5.toNatClampNeg) (
      if (I 12 v6.toNatClampNeg) ≤ (I 12 v5.toNatClampNeg) then (
       lp_X9_layTurn_31 v1 v3 v5 I n v4 (v6 + (1 : Int32))
      ) else (
       lp_X9_layTurn_31 v1 v3 v5 I n ((0 : Int32) - v4) (v6 + (1 : Int32))
      )
      )
      )
     )
     )
     )
    )
def lp_X9_layTurn_8 (v1 : Int32) : Nat → Int32 → Int32 → Int32 → SI → Option (Int32 × SI)
  | 0, _, _, _, _ => none
  | n + 1, v3, v4, v5, I =>
    if v1 ≤ v5 then (
     some (v4, I)
    ) else (
     gd (v1 = 0) (
     gd (v5 < 0 ∨ 5 ≤ v5.toNatClampNeg) (
     gd (v1 = 0) (
     bd (lp_X9_layTurn_31 v1 (v3 / v1) v5 (ups I 12 v5.toNatClampNeg (v3 - v3 / v1 * v1)) FU v4 (0 : Int32)) (fun w4_12 =>
      lp_X9_layTurn_8 v1 n (v3 / v1) w4_12 (v5 + (1 : Int32)) (ups I 12 v5.toNatClampNeg (v3 - v3 / v1 * v1))
     )
     )
     )
     )
    )
def f_X9_layTurn (p1 : Int32) (p2 : Int32) (I : SI) : Option (Int32 × SI) :=
  bd (lp_X9_layTurn_8 p1 FU p2 (1 : Int32) (0 : Int32) I) (fun (w4_13, I_13) =>
   some (w4_13, I_13)
  )
def lp_X9_isAbove_11 (v1 : Int32) (v2 : Int64) (v4 : Int64) : Nat → Int32 → Int32 → Option (Int32)
  | 0, _, _ => none
  | n + 1, v6, v7 =>
    if v1 ≤ v7 then (
     some v6
    ) else (
     lp_X9_isAbove_11 v1 v2 v4 n (v6 * v1) (v7 + (1 : Int32))
    )
def lp_X9_isAbove_64 (v1 : Int32) (v2 : Int64) (v4 : Int64) (v6 : Int32) (v7 : Int32) (I : SI) : Nat → Int64 → Int64 → Int32 → Option (Int64 × Int64)
  | 0, _, _, _ => none
  | n + 1, v9, v11, v13 =>
    if v1 ≤ v13 then (
     some (v9, v11)
    ) else (
     if (3 : Int32) ≤ v13 then (
      if (3 : Int32) ≤ v13 then (
       gd (v13 < 0 ∨ 5 ≤ v13.toNatClampNeg) (
       gd ((((5 : Int32) * v13) + (I 12 v13.toNatClampNeg)) < 0 ∨ 25 ≤ (((5 : Int32) * v13) + (I 12 v13.toNatClampNeg)).toNatClampNeg) (
       lp_X9_isAbove_64 v1 v2 v4 v6 v7 I n (v9 * (1 : Int64)) (v11 * ((I 11 (((5 : Int32) * v13) + (I 12 v13.toNatClampNeg)).toNatClampNeg).toInt64)) (v13 + (1 : Int32))
       )
       )
      ) else (
       lp_X9_isAbove_64 v1 v2 v4 v6 v7 I n (v9 * (1 : Int64)) (v11 * (1 : Int64)) (v13 + (1 : Int32))
      )
     ) else (
      gd (v13 < 0 ∨ 5 ≤ v13.toNatClampNeg) (
      gd ((((5 : Int32) * v13) + (I 12 v13.toNatClampNeg)) < 0 ∨ 25 ≤ (((5 : Int32) * v13) + (I 12 v13.toNatClampNeg)).toNatClampNeg) (
      if (3 : Int32) ≤ v13 then (
       gd (v13 < 0 ∨ 5 ≤ v13.toNatClampNeg) (
       gd ((((5 : Int32) * v13) + (I 12 v13.toNatClampNeg)) < 0 ∨ 25 ≤ (((5 : Int32) * v13) + (I 12 v13.toNatClampNeg)).toNatClampNeg) (
       lp_X9_isAbove_64 v1 v2 v4 v6 v7 I n (v9 * ((I 11 (((5 : Int32) * v13) + (I 12 v13.toNatClampNeg)).toNatClampNeg).toInt64)) (v11 * ((I 11 (((5 : Int32) * v13) + (I 12 v13.toNatClampNeg)).toNatClampNeg).toInt64)) (v13 + (1 : Int32))
       )
       )
      ) else (
       lp_X9_isAbove_64 v1 v2 v4 v6 v7 I n (v9 * ((I 11 (((5 : Int32) * v13) + (I 12 v13.toNatClampNeg)).toNatClampNeg).toInt64)) (v11 * (1 : Int64)) (v13 + (1 : Int32))
      )
      )
      )
     )
    )
def lp_X9_isAbove_32 (v1 : Int32) (v6 : Int32) : Nat → Int64 → Int64 → Int32 → SI → Option (Int64 × Int64 × SI)
  | 0, _, _, _, _ => none
  | n + 1, v2, v4, v7, I =>
    if v6 ≤ v7 then (
     some (v2, v4, I)
    ) else (
     bd (f_X9_layTurn v1 v7 I) (fun (r_13, I_13) =>
      if r_13 = 0 then (
       lp_X9_isAbove_32 v1 v6 n v2 v4 (v7 + (1 : Int32)) I_13
      ) else (
       bd (lp_X9_isAbove_64 v1 v2 v4 v6 v7 I_13 FU (r_13.toInt64) (1 : Int64) (0 : Int32)) (fun (w9_15, w11_15) =>
        lp_X9_isAbove_32 v1 v6 n (v2 + ((w9_15 / (1000000 : Int64)) * w11_15)) (v4 + ((w9_15 - w9_15 / (1000000 : Int64) * (1000000 : Int64)) * w11_15)) (v7 + (1 : Int32)) I_13
       )
      )
     )
    )
def f_X9_isAbove (p1 : Int32) (I : SI) : Option (Int32 × SI) :=
  bd (lp_X9_isAbove_11 p1 (0 : Int64) (0 : Int64) FU (1 : Int32) (0 : Int32)) (fun w6_16 =>
   bd (lp_X9_isAbove_32 p1 w6_16 FU (0 : Int64) (0 : Int64) (0 : Int32) I) (fun (w2_17, w4_17, I_17) =>
    if 0 < (lg_cmp (w2_17 + (w4_17 / (1000000 : Int64))) (0 : Int64)) then (
     some ((1 : Int32), I_17)
    ) else (
     if (lg_cmp (w2_17 + (w4_17 / (1000000 : Int64))) (0 : Int64)) = 0 then (
      if 0 < (lg_cmp (w4_17 - w4_17 / (1000000 : Int64) * (1000000 : Int64)) (0 : Int64)) then (
       some ((1 : Int32), I_17)
      ) else (
       if (lg_cmp (w2_17 + (w4_17 / (1000000 : Int64))) (1 : Int64)) = 0 then (
        if 0 ≤ (lg_cmp (w4_17 - w4_17 / (1000000 : Int64) * (1000000 : Int64)) (0 : Int64)) then (
         some ((0 : Int32), I_17)
        ) else (
         some ((1 : Int32), I_17)
        )
       ) else (
        some ((0 : Int32), I_17)
       )
      )
     ) else (
      if (lg_cmp (w2_17 + (w4_17 / (1000000 : Int64))) (1 : Int64)) = 0 then (
       if 0 ≤ (lg_cmp (w4_17 - w4_17 / (1000000 : Int64) * (1000000 : Int64)) (0 : Int64)) then (
        some ((0 : Int32), I_17)
       ) else (
        some ((1 : Int32), I_17)
       )
      ) else (
       some ((0 : Int32), I_17)
      )
     )
    )
   )
  )
def lp_X9_isBelow_11 (v1 : Int32) : Nat → Int32 → Int32 → SI → Option (Int32 × SI)
  | 0, _, _, _ => none
  | n + 1, v3, v4, I =>
    gd (v1 < 0 ∨ 7 ≤ v1.toNatClampNeg) (
    if (I 0 v1.toNatClampNeg) < v4 then (
     some (v3, I)
    ) else (
     if v3 = 0 then (
      some (v3, I)
     ) else (
      bd (f_X9_isAbove v4 I) (fun (r_4, I_4) =>
       lp_X9_isBelow_11 v1 n r_4 (v4 + (1 : Int32)) I_4
      )
     )
    )
    )
def f_X9_isBelow (p1 : Int32) (p2 : Int32) (I : SI) : Option (Int32 × SI) :=
  bd (f_X9_layLines p1 p2 I) (fun I_5 =>
   bd (lp_X9_isBelow_11 p1 FU (1 : Int32) (1 : Int32) I_5) (fun (w3_6, I_6) =>
    gd (¬ (w3_6 = 0 ∨ w3_6 = 1)) (
    some (w3_6, I_6)
    )
   )
  )
def lp_X9_size_27 (v1 : Int32) : Nat → Int32 → Int32 → SI → Option (Int32 × SI)
  | 0, _, _, _ => none
  | n + 1, v2, v3, I =>
    if (v3 - v2) ≤ (1 : Int32) then (
     some (v2, I)
    ) else (
     bd (f_X9_isBelow v1 ((v2 + v3) / (2 : Int32)) I) (fun (r_2, I_2) =>
      if r_2 = 0 then (
       lp_X9_size_27 v1 n ((v2 + v3) / (2 : Int32)) v3 I_2
      ) else (
       lp_X9_size_27 v1 n v2 ((v2 + v3) / (2 : Int32)) I_2
      )
     )
    )
def f_X9_size (p1 : Int32) (I : SI) : Option (Int32 × SI) :=
  bd (f_X9_noTable p1) (fun r_4 =>
   if r_4 = 0 then (
    bd (f_X9_isRight p1 I) (fun (r_6, I_6) =>
     if r_6 = 0 then (
      some ((-3 : Int32), I_6)
     ) else (
      bd (lp_X9_size_27 p1 FU (0 : Int32) (2251 : Int32) I_6) (fun (w2_8, I_8) =>
       some (w2_8, I_8)
      )
     )
    )
   ) else (
    some ((-2 : Int32), I)
   )
  )
def lp_X9_digest_106 (I : SI) : Nat → Int64 → Int32 → Option (Int64)
  | 0, _, _ => none
  | n + 1, v1, v3 =>
    if (I 15 0) ≤ v3 then (
     some v1
    ) else (
     gd (v3 < 0 ∨ 14 ≤ v3.toNatClampNeg) (
     lp_X9_digest_106 I n (((31 : Int64) * v1) + ((I 6 v3.toNatClampNeg).toInt64)) (v3 + (1 : Int32))
     )
    )
def lp_X9_digest_33 (v3 : Int32) (v4 : Int32) (I : SI) : Nat → Int64 → Int32 → Option (Int64)
  | 0, _, _ => none
  | n + 1, v1, v5 =>
    if ((v4 * v4) * v4) ≤ v5 then (
     some v1
    ) else (
     gd ((v4 * v4) = 0) (
     gd (v4 = 0) (
     gd (v4 = 0) (
     gd (v4 = 0) (
     bd (f_X9_n v3 (v5 / (v4 * v4)) ((v5 / v4) - (v5 / v4) / v4 * v4) (v5 - v5 / v4 * v4) I) (fun r_8 =>
      lp_X9_digest_33 v3 v4 I n (((31 : Int64) * v1) + (r_8.toInt64)) (v5 + (1 : Int32))
     )
     )
     )
     )
     )
    )
def lp_X9_digest_6 (I : SI) : Nat → Int64 → Int32 → Option (Int64)
  | 0, _, _ => none
  | n + 1, v1, v3 =>
    if (6 : Int32) ≤ v3 then (
     some v1
    ) else (
     gd (v3 < 0 ∨ 7 ≤ v3.toNatClampNeg) (
     bd (lp_X9_digest_33 v3 (I 0 v3.toNatClampNeg) I FU (((31 : Int64) * v1) + ((I 0 v3.toNatClampNeg).toInt64)) (0 : Int32)) (fun w1_11 =>
      lp_X9_digest_6 I n w1_11 (v3 + (1 : Int32))
     )
     )
    )
def f_X9_digest (I : SI) : Option (Int64) :=
  bd (lp_X9_digest_6 I FU (223 : Int64) (0 : Int32)) (fun w1_12 =>
   bd (lp_X9_digest_106 I FU (((31 : Int64) * w1_12) + ((I 15 0).toInt64)) (0 : Int32)) (fun w1_13 =>
    some w1_13
   )
  )
