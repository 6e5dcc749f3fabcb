set_option maxHeartbeats 4000000 in
set_option maxRecDepth 100000 in
theorem c_X1_breaks_18 (l : Launch) (dC : Nat → ClassId) (dI : Nat → Nat → Nat) (ad : Nat → Nat) (cI cJ cT : ClassId) (p1 : Int32) (p2 : Int32) (p3 : Int32) (p4 : Int32) (p5 : Int32) (I : SI) (J : SJ) {r0 : Int32} {I0 : SI} (hf : f_X1_breaks_18 p1 p2 p3 p4 p5 I = some (r0, I0)) : CtI l yX1_breaks wsX1_breaks ({ frames := 0, cells := 0, slots := 0, locals := 0 } : Room) (dC, dI) (tys3 cI cJ cT) (wB ad cI cJ cT) [.ref (ad 18), .int p1, .int p2, .int p3, .int p4, .int p5] I J r0 I0 J := by
  intro sz
  refine Met.ofW (cc := cX1_breaks) (maxL := 6) (ret := (some .boolean)) (by decide) rfl ?_
  intro p e s m args below meth c s₁ B hml hv
  obtain ⟨hargs, hsz, hP, hK, hD0⟩ := hv
  have hx := B.exec
  have hb := B.bytes
  have hr := B.returns
  have hts := atoms_spec (ws := wsX1_breaks) B.pre
  have hown : s.vm.findClass RX1 = some m.cls := findClass_of_methodNamed B.named
  have hlocks := B.notSynchronized
  subst hsz
  have hD := hD0.self (sz := s.heap.size)
  generalize hAe : va_A ((wB ad cI cJ cT) I J) s.heap.size = A at hD ⊢
  have hA : ∀ q : Nat, s.heap.size ≤ q → A q := fun q h => by rw [← hAe]; exact Or.inr h
  have hS : va_S A s.heap s.heap [] := va_S.rf
  have hl := lv_entry ([.ref (ad 18), .int p1, .int p2, .int p3, .int p4, .int p5]) (n := 6) (Nat.le_of_ble_eq_true rfl)
  rw [hargs, lg_entry_eq, ← hargs]
  generalize (lg_sl ([.ref (ad 18), .int p1, .int p2, .int p3, .int p4, .int p5]) ++ List.replicate (6 - (lg_sl ([.ref (ad 18), .int p1, .int p2, .int p3, .int p4, .int p5])).length) Slot.unset).toArray = ls at hl ⊢
  have hl : lv_has ls 6 [(0, .ref (ad 18)), (1, .int p1), (2, .int p2), (3, .int p3), (4, .int p4), (5, .int p5)] := hl
  have hfix : CallFix p m c cX1_breaks 6 s args wsX1_breaks RX1 := ⟨hx, hb, hml, hown, hts⟩
  have in_X1 : ∀ w ∈ u_ws RX1 TX1 3, w ∈ wsX1_breaks := by decide +kernel
  have wd_0 := hts (.fieldLink RX1 18 "FuseBench$Laws" "broken" "I") (by decide +kernel)
  have wd_1 := hts (.fieldLink RX1 9 "FuseBench$Laws" "place" "[I") (by decide +kernel)
  unfold f_X1_breaks_18 at hf
  refine lv_aload_n hx hb dX1_breaks_0 rfl (lv_at hl 0 rfl) ?_
  refine lv_iload_n hx hb dX1_breaks_1 rfl (lv_at hl 1 rfl) ?_
  refine x_put (C := RX1) (T := TX1) (N := 3) hx hb hts in_X1 tyX1 tyX1_ok nmX1 hown hK hP hD hS 18 (obB_18 ad cI cJ cT I J) rfl 2 (by decide) wd_0 (fun _ h9 => h9) rfl (by decide +kernel) (Nat.le_of_ble_eq_true rfl) (psB_18 ad cI cJ cT I J p1) dX1_breaks_2 (fun H locs hP hD hS => ?_)
  refine lv_aload_n hx hb dX1_breaks_5 rfl (lv_at hl 0 rfl) ?_
  refine va_get (D := (dC, dI)) (ci := 1) (v := .ref (ad 16)) (C := RX1) (T := TX1) (N := 3) hx hb hts in_X1 hown hK hP 18 (obB_18 ad cI cJ cT (sets I 18 p1) J) rfl 0 (by decide) wd_1 (fun _ h9 => h9) rfl dX1_breaks_6 ?_
  refine lv_iconst (v := (0 : Int32)) hx hb dX1_breaks_9 (by decide) ?_
  refine lv_iload_n hx hb dX1_breaks_10 rfl (lv_at hl 2 rfl) ?_
  refine x_iast hx hb hK (aiB_16 ad cI cJ cT) hP hD hS (by decide) dX1_breaks_11 (fun H locs hP hD hS => ?_)
  refine lv_aload_n hx hb dX1_breaks_12 rfl (lv_at hl 0 rfl) ?_
  refine va_get (D := (dC, dI)) (ci := 1) (v := .ref (ad 16)) (C := RX1) (T := TX1) (N := 3) hx hb hts in_X1 hown hK hP 18 (obB_18 ad cI cJ cT (ups (sets I 18 p1) 16 (0 : Int32).toNatClampNeg p2) J) rfl 0 (by decide) wd_1 (fun _ h9 => h9) rfl dX1_breaks_13 ?_
  refine lv_iconst (v := (1 : Int32)) hx hb dX1_breaks_16 (by decide) ?_
  refine lv_iload_n hx hb dX1_breaks_17 rfl (lv_at hl 3 rfl) ?_
  refine x_iast hx hb hK (aiB_16 ad cI cJ cT) hP hD hS (by decide) dX1_breaks_18 (fun H locs hP hD hS => ?_)
  refine lv_aload_n hx hb dX1_breaks_19 rfl (lv_at hl 0 rfl) ?_
  refine va_get (D := (dC, dI)) (ci := 1) (v := .ref (ad 16)) (C := RX1) (T := TX1) (N := 3) hx hb hts in_X1 hown hK hP 18 (obB_18 ad cI cJ cT (ups (ups (sets I 18 p1) 16 (0 : Int32).toNatClampNeg p2) 16 (1 : Int32).toNatClampNeg p3) J) rfl 0 (by decide) wd_1 (fun _ h9 => h9) rfl dX1_breaks_20 ?_
  refine lv_iconst (v := (2 : Int32)) hx hb dX1_breaks_23 (by decide) ?_
  refine lv_iload hx hb dX1_breaks_24 (lv_at hl 4 rfl) ?_
  refine x_iast hx hb hK (aiB_16 ad cI cJ cT) hP hD hS (by decide) dX1_breaks_26 (fun H locs hP hD hS => ?_)
  refine lv_aload_n hx hb dX1_breaks_27 rfl (lv_at hl 0 rfl) ?_
  refine va_get (D := (dC, dI)) (ci := 1) (v := .ref (ad 16)) (C := RX1) (T := TX1) (N := 3) hx hb hts in_X1 hown hK hP 18 (obB_18 ad cI cJ cT (ups (ups (ups (sets I 18 p1) 16 (0 : Int32).toNatClampNeg p2) 16 (1 : Int32).toNatClampNeg p3) 16 (2 : Int32).toNatClampNeg p4) J) rfl 0 (by decide) wd_1 (fun _ h9 => h9) rfl dX1_breaks_28 ?_
  refine lv_iconst (v := (3 : Int32)) hx hb dX1_breaks_31 (by decide) ?_
  refine lv_iload hx hb dX1_breaks_32 (lv_at hl 5 rfl) ?_
  refine x_iast hx hb hK (aiB_16 ad cI cJ cT) hP hD hS (by decide) dX1_breaks_34 (fun H locs hP hD hS => ?_)
  refine lv_iconst (v := (0 : Int32)) hx hb dX1_breaks_35 (by decide) ?_
  cases hf
  exact xRz hx hb hr hlocks rfl hK hP hD hS (fun _ h => h) dX1_breaks_36
set_option maxHeartbeats 4000000 in
set_option maxRecDepth 100000 in
theorem c_X1_breaks_21 (l : Launch) (dC : Nat → ClassId) (dI : Nat → Nat → Nat) (ad : Nat → Nat) (cI cJ cT : ClassId) (p1 : Int32) (p2 : Int32) (p3 : Int32) (p4 : Int32) (p5 : Int32) (I : SI) (J : SJ) {r0 : Int32} {I0 : SI} (hf : f_X1_breaks_21 p1 p2 p3 p4 p5 I = some (r0, I0)) : CtI l yX1_breaks wsX1_breaks ({ frames := 0, cells := 0, slots := 0, locals := 0 } : Room) (dC, dI) (tys3 cI cJ cT) (wB ad cI cJ cT) [.ref (ad 21), .int p1, .int p2, .int p3, .int p4, .int p5] I J r0 I0 J := by
  intro sz
  refine Met.ofW (cc := cX1_breaks) (maxL := 6) (ret := (some .boolean)) (by decide) rfl ?_
  intro p e s m args below meth c s₁ B hml hv
  obtain ⟨hargs, hsz, hP, hK, hD0⟩ := hv
  have hx := B.exec
  have hb := B.bytes
  have hr := B.returns
  have hts := atoms_spec (ws := wsX1_breaks) B.pre
  have hown : s.vm.findClass RX1 = some m.cls := findClass_of_methodNamed B.named
  have hlocks := B.notSynchronized
  subst hsz
  have hD := hD0.self (sz := s.heap.size)
  generalize hAe : va_A ((wB ad cI cJ cT) I J) s.heap.size = A at hD ⊢
  have hA : ∀ q : Nat, s.heap.size ≤ q → A q := fun q h => by rw [← hAe]; exact Or.inr h
  have hS : va_S A s.heap s.heap [] := va_S.rf
  have hl := lv_entry ([.ref (ad 21), .int p1, .int p2, .int p3, .int p4, .int p5]) (n := 6) (Nat.le_of_ble_eq_true rfl)
  rw [hargs, lg_entry_eq, ← hargs]
  generalize (lg_sl ([.ref (ad 21), .int p1, .int p2, .int p3, .int p4, .int p5]) ++ List.replicate (6 - (lg_sl ([.ref (ad 21), .int p1, .int p2, .int p3, .int p4, .int p5])).length) Slot.unset).toArray = ls at hl ⊢
  have hl : lv_has ls 6 [(0, .ref (ad 21)), (1, .int p1), (2, .int p2), (3, .int p3), (4, .int p4), (5, .int p5)] := hl
  have hfix : CallFix p m c cX1_breaks 6 s args wsX1_breaks RX1 := ⟨hx, hb, hml, hown, hts⟩
  have in_X1 : ∀ w ∈ u_ws RX1 TX1 3, w ∈ wsX1_breaks := by decide +kernel
  have wd_0 := hts (.fieldLink RX1 18 "FuseBench$Laws" "broken" "I") (by decide +kernel)
  have wd_1 := hts (.fieldLink RX1 9 "FuseBench$Laws" "place" "[I") (by decide +kernel)
  unfold f_X1_breaks_21 at hf
  refine lv_aload_n hx hb dX1_breaks_0 rfl (lv_at hl 0 rfl) ?_
  refine lv_iload_n hx hb dX1_breaks_1 rfl (lv_at hl 1 rfl) ?_
  refine x_put (C := RX1) (T := TX1) (N := 3) hx hb hts in_X1 tyX1 tyX1_ok nmX1 hown hK hP hD hS 21 (obB_21 ad cI cJ cT I J) rfl 2 (by decide) wd_0 (fun _ h9 => h9) rfl (by decide +kernel) (Nat.le_of_ble_eq_true rfl) (psB_21 ad cI cJ cT I J p1) dX1_breaks_2 (fun H locs hP hD hS => ?_)
  refine lv_aload_n hx hb dX1_breaks_5 rfl (lv_at hl 0 rfl) ?_
  refine va_get (D := (dC, dI)) (ci := 1) (v := .ref (ad 19)) (C := RX1) (T := TX1) (N := 3) hx hb hts in_X1 hown hK hP 21 (obB_21 ad cI cJ cT (sets I 21 p1) J) rfl 0 (by decide) wd_1 (fun _ h9 => h9) rfl dX1_breaks_6 ?_
  refine lv_iconst (v := (0 : Int32)) hx hb dX1_breaks_9 (by decide) ?_
  refine lv_iload_n hx hb dX1_breaks_10 rfl (lv_at hl 2 rfl) ?_
  refine x_iast hx hb hK (aiB_19 ad cI cJ cT) hP hD hS (by decide) dX1_breaks_11 (fun H locs hP hD hS => ?_)
  refine lv_aload_n hx hb dX1_breaks_12 rfl (lv_at hl 0 rfl) ?_
  refine va_get (D := (dC, dI)) (ci := 1) (v := .ref (ad 19)) (C := RX1) (T := TX1) (N := 3) hx hb hts in_X1 hown hK hP 21 (obB_21 ad cI cJ cT (ups (sets I 21 p1) 19 (0 : Int32).toNatClampNeg p2) J) rfl 0 (by decide) wd_1 (fun _ h9 => h9) rfl dX1_breaks_13 ?_
  refine lv_iconst (v := (1 : Int32)) hx hb dX1_breaks_16 (by decide) ?_
  refine lv_iload_n hx hb dX1_breaks_17 rfl (lv_at hl 3 rfl) ?_
  refine x_iast hx hb hK (aiB_19 ad cI cJ cT) hP hD hS (by decide) dX1_breaks_18 (fun H locs hP hD hS => ?_)
  refine lv_aload_n hx hb dX1_breaks_19 rfl (lv_at hl 0 rfl) ?_
  refine va_get (D := (dC, dI)) (ci := 1) (v := .ref (ad 19)) (C := RX1) (T := TX1) (N := 3) hx hb hts in_X1 hown hK hP 21 (obB_21 ad cI cJ cT (ups (ups (sets I 21 p1) 19 (0 : Int32).toNatClampNeg p2) 19 (1 : Int32).toNatClampNeg p3) J) rfl 0 (by decide) wd_1 (fun _ h9 => h9) rfl dX1_breaks_20 ?_
  refine lv_iconst (v := (2 : Int32)) hx hb dX1_breaks_23 (by decide) ?_
  refine lv_iload hx hb dX1_breaks_24 (lv_at hl 4 rfl) ?_
  refine x_iast hx hb hK (aiB_19 ad cI cJ cT) hP hD hS (by decide) dX1_breaks_26 (fun H locs hP hD hS => ?_)
  refine lv_aload_n hx hb dX1_breaks_27 rfl (lv_at hl 0 rfl) ?_
  refine va_get (D := (dC, dI)) (ci := 1) (v := .ref (ad 19)) (C := RX1) (T := TX1) (N := 3) hx hb hts in_X1 hown hK hP 21 (obB_21 ad cI cJ cT (ups (ups (ups (sets I 21 p1) 19 (0 : Int32).toNatClampNeg p2) 19 (1 : Int32).toNatClampNeg p3) 19 (2 : Int32).toNatClampNeg p4) J) rfl 0 (by decide) wd_1 (fun _ h9 => h9) rfl dX1_breaks_28 ?_
  refine lv_iconst (v := (3 : Int32)) hx hb dX1_breaks_31 (by decide) ?_
  refine lv_iload hx hb dX1_breaks_32 (lv_at hl 5 rfl) ?_
  refine x_iast hx hb hK (aiB_19 ad cI cJ cT) hP hD hS (by decide) dX1_breaks_34 (fun H locs hP hD hS => ?_)
  refine lv_iconst (v := (0 : Int32)) hx hb dX1_breaks_35 (by decide) ?_
  cases hf
  exact xRz hx hb hr hlocks rfl hK hP hD hS (fun _ h => h) dX1_breaks_36
set_option maxHeartbeats 4000000 in
set_option maxRecDepth 100000 in
theorem c_X7_placeOf (l : Launch) (dC : Nat → ClassId) (dI : Nat → Nat → Nat) (ad : Nat → Nat) (cI cJ cT : ClassId) (w : SI → SJ → va_W) (pq : Nat → Nat) (p0 : Int32) (p1 : Int32) (p2 : Int32) (I : SI) (J : SJ) {r0 : Int32} (hf : f_X7_placeOf p0 p1 p2 = some r0) : CtI l yX7_placeOf wsX7_placeOf ({ frames := 0, cells := 0, slots := 0, locals := 0 } : Room) (dC, dI) (tys3 cI cJ cT) w [.int p0, .int p1, .int p2] I J r0 I J := by
  intro sz
  refine Met.ofW (cc := cX7_placeOf) (maxL := 3) (ret := (some .int)) (by decide) rfl ?_
  intro p e s m args below meth c s₁ B hml hv
  obtain ⟨hargs, hsz, hP, hK, hD0⟩ := hv
  have hx := B.exec
  have hb := B.bytes
  have hr := B.returns
  have hts := atoms_spec (ws := wsX7_placeOf) B.pre
  have hown : s.vm.findClass RX7 = some m.cls := findClass_of_methodNamed B.named
  have hlocks := B.notSynchronized
  subst hsz
  have hD := hD0.self (sz := s.heap.size)
  generalize hAe : va_A (w I J) s.heap.size = A at hD ⊢
  have hA : ∀ q : Nat, s.heap.size ≤ q → A q := fun q h => by rw [← hAe]; exact Or.inr h
  have hS : va_S A s.heap s.heap [] := va_S.rf
  have hl := lv_entry ([.int p0, .int p1, .int p2]) (n := 3) (Nat.le_of_ble_eq_true rfl)
  rw [hargs, lg_entry_eq, ← hargs]
  generalize (lg_sl ([.int p0, .int p1, .int p2]) ++ List.replicate (3 - (lg_sl ([.int p0, .int p1, .int p2])).length) Slot.unset).toArray = ls at hl ⊢
  have hl : lv_has ls 3 [(0, .int p0), (1, .int p1), (2, .int p2)] := hl
  have hfix : CallFix p m c cX7_placeOf 3 s args wsX7_placeOf RX7 := ⟨hx, hb, hml, hown, hts⟩
  unfold f_X7_placeOf at hf
  refine lv_iload_n hx hb dX7_placeOf_0 rfl (lv_at hl 0 rfl) ?_
  refine lv_iconst (v := (5 : Int32)) hx hb dX7_placeOf_1 (by decide) ?_
  refine lv_imul hx hb dX7_placeOf_2 ?_
  refine lv_iload_n hx hb dX7_placeOf_3 rfl (lv_at hl 1 rfl) ?_
  refine lv_iadd hx hb dX7_placeOf_4 ?_
  refine lv_iconst (v := (5 : Int32)) hx hb dX7_placeOf_5 (by decide) ?_
  refine lv_imul hx hb dX7_placeOf_6 ?_
  refine lv_iload_n hx hb dX7_placeOf_7 rfl (lv_at hl 2 rfl) ?_
  refine lv_iadd hx hb dX7_placeOf_8 ?_
  cases hf
  exact xRi hx hb hr hlocks hK hP hD hS (fun _ h => h) dX7_placeOf_9
set_option maxHeartbeats 4000000 in
set_option maxRecDepth 100000 in
theorem c_X7_number (l : Launch) (dC : Nat → ClassId) (dI : Nat → Nat → Nat) (ad : Nat → Nat) (cI cJ cT : ClassId) (w : SI → SJ → va_W) (pq : Nat → Nat) (x : Nat) (htx : TbI w cI ad pq x) (p1 : Int32) (p2 : Int32) (p3 : Int32) (I : SI) (J : SJ) {r0 : Int32} (hf : f_X7_number x p1 p2 p3 I = some r0) : CtI l yX7_number wsX7_number ({ frames := 1, cells := 0, slots := 0, locals := 22 } : Room) (dC, dI) (tys3 cI cJ cT) w [.ref (ad (8 + x)), .int p1, .int p2, .int p3] I J r0 I J := by
  intro sz
  refine Met.ofW (cc := cX7_number) (maxL := 4) (ret := (some .int)) (by decide) rfl ?_
  intro p e s m args below meth c s₁ B hml hv
  obtain ⟨hargs, hsz, hP, hK, hD0⟩ := hv
  have hx := B.exec
  have hb := B.bytes
  have hr := B.returns
  have hts := atoms_spec (ws := wsX7_number) B.pre
  have hown : s.vm.findClass RX7 = some m.cls := findClass_of_methodNamed B.named
  have hlocks := B.notSynchronized
  subst hsz
  have hD := hD0.self (sz := s.heap.size)
  generalize hAe : va_A (w I J) s.heap.size = A at hD ⊢
  have hA : ∀ q : Nat, s.heap.size ≤ q → A q := fun q h => by rw [← hAe]; exact Or.inr h
  have hS : va_S A s.heap s.heap [] := va_S.rf
  have hl := lv_entry ([.ref (ad (8 + x)), .int p1, .int p2, .int p3]) (n := 4) (Nat.le_of_ble_eq_true rfl)
  rw [hargs, lg_entry_eq, ← hargs]
  generalize (lg_sl ([.ref (ad (8 + x)), .int p1, .int p2, .int p3]) ++ List.replicate (4 - (lg_sl ([.ref (ad (8 + x)), .int p1, .int p2, .int p3])).length) Slot.unset).toArray = ls at hl ⊢
  have hl : lv_has ls 4 [(0, .ref (ad (8 + x))), (1, .int p1), (2, .int p2), (3, .int p3)] := hl
  have hfix : CallFix p m c cX7_number 4 s args wsX7_number RX7 := ⟨hx, hb, hml, hown, hts⟩
  have in_X7 : ∀ w ∈ u_ws RX7 TX7 2, w ∈ wsX7_number := by decide +kernel
  have wd_0 := hts (.fieldLink RX7 11 "FuseBench$Table" "numbers" "[I") (by decide +kernel)
  unfold f_X7_number at hf
  refine lv_aload_n hx hb dX7_number_0 rfl (lv_at hl 0 rfl) ?_
  refine va_get (D := (dC, dI)) (ci := 6) (v := .ref (ad x)) (C := RX7) (T := TX7) (N := 2) hx hb hts in_X7 hown hK hP (pq (8 + x)) ((htx).2.1 I J) rfl 0 (by decide) wd_0 (fun _ h9 => h9) rfl dX7_number_1 ?_
  refine lv_iload_n hx hb dX7_number_4 rfl (lv_at hl 1 rfl) ?_
  refine lv_iload_n hx hb dX7_number_5 rfl (lv_at hl 2 rfl) ?_
  refine lv_iload_n hx hb dX7_number_6 rfl (lv_at hl 3 rfl) ?_
  obtain ⟨r_1, hg_1, hf⟩ := bd_some hf
  refine xSi (rest := [.ref (ad x)]) (c_X7_placeOf l dC dI ad cI cJ cT w pq p1 p2 p3 I J hg_1) hfix (va_cwS 3 hts gX7_number_X7_placeOf rfl rfl rfl (by decide +kernel) ⟨Nat.le_of_ble_eq_true rfl, Nat.le_of_ble_eq_true rfl⟩) hK hP hD hS hA rfl hl.1 rfl (Nat.le_of_ble_eq_true rfl) ⟨Nat.zero_le _, Nat.zero_le _⟩ dX7_number_7 (fun H locs hP hD hS => ?_)
  obtain ⟨h_2, hf⟩ := gd_some hf
  refine x_iald hx hb hK (htx).1 hP h_2 dX7_number_10 ?_
  cases hf
  exact xRi hx hb hr hlocks hK hP hD hS (fun _ h => h) dX7_number_11
set_option maxHeartbeats 4000000 in
set_option maxRecDepth 100000 in
theorem c_X1_firstUnlike (l : Launch) (dC : Nat → ClassId) (dI : Nat → Nat → Nat) (ad : Nat → Nat) (cI cJ cT : ClassId) (x : Nat) (htx : x < 8) (p1 : Int32) (p2 : Int32) (p3 : Int32) (I : SI) (J : SJ) {r0 : Int32} (hf : f_X1_firstUnlike x p1 p2 p3 I = some r0) : CtI l yX1_firstUnlike wsX1_firstUnlike ({ frames := 2, cells := 0, slots := 0, locals := 45 } : Room) (dC, dI) (tys3 cI cJ cT) (wB ad cI cJ cT) [.ref (ad (8 + x)), .int p1, .int p2, .int p3] I J r0 I J := by
  intro sz
  refine Met.ofW (cc := cX1_firstUnlike) (maxL := 7) (ret := (some .int)) (by decide) rfl ?_
  intro p e s m args below meth c s₁ B hml hv
  obtain ⟨hargs, hsz, hP, hK, hD0⟩ := hv
  have hx := B.exec
  have hb := B.bytes
  have hr := B.returns
  have hts := atoms_spec (ws := wsX1_firstUnlike) B.pre
  have hown : s.vm.findClass RX1 = some m.cls := findClass_of_methodNamed B.named
  have hlocks := B.notSynchronized
  subst hsz
  have hD := hD0.self (sz := s.heap.size)
  generalize hAe : va_A ((wB ad cI cJ cT) I J) s.heap.size = A at hD ⊢
  have hA : ∀ q : Nat, s.heap.size ≤ q → A q := fun q h => by rw [← hAe]; exact Or.inr h
  have hS : va_S A s.heap s.heap [] := va_S.rf
  have hl := lv_entry ([.ref (ad (8 + x)), .int p1, .int p2, .int p3]) (n := 7) (Nat.le_of_ble_eq_true rfl)
  rw [hargs, lg_entry_eq, ← hargs]
  generalize (lg_sl ([.ref (ad (8 + x)), .int p1, .int p2, .int p3]) ++ List.replicate (7 - (lg_sl ([.ref (ad (8 + x)), .int p1, .int p2, .int p3])).length) Slot.unset).toArray = ls at hl ⊢
  have hl : lv_has ls 7 [(0, .ref (ad (8 + x))), (1, .int p1), (2, .int p2), (3, .int p3)] := hl
  have hfix : CallFix p m c cX1_firstUnlike 7 s args wsX1_firstUnlike RX1 := ⟨hx, hb, hml, hown, hts⟩
  have in_X7 : ∀ w ∈ u_ws RX7 TX7 2, w ∈ wsX1_firstUnlike := by decide +kernel
  have wd_0 := hts (.fieldLink RX1 44 "FuseBench$Table" "kinds" "I") (by decide +kernel)
  have L18 : ∀ (Q : State → Prop) (v1 : Int32) (v2 : Int32) (v3 : Int32) (v4 : Int32) (I : SI) (J : SJ) (o : Int32), (∀ (w5 : Int32) (H : Heap) (locs : List Loc) (ls : Array Slot), o = w5 → va_P (dC, dI) vwCl ((wB ad cI cJ cT) I J) H → va_D A ((wB ad cI cJ cT) I J) → va_S A s.heap H locs → lv_has ls 7 [(0, .ref (ad (8 + x))), (1, .int v1), (2, .int v2), (3, .int v3), (4, .int v4), (5, .int w5)] → W p l e ({ frames := 2, cells := 0, slots := 0, locals := 45 } : Room) s m args below meth c H locs 0 0 Q (F0 m 75 ls [])) → ∀ (n : Nat) (v5 : Int32) (v6 : Int32) (H : Heap) (locs : List Loc) (ls : Array Slot), lp_X1_firstUnlike_18 x v1 v2 v3 v4 I n v5 v6 = some o → va_P (dC, dI) vwCl ((wB ad cI cJ cT) I J) H → va_D A ((wB ad cI cJ cT) I J) → va_S A s.heap H locs → lv_has ls 7 [(0, .ref (ad (8 + x))), (1, .int v1), (2, .int v2), (3, .int v3), (4, .int v4), (5, .int v5), (6, .int v6)] → W p l e ({ frames := 2, cells := 0, slots := 0, locals := 45 } : Room) s m args below meth c H locs 0 0 Q (F0 m 18 ls []) := by
    intro Q v1 v2 v3 v4 I J o K0 n
    clear hP hD hS hl
    induction n with
    | zero =>
      intro v5 v6 H locs ls hf
      rw [lp_X1_firstUnlike_18.eq_1] at hf
      cases hf
    | succ n ih =>
      intro v5 v6 H locs ls hf hP hD hS hl
      rw [lp_X1_firstUnlike_18.eq_2] at hf
      refine lv_iload hx hb dX1_firstUnlike_18 (lv_at hl 6 rfl) ?_
      refine lv_aload_n hx hb dX1_firstUnlike_20 rfl (lv_at hl 0 rfl) ?_
      refine va_get (D := (dC, dI)) (ci := 6) (v := .int (I (8 + x) 0)) (C := RX7) (T := TX7) (N := 2) hx hb hts in_X7 hown hK hP (8 + x) (((wBT ad cI cJ cT htx)).2.1 I J) rfl 1 (by decide) wd_0 (fun _ h9 => h9) rfl dX1_firstUnlike_21 ?_
      refine lv_icmp_ge (tgt := 75) hx hb dX1_firstUnlike_24 (by decide) (fun c_1 => ?_) (fun c_1 => ?_)
      · have hf := (if_pos c_1).symm.trans hf
        exact K0 _ _ _ _ (Option.some.inj hf).symm hP hD hS (lv_sub hl [0, 1, 2, 3, 4, 5] rfl)
      · have hf := (if_neg c_1).symm.trans hf
        refine lv_iload hx hb dX1_firstUnlike_27 (lv_at hl 5 rfl) ?_
        refine lv_aload_n hx hb dX1_firstUnlike_29 rfl (lv_at hl 0 rfl) ?_
        refine lv_iload_n hx hb dX1_firstUnlike_30 rfl (lv_at hl 1 rfl) ?_
        refine lv_iload_n hx hb dX1_firstUnlike_31 rfl (lv_at hl 2 rfl) ?_
        refine lv_iload hx hb dX1_firstUnlike_32 (lv_at hl 6 rfl) ?_
        obtain ⟨r_2, hg_2, hf⟩ := bd_some hf
        refine xVi (rest := [.int v5]) (c_X7_number l dC dI ad cI cJ cT (wB ad cI cJ cT) (fun k => k) x (wBT ad cI cJ cT htx) v1 v2 v6 I J hg_2) hfix (cwV 3 hts gX1_firstUnlike_X7_number rfl rfl rfl (by decide +kernel) ⟨Nat.le_of_ble_eq_true rfl, Nat.le_of_ble_eq_true rfl⟩) hK hP hD hS hA (va_recv hK hP (ci := 6) (q0 := (8 + x)) rfl (((wBT ad cI cJ cT htx)).2.1 I J)) rfl hl.1 rfl (Nat.le_of_ble_eq_true rfl) ⟨Nat.zero_le _, Nat.zero_le _⟩ dX1_firstUnlike_34 (fun H locs hP hD hS => ?_)
        refine lv_aload_n hx hb dX1_firstUnlike_37 rfl (lv_at hl 0 rfl) ?_
        refine lv_iload hx hb dX1_firstUnlike_38 (lv_at hl 6 rfl) ?_
        refine lv_iload_n hx hb dX1_firstUnlike_40 rfl (lv_at hl 3 rfl) ?_
        refine lv_iload hx hb dX1_firstUnlike_41 (lv_at hl 4 rfl) ?_
        obtain ⟨r_3, hg_3, hf⟩ := bd_some hf
        refine xVi (rest := [.int r_2, .int v5]) (c_X7_number l dC dI ad cI cJ cT (wB ad cI cJ cT) (fun k => k) x (wBT ad cI cJ cT htx) v6 v3 v4 I J hg_3) hfix (cwV 3 hts gX1_firstUnlike_X7_number rfl rfl rfl (by decide +kernel) ⟨Nat.le_of_ble_eq_true rfl, Nat.le_of_ble_eq_true rfl⟩) hK hP hD hS hA (va_recv hK hP (ci := 6) (q0 := (8 + x)) rfl (((wBT ad cI cJ cT htx)).2.1 I J)) rfl hl.1 rfl (Nat.le_of_ble_eq_true rfl) ⟨Nat.zero_le _, Nat.zero_le _⟩ dX1_firstUnlike_43 (fun H locs hP hD hS => ?_)
        refine lv_imul hx hb dX1_firstUnlike_46 ?_
        refine lv_aload_n hx hb dX1_firstUnlike_47 rfl (lv_at hl 0 rfl) ?_
        refine lv_iload_n hx hb dX1_firstUnlike_48 rfl (lv_at hl 2 rfl) ?_
        refine lv_iload_n hx hb dX1_firstUnlike_49 rfl (lv_at hl 3 rfl) ?_
        refine lv_iload hx hb dX1_firstUnlike_50 (lv_at hl 6 rfl) ?_
        obtain ⟨r_4, hg_4, hf⟩ := bd_some hf
        refine xVi (rest := [.int (r_2 * r_3), .int v5]) (c_X7_number l dC dI ad cI cJ cT (wB ad cI cJ cT) (fun k => k) x (wBT ad cI cJ cT htx) v2 v3 v6 I J hg_4) hfix (cwV 3 hts gX1_firstUnlike_X7_number rfl rfl rfl (by decide +kernel) ⟨Nat.le_of_ble_eq_true rfl, Nat.le_of_ble_eq_true rfl⟩) hK hP hD hS hA (va_recv hK hP (ci := 6) (q0 := (8 + x)) rfl (((wBT ad cI cJ cT htx)).2.1 I J)) rfl hl.1 rfl (Nat.le_of_ble_eq_true rfl) ⟨Nat.zero_le _, Nat.zero_le _⟩ dX1_firstUnlike_52 (fun H locs hP hD hS => ?_)
        refine lv_aload_n hx hb dX1_firstUnlike_55 rfl (lv_at hl 0 rfl) ?_
        refine lv_iload_n hx hb dX1_firstUnlike_56 rfl (lv_at hl 1 rfl) ?_
        refine lv_iload hx hb dX1_firstUnlike_57 (lv_at hl 6 rfl) ?_
        refine lv_iload hx hb dX1_firstUnlike_59 (lv_at hl 4 rfl) ?_
        obtain ⟨r_5, hg_5, hf⟩ := bd_some hf
        refine xVi (rest := [.int r_4, .int (r_2 * r_3), .int v5]) (c_X7_number l dC dI ad cI cJ cT (wB ad cI cJ cT) (fun k => k) x (wBT ad cI cJ cT htx) v1 v6 v4 I J hg_5) hfix (cwV 3 hts gX1_firstUnlike_X7_number rfl rfl rfl (by decide +kernel) ⟨Nat.le_of_ble_eq_true rfl, Nat.le_of_ble_eq_true rfl⟩) hK hP hD hS hA (va_recv hK hP (ci := 6) (q0 := (8 + x)) rfl (((wBT ad cI cJ cT htx)).2.1 I J)) rfl hl.1 rfl (Nat.le_of_ble_eq_true rfl) ⟨Nat.zero_le _, Nat.zero_le _⟩ dX1_firstUnlike_61 (fun H locs hP hD hS => ?_)
        refine lv_imul hx hb dX1_firstUnlike_64 ?_
        refine lv_isub hx hb dX1_firstUnlike_65 ?_
        refine lv_iadd hx hb dX1_firstUnlike_66 ?_
        refine lv_istore (lv' := [(5, .int (v5 + ((r_2 * r_3) - (r_4 * r_5)))), (0, .ref (ad (8 + x))), (1, .int v1), (2, .int v2), (3, .int v3), (4, .int v4), (6, .int v6)]) hx hb dX1_firstUnlike_67 hl (by decide) rfl (fun ls hl => ?_)
        refine lv_iinc (v := (v6 + (1 : Int32))) (lv' := [(6, .int (v6 + (1 : Int32))), (5, .int (v5 + ((r_2 * r_3) - (r_4 * r_5)))), (0, .ref (ad (8 + x))), (1, .int v1), (2, .int v2), (3, .int v3), (4, .int v4)]) hx hb dX1_firstUnlike_69 hl (k := 6) rfl (by first | rfl | decide) (by decide) rfl (fun ls hl => ?_)
        refine lv_goto (tgt := 18) hx hb dX1_firstUnlike_72 (by decide) ?_
        exact ih _ _ _ _ _ hf hP hD hS (lv_sub hl [2, 3, 4, 5, 6, 1, 0] rfl)
  have L3 : ∀ (Q : State → Prop) (v1 : Int32) (v2 : Int32) (v3 : Int32) (I : SI) (J : SJ) (o : Nat × Int32), (∀ (w4 : Int32) (H : Heap) (locs : List Loc) (ls : Array Slot), o = (0, w4) → va_P (dC, dI) vwCl ((wB ad cI cJ cT) I J) H → va_D A ((wB ad cI cJ cT) I J) → va_S A s.heap H locs → lv_has ls 7 [(4, .int w4)] → W p l e ({ frames := 2, cells := 0, slots := 0, locals := 45 } : Room) s m args below meth c H locs 0 0 Q (F0 m 80 ls [])) → (∀ (w4 : Int32) (H : Heap) (locs : List Loc) (ls : Array Slot), o = (1, w4) → va_P (dC, dI) vwCl ((wB ad cI cJ cT) I J) H → va_D A ((wB ad cI cJ cT) I J) → va_S A s.heap H locs → lv_has ls 7 [] → W p l e ({ frames := 2, cells := 0, slots := 0, locals := 45 } : Room) s m args below meth c H locs 0 0 Q (F0 m 89 ls [])) → ∀ (n : Nat) (v4 : Int32) (H : Heap) (locs : List Loc) (ls : Array Slot), lp_X1_firstUnlike_3 x v1 v2 v3 I n v4 = some o → va_P (dC, dI) vwCl ((wB ad cI cJ cT) I J) H → va_D A ((wB ad cI cJ cT) I J) → va_S A s.heap H locs → lv_has ls 7 [(0, .ref (ad (8 + x))), (1, .int v1), (2, .int v2), (3, .int v3), (4, .int v4)] → W p l e ({ frames := 2, cells := 0, slots := 0, locals := 45 } : Room) s m args below meth c H locs 0 0 Q (F0 m 3 ls []) := by
    intro Q v1 v2 v3 I J o K0 K1 n
    clear hP hD hS hl
    induction n with
    | zero =>
      intro v4 H locs ls hf
      rw [lp_X1_firstUnlike_3.eq_1] at hf
      cases hf
    | succ n ih =>
      intro v4 H locs ls hf hP hD hS hl
      rw [lp_X1_firstUnlike_3.eq_2] at hf
      refine lv_iload hx hb dX1_firstUnlike_3 (lv_at hl 4 rfl) ?_
      refine lv_aload_n hx hb dX1_firstUnlike_5 rfl (lv_at hl 0 rfl) ?_
      refine va_get (D := (dC, dI)) (ci := 6) (v := .int (I (8 + x) 0)) (C := RX7) (T := TX7) (N := 2) hx hb hts in_X7 hown hK hP (8 + x) (((wBT ad cI cJ cT htx)).2.1 I J) rfl 1 (by decide) wd_0 (fun _ h9 => h9) rfl dX1_firstUnlike_6 ?_
      refine lv_icmp_ge (tgt := 89) hx hb dX1_firstUnlike_9 (by decide) (fun c_6 => ?_) (fun c_6 => ?_)
      · have hf := (if_pos c_6).symm.trans hf
        exact K1 _ _ _ _ (Option.some.inj hf).symm hP hD hS (lv_sub hl [] rfl)
      · have hf := (if_neg c_6).symm.trans hf
        refine lv_iconst (v := (0 : Int32)) hx hb dX1_firstUnlike_12 (by decide) ?_
        refine lv_istore (lv' := [(5, .int (0 : Int32)), (0, .ref (ad (8 + x))), (1, .int v1), (2, .int v2), (3, .int v3), (4, .int v4)]) hx hb dX1_firstUnlike_13 hl (by decide) rfl (fun ls hl => ?_)
        refine lv_iconst (v := (0 : Int32)) hx hb dX1_firstUnlike_15 (by decide) ?_
        refine lv_istore (lv' := [(6, .int (0 : Int32)), (5, .int (0 : Int32)), (0, .ref (ad (8 + x))), (1, .int v1), (2, .int v2), (3, .int v3), (4, .int v4)]) hx hb dX1_firstUnlike_16 hl (by decide) rfl (fun ls hl => ?_)
        obtain ⟨o_7, hg_7, hf⟩ := bd_some hf
        refine L18 _ v1 v2 v3 v4 I J o_7 ?_ FU (0 : Int32) (0 : Int32) _ _ _ hg_7 hP hD hS (lv_sub hl [2, 3, 4, 5, 6, 1, 0] rfl)
        · intro w5_7 H locs ls ho hP hD hS hl
          subst o_7
          refine lv_iload hx hb dX1_firstUnlike_75 (lv_at hl 5 rfl) ?_
          refine lv_if_eq (tgt := 83) hx hb dX1_firstUnlike_77 (by decide) (fun c_8 => ?_) (fun c_8 => ?_)
          · have hf := (if_pos c_8).symm.trans hf
            refine lv_iinc (v := (v4 + (1 : Int32))) (lv' := [(4, .int (v4 + (1 : Int32))), (0, .ref (ad (8 + x))), (1, .int v1), (2, .int v2), (3, .int v3), (5, .int w5_7)]) hx hb dX1_firstUnlike_83 hl (k := 4) rfl (by first | rfl | decide) (by decide) rfl (fun ls hl => ?_)
            refine lv_goto (tgt := 3) hx hb dX1_firstUnlike_86 (by decide) ?_
            exact ih _ _ _ _ hf hP hD hS (lv_sub hl [1, 2, 3, 4, 0] rfl)
          · have hf := (if_neg c_8).symm.trans hf
            exact K0 _ _ _ _ (Option.some.inj hf).symm hP hD hS (lv_sub hl [4] rfl)
  unfold f_X1_firstUnlike at hf
  refine lv_iconst (v := (0 : Int32)) hx hb dX1_firstUnlike_0 (by decide) ?_
  refine lv_istore (lv' := [(4, .int (0 : Int32)), (0, .ref (ad (8 + x))), (1, .int p1), (2, .int p2), (3, .int p3)]) hx hb dX1_firstUnlike_1 hl (by decide) rfl (fun ls hl => ?_)
  obtain ⟨o_9, hg_9, hf⟩ := bd_some hf
  refine L3 _ p1 p2 p3 I J o_9 ?_ ?_ FU (0 : Int32) _ _ _ hg_9 hP hD hS (lv_sub hl [1, 2, 3, 4, 0] rfl)
  · intro w4_9 H locs ls ho hP hD hS hl
    subst o_9
    have hf := (if_pos (show 0 = 0 from rfl)).symm.trans hf
    refine lv_iload hx hb dX1_firstUnlike_80 (lv_at hl 0 rfl) ?_
    cases hf
    exact xRi hx hb hr hlocks hK hP hD hS (fun _ h => h) dX1_firstUnlike_82
  · intro w4_9 H locs ls ho hP hD hS hl
    subst o_9
    have hf := (if_neg (show ¬ (1 = 0) by decide)).symm.trans hf
    refine lv_iconst (v := (-1 : Int32)) hx hb dX1_firstUnlike_89 (by decide) ?_
    cases hf
    exact xRi hx hb hr hlocks hK hP hD hS (fun _ h => h) dX1_firstUnlike_90
set_option maxHeartbeats 4000000 in
set_option maxRecDepth 100000 in
theorem c_X1_threeHolds_18 (l : Launch) (dC : Nat → ClassId) (dI : Nat → Nat → Nat) (ad : Nat → Nat) (cI cJ cT : ClassId) (x : Nat) (htx : x < 8) (I : SI) (J : SJ) {r0 : Int32} {I0 : SI} (hf : f_X1_threeHolds_18 x I = some (r0, I0)) : CtI l yX1_threeHolds wsX1_threeHolds ({ frames := 3, cells := 0, slots := 0, locals := 71 } : Room) (dC, dI) (tys3 cI cJ cT) (wB ad cI cJ cT) [.ref (ad 18), .ref (ad (8 + x))] I J r0 I0 J := by
  intro sz
  refine Met.ofW (cc := cX1_threeHolds) (maxL := 6) (ret := (some .boolean)) (by decide) rfl ?_
  intro p e s m args below meth c s₁ B hml hv
  obtain ⟨hargs, hsz, hP, hK, hD0⟩ := hv
  have hx := B.exec
  have hb := B.bytes
  have hr := B.returns
  have hts := atoms_spec (ws := wsX1_threeHolds) B.pre
  have hown : s.vm.findClass RX1 = some m.cls := findClass_of_methodNamed B.named
  have hlocks := B.notSynchronized
  subst hsz
  have hD := hD0.self (sz := s.heap.size)
  generalize hAe : va_A ((wB ad cI cJ cT) I J) s.heap.size = A at hD ⊢
  have hA : ∀ q : Nat, s.heap.size ≤ q → A q := fun q h => by rw [← hAe]; exact Or.inr h
  have hS : va_S A s.heap s.heap [] := va_S.rf
  have hl := lv_entry ([.ref (ad 18), .ref (ad (8 + x))]) (n := 6) (Nat.le_of_ble_eq_true rfl)
  rw [hargs, lg_entry_eq, ← hargs]
  generalize (lg_sl ([.ref (ad 18), .ref (ad (8 + x))]) ++ List.replicate (6 - (lg_sl ([.ref (ad 18), .ref (ad (8 + x))])).length) Slot.unset).toArray = ls at hl ⊢
  have hl : lv_has ls 6 [(0, .ref (ad 18)), (1, .ref (ad (8 + x)))] := hl
  have hfix : CallFix p m c cX1_threeHolds 6 s args wsX1_threeHolds RX1 := ⟨hx, hb, hml, hown, hts⟩
  have in_X7 : ∀ w ∈ u_ws RX7 TX7 2, w ∈ wsX1_threeHolds := by decide +kernel
  have wd_0 := hts (.fieldLink RX1 44 "FuseBench$Table" "kinds" "I") (by decide +kernel)
  have L23 : ∀ (Q : State → Prop) (v2 : Int32) (v3 : Int32) (I : SI) (J : SJ) (o : Nat × Int32 × Int32), (∀ (w4 : Int32) (w5 : Int32) (H : Heap) (locs : List Loc) (ls : Array Slot), o = (0, w4, w5) → va_P (dC, dI) vwCl ((wB ad cI cJ cT) I J) H → va_D A ((wB ad cI cJ cT) I J) → va_S A s.heap H locs → lv_has ls 6 [(0, .ref (ad 18)), (2, .int v2), (3, .int v3), (4, .int w4), (5, .int w5)] → W p l e ({ frames := 3, cells := 0, slots := 0, locals := 71 } : Room) s m args below meth c H locs 0 0 Q (F0 m 48 ls [])) → (∀ (w4 : Int32) (w5 : Int32) (H : Heap) (locs : List Loc) (ls : Array Slot), o = (1, w4, w5) → va_P (dC, dI) vwCl ((wB ad cI cJ cT) I J) H → va_D A ((wB ad cI cJ cT) I J) → va_S A s.heap H locs → lv_has ls 6 [(0, .ref (ad 18)), (1, .ref (ad (8 + x))), (2, .int v2), (3, .int v3)] → W p l e ({ frames := 3, cells := 0, slots := 0, locals := 71 } : Room) s m args below meth c H locs 0 0 Q (F0 m 66 ls [])) → ∀ (n : Nat) (v4 : Int32) (H : Heap) (locs : List Loc) (ls : Array Slot), lp_X1_threeHolds_18_23 x v2 v3 I n v4 = some o → va_P (dC, dI) vwCl ((wB ad cI cJ cT) I J) H → va_D A ((wB ad cI cJ cT) I J) → va_S A s.heap H locs → lv_has ls 6 [(0, .ref (ad 18)), (1, .ref (ad (8 + x))), (2, .int v2), (3, .int v3), (4, .int v4)] → W p l e ({ frames := 3, cells := 0, slots := 0, locals := 71 } : Room) s m args below meth c H locs 0 0 Q (F0 m 23 ls []) := by
    intro Q v2 v3 I J o K0 K1 n
    clear hP hD hS hl
    induction n with
    | zero =>
      intro v4 H locs ls hf
      rw [lp_X1_threeHolds_18_23.eq_1] at hf
      cases hf
    | succ n ih =>
      intro v4 H locs ls hf hP hD hS hl
      rw [lp_X1_threeHolds_18_23.eq_2] at hf
      refine lv_iload hx hb dX1_threeHolds_23 (lv_at hl 4 rfl) ?_
      refine lv_aload_n hx hb dX1_threeHolds_25 rfl (lv_at hl 1 rfl) ?_
      refine va_get (D := (dC, dI)) (ci := 6) (v := .int (I (8 + x) 0)) (C := RX7) (T := TX7) (N := 2) hx hb hts in_X7 hown hK hP (8 + x) (((wBT ad cI cJ cT htx)).2.1 I J) rfl 1 (by decide) wd_0 (fun _ h9 => h9) rfl dX1_threeHolds_26 ?_
      refine lv_icmp_ge (tgt := 66) hx hb dX1_threeHolds_29 (by decide) (fun c_1 => ?_) (fun c_1 => ?_)
      · have hf := (if_pos c_1).symm.trans hf
        exact K1 _ _ _ _ _ (Option.some.inj hf).symm hP hD hS (lv_sub hl [0, 1, 2, 3] rfl)
      · have hf := (if_neg c_1).symm.trans hf
        refine lv_aload_n hx hb dX1_threeHolds_32 rfl (lv_at hl 1 rfl) ?_
        refine lv_iload_n hx hb dX1_threeHolds_33 rfl (lv_at hl 2 rfl) ?_
        refine lv_iload_n hx hb dX1_threeHolds_34 rfl (lv_at hl 3 rfl) ?_
        refine lv_iload hx hb dX1_threeHolds_35 (lv_at hl 4 rfl) ?_
        obtain ⟨r_2, hg_2, hf⟩ := bd_some hf
        refine xSi (rest := []) (c_X1_firstUnlike l dC dI ad cI cJ cT x htx v2 v3 v4 I J hg_2) hfix (va_cwS 4 hts gX1_threeHolds_X1_firstUnlike rfl rfl rfl (by decide +kernel) ⟨Nat.le_of_ble_eq_true rfl, Nat.le_of_ble_eq_true rfl⟩) hK hP hD hS hA rfl hl.1 rfl (Nat.le_of_ble_eq_true rfl) ⟨Nat.zero_le _, Nat.zero_le _⟩ dX1_threeHolds_37 (fun H locs hP hD hS => ?_)
        refine lv_istore (lv' := [(5, .int r_2), (0, .ref (ad 18)), (1, .ref (ad (8 + x))), (2, .int v2), (3, .int v3), (4, .int v4)]) hx hb dX1_threeHolds_40 hl (by decide) rfl (fun ls hl => ?_)
        refine lv_iload hx hb dX1_threeHolds_42 (lv_at hl 0 rfl) ?_
        refine lv_iconst (v := (-1 : Int32)) hx hb dX1_threeHolds_44 (by decide) ?_
        refine lv_icmp_eq (tgt := 60) hx hb dX1_threeHolds_45 (by decide) (fun c_3 => ?_) (fun c_3 => ?_)
        · have hf := (if_pos c_3).symm.trans hf
          refine lv_iinc (v := (v4 + (1 : Int32))) (lv' := [(4, .int (v4 + (1 : Int32))), (5, .int r_2), (0, .ref (ad 18)), (1, .ref (ad (8 + x))), (2, .int v2), (3, .int v3)]) hx hb dX1_threeHolds_60 hl (k := 5) rfl (by first | rfl | decide) (by decide) rfl (fun ls hl => ?_)
          refine lv_goto (tgt := 23) hx hb dX1_threeHolds_63 (by decide) ?_
          exact ih _ _ _ _ hf hP hD hS (lv_sub hl [2, 3, 4, 5, 0] rfl)
        · have hf := (if_neg c_3).symm.trans hf
          exact K0 _ _ _ _ _ (Option.some.inj hf).symm hP hD hS (lv_sub hl [1, 3, 4, 5, 0] rfl)
  have L12 : ∀ (Q : State → Prop) (v2 : Int32) (I : SI) (J : SJ) (o : Nat × Int32 × Int32 × Int32), (∀ (w3 : Int32) (w4 : Int32) (w5 : Int32) (H : Heap) (locs : List Loc) (ls : Array Slot), o = (0, w3, w4, w5) → va_P (dC, dI) vwCl ((wB ad cI cJ cT) I J) H → va_D A ((wB ad cI cJ cT) I J) → va_S A s.heap H locs → lv_has ls 6 [(0, .ref (ad 18)), (2, .int v2), (3, .int w3), (4, .int w4), (5, .int w5)] → W p l e ({ frames := 3, cells := 0, slots := 0, locals := 71 } : Room) s m args below meth c H locs 0 0 Q (F0 m 48 ls [])) → (∀ (w3 : Int32) (w4 : Int32) (w5 : Int32) (H : Heap) (locs : List Loc) (ls : Array Slot), o = (1, w3, w4, w5) → va_P (dC, dI) vwCl ((wB ad cI cJ cT) I J) H → va_D A ((wB ad cI cJ cT) I J) → va_S A s.heap H locs → lv_has ls 6 [(0, .ref (ad 18)), (1, .ref (ad (8 + x))), (2, .int v2)] → W p l e ({ frames := 3, cells := 0, slots := 0, locals := 71 } : Room) s m args below meth c H locs 0 0 Q (F0 m 72 ls [])) → ∀ (n : Nat) (v3 : Int32) (H : Heap) (locs : List Loc) (ls : Array Slot), lp_X1_threeHolds_18_12 x v2 I n v3 = some o → va_P (dC, dI) vwCl ((wB ad cI cJ cT) I J) H → va_D A ((wB ad cI cJ cT) I J) → va_S A s.heap H locs → lv_has ls 6 [(0, .ref (ad 18)), (1, .ref (ad (8 + x))), (2, .int v2), (3, .int v3)] → W p l e ({ frames := 3, cells := 0, slots := 0, locals := 71 } : Room) s m args below meth c H locs 0 0 Q (F0 m 12 ls []) := by
    intro Q v2 I J o K0 K1 n
    clear hP hD hS hl
    induction n with
    | zero =>
      intro v3 H locs ls hf
      rw [lp_X1_threeHolds_18_12.eq_1] at hf
      cases hf
    | succ n ih =>
      intro v3 H locs ls hf hP hD hS hl
      rw [lp_X1_threeHolds_18_12.eq_2] at hf
      refine lv_iload_n hx hb dX1_threeHolds_12 rfl (lv_at hl 3 rfl) ?_
      refine lv_aload_n hx hb dX1_threeHolds_13 rfl (lv_at hl 1 rfl) ?_
      refine va_get (D := (dC, dI)) (ci := 6) (v := .int (I (8 + x) 0)) (C := RX7) (T := TX7) (N := 2) hx hb hts in_X7 hown hK hP (8 + x) (((wBT ad cI cJ cT htx)).2.1 I J) rfl 1 (by decide) wd_0 (fun _ h9 => h9) rfl dX1_threeHolds_14 ?_
      refine lv_icmp_ge (tgt := 72) hx hb dX1_threeHolds_17 (by decide) (fun c_4 => ?_) (fun c_4 => ?_)
      · have hf := (if_pos c_4).symm.trans hf
        exact K1 _ _ _ _ _ _ (Option.some.inj hf).symm hP hD hS (lv_sub hl [0, 1, 2] rfl)
      · have hf := (if_neg c_4).symm.trans hf
        refine lv_iconst (v := (1 : Int32)) hx hb dX1_threeHolds_20 (by decide) ?_
        refine lv_istore (lv' := [(4, .int (1 : Int32)), (0, .ref (ad 18)), (1, .ref (ad (8 + x))), (2, .int v2), (3, .int v3)]) hx hb dX1_threeHolds_21 hl (by decide) rfl (fun ls hl => ?_)
        obtain ⟨o_5, hg_5, hf⟩ := bd_some hf
        refine L23 _ v2 v3 I J o_5 ?_ ?_ FU (1 : Int32) _ _ _ hg_5 hP hD hS (lv_sub hl [1, 2, 3, 4, 0] rfl)
        · intro w4_5 w5_5 H locs ls ho hP hD hS hl
          subst o_5
          have hf := (if_pos (show 0 = 0 from rfl)).symm.trans hf
          exact K0 _ _ _ _ _ _ (Option.some.inj hf).symm hP hD hS (lv_sub hl [0, 1, 2, 3, 4] rfl)
        · intro w4_5 w5_5 H locs ls ho hP hD hS hl
          subst o_5
          have hf := (if_neg (show ¬ (1 = 0) by decide)).symm.trans hf
          refine lv_iinc (v := (v3 + (1 : Int32))) (lv' := [(3, .int (v3 + (1 : Int32))), (0, .ref (ad 18)), (1, .ref (ad (8 + x))), (2, .int v2)]) hx hb dX1_threeHolds_66 hl (k := 3) rfl (by first | rfl | decide) (by decide) rfl (fun ls hl => ?_)
          refine lv_goto (tgt := 12) hx hb dX1_threeHolds_69 (by decide) ?_
          exact ih _ _ _ _ hf hP hD hS (lv_sub hl [1, 2, 3, 0] rfl)
  have L2 : ∀ (Q : State → Prop)  (I : SI) (J : SJ) (o : Nat × Int32 × Int32 × Int32 × Int32), (∀ (w2 : Int32) (w3 : Int32) (w4 : Int32) (w5 : Int32) (H : Heap) (locs : List Loc) (ls : Array Slot), o = (0, w2, w3, w4, w5) → va_P (dC, dI) vwCl ((wB ad cI cJ cT) I J) H → va_D A ((wB ad cI cJ cT) I J) → va_S A s.heap H locs → lv_has ls 6 [(0, .ref (ad 18)), (2, .int w2), (3, .int w3), (4, .int w4), (5, .int w5)] → W p l e ({ frames := 3, cells := 0, slots := 0, locals := 71 } : Room) s m args below meth c H locs 0 0 Q (F0 m 48 ls [])) → (∀ (w2 : Int32) (w3 : Int32) (w4 : Int32) (w5 : Int32) (H : Heap) (locs : List Loc) (ls : Array Slot), o = (1, w2, w3, w4, w5) → va_P (dC, dI) vwCl ((wB ad cI cJ cT) I J) H → va_D A ((wB ad cI cJ cT) I J) → va_S A s.heap H locs → lv_has ls 6 [] → W p l e ({ frames := 3, cells := 0, slots := 0, locals := 71 } : Room) s m args below meth c H locs 0 0 Q (F0 m 78 ls [])) → ∀ (n : Nat) (v2 : Int32) (H : Heap) (locs : List Loc) (ls : Array Slot), lp_X1_threeHolds_18_2 x I n v2 = some o → va_P (dC, dI) vwCl ((wB ad cI cJ cT) I J) H → va_D A ((wB ad cI cJ cT) I J) → va_S A s.heap H locs → lv_has ls 6 [(0, .ref (ad 18)), (1, .ref (ad (8 + x))), (2, .int v2)] → W p l e ({ frames := 3, cells := 0, slots := 0, locals := 71 } : Room) s m args below meth c H locs 0 0 Q (F0 m 2 ls []) := by
    intro Q  I J o K0 K1 n
    clear hP hD hS hl
    induction n with
    | zero =>
      intro v2 H locs ls hf
      rw [lp_X1_threeHolds_18_2.eq_1] at hf
      cases hf
    | succ n ih =>
      intro v2 H locs ls hf hP hD hS hl
      rw [lp_X1_threeHolds_18_2.eq_2] at hf
      refine lv_iload_n hx hb dX1_threeHolds_2 rfl (lv_at hl 2 rfl) ?_
      refine lv_aload_n hx hb dX1_threeHolds_3 rfl (lv_at hl 1 rfl) ?_
      refine va_get (D := (dC, dI)) (ci := 6) (v := .int (I (8 + x) 0)) (C := RX7) (T := TX7) (N := 2) hx hb hts in_X7 hown hK hP (8 + x) (((wBT ad cI cJ cT htx)).2.1 I J) rfl 1 (by decide) wd_0 (fun _ h9 => h9) rfl dX1_threeHolds_4 ?_
      refine lv_icmp_ge (tgt := 78) hx hb dX1_threeHolds_7 (by decide) (fun c_6 => ?_) (fun c_6 => ?_)
      · have hf := (if_pos c_6).symm.trans hf
        exact K1 _ _ _ _ _ _ _ (Option.some.inj hf).symm hP hD hS (lv_sub hl [] rfl)
      · have hf := (if_neg c_6).symm.trans hf
        refine lv_iconst (v := (1 : Int32)) hx hb dX1_threeHolds_10 (by decide) ?_
        refine lv_istore_n (lv' := [(3, .int (1 : Int32)), (0, .ref (ad 18)), (1, .ref (ad (8 + x))), (2, .int v2)]) hx hb dX1_threeHolds_11 rfl hl (by decide) rfl (fun ls hl => ?_)
        obtain ⟨o_7, hg_7, hf⟩ := bd_some hf
        refine L12 _ v2 I J o_7 ?_ ?_ FU (1 : Int32) _ _ _ hg_7 hP hD hS (lv_sub hl [1, 2, 3, 0] rfl)
        · intro w3_7 w4_7 w5_7 H locs ls ho hP hD hS hl
          subst o_7
          have hf := (if_pos (show 0 = 0 from rfl)).symm.trans hf
          exact K0 _ _ _ _ _ _ _ (Option.some.inj hf).symm hP hD hS (lv_sub hl [0, 1, 2, 3, 4] rfl)
        · intro w3_7 w4_7 w5_7 H locs ls ho hP hD hS hl
          subst o_7
          have hf := (if_neg (show ¬ (1 = 0) by decide)).symm.trans hf
          refine lv_iinc (v := (v2 + (1 : Int32))) (lv' := [(2, .int (v2 + (1 : Int32))), (0, .ref (ad 18)), (1, .ref (ad (8 + x)))]) hx hb dX1_threeHolds_72 hl (k := 2) rfl (by first | rfl | decide) (by decide) rfl (fun ls hl => ?_)
          refine lv_goto (tgt := 2) hx hb dX1_threeHolds_75 (by decide) ?_
          exact ih _ _ _ _ hf hP hD hS (lv_sub hl [1, 2, 0] rfl)
  unfold f_X1_threeHolds_18 at hf
  refine lv_iconst (v := (1 : Int32)) hx hb dX1_threeHolds_0 (by decide) ?_
  refine lv_istore_n (lv' := [(2, .int (1 : Int32)), (0, .ref (ad 18)), (1, .ref (ad (8 + x)))]) hx hb dX1_threeHolds_1 rfl hl (by decide) rfl (fun ls hl => ?_)
  obtain ⟨o_8, hg_8, hf⟩ := bd_some hf
  refine L2 _ I J o_8 ?_ ?_ FU (1 : Int32) _ _ _ hg_8 hP hD hS (lv_sub hl [1, 2, 0] rfl)
  · intro w2_8 w3_8 w4_8 w5_8 H locs ls ho hP hD hS hl
    subst o_8
    have hf := (if_pos (show 0 = 0 from rfl)).symm.trans hf
    refine lv_aload_n hx hb dX1_threeHolds_48 rfl (lv_at hl 0 rfl) ?_
    refine lv_iconst (v := (5 : Int32)) hx hb dX1_threeHolds_49 (by decide) ?_
    refine lv_iload_n hx hb dX1_threeHolds_50 rfl (lv_at hl 1 rfl) ?_
    refine lv_iload_n hx hb dX1_threeHolds_51 rfl (lv_at hl 2 rfl) ?_
    refine lv_iload hx hb dX1_threeHolds_52 (lv_at hl 3 rfl) ?_
    refine lv_iload hx hb dX1_threeHolds_54 (lv_at hl 4 rfl) ?_
    obtain ⟨⟨r_9, I_9⟩, hg_9, hf⟩ := bd_some hf
    refine xVi (rest := []) (c_X1_breaks_18 l dC dI ad cI cJ cT (5 : Int32) w2_8 w3_8 w4_8 w5_8 I J hg_9) hfix (cwV 5 hts gX1_threeHolds_X1_breaks rfl rfl rfl (by decide +kernel) ⟨Nat.le_of_ble_eq_true rfl, Nat.le_of_ble_eq_true rfl⟩) hK hP hD hS hA (va_recv hK hP (ci := 1) (q0 := 18) rfl (obB_18 ad cI cJ cT I J)) rfl hl.1 rfl (Nat.le_of_ble_eq_true rfl) ⟨Nat.zero_le _, Nat.zero_le _⟩ dX1_threeHolds_56 (fun H locs hP hD hS => ?_)
    obtain ⟨h_10, hf⟩ := gd_some hf
    cases hf
    exact xRz hx hb hr hlocks (nz h_10) hK hP hD hS (fun _ h => h) dX1_threeHolds_59
  · intro w2_8 w3_8 w4_8 w5_8 H locs ls ho hP hD hS hl
    subst o_8
    have hf := (if_neg (show ¬ (1 = 0) by decide)).symm.trans hf
    refine lv_iconst (v := (1 : Int32)) hx hb dX1_threeHolds_78 (by decide) ?_
    cases hf
    exact xRz hx hb hr hlocks rfl hK hP hD hS (fun _ h => h) dX1_threeHolds_79
set_option maxHeartbeats 4000000 in
set_option maxRecDepth 100000 in
theorem c_X1_threeHolds_21 (l : Launch) (dC : Nat → ClassId) (dI : Nat → Nat → Nat) (ad : Nat → Nat) (cI cJ cT : ClassId) (x : Nat) (htx : x < 8) (I : SI) (J : SJ) {r0 : Int32} {I0 : SI} (hf : f_X1_threeHolds_21 x I = some (r0, I0)) : CtI l yX1_threeHolds wsX1_threeHolds ({ frames := 3, cells := 0, slots := 0, locals := 71 } : Room) (dC, dI) (tys3 cI cJ cT) (wB ad cI cJ cT) [.ref (ad 21), .ref (ad (8 + x))] I J r0 I0 J := by
  intro sz
  refine Met.ofW (cc := cX1_threeHolds) (maxL := 6) (ret := (some .boolean)) (by decide) rfl ?_
  intro p e s m args below meth c s₁ B hml hv
  obtain ⟨hargs, hsz, hP, hK, hD0⟩ := hv
  have hx := B.exec
  have hb := B.bytes
  have hr := B.returns
  have hts := atoms_spec (ws := wsX1_threeHolds) B.pre
  have hown : s.vm.findClass RX1 = some m.cls := findClass_of_methodNamed B.named
  have hlocks := B.notSynchronized
  subst hsz
  have hD := hD0.self (sz := s.heap.size)
  generalize hAe : va_A ((wB ad cI cJ cT) I J) s.heap.size = A at hD ⊢
  have hA : ∀ q : Nat, s.heap.size ≤ q → A q := fun q h => by rw [← hAe]; exact Or.inr h
  have hS : va_S A s.heap s.heap [] := va_S.rf
  have hl := lv_entry ([.ref (ad 21), .ref (ad (8 + x))]) (n := 6) (Nat.le_of_ble_eq_true rfl)
  rw [hargs, lg_entry_eq, ← hargs]
  generalize (lg_sl ([.ref (ad 21), .ref (ad (8 + x))]) ++ List.replicate (6 - (lg_sl ([.ref (ad 21), .ref (ad (8 + x))])).length) Slot.unset).toArray = ls at hl ⊢
  have hl : lv_has ls 6 [(0, .ref (ad 21)), (1, .ref (ad (8 + x)))] := hl
  have hfix : CallFix p m c cX1_threeHolds 6 s args wsX1_threeHolds RX1 := ⟨hx, hb, hml, hown, hts⟩
  have in_X7 : ∀ w ∈ u_ws RX7 TX7 2, w ∈ wsX1_threeHolds := by decide +kernel
  have wd_0 := hts (.fieldLink RX1 44 "FuseBench$Table" "kinds" "I") (by decide +kernel)
  have L23 : ∀ (Q : State → Prop) (v2 : Int32) (v3 : Int32) (I : SI) (J : SJ) (o : Nat × Int32 × Int32), (∀ (w4 : Int32) (w5 : Int32) (H : Heap) (locs : List Loc) (ls : Array Slot), o = (0, w4, w5) → va_P (dC, dI) vwCl ((wB ad cI cJ cT) I J) H → va_D A ((wB ad cI cJ cT) I J) → va_S A s.heap H locs → lv_has ls 6 [(0, .ref (ad 21)), (2, .int v2), (3, .int v3), (4, .int w4), (5, .int w5)] → W p l e ({ frames := 3, cells := 0, slots := 0, locals := 71 } : Room) s m args below meth c H locs 0 0 Q (F0 m 48 ls [])) → (∀ (w4 : Int32) (w5 : Int32) (H : Heap) (locs : List Loc) (ls : Array Slot), o = (1, w4, w5) → va_P (dC, dI) vwCl ((wB ad cI cJ cT) I J) H → va_D A ((wB ad cI cJ cT) I J) → va_S A s.heap H locs → lv_has ls 6 [(0, .ref (ad 21)), (1, .ref (ad (8 + x))), (2, .int v2), (3, .int v3)] → W p l e ({ frames := 3, cells := 0, slots := 0, locals := 71 } : Room) s m args below meth c H locs 0 0 Q (F0 m 66 ls [])) → ∀ (n : Nat) (v4 : Int32) (H : Heap) (locs : List Loc) (ls : Array Slot), lp_X1_threeHolds_21_23 x v2 v3 I n v4 = some o → va_P (dC, dI) vwCl ((wB ad cI cJ cT) I J) H → va_D A ((wB ad cI cJ cT) I J) → va_S A s.heap H locs → lv_has ls 6 [(0, .ref (ad 21)), (1, .ref (ad (8 + x))), (2, .int v2), (3, .int v3), (4, .int v4)] → W p l e ({ frames := 3, cells := 0, slots := 0, locals := 71 } : Room) s m args below meth c H locs 0 0 Q (F0 m 23 ls []) := by
    intro Q v2 v3 I J o K0 K1 n
    clear hP hD hS hl
    induction n with
    | zero =>
      intro v4 H locs ls hf
      rw [lp_X1_threeHolds_21_23.eq_1] at hf
      cases hf
    | succ n ih =>
      intro v4 H locs ls hf hP hD hS hl
      rw [lp_X1_threeHolds_21_23.eq_2] at hf
      refine lv_iload hx hb dX1_threeHolds_23 (lv_at hl 4 rfl) ?_
      refine lv_aload_n hx hb dX1_threeHolds_25 rfl (lv_at hl 1 rfl) ?_
      refine va_get (D := (dC, dI)) (ci := 6) (v := .int (I (8 + x) 0)) (C := RX7) (T := TX7) (N := 2) hx hb hts in_X7 hown hK hP (8 + x) (((wBT ad cI cJ cT htx)).2.1 I J) rfl 1 (by decide) wd_0 (fun _ h9 => h9) rfl dX1_threeHolds_26 ?_
      refine lv_icmp_ge (tgt := 66) hx hb dX1_threeHolds_29 (by decide) (fun c_1 => ?_) (fun c_1 => ?_)
      · have hf := (if_pos c_1).symm.trans hf
        exact K1 _ _ _ _ _ (Option.some.inj hf).symm hP hD hS (lv_sub hl [0, 1, 2, 3] rfl)
      · have hf := (if_neg c_1).symm.trans hf
        refine lv_aload_n hx hb dX1_threeHolds_32 rfl (lv_at hl 1 rfl) ?_
        refine lv_iload_n hx hb dX1_threeHolds_33 rfl (lv_at hl 2 rfl) ?_
        refine lv_iload_n hx hb dX1_threeHolds_34 rfl (lv_at hl 3 rfl) ?_
        refine lv_iload hx hb dX1_threeHolds_35 (lv_at hl 4 rfl) ?_
        obtain ⟨r_2, hg_2, hf⟩ := bd_some hf
        refine xSi (rest := []) (c_X1_firstUnlike l dC dI ad cI cJ cT x htx v2 v3 v4 I J hg_2) hfix (va_cwS 4 hts gX1_threeHolds_X1_firstUnlike rfl rfl rfl (by decide +kernel) ⟨Nat.le_of_ble_eq_true rfl, Nat.le_of_ble_eq_true rfl⟩) hK hP hD hS hA rfl hl.1 rfl (Nat.le_of_ble_eq_true rfl) ⟨Nat.zero_le _, Nat.zero_le _⟩ dX1_threeHolds_37 (fun H locs hP hD hS => ?_)
        refine lv_istore (lv' := [(5, .int r_2), (0, .ref (ad 21)), (1, .ref (ad (8 + x))), (2, .int v2), (3, .int v3), (4, .int v4)]) hx hb dX1_threeHolds_40 hl (by decide) rfl (fun ls hl => ?_)
        refine lv_iload hx hb dX1_threeHolds_42 (lv_at hl 0 rfl) ?_
        refine lv_iconst (v := (-1 : Int32)) hx hb dX1_threeHolds_44 (by decide) ?_
        refine lv_icmp_eq (tgt := 60) hx hb dX1_threeHolds_45 (by decide) (fun c_3 => ?_) (fun c_3 => ?_)
        · have hf := (if_pos c_3).symm.trans hf
          refine lv_iinc (v := (v4 + (1 : Int32))) (lv' := [(4, .int (v4 + (1 : Int32))), (5, .int r_2), (0, .ref (ad 21)), (1, .ref (ad (8 + x))), (2, .int v2), (3, .int v3)]) hx hb dX1_threeHolds_60 hl (k := 5) rfl (by first | rfl | decide) (by decide) rfl (fun ls hl => ?_)
          refine lv_goto (tgt := 23) hx hb dX1_threeHolds_63 (by decide) ?_
          exact ih _ _ _ _ hf hP hD hS (lv_sub hl [2, 3, 4, 5, 0] rfl)
        · have hf := (if_neg c_3).symm.trans hf
          exact K0 _ _ _ _ _ (Option.some.inj hf).symm hP hD hS (lv_sub hl [1, 3, 4, 5, 0] rfl)
  have L12 : ∀ (Q : State → Prop) (v2 : Int32) (I : SI) (J : SJ) (o : Nat × Int32 × Int32 × Int32), (∀ (w3 : Int32) (w4 : Int32) (w5 : Int32) (H : Heap) (locs : List Loc) (ls : Array Slot), o = (0, w3, w4, w5) → va_P (dC, dI) vwCl ((wB ad cI cJ cT) I J) H → va_D A ((wB ad cI cJ cT) I J) → va_S A s.heap H locs → lv_has ls 6 [(0, .ref (ad 21)), (2, .int v2), (3, .int w3), (4, .int w4), (5, .int w5)] → W p l e ({ frames := 3, cells := 0, slots := 0, locals := 71 } : Room) s m args below meth c H locs 0 0 Q (F0 m 48 ls [])) → (∀ (w3 : Int32) (w4 : Int32) (w5 : Int32) (H : Heap) (locs : List Loc) (ls : Array Slot), o = (1, w3, w4, w5) → va_P (dC, dI) vwCl ((wB ad cI cJ cT) I J) H → va_D A ((wB ad cI cJ cT) I J) → va_S A s.heap H locs → lv_has ls 6 [(0, .ref (ad 21)), (1, .ref (ad (8 + x))), (2, .int v2)] → W p l e ({ frames := 3, cells := 0, slots := 0, locals := 71 } : Room) s m args below meth c H locs 0 0 Q (F0 m 72 ls [])) → ∀ (n : Nat) (v3 : Int32) (H : Heap) (locs : List Loc) (ls : Array Slot), lp_X1_threeHolds_21_12 x v2 I n v3 = some o → va_P (dC, dI) vwCl ((wB ad cI cJ cT) I J) H → va_D A ((wB ad cI cJ cT) I J) → va_S A s.heap H locs → lv_has ls 6 [(0, .ref (ad 21)), (1, .ref (ad (8 + x))), (2, .int v2), (3, .int v3)] → W p l e ({ frames := 3, cells := 0, slots := 0, locals := 71 } : Room) s m args below meth c H locs 0 0 Q (F0 m 12 ls []) := by
    intro Q v2 I J o K0 K1 n
    clear hP hD hS hl
    induction n with
    | zero =>
      intro v3 H locs ls hf
      rw [lp_X1_threeHolds_21_12.eq_1] at hf
      cases hf
    | succ n ih =>
      intro v3 H locs ls hf hP hD hS hl
      rw [lp_X1_threeHolds_21_12.eq_2] at hf
      refine lv_iload_n hx hb dX1_threeHolds_12 rfl (lv_at hl 3 rfl) ?_
      refine lv_aload_n hx hb dX1_threeHolds_13 rfl (lv_at hl 1 rfl) ?_
      refine va_get (D := (dC, dI)) (ci := 6) (v := .int (I (8 + x) 0)) (C := RX7) (T := TX7) (N := 2) hx hb hts in_X7 hown hK hP (8 + x) (((wBT ad cI cJ cT htx)).2.1 I J) rfl 1 (by decide) wd_0 (fun _ h9 => h9) rfl dX1_threeHolds_14 ?_
      refine lv_icmp_ge (tgt := 72) hx hb dX1_threeHolds_17 (by decide) (fun c_4 => ?_) (fun c_4 => ?_)
      · have hf := (if_pos c_4).symm.trans hf
        exact K1 _ _ _ _ _ _ (Option.some.inj hf).symm hP hD hS (lv_sub hl [0, 1, 2] rfl)
      · have hf := (if_neg c_4).symm.trans hf
        refine lv_iconst (v := (1 : Int32)) hx hb dX1_threeHolds_20 (by decide) ?_
        refine lv_istore (lv' := [(4, .int (1 : Int32)), (0, .ref (ad 21)), (1, .ref (ad (8 + x))), (2, .int v2), (3, .int v3)]) hx hb dX1_threeHolds_21 hl (by decide) rfl (fun ls hl => ?_)
        obtain ⟨o_5, hg_5, hf⟩ := bd_some hf
        refine L23 _ v2 v3 I J o_5 ?_ ?_ FU (1 : Int32) _ _ _ hg_5 hP hD hS (lv_sub hl [1, 2, 3, 4, 0] rfl)
        · intro w4_5 w5_5 H locs ls ho hP hD hS hl
          subst o_5
          have hf := (if_pos (show 0 = 0 from rfl)).symm.trans hf
          exact K0 _ _ _ _ _ _ (Option.some.inj hf).symm hP hD hS (lv_sub hl [0, 1, 2, 3, 4] rfl)
        · intro w4_5 w5_5 H locs ls ho hP hD hS hl
          subst o_5
          have hf := (if_neg (show ¬ (1 = 0) by decide)).symm.trans hf
          refine lv_iinc (v := (v3 + (1 : Int32))) (lv' := [(3, .int (v3 + (1 : Int32))), (0, .ref (ad 21)), (1, .ref (ad (8 + x))), (2, .int v2)]) hx hb dX1_threeHolds_66 hl (k := 3) rfl (by first | rfl | decide) (by decide) rfl (fun ls hl => ?_)
          refine lv_goto (tgt := 12) hx hb dX1_threeHolds_69 (by decide) ?_
          exact ih _ _ _ _ hf hP hD hS (lv_sub hl [1, 2, 3, 0] rfl)
  have L2 : ∀ (Q : State → Prop)  (I : SI) (J : SJ) (o : Nat × Int32 × Int32 × Int32 × Int32), (∀ (w2 : Int32) (w3 : Int32) (w4 : Int32) (w5 : Int32) (H : Heap) (locs : List Loc) (ls : Array Slot), o = (0, w2, w3, w4, w5) → va_P (dC, dI) vwCl ((wB ad cI cJ cT) I J) H → va_D A ((wB ad cI cJ cT) I J) → va_S A s.heap H locs → lv_has ls 6 [(0, .ref (ad 21)), (2, .int w2), (3, .int w3), (4, .int w4), (5, .int w5)] → W p l e ({ frames := 3, cells := 0, slots := 0, locals := 71 } : Room) s m args below meth c H locs 0 0 Q (F0 m 48 ls [])) → (∀ (w2 : Int32) (w3 : Int32) (w4 : Int32) (w5 : Int32) (H : Heap) (locs : List Loc) (ls : Array Slot), o = (1, w2, w3, w4, w5) → va_P (dC, dI) vwCl ((wB ad cI cJ cT) I J) H → va_D A ((wB ad cI cJ cT) I J) → va_S A s.heap H locs → lv_has ls 6 [] → W p l e ({ frames := 3, cells := 0, slots := 0, locals := 71 } : Room) s m args below meth c H locs 0 0 Q (F0 m 78 ls [])) → ∀ (n : Nat) (v2 : Int32) (H : Heap) (locs : List Loc) (ls : Array Slot), lp_X1_threeHolds_21_2 x I n v2 = some o → va_P (dC, dI) vwCl ((wB ad cI cJ cT) I J) H → va_D A ((wB ad cI cJ cT) I J) → va_S A s.heap H locs → lv_has ls 6 [(0, .ref (ad 21)), (1, .ref (ad (8 + x))), (2, .int v2)] → W p l e ({ frames := 3, cells := 0, slots := 0, locals := 71 } : Room) s m args below meth c H locs 0 0 Q (F0 m 2 ls []) := by
    intro Q  I J o K0 K1 n
    clear hP hD hS hl
    induction n with
    | zero =>
      intro v2 H locs ls hf
      rw [lp_X1_threeHolds_21_2.eq_1] at hf
      cases hf
    | succ n ih =>
      intro v2 H locs ls hf hP hD hS hl
      rw [lp_X1_threeHolds_21_2.eq_2] at hf
      refine lv_iload_n hx hb dX1_threeHolds_2 rfl (lv_at hl 2 rfl) ?_
      refine lv_aload_n hx hb dX1_threeHolds_3 rfl (lv_at hl 1 rfl) ?_
      refine va_get (D := (dC, dI)) (ci := 6) (v := .int (I (8 + x) 0)) (C := RX7) (T := TX7) (N := 2) hx hb hts in_X7 hown hK hP (8 + x) (((wBT ad cI cJ cT htx)).2.1 I J) rfl 1 (by decide) wd_0 (fun _ h9 => h9) rfl dX1_threeHolds_4 ?_
      refine lv_icmp_ge (tgt := 78) hx hb dX1_threeHolds_7 (by decide) (fun c_6 => ?_) (fun c_6 => ?_)
      · have hf := (if_pos c_6).symm.trans hf
        exact K1 _ _ _ _ _ _ _ (Option.some.inj hf).symm hP hD hS (lv_sub hl [] rfl)
      · have hf := (if_neg c_6).symm.trans hf
        refine lv_iconst (v := (1 : Int32)) hx hb dX1_threeHolds_10 (by decide) ?_
        refine lv_istore_n (lv' := [(3, .int (1 : Int32)), (0, .ref (ad 21)), (1, .ref (ad (8 + x))), (2, .int v2)]) hx hb dX1_threeHolds_11 rfl hl (by decide) rfl (fun ls hl => ?_)
        obtain ⟨o_7, hg_7, hf⟩ := bd_some hf
        refine L12 _ v2 I J o_7 ?_ ?_ FU (1 : Int32) _ _ _ hg_7 hP hD hS (lv_sub hl [1, 2, 3, 0] rfl)
        · intro w3_7 w4_7 w5_7 H locs ls ho hP hD hS hl
          subst o_7
          have hf := (if_pos (show 0 = 0 from rfl)).symm.trans hf
          exact K0 _ _ _ _ _ _ _ (Option.some.inj hf).symm hP hD hS (lv_sub hl [0, 1, 2, 3, 4] rfl)
        · intro w3_7 w4_7 w5_7 H locs ls ho hP hD hS hl
          subst o_7
          have hf := (if_neg (show ¬ (1 = 0) by decide)).symm.trans hf
          refine lv_iinc (v := (v2 + (1 : Int32))) (lv' := [(2, .int (v2 + (1 : Int32))), (0, .ref (ad 21)), (1, .ref (ad (8 + x)))]) hx hb dX1_threeHolds_72 hl (k := 2) rfl (by first | rfl | decide) (by decide) rfl (fun ls hl => ?_)
          refine lv_goto (tgt := 2) hx hb dX1_threeHolds_75 (by decide) ?_
          exact ih _ _ _ _ hf hP hD hS (lv_sub hl [1, 2, 0] rfl)
  unfold f_X1_threeHolds_21 at hf
  refine lv_iconst (v := (1 : Int32)) hx hb dX1_threeHolds_0 (by decide) ?_
  refine lv_istore_n (lv' := [(2, .int (1 : Int32)), (0, .ref (ad 21)), (1, .ref (ad (8 + x)))]) hx hb dX1_threeHolds_1 rfl hl (by decide) rfl (fun ls hl => ?_)
  obtain ⟨o_8, hg_8, hf⟩ := bd_some hf
  refine L2 _ I J o_8 ?_ ?_ FU (1 : Int32) _ _ _ hg_8 hP hD hS (lv_sub hl [1, 2, 0] rfl)
  · intro w2_8 w3_8 w4_8 w5_8 H locs ls ho hP hD hS hl
    subst o_8
    have hf := (if_pos (show 0 = 0 from rfl)).symm.trans hf
    refine lv_aload_n hx hb dX1_threeHolds_48 rfl (lv_at hl 0 rfl) ?_
    refine lv_iconst (v := (5 : Int32)) hx hb dX1_threeHolds_49 (by decide) ?_
    refine lv_iload_n hx hb dX1_threeHolds_50 rfl (lv_at hl 1 rfl) ?_
    refine lv_iload_n hx hb dX1_threeHolds_51 rfl (lv_at hl 2 rfl) ?_
    refine lv_iload hx hb dX1_threeHolds_52 (lv_at hl 3 rfl) ?_
    refine lv_iload hx hb dX1_threeHolds_54 (lv_at hl 4 rfl) ?_
    obtain ⟨⟨r_9, I_9⟩, hg_9, hf⟩ := bd_some hf
    refine xVi (rest := []) (c_X1_breaks_21 l dC dI ad cI cJ cT (5 : Int32) w2_8 w3_8 w4_8 w5_8 I J hg_9) hfix (cwV 5 hts gX1_threeHolds_X1_breaks rfl rfl rfl (by decide +kernel) ⟨Nat.le_of_ble_eq_true rfl, Nat.le_of_ble_eq_true rfl⟩) hK hP hD hS hA (va_recv hK hP (ci := 1) (q0 := 21) rfl (obB_21 ad cI cJ cT I J)) rfl hl.1 rfl (Nat.le_of_ble_eq_true rfl) ⟨Nat.zero_le _, Nat.zero_le _⟩ dX1_threeHolds_56 (fun H locs hP hD hS => ?_)
    obtain ⟨h_10, hf⟩ := gd_some hf
    cases hf
    exact xRz hx hb hr hlocks (nz h_10) hK hP hD hS (fun _ h => h) dX1_threeHolds_59
  · intro w2_8 w3_8 w4_8 w5_8 H locs ls ho hP hD hS hl
    subst o_8
    have hf := (if_neg (show ¬ (1 = 0) by decide)).symm.trans hf
    refine lv_iconst (v := (1 : Int32)) hx hb dX1_threeHolds_78 (by decide) ?_
    cases hf
    exact xRz hx hb hr hlocks rfl hK hP hD hS (fun _ h => h) dX1_threeHolds_79
set_option maxHeartbeats 4000000 in
set_option maxRecDepth 100000 in
theorem c_J7_fill (l : Launch) (dC : Nat → ClassId) (dI : Nat → Nat → Nat) (ad : Nat → Nat) (cI cJ cT : ClassId) (w : SI → SJ → va_W) (pq : Nat → Nat) (ga gk gn gq : Nat) (hga : AI w cI ga gk gn gq) (p1 : Int32) (I : SI) (J : SJ) {I0 : SI} (hf : f_J7_fill gk gn p1 I = some I0) : CtV l yJ7_fill_53178 wsJ7_fill_53178 ({ frames := 0, cells := 0, slots := 0, locals := 0 } : Room) (dC, dI) (tys3 cI cJ cT) w [.ref (ga), .int p1] I J I0 J := by
  intro sz
  refine Met.ofW (cc := cJ7_fill_53178) (maxL := 4) (ret := none) (by decide) rfl ?_
  intro p e s m args below meth c s₁ B hml hv
  obtain ⟨hargs, hsz, hP, hK, hD0⟩ := hv
  have hx := B.exec
  have hb := B.bytes
  have hr := B.returns
  have hts := atoms_spec (ws := wsJ7_fill_53178) B.pre
  have hown : s.vm.findClass RJ7 = some m.cls := findClass_of_methodNamed B.named
  have hlocks := B.notSynchronized
  subst hsz
  have hD := hD0.self (sz := s.heap.size)
  generalize hAe : va_A (w I J) s.heap.size = A at hD ⊢
  have hA : ∀ q : Nat, s.heap.size ≤ q → A q := fun q h => by rw [← hAe]; exact Or.inr h
  have hS : va_S A s.heap s.heap [] := va_S.rf
  have hl := lv_entry ([.ref (ga), .int p1]) (n := 4) (Nat.le_of_ble_eq_true rfl)
  rw [hargs, lg_entry_eq, ← hargs]
  generalize (lg_sl ([.ref (ga), .int p1]) ++ List.replicate (4 - (lg_sl ([.ref (ga), .int p1])).length) Slot.unset).toArray = ls at hl ⊢
  have hl : lv_has ls 4 [(0, .ref (ga)), (1, .int p1)] := hl
  have hfix : CallFix p m c cJ7_fill_53178 4 s args wsJ7_fill_53178 RJ7 := ⟨hx, hb, hml, hown, hts⟩
  have L5 : ∀ (Q : State → Prop) (v1 : Int32) (v3 : Int32) (J : SJ) (o : SI), (∀  (I : SI) (H : Heap) (locs : List Loc) (ls : Array Slot), o = I → va_P (dC, dI) vwCl (w I J) H → va_D A (w I J) → va_S A s.heap H locs → lv_has ls 4 [] → W p l e ({ frames := 0, cells := 0, slots := 0, locals := 0 } : Room) s m args below meth c H locs 0 0 Q (F0 m 20 ls [])) → ∀ (n : Nat) (v2 : Int32) (I : SI) (H : Heap) (locs : List Loc) (ls : Array Slot), lp_J7_fill_5 gk gn v1 v3 n v2 I = some o → va_P (dC, dI) vwCl (w I J) H → va_D A (w I J) → va_S A s.heap H locs → lv_has ls 4 [(0, .ref (ga)), (1, .int v1), (2, .int v2), (3, .int v3)] → W p l e ({ frames := 0, cells := 0, slots := 0, locals := 0 } : Room) s m args below meth c H locs 0 0 Q (F0 m 5 ls []) := by
    intro Q v1 v3 J o K0 n
    clear hP hD hS hl
    induction n with
    | zero =>
      intro v2 I H locs ls hf
      rw [lp_J7_fill_5.eq_1] at hf
      cases hf
    | succ n ih =>
      intro v2 I H locs ls hf hP hD hS hl
      rw [lp_J7_fill_5.eq_2] at hf
      refine lv_iload_n hx hb dJ7_fill_53178_5 rfl (lv_at hl 2 rfl) ?_
      refine lv_iload_n hx hb dJ7_fill_53178_6 rfl (lv_at hl 3 rfl) ?_
      refine lv_icmp_ge (tgt := 20) hx hb dJ7_fill_53178_7 (by decide) (fun c_1 => ?_) (fun c_1 => ?_)
      · have hf := (if_pos c_1).symm.trans hf
        exact K0 _ _ _ _ (Option.some.inj hf).symm hP hD hS (lv_sub hl [] rfl)
      · have hf := (if_neg c_1).symm.trans hf
        refine lv_aload_n hx hb dJ7_fill_53178_10 rfl (lv_at hl 0 rfl) ?_
        refine lv_iload_n hx hb dJ7_fill_53178_11 rfl (lv_at hl 2 rfl) ?_
        refine lv_iload_n hx hb dJ7_fill_53178_12 rfl (lv_at hl 1 rfl) ?_
        obtain ⟨h_2, hf⟩ := gd_some hf
        refine x_iast hx hb hK hga hP hD hS h_2 dJ7_fill_53178_13 (fun H locs hP hD hS => ?_)
        refine lv_iinc (v := (v2 + (1 : Int32))) (lv' := [(2, .int (v2 + (1 : Int32))), (0, .ref (ga)), (1, .int v1), (3, .int v3)]) hx hb dJ7_fill_53178_14 hl (k := 2) rfl (by first | rfl | decide) (by decide) rfl (fun ls hl => ?_)
        refine lv_goto (tgt := 5) hx hb dJ7_fill_53178_17 (by decide) ?_
        exact ih _ _ _ _ _ hf hP hD hS (lv_sub hl [1, 2, 0, 3] rfl)
  unfold f_J7_fill at hf
  refine lv_iconst (v := (0 : Int32)) hx hb dJ7_fill_53178_0 (by decide) ?_
  refine lv_istore_n (lv' := [(2, .int (0 : Int32)), (0, .ref (ga)), (1, .int p1)]) hx hb dJ7_fill_53178_1 rfl hl (by decide) rfl (fun ls hl => ?_)
  refine lv_aload_n hx hb dJ7_fill_53178_2 rfl (lv_at hl 1 rfl) ?_
  refine x_alen hx hb hK hga hP dJ7_fill_53178_3 ?_
  refine lv_istore_n (lv' := [(3, .int (nI gn)), (2, .int (0 : Int32)), (0, .ref (ga)), (1, .int p1)]) hx hb dJ7_fill_53178_4 rfl hl (by decide) rfl (fun ls hl => ?_)
  obtain ⟨o_3, hg_3, hf⟩ := bd_some hf
  refine L5 _ p1 (nI gn) J o_3 ?_ FU (0 : Int32) I _ _ _ hg_3 hP hD hS (lv_sub hl [2, 3, 1, 0] rfl)
  · intro I_3 H locs ls ho hP hD hS hl
    subst o_3
    cases hf
    exact xRv hx hb hr hlocks hK hP hD hS (fun _ h => h) dJ7_fill_53178_20
set_option maxHeartbeats 4000000 in
set_option maxRecDepth 100000 in
theorem c_J7_fillJ (l : Launch) (dC : Nat → ClassId) (dI : Nat → Nat → Nat) (ad : Nat → Nat) (cI cJ cT : ClassId) (w : SI → SJ → va_W) (pq : Nat → Nat) (ga gk gn gq : Nat) (hga : AJ w cJ ga gk gn gq) (p1 : Int64) (I : SI) (J : SJ) {J0 : SJ} (hf : f_J7_fillJ gk gn p1 J = some J0) : CtV l yJ7_fill_d0a16 wsJ7_fill_d0a16 ({ frames := 0, cells := 0, slots := 0, locals := 0 } : Room) (dC, dI) (tys3 cI cJ cT) w [.ref (ga), .long p1] I J I J0 := by
  intro sz
  refine Met.ofW (cc := cJ7_fill_d0a16) (maxL := 5) (ret := none) (by decide) rfl ?_
  intro p e s m args below meth c s₁ B hml hv
  obtain ⟨hargs, hsz, hP, hK, hD0⟩ := hv
  have hx := B.exec
  have hb := B.bytes
  have hr := B.returns
  have hts := atoms_spec (ws := wsJ7_fill_d0a16) B.pre
  have hown : s.vm.findClass RJ7 = some m.cls := findClass_of_methodNamed B.named
  have hlocks := B.notSynchronized
  subst hsz
  have hD := hD0.self (sz := s.heap.size)
  generalize hAe : va_A (w I J) s.heap.size = A at hD ⊢
  have hA : ∀ q : Nat, s.heap.size ≤ q → A q := fun q h => by rw [← hAe]; exact Or.inr h
  have hS : va_S A s.heap s.heap [] := va_S.rf
  have hl := lv_entry ([.ref (ga), .long p1]) (n := 5) (Nat.le_of_ble_eq_true rfl)
  rw [hargs, lg_entry_eq, ← hargs]
  generalize (lg_sl ([.ref (ga), .long p1]) ++ List.replicate (5 - (lg_sl ([.ref (ga), .long p1])).length) Slot.unset).toArray = ls at hl ⊢
  have hl : lv_has ls 5 [(0, .ref (ga)), (1, .long p1)] := hl
  have hfix : CallFix p m c cJ7_fill_d0a16 5 s args wsJ7_fill_d0a16 RJ7 := ⟨hx, hb, hml, hown, hts⟩
  have L6 : ∀ (Q : State → Prop) (v1 : Int64) (v4 : Int32) (I : SI) (o : SJ), (∀  (J : SJ) (H : Heap) (locs : List Loc) (ls : Array Slot), o = J → va_P (dC, dI) vwCl (w I J) H → va_D A (w I J) → va_S A s.heap H locs → lv_has ls 5 [] → W p l e ({ frames := 0, cells := 0, slots := 0, locals := 0 } : Room) s m args below meth c H locs 0 0 Q (F0 m 22 ls [])) → ∀ (n : Nat) (v3 : Int32) (J : SJ) (H : Heap) (locs : List Loc) (ls : Array Slot), lp_J7_fillJ_6 gk gn v1 v4 n v3 J = some o → va_P (dC, dI) vwCl (w I J) H → va_D A (w I J) → va_S A s.heap H locs → lv_has ls 5 [(0, .ref (ga)), (1, .long v1), (3, .int v3), (4, .int v4)] → W p l e ({ frames := 0, cells := 0, slots := 0, locals := 0 } : Room) s m args below meth c H locs 0 0 Q (F0 m 6 ls []) := by
    intro Q v1 v4 I o K0 n
    clear hP hD hS hl
    induction n with
    | zero =>
      intro v3 J H locs ls hf
      rw [lp_J7_fillJ_6.eq_1] at hf
      cases hf
    | succ n ih =>
      intro v3 J H locs ls hf hP hD hS hl
      rw [lp_J7_fillJ_6.eq_2] at hf
      refine lv_iload_n hx hb dJ7_fill_d0a16_6 rfl (lv_at hl 2 rfl) ?_
      refine lv_iload hx hb dJ7_fill_d0a16_7 (lv_at hl 3 rfl) ?_
      refine lv_icmp_ge (tgt := 22) hx hb dJ7_fill_d0a16_9 (by decide) (fun c_1 => ?_) (fun c_1 => ?_)
      · have hf := (if_pos c_1).symm.trans hf
        exact K0 _ _ _ _ (Option.some.inj hf).symm hP hD hS (lv_sub hl [] rfl)
      · have hf := (if_neg c_1).symm.trans hf
        refine lv_aload_n hx hb dJ7_fill_d0a16_12 rfl (lv_at hl 0 rfl) ?_
        refine lv_iload_n hx hb dJ7_fill_d0a16_13 rfl (lv_at hl 2 rfl) ?_
        refine lv_lload_n hx hb dJ7_fill_d0a16_14 rfl (lv_at hl 1 rfl) ?_
        obtain ⟨h_2, hf⟩ := gd_some hf
        refine x_last hx hb hK hga hP hD hS h_2 dJ7_fill_d0a16_15 (fun H locs hP hD hS => ?_)
        refine lv_iinc (v := (v3 + (1 : Int32))) (lv' := [(3, .int (v3 + (1 : Int32))), (0, .ref (ga)), (1, .long v1), (4, .int v4)]) hx hb dJ7_fill_d0a16_16 hl (k := 2) rfl (by first | rfl | decide) (by decide) rfl (fun ls hl => ?_)
        refine lv_goto (tgt := 6) hx hb dJ7_fill_d0a16_19 (by decide) ?_
        exact ih _ _ _ _ _ hf hP hD hS (lv_sub hl [1, 2, 0, 3] rfl)
  unfold f_J7_fillJ at hf
  refine lv_iconst (v := (0 : Int32)) hx hb dJ7_fill_d0a16_0 (by decide) ?_
  refine lv_istore_n (lv' := [(3, .int (0 : Int32)), (0, .ref (ga)), (1, .long p1)]) hx hb dJ7_fill_d0a16_1 rfl hl (by decide) rfl (fun ls hl => ?_)
  refine lv_aload_n hx hb dJ7_fill_d0a16_2 rfl (lv_at hl 1 rfl) ?_
  refine x_alenJ hx hb hK hga hP dJ7_fill_d0a16_3 ?_
  refine lv_istore (lv' := [(4, .int (nI gn)), (3, .int (0 : Int32)), (0, .ref (ga)), (1, .long p1)]) hx hb dJ7_fill_d0a16_4 hl (by decide) rfl (fun ls hl => ?_)
  obtain ⟨o_3, hg_3, hf⟩ := bd_some hf
  refine L6 _ p1 (nI gn) I o_3 ?_ FU (0 : Int32) J _ _ _ hg_3 hP hD hS (lv_sub hl [2, 3, 1, 0] rfl)
  · intro J_3 H locs ls ho hP hD hS hl
    subst o_3
    cases hf
    exact xRv hx hb hr hlocks hK hP hD hS (fun _ h => h) dJ7_fill_d0a16_22
set_option maxHeartbeats 4000000 in
set_option maxRecDepth 100000 in
theorem c_J6_bitCount (l : Launch) (dC : Nat → ClassId) (dI : Nat → Nat → Nat) (ad : Nat → Nat) (cI cJ cT : ClassId) (w : SI → SJ → va_W) (pq : Nat → Nat) (p0 : Int32) (I : SI) (J : SJ) {r0 : Int32} (hf : f_J6_bitCount p0 = some r0) : CtI l yJ6_bitCount_0f7a4 wsJ6_bitCount_0f7a4 ({ frames := 0, cells := 0, slots := 0, locals := 0 } : Room) (dC, dI) (tys3 cI cJ cT) w [.int p0] I J r0 I J := by
  intro sz
  refine Met.ofW (cc := cJ6_bitCount_0f7a4) (maxL := 1) (ret := (some .int)) (by decide) rfl ?_
  intro p e s m args below meth c s₁ B hml hv
  obtain ⟨hargs, hsz, hP, hK, hD0⟩ := hv
  have hx := B.exec
  have hb := B.bytes
  have hr := B.returns
  have hts := atoms_spec (ws := wsJ6_bitCount_0f7a4) B.pre
  have hown : s.vm.findClass RJ6 = some m.cls := findClass_of_methodNamed B.named
  have hlocks := B.notSynchronized
  subst hsz
  have hD := hD0.self (sz := s.heap.size)
  generalize hAe : va_A (w I J) s.heap.size = A at hD ⊢
  have hA : ∀ q : Nat, s.heap.size ≤ q → A q := fun q h => by rw [← hAe]; exact Or.inr h
  have hS : va_S A s.heap s.heap [] := va_S.rf
  have hl := lv_entry ([.int p0]) (n := 1) (Nat.le_of_ble_eq_true rfl)
  rw [hargs, lg_entry_eq, ← hargs]
  generalize (lg_sl ([.int p0]) ++ List.replicate (1 - (lg_sl ([.int p0])).length) Slot.unset).toArray = ls at hl ⊢
  have hl : lv_has ls 1 [(0, .int p0)] := hl
  have hfix : CallFix p m c cJ6_bitCount_0f7a4 1 s args wsJ6_bitCount_0f7a4 RJ6 := ⟨hx, hb, hml, hown, hts⟩
  have wd_0 := hts (.constant RJ6 265 (1431655765)) (by decide +kernel)
  have wd_1 := hts (.constant RJ6 266 (858993459)) (by decide +kernel)
  have wd_2 := hts (.constant RJ6 267 (252645135)) (by decide +kernel)
  unfold f_J6_bitCount at hf
  refine lv_iload_n hx hb dJ6_bitCount_0f7a4_0 rfl (lv_at hl 0 rfl) ?_
  refine lv_iload_n hx hb dJ6_bitCount_0f7a4_1 rfl (lv_at hl 0 rfl) ?_
  refine lv_iconst (v := (1 : Int32)) hx hb dJ6_bitCount_0f7a4_2 (by decide) ?_
  refine lv_iushr (v := (p0.toUInt32 >>> ((1 : Int32).toUInt32 &&& Int32.toUInt32 31)).toInt32) hx hb dJ6_bitCount_0f7a4_3 rfl ?_
  refine lv_ldcw (v := (1431655765 : Int32)) hx hb hown wd_0 dJ6_bitCount_0f7a4_4 ?_
  refine lv_iand hx hb dJ6_bitCount_0f7a4_7 ?_
  refine lv_isub hx hb dJ6_bitCount_0f7a4_8 ?_
  refine lv_istore_n (lv' := [(0, .int (p0 - (((p0.toUInt32 >>> ((1 : Int32).toUInt32 &&& Int32.toUInt32 31)).toInt32) &&& (1431655765 : Int32))))]) hx hb dJ6_bitCount_0f7a4_9 rfl hl (by decide) rfl (fun ls hl => ?_)
  refine lv_iload_n hx hb dJ6_bitCount_0f7a4_10 rfl (lv_at hl 0 rfl) ?_
  refine lv_ldcw (v := (858993459 : Int32)) hx hb hown wd_1 dJ6_bitCount_0f7a4_11 ?_
  refine lv_iand hx hb dJ6_bitCount_0f7a4_14 ?_
  refine lv_iload_n hx hb dJ6_bitCount_0f7a4_15 rfl (lv_at hl 0 rfl) ?_
  refine lv_iconst (v := (2 : Int32)) hx hb dJ6_bitCount_0f7a4_16 (by decide) ?_
  refine lv_iushr (v := ((p0 - (((p0.toUInt32 >>> ((1 : Int32).toUInt32 &&& Int32.toUInt32 31)).toInt32) &&& (1431655765 : Int32))).toUInt32 >>> ((2 : Int32).toUInt32 &&& Int32.toUInt32 31)).toInt32) hx hb dJ6_bitCount_0f7a4_17 rfl ?_
  refine lv_ldcw (v := (858993459 : Int32)) hx hb hown wd_1 dJ6_bitCount_0f7a4_18 ?_
  refine lv_iand hx hb dJ6_bitCount_0f7a4_21 ?_
  refine lv_iadd hx hb dJ6_bitCount_0f7a4_22 ?_
  refine lv_istore_n (lv' := [(0, .int (((p0 - (((p0.toUInt32 >>> ((1 : Int32).toUInt32 &&& Int32.toUInt32 31)).toInt32) &&& (1431655765 : Int32))) &&& (858993459 : Int32)) + ((((p0 - (((p0.toUInt32 >>> ((1 : Int32).toUInt32 &&& Int32.toUInt32 31)).toInt32) &&& (1431655765 : Int32))).toUInt32 >>> ((2 : Int32).toUInt32 &&& Int32.toUInt32 31)).toInt32) &&& (858993459 : Int32))))]) hx hb dJ6_bitCount_0f7a4_23 rfl hl (by decide) rfl (fun ls hl => ?_)
  refine lv_iload_n hx hb dJ6_bitCount_0f7a4_24 rfl (lv_at hl 0 rfl) ?_
  refine lv_iload_n hx hb dJ6_bitCount_0f7a4_25 rfl (lv_at hl 0 rfl) ?_
  refine lv_iconst (v := (4 : Int32)) hx hb dJ6_bitCount_0f7a4_26 (by decide) ?_
  refine lv_iushr (v := ((((p0 - (((p0.toUInt32 >>> ((1 : Int32).toUInt32 &&& Int32.toUInt32 31)).toInt32) &&& (1431655765 : Int32))) &&& (858993459 : Int32)) + ((((p0 - (((p0.toUInt32 >>> ((1 : Int32).toUInt32 &&& Int32.toUInt32 31)).toInt32) &&& (1431655765 : Int32))).toUInt32 >>> ((2 : Int32).toUInt32 &&& Int32.toUInt32 31)).toInt32) &&& (858993459 : Int32))).toUInt32 >>> ((4 : Int32).toUInt32 &&& Int32.toUInt32 31)).toInt32) hx hb dJ6_bitCount_0f7a4_27 rfl ?_
  refine lv_iadd hx hb dJ6_bitCount_0f7a4_28 ?_
  refine lv_ldcw (v := (252645135 : Int32)) hx hb hown wd_2 dJ6_bitCount_0f7a4_29 ?_
  refine lv_iand hx hb dJ6_bitCount_0f7a4_32 ?_
  refine lv_istore_n (lv' := [(0, .int (((((p0 - (((p0.toUInt32 >>> ((1 : Int32).toUInt32 &&& Int32.toUInt32 31)).toInt32) &&& (1431655765 : Int32))) &&& (858993459 : Int32)) + ((((p0 - (((p0.toUInt32 >>> ((1 : Int32).toUInt32 &&& Int32.toUInt32 31)).toInt32) &&& (1431655765 : Int32))).toUInt32 >>> ((2 : Int32).toUInt32 &&& Int32.toUInt32 31)).toInt32) &&& (858993459 : Int32))) + (((((p0 - (((p0.toUInt32 >>> ((1 : Int32).toUInt32 &&& Int32.toUInt32 31)).toInt32) &&& (1431655765 : Int32))) &&& (858993459 : Int32)) + ((((p0 - (((p0.toUInt32 >>> ((1 : Int32).toUInt32 &&& Int32.toUInt32 31)).toInt32) &&& (1431655765 : Int32))).toUInt32 >>> ((2 : Int32).toUInt32 &&& Int32.toUInt32 31)).toInt32) &&& (858993459 : Int32))).toUInt32 >>> ((4 : Int32).toUInt32 &&& Int32.toUInt32 31)).toInt32)) &&& (252645135 : Int32)))]) hx hb dJ6_bitCount_0f7a4_33 rfl hl (by decide) rfl (fun ls hl => ?_)
  refine lv_iload_n hx hb dJ6_bitCount_0f7a4_34 rfl (lv_at hl 0 rfl) ?_
  refine lv_iload_n hx hb dJ6_bitCount_0f7a4_35 rfl (lv_at hl 0 rfl) ?_
  refine lv_bipush (v := (8 : Int32)) hx hb dJ6_bitCount_0f7a4_36 (by decide) ?_
  refine lv_iushr (v := ((((((p0 - (((p0.toUInt32 >>> ((1 : Int32).toUInt32 &&& Int32.toUInt32 31)).toInt32) &&& (1431655765 : Int32))) &&& (858993459 : Int32)) + ((((p0 - (((p0.toUInt32 >>> ((1 : Int32).toUInt32 &&& Int32.toUInt32 31)).toInt32) &&& (1431655765 : Int32))).toUInt32 >>> ((2 : Int32).toUInt32 &&& Int32.toUInt32 31)).toInt32) &&& (858993459 : Int32))) + (((((p0 - (((p0.toUInt32 >>> ((1 : Int32).toUInt32 &&& Int32.toUInt32 31)).toInt32) &&& (1431655765 : Int32))) &&& (858993459 : Int32)) + ((((p0 - (((p0.toUInt32 >>> ((1 : Int32).toUInt32 &&& Int32.toUInt32 31)).toInt32) &&& (1431655765 : Int32))).toUInt32 >>> ((2 : Int32).toUInt32 &&& Int32.toUInt32 31)).toInt32) &&& (858993459 : Int32))).toUInt32 >>> ((4 : Int32).toUInt32 &&& Int32.toUInt32 31)).toInt32)) &&& (252645135 : Int32)).toUInt32 >>> ((8 : Int32).toUInt32 &&& Int32.toUInt32 31)).toInt32) hx hb dJ6_bitCount_0f7a4_38 rfl ?_
  refine lv_iadd hx hb dJ6_bitCount_0f7a4_39 ?_
  refine lv_istore_n (lv' := [(0, .int ((((((p0 - (((p0.toUInt32 >>> ((1 : Int32).toUInt32 &&& Int32.toUInt32 31)).toInt32) &&& (1431655765 : Int32))) &&& (858993459 : Int32)) + ((((p0 - (((p0.toUInt32 >>> ((1 : Int32).toUInt32 &&& Int32.toUInt32 31)).toInt32) &&& (1431655765 : Int32))).toUInt32 >>> ((2 : Int32).toUInt32 &&& Int32.toUInt32 31)).toInt32) &&& (858993459 : Int32))) + (((((p0 - (((p0.toUInt32 >>> ((1 : Int32).toUInt32 &&& Int32.toUInt32 31)).toInt32) &&& (1431655765 : Int32))) &&& (858993459 : Int32)) + ((((p0 - (((p0.toUInt32 >>> ((1 : Int32).toUInt32 &&& Int32.toUInt32 31)).toInt32) &&& (1431655765 : Int32))).toUInt32 >>> ((2 : Int32).toUInt32 &&& Int32.toUInt32 31)).toInt32) &&& (858993459 : Int32))).toUInt32 >>> ((4 : Int32).toUInt32 &&& Int32.toUInt32 31)).toInt32)) &&& (252645135 : Int32)) + (((((((p0 - (((p0.toUInt32 >>> ((1 : Int32).toUInt32 &&& Int32.toUInt32 31)).toInt32) &&& (1431655765 : Int32))) &&& (858993459 : Int32)) + ((((p0 - (((p0.toUInt32 >>> ((1 : Int32).toUInt32 &&& Int32.toUInt32 31)).toInt32) &&& (1431655765 : Int32))).toUInt32 >>> ((2 : Int32).toUInt32 &&& Int32.toUInt32 31)).toInt32) &&& (858993459 : Int32))) + (((((p0 - (((p0.toUInt32 >>> ((1 : Int32).toUInt32 &&& Int32.toUInt32 31)).toInt32) &&& (1431655765 : Int32))) &&& (858993459 : Int32)) + ((((p0 - (((p0.toUInt32 >>> ((1 : Int32).toUInt32 &&& Int32.toUInt32 31)).toInt32) &&& (1431655765 : Int32))).toUInt32 >>> ((2 : Int32).toUInt32 &&& Int32.toUInt32 31)).toInt32) &&& (858993459 : Int32))).toUInt32 >>> ((4 : Int32).toUInt32 &&& Int32.toUInt32 31)).toInt32)) &&& (252645135 : Int32)).toUInt32 >>> ((8 : Int32).toUInt32 &&& Int32.toUInt32 31)).toInt32)))]) hx hb dJ6_bitCount_0f7a4_40 rfl hl (by decide) rfl (fun ls hl => ?_)
  refine lv_iload_n hx hb dJ6_bitCount_0f7a4_41 rfl (lv_at hl 0 rfl) ?_
  refine lv_iload_n hx hb dJ6_bitCount_0f7a4_42 rfl (lv_at hl 0 rfl) ?_
  refine lv_bipush (v := (16 : Int32)) hx hb dJ6_bitCount_0f7a4_43 (by decide) ?_
  refine lv_iushr (v := (((((((p0 - (((p0.toUInt32 >>> ((1 : Int32).toUInt32 &&& Int32.toUInt32 31)).toInt32) &&& (1431655765 : Int32))) &&& (858993459 : Int32)) + ((((p0 - (((p0.toUInt32 >>> ((1 : Int32).toUInt32 &&& Int32.toUInt32 31)).toInt32) &&& (1431655765 : Int32))).toUInt32 >>> ((2 : Int32).toUInt32 &&& Int32.toUInt32 31)).toInt32) &&& (858993459 : Int32))) + (((((p0 - (((p0.toUInt32 >>> ((1 : Int32).toUInt32 &&& Int32.toUInt32 31)).toInt32) &&& (1431655765 : Int32))) &&& (858993459 : Int32)) + ((((p0 - (((p0.toUInt32 >>> ((1 : Int32).toUInt32 &&& Int32.toUInt32 31)).toInt32) &&& (1431655765 : Int32))).toUInt32 >>> ((2 : Int32).toUInt32 &&& Int32.toUInt32 31)).toInt32) &&& (858993459 : Int32))).toUInt32 >>> ((4 : Int32).toUInt32 &&& Int32.toUInt32 31)).toInt32)) &&& (252645135 : Int32)) + (((((((p0 - (((p0.toUInt32 >>> ((1 : Int32).toUInt32 &&& Int32.toUInt32 31)).toInt32) &&& (1431655765 : Int32))) &&& (858993459 : Int32)) + ((((p0 - (((p0.toUInt32 >>> ((1 : Int32).toUInt32 &&& Int32.toUInt32 31)).toInt32) &&& (1431655765 : Int32))).toUInt32 >>> ((2 : Int32).toUInt32 &&& Int32.toUInt32 31)).toInt32) &&& (858993459 : Int32))) + (((((p0 - (((p0.toUInt32 >>> ((1 : Int32).toUInt32 &&& Int32.toUInt32 31)).toInt32) &&& (1431655765 : Int32))) &&& (858993459 : Int32)) + ((((p0 - (((p0.toUInt32 >>> ((1 : Int32).toUInt32 &&& Int32.toUInt32 31)).toInt32) &&& (1431655765 : Int32))).toUInt32 >>> ((2 : Int32).toUInt32 &&& Int32.toUInt32 31)).toInt32) &&& (858993459 : Int32))).toUInt32 >>> ((4 : Int32).toUInt32 &&& Int32.toUInt32 31)).toInt32)) &&& (252645135 : Int32)).toUInt32 >>> ((8 : Int32).toUInt32 &&& Int32.toUInt32 31)).toInt32)).toUInt32 >>> ((16 : Int32).toUInt32 &&& Int32.toUInt32 31)).toInt32) hx hb dJ6_bitCount_0f7a4_45 rfl ?_
  refine lv_iadd hx hb dJ6_bitCount_0f7a4_46 ?_
  refine lv_istore_n (lv' := [(0, .int (((((((p0 - (((p0.toUInt32 >>> ((1 : Int32).toUInt32 &&& Int32.toUInt32 31)).toInt32) &&& (1431655765 : Int32))) &&& (858993459 : Int32)) + ((((p0 - (((p0.toUInt32 >>> ((1 : Int32).toUInt32 &&& Int32.toUInt32 31)).toInt32) &&& (1431655765 : Int32))).toUInt32 >>> ((2 : Int32).toUInt32 &&& Int32.toUInt32 31)).toInt32) &&& (858993459 : Int32))) + (((((p0 - (((p0.toUInt32 >>> ((1 : Int32).toUInt32 &&& Int32.toUInt32 31)).toInt32) &&& (1431655765 : Int32))) &&& (858993459 : Int32)) + ((((p0 - (((p0.toUInt32 >>> ((1 : Int32).toUInt32 &&& Int32.toUInt32 31)).toInt32) &&& (1431655765 : Int32))).toUInt32 >>> ((2 : Int32).toUInt32 &&& Int32.toUInt32 31)).toInt32) &&& (858993459 : Int32))).toUInt32 >>> ((4 : Int32).toUInt32 &&& Int32.toUInt32 31)).toInt32)) &&& (252645135 : Int32)) + (((((((p0 - (((p0.toUInt32 >>> ((1 : Int32).toUInt32 &&& Int32.toUInt32 31)).toInt32) &&& (1431655765 : Int32))) &&& (858993459 : Int32)) + ((((p0 - (((p0.toUInt32 >>> ((1 : Int32).toUInt32 &&& Int32.toUInt32 31)).toInt32) &&& (1431655765 : Int32))).toUInt32 >>> ((2 : Int32).toUInt32 &&& Int32.toUInt32 31)).toInt32) &&& (858993459 : Int32))) + (((((p0 - (((p0.toUInt32 >>> ((1 : Int32).toUInt32 &&& Int32.toUInt32 31)).toInt32) &&& (1431655765 : Int32))) &&& (858993459 : Int32)) + ((((p0 - (((p0.toUInt32 >>> ((1 : Int32).toUInt32 &&& Int32.toUInt32 31)).toInt32) &&& (1431655765 : Int32))).toUInt32 >>> ((2 : Int32).toUInt32 &&& Int32.toUInt32 31)).toInt32) &&& (858993459 : Int32))).toUInt32 >>> ((4 : Int32).toUInt32 &&& Int32.toUInt32 31)).toInt32)) &&& (252645135 : Int32)).toUInt32 >>> ((8 : Int32).toUInt32 &&& Int32.toUInt32 31)).toInt32)) + ((((((((p0 - (((p0.toUInt32 >>> ((1 : Int32).toUInt32 &&& Int32.toUInt32 31)).toInt32) &&& (1431655765 : Int32))) &&& (858993459 : Int32)) + ((((p0 - (((p0.toUInt32 >>> ((1 : Int32).toUInt32 &&& Int32.toUInt32 31)).toInt32) &&& (1431655765 : Int32))).toUInt32 >>> ((2 : Int32).toUInt32 &&& Int32.toUInt32 31)).toInt32) &&& (858993459 : Int32))) + (((((p0 - (((p0.toUInt32 >>> ((1 : Int32).toUInt32 &&& Int32.toUInt32 31)).toInt32) &&& (1431655765 : Int32))) &&& (858993459 : Int32)) + ((((p0 - (((p0.toUInt32 >>> ((1 : Int32).toUInt32 &&& Int32.toUInt32 31)).toInt32) &&& (1431655765 : Int32))).toUInt32 >>> ((2 : Int32).toUInt32 &&& Int32.toUInt32 31)).toInt32) &&& (858993459 : Int32))).toUInt32 >>> ((4 : Int32).toUInt32 &&& Int32.toUInt32 31)).toInt32)) &&& (252645135 : Int32)) + (((((((p0 - (((p0.toUInt32 >>> ((1 : Int32).toUInt32 &&& Int32.toUInt32 31)).toInt32) &&& (1431655765 : Int32))) &&& (858993459 : Int32)) + ((((p0 - (((p0.toUInt32 >>> ((1 : Int32).toUInt32 &&& Int32.toUInt32 31)).toInt32) &&& (1431655765 : Int32))).toUInt32 >>> ((2 : Int32).toUInt32 &&& Int32.toUInt32 31)).toInt32) &&& (858993459 : Int32))) + (((((p0 - (((p0.toUInt32 >>> ((1 : Int32).toUInt32 &&& Int32.toUInt32 31)).toInt32) &&& (1431655765 : Int32))) &&& (858993459 : Int32)) + ((((p0 - (((p0.toUInt32 >>> ((1 : Int32).toUInt32 &&& Int32.toUInt32 31)).toInt32) &&& (1431655765 : Int32))).toUInt32 >>> ((2 : Int32).toUInt32 &&& Int32.toUInt32 31)).toInt32) &&& (858993459 : Int32))).toUInt32 >>> ((4 : Int32).toUInt32 &&& Int32.toUInt32 31)).toInt32)) &&& (252645135 : Int32)).toUInt32 >>> ((8 : Int32).toUInt32 &&& Int32.toUInt32 31)).toInt32)).toUInt32 >>> ((16 : Int32).toUInt32 &&& Int32.toUInt32 31)).toInt32)))]) hx hb dJ6_bitCount_0f7a4_47 rfl hl (by decide) rfl (fun ls hl => ?_)
  refine lv_iload_n hx hb dJ6_bitCount_0f7a4_48 rfl (lv_at hl 0 rfl) ?_
  refine lv_bipush (v := (63 : Int32)) hx hb dJ6_bitCount_0f7a4_49 (by decide) ?_
  refine lv_iand hx hb dJ6_bitCount_0f7a4_51 ?_
  cases hf
  exact xRi hx hb hr hlocks hK hP hD hS (fun _ h => h) dJ6_bitCount_0f7a4_52
set_option maxHeartbeats 4000000 in
set_option maxRecDepth 100000 in
theorem c_X7_has (l : Launch) (dC : Nat → ClassId) (dI : Nat → Nat → Nat) (ad : Nat → Nat) (cI cJ cT : ClassId) (w : SI → SJ → va_W) (pq : Nat → Nat) (x : Nat) (htx : TbI w cI ad pq x) (p1 : Int32) (I : SI) (J : SJ) {r0 : Int32} (hf : f_X7_has x p1 I = some r0) : CtI l yX7_has wsX7_has ({ frames := 0, cells := 0, slots := 0, locals := 0 } : Room) (dC, dI) (tys3 cI cJ cT) w [.ref (ad (8 + x)), .int p1] I J r0 I J := by
  intro sz
  refine Met.ofW (cc := cX7_has) (maxL := 2) (ret := (some .boolean)) (by decide) rfl ?_
  intro p e s m args below meth c s₁ B hml hv
  obtain ⟨hargs, hsz, hP, hK, hD0⟩ := hv
  have hx := B.exec
  have hb := B.bytes
  have hr := B.returns
  have hts := atoms_spec (ws := wsX7_has) B.pre
  have hown : s.vm.findClass RX7 = some m.cls := findClass_of_methodNamed B.named
  have hlocks := B.notSynchronized
  subst hsz
  have hD := hD0.self (sz := s.heap.size)
  generalize hAe : va_A (w I J) s.heap.size = A at hD ⊢
  have hA : ∀ q : Nat, s.heap.size ≤ q → A q := fun q h => by rw [← hAe]; exact Or.inr h
  have hS : va_S A s.heap s.heap [] := va_S.rf
  have hl := lv_entry ([.ref (ad (8 + x)), .int p1]) (n := 2) (Nat.le_of_ble_eq_true rfl)
  rw [hargs, lg_entry_eq, ← hargs]
  generalize (lg_sl ([.ref (ad (8 + x)), .int p1]) ++ List.replicate (2 - (lg_sl ([.ref (ad (8 + x)), .int p1])).length) Slot.unset).toArray = ls at hl ⊢
  have hl : lv_has ls 2 [(0, .ref (ad (8 + x))), (1, .int p1)] := hl
  have hfix : CallFix p m c cX7_has 2 s args wsX7_has RX7 := ⟨hx, hb, hml, hown, hts⟩
  have in_X7 : ∀ w ∈ u_ws RX7 TX7 2, w ∈ wsX7_has := by decide +kernel
  have wd_0 := hts (.fieldLink RX7 19 "FuseBench$Table" "kinds" "I") (by decide +kernel)
  unfold f_X7_has at hf
  refine lv_iload_n hx hb dX7_has_0 rfl (lv_at hl 1 rfl) ?_
  refine lv_if_lt (tgt := 16) hx hb dX7_has_1 (by decide) (fun c_1 => ?_) (fun c_1 => ?_)
  · have hf := (if_pos c_1).symm.trans hf
    refine lv_iconst (v := (0 : Int32)) hx hb dX7_has_16 (by decide) ?_
    cases hf
    exact xRz hx hb hr hlocks rfl hK hP hD hS (fun _ h => h) dX7_has_17
  · have hf := (if_neg c_1).symm.trans hf
    refine lv_iload_n hx hb dX7_has_4 rfl (lv_at hl 1 rfl) ?_
    refine lv_aload_n hx hb dX7_has_5 rfl (lv_at hl 0 rfl) ?_
    refine va_get (D := (dC, dI)) (ci := 6) (v := .int (I (8 + x) 0)) (C := RX7) (T := TX7) (N := 2) hx hb hts in_X7 hown hK hP (pq (8 + x)) ((htx).2.1 I J) rfl 1 (by decide) wd_0 (fun _ h9 => h9) rfl dX7_has_6 ?_
    refine lv_icmp_ge (tgt := 16) hx hb dX7_has_9 (by decide) (fun c_2 => ?_) (fun c_2 => ?_)
    · have hf := (if_pos c_2).symm.trans hf
      refine lv_iconst (v := (0 : Int32)) hx hb dX7_has_16 (by decide) ?_
      cases hf
      exact xRz hx hb hr hlocks rfl hK hP hD hS (fun _ h => h) dX7_has_17
    · have hf := (if_neg c_2).symm.trans hf
      refine lv_iconst (v := (1 : Int32)) hx hb dX7_has_12 (by decide) ?_
      refine lv_goto (tgt := 17) hx hb dX7_has_13 (by decide) ?_
      cases hf
      exact xRz hx hb hr hlocks rfl hK hP hD hS (fun _ h => h) dX7_has_17
set_option maxHeartbeats 4000000 in
set_option maxRecDepth 100000 in
theorem c_X7_setNumber (l : Launch) (dC : Nat → ClassId) (dI : Nat → Nat → Nat) (ad : Nat → Nat) (cI cJ cT : ClassId) (w : SI → SJ → va_W) (pq : Nat → Nat) (x : Nat) (htx : TbI w cI ad pq x) (p1 : Int32) (p2 : Int32) (p3 : Int32) (p4 : Int32) (I : SI) (J : SJ) {I0 : SI} (hf : f_X7_setNumber x p1 p2 p3 p4 I = some I0) : CtV l yX7_setNumber wsX7_setNumber ({ frames := 1, cells := 0, slots := 0, locals := 22 } : Room) (dC, dI) (tys3 cI cJ cT) w [.ref (ad (8 + x)), .int p1, .int p2, .int p3, .int p4] I J I0 J := by
  intro sz
  refine Met.ofW (cc := cX7_setNumber) (maxL := 5) (ret := none) (by decide) rfl ?_
  intro p e s m args below meth c s₁ B hml hv
  obtain ⟨hargs, hsz, hP, hK, hD0⟩ := hv
  have hx := B.exec
  have hb := B.bytes
  have hr := B.returns
  have hts := atoms_spec (ws := wsX7_setNumber) B.pre
  have hown : s.vm.findClass RX7 = some m.cls := findClass_of_methodNamed B.named
  have hlocks := B.notSynchronized
  subst hsz
  have hD := hD0.self (sz := s.heap.size)
  generalize hAe : va_A (w I J) s.heap.size = A at hD ⊢
  have hA : ∀ q : Nat, s.heap.size ≤ q → A q := fun q h => by rw [← hAe]; exact Or.inr h
  have hS : va_S A s.heap s.heap [] := va_S.rf
  have hl := lv_entry ([.ref (ad (8 + x)), .int p1, .int p2, .int p3, .int p4]) (n := 5) (Nat.le_of_ble_eq_true rfl)
  rw [hargs, lg_entry_eq, ← hargs]
  generalize (lg_sl ([.ref (ad (8 + x)), .int p1, .int p2, .int p3, .int p4]) ++ List.replicate (5 - (lg_sl ([.ref (ad (8 + x)), .int p1, .int p2, .int p3, .int p4])).length) Slot.unset).toArray = ls at hl ⊢
  have hl : lv_has ls 5 [(0, .ref (ad (8 + x))), (1, .int p1), (2, .int p2), (3, .int p3), (4, .int p4)] := hl
  have hfix : CallFix p m c cX7_setNumber 5 s args wsX7_setNumber RX7 := ⟨hx, hb, hml, hown, hts⟩
  have in_X7 : ∀ w ∈ u_ws RX7 TX7 2, w ∈ wsX7_setNumber := by decide +kernel
  have wd_0 := hts (.fieldLink RX7 11 "FuseBench$Table" "numbers" "[I") (by decide +kernel)
  unfold f_X7_setNumber at hf
  refine lv_aload_n hx hb dX7_setNumber_0 rfl (lv_at hl 0 rfl) ?_
  refine va_get (D := (dC, dI)) (ci := 6) (v := .ref (ad x)) (C := RX7) (T := TX7) (N := 2) hx hb hts in_X7 hown hK hP (pq (8 + x)) ((htx).2.1 I J) rfl 0 (by decide) wd_0 (fun _ h9 => h9) rfl dX7_setNumber_1 ?_
  refine lv_iload_n hx hb dX7_setNumber_4 rfl (lv_at hl 1 rfl) ?_
  refine lv_iload_n hx hb dX7_setNumber_5 rfl (lv_at hl 2 rfl) ?_
  refine lv_iload_n hx hb dX7_setNumber_6 rfl (lv_at hl 3 rfl) ?_
  obtain ⟨r_1, hg_1, hf⟩ := bd_some hf
  refine xSi (rest := [.ref (ad x)]) (c_X7_placeOf l dC dI ad cI cJ cT w pq p1 p2 p3 I J hg_1) hfix (va_cwS 3 hts gX7_setNumber_X7_placeOf rfl rfl rfl (by decide +kernel) ⟨Nat.le_of_ble_eq_true rfl, Nat.le_of_ble_eq_true rfl⟩) hK hP hD hS hA rfl hl.1 rfl (Nat.le_of_ble_eq_true rfl) ⟨Nat.zero_le _, Nat.zero_le _⟩ dX7_setNumber_7 (fun H locs hP hD hS => ?_)
  refine lv_iload hx hb dX7_setNumber_10 (lv_at hl 4 rfl) ?_
  obtain ⟨h_2, hf⟩ := gd_some hf
  refine x_iast hx hb hK (htx).1 hP hD hS h_2 dX7_setNumber_12 (fun H locs hP hD hS => ?_)
  cases hf
  exact xRv hx hb hr hlocks hK hP hD hS (fun _ h => h) dX7_setNumber_13
set_option maxHeartbeats 4000000 in
set_option maxRecDepth 100000 in
theorem c_X7_reset (l : Launch) (dC : Nat → ClassId) (dI : Nat → Nat → Nat) (ad : Nat → Nat) (cI cJ cT : ClassId) (w : SI → SJ → va_W) (pq : Nat → Nat) (x : Nat) (htx : TbI w cI ad pq x) (p1 : Int32) (I : SI) (J : SJ) {I0 : SI} (hf : f_X7_reset x p1 I = some I0) : CtV l yX7_reset wsX7_reset ({ frames := 2, cells := 0, slots := 0, locals := 46 } : Room) (dC, dI) (tys3 cI cJ cT) w [.ref (ad (8 + x)), .int p1] I J I0 J := by
  intro sz
  refine Met.ofW (cc := cX7_reset) (maxL := 3) (ret := none) (by decide) rfl ?_
  intro p e s m args below meth c s₁ B hml hv
  obtain ⟨hargs, hsz, hP, hK, hD0⟩ := hv
  have hx := B.exec
  have hb := B.bytes
  have hr := B.returns
  have hts := atoms_spec (ws := wsX7_reset) B.pre
  have hown : s.vm.findClass RX7 = some m.cls := findClass_of_methodNamed B.named
  have hlocks := B.notSynchronized
  subst hsz
  have hD := hD0.self (sz := s.heap.size)
  generalize hAe : va_A (w I J) s.heap.size = A at hD ⊢
  have hA : ∀ q : Nat, s.heap.size ≤ q → A q := fun q h => by rw [← hAe]; exact Or.inr h
  have hS : va_S A s.heap s.heap [] := va_S.rf
  have hl := lv_entry ([.ref (ad (8 + x)), .int p1]) (n := 3) (Nat.le_of_ble_eq_true rfl)
  rw [hargs, lg_entry_eq, ← hargs]
  generalize (lg_sl ([.ref (ad (8 + x)), .int p1]) ++ List.replicate (3 - (lg_sl ([.ref (ad (8 + x)), .int p1])).length) Slot.unset).toArray = ls at hl ⊢
  have hl : lv_has ls 3 [(0, .ref (ad (8 + x))), (1, .int p1)] := hl
  have hfix : CallFix p m c cX7_reset 3 s args wsX7_reset RX7 := ⟨hx, hb, hml, hown, hts⟩
  have in_X7 : ∀ w ∈ u_ws RX7 TX7 2, w ∈ wsX7_reset := by decide +kernel
  have wd_0 := hts (.fieldLink RX7 11 "FuseBench$Table" "numbers" "[I") (by decide +kernel)
  have wd_1 := hts (.fieldLink RX7 19 "FuseBench$Table" "kinds" "I") (by decide +kernel)
  have L15 : ∀ (Q : State → Prop) (v1 : Int32) (J : SJ) (o : SI), (∀  (I : SI) (H : Heap) (locs : List Loc) (ls : Array Slot), o = I → va_P (dC, dI) vwCl (w I J) H → va_D A (w I J) → va_S A s.heap H locs → lv_has ls 3 [] → W p l e ({ frames := 2, cells := 0, slots := 0, locals := 46 } : Room) s m args below meth c H locs 0 0 Q (F0 m 42 ls [])) → ∀ (n : Nat) (v2 : Int32) (I : SI) (H : Heap) (locs : List Loc) (ls : Array Slot), lp_X7_reset_15 x v1 n v2 I = some o → va_P (dC, dI) vwCl (w I J) H → va_D A (w I J) → va_S A s.heap H locs → lv_has ls 3 [(0, .ref (ad (8 + x))), (1, .int v1), (2, .int v2)] → W p l e ({ frames := 2, cells := 0, slots := 0, locals := 46 } : Room) s m args below meth c H locs 0 0 Q (F0 m 15 ls []) := by
    intro Q v1 J o K0 n
    clear hP hD hS hl
    induction n with
    | zero =>
      intro v2 I H locs ls hf
      rw [lp_X7_reset_15.eq_1] at hf
      cases hf
    | succ n ih =>
      intro v2 I H locs ls hf hP hD hS hl
      rw [lp_X7_reset_15.eq_2] at hf
      refine lv_iload_n hx hb dX7_reset_15 rfl (lv_at hl 2 rfl) ?_
      refine lv_iload_n hx hb dX7_reset_16 rfl (lv_at hl 1 rfl) ?_
      refine lv_icmp_ge (tgt := 42) hx hb dX7_reset_17 (by decide) (fun c_1 => ?_) (fun c_1 => ?_)
      · have hf := (if_pos c_1).symm.trans hf
        exact K0 _ _ _ _ (Option.some.inj hf).symm hP hD hS (lv_sub hl [] rfl)
      · have hf := (if_neg c_1).symm.trans hf
        refine lv_aload_n hx hb dX7_reset_20 rfl (lv_at hl 0 rfl) ?_
        refine lv_iconst (v := (0 : Int32)) hx hb dX7_reset_21 (by decide) ?_
        refine lv_iload_n hx hb dX7_reset_22 rfl (lv_at hl 2 rfl) ?_
        refine lv_iload_n hx hb dX7_reset_23 rfl (lv_at hl 2 rfl) ?_
        refine lv_iconst (v := (1 : Int32)) hx hb dX7_reset_24 (by decide) ?_
        obtain ⟨I_2, hg_2, hf⟩ := bd_some hf
        refine xVv (rest := []) (c_X7_setNumber l dC dI ad cI cJ cT w pq x htx (0 : Int32) v2 v2 (1 : Int32) I J hg_2) hfix (cwV 4 hts gX7_reset_X7_setNumber rfl rfl rfl (by decide +kernel) ⟨Nat.le_of_ble_eq_true rfl, Nat.le_of_ble_eq_true rfl⟩) hK hP hD hS hA (va_recv hK hP (ci := 6) (q0 := (pq (8 + x))) rfl ((htx).2.1 I J)) rfl hl.1 rfl (Nat.le_of_ble_eq_true rfl) ⟨Nat.zero_le _, Nat.zero_le _⟩ dX7_reset_25 (fun H locs hP hD hS => ?_)
        refine lv_aload_n hx hb dX7_reset_28 rfl (lv_at hl 0 rfl) ?_
        refine lv_iload_n hx hb dX7_reset_29 rfl (lv_at hl 2 rfl) ?_
        refine lv_iconst (v := (0 : Int32)) hx hb dX7_reset_30 (by decide) ?_
        refine lv_iload_n hx hb dX7_reset_31 rfl (lv_at hl 2 rfl) ?_
        refine lv_iconst (v := (1 : Int32)) hx hb dX7_reset_32 (by decide) ?_
        obtain ⟨I_3, hg_3, hf⟩ := bd_some hf
        refine xVv (rest := []) (c_X7_setNumber l dC dI ad cI cJ cT w pq x htx v2 (0 : Int32) v2 (1 : Int32) I_2 J hg_3) hfix (cwV 4 hts gX7_reset_X7_setNumber rfl rfl rfl (by decide +kernel) ⟨Nat.le_of_ble_eq_true rfl, Nat.le_of_ble_eq_true rfl⟩) hK hP hD hS hA (va_recv hK hP (ci := 6) (q0 := (pq (8 + x))) rfl ((htx).2.1 I_2 J)) rfl hl.1 rfl (Nat.le_of_ble_eq_true rfl) ⟨Nat.zero_le _, Nat.zero_le _⟩ dX7_reset_33 (fun H locs hP hD hS => ?_)
        refine lv_iinc (v := (v2 + (1 : Int32))) (lv' := [(2, .int (v2 + (1 : Int32))), (0, .ref (ad (8 + x))), (1, .int v1)]) hx hb dX7_reset_36 hl (k := 2) rfl (by first | rfl | decide) (by decide) rfl (fun ls hl => ?_)
        refine lv_goto (tgt := 15) hx hb dX7_reset_39 (by decide) ?_
        exact ih _ _ _ _ _ hf hP hD hS (lv_sub hl [1, 2, 0] rfl)
  unfold f_X7_reset at hf
  refine lv_aload_n hx hb dX7_reset_0 rfl (lv_at hl 0 rfl) ?_
  refine va_get (D := (dC, dI)) (ci := 6) (v := .ref (ad x)) (C := RX7) (T := TX7) (N := 2) hx hb hts in_X7 hown hK hP (pq (8 + x)) ((htx).2.1 I J) rfl 0 (by decide) wd_0 (fun _ h9 => h9) rfl dX7_reset_1 ?_
  refine lv_iconst (v := (0 : Int32)) hx hb dX7_reset_4 (by decide) ?_
  obtain ⟨I_4, hg_4, hf⟩ := bd_some hf
  refine xSv (rest := []) (c_J7_fill l dC dI ad cI cJ cT w pq (ad x) x 125 (pq x) (htx).1 (0 : Int32) I J hg_4) hfix (va_cwS 2 hts gX7_reset_J7_fill_53178 rfl rfl rfl (by decide +kernel) ⟨Nat.le_of_ble_eq_true rfl, Nat.le_of_ble_eq_true rfl⟩) hK hP hD hS hA rfl hl.1 rfl (Nat.le_of_ble_eq_true rfl) ⟨Nat.zero_le _, Nat.zero_le _⟩ dX7_reset_5 (fun H locs hP hD hS => ?_)
  refine lv_aload_n hx hb dX7_reset_8 rfl (lv_at hl 0 rfl) ?_
  refine lv_iload_n hx hb dX7_reset_9 rfl (lv_at hl 1 rfl) ?_
  refine x_put (C := RX7) (T := TX7) (N := 2) hx hb hts in_X7 tyX7 tyX7_ok nmX7 hown hK hP hD hS (pq (8 + x)) ((htx).2.1 I_4 J) rfl 1 (by decide) wd_1 (fun _ h9 => h9) rfl (by decide +kernel) (Nat.le_of_ble_eq_true rfl) ((htx).2.2 I_4 J p1) dX7_reset_10 (fun H locs hP hD hS => ?_)
  refine lv_iconst (v := (0 : Int32)) hx hb dX7_reset_13 (by decide) ?_
  refine lv_istore_n (lv' := [(2, .int (0 : Int32)), (0, .ref (ad (8 + x))), (1, .int p1)]) hx hb dX7_reset_14 rfl hl (by decide) rfl (fun ls hl => ?_)
  obtain ⟨o_5, hg_5, hf⟩ := bd_some hf
  refine L15 _ p1 J o_5 ?_ FU (0 : Int32) (sets I_4 (8 + x) p1) _ _ _ hg_5 hP hD hS (lv_sub hl [1, 2, 0] rfl)
  · intro I_5 H locs ls ho hP hD hS hl
    subst o_5
    cases hf
    exact xRv hx hb hr hlocks hK hP hD hS (fun _ h => h) dX7_reset_42
set_option maxHeartbeats 4000000 in
set_option maxRecDepth 100000 in
theorem c_X7_become (l : Launch) (dC : Nat → ClassId) (dI : Nat → Nat → Nat) (ad : Nat → Nat) (cI cJ cT : ClassId) (w : SI → SJ → va_W) (pq : Nat → Nat) (x : Nat) (htx : TbI w cI ad pq x) (y : Nat) (hty : TbI w cI ad pq y) (I : SI) (J : SJ) {I0 : SI} (hf : f_X7_become x y I = some I0) : CtV l yX7_become wsX7_become ({ frames := 1, cells := 0, slots := 0, locals := 80 } : Room) (dC, dI) (tys3 cI cJ cT) w [.ref (ad (8 + x)), .ref (ad (8 + y))] I J I0 J := by
  intro sz
  refine Met.ofW (cc := cX7_become) (maxL := 2) (ret := none) (by decide) rfl ?_
  intro p e s m args below meth c s₁ B hml hv
  obtain ⟨hargs, hsz, hP, hK, hD0⟩ := hv
  have hx := B.exec
  have hb := B.bytes
  have hr := B.returns
  have hts := atoms_spec (ws := wsX7_become) B.pre
  have hown : s.vm.findClass RX7 = some m.cls := findClass_of_methodNamed B.named
  have hlocks := B.notSynchronized
  subst hsz
  have hD := hD0.self (sz := s.heap.size)
  generalize hAe : va_A (w I J) s.heap.size = A at hD ⊢
  have hA : ∀ q : Nat, s.heap.size ≤ q → A q := fun q h => by rw [← hAe]; exact Or.inr h
  have hS : va_S A s.heap s.heap [] := va_S.rf
  have hl := lv_entry ([.ref (ad (8 + x)), .ref (ad (8 + y))]) (n := 2) (Nat.le_of_ble_eq_true rfl)
  rw [hargs, lg_entry_eq, ← hargs]
  generalize (lg_sl ([.ref (ad (8 + x)), .ref (ad (8 + y))]) ++ List.replicate (2 - (lg_sl ([.ref (ad (8 + x)), .ref (ad (8 + y))])).length) Slot.unset).toArray = ls at hl ⊢
  have hl : lv_has ls 2 [(0, .ref (ad (8 + x))), (1, .ref (ad (8 + y)))] := hl
  have hfix : CallFix p m c cX7_become 2 s args wsX7_become RX7 := ⟨hx, hb, hml, hown, hts⟩
  have in_X7 : ∀ w ∈ u_ws RX7 TX7 2, w ∈ wsX7_become := by decide +kernel
  have wd_0 := hts (.fieldLink RX7 19 "FuseBench$Table" "kinds" "I") (by decide +kernel)
  have wd_1 := hts (.fieldLink RX7 11 "FuseBench$Table" "numbers" "[I") (by decide +kernel)
  have wd_2 := hts (.methodLink RX7 37 arraycopyName) (by decide +kernel)
  have wd_3 := hts (.native arraycopyName) (by decide +kernel)
  have wd_4 := hts (.static arraycopyName) (by decide +kernel)
  have wd_5 := hts (.initialized "java/lang/System") (by decide +kernel)
  unfold f_X7_become at hf
  refine lv_aload_n hx hb dX7_become_0 rfl (lv_at hl 0 rfl) ?_
  refine lv_aload_n hx hb dX7_become_1 rfl (lv_at hl 1 rfl) ?_
  refine va_get (D := (dC, dI)) (ci := 6) (v := .int (I (8 + y) 0)) (C := RX7) (T := TX7) (N := 2) hx hb hts in_X7 hown hK hP (pq (8 + y)) ((hty).2.1 I J) rfl 1 (by decide) wd_0 (fun _ h9 => h9) rfl dX7_become_2 ?_
  refine x_put (C := RX7) (T := TX7) (N := 2) hx hb hts in_X7 tyX7 tyX7_ok nmX7 hown hK hP hD hS (pq (8 + x)) ((htx).2.1 I J) rfl 1 (by decide) wd_0 (fun _ h9 => h9) rfl (by decide +kernel) (Nat.le_of_ble_eq_true rfl) ((htx).2.2 I J (I (8 + y) 0)) dX7_become_5 (fun H locs hP hD hS => ?_)
  refine lv_aload_n hx hb dX7_become_8 rfl (lv_at hl 1 rfl) ?_
  refine va_get (D := (dC, dI)) (ci := 6) (v := .ref (ad y)) (C := RX7) (T := TX7) (N := 2) hx hb hts in_X7 hown hK hP (pq (8 + y)) ((hty).2.1 (sets I (8 + x) (I (8 + y) 0)) J) rfl 0 (by decide) wd_1 (fun _ h9 => h9) rfl dX7_become_9 ?_
  refine lv_iconst (v := (0 : Int32)) hx hb dX7_become_12 (by decide) ?_
  refine lv_aload_n hx hb dX7_become_13 rfl (lv_at hl 0 rfl) ?_
  refine va_get (D := (dC, dI)) (ci := 6) (v := .ref (ad x)) (C := RX7) (T := TX7) (N := 2) hx hb hts in_X7 hown hK hP (pq (8 + x)) ((htx).2.1 (sets I (8 + x) (I (8 + y) 0)) J) rfl 0 (by decide) wd_1 (fun _ h9 => h9) rfl dX7_become_14 ?_
  refine lv_iconst (v := (0 : Int32)) hx hb dX7_become_17 (by decide) ?_
  refine lv_bipush (v := (125 : Int32)) hx hb dX7_become_18 (by decide) ?_
  obtain ⟨h_1, hf⟩ := gd_some hf
  refine x_copyi hx hb (hml.trans hl.1.symm) hown wd_2 wd_3 wd_4 wd_5 hK (hty).1 (htx).1 hP hD hS h_1 (Nat.le_of_ble_eq_true rfl) (Nat.le_of_ble_eq_true rfl) dX7_become_20 (fun H locs hP hD hS => ?_)
  cases hf
  exact xRv hx hb hr hlocks hK hP hD hS (fun _ h => h) dX7_become_23
set_option maxHeartbeats 4000000 in
set_option maxRecDepth 100000 in
theorem c_X7_fuseAsGroup (l : Launch) (dC : Nat → ClassId) (dI : Nat → Nat → Nat) (ad : Nat → Nat) (cI cJ cT : ClassId) (w : SI → SJ → va_W) (pq : Nat → Nat) (x : Nat) (htx : TbI w cI ad pq x) (p1 : Int32) (I : SI) (J : SJ) {I0 : SI} (hf : f_X7_fuseAsGroup x p1 I = some I0) : CtV l yX7_fuseAsGroup wsX7_fuseAsGroup ({ frames := 2, cells := 0, slots := 0, locals := 46 } : Room) (dC, dI) (tys3 cI cJ cT) w [.ref (ad (8 + x)), .int p1] I J I0 J := by
  intro sz
  refine Met.ofW (cc := cX7_fuseAsGroup) (maxL := 5) (ret := none) (by decide) rfl ?_
  intro p e s m args below meth c s₁ B hml hv
  obtain ⟨hargs, hsz, hP, hK, hD0⟩ := hv
  have hx := B.exec
  have hb := B.bytes
  have hr := B.returns
  have hts := atoms_spec (ws := wsX7_fuseAsGroup) B.pre
  have hown : s.vm.findClass RX7 = some m.cls := findClass_of_methodNamed B.named
  have hlocks := B.notSynchronized
  subst hsz
  have hD := hD0.self (sz := s.heap.size)
  generalize hAe : va_A (w I J) s.heap.size = A at hD ⊢
  have hA : ∀ q : Nat, s.heap.size ≤ q → A q := fun q h => by rw [← hAe]; exact Or.inr h
  have hS : va_S A s.heap s.heap [] := va_S.rf
  have hl := lv_entry ([.ref (ad (8 + x)), .int p1]) (n := 5) (Nat.le_of_ble_eq_true rfl)
  rw [hargs, lg_entry_eq, ← hargs]
  generalize (lg_sl ([.ref (ad (8 + x)), .int p1]) ++ List.replicate (5 - (lg_sl ([.ref (ad (8 + x)), .int p1])).length) Slot.unset).toArray = ls at hl ⊢
  have hl : lv_has ls 5 [(0, .ref (ad (8 + x))), (1, .int p1)] := hl
  have hfix : CallFix p m c cX7_fuseAsGroup 5 s args wsX7_fuseAsGroup RX7 := ⟨hx, hb, hml, hown, hts⟩
  have L9 : ∀ (Q : State → Prop) (v1 : Int32) (v2 : Int32) (J : SJ) (o : SI), (∀  (I : SI) (H : Heap) (locs : List Loc) (ls : Array Slot), o = I → va_P (dC, dI) vwCl (w I J) H → va_D A (w I J) → va_S A s.heap H locs → lv_has ls 5 [(0, .ref (ad (8 + x))), (1, .int v1), (2, .int v2)] → W p l e ({ frames := 2, cells := 0, slots := 0, locals := 46 } : Room) s m args below meth c H locs 0 0 Q (F0 m 49 ls [])) → ∀ (n : Nat) (v3 : Int32) (I : SI) (H : Heap) (locs : List Loc) (ls : Array Slot), lp_X7_fuseAsGroup_9 x v1 v2 n v3 I = some o → va_P (dC, dI) vwCl (w I J) H → va_D A (w I J) → va_S A s.heap H locs → lv_has ls 5 [(0, .ref (ad (8 + x))), (1, .int v1), (2, .int v2), (3, .int v3)] → W p l e ({ frames := 2, cells := 0, slots := 0, locals := 46 } : Room) s m args below meth c H locs 0 0 Q (F0 m 9 ls []) := by
    intro Q v1 v2 J o K0 n
    clear hP hD hS hl
    induction n with
    | zero =>
      intro v3 I H locs ls hf
      rw [lp_X7_fuseAsGroup_9.eq_1] at hf
      cases hf
    | succ n ih =>
      intro v3 I H locs ls hf hP hD hS hl
      rw [lp_X7_fuseAsGroup_9.eq_2] at hf
      refine lv_iload_n hx hb dX7_fuseAsGroup_9 rfl (lv_at hl 3 rfl) ?_
      refine lv_iload_n hx hb dX7_fuseAsGroup_10 rfl (lv_at hl 1 rfl) ?_
      refine lv_icmp_ge (tgt := 49) hx hb dX7_fuseAsGroup_11 (by decide) (fun c_1 => ?_) (fun c_1 => ?_)
      · have hf := (if_pos c_1).symm.trans hf
        exact K0 _ _ _ _ (Option.some.inj hf).symm hP hD hS (lv_sub hl [0, 1, 2] rfl)
      · have hf := (if_neg c_1).symm.trans hf
        refine lv_iload_n hx hb dX7_fuseAsGroup_14 rfl (lv_at hl 2 rfl) ?_
        refine lv_iload_n hx hb dX7_fuseAsGroup_15 rfl (lv_at hl 3 rfl) ?_
        refine lv_iadd hx hb dX7_fuseAsGroup_16 ?_
        refine lv_iload_n hx hb dX7_fuseAsGroup_17 rfl (lv_at hl 1 rfl) ?_
        refine lv_icmp_lt (tgt := 29) hx hb dX7_fuseAsGroup_18 (by decide) (fun c_2 => ?_) (fun c_2 => ?_)
        · have hf := (if_pos c_2).symm.trans hf
          refine lv_iload_n hx hb dX7_fuseAsGroup_29 rfl (lv_at hl 2 rfl) ?_
          refine lv_iload_n hx hb dX7_fuseAsGroup_30 rfl (lv_at hl 3 rfl) ?_
          refine lv_iadd hx hb dX7_fuseAsGroup_31 ?_
          refine lv_istore (lv' := [(4, .int (v2 + v3)), (0, .ref (ad (8 + x))), (1, .int v1), (2, .int v2), (3, .int v3)]) hx hb dX7_fuseAsGroup_32 hl (by decide) rfl (fun ls hl => ?_)
          refine lv_aload_n hx hb dX7_fuseAsGroup_34 rfl (lv_at hl 1 rfl) ?_
          refine lv_iload_n hx hb dX7_fuseAsGroup_35 rfl (lv_at hl 3 rfl) ?_
          refine lv_iload_n hx hb dX7_fuseAsGroup_36 rfl (lv_at hl 4 rfl) ?_
          refine lv_iload hx hb dX7_fuseAsGroup_37 (lv_at hl 0 rfl) ?_
          refine lv_iconst (v := (1 : Int32)) hx hb dX7_fuseAsGroup_39 (by decide) ?_
          obtain ⟨I_3, hg_3, hf⟩ := bd_some hf
          refine xVv (rest := []) (c_X7_setNumber l dC dI ad cI cJ cT w pq x htx v2 v3 (v2 + v3) (1 : Int32) I J hg_3) hfix (cwV 4 hts gX7_fuseAsGroup_X7_setNumber rfl rfl rfl (by decide +kernel) ⟨Nat.le_of_ble_eq_true rfl, Nat.le_of_ble_eq_true rfl⟩) hK hP hD hS hA (va_recv hK hP (ci := 6) (q0 := (pq (8 + x))) rfl ((htx).2.1 I J)) rfl hl.1 rfl (Nat.le_of_ble_eq_true rfl) ⟨Nat.zero_le _, Nat.zero_le _⟩ dX7_fuseAsGroup_40 (fun H locs hP hD hS => ?_)
          refine lv_iinc (v := (v3 + (1 : Int32))) (lv' := [(3, .int (v3 + (1 : Int32))), (4, .int (v2 + v3)), (0, .ref (ad (8 + x))), (1, .int v1), (2, .int v2)]) hx hb dX7_fuseAsGroup_43 hl (k := 4) rfl (by first | rfl | decide) (by decide) rfl (fun ls hl => ?_)
          refine lv_goto (tgt := 9) hx hb dX7_fuseAsGroup_46 (by decide) ?_
          exact ih _ _ _ _ _ hf hP hD hS (lv_sub hl [2, 3, 4, 0] rfl)
        · have hf := (if_neg c_2).symm.trans hf
          refine lv_iload_n hx hb dX7_fuseAsGroup_21 rfl (lv_at hl 2 rfl) ?_
          refine lv_iload_n hx hb dX7_fuseAsGroup_22 rfl (lv_at hl 3 rfl) ?_
          refine lv_iadd hx hb dX7_fuseAsGroup_23 ?_
          refine lv_iload_n hx hb dX7_fuseAsGroup_24 rfl (lv_at hl 1 rfl) ?_
          refine lv_isub hx hb dX7_fuseAsGroup_25 ?_
          refine lv_goto (tgt := 32) hx hb dX7_fuseAsGroup_26 (by decide) ?_
          refine lv_istore (lv' := [(4, .int ((v2 + v3) - v1)), (0, .ref (ad (8 + x))), (1, .int v1), (2, .int v2), (3, .int v3)]) hx hb dX7_fuseAsGroup_32 hl (by decide) rfl (fun ls hl => ?_)
          refine lv_aload_n hx hb dX7_fuseAsGroup_34 rfl (lv_at hl 1 rfl) ?_
          refine lv_iload_n hx hb dX7_fuseAsGroup_35 rfl (lv_at hl 3 rfl) ?_
          refine lv_iload_n hx hb dX7_fuseAsGroup_36 rfl (lv_at hl 4 rfl) ?_
          refine lv_iload hx hb dX7_fuseAsGroup_37 (lv_at hl 0 rfl) ?_
          refine lv_iconst (v := (1 : Int32)) hx hb dX7_fuseAsGroup_39 (by decide) ?_
          obtain ⟨I_4, hg_4, hf⟩ := bd_some hf
          refine xVv (rest := []) (c_X7_setNumber l dC dI ad cI cJ cT w pq x htx v2 v3 ((v2 + v3) - v1) (1 : Int32) I J hg_4) hfix (cwV 4 hts gX7_fuseAsGroup_X7_setNumber rfl rfl rfl (by decide +kernel) ⟨Nat.le_of_ble_eq_true rfl, Nat.le_of_ble_eq_true rfl⟩) hK hP hD hS hA (va_recv hK hP (ci := 6) (q0 := (pq (8 + x))) rfl ((htx).2.1 I J)) rfl hl.1 rfl (Nat.le_of_ble_eq_true rfl) ⟨Nat.zero_le _, Nat.zero_le _⟩ dX7_fuseAsGroup_40 (fun H locs hP hD hS => ?_)
          refine lv_iinc (v := (v3 + (1 : Int32))) (lv' := [(3, .int (v3 + (1 : Int32))), (4, .int ((v2 + v3) - v1)), (0, .ref (ad (8 + x))), (1, .int v1), (2, .int v2)]) hx hb dX7_fuseAsGroup_43 hl (k := 4) rfl (by first | rfl | decide) (by decide) rfl (fun ls hl => ?_)
          refine lv_goto (tgt := 9) hx hb dX7_fuseAsGroup_46 (by decide) ?_
          exact ih _ _ _ _ _ hf hP hD hS (lv_sub hl [2, 3, 4, 0] rfl)
  have L2 : ∀ (Q : State → Prop) (v1 : Int32) (J : SJ) (o : SI), (∀  (I : SI) (H : Heap) (locs : List Loc) (ls : Array Slot), o = I → va_P (dC, dI) vwCl (w I J) H → va_D A (w I J) → va_S A s.heap H locs → lv_has ls 5 [] → W p l e ({ frames := 2, cells := 0, slots := 0, locals := 46 } : Room) s m args below meth c H locs 0 0 Q (F0 m 55 ls [])) → ∀ (n : Nat) (v2 : Int32) (I : SI) (H : Heap) (locs : List Loc) (ls : Array Slot), lp_X7_fuseAsGroup_2 x v1 n v2 I = some o → va_P (dC, dI) vwCl (w I J) H → va_D A (w I J) → va_S A s.heap H locs → lv_has ls 5 [(0, .ref (ad (8 + x))), (1, .int v1), (2, .int v2)] → W p l e ({ frames := 2, cells := 0, slots := 0, locals := 46 } : Room) s m args below meth c H locs 0 0 Q (F0 m 2 ls []) := by
    intro Q v1 J o K0 n
    clear hP hD hS hl
    induction n with
    | zero =>
      intro v2 I H locs ls hf
      rw [lp_X7_fuseAsGroup_2.eq_1] at hf
      cases hf
    | succ n ih =>
      intro v2 I H locs ls hf hP hD hS hl
      rw [lp_X7_fuseAsGroup_2.eq_2] at hf
      refine lv_iload_n hx hb dX7_fuseAsGroup_2 rfl (lv_at hl 2 rfl) ?_
      refine lv_iload_n hx hb dX7_fuseAsGroup_3 rfl (lv_at hl 1 rfl) ?_
      refine lv_icmp_ge (tgt := 55) hx hb dX7_fuseAsGroup_4 (by decide) (fun c_5 => ?_) (fun c_5 => ?_)
      · have hf := (if_pos c_5).symm.trans hf
        exact K0 _ _ _ _ (Option.some.inj hf).symm hP hD hS (lv_sub hl [] rfl)
      · have hf := (if_neg c_5).symm.trans hf
        refine lv_iconst (v := (0 : Int32)) hx hb dX7_fuseAsGroup_7 (by decide) ?_
        refine lv_istore_n (lv' := [(3, .int (0 : Int32)), (0, .ref (ad (8 + x))), (1, .int v1), (2, .int v2)]) hx hb dX7_fuseAsGroup_8 rfl hl (by decide) rfl (fun ls hl => ?_)
        obtain ⟨o_6, hg_6, hf⟩ := bd_some hf
        refine L9 _ v1 v2 J o_6 ?_ FU (0 : Int32) I _ _ _ hg_6 hP hD hS (lv_sub hl [1, 2, 3, 0] rfl)
        · intro I_6 H locs ls ho hP hD hS hl
          subst o_6
          refine lv_iinc (v := (v2 + (1 : Int32))) (lv' := [(2, .int (v2 + (1 : Int32))), (0, .ref (ad (8 + x))), (1, .int v1)]) hx hb dX7_fuseAsGroup_49 hl (k := 2) rfl (by first | rfl | decide) (by decide) rfl (fun ls hl => ?_)
          refine lv_goto (tgt := 2) hx hb dX7_fuseAsGroup_52 (by decide) ?_
          exact ih _ _ _ _ _ hf hP hD hS (lv_sub hl [1, 2, 0] rfl)
  unfold f_X7_fuseAsGroup at hf
  refine lv_iconst (v := (0 : Int32)) hx hb dX7_fuseAsGroup_0 (by decide) ?_
  refine lv_istore_n (lv' := [(2, .int (0 : Int32)), (0, .ref (ad (8 + x))), (1, .int p1)]) hx hb dX7_fuseAsGroup_1 rfl hl (by decide) rfl (fun ls hl => ?_)
  obtain ⟨o_7, hg_7, hf⟩ := bd_some hf
  refine L2 _ p1 J o_7 ?_ FU (0 : Int32) I _ _ _ hg_7 hP hD hS (lv_sub hl [1, 2, 0] rfl)
  · intro I_7 H locs ls ho hP hD hS hl
    subst o_7
    cases hf
    exact xRv hx hb hr hlocks hK hP hD hS (fun _ h => h) dX7_fuseAsGroup_55
set_option maxHeartbeats 4000000 in
set_option maxRecDepth 100000 in
theorem c_X7_placeBlock (l : Launch) (dC : Nat → ClassId) (dI : Nat → Nat → Nat) (ad : Nat → Nat) (cI cJ cT : ClassId) (w : SI → SJ → va_W) (pq : Nat → Nat) (x : Nat) (htx : TbI w cI ad pq x) (y : Nat) (hty : TbI w cI ad pq y) (p2 : Int32) (p3 : Int32) (p4 : Int32) (p5 : Int32) (I : SI) (J : SJ) {r0 : Int32} {I0 : SI} (hf : f_X7_placeBlock x y p2 p3 p4 p5 I = some (r0, I0)) : CtI l yX7_placeBlock wsX7_placeBlock ({ frames := 2, cells := 0, slots := 0, locals := 46 } : Room) (dC, dI) (tys3 cI cJ cT) w [.ref (ad (8 + x)), .ref (ad (8 + y)), .int p2, .int p3, .int p4, .int p5] I J r0 I0 J := by
  intro sz
  refine Met.ofW (cc := cX7_placeBlock) (maxL := 10) (ret := (some .boolean)) (by decide) rfl ?_
  intro p e s m args below meth c s₁ B hml hv
  obtain ⟨hargs, hsz, hP, hK, hD0⟩ := hv
  have hx := B.exec
  have hb := B.bytes
  have hr := B.returns
  have hts := atoms_spec (ws := wsX7_placeBlock) B.pre
  have hown : s.vm.findClass RX7 = some m.cls := findClass_of_methodNamed B.named
  have hlocks := B.notSynchronized
  subst hsz
  have hD := hD0.self (sz := s.heap.size)
  generalize hAe : va_A (w I J) s.heap.size = A at hD ⊢
  have hA : ∀ q : Nat, s.heap.size ≤ q → A q := fun q h => by rw [← hAe]; exact Or.inr h
  have hS : va_S A s.heap s.heap [] := va_S.rf
  have hl := lv_entry ([.ref (ad (8 + x)), .ref (ad (8 + y)), .int p2, .int p3, .int p4, .int p5]) (n := 10) (Nat.le_of_ble_eq_true rfl)
  rw [hargs, lg_entry_eq, ← hargs]
  generalize (lg_sl ([.ref (ad (8 + x)), .ref (ad (8 + y)), .int p2, .int p3, .int p4, .int p5]) ++ List.replicate (10 - (lg_sl ([.ref (ad (8 + x)), .ref (ad (8 + y)), .int p2, .int p3, .int p4, .int p5])).length) Slot.unset).toArray = ls at hl ⊢
  have hl : lv_has ls 10 [(0, .ref (ad (8 + x))), (1, .ref (ad (8 + y))), (2, .int p2), (3, .int p3), (4, .int p4), (5, .int p5)] := hl
  have hfix : CallFix p m c cX7_placeBlock 10 s args wsX7_placeBlock RX7 := ⟨hx, hb, hml, hown, hts⟩
  have in_X7 : ∀ w ∈ u_ws RX7 TX7 2, w ∈ wsX7_placeBlock := by decide +kernel
  have wd_0 := hts (.fieldLink RX7 19 "FuseBench$Table" "kinds" "I") (by decide +kernel)
  have L27 : ∀ (Q : State → Prop) (v2 : Int32) (v3 : Int32) (v4 : Int32) (v5 : Int32) (v6 : Int32) (v7 : Int32) (J : SJ) (o : Nat × SI), (∀  (I : SI) (H : Heap) (locs : List Loc) (ls : Array Slot), o = (0, I) → va_P (dC, dI) vwCl (w I J) H → va_D A (w I J) → va_S A s.heap H locs → lv_has ls 10 [] → W p l e ({ frames := 2, cells := 0, slots := 0, locals := 46 } : Room) s m args below meth c H locs 0 0 Q (F0 m 57 ls [])) → (∀  (I : SI) (H : Heap) (locs : List Loc) (ls : Array Slot), o = (1, I) → va_P (dC, dI) vwCl (w I J) H → va_D A (w I J) → va_S A s.heap H locs → lv_has ls 10 [(0, .ref (ad (8 + x))), (1, .ref (ad (8 + y))), (2, .int v2), (3, .int v3), (4, .int v4), (5, .int v5), (6, .int v6), (7, .int v7)] → W p l e ({ frames := 2, cells := 0, slots := 0, locals := 46 } : Room) s m args below meth c H locs 0 0 Q (F0 m 85 ls [])) → ∀ (n : Nat) (v8 : Int32) (I : SI) (H : Heap) (locs : List Loc) (ls : Array Slot), lp_X7_placeBlock_27 x y v2 v3 v4 v5 v6 v7 n v8 I = some o → va_P (dC, dI) vwCl (w I J) H → va_D A (w I J) → va_S A s.heap H locs → lv_has ls 10 [(0, .ref (ad (8 + x))), (1, .ref (ad (8 + y))), (2, .int v2), (3, .int v3), (4, .int v4), (5, .int v5), (6, .int v6), (7, .int v7), (8, .int v8)] → W p l e ({ frames := 2, cells := 0, slots := 0, locals := 46 } : Room) s m args below meth c H locs 0 0 Q (F0 m 27 ls []) := by
    intro Q v2 v3 v4 v5 v6 v7 J o K0 K1 n
    clear hP hD hS hl
    induction n with
    | zero =>
      intro v8 I H locs ls hf
      rw [lp_X7_placeBlock_27.eq_1] at hf
      cases hf
    | succ n ih =>
      intro v8 I H locs ls hf hP hD hS hl
      rw [lp_X7_placeBlock_27.eq_2] at hf
      refine lv_iload hx hb dX7_placeBlock_27 (lv_at hl 8 rfl) ?_
      refine lv_aload_n hx hb dX7_placeBlock_29 rfl (lv_at hl 1 rfl) ?_
      refine va_get (D := (dC, dI)) (ci := 6) (v := .int (I (8 + y) 0)) (C := RX7) (T := TX7) (N := 2) hx hb hts in_X7 hown hK hP (pq (8 + y)) ((hty).2.1 I J) rfl 1 (by decide) wd_0 (fun _ h9 => h9) rfl dX7_placeBlock_30 ?_
      refine lv_icmp_ge (tgt := 85) hx hb dX7_placeBlock_33 (by decide) (fun c_1 => ?_) (fun c_1 => ?_)
      · have hf := (if_pos c_1).symm.trans hf
        exact K1 _ _ _ _ (Option.some.inj hf).symm hP hD hS (lv_sub hl [0, 1, 2, 3, 4, 5, 6, 7] rfl)
      · have hf := (if_neg c_1).symm.trans hf
        refine lv_iload_n hx hb dX7_placeBlock_36 rfl (lv_at hl 2 rfl) ?_
        refine lv_aload_n hx hb dX7_placeBlock_37 rfl (lv_at hl 1 rfl) ?_
        refine lv_iload hx hb dX7_placeBlock_38 (lv_at hl 6 rfl) ?_
        refine lv_iload hx hb dX7_placeBlock_40 (lv_at hl 7 rfl) ?_
        refine lv_iload hx hb dX7_placeBlock_42 (lv_at hl 8 rfl) ?_
        obtain ⟨r_2, hg_2, hf⟩ := bd_some hf
        refine xVi (rest := [.int v2]) (c_X7_number l dC dI ad cI cJ cT w pq y hty v6 v7 v8 I J hg_2) hfix (cwV 3 hts gX7_placeBlock_X7_number rfl rfl rfl (by decide +kernel) ⟨Nat.le_of_ble_eq_true rfl, Nat.le_of_ble_eq_true rfl⟩) hK hP hD hS hA (va_recv hK hP (ci := 6) (q0 := (pq (8 + y))) rfl ((hty).2.1 I J)) rfl hl.1 rfl (Nat.le_of_ble_eq_true rfl) ⟨Nat.zero_le _, Nat.zero_le _⟩ dX7_placeBlock_44 (fun H locs hP hD hS => ?_)
        refine lv_imul hx hb dX7_placeBlock_47 ?_
        refine lv_istore (lv' := [(9, .int (v2 * r_2)), (0, .ref (ad (8 + x))), (1, .ref (ad (8 + y))), (2, .int v2), (3, .int v3), (4, .int v4), (5, .int v5), (6, .int v6), (7, .int v7), (8, .int v8)]) hx hb dX7_placeBlock_48 hl (by decide) rfl (fun ls hl => ?_)
        refine lv_iload hx hb dX7_placeBlock_50 (lv_at hl 0 rfl) ?_
        refine lv_bipush (v := (9 : Int32)) hx hb dX7_placeBlock_52 (by decide) ?_
        refine lv_icmp_le (tgt := 59) hx hb dX7_placeBlock_54 (by decide) (fun c_3 => ?_) (fun c_3 => ?_)
        · have hf := (if_pos c_3).symm.trans hf
          refine lv_aload_n hx hb dX7_placeBlock_59 rfl (lv_at hl 1 rfl) ?_
          refine lv_iload_n hx hb dX7_placeBlock_60 rfl (lv_at hl 4 rfl) ?_
          refine lv_iload hx hb dX7_placeBlock_61 (lv_at hl 7 rfl) ?_
          refine lv_iadd hx hb dX7_placeBlock_63 ?_
          refine lv_iload hx hb dX7_placeBlock_64 (lv_at hl 5 rfl) ?_
          refine lv_iload hx hb dX7_placeBlock_66 (lv_at hl 8 rfl) ?_
          refine lv_iadd hx hb dX7_placeBlock_68 ?_
          refine lv_iload hx hb dX7_placeBlock_69 (lv_at hl 6 rfl) ?_
          refine lv_iload hx hb dX7_placeBlock_71 (lv_at hl 9 rfl) ?_
          refine lv_iadd hx hb dX7_placeBlock_73 ?_
          refine lv_iload hx hb dX7_placeBlock_74 (lv_at hl 0 rfl) ?_
          obtain ⟨I_4, hg_4, hf⟩ := bd_some hf
          refine xVv (rest := []) (c_X7_setNumber l dC dI ad cI cJ cT w pq x htx (v3 + v6) (v4 + v7) (v5 + v8) (v2 * r_2) I J hg_4) hfix (cwV 4 hts gX7_placeBlock_X7_setNumber rfl rfl rfl (by decide +kernel) ⟨Nat.le_of_ble_eq_true rfl, Nat.le_of_ble_eq_true rfl⟩) hK hP hD hS hA (va_recv hK hP (ci := 6) (q0 := (pq (8 + x))) rfl ((htx).2.1 I J)) rfl hl.1 rfl (Nat.le_of_ble_eq_true rfl) ⟨Nat.zero_le _, Nat.zero_le _⟩ dX7_placeBlock_76 (fun H locs hP hD hS => ?_)
          refine lv_iinc (v := (v8 + (1 : Int32))) (lv' := [(8, .int (v8 + (1 : Int32))), (9, .int (v2 * r_2)), (0, .ref (ad (8 + x))), (1, .ref (ad (8 + y))), (2, .int v2), (3, .int v3), (4, .int v4), (5, .int v5), (6, .int v6), (7, .int v7)]) hx hb dX7_placeBlock_79 hl (k := 9) rfl (by first | rfl | decide) (by decide) rfl (fun ls hl => ?_)
          refine lv_goto (tgt := 27) hx hb dX7_placeBlock_82 (by decide) ?_
          exact ih _ _ _ _ _ hf hP hD hS (lv_sub hl [2, 3, 4, 5, 6, 7, 8, 9, 0] rfl)
        · have hf := (if_neg c_3).symm.trans hf
          exact K0 _ _ _ _ (Option.some.inj hf).symm hP hD hS (lv_sub hl [] rfl)
  have L15 : ∀ (Q : State → Prop) (v2 : Int32) (v3 : Int32) (v4 : Int32) (v5 : Int32) (v6 : Int32) (J : SJ) (o : Nat × SI), (∀  (I : SI) (H : Heap) (locs : List Loc) (ls : Array Slot), o = (0, I) → va_P (dC, dI) vwCl (w I J) H → va_D A (w I J) → va_S A s.heap H locs → lv_has ls 10 [] → W p l e ({ frames := 2, cells := 0, slots := 0, locals := 46 } : Room) s m args below meth c H locs 0 0 Q (F0 m 57 ls [])) → (∀  (I : SI) (H : Heap) (locs : List Loc) (ls : Array Slot), o = (1, I) → va_P (dC, dI) vwCl (w I J) H → va_D A (w I J) → va_S A s.heap H locs → lv_has ls 10 [(0, .ref (ad (8 + x))), (1, .ref (ad (8 + y))), (2, .int v2), (3, .int v3), (4, .int v4), (5, .int v5), (6, .int v6)] → W p l e ({ frames := 2, cells := 0, slots := 0, locals := 46 } : Room) s m args below meth c H locs 0 0 Q (F0 m 91 ls [])) → ∀ (n : Nat) (v7 : Int32) (I : SI) (H : Heap) (locs : List Loc) (ls : Array Slot), lp_X7_placeBlock_15 x y v2 v3 v4 v5 v6 n v7 I = some o → va_P (dC, dI) vwCl (w I J) H → va_D A (w I J) → va_S A s.heap H locs → lv_has ls 10 [(0, .ref (ad (8 + x))), (1, .ref (ad (8 + y))), (2, .int v2), (3, .int v3), (4, .int v4), (5, .int v5), (6, .int v6), (7, .int v7)] → W p l e ({ frames := 2, cells := 0, slots := 0, locals := 46 } : Room) s m args below meth c H locs 0 0 Q (F0 m 15 ls []) := by
    intro Q v2 v3 v4 v5 v6 J o K0 K1 n
    clear hP hD hS hl
    induction n with
    | zero =>
      intro v7 I H locs ls hf
      rw [lp_X7_placeBlock_15.eq_1] at hf
      cases hf
    | succ n ih =>
      intro v7 I H locs ls hf hP hD hS hl
      rw [lp_X7_placeBlock_15.eq_2] at hf
      refine lv_iload hx hb dX7_placeBlock_15 (lv_at hl 7 rfl) ?_
      refine lv_aload_n hx hb dX7_placeBlock_17 rfl (lv_at hl 1 rfl) ?_
      refine va_get (D := (dC, dI)) (ci := 6) (v := .int (I (8 + y) 0)) (C := RX7) (T := TX7) (N := 2) hx hb hts in_X7 hown hK hP (pq (8 + y)) ((hty).2.1 I J) rfl 1 (by decide) wd_0 (fun _ h9 => h9) rfl dX7_placeBlock_18 ?_
      refine lv_icmp_ge (tgt := 91) hx hb dX7_placeBlock_21 (by decide) (fun c_5 => ?_) (fun c_5 => ?_)
      · have hf := (if_pos c_5).symm.trans hf
        exact K1 _ _ _ _ (Option.some.inj hf).symm hP hD hS (lv_sub hl [0, 1, 2, 3, 4, 5, 6] rfl)
      · have hf := (if_neg c_5).symm.trans hf
        refine lv_iconst (v := (0 : Int32)) hx hb dX7_placeBlock_24 (by decide) ?_
        refine lv_istore (lv' := [(8, .int (0 : Int32)), (0, .ref (ad (8 + x))), (1, .ref (ad (8 + y))), (2, .int v2), (3, .int v3), (4, .int v4), (5, .int v5), (6, .int v6), (7, .int v7)]) hx hb dX7_placeBlock_25 hl (by decide) rfl (fun ls hl => ?_)
        obtain ⟨o_6, hg_6, hf⟩ := bd_some hf
        refine L27 _ v2 v3 v4 v5 v6 v7 J o_6 ?_ ?_ FU (0 : Int32) I _ _ _ hg_6 hP hD hS (lv_sub hl [1, 2, 3, 4, 5, 6, 7, 8, 0] rfl)
        · intro I_6 H locs ls ho hP hD hS hl
          subst o_6
          have hf := (if_pos (show 0 = 0 from rfl)).symm.trans hf
          exact K0 _ _ _ _ (Option.some.inj hf).symm hP hD hS (lv_sub hl [] rfl)
        · intro I_6 H locs ls ho hP hD hS hl
          subst o_6
          have hf := (if_neg (show ¬ (1 = 0) by decide)).symm.trans hf
          refine lv_iinc (v := (v7 + (1 : Int32))) (lv' := [(7, .int (v7 + (1 : Int32))), (0, .ref (ad (8 + x))), (1, .ref (ad (8 + y))), (2, .int v2), (3, .int v3), (4, .int v4), (5, .int v5), (6, .int v6)]) hx hb dX7_placeBlock_85 hl (k := 7) rfl (by first | rfl | decide) (by decide) rfl (fun ls hl => ?_)
          refine lv_goto (tgt := 15) hx hb dX7_placeBlock_88 (by decide) ?_
          exact ih _ _ _ _ _ hf hP hD hS (lv_sub hl [1, 2, 3, 4, 5, 6, 7, 0] rfl)
  have L3 : ∀ (Q : State → Prop) (v2 : Int32) (v3 : Int32) (v4 : Int32) (v5 : Int32) (J : SJ) (o : Nat × SI), (∀  (I : SI) (H : Heap) (locs : List Loc) (ls : Array Slot), o = (0, I) → va_P (dC, dI) vwCl (w I J) H → va_D A (w I J) → va_S A s.heap H locs → lv_has ls 10 [] → W p l e ({ frames := 2, cells := 0, slots := 0, locals := 46 } : Room) s m args below meth c H locs 0 0 Q (F0 m 57 ls [])) → (∀  (I : SI) (H : Heap) (locs : List Loc) (ls : Array Slot), o = (1, I) → va_P (dC, dI) vwCl (w I J) H → va_D A (w I J) → va_S A s.heap H locs → lv_has ls 10 [] → W p l e ({ frames := 2, cells := 0, slots := 0, locals := 46 } : Room) s m args below meth c H locs 0 0 Q (F0 m 97 ls [])) → ∀ (n : Nat) (v6 : Int32) (I : SI) (H : Heap) (locs : List Loc) (ls : Array Slot), lp_X7_placeBlock_3 x y v2 v3 v4 v5 n v6 I = some o → va_P (dC, dI) vwCl (w I J) H → va_D A (w I J) → va_S A s.heap H locs → lv_has ls 10 [(0, .ref (ad (8 + x))), (1, .ref (ad (8 + y))), (2, .int v2), (3, .int v3), (4, .int v4), (5, .int v5), (6, .int v6)] → W p l e ({ frames := 2, cells := 0, slots := 0, locals := 46 } : Room) s m args below meth c H locs 0 0 Q (F0 m 3 ls []) := by
    intro Q v2 v3 v4 v5 J o K0 K1 n
    clear hP hD hS hl
    induction n with
    | zero =>
      intro v6 I H locs ls hf
      rw [lp_X7_placeBlock_3.eq_1] at hf
      cases hf
    | succ n ih =>
      intro v6 I H locs ls hf hP hD hS hl
      rw [lp_X7_placeBlock_3.eq_2] at hf
      refine lv_iload hx hb dX7_placeBlock_3 (lv_at hl 6 rfl) ?_
      refine lv_aload_n hx hb dX7_placeBlock_5 rfl (lv_at hl 1 rfl) ?_
      refine va_get (D := (dC, dI)) (ci := 6) (v := .int (I (8 + y) 0)) (C := RX7) (T := TX7) (N := 2) hx hb hts in_X7 hown hK hP (pq (8 + y)) ((hty).2.1 I J) rfl 1 (by decide) wd_0 (fun _ h9 => h9) rfl dX7_placeBlock_6 ?_
      refine lv_icmp_ge (tgt := 97) hx hb dX7_placeBlock_9 (by decide) (fun c_7 => ?_) (fun c_7 => ?_)
      · have hf := (if_pos c_7).symm.trans hf
        exact K1 _ _ _ _ (Option.some.inj hf).symm hP hD hS (lv_sub hl [] rfl)
      · have hf := (if_neg c_7).symm.trans hf
        refine lv_iconst (v := (0 : Int32)) hx hb dX7_placeBlock_12 (by decide) ?_
        refine lv_istore (lv' := [(7, .int (0 : Int32)), (0, .ref (ad (8 + x))), (1, .ref (ad (8 + y))), (2, .int v2), (3, .int v3), (4, .int v4), (5, .int v5), (6, .int v6)]) hx hb dX7_placeBlock_13 hl (by decide) rfl (fun ls hl => ?_)
        obtain ⟨o_8, hg_8, hf⟩ := bd_some hf
        refine L15 _ v2 v3 v4 v5 v6 J o_8 ?_ ?_ FU (0 : Int32) I _ _ _ hg_8 hP hD hS (lv_sub hl [1, 2, 3, 4, 5, 6, 7, 0] rfl)
        · intro I_8 H locs ls ho hP hD hS hl
          subst o_8
          have hf := (if_pos (show 0 = 0 from rfl)).symm.trans hf
          exact K0 _ _ _ _ (Option.some.inj hf).symm hP hD hS (lv_sub hl [] rfl)
        · intro I_8 H locs ls ho hP hD hS hl
          subst o_8
          have hf := (if_neg (show ¬ (1 = 0) by decide)).symm.trans hf
          refine lv_iinc (v := (v6 + (1 : Int32))) (lv' := [(6, .int (v6 + (1 : Int32))), (0, .ref (ad (8 + x))), (1, .ref (ad (8 + y))), (2, .int v2), (3, .int v3), (4, .int v4), (5, .int v5)]) hx hb dX7_placeBlock_91 hl (k := 6) rfl (by first | rfl | decide) (by decide) rfl (fun ls hl => ?_)
          refine lv_goto (tgt := 3) hx hb dX7_placeBlock_94 (by decide) ?_
          exact ih _ _ _ _ _ hf hP hD hS (lv_sub hl [1, 2, 3, 4, 5, 6, 0] rfl)
  unfold f_X7_placeBlock at hf
  refine lv_iconst (v := (0 : Int32)) hx hb dX7_placeBlock_0 (by decide) ?_
  refine lv_istore (lv' := [(6, .int (0 : Int32)), (0, .ref (ad (8 + x))), (1, .ref (ad (8 + y))), (2, .int p2), (3, .int p3), (4, .int p4), (5, .int p5)]) hx hb dX7_placeBlock_1 hl (by decide) rfl (fun ls hl => ?_)
  obtain ⟨o_9, hg_9, hf⟩ := bd_some hf
  refine L3 _ p2 p3 p4 p5 J o_9 ?_ ?_ FU (0 : Int32) I _ _ _ hg_9 hP hD hS (lv_sub hl [1, 2, 3, 4, 5, 6, 0] rfl)
  · intro I_9 H locs ls ho hP hD hS hl
    subst o_9
    have hf := (if_pos (show 0 = 0 from rfl)).symm.trans hf
    refine lv_iconst (v := (0 : Int32)) hx hb dX7_placeBlock_57 (by decide) ?_
    cases hf
    exact xRz hx hb hr hlocks rfl hK hP hD hS (fun _ h => h) dX7_placeBlock_58
  · intro I_9 H locs ls ho hP hD hS hl
    subst o_9
    have hf := (if_neg (show ¬ (1 = 0) by decide)).symm.trans hf
    refine lv_iconst (v := (1 : Int32)) hx hb dX7_placeBlock_97 (by decide) ?_
    cases hf
    exact xRz hx hb hr hlocks rfl hK hP hD hS (fun _ h => h) dX7_placeBlock_98
set_option maxHeartbeats 4000000 in
set_option maxRecDepth 100000 in
theorem c_X7_becomeProduct (l : Launch) (dC : Nat → ClassId) (dI : Nat → Nat → Nat) (ad : Nat → Nat) (cI cJ cT : ClassId) (w : SI → SJ → va_W) (pq : Nat → Nat) (x : Nat) (htx : TbI w cI ad pq x) (y : Nat) (hty : TbI w cI ad pq y) (z : Nat) (htz : TbI w cI ad pq z) (I : SI) (J : SJ) {r0 : Int32} {I0 : SI} (hf : f_X7_becomeProduct x y z I = some (r0, I0)) : CtI l yX7_becomeProduct wsX7_becomeProduct ({ frames := 3, cells := 0, slots := 0, locals := 75 } : Room) (dC, dI) (tys3 cI cJ cT) w [.ref (ad (8 + x)), .ref (ad (8 + y)), .ref (ad (8 + z))] I J r0 I0 J := by
  intro sz
  refine Met.ofW (cc := cX7_becomeProduct) (maxL := 7) (ret := (some .boolean)) (by decide) rfl ?_
  intro p e s m args below meth c s₁ B hml hv
  obtain ⟨hargs, hsz, hP, hK, hD0⟩ := hv
  have hx := B.exec
  have hb := B.bytes
  have hr := B.returns
  have hts := atoms_spec (ws := wsX7_becomeProduct) B.pre
  have hown : s.vm.findClass RX7 = some m.cls := findClass_of_methodNamed B.named
  have hlocks := B.notSynchronized
  subst hsz
  have hD := hD0.self (sz := s.heap.size)
  generalize hAe : va_A (w I J) s.heap.size = A at hD ⊢
  have hA : ∀ q : Nat, s.heap.size ≤ q → A q := fun q h => by rw [← hAe]; exact Or.inr h
  have hS : va_S A s.heap s.heap [] := va_S.rf
  have hl := lv_entry ([.ref (ad (8 + x)), .ref (ad (8 + y)), .ref (ad (8 + z))]) (n := 7) (Nat.le_of_ble_eq_true rfl)
  rw [hargs, lg_entry_eq, ← hargs]
  generalize (lg_sl ([.ref (ad (8 + x)), .ref (ad (8 + y)), .ref (ad (8 + z))]) ++ List.replicate (7 - (lg_sl ([.ref (ad (8 + x)), .ref (ad (8 + y)), .ref (ad (8 + z))])).length) Slot.unset).toArray = ls at hl ⊢
  have hl : lv_has ls 7 [(0, .ref (ad (8 + x))), (1, .ref (ad (8 + y))), (2, .ref (ad (8 + z)))] := hl
  have hfix : CallFix p m c cX7_becomeProduct 7 s args wsX7_becomeProduct RX7 := ⟨hx, hb, hml, hown, hts⟩
  have in_X7 : ∀ w ∈ u_ws RX7 TX7 2, w ∈ wsX7_becomeProduct := by decide +kernel
  have wd_0 := hts (.fieldLink RX7 19 "FuseBench$Table" "kinds" "I") (by decide +kernel)
  have L42 : ∀ (Q : State → Prop) (v3 : Int32) (v4 : Int32) (v5 : Int32) (J : SJ) (o : Nat × SI), (∀  (I : SI) (H : Heap) (locs : List Loc) (ls : Array Slot), o = (0, I) → va_P (dC, dI) vwCl (w I J) H → va_D A (w I J) → va_S A s.heap H locs → lv_has ls 7 [] → W p l e ({ frames := 3, cells := 0, slots := 0, locals := 75 } : Room) s m args below meth c H locs 0 0 Q (F0 m 81 ls [])) → (∀  (I : SI) (H : Heap) (locs : List Loc) (ls : Array Slot), o = (1, I) → va_P (dC, dI) vwCl (w I J) H → va_D A (w I J) → va_S A s.heap H locs → lv_has ls 7 [(0, .ref (ad (8 + x))), (1, .ref (ad (8 + y))), (2, .ref (ad (8 + z))), (3, .int v3), (4, .int v4), (5, .int v5)] → W p l e ({ frames := 3, cells := 0, slots := 0, locals := 75 } : Room) s m args below meth c H locs 0 0 Q (F0 m 89 ls [])) → ∀ (n : Nat) (v6 : Int32) (I : SI) (H : Heap) (locs : List Loc) (ls : Array Slot), lp_X7_becomeProduct_42 x y z v3 v4 v5 n v6 I = some o → va_P (dC, dI) vwCl (w I J) H → va_D A (w I J) → va_S A s.heap H locs → lv_has ls 7 [(0, .ref (ad (8 + x))), (1, .ref (ad (8 + y))), (2, .ref (ad (8 + z))), (3, .int v3), (4, .int v4), (5, .int v5), (6, .int v6)] → W p l e ({ frames := 3, cells := 0, slots := 0, locals := 75 } : Room) s m args below meth c H locs 0 0 Q (F0 m 42 ls []) := by
    intro Q v3 v4 v5 J o K0 K1 n
    clear hP hD hS hl
    induction n with
    | zero =>
      intro v6 I H locs ls hf
      rw [lp_X7_becomeProduct_42.eq_1] at hf
      cases hf
    | succ n ih =>
      intro v6 I H locs ls hf hP hD hS hl
      rw [lp_X7_becomeProduct_42.eq_2] at hf
      refine lv_iload hx hb dX7_becomeProduct_42 (lv_at hl 6 rfl) ?_
      refine lv_aload_n hx hb dX7_becomeProduct_44 rfl (lv_at hl 1 rfl) ?_
      refine va_get (D := (dC, dI)) (ci := 6) (v := .int (I (8 + y) 0)) (C := RX7) (T := TX7) (N := 2) hx hb hts in_X7 hown hK hP (pq (8 + y)) ((hty).2.1 I J) rfl 1 (by decide) wd_0 (fun _ h9 => h9) rfl dX7_becomeProduct_45 ?_
      refine lv_icmp_ge (tgt := 89) hx hb dX7_becomeProduct_48 (by decide) (fun c_1 => ?_) (fun c_1 => ?_)
      · have hf := (if_pos c_1).symm.trans hf
        exact K1 _ _ _ _ (Option.some.inj hf).symm hP hD hS (lv_sub hl [0, 1, 2, 3, 4, 5] rfl)
      · have hf := (if_neg c_1).symm.trans hf
        refine lv_aload_n hx hb dX7_becomeProduct_51 rfl (lv_at hl 0 rfl) ?_
        refine lv_aload_n hx hb dX7_becomeProduct_52 rfl (lv_at hl 2 rfl) ?_
        refine lv_aload_n hx hb dX7_becomeProduct_53 rfl (lv_at hl 1 rfl) ?_
        refine lv_iload hx hb dX7_becomeProduct_54 (lv_at hl 4 rfl) ?_
        refine lv_iload hx hb dX7_becomeProduct_56 (lv_at hl 5 rfl) ?_
        refine lv_iload hx hb dX7_becomeProduct_58 (lv_at hl 6 rfl) ?_
        obtain ⟨r_2, hg_2, hf⟩ := bd_some hf
        refine xVi (rest := [.ref (ad (8 + z)), .ref (ad (8 + x))]) (c_X7_number l dC dI ad cI cJ cT w pq y hty v4 v5 v6 I J hg_2) hfix (cwV 3 hts gX7_becomeProduct_X7_number rfl rfl rfl (by decide +kernel) ⟨Nat.le_of_ble_eq_true rfl, Nat.le_of_ble_eq_true rfl⟩) hK hP hD hS hA (va_recv hK hP (ci := 6) (q0 := (pq (8 + y))) rfl ((hty).2.1 I J)) rfl hl.1 rfl (Nat.le_of_ble_eq_true rfl) ⟨Nat.zero_le _, Nat.zero_le _⟩ dX7_becomeProduct_60 (fun H locs hP hD hS => ?_)
        refine lv_iload hx hb dX7_becomeProduct_63 (lv_at hl 4 rfl) ?_
        refine lv_iload_n hx hb dX7_becomeProduct_65 rfl (lv_at hl 3 rfl) ?_
        refine lv_imul hx hb dX7_becomeProduct_66 ?_
        refine lv_iload hx hb dX7_becomeProduct_67 (lv_at hl 5 rfl) ?_
        refine lv_iload_n hx hb dX7_becomeProduct_69 rfl (lv_at hl 3 rfl) ?_
        refine lv_imul hx hb dX7_becomeProduct_70 ?_
        refine lv_iload hx hb dX7_becomeProduct_71 (lv_at hl 6 rfl) ?_
        refine lv_iload_n hx hb dX7_becomeProduct_73 rfl (lv_at hl 3 rfl) ?_
        refine lv_imul hx hb dX7_becomeProduct_74 ?_
        obtain ⟨⟨r_3, I_3⟩, hg_3, hf⟩ := bd_some hf
        refine xVi (rest := []) (c_X7_placeBlock l dC dI ad cI cJ cT w pq x htx z htz r_2 (v4 * v3) (v5 * v3) (v6 * v3) I J hg_3) hfix (cwV 5 hts gX7_becomeProduct_X7_placeBlock rfl rfl rfl (by decide +kernel) ⟨Nat.le_of_ble_eq_true rfl, Nat.le_of_ble_eq_true rfl⟩) hK hP hD hS hA (va_recv hK hP (ci := 6) (q0 := (pq (8 + x))) rfl ((htx).2.1 I J)) rfl hl.1 rfl (Nat.le_of_ble_eq_true rfl) ⟨Nat.zero_le _, Nat.zero_le _⟩ dX7_becomeProduct_75 (fun H locs hP hD hS => ?_)
        refine lv_if_ne (tgt := 83) hx hb dX7_becomeProduct_78 (by decide) (fun c_4 => ?_) (fun c_4 => ?_)
        · have hf := (if_neg c_4).symm.trans hf
          refine lv_iinc (v := (v6 + (1 : Int32))) (lv' := [(6, .int (v6 + (1 : Int32))), (0, .ref (ad (8 + x))), (1, .ref (ad (8 + y))), (2, .ref (ad (8 + z))), (3, .int v3), (4, .int v4), (5, .int v5)]) hx hb dX7_becomeProduct_83 hl (k := 6) rfl (by first | rfl | decide) (by decide) rfl (fun ls hl => ?_)
          refine lv_goto (tgt := 42) hx hb dX7_becomeProduct_86 (by decide) ?_
          exact ih _ _ _ _ _ hf hP hD hS (lv_sub hl [1, 2, 3, 4, 5, 6, 0] rfl)
        · have hf := (if_pos c_4).symm.trans hf
          exact K0 _ _ _ _ (Option.some.inj hf).symm hP hD hS (lv_sub hl [] rfl)
  have L30 : ∀ (Q : State → Prop) (v3 : Int32) (v4 : Int32) (J : SJ) (o : Nat × SI), (∀  (I : SI) (H : Heap) (locs : List Loc) (ls : Array Slot), o = (0, I) → va_P (dC, dI) vwCl (w I J) H → va_D A (w I J) → va_S A s.heap H locs → lv_has ls 7 [] → W p l e ({ frames := 3, cells := 0, slots := 0, locals := 75 } : Room) s m args below meth c H locs 0 0 Q (F0 m 81 ls [])) → (∀  (I : SI) (H : Heap) (locs : List Loc) (ls : Array Slot), o = (1, I) → va_P (dC, dI) vwCl (w I J) H → va_D A (w I J) → va_S A s.heap H locs → lv_has ls 7 [(0, .ref (ad (8 + x))), (1, .ref (ad (8 + y))), (2, .ref (ad (8 + z))), (3, .int v3), (4, .int v4)] → W p l e ({ frames := 3, cells := 0, slots := 0, locals := 75 } : Room) s m args below meth c H locs 0 0 Q (F0 m 95 ls [])) → ∀ (n : Nat) (v5 : Int32) (I : SI) (H : Heap) (locs : List Loc) (ls : Array Slot), lp_X7_becomeProduct_30 x y z v3 v4 n v5 I = some o → va_P (dC, dI) vwCl (w I J) H → va_D A (w I J) → va_S A s.heap H locs → lv_has ls 7 [(0, .ref (ad (8 + x))), (1, .ref (ad (8 + y))), (2, .ref (ad (8 + z))), (3, .int v3), (4, .int v4), (5, .int v5)] → W p l e ({ frames := 3, cells := 0, slots := 0, locals := 75 } : Room) s m args below meth c H locs 0 0 Q (F0 m 30 ls []) := by
    intro Q v3 v4 J o K0 K1 n
    clear hP hD hS hl
    induction n with
    | zero =>
      intro v5 I H locs ls hf
      rw [lp_X7_becomeProduct_30.eq_1] at hf
      cases hf
    | succ n ih =>
      intro v5 I H locs ls hf hP hD hS hl
      rw [lp_X7_becomeProduct_30.eq_2] at hf
      refine lv_iload hx hb dX7_becomeProduct_30 (lv_at hl 5 rfl) ?_
      refine lv_aload_n hx hb dX7_becomeProduct_32 rfl (lv_at hl 1 rfl) ?_
      refine va_get (D := (dC, dI)) (ci := 6) (v := .int (I (8 + y) 0)) (C := RX7) (T := TX7) (N := 2) hx hb hts in_X7 hown hK hP (pq (8 + y)) ((hty).2.1 I J) rfl 1 (by decide) wd_0 (fun _ h9 => h9) rfl dX7_becomeProduct_33 ?_
      refine lv_icmp_ge (tgt := 95) hx hb dX7_becomeProduct_36 (by decide) (fun c_5 => ?_) (fun c_5 => ?_)
      · have hf := (if_pos c_5).symm.trans hf
        exact K1 _ _ _ _ (Option.some.inj hf).symm hP hD hS (lv_sub hl [0, 1, 2, 3, 4] rfl)
      · have hf := (if_neg c_5).symm.trans hf
        refine lv_iconst (v := (0 : Int32)) hx hb dX7_becomeProduct_39 (by decide) ?_
        refine lv_istore (lv' := [(6, .int (0 : Int32)), (0, .ref (ad (8 + x))), (1, .ref (ad (8 + y))), (2, .ref (ad (8 + z))), (3, .int v3), (4, .int v4), (5, .int v5)]) hx hb dX7_becomeProduct_40 hl (by decide) rfl (fun ls hl => ?_)
        obtain ⟨o_6, hg_6, hf⟩ := bd_some hf
        refine L42 _ v3 v4 v5 J o_6 ?_ ?_ FU (0 : Int32) I _ _ _ hg_6 hP hD hS (lv_sub hl [1, 2, 3, 4, 5, 6, 0] rfl)
        · intro I_6 H locs ls ho hP hD hS hl
          subst o_6
          have hf := (if_pos (show 0 = 0 from rfl)).symm.trans hf
          exact K0 _ _ _ _ (Option.some.inj hf).symm hP hD hS (lv_sub hl [] rfl)
        · intro I_6 H locs ls ho hP hD hS hl
          subst o_6
          have hf := (if_neg (show ¬ (1 = 0) by decide)).symm.trans hf
          refine lv_iinc (v := (v5 + (1 : Int32))) (lv' := [(5, .int (v5 + (1 : Int32))), (0, .ref (ad (8 + x))), (1, .ref (ad (8 + y))), (2, .ref (ad (8 + z))), (3, .int v3), (4, .int v4)]) hx hb dX7_becomeProduct_89 hl (k := 5) rfl (by first | rfl | decide) (by decide) rfl (fun ls hl => ?_)
          refine lv_goto (tgt := 30) hx hb dX7_becomeProduct_92 (by decide) ?_
          exact ih _ _ _ _ _ hf hP hD hS (lv_sub hl [1, 2, 3, 4, 5, 0] rfl)
  have L18 : ∀ (Q : State → Prop) (v3 : Int32) (J : SJ) (o : Nat × SI), (∀  (I : SI) (H : Heap) (locs : List Loc) (ls : Array Slot), o = (0, I) → va_P (dC, dI) vwCl (w I J) H → va_D A (w I J) → va_S A s.heap H locs → lv_has ls 7 [] → W p l e ({ frames := 3, cells := 0, slots := 0, locals := 75 } : Room) s m args below meth c H locs 0 0 Q (F0 m 81 ls [])) → (∀  (I : SI) (H : Heap) (locs : List Loc) (ls : Array Slot), o = (1, I) → va_P (dC, dI) vwCl (w I J) H → va_D A (w I J) → va_S A s.heap H locs → lv_has ls 7 [] → W p l e ({ frames := 3, cells := 0, slots := 0, locals := 75 } : Room) s m args below meth c H locs 0 0 Q (F0 m 101 ls [])) → ∀ (n : Nat) (v4 : Int32) (I : SI) (H : Heap) (locs : List Loc) (ls : Array Slot), lp_X7_becomeProduct_18 x y z v3 n v4 I = some o → va_P (dC, dI) vwCl (w I J) H → va_D A (w I J) → va_S A s.heap H locs → lv_has ls 7 [(0, .ref (ad (8 + x))), (1, .ref (ad (8 + y))), (2, .ref (ad (8 + z))), (3, .int v3), (4, .int v4)] → W p l e ({ frames := 3, cells := 0, slots := 0, locals := 75 } : Room) s m args below meth c H locs 0 0 Q (F0 m 18 ls []) := by
    intro Q v3 J o K0 K1 n
    clear hP hD hS hl
    induction n with
    | zero =>
      intro v4 I H locs ls hf
      rw [lp_X7_becomeProduct_18.eq_1] at hf
      cases hf
    | succ n ih =>
      intro v4 I H locs ls hf hP hD hS hl
      rw [lp_X7_becomeProduct_18.eq_2] at hf
      refine lv_iload hx hb dX7_becomeProduct_18 (lv_at hl 4 rfl) ?_
      refine lv_aload_n hx hb dX7_becomeProduct_20 rfl (lv_at hl 1 rfl) ?_
      refine va_get (D := (dC, dI)) (ci := 6) (v := .int (I (8 + y) 0)) (C := RX7) (T := TX7) (N := 2) hx hb hts in_X7 hown hK hP (pq (8 + y)) ((hty).2.1 I J) rfl 1 (by decide) wd_0 (fun _ h9 => h9) rfl dX7_becomeProduct_21 ?_
      refine lv_icmp_ge (tgt := 101) hx hb dX7_becomeProduct_24 (by decide) (fun c_7 => ?_) (fun c_7 => ?_)
      · have hf := (if_pos c_7).symm.trans hf
        exact K1 _ _ _ _ (Option.some.inj hf).symm hP hD hS (lv_sub hl [] rfl)
      · have hf := (if_neg c_7).symm.trans hf
        refine lv_iconst (v := (0 : Int32)) hx hb dX7_becomeProduct_27 (by decide) ?_
        refine lv_istore (lv' := [(5, .int (0 : Int32)), (0, .ref (ad (8 + x))), (1, .ref (ad (8 + y))), (2, .ref (ad (8 + z))), (3, .int v3), (4, .int v4)]) hx hb dX7_becomeProduct_28 hl (by decide) rfl (fun ls hl => ?_)
        obtain ⟨o_8, hg_8, hf⟩ := bd_some hf
        refine L30 _ v3 v4 J o_8 ?_ ?_ FU (0 : Int32) I _ _ _ hg_8 hP hD hS (lv_sub hl [1, 2, 3, 4, 5, 0] rfl)
        · intro I_8 H locs ls ho hP hD hS hl
          subst o_8
          have hf := (if_pos (show 0 = 0 from rfl)).symm.trans hf
          exact K0 _ _ _ _ (Option.some.inj hf).symm hP hD hS (lv_sub hl [] rfl)
        · intro I_8 H locs ls ho hP hD hS hl
          subst o_8
          have hf := (if_neg (show ¬ (1 = 0) by decide)).symm.trans hf
          refine lv_iinc (v := (v4 + (1 : Int32))) (lv' := [(4, .int (v4 + (1 : Int32))), (0, .ref (ad (8 + x))), (1, .ref (ad (8 + y))), (2, .ref (ad (8 + z))), (3, .int v3)]) hx hb dX7_becomeProduct_95 hl (k := 4) rfl (by first | rfl | decide) (by decide) rfl (fun ls hl => ?_)
          refine lv_goto (tgt := 18) hx hb dX7_becomeProduct_98 (by decide) ?_
          exact ih _ _ _ _ _ hf hP hD hS (lv_sub hl [1, 2, 3, 4, 0] rfl)
  unfold f_X7_becomeProduct at hf
  refine lv_aload_n hx hb dX7_becomeProduct_0 rfl (lv_at hl 2 rfl) ?_
  refine va_get (D := (dC, dI)) (ci := 6) (v := .int (I (8 + z) 0)) (C := RX7) (T := TX7) (N := 2) hx hb hts in_X7 hown hK hP (pq (8 + z)) ((htz).2.1 I J) rfl 1 (by decide) wd_0 (fun _ h9 => h9) rfl dX7_becomeProduct_1 ?_
  refine lv_istore_n (lv' := [(3, .int (I (8 + z) 0)), (0, .ref (ad (8 + x))), (1, .ref (ad (8 + y))), (2, .ref (ad (8 + z)))]) hx hb dX7_becomeProduct_4 rfl hl (by decide) rfl (fun ls hl => ?_)
  refine lv_aload_n hx hb dX7_becomeProduct_5 rfl (lv_at hl 1 rfl) ?_
  refine lv_aload_n hx hb dX7_becomeProduct_6 rfl (lv_at hl 2 rfl) ?_
  refine va_get (D := (dC, dI)) (ci := 6) (v := .int (I (8 + y) 0)) (C := RX7) (T := TX7) (N := 2) hx hb hts in_X7 hown hK hP (pq (8 + y)) ((hty).2.1 I J) rfl 1 (by decide) wd_0 (fun _ h9 => h9) rfl dX7_becomeProduct_7 ?_
  refine lv_iload_n hx hb dX7_becomeProduct_10 rfl (lv_at hl 0 rfl) ?_
  refine lv_imul hx hb dX7_becomeProduct_11 ?_
  obtain ⟨I_9, hg_9, hf⟩ := bd_some hf
  refine xVv (rest := []) (c_X7_reset l dC dI ad cI cJ cT w pq x htx ((I (8 + y) 0) * (I (8 + z) 0)) I J hg_9) hfix (cwV 1 hts gX7_becomeProduct_X7_reset rfl rfl rfl (by decide +kernel) ⟨Nat.le_of_ble_eq_true rfl, Nat.le_of_ble_eq_true rfl⟩) hK hP hD hS hA (va_recv hK hP (ci := 6) (q0 := (pq (8 + x))) rfl ((htx).2.1 I J)) rfl hl.1 rfl (Nat.le_of_ble_eq_true rfl) ⟨Nat.zero_le _, Nat.zero_le _⟩ dX7_becomeProduct_12 (fun H locs hP hD hS => ?_)
  refine lv_iconst (v := (0 : Int32)) hx hb dX7_becomeProduct_15 (by decide) ?_
  refine lv_istore (lv' := [(4, .int (0 : Int32)), (3, .int (I (8 + z) 0)), (0, .ref (ad (8 + x))), (1, .ref (ad (8 + y))), (2, .ref (ad (8 + z)))]) hx hb dX7_becomeProduct_16 hl (by decide) rfl (fun ls hl => ?_)
  obtain ⟨o_10, hg_10, hf⟩ := bd_some hf
  refine L18 _ (I (8 + z) 0) J o_10 ?_ ?_ FU (0 : Int32) I_9 _ _ _ hg_10 hP hD hS (lv_sub hl [2, 3, 4, 1, 0] rfl)
  · intro I_10 H locs ls ho hP hD hS hl
    subst o_10
    have hf := (if_pos (show 0 = 0 from rfl)).symm.trans hf
    refine lv_iconst (v := (0 : Int32)) hx hb dX7_becomeProduct_81 (by decide) ?_
    cases hf
    exact xRz hx hb hr hlocks rfl hK hP hD hS (fun _ h => h) dX7_becomeProduct_82
  · intro I_10 H locs ls ho hP hD hS hl
    subst o_10
    have hf := (if_neg (show ¬ (1 = 0) by decide)).symm.trans hf
    refine lv_iconst (v := (1 : Int32)) hx hb dX7_becomeProduct_101 (by decide) ?_
    cases hf
    exact xRz hx hb hr hlocks rfl hK hP hD hS (fun _ h => h) dX7_becomeProduct_102
