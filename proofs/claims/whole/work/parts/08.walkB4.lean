set_option maxHeartbeats 4000000 in
set_option maxRecDepth 100000 in
theorem c_X8_rank (l : Launch) (dC : Nat → ClassId) (dI : Nat → Nat → Nat) (ad : Nat → Nat) (cI cJ cT : ClassId) (p1 : Int32) (p2 : Int32) (I : SI) (J : SJ) {r0 : Int32} {I0 : SI} (hf : f_X8_rank p1 p2 I = some (r0, I0)) : CtI l yX8_rank wsX8_rank ({ frames := 3, cells := 0, slots := 0, locals := 68 } : Room) (dC, dI) (tys3 cI cJ cT) (wB ad cI cJ cT) [.ref (ad 38), .int p1, .int p2] I J r0 I0 J := by
  intro sz
  refine Met.ofW (cc := cX8_rank) (maxL := 3) (ret := (some .int)) (by decide) rfl ?_
  intro p e s m args below meth c s₁ B hml hv
  obtain ⟨hargs, hsz, hP, hK, hD0⟩ := hv
  have hx := B.exec
  have hb := B.bytes
  have hr := B.returns
  have hts := atoms_spec (ws := wsX8_rank) B.pre
  have hown : s.vm.findClass RX8 = some m.cls := findClass_of_methodNamed B.named
  have hlocks := B.notSynchronized
  subst hsz
  have hD := hD0.self (sz := s.heap.size)
  generalize hAe : va_A ((wB ad cI cJ cT) I J) s.heap.size = A at hD ⊢
  have hA : ∀ q : Nat, s.heap.size ≤ q → A q := fun q h => by rw [← hAe]; exact Or.inr h
  have hS : va_S A s.heap s.heap [] := va_S.rf
  have hl := lv_entry ([.ref (ad 38), .int p1, .int p2]) (n := 3) (Nat.le_of_ble_eq_true rfl)
  rw [hargs, lg_entry_eq, ← hargs]
  generalize (lg_sl ([.ref (ad 38), .int p1, .int p2]) ++ List.replicate (3 - (lg_sl ([.ref (ad 38), .int p1, .int p2])).length) Slot.unset).toArray = ls at hl ⊢
  have hl : lv_has ls 3 [(0, .ref (ad 38)), (1, .int p1), (2, .int p2)] := hl
  have hfix : CallFix p m c cX8_rank 3 s args wsX8_rank RX8 := ⟨hx, hb, hml, hown, hts⟩
  have in_X8 : ∀ w ∈ u_ws RX8 TX8 10, w ∈ wsX8_rank := by decide +kernel
  have wd_0 := hts (.fieldLink RX8 11 "FuseBench" "tables" "[LFuseBench$Table;") (by decide +kernel)
  unfold f_X8_rank at hf
  refine lv_iload_n hx hb dX8_rank_0 rfl (lv_at hl 1 rfl) ?_
  obtain ⟨r_1, hg_1, hf⟩ := bd_some hf
  refine xSi (rest := []) (c_X8_isTable l dC dI ad cI cJ cT p1 I J hg_1) hfix (va_cwS 1 hts gX8_rank_X8_isTable rfl rfl rfl (by decide +kernel) ⟨Nat.le_of_ble_eq_true rfl, Nat.le_of_ble_eq_true rfl⟩) hK hP hD hS hA rfl hl.1 rfl (Nat.le_of_ble_eq_true rfl) ⟨Nat.zero_le _, Nat.zero_le _⟩ dX8_rank_1 (fun H locs hP hD hS => ?_)
  refine lv_if_eq (tgt := 17) hx hb dX8_rank_4 (by decide) (fun c_2 => ?_) (fun c_2 => ?_)
  · have hf := (if_pos c_2).symm.trans hf
    refine lv_bipush (v := (-2 : Int32)) hx hb dX8_rank_17 (by decide) ?_
    cases hf
    exact xRi hx hb hr hlocks hK hP hD hS (fun _ h => h) dX8_rank_19
  · have hf := (if_neg c_2).symm.trans hf
    refine lv_iload_n hx hb dX8_rank_7 rfl (lv_at hl 2 rfl) ?_
    refine lv_iconst (v := (1 : Int32)) hx hb dX8_rank_8 (by decide) ?_
    refine lv_icmp_lt (tgt := 17) hx hb dX8_rank_9 (by decide) (fun c_3 => ?_) (fun c_3 => ?_)
    · have hf := (if_pos c_3).symm.trans hf
      refine lv_bipush (v := (-2 : Int32)) hx hb dX8_rank_17 (by decide) ?_
      cases hf
      exact xRi hx hb hr hlocks hK hP hD hS (fun _ h => h) dX8_rank_19
    · have hf := (if_neg c_3).symm.trans hf
      refine lv_iload_n hx hb dX8_rank_12 rfl (lv_at hl 2 rfl) ?_
      refine lv_iconst (v := (5 : Int32)) hx hb dX8_rank_13 (by decide) ?_
      refine lv_icmp_le (tgt := 20) hx hb dX8_rank_14 (by decide) (fun c_4 => ?_) (fun c_4 => ?_)
      · have hf := (if_pos c_4).symm.trans hf
        refine lv_aload_n hx hb dX8_rank_20 rfl (lv_at hl 0 rfl) ?_
        refine va_get (D := (dC, dI)) (ci := 7) (v := .ref (ad 37)) (C := RX8) (T := TX8) (N := 10) hx hb hts in_X8 hown hK hP 38 (obB_38 ad cI cJ cT I J) rfl 0 (by decide) wd_0 (fun _ h9 => h9) rfl dX8_rank_21 ?_
        refine lv_iload_n hx hb dX8_rank_24 rfl (lv_at hl 1 rfl) ?_
        obtain ⟨h_5, hf⟩ := gd_some hf
        refine va_aldq hx hb hK hP 37 2 (aiB_37 ad cI cJ cT I J) rfl h_5 dX8_rank_25 ?_
        refine W.eq (g2 := F0 m 26 ls [.ref (ad (8 + p1.toNatClampNeg))]) rfl ?_
        refine lv_iload_n hx hb dX8_rank_26 rfl (lv_at hl 2 rfl) ?_
        obtain ⟨I_6, hg_6, hf⟩ := bd_some hf
        refine xVv (rest := []) (c_X7_reset l dC dI ad cI cJ cT (wB ad cI cJ cT) (fun k => k) p1.toNatClampNeg (wBT ad cI cJ cT (x_lt8 h_5)) p2 I J hg_6) hfix (cwV 1 hts gX8_rank_X7_reset rfl rfl rfl (by decide +kernel) ⟨Nat.le_of_ble_eq_true rfl, Nat.le_of_ble_eq_true rfl⟩) hK hP hD hS hA (va_recv hK hP (ci := 6) (q0 := (8 + p1.toNatClampNeg)) rfl (((wBT ad cI cJ cT (x_lt8 h_5))).2.1 I J)) rfl hl.1 rfl (Nat.le_of_ble_eq_true rfl) ⟨Nat.zero_le _, Nat.zero_le _⟩ dX8_rank_27 (fun H locs hP hD hS => ?_)
        refine lv_iconst (v := (1 : Int32)) hx hb dX8_rank_30 (by decide) ?_
        cases hf
        exact xRi hx hb hr hlocks hK hP hD hS (fun _ h => h) dX8_rank_31
      · have hf := (if_neg c_4).symm.trans hf
        refine lv_bipush (v := (-2 : Int32)) hx hb dX8_rank_17 (by decide) ?_
        cases hf
        exact xRi hx hb hr hlocks hK hP hD hS (fun _ h => h) dX8_rank_19
set_option maxHeartbeats 4000000 in
set_option maxRecDepth 100000 in
theorem c_X8_isKind (l : Launch) (dC : Nat → ClassId) (dI : Nat → Nat → Nat) (ad : Nat → Nat) (cI cJ cT : ClassId) (p1 : Int32) (p2 : Int32) (I : SI) (J : SJ) {r0 : Int32} (hf : f_X8_isKind p1 p2 I = some r0) : CtI l yX8_isKind wsX8_isKind ({ frames := 1, cells := 0, slots := 0, locals := 21 } : Room) (dC, dI) (tys3 cI cJ cT) (wB ad cI cJ cT) [.ref (ad 38), .int p1, .int p2] I J r0 I J := by
  intro sz
  refine Met.ofW (cc := cX8_isKind) (maxL := 3) (ret := (some .boolean)) (by decide) rfl ?_
  intro p e s m args below meth c s₁ B hml hv
  obtain ⟨hargs, hsz, hP, hK, hD0⟩ := hv
  have hx := B.exec
  have hb := B.bytes
  have hr := B.returns
  have hts := atoms_spec (ws := wsX8_isKind) B.pre
  have hown : s.vm.findClass RX8 = some m.cls := findClass_of_methodNamed B.named
  have hlocks := B.notSynchronized
  subst hsz
  have hD := hD0.self (sz := s.heap.size)
  generalize hAe : va_A ((wB ad cI cJ cT) I J) s.heap.size = A at hD ⊢
  have hA : ∀ q : Nat, s.heap.size ≤ q → A q := fun q h => by rw [← hAe]; exact Or.inr h
  have hS : va_S A s.heap s.heap [] := va_S.rf
  have hl := lv_entry ([.ref (ad 38), .int p1, .int p2]) (n := 3) (Nat.le_of_ble_eq_true rfl)
  rw [hargs, lg_entry_eq, ← hargs]
  generalize (lg_sl ([.ref (ad 38), .int p1, .int p2]) ++ List.replicate (3 - (lg_sl ([.ref (ad 38), .int p1, .int p2])).length) Slot.unset).toArray = ls at hl ⊢
  have hl : lv_has ls 3 [(0, .ref (ad 38)), (1, .int p1), (2, .int p2)] := hl
  have hfix : CallFix p m c cX8_isKind 3 s args wsX8_isKind RX8 := ⟨hx, hb, hml, hown, hts⟩
  have in_X8 : ∀ w ∈ u_ws RX8 TX8 10, w ∈ wsX8_isKind := by decide +kernel
  have wd_0 := hts (.fieldLink RX8 11 "FuseBench" "tables" "[LFuseBench$Table;") (by decide +kernel)
  unfold f_X8_isKind at hf
  refine lv_iload_n hx hb dX8_isKind_0 rfl (lv_at hl 1 rfl) ?_
  obtain ⟨r_1, hg_1, hf⟩ := bd_some hf
  refine xSi (rest := []) (c_X8_isTable l dC dI ad cI cJ cT p1 I J hg_1) hfix (va_cwS 1 hts gX8_isKind_X8_isTable rfl rfl rfl (by decide +kernel) ⟨Nat.le_of_ble_eq_true rfl, Nat.le_of_ble_eq_true rfl⟩) hK hP hD hS hA rfl hl.1 rfl (Nat.le_of_ble_eq_true rfl) ⟨Nat.zero_le _, Nat.zero_le _⟩ dX8_isKind_1 (fun H locs hP hD hS => ?_)
  refine lv_if_eq (tgt := 24) hx hb dX8_isKind_4 (by decide) (fun c_2 => ?_) (fun c_2 => ?_)
  · have hf := (if_pos c_2).symm.trans hf
    refine lv_iconst (v := (0 : Int32)) hx hb dX8_isKind_24 (by decide) ?_
    cases hf
    exact xRz hx hb hr hlocks rfl hK hP hD hS (fun _ h => h) dX8_isKind_25
  · have hf := (if_neg c_2).symm.trans hf
    refine lv_aload_n hx hb dX8_isKind_7 rfl (lv_at hl 0 rfl) ?_
    refine va_get (D := (dC, dI)) (ci := 7) (v := .ref (ad 37)) (C := RX8) (T := TX8) (N := 10) hx hb hts in_X8 hown hK hP 38 (obB_38 ad cI cJ cT I J) rfl 0 (by decide) wd_0 (fun _ h9 => h9) rfl dX8_isKind_8 ?_
    refine lv_iload_n hx hb dX8_isKind_11 rfl (lv_at hl 1 rfl) ?_
    obtain ⟨h_3, hf⟩ := gd_some hf
    refine va_aldq hx hb hK hP 37 2 (aiB_37 ad cI cJ cT I J) rfl h_3 dX8_isKind_12 ?_
    refine W.eq (g2 := F0 m 13 ls [.ref (ad (8 + p1.toNatClampNeg))]) rfl ?_
    refine lv_iload_n hx hb dX8_isKind_13 rfl (lv_at hl 2 rfl) ?_
    obtain ⟨r_4, hg_4, hf⟩ := bd_some hf
    refine xVi (rest := []) (c_X7_has l dC dI ad cI cJ cT (wB ad cI cJ cT) (fun k => k) p1.toNatClampNeg (wBT ad cI cJ cT (x_lt8 h_3)) p2 I J hg_4) hfix (cwV 1 hts gX8_isKind_X7_has rfl rfl rfl (by decide +kernel) ⟨Nat.le_of_ble_eq_true rfl, Nat.le_of_ble_eq_true rfl⟩) hK hP hD hS hA (va_recv hK hP (ci := 6) (q0 := (8 + p1.toNatClampNeg)) rfl (((wBT ad cI cJ cT (x_lt8 h_3))).2.1 I J)) rfl hl.1 rfl (Nat.le_of_ble_eq_true rfl) ⟨Nat.zero_le _, Nat.zero_le _⟩ dX8_isKind_14 (fun H locs hP hD hS => ?_)
    refine lv_if_eq (tgt := 24) hx hb dX8_isKind_17 (by decide) (fun c_5 => ?_) (fun c_5 => ?_)
    · have hf := (if_pos c_5).symm.trans hf
      refine lv_iconst (v := (0 : Int32)) hx hb dX8_isKind_24 (by decide) ?_
      cases hf
      exact xRz hx hb hr hlocks rfl hK hP hD hS (fun _ h => h) dX8_isKind_25
    · have hf := (if_neg c_5).symm.trans hf
      refine lv_iconst (v := (1 : Int32)) hx hb dX8_isKind_20 (by decide) ?_
      refine lv_goto (tgt := 25) hx hb dX8_isKind_21 (by decide) ?_
      cases hf
      exact xRz hx hb hr hlocks rfl hK hP hD hS (fun _ h => h) dX8_isKind_25
set_option maxHeartbeats 4000000 in
set_option maxRecDepth 100000 in
theorem c_X8_isPlace (l : Launch) (dC : Nat → ClassId) (dI : Nat → Nat → Nat) (ad : Nat → Nat) (cI cJ cT : ClassId) (p1 : Int32) (p2 : Int32) (p3 : Int32) (p4 : Int32) (I : SI) (J : SJ) {r0 : Int32} (hf : f_X8_isPlace p1 p2 p3 p4 I = some r0) : CtI l yX8_isPlace wsX8_isPlace ({ frames := 2, cells := 0, slots := 0, locals := 43 } : Room) (dC, dI) (tys3 cI cJ cT) (wB ad cI cJ cT) [.ref (ad 38), .int p1, .int p2, .int p3, .int p4] I J r0 I J := by
  intro sz
  refine Met.ofW (cc := cX8_isPlace) (maxL := 5) (ret := (some .boolean)) (by decide) rfl ?_
  intro p e s m args below meth c s₁ B hml hv
  obtain ⟨hargs, hsz, hP, hK, hD0⟩ := hv
  have hx := B.exec
  have hb := B.bytes
  have hr := B.returns
  have hts := atoms_spec (ws := wsX8_isPlace) B.pre
  have hown : s.vm.findClass RX8 = some m.cls := findClass_of_methodNamed B.named
  have hlocks := B.notSynchronized
  subst hsz
  have hD := hD0.self (sz := s.heap.size)
  generalize hAe : va_A ((wB ad cI cJ cT) I J) s.heap.size = A at hD ⊢
  have hA : ∀ q : Nat, s.heap.size ≤ q → A q := fun q h => by rw [← hAe]; exact Or.inr h
  have hS : va_S A s.heap s.heap [] := va_S.rf
  have hl := lv_entry ([.ref (ad 38), .int p1, .int p2, .int p3, .int p4]) (n := 5) (Nat.le_of_ble_eq_true rfl)
  rw [hargs, lg_entry_eq, ← hargs]
  generalize (lg_sl ([.ref (ad 38), .int p1, .int p2, .int p3, .int p4]) ++ List.replicate (5 - (lg_sl ([.ref (ad 38), .int p1, .int p2, .int p3, .int p4])).length) Slot.unset).toArray = ls at hl ⊢
  have hl : lv_has ls 5 [(0, .ref (ad 38)), (1, .int p1), (2, .int p2), (3, .int p3), (4, .int p4)] := hl
  have hfix : CallFix p m c cX8_isPlace 5 s args wsX8_isPlace RX8 := ⟨hx, hb, hml, hown, hts⟩
  have in_X8 : ∀ w ∈ u_ws RX8 TX8 10, w ∈ wsX8_isPlace := by decide +kernel
  have wd_0 := hts (.fieldLink RX8 11 "FuseBench" "tables" "[LFuseBench$Table;") (by decide +kernel)
  unfold f_X8_isPlace at hf
  refine lv_aload_n hx hb dX8_isPlace_0 rfl (lv_at hl 0 rfl) ?_
  refine lv_iload_n hx hb dX8_isPlace_1 rfl (lv_at hl 1 rfl) ?_
  refine lv_iload_n hx hb dX8_isPlace_2 rfl (lv_at hl 2 rfl) ?_
  obtain ⟨r_1, hg_1, hf⟩ := bd_some hf
  refine xVi (rest := []) (c_X8_isKind l dC dI ad cI cJ cT p1 p2 I J hg_1) hfix (cwV 2 hts gX8_isPlace_X8_isKind rfl rfl rfl (by decide +kernel) ⟨Nat.le_of_ble_eq_true rfl, Nat.le_of_ble_eq_true rfl⟩) hK hP hD hS hA (va_recv hK hP (ci := 7) (q0 := 38) rfl (obB_38 ad cI cJ cT I J)) rfl hl.1 rfl (Nat.le_of_ble_eq_true rfl) ⟨Nat.zero_le _, Nat.zero_le _⟩ dX8_isPlace_3 (fun H locs hP hD hS => ?_)
  refine lv_if_eq (tgt := 40) hx hb dX8_isPlace_6 (by decide) (fun c_2 => ?_) (fun c_2 => ?_)
  · have hf := (if_pos c_2).symm.trans hf
    refine lv_iconst (v := (0 : Int32)) hx hb dX8_isPlace_40 (by decide) ?_
    cases hf
    exact xRz hx hb hr hlocks rfl hK hP hD hS (fun _ h => h) dX8_isPlace_41
  · have hf := (if_neg c_2).symm.trans hf
    refine lv_aload_n hx hb dX8_isPlace_9 rfl (lv_at hl 0 rfl) ?_
    refine va_get (D := (dC, dI)) (ci := 7) (v := .ref (ad 37)) (C := RX8) (T := TX8) (N := 10) hx hb hts in_X8 hown hK hP 38 (obB_38 ad cI cJ cT I J) rfl 0 (by decide) wd_0 (fun _ h9 => h9) rfl dX8_isPlace_10 ?_
    refine lv_iload_n hx hb dX8_isPlace_13 rfl (lv_at hl 1 rfl) ?_
    obtain ⟨h_3, hf⟩ := gd_some hf
    refine va_aldq hx hb hK hP 37 2 (aiB_37 ad cI cJ cT I J) rfl h_3 dX8_isPlace_14 ?_
    refine W.eq (g2 := F0 m 15 ls [.ref (ad (8 + p1.toNatClampNeg))]) rfl ?_
    refine lv_iload_n hx hb dX8_isPlace_15 rfl (lv_at hl 3 rfl) ?_
    obtain ⟨r_4, hg_4, hf⟩ := bd_some hf
    refine xVi (rest := []) (c_X7_has l dC dI ad cI cJ cT (wB ad cI cJ cT) (fun k => k) p1.toNatClampNeg (wBT ad cI cJ cT (x_lt8 h_3)) p3 I J hg_4) hfix (cwV 1 hts gX8_isPlace_X7_has rfl rfl rfl (by decide +kernel) ⟨Nat.le_of_ble_eq_true rfl, Nat.le_of_ble_eq_true rfl⟩) hK hP hD hS hA (va_recv hK hP (ci := 6) (q0 := (8 + p1.toNatClampNeg)) rfl (((wBT ad cI cJ cT (x_lt8 h_3))).2.1 I J)) rfl hl.1 rfl (Nat.le_of_ble_eq_true rfl) ⟨Nat.zero_le _, Nat.zero_le _⟩ dX8_isPlace_16 (fun H locs hP hD hS => ?_)
    refine lv_if_eq (tgt := 40) hx hb dX8_isPlace_19 (by decide) (fun c_5 => ?_) (fun c_5 => ?_)
    · have hf := (if_pos c_5).symm.trans hf
      refine lv_iconst (v := (0 : Int32)) hx hb dX8_isPlace_40 (by decide) ?_
      cases hf
      exact xRz hx hb hr hlocks rfl hK hP hD hS (fun _ h => h) dX8_isPlace_41
    · have hf := (if_neg c_5).symm.trans hf
      refine lv_aload_n hx hb dX8_isPlace_22 rfl (lv_at hl 0 rfl) ?_
      refine va_get (D := (dC, dI)) (ci := 7) (v := .ref (ad 37)) (C := RX8) (T := TX8) (N := 10) hx hb hts in_X8 hown hK hP 38 (obB_38 ad cI cJ cT I J) rfl 0 (by decide) wd_0 (fun _ h9 => h9) rfl dX8_isPlace_23 ?_
      refine lv_iload_n hx hb dX8_isPlace_26 rfl (lv_at hl 1 rfl) ?_
      obtain ⟨h_6, hf⟩ := gd_some hf
      refine va_aldq hx hb hK hP 37 2 (aiB_37 ad cI cJ cT I J) rfl h_6 dX8_isPlace_27 ?_
      refine W.eq (g2 := F0 m 28 ls [.ref (ad (8 + p1.toNatClampNeg))]) rfl ?_
      refine lv_iload hx hb dX8_isPlace_28 (lv_at hl 4 rfl) ?_
      obtain ⟨r_7, hg_7, hf⟩ := bd_some hf
      refine xVi (rest := []) (c_X7_has l dC dI ad cI cJ cT (wB ad cI cJ cT) (fun k => k) p1.toNatClampNeg (wBT ad cI cJ cT (x_lt8 h_6)) p4 I J hg_7) hfix (cwV 1 hts gX8_isPlace_X7_has rfl rfl rfl (by decide +kernel) ⟨Nat.le_of_ble_eq_true rfl, Nat.le_of_ble_eq_true rfl⟩) hK hP hD hS hA (va_recv hK hP (ci := 6) (q0 := (8 + p1.toNatClampNeg)) rfl (((wBT ad cI cJ cT (x_lt8 h_6))).2.1 I J)) rfl hl.1 rfl (Nat.le_of_ble_eq_true rfl) ⟨Nat.zero_le _, Nat.zero_le _⟩ dX8_isPlace_30 (fun H locs hP hD hS => ?_)
      refine lv_if_eq (tgt := 40) hx hb dX8_isPlace_33 (by decide) (fun c_8 => ?_) (fun c_8 => ?_)
      · have hf := (if_pos c_8).symm.trans hf
        refine lv_iconst (v := (0 : Int32)) hx hb dX8_isPlace_40 (by decide) ?_
        cases hf
        exact xRz hx hb hr hlocks rfl hK hP hD hS (fun _ h => h) dX8_isPlace_41
      · have hf := (if_neg c_8).symm.trans hf
        refine lv_iconst (v := (1 : Int32)) hx hb dX8_isPlace_36 (by decide) ?_
        refine lv_goto (tgt := 41) hx hb dX8_isPlace_37 (by decide) ?_
        cases hf
        exact xRz hx hb hr hlocks rfl hK hP hD hS (fun _ h => h) dX8_isPlace_41
set_option maxHeartbeats 4000000 in
set_option maxRecDepth 100000 in
theorem c_X8_put (l : Launch) (dC : Nat → ClassId) (dI : Nat → Nat → Nat) (ad : Nat → Nat) (cI cJ cT : ClassId) (p1 : Int32) (p2 : Int32) (p3 : Int32) (p4 : Int32) (p5 : Int32) (I : SI) (J : SJ) {r0 : Int32} {I0 : SI} (hf : f_X8_put p1 p2 p3 p4 p5 I = some (r0, I0)) : CtI l yX8_put wsX8_put ({ frames := 3, cells := 0, slots := 0, locals := 67 } : Room) (dC, dI) (tys3 cI cJ cT) (wB ad cI cJ cT) [.ref (ad 38), .int p1, .int p2, .int p3, .int p4, .int p5] I J r0 I0 J := by
  intro sz
  refine Met.ofW (cc := cX8_put) (maxL := 7) (ret := (some .int)) (by decide) rfl ?_
  intro p e s m args below meth c s₁ B hml hv
  obtain ⟨hargs, hsz, hP, hK, hD0⟩ := hv
  have hx := B.exec
  have hb := B.bytes
  have hr := B.returns
  have hts := atoms_spec (ws := wsX8_put) B.pre
  have hown : s.vm.findClass RX8 = some m.cls := findClass_of_methodNamed B.named
  have hlocks := B.notSynchronized
  subst hsz
  have hD := hD0.self (sz := s.heap.size)
  generalize hAe : va_A ((wB ad cI cJ cT) I J) s.heap.size = A at hD ⊢
  have hA : ∀ q : Nat, s.heap.size ≤ q → A q := fun q h => by rw [← hAe]; exact Or.inr h
  have hS : va_S A s.heap s.heap [] := va_S.rf
  have hl := lv_entry ([.ref (ad 38), .int p1, .int p2, .int p3, .int p4, .int p5]) (n := 7) (Nat.le_of_ble_eq_true rfl)
  rw [hargs, lg_entry_eq, ← hargs]
  generalize (lg_sl ([.ref (ad 38), .int p1, .int p2, .int p3, .int p4, .int p5]) ++ List.replicate (7 - (lg_sl ([.ref (ad 38), .int p1, .int p2, .int p3, .int p4, .int p5])).length) Slot.unset).toArray = ls at hl ⊢
  have hl : lv_has ls 7 [(0, .ref (ad 38)), (1, .int p1), (2, .int p2), (3, .int p3), (4, .int p4), (5, .int p5)] := hl
  have hfix : CallFix p m c cX8_put 7 s args wsX8_put RX8 := ⟨hx, hb, hml, hown, hts⟩
  have in_X8 : ∀ w ∈ u_ws RX8 TX8 10, w ∈ wsX8_put := by decide +kernel
  have wd_0 := hts (.fieldLink RX8 11 "FuseBench" "tables" "[LFuseBench$Table;") (by decide +kernel)
  unfold f_X8_put at hf
  refine lv_aload_n hx hb dX8_put_0 rfl (lv_at hl 0 rfl) ?_
  refine lv_iload_n hx hb dX8_put_1 rfl (lv_at hl 1 rfl) ?_
  refine lv_iload_n hx hb dX8_put_2 rfl (lv_at hl 2 rfl) ?_
  refine lv_iload_n hx hb dX8_put_3 rfl (lv_at hl 3 rfl) ?_
  refine lv_iload hx hb dX8_put_4 (lv_at hl 4 rfl) ?_
  obtain ⟨r_1, hg_1, hf⟩ := bd_some hf
  refine xVi (rest := []) (c_X8_isPlace l dC dI ad cI cJ cT p1 p2 p3 p4 I J hg_1) hfix (cwV 4 hts gX8_put_X8_isPlace rfl rfl rfl (by decide +kernel) ⟨Nat.le_of_ble_eq_true rfl, Nat.le_of_ble_eq_true rfl⟩) hK hP hD hS hA (va_recv hK hP (ci := 7) (q0 := 38) rfl (obB_38 ad cI cJ cT I J)) rfl hl.1 rfl (Nat.le_of_ble_eq_true rfl) ⟨Nat.zero_le _, Nat.zero_le _⟩ dX8_put_6 (fun H locs hP hD hS => ?_)
  refine lv_if_eq (tgt := 24) hx hb dX8_put_9 (by decide) (fun c_2 => ?_) (fun c_2 => ?_)
  · have hf := (if_pos c_2).symm.trans hf
    refine lv_bipush (v := (-2 : Int32)) hx hb dX8_put_24 (by decide) ?_
    cases hf
    exact xRi hx hb hr hlocks hK hP hD hS (fun _ h => h) dX8_put_26
  · have hf := (if_neg c_2).symm.trans hf
    refine lv_iload hx hb dX8_put_12 (lv_at hl 5 rfl) ?_
    refine lv_if_lt (tgt := 24) hx hb dX8_put_14 (by decide) (fun c_3 => ?_) (fun c_3 => ?_)
    · have hf := (if_pos c_3).symm.trans hf
      refine lv_bipush (v := (-2 : Int32)) hx hb dX8_put_24 (by decide) ?_
      cases hf
      exact xRi hx hb hr hlocks hK hP hD hS (fun _ h => h) dX8_put_26
    · have hf := (if_neg c_3).symm.trans hf
      refine lv_iload hx hb dX8_put_17 (lv_at hl 5 rfl) ?_
      refine lv_bipush (v := (9 : Int32)) hx hb dX8_put_19 (by decide) ?_
      refine lv_icmp_le (tgt := 27) hx hb dX8_put_21 (by decide) (fun c_4 => ?_) (fun c_4 => ?_)
      · have hf := (if_pos c_4).symm.trans hf
        refine lv_aload_n hx hb dX8_put_27 rfl (lv_at hl 0 rfl) ?_
        refine va_get (D := (dC, dI)) (ci := 7) (v := .ref (ad 37)) (C := RX8) (T := TX8) (N := 10) hx hb hts in_X8 hown hK hP 38 (obB_38 ad cI cJ cT I J) rfl 0 (by decide) wd_0 (fun _ h9 => h9) rfl dX8_put_28 ?_
        refine lv_iload_n hx hb dX8_put_31 rfl (lv_at hl 1 rfl) ?_
        obtain ⟨h_5, hf⟩ := gd_some hf
        refine va_aldq hx hb hK hP 37 2 (aiB_37 ad cI cJ cT I J) rfl h_5 dX8_put_32 ?_
        refine W.eq (g2 := F0 m 33 ls [.ref (ad (8 + p1.toNatClampNeg))]) rfl ?_
        refine lv_iload_n hx hb dX8_put_33 rfl (lv_at hl 2 rfl) ?_
        refine lv_iload_n hx hb dX8_put_34 rfl (lv_at hl 3 rfl) ?_
        refine lv_iload hx hb dX8_put_35 (lv_at hl 4 rfl) ?_
        obtain ⟨r_6, hg_6, hf⟩ := bd_some hf
        refine xVi (rest := []) (c_X7_number l dC dI ad cI cJ cT (wB ad cI cJ cT) (fun k => k) p1.toNatClampNeg (wBT ad cI cJ cT (x_lt8 h_5)) p2 p3 p4 I J hg_6) hfix (cwV 3 hts gX8_put_X7_number rfl rfl rfl (by decide +kernel) ⟨Nat.le_of_ble_eq_true rfl, Nat.le_of_ble_eq_true rfl⟩) hK hP hD hS hA (va_recv hK hP (ci := 6) (q0 := (8 + p1.toNatClampNeg)) rfl (((wBT ad cI cJ cT (x_lt8 h_5))).2.1 I J)) rfl hl.1 rfl (Nat.le_of_ble_eq_true rfl) ⟨Nat.zero_le _, Nat.zero_le _⟩ dX8_put_37 (fun H locs hP hD hS => ?_)
        refine lv_istore (lv' := [(6, .int r_6), (0, .ref (ad 38)), (1, .int p1), (2, .int p2), (3, .int p3), (4, .int p4), (5, .int p5)]) hx hb dX8_put_40 hl (by decide) rfl (fun ls hl => ?_)
        refine lv_aload_n hx hb dX8_put_42 rfl (lv_at hl 1 rfl) ?_
        refine va_get (D := (dC, dI)) (ci := 7) (v := .ref (ad 37)) (C := RX8) (T := TX8) (N := 10) hx hb hts in_X8 hown hK hP 38 (obB_38 ad cI cJ cT I J) rfl 0 (by decide) wd_0 (fun _ h9 => h9) rfl dX8_put_43 ?_
        refine lv_iload_n hx hb dX8_put_46 rfl (lv_at hl 2 rfl) ?_
        obtain ⟨h_7, hf⟩ := gd_some hf
        refine va_aldq hx hb hK hP 37 2 (aiB_37 ad cI cJ cT I J) rfl h_7 dX8_put_47 ?_
        refine W.eq (g2 := F0 m 48 ls [.ref (ad (8 + p1.toNatClampNeg))]) rfl ?_
        refine lv_iload_n hx hb dX8_put_48 rfl (lv_at hl 3 rfl) ?_
        refine lv_iload_n hx hb dX8_put_49 rfl (lv_at hl 4 rfl) ?_
        refine lv_iload hx hb dX8_put_50 (lv_at hl 5 rfl) ?_
        refine lv_iload hx hb dX8_put_52 (lv_at hl 6 rfl) ?_
        obtain ⟨I_8, hg_8, hf⟩ := bd_some hf
        refine xVv (rest := []) (c_X7_setNumber l dC dI ad cI cJ cT (wB ad cI cJ cT) (fun k => k) p1.toNatClampNeg (wBT ad cI cJ cT (x_lt8 h_7)) p2 p3 p4 p5 I J hg_8) hfix (cwV 4 hts gX8_put_X7_setNumber rfl rfl rfl (by decide +kernel) ⟨Nat.le_of_ble_eq_true rfl, Nat.le_of_ble_eq_true rfl⟩) hK hP hD hS hA (va_recv hK hP (ci := 6) (q0 := (8 + p1.toNatClampNeg)) rfl (((wBT ad cI cJ cT (x_lt8 h_7))).2.1 I J)) rfl hl.1 rfl (Nat.le_of_ble_eq_true rfl) ⟨Nat.zero_le _, Nat.zero_le _⟩ dX8_put_54 (fun H locs hP hD hS => ?_)
        refine lv_iload hx hb dX8_put_57 (lv_at hl 0 rfl) ?_
        cases hf
        exact xRi hx hb hr hlocks hK hP hD hS (fun _ h => h) dX8_put_59
      · have hf := (if_neg c_4).symm.trans hf
        refine lv_bipush (v := (-2 : Int32)) hx hb dX8_put_24 (by decide) ?_
        cases hf
        exact xRi hx hb hr hlocks hK hP hD hS (fun _ h => h) dX8_put_26
set_option maxHeartbeats 4000000 in
set_option maxRecDepth 100000 in
theorem c_X8_at (l : Launch) (dC : Nat → ClassId) (dI : Nat → Nat → Nat) (ad : Nat → Nat) (cI cJ cT : ClassId) (p1 : Int32) (p2 : Int32) (p3 : Int32) (p4 : Int32) (I : SI) (J : SJ) {r0 : Int32} (hf : f_X8_at p1 p2 p3 p4 I = some r0) : CtI l yX8_at wsX8_at ({ frames := 3, cells := 0, slots := 0, locals := 67 } : Room) (dC, dI) (tys3 cI cJ cT) (wB ad cI cJ cT) [.ref (ad 38), .int p1, .int p2, .int p3, .int p4] I J r0 I J := by
  intro sz
  refine Met.ofW (cc := cX8_at) (maxL := 5) (ret := (some .int)) (by decide) rfl ?_
  intro p e s m args below meth c s₁ B hml hv
  obtain ⟨hargs, hsz, hP, hK, hD0⟩ := hv
  have hx := B.exec
  have hb := B.bytes
  have hr := B.returns
  have hts := atoms_spec (ws := wsX8_at) B.pre
  have hown : s.vm.findClass RX8 = some m.cls := findClass_of_methodNamed B.named
  have hlocks := B.notSynchronized
  subst hsz
  have hD := hD0.self (sz := s.heap.size)
  generalize hAe : va_A ((wB ad cI cJ cT) I J) s.heap.size = A at hD ⊢
  have hA : ∀ q : Nat, s.heap.size ≤ q → A q := fun q h => by rw [← hAe]; exact Or.inr h
  have hS : va_S A s.heap s.heap [] := va_S.rf
  have hl := lv_entry ([.ref (ad 38), .int p1, .int p2, .int p3, .int p4]) (n := 5) (Nat.le_of_ble_eq_true rfl)
  rw [hargs, lg_entry_eq, ← hargs]
  generalize (lg_sl ([.ref (ad 38), .int p1, .int p2, .int p3, .int p4]) ++ List.replicate (5 - (lg_sl ([.ref (ad 38), .int p1, .int p2, .int p3, .int p4])).length) Slot.unset).toArray = ls at hl ⊢
  have hl : lv_has ls 5 [(0, .ref (ad 38)), (1, .int p1), (2, .int p2), (3, .int p3), (4, .int p4)] := hl
  have hfix : CallFix p m c cX8_at 5 s args wsX8_at RX8 := ⟨hx, hb, hml, hown, hts⟩
  have in_X8 : ∀ w ∈ u_ws RX8 TX8 10, w ∈ wsX8_at := by decide +kernel
  have wd_0 := hts (.fieldLink RX8 11 "FuseBench" "tables" "[LFuseBench$Table;") (by decide +kernel)
  unfold f_X8_at at hf
  refine lv_aload_n hx hb dX8_at_0 rfl (lv_at hl 0 rfl) ?_
  refine lv_iload_n hx hb dX8_at_1 rfl (lv_at hl 1 rfl) ?_
  refine lv_iload_n hx hb dX8_at_2 rfl (lv_at hl 2 rfl) ?_
  refine lv_iload_n hx hb dX8_at_3 rfl (lv_at hl 3 rfl) ?_
  refine lv_iload hx hb dX8_at_4 (lv_at hl 4 rfl) ?_
  obtain ⟨r_1, hg_1, hf⟩ := bd_some hf
  refine xVi (rest := []) (c_X8_isPlace l dC dI ad cI cJ cT p1 p2 p3 p4 I J hg_1) hfix (cwV 4 hts gX8_at_X8_isPlace rfl rfl rfl (by decide +kernel) ⟨Nat.le_of_ble_eq_true rfl, Nat.le_of_ble_eq_true rfl⟩) hK hP hD hS hA (va_recv hK hP (ci := 7) (q0 := 38) rfl (obB_38 ad cI cJ cT I J)) rfl hl.1 rfl (Nat.le_of_ble_eq_true rfl) ⟨Nat.zero_le _, Nat.zero_le _⟩ dX8_at_6 (fun H locs hP hD hS => ?_)
  refine lv_if_eq (tgt := 28) hx hb dX8_at_9 (by decide) (fun c_2 => ?_) (fun c_2 => ?_)
  · have hf := (if_pos c_2).symm.trans hf
    refine lv_bipush (v := (-2 : Int32)) hx hb dX8_at_28 (by decide) ?_
    cases hf
    exact xRi hx hb hr hlocks hK hP hD hS (fun _ h => h) dX8_at_30
  · have hf := (if_neg c_2).symm.trans hf
    refine lv_aload_n hx hb dX8_at_12 rfl (lv_at hl 0 rfl) ?_
    refine va_get (D := (dC, dI)) (ci := 7) (v := .ref (ad 37)) (C := RX8) (T := TX8) (N := 10) hx hb hts in_X8 hown hK hP 38 (obB_38 ad cI cJ cT I J) rfl 0 (by decide) wd_0 (fun _ h9 => h9) rfl dX8_at_13 ?_
    refine lv_iload_n hx hb dX8_at_16 rfl (lv_at hl 1 rfl) ?_
    obtain ⟨h_3, hf⟩ := gd_some hf
    refine va_aldq hx hb hK hP 37 2 (aiB_37 ad cI cJ cT I J) rfl h_3 dX8_at_17 ?_
    refine W.eq (g2 := F0 m 18 ls [.ref (ad (8 + p1.toNatClampNeg))]) rfl ?_
    refine lv_iload_n hx hb dX8_at_18 rfl (lv_at hl 2 rfl) ?_
    refine lv_iload_n hx hb dX8_at_19 rfl (lv_at hl 3 rfl) ?_
    refine lv_iload hx hb dX8_at_20 (lv_at hl 4 rfl) ?_
    obtain ⟨r_4, hg_4, hf⟩ := bd_some hf
    refine xVi (rest := []) (c_X7_number l dC dI ad cI cJ cT (wB ad cI cJ cT) (fun k => k) p1.toNatClampNeg (wBT ad cI cJ cT (x_lt8 h_3)) p2 p3 p4 I J hg_4) hfix (cwV 3 hts gX8_at_X7_number rfl rfl rfl (by decide +kernel) ⟨Nat.le_of_ble_eq_true rfl, Nat.le_of_ble_eq_true rfl⟩) hK hP hD hS hA (va_recv hK hP (ci := 6) (q0 := (8 + p1.toNatClampNeg)) rfl (((wBT ad cI cJ cT (x_lt8 h_3))).2.1 I J)) rfl hl.1 rfl (Nat.le_of_ble_eq_true rfl) ⟨Nat.zero_le _, Nat.zero_le _⟩ dX8_at_22 (fun H locs hP hD hS => ?_)
    refine lv_goto (tgt := 30) hx hb dX8_at_25 (by decide) ?_
    cases hf
    exact xRi hx hb hr hlocks hK hP hD hS (fun _ h => h) dX8_at_30
set_option maxHeartbeats 4000000 in
set_option maxRecDepth 100000 in
theorem c_X8_fault (l : Launch) (dC : Nat → ClassId) (dI : Nat → Nat → Nat) (ad : Nat → Nat) (cI cJ cT : ClassId) (p1 : Int32) (p2 : Int32) (I : SI) (J : SJ) {r0 : Int32} {I0 : SI} (hf : f_X8_fault p1 p2 I = some (r0, I0)) : CtI l yX8_fault wsX8_fault ({ frames := 5, cells := 0, slots := 0, locals := 117 } : Room) (dC, dI) (tys3 cI cJ cT) (wB ad cI cJ cT) [.ref (ad 38), .int p1, .int p2] I J r0 I0 J := by
  intro sz
  refine Met.ofW (cc := cX8_fault) (maxL := 3) (ret := (some .int)) (by decide) rfl ?_
  intro p e s m args below meth c s₁ B hml hv
  obtain ⟨hargs, hsz, hP, hK, hD0⟩ := hv
  have hx := B.exec
  have hb := B.bytes
  have hr := B.returns
  have hts := atoms_spec (ws := wsX8_fault) B.pre
  have hown : s.vm.findClass RX8 = some m.cls := findClass_of_methodNamed B.named
  have hlocks := B.notSynchronized
  subst hsz
  have hD := hD0.self (sz := s.heap.size)
  generalize hAe : va_A ((wB ad cI cJ cT) I J) s.heap.size = A at hD ⊢
  have hA : ∀ q : Nat, s.heap.size ≤ q → A q := fun q h => by rw [← hAe]; exact Or.inr h
  have hS : va_S A s.heap s.heap [] := va_S.rf
  have hl := lv_entry ([.ref (ad 38), .int p1, .int p2]) (n := 3) (Nat.le_of_ble_eq_true rfl)
  rw [hargs, lg_entry_eq, ← hargs]
  generalize (lg_sl ([.ref (ad 38), .int p1, .int p2]) ++ List.replicate (3 - (lg_sl ([.ref (ad 38), .int p1, .int p2])).length) Slot.unset).toArray = ls at hl ⊢
  have hl : lv_has ls 3 [(0, .ref (ad 38)), (1, .int p1), (2, .int p2)] := hl
  have hfix : CallFix p m c cX8_fault 3 s args wsX8_fault RX8 := ⟨hx, hb, hml, hown, hts⟩
  have in_X8 : ∀ w ∈ u_ws RX8 TX8 10, w ∈ wsX8_fault := by decide +kernel
  have in_X1 : ∀ w ∈ u_ws RX1 TX1 3, w ∈ wsX8_fault := by decide +kernel
  have wd_0 := hts (.fieldLink RX8 23 "FuseBench" "laws" "LFuseBench$Laws;") (by decide +kernel)
  have wd_1 := hts (.fieldLink RX8 11 "FuseBench" "tables" "[LFuseBench$Table;") (by decide +kernel)
  have wd_2 := hts (.fieldLink RX8 94 "FuseBench$Laws" "place" "[I") (by decide +kernel)
  have wd_3 := hts (.fieldLink RX8 90 "FuseBench$Laws" "broken" "I") (by decide +kernel)
  unfold f_X8_fault at hf
  refine lv_iload_n hx hb dX8_fault_0 rfl (lv_at hl 1 rfl) ?_
  obtain ⟨r_1, hg_1, hf⟩ := bd_some hf
  refine xSi (rest := []) (c_X8_isTable l dC dI ad cI cJ cT p1 I J hg_1) hfix (va_cwS 1 hts gX8_fault_X8_isTable rfl rfl rfl (by decide +kernel) ⟨Nat.le_of_ble_eq_true rfl, Nat.le_of_ble_eq_true rfl⟩) hK hP hD hS hA rfl hl.1 rfl (Nat.le_of_ble_eq_true rfl) ⟨Nat.zero_le _, Nat.zero_le _⟩ dX8_fault_1 (fun H locs hP hD hS => ?_)
  refine lv_if_eq (tgt := 16) hx hb dX8_fault_4 (by decide) (fun c_2 => ?_) (fun c_2 => ?_)
  · have hf := (if_pos c_2).symm.trans hf
    refine lv_bipush (v := (-2 : Int32)) hx hb dX8_fault_16 (by decide) ?_
    cases hf
    exact xRi hx hb hr hlocks hK hP hD hS (fun _ h => h) dX8_fault_18
  · have hf := (if_neg c_2).symm.trans hf
    refine lv_iload_n hx hb dX8_fault_7 rfl (lv_at hl 2 rfl) ?_
    refine lv_if_lt (tgt := 16) hx hb dX8_fault_8 (by decide) (fun c_3 => ?_) (fun c_3 => ?_)
    · have hf := (if_pos c_3).symm.trans hf
      refine lv_bipush (v := (-2 : Int32)) hx hb dX8_fault_16 (by decide) ?_
      cases hf
      exact xRi hx hb hr hlocks hK hP hD hS (fun _ h => h) dX8_fault_18
    · have hf := (if_neg c_3).symm.trans hf
      refine lv_iload_n hx hb dX8_fault_11 rfl (lv_at hl 2 rfl) ?_
      refine lv_iconst (v := (4 : Int32)) hx hb dX8_fault_12 (by decide) ?_
      refine lv_icmp_le (tgt := 19) hx hb dX8_fault_13 (by decide) (fun c_4 => ?_) (fun c_4 => ?_)
      · have hf := (if_pos c_4).symm.trans hf
        refine lv_aload_n hx hb dX8_fault_19 rfl (lv_at hl 0 rfl) ?_
        refine va_get (D := (dC, dI)) (ci := 7) (v := .ref (ad 18)) (C := RX8) (T := TX8) (N := 10) hx hb hts in_X8 hown hK hP 38 (obB_38 ad cI cJ cT I J) rfl 2 (by decide) wd_0 (fun _ h9 => h9) rfl dX8_fault_20 ?_
        refine lv_aload_n hx hb dX8_fault_23 rfl (lv_at hl 0 rfl) ?_
        refine va_get (D := (dC, dI)) (ci := 7) (v := .ref (ad 37)) (C := RX8) (T := TX8) (N := 10) hx hb hts in_X8 hown hK hP 38 (obB_38 ad cI cJ cT I J) rfl 0 (by decide) wd_1 (fun _ h9 => h9) rfl dX8_fault_24 ?_
        refine lv_iload_n hx hb dX8_fault_27 rfl (lv_at hl 1 rfl) ?_
        obtain ⟨h_5, hf⟩ := gd_some hf
        refine va_aldq hx hb hK hP 37 2 (aiB_37 ad cI cJ cT I J) rfl h_5 dX8_fault_28 ?_
        refine W.eq (g2 := F0 m 29 ls [.ref (ad (8 + p1.toNatClampNeg)), .ref (ad 18)]) rfl ?_
        obtain ⟨⟨r_6, I_6⟩, hg_6, hf⟩ := bd_some hf
        refine xVi (rest := []) (c_X1_allHold l dC dI ad cI cJ cT p1.toNatClampNeg (x_lt8 h_5) I J hg_6) hfix (cwV 1 hts gX8_fault_X1_allHold rfl rfl rfl (by decide +kernel) ⟨Nat.le_of_ble_eq_true rfl, Nat.le_of_ble_eq_true rfl⟩) hK hP hD hS hA (va_recv hK hP (ci := 1) (q0 := 18) rfl (obB_18 ad cI cJ cT I J)) rfl hl.1 rfl (Nat.le_of_ble_eq_true rfl) ⟨Nat.zero_le _, Nat.zero_le _⟩ dX8_fault_29 (fun H locs hP hD hS => ?_)
        refine lv_pop hx hb dX8_fault_32 rfl ?_
        refine lv_iload_n hx hb dX8_fault_33 rfl (lv_at hl 2 rfl) ?_
        refine lv_if_ne (tgt := 47) hx hb dX8_fault_34 (by decide) (fun c_7 => ?_) (fun c_7 => ?_)
        · have hf := (if_neg c_7).symm.trans hf
          refine lv_aload_n hx hb dX8_fault_47 rfl (lv_at hl 0 rfl) ?_
          refine va_get (D := (dC, dI)) (ci := 7) (v := .ref (ad 18)) (C := RX8) (T := TX8) (N := 10) hx hb hts in_X8 hown hK hP 38 (obB_38 ad cI cJ cT I_6 J) rfl 2 (by decide) wd_0 (fun _ h9 => h9) rfl dX8_fault_48 ?_
          refine va_get (D := (dC, dI)) (ci := 1) (v := .ref (ad 16)) (C := RX1) (T := TX1) (N := 3) hx hb hts in_X1 hown hK hP 18 (obB_18 ad cI cJ cT I_6 J) rfl 0 (by decide) wd_2 (fun _ h9 => h9) rfl dX8_fault_51 ?_
          refine lv_iload_n hx hb dX8_fault_54 rfl (lv_at hl 2 rfl) ?_
          refine lv_iconst (v := (1 : Int32)) hx hb dX8_fault_55 (by decide) ?_
          refine lv_isub hx hb dX8_fault_56 ?_
          obtain ⟨h_8, hf⟩ := gd_some hf
          refine x_iald hx hb hK (aiB_16 ad cI cJ cT) hP h_8 dX8_fault_57 ?_
          cases hf
          exact xRi hx hb hr hlocks hK hP hD hS (fun _ h => h) dX8_fault_58
        · have hf := (if_pos c_7).symm.trans hf
          refine lv_aload_n hx hb dX8_fault_37 rfl (lv_at hl 0 rfl) ?_
          refine va_get (D := (dC, dI)) (ci := 7) (v := .ref (ad 18)) (C := RX8) (T := TX8) (N := 10) hx hb hts in_X8 hown hK hP 38 (obB_38 ad cI cJ cT I_6 J) rfl 2 (by decide) wd_0 (fun _ h9 => h9) rfl dX8_fault_38 ?_
          refine va_get (D := (dC, dI)) (ci := 1) (v := .int (I_6 18 0)) (C := RX1) (T := TX1) (N := 3) hx hb hts in_X1 hown hK hP 18 (obB_18 ad cI cJ cT I_6 J) rfl 2 (by decide) wd_3 (fun _ h9 => h9) rfl dX8_fault_41 ?_
          refine lv_goto (tgt := 58) hx hb dX8_fault_44 (by decide) ?_
          cases hf
          exact xRi hx hb hr hlocks hK hP hD hS (fun _ h => h) dX8_fault_58
      · have hf := (if_neg c_4).symm.trans hf
        refine lv_bipush (v := (-2 : Int32)) hx hb dX8_fault_16 (by decide) ?_
        cases hf
        exact xRi hx hb hr hlocks hK hP hD hS (fun _ h => h) dX8_fault_18
set_option maxHeartbeats 4000000 in
set_option maxRecDepth 100000 in
theorem c_X8_isRight (l : Launch) (dC : Nat → ClassId) (dI : Nat → Nat → Nat) (ad : Nat → Nat) (cI cJ cT : ClassId) (p1 : Int32) (I : SI) (J : SJ) {r0 : Int32} {I0 : SI} (hf : f_X8_isRight p1 I = some (r0, I0)) : CtI l yX8_isRight wsX8_isRight ({ frames := 5, cells := 0, slots := 0, locals := 117 } : Room) (dC, dI) (tys3 cI cJ cT) (wB ad cI cJ cT) [.ref (ad 38), .int p1] I J r0 I0 J := by
  intro sz
  refine Met.ofW (cc := cX8_isRight) (maxL := 2) (ret := (some .boolean)) (by decide) rfl ?_
  intro p e s m args below meth c s₁ B hml hv
  obtain ⟨hargs, hsz, hP, hK, hD0⟩ := hv
  have hx := B.exec
  have hb := B.bytes
  have hr := B.returns
  have hts := atoms_spec (ws := wsX8_isRight) B.pre
  have hown : s.vm.findClass RX8 = some m.cls := findClass_of_methodNamed B.named
  have hlocks := B.notSynchronized
  subst hsz
  have hD := hD0.self (sz := s.heap.size)
  generalize hAe : va_A ((wB ad cI cJ cT) I J) s.heap.size = A at hD ⊢
  have hA : ∀ q : Nat, s.heap.size ≤ q → A q := fun q h => by rw [← hAe]; exact Or.inr h
  have hS : va_S A s.heap s.heap [] := va_S.rf
  have hl := lv_entry ([.ref (ad 38), .int p1]) (n := 2) (Nat.le_of_ble_eq_true rfl)
  rw [hargs, lg_entry_eq, ← hargs]
  generalize (lg_sl ([.ref (ad 38), .int p1]) ++ List.replicate (2 - (lg_sl ([.ref (ad 38), .int p1])).length) Slot.unset).toArray = ls at hl ⊢
  have hl : lv_has ls 2 [(0, .ref (ad 38)), (1, .int p1)] := hl
  have hfix : CallFix p m c cX8_isRight 2 s args wsX8_isRight RX8 := ⟨hx, hb, hml, hown, hts⟩
  have in_X8 : ∀ w ∈ u_ws RX8 TX8 10, w ∈ wsX8_isRight := by decide +kernel
  have wd_0 := hts (.fieldLink RX8 23 "FuseBench" "laws" "LFuseBench$Laws;") (by decide +kernel)
  have wd_1 := hts (.fieldLink RX8 11 "FuseBench" "tables" "[LFuseBench$Table;") (by decide +kernel)
  unfold f_X8_isRight at hf
  refine lv_aload_n hx hb dX8_isRight_0 rfl (lv_at hl 0 rfl) ?_
  refine va_get (D := (dC, dI)) (ci := 7) (v := .ref (ad 18)) (C := RX8) (T := TX8) (N := 10) hx hb hts in_X8 hown hK hP 38 (obB_38 ad cI cJ cT I J) rfl 2 (by decide) wd_0 (fun _ h9 => h9) rfl dX8_isRight_1 ?_
  refine lv_aload_n hx hb dX8_isRight_4 rfl (lv_at hl 0 rfl) ?_
  refine va_get (D := (dC, dI)) (ci := 7) (v := .ref (ad 37)) (C := RX8) (T := TX8) (N := 10) hx hb hts in_X8 hown hK hP 38 (obB_38 ad cI cJ cT I J) rfl 0 (by decide) wd_1 (fun _ h9 => h9) rfl dX8_isRight_5 ?_
  refine lv_iload_n hx hb dX8_isRight_8 rfl (lv_at hl 1 rfl) ?_
  obtain ⟨h_1, hf⟩ := gd_some hf
  refine va_aldq hx hb hK hP 37 2 (aiB_37 ad cI cJ cT I J) rfl h_1 dX8_isRight_9 ?_
  refine W.eq (g2 := F0 m 10 ls [.ref (ad (8 + p1.toNatClampNeg)), .ref (ad 18)]) rfl ?_
  obtain ⟨⟨r_2, I_2⟩, hg_2, hf⟩ := bd_some hf
  refine xVi (rest := []) (c_X1_allHold l dC dI ad cI cJ cT p1.toNatClampNeg (x_lt8 h_1) I J hg_2) hfix (cwV 1 hts gX8_isRight_X1_allHold rfl rfl rfl (by decide +kernel) ⟨Nat.le_of_ble_eq_true rfl, Nat.le_of_ble_eq_true rfl⟩) hK hP hD hS hA (va_recv hK hP (ci := 1) (q0 := 18) rfl (obB_18 ad cI cJ cT I J)) rfl hl.1 rfl (Nat.le_of_ble_eq_true rfl) ⟨Nat.zero_le _, Nat.zero_le _⟩ dX8_isRight_10 (fun H locs hP hD hS => ?_)
  obtain ⟨h_3, hf⟩ := gd_some hf
  cases hf
  exact xRz hx hb hr hlocks (nz h_3) hK hP hD hS (fun _ h => h) dX8_isRight_13
set_option maxHeartbeats 4000000 in
set_option maxRecDepth 100000 in
theorem c_X8_partner (l : Launch) (dC : Nat → ClassId) (dI : Nat → Nat → Nat) (ad : Nat → Nat) (cI cJ cT : ClassId) (p1 : Int32) (p2 : Int32) (I : SI) (J : SJ) {r0 : Int32} {I0 : SI} (hf : f_X8_partner p1 p2 I = some (r0, I0)) : CtI l yX8_partner wsX8_partner ({ frames := 6, cells := 0, slots := 0, locals := 138 } : Room) (dC, dI) (tys3 cI cJ cT) (wB ad cI cJ cT) [.ref (ad 38), .int p1, .int p2] I J r0 I0 J := by
  intro sz
  refine Met.ofW (cc := cX8_partner) (maxL := 3) (ret := (some .int)) (by decide) rfl ?_
  intro p e s m args below meth c s₁ B hml hv
  obtain ⟨hargs, hsz, hP, hK, hD0⟩ := hv
  have hx := B.exec
  have hb := B.bytes
  have hr := B.returns
  have hts := atoms_spec (ws := wsX8_partner) B.pre
  have hown : s.vm.findClass RX8 = some m.cls := findClass_of_methodNamed B.named
  have hlocks := B.notSynchronized
  subst hsz
  have hD := hD0.self (sz := s.heap.size)
  generalize hAe : va_A ((wB ad cI cJ cT) I J) s.heap.size = A at hD ⊢
  have hA : ∀ q : Nat, s.heap.size ≤ q → A q := fun q h => by rw [← hAe]; exact Or.inr h
  have hS : va_S A s.heap s.heap [] := va_S.rf
  have hl := lv_entry ([.ref (ad 38), .int p1, .int p2]) (n := 3) (Nat.le_of_ble_eq_true rfl)
  rw [hargs, lg_entry_eq, ← hargs]
  generalize (lg_sl ([.ref (ad 38), .int p1, .int p2]) ++ List.replicate (3 - (lg_sl ([.ref (ad 38), .int p1, .int p2])).length) Slot.unset).toArray = ls at hl ⊢
  have hl : lv_has ls 3 [(0, .ref (ad 38)), (1, .int p1), (2, .int p2)] := hl
  have hfix : CallFix p m c cX8_partner 3 s args wsX8_partner RX8 := ⟨hx, hb, hml, hown, hts⟩
  have in_X8 : ∀ w ∈ u_ws RX8 TX8 10, w ∈ wsX8_partner := by decide +kernel
  have in_X1 : ∀ w ∈ u_ws RX1 TX1 3, w ∈ wsX8_partner := by decide +kernel
  have wd_0 := hts (.fieldLink RX8 23 "FuseBench" "laws" "LFuseBench$Laws;") (by decide +kernel)
  have wd_1 := hts (.fieldLink RX8 104 "FuseBench$Laws" "partners" "[I") (by decide +kernel)
  unfold f_X8_partner at hf
  refine lv_aload_n hx hb dX8_partner_0 rfl (lv_at hl 0 rfl) ?_
  refine lv_iload_n hx hb dX8_partner_1 rfl (lv_at hl 1 rfl) ?_
  refine lv_iload_n hx hb dX8_partner_2 rfl (lv_at hl 2 rfl) ?_
  obtain ⟨r_1, hg_1, hf⟩ := bd_some hf
  refine xVi (rest := []) (c_X8_isKind l dC dI ad cI cJ cT p1 p2 I J hg_1) hfix (cwV 2 hts gX8_partner_X8_isKind rfl rfl rfl (by decide +kernel) ⟨Nat.le_of_ble_eq_true rfl, Nat.le_of_ble_eq_true rfl⟩) hK hP hD hS hA (va_recv hK hP (ci := 7) (q0 := 38) rfl (obB_38 ad cI cJ cT I J)) rfl hl.1 rfl (Nat.le_of_ble_eq_true rfl) ⟨Nat.zero_le _, Nat.zero_le _⟩ dX8_partner_3 (fun H locs hP hD hS => ?_)
  refine lv_if_ne (tgt := 12) hx hb dX8_partner_6 (by decide) (fun c_2 => ?_) (fun c_2 => ?_)
  · have hf := (if_neg c_2).symm.trans hf
    refine lv_aload_n hx hb dX8_partner_12 rfl (lv_at hl 0 rfl) ?_
    refine lv_iload_n hx hb dX8_partner_13 rfl (lv_at hl 1 rfl) ?_
    obtain ⟨⟨r_3, I_3⟩, hg_3, hf⟩ := bd_some hf
    refine xVi (rest := []) (c_X8_isRight l dC dI ad cI cJ cT p1 I J hg_3) hfix (cwV 1 hts gX8_partner_X8_isRight rfl rfl rfl (by decide +kernel) ⟨Nat.le_of_ble_eq_true rfl, Nat.le_of_ble_eq_true rfl⟩) hK hP hD hS hA (va_recv hK hP (ci := 7) (q0 := 38) rfl (obB_38 ad cI cJ cT I J)) rfl hl.1 rfl (Nat.le_of_ble_eq_true rfl) ⟨Nat.zero_le _, Nat.zero_le _⟩ dX8_partner_14 (fun H locs hP hD hS => ?_)
    refine lv_if_eq (tgt := 32) hx hb dX8_partner_17 (by decide) (fun c_4 => ?_) (fun c_4 => ?_)
    · have hf := (if_pos c_4).symm.trans hf
      refine lv_bipush (v := (-3 : Int32)) hx hb dX8_partner_32 (by decide) ?_
      cases hf
      exact xRi hx hb hr hlocks hK hP hD hS (fun _ h => h) dX8_partner_34
    · have hf := (if_neg c_4).symm.trans hf
      refine lv_aload_n hx hb dX8_partner_20 rfl (lv_at hl 0 rfl) ?_
      refine va_get (D := (dC, dI)) (ci := 7) (v := .ref (ad 18)) (C := RX8) (T := TX8) (N := 10) hx hb hts in_X8 hown hK hP 38 (obB_38 ad cI cJ cT I_3 J) rfl 2 (by decide) wd_0 (fun _ h9 => h9) rfl dX8_partner_21 ?_
      refine va_get (D := (dC, dI)) (ci := 1) (v := .ref (ad 17)) (C := RX1) (T := TX1) (N := 3) hx hb hts in_X1 hown hK hP 18 (obB_18 ad cI cJ cT I_3 J) rfl 1 (by decide) wd_1 (fun _ h9 => h9) rfl dX8_partner_24 ?_
      refine lv_iload_n hx hb dX8_partner_27 rfl (lv_at hl 2 rfl) ?_
      obtain ⟨h_5, hf⟩ := gd_some hf
      refine x_iald hx hb hK (aiB_17 ad cI cJ cT) hP h_5 dX8_partner_28 ?_
      refine lv_goto (tgt := 34) hx hb dX8_partner_29 (by decide) ?_
      cases hf
      exact xRi hx hb hr hlocks hK hP hD hS (fun _ h => h) dX8_partner_34
  · have hf := (if_pos c_2).symm.trans hf
    refine lv_bipush (v := (-2 : Int32)) hx hb dX8_partner_9 (by decide) ?_
    cases hf
    exact xRi hx hb hr hlocks hK hP hD hS (fun _ h => h) dX8_partner_11
set_option maxHeartbeats 4000000 in
set_option maxRecDepth 100000 in
theorem c_X8_copy (l : Launch) (dC : Nat → ClassId) (dI : Nat → Nat → Nat) (ad : Nat → Nat) (cI cJ cT : ClassId) (p1 : Int32) (p2 : Int32) (I : SI) (J : SJ) {r0 : Int32} {I0 : SI} (hf : f_X8_copy p1 p2 I = some (r0, I0)) : CtI l yX8_copy wsX8_copy ({ frames := 2, cells := 0, slots := 0, locals := 101 } : Room) (dC, dI) (tys3 cI cJ cT) (wB ad cI cJ cT) [.ref (ad 38), .int p1, .int p2] I J r0 I0 J := by
  intro sz
  refine Met.ofW (cc := cX8_copy) (maxL := 3) (ret := (some .int)) (by decide) rfl ?_
  intro p e s m args below meth c s₁ B hml hv
  obtain ⟨hargs, hsz, hP, hK, hD0⟩ := hv
  have hx := B.exec
  have hb := B.bytes
  have hr := B.returns
  have hts := atoms_spec (ws := wsX8_copy) B.pre
  have hown : s.vm.findClass RX8 = some m.cls := findClass_of_methodNamed B.named
  have hlocks := B.notSynchronized
  subst hsz
  have hD := hD0.self (sz := s.heap.size)
  generalize hAe : va_A ((wB ad cI cJ cT) I J) s.heap.size = A at hD ⊢
  have hA : ∀ q : Nat, s.heap.size ≤ q → A q := fun q h => by rw [← hAe]; exact Or.inr h
  have hS : va_S A s.heap s.heap [] := va_S.rf
  have hl := lv_entry ([.ref (ad 38), .int p1, .int p2]) (n := 3) (Nat.le_of_ble_eq_true rfl)
  rw [hargs, lg_entry_eq, ← hargs]
  generalize (lg_sl ([.ref (ad 38), .int p1, .int p2]) ++ List.replicate (3 - (lg_sl ([.ref (ad 38), .int p1, .int p2])).length) Slot.unset).toArray = ls at hl ⊢
  have hl : lv_has ls 3 [(0, .ref (ad 38)), (1, .int p1), (2, .int p2)] := hl
  have hfix : CallFix p m c cX8_copy 3 s args wsX8_copy RX8 := ⟨hx, hb, hml, hown, hts⟩
  have in_X8 : ∀ w ∈ u_ws RX8 TX8 10, w ∈ wsX8_copy := by decide +kernel
  have in_X7 : ∀ w ∈ u_ws RX7 TX7 2, w ∈ wsX8_copy := by decide +kernel
  have wd_0 := hts (.fieldLink RX8 11 "FuseBench" "tables" "[LFuseBench$Table;") (by decide +kernel)
  have wd_1 := hts (.fieldLink RX8 111 "FuseBench$Table" "kinds" "I") (by decide +kernel)
  unfold f_X8_copy at hf
  refine lv_iload_n hx hb dX8_copy_0 rfl (lv_at hl 1 rfl) ?_
  obtain ⟨r_1, hg_1, hf⟩ := bd_some hf
  refine xSi (rest := []) (c_X8_isTable l dC dI ad cI cJ cT p1 I J hg_1) hfix (va_cwS 1 hts gX8_copy_X8_isTable rfl rfl rfl (by decide +kernel) ⟨Nat.le_of_ble_eq_true rfl, Nat.le_of_ble_eq_true rfl⟩) hK hP hD hS hA rfl hl.1 rfl (Nat.le_of_ble_eq_true rfl) ⟨Nat.zero_le _, Nat.zero_le _⟩ dX8_copy_1 (fun H locs hP hD hS => ?_)
  refine lv_if_eq (tgt := 14) hx hb dX8_copy_4 (by decide) (fun c_2 => ?_) (fun c_2 => ?_)
  · have hf := (if_pos c_2).symm.trans hf
    refine lv_bipush (v := (-2 : Int32)) hx hb dX8_copy_14 (by decide) ?_
    cases hf
    exact xRi hx hb hr hlocks hK hP hD hS (fun _ h => h) dX8_copy_16
  · have hf := (if_neg c_2).symm.trans hf
    refine lv_iload_n hx hb dX8_copy_7 rfl (lv_at hl 2 rfl) ?_
    obtain ⟨r_3, hg_3, hf⟩ := bd_some hf
    refine xSi (rest := []) (c_X8_isTable l dC dI ad cI cJ cT p2 I J hg_3) hfix (va_cwS 1 hts gX8_copy_X8_isTable rfl rfl rfl (by decide +kernel) ⟨Nat.le_of_ble_eq_true rfl, Nat.le_of_ble_eq_true rfl⟩) hK hP hD hS hA rfl hl.1 rfl (Nat.le_of_ble_eq_true rfl) ⟨Nat.zero_le _, Nat.zero_le _⟩ dX8_copy_8 (fun H locs hP hD hS => ?_)
    refine lv_if_ne (tgt := 17) hx hb dX8_copy_11 (by decide) (fun c_4 => ?_) (fun c_4 => ?_)
    · have hf := (if_neg c_4).symm.trans hf
      refine lv_aload_n hx hb dX8_copy_17 rfl (lv_at hl 0 rfl) ?_
      refine va_get (D := (dC, dI)) (ci := 7) (v := .ref (ad 37)) (C := RX8) (T := TX8) (N := 10) hx hb hts in_X8 hown hK hP 38 (obB_38 ad cI cJ cT I J) rfl 0 (by decide) wd_0 (fun _ h9 => h9) rfl dX8_copy_18 ?_
      refine lv_iload_n hx hb dX8_copy_21 rfl (lv_at hl 2 rfl) ?_
      obtain ⟨h_5, hf⟩ := gd_some hf
      refine va_aldq hx hb hK hP 37 2 (aiB_37 ad cI cJ cT I J) rfl h_5 dX8_copy_22 ?_
      refine W.eq (g2 := F0 m 23 ls [.ref (ad (8 + p2.toNatClampNeg))]) rfl ?_
      refine lv_aload_n hx hb dX8_copy_23 rfl (lv_at hl 0 rfl) ?_
      refine va_get (D := (dC, dI)) (ci := 7) (v := .ref (ad 37)) (C := RX8) (T := TX8) (N := 10) hx hb hts in_X8 hown hK hP 38 (obB_38 ad cI cJ cT I J) rfl 0 (by decide) wd_0 (fun _ h9 => h9) rfl dX8_copy_24 ?_
      refine lv_iload_n hx hb dX8_copy_27 rfl (lv_at hl 1 rfl) ?_
      obtain ⟨h_6, hf⟩ := gd_some hf
      refine va_aldq hx hb hK hP 37 2 (aiB_37 ad cI cJ cT I J) rfl h_6 dX8_copy_28 ?_
      refine W.eq (g2 := F0 m 29 ls [.ref (ad (8 + p1.toNatClampNeg)), .ref (ad (8 + p2.toNatClampNeg))]) rfl ?_
      obtain ⟨I_7, hg_7, hf⟩ := bd_some hf
      refine xVv (rest := []) (c_X7_become l dC dI ad cI cJ cT (wB ad cI cJ cT) (fun k => k) p2.toNatClampNeg (wBT ad cI cJ cT (x_lt8 h_5)) p1.toNatClampNeg (wBT ad cI cJ cT (x_lt8 h_6)) I J hg_7) hfix (cwV 1 hts gX8_copy_X7_become rfl rfl rfl (by decide +kernel) ⟨Nat.le_of_ble_eq_true rfl, Nat.le_of_ble_eq_true rfl⟩) hK hP hD hS hA (va_recv hK hP (ci := 6) (q0 := (8 + p2.toNatClampNeg)) rfl (((wBT ad cI cJ cT (x_lt8 h_5))).2.1 I J)) rfl hl.1 rfl (Nat.le_of_ble_eq_true rfl) ⟨Nat.zero_le _, Nat.zero_le _⟩ dX8_copy_29 (fun H locs hP hD hS => ?_)
      refine lv_aload_n hx hb dX8_copy_32 rfl (lv_at hl 0 rfl) ?_
      refine va_get (D := (dC, dI)) (ci := 7) (v := .ref (ad 37)) (C := RX8) (T := TX8) (N := 10) hx hb hts in_X8 hown hK hP 38 (obB_38 ad cI cJ cT I_7 J) rfl 0 (by decide) wd_0 (fun _ h9 => h9) rfl dX8_copy_33 ?_
      refine lv_iload_n hx hb dX8_copy_36 rfl (lv_at hl 2 rfl) ?_
      obtain ⟨h_8, hf⟩ := gd_some hf
      refine va_aldq hx hb hK hP 37 2 (aiB_37 ad cI cJ cT I_7 J) rfl h_8 dX8_copy_37 ?_
      refine W.eq (g2 := F0 m 38 ls [.ref (ad (8 + p2.toNatClampNeg))]) rfl ?_
      refine va_get (D := (dC, dI)) (ci := 6) (v := .int (I_7 (8 + p2.toNatClampNeg) 0)) (C := RX7) (T := TX7) (N := 2) hx hb hts in_X7 hown hK hP (8 + p2.toNatClampNeg) (((wBT ad cI cJ cT (x_lt8 h_8))).2.1 I_7 J) rfl 1 (by decide) wd_1 (fun _ h9 => h9) rfl dX8_copy_38 ?_
      cases hf
      exact xRi hx hb hr hlocks hK hP hD hS (fun _ h => h) dX8_copy_41
    · have hf := (if_pos c_4).symm.trans hf
      refine lv_bipush (v := (-2 : Int32)) hx hb dX8_copy_14 (by decide) ?_
      cases hf
      exact xRi hx hb hr hlocks hK hP hD hS (fun _ h => h) dX8_copy_16
set_option maxHeartbeats 4000000 in
set_option maxRecDepth 100000 in
theorem c_X8_group (l : Launch) (dC : Nat → ClassId) (dI : Nat → Nat → Nat) (ad : Nat → Nat) (cI cJ cT : ClassId) (p1 : Int32) (p2 : Int32) (I : SI) (J : SJ) {r0 : Int32} {I0 : SI} (hf : f_X8_group p1 p2 I = some (r0, I0)) : CtI l yX8_group wsX8_group ({ frames := 3, cells := 0, slots := 0, locals := 70 } : Room) (dC, dI) (tys3 cI cJ cT) (wB ad cI cJ cT) [.ref (ad 38), .int p1, .int p2] I J r0 I0 J := by
  intro sz
  refine Met.ofW (cc := cX8_group) (maxL := 3) (ret := (some .int)) (by decide) rfl ?_
  intro p e s m args below meth c s₁ B hml hv
  obtain ⟨hargs, hsz, hP, hK, hD0⟩ := hv
  have hx := B.exec
  have hb := B.bytes
  have hr := B.returns
  have hts := atoms_spec (ws := wsX8_group) B.pre
  have hown : s.vm.findClass RX8 = some m.cls := findClass_of_methodNamed B.named
  have hlocks := B.notSynchronized
  subst hsz
  have hD := hD0.self (sz := s.heap.size)
  generalize hAe : va_A ((wB ad cI cJ cT) I J) s.heap.size = A at hD ⊢
  have hA : ∀ q : Nat, s.heap.size ≤ q → A q := fun q h => by rw [← hAe]; exact Or.inr h
  have hS : va_S A s.heap s.heap [] := va_S.rf
  have hl := lv_entry ([.ref (ad 38), .int p1, .int p2]) (n := 3) (Nat.le_of_ble_eq_true rfl)
  rw [hargs, lg_entry_eq, ← hargs]
  generalize (lg_sl ([.ref (ad 38), .int p1, .int p2]) ++ List.replicate (3 - (lg_sl ([.ref (ad 38), .int p1, .int p2])).length) Slot.unset).toArray = ls at hl ⊢
  have hl : lv_has ls 3 [(0, .ref (ad 38)), (1, .int p1), (2, .int p2)] := hl
  have hfix : CallFix p m c cX8_group 3 s args wsX8_group RX8 := ⟨hx, hb, hml, hown, hts⟩
  have in_X8 : ∀ w ∈ u_ws RX8 TX8 10, w ∈ wsX8_group := by decide +kernel
  have wd_0 := hts (.fieldLink RX8 11 "FuseBench" "tables" "[LFuseBench$Table;") (by decide +kernel)
  unfold f_X8_group at hf
  refine lv_iload_n hx hb dX8_group_0 rfl (lv_at hl 1 rfl) ?_
  obtain ⟨r_1, hg_1, hf⟩ := bd_some hf
  refine xSi (rest := []) (c_X8_isTable l dC dI ad cI cJ cT p1 I J hg_1) hfix (va_cwS 1 hts gX8_group_X8_isTable rfl rfl rfl (by decide +kernel) ⟨Nat.le_of_ble_eq_true rfl, Nat.le_of_ble_eq_true rfl⟩) hK hP hD hS hA rfl hl.1 rfl (Nat.le_of_ble_eq_true rfl) ⟨Nat.zero_le _, Nat.zero_le _⟩ dX8_group_1 (fun H locs hP hD hS => ?_)
  refine lv_if_eq (tgt := 17) hx hb dX8_group_4 (by decide) (fun c_2 => ?_) (fun c_2 => ?_)
  · have hf := (if_pos c_2).symm.trans hf
    refine lv_bipush (v := (-2 : Int32)) hx hb dX8_group_17 (by decide) ?_
    cases hf
    exact xRi hx hb hr hlocks hK hP hD hS (fun _ h => h) dX8_group_19
  · have hf := (if_neg c_2).symm.trans hf
    refine lv_iload_n hx hb dX8_group_7 rfl (lv_at hl 2 rfl) ?_
    refine lv_iconst (v := (1 : Int32)) hx hb dX8_group_8 (by decide) ?_
    refine lv_icmp_lt (tgt := 17) hx hb dX8_group_9 (by decide) (fun c_3 => ?_) (fun c_3 => ?_)
    · have hf := (if_pos c_3).symm.trans hf
      refine lv_bipush (v := (-2 : Int32)) hx hb dX8_group_17 (by decide) ?_
      cases hf
      exact xRi hx hb hr hlocks hK hP hD hS (fun _ h => h) dX8_group_19
    · have hf := (if_neg c_3).symm.trans hf
      refine lv_iload_n hx hb dX8_group_12 rfl (lv_at hl 2 rfl) ?_
      refine lv_iconst (v := (5 : Int32)) hx hb dX8_group_13 (by decide) ?_
      refine lv_icmp_le (tgt := 20) hx hb dX8_group_14 (by decide) (fun c_4 => ?_) (fun c_4 => ?_)
      · have hf := (if_pos c_4).symm.trans hf
        refine lv_aload_n hx hb dX8_group_20 rfl (lv_at hl 0 rfl) ?_
        refine va_get (D := (dC, dI)) (ci := 7) (v := .ref (ad 37)) (C := RX8) (T := TX8) (N := 10) hx hb hts in_X8 hown hK hP 38 (obB_38 ad cI cJ cT I J) rfl 0 (by decide) wd_0 (fun _ h9 => h9) rfl dX8_group_21 ?_
        refine lv_iload_n hx hb dX8_group_24 rfl (lv_at hl 1 rfl) ?_
        obtain ⟨h_5, hf⟩ := gd_some hf
        refine va_aldq hx hb hK hP 37 2 (aiB_37 ad cI cJ cT I J) rfl h_5 dX8_group_25 ?_
        refine W.eq (g2 := F0 m 26 ls [.ref (ad (8 + p1.toNatClampNeg))]) rfl ?_
        refine lv_iload_n hx hb dX8_group_26 rfl (lv_at hl 2 rfl) ?_
        obtain ⟨I_6, hg_6, hf⟩ := bd_some hf
        refine xVv (rest := []) (c_X7_reset l dC dI ad cI cJ cT (wB ad cI cJ cT) (fun k => k) p1.toNatClampNeg (wBT ad cI cJ cT (x_lt8 h_5)) p2 I J hg_6) hfix (cwV 1 hts gX8_group_X7_reset rfl rfl rfl (by decide +kernel) ⟨Nat.le_of_ble_eq_true rfl, Nat.le_of_ble_eq_true rfl⟩) hK hP hD hS hA (va_recv hK hP (ci := 6) (q0 := (8 + p1.toNatClampNeg)) rfl (((wBT ad cI cJ cT (x_lt8 h_5))).2.1 I J)) rfl hl.1 rfl (Nat.le_of_ble_eq_true rfl) ⟨Nat.zero_le _, Nat.zero_le _⟩ dX8_group_27 (fun H locs hP hD hS => ?_)
        refine lv_aload_n hx hb dX8_group_30 rfl (lv_at hl 0 rfl) ?_
        refine va_get (D := (dC, dI)) (ci := 7) (v := .ref (ad 37)) (C := RX8) (T := TX8) (N := 10) hx hb hts in_X8 hown hK hP 38 (obB_38 ad cI cJ cT I_6 J) rfl 0 (by decide) wd_0 (fun _ h9 => h9) rfl dX8_group_31 ?_
        refine lv_iload_n hx hb dX8_group_34 rfl (lv_at hl 1 rfl) ?_
        obtain ⟨h_7, hf⟩ := gd_some hf
        refine va_aldq hx hb hK hP 37 2 (aiB_37 ad cI cJ cT I_6 J) rfl h_7 dX8_group_35 ?_
        refine W.eq (g2 := F0 m 36 ls [.ref (ad (8 + p1.toNatClampNeg))]) rfl ?_
        refine lv_iload_n hx hb dX8_group_36 rfl (lv_at hl 2 rfl) ?_
        obtain ⟨I_8, hg_8, hf⟩ := bd_some hf
        refine xVv (rest := []) (c_X7_fuseAsGroup l dC dI ad cI cJ cT (wB ad cI cJ cT) (fun k => k) p1.toNatClampNeg (wBT ad cI cJ cT (x_lt8 h_7)) p2 I_6 J hg_8) hfix (cwV 1 hts gX8_group_X7_fuseAsGroup rfl rfl rfl (by decide +kernel) ⟨Nat.le_of_ble_eq_true rfl, Nat.le_of_ble_eq_true rfl⟩) hK hP hD hS hA (va_recv hK hP (ci := 6) (q0 := (8 + p1.toNatClampNeg)) rfl (((wBT ad cI cJ cT (x_lt8 h_7))).2.1 I_6 J)) rfl hl.1 rfl (Nat.le_of_ble_eq_true rfl) ⟨Nat.zero_le _, Nat.zero_le _⟩ dX8_group_37 (fun H locs hP hD hS => ?_)
        refine lv_iconst (v := (1 : Int32)) hx hb dX8_group_40 (by decide) ?_
        cases hf
        exact xRi hx hb hr hlocks hK hP hD hS (fun _ h => h) dX8_group_41
      · have hf := (if_neg c_4).symm.trans hf
        refine lv_bipush (v := (-2 : Int32)) hx hb dX8_group_17 (by decide) ?_
        cases hf
        exact xRi hx hb hr hlocks hK hP hD hS (fun _ h => h) dX8_group_19
set_option maxHeartbeats 4000000 in
set_option maxRecDepth 100000 in
theorem c_X8_near (l : Launch) (dC : Nat → ClassId) (dI : Nat → Nat → Nat) (ad : Nat → Nat) (cI cJ cT : ClassId) (p1 : Int32) (p2 : Int32) (p3 : Int32) (I : SI) (J : SJ) {r0 : Int32} {I0 : SI} (hf : f_X8_near p1 p2 p3 I = some (r0, I0)) : CtI l yX8_near wsX8_near ({ frames := 3, cells := 0, slots := 0, locals := 70 } : Room) (dC, dI) (tys3 cI cJ cT) (wB ad cI cJ cT) [.ref (ad 38), .int p1, .int p2, .int p3] I J r0 I0 J := by
  intro sz
  refine Met.ofW (cc := cX8_near) (maxL := 5) (ret := (some .int)) (by decide) rfl ?_
  intro p e s m args below meth c s₁ B hml hv
  obtain ⟨hargs, hsz, hP, hK, hD0⟩ := hv
  have hx := B.exec
  have hb := B.bytes
  have hr := B.returns
  have hts := atoms_spec (ws := wsX8_near) B.pre
  have hown : s.vm.findClass RX8 = some m.cls := findClass_of_methodNamed B.named
  have hlocks := B.notSynchronized
  subst hsz
  have hD := hD0.self (sz := s.heap.size)
  generalize hAe : va_A ((wB ad cI cJ cT) I J) s.heap.size = A at hD ⊢
  have hA : ∀ q : Nat, s.heap.size ≤ q → A q := fun q h => by rw [← hAe]; exact Or.inr h
  have hS : va_S A s.heap s.heap [] := va_S.rf
  have hl := lv_entry ([.ref (ad 38), .int p1, .int p2, .int p3]) (n := 5) (Nat.le_of_ble_eq_true rfl)
  rw [hargs, lg_entry_eq, ← hargs]
  generalize (lg_sl ([.ref (ad 38), .int p1, .int p2, .int p3]) ++ List.replicate (5 - (lg_sl ([.ref (ad 38), .int p1, .int p2, .int p3])).length) Slot.unset).toArray = ls at hl ⊢
  have hl : lv_has ls 5 [(0, .ref (ad 38)), (1, .int p1), (2, .int p2), (3, .int p3)] := hl
  have hfix : CallFix p m c cX8_near 5 s args wsX8_near RX8 := ⟨hx, hb, hml, hown, hts⟩
  have in_X8 : ∀ w ∈ u_ws RX8 TX8 10, w ∈ wsX8_near := by decide +kernel
  have wd_0 := hts (.fieldLink RX8 11 "FuseBench" "tables" "[LFuseBench$Table;") (by decide +kernel)
  have L55 : ∀ (Q : State → Prop) (v1 : Int32) (v2 : Int32) (v3 : Int32) (J : SJ) (o : SI), (∀  (I : SI) (H : Heap) (locs : List Loc) (ls : Array Slot), o = I → va_P (dC, dI) vwCl ((wB ad cI cJ cT) I J) H → va_D A ((wB ad cI cJ cT) I J) → va_S A s.heap H locs → lv_has ls 5 [(0, .ref (ad 38)), (1, .int v1), (2, .int v2), (3, .int v3)] → W p l e ({ frames := 3, cells := 0, slots := 0, locals := 70 } : Room) s m args below meth c H locs 0 0 Q (F0 m 109 ls [])) → ∀ (n : Nat) (v4 : Int32) (I : SI) (H : Heap) (locs : List Loc) (ls : Array Slot), lp_X8_near_55 v1 v2 v3 n v4 I = some o → va_P (dC, dI) vwCl ((wB ad cI cJ cT) I J) H → va_D A ((wB ad cI cJ cT) I J) → va_S A s.heap H locs → lv_has ls 5 [(0, .ref (ad 38)), (1, .int v1), (2, .int v2), (3, .int v3), (4, .int v4)] → W p l e ({ frames := 3, cells := 0, slots := 0, locals := 70 } : Room) s m args below meth c H locs 0 0 Q (F0 m 55 ls []) := by
    intro Q v1 v2 v3 J o K0 n
    clear hP hD hS hl
    induction n with
    | zero =>
      intro v4 I H locs ls hf
      rw [lp_X8_near_55.eq_1] at hf
      cases hf
    | succ n ih =>
      intro v4 I H locs ls hf hP hD hS hl
      rw [lp_X8_near_55.eq_2] at hf
      refine lv_iload hx hb dX8_near_55 (lv_at hl 4 rfl) ?_
      refine lv_iload_n hx hb dX8_near_57 rfl (lv_at hl 2 rfl) ?_
      refine lv_icmp_ge (tgt := 109) hx hb dX8_near_58 (by decide) (fun c_1 => ?_) (fun c_1 => ?_)
      · have hf := (if_pos c_1).symm.trans hf
        exact K0 _ _ _ _ (Option.some.inj hf).symm hP hD hS (lv_sub hl [0, 1, 2, 3] rfl)
      · have hf := (if_neg c_1).symm.trans hf
        refine lv_aload_n hx hb dX8_near_61 rfl (lv_at hl 0 rfl) ?_
        refine va_get (D := (dC, dI)) (ci := 7) (v := .ref (ad 37)) (C := RX8) (T := TX8) (N := 10) hx hb hts in_X8 hown hK hP 38 (obB_38 ad cI cJ cT I J) rfl 0 (by decide) wd_0 (fun _ h9 => h9) rfl dX8_near_62 ?_
        refine lv_iload_n hx hb dX8_near_65 rfl (lv_at hl 1 rfl) ?_
        obtain ⟨h_2, hf⟩ := gd_some hf
        refine va_aldq hx hb hK hP 37 2 (aiB_37 ad cI cJ cT I J) rfl h_2 dX8_near_66 ?_
        refine W.eq (g2 := F0 m 67 ls [.ref (ad (8 + v1.toNatClampNeg))]) rfl ?_
        refine lv_iload_n hx hb dX8_near_67 rfl (lv_at hl 2 rfl) ?_
        refine lv_iload hx hb dX8_near_68 (lv_at hl 4 rfl) ?_
        refine lv_iload_n hx hb dX8_near_70 rfl (lv_at hl 2 rfl) ?_
        refine lv_iconst (v := (1 : Int32)) hx hb dX8_near_71 (by decide) ?_
        obtain ⟨I_3, hg_3, hf⟩ := bd_some hf
        refine xVv (rest := []) (c_X7_setNumber l dC dI ad cI cJ cT (wB ad cI cJ cT) (fun k => k) v1.toNatClampNeg (wBT ad cI cJ cT (x_lt8 h_2)) v2 v4 v2 (1 : Int32) I J hg_3) hfix (cwV 4 hts gX8_near_X7_setNumber rfl rfl rfl (by decide +kernel) ⟨Nat.le_of_ble_eq_true rfl, Nat.le_of_ble_eq_true rfl⟩) hK hP hD hS hA (va_recv hK hP (ci := 6) (q0 := (8 + v1.toNatClampNeg)) rfl (((wBT ad cI cJ cT (x_lt8 h_2))).2.1 I J)) rfl hl.1 rfl (Nat.le_of_ble_eq_true rfl) ⟨Nat.zero_le _, Nat.zero_le _⟩ dX8_near_72 (fun H locs hP hD hS => ?_)
        refine lv_aload_n hx hb dX8_near_75 rfl (lv_at hl 0 rfl) ?_
        refine va_get (D := (dC, dI)) (ci := 7) (v := .ref (ad 37)) (C := RX8) (T := TX8) (N := 10) hx hb hts in_X8 hown hK hP 38 (obB_38 ad cI cJ cT I_3 J) rfl 0 (by decide) wd_0 (fun _ h9 => h9) rfl dX8_near_76 ?_
        refine lv_iload_n hx hb dX8_near_79 rfl (lv_at hl 1 rfl) ?_
        obtain ⟨h_4, hf⟩ := gd_some hf
        refine va_aldq hx hb hK hP 37 2 (aiB_37 ad cI cJ cT I_3 J) rfl h_4 dX8_near_80 ?_
        refine W.eq (g2 := F0 m 81 ls [.ref (ad (8 + v1.toNatClampNeg))]) rfl ?_
        refine lv_iload hx hb dX8_near_81 (lv_at hl 4 rfl) ?_
        refine lv_iload_n hx hb dX8_near_83 rfl (lv_at hl 2 rfl) ?_
        refine lv_iload_n hx hb dX8_near_84 rfl (lv_at hl 2 rfl) ?_
        refine lv_iconst (v := (1 : Int32)) hx hb dX8_near_85 (by decide) ?_
        obtain ⟨I_5, hg_5, hf⟩ := bd_some hf
        refine xVv (rest := []) (c_X7_setNumber l dC dI ad cI cJ cT (wB ad cI cJ cT) (fun k => k) v1.toNatClampNeg (wBT ad cI cJ cT (x_lt8 h_4)) v4 v2 v2 (1 : Int32) I_3 J hg_5) hfix (cwV 4 hts gX8_near_X7_setNumber rfl rfl rfl (by decide +kernel) ⟨Nat.le_of_ble_eq_true rfl, Nat.le_of_ble_eq_true rfl⟩) hK hP hD hS hA (va_recv hK hP (ci := 6) (q0 := (8 + v1.toNatClampNeg)) rfl (((wBT ad cI cJ cT (x_lt8 h_4))).2.1 I_3 J)) rfl hl.1 rfl (Nat.le_of_ble_eq_true rfl) ⟨Nat.zero_le _, Nat.zero_le _⟩ dX8_near_86 (fun H locs hP hD hS => ?_)
        refine lv_aload_n hx hb dX8_near_89 rfl (lv_at hl 0 rfl) ?_
        refine va_get (D := (dC, dI)) (ci := 7) (v := .ref (ad 37)) (C := RX8) (T := TX8) (N := 10) hx hb hts in_X8 hown hK hP 38 (obB_38 ad cI cJ cT I_5 J) rfl 0 (by decide) wd_0 (fun _ h9 => h9) rfl dX8_near_90 ?_
        refine lv_iload_n hx hb dX8_near_93 rfl (lv_at hl 1 rfl) ?_
        obtain ⟨h_6, hf⟩ := gd_some hf
        refine va_aldq hx hb hK hP 37 2 (aiB_37 ad cI cJ cT I_5 J) rfl h_6 dX8_near_94 ?_
        refine W.eq (g2 := F0 m 95 ls [.ref (ad (8 + v1.toNatClampNeg))]) rfl ?_
        refine lv_iload_n hx hb dX8_near_95 rfl (lv_at hl 2 rfl) ?_
        refine lv_iload_n hx hb dX8_near_96 rfl (lv_at hl 2 rfl) ?_
        refine lv_iload hx hb dX8_near_97 (lv_at hl 4 rfl) ?_
        refine lv_iconst (v := (1 : Int32)) hx hb dX8_near_99 (by decide) ?_
        obtain ⟨I_7, hg_7, hf⟩ := bd_some hf
        refine xVv (rest := []) (c_X7_setNumber l dC dI ad cI cJ cT (wB ad cI cJ cT) (fun k => k) v1.toNatClampNeg (wBT ad cI cJ cT (x_lt8 h_6)) v2 v2 v4 (1 : Int32) I_5 J hg_7) hfix (cwV 4 hts gX8_near_X7_setNumber rfl rfl rfl (by decide +kernel) ⟨Nat.le_of_ble_eq_true rfl, Nat.le_of_ble_eq_true rfl⟩) hK hP hD hS hA (va_recv hK hP (ci := 6) (q0 := (8 + v1.toNatClampNeg)) rfl (((wBT ad cI cJ cT (x_lt8 h_6))).2.1 I_5 J)) rfl hl.1 rfl (Nat.le_of_ble_eq_true rfl) ⟨Nat.zero_le _, Nat.zero_le _⟩ dX8_near_100 (fun H locs hP hD hS => ?_)
        refine lv_iinc (v := (v4 + (1 : Int32))) (lv' := [(4, .int (v4 + (1 : Int32))), (0, .ref (ad 38)), (1, .int v1), (2, .int v2), (3, .int v3)]) hx hb dX8_near_103 hl (k := 4) rfl (by first | rfl | decide) (by decide) rfl (fun ls hl => ?_)
        refine lv_goto (tgt := 55) hx hb dX8_near_106 (by decide) ?_
        exact ih _ _ _ _ _ hf hP hD hS (lv_sub hl [1, 2, 3, 4, 0] rfl)
  unfold f_X8_near at hf
  refine lv_iload_n hx hb dX8_near_0 rfl (lv_at hl 1 rfl) ?_
  obtain ⟨r_8, hg_8, hf⟩ := bd_some hf
  refine xSi (rest := []) (c_X8_isTable l dC dI ad cI cJ cT p1 I J hg_8) hfix (va_cwS 1 hts gX8_near_X8_isTable rfl rfl rfl (by decide +kernel) ⟨Nat.le_of_ble_eq_true rfl, Nat.le_of_ble_eq_true rfl⟩) hK hP hD hS hA rfl hl.1 rfl (Nat.le_of_ble_eq_true rfl) ⟨Nat.zero_le _, Nat.zero_le _⟩ dX8_near_1 (fun H locs hP hD hS => ?_)
  refine lv_if_eq (tgt := 27) hx hb dX8_near_4 (by decide) (fun c_9 => ?_) (fun c_9 => ?_)
  · have hf := (if_pos c_9).symm.trans hf
    refine lv_bipush (v := (-2 : Int32)) hx hb dX8_near_27 (by decide) ?_
    cases hf
    exact xRi hx hb hr hlocks hK hP hD hS (fun _ h => h) dX8_near_29
  · have hf := (if_neg c_9).symm.trans hf
    refine lv_iload_n hx hb dX8_near_7 rfl (lv_at hl 2 rfl) ?_
    refine lv_iconst (v := (1 : Int32)) hx hb dX8_near_8 (by decide) ?_
    refine lv_icmp_lt (tgt := 27) hx hb dX8_near_9 (by decide) (fun c_10 => ?_) (fun c_10 => ?_)
    · have hf := (if_pos c_10).symm.trans hf
      refine lv_bipush (v := (-2 : Int32)) hx hb dX8_near_27 (by decide) ?_
      cases hf
      exact xRi hx hb hr hlocks hK hP hD hS (fun _ h => h) dX8_near_29
    · have hf := (if_neg c_10).symm.trans hf
      refine lv_iload_n hx hb dX8_near_12 rfl (lv_at hl 2 rfl) ?_
      refine lv_iconst (v := (5 : Int32)) hx hb dX8_near_13 (by decide) ?_
      refine lv_icmp_ge (tgt := 27) hx hb dX8_near_14 (by decide) (fun c_11 => ?_) (fun c_11 => ?_)
      · have hf := (if_pos c_11).symm.trans hf
        refine lv_bipush (v := (-2 : Int32)) hx hb dX8_near_27 (by decide) ?_
        cases hf
        exact xRi hx hb hr hlocks hK hP hD hS (fun _ h => h) dX8_near_29
      · have hf := (if_neg c_11).symm.trans hf
        refine lv_iload_n hx hb dX8_near_17 rfl (lv_at hl 3 rfl) ?_
        refine lv_if_lt (tgt := 27) hx hb dX8_near_18 (by decide) (fun c_12 => ?_) (fun c_12 => ?_)
        · have hf := (if_pos c_12).symm.trans hf
          refine lv_bipush (v := (-2 : Int32)) hx hb dX8_near_27 (by decide) ?_
          cases hf
          exact xRi hx hb hr hlocks hK hP hD hS (fun _ h => h) dX8_near_29
        · have hf := (if_neg c_12).symm.trans hf
          refine lv_iload_n hx hb dX8_near_21 rfl (lv_at hl 3 rfl) ?_
          refine lv_bipush (v := (9 : Int32)) hx hb dX8_near_22 (by decide) ?_
          refine lv_icmp_le (tgt := 30) hx hb dX8_near_24 (by decide) (fun c_13 => ?_) (fun c_13 => ?_)
          · have hf := (if_pos c_13).symm.trans hf
            refine lv_aload_n hx hb dX8_near_30 rfl (lv_at hl 0 rfl) ?_
            refine va_get (D := (dC, dI)) (ci := 7) (v := .ref (ad 37)) (C := RX8) (T := TX8) (N := 10) hx hb hts in_X8 hown hK hP 38 (obB_38 ad cI cJ cT I J) rfl 0 (by decide) wd_0 (fun _ h9 => h9) rfl dX8_near_31 ?_
            refine lv_iload_n hx hb dX8_near_34 rfl (lv_at hl 1 rfl) ?_
            obtain ⟨h_14, hf⟩ := gd_some hf
            refine va_aldq hx hb hK hP 37 2 (aiB_37 ad cI cJ cT I J) rfl h_14 dX8_near_35 ?_
            refine W.eq (g2 := F0 m 36 ls [.ref (ad (8 + p1.toNatClampNeg))]) rfl ?_
            refine lv_iload_n hx hb dX8_near_36 rfl (lv_at hl 2 rfl) ?_
            refine lv_iconst (v := (1 : Int32)) hx hb dX8_near_37 (by decide) ?_
            refine lv_iadd hx hb dX8_near_38 ?_
            obtain ⟨I_15, hg_15, hf⟩ := bd_some hf
            refine xVv (rest := []) (c_X7_reset l dC dI ad cI cJ cT (wB ad cI cJ cT) (fun k => k) p1.toNatClampNeg (wBT ad cI cJ cT (x_lt8 h_14)) (p2 + (1 : Int32)) I J hg_15) hfix (cwV 1 hts gX8_near_X7_reset rfl rfl rfl (by decide +kernel) ⟨Nat.le_of_ble_eq_true rfl, Nat.le_of_ble_eq_true rfl⟩) hK hP hD hS hA (va_recv hK hP (ci := 6) (q0 := (8 + p1.toNatClampNeg)) rfl (((wBT ad cI cJ cT (x_lt8 h_14))).2.1 I J)) rfl hl.1 rfl (Nat.le_of_ble_eq_true rfl) ⟨Nat.zero_le _, Nat.zero_le _⟩ dX8_near_39 (fun H locs hP hD hS => ?_)
            refine lv_aload_n hx hb dX8_near_42 rfl (lv_at hl 0 rfl) ?_
            refine va_get (D := (dC, dI)) (ci := 7) (v := .ref (ad 37)) (C := RX8) (T := TX8) (N := 10) hx hb hts in_X8 hown hK hP 38 (obB_38 ad cI cJ cT I_15 J) rfl 0 (by decide) wd_0 (fun _ h9 => h9) rfl dX8_near_43 ?_
            refine lv_iload_n hx hb dX8_near_46 rfl (lv_at hl 1 rfl) ?_
            obtain ⟨h_16, hf⟩ := gd_some hf
            refine va_aldq hx hb hK hP 37 2 (aiB_37 ad cI cJ cT I_15 J) rfl h_16 dX8_near_47 ?_
            refine W.eq (g2 := F0 m 48 ls [.ref (ad (8 + p1.toNatClampNeg))]) rfl ?_
            refine lv_iload_n hx hb dX8_near_48 rfl (lv_at hl 2 rfl) ?_
            obtain ⟨I_17, hg_17, hf⟩ := bd_some hf
            refine xVv (rest := []) (c_X7_fuseAsGroup l dC dI ad cI cJ cT (wB ad cI cJ cT) (fun k => k) p1.toNatClampNeg (wBT ad cI cJ cT (x_lt8 h_16)) p2 I_15 J hg_17) hfix (cwV 1 hts gX8_near_X7_fuseAsGroup rfl rfl rfl (by decide +kernel) ⟨Nat.le_of_ble_eq_true rfl, Nat.le_of_ble_eq_true rfl⟩) hK hP hD hS hA (va_recv hK hP (ci := 6) (q0 := (8 + p1.toNatClampNeg)) rfl (((wBT ad cI cJ cT (x_lt8 h_16))).2.1 I_15 J)) rfl hl.1 rfl (Nat.le_of_ble_eq_true rfl) ⟨Nat.zero_le _, Nat.zero_le _⟩ dX8_near_49 (fun H locs hP hD hS => ?_)
            refine lv_iconst (v := (0 : Int32)) hx hb dX8_near_52 (by decide) ?_
            refine lv_istore (lv' := [(4, .int (0 : Int32)), (0, .ref (ad 38)), (1, .int p1), (2, .int p2), (3, .int p3)]) hx hb dX8_near_53 hl (by decide) rfl (fun ls hl => ?_)
            obtain ⟨o_18, hg_18, hf⟩ := bd_some hf
            refine L55 _ p1 p2 p3 J o_18 ?_ FU (0 : Int32) I_17 _ _ _ hg_18 hP hD hS (lv_sub hl [1, 2, 3, 4, 0] rfl)
            · intro I_18 H locs ls ho hP hD hS hl
              subst o_18
              refine lv_aload_n hx hb dX8_near_109 rfl (lv_at hl 0 rfl) ?_
              refine va_get (D := (dC, dI)) (ci := 7) (v := .ref (ad 37)) (C := RX8) (T := TX8) (N := 10) hx hb hts in_X8 hown hK hP 38 (obB_38 ad cI cJ cT I_18 J) rfl 0 (by decide) wd_0 (fun _ h9 => h9) rfl dX8_near_110 ?_
              refine lv_iload_n hx hb dX8_near_113 rfl (lv_at hl 1 rfl) ?_
              obtain ⟨h_19, hf⟩ := gd_some hf
              refine va_aldq hx hb hK hP 37 2 (aiB_37 ad cI cJ cT I_18 J) rfl h_19 dX8_near_114 ?_
              refine W.eq (g2 := F0 m 115 ls [.ref (ad (8 + p1.toNatClampNeg))]) rfl ?_
              refine lv_iload_n hx hb dX8_near_115 rfl (lv_at hl 2 rfl) ?_
              refine lv_iload_n hx hb dX8_near_116 rfl (lv_at hl 2 rfl) ?_
              refine lv_iload_n hx hb dX8_near_117 rfl (lv_at hl 2 rfl) ?_
              refine lv_iload_n hx hb dX8_near_118 rfl (lv_at hl 3 rfl) ?_
              obtain ⟨I_20, hg_20, hf⟩ := bd_some hf
              refine xVv (rest := []) (c_X7_setNumber l dC dI ad cI cJ cT (wB ad cI cJ cT) (fun k => k) p1.toNatClampNeg (wBT ad cI cJ cT (x_lt8 h_19)) p2 p2 p2 p3 I_18 J hg_20) hfix (cwV 4 hts gX8_near_X7_setNumber rfl rfl rfl (by decide +kernel) ⟨Nat.le_of_ble_eq_true rfl, Nat.le_of_ble_eq_true rfl⟩) hK hP hD hS hA (va_recv hK hP (ci := 6) (q0 := (8 + p1.toNatClampNeg)) rfl (((wBT ad cI cJ cT (x_lt8 h_19))).2.1 I_18 J)) rfl hl.1 rfl (Nat.le_of_ble_eq_true rfl) ⟨Nat.zero_le _, Nat.zero_le _⟩ dX8_near_119 (fun H locs hP hD hS => ?_)
              refine lv_iconst (v := (1 : Int32)) hx hb dX8_near_122 (by decide) ?_
              cases hf
              exact xRi hx hb hr hlocks hK hP hD hS (fun _ h => h) dX8_near_123
          · have hf := (if_neg c_13).symm.trans hf
            refine lv_bipush (v := (-2 : Int32)) hx hb dX8_near_27 (by decide) ?_
            cases hf
            exact xRi hx hb hr hlocks hK hP hD hS (fun _ h => h) dX8_near_29
set_option maxHeartbeats 4000000 in
set_option maxRecDepth 100000 in
theorem c_X8_together (l : Launch) (dC : Nat → ClassId) (dI : Nat → Nat → Nat) (ad : Nat → Nat) (cI cJ cT : ClassId) (p1 : Int32) (p2 : Int32) (p3 : Int32) (I : SI) (J : SJ) {r0 : Int32} {I0 : SI} (hf : f_X8_together p1 p2 p3 I = some (r0, I0)) : CtI l yX8_together wsX8_together ({ frames := 4, cells := 0, slots := 0, locals := 101 } : Room) (dC, dI) (tys3 cI cJ cT) (wB ad cI cJ cT) [.ref (ad 38), .int p1, .int p2, .int p3] I J r0 I0 J := by
  intro sz
  refine Met.ofW (cc := cX8_together) (maxL := 4) (ret := (some .int)) (by decide) rfl ?_
  intro p e s m args below meth c s₁ B hml hv
  obtain ⟨hargs, hsz, hP, hK, hD0⟩ := hv
  have hx := B.exec
  have hb := B.bytes
  have hr := B.returns
  have hts := atoms_spec (ws := wsX8_together) B.pre
  have hown : s.vm.findClass RX8 = some m.cls := findClass_of_methodNamed B.named
  have hlocks := B.notSynchronized
  subst hsz
  have hD := hD0.self (sz := s.heap.size)
  generalize hAe : va_A ((wB ad cI cJ cT) I J) s.heap.size = A at hD ⊢
  have hA : ∀ q : Nat, s.heap.size ≤ q → A q := fun q h => by rw [← hAe]; exact Or.inr h
  have hS : va_S A s.heap s.heap [] := va_S.rf
  have hl := lv_entry ([.ref (ad 38), .int p1, .int p2, .int p3]) (n := 4) (Nat.le_of_ble_eq_true rfl)
  rw [hargs, lg_entry_eq, ← hargs]
  generalize (lg_sl ([.ref (ad 38), .int p1, .int p2, .int p3]) ++ List.replicate (4 - (lg_sl ([.ref (ad 38), .int p1, .int p2, .int p3])).length) Slot.unset).toArray = ls at hl ⊢
  have hl : lv_has ls 4 [(0, .ref (ad 38)), (1, .int p1), (2, .int p2), (3, .int p3)] := hl
  have hfix : CallFix p m c cX8_together 4 s args wsX8_together RX8 := ⟨hx, hb, hml, hown, hts⟩
  have in_X8 : ∀ w ∈ u_ws RX8 TX8 10, w ∈ wsX8_together := by decide +kernel
  have in_X7 : ∀ w ∈ u_ws RX7 TX7 2, w ∈ wsX8_together := by decide +kernel
  have wd_0 := hts (.fieldLink RX8 11 "FuseBench" "tables" "[LFuseBench$Table;") (by decide +kernel)
  have wd_1 := hts (.fieldLink RX8 111 "FuseBench$Table" "kinds" "I") (by decide +kernel)
  have wd_2 := hts (.fieldLink RX8 16 "FuseBench" "spare" "LFuseBench$Table;") (by decide +kernel)
  unfold f_X8_together at hf
  refine lv_iload_n hx hb dX8_together_0 rfl (lv_at hl 1 rfl) ?_
  obtain ⟨r_1, hg_1, hf⟩ := bd_some hf
  refine xSi (rest := []) (c_X8_isTable l dC dI ad cI cJ cT p1 I J hg_1) hfix (va_cwS 1 hts gX8_together_X8_isTable rfl rfl rfl (by decide +kernel) ⟨Nat.le_of_ble_eq_true rfl, Nat.le_of_ble_eq_true rfl⟩) hK hP hD hS hA rfl hl.1 rfl (Nat.le_of_ble_eq_true rfl) ⟨Nat.zero_le _, Nat.zero_le _⟩ dX8_together_1 (fun H locs hP hD hS => ?_)
  refine lv_if_eq (tgt := 21) hx hb dX8_together_4 (by decide) (fun c_2 => ?_) (fun c_2 => ?_)
  · have hf := (if_pos c_2).symm.trans hf
    refine lv_bipush (v := (-2 : Int32)) hx hb dX8_together_21 (by decide) ?_
    cases hf
    exact xRi hx hb hr hlocks hK hP hD hS (fun _ h => h) dX8_together_23
  · have hf := (if_neg c_2).symm.trans hf
    refine lv_iload_n hx hb dX8_together_7 rfl (lv_at hl 2 rfl) ?_
    obtain ⟨r_3, hg_3, hf⟩ := bd_some hf
    refine xSi (rest := []) (c_X8_isTable l dC dI ad cI cJ cT p2 I J hg_3) hfix (va_cwS 1 hts gX8_together_X8_isTable rfl rfl rfl (by decide +kernel) ⟨Nat.le_of_ble_eq_true rfl, Nat.le_of_ble_eq_true rfl⟩) hK hP hD hS hA rfl hl.1 rfl (Nat.le_of_ble_eq_true rfl) ⟨Nat.zero_le _, Nat.zero_le _⟩ dX8_together_8 (fun H locs hP hD hS => ?_)
    refine lv_if_eq (tgt := 21) hx hb dX8_together_11 (by decide) (fun c_4 => ?_) (fun c_4 => ?_)
    · have hf := (if_pos c_4).symm.trans hf
      refine lv_bipush (v := (-2 : Int32)) hx hb dX8_together_21 (by decide) ?_
      cases hf
      exact xRi hx hb hr hlocks hK hP hD hS (fun _ h => h) dX8_together_23
    · have hf := (if_neg c_4).symm.trans hf
      refine lv_iload_n hx hb dX8_together_14 rfl (lv_at hl 3 rfl) ?_
      obtain ⟨r_5, hg_5, hf⟩ := bd_some hf
      refine xSi (rest := []) (c_X8_isTable l dC dI ad cI cJ cT p3 I J hg_5) hfix (va_cwS 1 hts gX8_together_X8_isTable rfl rfl rfl (by decide +kernel) ⟨Nat.le_of_ble_eq_true rfl, Nat.le_of_ble_eq_true rfl⟩) hK hP hD hS hA rfl hl.1 rfl (Nat.le_of_ble_eq_true rfl) ⟨Nat.zero_le _, Nat.zero_le _⟩ dX8_together_15 (fun H locs hP hD hS => ?_)
      refine lv_if_ne (tgt := 24) hx hb dX8_together_18 (by decide) (fun c_6 => ?_) (fun c_6 => ?_)
      · have hf := (if_neg c_6).symm.trans hf
        refine lv_aload_n hx hb dX8_together_24 rfl (lv_at hl 0 rfl) ?_
        refine va_get (D := (dC, dI)) (ci := 7) (v := .ref (ad 37)) (C := RX8) (T := TX8) (N := 10) hx hb hts in_X8 hown hK hP 38 (obB_38 ad cI cJ cT I J) rfl 0 (by decide) wd_0 (fun _ h9 => h9) rfl dX8_together_25 ?_
        refine lv_iload_n hx hb dX8_together_28 rfl (lv_at hl 1 rfl) ?_
        obtain ⟨h_7, hf⟩ := gd_some hf
        refine va_aldq hx hb hK hP 37 2 (aiB_37 ad cI cJ cT I J) rfl h_7 dX8_together_29 ?_
        refine W.eq (g2 := F0 m 30 ls [.ref (ad (8 + p1.toNatClampNeg))]) rfl ?_
        refine va_get (D := (dC, dI)) (ci := 6) (v := .int (I (8 + p1.toNatClampNeg) 0)) (C := RX7) (T := TX7) (N := 2) hx hb hts in_X7 hown hK hP (8 + p1.toNatClampNeg) (((wBT ad cI cJ cT (x_lt8 h_7))).2.1 I J) rfl 1 (by decide) wd_1 (fun _ h9 => h9) rfl dX8_together_30 ?_
        refine lv_aload_n hx hb dX8_together_33 rfl (lv_at hl 0 rfl) ?_
        refine va_get (D := (dC, dI)) (ci := 7) (v := .ref (ad 37)) (C := RX8) (T := TX8) (N := 10) hx hb hts in_X8 hown hK hP 38 (obB_38 ad cI cJ cT I J) rfl 0 (by decide) wd_0 (fun _ h9 => h9) rfl dX8_together_34 ?_
        refine lv_iload_n hx hb dX8_together_37 rfl (lv_at hl 2 rfl) ?_
        obtain ⟨h_8, hf⟩ := gd_some hf
        refine va_aldq hx hb hK hP 37 2 (aiB_37 ad cI cJ cT I J) rfl h_8 dX8_together_38 ?_
        refine W.eq (g2 := F0 m 39 ls [.ref (ad (8 + p2.toNatClampNeg)), .int (I (8 + p1.toNatClampNeg) 0)]) rfl ?_
        refine va_get (D := (dC, dI)) (ci := 6) (v := .int (I (8 + p2.toNatClampNeg) 0)) (C := RX7) (T := TX7) (N := 2) hx hb hts in_X7 hown hK hP (8 + p2.toNatClampNeg) (((wBT ad cI cJ cT (x_lt8 h_8))).2.1 I J) rfl 1 (by decide) wd_1 (fun _ h9 => h9) rfl dX8_together_39 ?_
        refine lv_imul hx hb dX8_together_42 ?_
        refine lv_iconst (v := (5 : Int32)) hx hb dX8_together_43 (by decide) ?_
        refine lv_icmp_le (tgt := 50) hx hb dX8_together_44 (by decide) (fun c_9 => ?_) (fun c_9 => ?_)
        · have hf := (if_pos c_9).symm.trans hf
          refine lv_aload_n hx hb dX8_together_50 rfl (lv_at hl 0 rfl) ?_
          refine va_get (D := (dC, dI)) (ci := 7) (v := .ref (ad (8 + 6))) (C := RX8) (T := TX8) (N := 10) hx hb hts in_X8 hown hK hP 38 (obB_38 ad cI cJ cT I J) rfl 1 (by decide) wd_2 (fun _ h9 => h9) rfl dX8_together_51 ?_
          refine lv_aload_n hx hb dX8_together_54 rfl (lv_at hl 0 rfl) ?_
          refine va_get (D := (dC, dI)) (ci := 7) (v := .ref (ad 37)) (C := RX8) (T := TX8) (N := 10) hx hb hts in_X8 hown hK hP 38 (obB_38 ad cI cJ cT I J) rfl 0 (by decide) wd_0 (fun _ h9 => h9) rfl dX8_together_55 ?_
          refine lv_iload_n hx hb dX8_together_58 rfl (lv_at hl 1 rfl) ?_
          obtain ⟨h_10, hf⟩ := gd_some hf
          refine va_aldq hx hb hK hP 37 2 (aiB_37 ad cI cJ cT I J) rfl h_10 dX8_together_59 ?_
          refine W.eq (g2 := F0 m 60 ls [.ref (ad (8 + p1.toNatClampNeg)), .ref (ad (8 + 6))]) rfl ?_
          refine lv_aload_n hx hb dX8_together_60 rfl (lv_at hl 0 rfl) ?_
          refine va_get (D := (dC, dI)) (ci := 7) (v := .ref (ad 37)) (C := RX8) (T := TX8) (N := 10) hx hb hts in_X8 hown hK hP 38 (obB_38 ad cI cJ cT I J) rfl 0 (by decide) wd_0 (fun _ h9 => h9) rfl dX8_together_61 ?_
          refine lv_iload_n hx hb dX8_together_64 rfl (lv_at hl 2 rfl) ?_
          obtain ⟨h_11, hf⟩ := gd_some hf
          refine va_aldq hx hb hK hP 37 2 (aiB_37 ad cI cJ cT I J) rfl h_11 dX8_together_65 ?_
          refine W.eq (g2 := F0 m 66 ls [.ref (ad (8 + p2.toNatClampNeg)), .ref (ad (8 + p1.toNatClampNeg)), .ref (ad (8 + 6))]) rfl ?_
          obtain ⟨⟨r_12, I_12⟩, hg_12, hf⟩ := bd_some hf
          refine xVi (rest := []) (c_X7_becomeProduct l dC dI ad cI cJ cT (wB ad cI cJ cT) (fun k => k) 6 (wBT ad cI cJ cT (by decide)) p1.toNatClampNeg (wBT ad cI cJ cT (x_lt8 h_10)) p2.toNatClampNeg (wBT ad cI cJ cT (x_lt8 h_11)) I J hg_12) hfix (cwV 2 hts gX8_together_X7_becomeProduct rfl rfl rfl (by decide +kernel) ⟨Nat.le_of_ble_eq_true rfl, Nat.le_of_ble_eq_true rfl⟩) hK hP hD hS hA (va_recv hK hP (ci := 6) (q0 := (8 + 6)) rfl (((wBT ad cI cJ cT (by decide))).2.1 I J)) rfl hl.1 rfl (Nat.le_of_ble_eq_true rfl) ⟨Nat.zero_le _, Nat.zero_le _⟩ dX8_together_66 (fun H locs hP hD hS => ?_)
          refine lv_if_ne (tgt := 75) hx hb dX8_together_69 (by decide) (fun c_13 => ?_) (fun c_13 => ?_)
          · have hf := (if_neg c_13).symm.trans hf
            refine lv_aload_n hx hb dX8_together_75 rfl (lv_at hl 0 rfl) ?_
            refine va_get (D := (dC, dI)) (ci := 7) (v := .ref (ad 37)) (C := RX8) (T := TX8) (N := 10) hx hb hts in_X8 hown hK hP 38 (obB_38 ad cI cJ cT I_12 J) rfl 0 (by decide) wd_0 (fun _ h9 => h9) rfl dX8_together_76 ?_
            refine lv_iload_n hx hb dX8_together_79 rfl (lv_at hl 3 rfl) ?_
            obtain ⟨h_14, hf⟩ := gd_some hf
            refine va_aldq hx hb hK hP 37 2 (aiB_37 ad cI cJ cT I_12 J) rfl h_14 dX8_together_80 ?_
            refine W.eq (g2 := F0 m 81 ls [.ref (ad (8 + p3.toNatClampNeg))]) rfl ?_
            refine lv_aload_n hx hb dX8_together_81 rfl (lv_at hl 0 rfl) ?_
            refine va_get (D := (dC, dI)) (ci := 7) (v := .ref (ad (8 + 6))) (C := RX8) (T := TX8) (N := 10) hx hb hts in_X8 hown hK hP 38 (obB_38 ad cI cJ cT I_12 J) rfl 1 (by decide) wd_2 (fun _ h9 => h9) rfl dX8_together_82 ?_
            obtain ⟨I_15, hg_15, hf⟩ := bd_some hf
            refine xVv (rest := []) (c_X7_become l dC dI ad cI cJ cT (wB ad cI cJ cT) (fun k => k) p3.toNatClampNeg (wBT ad cI cJ cT (x_lt8 h_14)) 6 (wBT ad cI cJ cT (by decide)) I_12 J hg_15) hfix (cwV 1 hts gX8_together_X7_become rfl rfl rfl (by decide +kernel) ⟨Nat.le_of_ble_eq_true rfl, Nat.le_of_ble_eq_true rfl⟩) hK hP hD hS hA (va_recv hK hP (ci := 6) (q0 := (8 + p3.toNatClampNeg)) rfl (((wBT ad cI cJ cT (x_lt8 h_14))).2.1 I_12 J)) rfl hl.1 rfl (Nat.le_of_ble_eq_true rfl) ⟨Nat.zero_le _, Nat.zero_le _⟩ dX8_together_85 (fun H locs hP hD hS => ?_)
            refine lv_aload_n hx hb dX8_together_88 rfl (lv_at hl 0 rfl) ?_
            refine va_get (D := (dC, dI)) (ci := 7) (v := .ref (ad (8 + 6))) (C := RX8) (T := TX8) (N := 10) hx hb hts in_X8 hown hK hP 38 (obB_38 ad cI cJ cT I_15 J) rfl 1 (by decide) wd_2 (fun _ h9 => h9) rfl dX8_together_89 ?_
            refine va_get (D := (dC, dI)) (ci := 6) (v := .int (I_15 (8 + 6) 0)) (C := RX7) (T := TX7) (N := 2) hx hb hts in_X7 hown hK hP (8 + 6) (((wBT ad cI cJ cT (by decide))).2.1 I_15 J) rfl 1 (by decide) wd_1 (fun _ h9 => h9) rfl dX8_together_92 ?_
            cases hf
            exact xRi hx hb hr hlocks hK hP hD hS (fun _ h => h) dX8_together_95
          · have hf := (if_pos c_13).symm.trans hf
            refine lv_bipush (v := (-3 : Int32)) hx hb dX8_together_72 (by decide) ?_
            cases hf
            exact xRi hx hb hr hlocks hK hP hD hS (fun _ h => h) dX8_together_74
        · have hf := (if_neg c_9).symm.trans hf
          refine lv_bipush (v := (-3 : Int32)) hx hb dX8_together_47 (by decide) ?_
          cases hf
          exact xRi hx hb hr hlocks hK hP hD hS (fun _ h => h) dX8_together_49
      · have hf := (if_pos c_6).symm.trans hf
        refine lv_bipush (v := (-2 : Int32)) hx hb dX8_together_21 (by decide) ?_
        cases hf
        exact xRi hx hb hr hlocks hK hP hD hS (fun _ h => h) dX8_together_23
set_option maxHeartbeats 4000000 in
set_option maxRecDepth 100000 in
theorem c_X8_isListed (l : Launch) (dC : Nat → ClassId) (dI : Nat → Nat → Nat) (ad : Nat → Nat) (cI cJ cT : ClassId) (p0 : Int32) (p1 : Int32) (p2 : Int32) (I : SI) (J : SJ) {r0 : Int32} (hf : f_X8_isListed p0 p1 p2 = some r0) : CtI l yX8_isListed wsX8_isListed ({ frames := 0, cells := 0, slots := 0, locals := 0 } : Room) (dC, dI) (tys3 cI cJ cT) (wB ad cI cJ cT) [.int p0, .int p1, .int p2] I J r0 I J := by
  intro sz
  refine Met.ofW (cc := cX8_isListed) (maxL := 5) (ret := (some .boolean)) (by decide) rfl ?_
  intro p e s m args below meth c s₁ B hml hv
  obtain ⟨hargs, hsz, hP, hK, hD0⟩ := hv
  have hx := B.exec
  have hb := B.bytes
  have hr := B.returns
  have hts := atoms_spec (ws := wsX8_isListed) B.pre
  have hown : s.vm.findClass RX8 = some m.cls := findClass_of_methodNamed B.named
  have hlocks := B.notSynchronized
  subst hsz
  have hD := hD0.self (sz := s.heap.size)
  generalize hAe : va_A ((wB ad cI cJ cT) I J) s.heap.size = A at hD ⊢
  have hA : ∀ q : Nat, s.heap.size ≤ q → A q := fun q h => by rw [← hAe]; exact Or.inr h
  have hS : va_S A s.heap s.heap [] := va_S.rf
  have hl := lv_entry ([.int p0, .int p1, .int p2]) (n := 5) (Nat.le_of_ble_eq_true rfl)
  rw [hargs, lg_entry_eq, ← hargs]
  generalize (lg_sl ([.int p0, .int p1, .int p2]) ++ List.replicate (5 - (lg_sl ([.int p0, .int p1, .int p2])).length) Slot.unset).toArray = ls at hl ⊢
  have hl : lv_has ls 5 [(0, .int p0), (1, .int p1), (2, .int p2)] := hl
  have hfix : CallFix p m c cX8_isListed 5 s args wsX8_isListed RX8 := ⟨hx, hb, hml, hown, hts⟩
  unfold f_X8_isListed at hf
  refine lv_iload_n hx hb dX8_isListed_0 rfl (lv_at hl 0 rfl) ?_
  refine lv_iconst (v := (4 : Int32)) hx hb dX8_isListed_1 (by decide) ?_
  refine lv_icmp_ne (tgt := 9) hx hb dX8_isListed_2 (by decide) (fun c_1 => ?_) (fun c_1 => ?_)
  · have hf := (if_neg c_1).symm.trans hf
    refine lv_iconst (v := (3 : Int32)) hx hb dX8_isListed_9 (by decide) ?_
    refine lv_istore_n (lv' := [(3, .int (3 : Int32)), (0, .int p0), (1, .int p1), (2, .int p2)]) hx hb dX8_isListed_10 rfl hl (by decide) rfl (fun ls hl => ?_)
    refine lv_iload_n hx hb dX8_isListed_11 rfl (lv_at hl 1 rfl) ?_
    refine lv_iconst (v := (2 : Int32)) hx hb dX8_isListed_12 (by decide) ?_
    refine lv_icmp_ne (tgt := 20) hx hb dX8_isListed_13 (by decide) (fun c_2 => ?_) (fun c_2 => ?_)
    · have hf := (if_neg c_2).symm.trans hf
      refine lv_iconst (v := (1 : Int32)) hx hb dX8_isListed_20 (by decide) ?_
      refine lv_istore (lv' := [(4, .int (1 : Int32)), (3, .int (3 : Int32)), (0, .int p0), (1, .int p1), (2, .int p2)]) hx hb dX8_isListed_21 hl (by decide) rfl (fun ls hl => ?_)
      refine lv_iload_n hx hb dX8_isListed_23 rfl (lv_at hl 2 rfl) ?_
      refine lv_iconst (v := (2 : Int32)) hx hb dX8_isListed_24 (by decide) ?_
      refine lv_icmp_lt (tgt := 57) hx hb dX8_isListed_25 (by decide) (fun c_3 => ?_) (fun c_3 => ?_)
      · have hf := (if_pos c_3).symm.trans hf
        refine lv_iconst (v := (0 : Int32)) hx hb dX8_isListed_57 (by decide) ?_
        cases hf
        exact xRz hx hb hr hlocks rfl hK hP hD hS (fun _ h => h) dX8_isListed_58
      · have hf := (if_neg c_3).symm.trans hf
        refine lv_iload_n hx hb dX8_isListed_28 rfl (lv_at hl 2 rfl) ?_
        refine lv_iconst (v := (4 : Int32)) hx hb dX8_isListed_29 (by decide) ?_
        refine lv_icmp_gt (tgt := 57) hx hb dX8_isListed_30 (by decide) (fun c_4 => ?_) (fun c_4 => ?_)
        · have hf := (if_pos c_4).symm.trans hf
          refine lv_iconst (v := (0 : Int32)) hx hb dX8_isListed_57 (by decide) ?_
          cases hf
          exact xRz hx hb hr hlocks rfl hK hP hD hS (fun _ h => h) dX8_isListed_58
        · have hf := (if_neg c_4).symm.trans hf
          refine lv_iload_n hx hb dX8_isListed_33 rfl (lv_at hl 3 rfl) ?_
          refine lv_iconst (v := (1 : Int32)) hx hb dX8_isListed_34 (by decide) ?_
          refine lv_icmp_lt (tgt := 57) hx hb dX8_isListed_35 (by decide) (fun c_5 => ?_) (fun c_5 => ?_)
          · have hf := (if_pos c_5).symm.trans hf
            refine lv_iconst (v := (0 : Int32)) hx hb dX8_isListed_57 (by decide) ?_
            cases hf
            exact xRz hx hb hr hlocks rfl hK hP hD hS (fun _ h => h) dX8_isListed_58
          · have hf := (if_neg c_5).symm.trans hf
            refine lv_iload_n hx hb dX8_isListed_38 rfl (lv_at hl 3 rfl) ?_
            refine lv_iload_n hx hb dX8_isListed_39 rfl (lv_at hl 1 rfl) ?_
            refine lv_icmp_gt (tgt := 57) hx hb dX8_isListed_40 (by decide) (fun c_6 => ?_) (fun c_6 => ?_)
            · have hf := (if_pos c_6).symm.trans hf
              refine lv_iconst (v := (0 : Int32)) hx hb dX8_isListed_57 (by decide) ?_
              cases hf
              exact xRz hx hb hr hlocks rfl hK hP hD hS (fun _ h => h) dX8_isListed_58
            · have hf := (if_neg c_6).symm.trans hf
              refine lv_iload_n hx hb dX8_isListed_43 rfl (lv_at hl 4 rfl) ?_
              refine lv_if_lt (tgt := 57) hx hb dX8_isListed_44 (by decide) (fun c_7 => ?_) (fun c_7 => ?_)
              · have hf := (if_pos c_7).symm.trans hf
                refine lv_iconst (v := (0 : Int32)) hx hb dX8_isListed_57 (by decide) ?_
                cases hf
                exact xRz hx hb hr hlocks rfl hK hP hD hS (fun _ h => h) dX8_isListed_58
              · have hf := (if_neg c_7).symm.trans hf
                refine lv_iload_n hx hb dX8_isListed_47 rfl (lv_at hl 4 rfl) ?_
                refine lv_iload hx hb dX8_isListed_48 (lv_at hl 0 rfl) ?_
                refine lv_icmp_gt (tgt := 57) hx hb dX8_isListed_50 (by decide) (fun c_8 => ?_) (fun c_8 => ?_)
                · have hf := (if_pos c_8).symm.trans hf
                  refine lv_iconst (v := (0 : Int32)) hx hb dX8_isListed_57 (by decide) ?_
                  cases hf
                  exact xRz hx hb hr hlocks rfl hK hP hD hS (fun _ h => h) dX8_isListed_58
                · have hf := (if_neg c_8).symm.trans hf
                  refine lv_iconst (v := (1 : Int32)) hx hb dX8_isListed_53 (by decide) ?_
                  refine lv_goto (tgt := 58) hx hb dX8_isListed_54 (by decide) ?_
                  cases hf
                  exact xRz hx hb hr hlocks rfl hK hP hD hS (fun _ h => h) dX8_isListed_58
    · have hf := (if_pos c_2).symm.trans hf
      refine lv_iconst (v := (0 : Int32)) hx hb dX8_isListed_16 (by decide) ?_
      refine lv_goto (tgt := 21) hx hb dX8_isListed_17 (by decide) ?_
      refine lv_istore (lv' := [(4, .int (0 : Int32)), (3, .int (3 : Int32)), (0, .int p0), (1, .int p1), (2, .int p2)]) hx hb dX8_isListed_21 hl (by decide) rfl (fun ls hl => ?_)
      refine lv_iload_n hx hb dX8_isListed_23 rfl (lv_at hl 2 rfl) ?_
      refine lv_iconst (v := (2 : Int32)) hx hb dX8_isListed_24 (by decide) ?_
      refine lv_icmp_lt (tgt := 57) hx hb dX8_isListed_25 (by decide) (fun c_9 => ?_) (fun c_9 => ?_)
      · have hf := (if_pos c_9).symm.trans hf
        refine lv_iconst (v := (0 : Int32)) hx hb dX8_isListed_57 (by decide) ?_
        cases hf
        exact xRz hx hb hr hlocks rfl hK hP hD hS (fun _ h => h) dX8_isListed_58
      · have hf := (if_neg c_9).symm.trans hf
        refine lv_iload_n hx hb dX8_isListed_28 rfl (lv_at hl 2 rfl) ?_
        refine lv_iconst (v := (4 : Int32)) hx hb dX8_isListed_29 (by decide) ?_
        refine lv_icmp_gt (tgt := 57) hx hb dX8_isListed_30 (by decide) (fun c_10 => ?_) (fun c_10 => ?_)
        · have hf := (if_pos c_10).symm.trans hf
          refine lv_iconst (v := (0 : Int32)) hx hb dX8_isListed_57 (by decide) ?_
          cases hf
          exact xRz hx hb hr hlocks rfl hK hP hD hS (fun _ h => h) dX8_isListed_58
        · have hf := (if_neg c_10).symm.trans hf
          refine lv_iload_n hx hb dX8_isListed_33 rfl (lv_at hl 3 rfl) ?_
          refine lv_iconst (v := (1 : Int32)) hx hb dX8_isListed_34 (by decide) ?_
          refine lv_icmp_lt (tgt := 57) hx hb dX8_isListed_35 (by decide) (fun c_11 => ?_) (fun c_11 => ?_)
          · have hf := (if_pos c_11).symm.trans hf
            refine lv_iconst (v := (0 : Int32)) hx hb dX8_isListed_57 (by decide) ?_
            cases hf
            exact xRz hx hb hr hlocks rfl hK hP hD hS (fun _ h => h) dX8_isListed_58
          · have hf := (if_neg c_11).symm.trans hf
            refine lv_iload_n hx hb dX8_isListed_38 rfl (lv_at hl 3 rfl) ?_
            refine lv_iload_n hx hb dX8_isListed_39 rfl (lv_at hl 1 rfl) ?_
            refine lv_icmp_gt (tgt := 57) hx hb dX8_isListed_40 (by decide) (fun c_12 => ?_) (fun c_12 => ?_)
            · have hf := (if_pos c_12).symm.trans hf
              refine lv_iconst (v := (0 : Int32)) hx hb dX8_isListed_57 (by decide) ?_
              cases hf
              exact xRz hx hb hr hlocks rfl hK hP hD hS (fun _ h => h) dX8_isListed_58
            · have hf := (if_neg c_12).symm.trans hf
              refine lv_iload_n hx hb dX8_isListed_43 rfl (lv_at hl 4 rfl) ?_
              refine lv_if_lt (tgt := 57) hx hb dX8_isListed_44 (by decide) (fun c_13 => ?_) (fun c_13 => ?_)
              · have hf := (if_pos c_13).symm.trans hf
                refine lv_iconst (v := (0 : Int32)) hx hb dX8_isListed_57 (by decide) ?_
                cases hf
                exact xRz hx hb hr hlocks rfl hK hP hD hS (fun _ h => h) dX8_isListed_58
              · have hf := (if_neg c_13).symm.trans hf
                refine lv_iload_n hx hb dX8_isListed_47 rfl (lv_at hl 4 rfl) ?_
                refine lv_iload hx hb dX8_isListed_48 (lv_at hl 0 rfl) ?_
                refine lv_icmp_gt (tgt := 57) hx hb dX8_isListed_50 (by decide) (fun c_14 => ?_) (fun c_14 => ?_)
                · have hf := (if_pos c_14).symm.trans hf
                  refine lv_iconst (v := (0 : Int32)) hx hb dX8_isListed_57 (by decide) ?_
                  cases hf
                  exact xRz hx hb hr hlocks rfl hK hP hD hS (fun _ h => h) dX8_isListed_58
                · have hf := (if_neg c_14).symm.trans hf
                  refine lv_iconst (v := (1 : Int32)) hx hb dX8_isListed_53 (by decide) ?_
                  refine lv_goto (tgt := 58) hx hb dX8_isListed_54 (by decide) ?_
                  cases hf
                  exact xRz hx hb hr hlocks rfl hK hP hD hS (fun _ h => h) dX8_isListed_58
  · have hf := (if_pos c_1).symm.trans hf
    refine lv_iconst (v := (1 : Int32)) hx hb dX8_isListed_5 (by decide) ?_
    refine lv_goto (tgt := 10) hx hb dX8_isListed_6 (by decide) ?_
    refine lv_istore_n (lv' := [(3, .int (1 : Int32)), (0, .int p0), (1, .int p1), (2, .int p2)]) hx hb dX8_isListed_10 rfl hl (by decide) rfl (fun ls hl => ?_)
    refine lv_iload_n hx hb dX8_isListed_11 rfl (lv_at hl 1 rfl) ?_
    refine lv_iconst (v := (2 : Int32)) hx hb dX8_isListed_12 (by decide) ?_
    refine lv_icmp_ne (tgt := 20) hx hb dX8_isListed_13 (by decide) (fun c_15 => ?_) (fun c_15 => ?_)
    · have hf := (if_neg c_15).symm.trans hf
      refine lv_iconst (v := (1 : Int32)) hx hb dX8_isListed_20 (by decide) ?_
      refine lv_istore (lv' := [(4, .int (1 : Int32)), (3, .int (1 : Int32)), (0, .int p0), (1, .int p1), (2, .int p2)]) hx hb dX8_isListed_21 hl (by decide) rfl (fun ls hl => ?_)
      refine lv_iload_n hx hb dX8_isListed_23 rfl (lv_at hl 2 rfl) ?_
      refine lv_iconst (v := (2 : Int32)) hx hb dX8_isListed_24 (by decide) ?_
      refine lv_icmp_lt (tgt := 57) hx hb dX8_isListed_25 (by decide) (fun c_16 => ?_) (fun c_16 => ?_)
      · have hf := (if_pos c_16).symm.trans hf
        refine lv_iconst (v := (0 : Int32)) hx hb dX8_isListed_57 (by decide) ?_
        cases hf
        exact xRz hx hb hr hlocks rfl hK hP hD hS (fun _ h => h) dX8_isListed_58
      · have hf := (if_neg c_16).symm.trans hf
        refine lv_iload_n hx hb dX8_isListed_28 rfl (lv_at hl 2 rfl) ?_
        refine lv_iconst (v := (4 : Int32)) hx hb dX8_isListed_29 (by decide) ?_
        refine lv_icmp_gt (tgt := 57) hx hb dX8_isListed_30 (by decide) (fun c_17 => ?_) (fun c_17 => ?_)
        · have hf := (if_pos c_17).symm.trans hf
          refine lv_iconst (v := (0 : Int32)) hx hb dX8_isListed_57 (by decide) ?_
          cases hf
          exact xRz hx hb hr hlocks rfl hK hP hD hS (fun _ h => h) dX8_isListed_58
        · have hf := (if_neg c_17).symm.trans hf
          refine lv_iload_n hx hb dX8_isListed_33 rfl (lv_at hl 3 rfl) ?_
          refine lv_iconst (v := (1 : Int32)) hx hb dX8_isListed_34 (by decide) ?_
          refine lv_icmp_lt (tgt := 57) hx hb dX8_isListed_35 (by decide) (fun c_18 => ?_) (fun c_18 => ?_)
          · have hf := (if_pos c_18).symm.trans hf
            refine lv_iconst (v := (0 : Int32)) hx hb dX8_isListed_57 (by decide) ?_
            cases hf
            exact xRz hx hb hr hlocks rfl hK hP hD hS (fun _ h => h) dX8_isListed_58
          · have hf := (if_neg c_18).symm.trans hf
            refine lv_iload_n hx hb dX8_isListed_38 rfl (lv_at hl 3 rfl) ?_
            refine lv_iload_n hx hb dX8_isListed_39 rfl (lv_at hl 1 rfl) ?_
            refine lv_icmp_gt (tgt := 57) hx hb dX8_isListed_40 (by decide) (fun c_19 => ?_) (fun c_19 => ?_)
            · have hf := (if_pos c_19).symm.trans hf
              refine lv_iconst (v := (0 : Int32)) hx hb dX8_isListed_57 (by decide) ?_
              cases hf
              exact xRz hx hb hr hlocks rfl hK hP hD hS (fun _ h => h) dX8_isListed_58
            · have hf := (if_neg c_19).symm.trans hf
              refine lv_iload_n hx hb dX8_isListed_43 rfl (lv_at hl 4 rfl) ?_
              refine lv_if_lt (tgt := 57) hx hb dX8_isListed_44 (by decide) (fun c_20 => ?_) (fun c_20 => ?_)
              · have hf := (if_pos c_20).symm.trans hf
                refine lv_iconst (v := (0 : Int32)) hx hb dX8_isListed_57 (by decide) ?_
                cases hf
                exact xRz hx hb hr hlocks rfl hK hP hD hS (fun _ h => h) dX8_isListed_58
              · have hf := (if_neg c_20).symm.trans hf
                refine lv_iload_n hx hb dX8_isListed_47 rfl (lv_at hl 4 rfl) ?_
                refine lv_iload hx hb dX8_isListed_48 (lv_at hl 0 rfl) ?_
                refine lv_icmp_gt (tgt := 57) hx hb dX8_isListed_50 (by decide) (fun c_21 => ?_) (fun c_21 => ?_)
                · have hf := (if_pos c_21).symm.trans hf
                  refine lv_iconst (v := (0 : Int32)) hx hb dX8_isListed_57 (by decide) ?_
                  cases hf
                  exact xRz hx hb hr hlocks rfl hK hP hD hS (fun _ h => h) dX8_isListed_58
                · have hf := (if_neg c_21).symm.trans hf
                  refine lv_iconst (v := (1 : Int32)) hx hb dX8_isListed_53 (by decide) ?_
                  refine lv_goto (tgt := 58) hx hb dX8_isListed_54 (by decide) ?_
                  cases hf
                  exact xRz hx hb hr hlocks rfl hK hP hD hS (fun _ h => h) dX8_isListed_58
    · have hf := (if_pos c_15).symm.trans hf
      refine lv_iconst (v := (0 : Int32)) hx hb dX8_isListed_16 (by decide) ?_
      refine lv_goto (tgt := 21) hx hb dX8_isListed_17 (by decide) ?_
      refine lv_istore (lv' := [(4, .int (0 : Int32)), (3, .int (1 : Int32)), (0, .int p0), (1, .int p1), (2, .int p2)]) hx hb dX8_isListed_21 hl (by decide) rfl (fun ls hl => ?_)
      refine lv_iload_n hx hb dX8_isListed_23 rfl (lv_at hl 2 rfl) ?_
      refine lv_iconst (v := (2 : Int32)) hx hb dX8_isListed_24 (by decide) ?_
      refine lv_icmp_lt (tgt := 57) hx hb dX8_isListed_25 (by decide) (fun c_22 => ?_) (fun c_22 => ?_)
      · have hf := (if_pos c_22).symm.trans hf
        refine lv_iconst (v := (0 : Int32)) hx hb dX8_isListed_57 (by decide) ?_
        cases hf
        exact xRz hx hb hr hlocks rfl hK hP hD hS (fun _ h => h) dX8_isListed_58
      · have hf := (if_neg c_22).symm.trans hf
        refine lv_iload_n hx hb dX8_isListed_28 rfl (lv_at hl 2 rfl) ?_
        refine lv_iconst (v := (4 : Int32)) hx hb dX8_isListed_29 (by decide) ?_
        refine lv_icmp_gt (tgt := 57) hx hb dX8_isListed_30 (by decide) (fun c_23 => ?_) (fun c_23 => ?_)
        · have hf := (if_pos c_23).symm.trans hf
          refine lv_iconst (v := (0 : Int32)) hx hb dX8_isListed_57 (by decide) ?_
          cases hf
          exact xRz hx hb hr hlocks rfl hK hP hD hS (fun _ h => h) dX8_isListed_58
        · have hf := (if_neg c_23).symm.trans hf
          refine lv_iload_n hx hb dX8_isListed_33 rfl (lv_at hl 3 rfl) ?_
          refine lv_iconst (v := (1 : Int32)) hx hb dX8_isListed_34 (by decide) ?_
          refine lv_icmp_lt (tgt := 57) hx hb dX8_isListed_35 (by decide) (fun c_24 => ?_) (fun c_24 => ?_)
          · have hf := (if_pos c_24).symm.trans hf
            refine lv_iconst (v := (0 : Int32)) hx hb dX8_isListed_57 (by decide) ?_
            cases hf
            exact xRz hx hb hr hlocks rfl hK hP hD hS (fun _ h => h) dX8_isListed_58
          · have hf := (if_neg c_24).symm.trans hf
            refine lv_iload_n hx hb dX8_isListed_38 rfl (lv_at hl 3 rfl) ?_
            refine lv_iload_n hx hb dX8_isListed_39 rfl (lv_at hl 1 rfl) ?_
            refine lv_icmp_gt (tgt := 57) hx hb dX8_isListed_40 (by decide) (fun c_25 => ?_) (fun c_25 => ?_)
            · have hf := (if_pos c_25).symm.trans hf
              refine lv_iconst (v := (0 : Int32)) hx hb dX8_isListed_57 (by decide) ?_
              cases hf
              exact xRz hx hb hr hlocks rfl hK hP hD hS (fun _ h => h) dX8_isListed_58
            · have hf := (if_neg c_25).symm.trans hf
              refine lv_iload_n hx hb dX8_isListed_43 rfl (lv_at hl 4 rfl) ?_
              refine lv_if_lt (tgt := 57) hx hb dX8_isListed_44 (by decide) (fun c_26 => ?_) (fun c_26 => ?_)
              · have hf := (if_pos c_26).symm.trans hf
                refine lv_iconst (v := (0 : Int32)) hx hb dX8_isListed_57 (by decide) ?_
                cases hf
                exact xRz hx hb hr hlocks rfl hK hP hD hS (fun _ h => h) dX8_isListed_58
              · have hf := (if_neg c_26).symm.trans hf
                refine lv_iload_n hx hb dX8_isListed_47 rfl (lv_at hl 4 rfl) ?_
                refine lv_iload hx hb dX8_isListed_48 (lv_at hl 0 rfl) ?_
                refine lv_icmp_gt (tgt := 57) hx hb dX8_isListed_50 (by decide) (fun c_27 => ?_) (fun c_27 => ?_)
                · have hf := (if_pos c_27).symm.trans hf
                  refine lv_iconst (v := (0 : Int32)) hx hb dX8_isListed_57 (by decide) ?_
                  cases hf
                  exact xRz hx hb hr hlocks rfl hK hP hD hS (fun _ h => h) dX8_isListed_58
                · have hf := (if_neg c_27).symm.trans hf
                  refine lv_iconst (v := (1 : Int32)) hx hb dX8_isListed_53 (by decide) ?_
                  refine lv_goto (tgt := 58) hx hb dX8_isListed_54 (by decide) ?_
                  cases hf
                  exact xRz hx hb hr hlocks rfl hK hP hD hS (fun _ h => h) dX8_isListed_58
set_option maxHeartbeats 4000000 in
set_option maxRecDepth 100000 in
theorem c_X8_list (l : Launch) (dC : Nat → ClassId) (dI : Nat → Nat → Nat) (ad : Nat → Nat) (cI cJ cT : ClassId) (p1 : Int32) (p2 : Int32) (p3 : Int32) (I : SI) (J : SJ) {r0 : Int32} {I0 : SI} (hf : f_X8_list p1 p2 p3 I = some (r0, I0)) : CtI l yX8_list wsX8_list ({ frames := 6, cells := 0, slots := 0, locals := 141 } : Room) (dC, dI) (tys3 cI cJ cT) (wB ad cI cJ cT) [.ref (ad 38), .int p1, .int p2, .int p3] I J r0 I0 J := by
  intro sz
  refine Met.ofW (cc := cX8_list) (maxL := 4) (ret := (some .int)) (by decide) rfl ?_
  intro p e s m args below meth c s₁ B hml hv
  obtain ⟨hargs, hsz, hP, hK, hD0⟩ := hv
  have hx := B.exec
  have hb := B.bytes
  have hr := B.returns
  have hts := atoms_spec (ws := wsX8_list) B.pre
  have hown : s.vm.findClass RX8 = some m.cls := findClass_of_methodNamed B.named
  have hlocks := B.notSynchronized
  subst hsz
  have hD := hD0.self (sz := s.heap.size)
  generalize hAe : va_A ((wB ad cI cJ cT) I J) s.heap.size = A at hD ⊢
  have hA : ∀ q : Nat, s.heap.size ≤ q → A q := fun q h => by rw [← hAe]; exact Or.inr h
  have hS : va_S A s.heap s.heap [] := va_S.rf
  have hl := lv_entry ([.ref (ad 38), .int p1, .int p2, .int p3]) (n := 4) (Nat.le_of_ble_eq_true rfl)
  rw [hargs, lg_entry_eq, ← hargs]
  generalize (lg_sl ([.ref (ad 38), .int p1, .int p2, .int p3]) ++ List.replicate (4 - (lg_sl ([.ref (ad 38), .int p1, .int p2, .int p3])).length) Slot.unset).toArray = ls at hl ⊢
  have hl : lv_has ls 4 [(0, .ref (ad 38)), (1, .int p1), (2, .int p2), (3, .int p3)] := hl
  have hfix : CallFix p m c cX8_list 4 s args wsX8_list RX8 := ⟨hx, hb, hml, hown, hts⟩
  have in_X8 : ∀ w ∈ u_ws RX8 TX8 10, w ∈ wsX8_list := by decide +kernel
  have wd_0 := hts (.fieldLink RX8 37 "FuseBench" "listing" "LFuseBench$Listing;") (by decide +kernel)
  unfold f_X8_list at hf
  refine lv_iload_n hx hb dX8_list_0 rfl (lv_at hl 1 rfl) ?_
  refine lv_iload_n hx hb dX8_list_1 rfl (lv_at hl 2 rfl) ?_
  refine lv_iload_n hx hb dX8_list_2 rfl (lv_at hl 3 rfl) ?_
  obtain ⟨r_1, hg_1, hf⟩ := bd_some hf
  refine xSi (rest := []) (c_X8_isListed l dC dI ad cI cJ cT p1 p2 p3 I J hg_1) hfix (va_cwS 3 hts gX8_list_X8_isListed rfl rfl rfl (by decide +kernel) ⟨Nat.le_of_ble_eq_true rfl, Nat.le_of_ble_eq_true rfl⟩) hK hP hD hS hA rfl hl.1 rfl (Nat.le_of_ble_eq_true rfl) ⟨Nat.zero_le _, Nat.zero_le _⟩ dX8_list_3 (fun H locs hP hD hS => ?_)
  refine lv_if_eq (tgt := 22) hx hb dX8_list_6 (by decide) (fun c_2 => ?_) (fun c_2 => ?_)
  · have hf := (if_pos c_2).symm.trans hf
    refine lv_bipush (v := (-2 : Int32)) hx hb dX8_list_22 (by decide) ?_
    cases hf
    exact xRi hx hb hr hlocks hK hP hD hS (fun _ h => h) dX8_list_24
  · have hf := (if_neg c_2).symm.trans hf
    refine lv_aload_n hx hb dX8_list_9 rfl (lv_at hl 0 rfl) ?_
    refine va_get (D := (dC, dI)) (ci := 7) (v := .ref (ad 25)) (C := RX8) (T := TX8) (N := 10) hx hb hts in_X8 hown hK hP 38 (obB_38 ad cI cJ cT I J) rfl 4 (by decide) wd_0 (fun _ h9 => h9) rfl dX8_list_10 ?_
    refine lv_iload_n hx hb dX8_list_13 rfl (lv_at hl 1 rfl) ?_
    refine lv_iload_n hx hb dX8_list_14 rfl (lv_at hl 2 rfl) ?_
    refine lv_iload_n hx hb dX8_list_15 rfl (lv_at hl 3 rfl) ?_
    obtain ⟨⟨r_3, I_3⟩, hg_3, hf⟩ := bd_some hf
    refine xVi (rest := []) (c_X2_howMany l dC dI ad cI cJ cT p1 p2 p3 I J hg_3) hfix (cwV 3 hts gX8_list_X2_howMany rfl rfl rfl (by decide +kernel) ⟨Nat.le_of_ble_eq_true rfl, Nat.le_of_ble_eq_true rfl⟩) hK hP hD hS hA (va_recv hK hP (ci := 2) (q0 := 25) rfl (obB_25 ad cI cJ cT I J)) rfl hl.1 rfl (Nat.le_of_ble_eq_true rfl) ⟨Nat.zero_le _, Nat.zero_le _⟩ dX8_list_16 (fun H locs hP hD hS => ?_)
    refine lv_goto (tgt := 24) hx hb dX8_list_19 (by decide) ?_
    cases hf
    exact xRi hx hb hr hlocks hK hP hD hS (fun _ h => h) dX8_list_24
set_option maxHeartbeats 4000000 in
set_option maxRecDepth 100000 in
theorem c_X8_take (l : Launch) (dC : Nat → ClassId) (dI : Nat → Nat → Nat) (ad : Nat → Nat) (cI cJ cT : ClassId) (p1 : Int32) (p2 : Int32) (p3 : Int32) (p4 : Int32) (p5 : Int32) (I : SI) (J : SJ) {r0 : Int32} {I0 : SI} (hf : f_X8_take p1 p2 p3 p4 p5 I = some (r0, I0)) : CtI l yX8_take wsX8_take ({ frames := 6, cells := 0, slots := 0, locals := 141 } : Room) (dC, dI) (tys3 cI cJ cT) (wB ad cI cJ cT) [.ref (ad 38), .int p1, .int p2, .int p3, .int p4, .int p5] I J r0 I0 J := by
  intro sz
  refine Met.ofW (cc := cX8_take) (maxL := 6) (ret := (some .int)) (by decide) rfl ?_
  intro p e s m args below meth c s₁ B hml hv
  obtain ⟨hargs, hsz, hP, hK, hD0⟩ := hv
  have hx := B.exec
  have hb := B.bytes
  have hr := B.returns
  have hts := atoms_spec (ws := wsX8_take) B.pre
  have hown : s.vm.findClass RX8 = some m.cls := findClass_of_methodNamed B.named
  have hlocks := B.notSynchronized
  subst hsz
  have hD := hD0.self (sz := s.heap.size)
  generalize hAe : va_A ((wB ad cI cJ cT) I J) s.heap.size = A at hD ⊢
  have hA : ∀ q : Nat, s.heap.size ≤ q → A q := fun q h => by rw [← hAe]; exact Or.inr h
  have hS : va_S A s.heap s.heap [] := va_S.rf
  have hl := lv_entry ([.ref (ad 38), .int p1, .int p2, .int p3, .int p4, .int p5]) (n := 6) (Nat.le_of_ble_eq_true rfl)
  rw [hargs, lg_entry_eq, ← hargs]
  generalize (lg_sl ([.ref (ad 38), .int p1, .int p2, .int p3, .int p4, .int p5]) ++ List.replicate (6 - (lg_sl ([.ref (ad 38), .int p1, .int p2, .int p3, .int p4, .int p5])).length) Slot.unset).toArray = ls at hl ⊢
  have hl : lv_has ls 6 [(0, .ref (ad 38)), (1, .int p1), (2, .int p2), (3, .int p3), (4, .int p4), (5, .int p5)] := hl
  have hfix : CallFix p m c cX8_take 6 s args wsX8_take RX8 := ⟨hx, hb, hml, hown, hts⟩
  have in_X8 : ∀ w ∈ u_ws RX8 TX8 10, w ∈ wsX8_take := by decide +kernel
  have wd_0 := hts (.fieldLink RX8 37 "FuseBench" "listing" "LFuseBench$Listing;") (by decide +kernel)
  have wd_1 := hts (.fieldLink RX8 11 "FuseBench" "tables" "[LFuseBench$Table;") (by decide +kernel)
  unfold f_X8_take at hf
  refine lv_iload_n hx hb dX8_take_0 rfl (lv_at hl 1 rfl) ?_
  obtain ⟨r_1, hg_1, hf⟩ := bd_some hf
  refine xSi (rest := []) (c_X8_isTable l dC dI ad cI cJ cT p1 I J hg_1) hfix (va_cwS 1 hts gX8_take_X8_isTable rfl rfl rfl (by decide +kernel) ⟨Nat.le_of_ble_eq_true rfl, Nat.le_of_ble_eq_true rfl⟩) hK hP hD hS hA rfl hl.1 rfl (Nat.le_of_ble_eq_true rfl) ⟨Nat.zero_le _, Nat.zero_le _⟩ dX8_take_1 (fun H locs hP hD hS => ?_)
  refine lv_if_eq (tgt := 22) hx hb dX8_take_4 (by decide) (fun c_2 => ?_) (fun c_2 => ?_)
  · have hf := (if_pos c_2).symm.trans hf
    refine lv_bipush (v := (-2 : Int32)) hx hb dX8_take_22 (by decide) ?_
    cases hf
    exact xRi hx hb hr hlocks hK hP hD hS (fun _ h => h) dX8_take_24
  · have hf := (if_neg c_2).symm.trans hf
    refine lv_iload_n hx hb dX8_take_7 rfl (lv_at hl 2 rfl) ?_
    refine lv_iload_n hx hb dX8_take_8 rfl (lv_at hl 3 rfl) ?_
    refine lv_iload hx hb dX8_take_9 (lv_at hl 4 rfl) ?_
    obtain ⟨r_3, hg_3, hf⟩ := bd_some hf
    refine xSi (rest := []) (c_X8_isListed l dC dI ad cI cJ cT p2 p3 p4 I J hg_3) hfix (va_cwS 3 hts gX8_take_X8_isListed rfl rfl rfl (by decide +kernel) ⟨Nat.le_of_ble_eq_true rfl, Nat.le_of_ble_eq_true rfl⟩) hK hP hD hS hA rfl hl.1 rfl (Nat.le_of_ble_eq_true rfl) ⟨Nat.zero_le _, Nat.zero_le _⟩ dX8_take_11 (fun H locs hP hD hS => ?_)
    refine lv_if_eq (tgt := 22) hx hb dX8_take_14 (by decide) (fun c_4 => ?_) (fun c_4 => ?_)
    · have hf := (if_pos c_4).symm.trans hf
      refine lv_bipush (v := (-2 : Int32)) hx hb dX8_take_22 (by decide) ?_
      cases hf
      exact xRi hx hb hr hlocks hK hP hD hS (fun _ h => h) dX8_take_24
    · have hf := (if_neg c_4).symm.trans hf
      refine lv_iload hx hb dX8_take_17 (lv_at hl 5 rfl) ?_
      refine lv_if_ge (tgt := 25) hx hb dX8_take_19 (by decide) (fun c_5 => ?_) (fun c_5 => ?_)
      · have hf := (if_pos c_5).symm.trans hf
        refine lv_iload hx hb dX8_take_25 (lv_at hl 5 rfl) ?_
        refine lv_aload_n hx hb dX8_take_27 rfl (lv_at hl 0 rfl) ?_
        refine va_get (D := (dC, dI)) (ci := 7) (v := .ref (ad 25)) (C := RX8) (T := TX8) (N := 10) hx hb hts in_X8 hown hK hP 38 (obB_38 ad cI cJ cT I J) rfl 4 (by decide) wd_0 (fun _ h9 => h9) rfl dX8_take_28 ?_
        refine lv_iload_n hx hb dX8_take_31 rfl (lv_at hl 2 rfl) ?_
        refine lv_iload_n hx hb dX8_take_32 rfl (lv_at hl 3 rfl) ?_
        refine lv_iload hx hb dX8_take_33 (lv_at hl 4 rfl) ?_
        obtain ⟨⟨r_6, I_6⟩, hg_6, hf⟩ := bd_some hf
        refine xVi (rest := [.int p5]) (c_X2_howMany l dC dI ad cI cJ cT p2 p3 p4 I J hg_6) hfix (cwV 3 hts gX8_take_X2_howMany rfl rfl rfl (by decide +kernel) ⟨Nat.le_of_ble_eq_true rfl, Nat.le_of_ble_eq_true rfl⟩) hK hP hD hS hA (va_recv hK hP (ci := 2) (q0 := 25) rfl (obB_25 ad cI cJ cT I J)) rfl hl.1 rfl (Nat.le_of_ble_eq_true rfl) ⟨Nat.zero_le _, Nat.zero_le _⟩ dX8_take_35 (fun H locs hP hD hS => ?_)
        refine lv_icmp_lt (tgt := 44) hx hb dX8_take_38 (by decide) (fun c_7 => ?_) (fun c_7 => ?_)
        · have hf := (if_pos c_7).symm.trans hf
          refine lv_aload_n hx hb dX8_take_44 rfl (lv_at hl 0 rfl) ?_
          refine va_get (D := (dC, dI)) (ci := 7) (v := .ref (ad 25)) (C := RX8) (T := TX8) (N := 10) hx hb hts in_X8 hown hK hP 38 (obB_38 ad cI cJ cT I_6 J) rfl 4 (by decide) wd_0 (fun _ h9 => h9) rfl dX8_take_45 ?_
          refine lv_aload_n hx hb dX8_take_48 rfl (lv_at hl 0 rfl) ?_
          refine va_get (D := (dC, dI)) (ci := 7) (v := .ref (ad 37)) (C := RX8) (T := TX8) (N := 10) hx hb hts in_X8 hown hK hP 38 (obB_38 ad cI cJ cT I_6 J) rfl 0 (by decide) wd_1 (fun _ h9 => h9) rfl dX8_take_49 ?_
          refine lv_iload_n hx hb dX8_take_52 rfl (lv_at hl 1 rfl) ?_
          obtain ⟨h_8, hf⟩ := gd_some hf
          refine va_aldq hx hb hK hP 37 2 (aiB_37 ad cI cJ cT I_6 J) rfl h_8 dX8_take_53 ?_
          refine W.eq (g2 := F0 m 54 ls [.ref (ad (8 + p1.toNatClampNeg)), .ref (ad 25)]) rfl ?_
          refine lv_iload hx hb dX8_take_54 (lv_at hl 5 rfl) ?_
          obtain ⟨I_9, hg_9, hf⟩ := bd_some hf
          refine xVv (rest := []) (c_X2_write l dC dI ad cI cJ cT p1.toNatClampNeg (x_lt8 h_8) p5 I_6 J hg_9) hfix (cwV 2 hts gX8_take_X2_write rfl rfl rfl (by decide +kernel) ⟨Nat.le_of_ble_eq_true rfl, Nat.le_of_ble_eq_true rfl⟩) hK hP hD hS hA (va_recv hK hP (ci := 2) (q0 := 25) rfl (obB_25 ad cI cJ cT I_6 J)) rfl hl.1 rfl (Nat.le_of_ble_eq_true rfl) ⟨Nat.zero_le _, Nat.zero_le _⟩ dX8_take_56 (fun H locs hP hD hS => ?_)
          refine lv_iconst (v := (1 : Int32)) hx hb dX8_take_59 (by decide) ?_
          cases hf
          exact xRi hx hb hr hlocks hK hP hD hS (fun _ h => h) dX8_take_60
        · have hf := (if_neg c_7).symm.trans hf
          refine lv_bipush (v := (-3 : Int32)) hx hb dX8_take_41 (by decide) ?_
          cases hf
          exact xRi hx hb hr hlocks hK hP hD hS (fun _ h => h) dX8_take_43
      · have hf := (if_neg c_5).symm.trans hf
        refine lv_bipush (v := (-2 : Int32)) hx hb dX8_take_22 (by decide) ?_
        cases hf
        exact xRi hx hb hr hlocks hK hP hD hS (fun _ h => h) dX8_take_24
set_option maxHeartbeats 4000000 in
set_option maxRecDepth 100000 in
theorem c_X8_letter (l : Launch) (dC : Nat → ClassId) (dI : Nat → Nat → Nat) (ad : Nat → Nat) (cI cJ cT : ClassId) (p1 : Int32) (I : SI) (J : SJ) {r0 : Int32} {I0 : SI} (hf : f_X8_letter p1 I = some (r0, I0)) : CtI l yX8_letter wsX8_letter ({ frames := 0, cells := 0, slots := 0, locals := 0 } : Room) (dC, dI) (tys3 cI cJ cT) (wB ad cI cJ cT) [.ref (ad 38), .int p1] I J r0 I0 J := by
  intro sz
  refine Met.ofW (cc := cX8_letter) (maxL := 2) (ret := (some .int)) (by decide) rfl ?_
  intro p e s m args below meth c s₁ B hml hv
  obtain ⟨hargs, hsz, hP, hK, hD0⟩ := hv
  have hx := B.exec
  have hb := B.bytes
  have hr := B.returns
  have hts := atoms_spec (ws := wsX8_letter) B.pre
  have hown : s.vm.findClass RX8 = some m.cls := findClass_of_methodNamed B.named
  have hlocks := B.notSynchronized
  subst hsz
  have hD := hD0.self (sz := s.heap.size)
  generalize hAe : va_A ((wB ad cI cJ cT) I J) s.heap.size = A at hD ⊢
  have hA : ∀ q : Nat, s.heap.size ≤ q → A q := fun q h => by rw [← hAe]; exact Or.inr h
  have hS : va_S A s.heap s.heap [] := va_S.rf
  have hl := lv_entry ([.ref (ad 38), .int p1]) (n := 2) (Nat.le_of_ble_eq_true rfl)
  rw [hargs, lg_entry_eq, ← hargs]
  generalize (lg_sl ([.ref (ad 38), .int p1]) ++ List.replicate (2 - (lg_sl ([.ref (ad 38), .int p1])).length) Slot.unset).toArray = ls at hl ⊢
  have hl : lv_has ls 2 [(0, .ref (ad 38)), (1, .int p1)] := hl
  have hfix : CallFix p m c cX8_letter 2 s args wsX8_letter RX8 := ⟨hx, hb, hml, hown, hts⟩
  have in_X8 : ∀ w ∈ u_ws RX8 TX8 10, w ∈ wsX8_letter := by decide +kernel
  have wd_0 := hts (.fieldLink RX8 132 "FuseBench" "wordLength" "I") (by decide +kernel)
  have wd_1 := hts (.fieldLink RX8 62 "FuseBench" "word" "[I") (by decide +kernel)
  unfold f_X8_letter at hf
  refine lv_iload_n hx hb dX8_letter_0 rfl (lv_at hl 1 rfl) ?_
  refine lv_if_lt (tgt := 9) hx hb dX8_letter_1 (by decide) (fun c_1 => ?_) (fun c_1 => ?_)
  · have hf := (if_pos c_1).symm.trans hf
    refine lv_bipush (v := (-2 : Int32)) hx hb dX8_letter_9 (by decide) ?_
    cases hf
    exact xRi hx hb hr hlocks hK hP hD hS (fun _ h => h) dX8_letter_11
  · have hf := (if_neg c_1).symm.trans hf
    refine lv_iload_n hx hb dX8_letter_4 rfl (lv_at hl 1 rfl) ?_
    refine lv_iconst (v := (5 : Int32)) hx hb dX8_letter_5 (by decide) ?_
    refine lv_icmp_lt (tgt := 12) hx hb dX8_letter_6 (by decide) (fun c_2 => ?_) (fun c_2 => ?_)
    · have hf := (if_pos c_2).symm.trans hf
      refine lv_aload_n hx hb dX8_letter_12 rfl (lv_at hl 0 rfl) ?_
      refine va_get (D := (dC, dI)) (ci := 7) (v := .int (I 38 0)) (C := RX8) (T := TX8) (N := 10) hx hb hts in_X8 hown hK hP 38 (obB_38 ad cI cJ cT I J) rfl 9 (by decide) wd_0 (fun _ h9 => h9) rfl dX8_letter_13 ?_
      refine lv_bipush (v := (14 : Int32)) hx hb dX8_letter_16 (by decide) ?_
      refine lv_icmp_lt (tgt := 24) hx hb dX8_letter_18 (by decide) (fun c_3 => ?_) (fun c_3 => ?_)
      · have hf := (if_pos c_3).symm.trans hf
        refine lv_aload_n hx hb dX8_letter_24 rfl (lv_at hl 0 rfl) ?_
        refine va_get (D := (dC, dI)) (ci := 7) (v := .ref (ad 33)) (C := RX8) (T := TX8) (N := 10) hx hb hts in_X8 hown hK hP 38 (obB_38 ad cI cJ cT I J) rfl 8 (by decide) wd_1 (fun _ h9 => h9) rfl dX8_letter_25 ?_
        refine lv_aload_n hx hb dX8_letter_28 rfl (lv_at hl 0 rfl) ?_
        refine va_get (D := (dC, dI)) (ci := 7) (v := .int (I 38 0)) (C := RX8) (T := TX8) (N := 10) hx hb hts in_X8 hown hK hP 38 (obB_38 ad cI cJ cT I J) rfl 9 (by decide) wd_0 (fun _ h9 => h9) rfl dX8_letter_29 ?_
        refine lv_iload_n hx hb dX8_letter_32 rfl (lv_at hl 1 rfl) ?_
        obtain ⟨h_4, hf⟩ := gd_some hf
        refine x_iast hx hb hK (aiB_33 ad cI cJ cT) hP hD hS h_4 dX8_letter_33 (fun H locs hP hD hS => ?_)
        refine lv_aload_n hx hb dX8_letter_34 rfl (lv_at hl 0 rfl) ?_
        refine lv_dup hx hb dX8_letter_35 rfl ?_
        refine va_get (D := (dC, dI)) (ci := 7) (v := .int ((ups I 33 (I 38 0).toNatClampNeg p1) 38 0)) (C := RX8) (T := TX8) (N := 10) hx hb hts in_X8 hown hK hP 38 (obB_38 ad cI cJ cT (ups I 33 (I 38 0).toNatClampNeg p1) J) rfl 9 (by decide) wd_0 (fun _ h9 => h9) rfl dX8_letter_36 ?_
        refine lv_iconst (v := (1 : Int32)) hx hb dX8_letter_39 (by decide) ?_
        refine lv_iadd hx hb dX8_letter_40 ?_
        refine x_put (C := RX8) (T := TX8) (N := 10) hx hb hts in_X8 tyX8 tyX8_ok nmX8 hown hK hP hD hS 38 (obB_38 ad cI cJ cT (ups I 33 (I 38 0).toNatClampNeg p1) J) rfl 9 (by decide) wd_0 (fun _ h9 => h9) rfl (by decide +kernel) (Nat.le_of_ble_eq_true rfl) (psB_38 ad cI cJ cT (ups I 33 (I 38 0).toNatClampNeg p1) J (((ups I 33 (I 38 0).toNatClampNeg p1) 38 0) + (1 : Int32))) dX8_letter_41 (fun H locs hP hD hS => ?_)
        refine lv_aload_n hx hb dX8_letter_44 rfl (lv_at hl 0 rfl) ?_
        refine va_get (D := (dC, dI)) (ci := 7) (v := .int ((sets (ups I 33 (I 38 0).toNatClampNeg p1) 38 (((ups I 33 (I 38 0).toNatClampNeg p1) 38 0) + (1 : Int32))) 38 0)) (C := RX8) (T := TX8) (N := 10) hx hb hts in_X8 hown hK hP 38 (obB_38 ad cI cJ cT (sets (ups I 33 (I 38 0).toNatClampNeg p1) 38 (((ups I 33 (I 38 0).toNatClampNeg p1) 38 0) + (1 : Int32))) J) rfl 9 (by decide) wd_0 (fun _ h9 => h9) rfl dX8_letter_45 ?_
        cases hf
        exact xRi hx hb hr hlocks hK hP hD hS (fun _ h => h) dX8_letter_48
      · have hf := (if_neg c_3).symm.trans hf
        refine lv_bipush (v := (-3 : Int32)) hx hb dX8_letter_21 (by decide) ?_
        cases hf
        exact xRi hx hb hr hlocks hK hP hD hS (fun _ h => h) dX8_letter_23
    · have hf := (if_neg c_2).symm.trans hf
      refine lv_bipush (v := (-2 : Int32)) hx hb dX8_letter_9 (by decide) ?_
      cases hf
      exact xRi hx hb hr hlocks hK hP hD hS (fun _ h => h) dX8_letter_11
set_option maxHeartbeats 4000000 in
set_option maxRecDepth 100000 in
theorem c_X8_empty (l : Launch) (dC : Nat → ClassId) (dI : Nat → Nat → Nat) (ad : Nat → Nat) (cI cJ cT : ClassId) (I : SI) (J : SJ) {r0 : Int32} {I0 : SI} (hf : f_X8_empty I = some (r0, I0)) : CtI l yX8_empty wsX8_empty ({ frames := 0, cells := 0, slots := 0, locals := 0 } : Room) (dC, dI) (tys3 cI cJ cT) (wB ad cI cJ cT) [.ref (ad 38)] I J r0 I0 J := by
  intro sz
  refine Met.ofW (cc := cX8_empty) (maxL := 2) (ret := (some .int)) (by decide) rfl ?_
  intro p e s m args below meth c s₁ B hml hv
  obtain ⟨hargs, hsz, hP, hK, hD0⟩ := hv
  have hx := B.exec
  have hb := B.bytes
  have hr := B.returns
  have hts := atoms_spec (ws := wsX8_empty) B.pre
  have hown : s.vm.findClass RX8 = some m.cls := findClass_of_methodNamed B.named
  have hlocks := B.notSynchronized
  subst hsz
  have hD := hD0.self (sz := s.heap.size)
  generalize hAe : va_A ((wB ad cI cJ cT) I J) s.heap.size = A at hD ⊢
  have hA : ∀ q : Nat, s.heap.size ≤ q → A q := fun q h => by rw [← hAe]; exact Or.inr h
  have hS : va_S A s.heap s.heap [] := va_S.rf
  have hl := lv_entry ([.ref (ad 38)]) (n := 2) (Nat.le_of_ble_eq_true rfl)
  rw [hargs, lg_entry_eq, ← hargs]
  generalize (lg_sl ([.ref (ad 38)]) ++ List.replicate (2 - (lg_sl ([.ref (ad 38)])).length) Slot.unset).toArray = ls at hl ⊢
  have hl : lv_has ls 2 [(0, .ref (ad 38))] := hl
  have hfix : CallFix p m c cX8_empty 2 s args wsX8_empty RX8 := ⟨hx, hb, hml, hown, hts⟩
  have in_X8 : ∀ w ∈ u_ws RX8 TX8 10, w ∈ wsX8_empty := by decide +kernel
  have wd_0 := hts (.fieldLink RX8 132 "FuseBench" "wordLength" "I") (by decide +kernel)
  unfold f_X8_empty at hf
  refine lv_aload_n hx hb dX8_empty_0 rfl (lv_at hl 0 rfl) ?_
  refine va_get (D := (dC, dI)) (ci := 7) (v := .int (I 38 0)) (C := RX8) (T := TX8) (N := 10) hx hb hts in_X8 hown hK hP 38 (obB_38 ad cI cJ cT I J) rfl 9 (by decide) wd_0 (fun _ h9 => h9) rfl dX8_empty_1 ?_
  refine lv_istore_n (lv' := [(1, .int (I 38 0)), (0, .ref (ad 38))]) hx hb dX8_empty_4 rfl hl (by decide) rfl (fun ls hl => ?_)
  refine lv_aload_n hx hb dX8_empty_5 rfl (lv_at hl 1 rfl) ?_
  refine lv_iconst (v := (0 : Int32)) hx hb dX8_empty_6 (by decide) ?_
  refine x_put (C := RX8) (T := TX8) (N := 10) hx hb hts in_X8 tyX8 tyX8_ok nmX8 hown hK hP hD hS 38 (obB_38 ad cI cJ cT I J) rfl 9 (by decide) wd_0 (fun _ h9 => h9) rfl (by decide +kernel) (Nat.le_of_ble_eq_true rfl) (psB_38 ad cI cJ cT I J (0 : Int32)) dX8_empty_7 (fun H locs hP hD hS => ?_)
  refine lv_iload_n hx hb dX8_empty_10 rfl (lv_at hl 0 rfl) ?_
  cases hf
  exact xRi hx hb hr hlocks hK hP hD hS (fun _ h => h) dX8_empty_11
set_option maxHeartbeats 4000000 in
set_option maxRecDepth 100000 in
theorem c_X8_hasWord (l : Launch) (dC : Nat → ClassId) (dI : Nat → Nat → Nat) (ad : Nat → Nat) (cI cJ cT : ClassId) (x : Nat) (htx : x < 8) (I : SI) (J : SJ) {r0 : Int32} (hf : f_X8_hasWord x I = some r0) : CtI l yX8_hasWord wsX8_hasWord ({ frames := 1, cells := 0, slots := 0, locals := 21 } : Room) (dC, dI) (tys3 cI cJ cT) (wB ad cI cJ cT) [.ref (ad 38), .ref (ad (8 + x))] I J r0 I J := by
  intro sz
  refine Met.ofW (cc := cX8_hasWord) (maxL := 3) (ret := (some .boolean)) (by decide) rfl ?_
  intro p e s m args below meth c s₁ B hml hv
  obtain ⟨hargs, hsz, hP, hK, hD0⟩ := hv
  have hx := B.exec
  have hb := B.bytes
  have hr := B.returns
  have hts := atoms_spec (ws := wsX8_hasWord) B.pre
  have hown : s.vm.findClass RX8 = some m.cls := findClass_of_methodNamed B.named
  have hlocks := B.notSynchronized
  subst hsz
  have hD := hD0.self (sz := s.heap.size)
  generalize hAe : va_A ((wB ad cI cJ cT) I J) s.heap.size = A at hD ⊢
  have hA : ∀ q : Nat, s.heap.size ≤ q → A q := fun q h => by rw [← hAe]; exact Or.inr h
  have hS : va_S A s.heap s.heap [] := va_S.rf
  have hl := lv_entry ([.ref (ad 38), .ref (ad (8 + x))]) (n := 3) (Nat.le_of_ble_eq_true rfl)
  rw [hargs, lg_entry_eq, ← hargs]
  generalize (lg_sl ([.ref (ad 38), .ref (ad (8 + x))]) ++ List.replicate (3 - (lg_sl ([.ref (ad 38), .ref (ad (8 + x))])).length) Slot.unset).toArray = ls at hl ⊢
  have hl : lv_has ls 3 [(0, .ref (ad 38)), (1, .ref (ad (8 + x)))] := hl
  have hfix : CallFix p m c cX8_hasWord 3 s args wsX8_hasWord RX8 := ⟨hx, hb, hml, hown, hts⟩
  have in_X8 : ∀ w ∈ u_ws RX8 TX8 10, w ∈ wsX8_hasWord := by decide +kernel
  have wd_0 := hts (.fieldLink RX8 132 "FuseBench" "wordLength" "I") (by decide +kernel)
  have wd_1 := hts (.fieldLink RX8 62 "FuseBench" "word" "[I") (by decide +kernel)
  have L2 : ∀ (Q : State → Prop)  (I : SI) (J : SJ) (o : Nat), (∀  (H : Heap) (locs : List Loc) (ls : Array Slot), o = 0 → va_P (dC, dI) vwCl ((wB ad cI cJ cT) I J) H → va_D A ((wB ad cI cJ cT) I J) → va_S A s.heap H locs → lv_has ls 3 [] → W p l e ({ frames := 1, cells := 0, slots := 0, locals := 21 } : Room) s m args below meth c H locs 0 0 Q (F0 m 23 ls [])) → (∀  (H : Heap) (locs : List Loc) (ls : Array Slot), o = 1 → va_P (dC, dI) vwCl ((wB ad cI cJ cT) I J) H → va_D A ((wB ad cI cJ cT) I J) → va_S A s.heap H locs → lv_has ls 3 [] → W p l e ({ frames := 1, cells := 0, slots := 0, locals := 21 } : Room) s m args below meth c H locs 0 0 Q (F0 m 31 ls [])) → ∀ (n : Nat) (v2 : Int32) (H : Heap) (locs : List Loc) (ls : Array Slot), lp_X8_hasWord_2 x I n v2 = some o → va_P (dC, dI) vwCl ((wB ad cI cJ cT) I J) H → va_D A ((wB ad cI cJ cT) I J) → va_S A s.heap H locs → lv_has ls 3 [(0, .ref (ad 38)), (1, .ref (ad (8 + x))), (2, .int v2)] → W p l e ({ frames := 1, cells := 0, slots := 0, locals := 21 } : Room) s m args below meth c H locs 0 0 Q (F0 m 2 ls []) := by
    intro Q  I J o K0 K1 n
    clear hP hD hS hl
    induction n with
    | zero =>
      intro v2 H locs ls hf
      rw [lp_X8_hasWord_2.eq_1] at hf
      cases hf
    | succ n ih =>
      intro v2 H locs ls hf hP hD hS hl
      rw [lp_X8_hasWord_2.eq_2] at hf
      refine lv_iload_n hx hb dX8_hasWord_2 rfl (lv_at hl 2 rfl) ?_
      refine lv_aload_n hx hb dX8_hasWord_3 rfl (lv_at hl 0 rfl) ?_
      refine va_get (D := (dC, dI)) (ci := 7) (v := .int (I 38 0)) (C := RX8) (T := TX8) (N := 10) hx hb hts in_X8 hown hK hP 38 (obB_38 ad cI cJ cT I J) rfl 9 (by decide) wd_0 (fun _ h9 => h9) rfl dX8_hasWord_4 ?_
      refine lv_icmp_ge (tgt := 31) hx hb dX8_hasWord_7 (by decide) (fun c_1 => ?_) (fun c_1 => ?_)
      · have hf := (if_pos c_1).symm.trans hf
        exact K1  _ _ _ (Option.some.inj hf).symm hP hD hS (lv_sub hl [] rfl)
      · have hf := (if_neg c_1).symm.trans hf
        refine lv_aload_n hx hb dX8_hasWord_10 rfl (lv_at hl 1 rfl) ?_
        refine lv_aload_n hx hb dX8_hasWord_11 rfl (lv_at hl 0 rfl) ?_
        refine va_get (D := (dC, dI)) (ci := 7) (v := .ref (ad 33)) (C := RX8) (T := TX8) (N := 10) hx hb hts in_X8 hown hK hP 38 (obB_38 ad cI cJ cT I J) rfl 8 (by decide) wd_1 (fun _ h9 => h9) rfl dX8_hasWord_12 ?_
        refine lv_iload_n hx hb dX8_hasWord_15 rfl (lv_at hl 2 rfl) ?_
        obtain ⟨h_2, hf⟩ := gd_some hf
        refine x_iald hx hb hK (aiB_33 ad cI cJ cT) hP h_2 dX8_hasWord_16 ?_
        obtain ⟨r_3, hg_3, hf⟩ := bd_some hf
        refine xVi (rest := []) (c_X7_has l dC dI ad cI cJ cT (wB ad cI cJ cT) (fun k => k) x (wBT ad cI cJ cT htx) (I 33 v2.toNatClampNeg) I J hg_3) hfix (cwV 1 hts gX8_hasWord_X7_has rfl rfl rfl (by decide +kernel) ⟨Nat.le_of_ble_eq_true rfl, Nat.le_of_ble_eq_true rfl⟩) hK hP hD hS hA (va_recv hK hP (ci := 6) (q0 := (8 + x)) rfl (((wBT ad cI cJ cT htx)).2.1 I J)) rfl hl.1 rfl (Nat.le_of_ble_eq_true rfl) ⟨Nat.zero_le _, Nat.zero_le _⟩ dX8_hasWord_17 (fun H locs hP hD hS => ?_)
        refine lv_if_ne (tgt := 25) hx hb dX8_hasWord_20 (by decide) (fun c_4 => ?_) (fun c_4 => ?_)
        · have hf := (if_neg c_4).symm.trans hf
          refine lv_iinc (v := (v2 + (1 : Int32))) (lv' := [(2, .int (v2 + (1 : Int32))), (0, .ref (ad 38)), (1, .ref (ad (8 + x)))]) hx hb dX8_hasWord_25 hl (k := 2) rfl (by first | rfl | decide) (by decide) rfl (fun ls hl => ?_)
          refine lv_goto (tgt := 2) hx hb dX8_hasWord_28 (by decide) ?_
          exact ih _ _ _ _ hf hP hD hS (lv_sub hl [1, 2, 0] rfl)
        · have hf := (if_pos c_4).symm.trans hf
          exact K0  _ _ _ (Option.some.inj hf).symm hP hD hS (lv_sub hl [] rfl)
  unfold f_X8_hasWord at hf
  refine lv_iconst (v := (0 : Int32)) hx hb dX8_hasWord_0 (by decide) ?_
  refine lv_istore_n (lv' := [(2, .int (0 : Int32)), (0, .ref (ad 38)), (1, .ref (ad (8 + x)))]) hx hb dX8_hasWord_1 rfl hl (by decide) rfl (fun ls hl => ?_)
  obtain ⟨o_5, hg_5, hf⟩ := bd_some hf
  refine L2 _ I J o_5 ?_ ?_ FU (0 : Int32) _ _ _ hg_5 hP hD hS (lv_sub hl [1, 2, 0] rfl)
  · intro  H locs ls ho hP hD hS hl
    subst o_5
    have hf := (if_pos (show 0 = 0 from rfl)).symm.trans hf
    refine lv_iconst (v := (0 : Int32)) hx hb dX8_hasWord_23 (by decide) ?_
    cases hf
    exact xRz hx hb hr hlocks rfl hK hP hD hS (fun _ h => h) dX8_hasWord_24
  · intro  H locs ls ho hP hD hS hl
    subst o_5
    have hf := (if_neg (show ¬ (1 = 0) by decide)).symm.trans hf
    refine lv_iconst (v := (1 : Int32)) hx hb dX8_hasWord_31 (by decide) ?_
    cases hf
    exact xRz hx hb hr hlocks rfl hK hP hD hS (fun _ h => h) dX8_hasWord_32
