set_option maxHeartbeats 4000000 in
set_option maxRecDepth 100000 in
theorem c_X8_fused (l : Launch) (dC : Nat → ClassId) (dI : Nat → Nat → Nat) (ad : Nat → Nat) (cI cJ cT : ClassId) (p1 : Int32) (p2 : Int32) (I : SI) (J : SJ) {r0 : Int64} {J0 : SJ} (hf : f_X8_fused p1 p2 I J = some (r0, J0)) : CtL l yX8_fused wsX8_fused ({ frames := 3, cells := 0, slots := 0, locals := 104 } : Room) (dC, dI) (tys3 cI cJ cT) (wB ad cI cJ cT) [.ref (ad 38), .int p1, .int p2] I J r0 I J0 := by
  intro sz
  refine Met.ofW (cc := cX8_fused) (maxL := 4) (ret := (some .long)) (by decide) rfl ?_
  intro p e s m args below meth c s₁ B hml hv
  obtain ⟨hargs, hsz, hP, hK, hD0⟩ := hv
  have hx := B.exec
  have hb := B.bytes
  have hr := B.returns
  have hts := atoms_spec (ws := wsX8_fused) B.pre
  have hown : s.vm.findClass RX8 = some m.cls := findClass_of_methodNamed B.named
  have hlocks := B.notSynchronized
  subst hsz
  have hD := hD0.self (sz := s.heap.size)
  generalize hAe : va_A ((wB ad cI cJ cT) I J) s.heap.size = A at hD ⊢
  have hA : ∀ q : Nat, s.heap.size ≤ q → A q := fun q h => by rw [← hAe]; exact Or.inr h
  have hS : va_S A s.heap s.heap [] := va_S.rf
  have hl := lv_entry ([.ref (ad 38), .int p1, .int p2]) (n := 4) (Nat.le_of_ble_eq_true rfl)
  rw [hargs, lg_entry_eq, ← hargs]
  generalize (lg_sl ([.ref (ad 38), .int p1, .int p2]) ++ List.replicate (4 - (lg_sl ([.ref (ad 38), .int p1, .int p2])).length) Slot.unset).toArray = ls at hl ⊢
  have hl : lv_has ls 4 [(0, .ref (ad 38)), (1, .int p1), (2, .int p2)] := hl
  have hfix : CallFix p m c cX8_fused 4 s args wsX8_fused RX8 := ⟨hx, hb, hml, hown, hts⟩
  have in_X8 : ∀ w ∈ u_ws RX8 TX8 10, w ∈ wsX8_fused := by decide +kernel
  have in_X6 : ∀ w ∈ u_ws RX6 TX6 2, w ∈ wsX8_fused := by decide +kernel
  have wd_0 := hts (.fieldLink RX8 132 "FuseBench" "wordLength" "I") (by decide +kernel)
  have wd_1 := hts (.fieldLink RX8 30 "FuseBench" "sum" "LFuseBench$Sum;") (by decide +kernel)
  have wd_2 := hts (.fieldLink RX8 11 "FuseBench" "tables" "[LFuseBench$Table;") (by decide +kernel)
  have wd_3 := hts (.fieldLink RX8 62 "FuseBench" "word" "[I") (by decide +kernel)
  have wd_4 := hts (.constantLong RX8 138 (-2)) (by decide +kernel)
  have wd_5 := hts (.fieldLink RX8 146 "FuseBench$Sum" "times" "[J") (by decide +kernel)
  have L36 : ∀ (Q : State → Prop) (v1 : Int32) (v2 : Int32) (I : SI) (o : SJ), (∀  (J : SJ) (H : Heap) (locs : List Loc) (ls : Array Slot), o = J → va_P (dC, dI) vwCl ((wB ad cI cJ cT) I J) H → va_D A ((wB ad cI cJ cT) I J) → va_S A s.heap H locs → lv_has ls 4 [(0, .ref (ad 38)), (2, .int v2)] → W p l e ({ frames := 3, cells := 0, slots := 0, locals := 104 } : Room) s m args below meth c H locs 0 0 Q (F0 m 69 ls [])) → ∀ (n : Nat) (v3 : Int32) (J : SJ) (H : Heap) (locs : List Loc) (ls : Array Slot), lp_X8_fused_36 v1 v2 I n v3 J = some o → va_P (dC, dI) vwCl ((wB ad cI cJ cT) I J) H → va_D A ((wB ad cI cJ cT) I J) → va_S A s.heap H locs → lv_has ls 4 [(0, .ref (ad 38)), (1, .int v1), (2, .int v2), (3, .int v3)] → W p l e ({ frames := 3, cells := 0, slots := 0, locals := 104 } : Room) s m args below meth c H locs 0 0 Q (F0 m 36 ls []) := by
    intro Q v1 v2 I o K0 n
    clear hP hD hS hl
    induction n with
    | zero =>
      intro v3 J H locs ls hf
      rw [lp_X8_fused_36.eq_1] at hf
      cases hf
    | succ n ih =>
      intro v3 J H locs ls hf hP hD hS hl
      rw [lp_X8_fused_36.eq_2] at hf
      refine lv_iload_n hx hb dX8_fused_36 rfl (lv_at hl 3 rfl) ?_
      refine lv_aload_n hx hb dX8_fused_37 rfl (lv_at hl 0 rfl) ?_
      refine va_get (D := (dC, dI)) (ci := 7) (v := .int (I 38 0)) (C := RX8) (T := TX8) (N := 10) hx hb hts in_X8 hown hK hP 38 (obB_38 ad cI cJ cT I J) rfl 9 (by decide) wd_0 (fun _ h9 => h9) rfl dX8_fused_38 ?_
      refine lv_icmp_ge (tgt := 69) hx hb dX8_fused_41 (by decide) (fun c_1 => ?_) (fun c_1 => ?_)
      · have hf := (if_pos c_1).symm.trans hf
        exact K0 _ _ _ _ (Option.some.inj hf).symm hP hD hS (lv_sub hl [0, 2] rfl)
      · have hf := (if_neg c_1).symm.trans hf
        refine lv_aload_n hx hb dX8_fused_44 rfl (lv_at hl 0 rfl) ?_
        refine va_get (D := (dC, dI)) (ci := 7) (v := .ref (ad 36)) (C := RX8) (T := TX8) (N := 10) hx hb hts in_X8 hown hK hP 38 (obB_38 ad cI cJ cT I J) rfl 3 (by decide) wd_1 (fun _ h9 => h9) rfl dX8_fused_45 ?_
        refine lv_aload_n hx hb dX8_fused_48 rfl (lv_at hl 0 rfl) ?_
        refine va_get (D := (dC, dI)) (ci := 7) (v := .ref (ad 37)) (C := RX8) (T := TX8) (N := 10) hx hb hts in_X8 hown hK hP 38 (obB_38 ad cI cJ cT I J) rfl 0 (by decide) wd_2 (fun _ h9 => h9) rfl dX8_fused_49 ?_
        refine lv_iload_n hx hb dX8_fused_52 rfl (lv_at hl 1 rfl) ?_
        obtain ⟨h_2, hf⟩ := gd_some hf
        refine va_aldq hx hb hK hP 37 2 (aiB_37 ad cI cJ cT I J) rfl h_2 dX8_fused_53 ?_
        refine W.eq (g2 := F0 m 54 ls [.ref (ad (8 + v1.toNatClampNeg)), .ref (ad 36)]) rfl ?_
        refine lv_aload_n hx hb dX8_fused_54 rfl (lv_at hl 0 rfl) ?_
        refine va_get (D := (dC, dI)) (ci := 7) (v := .ref (ad 33)) (C := RX8) (T := TX8) (N := 10) hx hb hts in_X8 hown hK hP 38 (obB_38 ad cI cJ cT I J) rfl 8 (by decide) wd_3 (fun _ h9 => h9) rfl dX8_fused_55 ?_
        refine lv_iload_n hx hb dX8_fused_58 rfl (lv_at hl 3 rfl) ?_
        obtain ⟨h_3, hf⟩ := gd_some hf
        refine x_iald hx hb hK (aiB_33 ad cI cJ cT) hP h_3 dX8_fused_59 ?_
        obtain ⟨J_4, hg_4, hf⟩ := bd_some hf
        refine xVv (rest := []) (c_X6_fuseWith l dC dI ad cI cJ cT v1.toNatClampNeg (x_lt8 h_2) (I 33 v3.toNatClampNeg) I J hg_4) hfix (cwV 2 hts gX8_fused_X6_fuseWith rfl rfl rfl (by decide +kernel) ⟨Nat.le_of_ble_eq_true rfl, Nat.le_of_ble_eq_true rfl⟩) hK hP hD hS hA (va_recv hK hP (ci := 5) (q0 := 36) rfl (obB_36 ad cI cJ cT I J)) rfl hl.1 rfl (Nat.le_of_ble_eq_true rfl) ⟨Nat.zero_le _, Nat.zero_le _⟩ dX8_fused_60 (fun H locs hP hD hS => ?_)
        refine lv_iinc (v := (v3 + (1 : Int32))) (lv' := [(3, .int (v3 + (1 : Int32))), (0, .ref (ad 38)), (1, .int v1), (2, .int v2)]) hx hb dX8_fused_63 hl (k := 3) rfl (by first | rfl | decide) (by decide) rfl (fun ls hl => ?_)
        refine lv_goto (tgt := 36) hx hb dX8_fused_66 (by decide) ?_
        exact ih _ _ _ _ _ hf hP hD hS (lv_sub hl [1, 2, 3, 0] rfl)
  unfold f_X8_fused at hf
  refine lv_aload_n hx hb dX8_fused_0 rfl (lv_at hl 0 rfl) ?_
  refine lv_iload_n hx hb dX8_fused_1 rfl (lv_at hl 1 rfl) ?_
  refine lv_iload_n hx hb dX8_fused_2 rfl (lv_at hl 2 rfl) ?_
  obtain ⟨r_5, hg_5, hf⟩ := bd_some hf
  refine xVi (rest := []) (c_X8_isKind l dC dI ad cI cJ cT p1 p2 I J hg_5) hfix (cwV 2 hts gX8_fused_X8_isKind rfl rfl rfl (by decide +kernel) ⟨Nat.le_of_ble_eq_true rfl, Nat.le_of_ble_eq_true rfl⟩) hK hP hD hS hA (va_recv hK hP (ci := 7) (q0 := 38) rfl (obB_38 ad cI cJ cT I J)) rfl hl.1 rfl (Nat.le_of_ble_eq_true rfl) ⟨Nat.zero_le _, Nat.zero_le _⟩ dX8_fused_3 (fun H locs hP hD hS => ?_)
  refine lv_if_eq (tgt := 22) hx hb dX8_fused_6 (by decide) (fun c_6 => ?_) (fun c_6 => ?_)
  · have hf := (if_pos c_6).symm.trans hf
    refine lv_ldc2 (v := (-2 : Int64)) hx hb hown wd_4 dX8_fused_22 ?_
    cases hf
    exact xRl hx hb hr hlocks hK hP hD hS (fun _ h => h) dX8_fused_25
  · have hf := (if_neg c_6).symm.trans hf
    refine lv_aload_n hx hb dX8_fused_9 rfl (lv_at hl 0 rfl) ?_
    refine lv_aload_n hx hb dX8_fused_10 rfl (lv_at hl 0 rfl) ?_
    refine va_get (D := (dC, dI)) (ci := 7) (v := .ref (ad 37)) (C := RX8) (T := TX8) (N := 10) hx hb hts in_X8 hown hK hP 38 (obB_38 ad cI cJ cT I J) rfl 0 (by decide) wd_2 (fun _ h9 => h9) rfl dX8_fused_11 ?_
    refine lv_iload_n hx hb dX8_fused_14 rfl (lv_at hl 1 rfl) ?_
    obtain ⟨h_7, hf⟩ := gd_some hf
    refine va_aldq hx hb hK hP 37 2 (aiB_37 ad cI cJ cT I J) rfl h_7 dX8_fused_15 ?_
    refine W.eq (g2 := F0 m 16 ls [.ref (ad (8 + p1.toNatClampNeg)), .ref (ad 38)]) rfl ?_
    obtain ⟨r_8, hg_8, hf⟩ := bd_some hf
    refine xVi (rest := []) (c_X8_hasWord l dC dI ad cI cJ cT p1.toNatClampNeg (x_lt8 h_7) I J hg_8) hfix (cwV 1 hts gX8_fused_X8_hasWord rfl rfl rfl (by decide +kernel) ⟨Nat.le_of_ble_eq_true rfl, Nat.le_of_ble_eq_true rfl⟩) hK hP hD hS hA (va_recv hK hP (ci := 7) (q0 := 38) rfl (obB_38 ad cI cJ cT I J)) rfl hl.1 rfl (Nat.le_of_ble_eq_true rfl) ⟨Nat.zero_le _, Nat.zero_le _⟩ dX8_fused_16 (fun H locs hP hD hS => ?_)
    refine lv_if_ne (tgt := 26) hx hb dX8_fused_19 (by decide) (fun c_9 => ?_) (fun c_9 => ?_)
    · have hf := (if_neg c_9).symm.trans hf
      refine lv_aload_n hx hb dX8_fused_26 rfl (lv_at hl 0 rfl) ?_
      refine va_get (D := (dC, dI)) (ci := 7) (v := .ref (ad 36)) (C := RX8) (T := TX8) (N := 10) hx hb hts in_X8 hown hK hP 38 (obB_38 ad cI cJ cT I J) rfl 3 (by decide) wd_1 (fun _ h9 => h9) rfl dX8_fused_27 ?_
      refine lv_iconst (v := (0 : Int32)) hx hb dX8_fused_30 (by decide) ?_
      obtain ⟨J_10, hg_10, hf⟩ := bd_some hf
      refine xVv (rest := []) (c_X6_begin l dC dI ad cI cJ cT (0 : Int32) I J hg_10) hfix (cwV 1 hts gX8_fused_X6_begin rfl rfl rfl (by decide +kernel) ⟨Nat.le_of_ble_eq_true rfl, Nat.le_of_ble_eq_true rfl⟩) hK hP hD hS hA (va_recv hK hP (ci := 5) (q0 := 36) rfl (obB_36 ad cI cJ cT I J)) rfl hl.1 rfl (Nat.le_of_ble_eq_true rfl) ⟨Nat.zero_le _, Nat.zero_le _⟩ dX8_fused_31 (fun H locs hP hD hS => ?_)
      refine lv_iconst (v := (0 : Int32)) hx hb dX8_fused_34 (by decide) ?_
      refine lv_istore_n (lv' := [(3, .int (0 : Int32)), (0, .ref (ad 38)), (1, .int p1), (2, .int p2)]) hx hb dX8_fused_35 rfl hl (by decide) rfl (fun ls hl => ?_)
      obtain ⟨o_11, hg_11, hf⟩ := bd_some hf
      refine L36 _ p1 p2 I o_11 ?_ FU (0 : Int32) J_10 _ _ _ hg_11 hP hD hS (lv_sub hl [1, 2, 3, 0] rfl)
      · intro J_11 H locs ls ho hP hD hS hl
        subst o_11
        refine lv_aload_n hx hb dX8_fused_69 rfl (lv_at hl 0 rfl) ?_
        refine va_get (D := (dC, dI)) (ci := 7) (v := .ref (ad 36)) (C := RX8) (T := TX8) (N := 10) hx hb hts in_X8 hown hK hP 38 (obB_38 ad cI cJ cT I J_11) rfl 3 (by decide) wd_1 (fun _ h9 => h9) rfl dX8_fused_70 ?_
        refine va_get (D := (dC, dI)) (ci := 5) (v := .ref (ad 34)) (C := RX6) (T := TX6) (N := 2) hx hb hts in_X6 hown hK hP 36 (obB_36 ad cI cJ cT I J_11) rfl 0 (by decide) wd_5 (fun _ h9 => h9) rfl dX8_fused_73 ?_
        refine lv_iload_n hx hb dX8_fused_76 rfl (lv_at hl 1 rfl) ?_
        obtain ⟨h_12, hf⟩ := gd_some hf
        refine x_lald hx hb hK (aiB_34 ad cI cJ cT) hP h_12 dX8_fused_77 ?_
        cases hf
        exact xRl hx hb hr hlocks hK hP hD hS (fun _ h => h) dX8_fused_78
    · have hf := (if_pos c_9).symm.trans hf
      refine lv_ldc2 (v := (-2 : Int64)) hx hb hown wd_4 dX8_fused_22 ?_
      cases hf
      exact xRl hx hb hr hlocks hK hP hD hS (fun _ h => h) dX8_fused_25
set_option maxHeartbeats 4000000 in
set_option maxRecDepth 100000 in
theorem c_X8_ways (l : Launch) (dC : Nat → ClassId) (dI : Nat → Nat → Nat) (ad : Nat → Nat) (cI cJ cT : ClassId) (p1 : Int32) (p2 : Int32) (p3 : Int32) (p4 : Int32) (p5 : Int32) (I : SI) (J : SJ) {r0 : Int64} {J0 : SJ} (hf : f_X8_ways p1 p2 p3 p4 p5 I J = some (r0, J0)) : CtL l yX8_ways wsX8_ways ({ frames := 3, cells := 0, slots := 0, locals := 104 } : Room) (dC, dI) (tys3 cI cJ cT) (wB ad cI cJ cT) [.ref (ad 38), .int p1, .int p2, .int p3, .int p4, .int p5] I J r0 I J0 := by
  intro sz
  refine Met.ofW (cc := cX8_ways) (maxL := 7) (ret := (some .long)) (by decide) rfl ?_
  intro p e s m args below meth c s₁ B hml hv
  obtain ⟨hargs, hsz, hP, hK, hD0⟩ := hv
  have hx := B.exec
  have hb := B.bytes
  have hr := B.returns
  have hts := atoms_spec (ws := wsX8_ways) B.pre
  have hown : s.vm.findClass RX8 = some m.cls := findClass_of_methodNamed B.named
  have hlocks := B.notSynchronized
  subst hsz
  have hD := hD0.self (sz := s.heap.size)
  generalize hAe : va_A ((wB ad cI cJ cT) I J) s.heap.size = A at hD ⊢
  have hA : ∀ q : Nat, s.heap.size ≤ q → A q := fun q h => by rw [← hAe]; exact Or.inr h
  have hS : va_S A s.heap s.heap [] := va_S.rf
  have hl := lv_entry ([.ref (ad 38), .int p1, .int p2, .int p3, .int p4, .int p5]) (n := 7) (Nat.le_of_ble_eq_true rfl)
  rw [hargs, lg_entry_eq, ← hargs]
  generalize (lg_sl ([.ref (ad 38), .int p1, .int p2, .int p3, .int p4, .int p5]) ++ List.replicate (7 - (lg_sl ([.ref (ad 38), .int p1, .int p2, .int p3, .int p4, .int p5])).length) Slot.unset).toArray = ls at hl ⊢
  have hl : lv_has ls 7 [(0, .ref (ad 38)), (1, .int p1), (2, .int p2), (3, .int p3), (4, .int p4), (5, .int p5)] := hl
  have hfix : CallFix p m c cX8_ways 7 s args wsX8_ways RX8 := ⟨hx, hb, hml, hown, hts⟩
  have in_X8 : ∀ w ∈ u_ws RX8 TX8 10, w ∈ wsX8_ways := by decide +kernel
  have in_X6 : ∀ w ∈ u_ws RX6 TX6 2, w ∈ wsX8_ways := by decide +kernel
  have wd_0 := hts (.fieldLink RX8 30 "FuseBench" "sum" "LFuseBench$Sum;") (by decide +kernel)
  have wd_1 := hts (.fieldLink RX8 11 "FuseBench" "tables" "[LFuseBench$Table;") (by decide +kernel)
  have wd_2 := hts (.constantLong RX8 138 (-2)) (by decide +kernel)
  have wd_3 := hts (.fieldLink RX8 146 "FuseBench$Sum" "times" "[J") (by decide +kernel)
  have L39 : ∀ (Q : State → Prop) (v1 : Int32) (v3 : Int32) (v4 : Int32) (v5 : Int32) (I : SI) (o : SJ), (∀  (J : SJ) (H : Heap) (locs : List Loc) (ls : Array Slot), o = J → va_P (dC, dI) vwCl ((wB ad cI cJ cT) I J) H → va_D A ((wB ad cI cJ cT) I J) → va_S A s.heap H locs → lv_has ls 7 [(0, .ref (ad 38)), (5, .int v5)] → W p l e ({ frames := 3, cells := 0, slots := 0, locals := 104 } : Room) s m args below meth c H locs 0 0 Q (F0 m 66 ls [])) → ∀ (n : Nat) (v6 : Int32) (J : SJ) (H : Heap) (locs : List Loc) (ls : Array Slot), lp_X8_ways_39 v1 v3 v4 v5 I n v6 J = some o → va_P (dC, dI) vwCl ((wB ad cI cJ cT) I J) H → va_D A ((wB ad cI cJ cT) I J) → va_S A s.heap H locs → lv_has ls 7 [(0, .ref (ad 38)), (1, .int v1), (3, .int v3), (4, .int v4), (5, .int v5), (6, .int v6)] → W p l e ({ frames := 3, cells := 0, slots := 0, locals := 104 } : Room) s m args below meth c H locs 0 0 Q (F0 m 39 ls []) := by
    intro Q v1 v3 v4 v5 I o K0 n
    clear hP hD hS hl
    induction n with
    | zero =>
      intro v6 J H locs ls hf
      rw [lp_X8_ways_39.eq_1] at hf
      cases hf
    | succ n ih =>
      intro v6 J H locs ls hf hP hD hS hl
      rw [lp_X8_ways_39.eq_2] at hf
      refine lv_iload hx hb dX8_ways_39 (lv_at hl 5 rfl) ?_
      refine lv_iload hx hb dX8_ways_41 (lv_at hl 3 rfl) ?_
      refine lv_icmp_ge (tgt := 66) hx hb dX8_ways_43 (by decide) (fun c_1 => ?_) (fun c_1 => ?_)
      · have hf := (if_pos c_1).symm.trans hf
        exact K0 _ _ _ _ (Option.some.inj hf).symm hP hD hS (lv_sub hl [0, 4] rfl)
      · have hf := (if_neg c_1).symm.trans hf
        refine lv_aload_n hx hb dX8_ways_46 rfl (lv_at hl 0 rfl) ?_
        refine va_get (D := (dC, dI)) (ci := 7) (v := .ref (ad 36)) (C := RX8) (T := TX8) (N := 10) hx hb hts in_X8 hown hK hP 38 (obB_38 ad cI cJ cT I J) rfl 3 (by decide) wd_0 (fun _ h9 => h9) rfl dX8_ways_47 ?_
        refine lv_aload_n hx hb dX8_ways_50 rfl (lv_at hl 0 rfl) ?_
        refine va_get (D := (dC, dI)) (ci := 7) (v := .ref (ad 37)) (C := RX8) (T := TX8) (N := 10) hx hb hts in_X8 hown hK hP 38 (obB_38 ad cI cJ cT I J) rfl 0 (by decide) wd_1 (fun _ h9 => h9) rfl dX8_ways_51 ?_
        refine lv_iload_n hx hb dX8_ways_54 rfl (lv_at hl 1 rfl) ?_
        obtain ⟨h_2, hf⟩ := gd_some hf
        refine va_aldq hx hb hK hP 37 2 (aiB_37 ad cI cJ cT I J) rfl h_2 dX8_ways_55 ?_
        refine W.eq (g2 := F0 m 56 ls [.ref (ad (8 + v1.toNatClampNeg)), .ref (ad 36)]) rfl ?_
        refine lv_iload_n hx hb dX8_ways_56 rfl (lv_at hl 2 rfl) ?_
        obtain ⟨J_3, hg_3, hf⟩ := bd_some hf
        refine xVv (rest := []) (c_X6_fuseWith l dC dI ad cI cJ cT v1.toNatClampNeg (x_lt8 h_2) v3 I J hg_3) hfix (cwV 2 hts gX8_ways_X6_fuseWith rfl rfl rfl (by decide +kernel) ⟨Nat.le_of_ble_eq_true rfl, Nat.le_of_ble_eq_true rfl⟩) hK hP hD hS hA (va_recv hK hP (ci := 5) (q0 := 36) rfl (obB_36 ad cI cJ cT I J)) rfl hl.1 rfl (Nat.le_of_ble_eq_true rfl) ⟨Nat.zero_le _, Nat.zero_le _⟩ dX8_ways_57 (fun H locs hP hD hS => ?_)
        refine lv_iinc (v := (v6 + (1 : Int32))) (lv' := [(6, .int (v6 + (1 : Int32))), (0, .ref (ad 38)), (1, .int v1), (3, .int v3), (4, .int v4), (5, .int v5)]) hx hb dX8_ways_60 hl (k := 5) rfl (by first | rfl | decide) (by decide) rfl (fun ls hl => ?_)
        refine lv_goto (tgt := 39) hx hb dX8_ways_63 (by decide) ?_
        exact ih _ _ _ _ _ hf hP hD hS (lv_sub hl [1, 2, 3, 4, 5, 0] rfl)
  unfold f_X8_ways at hf
  refine lv_aload_n hx hb dX8_ways_0 rfl (lv_at hl 0 rfl) ?_
  refine lv_iload_n hx hb dX8_ways_1 rfl (lv_at hl 1 rfl) ?_
  refine lv_iload_n hx hb dX8_ways_2 rfl (lv_at hl 2 rfl) ?_
  refine lv_iload_n hx hb dX8_ways_3 rfl (lv_at hl 3 rfl) ?_
  refine lv_iload hx hb dX8_ways_4 (lv_at hl 5 rfl) ?_
  obtain ⟨r_4, hg_4, hf⟩ := bd_some hf
  refine xVi (rest := []) (c_X8_isPlace l dC dI ad cI cJ cT p1 p2 p3 p5 I J hg_4) hfix (cwV 4 hts gX8_ways_X8_isPlace rfl rfl rfl (by decide +kernel) ⟨Nat.le_of_ble_eq_true rfl, Nat.le_of_ble_eq_true rfl⟩) hK hP hD hS hA (va_recv hK hP (ci := 7) (q0 := 38) rfl (obB_38 ad cI cJ cT I J)) rfl hl.1 rfl (Nat.le_of_ble_eq_true rfl) ⟨Nat.zero_le _, Nat.zero_le _⟩ dX8_ways_6 (fun H locs hP hD hS => ?_)
  refine lv_if_eq (tgt := 24) hx hb dX8_ways_9 (by decide) (fun c_5 => ?_) (fun c_5 => ?_)
  · have hf := (if_pos c_5).symm.trans hf
    refine lv_ldc2 (v := (-2 : Int64)) hx hb hown wd_2 dX8_ways_24 ?_
    cases hf
    exact xRl hx hb hr hlocks hK hP hD hS (fun _ h => h) dX8_ways_27
  · have hf := (if_neg c_5).symm.trans hf
    refine lv_iload hx hb dX8_ways_12 (lv_at hl 4 rfl) ?_
    refine lv_if_lt (tgt := 24) hx hb dX8_ways_14 (by decide) (fun c_6 => ?_) (fun c_6 => ?_)
    · have hf := (if_pos c_6).symm.trans hf
      refine lv_ldc2 (v := (-2 : Int64)) hx hb hown wd_2 dX8_ways_24 ?_
      cases hf
      exact xRl hx hb hr hlocks hK hP hD hS (fun _ h => h) dX8_ways_27
    · have hf := (if_neg c_6).symm.trans hf
      refine lv_iload hx hb dX8_ways_17 (lv_at hl 4 rfl) ?_
      refine lv_bipush (v := (12 : Int32)) hx hb dX8_ways_19 (by decide) ?_
      refine lv_icmp_le (tgt := 28) hx hb dX8_ways_21 (by decide) (fun c_7 => ?_) (fun c_7 => ?_)
      · have hf := (if_pos c_7).symm.trans hf
        refine lv_aload_n hx hb dX8_ways_28 rfl (lv_at hl 0 rfl) ?_
        refine va_get (D := (dC, dI)) (ci := 7) (v := .ref (ad 36)) (C := RX8) (T := TX8) (N := 10) hx hb hts in_X8 hown hK hP 38 (obB_38 ad cI cJ cT I J) rfl 3 (by decide) wd_0 (fun _ h9 => h9) rfl dX8_ways_29 ?_
        refine lv_iload_n hx hb dX8_ways_32 rfl (lv_at hl 2 rfl) ?_
        obtain ⟨J_8, hg_8, hf⟩ := bd_some hf
        refine xVv (rest := []) (c_X6_begin l dC dI ad cI cJ cT p2 I J hg_8) hfix (cwV 1 hts gX8_ways_X6_begin rfl rfl rfl (by decide +kernel) ⟨Nat.le_of_ble_eq_true rfl, Nat.le_of_ble_eq_true rfl⟩) hK hP hD hS hA (va_recv hK hP (ci := 5) (q0 := 36) rfl (obB_36 ad cI cJ cT I J)) rfl hl.1 rfl (Nat.le_of_ble_eq_true rfl) ⟨Nat.zero_le _, Nat.zero_le _⟩ dX8_ways_33 (fun H locs hP hD hS => ?_)
        refine lv_iconst (v := (0 : Int32)) hx hb dX8_ways_36 (by decide) ?_
        refine lv_istore (lv' := [(6, .int (0 : Int32)), (0, .ref (ad 38)), (1, .int p1), (2, .int p2), (3, .int p3), (4, .int p4), (5, .int p5)]) hx hb dX8_ways_37 hl (by decide) rfl (fun ls hl => ?_)
        obtain ⟨o_9, hg_9, hf⟩ := bd_some hf
        refine L39 _ p1 p3 p4 p5 I o_9 ?_ FU (0 : Int32) J_8 _ _ _ hg_9 hP hD hS (lv_sub hl [1, 2, 4, 5, 6, 0] rfl)
        · intro J_9 H locs ls ho hP hD hS hl
          subst o_9
          refine lv_aload_n hx hb dX8_ways_66 rfl (lv_at hl 0 rfl) ?_
          refine va_get (D := (dC, dI)) (ci := 7) (v := .ref (ad 36)) (C := RX8) (T := TX8) (N := 10) hx hb hts in_X8 hown hK hP 38 (obB_38 ad cI cJ cT I J_9) rfl 3 (by decide) wd_0 (fun _ h9 => h9) rfl dX8_ways_67 ?_
          refine va_get (D := (dC, dI)) (ci := 5) (v := .ref (ad 34)) (C := RX6) (T := TX6) (N := 2) hx hb hts in_X6 hown hK hP 36 (obB_36 ad cI cJ cT I J_9) rfl 0 (by decide) wd_3 (fun _ h9 => h9) rfl dX8_ways_70 ?_
          refine lv_iload hx hb dX8_ways_73 (lv_at hl 1 rfl) ?_
          obtain ⟨h_10, hf⟩ := gd_some hf
          refine x_lald hx hb hK (aiB_34 ad cI cJ cT) hP h_10 dX8_ways_75 ?_
          cases hf
          exact xRl hx hb hr hlocks hK hP hD hS (fun _ h => h) dX8_ways_76
      · have hf := (if_neg c_7).symm.trans hf
        refine lv_ldc2 (v := (-2 : Int64)) hx hb hown wd_2 dX8_ways_24 ?_
        cases hf
        exact xRl hx hb hr hlocks hK hP hD hS (fun _ h => h) dX8_ways_27
set_option maxHeartbeats 4000000 in
set_option maxRecDepth 100000 in
theorem c_X8_isSet (l : Launch) (dC : Nat → ClassId) (dI : Nat → Nat → Nat) (ad : Nat → Nat) (cI cJ cT : ClassId) (p1 : Int32) (p2 : Int32) (I : SI) (J : SJ) {r0 : Int32} (hf : f_X8_isSet p1 p2 I = some r0) : CtI l yX8_isSet wsX8_isSet ({ frames := 1, cells := 0, slots := 0, locals := 20 } : Room) (dC, dI) (tys3 cI cJ cT) (wB ad cI cJ cT) [.ref (ad 38), .int p1, .int p2] I J r0 I J := by
  intro sz
  refine Met.ofW (cc := cX8_isSet) (maxL := 3) (ret := (some .boolean)) (by decide) rfl ?_
  intro p e s m args below meth c s₁ B hml hv
  obtain ⟨hargs, hsz, hP, hK, hD0⟩ := hv
  have hx := B.exec
  have hb := B.bytes
  have hr := B.returns
  have hts := atoms_spec (ws := wsX8_isSet) B.pre
  have hown : s.vm.findClass RX8 = some m.cls := findClass_of_methodNamed B.named
  have hlocks := B.notSynchronized
  subst hsz
  have hD := hD0.self (sz := s.heap.size)
  generalize hAe : va_A ((wB ad cI cJ cT) I J) s.heap.size = A at hD ⊢
  have hA : ∀ q : Nat, s.heap.size ≤ q → A q := fun q h => by rw [← hAe]; exact Or.inr h
  have hS : va_S A s.heap s.heap [] := va_S.rf
  have hl := lv_entry ([.ref (ad 38), .int p1, .int p2]) (n := 3) (Nat.le_of_ble_eq_true rfl)
  rw [hargs, lg_entry_eq, ← hargs]
  generalize (lg_sl ([.ref (ad 38), .int p1, .int p2]) ++ List.replicate (3 - (lg_sl ([.ref (ad 38), .int p1, .int p2])).length) Slot.unset).toArray = ls at hl ⊢
  have hl : lv_has ls 3 [(0, .ref (ad 38)), (1, .int p1), (2, .int p2)] := hl
  have hfix : CallFix p m c cX8_isSet 3 s args wsX8_isSet RX8 := ⟨hx, hb, hml, hown, hts⟩
  have in_X8 : ∀ w ∈ u_ws RX8 TX8 10, w ∈ wsX8_isSet := by decide +kernel
  have in_X7 : ∀ w ∈ u_ws RX7 TX7 2, w ∈ wsX8_isSet := by decide +kernel
  have wd_0 := hts (.fieldLink RX8 11 "FuseBench" "tables" "[LFuseBench$Table;") (by decide +kernel)
  have wd_1 := hts (.fieldLink RX8 111 "FuseBench$Table" "kinds" "I") (by decide +kernel)
  unfold f_X8_isSet at hf
  refine lv_iload_n hx hb dX8_isSet_0 rfl (lv_at hl 1 rfl) ?_
  obtain ⟨r_1, hg_1, hf⟩ := bd_some hf
  refine xSi (rest := []) (c_X8_isTable l dC dI ad cI cJ cT p1 I J hg_1) hfix (va_cwS 1 hts gX8_isSet_X8_isTable rfl rfl rfl (by decide +kernel) ⟨Nat.le_of_ble_eq_true rfl, Nat.le_of_ble_eq_true rfl⟩) hK hP hD hS hA rfl hl.1 rfl (Nat.le_of_ble_eq_true rfl) ⟨Nat.zero_le _, Nat.zero_le _⟩ dX8_isSet_1 (fun H locs hP hD hS => ?_)
  refine lv_if_eq (tgt := 30) hx hb dX8_isSet_4 (by decide) (fun c_2 => ?_) (fun c_2 => ?_)
  · have hf := (if_pos c_2).symm.trans hf
    refine lv_iconst (v := (0 : Int32)) hx hb dX8_isSet_30 (by decide) ?_
    cases hf
    exact xRz hx hb hr hlocks rfl hK hP hD hS (fun _ h => h) dX8_isSet_31
  · have hf := (if_neg c_2).symm.trans hf
    refine lv_iload_n hx hb dX8_isSet_7 rfl (lv_at hl 2 rfl) ?_
    refine lv_if_lt (tgt := 30) hx hb dX8_isSet_8 (by decide) (fun c_3 => ?_) (fun c_3 => ?_)
    · have hf := (if_pos c_3).symm.trans hf
      refine lv_iconst (v := (0 : Int32)) hx hb dX8_isSet_30 (by decide) ?_
      cases hf
      exact xRz hx hb hr hlocks rfl hK hP hD hS (fun _ h => h) dX8_isSet_31
    · have hf := (if_neg c_3).symm.trans hf
      refine lv_iload_n hx hb dX8_isSet_11 rfl (lv_at hl 2 rfl) ?_
      refine lv_iconst (v := (1 : Int32)) hx hb dX8_isSet_12 (by decide) ?_
      refine lv_aload_n hx hb dX8_isSet_13 rfl (lv_at hl 0 rfl) ?_
      refine va_get (D := (dC, dI)) (ci := 7) (v := .ref (ad 37)) (C := RX8) (T := TX8) (N := 10) hx hb hts in_X8 hown hK hP 38 (obB_38 ad cI cJ cT I J) rfl 0 (by decide) wd_0 (fun _ h9 => h9) rfl dX8_isSet_14 ?_
      refine lv_iload_n hx hb dX8_isSet_17 rfl (lv_at hl 1 rfl) ?_
      obtain ⟨h_4, hf⟩ := gd_some hf
      refine va_aldq hx hb hK hP 37 2 (aiB_37 ad cI cJ cT I J) rfl h_4 dX8_isSet_18 ?_
      refine W.eq (g2 := F0 m 19 ls [.ref (ad (8 + p1.toNatClampNeg)), .int (1 : Int32), .int p2]) rfl ?_
      refine va_get (D := (dC, dI)) (ci := 6) (v := .int (I (8 + p1.toNatClampNeg) 0)) (C := RX7) (T := TX7) (N := 2) hx hb hts in_X7 hown hK hP (8 + p1.toNatClampNeg) (((wBT ad cI cJ cT (x_lt8 h_4))).2.1 I J) rfl 1 (by decide) wd_1 (fun _ h9 => h9) rfl dX8_isSet_19 ?_
      refine lv_ishl hx hb dX8_isSet_22 ?_
      refine lv_icmp_ge (tgt := 30) hx hb dX8_isSet_23 (by decide) (fun c_5 => ?_) (fun c_5 => ?_)
      · have hf := (if_pos c_5).symm.trans hf
        refine lv_iconst (v := (0 : Int32)) hx hb dX8_isSet_30 (by decide) ?_
        cases hf
        exact xRz hx hb hr hlocks rfl hK hP hD hS (fun _ h => h) dX8_isSet_31
      · have hf := (if_neg c_5).symm.trans hf
        refine lv_iconst (v := (1 : Int32)) hx hb dX8_isSet_26 (by decide) ?_
        refine lv_goto (tgt := 31) hx hb dX8_isSet_27 (by decide) ?_
        cases hf
        exact xRz hx hb hr hlocks rfl hK hP hD hS (fun _ h => h) dX8_isSet_31
set_option maxHeartbeats 4000000 in
set_option maxRecDepth 100000 in
theorem c_X8_closed (l : Launch) (dC : Nat → ClassId) (dI : Nat → Nat → Nat) (ad : Nat → Nat) (cI cJ cT : ClassId) (p1 : Int32) (p2 : Int32) (I : SI) (J : SJ) {r0 : Int32} {I0 : SI} (hf : f_X8_closed p1 p2 I = some (r0, I0)) : CtI l yX8_closed wsX8_closed ({ frames := 6, cells := 0, slots := 0, locals := 138 } : Room) (dC, dI) (tys3 cI cJ cT) (wB ad cI cJ cT) [.ref (ad 38), .int p1, .int p2] I J r0 I0 J := by
  intro sz
  refine Met.ofW (cc := cX8_closed) (maxL := 3) (ret := (some .int)) (by decide) rfl ?_
  intro p e s m args below meth c s₁ B hml hv
  obtain ⟨hargs, hsz, hP, hK, hD0⟩ := hv
  have hx := B.exec
  have hb := B.bytes
  have hr := B.returns
  have hts := atoms_spec (ws := wsX8_closed) B.pre
  have hown : s.vm.findClass RX8 = some m.cls := findClass_of_methodNamed B.named
  have hlocks := B.notSynchronized
  subst hsz
  have hD := hD0.self (sz := s.heap.size)
  generalize hAe : va_A ((wB ad cI cJ cT) I J) s.heap.size = A at hD ⊢
  have hA : ∀ q : Nat, s.heap.size ≤ q → A q := fun q h => by rw [← hAe]; exact Or.inr h
  have hS : va_S A s.heap s.heap [] := va_S.rf
  have hl := lv_entry ([.ref (ad 38), .int p1, .int p2]) (n := 3) (Nat.le_of_ble_eq_true rfl)
  rw [hargs, lg_entry_eq, ← hargs]
  generalize (lg_sl ([.ref (ad 38), .int p1, .int p2]) ++ List.replicate (3 - (lg_sl ([.ref (ad 38), .int p1, .int p2])).length) Slot.unset).toArray = ls at hl ⊢
  have hl : lv_has ls 3 [(0, .ref (ad 38)), (1, .int p1), (2, .int p2)] := hl
  have hfix : CallFix p m c cX8_closed 3 s args wsX8_closed RX8 := ⟨hx, hb, hml, hown, hts⟩
  have in_X8 : ∀ w ∈ u_ws RX8 TX8 10, w ∈ wsX8_closed := by decide +kernel
  have in_X1 : ∀ w ∈ u_ws RX1 TX1 3, w ∈ wsX8_closed := by decide +kernel
  have wd_0 := hts (.fieldLink RX8 11 "FuseBench" "tables" "[LFuseBench$Table;") (by decide +kernel)
  have wd_1 := hts (.fieldLink RX8 23 "FuseBench" "laws" "LFuseBench$Laws;") (by decide +kernel)
  have wd_2 := hts (.fieldLink RX8 104 "FuseBench$Laws" "partners" "[I") (by decide +kernel)
  unfold f_X8_closed at hf
  refine lv_aload_n hx hb dX8_closed_0 rfl (lv_at hl 0 rfl) ?_
  refine lv_iload_n hx hb dX8_closed_1 rfl (lv_at hl 1 rfl) ?_
  refine lv_iload_n hx hb dX8_closed_2 rfl (lv_at hl 2 rfl) ?_
  obtain ⟨r_1, hg_1, hf⟩ := bd_some hf
  refine xVi (rest := []) (c_X8_isSet l dC dI ad cI cJ cT p1 p2 I J hg_1) hfix (cwV 2 hts gX8_closed_X8_isSet rfl rfl rfl (by decide +kernel) ⟨Nat.le_of_ble_eq_true rfl, Nat.le_of_ble_eq_true rfl⟩) hK hP hD hS hA (va_recv hK hP (ci := 7) (q0 := 38) rfl (obB_38 ad cI cJ cT I J)) rfl hl.1 rfl (Nat.le_of_ble_eq_true rfl) ⟨Nat.zero_le _, Nat.zero_le _⟩ dX8_closed_3 (fun H locs hP hD hS => ?_)
  refine lv_if_eq (tgt := 13) hx hb dX8_closed_6 (by decide) (fun c_2 => ?_) (fun c_2 => ?_)
  · have hf := (if_pos c_2).symm.trans hf
    refine lv_bipush (v := (-2 : Int32)) hx hb dX8_closed_13 (by decide) ?_
    cases hf
    exact xRi hx hb hr hlocks hK hP hD hS (fun _ h => h) dX8_closed_15
  · have hf := (if_neg c_2).symm.trans hf
    refine lv_iload_n hx hb dX8_closed_9 rfl (lv_at hl 2 rfl) ?_
    refine lv_if_ne (tgt := 16) hx hb dX8_closed_10 (by decide) (fun c_3 => ?_) (fun c_3 => ?_)
    · have hf := (if_neg c_3).symm.trans hf
      refine lv_aload_n hx hb dX8_closed_16 rfl (lv_at hl 0 rfl) ?_
      refine lv_iload_n hx hb dX8_closed_17 rfl (lv_at hl 1 rfl) ?_
      obtain ⟨⟨r_4, I_4⟩, hg_4, hf⟩ := bd_some hf
      refine xVi (rest := []) (c_X8_isRight l dC dI ad cI cJ cT p1 I J hg_4) hfix (cwV 1 hts gX8_closed_X8_isRight rfl rfl rfl (by decide +kernel) ⟨Nat.le_of_ble_eq_true rfl, Nat.le_of_ble_eq_true rfl⟩) hK hP hD hS hA (va_recv hK hP (ci := 7) (q0 := 38) rfl (obB_38 ad cI cJ cT I J)) rfl hl.1 rfl (Nat.le_of_ble_eq_true rfl) ⟨Nat.zero_le _, Nat.zero_le _⟩ dX8_closed_18 (fun H locs hP hD hS => ?_)
      refine lv_if_ne (tgt := 27) hx hb dX8_closed_21 (by decide) (fun c_5 => ?_) (fun c_5 => ?_)
      · have hf := (if_neg c_5).symm.trans hf
        refine lv_aload_n hx hb dX8_closed_27 rfl (lv_at hl 0 rfl) ?_
        refine va_get (D := (dC, dI)) (ci := 7) (v := .ref (ad 37)) (C := RX8) (T := TX8) (N := 10) hx hb hts in_X8 hown hK hP 38 (obB_38 ad cI cJ cT I_4 J) rfl 0 (by decide) wd_0 (fun _ h9 => h9) rfl dX8_closed_28 ?_
        refine lv_iload_n hx hb dX8_closed_31 rfl (lv_at hl 1 rfl) ?_
        obtain ⟨h_6, hf⟩ := gd_some hf
        refine va_aldq hx hb hK hP 37 2 (aiB_37 ad cI cJ cT I_4 J) rfl h_6 dX8_closed_32 ?_
        refine W.eq (g2 := F0 m 33 ls [.ref (ad (8 + p1.toNatClampNeg))]) rfl ?_
        refine lv_aload_n hx hb dX8_closed_33 rfl (lv_at hl 0 rfl) ?_
        refine va_get (D := (dC, dI)) (ci := 7) (v := .ref (ad 18)) (C := RX8) (T := TX8) (N := 10) hx hb hts in_X8 hown hK hP 38 (obB_38 ad cI cJ cT I_4 J) rfl 2 (by decide) wd_1 (fun _ h9 => h9) rfl dX8_closed_34 ?_
        refine va_get (D := (dC, dI)) (ci := 1) (v := .ref (ad 17)) (C := RX1) (T := TX1) (N := 3) hx hb hts in_X1 hown hK hP 18 (obB_18 ad cI cJ cT I_4 J) rfl 1 (by decide) wd_2 (fun _ h9 => h9) rfl dX8_closed_37 ?_
        refine lv_iload_n hx hb dX8_closed_40 rfl (lv_at hl 2 rfl) ?_
        obtain ⟨r_7, hg_7, hf⟩ := bd_some hf
        refine xSi (rest := []) (c_X5_closure l dC dI ad cI cJ cT p1.toNatClampNeg (x_lt8 h_6) p2 I_4 J hg_7) hfix (va_cwS 3 hts gX8_closed_X5_closure rfl rfl rfl (by decide +kernel) ⟨Nat.le_of_ble_eq_true rfl, Nat.le_of_ble_eq_true rfl⟩) hK hP hD hS hA rfl hl.1 rfl (Nat.le_of_ble_eq_true rfl) ⟨Nat.zero_le _, Nat.zero_le _⟩ dX8_closed_41 (fun H locs hP hD hS => ?_)
        refine lv_iload_n hx hb dX8_closed_44 rfl (lv_at hl 2 rfl) ?_
        refine lv_icmp_ne (tgt := 52) hx hb dX8_closed_45 (by decide) (fun c_8 => ?_) (fun c_8 => ?_)
        · have hf := (if_neg c_8).symm.trans hf
          refine lv_iconst (v := (0 : Int32)) hx hb dX8_closed_52 (by decide) ?_
          cases hf
          exact xRi hx hb hr hlocks hK hP hD hS (fun _ h => h) dX8_closed_53
        · have hf := (if_pos c_8).symm.trans hf
          refine lv_iconst (v := (1 : Int32)) hx hb dX8_closed_48 (by decide) ?_
          refine lv_goto (tgt := 53) hx hb dX8_closed_49 (by decide) ?_
          cases hf
          exact xRi hx hb hr hlocks hK hP hD hS (fun _ h => h) dX8_closed_53
      · have hf := (if_pos c_5).symm.trans hf
        refine lv_bipush (v := (-3 : Int32)) hx hb dX8_closed_24 (by decide) ?_
        cases hf
        exact xRi hx hb hr hlocks hK hP hD hS (fun _ h => h) dX8_closed_26
    · have hf := (if_pos c_3).symm.trans hf
      refine lv_bipush (v := (-2 : Int32)) hx hb dX8_closed_13 (by decide) ?_
      cases hf
      exact xRi hx hb hr hlocks hK hP hD hS (fun _ h => h) dX8_closed_15
set_option maxHeartbeats 4000000 in
set_option maxRecDepth 100000 in
theorem c_X8_least (l : Launch) (dC : Nat → ClassId) (dI : Nat → Nat → Nat) (ad : Nat → Nat) (cI cJ cT : ClassId) (p1 : Int32) (p2 : Int32) (I : SI) (J : SJ) {r0 : Int32} {I0 : SI} (hf : f_X8_least p1 p2 I = some (r0, I0)) : CtI l yX8_least wsX8_least ({ frames := 6, cells := 0, slots := 0, locals := 138 } : Room) (dC, dI) (tys3 cI cJ cT) (wB ad cI cJ cT) [.ref (ad 38), .int p1, .int p2] I J r0 I0 J := by
  intro sz
  refine Met.ofW (cc := cX8_least) (maxL := 3) (ret := (some .int)) (by decide) rfl ?_
  intro p e s m args below meth c s₁ B hml hv
  obtain ⟨hargs, hsz, hP, hK, hD0⟩ := hv
  have hx := B.exec
  have hb := B.bytes
  have hr := B.returns
  have hts := atoms_spec (ws := wsX8_least) B.pre
  have hown : s.vm.findClass RX8 = some m.cls := findClass_of_methodNamed B.named
  have hlocks := B.notSynchronized
  subst hsz
  have hD := hD0.self (sz := s.heap.size)
  generalize hAe : va_A ((wB ad cI cJ cT) I J) s.heap.size = A at hD ⊢
  have hA : ∀ q : Nat, s.heap.size ≤ q → A q := fun q h => by rw [← hAe]; exact Or.inr h
  have hS : va_S A s.heap s.heap [] := va_S.rf
  have hl := lv_entry ([.ref (ad 38), .int p1, .int p2]) (n := 3) (Nat.le_of_ble_eq_true rfl)
  rw [hargs, lg_entry_eq, ← hargs]
  generalize (lg_sl ([.ref (ad 38), .int p1, .int p2]) ++ List.replicate (3 - (lg_sl ([.ref (ad 38), .int p1, .int p2])).length) Slot.unset).toArray = ls at hl ⊢
  have hl : lv_has ls 3 [(0, .ref (ad 38)), (1, .int p1), (2, .int p2)] := hl
  have hfix : CallFix p m c cX8_least 3 s args wsX8_least RX8 := ⟨hx, hb, hml, hown, hts⟩
  have in_X8 : ∀ w ∈ u_ws RX8 TX8 10, w ∈ wsX8_least := by decide +kernel
  have in_X1 : ∀ w ∈ u_ws RX1 TX1 3, w ∈ wsX8_least := by decide +kernel
  have wd_0 := hts (.fieldLink RX8 11 "FuseBench" "tables" "[LFuseBench$Table;") (by decide +kernel)
  have wd_1 := hts (.fieldLink RX8 23 "FuseBench" "laws" "LFuseBench$Laws;") (by decide +kernel)
  have wd_2 := hts (.fieldLink RX8 104 "FuseBench$Laws" "partners" "[I") (by decide +kernel)
  unfold f_X8_least at hf
  refine lv_aload_n hx hb dX8_least_0 rfl (lv_at hl 0 rfl) ?_
  refine lv_iload_n hx hb dX8_least_1 rfl (lv_at hl 1 rfl) ?_
  refine lv_iload_n hx hb dX8_least_2 rfl (lv_at hl 2 rfl) ?_
  obtain ⟨r_1, hg_1, hf⟩ := bd_some hf
  refine xVi (rest := []) (c_X8_isSet l dC dI ad cI cJ cT p1 p2 I J hg_1) hfix (cwV 2 hts gX8_least_X8_isSet rfl rfl rfl (by decide +kernel) ⟨Nat.le_of_ble_eq_true rfl, Nat.le_of_ble_eq_true rfl⟩) hK hP hD hS hA (va_recv hK hP (ci := 7) (q0 := 38) rfl (obB_38 ad cI cJ cT I J)) rfl hl.1 rfl (Nat.le_of_ble_eq_true rfl) ⟨Nat.zero_le _, Nat.zero_le _⟩ dX8_least_3 (fun H locs hP hD hS => ?_)
  refine lv_if_ne (tgt := 12) hx hb dX8_least_6 (by decide) (fun c_2 => ?_) (fun c_2 => ?_)
  · have hf := (if_neg c_2).symm.trans hf
    refine lv_aload_n hx hb dX8_least_12 rfl (lv_at hl 0 rfl) ?_
    refine lv_iload_n hx hb dX8_least_13 rfl (lv_at hl 1 rfl) ?_
    obtain ⟨⟨r_3, I_3⟩, hg_3, hf⟩ := bd_some hf
    refine xVi (rest := []) (c_X8_isRight l dC dI ad cI cJ cT p1 I J hg_3) hfix (cwV 1 hts gX8_least_X8_isRight rfl rfl rfl (by decide +kernel) ⟨Nat.le_of_ble_eq_true rfl, Nat.le_of_ble_eq_true rfl⟩) hK hP hD hS hA (va_recv hK hP (ci := 7) (q0 := 38) rfl (obB_38 ad cI cJ cT I J)) rfl hl.1 rfl (Nat.le_of_ble_eq_true rfl) ⟨Nat.zero_le _, Nat.zero_le _⟩ dX8_least_14 (fun H locs hP hD hS => ?_)
    refine lv_if_eq (tgt := 40) hx hb dX8_least_17 (by decide) (fun c_4 => ?_) (fun c_4 => ?_)
    · have hf := (if_pos c_4).symm.trans hf
      refine lv_bipush (v := (-3 : Int32)) hx hb dX8_least_40 (by decide) ?_
      cases hf
      exact xRi hx hb hr hlocks hK hP hD hS (fun _ h => h) dX8_least_42
    · have hf := (if_neg c_4).symm.trans hf
      refine lv_aload_n hx hb dX8_least_20 rfl (lv_at hl 0 rfl) ?_
      refine va_get (D := (dC, dI)) (ci := 7) (v := .ref (ad 37)) (C := RX8) (T := TX8) (N := 10) hx hb hts in_X8 hown hK hP 38 (obB_38 ad cI cJ cT I_3 J) rfl 0 (by decide) wd_0 (fun _ h9 => h9) rfl dX8_least_21 ?_
      refine lv_iload_n hx hb dX8_least_24 rfl (lv_at hl 1 rfl) ?_
      obtain ⟨h_5, hf⟩ := gd_some hf
      refine va_aldq hx hb hK hP 37 2 (aiB_37 ad cI cJ cT I_3 J) rfl h_5 dX8_least_25 ?_
      refine W.eq (g2 := F0 m 26 ls [.ref (ad (8 + p1.toNatClampNeg))]) rfl ?_
      refine lv_aload_n hx hb dX8_least_26 rfl (lv_at hl 0 rfl) ?_
      refine va_get (D := (dC, dI)) (ci := 7) (v := .ref (ad 18)) (C := RX8) (T := TX8) (N := 10) hx hb hts in_X8 hown hK hP 38 (obB_38 ad cI cJ cT I_3 J) rfl 2 (by decide) wd_1 (fun _ h9 => h9) rfl dX8_least_27 ?_
      refine va_get (D := (dC, dI)) (ci := 1) (v := .ref (ad 17)) (C := RX1) (T := TX1) (N := 3) hx hb hts in_X1 hown hK hP 18 (obB_18 ad cI cJ cT I_3 J) rfl 1 (by decide) wd_2 (fun _ h9 => h9) rfl dX8_least_30 ?_
      refine lv_iload_n hx hb dX8_least_33 rfl (lv_at hl 2 rfl) ?_
      obtain ⟨r_6, hg_6, hf⟩ := bd_some hf
      refine xSi (rest := []) (c_X5_closure l dC dI ad cI cJ cT p1.toNatClampNeg (x_lt8 h_5) p2 I_3 J hg_6) hfix (va_cwS 3 hts gX8_least_X5_closure rfl rfl rfl (by decide +kernel) ⟨Nat.le_of_ble_eq_true rfl, Nat.le_of_ble_eq_true rfl⟩) hK hP hD hS hA rfl hl.1 rfl (Nat.le_of_ble_eq_true rfl) ⟨Nat.zero_le _, Nat.zero_le _⟩ dX8_least_34 (fun H locs hP hD hS => ?_)
      refine lv_goto (tgt := 42) hx hb dX8_least_37 (by decide) ?_
      cases hf
      exact xRi hx hb hr hlocks hK hP hD hS (fun _ h => h) dX8_least_42
  · have hf := (if_pos c_2).symm.trans hf
    refine lv_bipush (v := (-2 : Int32)) hx hb dX8_least_9 (by decide) ?_
    cases hf
    exact xRi hx hb hr hlocks hK hP hD hS (fun _ h => h) dX8_least_11
set_option maxHeartbeats 4000000 in
set_option maxRecDepth 100000 in
theorem c_X8_core (l : Launch) (dC : Nat → ClassId) (dI : Nat → Nat → Nat) (ad : Nat → Nat) (cI cJ cT : ClassId) (p1 : Int32) (I : SI) (J : SJ) {r0 : Int32} {I0 : SI} (hf : f_X8_core p1 I = some (r0, I0)) : CtI l yX8_core wsX8_core ({ frames := 6, cells := 0, slots := 0, locals := 141 } : Room) (dC, dI) (tys3 cI cJ cT) (wB ad cI cJ cT) [.ref (ad 38), .int p1] I J r0 I0 J := by
  intro sz
  refine Met.ofW (cc := cX8_core) (maxL := 2) (ret := (some .int)) (by decide) rfl ?_
  intro p e s m args below meth c s₁ B hml hv
  obtain ⟨hargs, hsz, hP, hK, hD0⟩ := hv
  have hx := B.exec
  have hb := B.bytes
  have hr := B.returns
  have hts := atoms_spec (ws := wsX8_core) B.pre
  have hown : s.vm.findClass RX8 = some m.cls := findClass_of_methodNamed B.named
  have hlocks := B.notSynchronized
  subst hsz
  have hD := hD0.self (sz := s.heap.size)
  generalize hAe : va_A ((wB ad cI cJ cT) I J) s.heap.size = A at hD ⊢
  have hA : ∀ q : Nat, s.heap.size ≤ q → A q := fun q h => by rw [← hAe]; exact Or.inr h
  have hS : va_S A s.heap s.heap [] := va_S.rf
  have hl := lv_entry ([.ref (ad 38), .int p1]) (n := 2) (Nat.le_of_ble_eq_true rfl)
  rw [hargs, lg_entry_eq, ← hargs]
  generalize (lg_sl ([.ref (ad 38), .int p1]) ++ List.replicate (2 - (lg_sl ([.ref (ad 38), .int p1])).length) Slot.unset).toArray = ls at hl ⊢
  have hl : lv_has ls 2 [(0, .ref (ad 38)), (1, .int p1)] := hl
  have hfix : CallFix p m c cX8_core 2 s args wsX8_core RX8 := ⟨hx, hb, hml, hown, hts⟩
  have in_X8 : ∀ w ∈ u_ws RX8 TX8 10, w ∈ wsX8_core := by decide +kernel
  have in_X1 : ∀ w ∈ u_ws RX1 TX1 3, w ∈ wsX8_core := by decide +kernel
  have wd_0 := hts (.fieldLink RX8 11 "FuseBench" "tables" "[LFuseBench$Table;") (by decide +kernel)
  have wd_1 := hts (.fieldLink RX8 23 "FuseBench" "laws" "LFuseBench$Laws;") (by decide +kernel)
  have wd_2 := hts (.fieldLink RX8 104 "FuseBench$Laws" "partners" "[I") (by decide +kernel)
  unfold f_X8_core at hf
  refine lv_iload_n hx hb dX8_core_0 rfl (lv_at hl 1 rfl) ?_
  obtain ⟨r_1, hg_1, hf⟩ := bd_some hf
  refine xSi (rest := []) (c_X8_isTable l dC dI ad cI cJ cT p1 I J hg_1) hfix (va_cwS 1 hts gX8_core_X8_isTable rfl rfl rfl (by decide +kernel) ⟨Nat.le_of_ble_eq_true rfl, Nat.le_of_ble_eq_true rfl⟩) hK hP hD hS hA rfl hl.1 rfl (Nat.le_of_ble_eq_true rfl) ⟨Nat.zero_le _, Nat.zero_le _⟩ dX8_core_1 (fun H locs hP hD hS => ?_)
  refine lv_if_ne (tgt := 10) hx hb dX8_core_4 (by decide) (fun c_2 => ?_) (fun c_2 => ?_)
  · have hf := (if_neg c_2).symm.trans hf
    refine lv_aload_n hx hb dX8_core_10 rfl (lv_at hl 0 rfl) ?_
    refine lv_iload_n hx hb dX8_core_11 rfl (lv_at hl 1 rfl) ?_
    obtain ⟨⟨r_3, I_3⟩, hg_3, hf⟩ := bd_some hf
    refine xVi (rest := []) (c_X8_isRight l dC dI ad cI cJ cT p1 I J hg_3) hfix (cwV 1 hts gX8_core_X8_isRight rfl rfl rfl (by decide +kernel) ⟨Nat.le_of_ble_eq_true rfl, Nat.le_of_ble_eq_true rfl⟩) hK hP hD hS hA (va_recv hK hP (ci := 7) (q0 := 38) rfl (obB_38 ad cI cJ cT I J)) rfl hl.1 rfl (Nat.le_of_ble_eq_true rfl) ⟨Nat.zero_le _, Nat.zero_le _⟩ dX8_core_12 (fun H locs hP hD hS => ?_)
    refine lv_if_eq (tgt := 37) hx hb dX8_core_15 (by decide) (fun c_4 => ?_) (fun c_4 => ?_)
    · have hf := (if_pos c_4).symm.trans hf
      refine lv_bipush (v := (-3 : Int32)) hx hb dX8_core_37 (by decide) ?_
      cases hf
      exact xRi hx hb hr hlocks hK hP hD hS (fun _ h => h) dX8_core_39
    · have hf := (if_neg c_4).symm.trans hf
      refine lv_aload_n hx hb dX8_core_18 rfl (lv_at hl 0 rfl) ?_
      refine va_get (D := (dC, dI)) (ci := 7) (v := .ref (ad 37)) (C := RX8) (T := TX8) (N := 10) hx hb hts in_X8 hown hK hP 38 (obB_38 ad cI cJ cT I_3 J) rfl 0 (by decide) wd_0 (fun _ h9 => h9) rfl dX8_core_19 ?_
      refine lv_iload_n hx hb dX8_core_22 rfl (lv_at hl 1 rfl) ?_
      obtain ⟨h_5, hf⟩ := gd_some hf
      refine va_aldq hx hb hK hP 37 2 (aiB_37 ad cI cJ cT I_3 J) rfl h_5 dX8_core_23 ?_
      refine W.eq (g2 := F0 m 24 ls [.ref (ad (8 + p1.toNatClampNeg))]) rfl ?_
      refine lv_aload_n hx hb dX8_core_24 rfl (lv_at hl 0 rfl) ?_
      refine va_get (D := (dC, dI)) (ci := 7) (v := .ref (ad 18)) (C := RX8) (T := TX8) (N := 10) hx hb hts in_X8 hown hK hP 38 (obB_38 ad cI cJ cT I_3 J) rfl 2 (by decide) wd_1 (fun _ h9 => h9) rfl dX8_core_25 ?_
      refine va_get (D := (dC, dI)) (ci := 1) (v := .ref (ad 17)) (C := RX1) (T := TX1) (N := 3) hx hb hts in_X1 hown hK hP 18 (obB_18 ad cI cJ cT I_3 J) rfl 1 (by decide) wd_2 (fun _ h9 => h9) rfl dX8_core_28 ?_
      obtain ⟨r_6, hg_6, hf⟩ := bd_some hf
      refine xSi (rest := []) (c_X5_innermost l dC dI ad cI cJ cT p1.toNatClampNeg (x_lt8 h_5) I_3 J hg_6) hfix (va_cwS 2 hts gX8_core_X5_innermost rfl rfl rfl (by decide +kernel) ⟨Nat.le_of_ble_eq_true rfl, Nat.le_of_ble_eq_true rfl⟩) hK hP hD hS hA rfl hl.1 rfl (Nat.le_of_ble_eq_true rfl) ⟨Nat.zero_le _, Nat.zero_le _⟩ dX8_core_31 (fun H locs hP hD hS => ?_)
      refine lv_goto (tgt := 39) hx hb dX8_core_34 (by decide) ?_
      cases hf
      exact xRi hx hb hr hlocks hK hP hD hS (fun _ h => h) dX8_core_39
  · have hf := (if_pos c_2).symm.trans hf
    refine lv_bipush (v := (-2 : Int32)) hx hb dX8_core_7 (by decide) ?_
    cases hf
    exact xRi hx hb hr hlocks hK hP hD hS (fun _ h => h) dX8_core_9
set_option maxHeartbeats 4000000 in
set_option maxRecDepth 100000 in
theorem c_X8_grade (l : Launch) (dC : Nat → ClassId) (dI : Nat → Nat → Nat) (ad : Nat → Nat) (cI cJ cT : ClassId) (p1 : Int32) (p2 : Int32) (I : SI) (J : SJ) {r0 : Int32} {I0 : SI} (hf : f_X8_grade p1 p2 I = some (r0, I0)) : CtI l yX8_grade wsX8_grade ({ frames := 6, cells := 0, slots := 0, locals := 141 } : Room) (dC, dI) (tys3 cI cJ cT) (wB ad cI cJ cT) [.ref (ad 38), .int p1, .int p2] I J r0 I0 J := by
  intro sz
  refine Met.ofW (cc := cX8_grade) (maxL := 4) (ret := (some .int)) (by decide) rfl ?_
  intro p e s m args below meth c s₁ B hml hv
  obtain ⟨hargs, hsz, hP, hK, hD0⟩ := hv
  have hx := B.exec
  have hb := B.bytes
  have hr := B.returns
  have hts := atoms_spec (ws := wsX8_grade) B.pre
  have hown : s.vm.findClass RX8 = some m.cls := findClass_of_methodNamed B.named
  have hlocks := B.notSynchronized
  subst hsz
  have hD := hD0.self (sz := s.heap.size)
  generalize hAe : va_A ((wB ad cI cJ cT) I J) s.heap.size = A at hD ⊢
  have hA : ∀ q : Nat, s.heap.size ≤ q → A q := fun q h => by rw [← hAe]; exact Or.inr h
  have hS : va_S A s.heap s.heap [] := va_S.rf
  have hl := lv_entry ([.ref (ad 38), .int p1, .int p2]) (n := 4) (Nat.le_of_ble_eq_true rfl)
  rw [hargs, lg_entry_eq, ← hargs]
  generalize (lg_sl ([.ref (ad 38), .int p1, .int p2]) ++ List.replicate (4 - (lg_sl ([.ref (ad 38), .int p1, .int p2])).length) Slot.unset).toArray = ls at hl ⊢
  have hl : lv_has ls 4 [(0, .ref (ad 38)), (1, .int p1), (2, .int p2)] := hl
  have hfix : CallFix p m c cX8_grade 4 s args wsX8_grade RX8 := ⟨hx, hb, hml, hown, hts⟩
  have in_X8 : ∀ w ∈ u_ws RX8 TX8 10, w ∈ wsX8_grade := by decide +kernel
  have in_X1 : ∀ w ∈ u_ws RX1 TX1 3, w ∈ wsX8_grade := by decide +kernel
  have wd_0 := hts (.fieldLink RX8 11 "FuseBench" "tables" "[LFuseBench$Table;") (by decide +kernel)
  have wd_1 := hts (.fieldLink RX8 23 "FuseBench" "laws" "LFuseBench$Laws;") (by decide +kernel)
  have wd_2 := hts (.fieldLink RX8 104 "FuseBench$Laws" "partners" "[I") (by decide +kernel)
  unfold f_X8_grade at hf
  refine lv_aload_n hx hb dX8_grade_0 rfl (lv_at hl 0 rfl) ?_
  refine lv_iload_n hx hb dX8_grade_1 rfl (lv_at hl 1 rfl) ?_
  refine lv_iload_n hx hb dX8_grade_2 rfl (lv_at hl 2 rfl) ?_
  obtain ⟨r_1, hg_1, hf⟩ := bd_some hf
  refine xVi (rest := []) (c_X8_isKind l dC dI ad cI cJ cT p1 p2 I J hg_1) hfix (cwV 2 hts gX8_grade_X8_isKind rfl rfl rfl (by decide +kernel) ⟨Nat.le_of_ble_eq_true rfl, Nat.le_of_ble_eq_true rfl⟩) hK hP hD hS hA (va_recv hK hP (ci := 7) (q0 := 38) rfl (obB_38 ad cI cJ cT I J)) rfl hl.1 rfl (Nat.le_of_ble_eq_true rfl) ⟨Nat.zero_le _, Nat.zero_le _⟩ dX8_grade_3 (fun H locs hP hD hS => ?_)
  refine lv_if_ne (tgt := 12) hx hb dX8_grade_6 (by decide) (fun c_2 => ?_) (fun c_2 => ?_)
  · have hf := (if_neg c_2).symm.trans hf
    refine lv_aload_n hx hb dX8_grade_12 rfl (lv_at hl 0 rfl) ?_
    refine lv_iload_n hx hb dX8_grade_13 rfl (lv_at hl 1 rfl) ?_
    obtain ⟨⟨r_3, I_3⟩, hg_3, hf⟩ := bd_some hf
    refine xVi (rest := []) (c_X8_isRight l dC dI ad cI cJ cT p1 I J hg_3) hfix (cwV 1 hts gX8_grade_X8_isRight rfl rfl rfl (by decide +kernel) ⟨Nat.le_of_ble_eq_true rfl, Nat.le_of_ble_eq_true rfl⟩) hK hP hD hS hA (va_recv hK hP (ci := 7) (q0 := 38) rfl (obB_38 ad cI cJ cT I J)) rfl hl.1 rfl (Nat.le_of_ble_eq_true rfl) ⟨Nat.zero_le _, Nat.zero_le _⟩ dX8_grade_14 (fun H locs hP hD hS => ?_)
    refine lv_if_ne (tgt := 23) hx hb dX8_grade_17 (by decide) (fun c_4 => ?_) (fun c_4 => ?_)
    · have hf := (if_neg c_4).symm.trans hf
      refine lv_aload_n hx hb dX8_grade_23 rfl (lv_at hl 0 rfl) ?_
      refine va_get (D := (dC, dI)) (ci := 7) (v := .ref (ad 37)) (C := RX8) (T := TX8) (N := 10) hx hb hts in_X8 hown hK hP 38 (obB_38 ad cI cJ cT I_3 J) rfl 0 (by decide) wd_0 (fun _ h9 => h9) rfl dX8_grade_24 ?_
      refine lv_iload_n hx hb dX8_grade_27 rfl (lv_at hl 1 rfl) ?_
      obtain ⟨h_5, hf⟩ := gd_some hf
      refine va_aldq hx hb hK hP 37 2 (aiB_37 ad cI cJ cT I_3 J) rfl h_5 dX8_grade_28 ?_
      refine W.eq (g2 := F0 m 29 ls [.ref (ad (8 + p1.toNatClampNeg))]) rfl ?_
      refine lv_aload_n hx hb dX8_grade_29 rfl (lv_at hl 0 rfl) ?_
      refine va_get (D := (dC, dI)) (ci := 7) (v := .ref (ad 18)) (C := RX8) (T := TX8) (N := 10) hx hb hts in_X8 hown hK hP 38 (obB_38 ad cI cJ cT I_3 J) rfl 2 (by decide) wd_1 (fun _ h9 => h9) rfl dX8_grade_30 ?_
      refine va_get (D := (dC, dI)) (ci := 1) (v := .ref (ad 17)) (C := RX1) (T := TX1) (N := 3) hx hb hts in_X1 hown hK hP 18 (obB_18 ad cI cJ cT I_3 J) rfl 1 (by decide) wd_2 (fun _ h9 => h9) rfl dX8_grade_33 ?_
      obtain ⟨r_6, hg_6, hf⟩ := bd_some hf
      refine xSi (rest := []) (c_X5_innermost l dC dI ad cI cJ cT p1.toNatClampNeg (x_lt8 h_5) I_3 J hg_6) hfix (va_cwS 2 hts gX8_grade_X5_innermost rfl rfl rfl (by decide +kernel) ⟨Nat.le_of_ble_eq_true rfl, Nat.le_of_ble_eq_true rfl⟩) hK hP hD hS hA rfl hl.1 rfl (Nat.le_of_ble_eq_true rfl) ⟨Nat.zero_le _, Nat.zero_le _⟩ dX8_grade_36 (fun H locs hP hD hS => ?_)
      refine lv_istore_n (lv' := [(3, .int r_6), (0, .ref (ad 38)), (1, .int p1), (2, .int p2)]) hx hb dX8_grade_39 rfl hl (by decide) rfl (fun ls hl => ?_)
      refine lv_aload_n hx hb dX8_grade_40 rfl (lv_at hl 1 rfl) ?_
      refine va_get (D := (dC, dI)) (ci := 7) (v := .ref (ad 37)) (C := RX8) (T := TX8) (N := 10) hx hb hts in_X8 hown hK hP 38 (obB_38 ad cI cJ cT I_3 J) rfl 0 (by decide) wd_0 (fun _ h9 => h9) rfl dX8_grade_41 ?_
      refine lv_iload_n hx hb dX8_grade_44 rfl (lv_at hl 2 rfl) ?_
      obtain ⟨h_7, hf⟩ := gd_some hf
      refine va_aldq hx hb hK hP 37 2 (aiB_37 ad cI cJ cT I_3 J) rfl h_7 dX8_grade_45 ?_
      refine W.eq (g2 := F0 m 46 ls [.ref (ad (8 + p1.toNatClampNeg))]) rfl ?_
      refine lv_iload_n hx hb dX8_grade_46 rfl (lv_at hl 3 rfl) ?_
      refine lv_iload_n hx hb dX8_grade_47 rfl (lv_at hl 0 rfl) ?_
      obtain ⟨r_8, hg_8, hf⟩ := bd_some hf
      refine xSi (rest := []) (c_X5_fusedWithAny l dC dI ad cI cJ cT p1.toNatClampNeg (x_lt8 h_7) p2 r_6 I_3 J hg_8) hfix (va_cwS 3 hts gX8_grade_X5_fusedWithAny rfl rfl rfl (by decide +kernel) ⟨Nat.le_of_ble_eq_true rfl, Nat.le_of_ble_eq_true rfl⟩) hK hP hD hS hA rfl hl.1 rfl (Nat.le_of_ble_eq_true rfl) ⟨Nat.zero_le _, Nat.zero_le _⟩ dX8_grade_48 (fun H locs hP hD hS => ?_)
      obtain ⟨r_9, hg_9, hf⟩ := bd_some hf
      refine xSi (rest := []) (c_X5_firstOf l dC dI ad cI cJ cT r_8 I_3 J hg_9) hfix (va_cwS 1 hts gX8_grade_X5_firstOf rfl rfl rfl (by decide +kernel) ⟨Nat.le_of_ble_eq_true rfl, Nat.le_of_ble_eq_true rfl⟩) hK hP hD hS hA rfl hl.1 rfl (Nat.le_of_ble_eq_true rfl) ⟨Nat.zero_le _, Nat.zero_le _⟩ dX8_grade_51 (fun H locs hP hD hS => ?_)
      cases hf
      exact xRi hx hb hr hlocks hK hP hD hS (fun _ h => h) dX8_grade_54
    · have hf := (if_pos c_4).symm.trans hf
      refine lv_bipush (v := (-3 : Int32)) hx hb dX8_grade_20 (by decide) ?_
      cases hf
      exact xRi hx hb hr hlocks hK hP hD hS (fun _ h => h) dX8_grade_22
  · have hf := (if_pos c_2).symm.trans hf
    refine lv_bipush (v := (-2 : Int32)) hx hb dX8_grade_9 (by decide) ?_
    cases hf
    exact xRi hx hb hr hlocks hK hP hD hS (fun _ h => h) dX8_grade_11
set_option maxHeartbeats 4000000 in
set_option maxRecDepth 100000 in
theorem c_X8_within (l : Launch) (dC : Nat → ClassId) (dI : Nat → Nat → Nat) (ad : Nat → Nat) (cI cJ cT : ClassId) (p1 : Int32) (I : SI) (J : SJ) {r0 : Int32} {I0 : SI} (hf : f_X8_within p1 I = some (r0, I0)) : CtI l yX8_within wsX8_within ({ frames := 6, cells := 0, slots := 0, locals := 138 } : Room) (dC, dI) (tys3 cI cJ cT) (wB ad cI cJ cT) [.ref (ad 38), .int p1] I J r0 I0 J := by
  intro sz
  refine Met.ofW (cc := cX8_within) (maxL := 2) (ret := (some .int)) (by decide) rfl ?_
  intro p e s m args below meth c s₁ B hml hv
  obtain ⟨hargs, hsz, hP, hK, hD0⟩ := hv
  have hx := B.exec
  have hb := B.bytes
  have hr := B.returns
  have hts := atoms_spec (ws := wsX8_within) B.pre
  have hown : s.vm.findClass RX8 = some m.cls := findClass_of_methodNamed B.named
  have hlocks := B.notSynchronized
  subst hsz
  have hD := hD0.self (sz := s.heap.size)
  generalize hAe : va_A ((wB ad cI cJ cT) I J) s.heap.size = A at hD ⊢
  have hA : ∀ q : Nat, s.heap.size ≤ q → A q := fun q h => by rw [← hAe]; exact Or.inr h
  have hS : va_S A s.heap s.heap [] := va_S.rf
  have hl := lv_entry ([.ref (ad 38), .int p1]) (n := 2) (Nat.le_of_ble_eq_true rfl)
  rw [hargs, lg_entry_eq, ← hargs]
  generalize (lg_sl ([.ref (ad 38), .int p1]) ++ List.replicate (2 - (lg_sl ([.ref (ad 38), .int p1])).length) Slot.unset).toArray = ls at hl ⊢
  have hl : lv_has ls 2 [(0, .ref (ad 38)), (1, .int p1)] := hl
  have hfix : CallFix p m c cX8_within 2 s args wsX8_within RX8 := ⟨hx, hb, hml, hown, hts⟩
  have in_X8 : ∀ w ∈ u_ws RX8 TX8 10, w ∈ wsX8_within := by decide +kernel
  have in_X1 : ∀ w ∈ u_ws RX1 TX1 3, w ∈ wsX8_within := by decide +kernel
  have wd_0 := hts (.fieldLink RX8 11 "FuseBench" "tables" "[LFuseBench$Table;") (by decide +kernel)
  have wd_1 := hts (.fieldLink RX8 23 "FuseBench" "laws" "LFuseBench$Laws;") (by decide +kernel)
  have wd_2 := hts (.fieldLink RX8 104 "FuseBench$Laws" "partners" "[I") (by decide +kernel)
  unfold f_X8_within at hf
  refine lv_iload_n hx hb dX8_within_0 rfl (lv_at hl 1 rfl) ?_
  obtain ⟨r_1, hg_1, hf⟩ := bd_some hf
  refine xSi (rest := []) (c_X8_isTable l dC dI ad cI cJ cT p1 I J hg_1) hfix (va_cwS 1 hts gX8_within_X8_isTable rfl rfl rfl (by decide +kernel) ⟨Nat.le_of_ble_eq_true rfl, Nat.le_of_ble_eq_true rfl⟩) hK hP hD hS hA rfl hl.1 rfl (Nat.le_of_ble_eq_true rfl) ⟨Nat.zero_le _, Nat.zero_le _⟩ dX8_within_1 (fun H locs hP hD hS => ?_)
  refine lv_if_ne (tgt := 10) hx hb dX8_within_4 (by decide) (fun c_2 => ?_) (fun c_2 => ?_)
  · have hf := (if_neg c_2).symm.trans hf
    refine lv_aload_n hx hb dX8_within_10 rfl (lv_at hl 0 rfl) ?_
    refine lv_iload_n hx hb dX8_within_11 rfl (lv_at hl 1 rfl) ?_
    obtain ⟨⟨r_3, I_3⟩, hg_3, hf⟩ := bd_some hf
    refine xVi (rest := []) (c_X8_isRight l dC dI ad cI cJ cT p1 I J hg_3) hfix (cwV 1 hts gX8_within_X8_isRight rfl rfl rfl (by decide +kernel) ⟨Nat.le_of_ble_eq_true rfl, Nat.le_of_ble_eq_true rfl⟩) hK hP hD hS hA (va_recv hK hP (ci := 7) (q0 := 38) rfl (obB_38 ad cI cJ cT I J)) rfl hl.1 rfl (Nat.le_of_ble_eq_true rfl) ⟨Nat.zero_le _, Nat.zero_le _⟩ dX8_within_12 (fun H locs hP hD hS => ?_)
    refine lv_if_eq (tgt := 37) hx hb dX8_within_15 (by decide) (fun c_4 => ?_) (fun c_4 => ?_)
    · have hf := (if_pos c_4).symm.trans hf
      refine lv_bipush (v := (-3 : Int32)) hx hb dX8_within_37 (by decide) ?_
      cases hf
      exact xRi hx hb hr hlocks hK hP hD hS (fun _ h => h) dX8_within_39
    · have hf := (if_neg c_4).symm.trans hf
      refine lv_aload_n hx hb dX8_within_18 rfl (lv_at hl 0 rfl) ?_
      refine va_get (D := (dC, dI)) (ci := 7) (v := .ref (ad 37)) (C := RX8) (T := TX8) (N := 10) hx hb hts in_X8 hown hK hP 38 (obB_38 ad cI cJ cT I_3 J) rfl 0 (by decide) wd_0 (fun _ h9 => h9) rfl dX8_within_19 ?_
      refine lv_iload_n hx hb dX8_within_22 rfl (lv_at hl 1 rfl) ?_
      obtain ⟨h_5, hf⟩ := gd_some hf
      refine va_aldq hx hb hK hP 37 2 (aiB_37 ad cI cJ cT I_3 J) rfl h_5 dX8_within_23 ?_
      refine W.eq (g2 := F0 m 24 ls [.ref (ad (8 + p1.toNatClampNeg))]) rfl ?_
      refine lv_aload_n hx hb dX8_within_24 rfl (lv_at hl 0 rfl) ?_
      refine va_get (D := (dC, dI)) (ci := 7) (v := .ref (ad 18)) (C := RX8) (T := TX8) (N := 10) hx hb hts in_X8 hown hK hP 38 (obB_38 ad cI cJ cT I_3 J) rfl 2 (by decide) wd_1 (fun _ h9 => h9) rfl dX8_within_25 ?_
      refine va_get (D := (dC, dI)) (ci := 1) (v := .ref (ad 17)) (C := RX1) (T := TX1) (N := 3) hx hb hts in_X1 hown hK hP 18 (obB_18 ad cI cJ cT I_3 J) rfl 1 (by decide) wd_2 (fun _ h9 => h9) rfl dX8_within_28 ?_
      obtain ⟨r_6, hg_6, hf⟩ := bd_some hf
      refine xSi (rest := []) (c_X5_countClosed l dC dI ad cI cJ cT p1.toNatClampNeg (x_lt8 h_5) I_3 J hg_6) hfix (va_cwS 2 hts gX8_within_X5_countClosed rfl rfl rfl (by decide +kernel) ⟨Nat.le_of_ble_eq_true rfl, Nat.le_of_ble_eq_true rfl⟩) hK hP hD hS hA rfl hl.1 rfl (Nat.le_of_ble_eq_true rfl) ⟨Nat.zero_le _, Nat.zero_le _⟩ dX8_within_31 (fun H locs hP hD hS => ?_)
      refine lv_goto (tgt := 39) hx hb dX8_within_34 (by decide) ?_
      cases hf
      exact xRi hx hb hr hlocks hK hP hD hS (fun _ h => h) dX8_within_39
  · have hf := (if_pos c_2).symm.trans hf
    refine lv_bipush (v := (-2 : Int32)) hx hb dX8_within_7 (by decide) ?_
    cases hf
    exact xRi hx hb hr hlocks hK hP hD hS (fun _ h => h) dX8_within_9
set_option maxHeartbeats 4000000 in
set_option maxRecDepth 100000 in
theorem c_X8_like (l : Launch) (dC : Nat → ClassId) (dI : Nat → Nat → Nat) (ad : Nat → Nat) (cI cJ cT : ClassId) (p1 : Int32) (p2 : Int32) (I : SI) (J : SJ) {r0 : Int32} {I0 : SI} (hf : f_X8_like p1 p2 I = some (r0, I0)) : CtI l yX8_like wsX8_like ({ frames := 10, cells := 0, slots := 0, locals := 248 } : Room) (dC, dI) (tys3 cI cJ cT) (wB ad cI cJ cT) [.ref (ad 38), .int p1, .int p2] I J r0 I0 J := by
  intro sz
  refine Met.ofW (cc := cX8_like) (maxL := 3) (ret := (some .int)) (by decide) rfl ?_
  intro p e s m args below meth c s₁ B hml hv
  obtain ⟨hargs, hsz, hP, hK, hD0⟩ := hv
  have hx := B.exec
  have hb := B.bytes
  have hr := B.returns
  have hts := atoms_spec (ws := wsX8_like) B.pre
  have hown : s.vm.findClass RX8 = some m.cls := findClass_of_methodNamed B.named
  have hlocks := B.notSynchronized
  subst hsz
  have hD := hD0.self (sz := s.heap.size)
  generalize hAe : va_A ((wB ad cI cJ cT) I J) s.heap.size = A at hD ⊢
  have hA : ∀ q : Nat, s.heap.size ≤ q → A q := fun q h => by rw [← hAe]; exact Or.inr h
  have hS : va_S A s.heap s.heap [] := va_S.rf
  have hl := lv_entry ([.ref (ad 38), .int p1, .int p2]) (n := 3) (Nat.le_of_ble_eq_true rfl)
  rw [hargs, lg_entry_eq, ← hargs]
  generalize (lg_sl ([.ref (ad 38), .int p1, .int p2]) ++ List.replicate (3 - (lg_sl ([.ref (ad 38), .int p1, .int p2])).length) Slot.unset).toArray = ls at hl ⊢
  have hl : lv_has ls 3 [(0, .ref (ad 38)), (1, .int p1), (2, .int p2)] := hl
  have hfix : CallFix p m c cX8_like 3 s args wsX8_like RX8 := ⟨hx, hb, hml, hown, hts⟩
  have in_X8 : ∀ w ∈ u_ws RX8 TX8 10, w ∈ wsX8_like := by decide +kernel
  have wd_0 := hts (.fieldLink RX8 44 "FuseBench" "namings" "LFuseBench$Namings;") (by decide +kernel)
  have wd_1 := hts (.fieldLink RX8 11 "FuseBench" "tables" "[LFuseBench$Table;") (by decide +kernel)
  unfold f_X8_like at hf
  refine lv_iload_n hx hb dX8_like_0 rfl (lv_at hl 1 rfl) ?_
  obtain ⟨r_1, hg_1, hf⟩ := bd_some hf
  refine xSi (rest := []) (c_X8_isTable l dC dI ad cI cJ cT p1 I J hg_1) hfix (va_cwS 1 hts gX8_like_X8_isTable rfl rfl rfl (by decide +kernel) ⟨Nat.le_of_ble_eq_true rfl, Nat.le_of_ble_eq_true rfl⟩) hK hP hD hS hA rfl hl.1 rfl (Nat.le_of_ble_eq_true rfl) ⟨Nat.zero_le _, Nat.zero_le _⟩ dX8_like_1 (fun H locs hP hD hS => ?_)
  refine lv_if_eq (tgt := 14) hx hb dX8_like_4 (by decide) (fun c_2 => ?_) (fun c_2 => ?_)
  · have hf := (if_pos c_2).symm.trans hf
    refine lv_bipush (v := (-2 : Int32)) hx hb dX8_like_14 (by decide) ?_
    cases hf
    exact xRi hx hb hr hlocks hK hP hD hS (fun _ h => h) dX8_like_16
  · have hf := (if_neg c_2).symm.trans hf
    refine lv_iload_n hx hb dX8_like_7 rfl (lv_at hl 2 rfl) ?_
    obtain ⟨r_3, hg_3, hf⟩ := bd_some hf
    refine xSi (rest := []) (c_X8_isTable l dC dI ad cI cJ cT p2 I J hg_3) hfix (va_cwS 1 hts gX8_like_X8_isTable rfl rfl rfl (by decide +kernel) ⟨Nat.le_of_ble_eq_true rfl, Nat.le_of_ble_eq_true rfl⟩) hK hP hD hS hA rfl hl.1 rfl (Nat.le_of_ble_eq_true rfl) ⟨Nat.zero_le _, Nat.zero_le _⟩ dX8_like_8 (fun H locs hP hD hS => ?_)
    refine lv_if_ne (tgt := 17) hx hb dX8_like_11 (by decide) (fun c_4 => ?_) (fun c_4 => ?_)
    · have hf := (if_neg c_4).symm.trans hf
      refine lv_aload_n hx hb dX8_like_17 rfl (lv_at hl 0 rfl) ?_
      refine va_get (D := (dC, dI)) (ci := 7) (v := .ref (ad 27)) (C := RX8) (T := TX8) (N := 10) hx hb hts in_X8 hown hK hP 38 (obB_38 ad cI cJ cT I J) rfl 5 (by decide) wd_0 (fun _ h9 => h9) rfl dX8_like_18 ?_
      refine lv_aload_n hx hb dX8_like_21 rfl (lv_at hl 0 rfl) ?_
      refine va_get (D := (dC, dI)) (ci := 7) (v := .ref (ad 37)) (C := RX8) (T := TX8) (N := 10) hx hb hts in_X8 hown hK hP 38 (obB_38 ad cI cJ cT I J) rfl 0 (by decide) wd_1 (fun _ h9 => h9) rfl dX8_like_22 ?_
      refine lv_iload_n hx hb dX8_like_25 rfl (lv_at hl 1 rfl) ?_
      obtain ⟨h_5, hf⟩ := gd_some hf
      refine va_aldq hx hb hK hP 37 2 (aiB_37 ad cI cJ cT I J) rfl h_5 dX8_like_26 ?_
      refine W.eq (g2 := F0 m 27 ls [.ref (ad (8 + p1.toNatClampNeg)), .ref (ad 27)]) rfl ?_
      refine lv_aload_n hx hb dX8_like_27 rfl (lv_at hl 0 rfl) ?_
      refine va_get (D := (dC, dI)) (ci := 7) (v := .ref (ad 37)) (C := RX8) (T := TX8) (N := 10) hx hb hts in_X8 hown hK hP 38 (obB_38 ad cI cJ cT I J) rfl 0 (by decide) wd_1 (fun _ h9 => h9) rfl dX8_like_28 ?_
      refine lv_iload_n hx hb dX8_like_31 rfl (lv_at hl 2 rfl) ?_
      obtain ⟨h_6, hf⟩ := gd_some hf
      refine va_aldq hx hb hK hP 37 2 (aiB_37 ad cI cJ cT I J) rfl h_6 dX8_like_32 ?_
      refine W.eq (g2 := F0 m 33 ls [.ref (ad (8 + p2.toNatClampNeg)), .ref (ad (8 + p1.toNatClampNeg)), .ref (ad 27)]) rfl ?_
      obtain ⟨⟨r_7, I_7⟩, hg_7, hf⟩ := bd_some hf
      refine xVi (rest := []) (c_X3_count l dC dI ad cI cJ cT p1.toNatClampNeg (x_lt8 h_5) p2.toNatClampNeg (x_lt8 h_6) I J hg_7) hfix (cwV 2 hts gX8_like_X3_count rfl rfl rfl (by decide +kernel) ⟨Nat.le_of_ble_eq_true rfl, Nat.le_of_ble_eq_true rfl⟩) hK hP hD hS hA (va_recv hK hP (ci := 3) (q0 := 27) rfl (obB_27 ad cI cJ cT I J)) rfl hl.1 rfl (Nat.le_of_ble_eq_true rfl) ⟨Nat.zero_le _, Nat.zero_le _⟩ dX8_like_33 (fun H locs hP hD hS => ?_)
      cases hf
      exact xRi hx hb hr hlocks hK hP hD hS (fun _ h => h) dX8_like_36
    · have hf := (if_pos c_4).symm.trans hf
      refine lv_bipush (v := (-2 : Int32)) hx hb dX8_like_14 (by decide) ?_
      cases hf
      exact xRi hx hb hr hlocks hK hP hD hS (fun _ h => h) dX8_like_16
set_option maxHeartbeats 4000000 in
set_option maxRecDepth 100000 in
theorem c_X8_size (l : Launch) (dC : Nat → ClassId) (dI : Nat → Nat → Nat) (ad : Nat → Nat) (cI cJ cT : ClassId) (p1 : Int32) (I : SI) (J : SJ) {r0 : Int32} {I0 : SI} {J0 : SJ} (hf : f_X8_size p1 I J = some (r0, I0, J0)) : CtI l yX8_size wsX8_size ({ frames := 6, cells := 0, slots := 0, locals := 138 } : Room) (dC, dI) (tys3 cI cJ cT) (wB ad cI cJ cT) [.ref (ad 38), .int p1] I J r0 I0 J0 := by
  intro sz
  refine Met.ofW (cc := cX8_size) (maxL := 2) (ret := (some .int)) (by decide) rfl ?_
  intro p e s m args below meth c s₁ B hml hv
  obtain ⟨hargs, hsz, hP, hK, hD0⟩ := hv
  have hx := B.exec
  have hb := B.bytes
  have hr := B.returns
  have hts := atoms_spec (ws := wsX8_size) B.pre
  have hown : s.vm.findClass RX8 = some m.cls := findClass_of_methodNamed B.named
  have hlocks := B.notSynchronized
  subst hsz
  have hD := hD0.self (sz := s.heap.size)
  generalize hAe : va_A ((wB ad cI cJ cT) I J) s.heap.size = A at hD ⊢
  have hA : ∀ q : Nat, s.heap.size ≤ q → A q := fun q h => by rw [← hAe]; exact Or.inr h
  have hS : va_S A s.heap s.heap [] := va_S.rf
  have hl := lv_entry ([.ref (ad 38), .int p1]) (n := 2) (Nat.le_of_ble_eq_true rfl)
  rw [hargs, lg_entry_eq, ← hargs]
  generalize (lg_sl ([.ref (ad 38), .int p1]) ++ List.replicate (2 - (lg_sl ([.ref (ad 38), .int p1])).length) Slot.unset).toArray = ls at hl ⊢
  have hl : lv_has ls 2 [(0, .ref (ad 38)), (1, .int p1)] := hl
  have hfix : CallFix p m c cX8_size 2 s args wsX8_size RX8 := ⟨hx, hb, hml, hown, hts⟩
  have in_X8 : ∀ w ∈ u_ws RX8 TX8 10, w ∈ wsX8_size := by decide +kernel
  have wd_0 := hts (.fieldLink RX8 58 "FuseBench" "extent" "LFuseBench$Extent;") (by decide +kernel)
  have wd_1 := hts (.fieldLink RX8 11 "FuseBench" "tables" "[LFuseBench$Table;") (by decide +kernel)
  unfold f_X8_size at hf
  refine lv_iload_n hx hb dX8_size_0 rfl (lv_at hl 1 rfl) ?_
  obtain ⟨r_1, hg_1, hf⟩ := bd_some hf
  refine xSi (rest := []) (c_X8_isTable l dC dI ad cI cJ cT p1 I J hg_1) hfix (va_cwS 1 hts gX8_size_X8_isTable rfl rfl rfl (by decide +kernel) ⟨Nat.le_of_ble_eq_true rfl, Nat.le_of_ble_eq_true rfl⟩) hK hP hD hS hA rfl hl.1 rfl (Nat.le_of_ble_eq_true rfl) ⟨Nat.zero_le _, Nat.zero_le _⟩ dX8_size_1 (fun H locs hP hD hS => ?_)
  refine lv_if_ne (tgt := 10) hx hb dX8_size_4 (by decide) (fun c_2 => ?_) (fun c_2 => ?_)
  · have hf := (if_neg c_2).symm.trans hf
    refine lv_aload_n hx hb dX8_size_10 rfl (lv_at hl 0 rfl) ?_
    refine lv_iload_n hx hb dX8_size_11 rfl (lv_at hl 1 rfl) ?_
    obtain ⟨⟨r_3, I_3⟩, hg_3, hf⟩ := bd_some hf
    refine xVi (rest := []) (c_X8_isRight l dC dI ad cI cJ cT p1 I J hg_3) hfix (cwV 1 hts gX8_size_X8_isRight rfl rfl rfl (by decide +kernel) ⟨Nat.le_of_ble_eq_true rfl, Nat.le_of_ble_eq_true rfl⟩) hK hP hD hS hA (va_recv hK hP (ci := 7) (q0 := 38) rfl (obB_38 ad cI cJ cT I J)) rfl hl.1 rfl (Nat.le_of_ble_eq_true rfl) ⟨Nat.zero_le _, Nat.zero_le _⟩ dX8_size_12 (fun H locs hP hD hS => ?_)
    refine lv_if_eq (tgt := 34) hx hb dX8_size_15 (by decide) (fun c_4 => ?_) (fun c_4 => ?_)
    · have hf := (if_pos c_4).symm.trans hf
      refine lv_bipush (v := (-3 : Int32)) hx hb dX8_size_34 (by decide) ?_
      cases hf
      exact xRi hx hb hr hlocks hK hP hD hS (fun _ h => h) dX8_size_36
    · have hf := (if_neg c_4).symm.trans hf
      refine lv_aload_n hx hb dX8_size_18 rfl (lv_at hl 0 rfl) ?_
      refine va_get (D := (dC, dI)) (ci := 7) (v := .ref (ad 32)) (C := RX8) (T := TX8) (N := 10) hx hb hts in_X8 hown hK hP 38 (obB_38 ad cI cJ cT I_3 J) rfl 7 (by decide) wd_0 (fun _ h9 => h9) rfl dX8_size_19 ?_
      refine lv_aload_n hx hb dX8_size_22 rfl (lv_at hl 0 rfl) ?_
      refine va_get (D := (dC, dI)) (ci := 7) (v := .ref (ad 37)) (C := RX8) (T := TX8) (N := 10) hx hb hts in_X8 hown hK hP 38 (obB_38 ad cI cJ cT I_3 J) rfl 0 (by decide) wd_1 (fun _ h9 => h9) rfl dX8_size_23 ?_
      refine lv_iload_n hx hb dX8_size_26 rfl (lv_at hl 1 rfl) ?_
      obtain ⟨h_5, hf⟩ := gd_some hf
      refine va_aldq hx hb hK hP 37 2 (aiB_37 ad cI cJ cT I_3 J) rfl h_5 dX8_size_27 ?_
      refine W.eq (g2 := F0 m 28 ls [.ref (ad (8 + p1.toNatClampNeg)), .ref (ad 32)]) rfl ?_
      obtain ⟨⟨r_6, I_6, J_6⟩, hg_6, hf⟩ := bd_some hf
      refine xVi (rest := []) (c_X0_tenths l dC dI ad cI cJ cT p1.toNatClampNeg (x_lt8 h_5) I_3 J hg_6) hfix (cwV 1 hts gX8_size_X0_tenths rfl rfl rfl (by decide +kernel) ⟨Nat.le_of_ble_eq_true rfl, Nat.le_of_ble_eq_true rfl⟩) hK hP hD hS hA (va_recv hK hP (ci := 0) (q0 := 32) rfl (obB_32 ad cI cJ cT I_3 J)) rfl hl.1 rfl (Nat.le_of_ble_eq_true rfl) ⟨Nat.zero_le _, Nat.zero_le _⟩ dX8_size_28 (fun H locs hP hD hS => ?_)
      refine lv_goto (tgt := 36) hx hb dX8_size_31 (by decide) ?_
      cases hf
      exact xRi hx hb hr hlocks hK hP hD hS (fun _ h => h) dX8_size_36
  · have hf := (if_pos c_2).symm.trans hf
    refine lv_bipush (v := (-2 : Int32)) hx hb dX8_size_7 (by decide) ?_
    cases hf
    exact xRi hx hb hr hlocks hK hP hD hS (fun _ h => h) dX8_size_9
set_option maxHeartbeats 4000000 in
set_option maxRecDepth 100000 in
theorem c_X8_digest (l : Launch) (dC : Nat → ClassId) (dI : Nat → Nat → Nat) (ad : Nat → Nat) (cI cJ cT : ClassId) (I : SI) (J : SJ) {r0 : Int64} (hf : f_X8_digest I = some r0) : CtL l yX8_digest wsX8_digest ({ frames := 3, cells := 0, slots := 0, locals := 72 } : Room) (dC, dI) (tys3 cI cJ cT) (wB ad cI cJ cT) [.ref (ad 38)] I J r0 I J := by
  intro sz
  refine Met.ofW (cc := cX8_digest) (maxL := 4) (ret := (some .long)) (by decide) rfl ?_
  intro p e s m args below meth c s₁ B hml hv
  obtain ⟨hargs, hsz, hP, hK, hD0⟩ := hv
  have hx := B.exec
  have hb := B.bytes
  have hr := B.returns
  have hts := atoms_spec (ws := wsX8_digest) B.pre
  have hown : s.vm.findClass RX8 = some m.cls := findClass_of_methodNamed B.named
  have hlocks := B.notSynchronized
  subst hsz
  have hD := hD0.self (sz := s.heap.size)
  generalize hAe : va_A ((wB ad cI cJ cT) I J) s.heap.size = A at hD ⊢
  have hA : ∀ q : Nat, s.heap.size ≤ q → A q := fun q h => by rw [← hAe]; exact Or.inr h
  have hS : va_S A s.heap s.heap [] := va_S.rf
  have hl := lv_entry ([.ref (ad 38)]) (n := 4) (Nat.le_of_ble_eq_true rfl)
  rw [hargs, lg_entry_eq, ← hargs]
  generalize (lg_sl ([.ref (ad 38)]) ++ List.replicate (4 - (lg_sl ([.ref (ad 38)])).length) Slot.unset).toArray = ls at hl ⊢
  have hl : lv_has ls 4 [(0, .ref (ad 38))] := hl
  have hfix : CallFix p m c cX8_digest 4 s args wsX8_digest RX8 := ⟨hx, hb, hml, hown, hts⟩
  have in_X8 : ∀ w ∈ u_ws RX8 TX8 10, w ∈ wsX8_digest := by decide +kernel
  have wd_0 := hts (.fieldLink RX8 11 "FuseBench" "tables" "[LFuseBench$Table;") (by decide +kernel)
  have wd_1 := hts (.fieldLink RX8 132 "FuseBench" "wordLength" "I") (by decide +kernel)
  have wd_2 := hts (.constantLong RX8 201 (31)) (by decide +kernel)
  have wd_3 := hts (.fieldLink RX8 62 "FuseBench" "word" "[I") (by decide +kernel)
  have wd_4 := hts (.constantLong RX8 195 (223)) (by decide +kernel)
  have L6 : ∀ (Q : State → Prop)  (I : SI) (J : SJ) (o : Int64), (∀ (w1 : Int64) (H : Heap) (locs : List Loc) (ls : Array Slot), o = w1 → va_P (dC, dI) vwCl ((wB ad cI cJ cT) I J) H → va_D A ((wB ad cI cJ cT) I J) → va_S A s.heap H locs → lv_has ls 4 [(0, .ref (ad 38)), (1, .long w1)] → W p l e ({ frames := 3, cells := 0, slots := 0, locals := 72 } : Room) s m args below meth c H locs 0 0 Q (F0 m 29 ls [])) → ∀ (n : Nat) (v1 : Int64) (v3 : Int32) (H : Heap) (locs : List Loc) (ls : Array Slot), lp_X8_digest_6 I n v1 v3 = some o → va_P (dC, dI) vwCl ((wB ad cI cJ cT) I J) H → va_D A ((wB ad cI cJ cT) I J) → va_S A s.heap H locs → lv_has ls 4 [(0, .ref (ad 38)), (1, .long v1), (3, .int v3)] → W p l e ({ frames := 3, cells := 0, slots := 0, locals := 72 } : Room) s m args below meth c H locs 0 0 Q (F0 m 6 ls []) := by
    intro Q  I J o K0 n
    clear hP hD hS hl
    induction n with
    | zero =>
      intro v1 v3 H locs ls hf
      rw [lp_X8_digest_6.eq_1] at hf
      cases hf
    | succ n ih =>
      intro v1 v3 H locs ls hf hP hD hS hl
      rw [lp_X8_digest_6.eq_2] at hf
      refine lv_iload_n hx hb dX8_digest_6 rfl (lv_at hl 2 rfl) ?_
      refine lv_bipush (v := (6 : Int32)) hx hb dX8_digest_7 (by decide) ?_
      refine lv_icmp_ge (tgt := 29) hx hb dX8_digest_9 (by decide) (fun c_1 => ?_) (fun c_1 => ?_)
      · have hf := (if_pos c_1).symm.trans hf
        exact K0 _ _ _ _ (Option.some.inj hf).symm hP hD hS (lv_sub hl [0, 1] rfl)
      · have hf := (if_neg c_1).symm.trans hf
        refine lv_aload_n hx hb dX8_digest_12 rfl (lv_at hl 0 rfl) ?_
        refine va_get (D := (dC, dI)) (ci := 7) (v := .ref (ad 37)) (C := RX8) (T := TX8) (N := 10) hx hb hts in_X8 hown hK hP 38 (obB_38 ad cI cJ cT I J) rfl 0 (by decide) wd_0 (fun _ h9 => h9) rfl dX8_digest_13 ?_
        refine lv_iload_n hx hb dX8_digest_16 rfl (lv_at hl 2 rfl) ?_
        obtain ⟨h_2, hf⟩ := gd_some hf
        refine va_aldq hx hb hK hP 37 2 (aiB_37 ad cI cJ cT I J) rfl h_2 dX8_digest_17 ?_
        refine W.eq (g2 := F0 m 18 ls [.ref (ad (8 + v3.toNatClampNeg))]) rfl ?_
        refine lv_lload_n hx hb dX8_digest_18 rfl (lv_at hl 1 rfl) ?_
        obtain ⟨r_3, hg_3, hf⟩ := bd_some hf
        refine xVl (rest := []) (c_X7_mixInto l dC dI ad cI cJ cT (wB ad cI cJ cT) (fun k => k) v3.toNatClampNeg (wBT ad cI cJ cT (x_lt8 h_2)) v1 I J hg_3) hfix (cwV 1 hts gX8_digest_X7_mixInto rfl rfl rfl (by decide +kernel) ⟨Nat.le_of_ble_eq_true rfl, Nat.le_of_ble_eq_true rfl⟩) hK hP hD hS hA (va_recv hK hP (ci := 6) (q0 := (8 + v3.toNatClampNeg)) rfl (((wBT ad cI cJ cT (x_lt8 h_2))).2.1 I J)) rfl hl.1 rfl (Nat.le_of_ble_eq_true rfl) ⟨Nat.zero_le _, Nat.zero_le _⟩ dX8_digest_19 (fun H locs hP hD hS => ?_)
        refine lv_lstore_n (lv' := [(1, .long r_3), (0, .ref (ad 38)), (3, .int v3)]) hx hb dX8_digest_22 rfl hl (by decide) rfl (fun ls hl => ?_)
        refine lv_iinc (v := (v3 + (1 : Int32))) (lv' := [(3, .int (v3 + (1 : Int32))), (1, .long r_3), (0, .ref (ad 38))]) hx hb dX8_digest_23 hl (k := 2) rfl (by first | rfl | decide) (by decide) rfl (fun ls hl => ?_)
        refine lv_goto (tgt := 6) hx hb dX8_digest_26 (by decide) ?_
        exact ih _ _ _ _ _ hf hP hD hS (lv_sub hl [2, 1, 0] rfl)
  have L43 : ∀ (Q : State → Prop)  (I : SI) (J : SJ) (o : Int64), (∀ (w1 : Int64) (H : Heap) (locs : List Loc) (ls : Array Slot), o = w1 → va_P (dC, dI) vwCl ((wB ad cI cJ cT) I J) H → va_D A ((wB ad cI cJ cT) I J) → va_S A s.heap H locs → lv_has ls 4 [(1, .long w1)] → W p l e ({ frames := 3, cells := 0, slots := 0, locals := 72 } : Room) s m args below meth c H locs 0 0 Q (F0 m 71 ls [])) → ∀ (n : Nat) (v1 : Int64) (v3 : Int32) (H : Heap) (locs : List Loc) (ls : Array Slot), lp_X8_digest_43 I n v1 v3 = some o → va_P (dC, dI) vwCl ((wB ad cI cJ cT) I J) H → va_D A ((wB ad cI cJ cT) I J) → va_S A s.heap H locs → lv_has ls 4 [(0, .ref (ad 38)), (1, .long v1), (3, .int v3)] → W p l e ({ frames := 3, cells := 0, slots := 0, locals := 72 } : Room) s m args below meth c H locs 0 0 Q (F0 m 43 ls []) := by
    intro Q  I J o K0 n
    clear hP hD hS hl
    induction n with
    | zero =>
      intro v1 v3 H locs ls hf
      rw [lp_X8_digest_43.eq_1] at hf
      cases hf
    | succ n ih =>
      intro v1 v3 H locs ls hf hP hD hS hl
      rw [lp_X8_digest_43.eq_2] at hf
      refine lv_iload_n hx hb dX8_digest_43 rfl (lv_at hl 2 rfl) ?_
      refine lv_aload_n hx hb dX8_digest_44 rfl (lv_at hl 0 rfl) ?_
      refine va_get (D := (dC, dI)) (ci := 7) (v := .int (I 38 0)) (C := RX8) (T := TX8) (N := 10) hx hb hts in_X8 hown hK hP 38 (obB_38 ad cI cJ cT I J) rfl 9 (by decide) wd_1 (fun _ h9 => h9) rfl dX8_digest_45 ?_
      refine lv_icmp_ge (tgt := 71) hx hb dX8_digest_48 (by decide) (fun c_4 => ?_) (fun c_4 => ?_)
      · have hf := (if_pos c_4).symm.trans hf
        exact K0 _ _ _ _ (Option.some.inj hf).symm hP hD hS (lv_sub hl [1] rfl)
      · have hf := (if_neg c_4).symm.trans hf
        refine lv_ldc2 (v := (31 : Int64)) hx hb hown wd_2 dX8_digest_51 ?_
        refine lv_lload_n hx hb dX8_digest_54 rfl (lv_at hl 1 rfl) ?_
        refine lv_lmul hx hb dX8_digest_55 ?_
        refine lv_aload_n hx hb dX8_digest_56 rfl (lv_at hl 0 rfl) ?_
        refine va_get (D := (dC, dI)) (ci := 7) (v := .ref (ad 33)) (C := RX8) (T := TX8) (N := 10) hx hb hts in_X8 hown hK hP 38 (obB_38 ad cI cJ cT I J) rfl 8 (by decide) wd_3 (fun _ h9 => h9) rfl dX8_digest_57 ?_
        refine lv_iload_n hx hb dX8_digest_60 rfl (lv_at hl 2 rfl) ?_
        obtain ⟨h_5, hf⟩ := gd_some hf
        refine x_iald hx hb hK (aiB_33 ad cI cJ cT) hP h_5 dX8_digest_61 ?_
        refine lv_i2l (v := (I 33 v3.toNatClampNeg).toInt64) hx hb dX8_digest_62 rfl ?_
        refine lv_ladd hx hb dX8_digest_63 ?_
        refine lv_lstore_n (lv' := [(1, .long (((31 : Int64) * v1) + ((I 33 v3.toNatClampNeg).toInt64))), (0, .ref (ad 38)), (3, .int v3)]) hx hb dX8_digest_64 rfl hl (by decide) rfl (fun ls hl => ?_)
        refine lv_iinc (v := (v3 + (1 : Int32))) (lv' := [(3, .int (v3 + (1 : Int32))), (1, .long (((31 : Int64) * v1) + ((I 33 v3.toNatClampNeg).toInt64))), (0, .ref (ad 38))]) hx hb dX8_digest_65 hl (k := 2) rfl (by first | rfl | decide) (by decide) rfl (fun ls hl => ?_)
        refine lv_goto (tgt := 43) hx hb dX8_digest_68 (by decide) ?_
        exact ih _ _ _ _ _ hf hP hD hS (lv_sub hl [2, 1, 0] rfl)
  unfold f_X8_digest at hf
  refine lv_ldc2 (v := (223 : Int64)) hx hb hown wd_4 dX8_digest_0 ?_
  refine lv_lstore_n (lv' := [(1, .long (223 : Int64)), (0, .ref (ad 38))]) hx hb dX8_digest_3 rfl hl (by decide) rfl (fun ls hl => ?_)
  refine lv_iconst (v := (0 : Int32)) hx hb dX8_digest_4 (by decide) ?_
  refine lv_istore_n (lv' := [(3, .int (0 : Int32)), (1, .long (223 : Int64)), (0, .ref (ad 38))]) hx hb dX8_digest_5 rfl hl (by decide) rfl (fun ls hl => ?_)
  obtain ⟨o_6, hg_6, hf⟩ := bd_some hf
  refine L6 _ I J o_6 ?_ FU (223 : Int64) (0 : Int32) _ _ _ hg_6 hP hD hS (lv_sub hl [2, 1, 0] rfl)
  · intro w1_6 H locs ls ho hP hD hS hl
    subst o_6
    refine lv_ldc2 (v := (31 : Int64)) hx hb hown wd_2 dX8_digest_29 ?_
    refine lv_lload_n hx hb dX8_digest_32 rfl (lv_at hl 1 rfl) ?_
    refine lv_lmul hx hb dX8_digest_33 ?_
    refine lv_aload_n hx hb dX8_digest_34 rfl (lv_at hl 0 rfl) ?_
    refine va_get (D := (dC, dI)) (ci := 7) (v := .int (I 38 0)) (C := RX8) (T := TX8) (N := 10) hx hb hts in_X8 hown hK hP 38 (obB_38 ad cI cJ cT I J) rfl 9 (by decide) wd_1 (fun _ h9 => h9) rfl dX8_digest_35 ?_
    refine lv_i2l (v := (I 38 0).toInt64) hx hb dX8_digest_38 rfl ?_
    refine lv_ladd hx hb dX8_digest_39 ?_
    refine lv_lstore_n (lv' := [(1, .long (((31 : Int64) * w1_6) + ((I 38 0).toInt64))), (0, .ref (ad 38))]) hx hb dX8_digest_40 rfl hl (by decide) rfl (fun ls hl => ?_)
    refine lv_iconst (v := (0 : Int32)) hx hb dX8_digest_41 (by decide) ?_
    refine lv_istore_n (lv' := [(3, .int (0 : Int32)), (1, .long (((31 : Int64) * w1_6) + ((I 38 0).toInt64))), (0, .ref (ad 38))]) hx hb dX8_digest_42 rfl hl (by decide) rfl (fun ls hl => ?_)
    obtain ⟨o_7, hg_7, hf⟩ := bd_some hf
    refine L43 _ I J o_7 ?_ FU (((31 : Int64) * w1_6) + ((I 38 0).toInt64)) (0 : Int32) _ _ _ hg_7 hP hD hS (lv_sub hl [2, 1, 0] rfl)
    · intro w1_7 H locs ls ho hP hD hS hl
      subst o_7
      refine lv_lload_n hx hb dX8_digest_71 rfl (lv_at hl 0 rfl) ?_
      cases hf
      exact xRl hx hb hr hlocks hK hP hD hS (fun _ h => h) dX8_digest_72
