set_option maxHeartbeats 4000000 in
set_option maxRecDepth 100000 in
theorem c_X9_ways (l : Launch) (dC : Nat → ClassId) (dI : Nat → Nat → Nat) (ad : Nat → Nat) (cI cJ cT : ClassId) (p1 : Int32) (p2 : Int32) (p3 : Int32) (p4 : Int32) (p5 : Int32) (I : SI) (J : SJ) {r0 : Int64} {J0 : SJ} (hf : f_X9_ways p1 p2 p3 p4 p5 I J = some (r0, J0)) : CtL l yX9_ways wsX9_ways ({ frames := 2, cells := 0, slots := 0, locals := 48 } : Room) (dC, dI) (tys3 cI cJ cT) (wM ad cI cJ) [.ref (ad 13), .int p1, .int p2, .int p3, .int p4, .int p5] I J r0 I J0 := by
  intro sz
  refine Met.ofW (cc := cX9_ways) (maxL := 7) (ret := (some .long)) (by decide) rfl ?_
  intro p e s m args below meth c s₁ B hml hv
  obtain ⟨hargs, hsz, hP, hK, hD0⟩ := hv
  have hx := B.exec
  have hb := B.bytes
  have hr := B.returns
  have hts := atoms_spec (ws := wsX9_ways) B.pre
  have hown : s.vm.findClass RX9 = some m.cls := findClass_of_methodNamed B.named
  have hlocks := B.notSynchronized
  subst hsz
  have hD := hD0.self (sz := s.heap.size)
  generalize hAe : va_A ((wM ad cI cJ) I J) s.heap.size = A at hD ⊢
  have hA : ∀ q : Nat, s.heap.size ≤ q → A q := fun q h => by rw [← hAe]; exact Or.inr h
  have hS : va_S A s.heap s.heap [] := va_S.rf
  have hl := lv_entry ([.ref (ad 13), .int p1, .int p2, .int p3, .int p4, .int p5]) (n := 7) (Nat.le_of_ble_eq_true rfl)
  rw [hargs, lg_entry_eq, ← hargs]
  generalize (lg_sl ([.ref (ad 13), .int p1, .int p2, .int p3, .int p4, .int p5]) ++ List.replicate (7 - (lg_sl ([.ref (ad 13), .int p1, .int p2, .int p3, .int p4, .int p5])).length) Slot.unset).toArray = ls at hl ⊢
  have hl : lv_has ls 7 [(0, .ref (ad 13)), (1, .int p1), (2, .int p2), (3, .int p3), (4, .int p4), (5, .int p5)] := hl
  have hfix : CallFix p m c cX9_ways 7 s args wsX9_ways RX9 := ⟨hx, hb, hml, hown, hts⟩
  have in_X9 : ∀ w ∈ u_ws RX9 TX9 15, w ∈ wsX9_ways := by decide +kernel
  have wd_0 := hts (.constantLong RX9 142 (-2)) (by decide +kernel)
  have wd_1 := hts (.constantLong RX9 150 (12)) (by decide +kernel)
  have wd_2 := hts (.fieldLink RX9 31 "FuseBenchModel" "sum" "[J") (by decide +kernel)
  have L61 : ∀ (Q : State → Prop) (v1 : Int32) (v3 : Int32) (v4 : Int32) (v5 : Int32) (I : SI) (o : SJ), (∀  (J : SJ) (H : Heap) (locs : List Loc) (ls : Array Slot), o = J → va_P (dC, dI) vwCl ((wM ad cI cJ) I J) H → va_D A ((wM ad cI cJ) I J) → va_S A s.heap H locs → lv_has ls 7 [(0, .ref (ad 13)), (5, .int v5)] → W p l e ({ frames := 2, cells := 0, slots := 0, locals := 48 } : Room) s m args below meth c H locs 0 0 Q (F0 m 80 ls [])) → ∀ (n : Nat) (v6 : Int32) (J : SJ) (H : Heap) (locs : List Loc) (ls : Array Slot), lp_X9_ways_61 v1 v3 v4 v5 I n v6 J = some o → va_P (dC, dI) vwCl ((wM ad cI cJ) I J) H → va_D A ((wM ad cI cJ) I J) → va_S A s.heap H locs → lv_has ls 7 [(0, .ref (ad 13)), (1, .int v1), (3, .int v3), (4, .int v4), (5, .int v5), (6, .int v6)] → W p l e ({ frames := 2, cells := 0, slots := 0, locals := 48 } : Room) s m args below meth c H locs 0 0 Q (F0 m 61 ls []) := by
    intro Q v1 v3 v4 v5 I o K0 n
    clear hP hD hS hl
    induction n with
    | zero =>
      intro v6 J H locs ls hf
      rw [lp_X9_ways_61.eq_1] at hf
      cases hf
    | succ n ih =>
      intro v6 J H locs ls hf hP hD hS hl
      rw [lp_X9_ways_61.eq_2] at hf
      refine lv_iload hx hb dX9_ways_61 (lv_at hl 5 rfl) ?_
      refine lv_iload hx hb dX9_ways_63 (lv_at hl 3 rfl) ?_
      refine lv_icmp_ge (tgt := 80) hx hb dX9_ways_65 (by decide) (fun c_1 => ?_) (fun c_1 => ?_)
      · have hf := (if_pos c_1).symm.trans hf
        exact K0 _ _ _ _ (Option.some.inj hf).symm hP hD hS (lv_sub hl [0, 4] rfl)
      · have hf := (if_neg c_1).symm.trans hf
        refine lv_aload_n hx hb dX9_ways_68 rfl (lv_at hl 0 rfl) ?_
        refine lv_iload_n hx hb dX9_ways_69 rfl (lv_at hl 1 rfl) ?_
        refine lv_iload_n hx hb dX9_ways_70 rfl (lv_at hl 2 rfl) ?_
        obtain ⟨J_2, hg_2, hf⟩ := bd_some hf
        refine xVv (rest := []) (c_X9_fuse l dC dI ad cI cJ cT v1 v3 I J hg_2) hfix (cwV 2 hts gX9_ways_X9_fuse rfl rfl rfl (by decide +kernel) ⟨Nat.le_of_ble_eq_true rfl, Nat.le_of_ble_eq_true rfl⟩) hK hP hD hS hA (va_recv hK hP (ci := 8) (q0 := 13) rfl (obM_13 ad cI cJ I J)) rfl hl.1 rfl (Nat.le_of_ble_eq_true rfl) ⟨Nat.zero_le _, Nat.zero_le _⟩ dX9_ways_71 (fun H locs hP hD hS => ?_)
        refine lv_iinc (v := (v6 + (1 : Int32))) (lv' := [(6, .int (v6 + (1 : Int32))), (0, .ref (ad 13)), (1, .int v1), (3, .int v3), (4, .int v4), (5, .int v5)]) hx hb dX9_ways_74 hl (k := 5) rfl (by first | rfl | decide) (by decide) rfl (fun ls hl => ?_)
        refine lv_goto (tgt := 61) hx hb dX9_ways_77 (by decide) ?_
        exact ih _ _ _ _ _ hf hP hD hS (lv_sub hl [1, 2, 3, 4, 5, 0] rfl)
  unfold f_X9_ways at hf
  refine lv_iload_n hx hb dX9_ways_0 rfl (lv_at hl 1 rfl) ?_
  obtain ⟨r_3, hg_3, hf⟩ := bd_some hf
  refine xSi (rest := []) (c_X9_noTable l dC dI ad cI cJ cT p1 I J hg_3) hfix (va_cwS 1 hts gX9_ways_X9_noTable rfl rfl rfl (by decide +kernel) ⟨Nat.le_of_ble_eq_true rfl, Nat.le_of_ble_eq_true rfl⟩) hK hP hD hS hA rfl hl.1 rfl (Nat.le_of_ble_eq_true rfl) ⟨Nat.zero_le _, Nat.zero_le _⟩ dX9_ways_1 (fun H locs hP hD hS => ?_)
  refine lv_if_ne (tgt := 48) hx hb dX9_ways_4 (by decide) (fun c_4 => ?_) (fun c_4 => ?_)
  · have hf := (if_neg c_4).symm.trans hf
    refine lv_ldc2 (v := (-2 : Int64)) hx hb hown wd_0 dX9_ways_48 ?_
    cases hf
    exact xRl hx hb hr hlocks hK hP hD hS (fun _ h => h) dX9_ways_51
  · have hf := (if_pos c_4).symm.trans hf
    refine lv_aload_n hx hb dX9_ways_7 rfl (lv_at hl 0 rfl) ?_
    refine lv_iload_n hx hb dX9_ways_8 rfl (lv_at hl 1 rfl) ?_
    refine lv_iload_n hx hb dX9_ways_9 rfl (lv_at hl 2 rfl) ?_
    obtain ⟨r_5, hg_5, hf⟩ := bd_some hf
    refine xVi (rest := []) (c_X9_isKind l dC dI ad cI cJ cT p1 p2 I J hg_5) hfix (cwV 2 hts gX9_ways_X9_isKind rfl rfl rfl (by decide +kernel) ⟨Nat.le_of_ble_eq_true rfl, Nat.le_of_ble_eq_true rfl⟩) hK hP hD hS hA (va_recv hK hP (ci := 8) (q0 := 13) rfl (obM_13 ad cI cJ I J)) rfl hl.1 rfl (Nat.le_of_ble_eq_true rfl) ⟨Nat.zero_le _, Nat.zero_le _⟩ dX9_ways_10 (fun H locs hP hD hS => ?_)
    refine lv_if_eq (tgt := 48) hx hb dX9_ways_13 (by decide) (fun c_6 => ?_) (fun c_6 => ?_)
    · have hf := (if_pos c_6).symm.trans hf
      refine lv_ldc2 (v := (-2 : Int64)) hx hb hown wd_0 dX9_ways_48 ?_
      cases hf
      exact xRl hx hb hr hlocks hK hP hD hS (fun _ h => h) dX9_ways_51
    · have hf := (if_neg c_6).symm.trans hf
      refine lv_aload_n hx hb dX9_ways_16 rfl (lv_at hl 0 rfl) ?_
      refine lv_iload_n hx hb dX9_ways_17 rfl (lv_at hl 1 rfl) ?_
      refine lv_iload_n hx hb dX9_ways_18 rfl (lv_at hl 3 rfl) ?_
      obtain ⟨r_7, hg_7, hf⟩ := bd_some hf
      refine xVi (rest := []) (c_X9_isKind l dC dI ad cI cJ cT p1 p3 I J hg_7) hfix (cwV 2 hts gX9_ways_X9_isKind rfl rfl rfl (by decide +kernel) ⟨Nat.le_of_ble_eq_true rfl, Nat.le_of_ble_eq_true rfl⟩) hK hP hD hS hA (va_recv hK hP (ci := 8) (q0 := 13) rfl (obM_13 ad cI cJ I J)) rfl hl.1 rfl (Nat.le_of_ble_eq_true rfl) ⟨Nat.zero_le _, Nat.zero_le _⟩ dX9_ways_19 (fun H locs hP hD hS => ?_)
      refine lv_if_eq (tgt := 48) hx hb dX9_ways_22 (by decide) (fun c_8 => ?_) (fun c_8 => ?_)
      · have hf := (if_pos c_8).symm.trans hf
        refine lv_ldc2 (v := (-2 : Int64)) hx hb hown wd_0 dX9_ways_48 ?_
        cases hf
        exact xRl hx hb hr hlocks hK hP hD hS (fun _ h => h) dX9_ways_51
      · have hf := (if_neg c_8).symm.trans hf
        refine lv_iload hx hb dX9_ways_25 (lv_at hl 4 rfl) ?_
        refine lv_i2l (v := p4.toInt64) hx hb dX9_ways_27 rfl ?_
        refine lv_lconst (v := (0 : Int64)) hx hb dX9_ways_28 (by decide) ?_
        refine lv_ldc2 (v := (12 : Int64)) hx hb hown wd_1 dX9_ways_29 ?_
        obtain ⟨r_9, hg_9, hf⟩ := bd_some hf
        refine xSi (rest := []) (c_X9_in l dC dI ad cI cJ cT (p4.toInt64) (0 : Int64) (12 : Int64) I J hg_9) hfix (va_cwS 3 hts gX9_ways_X9_in rfl rfl rfl (by decide +kernel) ⟨Nat.le_of_ble_eq_true rfl, Nat.le_of_ble_eq_true rfl⟩) hK hP hD hS hA rfl hl.1 rfl (Nat.le_of_ble_eq_true rfl) ⟨Nat.zero_le _, Nat.zero_le _⟩ dX9_ways_32 (fun H locs hP hD hS => ?_)
        refine lv_if_eq (tgt := 48) hx hb dX9_ways_35 (by decide) (fun c_10 => ?_) (fun c_10 => ?_)
        · have hf := (if_pos c_10).symm.trans hf
          refine lv_ldc2 (v := (-2 : Int64)) hx hb hown wd_0 dX9_ways_48 ?_
          cases hf
          exact xRl hx hb hr hlocks hK hP hD hS (fun _ h => h) dX9_ways_51
        · have hf := (if_neg c_10).symm.trans hf
          refine lv_aload_n hx hb dX9_ways_38 rfl (lv_at hl 0 rfl) ?_
          refine lv_iload_n hx hb dX9_ways_39 rfl (lv_at hl 1 rfl) ?_
          refine lv_iload hx hb dX9_ways_40 (lv_at hl 5 rfl) ?_
          obtain ⟨r_11, hg_11, hf⟩ := bd_some hf
          refine xVi (rest := []) (c_X9_isKind l dC dI ad cI cJ cT p1 p5 I J hg_11) hfix (cwV 2 hts gX9_ways_X9_isKind rfl rfl rfl (by decide +kernel) ⟨Nat.le_of_ble_eq_true rfl, Nat.le_of_ble_eq_true rfl⟩) hK hP hD hS hA (va_recv hK hP (ci := 8) (q0 := 13) rfl (obM_13 ad cI cJ I J)) rfl hl.1 rfl (Nat.le_of_ble_eq_true rfl) ⟨Nat.zero_le _, Nat.zero_le _⟩ dX9_ways_42 (fun H locs hP hD hS => ?_)
          refine lv_if_ne (tgt := 52) hx hb dX9_ways_45 (by decide) (fun c_12 => ?_) (fun c_12 => ?_)
          · have hf := (if_neg c_12).symm.trans hf
            refine lv_aload_n hx hb dX9_ways_52 rfl (lv_at hl 0 rfl) ?_
            refine lv_iload_n hx hb dX9_ways_53 rfl (lv_at hl 1 rfl) ?_
            refine lv_iload_n hx hb dX9_ways_54 rfl (lv_at hl 2 rfl) ?_
            obtain ⟨J_13, hg_13, hf⟩ := bd_some hf
            refine xVv (rest := []) (c_X9_start l dC dI ad cI cJ cT p1 p2 I J hg_13) hfix (cwV 2 hts gX9_ways_X9_start rfl rfl rfl (by decide +kernel) ⟨Nat.le_of_ble_eq_true rfl, Nat.le_of_ble_eq_true rfl⟩) hK hP hD hS hA (va_recv hK hP (ci := 8) (q0 := 13) rfl (obM_13 ad cI cJ I J)) rfl hl.1 rfl (Nat.le_of_ble_eq_true rfl) ⟨Nat.zero_le _, Nat.zero_le _⟩ dX9_ways_55 (fun H locs hP hD hS => ?_)
            refine lv_iconst (v := (0 : Int32)) hx hb dX9_ways_58 (by decide) ?_
            refine lv_istore (lv' := [(6, .int (0 : Int32)), (0, .ref (ad 13)), (1, .int p1), (2, .int p2), (3, .int p3), (4, .int p4), (5, .int p5)]) hx hb dX9_ways_59 hl (by decide) rfl (fun ls hl => ?_)
            obtain ⟨o_14, hg_14, hf⟩ := bd_some hf
            refine L61 _ p1 p3 p4 p5 I o_14 ?_ FU (0 : Int32) J_13 _ _ _ hg_14 hP hD hS (lv_sub hl [1, 2, 4, 5, 6, 0] rfl)
            · intro J_14 H locs ls ho hP hD hS hl
              subst o_14
              refine lv_aload_n hx hb dX9_ways_80 rfl (lv_at hl 0 rfl) ?_
              refine va_get (D := (dC, dI)) (ci := 8) (v := .ref (ad 7)) (C := RX9) (T := TX9) (N := 15) hx hb hts in_X9 hown hK hP 13 (obM_13 ad cI cJ I J_14) rfl 9 (by decide) wd_2 (fun _ h9 => h9) rfl dX9_ways_81 ?_
              refine lv_iload hx hb dX9_ways_84 (lv_at hl 1 rfl) ?_
              obtain ⟨h_15, hf⟩ := gd_some hf
              refine x_lald hx hb hK (aiM_7 ad cI cJ) hP h_15 dX9_ways_86 ?_
              cases hf
              exact xRl hx hb hr hlocks hK hP hD hS (fun _ h => h) dX9_ways_87
          · have hf := (if_pos c_12).symm.trans hf
            refine lv_ldc2 (v := (-2 : Int64)) hx hb hown wd_0 dX9_ways_48 ?_
            cases hf
            exact xRl hx hb hr hlocks hK hP hD hS (fun _ h => h) dX9_ways_51
set_option maxHeartbeats 4000000 in
set_option maxRecDepth 100000 in
theorem c_X9_close (l : Launch) (dC : Nat → ClassId) (dI : Nat → Nat → Nat) (ad : Nat → Nat) (cI cJ cT : ClassId) (p1 : Int32) (p2 : Int32) (I : SI) (J : SJ) {r0 : Int32} (hf : f_X9_close p1 p2 I = some r0) : CtI l yX9_close wsX9_close ({ frames := 1, cells := 0, slots := 0, locals := 24 } : Room) (dC, dI) (tys3 cI cJ cT) (wM ad cI cJ) [.ref (ad 13), .int p1, .int p2] I J r0 I J := by
  intro sz
  refine Met.ofW (cc := cX9_close) (maxL := 8) (ret := (some .int)) (by decide) rfl ?_
  intro p e s m args below meth c s₁ B hml hv
  obtain ⟨hargs, hsz, hP, hK, hD0⟩ := hv
  have hx := B.exec
  have hb := B.bytes
  have hr := B.returns
  have hts := atoms_spec (ws := wsX9_close) B.pre
  have hown : s.vm.findClass RX9 = some m.cls := findClass_of_methodNamed B.named
  have hlocks := B.notSynchronized
  subst hsz
  have hD := hD0.self (sz := s.heap.size)
  generalize hAe : va_A ((wM ad cI cJ) I J) s.heap.size = A at hD ⊢
  have hA : ∀ q : Nat, s.heap.size ≤ q → A q := fun q h => by rw [← hAe]; exact Or.inr h
  have hS : va_S A s.heap s.heap [] := va_S.rf
  have hl := lv_entry ([.ref (ad 13), .int p1, .int p2]) (n := 8) (Nat.le_of_ble_eq_true rfl)
  rw [hargs, lg_entry_eq, ← hargs]
  generalize (lg_sl ([.ref (ad 13), .int p1, .int p2]) ++ List.replicate (8 - (lg_sl ([.ref (ad 13), .int p1, .int p2])).length) Slot.unset).toArray = ls at hl ⊢
  have hl : lv_has ls 8 [(0, .ref (ad 13)), (1, .int p1), (2, .int p2)] := hl
  have hfix : CallFix p m c cX9_close 8 s args wsX9_close RX9 := ⟨hx, hb, hml, hown, hts⟩
  have in_X9 : ∀ w ∈ u_ws RX9 TX9 15, w ∈ wsX9_close := by decide +kernel
  have wd_0 := hts (.fieldLink RX9 7 "FuseBenchModel" "ranks" "[I") (by decide +kernel)
  have wd_1 := hts (.fieldLink RX9 19 "FuseBenchModel" "partners" "[I") (by decide +kernel)
  have L70 : ∀ (Q : State → Prop) (v1 : Int32) (v4 : Int32) (v5 : Int32) (v6 : Int32) (I : SI) (J : SJ) (o : Int32), (∀ (w3 : Int32) (H : Heap) (locs : List Loc) (ls : Array Slot), o = w3 → va_P (dC, dI) vwCl ((wM ad cI cJ) I J) H → va_D A ((wM ad cI cJ) I J) → va_S A s.heap H locs → lv_has ls 8 [(0, .ref (ad 13)), (1, .int v1), (3, .int w3), (4, .int v4), (5, .int v5), (6, .int v6)] → W p l e ({ frames := 1, cells := 0, slots := 0, locals := 24 } : Room) s m args below meth c H locs 0 0 Q (F0 m 123 ls [])) → ∀ (n : Nat) (v3 : Int32) (v7 : Int32) (H : Heap) (locs : List Loc) (ls : Array Slot), lp_X9_close_70 v1 v4 v5 v6 I n v3 v7 = some o → va_P (dC, dI) vwCl ((wM ad cI cJ) I J) H → va_D A ((wM ad cI cJ) I J) → va_S A s.heap H locs → lv_has ls 8 [(0, .ref (ad 13)), (1, .int v1), (3, .int v3), (4, .int v4), (5, .int v5), (6, .int v6), (7, .int v7)] → W p l e ({ frames := 1, cells := 0, slots := 0, locals := 24 } : Room) s m args below meth c H locs 0 0 Q (F0 m 70 ls []) := by
    intro Q v1 v4 v5 v6 I J o K0 n
    clear hP hD hS hl
    induction n with
    | zero =>
      intro v3 v7 H locs ls hf
      rw [lp_X9_close_70.eq_1] at hf
      cases hf
    | succ n ih =>
      intro v3 v7 H locs ls hf hP hD hS hl
      rw [lp_X9_close_70.eq_2] at hf
      refine lv_iload hx hb dX9_close_70 (lv_at hl 6 rfl) ?_
      refine lv_aload_n hx hb dX9_close_72 rfl (lv_at hl 0 rfl) ?_
      refine va_get (D := (dC, dI)) (ci := 8) (v := .ref (ad 0)) (C := RX9) (T := TX9) (N := 15) hx hb hts in_X9 hown hK hP 13 (obM_13 ad cI cJ I J) rfl 0 (by decide) wd_0 (fun _ h9 => h9) rfl dX9_close_73 ?_
      refine lv_iload_n hx hb dX9_close_76 rfl (lv_at hl 1 rfl) ?_
      obtain ⟨h_1, hf⟩ := gd_some hf
      refine x_iald hx hb hK (aiM_0 ad cI cJ) hP h_1 dX9_close_77 ?_
      refine lv_icmp_ge (tgt := 123) hx hb dX9_close_78 (by decide) (fun c_2 => ?_) (fun c_2 => ?_)
      · have hf := (if_pos c_2).symm.trans hf
        exact K0 _ _ _ _ (Option.some.inj hf).symm hP hD hS (lv_sub hl [0, 1, 2, 3, 4, 5] rfl)
      · have hf := (if_neg c_2).symm.trans hf
        refine lv_iload_n hx hb dX9_close_81 rfl (lv_at hl 2 rfl) ?_
        refine lv_iload hx hb dX9_close_82 (lv_at hl 3 rfl) ?_
        refine lv_iload hx hb dX9_close_84 (lv_at hl 5 rfl) ?_
        refine lv_ishr hx hb dX9_close_86 ?_
        refine lv_iconst (v := (1 : Int32)) hx hb dX9_close_87 (by decide) ?_
        refine lv_iand hx hb dX9_close_88 ?_
        refine lv_iconst (v := (1 : Int32)) hx hb dX9_close_89 (by decide) ?_
        refine lv_icmp_ne (tgt := 114) hx hb dX9_close_90 (by decide) (fun c_3 => ?_) (fun c_3 => ?_)
        · have hf := (if_neg c_3).symm.trans hf
          refine lv_iconst (v := (0 : Int32)) hx hb dX9_close_114 (by decide) ?_
          refine lv_ior hx hb dX9_close_115 ?_
          refine lv_istore_n (lv' := [(3, .int (v3 ||| (0 : Int32))), (0, .ref (ad 13)), (1, .int v1), (4, .int v4), (5, .int v5), (6, .int v6), (7, .int v7)]) hx hb dX9_close_116 rfl hl (by decide) rfl (fun ls hl => ?_)
          refine lv_iinc (v := (v7 + (1 : Int32))) (lv' := [(7, .int (v7 + (1 : Int32))), (3, .int (v3 ||| (0 : Int32))), (0, .ref (ad 13)), (1, .int v1), (4, .int v4), (5, .int v5), (6, .int v6)]) hx hb dX9_close_117 hl (k := 6) rfl (by first | rfl | decide) (by decide) rfl (fun ls hl => ?_)
          refine lv_goto (tgt := 70) hx hb dX9_close_120 (by decide) ?_
          exact ih _ _ _ _ _ hf hP hD hS (lv_sub hl [2, 3, 1, 4, 5, 6, 0] rfl)
        · have hf := (if_pos c_3).symm.trans hf
          refine lv_aload_n hx hb dX9_close_93 rfl (lv_at hl 0 rfl) ?_
          refine lv_iload_n hx hb dX9_close_94 rfl (lv_at hl 1 rfl) ?_
          refine lv_iload hx hb dX9_close_95 (lv_at hl 4 rfl) ?_
          refine lv_iload hx hb dX9_close_97 (lv_at hl 5 rfl) ?_
          refine lv_iload hx hb dX9_close_99 (lv_at hl 6 rfl) ?_
          obtain ⟨r_4, hg_4, hf⟩ := bd_some hf
          refine xVi (rest := [.int v3]) (c_X9_n l dC dI ad cI cJ cT v1 v5 v6 v7 I J hg_4) hfix (cwV 4 hts gX9_close_X9_n rfl rfl rfl (by decide +kernel) ⟨Nat.le_of_ble_eq_true rfl, Nat.le_of_ble_eq_true rfl⟩) hK hP hD hS hA (va_recv hK hP (ci := 8) (q0 := 13) rfl (obM_13 ad cI cJ I J)) rfl hl.1 rfl (Nat.le_of_ble_eq_true rfl) ⟨Nat.zero_le _, Nat.zero_le _⟩ dX9_close_101 (fun H locs hP hD hS => ?_)
          refine lv_if_le (tgt := 114) hx hb dX9_close_104 (by decide) (fun c_5 => ?_) (fun c_5 => ?_)
          · have hf := (if_pos c_5).symm.trans hf
            refine lv_iconst (v := (0 : Int32)) hx hb dX9_close_114 (by decide) ?_
            refine lv_ior hx hb dX9_close_115 ?_
            refine lv_istore_n (lv' := [(3, .int (v3 ||| (0 : Int32))), (0, .ref (ad 13)), (1, .int v1), (4, .int v4), (5, .int v5), (6, .int v6), (7, .int v7)]) hx hb dX9_close_116 rfl hl (by decide) rfl (fun ls hl => ?_)
            refine lv_iinc (v := (v7 + (1 : Int32))) (lv' := [(7, .int (v7 + (1 : Int32))), (3, .int (v3 ||| (0 : Int32))), (0, .ref (ad 13)), (1, .int v1), (4, .int v4), (5, .int v5), (6, .int v6)]) hx hb dX9_close_117 hl (k := 6) rfl (by first | rfl | decide) (by decide) rfl (fun ls hl => ?_)
            refine lv_goto (tgt := 70) hx hb dX9_close_120 (by decide) ?_
            exact ih _ _ _ _ _ hf hP hD hS (lv_sub hl [2, 3, 1, 4, 5, 6, 0] rfl)
          · have hf := (if_neg c_5).symm.trans hf
            refine lv_iconst (v := (1 : Int32)) hx hb dX9_close_107 (by decide) ?_
            refine lv_iload hx hb dX9_close_108 (lv_at hl 6 rfl) ?_
            refine lv_ishl hx hb dX9_close_110 ?_
            refine lv_goto (tgt := 115) hx hb dX9_close_111 (by decide) ?_
            refine lv_ior hx hb dX9_close_115 ?_
            refine lv_istore_n (lv' := [(3, .int (v3 ||| ((1 : Int32) <<< (v7 &&& 31)))), (0, .ref (ad 13)), (1, .int v1), (4, .int v4), (5, .int v5), (6, .int v6), (7, .int v7)]) hx hb dX9_close_116 rfl hl (by decide) rfl (fun ls hl => ?_)
            refine lv_iinc (v := (v7 + (1 : Int32))) (lv' := [(7, .int (v7 + (1 : Int32))), (3, .int (v3 ||| ((1 : Int32) <<< (v7 &&& 31)))), (0, .ref (ad 13)), (1, .int v1), (4, .int v4), (5, .int v5), (6, .int v6)]) hx hb dX9_close_117 hl (k := 6) rfl (by first | rfl | decide) (by decide) rfl (fun ls hl => ?_)
            refine lv_goto (tgt := 70) hx hb dX9_close_120 (by decide) ?_
            exact ih _ _ _ _ _ hf hP hD hS (lv_sub hl [2, 3, 1, 4, 5, 6, 0] rfl)
  have L56 : ∀ (Q : State → Prop) (v1 : Int32) (v4 : Int32) (v5 : Int32) (I : SI) (J : SJ) (o : Int32), (∀ (w3 : Int32) (H : Heap) (locs : List Loc) (ls : Array Slot), o = w3 → va_P (dC, dI) vwCl ((wM ad cI cJ) I J) H → va_D A ((wM ad cI cJ) I J) → va_S A s.heap H locs → lv_has ls 8 [(0, .ref (ad 13)), (1, .int v1), (3, .int w3), (4, .int v4), (5, .int v5)] → W p l e ({ frames := 1, cells := 0, slots := 0, locals := 24 } : Room) s m args below meth c H locs 0 0 Q (F0 m 129 ls [])) → ∀ (n : Nat) (v3 : Int32) (v6 : Int32) (H : Heap) (locs : List Loc) (ls : Array Slot), lp_X9_close_56 v1 v4 v5 I n v3 v6 = some o → va_P (dC, dI) vwCl ((wM ad cI cJ) I J) H → va_D A ((wM ad cI cJ) I J) → va_S A s.heap H locs → lv_has ls 8 [(0, .ref (ad 13)), (1, .int v1), (3, .int v3), (4, .int v4), (5, .int v5), (6, .int v6)] → W p l e ({ frames := 1, cells := 0, slots := 0, locals := 24 } : Room) s m args below meth c H locs 0 0 Q (F0 m 56 ls []) := by
    intro Q v1 v4 v5 I J o K0 n
    clear hP hD hS hl
    induction n with
    | zero =>
      intro v3 v6 H locs ls hf
      rw [lp_X9_close_56.eq_1] at hf
      cases hf
    | succ n ih =>
      intro v3 v6 H locs ls hf hP hD hS hl
      rw [lp_X9_close_56.eq_2] at hf
      refine lv_iload hx hb dX9_close_56 (lv_at hl 5 rfl) ?_
      refine lv_aload_n hx hb dX9_close_58 rfl (lv_at hl 0 rfl) ?_
      refine va_get (D := (dC, dI)) (ci := 8) (v := .ref (ad 0)) (C := RX9) (T := TX9) (N := 15) hx hb hts in_X9 hown hK hP 13 (obM_13 ad cI cJ I J) rfl 0 (by decide) wd_0 (fun _ h9 => h9) rfl dX9_close_59 ?_
      refine lv_iload_n hx hb dX9_close_62 rfl (lv_at hl 1 rfl) ?_
      obtain ⟨h_6, hf⟩ := gd_some hf
      refine x_iald hx hb hK (aiM_0 ad cI cJ) hP h_6 dX9_close_63 ?_
      refine lv_icmp_ge (tgt := 129) hx hb dX9_close_64 (by decide) (fun c_7 => ?_) (fun c_7 => ?_)
      · have hf := (if_pos c_7).symm.trans hf
        exact K0 _ _ _ _ (Option.some.inj hf).symm hP hD hS (lv_sub hl [0, 1, 2, 3, 4] rfl)
      · have hf := (if_neg c_7).symm.trans hf
        refine lv_iconst (v := (0 : Int32)) hx hb dX9_close_67 (by decide) ?_
        refine lv_istore (lv' := [(7, .int (0 : Int32)), (0, .ref (ad 13)), (1, .int v1), (3, .int v3), (4, .int v4), (5, .int v5), (6, .int v6)]) hx hb dX9_close_68 hl (by decide) rfl (fun ls hl => ?_)
        obtain ⟨o_8, hg_8, hf⟩ := bd_some hf
        refine L70 _ v1 v4 v5 v6 I J o_8 ?_ FU v3 (0 : Int32) _ _ _ hg_8 hP hD hS (lv_sub hl [1, 2, 3, 4, 5, 6, 0] rfl)
        · intro w3_8 H locs ls ho hP hD hS hl
          subst o_8
          refine lv_iinc (v := (v6 + (1 : Int32))) (lv' := [(6, .int (v6 + (1 : Int32))), (0, .ref (ad 13)), (1, .int v1), (3, .int w3_8), (4, .int v4), (5, .int v5)]) hx hb dX9_close_123 hl (k := 5) rfl (by first | rfl | decide) (by decide) rfl (fun ls hl => ?_)
          refine lv_goto (tgt := 56) hx hb dX9_close_126 (by decide) ?_
          exact ih _ _ _ _ _ hf hP hD hS (lv_sub hl [1, 2, 3, 4, 5, 0] rfl)
  have L19 : ∀ (Q : State → Prop) (v1 : Int32) (v4 : Int32) (I : SI) (J : SJ) (o : Int32), (∀ (w3 : Int32) (H : Heap) (locs : List Loc) (ls : Array Slot), o = w3 → va_P (dC, dI) vwCl ((wM ad cI cJ) I J) H → va_D A ((wM ad cI cJ) I J) → va_S A s.heap H locs → lv_has ls 8 [(0, .ref (ad 13)), (1, .int v1), (3, .int w3), (4, .int v4)] → W p l e ({ frames := 1, cells := 0, slots := 0, locals := 24 } : Room) s m args below meth c H locs 0 0 Q (F0 m 135 ls [])) → ∀ (n : Nat) (v3 : Int32) (v5 : Int32) (H : Heap) (locs : List Loc) (ls : Array Slot), lp_X9_close_19 v1 v4 I n v3 v5 = some o → va_P (dC, dI) vwCl ((wM ad cI cJ) I J) H → va_D A ((wM ad cI cJ) I J) → va_S A s.heap H locs → lv_has ls 8 [(0, .ref (ad 13)), (1, .int v1), (3, .int v3), (4, .int v4), (5, .int v5)] → W p l e ({ frames := 1, cells := 0, slots := 0, locals := 24 } : Room) s m args below meth c H locs 0 0 Q (F0 m 19 ls []) := by
    intro Q v1 v4 I J o K0 n
    clear hP hD hS hl
    induction n with
    | zero =>
      intro v3 v5 H locs ls hf
      rw [lp_X9_close_19.eq_1] at hf
      cases hf
    | succ n ih =>
      intro v3 v5 H locs ls hf hP hD hS hl
      rw [lp_X9_close_19.eq_2] at hf
      refine lv_iload hx hb dX9_close_19 (lv_at hl 4 rfl) ?_
      refine lv_aload_n hx hb dX9_close_21 rfl (lv_at hl 0 rfl) ?_
      refine va_get (D := (dC, dI)) (ci := 8) (v := .ref (ad 0)) (C := RX9) (T := TX9) (N := 15) hx hb hts in_X9 hown hK hP 13 (obM_13 ad cI cJ I J) rfl 0 (by decide) wd_0 (fun _ h9 => h9) rfl dX9_close_22 ?_
      refine lv_iload_n hx hb dX9_close_25 rfl (lv_at hl 1 rfl) ?_
      obtain ⟨h_9, hf⟩ := gd_some hf
      refine x_iald hx hb hK (aiM_0 ad cI cJ) hP h_9 dX9_close_26 ?_
      refine lv_icmp_ge (tgt := 135) hx hb dX9_close_27 (by decide) (fun c_10 => ?_) (fun c_10 => ?_)
      · have hf := (if_pos c_10).symm.trans hf
        exact K0 _ _ _ _ (Option.some.inj hf).symm hP hD hS (lv_sub hl [0, 1, 2, 3] rfl)
      · have hf := (if_neg c_10).symm.trans hf
        refine lv_iload hx hb dX9_close_30 (lv_at hl 3 rfl) ?_
        refine lv_iload hx hb dX9_close_32 (lv_at hl 4 rfl) ?_
        refine lv_ishr hx hb dX9_close_34 ?_
        refine lv_iconst (v := (1 : Int32)) hx hb dX9_close_35 (by decide) ?_
        refine lv_iand hx hb dX9_close_36 ?_
        refine lv_iconst (v := (1 : Int32)) hx hb dX9_close_37 (by decide) ?_
        refine lv_icmp_ne (tgt := 129) hx hb dX9_close_38 (by decide) (fun c_11 => ?_) (fun c_11 => ?_)
        · have hf := (if_neg c_11).symm.trans hf
          refine lv_iinc (v := (v5 + (1 : Int32))) (lv' := [(5, .int (v5 + (1 : Int32))), (0, .ref (ad 13)), (1, .int v1), (3, .int v3), (4, .int v4)]) hx hb dX9_close_129 hl (k := 4) rfl (by first | rfl | decide) (by decide) rfl (fun ls hl => ?_)
          refine lv_goto (tgt := 19) hx hb dX9_close_132 (by decide) ?_
          exact ih _ _ _ _ _ hf hP hD hS (lv_sub hl [1, 2, 3, 4, 0] rfl)
        · have hf := (if_pos c_11).symm.trans hf
          refine lv_iload_n hx hb dX9_close_41 rfl (lv_at hl 2 rfl) ?_
          refine lv_iconst (v := (1 : Int32)) hx hb dX9_close_42 (by decide) ?_
          refine lv_aload_n hx hb dX9_close_43 rfl (lv_at hl 0 rfl) ?_
          refine va_get (D := (dC, dI)) (ci := 8) (v := .ref (ad 3)) (C := RX9) (T := TX9) (N := 15) hx hb hts in_X9 hown hK hP 13 (obM_13 ad cI cJ I J) rfl 3 (by decide) wd_1 (fun _ h9 => h9) rfl dX9_close_44 ?_
          refine lv_iload hx hb dX9_close_47 (lv_at hl 4 rfl) ?_
          obtain ⟨h_12, hf⟩ := gd_some hf
          refine x_iald hx hb hK (aiM_3 ad cI cJ) hP h_12 dX9_close_49 ?_
          refine lv_ishl hx hb dX9_close_50 ?_
          refine lv_ior hx hb dX9_close_51 ?_
          refine lv_istore_n (lv' := [(3, .int (v3 ||| ((1 : Int32) <<< ((I 3 v5.toNatClampNeg) &&& 31)))), (0, .ref (ad 13)), (1, .int v1), (4, .int v4), (5, .int v5)]) hx hb dX9_close_52 rfl hl (by decide) rfl (fun ls hl => ?_)
          refine lv_iconst (v := (0 : Int32)) hx hb dX9_close_53 (by decide) ?_
          refine lv_istore (lv' := [(6, .int (0 : Int32)), (3, .int (v3 ||| ((1 : Int32) <<< ((I 3 v5.toNatClampNeg) &&& 31)))), (0, .ref (ad 13)), (1, .int v1), (4, .int v4), (5, .int v5)]) hx hb dX9_close_54 hl (by decide) rfl (fun ls hl => ?_)
          obtain ⟨o_13, hg_13, hf⟩ := bd_some hf
          refine L56 _ v1 v4 v5 I J o_13 ?_ FU (v3 ||| ((1 : Int32) <<< ((I 3 v5.toNatClampNeg) &&& 31))) (0 : Int32) _ _ _ hg_13 hP hD hS (lv_sub hl [2, 3, 1, 4, 5, 0] rfl)
          · intro w3_13 H locs ls ho hP hD hS hl
            subst o_13
            refine lv_iinc (v := (v5 + (1 : Int32))) (lv' := [(5, .int (v5 + (1 : Int32))), (0, .ref (ad 13)), (1, .int v1), (3, .int w3_13), (4, .int v4)]) hx hb dX9_close_129 hl (k := 4) rfl (by first | rfl | decide) (by decide) rfl (fun ls hl => ?_)
            refine lv_goto (tgt := 19) hx hb dX9_close_132 (by decide) ?_
            exact ih _ _ _ _ _ hf hP hD hS (lv_sub hl [1, 2, 3, 4, 0] rfl)
  have L7 : ∀ (Q : State → Prop) (v1 : Int32) (I : SI) (J : SJ) (o : Int32), (∀ (w3 : Int32) (H : Heap) (locs : List Loc) (ls : Array Slot), o = w3 → va_P (dC, dI) vwCl ((wM ad cI cJ) I J) H → va_D A ((wM ad cI cJ) I J) → va_S A s.heap H locs → lv_has ls 8 [(3, .int w3)] → W p l e ({ frames := 1, cells := 0, slots := 0, locals := 24 } : Room) s m args below meth c H locs 0 0 Q (F0 m 138 ls [])) → ∀ (n : Nat) (v3 : Int32) (v4 : Int32) (H : Heap) (locs : List Loc) (ls : Array Slot), lp_X9_close_7 v1 I n v3 v4 = some o → va_P (dC, dI) vwCl ((wM ad cI cJ) I J) H → va_D A ((wM ad cI cJ) I J) → va_S A s.heap H locs → lv_has ls 8 [(0, .ref (ad 13)), (1, .int v1), (3, .int v3), (4, .int v4)] → W p l e ({ frames := 1, cells := 0, slots := 0, locals := 24 } : Room) s m args below meth c H locs 0 0 Q (F0 m 7 ls []) := by
    intro Q v1 I J o K0 n
    clear hP hD hS hl
    induction n with
    | zero =>
      intro v3 v4 H locs ls hf
      rw [lp_X9_close_7.eq_1] at hf
      cases hf
    | succ n ih =>
      intro v3 v4 H locs ls hf hP hD hS hl
      rw [lp_X9_close_7.eq_2] at hf
      refine lv_iload_n hx hb dX9_close_7 rfl (lv_at hl 2 rfl) ?_
      refine lv_iload hx hb dX9_close_8 (lv_at hl 3 rfl) ?_
      refine lv_icmp_eq (tgt := 138) hx hb dX9_close_10 (by decide) (fun c_14 => ?_) (fun c_14 => ?_)
      · have hf := (if_pos c_14).symm.trans hf
        exact K0 _ _ _ _ (Option.some.inj hf).symm hP hD hS (lv_sub hl [2] rfl)
      · have hf := (if_neg c_14).symm.trans hf
        refine lv_iload_n hx hb dX9_close_13 rfl (lv_at hl 2 rfl) ?_
        refine lv_istore (lv' := [(4, .int v3), (0, .ref (ad 13)), (1, .int v1), (3, .int v3)]) hx hb dX9_close_14 hl (by decide) rfl (fun ls hl => ?_)
        refine lv_iconst (v := (0 : Int32)) hx hb dX9_close_16 (by decide) ?_
        refine lv_istore (lv' := [(5, .int (0 : Int32)), (4, .int v3), (0, .ref (ad 13)), (1, .int v1), (3, .int v3)]) hx hb dX9_close_17 hl (by decide) rfl (fun ls hl => ?_)
        obtain ⟨o_15, hg_15, hf⟩ := bd_some hf
        refine L19 _ v1 v3 I J o_15 ?_ FU v3 (0 : Int32) _ _ _ hg_15 hP hD hS (lv_sub hl [2, 3, 4, 1, 0] rfl)
        · intro w3_15 H locs ls ho hP hD hS hl
          subst o_15
          refine lv_goto (tgt := 7) hx hb dX9_close_135 (by decide) ?_
          exact ih _ _ _ _ _ hf hP hD hS (lv_sub hl [0, 1, 2, 3] rfl)
  unfold f_X9_close at hf
  refine lv_iload_n hx hb dX9_close_0 rfl (lv_at hl 2 rfl) ?_
  refine lv_iconst (v := (1 : Int32)) hx hb dX9_close_1 (by decide) ?_
  refine lv_ior hx hb dX9_close_2 ?_
  refine lv_istore_n (lv' := [(3, .int (p2 ||| (1 : Int32))), (0, .ref (ad 13)), (1, .int p1), (2, .int p2)]) hx hb dX9_close_3 rfl hl (by decide) rfl (fun ls hl => ?_)
  refine lv_iconst (v := (0 : Int32)) hx hb dX9_close_4 (by decide) ?_
  refine lv_istore (lv' := [(4, .int (0 : Int32)), (3, .int (p2 ||| (1 : Int32))), (0, .ref (ad 13)), (1, .int p1), (2, .int p2)]) hx hb dX9_close_5 hl (by decide) rfl (fun ls hl => ?_)
  obtain ⟨o_16, hg_16, hf⟩ := bd_some hf
  refine L7 _ p1 I J o_16 ?_ FU (p2 ||| (1 : Int32)) (0 : Int32) _ _ _ hg_16 hP hD hS (lv_sub hl [2, 3, 1, 0] rfl)
  · intro w3_16 H locs ls ho hP hD hS hl
    subst o_16
    refine lv_iload_n hx hb dX9_close_138 rfl (lv_at hl 0 rfl) ?_
    cases hf
    exact xRi hx hb hr hlocks hK hP hD hS (fun _ h => h) dX9_close_139
set_option maxHeartbeats 4000000 in
set_option maxRecDepth 100000 in
theorem c_X9_isSet (l : Launch) (dC : Nat → ClassId) (dI : Nat → Nat → Nat) (ad : Nat → Nat) (cI cJ cT : ClassId) (p1 : Int32) (p2 : Int32) (p3 : Int32) (I : SI) (J : SJ) {r0 : Int32} (hf : f_X9_isSet p1 p2 p3 I = some r0) : CtI l yX9_isSet wsX9_isSet ({ frames := 1, cells := 0, slots := 0, locals := 25 } : Room) (dC, dI) (tys3 cI cJ cT) (wM ad cI cJ) [.ref (ad 13), .int p1, .int p2, .int p3] I J r0 I J := by
  intro sz
  refine Met.ofW (cc := cX9_isSet) (maxL := 4) (ret := (some .boolean)) (by decide) rfl ?_
  intro p e s m args below meth c s₁ B hml hv
  obtain ⟨hargs, hsz, hP, hK, hD0⟩ := hv
  have hx := B.exec
  have hb := B.bytes
  have hr := B.returns
  have hts := atoms_spec (ws := wsX9_isSet) B.pre
  have hown : s.vm.findClass RX9 = some m.cls := findClass_of_methodNamed B.named
  have hlocks := B.notSynchronized
  subst hsz
  have hD := hD0.self (sz := s.heap.size)
  generalize hAe : va_A ((wM ad cI cJ) I J) s.heap.size = A at hD ⊢
  have hA : ∀ q : Nat, s.heap.size ≤ q → A q := fun q h => by rw [← hAe]; exact Or.inr h
  have hS : va_S A s.heap s.heap [] := va_S.rf
  have hl := lv_entry ([.ref (ad 13), .int p1, .int p2, .int p3]) (n := 4) (Nat.le_of_ble_eq_true rfl)
  rw [hargs, lg_entry_eq, ← hargs]
  generalize (lg_sl ([.ref (ad 13), .int p1, .int p2, .int p3]) ++ List.replicate (4 - (lg_sl ([.ref (ad 13), .int p1, .int p2, .int p3])).length) Slot.unset).toArray = ls at hl ⊢
  have hl : lv_has ls 4 [(0, .ref (ad 13)), (1, .int p1), (2, .int p2), (3, .int p3)] := hl
  have hfix : CallFix p m c cX9_isSet 4 s args wsX9_isSet RX9 := ⟨hx, hb, hml, hown, hts⟩
  have in_X9 : ∀ w ∈ u_ws RX9 TX9 15, w ∈ wsX9_isSet := by decide +kernel
  have wd_0 := hts (.fieldLink RX9 7 "FuseBenchModel" "ranks" "[I") (by decide +kernel)
  unfold f_X9_isSet at hf
  refine lv_iload_n hx hb dX9_isSet_0 rfl (lv_at hl 2 rfl) ?_
  refine lv_i2l (v := p2.toInt64) hx hb dX9_isSet_1 rfl ?_
  refine lv_iload_n hx hb dX9_isSet_2 rfl (lv_at hl 3 rfl) ?_
  refine lv_i2l (v := p3.toInt64) hx hb dX9_isSet_3 rfl ?_
  refine lv_iconst (v := (1 : Int32)) hx hb dX9_isSet_4 (by decide) ?_
  refine lv_aload_n hx hb dX9_isSet_5 rfl (lv_at hl 0 rfl) ?_
  refine va_get (D := (dC, dI)) (ci := 8) (v := .ref (ad 0)) (C := RX9) (T := TX9) (N := 15) hx hb hts in_X9 hown hK hP 13 (obM_13 ad cI cJ I J) rfl 0 (by decide) wd_0 (fun _ h9 => h9) rfl dX9_isSet_6 ?_
  refine lv_iload_n hx hb dX9_isSet_9 rfl (lv_at hl 1 rfl) ?_
  obtain ⟨h_1, hf⟩ := gd_some hf
  refine x_iald hx hb hK (aiM_0 ad cI cJ) hP h_1 dX9_isSet_10 ?_
  refine lv_ishl hx hb dX9_isSet_11 ?_
  refine lv_iconst (v := (1 : Int32)) hx hb dX9_isSet_12 (by decide) ?_
  refine lv_isub hx hb dX9_isSet_13 ?_
  refine lv_i2l (v := (((1 : Int32) <<< ((I 0 p1.toNatClampNeg) &&& 31)) - (1 : Int32)).toInt64) hx hb dX9_isSet_14 rfl ?_
  obtain ⟨r_2, hg_2, hf⟩ := bd_some hf
  refine xSi (rest := []) (c_X9_in l dC dI ad cI cJ cT (p2.toInt64) (p3.toInt64) ((((1 : Int32) <<< ((I 0 p1.toNatClampNeg) &&& 31)) - (1 : Int32)).toInt64) I J hg_2) hfix (va_cwS 3 hts gX9_isSet_X9_in rfl rfl rfl (by decide +kernel) ⟨Nat.le_of_ble_eq_true rfl, Nat.le_of_ble_eq_true rfl⟩) hK hP hD hS hA rfl hl.1 rfl (Nat.le_of_ble_eq_true rfl) ⟨Nat.zero_le _, Nat.zero_le _⟩ dX9_isSet_15 (fun H locs hP hD hS => ?_)
  obtain ⟨h_3, hf⟩ := gd_some hf
  cases hf
  exact xRz hx hb hr hlocks (nz h_3) hK hP hD hS (fun _ h => h) dX9_isSet_18
set_option maxHeartbeats 4000000 in
set_option maxRecDepth 100000 in
theorem c_X9_closed (l : Launch) (dC : Nat → ClassId) (dI : Nat → Nat → Nat) (ad : Nat → Nat) (cI cJ cT : ClassId) (p1 : Int32) (p2 : Int32) (I : SI) (J : SJ) {r0 : Int32} {I0 : SI} (hf : f_X9_closed p1 p2 I = some (r0, I0)) : CtI l yX9_closed wsX9_closed ({ frames := 3, cells := 0, slots := 0, locals := 77 } : Room) (dC, dI) (tys3 cI cJ cT) (wM ad cI cJ) [.ref (ad 13), .int p1, .int p2] I J r0 I0 J := by
  intro sz
  refine Met.ofW (cc := cX9_closed) (maxL := 3) (ret := (some .int)) (by decide) rfl ?_
  intro p e s m args below meth c s₁ B hml hv
  obtain ⟨hargs, hsz, hP, hK, hD0⟩ := hv
  have hx := B.exec
  have hb := B.bytes
  have hr := B.returns
  have hts := atoms_spec (ws := wsX9_closed) B.pre
  have hown : s.vm.findClass RX9 = some m.cls := findClass_of_methodNamed B.named
  have hlocks := B.notSynchronized
  subst hsz
  have hD := hD0.self (sz := s.heap.size)
  generalize hAe : va_A ((wM ad cI cJ) I J) s.heap.size = A at hD ⊢
  have hA : ∀ q : Nat, s.heap.size ≤ q → A q := fun q h => by rw [← hAe]; exact Or.inr h
  have hS : va_S A s.heap s.heap [] := va_S.rf
  have hl := lv_entry ([.ref (ad 13), .int p1, .int p2]) (n := 3) (Nat.le_of_ble_eq_true rfl)
  rw [hargs, lg_entry_eq, ← hargs]
  generalize (lg_sl ([.ref (ad 13), .int p1, .int p2]) ++ List.replicate (3 - (lg_sl ([.ref (ad 13), .int p1, .int p2])).length) Slot.unset).toArray = ls at hl ⊢
  have hl : lv_has ls 3 [(0, .ref (ad 13)), (1, .int p1), (2, .int p2)] := hl
  have hfix : CallFix p m c cX9_closed 3 s args wsX9_closed RX9 := ⟨hx, hb, hml, hown, hts⟩
  unfold f_X9_closed at hf
  refine lv_iload_n hx hb dX9_closed_0 rfl (lv_at hl 1 rfl) ?_
  obtain ⟨r_1, hg_1, hf⟩ := bd_some hf
  refine xSi (rest := []) (c_X9_noTable l dC dI ad cI cJ cT p1 I J hg_1) hfix (va_cwS 1 hts gX9_closed_X9_noTable rfl rfl rfl (by decide +kernel) ⟨Nat.le_of_ble_eq_true rfl, Nat.le_of_ble_eq_true rfl⟩) hK hP hD hS hA rfl hl.1 rfl (Nat.le_of_ble_eq_true rfl) ⟨Nat.zero_le _, Nat.zero_le _⟩ dX9_closed_1 (fun H locs hP hD hS => ?_)
  refine lv_if_ne (tgt := 17) hx hb dX9_closed_4 (by decide) (fun c_2 => ?_) (fun c_2 => ?_)
  · have hf := (if_neg c_2).symm.trans hf
    refine lv_bipush (v := (-2 : Int32)) hx hb dX9_closed_17 (by decide) ?_
    cases hf
    exact xRi hx hb hr hlocks hK hP hD hS (fun _ h => h) dX9_closed_19
  · have hf := (if_pos c_2).symm.trans hf
    refine lv_aload_n hx hb dX9_closed_7 rfl (lv_at hl 0 rfl) ?_
    refine lv_iload_n hx hb dX9_closed_8 rfl (lv_at hl 1 rfl) ?_
    refine lv_iload_n hx hb dX9_closed_9 rfl (lv_at hl 2 rfl) ?_
    refine lv_iconst (v := (1 : Int32)) hx hb dX9_closed_10 (by decide) ?_
    obtain ⟨r_3, hg_3, hf⟩ := bd_some hf
    refine xVi (rest := []) (c_X9_isSet l dC dI ad cI cJ cT p1 p2 (1 : Int32) I J hg_3) hfix (cwV 3 hts gX9_closed_X9_isSet rfl rfl rfl (by decide +kernel) ⟨Nat.le_of_ble_eq_true rfl, Nat.le_of_ble_eq_true rfl⟩) hK hP hD hS hA (va_recv hK hP (ci := 8) (q0 := 13) rfl (obM_13 ad cI cJ I J)) rfl hl.1 rfl (Nat.le_of_ble_eq_true rfl) ⟨Nat.zero_le _, Nat.zero_le _⟩ dX9_closed_11 (fun H locs hP hD hS => ?_)
    refine lv_if_ne (tgt := 20) hx hb dX9_closed_14 (by decide) (fun c_4 => ?_) (fun c_4 => ?_)
    · have hf := (if_neg c_4).symm.trans hf
      refine lv_aload_n hx hb dX9_closed_20 rfl (lv_at hl 0 rfl) ?_
      refine lv_iload_n hx hb dX9_closed_21 rfl (lv_at hl 1 rfl) ?_
      obtain ⟨⟨r_5, I_5⟩, hg_5, hf⟩ := bd_some hf
      refine xVi (rest := []) (c_X9_isRight l dC dI ad cI cJ cT p1 I J hg_5) hfix (cwV 1 hts gX9_closed_X9_isRight rfl rfl rfl (by decide +kernel) ⟨Nat.le_of_ble_eq_true rfl, Nat.le_of_ble_eq_true rfl⟩) hK hP hD hS hA (va_recv hK hP (ci := 8) (q0 := 13) rfl (obM_13 ad cI cJ I J)) rfl hl.1 rfl (Nat.le_of_ble_eq_true rfl) ⟨Nat.zero_le _, Nat.zero_le _⟩ dX9_closed_22 (fun H locs hP hD hS => ?_)
      refine lv_if_ne (tgt := 33) hx hb dX9_closed_25 (by decide) (fun c_6 => ?_) (fun c_6 => ?_)
      · have hf := (if_neg c_6).symm.trans hf
        refine lv_aload_n hx hb dX9_closed_33 rfl (lv_at hl 0 rfl) ?_
        refine lv_iload_n hx hb dX9_closed_34 rfl (lv_at hl 1 rfl) ?_
        refine lv_iload_n hx hb dX9_closed_35 rfl (lv_at hl 2 rfl) ?_
        obtain ⟨r_7, hg_7, hf⟩ := bd_some hf
        refine xVi (rest := []) (c_X9_close l dC dI ad cI cJ cT p1 p2 I_5 J hg_7) hfix (cwV 2 hts gX9_closed_X9_close rfl rfl rfl (by decide +kernel) ⟨Nat.le_of_ble_eq_true rfl, Nat.le_of_ble_eq_true rfl⟩) hK hP hD hS hA (va_recv hK hP (ci := 8) (q0 := 13) rfl (obM_13 ad cI cJ I_5 J)) rfl hl.1 rfl (Nat.le_of_ble_eq_true rfl) ⟨Nat.zero_le _, Nat.zero_le _⟩ dX9_closed_36 (fun H locs hP hD hS => ?_)
        refine lv_iload_n hx hb dX9_closed_39 rfl (lv_at hl 2 rfl) ?_
        refine lv_icmp_ne (tgt := 47) hx hb dX9_closed_40 (by decide) (fun c_8 => ?_) (fun c_8 => ?_)
        · have hf := (if_neg c_8).symm.trans hf
          refine lv_iconst (v := (0 : Int32)) hx hb dX9_closed_47 (by decide) ?_
          cases hf
          exact xRi hx hb hr hlocks hK hP hD hS (fun _ h => h) dX9_closed_48
        · have hf := (if_pos c_8).symm.trans hf
          refine lv_iconst (v := (1 : Int32)) hx hb dX9_closed_43 (by decide) ?_
          refine lv_goto (tgt := 48) hx hb dX9_closed_44 (by decide) ?_
          cases hf
          exact xRi hx hb hr hlocks hK hP hD hS (fun _ h => h) dX9_closed_48
      · have hf := (if_pos c_6).symm.trans hf
        refine lv_bipush (v := (-3 : Int32)) hx hb dX9_closed_28 (by decide) ?_
        refine lv_goto (tgt := 48) hx hb dX9_closed_30 (by decide) ?_
        cases hf
        exact xRi hx hb hr hlocks hK hP hD hS (fun _ h => h) dX9_closed_48
    · have hf := (if_pos c_4).symm.trans hf
      refine lv_bipush (v := (-2 : Int32)) hx hb dX9_closed_17 (by decide) ?_
      cases hf
      exact xRi hx hb hr hlocks hK hP hD hS (fun _ h => h) dX9_closed_19
set_option maxHeartbeats 4000000 in
set_option maxRecDepth 100000 in
theorem c_X9_least (l : Launch) (dC : Nat → ClassId) (dI : Nat → Nat → Nat) (ad : Nat → Nat) (cI cJ cT : ClassId) (p1 : Int32) (p2 : Int32) (I : SI) (J : SJ) {r0 : Int32} {I0 : SI} (hf : f_X9_least p1 p2 I = some (r0, I0)) : CtI l yX9_least wsX9_least ({ frames := 3, cells := 0, slots := 0, locals := 77 } : Room) (dC, dI) (tys3 cI cJ cT) (wM ad cI cJ) [.ref (ad 13), .int p1, .int p2] I J r0 I0 J := by
  intro sz
  refine Met.ofW (cc := cX9_least) (maxL := 3) (ret := (some .int)) (by decide) rfl ?_
  intro p e s m args below meth c s₁ B hml hv
  obtain ⟨hargs, hsz, hP, hK, hD0⟩ := hv
  have hx := B.exec
  have hb := B.bytes
  have hr := B.returns
  have hts := atoms_spec (ws := wsX9_least) B.pre
  have hown : s.vm.findClass RX9 = some m.cls := findClass_of_methodNamed B.named
  have hlocks := B.notSynchronized
  subst hsz
  have hD := hD0.self (sz := s.heap.size)
  generalize hAe : va_A ((wM ad cI cJ) I J) s.heap.size = A at hD ⊢
  have hA : ∀ q : Nat, s.heap.size ≤ q → A q := fun q h => by rw [← hAe]; exact Or.inr h
  have hS : va_S A s.heap s.heap [] := va_S.rf
  have hl := lv_entry ([.ref (ad 13), .int p1, .int p2]) (n := 3) (Nat.le_of_ble_eq_true rfl)
  rw [hargs, lg_entry_eq, ← hargs]
  generalize (lg_sl ([.ref (ad 13), .int p1, .int p2]) ++ List.replicate (3 - (lg_sl ([.ref (ad 13), .int p1, .int p2])).length) Slot.unset).toArray = ls at hl ⊢
  have hl : lv_has ls 3 [(0, .ref (ad 13)), (1, .int p1), (2, .int p2)] := hl
  have hfix : CallFix p m c cX9_least 3 s args wsX9_least RX9 := ⟨hx, hb, hml, hown, hts⟩
  unfold f_X9_least at hf
  refine lv_iload_n hx hb dX9_least_0 rfl (lv_at hl 1 rfl) ?_
  obtain ⟨r_1, hg_1, hf⟩ := bd_some hf
  refine xSi (rest := []) (c_X9_noTable l dC dI ad cI cJ cT p1 I J hg_1) hfix (va_cwS 1 hts gX9_least_X9_noTable rfl rfl rfl (by decide +kernel) ⟨Nat.le_of_ble_eq_true rfl, Nat.le_of_ble_eq_true rfl⟩) hK hP hD hS hA rfl hl.1 rfl (Nat.le_of_ble_eq_true rfl) ⟨Nat.zero_le _, Nat.zero_le _⟩ dX9_least_1 (fun H locs hP hD hS => ?_)
  refine lv_if_ne (tgt := 17) hx hb dX9_least_4 (by decide) (fun c_2 => ?_) (fun c_2 => ?_)
  · have hf := (if_neg c_2).symm.trans hf
    refine lv_bipush (v := (-2 : Int32)) hx hb dX9_least_17 (by decide) ?_
    cases hf
    exact xRi hx hb hr hlocks hK hP hD hS (fun _ h => h) dX9_least_19
  · have hf := (if_pos c_2).symm.trans hf
    refine lv_aload_n hx hb dX9_least_7 rfl (lv_at hl 0 rfl) ?_
    refine lv_iload_n hx hb dX9_least_8 rfl (lv_at hl 1 rfl) ?_
    refine lv_iload_n hx hb dX9_least_9 rfl (lv_at hl 2 rfl) ?_
    refine lv_iconst (v := (0 : Int32)) hx hb dX9_least_10 (by decide) ?_
    obtain ⟨r_3, hg_3, hf⟩ := bd_some hf
    refine xVi (rest := []) (c_X9_isSet l dC dI ad cI cJ cT p1 p2 (0 : Int32) I J hg_3) hfix (cwV 3 hts gX9_least_X9_isSet rfl rfl rfl (by decide +kernel) ⟨Nat.le_of_ble_eq_true rfl, Nat.le_of_ble_eq_true rfl⟩) hK hP hD hS hA (va_recv hK hP (ci := 8) (q0 := 13) rfl (obM_13 ad cI cJ I J)) rfl hl.1 rfl (Nat.le_of_ble_eq_true rfl) ⟨Nat.zero_le _, Nat.zero_le _⟩ dX9_least_11 (fun H locs hP hD hS => ?_)
    refine lv_if_ne (tgt := 20) hx hb dX9_least_14 (by decide) (fun c_4 => ?_) (fun c_4 => ?_)
    · have hf := (if_neg c_4).symm.trans hf
      refine lv_aload_n hx hb dX9_least_20 rfl (lv_at hl 0 rfl) ?_
      refine lv_iload_n hx hb dX9_least_21 rfl (lv_at hl 1 rfl) ?_
      obtain ⟨⟨r_5, I_5⟩, hg_5, hf⟩ := bd_some hf
      refine xVi (rest := []) (c_X9_isRight l dC dI ad cI cJ cT p1 I J hg_5) hfix (cwV 1 hts gX9_least_X9_isRight rfl rfl rfl (by decide +kernel) ⟨Nat.le_of_ble_eq_true rfl, Nat.le_of_ble_eq_true rfl⟩) hK hP hD hS hA (va_recv hK hP (ci := 8) (q0 := 13) rfl (obM_13 ad cI cJ I J)) rfl hl.1 rfl (Nat.le_of_ble_eq_true rfl) ⟨Nat.zero_le _, Nat.zero_le _⟩ dX9_least_22 (fun H locs hP hD hS => ?_)
      refine lv_if_eq (tgt := 37) hx hb dX9_least_25 (by decide) (fun c_6 => ?_) (fun c_6 => ?_)
      · have hf := (if_pos c_6).symm.trans hf
        refine lv_bipush (v := (-3 : Int32)) hx hb dX9_least_37 (by decide) ?_
        cases hf
        exact xRi hx hb hr hlocks hK hP hD hS (fun _ h => h) dX9_least_39
      · have hf := (if_neg c_6).symm.trans hf
        refine lv_aload_n hx hb dX9_least_28 rfl (lv_at hl 0 rfl) ?_
        refine lv_iload_n hx hb dX9_least_29 rfl (lv_at hl 1 rfl) ?_
        refine lv_iload_n hx hb dX9_least_30 rfl (lv_at hl 2 rfl) ?_
        obtain ⟨r_7, hg_7, hf⟩ := bd_some hf
        refine xVi (rest := []) (c_X9_close l dC dI ad cI cJ cT p1 p2 I_5 J hg_7) hfix (cwV 2 hts gX9_least_X9_close rfl rfl rfl (by decide +kernel) ⟨Nat.le_of_ble_eq_true rfl, Nat.le_of_ble_eq_true rfl⟩) hK hP hD hS hA (va_recv hK hP (ci := 8) (q0 := 13) rfl (obM_13 ad cI cJ I_5 J)) rfl hl.1 rfl (Nat.le_of_ble_eq_true rfl) ⟨Nat.zero_le _, Nat.zero_le _⟩ dX9_least_31 (fun H locs hP hD hS => ?_)
        refine lv_goto (tgt := 39) hx hb dX9_least_34 (by decide) ?_
        cases hf
        exact xRi hx hb hr hlocks hK hP hD hS (fun _ h => h) dX9_least_39
    · have hf := (if_pos c_4).symm.trans hf
      refine lv_bipush (v := (-2 : Int32)) hx hb dX9_least_17 (by decide) ?_
      cases hf
      exact xRi hx hb hr hlocks hK hP hD hS (fun _ h => h) dX9_least_19
set_option maxHeartbeats 4000000 in
set_option maxRecDepth 100000 in
theorem c_X9_coreOf (l : Launch) (dC : Nat → ClassId) (dI : Nat → Nat → Nat) (ad : Nat → Nat) (cI cJ cT : ClassId) (p1 : Int32) (I : SI) (J : SJ) {r0 : Int32} (hf : f_X9_coreOf p1 I = some r0) : CtI l yX9_coreOf wsX9_coreOf ({ frames := 2, cells := 0, slots := 0, locals := 51 } : Room) (dC, dI) (tys3 cI cJ cT) (wM ad cI cJ) [.ref (ad 13), .int p1] I J r0 I J := by
  intro sz
  refine Met.ofW (cc := cX9_coreOf) (maxL := 5) (ret := (some .int)) (by decide) rfl ?_
  intro p e s m args below meth c s₁ B hml hv
  obtain ⟨hargs, hsz, hP, hK, hD0⟩ := hv
  have hx := B.exec
  have hb := B.bytes
  have hr := B.returns
  have hts := atoms_spec (ws := wsX9_coreOf) B.pre
  have hown : s.vm.findClass RX9 = some m.cls := findClass_of_methodNamed B.named
  have hlocks := B.notSynchronized
  subst hsz
  have hD := hD0.self (sz := s.heap.size)
  generalize hAe : va_A ((wM ad cI cJ) I J) s.heap.size = A at hD ⊢
  have hA : ∀ q : Nat, s.heap.size ≤ q → A q := fun q h => by rw [← hAe]; exact Or.inr h
  have hS : va_S A s.heap s.heap [] := va_S.rf
  have hl := lv_entry ([.ref (ad 13), .int p1]) (n := 5) (Nat.le_of_ble_eq_true rfl)
  rw [hargs, lg_entry_eq, ← hargs]
  generalize (lg_sl ([.ref (ad 13), .int p1]) ++ List.replicate (5 - (lg_sl ([.ref (ad 13), .int p1])).length) Slot.unset).toArray = ls at hl ⊢
  have hl : lv_has ls 5 [(0, .ref (ad 13)), (1, .int p1)] := hl
  have hfix : CallFix p m c cX9_coreOf 5 s args wsX9_coreOf RX9 := ⟨hx, hb, hml, hown, hts⟩
  have in_X9 : ∀ w ∈ u_ws RX9 TX9 15, w ∈ wsX9_coreOf := by decide +kernel
  have wd_0 := hts (.fieldLink RX9 7 "FuseBenchModel" "ranks" "[I") (by decide +kernel)
  have wd_1 := hts (.fieldLink RX9 19 "FuseBenchModel" "partners" "[I") (by decide +kernel)
  have L17 : ∀ (Q : State → Prop) (v1 : Int32) (v3 : Int32) (I : SI) (J : SJ) (o : Int32), (∀ (w2 : Int32) (H : Heap) (locs : List Loc) (ls : Array Slot), o = w2 → va_P (dC, dI) vwCl ((wM ad cI cJ) I J) H → va_D A ((wM ad cI cJ) I J) → va_S A s.heap H locs → lv_has ls 5 [(0, .ref (ad 13)), (1, .int v1), (2, .int w2), (3, .int v3)] → W p l e ({ frames := 2, cells := 0, slots := 0, locals := 51 } : Room) s m args below meth c H locs 0 0 Q (F0 m 62 ls [])) → ∀ (n : Nat) (v2 : Int32) (v4 : Int32) (H : Heap) (locs : List Loc) (ls : Array Slot), lp_X9_coreOf_17 v1 v3 I n v2 v4 = some o → va_P (dC, dI) vwCl ((wM ad cI cJ) I J) H → va_D A ((wM ad cI cJ) I J) → va_S A s.heap H locs → lv_has ls 5 [(0, .ref (ad 13)), (1, .int v1), (2, .int v2), (3, .int v3), (4, .int v4)] → W p l e ({ frames := 2, cells := 0, slots := 0, locals := 51 } : Room) s m args below meth c H locs 0 0 Q (F0 m 17 ls []) := by
    intro Q v1 v3 I J o K0 n
    clear hP hD hS hl
    induction n with
    | zero =>
      intro v2 v4 H locs ls hf
      rw [lp_X9_coreOf_17.eq_1] at hf
      cases hf
    | succ n ih =>
      intro v2 v4 H locs ls hf hP hD hS hl
      rw [lp_X9_coreOf_17.eq_2] at hf
      refine lv_iload hx hb dX9_coreOf_17 (lv_at hl 4 rfl) ?_
      refine lv_aload_n hx hb dX9_coreOf_19 rfl (lv_at hl 0 rfl) ?_
      refine va_get (D := (dC, dI)) (ci := 8) (v := .ref (ad 0)) (C := RX9) (T := TX9) (N := 15) hx hb hts in_X9 hown hK hP 13 (obM_13 ad cI cJ I J) rfl 0 (by decide) wd_0 (fun _ h9 => h9) rfl dX9_coreOf_20 ?_
      refine lv_iload_n hx hb dX9_coreOf_23 rfl (lv_at hl 1 rfl) ?_
      obtain ⟨h_1, hf⟩ := gd_some hf
      refine x_iald hx hb hK (aiM_0 ad cI cJ) hP h_1 dX9_coreOf_24 ?_
      refine lv_icmp_ge (tgt := 62) hx hb dX9_coreOf_25 (by decide) (fun c_2 => ?_) (fun c_2 => ?_)
      · have hf := (if_pos c_2).symm.trans hf
        exact K0 _ _ _ _ (Option.some.inj hf).symm hP hD hS (lv_sub hl [0, 1, 2, 3] rfl)
      · have hf := (if_neg c_2).symm.trans hf
        refine lv_iload_n hx hb dX9_coreOf_28 rfl (lv_at hl 2 rfl) ?_
        refine lv_aload_n hx hb dX9_coreOf_29 rfl (lv_at hl 0 rfl) ?_
        refine lv_iload_n hx hb dX9_coreOf_30 rfl (lv_at hl 1 rfl) ?_
        refine lv_iload_n hx hb dX9_coreOf_31 rfl (lv_at hl 3 rfl) ?_
        refine lv_aload_n hx hb dX9_coreOf_32 rfl (lv_at hl 0 rfl) ?_
        refine va_get (D := (dC, dI)) (ci := 8) (v := .ref (ad 3)) (C := RX9) (T := TX9) (N := 15) hx hb hts in_X9 hown hK hP 13 (obM_13 ad cI cJ I J) rfl 3 (by decide) wd_1 (fun _ h9 => h9) rfl dX9_coreOf_33 ?_
        refine lv_iload_n hx hb dX9_coreOf_36 rfl (lv_at hl 3 rfl) ?_
        obtain ⟨h_3, hf⟩ := gd_some hf
        refine x_iald hx hb hK (aiM_3 ad cI cJ) hP h_3 dX9_coreOf_37 ?_
        refine lv_iload hx hb dX9_coreOf_38 (lv_at hl 4 rfl) ?_
        obtain ⟨r_4, hg_4, hf⟩ := bd_some hf
        refine xVi (rest := [.int v2]) (c_X9_n l dC dI ad cI cJ cT v1 v3 (I 3 v3.toNatClampNeg) v4 I J hg_4) hfix (cwV 4 hts gX9_coreOf_X9_n rfl rfl rfl (by decide +kernel) ⟨Nat.le_of_ble_eq_true rfl, Nat.le_of_ble_eq_true rfl⟩) hK hP hD hS hA (va_recv hK hP (ci := 8) (q0 := 13) rfl (obM_13 ad cI cJ I J)) rfl hl.1 rfl (Nat.le_of_ble_eq_true rfl) ⟨Nat.zero_le _, Nat.zero_le _⟩ dX9_coreOf_40 (fun H locs hP hD hS => ?_)
        refine lv_if_le (tgt := 53) hx hb dX9_coreOf_43 (by decide) (fun c_5 => ?_) (fun c_5 => ?_)
        · have hf := (if_pos c_5).symm.trans hf
          refine lv_iconst (v := (0 : Int32)) hx hb dX9_coreOf_53 (by decide) ?_
          refine lv_ior hx hb dX9_coreOf_54 ?_
          refine lv_istore_n (lv' := [(2, .int (v2 ||| (0 : Int32))), (0, .ref (ad 13)), (1, .int v1), (3, .int v3), (4, .int v4)]) hx hb dX9_coreOf_55 rfl hl (by decide) rfl (fun ls hl => ?_)
          refine lv_iinc (v := (v4 + (1 : Int32))) (lv' := [(4, .int (v4 + (1 : Int32))), (2, .int (v2 ||| (0 : Int32))), (0, .ref (ad 13)), (1, .int v1), (3, .int v3)]) hx hb dX9_coreOf_56 hl (k := 4) rfl (by first | rfl | decide) (by decide) rfl (fun ls hl => ?_)
          refine lv_goto (tgt := 17) hx hb dX9_coreOf_59 (by decide) ?_
          exact ih _ _ _ _ _ hf hP hD hS (lv_sub hl [2, 3, 1, 4, 0] rfl)
        · have hf := (if_neg c_5).symm.trans hf
          refine lv_iconst (v := (1 : Int32)) hx hb dX9_coreOf_46 (by decide) ?_
          refine lv_iload hx hb dX9_coreOf_47 (lv_at hl 4 rfl) ?_
          refine lv_ishl hx hb dX9_coreOf_49 ?_
          refine lv_goto (tgt := 54) hx hb dX9_coreOf_50 (by decide) ?_
          refine lv_ior hx hb dX9_coreOf_54 ?_
          refine lv_istore_n (lv' := [(2, .int (v2 ||| ((1 : Int32) <<< (v4 &&& 31)))), (0, .ref (ad 13)), (1, .int v1), (3, .int v3), (4, .int v4)]) hx hb dX9_coreOf_55 rfl hl (by decide) rfl (fun ls hl => ?_)
          refine lv_iinc (v := (v4 + (1 : Int32))) (lv' := [(4, .int (v4 + (1 : Int32))), (2, .int (v2 ||| ((1 : Int32) <<< (v4 &&& 31)))), (0, .ref (ad 13)), (1, .int v1), (3, .int v3)]) hx hb dX9_coreOf_56 hl (k := 4) rfl (by first | rfl | decide) (by decide) rfl (fun ls hl => ?_)
          refine lv_goto (tgt := 17) hx hb dX9_coreOf_59 (by decide) ?_
          exact ih _ _ _ _ _ hf hP hD hS (lv_sub hl [2, 3, 1, 4, 0] rfl)
  have L4 : ∀ (Q : State → Prop) (v1 : Int32) (I : SI) (J : SJ) (o : Int32), (∀ (w2 : Int32) (H : Heap) (locs : List Loc) (ls : Array Slot), o = w2 → va_P (dC, dI) vwCl ((wM ad cI cJ) I J) H → va_D A ((wM ad cI cJ) I J) → va_S A s.heap H locs → lv_has ls 5 [(0, .ref (ad 13)), (1, .int v1), (2, .int w2)] → W p l e ({ frames := 2, cells := 0, slots := 0, locals := 51 } : Room) s m args below meth c H locs 0 0 Q (F0 m 68 ls [])) → ∀ (n : Nat) (v2 : Int32) (v3 : Int32) (H : Heap) (locs : List Loc) (ls : Array Slot), lp_X9_coreOf_4 v1 I n v2 v3 = some o → va_P (dC, dI) vwCl ((wM ad cI cJ) I J) H → va_D A ((wM ad cI cJ) I J) → va_S A s.heap H locs → lv_has ls 5 [(0, .ref (ad 13)), (1, .int v1), (2, .int v2), (3, .int v3)] → W p l e ({ frames := 2, cells := 0, slots := 0, locals := 51 } : Room) s m args below meth c H locs 0 0 Q (F0 m 4 ls []) := by
    intro Q v1 I J o K0 n
    clear hP hD hS hl
    induction n with
    | zero =>
      intro v2 v3 H locs ls hf
      rw [lp_X9_coreOf_4.eq_1] at hf
      cases hf
    | succ n ih =>
      intro v2 v3 H locs ls hf hP hD hS hl
      rw [lp_X9_coreOf_4.eq_2] at hf
      refine lv_iload_n hx hb dX9_coreOf_4 rfl (lv_at hl 3 rfl) ?_
      refine lv_aload_n hx hb dX9_coreOf_5 rfl (lv_at hl 0 rfl) ?_
      refine va_get (D := (dC, dI)) (ci := 8) (v := .ref (ad 0)) (C := RX9) (T := TX9) (N := 15) hx hb hts in_X9 hown hK hP 13 (obM_13 ad cI cJ I J) rfl 0 (by decide) wd_0 (fun _ h9 => h9) rfl dX9_coreOf_6 ?_
      refine lv_iload_n hx hb dX9_coreOf_9 rfl (lv_at hl 1 rfl) ?_
      obtain ⟨h_6, hf⟩ := gd_some hf
      refine x_iald hx hb hK (aiM_0 ad cI cJ) hP h_6 dX9_coreOf_10 ?_
      refine lv_icmp_ge (tgt := 68) hx hb dX9_coreOf_11 (by decide) (fun c_7 => ?_) (fun c_7 => ?_)
      · have hf := (if_pos c_7).symm.trans hf
        exact K0 _ _ _ _ (Option.some.inj hf).symm hP hD hS (lv_sub hl [0, 1, 2] rfl)
      · have hf := (if_neg c_7).symm.trans hf
        refine lv_iconst (v := (0 : Int32)) hx hb dX9_coreOf_14 (by decide) ?_
        refine lv_istore (lv' := [(4, .int (0 : Int32)), (0, .ref (ad 13)), (1, .int v1), (2, .int v2), (3, .int v3)]) hx hb dX9_coreOf_15 hl (by decide) rfl (fun ls hl => ?_)
        obtain ⟨o_8, hg_8, hf⟩ := bd_some hf
        refine L17 _ v1 v3 I J o_8 ?_ FU v2 (0 : Int32) _ _ _ hg_8 hP hD hS (lv_sub hl [1, 2, 3, 4, 0] rfl)
        · intro w2_8 H locs ls ho hP hD hS hl
          subst o_8
          refine lv_iinc (v := (v3 + (1 : Int32))) (lv' := [(3, .int (v3 + (1 : Int32))), (0, .ref (ad 13)), (1, .int v1), (2, .int w2_8)]) hx hb dX9_coreOf_62 hl (k := 3) rfl (by first | rfl | decide) (by decide) rfl (fun ls hl => ?_)
          refine lv_goto (tgt := 4) hx hb dX9_coreOf_65 (by decide) ?_
          exact ih _ _ _ _ _ hf hP hD hS (lv_sub hl [1, 2, 3, 0] rfl)
  unfold f_X9_coreOf at hf
  refine lv_iconst (v := (0 : Int32)) hx hb dX9_coreOf_0 (by decide) ?_
  refine lv_istore_n (lv' := [(2, .int (0 : Int32)), (0, .ref (ad 13)), (1, .int p1)]) hx hb dX9_coreOf_1 rfl hl (by decide) rfl (fun ls hl => ?_)
  refine lv_iconst (v := (0 : Int32)) hx hb dX9_coreOf_2 (by decide) ?_
  refine lv_istore_n (lv' := [(3, .int (0 : Int32)), (2, .int (0 : Int32)), (0, .ref (ad 13)), (1, .int p1)]) hx hb dX9_coreOf_3 rfl hl (by decide) rfl (fun ls hl => ?_)
  obtain ⟨o_9, hg_9, hf⟩ := bd_some hf
  refine L4 _ p1 I J o_9 ?_ FU (0 : Int32) (0 : Int32) _ _ _ hg_9 hP hD hS (lv_sub hl [2, 3, 1, 0] rfl)
  · intro w2_9 H locs ls ho hP hD hS hl
    subst o_9
    refine lv_aload_n hx hb dX9_coreOf_68 rfl (lv_at hl 0 rfl) ?_
    refine lv_iload_n hx hb dX9_coreOf_69 rfl (lv_at hl 1 rfl) ?_
    refine lv_iload_n hx hb dX9_coreOf_70 rfl (lv_at hl 2 rfl) ?_
    obtain ⟨r_10, hg_10, hf⟩ := bd_some hf
    refine xVi (rest := []) (c_X9_close l dC dI ad cI cJ cT p1 w2_9 I J hg_10) hfix (cwV 2 hts gX9_coreOf_X9_close rfl rfl rfl (by decide +kernel) ⟨Nat.le_of_ble_eq_true rfl, Nat.le_of_ble_eq_true rfl⟩) hK hP hD hS hA (va_recv hK hP (ci := 8) (q0 := 13) rfl (obM_13 ad cI cJ I J)) rfl hl.1 rfl (Nat.le_of_ble_eq_true rfl) ⟨Nat.zero_le _, Nat.zero_le _⟩ dX9_coreOf_71 (fun H locs hP hD hS => ?_)
    cases hf
    exact xRi hx hb hr hlocks hK hP hD hS (fun _ h => h) dX9_coreOf_74
set_option maxHeartbeats 4000000 in
set_option maxRecDepth 100000 in
theorem c_X9_core (l : Launch) (dC : Nat → ClassId) (dI : Nat → Nat → Nat) (ad : Nat → Nat) (cI cJ cT : ClassId) (p1 : Int32) (I : SI) (J : SJ) {r0 : Int32} {I0 : SI} (hf : f_X9_core p1 I = some (r0, I0)) : CtI l yX9_core wsX9_core ({ frames := 3, cells := 0, slots := 0, locals := 77 } : Room) (dC, dI) (tys3 cI cJ cT) (wM ad cI cJ) [.ref (ad 13), .int p1] I J r0 I0 J := by
  intro sz
  refine Met.ofW (cc := cX9_core) (maxL := 2) (ret := (some .int)) (by decide) rfl ?_
  intro p e s m args below meth c s₁ B hml hv
  obtain ⟨hargs, hsz, hP, hK, hD0⟩ := hv
  have hx := B.exec
  have hb := B.bytes
  have hr := B.returns
  have hts := atoms_spec (ws := wsX9_core) B.pre
  have hown : s.vm.findClass RX9 = some m.cls := findClass_of_methodNamed B.named
  have hlocks := B.notSynchronized
  subst hsz
  have hD := hD0.self (sz := s.heap.size)
  generalize hAe : va_A ((wM ad cI cJ) I J) s.heap.size = A at hD ⊢
  have hA : ∀ q : Nat, s.heap.size ≤ q → A q := fun q h => by rw [← hAe]; exact Or.inr h
  have hS : va_S A s.heap s.heap [] := va_S.rf
  have hl := lv_entry ([.ref (ad 13), .int p1]) (n := 2) (Nat.le_of_ble_eq_true rfl)
  rw [hargs, lg_entry_eq, ← hargs]
  generalize (lg_sl ([.ref (ad 13), .int p1]) ++ List.replicate (2 - (lg_sl ([.ref (ad 13), .int p1])).length) Slot.unset).toArray = ls at hl ⊢
  have hl : lv_has ls 2 [(0, .ref (ad 13)), (1, .int p1)] := hl
  have hfix : CallFix p m c cX9_core 2 s args wsX9_core RX9 := ⟨hx, hb, hml, hown, hts⟩
  unfold f_X9_core at hf
  refine lv_iload_n hx hb dX9_core_0 rfl (lv_at hl 1 rfl) ?_
  obtain ⟨r_1, hg_1, hf⟩ := bd_some hf
  refine xSi (rest := []) (c_X9_noTable l dC dI ad cI cJ cT p1 I J hg_1) hfix (va_cwS 1 hts gX9_core_X9_noTable rfl rfl rfl (by decide +kernel) ⟨Nat.le_of_ble_eq_true rfl, Nat.le_of_ble_eq_true rfl⟩) hK hP hD hS hA rfl hl.1 rfl (Nat.le_of_ble_eq_true rfl) ⟨Nat.zero_le _, Nat.zero_le _⟩ dX9_core_1 (fun H locs hP hD hS => ?_)
  refine lv_if_eq (tgt := 10) hx hb dX9_core_4 (by decide) (fun c_2 => ?_) (fun c_2 => ?_)
  · have hf := (if_pos c_2).symm.trans hf
    refine lv_aload_n hx hb dX9_core_10 rfl (lv_at hl 0 rfl) ?_
    refine lv_iload_n hx hb dX9_core_11 rfl (lv_at hl 1 rfl) ?_
    obtain ⟨⟨r_3, I_3⟩, hg_3, hf⟩ := bd_some hf
    refine xVi (rest := []) (c_X9_isRight l dC dI ad cI cJ cT p1 I J hg_3) hfix (cwV 1 hts gX9_core_X9_isRight rfl rfl rfl (by decide +kernel) ⟨Nat.le_of_ble_eq_true rfl, Nat.le_of_ble_eq_true rfl⟩) hK hP hD hS hA (va_recv hK hP (ci := 8) (q0 := 13) rfl (obM_13 ad cI cJ I J)) rfl hl.1 rfl (Nat.le_of_ble_eq_true rfl) ⟨Nat.zero_le _, Nat.zero_le _⟩ dX9_core_12 (fun H locs hP hD hS => ?_)
    refine lv_if_eq (tgt := 26) hx hb dX9_core_15 (by decide) (fun c_4 => ?_) (fun c_4 => ?_)
    · have hf := (if_pos c_4).symm.trans hf
      refine lv_bipush (v := (-3 : Int32)) hx hb dX9_core_26 (by decide) ?_
      cases hf
      exact xRi hx hb hr hlocks hK hP hD hS (fun _ h => h) dX9_core_28
    · have hf := (if_neg c_4).symm.trans hf
      refine lv_aload_n hx hb dX9_core_18 rfl (lv_at hl 0 rfl) ?_
      refine lv_iload_n hx hb dX9_core_19 rfl (lv_at hl 1 rfl) ?_
      obtain ⟨r_5, hg_5, hf⟩ := bd_some hf
      refine xVi (rest := []) (c_X9_coreOf l dC dI ad cI cJ cT p1 I_3 J hg_5) hfix (cwV 1 hts gX9_core_X9_coreOf rfl rfl rfl (by decide +kernel) ⟨Nat.le_of_ble_eq_true rfl, Nat.le_of_ble_eq_true rfl⟩) hK hP hD hS hA (va_recv hK hP (ci := 8) (q0 := 13) rfl (obM_13 ad cI cJ I_3 J)) rfl hl.1 rfl (Nat.le_of_ble_eq_true rfl) ⟨Nat.zero_le _, Nat.zero_le _⟩ dX9_core_20 (fun H locs hP hD hS => ?_)
      refine lv_goto (tgt := 28) hx hb dX9_core_23 (by decide) ?_
      cases hf
      exact xRi hx hb hr hlocks hK hP hD hS (fun _ h => h) dX9_core_28
  · have hf := (if_neg c_2).symm.trans hf
    refine lv_bipush (v := (-2 : Int32)) hx hb dX9_core_7 (by decide) ?_
    cases hf
    exact xRi hx hb hr hlocks hK hP hD hS (fun _ h => h) dX9_core_9
set_option maxHeartbeats 4000000 in
set_option maxRecDepth 100000 in
theorem c_X9_grade (l : Launch) (dC : Nat → ClassId) (dI : Nat → Nat → Nat) (ad : Nat → Nat) (cI cJ cT : ClassId) (p1 : Int32) (p2 : Int32) (I : SI) (J : SJ) {r0 : Int32} {I0 : SI} (hf : f_X9_grade p1 p2 I = some (r0, I0)) : CtI l yX9_grade wsX9_grade ({ frames := 3, cells := 0, slots := 0, locals := 77 } : Room) (dC, dI) (tys3 cI cJ cT) (wM ad cI cJ) [.ref (ad 13), .int p1, .int p2] I J r0 I0 J := by
  intro sz
  refine Met.ofW (cc := cX9_grade) (maxL := 8) (ret := (some .int)) (by decide) rfl ?_
  intro p e s m args below meth c s₁ B hml hv
  obtain ⟨hargs, hsz, hP, hK, hD0⟩ := hv
  have hx := B.exec
  have hb := B.bytes
  have hr := B.returns
  have hts := atoms_spec (ws := wsX9_grade) B.pre
  have hown : s.vm.findClass RX9 = some m.cls := findClass_of_methodNamed B.named
  have hlocks := B.notSynchronized
  subst hsz
  have hD := hD0.self (sz := s.heap.size)
  generalize hAe : va_A ((wM ad cI cJ) I J) s.heap.size = A at hD ⊢
  have hA : ∀ q : Nat, s.heap.size ≤ q → A q := fun q h => by rw [← hAe]; exact Or.inr h
  have hS : va_S A s.heap s.heap [] := va_S.rf
  have hl := lv_entry ([.ref (ad 13), .int p1, .int p2]) (n := 8) (Nat.le_of_ble_eq_true rfl)
  rw [hargs, lg_entry_eq, ← hargs]
  generalize (lg_sl ([.ref (ad 13), .int p1, .int p2]) ++ List.replicate (8 - (lg_sl ([.ref (ad 13), .int p1, .int p2])).length) Slot.unset).toArray = ls at hl ⊢
  have hl : lv_has ls 8 [(0, .ref (ad 13)), (1, .int p1), (2, .int p2)] := hl
  have hfix : CallFix p m c cX9_grade 8 s args wsX9_grade RX9 := ⟨hx, hb, hml, hown, hts⟩
  have in_X9 : ∀ w ∈ u_ws RX9 TX9 15, w ∈ wsX9_grade := by decide +kernel
  have wd_0 := hts (.fieldLink RX9 7 "FuseBenchModel" "ranks" "[I") (by decide +kernel)
  have L60 : ∀ (Q : State → Prop) (v1 : Int32) (v2 : Int32) (v3 : Int32) (v4 : Int32) (v5 : Int32) (I : SI) (J : SJ) (o : Int32), (∀ (w6 : Int32) (H : Heap) (locs : List Loc) (ls : Array Slot), o = w6 → va_P (dC, dI) vwCl ((wM ad cI cJ) I J) H → va_D A ((wM ad cI cJ) I J) → va_S A s.heap H locs → lv_has ls 8 [(0, .ref (ad 13)), (1, .int v1), (2, .int v2), (3, .int v3), (4, .int v4), (5, .int v5), (6, .int w6)] → W p l e ({ frames := 3, cells := 0, slots := 0, locals := 77 } : Room) s m args below meth c H locs 0 0 Q (F0 m 112 ls [])) → ∀ (n : Nat) (v6 : Int32) (v7 : Int32) (H : Heap) (locs : List Loc) (ls : Array Slot), lp_X9_grade_60 v1 v2 v3 v4 v5 I n v6 v7 = some o → va_P (dC, dI) vwCl ((wM ad cI cJ) I J) H → va_D A ((wM ad cI cJ) I J) → va_S A s.heap H locs → lv_has ls 8 [(0, .ref (ad 13)), (1, .int v1), (2, .int v2), (3, .int v3), (4, .int v4), (5, .int v5), (6, .int v6), (7, .int v7)] → W p l e ({ frames := 3, cells := 0, slots := 0, locals := 77 } : Room) s m args below meth c H locs 0 0 Q (F0 m 60 ls []) := by
    intro Q v1 v2 v3 v4 v5 I J o K0 n
    clear hP hD hS hl
    induction n with
    | zero =>
      intro v6 v7 H locs ls hf
      rw [lp_X9_grade_60.eq_1] at hf
      cases hf
    | succ n ih =>
      intro v6 v7 H locs ls hf hP hD hS hl
      rw [lp_X9_grade_60.eq_2] at hf
      refine lv_iload hx hb dX9_grade_60 (lv_at hl 7 rfl) ?_
      refine lv_aload_n hx hb dX9_grade_62 rfl (lv_at hl 0 rfl) ?_
      refine va_get (D := (dC, dI)) (ci := 8) (v := .ref (ad 0)) (C := RX9) (T := TX9) (N := 15) hx hb hts in_X9 hown hK hP 13 (obM_13 ad cI cJ I J) rfl 0 (by decide) wd_0 (fun _ h9 => h9) rfl dX9_grade_63 ?_
      refine lv_iload_n hx hb dX9_grade_66 rfl (lv_at hl 1 rfl) ?_
      obtain ⟨h_1, hf⟩ := gd_some hf
      refine x_iald hx hb hK (aiM_0 ad cI cJ) hP h_1 dX9_grade_67 ?_
      refine lv_icmp_ge (tgt := 112) hx hb dX9_grade_68 (by decide) (fun c_2 => ?_) (fun c_2 => ?_)
      · have hf := (if_pos c_2).symm.trans hf
        exact K0 _ _ _ _ (Option.some.inj hf).symm hP hD hS (lv_sub hl [0, 1, 2, 3, 4, 5, 6] rfl)
      · have hf := (if_neg c_2).symm.trans hf
        refine lv_iload hx hb dX9_grade_71 (lv_at hl 6 rfl) ?_
        refine lv_if_ne (tgt := 99) hx hb dX9_grade_73 (by decide) (fun c_3 => ?_) (fun c_3 => ?_)
        · have hf := (if_neg c_3).symm.trans hf
          refine lv_iconst (v := (1 : Int32)) hx hb dX9_grade_99 (by decide) ?_
          refine lv_goto (tgt := 104) hx hb dX9_grade_100 (by decide) ?_
          refine lv_istore (lv' := [(6, .int (1 : Int32)), (0, .ref (ad 13)), (1, .int v1), (2, .int v2), (3, .int v3), (4, .int v4), (5, .int v5), (7, .int v7)]) hx hb dX9_grade_104 hl (by decide) rfl (fun ls hl => ?_)
          refine lv_iinc (v := (v7 + (1 : Int32))) (lv' := [(7, .int (v7 + (1 : Int32))), (6, .int (1 : Int32)), (0, .ref (ad 13)), (1, .int v1), (2, .int v2), (3, .int v3), (4, .int v4), (5, .int v5)]) hx hb dX9_grade_106 hl (k := 7) rfl (by first | rfl | decide) (by decide) rfl (fun ls hl => ?_)
          refine lv_goto (tgt := 60) hx hb dX9_grade_109 (by decide) ?_
          exact ih _ _ _ _ _ hf hP hD hS (lv_sub hl [2, 3, 4, 5, 6, 7, 1, 0] rfl)
        · have hf := (if_pos c_3).symm.trans hf
          refine lv_iload_n hx hb dX9_grade_76 rfl (lv_at hl 3 rfl) ?_
          refine lv_iload hx hb dX9_grade_77 (lv_at hl 7 rfl) ?_
          refine lv_ishr hx hb dX9_grade_79 ?_
          refine lv_iconst (v := (1 : Int32)) hx hb dX9_grade_80 (by decide) ?_
          refine lv_iand hx hb dX9_grade_81 ?_
          refine lv_iconst (v := (1 : Int32)) hx hb dX9_grade_82 (by decide) ?_
          refine lv_icmp_ne (tgt := 103) hx hb dX9_grade_83 (by decide) (fun c_4 => ?_) (fun c_4 => ?_)
          · have hf := (if_neg c_4).symm.trans hf
            refine lv_iconst (v := (0 : Int32)) hx hb dX9_grade_103 (by decide) ?_
            refine lv_istore (lv' := [(6, .int (0 : Int32)), (0, .ref (ad 13)), (1, .int v1), (2, .int v2), (3, .int v3), (4, .int v4), (5, .int v5), (7, .int v7)]) hx hb dX9_grade_104 hl (by decide) rfl (fun ls hl => ?_)
            refine lv_iinc (v := (v7 + (1 : Int32))) (lv' := [(7, .int (v7 + (1 : Int32))), (6, .int (0 : Int32)), (0, .ref (ad 13)), (1, .int v1), (2, .int v2), (3, .int v3), (4, .int v4), (5, .int v5)]) hx hb dX9_grade_106 hl (k := 7) rfl (by first | rfl | decide) (by decide) rfl (fun ls hl => ?_)
            refine lv_goto (tgt := 60) hx hb dX9_grade_109 (by decide) ?_
            exact ih _ _ _ _ _ hf hP hD hS (lv_sub hl [2, 3, 4, 5, 6, 7, 1, 0] rfl)
          · have hf := (if_pos c_4).symm.trans hf
            refine lv_aload_n hx hb dX9_grade_86 rfl (lv_at hl 0 rfl) ?_
            refine lv_iload_n hx hb dX9_grade_87 rfl (lv_at hl 1 rfl) ?_
            refine lv_iload_n hx hb dX9_grade_88 rfl (lv_at hl 2 rfl) ?_
            refine lv_iload hx hb dX9_grade_89 (lv_at hl 7 rfl) ?_
            refine lv_iload hx hb dX9_grade_91 (lv_at hl 5 rfl) ?_
            obtain ⟨r_5, hg_5, hf⟩ := bd_some hf
            refine xVi (rest := []) (c_X9_n l dC dI ad cI cJ cT v1 v2 v7 v5 I J hg_5) hfix (cwV 4 hts gX9_grade_X9_n rfl rfl rfl (by decide +kernel) ⟨Nat.le_of_ble_eq_true rfl, Nat.le_of_ble_eq_true rfl⟩) hK hP hD hS hA (va_recv hK hP (ci := 8) (q0 := 13) rfl (obM_13 ad cI cJ I J)) rfl hl.1 rfl (Nat.le_of_ble_eq_true rfl) ⟨Nat.zero_le _, Nat.zero_le _⟩ dX9_grade_93 (fun H locs hP hD hS => ?_)
            refine lv_if_le (tgt := 103) hx hb dX9_grade_96 (by decide) (fun c_6 => ?_) (fun c_6 => ?_)
            · have hf := (if_pos c_6).symm.trans hf
              refine lv_iconst (v := (0 : Int32)) hx hb dX9_grade_103 (by decide) ?_
              refine lv_istore (lv' := [(6, .int (0 : Int32)), (0, .ref (ad 13)), (1, .int v1), (2, .int v2), (3, .int v3), (4, .int v4), (5, .int v5), (7, .int v7)]) hx hb dX9_grade_104 hl (by decide) rfl (fun ls hl => ?_)
              refine lv_iinc (v := (v7 + (1 : Int32))) (lv' := [(7, .int (v7 + (1 : Int32))), (6, .int (0 : Int32)), (0, .ref (ad 13)), (1, .int v1), (2, .int v2), (3, .int v3), (4, .int v4), (5, .int v5)]) hx hb dX9_grade_106 hl (k := 7) rfl (by first | rfl | decide) (by decide) rfl (fun ls hl => ?_)
              refine lv_goto (tgt := 60) hx hb dX9_grade_109 (by decide) ?_
              exact ih _ _ _ _ _ hf hP hD hS (lv_sub hl [2, 3, 4, 5, 6, 7, 1, 0] rfl)
            · have hf := (if_neg c_6).symm.trans hf
              refine lv_iconst (v := (1 : Int32)) hx hb dX9_grade_99 (by decide) ?_
              refine lv_goto (tgt := 104) hx hb dX9_grade_100 (by decide) ?_
              refine lv_istore (lv' := [(6, .int (1 : Int32)), (0, .ref (ad 13)), (1, .int v1), (2, .int v2), (3, .int v3), (4, .int v4), (5, .int v5), (7, .int v7)]) hx hb dX9_grade_104 hl (by decide) rfl (fun ls hl => ?_)
              refine lv_iinc (v := (v7 + (1 : Int32))) (lv' := [(7, .int (v7 + (1 : Int32))), (6, .int (1 : Int32)), (0, .ref (ad 13)), (1, .int v1), (2, .int v2), (3, .int v3), (4, .int v4), (5, .int v5)]) hx hb dX9_grade_106 hl (k := 7) rfl (by first | rfl | decide) (by decide) rfl (fun ls hl => ?_)
              refine lv_goto (tgt := 60) hx hb dX9_grade_109 (by decide) ?_
              exact ih _ _ _ _ _ hf hP hD hS (lv_sub hl [2, 3, 4, 5, 6, 7, 1, 0] rfl)
  have L49 : ∀ (Q : State → Prop) (v1 : Int32) (v2 : Int32) (v3 : Int32) (I : SI) (J : SJ) (o : Int32), (∀ (w4 : Int32) (H : Heap) (locs : List Loc) (ls : Array Slot), o = w4 → va_P (dC, dI) vwCl ((wM ad cI cJ) I J) H → va_D A ((wM ad cI cJ) I J) → va_S A s.heap H locs → lv_has ls 8 [(4, .int w4)] → W p l e ({ frames := 3, cells := 0, slots := 0, locals := 77 } : Room) s m args below meth c H locs 0 0 Q (F0 m 132 ls [])) → ∀ (n : Nat) (v4 : Int32) (v5 : Int32) (H : Heap) (locs : List Loc) (ls : Array Slot), lp_X9_grade_49 v1 v2 v3 I n v4 v5 = some o → va_P (dC, dI) vwCl ((wM ad cI cJ) I J) H → va_D A ((wM ad cI cJ) I J) → va_S A s.heap H locs → lv_has ls 8 [(0, .ref (ad 13)), (1, .int v1), (2, .int v2), (3, .int v3), (4, .int v4), (5, .int v5)] → W p l e ({ frames := 3, cells := 0, slots := 0, locals := 77 } : Room) s m args below meth c H locs 0 0 Q (F0 m 49 ls []) := by
    intro Q v1 v2 v3 I J o K0 n
    clear hP hD hS hl
    induction n with
    | zero =>
      intro v4 v5 H locs ls hf
      rw [lp_X9_grade_49.eq_1] at hf
      cases hf
    | succ n ih =>
      intro v4 v5 H locs ls hf hP hD hS hl
      rw [lp_X9_grade_49.eq_2] at hf
      refine lv_iload hx hb dX9_grade_49 (lv_at hl 5 rfl) ?_
      refine lv_if_lt (tgt := 132) hx hb dX9_grade_51 (by decide) (fun c_7 => ?_) (fun c_7 => ?_)
      · have hf := (if_pos c_7).symm.trans hf
        exact K0 _ _ _ _ (Option.some.inj hf).symm hP hD hS (lv_sub hl [4] rfl)
      · have hf := (if_neg c_7).symm.trans hf
        refine lv_iconst (v := (0 : Int32)) hx hb dX9_grade_54 (by decide) ?_
        refine lv_istore (lv' := [(6, .int (0 : Int32)), (0, .ref (ad 13)), (1, .int v1), (2, .int v2), (3, .int v3), (4, .int v4), (5, .int v5)]) hx hb dX9_grade_55 hl (by decide) rfl (fun ls hl => ?_)
        refine lv_iconst (v := (0 : Int32)) hx hb dX9_grade_57 (by decide) ?_
        refine lv_istore (lv' := [(7, .int (0 : Int32)), (6, .int (0 : Int32)), (0, .ref (ad 13)), (1, .int v1), (2, .int v2), (3, .int v3), (4, .int v4), (5, .int v5)]) hx hb dX9_grade_58 hl (by decide) rfl (fun ls hl => ?_)
        obtain ⟨o_8, hg_8, hf⟩ := bd_some hf
        refine L60 _ v1 v2 v3 v4 v5 I J o_8 ?_ FU (0 : Int32) (0 : Int32) _ _ _ hg_8 hP hD hS (lv_sub hl [2, 3, 4, 5, 6, 7, 1, 0] rfl)
        · intro w6_8 H locs ls ho hP hD hS hl
          subst o_8
          refine lv_iload hx hb dX9_grade_112 (lv_at hl 6 rfl) ?_
          refine lv_if_eq (tgt := 122) hx hb dX9_grade_114 (by decide) (fun c_9 => ?_) (fun c_9 => ?_)
          · have hf := (if_pos c_9).symm.trans hf
            refine lv_iload hx hb dX9_grade_122 (lv_at hl 4 rfl) ?_
            refine lv_istore (lv' := [(4, .int v4), (0, .ref (ad 13)), (1, .int v1), (2, .int v2), (3, .int v3), (5, .int v5), (6, .int w6_8)]) hx hb dX9_grade_124 hl (by decide) rfl (fun ls hl => ?_)
            refine lv_iinc (v := (v5 + (-1 : Int32))) (lv' := [(5, .int (v5 + (-1 : Int32))), (4, .int v4), (0, .ref (ad 13)), (1, .int v1), (2, .int v2), (3, .int v3), (6, .int w6_8)]) hx hb dX9_grade_126 hl (k := 5) rfl (by first | rfl | decide) (by decide) rfl (fun ls hl => ?_)
            refine lv_goto (tgt := 49) hx hb dX9_grade_129 (by decide) ?_
            exact ih _ _ _ _ _ hf hP hD hS (lv_sub hl [2, 3, 4, 5, 1, 0] rfl)
          · have hf := (if_neg c_9).symm.trans hf
            refine lv_iload hx hb dX9_grade_117 (lv_at hl 5 rfl) ?_
            refine lv_goto (tgt := 124) hx hb dX9_grade_119 (by decide) ?_
            refine lv_istore (lv' := [(4, .int v5), (0, .ref (ad 13)), (1, .int v1), (2, .int v2), (3, .int v3), (5, .int v5), (6, .int w6_8)]) hx hb dX9_grade_124 hl (by decide) rfl (fun ls hl => ?_)
            refine lv_iinc (v := (v5 + (-1 : Int32))) (lv' := [(5, .int (v5 + (-1 : Int32))), (4, .int v5), (0, .ref (ad 13)), (1, .int v1), (2, .int v2), (3, .int v3), (6, .int w6_8)]) hx hb dX9_grade_126 hl (k := 5) rfl (by first | rfl | decide) (by decide) rfl (fun ls hl => ?_)
            refine lv_goto (tgt := 49) hx hb dX9_grade_129 (by decide) ?_
            exact ih _ _ _ _ _ hf hP hD hS (lv_sub hl [2, 3, 4, 5, 1, 0] rfl)
  unfold f_X9_grade at hf
  refine lv_iload_n hx hb dX9_grade_0 rfl (lv_at hl 1 rfl) ?_
  obtain ⟨r_10, hg_10, hf⟩ := bd_some hf
  refine xSi (rest := []) (c_X9_noTable l dC dI ad cI cJ cT p1 I J hg_10) hfix (va_cwS 1 hts gX9_grade_X9_noTable rfl rfl rfl (by decide +kernel) ⟨Nat.le_of_ble_eq_true rfl, Nat.le_of_ble_eq_true rfl⟩) hK hP hD hS hA rfl hl.1 rfl (Nat.le_of_ble_eq_true rfl) ⟨Nat.zero_le _, Nat.zero_le _⟩ dX9_grade_1 (fun H locs hP hD hS => ?_)
  refine lv_if_ne (tgt := 16) hx hb dX9_grade_4 (by decide) (fun c_11 => ?_) (fun c_11 => ?_)
  · have hf := (if_neg c_11).symm.trans hf
    refine lv_bipush (v := (-2 : Int32)) hx hb dX9_grade_16 (by decide) ?_
    cases hf
    exact xRi hx hb hr hlocks hK hP hD hS (fun _ h => h) dX9_grade_18
  · have hf := (if_pos c_11).symm.trans hf
    refine lv_aload_n hx hb dX9_grade_7 rfl (lv_at hl 0 rfl) ?_
    refine lv_iload_n hx hb dX9_grade_8 rfl (lv_at hl 1 rfl) ?_
    refine lv_iload_n hx hb dX9_grade_9 rfl (lv_at hl 2 rfl) ?_
    obtain ⟨r_12, hg_12, hf⟩ := bd_some hf
    refine xVi (rest := []) (c_X9_isKind l dC dI ad cI cJ cT p1 p2 I J hg_12) hfix (cwV 2 hts gX9_grade_X9_isKind rfl rfl rfl (by decide +kernel) ⟨Nat.le_of_ble_eq_true rfl, Nat.le_of_ble_eq_true rfl⟩) hK hP hD hS hA (va_recv hK hP (ci := 8) (q0 := 13) rfl (obM_13 ad cI cJ I J)) rfl hl.1 rfl (Nat.le_of_ble_eq_true rfl) ⟨Nat.zero_le _, Nat.zero_le _⟩ dX9_grade_10 (fun H locs hP hD hS => ?_)
    refine lv_if_ne (tgt := 19) hx hb dX9_grade_13 (by decide) (fun c_13 => ?_) (fun c_13 => ?_)
    · have hf := (if_neg c_13).symm.trans hf
      refine lv_aload_n hx hb dX9_grade_19 rfl (lv_at hl 0 rfl) ?_
      refine lv_iload_n hx hb dX9_grade_20 rfl (lv_at hl 1 rfl) ?_
      obtain ⟨⟨r_14, I_14⟩, hg_14, hf⟩ := bd_some hf
      refine xVi (rest := []) (c_X9_isRight l dC dI ad cI cJ cT p1 I J hg_14) hfix (cwV 1 hts gX9_grade_X9_isRight rfl rfl rfl (by decide +kernel) ⟨Nat.le_of_ble_eq_true rfl, Nat.le_of_ble_eq_true rfl⟩) hK hP hD hS hA (va_recv hK hP (ci := 8) (q0 := 13) rfl (obM_13 ad cI cJ I J)) rfl hl.1 rfl (Nat.le_of_ble_eq_true rfl) ⟨Nat.zero_le _, Nat.zero_le _⟩ dX9_grade_21 (fun H locs hP hD hS => ?_)
      refine lv_if_ne (tgt := 30) hx hb dX9_grade_24 (by decide) (fun c_15 => ?_) (fun c_15 => ?_)
      · have hf := (if_neg c_15).symm.trans hf
        refine lv_aload_n hx hb dX9_grade_30 rfl (lv_at hl 0 rfl) ?_
        refine lv_iload_n hx hb dX9_grade_31 rfl (lv_at hl 1 rfl) ?_
        obtain ⟨r_16, hg_16, hf⟩ := bd_some hf
        refine xVi (rest := []) (c_X9_coreOf l dC dI ad cI cJ cT p1 I_14 J hg_16) hfix (cwV 1 hts gX9_grade_X9_coreOf rfl rfl rfl (by decide +kernel) ⟨Nat.le_of_ble_eq_true rfl, Nat.le_of_ble_eq_true rfl⟩) hK hP hD hS hA (va_recv hK hP (ci := 8) (q0 := 13) rfl (obM_13 ad cI cJ I_14 J)) rfl hl.1 rfl (Nat.le_of_ble_eq_true rfl) ⟨Nat.zero_le _, Nat.zero_le _⟩ dX9_grade_32 (fun H locs hP hD hS => ?_)
        refine lv_istore_n (lv' := [(3, .int r_16), (0, .ref (ad 13)), (1, .int p1), (2, .int p2)]) hx hb dX9_grade_35 rfl hl (by decide) rfl (fun ls hl => ?_)
        refine lv_iload_n hx hb dX9_grade_36 rfl (lv_at hl 3 rfl) ?_
        refine lv_istore (lv' := [(4, .int p2), (3, .int r_16), (0, .ref (ad 13)), (1, .int p1), (2, .int p2)]) hx hb dX9_grade_37 hl (by decide) rfl (fun ls hl => ?_)
        refine lv_aload_n hx hb dX9_grade_39 rfl (lv_at hl 2 rfl) ?_
        refine va_get (D := (dC, dI)) (ci := 8) (v := .ref (ad 0)) (C := RX9) (T := TX9) (N := 15) hx hb hts in_X9 hown hK hP 13 (obM_13 ad cI cJ I_14 J) rfl 0 (by decide) wd_0 (fun _ h9 => h9) rfl dX9_grade_40 ?_
        refine lv_iload_n hx hb dX9_grade_43 rfl (lv_at hl 3 rfl) ?_
        obtain ⟨h_17, hf⟩ := gd_some hf
        refine x_iald hx hb hK (aiM_0 ad cI cJ) hP h_17 dX9_grade_44 ?_
        refine lv_iconst (v := (1 : Int32)) hx hb dX9_grade_45 (by decide) ?_
        refine lv_isub hx hb dX9_grade_46 ?_
        refine lv_istore (lv' := [(5, .int ((I_14 0 p1.toNatClampNeg) - (1 : Int32))), (4, .int p2), (3, .int r_16), (0, .ref (ad 13)), (1, .int p1), (2, .int p2)]) hx hb dX9_grade_47 hl (by decide) rfl (fun ls hl => ?_)
        obtain ⟨o_18, hg_18, hf⟩ := bd_some hf
        refine L49 _ p1 p2 r_16 I_14 J o_18 ?_ FU p2 ((I_14 0 p1.toNatClampNeg) - (1 : Int32)) _ _ _ hg_18 hP hD hS (lv_sub hl [3, 4, 5, 2, 1, 0] rfl)
        · intro w4_18 H locs ls ho hP hD hS hl
          subst o_18
          refine lv_iload hx hb dX9_grade_132 (lv_at hl 0 rfl) ?_
          cases hf
          exact xRi hx hb hr hlocks hK hP hD hS (fun _ h => h) dX9_grade_134
      · have hf := (if_pos c_15).symm.trans hf
        refine lv_bipush (v := (-3 : Int32)) hx hb dX9_grade_27 (by decide) ?_
        cases hf
        exact xRi hx hb hr hlocks hK hP hD hS (fun _ h => h) dX9_grade_29
    · have hf := (if_pos c_13).symm.trans hf
      refine lv_bipush (v := (-2 : Int32)) hx hb dX9_grade_16 (by decide) ?_
      cases hf
      exact xRi hx hb hr hlocks hK hP hD hS (fun _ h => h) dX9_grade_18
set_option maxHeartbeats 4000000 in
set_option maxRecDepth 100000 in
theorem c_X9_within (l : Launch) (dC : Nat → ClassId) (dI : Nat → Nat → Nat) (ad : Nat → Nat) (cI cJ cT : ClassId) (p1 : Int32) (I : SI) (J : SJ) {r0 : Int32} {I0 : SI} (hf : f_X9_within p1 I = some (r0, I0)) : CtI l yX9_within wsX9_within ({ frames := 3, cells := 0, slots := 0, locals := 77 } : Room) (dC, dI) (tys3 cI cJ cT) (wM ad cI cJ) [.ref (ad 13), .int p1] I J r0 I0 J := by
  intro sz
  refine Met.ofW (cc := cX9_within) (maxL := 4) (ret := (some .int)) (by decide) rfl ?_
  intro p e s m args below meth c s₁ B hml hv
  obtain ⟨hargs, hsz, hP, hK, hD0⟩ := hv
  have hx := B.exec
  have hb := B.bytes
  have hr := B.returns
  have hts := atoms_spec (ws := wsX9_within) B.pre
  have hown : s.vm.findClass RX9 = some m.cls := findClass_of_methodNamed B.named
  have hlocks := B.notSynchronized
  subst hsz
  have hD := hD0.self (sz := s.heap.size)
  generalize hAe : va_A ((wM ad cI cJ) I J) s.heap.size = A at hD ⊢
  have hA : ∀ q : Nat, s.heap.size ≤ q → A q := fun q h => by rw [← hAe]; exact Or.inr h
  have hS : va_S A s.heap s.heap [] := va_S.rf
  have hl := lv_entry ([.ref (ad 13), .int p1]) (n := 4) (Nat.le_of_ble_eq_true rfl)
  rw [hargs, lg_entry_eq, ← hargs]
  generalize (lg_sl ([.ref (ad 13), .int p1]) ++ List.replicate (4 - (lg_sl ([.ref (ad 13), .int p1])).length) Slot.unset).toArray = ls at hl ⊢
  have hl : lv_has ls 4 [(0, .ref (ad 13)), (1, .int p1)] := hl
  have hfix : CallFix p m c cX9_within 4 s args wsX9_within RX9 := ⟨hx, hb, hml, hown, hts⟩
  have in_X9 : ∀ w ∈ u_ws RX9 TX9 15, w ∈ wsX9_within := by decide +kernel
  have wd_0 := hts (.fieldLink RX9 7 "FuseBenchModel" "ranks" "[I") (by decide +kernel)
  have L25 : ∀ (Q : State → Prop) (v1 : Int32) (I : SI) (J : SJ) (o : Int32), (∀ (w2 : Int32) (H : Heap) (locs : List Loc) (ls : Array Slot), o = w2 → va_P (dC, dI) vwCl ((wM ad cI cJ) I J) H → va_D A ((wM ad cI cJ) I J) → va_S A s.heap H locs → lv_has ls 4 [(2, .int w2)] → W p l e ({ frames := 3, cells := 0, slots := 0, locals := 77 } : Room) s m args below meth c H locs 0 0 Q (F0 m 61 ls [])) → ∀ (n : Nat) (v2 : Int32) (v3 : Int32) (H : Heap) (locs : List Loc) (ls : Array Slot), lp_X9_within_25 v1 I n v2 v3 = some o → va_P (dC, dI) vwCl ((wM ad cI cJ) I J) H → va_D A ((wM ad cI cJ) I J) → va_S A s.heap H locs → lv_has ls 4 [(0, .ref (ad 13)), (1, .int v1), (2, .int v2), (3, .int v3)] → W p l e ({ frames := 3, cells := 0, slots := 0, locals := 77 } : Room) s m args below meth c H locs 0 0 Q (F0 m 25 ls []) := by
    intro Q v1 I J o K0 n
    clear hP hD hS hl
    induction n with
    | zero =>
      intro v2 v3 H locs ls hf
      rw [lp_X9_within_25.eq_1] at hf
      cases hf
    | succ n ih =>
      intro v2 v3 H locs ls hf hP hD hS hl
      rw [lp_X9_within_25.eq_2] at hf
      refine lv_iload_n hx hb dX9_within_25 rfl (lv_at hl 3 rfl) ?_
      refine lv_iconst (v := (1 : Int32)) hx hb dX9_within_26 (by decide) ?_
      refine lv_aload_n hx hb dX9_within_27 rfl (lv_at hl 0 rfl) ?_
      refine va_get (D := (dC, dI)) (ci := 8) (v := .ref (ad 0)) (C := RX9) (T := TX9) (N := 15) hx hb hts in_X9 hown hK hP 13 (obM_13 ad cI cJ I J) rfl 0 (by decide) wd_0 (fun _ h9 => h9) rfl dX9_within_28 ?_
      refine lv_iload_n hx hb dX9_within_31 rfl (lv_at hl 1 rfl) ?_
      obtain ⟨h_1, hf⟩ := gd_some hf
      refine x_iald hx hb hK (aiM_0 ad cI cJ) hP h_1 dX9_within_32 ?_
      refine lv_ishl hx hb dX9_within_33 ?_
      refine lv_icmp_ge (tgt := 61) hx hb dX9_within_34 (by decide) (fun c_2 => ?_) (fun c_2 => ?_)
      · have hf := (if_pos c_2).symm.trans hf
        exact K0 _ _ _ _ (Option.some.inj hf).symm hP hD hS (lv_sub hl [2] rfl)
      · have hf := (if_neg c_2).symm.trans hf
        refine lv_iload_n hx hb dX9_within_37 rfl (lv_at hl 2 rfl) ?_
        refine lv_aload_n hx hb dX9_within_38 rfl (lv_at hl 0 rfl) ?_
        refine lv_iload_n hx hb dX9_within_39 rfl (lv_at hl 1 rfl) ?_
        refine lv_iload_n hx hb dX9_within_40 rfl (lv_at hl 3 rfl) ?_
        obtain ⟨r_3, hg_3, hf⟩ := bd_some hf
        refine xVi (rest := [.int v2]) (c_X9_close l dC dI ad cI cJ cT v1 v3 I J hg_3) hfix (cwV 2 hts gX9_within_X9_close rfl rfl rfl (by decide +kernel) ⟨Nat.le_of_ble_eq_true rfl, Nat.le_of_ble_eq_true rfl⟩) hK hP hD hS hA (va_recv hK hP (ci := 8) (q0 := 13) rfl (obM_13 ad cI cJ I J)) rfl hl.1 rfl (Nat.le_of_ble_eq_true rfl) ⟨Nat.zero_le _, Nat.zero_le _⟩ dX9_within_41 (fun H locs hP hD hS => ?_)
        refine lv_iload_n hx hb dX9_within_44 rfl (lv_at hl 3 rfl) ?_
        refine lv_icmp_ne (tgt := 52) hx hb dX9_within_45 (by decide) (fun c_4 => ?_) (fun c_4 => ?_)
        · have hf := (if_neg c_4).symm.trans hf
          refine lv_iconst (v := (0 : Int32)) hx hb dX9_within_52 (by decide) ?_
          refine lv_iadd hx hb dX9_within_53 ?_
          refine lv_istore_n (lv' := [(2, .int (v2 + (0 : Int32))), (0, .ref (ad 13)), (1, .int v1), (3, .int v3)]) hx hb dX9_within_54 rfl hl (by decide) rfl (fun ls hl => ?_)
          refine lv_iinc (v := (v3 + (1 : Int32))) (lv' := [(3, .int (v3 + (1 : Int32))), (2, .int (v2 + (0 : Int32))), (0, .ref (ad 13)), (1, .int v1)]) hx hb dX9_within_55 hl (k := 3) rfl (by first | rfl | decide) (by decide) rfl (fun ls hl => ?_)
          refine lv_goto (tgt := 25) hx hb dX9_within_58 (by decide) ?_
          exact ih _ _ _ _ _ hf hP hD hS (lv_sub hl [2, 3, 1, 0] rfl)
        · have hf := (if_pos c_4).symm.trans hf
          refine lv_iconst (v := (1 : Int32)) hx hb dX9_within_48 (by decide) ?_
          refine lv_goto (tgt := 53) hx hb dX9_within_49 (by decide) ?_
          refine lv_iadd hx hb dX9_within_53 ?_
          refine lv_istore_n (lv' := [(2, .int (v2 + (1 : Int32))), (0, .ref (ad 13)), (1, .int v1), (3, .int v3)]) hx hb dX9_within_54 rfl hl (by decide) rfl (fun ls hl => ?_)
          refine lv_iinc (v := (v3 + (1 : Int32))) (lv' := [(3, .int (v3 + (1 : Int32))), (2, .int (v2 + (1 : Int32))), (0, .ref (ad 13)), (1, .int v1)]) hx hb dX9_within_55 hl (k := 3) rfl (by first | rfl | decide) (by decide) rfl (fun ls hl => ?_)
          refine lv_goto (tgt := 25) hx hb dX9_within_58 (by decide) ?_
          exact ih _ _ _ _ _ hf hP hD hS (lv_sub hl [2, 3, 1, 0] rfl)
  unfold f_X9_within at hf
  refine lv_iload_n hx hb dX9_within_0 rfl (lv_at hl 1 rfl) ?_
  obtain ⟨r_5, hg_5, hf⟩ := bd_some hf
  refine xSi (rest := []) (c_X9_noTable l dC dI ad cI cJ cT p1 I J hg_5) hfix (va_cwS 1 hts gX9_within_X9_noTable rfl rfl rfl (by decide +kernel) ⟨Nat.le_of_ble_eq_true rfl, Nat.le_of_ble_eq_true rfl⟩) hK hP hD hS hA rfl hl.1 rfl (Nat.le_of_ble_eq_true rfl) ⟨Nat.zero_le _, Nat.zero_le _⟩ dX9_within_1 (fun H locs hP hD hS => ?_)
  refine lv_if_eq (tgt := 10) hx hb dX9_within_4 (by decide) (fun c_6 => ?_) (fun c_6 => ?_)
  · have hf := (if_pos c_6).symm.trans hf
    refine lv_aload_n hx hb dX9_within_10 rfl (lv_at hl 0 rfl) ?_
    refine lv_iload_n hx hb dX9_within_11 rfl (lv_at hl 1 rfl) ?_
    obtain ⟨⟨r_7, I_7⟩, hg_7, hf⟩ := bd_some hf
    refine xVi (rest := []) (c_X9_isRight l dC dI ad cI cJ cT p1 I J hg_7) hfix (cwV 1 hts gX9_within_X9_isRight rfl rfl rfl (by decide +kernel) ⟨Nat.le_of_ble_eq_true rfl, Nat.le_of_ble_eq_true rfl⟩) hK hP hD hS hA (va_recv hK hP (ci := 8) (q0 := 13) rfl (obM_13 ad cI cJ I J)) rfl hl.1 rfl (Nat.le_of_ble_eq_true rfl) ⟨Nat.zero_le _, Nat.zero_le _⟩ dX9_within_12 (fun H locs hP hD hS => ?_)
    refine lv_if_ne (tgt := 21) hx hb dX9_within_15 (by decide) (fun c_8 => ?_) (fun c_8 => ?_)
    · have hf := (if_neg c_8).symm.trans hf
      refine lv_iconst (v := (0 : Int32)) hx hb dX9_within_21 (by decide) ?_
      refine lv_istore_n (lv' := [(2, .int (0 : Int32)), (0, .ref (ad 13)), (1, .int p1)]) hx hb dX9_within_22 rfl hl (by decide) rfl (fun ls hl => ?_)
      refine lv_iconst (v := (1 : Int32)) hx hb dX9_within_23 (by decide) ?_
      refine lv_istore_n (lv' := [(3, .int (1 : Int32)), (2, .int (0 : Int32)), (0, .ref (ad 13)), (1, .int p1)]) hx hb dX9_within_24 rfl hl (by decide) rfl (fun ls hl => ?_)
      obtain ⟨o_9, hg_9, hf⟩ := bd_some hf
      refine L25 _ p1 I_7 J o_9 ?_ FU (0 : Int32) (1 : Int32) _ _ _ hg_9 hP hD hS (lv_sub hl [2, 3, 1, 0] rfl)
      · intro w2_9 H locs ls ho hP hD hS hl
        subst o_9
        refine lv_iload_n hx hb dX9_within_61 rfl (lv_at hl 0 rfl) ?_
        cases hf
        exact xRi hx hb hr hlocks hK hP hD hS (fun _ h => h) dX9_within_62
    · have hf := (if_pos c_8).symm.trans hf
      refine lv_bipush (v := (-3 : Int32)) hx hb dX9_within_18 (by decide) ?_
      cases hf
      exact xRi hx hb hr hlocks hK hP hD hS (fun _ h => h) dX9_within_20
  · have hf := (if_neg c_6).symm.trans hf
    refine lv_bipush (v := (-2 : Int32)) hx hb dX9_within_7 (by decide) ?_
    cases hf
    exact xRi hx hb hr hlocks hK hP hD hS (fun _ h => h) dX9_within_9
set_option maxHeartbeats 4000000 in
set_option maxRecDepth 100000 in
theorem c_X9_layNaming (l : Launch) (dC : Nat → ClassId) (dI : Nat → Nat → Nat) (ad : Nat → Nat) (cI cJ cT : ClassId) (p1 : Int32) (p2 : Int32) (I : SI) (J : SJ) {r0 : Int32} {I0 : SI} (hf : f_X9_layNaming p1 p2 I = some (r0, I0)) : CtI l yX9_layNaming wsX9_layNaming ({ frames := 0, cells := 0, slots := 0, locals := 0 } : Room) (dC, dI) (tys3 cI cJ cT) (wM ad cI cJ) [.ref (ad 13), .int p1, .int p2] I J r0 I0 J := by
  intro sz
  refine Met.ofW (cc := cX9_layNaming) (maxL := 6) (ret := (some .boolean)) (by decide) rfl ?_
  intro p e s m args below meth c s₁ B hml hv
  obtain ⟨hargs, hsz, hP, hK, hD0⟩ := hv
  have hx := B.exec
  have hb := B.bytes
  have hr := B.returns
  have hts := atoms_spec (ws := wsX9_layNaming) B.pre
  have hown : s.vm.findClass RX9 = some m.cls := findClass_of_methodNamed B.named
  have hlocks := B.notSynchronized
  subst hsz
  have hD := hD0.self (sz := s.heap.size)
  generalize hAe : va_A ((wM ad cI cJ) I J) s.heap.size = A at hD ⊢
  have hA : ∀ q : Nat, s.heap.size ≤ q → A q := fun q h => by rw [← hAe]; exact Or.inr h
  have hS : va_S A s.heap s.heap [] := va_S.rf
  have hl := lv_entry ([.ref (ad 13), .int p1, .int p2]) (n := 6) (Nat.le_of_ble_eq_true rfl)
  rw [hargs, lg_entry_eq, ← hargs]
  generalize (lg_sl ([.ref (ad 13), .int p1, .int p2]) ++ List.replicate (6 - (lg_sl ([.ref (ad 13), .int p1, .int p2])).length) Slot.unset).toArray = ls at hl ⊢
  have hl : lv_has ls 6 [(0, .ref (ad 13)), (1, .int p1), (2, .int p2)] := hl
  have hfix : CallFix p m c cX9_layNaming 6 s args wsX9_layNaming RX9 := ⟨hx, hb, hml, hown, hts⟩
  have in_X9 : ∀ w ∈ u_ws RX9 TX9 15, w ∈ wsX9_layNaming := by decide +kernel
  have wd_0 := hts (.fieldLink RX9 38 "FuseBenchModel" "name" "[I") (by decide +kernel)
  have L15 : ∀ (Q : State → Prop) (v1 : Int32) (J : SJ) (o : Int32 × SI), (∀ (w4 : Int32) (I : SI) (H : Heap) (locs : List Loc) (ls : Array Slot), o = (w4, I) → va_P (dC, dI) vwCl ((wM ad cI cJ) I J) H → va_D A ((wM ad cI cJ) I J) → va_S A s.heap H locs → lv_has ls 6 [(1, .int v1), (4, .int w4)] → W p l e ({ frames := 0, cells := 0, slots := 0, locals := 0 } : Room) s m args below meth c H locs 0 0 Q (F0 m 55 ls [])) → ∀ (n : Nat) (v3 : Int32) (v4 : Int32) (v5 : Int32) (I : SI) (H : Heap) (locs : List Loc) (ls : Array Slot), lp_X9_layNaming_15 v1 n v3 v4 v5 I = some o → va_P (dC, dI) vwCl ((wM ad cI cJ) I J) H → va_D A ((wM ad cI cJ) I J) → va_S A s.heap H locs → lv_has ls 6 [(0, .ref (ad 13)), (1, .int v1), (3, .int v3), (4, .int v4), (5, .int v5)] → W p l e ({ frames := 0, cells := 0, slots := 0, locals := 0 } : Room) s m args below meth c H locs 0 0 Q (F0 m 15 ls []) := by
    intro Q v1 J o K0 n
    clear hP hD hS hl
    induction n with
    | zero =>
      intro v3 v4 v5 I H locs ls hf
      rw [lp_X9_layNaming_15.eq_1] at hf
      cases hf
    | succ n ih =>
      intro v3 v4 v5 I H locs ls hf hP hD hS hl
      rw [lp_X9_layNaming_15.eq_2] at hf
      refine lv_iload hx hb dX9_layNaming_15 (lv_at hl 4 rfl) ?_
      refine lv_iload_n hx hb dX9_layNaming_17 rfl (lv_at hl 1 rfl) ?_
      refine lv_icmp_ge (tgt := 55) hx hb dX9_layNaming_18 (by decide) (fun c_1 => ?_) (fun c_1 => ?_)
      · have hf := (if_pos c_1).symm.trans hf
        exact K0 _ _ _ _ _ (Option.some.inj hf).symm hP hD hS (lv_sub hl [1, 3] rfl)
      · have hf := (if_neg c_1).symm.trans hf
        refine lv_aload_n hx hb dX9_layNaming_21 rfl (lv_at hl 0 rfl) ?_
        refine va_get (D := (dC, dI)) (ci := 8) (v := .ref (ad 9)) (C := RX9) (T := TX9) (N := 15) hx hb hts in_X9 hown hK hP 13 (obM_13 ad cI cJ I J) rfl 11 (by decide) wd_0 (fun _ h9 => h9) rfl dX9_layNaming_22 ?_
        refine lv_iload hx hb dX9_layNaming_25 (lv_at hl 4 rfl) ?_
        refine lv_iload_n hx hb dX9_layNaming_27 rfl (lv_at hl 2 rfl) ?_
        refine lv_iload_n hx hb dX9_layNaming_28 rfl (lv_at hl 1 rfl) ?_
        obtain ⟨h_2, hf⟩ := gd_some hf
        refine lv_irem hx hb dX9_layNaming_29 h_2 ?_
        obtain ⟨h_3, hf⟩ := gd_some hf
        refine x_iast hx hb hK (aiM_9 ad cI cJ) hP hD hS h_3 dX9_layNaming_30 (fun H locs hP hD hS => ?_)
        refine lv_iload_n hx hb dX9_layNaming_31 rfl (lv_at hl 2 rfl) ?_
        refine lv_iload_n hx hb dX9_layNaming_32 rfl (lv_at hl 1 rfl) ?_
        obtain ⟨h_4, hf⟩ := gd_some hf
        refine lv_idiv hx hb dX9_layNaming_33 h_4 ?_
        refine lv_istore_n (lv' := [(3, .int (v3 / v1)), (0, .ref (ad 13)), (1, .int v1), (4, .int v4), (5, .int v5)]) hx hb dX9_layNaming_34 rfl hl (by decide) rfl (fun ls hl => ?_)
        refine lv_iload hx hb dX9_layNaming_35 (lv_at hl 3 rfl) ?_
        refine lv_iconst (v := (1 : Int32)) hx hb dX9_layNaming_37 (by decide) ?_
        refine lv_aload_n hx hb dX9_layNaming_38 rfl (lv_at hl 1 rfl) ?_
        refine va_get (D := (dC, dI)) (ci := 8) (v := .ref (ad 9)) (C := RX9) (T := TX9) (N := 15) hx hb hts in_X9 hown hK hP 13 (obM_13 ad cI cJ (ups I 9 v5.toNatClampNeg (v3 - v3 / v1 * v1)) J) rfl 11 (by decide) wd_0 (fun _ h9 => h9) rfl dX9_layNaming_39 ?_
        refine lv_iload hx hb dX9_layNaming_42 (lv_at hl 4 rfl) ?_
        obtain ⟨h_5, hf⟩ := gd_some hf
        refine x_iald hx hb hK (aiM_9 ad cI cJ) hP h_5 dX9_layNaming_44 ?_
        refine lv_ishl hx hb dX9_layNaming_45 ?_
        refine lv_ior hx hb dX9_layNaming_46 ?_
        refine lv_istore (lv' := [(4, .int (v4 ||| ((1 : Int32) <<< (((ups I 9 v5.toNatClampNeg (v3 - v3 / v1 * v1)) 9 v5.toNatClampNeg) &&& 31)))), (3, .int (v3 / v1)), (0, .ref (ad 13)), (1, .int v1), (5, .int v5)]) hx hb dX9_layNaming_47 hl (by decide) rfl (fun ls hl => ?_)
        refine lv_iinc (v := (v5 + (1 : Int32))) (lv' := [(5, .int (v5 + (1 : Int32))), (4, .int (v4 ||| ((1 : Int32) <<< (((ups I 9 v5.toNatClampNeg (v3 - v3 / v1 * v1)) 9 v5.toNatClampNeg) &&& 31)))), (3, .int (v3 / v1)), (0, .ref (ad 13)), (1, .int v1)]) hx hb dX9_layNaming_49 hl (k := 4) rfl (by first | rfl | decide) (by decide) rfl (fun ls hl => ?_)
        refine lv_goto (tgt := 15) hx hb dX9_layNaming_52 (by decide) ?_
        exact ih _ _ _ _ _ _ _ hf hP hD hS (lv_sub hl [3, 4, 2, 1, 0] rfl)
  unfold f_X9_layNaming at hf
  refine lv_iload_n hx hb dX9_layNaming_0 rfl (lv_at hl 2 rfl) ?_
  refine lv_istore_n (lv' := [(3, .int p2), (0, .ref (ad 13)), (1, .int p1), (2, .int p2)]) hx hb dX9_layNaming_1 rfl hl (by decide) rfl (fun ls hl => ?_)
  refine lv_iconst (v := (1 : Int32)) hx hb dX9_layNaming_2 (by decide) ?_
  refine lv_istore (lv' := [(4, .int (1 : Int32)), (3, .int p2), (0, .ref (ad 13)), (1, .int p1), (2, .int p2)]) hx hb dX9_layNaming_3 hl (by decide) rfl (fun ls hl => ?_)
  refine lv_aload_n hx hb dX9_layNaming_5 rfl (lv_at hl 2 rfl) ?_
  refine va_get (D := (dC, dI)) (ci := 8) (v := .ref (ad 9)) (C := RX9) (T := TX9) (N := 15) hx hb hts in_X9 hown hK hP 13 (obM_13 ad cI cJ I J) rfl 11 (by decide) wd_0 (fun _ h9 => h9) rfl dX9_layNaming_6 ?_
  refine lv_iconst (v := (0 : Int32)) hx hb dX9_layNaming_9 (by decide) ?_
  refine lv_iconst (v := (0 : Int32)) hx hb dX9_layNaming_10 (by decide) ?_
  refine x_iast hx hb hK (aiM_9 ad cI cJ) hP hD hS (by decide) dX9_layNaming_11 (fun H locs hP hD hS => ?_)
  refine lv_iconst (v := (1 : Int32)) hx hb dX9_layNaming_12 (by decide) ?_
  refine lv_istore (lv' := [(5, .int (1 : Int32)), (4, .int (1 : Int32)), (3, .int p2), (0, .ref (ad 13)), (1, .int p1), (2, .int p2)]) hx hb dX9_layNaming_13 hl (by decide) rfl (fun ls hl => ?_)
  obtain ⟨o_6, hg_6, hf⟩ := bd_some hf
  refine L15 _ p1 J o_6 ?_ FU p2 (1 : Int32) (1 : Int32) (ups I 9 (0 : Int32).toNatClampNeg (0 : Int32)) _ _ _ hg_6 hP hD hS (lv_sub hl [3, 4, 2, 1, 0] rfl)
  · intro w4_6 I_6 H locs ls ho hP hD hS hl
    subst o_6
    refine lv_iload hx hb dX9_layNaming_55 (lv_at hl 1 rfl) ?_
    refine lv_iconst (v := (1 : Int32)) hx hb dX9_layNaming_57 (by decide) ?_
    refine lv_iload_n hx hb dX9_layNaming_58 rfl (lv_at hl 0 rfl) ?_
    refine lv_ishl hx hb dX9_layNaming_59 ?_
    refine lv_iconst (v := (1 : Int32)) hx hb dX9_layNaming_60 (by decide) ?_
    refine lv_isub hx hb dX9_layNaming_61 ?_
    refine lv_icmp_ne (tgt := 69) hx hb dX9_layNaming_62 (by decide) (fun c_7 => ?_) (fun c_7 => ?_)
    · have hf := (if_neg c_7).symm.trans hf
      refine lv_iconst (v := (0 : Int32)) hx hb dX9_layNaming_69 (by decide) ?_
      cases hf
      exact xRz hx hb hr hlocks rfl hK hP hD hS (fun _ h => h) dX9_layNaming_70
    · have hf := (if_pos c_7).symm.trans hf
      refine lv_iconst (v := (1 : Int32)) hx hb dX9_layNaming_65 (by decide) ?_
      refine lv_goto (tgt := 70) hx hb dX9_layNaming_66 (by decide) ?_
      cases hf
      exact xRz hx hb hr hlocks rfl hK hP hD hS (fun _ h => h) dX9_layNaming_70
set_option maxHeartbeats 4000000 in
set_option maxRecDepth 100000 in
theorem c_X9_isLike (l : Launch) (dC : Nat → ClassId) (dI : Nat → Nat → Nat) (ad : Nat → Nat) (cI cJ cT : ClassId) (p1 : Int32) (p2 : Int32) (I : SI) (J : SJ) {r0 : Int32} (hf : f_X9_isLike p1 p2 I = some r0) : CtI l yX9_isLike wsX9_isLike ({ frames := 1, cells := 0, slots := 0, locals := 24 } : Room) (dC, dI) (tys3 cI cJ cT) (wM ad cI cJ) [.ref (ad 13), .int p1, .int p2] I J r0 I J := by
  intro sz
  refine Met.ofW (cc := cX9_isLike) (maxL := 7) (ret := (some .boolean)) (by decide) rfl ?_
  intro p e s m args below meth c s₁ B hml hv
  obtain ⟨hargs, hsz, hP, hK, hD0⟩ := hv
  have hx := B.exec
  have hb := B.bytes
  have hr := B.returns
  have hts := atoms_spec (ws := wsX9_isLike) B.pre
  have hown : s.vm.findClass RX9 = some m.cls := findClass_of_methodNamed B.named
  have hlocks := B.notSynchronized
  subst hsz
  have hD := hD0.self (sz := s.heap.size)
  generalize hAe : va_A ((wM ad cI cJ) I J) s.heap.size = A at hD ⊢
  have hA : ∀ q : Nat, s.heap.size ≤ q → A q := fun q h => by rw [← hAe]; exact Or.inr h
  have hS : va_S A s.heap s.heap [] := va_S.rf
  have hl := lv_entry ([.ref (ad 13), .int p1, .int p2]) (n := 7) (Nat.le_of_ble_eq_true rfl)
  rw [hargs, lg_entry_eq, ← hargs]
  generalize (lg_sl ([.ref (ad 13), .int p1, .int p2]) ++ List.replicate (7 - (lg_sl ([.ref (ad 13), .int p1, .int p2])).length) Slot.unset).toArray = ls at hl ⊢
  have hl : lv_has ls 7 [(0, .ref (ad 13)), (1, .int p1), (2, .int p2)] := hl
  have hfix : CallFix p m c cX9_isLike 7 s args wsX9_isLike RX9 := ⟨hx, hb, hml, hown, hts⟩
  have in_X9 : ∀ w ∈ u_ws RX9 TX9 15, w ∈ wsX9_isLike := by decide +kernel
  have wd_0 := hts (.fieldLink RX9 7 "FuseBenchModel" "ranks" "[I") (by decide +kernel)
  have wd_1 := hts (.fieldLink RX9 38 "FuseBenchModel" "name" "[I") (by decide +kernel)
  have L33 : ∀ (Q : State → Prop) (v1 : Int32) (v2 : Int32) (v4 : Int32) (v5 : Int32) (I : SI) (J : SJ) (o : Int32), (∀ (w3 : Int32) (H : Heap) (locs : List Loc) (ls : Array Slot), o = w3 → va_P (dC, dI) vwCl ((wM ad cI cJ) I J) H → va_D A ((wM ad cI cJ) I J) → va_S A s.heap H locs → lv_has ls 7 [(0, .ref (ad 13)), (1, .int v1), (2, .int v2), (3, .int w3), (4, .int v4), (5, .int v5)] → W p l e ({ frames := 1, cells := 0, slots := 0, locals := 24 } : Room) s m args below meth c H locs 0 0 Q (F0 m 100 ls [])) → ∀ (n : Nat) (v3 : Int32) (v6 : Int32) (H : Heap) (locs : List Loc) (ls : Array Slot), lp_X9_isLike_33 v1 v2 v4 v5 I n v3 v6 = some o → va_P (dC, dI) vwCl ((wM ad cI cJ) I J) H → va_D A ((wM ad cI cJ) I J) → va_S A s.heap H locs → lv_has ls 7 [(0, .ref (ad 13)), (1, .int v1), (2, .int v2), (3, .int v3), (4, .int v4), (5, .int v5), (6, .int v6)] → W p l e ({ frames := 1, cells := 0, slots := 0, locals := 24 } : Room) s m args below meth c H locs 0 0 Q (F0 m 33 ls []) := by
    intro Q v1 v2 v4 v5 I J o K0 n
    clear hP hD hS hl
    induction n with
    | zero =>
      intro v3 v6 H locs ls hf
      rw [lp_X9_isLike_33.eq_1] at hf
      cases hf
    | succ n ih =>
      intro v3 v6 H locs ls hf hP hD hS hl
      rw [lp_X9_isLike_33.eq_2] at hf
      refine lv_iload hx hb dX9_isLike_33 (lv_at hl 6 rfl) ?_
      refine lv_aload_n hx hb dX9_isLike_35 rfl (lv_at hl 0 rfl) ?_
      refine va_get (D := (dC, dI)) (ci := 8) (v := .ref (ad 0)) (C := RX9) (T := TX9) (N := 15) hx hb hts in_X9 hown hK hP 13 (obM_13 ad cI cJ I J) rfl 0 (by decide) wd_0 (fun _ h9 => h9) rfl dX9_isLike_36 ?_
      refine lv_iload_n hx hb dX9_isLike_39 rfl (lv_at hl 1 rfl) ?_
      obtain ⟨h_1, hf⟩ := gd_some hf
      refine x_iald hx hb hK (aiM_0 ad cI cJ) hP h_1 dX9_isLike_40 ?_
      refine lv_icmp_ge (tgt := 100) hx hb dX9_isLike_41 (by decide) (fun c_2 => ?_) (fun c_2 => ?_)
      · have hf := (if_pos c_2).symm.trans hf
        exact K0 _ _ _ _ (Option.some.inj hf).symm hP hD hS (lv_sub hl [0, 1, 2, 3, 4, 5] rfl)
      · have hf := (if_neg c_2).symm.trans hf
        refine lv_iload_n hx hb dX9_isLike_44 rfl (lv_at hl 3 rfl) ?_
        refine lv_if_eq (tgt := 92) hx hb dX9_isLike_45 (by decide) (fun c_3 => ?_) (fun c_3 => ?_)
        · have hf := (if_pos c_3).symm.trans hf
          refine lv_iconst (v := (0 : Int32)) hx hb dX9_isLike_92 (by decide) ?_
          refine lv_istore_n (lv' := [(3, .int (0 : Int32)), (0, .ref (ad 13)), (1, .int v1), (2, .int v2), (4, .int v4), (5, .int v5), (6, .int v6)]) hx hb dX9_isLike_93 rfl hl (by decide) rfl (fun ls hl => ?_)
          refine lv_iinc (v := (v6 + (1 : Int32))) (lv' := [(6, .int (v6 + (1 : Int32))), (3, .int (0 : Int32)), (0, .ref (ad 13)), (1, .int v1), (2, .int v2), (4, .int v4), (5, .int v5)]) hx hb dX9_isLike_94 hl (k := 6) rfl (by first | rfl | decide) (by decide) rfl (fun ls hl => ?_)
          refine lv_goto (tgt := 33) hx hb dX9_isLike_97 (by decide) ?_
          exact ih _ _ _ _ _ hf hP hD hS (lv_sub hl [2, 3, 4, 1, 5, 6, 0] rfl)
        · have hf := (if_neg c_3).symm.trans hf
          refine lv_aload_n hx hb dX9_isLike_48 rfl (lv_at hl 0 rfl) ?_
          refine lv_iload_n hx hb dX9_isLike_49 rfl (lv_at hl 1 rfl) ?_
          refine lv_iload hx hb dX9_isLike_50 (lv_at hl 4 rfl) ?_
          refine lv_iload hx hb dX9_isLike_52 (lv_at hl 5 rfl) ?_
          refine lv_iload hx hb dX9_isLike_54 (lv_at hl 6 rfl) ?_
          obtain ⟨r_4, hg_4, hf⟩ := bd_some hf
          refine xVi (rest := []) (c_X9_n l dC dI ad cI cJ cT v1 v4 v5 v6 I J hg_4) hfix (cwV 4 hts gX9_isLike_X9_n rfl rfl rfl (by decide +kernel) ⟨Nat.le_of_ble_eq_true rfl, Nat.le_of_ble_eq_true rfl⟩) hK hP hD hS hA (va_recv hK hP (ci := 8) (q0 := 13) rfl (obM_13 ad cI cJ I J)) rfl hl.1 rfl (Nat.le_of_ble_eq_true rfl) ⟨Nat.zero_le _, Nat.zero_le _⟩ dX9_isLike_56 (fun H locs hP hD hS => ?_)
          refine lv_aload_n hx hb dX9_isLike_59 rfl (lv_at hl 0 rfl) ?_
          refine lv_iload_n hx hb dX9_isLike_60 rfl (lv_at hl 2 rfl) ?_
          refine lv_aload_n hx hb dX9_isLike_61 rfl (lv_at hl 0 rfl) ?_
          refine va_get (D := (dC, dI)) (ci := 8) (v := .ref (ad 9)) (C := RX9) (T := TX9) (N := 15) hx hb hts in_X9 hown hK hP 13 (obM_13 ad cI cJ I J) rfl 11 (by decide) wd_1 (fun _ h9 => h9) rfl dX9_isLike_62 ?_
          refine lv_iload hx hb dX9_isLike_65 (lv_at hl 4 rfl) ?_
          obtain ⟨h_5, hf⟩ := gd_some hf
          refine x_iald hx hb hK (aiM_9 ad cI cJ) hP h_5 dX9_isLike_67 ?_
          refine lv_aload_n hx hb dX9_isLike_68 rfl (lv_at hl 0 rfl) ?_
          refine va_get (D := (dC, dI)) (ci := 8) (v := .ref (ad 9)) (C := RX9) (T := TX9) (N := 15) hx hb hts in_X9 hown hK hP 13 (obM_13 ad cI cJ I J) rfl 11 (by decide) wd_1 (fun _ h9 => h9) rfl dX9_isLike_69 ?_
          refine lv_iload hx hb dX9_isLike_72 (lv_at hl 5 rfl) ?_
          obtain ⟨h_6, hf⟩ := gd_some hf
          refine x_iald hx hb hK (aiM_9 ad cI cJ) hP h_6 dX9_isLike_74 ?_
          refine lv_aload_n hx hb dX9_isLike_75 rfl (lv_at hl 0 rfl) ?_
          refine va_get (D := (dC, dI)) (ci := 8) (v := .ref (ad 9)) (C := RX9) (T := TX9) (N := 15) hx hb hts in_X9 hown hK hP 13 (obM_13 ad cI cJ I J) rfl 11 (by decide) wd_1 (fun _ h9 => h9) rfl dX9_isLike_76 ?_
          refine lv_iload hx hb dX9_isLike_79 (lv_at hl 6 rfl) ?_
          obtain ⟨h_7, hf⟩ := gd_some hf
          refine x_iald hx hb hK (aiM_9 ad cI cJ) hP h_7 dX9_isLike_81 ?_
          obtain ⟨r_8, hg_8, hf⟩ := bd_some hf
          refine xVi (rest := [.int r_4]) (c_X9_n l dC dI ad cI cJ cT v2 (I 9 v4.toNatClampNeg) (I 9 v5.toNatClampNeg) (I 9 v6.toNatClampNeg) I J hg_8) hfix (cwV 4 hts gX9_isLike_X9_n rfl rfl rfl (by decide +kernel) ⟨Nat.le_of_ble_eq_true rfl, Nat.le_of_ble_eq_true rfl⟩) hK hP hD hS hA (va_recv hK hP (ci := 8) (q0 := 13) rfl (obM_13 ad cI cJ I J)) rfl hl.1 rfl (Nat.le_of_ble_eq_true rfl) ⟨Nat.zero_le _, Nat.zero_le _⟩ dX9_isLike_82 (fun H locs hP hD hS => ?_)
          refine lv_icmp_ne (tgt := 92) hx hb dX9_isLike_85 (by decide) (fun c_9 => ?_) (fun c_9 => ?_)
          · have hf := (if_neg c_9).symm.trans hf
            refine lv_iconst (v := (0 : Int32)) hx hb dX9_isLike_92 (by decide) ?_
            refine lv_istore_n (lv' := [(3, .int (0 : Int32)), (0, .ref (ad 13)), (1, .int v1), (2, .int v2), (4, .int v4), (5, .int v5), (6, .int v6)]) hx hb dX9_isLike_93 rfl hl (by decide) rfl (fun ls hl => ?_)
            refine lv_iinc (v := (v6 + (1 : Int32))) (lv' := [(6, .int (v6 + (1 : Int32))), (3, .int (0 : Int32)), (0, .ref (ad 13)), (1, .int v1), (2, .int v2), (4, .int v4), (5, .int v5)]) hx hb dX9_isLike_94 hl (k := 6) rfl (by first | rfl | decide) (by decide) rfl (fun ls hl => ?_)
            refine lv_goto (tgt := 33) hx hb dX9_isLike_97 (by decide) ?_
            exact ih _ _ _ _ _ hf hP hD hS (lv_sub hl [2, 3, 4, 1, 5, 6, 0] rfl)
          · have hf := (if_pos c_9).symm.trans hf
            refine lv_iconst (v := (1 : Int32)) hx hb dX9_isLike_88 (by decide) ?_
            refine lv_goto (tgt := 93) hx hb dX9_isLike_89 (by decide) ?_
            refine lv_istore_n (lv' := [(3, .int (1 : Int32)), (0, .ref (ad 13)), (1, .int v1), (2, .int v2), (4, .int v4), (5, .int v5), (6, .int v6)]) hx hb dX9_isLike_93 rfl hl (by decide) rfl (fun ls hl => ?_)
            refine lv_iinc (v := (v6 + (1 : Int32))) (lv' := [(6, .int (v6 + (1 : Int32))), (3, .int (1 : Int32)), (0, .ref (ad 13)), (1, .int v1), (2, .int v2), (4, .int v4), (5, .int v5)]) hx hb dX9_isLike_94 hl (k := 6) rfl (by first | rfl | decide) (by decide) rfl (fun ls hl => ?_)
            refine lv_goto (tgt := 33) hx hb dX9_isLike_97 (by decide) ?_
            exact ih _ _ _ _ _ hf hP hD hS (lv_sub hl [2, 3, 4, 1, 5, 6, 0] rfl)
  have L19 : ∀ (Q : State → Prop) (v1 : Int32) (v2 : Int32) (v4 : Int32) (I : SI) (J : SJ) (o : Int32), (∀ (w3 : Int32) (H : Heap) (locs : List Loc) (ls : Array Slot), o = w3 → va_P (dC, dI) vwCl ((wM ad cI cJ) I J) H → va_D A ((wM ad cI cJ) I J) → va_S A s.heap H locs → lv_has ls 7 [(0, .ref (ad 13)), (1, .int v1), (2, .int v2), (3, .int w3), (4, .int v4)] → W p l e ({ frames := 1, cells := 0, slots := 0, locals := 24 } : Room) s m args below meth c H locs 0 0 Q (F0 m 106 ls [])) → ∀ (n : Nat) (v3 : Int32) (v5 : Int32) (H : Heap) (locs : List Loc) (ls : Array Slot), lp_X9_isLike_19 v1 v2 v4 I n v3 v5 = some o → va_P (dC, dI) vwCl ((wM ad cI cJ) I J) H → va_D A ((wM ad cI cJ) I J) → va_S A s.heap H locs → lv_has ls 7 [(0, .ref (ad 13)), (1, .int v1), (2, .int v2), (3, .int v3), (4, .int v4), (5, .int v5)] → W p l e ({ frames := 1, cells := 0, slots := 0, locals := 24 } : Room) s m args below meth c H locs 0 0 Q (F0 m 19 ls []) := by
    intro Q v1 v2 v4 I J o K0 n
    clear hP hD hS hl
    induction n with
    | zero =>
      intro v3 v5 H locs ls hf
      rw [lp_X9_isLike_19.eq_1] at hf
      cases hf
    | succ n ih =>
      intro v3 v5 H locs ls hf hP hD hS hl
      rw [lp_X9_isLike_19.eq_2] at hf
      refine lv_iload hx hb dX9_isLike_19 (lv_at hl 5 rfl) ?_
      refine lv_aload_n hx hb dX9_isLike_21 rfl (lv_at hl 0 rfl) ?_
      refine va_get (D := (dC, dI)) (ci := 8) (v := .ref (ad 0)) (C := RX9) (T := TX9) (N := 15) hx hb hts in_X9 hown hK hP 13 (obM_13 ad cI cJ I J) rfl 0 (by decide) wd_0 (fun _ h9 => h9) rfl dX9_isLike_22 ?_
      refine lv_iload_n hx hb dX9_isLike_25 rfl (lv_at hl 1 rfl) ?_
      obtain ⟨h_10, hf⟩ := gd_some hf
      refine x_iald hx hb hK (aiM_0 ad cI cJ) hP h_10 dX9_isLike_26 ?_
      refine lv_icmp_ge (tgt := 106) hx hb dX9_isLike_27 (by decide) (fun c_11 => ?_) (fun c_11 => ?_)
      · have hf := (if_pos c_11).symm.trans hf
        exact K0 _ _ _ _ (Option.some.inj hf).symm hP hD hS (lv_sub hl [0, 1, 2, 3, 4] rfl)
      · have hf := (if_neg c_11).symm.trans hf
        refine lv_iconst (v := (0 : Int32)) hx hb dX9_isLike_30 (by decide) ?_
        refine lv_istore (lv' := [(6, .int (0 : Int32)), (0, .ref (ad 13)), (1, .int v1), (2, .int v2), (3, .int v3), (4, .int v4), (5, .int v5)]) hx hb dX9_isLike_31 hl (by decide) rfl (fun ls hl => ?_)
        obtain ⟨o_12, hg_12, hf⟩ := bd_some hf
        refine L33 _ v1 v2 v4 v5 I J o_12 ?_ FU v3 (0 : Int32) _ _ _ hg_12 hP hD hS (lv_sub hl [1, 2, 3, 4, 5, 6, 0] rfl)
        · intro w3_12 H locs ls ho hP hD hS hl
          subst o_12
          refine lv_iinc (v := (v5 + (1 : Int32))) (lv' := [(5, .int (v5 + (1 : Int32))), (0, .ref (ad 13)), (1, .int v1), (2, .int v2), (3, .int w3_12), (4, .int v4)]) hx hb dX9_isLike_100 hl (k := 5) rfl (by first | rfl | decide) (by decide) rfl (fun ls hl => ?_)
          refine lv_goto (tgt := 19) hx hb dX9_isLike_103 (by decide) ?_
          exact ih _ _ _ _ _ hf hP hD hS (lv_sub hl [1, 2, 3, 4, 5, 0] rfl)
  have L5 : ∀ (Q : State → Prop) (v1 : Int32) (v2 : Int32) (I : SI) (J : SJ) (o : Int32), (∀ (w3 : Int32) (H : Heap) (locs : List Loc) (ls : Array Slot), o = w3 → va_P (dC, dI) vwCl ((wM ad cI cJ) I J) H → va_D A ((wM ad cI cJ) I J) → va_S A s.heap H locs → lv_has ls 7 [(3, .int w3)] → W p l e ({ frames := 1, cells := 0, slots := 0, locals := 24 } : Room) s m args below meth c H locs 0 0 Q (F0 m 112 ls [])) → ∀ (n : Nat) (v3 : Int32) (v4 : Int32) (H : Heap) (locs : List Loc) (ls : Array Slot), lp_X9_isLike_5 v1 v2 I n v3 v4 = some o → va_P (dC, dI) vwCl ((wM ad cI cJ) I J) H → va_D A ((wM ad cI cJ) I J) → va_S A s.heap H locs → lv_has ls 7 [(0, .ref (ad 13)), (1, .int v1), (2, .int v2), (3, .int v3), (4, .int v4)] → W p l e ({ frames := 1, cells := 0, slots := 0, locals := 24 } : Room) s m args below meth c H locs 0 0 Q (F0 m 5 ls []) := by
    intro Q v1 v2 I J o K0 n
    clear hP hD hS hl
    induction n with
    | zero =>
      intro v3 v4 H locs ls hf
      rw [lp_X9_isLike_5.eq_1] at hf
      cases hf
    | succ n ih =>
      intro v3 v4 H locs ls hf hP hD hS hl
      rw [lp_X9_isLike_5.eq_2] at hf
      refine lv_iload hx hb dX9_isLike_5 (lv_at hl 4 rfl) ?_
      refine lv_aload_n hx hb dX9_isLike_7 rfl (lv_at hl 0 rfl) ?_
      refine va_get (D := (dC, dI)) (ci := 8) (v := .ref (ad 0)) (C := RX9) (T := TX9) (N := 15) hx hb hts in_X9 hown hK hP 13 (obM_13 ad cI cJ I J) rfl 0 (by decide) wd_0 (fun _ h9 => h9) rfl dX9_isLike_8 ?_
      refine lv_iload_n hx hb dX9_isLike_11 rfl (lv_at hl 1 rfl) ?_
      obtain ⟨h_13, hf⟩ := gd_some hf
      refine x_iald hx hb hK (aiM_0 ad cI cJ) hP h_13 dX9_isLike_12 ?_
      refine lv_icmp_ge (tgt := 112) hx hb dX9_isLike_13 (by decide) (fun c_14 => ?_) (fun c_14 => ?_)
      · have hf := (if_pos c_14).symm.trans hf
        exact K0 _ _ _ _ (Option.some.inj hf).symm hP hD hS (lv_sub hl [3] rfl)
      · have hf := (if_neg c_14).symm.trans hf
        refine lv_iconst (v := (0 : Int32)) hx hb dX9_isLike_16 (by decide) ?_
        refine lv_istore (lv' := [(5, .int (0 : Int32)), (0, .ref (ad 13)), (1, .int v1), (2, .int v2), (3, .int v3), (4, .int v4)]) hx hb dX9_isLike_17 hl (by decide) rfl (fun ls hl => ?_)
        obtain ⟨o_15, hg_15, hf⟩ := bd_some hf
        refine L19 _ v1 v2 v4 I J o_15 ?_ FU v3 (0 : Int32) _ _ _ hg_15 hP hD hS (lv_sub hl [1, 2, 3, 4, 5, 0] rfl)
        · intro w3_15 H locs ls ho hP hD hS hl
          subst o_15
          refine lv_iinc (v := (v4 + (1 : Int32))) (lv' := [(4, .int (v4 + (1 : Int32))), (0, .ref (ad 13)), (1, .int v1), (2, .int v2), (3, .int w3_15)]) hx hb dX9_isLike_106 hl (k := 4) rfl (by first | rfl | decide) (by decide) rfl (fun ls hl => ?_)
          refine lv_goto (tgt := 5) hx hb dX9_isLike_109 (by decide) ?_
          exact ih _ _ _ _ _ hf hP hD hS (lv_sub hl [1, 2, 3, 4, 0] rfl)
  unfold f_X9_isLike at hf
  refine lv_iconst (v := (1 : Int32)) hx hb dX9_isLike_0 (by decide) ?_
  refine lv_istore_n (lv' := [(3, .int (1 : Int32)), (0, .ref (ad 13)), (1, .int p1), (2, .int p2)]) hx hb dX9_isLike_1 rfl hl (by decide) rfl (fun ls hl => ?_)
  refine lv_iconst (v := (0 : Int32)) hx hb dX9_isLike_2 (by decide) ?_
  refine lv_istore (lv' := [(4, .int (0 : Int32)), (3, .int (1 : Int32)), (0, .ref (ad 13)), (1, .int p1), (2, .int p2)]) hx hb dX9_isLike_3 hl (by decide) rfl (fun ls hl => ?_)
  obtain ⟨o_16, hg_16, hf⟩ := bd_some hf
  refine L5 _ p1 p2 I J o_16 ?_ FU (1 : Int32) (0 : Int32) _ _ _ hg_16 hP hD hS (lv_sub hl [2, 3, 4, 1, 0] rfl)
  · intro w3_16 H locs ls ho hP hD hS hl
    subst o_16
    refine lv_iload_n hx hb dX9_isLike_112 rfl (lv_at hl 0 rfl) ?_
    obtain ⟨h_17, hf⟩ := gd_some hf
    cases hf
    exact xRz hx hb hr hlocks (nz h_17) hK hP hD hS (fun _ h => h) dX9_isLike_113
set_option maxHeartbeats 4000000 in
set_option maxRecDepth 100000 in
theorem c_X9_like (l : Launch) (dC : Nat → ClassId) (dI : Nat → Nat → Nat) (ad : Nat → Nat) (cI cJ cT : ClassId) (p1 : Int32) (p2 : Int32) (I : SI) (J : SJ) {r0 : Int32} {I0 : SI} (hf : f_X9_like p1 p2 I = some (r0, I0)) : CtI l yX9_like wsX9_like ({ frames := 2, cells := 0, slots := 0, locals := 50 } : Room) (dC, dI) (tys3 cI cJ cT) (wM ad cI cJ) [.ref (ad 13), .int p1, .int p2] I J r0 I0 J := by
  intro sz
  refine Met.ofW (cc := cX9_like) (maxL := 7) (ret := (some .int)) (by decide) rfl ?_
  intro p e s m args below meth c s₁ B hml hv
  obtain ⟨hargs, hsz, hP, hK, hD0⟩ := hv
  have hx := B.exec
  have hb := B.bytes
  have hr := B.returns
  have hts := atoms_spec (ws := wsX9_like) B.pre
  have hown : s.vm.findClass RX9 = some m.cls := findClass_of_methodNamed B.named
  have hlocks := B.notSynchronized
  subst hsz
  have hD := hD0.self (sz := s.heap.size)
  generalize hAe : va_A ((wM ad cI cJ) I J) s.heap.size = A at hD ⊢
  have hA : ∀ q : Nat, s.heap.size ≤ q → A q := fun q h => by rw [← hAe]; exact Or.inr h
  have hS : va_S A s.heap s.heap [] := va_S.rf
  have hl := lv_entry ([.ref (ad 13), .int p1, .int p2]) (n := 7) (Nat.le_of_ble_eq_true rfl)
  rw [hargs, lg_entry_eq, ← hargs]
  generalize (lg_sl ([.ref (ad 13), .int p1, .int p2]) ++ List.replicate (7 - (lg_sl ([.ref (ad 13), .int p1, .int p2])).length) Slot.unset).toArray = ls at hl ⊢
  have hl : lv_has ls 7 [(0, .ref (ad 13)), (1, .int p1), (2, .int p2)] := hl
  have hfix : CallFix p m c cX9_like 7 s args wsX9_like RX9 := ⟨hx, hb, hml, hown, hts⟩
  have in_X9 : ∀ w ∈ u_ws RX9 TX9 15, w ∈ wsX9_like := by decide +kernel
  have wd_0 := hts (.fieldLink RX9 7 "FuseBenchModel" "ranks" "[I") (by decide +kernel)
  have L42 : ∀ (Q : State → Prop) (v1 : Int32) (v2 : Int32) (v3 : Int32) (I : SI) (J : SJ) (o : Int32), (∀ (w4 : Int32) (H : Heap) (locs : List Loc) (ls : Array Slot), o = w4 → va_P (dC, dI) vwCl ((wM ad cI cJ) I J) H → va_D A ((wM ad cI cJ) I J) → va_S A s.heap H locs → lv_has ls 7 [(0, .ref (ad 13)), (1, .int v1), (2, .int v2), (3, .int v3), (4, .int w4)] → W p l e ({ frames := 2, cells := 0, slots := 0, locals := 50 } : Room) s m args below meth c H locs 0 0 Q (F0 m 60 ls [])) → ∀ (n : Nat) (v4 : Int32) (v5 : Int32) (H : Heap) (locs : List Loc) (ls : Array Slot), lp_X9_like_42 v1 v2 v3 n v4 v5 = some o → va_P (dC, dI) vwCl ((wM ad cI cJ) I J) H → va_D A ((wM ad cI cJ) I J) → va_S A s.heap H locs → lv_has ls 7 [(0, .ref (ad 13)), (1, .int v1), (2, .int v2), (3, .int v3), (4, .int v4), (5, .int v5)] → W p l e ({ frames := 2, cells := 0, slots := 0, locals := 50 } : Room) s m args below meth c H locs 0 0 Q (F0 m 42 ls []) := by
    intro Q v1 v2 v3 I J o K0 n
    clear hP hD hS hl
    induction n with
    | zero =>
      intro v4 v5 H locs ls hf
      rw [lp_X9_like_42.eq_1] at hf
      cases hf
    | succ n ih =>
      intro v4 v5 H locs ls hf hP hD hS hl
      rw [lp_X9_like_42.eq_2] at hf
      refine lv_iload hx hb dX9_like_42 (lv_at hl 5 rfl) ?_
      refine lv_iload_n hx hb dX9_like_44 rfl (lv_at hl 3 rfl) ?_
      refine lv_icmp_ge (tgt := 60) hx hb dX9_like_45 (by decide) (fun c_1 => ?_) (fun c_1 => ?_)
      · have hf := (if_pos c_1).symm.trans hf
        exact K0 _ _ _ _ (Option.some.inj hf).symm hP hD hS (lv_sub hl [0, 1, 2, 3, 4] rfl)
      · have hf := (if_neg c_1).symm.trans hf
        refine lv_iload hx hb dX9_like_48 (lv_at hl 4 rfl) ?_
        refine lv_iload_n hx hb dX9_like_50 rfl (lv_at hl 3 rfl) ?_
        refine lv_imul hx hb dX9_like_51 ?_
        refine lv_istore (lv' := [(4, .int (v4 * v3)), (0, .ref (ad 13)), (1, .int v1), (2, .int v2), (3, .int v3), (5, .int v5)]) hx hb dX9_like_52 hl (by decide) rfl (fun ls hl => ?_)
        refine lv_iinc (v := (v5 + (1 : Int32))) (lv' := [(5, .int (v5 + (1 : Int32))), (4, .int (v4 * v3)), (0, .ref (ad 13)), (1, .int v1), (2, .int v2), (3, .int v3)]) hx hb dX9_like_54 hl (k := 5) rfl (by first | rfl | decide) (by decide) rfl (fun ls hl => ?_)
        refine lv_goto (tgt := 42) hx hb dX9_like_57 (by decide) ?_
        exact ih _ _ _ _ _ hf hP hD hS (lv_sub hl [2, 3, 4, 5, 1, 0] rfl)
  have L66 : ∀ (Q : State → Prop) (v1 : Int32) (v2 : Int32) (v3 : Int32) (v4 : Int32) (J : SJ) (o : Int32 × SI), (∀ (w5 : Int32) (I : SI) (H : Heap) (locs : List Loc) (ls : Array Slot), o = (w5, I) → va_P (dC, dI) vwCl ((wM ad cI cJ) I J) H → va_D A ((wM ad cI cJ) I J) → va_S A s.heap H locs → lv_has ls 7 [(5, .int w5)] → W p l e ({ frames := 2, cells := 0, slots := 0, locals := 50 } : Room) s m args below meth c H locs 0 0 Q (F0 m 108 ls [])) → ∀ (n : Nat) (v5 : Int32) (v6 : Int32) (I : SI) (H : Heap) (locs : List Loc) (ls : Array Slot), lp_X9_like_66 v1 v2 v3 v4 n v5 v6 I = some o → va_P (dC, dI) vwCl ((wM ad cI cJ) I J) H → va_D A ((wM ad cI cJ) I J) → va_S A s.heap H locs → lv_has ls 7 [(0, .ref (ad 13)), (1, .int v1), (2, .int v2), (3, .int v3), (4, .int v4), (5, .int v5), (6, .int v6)] → W p l e ({ frames := 2, cells := 0, slots := 0, locals := 50 } : Room) s m args below meth c H locs 0 0 Q (F0 m 66 ls []) := by
    intro Q v1 v2 v3 v4 J o K0 n
    clear hP hD hS hl
    induction n with
    | zero =>
      intro v5 v6 I H locs ls hf
      rw [lp_X9_like_66.eq_1] at hf
      cases hf
    | succ n ih =>
      intro v5 v6 I H locs ls hf hP hD hS hl
      rw [lp_X9_like_66.eq_2] at hf
      refine lv_iload hx hb dX9_like_66 (lv_at hl 6 rfl) ?_
      refine lv_iload hx hb dX9_like_68 (lv_at hl 4 rfl) ?_
      refine lv_icmp_ge (tgt := 108) hx hb dX9_like_70 (by decide) (fun c_2 => ?_) (fun c_2 => ?_)
      · have hf := (if_pos c_2).symm.trans hf
        exact K0 _ _ _ _ _ (Option.some.inj hf).symm hP hD hS (lv_sub hl [5] rfl)
      · have hf := (if_neg c_2).symm.trans hf
        refine lv_iload hx hb dX9_like_73 (lv_at hl 5 rfl) ?_
        refine lv_aload_n hx hb dX9_like_75 rfl (lv_at hl 0 rfl) ?_
        refine lv_iload_n hx hb dX9_like_76 rfl (lv_at hl 3 rfl) ?_
        refine lv_iload hx hb dX9_like_77 (lv_at hl 6 rfl) ?_
        obtain ⟨⟨r_3, I_3⟩, hg_3, hf⟩ := bd_some hf
        refine xVi (rest := [.int v5]) (c_X9_layNaming l dC dI ad cI cJ cT v3 v6 I J hg_3) hfix (cwV 2 hts gX9_like_X9_layNaming rfl rfl rfl (by decide +kernel) ⟨Nat.le_of_ble_eq_true rfl, Nat.le_of_ble_eq_true rfl⟩) hK hP hD hS hA (va_recv hK hP (ci := 8) (q0 := 13) rfl (obM_13 ad cI cJ I J)) rfl hl.1 rfl (Nat.le_of_ble_eq_true rfl) ⟨Nat.zero_le _, Nat.zero_le _⟩ dX9_like_79 (fun H locs hP hD hS => ?_)
        refine lv_if_eq (tgt := 98) hx hb dX9_like_82 (by decide) (fun c_4 => ?_) (fun c_4 => ?_)
        · have hf := (if_pos c_4).symm.trans hf
          refine lv_iconst (v := (0 : Int32)) hx hb dX9_like_98 (by decide) ?_
          refine lv_iadd hx hb dX9_like_99 ?_
          refine lv_istore (lv' := [(5, .int (v5 + (0 : Int32))), (0, .ref (ad 13)), (1, .int v1), (2, .int v2), (3, .int v3), (4, .int v4), (6, .int v6)]) hx hb dX9_like_100 hl (by decide) rfl (fun ls hl => ?_)
          refine lv_iinc (v := (v6 + (1 : Int32))) (lv' := [(6, .int (v6 + (1 : Int32))), (5, .int (v5 + (0 : Int32))), (0, .ref (ad 13)), (1, .int v1), (2, .int v2), (3, .int v3), (4, .int v4)]) hx hb dX9_like_102 hl (k := 6) rfl (by first | rfl | decide) (by decide) rfl (fun ls hl => ?_)
          refine lv_goto (tgt := 66) hx hb dX9_like_105 (by decide) ?_
          exact ih _ _ _ _ _ _ hf hP hD hS (lv_sub hl [2, 3, 4, 5, 6, 1, 0] rfl)
        · have hf := (if_neg c_4).symm.trans hf
          refine lv_aload_n hx hb dX9_like_85 rfl (lv_at hl 0 rfl) ?_
          refine lv_iload_n hx hb dX9_like_86 rfl (lv_at hl 1 rfl) ?_
          refine lv_iload_n hx hb dX9_like_87 rfl (lv_at hl 2 rfl) ?_
          obtain ⟨r_5, hg_5, hf⟩ := bd_some hf
          refine xVi (rest := [.int v5]) (c_X9_isLike l dC dI ad cI cJ cT v1 v2 I_3 J hg_5) hfix (cwV 2 hts gX9_like_X9_isLike rfl rfl rfl (by decide +kernel) ⟨Nat.le_of_ble_eq_true rfl, Nat.le_of_ble_eq_true rfl⟩) hK hP hD hS hA (va_recv hK hP (ci := 8) (q0 := 13) rfl (obM_13 ad cI cJ I_3 J)) rfl hl.1 rfl (Nat.le_of_ble_eq_true rfl) ⟨Nat.zero_le _, Nat.zero_le _⟩ dX9_like_88 (fun H locs hP hD hS => ?_)
          refine lv_if_eq (tgt := 98) hx hb dX9_like_91 (by decide) (fun c_6 => ?_) (fun c_6 => ?_)
          · have hf := (if_pos c_6).symm.trans hf
            refine lv_iconst (v := (0 : Int32)) hx hb dX9_like_98 (by decide) ?_
            refine lv_iadd hx hb dX9_like_99 ?_
            refine lv_istore (lv' := [(5, .int (v5 + (0 : Int32))), (0, .ref (ad 13)), (1, .int v1), (2, .int v2), (3, .int v3), (4, .int v4), (6, .int v6)]) hx hb dX9_like_100 hl (by decide) rfl (fun ls hl => ?_)
            refine lv_iinc (v := (v6 + (1 : Int32))) (lv' := [(6, .int (v6 + (1 : Int32))), (5, .int (v5 + (0 : Int32))), (0, .ref (ad 13)), (1, .int v1), (2, .int v2), (3, .int v3), (4, .int v4)]) hx hb dX9_like_102 hl (k := 6) rfl (by first | rfl | decide) (by decide) rfl (fun ls hl => ?_)
            refine lv_goto (tgt := 66) hx hb dX9_like_105 (by decide) ?_
            exact ih _ _ _ _ _ _ hf hP hD hS (lv_sub hl [2, 3, 4, 5, 6, 1, 0] rfl)
          · have hf := (if_neg c_6).symm.trans hf
            refine lv_iconst (v := (1 : Int32)) hx hb dX9_like_94 (by decide) ?_
            refine lv_goto (tgt := 99) hx hb dX9_like_95 (by decide) ?_
            refine lv_iadd hx hb dX9_like_99 ?_
            refine lv_istore (lv' := [(5, .int (v5 + (1 : Int32))), (0, .ref (ad 13)), (1, .int v1), (2, .int v2), (3, .int v3), (4, .int v4), (6, .int v6)]) hx hb dX9_like_100 hl (by decide) rfl (fun ls hl => ?_)
            refine lv_iinc (v := (v6 + (1 : Int32))) (lv' := [(6, .int (v6 + (1 : Int32))), (5, .int (v5 + (1 : Int32))), (0, .ref (ad 13)), (1, .int v1), (2, .int v2), (3, .int v3), (4, .int v4)]) hx hb dX9_like_102 hl (k := 6) rfl (by first | rfl | decide) (by decide) rfl (fun ls hl => ?_)
            refine lv_goto (tgt := 66) hx hb dX9_like_105 (by decide) ?_
            exact ih _ _ _ _ _ _ hf hP hD hS (lv_sub hl [2, 3, 4, 5, 6, 1, 0] rfl)
  unfold f_X9_like at hf
  refine lv_iload_n hx hb dX9_like_0 rfl (lv_at hl 1 rfl) ?_
  obtain ⟨r_7, hg_7, hf⟩ := bd_some hf
  refine xSi (rest := []) (c_X9_noTable l dC dI ad cI cJ cT p1 I J hg_7) hfix (va_cwS 1 hts gX9_like_X9_noTable rfl rfl rfl (by decide +kernel) ⟨Nat.le_of_ble_eq_true rfl, Nat.le_of_ble_eq_true rfl⟩) hK hP hD hS hA rfl hl.1 rfl (Nat.le_of_ble_eq_true rfl) ⟨Nat.zero_le _, Nat.zero_le _⟩ dX9_like_1 (fun H locs hP hD hS => ?_)
  refine lv_if_ne (tgt := 14) hx hb dX9_like_4 (by decide) (fun c_8 => ?_) (fun c_8 => ?_)
  · have hf := (if_neg c_8).symm.trans hf
    refine lv_bipush (v := (-2 : Int32)) hx hb dX9_like_14 (by decide) ?_
    cases hf
    exact xRi hx hb hr hlocks hK hP hD hS (fun _ h => h) dX9_like_16
  · have hf := (if_pos c_8).symm.trans hf
    refine lv_iload_n hx hb dX9_like_7 rfl (lv_at hl 2 rfl) ?_
    obtain ⟨r_9, hg_9, hf⟩ := bd_some hf
    refine xSi (rest := []) (c_X9_noTable l dC dI ad cI cJ cT p2 I J hg_9) hfix (va_cwS 1 hts gX9_like_X9_noTable rfl rfl rfl (by decide +kernel) ⟨Nat.le_of_ble_eq_true rfl, Nat.le_of_ble_eq_true rfl⟩) hK hP hD hS hA rfl hl.1 rfl (Nat.le_of_ble_eq_true rfl) ⟨Nat.zero_le _, Nat.zero_le _⟩ dX9_like_8 (fun H locs hP hD hS => ?_)
    refine lv_if_eq (tgt := 17) hx hb dX9_like_11 (by decide) (fun c_10 => ?_) (fun c_10 => ?_)
    · have hf := (if_pos c_10).symm.trans hf
      refine lv_aload_n hx hb dX9_like_17 rfl (lv_at hl 0 rfl) ?_
      refine va_get (D := (dC, dI)) (ci := 8) (v := .ref (ad 0)) (C := RX9) (T := TX9) (N := 15) hx hb hts in_X9 hown hK hP 13 (obM_13 ad cI cJ I J) rfl 0 (by decide) wd_0 (fun _ h9 => h9) rfl dX9_like_18 ?_
      refine lv_iload_n hx hb dX9_like_21 rfl (lv_at hl 1 rfl) ?_
      obtain ⟨h_11, hf⟩ := gd_some hf
      refine x_iald hx hb hK (aiM_0 ad cI cJ) hP h_11 dX9_like_22 ?_
      refine lv_istore_n (lv' := [(3, .int (I 0 p1.toNatClampNeg)), (0, .ref (ad 13)), (1, .int p1), (2, .int p2)]) hx hb dX9_like_23 rfl hl (by decide) rfl (fun ls hl => ?_)
      refine lv_iload_n hx hb dX9_like_24 rfl (lv_at hl 0 rfl) ?_
      refine lv_aload_n hx hb dX9_like_25 rfl (lv_at hl 1 rfl) ?_
      refine va_get (D := (dC, dI)) (ci := 8) (v := .ref (ad 0)) (C := RX9) (T := TX9) (N := 15) hx hb hts in_X9 hown hK hP 13 (obM_13 ad cI cJ I J) rfl 0 (by decide) wd_0 (fun _ h9 => h9) rfl dX9_like_26 ?_
      refine lv_iload_n hx hb dX9_like_29 rfl (lv_at hl 3 rfl) ?_
      obtain ⟨h_12, hf⟩ := gd_some hf
      refine x_iald hx hb hK (aiM_0 ad cI cJ) hP h_12 dX9_like_30 ?_
      refine lv_icmp_eq (tgt := 36) hx hb dX9_like_31 (by decide) (fun c_13 => ?_) (fun c_13 => ?_)
      · have hf := (if_pos c_13).symm.trans hf
        refine lv_iconst (v := (1 : Int32)) hx hb dX9_like_36 (by decide) ?_
        refine lv_istore (lv' := [(4, .int (1 : Int32)), (3, .int (I 0 p1.toNatClampNeg)), (0, .ref (ad 13)), (1, .int p1), (2, .int p2)]) hx hb dX9_like_37 hl (by decide) rfl (fun ls hl => ?_)
        refine lv_iconst (v := (1 : Int32)) hx hb dX9_like_39 (by decide) ?_
        refine lv_istore (lv' := [(5, .int (1 : Int32)), (4, .int (1 : Int32)), (3, .int (I 0 p1.toNatClampNeg)), (0, .ref (ad 13)), (1, .int p1), (2, .int p2)]) hx hb dX9_like_40 hl (by decide) rfl (fun ls hl => ?_)
        obtain ⟨o_14, hg_14, hf⟩ := bd_some hf
        refine L42 _ p1 p2 (I 0 p1.toNatClampNeg) I J o_14 ?_ FU (1 : Int32) (1 : Int32) _ _ _ hg_14 hP hD hS (lv_sub hl [3, 4, 5, 2, 1, 0] rfl)
        · intro w4_14 H locs ls ho hP hD hS hl
          subst o_14
          refine lv_iconst (v := (0 : Int32)) hx hb dX9_like_60 (by decide) ?_
          refine lv_istore (lv' := [(5, .int (0 : Int32)), (0, .ref (ad 13)), (1, .int p1), (2, .int p2), (3, .int (I 0 p1.toNatClampNeg)), (4, .int w4_14)]) hx hb dX9_like_61 hl (by decide) rfl (fun ls hl => ?_)
          refine lv_iconst (v := (0 : Int32)) hx hb dX9_like_63 (by decide) ?_
          refine lv_istore (lv' := [(6, .int (0 : Int32)), (5, .int (0 : Int32)), (0, .ref (ad 13)), (1, .int p1), (2, .int p2), (3, .int (I 0 p1.toNatClampNeg)), (4, .int w4_14)]) hx hb dX9_like_64 hl (by decide) rfl (fun ls hl => ?_)
          obtain ⟨o_15, hg_15, hf⟩ := bd_some hf
          refine L66 _ p1 p2 (I 0 p1.toNatClampNeg) w4_14 J o_15 ?_ FU (0 : Int32) (0 : Int32) I _ _ _ hg_15 hP hD hS (lv_sub hl [2, 3, 4, 5, 6, 1, 0] rfl)
          · intro w5_15 I_15 H locs ls ho hP hD hS hl
            subst o_15
            refine lv_iload hx hb dX9_like_108 (lv_at hl 0 rfl) ?_
            cases hf
            exact xRi hx hb hr hlocks hK hP hD hS (fun _ h => h) dX9_like_110
      · have hf := (if_neg c_13).symm.trans hf
        refine lv_iconst (v := (0 : Int32)) hx hb dX9_like_34 (by decide) ?_
        cases hf
        exact xRi hx hb hr hlocks hK hP hD hS (fun _ h => h) dX9_like_35
    · have hf := (if_neg c_10).symm.trans hf
      refine lv_bipush (v := (-2 : Int32)) hx hb dX9_like_14 (by decide) ?_
      cases hf
      exact xRi hx hb hr hlocks hK hP hD hS (fun _ h => h) dX9_like_16
set_option maxHeartbeats 4000000 in
set_option maxRecDepth 100000 in
theorem c_X9_isPrime (l : Launch) (dC : Nat → ClassId) (dI : Nat → Nat → Nat) (ad : Nat → Nat) (cI cJ cT : ClassId) (p0 : Int32) (I : SI) (J : SJ) {r0 : Int32} (hf : f_X9_isPrime p0 = some r0) : CtI l yX9_isPrime wsX9_isPrime ({ frames := 0, cells := 0, slots := 0, locals := 0 } : Room) (dC, dI) (tys3 cI cJ cT) (wM ad cI cJ) [.int p0] I J r0 I J := by
  intro sz
  refine Met.ofW (cc := cX9_isPrime) (maxL := 1) (ret := (some .boolean)) (by decide) rfl ?_
  intro p e s m args below meth c s₁ B hml hv
  obtain ⟨hargs, hsz, hP, hK, hD0⟩ := hv
  have hx := B.exec
  have hb := B.bytes
  have hr := B.returns
  have hts := atoms_spec (ws := wsX9_isPrime) B.pre
  have hown : s.vm.findClass RX9 = some m.cls := findClass_of_methodNamed B.named
  have hlocks := B.notSynchronized
  subst hsz
  have hD := hD0.self (sz := s.heap.size)
  generalize hAe : va_A ((wM ad cI cJ) I J) s.heap.size = A at hD ⊢
  have hA : ∀ q : Nat, s.heap.size ≤ q → A q := fun q h => by rw [← hAe]; exact Or.inr h
  have hS : va_S A s.heap s.heap [] := va_S.rf
  have hl := lv_entry ([.int p0]) (n := 1) (Nat.le_of_ble_eq_true rfl)
  rw [hargs, lg_entry_eq, ← hargs]
  generalize (lg_sl ([.int p0]) ++ List.replicate (1 - (lg_sl ([.int p0])).length) Slot.unset).toArray = ls at hl ⊢
  have hl : lv_has ls 1 [(0, .int p0)] := hl
  have hfix : CallFix p m c cX9_isPrime 1 s args wsX9_isPrime RX9 := ⟨hx, hb, hml, hown, hts⟩
  unfold f_X9_isPrime at hf
  refine lv_iload_n hx hb dX9_isPrime_0 rfl (lv_at hl 0 rfl) ?_
  refine lv_iconst (v := (2 : Int32)) hx hb dX9_isPrime_1 (by decide) ?_
  refine lv_icmp_eq (tgt := 33) hx hb dX9_isPrime_2 (by decide) (fun c_1 => ?_) (fun c_1 => ?_)
  · have hf := (if_pos c_1).symm.trans hf
    refine lv_iconst (v := (1 : Int32)) hx hb dX9_isPrime_33 (by decide) ?_
    refine lv_goto (tgt := 38) hx hb dX9_isPrime_34 (by decide) ?_
    cases hf
    exact xRz hx hb hr hlocks rfl hK hP hD hS (fun _ h => h) dX9_isPrime_38
  · have hf := (if_neg c_1).symm.trans hf
    refine lv_iload_n hx hb dX9_isPrime_5 rfl (lv_at hl 0 rfl) ?_
    refine lv_iconst (v := (3 : Int32)) hx hb dX9_isPrime_6 (by decide) ?_
    refine lv_icmp_eq (tgt := 33) hx hb dX9_isPrime_7 (by decide) (fun c_2 => ?_) (fun c_2 => ?_)
    · have hf := (if_pos c_2).symm.trans hf
      refine lv_iconst (v := (1 : Int32)) hx hb dX9_isPrime_33 (by decide) ?_
      refine lv_goto (tgt := 38) hx hb dX9_isPrime_34 (by decide) ?_
      cases hf
      exact xRz hx hb hr hlocks rfl hK hP hD hS (fun _ h => h) dX9_isPrime_38
    · have hf := (if_neg c_2).symm.trans hf
      refine lv_iload_n hx hb dX9_isPrime_10 rfl (lv_at hl 0 rfl) ?_
      refine lv_iconst (v := (5 : Int32)) hx hb dX9_isPrime_11 (by decide) ?_
      refine lv_icmp_eq (tgt := 33) hx hb dX9_isPrime_12 (by decide) (fun c_3 => ?_) (fun c_3 => ?_)
      · have hf := (if_pos c_3).symm.trans hf
        refine lv_iconst (v := (1 : Int32)) hx hb dX9_isPrime_33 (by decide) ?_
        refine lv_goto (tgt := 38) hx hb dX9_isPrime_34 (by decide) ?_
        cases hf
        exact xRz hx hb hr hlocks rfl hK hP hD hS (fun _ h => h) dX9_isPrime_38
      · have hf := (if_neg c_3).symm.trans hf
        refine lv_iload_n hx hb dX9_isPrime_15 rfl (lv_at hl 0 rfl) ?_
        refine lv_bipush (v := (7 : Int32)) hx hb dX9_isPrime_16 (by decide) ?_
        refine lv_icmp_eq (tgt := 33) hx hb dX9_isPrime_18 (by decide) (fun c_4 => ?_) (fun c_4 => ?_)
        · have hf := (if_pos c_4).symm.trans hf
          refine lv_iconst (v := (1 : Int32)) hx hb dX9_isPrime_33 (by decide) ?_
          refine lv_goto (tgt := 38) hx hb dX9_isPrime_34 (by decide) ?_
          cases hf
          exact xRz hx hb hr hlocks rfl hK hP hD hS (fun _ h => h) dX9_isPrime_38
        · have hf := (if_neg c_4).symm.trans hf
          refine lv_iload_n hx hb dX9_isPrime_21 rfl (lv_at hl 0 rfl) ?_
          refine lv_bipush (v := (11 : Int32)) hx hb dX9_isPrime_22 (by decide) ?_
          refine lv_icmp_eq (tgt := 33) hx hb dX9_isPrime_24 (by decide) (fun c_5 => ?_) (fun c_5 => ?_)
          · have hf := (if_pos c_5).symm.trans hf
            refine lv_iconst (v := (1 : Int32)) hx hb dX9_isPrime_33 (by decide) ?_
            refine lv_goto (tgt := 38) hx hb dX9_isPrime_34 (by decide) ?_
            cases hf
            exact xRz hx hb hr hlocks rfl hK hP hD hS (fun _ h => h) dX9_isPrime_38
          · have hf := (if_neg c_5).symm.trans hf
            refine lv_iload_n hx hb dX9_isPrime_27 rfl (lv_at hl 0 rfl) ?_
            refine lv_bipush (v := (13 : Int32)) hx hb dX9_isPrime_28 (by decide) ?_
            refine lv_icmp_ne (tgt := 37) hx hb dX9_isPrime_30 (by decide) (fun c_6 => ?_) (fun c_6 => ?_)
            · have hf := (if_neg c_6).symm.trans hf
              refine lv_iconst (v := (0 : Int32)) hx hb dX9_isPrime_37 (by decide) ?_
              cases hf
              exact xRz hx hb hr hlocks rfl hK hP hD hS (fun _ h => h) dX9_isPrime_38
            · have hf := (if_pos c_6).symm.trans hf
              refine lv_iconst (v := (1 : Int32)) hx hb dX9_isPrime_33 (by decide) ?_
              refine lv_goto (tgt := 38) hx hb dX9_isPrime_34 (by decide) ?_
              cases hf
              exact xRz hx hb hr hlocks rfl hK hP hD hS (fun _ h => h) dX9_isPrime_38
