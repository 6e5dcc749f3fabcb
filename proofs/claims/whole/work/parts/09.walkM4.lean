set_option maxHeartbeats 4000000 in
set_option maxRecDepth 100000 in
theorem c_X9_isMap (l : Launch) (dC : Nat → ClassId) (dI : Nat → Nat → Nat) (ad : Nat → Nat) (cI cJ cT : ClassId) (p1 : Int32) (p2 : Int32) (I : SI) (J : SJ) {r0 : Int32} (hf : f_X9_isMap p1 p2 I = some r0) : CtI l yX9_isMap wsX9_isMap ({ frames := 1, cells := 0, slots := 0, locals := 24 } : Room) (dC, dI) (tys3 cI cJ cT) (wM ad cI cJ) [.ref (ad 13), .int p1, .int p2] I J r0 I J := by
  intro sz
  refine Met.ofW (cc := cX9_isMap) (maxL := 7) (ret := (some .boolean)) (by decide) rfl ?_
  intro p e s m args below meth c s₁ B hml hv
  obtain ⟨hargs, hsz, hP, hK, hD0⟩ := hv
  have hx := B.exec
  have hb := B.bytes
  have hr := B.returns
  have hts := atoms_spec (ws := wsX9_isMap) B.pre
  have hown : s.vm.findClass RX9 = some m.cls := findClass_of_methodNamed B.named
  have hlocks := B.notSynchronized
  subst hsz
  have hD := hD0.self (sz := s.heap.size)
  generalize hAe : va_A ((wM ad cI cJ) I J) s.heap.size = A at hD ⊢
  have hA : ∀ q : Nat, s.heap.size ≤ q → A q := fun q h => by rw [← hAe]; exact Or.inr h
  have hS : va_S A s.heap s.heap [] := va_S.rf
  have hl := lv_entry ([.ref (ad 13), .int p1, .int p2]) (n := 7) (Nat.le_of_ble_eq_true rfl)
  rw [hargs, lg_entry_eq, ← hargs]
  generalize (lg_sl ([.ref (ad 13), .int p1, .int p2]) ++ List.replicate (7 - (lg_sl ([.ref (ad 13), .int p1, .int p2])).length) Slot.unset).toArray = ls at hl ⊢
  have hl : lv_has ls 7 [(0, .ref (ad 13)), (1, .int p1), (2, .int p2)] := hl
  have hfix : CallFix p m c cX9_isMap 7 s args wsX9_isMap RX9 := ⟨hx, hb, hml, hown, hts⟩
  have in_X9 : ∀ w ∈ u_ws RX9 TX9 15, w ∈ wsX9_isMap := by decide +kernel
  have wd_0 := hts (.fieldLink RX9 7 "FuseBenchModel" "ranks" "[I") (by decide +kernel)
  have wd_1 := hts (.fieldLink RX9 41 "FuseBenchModel" "u" "[I") (by decide +kernel)
  have L45 : ∀ (Q : State → Prop) (v1 : Int32) (v2 : Int32) (v3 : Int32) (v4 : Int32) (I : SI) (J : SJ) (o : Int32), (∀ (w5 : Int32) (H : Heap) (locs : List Loc) (ls : Array Slot), o = w5 → va_P (dC, dI) vwCl ((wM ad cI cJ) I J) H → va_D A ((wM ad cI cJ) I J) → va_S A s.heap H locs → lv_has ls 7 [(0, .ref (ad 13)), (1, .int v1), (2, .int v2), (3, .int v3), (4, .int v4), (5, .int w5)] → W p l e ({ frames := 1, cells := 0, slots := 0, locals := 24 } : Room) s m args below meth c H locs 0 0 Q (F0 m 85 ls [])) → ∀ (n : Nat) (v5 : Int32) (v6 : Int32) (H : Heap) (locs : List Loc) (ls : Array Slot), lp_X9_isMap_45 v1 v2 v3 v4 I n v5 v6 = some o → va_P (dC, dI) vwCl ((wM ad cI cJ) I J) H → va_D A ((wM ad cI cJ) I J) → va_S A s.heap H locs → lv_has ls 7 [(0, .ref (ad 13)), (1, .int v1), (2, .int v2), (3, .int v3), (4, .int v4), (5, .int v5), (6, .int v6)] → W p l e ({ frames := 1, cells := 0, slots := 0, locals := 24 } : Room) s m args below meth c H locs 0 0 Q (F0 m 45 ls []) := by
    intro Q v1 v2 v3 v4 I J o K0 n
    clear hP hD hS hl
    induction n with
    | zero =>
      intro v5 v6 H locs ls hf
      rw [lp_X9_isMap_45.eq_1] at hf
      cases hf
    | succ n ih =>
      intro v5 v6 H locs ls hf hP hD hS hl
      rw [lp_X9_isMap_45.eq_2] at hf
      refine lv_iload hx hb dX9_isMap_45 (lv_at hl 6 rfl) ?_
      refine lv_aload_n hx hb dX9_isMap_47 rfl (lv_at hl 0 rfl) ?_
      refine va_get (D := (dC, dI)) (ci := 8) (v := .ref (ad 0)) (C := RX9) (T := TX9) (N := 15) hx hb hts in_X9 hown hK hP 13 (obM_13 ad cI cJ I J) rfl 0 (by decide) wd_0 (fun _ h9 => h9) rfl dX9_isMap_48 ?_
      refine lv_iload_n hx hb dX9_isMap_51 rfl (lv_at hl 1 rfl) ?_
      obtain ⟨h_1, hf⟩ := gd_some hf
      refine x_iald hx hb hK (aiM_0 ad cI cJ) hP h_1 dX9_isMap_52 ?_
      refine lv_icmp_ge (tgt := 85) hx hb dX9_isMap_53 (by decide) (fun c_2 => ?_) (fun c_2 => ?_)
      · have hf := (if_pos c_2).symm.trans hf
        exact K0 _ _ _ _ (Option.some.inj hf).symm hP hD hS (lv_sub hl [0, 1, 2, 3, 4, 5] rfl)
      · have hf := (if_neg c_2).symm.trans hf
        refine lv_iload hx hb dX9_isMap_56 (lv_at hl 5 rfl) ?_
        refine lv_aload_n hx hb dX9_isMap_58 rfl (lv_at hl 0 rfl) ?_
        refine lv_iload_n hx hb dX9_isMap_59 rfl (lv_at hl 1 rfl) ?_
        refine lv_iload_n hx hb dX9_isMap_60 rfl (lv_at hl 3 rfl) ?_
        refine lv_iload hx hb dX9_isMap_61 (lv_at hl 4 rfl) ?_
        refine lv_iload hx hb dX9_isMap_63 (lv_at hl 6 rfl) ?_
        obtain ⟨r_3, hg_3, hf⟩ := bd_some hf
        refine xVi (rest := [.int v5]) (c_X9_n l dC dI ad cI cJ cT v1 v3 v4 v6 I J hg_3) hfix (cwV 4 hts gX9_isMap_X9_n rfl rfl rfl (by decide +kernel) ⟨Nat.le_of_ble_eq_true rfl, Nat.le_of_ble_eq_true rfl⟩) hK hP hD hS hA (va_recv hK hP (ci := 8) (q0 := 13) rfl (obM_13 ad cI cJ I J)) rfl hl.1 rfl (Nat.le_of_ble_eq_true rfl) ⟨Nat.zero_le _, Nat.zero_le _⟩ dX9_isMap_65 (fun H locs hP hD hS => ?_)
        refine lv_aload_n hx hb dX9_isMap_68 rfl (lv_at hl 0 rfl) ?_
        refine va_get (D := (dC, dI)) (ci := 8) (v := .ref (ad 10)) (C := RX9) (T := TX9) (N := 15) hx hb hts in_X9 hown hK hP 13 (obM_13 ad cI cJ I J) rfl 12 (by decide) wd_1 (fun _ h9 => h9) rfl dX9_isMap_69 ?_
        refine lv_iload hx hb dX9_isMap_72 (lv_at hl 6 rfl) ?_
        obtain ⟨h_4, hf⟩ := gd_some hf
        refine x_iald hx hb hK (aiM_10 ad cI cJ) hP h_4 dX9_isMap_74 ?_
        refine lv_imul hx hb dX9_isMap_75 ?_
        refine lv_isub hx hb dX9_isMap_76 ?_
        refine lv_istore (lv' := [(5, .int (v5 - (r_3 * (I 10 v6.toNatClampNeg)))), (0, .ref (ad 13)), (1, .int v1), (2, .int v2), (3, .int v3), (4, .int v4), (6, .int v6)]) hx hb dX9_isMap_77 hl (by decide) rfl (fun ls hl => ?_)
        refine lv_iinc (v := (v6 + (1 : Int32))) (lv' := [(6, .int (v6 + (1 : Int32))), (5, .int (v5 - (r_3 * (I 10 v6.toNatClampNeg)))), (0, .ref (ad 13)), (1, .int v1), (2, .int v2), (3, .int v3), (4, .int v4)]) hx hb dX9_isMap_79 hl (k := 6) rfl (by first | rfl | decide) (by decide) rfl (fun ls hl => ?_)
        refine lv_goto (tgt := 45) hx hb dX9_isMap_82 (by decide) ?_
        exact ih _ _ _ _ _ hf hP hD hS (lv_sub hl [2, 3, 4, 5, 6, 1, 0] rfl)
  have L15 : ∀ (Q : State → Prop) (v1 : Int32) (v2 : Int32) (v3 : Int32) (I : SI) (J : SJ) (o : Nat), (∀  (H : Heap) (locs : List Loc) (ls : Array Slot), o = 0 → va_P (dC, dI) vwCl ((wM ad cI cJ) I J) H → va_D A ((wM ad cI cJ) I J) → va_S A s.heap H locs → lv_has ls 7 [] → W p l e ({ frames := 1, cells := 0, slots := 0, locals := 24 } : Room) s m args below meth c H locs 0 0 Q (F0 m 92 ls [])) → (∀  (H : Heap) (locs : List Loc) (ls : Array Slot), o = 1 → va_P (dC, dI) vwCl ((wM ad cI cJ) I J) H → va_D A ((wM ad cI cJ) I J) → va_S A s.heap H locs → lv_has ls 7 [(0, .ref (ad 13)), (1, .int v1), (2, .int v2), (3, .int v3)] → W p l e ({ frames := 1, cells := 0, slots := 0, locals := 24 } : Room) s m args below meth c H locs 0 0 Q (F0 m 100 ls [])) → ∀ (n : Nat) (v4 : Int32) (H : Heap) (locs : List Loc) (ls : Array Slot), lp_X9_isMap_15 v1 v2 v3 I n v4 = some o → va_P (dC, dI) vwCl ((wM ad cI cJ) I J) H → va_D A ((wM ad cI cJ) I J) → va_S A s.heap H locs → lv_has ls 7 [(0, .ref (ad 13)), (1, .int v1), (2, .int v2), (3, .int v3), (4, .int v4)] → W p l e ({ frames := 1, cells := 0, slots := 0, locals := 24 } : Room) s m args below meth c H locs 0 0 Q (F0 m 15 ls []) := by
    intro Q v1 v2 v3 I J o K0 K1 n
    clear hP hD hS hl
    induction n with
    | zero =>
      intro v4 H locs ls hf
      rw [lp_X9_isMap_15.eq_1] at hf
      cases hf
    | succ n ih =>
      intro v4 H locs ls hf hP hD hS hl
      rw [lp_X9_isMap_15.eq_2] at hf
      refine lv_iload hx hb dX9_isMap_15 (lv_at hl 4 rfl) ?_
      refine lv_aload_n hx hb dX9_isMap_17 rfl (lv_at hl 0 rfl) ?_
      refine va_get (D := (dC, dI)) (ci := 8) (v := .ref (ad 0)) (C := RX9) (T := TX9) (N := 15) hx hb hts in_X9 hown hK hP 13 (obM_13 ad cI cJ I J) rfl 0 (by decide) wd_0 (fun _ h9 => h9) rfl dX9_isMap_18 ?_
      refine lv_iload_n hx hb dX9_isMap_21 rfl (lv_at hl 1 rfl) ?_
      obtain ⟨h_5, hf⟩ := gd_some hf
      refine x_iald hx hb hK (aiM_0 ad cI cJ) hP h_5 dX9_isMap_22 ?_
      refine lv_icmp_ge (tgt := 100) hx hb dX9_isMap_23 (by decide) (fun c_6 => ?_) (fun c_6 => ?_)
      · have hf := (if_pos c_6).symm.trans hf
        exact K1  _ _ _ (Option.some.inj hf).symm hP hD hS (lv_sub hl [0, 1, 2, 3] rfl)
      · have hf := (if_neg c_6).symm.trans hf
        refine lv_aload_n hx hb dX9_isMap_26 rfl (lv_at hl 0 rfl) ?_
        refine va_get (D := (dC, dI)) (ci := 8) (v := .ref (ad 10)) (C := RX9) (T := TX9) (N := 15) hx hb hts in_X9 hown hK hP 13 (obM_13 ad cI cJ I J) rfl 12 (by decide) wd_1 (fun _ h9 => h9) rfl dX9_isMap_27 ?_
        refine lv_iload_n hx hb dX9_isMap_30 rfl (lv_at hl 3 rfl) ?_
        obtain ⟨h_7, hf⟩ := gd_some hf
        refine x_iald hx hb hK (aiM_10 ad cI cJ) hP h_7 dX9_isMap_31 ?_
        refine lv_aload_n hx hb dX9_isMap_32 rfl (lv_at hl 0 rfl) ?_
        refine va_get (D := (dC, dI)) (ci := 8) (v := .ref (ad 10)) (C := RX9) (T := TX9) (N := 15) hx hb hts in_X9 hown hK hP 13 (obM_13 ad cI cJ I J) rfl 12 (by decide) wd_1 (fun _ h9 => h9) rfl dX9_isMap_33 ?_
        refine lv_iload hx hb dX9_isMap_36 (lv_at hl 4 rfl) ?_
        obtain ⟨h_8, hf⟩ := gd_some hf
        refine x_iald hx hb hK (aiM_10 ad cI cJ) hP h_8 dX9_isMap_38 ?_
        refine lv_imul hx hb dX9_isMap_39 ?_
        refine lv_istore (lv' := [(5, .int ((I 10 v3.toNatClampNeg) * (I 10 v4.toNatClampNeg))), (0, .ref (ad 13)), (1, .int v1), (2, .int v2), (3, .int v3), (4, .int v4)]) hx hb dX9_isMap_40 hl (by decide) rfl (fun ls hl => ?_)
        refine lv_iconst (v := (0 : Int32)) hx hb dX9_isMap_42 (by decide) ?_
        refine lv_istore (lv' := [(6, .int (0 : Int32)), (5, .int ((I 10 v3.toNatClampNeg) * (I 10 v4.toNatClampNeg))), (0, .ref (ad 13)), (1, .int v1), (2, .int v2), (3, .int v3), (4, .int v4)]) hx hb dX9_isMap_43 hl (by decide) rfl (fun ls hl => ?_)
        obtain ⟨o_9, hg_9, hf⟩ := bd_some hf
        refine L45 _ v1 v2 v3 v4 I J o_9 ?_ FU ((I 10 v3.toNatClampNeg) * (I 10 v4.toNatClampNeg)) (0 : Int32) _ _ _ hg_9 hP hD hS (lv_sub hl [2, 3, 4, 5, 6, 1, 0] rfl)
        · intro w5_9 H locs ls ho hP hD hS hl
          subst o_9
          refine lv_iload hx hb dX9_isMap_85 (lv_at hl 5 rfl) ?_
          refine lv_iload_n hx hb dX9_isMap_87 rfl (lv_at hl 2 rfl) ?_
          obtain ⟨h_10, hf⟩ := gd_some hf
          refine lv_irem hx hb dX9_isMap_88 h_10 ?_
          refine lv_if_eq (tgt := 94) hx hb dX9_isMap_89 (by decide) (fun c_11 => ?_) (fun c_11 => ?_)
          · have hf := (if_pos c_11).symm.trans hf
            refine lv_iinc (v := (v4 + (1 : Int32))) (lv' := [(4, .int (v4 + (1 : Int32))), (0, .ref (ad 13)), (1, .int v1), (2, .int v2), (3, .int v3), (5, .int w5_9)]) hx hb dX9_isMap_94 hl (k := 4) rfl (by first | rfl | decide) (by decide) rfl (fun ls hl => ?_)
            refine lv_goto (tgt := 15) hx hb dX9_isMap_97 (by decide) ?_
            exact ih _ _ _ _ hf hP hD hS (lv_sub hl [1, 2, 3, 4, 0] rfl)
          · have hf := (if_neg c_11).symm.trans hf
            exact K0  _ _ _ (Option.some.inj hf).symm hP hD hS (lv_sub hl [] rfl)
  have L2 : ∀ (Q : State → Prop) (v1 : Int32) (v2 : Int32) (I : SI) (J : SJ) (o : Nat), (∀  (H : Heap) (locs : List Loc) (ls : Array Slot), o = 0 → va_P (dC, dI) vwCl ((wM ad cI cJ) I J) H → va_D A ((wM ad cI cJ) I J) → va_S A s.heap H locs → lv_has ls 7 [] → W p l e ({ frames := 1, cells := 0, slots := 0, locals := 24 } : Room) s m args below meth c H locs 0 0 Q (F0 m 92 ls [])) → (∀  (H : Heap) (locs : List Loc) (ls : Array Slot), o = 1 → va_P (dC, dI) vwCl ((wM ad cI cJ) I J) H → va_D A ((wM ad cI cJ) I J) → va_S A s.heap H locs → lv_has ls 7 [] → W p l e ({ frames := 1, cells := 0, slots := 0, locals := 24 } : Room) s m args below meth c H locs 0 0 Q (F0 m 106 ls [])) → ∀ (n : Nat) (v3 : Int32) (H : Heap) (locs : List Loc) (ls : Array Slot), lp_X9_isMap_2 v1 v2 I n v3 = some o → va_P (dC, dI) vwCl ((wM ad cI cJ) I J) H → va_D A ((wM ad cI cJ) I J) → va_S A s.heap H locs → lv_has ls 7 [(0, .ref (ad 13)), (1, .int v1), (2, .int v2), (3, .int v3)] → W p l e ({ frames := 1, cells := 0, slots := 0, locals := 24 } : Room) s m args below meth c H locs 0 0 Q (F0 m 2 ls []) := by
    intro Q v1 v2 I J o K0 K1 n
    clear hP hD hS hl
    induction n with
    | zero =>
      intro v3 H locs ls hf
      rw [lp_X9_isMap_2.eq_1] at hf
      cases hf
    | succ n ih =>
      intro v3 H locs ls hf hP hD hS hl
      rw [lp_X9_isMap_2.eq_2] at hf
      refine lv_iload_n hx hb dX9_isMap_2 rfl (lv_at hl 3 rfl) ?_
      refine lv_aload_n hx hb dX9_isMap_3 rfl (lv_at hl 0 rfl) ?_
      refine va_get (D := (dC, dI)) (ci := 8) (v := .ref (ad 0)) (C := RX9) (T := TX9) (N := 15) hx hb hts in_X9 hown hK hP 13 (obM_13 ad cI cJ I J) rfl 0 (by decide) wd_0 (fun _ h9 => h9) rfl dX9_isMap_4 ?_
      refine lv_iload_n hx hb dX9_isMap_7 rfl (lv_at hl 1 rfl) ?_
      obtain ⟨h_12, hf⟩ := gd_some hf
      refine x_iald hx hb hK (aiM_0 ad cI cJ) hP h_12 dX9_isMap_8 ?_
      refine lv_icmp_ge (tgt := 106) hx hb dX9_isMap_9 (by decide) (fun c_13 => ?_) (fun c_13 => ?_)
      · have hf := (if_pos c_13).symm.trans hf
        exact K1  _ _ _ (Option.some.inj hf).symm hP hD hS (lv_sub hl [] rfl)
      · have hf := (if_neg c_13).symm.trans hf
        refine lv_iconst (v := (0 : Int32)) hx hb dX9_isMap_12 (by decide) ?_
        refine lv_istore (lv' := [(4, .int (0 : Int32)), (0, .ref (ad 13)), (1, .int v1), (2, .int v2), (3, .int v3)]) hx hb dX9_isMap_13 hl (by decide) rfl (fun ls hl => ?_)
        obtain ⟨o_14, hg_14, hf⟩ := bd_some hf
        refine L15 _ v1 v2 v3 I J o_14 ?_ ?_ FU (0 : Int32) _ _ _ hg_14 hP hD hS (lv_sub hl [1, 2, 3, 4, 0] rfl)
        · intro  H locs ls ho hP hD hS hl
          subst o_14
          have hf := (if_pos (show 0 = 0 from rfl)).symm.trans hf
          exact K0  _ _ _ (Option.some.inj hf).symm hP hD hS (lv_sub hl [] rfl)
        · intro  H locs ls ho hP hD hS hl
          subst o_14
          have hf := (if_neg (show ¬ (1 = 0) by decide)).symm.trans hf
          refine lv_iinc (v := (v3 + (1 : Int32))) (lv' := [(3, .int (v3 + (1 : Int32))), (0, .ref (ad 13)), (1, .int v1), (2, .int v2)]) hx hb dX9_isMap_100 hl (k := 3) rfl (by first | rfl | decide) (by decide) rfl (fun ls hl => ?_)
          refine lv_goto (tgt := 2) hx hb dX9_isMap_103 (by decide) ?_
          exact ih _ _ _ _ hf hP hD hS (lv_sub hl [1, 2, 3, 0] rfl)
  unfold f_X9_isMap at hf
  refine lv_iconst (v := (0 : Int32)) hx hb dX9_isMap_0 (by decide) ?_
  refine lv_istore_n (lv' := [(3, .int (0 : Int32)), (0, .ref (ad 13)), (1, .int p1), (2, .int p2)]) hx hb dX9_isMap_1 rfl hl (by decide) rfl (fun ls hl => ?_)
  obtain ⟨o_15, hg_15, hf⟩ := bd_some hf
  refine L2 _ p1 p2 I J o_15 ?_ ?_ FU (0 : Int32) _ _ _ hg_15 hP hD hS (lv_sub hl [1, 2, 3, 0] rfl)
  · intro  H locs ls ho hP hD hS hl
    subst o_15
    have hf := (if_pos (show 0 = 0 from rfl)).symm.trans hf
    refine lv_iconst (v := (0 : Int32)) hx hb dX9_isMap_92 (by decide) ?_
    cases hf
    exact xRz hx hb hr hlocks rfl hK hP hD hS (fun _ h => h) dX9_isMap_93
  · intro  H locs ls ho hP hD hS hl
    subst o_15
    have hf := (if_neg (show ¬ (1 = 0) by decide)).symm.trans hf
    refine lv_iconst (v := (1 : Int32)) hx hb dX9_isMap_106 (by decide) ?_
    cases hf
    exact xRz hx hb hr hlocks rfl hK hP hD hS (fun _ h => h) dX9_isMap_107
set_option maxHeartbeats 4000000 in
set_option maxRecDepth 100000 in
theorem c_X9_findMaps (l : Launch) (dC : Nat → ClassId) (dI : Nat → Nat → Nat) (ad : Nat → Nat) (cI cJ cT : ClassId) (p1 : Int32) (p2 : Int32) (p3 : Int32) (I : SI) (J : SJ) {r0 : Int32} {I0 : SI} (hf : f_X9_findMaps p1 p2 p3 I = some (r0, I0)) : CtI l yX9_findMaps wsX9_findMaps ({ frames := 2, cells := 0, slots := 0, locals := 50 } : Room) (dC, dI) (tys3 cI cJ cT) (wM ad cI cJ) [.ref (ad 13), .int p1, .int p2, .int p3] I J r0 I0 J := by
  intro sz
  refine Met.ofW (cc := cX9_findMaps) (maxL := 9) (ret := (some .int)) (by decide) rfl ?_
  intro p e s m args below meth c s₁ B hml hv
  obtain ⟨hargs, hsz, hP, hK, hD0⟩ := hv
  have hx := B.exec
  have hb := B.bytes
  have hr := B.returns
  have hts := atoms_spec (ws := wsX9_findMaps) B.pre
  have hown : s.vm.findClass RX9 = some m.cls := findClass_of_methodNamed B.named
  have hlocks := B.notSynchronized
  subst hsz
  have hD := hD0.self (sz := s.heap.size)
  generalize hAe : va_A ((wM ad cI cJ) I J) s.heap.size = A at hD ⊢
  have hA : ∀ q : Nat, s.heap.size ≤ q → A q := fun q h => by rw [← hAe]; exact Or.inr h
  have hS : va_S A s.heap s.heap [] := va_S.rf
  have hl := lv_entry ([.ref (ad 13), .int p1, .int p2, .int p3]) (n := 9) (Nat.le_of_ble_eq_true rfl)
  rw [hargs, lg_entry_eq, ← hargs]
  generalize (lg_sl ([.ref (ad 13), .int p1, .int p2, .int p3]) ++ List.replicate (9 - (lg_sl ([.ref (ad 13), .int p1, .int p2, .int p3])).length) Slot.unset).toArray = ls at hl ⊢
  have hl : lv_has ls 9 [(0, .ref (ad 13)), (1, .int p1), (2, .int p2), (3, .int p3)] := hl
  have hfix : CallFix p m c cX9_findMaps 9 s args wsX9_findMaps RX9 := ⟨hx, hb, hml, hown, hts⟩
  have in_X9 : ∀ w ∈ u_ws RX9 TX9 15, w ∈ wsX9_findMaps := by decide +kernel
  have wd_0 := hts (.fieldLink RX9 7 "FuseBenchModel" "ranks" "[I") (by decide +kernel)
  have wd_1 := hts (.fieldLink RX9 41 "FuseBenchModel" "u" "[I") (by decide +kernel)
  have L6 : ∀ (Q : State → Prop) (v1 : Int32) (v2 : Int32) (v3 : Int32) (I : SI) (J : SJ) (o : Int32), (∀ (w4 : Int32) (H : Heap) (locs : List Loc) (ls : Array Slot), o = w4 → va_P (dC, dI) vwCl ((wM ad cI cJ) I J) H → va_D A ((wM ad cI cJ) I J) → va_S A s.heap H locs → lv_has ls 9 [(0, .ref (ad 13)), (1, .int v1), (2, .int v2), (3, .int v3), (4, .int w4)] → W p l e ({ frames := 2, cells := 0, slots := 0, locals := 50 } : Room) s m args below meth c H locs 0 0 Q (F0 m 29 ls [])) → ∀ (n : Nat) (v4 : Int32) (v5 : Int32) (H : Heap) (locs : List Loc) (ls : Array Slot), lp_X9_findMaps_6 v1 v2 v3 I n v4 v5 = some o → va_P (dC, dI) vwCl ((wM ad cI cJ) I J) H → va_D A ((wM ad cI cJ) I J) → va_S A s.heap H locs → lv_has ls 9 [(0, .ref (ad 13)), (1, .int v1), (2, .int v2), (3, .int v3), (4, .int v4), (5, .int v5)] → W p l e ({ frames := 2, cells := 0, slots := 0, locals := 50 } : Room) s m args below meth c H locs 0 0 Q (F0 m 6 ls []) := by
    intro Q v1 v2 v3 I J o K0 n
    clear hP hD hS hl
    induction n with
    | zero =>
      intro v4 v5 H locs ls hf
      rw [lp_X9_findMaps_6.eq_1] at hf
      cases hf
    | succ n ih =>
      intro v4 v5 H locs ls hf hP hD hS hl
      rw [lp_X9_findMaps_6.eq_2] at hf
      refine lv_iload hx hb dX9_findMaps_6 (lv_at hl 5 rfl) ?_
      refine lv_aload_n hx hb dX9_findMaps_8 rfl (lv_at hl 0 rfl) ?_
      refine va_get (D := (dC, dI)) (ci := 8) (v := .ref (ad 0)) (C := RX9) (T := TX9) (N := 15) hx hb hts in_X9 hown hK hP 13 (obM_13 ad cI cJ I J) rfl 0 (by decide) wd_0 (fun _ h9 => h9) rfl dX9_findMaps_9 ?_
      refine lv_iload_n hx hb dX9_findMaps_12 rfl (lv_at hl 1 rfl) ?_
      obtain ⟨h_1, hf⟩ := gd_some hf
      refine x_iald hx hb hK (aiM_0 ad cI cJ) hP h_1 dX9_findMaps_13 ?_
      refine lv_icmp_ge (tgt := 29) hx hb dX9_findMaps_14 (by decide) (fun c_2 => ?_) (fun c_2 => ?_)
      · have hf := (if_pos c_2).symm.trans hf
        exact K0 _ _ _ _ (Option.some.inj hf).symm hP hD hS (lv_sub hl [0, 1, 2, 3, 4] rfl)
      · have hf := (if_neg c_2).symm.trans hf
        refine lv_iload hx hb dX9_findMaps_17 (lv_at hl 4 rfl) ?_
        refine lv_iload_n hx hb dX9_findMaps_19 rfl (lv_at hl 2 rfl) ?_
        refine lv_imul hx hb dX9_findMaps_20 ?_
        refine lv_istore (lv' := [(4, .int (v4 * v2)), (0, .ref (ad 13)), (1, .int v1), (2, .int v2), (3, .int v3), (5, .int v5)]) hx hb dX9_findMaps_21 hl (by decide) rfl (fun ls hl => ?_)
        refine lv_iinc (v := (v5 + (1 : Int32))) (lv' := [(5, .int (v5 + (1 : Int32))), (4, .int (v4 * v2)), (0, .ref (ad 13)), (1, .int v1), (2, .int v2), (3, .int v3)]) hx hb dX9_findMaps_23 hl (k := 5) rfl (by first | rfl | decide) (by decide) rfl (fun ls hl => ?_)
        refine lv_goto (tgt := 6) hx hb dX9_findMaps_26 (by decide) ?_
        exact ih _ _ _ _ _ hf hP hD hS (lv_sub hl [2, 3, 4, 5, 1, 0] rfl)
  have L71 : ∀ (Q : State → Prop) (v1 : Int32) (v2 : Int32) (v3 : Int32) (v4 : Int32) (v5 : Int32) (v6 : Int32) (J : SJ) (o : SI), (∀  (I : SI) (H : Heap) (locs : List Loc) (ls : Array Slot), o = I → va_P (dC, dI) vwCl ((wM ad cI cJ) I J) H → va_D A ((wM ad cI cJ) I J) → va_S A s.heap H locs → lv_has ls 9 [(0, .ref (ad 13)), (1, .int v1), (2, .int v2), (3, .int v3), (4, .int v4), (5, .int v5), (6, .int v6)] → W p l e ({ frames := 2, cells := 0, slots := 0, locals := 50 } : Room) s m args below meth c H locs 0 0 Q (F0 m 99 ls [])) → ∀ (n : Nat) (v7 : Int32) (v8 : Int32) (I : SI) (H : Heap) (locs : List Loc) (ls : Array Slot), lp_X9_findMaps_71 v1 v2 v3 v4 v5 v6 n v7 v8 I = some o → va_P (dC, dI) vwCl ((wM ad cI cJ) I J) H → va_D A ((wM ad cI cJ) I J) → va_S A s.heap H locs → lv_has ls 9 [(0, .ref (ad 13)), (1, .int v1), (2, .int v2), (3, .int v3), (4, .int v4), (5, .int v5), (6, .int v6), (7, .int v7), (8, .int v8)] → W p l e ({ frames := 2, cells := 0, slots := 0, locals := 50 } : Room) s m args below meth c H locs 0 0 Q (F0 m 71 ls []) := by
    intro Q v1 v2 v3 v4 v5 v6 J o K0 n
    clear hP hD hS hl
    induction n with
    | zero =>
      intro v7 v8 I H locs ls hf
      rw [lp_X9_findMaps_71.eq_1] at hf
      cases hf
    | succ n ih =>
      intro v7 v8 I H locs ls hf hP hD hS hl
      rw [lp_X9_findMaps_71.eq_2] at hf
      refine lv_iload hx hb dX9_findMaps_71 (lv_at hl 8 rfl) ?_
      refine lv_if_le (tgt := 99) hx hb dX9_findMaps_73 (by decide) (fun c_3 => ?_) (fun c_3 => ?_)
      · have hf := (if_pos c_3).symm.trans hf
        exact K0 _ _ _ _ (Option.some.inj hf).symm hP hD hS (lv_sub hl [0, 1, 2, 3, 4, 5, 6] rfl)
      · have hf := (if_neg c_3).symm.trans hf
        refine lv_aload_n hx hb dX9_findMaps_76 rfl (lv_at hl 0 rfl) ?_
        refine va_get (D := (dC, dI)) (ci := 8) (v := .ref (ad 10)) (C := RX9) (T := TX9) (N := 15) hx hb hts in_X9 hown hK hP 13 (obM_13 ad cI cJ I J) rfl 12 (by decide) wd_1 (fun _ h9 => h9) rfl dX9_findMaps_77 ?_
        refine lv_iload hx hb dX9_findMaps_80 (lv_at hl 8 rfl) ?_
        refine lv_iload hx hb dX9_findMaps_82 (lv_at hl 7 rfl) ?_
        refine lv_iload_n hx hb dX9_findMaps_84 rfl (lv_at hl 2 rfl) ?_
        obtain ⟨h_4, hf⟩ := gd_some hf
        refine lv_irem hx hb dX9_findMaps_85 h_4 ?_
        obtain ⟨h_5, hf⟩ := gd_some hf
        refine x_iast hx hb hK (aiM_10 ad cI cJ) hP hD hS h_5 dX9_findMaps_86 (fun H locs hP hD hS => ?_)
        refine lv_iload hx hb dX9_findMaps_87 (lv_at hl 7 rfl) ?_
        refine lv_iload_n hx hb dX9_findMaps_89 rfl (lv_at hl 2 rfl) ?_
        obtain ⟨h_6, hf⟩ := gd_some hf
        refine lv_idiv hx hb dX9_findMaps_90 h_6 ?_
        refine lv_istore (lv' := [(7, .int (v7 / v2)), (0, .ref (ad 13)), (1, .int v1), (2, .int v2), (3, .int v3), (4, .int v4), (5, .int v5), (6, .int v6), (8, .int v8)]) hx hb dX9_findMaps_91 hl (by decide) rfl (fun ls hl => ?_)
        refine lv_iinc (v := (v8 + (-1 : Int32))) (lv' := [(8, .int (v8 + (-1 : Int32))), (7, .int (v7 / v2)), (0, .ref (ad 13)), (1, .int v1), (2, .int v2), (3, .int v3), (4, .int v4), (5, .int v5), (6, .int v6)]) hx hb dX9_findMaps_93 hl (k := 8) rfl (by first | rfl | decide) (by decide) rfl (fun ls hl => ?_)
        refine lv_goto (tgt := 71) hx hb dX9_findMaps_96 (by decide) ?_
        exact ih _ _ _ _ _ _ hf hP hD hS (lv_sub hl [2, 3, 4, 5, 6, 7, 8, 1, 0] rfl)
  have L35 : ∀ (Q : State → Prop) (v1 : Int32) (v2 : Int32) (v3 : Int32) (v4 : Int32) (J : SJ) (o : Int32 × SI), (∀ (w5 : Int32) (I : SI) (H : Heap) (locs : List Loc) (ls : Array Slot), o = (w5, I) → va_P (dC, dI) vwCl ((wM ad cI cJ) I J) H → va_D A ((wM ad cI cJ) I J) → va_S A s.heap H locs → lv_has ls 9 [(5, .int w5)] → W p l e ({ frames := 2, cells := 0, slots := 0, locals := 50 } : Room) s m args below meth c H locs 0 0 Q (F0 m 124 ls [])) → ∀ (n : Nat) (v5 : Int32) (v6 : Int32) (I : SI) (H : Heap) (locs : List Loc) (ls : Array Slot), lp_X9_findMaps_35 v1 v2 v3 v4 n v5 v6 I = some o → va_P (dC, dI) vwCl ((wM ad cI cJ) I J) H → va_D A ((wM ad cI cJ) I J) → va_S A s.heap H locs → lv_has ls 9 [(0, .ref (ad 13)), (1, .int v1), (2, .int v2), (3, .int v3), (4, .int v4), (5, .int v5), (6, .int v6)] → W p l e ({ frames := 2, cells := 0, slots := 0, locals := 50 } : Room) s m args below meth c H locs 0 0 Q (F0 m 35 ls []) := by
    intro Q v1 v2 v3 v4 J o K0 n
    clear hP hD hS hl
    induction n with
    | zero =>
      intro v5 v6 I H locs ls hf
      rw [lp_X9_findMaps_35.eq_1] at hf
      cases hf
    | succ n ih =>
      intro v5 v6 I H locs ls hf hP hD hS hl
      rw [lp_X9_findMaps_35.eq_2] at hf
      refine lv_iload hx hb dX9_findMaps_35 (lv_at hl 6 rfl) ?_
      refine lv_iload hx hb dX9_findMaps_37 (lv_at hl 4 rfl) ?_
      refine lv_icmp_ge (tgt := 124) hx hb dX9_findMaps_39 (by decide) (fun c_7 => ?_) (fun c_7 => ?_)
      · have hf := (if_pos c_7).symm.trans hf
        exact K0 _ _ _ _ _ (Option.some.inj hf).symm hP hD hS (lv_sub hl [5] rfl)
      · have hf := (if_neg c_7).symm.trans hf
        refine lv_iload hx hb dX9_findMaps_42 (lv_at hl 5 rfl) ?_
        refine lv_iload_n hx hb dX9_findMaps_44 rfl (lv_at hl 3 rfl) ?_
        refine lv_iconst (v := (1 : Int32)) hx hb dX9_findMaps_45 (by decide) ?_
        refine lv_iadd hx hb dX9_findMaps_46 ?_
        refine lv_icmp_eq (tgt := 124) hx hb dX9_findMaps_47 (by decide) (fun c_8 => ?_) (fun c_8 => ?_)
        · have hf := (if_pos c_8).symm.trans hf
          exact K0 _ _ _ _ _ (Option.some.inj hf).symm hP hD hS (lv_sub hl [5] rfl)
        · have hf := (if_neg c_8).symm.trans hf
          refine lv_iload hx hb dX9_findMaps_50 (lv_at hl 6 rfl) ?_
          refine lv_istore (lv' := [(7, .int v6), (0, .ref (ad 13)), (1, .int v1), (2, .int v2), (3, .int v3), (4, .int v4), (5, .int v5), (6, .int v6)]) hx hb dX9_findMaps_52 hl (by decide) rfl (fun ls hl => ?_)
          refine lv_aload_n hx hb dX9_findMaps_54 rfl (lv_at hl 1 rfl) ?_
          refine va_get (D := (dC, dI)) (ci := 8) (v := .ref (ad 10)) (C := RX9) (T := TX9) (N := 15) hx hb hts in_X9 hown hK hP 13 (obM_13 ad cI cJ I J) rfl 12 (by decide) wd_1 (fun _ h9 => h9) rfl dX9_findMaps_55 ?_
          refine lv_iconst (v := (0 : Int32)) hx hb dX9_findMaps_58 (by decide) ?_
          refine lv_iconst (v := (1 : Int32)) hx hb dX9_findMaps_59 (by decide) ?_
          refine x_iast hx hb hK (aiM_10 ad cI cJ) hP hD hS (by decide) dX9_findMaps_60 (fun H locs hP hD hS => ?_)
          refine lv_aload_n hx hb dX9_findMaps_61 rfl (lv_at hl 1 rfl) ?_
          refine va_get (D := (dC, dI)) (ci := 8) (v := .ref (ad 0)) (C := RX9) (T := TX9) (N := 15) hx hb hts in_X9 hown hK hP 13 (obM_13 ad cI cJ (ups I 10 (0 : Int32).toNatClampNeg (1 : Int32)) J) rfl 0 (by decide) wd_0 (fun _ h9 => h9) rfl dX9_findMaps_62 ?_
          refine lv_iload_n hx hb dX9_findMaps_65 rfl (lv_at hl 2 rfl) ?_
          obtain ⟨h_9, hf⟩ := gd_some hf
          refine x_iald hx hb hK (aiM_0 ad cI cJ) hP h_9 dX9_findMaps_66 ?_
          refine lv_iconst (v := (1 : Int32)) hx hb dX9_findMaps_67 (by decide) ?_
          refine lv_isub hx hb dX9_findMaps_68 ?_
          refine lv_istore (lv' := [(8, .int (((ups I 10 (0 : Int32).toNatClampNeg (1 : Int32)) 0 v1.toNatClampNeg) - (1 : Int32))), (7, .int v6), (0, .ref (ad 13)), (1, .int v1), (2, .int v2), (3, .int v3), (4, .int v4), (5, .int v5), (6, .int v6)]) hx hb dX9_findMaps_69 hl (by decide) rfl (fun ls hl => ?_)
          obtain ⟨o_10, hg_10, hf⟩ := bd_some hf
          refine L71 _ v1 v2 v3 v4 v5 v6 J o_10 ?_ FU v6 (((ups I 10 (0 : Int32).toNatClampNeg (1 : Int32)) 0 v1.toNatClampNeg) - (1 : Int32)) (ups I 10 (0 : Int32).toNatClampNeg (1 : Int32)) _ _ _ hg_10 hP hD hS (lv_sub hl [2, 3, 4, 5, 6, 7, 8, 1, 0] rfl)
          · intro I_10 H locs ls ho hP hD hS hl
            subst o_10
            refine lv_iload hx hb dX9_findMaps_99 (lv_at hl 5 rfl) ?_
            refine lv_aload_n hx hb dX9_findMaps_101 rfl (lv_at hl 0 rfl) ?_
            refine lv_iload_n hx hb dX9_findMaps_102 rfl (lv_at hl 1 rfl) ?_
            refine lv_iload_n hx hb dX9_findMaps_103 rfl (lv_at hl 2 rfl) ?_
            obtain ⟨r_11, hg_11, hf⟩ := bd_some hf
            refine xVi (rest := [.int v5]) (c_X9_isMap l dC dI ad cI cJ cT v1 v2 I_10 J hg_11) hfix (cwV 2 hts gX9_findMaps_X9_isMap rfl rfl rfl (by decide +kernel) ⟨Nat.le_of_ble_eq_true rfl, Nat.le_of_ble_eq_true rfl⟩) hK hP hD hS hA (va_recv hK hP (ci := 8) (q0 := 13) rfl (obM_13 ad cI cJ I_10 J)) rfl hl.1 rfl (Nat.le_of_ble_eq_true rfl) ⟨Nat.zero_le _, Nat.zero_le _⟩ dX9_findMaps_104 (fun H locs hP hD hS => ?_)
            refine lv_if_eq (tgt := 114) hx hb dX9_findMaps_107 (by decide) (fun c_12 => ?_) (fun c_12 => ?_)
            · have hf := (if_pos c_12).symm.trans hf
              refine lv_iconst (v := (0 : Int32)) hx hb dX9_findMaps_114 (by decide) ?_
              refine lv_iadd hx hb dX9_findMaps_115 ?_
              refine lv_istore (lv' := [(5, .int (v5 + (0 : Int32))), (0, .ref (ad 13)), (1, .int v1), (2, .int v2), (3, .int v3), (4, .int v4), (6, .int v6)]) hx hb dX9_findMaps_116 hl (by decide) rfl (fun ls hl => ?_)
              refine lv_iinc (v := (v6 + (1 : Int32))) (lv' := [(6, .int (v6 + (1 : Int32))), (5, .int (v5 + (0 : Int32))), (0, .ref (ad 13)), (1, .int v1), (2, .int v2), (3, .int v3), (4, .int v4)]) hx hb dX9_findMaps_118 hl (k := 6) rfl (by first | rfl | decide) (by decide) rfl (fun ls hl => ?_)
              refine lv_goto (tgt := 35) hx hb dX9_findMaps_121 (by decide) ?_
              exact ih _ _ _ _ _ _ hf hP hD hS (lv_sub hl [2, 3, 4, 5, 6, 1, 0] rfl)
            · have hf := (if_neg c_12).symm.trans hf
              refine lv_iconst (v := (1 : Int32)) hx hb dX9_findMaps_110 (by decide) ?_
              refine lv_goto (tgt := 115) hx hb dX9_findMaps_111 (by decide) ?_
              refine lv_iadd hx hb dX9_findMaps_115 ?_
              refine lv_istore (lv' := [(5, .int (v5 + (1 : Int32))), (0, .ref (ad 13)), (1, .int v1), (2, .int v2), (3, .int v3), (4, .int v4), (6, .int v6)]) hx hb dX9_findMaps_116 hl (by decide) rfl (fun ls hl => ?_)
              refine lv_iinc (v := (v6 + (1 : Int32))) (lv' := [(6, .int (v6 + (1 : Int32))), (5, .int (v5 + (1 : Int32))), (0, .ref (ad 13)), (1, .int v1), (2, .int v2), (3, .int v3), (4, .int v4)]) hx hb dX9_findMaps_118 hl (k := 6) rfl (by first | rfl | decide) (by decide) rfl (fun ls hl => ?_)
              refine lv_goto (tgt := 35) hx hb dX9_findMaps_121 (by decide) ?_
              exact ih _ _ _ _ _ _ hf hP hD hS (lv_sub hl [2, 3, 4, 5, 6, 1, 0] rfl)
  unfold f_X9_findMaps at hf
  refine lv_iconst (v := (1 : Int32)) hx hb dX9_findMaps_0 (by decide) ?_
  refine lv_istore (lv' := [(4, .int (1 : Int32)), (0, .ref (ad 13)), (1, .int p1), (2, .int p2), (3, .int p3)]) hx hb dX9_findMaps_1 hl (by decide) rfl (fun ls hl => ?_)
  refine lv_iconst (v := (1 : Int32)) hx hb dX9_findMaps_3 (by decide) ?_
  refine lv_istore (lv' := [(5, .int (1 : Int32)), (4, .int (1 : Int32)), (0, .ref (ad 13)), (1, .int p1), (2, .int p2), (3, .int p3)]) hx hb dX9_findMaps_4 hl (by decide) rfl (fun ls hl => ?_)
  obtain ⟨o_13, hg_13, hf⟩ := bd_some hf
  refine L6 _ p1 p2 p3 I J o_13 ?_ FU (1 : Int32) (1 : Int32) _ _ _ hg_13 hP hD hS (lv_sub hl [2, 3, 4, 5, 1, 0] rfl)
  · intro w4_13 H locs ls ho hP hD hS hl
    subst o_13
    refine lv_iconst (v := (0 : Int32)) hx hb dX9_findMaps_29 (by decide) ?_
    refine lv_istore (lv' := [(5, .int (0 : Int32)), (0, .ref (ad 13)), (1, .int p1), (2, .int p2), (3, .int p3), (4, .int w4_13)]) hx hb dX9_findMaps_30 hl (by decide) rfl (fun ls hl => ?_)
    refine lv_iconst (v := (0 : Int32)) hx hb dX9_findMaps_32 (by decide) ?_
    refine lv_istore (lv' := [(6, .int (0 : Int32)), (5, .int (0 : Int32)), (0, .ref (ad 13)), (1, .int p1), (2, .int p2), (3, .int p3), (4, .int w4_13)]) hx hb dX9_findMaps_33 hl (by decide) rfl (fun ls hl => ?_)
    obtain ⟨o_14, hg_14, hf⟩ := bd_some hf
    refine L35 _ p1 p2 p3 w4_13 J o_14 ?_ FU (0 : Int32) (0 : Int32) I _ _ _ hg_14 hP hD hS (lv_sub hl [2, 3, 4, 5, 6, 1, 0] rfl)
    · intro w5_14 I_14 H locs ls ho hP hD hS hl
      subst o_14
      refine lv_iload hx hb dX9_findMaps_124 (lv_at hl 0 rfl) ?_
      cases hf
      exact xRi hx hb hr hlocks hK hP hD hS (fun _ h => h) dX9_findMaps_126
set_option maxHeartbeats 4000000 in
set_option maxRecDepth 100000 in
theorem c_X9_maps (l : Launch) (dC : Nat → ClassId) (dI : Nat → Nat → Nat) (ad : Nat → Nat) (cI cJ cT : ClassId) (p1 : Int32) (p2 : Int32) (I : SI) (J : SJ) {r0 : Int32} {I0 : SI} (hf : f_X9_maps p1 p2 I = some (r0, I0)) : CtI l yX9_maps wsX9_maps ({ frames := 3, cells := 0, slots := 0, locals := 78 } : Room) (dC, dI) (tys3 cI cJ cT) (wM ad cI cJ) [.ref (ad 13), .int p1, .int p2] I J r0 I0 J := by
  intro sz
  refine Met.ofW (cc := cX9_maps) (maxL := 3) (ret := (some .int)) (by decide) rfl ?_
  intro p e s m args below meth c s₁ B hml hv
  obtain ⟨hargs, hsz, hP, hK, hD0⟩ := hv
  have hx := B.exec
  have hb := B.bytes
  have hr := B.returns
  have hts := atoms_spec (ws := wsX9_maps) B.pre
  have hown : s.vm.findClass RX9 = some m.cls := findClass_of_methodNamed B.named
  have hlocks := B.notSynchronized
  subst hsz
  have hD := hD0.self (sz := s.heap.size)
  generalize hAe : va_A ((wM ad cI cJ) I J) s.heap.size = A at hD ⊢
  have hA : ∀ q : Nat, s.heap.size ≤ q → A q := fun q h => by rw [← hAe]; exact Or.inr h
  have hS : va_S A s.heap s.heap [] := va_S.rf
  have hl := lv_entry ([.ref (ad 13), .int p1, .int p2]) (n := 3) (Nat.le_of_ble_eq_true rfl)
  rw [hargs, lg_entry_eq, ← hargs]
  generalize (lg_sl ([.ref (ad 13), .int p1, .int p2]) ++ List.replicate (3 - (lg_sl ([.ref (ad 13), .int p1, .int p2])).length) Slot.unset).toArray = ls at hl ⊢
  have hl : lv_has ls 3 [(0, .ref (ad 13)), (1, .int p1), (2, .int p2)] := hl
  have hfix : CallFix p m c cX9_maps 3 s args wsX9_maps RX9 := ⟨hx, hb, hml, hown, hts⟩
  unfold f_X9_maps at hf
  refine lv_iload_n hx hb dX9_maps_0 rfl (lv_at hl 1 rfl) ?_
  obtain ⟨r_1, hg_1, hf⟩ := bd_some hf
  refine xSi (rest := []) (c_X9_noTable l dC dI ad cI cJ cT p1 I J hg_1) hfix (va_cwS 1 hts gX9_maps_X9_noTable rfl rfl rfl (by decide +kernel) ⟨Nat.le_of_ble_eq_true rfl, Nat.le_of_ble_eq_true rfl⟩) hK hP hD hS hA rfl hl.1 rfl (Nat.le_of_ble_eq_true rfl) ⟨Nat.zero_le _, Nat.zero_le _⟩ dX9_maps_1 (fun H locs hP hD hS => ?_)
  refine lv_if_ne (tgt := 14) hx hb dX9_maps_4 (by decide) (fun c_2 => ?_) (fun c_2 => ?_)
  · have hf := (if_neg c_2).symm.trans hf
    refine lv_bipush (v := (-2 : Int32)) hx hb dX9_maps_14 (by decide) ?_
    cases hf
    exact xRi hx hb hr hlocks hK hP hD hS (fun _ h => h) dX9_maps_16
  · have hf := (if_pos c_2).symm.trans hf
    refine lv_iload_n hx hb dX9_maps_7 rfl (lv_at hl 2 rfl) ?_
    obtain ⟨r_3, hg_3, hf⟩ := bd_some hf
    refine xSi (rest := []) (c_X9_isPrime l dC dI ad cI cJ cT p2 I J hg_3) hfix (va_cwS 1 hts gX9_maps_X9_isPrime rfl rfl rfl (by decide +kernel) ⟨Nat.le_of_ble_eq_true rfl, Nat.le_of_ble_eq_true rfl⟩) hK hP hD hS hA rfl hl.1 rfl (Nat.le_of_ble_eq_true rfl) ⟨Nat.zero_le _, Nat.zero_le _⟩ dX9_maps_8 (fun H locs hP hD hS => ?_)
    refine lv_if_ne (tgt := 17) hx hb dX9_maps_11 (by decide) (fun c_4 => ?_) (fun c_4 => ?_)
    · have hf := (if_neg c_4).symm.trans hf
      refine lv_aload_n hx hb dX9_maps_17 rfl (lv_at hl 0 rfl) ?_
      refine lv_iload_n hx hb dX9_maps_18 rfl (lv_at hl 1 rfl) ?_
      obtain ⟨⟨r_5, I_5⟩, hg_5, hf⟩ := bd_some hf
      refine xVi (rest := []) (c_X9_isRight l dC dI ad cI cJ cT p1 I J hg_5) hfix (cwV 1 hts gX9_maps_X9_isRight rfl rfl rfl (by decide +kernel) ⟨Nat.le_of_ble_eq_true rfl, Nat.le_of_ble_eq_true rfl⟩) hK hP hD hS hA (va_recv hK hP (ci := 8) (q0 := 13) rfl (obM_13 ad cI cJ I J)) rfl hl.1 rfl (Nat.le_of_ble_eq_true rfl) ⟨Nat.zero_le _, Nat.zero_le _⟩ dX9_maps_19 (fun H locs hP hD hS => ?_)
      refine lv_if_eq (tgt := 36) hx hb dX9_maps_22 (by decide) (fun c_6 => ?_) (fun c_6 => ?_)
      · have hf := (if_pos c_6).symm.trans hf
        refine lv_bipush (v := (-3 : Int32)) hx hb dX9_maps_36 (by decide) ?_
        cases hf
        exact xRi hx hb hr hlocks hK hP hD hS (fun _ h => h) dX9_maps_38
      · have hf := (if_neg c_6).symm.trans hf
        refine lv_aload_n hx hb dX9_maps_25 rfl (lv_at hl 0 rfl) ?_
        refine lv_iload_n hx hb dX9_maps_26 rfl (lv_at hl 1 rfl) ?_
        refine lv_iload_n hx hb dX9_maps_27 rfl (lv_at hl 2 rfl) ?_
        refine lv_bipush (v := (-2 : Int32)) hx hb dX9_maps_28 (by decide) ?_
        obtain ⟨⟨r_7, I_7⟩, hg_7, hf⟩ := bd_some hf
        refine xVi (rest := []) (c_X9_findMaps l dC dI ad cI cJ cT p1 p2 (-2 : Int32) I_5 J hg_7) hfix (cwV 3 hts gX9_maps_X9_findMaps rfl rfl rfl (by decide +kernel) ⟨Nat.le_of_ble_eq_true rfl, Nat.le_of_ble_eq_true rfl⟩) hK hP hD hS hA (va_recv hK hP (ci := 8) (q0 := 13) rfl (obM_13 ad cI cJ I_5 J)) rfl hl.1 rfl (Nat.le_of_ble_eq_true rfl) ⟨Nat.zero_le _, Nat.zero_le _⟩ dX9_maps_30 (fun H locs hP hD hS => ?_)
        refine lv_goto (tgt := 38) hx hb dX9_maps_33 (by decide) ?_
        cases hf
        exact xRi hx hb hr hlocks hK hP hD hS (fun _ h => h) dX9_maps_38
    · have hf := (if_pos c_4).symm.trans hf
      refine lv_bipush (v := (-2 : Int32)) hx hb dX9_maps_14 (by decide) ?_
      cases hf
      exact xRi hx hb hr hlocks hK hP hD hS (fun _ h => h) dX9_maps_16
set_option maxHeartbeats 4000000 in
set_option maxRecDepth 100000 in
theorem c_X9_map (l : Launch) (dC : Nat → ClassId) (dI : Nat → Nat → Nat) (ad : Nat → Nat) (cI cJ cT : ClassId) (p1 : Int32) (p2 : Int32) (p3 : Int32) (p4 : Int32) (I : SI) (J : SJ) {r0 : Int32} {I0 : SI} (hf : f_X9_map p1 p2 p3 p4 I = some (r0, I0)) : CtI l yX9_map wsX9_map ({ frames := 3, cells := 0, slots := 0, locals := 78 } : Room) (dC, dI) (tys3 cI cJ cT) (wM ad cI cJ) [.ref (ad 13), .int p1, .int p2, .int p3, .int p4] I J r0 I0 J := by
  intro sz
  refine Met.ofW (cc := cX9_map) (maxL := 5) (ret := (some .int)) (by decide) rfl ?_
  intro p e s m args below meth c s₁ B hml hv
  obtain ⟨hargs, hsz, hP, hK, hD0⟩ := hv
  have hx := B.exec
  have hb := B.bytes
  have hr := B.returns
  have hts := atoms_spec (ws := wsX9_map) B.pre
  have hown : s.vm.findClass RX9 = some m.cls := findClass_of_methodNamed B.named
  have hlocks := B.notSynchronized
  subst hsz
  have hD := hD0.self (sz := s.heap.size)
  generalize hAe : va_A ((wM ad cI cJ) I J) s.heap.size = A at hD ⊢
  have hA : ∀ q : Nat, s.heap.size ≤ q → A q := fun q h => by rw [← hAe]; exact Or.inr h
  have hS : va_S A s.heap s.heap [] := va_S.rf
  have hl := lv_entry ([.ref (ad 13), .int p1, .int p2, .int p3, .int p4]) (n := 5) (Nat.le_of_ble_eq_true rfl)
  rw [hargs, lg_entry_eq, ← hargs]
  generalize (lg_sl ([.ref (ad 13), .int p1, .int p2, .int p3, .int p4]) ++ List.replicate (5 - (lg_sl ([.ref (ad 13), .int p1, .int p2, .int p3, .int p4])).length) Slot.unset).toArray = ls at hl ⊢
  have hl : lv_has ls 5 [(0, .ref (ad 13)), (1, .int p1), (2, .int p2), (3, .int p3), (4, .int p4)] := hl
  have hfix : CallFix p m c cX9_map 5 s args wsX9_map RX9 := ⟨hx, hb, hml, hown, hts⟩
  have in_X9 : ∀ w ∈ u_ws RX9 TX9 15, w ∈ wsX9_map := by decide +kernel
  have wd_0 := hts (.constant RX9 138 (100000)) (by decide +kernel)
  have wd_1 := hts (.fieldLink RX9 41 "FuseBenchModel" "u" "[I") (by decide +kernel)
  unfold f_X9_map at hf
  refine lv_iload_n hx hb dX9_map_0 rfl (lv_at hl 1 rfl) ?_
  obtain ⟨r_1, hg_1, hf⟩ := bd_some hf
  refine xSi (rest := []) (c_X9_noTable l dC dI ad cI cJ cT p1 I J hg_1) hfix (va_cwS 1 hts gX9_map_X9_noTable rfl rfl rfl (by decide +kernel) ⟨Nat.le_of_ble_eq_true rfl, Nat.le_of_ble_eq_true rfl⟩) hK hP hD hS hA rfl hl.1 rfl (Nat.le_of_ble_eq_true rfl) ⟨Nat.zero_le _, Nat.zero_le _⟩ dX9_map_1 (fun H locs hP hD hS => ?_)
  refine lv_if_ne (tgt := 28) hx hb dX9_map_4 (by decide) (fun c_2 => ?_) (fun c_2 => ?_)
  · have hf := (if_neg c_2).symm.trans hf
    refine lv_bipush (v := (-2 : Int32)) hx hb dX9_map_28 (by decide) ?_
    cases hf
    exact xRi hx hb hr hlocks hK hP hD hS (fun _ h => h) dX9_map_30
  · have hf := (if_pos c_2).symm.trans hf
    refine lv_iload_n hx hb dX9_map_7 rfl (lv_at hl 2 rfl) ?_
    obtain ⟨r_3, hg_3, hf⟩ := bd_some hf
    refine xSi (rest := []) (c_X9_isPrime l dC dI ad cI cJ cT p2 I J hg_3) hfix (va_cwS 1 hts gX9_map_X9_isPrime rfl rfl rfl (by decide +kernel) ⟨Nat.le_of_ble_eq_true rfl, Nat.le_of_ble_eq_true rfl⟩) hK hP hD hS hA rfl hl.1 rfl (Nat.le_of_ble_eq_true rfl) ⟨Nat.zero_le _, Nat.zero_le _⟩ dX9_map_8 (fun H locs hP hD hS => ?_)
    refine lv_if_eq (tgt := 28) hx hb dX9_map_11 (by decide) (fun c_4 => ?_) (fun c_4 => ?_)
    · have hf := (if_pos c_4).symm.trans hf
      refine lv_bipush (v := (-2 : Int32)) hx hb dX9_map_28 (by decide) ?_
      cases hf
      exact xRi hx hb hr hlocks hK hP hD hS (fun _ h => h) dX9_map_30
    · have hf := (if_neg c_4).symm.trans hf
      refine lv_iload_n hx hb dX9_map_14 rfl (lv_at hl 3 rfl) ?_
      refine lv_if_lt (tgt := 28) hx hb dX9_map_15 (by decide) (fun c_5 => ?_) (fun c_5 => ?_)
      · have hf := (if_pos c_5).symm.trans hf
        refine lv_bipush (v := (-2 : Int32)) hx hb dX9_map_28 (by decide) ?_
        cases hf
        exact xRi hx hb hr hlocks hK hP hD hS (fun _ h => h) dX9_map_30
      · have hf := (if_neg c_5).symm.trans hf
        refine lv_aload_n hx hb dX9_map_18 rfl (lv_at hl 0 rfl) ?_
        refine lv_iload_n hx hb dX9_map_19 rfl (lv_at hl 1 rfl) ?_
        refine lv_iload hx hb dX9_map_20 (lv_at hl 4 rfl) ?_
        obtain ⟨r_6, hg_6, hf⟩ := bd_some hf
        refine xVi (rest := []) (c_X9_isKind l dC dI ad cI cJ cT p1 p4 I J hg_6) hfix (cwV 2 hts gX9_map_X9_isKind rfl rfl rfl (by decide +kernel) ⟨Nat.le_of_ble_eq_true rfl, Nat.le_of_ble_eq_true rfl⟩) hK hP hD hS hA (va_recv hK hP (ci := 8) (q0 := 13) rfl (obM_13 ad cI cJ I J)) rfl hl.1 rfl (Nat.le_of_ble_eq_true rfl) ⟨Nat.zero_le _, Nat.zero_le _⟩ dX9_map_22 (fun H locs hP hD hS => ?_)
        refine lv_if_ne (tgt := 31) hx hb dX9_map_25 (by decide) (fun c_7 => ?_) (fun c_7 => ?_)
        · have hf := (if_neg c_7).symm.trans hf
          refine lv_aload_n hx hb dX9_map_31 rfl (lv_at hl 0 rfl) ?_
          refine lv_iload_n hx hb dX9_map_32 rfl (lv_at hl 1 rfl) ?_
          obtain ⟨⟨r_8, I_8⟩, hg_8, hf⟩ := bd_some hf
          refine xVi (rest := []) (c_X9_isRight l dC dI ad cI cJ cT p1 I J hg_8) hfix (cwV 1 hts gX9_map_X9_isRight rfl rfl rfl (by decide +kernel) ⟨Nat.le_of_ble_eq_true rfl, Nat.le_of_ble_eq_true rfl⟩) hK hP hD hS hA (va_recv hK hP (ci := 8) (q0 := 13) rfl (obM_13 ad cI cJ I J)) rfl hl.1 rfl (Nat.le_of_ble_eq_true rfl) ⟨Nat.zero_le _, Nat.zero_le _⟩ dX9_map_33 (fun H locs hP hD hS => ?_)
          refine lv_if_ne (tgt := 42) hx hb dX9_map_36 (by decide) (fun c_9 => ?_) (fun c_9 => ?_)
          · have hf := (if_neg c_9).symm.trans hf
            refine lv_iload_n hx hb dX9_map_42 rfl (lv_at hl 3 rfl) ?_
            refine lv_ldc (v := (100000 : Int32)) hx hb hown wd_0 dX9_map_43 ?_
            refine lv_icmp_ge (tgt := 71) hx hb dX9_map_45 (by decide) (fun c_10 => ?_) (fun c_10 => ?_)
            · have hf := (if_pos c_10).symm.trans hf
              refine lv_iconst (v := (-1 : Int32)) hx hb dX9_map_71 (by decide) ?_
              cases hf
              exact xRi hx hb hr hlocks hK hP hD hS (fun _ h => h) dX9_map_72
            · have hf := (if_neg c_10).symm.trans hf
              refine lv_aload_n hx hb dX9_map_48 rfl (lv_at hl 0 rfl) ?_
              refine lv_iload_n hx hb dX9_map_49 rfl (lv_at hl 1 rfl) ?_
              refine lv_iload_n hx hb dX9_map_50 rfl (lv_at hl 2 rfl) ?_
              refine lv_iload_n hx hb dX9_map_51 rfl (lv_at hl 3 rfl) ?_
              obtain ⟨⟨r_11, I_11⟩, hg_11, hf⟩ := bd_some hf
              refine xVi (rest := []) (c_X9_findMaps l dC dI ad cI cJ cT p1 p2 p3 I_8 J hg_11) hfix (cwV 3 hts gX9_map_X9_findMaps rfl rfl rfl (by decide +kernel) ⟨Nat.le_of_ble_eq_true rfl, Nat.le_of_ble_eq_true rfl⟩) hK hP hD hS hA (va_recv hK hP (ci := 8) (q0 := 13) rfl (obM_13 ad cI cJ I_8 J)) rfl hl.1 rfl (Nat.le_of_ble_eq_true rfl) ⟨Nat.zero_le _, Nat.zero_le _⟩ dX9_map_52 (fun H locs hP hD hS => ?_)
              refine lv_iload_n hx hb dX9_map_55 rfl (lv_at hl 3 rfl) ?_
              refine lv_iconst (v := (1 : Int32)) hx hb dX9_map_56 (by decide) ?_
              refine lv_iadd hx hb dX9_map_57 ?_
              refine lv_icmp_ne (tgt := 71) hx hb dX9_map_58 (by decide) (fun c_12 => ?_) (fun c_12 => ?_)
              · have hf := (if_neg c_12).symm.trans hf
                refine lv_iconst (v := (-1 : Int32)) hx hb dX9_map_71 (by decide) ?_
                cases hf
                exact xRi hx hb hr hlocks hK hP hD hS (fun _ h => h) dX9_map_72
              · have hf := (if_pos c_12).symm.trans hf
                refine lv_aload_n hx hb dX9_map_61 rfl (lv_at hl 0 rfl) ?_
                refine va_get (D := (dC, dI)) (ci := 8) (v := .ref (ad 10)) (C := RX9) (T := TX9) (N := 15) hx hb hts in_X9 hown hK hP 13 (obM_13 ad cI cJ I_11 J) rfl 12 (by decide) wd_1 (fun _ h9 => h9) rfl dX9_map_62 ?_
                refine lv_iload hx hb dX9_map_65 (lv_at hl 4 rfl) ?_
                obtain ⟨h_13, hf⟩ := gd_some hf
                refine x_iald hx hb hK (aiM_10 ad cI cJ) hP h_13 dX9_map_67 ?_
                refine lv_goto (tgt := 72) hx hb dX9_map_68 (by decide) ?_
                cases hf
                exact xRi hx hb hr hlocks hK hP hD hS (fun _ h => h) dX9_map_72
          · have hf := (if_pos c_9).symm.trans hf
            refine lv_bipush (v := (-3 : Int32)) hx hb dX9_map_39 (by decide) ?_
            cases hf
            exact xRi hx hb hr hlocks hK hP hD hS (fun _ h => h) dX9_map_41
        · have hf := (if_pos c_7).symm.trans hf
          refine lv_bipush (v := (-2 : Int32)) hx hb dX9_map_28 (by decide) ?_
          cases hf
          exact xRi hx hb hr hlocks hK hP hD hS (fun _ h => h) dX9_map_30
set_option maxHeartbeats 4000000 in
set_option maxRecDepth 100000 in
theorem c_X9_layLines (l : Launch) (dC : Nat → ClassId) (dI : Nat → Nat → Nat) (ad : Nat → Nat) (cI cJ cT : ClassId) (p1 : Int32) (p2 : Int32) (I : SI) (J : SJ) {I0 : SI} (hf : f_X9_layLines p1 p2 I = some I0) : CtV l yX9_layLines wsX9_layLines ({ frames := 1, cells := 0, slots := 0, locals := 24 } : Room) (dC, dI) (tys3 cI cJ cT) (wM ad cI cJ) [.ref (ad 13), .int p1, .int p2] I J I0 J := by
  intro sz
  refine Met.ofW (cc := cX9_layLines) (maxL := 7) (ret := none) (by decide) rfl ?_
  intro p e s m args below meth c s₁ B hml hv
  obtain ⟨hargs, hsz, hP, hK, hD0⟩ := hv
  have hx := B.exec
  have hb := B.bytes
  have hr := B.returns
  have hts := atoms_spec (ws := wsX9_layLines) B.pre
  have hown : s.vm.findClass RX9 = some m.cls := findClass_of_methodNamed B.named
  have hlocks := B.notSynchronized
  subst hsz
  have hD := hD0.self (sz := s.heap.size)
  generalize hAe : va_A ((wM ad cI cJ) I J) s.heap.size = A at hD ⊢
  have hA : ∀ q : Nat, s.heap.size ≤ q → A q := fun q h => by rw [← hAe]; exact Or.inr h
  have hS : va_S A s.heap s.heap [] := va_S.rf
  have hl := lv_entry ([.ref (ad 13), .int p1, .int p2]) (n := 7) (Nat.le_of_ble_eq_true rfl)
  rw [hargs, lg_entry_eq, ← hargs]
  generalize (lg_sl ([.ref (ad 13), .int p1, .int p2]) ++ List.replicate (7 - (lg_sl ([.ref (ad 13), .int p1, .int p2])).length) Slot.unset).toArray = ls at hl ⊢
  have hl : lv_has ls 7 [(0, .ref (ad 13)), (1, .int p1), (2, .int p2)] := hl
  have hfix : CallFix p m c cX9_layLines 7 s args wsX9_layLines RX9 := ⟨hx, hb, hml, hown, hts⟩
  have in_X9 : ∀ w ∈ u_ws RX9 TX9 15, w ∈ wsX9_layLines := by decide +kernel
  have wd_0 := hts (.fieldLink RX9 7 "FuseBenchModel" "ranks" "[I") (by decide +kernel)
  have wd_1 := hts (.fieldLink RX9 44 "FuseBenchModel" "lines" "[I") (by decide +kernel)
  have L32 : ∀ (Q : State → Prop) (v1 : Int32) (v2 : Int32) (v3 : Int32) (v4 : Int32) (I : SI) (J : SJ) (o : Int32), (∀ (w5 : Int32) (H : Heap) (locs : List Loc) (ls : Array Slot), o = w5 → va_P (dC, dI) vwCl ((wM ad cI cJ) I J) H → va_D A ((wM ad cI cJ) I J) → va_S A s.heap H locs → lv_has ls 7 [(0, .ref (ad 13)), (1, .int v1), (2, .int v2), (3, .int v3), (4, .int v4), (5, .int w5)] → W p l e ({ frames := 1, cells := 0, slots := 0, locals := 24 } : Room) s m args below meth c H locs 0 0 Q (F0 m 64 ls [])) → ∀ (n : Nat) (v5 : Int32) (v6 : Int32) (H : Heap) (locs : List Loc) (ls : Array Slot), lp_X9_layLines_32 v1 v2 v3 v4 I n v5 v6 = some o → va_P (dC, dI) vwCl ((wM ad cI cJ) I J) H → va_D A ((wM ad cI cJ) I J) → va_S A s.heap H locs → lv_has ls 7 [(0, .ref (ad 13)), (1, .int v1), (2, .int v2), (3, .int v3), (4, .int v4), (5, .int v5), (6, .int v6)] → W p l e ({ frames := 1, cells := 0, slots := 0, locals := 24 } : Room) s m args below meth c H locs 0 0 Q (F0 m 32 ls []) := by
    intro Q v1 v2 v3 v4 I J o K0 n
    clear hP hD hS hl
    induction n with
    | zero =>
      intro v5 v6 H locs ls hf
      rw [lp_X9_layLines_32.eq_1] at hf
      cases hf
    | succ n ih =>
      intro v5 v6 H locs ls hf hP hD hS hl
      rw [lp_X9_layLines_32.eq_2] at hf
      refine lv_iload hx hb dX9_layLines_32 (lv_at hl 6 rfl) ?_
      refine lv_aload_n hx hb dX9_layLines_34 rfl (lv_at hl 0 rfl) ?_
      refine va_get (D := (dC, dI)) (ci := 8) (v := .ref (ad 0)) (C := RX9) (T := TX9) (N := 15) hx hb hts in_X9 hown hK hP 13 (obM_13 ad cI cJ I J) rfl 0 (by decide) wd_0 (fun _ h9 => h9) rfl dX9_layLines_35 ?_
      refine lv_iload_n hx hb dX9_layLines_38 rfl (lv_at hl 1 rfl) ?_
      obtain ⟨h_1, hf⟩ := gd_some hf
      refine x_iald hx hb hK (aiM_0 ad cI cJ) hP h_1 dX9_layLines_39 ?_
      refine lv_icmp_ge (tgt := 64) hx hb dX9_layLines_40 (by decide) (fun c_2 => ?_) (fun c_2 => ?_)
      · have hf := (if_pos c_2).symm.trans hf
        exact K0 _ _ _ _ (Option.some.inj hf).symm hP hD hS (lv_sub hl [0, 1, 2, 3, 4, 5] rfl)
      · have hf := (if_neg c_2).symm.trans hf
        refine lv_iload hx hb dX9_layLines_43 (lv_at hl 5 rfl) ?_
        refine lv_aload_n hx hb dX9_layLines_45 rfl (lv_at hl 0 rfl) ?_
        refine lv_iload_n hx hb dX9_layLines_46 rfl (lv_at hl 1 rfl) ?_
        refine lv_iload hx hb dX9_layLines_47 (lv_at hl 6 rfl) ?_
        refine lv_iload_n hx hb dX9_layLines_49 rfl (lv_at hl 3 rfl) ?_
        refine lv_iload hx hb dX9_layLines_50 (lv_at hl 4 rfl) ?_
        obtain ⟨r_3, hg_3, hf⟩ := bd_some hf
        refine xVi (rest := [.int v5]) (c_X9_n l dC dI ad cI cJ cT v1 v6 v3 v4 I J hg_3) hfix (cwV 4 hts gX9_layLines_X9_n rfl rfl rfl (by decide +kernel) ⟨Nat.le_of_ble_eq_true rfl, Nat.le_of_ble_eq_true rfl⟩) hK hP hD hS hA (va_recv hK hP (ci := 8) (q0 := 13) rfl (obM_13 ad cI cJ I J)) rfl hl.1 rfl (Nat.le_of_ble_eq_true rfl) ⟨Nat.zero_le _, Nat.zero_le _⟩ dX9_layLines_52 (fun H locs hP hD hS => ?_)
        refine lv_iadd hx hb dX9_layLines_55 ?_
        refine lv_istore (lv' := [(5, .int (v5 + r_3)), (0, .ref (ad 13)), (1, .int v1), (2, .int v2), (3, .int v3), (4, .int v4), (6, .int v6)]) hx hb dX9_layLines_56 hl (by decide) rfl (fun ls hl => ?_)
        refine lv_iinc (v := (v6 + (1 : Int32))) (lv' := [(6, .int (v6 + (1 : Int32))), (5, .int (v5 + r_3)), (0, .ref (ad 13)), (1, .int v1), (2, .int v2), (3, .int v3), (4, .int v4)]) hx hb dX9_layLines_58 hl (k := 6) rfl (by first | rfl | decide) (by decide) rfl (fun ls hl => ?_)
        refine lv_goto (tgt := 32) hx hb dX9_layLines_61 (by decide) ?_
        exact ih _ _ _ _ _ hf hP hD hS (lv_sub hl [2, 3, 4, 5, 6, 1, 0] rfl)
  have L15 : ∀ (Q : State → Prop) (v1 : Int32) (v2 : Int32) (v3 : Int32) (J : SJ) (o : SI), (∀  (I : SI) (H : Heap) (locs : List Loc) (ls : Array Slot), o = I → va_P (dC, dI) vwCl ((wM ad cI cJ) I J) H → va_D A ((wM ad cI cJ) I J) → va_S A s.heap H locs → lv_has ls 7 [(0, .ref (ad 13)), (1, .int v1), (2, .int v2), (3, .int v3)] → W p l e ({ frames := 1, cells := 0, slots := 0, locals := 24 } : Room) s m args below meth c H locs 0 0 Q (F0 m 98 ls [])) → ∀ (n : Nat) (v4 : Int32) (I : SI) (H : Heap) (locs : List Loc) (ls : Array Slot), lp_X9_layLines_15 v1 v2 v3 n v4 I = some o → va_P (dC, dI) vwCl ((wM ad cI cJ) I J) H → va_D A ((wM ad cI cJ) I J) → va_S A s.heap H locs → lv_has ls 7 [(0, .ref (ad 13)), (1, .int v1), (2, .int v2), (3, .int v3), (4, .int v4)] → W p l e ({ frames := 1, cells := 0, slots := 0, locals := 24 } : Room) s m args below meth c H locs 0 0 Q (F0 m 15 ls []) := by
    intro Q v1 v2 v3 J o K0 n
    clear hP hD hS hl
    induction n with
    | zero =>
      intro v4 I H locs ls hf
      rw [lp_X9_layLines_15.eq_1] at hf
      cases hf
    | succ n ih =>
      intro v4 I H locs ls hf hP hD hS hl
      rw [lp_X9_layLines_15.eq_2] at hf
      refine lv_iload hx hb dX9_layLines_15 (lv_at hl 4 rfl) ?_
      refine lv_aload_n hx hb dX9_layLines_17 rfl (lv_at hl 0 rfl) ?_
      refine va_get (D := (dC, dI)) (ci := 8) (v := .ref (ad 0)) (C := RX9) (T := TX9) (N := 15) hx hb hts in_X9 hown hK hP 13 (obM_13 ad cI cJ I J) rfl 0 (by decide) wd_0 (fun _ h9 => h9) rfl dX9_layLines_18 ?_
      refine lv_iload_n hx hb dX9_layLines_21 rfl (lv_at hl 1 rfl) ?_
      obtain ⟨h_4, hf⟩ := gd_some hf
      refine x_iald hx hb hK (aiM_0 ad cI cJ) hP h_4 dX9_layLines_22 ?_
      refine lv_icmp_ge (tgt := 98) hx hb dX9_layLines_23 (by decide) (fun c_5 => ?_) (fun c_5 => ?_)
      · have hf := (if_pos c_5).symm.trans hf
        exact K0 _ _ _ _ (Option.some.inj hf).symm hP hD hS (lv_sub hl [0, 1, 2, 3] rfl)
      · have hf := (if_neg c_5).symm.trans hf
        refine lv_iconst (v := (0 : Int32)) hx hb dX9_layLines_26 (by decide) ?_
        refine lv_istore (lv' := [(5, .int (0 : Int32)), (0, .ref (ad 13)), (1, .int v1), (2, .int v2), (3, .int v3), (4, .int v4)]) hx hb dX9_layLines_27 hl (by decide) rfl (fun ls hl => ?_)
        refine lv_iconst (v := (0 : Int32)) hx hb dX9_layLines_29 (by decide) ?_
        refine lv_istore (lv' := [(6, .int (0 : Int32)), (5, .int (0 : Int32)), (0, .ref (ad 13)), (1, .int v1), (2, .int v2), (3, .int v3), (4, .int v4)]) hx hb dX9_layLines_30 hl (by decide) rfl (fun ls hl => ?_)
        obtain ⟨o_6, hg_6, hf⟩ := bd_some hf
        refine L32 _ v1 v2 v3 v4 I J o_6 ?_ FU (0 : Int32) (0 : Int32) _ _ _ hg_6 hP hD hS (lv_sub hl [2, 3, 4, 5, 6, 1, 0] rfl)
        · intro w5_6 H locs ls ho hP hD hS hl
          subst o_6
          refine lv_aload_n hx hb dX9_layLines_64 rfl (lv_at hl 0 rfl) ?_
          refine va_get (D := (dC, dI)) (ci := 8) (v := .ref (ad 11)) (C := RX9) (T := TX9) (N := 15) hx hb hts in_X9 hown hK hP 13 (obM_13 ad cI cJ I J) rfl 13 (by decide) wd_1 (fun _ h9 => h9) rfl dX9_layLines_65 ?_
          refine lv_iconst (v := (5 : Int32)) hx hb dX9_layLines_68 (by decide) ?_
          refine lv_iload_n hx hb dX9_layLines_69 rfl (lv_at hl 3 rfl) ?_
          refine lv_imul hx hb dX9_layLines_70 ?_
          refine lv_iload hx hb dX9_layLines_71 (lv_at hl 4 rfl) ?_
          refine lv_iadd hx hb dX9_layLines_73 ?_
          refine lv_iload_n hx hb dX9_layLines_74 rfl (lv_at hl 3 rfl) ?_
          refine lv_iload hx hb dX9_layLines_75 (lv_at hl 4 rfl) ?_
          refine lv_icmp_ne (tgt := 84) hx hb dX9_layLines_77 (by decide) (fun c_7 => ?_) (fun c_7 => ?_)
          · have hf := (if_neg c_7).symm.trans hf
            refine lv_iconst (v := (0 : Int32)) hx hb dX9_layLines_84 (by decide) ?_
            refine lv_bipush (v := (10 : Int32)) hx hb dX9_layLines_85 (by decide) ?_
            refine lv_iload hx hb dX9_layLines_87 (lv_at hl 5 rfl) ?_
            refine lv_imul hx hb dX9_layLines_89 ?_
            refine lv_isub hx hb dX9_layLines_90 ?_
            obtain ⟨h_8, hf⟩ := gd_some hf
            refine x_iast hx hb hK (aiM_11 ad cI cJ) hP hD hS h_8 dX9_layLines_91 (fun H locs hP hD hS => ?_)
            refine lv_iinc (v := (v4 + (1 : Int32))) (lv' := [(4, .int (v4 + (1 : Int32))), (0, .ref (ad 13)), (1, .int v1), (2, .int v2), (3, .int v3), (5, .int w5_6)]) hx hb dX9_layLines_92 hl (k := 4) rfl (by first | rfl | decide) (by decide) rfl (fun ls hl => ?_)
            refine lv_goto (tgt := 15) hx hb dX9_layLines_95 (by decide) ?_
            exact ih _ _ _ _ _ hf hP hD hS (lv_sub hl [1, 2, 3, 4, 0] rfl)
          · have hf := (if_pos c_7).symm.trans hf
            refine lv_iload_n hx hb dX9_layLines_80 rfl (lv_at hl 2 rfl) ?_
            refine lv_goto (tgt := 85) hx hb dX9_layLines_81 (by decide) ?_
            refine lv_bipush (v := (10 : Int32)) hx hb dX9_layLines_85 (by decide) ?_
            refine lv_iload hx hb dX9_layLines_87 (lv_at hl 5 rfl) ?_
            refine lv_imul hx hb dX9_layLines_89 ?_
            refine lv_isub hx hb dX9_layLines_90 ?_
            obtain ⟨h_9, hf⟩ := gd_some hf
            refine x_iast hx hb hK (aiM_11 ad cI cJ) hP hD hS h_9 dX9_layLines_91 (fun H locs hP hD hS => ?_)
            refine lv_iinc (v := (v4 + (1 : Int32))) (lv' := [(4, .int (v4 + (1 : Int32))), (0, .ref (ad 13)), (1, .int v1), (2, .int v2), (3, .int v3), (5, .int w5_6)]) hx hb dX9_layLines_92 hl (k := 4) rfl (by first | rfl | decide) (by decide) rfl (fun ls hl => ?_)
            refine lv_goto (tgt := 15) hx hb dX9_layLines_95 (by decide) ?_
            exact ih _ _ _ _ _ hf hP hD hS (lv_sub hl [1, 2, 3, 4, 0] rfl)
  have L2 : ∀ (Q : State → Prop) (v1 : Int32) (v2 : Int32) (J : SJ) (o : SI), (∀  (I : SI) (H : Heap) (locs : List Loc) (ls : Array Slot), o = I → va_P (dC, dI) vwCl ((wM ad cI cJ) I J) H → va_D A ((wM ad cI cJ) I J) → va_S A s.heap H locs → lv_has ls 7 [] → W p l e ({ frames := 1, cells := 0, slots := 0, locals := 24 } : Room) s m args below meth c H locs 0 0 Q (F0 m 104 ls [])) → ∀ (n : Nat) (v3 : Int32) (I : SI) (H : Heap) (locs : List Loc) (ls : Array Slot), lp_X9_layLines_2 v1 v2 n v3 I = some o → va_P (dC, dI) vwCl ((wM ad cI cJ) I J) H → va_D A ((wM ad cI cJ) I J) → va_S A s.heap H locs → lv_has ls 7 [(0, .ref (ad 13)), (1, .int v1), (2, .int v2), (3, .int v3)] → W p l e ({ frames := 1, cells := 0, slots := 0, locals := 24 } : Room) s m args below meth c H locs 0 0 Q (F0 m 2 ls []) := by
    intro Q v1 v2 J o K0 n
    clear hP hD hS hl
    induction n with
    | zero =>
      intro v3 I H locs ls hf
      rw [lp_X9_layLines_2.eq_1] at hf
      cases hf
    | succ n ih =>
      intro v3 I H locs ls hf hP hD hS hl
      rw [lp_X9_layLines_2.eq_2] at hf
      refine lv_iload_n hx hb dX9_layLines_2 rfl (lv_at hl 3 rfl) ?_
      refine lv_aload_n hx hb dX9_layLines_3 rfl (lv_at hl 0 rfl) ?_
      refine va_get (D := (dC, dI)) (ci := 8) (v := .ref (ad 0)) (C := RX9) (T := TX9) (N := 15) hx hb hts in_X9 hown hK hP 13 (obM_13 ad cI cJ I J) rfl 0 (by decide) wd_0 (fun _ h9 => h9) rfl dX9_layLines_4 ?_
      refine lv_iload_n hx hb dX9_layLines_7 rfl (lv_at hl 1 rfl) ?_
      obtain ⟨h_10, hf⟩ := gd_some hf
      refine x_iald hx hb hK (aiM_0 ad cI cJ) hP h_10 dX9_layLines_8 ?_
      refine lv_icmp_ge (tgt := 104) hx hb dX9_layLines_9 (by decide) (fun c_11 => ?_) (fun c_11 => ?_)
      · have hf := (if_pos c_11).symm.trans hf
        exact K0 _ _ _ _ (Option.some.inj hf).symm hP hD hS (lv_sub hl [] rfl)
      · have hf := (if_neg c_11).symm.trans hf
        refine lv_iconst (v := (0 : Int32)) hx hb dX9_layLines_12 (by decide) ?_
        refine lv_istore (lv' := [(4, .int (0 : Int32)), (0, .ref (ad 13)), (1, .int v1), (2, .int v2), (3, .int v3)]) hx hb dX9_layLines_13 hl (by decide) rfl (fun ls hl => ?_)
        obtain ⟨o_12, hg_12, hf⟩ := bd_some hf
        refine L15 _ v1 v2 v3 J o_12 ?_ FU (0 : Int32) I _ _ _ hg_12 hP hD hS (lv_sub hl [1, 2, 3, 4, 0] rfl)
        · intro I_12 H locs ls ho hP hD hS hl
          subst o_12
          refine lv_iinc (v := (v3 + (1 : Int32))) (lv' := [(3, .int (v3 + (1 : Int32))), (0, .ref (ad 13)), (1, .int v1), (2, .int v2)]) hx hb dX9_layLines_98 hl (k := 3) rfl (by first | rfl | decide) (by decide) rfl (fun ls hl => ?_)
          refine lv_goto (tgt := 2) hx hb dX9_layLines_101 (by decide) ?_
          exact ih _ _ _ _ _ hf hP hD hS (lv_sub hl [1, 2, 3, 0] rfl)
  unfold f_X9_layLines at hf
  refine lv_iconst (v := (0 : Int32)) hx hb dX9_layLines_0 (by decide) ?_
  refine lv_istore_n (lv' := [(3, .int (0 : Int32)), (0, .ref (ad 13)), (1, .int p1), (2, .int p2)]) hx hb dX9_layLines_1 rfl hl (by decide) rfl (fun ls hl => ?_)
  obtain ⟨o_13, hg_13, hf⟩ := bd_some hf
  refine L2 _ p1 p2 J o_13 ?_ FU (0 : Int32) I _ _ _ hg_13 hP hD hS (lv_sub hl [1, 2, 3, 0] rfl)
  · intro I_13 H locs ls ho hP hD hS hl
    subst o_13
    cases hf
    exact xRv hx hb hr hlocks hK hP hD hS (fun _ h => h) dX9_layLines_104
set_option maxHeartbeats 4000000 in
set_option maxRecDepth 100000 in
theorem c_X9_layTurn (l : Launch) (dC : Nat → ClassId) (dI : Nat → Nat → Nat) (ad : Nat → Nat) (cI cJ cT : ClassId) (p1 : Int32) (p2 : Int32) (I : SI) (J : SJ) {r0 : Int32} {I0 : SI} (hf : f_X9_layTurn p1 p2 I = some (r0, I0)) : CtI l yX9_layTurn wsX9_layTurn ({ frames := 0, cells := 0, slots := 0, locals := 0 } : Room) (dC, dI) (tys3 cI cJ cT) (wM ad cI cJ) [.ref (ad 13), .int p1, .int p2] I J r0 I0 J := by
  intro sz
  refine Met.ofW (cc := cX9_layTurn) (maxL := 7) (ret := (some .int)) (by decide) rfl ?_
  intro p e s m args below meth c s₁ B hml hv
  obtain ⟨hargs, hsz, hP, hK, hD0⟩ := hv
  have hx := B.exec
  have hb := B.bytes
  have hr := B.returns
  have hts := atoms_spec (ws := wsX9_layTurn) B.pre
  have hown : s.vm.findClass RX9 = some m.cls := findClass_of_methodNamed B.named
  have hlocks := B.notSynchronized
  subst hsz
  have hD := hD0.self (sz := s.heap.size)
  generalize hAe : va_A ((wM ad cI cJ) I J) s.heap.size = A at hD ⊢
  have hA : ∀ q : Nat, s.heap.size ≤ q → A q := fun q h => by rw [← hAe]; exact Or.inr h
  have hS : va_S A s.heap s.heap [] := va_S.rf
  have hl := lv_entry ([.ref (ad 13), .int p1, .int p2]) (n := 7) (Nat.le_of_ble_eq_true rfl)
  rw [hargs, lg_entry_eq, ← hargs]
  generalize (lg_sl ([.ref (ad 13), .int p1, .int p2]) ++ List.replicate (7 - (lg_sl ([.ref (ad 13), .int p1, .int p2])).length) Slot.unset).toArray = ls at hl ⊢
  have hl : lv_has ls 7 [(0, .ref (ad 13)), (1, .int p1), (2, .int p2)] := hl
  have hfix : CallFix p m c cX9_layTurn 7 s args wsX9_layTurn RX9 := ⟨hx, hb, hml, hown, hts⟩
  have in_X9 : ∀ w ∈ u_ws RX9 TX9 15, w ∈ wsX9_layTurn := by decide +kernel
  have wd_0 := hts (.fieldLink RX9 47 "FuseBenchModel" "turn" "[I") (by decide +kernel)
  have L31 : ∀ (Q : State → Prop) (v1 : Int32) (v3 : Int32) (v5 : Int32) (I : SI) (J : SJ) (o : Int32), (∀ (w4 : Int32) (H : Heap) (locs : List Loc) (ls : Array Slot), o = w4 → va_P (dC, dI) vwCl ((wM ad cI cJ) I J) H → va_D A ((wM ad cI cJ) I J) → va_S A s.heap H locs → lv_has ls 7 [(0, .ref (ad 13)), (1, .int v1), (3, .int v3), (4, .int w4), (5, .int v5)] → W p l e ({ frames := 0, cells := 0, slots := 0, locals := 0 } : Room) s m args below meth c H locs 0 0 Q (F0 m 93 ls [])) → ∀ (n : Nat) (v4 : Int32) (v6 : Int32) (H : Heap) (locs : List Loc) (ls : Array Slot), lp_X9_layTurn_31 v1 v3 v5 I n v4 v6 = some o → va_P (dC, dI) vwCl ((wM ad cI cJ) I J) H → va_D A ((wM ad cI cJ) I J) → va_S A s.heap H locs → lv_has ls 7 [(0, .ref (ad 13)), (1, .int v1), (3, .int v3), (4, .int v4), (5, .int v5), (6, .int v6)] → W p l e ({ frames := 0, cells := 0, slots := 0, locals := 0 } : Room) s m args below meth c H locs 0 0 Q (F0 m 31 ls []) := by
    intro Q v1 v3 v5 I J o K0 n
    clear hP hD hS hl
    induction n with
    | zero =>
      intro v4 v6 H locs ls hf
      rw [lp_X9_layTurn_31.eq_1] at hf
      cases hf
    | succ n ih =>
      intro v4 v6 H locs ls hf hP hD hS hl
      rw [lp_X9_layTurn_31.eq_2] at hf
      refine lv_iload hx hb dX9_layTurn_31 (lv_at hl 5 rfl) ?_
      refine lv_iload hx hb dX9_layTurn_33 (lv_at hl 4 rfl) ?_
      refine lv_icmp_ge (tgt := 93) hx hb dX9_layTurn_35 (by decide) (fun c_1 => ?_) (fun c_1 => ?_)
      · have hf := (if_pos c_1).symm.trans hf
        exact K0 _ _ _ _ (Option.some.inj hf).symm hP hD hS (lv_sub hl [0, 1, 2, 3, 4] rfl)
      · have hf := (if_neg c_1).symm.trans hf
        refine lv_aload_n hx hb dX9_layTurn_38 rfl (lv_at hl 0 rfl) ?_
        refine va_get (D := (dC, dI)) (ci := 8) (v := .ref (ad 12)) (C := RX9) (T := TX9) (N := 15) hx hb hts in_X9 hown hK hP 13 (obM_13 ad cI cJ I J) rfl 14 (by decide) wd_0 (fun _ h9 => h9) rfl dX9_layTurn_39 ?_
        refine lv_iload hx hb dX9_layTurn_42 (lv_at hl 5 rfl) ?_
        obtain ⟨h_2, hf⟩ := gd_some hf
        refine x_iald hx hb hK (aiM_12 ad cI cJ) hP h_2 dX9_layTurn_44 ?_
        refine lv_aload_n hx hb dX9_layTurn_45 rfl (lv_at hl 0 rfl) ?_
        refine va_get (D := (dC, dI)) (ci := 8) (v := .ref (ad 12)) (C := RX9) (T := TX9) (N := 15) hx hb hts in_X9 hown hK hP 13 (obM_13 ad cI cJ I J) rfl 14 (by decide) wd_0 (fun _ h9 => h9) rfl dX9_layTurn_46 ?_
        refine lv_iload hx hb dX9_layTurn_49 (lv_at hl 4 rfl) ?_
        obtain ⟨h_3, hf⟩ := gd_some hf
        refine x_iald hx hb hK (aiM_12 ad cI cJ) hP h_3 dX9_layTurn_51 ?_
        refine lv_icmp_ne (tgt := 59) hx hb dX9_layTurn_52 (by decide) (fun c_4 => ?_) (fun c_4 => ?_)
        · have hf := (if_neg c_4).symm.trans hf
          refine lv_aload_n hx hb dX9_layTurn_59 rfl (lv_at hl 0 rfl) ?_
          refine va_get (D := (dC, dI)) (ci := 8) (v := .ref (ad 12)) (C := RX9) (T := TX9) (N := 15) hx hb hts in_X9 hown hK hP 13 (obM_13 ad cI cJ I J) rfl 14 (by decide) wd_0 (fun _ h9 => h9) rfl dX9_layTurn_60 ?_
          refine lv_iload hx hb dX9_layTurn_63 (lv_at hl 5 rfl) ?_
          obtain ⟨h_5, hf⟩ := gd_some hf
          refine x_iald hx hb hK (aiM_12 ad cI cJ) hP h_5 dX9_layTurn_65 ?_
          refine lv_aload_n hx hb dX9_layTurn_66 rfl (lv_at hl 0 rfl) ?_
          refine va_get (D := (dC, dI)) (ci := 8) (v := .ref (ad 12)) (C := RX9) (T := TX9) (N := 15) hx hb hts in_X9 hown hK hP 13 (obM_13 ad cI cJ I J) rfl 14 (by decide) wd_0 (fun _ h9 => h9) rfl dX9_layTurn_67 ?_
          refine lv_iload hx hb dX9_layTurn_70 (lv_at hl 4 rfl) ?_
          obtain ⟨h_6, hf⟩ := gd_some hf
          refine x_iald hx hb hK (aiM_12 ad cI cJ) hP h_6 dX9_layTurn_72 ?_
          refine lv_icmp_le (tgt := 83) hx hb dX9_layTurn_73 (by decide) (fun c_7 => ?_) (fun c_7 => ?_)
          · have hf := (if_pos c_7).symm.trans hf
            refine lv_iload hx hb dX9_layTurn_83 (lv_at hl 3 rfl) ?_
            refine lv_istore (lv' := [(4, .int v4), (0, .ref (ad 13)), (1, .int v1), (3, .int v3), (5, .int v5), (6, .int v6)]) hx hb dX9_layTurn_85 hl (by decide) rfl (fun ls hl => ?_)
            refine lv_iinc (v := (v6 + (1 : Int32))) (lv' := [(6, .int (v6 + (1 : Int32))), (4, .int v4), (0, .ref (ad 13)), (1, .int v1), (3, .int v3), (5, .int v5)]) hx hb dX9_layTurn_87 hl (k := 5) rfl (by first | rfl | decide) (by decide) rfl (fun ls hl => ?_)
            refine lv_goto (tgt := 31) hx hb dX9_layTurn_90 (by decide) ?_
            exact ih _ _ _ _ _ hf hP hD hS (lv_sub hl [2, 3, 4, 1, 5, 0] rfl)
          · have hf := (if_neg c_7).symm.trans hf
            refine lv_iconst (v := (0 : Int32)) hx hb dX9_layTurn_76 (by decide) ?_
            refine lv_iload hx hb dX9_layTurn_77 (lv_at hl 3 rfl) ?_
            refine lv_isub hx hb dX9_layTurn_79 ?_
            refine lv_goto (tgt := 85) hx hb dX9_layTurn_80 (by decide) ?_
            refine lv_istore (lv' := [(4, .int ((0 : Int32) - v4)), (0, .ref (ad 13)), (1, .int v1), (3, .int v3), (5, .int v5), (6, .int v6)]) hx hb dX9_layTurn_85 hl (by decide) rfl (fun ls hl => ?_)
            refine lv_iinc (v := (v6 + (1 : Int32))) (lv' := [(6, .int (v6 + (1 : Int32))), (4, .int ((0 : Int32) - v4)), (0, .ref (ad 13)), (1, .int v1), (3, .int v3), (5, .int v5)]) hx hb dX9_layTurn_87 hl (k := 5) rfl (by first | rfl | decide) (by decide) rfl (fun ls hl => ?_)
            refine lv_goto (tgt := 31) hx hb dX9_layTurn_90 (by decide) ?_
            exact ih _ _ _ _ _ hf hP hD hS (lv_sub hl [2, 3, 4, 1, 5, 0] rfl)
        · have hf := (if_pos c_4).symm.trans hf
          refine lv_iconst (v := (0 : Int32)) hx hb dX9_layTurn_55 (by decide) ?_
          refine lv_goto (tgt := 85) hx hb dX9_layTurn_56 (by decide) ?_
          refine lv_istore (lv' := [(4, .int (0 : Int32)), (0, .ref (ad 13)), (1, .int v1), (3, .int v3), (5, .int v5), (6, .int v6)]) hx hb dX9_layTurn_85 hl (by decide) rfl (fun ls hl => ?_)
          refine lv_iinc (v := (v6 + (1 : Int32))) (lv' := [(6, .int (v6 + (1 : Int32))), (4, .int (0 : Int32)), (0, .ref (ad 13)), (1, .int v1), (3, .int v3), (5, .int v5)]) hx hb dX9_layTurn_87 hl (k := 5) rfl (by first | rfl | decide) (by decide) rfl (fun ls hl => ?_)
          refine lv_goto (tgt := 31) hx hb dX9_layTurn_90 (by decide) ?_
          exact ih _ _ _ _ _ hf hP hD hS (lv_sub hl [2, 3, 4, 1, 5, 0] rfl)
  have L8 : ∀ (Q : State → Prop) (v1 : Int32) (J : SJ) (o : Int32 × SI), (∀ (w4 : Int32) (I : SI) (H : Heap) (locs : List Loc) (ls : Array Slot), o = (w4, I) → va_P (dC, dI) vwCl ((wM ad cI cJ) I J) H → va_D A ((wM ad cI cJ) I J) → va_S A s.heap H locs → lv_has ls 7 [(4, .int w4)] → W p l e ({ frames := 0, cells := 0, slots := 0, locals := 0 } : Room) s m args below meth c H locs 0 0 Q (F0 m 99 ls [])) → ∀ (n : Nat) (v3 : Int32) (v4 : Int32) (v5 : Int32) (I : SI) (H : Heap) (locs : List Loc) (ls : Array Slot), lp_X9_layTurn_8 v1 n v3 v4 v5 I = some o → va_P (dC, dI) vwCl ((wM ad cI cJ) I J) H → va_D A ((wM ad cI cJ) I J) → va_S A s.heap H locs → lv_has ls 7 [(0, .ref (ad 13)), (1, .int v1), (3, .int v3), (4, .int v4), (5, .int v5)] → W p l e ({ frames := 0, cells := 0, slots := 0, locals := 0 } : Room) s m args below meth c H locs 0 0 Q (F0 m 8 ls []) := by
    intro Q v1 J o K0 n
    clear hP hD hS hl
    induction n with
    | zero =>
      intro v3 v4 v5 I H locs ls hf
      rw [lp_X9_layTurn_8.eq_1] at hf
      cases hf
    | succ n ih =>
      intro v3 v4 v5 I H locs ls hf hP hD hS hl
      rw [lp_X9_layTurn_8.eq_2] at hf
      refine lv_iload hx hb dX9_layTurn_8 (lv_at hl 4 rfl) ?_
      refine lv_iload_n hx hb dX9_layTurn_10 rfl (lv_at hl 1 rfl) ?_
      refine lv_icmp_ge (tgt := 99) hx hb dX9_layTurn_11 (by decide) (fun c_8 => ?_) (fun c_8 => ?_)
      · have hf := (if_pos c_8).symm.trans hf
        exact K0 _ _ _ _ _ (Option.some.inj hf).symm hP hD hS (lv_sub hl [3] rfl)
      · have hf := (if_neg c_8).symm.trans hf
        refine lv_aload_n hx hb dX9_layTurn_14 rfl (lv_at hl 0 rfl) ?_
        refine va_get (D := (dC, dI)) (ci := 8) (v := .ref (ad 12)) (C := RX9) (T := TX9) (N := 15) hx hb hts in_X9 hown hK hP 13 (obM_13 ad cI cJ I J) rfl 14 (by decide) wd_0 (fun _ h9 => h9) rfl dX9_layTurn_15 ?_
        refine lv_iload hx hb dX9_layTurn_18 (lv_at hl 4 rfl) ?_
        refine lv_iload_n hx hb dX9_layTurn_20 rfl (lv_at hl 2 rfl) ?_
        refine lv_iload_n hx hb dX9_layTurn_21 rfl (lv_at hl 1 rfl) ?_
        obtain ⟨h_9, hf⟩ := gd_some hf
        refine lv_irem hx hb dX9_layTurn_22 h_9 ?_
        obtain ⟨h_10, hf⟩ := gd_some hf
        refine x_iast hx hb hK (aiM_12 ad cI cJ) hP hD hS h_10 dX9_layTurn_23 (fun H locs hP hD hS => ?_)
        refine lv_iload_n hx hb dX9_layTurn_24 rfl (lv_at hl 2 rfl) ?_
        refine lv_iload_n hx hb dX9_layTurn_25 rfl (lv_at hl 1 rfl) ?_
        obtain ⟨h_11, hf⟩ := gd_some hf
        refine lv_idiv hx hb dX9_layTurn_26 h_11 ?_
        refine lv_istore_n (lv' := [(3, .int (v3 / v1)), (0, .ref (ad 13)), (1, .int v1), (4, .int v4), (5, .int v5)]) hx hb dX9_layTurn_27 rfl hl (by decide) rfl (fun ls hl => ?_)
        refine lv_iconst (v := (0 : Int32)) hx hb dX9_layTurn_28 (by decide) ?_
        refine lv_istore (lv' := [(6, .int (0 : Int32)), (3, .int (v3 / v1)), (0, .ref (ad 13)), (1, .int v1), (4, .int v4), (5, .int v5)]) hx hb dX9_layTurn_29 hl (by decide) rfl (fun ls hl => ?_)
        obtain ⟨o_12, hg_12, hf⟩ := bd_some hf
        refine L31 _ v1 (v3 / v1) v5 (ups I 12 v5.toNatClampNeg (v3 - v3 / v1 * v1)) J o_12 ?_ FU v4 (0 : Int32) _ _ _ hg_12 hP hD hS (lv_sub hl [2, 3, 1, 4, 5, 0] rfl)
        · intro w4_12 H locs ls ho hP hD hS hl
          subst o_12
          refine lv_iinc (v := (v5 + (1 : Int32))) (lv' := [(5, .int (v5 + (1 : Int32))), (0, .ref (ad 13)), (1, .int v1), (3, .int (v3 / v1)), (4, .int w4_12)]) hx hb dX9_layTurn_93 hl (k := 4) rfl (by first | rfl | decide) (by decide) rfl (fun ls hl => ?_)
          refine lv_goto (tgt := 8) hx hb dX9_layTurn_96 (by decide) ?_
          exact ih _ _ _ _ _ _ _ hf hP hD hS (lv_sub hl [1, 2, 3, 4, 0] rfl)
  unfold f_X9_layTurn at hf
  refine lv_iload_n hx hb dX9_layTurn_0 rfl (lv_at hl 2 rfl) ?_
  refine lv_istore_n (lv' := [(3, .int p2), (0, .ref (ad 13)), (1, .int p1), (2, .int p2)]) hx hb dX9_layTurn_1 rfl hl (by decide) rfl (fun ls hl => ?_)
  refine lv_iconst (v := (1 : Int32)) hx hb dX9_layTurn_2 (by decide) ?_
  refine lv_istore (lv' := [(4, .int (1 : Int32)), (3, .int p2), (0, .ref (ad 13)), (1, .int p1), (2, .int p2)]) hx hb dX9_layTurn_3 hl (by decide) rfl (fun ls hl => ?_)
  refine lv_iconst (v := (0 : Int32)) hx hb dX9_layTurn_5 (by decide) ?_
  refine lv_istore (lv' := [(5, .int (0 : Int32)), (4, .int (1 : Int32)), (3, .int p2), (0, .ref (ad 13)), (1, .int p1), (2, .int p2)]) hx hb dX9_layTurn_6 hl (by decide) rfl (fun ls hl => ?_)
  obtain ⟨o_13, hg_13, hf⟩ := bd_some hf
  refine L8 _ p1 J o_13 ?_ FU p2 (1 : Int32) (0 : Int32) I _ _ _ hg_13 hP hD hS (lv_sub hl [3, 4, 2, 1, 0] rfl)
  · intro w4_13 I_13 H locs ls ho hP hD hS hl
    subst o_13
    refine lv_iload hx hb dX9_layTurn_99 (lv_at hl 0 rfl) ?_
    cases hf
    exact xRi hx hb hr hlocks hK hP hD hS (fun _ h => h) dX9_layTurn_101
set_option maxHeartbeats 4000000 in
set_option maxRecDepth 100000 in
theorem c_X9_isAbove (l : Launch) (dC : Nat → ClassId) (dI : Nat → Nat → Nat) (ad : Nat → Nat) (cI cJ cT : ClassId) (p1 : Int32) (I : SI) (J : SJ) {r0 : Int32} {I0 : SI} (hf : f_X9_isAbove p1 I = some (r0, I0)) : CtI l yX9_isAbove wsX9_isAbove ({ frames := 1, cells := 0, slots := 0, locals := 26 } : Room) (dC, dI) (tys3 cI cJ cT) (wM ad cI cJ) [.ref (ad 13), .int p1] I J r0 I0 J := by
  intro sz
  refine Met.ofW (cc := cX9_isAbove) (maxL := 14) (ret := (some .boolean)) (by decide) rfl ?_
  intro p e s m args below meth c s₁ B hml hv
  obtain ⟨hargs, hsz, hP, hK, hD0⟩ := hv
  have hx := B.exec
  have hb := B.bytes
  have hr := B.returns
  have hts := atoms_spec (ws := wsX9_isAbove) B.pre
  have hown : s.vm.findClass RX9 = some m.cls := findClass_of_methodNamed B.named
  have hlocks := B.notSynchronized
  subst hsz
  have hD := hD0.self (sz := s.heap.size)
  generalize hAe : va_A ((wM ad cI cJ) I J) s.heap.size = A at hD ⊢
  have hA : ∀ q : Nat, s.heap.size ≤ q → A q := fun q h => by rw [← hAe]; exact Or.inr h
  have hS : va_S A s.heap s.heap [] := va_S.rf
  have hl := lv_entry ([.ref (ad 13), .int p1]) (n := 14) (Nat.le_of_ble_eq_true rfl)
  rw [hargs, lg_entry_eq, ← hargs]
  generalize (lg_sl ([.ref (ad 13), .int p1]) ++ List.replicate (14 - (lg_sl ([.ref (ad 13), .int p1])).length) Slot.unset).toArray = ls at hl ⊢
  have hl : lv_has ls 14 [(0, .ref (ad 13)), (1, .int p1)] := hl
  have hfix : CallFix p m c cX9_isAbove 14 s args wsX9_isAbove RX9 := ⟨hx, hb, hml, hown, hts⟩
  have in_X9 : ∀ w ∈ u_ws RX9 TX9 15, w ∈ wsX9_isAbove := by decide +kernel
  have wd_0 := hts (.fieldLink RX9 44 "FuseBenchModel" "lines" "[I") (by decide +kernel)
  have wd_1 := hts (.fieldLink RX9 47 "FuseBenchModel" "turn" "[I") (by decide +kernel)
  have wd_2 := hts (.constantLong RX9 180 (1000000)) (by decide +kernel)
  have L11 : ∀ (Q : State → Prop) (v1 : Int32) (v2 : Int64) (v4 : Int64) (I : SI) (J : SJ) (o : Int32), (∀ (w6 : Int32) (H : Heap) (locs : List Loc) (ls : Array Slot), o = w6 → va_P (dC, dI) vwCl ((wM ad cI cJ) I J) H → va_D A ((wM ad cI cJ) I J) → va_S A s.heap H locs → lv_has ls 14 [(0, .ref (ad 13)), (1, .int v1), (2, .long v2), (4, .long v4), (6, .int w6)] → W p l e ({ frames := 1, cells := 0, slots := 0, locals := 26 } : Room) s m args below meth c H locs 0 0 Q (F0 m 29 ls [])) → ∀ (n : Nat) (v6 : Int32) (v7 : Int32) (H : Heap) (locs : List Loc) (ls : Array Slot), lp_X9_isAbove_11 v1 v2 v4 n v6 v7 = some o → va_P (dC, dI) vwCl ((wM ad cI cJ) I J) H → va_D A ((wM ad cI cJ) I J) → va_S A s.heap H locs → lv_has ls 14 [(0, .ref (ad 13)), (1, .int v1), (2, .long v2), (4, .long v4), (6, .int v6), (7, .int v7)] → W p l e ({ frames := 1, cells := 0, slots := 0, locals := 26 } : Room) s m args below meth c H locs 0 0 Q (F0 m 11 ls []) := by
    intro Q v1 v2 v4 I J o K0 n
    clear hP hD hS hl
    induction n with
    | zero =>
      intro v6 v7 H locs ls hf
      rw [lp_X9_isAbove_11.eq_1] at hf
      cases hf
    | succ n ih =>
      intro v6 v7 H locs ls hf hP hD hS hl
      rw [lp_X9_isAbove_11.eq_2] at hf
      refine lv_iload hx hb dX9_isAbove_11 (lv_at hl 5 rfl) ?_
      refine lv_iload_n hx hb dX9_isAbove_13 rfl (lv_at hl 1 rfl) ?_
      refine lv_icmp_ge (tgt := 29) hx hb dX9_isAbove_14 (by decide) (fun c_1 => ?_) (fun c_1 => ?_)
      · have hf := (if_pos c_1).symm.trans hf
        exact K0 _ _ _ _ (Option.some.inj hf).symm hP hD hS (lv_sub hl [0, 1, 2, 3, 4] rfl)
      · have hf := (if_neg c_1).symm.trans hf
        refine lv_iload hx hb dX9_isAbove_17 (lv_at hl 4 rfl) ?_
        refine lv_iload_n hx hb dX9_isAbove_19 rfl (lv_at hl 1 rfl) ?_
        refine lv_imul hx hb dX9_isAbove_20 ?_
        refine lv_istore (lv' := [(6, .int (v6 * v1)), (0, .ref (ad 13)), (1, .int v1), (2, .long v2), (4, .long v4), (7, .int v7)]) hx hb dX9_isAbove_21 hl (by decide) rfl (fun ls hl => ?_)
        refine lv_iinc (v := (v7 + (1 : Int32))) (lv' := [(7, .int (v7 + (1 : Int32))), (6, .int (v6 * v1)), (0, .ref (ad 13)), (1, .int v1), (2, .long v2), (4, .long v4)]) hx hb dX9_isAbove_23 hl (k := 5) rfl (by first | rfl | decide) (by decide) rfl (fun ls hl => ?_)
        refine lv_goto (tgt := 11) hx hb dX9_isAbove_26 (by decide) ?_
        exact ih _ _ _ _ _ hf hP hD hS (lv_sub hl [2, 3, 4, 5, 1, 0] rfl)
  have L64 : ∀ (Q : State → Prop) (v1 : Int32) (v2 : Int64) (v4 : Int64) (v6 : Int32) (v7 : Int32) (I : SI) (J : SJ) (o : Int64 × Int64), (∀ (w9 : Int64) (w11 : Int64) (H : Heap) (locs : List Loc) (ls : Array Slot), o = (w9, w11) → va_P (dC, dI) vwCl ((wM ad cI cJ) I J) H → va_D A ((wM ad cI cJ) I J) → va_S A s.heap H locs → lv_has ls 14 [(0, .ref (ad 13)), (1, .int v1), (2, .long v2), (4, .long v4), (6, .int v6), (7, .int v7), (9, .long w9), (11, .long w11)] → W p l e ({ frames := 1, cells := 0, slots := 0, locals := 26 } : Room) s m args below meth c H locs 0 0 Q (F0 m 142 ls [])) → ∀ (n : Nat) (v9 : Int64) (v11 : Int64) (v13 : Int32) (H : Heap) (locs : List Loc) (ls : Array Slot), lp_X9_isAbove_64 v1 v2 v4 v6 v7 I n v9 v11 v13 = some o → va_P (dC, dI) vwCl ((wM ad cI cJ) I J) H → va_D A ((wM ad cI cJ) I J) → va_S A s.heap H locs → lv_has ls 14 [(0, .ref (ad 13)), (1, .int v1), (2, .long v2), (4, .long v4), (6, .int v6), (7, .int v7), (9, .long v9), (11, .long v11), (13, .int v13)] → W p l e ({ frames := 1, cells := 0, slots := 0, locals := 26 } : Room) s m args below meth c H locs 0 0 Q (F0 m 64 ls []) := by
    intro Q v1 v2 v4 v6 v7 I J o K0 n
    clear hP hD hS hl
    induction n with
    | zero =>
      intro v9 v11 v13 H locs ls hf
      rw [lp_X9_isAbove_64.eq_1] at hf
      cases hf
    | succ n ih =>
      intro v9 v11 v13 H locs ls hf hP hD hS hl
      rw [lp_X9_isAbove_64.eq_2] at hf
      refine lv_iload hx hb dX9_isAbove_64 (lv_at hl 8 rfl) ?_
      refine lv_iload_n hx hb dX9_isAbove_66 rfl (lv_at hl 1 rfl) ?_
      refine lv_icmp_ge (tgt := 142) hx hb dX9_isAbove_67 (by decide) (fun c_2 => ?_) (fun c_2 => ?_)
      · have hf := (if_pos c_2).symm.trans hf
        exact K0 _ _ _ _ _ (Option.some.inj hf).symm hP hD hS (lv_sub hl [0, 1, 2, 3, 4, 5, 6, 7] rfl)
      · have hf := (if_neg c_2).symm.trans hf
        refine lv_lload hx hb dX9_isAbove_70 (lv_at hl 6 rfl) ?_
        refine lv_iload hx hb dX9_isAbove_72 (lv_at hl 8 rfl) ?_
        refine lv_iconst (v := (3 : Int32)) hx hb dX9_isAbove_74 (by decide) ?_
        refine lv_icmp_ge (tgt := 99) hx hb dX9_isAbove_75 (by decide) (fun c_3 => ?_) (fun c_3 => ?_)
        · have hf := (if_pos c_3).symm.trans hf
          refine lv_lconst (v := (1 : Int64)) hx hb dX9_isAbove_99 (by decide) ?_
          refine lv_lmul hx hb dX9_isAbove_100 ?_
          refine lv_lstore (lv' := [(9, .long (v9 * (1 : Int64))), (0, .ref (ad 13)), (1, .int v1), (2, .long v2), (4, .long v4), (6, .int v6), (7, .int v7), (11, .long v11), (13, .int v13)]) hx hb dX9_isAbove_101 hl (by decide) rfl (fun ls hl => ?_)
          refine lv_lload hx hb dX9_isAbove_103 (lv_at hl 7 rfl) ?_
          refine lv_iload hx hb dX9_isAbove_105 (lv_at hl 8 rfl) ?_
          refine lv_iconst (v := (3 : Int32)) hx hb dX9_isAbove_107 (by decide) ?_
          refine lv_icmp_ge (tgt := 115) hx hb dX9_isAbove_108 (by decide) (fun c_4 => ?_) (fun c_4 => ?_)
          · have hf := (if_pos c_4).symm.trans hf
            refine lv_aload_n hx hb dX9_isAbove_115 rfl (lv_at hl 1 rfl) ?_
            refine va_get (D := (dC, dI)) (ci := 8) (v := .ref (ad 11)) (C := RX9) (T := TX9) (N := 15) hx hb hts in_X9 hown hK hP 13 (obM_13 ad cI cJ I J) rfl 13 (by decide) wd_0 (fun _ h9 => h9) rfl dX9_isAbove_116 ?_
            refine lv_iconst (v := (5 : Int32)) hx hb dX9_isAbove_119 (by decide) ?_
            refine lv_iload hx hb dX9_isAbove_120 (lv_at hl 8 rfl) ?_
            refine lv_imul hx hb dX9_isAbove_122 ?_
            refine lv_aload_n hx hb dX9_isAbove_123 rfl (lv_at hl 1 rfl) ?_
            refine va_get (D := (dC, dI)) (ci := 8) (v := .ref (ad 12)) (C := RX9) (T := TX9) (N := 15) hx hb hts in_X9 hown hK hP 13 (obM_13 ad cI cJ I J) rfl 14 (by decide) wd_1 (fun _ h9 => h9) rfl dX9_isAbove_124 ?_
            refine lv_iload hx hb dX9_isAbove_127 (lv_at hl 8 rfl) ?_
            obtain ⟨h_5, hf⟩ := gd_some hf
            refine x_iald hx hb hK (aiM_12 ad cI cJ) hP h_5 dX9_isAbove_129 ?_
            refine lv_iadd hx hb dX9_isAbove_130 ?_
            obtain ⟨h_6, hf⟩ := gd_some hf
            refine x_iald hx hb hK (aiM_11 ad cI cJ) hP h_6 dX9_isAbove_131 ?_
            refine lv_i2l (v := (I 11 (((5 : Int32) * v13) + (I 12 v13.toNatClampNeg)).toNatClampNeg).toInt64) hx hb dX9_isAbove_132 rfl ?_
            refine lv_lmul hx hb dX9_isAbove_133 ?_
            refine lv_lstore (lv' := [(11, .long (v11 * ((I 11 (((5 : Int32) * v13) + (I 12 v13.toNatClampNeg)).toNatClampNeg).toInt64))), (9, .long (v9 * (1 : Int64))), (0, .ref (ad 13)), (1, .int v1), (2, .long v2), (4, .long v4), (6, .int v6), (7, .int v7), (13, .int v13)]) hx hb dX9_isAbove_134 hl (by decide) rfl (fun ls hl => ?_)
            refine lv_iinc (v := (v13 + (1 : Int32))) (lv' := [(13, .int (v13 + (1 : Int32))), (11, .long (v11 * ((I 11 (((5 : Int32) * v13) + (I 12 v13.toNatClampNeg)).toNatClampNeg).toInt64))), (9, .long (v9 * (1 : Int64))), (0, .ref (ad 13)), (1, .int v1), (2, .long v2), (4, .long v4), (6, .int v6), (7, .int v7)]) hx hb dX9_isAbove_136 hl (k := 8) rfl (by first | rfl | decide) (by decide) rfl (fun ls hl => ?_)
            refine lv_goto (tgt := 64) hx hb dX9_isAbove_139 (by decide) ?_
            exact ih _ _ _ _ _ _ hf hP hD hS (lv_sub hl [3, 4, 5, 6, 7, 8, 2, 1, 0] rfl)
          · have hf := (if_neg c_4).symm.trans hf
            refine lv_lconst (v := (1 : Int64)) hx hb dX9_isAbove_111 (by decide) ?_
            refine lv_goto (tgt := 133) hx hb dX9_isAbove_112 (by decide) ?_
            refine lv_lmul hx hb dX9_isAbove_133 ?_
            refine lv_lstore (lv' := [(11, .long (v11 * (1 : Int64))), (9, .long (v9 * (1 : Int64))), (0, .ref (ad 13)), (1, .int v1), (2, .long v2), (4, .long v4), (6, .int v6), (7, .int v7), (13, .int v13)]) hx hb dX9_isAbove_134 hl (by decide) rfl (fun ls hl => ?_)
            refine lv_iinc (v := (v13 + (1 : Int32))) (lv' := [(13, .int (v13 + (1 : Int32))), (11, .long (v11 * (1 : Int64))), (9, .long (v9 * (1 : Int64))), (0, .ref (ad 13)), (1, .int v1), (2, .long v2), (4, .long v4), (6, .int v6), (7, .int v7)]) hx hb dX9_isAbove_136 hl (k := 8) rfl (by first | rfl | decide) (by decide) rfl (fun ls hl => ?_)
            refine lv_goto (tgt := 64) hx hb dX9_isAbove_139 (by decide) ?_
            exact ih _ _ _ _ _ _ hf hP hD hS (lv_sub hl [3, 4, 5, 6, 7, 8, 2, 1, 0] rfl)
        · have hf := (if_neg c_3).symm.trans hf
          refine lv_aload_n hx hb dX9_isAbove_78 rfl (lv_at hl 0 rfl) ?_
          refine va_get (D := (dC, dI)) (ci := 8) (v := .ref (ad 11)) (C := RX9) (T := TX9) (N := 15) hx hb hts in_X9 hown hK hP 13 (obM_13 ad cI cJ I J) rfl 13 (by decide) wd_0 (fun _ h9 => h9) rfl dX9_isAbove_79 ?_
          refine lv_iconst (v := (5 : Int32)) hx hb dX9_isAbove_82 (by decide) ?_
          refine lv_iload hx hb dX9_isAbove_83 (lv_at hl 8 rfl) ?_
          refine lv_imul hx hb dX9_isAbove_85 ?_
          refine lv_aload_n hx hb dX9_isAbove_86 rfl (lv_at hl 0 rfl) ?_
          refine va_get (D := (dC, dI)) (ci := 8) (v := .ref (ad 12)) (C := RX9) (T := TX9) (N := 15) hx hb hts in_X9 hown hK hP 13 (obM_13 ad cI cJ I J) rfl 14 (by decide) wd_1 (fun _ h9 => h9) rfl dX9_isAbove_87 ?_
          refine lv_iload hx hb dX9_isAbove_90 (lv_at hl 8 rfl) ?_
          obtain ⟨h_7, hf⟩ := gd_some hf
          refine x_iald hx hb hK (aiM_12 ad cI cJ) hP h_7 dX9_isAbove_92 ?_
          refine lv_iadd hx hb dX9_isAbove_93 ?_
          obtain ⟨h_8, hf⟩ := gd_some hf
          refine x_iald hx hb hK (aiM_11 ad cI cJ) hP h_8 dX9_isAbove_94 ?_
          refine lv_i2l (v := (I 11 (((5 : Int32) * v13) + (I 12 v13.toNatClampNeg)).toNatClampNeg).toInt64) hx hb dX9_isAbove_95 rfl ?_
          refine lv_goto (tgt := 100) hx hb dX9_isAbove_96 (by decide) ?_
          refine lv_lmul hx hb dX9_isAbove_100 ?_
          refine lv_lstore (lv' := [(9, .long (v9 * ((I 11 (((5 : Int32) * v13) + (I 12 v13.toNatClampNeg)).toNatClampNeg).toInt64))), (0, .ref (ad 13)), (1, .int v1), (2, .long v2), (4, .long v4), (6, .int v6), (7, .int v7), (11, .long v11), (13, .int v13)]) hx hb dX9_isAbove_101 hl (by decide) rfl (fun ls hl => ?_)
          refine lv_lload hx hb dX9_isAbove_103 (lv_at hl 7 rfl) ?_
          refine lv_iload hx hb dX9_isAbove_105 (lv_at hl 8 rfl) ?_
          refine lv_iconst (v := (3 : Int32)) hx hb dX9_isAbove_107 (by decide) ?_
          refine lv_icmp_ge (tgt := 115) hx hb dX9_isAbove_108 (by decide) (fun c_9 => ?_) (fun c_9 => ?_)
          · have hf := (if_pos c_9).symm.trans hf
            refine lv_aload_n hx hb dX9_isAbove_115 rfl (lv_at hl 1 rfl) ?_
            refine va_get (D := (dC, dI)) (ci := 8) (v := .ref (ad 11)) (C := RX9) (T := TX9) (N := 15) hx hb hts in_X9 hown hK hP 13 (obM_13 ad cI cJ I J) rfl 13 (by decide) wd_0 (fun _ h9 => h9) rfl dX9_isAbove_116 ?_
            refine lv_iconst (v := (5 : Int32)) hx hb dX9_isAbove_119 (by decide) ?_
            refine lv_iload hx hb dX9_isAbove_120 (lv_at hl 8 rfl) ?_
            refine lv_imul hx hb dX9_isAbove_122 ?_
            refine lv_aload_n hx hb dX9_isAbove_123 rfl (lv_at hl 1 rfl) ?_
            refine va_get (D := (dC, dI)) (ci := 8) (v := .ref (ad 12)) (C := RX9) (T := TX9) (N := 15) hx hb hts in_X9 hown hK hP 13 (obM_13 ad cI cJ I J) rfl 14 (by decide) wd_1 (fun _ h9 => h9) rfl dX9_isAbove_124 ?_
            refine lv_iload hx hb dX9_isAbove_127 (lv_at hl 8 rfl) ?_
            obtain ⟨h_10, hf⟩ := gd_some hf
            refine x_iald hx hb hK (aiM_12 ad cI cJ) hP h_10 dX9_isAbove_129 ?_
            refine lv_iadd hx hb dX9_isAbove_130 ?_
            obtain ⟨h_11, hf⟩ := gd_some hf
            refine x_iald hx hb hK (aiM_11 ad cI cJ) hP h_11 dX9_isAbove_131 ?_
            refine lv_i2l (v := (I 11 (((5 : Int32) * v13) + (I 12 v13.toNatClampNeg)).toNatClampNeg).toInt64) hx hb dX9_isAbove_132 rfl ?_
            refine lv_lmul hx hb dX9_isAbove_133 ?_
            refine lv_lstore (lv' := [(11, .long (v11 * ((I 11 (((5 : Int32) * v13) + (I 12 v13.toNatClampNeg)).toNatClampNeg).toInt64))), (9, .long (v9 * ((I 11 (((5 : Int32) * v13) + (I 12 v13.toNatClampNeg)).toNatClampNeg).toInt64))), (0, .ref (ad 13)), (1, .int v1), (2, .long v2), (4, .long v4), (6, .int v6), (7, .int v7), (13, .int v13)]) hx hb dX9_isAbove_134 hl (by decide) rfl (fun ls hl => ?_)
            refine lv_iinc (v := (v13 + (1 : Int32))) (lv' := [(13, .int (v13 + (1 : Int32))), (11, .long (v11 * ((I 11 (((5 : Int32) * v13) + (I 12 v13.toNatClampNeg)).toNatClampNeg).toInt64))), (9, .long (v9 * ((I 11 (((5 : Int32) * v13) + (I 12 v13.toNatClampNeg)).toNatClampNeg).toInt64))), (0, .ref (ad 13)), (1, .int v1), (2, .long v2), (4, .long v4), (6, .int v6), (7, .int v7)]) hx hb dX9_isAbove_136 hl (k := 8) rfl (by first | rfl | decide) (by decide) rfl (fun ls hl => ?_)
            refine lv_goto (tgt := 64) hx hb dX9_isAbove_139 (by decide) ?_
            exact ih _ _ _ _ _ _ hf hP hD hS (lv_sub hl [3, 4, 5, 6, 7, 8, 2, 1, 0] rfl)
          · have hf := (if_neg c_9).symm.trans hf
            refine lv_lconst (v := (1 : Int64)) hx hb dX9_isAbove_111 (by decide) ?_
            refine lv_goto (tgt := 133) hx hb dX9_isAbove_112 (by decide) ?_
            refine lv_lmul hx hb dX9_isAbove_133 ?_
            refine lv_lstore (lv' := [(11, .long (v11 * (1 : Int64))), (9, .long (v9 * ((I 11 (((5 : Int32) * v13) + (I 12 v13.toNatClampNeg)).toNatClampNeg).toInt64))), (0, .ref (ad 13)), (1, .int v1), (2, .long v2), (4, .long v4), (6, .int v6), (7, .int v7), (13, .int v13)]) hx hb dX9_isAbove_134 hl (by decide) rfl (fun ls hl => ?_)
            refine lv_iinc (v := (v13 + (1 : Int32))) (lv' := [(13, .int (v13 + (1 : Int32))), (11, .long (v11 * (1 : Int64))), (9, .long (v9 * ((I 11 (((5 : Int32) * v13) + (I 12 v13.toNatClampNeg)).toNatClampNeg).toInt64))), (0, .ref (ad 13)), (1, .int v1), (2, .long v2), (4, .long v4), (6, .int v6), (7, .int v7)]) hx hb dX9_isAbove_136 hl (k := 8) rfl (by first | rfl | decide) (by decide) rfl (fun ls hl => ?_)
            refine lv_goto (tgt := 64) hx hb dX9_isAbove_139 (by decide) ?_
            exact ih _ _ _ _ _ _ hf hP hD hS (lv_sub hl [3, 4, 5, 6, 7, 8, 2, 1, 0] rfl)
  have L32 : ∀ (Q : State → Prop) (v1 : Int32) (v6 : Int32) (J : SJ) (o : Int64 × Int64 × SI), (∀ (w2 : Int64) (w4 : Int64) (I : SI) (H : Heap) (locs : List Loc) (ls : Array Slot), o = (w2, w4, I) → va_P (dC, dI) vwCl ((wM ad cI cJ) I J) H → va_D A ((wM ad cI cJ) I J) → va_S A s.heap H locs → lv_has ls 14 [(2, .long w2), (4, .long w4)] → W p l e ({ frames := 1, cells := 0, slots := 0, locals := 26 } : Room) s m args below meth c H locs 0 0 Q (F0 m 174 ls [])) → ∀ (n : Nat) (v2 : Int64) (v4 : Int64) (v7 : Int32) (I : SI) (H : Heap) (locs : List Loc) (ls : Array Slot), lp_X9_isAbove_32 v1 v6 n v2 v4 v7 I = some o → va_P (dC, dI) vwCl ((wM ad cI cJ) I J) H → va_D A ((wM ad cI cJ) I J) → va_S A s.heap H locs → lv_has ls 14 [(0, .ref (ad 13)), (1, .int v1), (2, .long v2), (4, .long v4), (6, .int v6), (7, .int v7)] → W p l e ({ frames := 1, cells := 0, slots := 0, locals := 26 } : Room) s m args below meth c H locs 0 0 Q (F0 m 32 ls []) := by
    intro Q v1 v6 J o K0 n
    clear hP hD hS hl
    induction n with
    | zero =>
      intro v2 v4 v7 I H locs ls hf
      rw [lp_X9_isAbove_32.eq_1] at hf
      cases hf
    | succ n ih =>
      intro v2 v4 v7 I H locs ls hf hP hD hS hl
      rw [lp_X9_isAbove_32.eq_2] at hf
      refine lv_iload hx hb dX9_isAbove_32 (lv_at hl 5 rfl) ?_
      refine lv_iload hx hb dX9_isAbove_34 (lv_at hl 4 rfl) ?_
      refine lv_icmp_ge (tgt := 174) hx hb dX9_isAbove_36 (by decide) (fun c_12 => ?_) (fun c_12 => ?_)
      · have hf := (if_pos c_12).symm.trans hf
        exact K0 _ _ _ _ _ _ (Option.some.inj hf).symm hP hD hS (lv_sub hl [2, 3] rfl)
      · have hf := (if_neg c_12).symm.trans hf
        refine lv_aload_n hx hb dX9_isAbove_39 rfl (lv_at hl 0 rfl) ?_
        refine lv_iload_n hx hb dX9_isAbove_40 rfl (lv_at hl 1 rfl) ?_
        refine lv_iload hx hb dX9_isAbove_41 (lv_at hl 5 rfl) ?_
        obtain ⟨⟨r_13, I_13⟩, hg_13, hf⟩ := bd_some hf
        refine xVi (rest := []) (c_X9_layTurn l dC dI ad cI cJ cT v1 v7 I J hg_13) hfix (cwV 2 hts gX9_isAbove_X9_layTurn rfl rfl rfl (by decide +kernel) ⟨Nat.le_of_ble_eq_true rfl, Nat.le_of_ble_eq_true rfl⟩) hK hP hD hS hA (va_recv hK hP (ci := 8) (q0 := 13) rfl (obM_13 ad cI cJ I J)) rfl hl.1 rfl (Nat.le_of_ble_eq_true rfl) ⟨Nat.zero_le _, Nat.zero_le _⟩ dX9_isAbove_43 (fun H locs hP hD hS => ?_)
        refine lv_istore (lv' := [(8, .int r_13), (0, .ref (ad 13)), (1, .int v1), (2, .long v2), (4, .long v4), (6, .int v6), (7, .int v7)]) hx hb dX9_isAbove_46 hl (by decide) rfl (fun ls hl => ?_)
        refine lv_iload hx hb dX9_isAbove_48 (lv_at hl 0 rfl) ?_
        refine lv_if_eq (tgt := 168) hx hb dX9_isAbove_50 (by decide) (fun c_14 => ?_) (fun c_14 => ?_)
        · have hf := (if_pos c_14).symm.trans hf
          refine lv_iinc (v := (v7 + (1 : Int32))) (lv' := [(7, .int (v7 + (1 : Int32))), (8, .int r_13), (0, .ref (ad 13)), (1, .int v1), (2, .long v2), (4, .long v4), (6, .int v6)]) hx hb dX9_isAbove_168 hl (k := 6) rfl (by first | rfl | decide) (by decide) rfl (fun ls hl => ?_)
          refine lv_goto (tgt := 32) hx hb dX9_isAbove_171 (by decide) ?_
          exact ih _ _ _ _ _ _ _ hf hP hD hS (lv_sub hl [2, 3, 4, 5, 6, 0] rfl)
        · have hf := (if_neg c_14).symm.trans hf
          refine lv_iload hx hb dX9_isAbove_53 (lv_at hl 0 rfl) ?_
          refine lv_i2l (v := r_13.toInt64) hx hb dX9_isAbove_55 rfl ?_
          refine lv_lstore (lv' := [(9, .long (r_13.toInt64)), (8, .int r_13), (0, .ref (ad 13)), (1, .int v1), (2, .long v2), (4, .long v4), (6, .int v6), (7, .int v7)]) hx hb dX9_isAbove_56 hl (by decide) rfl (fun ls hl => ?_)
          refine lv_lconst (v := (1 : Int64)) hx hb dX9_isAbove_58 (by decide) ?_
          refine lv_lstore (lv' := [(11, .long (1 : Int64)), (9, .long (r_13.toInt64)), (8, .int r_13), (0, .ref (ad 13)), (1, .int v1), (2, .long v2), (4, .long v4), (6, .int v6), (7, .int v7)]) hx hb dX9_isAbove_59 hl (by decide) rfl (fun ls hl => ?_)
          refine lv_iconst (v := (0 : Int32)) hx hb dX9_isAbove_61 (by decide) ?_
          refine lv_istore (lv' := [(13, .int (0 : Int32)), (11, .long (1 : Int64)), (9, .long (r_13.toInt64)), (8, .int r_13), (0, .ref (ad 13)), (1, .int v1), (2, .long v2), (4, .long v4), (6, .int v6), (7, .int v7)]) hx hb dX9_isAbove_62 hl (by decide) rfl (fun ls hl => ?_)
          obtain ⟨o_15, hg_15, hf⟩ := bd_some hf
          refine L64 _ v1 v2 v4 v6 v7 I_13 J o_15 ?_ FU (r_13.toInt64) (1 : Int64) (0 : Int32) _ _ _ hg_15 hP hD hS (lv_sub hl [4, 5, 6, 7, 8, 9, 2, 1, 0] rfl)
          · intro w9_15 w11_15 H locs ls ho hP hD hS hl
            subst o_15
            refine lv_lload_n hx hb dX9_isAbove_142 rfl (lv_at hl 2 rfl) ?_
            refine lv_lload hx hb dX9_isAbove_143 (lv_at hl 6 rfl) ?_
            refine lv_ldc2 (v := (1000000 : Int64)) hx hb hown wd_2 dX9_isAbove_145 ?_
            refine lv_ldiv hx hb dX9_isAbove_148 (by decide) ?_
            refine lv_lload hx hb dX9_isAbove_149 (lv_at hl 7 rfl) ?_
            refine lv_lmul hx hb dX9_isAbove_151 ?_
            refine lv_ladd hx hb dX9_isAbove_152 ?_
            refine lv_lstore_n (lv' := [(2, .long (v2 + ((w9_15 / (1000000 : Int64)) * w11_15))), (0, .ref (ad 13)), (1, .int v1), (4, .long v4), (6, .int v6), (7, .int v7), (9, .long w9_15), (11, .long w11_15)]) hx hb dX9_isAbove_153 rfl hl (by decide) rfl (fun ls hl => ?_)
            refine lv_lload hx hb dX9_isAbove_154 (lv_at hl 3 rfl) ?_
            refine lv_lload hx hb dX9_isAbove_156 (lv_at hl 6 rfl) ?_
            refine lv_ldc2 (v := (1000000 : Int64)) hx hb hown wd_2 dX9_isAbove_158 ?_
            refine lv_lrem hx hb dX9_isAbove_161 (by decide) ?_
            refine lv_lload hx hb dX9_isAbove_162 (lv_at hl 7 rfl) ?_
            refine lv_lmul hx hb dX9_isAbove_164 ?_
            refine lv_ladd hx hb dX9_isAbove_165 ?_
            refine lv_lstore (lv' := [(4, .long (v4 + ((w9_15 - w9_15 / (1000000 : Int64) * (1000000 : Int64)) * w11_15))), (2, .long (v2 + ((w9_15 / (1000000 : Int64)) * w11_15))), (0, .ref (ad 13)), (1, .int v1), (6, .int v6), (7, .int v7), (9, .long w9_15), (11, .long w11_15)]) hx hb dX9_isAbove_166 hl (by decide) rfl (fun ls hl => ?_)
            refine lv_iinc (v := (v7 + (1 : Int32))) (lv' := [(7, .int (v7 + (1 : Int32))), (4, .long (v4 + ((w9_15 - w9_15 / (1000000 : Int64) * (1000000 : Int64)) * w11_15))), (2, .long (v2 + ((w9_15 / (1000000 : Int64)) * w11_15))), (0, .ref (ad 13)), (1, .int v1), (6, .int v6), (9, .long w9_15), (11, .long w11_15)]) hx hb dX9_isAbove_168 hl (k := 5) rfl (by first | rfl | decide) (by decide) rfl (fun ls hl => ?_)
            refine lv_goto (tgt := 32) hx hb dX9_isAbove_171 (by decide) ?_
            exact ih _ _ _ _ _ _ _ hf hP hD hS (lv_sub hl [3, 4, 2, 1, 5, 0] rfl)
  unfold f_X9_isAbove at hf
  refine lv_lconst (v := (0 : Int64)) hx hb dX9_isAbove_0 (by decide) ?_
  refine lv_lstore_n (lv' := [(2, .long (0 : Int64)), (0, .ref (ad 13)), (1, .int p1)]) hx hb dX9_isAbove_1 rfl hl (by decide) rfl (fun ls hl => ?_)
  refine lv_lconst (v := (0 : Int64)) hx hb dX9_isAbove_2 (by decide) ?_
  refine lv_lstore (lv' := [(4, .long (0 : Int64)), (2, .long (0 : Int64)), (0, .ref (ad 13)), (1, .int p1)]) hx hb dX9_isAbove_3 hl (by decide) rfl (fun ls hl => ?_)
  refine lv_iconst (v := (1 : Int32)) hx hb dX9_isAbove_5 (by decide) ?_
  refine lv_istore (lv' := [(6, .int (1 : Int32)), (4, .long (0 : Int64)), (2, .long (0 : Int64)), (0, .ref (ad 13)), (1, .int p1)]) hx hb dX9_isAbove_6 hl (by decide) rfl (fun ls hl => ?_)
  refine lv_iconst (v := (0 : Int32)) hx hb dX9_isAbove_8 (by decide) ?_
  refine lv_istore (lv' := [(7, .int (0 : Int32)), (6, .int (1 : Int32)), (4, .long (0 : Int64)), (2, .long (0 : Int64)), (0, .ref (ad 13)), (1, .int p1)]) hx hb dX9_isAbove_9 hl (by decide) rfl (fun ls hl => ?_)
  obtain ⟨o_16, hg_16, hf⟩ := bd_some hf
  refine L11 _ p1 (0 : Int64) (0 : Int64) I J o_16 ?_ FU (1 : Int32) (0 : Int32) _ _ _ hg_16 hP hD hS (lv_sub hl [4, 5, 3, 2, 1, 0] rfl)
  · intro w6_16 H locs ls ho hP hD hS hl
    subst o_16
    refine lv_iconst (v := (0 : Int32)) hx hb dX9_isAbove_29 (by decide) ?_
    refine lv_istore (lv' := [(7, .int (0 : Int32)), (0, .ref (ad 13)), (1, .int p1), (2, .long (0 : Int64)), (4, .long (0 : Int64)), (6, .int w6_16)]) hx hb dX9_isAbove_30 hl (by decide) rfl (fun ls hl => ?_)
    obtain ⟨o_17, hg_17, hf⟩ := bd_some hf
    refine L32 _ p1 w6_16 J o_17 ?_ FU (0 : Int64) (0 : Int64) (0 : Int32) I _ _ _ hg_17 hP hD hS (lv_sub hl [1, 2, 3, 4, 5, 0] rfl)
    · intro w2_17 w4_17 I_17 H locs ls ho hP hD hS hl
      subst o_17
      refine lv_lload_n hx hb dX9_isAbove_174 rfl (lv_at hl 0 rfl) ?_
      refine lv_lload hx hb dX9_isAbove_175 (lv_at hl 1 rfl) ?_
      refine lv_ldc2 (v := (1000000 : Int64)) hx hb hown wd_2 dX9_isAbove_177 ?_
      refine lv_ldiv hx hb dX9_isAbove_180 (by decide) ?_
      refine lv_ladd hx hb dX9_isAbove_181 ?_
      refine lv_lstore (lv' := [(7, .long (w2_17 + (w4_17 / (1000000 : Int64)))), (2, .long w2_17), (4, .long w4_17)]) hx hb dX9_isAbove_182 hl (by decide) rfl (fun ls hl => ?_)
      refine lv_lload hx hb dX9_isAbove_184 (lv_at hl 2 rfl) ?_
      refine lv_ldc2 (v := (1000000 : Int64)) hx hb hown wd_2 dX9_isAbove_186 ?_
      refine lv_lrem hx hb dX9_isAbove_189 (by decide) ?_
      refine lv_lstore (lv' := [(9, .long (w4_17 - w4_17 / (1000000 : Int64) * (1000000 : Int64))), (7, .long (w2_17 + (w4_17 / (1000000 : Int64)))), (2, .long w2_17), (4, .long w4_17)]) hx hb dX9_isAbove_190 hl (by decide) rfl (fun ls hl => ?_)
      refine lv_lload hx hb dX9_isAbove_192 (lv_at hl 1 rfl) ?_
      refine lv_lconst (v := (0 : Int64)) hx hb dX9_isAbove_194 (by decide) ?_
      refine W.lcmp hx hb dX9_isAbove_195 ?_
      refine lv_if_gt (tgt := 227) hx hb dX9_isAbove_196 (by decide) (fun c_18 => ?_) (fun c_18 => ?_)
      · have hf := (if_pos c_18).symm.trans hf
        refine lv_iconst (v := (1 : Int32)) hx hb dX9_isAbove_227 (by decide) ?_
        refine lv_goto (tgt := 232) hx hb dX9_isAbove_228 (by decide) ?_
        cases hf
        exact xRz hx hb hr hlocks rfl hK hP hD hS (fun _ h => h) dX9_isAbove_232
      · have hf := (if_neg c_18).symm.trans hf
        refine lv_lload hx hb dX9_isAbove_199 (lv_at hl 1 rfl) ?_
        refine lv_lconst (v := (0 : Int64)) hx hb dX9_isAbove_201 (by decide) ?_
        refine W.lcmp hx hb dX9_isAbove_202 ?_
        refine lv_if_ne (tgt := 213) hx hb dX9_isAbove_203 (by decide) (fun c_19 => ?_) (fun c_19 => ?_)
        · have hf := (if_neg c_19).symm.trans hf
          refine lv_lload hx hb dX9_isAbove_213 (lv_at hl 1 rfl) ?_
          refine lv_lconst (v := (1 : Int64)) hx hb dX9_isAbove_215 (by decide) ?_
          refine W.lcmp hx hb dX9_isAbove_216 ?_
          refine lv_if_ne (tgt := 231) hx hb dX9_isAbove_217 (by decide) (fun c_20 => ?_) (fun c_20 => ?_)
          · have hf := (if_neg c_20).symm.trans hf
            refine lv_iconst (v := (0 : Int32)) hx hb dX9_isAbove_231 (by decide) ?_
            cases hf
            exact xRz hx hb hr hlocks rfl hK hP hD hS (fun _ h => h) dX9_isAbove_232
          · have hf := (if_pos c_20).symm.trans hf
            refine lv_lload hx hb dX9_isAbove_220 (lv_at hl 0 rfl) ?_
            refine lv_lconst (v := (0 : Int64)) hx hb dX9_isAbove_222 (by decide) ?_
            refine W.lcmp hx hb dX9_isAbove_223 ?_
            refine lv_if_ge (tgt := 231) hx hb dX9_isAbove_224 (by decide) (fun c_21 => ?_) (fun c_21 => ?_)
            · have hf := (if_pos c_21).symm.trans hf
              refine lv_iconst (v := (0 : Int32)) hx hb dX9_isAbove_231 (by decide) ?_
              cases hf
              exact xRz hx hb hr hlocks rfl hK hP hD hS (fun _ h => h) dX9_isAbove_232
            · have hf := (if_neg c_21).symm.trans hf
              refine lv_iconst (v := (1 : Int32)) hx hb dX9_isAbove_227 (by decide) ?_
              refine lv_goto (tgt := 232) hx hb dX9_isAbove_228 (by decide) ?_
              cases hf
              exact xRz hx hb hr hlocks rfl hK hP hD hS (fun _ h => h) dX9_isAbove_232
        · have hf := (if_pos c_19).symm.trans hf
          refine lv_lload hx hb dX9_isAbove_206 (lv_at hl 0 rfl) ?_
          refine lv_lconst (v := (0 : Int64)) hx hb dX9_isAbove_208 (by decide) ?_
          refine W.lcmp hx hb dX9_isAbove_209 ?_
          refine lv_if_gt (tgt := 227) hx hb dX9_isAbove_210 (by decide) (fun c_22 => ?_) (fun c_22 => ?_)
          · have hf := (if_pos c_22).symm.trans hf
            refine lv_iconst (v := (1 : Int32)) hx hb dX9_isAbove_227 (by decide) ?_
            refine lv_goto (tgt := 232) hx hb dX9_isAbove_228 (by decide) ?_
            cases hf
            exact xRz hx hb hr hlocks rfl hK hP hD hS (fun _ h => h) dX9_isAbove_232
          · have hf := (if_neg c_22).symm.trans hf
            refine lv_lload hx hb dX9_isAbove_213 (lv_at hl 1 rfl) ?_
            refine lv_lconst (v := (1 : Int64)) hx hb dX9_isAbove_215 (by decide) ?_
            refine W.lcmp hx hb dX9_isAbove_216 ?_
            refine lv_if_ne (tgt := 231) hx hb dX9_isAbove_217 (by decide) (fun c_23 => ?_) (fun c_23 => ?_)
            · have hf := (if_neg c_23).symm.trans hf
              refine lv_iconst (v := (0 : Int32)) hx hb dX9_isAbove_231 (by decide) ?_
              cases hf
              exact xRz hx hb hr hlocks rfl hK hP hD hS (fun _ h => h) dX9_isAbove_232
            · have hf := (if_pos c_23).symm.trans hf
              refine lv_lload hx hb dX9_isAbove_220 (lv_at hl 0 rfl) ?_
              refine lv_lconst (v := (0 : Int64)) hx hb dX9_isAbove_222 (by decide) ?_
              refine W.lcmp hx hb dX9_isAbove_223 ?_
              refine lv_if_ge (tgt := 231) hx hb dX9_isAbove_224 (by decide) (fun c_24 => ?_) (fun c_24 => ?_)
              · have hf := (if_pos c_24).symm.trans hf
                refine lv_iconst (v := (0 : Int32)) hx hb dX9_isAbove_231 (by decide) ?_
                cases hf
                exact xRz hx hb hr hlocks rfl hK hP hD hS (fun _ h => h) dX9_isAbove_232
              · have hf := (if_neg c_24).symm.trans hf
                refine lv_iconst (v := (1 : Int32)) hx hb dX9_isAbove_227 (by decide) ?_
                refine lv_goto (tgt := 232) hx hb dX9_isAbove_228 (by decide) ?_
                cases hf
                exact xRz hx hb hr hlocks rfl hK hP hD hS (fun _ h => h) dX9_isAbove_232
set_option maxHeartbeats 4000000 in
set_option maxRecDepth 100000 in
theorem c_X9_isBelow (l : Launch) (dC : Nat → ClassId) (dI : Nat → Nat → Nat) (ad : Nat → Nat) (cI cJ cT : ClassId) (p1 : Int32) (p2 : Int32) (I : SI) (J : SJ) {r0 : Int32} {I0 : SI} (hf : f_X9_isBelow p1 p2 I = some (r0, I0)) : CtI l yX9_isBelow wsX9_isBelow ({ frames := 2, cells := 0, slots := 0, locals := 59 } : Room) (dC, dI) (tys3 cI cJ cT) (wM ad cI cJ) [.ref (ad 13), .int p1, .int p2] I J r0 I0 J := by
  intro sz
  refine Met.ofW (cc := cX9_isBelow) (maxL := 5) (ret := (some .boolean)) (by decide) rfl ?_
  intro p e s m args below meth c s₁ B hml hv
  obtain ⟨hargs, hsz, hP, hK, hD0⟩ := hv
  have hx := B.exec
  have hb := B.bytes
  have hr := B.returns
  have hts := atoms_spec (ws := wsX9_isBelow) B.pre
  have hown : s.vm.findClass RX9 = some m.cls := findClass_of_methodNamed B.named
  have hlocks := B.notSynchronized
  subst hsz
  have hD := hD0.self (sz := s.heap.size)
  generalize hAe : va_A ((wM ad cI cJ) I J) s.heap.size = A at hD ⊢
  have hA : ∀ q : Nat, s.heap.size ≤ q → A q := fun q h => by rw [← hAe]; exact Or.inr h
  have hS : va_S A s.heap s.heap [] := va_S.rf
  have hl := lv_entry ([.ref (ad 13), .int p1, .int p2]) (n := 5) (Nat.le_of_ble_eq_true rfl)
  rw [hargs, lg_entry_eq, ← hargs]
  generalize (lg_sl ([.ref (ad 13), .int p1, .int p2]) ++ List.replicate (5 - (lg_sl ([.ref (ad 13), .int p1, .int p2])).length) Slot.unset).toArray = ls at hl ⊢
  have hl : lv_has ls 5 [(0, .ref (ad 13)), (1, .int p1), (2, .int p2)] := hl
  have hfix : CallFix p m c cX9_isBelow 5 s args wsX9_isBelow RX9 := ⟨hx, hb, hml, hown, hts⟩
  have in_X9 : ∀ w ∈ u_ws RX9 TX9 15, w ∈ wsX9_isBelow := by decide +kernel
  have wd_0 := hts (.fieldLink RX9 7 "FuseBenchModel" "ranks" "[I") (by decide +kernel)
  have L11 : ∀ (Q : State → Prop) (v1 : Int32) (J : SJ) (o : Int32 × SI), (∀ (w3 : Int32) (I : SI) (H : Heap) (locs : List Loc) (ls : Array Slot), o = (w3, I) → va_P (dC, dI) vwCl ((wM ad cI cJ) I J) H → va_D A ((wM ad cI cJ) I J) → va_S A s.heap H locs → lv_has ls 5 [(3, .int w3)] → W p l e ({ frames := 2, cells := 0, slots := 0, locals := 59 } : Room) s m args below meth c H locs 0 0 Q (F0 m 39 ls [])) → ∀ (n : Nat) (v3 : Int32) (v4 : Int32) (I : SI) (H : Heap) (locs : List Loc) (ls : Array Slot), lp_X9_isBelow_11 v1 n v3 v4 I = some o → va_P (dC, dI) vwCl ((wM ad cI cJ) I J) H → va_D A ((wM ad cI cJ) I J) → va_S A s.heap H locs → lv_has ls 5 [(0, .ref (ad 13)), (1, .int v1), (3, .int v3), (4, .int v4)] → W p l e ({ frames := 2, cells := 0, slots := 0, locals := 59 } : Room) s m args below meth c H locs 0 0 Q (F0 m 11 ls []) := by
    intro Q v1 J o K0 n
    clear hP hD hS hl
    induction n with
    | zero =>
      intro v3 v4 I H locs ls hf
      rw [lp_X9_isBelow_11.eq_1] at hf
      cases hf
    | succ n ih =>
      intro v3 v4 I H locs ls hf hP hD hS hl
      rw [lp_X9_isBelow_11.eq_2] at hf
      refine lv_iload hx hb dX9_isBelow_11 (lv_at hl 3 rfl) ?_
      refine lv_aload_n hx hb dX9_isBelow_13 rfl (lv_at hl 0 rfl) ?_
      refine va_get (D := (dC, dI)) (ci := 8) (v := .ref (ad 0)) (C := RX9) (T := TX9) (N := 15) hx hb hts in_X9 hown hK hP 13 (obM_13 ad cI cJ I J) rfl 0 (by decide) wd_0 (fun _ h9 => h9) rfl dX9_isBelow_14 ?_
      refine lv_iload_n hx hb dX9_isBelow_17 rfl (lv_at hl 1 rfl) ?_
      obtain ⟨h_1, hf⟩ := gd_some hf
      refine x_iald hx hb hK (aiM_0 ad cI cJ) hP h_1 dX9_isBelow_18 ?_
      refine lv_icmp_gt (tgt := 39) hx hb dX9_isBelow_19 (by decide) (fun c_2 => ?_) (fun c_2 => ?_)
      · have hf := (if_pos c_2).symm.trans hf
        exact K0 _ _ _ _ _ (Option.some.inj hf).symm hP hD hS (lv_sub hl [2] rfl)
      · have hf := (if_neg c_2).symm.trans hf
        refine lv_iload_n hx hb dX9_isBelow_22 rfl (lv_at hl 2 rfl) ?_
        refine lv_if_eq (tgt := 39) hx hb dX9_isBelow_23 (by decide) (fun c_3 => ?_) (fun c_3 => ?_)
        · have hf := (if_pos c_3).symm.trans hf
          exact K0 _ _ _ _ _ (Option.some.inj hf).symm hP hD hS (lv_sub hl [2] rfl)
        · have hf := (if_neg c_3).symm.trans hf
          refine lv_aload_n hx hb dX9_isBelow_26 rfl (lv_at hl 0 rfl) ?_
          refine lv_iload hx hb dX9_isBelow_27 (lv_at hl 3 rfl) ?_
          obtain ⟨⟨r_4, I_4⟩, hg_4, hf⟩ := bd_some hf
          refine xVi (rest := []) (c_X9_isAbove l dC dI ad cI cJ cT v4 I J hg_4) hfix (cwV 1 hts gX9_isBelow_X9_isAbove rfl rfl rfl (by decide +kernel) ⟨Nat.le_of_ble_eq_true rfl, Nat.le_of_ble_eq_true rfl⟩) hK hP hD hS hA (va_recv hK hP (ci := 8) (q0 := 13) rfl (obM_13 ad cI cJ I J)) rfl hl.1 rfl (Nat.le_of_ble_eq_true rfl) ⟨Nat.zero_le _, Nat.zero_le _⟩ dX9_isBelow_29 (fun H locs hP hD hS => ?_)
          refine lv_istore_n (lv' := [(3, .int r_4), (0, .ref (ad 13)), (1, .int v1), (4, .int v4)]) hx hb dX9_isBelow_32 rfl hl (by decide) rfl (fun ls hl => ?_)
          refine lv_iinc (v := (v4 + (1 : Int32))) (lv' := [(4, .int (v4 + (1 : Int32))), (3, .int r_4), (0, .ref (ad 13)), (1, .int v1)]) hx hb dX9_isBelow_33 hl (k := 3) rfl (by first | rfl | decide) (by decide) rfl (fun ls hl => ?_)
          refine lv_goto (tgt := 11) hx hb dX9_isBelow_36 (by decide) ?_
          exact ih _ _ _ _ _ _ hf hP hD hS (lv_sub hl [2, 3, 1, 0] rfl)
  unfold f_X9_isBelow at hf
  refine lv_aload_n hx hb dX9_isBelow_0 rfl (lv_at hl 0 rfl) ?_
  refine lv_iload_n hx hb dX9_isBelow_1 rfl (lv_at hl 1 rfl) ?_
  refine lv_iload_n hx hb dX9_isBelow_2 rfl (lv_at hl 2 rfl) ?_
  obtain ⟨I_5, hg_5, hf⟩ := bd_some hf
  refine xVv (rest := []) (c_X9_layLines l dC dI ad cI cJ cT p1 p2 I J hg_5) hfix (cwV 2 hts gX9_isBelow_X9_layLines rfl rfl rfl (by decide +kernel) ⟨Nat.le_of_ble_eq_true rfl, Nat.le_of_ble_eq_true rfl⟩) hK hP hD hS hA (va_recv hK hP (ci := 8) (q0 := 13) rfl (obM_13 ad cI cJ I J)) rfl hl.1 rfl (Nat.le_of_ble_eq_true rfl) ⟨Nat.zero_le _, Nat.zero_le _⟩ dX9_isBelow_3 (fun H locs hP hD hS => ?_)
  refine lv_iconst (v := (1 : Int32)) hx hb dX9_isBelow_6 (by decide) ?_
  refine lv_istore_n (lv' := [(3, .int (1 : Int32)), (0, .ref (ad 13)), (1, .int p1), (2, .int p2)]) hx hb dX9_isBelow_7 rfl hl (by decide) rfl (fun ls hl => ?_)
  refine lv_iconst (v := (1 : Int32)) hx hb dX9_isBelow_8 (by decide) ?_
  refine lv_istore (lv' := [(4, .int (1 : Int32)), (3, .int (1 : Int32)), (0, .ref (ad 13)), (1, .int p1), (2, .int p2)]) hx hb dX9_isBelow_9 hl (by decide) rfl (fun ls hl => ?_)
  obtain ⟨o_6, hg_6, hf⟩ := bd_some hf
  refine L11 _ p1 J o_6 ?_ FU (1 : Int32) (1 : Int32) I_5 _ _ _ hg_6 hP hD hS (lv_sub hl [2, 3, 1, 0] rfl)
  · intro w3_6 I_6 H locs ls ho hP hD hS hl
    subst o_6
    refine lv_iload_n hx hb dX9_isBelow_39 rfl (lv_at hl 0 rfl) ?_
    obtain ⟨h_7, hf⟩ := gd_some hf
    cases hf
    exact xRz hx hb hr hlocks (nz h_7) hK hP hD hS (fun _ h => h) dX9_isBelow_40
set_option maxHeartbeats 4000000 in
set_option maxRecDepth 100000 in
theorem c_X9_size (l : Launch) (dC : Nat → ClassId) (dI : Nat → Nat → Nat) (ad : Nat → Nat) (cI cJ cT : ClassId) (p1 : Int32) (I : SI) (J : SJ) {r0 : Int32} {I0 : SI} (hf : f_X9_size p1 I = some (r0, I0)) : CtI l yX9_size wsX9_size ({ frames := 3, cells := 0, slots := 0, locals := 83 } : Room) (dC, dI) (tys3 cI cJ cT) (wM ad cI cJ) [.ref (ad 13), .int p1] I J r0 I0 J := by
  intro sz
  refine Met.ofW (cc := cX9_size) (maxL := 5) (ret := (some .int)) (by decide) rfl ?_
  intro p e s m args below meth c s₁ B hml hv
  obtain ⟨hargs, hsz, hP, hK, hD0⟩ := hv
  have hx := B.exec
  have hb := B.bytes
  have hr := B.returns
  have hts := atoms_spec (ws := wsX9_size) B.pre
  have hown : s.vm.findClass RX9 = some m.cls := findClass_of_methodNamed B.named
  have hlocks := B.notSynchronized
  subst hsz
  have hD := hD0.self (sz := s.heap.size)
  generalize hAe : va_A ((wM ad cI cJ) I J) s.heap.size = A at hD ⊢
  have hA : ∀ q : Nat, s.heap.size ≤ q → A q := fun q h => by rw [← hAe]; exact Or.inr h
  have hS : va_S A s.heap s.heap [] := va_S.rf
  have hl := lv_entry ([.ref (ad 13), .int p1]) (n := 5) (Nat.le_of_ble_eq_true rfl)
  rw [hargs, lg_entry_eq, ← hargs]
  generalize (lg_sl ([.ref (ad 13), .int p1]) ++ List.replicate (5 - (lg_sl ([.ref (ad 13), .int p1])).length) Slot.unset).toArray = ls at hl ⊢
  have hl : lv_has ls 5 [(0, .ref (ad 13)), (1, .int p1)] := hl
  have hfix : CallFix p m c cX9_size 5 s args wsX9_size RX9 := ⟨hx, hb, hml, hown, hts⟩
  have L27 : ∀ (Q : State → Prop) (v1 : Int32) (J : SJ) (o : Int32 × SI), (∀ (w2 : Int32) (I : SI) (H : Heap) (locs : List Loc) (ls : Array Slot), o = (w2, I) → va_P (dC, dI) vwCl ((wM ad cI cJ) I J) H → va_D A ((wM ad cI cJ) I J) → va_S A s.heap H locs → lv_has ls 5 [(2, .int w2)] → W p l e ({ frames := 3, cells := 0, slots := 0, locals := 83 } : Room) s m args below meth c H locs 0 0 Q (F0 m 63 ls [])) → ∀ (n : Nat) (v2 : Int32) (v3 : Int32) (I : SI) (H : Heap) (locs : List Loc) (ls : Array Slot), lp_X9_size_27 v1 n v2 v3 I = some o → va_P (dC, dI) vwCl ((wM ad cI cJ) I J) H → va_D A ((wM ad cI cJ) I J) → va_S A s.heap H locs → lv_has ls 5 [(0, .ref (ad 13)), (1, .int v1), (2, .int v2), (3, .int v3)] → W p l e ({ frames := 3, cells := 0, slots := 0, locals := 83 } : Room) s m args below meth c H locs 0 0 Q (F0 m 27 ls []) := by
    intro Q v1 J o K0 n
    clear hP hD hS hl
    induction n with
    | zero =>
      intro v2 v3 I H locs ls hf
      rw [lp_X9_size_27.eq_1] at hf
      cases hf
    | succ n ih =>
      intro v2 v3 I H locs ls hf hP hD hS hl
      rw [lp_X9_size_27.eq_2] at hf
      refine lv_iload_n hx hb dX9_size_27 rfl (lv_at hl 3 rfl) ?_
      refine lv_iload_n hx hb dX9_size_28 rfl (lv_at hl 2 rfl) ?_
      refine lv_isub hx hb dX9_size_29 ?_
      refine lv_iconst (v := (1 : Int32)) hx hb dX9_size_30 (by decide) ?_
      refine lv_icmp_le (tgt := 63) hx hb dX9_size_31 (by decide) (fun c_1 => ?_) (fun c_1 => ?_)
      · have hf := (if_pos c_1).symm.trans hf
        exact K0 _ _ _ _ _ (Option.some.inj hf).symm hP hD hS (lv_sub hl [2] rfl)
      · have hf := (if_neg c_1).symm.trans hf
        refine lv_iload_n hx hb dX9_size_34 rfl (lv_at hl 2 rfl) ?_
        refine lv_iload_n hx hb dX9_size_35 rfl (lv_at hl 3 rfl) ?_
        refine lv_iadd hx hb dX9_size_36 ?_
        refine lv_iconst (v := (2 : Int32)) hx hb dX9_size_37 (by decide) ?_
        refine lv_idiv hx hb dX9_size_38 (by decide) ?_
        refine lv_istore (lv' := [(4, .int ((v2 + v3) / (2 : Int32))), (0, .ref (ad 13)), (1, .int v1), (2, .int v2), (3, .int v3)]) hx hb dX9_size_39 hl (by decide) rfl (fun ls hl => ?_)
        refine lv_aload_n hx hb dX9_size_41 rfl (lv_at hl 1 rfl) ?_
        refine lv_iload_n hx hb dX9_size_42 rfl (lv_at hl 2 rfl) ?_
        refine lv_iload hx hb dX9_size_43 (lv_at hl 0 rfl) ?_
        obtain ⟨⟨r_2, I_2⟩, hg_2, hf⟩ := bd_some hf
        refine xVi (rest := []) (c_X9_isBelow l dC dI ad cI cJ cT v1 ((v2 + v3) / (2 : Int32)) I J hg_2) hfix (cwV 2 hts gX9_size_X9_isBelow rfl rfl rfl (by decide +kernel) ⟨Nat.le_of_ble_eq_true rfl, Nat.le_of_ble_eq_true rfl⟩) hK hP hD hS hA (va_recv hK hP (ci := 8) (q0 := 13) rfl (obM_13 ad cI cJ I J)) rfl hl.1 rfl (Nat.le_of_ble_eq_true rfl) ⟨Nat.zero_le _, Nat.zero_le _⟩ dX9_size_45 (fun H locs hP hD hS => ?_)
        refine lv_if_eq (tgt := 57) hx hb dX9_size_48 (by decide) (fun c_3 => ?_) (fun c_3 => ?_)
        · have hf := (if_pos c_3).symm.trans hf
          refine lv_iload hx hb dX9_size_57 (lv_at hl 0 rfl) ?_
          refine lv_istore_n (lv' := [(2, .int ((v2 + v3) / (2 : Int32))), (4, .int ((v2 + v3) / (2 : Int32))), (0, .ref (ad 13)), (1, .int v1), (3, .int v3)]) hx hb dX9_size_59 rfl hl (by decide) rfl (fun ls hl => ?_)
          refine lv_goto (tgt := 27) hx hb dX9_size_60 (by decide) ?_
          exact ih _ _ _ _ _ _ hf hP hD hS (lv_sub hl [2, 3, 0, 4] rfl)
        · have hf := (if_neg c_3).symm.trans hf
          refine lv_iload hx hb dX9_size_51 (lv_at hl 0 rfl) ?_
          refine lv_istore_n (lv' := [(3, .int ((v2 + v3) / (2 : Int32))), (4, .int ((v2 + v3) / (2 : Int32))), (0, .ref (ad 13)), (1, .int v1), (2, .int v2)]) hx hb dX9_size_53 rfl hl (by decide) rfl (fun ls hl => ?_)
          refine lv_goto (tgt := 60) hx hb dX9_size_54 (by decide) ?_
          refine lv_goto (tgt := 27) hx hb dX9_size_60 (by decide) ?_
          exact ih _ _ _ _ _ _ hf hP hD hS (lv_sub hl [2, 3, 4, 0] rfl)
  unfold f_X9_size at hf
  refine lv_iload_n hx hb dX9_size_0 rfl (lv_at hl 1 rfl) ?_
  obtain ⟨r_4, hg_4, hf⟩ := bd_some hf
  refine xSi (rest := []) (c_X9_noTable l dC dI ad cI cJ cT p1 I J hg_4) hfix (va_cwS 1 hts gX9_size_X9_noTable rfl rfl rfl (by decide +kernel) ⟨Nat.le_of_ble_eq_true rfl, Nat.le_of_ble_eq_true rfl⟩) hK hP hD hS hA rfl hl.1 rfl (Nat.le_of_ble_eq_true rfl) ⟨Nat.zero_le _, Nat.zero_le _⟩ dX9_size_1 (fun H locs hP hD hS => ?_)
  refine lv_if_eq (tgt := 10) hx hb dX9_size_4 (by decide) (fun c_5 => ?_) (fun c_5 => ?_)
  · have hf := (if_pos c_5).symm.trans hf
    refine lv_aload_n hx hb dX9_size_10 rfl (lv_at hl 0 rfl) ?_
    refine lv_iload_n hx hb dX9_size_11 rfl (lv_at hl 1 rfl) ?_
    obtain ⟨⟨r_6, I_6⟩, hg_6, hf⟩ := bd_some hf
    refine xVi (rest := []) (c_X9_isRight l dC dI ad cI cJ cT p1 I J hg_6) hfix (cwV 1 hts gX9_size_X9_isRight rfl rfl rfl (by decide +kernel) ⟨Nat.le_of_ble_eq_true rfl, Nat.le_of_ble_eq_true rfl⟩) hK hP hD hS hA (va_recv hK hP (ci := 8) (q0 := 13) rfl (obM_13 ad cI cJ I J)) rfl hl.1 rfl (Nat.le_of_ble_eq_true rfl) ⟨Nat.zero_le _, Nat.zero_le _⟩ dX9_size_12 (fun H locs hP hD hS => ?_)
    refine lv_if_ne (tgt := 21) hx hb dX9_size_15 (by decide) (fun c_7 => ?_) (fun c_7 => ?_)
    · have hf := (if_neg c_7).symm.trans hf
      refine lv_iconst (v := (0 : Int32)) hx hb dX9_size_21 (by decide) ?_
      refine lv_istore_n (lv' := [(2, .int (0 : Int32)), (0, .ref (ad 13)), (1, .int p1)]) hx hb dX9_size_22 rfl hl (by decide) rfl (fun ls hl => ?_)
      refine lv_sipush (v := (2251 : Int32)) hx hb dX9_size_23 (by decide) ?_
      refine lv_istore_n (lv' := [(3, .int (2251 : Int32)), (2, .int (0 : Int32)), (0, .ref (ad 13)), (1, .int p1)]) hx hb dX9_size_26 rfl hl (by decide) rfl (fun ls hl => ?_)
      obtain ⟨o_8, hg_8, hf⟩ := bd_some hf
      refine L27 _ p1 J o_8 ?_ FU (0 : Int32) (2251 : Int32) I_6 _ _ _ hg_8 hP hD hS (lv_sub hl [2, 3, 1, 0] rfl)
      · intro w2_8 I_8 H locs ls ho hP hD hS hl
        subst o_8
        refine lv_iload_n hx hb dX9_size_63 rfl (lv_at hl 0 rfl) ?_
        cases hf
        exact xRi hx hb hr hlocks hK hP hD hS (fun _ h => h) dX9_size_64
    · have hf := (if_pos c_7).symm.trans hf
      refine lv_bipush (v := (-3 : Int32)) hx hb dX9_size_18 (by decide) ?_
      cases hf
      exact xRi hx hb hr hlocks hK hP hD hS (fun _ h => h) dX9_size_20
  · have hf := (if_neg c_5).symm.trans hf
    refine lv_bipush (v := (-2 : Int32)) hx hb dX9_size_7 (by decide) ?_
    cases hf
    exact xRi hx hb hr hlocks hK hP hD hS (fun _ h => h) dX9_size_9
set_option maxHeartbeats 4000000 in
set_option maxRecDepth 100000 in
theorem c_X9_digest (l : Launch) (dC : Nat → ClassId) (dI : Nat → Nat → Nat) (ad : Nat → Nat) (cI cJ cT : ClassId) (I : SI) (J : SJ) {r0 : Int64} (hf : f_X9_digest I = some r0) : CtL l yX9_digest wsX9_digest ({ frames := 1, cells := 0, slots := 0, locals := 24 } : Room) (dC, dI) (tys3 cI cJ cT) (wM ad cI cJ) [.ref (ad 13)] I J r0 I J := by
  intro sz
  refine Met.ofW (cc := cX9_digest) (maxL := 6) (ret := (some .long)) (by decide) rfl ?_
  intro p e s m args below meth c s₁ B hml hv
  obtain ⟨hargs, hsz, hP, hK, hD0⟩ := hv
  have hx := B.exec
  have hb := B.bytes
  have hr := B.returns
  have hts := atoms_spec (ws := wsX9_digest) B.pre
  have hown : s.vm.findClass RX9 = some m.cls := findClass_of_methodNamed B.named
  have hlocks := B.notSynchronized
  subst hsz
  have hD := hD0.self (sz := s.heap.size)
  generalize hAe : va_A ((wM ad cI cJ) I J) s.heap.size = A at hD ⊢
  have hA : ∀ q : Nat, s.heap.size ≤ q → A q := fun q h => by rw [← hAe]; exact Or.inr h
  have hS : va_S A s.heap s.heap [] := va_S.rf
  have hl := lv_entry ([.ref (ad 13)]) (n := 6) (Nat.le_of_ble_eq_true rfl)
  rw [hargs, lg_entry_eq, ← hargs]
  generalize (lg_sl ([.ref (ad 13)]) ++ List.replicate (6 - (lg_sl ([.ref (ad 13)])).length) Slot.unset).toArray = ls at hl ⊢
  have hl : lv_has ls 6 [(0, .ref (ad 13))] := hl
  have hfix : CallFix p m c cX9_digest 6 s args wsX9_digest RX9 := ⟨hx, hb, hml, hown, hts⟩
  have in_X9 : ∀ w ∈ u_ws RX9 TX9 15, w ∈ wsX9_digest := by decide +kernel
  have wd_0 := hts (.fieldLink RX9 139 "FuseBenchModel" "letters" "I") (by decide +kernel)
  have wd_1 := hts (.constantLong RX9 193 (31)) (by decide +kernel)
  have wd_2 := hts (.fieldLink RX9 28 "FuseBenchModel" "word" "[I") (by decide +kernel)
  have wd_3 := hts (.fieldLink RX9 7 "FuseBenchModel" "ranks" "[I") (by decide +kernel)
  have wd_4 := hts (.constantLong RX9 191 (223)) (by decide +kernel)
  have L106 : ∀ (Q : State → Prop)  (I : SI) (J : SJ) (o : Int64), (∀ (w1 : Int64) (H : Heap) (locs : List Loc) (ls : Array Slot), o = w1 → va_P (dC, dI) vwCl ((wM ad cI cJ) I J) H → va_D A ((wM ad cI cJ) I J) → va_S A s.heap H locs → lv_has ls 6 [(1, .long w1)] → W p l e ({ frames := 1, cells := 0, slots := 0, locals := 24 } : Room) s m args below meth c H locs 0 0 Q (F0 m 134 ls [])) → ∀ (n : Nat) (v1 : Int64) (v3 : Int32) (H : Heap) (locs : List Loc) (ls : Array Slot), lp_X9_digest_106 I n v1 v3 = some o → va_P (dC, dI) vwCl ((wM ad cI cJ) I J) H → va_D A ((wM ad cI cJ) I J) → va_S A s.heap H locs → lv_has ls 6 [(0, .ref (ad 13)), (1, .long v1), (3, .int v3)] → W p l e ({ frames := 1, cells := 0, slots := 0, locals := 24 } : Room) s m args below meth c H locs 0 0 Q (F0 m 106 ls []) := by
    intro Q  I J o K0 n
    clear hP hD hS hl
    induction n with
    | zero =>
      intro v1 v3 H locs ls hf
      rw [lp_X9_digest_106.eq_1] at hf
      cases hf
    | succ n ih =>
      intro v1 v3 H locs ls hf hP hD hS hl
      rw [lp_X9_digest_106.eq_2] at hf
      refine lv_iload_n hx hb dX9_digest_106 rfl (lv_at hl 2 rfl) ?_
      refine lv_aload_n hx hb dX9_digest_107 rfl (lv_at hl 0 rfl) ?_
      refine va_get (D := (dC, dI)) (ci := 8) (v := .int (I 15 0)) (C := RX9) (T := TX9) (N := 15) hx hb hts in_X9 hown hK hP 13 (obM_13 ad cI cJ I J) rfl 8 (by decide) wd_0 (fun _ h9 => h9) rfl dX9_digest_108 ?_
      refine lv_icmp_ge (tgt := 134) hx hb dX9_digest_111 (by decide) (fun c_1 => ?_) (fun c_1 => ?_)
      · have hf := (if_pos c_1).symm.trans hf
        exact K0 _ _ _ _ (Option.some.inj hf).symm hP hD hS (lv_sub hl [1] rfl)
      · have hf := (if_neg c_1).symm.trans hf
        refine lv_ldc2 (v := (31 : Int64)) hx hb hown wd_1 dX9_digest_114 ?_
        refine lv_lload_n hx hb dX9_digest_117 rfl (lv_at hl 1 rfl) ?_
        refine lv_lmul hx hb dX9_digest_118 ?_
        refine lv_aload_n hx hb dX9_digest_119 rfl (lv_at hl 0 rfl) ?_
        refine va_get (D := (dC, dI)) (ci := 8) (v := .ref (ad 6)) (C := RX9) (T := TX9) (N := 15) hx hb hts in_X9 hown hK hP 13 (obM_13 ad cI cJ I J) rfl 7 (by decide) wd_2 (fun _ h9 => h9) rfl dX9_digest_120 ?_
        refine lv_iload_n hx hb dX9_digest_123 rfl (lv_at hl 2 rfl) ?_
        obtain ⟨h_2, hf⟩ := gd_some hf
        refine x_iald hx hb hK (aiM_6 ad cI cJ) hP h_2 dX9_digest_124 ?_
        refine lv_i2l (v := (I 6 v3.toNatClampNeg).toInt64) hx hb dX9_digest_125 rfl ?_
        refine lv_ladd hx hb dX9_digest_126 ?_
        refine lv_lstore_n (lv' := [(1, .long (((31 : Int64) * v1) + ((I 6 v3.toNatClampNeg).toInt64))), (0, .ref (ad 13)), (3, .int v3)]) hx hb dX9_digest_127 rfl hl (by decide) rfl (fun ls hl => ?_)
        refine lv_iinc (v := (v3 + (1 : Int32))) (lv' := [(3, .int (v3 + (1 : Int32))), (1, .long (((31 : Int64) * v1) + ((I 6 v3.toNatClampNeg).toInt64))), (0, .ref (ad 13))]) hx hb dX9_digest_128 hl (k := 2) rfl (by first | rfl | decide) (by decide) rfl (fun ls hl => ?_)
        refine lv_goto (tgt := 106) hx hb dX9_digest_131 (by decide) ?_
        exact ih _ _ _ _ _ hf hP hD hS (lv_sub hl [2, 1, 0] rfl)
  have L33 : ∀ (Q : State → Prop) (v3 : Int32) (v4 : Int32) (I : SI) (J : SJ) (o : Int64), (∀ (w1 : Int64) (H : Heap) (locs : List Loc) (ls : Array Slot), o = w1 → va_P (dC, dI) vwCl ((wM ad cI cJ) I J) H → va_D A ((wM ad cI cJ) I J) → va_S A s.heap H locs → lv_has ls 6 [(0, .ref (ad 13)), (1, .long w1), (3, .int v3)] → W p l e ({ frames := 1, cells := 0, slots := 0, locals := 24 } : Room) s m args below meth c H locs 0 0 Q (F0 m 86 ls [])) → ∀ (n : Nat) (v1 : Int64) (v5 : Int32) (H : Heap) (locs : List Loc) (ls : Array Slot), lp_X9_digest_33 v3 v4 I n v1 v5 = some o → va_P (dC, dI) vwCl ((wM ad cI cJ) I J) H → va_D A ((wM ad cI cJ) I J) → va_S A s.heap H locs → lv_has ls 6 [(0, .ref (ad 13)), (1, .long v1), (3, .int v3), (4, .int v4), (5, .int v5)] → W p l e ({ frames := 1, cells := 0, slots := 0, locals := 24 } : Room) s m args below meth c H locs 0 0 Q (F0 m 33 ls []) := by
    intro Q v3 v4 I J o K0 n
    clear hP hD hS hl
    induction n with
    | zero =>
      intro v1 v5 H locs ls hf
      rw [lp_X9_digest_33.eq_1] at hf
      cases hf
    | succ n ih =>
      intro v1 v5 H locs ls hf hP hD hS hl
      rw [lp_X9_digest_33.eq_2] at hf
      refine lv_iload hx hb dX9_digest_33 (lv_at hl 4 rfl) ?_
      refine lv_iload hx hb dX9_digest_35 (lv_at hl 3 rfl) ?_
      refine lv_iload hx hb dX9_digest_37 (lv_at hl 3 rfl) ?_
      refine lv_imul hx hb dX9_digest_39 ?_
      refine lv_iload hx hb dX9_digest_40 (lv_at hl 3 rfl) ?_
      refine lv_imul hx hb dX9_digest_42 ?_
      refine lv_icmp_ge (tgt := 86) hx hb dX9_digest_43 (by decide) (fun c_3 => ?_) (fun c_3 => ?_)
      · have hf := (if_pos c_3).symm.trans hf
        exact K0 _ _ _ _ (Option.some.inj hf).symm hP hD hS (lv_sub hl [0, 1, 2] rfl)
      · have hf := (if_neg c_3).symm.trans hf
        refine lv_ldc2 (v := (31 : Int64)) hx hb hown wd_1 dX9_digest_46 ?_
        refine lv_lload_n hx hb dX9_digest_49 rfl (lv_at hl 1 rfl) ?_
        refine lv_lmul hx hb dX9_digest_50 ?_
        refine lv_aload_n hx hb dX9_digest_51 rfl (lv_at hl 0 rfl) ?_
        refine lv_iload_n hx hb dX9_digest_52 rfl (lv_at hl 2 rfl) ?_
        refine lv_iload hx hb dX9_digest_53 (lv_at hl 4 rfl) ?_
        refine lv_iload hx hb dX9_digest_55 (lv_at hl 3 rfl) ?_
        refine lv_iload hx hb dX9_digest_57 (lv_at hl 3 rfl) ?_
        refine lv_imul hx hb dX9_digest_59 ?_
        obtain ⟨h_4, hf⟩ := gd_some hf
        refine lv_idiv hx hb dX9_digest_60 h_4 ?_
        refine lv_iload hx hb dX9_digest_61 (lv_at hl 4 rfl) ?_
        refine lv_iload hx hb dX9_digest_63 (lv_at hl 3 rfl) ?_
        obtain ⟨h_5, hf⟩ := gd_some hf
        refine lv_idiv hx hb dX9_digest_65 h_5 ?_
        refine lv_iload hx hb dX9_digest_66 (lv_at hl 3 rfl) ?_
        obtain ⟨h_6, hf⟩ := gd_some hf
        refine lv_irem hx hb dX9_digest_68 h_6 ?_
        refine lv_iload hx hb dX9_digest_69 (lv_at hl 4 rfl) ?_
        refine lv_iload hx hb dX9_digest_71 (lv_at hl 3 rfl) ?_
        obtain ⟨h_7, hf⟩ := gd_some hf
        refine lv_irem hx hb dX9_digest_73 h_7 ?_
        obtain ⟨r_8, hg_8, hf⟩ := bd_some hf
        refine xVi (rest := [.long ((31 : Int64) * v1)]) (c_X9_n l dC dI ad cI cJ cT v3 (v5 / (v4 * v4)) ((v5 / v4) - (v5 / v4) / v4 * v4) (v5 - v5 / v4 * v4) I J hg_8) hfix (cwV 4 hts gX9_digest_X9_n rfl rfl rfl (by decide +kernel) ⟨Nat.le_of_ble_eq_true rfl, Nat.le_of_ble_eq_true rfl⟩) hK hP hD hS hA (va_recv hK hP (ci := 8) (q0 := 13) rfl (obM_13 ad cI cJ I J)) rfl hl.1 rfl (Nat.le_of_ble_eq_true rfl) ⟨Nat.zero_le _, Nat.zero_le _⟩ dX9_digest_74 (fun H locs hP hD hS => ?_)
        refine lv_i2l (v := r_8.toInt64) hx hb dX9_digest_77 rfl ?_
        refine lv_ladd hx hb dX9_digest_78 ?_
        refine lv_lstore_n (lv' := [(1, .long (((31 : Int64) * v1) + (r_8.toInt64))), (0, .ref (ad 13)), (3, .int v3), (4, .int v4), (5, .int v5)]) hx hb dX9_digest_79 rfl hl (by decide) rfl (fun ls hl => ?_)
        refine lv_iinc (v := (v5 + (1 : Int32))) (lv' := [(5, .int (v5 + (1 : Int32))), (1, .long (((31 : Int64) * v1) + (r_8.toInt64))), (0, .ref (ad 13)), (3, .int v3), (4, .int v4)]) hx hb dX9_digest_80 hl (k := 4) rfl (by first | rfl | decide) (by decide) rfl (fun ls hl => ?_)
        refine lv_goto (tgt := 33) hx hb dX9_digest_83 (by decide) ?_
        exact ih _ _ _ _ _ hf hP hD hS (lv_sub hl [2, 1, 3, 4, 0] rfl)
  have L6 : ∀ (Q : State → Prop)  (I : SI) (J : SJ) (o : Int64), (∀ (w1 : Int64) (H : Heap) (locs : List Loc) (ls : Array Slot), o = w1 → va_P (dC, dI) vwCl ((wM ad cI cJ) I J) H → va_D A ((wM ad cI cJ) I J) → va_S A s.heap H locs → lv_has ls 6 [(0, .ref (ad 13)), (1, .long w1)] → W p l e ({ frames := 1, cells := 0, slots := 0, locals := 24 } : Room) s m args below meth c H locs 0 0 Q (F0 m 92 ls [])) → ∀ (n : Nat) (v1 : Int64) (v3 : Int32) (H : Heap) (locs : List Loc) (ls : Array Slot), lp_X9_digest_6 I n v1 v3 = some o → va_P (dC, dI) vwCl ((wM ad cI cJ) I J) H → va_D A ((wM ad cI cJ) I J) → va_S A s.heap H locs → lv_has ls 6 [(0, .ref (ad 13)), (1, .long v1), (3, .int v3)] → W p l e ({ frames := 1, cells := 0, slots := 0, locals := 24 } : Room) s m args below meth c H locs 0 0 Q (F0 m 6 ls []) := by
    intro Q  I J o K0 n
    clear hP hD hS hl
    induction n with
    | zero =>
      intro v1 v3 H locs ls hf
      rw [lp_X9_digest_6.eq_1] at hf
      cases hf
    | succ n ih =>
      intro v1 v3 H locs ls hf hP hD hS hl
      rw [lp_X9_digest_6.eq_2] at hf
      refine lv_iload_n hx hb dX9_digest_6 rfl (lv_at hl 2 rfl) ?_
      refine lv_bipush (v := (6 : Int32)) hx hb dX9_digest_7 (by decide) ?_
      refine lv_icmp_ge (tgt := 92) hx hb dX9_digest_9 (by decide) (fun c_9 => ?_) (fun c_9 => ?_)
      · have hf := (if_pos c_9).symm.trans hf
        exact K0 _ _ _ _ (Option.some.inj hf).symm hP hD hS (lv_sub hl [0, 1] rfl)
      · have hf := (if_neg c_9).symm.trans hf
        refine lv_aload_n hx hb dX9_digest_12 rfl (lv_at hl 0 rfl) ?_
        refine va_get (D := (dC, dI)) (ci := 8) (v := .ref (ad 0)) (C := RX9) (T := TX9) (N := 15) hx hb hts in_X9 hown hK hP 13 (obM_13 ad cI cJ I J) rfl 0 (by decide) wd_3 (fun _ h9 => h9) rfl dX9_digest_13 ?_
        refine lv_iload_n hx hb dX9_digest_16 rfl (lv_at hl 2 rfl) ?_
        obtain ⟨h_10, hf⟩ := gd_some hf
        refine x_iald hx hb hK (aiM_0 ad cI cJ) hP h_10 dX9_digest_17 ?_
        refine lv_istore (lv' := [(4, .int (I 0 v3.toNatClampNeg)), (0, .ref (ad 13)), (1, .long v1), (3, .int v3)]) hx hb dX9_digest_18 hl (by decide) rfl (fun ls hl => ?_)
        refine lv_ldc2 (v := (31 : Int64)) hx hb hown wd_1 dX9_digest_20 ?_
        refine lv_lload_n hx hb dX9_digest_23 rfl (lv_at hl 2 rfl) ?_
        refine lv_lmul hx hb dX9_digest_24 ?_
        refine lv_iload hx hb dX9_digest_25 (lv_at hl 0 rfl) ?_
        refine lv_i2l (v := (I 0 v3.toNatClampNeg).toInt64) hx hb dX9_digest_27 rfl ?_
        refine lv_ladd hx hb dX9_digest_28 ?_
        refine lv_lstore_n (lv' := [(1, .long (((31 : Int64) * v1) + ((I 0 v3.toNatClampNeg).toInt64))), (4, .int (I 0 v3.toNatClampNeg)), (0, .ref (ad 13)), (3, .int v3)]) hx hb dX9_digest_29 rfl hl (by decide) rfl (fun ls hl => ?_)
        refine lv_iconst (v := (0 : Int32)) hx hb dX9_digest_30 (by decide) ?_
        refine lv_istore (lv' := [(5, .int (0 : Int32)), (1, .long (((31 : Int64) * v1) + ((I 0 v3.toNatClampNeg).toInt64))), (4, .int (I 0 v3.toNatClampNeg)), (0, .ref (ad 13)), (3, .int v3)]) hx hb dX9_digest_31 hl (by decide) rfl (fun ls hl => ?_)
        obtain ⟨o_11, hg_11, hf⟩ := bd_some hf
        refine L33 _ v3 (I 0 v3.toNatClampNeg) I J o_11 ?_ FU (((31 : Int64) * v1) + ((I 0 v3.toNatClampNeg).toInt64)) (0 : Int32) _ _ _ hg_11 hP hD hS (lv_sub hl [3, 1, 4, 2, 0] rfl)
        · intro w1_11 H locs ls ho hP hD hS hl
          subst o_11
          refine lv_iinc (v := (v3 + (1 : Int32))) (lv' := [(3, .int (v3 + (1 : Int32))), (0, .ref (ad 13)), (1, .long w1_11)]) hx hb dX9_digest_86 hl (k := 2) rfl (by first | rfl | decide) (by decide) rfl (fun ls hl => ?_)
          refine lv_goto (tgt := 6) hx hb dX9_digest_89 (by decide) ?_
          exact ih _ _ _ _ _ hf hP hD hS (lv_sub hl [1, 2, 0] rfl)
  unfold f_X9_digest at hf
  refine lv_ldc2 (v := (223 : Int64)) hx hb hown wd_4 dX9_digest_0 ?_
  refine lv_lstore_n (lv' := [(1, .long (223 : Int64)), (0, .ref (ad 13))]) hx hb dX9_digest_3 rfl hl (by decide) rfl (fun ls hl => ?_)
  refine lv_iconst (v := (0 : Int32)) hx hb dX9_digest_4 (by decide) ?_
  refine lv_istore_n (lv' := [(3, .int (0 : Int32)), (1, .long (223 : Int64)), (0, .ref (ad 13))]) hx hb dX9_digest_5 rfl hl (by decide) rfl (fun ls hl => ?_)
  obtain ⟨o_12, hg_12, hf⟩ := bd_some hf
  refine L6 _ I J o_12 ?_ FU (223 : Int64) (0 : Int32) _ _ _ hg_12 hP hD hS (lv_sub hl [2, 1, 0] rfl)
  · intro w1_12 H locs ls ho hP hD hS hl
    subst o_12
    refine lv_ldc2 (v := (31 : Int64)) hx hb hown wd_1 dX9_digest_92 ?_
    refine lv_lload_n hx hb dX9_digest_95 rfl (lv_at hl 1 rfl) ?_
    refine lv_lmul hx hb dX9_digest_96 ?_
    refine lv_aload_n hx hb dX9_digest_97 rfl (lv_at hl 0 rfl) ?_
    refine va_get (D := (dC, dI)) (ci := 8) (v := .int (I 15 0)) (C := RX9) (T := TX9) (N := 15) hx hb hts in_X9 hown hK hP 13 (obM_13 ad cI cJ I J) rfl 8 (by decide) wd_0 (fun _ h9 => h9) rfl dX9_digest_98 ?_
    refine lv_i2l (v := (I 15 0).toInt64) hx hb dX9_digest_101 rfl ?_
    refine lv_ladd hx hb dX9_digest_102 ?_
    refine lv_lstore_n (lv' := [(1, .long (((31 : Int64) * w1_12) + ((I 15 0).toInt64))), (0, .ref (ad 13))]) hx hb dX9_digest_103 rfl hl (by decide) rfl (fun ls hl => ?_)
    refine lv_iconst (v := (0 : Int32)) hx hb dX9_digest_104 (by decide) ?_
    refine lv_istore_n (lv' := [(3, .int (0 : Int32)), (1, .long (((31 : Int64) * w1_12) + ((I 15 0).toInt64))), (0, .ref (ad 13))]) hx hb dX9_digest_105 rfl hl (by decide) rfl (fun ls hl => ?_)
    obtain ⟨o_13, hg_13, hf⟩ := bd_some hf
    refine L106 _ I J o_13 ?_ FU (((31 : Int64) * w1_12) + ((I 15 0).toInt64)) (0 : Int32) _ _ _ hg_13 hP hD hS (lv_sub hl [2, 1, 0] rfl)
    · intro w1_13 H locs ls ho hP hD hS hl
      subst o_13
      refine lv_lload_n hx hb dX9_digest_134 rfl (lv_at hl 0 rfl) ?_
      cases hf
      exact xRl hx hb hr hlocks hK hP hD hS (fun _ h => h) dX9_digest_135
