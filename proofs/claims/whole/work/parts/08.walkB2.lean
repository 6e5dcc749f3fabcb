set_option maxHeartbeats 4000000 in
set_option maxRecDepth 100000 in
theorem c_X2_markAlike (l : Launch) (dC : Nat → ClassId) (dI : Nat → Nat → Nat) (ad : Nat → Nat) (cI cJ cT : ClassId) (p1 : Int32) (p2 : Int32) (p3 : Int32) (I : SI) (J : SJ) {I0 : SI} (hf : f_X2_markAlike p1 p2 p3 I = some I0) : CtV l yX2_markAlike wsX2_markAlike ({ frames := 1, cells := 0, slots := 0, locals := 22 } : Room) (dC, dI) (tys3 cI cJ cT) (wB ad cI cJ cT) [.ref (ad 25), .int p1, .int p2, .int p3] I J I0 J := by
  intro sz
  refine Met.ofW (cc := cX2_markAlike) (maxL := 9) (ret := none) (by decide) rfl ?_
  intro p e s m args below meth c s₁ B hml hv
  obtain ⟨hargs, hsz, hP, hK, hD0⟩ := hv
  have hx := B.exec
  have hb := B.bytes
  have hr := B.returns
  have hts := atoms_spec (ws := wsX2_markAlike) B.pre
  have hown : s.vm.findClass RX2 = some m.cls := findClass_of_methodNamed B.named
  have hlocks := B.notSynchronized
  subst hsz
  have hD := hD0.self (sz := s.heap.size)
  generalize hAe : va_A ((wB ad cI cJ cT) I J) s.heap.size = A at hD ⊢
  have hA : ∀ q : Nat, s.heap.size ≤ q → A q := fun q h => by rw [← hAe]; exact Or.inr h
  have hS : va_S A s.heap s.heap [] := va_S.rf
  have hl := lv_entry ([.ref (ad 25), .int p1, .int p2, .int p3]) (n := 9) (Nat.le_of_ble_eq_true rfl)
  rw [hargs, lg_entry_eq, ← hargs]
  generalize (lg_sl ([.ref (ad 25), .int p1, .int p2, .int p3]) ++ List.replicate (9 - (lg_sl ([.ref (ad 25), .int p1, .int p2, .int p3])).length) Slot.unset).toArray = ls at hl ⊢
  have hl : lv_has ls 9 [(0, .ref (ad 25)), (1, .int p1), (2, .int p2), (3, .int p3)] := hl
  have hfix : CallFix p m c cX2_markAlike 9 s args wsX2_markAlike RX2 := ⟨hx, hb, hml, hown, hts⟩
  have in_X2 : ∀ w ∈ u_ws RX2 TX2 10, w ∈ wsX2_markAlike := by decide +kernel
  have wd_0 := hts (.fieldLink RX2 13 "FuseBench$Listing" "freeAt" "[I") (by decide +kernel)
  have wd_1 := hts (.fieldLink RX2 54 "FuseBench$Listing" "free" "I") (by decide +kernel)
  have L12 : ∀ (Q : State → Prop)  (J : SJ) (o : SI), (∀  (I : SI) (H : Heap) (locs : List Loc) (ls : Array Slot), o = I → va_P (dC, dI) vwCl ((wB ad cI cJ cT) I J) H → va_D A ((wB ad cI cJ cT) I J) → va_S A s.heap H locs → lv_has ls 9 [] → W p l e ({ frames := 1, cells := 0, slots := 0, locals := 22 } : Room) s m args below meth c H locs 0 0 Q (F0 m 81 ls [])) → ∀ (n : Nat) (v4 : Int32) (v5 : Int32) (v6 : Int32) (v7 : Int32) (I : SI) (H : Heap) (locs : List Loc) (ls : Array Slot), lp_X2_markAlike_12 n v4 v5 v6 v7 I = some o → va_P (dC, dI) vwCl ((wB ad cI cJ cT) I J) H → va_D A ((wB ad cI cJ cT) I J) → va_S A s.heap H locs → lv_has ls 9 [(0, .ref (ad 25)), (4, .int v4), (5, .int v5), (6, .int v6), (7, .int v7)] → W p l e ({ frames := 1, cells := 0, slots := 0, locals := 22 } : Room) s m args below meth c H locs 0 0 Q (F0 m 12 ls []) := by
    intro Q  J o K0 n
    clear hP hD hS hl
    induction n with
    | zero =>
      intro v4 v5 v6 v7 I H locs ls hf
      rw [lp_X2_markAlike_12.eq_1] at hf
      cases hf
    | succ n ih =>
      intro v4 v5 v6 v7 I H locs ls hf hP hD hS hl
      rw [lp_X2_markAlike_12.eq_2] at hf
      refine lv_iload hx hb dX2_markAlike_12 (lv_at hl 4 rfl) ?_
      refine lv_bipush (v := (12 : Int32)) hx hb dX2_markAlike_14 (by decide) ?_
      refine lv_icmp_ge (tgt := 81) hx hb dX2_markAlike_16 (by decide) (fun c_1 => ?_) (fun c_1 => ?_)
      · have hf := (if_pos c_1).symm.trans hf
        exact K0 _ _ _ _ (Option.some.inj hf).symm hP hD hS (lv_sub hl [] rfl)
      · have hf := (if_neg c_1).symm.trans hf
        refine lv_aload_n hx hb dX2_markAlike_19 rfl (lv_at hl 0 rfl) ?_
        refine va_get (D := (dC, dI)) (ci := 2) (v := .ref (ad 22)) (C := RX2) (T := TX2) (N := 10) hx hb hts in_X2 hown hK hP 25 (obB_25 ad cI cJ cT I J) rfl 0 (by decide) wd_0 (fun _ h9 => h9) rfl dX2_markAlike_20 ?_
        refine lv_iload hx hb dX2_markAlike_23 (lv_at hl 1 rfl) ?_
        refine lv_iload hx hb dX2_markAlike_25 (lv_at hl 2 rfl) ?_
        refine lv_iload hx hb dX2_markAlike_27 (lv_at hl 3 rfl) ?_
        obtain ⟨r_2, hg_2, hf⟩ := bd_some hf
        refine xSi (rest := [.ref (ad 22)]) (c_X7_placeOf l dC dI ad cI cJ cT (wB ad cI cJ cT) (fun k => k) v4 v5 v6 I J hg_2) hfix (va_cwS 3 hts gX2_markAlike_X7_placeOf rfl rfl rfl (by decide +kernel) ⟨Nat.le_of_ble_eq_true rfl, Nat.le_of_ble_eq_true rfl⟩) hK hP hD hS hA rfl hl.1 rfl (Nat.le_of_ble_eq_true rfl) ⟨Nat.zero_le _, Nat.zero_le _⟩ dX2_markAlike_29 (fun H locs hP hD hS => ?_)
        refine lv_aload_n hx hb dX2_markAlike_32 rfl (lv_at hl 0 rfl) ?_
        refine va_get (D := (dC, dI)) (ci := 2) (v := .int (I 53 0)) (C := RX2) (T := TX2) (N := 10) hx hb hts in_X2 hown hK hP 25 (obB_25 ad cI cJ cT I J) rfl 8 (by decide) wd_1 (fun _ h9 => h9) rfl dX2_markAlike_33 ?_
        obtain ⟨h_3, hf⟩ := gd_some hf
        refine x_iast hx hb hK (aiB_22 ad cI cJ cT) hP hD hS h_3 dX2_markAlike_36 (fun H locs hP hD hS => ?_)
        refine lv_iload hx hb dX2_markAlike_37 (lv_at hl 2 rfl) ?_
        refine lv_istore (lv' := [(8, .int v5), (0, .ref (ad 25)), (4, .int v4), (5, .int v5), (6, .int v6), (7, .int v7)]) hx hb dX2_markAlike_39 hl (by decide) rfl (fun ls hl => ?_)
        refine lv_iload hx hb dX2_markAlike_41 (lv_at hl 5 rfl) ?_
        refine lv_iconst (v := (1 : Int32)) hx hb dX2_markAlike_43 (by decide) ?_
        refine lv_iand hx hb dX2_markAlike_44 ?_
        refine lv_if_ne (tgt := 59) hx hb dX2_markAlike_45 (by decide) (fun c_4 => ?_) (fun c_4 => ?_)
        · have hf := (if_neg c_4).symm.trans hf
          refine lv_aload_n hx hb dX2_markAlike_59 rfl (lv_at hl 1 rfl) ?_
          refine lv_iload hx hb dX2_markAlike_60 (lv_at hl 2 rfl) ?_
          obtain ⟨r_5, hg_5, hf⟩ := bd_some hf
          refine xVi (rest := []) (c_X2_partnerOf l dC dI ad cI cJ cT v4 (ups I 22 r_2.toNatClampNeg (I 53 0)) J hg_5) hfix (cwV 1 hts gX2_markAlike_X2_partnerOf rfl rfl rfl (by decide +kernel) ⟨Nat.le_of_ble_eq_true rfl, Nat.le_of_ble_eq_true rfl⟩) hK hP hD hS hA (va_recv hK hP (ci := 2) (q0 := 25) rfl (obB_25 ad cI cJ cT (ups I 22 r_2.toNatClampNeg (I 53 0)) J)) rfl hl.1 rfl (Nat.le_of_ble_eq_true rfl) ⟨Nat.zero_le _, Nat.zero_le _⟩ dX2_markAlike_62 (fun H locs hP hD hS => ?_)
          refine lv_istore (lv' := [(4, .int r_5), (8, .int v5), (0, .ref (ad 25)), (5, .int v5), (6, .int v6), (7, .int v7)]) hx hb dX2_markAlike_65 hl (by decide) rfl (fun ls hl => ?_)
          refine lv_iload hx hb dX2_markAlike_67 (lv_at hl 4 rfl) ?_
          refine lv_istore (lv' := [(5, .int v6), (4, .int r_5), (8, .int v5), (0, .ref (ad 25)), (6, .int v6), (7, .int v7)]) hx hb dX2_markAlike_69 hl (by decide) rfl (fun ls hl => ?_)
          refine lv_iload hx hb dX2_markAlike_71 (lv_at hl 2 rfl) ?_
          refine lv_istore (lv' := [(6, .int v5), (5, .int v6), (4, .int r_5), (8, .int v5), (0, .ref (ad 25)), (7, .int v7)]) hx hb dX2_markAlike_73 hl (by decide) rfl (fun ls hl => ?_)
          refine lv_iinc (v := (v7 + (1 : Int32))) (lv' := [(7, .int (v7 + (1 : Int32))), (6, .int v5), (5, .int v6), (4, .int r_5), (8, .int v5), (0, .ref (ad 25))]) hx hb dX2_markAlike_75 hl (k := 5) rfl (by first | rfl | decide) (by decide) rfl (fun ls hl => ?_)
          refine lv_goto (tgt := 12) hx hb dX2_markAlike_78 (by decide) ?_
          exact ih _ _ _ _ _ _ _ _ hf hP hD hS (lv_sub hl [5, 3, 2, 1, 0] rfl)
        · have hf := (if_pos c_4).symm.trans hf
          refine lv_iload hx hb dX2_markAlike_48 (lv_at hl 2 rfl) ?_
          refine lv_istore (lv' := [(5, .int v4), (8, .int v5), (0, .ref (ad 25)), (4, .int v4), (6, .int v6), (7, .int v7)]) hx hb dX2_markAlike_50 hl (by decide) rfl (fun ls hl => ?_)
          refine lv_iload hx hb dX2_markAlike_52 (lv_at hl 1 rfl) ?_
          refine lv_istore (lv' := [(4, .int v5), (5, .int v4), (8, .int v5), (0, .ref (ad 25)), (6, .int v6), (7, .int v7)]) hx hb dX2_markAlike_54 hl (by decide) rfl (fun ls hl => ?_)
          refine lv_goto (tgt := 75) hx hb dX2_markAlike_56 (by decide) ?_
          refine lv_iinc (v := (v7 + (1 : Int32))) (lv' := [(7, .int (v7 + (1 : Int32))), (4, .int v5), (5, .int v4), (8, .int v5), (0, .ref (ad 25)), (6, .int v6)]) hx hb dX2_markAlike_75 hl (k := 5) rfl (by first | rfl | decide) (by decide) rfl (fun ls hl => ?_)
          refine lv_goto (tgt := 12) hx hb dX2_markAlike_78 (by decide) ?_
          exact ih _ _ _ _ _ _ _ _ hf hP hD hS (lv_sub hl [4, 1, 2, 5, 0] rfl)
  unfold f_X2_markAlike at hf
  refine lv_iload_n hx hb dX2_markAlike_0 rfl (lv_at hl 1 rfl) ?_
  refine lv_istore (lv' := [(4, .int p1), (0, .ref (ad 25)), (1, .int p1), (2, .int p2), (3, .int p3)]) hx hb dX2_markAlike_1 hl (by decide) rfl (fun ls hl => ?_)
  refine lv_iload_n hx hb dX2_markAlike_3 rfl (lv_at hl 3 rfl) ?_
  refine lv_istore (lv' := [(5, .int p2), (4, .int p1), (0, .ref (ad 25)), (1, .int p1), (2, .int p2), (3, .int p3)]) hx hb dX2_markAlike_4 hl (by decide) rfl (fun ls hl => ?_)
  refine lv_iload_n hx hb dX2_markAlike_6 rfl (lv_at hl 5 rfl) ?_
  refine lv_istore (lv' := [(6, .int p3), (5, .int p2), (4, .int p1), (0, .ref (ad 25)), (1, .int p1), (2, .int p2), (3, .int p3)]) hx hb dX2_markAlike_7 hl (by decide) rfl (fun ls hl => ?_)
  refine lv_iconst (v := (0 : Int32)) hx hb dX2_markAlike_9 (by decide) ?_
  refine lv_istore (lv' := [(7, .int (0 : Int32)), (6, .int p3), (5, .int p2), (4, .int p1), (0, .ref (ad 25)), (1, .int p1), (2, .int p2), (3, .int p3)]) hx hb dX2_markAlike_10 hl (by decide) rfl (fun ls hl => ?_)
  obtain ⟨o_6, hg_6, hf⟩ := bd_some hf
  refine L12 _ J o_6 ?_ FU p1 p2 p3 (0 : Int32) I _ _ _ hg_6 hP hD hS (lv_sub hl [4, 3, 2, 1, 0] rfl)
  · intro I_6 H locs ls ho hP hD hS hl
    subst o_6
    cases hf
    exact xRv hx hb hr hlocks hK hP hD hS (fun _ h => h) dX2_markAlike_81
set_option maxHeartbeats 4000000 in
set_option maxRecDepth 100000 in
theorem c_X2_findFree (l : Launch) (dC : Nat → ClassId) (dI : Nat → Nat → Nat) (ad : Nat → Nat) (cI cJ cT : ClassId) (I : SI) (J : SJ) {I0 : SI} (hf : f_X2_findFree I = some I0) : CtV l yX2_findFree wsX2_findFree ({ frames := 2, cells := 0, slots := 0, locals := 50 } : Room) (dC, dI) (tys3 cI cJ cT) (wB ad cI cJ cT) [.ref (ad 25)] I J I0 J := by
  intro sz
  refine Met.ofW (cc := cX2_findFree) (maxL := 4) (ret := none) (by decide) rfl ?_
  intro p e s m args below meth c s₁ B hml hv
  obtain ⟨hargs, hsz, hP, hK, hD0⟩ := hv
  have hx := B.exec
  have hb := B.bytes
  have hr := B.returns
  have hts := atoms_spec (ws := wsX2_findFree) B.pre
  have hown : s.vm.findClass RX2 = some m.cls := findClass_of_methodNamed B.named
  have hlocks := B.notSynchronized
  subst hsz
  have hD := hD0.self (sz := s.heap.size)
  generalize hAe : va_A ((wB ad cI cJ cT) I J) s.heap.size = A at hD ⊢
  have hA : ∀ q : Nat, s.heap.size ≤ q → A q := fun q h => by rw [← hAe]; exact Or.inr h
  have hS : va_S A s.heap s.heap [] := va_S.rf
  have hl := lv_entry ([.ref (ad 25)]) (n := 4) (Nat.le_of_ble_eq_true rfl)
  rw [hargs, lg_entry_eq, ← hargs]
  generalize (lg_sl ([.ref (ad 25)]) ++ List.replicate (4 - (lg_sl ([.ref (ad 25)])).length) Slot.unset).toArray = ls at hl ⊢
  have hl : lv_has ls 4 [(0, .ref (ad 25))] := hl
  have hfix : CallFix p m c cX2_findFree 4 s args wsX2_findFree RX2 := ⟨hx, hb, hml, hown, hts⟩
  have in_X2 : ∀ w ∈ u_ws RX2 TX2 10, w ∈ wsX2_findFree := by decide +kernel
  have wd_0 := hts (.fieldLink RX2 35 "FuseBench$Listing" "kinds" "I") (by decide +kernel)
  have wd_1 := hts (.fieldLink RX2 13 "FuseBench$Listing" "freeAt" "[I") (by decide +kernel)
  have wd_2 := hts (.fieldLink RX2 54 "FuseBench$Listing" "free" "I") (by decide +kernel)
  have L35 : ∀ (Q : State → Prop) (v1 : Int32) (v2 : Int32) (J : SJ) (o : SI), (∀  (I : SI) (H : Heap) (locs : List Loc) (ls : Array Slot), o = I → va_P (dC, dI) vwCl ((wB ad cI cJ cT) I J) H → va_D A ((wB ad cI cJ cT) I J) → va_S A s.heap H locs → lv_has ls 4 [(0, .ref (ad 25)), (1, .int v1), (2, .int v2)] → W p l e ({ frames := 2, cells := 0, slots := 0, locals := 50 } : Room) s m args below meth c H locs 0 0 Q (F0 m 90 ls [])) → ∀ (n : Nat) (v3 : Int32) (I : SI) (H : Heap) (locs : List Loc) (ls : Array Slot), lp_X2_findFree_35 v1 v2 n v3 I = some o → va_P (dC, dI) vwCl ((wB ad cI cJ cT) I J) H → va_D A ((wB ad cI cJ cT) I J) → va_S A s.heap H locs → lv_has ls 4 [(0, .ref (ad 25)), (1, .int v1), (2, .int v2), (3, .int v3)] → W p l e ({ frames := 2, cells := 0, slots := 0, locals := 50 } : Room) s m args below meth c H locs 0 0 Q (F0 m 35 ls []) := by
    intro Q v1 v2 J o K0 n
    clear hP hD hS hl
    induction n with
    | zero =>
      intro v3 I H locs ls hf
      rw [lp_X2_findFree_35.eq_1] at hf
      cases hf
    | succ n ih =>
      intro v3 I H locs ls hf hP hD hS hl
      rw [lp_X2_findFree_35.eq_2] at hf
      refine lv_iload_n hx hb dX2_findFree_35 rfl (lv_at hl 3 rfl) ?_
      refine lv_aload_n hx hb dX2_findFree_36 rfl (lv_at hl 0 rfl) ?_
      refine va_get (D := (dC, dI)) (ci := 2) (v := .int (I 50 0)) (C := RX2) (T := TX2) (N := 10) hx hb hts in_X2 hown hK hP 25 (obB_25 ad cI cJ cT I J) rfl 5 (by decide) wd_0 (fun _ h9 => h9) rfl dX2_findFree_37 ?_
      refine lv_icmp_ge (tgt := 90) hx hb dX2_findFree_40 (by decide) (fun c_1 => ?_) (fun c_1 => ?_)
      · have hf := (if_pos c_1).symm.trans hf
        exact K0 _ _ _ _ (Option.some.inj hf).symm hP hD hS (lv_sub hl [0, 1, 2] rfl)
      · have hf := (if_neg c_1).symm.trans hf
        refine lv_aload_n hx hb dX2_findFree_43 rfl (lv_at hl 0 rfl) ?_
        refine va_get (D := (dC, dI)) (ci := 2) (v := .ref (ad 22)) (C := RX2) (T := TX2) (N := 10) hx hb hts in_X2 hown hK hP 25 (obB_25 ad cI cJ cT I J) rfl 0 (by decide) wd_1 (fun _ h9 => h9) rfl dX2_findFree_44 ?_
        refine lv_iload_n hx hb dX2_findFree_47 rfl (lv_at hl 1 rfl) ?_
        refine lv_iload_n hx hb dX2_findFree_48 rfl (lv_at hl 2 rfl) ?_
        refine lv_iload_n hx hb dX2_findFree_49 rfl (lv_at hl 3 rfl) ?_
        obtain ⟨r_2, hg_2, hf⟩ := bd_some hf
        refine xSi (rest := [.ref (ad 22)]) (c_X7_placeOf l dC dI ad cI cJ cT (wB ad cI cJ cT) (fun k => k) v1 v2 v3 I J hg_2) hfix (va_cwS 3 hts gX2_findFree_X7_placeOf rfl rfl rfl (by decide +kernel) ⟨Nat.le_of_ble_eq_true rfl, Nat.le_of_ble_eq_true rfl⟩) hK hP hD hS hA rfl hl.1 rfl (Nat.le_of_ble_eq_true rfl) ⟨Nat.zero_le _, Nat.zero_le _⟩ dX2_findFree_50 (fun H locs hP hD hS => ?_)
        obtain ⟨h_3, hf⟩ := gd_some hf
        refine x_iald hx hb hK (aiB_22 ad cI cJ cT) hP h_3 dX2_findFree_53 ?_
        refine lv_iconst (v := (-1 : Int32)) hx hb dX2_findFree_54 (by decide) ?_
        refine lv_icmp_ne (tgt := 84) hx hb dX2_findFree_55 (by decide) (fun c_4 => ?_) (fun c_4 => ?_)
        · have hf := (if_neg c_4).symm.trans hf
          refine lv_iinc (v := (v3 + (1 : Int32))) (lv' := [(3, .int (v3 + (1 : Int32))), (0, .ref (ad 25)), (1, .int v1), (2, .int v2)]) hx hb dX2_findFree_84 hl (k := 3) rfl (by first | rfl | decide) (by decide) rfl (fun ls hl => ?_)
          refine lv_goto (tgt := 35) hx hb dX2_findFree_87 (by decide) ?_
          exact ih _ _ _ _ _ hf hP hD hS (lv_sub hl [1, 2, 3, 0] rfl)
        · have hf := (if_pos c_4).symm.trans hf
          refine lv_aload_n hx hb dX2_findFree_58 rfl (lv_at hl 0 rfl) ?_
          refine va_get (D := (dC, dI)) (ci := 2) (v := .int (I 53 0)) (C := RX2) (T := TX2) (N := 10) hx hb hts in_X2 hown hK hP 25 (obB_25 ad cI cJ cT I J) rfl 8 (by decide) wd_2 (fun _ h9 => h9) rfl dX2_findFree_59 ?_
          refine lv_bipush (v := (10 : Int32)) hx hb dX2_findFree_62 (by decide) ?_
          refine lv_icmp_ge (tgt := 84) hx hb dX2_findFree_64 (by decide) (fun c_5 => ?_) (fun c_5 => ?_)
          · have hf := (if_pos c_5).symm.trans hf
            refine lv_iinc (v := (v3 + (1 : Int32))) (lv' := [(3, .int (v3 + (1 : Int32))), (0, .ref (ad 25)), (1, .int v1), (2, .int v2)]) hx hb dX2_findFree_84 hl (k := 3) rfl (by first | rfl | decide) (by decide) rfl (fun ls hl => ?_)
            refine lv_goto (tgt := 35) hx hb dX2_findFree_87 (by decide) ?_
            exact ih _ _ _ _ _ hf hP hD hS (lv_sub hl [1, 2, 3, 0] rfl)
          · have hf := (if_neg c_5).symm.trans hf
            refine lv_aload_n hx hb dX2_findFree_67 rfl (lv_at hl 0 rfl) ?_
            refine lv_iload_n hx hb dX2_findFree_68 rfl (lv_at hl 1 rfl) ?_
            refine lv_iload_n hx hb dX2_findFree_69 rfl (lv_at hl 2 rfl) ?_
            refine lv_iload_n hx hb dX2_findFree_70 rfl (lv_at hl 3 rfl) ?_
            obtain ⟨I_6, hg_6, hf⟩ := bd_some hf
            refine xVv (rest := []) (c_X2_markAlike l dC dI ad cI cJ cT v1 v2 v3 I J hg_6) hfix (cwV 3 hts gX2_findFree_X2_markAlike rfl rfl rfl (by decide +kernel) ⟨Nat.le_of_ble_eq_true rfl, Nat.le_of_ble_eq_true rfl⟩) hK hP hD hS hA (va_recv hK hP (ci := 2) (q0 := 25) rfl (obB_25 ad cI cJ cT I J)) rfl hl.1 rfl (Nat.le_of_ble_eq_true rfl) ⟨Nat.zero_le _, Nat.zero_le _⟩ dX2_findFree_71 (fun H locs hP hD hS => ?_)
            refine lv_aload_n hx hb dX2_findFree_74 rfl (lv_at hl 0 rfl) ?_
            refine lv_dup hx hb dX2_findFree_75 rfl ?_
            refine va_get (D := (dC, dI)) (ci := 2) (v := .int (I_6 53 0)) (C := RX2) (T := TX2) (N := 10) hx hb hts in_X2 hown hK hP 25 (obB_25 ad cI cJ cT I_6 J) rfl 8 (by decide) wd_2 (fun _ h9 => h9) rfl dX2_findFree_76 ?_
            refine lv_iconst (v := (1 : Int32)) hx hb dX2_findFree_79 (by decide) ?_
            refine lv_iadd hx hb dX2_findFree_80 ?_
            refine x_put (C := RX2) (T := TX2) (N := 10) hx hb hts in_X2 tyX2 tyX2_ok nmX2 hown hK hP hD hS 25 (obB_25 ad cI cJ cT I_6 J) rfl 8 (by decide) wd_2 (fun _ h9 => h9) rfl (by decide +kernel) (Nat.le_of_ble_eq_true rfl) (psB_53 ad cI cJ cT I_6 J ((I_6 53 0) + (1 : Int32))) dX2_findFree_81 (fun H locs hP hD hS => ?_)
            refine lv_iinc (v := (v3 + (1 : Int32))) (lv' := [(3, .int (v3 + (1 : Int32))), (0, .ref (ad 25)), (1, .int v1), (2, .int v2)]) hx hb dX2_findFree_84 hl (k := 3) rfl (by first | rfl | decide) (by decide) rfl (fun ls hl => ?_)
            refine lv_goto (tgt := 35) hx hb dX2_findFree_87 (by decide) ?_
            exact ih _ _ _ _ _ hf hP hD hS (lv_sub hl [1, 2, 3, 0] rfl)
  have L25 : ∀ (Q : State → Prop) (v1 : Int32) (J : SJ) (o : SI), (∀  (I : SI) (H : Heap) (locs : List Loc) (ls : Array Slot), o = I → va_P (dC, dI) vwCl ((wB ad cI cJ cT) I J) H → va_D A ((wB ad cI cJ cT) I J) → va_S A s.heap H locs → lv_has ls 4 [(0, .ref (ad 25)), (1, .int v1)] → W p l e ({ frames := 2, cells := 0, slots := 0, locals := 50 } : Room) s m args below meth c H locs 0 0 Q (F0 m 96 ls [])) → ∀ (n : Nat) (v2 : Int32) (I : SI) (H : Heap) (locs : List Loc) (ls : Array Slot), lp_X2_findFree_25 v1 n v2 I = some o → va_P (dC, dI) vwCl ((wB ad cI cJ cT) I J) H → va_D A ((wB ad cI cJ cT) I J) → va_S A s.heap H locs → lv_has ls 4 [(0, .ref (ad 25)), (1, .int v1), (2, .int v2)] → W p l e ({ frames := 2, cells := 0, slots := 0, locals := 50 } : Room) s m args below meth c H locs 0 0 Q (F0 m 25 ls []) := by
    intro Q v1 J o K0 n
    clear hP hD hS hl
    induction n with
    | zero =>
      intro v2 I H locs ls hf
      rw [lp_X2_findFree_25.eq_1] at hf
      cases hf
    | succ n ih =>
      intro v2 I H locs ls hf hP hD hS hl
      rw [lp_X2_findFree_25.eq_2] at hf
      refine lv_iload_n hx hb dX2_findFree_25 rfl (lv_at hl 2 rfl) ?_
      refine lv_aload_n hx hb dX2_findFree_26 rfl (lv_at hl 0 rfl) ?_
      refine va_get (D := (dC, dI)) (ci := 2) (v := .int (I 50 0)) (C := RX2) (T := TX2) (N := 10) hx hb hts in_X2 hown hK hP 25 (obB_25 ad cI cJ cT I J) rfl 5 (by decide) wd_0 (fun _ h9 => h9) rfl dX2_findFree_27 ?_
      refine lv_icmp_ge (tgt := 96) hx hb dX2_findFree_30 (by decide) (fun c_7 => ?_) (fun c_7 => ?_)
      · have hf := (if_pos c_7).symm.trans hf
        exact K0 _ _ _ _ (Option.some.inj hf).symm hP hD hS (lv_sub hl [0, 1] rfl)
      · have hf := (if_neg c_7).symm.trans hf
        refine lv_iconst (v := (1 : Int32)) hx hb dX2_findFree_33 (by decide) ?_
        refine lv_istore_n (lv' := [(3, .int (1 : Int32)), (0, .ref (ad 25)), (1, .int v1), (2, .int v2)]) hx hb dX2_findFree_34 rfl hl (by decide) rfl (fun ls hl => ?_)
        obtain ⟨o_8, hg_8, hf⟩ := bd_some hf
        refine L35 _ v1 v2 J o_8 ?_ FU (1 : Int32) I _ _ _ hg_8 hP hD hS (lv_sub hl [1, 2, 3, 0] rfl)
        · intro I_8 H locs ls ho hP hD hS hl
          subst o_8
          refine lv_iinc (v := (v2 + (1 : Int32))) (lv' := [(2, .int (v2 + (1 : Int32))), (0, .ref (ad 25)), (1, .int v1)]) hx hb dX2_findFree_90 hl (k := 2) rfl (by first | rfl | decide) (by decide) rfl (fun ls hl => ?_)
          refine lv_goto (tgt := 25) hx hb dX2_findFree_93 (by decide) ?_
          exact ih _ _ _ _ _ hf hP hD hS (lv_sub hl [1, 2, 0] rfl)
  have L15 : ∀ (Q : State → Prop)  (J : SJ) (o : SI), (∀  (I : SI) (H : Heap) (locs : List Loc) (ls : Array Slot), o = I → va_P (dC, dI) vwCl ((wB ad cI cJ cT) I J) H → va_D A ((wB ad cI cJ cT) I J) → va_S A s.heap H locs → lv_has ls 4 [] → W p l e ({ frames := 2, cells := 0, slots := 0, locals := 50 } : Room) s m args below meth c H locs 0 0 Q (F0 m 102 ls [])) → ∀ (n : Nat) (v1 : Int32) (I : SI) (H : Heap) (locs : List Loc) (ls : Array Slot), lp_X2_findFree_15 n v1 I = some o → va_P (dC, dI) vwCl ((wB ad cI cJ cT) I J) H → va_D A ((wB ad cI cJ cT) I J) → va_S A s.heap H locs → lv_has ls 4 [(0, .ref (ad 25)), (1, .int v1)] → W p l e ({ frames := 2, cells := 0, slots := 0, locals := 50 } : Room) s m args below meth c H locs 0 0 Q (F0 m 15 ls []) := by
    intro Q  J o K0 n
    clear hP hD hS hl
    induction n with
    | zero =>
      intro v1 I H locs ls hf
      rw [lp_X2_findFree_15.eq_1] at hf
      cases hf
    | succ n ih =>
      intro v1 I H locs ls hf hP hD hS hl
      rw [lp_X2_findFree_15.eq_2] at hf
      refine lv_iload_n hx hb dX2_findFree_15 rfl (lv_at hl 1 rfl) ?_
      refine lv_aload_n hx hb dX2_findFree_16 rfl (lv_at hl 0 rfl) ?_
      refine va_get (D := (dC, dI)) (ci := 2) (v := .int (I 50 0)) (C := RX2) (T := TX2) (N := 10) hx hb hts in_X2 hown hK hP 25 (obB_25 ad cI cJ cT I J) rfl 5 (by decide) wd_0 (fun _ h9 => h9) rfl dX2_findFree_17 ?_
      refine lv_icmp_ge (tgt := 102) hx hb dX2_findFree_20 (by decide) (fun c_9 => ?_) (fun c_9 => ?_)
      · have hf := (if_pos c_9).symm.trans hf
        exact K0 _ _ _ _ (Option.some.inj hf).symm hP hD hS (lv_sub hl [] rfl)
      · have hf := (if_neg c_9).symm.trans hf
        refine lv_iconst (v := (1 : Int32)) hx hb dX2_findFree_23 (by decide) ?_
        refine lv_istore_n (lv' := [(2, .int (1 : Int32)), (0, .ref (ad 25)), (1, .int v1)]) hx hb dX2_findFree_24 rfl hl (by decide) rfl (fun ls hl => ?_)
        obtain ⟨o_10, hg_10, hf⟩ := bd_some hf
        refine L25 _ v1 J o_10 ?_ FU (1 : Int32) I _ _ _ hg_10 hP hD hS (lv_sub hl [1, 2, 0] rfl)
        · intro I_10 H locs ls ho hP hD hS hl
          subst o_10
          refine lv_iinc (v := (v1 + (1 : Int32))) (lv' := [(1, .int (v1 + (1 : Int32))), (0, .ref (ad 25))]) hx hb dX2_findFree_96 hl (k := 1) rfl (by first | rfl | decide) (by decide) rfl (fun ls hl => ?_)
          refine lv_goto (tgt := 15) hx hb dX2_findFree_99 (by decide) ?_
          exact ih _ _ _ _ _ hf hP hD hS (lv_sub hl [1, 0] rfl)
  unfold f_X2_findFree at hf
  refine lv_aload_n hx hb dX2_findFree_0 rfl (lv_at hl 0 rfl) ?_
  refine va_get (D := (dC, dI)) (ci := 2) (v := .ref (ad 22)) (C := RX2) (T := TX2) (N := 10) hx hb hts in_X2 hown hK hP 25 (obB_25 ad cI cJ cT I J) rfl 0 (by decide) wd_1 (fun _ h9 => h9) rfl dX2_findFree_1 ?_
  refine lv_iconst (v := (-1 : Int32)) hx hb dX2_findFree_4 (by decide) ?_
  obtain ⟨I_11, hg_11, hf⟩ := bd_some hf
  refine xSv (rest := []) (c_J7_fill l dC dI ad cI cJ cT (wB ad cI cJ cT) (fun k => k) (ad 22) 22 125 22 (aiB_22 ad cI cJ cT) (-1 : Int32) I J hg_11) hfix (va_cwS 2 hts gX2_findFree_J7_fill_53178 rfl rfl rfl (by decide +kernel) ⟨Nat.le_of_ble_eq_true rfl, Nat.le_of_ble_eq_true rfl⟩) hK hP hD hS hA rfl hl.1 rfl (Nat.le_of_ble_eq_true rfl) ⟨Nat.zero_le _, Nat.zero_le _⟩ dX2_findFree_5 (fun H locs hP hD hS => ?_)
  refine lv_aload_n hx hb dX2_findFree_8 rfl (lv_at hl 0 rfl) ?_
  refine lv_iconst (v := (0 : Int32)) hx hb dX2_findFree_9 (by decide) ?_
  refine x_put (C := RX2) (T := TX2) (N := 10) hx hb hts in_X2 tyX2 tyX2_ok nmX2 hown hK hP hD hS 25 (obB_25 ad cI cJ cT I_11 J) rfl 8 (by decide) wd_2 (fun _ h9 => h9) rfl (by decide +kernel) (Nat.le_of_ble_eq_true rfl) (psB_53 ad cI cJ cT I_11 J (0 : Int32)) dX2_findFree_10 (fun H locs hP hD hS => ?_)
  refine lv_iconst (v := (1 : Int32)) hx hb dX2_findFree_13 (by decide) ?_
  refine lv_istore_n (lv' := [(1, .int (1 : Int32)), (0, .ref (ad 25))]) hx hb dX2_findFree_14 rfl hl (by decide) rfl (fun ls hl => ?_)
  obtain ⟨o_12, hg_12, hf⟩ := bd_some hf
  refine L15 _ J o_12 ?_ FU (1 : Int32) (sets I_11 53 (0 : Int32)) _ _ _ hg_12 hP hD hS (lv_sub hl [1, 0] rfl)
  · intro I_12 H locs ls ho hP hD hS hl
    subst o_12
    cases hf
    exact xRv hx hb hr hlocks hK hP hD hS (fun _ h => h) dX2_findFree_102
set_option maxHeartbeats 4000000 in
set_option maxRecDepth 100000 in
theorem c_X2_buildCandidate (l : Launch) (dC : Nat → ClassId) (dI : Nat → Nat → Nat) (ad : Nat → Nat) (cI cJ cT : ClassId) (I : SI) (J : SJ) {I0 : SI} (hf : f_X2_buildCandidate I = some I0) : CtV l yX2_buildCandidate wsX2_buildCandidate ({ frames := 3, cells := 0, slots := 0, locals := 68 } : Room) (dC, dI) (tys3 cI cJ cT) (wB ad cI cJ cT) [.ref (ad 25)] I J I0 J := by
  intro sz
  refine Met.ofW (cc := cX2_buildCandidate) (maxL := 5) (ret := none) (by decide) rfl ?_
  intro p e s m args below meth c s₁ B hml hv
  obtain ⟨hargs, hsz, hP, hK, hD0⟩ := hv
  have hx := B.exec
  have hb := B.bytes
  have hr := B.returns
  have hts := atoms_spec (ws := wsX2_buildCandidate) B.pre
  have hown : s.vm.findClass RX2 = some m.cls := findClass_of_methodNamed B.named
  have hlocks := B.notSynchronized
  subst hsz
  have hD := hD0.self (sz := s.heap.size)
  generalize hAe : va_A ((wB ad cI cJ cT) I J) s.heap.size = A at hD ⊢
  have hA : ∀ q : Nat, s.heap.size ≤ q → A q := fun q h => by rw [← hAe]; exact Or.inr h
  have hS : va_S A s.heap s.heap [] := va_S.rf
  have hl := lv_entry ([.ref (ad 25)]) (n := 5) (Nat.le_of_ble_eq_true rfl)
  rw [hargs, lg_entry_eq, ← hargs]
  generalize (lg_sl ([.ref (ad 25)]) ++ List.replicate (5 - (lg_sl ([.ref (ad 25)])).length) Slot.unset).toArray = ls at hl ⊢
  have hl : lv_has ls 5 [(0, .ref (ad 25))] := hl
  have hfix : CallFix p m c cX2_buildCandidate 5 s args wsX2_buildCandidate RX2 := ⟨hx, hb, hml, hown, hts⟩
  have in_X2 : ∀ w ∈ u_ws RX2 TX2 10, w ∈ wsX2_buildCandidate := by decide +kernel
  have wd_0 := hts (.fieldLink RX2 35 "FuseBench$Listing" "kinds" "I") (by decide +kernel)
  have wd_1 := hts (.fieldLink RX2 13 "FuseBench$Listing" "freeAt" "[I") (by decide +kernel)
  have wd_2 := hts (.fieldLink RX2 24 "FuseBench$Listing" "candidate" "LFuseBench$Table;") (by decide +kernel)
  have wd_3 := hts (.fieldLink RX2 17 "FuseBench$Listing" "row" "[I") (by decide +kernel)
  have L48 : ∀ (Q : State → Prop) (v1 : Int32) (v2 : Int32) (J : SJ) (o : SI), (∀  (I : SI) (H : Heap) (locs : List Loc) (ls : Array Slot), o = I → va_P (dC, dI) vwCl ((wB ad cI cJ cT) I J) H → va_D A ((wB ad cI cJ cT) I J) → va_S A s.heap H locs → lv_has ls 5 [(0, .ref (ad 25)), (1, .int v1), (2, .int v2)] → W p l e ({ frames := 3, cells := 0, slots := 0, locals := 68 } : Room) s m args below meth c H locs 0 0 Q (F0 m 102 ls [])) → ∀ (n : Nat) (v3 : Int32) (I : SI) (H : Heap) (locs : List Loc) (ls : Array Slot), lp_X2_buildCandidate_48 v1 v2 n v3 I = some o → va_P (dC, dI) vwCl ((wB ad cI cJ cT) I J) H → va_D A ((wB ad cI cJ cT) I J) → va_S A s.heap H locs → lv_has ls 5 [(0, .ref (ad 25)), (1, .int v1), (2, .int v2), (3, .int v3)] → W p l e ({ frames := 3, cells := 0, slots := 0, locals := 68 } : Room) s m args below meth c H locs 0 0 Q (F0 m 48 ls []) := by
    intro Q v1 v2 J o K0 n
    clear hP hD hS hl
    induction n with
    | zero =>
      intro v3 I H locs ls hf
      rw [lp_X2_buildCandidate_48.eq_1] at hf
      cases hf
    | succ n ih =>
      intro v3 I H locs ls hf hP hD hS hl
      rw [lp_X2_buildCandidate_48.eq_2] at hf
      refine lv_iload_n hx hb dX2_buildCandidate_48 rfl (lv_at hl 3 rfl) ?_
      refine lv_aload_n hx hb dX2_buildCandidate_49 rfl (lv_at hl 0 rfl) ?_
      refine va_get (D := (dC, dI)) (ci := 2) (v := .int (I 50 0)) (C := RX2) (T := TX2) (N := 10) hx hb hts in_X2 hown hK hP 25 (obB_25 ad cI cJ cT I J) rfl 5 (by decide) wd_0 (fun _ h9 => h9) rfl dX2_buildCandidate_50 ?_
      refine lv_icmp_ge (tgt := 102) hx hb dX2_buildCandidate_53 (by decide) (fun c_1 => ?_) (fun c_1 => ?_)
      · have hf := (if_pos c_1).symm.trans hf
        exact K0 _ _ _ _ (Option.some.inj hf).symm hP hD hS (lv_sub hl [0, 1, 2] rfl)
      · have hf := (if_neg c_1).symm.trans hf
        refine lv_aload_n hx hb dX2_buildCandidate_56 rfl (lv_at hl 0 rfl) ?_
        refine va_get (D := (dC, dI)) (ci := 2) (v := .ref (ad 22)) (C := RX2) (T := TX2) (N := 10) hx hb hts in_X2 hown hK hP 25 (obB_25 ad cI cJ cT I J) rfl 0 (by decide) wd_1 (fun _ h9 => h9) rfl dX2_buildCandidate_57 ?_
        refine lv_iload_n hx hb dX2_buildCandidate_60 rfl (lv_at hl 1 rfl) ?_
        refine lv_iload_n hx hb dX2_buildCandidate_61 rfl (lv_at hl 2 rfl) ?_
        refine lv_iload_n hx hb dX2_buildCandidate_62 rfl (lv_at hl 3 rfl) ?_
        obtain ⟨r_2, hg_2, hf⟩ := bd_some hf
        refine xSi (rest := [.ref (ad 22)]) (c_X7_placeOf l dC dI ad cI cJ cT (wB ad cI cJ cT) (fun k => k) v1 v2 v3 I J hg_2) hfix (va_cwS 3 hts gX2_buildCandidate_X7_placeOf rfl rfl rfl (by decide +kernel) ⟨Nat.le_of_ble_eq_true rfl, Nat.le_of_ble_eq_true rfl⟩) hK hP hD hS hA rfl hl.1 rfl (Nat.le_of_ble_eq_true rfl) ⟨Nat.zero_le _, Nat.zero_le _⟩ dX2_buildCandidate_63 (fun H locs hP hD hS => ?_)
        obtain ⟨h_3, hf⟩ := gd_some hf
        refine x_iald hx hb hK (aiB_22 ad cI cJ cT) hP h_3 dX2_buildCandidate_66 ?_
        refine lv_istore (lv' := [(4, .int (I 22 r_2.toNatClampNeg)), (0, .ref (ad 25)), (1, .int v1), (2, .int v2), (3, .int v3)]) hx hb dX2_buildCandidate_67 hl (by decide) rfl (fun ls hl => ?_)
        refine lv_aload_n hx hb dX2_buildCandidate_69 rfl (lv_at hl 1 rfl) ?_
        refine va_get (D := (dC, dI)) (ci := 2) (v := .ref (ad (8 + 7))) (C := RX2) (T := TX2) (N := 10) hx hb hts in_X2 hown hK hP 25 (obB_25 ad cI cJ cT I J) rfl 3 (by decide) wd_2 (fun _ h9 => h9) rfl dX2_buildCandidate_70 ?_
        refine lv_iload_n hx hb dX2_buildCandidate_73 rfl (lv_at hl 2 rfl) ?_
        refine lv_iload_n hx hb dX2_buildCandidate_74 rfl (lv_at hl 3 rfl) ?_
        refine lv_iload_n hx hb dX2_buildCandidate_75 rfl (lv_at hl 4 rfl) ?_
        refine lv_iload hx hb dX2_buildCandidate_76 (lv_at hl 0 rfl) ?_
        refine lv_iconst (v := (-1 : Int32)) hx hb dX2_buildCandidate_78 (by decide) ?_
        refine lv_icmp_ne (tgt := 86) hx hb dX2_buildCandidate_79 (by decide) (fun c_4 => ?_) (fun c_4 => ?_)
        · have hf := (if_neg c_4).symm.trans hf
          refine lv_aload_n hx hb dX2_buildCandidate_86 rfl (lv_at hl 1 rfl) ?_
          refine va_get (D := (dC, dI)) (ci := 2) (v := .ref (ad 23)) (C := RX2) (T := TX2) (N := 10) hx hb hts in_X2 hown hK hP 25 (obB_25 ad cI cJ cT I J) rfl 1 (by decide) wd_3 (fun _ h9 => h9) rfl dX2_buildCandidate_87 ?_
          refine lv_iload hx hb dX2_buildCandidate_90 (lv_at hl 0 rfl) ?_
          obtain ⟨h_5, hf⟩ := gd_some hf
          refine x_iald hx hb hK (aiB_23 ad cI cJ cT) hP h_5 dX2_buildCandidate_92 ?_
          obtain ⟨I_6, hg_6, hf⟩ := bd_some hf
          refine xVv (rest := []) (c_X7_setNumber l dC dI ad cI cJ cT (wB ad cI cJ cT) (fun k => k) 7 (wBT ad cI cJ cT (by decide)) v1 v2 v3 (I 23 (I 22 r_2.toNatClampNeg).toNatClampNeg) I J hg_6) hfix (cwV 4 hts gX2_buildCandidate_X7_setNumber rfl rfl rfl (by decide +kernel) ⟨Nat.le_of_ble_eq_true rfl, Nat.le_of_ble_eq_true rfl⟩) hK hP hD hS hA (va_recv hK hP (ci := 6) (q0 := (8 + 7)) rfl (((wBT ad cI cJ cT (by decide))).2.1 I J)) rfl hl.1 rfl (Nat.le_of_ble_eq_true rfl) ⟨Nat.zero_le _, Nat.zero_le _⟩ dX2_buildCandidate_93 (fun H locs hP hD hS => ?_)
          refine lv_iinc (v := (v3 + (1 : Int32))) (lv' := [(3, .int (v3 + (1 : Int32))), (4, .int (I 22 r_2.toNatClampNeg)), (0, .ref (ad 25)), (1, .int v1), (2, .int v2)]) hx hb dX2_buildCandidate_96 hl (k := 4) rfl (by first | rfl | decide) (by decide) rfl (fun ls hl => ?_)
          refine lv_goto (tgt := 48) hx hb dX2_buildCandidate_99 (by decide) ?_
          exact ih _ _ _ _ _ hf hP hD hS (lv_sub hl [2, 3, 4, 0] rfl)
        · have hf := (if_pos c_4).symm.trans hf
          refine lv_iconst (v := (0 : Int32)) hx hb dX2_buildCandidate_82 (by decide) ?_
          refine lv_goto (tgt := 93) hx hb dX2_buildCandidate_83 (by decide) ?_
          obtain ⟨I_7, hg_7, hf⟩ := bd_some hf
          refine xVv (rest := []) (c_X7_setNumber l dC dI ad cI cJ cT (wB ad cI cJ cT) (fun k => k) 7 (wBT ad cI cJ cT (by decide)) v1 v2 v3 (0 : Int32) I J hg_7) hfix (cwV 4 hts gX2_buildCandidate_X7_setNumber rfl rfl rfl (by decide +kernel) ⟨Nat.le_of_ble_eq_true rfl, Nat.le_of_ble_eq_true rfl⟩) hK hP hD hS hA (va_recv hK hP (ci := 6) (q0 := (8 + 7)) rfl (((wBT ad cI cJ cT (by decide))).2.1 I J)) rfl hl.1 rfl (Nat.le_of_ble_eq_true rfl) ⟨Nat.zero_le _, Nat.zero_le _⟩ dX2_buildCandidate_93 (fun H locs hP hD hS => ?_)
          refine lv_iinc (v := (v3 + (1 : Int32))) (lv' := [(3, .int (v3 + (1 : Int32))), (4, .int (I 22 r_2.toNatClampNeg)), (0, .ref (ad 25)), (1, .int v1), (2, .int v2)]) hx hb dX2_buildCandidate_96 hl (k := 4) rfl (by first | rfl | decide) (by decide) rfl (fun ls hl => ?_)
          refine lv_goto (tgt := 48) hx hb dX2_buildCandidate_99 (by decide) ?_
          exact ih _ _ _ _ _ hf hP hD hS (lv_sub hl [2, 3, 4, 0] rfl)
  have L38 : ∀ (Q : State → Prop) (v1 : Int32) (J : SJ) (o : SI), (∀  (I : SI) (H : Heap) (locs : List Loc) (ls : Array Slot), o = I → va_P (dC, dI) vwCl ((wB ad cI cJ cT) I J) H → va_D A ((wB ad cI cJ cT) I J) → va_S A s.heap H locs → lv_has ls 5 [(0, .ref (ad 25)), (1, .int v1)] → W p l e ({ frames := 3, cells := 0, slots := 0, locals := 68 } : Room) s m args below meth c H locs 0 0 Q (F0 m 108 ls [])) → ∀ (n : Nat) (v2 : Int32) (I : SI) (H : Heap) (locs : List Loc) (ls : Array Slot), lp_X2_buildCandidate_38 v1 n v2 I = some o → va_P (dC, dI) vwCl ((wB ad cI cJ cT) I J) H → va_D A ((wB ad cI cJ cT) I J) → va_S A s.heap H locs → lv_has ls 5 [(0, .ref (ad 25)), (1, .int v1), (2, .int v2)] → W p l e ({ frames := 3, cells := 0, slots := 0, locals := 68 } : Room) s m args below meth c H locs 0 0 Q (F0 m 38 ls []) := by
    intro Q v1 J o K0 n
    clear hP hD hS hl
    induction n with
    | zero =>
      intro v2 I H locs ls hf
      rw [lp_X2_buildCandidate_38.eq_1] at hf
      cases hf
    | succ n ih =>
      intro v2 I H locs ls hf hP hD hS hl
      rw [lp_X2_buildCandidate_38.eq_2] at hf
      refine lv_iload_n hx hb dX2_buildCandidate_38 rfl (lv_at hl 2 rfl) ?_
      refine lv_aload_n hx hb dX2_buildCandidate_39 rfl (lv_at hl 0 rfl) ?_
      refine va_get (D := (dC, dI)) (ci := 2) (v := .int (I 50 0)) (C := RX2) (T := TX2) (N := 10) hx hb hts in_X2 hown hK hP 25 (obB_25 ad cI cJ cT I J) rfl 5 (by decide) wd_0 (fun _ h9 => h9) rfl dX2_buildCandidate_40 ?_
      refine lv_icmp_ge (tgt := 108) hx hb dX2_buildCandidate_43 (by decide) (fun c_8 => ?_) (fun c_8 => ?_)
      · have hf := (if_pos c_8).symm.trans hf
        exact K0 _ _ _ _ (Option.some.inj hf).symm hP hD hS (lv_sub hl [0, 1] rfl)
      · have hf := (if_neg c_8).symm.trans hf
        refine lv_iconst (v := (1 : Int32)) hx hb dX2_buildCandidate_46 (by decide) ?_
        refine lv_istore_n (lv' := [(3, .int (1 : Int32)), (0, .ref (ad 25)), (1, .int v1), (2, .int v2)]) hx hb dX2_buildCandidate_47 rfl hl (by decide) rfl (fun ls hl => ?_)
        obtain ⟨o_9, hg_9, hf⟩ := bd_some hf
        refine L48 _ v1 v2 J o_9 ?_ FU (1 : Int32) I _ _ _ hg_9 hP hD hS (lv_sub hl [1, 2, 3, 0] rfl)
        · intro I_9 H locs ls ho hP hD hS hl
          subst o_9
          refine lv_iinc (v := (v2 + (1 : Int32))) (lv' := [(2, .int (v2 + (1 : Int32))), (0, .ref (ad 25)), (1, .int v1)]) hx hb dX2_buildCandidate_102 hl (k := 2) rfl (by first | rfl | decide) (by decide) rfl (fun ls hl => ?_)
          refine lv_goto (tgt := 38) hx hb dX2_buildCandidate_105 (by decide) ?_
          exact ih _ _ _ _ _ hf hP hD hS (lv_sub hl [1, 2, 0] rfl)
  have L13 : ∀ (Q : State → Prop)  (J : SJ) (o : SI), (∀  (I : SI) (H : Heap) (locs : List Loc) (ls : Array Slot), o = I → va_P (dC, dI) vwCl ((wB ad cI cJ cT) I J) H → va_D A ((wB ad cI cJ cT) I J) → va_S A s.heap H locs → lv_has ls 5 [] → W p l e ({ frames := 3, cells := 0, slots := 0, locals := 68 } : Room) s m args below meth c H locs 0 0 Q (F0 m 114 ls [])) → ∀ (n : Nat) (v1 : Int32) (I : SI) (H : Heap) (locs : List Loc) (ls : Array Slot), lp_X2_buildCandidate_13 n v1 I = some o → va_P (dC, dI) vwCl ((wB ad cI cJ cT) I J) H → va_D A ((wB ad cI cJ cT) I J) → va_S A s.heap H locs → lv_has ls 5 [(0, .ref (ad 25)), (1, .int v1)] → W p l e ({ frames := 3, cells := 0, slots := 0, locals := 68 } : Room) s m args below meth c H locs 0 0 Q (F0 m 13 ls []) := by
    intro Q  J o K0 n
    clear hP hD hS hl
    induction n with
    | zero =>
      intro v1 I H locs ls hf
      rw [lp_X2_buildCandidate_13.eq_1] at hf
      cases hf
    | succ n ih =>
      intro v1 I H locs ls hf hP hD hS hl
      rw [lp_X2_buildCandidate_13.eq_2] at hf
      refine lv_iload_n hx hb dX2_buildCandidate_13 rfl (lv_at hl 1 rfl) ?_
      refine lv_aload_n hx hb dX2_buildCandidate_14 rfl (lv_at hl 0 rfl) ?_
      refine va_get (D := (dC, dI)) (ci := 2) (v := .int (I 50 0)) (C := RX2) (T := TX2) (N := 10) hx hb hts in_X2 hown hK hP 25 (obB_25 ad cI cJ cT I J) rfl 5 (by decide) wd_0 (fun _ h9 => h9) rfl dX2_buildCandidate_15 ?_
      refine lv_icmp_ge (tgt := 114) hx hb dX2_buildCandidate_18 (by decide) (fun c_10 => ?_) (fun c_10 => ?_)
      · have hf := (if_pos c_10).symm.trans hf
        exact K0 _ _ _ _ (Option.some.inj hf).symm hP hD hS (lv_sub hl [] rfl)
      · have hf := (if_neg c_10).symm.trans hf
        refine lv_aload_n hx hb dX2_buildCandidate_21 rfl (lv_at hl 0 rfl) ?_
        refine va_get (D := (dC, dI)) (ci := 2) (v := .ref (ad (8 + 7))) (C := RX2) (T := TX2) (N := 10) hx hb hts in_X2 hown hK hP 25 (obB_25 ad cI cJ cT I J) rfl 3 (by decide) wd_2 (fun _ h9 => h9) rfl dX2_buildCandidate_22 ?_
        refine lv_iload_n hx hb dX2_buildCandidate_25 rfl (lv_at hl 1 rfl) ?_
        refine lv_aload_n hx hb dX2_buildCandidate_26 rfl (lv_at hl 0 rfl) ?_
        refine lv_iload_n hx hb dX2_buildCandidate_27 rfl (lv_at hl 1 rfl) ?_
        obtain ⟨r_11, hg_11, hf⟩ := bd_some hf
        refine xVi (rest := [.int v1, .ref (ad (8 + 7))]) (c_X2_partnerOf l dC dI ad cI cJ cT v1 I J hg_11) hfix (cwV 1 hts gX2_buildCandidate_X2_partnerOf rfl rfl rfl (by decide +kernel) ⟨Nat.le_of_ble_eq_true rfl, Nat.le_of_ble_eq_true rfl⟩) hK hP hD hS hA (va_recv hK hP (ci := 2) (q0 := 25) rfl (obB_25 ad cI cJ cT I J)) rfl hl.1 rfl (Nat.le_of_ble_eq_true rfl) ⟨Nat.zero_le _, Nat.zero_le _⟩ dX2_buildCandidate_28 (fun H locs hP hD hS => ?_)
        refine lv_iconst (v := (0 : Int32)) hx hb dX2_buildCandidate_31 (by decide) ?_
        refine lv_iconst (v := (1 : Int32)) hx hb dX2_buildCandidate_32 (by decide) ?_
        obtain ⟨I_12, hg_12, hf⟩ := bd_some hf
        refine xVv (rest := []) (c_X7_setNumber l dC dI ad cI cJ cT (wB ad cI cJ cT) (fun k => k) 7 (wBT ad cI cJ cT (by decide)) v1 r_11 (0 : Int32) (1 : Int32) I J hg_12) hfix (cwV 4 hts gX2_buildCandidate_X7_setNumber rfl rfl rfl (by decide +kernel) ⟨Nat.le_of_ble_eq_true rfl, Nat.le_of_ble_eq_true rfl⟩) hK hP hD hS hA (va_recv hK hP (ci := 6) (q0 := (8 + 7)) rfl (((wBT ad cI cJ cT (by decide))).2.1 I J)) rfl hl.1 rfl (Nat.le_of_ble_eq_true rfl) ⟨Nat.zero_le _, Nat.zero_le _⟩ dX2_buildCandidate_33 (fun H locs hP hD hS => ?_)
        refine lv_iconst (v := (1 : Int32)) hx hb dX2_buildCandidate_36 (by decide) ?_
        refine lv_istore_n (lv' := [(2, .int (1 : Int32)), (0, .ref (ad 25)), (1, .int v1)]) hx hb dX2_buildCandidate_37 rfl hl (by decide) rfl (fun ls hl => ?_)
        obtain ⟨o_13, hg_13, hf⟩ := bd_some hf
        refine L38 _ v1 J o_13 ?_ FU (1 : Int32) I_12 _ _ _ hg_13 hP hD hS (lv_sub hl [1, 2, 0] rfl)
        · intro I_13 H locs ls ho hP hD hS hl
          subst o_13
          refine lv_iinc (v := (v1 + (1 : Int32))) (lv' := [(1, .int (v1 + (1 : Int32))), (0, .ref (ad 25))]) hx hb dX2_buildCandidate_108 hl (k := 1) rfl (by first | rfl | decide) (by decide) rfl (fun ls hl => ?_)
          refine lv_goto (tgt := 13) hx hb dX2_buildCandidate_111 (by decide) ?_
          exact ih _ _ _ _ _ hf hP hD hS (lv_sub hl [1, 0] rfl)
  unfold f_X2_buildCandidate at hf
  refine lv_aload_n hx hb dX2_buildCandidate_0 rfl (lv_at hl 0 rfl) ?_
  refine va_get (D := (dC, dI)) (ci := 2) (v := .ref (ad (8 + 7))) (C := RX2) (T := TX2) (N := 10) hx hb hts in_X2 hown hK hP 25 (obB_25 ad cI cJ cT I J) rfl 3 (by decide) wd_2 (fun _ h9 => h9) rfl dX2_buildCandidate_1 ?_
  refine lv_aload_n hx hb dX2_buildCandidate_4 rfl (lv_at hl 0 rfl) ?_
  refine va_get (D := (dC, dI)) (ci := 2) (v := .int (I 50 0)) (C := RX2) (T := TX2) (N := 10) hx hb hts in_X2 hown hK hP 25 (obB_25 ad cI cJ cT I J) rfl 5 (by decide) wd_0 (fun _ h9 => h9) rfl dX2_buildCandidate_5 ?_
  obtain ⟨I_14, hg_14, hf⟩ := bd_some hf
  refine xVv (rest := []) (c_X7_reset l dC dI ad cI cJ cT (wB ad cI cJ cT) (fun k => k) 7 (wBT ad cI cJ cT (by decide)) (I 50 0) I J hg_14) hfix (cwV 1 hts gX2_buildCandidate_X7_reset rfl rfl rfl (by decide +kernel) ⟨Nat.le_of_ble_eq_true rfl, Nat.le_of_ble_eq_true rfl⟩) hK hP hD hS hA (va_recv hK hP (ci := 6) (q0 := (8 + 7)) rfl (((wBT ad cI cJ cT (by decide))).2.1 I J)) rfl hl.1 rfl (Nat.le_of_ble_eq_true rfl) ⟨Nat.zero_le _, Nat.zero_le _⟩ dX2_buildCandidate_8 (fun H locs hP hD hS => ?_)
  refine lv_iconst (v := (1 : Int32)) hx hb dX2_buildCandidate_11 (by decide) ?_
  refine lv_istore_n (lv' := [(1, .int (1 : Int32)), (0, .ref (ad 25))]) hx hb dX2_buildCandidate_12 rfl hl (by decide) rfl (fun ls hl => ?_)
  obtain ⟨o_15, hg_15, hf⟩ := bd_some hf
  refine L13 _ J o_15 ?_ FU (1 : Int32) I_14 _ _ _ hg_15 hP hD hS (lv_sub hl [1, 0] rfl)
  · intro I_15 H locs ls ho hP hD hS hl
    subst o_15
    cases hf
    exact xRv hx hb hr hlocks hK hP hD hS (fun _ h => h) dX2_buildCandidate_114
set_option maxHeartbeats 4000000 in
set_option maxRecDepth 100000 in
theorem c_X2_nextRow (l : Launch) (dC : Nat → ClassId) (dI : Nat → Nat → Nat) (ad : Nat → Nat) (cI cJ cT : ClassId) (I : SI) (J : SJ) {r0 : Int32} {I0 : SI} (hf : f_X2_nextRow I = some (r0, I0)) : CtI l yX2_nextRow wsX2_nextRow ({ frames := 0, cells := 0, slots := 0, locals := 0 } : Room) (dC, dI) (tys3 cI cJ cT) (wB ad cI cJ cT) [.ref (ad 25)] I J r0 I0 J := by
  intro sz
  refine Met.ofW (cc := cX2_nextRow) (maxL := 2) (ret := (some .boolean)) (by decide) rfl ?_
  intro p e s m args below meth c s₁ B hml hv
  obtain ⟨hargs, hsz, hP, hK, hD0⟩ := hv
  have hx := B.exec
  have hb := B.bytes
  have hr := B.returns
  have hts := atoms_spec (ws := wsX2_nextRow) B.pre
  have hown : s.vm.findClass RX2 = some m.cls := findClass_of_methodNamed B.named
  have hlocks := B.notSynchronized
  subst hsz
  have hD := hD0.self (sz := s.heap.size)
  generalize hAe : va_A ((wB ad cI cJ cT) I J) s.heap.size = A at hD ⊢
  have hA : ∀ q : Nat, s.heap.size ≤ q → A q := fun q h => by rw [← hAe]; exact Or.inr h
  have hS : va_S A s.heap s.heap [] := va_S.rf
  have hl := lv_entry ([.ref (ad 25)]) (n := 2) (Nat.le_of_ble_eq_true rfl)
  rw [hargs, lg_entry_eq, ← hargs]
  generalize (lg_sl ([.ref (ad 25)]) ++ List.replicate (2 - (lg_sl ([.ref (ad 25)])).length) Slot.unset).toArray = ls at hl ⊢
  have hl : lv_has ls 2 [(0, .ref (ad 25))] := hl
  have hfix : CallFix p m c cX2_nextRow 2 s args wsX2_nextRow RX2 := ⟨hx, hb, hml, hown, hts⟩
  have in_X2 : ∀ w ∈ u_ws RX2 TX2 10, w ∈ wsX2_nextRow := by decide +kernel
  have wd_0 := hts (.fieldLink RX2 17 "FuseBench$Listing" "row" "[I") (by decide +kernel)
  have wd_1 := hts (.fieldLink RX2 39 "FuseBench$Listing" "bound" "I") (by decide +kernel)
  have wd_2 := hts (.fieldLink RX2 54 "FuseBench$Listing" "free" "I") (by decide +kernel)
  have L7 : ∀ (Q : State → Prop)  (J : SJ) (o : Nat × Int32 × SI), (∀ (w1 : Int32) (I : SI) (H : Heap) (locs : List Loc) (ls : Array Slot), o = (0, w1, I) → va_P (dC, dI) vwCl ((wB ad cI cJ cT) I J) H → va_D A ((wB ad cI cJ cT) I J) → va_S A s.heap H locs → lv_has ls 2 [(0, .ref (ad 25)), (1, .int w1)] → W p l e ({ frames := 0, cells := 0, slots := 0, locals := 0 } : Room) s m args below meth c H locs 0 0 Q (F0 m 24 ls [])) → (∀ (w1 : Int32) (I : SI) (H : Heap) (locs : List Loc) (ls : Array Slot), o = (1, w1, I) → va_P (dC, dI) vwCl ((wB ad cI cJ cT) I J) H → va_D A ((wB ad cI cJ cT) I J) → va_S A s.heap H locs → lv_has ls 2 [] → W p l e ({ frames := 0, cells := 0, slots := 0, locals := 0 } : Room) s m args below meth c H locs 0 0 Q (F0 m 49 ls [])) → ∀ (n : Nat) (v1 : Int32) (I : SI) (H : Heap) (locs : List Loc) (ls : Array Slot), lp_X2_nextRow_7 n v1 I = some o → va_P (dC, dI) vwCl ((wB ad cI cJ cT) I J) H → va_D A ((wB ad cI cJ cT) I J) → va_S A s.heap H locs → lv_has ls 2 [(0, .ref (ad 25)), (1, .int v1)] → W p l e ({ frames := 0, cells := 0, slots := 0, locals := 0 } : Room) s m args below meth c H locs 0 0 Q (F0 m 7 ls []) := by
    intro Q  J o K0 K1 n
    clear hP hD hS hl
    induction n with
    | zero =>
      intro v1 I H locs ls hf
      rw [lp_X2_nextRow_7.eq_1] at hf
      cases hf
    | succ n ih =>
      intro v1 I H locs ls hf hP hD hS hl
      rw [lp_X2_nextRow_7.eq_2] at hf
      refine lv_iload_n hx hb dX2_nextRow_7 rfl (lv_at hl 1 rfl) ?_
      refine lv_if_lt (tgt := 49) hx hb dX2_nextRow_8 (by decide) (fun c_1 => ?_) (fun c_1 => ?_)
      · have hf := (if_pos c_1).symm.trans hf
        exact K1 _ _ _ _ _ (Option.some.inj hf).symm hP hD hS (lv_sub hl [] rfl)
      · have hf := (if_neg c_1).symm.trans hf
        refine lv_aload_n hx hb dX2_nextRow_11 rfl (lv_at hl 0 rfl) ?_
        refine va_get (D := (dC, dI)) (ci := 2) (v := .ref (ad 23)) (C := RX2) (T := TX2) (N := 10) hx hb hts in_X2 hown hK hP 25 (obB_25 ad cI cJ cT I J) rfl 1 (by decide) wd_0 (fun _ h9 => h9) rfl dX2_nextRow_12 ?_
        refine lv_iload_n hx hb dX2_nextRow_15 rfl (lv_at hl 1 rfl) ?_
        obtain ⟨h_2, hf⟩ := gd_some hf
        refine x_iald hx hb hK (aiB_23 ad cI cJ cT) hP h_2 dX2_nextRow_16 ?_
        refine lv_aload_n hx hb dX2_nextRow_17 rfl (lv_at hl 0 rfl) ?_
        refine va_get (D := (dC, dI)) (ci := 2) (v := .int (I 51 0)) (C := RX2) (T := TX2) (N := 10) hx hb hts in_X2 hown hK hP 25 (obB_25 ad cI cJ cT I J) rfl 6 (by decide) wd_1 (fun _ h9 => h9) rfl dX2_nextRow_18 ?_
        refine lv_icmp_ge (tgt := 36) hx hb dX2_nextRow_21 (by decide) (fun c_3 => ?_) (fun c_3 => ?_)
        · have hf := (if_pos c_3).symm.trans hf
          refine lv_aload_n hx hb dX2_nextRow_36 rfl (lv_at hl 0 rfl) ?_
          refine va_get (D := (dC, dI)) (ci := 2) (v := .ref (ad 23)) (C := RX2) (T := TX2) (N := 10) hx hb hts in_X2 hown hK hP 25 (obB_25 ad cI cJ cT I J) rfl 1 (by decide) wd_0 (fun _ h9 => h9) rfl dX2_nextRow_37 ?_
          refine lv_iload_n hx hb dX2_nextRow_40 rfl (lv_at hl 1 rfl) ?_
          refine lv_iconst (v := (0 : Int32)) hx hb dX2_nextRow_41 (by decide) ?_
          obtain ⟨h_4, hf⟩ := gd_some hf
          refine x_iast hx hb hK (aiB_23 ad cI cJ cT) hP hD hS h_4 dX2_nextRow_42 (fun H locs hP hD hS => ?_)
          refine lv_iinc (v := (v1 + (-1 : Int32))) (lv' := [(1, .int (v1 + (-1 : Int32))), (0, .ref (ad 25))]) hx hb dX2_nextRow_43 hl (k := 1) rfl (by first | rfl | decide) (by decide) rfl (fun ls hl => ?_)
          refine lv_goto (tgt := 7) hx hb dX2_nextRow_46 (by decide) ?_
          exact ih _ _ _ _ _ hf hP hD hS (lv_sub hl [1, 0] rfl)
        · have hf := (if_neg c_3).symm.trans hf
          exact K0 _ _ _ _ _ (Option.some.inj hf).symm hP hD hS (lv_sub hl [0, 1] rfl)
  unfold f_X2_nextRow at hf
  refine lv_aload_n hx hb dX2_nextRow_0 rfl (lv_at hl 0 rfl) ?_
  refine va_get (D := (dC, dI)) (ci := 2) (v := .int (I 53 0)) (C := RX2) (T := TX2) (N := 10) hx hb hts in_X2 hown hK hP 25 (obB_25 ad cI cJ cT I J) rfl 8 (by decide) wd_2 (fun _ h9 => h9) rfl dX2_nextRow_1 ?_
  refine lv_iconst (v := (1 : Int32)) hx hb dX2_nextRow_4 (by decide) ?_
  refine lv_isub hx hb dX2_nextRow_5 ?_
  refine lv_istore_n (lv' := [(1, .int ((I 53 0) - (1 : Int32))), (0, .ref (ad 25))]) hx hb dX2_nextRow_6 rfl hl (by decide) rfl (fun ls hl => ?_)
  obtain ⟨o_5, hg_5, hf⟩ := bd_some hf
  refine L7 _ J o_5 ?_ ?_ FU ((I 53 0) - (1 : Int32)) I _ _ _ hg_5 hP hD hS (lv_sub hl [1, 0] rfl)
  · intro w1_5 I_5 H locs ls ho hP hD hS hl
    subst o_5
    have hf := (if_pos (show 0 = 0 from rfl)).symm.trans hf
    refine lv_aload_n hx hb dX2_nextRow_24 rfl (lv_at hl 0 rfl) ?_
    refine va_get (D := (dC, dI)) (ci := 2) (v := .ref (ad 23)) (C := RX2) (T := TX2) (N := 10) hx hb hts in_X2 hown hK hP 25 (obB_25 ad cI cJ cT I_5 J) rfl 1 (by decide) wd_0 (fun _ h9 => h9) rfl dX2_nextRow_25 ?_
    refine lv_iload_n hx hb dX2_nextRow_28 rfl (lv_at hl 1 rfl) ?_
    refine lv_dup2_11 hx hb dX2_nextRow_29 rfl rfl ?_
    obtain ⟨h_6, hf⟩ := gd_some hf
    refine x_iald hx hb hK (aiB_23 ad cI cJ cT) hP h_6 dX2_nextRow_30 ?_
    refine lv_iconst (v := (1 : Int32)) hx hb dX2_nextRow_31 (by decide) ?_
    refine lv_iadd hx hb dX2_nextRow_32 ?_
    obtain ⟨h_7, hf⟩ := gd_some hf
    refine x_iast hx hb hK (aiB_23 ad cI cJ cT) hP hD hS h_7 dX2_nextRow_33 (fun H locs hP hD hS => ?_)
    refine lv_iconst (v := (1 : Int32)) hx hb dX2_nextRow_34 (by decide) ?_
    cases hf
    exact xRz hx hb hr hlocks rfl hK hP hD hS (fun _ h => h) dX2_nextRow_35
  · intro w1_5 I_5 H locs ls ho hP hD hS hl
    subst o_5
    have hf := (if_neg (show ¬ (1 = 0) by decide)).symm.trans hf
    refine lv_iconst (v := (0 : Int32)) hx hb dX2_nextRow_49 (by decide) ?_
    cases hf
    exact xRz hx hb hr hlocks rfl hK hP hD hS (fun _ h => h) dX2_nextRow_50
set_option maxHeartbeats 4000000 in
set_option maxRecDepth 100000 in
theorem c_X2_packedRow (l : Launch) (dC : Nat → ClassId) (dI : Nat → Nat → Nat) (ad : Nat → Nat) (cI cJ cT : ClassId) (I : SI) (J : SJ) {r0 : Int32} (hf : f_X2_packedRow I = some r0) : CtI l yX2_packedRow wsX2_packedRow ({ frames := 0, cells := 0, slots := 0, locals := 0 } : Room) (dC, dI) (tys3 cI cJ cT) (wB ad cI cJ cT) [.ref (ad 25)] I J r0 I J := by
  intro sz
  refine Met.ofW (cc := cX2_packedRow) (maxL := 3) (ret := (some .int)) (by decide) rfl ?_
  intro p e s m args below meth c s₁ B hml hv
  obtain ⟨hargs, hsz, hP, hK, hD0⟩ := hv
  have hx := B.exec
  have hb := B.bytes
  have hr := B.returns
  have hts := atoms_spec (ws := wsX2_packedRow) B.pre
  have hown : s.vm.findClass RX2 = some m.cls := findClass_of_methodNamed B.named
  have hlocks := B.notSynchronized
  subst hsz
  have hD := hD0.self (sz := s.heap.size)
  generalize hAe : va_A ((wB ad cI cJ cT) I J) s.heap.size = A at hD ⊢
  have hA : ∀ q : Nat, s.heap.size ≤ q → A q := fun q h => by rw [← hAe]; exact Or.inr h
  have hS : va_S A s.heap s.heap [] := va_S.rf
  have hl := lv_entry ([.ref (ad 25)]) (n := 3) (Nat.le_of_ble_eq_true rfl)
  rw [hargs, lg_entry_eq, ← hargs]
  generalize (lg_sl ([.ref (ad 25)]) ++ List.replicate (3 - (lg_sl ([.ref (ad 25)])).length) Slot.unset).toArray = ls at hl ⊢
  have hl : lv_has ls 3 [(0, .ref (ad 25))] := hl
  have hfix : CallFix p m c cX2_packedRow 3 s args wsX2_packedRow RX2 := ⟨hx, hb, hml, hown, hts⟩
  have in_X2 : ∀ w ∈ u_ws RX2 TX2 10, w ∈ wsX2_packedRow := by decide +kernel
  have wd_0 := hts (.fieldLink RX2 54 "FuseBench$Listing" "free" "I") (by decide +kernel)
  have wd_1 := hts (.fieldLink RX2 17 "FuseBench$Listing" "row" "[I") (by decide +kernel)
  have L4 : ∀ (Q : State → Prop)  (I : SI) (J : SJ) (o : Int32), (∀ (w1 : Int32) (H : Heap) (locs : List Loc) (ls : Array Slot), o = w1 → va_P (dC, dI) vwCl ((wB ad cI cJ cT) I J) H → va_D A ((wB ad cI cJ cT) I J) → va_S A s.heap H locs → lv_has ls 3 [(1, .int w1)] → W p l e ({ frames := 0, cells := 0, slots := 0, locals := 0 } : Room) s m args below meth c H locs 0 0 Q (F0 m 29 ls [])) → ∀ (n : Nat) (v1 : Int32) (v2 : Int32) (H : Heap) (locs : List Loc) (ls : Array Slot), lp_X2_packedRow_4 I n v1 v2 = some o → va_P (dC, dI) vwCl ((wB ad cI cJ cT) I J) H → va_D A ((wB ad cI cJ cT) I J) → va_S A s.heap H locs → lv_has ls 3 [(0, .ref (ad 25)), (1, .int v1), (2, .int v2)] → W p l e ({ frames := 0, cells := 0, slots := 0, locals := 0 } : Room) s m args below meth c H locs 0 0 Q (F0 m 4 ls []) := by
    intro Q  I J o K0 n
    clear hP hD hS hl
    induction n with
    | zero =>
      intro v1 v2 H locs ls hf
      rw [lp_X2_packedRow_4.eq_1] at hf
      cases hf
    | succ n ih =>
      intro v1 v2 H locs ls hf hP hD hS hl
      rw [lp_X2_packedRow_4.eq_2] at hf
      refine lv_iload_n hx hb dX2_packedRow_4 rfl (lv_at hl 2 rfl) ?_
      refine lv_aload_n hx hb dX2_packedRow_5 rfl (lv_at hl 0 rfl) ?_
      refine va_get (D := (dC, dI)) (ci := 2) (v := .int (I 53 0)) (C := RX2) (T := TX2) (N := 10) hx hb hts in_X2 hown hK hP 25 (obB_25 ad cI cJ cT I J) rfl 8 (by decide) wd_0 (fun _ h9 => h9) rfl dX2_packedRow_6 ?_
      refine lv_icmp_ge (tgt := 29) hx hb dX2_packedRow_9 (by decide) (fun c_1 => ?_) (fun c_1 => ?_)
      · have hf := (if_pos c_1).symm.trans hf
        exact K0 _ _ _ _ (Option.some.inj hf).symm hP hD hS (lv_sub hl [1] rfl)
      · have hf := (if_neg c_1).symm.trans hf
        refine lv_iload_n hx hb dX2_packedRow_12 rfl (lv_at hl 1 rfl) ?_
        refine lv_iconst (v := (2 : Int32)) hx hb dX2_packedRow_13 (by decide) ?_
        refine lv_ishl hx hb dX2_packedRow_14 ?_
        refine lv_aload_n hx hb dX2_packedRow_15 rfl (lv_at hl 0 rfl) ?_
        refine va_get (D := (dC, dI)) (ci := 2) (v := .ref (ad 23)) (C := RX2) (T := TX2) (N := 10) hx hb hts in_X2 hown hK hP 25 (obB_25 ad cI cJ cT I J) rfl 1 (by decide) wd_1 (fun _ h9 => h9) rfl dX2_packedRow_16 ?_
        refine lv_iload_n hx hb dX2_packedRow_19 rfl (lv_at hl 2 rfl) ?_
        obtain ⟨h_2, hf⟩ := gd_some hf
        refine x_iald hx hb hK (aiB_23 ad cI cJ cT) hP h_2 dX2_packedRow_20 ?_
        refine lv_ior hx hb dX2_packedRow_21 ?_
        refine lv_istore_n (lv' := [(1, .int ((v1 <<< ((2 : Int32) &&& 31)) ||| (I 23 v2.toNatClampNeg))), (0, .ref (ad 25)), (2, .int v2)]) hx hb dX2_packedRow_22 rfl hl (by decide) rfl (fun ls hl => ?_)
        refine lv_iinc (v := (v2 + (1 : Int32))) (lv' := [(2, .int (v2 + (1 : Int32))), (1, .int ((v1 <<< ((2 : Int32) &&& 31)) ||| (I 23 v2.toNatClampNeg))), (0, .ref (ad 25))]) hx hb dX2_packedRow_23 hl (k := 2) rfl (by first | rfl | decide) (by decide) rfl (fun ls hl => ?_)
        refine lv_goto (tgt := 4) hx hb dX2_packedRow_26 (by decide) ?_
        exact ih _ _ _ _ _ hf hP hD hS (lv_sub hl [2, 1, 0] rfl)
  unfold f_X2_packedRow at hf
  refine lv_iconst (v := (0 : Int32)) hx hb dX2_packedRow_0 (by decide) ?_
  refine lv_istore_n (lv' := [(1, .int (0 : Int32)), (0, .ref (ad 25))]) hx hb dX2_packedRow_1 rfl hl (by decide) rfl (fun ls hl => ?_)
  refine lv_iconst (v := (0 : Int32)) hx hb dX2_packedRow_2 (by decide) ?_
  refine lv_istore_n (lv' := [(2, .int (0 : Int32)), (1, .int (0 : Int32)), (0, .ref (ad 25))]) hx hb dX2_packedRow_3 rfl hl (by decide) rfl (fun ls hl => ?_)
  obtain ⟨o_3, hg_3, hf⟩ := bd_some hf
  refine L4 _ I J o_3 ?_ FU (0 : Int32) (0 : Int32) _ _ _ hg_3 hP hD hS (lv_sub hl [2, 1, 0] rfl)
  · intro w1_3 H locs ls ho hP hD hS hl
    subst o_3
    refine lv_iload_n hx hb dX2_packedRow_29 rfl (lv_at hl 0 rfl) ?_
    cases hf
    exact xRi hx hb hr hlocks hK hP hD hS (fun _ h => h) dX2_packedRow_30
set_option maxHeartbeats 4000000 in
set_option maxRecDepth 100000 in
theorem c_X2_findRight (l : Launch) (dC : Nat → ClassId) (dI : Nat → Nat → Nat) (ad : Nat → Nat) (cI cJ cT : ClassId) (I : SI) (J : SJ) {I0 : SI} (hf : f_X2_findRight I = some I0) : CtV l yX2_findRight wsX2_findRight ({ frames := 4, cells := 0, slots := 0, locals := 96 } : Room) (dC, dI) (tys3 cI cJ cT) (wB ad cI cJ cT) [.ref (ad 25)] I J I0 J := by
  intro sz
  refine Met.ofW (cc := cX2_findRight) (maxL := 3) (ret := none) (by decide) rfl ?_
  intro p e s m args below meth c s₁ B hml hv
  obtain ⟨hargs, hsz, hP, hK, hD0⟩ := hv
  have hx := B.exec
  have hb := B.bytes
  have hr := B.returns
  have hts := atoms_spec (ws := wsX2_findRight) B.pre
  have hown : s.vm.findClass RX2 = some m.cls := findClass_of_methodNamed B.named
  have hlocks := B.notSynchronized
  subst hsz
  have hD := hD0.self (sz := s.heap.size)
  generalize hAe : va_A ((wB ad cI cJ cT) I J) s.heap.size = A at hD ⊢
  have hA : ∀ q : Nat, s.heap.size ≤ q → A q := fun q h => by rw [← hAe]; exact Or.inr h
  have hS : va_S A s.heap s.heap [] := va_S.rf
  have hl := lv_entry ([.ref (ad 25)]) (n := 3) (Nat.le_of_ble_eq_true rfl)
  rw [hargs, lg_entry_eq, ← hargs]
  generalize (lg_sl ([.ref (ad 25)]) ++ List.replicate (3 - (lg_sl ([.ref (ad 25)])).length) Slot.unset).toArray = ls at hl ⊢
  have hl : lv_has ls 3 [(0, .ref (ad 25))] := hl
  have hfix : CallFix p m c cX2_findRight 3 s args wsX2_findRight RX2 := ⟨hx, hb, hml, hown, hts⟩
  have in_X2 : ∀ w ∈ u_ws RX2 TX2 10, w ∈ wsX2_findRight := by decide +kernel
  have wd_0 := hts (.fieldLink RX2 31 "FuseBench$Listing" "laws" "LFuseBench$Laws;") (by decide +kernel)
  have wd_1 := hts (.fieldLink RX2 24 "FuseBench$Listing" "candidate" "LFuseBench$Table;") (by decide +kernel)
  have wd_2 := hts (.fieldLink RX2 20 "FuseBench$Listing" "found" "[I") (by decide +kernel)
  have wd_3 := hts (.fieldLink RX2 51 "FuseBench$Listing" "count" "I") (by decide +kernel)
  have wd_4 := hts (.fieldLink RX2 17 "FuseBench$Listing" "row" "[I") (by decide +kernel)
  have L17 : ∀ (Q : State → Prop)  (J : SJ) (o : SI), (∀  (I : SI) (H : Heap) (locs : List Loc) (ls : Array Slot), o = I → va_P (dC, dI) vwCl ((wB ad cI cJ cT) I J) H → va_D A ((wB ad cI cJ cT) I J) → va_S A s.heap H locs → lv_has ls 3 [] → W p l e ({ frames := 4, cells := 0, slots := 0, locals := 96 } : Room) s m args below meth c H locs 0 0 Q (F0 m 80 ls [])) → ∀ (n : Nat) (v1 : Int32) (v2 : Int32) (I : SI) (H : Heap) (locs : List Loc) (ls : Array Slot), lp_X2_findRight_17 n v1 v2 I = some o → va_P (dC, dI) vwCl ((wB ad cI cJ cT) I J) H → va_D A ((wB ad cI cJ cT) I J) → va_S A s.heap H locs → lv_has ls 3 [(0, .ref (ad 25)), (1, .int v1), (2, .int v2)] → W p l e ({ frames := 4, cells := 0, slots := 0, locals := 96 } : Room) s m args below meth c H locs 0 0 Q (F0 m 17 ls []) := by
    intro Q  J o K0 n
    clear hP hD hS hl
    induction n with
    | zero =>
      intro v1 v2 I H locs ls hf
      rw [lp_X2_findRight_17.eq_1] at hf
      cases hf
    | succ n ih =>
      intro v1 v2 I H locs ls hf hP hD hS hl
      rw [lp_X2_findRight_17.eq_2] at hf
      refine lv_iload_n hx hb dX2_findRight_17 rfl (lv_at hl 2 rfl) ?_
      refine lv_sipush (v := (1024 : Int32)) hx hb dX2_findRight_18 (by decide) ?_
      refine lv_icmp_ge (tgt := 80) hx hb dX2_findRight_21 (by decide) (fun c_1 => ?_) (fun c_1 => ?_)
      · have hf := (if_pos c_1).symm.trans hf
        exact K0 _ _ _ _ (Option.some.inj hf).symm hP hD hS (lv_sub hl [] rfl)
      · have hf := (if_neg c_1).symm.trans hf
        refine lv_iload_n hx hb dX2_findRight_24 rfl (lv_at hl 1 rfl) ?_
        refine lv_if_eq (tgt := 80) hx hb dX2_findRight_25 (by decide) (fun c_2 => ?_) (fun c_2 => ?_)
        · have hf := (if_pos c_2).symm.trans hf
          exact K0 _ _ _ _ (Option.some.inj hf).symm hP hD hS (lv_sub hl [] rfl)
        · have hf := (if_neg c_2).symm.trans hf
          refine lv_aload_n hx hb dX2_findRight_28 rfl (lv_at hl 0 rfl) ?_
          obtain ⟨I_3, hg_3, hf⟩ := bd_some hf
          refine xVv (rest := []) (c_X2_buildCandidate l dC dI ad cI cJ cT I J hg_3) hfix (cwV 0 hts gX2_findRight_X2_buildCandidate rfl rfl rfl (by decide +kernel) ⟨Nat.le_of_ble_eq_true rfl, Nat.le_of_ble_eq_true rfl⟩) hK hP hD hS hA (va_recv hK hP (ci := 2) (q0 := 25) rfl (obB_25 ad cI cJ cT I J)) rfl hl.1 rfl (Nat.le_of_ble_eq_true rfl) ⟨Nat.zero_le _, Nat.zero_le _⟩ dX2_findRight_29 (fun H locs hP hD hS => ?_)
          refine lv_aload_n hx hb dX2_findRight_32 rfl (lv_at hl 0 rfl) ?_
          refine va_get (D := (dC, dI)) (ci := 2) (v := .ref (ad 21)) (C := RX2) (T := TX2) (N := 10) hx hb hts in_X2 hown hK hP 25 (obB_25 ad cI cJ cT I_3 J) rfl 4 (by decide) wd_0 (fun _ h9 => h9) rfl dX2_findRight_33 ?_
          refine lv_aload_n hx hb dX2_findRight_36 rfl (lv_at hl 0 rfl) ?_
          refine va_get (D := (dC, dI)) (ci := 2) (v := .ref (ad (8 + 7))) (C := RX2) (T := TX2) (N := 10) hx hb hts in_X2 hown hK hP 25 (obB_25 ad cI cJ cT I_3 J) rfl 3 (by decide) wd_1 (fun _ h9 => h9) rfl dX2_findRight_37 ?_
          obtain ⟨⟨r_4, I_4⟩, hg_4, hf⟩ := bd_some hf
          refine xVi (rest := []) (c_X1_threeHolds_21 l dC dI ad cI cJ cT 7 (by decide) I_3 J hg_4) hfix (cwV 1 hts gX2_findRight_X1_threeHolds rfl rfl rfl (by decide +kernel) ⟨Nat.le_of_ble_eq_true rfl, Nat.le_of_ble_eq_true rfl⟩) hK hP hD hS hA (va_recv hK hP (ci := 1) (q0 := 21) rfl (obB_21 ad cI cJ cT I_3 J)) rfl hl.1 rfl (Nat.le_of_ble_eq_true rfl) ⟨Nat.zero_le _, Nat.zero_le _⟩ dX2_findRight_40 (fun H locs hP hD hS => ?_)
          refine lv_if_eq (tgt := 69) hx hb dX2_findRight_43 (by decide) (fun c_5 => ?_) (fun c_5 => ?_)
          · have hf := (if_pos c_5).symm.trans hf
            refine lv_aload_n hx hb dX2_findRight_69 rfl (lv_at hl 0 rfl) ?_
            obtain ⟨⟨r_6, I_6⟩, hg_6, hf⟩ := bd_some hf
            refine xVi (rest := []) (c_X2_nextRow l dC dI ad cI cJ cT I_4 J hg_6) hfix (cwV 0 hts gX2_findRight_X2_nextRow rfl rfl rfl (by decide +kernel) ⟨Nat.le_of_ble_eq_true rfl, Nat.le_of_ble_eq_true rfl⟩) hK hP hD hS hA (va_recv hK hP (ci := 2) (q0 := 25) rfl (obB_25 ad cI cJ cT I_4 J)) rfl hl.1 rfl (Nat.le_of_ble_eq_true rfl) ⟨Nat.zero_le _, Nat.zero_le _⟩ dX2_findRight_70 (fun H locs hP hD hS => ?_)
            refine lv_istore_n (lv' := [(1, .int r_6), (0, .ref (ad 25)), (2, .int v2)]) hx hb dX2_findRight_73 rfl hl (by decide) rfl (fun ls hl => ?_)
            refine lv_iinc (v := (v2 + (1 : Int32))) (lv' := [(2, .int (v2 + (1 : Int32))), (1, .int r_6), (0, .ref (ad 25))]) hx hb dX2_findRight_74 hl (k := 2) rfl (by first | rfl | decide) (by decide) rfl (fun ls hl => ?_)
            refine lv_goto (tgt := 17) hx hb dX2_findRight_77 (by decide) ?_
            exact ih _ _ _ _ _ _ hf hP hD hS (lv_sub hl [2, 1, 0] rfl)
          · have hf := (if_neg c_5).symm.trans hf
            refine lv_aload_n hx hb dX2_findRight_46 rfl (lv_at hl 0 rfl) ?_
            refine va_get (D := (dC, dI)) (ci := 2) (v := .ref (ad 24)) (C := RX2) (T := TX2) (N := 10) hx hb hts in_X2 hown hK hP 25 (obB_25 ad cI cJ cT I_4 J) rfl 2 (by decide) wd_2 (fun _ h9 => h9) rfl dX2_findRight_47 ?_
            refine lv_aload_n hx hb dX2_findRight_50 rfl (lv_at hl 0 rfl) ?_
            refine va_get (D := (dC, dI)) (ci := 2) (v := .int (I_4 54 0)) (C := RX2) (T := TX2) (N := 10) hx hb hts in_X2 hown hK hP 25 (obB_25 ad cI cJ cT I_4 J) rfl 9 (by decide) wd_3 (fun _ h9 => h9) rfl dX2_findRight_51 ?_
            refine lv_aload_n hx hb dX2_findRight_54 rfl (lv_at hl 0 rfl) ?_
            obtain ⟨r_7, hg_7, hf⟩ := bd_some hf
            refine xVi (rest := [.int (I_4 54 0), .ref (ad 24)]) (c_X2_packedRow l dC dI ad cI cJ cT I_4 J hg_7) hfix (cwV 0 hts gX2_findRight_X2_packedRow rfl rfl rfl (by decide +kernel) ⟨Nat.le_of_ble_eq_true rfl, Nat.le_of_ble_eq_true rfl⟩) hK hP hD hS hA (va_recv hK hP (ci := 2) (q0 := 25) rfl (obB_25 ad cI cJ cT I_4 J)) rfl hl.1 rfl (Nat.le_of_ble_eq_true rfl) ⟨Nat.zero_le _, Nat.zero_le _⟩ dX2_findRight_55 (fun H locs hP hD hS => ?_)
            obtain ⟨h_8, hf⟩ := gd_some hf
            refine x_iast hx hb hK (aiB_24 ad cI cJ cT) hP hD hS h_8 dX2_findRight_58 (fun H locs hP hD hS => ?_)
            refine lv_aload_n hx hb dX2_findRight_59 rfl (lv_at hl 0 rfl) ?_
            refine lv_dup hx hb dX2_findRight_60 rfl ?_
            refine va_get (D := (dC, dI)) (ci := 2) (v := .int ((ups I_4 24 (I_4 54 0).toNatClampNeg r_7) 54 0)) (C := RX2) (T := TX2) (N := 10) hx hb hts in_X2 hown hK hP 25 (obB_25 ad cI cJ cT (ups I_4 24 (I_4 54 0).toNatClampNeg r_7) J) rfl 9 (by decide) wd_3 (fun _ h9 => h9) rfl dX2_findRight_61 ?_
            refine lv_iconst (v := (1 : Int32)) hx hb dX2_findRight_64 (by decide) ?_
            refine lv_iadd hx hb dX2_findRight_65 ?_
            refine x_put (C := RX2) (T := TX2) (N := 10) hx hb hts in_X2 tyX2 tyX2_ok nmX2 hown hK hP hD hS 25 (obB_25 ad cI cJ cT (ups I_4 24 (I_4 54 0).toNatClampNeg r_7) J) rfl 9 (by decide) wd_3 (fun _ h9 => h9) rfl (by decide +kernel) (Nat.le_of_ble_eq_true rfl) (psB_54 ad cI cJ cT (ups I_4 24 (I_4 54 0).toNatClampNeg r_7) J (((ups I_4 24 (I_4 54 0).toNatClampNeg r_7) 54 0) + (1 : Int32))) dX2_findRight_66 (fun H locs hP hD hS => ?_)
            refine lv_aload_n hx hb dX2_findRight_69 rfl (lv_at hl 0 rfl) ?_
            obtain ⟨⟨r_9, I_9⟩, hg_9, hf⟩ := bd_some hf
            refine xVi (rest := []) (c_X2_nextRow l dC dI ad cI cJ cT (sets (ups I_4 24 (I_4 54 0).toNatClampNeg r_7) 54 (((ups I_4 24 (I_4 54 0).toNatClampNeg r_7) 54 0) + (1 : Int32))) J hg_9) hfix (cwV 0 hts gX2_findRight_X2_nextRow rfl rfl rfl (by decide +kernel) ⟨Nat.le_of_ble_eq_true rfl, Nat.le_of_ble_eq_true rfl⟩) hK hP hD hS hA (va_recv hK hP (ci := 2) (q0 := 25) rfl (obB_25 ad cI cJ cT (sets (ups I_4 24 (I_4 54 0).toNatClampNeg r_7) 54 (((ups I_4 24 (I_4 54 0).toNatClampNeg r_7) 54 0) + (1 : Int32))) J)) rfl hl.1 rfl (Nat.le_of_ble_eq_true rfl) ⟨Nat.zero_le _, Nat.zero_le _⟩ dX2_findRight_70 (fun H locs hP hD hS => ?_)
            refine lv_istore_n (lv' := [(1, .int r_9), (0, .ref (ad 25)), (2, .int v2)]) hx hb dX2_findRight_73 rfl hl (by decide) rfl (fun ls hl => ?_)
            refine lv_iinc (v := (v2 + (1 : Int32))) (lv' := [(2, .int (v2 + (1 : Int32))), (1, .int r_9), (0, .ref (ad 25))]) hx hb dX2_findRight_74 hl (k := 2) rfl (by first | rfl | decide) (by decide) rfl (fun ls hl => ?_)
            refine lv_goto (tgt := 17) hx hb dX2_findRight_77 (by decide) ?_
            exact ih _ _ _ _ _ _ hf hP hD hS (lv_sub hl [2, 1, 0] rfl)
  unfold f_X2_findRight at hf
  refine lv_aload_n hx hb dX2_findRight_0 rfl (lv_at hl 0 rfl) ?_
  refine lv_iconst (v := (0 : Int32)) hx hb dX2_findRight_1 (by decide) ?_
  refine x_put (C := RX2) (T := TX2) (N := 10) hx hb hts in_X2 tyX2 tyX2_ok nmX2 hown hK hP hD hS 25 (obB_25 ad cI cJ cT I J) rfl 9 (by decide) wd_3 (fun _ h9 => h9) rfl (by decide +kernel) (Nat.le_of_ble_eq_true rfl) (psB_54 ad cI cJ cT I J (0 : Int32)) dX2_findRight_2 (fun H locs hP hD hS => ?_)
  refine lv_aload_n hx hb dX2_findRight_5 rfl (lv_at hl 0 rfl) ?_
  refine va_get (D := (dC, dI)) (ci := 2) (v := .ref (ad 23)) (C := RX2) (T := TX2) (N := 10) hx hb hts in_X2 hown hK hP 25 (obB_25 ad cI cJ cT (sets I 54 (0 : Int32)) J) rfl 1 (by decide) wd_4 (fun _ h9 => h9) rfl dX2_findRight_6 ?_
  refine lv_iconst (v := (0 : Int32)) hx hb dX2_findRight_9 (by decide) ?_
  obtain ⟨I_10, hg_10, hf⟩ := bd_some hf
  refine xSv (rest := []) (c_J7_fill l dC dI ad cI cJ cT (wB ad cI cJ cT) (fun k => k) (ad 23) 23 10 23 (aiB_23 ad cI cJ cT) (0 : Int32) (sets I 54 (0 : Int32)) J hg_10) hfix (va_cwS 2 hts gX2_findRight_J7_fill_53178 rfl rfl rfl (by decide +kernel) ⟨Nat.le_of_ble_eq_true rfl, Nat.le_of_ble_eq_true rfl⟩) hK hP hD hS hA rfl hl.1 rfl (Nat.le_of_ble_eq_true rfl) ⟨Nat.zero_le _, Nat.zero_le _⟩ dX2_findRight_10 (fun H locs hP hD hS => ?_)
  refine lv_iconst (v := (1 : Int32)) hx hb dX2_findRight_13 (by decide) ?_
  refine lv_istore_n (lv' := [(1, .int (1 : Int32)), (0, .ref (ad 25))]) hx hb dX2_findRight_14 rfl hl (by decide) rfl (fun ls hl => ?_)
  refine lv_iconst (v := (0 : Int32)) hx hb dX2_findRight_15 (by decide) ?_
  refine lv_istore_n (lv' := [(2, .int (0 : Int32)), (1, .int (1 : Int32)), (0, .ref (ad 25))]) hx hb dX2_findRight_16 rfl hl (by decide) rfl (fun ls hl => ?_)
  obtain ⟨o_11, hg_11, hf⟩ := bd_some hf
  refine L17 _ J o_11 ?_ FU (1 : Int32) (0 : Int32) I_10 _ _ _ hg_11 hP hD hS (lv_sub hl [2, 1, 0] rfl)
  · intro I_11 H locs ls ho hP hD hS hl
    subst o_11
    cases hf
    exact xRv hx hb hr hlocks hK hP hD hS (fun _ h => h) dX2_findRight_80
set_option maxHeartbeats 4000000 in
set_option maxRecDepth 100000 in
theorem c_X2_howMany (l : Launch) (dC : Nat → ClassId) (dI : Nat → Nat → Nat) (ad : Nat → Nat) (cI cJ cT : ClassId) (p1 : Int32) (p2 : Int32) (p3 : Int32) (I : SI) (J : SJ) {r0 : Int32} {I0 : SI} (hf : f_X2_howMany p1 p2 p3 I = some (r0, I0)) : CtI l yX2_howMany wsX2_howMany ({ frames := 5, cells := 0, slots := 0, locals := 118 } : Room) (dC, dI) (tys3 cI cJ cT) (wB ad cI cJ cT) [.ref (ad 25), .int p1, .int p2, .int p3] I J r0 I0 J := by
  intro sz
  refine Met.ofW (cc := cX2_howMany) (maxL := 4) (ret := (some .int)) (by decide) rfl ?_
  intro p e s m args below meth c s₁ B hml hv
  obtain ⟨hargs, hsz, hP, hK, hD0⟩ := hv
  have hx := B.exec
  have hb := B.bytes
  have hr := B.returns
  have hts := atoms_spec (ws := wsX2_howMany) B.pre
  have hown : s.vm.findClass RX2 = some m.cls := findClass_of_methodNamed B.named
  have hlocks := B.notSynchronized
  subst hsz
  have hD := hD0.self (sz := s.heap.size)
  generalize hAe : va_A ((wB ad cI cJ cT) I J) s.heap.size = A at hD ⊢
  have hA : ∀ q : Nat, s.heap.size ≤ q → A q := fun q h => by rw [← hAe]; exact Or.inr h
  have hS : va_S A s.heap s.heap [] := va_S.rf
  have hl := lv_entry ([.ref (ad 25), .int p1, .int p2, .int p3]) (n := 4) (Nat.le_of_ble_eq_true rfl)
  rw [hargs, lg_entry_eq, ← hargs]
  generalize (lg_sl ([.ref (ad 25), .int p1, .int p2, .int p3]) ++ List.replicate (4 - (lg_sl ([.ref (ad 25), .int p1, .int p2, .int p3])).length) Slot.unset).toArray = ls at hl ⊢
  have hl : lv_has ls 4 [(0, .ref (ad 25)), (1, .int p1), (2, .int p2), (3, .int p3)] := hl
  have hfix : CallFix p m c cX2_howMany 4 s args wsX2_howMany RX2 := ⟨hx, hb, hml, hown, hts⟩
  have in_X2 : ∀ w ∈ u_ws RX2 TX2 10, w ∈ wsX2_howMany := by decide +kernel
  have wd_0 := hts (.fieldLink RX2 35 "FuseBench$Listing" "kinds" "I") (by decide +kernel)
  have wd_1 := hts (.fieldLink RX2 39 "FuseBench$Listing" "bound" "I") (by decide +kernel)
  have wd_2 := hts (.fieldLink RX2 42 "FuseBench$Listing" "pairs" "I") (by decide +kernel)
  have wd_3 := hts (.fieldLink RX2 51 "FuseBench$Listing" "count" "I") (by decide +kernel)
  unfold f_X2_howMany at hf
  refine lv_iload_n hx hb dX2_howMany_0 rfl (lv_at hl 1 rfl) ?_
  refine lv_aload_n hx hb dX2_howMany_1 rfl (lv_at hl 0 rfl) ?_
  refine va_get (D := (dC, dI)) (ci := 2) (v := .int (I 50 0)) (C := RX2) (T := TX2) (N := 10) hx hb hts in_X2 hown hK hP 25 (obB_25 ad cI cJ cT I J) rfl 5 (by decide) wd_0 (fun _ h9 => h9) rfl dX2_howMany_2 ?_
  refine lv_icmp_ne (tgt := 24) hx hb dX2_howMany_5 (by decide) (fun c_1 => ?_) (fun c_1 => ?_)
  · have hf := (if_neg c_1).symm.trans hf
    refine lv_aload_n hx hb dX2_howMany_24 rfl (lv_at hl 0 rfl) ?_
    refine lv_iload_n hx hb dX2_howMany_25 rfl (lv_at hl 1 rfl) ?_
    refine x_put (C := RX2) (T := TX2) (N := 10) hx hb hts in_X2 tyX2 tyX2_ok nmX2 hown hK hP hD hS 25 (obB_25 ad cI cJ cT I J) rfl 5 (by decide) wd_0 (fun _ h9 => h9) rfl (by decide +kernel) (Nat.le_of_ble_eq_true rfl) (psB_50 ad cI cJ cT I J p1) dX2_howMany_26 (fun H locs hP hD hS => ?_)
    refine lv_aload_n hx hb dX2_howMany_29 rfl (lv_at hl 0 rfl) ?_
    refine lv_iload_n hx hb dX2_howMany_30 rfl (lv_at hl 2 rfl) ?_
    refine x_put (C := RX2) (T := TX2) (N := 10) hx hb hts in_X2 tyX2 tyX2_ok nmX2 hown hK hP hD hS 25 (obB_25 ad cI cJ cT (sets I 50 p1) J) rfl 6 (by decide) wd_1 (fun _ h9 => h9) rfl (by decide +kernel) (Nat.le_of_ble_eq_true rfl) (psB_51 ad cI cJ cT (sets I 50 p1) J p2) dX2_howMany_31 (fun H locs hP hD hS => ?_)
    refine lv_aload_n hx hb dX2_howMany_34 rfl (lv_at hl 0 rfl) ?_
    refine lv_iload_n hx hb dX2_howMany_35 rfl (lv_at hl 3 rfl) ?_
    refine x_put (C := RX2) (T := TX2) (N := 10) hx hb hts in_X2 tyX2 tyX2_ok nmX2 hown hK hP hD hS 25 (obB_25 ad cI cJ cT (sets (sets I 50 p1) 51 p2) J) rfl 7 (by decide) wd_2 (fun _ h9 => h9) rfl (by decide +kernel) (Nat.le_of_ble_eq_true rfl) (psB_52 ad cI cJ cT (sets (sets I 50 p1) 51 p2) J p3) dX2_howMany_36 (fun H locs hP hD hS => ?_)
    refine lv_aload_n hx hb dX2_howMany_39 rfl (lv_at hl 0 rfl) ?_
    obtain ⟨I_2, hg_2, hf⟩ := bd_some hf
    refine xVv (rest := []) (c_X2_findFree l dC dI ad cI cJ cT (sets (sets (sets I 50 p1) 51 p2) 52 p3) J hg_2) hfix (cwV 0 hts gX2_howMany_X2_findFree rfl rfl rfl (by decide +kernel) ⟨Nat.le_of_ble_eq_true rfl, Nat.le_of_ble_eq_true rfl⟩) hK hP hD hS hA (va_recv hK hP (ci := 2) (q0 := 25) rfl (obB_25 ad cI cJ cT (sets (sets (sets I 50 p1) 51 p2) 52 p3) J)) rfl hl.1 rfl (Nat.le_of_ble_eq_true rfl) ⟨Nat.zero_le _, Nat.zero_le _⟩ dX2_howMany_40 (fun H locs hP hD hS => ?_)
    refine lv_aload_n hx hb dX2_howMany_43 rfl (lv_at hl 0 rfl) ?_
    obtain ⟨I_3, hg_3, hf⟩ := bd_some hf
    refine xVv (rest := []) (c_X2_findRight l dC dI ad cI cJ cT I_2 J hg_3) hfix (cwV 0 hts gX2_howMany_X2_findRight rfl rfl rfl (by decide +kernel) ⟨Nat.le_of_ble_eq_true rfl, Nat.le_of_ble_eq_true rfl⟩) hK hP hD hS hA (va_recv hK hP (ci := 2) (q0 := 25) rfl (obB_25 ad cI cJ cT I_2 J)) rfl hl.1 rfl (Nat.le_of_ble_eq_true rfl) ⟨Nat.zero_le _, Nat.zero_le _⟩ dX2_howMany_44 (fun H locs hP hD hS => ?_)
    refine lv_aload_n hx hb dX2_howMany_47 rfl (lv_at hl 0 rfl) ?_
    refine va_get (D := (dC, dI)) (ci := 2) (v := .int (I_3 54 0)) (C := RX2) (T := TX2) (N := 10) hx hb hts in_X2 hown hK hP 25 (obB_25 ad cI cJ cT I_3 J) rfl 9 (by decide) wd_3 (fun _ h9 => h9) rfl dX2_howMany_48 ?_
    cases hf
    exact xRi hx hb hr hlocks hK hP hD hS (fun _ h => h) dX2_howMany_51
  · have hf := (if_pos c_1).symm.trans hf
    refine lv_iload_n hx hb dX2_howMany_8 rfl (lv_at hl 2 rfl) ?_
    refine lv_aload_n hx hb dX2_howMany_9 rfl (lv_at hl 0 rfl) ?_
    refine va_get (D := (dC, dI)) (ci := 2) (v := .int (I 51 0)) (C := RX2) (T := TX2) (N := 10) hx hb hts in_X2 hown hK hP 25 (obB_25 ad cI cJ cT I J) rfl 6 (by decide) wd_1 (fun _ h9 => h9) rfl dX2_howMany_10 ?_
    refine lv_icmp_ne (tgt := 24) hx hb dX2_howMany_13 (by decide) (fun c_4 => ?_) (fun c_4 => ?_)
    · have hf := (if_neg c_4).symm.trans hf
      refine lv_aload_n hx hb dX2_howMany_24 rfl (lv_at hl 0 rfl) ?_
      refine lv_iload_n hx hb dX2_howMany_25 rfl (lv_at hl 1 rfl) ?_
      refine x_put (C := RX2) (T := TX2) (N := 10) hx hb hts in_X2 tyX2 tyX2_ok nmX2 hown hK hP hD hS 25 (obB_25 ad cI cJ cT I J) rfl 5 (by decide) wd_0 (fun _ h9 => h9) rfl (by decide +kernel) (Nat.le_of_ble_eq_true rfl) (psB_50 ad cI cJ cT I J p1) dX2_howMany_26 (fun H locs hP hD hS => ?_)
      refine lv_aload_n hx hb dX2_howMany_29 rfl (lv_at hl 0 rfl) ?_
      refine lv_iload_n hx hb dX2_howMany_30 rfl (lv_at hl 2 rfl) ?_
      refine x_put (C := RX2) (T := TX2) (N := 10) hx hb hts in_X2 tyX2 tyX2_ok nmX2 hown hK hP hD hS 25 (obB_25 ad cI cJ cT (sets I 50 p1) J) rfl 6 (by decide) wd_1 (fun _ h9 => h9) rfl (by decide +kernel) (Nat.le_of_ble_eq_true rfl) (psB_51 ad cI cJ cT (sets I 50 p1) J p2) dX2_howMany_31 (fun H locs hP hD hS => ?_)
      refine lv_aload_n hx hb dX2_howMany_34 rfl (lv_at hl 0 rfl) ?_
      refine lv_iload_n hx hb dX2_howMany_35 rfl (lv_at hl 3 rfl) ?_
      refine x_put (C := RX2) (T := TX2) (N := 10) hx hb hts in_X2 tyX2 tyX2_ok nmX2 hown hK hP hD hS 25 (obB_25 ad cI cJ cT (sets (sets I 50 p1) 51 p2) J) rfl 7 (by decide) wd_2 (fun _ h9 => h9) rfl (by decide +kernel) (Nat.le_of_ble_eq_true rfl) (psB_52 ad cI cJ cT (sets (sets I 50 p1) 51 p2) J p3) dX2_howMany_36 (fun H locs hP hD hS => ?_)
      refine lv_aload_n hx hb dX2_howMany_39 rfl (lv_at hl 0 rfl) ?_
      obtain ⟨I_5, hg_5, hf⟩ := bd_some hf
      refine xVv (rest := []) (c_X2_findFree l dC dI ad cI cJ cT (sets (sets (sets I 50 p1) 51 p2) 52 p3) J hg_5) hfix (cwV 0 hts gX2_howMany_X2_findFree rfl rfl rfl (by decide +kernel) ⟨Nat.le_of_ble_eq_true rfl, Nat.le_of_ble_eq_true rfl⟩) hK hP hD hS hA (va_recv hK hP (ci := 2) (q0 := 25) rfl (obB_25 ad cI cJ cT (sets (sets (sets I 50 p1) 51 p2) 52 p3) J)) rfl hl.1 rfl (Nat.le_of_ble_eq_true rfl) ⟨Nat.zero_le _, Nat.zero_le _⟩ dX2_howMany_40 (fun H locs hP hD hS => ?_)
      refine lv_aload_n hx hb dX2_howMany_43 rfl (lv_at hl 0 rfl) ?_
      obtain ⟨I_6, hg_6, hf⟩ := bd_some hf
      refine xVv (rest := []) (c_X2_findRight l dC dI ad cI cJ cT I_5 J hg_6) hfix (cwV 0 hts gX2_howMany_X2_findRight rfl rfl rfl (by decide +kernel) ⟨Nat.le_of_ble_eq_true rfl, Nat.le_of_ble_eq_true rfl⟩) hK hP hD hS hA (va_recv hK hP (ci := 2) (q0 := 25) rfl (obB_25 ad cI cJ cT I_5 J)) rfl hl.1 rfl (Nat.le_of_ble_eq_true rfl) ⟨Nat.zero_le _, Nat.zero_le _⟩ dX2_howMany_44 (fun H locs hP hD hS => ?_)
      refine lv_aload_n hx hb dX2_howMany_47 rfl (lv_at hl 0 rfl) ?_
      refine va_get (D := (dC, dI)) (ci := 2) (v := .int (I_6 54 0)) (C := RX2) (T := TX2) (N := 10) hx hb hts in_X2 hown hK hP 25 (obB_25 ad cI cJ cT I_6 J) rfl 9 (by decide) wd_3 (fun _ h9 => h9) rfl dX2_howMany_48 ?_
      cases hf
      exact xRi hx hb hr hlocks hK hP hD hS (fun _ h => h) dX2_howMany_51
    · have hf := (if_pos c_4).symm.trans hf
      refine lv_iload_n hx hb dX2_howMany_16 rfl (lv_at hl 3 rfl) ?_
      refine lv_aload_n hx hb dX2_howMany_17 rfl (lv_at hl 0 rfl) ?_
      refine va_get (D := (dC, dI)) (ci := 2) (v := .int (I 52 0)) (C := RX2) (T := TX2) (N := 10) hx hb hts in_X2 hown hK hP 25 (obB_25 ad cI cJ cT I J) rfl 7 (by decide) wd_2 (fun _ h9 => h9) rfl dX2_howMany_18 ?_
      refine lv_icmp_eq (tgt := 47) hx hb dX2_howMany_21 (by decide) (fun c_7 => ?_) (fun c_7 => ?_)
      · have hf := (if_pos c_7).symm.trans hf
        refine lv_aload_n hx hb dX2_howMany_47 rfl (lv_at hl 0 rfl) ?_
        refine va_get (D := (dC, dI)) (ci := 2) (v := .int (I 54 0)) (C := RX2) (T := TX2) (N := 10) hx hb hts in_X2 hown hK hP 25 (obB_25 ad cI cJ cT I J) rfl 9 (by decide) wd_3 (fun _ h9 => h9) rfl dX2_howMany_48 ?_
        cases hf
        exact xRi hx hb hr hlocks hK hP hD hS (fun _ h => h) dX2_howMany_51
      · have hf := (if_neg c_7).symm.trans hf
        refine lv_aload_n hx hb dX2_howMany_24 rfl (lv_at hl 0 rfl) ?_
        refine lv_iload_n hx hb dX2_howMany_25 rfl (lv_at hl 1 rfl) ?_
        refine x_put (C := RX2) (T := TX2) (N := 10) hx hb hts in_X2 tyX2 tyX2_ok nmX2 hown hK hP hD hS 25 (obB_25 ad cI cJ cT I J) rfl 5 (by decide) wd_0 (fun _ h9 => h9) rfl (by decide +kernel) (Nat.le_of_ble_eq_true rfl) (psB_50 ad cI cJ cT I J p1) dX2_howMany_26 (fun H locs hP hD hS => ?_)
        refine lv_aload_n hx hb dX2_howMany_29 rfl (lv_at hl 0 rfl) ?_
        refine lv_iload_n hx hb dX2_howMany_30 rfl (lv_at hl 2 rfl) ?_
        refine x_put (C := RX2) (T := TX2) (N := 10) hx hb hts in_X2 tyX2 tyX2_ok nmX2 hown hK hP hD hS 25 (obB_25 ad cI cJ cT (sets I 50 p1) J) rfl 6 (by decide) wd_1 (fun _ h9 => h9) rfl (by decide +kernel) (Nat.le_of_ble_eq_true rfl) (psB_51 ad cI cJ cT (sets I 50 p1) J p2) dX2_howMany_31 (fun H locs hP hD hS => ?_)
        refine lv_aload_n hx hb dX2_howMany_34 rfl (lv_at hl 0 rfl) ?_
        refine lv_iload_n hx hb dX2_howMany_35 rfl (lv_at hl 3 rfl) ?_
        refine x_put (C := RX2) (T := TX2) (N := 10) hx hb hts in_X2 tyX2 tyX2_ok nmX2 hown hK hP hD hS 25 (obB_25 ad cI cJ cT (sets (sets I 50 p1) 51 p2) J) rfl 7 (by decide) wd_2 (fun _ h9 => h9) rfl (by decide +kernel) (Nat.le_of_ble_eq_true rfl) (psB_52 ad cI cJ cT (sets (sets I 50 p1) 51 p2) J p3) dX2_howMany_36 (fun H locs hP hD hS => ?_)
        refine lv_aload_n hx hb dX2_howMany_39 rfl (lv_at hl 0 rfl) ?_
        obtain ⟨I_8, hg_8, hf⟩ := bd_some hf
        refine xVv (rest := []) (c_X2_findFree l dC dI ad cI cJ cT (sets (sets (sets I 50 p1) 51 p2) 52 p3) J hg_8) hfix (cwV 0 hts gX2_howMany_X2_findFree rfl rfl rfl (by decide +kernel) ⟨Nat.le_of_ble_eq_true rfl, Nat.le_of_ble_eq_true rfl⟩) hK hP hD hS hA (va_recv hK hP (ci := 2) (q0 := 25) rfl (obB_25 ad cI cJ cT (sets (sets (sets I 50 p1) 51 p2) 52 p3) J)) rfl hl.1 rfl (Nat.le_of_ble_eq_true rfl) ⟨Nat.zero_le _, Nat.zero_le _⟩ dX2_howMany_40 (fun H locs hP hD hS => ?_)
        refine lv_aload_n hx hb dX2_howMany_43 rfl (lv_at hl 0 rfl) ?_
        obtain ⟨I_9, hg_9, hf⟩ := bd_some hf
        refine xVv (rest := []) (c_X2_findRight l dC dI ad cI cJ cT I_8 J hg_9) hfix (cwV 0 hts gX2_howMany_X2_findRight rfl rfl rfl (by decide +kernel) ⟨Nat.le_of_ble_eq_true rfl, Nat.le_of_ble_eq_true rfl⟩) hK hP hD hS hA (va_recv hK hP (ci := 2) (q0 := 25) rfl (obB_25 ad cI cJ cT I_8 J)) rfl hl.1 rfl (Nat.le_of_ble_eq_true rfl) ⟨Nat.zero_le _, Nat.zero_le _⟩ dX2_howMany_44 (fun H locs hP hD hS => ?_)
        refine lv_aload_n hx hb dX2_howMany_47 rfl (lv_at hl 0 rfl) ?_
        refine va_get (D := (dC, dI)) (ci := 2) (v := .int (I_9 54 0)) (C := RX2) (T := TX2) (N := 10) hx hb hts in_X2 hown hK hP 25 (obB_25 ad cI cJ cT I_9 J) rfl 9 (by decide) wd_3 (fun _ h9 => h9) rfl dX2_howMany_48 ?_
        cases hf
        exact xRi hx hb hr hlocks hK hP hD hS (fun _ h => h) dX2_howMany_51
set_option maxHeartbeats 4000000 in
set_option maxRecDepth 100000 in
theorem c_X2_write (l : Launch) (dC : Nat → ClassId) (dI : Nat → Nat → Nat) (ad : Nat → Nat) (cI cJ cT : ClassId) (x : Nat) (htx : x < 8) (p2 : Int32) (I : SI) (J : SJ) {I0 : SI} (hf : f_X2_write x p2 I = some I0) : CtV l yX2_write wsX2_write ({ frames := 4, cells := 0, slots := 0, locals := 101 } : Room) (dC, dI) (tys3 cI cJ cT) (wB ad cI cJ cT) [.ref (ad 25), .ref (ad (8 + x)), .int p2] I J I0 J := by
  intro sz
  refine Met.ofW (cc := cX2_write) (maxL := 5) (ret := none) (by decide) rfl ?_
  intro p e s m args below meth c s₁ B hml hv
  obtain ⟨hargs, hsz, hP, hK, hD0⟩ := hv
  have hx := B.exec
  have hb := B.bytes
  have hr := B.returns
  have hts := atoms_spec (ws := wsX2_write) B.pre
  have hown : s.vm.findClass RX2 = some m.cls := findClass_of_methodNamed B.named
  have hlocks := B.notSynchronized
  subst hsz
  have hD := hD0.self (sz := s.heap.size)
  generalize hAe : va_A ((wB ad cI cJ cT) I J) s.heap.size = A at hD ⊢
  have hA : ∀ q : Nat, s.heap.size ≤ q → A q := fun q h => by rw [← hAe]; exact Or.inr h
  have hS : va_S A s.heap s.heap [] := va_S.rf
  have hl := lv_entry ([.ref (ad 25), .ref (ad (8 + x)), .int p2]) (n := 5) (Nat.le_of_ble_eq_true rfl)
  rw [hargs, lg_entry_eq, ← hargs]
  generalize (lg_sl ([.ref (ad 25), .ref (ad (8 + x)), .int p2]) ++ List.replicate (5 - (lg_sl ([.ref (ad 25), .ref (ad (8 + x)), .int p2])).length) Slot.unset).toArray = ls at hl ⊢
  have hl : lv_has ls 5 [(0, .ref (ad 25)), (1, .ref (ad (8 + x))), (2, .int p2)] := hl
  have hfix : CallFix p m c cX2_write 5 s args wsX2_write RX2 := ⟨hx, hb, hml, hown, hts⟩
  have in_X2 : ∀ w ∈ u_ws RX2 TX2 10, w ∈ wsX2_write := by decide +kernel
  have wd_0 := hts (.fieldLink RX2 17 "FuseBench$Listing" "row" "[I") (by decide +kernel)
  have wd_1 := hts (.fieldLink RX2 51 "FuseBench$Listing" "count" "I") (by decide +kernel)
  have wd_2 := hts (.fieldLink RX2 20 "FuseBench$Listing" "found" "[I") (by decide +kernel)
  have wd_3 := hts (.fieldLink RX2 54 "FuseBench$Listing" "free" "I") (by decide +kernel)
  have wd_4 := hts (.fieldLink RX2 24 "FuseBench$Listing" "candidate" "LFuseBench$Table;") (by decide +kernel)
  have L28 : ∀ (Q : State → Prop)  (J : SJ) (o : SI), (∀  (I : SI) (H : Heap) (locs : List Loc) (ls : Array Slot), o = I → va_P (dC, dI) vwCl ((wB ad cI cJ cT) I J) H → va_D A ((wB ad cI cJ cT) I J) → va_S A s.heap H locs → lv_has ls 5 [(0, .ref (ad 25)), (1, .ref (ad (8 + x)))] → W p l e ({ frames := 4, cells := 0, slots := 0, locals := 101 } : Room) s m args below meth c H locs 0 0 Q (F0 m 53 ls [])) → ∀ (n : Nat) (v3 : Int32) (v4 : Int32) (I : SI) (H : Heap) (locs : List Loc) (ls : Array Slot), lp_X2_write_28 x n v3 v4 I = some o → va_P (dC, dI) vwCl ((wB ad cI cJ cT) I J) H → va_D A ((wB ad cI cJ cT) I J) → va_S A s.heap H locs → lv_has ls 5 [(0, .ref (ad 25)), (1, .ref (ad (8 + x))), (3, .int v3), (4, .int v4)] → W p l e ({ frames := 4, cells := 0, slots := 0, locals := 101 } : Room) s m args below meth c H locs 0 0 Q (F0 m 28 ls []) := by
    intro Q  J o K0 n
    clear hP hD hS hl
    induction n with
    | zero =>
      intro v3 v4 I H locs ls hf
      rw [lp_X2_write_28.eq_1] at hf
      cases hf
    | succ n ih =>
      intro v3 v4 I H locs ls hf hP hD hS hl
      rw [lp_X2_write_28.eq_2] at hf
      refine lv_iload hx hb dX2_write_28 (lv_at hl 3 rfl) ?_
      refine lv_if_lt (tgt := 53) hx hb dX2_write_30 (by decide) (fun c_1 => ?_) (fun c_1 => ?_)
      · have hf := (if_pos c_1).symm.trans hf
        exact K0 _ _ _ _ (Option.some.inj hf).symm hP hD hS (lv_sub hl [0, 1] rfl)
      · have hf := (if_neg c_1).symm.trans hf
        refine lv_aload_n hx hb dX2_write_33 rfl (lv_at hl 0 rfl) ?_
        refine va_get (D := (dC, dI)) (ci := 2) (v := .ref (ad 23)) (C := RX2) (T := TX2) (N := 10) hx hb hts in_X2 hown hK hP 25 (obB_25 ad cI cJ cT I J) rfl 1 (by decide) wd_0 (fun _ h9 => h9) rfl dX2_write_34 ?_
        refine lv_iload hx hb dX2_write_37 (lv_at hl 3 rfl) ?_
        refine lv_iload_n hx hb dX2_write_39 rfl (lv_at hl 2 rfl) ?_
        refine lv_iconst (v := (3 : Int32)) hx hb dX2_write_40 (by decide) ?_
        refine lv_iand hx hb dX2_write_41 ?_
        obtain ⟨h_2, hf⟩ := gd_some hf
        refine x_iast hx hb hK (aiB_23 ad cI cJ cT) hP hD hS h_2 dX2_write_42 (fun H locs hP hD hS => ?_)
        refine lv_iload_n hx hb dX2_write_43 rfl (lv_at hl 2 rfl) ?_
        refine lv_iconst (v := (2 : Int32)) hx hb dX2_write_44 (by decide) ?_
        refine lv_ishr hx hb dX2_write_45 ?_
        refine lv_istore_n (lv' := [(3, .int (v3 >>> ((2 : Int32) &&& 31))), (0, .ref (ad 25)), (1, .ref (ad (8 + x))), (4, .int v4)]) hx hb dX2_write_46 rfl hl (by decide) rfl (fun ls hl => ?_)
        refine lv_iinc (v := (v4 + (-1 : Int32))) (lv' := [(4, .int (v4 + (-1 : Int32))), (3, .int (v3 >>> ((2 : Int32) &&& 31))), (0, .ref (ad 25)), (1, .ref (ad (8 + x)))]) hx hb dX2_write_47 hl (k := 3) rfl (by first | rfl | decide) (by decide) rfl (fun ls hl => ?_)
        refine lv_goto (tgt := 28) hx hb dX2_write_50 (by decide) ?_
        exact ih _ _ _ _ _ _ hf hP hD hS (lv_sub hl [2, 3, 1, 0] rfl)
  unfold f_X2_write at hf
  refine lv_iload_n hx hb dX2_write_0 rfl (lv_at hl 2 rfl) ?_
  refine lv_if_lt (tgt := 12) hx hb dX2_write_1 (by decide) (fun c_3 => ?_) (fun c_3 => ?_)
  · have hf := (if_pos c_3).symm.trans hf
    cases hf
    exact xRv hx hb hr hlocks hK hP hD hS (fun _ h => h) dX2_write_12
  · have hf := (if_neg c_3).symm.trans hf
    refine lv_iload_n hx hb dX2_write_4 rfl (lv_at hl 2 rfl) ?_
    refine lv_aload_n hx hb dX2_write_5 rfl (lv_at hl 0 rfl) ?_
    refine va_get (D := (dC, dI)) (ci := 2) (v := .int (I 54 0)) (C := RX2) (T := TX2) (N := 10) hx hb hts in_X2 hown hK hP 25 (obB_25 ad cI cJ cT I J) rfl 9 (by decide) wd_1 (fun _ h9 => h9) rfl dX2_write_6 ?_
    refine lv_icmp_lt (tgt := 13) hx hb dX2_write_9 (by decide) (fun c_4 => ?_) (fun c_4 => ?_)
    · have hf := (if_pos c_4).symm.trans hf
      refine lv_aload_n hx hb dX2_write_13 rfl (lv_at hl 0 rfl) ?_
      refine va_get (D := (dC, dI)) (ci := 2) (v := .ref (ad 24)) (C := RX2) (T := TX2) (N := 10) hx hb hts in_X2 hown hK hP 25 (obB_25 ad cI cJ cT I J) rfl 2 (by decide) wd_2 (fun _ h9 => h9) rfl dX2_write_14 ?_
      refine lv_iload_n hx hb dX2_write_17 rfl (lv_at hl 2 rfl) ?_
      obtain ⟨h_5, hf⟩ := gd_some hf
      refine x_iald hx hb hK (aiB_24 ad cI cJ cT) hP h_5 dX2_write_18 ?_
      refine lv_istore_n (lv' := [(3, .int (I 24 p2.toNatClampNeg)), (0, .ref (ad 25)), (1, .ref (ad (8 + x))), (2, .int p2)]) hx hb dX2_write_19 rfl hl (by decide) rfl (fun ls hl => ?_)
      refine lv_aload_n hx hb dX2_write_20 rfl (lv_at hl 1 rfl) ?_
      refine va_get (D := (dC, dI)) (ci := 2) (v := .int (I 53 0)) (C := RX2) (T := TX2) (N := 10) hx hb hts in_X2 hown hK hP 25 (obB_25 ad cI cJ cT I J) rfl 8 (by decide) wd_3 (fun _ h9 => h9) rfl dX2_write_21 ?_
      refine lv_iconst (v := (1 : Int32)) hx hb dX2_write_24 (by decide) ?_
      refine lv_isub hx hb dX2_write_25 ?_
      refine lv_istore (lv' := [(4, .int ((I 53 0) - (1 : Int32))), (3, .int (I 24 p2.toNatClampNeg)), (0, .ref (ad 25)), (1, .ref (ad (8 + x))), (2, .int p2)]) hx hb dX2_write_26 hl (by decide) rfl (fun ls hl => ?_)
      obtain ⟨o_6, hg_6, hf⟩ := bd_some hf
      refine L28 _ J o_6 ?_ FU (I 24 p2.toNatClampNeg) ((I 53 0) - (1 : Int32)) I _ _ _ hg_6 hP hD hS (lv_sub hl [2, 3, 1, 0] rfl)
      · intro I_6 H locs ls ho hP hD hS hl
        subst o_6
        refine lv_aload_n hx hb dX2_write_53 rfl (lv_at hl 0 rfl) ?_
        obtain ⟨I_7, hg_7, hf⟩ := bd_some hf
        refine xVv (rest := []) (c_X2_buildCandidate l dC dI ad cI cJ cT I_6 J hg_7) hfix (cwV 0 hts gX2_write_X2_buildCandidate rfl rfl rfl (by decide +kernel) ⟨Nat.le_of_ble_eq_true rfl, Nat.le_of_ble_eq_true rfl⟩) hK hP hD hS hA (va_recv hK hP (ci := 2) (q0 := 25) rfl (obB_25 ad cI cJ cT I_6 J)) rfl hl.1 rfl (Nat.le_of_ble_eq_true rfl) ⟨Nat.zero_le _, Nat.zero_le _⟩ dX2_write_54 (fun H locs hP hD hS => ?_)
        refine lv_aload_n hx hb dX2_write_57 rfl (lv_at hl 1 rfl) ?_
        refine lv_aload_n hx hb dX2_write_58 rfl (lv_at hl 0 rfl) ?_
        refine va_get (D := (dC, dI)) (ci := 2) (v := .ref (ad (8 + 7))) (C := RX2) (T := TX2) (N := 10) hx hb hts in_X2 hown hK hP 25 (obB_25 ad cI cJ cT I_7 J) rfl 3 (by decide) wd_4 (fun _ h9 => h9) rfl dX2_write_59 ?_
        obtain ⟨I_8, hg_8, hf⟩ := bd_some hf
        refine xVv (rest := []) (c_X7_become l dC dI ad cI cJ cT (wB ad cI cJ cT) (fun k => k) x (wBT ad cI cJ cT htx) 7 (wBT ad cI cJ cT (by decide)) I_7 J hg_8) hfix (cwV 1 hts gX2_write_X7_become rfl rfl rfl (by decide +kernel) ⟨Nat.le_of_ble_eq_true rfl, Nat.le_of_ble_eq_true rfl⟩) hK hP hD hS hA (va_recv hK hP (ci := 6) (q0 := (8 + x)) rfl (((wBT ad cI cJ cT htx)).2.1 I_7 J)) rfl hl.1 rfl (Nat.le_of_ble_eq_true rfl) ⟨Nat.zero_le _, Nat.zero_le _⟩ dX2_write_62 (fun H locs hP hD hS => ?_)
        cases hf
        exact xRv hx hb hr hlocks hK hP hD hS (fun _ h => h) dX2_write_65
    · have hf := (if_neg c_4).symm.trans hf
      cases hf
      exact xRv hx hb hr hlocks hK hP hD hS (fun _ h => h) dX2_write_12
set_option maxHeartbeats 4000000 in
set_option maxRecDepth 100000 in
theorem c_X3_countFrom_0 (l : Launch) (dC : Nat → ClassId) (dI : Nat → Nat → Nat) (ad : Nat → Nat) (cI cJ cT : ClassId) (x : Nat) (htx : x < 8) (y : Nat) (hty : y < 8) (p3 : Int32) (p4 : Int32) (I : SI) (J : SJ) {r0 : Int32} {I0 : SI} (hf : f_X3_countFrom x y 0 p3 p4 I = some (r0, I0)) : CtI l yX3_countFrom wsX3_countFrom ({ frames := 0, cells := 0, slots := 0, locals := 0 } : Room) (dC, dI) (tys3 cI cJ cT) (wB ad cI cJ cT) [.ref (ad (8 + x)), .ref (ad (8 + y)), .ref (ad 26), .int p3, .int p4] I J r0 I0 J := by
  rw [f_X3_countFrom.eq_1] at hf
  cases hf
set_option maxHeartbeats 4000000 in
set_option maxRecDepth 100000 in
theorem c_X3_alike (l : Launch) (dC : Nat → ClassId) (dI : Nat → Nat → Nat) (ad : Nat → Nat) (cI cJ cT : ClassId) (x : Nat) (htx : x < 8) (y : Nat) (hty : y < 8) (I : SI) (J : SJ) {r0 : Int32} (hf : f_X3_alike x y I = some r0) : CtI l yX3_alike wsX3_alike ({ frames := 2, cells := 0, slots := 0, locals := 45 } : Room) (dC, dI) (tys3 cI cJ cT) (wB ad cI cJ cT) [.ref (ad (8 + x)), .ref (ad (8 + y)), .ref (ad 26)] I J r0 I J := by
  intro sz
  refine Met.ofW (cc := cX3_alike) (maxL := 6) (ret := (some .boolean)) (by decide) rfl ?_
  intro p e s m args below meth c s₁ B hml hv
  obtain ⟨hargs, hsz, hP, hK, hD0⟩ := hv
  have hx := B.exec
  have hb := B.bytes
  have hr := B.returns
  have hts := atoms_spec (ws := wsX3_alike) B.pre
  have hown : s.vm.findClass RX3 = some m.cls := findClass_of_methodNamed B.named
  have hlocks := B.notSynchronized
  subst hsz
  have hD := hD0.self (sz := s.heap.size)
  generalize hAe : va_A ((wB ad cI cJ cT) I J) s.heap.size = A at hD ⊢
  have hA : ∀ q : Nat, s.heap.size ≤ q → A q := fun q h => by rw [← hAe]; exact Or.inr h
  have hS : va_S A s.heap s.heap [] := va_S.rf
  have hl := lv_entry ([.ref (ad (8 + x)), .ref (ad (8 + y)), .ref (ad 26)]) (n := 6) (Nat.le_of_ble_eq_true rfl)
  rw [hargs, lg_entry_eq, ← hargs]
  generalize (lg_sl ([.ref (ad (8 + x)), .ref (ad (8 + y)), .ref (ad 26)]) ++ List.replicate (6 - (lg_sl ([.ref (ad (8 + x)), .ref (ad (8 + y)), .ref (ad 26)])).length) Slot.unset).toArray = ls at hl ⊢
  have hl : lv_has ls 6 [(0, .ref (ad (8 + x))), (1, .ref (ad (8 + y))), (2, .ref (ad 26))] := hl
  have hfix : CallFix p m c cX3_alike 6 s args wsX3_alike RX3 := ⟨hx, hb, hml, hown, hts⟩
  have in_X7 : ∀ w ∈ u_ws RX7 TX7 2, w ∈ wsX3_alike := by decide +kernel
  have wd_0 := hts (.fieldLink RX3 15 "FuseBench$Table" "kinds" "I") (by decide +kernel)
  have L25 : ∀ (Q : State → Prop) (v3 : Int32) (v4 : Int32) (I : SI) (J : SJ) (o : Nat), (∀  (H : Heap) (locs : List Loc) (ls : Array Slot), o = 0 → va_P (dC, dI) vwCl ((wB ad cI cJ cT) I J) H → va_D A ((wB ad cI cJ cT) I J) → va_S A s.heap H locs → lv_has ls 6 [] → W p l e ({ frames := 2, cells := 0, slots := 0, locals := 45 } : Room) s m args below meth c H locs 0 0 Q (F0 m 61 ls [])) → (∀  (H : Heap) (locs : List Loc) (ls : Array Slot), o = 1 → va_P (dC, dI) vwCl ((wB ad cI cJ cT) I J) H → va_D A ((wB ad cI cJ cT) I J) → va_S A s.heap H locs → lv_has ls 6 [(0, .ref (ad (8 + x))), (1, .ref (ad (8 + y))), (2, .ref (ad 26)), (3, .int v3), (4, .int v4)] → W p l e ({ frames := 2, cells := 0, slots := 0, locals := 45 } : Room) s m args below meth c H locs 0 0 Q (F0 m 69 ls [])) → ∀ (n : Nat) (v5 : Int32) (H : Heap) (locs : List Loc) (ls : Array Slot), lp_X3_alike_25 x y v3 v4 I n v5 = some o → va_P (dC, dI) vwCl ((wB ad cI cJ cT) I J) H → va_D A ((wB ad cI cJ cT) I J) → va_S A s.heap H locs → lv_has ls 6 [(0, .ref (ad (8 + x))), (1, .ref (ad (8 + y))), (2, .ref (ad 26)), (3, .int v3), (4, .int v4), (5, .int v5)] → W p l e ({ frames := 2, cells := 0, slots := 0, locals := 45 } : Room) s m args below meth c H locs 0 0 Q (F0 m 25 ls []) := by
    intro Q v3 v4 I J o K0 K1 n
    clear hP hD hS hl
    induction n with
    | zero =>
      intro v5 H locs ls hf
      rw [lp_X3_alike_25.eq_1] at hf
      cases hf
    | succ n ih =>
      intro v5 H locs ls hf hP hD hS hl
      rw [lp_X3_alike_25.eq_2] at hf
      refine lv_iload hx hb dX3_alike_25 (lv_at hl 5 rfl) ?_
      refine lv_aload_n hx hb dX3_alike_27 rfl (lv_at hl 0 rfl) ?_
      refine va_get (D := (dC, dI)) (ci := 6) (v := .int (I (8 + x) 0)) (C := RX7) (T := TX7) (N := 2) hx hb hts in_X7 hown hK hP (8 + x) (((wBT ad cI cJ cT htx)).2.1 I J) rfl 1 (by decide) wd_0 (fun _ h9 => h9) rfl dX3_alike_28 ?_
      refine lv_icmp_ge (tgt := 69) hx hb dX3_alike_31 (by decide) (fun c_1 => ?_) (fun c_1 => ?_)
      · have hf := (if_pos c_1).symm.trans hf
        exact K1  _ _ _ (Option.some.inj hf).symm hP hD hS (lv_sub hl [0, 1, 2, 3, 4] rfl)
      · have hf := (if_neg c_1).symm.trans hf
        refine lv_aload_n hx hb dX3_alike_34 rfl (lv_at hl 0 rfl) ?_
        refine lv_iload_n hx hb dX3_alike_35 rfl (lv_at hl 3 rfl) ?_
        refine lv_iload hx hb dX3_alike_36 (lv_at hl 4 rfl) ?_
        refine lv_iload hx hb dX3_alike_38 (lv_at hl 5 rfl) ?_
        obtain ⟨r_2, hg_2, hf⟩ := bd_some hf
        refine xVi (rest := []) (c_X7_number l dC dI ad cI cJ cT (wB ad cI cJ cT) (fun k => k) x (wBT ad cI cJ cT htx) v3 v4 v5 I J hg_2) hfix (cwV 3 hts gX3_alike_X7_number rfl rfl rfl (by decide +kernel) ⟨Nat.le_of_ble_eq_true rfl, Nat.le_of_ble_eq_true rfl⟩) hK hP hD hS hA (va_recv hK hP (ci := 6) (q0 := (8 + x)) rfl (((wBT ad cI cJ cT htx)).2.1 I J)) rfl hl.1 rfl (Nat.le_of_ble_eq_true rfl) ⟨Nat.zero_le _, Nat.zero_le _⟩ dX3_alike_40 (fun H locs hP hD hS => ?_)
        refine lv_aload_n hx hb dX3_alike_43 rfl (lv_at hl 1 rfl) ?_
        refine lv_aload_n hx hb dX3_alike_44 rfl (lv_at hl 2 rfl) ?_
        refine lv_iload_n hx hb dX3_alike_45 rfl (lv_at hl 3 rfl) ?_
        obtain ⟨h_3, hf⟩ := gd_some hf
        refine x_iald hx hb hK (aiB_26 ad cI cJ cT) hP h_3 dX3_alike_46 ?_
        refine lv_aload_n hx hb dX3_alike_47 rfl (lv_at hl 2 rfl) ?_
        refine lv_iload hx hb dX3_alike_48 (lv_at hl 4 rfl) ?_
        obtain ⟨h_4, hf⟩ := gd_some hf
        refine x_iald hx hb hK (aiB_26 ad cI cJ cT) hP h_4 dX3_alike_50 ?_
        refine lv_aload_n hx hb dX3_alike_51 rfl (lv_at hl 2 rfl) ?_
        refine lv_iload hx hb dX3_alike_52 (lv_at hl 5 rfl) ?_
        obtain ⟨h_5, hf⟩ := gd_some hf
        refine x_iald hx hb hK (aiB_26 ad cI cJ cT) hP h_5 dX3_alike_54 ?_
        obtain ⟨r_6, hg_6, hf⟩ := bd_some hf
        refine xVi (rest := [.int r_2]) (c_X7_number l dC dI ad cI cJ cT (wB ad cI cJ cT) (fun k => k) y (wBT ad cI cJ cT hty) (I 26 v3.toNatClampNeg) (I 26 v4.toNatClampNeg) (I 26 v5.toNatClampNeg) I J hg_6) hfix (cwV 3 hts gX3_alike_X7_number rfl rfl rfl (by decide +kernel) ⟨Nat.le_of_ble_eq_true rfl, Nat.le_of_ble_eq_true rfl⟩) hK hP hD hS hA (va_recv hK hP (ci := 6) (q0 := (8 + y)) rfl (((wBT ad cI cJ cT hty)).2.1 I J)) rfl hl.1 rfl (Nat.le_of_ble_eq_true rfl) ⟨Nat.zero_le _, Nat.zero_le _⟩ dX3_alike_55 (fun H locs hP hD hS => ?_)
        refine lv_icmp_eq (tgt := 63) hx hb dX3_alike_58 (by decide) (fun c_7 => ?_) (fun c_7 => ?_)
        · have hf := (if_pos c_7).symm.trans hf
          refine lv_iinc (v := (v5 + (1 : Int32))) (lv' := [(5, .int (v5 + (1 : Int32))), (0, .ref (ad (8 + x))), (1, .ref (ad (8 + y))), (2, .ref (ad 26)), (3, .int v3), (4, .int v4)]) hx hb dX3_alike_63 hl (k := 5) rfl (by first | rfl | decide) (by decide) rfl (fun ls hl => ?_)
          refine lv_goto (tgt := 25) hx hb dX3_alike_66 (by decide) ?_
          exact ih _ _ _ _ hf hP hD hS (lv_sub hl [1, 2, 3, 4, 5, 0] rfl)
        · have hf := (if_neg c_7).symm.trans hf
          exact K0  _ _ _ (Option.some.inj hf).symm hP hD hS (lv_sub hl [] rfl)
  have L13 : ∀ (Q : State → Prop) (v3 : Int32) (I : SI) (J : SJ) (o : Nat), (∀  (H : Heap) (locs : List Loc) (ls : Array Slot), o = 0 → va_P (dC, dI) vwCl ((wB ad cI cJ cT) I J) H → va_D A ((wB ad cI cJ cT) I J) → va_S A s.heap H locs → lv_has ls 6 [] → W p l e ({ frames := 2, cells := 0, slots := 0, locals := 45 } : Room) s m args below meth c H locs 0 0 Q (F0 m 61 ls [])) → (∀  (H : Heap) (locs : List Loc) (ls : Array Slot), o = 1 → va_P (dC, dI) vwCl ((wB ad cI cJ cT) I J) H → va_D A ((wB ad cI cJ cT) I J) → va_S A s.heap H locs → lv_has ls 6 [(0, .ref (ad (8 + x))), (1, .ref (ad (8 + y))), (2, .ref (ad 26)), (3, .int v3)] → W p l e ({ frames := 2, cells := 0, slots := 0, locals := 45 } : Room) s m args below meth c H locs 0 0 Q (F0 m 75 ls [])) → ∀ (n : Nat) (v4 : Int32) (H : Heap) (locs : List Loc) (ls : Array Slot), lp_X3_alike_13 x y v3 I n v4 = some o → va_P (dC, dI) vwCl ((wB ad cI cJ cT) I J) H → va_D A ((wB ad cI cJ cT) I J) → va_S A s.heap H locs → lv_has ls 6 [(0, .ref (ad (8 + x))), (1, .ref (ad (8 + y))), (2, .ref (ad 26)), (3, .int v3), (4, .int v4)] → W p l e ({ frames := 2, cells := 0, slots := 0, locals := 45 } : Room) s m args below meth c H locs 0 0 Q (F0 m 13 ls []) := by
    intro Q v3 I J o K0 K1 n
    clear hP hD hS hl
    induction n with
    | zero =>
      intro v4 H locs ls hf
      rw [lp_X3_alike_13.eq_1] at hf
      cases hf
    | succ n ih =>
      intro v4 H locs ls hf hP hD hS hl
      rw [lp_X3_alike_13.eq_2] at hf
      refine lv_iload hx hb dX3_alike_13 (lv_at hl 4 rfl) ?_
      refine lv_aload_n hx hb dX3_alike_15 rfl (lv_at hl 0 rfl) ?_
      refine va_get (D := (dC, dI)) (ci := 6) (v := .int (I (8 + x) 0)) (C := RX7) (T := TX7) (N := 2) hx hb hts in_X7 hown hK hP (8 + x) (((wBT ad cI cJ cT htx)).2.1 I J) rfl 1 (by decide) wd_0 (fun _ h9 => h9) rfl dX3_alike_16 ?_
      refine lv_icmp_ge (tgt := 75) hx hb dX3_alike_19 (by decide) (fun c_8 => ?_) (fun c_8 => ?_)
      · have hf := (if_pos c_8).symm.trans hf
        exact K1  _ _ _ (Option.some.inj hf).symm hP hD hS (lv_sub hl [0, 1, 2, 3] rfl)
      · have hf := (if_neg c_8).symm.trans hf
        refine lv_iconst (v := (0 : Int32)) hx hb dX3_alike_22 (by decide) ?_
        refine lv_istore (lv' := [(5, .int (0 : Int32)), (0, .ref (ad (8 + x))), (1, .ref (ad (8 + y))), (2, .ref (ad 26)), (3, .int v3), (4, .int v4)]) hx hb dX3_alike_23 hl (by decide) rfl (fun ls hl => ?_)
        obtain ⟨o_9, hg_9, hf⟩ := bd_some hf
        refine L25 _ v3 v4 I J o_9 ?_ ?_ FU (0 : Int32) _ _ _ hg_9 hP hD hS (lv_sub hl [1, 2, 3, 4, 5, 0] rfl)
        · intro  H locs ls ho hP hD hS hl
          subst o_9
          have hf := (if_pos (show 0 = 0 from rfl)).symm.trans hf
          exact K0  _ _ _ (Option.some.inj hf).symm hP hD hS (lv_sub hl [] rfl)
        · intro  H locs ls ho hP hD hS hl
          subst o_9
          have hf := (if_neg (show ¬ (1 = 0) by decide)).symm.trans hf
          refine lv_iinc (v := (v4 + (1 : Int32))) (lv' := [(4, .int (v4 + (1 : Int32))), (0, .ref (ad (8 + x))), (1, .ref (ad (8 + y))), (2, .ref (ad 26)), (3, .int v3)]) hx hb dX3_alike_69 hl (k := 4) rfl (by first | rfl | decide) (by decide) rfl (fun ls hl => ?_)
          refine lv_goto (tgt := 13) hx hb dX3_alike_72 (by decide) ?_
          exact ih _ _ _ _ hf hP hD hS (lv_sub hl [1, 2, 3, 4, 0] rfl)
  have L2 : ∀ (Q : State → Prop)  (I : SI) (J : SJ) (o : Nat), (∀  (H : Heap) (locs : List Loc) (ls : Array Slot), o = 0 → va_P (dC, dI) vwCl ((wB ad cI cJ cT) I J) H → va_D A ((wB ad cI cJ cT) I J) → va_S A s.heap H locs → lv_has ls 6 [] → W p l e ({ frames := 2, cells := 0, slots := 0, locals := 45 } : Room) s m args below meth c H locs 0 0 Q (F0 m 61 ls [])) → (∀  (H : Heap) (locs : List Loc) (ls : Array Slot), o = 1 → va_P (dC, dI) vwCl ((wB ad cI cJ cT) I J) H → va_D A ((wB ad cI cJ cT) I J) → va_S A s.heap H locs → lv_has ls 6 [] → W p l e ({ frames := 2, cells := 0, slots := 0, locals := 45 } : Room) s m args below meth c H locs 0 0 Q (F0 m 81 ls [])) → ∀ (n : Nat) (v3 : Int32) (H : Heap) (locs : List Loc) (ls : Array Slot), lp_X3_alike_2 x y I n v3 = some o → va_P (dC, dI) vwCl ((wB ad cI cJ cT) I J) H → va_D A ((wB ad cI cJ cT) I J) → va_S A s.heap H locs → lv_has ls 6 [(0, .ref (ad (8 + x))), (1, .ref (ad (8 + y))), (2, .ref (ad 26)), (3, .int v3)] → W p l e ({ frames := 2, cells := 0, slots := 0, locals := 45 } : Room) s m args below meth c H locs 0 0 Q (F0 m 2 ls []) := by
    intro Q  I J o K0 K1 n
    clear hP hD hS hl
    induction n with
    | zero =>
      intro v3 H locs ls hf
      rw [lp_X3_alike_2.eq_1] at hf
      cases hf
    | succ n ih =>
      intro v3 H locs ls hf hP hD hS hl
      rw [lp_X3_alike_2.eq_2] at hf
      refine lv_iload_n hx hb dX3_alike_2 rfl (lv_at hl 3 rfl) ?_
      refine lv_aload_n hx hb dX3_alike_3 rfl (lv_at hl 0 rfl) ?_
      refine va_get (D := (dC, dI)) (ci := 6) (v := .int (I (8 + x) 0)) (C := RX7) (T := TX7) (N := 2) hx hb hts in_X7 hown hK hP (8 + x) (((wBT ad cI cJ cT htx)).2.1 I J) rfl 1 (by decide) wd_0 (fun _ h9 => h9) rfl dX3_alike_4 ?_
      refine lv_icmp_ge (tgt := 81) hx hb dX3_alike_7 (by decide) (fun c_10 => ?_) (fun c_10 => ?_)
      · have hf := (if_pos c_10).symm.trans hf
        exact K1  _ _ _ (Option.some.inj hf).symm hP hD hS (lv_sub hl [] rfl)
      · have hf := (if_neg c_10).symm.trans hf
        refine lv_iconst (v := (0 : Int32)) hx hb dX3_alike_10 (by decide) ?_
        refine lv_istore (lv' := [(4, .int (0 : Int32)), (0, .ref (ad (8 + x))), (1, .ref (ad (8 + y))), (2, .ref (ad 26)), (3, .int v3)]) hx hb dX3_alike_11 hl (by decide) rfl (fun ls hl => ?_)
        obtain ⟨o_11, hg_11, hf⟩ := bd_some hf
        refine L13 _ v3 I J o_11 ?_ ?_ FU (0 : Int32) _ _ _ hg_11 hP hD hS (lv_sub hl [1, 2, 3, 4, 0] rfl)
        · intro  H locs ls ho hP hD hS hl
          subst o_11
          have hf := (if_pos (show 0 = 0 from rfl)).symm.trans hf
          exact K0  _ _ _ (Option.some.inj hf).symm hP hD hS (lv_sub hl [] rfl)
        · intro  H locs ls ho hP hD hS hl
          subst o_11
          have hf := (if_neg (show ¬ (1 = 0) by decide)).symm.trans hf
          refine lv_iinc (v := (v3 + (1 : Int32))) (lv' := [(3, .int (v3 + (1 : Int32))), (0, .ref (ad (8 + x))), (1, .ref (ad (8 + y))), (2, .ref (ad 26))]) hx hb dX3_alike_75 hl (k := 3) rfl (by first | rfl | decide) (by decide) rfl (fun ls hl => ?_)
          refine lv_goto (tgt := 2) hx hb dX3_alike_78 (by decide) ?_
          exact ih _ _ _ _ hf hP hD hS (lv_sub hl [1, 2, 3, 0] rfl)
  unfold f_X3_alike at hf
  refine lv_iconst (v := (0 : Int32)) hx hb dX3_alike_0 (by decide) ?_
  refine lv_istore_n (lv' := [(3, .int (0 : Int32)), (0, .ref (ad (8 + x))), (1, .ref (ad (8 + y))), (2, .ref (ad 26))]) hx hb dX3_alike_1 rfl hl (by decide) rfl (fun ls hl => ?_)
  obtain ⟨o_12, hg_12, hf⟩ := bd_some hf
  refine L2 _ I J o_12 ?_ ?_ FU (0 : Int32) _ _ _ hg_12 hP hD hS (lv_sub hl [1, 2, 3, 0] rfl)
  · intro  H locs ls ho hP hD hS hl
    subst o_12
    have hf := (if_pos (show 0 = 0 from rfl)).symm.trans hf
    refine lv_iconst (v := (0 : Int32)) hx hb dX3_alike_61 (by decide) ?_
    cases hf
    exact xRz hx hb hr hlocks rfl hK hP hD hS (fun _ h => h) dX3_alike_62
  · intro  H locs ls ho hP hD hS hl
    subst o_12
    have hf := (if_neg (show ¬ (1 = 0) by decide)).symm.trans hf
    refine lv_iconst (v := (1 : Int32)) hx hb dX3_alike_81 (by decide) ?_
    cases hf
    exact xRz hx hb hr hlocks rfl hK hP hD hS (fun _ h => h) dX3_alike_82
set_option maxHeartbeats 4000000 in
set_option maxRecDepth 100000 in
theorem c_X3_countFrom_1 (l : Launch) (dC : Nat → ClassId) (dI : Nat → Nat → Nat) (ad : Nat → Nat) (cI cJ cT : ClassId) (x : Nat) (htx : x < 8) (y : Nat) (hty : y < 8) (p3 : Int32) (p4 : Int32) (I : SI) (J : SJ) {r0 : Int32} {I0 : SI} (hf : f_X3_countFrom x y 1 p3 p4 I = some (r0, I0)) : CtI l yX3_countFrom wsX3_countFrom ({ frames := 3, cells := 0, slots := 0, locals := 70 } : Room) (dC, dI) (tys3 cI cJ cT) (wB ad cI cJ cT) [.ref (ad (8 + x)), .ref (ad (8 + y)), .ref (ad 26), .int p3, .int p4] I J r0 I0 J := by
  intro sz
  refine Met.ofW (cc := cX3_countFrom) (maxL := 7) (ret := (some .int)) (by decide) rfl ?_
  intro p e s m args below meth c s₁ B hml hv
  obtain ⟨hargs, hsz, hP, hK, hD0⟩ := hv
  have hx := B.exec
  have hb := B.bytes
  have hr := B.returns
  have hts := atoms_spec (ws := wsX3_countFrom) B.pre
  have hown : s.vm.findClass RX3 = some m.cls := findClass_of_methodNamed B.named
  have hlocks := B.notSynchronized
  subst hsz
  have hD := hD0.self (sz := s.heap.size)
  generalize hAe : va_A ((wB ad cI cJ cT) I J) s.heap.size = A at hD ⊢
  have hA : ∀ q : Nat, s.heap.size ≤ q → A q := fun q h => by rw [← hAe]; exact Or.inr h
  have hS : va_S A s.heap s.heap [] := va_S.rf
  have hl := lv_entry ([.ref (ad (8 + x)), .ref (ad (8 + y)), .ref (ad 26), .int p3, .int p4]) (n := 7) (Nat.le_of_ble_eq_true rfl)
  rw [hargs, lg_entry_eq, ← hargs]
  generalize (lg_sl ([.ref (ad (8 + x)), .ref (ad (8 + y)), .ref (ad 26), .int p3, .int p4]) ++ List.replicate (7 - (lg_sl ([.ref (ad (8 + x)), .ref (ad (8 + y)), .ref (ad 26), .int p3, .int p4])).length) Slot.unset).toArray = ls at hl ⊢
  have hl : lv_has ls 7 [(0, .ref (ad (8 + x))), (1, .ref (ad (8 + y))), (2, .ref (ad 26)), (3, .int p3), (4, .int p4)] := hl
  have hfix : CallFix p m c cX3_countFrom 7 s args wsX3_countFrom RX3 := ⟨hx, hb, hml, hown, hts⟩
  have in_X7 : ∀ w ∈ u_ws RX7 TX7 2, w ∈ wsX3_countFrom := by decide +kernel
  have wd_0 := hts (.fieldLink RX3 15 "FuseBench$Table" "kinds" "I") (by decide +kernel)
  have L29 : ∀ (Q : State → Prop) (v3 : Int32) (v4 : Int32) (J : SJ) (o : Int32 × SI), (∀ (w5 : Int32) (I : SI) (H : Heap) (locs : List Loc) (ls : Array Slot), o = (w5, I) → va_P (dC, dI) vwCl ((wB ad cI cJ cT) I J) H → va_D A ((wB ad cI cJ cT) I J) → va_S A s.heap H locs → lv_has ls 7 [(5, .int w5)] → W p l e ({ frames := 3, cells := 0, slots := 0, locals := 70 } : Room) s m args below meth c H locs 0 0 Q (F0 m 80 ls [])) → ∀ (n : Nat) (v5 : Int32) (v6 : Int32) (I : SI) (H : Heap) (locs : List Loc) (ls : Array Slot), lp_X3_countFrom_29 (f_X3_countFrom x y 0) x y v3 v4 n v5 v6 I = some o → va_P (dC, dI) vwCl ((wB ad cI cJ cT) I J) H → va_D A ((wB ad cI cJ cT) I J) → va_S A s.heap H locs → lv_has ls 7 [(0, .ref (ad (8 + x))), (1, .ref (ad (8 + y))), (2, .ref (ad 26)), (3, .int v3), (4, .int v4), (5, .int v5), (6, .int v6)] → W p l e ({ frames := 3, cells := 0, slots := 0, locals := 70 } : Room) s m args below meth c H locs 0 0 Q (F0 m 29 ls []) := by
    intro Q v3 v4 J o K0 n
    clear hP hD hS hl
    induction n with
    | zero =>
      intro v5 v6 I H locs ls hf
      rw [lp_X3_countFrom_29.eq_1] at hf
      cases hf
    | succ n ih =>
      intro v5 v6 I H locs ls hf hP hD hS hl
      rw [lp_X3_countFrom_29.eq_2] at hf
      refine lv_iload hx hb dX3_countFrom_29 (lv_at hl 6 rfl) ?_
      refine lv_aload_n hx hb dX3_countFrom_31 rfl (lv_at hl 0 rfl) ?_
      refine va_get (D := (dC, dI)) (ci := 6) (v := .int (I (8 + x) 0)) (C := RX7) (T := TX7) (N := 2) hx hb hts in_X7 hown hK hP (8 + x) (((wBT ad cI cJ cT htx)).2.1 I J) rfl 1 (by decide) wd_0 (fun _ h9 => h9) rfl dX3_countFrom_32 ?_
      refine lv_icmp_ge (tgt := 80) hx hb dX3_countFrom_35 (by decide) (fun c_1 => ?_) (fun c_1 => ?_)
      · have hf := (if_pos c_1).symm.trans hf
        exact K0 _ _ _ _ _ (Option.some.inj hf).symm hP hD hS (lv_sub hl [5] rfl)
      · have hf := (if_neg c_1).symm.trans hf
        refine lv_iload hx hb dX3_countFrom_38 (lv_at hl 4 rfl) ?_
        refine lv_iload hx hb dX3_countFrom_40 (lv_at hl 6 rfl) ?_
        refine lv_ishr hx hb dX3_countFrom_42 ?_
        refine lv_iconst (v := (1 : Int32)) hx hb dX3_countFrom_43 (by decide) ?_
        refine lv_iand hx hb dX3_countFrom_44 ?_
        refine lv_if_ne (tgt := 74) hx hb dX3_countFrom_45 (by decide) (fun c_2 => ?_) (fun c_2 => ?_)
        · have hf := (if_neg c_2).symm.trans hf
          refine lv_iinc (v := (v6 + (1 : Int32))) (lv' := [(6, .int (v6 + (1 : Int32))), (0, .ref (ad (8 + x))), (1, .ref (ad (8 + y))), (2, .ref (ad 26)), (3, .int v3), (4, .int v4), (5, .int v5)]) hx hb dX3_countFrom_74 hl (k := 6) rfl (by first | rfl | decide) (by decide) rfl (fun ls hl => ?_)
          refine lv_goto (tgt := 29) hx hb dX3_countFrom_77 (by decide) ?_
          exact ih _ _ _ _ _ _ hf hP hD hS (lv_sub hl [1, 2, 3, 4, 5, 6, 0] rfl)
        · have hf := (if_pos c_2).symm.trans hf
          refine lv_aload_n hx hb dX3_countFrom_48 rfl (lv_at hl 2 rfl) ?_
          refine lv_iload_n hx hb dX3_countFrom_49 rfl (lv_at hl 3 rfl) ?_
          refine lv_iload hx hb dX3_countFrom_50 (lv_at hl 6 rfl) ?_
          obtain ⟨h_3, hf⟩ := gd_some hf
          refine x_iast hx hb hK (aiB_26 ad cI cJ cT) hP hD hS h_3 dX3_countFrom_52 (fun H locs hP hD hS => ?_)
          refine lv_iload hx hb dX3_countFrom_53 (lv_at hl 5 rfl) ?_
          refine lv_aload_n hx hb dX3_countFrom_55 rfl (lv_at hl 0 rfl) ?_
          refine lv_aload_n hx hb dX3_countFrom_56 rfl (lv_at hl 1 rfl) ?_
          refine lv_aload_n hx hb dX3_countFrom_57 rfl (lv_at hl 2 rfl) ?_
          refine lv_iload_n hx hb dX3_countFrom_58 rfl (lv_at hl 3 rfl) ?_
          refine lv_iconst (v := (1 : Int32)) hx hb dX3_countFrom_59 (by decide) ?_
          refine lv_iadd hx hb dX3_countFrom_60 ?_
          refine lv_iload hx hb dX3_countFrom_61 (lv_at hl 4 rfl) ?_
          refine lv_iconst (v := (1 : Int32)) hx hb dX3_countFrom_63 (by decide) ?_
          refine lv_iload hx hb dX3_countFrom_64 (lv_at hl 6 rfl) ?_
          refine lv_ishl hx hb dX3_countFrom_66 ?_
          refine lv_ior hx hb dX3_countFrom_67 ?_
          obtain ⟨⟨r_4, I_4⟩, hg_4, hf⟩ := bd_some hf
          refine xSi (rest := [.int v5]) (c_X3_countFrom_0 l dC dI ad cI cJ cT x htx y hty (v3 + (1 : Int32)) (v4 ||| ((1 : Int32) <<< (v6 &&& 31))) (ups I 26 v3.toNatClampNeg v6) J hg_4) hfix (va_cwS 5 hts gX3_countFrom_X3_countFrom rfl rfl rfl (by decide +kernel) ⟨Nat.le_of_ble_eq_true rfl, Nat.le_of_ble_eq_true rfl⟩) hK hP hD hS hA rfl hl.1 rfl (Nat.le_of_ble_eq_true rfl) ⟨Nat.zero_le _, Nat.zero_le _⟩ dX3_countFrom_68 (fun H locs hP hD hS => ?_)
          refine lv_iadd hx hb dX3_countFrom_71 ?_
          refine lv_istore (lv' := [(5, .int (v5 + r_4)), (0, .ref (ad (8 + x))), (1, .ref (ad (8 + y))), (2, .ref (ad 26)), (3, .int v3), (4, .int v4), (6, .int v6)]) hx hb dX3_countFrom_72 hl (by decide) rfl (fun ls hl => ?_)
          refine lv_iinc (v := (v6 + (1 : Int32))) (lv' := [(6, .int (v6 + (1 : Int32))), (5, .int (v5 + r_4)), (0, .ref (ad (8 + x))), (1, .ref (ad (8 + y))), (2, .ref (ad 26)), (3, .int v3), (4, .int v4)]) hx hb dX3_countFrom_74 hl (k := 6) rfl (by first | rfl | decide) (by decide) rfl (fun ls hl => ?_)
          refine lv_goto (tgt := 29) hx hb dX3_countFrom_77 (by decide) ?_
          exact ih _ _ _ _ _ _ hf hP hD hS (lv_sub hl [2, 3, 4, 5, 6, 1, 0] rfl)
  rw [f_X3_countFrom.eq_2] at hf
  refine lv_iload_n hx hb dX3_countFrom_0 rfl (lv_at hl 3 rfl) ?_
  refine lv_aload_n hx hb dX3_countFrom_1 rfl (lv_at hl 0 rfl) ?_
  refine va_get (D := (dC, dI)) (ci := 6) (v := .int (I (8 + x) 0)) (C := RX7) (T := TX7) (N := 2) hx hb hts in_X7 hown hK hP (8 + x) (((wBT ad cI cJ cT htx)).2.1 I J) rfl 1 (by decide) wd_0 (fun _ h9 => h9) rfl dX3_countFrom_2 ?_
  refine lv_icmp_lt (tgt := 23) hx hb dX3_countFrom_5 (by decide) (fun c_5 => ?_) (fun c_5 => ?_)
  · have hf := (if_pos c_5).symm.trans hf
    refine lv_iconst (v := (0 : Int32)) hx hb dX3_countFrom_23 (by decide) ?_
    refine lv_istore (lv' := [(5, .int (0 : Int32)), (0, .ref (ad (8 + x))), (1, .ref (ad (8 + y))), (2, .ref (ad 26)), (3, .int p3), (4, .int p4)]) hx hb dX3_countFrom_24 hl (by decide) rfl (fun ls hl => ?_)
    refine lv_iconst (v := (1 : Int32)) hx hb dX3_countFrom_26 (by decide) ?_
    refine lv_istore (lv' := [(6, .int (1 : Int32)), (5, .int (0 : Int32)), (0, .ref (ad (8 + x))), (1, .ref (ad (8 + y))), (2, .ref (ad 26)), (3, .int p3), (4, .int p4)]) hx hb dX3_countFrom_27 hl (by decide) rfl (fun ls hl => ?_)
    obtain ⟨o_6, hg_6, hf⟩ := bd_some hf
    refine L29 _ p3 p4 J o_6 ?_ FU (0 : Int32) (1 : Int32) I _ _ _ hg_6 hP hD hS (lv_sub hl [2, 3, 4, 5, 6, 1, 0] rfl)
    · intro w5_6 I_6 H locs ls ho hP hD hS hl
      subst o_6
      refine lv_iload hx hb dX3_countFrom_80 (lv_at hl 0 rfl) ?_
      cases hf
      exact xRi hx hb hr hlocks hK hP hD hS (fun _ h => h) dX3_countFrom_82
  · have hf := (if_neg c_5).symm.trans hf
    refine lv_aload_n hx hb dX3_countFrom_8 rfl (lv_at hl 0 rfl) ?_
    refine lv_aload_n hx hb dX3_countFrom_9 rfl (lv_at hl 1 rfl) ?_
    refine lv_aload_n hx hb dX3_countFrom_10 rfl (lv_at hl 2 rfl) ?_
    obtain ⟨r_7, hg_7, hf⟩ := bd_some hf
    refine xSi (rest := []) (c_X3_alike l dC dI ad cI cJ cT x htx y hty I J hg_7) hfix (va_cwS 3 hts gX3_countFrom_X3_alike rfl rfl rfl (by decide +kernel) ⟨Nat.le_of_ble_eq_true rfl, Nat.le_of_ble_eq_true rfl⟩) hK hP hD hS hA rfl hl.1 rfl (Nat.le_of_ble_eq_true rfl) ⟨Nat.zero_le _, Nat.zero_le _⟩ dX3_countFrom_11 (fun H locs hP hD hS => ?_)
    refine lv_if_eq (tgt := 21) hx hb dX3_countFrom_14 (by decide) (fun c_8 => ?_) (fun c_8 => ?_)
    · have hf := (if_pos c_8).symm.trans hf
      refine lv_iconst (v := (0 : Int32)) hx hb dX3_countFrom_21 (by decide) ?_
      cases hf
      exact xRi hx hb hr hlocks hK hP hD hS (fun _ h => h) dX3_countFrom_22
    · have hf := (if_neg c_8).symm.trans hf
      refine lv_iconst (v := (1 : Int32)) hx hb dX3_countFrom_17 (by decide) ?_
      refine lv_goto (tgt := 22) hx hb dX3_countFrom_18 (by decide) ?_
      cases hf
      exact xRi hx hb hr hlocks hK hP hD hS (fun _ h => h) dX3_countFrom_22
set_option maxHeartbeats 4000000 in
set_option maxRecDepth 100000 in
theorem c_X3_countFrom_2 (l : Launch) (dC : Nat → ClassId) (dI : Nat → Nat → Nat) (ad : Nat → Nat) (cI cJ cT : ClassId) (x : Nat) (htx : x < 8) (y : Nat) (hty : y < 8) (p3 : Int32) (p4 : Int32) (I : SI) (J : SJ) {r0 : Int32} {I0 : SI} (hf : f_X3_countFrom x y 2 p3 p4 I = some (r0, I0)) : CtI l yX3_countFrom wsX3_countFrom ({ frames := 4, cells := 0, slots := 0, locals := 96 } : Room) (dC, dI) (tys3 cI cJ cT) (wB ad cI cJ cT) [.ref (ad (8 + x)), .ref (ad (8 + y)), .ref (ad 26), .int p3, .int p4] I J r0 I0 J := by
  intro sz
  refine Met.ofW (cc := cX3_countFrom) (maxL := 7) (ret := (some .int)) (by decide) rfl ?_
  intro p e s m args below meth c s₁ B hml hv
  obtain ⟨hargs, hsz, hP, hK, hD0⟩ := hv
  have hx := B.exec
  have hb := B.bytes
  have hr := B.returns
  have hts := atoms_spec (ws := wsX3_countFrom) B.pre
  have hown : s.vm.findClass RX3 = some m.cls := findClass_of_methodNamed B.named
  have hlocks := B.notSynchronized
  subst hsz
  have hD := hD0.self (sz := s.heap.size)
  generalize hAe : va_A ((wB ad cI cJ cT) I J) s.heap.size = A at hD ⊢
  have hA : ∀ q : Nat, s.heap.size ≤ q → A q := fun q h => by rw [← hAe]; exact Or.inr h
  have hS : va_S A s.heap s.heap [] := va_S.rf
  have hl := lv_entry ([.ref (ad (8 + x)), .ref (ad (8 + y)), .ref (ad 26), .int p3, .int p4]) (n := 7) (Nat.le_of_ble_eq_true rfl)
  rw [hargs, lg_entry_eq, ← hargs]
  generalize (lg_sl ([.ref (ad (8 + x)), .ref (ad (8 + y)), .ref (ad 26), .int p3, .int p4]) ++ List.replicate (7 - (lg_sl ([.ref (ad (8 + x)), .ref (ad (8 + y)), .ref (ad 26), .int p3, .int p4])).length) Slot.unset).toArray = ls at hl ⊢
  have hl : lv_has ls 7 [(0, .ref (ad (8 + x))), (1, .ref (ad (8 + y))), (2, .ref (ad 26)), (3, .int p3), (4, .int p4)] := hl
  have hfix : CallFix p m c cX3_countFrom 7 s args wsX3_countFrom RX3 := ⟨hx, hb, hml, hown, hts⟩
  have in_X7 : ∀ w ∈ u_ws RX7 TX7 2, w ∈ wsX3_countFrom := by decide +kernel
  have wd_0 := hts (.fieldLink RX3 15 "FuseBench$Table" "kinds" "I") (by decide +kernel)
  have L29 : ∀ (Q : State → Prop) (v3 : Int32) (v4 : Int32) (J : SJ) (o : Int32 × SI), (∀ (w5 : Int32) (I : SI) (H : Heap) (locs : List Loc) (ls : Array Slot), o = (w5, I) → va_P (dC, dI) vwCl ((wB ad cI cJ cT) I J) H → va_D A ((wB ad cI cJ cT) I J) → va_S A s.heap H locs → lv_has ls 7 [(5, .int w5)] → W p l e ({ frames := 4, cells := 0, slots := 0, locals := 96 } : Room) s m args below meth c H locs 0 0 Q (F0 m 80 ls [])) → ∀ (n : Nat) (v5 : Int32) (v6 : Int32) (I : SI) (H : Heap) (locs : List Loc) (ls : Array Slot), lp_X3_countFrom_29 (f_X3_countFrom x y 1) x y v3 v4 n v5 v6 I = some o → va_P (dC, dI) vwCl ((wB ad cI cJ cT) I J) H → va_D A ((wB ad cI cJ cT) I J) → va_S A s.heap H locs → lv_has ls 7 [(0, .ref (ad (8 + x))), (1, .ref (ad (8 + y))), (2, .ref (ad 26)), (3, .int v3), (4, .int v4), (5, .int v5), (6, .int v6)] → W p l e ({ frames := 4, cells := 0, slots := 0, locals := 96 } : Room) s m args below meth c H locs 0 0 Q (F0 m 29 ls []) := by
    intro Q v3 v4 J o K0 n
    clear hP hD hS hl
    induction n with
    | zero =>
      intro v5 v6 I H locs ls hf
      rw [lp_X3_countFrom_29.eq_1] at hf
      cases hf
    | succ n ih =>
      intro v5 v6 I H locs ls hf hP hD hS hl
      rw [lp_X3_countFrom_29.eq_2] at hf
      refine lv_iload hx hb dX3_countFrom_29 (lv_at hl 6 rfl) ?_
      refine lv_aload_n hx hb dX3_countFrom_31 rfl (lv_at hl 0 rfl) ?_
      refine va_get (D := (dC, dI)) (ci := 6) (v := .int (I (8 + x) 0)) (C := RX7) (T := TX7) (N := 2) hx hb hts in_X7 hown hK hP (8 + x) (((wBT ad cI cJ cT htx)).2.1 I J) rfl 1 (by decide) wd_0 (fun _ h9 => h9) rfl dX3_countFrom_32 ?_
      refine lv_icmp_ge (tgt := 80) hx hb dX3_countFrom_35 (by decide) (fun c_1 => ?_) (fun c_1 => ?_)
      · have hf := (if_pos c_1).symm.trans hf
        exact K0 _ _ _ _ _ (Option.some.inj hf).symm hP hD hS (lv_sub hl [5] rfl)
      · have hf := (if_neg c_1).symm.trans hf
        refine lv_iload hx hb dX3_countFrom_38 (lv_at hl 4 rfl) ?_
        refine lv_iload hx hb dX3_countFrom_40 (lv_at hl 6 rfl) ?_
        refine lv_ishr hx hb dX3_countFrom_42 ?_
        refine lv_iconst (v := (1 : Int32)) hx hb dX3_countFrom_43 (by decide) ?_
        refine lv_iand hx hb dX3_countFrom_44 ?_
        refine lv_if_ne (tgt := 74) hx hb dX3_countFrom_45 (by decide) (fun c_2 => ?_) (fun c_2 => ?_)
        · have hf := (if_neg c_2).symm.trans hf
          refine lv_iinc (v := (v6 + (1 : Int32))) (lv' := [(6, .int (v6 + (1 : Int32))), (0, .ref (ad (8 + x))), (1, .ref (ad (8 + y))), (2, .ref (ad 26)), (3, .int v3), (4, .int v4), (5, .int v5)]) hx hb dX3_countFrom_74 hl (k := 6) rfl (by first | rfl | decide) (by decide) rfl (fun ls hl => ?_)
          refine lv_goto (tgt := 29) hx hb dX3_countFrom_77 (by decide) ?_
          exact ih _ _ _ _ _ _ hf hP hD hS (lv_sub hl [1, 2, 3, 4, 5, 6, 0] rfl)
        · have hf := (if_pos c_2).symm.trans hf
          refine lv_aload_n hx hb dX3_countFrom_48 rfl (lv_at hl 2 rfl) ?_
          refine lv_iload_n hx hb dX3_countFrom_49 rfl (lv_at hl 3 rfl) ?_
          refine lv_iload hx hb dX3_countFrom_50 (lv_at hl 6 rfl) ?_
          obtain ⟨h_3, hf⟩ := gd_some hf
          refine x_iast hx hb hK (aiB_26 ad cI cJ cT) hP hD hS h_3 dX3_countFrom_52 (fun H locs hP hD hS => ?_)
          refine lv_iload hx hb dX3_countFrom_53 (lv_at hl 5 rfl) ?_
          refine lv_aload_n hx hb dX3_countFrom_55 rfl (lv_at hl 0 rfl) ?_
          refine lv_aload_n hx hb dX3_countFrom_56 rfl (lv_at hl 1 rfl) ?_
          refine lv_aload_n hx hb dX3_countFrom_57 rfl (lv_at hl 2 rfl) ?_
          refine lv_iload_n hx hb dX3_countFrom_58 rfl (lv_at hl 3 rfl) ?_
          refine lv_iconst (v := (1 : Int32)) hx hb dX3_countFrom_59 (by decide) ?_
          refine lv_iadd hx hb dX3_countFrom_60 ?_
          refine lv_iload hx hb dX3_countFrom_61 (lv_at hl 4 rfl) ?_
          refine lv_iconst (v := (1 : Int32)) hx hb dX3_countFrom_63 (by decide) ?_
          refine lv_iload hx hb dX3_countFrom_64 (lv_at hl 6 rfl) ?_
          refine lv_ishl hx hb dX3_countFrom_66 ?_
          refine lv_ior hx hb dX3_countFrom_67 ?_
          obtain ⟨⟨r_4, I_4⟩, hg_4, hf⟩ := bd_some hf
          refine xSi (rest := [.int v5]) (c_X3_countFrom_1 l dC dI ad cI cJ cT x htx y hty (v3 + (1 : Int32)) (v4 ||| ((1 : Int32) <<< (v6 &&& 31))) (ups I 26 v3.toNatClampNeg v6) J hg_4) hfix (va_cwS 5 hts gX3_countFrom_X3_countFrom rfl rfl rfl (by decide +kernel) ⟨Nat.le_of_ble_eq_true rfl, Nat.le_of_ble_eq_true rfl⟩) hK hP hD hS hA rfl hl.1 rfl (Nat.le_of_ble_eq_true rfl) ⟨Nat.zero_le _, Nat.zero_le _⟩ dX3_countFrom_68 (fun H locs hP hD hS => ?_)
          refine lv_iadd hx hb dX3_countFrom_71 ?_
          refine lv_istore (lv' := [(5, .int (v5 + r_4)), (0, .ref (ad (8 + x))), (1, .ref (ad (8 + y))), (2, .ref (ad 26)), (3, .int v3), (4, .int v4), (6, .int v6)]) hx hb dX3_countFrom_72 hl (by decide) rfl (fun ls hl => ?_)
          refine lv_iinc (v := (v6 + (1 : Int32))) (lv' := [(6, .int (v6 + (1 : Int32))), (5, .int (v5 + r_4)), (0, .ref (ad (8 + x))), (1, .ref (ad (8 + y))), (2, .ref (ad 26)), (3, .int v3), (4, .int v4)]) hx hb dX3_countFrom_74 hl (k := 6) rfl (by first | rfl | decide) (by decide) rfl (fun ls hl => ?_)
          refine lv_goto (tgt := 29) hx hb dX3_countFrom_77 (by decide) ?_
          exact ih _ _ _ _ _ _ hf hP hD hS (lv_sub hl [2, 3, 4, 5, 6, 1, 0] rfl)
  rw [f_X3_countFrom.eq_2] at hf
  refine lv_iload_n hx hb dX3_countFrom_0 rfl (lv_at hl 3 rfl) ?_
  refine lv_aload_n hx hb dX3_countFrom_1 rfl (lv_at hl 0 rfl) ?_
  refine va_get (D := (dC, dI)) (ci := 6) (v := .int (I (8 + x) 0)) (C := RX7) (T := TX7) (N := 2) hx hb hts in_X7 hown hK hP (8 + x) (((wBT ad cI cJ cT htx)).2.1 I J) rfl 1 (by decide) wd_0 (fun _ h9 => h9) rfl dX3_countFrom_2 ?_
  refine lv_icmp_lt (tgt := 23) hx hb dX3_countFrom_5 (by decide) (fun c_5 => ?_) (fun c_5 => ?_)
  · have hf := (if_pos c_5).symm.trans hf
    refine lv_iconst (v := (0 : Int32)) hx hb dX3_countFrom_23 (by decide) ?_
    refine lv_istore (lv' := [(5, .int (0 : Int32)), (0, .ref (ad (8 + x))), (1, .ref (ad (8 + y))), (2, .ref (ad 26)), (3, .int p3), (4, .int p4)]) hx hb dX3_countFrom_24 hl (by decide) rfl (fun ls hl => ?_)
    refine lv_iconst (v := (1 : Int32)) hx hb dX3_countFrom_26 (by decide) ?_
    refine lv_istore (lv' := [(6, .int (1 : Int32)), (5, .int (0 : Int32)), (0, .ref (ad (8 + x))), (1, .ref (ad (8 + y))), (2, .ref (ad 26)), (3, .int p3), (4, .int p4)]) hx hb dX3_countFrom_27 hl (by decide) rfl (fun ls hl => ?_)
    obtain ⟨o_6, hg_6, hf⟩ := bd_some hf
    refine L29 _ p3 p4 J o_6 ?_ FU (0 : Int32) (1 : Int32) I _ _ _ hg_6 hP hD hS (lv_sub hl [2, 3, 4, 5, 6, 1, 0] rfl)
    · intro w5_6 I_6 H locs ls ho hP hD hS hl
      subst o_6
      refine lv_iload hx hb dX3_countFrom_80 (lv_at hl 0 rfl) ?_
      cases hf
      exact xRi hx hb hr hlocks hK hP hD hS (fun _ h => h) dX3_countFrom_82
  · have hf := (if_neg c_5).symm.trans hf
    refine lv_aload_n hx hb dX3_countFrom_8 rfl (lv_at hl 0 rfl) ?_
    refine lv_aload_n hx hb dX3_countFrom_9 rfl (lv_at hl 1 rfl) ?_
    refine lv_aload_n hx hb dX3_countFrom_10 rfl (lv_at hl 2 rfl) ?_
    obtain ⟨r_7, hg_7, hf⟩ := bd_some hf
    refine xSi (rest := []) (c_X3_alike l dC dI ad cI cJ cT x htx y hty I J hg_7) hfix (va_cwS 3 hts gX3_countFrom_X3_alike rfl rfl rfl (by decide +kernel) ⟨Nat.le_of_ble_eq_true rfl, Nat.le_of_ble_eq_true rfl⟩) hK hP hD hS hA rfl hl.1 rfl (Nat.le_of_ble_eq_true rfl) ⟨Nat.zero_le _, Nat.zero_le _⟩ dX3_countFrom_11 (fun H locs hP hD hS => ?_)
    refine lv_if_eq (tgt := 21) hx hb dX3_countFrom_14 (by decide) (fun c_8 => ?_) (fun c_8 => ?_)
    · have hf := (if_pos c_8).symm.trans hf
      refine lv_iconst (v := (0 : Int32)) hx hb dX3_countFrom_21 (by decide) ?_
      cases hf
      exact xRi hx hb hr hlocks hK hP hD hS (fun _ h => h) dX3_countFrom_22
    · have hf := (if_neg c_8).symm.trans hf
      refine lv_iconst (v := (1 : Int32)) hx hb dX3_countFrom_17 (by decide) ?_
      refine lv_goto (tgt := 22) hx hb dX3_countFrom_18 (by decide) ?_
      cases hf
      exact xRi hx hb hr hlocks hK hP hD hS (fun _ h => h) dX3_countFrom_22
set_option maxHeartbeats 4000000 in
set_option maxRecDepth 100000 in
theorem c_X3_countFrom_3 (l : Launch) (dC : Nat → ClassId) (dI : Nat → Nat → Nat) (ad : Nat → Nat) (cI cJ cT : ClassId) (x : Nat) (htx : x < 8) (y : Nat) (hty : y < 8) (p3 : Int32) (p4 : Int32) (I : SI) (J : SJ) {r0 : Int32} {I0 : SI} (hf : f_X3_countFrom x y 3 p3 p4 I = some (r0, I0)) : CtI l yX3_countFrom wsX3_countFrom ({ frames := 5, cells := 0, slots := 0, locals := 122 } : Room) (dC, dI) (tys3 cI cJ cT) (wB ad cI cJ cT) [.ref (ad (8 + x)), .ref (ad (8 + y)), .ref (ad 26), .int p3, .int p4] I J r0 I0 J := by
  intro sz
  refine Met.ofW (cc := cX3_countFrom) (maxL := 7) (ret := (some .int)) (by decide) rfl ?_
  intro p e s m args below meth c s₁ B hml hv
  obtain ⟨hargs, hsz, hP, hK, hD0⟩ := hv
  have hx := B.exec
  have hb := B.bytes
  have hr := B.returns
  have hts := atoms_spec (ws := wsX3_countFrom) B.pre
  have hown : s.vm.findClass RX3 = some m.cls := findClass_of_methodNamed B.named
  have hlocks := B.notSynchronized
  subst hsz
  have hD := hD0.self (sz := s.heap.size)
  generalize hAe : va_A ((wB ad cI cJ cT) I J) s.heap.size = A at hD ⊢
  have hA : ∀ q : Nat, s.heap.size ≤ q → A q := fun q h => by rw [← hAe]; exact Or.inr h
  have hS : va_S A s.heap s.heap [] := va_S.rf
  have hl := lv_entry ([.ref (ad (8 + x)), .ref (ad (8 + y)), .ref (ad 26), .int p3, .int p4]) (n := 7) (Nat.le_of_ble_eq_true rfl)
  rw [hargs, lg_entry_eq, ← hargs]
  generalize (lg_sl ([.ref (ad (8 + x)), .ref (ad (8 + y)), .ref (ad 26), .int p3, .int p4]) ++ List.replicate (7 - (lg_sl ([.ref (ad (8 + x)), .ref (ad (8 + y)), .ref (ad 26), .int p3, .int p4])).length) Slot.unset).toArray = ls at hl ⊢
  have hl : lv_has ls 7 [(0, .ref (ad (8 + x))), (1, .ref (ad (8 + y))), (2, .ref (ad 26)), (3, .int p3), (4, .int p4)] := hl
  have hfix : CallFix p m c cX3_countFrom 7 s args wsX3_countFrom RX3 := ⟨hx, hb, hml, hown, hts⟩
  have in_X7 : ∀ w ∈ u_ws RX7 TX7 2, w ∈ wsX3_countFrom := by decide +kernel
  have wd_0 := hts (.fieldLink RX3 15 "FuseBench$Table" "kinds" "I") (by decide +kernel)
  have L29 : ∀ (Q : State → Prop) (v3 : Int32) (v4 : Int32) (J : SJ) (o : Int32 × SI), (∀ (w5 : Int32) (I : SI) (H : Heap) (locs : List Loc) (ls : Array Slot), o = (w5, I) → va_P (dC, dI) vwCl ((wB ad cI cJ cT) I J) H → va_D A ((wB ad cI cJ cT) I J) → va_S A s.heap H locs → lv_has ls 7 [(5, .int w5)] → W p l e ({ frames := 5, cells := 0, slots := 0, locals := 122 } : Room) s m args below meth c H locs 0 0 Q (F0 m 80 ls [])) → ∀ (n : Nat) (v5 : Int32) (v6 : Int32) (I : SI) (H : Heap) (locs : List Loc) (ls : Array Slot), lp_X3_countFrom_29 (f_X3_countFrom x y 2) x y v3 v4 n v5 v6 I = some o → va_P (dC, dI) vwCl ((wB ad cI cJ cT) I J) H → va_D A ((wB ad cI cJ cT) I J) → va_S A s.heap H locs → lv_has ls 7 [(0, .ref (ad (8 + x))), (1, .ref (ad (8 + y))), (2, .ref (ad 26)), (3, .int v3), (4, .int v4), (5, .int v5), (6, .int v6)] → W p l e ({ frames := 5, cells := 0, slots := 0, locals := 122 } : Room) s m args below meth c H locs 0 0 Q (F0 m 29 ls []) := by
    intro Q v3 v4 J o K0 n
    clear hP hD hS hl
    induction n with
    | zero =>
      intro v5 v6 I H locs ls hf
      rw [lp_X3_countFrom_29.eq_1] at hf
      cases hf
    | succ n ih =>
      intro v5 v6 I H locs ls hf hP hD hS hl
      rw [lp_X3_countFrom_29.eq_2] at hf
      refine lv_iload hx hb dX3_countFrom_29 (lv_at hl 6 rfl) ?_
      refine lv_aload_n hx hb dX3_countFrom_31 rfl (lv_at hl 0 rfl) ?_
      refine va_get (D := (dC, dI)) (ci := 6) (v := .int (I (8 + x) 0)) (C := RX7) (T := TX7) (N := 2) hx hb hts in_X7 hown hK hP (8 + x) (((wBT ad cI cJ cT htx)).2.1 I J) rfl 1 (by decide) wd_0 (fun _ h9 => h9) rfl dX3_countFrom_32 ?_
      refine lv_icmp_ge (tgt := 80) hx hb dX3_countFrom_35 (by decide) (fun c_1 => ?_) (fun c_1 => ?_)
      · have hf := (if_pos c_1).symm.trans hf
        exact K0 _ _ _ _ _ (Option.some.inj hf).symm hP hD hS (lv_sub hl [5] rfl)
      · have hf := (if_neg c_1).symm.trans hf
        refine lv_iload hx hb dX3_countFrom_38 (lv_at hl 4 rfl) ?_
        refine lv_iload hx hb dX3_countFrom_40 (lv_at hl 6 rfl) ?_
        refine lv_ishr hx hb dX3_countFrom_42 ?_
        refine lv_iconst (v := (1 : Int32)) hx hb dX3_countFrom_43 (by decide) ?_
        refine lv_iand hx hb dX3_countFrom_44 ?_
        refine lv_if_ne (tgt := 74) hx hb dX3_countFrom_45 (by decide) (fun c_2 => ?_) (fun c_2 => ?_)
        · have hf := (if_neg c_2).symm.trans hf
          refine lv_iinc (v := (v6 + (1 : Int32))) (lv' := [(6, .int (v6 + (1 : Int32))), (0, .ref (ad (8 + x))), (1, .ref (ad (8 + y))), (2, .ref (ad 26)), (3, .int v3), (4, .int v4), (5, .int v5)]) hx hb dX3_countFrom_74 hl (k := 6) rfl (by first | rfl | decide) (by decide) rfl (fun ls hl => ?_)
          refine lv_goto (tgt := 29) hx hb dX3_countFrom_77 (by decide) ?_
          exact ih _ _ _ _ _ _ hf hP hD hS (lv_sub hl [1, 2, 3, 4, 5, 6, 0] rfl)
        · have hf := (if_pos c_2).symm.trans hf
          refine lv_aload_n hx hb dX3_countFrom_48 rfl (lv_at hl 2 rfl) ?_
          refine lv_iload_n hx hb dX3_countFrom_49 rfl (lv_at hl 3 rfl) ?_
          refine lv_iload hx hb dX3_countFrom_50 (lv_at hl 6 rfl) ?_
          obtain ⟨h_3, hf⟩ := gd_some hf
          refine x_iast hx hb hK (aiB_26 ad cI cJ cT) hP hD hS h_3 dX3_countFrom_52 (fun H locs hP hD hS => ?_)
          refine lv_iload hx hb dX3_countFrom_53 (lv_at hl 5 rfl) ?_
          refine lv_aload_n hx hb dX3_countFrom_55 rfl (lv_at hl 0 rfl) ?_
          refine lv_aload_n hx hb dX3_countFrom_56 rfl (lv_at hl 1 rfl) ?_
          refine lv_aload_n hx hb dX3_countFrom_57 rfl (lv_at hl 2 rfl) ?_
          refine lv_iload_n hx hb dX3_countFrom_58 rfl (lv_at hl 3 rfl) ?_
          refine lv_iconst (v := (1 : Int32)) hx hb dX3_countFrom_59 (by decide) ?_
          refine lv_iadd hx hb dX3_countFrom_60 ?_
          refine lv_iload hx hb dX3_countFrom_61 (lv_at hl 4 rfl) ?_
          refine lv_iconst (v := (1 : Int32)) hx hb dX3_countFrom_63 (by decide) ?_
          refine lv_iload hx hb dX3_countFrom_64 (lv_at hl 6 rfl) ?_
          refine lv_ishl hx hb dX3_countFrom_66 ?_
          refine lv_ior hx hb dX3_countFrom_67 ?_
          obtain ⟨⟨r_4, I_4⟩, hg_4, hf⟩ := bd_some hf
          refine xSi (rest := [.int v5]) (c_X3_countFrom_2 l dC dI ad cI cJ cT x htx y hty (v3 + (1 : Int32)) (v4 ||| ((1 : Int32) <<< (v6 &&& 31))) (ups I 26 v3.toNatClampNeg v6) J hg_4) hfix (va_cwS 5 hts gX3_countFrom_X3_countFrom rfl rfl rfl (by decide +kernel) ⟨Nat.le_of_ble_eq_true rfl, Nat.le_of_ble_eq_true rfl⟩) hK hP hD hS hA rfl hl.1 rfl (Nat.le_of_ble_eq_true rfl) ⟨Nat.zero_le _, Nat.zero_le _⟩ dX3_countFrom_68 (fun H locs hP hD hS => ?_)
          refine lv_iadd hx hb dX3_countFrom_71 ?_
          refine lv_istore (lv' := [(5, .int (v5 + r_4)), (0, .ref (ad (8 + x))), (1, .ref (ad (8 + y))), (2, .ref (ad 26)), (3, .int v3), (4, .int v4), (6, .int v6)]) hx hb dX3_countFrom_72 hl (by decide) rfl (fun ls hl => ?_)
          refine lv_iinc (v := (v6 + (1 : Int32))) (lv' := [(6, .int (v6 + (1 : Int32))), (5, .int (v5 + r_4)), (0, .ref (ad (8 + x))), (1, .ref (ad (8 + y))), (2, .ref (ad 26)), (3, .int v3), (4, .int v4)]) hx hb dX3_countFrom_74 hl (k := 6) rfl (by first | rfl | decide) (by decide) rfl (fun ls hl => ?_)
          refine lv_goto (tgt := 29) hx hb dX3_countFrom_77 (by decide) ?_
          exact ih _ _ _ _ _ _ hf hP hD hS (lv_sub hl [2, 3, 4, 5, 6, 1, 0] rfl)
  rw [f_X3_countFrom.eq_2] at hf
  refine lv_iload_n hx hb dX3_countFrom_0 rfl (lv_at hl 3 rfl) ?_
  refine lv_aload_n hx hb dX3_countFrom_1 rfl (lv_at hl 0 rfl) ?_
  refine va_get (D := (dC, dI)) (ci := 6) (v := .int (I (8 + x) 0)) (C := RX7) (T := TX7) (N := 2) hx hb hts in_X7 hown hK hP (8 + x) (((wBT ad cI cJ cT htx)).2.1 I J) rfl 1 (by decide) wd_0 (fun _ h9 => h9) rfl dX3_countFrom_2 ?_
  refine lv_icmp_lt (tgt := 23) hx hb dX3_countFrom_5 (by decide) (fun c_5 => ?_) (fun c_5 => ?_)
  · have hf := (if_pos c_5).symm.trans hf
    refine lv_iconst (v := (0 : Int32)) hx hb dX3_countFrom_23 (by decide) ?_
    refine lv_istore (lv' := [(5, .int (0 : Int32)), (0, .ref (ad (8 + x))), (1, .ref (ad (8 + y))), (2, .ref (ad 26)), (3, .int p3), (4, .int p4)]) hx hb dX3_countFrom_24 hl (by decide) rfl (fun ls hl => ?_)
    refine lv_iconst (v := (1 : Int32)) hx hb dX3_countFrom_26 (by decide) ?_
    refine lv_istore (lv' := [(6, .int (1 : Int32)), (5, .int (0 : Int32)), (0, .ref (ad (8 + x))), (1, .ref (ad (8 + y))), (2, .ref (ad 26)), (3, .int p3), (4, .int p4)]) hx hb dX3_countFrom_27 hl (by decide) rfl (fun ls hl => ?_)
    obtain ⟨o_6, hg_6, hf⟩ := bd_some hf
    refine L29 _ p3 p4 J o_6 ?_ FU (0 : Int32) (1 : Int32) I _ _ _ hg_6 hP hD hS (lv_sub hl [2, 3, 4, 5, 6, 1, 0] rfl)
    · intro w5_6 I_6 H locs ls ho hP hD hS hl
      subst o_6
      refine lv_iload hx hb dX3_countFrom_80 (lv_at hl 0 rfl) ?_
      cases hf
      exact xRi hx hb hr hlocks hK hP hD hS (fun _ h => h) dX3_countFrom_82
  · have hf := (if_neg c_5).symm.trans hf
    refine lv_aload_n hx hb dX3_countFrom_8 rfl (lv_at hl 0 rfl) ?_
    refine lv_aload_n hx hb dX3_countFrom_9 rfl (lv_at hl 1 rfl) ?_
    refine lv_aload_n hx hb dX3_countFrom_10 rfl (lv_at hl 2 rfl) ?_
    obtain ⟨r_7, hg_7, hf⟩ := bd_some hf
    refine xSi (rest := []) (c_X3_alike l dC dI ad cI cJ cT x htx y hty I J hg_7) hfix (va_cwS 3 hts gX3_countFrom_X3_alike rfl rfl rfl (by decide +kernel) ⟨Nat.le_of_ble_eq_true rfl, Nat.le_of_ble_eq_true rfl⟩) hK hP hD hS hA rfl hl.1 rfl (Nat.le_of_ble_eq_true rfl) ⟨Nat.zero_le _, Nat.zero_le _⟩ dX3_countFrom_11 (fun H locs hP hD hS => ?_)
    refine lv_if_eq (tgt := 21) hx hb dX3_countFrom_14 (by decide) (fun c_8 => ?_) (fun c_8 => ?_)
    · have hf := (if_pos c_8).symm.trans hf
      refine lv_iconst (v := (0 : Int32)) hx hb dX3_countFrom_21 (by decide) ?_
      cases hf
      exact xRi hx hb hr hlocks hK hP hD hS (fun _ h => h) dX3_countFrom_22
    · have hf := (if_neg c_8).symm.trans hf
      refine lv_iconst (v := (1 : Int32)) hx hb dX3_countFrom_17 (by decide) ?_
      refine lv_goto (tgt := 22) hx hb dX3_countFrom_18 (by decide) ?_
      cases hf
      exact xRi hx hb hr hlocks hK hP hD hS (fun _ h => h) dX3_countFrom_22
set_option maxHeartbeats 4000000 in
set_option maxRecDepth 100000 in
theorem c_X3_countFrom_4 (l : Launch) (dC : Nat → ClassId) (dI : Nat → Nat → Nat) (ad : Nat → Nat) (cI cJ cT : ClassId) (x : Nat) (htx : x < 8) (y : Nat) (hty : y < 8) (p3 : Int32) (p4 : Int32) (I : SI) (J : SJ) {r0 : Int32} {I0 : SI} (hf : f_X3_countFrom x y 4 p3 p4 I = some (r0, I0)) : CtI l yX3_countFrom wsX3_countFrom ({ frames := 6, cells := 0, slots := 0, locals := 148 } : Room) (dC, dI) (tys3 cI cJ cT) (wB ad cI cJ cT) [.ref (ad (8 + x)), .ref (ad (8 + y)), .ref (ad 26), .int p3, .int p4] I J r0 I0 J := by
  intro sz
  refine Met.ofW (cc := cX3_countFrom) (maxL := 7) (ret := (some .int)) (by decide) rfl ?_
  intro p e s m args below meth c s₁ B hml hv
  obtain ⟨hargs, hsz, hP, hK, hD0⟩ := hv
  have hx := B.exec
  have hb := B.bytes
  have hr := B.returns
  have hts := atoms_spec (ws := wsX3_countFrom) B.pre
  have hown : s.vm.findClass RX3 = some m.cls := findClass_of_methodNamed B.named
  have hlocks := B.notSynchronized
  subst hsz
  have hD := hD0.self (sz := s.heap.size)
  generalize hAe : va_A ((wB ad cI cJ cT) I J) s.heap.size = A at hD ⊢
  have hA : ∀ q : Nat, s.heap.size ≤ q → A q := fun q h => by rw [← hAe]; exact Or.inr h
  have hS : va_S A s.heap s.heap [] := va_S.rf
  have hl := lv_entry ([.ref (ad (8 + x)), .ref (ad (8 + y)), .ref (ad 26), .int p3, .int p4]) (n := 7) (Nat.le_of_ble_eq_true rfl)
  rw [hargs, lg_entry_eq, ← hargs]
  generalize (lg_sl ([.ref (ad (8 + x)), .ref (ad (8 + y)), .ref (ad 26), .int p3, .int p4]) ++ List.replicate (7 - (lg_sl ([.ref (ad (8 + x)), .ref (ad (8 + y)), .ref (ad 26), .int p3, .int p4])).length) Slot.unset).toArray = ls at hl ⊢
  have hl : lv_has ls 7 [(0, .ref (ad (8 + x))), (1, .ref (ad (8 + y))), (2, .ref (ad 26)), (3, .int p3), (4, .int p4)] := hl
  have hfix : CallFix p m c cX3_countFrom 7 s args wsX3_countFrom RX3 := ⟨hx, hb, hml, hown, hts⟩
  have in_X7 : ∀ w ∈ u_ws RX7 TX7 2, w ∈ wsX3_countFrom := by decide +kernel
  have wd_0 := hts (.fieldLink RX3 15 "FuseBench$Table" "kinds" "I") (by decide +kernel)
  have L29 : ∀ (Q : State → Prop) (v3 : Int32) (v4 : Int32) (J : SJ) (o : Int32 × SI), (∀ (w5 : Int32) (I : SI) (H : Heap) (locs : List Loc) (ls : Array Slot), o = (w5, I) → va_P (dC, dI) vwCl ((wB ad cI cJ cT) I J) H → va_D A ((wB ad cI cJ cT) I J) → va_S A s.heap H locs → lv_has ls 7 [(5, .int w5)] → W p l e ({ frames := 6, cells := 0, slots := 0, locals := 148 } : Room) s m args below meth c H locs 0 0 Q (F0 m 80 ls [])) → ∀ (n : Nat) (v5 : Int32) (v6 : Int32) (I : SI) (H : Heap) (locs : List Loc) (ls : Array Slot), lp_X3_countFrom_29 (f_X3_countFrom x y 3) x y v3 v4 n v5 v6 I = some o → va_P (dC, dI) vwCl ((wB ad cI cJ cT) I J) H → va_D A ((wB ad cI cJ cT) I J) → va_S A s.heap H locs → lv_has ls 7 [(0, .ref (ad (8 + x))), (1, .ref (ad (8 + y))), (2, .ref (ad 26)), (3, .int v3), (4, .int v4), (5, .int v5), (6, .int v6)] → W p l e ({ frames := 6, cells := 0, slots := 0, locals := 148 } : Room) s m args below meth c H locs 0 0 Q (F0 m 29 ls []) := by
    intro Q v3 v4 J o K0 n
    clear hP hD hS hl
    induction n with
    | zero =>
      intro v5 v6 I H locs ls hf
      rw [lp_X3_countFrom_29.eq_1] at hf
      cases hf
    | succ n ih =>
      intro v5 v6 I H locs ls hf hP hD hS hl
      rw [lp_X3_countFrom_29.eq_2] at hf
      refine lv_iload hx hb dX3_countFrom_29 (lv_at hl 6 rfl) ?_
      refine lv_aload_n hx hb dX3_countFrom_31 rfl (lv_at hl 0 rfl) ?_
      refine va_get (D := (dC, dI)) (ci := 6) (v := .int (I (8 + x) 0)) (C := RX7) (T := TX7) (N := 2) hx hb hts in_X7 hown hK hP (8 + x) (((wBT ad cI cJ cT htx)).2.1 I J) rfl 1 (by decide) wd_0 (fun _ h9 => h9) rfl dX3_countFrom_32 ?_
      refine lv_icmp_ge (tgt := 80) hx hb dX3_countFrom_35 (by decide) (fun c_1 => ?_) (fun c_1 => ?_)
      · have hf := (if_pos c_1).symm.trans hf
        exact K0 _ _ _ _ _ (Option.some.inj hf).symm hP hD hS (lv_sub hl [5] rfl)
      · have hf := (if_neg c_1).symm.trans hf
        refine lv_iload hx hb dX3_countFrom_38 (lv_at hl 4 rfl) ?_
        refine lv_iload hx hb dX3_countFrom_40 (lv_at hl 6 rfl) ?_
        refine lv_ishr hx hb dX3_countFrom_42 ?_
        refine lv_iconst (v := (1 : Int32)) hx hb dX3_countFrom_43 (by decide) ?_
        refine lv_iand hx hb dX3_countFrom_44 ?_
        refine lv_if_ne (tgt := 74) hx hb dX3_countFrom_45 (by decide) (fun c_2 => ?_) (fun c_2 => ?_)
        · have hf := (if_neg c_2).symm.trans hf
          refine lv_iinc (v := (v6 + (1 : Int32))) (lv' := [(6, .int (v6 + (1 : Int32))), (0, .ref (ad (8 + x))), (1, .ref (ad (8 + y))), (2, .ref (ad 26)), (3, .int v3), (4, .int v4), (5, .int v5)]) hx hb dX3_countFrom_74 hl (k := 6) rfl (by first | rfl | decide) (by decide) rfl (fun ls hl => ?_)
          refine lv_goto (tgt := 29) hx hb dX3_countFrom_77 (by decide) ?_
          exact ih _ _ _ _ _ _ hf hP hD hS (lv_sub hl [1, 2, 3, 4, 5, 6, 0] rfl)
        · have hf := (if_pos c_2).symm.trans hf
          refine lv_aload_n hx hb dX3_countFrom_48 rfl (lv_at hl 2 rfl) ?_
          refine lv_iload_n hx hb dX3_countFrom_49 rfl (lv_at hl 3 rfl) ?_
          refine lv_iload hx hb dX3_countFrom_50 (lv_at hl 6 rfl) ?_
          obtain ⟨h_3, hf⟩ := gd_some hf
          refine x_iast hx hb hK (aiB_26 ad cI cJ cT) hP hD hS h_3 dX3_countFrom_52 (fun H locs hP hD hS => ?_)
          refine lv_iload hx hb dX3_countFrom_53 (lv_at hl 5 rfl) ?_
          refine lv_aload_n hx hb dX3_countFrom_55 rfl (lv_at hl 0 rfl) ?_
          refine lv_aload_n hx hb dX3_countFrom_56 rfl (lv_at hl 1 rfl) ?_
          refine lv_aload_n hx hb dX3_countFrom_57 rfl (lv_at hl 2 rfl) ?_
          refine lv_iload_n hx hb dX3_countFrom_58 rfl (lv_at hl 3 rfl) ?_
          refine lv_iconst (v := (1 : Int32)) hx hb dX3_countFrom_59 (by decide) ?_
          refine lv_iadd hx hb dX3_countFrom_60 ?_
          refine lv_iload hx hb dX3_countFrom_61 (lv_at hl 4 rfl) ?_
          refine lv_iconst (v := (1 : Int32)) hx hb dX3_countFrom_63 (by decide) ?_
          refine lv_iload hx hb dX3_countFrom_64 (lv_at hl 6 rfl) ?_
          refine lv_ishl hx hb dX3_countFrom_66 ?_
          refine lv_ior hx hb dX3_countFrom_67 ?_
          obtain ⟨⟨r_4, I_4⟩, hg_4, hf⟩ := bd_some hf
          refine xSi (rest := [.int v5]) (c_X3_countFrom_3 l dC dI ad cI cJ cT x htx y hty (v3 + (1 : Int32)) (v4 ||| ((1 : Int32) <<< (v6 &&& 31))) (ups I 26 v3.toNatClampNeg v6) J hg_4) hfix (va_cwS 5 hts gX3_countFrom_X3_countFrom rfl rfl rfl (by decide +kernel) ⟨Nat.le_of_ble_eq_true rfl, Nat.le_of_ble_eq_true rfl⟩) hK hP hD hS hA rfl hl.1 rfl (Nat.le_of_ble_eq_true rfl) ⟨Nat.zero_le _, Nat.zero_le _⟩ dX3_countFrom_68 (fun H locs hP hD hS => ?_)
          refine lv_iadd hx hb dX3_countFrom_71 ?_
          refine lv_istore (lv' := [(5, .int (v5 + r_4)), (0, .ref (ad (8 + x))), (1, .ref (ad (8 + y))), (2, .ref (ad 26)), (3, .int v3), (4, .int v4), (6, .int v6)]) hx hb dX3_countFrom_72 hl (by decide) rfl (fun ls hl => ?_)
          refine lv_iinc (v := (v6 + (1 : Int32))) (lv' := [(6, .int (v6 + (1 : Int32))), (5, .int (v5 + r_4)), (0, .ref (ad (8 + x))), (1, .ref (ad (8 + y))), (2, .ref (ad 26)), (3, .int v3), (4, .int v4)]) hx hb dX3_countFrom_74 hl (k := 6) rfl (by first | rfl | decide) (by decide) rfl (fun ls hl => ?_)
          refine lv_goto (tgt := 29) hx hb dX3_countFrom_77 (by decide) ?_
          exact ih _ _ _ _ _ _ hf hP hD hS (lv_sub hl [2, 3, 4, 5, 6, 1, 0] rfl)
  rw [f_X3_countFrom.eq_2] at hf
  refine lv_iload_n hx hb dX3_countFrom_0 rfl (lv_at hl 3 rfl) ?_
  refine lv_aload_n hx hb dX3_countFrom_1 rfl (lv_at hl 0 rfl) ?_
  refine va_get (D := (dC, dI)) (ci := 6) (v := .int (I (8 + x) 0)) (C := RX7) (T := TX7) (N := 2) hx hb hts in_X7 hown hK hP (8 + x) (((wBT ad cI cJ cT htx)).2.1 I J) rfl 1 (by decide) wd_0 (fun _ h9 => h9) rfl dX3_countFrom_2 ?_
  refine lv_icmp_lt (tgt := 23) hx hb dX3_countFrom_5 (by decide) (fun c_5 => ?_) (fun c_5 => ?_)
  · have hf := (if_pos c_5).symm.trans hf
    refine lv_iconst (v := (0 : Int32)) hx hb dX3_countFrom_23 (by decide) ?_
    refine lv_istore (lv' := [(5, .int (0 : Int32)), (0, .ref (ad (8 + x))), (1, .ref (ad (8 + y))), (2, .ref (ad 26)), (3, .int p3), (4, .int p4)]) hx hb dX3_countFrom_24 hl (by decide) rfl (fun ls hl => ?_)
    refine lv_iconst (v := (1 : Int32)) hx hb dX3_countFrom_26 (by decide) ?_
    refine lv_istore (lv' := [(6, .int (1 : Int32)), (5, .int (0 : Int32)), (0, .ref (ad (8 + x))), (1, .ref (ad (8 + y))), (2, .ref (ad 26)), (3, .int p3), (4, .int p4)]) hx hb dX3_countFrom_27 hl (by decide) rfl (fun ls hl => ?_)
    obtain ⟨o_6, hg_6, hf⟩ := bd_some hf
    refine L29 _ p3 p4 J o_6 ?_ FU (0 : Int32) (1 : Int32) I _ _ _ hg_6 hP hD hS (lv_sub hl [2, 3, 4, 5, 6, 1, 0] rfl)
    · intro w5_6 I_6 H locs ls ho hP hD hS hl
      subst o_6
      refine lv_iload hx hb dX3_countFrom_80 (lv_at hl 0 rfl) ?_
      cases hf
      exact xRi hx hb hr hlocks hK hP hD hS (fun _ h => h) dX3_countFrom_82
  · have hf := (if_neg c_5).symm.trans hf
    refine lv_aload_n hx hb dX3_countFrom_8 rfl (lv_at hl 0 rfl) ?_
    refine lv_aload_n hx hb dX3_countFrom_9 rfl (lv_at hl 1 rfl) ?_
    refine lv_aload_n hx hb dX3_countFrom_10 rfl (lv_at hl 2 rfl) ?_
    obtain ⟨r_7, hg_7, hf⟩ := bd_some hf
    refine xSi (rest := []) (c_X3_alike l dC dI ad cI cJ cT x htx y hty I J hg_7) hfix (va_cwS 3 hts gX3_countFrom_X3_alike rfl rfl rfl (by decide +kernel) ⟨Nat.le_of_ble_eq_true rfl, Nat.le_of_ble_eq_true rfl⟩) hK hP hD hS hA rfl hl.1 rfl (Nat.le_of_ble_eq_true rfl) ⟨Nat.zero_le _, Nat.zero_le _⟩ dX3_countFrom_11 (fun H locs hP hD hS => ?_)
    refine lv_if_eq (tgt := 21) hx hb dX3_countFrom_14 (by decide) (fun c_8 => ?_) (fun c_8 => ?_)
    · have hf := (if_pos c_8).symm.trans hf
      refine lv_iconst (v := (0 : Int32)) hx hb dX3_countFrom_21 (by decide) ?_
      cases hf
      exact xRi hx hb hr hlocks hK hP hD hS (fun _ h => h) dX3_countFrom_22
    · have hf := (if_neg c_8).symm.trans hf
      refine lv_iconst (v := (1 : Int32)) hx hb dX3_countFrom_17 (by decide) ?_
      refine lv_goto (tgt := 22) hx hb dX3_countFrom_18 (by decide) ?_
      cases hf
      exact xRi hx hb hr hlocks hK hP hD hS (fun _ h => h) dX3_countFrom_22
