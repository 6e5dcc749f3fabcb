set_option maxHeartbeats 4000000 in
set_option maxRecDepth 100000 in
theorem c_X3_countFrom_5 (l : Launch) (dC : Nat → ClassId) (dI : Nat → Nat → Nat) (ad : Nat → Nat) (cI cJ cT : ClassId) (x : Nat) (htx : x < 8) (y : Nat) (hty : y < 8) (p3 : Int32) (p4 : Int32) (I : SI) (J : SJ) {r0 : Int32} {I0 : SI} (hf : f_X3_countFrom x y 5 p3 p4 I = some (r0, I0)) : CtI l yX3_countFrom wsX3_countFrom ({ frames := 7, cells := 0, slots := 0, locals := 174 } : Room) (dC, dI) (tys3 cI cJ cT) (wB ad cI cJ cT) [.ref (ad (8 + x)), .ref (ad (8 + y)), .ref (ad 26), .int p3, .int p4] I J r0 I0 J := by
  intro sz
  refine Met.ofW (cc := cX3_countFrom) (maxL := 7) (ret := (some .int)) (by decide) rfl ?_
  intro p e s m args below meth c s₁ B hml hv
  obtain ⟨hargs, hsz, hP, hK, hD0⟩ := hv
  have hx := B.exec
  have hb := B.bytes
  have hr := B.returns
  have hts := atoms_spec (ws := wsX3_countFrom) B.pre
  have hown : s.vm.findClass RX3 = some m.cls := findClass_of_methodNamed B.named
  have hlocks := B.notSynchronized
  subst hsz
  have hD := hD0.self (sz := s.heap.size)
  generalize hAe : va_A ((wB ad cI cJ cT) I J) s.heap.size = A at hD ⊢
  have hA : ∀ q : Nat, s.heap.size ≤ q → A q := fun q h => by rw [← hAe]; exact Or.inr h
  have hS : va_S A s.heap s.heap [] := va_S.rf
  have hl := lv_entry ([.ref (ad (8 + x)), .ref (ad (8 + y)), .ref (ad 26), .int p3, .int p4]) (n := 7) (Nat.le_of_ble_eq_true rfl)
  rw [hargs, lg_entry_eq, ← hargs]
  generalize (lg_sl ([.ref (ad (8 + x)), .ref (ad (8 + y)), .ref (ad 26), .int p3, .int p4]) ++ List.replicate (7 - (lg_sl ([.ref (ad (8 + x)), .ref (ad (8 + y)), .ref (ad 26), .int p3, .int p4])).length) Slot.unset).toArray = ls at hl ⊢
  have hl : lv_has ls 7 [(0, .ref (ad (8 + x))), (1, .ref (ad (8 + y))), (2, .ref (ad 26)), (3, .int p3), (4, .int p4)] := hl
  have hfix : CallFix p m c cX3_countFrom 7 s args wsX3_countFrom RX3 := ⟨hx, hb, hml, hown, hts⟩
  have in_X7 : ∀ w ∈ u_ws RX7 TX7 2, w ∈ wsX3_countFrom := by decide +kernel
  have wd_0 := hts (.fieldLink RX3 15 "FuseBench$Table" "kinds" "I") (by decide +kernel)
  have L29 : ∀ (Q : State → Prop) (v3 : Int32) (v4 : Int32) (J : SJ) (o : Int32 × SI), (∀ (w5 : Int32) (I : SI) (H : Heap) (locs : List Loc) (ls : Array Slot), o = (w5, I) → va_P (dC, dI) vwCl ((wB ad cI cJ cT) I J) H → va_D A ((wB ad cI cJ cT) I J) → va_S A s.heap H locs → lv_has ls 7 [(5, .int w5)] → W p l e ({ frames := 7, cells := 0, slots := 0, locals := 174 } : Room) s m args below meth c H locs 0 0 Q (F0 m 80 ls [])) → ∀ (n : Nat) (v5 : Int32) (v6 : Int32) (I : SI) (H : Heap) (locs : List Loc) (ls : Array Slot), lp_X3_countFrom_29 (f_X3_countFrom x y 4) x y v3 v4 n v5 v6 I = some o → va_P (dC, dI) vwCl ((wB ad cI cJ cT) I J) H → va_D A ((wB ad cI cJ cT) I J) → va_S A s.heap H locs → lv_has ls 7 [(0, .ref (ad (8 + x))), (1, .ref (ad (8 + y))), (2, .ref (ad 26)), (3, .int v3), (4, .int v4), (5, .int v5), (6, .int v6)] → W p l e ({ frames := 7, cells := 0, slots := 0, locals := 174 } : Room) s m args below meth c H locs 0 0 Q (F0 m 29 ls []) := by
    intro Q v3 v4 J o K0 n
    clear hP hD hS hl
    induction n with
    | zero =>
      intro v5 v6 I H locs ls hf
      rw [lp_X3_countFrom_29.eq_1] at hf
      cases hf
    | succ n ih =>
      intro v5 v6 I H locs ls hf hP hD hS hl
      rw [lp_X3_countFrom_29.eq_2] at hf
      refine lv_iload hx hb dX3_countFrom_29 (lv_at hl 6 rfl) ?_
      refine lv_aload_n hx hb dX3_countFrom_31 rfl (lv_at hl 0 rfl) ?_
      refine va_get (D := (dC, dI)) (ci := 6) (v := .int (I (8 + x) 0)) (C := RX7) (T := TX7) (N := 2) hx hb hts in_X7 hown hK hP (8 + x) (((wBT ad cI cJ cT htx)).2.1 I J) rfl 1 (by decide) wd_0 (fun _ h9 => h9) rfl dX3_countFrom_32 ?_
      refine lv_icmp_ge (tgt := 80) hx hb dX3_countFrom_35 (by decide) (fun c_1 => ?_) (fun c_1 => ?_)
      · have hf := (if_pos c_1).symm.trans hf
        exact K0 _ _ _ _ _ (Option.some.inj hf).symm hP hD hS (lv_sub hl [5] rfl)
      · have hf := (if_neg c_1).symm.trans hf
        refine lv_iload hx hb dX3_countFrom_38 (lv_at hl 4 rfl) ?_
        refine lv_iload hx hb dX3_countFrom_40 (lv_at hl 6 rfl) ?_
        refine lv_ishr hx hb dX3_countFrom_42 ?_
        refine lv_iconst (v := (1 : Int32)) hx hb dX3_countFrom_43 (by decide) ?_
        refine lv_iand hx hb dX3_countFrom_44 ?_
        refine lv_if_ne (tgt := 74) hx hb dX3_countFrom_45 (by decide) (fun c_2 => ?_) (fun c_2 => ?_)
        · have hf := (if_neg c_2).symm.trans hf
          refine lv_iinc (v := (v6 + (1 : Int32))) (lv' := [(6, .int (v6 + (1 : Int32))), (0, .ref (ad (8 + x))), (1, .ref (ad (8 + y))), (2, .ref (ad 26)), (3, .int v3), (4, .int v4), (5, .int v5)]) hx hb dX3_countFrom_74 hl (k := 6) rfl (by first | rfl | decide) (by decide) rfl (fun ls hl => ?_)
          refine lv_goto (tgt := 29) hx hb dX3_countFrom_77 (by decide) ?_
          exact ih _ _ _ _ _ _ hf hP hD hS (lv_sub hl [1, 2, 3, 4, 5, 6, 0] rfl)
        · have hf := (if_pos c_2).symm.trans hf
          refine lv_aload_n hx hb dX3_countFrom_48 rfl (lv_at hl 2 rfl) ?_
          refine lv_iload_n hx hb dX3_countFrom_49 rfl (lv_at hl 3 rfl) ?_
          refine lv_iload hx hb dX3_countFrom_50 (lv_at hl 6 rfl) ?_
          obtain ⟨h_3, hf⟩ := gd_some hf
          refine x_iast hx hb hK (aiB_26 ad cI cJ cT) hP hD hS h_3 dX3_countFrom_52 (fun H locs hP hD hS => ?_)
          refine lv_iload hx hb dX3_countFrom_53 (lv_at hl 5 rfl) ?_
          refine lv_aload_n hx hb dX3_countFrom_55 rfl (lv_at hl 0 rfl) ?_
          refine lv_aload_n hx hb dX3_countFrom_56 rfl (lv_at hl 1 rfl) ?_
          refine lv_aload_n hx hb dX3_countFrom_57 rfl (lv_at hl 2 rfl) ?_
          refine lv_iload_n hx hb dX3_countFrom_58 rfl (lv_at hl 3 rfl) ?_
          refine lv_iconst (v := (1 : Int32)) hx hb dX3_countFrom_59 (by decide) ?_
          refine lv_iadd hx hb dX3_countFrom_60 ?_
          refine lv_iload hx hb dX3_countFrom_61 (lv_at hl 4 rfl) ?_
          refine lv_iconst (v := (1 : Int32)) hx hb dX3_countFrom_63 (by decide) ?_
          refine lv_iload hx hb dX3_countFrom_64 (lv_at hl 6 rfl) ?_
          refine lv_ishl hx hb dX3_countFrom_66 ?_
          refine lv_ior hx hb dX3_countFrom_67 ?_
          obtain ⟨⟨r_4, I_4⟩, hg_4, hf⟩ := bd_some hf
          refine xSi (rest := [.int v5]) (c_X3_countFrom_4 l dC dI ad cI cJ cT x htx y hty (v3 + (1 : Int32)) (v4 ||| ((1 : Int32) <<< (v6 &&& 31))) (ups I 26 v3.toNatClampNeg v6) J hg_4) hfix (va_cwS 5 hts gX3_countFrom_X3_countFrom rfl rfl rfl (by decide +kernel) ⟨Nat.le_of_ble_eq_true rfl, Nat.le_of_ble_eq_true rfl⟩) hK hP hD hS hA rfl hl.1 rfl (Nat.le_of_ble_eq_true rfl) ⟨Nat.zero_le _, Nat.zero_le _⟩ dX3_countFrom_68 (fun H locs hP hD hS => ?_)
          refine lv_iadd hx hb dX3_countFrom_71 ?_
          refine lv_istore (lv' := [(5, .int (v5 + r_4)), (0, .ref (ad (8 + x))), (1, .ref (ad (8 + y))), (2, .ref (ad 26)), (3, .int v3), (4, .int v4), (6, .int v6)]) hx hb dX3_countFrom_72 hl (by decide) rfl (fun ls hl => ?_)
          refine lv_iinc (v := (v6 + (1 : Int32))) (lv' := [(6, .int (v6 + (1 : Int32))), (5, .int (v5 + r_4)), (0, .ref (ad (8 + x))), (1, .ref (ad (8 + y))), (2, .ref (ad 26)), (3, .int v3), (4, .int v4)]) hx hb dX3_countFrom_74 hl (k := 6) rfl (by first | rfl | decide) (by decide) rfl (fun ls hl => ?_)
          refine lv_goto (tgt := 29) hx hb dX3_countFrom_77 (by decide) ?_
          exact ih _ _ _ _ _ _ hf hP hD hS (lv_sub hl [2, 3, 4, 5, 6, 1, 0] rfl)
  rw [f_X3_countFrom.eq_2] at hf
  refine lv_iload_n hx hb dX3_countFrom_0 rfl (lv_at hl 3 rfl) ?_
  refine lv_aload_n hx hb dX3_countFrom_1 rfl (lv_at hl 0 rfl) ?_
  refine va_get (D := (dC, dI)) (ci := 6) (v := .int (I (8 + x) 0)) (C := RX7) (T := TX7) (N := 2) hx hb hts in_X7 hown hK hP (8 + x) (((wBT ad cI cJ cT htx)).2.1 I J) rfl 1 (by decide) wd_0 (fun _ h9 => h9) rfl dX3_countFrom_2 ?_
  refine lv_icmp_lt (tgt := 23) hx hb dX3_countFrom_5 (by decide) (fun c_5 => ?_) (fun c_5 => ?_)
  · have hf := (if_pos c_5).symm.trans hf
    refine lv_iconst (v := (0 : Int32)) hx hb dX3_countFrom_23 (by decide) ?_
    refine lv_istore (lv' := [(5, .int (0 : Int32)), (0, .ref (ad (8 + x))), (1, .ref (ad (8 + y))), (2, .ref (ad 26)), (3, .int p3), (4, .int p4)]) hx hb dX3_countFrom_24 hl (by decide) rfl (fun ls hl => ?_)
    refine lv_iconst (v := (1 : Int32)) hx hb dX3_countFrom_26 (by decide) ?_
    refine lv_istore (lv' := [(6, .int (1 : Int32)), (5, .int (0 : Int32)), (0, .ref (ad (8 + x))), (1, .ref (ad (8 + y))), (2, .ref (ad 26)), (3, .int p3), (4, .int p4)]) hx hb dX3_countFrom_27 hl (by decide) rfl (fun ls hl => ?_)
    obtain ⟨o_6, hg_6, hf⟩ := bd_some hf
    refine L29 _ p3 p4 J o_6 ?_ FU (0 : Int32) (1 : Int32) I _ _ _ hg_6 hP hD hS (lv_sub hl [2, 3, 4, 5, 6, 1, 0] rfl)
    · intro w5_6 I_6 H locs ls ho hP hD hS hl
      subst o_6
      refine lv_iload hx hb dX3_countFrom_80 (lv_at hl 0 rfl) ?_
      cases hf
      exact xRi hx hb hr hlocks hK hP hD hS (fun _ h => h) dX3_countFrom_82
  · have hf := (if_neg c_5).symm.trans hf
    refine lv_aload_n hx hb dX3_countFrom_8 rfl (lv_at hl 0 rfl) ?_
    refine lv_aload_n hx hb dX3_countFrom_9 rfl (lv_at hl 1 rfl) ?_
    refine lv_aload_n hx hb dX3_countFrom_10 rfl (lv_at hl 2 rfl) ?_
    obtain ⟨r_7, hg_7, hf⟩ := bd_some hf
    refine xSi (rest := []) (c_X3_alike l dC dI ad cI cJ cT x htx y hty I J hg_7) hfix (va_cwS 3 hts gX3_countFrom_X3_alike rfl rfl rfl (by decide +kernel) ⟨Nat.le_of_ble_eq_true rfl, Nat.le_of_ble_eq_true rfl⟩) hK hP hD hS hA rfl hl.1 rfl (Nat.le_of_ble_eq_true rfl) ⟨Nat.zero_le _, Nat.zero_le _⟩ dX3_countFrom_11 (fun H locs hP hD hS => ?_)
    refine lv_if_eq (tgt := 21) hx hb dX3_countFrom_14 (by decide) (fun c_8 => ?_) (fun c_8 => ?_)
    · have hf := (if_pos c_8).symm.trans hf
      refine lv_iconst (v := (0 : Int32)) hx hb dX3_countFrom_21 (by decide) ?_
      cases hf
      exact xRi hx hb hr hlocks hK hP hD hS (fun _ h => h) dX3_countFrom_22
    · have hf := (if_neg c_8).symm.trans hf
      refine lv_iconst (v := (1 : Int32)) hx hb dX3_countFrom_17 (by decide) ?_
      refine lv_goto (tgt := 22) hx hb dX3_countFrom_18 (by decide) ?_
      cases hf
      exact xRi hx hb hr hlocks hK hP hD hS (fun _ h => h) dX3_countFrom_22
set_option maxHeartbeats 4000000 in
set_option maxRecDepth 100000 in
theorem c_X3_countFrom_6 (l : Launch) (dC : Nat → ClassId) (dI : Nat → Nat → Nat) (ad : Nat → Nat) (cI cJ cT : ClassId) (x : Nat) (htx : x < 8) (y : Nat) (hty : y < 8) (p3 : Int32) (p4 : Int32) (I : SI) (J : SJ) {r0 : Int32} {I0 : SI} (hf : f_X3_countFrom x y 6 p3 p4 I = some (r0, I0)) : CtI l yX3_countFrom wsX3_countFrom ({ frames := 8, cells := 0, slots := 0, locals := 200 } : Room) (dC, dI) (tys3 cI cJ cT) (wB ad cI cJ cT) [.ref (ad (8 + x)), .ref (ad (8 + y)), .ref (ad 26), .int p3, .int p4] I J r0 I0 J := by
  intro sz
  refine Met.ofW (cc := cX3_countFrom) (maxL := 7) (ret := (some .int)) (by decide) rfl ?_
  intro p e s m args below meth c s₁ B hml hv
  obtain ⟨hargs, hsz, hP, hK, hD0⟩ := hv
  have hx := B.exec
  have hb := B.bytes
  have hr := B.returns
  have hts := atoms_spec (ws := wsX3_countFrom) B.pre
  have hown : s.vm.findClass RX3 = some m.cls := findClass_of_methodNamed B.named
  have hlocks := B.notSynchronized
  subst hsz
  have hD := hD0.self (sz := s.heap.size)
  generalize hAe : va_A ((wB ad cI cJ cT) I J) s.heap.size = A at hD ⊢
  have hA : ∀ q : Nat, s.heap.size ≤ q → A q := fun q h => by rw [← hAe]; exact Or.inr h
  have hS : va_S A s.heap s.heap [] := va_S.rf
  have hl := lv_entry ([.ref (ad (8 + x)), .ref (ad (8 + y)), .ref (ad 26), .int p3, .int p4]) (n := 7) (Nat.le_of_ble_eq_true rfl)
  rw [hargs, lg_entry_eq, ← hargs]
  generalize (lg_sl ([.ref (ad (8 + x)), .ref (ad (8 + y)), .ref (ad 26), .int p3, .int p4]) ++ List.replicate (7 - (lg_sl ([.ref (ad (8 + x)), .ref (ad (8 + y)), .ref (ad 26), .int p3, .int p4])).length) Slot.unset).toArray = ls at hl ⊢
  have hl : lv_has ls 7 [(0, .ref (ad (8 + x))), (1, .ref (ad (8 + y))), (2, .ref (ad 26)), (3, .int p3), (4, .int p4)] := hl
  have hfix : CallFix p m c cX3_countFrom 7 s args wsX3_countFrom RX3 := ⟨hx, hb, hml, hown, hts⟩
  have in_X7 : ∀ w ∈ u_ws RX7 TX7 2, w ∈ wsX3_countFrom := by decide +kernel
  have wd_0 := hts (.fieldLink RX3 15 "FuseBench$Table" "kinds" "I") (by decide +kernel)
  have L29 : ∀ (Q : State → Prop) (v3 : Int32) (v4 : Int32) (J : SJ) (o : Int32 × SI), (∀ (w5 : Int32) (I : SI) (H : Heap) (locs : List Loc) (ls : Array Slot), o = (w5, I) → va_P (dC, dI) vwCl ((wB ad cI cJ cT) I J) H → va_D A ((wB ad cI cJ cT) I J) → va_S A s.heap H locs → lv_has ls 7 [(5, .int w5)] → W p l e ({ frames := 8, cells := 0, slots := 0, locals := 200 } : Room) s m args below meth c H locs 0 0 Q (F0 m 80 ls [])) → ∀ (n : Nat) (v5 : Int32) (v6 : Int32) (I : SI) (H : Heap) (locs : List Loc) (ls : Array Slot), lp_X3_countFrom_29 (f_X3_countFrom x y 5) x y v3 v4 n v5 v6 I = some o → va_P (dC, dI) vwCl ((wB ad cI cJ cT) I J) H → va_D A ((wB ad cI cJ cT) I J) → va_S A s.heap H locs → lv_has ls 7 [(0, .ref (ad (8 + x))), (1, .ref (ad (8 + y))), (2, .ref (ad 26)), (3, .int v3), (4, .int v4), (5, .int v5), (6, .int v6)] → W p l e ({ frames := 8, cells := 0, slots := 0, locals := 200 } : Room) s m args below meth c H locs 0 0 Q (F0 m 29 ls []) := by
    intro Q v3 v4 J o K0 n
    clear hP hD hS hl
    induction n with
    | zero =>
      intro v5 v6 I H locs ls hf
      rw [lp_X3_countFrom_29.eq_1] at hf
      cases hf
    | succ n ih =>
      intro v5 v6 I H locs ls hf hP hD hS hl
      rw [lp_X3_countFrom_29.eq_2] at hf
      refine lv_iload hx hb dX3_countFrom_29 (lv_at hl 6 rfl) ?_
      refine lv_aload_n hx hb dX3_countFrom_31 rfl (lv_at hl 0 rfl) ?_
      refine va_get (D := (dC, dI)) (ci := 6) (v := .int (I (8 + x) 0)) (C := RX7) (T := TX7) (N := 2) hx hb hts in_X7 hown hK hP (8 + x) (((wBT ad cI cJ cT htx)).2.1 I J) rfl 1 (by decide) wd_0 (fun _ h9 => h9) rfl dX3_countFrom_32 ?_
      refine lv_icmp_ge (tgt := 80) hx hb dX3_countFrom_35 (by decide) (fun c_1 => ?_) (fun c_1 => ?_)
      · have hf := (if_pos c_1).symm.trans hf
        exact K0 _ _ _ _ _ (Option.some.inj hf).symm hP hD hS (lv_sub hl [5] rfl)
      · have hf := (if_neg c_1).symm.trans hf
        refine lv_iload hx hb dX3_countFrom_38 (lv_at hl 4 rfl) ?_
        refine lv_iload hx hb dX3_countFrom_40 (lv_at hl 6 rfl) ?_
        refine lv_ishr hx hb dX3_countFrom_42 ?_
        refine lv_iconst (v := (1 : Int32)) hx hb dX3_countFrom_43 (by decide) ?_
        refine lv_iand hx hb dX3_countFrom_44 ?_
        refine lv_if_ne (tgt := 74) hx hb dX3_countFrom_45 (by decide) (fun c_2 => ?_) (fun c_2 => ?_)
        · have hf := (if_neg c_2).symm.trans hf
          refine lv_iinc (v := (v6 + (1 : Int32))) (lv' := [(6, .int (v6 + (1 : Int32))), (0, .ref (ad (8 + x))), (1, .ref (ad (8 + y))), (2, .ref (ad 26)), (3, .int v3), (4, .int v4), (5, .int v5)]) hx hb dX3_countFrom_74 hl (k := 6) rfl (by first | rfl | decide) (by decide) rfl (fun ls hl => ?_)
          refine lv_goto (tgt := 29) hx hb dX3_countFrom_77 (by decide) ?_
          exact ih _ _ _ _ _ _ hf hP hD hS (lv_sub hl [1, 2, 3, 4, 5, 6, 0] rfl)
        · have hf := (if_pos c_2).symm.trans hf
          refine lv_aload_n hx hb dX3_countFrom_48 rfl (lv_at hl 2 rfl) ?_
          refine lv_iload_n hx hb dX3_countFrom_49 rfl (lv_at hl 3 rfl) ?_
          refine lv_iload hx hb dX3_countFrom_50 (lv_at hl 6 rfl) ?_
          obtain ⟨h_3, hf⟩ := gd_some hf
          refine x_iast hx hb hK (aiB_26 ad cI cJ cT) hP hD hS h_3 dX3_countFrom_52 (fun H locs hP hD hS => ?_)
          refine lv_iload hx hb dX3_countFrom_53 (lv_at hl 5 rfl) ?_
          refine lv_aload_n hx hb dX3_countFrom_55 rfl (lv_at hl 0 rfl) ?_
          refine lv_aload_n hx hb dX3_countFrom_56 rfl (lv_at hl 1 rfl) ?_
          refine lv_aload_n hx hb dX3_countFrom_57 rfl (lv_at hl 2 rfl) ?_
          refine lv_iload_n hx hb dX3_countFrom_58 rfl (lv_at hl 3 rfl) ?_
          refine lv_iconst (v := (1 : Int32)) hx hb dX3_countFrom_59 (by decide) ?_
          refine lv_iadd hx hb dX3_countFrom_60 ?_
          refine lv_iload hx hb dX3_countFrom_61 (lv_at hl 4 rfl) ?_
          refine lv_iconst (v := (1 : Int32)) hx hb dX3_countFrom_63 (by decide) ?_
          refine lv_iload hx hb dX3_countFrom_64 (lv_at hl 6 rfl) ?_
          refine lv_ishl hx hb dX3_countFrom_66 ?_
          refine lv_ior hx hb dX3_countFrom_67 ?_
          obtain ⟨⟨r_4, I_4⟩, hg_4, hf⟩ := bd_some hf
          refine xSi (rest := [.int v5]) (c_X3_countFrom_5 l dC dI ad cI cJ cT x htx y hty (v3 + (1 : Int32)) (v4 ||| ((1 : Int32) <<< (v6 &&& 31))) (ups I 26 v3.toNatClampNeg v6) J hg_4) hfix (va_cwS 5 hts gX3_countFrom_X3_countFrom rfl rfl rfl (by decide +kernel) ⟨Nat.le_of_ble_eq_true rfl, Nat.le_of_ble_eq_true rfl⟩) hK hP hD hS hA rfl hl.1 rfl (Nat.le_of_ble_eq_true rfl) ⟨Nat.zero_le _, Nat.zero_le _⟩ dX3_countFrom_68 (fun H locs hP hD hS => ?_)
          refine lv_iadd hx hb dX3_countFrom_71 ?_
          refine lv_istore (lv' := [(5, .int (v5 + r_4)), (0, .ref (ad (8 + x))), (1, .ref (ad (8 + y))), (2, .ref (ad 26)), (3, .int v3), (4, .int v4), (6, .int v6)]) hx hb dX3_countFrom_72 hl (by decide) rfl (fun ls hl => ?_)
          refine lv_iinc (v := (v6 + (1 : Int32))) (lv' := [(6, .int (v6 + (1 : Int32))), (5, .int (v5 + r_4)), (0, .ref (ad (8 + x))), (1, .ref (ad (8 + y))), (2, .ref (ad 26)), (3, .int v3), (4, .int v4)]) hx hb dX3_countFrom_74 hl (k := 6) rfl (by first | rfl | decide) (by decide) rfl (fun ls hl => ?_)
          refine lv_goto (tgt := 29) hx hb dX3_countFrom_77 (by decide) ?_
          exact ih _ _ _ _ _ _ hf hP hD hS (lv_sub hl [2, 3, 4, 5, 6, 1, 0] rfl)
  rw [f_X3_countFrom.eq_2] at hf
  refine lv_iload_n hx hb dX3_countFrom_0 rfl (lv_at hl 3 rfl) ?_
  refine lv_aload_n hx hb dX3_countFrom_1 rfl (lv_at hl 0 rfl) ?_
  refine va_get (D := (dC, dI)) (ci := 6) (v := .int (I (8 + x) 0)) (C := RX7) (T := TX7) (N := 2) hx hb hts in_X7 hown hK hP (8 + x) (((wBT ad cI cJ cT htx)).2.1 I J) rfl 1 (by decide) wd_0 (fun _ h9 => h9) rfl dX3_countFrom_2 ?_
  refine lv_icmp_lt (tgt := 23) hx hb dX3_countFrom_5 (by decide) (fun c_5 => ?_) (fun c_5 => ?_)
  · have hf := (if_pos c_5).symm.trans hf
    refine lv_iconst (v := (0 : Int32)) hx hb dX3_countFrom_23 (by decide) ?_
    refine lv_istore (lv' := [(5, .int (0 : Int32)), (0, .ref (ad (8 + x))), (1, .ref (ad (8 + y))), (2, .ref (ad 26)), (3, .int p3), (4, .int p4)]) hx hb dX3_countFrom_24 hl (by decide) rfl (fun ls hl => ?_)
    refine lv_iconst (v := (1 : Int32)) hx hb dX3_countFrom_26 (by decide) ?_
    refine lv_istore (lv' := [(6, .int (1 : Int32)), (5, .int (0 : Int32)), (0, .ref (ad (8 + x))), (1, .ref (ad (8 + y))), (2, .ref (ad 26)), (3, .int p3), (4, .int p4)]) hx hb dX3_countFrom_27 hl (by decide) rfl (fun ls hl => ?_)
    obtain ⟨o_6, hg_6, hf⟩ := bd_some hf
    refine L29 _ p3 p4 J o_6 ?_ FU (0 : Int32) (1 : Int32) I _ _ _ hg_6 hP hD hS (lv_sub hl [2, 3, 4, 5, 6, 1, 0] rfl)
    · intro w5_6 I_6 H locs ls ho hP hD hS hl
      subst o_6
      refine lv_iload hx hb dX3_countFrom_80 (lv_at hl 0 rfl) ?_
      cases hf
      exact xRi hx hb hr hlocks hK hP hD hS (fun _ h => h) dX3_countFrom_82
  · have hf := (if_neg c_5).symm.trans hf
    refine lv_aload_n hx hb dX3_countFrom_8 rfl (lv_at hl 0 rfl) ?_
    refine lv_aload_n hx hb dX3_countFrom_9 rfl (lv_at hl 1 rfl) ?_
    refine lv_aload_n hx hb dX3_countFrom_10 rfl (lv_at hl 2 rfl) ?_
    obtain ⟨r_7, hg_7, hf⟩ := bd_some hf
    refine xSi (rest := []) (c_X3_alike l dC dI ad cI cJ cT x htx y hty I J hg_7) hfix (va_cwS 3 hts gX3_countFrom_X3_alike rfl rfl rfl (by decide +kernel) ⟨Nat.le_of_ble_eq_true rfl, Nat.le_of_ble_eq_true rfl⟩) hK hP hD hS hA rfl hl.1 rfl (Nat.le_of_ble_eq_true rfl) ⟨Nat.zero_le _, Nat.zero_le _⟩ dX3_countFrom_11 (fun H locs hP hD hS => ?_)
    refine lv_if_eq (tgt := 21) hx hb dX3_countFrom_14 (by decide) (fun c_8 => ?_) (fun c_8 => ?_)
    · have hf := (if_pos c_8).symm.trans hf
      refine lv_iconst (v := (0 : Int32)) hx hb dX3_countFrom_21 (by decide) ?_
      cases hf
      exact xRi hx hb hr hlocks hK hP hD hS (fun _ h => h) dX3_countFrom_22
    · have hf := (if_neg c_8).symm.trans hf
      refine lv_iconst (v := (1 : Int32)) hx hb dX3_countFrom_17 (by decide) ?_
      refine lv_goto (tgt := 22) hx hb dX3_countFrom_18 (by decide) ?_
      cases hf
      exact xRi hx hb hr hlocks hK hP hD hS (fun _ h => h) dX3_countFrom_22
set_option maxHeartbeats 4000000 in
set_option maxRecDepth 100000 in
theorem c_X3_count (l : Launch) (dC : Nat → ClassId) (dI : Nat → Nat → Nat) (ad : Nat → Nat) (cI cJ cT : ClassId) (x : Nat) (htx : x < 8) (y : Nat) (hty : y < 8) (I : SI) (J : SJ) {r0 : Int32} {I0 : SI} (hf : f_X3_count x y I = some (r0, I0)) : CtI l yX3_count wsX3_count ({ frames := 9, cells := 0, slots := 0, locals := 226 } : Room) (dC, dI) (tys3 cI cJ cT) (wB ad cI cJ cT) [.ref (ad 27), .ref (ad (8 + x)), .ref (ad (8 + y))] I J r0 I0 J := by
  intro sz
  refine Met.ofW (cc := cX3_count) (maxL := 3) (ret := (some .int)) (by decide) rfl ?_
  intro p e s m args below meth c s₁ B hml hv
  obtain ⟨hargs, hsz, hP, hK, hD0⟩ := hv
  have hx := B.exec
  have hb := B.bytes
  have hr := B.returns
  have hts := atoms_spec (ws := wsX3_count) B.pre
  have hown : s.vm.findClass RX3 = some m.cls := findClass_of_methodNamed B.named
  have hlocks := B.notSynchronized
  subst hsz
  have hD := hD0.self (sz := s.heap.size)
  generalize hAe : va_A ((wB ad cI cJ cT) I J) s.heap.size = A at hD ⊢
  have hA : ∀ q : Nat, s.heap.size ≤ q → A q := fun q h => by rw [← hAe]; exact Or.inr h
  have hS : va_S A s.heap s.heap [] := va_S.rf
  have hl := lv_entry ([.ref (ad 27), .ref (ad (8 + x)), .ref (ad (8 + y))]) (n := 3) (Nat.le_of_ble_eq_true rfl)
  rw [hargs, lg_entry_eq, ← hargs]
  generalize (lg_sl ([.ref (ad 27), .ref (ad (8 + x)), .ref (ad (8 + y))]) ++ List.replicate (3 - (lg_sl ([.ref (ad 27), .ref (ad (8 + x)), .ref (ad (8 + y))])).length) Slot.unset).toArray = ls at hl ⊢
  have hl : lv_has ls 3 [(0, .ref (ad 27)), (1, .ref (ad (8 + x))), (2, .ref (ad (8 + y)))] := hl
  have hfix : CallFix p m c cX3_count 3 s args wsX3_count RX3 := ⟨hx, hb, hml, hown, hts⟩
  have in_X7 : ∀ w ∈ u_ws RX7 TX7 2, w ∈ wsX3_count := by decide +kernel
  have in_X3 : ∀ w ∈ u_ws RX3 TX3 1, w ∈ wsX3_count := by decide +kernel
  have wd_0 := hts (.fieldLink RX3 15 "FuseBench$Table" "kinds" "I") (by decide +kernel)
  have wd_1 := hts (.fieldLink RX3 9 "FuseBench$Namings" "names" "[I") (by decide +kernel)
  unfold f_X3_count at hf
  refine lv_aload_n hx hb dX3_count_0 rfl (lv_at hl 1 rfl) ?_
  refine va_get (D := (dC, dI)) (ci := 6) (v := .int (I (8 + x) 0)) (C := RX7) (T := TX7) (N := 2) hx hb hts in_X7 hown hK hP (8 + x) (((wBT ad cI cJ cT htx)).2.1 I J) rfl 1 (by decide) wd_0 (fun _ h9 => h9) rfl dX3_count_1 ?_
  refine lv_aload_n hx hb dX3_count_4 rfl (lv_at hl 2 rfl) ?_
  refine va_get (D := (dC, dI)) (ci := 6) (v := .int (I (8 + y) 0)) (C := RX7) (T := TX7) (N := 2) hx hb hts in_X7 hown hK hP (8 + y) (((wBT ad cI cJ cT hty)).2.1 I J) rfl 1 (by decide) wd_0 (fun _ h9 => h9) rfl dX3_count_5 ?_
  refine lv_icmp_ne (tgt := 25) hx hb dX3_count_8 (by decide) (fun c_1 => ?_) (fun c_1 => ?_)
  · have hf := (if_neg c_1).symm.trans hf
    refine lv_iconst (v := (0 : Int32)) hx hb dX3_count_25 (by decide) ?_
    cases hf
    exact xRi hx hb hr hlocks hK hP hD hS (fun _ h => h) dX3_count_26
  · have hf := (if_pos c_1).symm.trans hf
    refine lv_aload_n hx hb dX3_count_11 rfl (lv_at hl 1 rfl) ?_
    refine lv_aload_n hx hb dX3_count_12 rfl (lv_at hl 2 rfl) ?_
    refine lv_aload_n hx hb dX3_count_13 rfl (lv_at hl 0 rfl) ?_
    refine va_get (D := (dC, dI)) (ci := 3) (v := .ref (ad 26)) (C := RX3) (T := TX3) (N := 1) hx hb hts in_X3 hown hK hP 27 (obB_27 ad cI cJ cT I J) rfl 0 (by decide) wd_1 (fun _ h9 => h9) rfl dX3_count_14 ?_
    refine lv_iconst (v := (1 : Int32)) hx hb dX3_count_17 (by decide) ?_
    refine lv_iconst (v := (1 : Int32)) hx hb dX3_count_18 (by decide) ?_
    obtain ⟨⟨r_2, I_2⟩, hg_2, hf⟩ := bd_some hf
    refine xSi (rest := []) (c_X3_countFrom_6 l dC dI ad cI cJ cT x htx y hty (1 : Int32) (1 : Int32) I J hg_2) hfix (va_cwS 5 hts gX3_count_X3_countFrom rfl rfl rfl (by decide +kernel) ⟨Nat.le_of_ble_eq_true rfl, Nat.le_of_ble_eq_true rfl⟩) hK hP hD hS hA rfl hl.1 rfl (Nat.le_of_ble_eq_true rfl) ⟨Nat.zero_le _, Nat.zero_le _⟩ dX3_count_19 (fun H locs hP hD hS => ?_)
    refine lv_goto (tgt := 26) hx hb dX3_count_22 (by decide) ?_
    cases hf
    exact xRi hx hb hr hlocks hK hP hD hS (fun _ h => h) dX3_count_26
set_option maxHeartbeats 4000000 in
set_option maxRecDepth 100000 in
theorem c_X4_lastOfBroken (l : Launch) (dC : Nat → ClassId) (dI : Nat → Nat → Nat) (ad : Nat → Nat) (cI cJ cT : ClassId) (x : Nat) (htx : x < 8) (p2 : Int32) (I : SI) (J : SJ) {r0 : Int32} (hf : f_X4_lastOfBroken x p2 I = some r0) : CtI l yX4_lastOfBroken wsX4_lastOfBroken ({ frames := 2, cells := 0, slots := 0, locals := 45 } : Room) (dC, dI) (tys3 cI cJ cT) (wB ad cI cJ cT) [.ref (ad 29), .ref (ad (8 + x)), .int p2] I J r0 I J := by
  intro sz
  refine Met.ofW (cc := cX4_lastOfBroken) (maxL := 9) (ret := (some .int)) (by decide) rfl ?_
  intro p e s m args below meth c s₁ B hml hv
  obtain ⟨hargs, hsz, hP, hK, hD0⟩ := hv
  have hx := B.exec
  have hb := B.bytes
  have hr := B.returns
  have hts := atoms_spec (ws := wsX4_lastOfBroken) B.pre
  have hown : s.vm.findClass RX4 = some m.cls := findClass_of_methodNamed B.named
  have hlocks := B.notSynchronized
  subst hsz
  have hD := hD0.self (sz := s.heap.size)
  generalize hAe : va_A ((wB ad cI cJ cT) I J) s.heap.size = A at hD ⊢
  have hA : ∀ q : Nat, s.heap.size ≤ q → A q := fun q h => by rw [← hAe]; exact Or.inr h
  have hS : va_S A s.heap s.heap [] := va_S.rf
  have hl := lv_entry ([.ref (ad 29), .ref (ad (8 + x)), .int p2]) (n := 9) (Nat.le_of_ble_eq_true rfl)
  rw [hargs, lg_entry_eq, ← hargs]
  generalize (lg_sl ([.ref (ad 29), .ref (ad (8 + x)), .int p2]) ++ List.replicate (9 - (lg_sl ([.ref (ad 29), .ref (ad (8 + x)), .int p2])).length) Slot.unset).toArray = ls at hl ⊢
  have hl : lv_has ls 9 [(0, .ref (ad 29)), (1, .ref (ad (8 + x))), (2, .int p2)] := hl
  have hfix : CallFix p m c cX4_lastOfBroken 9 s args wsX4_lastOfBroken RX4 := ⟨hx, hb, hml, hown, hts⟩
  have in_X7 : ∀ w ∈ u_ws RX7 TX7 2, w ∈ wsX4_lastOfBroken := by decide +kernel
  have in_X4 : ∀ w ∈ u_ws RX4 TX4 2, w ∈ wsX4_lastOfBroken := by decide +kernel
  have wd_0 := hts (.fieldLink RX4 33 "FuseBench$Table" "kinds" "I") (by decide +kernel)
  have wd_1 := hts (.fieldLink RX4 9 "FuseBench$Remainders" "row" "[I") (by decide +kernel)
  have wd_2 := hts (.methodLink RX4 46 Lib.Math.max.name) (by decide +kernel)
  have wd_3 := hts (.static Lib.Math.max.name) (by decide +kernel)
  have wd_4 := hts (.initialized "java/lang/Math") (by decide +kernel)
  have wd_5 := hts (.code Lib.Math.max.name Lib.Math.max.code 2 (some .int)) (by decide +kernel)
  have L41 : ∀ (Q : State → Prop) (v2 : Int32) (v3 : Int32) (v4 : Int32) (I : SI) (J : SJ) (o : Int32 × Int32), (∀ (w5 : Int32) (w6 : Int32) (H : Heap) (locs : List Loc) (ls : Array Slot), o = (w5, w6) → va_P (dC, dI) vwCl ((wB ad cI cJ cT) I J) H → va_D A ((wB ad cI cJ cT) I J) → va_S A s.heap H locs → lv_has ls 9 [(0, .ref (ad 29)), (1, .ref (ad (8 + x))), (2, .int v2), (3, .int v3), (4, .int v4), (5, .int w5), (6, .int w6)] → W p l e ({ frames := 2, cells := 0, slots := 0, locals := 45 } : Room) s m args below meth c H locs 0 0 Q (F0 m 101 ls [])) → ∀ (n : Nat) (v5 : Int32) (v6 : Int32) (v7 : Int32) (H : Heap) (locs : List Loc) (ls : Array Slot), lp_X4_lastOfBroken_41 x v2 v3 v4 I n v5 v6 v7 = some o → va_P (dC, dI) vwCl ((wB ad cI cJ cT) I J) H → va_D A ((wB ad cI cJ cT) I J) → va_S A s.heap H locs → lv_has ls 9 [(0, .ref (ad 29)), (1, .ref (ad (8 + x))), (2, .int v2), (3, .int v3), (4, .int v4), (5, .int v5), (6, .int v6), (7, .int v7)] → W p l e ({ frames := 2, cells := 0, slots := 0, locals := 45 } : Room) s m args below meth c H locs 0 0 Q (F0 m 41 ls []) := by
    intro Q v2 v3 v4 I J o K0 n
    clear hP hD hS hl
    induction n with
    | zero =>
      intro v5 v6 v7 H locs ls hf
      rw [lp_X4_lastOfBroken_41.eq_1] at hf
      cases hf
    | succ n ih =>
      intro v5 v6 v7 H locs ls hf hP hD hS hl
      rw [lp_X4_lastOfBroken_41.eq_2] at hf
      refine lv_iload hx hb dX4_lastOfBroken_41 (lv_at hl 7 rfl) ?_
      refine lv_aload_n hx hb dX4_lastOfBroken_43 rfl (lv_at hl 1 rfl) ?_
      refine va_get (D := (dC, dI)) (ci := 6) (v := .int (I (8 + x) 0)) (C := RX7) (T := TX7) (N := 2) hx hb hts in_X7 hown hK hP (8 + x) (((wBT ad cI cJ cT htx)).2.1 I J) rfl 1 (by decide) wd_0 (fun _ h9 => h9) rfl dX4_lastOfBroken_44 ?_
      refine lv_icmp_ge (tgt := 101) hx hb dX4_lastOfBroken_47 (by decide) (fun c_1 => ?_) (fun c_1 => ?_)
      · have hf := (if_pos c_1).symm.trans hf
        exact K0 _ _ _ _ _ (Option.some.inj hf).symm hP hD hS (lv_sub hl [0, 1, 2, 3, 4, 5, 6] rfl)
      · have hf := (if_neg c_1).symm.trans hf
        refine lv_aload_n hx hb dX4_lastOfBroken_50 rfl (lv_at hl 1 rfl) ?_
        refine lv_iload_n hx hb dX4_lastOfBroken_51 rfl (lv_at hl 3 rfl) ?_
        refine lv_iload hx hb dX4_lastOfBroken_52 (lv_at hl 4 rfl) ?_
        refine lv_iload hx hb dX4_lastOfBroken_54 (lv_at hl 7 rfl) ?_
        obtain ⟨r_2, hg_2, hf⟩ := bd_some hf
        refine xVi (rest := []) (c_X7_number l dC dI ad cI cJ cT (wB ad cI cJ cT) (fun k => k) x (wBT ad cI cJ cT htx) v3 v4 v7 I J hg_2) hfix (cwV 3 hts gX4_lastOfBroken_X7_number rfl rfl rfl (by decide +kernel) ⟨Nat.le_of_ble_eq_true rfl, Nat.le_of_ble_eq_true rfl⟩) hK hP hD hS hA (va_recv hK hP (ci := 6) (q0 := (8 + x)) rfl (((wBT ad cI cJ cT htx)).2.1 I J)) rfl hl.1 rfl (Nat.le_of_ble_eq_true rfl) ⟨Nat.zero_le _, Nat.zero_le _⟩ dX4_lastOfBroken_56 (fun H locs hP hD hS => ?_)
        refine lv_istore (lv' := [(8, .int r_2), (0, .ref (ad 29)), (1, .ref (ad (8 + x))), (2, .int v2), (3, .int v3), (4, .int v4), (5, .int v5), (6, .int v6), (7, .int v7)]) hx hb dX4_lastOfBroken_59 hl (by decide) rfl (fun ls hl => ?_)
        refine lv_iload hx hb dX4_lastOfBroken_61 (lv_at hl 6 rfl) ?_
        refine lv_iload hx hb dX4_lastOfBroken_63 (lv_at hl 0 rfl) ?_
        refine lv_aload_n hx hb dX4_lastOfBroken_65 rfl (lv_at hl 1 rfl) ?_
        refine va_get (D := (dC, dI)) (ci := 4) (v := .ref (ad 28)) (C := RX4) (T := TX4) (N := 2) hx hb hts in_X4 hown hK hP 29 (obB_29 ad cI cJ cT I J) rfl 0 (by decide) wd_1 (fun _ h9 => h9) rfl dX4_lastOfBroken_66 ?_
        refine lv_iload hx hb dX4_lastOfBroken_69 (lv_at hl 8 rfl) ?_
        obtain ⟨h_3, hf⟩ := gd_some hf
        refine x_iald hx hb hK (aiB_28 ad cI cJ cT) hP h_3 dX4_lastOfBroken_71 ?_
        refine lv_imul hx hb dX4_lastOfBroken_72 ?_
        refine lv_isub hx hb dX4_lastOfBroken_73 ?_
        refine lv_istore (lv' := [(5, .int (v5 - (r_2 * (I 28 v7.toNatClampNeg)))), (8, .int r_2), (0, .ref (ad 29)), (1, .ref (ad (8 + x))), (2, .int v2), (3, .int v3), (4, .int v4), (6, .int v6), (7, .int v7)]) hx hb dX4_lastOfBroken_74 hl (by decide) rfl (fun ls hl => ?_)
        refine lv_iload hx hb dX4_lastOfBroken_76 (lv_at hl 1 rfl) ?_
        refine lv_if_le (tgt := 91) hx hb dX4_lastOfBroken_78 (by decide) (fun c_4 => ?_) (fun c_4 => ?_)
        · have hf := (if_pos c_4).symm.trans hf
          refine lv_iload hx hb dX4_lastOfBroken_91 (lv_at hl 7 rfl) ?_
          refine lv_istore (lv' := [(6, .int v6), (5, .int (v5 - (r_2 * (I 28 v7.toNatClampNeg)))), (8, .int r_2), (0, .ref (ad 29)), (1, .ref (ad (8 + x))), (2, .int v2), (3, .int v3), (4, .int v4), (7, .int v7)]) hx hb dX4_lastOfBroken_93 hl (by decide) rfl (fun ls hl => ?_)
          refine lv_iinc (v := (v7 + (1 : Int32))) (lv' := [(7, .int (v7 + (1 : Int32))), (6, .int v6), (5, .int (v5 - (r_2 * (I 28 v7.toNatClampNeg)))), (8, .int r_2), (0, .ref (ad 29)), (1, .ref (ad (8 + x))), (2, .int v2), (3, .int v3), (4, .int v4)]) hx hb dX4_lastOfBroken_95 hl (k := 8) rfl (by first | rfl | decide) (by decide) rfl (fun ls hl => ?_)
          refine lv_goto (tgt := 41) hx hb dX4_lastOfBroken_98 (by decide) ?_
          exact ih _ _ _ _ _ _ hf hP hD hS (lv_sub hl [4, 5, 6, 7, 8, 2, 1, 0] rfl)
        · have hf := (if_neg c_4).symm.trans hf
          refine lv_iload hx hb dX4_lastOfBroken_81 (lv_at hl 7 rfl) ?_
          refine lv_iload hx hb dX4_lastOfBroken_83 (lv_at hl 8 rfl) ?_
          refine va_mmax hx hb (hml.trans hl.1.symm) hown wd_2 wd_3 wd_4 wd_5 (Nat.le_of_ble_eq_true rfl) (Nat.le_of_ble_eq_true rfl) (Nat.zero_le _) (Nat.zero_le _) dX4_lastOfBroken_85 ?_
          refine lv_goto (tgt := 93) hx hb dX4_lastOfBroken_88 (by decide) ?_
          refine lv_istore (lv' := [(6, .int (if v6 < v7 then v7 else v6)), (5, .int (v5 - (r_2 * (I 28 v7.toNatClampNeg)))), (8, .int r_2), (0, .ref (ad 29)), (1, .ref (ad (8 + x))), (2, .int v2), (3, .int v3), (4, .int v4), (7, .int v7)]) hx hb dX4_lastOfBroken_93 hl (by decide) rfl (fun ls hl => ?_)
          refine lv_iinc (v := (v7 + (1 : Int32))) (lv' := [(7, .int (v7 + (1 : Int32))), (6, .int (if v6 < v7 then v7 else v6)), (5, .int (v5 - (r_2 * (I 28 v7.toNatClampNeg)))), (8, .int r_2), (0, .ref (ad 29)), (1, .ref (ad (8 + x))), (2, .int v2), (3, .int v3), (4, .int v4)]) hx hb dX4_lastOfBroken_95 hl (k := 8) rfl (by first | rfl | decide) (by decide) rfl (fun ls hl => ?_)
          refine lv_goto (tgt := 41) hx hb dX4_lastOfBroken_98 (by decide) ?_
          exact ih _ _ _ _ _ _ hf hP hD hS (lv_sub hl [4, 5, 6, 7, 8, 2, 1, 0] rfl)
  have L13 : ∀ (Q : State → Prop) (v2 : Int32) (v3 : Int32) (I : SI) (J : SJ) (o : Nat × Int32), (∀ (w6 : Int32) (H : Heap) (locs : List Loc) (ls : Array Slot), o = (0, w6) → va_P (dC, dI) vwCl ((wB ad cI cJ cT) I J) H → va_D A ((wB ad cI cJ cT) I J) → va_S A s.heap H locs → lv_has ls 9 [(6, .int w6)] → W p l e ({ frames := 2, cells := 0, slots := 0, locals := 45 } : Room) s m args below meth c H locs 0 0 Q (F0 m 112 ls [])) → (∀ (w6 : Int32) (H : Heap) (locs : List Loc) (ls : Array Slot), o = (1, w6) → va_P (dC, dI) vwCl ((wB ad cI cJ cT) I J) H → va_D A ((wB ad cI cJ cT) I J) → va_S A s.heap H locs → lv_has ls 9 [(0, .ref (ad 29)), (1, .ref (ad (8 + x))), (2, .int v2), (3, .int v3)] → W p l e ({ frames := 2, cells := 0, slots := 0, locals := 45 } : Room) s m args below meth c H locs 0 0 Q (F0 m 121 ls [])) → ∀ (n : Nat) (v4 : Int32) (H : Heap) (locs : List Loc) (ls : Array Slot), lp_X4_lastOfBroken_13 x v2 v3 I n v4 = some o → va_P (dC, dI) vwCl ((wB ad cI cJ cT) I J) H → va_D A ((wB ad cI cJ cT) I J) → va_S A s.heap H locs → lv_has ls 9 [(0, .ref (ad 29)), (1, .ref (ad (8 + x))), (2, .int v2), (3, .int v3), (4, .int v4)] → W p l e ({ frames := 2, cells := 0, slots := 0, locals := 45 } : Room) s m args below meth c H locs 0 0 Q (F0 m 13 ls []) := by
    intro Q v2 v3 I J o K0 K1 n
    clear hP hD hS hl
    induction n with
    | zero =>
      intro v4 H locs ls hf
      rw [lp_X4_lastOfBroken_13.eq_1] at hf
      cases hf
    | succ n ih =>
      intro v4 H locs ls hf hP hD hS hl
      rw [lp_X4_lastOfBroken_13.eq_2] at hf
      refine lv_iload hx hb dX4_lastOfBroken_13 (lv_at hl 4 rfl) ?_
      refine lv_iload_n hx hb dX4_lastOfBroken_15 rfl (lv_at hl 3 rfl) ?_
      refine lv_icmp_gt (tgt := 121) hx hb dX4_lastOfBroken_16 (by decide) (fun c_5 => ?_) (fun c_5 => ?_)
      · have hf := (if_pos c_5).symm.trans hf
        exact K1 _ _ _ _ (Option.some.inj hf).symm hP hD hS (lv_sub hl [0, 1, 2, 3] rfl)
      · have hf := (if_neg c_5).symm.trans hf
        refine lv_aload_n hx hb dX4_lastOfBroken_19 rfl (lv_at hl 0 rfl) ?_
        refine va_get (D := (dC, dI)) (ci := 4) (v := .ref (ad 28)) (C := RX4) (T := TX4) (N := 2) hx hb hts in_X4 hown hK hP 29 (obB_29 ad cI cJ cT I J) rfl 0 (by decide) wd_1 (fun _ h9 => h9) rfl dX4_lastOfBroken_20 ?_
        refine lv_iload_n hx hb dX4_lastOfBroken_23 rfl (lv_at hl 3 rfl) ?_
        obtain ⟨h_6, hf⟩ := gd_some hf
        refine x_iald hx hb hK (aiB_28 ad cI cJ cT) hP h_6 dX4_lastOfBroken_24 ?_
        refine lv_aload_n hx hb dX4_lastOfBroken_25 rfl (lv_at hl 0 rfl) ?_
        refine va_get (D := (dC, dI)) (ci := 4) (v := .ref (ad 28)) (C := RX4) (T := TX4) (N := 2) hx hb hts in_X4 hown hK hP 29 (obB_29 ad cI cJ cT I J) rfl 0 (by decide) wd_1 (fun _ h9 => h9) rfl dX4_lastOfBroken_26 ?_
        refine lv_iload hx hb dX4_lastOfBroken_29 (lv_at hl 4 rfl) ?_
        obtain ⟨h_7, hf⟩ := gd_some hf
        refine x_iald hx hb hK (aiB_28 ad cI cJ cT) hP h_7 dX4_lastOfBroken_31 ?_
        refine lv_imul hx hb dX4_lastOfBroken_32 ?_
        refine lv_istore (lv' := [(5, .int ((I 28 v3.toNatClampNeg) * (I 28 v4.toNatClampNeg))), (0, .ref (ad 29)), (1, .ref (ad (8 + x))), (2, .int v2), (3, .int v3), (4, .int v4)]) hx hb dX4_lastOfBroken_33 hl (by decide) rfl (fun ls hl => ?_)
        refine lv_iload_n hx hb dX4_lastOfBroken_35 rfl (lv_at hl 4 rfl) ?_
        refine lv_istore (lv' := [(6, .int v3), (5, .int ((I 28 v3.toNatClampNeg) * (I 28 v4.toNatClampNeg))), (0, .ref (ad 29)), (1, .ref (ad (8 + x))), (2, .int v2), (3, .int v3), (4, .int v4)]) hx hb dX4_lastOfBroken_36 hl (by decide) rfl (fun ls hl => ?_)
        refine lv_iconst (v := (0 : Int32)) hx hb dX4_lastOfBroken_38 (by decide) ?_
        refine lv_istore (lv' := [(7, .int (0 : Int32)), (6, .int v3), (5, .int ((I 28 v3.toNatClampNeg) * (I 28 v4.toNatClampNeg))), (0, .ref (ad 29)), (1, .ref (ad (8 + x))), (2, .int v2), (3, .int v3), (4, .int v4)]) hx hb dX4_lastOfBroken_39 hl (by decide) rfl (fun ls hl => ?_)
        obtain ⟨o_8, hg_8, hf⟩ := bd_some hf
        refine L41 _ v2 v3 v4 I J o_8 ?_ FU ((I 28 v3.toNatClampNeg) * (I 28 v4.toNatClampNeg)) v3 (0 : Int32) _ _ _ hg_8 hP hD hS (lv_sub hl [3, 4, 5, 6, 7, 2, 1, 0] rfl)
        · intro w5_8 w6_8 H locs ls ho hP hD hS hl
          subst o_8
          refine lv_iload_n hx hb dX4_lastOfBroken_101 rfl (lv_at hl 2 rfl) ?_
          refine lv_if_le (tgt := 115) hx hb dX4_lastOfBroken_102 (by decide) (fun c_9 => ?_) (fun c_9 => ?_)
          · have hf := (if_pos c_9).symm.trans hf
            refine lv_iinc (v := (v4 + (1 : Int32))) (lv' := [(4, .int (v4 + (1 : Int32))), (0, .ref (ad 29)), (1, .ref (ad (8 + x))), (2, .int v2), (3, .int v3), (5, .int w5_8), (6, .int w6_8)]) hx hb dX4_lastOfBroken_115 hl (k := 4) rfl (by first | rfl | decide) (by decide) rfl (fun ls hl => ?_)
            refine lv_goto (tgt := 13) hx hb dX4_lastOfBroken_118 (by decide) ?_
            exact ih _ _ _ _ hf hP hD hS (lv_sub hl [1, 2, 3, 4, 0] rfl)
          · have hf := (if_neg c_9).symm.trans hf
            refine lv_iload hx hb dX4_lastOfBroken_105 (lv_at hl 5 rfl) ?_
            refine lv_iload_n hx hb dX4_lastOfBroken_107 rfl (lv_at hl 2 rfl) ?_
            obtain ⟨h_10, hf⟩ := gd_some hf
            refine lv_irem hx hb dX4_lastOfBroken_108 h_10 ?_
            refine lv_if_eq (tgt := 115) hx hb dX4_lastOfBroken_109 (by decide) (fun c_11 => ?_) (fun c_11 => ?_)
            · have hf := (if_pos c_11).symm.trans hf
              refine lv_iinc (v := (v4 + (1 : Int32))) (lv' := [(4, .int (v4 + (1 : Int32))), (0, .ref (ad 29)), (1, .ref (ad (8 + x))), (2, .int v2), (3, .int v3), (5, .int w5_8), (6, .int w6_8)]) hx hb dX4_lastOfBroken_115 hl (k := 4) rfl (by first | rfl | decide) (by decide) rfl (fun ls hl => ?_)
              refine lv_goto (tgt := 13) hx hb dX4_lastOfBroken_118 (by decide) ?_
              exact ih _ _ _ _ hf hP hD hS (lv_sub hl [1, 2, 3, 4, 0] rfl)
            · have hf := (if_neg c_11).symm.trans hf
              exact K0 _ _ _ _ (Option.some.inj hf).symm hP hD hS (lv_sub hl [6] rfl)
  have L2 : ∀ (Q : State → Prop) (v2 : Int32) (I : SI) (J : SJ) (o : Nat × Int32), (∀ (w6 : Int32) (H : Heap) (locs : List Loc) (ls : Array Slot), o = (0, w6) → va_P (dC, dI) vwCl ((wB ad cI cJ cT) I J) H → va_D A ((wB ad cI cJ cT) I J) → va_S A s.heap H locs → lv_has ls 9 [(6, .int w6)] → W p l e ({ frames := 2, cells := 0, slots := 0, locals := 45 } : Room) s m args below meth c H locs 0 0 Q (F0 m 112 ls [])) → (∀ (w6 : Int32) (H : Heap) (locs : List Loc) (ls : Array Slot), o = (1, w6) → va_P (dC, dI) vwCl ((wB ad cI cJ cT) I J) H → va_D A ((wB ad cI cJ cT) I J) → va_S A s.heap H locs → lv_has ls 9 [] → W p l e ({ frames := 2, cells := 0, slots := 0, locals := 45 } : Room) s m args below meth c H locs 0 0 Q (F0 m 127 ls [])) → ∀ (n : Nat) (v3 : Int32) (H : Heap) (locs : List Loc) (ls : Array Slot), lp_X4_lastOfBroken_2 x v2 I n v3 = some o → va_P (dC, dI) vwCl ((wB ad cI cJ cT) I J) H → va_D A ((wB ad cI cJ cT) I J) → va_S A s.heap H locs → lv_has ls 9 [(0, .ref (ad 29)), (1, .ref (ad (8 + x))), (2, .int v2), (3, .int v3)] → W p l e ({ frames := 2, cells := 0, slots := 0, locals := 45 } : Room) s m args below meth c H locs 0 0 Q (F0 m 2 ls []) := by
    intro Q v2 I J o K0 K1 n
    clear hP hD hS hl
    induction n with
    | zero =>
      intro v3 H locs ls hf
      rw [lp_X4_lastOfBroken_2.eq_1] at hf
      cases hf
    | succ n ih =>
      intro v3 H locs ls hf hP hD hS hl
      rw [lp_X4_lastOfBroken_2.eq_2] at hf
      refine lv_iload_n hx hb dX4_lastOfBroken_2 rfl (lv_at hl 3 rfl) ?_
      refine lv_aload_n hx hb dX4_lastOfBroken_3 rfl (lv_at hl 1 rfl) ?_
      refine va_get (D := (dC, dI)) (ci := 6) (v := .int (I (8 + x) 0)) (C := RX7) (T := TX7) (N := 2) hx hb hts in_X7 hown hK hP (8 + x) (((wBT ad cI cJ cT htx)).2.1 I J) rfl 1 (by decide) wd_0 (fun _ h9 => h9) rfl dX4_lastOfBroken_4 ?_
      refine lv_icmp_ge (tgt := 127) hx hb dX4_lastOfBroken_7 (by decide) (fun c_12 => ?_) (fun c_12 => ?_)
      · have hf := (if_pos c_12).symm.trans hf
        exact K1 _ _ _ _ (Option.some.inj hf).symm hP hD hS (lv_sub hl [] rfl)
      · have hf := (if_neg c_12).symm.trans hf
        refine lv_iconst (v := (1 : Int32)) hx hb dX4_lastOfBroken_10 (by decide) ?_
        refine lv_istore (lv' := [(4, .int (1 : Int32)), (0, .ref (ad 29)), (1, .ref (ad (8 + x))), (2, .int v2), (3, .int v3)]) hx hb dX4_lastOfBroken_11 hl (by decide) rfl (fun ls hl => ?_)
        obtain ⟨o_13, hg_13, hf⟩ := bd_some hf
        refine L13 _ v2 v3 I J o_13 ?_ ?_ FU (1 : Int32) _ _ _ hg_13 hP hD hS (lv_sub hl [1, 2, 3, 4, 0] rfl)
        · intro w6_13 H locs ls ho hP hD hS hl
          subst o_13
          have hf := (if_pos (show 0 = 0 from rfl)).symm.trans hf
          exact K0 _ _ _ _ (Option.some.inj hf).symm hP hD hS (lv_sub hl [0] rfl)
        · intro w6_13 H locs ls ho hP hD hS hl
          subst o_13
          have hf := (if_neg (show ¬ (1 = 0) by decide)).symm.trans hf
          refine lv_iinc (v := (v3 + (1 : Int32))) (lv' := [(3, .int (v3 + (1 : Int32))), (0, .ref (ad 29)), (1, .ref (ad (8 + x))), (2, .int v2)]) hx hb dX4_lastOfBroken_121 hl (k := 3) rfl (by first | rfl | decide) (by decide) rfl (fun ls hl => ?_)
          refine lv_goto (tgt := 2) hx hb dX4_lastOfBroken_124 (by decide) ?_
          exact ih _ _ _ _ hf hP hD hS (lv_sub hl [1, 2, 3, 0] rfl)
  unfold f_X4_lastOfBroken at hf
  refine lv_iconst (v := (1 : Int32)) hx hb dX4_lastOfBroken_0 (by decide) ?_
  refine lv_istore_n (lv' := [(3, .int (1 : Int32)), (0, .ref (ad 29)), (1, .ref (ad (8 + x))), (2, .int p2)]) hx hb dX4_lastOfBroken_1 rfl hl (by decide) rfl (fun ls hl => ?_)
  obtain ⟨o_14, hg_14, hf⟩ := bd_some hf
  refine L2 _ p2 I J o_14 ?_ ?_ FU (1 : Int32) _ _ _ hg_14 hP hD hS (lv_sub hl [1, 2, 3, 0] rfl)
  · intro w6_14 H locs ls ho hP hD hS hl
    subst o_14
    have hf := (if_pos (show 0 = 0 from rfl)).symm.trans hf
    refine lv_iload hx hb dX4_lastOfBroken_112 (lv_at hl 0 rfl) ?_
    cases hf
    exact xRi hx hb hr hlocks hK hP hD hS (fun _ h => h) dX4_lastOfBroken_114
  · intro w6_14 H locs ls ho hP hD hS hl
    subst o_14
    have hf := (if_neg (show ¬ (1 = 0) by decide)).symm.trans hf
    refine lv_iconst (v := (-1 : Int32)) hx hb dX4_lastOfBroken_127 (by decide) ?_
    cases hf
    exact xRi hx hb hr hlocks hK hP hD hS (fun _ h => h) dX4_lastOfBroken_128
set_option maxHeartbeats 4000000 in
set_option maxRecDepth 100000 in
theorem c_X4_nextRow (l : Launch) (dC : Nat → ClassId) (dI : Nat → Nat → Nat) (ad : Nat → Nat) (cI cJ cT : ClassId) (p1 : Int32) (p2 : Int32) (p3 : Int32) (I : SI) (J : SJ) {r0 : Int32} {I0 : SI} (hf : f_X4_nextRow p1 p2 p3 I = some (r0, I0)) : CtI l yX4_nextRow wsX4_nextRow ({ frames := 0, cells := 0, slots := 0, locals := 0 } : Room) (dC, dI) (tys3 cI cJ cT) (wB ad cI cJ cT) [.ref (ad 29), .int p1, .int p2, .int p3] I J r0 I0 J := by
  intro sz
  refine Met.ofW (cc := cX4_nextRow) (maxL := 5) (ret := (some .boolean)) (by decide) rfl ?_
  intro p e s m args below meth c s₁ B hml hv
  obtain ⟨hargs, hsz, hP, hK, hD0⟩ := hv
  have hx := B.exec
  have hb := B.bytes
  have hr := B.returns
  have hts := atoms_spec (ws := wsX4_nextRow) B.pre
  have hown : s.vm.findClass RX4 = some m.cls := findClass_of_methodNamed B.named
  have hlocks := B.notSynchronized
  subst hsz
  have hD := hD0.self (sz := s.heap.size)
  generalize hAe : va_A ((wB ad cI cJ cT) I J) s.heap.size = A at hD ⊢
  have hA : ∀ q : Nat, s.heap.size ≤ q → A q := fun q h => by rw [← hAe]; exact Or.inr h
  have hS : va_S A s.heap s.heap [] := va_S.rf
  have hl := lv_entry ([.ref (ad 29), .int p1, .int p2, .int p3]) (n := 5) (Nat.le_of_ble_eq_true rfl)
  rw [hargs, lg_entry_eq, ← hargs]
  generalize (lg_sl ([.ref (ad 29), .int p1, .int p2, .int p3]) ++ List.replicate (5 - (lg_sl ([.ref (ad 29), .int p1, .int p2, .int p3])).length) Slot.unset).toArray = ls at hl ⊢
  have hl : lv_has ls 5 [(0, .ref (ad 29)), (1, .int p1), (2, .int p2), (3, .int p3)] := hl
  have hfix : CallFix p m c cX4_nextRow 5 s args wsX4_nextRow RX4 := ⟨hx, hb, hml, hown, hts⟩
  have in_X4 : ∀ w ∈ u_ws RX4 TX4 2, w ∈ wsX4_nextRow := by decide +kernel
  have wd_0 := hts (.fieldLink RX4 9 "FuseBench$Remainders" "row" "[I") (by decide +kernel)
  have L5 : ∀ (Q : State → Prop) (v2 : Int32) (v3 : Int32) (J : SJ) (o : Nat × Int32 × SI), (∀ (w4 : Int32) (I : SI) (H : Heap) (locs : List Loc) (ls : Array Slot), o = (0, w4, I) → va_P (dC, dI) vwCl ((wB ad cI cJ cT) I J) H → va_D A ((wB ad cI cJ cT) I J) → va_S A s.heap H locs → lv_has ls 5 [(0, .ref (ad 29)), (4, .int w4)] → W p l e ({ frames := 0, cells := 0, slots := 0, locals := 0 } : Room) s m args below meth c H locs 0 0 Q (F0 m 30 ls [])) → (∀ (w4 : Int32) (I : SI) (H : Heap) (locs : List Loc) (ls : Array Slot), o = (1, w4, I) → va_P (dC, dI) vwCl ((wB ad cI cJ cT) I J) H → va_D A ((wB ad cI cJ cT) I J) → va_S A s.heap H locs → lv_has ls 5 [] → W p l e ({ frames := 0, cells := 0, slots := 0, locals := 0 } : Room) s m args below meth c H locs 0 0 Q (F0 m 57 ls [])) → ∀ (n : Nat) (v4 : Int32) (I : SI) (H : Heap) (locs : List Loc) (ls : Array Slot), lp_X4_nextRow_5 v2 v3 n v4 I = some o → va_P (dC, dI) vwCl ((wB ad cI cJ cT) I J) H → va_D A ((wB ad cI cJ cT) I J) → va_S A s.heap H locs → lv_has ls 5 [(0, .ref (ad 29)), (2, .int v2), (3, .int v3), (4, .int v4)] → W p l e ({ frames := 0, cells := 0, slots := 0, locals := 0 } : Room) s m args below meth c H locs 0 0 Q (F0 m 5 ls []) := by
    intro Q v2 v3 J o K0 K1 n
    clear hP hD hS hl
    induction n with
    | zero =>
      intro v4 I H locs ls hf
      rw [lp_X4_nextRow_5.eq_1] at hf
      cases hf
    | succ n ih =>
      intro v4 I H locs ls hf hP hD hS hl
      rw [lp_X4_nextRow_5.eq_2] at hf
      refine lv_iload hx hb dX4_nextRow_5 (lv_at hl 3 rfl) ?_
      refine lv_iconst (v := (1 : Int32)) hx hb dX4_nextRow_7 (by decide) ?_
      refine lv_icmp_lt (tgt := 57) hx hb dX4_nextRow_8 (by decide) (fun c_1 => ?_) (fun c_1 => ?_)
      · have hf := (if_pos c_1).symm.trans hf
        exact K1 _ _ _ _ _ (Option.some.inj hf).symm hP hD hS (lv_sub hl [] rfl)
      · have hf := (if_neg c_1).symm.trans hf
        refine lv_iload hx hb dX4_nextRow_11 (lv_at hl 3 rfl) ?_
        refine lv_iload_n hx hb dX4_nextRow_13 rfl (lv_at hl 2 rfl) ?_
        refine lv_icmp_gt (tgt := 43) hx hb dX4_nextRow_14 (by decide) (fun c_2 => ?_) (fun c_2 => ?_)
        · have hf := (if_pos c_2).symm.trans hf
          refine lv_aload_n hx hb dX4_nextRow_43 rfl (lv_at hl 0 rfl) ?_
          refine va_get (D := (dC, dI)) (ci := 4) (v := .ref (ad 28)) (C := RX4) (T := TX4) (N := 2) hx hb hts in_X4 hown hK hP 29 (obB_29 ad cI cJ cT I J) rfl 0 (by decide) wd_0 (fun _ h9 => h9) rfl dX4_nextRow_44 ?_
          refine lv_iload hx hb dX4_nextRow_47 (lv_at hl 3 rfl) ?_
          refine lv_iconst (v := (0 : Int32)) hx hb dX4_nextRow_49 (by decide) ?_
          obtain ⟨h_3, hf⟩ := gd_some hf
          refine x_iast hx hb hK (aiB_28 ad cI cJ cT) hP hD hS h_3 dX4_nextRow_50 (fun H locs hP hD hS => ?_)
          refine lv_iinc (v := (v4 + (-1 : Int32))) (lv' := [(4, .int (v4 + (-1 : Int32))), (0, .ref (ad 29)), (2, .int v2), (3, .int v3)]) hx hb dX4_nextRow_51 hl (k := 3) rfl (by first | rfl | decide) (by decide) rfl (fun ls hl => ?_)
          refine lv_goto (tgt := 5) hx hb dX4_nextRow_54 (by decide) ?_
          exact ih _ _ _ _ _ hf hP hD hS (lv_sub hl [1, 2, 3, 0] rfl)
        · have hf := (if_neg c_2).symm.trans hf
          refine lv_aload_n hx hb dX4_nextRow_17 rfl (lv_at hl 0 rfl) ?_
          refine va_get (D := (dC, dI)) (ci := 4) (v := .ref (ad 28)) (C := RX4) (T := TX4) (N := 2) hx hb hts in_X4 hown hK hP 29 (obB_29 ad cI cJ cT I J) rfl 0 (by decide) wd_0 (fun _ h9 => h9) rfl dX4_nextRow_18 ?_
          refine lv_iload hx hb dX4_nextRow_21 (lv_at hl 3 rfl) ?_
          obtain ⟨h_4, hf⟩ := gd_some hf
          refine x_iald hx hb hK (aiB_28 ad cI cJ cT) hP h_4 dX4_nextRow_23 ?_
          refine lv_iload_n hx hb dX4_nextRow_24 rfl (lv_at hl 1 rfl) ?_
          refine lv_iconst (v := (1 : Int32)) hx hb dX4_nextRow_25 (by decide) ?_
          refine lv_isub hx hb dX4_nextRow_26 ?_
          refine lv_icmp_ge (tgt := 43) hx hb dX4_nextRow_27 (by decide) (fun c_5 => ?_) (fun c_5 => ?_)
          · have hf := (if_pos c_5).symm.trans hf
            refine lv_aload_n hx hb dX4_nextRow_43 rfl (lv_at hl 0 rfl) ?_
            refine va_get (D := (dC, dI)) (ci := 4) (v := .ref (ad 28)) (C := RX4) (T := TX4) (N := 2) hx hb hts in_X4 hown hK hP 29 (obB_29 ad cI cJ cT I J) rfl 0 (by decide) wd_0 (fun _ h9 => h9) rfl dX4_nextRow_44 ?_
            refine lv_iload hx hb dX4_nextRow_47 (lv_at hl 3 rfl) ?_
            refine lv_iconst (v := (0 : Int32)) hx hb dX4_nextRow_49 (by decide) ?_
            obtain ⟨h_6, hf⟩ := gd_some hf
            refine x_iast hx hb hK (aiB_28 ad cI cJ cT) hP hD hS h_6 dX4_nextRow_50 (fun H locs hP hD hS => ?_)
            refine lv_iinc (v := (v4 + (-1 : Int32))) (lv' := [(4, .int (v4 + (-1 : Int32))), (0, .ref (ad 29)), (2, .int v2), (3, .int v3)]) hx hb dX4_nextRow_51 hl (k := 3) rfl (by first | rfl | decide) (by decide) rfl (fun ls hl => ?_)
            refine lv_goto (tgt := 5) hx hb dX4_nextRow_54 (by decide) ?_
            exact ih _ _ _ _ _ hf hP hD hS (lv_sub hl [1, 2, 3, 0] rfl)
          · have hf := (if_neg c_5).symm.trans hf
            exact K0 _ _ _ _ _ (Option.some.inj hf).symm hP hD hS (lv_sub hl [0, 3] rfl)
  unfold f_X4_nextRow at hf
  refine lv_iload_n hx hb dX4_nextRow_0 rfl (lv_at hl 1 rfl) ?_
  refine lv_iconst (v := (1 : Int32)) hx hb dX4_nextRow_1 (by decide) ?_
  refine lv_isub hx hb dX4_nextRow_2 ?_
  refine lv_istore (lv' := [(4, .int (p1 - (1 : Int32))), (0, .ref (ad 29)), (1, .int p1), (2, .int p2), (3, .int p3)]) hx hb dX4_nextRow_3 hl (by decide) rfl (fun ls hl => ?_)
  obtain ⟨o_7, hg_7, hf⟩ := bd_some hf
  refine L5 _ p2 p3 J o_7 ?_ ?_ FU (p1 - (1 : Int32)) I _ _ _ hg_7 hP hD hS (lv_sub hl [1, 3, 4, 0] rfl)
  · intro w4_7 I_7 H locs ls ho hP hD hS hl
    subst o_7
    have hf := (if_pos (show 0 = 0 from rfl)).symm.trans hf
    refine lv_aload_n hx hb dX4_nextRow_30 rfl (lv_at hl 0 rfl) ?_
    refine va_get (D := (dC, dI)) (ci := 4) (v := .ref (ad 28)) (C := RX4) (T := TX4) (N := 2) hx hb hts in_X4 hown hK hP 29 (obB_29 ad cI cJ cT I_7 J) rfl 0 (by decide) wd_0 (fun _ h9 => h9) rfl dX4_nextRow_31 ?_
    refine lv_iload hx hb dX4_nextRow_34 (lv_at hl 1 rfl) ?_
    refine lv_dup2_11 hx hb dX4_nextRow_36 rfl rfl ?_
    obtain ⟨h_8, hf⟩ := gd_some hf
    refine x_iald hx hb hK (aiB_28 ad cI cJ cT) hP h_8 dX4_nextRow_37 ?_
    refine lv_iconst (v := (1 : Int32)) hx hb dX4_nextRow_38 (by decide) ?_
    refine lv_iadd hx hb dX4_nextRow_39 ?_
    obtain ⟨h_9, hf⟩ := gd_some hf
    refine x_iast hx hb hK (aiB_28 ad cI cJ cT) hP hD hS h_9 dX4_nextRow_40 (fun H locs hP hD hS => ?_)
    refine lv_iconst (v := (1 : Int32)) hx hb dX4_nextRow_41 (by decide) ?_
    cases hf
    exact xRz hx hb hr hlocks rfl hK hP hD hS (fun _ h => h) dX4_nextRow_42
  · intro w4_7 I_7 H locs ls ho hP hD hS hl
    subst o_7
    have hf := (if_neg (show ¬ (1 = 0) by decide)).symm.trans hf
    refine lv_iconst (v := (0 : Int32)) hx hb dX4_nextRow_57 (by decide) ?_
    cases hf
    exact xRz hx hb hr hlocks rfl hK hP hD hS (fun _ h => h) dX4_nextRow_58
set_option maxHeartbeats 4000000 in
set_option maxRecDepth 100000 in
theorem c_X4_walk (l : Launch) (dC : Nat → ClassId) (dI : Nat → Nat → Nat) (ad : Nat → Nat) (cI cJ cT : ClassId) (x : Nat) (htx : x < 8) (p2 : Int32) (p3 : Int32) (I : SI) (J : SJ) {r0 : Int32} {I0 : SI} (hf : f_X4_walk x p2 p3 I = some (r0, I0)) : CtI l yX4_walk wsX4_walk ({ frames := 3, cells := 0, slots := 0, locals := 73 } : Room) (dC, dI) (tys3 cI cJ cT) (wB ad cI cJ cT) [.ref (ad 29), .ref (ad (8 + x)), .int p2, .int p3] I J r0 I0 J := by
  intro sz
  refine Met.ofW (cc := cX4_walk) (maxL := 7) (ret := (some .boolean)) (by decide) rfl ?_
  intro p e s m args below meth c s₁ B hml hv
  obtain ⟨hargs, hsz, hP, hK, hD0⟩ := hv
  have hx := B.exec
  have hb := B.bytes
  have hr := B.returns
  have hts := atoms_spec (ws := wsX4_walk) B.pre
  have hown : s.vm.findClass RX4 = some m.cls := findClass_of_methodNamed B.named
  have hlocks := B.notSynchronized
  subst hsz
  have hD := hD0.self (sz := s.heap.size)
  generalize hAe : va_A ((wB ad cI cJ cT) I J) s.heap.size = A at hD ⊢
  have hA : ∀ q : Nat, s.heap.size ≤ q → A q := fun q h => by rw [← hAe]; exact Or.inr h
  have hS : va_S A s.heap s.heap [] := va_S.rf
  have hl := lv_entry ([.ref (ad 29), .ref (ad (8 + x)), .int p2, .int p3]) (n := 7) (Nat.le_of_ble_eq_true rfl)
  rw [hargs, lg_entry_eq, ← hargs]
  generalize (lg_sl ([.ref (ad 29), .ref (ad (8 + x)), .int p2, .int p3]) ++ List.replicate (7 - (lg_sl ([.ref (ad 29), .ref (ad (8 + x)), .int p2, .int p3])).length) Slot.unset).toArray = ls at hl ⊢
  have hl : lv_has ls 7 [(0, .ref (ad 29)), (1, .ref (ad (8 + x))), (2, .int p2), (3, .int p3)] := hl
  have hfix : CallFix p m c cX4_walk 7 s args wsX4_walk RX4 := ⟨hx, hb, hml, hown, hts⟩
  have in_X7 : ∀ w ∈ u_ws RX7 TX7 2, w ∈ wsX4_walk := by decide +kernel
  have in_X4 : ∀ w ∈ u_ws RX4 TX4 2, w ∈ wsX4_walk := by decide +kernel
  have wd_0 := hts (.fieldLink RX4 33 "FuseBench$Table" "kinds" "I") (by decide +kernel)
  have wd_1 := hts (.fieldLink RX4 19 "FuseBench$Remainders" "passed" "I") (by decide +kernel)
  have wd_2 := hts (.fieldLink RX4 9 "FuseBench$Remainders" "row" "[I") (by decide +kernel)
  have L34 : ∀ (Q : State → Prop) (v2 : Int32) (v3 : Int32) (J : SJ) (o : Nat × SI), (∀  (I : SI) (H : Heap) (locs : List Loc) (ls : Array Slot), o = (0, I) → va_P (dC, dI) vwCl ((wB ad cI cJ cT) I J) H → va_D A ((wB ad cI cJ cT) I J) → va_S A s.heap H locs → lv_has ls 7 [] → W p l e ({ frames := 3, cells := 0, slots := 0, locals := 73 } : Room) s m args below meth c H locs 0 0 Q (F0 m 69 ls [])) → (∀  (I : SI) (H : Heap) (locs : List Loc) (ls : Array Slot), o = (1, I) → va_P (dC, dI) vwCl ((wB ad cI cJ cT) I J) H → va_D A ((wB ad cI cJ cT) I J) → va_S A s.heap H locs → lv_has ls 7 [] → W p l e ({ frames := 3, cells := 0, slots := 0, locals := 73 } : Room) s m args below meth c H locs 0 0 Q (F0 m 108 ls [])) → ∀ (n : Nat) (v4 : Int32) (v5 : Int32) (I : SI) (H : Heap) (locs : List Loc) (ls : Array Slot), lp_X4_walk_34 x v2 v3 n v4 v5 I = some o → va_P (dC, dI) vwCl ((wB ad cI cJ cT) I J) H → va_D A ((wB ad cI cJ cT) I J) → va_S A s.heap H locs → lv_has ls 7 [(0, .ref (ad 29)), (1, .ref (ad (8 + x))), (2, .int v2), (3, .int v3), (4, .int v4), (5, .int v5)] → W p l e ({ frames := 3, cells := 0, slots := 0, locals := 73 } : Room) s m args below meth c H locs 0 0 Q (F0 m 34 ls []) := by
    intro Q v2 v3 J o K0 K1 n
    clear hP hD hS hl
    induction n with
    | zero =>
      intro v4 v5 I H locs ls hf
      rw [lp_X4_walk_34.eq_1] at hf
      cases hf
    | succ n ih =>
      intro v4 v5 I H locs ls hf hP hD hS hl
      rw [lp_X4_walk_34.eq_2] at hf
      refine lv_iload hx hb dX4_walk_34 (lv_at hl 5 rfl) ?_
      refine lv_sipush (v := (28561 : Int32)) hx hb dX4_walk_36 (by decide) ?_
      refine lv_icmp_ge (tgt := 108) hx hb dX4_walk_39 (by decide) (fun c_1 => ?_) (fun c_1 => ?_)
      · have hf := (if_pos c_1).symm.trans hf
        exact K1 _ _ _ _ (Option.some.inj hf).symm hP hD hS (lv_sub hl [] rfl)
      · have hf := (if_neg c_1).symm.trans hf
        refine lv_iload hx hb dX4_walk_42 (lv_at hl 4 rfl) ?_
        refine lv_if_eq (tgt := 108) hx hb dX4_walk_44 (by decide) (fun c_2 => ?_) (fun c_2 => ?_)
        · have hf := (if_pos c_2).symm.trans hf
          exact K1 _ _ _ _ (Option.some.inj hf).symm hP hD hS (lv_sub hl [] rfl)
        · have hf := (if_neg c_2).symm.trans hf
          refine lv_aload_n hx hb dX4_walk_47 rfl (lv_at hl 0 rfl) ?_
          refine lv_aload_n hx hb dX4_walk_48 rfl (lv_at hl 1 rfl) ?_
          refine lv_iload_n hx hb dX4_walk_49 rfl (lv_at hl 2 rfl) ?_
          obtain ⟨r_3, hg_3, hf⟩ := bd_some hf
          refine xVi (rest := []) (c_X4_lastOfBroken l dC dI ad cI cJ cT x htx v2 I J hg_3) hfix (cwV 2 hts gX4_walk_X4_lastOfBroken rfl rfl rfl (by decide +kernel) ⟨Nat.le_of_ble_eq_true rfl, Nat.le_of_ble_eq_true rfl⟩) hK hP hD hS hA (va_recv hK hP (ci := 4) (q0 := 29) rfl (obB_29 ad cI cJ cT I J)) rfl hl.1 rfl (Nat.le_of_ble_eq_true rfl) ⟨Nat.zero_le _, Nat.zero_le _⟩ dX4_walk_50 (fun H locs hP hD hS => ?_)
          refine lv_istore (lv' := [(6, .int r_3), (0, .ref (ad 29)), (1, .ref (ad (8 + x))), (2, .int v2), (3, .int v3), (4, .int v4), (5, .int v5)]) hx hb dX4_walk_53 hl (by decide) rfl (fun ls hl => ?_)
          refine lv_iload hx hb dX4_walk_55 (lv_at hl 0 rfl) ?_
          refine lv_iconst (v := (-1 : Int32)) hx hb dX4_walk_57 (by decide) ?_
          refine lv_icmp_ne (tgt := 89) hx hb dX4_walk_58 (by decide) (fun c_4 => ?_) (fun c_4 => ?_)
          · have hf := (if_neg c_4).symm.trans hf
            refine lv_aload_n hx hb dX4_walk_89 rfl (lv_at hl 1 rfl) ?_
            refine lv_aload_n hx hb dX4_walk_90 rfl (lv_at hl 2 rfl) ?_
            refine va_get (D := (dC, dI)) (ci := 6) (v := .int (I (8 + x) 0)) (C := RX7) (T := TX7) (N := 2) hx hb hts in_X7 hown hK hP (8 + x) (((wBT ad cI cJ cT htx)).2.1 I J) rfl 1 (by decide) wd_0 (fun _ h9 => h9) rfl dX4_walk_91 ?_
            refine lv_iload_n hx hb dX4_walk_94 rfl (lv_at hl 3 rfl) ?_
            refine lv_iload hx hb dX4_walk_95 (lv_at hl 0 rfl) ?_
            obtain ⟨⟨r_5, I_5⟩, hg_5, hf⟩ := bd_some hf
            refine xVi (rest := []) (c_X4_nextRow l dC dI ad cI cJ cT (I (8 + x) 0) v2 r_3 I J hg_5) hfix (cwV 3 hts gX4_walk_X4_nextRow rfl rfl rfl (by decide +kernel) ⟨Nat.le_of_ble_eq_true rfl, Nat.le_of_ble_eq_true rfl⟩) hK hP hD hS hA (va_recv hK hP (ci := 4) (q0 := 29) rfl (obB_29 ad cI cJ cT I J)) rfl hl.1 rfl (Nat.le_of_ble_eq_true rfl) ⟨Nat.zero_le _, Nat.zero_le _⟩ dX4_walk_97 (fun H locs hP hD hS => ?_)
            refine lv_istore (lv' := [(4, .int r_5), (6, .int r_3), (0, .ref (ad 29)), (1, .ref (ad (8 + x))), (2, .int v2), (3, .int v3), (5, .int v5)]) hx hb dX4_walk_100 hl (by decide) rfl (fun ls hl => ?_)
            refine lv_iinc (v := (v5 + (1 : Int32))) (lv' := [(5, .int (v5 + (1 : Int32))), (4, .int r_5), (6, .int r_3), (0, .ref (ad 29)), (1, .ref (ad (8 + x))), (2, .int v2), (3, .int v3)]) hx hb dX4_walk_102 hl (k := 6) rfl (by first | rfl | decide) (by decide) rfl (fun ls hl => ?_)
            refine lv_goto (tgt := 34) hx hb dX4_walk_105 (by decide) ?_
            exact ih _ _ _ _ _ _ hf hP hD hS (lv_sub hl [3, 4, 5, 6, 1, 0] rfl)
          · have hf := (if_pos c_4).symm.trans hf
            refine lv_aload_n hx hb dX4_walk_61 rfl (lv_at hl 1 rfl) ?_
            refine va_get (D := (dC, dI)) (ci := 4) (v := .int (I 29 0)) (C := RX4) (T := TX4) (N := 2) hx hb hts in_X4 hown hK hP 29 (obB_29 ad cI cJ cT I J) rfl 1 (by decide) wd_1 (fun _ h9 => h9) rfl dX4_walk_62 ?_
            refine lv_iload_n hx hb dX4_walk_65 rfl (lv_at hl 4 rfl) ?_
            refine lv_icmp_ne (tgt := 71) hx hb dX4_walk_66 (by decide) (fun c_6 => ?_) (fun c_6 => ?_)
            · have hf := (if_neg c_6).symm.trans hf
              refine lv_aload_n hx hb dX4_walk_71 rfl (lv_at hl 1 rfl) ?_
              refine lv_dup hx hb dX4_walk_72 rfl ?_
              refine va_get (D := (dC, dI)) (ci := 4) (v := .int (I 29 0)) (C := RX4) (T := TX4) (N := 2) hx hb hts in_X4 hown hK hP 29 (obB_29 ad cI cJ cT I J) rfl 1 (by decide) wd_1 (fun _ h9 => h9) rfl dX4_walk_73 ?_
              refine lv_iconst (v := (1 : Int32)) hx hb dX4_walk_76 (by decide) ?_
              refine lv_iadd hx hb dX4_walk_77 ?_
              refine x_put (C := RX4) (T := TX4) (N := 2) hx hb hts in_X4 tyX4 tyX4_ok nmX4 hown hK hP hD hS 29 (obB_29 ad cI cJ cT I J) rfl 1 (by decide) wd_1 (fun _ h9 => h9) rfl (by decide +kernel) (Nat.le_of_ble_eq_true rfl) (psB_29 ad cI cJ cT I J ((I 29 0) + (1 : Int32))) dX4_walk_78 (fun H locs hP hD hS => ?_)
              refine lv_aload_n hx hb dX4_walk_81 rfl (lv_at hl 2 rfl) ?_
              refine va_get (D := (dC, dI)) (ci := 6) (v := .int ((sets I 29 ((I 29 0) + (1 : Int32))) (8 + x) 0)) (C := RX7) (T := TX7) (N := 2) hx hb hts in_X7 hown hK hP (8 + x) (((wBT ad cI cJ cT htx)).2.1 (sets I 29 ((I 29 0) + (1 : Int32))) J) rfl 1 (by decide) wd_0 (fun _ h9 => h9) rfl dX4_walk_82 ?_
              refine lv_iconst (v := (1 : Int32)) hx hb dX4_walk_85 (by decide) ?_
              refine lv_isub hx hb dX4_walk_86 ?_
              refine lv_istore (lv' := [(6, .int (((sets I 29 ((I 29 0) + (1 : Int32))) (8 + x) 0) - (1 : Int32))), (0, .ref (ad 29)), (1, .ref (ad (8 + x))), (2, .int v2), (3, .int v3), (4, .int v4), (5, .int v5)]) hx hb dX4_walk_87 hl (by decide) rfl (fun ls hl => ?_)
              refine lv_aload_n hx hb dX4_walk_89 rfl (lv_at hl 1 rfl) ?_
              refine lv_aload_n hx hb dX4_walk_90 rfl (lv_at hl 2 rfl) ?_
              refine va_get (D := (dC, dI)) (ci := 6) (v := .int ((sets I 29 ((I 29 0) + (1 : Int32))) (8 + x) 0)) (C := RX7) (T := TX7) (N := 2) hx hb hts in_X7 hown hK hP (8 + x) (((wBT ad cI cJ cT htx)).2.1 (sets I 29 ((I 29 0) + (1 : Int32))) J) rfl 1 (by decide) wd_0 (fun _ h9 => h9) rfl dX4_walk_91 ?_
              refine lv_iload_n hx hb dX4_walk_94 rfl (lv_at hl 3 rfl) ?_
              refine lv_iload hx hb dX4_walk_95 (lv_at hl 0 rfl) ?_
              obtain ⟨⟨r_7, I_7⟩, hg_7, hf⟩ := bd_some hf
              refine xVi (rest := []) (c_X4_nextRow l dC dI ad cI cJ cT ((sets I 29 ((I 29 0) + (1 : Int32))) (8 + x) 0) v2 (((sets I 29 ((I 29 0) + (1 : Int32))) (8 + x) 0) - (1 : Int32)) (sets I 29 ((I 29 0) + (1 : Int32))) J hg_7) hfix (cwV 3 hts gX4_walk_X4_nextRow rfl rfl rfl (by decide +kernel) ⟨Nat.le_of_ble_eq_true rfl, Nat.le_of_ble_eq_true rfl⟩) hK hP hD hS hA (va_recv hK hP (ci := 4) (q0 := 29) rfl (obB_29 ad cI cJ cT (sets I 29 ((I 29 0) + (1 : Int32))) J)) rfl hl.1 rfl (Nat.le_of_ble_eq_true rfl) ⟨Nat.zero_le _, Nat.zero_le _⟩ dX4_walk_97 (fun H locs hP hD hS => ?_)
              refine lv_istore (lv' := [(4, .int r_7), (6, .int (((sets I 29 ((I 29 0) + (1 : Int32))) (8 + x) 0) - (1 : Int32))), (0, .ref (ad 29)), (1, .ref (ad (8 + x))), (2, .int v2), (3, .int v3), (5, .int v5)]) hx hb dX4_walk_100 hl (by decide) rfl (fun ls hl => ?_)
              refine lv_iinc (v := (v5 + (1 : Int32))) (lv' := [(5, .int (v5 + (1 : Int32))), (4, .int r_7), (6, .int (((sets I 29 ((I 29 0) + (1 : Int32))) (8 + x) 0) - (1 : Int32))), (0, .ref (ad 29)), (1, .ref (ad (8 + x))), (2, .int v2), (3, .int v3)]) hx hb dX4_walk_102 hl (k := 6) rfl (by first | rfl | decide) (by decide) rfl (fun ls hl => ?_)
              refine lv_goto (tgt := 34) hx hb dX4_walk_105 (by decide) ?_
              exact ih _ _ _ _ _ _ hf hP hD hS (lv_sub hl [3, 4, 5, 6, 1, 0] rfl)
            · have hf := (if_pos c_6).symm.trans hf
              exact K0 _ _ _ _ (Option.some.inj hf).symm hP hD hS (lv_sub hl [] rfl)
  unfold f_X4_walk at hf
  refine lv_aload_n hx hb dX4_walk_0 rfl (lv_at hl 0 rfl) ?_
  refine lv_iconst (v := (0 : Int32)) hx hb dX4_walk_1 (by decide) ?_
  refine x_put (C := RX4) (T := TX4) (N := 2) hx hb hts in_X4 tyX4 tyX4_ok nmX4 hown hK hP hD hS 29 (obB_29 ad cI cJ cT I J) rfl 1 (by decide) wd_1 (fun _ h9 => h9) rfl (by decide +kernel) (Nat.le_of_ble_eq_true rfl) (psB_29 ad cI cJ cT I J (0 : Int32)) dX4_walk_2 (fun H locs hP hD hS => ?_)
  refine lv_aload_n hx hb dX4_walk_5 rfl (lv_at hl 0 rfl) ?_
  refine va_get (D := (dC, dI)) (ci := 4) (v := .ref (ad 28)) (C := RX4) (T := TX4) (N := 2) hx hb hts in_X4 hown hK hP 29 (obB_29 ad cI cJ cT (sets I 29 (0 : Int32)) J) rfl 0 (by decide) wd_2 (fun _ h9 => h9) rfl dX4_walk_6 ?_
  refine lv_iconst (v := (0 : Int32)) hx hb dX4_walk_9 (by decide) ?_
  obtain ⟨I_8, hg_8, hf⟩ := bd_some hf
  refine xSv (rest := []) (c_J7_fill l dC dI ad cI cJ cT (wB ad cI cJ cT) (fun k => k) (ad 28) 28 5 28 (aiB_28 ad cI cJ cT) (0 : Int32) (sets I 29 (0 : Int32)) J hg_8) hfix (va_cwS 2 hts gX4_walk_J7_fill_53178 rfl rfl rfl (by decide +kernel) ⟨Nat.le_of_ble_eq_true rfl, Nat.le_of_ble_eq_true rfl⟩) hK hP hD hS hA rfl hl.1 rfl (Nat.le_of_ble_eq_true rfl) ⟨Nat.zero_le _, Nat.zero_le _⟩ dX4_walk_10 (fun H locs hP hD hS => ?_)
  refine lv_aload_n hx hb dX4_walk_13 rfl (lv_at hl 0 rfl) ?_
  refine va_get (D := (dC, dI)) (ci := 4) (v := .ref (ad 28)) (C := RX4) (T := TX4) (N := 2) hx hb hts in_X4 hown hK hP 29 (obB_29 ad cI cJ cT I_8 J) rfl 0 (by decide) wd_2 (fun _ h9 => h9) rfl dX4_walk_14 ?_
  refine lv_iconst (v := (0 : Int32)) hx hb dX4_walk_17 (by decide) ?_
  refine lv_iconst (v := (1 : Int32)) hx hb dX4_walk_18 (by decide) ?_
  refine x_iast hx hb hK (aiB_28 ad cI cJ cT) hP hD hS (by decide) dX4_walk_19 (fun H locs hP hD hS => ?_)
  refine lv_iload_n hx hb dX4_walk_20 rfl (lv_at hl 2 rfl) ?_
  refine lv_if_le (tgt := 28) hx hb dX4_walk_21 (by decide) (fun c_9 => ?_) (fun c_9 => ?_)
  · have hf := (if_pos c_9).symm.trans hf
    refine lv_iconst (v := (0 : Int32)) hx hb dX4_walk_28 (by decide) ?_
    refine lv_istore (lv' := [(4, .int (0 : Int32)), (0, .ref (ad 29)), (1, .ref (ad (8 + x))), (2, .int p2), (3, .int p3)]) hx hb dX4_walk_29 hl (by decide) rfl (fun ls hl => ?_)
    refine lv_iconst (v := (0 : Int32)) hx hb dX4_walk_31 (by decide) ?_
    refine lv_istore (lv' := [(5, .int (0 : Int32)), (4, .int (0 : Int32)), (0, .ref (ad 29)), (1, .ref (ad (8 + x))), (2, .int p2), (3, .int p3)]) hx hb dX4_walk_32 hl (by decide) rfl (fun ls hl => ?_)
    obtain ⟨o_10, hg_10, hf⟩ := bd_some hf
    refine L34 _ p2 p3 J o_10 ?_ ?_ FU (0 : Int32) (0 : Int32) (ups I_8 28 (0 : Int32).toNatClampNeg (1 : Int32)) _ _ _ hg_10 hP hD hS (lv_sub hl [2, 3, 4, 5, 1, 0] rfl)
    · intro I_10 H locs ls ho hP hD hS hl
      subst o_10
      have hf := (if_pos (show 0 = 0 from rfl)).symm.trans hf
      refine lv_iconst (v := (1 : Int32)) hx hb dX4_walk_69 (by decide) ?_
      cases hf
      exact xRz hx hb hr hlocks rfl hK hP hD hS (fun _ h => h) dX4_walk_70
    · intro I_10 H locs ls ho hP hD hS hl
      subst o_10
      have hf := (if_neg (show ¬ (1 = 0) by decide)).symm.trans hf
      refine lv_iconst (v := (0 : Int32)) hx hb dX4_walk_108 (by decide) ?_
      cases hf
      exact xRz hx hb hr hlocks rfl hK hP hD hS (fun _ h => h) dX4_walk_109
  · have hf := (if_neg c_9).symm.trans hf
    refine lv_iconst (v := (1 : Int32)) hx hb dX4_walk_24 (by decide) ?_
    refine lv_goto (tgt := 29) hx hb dX4_walk_25 (by decide) ?_
    refine lv_istore (lv' := [(4, .int (1 : Int32)), (0, .ref (ad 29)), (1, .ref (ad (8 + x))), (2, .int p2), (3, .int p3)]) hx hb dX4_walk_29 hl (by decide) rfl (fun ls hl => ?_)
    refine lv_iconst (v := (0 : Int32)) hx hb dX4_walk_31 (by decide) ?_
    refine lv_istore (lv' := [(5, .int (0 : Int32)), (4, .int (1 : Int32)), (0, .ref (ad 29)), (1, .ref (ad (8 + x))), (2, .int p2), (3, .int p3)]) hx hb dX4_walk_32 hl (by decide) rfl (fun ls hl => ?_)
    obtain ⟨o_11, hg_11, hf⟩ := bd_some hf
    refine L34 _ p2 p3 J o_11 ?_ ?_ FU (1 : Int32) (0 : Int32) (ups I_8 28 (0 : Int32).toNatClampNeg (1 : Int32)) _ _ _ hg_11 hP hD hS (lv_sub hl [2, 3, 4, 5, 1, 0] rfl)
    · intro I_11 H locs ls ho hP hD hS hl
      subst o_11
      have hf := (if_pos (show 0 = 0 from rfl)).symm.trans hf
      refine lv_iconst (v := (1 : Int32)) hx hb dX4_walk_69 (by decide) ?_
      cases hf
      exact xRz hx hb hr hlocks rfl hK hP hD hS (fun _ h => h) dX4_walk_70
    · intro I_11 H locs ls ho hP hD hS hl
      subst o_11
      have hf := (if_neg (show ¬ (1 = 0) by decide)).symm.trans hf
      refine lv_iconst (v := (0 : Int32)) hx hb dX4_walk_108 (by decide) ?_
      cases hf
      exact xRz hx hb hr hlocks rfl hK hP hD hS (fun _ h => h) dX4_walk_109
set_option maxHeartbeats 4000000 in
set_option maxRecDepth 100000 in
theorem c_X4_count (l : Launch) (dC : Nat → ClassId) (dI : Nat → Nat → Nat) (ad : Nat → Nat) (cI cJ cT : ClassId) (x : Nat) (htx : x < 8) (p2 : Int32) (I : SI) (J : SJ) {r0 : Int32} {I0 : SI} (hf : f_X4_count x p2 I = some (r0, I0)) : CtI l yX4_count wsX4_count ({ frames := 4, cells := 0, slots := 0, locals := 99 } : Room) (dC, dI) (tys3 cI cJ cT) (wB ad cI cJ cT) [.ref (ad 29), .ref (ad (8 + x)), .int p2] I J r0 I0 J := by
  intro sz
  refine Met.ofW (cc := cX4_count) (maxL := 3) (ret := (some .int)) (by decide) rfl ?_
  intro p e s m args below meth c s₁ B hml hv
  obtain ⟨hargs, hsz, hP, hK, hD0⟩ := hv
  have hx := B.exec
  have hb := B.bytes
  have hr := B.returns
  have hts := atoms_spec (ws := wsX4_count) B.pre
  have hown : s.vm.findClass RX4 = some m.cls := findClass_of_methodNamed B.named
  have hlocks := B.notSynchronized
  subst hsz
  have hD := hD0.self (sz := s.heap.size)
  generalize hAe : va_A ((wB ad cI cJ cT) I J) s.heap.size = A at hD ⊢
  have hA : ∀ q : Nat, s.heap.size ≤ q → A q := fun q h => by rw [← hAe]; exact Or.inr h
  have hS : va_S A s.heap s.heap [] := va_S.rf
  have hl := lv_entry ([.ref (ad 29), .ref (ad (8 + x)), .int p2]) (n := 3) (Nat.le_of_ble_eq_true rfl)
  rw [hargs, lg_entry_eq, ← hargs]
  generalize (lg_sl ([.ref (ad 29), .ref (ad (8 + x)), .int p2]) ++ List.replicate (3 - (lg_sl ([.ref (ad 29), .ref (ad (8 + x)), .int p2])).length) Slot.unset).toArray = ls at hl ⊢
  have hl : lv_has ls 3 [(0, .ref (ad 29)), (1, .ref (ad (8 + x))), (2, .int p2)] := hl
  have hfix : CallFix p m c cX4_count 3 s args wsX4_count RX4 := ⟨hx, hb, hml, hown, hts⟩
  have in_X4 : ∀ w ∈ u_ws RX4 TX4 2, w ∈ wsX4_count := by decide +kernel
  have wd_0 := hts (.fieldLink RX4 19 "FuseBench$Remainders" "passed" "I") (by decide +kernel)
  unfold f_X4_count at hf
  refine lv_aload_n hx hb dX4_count_0 rfl (lv_at hl 0 rfl) ?_
  refine lv_aload_n hx hb dX4_count_1 rfl (lv_at hl 1 rfl) ?_
  refine lv_iload_n hx hb dX4_count_2 rfl (lv_at hl 2 rfl) ?_
  refine lv_iconst (v := (-1 : Int32)) hx hb dX4_count_3 (by decide) ?_
  obtain ⟨⟨r_1, I_1⟩, hg_1, hf⟩ := bd_some hf
  refine xVi (rest := []) (c_X4_walk l dC dI ad cI cJ cT x htx p2 (-1 : Int32) I J hg_1) hfix (cwV 3 hts gX4_count_X4_walk rfl rfl rfl (by decide +kernel) ⟨Nat.le_of_ble_eq_true rfl, Nat.le_of_ble_eq_true rfl⟩) hK hP hD hS hA (va_recv hK hP (ci := 4) (q0 := 29) rfl (obB_29 ad cI cJ cT I J)) rfl hl.1 rfl (Nat.le_of_ble_eq_true rfl) ⟨Nat.zero_le _, Nat.zero_le _⟩ dX4_count_4 (fun H locs hP hD hS => ?_)
  refine lv_pop hx hb dX4_count_7 rfl ?_
  refine lv_aload_n hx hb dX4_count_8 rfl (lv_at hl 0 rfl) ?_
  refine va_get (D := (dC, dI)) (ci := 4) (v := .int (I_1 29 0)) (C := RX4) (T := TX4) (N := 2) hx hb hts in_X4 hown hK hP 29 (obB_29 ad cI cJ cT I_1 J) rfl 1 (by decide) wd_0 (fun _ h9 => h9) rfl dX4_count_9 ?_
  cases hf
  exact xRi hx hb hr hlocks hK hP hD hS (fun _ h => h) dX4_count_12
set_option maxHeartbeats 4000000 in
set_option maxRecDepth 100000 in
theorem c_X4_find (l : Launch) (dC : Nat → ClassId) (dI : Nat → Nat → Nat) (ad : Nat → Nat) (cI cJ cT : ClassId) (x : Nat) (htx : x < 8) (p2 : Int32) (p3 : Int32) (I : SI) (J : SJ) {r0 : Int32} {I0 : SI} (hf : f_X4_find x p2 p3 I = some (r0, I0)) : CtI l yX4_find wsX4_find ({ frames := 4, cells := 0, slots := 0, locals := 99 } : Room) (dC, dI) (tys3 cI cJ cT) (wB ad cI cJ cT) [.ref (ad 29), .ref (ad (8 + x)), .int p2, .int p3] I J r0 I0 J := by
  intro sz
  refine Met.ofW (cc := cX4_find) (maxL := 4) (ret := (some .boolean)) (by decide) rfl ?_
  intro p e s m args below meth c s₁ B hml hv
  obtain ⟨hargs, hsz, hP, hK, hD0⟩ := hv
  have hx := B.exec
  have hb := B.bytes
  have hr := B.returns
  have hts := atoms_spec (ws := wsX4_find) B.pre
  have hown : s.vm.findClass RX4 = some m.cls := findClass_of_methodNamed B.named
  have hlocks := B.notSynchronized
  subst hsz
  have hD := hD0.self (sz := s.heap.size)
  generalize hAe : va_A ((wB ad cI cJ cT) I J) s.heap.size = A at hD ⊢
  have hA : ∀ q : Nat, s.heap.size ≤ q → A q := fun q h => by rw [← hAe]; exact Or.inr h
  have hS : va_S A s.heap s.heap [] := va_S.rf
  have hl := lv_entry ([.ref (ad 29), .ref (ad (8 + x)), .int p2, .int p3]) (n := 4) (Nat.le_of_ble_eq_true rfl)
  rw [hargs, lg_entry_eq, ← hargs]
  generalize (lg_sl ([.ref (ad 29), .ref (ad (8 + x)), .int p2, .int p3]) ++ List.replicate (4 - (lg_sl ([.ref (ad 29), .ref (ad (8 + x)), .int p2, .int p3])).length) Slot.unset).toArray = ls at hl ⊢
  have hl : lv_has ls 4 [(0, .ref (ad 29)), (1, .ref (ad (8 + x))), (2, .int p2), (3, .int p3)] := hl
  have hfix : CallFix p m c cX4_find 4 s args wsX4_find RX4 := ⟨hx, hb, hml, hown, hts⟩
  unfold f_X4_find at hf
  refine lv_aload_n hx hb dX4_find_0 rfl (lv_at hl 0 rfl) ?_
  refine lv_aload_n hx hb dX4_find_1 rfl (lv_at hl 1 rfl) ?_
  refine lv_iload_n hx hb dX4_find_2 rfl (lv_at hl 2 rfl) ?_
  refine lv_iload_n hx hb dX4_find_3 rfl (lv_at hl 3 rfl) ?_
  obtain ⟨⟨r_1, I_1⟩, hg_1, hf⟩ := bd_some hf
  refine xVi (rest := []) (c_X4_walk l dC dI ad cI cJ cT x htx p2 p3 I J hg_1) hfix (cwV 3 hts gX4_find_X4_walk rfl rfl rfl (by decide +kernel) ⟨Nat.le_of_ble_eq_true rfl, Nat.le_of_ble_eq_true rfl⟩) hK hP hD hS hA (va_recv hK hP (ci := 4) (q0 := 29) rfl (obB_29 ad cI cJ cT I J)) rfl hl.1 rfl (Nat.le_of_ble_eq_true rfl) ⟨Nat.zero_le _, Nat.zero_le _⟩ dX4_find_4 (fun H locs hP hD hS => ?_)
  obtain ⟨h_2, hf⟩ := gd_some hf
  cases hf
  exact xRz hx hb hr hlocks (nz h_2) hK hP hD hS (fun _ h => h) dX4_find_7
set_option maxHeartbeats 4000000 in
set_option maxRecDepth 100000 in
theorem c_X5_firstOf (l : Launch) (dC : Nat → ClassId) (dI : Nat → Nat → Nat) (ad : Nat → Nat) (cI cJ cT : ClassId) (p0 : Int32) (I : SI) (J : SJ) {r0 : Int32} (hf : f_X5_firstOf p0 = some r0) : CtI l yX5_firstOf wsX5_firstOf ({ frames := 1, cells := 0, slots := 0, locals := 21 } : Room) (dC, dI) (tys3 cI cJ cT) (wB ad cI cJ cT) [.int p0] I J r0 I J := by
  intro sz
  refine Met.ofW (cc := cX5_firstOf) (maxL := 2) (ret := (some .int)) (by decide) rfl ?_
  intro p e s m args below meth c s₁ B hml hv
  obtain ⟨hargs, hsz, hP, hK, hD0⟩ := hv
  have hx := B.exec
  have hb := B.bytes
  have hr := B.returns
  have hts := atoms_spec (ws := wsX5_firstOf) B.pre
  have hown : s.vm.findClass RX5 = some m.cls := findClass_of_methodNamed B.named
  have hlocks := B.notSynchronized
  subst hsz
  have hD := hD0.self (sz := s.heap.size)
  generalize hAe : va_A ((wB ad cI cJ cT) I J) s.heap.size = A at hD ⊢
  have hA : ∀ q : Nat, s.heap.size ≤ q → A q := fun q h => by rw [← hAe]; exact Or.inr h
  have hS : va_S A s.heap s.heap [] := va_S.rf
  have hl := lv_entry ([.int p0]) (n := 2) (Nat.le_of_ble_eq_true rfl)
  rw [hargs, lg_entry_eq, ← hargs]
  generalize (lg_sl ([.int p0]) ++ List.replicate (2 - (lg_sl ([.int p0])).length) Slot.unset).toArray = ls at hl ⊢
  have hl : lv_has ls 2 [(0, .int p0)] := hl
  have hfix : CallFix p m c cX5_firstOf 2 s args wsX5_firstOf RX5 := ⟨hx, hb, hml, hown, hts⟩
  have L2 : ∀ (Q : State → Prop) (v0 : Int32) (I : SI) (J : SJ) (o : Nat × Int32), (∀ (w1 : Int32) (H : Heap) (locs : List Loc) (ls : Array Slot), o = (0, w1) → va_P (dC, dI) vwCl ((wB ad cI cJ cT) I J) H → va_D A ((wB ad cI cJ cT) I J) → va_S A s.heap H locs → lv_has ls 2 [(1, .int w1)] → W p l e ({ frames := 1, cells := 0, slots := 0, locals := 21 } : Room) s m args below meth c H locs 0 0 Q (F0 m 15 ls [])) → (∀ (w1 : Int32) (H : Heap) (locs : List Loc) (ls : Array Slot), o = (1, w1) → va_P (dC, dI) vwCl ((wB ad cI cJ cT) I J) H → va_D A ((wB ad cI cJ cT) I J) → va_S A s.heap H locs → lv_has ls 2 [] → W p l e ({ frames := 1, cells := 0, slots := 0, locals := 21 } : Room) s m args below meth c H locs 0 0 Q (F0 m 23 ls [])) → ∀ (n : Nat) (v1 : Int32) (H : Heap) (locs : List Loc) (ls : Array Slot), lp_X5_firstOf_2 v0 n v1 = some o → va_P (dC, dI) vwCl ((wB ad cI cJ cT) I J) H → va_D A ((wB ad cI cJ cT) I J) → va_S A s.heap H locs → lv_has ls 2 [(0, .int v0), (1, .int v1)] → W p l e ({ frames := 1, cells := 0, slots := 0, locals := 21 } : Room) s m args below meth c H locs 0 0 Q (F0 m 2 ls []) := by
    intro Q v0 I J o K0 K1 n
    clear hP hD hS hl
    induction n with
    | zero =>
      intro v1 H locs ls hf
      rw [lp_X5_firstOf_2.eq_1] at hf
      cases hf
    | succ n ih =>
      intro v1 H locs ls hf hP hD hS hl
      rw [lp_X5_firstOf_2.eq_2] at hf
      refine lv_iload_n hx hb dX5_firstOf_2 rfl (lv_at hl 1 rfl) ?_
      refine lv_iconst (v := (5 : Int32)) hx hb dX5_firstOf_3 (by decide) ?_
      refine lv_icmp_ge (tgt := 23) hx hb dX5_firstOf_4 (by decide) (fun c_1 => ?_) (fun c_1 => ?_)
      · have hf := (if_pos c_1).symm.trans hf
        exact K1 _ _ _ _ (Option.some.inj hf).symm hP hD hS (lv_sub hl [] rfl)
      · have hf := (if_neg c_1).symm.trans hf
        refine lv_iload_n hx hb dX5_firstOf_7 rfl (lv_at hl 0 rfl) ?_
        refine lv_iload_n hx hb dX5_firstOf_8 rfl (lv_at hl 1 rfl) ?_
        obtain ⟨r_2, hg_2, hf⟩ := bd_some hf
        refine xSi (rest := []) (c_X5_holds l dC dI ad cI cJ cT v0 v1 I J hg_2) hfix (va_cwS 2 hts gX5_firstOf_X5_holds rfl rfl rfl (by decide +kernel) ⟨Nat.le_of_ble_eq_true rfl, Nat.le_of_ble_eq_true rfl⟩) hK hP hD hS hA rfl hl.1 rfl (Nat.le_of_ble_eq_true rfl) ⟨Nat.zero_le _, Nat.zero_le _⟩ dX5_firstOf_9 (fun H locs hP hD hS => ?_)
        refine lv_if_eq (tgt := 17) hx hb dX5_firstOf_12 (by decide) (fun c_3 => ?_) (fun c_3 => ?_)
        · have hf := (if_pos c_3).symm.trans hf
          refine lv_iinc (v := (v1 + (1 : Int32))) (lv' := [(1, .int (v1 + (1 : Int32))), (0, .int v0)]) hx hb dX5_firstOf_17 hl (k := 1) rfl (by first | rfl | decide) (by decide) rfl (fun ls hl => ?_)
          refine lv_goto (tgt := 2) hx hb dX5_firstOf_20 (by decide) ?_
          exact ih _ _ _ _ hf hP hD hS (lv_sub hl [1, 0] rfl)
        · have hf := (if_neg c_3).symm.trans hf
          exact K0 _ _ _ _ (Option.some.inj hf).symm hP hD hS (lv_sub hl [1] rfl)
  unfold f_X5_firstOf at hf
  refine lv_iconst (v := (0 : Int32)) hx hb dX5_firstOf_0 (by decide) ?_
  refine lv_istore_n (lv' := [(1, .int (0 : Int32)), (0, .int p0)]) hx hb dX5_firstOf_1 rfl hl (by decide) rfl (fun ls hl => ?_)
  obtain ⟨o_4, hg_4, hf⟩ := bd_some hf
  refine L2 _ p0 I J o_4 ?_ ?_ FU (0 : Int32) _ _ _ hg_4 hP hD hS (lv_sub hl [1, 0] rfl)
  · intro w1_4 H locs ls ho hP hD hS hl
    subst o_4
    have hf := (if_pos (show 0 = 0 from rfl)).symm.trans hf
    refine lv_iload_n hx hb dX5_firstOf_15 rfl (lv_at hl 0 rfl) ?_
    cases hf
    exact xRi hx hb hr hlocks hK hP hD hS (fun _ h => h) dX5_firstOf_16
  · intro w1_4 H locs ls ho hP hD hS hl
    subst o_4
    have hf := (if_neg (show ¬ (1 = 0) by decide)).symm.trans hf
    refine lv_iconst (v := (-1 : Int32)) hx hb dX5_firstOf_23 (by decide) ?_
    cases hf
    exact xRi hx hb hr hlocks hK hP hD hS (fun _ h => h) dX5_firstOf_24
set_option maxHeartbeats 4000000 in
set_option maxRecDepth 100000 in
theorem c_X5_fusedWithAny (l : Launch) (dC : Nat → ClassId) (dI : Nat → Nat → Nat) (ad : Nat → Nat) (cI cJ cT : ClassId) (x : Nat) (htx : x < 8) (p1 : Int32) (p2 : Int32) (I : SI) (J : SJ) {r0 : Int32} (hf : f_X5_fusedWithAny x p1 p2 I = some r0) : CtI l yX5_fusedWithAny wsX5_fusedWithAny ({ frames := 2, cells := 0, slots := 0, locals := 45 } : Room) (dC, dI) (tys3 cI cJ cT) (wB ad cI cJ cT) [.ref (ad (8 + x)), .int p1, .int p2] I J r0 I J := by
  intro sz
  refine Met.ofW (cc := cX5_fusedWithAny) (maxL := 6) (ret := (some .int)) (by decide) rfl ?_
  intro p e s m args below meth c s₁ B hml hv
  obtain ⟨hargs, hsz, hP, hK, hD0⟩ := hv
  have hx := B.exec
  have hb := B.bytes
  have hr := B.returns
  have hts := atoms_spec (ws := wsX5_fusedWithAny) B.pre
  have hown : s.vm.findClass RX5 = some m.cls := findClass_of_methodNamed B.named
  have hlocks := B.notSynchronized
  subst hsz
  have hD := hD0.self (sz := s.heap.size)
  generalize hAe : va_A ((wB ad cI cJ cT) I J) s.heap.size = A at hD ⊢
  have hA : ∀ q : Nat, s.heap.size ≤ q → A q := fun q h => by rw [← hAe]; exact Or.inr h
  have hS : va_S A s.heap s.heap [] := va_S.rf
  have hl := lv_entry ([.ref (ad (8 + x)), .int p1, .int p2]) (n := 6) (Nat.le_of_ble_eq_true rfl)
  rw [hargs, lg_entry_eq, ← hargs]
  generalize (lg_sl ([.ref (ad (8 + x)), .int p1, .int p2]) ++ List.replicate (6 - (lg_sl ([.ref (ad (8 + x)), .int p1, .int p2])).length) Slot.unset).toArray = ls at hl ⊢
  have hl : lv_has ls 6 [(0, .ref (ad (8 + x))), (1, .int p1), (2, .int p2)] := hl
  have hfix : CallFix p m c cX5_fusedWithAny 6 s args wsX5_fusedWithAny RX5 := ⟨hx, hb, hml, hown, hts⟩
  have in_X7 : ∀ w ∈ u_ws RX7 TX7 2, w ∈ wsX5_fusedWithAny := by decide +kernel
  have wd_0 := hts (.fieldLink RX5 15 "FuseBench$Table" "kinds" "I") (by decide +kernel)
  have L17 : ∀ (Q : State → Prop) (v1 : Int32) (v2 : Int32) (v4 : Int32) (I : SI) (J : SJ) (o : Int32), (∀ (w3 : Int32) (H : Heap) (locs : List Loc) (ls : Array Slot), o = w3 → va_P (dC, dI) vwCl ((wB ad cI cJ cT) I J) H → va_D A ((wB ad cI cJ cT) I J) → va_S A s.heap H locs → lv_has ls 6 [(0, .ref (ad (8 + x))), (1, .int v1), (2, .int v2), (3, .int w3), (4, .int v4)] → W p l e ({ frames := 2, cells := 0, slots := 0, locals := 45 } : Room) s m args below meth c H locs 0 0 Q (F0 m 60 ls [])) → ∀ (n : Nat) (v3 : Int32) (v5 : Int32) (H : Heap) (locs : List Loc) (ls : Array Slot), lp_X5_fusedWithAny_17 x v1 v2 v4 I n v3 v5 = some o → va_P (dC, dI) vwCl ((wB ad cI cJ cT) I J) H → va_D A ((wB ad cI cJ cT) I J) → va_S A s.heap H locs → lv_has ls 6 [(0, .ref (ad (8 + x))), (1, .int v1), (2, .int v2), (3, .int v3), (4, .int v4), (5, .int v5)] → W p l e ({ frames := 2, cells := 0, slots := 0, locals := 45 } : Room) s m args below meth c H locs 0 0 Q (F0 m 17 ls []) := by
    intro Q v1 v2 v4 I J o K0 n
    clear hP hD hS hl
    induction n with
    | zero =>
      intro v3 v5 H locs ls hf
      rw [lp_X5_fusedWithAny_17.eq_1] at hf
      cases hf
    | succ n ih =>
      intro v3 v5 H locs ls hf hP hD hS hl
      rw [lp_X5_fusedWithAny_17.eq_2] at hf
      refine lv_iload hx hb dX5_fusedWithAny_17 (lv_at hl 5 rfl) ?_
      refine lv_aload_n hx hb dX5_fusedWithAny_19 rfl (lv_at hl 0 rfl) ?_
      refine va_get (D := (dC, dI)) (ci := 6) (v := .int (I (8 + x) 0)) (C := RX7) (T := TX7) (N := 2) hx hb hts in_X7 hown hK hP (8 + x) (((wBT ad cI cJ cT htx)).2.1 I J) rfl 1 (by decide) wd_0 (fun _ h9 => h9) rfl dX5_fusedWithAny_20 ?_
      refine lv_icmp_ge (tgt := 60) hx hb dX5_fusedWithAny_23 (by decide) (fun c_1 => ?_) (fun c_1 => ?_)
      · have hf := (if_pos c_1).symm.trans hf
        exact K0 _ _ _ _ (Option.some.inj hf).symm hP hD hS (lv_sub hl [0, 1, 2, 3, 4] rfl)
      · have hf := (if_neg c_1).symm.trans hf
        refine lv_iload_n hx hb dX5_fusedWithAny_26 rfl (lv_at hl 2 rfl) ?_
        refine lv_iload hx hb dX5_fusedWithAny_27 (lv_at hl 4 rfl) ?_
        obtain ⟨r_2, hg_2, hf⟩ := bd_some hf
        refine xSi (rest := []) (c_X5_holds l dC dI ad cI cJ cT v2 v4 I J hg_2) hfix (va_cwS 2 hts gX5_fusedWithAny_X5_holds rfl rfl rfl (by decide +kernel) ⟨Nat.le_of_ble_eq_true rfl, Nat.le_of_ble_eq_true rfl⟩) hK hP hD hS hA rfl hl.1 rfl (Nat.le_of_ble_eq_true rfl) ⟨Nat.zero_le _, Nat.zero_le _⟩ dX5_fusedWithAny_29 (fun H locs hP hD hS => ?_)
        refine lv_if_eq (tgt := 54) hx hb dX5_fusedWithAny_32 (by decide) (fun c_3 => ?_) (fun c_3 => ?_)
        · have hf := (if_pos c_3).symm.trans hf
          refine lv_iinc (v := (v5 + (1 : Int32))) (lv' := [(5, .int (v5 + (1 : Int32))), (0, .ref (ad (8 + x))), (1, .int v1), (2, .int v2), (3, .int v3), (4, .int v4)]) hx hb dX5_fusedWithAny_54 hl (k := 5) rfl (by first | rfl | decide) (by decide) rfl (fun ls hl => ?_)
          refine lv_goto (tgt := 17) hx hb dX5_fusedWithAny_57 (by decide) ?_
          exact ih _ _ _ _ _ hf hP hD hS (lv_sub hl [1, 2, 3, 4, 5, 0] rfl)
        · have hf := (if_neg c_3).symm.trans hf
          refine lv_aload_n hx hb dX5_fusedWithAny_35 rfl (lv_at hl 0 rfl) ?_
          refine lv_iload_n hx hb dX5_fusedWithAny_36 rfl (lv_at hl 1 rfl) ?_
          refine lv_iload hx hb dX5_fusedWithAny_37 (lv_at hl 4 rfl) ?_
          refine lv_iload hx hb dX5_fusedWithAny_39 (lv_at hl 5 rfl) ?_
          obtain ⟨r_4, hg_4, hf⟩ := bd_some hf
          refine xVi (rest := []) (c_X7_number l dC dI ad cI cJ cT (wB ad cI cJ cT) (fun k => k) x (wBT ad cI cJ cT htx) v1 v4 v5 I J hg_4) hfix (cwV 3 hts gX5_fusedWithAny_X7_number rfl rfl rfl (by decide +kernel) ⟨Nat.le_of_ble_eq_true rfl, Nat.le_of_ble_eq_true rfl⟩) hK hP hD hS hA (va_recv hK hP (ci := 6) (q0 := (8 + x)) rfl (((wBT ad cI cJ cT htx)).2.1 I J)) rfl hl.1 rfl (Nat.le_of_ble_eq_true rfl) ⟨Nat.zero_le _, Nat.zero_le _⟩ dX5_fusedWithAny_41 (fun H locs hP hD hS => ?_)
          refine lv_if_le (tgt := 54) hx hb dX5_fusedWithAny_44 (by decide) (fun c_5 => ?_) (fun c_5 => ?_)
          · have hf := (if_pos c_5).symm.trans hf
            refine lv_iinc (v := (v5 + (1 : Int32))) (lv' := [(5, .int (v5 + (1 : Int32))), (0, .ref (ad (8 + x))), (1, .int v1), (2, .int v2), (3, .int v3), (4, .int v4)]) hx hb dX5_fusedWithAny_54 hl (k := 5) rfl (by first | rfl | decide) (by decide) rfl (fun ls hl => ?_)
            refine lv_goto (tgt := 17) hx hb dX5_fusedWithAny_57 (by decide) ?_
            exact ih _ _ _ _ _ hf hP hD hS (lv_sub hl [1, 2, 3, 4, 5, 0] rfl)
          · have hf := (if_neg c_5).symm.trans hf
            refine lv_iload_n hx hb dX5_fusedWithAny_47 rfl (lv_at hl 3 rfl) ?_
            refine lv_iconst (v := (1 : Int32)) hx hb dX5_fusedWithAny_48 (by decide) ?_
            refine lv_iload hx hb dX5_fusedWithAny_49 (lv_at hl 5 rfl) ?_
            refine lv_ishl hx hb dX5_fusedWithAny_51 ?_
            refine lv_ior hx hb dX5_fusedWithAny_52 ?_
            refine lv_istore_n (lv' := [(3, .int (v3 ||| ((1 : Int32) <<< (v5 &&& 31)))), (0, .ref (ad (8 + x))), (1, .int v1), (2, .int v2), (4, .int v4), (5, .int v5)]) hx hb dX5_fusedWithAny_53 rfl hl (by decide) rfl (fun ls hl => ?_)
            refine lv_iinc (v := (v5 + (1 : Int32))) (lv' := [(5, .int (v5 + (1 : Int32))), (3, .int (v3 ||| ((1 : Int32) <<< (v5 &&& 31)))), (0, .ref (ad (8 + x))), (1, .int v1), (2, .int v2), (4, .int v4)]) hx hb dX5_fusedWithAny_54 hl (k := 5) rfl (by first | rfl | decide) (by decide) rfl (fun ls hl => ?_)
            refine lv_goto (tgt := 17) hx hb dX5_fusedWithAny_57 (by decide) ?_
            exact ih _ _ _ _ _ hf hP hD hS (lv_sub hl [2, 3, 4, 1, 5, 0] rfl)
  have L5 : ∀ (Q : State → Prop) (v1 : Int32) (v2 : Int32) (I : SI) (J : SJ) (o : Int32), (∀ (w3 : Int32) (H : Heap) (locs : List Loc) (ls : Array Slot), o = w3 → va_P (dC, dI) vwCl ((wB ad cI cJ cT) I J) H → va_D A ((wB ad cI cJ cT) I J) → va_S A s.heap H locs → lv_has ls 6 [(3, .int w3)] → W p l e ({ frames := 2, cells := 0, slots := 0, locals := 45 } : Room) s m args below meth c H locs 0 0 Q (F0 m 66 ls [])) → ∀ (n : Nat) (v3 : Int32) (v4 : Int32) (H : Heap) (locs : List Loc) (ls : Array Slot), lp_X5_fusedWithAny_5 x v1 v2 I n v3 v4 = some o → va_P (dC, dI) vwCl ((wB ad cI cJ cT) I J) H → va_D A ((wB ad cI cJ cT) I J) → va_S A s.heap H locs → lv_has ls 6 [(0, .ref (ad (8 + x))), (1, .int v1), (2, .int v2), (3, .int v3), (4, .int v4)] → W p l e ({ frames := 2, cells := 0, slots := 0, locals := 45 } : Room) s m args below meth c H locs 0 0 Q (F0 m 5 ls []) := by
    intro Q v1 v2 I J o K0 n
    clear hP hD hS hl
    induction n with
    | zero =>
      intro v3 v4 H locs ls hf
      rw [lp_X5_fusedWithAny_5.eq_1] at hf
      cases hf
    | succ n ih =>
      intro v3 v4 H locs ls hf hP hD hS hl
      rw [lp_X5_fusedWithAny_5.eq_2] at hf
      refine lv_iload hx hb dX5_fusedWithAny_5 (lv_at hl 4 rfl) ?_
      refine lv_aload_n hx hb dX5_fusedWithAny_7 rfl (lv_at hl 0 rfl) ?_
      refine va_get (D := (dC, dI)) (ci := 6) (v := .int (I (8 + x) 0)) (C := RX7) (T := TX7) (N := 2) hx hb hts in_X7 hown hK hP (8 + x) (((wBT ad cI cJ cT htx)).2.1 I J) rfl 1 (by decide) wd_0 (fun _ h9 => h9) rfl dX5_fusedWithAny_8 ?_
      refine lv_icmp_ge (tgt := 66) hx hb dX5_fusedWithAny_11 (by decide) (fun c_6 => ?_) (fun c_6 => ?_)
      · have hf := (if_pos c_6).symm.trans hf
        exact K0 _ _ _ _ (Option.some.inj hf).symm hP hD hS (lv_sub hl [3] rfl)
      · have hf := (if_neg c_6).symm.trans hf
        refine lv_iconst (v := (0 : Int32)) hx hb dX5_fusedWithAny_14 (by decide) ?_
        refine lv_istore (lv' := [(5, .int (0 : Int32)), (0, .ref (ad (8 + x))), (1, .int v1), (2, .int v2), (3, .int v3), (4, .int v4)]) hx hb dX5_fusedWithAny_15 hl (by decide) rfl (fun ls hl => ?_)
        obtain ⟨o_7, hg_7, hf⟩ := bd_some hf
        refine L17 _ v1 v2 v4 I J o_7 ?_ FU v3 (0 : Int32) _ _ _ hg_7 hP hD hS (lv_sub hl [1, 2, 3, 4, 5, 0] rfl)
        · intro w3_7 H locs ls ho hP hD hS hl
          subst o_7
          refine lv_iinc (v := (v4 + (1 : Int32))) (lv' := [(4, .int (v4 + (1 : Int32))), (0, .ref (ad (8 + x))), (1, .int v1), (2, .int v2), (3, .int w3_7)]) hx hb dX5_fusedWithAny_60 hl (k := 4) rfl (by first | rfl | decide) (by decide) rfl (fun ls hl => ?_)
          refine lv_goto (tgt := 5) hx hb dX5_fusedWithAny_63 (by decide) ?_
          exact ih _ _ _ _ _ hf hP hD hS (lv_sub hl [1, 2, 3, 4, 0] rfl)
  unfold f_X5_fusedWithAny at hf
  refine lv_iconst (v := (0 : Int32)) hx hb dX5_fusedWithAny_0 (by decide) ?_
  refine lv_istore_n (lv' := [(3, .int (0 : Int32)), (0, .ref (ad (8 + x))), (1, .int p1), (2, .int p2)]) hx hb dX5_fusedWithAny_1 rfl hl (by decide) rfl (fun ls hl => ?_)
  refine lv_iconst (v := (0 : Int32)) hx hb dX5_fusedWithAny_2 (by decide) ?_
  refine lv_istore (lv' := [(4, .int (0 : Int32)), (3, .int (0 : Int32)), (0, .ref (ad (8 + x))), (1, .int p1), (2, .int p2)]) hx hb dX5_fusedWithAny_3 hl (by decide) rfl (fun ls hl => ?_)
  obtain ⟨o_8, hg_8, hf⟩ := bd_some hf
  refine L5 _ p1 p2 I J o_8 ?_ FU (0 : Int32) (0 : Int32) _ _ _ hg_8 hP hD hS (lv_sub hl [2, 3, 4, 1, 0] rfl)
  · intro w3_8 H locs ls ho hP hD hS hl
    subst o_8
    refine lv_iload_n hx hb dX5_fusedWithAny_66 rfl (lv_at hl 0 rfl) ?_
    cases hf
    exact xRi hx hb hr hlocks hK hP hD hS (fun _ h => h) dX5_fusedWithAny_67
set_option maxHeartbeats 4000000 in
set_option maxRecDepth 100000 in
theorem c_X5_grow (l : Launch) (dC : Nat → ClassId) (dI : Nat → Nat → Nat) (ad : Nat → Nat) (cI cJ cT : ClassId) (x : Nat) (htx : x < 8) (p2 : Int32) (I : SI) (J : SJ) {r0 : Int32} (hf : f_X5_grow x p2 I = some r0) : CtI l yX5_grow wsX5_grow ({ frames := 3, cells := 0, slots := 0, locals := 70 } : Room) (dC, dI) (tys3 cI cJ cT) (wB ad cI cJ cT) [.ref (ad (8 + x)), .ref (ad 17), .int p2] I J r0 I J := by
  intro sz
  refine Met.ofW (cc := cX5_grow) (maxL := 5) (ret := (some .int)) (by decide) rfl ?_
  intro p e s m args below meth c s₁ B hml hv
  obtain ⟨hargs, hsz, hP, hK, hD0⟩ := hv
  have hx := B.exec
  have hb := B.bytes
  have hr := B.returns
  have hts := atoms_spec (ws := wsX5_grow) B.pre
  have hown : s.vm.findClass RX5 = some m.cls := findClass_of_methodNamed B.named
  have hlocks := B.notSynchronized
  subst hsz
  have hD := hD0.self (sz := s.heap.size)
  generalize hAe : va_A ((wB ad cI cJ cT) I J) s.heap.size = A at hD ⊢
  have hA : ∀ q : Nat, s.heap.size ≤ q → A q := fun q h => by rw [← hAe]; exact Or.inr h
  have hS : va_S A s.heap s.heap [] := va_S.rf
  have hl := lv_entry ([.ref (ad (8 + x)), .ref (ad 17), .int p2]) (n := 5) (Nat.le_of_ble_eq_true rfl)
  rw [hargs, lg_entry_eq, ← hargs]
  generalize (lg_sl ([.ref (ad (8 + x)), .ref (ad 17), .int p2]) ++ List.replicate (5 - (lg_sl ([.ref (ad (8 + x)), .ref (ad 17), .int p2])).length) Slot.unset).toArray = ls at hl ⊢
  have hl : lv_has ls 5 [(0, .ref (ad (8 + x))), (1, .ref (ad 17)), (2, .int p2)] := hl
  have hfix : CallFix p m c cX5_grow 5 s args wsX5_grow RX5 := ⟨hx, hb, hml, hown, hts⟩
  have in_X7 : ∀ w ∈ u_ws RX7 TX7 2, w ∈ wsX5_grow := by decide +kernel
  have wd_0 := hts (.fieldLink RX5 15 "FuseBench$Table" "kinds" "I") (by decide +kernel)
  have L5 : ∀ (Q : State → Prop) (v2 : Int32) (I : SI) (J : SJ) (o : Int32), (∀ (w3 : Int32) (H : Heap) (locs : List Loc) (ls : Array Slot), o = w3 → va_P (dC, dI) vwCl ((wB ad cI cJ cT) I J) H → va_D A ((wB ad cI cJ cT) I J) → va_S A s.heap H locs → lv_has ls 5 [(3, .int w3)] → W p l e ({ frames := 3, cells := 0, slots := 0, locals := 70 } : Room) s m args below meth c H locs 0 0 Q (F0 m 46 ls [])) → ∀ (n : Nat) (v3 : Int32) (v4 : Int32) (H : Heap) (locs : List Loc) (ls : Array Slot), lp_X5_grow_5 x v2 I n v3 v4 = some o → va_P (dC, dI) vwCl ((wB ad cI cJ cT) I J) H → va_D A ((wB ad cI cJ cT) I J) → va_S A s.heap H locs → lv_has ls 5 [(0, .ref (ad (8 + x))), (1, .ref (ad 17)), (2, .int v2), (3, .int v3), (4, .int v4)] → W p l e ({ frames := 3, cells := 0, slots := 0, locals := 70 } : Room) s m args below meth c H locs 0 0 Q (F0 m 5 ls []) := by
    intro Q v2 I J o K0 n
    clear hP hD hS hl
    induction n with
    | zero =>
      intro v3 v4 H locs ls hf
      rw [lp_X5_grow_5.eq_1] at hf
      cases hf
    | succ n ih =>
      intro v3 v4 H locs ls hf hP hD hS hl
      rw [lp_X5_grow_5.eq_2] at hf
      refine lv_iload hx hb dX5_grow_5 (lv_at hl 4 rfl) ?_
      refine lv_aload_n hx hb dX5_grow_7 rfl (lv_at hl 0 rfl) ?_
      refine va_get (D := (dC, dI)) (ci := 6) (v := .int (I (8 + x) 0)) (C := RX7) (T := TX7) (N := 2) hx hb hts in_X7 hown hK hP (8 + x) (((wBT ad cI cJ cT htx)).2.1 I J) rfl 1 (by decide) wd_0 (fun _ h9 => h9) rfl dX5_grow_8 ?_
      refine lv_icmp_ge (tgt := 46) hx hb dX5_grow_11 (by decide) (fun c_1 => ?_) (fun c_1 => ?_)
      · have hf := (if_pos c_1).symm.trans hf
        exact K0 _ _ _ _ (Option.some.inj hf).symm hP hD hS (lv_sub hl [3] rfl)
      · have hf := (if_neg c_1).symm.trans hf
        refine lv_iload_n hx hb dX5_grow_14 rfl (lv_at hl 2 rfl) ?_
        refine lv_iload hx hb dX5_grow_15 (lv_at hl 4 rfl) ?_
        obtain ⟨r_2, hg_2, hf⟩ := bd_some hf
        refine xSi (rest := []) (c_X5_holds l dC dI ad cI cJ cT v2 v4 I J hg_2) hfix (va_cwS 2 hts gX5_grow_X5_holds rfl rfl rfl (by decide +kernel) ⟨Nat.le_of_ble_eq_true rfl, Nat.le_of_ble_eq_true rfl⟩) hK hP hD hS hA rfl hl.1 rfl (Nat.le_of_ble_eq_true rfl) ⟨Nat.zero_le _, Nat.zero_le _⟩ dX5_grow_17 (fun H locs hP hD hS => ?_)
        refine lv_if_eq (tgt := 40) hx hb dX5_grow_20 (by decide) (fun c_3 => ?_) (fun c_3 => ?_)
        · have hf := (if_pos c_3).symm.trans hf
          refine lv_iinc (v := (v4 + (1 : Int32))) (lv' := [(4, .int (v4 + (1 : Int32))), (0, .ref (ad (8 + x))), (1, .ref (ad 17)), (2, .int v2), (3, .int v3)]) hx hb dX5_grow_40 hl (k := 4) rfl (by first | rfl | decide) (by decide) rfl (fun ls hl => ?_)
          refine lv_goto (tgt := 5) hx hb dX5_grow_43 (by decide) ?_
          exact ih _ _ _ _ _ hf hP hD hS (lv_sub hl [1, 2, 3, 4, 0] rfl)
        · have hf := (if_neg c_3).symm.trans hf
          refine lv_iload_n hx hb dX5_grow_23 rfl (lv_at hl 3 rfl) ?_
          refine lv_iconst (v := (1 : Int32)) hx hb dX5_grow_24 (by decide) ?_
          refine lv_aload_n hx hb dX5_grow_25 rfl (lv_at hl 1 rfl) ?_
          refine lv_iload hx hb dX5_grow_26 (lv_at hl 4 rfl) ?_
          obtain ⟨h_4, hf⟩ := gd_some hf
          refine x_iald hx hb hK (aiB_17 ad cI cJ cT) hP h_4 dX5_grow_28 ?_
          refine lv_ishl hx hb dX5_grow_29 ?_
          refine lv_aload_n hx hb dX5_grow_30 rfl (lv_at hl 0 rfl) ?_
          refine lv_iload hx hb dX5_grow_31 (lv_at hl 4 rfl) ?_
          refine lv_iload_n hx hb dX5_grow_33 rfl (lv_at hl 2 rfl) ?_
          obtain ⟨r_5, hg_5, hf⟩ := bd_some hf
          refine xSi (rest := [.int ((1 : Int32) <<< ((I 17 v4.toNatClampNeg) &&& 31)), .int v3]) (c_X5_fusedWithAny l dC dI ad cI cJ cT x htx v4 v2 I J hg_5) hfix (va_cwS 3 hts gX5_grow_X5_fusedWithAny rfl rfl rfl (by decide +kernel) ⟨Nat.le_of_ble_eq_true rfl, Nat.le_of_ble_eq_true rfl⟩) hK hP hD hS hA rfl hl.1 rfl (Nat.le_of_ble_eq_true rfl) ⟨Nat.zero_le _, Nat.zero_le _⟩ dX5_grow_34 (fun H locs hP hD hS => ?_)
          refine lv_ior hx hb dX5_grow_37 ?_
          refine lv_ior hx hb dX5_grow_38 ?_
          refine lv_istore_n (lv' := [(3, .int (v3 ||| (((1 : Int32) <<< ((I 17 v4.toNatClampNeg) &&& 31)) ||| r_5))), (0, .ref (ad (8 + x))), (1, .ref (ad 17)), (2, .int v2), (4, .int v4)]) hx hb dX5_grow_39 rfl hl (by decide) rfl (fun ls hl => ?_)
          refine lv_iinc (v := (v4 + (1 : Int32))) (lv' := [(4, .int (v4 + (1 : Int32))), (3, .int (v3 ||| (((1 : Int32) <<< ((I 17 v4.toNatClampNeg) &&& 31)) ||| r_5))), (0, .ref (ad (8 + x))), (1, .ref (ad 17)), (2, .int v2)]) hx hb dX5_grow_40 hl (k := 4) rfl (by first | rfl | decide) (by decide) rfl (fun ls hl => ?_)
          refine lv_goto (tgt := 5) hx hb dX5_grow_43 (by decide) ?_
          exact ih _ _ _ _ _ hf hP hD hS (lv_sub hl [2, 3, 4, 1, 0] rfl)
  unfold f_X5_grow at hf
  refine lv_iload_n hx hb dX5_grow_0 rfl (lv_at hl 2 rfl) ?_
  refine lv_istore_n (lv' := [(3, .int p2), (0, .ref (ad (8 + x))), (1, .ref (ad 17)), (2, .int p2)]) hx hb dX5_grow_1 rfl hl (by decide) rfl (fun ls hl => ?_)
  refine lv_iconst (v := (0 : Int32)) hx hb dX5_grow_2 (by decide) ?_
  refine lv_istore (lv' := [(4, .int (0 : Int32)), (3, .int p2), (0, .ref (ad (8 + x))), (1, .ref (ad 17)), (2, .int p2)]) hx hb dX5_grow_3 hl (by decide) rfl (fun ls hl => ?_)
  obtain ⟨o_6, hg_6, hf⟩ := bd_some hf
  refine L5 _ p2 I J o_6 ?_ FU p2 (0 : Int32) _ _ _ hg_6 hP hD hS (lv_sub hl [2, 3, 4, 1, 0] rfl)
  · intro w3_6 H locs ls ho hP hD hS hl
    subst o_6
    refine lv_iload_n hx hb dX5_grow_46 rfl (lv_at hl 0 rfl) ?_
    cases hf
    exact xRi hx hb hr hlocks hK hP hD hS (fun _ h => h) dX5_grow_47
set_option maxHeartbeats 4000000 in
set_option maxRecDepth 100000 in
theorem c_X5_closure (l : Launch) (dC : Nat → ClassId) (dI : Nat → Nat → Nat) (ad : Nat → Nat) (cI cJ cT : ClassId) (x : Nat) (htx : x < 8) (p2 : Int32) (I : SI) (J : SJ) {r0 : Int32} (hf : f_X5_closure x p2 I = some r0) : CtI l yX5_closure wsX5_closure ({ frames := 4, cells := 0, slots := 0, locals := 94 } : Room) (dC, dI) (tys3 cI cJ cT) (wB ad cI cJ cT) [.ref (ad (8 + x)), .ref (ad 17), .int p2] I J r0 I J := by
  intro sz
  refine Met.ofW (cc := cX5_closure) (maxL := 5) (ret := (some .int)) (by decide) rfl ?_
  intro p e s m args below meth c s₁ B hml hv
  obtain ⟨hargs, hsz, hP, hK, hD0⟩ := hv
  have hx := B.exec
  have hb := B.bytes
  have hr := B.returns
  have hts := atoms_spec (ws := wsX5_closure) B.pre
  have hown : s.vm.findClass RX5 = some m.cls := findClass_of_methodNamed B.named
  have hlocks := B.notSynchronized
  subst hsz
  have hD := hD0.self (sz := s.heap.size)
  generalize hAe : va_A ((wB ad cI cJ cT) I J) s.heap.size = A at hD ⊢
  have hA : ∀ q : Nat, s.heap.size ≤ q → A q := fun q h => by rw [← hAe]; exact Or.inr h
  have hS : va_S A s.heap s.heap [] := va_S.rf
  have hl := lv_entry ([.ref (ad (8 + x)), .ref (ad 17), .int p2]) (n := 5) (Nat.le_of_ble_eq_true rfl)
  rw [hargs, lg_entry_eq, ← hargs]
  generalize (lg_sl ([.ref (ad (8 + x)), .ref (ad 17), .int p2]) ++ List.replicate (5 - (lg_sl ([.ref (ad (8 + x)), .ref (ad 17), .int p2])).length) Slot.unset).toArray = ls at hl ⊢
  have hl : lv_has ls 5 [(0, .ref (ad (8 + x))), (1, .ref (ad 17)), (2, .int p2)] := hl
  have hfix : CallFix p m c cX5_closure 5 s args wsX5_closure RX5 := ⟨hx, hb, hml, hown, hts⟩
  have in_X7 : ∀ w ∈ u_ws RX7 TX7 2, w ∈ wsX5_closure := by decide +kernel
  have wd_0 := hts (.fieldLink RX5 15 "FuseBench$Table" "kinds" "I") (by decide +kernel)
  have L7 : ∀ (Q : State → Prop)  (I : SI) (J : SJ) (o : Int32), (∀ (w3 : Int32) (H : Heap) (locs : List Loc) (ls : Array Slot), o = w3 → va_P (dC, dI) vwCl ((wB ad cI cJ cT) I J) H → va_D A ((wB ad cI cJ cT) I J) → va_S A s.heap H locs → lv_has ls 5 [(3, .int w3)] → W p l e ({ frames := 4, cells := 0, slots := 0, locals := 94 } : Room) s m args below meth c H locs 0 0 Q (F0 m 29 ls [])) → ∀ (n : Nat) (v3 : Int32) (v4 : Int32) (H : Heap) (locs : List Loc) (ls : Array Slot), lp_X5_closure_7 x I n v3 v4 = some o → va_P (dC, dI) vwCl ((wB ad cI cJ cT) I J) H → va_D A ((wB ad cI cJ cT) I J) → va_S A s.heap H locs → lv_has ls 5 [(0, .ref (ad (8 + x))), (1, .ref (ad 17)), (3, .int v3), (4, .int v4)] → W p l e ({ frames := 4, cells := 0, slots := 0, locals := 94 } : Room) s m args below meth c H locs 0 0 Q (F0 m 7 ls []) := by
    intro Q  I J o K0 n
    clear hP hD hS hl
    induction n with
    | zero =>
      intro v3 v4 H locs ls hf
      rw [lp_X5_closure_7.eq_1] at hf
      cases hf
    | succ n ih =>
      intro v3 v4 H locs ls hf hP hD hS hl
      rw [lp_X5_closure_7.eq_2] at hf
      refine lv_iload hx hb dX5_closure_7 (lv_at hl 3 rfl) ?_
      refine lv_aload_n hx hb dX5_closure_9 rfl (lv_at hl 0 rfl) ?_
      refine va_get (D := (dC, dI)) (ci := 6) (v := .int (I (8 + x) 0)) (C := RX7) (T := TX7) (N := 2) hx hb hts in_X7 hown hK hP (8 + x) (((wBT ad cI cJ cT htx)).2.1 I J) rfl 1 (by decide) wd_0 (fun _ h9 => h9) rfl dX5_closure_10 ?_
      refine lv_icmp_ge (tgt := 29) hx hb dX5_closure_13 (by decide) (fun c_1 => ?_) (fun c_1 => ?_)
      · have hf := (if_pos c_1).symm.trans hf
        exact K0 _ _ _ _ (Option.some.inj hf).symm hP hD hS (lv_sub hl [2] rfl)
      · have hf := (if_neg c_1).symm.trans hf
        refine lv_aload_n hx hb dX5_closure_16 rfl (lv_at hl 0 rfl) ?_
        refine lv_aload_n hx hb dX5_closure_17 rfl (lv_at hl 1 rfl) ?_
        refine lv_iload_n hx hb dX5_closure_18 rfl (lv_at hl 2 rfl) ?_
        obtain ⟨r_2, hg_2, hf⟩ := bd_some hf
        refine xSi (rest := []) (c_X5_grow l dC dI ad cI cJ cT x htx v3 I J hg_2) hfix (va_cwS 3 hts gX5_closure_X5_grow rfl rfl rfl (by decide +kernel) ⟨Nat.le_of_ble_eq_true rfl, Nat.le_of_ble_eq_true rfl⟩) hK hP hD hS hA rfl hl.1 rfl (Nat.le_of_ble_eq_true rfl) ⟨Nat.zero_le _, Nat.zero_le _⟩ dX5_closure_19 (fun H locs hP hD hS => ?_)
        refine lv_istore_n (lv' := [(3, .int r_2), (0, .ref (ad (8 + x))), (1, .ref (ad 17)), (4, .int v4)]) hx hb dX5_closure_22 rfl hl (by decide) rfl (fun ls hl => ?_)
        refine lv_iinc (v := (v4 + (1 : Int32))) (lv' := [(4, .int (v4 + (1 : Int32))), (3, .int r_2), (0, .ref (ad (8 + x))), (1, .ref (ad 17))]) hx hb dX5_closure_23 hl (k := 3) rfl (by first | rfl | decide) (by decide) rfl (fun ls hl => ?_)
        refine lv_goto (tgt := 7) hx hb dX5_closure_26 (by decide) ?_
        exact ih _ _ _ _ _ hf hP hD hS (lv_sub hl [2, 3, 1, 0] rfl)
  unfold f_X5_closure at hf
  refine lv_iload_n hx hb dX5_closure_0 rfl (lv_at hl 2 rfl) ?_
  refine lv_iconst (v := (1 : Int32)) hx hb dX5_closure_1 (by decide) ?_
  refine lv_ior hx hb dX5_closure_2 ?_
  refine lv_istore_n (lv' := [(3, .int (p2 ||| (1 : Int32))), (0, .ref (ad (8 + x))), (1, .ref (ad 17)), (2, .int p2)]) hx hb dX5_closure_3 rfl hl (by decide) rfl (fun ls hl => ?_)
  refine lv_iconst (v := (0 : Int32)) hx hb dX5_closure_4 (by decide) ?_
  refine lv_istore (lv' := [(4, .int (0 : Int32)), (3, .int (p2 ||| (1 : Int32))), (0, .ref (ad (8 + x))), (1, .ref (ad 17)), (2, .int p2)]) hx hb dX5_closure_5 hl (by decide) rfl (fun ls hl => ?_)
  obtain ⟨o_3, hg_3, hf⟩ := bd_some hf
  refine L7 _ I J o_3 ?_ FU (p2 ||| (1 : Int32)) (0 : Int32) _ _ _ hg_3 hP hD hS (lv_sub hl [2, 3, 1, 0] rfl)
  · intro w3_3 H locs ls ho hP hD hS hl
    subst o_3
    refine lv_iload_n hx hb dX5_closure_29 rfl (lv_at hl 0 rfl) ?_
    cases hf
    exact xRi hx hb hr hlocks hK hP hD hS (fun _ h => h) dX5_closure_30
set_option maxHeartbeats 4000000 in
set_option maxRecDepth 100000 in
theorem c_X5_innermost (l : Launch) (dC : Nat → ClassId) (dI : Nat → Nat → Nat) (ad : Nat → Nat) (cI cJ cT : ClassId) (x : Nat) (htx : x < 8) (I : SI) (J : SJ) {r0 : Int32} (hf : f_X5_innermost x I = some r0) : CtI l yX5_innermost wsX5_innermost ({ frames := 5, cells := 0, slots := 0, locals := 118 } : Room) (dC, dI) (tys3 cI cJ cT) (wB ad cI cJ cT) [.ref (ad (8 + x)), .ref (ad 17)] I J r0 I J := by
  intro sz
  refine Met.ofW (cc := cX5_innermost) (maxL := 4) (ret := (some .int)) (by decide) rfl ?_
  intro p e s m args below meth c s₁ B hml hv
  obtain ⟨hargs, hsz, hP, hK, hD0⟩ := hv
  have hx := B.exec
  have hb := B.bytes
  have hr := B.returns
  have hts := atoms_spec (ws := wsX5_innermost) B.pre
  have hown : s.vm.findClass RX5 = some m.cls := findClass_of_methodNamed B.named
  have hlocks := B.notSynchronized
  subst hsz
  have hD := hD0.self (sz := s.heap.size)
  generalize hAe : va_A ((wB ad cI cJ cT) I J) s.heap.size = A at hD ⊢
  have hA : ∀ q : Nat, s.heap.size ≤ q → A q := fun q h => by rw [← hAe]; exact Or.inr h
  have hS : va_S A s.heap s.heap [] := va_S.rf
  have hl := lv_entry ([.ref (ad (8 + x)), .ref (ad 17)]) (n := 4) (Nat.le_of_ble_eq_true rfl)
  rw [hargs, lg_entry_eq, ← hargs]
  generalize (lg_sl ([.ref (ad (8 + x)), .ref (ad 17)]) ++ List.replicate (4 - (lg_sl ([.ref (ad (8 + x)), .ref (ad 17)])).length) Slot.unset).toArray = ls at hl ⊢
  have hl : lv_has ls 4 [(0, .ref (ad (8 + x))), (1, .ref (ad 17))] := hl
  have hfix : CallFix p m c cX5_innermost 4 s args wsX5_innermost RX5 := ⟨hx, hb, hml, hown, hts⟩
  have in_X7 : ∀ w ∈ u_ws RX7 TX7 2, w ∈ wsX5_innermost := by decide +kernel
  have wd_0 := hts (.fieldLink RX5 15 "FuseBench$Table" "kinds" "I") (by decide +kernel)
  have L4 : ∀ (Q : State → Prop)  (I : SI) (J : SJ) (o : Int32), (∀ (w2 : Int32) (H : Heap) (locs : List Loc) (ls : Array Slot), o = w2 → va_P (dC, dI) vwCl ((wB ad cI cJ cT) I J) H → va_D A ((wB ad cI cJ cT) I J) → va_S A s.heap H locs → lv_has ls 4 [(0, .ref (ad (8 + x))), (1, .ref (ad 17)), (2, .int w2)] → W p l e ({ frames := 5, cells := 0, slots := 0, locals := 118 } : Room) s m args below meth c H locs 0 0 Q (F0 m 31 ls [])) → ∀ (n : Nat) (v2 : Int32) (v3 : Int32) (H : Heap) (locs : List Loc) (ls : Array Slot), lp_X5_innermost_4 x I n v2 v3 = some o → va_P (dC, dI) vwCl ((wB ad cI cJ cT) I J) H → va_D A ((wB ad cI cJ cT) I J) → va_S A s.heap H locs → lv_has ls 4 [(0, .ref (ad (8 + x))), (1, .ref (ad 17)), (2, .int v2), (3, .int v3)] → W p l e ({ frames := 5, cells := 0, slots := 0, locals := 118 } : Room) s m args below meth c H locs 0 0 Q (F0 m 4 ls []) := by
    intro Q  I J o K0 n
    clear hP hD hS hl
    induction n with
    | zero =>
      intro v2 v3 H locs ls hf
      rw [lp_X5_innermost_4.eq_1] at hf
      cases hf
    | succ n ih =>
      intro v2 v3 H locs ls hf hP hD hS hl
      rw [lp_X5_innermost_4.eq_2] at hf
      refine lv_iload_n hx hb dX5_innermost_4 rfl (lv_at hl 3 rfl) ?_
      refine lv_aload_n hx hb dX5_innermost_5 rfl (lv_at hl 0 rfl) ?_
      refine va_get (D := (dC, dI)) (ci := 6) (v := .int (I (8 + x) 0)) (C := RX7) (T := TX7) (N := 2) hx hb hts in_X7 hown hK hP (8 + x) (((wBT ad cI cJ cT htx)).2.1 I J) rfl 1 (by decide) wd_0 (fun _ h9 => h9) rfl dX5_innermost_6 ?_
      refine lv_icmp_ge (tgt := 31) hx hb dX5_innermost_9 (by decide) (fun c_1 => ?_) (fun c_1 => ?_)
      · have hf := (if_pos c_1).symm.trans hf
        exact K0 _ _ _ _ (Option.some.inj hf).symm hP hD hS (lv_sub hl [0, 1, 2] rfl)
      · have hf := (if_neg c_1).symm.trans hf
        refine lv_iload_n hx hb dX5_innermost_12 rfl (lv_at hl 2 rfl) ?_
        refine lv_aload_n hx hb dX5_innermost_13 rfl (lv_at hl 0 rfl) ?_
        refine lv_iload_n hx hb dX5_innermost_14 rfl (lv_at hl 3 rfl) ?_
        refine lv_iconst (v := (1 : Int32)) hx hb dX5_innermost_15 (by decide) ?_
        refine lv_aload_n hx hb dX5_innermost_16 rfl (lv_at hl 1 rfl) ?_
        refine lv_iload_n hx hb dX5_innermost_17 rfl (lv_at hl 3 rfl) ?_
        obtain ⟨h_2, hf⟩ := gd_some hf
        refine x_iald hx hb hK (aiB_17 ad cI cJ cT) hP h_2 dX5_innermost_18 ?_
        refine lv_ishl hx hb dX5_innermost_19 ?_
        obtain ⟨r_3, hg_3, hf⟩ := bd_some hf
        refine xSi (rest := [.int v2]) (c_X5_fusedWithAny l dC dI ad cI cJ cT x htx v3 ((1 : Int32) <<< ((I 17 v3.toNatClampNeg) &&& 31)) I J hg_3) hfix (va_cwS 3 hts gX5_innermost_X5_fusedWithAny rfl rfl rfl (by decide +kernel) ⟨Nat.le_of_ble_eq_true rfl, Nat.le_of_ble_eq_true rfl⟩) hK hP hD hS hA rfl hl.1 rfl (Nat.le_of_ble_eq_true rfl) ⟨Nat.zero_le _, Nat.zero_le _⟩ dX5_innermost_20 (fun H locs hP hD hS => ?_)
        refine lv_ior hx hb dX5_innermost_23 ?_
        refine lv_istore_n (lv' := [(2, .int (v2 ||| r_3)), (0, .ref (ad (8 + x))), (1, .ref (ad 17)), (3, .int v3)]) hx hb dX5_innermost_24 rfl hl (by decide) rfl (fun ls hl => ?_)
        refine lv_iinc (v := (v3 + (1 : Int32))) (lv' := [(3, .int (v3 + (1 : Int32))), (2, .int (v2 ||| r_3)), (0, .ref (ad (8 + x))), (1, .ref (ad 17))]) hx hb dX5_innermost_25 hl (k := 3) rfl (by first | rfl | decide) (by decide) rfl (fun ls hl => ?_)
        refine lv_goto (tgt := 4) hx hb dX5_innermost_28 (by decide) ?_
        exact ih _ _ _ _ _ hf hP hD hS (lv_sub hl [2, 3, 1, 0] rfl)
  unfold f_X5_innermost at hf
  refine lv_iconst (v := (0 : Int32)) hx hb dX5_innermost_0 (by decide) ?_
  refine lv_istore_n (lv' := [(2, .int (0 : Int32)), (0, .ref (ad (8 + x))), (1, .ref (ad 17))]) hx hb dX5_innermost_1 rfl hl (by decide) rfl (fun ls hl => ?_)
  refine lv_iconst (v := (0 : Int32)) hx hb dX5_innermost_2 (by decide) ?_
  refine lv_istore_n (lv' := [(3, .int (0 : Int32)), (2, .int (0 : Int32)), (0, .ref (ad (8 + x))), (1, .ref (ad 17))]) hx hb dX5_innermost_3 rfl hl (by decide) rfl (fun ls hl => ?_)
  obtain ⟨o_4, hg_4, hf⟩ := bd_some hf
  refine L4 _ I J o_4 ?_ FU (0 : Int32) (0 : Int32) _ _ _ hg_4 hP hD hS (lv_sub hl [2, 3, 1, 0] rfl)
  · intro w2_4 H locs ls ho hP hD hS hl
    subst o_4
    refine lv_aload_n hx hb dX5_innermost_31 rfl (lv_at hl 0 rfl) ?_
    refine lv_aload_n hx hb dX5_innermost_32 rfl (lv_at hl 1 rfl) ?_
    refine lv_iload_n hx hb dX5_innermost_33 rfl (lv_at hl 2 rfl) ?_
    obtain ⟨r_5, hg_5, hf⟩ := bd_some hf
    refine xSi (rest := []) (c_X5_closure l dC dI ad cI cJ cT x htx w2_4 I J hg_5) hfix (va_cwS 3 hts gX5_innermost_X5_closure rfl rfl rfl (by decide +kernel) ⟨Nat.le_of_ble_eq_true rfl, Nat.le_of_ble_eq_true rfl⟩) hK hP hD hS hA rfl hl.1 rfl (Nat.le_of_ble_eq_true rfl) ⟨Nat.zero_le _, Nat.zero_le _⟩ dX5_innermost_34 (fun H locs hP hD hS => ?_)
    cases hf
    exact xRi hx hb hr hlocks hK hP hD hS (fun _ h => h) dX5_innermost_37
set_option maxHeartbeats 4000000 in
set_option maxRecDepth 100000 in
theorem c_X5_countClosed (l : Launch) (dC : Nat → ClassId) (dI : Nat → Nat → Nat) (ad : Nat → Nat) (cI cJ cT : ClassId) (x : Nat) (htx : x < 8) (I : SI) (J : SJ) {r0 : Int32} (hf : f_X5_countClosed x I = some r0) : CtI l yX5_countClosed wsX5_countClosed ({ frames := 4, cells := 0, slots := 0, locals := 94 } : Room) (dC, dI) (tys3 cI cJ cT) (wB ad cI cJ cT) [.ref (ad (8 + x)), .ref (ad 17)] I J r0 I J := by
  intro sz
  refine Met.ofW (cc := cX5_countClosed) (maxL := 4) (ret := (some .int)) (by decide) rfl ?_
  intro p e s m args below meth c s₁ B hml hv
  obtain ⟨hargs, hsz, hP, hK, hD0⟩ := hv
  have hx := B.exec
  have hb := B.bytes
  have hr := B.returns
  have hts := atoms_spec (ws := wsX5_countClosed) B.pre
  have hown : s.vm.findClass RX5 = some m.cls := findClass_of_methodNamed B.named
  have hlocks := B.notSynchronized
  subst hsz
  have hD := hD0.self (sz := s.heap.size)
  generalize hAe : va_A ((wB ad cI cJ cT) I J) s.heap.size = A at hD ⊢
  have hA : ∀ q : Nat, s.heap.size ≤ q → A q := fun q h => by rw [← hAe]; exact Or.inr h
  have hS : va_S A s.heap s.heap [] := va_S.rf
  have hl := lv_entry ([.ref (ad (8 + x)), .ref (ad 17)]) (n := 4) (Nat.le_of_ble_eq_true rfl)
  rw [hargs, lg_entry_eq, ← hargs]
  generalize (lg_sl ([.ref (ad (8 + x)), .ref (ad 17)]) ++ List.replicate (4 - (lg_sl ([.ref (ad (8 + x)), .ref (ad 17)])).length) Slot.unset).toArray = ls at hl ⊢
  have hl : lv_has ls 4 [(0, .ref (ad (8 + x))), (1, .ref (ad 17))] := hl
  have hfix : CallFix p m c cX5_countClosed 4 s args wsX5_countClosed RX5 := ⟨hx, hb, hml, hown, hts⟩
  have in_X7 : ∀ w ∈ u_ws RX7 TX7 2, w ∈ wsX5_countClosed := by decide +kernel
  have wd_0 := hts (.fieldLink RX5 15 "FuseBench$Table" "kinds" "I") (by decide +kernel)
  have L4 : ∀ (Q : State → Prop)  (I : SI) (J : SJ) (o : Int32), (∀ (w2 : Int32) (H : Heap) (locs : List Loc) (ls : Array Slot), o = w2 → va_P (dC, dI) vwCl ((wB ad cI cJ cT) I J) H → va_D A ((wB ad cI cJ cT) I J) → va_S A s.heap H locs → lv_has ls 4 [(2, .int w2)] → W p l e ({ frames := 4, cells := 0, slots := 0, locals := 94 } : Room) s m args below meth c H locs 0 0 Q (F0 m 39 ls [])) → ∀ (n : Nat) (v2 : Int32) (v3 : Int32) (H : Heap) (locs : List Loc) (ls : Array Slot), lp_X5_countClosed_4 x I n v2 v3 = some o → va_P (dC, dI) vwCl ((wB ad cI cJ cT) I J) H → va_D A ((wB ad cI cJ cT) I J) → va_S A s.heap H locs → lv_has ls 4 [(0, .ref (ad (8 + x))), (1, .ref (ad 17)), (2, .int v2), (3, .int v3)] → W p l e ({ frames := 4, cells := 0, slots := 0, locals := 94 } : Room) s m args below meth c H locs 0 0 Q (F0 m 4 ls []) := by
    intro Q  I J o K0 n
    clear hP hD hS hl
    induction n with
    | zero =>
      intro v2 v3 H locs ls hf
      rw [lp_X5_countClosed_4.eq_1] at hf
      cases hf
    | succ n ih =>
      intro v2 v3 H locs ls hf hP hD hS hl
      rw [lp_X5_countClosed_4.eq_2] at hf
      refine lv_iload_n hx hb dX5_countClosed_4 rfl (lv_at hl 3 rfl) ?_
      refine lv_iconst (v := (1 : Int32)) hx hb dX5_countClosed_5 (by decide) ?_
      refine lv_aload_n hx hb dX5_countClosed_6 rfl (lv_at hl 0 rfl) ?_
      refine va_get (D := (dC, dI)) (ci := 6) (v := .int (I (8 + x) 0)) (C := RX7) (T := TX7) (N := 2) hx hb hts in_X7 hown hK hP (8 + x) (((wBT ad cI cJ cT htx)).2.1 I J) rfl 1 (by decide) wd_0 (fun _ h9 => h9) rfl dX5_countClosed_7 ?_
      refine lv_ishl hx hb dX5_countClosed_10 ?_
      refine lv_icmp_ge (tgt := 39) hx hb dX5_countClosed_11 (by decide) (fun c_1 => ?_) (fun c_1 => ?_)
      · have hf := (if_pos c_1).symm.trans hf
        exact K0 _ _ _ _ (Option.some.inj hf).symm hP hD hS (lv_sub hl [2] rfl)
      · have hf := (if_neg c_1).symm.trans hf
        refine lv_iload_n hx hb dX5_countClosed_14 rfl (lv_at hl 3 rfl) ?_
        refine lv_iconst (v := (1 : Int32)) hx hb dX5_countClosed_15 (by decide) ?_
        refine lv_iand hx hb dX5_countClosed_16 ?_
        refine lv_if_eq (tgt := 33) hx hb dX5_countClosed_17 (by decide) (fun c_2 => ?_) (fun c_2 => ?_)
        · have hf := (if_pos c_2).symm.trans hf
          refine lv_iinc (v := (v3 + (1 : Int32))) (lv' := [(3, .int (v3 + (1 : Int32))), (0, .ref (ad (8 + x))), (1, .ref (ad 17)), (2, .int v2)]) hx hb dX5_countClosed_33 hl (k := 3) rfl (by first | rfl | decide) (by decide) rfl (fun ls hl => ?_)
          refine lv_goto (tgt := 4) hx hb dX5_countClosed_36 (by decide) ?_
          exact ih _ _ _ _ _ hf hP hD hS (lv_sub hl [1, 2, 3, 0] rfl)
        · have hf := (if_neg c_2).symm.trans hf
          refine lv_aload_n hx hb dX5_countClosed_20 rfl (lv_at hl 0 rfl) ?_
          refine lv_aload_n hx hb dX5_countClosed_21 rfl (lv_at hl 1 rfl) ?_
          refine lv_iload_n hx hb dX5_countClosed_22 rfl (lv_at hl 3 rfl) ?_
          obtain ⟨r_3, hg_3, hf⟩ := bd_some hf
          refine xSi (rest := []) (c_X5_grow l dC dI ad cI cJ cT x htx v3 I J hg_3) hfix (va_cwS 3 hts gX5_countClosed_X5_grow rfl rfl rfl (by decide +kernel) ⟨Nat.le_of_ble_eq_true rfl, Nat.le_of_ble_eq_true rfl⟩) hK hP hD hS hA rfl hl.1 rfl (Nat.le_of_ble_eq_true rfl) ⟨Nat.zero_le _, Nat.zero_le _⟩ dX5_countClosed_23 (fun H locs hP hD hS => ?_)
          refine lv_iload_n hx hb dX5_countClosed_26 rfl (lv_at hl 3 rfl) ?_
          refine lv_icmp_ne (tgt := 33) hx hb dX5_countClosed_27 (by decide) (fun c_4 => ?_) (fun c_4 => ?_)
          · have hf := (if_neg c_4).symm.trans hf
            refine lv_iinc (v := (v3 + (1 : Int32))) (lv' := [(3, .int (v3 + (1 : Int32))), (0, .ref (ad (8 + x))), (1, .ref (ad 17)), (2, .int v2)]) hx hb dX5_countClosed_33 hl (k := 3) rfl (by first | rfl | decide) (by decide) rfl (fun ls hl => ?_)
            refine lv_goto (tgt := 4) hx hb dX5_countClosed_36 (by decide) ?_
            exact ih _ _ _ _ _ hf hP hD hS (lv_sub hl [1, 2, 3, 0] rfl)
          · have hf := (if_pos c_4).symm.trans hf
            refine lv_iinc (v := (v2 + (1 : Int32))) (lv' := [(2, .int (v2 + (1 : Int32))), (0, .ref (ad (8 + x))), (1, .ref (ad 17)), (3, .int v3)]) hx hb dX5_countClosed_30 hl (k := 2) rfl (by first | rfl | decide) (by decide) rfl (fun ls hl => ?_)
            refine lv_iinc (v := (v3 + (1 : Int32))) (lv' := [(3, .int (v3 + (1 : Int32))), (2, .int (v2 + (1 : Int32))), (0, .ref (ad (8 + x))), (1, .ref (ad 17))]) hx hb dX5_countClosed_33 hl (k := 3) rfl (by first | rfl | decide) (by decide) rfl (fun ls hl => ?_)
            refine lv_goto (tgt := 4) hx hb dX5_countClosed_36 (by decide) ?_
            exact ih _ _ _ _ _ hf hP hD hS (lv_sub hl [2, 3, 1, 0] rfl)
  unfold f_X5_countClosed at hf
  refine lv_iconst (v := (0 : Int32)) hx hb dX5_countClosed_0 (by decide) ?_
  refine lv_istore_n (lv' := [(2, .int (0 : Int32)), (0, .ref (ad (8 + x))), (1, .ref (ad 17))]) hx hb dX5_countClosed_1 rfl hl (by decide) rfl (fun ls hl => ?_)
  refine lv_iconst (v := (1 : Int32)) hx hb dX5_countClosed_2 (by decide) ?_
  refine lv_istore_n (lv' := [(3, .int (1 : Int32)), (2, .int (0 : Int32)), (0, .ref (ad (8 + x))), (1, .ref (ad 17))]) hx hb dX5_countClosed_3 rfl hl (by decide) rfl (fun ls hl => ?_)
  obtain ⟨o_5, hg_5, hf⟩ := bd_some hf
  refine L4 _ I J o_5 ?_ FU (0 : Int32) (1 : Int32) _ _ _ hg_5 hP hD hS (lv_sub hl [2, 3, 1, 0] rfl)
  · intro w2_5 H locs ls ho hP hD hS hl
    subst o_5
    refine lv_iload_n hx hb dX5_countClosed_39 rfl (lv_at hl 0 rfl) ?_
    cases hf
    exact xRi hx hb hr hlocks hK hP hD hS (fun _ h => h) dX5_countClosed_40
set_option maxHeartbeats 4000000 in
set_option maxRecDepth 100000 in
theorem c_X6_begin (l : Launch) (dC : Nat → ClassId) (dI : Nat → Nat → Nat) (ad : Nat → Nat) (cI cJ cT : ClassId) (p1 : Int32) (I : SI) (J : SJ) {J0 : SJ} (hf : f_X6_begin p1 J = some J0) : CtV l yX6_begin wsX6_begin ({ frames := 1, cells := 0, slots := 0, locals := 24 } : Room) (dC, dI) (tys3 cI cJ cT) (wB ad cI cJ cT) [.ref (ad 36), .int p1] I J I J0 := by
  intro sz
  refine Met.ofW (cc := cX6_begin) (maxL := 2) (ret := none) (by decide) rfl ?_
  intro p e s m args below meth c s₁ B hml hv
  obtain ⟨hargs, hsz, hP, hK, hD0⟩ := hv
  have hx := B.exec
  have hb := B.bytes
  have hr := B.returns
  have hts := atoms_spec (ws := wsX6_begin) B.pre
  have hown : s.vm.findClass RX6 = some m.cls := findClass_of_methodNamed B.named
  have hlocks := B.notSynchronized
  subst hsz
  have hD := hD0.self (sz := s.heap.size)
  generalize hAe : va_A ((wB ad cI cJ cT) I J) s.heap.size = A at hD ⊢
  have hA : ∀ q : Nat, s.heap.size ≤ q → A q := fun q h => by rw [← hAe]; exact Or.inr h
  have hS : va_S A s.heap s.heap [] := va_S.rf
  have hl := lv_entry ([.ref (ad 36), .int p1]) (n := 2) (Nat.le_of_ble_eq_true rfl)
  rw [hargs, lg_entry_eq, ← hargs]
  generalize (lg_sl ([.ref (ad 36), .int p1]) ++ List.replicate (2 - (lg_sl ([.ref (ad 36), .int p1])).length) Slot.unset).toArray = ls at hl ⊢
  have hl : lv_has ls 2 [(0, .ref (ad 36)), (1, .int p1)] := hl
  have hfix : CallFix p m c cX6_begin 2 s args wsX6_begin RX6 := ⟨hx, hb, hml, hown, hts⟩
  have in_X6 : ∀ w ∈ u_ws RX6 TX6 2, w ∈ wsX6_begin := by decide +kernel
  have wd_0 := hts (.fieldLink RX6 9 "FuseBench$Sum" "times" "[J") (by decide +kernel)
  unfold f_X6_begin at hf
  refine lv_aload_n hx hb dX6_begin_0 rfl (lv_at hl 0 rfl) ?_
  refine va_get (D := (dC, dI)) (ci := 5) (v := .ref (ad 34)) (C := RX6) (T := TX6) (N := 2) hx hb hts in_X6 hown hK hP 36 (obB_36 ad cI cJ cT I J) rfl 0 (by decide) wd_0 (fun _ h9 => h9) rfl dX6_begin_1 ?_
  refine lv_lconst (v := (0 : Int64)) hx hb dX6_begin_4 (by decide) ?_
  obtain ⟨J_1, hg_1, hf⟩ := bd_some hf
  refine xSv (rest := []) (c_J7_fillJ l dC dI ad cI cJ cT (wB ad cI cJ cT) (fun k => k) (ad 34) 34 5 34 (aiB_34 ad cI cJ cT) (0 : Int64) I J hg_1) hfix (va_cwS 2 hts gX6_begin_J7_fill_d0a16 rfl rfl rfl (by decide +kernel) ⟨Nat.le_of_ble_eq_true rfl, Nat.le_of_ble_eq_true rfl⟩) hK hP hD hS hA rfl hl.1 rfl (Nat.le_of_ble_eq_true rfl) ⟨Nat.zero_le _, Nat.zero_le _⟩ dX6_begin_5 (fun H locs hP hD hS => ?_)
  refine lv_aload_n hx hb dX6_begin_8 rfl (lv_at hl 0 rfl) ?_
  refine va_get (D := (dC, dI)) (ci := 5) (v := .ref (ad 34)) (C := RX6) (T := TX6) (N := 2) hx hb hts in_X6 hown hK hP 36 (obB_36 ad cI cJ cT I J_1) rfl 0 (by decide) wd_0 (fun _ h9 => h9) rfl dX6_begin_9 ?_
  refine lv_iload_n hx hb dX6_begin_12 rfl (lv_at hl 1 rfl) ?_
  refine lv_lconst (v := (1 : Int64)) hx hb dX6_begin_13 (by decide) ?_
  obtain ⟨h_2, hf⟩ := gd_some hf
  refine x_last hx hb hK (aiB_34 ad cI cJ cT) hP hD hS h_2 dX6_begin_14 (fun H locs hP hD hS => ?_)
  cases hf
  exact xRv hx hb hr hlocks hK hP hD hS (fun _ h => h) dX6_begin_15
set_option maxHeartbeats 4000000 in
set_option maxRecDepth 100000 in
theorem c_X6_fuseWith (l : Launch) (dC : Nat → ClassId) (dI : Nat → Nat → Nat) (ad : Nat → Nat) (cI cJ cT : ClassId) (x : Nat) (htx : x < 8) (p2 : Int32) (I : SI) (J : SJ) {J0 : SJ} (hf : f_X6_fuseWith x p2 I J = some J0) : CtV l yX6_fuseWith wsX6_fuseWith ({ frames := 2, cells := 0, slots := 0, locals := 80 } : Room) (dC, dI) (tys3 cI cJ cT) (wB ad cI cJ cT) [.ref (ad 36), .ref (ad (8 + x)), .int p2] I J I J0 := by
  intro sz
  refine Met.ofW (cc := cX6_fuseWith) (maxL := 5) (ret := none) (by decide) rfl ?_
  intro p e s m args below meth c s₁ B hml hv
  obtain ⟨hargs, hsz, hP, hK, hD0⟩ := hv
  have hx := B.exec
  have hb := B.bytes
  have hr := B.returns
  have hts := atoms_spec (ws := wsX6_fuseWith) B.pre
  have hown : s.vm.findClass RX6 = some m.cls := findClass_of_methodNamed B.named
  have hlocks := B.notSynchronized
  subst hsz
  have hD := hD0.self (sz := s.heap.size)
  generalize hAe : va_A ((wB ad cI cJ cT) I J) s.heap.size = A at hD ⊢
  have hA : ∀ q : Nat, s.heap.size ≤ q → A q := fun q h => by rw [← hAe]; exact Or.inr h
  have hS : va_S A s.heap s.heap [] := va_S.rf
  have hl := lv_entry ([.ref (ad 36), .ref (ad (8 + x)), .int p2]) (n := 5) (Nat.le_of_ble_eq_true rfl)
  rw [hargs, lg_entry_eq, ← hargs]
  generalize (lg_sl ([.ref (ad 36), .ref (ad (8 + x)), .int p2]) ++ List.replicate (5 - (lg_sl ([.ref (ad 36), .ref (ad (8 + x)), .int p2])).length) Slot.unset).toArray = ls at hl ⊢
  have hl : lv_has ls 5 [(0, .ref (ad 36)), (1, .ref (ad (8 + x))), (2, .int p2)] := hl
  have hfix : CallFix p m c cX6_fuseWith 5 s args wsX6_fuseWith RX6 := ⟨hx, hb, hml, hown, hts⟩
  have in_X7 : ∀ w ∈ u_ws RX7 TX7 2, w ∈ wsX6_fuseWith := by decide +kernel
  have in_X6 : ∀ w ∈ u_ws RX6 TX6 2, w ∈ wsX6_fuseWith := by decide +kernel
  have wd_0 := hts (.fieldLink RX6 24 "FuseBench$Table" "kinds" "I") (by decide +kernel)
  have wd_1 := hts (.fieldLink RX6 15 "FuseBench$Sum" "next" "[J") (by decide +kernel)
  have wd_2 := hts (.fieldLink RX6 9 "FuseBench$Sum" "times" "[J") (by decide +kernel)
  have wd_3 := hts (.methodLink RX6 34 arraycopyName) (by decide +kernel)
  have wd_4 := hts (.native arraycopyName) (by decide +kernel)
  have wd_5 := hts (.static arraycopyName) (by decide +kernel)
  have wd_6 := hts (.initialized "java/lang/System") (by decide +kernel)
  have L20 : ∀ (Q : State → Prop) (v2 : Int32) (v3 : Int32) (I : SI) (o : SJ), (∀  (J : SJ) (H : Heap) (locs : List Loc) (ls : Array Slot), o = J → va_P (dC, dI) vwCl ((wB ad cI cJ cT) I J) H → va_D A ((wB ad cI cJ cT) I J) → va_S A s.heap H locs → lv_has ls 5 [(0, .ref (ad 36)), (1, .ref (ad (8 + x))), (2, .int v2), (3, .int v3)] → W p l e ({ frames := 2, cells := 0, slots := 0, locals := 80 } : Room) s m args below meth c H locs 0 0 Q (F0 m 61 ls [])) → ∀ (n : Nat) (v4 : Int32) (J : SJ) (H : Heap) (locs : List Loc) (ls : Array Slot), lp_X6_fuseWith_20 x v2 v3 I n v4 J = some o → va_P (dC, dI) vwCl ((wB ad cI cJ cT) I J) H → va_D A ((wB ad cI cJ cT) I J) → va_S A s.heap H locs → lv_has ls 5 [(0, .ref (ad 36)), (1, .ref (ad (8 + x))), (2, .int v2), (3, .int v3), (4, .int v4)] → W p l e ({ frames := 2, cells := 0, slots := 0, locals := 80 } : Room) s m args below meth c H locs 0 0 Q (F0 m 20 ls []) := by
    intro Q v2 v3 I o K0 n
    clear hP hD hS hl
    induction n with
    | zero =>
      intro v4 J H locs ls hf
      rw [lp_X6_fuseWith_20.eq_1] at hf
      cases hf
    | succ n ih =>
      intro v4 J H locs ls hf hP hD hS hl
      rw [lp_X6_fuseWith_20.eq_2] at hf
      refine lv_iload hx hb dX6_fuseWith_20 (lv_at hl 4 rfl) ?_
      refine lv_aload_n hx hb dX6_fuseWith_22 rfl (lv_at hl 1 rfl) ?_
      refine va_get (D := (dC, dI)) (ci := 6) (v := .int (I (8 + x) 0)) (C := RX7) (T := TX7) (N := 2) hx hb hts in_X7 hown hK hP (8 + x) (((wBT ad cI cJ cT htx)).2.1 I J) rfl 1 (by decide) wd_0 (fun _ h9 => h9) rfl dX6_fuseWith_23 ?_
      refine lv_icmp_ge (tgt := 61) hx hb dX6_fuseWith_26 (by decide) (fun c_1 => ?_) (fun c_1 => ?_)
      · have hf := (if_pos c_1).symm.trans hf
        exact K0 _ _ _ _ (Option.some.inj hf).symm hP hD hS (lv_sub hl [0, 1, 2, 3] rfl)
      · have hf := (if_neg c_1).symm.trans hf
        refine lv_aload_n hx hb dX6_fuseWith_29 rfl (lv_at hl 0 rfl) ?_
        refine va_get (D := (dC, dI)) (ci := 5) (v := .ref (ad 35)) (C := RX6) (T := TX6) (N := 2) hx hb hts in_X6 hown hK hP 36 (obB_36 ad cI cJ cT I J) rfl 1 (by decide) wd_1 (fun _ h9 => h9) rfl dX6_fuseWith_30 ?_
        refine lv_iload_n hx hb dX6_fuseWith_33 rfl (lv_at hl 3 rfl) ?_
        refine lv_dup2_11 hx hb dX6_fuseWith_34 rfl rfl ?_
        obtain ⟨h_2, hf⟩ := gd_some hf
        refine x_lald hx hb hK (aiB_35 ad cI cJ cT) hP h_2 dX6_fuseWith_35 ?_
        refine lv_aload_n hx hb dX6_fuseWith_36 rfl (lv_at hl 0 rfl) ?_
        refine va_get (D := (dC, dI)) (ci := 5) (v := .ref (ad 34)) (C := RX6) (T := TX6) (N := 2) hx hb hts in_X6 hown hK hP 36 (obB_36 ad cI cJ cT I J) rfl 0 (by decide) wd_2 (fun _ h9 => h9) rfl dX6_fuseWith_37 ?_
        refine lv_iload hx hb dX6_fuseWith_40 (lv_at hl 4 rfl) ?_
        obtain ⟨h_3, hf⟩ := gd_some hf
        refine x_lald hx hb hK (aiB_34 ad cI cJ cT) hP h_3 dX6_fuseWith_42 ?_
        refine lv_aload_n hx hb dX6_fuseWith_43 rfl (lv_at hl 1 rfl) ?_
        refine lv_iload hx hb dX6_fuseWith_44 (lv_at hl 4 rfl) ?_
        refine lv_iload_n hx hb dX6_fuseWith_46 rfl (lv_at hl 2 rfl) ?_
        refine lv_iload_n hx hb dX6_fuseWith_47 rfl (lv_at hl 3 rfl) ?_
        obtain ⟨r_4, hg_4, hf⟩ := bd_some hf
        refine xVi (rest := [.long (J 34 v4.toNatClampNeg), .long (J 35 v3.toNatClampNeg), .int v3, .ref (ad 35)]) (c_X7_number l dC dI ad cI cJ cT (wB ad cI cJ cT) (fun k => k) x (wBT ad cI cJ cT htx) v4 v2 v3 I J hg_4) hfix (cwV 3 hts gX6_fuseWith_X7_number rfl rfl rfl (by decide +kernel) ⟨Nat.le_of_ble_eq_true rfl, Nat.le_of_ble_eq_true rfl⟩) hK hP hD hS hA (va_recv hK hP (ci := 6) (q0 := (8 + x)) rfl (((wBT ad cI cJ cT htx)).2.1 I J)) rfl hl.1 rfl (Nat.le_of_ble_eq_true rfl) ⟨Nat.zero_le _, Nat.zero_le _⟩ dX6_fuseWith_48 (fun H locs hP hD hS => ?_)
        refine lv_i2l (v := r_4.toInt64) hx hb dX6_fuseWith_51 rfl ?_
        refine lv_lmul hx hb dX6_fuseWith_52 ?_
        refine lv_ladd hx hb dX6_fuseWith_53 ?_
        obtain ⟨h_5, hf⟩ := gd_some hf
        refine x_last hx hb hK (aiB_35 ad cI cJ cT) hP hD hS h_5 dX6_fuseWith_54 (fun H locs hP hD hS => ?_)
        refine lv_iinc (v := (v4 + (1 : Int32))) (lv' := [(4, .int (v4 + (1 : Int32))), (0, .ref (ad 36)), (1, .ref (ad (8 + x))), (2, .int v2), (3, .int v3)]) hx hb dX6_fuseWith_55 hl (k := 4) rfl (by first | rfl | decide) (by decide) rfl (fun ls hl => ?_)
        refine lv_goto (tgt := 20) hx hb dX6_fuseWith_58 (by decide) ?_
        exact ih _ _ _ _ _ hf hP hD hS (lv_sub hl [1, 2, 3, 4, 0] rfl)
  have L2 : ∀ (Q : State → Prop) (v2 : Int32) (I : SI) (o : SJ), (∀  (J : SJ) (H : Heap) (locs : List Loc) (ls : Array Slot), o = J → va_P (dC, dI) vwCl ((wB ad cI cJ cT) I J) H → va_D A ((wB ad cI cJ cT) I J) → va_S A s.heap H locs → lv_has ls 5 [(0, .ref (ad 36)), (1, .ref (ad (8 + x)))] → W p l e ({ frames := 2, cells := 0, slots := 0, locals := 80 } : Room) s m args below meth c H locs 0 0 Q (F0 m 67 ls [])) → ∀ (n : Nat) (v3 : Int32) (J : SJ) (H : Heap) (locs : List Loc) (ls : Array Slot), lp_X6_fuseWith_2 x v2 I n v3 J = some o → va_P (dC, dI) vwCl ((wB ad cI cJ cT) I J) H → va_D A ((wB ad cI cJ cT) I J) → va_S A s.heap H locs → lv_has ls 5 [(0, .ref (ad 36)), (1, .ref (ad (8 + x))), (2, .int v2), (3, .int v3)] → W p l e ({ frames := 2, cells := 0, slots := 0, locals := 80 } : Room) s m args below meth c H locs 0 0 Q (F0 m 2 ls []) := by
    intro Q v2 I o K0 n
    clear hP hD hS hl
    induction n with
    | zero =>
      intro v3 J H locs ls hf
      rw [lp_X6_fuseWith_2.eq_1] at hf
      cases hf
    | succ n ih =>
      intro v3 J H locs ls hf hP hD hS hl
      rw [lp_X6_fuseWith_2.eq_2] at hf
      refine lv_iload_n hx hb dX6_fuseWith_2 rfl (lv_at hl 3 rfl) ?_
      refine lv_aload_n hx hb dX6_fuseWith_3 rfl (lv_at hl 1 rfl) ?_
      refine va_get (D := (dC, dI)) (ci := 6) (v := .int (I (8 + x) 0)) (C := RX7) (T := TX7) (N := 2) hx hb hts in_X7 hown hK hP (8 + x) (((wBT ad cI cJ cT htx)).2.1 I J) rfl 1 (by decide) wd_0 (fun _ h9 => h9) rfl dX6_fuseWith_4 ?_
      refine lv_icmp_ge (tgt := 67) hx hb dX6_fuseWith_7 (by decide) (fun c_6 => ?_) (fun c_6 => ?_)
      · have hf := (if_pos c_6).symm.trans hf
        exact K0 _ _ _ _ (Option.some.inj hf).symm hP hD hS (lv_sub hl [0, 1] rfl)
      · have hf := (if_neg c_6).symm.trans hf
        refine lv_aload_n hx hb dX6_fuseWith_10 rfl (lv_at hl 0 rfl) ?_
        refine va_get (D := (dC, dI)) (ci := 5) (v := .ref (ad 35)) (C := RX6) (T := TX6) (N := 2) hx hb hts in_X6 hown hK hP 36 (obB_36 ad cI cJ cT I J) rfl 1 (by decide) wd_1 (fun _ h9 => h9) rfl dX6_fuseWith_11 ?_
        refine lv_iload_n hx hb dX6_fuseWith_14 rfl (lv_at hl 3 rfl) ?_
        refine lv_lconst (v := (0 : Int64)) hx hb dX6_fuseWith_15 (by decide) ?_
        obtain ⟨h_7, hf⟩ := gd_some hf
        refine x_last hx hb hK (aiB_35 ad cI cJ cT) hP hD hS h_7 dX6_fuseWith_16 (fun H locs hP hD hS => ?_)
        refine lv_iconst (v := (0 : Int32)) hx hb dX6_fuseWith_17 (by decide) ?_
        refine lv_istore (lv' := [(4, .int (0 : Int32)), (0, .ref (ad 36)), (1, .ref (ad (8 + x))), (2, .int v2), (3, .int v3)]) hx hb dX6_fuseWith_18 hl (by decide) rfl (fun ls hl => ?_)
        obtain ⟨o_8, hg_8, hf⟩ := bd_some hf
        refine L20 _ v2 v3 I o_8 ?_ FU (0 : Int32) (upj J 35 v3.toNatClampNeg (0 : Int64)) _ _ _ hg_8 hP hD hS (lv_sub hl [1, 2, 3, 4, 0] rfl)
        · intro J_8 H locs ls ho hP hD hS hl
          subst o_8
          refine lv_iinc (v := (v3 + (1 : Int32))) (lv' := [(3, .int (v3 + (1 : Int32))), (0, .ref (ad 36)), (1, .ref (ad (8 + x))), (2, .int v2)]) hx hb dX6_fuseWith_61 hl (k := 3) rfl (by first | rfl | decide) (by decide) rfl (fun ls hl => ?_)
          refine lv_goto (tgt := 2) hx hb dX6_fuseWith_64 (by decide) ?_
          exact ih _ _ _ _ _ hf hP hD hS (lv_sub hl [1, 2, 3, 0] rfl)
  unfold f_X6_fuseWith at hf
  refine lv_iconst (v := (0 : Int32)) hx hb dX6_fuseWith_0 (by decide) ?_
  refine lv_istore_n (lv' := [(3, .int (0 : Int32)), (0, .ref (ad 36)), (1, .ref (ad (8 + x))), (2, .int p2)]) hx hb dX6_fuseWith_1 rfl hl (by decide) rfl (fun ls hl => ?_)
  obtain ⟨o_9, hg_9, hf⟩ := bd_some hf
  refine L2 _ p2 I o_9 ?_ FU (0 : Int32) J _ _ _ hg_9 hP hD hS (lv_sub hl [1, 2, 3, 0] rfl)
  · intro J_9 H locs ls ho hP hD hS hl
    subst o_9
    refine lv_aload_n hx hb dX6_fuseWith_67 rfl (lv_at hl 0 rfl) ?_
    refine va_get (D := (dC, dI)) (ci := 5) (v := .ref (ad 35)) (C := RX6) (T := TX6) (N := 2) hx hb hts in_X6 hown hK hP 36 (obB_36 ad cI cJ cT I J_9) rfl 1 (by decide) wd_1 (fun _ h9 => h9) rfl dX6_fuseWith_68 ?_
    refine lv_iconst (v := (0 : Int32)) hx hb dX6_fuseWith_71 (by decide) ?_
    refine lv_aload_n hx hb dX6_fuseWith_72 rfl (lv_at hl 0 rfl) ?_
    refine va_get (D := (dC, dI)) (ci := 5) (v := .ref (ad 34)) (C := RX6) (T := TX6) (N := 2) hx hb hts in_X6 hown hK hP 36 (obB_36 ad cI cJ cT I J_9) rfl 0 (by decide) wd_2 (fun _ h9 => h9) rfl dX6_fuseWith_73 ?_
    refine lv_iconst (v := (0 : Int32)) hx hb dX6_fuseWith_76 (by decide) ?_
    refine lv_aload_n hx hb dX6_fuseWith_77 rfl (lv_at hl 1 rfl) ?_
    refine va_get (D := (dC, dI)) (ci := 6) (v := .int (I (8 + x) 0)) (C := RX7) (T := TX7) (N := 2) hx hb hts in_X7 hown hK hP (8 + x) (((wBT ad cI cJ cT htx)).2.1 I J_9) rfl 1 (by decide) wd_0 (fun _ h9 => h9) rfl dX6_fuseWith_78 ?_
    obtain ⟨h_10, hf⟩ := gd_some hf
    refine x_copyl hx hb (hml.trans hl.1.symm) hown wd_3 wd_4 wd_5 wd_6 hK (aiB_35 ad cI cJ cT) (aiB_34 ad cI cJ cT) hP hD hS h_10 (Nat.le_of_ble_eq_true rfl) (Nat.le_of_ble_eq_true rfl) dX6_fuseWith_81 (fun H locs hP hD hS => ?_)
    cases hf
    exact xRv hx hb hr hlocks hK hP hD hS (fun _ h => h) dX6_fuseWith_84
set_option maxHeartbeats 4000000 in
set_option maxRecDepth 100000 in
theorem c_X8_isTable (l : Launch) (dC : Nat → ClassId) (dI : Nat → Nat → Nat) (ad : Nat → Nat) (cI cJ cT : ClassId) (p0 : Int32) (I : SI) (J : SJ) {r0 : Int32} (hf : f_X8_isTable p0 = some r0) : CtI l yX8_isTable wsX8_isTable ({ frames := 0, cells := 0, slots := 0, locals := 0 } : Room) (dC, dI) (tys3 cI cJ cT) (wB ad cI cJ cT) [.int p0] I J r0 I J := by
  intro sz
  refine Met.ofW (cc := cX8_isTable) (maxL := 1) (ret := (some .boolean)) (by decide) rfl ?_
  intro p e s m args below meth c s₁ B hml hv
  obtain ⟨hargs, hsz, hP, hK, hD0⟩ := hv
  have hx := B.exec
  have hb := B.bytes
  have hr := B.returns
  have hts := atoms_spec (ws := wsX8_isTable) B.pre
  have hown : s.vm.findClass RX8 = some m.cls := findClass_of_methodNamed B.named
  have hlocks := B.notSynchronized
  subst hsz
  have hD := hD0.self (sz := s.heap.size)
  generalize hAe : va_A ((wB ad cI cJ cT) I J) s.heap.size = A at hD ⊢
  have hA : ∀ q : Nat, s.heap.size ≤ q → A q := fun q h => by rw [← hAe]; exact Or.inr h
  have hS : va_S A s.heap s.heap [] := va_S.rf
  have hl := lv_entry ([.int p0]) (n := 1) (Nat.le_of_ble_eq_true rfl)
  rw [hargs, lg_entry_eq, ← hargs]
  generalize (lg_sl ([.int p0]) ++ List.replicate (1 - (lg_sl ([.int p0])).length) Slot.unset).toArray = ls at hl ⊢
  have hl : lv_has ls 1 [(0, .int p0)] := hl
  have hfix : CallFix p m c cX8_isTable 1 s args wsX8_isTable RX8 := ⟨hx, hb, hml, hown, hts⟩
  unfold f_X8_isTable at hf
  refine lv_iload_n hx hb dX8_isTable_0 rfl (lv_at hl 0 rfl) ?_
  refine lv_if_lt (tgt := 14) hx hb dX8_isTable_1 (by decide) (fun c_1 => ?_) (fun c_1 => ?_)
  · have hf := (if_pos c_1).symm.trans hf
    refine lv_iconst (v := (0 : Int32)) hx hb dX8_isTable_14 (by decide) ?_
    cases hf
    exact xRz hx hb hr hlocks rfl hK hP hD hS (fun _ h => h) dX8_isTable_15
  · have hf := (if_neg c_1).symm.trans hf
    refine lv_iload_n hx hb dX8_isTable_4 rfl (lv_at hl 0 rfl) ?_
    refine lv_bipush (v := (6 : Int32)) hx hb dX8_isTable_5 (by decide) ?_
    refine lv_icmp_ge (tgt := 14) hx hb dX8_isTable_7 (by decide) (fun c_2 => ?_) (fun c_2 => ?_)
    · have hf := (if_pos c_2).symm.trans hf
      refine lv_iconst (v := (0 : Int32)) hx hb dX8_isTable_14 (by decide) ?_
      cases hf
      exact xRz hx hb hr hlocks rfl hK hP hD hS (fun _ h => h) dX8_isTable_15
    · have hf := (if_neg c_2).symm.trans hf
      refine lv_iconst (v := (1 : Int32)) hx hb dX8_isTable_10 (by decide) ?_
      refine lv_goto (tgt := 15) hx hb dX8_isTable_11 (by decide) ?_
      cases hf
      exact xRz hx hb hr hlocks rfl hK hP hD hS (fun _ h => h) dX8_isTable_15
