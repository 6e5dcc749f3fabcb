set_option maxHeartbeats 4000000 in
set_option maxRecDepth 100000 in
theorem c_X7_mixInto (l : Launch) (dC : Nat → ClassId) (dI : Nat → Nat → Nat) (ad : Nat → Nat) (cI cJ cT : ClassId) (w : SI → SJ → va_W) (pq : Nat → Nat) (x : Nat) (htx : TbI w cI ad pq x) (p1 : Int64) (I : SI) (J : SJ) {r0 : Int64} (hf : f_X7_mixInto x p1 I = some r0) : CtL l yX7_mixInto wsX7_mixInto ({ frames := 2, cells := 0, slots := 0, locals := 45 } : Room) (dC, dI) (tys3 cI cJ cT) w [.ref (ad (8 + x)), .long p1] I J r0 I J := by
  intro sz
  refine Met.ofW (cc := cX7_mixInto) (maxL := 8) (ret := (some .long)) (by decide) rfl ?_
  intro p e s m args below meth c s₁ B hml hv
  obtain ⟨hargs, hsz, hP, hK, hD0⟩ := hv
  have hx := B.exec
  have hb := B.bytes
  have hr := B.returns
  have hts := atoms_spec (ws := wsX7_mixInto) B.pre
  have hown : s.vm.findClass RX7 = some m.cls := findClass_of_methodNamed B.named
  have hlocks := B.notSynchronized
  subst hsz
  have hD := hD0.self (sz := s.heap.size)
  generalize hAe : va_A (w I J) s.heap.size = A at hD ⊢
  have hA : ∀ q : Nat, s.heap.size ≤ q → A q := fun q h => by rw [← hAe]; exact Or.inr h
  have hS : va_S A s.heap s.heap [] := va_S.rf
  have hl := lv_entry ([.ref (ad (8 + x)), .long p1]) (n := 8) (Nat.le_of_ble_eq_true rfl)
  rw [hargs, lg_entry_eq, ← hargs]
  generalize (lg_sl ([.ref (ad (8 + x)), .long p1]) ++ List.replicate (8 - (lg_sl ([.ref (ad (8 + x)), .long p1])).length) Slot.unset).toArray = ls at hl ⊢
  have hl : lv_has ls 8 [(0, .ref (ad (8 + x))), (1, .long p1)] := hl
  have hfix : CallFix p m c cX7_mixInto 8 s args wsX7_mixInto RX7 := ⟨hx, hb, hml, hown, hts⟩
  have in_X7 : ∀ w ∈ u_ws RX7 TX7 2, w ∈ wsX7_mixInto := by decide +kernel
  have wd_0 := hts (.fieldLink RX7 19 "FuseBench$Table" "kinds" "I") (by decide +kernel)
  have wd_1 := hts (.constantLong RX7 50 (31)) (by decide +kernel)
  have L39 : ∀ (Q : State → Prop) (v5 : Int32) (v6 : Int32) (I : SI) (J : SJ) (o : Int64), (∀ (w3 : Int64) (H : Heap) (locs : List Loc) (ls : Array Slot), o = w3 → va_P (dC, dI) vwCl (w I J) H → va_D A (w I J) → va_S A s.heap H locs → lv_has ls 8 [(0, .ref (ad (8 + x))), (3, .long w3), (5, .int v5), (6, .int v6)] → W p l e ({ frames := 2, cells := 0, slots := 0, locals := 45 } : Room) s m args below meth c H locs 0 0 Q (F0 m 72 ls [])) → ∀ (n : Nat) (v3 : Int64) (v7 : Int32) (H : Heap) (locs : List Loc) (ls : Array Slot), lp_X7_mixInto_39 x v5 v6 I n v3 v7 = some o → va_P (dC, dI) vwCl (w I J) H → va_D A (w I J) → va_S A s.heap H locs → lv_has ls 8 [(0, .ref (ad (8 + x))), (3, .long v3), (5, .int v5), (6, .int v6), (7, .int v7)] → W p l e ({ frames := 2, cells := 0, slots := 0, locals := 45 } : Room) s m args below meth c H locs 0 0 Q (F0 m 39 ls []) := by
    intro Q v5 v6 I J o K0 n
    clear hP hD hS hl
    induction n with
    | zero =>
      intro v3 v7 H locs ls hf
      rw [lp_X7_mixInto_39.eq_1] at hf
      cases hf
    | succ n ih =>
      intro v3 v7 H locs ls hf hP hD hS hl
      rw [lp_X7_mixInto_39.eq_2] at hf
      refine lv_iload hx hb dX7_mixInto_39 (lv_at hl 4 rfl) ?_
      refine lv_aload_n hx hb dX7_mixInto_41 rfl (lv_at hl 0 rfl) ?_
      refine va_get (D := (dC, dI)) (ci := 6) (v := .int (I (8 + x) 0)) (C := RX7) (T := TX7) (N := 2) hx hb hts in_X7 hown hK hP (pq (8 + x)) ((htx).2.1 I J) rfl 1 (by decide) wd_0 (fun _ h9 => h9) rfl dX7_mixInto_42 ?_
      refine lv_icmp_ge (tgt := 72) hx hb dX7_mixInto_45 (by decide) (fun c_1 => ?_) (fun c_1 => ?_)
      · have hf := (if_pos c_1).symm.trans hf
        exact K0 _ _ _ _ (Option.some.inj hf).symm hP hD hS (lv_sub hl [0, 1, 2, 3] rfl)
      · have hf := (if_neg c_1).symm.trans hf
        refine lv_ldc2 (v := (31 : Int64)) hx hb hown wd_1 dX7_mixInto_48 ?_
        refine lv_lload_n hx hb dX7_mixInto_51 rfl (lv_at hl 1 rfl) ?_
        refine lv_lmul hx hb dX7_mixInto_52 ?_
        refine lv_aload_n hx hb dX7_mixInto_53 rfl (lv_at hl 0 rfl) ?_
        refine lv_iload hx hb dX7_mixInto_54 (lv_at hl 2 rfl) ?_
        refine lv_iload hx hb dX7_mixInto_56 (lv_at hl 3 rfl) ?_
        refine lv_iload hx hb dX7_mixInto_58 (lv_at hl 4 rfl) ?_
        obtain ⟨r_2, hg_2, hf⟩ := bd_some hf
        refine xVi (rest := [.long ((31 : Int64) * v3)]) (c_X7_number l dC dI ad cI cJ cT w pq x htx v5 v6 v7 I J hg_2) hfix (cwV 3 hts gX7_mixInto_X7_number rfl rfl rfl (by decide +kernel) ⟨Nat.le_of_ble_eq_true rfl, Nat.le_of_ble_eq_true rfl⟩) hK hP hD hS hA (va_recv hK hP (ci := 6) (q0 := (pq (8 + x))) rfl ((htx).2.1 I J)) rfl hl.1 rfl (Nat.le_of_ble_eq_true rfl) ⟨Nat.zero_le _, Nat.zero_le _⟩ dX7_mixInto_60 (fun H locs hP hD hS => ?_)
        refine lv_i2l (v := r_2.toInt64) hx hb dX7_mixInto_63 rfl ?_
        refine lv_ladd hx hb dX7_mixInto_64 ?_
        refine lv_lstore_n (lv' := [(3, .long (((31 : Int64) * v3) + (r_2.toInt64))), (0, .ref (ad (8 + x))), (5, .int v5), (6, .int v6), (7, .int v7)]) hx hb dX7_mixInto_65 rfl hl (by decide) rfl (fun ls hl => ?_)
        refine lv_iinc (v := (v7 + (1 : Int32))) (lv' := [(7, .int (v7 + (1 : Int32))), (3, .long (((31 : Int64) * v3) + (r_2.toInt64))), (0, .ref (ad (8 + x))), (5, .int v5), (6, .int v6)]) hx hb dX7_mixInto_66 hl (k := 4) rfl (by first | rfl | decide) (by decide) rfl (fun ls hl => ?_)
        refine lv_goto (tgt := 39) hx hb dX7_mixInto_69 (by decide) ?_
        exact ih _ _ _ _ _ hf hP hD hS (lv_sub hl [2, 1, 3, 4, 0] rfl)
  have L27 : ∀ (Q : State → Prop) (v5 : Int32) (I : SI) (J : SJ) (o : Int64), (∀ (w3 : Int64) (H : Heap) (locs : List Loc) (ls : Array Slot), o = w3 → va_P (dC, dI) vwCl (w I J) H → va_D A (w I J) → va_S A s.heap H locs → lv_has ls 8 [(0, .ref (ad (8 + x))), (3, .long w3), (5, .int v5)] → W p l e ({ frames := 2, cells := 0, slots := 0, locals := 45 } : Room) s m args below meth c H locs 0 0 Q (F0 m 78 ls [])) → ∀ (n : Nat) (v3 : Int64) (v6 : Int32) (H : Heap) (locs : List Loc) (ls : Array Slot), lp_X7_mixInto_27 x v5 I n v3 v6 = some o → va_P (dC, dI) vwCl (w I J) H → va_D A (w I J) → va_S A s.heap H locs → lv_has ls 8 [(0, .ref (ad (8 + x))), (3, .long v3), (5, .int v5), (6, .int v6)] → W p l e ({ frames := 2, cells := 0, slots := 0, locals := 45 } : Room) s m args below meth c H locs 0 0 Q (F0 m 27 ls []) := by
    intro Q v5 I J o K0 n
    clear hP hD hS hl
    induction n with
    | zero =>
      intro v3 v6 H locs ls hf
      rw [lp_X7_mixInto_27.eq_1] at hf
      cases hf
    | succ n ih =>
      intro v3 v6 H locs ls hf hP hD hS hl
      rw [lp_X7_mixInto_27.eq_2] at hf
      refine lv_iload hx hb dX7_mixInto_27 (lv_at hl 3 rfl) ?_
      refine lv_aload_n hx hb dX7_mixInto_29 rfl (lv_at hl 0 rfl) ?_
      refine va_get (D := (dC, dI)) (ci := 6) (v := .int (I (8 + x) 0)) (C := RX7) (T := TX7) (N := 2) hx hb hts in_X7 hown hK hP (pq (8 + x)) ((htx).2.1 I J) rfl 1 (by decide) wd_0 (fun _ h9 => h9) rfl dX7_mixInto_30 ?_
      refine lv_icmp_ge (tgt := 78) hx hb dX7_mixInto_33 (by decide) (fun c_3 => ?_) (fun c_3 => ?_)
      · have hf := (if_pos c_3).symm.trans hf
        exact K0 _ _ _ _ (Option.some.inj hf).symm hP hD hS (lv_sub hl [0, 1, 2] rfl)
      · have hf := (if_neg c_3).symm.trans hf
        refine lv_iconst (v := (0 : Int32)) hx hb dX7_mixInto_36 (by decide) ?_
        refine lv_istore (lv' := [(7, .int (0 : Int32)), (0, .ref (ad (8 + x))), (3, .long v3), (5, .int v5), (6, .int v6)]) hx hb dX7_mixInto_37 hl (by decide) rfl (fun ls hl => ?_)
        obtain ⟨o_4, hg_4, hf⟩ := bd_some hf
        refine L39 _ v5 v6 I J o_4 ?_ FU v3 (0 : Int32) _ _ _ hg_4 hP hD hS (lv_sub hl [1, 2, 3, 4, 0] rfl)
        · intro w3_4 H locs ls ho hP hD hS hl
          subst o_4
          refine lv_iinc (v := (v6 + (1 : Int32))) (lv' := [(6, .int (v6 + (1 : Int32))), (0, .ref (ad (8 + x))), (3, .long w3_4), (5, .int v5)]) hx hb dX7_mixInto_72 hl (k := 3) rfl (by first | rfl | decide) (by decide) rfl (fun ls hl => ?_)
          refine lv_goto (tgt := 27) hx hb dX7_mixInto_75 (by decide) ?_
          exact ih _ _ _ _ _ hf hP hD hS (lv_sub hl [1, 2, 3, 0] rfl)
  have L15 : ∀ (Q : State → Prop)  (I : SI) (J : SJ) (o : Int64), (∀ (w3 : Int64) (H : Heap) (locs : List Loc) (ls : Array Slot), o = w3 → va_P (dC, dI) vwCl (w I J) H → va_D A (w I J) → va_S A s.heap H locs → lv_has ls 8 [(3, .long w3)] → W p l e ({ frames := 2, cells := 0, slots := 0, locals := 45 } : Room) s m args below meth c H locs 0 0 Q (F0 m 84 ls [])) → ∀ (n : Nat) (v3 : Int64) (v5 : Int32) (H : Heap) (locs : List Loc) (ls : Array Slot), lp_X7_mixInto_15 x I n v3 v5 = some o → va_P (dC, dI) vwCl (w I J) H → va_D A (w I J) → va_S A s.heap H locs → lv_has ls 8 [(0, .ref (ad (8 + x))), (3, .long v3), (5, .int v5)] → W p l e ({ frames := 2, cells := 0, slots := 0, locals := 45 } : Room) s m args below meth c H locs 0 0 Q (F0 m 15 ls []) := by
    intro Q  I J o K0 n
    clear hP hD hS hl
    induction n with
    | zero =>
      intro v3 v5 H locs ls hf
      rw [lp_X7_mixInto_15.eq_1] at hf
      cases hf
    | succ n ih =>
      intro v3 v5 H locs ls hf hP hD hS hl
      rw [lp_X7_mixInto_15.eq_2] at hf
      refine lv_iload hx hb dX7_mixInto_15 (lv_at hl 2 rfl) ?_
      refine lv_aload_n hx hb dX7_mixInto_17 rfl (lv_at hl 0 rfl) ?_
      refine va_get (D := (dC, dI)) (ci := 6) (v := .int (I (8 + x) 0)) (C := RX7) (T := TX7) (N := 2) hx hb hts in_X7 hown hK hP (pq (8 + x)) ((htx).2.1 I J) rfl 1 (by decide) wd_0 (fun _ h9 => h9) rfl dX7_mixInto_18 ?_
      refine lv_icmp_ge (tgt := 84) hx hb dX7_mixInto_21 (by decide) (fun c_5 => ?_) (fun c_5 => ?_)
      · have hf := (if_pos c_5).symm.trans hf
        exact K0 _ _ _ _ (Option.some.inj hf).symm hP hD hS (lv_sub hl [1] rfl)
      · have hf := (if_neg c_5).symm.trans hf
        refine lv_iconst (v := (0 : Int32)) hx hb dX7_mixInto_24 (by decide) ?_
        refine lv_istore (lv' := [(6, .int (0 : Int32)), (0, .ref (ad (8 + x))), (3, .long v3), (5, .int v5)]) hx hb dX7_mixInto_25 hl (by decide) rfl (fun ls hl => ?_)
        obtain ⟨o_6, hg_6, hf⟩ := bd_some hf
        refine L27 _ v5 I J o_6 ?_ FU v3 (0 : Int32) _ _ _ hg_6 hP hD hS (lv_sub hl [1, 2, 3, 0] rfl)
        · intro w3_6 H locs ls ho hP hD hS hl
          subst o_6
          refine lv_iinc (v := (v5 + (1 : Int32))) (lv' := [(5, .int (v5 + (1 : Int32))), (0, .ref (ad (8 + x))), (3, .long w3_6)]) hx hb dX7_mixInto_78 hl (k := 2) rfl (by first | rfl | decide) (by decide) rfl (fun ls hl => ?_)
          refine lv_goto (tgt := 15) hx hb dX7_mixInto_81 (by decide) ?_
          exact ih _ _ _ _ _ hf hP hD hS (lv_sub hl [1, 2, 0] rfl)
  unfold f_X7_mixInto at hf
  refine lv_ldc2 (v := (31 : Int64)) hx hb hown wd_1 dX7_mixInto_0 ?_
  refine lv_lload_n hx hb dX7_mixInto_3 rfl (lv_at hl 1 rfl) ?_
  refine lv_lmul hx hb dX7_mixInto_4 ?_
  refine lv_aload_n hx hb dX7_mixInto_5 rfl (lv_at hl 0 rfl) ?_
  refine va_get (D := (dC, dI)) (ci := 6) (v := .int (I (8 + x) 0)) (C := RX7) (T := TX7) (N := 2) hx hb hts in_X7 hown hK hP (pq (8 + x)) ((htx).2.1 I J) rfl 1 (by decide) wd_0 (fun _ h9 => h9) rfl dX7_mixInto_6 ?_
  refine lv_i2l (v := (I (8 + x) 0).toInt64) hx hb dX7_mixInto_9 rfl ?_
  refine lv_ladd hx hb dX7_mixInto_10 ?_
  refine lv_lstore_n (lv' := [(3, .long (((31 : Int64) * p1) + ((I (8 + x) 0).toInt64))), (0, .ref (ad (8 + x))), (1, .long p1)]) hx hb dX7_mixInto_11 rfl hl (by decide) rfl (fun ls hl => ?_)
  refine lv_iconst (v := (0 : Int32)) hx hb dX7_mixInto_12 (by decide) ?_
  refine lv_istore (lv' := [(5, .int (0 : Int32)), (3, .long (((31 : Int64) * p1) + ((I (8 + x) 0).toInt64))), (0, .ref (ad (8 + x))), (1, .long p1)]) hx hb dX7_mixInto_13 hl (by decide) rfl (fun ls hl => ?_)
  obtain ⟨o_7, hg_7, hf⟩ := bd_some hf
  refine L15 _ I J o_7 ?_ FU (((31 : Int64) * p1) + ((I (8 + x) 0).toInt64)) (0 : Int32) _ _ _ hg_7 hP hD hS (lv_sub hl [2, 1, 0] rfl)
  · intro w3_7 H locs ls ho hP hD hS hl
    subst o_7
    refine lv_lload_n hx hb dX7_mixInto_84 rfl (lv_at hl 0 rfl) ?_
    cases hf
    exact xRl hx hb hr hlocks hK hP hD hS (fun _ h => h) dX7_mixInto_85
set_option maxHeartbeats 4000000 in
set_option maxRecDepth 100000 in
theorem c_X5_holds (l : Launch) (dC : Nat → ClassId) (dI : Nat → Nat → Nat) (ad : Nat → Nat) (cI cJ cT : ClassId) (p0 : Int32) (p1 : Int32) (I : SI) (J : SJ) {r0 : Int32} (hf : f_X5_holds p0 p1 = some r0) : CtI l yX5_holds wsX5_holds ({ frames := 0, cells := 0, slots := 0, locals := 0 } : Room) (dC, dI) (tys3 cI cJ cT) (wB ad cI cJ cT) [.int p0, .int p1] I J r0 I J := by
  intro sz
  refine Met.ofW (cc := cX5_holds) (maxL := 2) (ret := (some .boolean)) (by decide) rfl ?_
  intro p e s m args below meth c s₁ B hml hv
  obtain ⟨hargs, hsz, hP, hK, hD0⟩ := hv
  have hx := B.exec
  have hb := B.bytes
  have hr := B.returns
  have hts := atoms_spec (ws := wsX5_holds) B.pre
  have hown : s.vm.findClass RX5 = some m.cls := findClass_of_methodNamed B.named
  have hlocks := B.notSynchronized
  subst hsz
  have hD := hD0.self (sz := s.heap.size)
  generalize hAe : va_A ((wB ad cI cJ cT) I J) s.heap.size = A at hD ⊢
  have hA : ∀ q : Nat, s.heap.size ≤ q → A q := fun q h => by rw [← hAe]; exact Or.inr h
  have hS : va_S A s.heap s.heap [] := va_S.rf
  have hl := lv_entry ([.int p0, .int p1]) (n := 2) (Nat.le_of_ble_eq_true rfl)
  rw [hargs, lg_entry_eq, ← hargs]
  generalize (lg_sl ([.int p0, .int p1]) ++ List.replicate (2 - (lg_sl ([.int p0, .int p1])).length) Slot.unset).toArray = ls at hl ⊢
  have hl : lv_has ls 2 [(0, .int p0), (1, .int p1)] := hl
  have hfix : CallFix p m c cX5_holds 2 s args wsX5_holds RX5 := ⟨hx, hb, hml, hown, hts⟩
  unfold f_X5_holds at hf
  refine lv_iload_n hx hb dX5_holds_0 rfl (lv_at hl 0 rfl) ?_
  refine lv_iload_n hx hb dX5_holds_1 rfl (lv_at hl 1 rfl) ?_
  refine lv_ishr hx hb dX5_holds_2 ?_
  refine lv_iconst (v := (1 : Int32)) hx hb dX5_holds_3 (by decide) ?_
  refine lv_iand hx hb dX5_holds_4 ?_
  refine lv_if_eq (tgt := 12) hx hb dX5_holds_5 (by decide) (fun c_1 => ?_) (fun c_1 => ?_)
  · have hf := (if_pos c_1).symm.trans hf
    refine lv_iconst (v := (0 : Int32)) hx hb dX5_holds_12 (by decide) ?_
    cases hf
    exact xRz hx hb hr hlocks rfl hK hP hD hS (fun _ h => h) dX5_holds_13
  · have hf := (if_neg c_1).symm.trans hf
    refine lv_iconst (v := (1 : Int32)) hx hb dX5_holds_8 (by decide) ?_
    refine lv_goto (tgt := 13) hx hb dX5_holds_9 (by decide) ?_
    cases hf
    exact xRz hx hb hr hlocks rfl hK hP hD hS (fun _ h => h) dX5_holds_13
set_option maxHeartbeats 4000000 in
set_option maxRecDepth 100000 in
theorem c_X0_expandedMinor (l : Launch) (dC : Nat → ClassId) (dI : Nat → Nat → Nat) (ad : Nat → Nat) (cI cJ cT : ClassId) (p1 : Int32) (p2 : Int32) (I : SI) (J : SJ) {r0 : Int64} (hf : f_X0_expandedMinor p1 p2 I J = some r0) : CtL l yX0_expandedMinor wsX0_expandedMinor ({ frames := 1, cells := 0, slots := 0, locals := 21 } : Room) (dC, dI) (tys3 cI cJ cT) (wB ad cI cJ cT) [.ref (ad 32), .int p1, .int p2] I J r0 I J := by
  intro sz
  refine Met.ofW (cc := cX0_expandedMinor) (maxL := 11) (ret := (some .long)) (by decide) rfl ?_
  intro p e s m args below meth c s₁ B hml hv
  obtain ⟨hargs, hsz, hP, hK, hD0⟩ := hv
  have hx := B.exec
  have hb := B.bytes
  have hr := B.returns
  have hts := atoms_spec (ws := wsX0_expandedMinor) B.pre
  have hown : s.vm.findClass RX0 = some m.cls := findClass_of_methodNamed B.named
  have hlocks := B.notSynchronized
  subst hsz
  have hD := hD0.self (sz := s.heap.size)
  generalize hAe : va_A ((wB ad cI cJ cT) I J) s.heap.size = A at hD ⊢
  have hA : ∀ q : Nat, s.heap.size ≤ q → A q := fun q h => by rw [← hAe]; exact Or.inr h
  have hS : va_S A s.heap s.heap [] := va_S.rf
  have hl := lv_entry ([.ref (ad 32), .int p1, .int p2]) (n := 11) (Nat.le_of_ble_eq_true rfl)
  rw [hargs, lg_entry_eq, ← hargs]
  generalize (lg_sl ([.ref (ad 32), .int p1, .int p2]) ++ List.replicate (11 - (lg_sl ([.ref (ad 32), .int p1, .int p2])).length) Slot.unset).toArray = ls at hl ⊢
  have hl : lv_has ls 11 [(0, .ref (ad 32)), (1, .int p1), (2, .int p2)] := hl
  have hfix : CallFix p m c cX0_expandedMinor 11 s args wsX0_expandedMinor RX0 := ⟨hx, hb, hml, hown, hts⟩
  have in_X0 : ∀ w ∈ u_ws RX0 TX0 2, w ∈ wsX0_expandedMinor := by decide +kernel
  have wd_0 := hts (.constantLong RX0 52 (10)) (by decide +kernel)
  have wd_1 := hts (.fieldLink RX0 9 "FuseBench$Extent" "sums" "[I") (by decide +kernel)
  have wd_2 := hts (.fieldLink RX0 15 "FuseBench$Extent" "minors" "[J") (by decide +kernel)
  have L16 : ∀ (Q : State → Prop) (v1 : Int32) (v2 : Int32) (v3 : Int32) (I : SI) (J : SJ) (o : Int64), (∀ (w4 : Int64) (H : Heap) (locs : List Loc) (ls : Array Slot), o = w4 → va_P (dC, dI) vwCl ((wB ad cI cJ cT) I J) H → va_D A ((wB ad cI cJ cT) I J) → va_S A s.heap H locs → lv_has ls 11 [(4, .long w4)] → W p l e ({ frames := 1, cells := 0, slots := 0, locals := 21 } : Room) s m args below meth c H locs 0 0 Q (F0 m 96 ls [])) → ∀ (n : Nat) (v4 : Int64) (v6 : Int64) (v8 : Int32) (H : Heap) (locs : List Loc) (ls : Array Slot), lp_X0_expandedMinor_16 v1 v2 v3 I J n v4 v6 v8 = some o → va_P (dC, dI) vwCl ((wB ad cI cJ cT) I J) H → va_D A ((wB ad cI cJ cT) I J) → va_S A s.heap H locs → lv_has ls 11 [(0, .ref (ad 32)), (1, .int v1), (2, .int v2), (3, .int v3), (4, .long v4), (6, .long v6), (8, .int v8)] → W p l e ({ frames := 1, cells := 0, slots := 0, locals := 21 } : Room) s m args below meth c H locs 0 0 Q (F0 m 16 ls []) := by
    intro Q v1 v2 v3 I J o K0 n
    clear hP hD hS hl
    induction n with
    | zero =>
      intro v4 v6 v8 H locs ls hf
      rw [lp_X0_expandedMinor_16.eq_1] at hf
      cases hf
    | succ n ih =>
      intro v4 v6 v8 H locs ls hf hP hD hS hl
      rw [lp_X0_expandedMinor_16.eq_2] at hf
      refine lv_iload hx hb dX0_expandedMinor_16 (lv_at hl 6 rfl) ?_
      refine lv_if_lt (tgt := 96) hx hb dX0_expandedMinor_18 (by decide) (fun c_1 => ?_) (fun c_1 => ?_)
      · have hf := (if_pos c_1).symm.trans hf
        exact K0 _ _ _ _ (Option.some.inj hf).symm hP hD hS (lv_sub hl [4] rfl)
      · have hf := (if_neg c_1).symm.trans hf
        refine lv_iload_n hx hb dX0_expandedMinor_21 rfl (lv_at hl 2 rfl) ?_
        refine lv_iload hx hb dX0_expandedMinor_22 (lv_at hl 6 rfl) ?_
        obtain ⟨r_2, hg_2, hf⟩ := bd_some hf
        refine xSi (rest := []) (c_X5_holds l dC dI ad cI cJ cT v2 v8 I J hg_2) hfix (va_cwS 2 hts gX0_expandedMinor_X5_holds rfl rfl rfl (by decide +kernel) ⟨Nat.le_of_ble_eq_true rfl, Nat.le_of_ble_eq_true rfl⟩) hK hP hD hS hA rfl hl.1 rfl (Nat.le_of_ble_eq_true rfl) ⟨Nat.zero_le _, Nat.zero_le _⟩ dX0_expandedMinor_24 (fun H locs hP hD hS => ?_)
        refine lv_if_eq (tgt := 90) hx hb dX0_expandedMinor_27 (by decide) (fun c_3 => ?_) (fun c_3 => ?_)
        · have hf := (if_pos c_3).symm.trans hf
          refine lv_iinc (v := (v8 + (-1 : Int32))) (lv' := [(8, .int (v8 + (-1 : Int32))), (0, .ref (ad 32)), (1, .int v1), (2, .int v2), (3, .int v3), (4, .long v4), (6, .long v6)]) hx hb dX0_expandedMinor_90 hl (k := 6) rfl (by first | rfl | decide) (by decide) rfl (fun ls hl => ?_)
          refine lv_goto (tgt := 16) hx hb dX0_expandedMinor_93 (by decide) ?_
          exact ih _ _ _ _ _ _ hf hP hD hS (lv_sub hl [1, 2, 3, 4, 5, 6, 0] rfl)
        · have hf := (if_neg c_3).symm.trans hf
          refine lv_iload hx hb dX0_expandedMinor_30 (lv_at hl 6 rfl) ?_
          refine lv_iload_n hx hb dX0_expandedMinor_32 rfl (lv_at hl 3 rfl) ?_
          refine lv_icmp_ne (tgt := 40) hx hb dX0_expandedMinor_33 (by decide) (fun c_4 => ?_) (fun c_4 => ?_)
          · have hf := (if_neg c_4).symm.trans hf
            refine lv_iconst (v := (0 : Int32)) hx hb dX0_expandedMinor_40 (by decide) ?_
            refine lv_i2l (v := (0 : Int32).toInt64) hx hb dX0_expandedMinor_41 rfl ?_
            refine lv_ldc2 (v := (10 : Int64)) hx hb hown wd_0 dX0_expandedMinor_42 ?_
            refine lv_aload_n hx hb dX0_expandedMinor_45 rfl (lv_at hl 0 rfl) ?_
            refine va_get (D := (dC, dI)) (ci := 0) (v := .ref (ad 30)) (C := RX0) (T := TX0) (N := 2) hx hb hts in_X0 hown hK hP 32 (obB_32 ad cI cJ cT I J) rfl 0 (by decide) wd_1 (fun _ h9 => h9) rfl dX0_expandedMinor_46 ?_
            refine lv_iload_n hx hb dX0_expandedMinor_49 rfl (lv_at hl 3 rfl) ?_
            refine lv_iconst (v := (5 : Int32)) hx hb dX0_expandedMinor_50 (by decide) ?_
            refine lv_imul hx hb dX0_expandedMinor_51 ?_
            refine lv_iload hx hb dX0_expandedMinor_52 (lv_at hl 6 rfl) ?_
            refine lv_iadd hx hb dX0_expandedMinor_54 ?_
            obtain ⟨h_5, hf⟩ := gd_some hf
            refine x_iald hx hb hK (aiB_30 ad cI cJ cT) hP h_5 dX0_expandedMinor_55 ?_
            refine lv_i2l (v := (I 30 ((v3 * (5 : Int32)) + v8).toNatClampNeg).toInt64) hx hb dX0_expandedMinor_56 rfl ?_
            refine lv_lmul hx hb dX0_expandedMinor_57 ?_
            refine lv_lsub hx hb dX0_expandedMinor_58 ?_
            refine lv_lstore (lv' := [(9, .long (((0 : Int32).toInt64) - ((10 : Int64) * ((I 30 ((v3 * (5 : Int32)) + v8).toNatClampNeg).toInt64)))), (0, .ref (ad 32)), (1, .int v1), (2, .int v2), (3, .int v3), (4, .long v4), (6, .long v6), (8, .int v8)]) hx hb dX0_expandedMinor_59 hl (by decide) rfl (fun ls hl => ?_)
            refine lv_lload hx hb dX0_expandedMinor_61 (lv_at hl 5 rfl) ?_
            refine lv_lload hx hb dX0_expandedMinor_63 (lv_at hl 6 rfl) ?_
            refine lv_lload hx hb dX0_expandedMinor_65 (lv_at hl 0 rfl) ?_
            refine lv_lmul hx hb dX0_expandedMinor_67 ?_
            refine lv_aload_n hx hb dX0_expandedMinor_68 rfl (lv_at hl 1 rfl) ?_
            refine va_get (D := (dC, dI)) (ci := 0) (v := .ref (ad 31)) (C := RX0) (T := TX0) (N := 2) hx hb hts in_X0 hown hK hP 32 (obB_32 ad cI cJ cT I J) rfl 1 (by decide) wd_2 (fun _ h9 => h9) rfl dX0_expandedMinor_69 ?_
            refine lv_iload_n hx hb dX0_expandedMinor_72 rfl (lv_at hl 3 rfl) ?_
            refine lv_iconst (v := (1 : Int32)) hx hb dX0_expandedMinor_73 (by decide) ?_
            refine lv_iload hx hb dX0_expandedMinor_74 (lv_at hl 7 rfl) ?_
            refine lv_ishl hx hb dX0_expandedMinor_76 ?_
            refine lv_iconst (v := (-1 : Int32)) hx hb dX0_expandedMinor_77 (by decide) ?_
            refine lv_ixor hx hb dX0_expandedMinor_78 ?_
            refine lv_iand hx hb dX0_expandedMinor_79 ?_
            obtain ⟨h_6, hf⟩ := gd_some hf
            refine x_lald hx hb hK (aiB_31 ad cI cJ cT) hP h_6 dX0_expandedMinor_80 ?_
            refine lv_lmul hx hb dX0_expandedMinor_81 ?_
            refine lv_ladd hx hb dX0_expandedMinor_82 ?_
            refine lv_lstore (lv' := [(4, .long (v4 + ((v6 * (((0 : Int32).toInt64) - ((10 : Int64) * ((I 30 ((v3 * (5 : Int32)) + v8).toNatClampNeg).toInt64)))) * (J 31 (v2 &&& (((1 : Int32) <<< (v8 &&& 31)) ^^^ (-1 : Int32))).toNatClampNeg)))), (9, .long (((0 : Int32).toInt64) - ((10 : Int64) * ((I 30 ((v3 * (5 : Int32)) + v8).toNatClampNeg).toInt64)))), (0, .ref (ad 32)), (1, .int v1), (2, .int v2), (3, .int v3), (6, .long v6), (8, .int v8)]) hx hb dX0_expandedMinor_83 hl (by decide) rfl (fun ls hl => ?_)
            refine lv_lload hx hb dX0_expandedMinor_85 (lv_at hl 6 rfl) ?_
            refine lv_lneg hx hb dX0_expandedMinor_87 ?_
            refine lv_lstore (lv' := [(6, .long (-v6)), (4, .long (v4 + ((v6 * (((0 : Int32).toInt64) - ((10 : Int64) * ((I 30 ((v3 * (5 : Int32)) + v8).toNatClampNeg).toInt64)))) * (J 31 (v2 &&& (((1 : Int32) <<< (v8 &&& 31)) ^^^ (-1 : Int32))).toNatClampNeg)))), (9, .long (((0 : Int32).toInt64) - ((10 : Int64) * ((I 30 ((v3 * (5 : Int32)) + v8).toNatClampNeg).toInt64)))), (0, .ref (ad 32)), (1, .int v1), (2, .int v2), (3, .int v3), (8, .int v8)]) hx hb dX0_expandedMinor_88 hl (by decide) rfl (fun ls hl => ?_)
            refine lv_iinc (v := (v8 + (-1 : Int32))) (lv' := [(8, .int (v8 + (-1 : Int32))), (6, .long (-v6)), (4, .long (v4 + ((v6 * (((0 : Int32).toInt64) - ((10 : Int64) * ((I 30 ((v3 * (5 : Int32)) + v8).toNatClampNeg).toInt64)))) * (J 31 (v2 &&& (((1 : Int32) <<< (v8 &&& 31)) ^^^ (-1 : Int32))).toNatClampNeg)))), (9, .long (((0 : Int32).toInt64) - ((10 : Int64) * ((I 30 ((v3 * (5 : Int32)) + v8).toNatClampNeg).toInt64)))), (0, .ref (ad 32)), (1, .int v1), (2, .int v2), (3, .int v3)]) hx hb dX0_expandedMinor_90 hl (k := 7) rfl (by first | rfl | decide) (by decide) rfl (fun ls hl => ?_)
            refine lv_goto (tgt := 16) hx hb dX0_expandedMinor_93 (by decide) ?_
            exact ih _ _ _ _ _ _ hf hP hD hS (lv_sub hl [4, 5, 6, 7, 2, 1, 0] rfl)
          · have hf := (if_pos c_4).symm.trans hf
            refine lv_iload_n hx hb dX0_expandedMinor_36 rfl (lv_at hl 1 rfl) ?_
            refine lv_goto (tgt := 41) hx hb dX0_expandedMinor_37 (by decide) ?_
            refine lv_i2l (v := v1.toInt64) hx hb dX0_expandedMinor_41 rfl ?_
            refine lv_ldc2 (v := (10 : Int64)) hx hb hown wd_0 dX0_expandedMinor_42 ?_
            refine lv_aload_n hx hb dX0_expandedMinor_45 rfl (lv_at hl 0 rfl) ?_
            refine va_get (D := (dC, dI)) (ci := 0) (v := .ref (ad 30)) (C := RX0) (T := TX0) (N := 2) hx hb hts in_X0 hown hK hP 32 (obB_32 ad cI cJ cT I J) rfl 0 (by decide) wd_1 (fun _ h9 => h9) rfl dX0_expandedMinor_46 ?_
            refine lv_iload_n hx hb dX0_expandedMinor_49 rfl (lv_at hl 3 rfl) ?_
            refine lv_iconst (v := (5 : Int32)) hx hb dX0_expandedMinor_50 (by decide) ?_
            refine lv_imul hx hb dX0_expandedMinor_51 ?_
            refine lv_iload hx hb dX0_expandedMinor_52 (lv_at hl 6 rfl) ?_
            refine lv_iadd hx hb dX0_expandedMinor_54 ?_
            obtain ⟨h_7, hf⟩ := gd_some hf
            refine x_iald hx hb hK (aiB_30 ad cI cJ cT) hP h_7 dX0_expandedMinor_55 ?_
            refine lv_i2l (v := (I 30 ((v3 * (5 : Int32)) + v8).toNatClampNeg).toInt64) hx hb dX0_expandedMinor_56 rfl ?_
            refine lv_lmul hx hb dX0_expandedMinor_57 ?_
            refine lv_lsub hx hb dX0_expandedMinor_58 ?_
            refine lv_lstore (lv' := [(9, .long ((v1.toInt64) - ((10 : Int64) * ((I 30 ((v3 * (5 : Int32)) + v8).toNatClampNeg).toInt64)))), (0, .ref (ad 32)), (1, .int v1), (2, .int v2), (3, .int v3), (4, .long v4), (6, .long v6), (8, .int v8)]) hx hb dX0_expandedMinor_59 hl (by decide) rfl (fun ls hl => ?_)
            refine lv_lload hx hb dX0_expandedMinor_61 (lv_at hl 5 rfl) ?_
            refine lv_lload hx hb dX0_expandedMinor_63 (lv_at hl 6 rfl) ?_
            refine lv_lload hx hb dX0_expandedMinor_65 (lv_at hl 0 rfl) ?_
            refine lv_lmul hx hb dX0_expandedMinor_67 ?_
            refine lv_aload_n hx hb dX0_expandedMinor_68 rfl (lv_at hl 1 rfl) ?_
            refine va_get (D := (dC, dI)) (ci := 0) (v := .ref (ad 31)) (C := RX0) (T := TX0) (N := 2) hx hb hts in_X0 hown hK hP 32 (obB_32 ad cI cJ cT I J) rfl 1 (by decide) wd_2 (fun _ h9 => h9) rfl dX0_expandedMinor_69 ?_
            refine lv_iload_n hx hb dX0_expandedMinor_72 rfl (lv_at hl 3 rfl) ?_
            refine lv_iconst (v := (1 : Int32)) hx hb dX0_expandedMinor_73 (by decide) ?_
            refine lv_iload hx hb dX0_expandedMinor_74 (lv_at hl 7 rfl) ?_
            refine lv_ishl hx hb dX0_expandedMinor_76 ?_
            refine lv_iconst (v := (-1 : Int32)) hx hb dX0_expandedMinor_77 (by decide) ?_
            refine lv_ixor hx hb dX0_expandedMinor_78 ?_
            refine lv_iand hx hb dX0_expandedMinor_79 ?_
            obtain ⟨h_8, hf⟩ := gd_some hf
            refine x_lald hx hb hK (aiB_31 ad cI cJ cT) hP h_8 dX0_expandedMinor_80 ?_
            refine lv_lmul hx hb dX0_expandedMinor_81 ?_
            refine lv_ladd hx hb dX0_expandedMinor_82 ?_
            refine lv_lstore (lv' := [(4, .long (v4 + ((v6 * ((v1.toInt64) - ((10 : Int64) * ((I 30 ((v3 * (5 : Int32)) + v8).toNatClampNeg).toInt64)))) * (J 31 (v2 &&& (((1 : Int32) <<< (v8 &&& 31)) ^^^ (-1 : Int32))).toNatClampNeg)))), (9, .long ((v1.toInt64) - ((10 : Int64) * ((I 30 ((v3 * (5 : Int32)) + v8).toNatClampNeg).toInt64)))), (0, .ref (ad 32)), (1, .int v1), (2, .int v2), (3, .int v3), (6, .long v6), (8, .int v8)]) hx hb dX0_expandedMinor_83 hl (by decide) rfl (fun ls hl => ?_)
            refine lv_lload hx hb dX0_expandedMinor_85 (lv_at hl 6 rfl) ?_
            refine lv_lneg hx hb dX0_expandedMinor_87 ?_
            refine lv_lstore (lv' := [(6, .long (-v6)), (4, .long (v4 + ((v6 * ((v1.toInt64) - ((10 : Int64) * ((I 30 ((v3 * (5 : Int32)) + v8).toNatClampNeg).toInt64)))) * (J 31 (v2 &&& (((1 : Int32) <<< (v8 &&& 31)) ^^^ (-1 : Int32))).toNatClampNeg)))), (9, .long ((v1.toInt64) - ((10 : Int64) * ((I 30 ((v3 * (5 : Int32)) + v8).toNatClampNeg).toInt64)))), (0, .ref (ad 32)), (1, .int v1), (2, .int v2), (3, .int v3), (8, .int v8)]) hx hb dX0_expandedMinor_88 hl (by decide) rfl (fun ls hl => ?_)
            refine lv_iinc (v := (v8 + (-1 : Int32))) (lv' := [(8, .int (v8 + (-1 : Int32))), (6, .long (-v6)), (4, .long (v4 + ((v6 * ((v1.toInt64) - ((10 : Int64) * ((I 30 ((v3 * (5 : Int32)) + v8).toNatClampNeg).toInt64)))) * (J 31 (v2 &&& (((1 : Int32) <<< (v8 &&& 31)) ^^^ (-1 : Int32))).toNatClampNeg)))), (9, .long ((v1.toInt64) - ((10 : Int64) * ((I 30 ((v3 * (5 : Int32)) + v8).toNatClampNeg).toInt64)))), (0, .ref (ad 32)), (1, .int v1), (2, .int v2), (3, .int v3)]) hx hb dX0_expandedMinor_90 hl (k := 7) rfl (by first | rfl | decide) (by decide) rfl (fun ls hl => ?_)
            refine lv_goto (tgt := 16) hx hb dX0_expandedMinor_93 (by decide) ?_
            exact ih _ _ _ _ _ _ hf hP hD hS (lv_sub hl [4, 5, 6, 7, 2, 1, 0] rfl)
  unfold f_X0_expandedMinor at hf
  refine lv_iload_n hx hb dX0_expandedMinor_0 rfl (lv_at hl 2 rfl) ?_
  obtain ⟨r_9, hg_9, hf⟩ := bd_some hf
  refine xSi (rest := []) (c_J6_bitCount l dC dI ad cI cJ cT (wB ad cI cJ cT) (fun k => k) p2 I J hg_9) hfix (va_cwS 1 hts gX0_expandedMinor_J6_bitCount_0f7a4 rfl rfl rfl (by decide +kernel) ⟨Nat.le_of_ble_eq_true rfl, Nat.le_of_ble_eq_true rfl⟩) hK hP hD hS hA rfl hl.1 rfl (Nat.le_of_ble_eq_true rfl) ⟨Nat.zero_le _, Nat.zero_le _⟩ dX0_expandedMinor_1 (fun H locs hP hD hS => ?_)
  refine lv_iconst (v := (1 : Int32)) hx hb dX0_expandedMinor_4 (by decide) ?_
  refine lv_isub hx hb dX0_expandedMinor_5 ?_
  refine lv_istore_n (lv' := [(3, .int (r_9 - (1 : Int32))), (0, .ref (ad 32)), (1, .int p1), (2, .int p2)]) hx hb dX0_expandedMinor_6 rfl hl (by decide) rfl (fun ls hl => ?_)
  refine lv_lconst (v := (0 : Int64)) hx hb dX0_expandedMinor_7 (by decide) ?_
  refine lv_lstore (lv' := [(4, .long (0 : Int64)), (3, .int (r_9 - (1 : Int32))), (0, .ref (ad 32)), (1, .int p1), (2, .int p2)]) hx hb dX0_expandedMinor_8 hl (by decide) rfl (fun ls hl => ?_)
  refine lv_lconst (v := (1 : Int64)) hx hb dX0_expandedMinor_10 (by decide) ?_
  refine lv_lstore (lv' := [(6, .long (1 : Int64)), (4, .long (0 : Int64)), (3, .int (r_9 - (1 : Int32))), (0, .ref (ad 32)), (1, .int p1), (2, .int p2)]) hx hb dX0_expandedMinor_11 hl (by decide) rfl (fun ls hl => ?_)
  refine lv_iconst (v := (4 : Int32)) hx hb dX0_expandedMinor_13 (by decide) ?_
  refine lv_istore (lv' := [(8, .int (4 : Int32)), (6, .long (1 : Int64)), (4, .long (0 : Int64)), (3, .int (r_9 - (1 : Int32))), (0, .ref (ad 32)), (1, .int p1), (2, .int p2)]) hx hb dX0_expandedMinor_14 hl (by decide) rfl (fun ls hl => ?_)
  obtain ⟨o_10, hg_10, hf⟩ := bd_some hf
  refine L16 _ p1 p2 (r_9 - (1 : Int32)) I J o_10 ?_ FU (0 : Int64) (1 : Int64) (4 : Int32) _ _ _ hg_10 hP hD hS (lv_sub hl [4, 5, 6, 3, 2, 1, 0] rfl)
  · intro w4_10 H locs ls ho hP hD hS hl
    subst o_10
    refine lv_lload hx hb dX0_expandedMinor_96 (lv_at hl 0 rfl) ?_
    cases hf
    exact xRl hx hb hr hlocks hK hP hD hS (fun _ h => h) dX0_expandedMinor_98
set_option maxHeartbeats 4000000 in
set_option maxRecDepth 100000 in
theorem c_X0_isAbove (l : Launch) (dC : Nat → ClassId) (dI : Nat → Nat → Nat) (ad : Nat → Nat) (cI cJ cT : ClassId) (p1 : Int32) (p2 : Int32) (I : SI) (J : SJ) {r0 : Int32} {J0 : SJ} (hf : f_X0_isAbove p1 p2 I J = some (r0, J0)) : CtI l yX0_isAbove wsX0_isAbove ({ frames := 2, cells := 0, slots := 0, locals := 51 } : Room) (dC, dI) (tys3 cI cJ cT) (wB ad cI cJ cT) [.ref (ad 32), .int p1, .int p2] I J r0 I J0 := by
  intro sz
  refine Met.ofW (cc := cX0_isAbove) (maxL := 5) (ret := (some .boolean)) (by decide) rfl ?_
  intro p e s m args below meth c s₁ B hml hv
  obtain ⟨hargs, hsz, hP, hK, hD0⟩ := hv
  have hx := B.exec
  have hb := B.bytes
  have hr := B.returns
  have hts := atoms_spec (ws := wsX0_isAbove) B.pre
  have hown : s.vm.findClass RX0 = some m.cls := findClass_of_methodNamed B.named
  have hlocks := B.notSynchronized
  subst hsz
  have hD := hD0.self (sz := s.heap.size)
  generalize hAe : va_A ((wB ad cI cJ cT) I J) s.heap.size = A at hD ⊢
  have hA : ∀ q : Nat, s.heap.size ≤ q → A q := fun q h => by rw [← hAe]; exact Or.inr h
  have hS : va_S A s.heap s.heap [] := va_S.rf
  have hl := lv_entry ([.ref (ad 32), .int p1, .int p2]) (n := 5) (Nat.le_of_ble_eq_true rfl)
  rw [hargs, lg_entry_eq, ← hargs]
  generalize (lg_sl ([.ref (ad 32), .int p1, .int p2]) ++ List.replicate (5 - (lg_sl ([.ref (ad 32), .int p1, .int p2])).length) Slot.unset).toArray = ls at hl ⊢
  have hl : lv_has ls 5 [(0, .ref (ad 32)), (1, .int p1), (2, .int p2)] := hl
  have hfix : CallFix p m c cX0_isAbove 5 s args wsX0_isAbove RX0 := ⟨hx, hb, hml, hown, hts⟩
  have in_X0 : ∀ w ∈ u_ws RX0 TX0 2, w ∈ wsX0_isAbove := by decide +kernel
  have wd_0 := hts (.fieldLink RX0 15 "FuseBench$Extent" "minors" "[J") (by decide +kernel)
  have L9 : ∀ (Q : State → Prop) (v1 : Int32) (v2 : Int32) (I : SI) (o : Nat × SJ), (∀  (J : SJ) (H : Heap) (locs : List Loc) (ls : Array Slot), o = (0, J) → va_P (dC, dI) vwCl ((wB ad cI cJ cT) I J) H → va_D A ((wB ad cI cJ cT) I J) → va_S A s.heap H locs → lv_has ls 5 [] → W p l e ({ frames := 2, cells := 0, slots := 0, locals := 51 } : Room) s m args below meth c H locs 0 0 Q (F0 m 59 ls [])) → (∀  (J : SJ) (H : Heap) (locs : List Loc) (ls : Array Slot), o = (1, J) → va_P (dC, dI) vwCl ((wB ad cI cJ cT) I J) H → va_D A ((wB ad cI cJ cT) I J) → va_S A s.heap H locs → lv_has ls 5 [] → W p l e ({ frames := 2, cells := 0, slots := 0, locals := 51 } : Room) s m args below meth c H locs 0 0 Q (F0 m 67 ls [])) → ∀ (n : Nat) (v3 : Int32) (J : SJ) (H : Heap) (locs : List Loc) (ls : Array Slot), lp_X0_isAbove_9 v1 v2 I n v3 J = some o → va_P (dC, dI) vwCl ((wB ad cI cJ cT) I J) H → va_D A ((wB ad cI cJ cT) I J) → va_S A s.heap H locs → lv_has ls 5 [(0, .ref (ad 32)), (1, .int v1), (2, .int v2), (3, .int v3)] → W p l e ({ frames := 2, cells := 0, slots := 0, locals := 51 } : Room) s m args below meth c H locs 0 0 Q (F0 m 9 ls []) := by
    intro Q v1 v2 I o K0 K1 n
    clear hP hD hS hl
    induction n with
    | zero =>
      intro v3 J H locs ls hf
      rw [lp_X0_isAbove_9.eq_1] at hf
      cases hf
    | succ n ih =>
      intro v3 J H locs ls hf hP hD hS hl
      rw [lp_X0_isAbove_9.eq_2] at hf
      refine lv_iload_n hx hb dX0_isAbove_9 rfl (lv_at hl 3 rfl) ?_
      refine lv_iconst (v := (1 : Int32)) hx hb dX0_isAbove_10 (by decide) ?_
      refine lv_iload_n hx hb dX0_isAbove_11 rfl (lv_at hl 2 rfl) ?_
      refine lv_ishl hx hb dX0_isAbove_12 ?_
      refine lv_icmp_ge (tgt := 67) hx hb dX0_isAbove_13 (by decide) (fun c_1 => ?_) (fun c_1 => ?_)
      · have hf := (if_pos c_1).symm.trans hf
        exact K1 _ _ _ _ (Option.some.inj hf).symm hP hD hS (lv_sub hl [] rfl)
      · have hf := (if_neg c_1).symm.trans hf
        refine lv_aload_n hx hb dX0_isAbove_16 rfl (lv_at hl 0 rfl) ?_
        refine va_get (D := (dC, dI)) (ci := 0) (v := .ref (ad 31)) (C := RX0) (T := TX0) (N := 2) hx hb hts in_X0 hown hK hP 32 (obB_32 ad cI cJ cT I J) rfl 1 (by decide) wd_0 (fun _ h9 => h9) rfl dX0_isAbove_17 ?_
        refine lv_iload_n hx hb dX0_isAbove_20 rfl (lv_at hl 3 rfl) ?_
        refine lv_aload_n hx hb dX0_isAbove_21 rfl (lv_at hl 0 rfl) ?_
        refine lv_iload_n hx hb dX0_isAbove_22 rfl (lv_at hl 1 rfl) ?_
        refine lv_iload_n hx hb dX0_isAbove_23 rfl (lv_at hl 3 rfl) ?_
        obtain ⟨r_2, hg_2, hf⟩ := bd_some hf
        refine xVl (rest := [.int v3, .ref (ad 31)]) (c_X0_expandedMinor l dC dI ad cI cJ cT v1 v3 I J hg_2) hfix (cwV 2 hts gX0_isAbove_X0_expandedMinor rfl rfl rfl (by decide +kernel) ⟨Nat.le_of_ble_eq_true rfl, Nat.le_of_ble_eq_true rfl⟩) hK hP hD hS hA (va_recv hK hP (ci := 0) (q0 := 32) rfl (obB_32 ad cI cJ cT I J)) rfl hl.1 rfl (Nat.le_of_ble_eq_true rfl) ⟨Nat.zero_le _, Nat.zero_le _⟩ dX0_isAbove_24 (fun H locs hP hD hS => ?_)
        obtain ⟨h_3, hf⟩ := gd_some hf
        refine x_last hx hb hK (aiB_31 ad cI cJ cT) hP hD hS h_3 dX0_isAbove_27 (fun H locs hP hD hS => ?_)
        refine lv_iload_n hx hb dX0_isAbove_28 rfl (lv_at hl 3 rfl) ?_
        refine lv_iload_n hx hb dX0_isAbove_29 rfl (lv_at hl 3 rfl) ?_
        refine lv_iconst (v := (1 : Int32)) hx hb dX0_isAbove_30 (by decide) ?_
        refine lv_iadd hx hb dX0_isAbove_31 ?_
        refine lv_iand hx hb dX0_isAbove_32 ?_
        refine lv_if_ne (tgt := 40) hx hb dX0_isAbove_33 (by decide) (fun c_4 => ?_) (fun c_4 => ?_)
        · have hf := (if_neg c_4).symm.trans hf
          refine lv_iconst (v := (0 : Int32)) hx hb dX0_isAbove_40 (by decide) ?_
          refine lv_istore (lv' := [(4, .int (0 : Int32)), (0, .ref (ad 32)), (1, .int v1), (2, .int v2), (3, .int v3)]) hx hb dX0_isAbove_41 hl (by decide) rfl (fun ls hl => ?_)
          refine lv_iload hx hb dX0_isAbove_43 (lv_at hl 0 rfl) ?_
          refine lv_if_eq (tgt := 61) hx hb dX0_isAbove_45 (by decide) (fun c_5 => ?_) (fun c_5 => ?_)
          · have hf := (if_pos c_5).symm.trans hf
            refine lv_iinc (v := (v3 + (1 : Int32))) (lv' := [(3, .int (v3 + (1 : Int32))), (4, .int (0 : Int32)), (0, .ref (ad 32)), (1, .int v1), (2, .int v2)]) hx hb dX0_isAbove_61 hl (k := 4) rfl (by first | rfl | decide) (by decide) rfl (fun ls hl => ?_)
            refine lv_goto (tgt := 9) hx hb dX0_isAbove_64 (by decide) ?_
            exact ih _ _ _ _ _ hf hP hD hS (lv_sub hl [2, 3, 4, 0] rfl)
          · have hf := (if_neg c_5).symm.trans hf
            refine lv_aload_n hx hb dX0_isAbove_48 rfl (lv_at hl 1 rfl) ?_
            refine va_get (D := (dC, dI)) (ci := 0) (v := .ref (ad 31)) (C := RX0) (T := TX0) (N := 2) hx hb hts in_X0 hown hK hP 32 (obB_32 ad cI cJ cT I (upj J 31 v3.toNatClampNeg r_2)) rfl 1 (by decide) wd_0 (fun _ h9 => h9) rfl dX0_isAbove_49 ?_
            refine lv_iload_n hx hb dX0_isAbove_52 rfl (lv_at hl 4 rfl) ?_
            obtain ⟨h_6, hf⟩ := gd_some hf
            refine x_lald hx hb hK (aiB_31 ad cI cJ cT) hP h_6 dX0_isAbove_53 ?_
            refine lv_lconst (v := (0 : Int64)) hx hb dX0_isAbove_54 (by decide) ?_
            refine W.lcmp hx hb dX0_isAbove_55 ?_
            refine lv_if_gt (tgt := 61) hx hb dX0_isAbove_56 (by decide) (fun c_7 => ?_) (fun c_7 => ?_)
            · have hf := (if_pos c_7).symm.trans hf
              refine lv_iinc (v := (v3 + (1 : Int32))) (lv' := [(3, .int (v3 + (1 : Int32))), (4, .int (0 : Int32)), (0, .ref (ad 32)), (1, .int v1), (2, .int v2)]) hx hb dX0_isAbove_61 hl (k := 4) rfl (by first | rfl | decide) (by decide) rfl (fun ls hl => ?_)
              refine lv_goto (tgt := 9) hx hb dX0_isAbove_64 (by decide) ?_
              exact ih _ _ _ _ _ hf hP hD hS (lv_sub hl [2, 3, 4, 0] rfl)
            · have hf := (if_neg c_7).symm.trans hf
              exact K0 _ _ _ _ (Option.some.inj hf).symm hP hD hS (lv_sub hl [] rfl)
        · have hf := (if_pos c_4).symm.trans hf
          refine lv_iconst (v := (1 : Int32)) hx hb dX0_isAbove_36 (by decide) ?_
          refine lv_goto (tgt := 41) hx hb dX0_isAbove_37 (by decide) ?_
          refine lv_istore (lv' := [(4, .int (1 : Int32)), (0, .ref (ad 32)), (1, .int v1), (2, .int v2), (3, .int v3)]) hx hb dX0_isAbove_41 hl (by decide) rfl (fun ls hl => ?_)
          refine lv_iload hx hb dX0_isAbove_43 (lv_at hl 0 rfl) ?_
          refine lv_if_eq (tgt := 61) hx hb dX0_isAbove_45 (by decide) (fun c_8 => ?_) (fun c_8 => ?_)
          · have hf := (if_pos c_8).symm.trans hf
            refine lv_iinc (v := (v3 + (1 : Int32))) (lv' := [(3, .int (v3 + (1 : Int32))), (4, .int (1 : Int32)), (0, .ref (ad 32)), (1, .int v1), (2, .int v2)]) hx hb dX0_isAbove_61 hl (k := 4) rfl (by first | rfl | decide) (by decide) rfl (fun ls hl => ?_)
            refine lv_goto (tgt := 9) hx hb dX0_isAbove_64 (by decide) ?_
            exact ih _ _ _ _ _ hf hP hD hS (lv_sub hl [2, 3, 4, 0] rfl)
          · have hf := (if_neg c_8).symm.trans hf
            refine lv_aload_n hx hb dX0_isAbove_48 rfl (lv_at hl 1 rfl) ?_
            refine va_get (D := (dC, dI)) (ci := 0) (v := .ref (ad 31)) (C := RX0) (T := TX0) (N := 2) hx hb hts in_X0 hown hK hP 32 (obB_32 ad cI cJ cT I (upj J 31 v3.toNatClampNeg r_2)) rfl 1 (by decide) wd_0 (fun _ h9 => h9) rfl dX0_isAbove_49 ?_
            refine lv_iload_n hx hb dX0_isAbove_52 rfl (lv_at hl 4 rfl) ?_
            obtain ⟨h_9, hf⟩ := gd_some hf
            refine x_lald hx hb hK (aiB_31 ad cI cJ cT) hP h_9 dX0_isAbove_53 ?_
            refine lv_lconst (v := (0 : Int64)) hx hb dX0_isAbove_54 (by decide) ?_
            refine W.lcmp hx hb dX0_isAbove_55 ?_
            refine lv_if_gt (tgt := 61) hx hb dX0_isAbove_56 (by decide) (fun c_10 => ?_) (fun c_10 => ?_)
            · have hf := (if_pos c_10).symm.trans hf
              refine lv_iinc (v := (v3 + (1 : Int32))) (lv' := [(3, .int (v3 + (1 : Int32))), (4, .int (1 : Int32)), (0, .ref (ad 32)), (1, .int v1), (2, .int v2)]) hx hb dX0_isAbove_61 hl (k := 4) rfl (by first | rfl | decide) (by decide) rfl (fun ls hl => ?_)
              refine lv_goto (tgt := 9) hx hb dX0_isAbove_64 (by decide) ?_
              exact ih _ _ _ _ _ hf hP hD hS (lv_sub hl [2, 3, 4, 0] rfl)
            · have hf := (if_neg c_10).symm.trans hf
              exact K0 _ _ _ _ (Option.some.inj hf).symm hP hD hS (lv_sub hl [] rfl)
  unfold f_X0_isAbove at hf
  refine lv_aload_n hx hb dX0_isAbove_0 rfl (lv_at hl 0 rfl) ?_
  refine va_get (D := (dC, dI)) (ci := 0) (v := .ref (ad 31)) (C := RX0) (T := TX0) (N := 2) hx hb hts in_X0 hown hK hP 32 (obB_32 ad cI cJ cT I J) rfl 1 (by decide) wd_0 (fun _ h9 => h9) rfl dX0_isAbove_1 ?_
  refine lv_iconst (v := (0 : Int32)) hx hb dX0_isAbove_4 (by decide) ?_
  refine lv_lconst (v := (1 : Int64)) hx hb dX0_isAbove_5 (by decide) ?_
  refine x_last hx hb hK (aiB_31 ad cI cJ cT) hP hD hS (by decide) dX0_isAbove_6 (fun H locs hP hD hS => ?_)
  refine lv_iconst (v := (1 : Int32)) hx hb dX0_isAbove_7 (by decide) ?_
  refine lv_istore_n (lv' := [(3, .int (1 : Int32)), (0, .ref (ad 32)), (1, .int p1), (2, .int p2)]) hx hb dX0_isAbove_8 rfl hl (by decide) rfl (fun ls hl => ?_)
  obtain ⟨o_11, hg_11, hf⟩ := bd_some hf
  refine L9 _ p1 p2 I o_11 ?_ ?_ FU (1 : Int32) (upj J 31 (0 : Int32).toNatClampNeg (1 : Int64)) _ _ _ hg_11 hP hD hS (lv_sub hl [1, 2, 3, 0] rfl)
  · intro J_11 H locs ls ho hP hD hS hl
    subst o_11
    have hf := (if_pos (show 0 = 0 from rfl)).symm.trans hf
    refine lv_iconst (v := (0 : Int32)) hx hb dX0_isAbove_59 (by decide) ?_
    cases hf
    exact xRz hx hb hr hlocks rfl hK hP hD hS (fun _ h => h) dX0_isAbove_60
  · intro J_11 H locs ls ho hP hD hS hl
    subst o_11
    have hf := (if_neg (show ¬ (1 = 0) by decide)).symm.trans hf
    refine lv_iconst (v := (1 : Int32)) hx hb dX0_isAbove_67 (by decide) ?_
    cases hf
    exact xRz hx hb hr hlocks rfl hK hP hD hS (fun _ h => h) dX0_isAbove_68
set_option maxHeartbeats 4000000 in
set_option maxRecDepth 100000 in
theorem c_X0_addUp (l : Launch) (dC : Nat → ClassId) (dI : Nat → Nat → Nat) (ad : Nat → Nat) (cI cJ cT : ClassId) (x : Nat) (htx : x < 8) (I : SI) (J : SJ) {I0 : SI} (hf : f_X0_addUp x I = some I0) : CtV l yX0_addUp wsX0_addUp ({ frames := 2, cells := 0, slots := 0, locals := 45 } : Room) (dC, dI) (tys3 cI cJ cT) (wB ad cI cJ cT) [.ref (ad 32), .ref (ad (8 + x))] I J I0 J := by
  intro sz
  refine Met.ofW (cc := cX0_addUp) (maxL := 6) (ret := none) (by decide) rfl ?_
  intro p e s m args below meth c s₁ B hml hv
  obtain ⟨hargs, hsz, hP, hK, hD0⟩ := hv
  have hx := B.exec
  have hb := B.bytes
  have hr := B.returns
  have hts := atoms_spec (ws := wsX0_addUp) B.pre
  have hown : s.vm.findClass RX0 = some m.cls := findClass_of_methodNamed B.named
  have hlocks := B.notSynchronized
  subst hsz
  have hD := hD0.self (sz := s.heap.size)
  generalize hAe : va_A ((wB ad cI cJ cT) I J) s.heap.size = A at hD ⊢
  have hA : ∀ q : Nat, s.heap.size ≤ q → A q := fun q h => by rw [← hAe]; exact Or.inr h
  have hS : va_S A s.heap s.heap [] := va_S.rf
  have hl := lv_entry ([.ref (ad 32), .ref (ad (8 + x))]) (n := 6) (Nat.le_of_ble_eq_true rfl)
  rw [hargs, lg_entry_eq, ← hargs]
  generalize (lg_sl ([.ref (ad 32), .ref (ad (8 + x))]) ++ List.replicate (6 - (lg_sl ([.ref (ad 32), .ref (ad (8 + x))])).length) Slot.unset).toArray = ls at hl ⊢
  have hl : lv_has ls 6 [(0, .ref (ad 32)), (1, .ref (ad (8 + x)))] := hl
  have hfix : CallFix p m c cX0_addUp 6 s args wsX0_addUp RX0 := ⟨hx, hb, hml, hown, hts⟩
  have in_X7 : ∀ w ∈ u_ws RX7 TX7 2, w ∈ wsX0_addUp := by decide +kernel
  have in_X0 : ∀ w ∈ u_ws RX0 TX0 2, w ∈ wsX0_addUp := by decide +kernel
  have wd_0 := hts (.fieldLink RX0 23 "FuseBench$Table" "kinds" "I") (by decide +kernel)
  have wd_1 := hts (.fieldLink RX0 9 "FuseBench$Extent" "sums" "[I") (by decide +kernel)
  have L26 : ∀ (Q : State → Prop) (v2 : Int32) (v3 : Int32) (I : SI) (J : SJ) (o : Int32), (∀ (w4 : Int32) (H : Heap) (locs : List Loc) (ls : Array Slot), o = w4 → va_P (dC, dI) vwCl ((wB ad cI cJ cT) I J) H → va_D A ((wB ad cI cJ cT) I J) → va_S A s.heap H locs → lv_has ls 6 [(0, .ref (ad 32)), (1, .ref (ad (8 + x))), (2, .int v2), (3, .int v3), (4, .int w4)] → W p l e ({ frames := 2, cells := 0, slots := 0, locals := 45 } : Room) s m args below meth c H locs 0 0 Q (F0 m 54 ls [])) → ∀ (n : Nat) (v4 : Int32) (v5 : Int32) (H : Heap) (locs : List Loc) (ls : Array Slot), lp_X0_addUp_26 x v2 v3 I n v4 v5 = some o → va_P (dC, dI) vwCl ((wB ad cI cJ cT) I J) H → va_D A ((wB ad cI cJ cT) I J) → va_S A s.heap H locs → lv_has ls 6 [(0, .ref (ad 32)), (1, .ref (ad (8 + x))), (2, .int v2), (3, .int v3), (4, .int v4), (5, .int v5)] → W p l e ({ frames := 2, cells := 0, slots := 0, locals := 45 } : Room) s m args below meth c H locs 0 0 Q (F0 m 26 ls []) := by
    intro Q v2 v3 I J o K0 n
    clear hP hD hS hl
    induction n with
    | zero =>
      intro v4 v5 H locs ls hf
      rw [lp_X0_addUp_26.eq_1] at hf
      cases hf
    | succ n ih =>
      intro v4 v5 H locs ls hf hP hD hS hl
      rw [lp_X0_addUp_26.eq_2] at hf
      refine lv_iload hx hb dX0_addUp_26 (lv_at hl 5 rfl) ?_
      refine lv_aload_n hx hb dX0_addUp_28 rfl (lv_at hl 1 rfl) ?_
      refine va_get (D := (dC, dI)) (ci := 6) (v := .int (I (8 + x) 0)) (C := RX7) (T := TX7) (N := 2) hx hb hts in_X7 hown hK hP (8 + x) (((wBT ad cI cJ cT htx)).2.1 I J) rfl 1 (by decide) wd_0 (fun _ h9 => h9) rfl dX0_addUp_29 ?_
      refine lv_icmp_ge (tgt := 54) hx hb dX0_addUp_32 (by decide) (fun c_1 => ?_) (fun c_1 => ?_)
      · have hf := (if_pos c_1).symm.trans hf
        exact K0 _ _ _ _ (Option.some.inj hf).symm hP hD hS (lv_sub hl [0, 1, 2, 3, 4] rfl)
      · have hf := (if_neg c_1).symm.trans hf
        refine lv_iload hx hb dX0_addUp_35 (lv_at hl 4 rfl) ?_
        refine lv_aload_n hx hb dX0_addUp_37 rfl (lv_at hl 1 rfl) ?_
        refine lv_iload hx hb dX0_addUp_38 (lv_at hl 5 rfl) ?_
        refine lv_iload_n hx hb dX0_addUp_40 rfl (lv_at hl 2 rfl) ?_
        refine lv_iload_n hx hb dX0_addUp_41 rfl (lv_at hl 3 rfl) ?_
        obtain ⟨r_2, hg_2, hf⟩ := bd_some hf
        refine xVi (rest := [.int v4]) (c_X7_number l dC dI ad cI cJ cT (wB ad cI cJ cT) (fun k => k) x (wBT ad cI cJ cT htx) v5 v2 v3 I J hg_2) hfix (cwV 3 hts gX0_addUp_X7_number rfl rfl rfl (by decide +kernel) ⟨Nat.le_of_ble_eq_true rfl, Nat.le_of_ble_eq_true rfl⟩) hK hP hD hS hA (va_recv hK hP (ci := 6) (q0 := (8 + x)) rfl (((wBT ad cI cJ cT htx)).2.1 I J)) rfl hl.1 rfl (Nat.le_of_ble_eq_true rfl) ⟨Nat.zero_le _, Nat.zero_le _⟩ dX0_addUp_42 (fun H locs hP hD hS => ?_)
        refine lv_iadd hx hb dX0_addUp_45 ?_
        refine lv_istore (lv' := [(4, .int (v4 + r_2)), (0, .ref (ad 32)), (1, .ref (ad (8 + x))), (2, .int v2), (3, .int v3), (5, .int v5)]) hx hb dX0_addUp_46 hl (by decide) rfl (fun ls hl => ?_)
        refine lv_iinc (v := (v5 + (1 : Int32))) (lv' := [(5, .int (v5 + (1 : Int32))), (4, .int (v4 + r_2)), (0, .ref (ad 32)), (1, .ref (ad (8 + x))), (2, .int v2), (3, .int v3)]) hx hb dX0_addUp_48 hl (k := 5) rfl (by first | rfl | decide) (by decide) rfl (fun ls hl => ?_)
        refine lv_goto (tgt := 26) hx hb dX0_addUp_51 (by decide) ?_
        exact ih _ _ _ _ _ hf hP hD hS (lv_sub hl [2, 3, 4, 5, 1, 0] rfl)
  have L12 : ∀ (Q : State → Prop) (v2 : Int32) (J : SJ) (o : SI), (∀  (I : SI) (H : Heap) (locs : List Loc) (ls : Array Slot), o = I → va_P (dC, dI) vwCl ((wB ad cI cJ cT) I J) H → va_D A ((wB ad cI cJ cT) I J) → va_S A s.heap H locs → lv_has ls 6 [(0, .ref (ad 32)), (1, .ref (ad (8 + x))), (2, .int v2)] → W p l e ({ frames := 2, cells := 0, slots := 0, locals := 45 } : Room) s m args below meth c H locs 0 0 Q (F0 m 72 ls [])) → ∀ (n : Nat) (v3 : Int32) (I : SI) (H : Heap) (locs : List Loc) (ls : Array Slot), lp_X0_addUp_12 x v2 n v3 I = some o → va_P (dC, dI) vwCl ((wB ad cI cJ cT) I J) H → va_D A ((wB ad cI cJ cT) I J) → va_S A s.heap H locs → lv_has ls 6 [(0, .ref (ad 32)), (1, .ref (ad (8 + x))), (2, .int v2), (3, .int v3)] → W p l e ({ frames := 2, cells := 0, slots := 0, locals := 45 } : Room) s m args below meth c H locs 0 0 Q (F0 m 12 ls []) := by
    intro Q v2 J o K0 n
    clear hP hD hS hl
    induction n with
    | zero =>
      intro v3 I H locs ls hf
      rw [lp_X0_addUp_12.eq_1] at hf
      cases hf
    | succ n ih =>
      intro v3 I H locs ls hf hP hD hS hl
      rw [lp_X0_addUp_12.eq_2] at hf
      refine lv_iload_n hx hb dX0_addUp_12 rfl (lv_at hl 3 rfl) ?_
      refine lv_aload_n hx hb dX0_addUp_13 rfl (lv_at hl 1 rfl) ?_
      refine va_get (D := (dC, dI)) (ci := 6) (v := .int (I (8 + x) 0)) (C := RX7) (T := TX7) (N := 2) hx hb hts in_X7 hown hK hP (8 + x) (((wBT ad cI cJ cT htx)).2.1 I J) rfl 1 (by decide) wd_0 (fun _ h9 => h9) rfl dX0_addUp_14 ?_
      refine lv_icmp_ge (tgt := 72) hx hb dX0_addUp_17 (by decide) (fun c_3 => ?_) (fun c_3 => ?_)
      · have hf := (if_pos c_3).symm.trans hf
        exact K0 _ _ _ _ (Option.some.inj hf).symm hP hD hS (lv_sub hl [0, 1, 2] rfl)
      · have hf := (if_neg c_3).symm.trans hf
        refine lv_iconst (v := (0 : Int32)) hx hb dX0_addUp_20 (by decide) ?_
        refine lv_istore (lv' := [(4, .int (0 : Int32)), (0, .ref (ad 32)), (1, .ref (ad (8 + x))), (2, .int v2), (3, .int v3)]) hx hb dX0_addUp_21 hl (by decide) rfl (fun ls hl => ?_)
        refine lv_iconst (v := (0 : Int32)) hx hb dX0_addUp_23 (by decide) ?_
        refine lv_istore (lv' := [(5, .int (0 : Int32)), (4, .int (0 : Int32)), (0, .ref (ad 32)), (1, .ref (ad (8 + x))), (2, .int v2), (3, .int v3)]) hx hb dX0_addUp_24 hl (by decide) rfl (fun ls hl => ?_)
        obtain ⟨o_4, hg_4, hf⟩ := bd_some hf
        refine L26 _ v2 v3 I J o_4 ?_ FU (0 : Int32) (0 : Int32) _ _ _ hg_4 hP hD hS (lv_sub hl [2, 3, 4, 5, 1, 0] rfl)
        · intro w4_4 H locs ls ho hP hD hS hl
          subst o_4
          refine lv_aload_n hx hb dX0_addUp_54 rfl (lv_at hl 0 rfl) ?_
          refine va_get (D := (dC, dI)) (ci := 0) (v := .ref (ad 30)) (C := RX0) (T := TX0) (N := 2) hx hb hts in_X0 hown hK hP 32 (obB_32 ad cI cJ cT I J) rfl 0 (by decide) wd_1 (fun _ h9 => h9) rfl dX0_addUp_55 ?_
          refine lv_iload_n hx hb dX0_addUp_58 rfl (lv_at hl 2 rfl) ?_
          refine lv_iconst (v := (5 : Int32)) hx hb dX0_addUp_59 (by decide) ?_
          refine lv_imul hx hb dX0_addUp_60 ?_
          refine lv_iload_n hx hb dX0_addUp_61 rfl (lv_at hl 3 rfl) ?_
          refine lv_iadd hx hb dX0_addUp_62 ?_
          refine lv_iload hx hb dX0_addUp_63 (lv_at hl 4 rfl) ?_
          obtain ⟨h_5, hf⟩ := gd_some hf
          refine x_iast hx hb hK (aiB_30 ad cI cJ cT) hP hD hS h_5 dX0_addUp_65 (fun H locs hP hD hS => ?_)
          refine lv_iinc (v := (v3 + (1 : Int32))) (lv' := [(3, .int (v3 + (1 : Int32))), (0, .ref (ad 32)), (1, .ref (ad (8 + x))), (2, .int v2), (4, .int w4_4)]) hx hb dX0_addUp_66 hl (k := 3) rfl (by first | rfl | decide) (by decide) rfl (fun ls hl => ?_)
          refine lv_goto (tgt := 12) hx hb dX0_addUp_69 (by decide) ?_
          exact ih _ _ _ _ _ hf hP hD hS (lv_sub hl [1, 2, 3, 0] rfl)
  have L2 : ∀ (Q : State → Prop)  (J : SJ) (o : SI), (∀  (I : SI) (H : Heap) (locs : List Loc) (ls : Array Slot), o = I → va_P (dC, dI) vwCl ((wB ad cI cJ cT) I J) H → va_D A ((wB ad cI cJ cT) I J) → va_S A s.heap H locs → lv_has ls 6 [] → W p l e ({ frames := 2, cells := 0, slots := 0, locals := 45 } : Room) s m args below meth c H locs 0 0 Q (F0 m 78 ls [])) → ∀ (n : Nat) (v2 : Int32) (I : SI) (H : Heap) (locs : List Loc) (ls : Array Slot), lp_X0_addUp_2 x n v2 I = some o → va_P (dC, dI) vwCl ((wB ad cI cJ cT) I J) H → va_D A ((wB ad cI cJ cT) I J) → va_S A s.heap H locs → lv_has ls 6 [(0, .ref (ad 32)), (1, .ref (ad (8 + x))), (2, .int v2)] → W p l e ({ frames := 2, cells := 0, slots := 0, locals := 45 } : Room) s m args below meth c H locs 0 0 Q (F0 m 2 ls []) := by
    intro Q  J o K0 n
    clear hP hD hS hl
    induction n with
    | zero =>
      intro v2 I H locs ls hf
      rw [lp_X0_addUp_2.eq_1] at hf
      cases hf
    | succ n ih =>
      intro v2 I H locs ls hf hP hD hS hl
      rw [lp_X0_addUp_2.eq_2] at hf
      refine lv_iload_n hx hb dX0_addUp_2 rfl (lv_at hl 2 rfl) ?_
      refine lv_aload_n hx hb dX0_addUp_3 rfl (lv_at hl 1 rfl) ?_
      refine va_get (D := (dC, dI)) (ci := 6) (v := .int (I (8 + x) 0)) (C := RX7) (T := TX7) (N := 2) hx hb hts in_X7 hown hK hP (8 + x) (((wBT ad cI cJ cT htx)).2.1 I J) rfl 1 (by decide) wd_0 (fun _ h9 => h9) rfl dX0_addUp_4 ?_
      refine lv_icmp_ge (tgt := 78) hx hb dX0_addUp_7 (by decide) (fun c_6 => ?_) (fun c_6 => ?_)
      · have hf := (if_pos c_6).symm.trans hf
        exact K0 _ _ _ _ (Option.some.inj hf).symm hP hD hS (lv_sub hl [] rfl)
      · have hf := (if_neg c_6).symm.trans hf
        refine lv_iconst (v := (0 : Int32)) hx hb dX0_addUp_10 (by decide) ?_
        refine lv_istore_n (lv' := [(3, .int (0 : Int32)), (0, .ref (ad 32)), (1, .ref (ad (8 + x))), (2, .int v2)]) hx hb dX0_addUp_11 rfl hl (by decide) rfl (fun ls hl => ?_)
        obtain ⟨o_7, hg_7, hf⟩ := bd_some hf
        refine L12 _ v2 J o_7 ?_ FU (0 : Int32) I _ _ _ hg_7 hP hD hS (lv_sub hl [1, 2, 3, 0] rfl)
        · intro I_7 H locs ls ho hP hD hS hl
          subst o_7
          refine lv_iinc (v := (v2 + (1 : Int32))) (lv' := [(2, .int (v2 + (1 : Int32))), (0, .ref (ad 32)), (1, .ref (ad (8 + x)))]) hx hb dX0_addUp_72 hl (k := 2) rfl (by first | rfl | decide) (by decide) rfl (fun ls hl => ?_)
          refine lv_goto (tgt := 2) hx hb dX0_addUp_75 (by decide) ?_
          exact ih _ _ _ _ _ hf hP hD hS (lv_sub hl [1, 2, 0] rfl)
  unfold f_X0_addUp at hf
  refine lv_iconst (v := (0 : Int32)) hx hb dX0_addUp_0 (by decide) ?_
  refine lv_istore_n (lv' := [(2, .int (0 : Int32)), (0, .ref (ad 32)), (1, .ref (ad (8 + x)))]) hx hb dX0_addUp_1 rfl hl (by decide) rfl (fun ls hl => ?_)
  obtain ⟨o_8, hg_8, hf⟩ := bd_some hf
  refine L2 _ J o_8 ?_ FU (0 : Int32) I _ _ _ hg_8 hP hD hS (lv_sub hl [1, 2, 0] rfl)
  · intro I_8 H locs ls ho hP hD hS hl
    subst o_8
    cases hf
    exact xRv hx hb hr hlocks hK hP hD hS (fun _ h => h) dX0_addUp_78
set_option maxHeartbeats 4000000 in
set_option maxRecDepth 100000 in
theorem c_X0_tenths (l : Launch) (dC : Nat → ClassId) (dI : Nat → Nat → Nat) (ad : Nat → Nat) (cI cJ cT : ClassId) (x : Nat) (htx : x < 8) (I : SI) (J : SJ) {r0 : Int32} {I0 : SI} {J0 : SJ} (hf : f_X0_tenths x I J = some (r0, I0, J0)) : CtI l yX0_tenths wsX0_tenths ({ frames := 3, cells := 0, slots := 0, locals := 75 } : Room) (dC, dI) (tys3 cI cJ cT) (wB ad cI cJ cT) [.ref (ad 32), .ref (ad (8 + x))] I J r0 I0 J0 := by
  intro sz
  refine Met.ofW (cc := cX0_tenths) (maxL := 6) (ret := (some .int)) (by decide) rfl ?_
  intro p e s m args below meth c s₁ B hml hv
  obtain ⟨hargs, hsz, hP, hK, hD0⟩ := hv
  have hx := B.exec
  have hb := B.bytes
  have hr := B.returns
  have hts := atoms_spec (ws := wsX0_tenths) B.pre
  have hown : s.vm.findClass RX0 = some m.cls := findClass_of_methodNamed B.named
  have hlocks := B.notSynchronized
  subst hsz
  have hD := hD0.self (sz := s.heap.size)
  generalize hAe : va_A ((wB ad cI cJ cT) I J) s.heap.size = A at hD ⊢
  have hA : ∀ q : Nat, s.heap.size ≤ q → A q := fun q h => by rw [← hAe]; exact Or.inr h
  have hS : va_S A s.heap s.heap [] := va_S.rf
  have hl := lv_entry ([.ref (ad 32), .ref (ad (8 + x))]) (n := 6) (Nat.le_of_ble_eq_true rfl)
  rw [hargs, lg_entry_eq, ← hargs]
  generalize (lg_sl ([.ref (ad 32), .ref (ad (8 + x))]) ++ List.replicate (6 - (lg_sl ([.ref (ad 32), .ref (ad (8 + x))])).length) Slot.unset).toArray = ls at hl ⊢
  have hl : lv_has ls 6 [(0, .ref (ad 32)), (1, .ref (ad (8 + x)))] := hl
  have hfix : CallFix p m c cX0_tenths 6 s args wsX0_tenths RX0 := ⟨hx, hb, hml, hown, hts⟩
  have in_X7 : ∀ w ∈ u_ws RX7 TX7 2, w ∈ wsX0_tenths := by decide +kernel
  have wd_0 := hts (.fieldLink RX0 23 "FuseBench$Table" "kinds" "I") (by decide +kernel)
  have L14 : ∀ (Q : State → Prop)  (I : SI) (o : Int32 × SJ), (∀ (w2 : Int32) (J : SJ) (H : Heap) (locs : List Loc) (ls : Array Slot), o = (w2, J) → va_P (dC, dI) vwCl ((wB ad cI cJ cT) I J) H → va_D A ((wB ad cI cJ cT) I J) → va_S A s.heap H locs → lv_has ls 6 [(2, .int w2)] → W p l e ({ frames := 3, cells := 0, slots := 0, locals := 75 } : Room) s m args below meth c H locs 0 0 Q (F0 m 63 ls [])) → ∀ (n : Nat) (v2 : Int32) (v3 : Int32) (v4 : Int32) (J : SJ) (H : Heap) (locs : List Loc) (ls : Array Slot), lp_X0_tenths_14 x I n v2 v3 v4 J = some o → va_P (dC, dI) vwCl ((wB ad cI cJ cT) I J) H → va_D A ((wB ad cI cJ cT) I J) → va_S A s.heap H locs → lv_has ls 6 [(0, .ref (ad 32)), (1, .ref (ad (8 + x))), (2, .int v2), (3, .int v3), (4, .int v4)] → W p l e ({ frames := 3, cells := 0, slots := 0, locals := 75 } : Room) s m args below meth c H locs 0 0 Q (F0 m 14 ls []) := by
    intro Q  I o K0 n
    clear hP hD hS hl
    induction n with
    | zero =>
      intro v2 v3 v4 J H locs ls hf
      rw [lp_X0_tenths_14.eq_1] at hf
      cases hf
    | succ n ih =>
      intro v2 v3 v4 J H locs ls hf hP hD hS hl
      rw [lp_X0_tenths_14.eq_2] at hf
      refine lv_iload hx hb dX0_tenths_14 (lv_at hl 4 rfl) ?_
      refine lv_bipush (v := (12 : Int32)) hx hb dX0_tenths_16 (by decide) ?_
      refine lv_icmp_ge (tgt := 63) hx hb dX0_tenths_18 (by decide) (fun c_1 => ?_) (fun c_1 => ?_)
      · have hf := (if_pos c_1).symm.trans hf
        exact K0 _ _ _ _ _ (Option.some.inj hf).symm hP hD hS (lv_sub hl [2] rfl)
      · have hf := (if_neg c_1).symm.trans hf
        refine lv_iload_n hx hb dX0_tenths_21 rfl (lv_at hl 3 rfl) ?_
        refine lv_iload_n hx hb dX0_tenths_22 rfl (lv_at hl 2 rfl) ?_
        refine lv_isub hx hb dX0_tenths_23 ?_
        refine lv_iconst (v := (1 : Int32)) hx hb dX0_tenths_24 (by decide) ?_
        refine lv_icmp_le (tgt := 63) hx hb dX0_tenths_25 (by decide) (fun c_2 => ?_) (fun c_2 => ?_)
        · have hf := (if_pos c_2).symm.trans hf
          exact K0 _ _ _ _ _ (Option.some.inj hf).symm hP hD hS (lv_sub hl [2] rfl)
        · have hf := (if_neg c_2).symm.trans hf
          refine lv_iload_n hx hb dX0_tenths_28 rfl (lv_at hl 2 rfl) ?_
          refine lv_iload_n hx hb dX0_tenths_29 rfl (lv_at hl 3 rfl) ?_
          refine lv_iadd hx hb dX0_tenths_30 ?_
          refine lv_iconst (v := (1 : Int32)) hx hb dX0_tenths_31 (by decide) ?_
          refine lv_ishr hx hb dX0_tenths_32 ?_
          refine lv_istore (lv' := [(5, .int ((v2 + v3) >>> ((1 : Int32) &&& 31))), (0, .ref (ad 32)), (1, .ref (ad (8 + x))), (2, .int v2), (3, .int v3), (4, .int v4)]) hx hb dX0_tenths_33 hl (by decide) rfl (fun ls hl => ?_)
          refine lv_aload_n hx hb dX0_tenths_35 rfl (lv_at hl 1 rfl) ?_
          refine lv_iload hx hb dX0_tenths_36 (lv_at hl 0 rfl) ?_
          refine lv_aload_n hx hb dX0_tenths_38 rfl (lv_at hl 2 rfl) ?_
          refine va_get (D := (dC, dI)) (ci := 6) (v := .int (I (8 + x) 0)) (C := RX7) (T := TX7) (N := 2) hx hb hts in_X7 hown hK hP (8 + x) (((wBT ad cI cJ cT htx)).2.1 I J) rfl 1 (by decide) wd_0 (fun _ h9 => h9) rfl dX0_tenths_39 ?_
          obtain ⟨⟨r_3, J_3⟩, hg_3, hf⟩ := bd_some hf
          refine xVi (rest := []) (c_X0_isAbove l dC dI ad cI cJ cT ((v2 + v3) >>> ((1 : Int32) &&& 31)) (I (8 + x) 0) I J hg_3) hfix (cwV 2 hts gX0_tenths_X0_isAbove rfl rfl rfl (by decide +kernel) ⟨Nat.le_of_ble_eq_true rfl, Nat.le_of_ble_eq_true rfl⟩) hK hP hD hS hA (va_recv hK hP (ci := 0) (q0 := 32) rfl (obB_32 ad cI cJ cT I J)) rfl hl.1 rfl (Nat.le_of_ble_eq_true rfl) ⟨Nat.zero_le _, Nat.zero_le _⟩ dX0_tenths_42 (fun H locs hP hD hS => ?_)
          refine lv_if_eq (tgt := 54) hx hb dX0_tenths_45 (by decide) (fun c_4 => ?_) (fun c_4 => ?_)
          · have hf := (if_pos c_4).symm.trans hf
            refine lv_iload hx hb dX0_tenths_54 (lv_at hl 0 rfl) ?_
            refine lv_istore_n (lv' := [(2, .int ((v2 + v3) >>> ((1 : Int32) &&& 31))), (5, .int ((v2 + v3) >>> ((1 : Int32) &&& 31))), (0, .ref (ad 32)), (1, .ref (ad (8 + x))), (3, .int v3), (4, .int v4)]) hx hb dX0_tenths_56 rfl hl (by decide) rfl (fun ls hl => ?_)
            refine lv_iinc (v := (v4 + (1 : Int32))) (lv' := [(4, .int (v4 + (1 : Int32))), (2, .int ((v2 + v3) >>> ((1 : Int32) &&& 31))), (5, .int ((v2 + v3) >>> ((1 : Int32) &&& 31))), (0, .ref (ad 32)), (1, .ref (ad (8 + x))), (3, .int v3)]) hx hb dX0_tenths_57 hl (k := 5) rfl (by first | rfl | decide) (by decide) rfl (fun ls hl => ?_)
            refine lv_goto (tgt := 14) hx hb dX0_tenths_60 (by decide) ?_
            exact ih _ _ _ _ _ _ _ hf hP hD hS (lv_sub hl [3, 4, 1, 5, 0] rfl)
          · have hf := (if_neg c_4).symm.trans hf
            refine lv_iload hx hb dX0_tenths_48 (lv_at hl 0 rfl) ?_
            refine lv_istore_n (lv' := [(3, .int ((v2 + v3) >>> ((1 : Int32) &&& 31))), (5, .int ((v2 + v3) >>> ((1 : Int32) &&& 31))), (0, .ref (ad 32)), (1, .ref (ad (8 + x))), (2, .int v2), (4, .int v4)]) hx hb dX0_tenths_50 rfl hl (by decide) rfl (fun ls hl => ?_)
            refine lv_goto (tgt := 57) hx hb dX0_tenths_51 (by decide) ?_
            refine lv_iinc (v := (v4 + (1 : Int32))) (lv' := [(4, .int (v4 + (1 : Int32))), (3, .int ((v2 + v3) >>> ((1 : Int32) &&& 31))), (5, .int ((v2 + v3) >>> ((1 : Int32) &&& 31))), (0, .ref (ad 32)), (1, .ref (ad (8 + x))), (2, .int v2)]) hx hb dX0_tenths_57 hl (k := 5) rfl (by first | rfl | decide) (by decide) rfl (fun ls hl => ?_)
            refine lv_goto (tgt := 14) hx hb dX0_tenths_60 (by decide) ?_
            exact ih _ _ _ _ _ _ _ hf hP hD hS (lv_sub hl [3, 4, 5, 1, 0] rfl)
  unfold f_X0_tenths at hf
  refine lv_aload_n hx hb dX0_tenths_0 rfl (lv_at hl 0 rfl) ?_
  refine lv_aload_n hx hb dX0_tenths_1 rfl (lv_at hl 1 rfl) ?_
  obtain ⟨I_5, hg_5, hf⟩ := bd_some hf
  refine xVv (rest := []) (c_X0_addUp l dC dI ad cI cJ cT x htx I J hg_5) hfix (cwV 1 hts gX0_tenths_X0_addUp rfl rfl rfl (by decide +kernel) ⟨Nat.le_of_ble_eq_true rfl, Nat.le_of_ble_eq_true rfl⟩) hK hP hD hS hA (va_recv hK hP (ci := 0) (q0 := 32) rfl (obB_32 ad cI cJ cT I J)) rfl hl.1 rfl (Nat.le_of_ble_eq_true rfl) ⟨Nat.zero_le _, Nat.zero_le _⟩ dX0_tenths_2 (fun H locs hP hD hS => ?_)
  refine lv_iconst (v := (0 : Int32)) hx hb dX0_tenths_5 (by decide) ?_
  refine lv_istore_n (lv' := [(2, .int (0 : Int32)), (0, .ref (ad 32)), (1, .ref (ad (8 + x)))]) hx hb dX0_tenths_6 rfl hl (by decide) rfl (fun ls hl => ?_)
  refine lv_sipush (v := (2251 : Int32)) hx hb dX0_tenths_7 (by decide) ?_
  refine lv_istore_n (lv' := [(3, .int (2251 : Int32)), (2, .int (0 : Int32)), (0, .ref (ad 32)), (1, .ref (ad (8 + x)))]) hx hb dX0_tenths_10 rfl hl (by decide) rfl (fun ls hl => ?_)
  refine lv_iconst (v := (0 : Int32)) hx hb dX0_tenths_11 (by decide) ?_
  refine lv_istore (lv' := [(4, .int (0 : Int32)), (3, .int (2251 : Int32)), (2, .int (0 : Int32)), (0, .ref (ad 32)), (1, .ref (ad (8 + x)))]) hx hb dX0_tenths_12 hl (by decide) rfl (fun ls hl => ?_)
  obtain ⟨o_6, hg_6, hf⟩ := bd_some hf
  refine L14 _ I_5 o_6 ?_ FU (0 : Int32) (2251 : Int32) (0 : Int32) J _ _ _ hg_6 hP hD hS (lv_sub hl [3, 4, 2, 1, 0] rfl)
  · intro w2_6 J_6 H locs ls ho hP hD hS hl
    subst o_6
    refine lv_iload_n hx hb dX0_tenths_63 rfl (lv_at hl 0 rfl) ?_
    cases hf
    exact xRi hx hb hr hlocks hK hP hD hS (fun _ h => h) dX0_tenths_64
set_option maxHeartbeats 4000000 in
set_option maxRecDepth 100000 in
theorem c_X1_unitHolds (l : Launch) (dC : Nat → ClassId) (dI : Nat → Nat → Nat) (ad : Nat → Nat) (cI cJ cT : ClassId) (x : Nat) (htx : x < 8) (I : SI) (J : SJ) {r0 : Int32} {I0 : SI} (hf : f_X1_unitHolds x I = some (r0, I0)) : CtI l yX1_unitHolds wsX1_unitHolds ({ frames := 2, cells := 0, slots := 0, locals := 45 } : Room) (dC, dI) (tys3 cI cJ cT) (wB ad cI cJ cT) [.ref (ad 18), .ref (ad (8 + x))] I J r0 I0 J := by
  intro sz
  refine Met.ofW (cc := cX1_unitHolds) (maxL := 5) (ret := (some .boolean)) (by decide) rfl ?_
  intro p e s m args below meth c s₁ B hml hv
  obtain ⟨hargs, hsz, hP, hK, hD0⟩ := hv
  have hx := B.exec
  have hb := B.bytes
  have hr := B.returns
  have hts := atoms_spec (ws := wsX1_unitHolds) B.pre
  have hown : s.vm.findClass RX1 = some m.cls := findClass_of_methodNamed B.named
  have hlocks := B.notSynchronized
  subst hsz
  have hD := hD0.self (sz := s.heap.size)
  generalize hAe : va_A ((wB ad cI cJ cT) I J) s.heap.size = A at hD ⊢
  have hA : ∀ q : Nat, s.heap.size ≤ q → A q := fun q h => by rw [← hAe]; exact Or.inr h
  have hS : va_S A s.heap s.heap [] := va_S.rf
  have hl := lv_entry ([.ref (ad 18), .ref (ad (8 + x))]) (n := 5) (Nat.le_of_ble_eq_true rfl)
  rw [hargs, lg_entry_eq, ← hargs]
  generalize (lg_sl ([.ref (ad 18), .ref (ad (8 + x))]) ++ List.replicate (5 - (lg_sl ([.ref (ad 18), .ref (ad (8 + x))])).length) Slot.unset).toArray = ls at hl ⊢
  have hl : lv_has ls 5 [(0, .ref (ad 18)), (1, .ref (ad (8 + x)))] := hl
  have hfix : CallFix p m c cX1_unitHolds 5 s args wsX1_unitHolds RX1 := ⟨hx, hb, hml, hown, hts⟩
  have in_X7 : ∀ w ∈ u_ws RX7 TX7 2, w ∈ wsX1_unitHolds := by decide +kernel
  have wd_0 := hts (.fieldLink RX1 44 "FuseBench$Table" "kinds" "I") (by decide +kernel)
  have L12 : ∀ (Q : State → Prop) (v2 : Int32) (I : SI) (J : SJ) (o : Nat × Int32), (∀ (w3 : Int32) (H : Heap) (locs : List Loc) (ls : Array Slot), o = (0, w3) → va_P (dC, dI) vwCl ((wB ad cI cJ cT) I J) H → va_D A ((wB ad cI cJ cT) I J) → va_S A s.heap H locs → lv_has ls 5 [(0, .ref (ad 18)), (2, .int v2), (3, .int w3)] → W p l e ({ frames := 2, cells := 0, slots := 0, locals := 45 } : Room) s m args below meth c H locs 0 0 Q (F0 m 56 ls [])) → (∀ (w3 : Int32) (H : Heap) (locs : List Loc) (ls : Array Slot), o = (1, w3) → va_P (dC, dI) vwCl ((wB ad cI cJ cT) I J) H → va_D A ((wB ad cI cJ cT) I J) → va_S A s.heap H locs → lv_has ls 5 [(0, .ref (ad 18)), (1, .ref (ad (8 + x))), (2, .int v2)] → W p l e ({ frames := 2, cells := 0, slots := 0, locals := 45 } : Room) s m args below meth c H locs 0 0 Q (F0 m 72 ls [])) → ∀ (n : Nat) (v3 : Int32) (H : Heap) (locs : List Loc) (ls : Array Slot), lp_X1_unitHolds_12 x v2 I n v3 = some o → va_P (dC, dI) vwCl ((wB ad cI cJ cT) I J) H → va_D A ((wB ad cI cJ cT) I J) → va_S A s.heap H locs → lv_has ls 5 [(0, .ref (ad 18)), (1, .ref (ad (8 + x))), (2, .int v2), (3, .int v3)] → W p l e ({ frames := 2, cells := 0, slots := 0, locals := 45 } : Room) s m args below meth c H locs 0 0 Q (F0 m 12 ls []) := by
    intro Q v2 I J o K0 K1 n
    clear hP hD hS hl
    induction n with
    | zero =>
      intro v3 H locs ls hf
      rw [lp_X1_unitHolds_12.eq_1] at hf
      cases hf
    | succ n ih =>
      intro v3 H locs ls hf hP hD hS hl
      rw [lp_X1_unitHolds_12.eq_2] at hf
      refine lv_iload_n hx hb dX1_unitHolds_12 rfl (lv_at hl 3 rfl) ?_
      refine lv_aload_n hx hb dX1_unitHolds_13 rfl (lv_at hl 1 rfl) ?_
      refine va_get (D := (dC, dI)) (ci := 6) (v := .int (I (8 + x) 0)) (C := RX7) (T := TX7) (N := 2) hx hb hts in_X7 hown hK hP (8 + x) (((wBT ad cI cJ cT htx)).2.1 I J) rfl 1 (by decide) wd_0 (fun _ h9 => h9) rfl dX1_unitHolds_14 ?_
      refine lv_icmp_ge (tgt := 72) hx hb dX1_unitHolds_17 (by decide) (fun c_1 => ?_) (fun c_1 => ?_)
      · have hf := (if_pos c_1).symm.trans hf
        exact K1 _ _ _ _ (Option.some.inj hf).symm hP hD hS (lv_sub hl [0, 1, 2] rfl)
      · have hf := (if_neg c_1).symm.trans hf
        refine lv_iload_n hx hb dX1_unitHolds_20 rfl (lv_at hl 2 rfl) ?_
        refine lv_iload_n hx hb dX1_unitHolds_21 rfl (lv_at hl 3 rfl) ?_
        refine lv_icmp_ne (tgt := 29) hx hb dX1_unitHolds_22 (by decide) (fun c_2 => ?_) (fun c_2 => ?_)
        · have hf := (if_neg c_2).symm.trans hf
          refine lv_iconst (v := (0 : Int32)) hx hb dX1_unitHolds_29 (by decide) ?_
          refine lv_istore (lv' := [(4, .int (0 : Int32)), (0, .ref (ad 18)), (1, .ref (ad (8 + x))), (2, .int v2), (3, .int v3)]) hx hb dX1_unitHolds_30 hl (by decide) rfl (fun ls hl => ?_)
          refine lv_aload_n hx hb dX1_unitHolds_32 rfl (lv_at hl 2 rfl) ?_
          refine lv_iconst (v := (0 : Int32)) hx hb dX1_unitHolds_33 (by decide) ?_
          refine lv_iload_n hx hb dX1_unitHolds_34 rfl (lv_at hl 3 rfl) ?_
          refine lv_iload_n hx hb dX1_unitHolds_35 rfl (lv_at hl 4 rfl) ?_
          obtain ⟨r_3, hg_3, hf⟩ := bd_some hf
          refine xVi (rest := []) (c_X7_number l dC dI ad cI cJ cT (wB ad cI cJ cT) (fun k => k) x (wBT ad cI cJ cT htx) (0 : Int32) v2 v3 I J hg_3) hfix (cwV 3 hts gX1_unitHolds_X7_number rfl rfl rfl (by decide +kernel) ⟨Nat.le_of_ble_eq_true rfl, Nat.le_of_ble_eq_true rfl⟩) hK hP hD hS hA (va_recv hK hP (ci := 6) (q0 := (8 + x)) rfl (((wBT ad cI cJ cT htx)).2.1 I J)) rfl hl.1 rfl (Nat.le_of_ble_eq_true rfl) ⟨Nat.zero_le _, Nat.zero_le _⟩ dX1_unitHolds_36 (fun H locs hP hD hS => ?_)
          refine lv_iload hx hb dX1_unitHolds_39 (lv_at hl 0 rfl) ?_
          refine lv_icmp_ne (tgt := 56) hx hb dX1_unitHolds_41 (by decide) (fun c_4 => ?_) (fun c_4 => ?_)
          · have hf := (if_neg c_4).symm.trans hf
            exact K0 _ _ _ _ (Option.some.inj hf).symm hP hD hS (lv_sub hl [1, 3, 4] rfl)
          · have hf := (if_pos c_4).symm.trans hf
            refine lv_aload_n hx hb dX1_unitHolds_44 rfl (lv_at hl 2 rfl) ?_
            refine lv_iload_n hx hb dX1_unitHolds_45 rfl (lv_at hl 3 rfl) ?_
            refine lv_iconst (v := (0 : Int32)) hx hb dX1_unitHolds_46 (by decide) ?_
            refine lv_iload_n hx hb dX1_unitHolds_47 rfl (lv_at hl 4 rfl) ?_
            obtain ⟨r_5, hg_5, hf⟩ := bd_some hf
            refine xVi (rest := []) (c_X7_number l dC dI ad cI cJ cT (wB ad cI cJ cT) (fun k => k) x (wBT ad cI cJ cT htx) v2 (0 : Int32) v3 I J hg_5) hfix (cwV 3 hts gX1_unitHolds_X7_number rfl rfl rfl (by decide +kernel) ⟨Nat.le_of_ble_eq_true rfl, Nat.le_of_ble_eq_true rfl⟩) hK hP hD hS hA (va_recv hK hP (ci := 6) (q0 := (8 + x)) rfl (((wBT ad cI cJ cT htx)).2.1 I J)) rfl hl.1 rfl (Nat.le_of_ble_eq_true rfl) ⟨Nat.zero_le _, Nat.zero_le _⟩ dX1_unitHolds_48 (fun H locs hP hD hS => ?_)
            refine lv_iload hx hb dX1_unitHolds_51 (lv_at hl 0 rfl) ?_
            refine lv_icmp_eq (tgt := 66) hx hb dX1_unitHolds_53 (by decide) (fun c_6 => ?_) (fun c_6 => ?_)
            · have hf := (if_pos c_6).symm.trans hf
              refine lv_iinc (v := (v3 + (1 : Int32))) (lv' := [(3, .int (v3 + (1 : Int32))), (4, .int (0 : Int32)), (0, .ref (ad 18)), (1, .ref (ad (8 + x))), (2, .int v2)]) hx hb dX1_unitHolds_66 hl (k := 4) rfl (by first | rfl | decide) (by decide) rfl (fun ls hl => ?_)
              refine lv_goto (tgt := 12) hx hb dX1_unitHolds_69 (by decide) ?_
              exact ih _ _ _ _ hf hP hD hS (lv_sub hl [2, 3, 4, 0] rfl)
            · have hf := (if_neg c_6).symm.trans hf
              exact K0 _ _ _ _ (Option.some.inj hf).symm hP hD hS (lv_sub hl [1, 3, 4] rfl)
        · have hf := (if_pos c_2).symm.trans hf
          refine lv_iconst (v := (1 : Int32)) hx hb dX1_unitHolds_25 (by decide) ?_
          refine lv_goto (tgt := 30) hx hb dX1_unitHolds_26 (by decide) ?_
          refine lv_istore (lv' := [(4, .int (1 : Int32)), (0, .ref (ad 18)), (1, .ref (ad (8 + x))), (2, .int v2), (3, .int v3)]) hx hb dX1_unitHolds_30 hl (by decide) rfl (fun ls hl => ?_)
          refine lv_aload_n hx hb dX1_unitHolds_32 rfl (lv_at hl 2 rfl) ?_
          refine lv_iconst (v := (0 : Int32)) hx hb dX1_unitHolds_33 (by decide) ?_
          refine lv_iload_n hx hb dX1_unitHolds_34 rfl (lv_at hl 3 rfl) ?_
          refine lv_iload_n hx hb dX1_unitHolds_35 rfl (lv_at hl 4 rfl) ?_
          obtain ⟨r_7, hg_7, hf⟩ := bd_some hf
          refine xVi (rest := []) (c_X7_number l dC dI ad cI cJ cT (wB ad cI cJ cT) (fun k => k) x (wBT ad cI cJ cT htx) (0 : Int32) v2 v3 I J hg_7) hfix (cwV 3 hts gX1_unitHolds_X7_number rfl rfl rfl (by decide +kernel) ⟨Nat.le_of_ble_eq_true rfl, Nat.le_of_ble_eq_true rfl⟩) hK hP hD hS hA (va_recv hK hP (ci := 6) (q0 := (8 + x)) rfl (((wBT ad cI cJ cT htx)).2.1 I J)) rfl hl.1 rfl (Nat.le_of_ble_eq_true rfl) ⟨Nat.zero_le _, Nat.zero_le _⟩ dX1_unitHolds_36 (fun H locs hP hD hS => ?_)
          refine lv_iload hx hb dX1_unitHolds_39 (lv_at hl 0 rfl) ?_
          refine lv_icmp_ne (tgt := 56) hx hb dX1_unitHolds_41 (by decide) (fun c_8 => ?_) (fun c_8 => ?_)
          · have hf := (if_neg c_8).symm.trans hf
            exact K0 _ _ _ _ (Option.some.inj hf).symm hP hD hS (lv_sub hl [1, 3, 4] rfl)
          · have hf := (if_pos c_8).symm.trans hf
            refine lv_aload_n hx hb dX1_unitHolds_44 rfl (lv_at hl 2 rfl) ?_
            refine lv_iload_n hx hb dX1_unitHolds_45 rfl (lv_at hl 3 rfl) ?_
            refine lv_iconst (v := (0 : Int32)) hx hb dX1_unitHolds_46 (by decide) ?_
            refine lv_iload_n hx hb dX1_unitHolds_47 rfl (lv_at hl 4 rfl) ?_
            obtain ⟨r_9, hg_9, hf⟩ := bd_some hf
            refine xVi (rest := []) (c_X7_number l dC dI ad cI cJ cT (wB ad cI cJ cT) (fun k => k) x (wBT ad cI cJ cT htx) v2 (0 : Int32) v3 I J hg_9) hfix (cwV 3 hts gX1_unitHolds_X7_number rfl rfl rfl (by decide +kernel) ⟨Nat.le_of_ble_eq_true rfl, Nat.le_of_ble_eq_true rfl⟩) hK hP hD hS hA (va_recv hK hP (ci := 6) (q0 := (8 + x)) rfl (((wBT ad cI cJ cT htx)).2.1 I J)) rfl hl.1 rfl (Nat.le_of_ble_eq_true rfl) ⟨Nat.zero_le _, Nat.zero_le _⟩ dX1_unitHolds_48 (fun H locs hP hD hS => ?_)
            refine lv_iload hx hb dX1_unitHolds_51 (lv_at hl 0 rfl) ?_
            refine lv_icmp_eq (tgt := 66) hx hb dX1_unitHolds_53 (by decide) (fun c_10 => ?_) (fun c_10 => ?_)
            · have hf := (if_pos c_10).symm.trans hf
              refine lv_iinc (v := (v3 + (1 : Int32))) (lv' := [(3, .int (v3 + (1 : Int32))), (4, .int (1 : Int32)), (0, .ref (ad 18)), (1, .ref (ad (8 + x))), (2, .int v2)]) hx hb dX1_unitHolds_66 hl (k := 4) rfl (by first | rfl | decide) (by decide) rfl (fun ls hl => ?_)
              refine lv_goto (tgt := 12) hx hb dX1_unitHolds_69 (by decide) ?_
              exact ih _ _ _ _ hf hP hD hS (lv_sub hl [2, 3, 4, 0] rfl)
            · have hf := (if_neg c_10).symm.trans hf
              exact K0 _ _ _ _ (Option.some.inj hf).symm hP hD hS (lv_sub hl [1, 3, 4] rfl)
  have L2 : ∀ (Q : State → Prop)  (I : SI) (J : SJ) (o : Nat × Int32 × Int32), (∀ (w2 : Int32) (w3 : Int32) (H : Heap) (locs : List Loc) (ls : Array Slot), o = (0, w2, w3) → va_P (dC, dI) vwCl ((wB ad cI cJ cT) I J) H → va_D A ((wB ad cI cJ cT) I J) → va_S A s.heap H locs → lv_has ls 5 [(0, .ref (ad 18)), (2, .int w2), (3, .int w3)] → W p l e ({ frames := 2, cells := 0, slots := 0, locals := 45 } : Room) s m args below meth c H locs 0 0 Q (F0 m 56 ls [])) → (∀ (w2 : Int32) (w3 : Int32) (H : Heap) (locs : List Loc) (ls : Array Slot), o = (1, w2, w3) → va_P (dC, dI) vwCl ((wB ad cI cJ cT) I J) H → va_D A ((wB ad cI cJ cT) I J) → va_S A s.heap H locs → lv_has ls 5 [] → W p l e ({ frames := 2, cells := 0, slots := 0, locals := 45 } : Room) s m args below meth c H locs 0 0 Q (F0 m 78 ls [])) → ∀ (n : Nat) (v2 : Int32) (H : Heap) (locs : List Loc) (ls : Array Slot), lp_X1_unitHolds_2 x I n v2 = some o → va_P (dC, dI) vwCl ((wB ad cI cJ cT) I J) H → va_D A ((wB ad cI cJ cT) I J) → va_S A s.heap H locs → lv_has ls 5 [(0, .ref (ad 18)), (1, .ref (ad (8 + x))), (2, .int v2)] → W p l e ({ frames := 2, cells := 0, slots := 0, locals := 45 } : Room) s m args below meth c H locs 0 0 Q (F0 m 2 ls []) := by
    intro Q  I J o K0 K1 n
    clear hP hD hS hl
    induction n with
    | zero =>
      intro v2 H locs ls hf
      rw [lp_X1_unitHolds_2.eq_1] at hf
      cases hf
    | succ n ih =>
      intro v2 H locs ls hf hP hD hS hl
      rw [lp_X1_unitHolds_2.eq_2] at hf
      refine lv_iload_n hx hb dX1_unitHolds_2 rfl (lv_at hl 2 rfl) ?_
      refine lv_aload_n hx hb dX1_unitHolds_3 rfl (lv_at hl 1 rfl) ?_
      refine va_get (D := (dC, dI)) (ci := 6) (v := .int (I (8 + x) 0)) (C := RX7) (T := TX7) (N := 2) hx hb hts in_X7 hown hK hP (8 + x) (((wBT ad cI cJ cT htx)).2.1 I J) rfl 1 (by decide) wd_0 (fun _ h9 => h9) rfl dX1_unitHolds_4 ?_
      refine lv_icmp_ge (tgt := 78) hx hb dX1_unitHolds_7 (by decide) (fun c_11 => ?_) (fun c_11 => ?_)
      · have hf := (if_pos c_11).symm.trans hf
        exact K1 _ _ _ _ _ (Option.some.inj hf).symm hP hD hS (lv_sub hl [] rfl)
      · have hf := (if_neg c_11).symm.trans hf
        refine lv_iconst (v := (0 : Int32)) hx hb dX1_unitHolds_10 (by decide) ?_
        refine lv_istore_n (lv' := [(3, .int (0 : Int32)), (0, .ref (ad 18)), (1, .ref (ad (8 + x))), (2, .int v2)]) hx hb dX1_unitHolds_11 rfl hl (by decide) rfl (fun ls hl => ?_)
        obtain ⟨o_12, hg_12, hf⟩ := bd_some hf
        refine L12 _ v2 I J o_12 ?_ ?_ FU (0 : Int32) _ _ _ hg_12 hP hD hS (lv_sub hl [1, 2, 3, 0] rfl)
        · intro w3_12 H locs ls ho hP hD hS hl
          subst o_12
          have hf := (if_pos (show 0 = 0 from rfl)).symm.trans hf
          exact K0 _ _ _ _ _ (Option.some.inj hf).symm hP hD hS (lv_sub hl [0, 1, 2] rfl)
        · intro w3_12 H locs ls ho hP hD hS hl
          subst o_12
          have hf := (if_neg (show ¬ (1 = 0) by decide)).symm.trans hf
          refine lv_iinc (v := (v2 + (1 : Int32))) (lv' := [(2, .int (v2 + (1 : Int32))), (0, .ref (ad 18)), (1, .ref (ad (8 + x)))]) hx hb dX1_unitHolds_72 hl (k := 2) rfl (by first | rfl | decide) (by decide) rfl (fun ls hl => ?_)
          refine lv_goto (tgt := 2) hx hb dX1_unitHolds_75 (by decide) ?_
          exact ih _ _ _ _ hf hP hD hS (lv_sub hl [1, 2, 0] rfl)
  unfold f_X1_unitHolds at hf
  refine lv_iconst (v := (0 : Int32)) hx hb dX1_unitHolds_0 (by decide) ?_
  refine lv_istore_n (lv' := [(2, .int (0 : Int32)), (0, .ref (ad 18)), (1, .ref (ad (8 + x)))]) hx hb dX1_unitHolds_1 rfl hl (by decide) rfl (fun ls hl => ?_)
  obtain ⟨o_13, hg_13, hf⟩ := bd_some hf
  refine L2 _ I J o_13 ?_ ?_ FU (0 : Int32) _ _ _ hg_13 hP hD hS (lv_sub hl [1, 2, 0] rfl)
  · intro w2_13 w3_13 H locs ls ho hP hD hS hl
    subst o_13
    have hf := (if_pos (show 0 = 0 from rfl)).symm.trans hf
    refine lv_aload_n hx hb dX1_unitHolds_56 rfl (lv_at hl 0 rfl) ?_
    refine lv_iconst (v := (1 : Int32)) hx hb dX1_unitHolds_57 (by decide) ?_
    refine lv_iload_n hx hb dX1_unitHolds_58 rfl (lv_at hl 1 rfl) ?_
    refine lv_iload_n hx hb dX1_unitHolds_59 rfl (lv_at hl 2 rfl) ?_
    refine lv_iconst (v := (-1 : Int32)) hx hb dX1_unitHolds_60 (by decide) ?_
    refine lv_iconst (v := (-1 : Int32)) hx hb dX1_unitHolds_61 (by decide) ?_
    obtain ⟨⟨r_14, I_14⟩, hg_14, hf⟩ := bd_some hf
    refine xVi (rest := []) (c_X1_breaks_18 l dC dI ad cI cJ cT (1 : Int32) w2_13 w3_13 (-1 : Int32) (-1 : Int32) I J hg_14) hfix (cwV 5 hts gX1_unitHolds_X1_breaks rfl rfl rfl (by decide +kernel) ⟨Nat.le_of_ble_eq_true rfl, Nat.le_of_ble_eq_true rfl⟩) hK hP hD hS hA (va_recv hK hP (ci := 1) (q0 := 18) rfl (obB_18 ad cI cJ cT I J)) rfl hl.1 rfl (Nat.le_of_ble_eq_true rfl) ⟨Nat.zero_le _, Nat.zero_le _⟩ dX1_unitHolds_62 (fun H locs hP hD hS => ?_)
    obtain ⟨h_15, hf⟩ := gd_some hf
    cases hf
    exact xRz hx hb hr hlocks (nz h_15) hK hP hD hS (fun _ h => h) dX1_unitHolds_65
  · intro w2_13 w3_13 H locs ls ho hP hD hS hl
    subst o_13
    have hf := (if_neg (show ¬ (1 = 0) by decide)).symm.trans hf
    refine lv_iconst (v := (1 : Int32)) hx hb dX1_unitHolds_78 (by decide) ?_
    cases hf
    exact xRz hx hb hr hlocks rfl hK hP hD hS (fun _ h => h) dX1_unitHolds_79
set_option maxHeartbeats 4000000 in
set_option maxRecDepth 100000 in
theorem c_X1_eitherWayHolds (l : Launch) (dC : Nat → ClassId) (dI : Nat → Nat → Nat) (ad : Nat → Nat) (cI cJ cT : ClassId) (x : Nat) (htx : x < 8) (I : SI) (J : SJ) {r0 : Int32} {I0 : SI} (hf : f_X1_eitherWayHolds x I = some (r0, I0)) : CtI l yX1_eitherWayHolds wsX1_eitherWayHolds ({ frames := 2, cells := 0, slots := 0, locals := 45 } : Room) (dC, dI) (tys3 cI cJ cT) (wB ad cI cJ cT) [.ref (ad 18), .ref (ad (8 + x))] I J r0 I0 J := by
  intro sz
  refine Met.ofW (cc := cX1_eitherWayHolds) (maxL := 5) (ret := (some .boolean)) (by decide) rfl ?_
  intro p e s m args below meth c s₁ B hml hv
  obtain ⟨hargs, hsz, hP, hK, hD0⟩ := hv
  have hx := B.exec
  have hb := B.bytes
  have hr := B.returns
  have hts := atoms_spec (ws := wsX1_eitherWayHolds) B.pre
  have hown : s.vm.findClass RX1 = some m.cls := findClass_of_methodNamed B.named
  have hlocks := B.notSynchronized
  subst hsz
  have hD := hD0.self (sz := s.heap.size)
  generalize hAe : va_A ((wB ad cI cJ cT) I J) s.heap.size = A at hD ⊢
  have hA : ∀ q : Nat, s.heap.size ≤ q → A q := fun q h => by rw [← hAe]; exact Or.inr h
  have hS : va_S A s.heap s.heap [] := va_S.rf
  have hl := lv_entry ([.ref (ad 18), .ref (ad (8 + x))]) (n := 5) (Nat.le_of_ble_eq_true rfl)
  rw [hargs, lg_entry_eq, ← hargs]
  generalize (lg_sl ([.ref (ad 18), .ref (ad (8 + x))]) ++ List.replicate (5 - (lg_sl ([.ref (ad 18), .ref (ad (8 + x))])).length) Slot.unset).toArray = ls at hl ⊢
  have hl : lv_has ls 5 [(0, .ref (ad 18)), (1, .ref (ad (8 + x)))] := hl
  have hfix : CallFix p m c cX1_eitherWayHolds 5 s args wsX1_eitherWayHolds RX1 := ⟨hx, hb, hml, hown, hts⟩
  have in_X7 : ∀ w ∈ u_ws RX7 TX7 2, w ∈ wsX1_eitherWayHolds := by decide +kernel
  have wd_0 := hts (.fieldLink RX1 44 "FuseBench$Table" "kinds" "I") (by decide +kernel)
  have L23 : ∀ (Q : State → Prop) (v2 : Int32) (v3 : Int32) (I : SI) (J : SJ) (o : Nat × Int32), (∀ (w4 : Int32) (H : Heap) (locs : List Loc) (ls : Array Slot), o = (0, w4) → va_P (dC, dI) vwCl ((wB ad cI cJ cT) I J) H → va_D A ((wB ad cI cJ cT) I J) → va_S A s.heap H locs → lv_has ls 5 [(0, .ref (ad 18)), (2, .int v2), (3, .int v3), (4, .int w4)] → W p l e ({ frames := 2, cells := 0, slots := 0, locals := 45 } : Room) s m args below meth c H locs 0 0 Q (F0 m 51 ls [])) → (∀ (w4 : Int32) (H : Heap) (locs : List Loc) (ls : Array Slot), o = (1, w4) → va_P (dC, dI) vwCl ((wB ad cI cJ cT) I J) H → va_D A ((wB ad cI cJ cT) I J) → va_S A s.heap H locs → lv_has ls 5 [(0, .ref (ad 18)), (1, .ref (ad (8 + x))), (2, .int v2), (3, .int v3)] → W p l e ({ frames := 2, cells := 0, slots := 0, locals := 45 } : Room) s m args below meth c H locs 0 0 Q (F0 m 68 ls [])) → ∀ (n : Nat) (v4 : Int32) (H : Heap) (locs : List Loc) (ls : Array Slot), lp_X1_eitherWayHolds_23 x v2 v3 I n v4 = some o → va_P (dC, dI) vwCl ((wB ad cI cJ cT) I J) H → va_D A ((wB ad cI cJ cT) I J) → va_S A s.heap H locs → lv_has ls 5 [(0, .ref (ad 18)), (1, .ref (ad (8 + x))), (2, .int v2), (3, .int v3), (4, .int v4)] → W p l e ({ frames := 2, cells := 0, slots := 0, locals := 45 } : Room) s m args below meth c H locs 0 0 Q (F0 m 23 ls []) := by
    intro Q v2 v3 I J o K0 K1 n
    clear hP hD hS hl
    induction n with
    | zero =>
      intro v4 H locs ls hf
      rw [lp_X1_eitherWayHolds_23.eq_1] at hf
      cases hf
    | succ n ih =>
      intro v4 H locs ls hf hP hD hS hl
      rw [lp_X1_eitherWayHolds_23.eq_2] at hf
      refine lv_iload hx hb dX1_eitherWayHolds_23 (lv_at hl 4 rfl) ?_
      refine lv_aload_n hx hb dX1_eitherWayHolds_25 rfl (lv_at hl 1 rfl) ?_
      refine va_get (D := (dC, dI)) (ci := 6) (v := .int (I (8 + x) 0)) (C := RX7) (T := TX7) (N := 2) hx hb hts in_X7 hown hK hP (8 + x) (((wBT ad cI cJ cT htx)).2.1 I J) rfl 1 (by decide) wd_0 (fun _ h9 => h9) rfl dX1_eitherWayHolds_26 ?_
      refine lv_icmp_ge (tgt := 68) hx hb dX1_eitherWayHolds_29 (by decide) (fun c_1 => ?_) (fun c_1 => ?_)
      · have hf := (if_pos c_1).symm.trans hf
        exact K1 _ _ _ _ (Option.some.inj hf).symm hP hD hS (lv_sub hl [0, 1, 2, 3] rfl)
      · have hf := (if_neg c_1).symm.trans hf
        refine lv_aload_n hx hb dX1_eitherWayHolds_32 rfl (lv_at hl 1 rfl) ?_
        refine lv_iload_n hx hb dX1_eitherWayHolds_33 rfl (lv_at hl 2 rfl) ?_
        refine lv_iload_n hx hb dX1_eitherWayHolds_34 rfl (lv_at hl 3 rfl) ?_
        refine lv_iload hx hb dX1_eitherWayHolds_35 (lv_at hl 4 rfl) ?_
        obtain ⟨r_2, hg_2, hf⟩ := bd_some hf
        refine xVi (rest := []) (c_X7_number l dC dI ad cI cJ cT (wB ad cI cJ cT) (fun k => k) x (wBT ad cI cJ cT htx) v2 v3 v4 I J hg_2) hfix (cwV 3 hts gX1_eitherWayHolds_X7_number rfl rfl rfl (by decide +kernel) ⟨Nat.le_of_ble_eq_true rfl, Nat.le_of_ble_eq_true rfl⟩) hK hP hD hS hA (va_recv hK hP (ci := 6) (q0 := (8 + x)) rfl (((wBT ad cI cJ cT htx)).2.1 I J)) rfl hl.1 rfl (Nat.le_of_ble_eq_true rfl) ⟨Nat.zero_le _, Nat.zero_le _⟩ dX1_eitherWayHolds_37 (fun H locs hP hD hS => ?_)
        refine lv_aload_n hx hb dX1_eitherWayHolds_40 rfl (lv_at hl 1 rfl) ?_
        refine lv_iload_n hx hb dX1_eitherWayHolds_41 rfl (lv_at hl 3 rfl) ?_
        refine lv_iload_n hx hb dX1_eitherWayHolds_42 rfl (lv_at hl 2 rfl) ?_
        refine lv_iload hx hb dX1_eitherWayHolds_43 (lv_at hl 4 rfl) ?_
        obtain ⟨r_3, hg_3, hf⟩ := bd_some hf
        refine xVi (rest := [.int r_2]) (c_X7_number l dC dI ad cI cJ cT (wB ad cI cJ cT) (fun k => k) x (wBT ad cI cJ cT htx) v3 v2 v4 I J hg_3) hfix (cwV 3 hts gX1_eitherWayHolds_X7_number rfl rfl rfl (by decide +kernel) ⟨Nat.le_of_ble_eq_true rfl, Nat.le_of_ble_eq_true rfl⟩) hK hP hD hS hA (va_recv hK hP (ci := 6) (q0 := (8 + x)) rfl (((wBT ad cI cJ cT htx)).2.1 I J)) rfl hl.1 rfl (Nat.le_of_ble_eq_true rfl) ⟨Nat.zero_le _, Nat.zero_le _⟩ dX1_eitherWayHolds_45 (fun H locs hP hD hS => ?_)
        refine lv_icmp_eq (tgt := 62) hx hb dX1_eitherWayHolds_48 (by decide) (fun c_4 => ?_) (fun c_4 => ?_)
        · have hf := (if_pos c_4).symm.trans hf
          refine lv_iinc (v := (v4 + (1 : Int32))) (lv' := [(4, .int (v4 + (1 : Int32))), (0, .ref (ad 18)), (1, .ref (ad (8 + x))), (2, .int v2), (3, .int v3)]) hx hb dX1_eitherWayHolds_62 hl (k := 4) rfl (by first | rfl | decide) (by decide) rfl (fun ls hl => ?_)
          refine lv_goto (tgt := 23) hx hb dX1_eitherWayHolds_65 (by decide) ?_
          exact ih _ _ _ _ hf hP hD hS (lv_sub hl [1, 2, 3, 4, 0] rfl)
        · have hf := (if_neg c_4).symm.trans hf
          exact K0 _ _ _ _ (Option.some.inj hf).symm hP hD hS (lv_sub hl [0, 2, 3, 4] rfl)
  have L12 : ∀ (Q : State → Prop) (v2 : Int32) (I : SI) (J : SJ) (o : Nat × Int32 × Int32), (∀ (w3 : Int32) (w4 : Int32) (H : Heap) (locs : List Loc) (ls : Array Slot), o = (0, w3, w4) → va_P (dC, dI) vwCl ((wB ad cI cJ cT) I J) H → va_D A ((wB ad cI cJ cT) I J) → va_S A s.heap H locs → lv_has ls 5 [(0, .ref (ad 18)), (2, .int v2), (3, .int w3), (4, .int w4)] → W p l e ({ frames := 2, cells := 0, slots := 0, locals := 45 } : Room) s m args below meth c H locs 0 0 Q (F0 m 51 ls [])) → (∀ (w3 : Int32) (w4 : Int32) (H : Heap) (locs : List Loc) (ls : Array Slot), o = (1, w3, w4) → va_P (dC, dI) vwCl ((wB ad cI cJ cT) I J) H → va_D A ((wB ad cI cJ cT) I J) → va_S A s.heap H locs → lv_has ls 5 [(0, .ref (ad 18)), (1, .ref (ad (8 + x))), (2, .int v2)] → W p l e ({ frames := 2, cells := 0, slots := 0, locals := 45 } : Room) s m args below meth c H locs 0 0 Q (F0 m 74 ls [])) → ∀ (n : Nat) (v3 : Int32) (H : Heap) (locs : List Loc) (ls : Array Slot), lp_X1_eitherWayHolds_12 x v2 I n v3 = some o → va_P (dC, dI) vwCl ((wB ad cI cJ cT) I J) H → va_D A ((wB ad cI cJ cT) I J) → va_S A s.heap H locs → lv_has ls 5 [(0, .ref (ad 18)), (1, .ref (ad (8 + x))), (2, .int v2), (3, .int v3)] → W p l e ({ frames := 2, cells := 0, slots := 0, locals := 45 } : Room) s m args below meth c H locs 0 0 Q (F0 m 12 ls []) := by
    intro Q v2 I J o K0 K1 n
    clear hP hD hS hl
    induction n with
    | zero =>
      intro v3 H locs ls hf
      rw [lp_X1_eitherWayHolds_12.eq_1] at hf
      cases hf
    | succ n ih =>
      intro v3 H locs ls hf hP hD hS hl
      rw [lp_X1_eitherWayHolds_12.eq_2] at hf
      refine lv_iload_n hx hb dX1_eitherWayHolds_12 rfl (lv_at hl 3 rfl) ?_
      refine lv_aload_n hx hb dX1_eitherWayHolds_13 rfl (lv_at hl 1 rfl) ?_
      refine va_get (D := (dC, dI)) (ci := 6) (v := .int (I (8 + x) 0)) (C := RX7) (T := TX7) (N := 2) hx hb hts in_X7 hown hK hP (8 + x) (((wBT ad cI cJ cT htx)).2.1 I J) rfl 1 (by decide) wd_0 (fun _ h9 => h9) rfl dX1_eitherWayHolds_14 ?_
      refine lv_icmp_ge (tgt := 74) hx hb dX1_eitherWayHolds_17 (by decide) (fun c_5 => ?_) (fun c_5 => ?_)
      · have hf := (if_pos c_5).symm.trans hf
        exact K1 _ _ _ _ _ (Option.some.inj hf).symm hP hD hS (lv_sub hl [0, 1, 2] rfl)
      · have hf := (if_neg c_5).symm.trans hf
        refine lv_iconst (v := (0 : Int32)) hx hb dX1_eitherWayHolds_20 (by decide) ?_
        refine lv_istore (lv' := [(4, .int (0 : Int32)), (0, .ref (ad 18)), (1, .ref (ad (8 + x))), (2, .int v2), (3, .int v3)]) hx hb dX1_eitherWayHolds_21 hl (by decide) rfl (fun ls hl => ?_)
        obtain ⟨o_6, hg_6, hf⟩ := bd_some hf
        refine L23 _ v2 v3 I J o_6 ?_ ?_ FU (0 : Int32) _ _ _ hg_6 hP hD hS (lv_sub hl [1, 2, 3, 4, 0] rfl)
        · intro w4_6 H locs ls ho hP hD hS hl
          subst o_6
          have hf := (if_pos (show 0 = 0 from rfl)).symm.trans hf
          exact K0 _ _ _ _ _ (Option.some.inj hf).symm hP hD hS (lv_sub hl [0, 1, 2, 3] rfl)
        · intro w4_6 H locs ls ho hP hD hS hl
          subst o_6
          have hf := (if_neg (show ¬ (1 = 0) by decide)).symm.trans hf
          refine lv_iinc (v := (v3 + (1 : Int32))) (lv' := [(3, .int (v3 + (1 : Int32))), (0, .ref (ad 18)), (1, .ref (ad (8 + x))), (2, .int v2)]) hx hb dX1_eitherWayHolds_68 hl (k := 3) rfl (by first | rfl | decide) (by decide) rfl (fun ls hl => ?_)
          refine lv_goto (tgt := 12) hx hb dX1_eitherWayHolds_71 (by decide) ?_
          exact ih _ _ _ _ hf hP hD hS (lv_sub hl [1, 2, 3, 0] rfl)
  have L2 : ∀ (Q : State → Prop)  (I : SI) (J : SJ) (o : Nat × Int32 × Int32 × Int32), (∀ (w2 : Int32) (w3 : Int32) (w4 : Int32) (H : Heap) (locs : List Loc) (ls : Array Slot), o = (0, w2, w3, w4) → va_P (dC, dI) vwCl ((wB ad cI cJ cT) I J) H → va_D A ((wB ad cI cJ cT) I J) → va_S A s.heap H locs → lv_has ls 5 [(0, .ref (ad 18)), (2, .int w2), (3, .int w3), (4, .int w4)] → W p l e ({ frames := 2, cells := 0, slots := 0, locals := 45 } : Room) s m args below meth c H locs 0 0 Q (F0 m 51 ls [])) → (∀ (w2 : Int32) (w3 : Int32) (w4 : Int32) (H : Heap) (locs : List Loc) (ls : Array Slot), o = (1, w2, w3, w4) → va_P (dC, dI) vwCl ((wB ad cI cJ cT) I J) H → va_D A ((wB ad cI cJ cT) I J) → va_S A s.heap H locs → lv_has ls 5 [] → W p l e ({ frames := 2, cells := 0, slots := 0, locals := 45 } : Room) s m args below meth c H locs 0 0 Q (F0 m 80 ls [])) → ∀ (n : Nat) (v2 : Int32) (H : Heap) (locs : List Loc) (ls : Array Slot), lp_X1_eitherWayHolds_2 x I n v2 = some o → va_P (dC, dI) vwCl ((wB ad cI cJ cT) I J) H → va_D A ((wB ad cI cJ cT) I J) → va_S A s.heap H locs → lv_has ls 5 [(0, .ref (ad 18)), (1, .ref (ad (8 + x))), (2, .int v2)] → W p l e ({ frames := 2, cells := 0, slots := 0, locals := 45 } : Room) s m args below meth c H locs 0 0 Q (F0 m 2 ls []) := by
    intro Q  I J o K0 K1 n
    clear hP hD hS hl
    induction n with
    | zero =>
      intro v2 H locs ls hf
      rw [lp_X1_eitherWayHolds_2.eq_1] at hf
      cases hf
    | succ n ih =>
      intro v2 H locs ls hf hP hD hS hl
      rw [lp_X1_eitherWayHolds_2.eq_2] at hf
      refine lv_iload_n hx hb dX1_eitherWayHolds_2 rfl (lv_at hl 2 rfl) ?_
      refine lv_aload_n hx hb dX1_eitherWayHolds_3 rfl (lv_at hl 1 rfl) ?_
      refine va_get (D := (dC, dI)) (ci := 6) (v := .int (I (8 + x) 0)) (C := RX7) (T := TX7) (N := 2) hx hb hts in_X7 hown hK hP (8 + x) (((wBT ad cI cJ cT htx)).2.1 I J) rfl 1 (by decide) wd_0 (fun _ h9 => h9) rfl dX1_eitherWayHolds_4 ?_
      refine lv_icmp_ge (tgt := 80) hx hb dX1_eitherWayHolds_7 (by decide) (fun c_7 => ?_) (fun c_7 => ?_)
      · have hf := (if_pos c_7).symm.trans hf
        exact K1 _ _ _ _ _ _ (Option.some.inj hf).symm hP hD hS (lv_sub hl [] rfl)
      · have hf := (if_neg c_7).symm.trans hf
        refine lv_iconst (v := (0 : Int32)) hx hb dX1_eitherWayHolds_10 (by decide) ?_
        refine lv_istore_n (lv' := [(3, .int (0 : Int32)), (0, .ref (ad 18)), (1, .ref (ad (8 + x))), (2, .int v2)]) hx hb dX1_eitherWayHolds_11 rfl hl (by decide) rfl (fun ls hl => ?_)
        obtain ⟨o_8, hg_8, hf⟩ := bd_some hf
        refine L12 _ v2 I J o_8 ?_ ?_ FU (0 : Int32) _ _ _ hg_8 hP hD hS (lv_sub hl [1, 2, 3, 0] rfl)
        · intro w3_8 w4_8 H locs ls ho hP hD hS hl
          subst o_8
          have hf := (if_pos (show 0 = 0 from rfl)).symm.trans hf
          exact K0 _ _ _ _ _ _ (Option.some.inj hf).symm hP hD hS (lv_sub hl [0, 1, 2, 3] rfl)
        · intro w3_8 w4_8 H locs ls ho hP hD hS hl
          subst o_8
          have hf := (if_neg (show ¬ (1 = 0) by decide)).symm.trans hf
          refine lv_iinc (v := (v2 + (1 : Int32))) (lv' := [(2, .int (v2 + (1 : Int32))), (0, .ref (ad 18)), (1, .ref (ad (8 + x)))]) hx hb dX1_eitherWayHolds_74 hl (k := 2) rfl (by first | rfl | decide) (by decide) rfl (fun ls hl => ?_)
          refine lv_goto (tgt := 2) hx hb dX1_eitherWayHolds_77 (by decide) ?_
          exact ih _ _ _ _ hf hP hD hS (lv_sub hl [1, 2, 0] rfl)
  unfold f_X1_eitherWayHolds at hf
  refine lv_iconst (v := (0 : Int32)) hx hb dX1_eitherWayHolds_0 (by decide) ?_
  refine lv_istore_n (lv' := [(2, .int (0 : Int32)), (0, .ref (ad 18)), (1, .ref (ad (8 + x)))]) hx hb dX1_eitherWayHolds_1 rfl hl (by decide) rfl (fun ls hl => ?_)
  obtain ⟨o_9, hg_9, hf⟩ := bd_some hf
  refine L2 _ I J o_9 ?_ ?_ FU (0 : Int32) _ _ _ hg_9 hP hD hS (lv_sub hl [1, 2, 0] rfl)
  · intro w2_9 w3_9 w4_9 H locs ls ho hP hD hS hl
    subst o_9
    have hf := (if_pos (show 0 = 0 from rfl)).symm.trans hf
    refine lv_aload_n hx hb dX1_eitherWayHolds_51 rfl (lv_at hl 0 rfl) ?_
    refine lv_iconst (v := (2 : Int32)) hx hb dX1_eitherWayHolds_52 (by decide) ?_
    refine lv_iload_n hx hb dX1_eitherWayHolds_53 rfl (lv_at hl 1 rfl) ?_
    refine lv_iload_n hx hb dX1_eitherWayHolds_54 rfl (lv_at hl 2 rfl) ?_
    refine lv_iload hx hb dX1_eitherWayHolds_55 (lv_at hl 3 rfl) ?_
    refine lv_iconst (v := (-1 : Int32)) hx hb dX1_eitherWayHolds_57 (by decide) ?_
    obtain ⟨⟨r_10, I_10⟩, hg_10, hf⟩ := bd_some hf
    refine xVi (rest := []) (c_X1_breaks_18 l dC dI ad cI cJ cT (2 : Int32) w2_9 w3_9 w4_9 (-1 : Int32) I J hg_10) hfix (cwV 5 hts gX1_eitherWayHolds_X1_breaks rfl rfl rfl (by decide +kernel) ⟨Nat.le_of_ble_eq_true rfl, Nat.le_of_ble_eq_true rfl⟩) hK hP hD hS hA (va_recv hK hP (ci := 1) (q0 := 18) rfl (obB_18 ad cI cJ cT I J)) rfl hl.1 rfl (Nat.le_of_ble_eq_true rfl) ⟨Nat.zero_le _, Nat.zero_le _⟩ dX1_eitherWayHolds_58 (fun H locs hP hD hS => ?_)
    obtain ⟨h_11, hf⟩ := gd_some hf
    cases hf
    exact xRz hx hb hr hlocks (nz h_11) hK hP hD hS (fun _ h => h) dX1_eitherWayHolds_61
  · intro w2_9 w3_9 w4_9 H locs ls ho hP hD hS hl
    subst o_9
    have hf := (if_neg (show ¬ (1 = 0) by decide)).symm.trans hf
    refine lv_iconst (v := (1 : Int32)) hx hb dX1_eitherWayHolds_80 (by decide) ?_
    cases hf
    exact xRz hx hb hr hlocks rfl hK hP hD hS (fun _ h => h) dX1_eitherWayHolds_81
set_option maxHeartbeats 4000000 in
set_option maxRecDepth 100000 in
theorem c_X1_partnersHold (l : Launch) (dC : Nat → ClassId) (dI : Nat → Nat → Nat) (ad : Nat → Nat) (cI cJ cT : ClassId) (x : Nat) (htx : x < 8) (I : SI) (J : SJ) {r0 : Int32} {I0 : SI} (hf : f_X1_partnersHold x I = some (r0, I0)) : CtI l yX1_partnersHold wsX1_partnersHold ({ frames := 2, cells := 0, slots := 0, locals := 45 } : Room) (dC, dI) (tys3 cI cJ cT) (wB ad cI cJ cT) [.ref (ad 18), .ref (ad (8 + x))] I J r0 I0 J := by
  intro sz
  refine Met.ofW (cc := cX1_partnersHold) (maxL := 5) (ret := (some .boolean)) (by decide) rfl ?_
  intro p e s m args below meth c s₁ B hml hv
  obtain ⟨hargs, hsz, hP, hK, hD0⟩ := hv
  have hx := B.exec
  have hb := B.bytes
  have hr := B.returns
  have hts := atoms_spec (ws := wsX1_partnersHold) B.pre
  have hown : s.vm.findClass RX1 = some m.cls := findClass_of_methodNamed B.named
  have hlocks := B.notSynchronized
  subst hsz
  have hD := hD0.self (sz := s.heap.size)
  generalize hAe : va_A ((wB ad cI cJ cT) I J) s.heap.size = A at hD ⊢
  have hA : ∀ q : Nat, s.heap.size ≤ q → A q := fun q h => by rw [← hAe]; exact Or.inr h
  have hS : va_S A s.heap s.heap [] := va_S.rf
  have hl := lv_entry ([.ref (ad 18), .ref (ad (8 + x))]) (n := 5) (Nat.le_of_ble_eq_true rfl)
  rw [hargs, lg_entry_eq, ← hargs]
  generalize (lg_sl ([.ref (ad 18), .ref (ad (8 + x))]) ++ List.replicate (5 - (lg_sl ([.ref (ad 18), .ref (ad (8 + x))])).length) Slot.unset).toArray = ls at hl ⊢
  have hl : lv_has ls 5 [(0, .ref (ad 18)), (1, .ref (ad (8 + x)))] := hl
  have hfix : CallFix p m c cX1_partnersHold 5 s args wsX1_partnersHold RX1 := ⟨hx, hb, hml, hown, hts⟩
  have in_X7 : ∀ w ∈ u_ws RX7 TX7 2, w ∈ wsX1_partnersHold := by decide +kernel
  have in_X1 : ∀ w ∈ u_ws RX1 TX1 3, w ∈ wsX1_partnersHold := by decide +kernel
  have wd_0 := hts (.fieldLink RX1 44 "FuseBench$Table" "kinds" "I") (by decide +kernel)
  have wd_1 := hts (.fieldLink RX1 15 "FuseBench$Laws" "partners" "[I") (by decide +kernel)
  have L15 : ∀ (Q : State → Prop) (v2 : Int32) (J : SJ) (o : Int32 × SI), (∀ (w3 : Int32) (I : SI) (H : Heap) (locs : List Loc) (ls : Array Slot), o = (w3, I) → va_P (dC, dI) vwCl ((wB ad cI cJ cT) I J) H → va_D A ((wB ad cI cJ cT) I J) → va_S A s.heap H locs → lv_has ls 5 [(0, .ref (ad 18)), (1, .ref (ad (8 + x))), (2, .int v2), (3, .int w3)] → W p l e ({ frames := 2, cells := 0, slots := 0, locals := 45 } : Room) s m args below meth c H locs 0 0 Q (F0 m 60 ls [])) → ∀ (n : Nat) (v3 : Int32) (v4 : Int32) (I : SI) (H : Heap) (locs : List Loc) (ls : Array Slot), lp_X1_partnersHold_15 x v2 n v3 v4 I = some o → va_P (dC, dI) vwCl ((wB ad cI cJ cT) I J) H → va_D A ((wB ad cI cJ cT) I J) → va_S A s.heap H locs → lv_has ls 5 [(0, .ref (ad 18)), (1, .ref (ad (8 + x))), (2, .int v2), (3, .int v3), (4, .int v4)] → W p l e ({ frames := 2, cells := 0, slots := 0, locals := 45 } : Room) s m args below meth c H locs 0 0 Q (F0 m 15 ls []) := by
    intro Q v2 J o K0 n
    clear hP hD hS hl
    induction n with
    | zero =>
      intro v3 v4 I H locs ls hf
      rw [lp_X1_partnersHold_15.eq_1] at hf
      cases hf
    | succ n ih =>
      intro v3 v4 I H locs ls hf hP hD hS hl
      rw [lp_X1_partnersHold_15.eq_2] at hf
      refine lv_iload hx hb dX1_partnersHold_15 (lv_at hl 4 rfl) ?_
      refine lv_aload_n hx hb dX1_partnersHold_17 rfl (lv_at hl 1 rfl) ?_
      refine va_get (D := (dC, dI)) (ci := 6) (v := .int (I (8 + x) 0)) (C := RX7) (T := TX7) (N := 2) hx hb hts in_X7 hown hK hP (8 + x) (((wBT ad cI cJ cT htx)).2.1 I J) rfl 1 (by decide) wd_0 (fun _ h9 => h9) rfl dX1_partnersHold_18 ?_
      refine lv_icmp_ge (tgt := 60) hx hb dX1_partnersHold_21 (by decide) (fun c_1 => ?_) (fun c_1 => ?_)
      · have hf := (if_pos c_1).symm.trans hf
        exact K0 _ _ _ _ _ (Option.some.inj hf).symm hP hD hS (lv_sub hl [0, 1, 2, 3] rfl)
      · have hf := (if_neg c_1).symm.trans hf
        refine lv_iload_n hx hb dX1_partnersHold_24 rfl (lv_at hl 3 rfl) ?_
        refine lv_aload_n hx hb dX1_partnersHold_25 rfl (lv_at hl 1 rfl) ?_
        refine lv_iload_n hx hb dX1_partnersHold_26 rfl (lv_at hl 2 rfl) ?_
        refine lv_iload hx hb dX1_partnersHold_27 (lv_at hl 4 rfl) ?_
        refine lv_iconst (v := (0 : Int32)) hx hb dX1_partnersHold_29 (by decide) ?_
        obtain ⟨r_2, hg_2, hf⟩ := bd_some hf
        refine xVi (rest := [.int v3]) (c_X7_number l dC dI ad cI cJ cT (wB ad cI cJ cT) (fun k => k) x (wBT ad cI cJ cT htx) v2 v4 (0 : Int32) I J hg_2) hfix (cwV 3 hts gX1_partnersHold_X7_number rfl rfl rfl (by decide +kernel) ⟨Nat.le_of_ble_eq_true rfl, Nat.le_of_ble_eq_true rfl⟩) hK hP hD hS hA (va_recv hK hP (ci := 6) (q0 := (8 + x)) rfl (((wBT ad cI cJ cT htx)).2.1 I J)) rfl hl.1 rfl (Nat.le_of_ble_eq_true rfl) ⟨Nat.zero_le _, Nat.zero_le _⟩ dX1_partnersHold_30 (fun H locs hP hD hS => ?_)
        refine lv_iadd hx hb dX1_partnersHold_33 ?_
        refine lv_istore_n (lv' := [(3, .int (v3 + r_2)), (0, .ref (ad 18)), (1, .ref (ad (8 + x))), (2, .int v2), (4, .int v4)]) hx hb dX1_partnersHold_34 rfl hl (by decide) rfl (fun ls hl => ?_)
        refine lv_aload_n hx hb dX1_partnersHold_35 rfl (lv_at hl 2 rfl) ?_
        refine lv_iload_n hx hb dX1_partnersHold_36 rfl (lv_at hl 3 rfl) ?_
        refine lv_iload hx hb dX1_partnersHold_37 (lv_at hl 4 rfl) ?_
        refine lv_iconst (v := (0 : Int32)) hx hb dX1_partnersHold_39 (by decide) ?_
        obtain ⟨r_3, hg_3, hf⟩ := bd_some hf
        refine xVi (rest := []) (c_X7_number l dC dI ad cI cJ cT (wB ad cI cJ cT) (fun k => k) x (wBT ad cI cJ cT htx) v2 v4 (0 : Int32) I J hg_3) hfix (cwV 3 hts gX1_partnersHold_X7_number rfl rfl rfl (by decide +kernel) ⟨Nat.le_of_ble_eq_true rfl, Nat.le_of_ble_eq_true rfl⟩) hK hP hD hS hA (va_recv hK hP (ci := 6) (q0 := (8 + x)) rfl (((wBT ad cI cJ cT htx)).2.1 I J)) rfl hl.1 rfl (Nat.le_of_ble_eq_true rfl) ⟨Nat.zero_le _, Nat.zero_le _⟩ dX1_partnersHold_40 (fun H locs hP hD hS => ?_)
        refine lv_if_le (tgt := 54) hx hb dX1_partnersHold_43 (by decide) (fun c_4 => ?_) (fun c_4 => ?_)
        · have hf := (if_pos c_4).symm.trans hf
          refine lv_iinc (v := (v4 + (1 : Int32))) (lv' := [(4, .int (v4 + (1 : Int32))), (3, .int (v3 + r_2)), (0, .ref (ad 18)), (1, .ref (ad (8 + x))), (2, .int v2)]) hx hb dX1_partnersHold_54 hl (k := 4) rfl (by first | rfl | decide) (by decide) rfl (fun ls hl => ?_)
          refine lv_goto (tgt := 15) hx hb dX1_partnersHold_57 (by decide) ?_
          exact ih _ _ _ _ _ _ hf hP hD hS (lv_sub hl [2, 3, 4, 1, 0] rfl)
        · have hf := (if_neg c_4).symm.trans hf
          refine lv_aload_n hx hb dX1_partnersHold_46 rfl (lv_at hl 1 rfl) ?_
          refine va_get (D := (dC, dI)) (ci := 1) (v := .ref (ad 17)) (C := RX1) (T := TX1) (N := 3) hx hb hts in_X1 hown hK hP 18 (obB_18 ad cI cJ cT I J) rfl 1 (by decide) wd_1 (fun _ h9 => h9) rfl dX1_partnersHold_47 ?_
          refine lv_iload_n hx hb dX1_partnersHold_50 rfl (lv_at hl 3 rfl) ?_
          refine lv_iload hx hb dX1_partnersHold_51 (lv_at hl 4 rfl) ?_
          obtain ⟨h_5, hf⟩ := gd_some hf
          refine x_iast hx hb hK (aiB_17 ad cI cJ cT) hP hD hS h_5 dX1_partnersHold_53 (fun H locs hP hD hS => ?_)
          refine lv_iinc (v := (v4 + (1 : Int32))) (lv' := [(4, .int (v4 + (1 : Int32))), (3, .int (v3 + r_2)), (0, .ref (ad 18)), (1, .ref (ad (8 + x))), (2, .int v2)]) hx hb dX1_partnersHold_54 hl (k := 4) rfl (by first | rfl | decide) (by decide) rfl (fun ls hl => ?_)
          refine lv_goto (tgt := 15) hx hb dX1_partnersHold_57 (by decide) ?_
          exact ih _ _ _ _ _ _ hf hP hD hS (lv_sub hl [2, 3, 4, 1, 0] rfl)
  have L2 : ∀ (Q : State → Prop)  (J : SJ) (o : Nat × Int32 × SI), (∀ (w2 : Int32) (I : SI) (H : Heap) (locs : List Loc) (ls : Array Slot), o = (0, w2, I) → va_P (dC, dI) vwCl ((wB ad cI cJ cT) I J) H → va_D A ((wB ad cI cJ cT) I J) → va_S A s.heap H locs → lv_has ls 5 [(0, .ref (ad 18)), (2, .int w2)] → W p l e ({ frames := 2, cells := 0, slots := 0, locals := 45 } : Room) s m args below meth c H locs 0 0 Q (F0 m 65 ls [])) → (∀ (w2 : Int32) (I : SI) (H : Heap) (locs : List Loc) (ls : Array Slot), o = (1, w2, I) → va_P (dC, dI) vwCl ((wB ad cI cJ cT) I J) H → va_D A ((wB ad cI cJ cT) I J) → va_S A s.heap H locs → lv_has ls 5 [] → W p l e ({ frames := 2, cells := 0, slots := 0, locals := 45 } : Room) s m args below meth c H locs 0 0 Q (F0 m 81 ls [])) → ∀ (n : Nat) (v2 : Int32) (I : SI) (H : Heap) (locs : List Loc) (ls : Array Slot), lp_X1_partnersHold_2 x n v2 I = some o → va_P (dC, dI) vwCl ((wB ad cI cJ cT) I J) H → va_D A ((wB ad cI cJ cT) I J) → va_S A s.heap H locs → lv_has ls 5 [(0, .ref (ad 18)), (1, .ref (ad (8 + x))), (2, .int v2)] → W p l e ({ frames := 2, cells := 0, slots := 0, locals := 45 } : Room) s m args below meth c H locs 0 0 Q (F0 m 2 ls []) := by
    intro Q  J o K0 K1 n
    clear hP hD hS hl
    induction n with
    | zero =>
      intro v2 I H locs ls hf
      rw [lp_X1_partnersHold_2.eq_1] at hf
      cases hf
    | succ n ih =>
      intro v2 I H locs ls hf hP hD hS hl
      rw [lp_X1_partnersHold_2.eq_2] at hf
      refine lv_iload_n hx hb dX1_partnersHold_2 rfl (lv_at hl 2 rfl) ?_
      refine lv_aload_n hx hb dX1_partnersHold_3 rfl (lv_at hl 1 rfl) ?_
      refine va_get (D := (dC, dI)) (ci := 6) (v := .int (I (8 + x) 0)) (C := RX7) (T := TX7) (N := 2) hx hb hts in_X7 hown hK hP (8 + x) (((wBT ad cI cJ cT htx)).2.1 I J) rfl 1 (by decide) wd_0 (fun _ h9 => h9) rfl dX1_partnersHold_4 ?_
      refine lv_icmp_ge (tgt := 81) hx hb dX1_partnersHold_7 (by decide) (fun c_6 => ?_) (fun c_6 => ?_)
      · have hf := (if_pos c_6).symm.trans hf
        exact K1 _ _ _ _ _ (Option.some.inj hf).symm hP hD hS (lv_sub hl [] rfl)
      · have hf := (if_neg c_6).symm.trans hf
        refine lv_iconst (v := (0 : Int32)) hx hb dX1_partnersHold_10 (by decide) ?_
        refine lv_istore_n (lv' := [(3, .int (0 : Int32)), (0, .ref (ad 18)), (1, .ref (ad (8 + x))), (2, .int v2)]) hx hb dX1_partnersHold_11 rfl hl (by decide) rfl (fun ls hl => ?_)
        refine lv_iconst (v := (0 : Int32)) hx hb dX1_partnersHold_12 (by decide) ?_
        refine lv_istore (lv' := [(4, .int (0 : Int32)), (3, .int (0 : Int32)), (0, .ref (ad 18)), (1, .ref (ad (8 + x))), (2, .int v2)]) hx hb dX1_partnersHold_13 hl (by decide) rfl (fun ls hl => ?_)
        obtain ⟨o_7, hg_7, hf⟩ := bd_some hf
        refine L15 _ v2 J o_7 ?_ FU (0 : Int32) (0 : Int32) I _ _ _ hg_7 hP hD hS (lv_sub hl [2, 3, 4, 1, 0] rfl)
        · intro w3_7 I_7 H locs ls ho hP hD hS hl
          subst o_7
          refine lv_iload_n hx hb dX1_partnersHold_60 rfl (lv_at hl 3 rfl) ?_
          refine lv_iconst (v := (1 : Int32)) hx hb dX1_partnersHold_61 (by decide) ?_
          refine lv_icmp_eq (tgt := 75) hx hb dX1_partnersHold_62 (by decide) (fun c_8 => ?_) (fun c_8 => ?_)
          · have hf := (if_pos c_8).symm.trans hf
            refine lv_iinc (v := (v2 + (1 : Int32))) (lv' := [(2, .int (v2 + (1 : Int32))), (0, .ref (ad 18)), (1, .ref (ad (8 + x))), (3, .int w3_7)]) hx hb dX1_partnersHold_75 hl (k := 2) rfl (by first | rfl | decide) (by decide) rfl (fun ls hl => ?_)
            refine lv_goto (tgt := 2) hx hb dX1_partnersHold_78 (by decide) ?_
            exact ih _ _ _ _ _ hf hP hD hS (lv_sub hl [1, 2, 0] rfl)
          · have hf := (if_neg c_8).symm.trans hf
            exact K0 _ _ _ _ _ (Option.some.inj hf).symm hP hD hS (lv_sub hl [0, 2] rfl)
  unfold f_X1_partnersHold at hf
  refine lv_iconst (v := (0 : Int32)) hx hb dX1_partnersHold_0 (by decide) ?_
  refine lv_istore_n (lv' := [(2, .int (0 : Int32)), (0, .ref (ad 18)), (1, .ref (ad (8 + x)))]) hx hb dX1_partnersHold_1 rfl hl (by decide) rfl (fun ls hl => ?_)
  obtain ⟨o_9, hg_9, hf⟩ := bd_some hf
  refine L2 _ J o_9 ?_ ?_ FU (0 : Int32) I _ _ _ hg_9 hP hD hS (lv_sub hl [1, 2, 0] rfl)
  · intro w2_9 I_9 H locs ls ho hP hD hS hl
    subst o_9
    have hf := (if_pos (show 0 = 0 from rfl)).symm.trans hf
    refine lv_aload_n hx hb dX1_partnersHold_65 rfl (lv_at hl 0 rfl) ?_
    refine lv_iconst (v := (3 : Int32)) hx hb dX1_partnersHold_66 (by decide) ?_
    refine lv_iload_n hx hb dX1_partnersHold_67 rfl (lv_at hl 1 rfl) ?_
    refine lv_iconst (v := (-1 : Int32)) hx hb dX1_partnersHold_68 (by decide) ?_
    refine lv_iconst (v := (-1 : Int32)) hx hb dX1_partnersHold_69 (by decide) ?_
    refine lv_iconst (v := (-1 : Int32)) hx hb dX1_partnersHold_70 (by decide) ?_
    obtain ⟨⟨r_10, I_10⟩, hg_10, hf⟩ := bd_some hf
    refine xVi (rest := []) (c_X1_breaks_18 l dC dI ad cI cJ cT (3 : Int32) w2_9 (-1 : Int32) (-1 : Int32) (-1 : Int32) I_9 J hg_10) hfix (cwV 5 hts gX1_partnersHold_X1_breaks rfl rfl rfl (by decide +kernel) ⟨Nat.le_of_ble_eq_true rfl, Nat.le_of_ble_eq_true rfl⟩) hK hP hD hS hA (va_recv hK hP (ci := 1) (q0 := 18) rfl (obB_18 ad cI cJ cT I_9 J)) rfl hl.1 rfl (Nat.le_of_ble_eq_true rfl) ⟨Nat.zero_le _, Nat.zero_le _⟩ dX1_partnersHold_71 (fun H locs hP hD hS => ?_)
    obtain ⟨h_11, hf⟩ := gd_some hf
    cases hf
    exact xRz hx hb hr hlocks (nz h_11) hK hP hD hS (fun _ h => h) dX1_partnersHold_74
  · intro w2_9 I_9 H locs ls ho hP hD hS hl
    subst o_9
    have hf := (if_neg (show ¬ (1 = 0) by decide)).symm.trans hf
    refine lv_iconst (v := (1 : Int32)) hx hb dX1_partnersHold_81 (by decide) ?_
    cases hf
    exact xRz hx hb hr hlocks rfl hK hP hD hS (fun _ h => h) dX1_partnersHold_82
set_option maxHeartbeats 4000000 in
set_option maxRecDepth 100000 in
theorem c_X1_turnedHolds (l : Launch) (dC : Nat → ClassId) (dI : Nat → Nat → Nat) (ad : Nat → Nat) (cI cJ cT : ClassId) (x : Nat) (htx : x < 8) (I : SI) (J : SJ) {r0 : Int32} {I0 : SI} (hf : f_X1_turnedHolds x I = some (r0, I0)) : CtI l yX1_turnedHolds wsX1_turnedHolds ({ frames := 2, cells := 0, slots := 0, locals := 45 } : Room) (dC, dI) (tys3 cI cJ cT) (wB ad cI cJ cT) [.ref (ad 18), .ref (ad (8 + x))] I J r0 I0 J := by
  intro sz
  refine Met.ofW (cc := cX1_turnedHolds) (maxL := 5) (ret := (some .boolean)) (by decide) rfl ?_
  intro p e s m args below meth c s₁ B hml hv
  obtain ⟨hargs, hsz, hP, hK, hD0⟩ := hv
  have hx := B.exec
  have hb := B.bytes
  have hr := B.returns
  have hts := atoms_spec (ws := wsX1_turnedHolds) B.pre
  have hown : s.vm.findClass RX1 = some m.cls := findClass_of_methodNamed B.named
  have hlocks := B.notSynchronized
  subst hsz
  have hD := hD0.self (sz := s.heap.size)
  generalize hAe : va_A ((wB ad cI cJ cT) I J) s.heap.size = A at hD ⊢
  have hA : ∀ q : Nat, s.heap.size ≤ q → A q := fun q h => by rw [← hAe]; exact Or.inr h
  have hS : va_S A s.heap s.heap [] := va_S.rf
  have hl := lv_entry ([.ref (ad 18), .ref (ad (8 + x))]) (n := 5) (Nat.le_of_ble_eq_true rfl)
  rw [hargs, lg_entry_eq, ← hargs]
  generalize (lg_sl ([.ref (ad 18), .ref (ad (8 + x))]) ++ List.replicate (5 - (lg_sl ([.ref (ad 18), .ref (ad (8 + x))])).length) Slot.unset).toArray = ls at hl ⊢
  have hl : lv_has ls 5 [(0, .ref (ad 18)), (1, .ref (ad (8 + x)))] := hl
  have hfix : CallFix p m c cX1_turnedHolds 5 s args wsX1_turnedHolds RX1 := ⟨hx, hb, hml, hown, hts⟩
  have in_X7 : ∀ w ∈ u_ws RX7 TX7 2, w ∈ wsX1_turnedHolds := by decide +kernel
  have in_X1 : ∀ w ∈ u_ws RX1 TX1 3, w ∈ wsX1_turnedHolds := by decide +kernel
  have wd_0 := hts (.fieldLink RX1 44 "FuseBench$Table" "kinds" "I") (by decide +kernel)
  have wd_1 := hts (.fieldLink RX1 15 "FuseBench$Laws" "partners" "[I") (by decide +kernel)
  have L23 : ∀ (Q : State → Prop) (v2 : Int32) (v3 : Int32) (I : SI) (J : SJ) (o : Nat × Int32), (∀ (w4 : Int32) (H : Heap) (locs : List Loc) (ls : Array Slot), o = (0, w4) → va_P (dC, dI) vwCl ((wB ad cI cJ cT) I J) H → va_D A ((wB ad cI cJ cT) I J) → va_S A s.heap H locs → lv_has ls 5 [(0, .ref (ad 18)), (2, .int v2), (3, .int v3), (4, .int w4)] → W p l e ({ frames := 2, cells := 0, slots := 0, locals := 45 } : Room) s m args below meth c H locs 0 0 Q (F0 m 56 ls [])) → (∀ (w4 : Int32) (H : Heap) (locs : List Loc) (ls : Array Slot), o = (1, w4) → va_P (dC, dI) vwCl ((wB ad cI cJ cT) I J) H → va_D A ((wB ad cI cJ cT) I J) → va_S A s.heap H locs → lv_has ls 5 [(0, .ref (ad 18)), (1, .ref (ad (8 + x))), (2, .int v2), (3, .int v3)] → W p l e ({ frames := 2, cells := 0, slots := 0, locals := 45 } : Room) s m args below meth c H locs 0 0 Q (F0 m 73 ls [])) → ∀ (n : Nat) (v4 : Int32) (H : Heap) (locs : List Loc) (ls : Array Slot), lp_X1_turnedHolds_23 x v2 v3 I n v4 = some o → va_P (dC, dI) vwCl ((wB ad cI cJ cT) I J) H → va_D A ((wB ad cI cJ cT) I J) → va_S A s.heap H locs → lv_has ls 5 [(0, .ref (ad 18)), (1, .ref (ad (8 + x))), (2, .int v2), (3, .int v3), (4, .int v4)] → W p l e ({ frames := 2, cells := 0, slots := 0, locals := 45 } : Room) s m args below meth c H locs 0 0 Q (F0 m 23 ls []) := by
    intro Q v2 v3 I J o K0 K1 n
    clear hP hD hS hl
    induction n with
    | zero =>
      intro v4 H locs ls hf
      rw [lp_X1_turnedHolds_23.eq_1] at hf
      cases hf
    | succ n ih =>
      intro v4 H locs ls hf hP hD hS hl
      rw [lp_X1_turnedHolds_23.eq_2] at hf
      refine lv_iload hx hb dX1_turnedHolds_23 (lv_at hl 4 rfl) ?_
      refine lv_aload_n hx hb dX1_turnedHolds_25 rfl (lv_at hl 1 rfl) ?_
      refine va_get (D := (dC, dI)) (ci := 6) (v := .int (I (8 + x) 0)) (C := RX7) (T := TX7) (N := 2) hx hb hts in_X7 hown hK hP (8 + x) (((wBT ad cI cJ cT htx)).2.1 I J) rfl 1 (by decide) wd_0 (fun _ h9 => h9) rfl dX1_turnedHolds_26 ?_
      refine lv_icmp_ge (tgt := 73) hx hb dX1_turnedHolds_29 (by decide) (fun c_1 => ?_) (fun c_1 => ?_)
      · have hf := (if_pos c_1).symm.trans hf
        exact K1 _ _ _ _ (Option.some.inj hf).symm hP hD hS (lv_sub hl [0, 1, 2, 3] rfl)
      · have hf := (if_neg c_1).symm.trans hf
        refine lv_aload_n hx hb dX1_turnedHolds_32 rfl (lv_at hl 1 rfl) ?_
        refine lv_iload_n hx hb dX1_turnedHolds_33 rfl (lv_at hl 2 rfl) ?_
        refine lv_iload_n hx hb dX1_turnedHolds_34 rfl (lv_at hl 3 rfl) ?_
        refine lv_iload hx hb dX1_turnedHolds_35 (lv_at hl 4 rfl) ?_
        obtain ⟨r_2, hg_2, hf⟩ := bd_some hf
        refine xVi (rest := []) (c_X7_number l dC dI ad cI cJ cT (wB ad cI cJ cT) (fun k => k) x (wBT ad cI cJ cT htx) v2 v3 v4 I J hg_2) hfix (cwV 3 hts gX1_turnedHolds_X7_number rfl rfl rfl (by decide +kernel) ⟨Nat.le_of_ble_eq_true rfl, Nat.le_of_ble_eq_true rfl⟩) hK hP hD hS hA (va_recv hK hP (ci := 6) (q0 := (8 + x)) rfl (((wBT ad cI cJ cT htx)).2.1 I J)) rfl hl.1 rfl (Nat.le_of_ble_eq_true rfl) ⟨Nat.zero_le _, Nat.zero_le _⟩ dX1_turnedHolds_37 (fun H locs hP hD hS => ?_)
        refine lv_aload_n hx hb dX1_turnedHolds_40 rfl (lv_at hl 1 rfl) ?_
        refine lv_aload_n hx hb dX1_turnedHolds_41 rfl (lv_at hl 0 rfl) ?_
        refine va_get (D := (dC, dI)) (ci := 1) (v := .ref (ad 17)) (C := RX1) (T := TX1) (N := 3) hx hb hts in_X1 hown hK hP 18 (obB_18 ad cI cJ cT I J) rfl 1 (by decide) wd_1 (fun _ h9 => h9) rfl dX1_turnedHolds_42 ?_
        refine lv_iload_n hx hb dX1_turnedHolds_45 rfl (lv_at hl 2 rfl) ?_
        obtain ⟨h_3, hf⟩ := gd_some hf
        refine x_iald hx hb hK (aiB_17 ad cI cJ cT) hP h_3 dX1_turnedHolds_46 ?_
        refine lv_iload hx hb dX1_turnedHolds_47 (lv_at hl 4 rfl) ?_
        refine lv_iload_n hx hb dX1_turnedHolds_49 rfl (lv_at hl 3 rfl) ?_
        obtain ⟨r_4, hg_4, hf⟩ := bd_some hf
        refine xVi (rest := [.int r_2]) (c_X7_number l dC dI ad cI cJ cT (wB ad cI cJ cT) (fun k => k) x (wBT ad cI cJ cT htx) (I 17 v2.toNatClampNeg) v4 v3 I J hg_4) hfix (cwV 3 hts gX1_turnedHolds_X7_number rfl rfl rfl (by decide +kernel) ⟨Nat.le_of_ble_eq_true rfl, Nat.le_of_ble_eq_true rfl⟩) hK hP hD hS hA (va_recv hK hP (ci := 6) (q0 := (8 + x)) rfl (((wBT ad cI cJ cT htx)).2.1 I J)) rfl hl.1 rfl (Nat.le_of_ble_eq_true rfl) ⟨Nat.zero_le _, Nat.zero_le _⟩ dX1_turnedHolds_50 (fun H locs hP hD hS => ?_)
        refine lv_icmp_eq (tgt := 67) hx hb dX1_turnedHolds_53 (by decide) (fun c_5 => ?_) (fun c_5 => ?_)
        · have hf := (if_pos c_5).symm.trans hf
          refine lv_iinc (v := (v4 + (1 : Int32))) (lv' := [(4, .int (v4 + (1 : Int32))), (0, .ref (ad 18)), (1, .ref (ad (8 + x))), (2, .int v2), (3, .int v3)]) hx hb dX1_turnedHolds_67 hl (k := 4) rfl (by first | rfl | decide) (by decide) rfl (fun ls hl => ?_)
          refine lv_goto (tgt := 23) hx hb dX1_turnedHolds_70 (by decide) ?_
          exact ih _ _ _ _ hf hP hD hS (lv_sub hl [1, 2, 3, 4, 0] rfl)
        · have hf := (if_neg c_5).symm.trans hf
          exact K0 _ _ _ _ (Option.some.inj hf).symm hP hD hS (lv_sub hl [0, 2, 3, 4] rfl)
  have L12 : ∀ (Q : State → Prop) (v2 : Int32) (I : SI) (J : SJ) (o : Nat × Int32 × Int32), (∀ (w3 : Int32) (w4 : Int32) (H : Heap) (locs : List Loc) (ls : Array Slot), o = (0, w3, w4) → va_P (dC, dI) vwCl ((wB ad cI cJ cT) I J) H → va_D A ((wB ad cI cJ cT) I J) → va_S A s.heap H locs → lv_has ls 5 [(0, .ref (ad 18)), (2, .int v2), (3, .int w3), (4, .int w4)] → W p l e ({ frames := 2, cells := 0, slots := 0, locals := 45 } : Room) s m args below meth c H locs 0 0 Q (F0 m 56 ls [])) → (∀ (w3 : Int32) (w4 : Int32) (H : Heap) (locs : List Loc) (ls : Array Slot), o = (1, w3, w4) → va_P (dC, dI) vwCl ((wB ad cI cJ cT) I J) H → va_D A ((wB ad cI cJ cT) I J) → va_S A s.heap H locs → lv_has ls 5 [(0, .ref (ad 18)), (1, .ref (ad (8 + x))), (2, .int v2)] → W p l e ({ frames := 2, cells := 0, slots := 0, locals := 45 } : Room) s m args below meth c H locs 0 0 Q (F0 m 79 ls [])) → ∀ (n : Nat) (v3 : Int32) (H : Heap) (locs : List Loc) (ls : Array Slot), lp_X1_turnedHolds_12 x v2 I n v3 = some o → va_P (dC, dI) vwCl ((wB ad cI cJ cT) I J) H → va_D A ((wB ad cI cJ cT) I J) → va_S A s.heap H locs → lv_has ls 5 [(0, .ref (ad 18)), (1, .ref (ad (8 + x))), (2, .int v2), (3, .int v3)] → W p l e ({ frames := 2, cells := 0, slots := 0, locals := 45 } : Room) s m args below meth c H locs 0 0 Q (F0 m 12 ls []) := by
    intro Q v2 I J o K0 K1 n
    clear hP hD hS hl
    induction n with
    | zero =>
      intro v3 H locs ls hf
      rw [lp_X1_turnedHolds_12.eq_1] at hf
      cases hf
    | succ n ih =>
      intro v3 H locs ls hf hP hD hS hl
      rw [lp_X1_turnedHolds_12.eq_2] at hf
      refine lv_iload_n hx hb dX1_turnedHolds_12 rfl (lv_at hl 3 rfl) ?_
      refine lv_aload_n hx hb dX1_turnedHolds_13 rfl (lv_at hl 1 rfl) ?_
      refine va_get (D := (dC, dI)) (ci := 6) (v := .int (I (8 + x) 0)) (C := RX7) (T := TX7) (N := 2) hx hb hts in_X7 hown hK hP (8 + x) (((wBT ad cI cJ cT htx)).2.1 I J) rfl 1 (by decide) wd_0 (fun _ h9 => h9) rfl dX1_turnedHolds_14 ?_
      refine lv_icmp_ge (tgt := 79) hx hb dX1_turnedHolds_17 (by decide) (fun c_6 => ?_) (fun c_6 => ?_)
      · have hf := (if_pos c_6).symm.trans hf
        exact K1 _ _ _ _ _ (Option.some.inj hf).symm hP hD hS (lv_sub hl [0, 1, 2] rfl)
      · have hf := (if_neg c_6).symm.trans hf
        refine lv_iconst (v := (0 : Int32)) hx hb dX1_turnedHolds_20 (by decide) ?_
        refine lv_istore (lv' := [(4, .int (0 : Int32)), (0, .ref (ad 18)), (1, .ref (ad (8 + x))), (2, .int v2), (3, .int v3)]) hx hb dX1_turnedHolds_21 hl (by decide) rfl (fun ls hl => ?_)
        obtain ⟨o_7, hg_7, hf⟩ := bd_some hf
        refine L23 _ v2 v3 I J o_7 ?_ ?_ FU (0 : Int32) _ _ _ hg_7 hP hD hS (lv_sub hl [1, 2, 3, 4, 0] rfl)
        · intro w4_7 H locs ls ho hP hD hS hl
          subst o_7
          have hf := (if_pos (show 0 = 0 from rfl)).symm.trans hf
          exact K0 _ _ _ _ _ (Option.some.inj hf).symm hP hD hS (lv_sub hl [0, 1, 2, 3] rfl)
        · intro w4_7 H locs ls ho hP hD hS hl
          subst o_7
          have hf := (if_neg (show ¬ (1 = 0) by decide)).symm.trans hf
          refine lv_iinc (v := (v3 + (1 : Int32))) (lv' := [(3, .int (v3 + (1 : Int32))), (0, .ref (ad 18)), (1, .ref (ad (8 + x))), (2, .int v2)]) hx hb dX1_turnedHolds_73 hl (k := 3) rfl (by first | rfl | decide) (by decide) rfl (fun ls hl => ?_)
          refine lv_goto (tgt := 12) hx hb dX1_turnedHolds_76 (by decide) ?_
          exact ih _ _ _ _ hf hP hD hS (lv_sub hl [1, 2, 3, 0] rfl)
  have L2 : ∀ (Q : State → Prop)  (I : SI) (J : SJ) (o : Nat × Int32 × Int32 × Int32), (∀ (w2 : Int32) (w3 : Int32) (w4 : Int32) (H : Heap) (locs : List Loc) (ls : Array Slot), o = (0, w2, w3, w4) → va_P (dC, dI) vwCl ((wB ad cI cJ cT) I J) H → va_D A ((wB ad cI cJ cT) I J) → va_S A s.heap H locs → lv_has ls 5 [(0, .ref (ad 18)), (2, .int w2), (3, .int w3), (4, .int w4)] → W p l e ({ frames := 2, cells := 0, slots := 0, locals := 45 } : Room) s m args below meth c H locs 0 0 Q (F0 m 56 ls [])) → (∀ (w2 : Int32) (w3 : Int32) (w4 : Int32) (H : Heap) (locs : List Loc) (ls : Array Slot), o = (1, w2, w3, w4) → va_P (dC, dI) vwCl ((wB ad cI cJ cT) I J) H → va_D A ((wB ad cI cJ cT) I J) → va_S A s.heap H locs → lv_has ls 5 [] → W p l e ({ frames := 2, cells := 0, slots := 0, locals := 45 } : Room) s m args below meth c H locs 0 0 Q (F0 m 85 ls [])) → ∀ (n : Nat) (v2 : Int32) (H : Heap) (locs : List Loc) (ls : Array Slot), lp_X1_turnedHolds_2 x I n v2 = some o → va_P (dC, dI) vwCl ((wB ad cI cJ cT) I J) H → va_D A ((wB ad cI cJ cT) I J) → va_S A s.heap H locs → lv_has ls 5 [(0, .ref (ad 18)), (1, .ref (ad (8 + x))), (2, .int v2)] → W p l e ({ frames := 2, cells := 0, slots := 0, locals := 45 } : Room) s m args below meth c H locs 0 0 Q (F0 m 2 ls []) := by
    intro Q  I J o K0 K1 n
    clear hP hD hS hl
    induction n with
    | zero =>
      intro v2 H locs ls hf
      rw [lp_X1_turnedHolds_2.eq_1] at hf
      cases hf
    | succ n ih =>
      intro v2 H locs ls hf hP hD hS hl
      rw [lp_X1_turnedHolds_2.eq_2] at hf
      refine lv_iload_n hx hb dX1_turnedHolds_2 rfl (lv_at hl 2 rfl) ?_
      refine lv_aload_n hx hb dX1_turnedHolds_3 rfl (lv_at hl 1 rfl) ?_
      refine va_get (D := (dC, dI)) (ci := 6) (v := .int (I (8 + x) 0)) (C := RX7) (T := TX7) (N := 2) hx hb hts in_X7 hown hK hP (8 + x) (((wBT ad cI cJ cT htx)).2.1 I J) rfl 1 (by decide) wd_0 (fun _ h9 => h9) rfl dX1_turnedHolds_4 ?_
      refine lv_icmp_ge (tgt := 85) hx hb dX1_turnedHolds_7 (by decide) (fun c_8 => ?_) (fun c_8 => ?_)
      · have hf := (if_pos c_8).symm.trans hf
        exact K1 _ _ _ _ _ _ (Option.some.inj hf).symm hP hD hS (lv_sub hl [] rfl)
      · have hf := (if_neg c_8).symm.trans hf
        refine lv_iconst (v := (0 : Int32)) hx hb dX1_turnedHolds_10 (by decide) ?_
        refine lv_istore_n (lv' := [(3, .int (0 : Int32)), (0, .ref (ad 18)), (1, .ref (ad (8 + x))), (2, .int v2)]) hx hb dX1_turnedHolds_11 rfl hl (by decide) rfl (fun ls hl => ?_)
        obtain ⟨o_9, hg_9, hf⟩ := bd_some hf
        refine L12 _ v2 I J o_9 ?_ ?_ FU (0 : Int32) _ _ _ hg_9 hP hD hS (lv_sub hl [1, 2, 3, 0] rfl)
        · intro w3_9 w4_9 H locs ls ho hP hD hS hl
          subst o_9
          have hf := (if_pos (show 0 = 0 from rfl)).symm.trans hf
          exact K0 _ _ _ _ _ _ (Option.some.inj hf).symm hP hD hS (lv_sub hl [0, 1, 2, 3] rfl)
        · intro w3_9 w4_9 H locs ls ho hP hD hS hl
          subst o_9
          have hf := (if_neg (show ¬ (1 = 0) by decide)).symm.trans hf
          refine lv_iinc (v := (v2 + (1 : Int32))) (lv' := [(2, .int (v2 + (1 : Int32))), (0, .ref (ad 18)), (1, .ref (ad (8 + x)))]) hx hb dX1_turnedHolds_79 hl (k := 2) rfl (by first | rfl | decide) (by decide) rfl (fun ls hl => ?_)
          refine lv_goto (tgt := 2) hx hb dX1_turnedHolds_82 (by decide) ?_
          exact ih _ _ _ _ hf hP hD hS (lv_sub hl [1, 2, 0] rfl)
  unfold f_X1_turnedHolds at hf
  refine lv_iconst (v := (0 : Int32)) hx hb dX1_turnedHolds_0 (by decide) ?_
  refine lv_istore_n (lv' := [(2, .int (0 : Int32)), (0, .ref (ad 18)), (1, .ref (ad (8 + x)))]) hx hb dX1_turnedHolds_1 rfl hl (by decide) rfl (fun ls hl => ?_)
  obtain ⟨o_10, hg_10, hf⟩ := bd_some hf
  refine L2 _ I J o_10 ?_ ?_ FU (0 : Int32) _ _ _ hg_10 hP hD hS (lv_sub hl [1, 2, 0] rfl)
  · intro w2_10 w3_10 w4_10 H locs ls ho hP hD hS hl
    subst o_10
    have hf := (if_pos (show 0 = 0 from rfl)).symm.trans hf
    refine lv_aload_n hx hb dX1_turnedHolds_56 rfl (lv_at hl 0 rfl) ?_
    refine lv_iconst (v := (4 : Int32)) hx hb dX1_turnedHolds_57 (by decide) ?_
    refine lv_iload_n hx hb dX1_turnedHolds_58 rfl (lv_at hl 1 rfl) ?_
    refine lv_iload_n hx hb dX1_turnedHolds_59 rfl (lv_at hl 2 rfl) ?_
    refine lv_iload hx hb dX1_turnedHolds_60 (lv_at hl 3 rfl) ?_
    refine lv_iconst (v := (-1 : Int32)) hx hb dX1_turnedHolds_62 (by decide) ?_
    obtain ⟨⟨r_11, I_11⟩, hg_11, hf⟩ := bd_some hf
    refine xVi (rest := []) (c_X1_breaks_18 l dC dI ad cI cJ cT (4 : Int32) w2_10 w3_10 w4_10 (-1 : Int32) I J hg_11) hfix (cwV 5 hts gX1_turnedHolds_X1_breaks rfl rfl rfl (by decide +kernel) ⟨Nat.le_of_ble_eq_true rfl, Nat.le_of_ble_eq_true rfl⟩) hK hP hD hS hA (va_recv hK hP (ci := 1) (q0 := 18) rfl (obB_18 ad cI cJ cT I J)) rfl hl.1 rfl (Nat.le_of_ble_eq_true rfl) ⟨Nat.zero_le _, Nat.zero_le _⟩ dX1_turnedHolds_63 (fun H locs hP hD hS => ?_)
    obtain ⟨h_12, hf⟩ := gd_some hf
    cases hf
    exact xRz hx hb hr hlocks (nz h_12) hK hP hD hS (fun _ h => h) dX1_turnedHolds_66
  · intro w2_10 w3_10 w4_10 H locs ls ho hP hD hS hl
    subst o_10
    have hf := (if_neg (show ¬ (1 = 0) by decide)).symm.trans hf
    refine lv_iconst (v := (1 : Int32)) hx hb dX1_turnedHolds_85 (by decide) ?_
    cases hf
    exact xRz hx hb hr hlocks rfl hK hP hD hS (fun _ h => h) dX1_turnedHolds_86
set_option maxHeartbeats 4000000 in
set_option maxRecDepth 100000 in
theorem c_X1_allHold (l : Launch) (dC : Nat → ClassId) (dI : Nat → Nat → Nat) (ad : Nat → Nat) (cI cJ cT : ClassId) (x : Nat) (htx : x < 8) (I : SI) (J : SJ) {r0 : Int32} {I0 : SI} (hf : f_X1_allHold x I = some (r0, I0)) : CtI l yX1_allHold wsX1_allHold ({ frames := 4, cells := 0, slots := 0, locals := 96 } : Room) (dC, dI) (tys3 cI cJ cT) (wB ad cI cJ cT) [.ref (ad 18), .ref (ad (8 + x))] I J r0 I0 J := by
  intro sz
  refine Met.ofW (cc := cX1_allHold) (maxL := 2) (ret := (some .boolean)) (by decide) rfl ?_
  intro p e s m args below meth c s₁ B hml hv
  obtain ⟨hargs, hsz, hP, hK, hD0⟩ := hv
  have hx := B.exec
  have hb := B.bytes
  have hr := B.returns
  have hts := atoms_spec (ws := wsX1_allHold) B.pre
  have hown : s.vm.findClass RX1 = some m.cls := findClass_of_methodNamed B.named
  have hlocks := B.notSynchronized
  subst hsz
  have hD := hD0.self (sz := s.heap.size)
  generalize hAe : va_A ((wB ad cI cJ cT) I J) s.heap.size = A at hD ⊢
  have hA : ∀ q : Nat, s.heap.size ≤ q → A q := fun q h => by rw [← hAe]; exact Or.inr h
  have hS : va_S A s.heap s.heap [] := va_S.rf
  have hl := lv_entry ([.ref (ad 18), .ref (ad (8 + x))]) (n := 2) (Nat.le_of_ble_eq_true rfl)
  rw [hargs, lg_entry_eq, ← hargs]
  generalize (lg_sl ([.ref (ad 18), .ref (ad (8 + x))]) ++ List.replicate (2 - (lg_sl ([.ref (ad 18), .ref (ad (8 + x))])).length) Slot.unset).toArray = ls at hl ⊢
  have hl : lv_has ls 2 [(0, .ref (ad 18)), (1, .ref (ad (8 + x)))] := hl
  have hfix : CallFix p m c cX1_allHold 2 s args wsX1_allHold RX1 := ⟨hx, hb, hml, hown, hts⟩
  have in_X1 : ∀ w ∈ u_ws RX1 TX1 3, w ∈ wsX1_allHold := by decide +kernel
  have wd_0 := hts (.fieldLink RX1 18 "FuseBench$Laws" "broken" "I") (by decide +kernel)
  have wd_1 := hts (.fieldLink RX1 9 "FuseBench$Laws" "place" "[I") (by decide +kernel)
  unfold f_X1_allHold at hf
  refine lv_aload_n hx hb dX1_allHold_0 rfl (lv_at hl 0 rfl) ?_
  refine lv_iconst (v := (0 : Int32)) hx hb dX1_allHold_1 (by decide) ?_
  refine x_put (C := RX1) (T := TX1) (N := 3) hx hb hts in_X1 tyX1 tyX1_ok nmX1 hown hK hP hD hS 18 (obB_18 ad cI cJ cT I J) rfl 2 (by decide) wd_0 (fun _ h9 => h9) rfl (by decide +kernel) (Nat.le_of_ble_eq_true rfl) (psB_18 ad cI cJ cT I J (0 : Int32)) dX1_allHold_2 (fun H locs hP hD hS => ?_)
  refine lv_aload_n hx hb dX1_allHold_5 rfl (lv_at hl 0 rfl) ?_
  refine va_get (D := (dC, dI)) (ci := 1) (v := .ref (ad 16)) (C := RX1) (T := TX1) (N := 3) hx hb hts in_X1 hown hK hP 18 (obB_18 ad cI cJ cT (sets I 18 (0 : Int32)) J) rfl 0 (by decide) wd_1 (fun _ h9 => h9) rfl dX1_allHold_6 ?_
  refine lv_iconst (v := (-1 : Int32)) hx hb dX1_allHold_9 (by decide) ?_
  obtain ⟨I_1, hg_1, hf⟩ := bd_some hf
  refine xSv (rest := []) (c_J7_fill l dC dI ad cI cJ cT (wB ad cI cJ cT) (fun k => k) (ad 16) 16 4 16 (aiB_16 ad cI cJ cT) (-1 : Int32) (sets I 18 (0 : Int32)) J hg_1) hfix (va_cwS 2 hts gX1_allHold_J7_fill_53178 rfl rfl rfl (by decide +kernel) ⟨Nat.le_of_ble_eq_true rfl, Nat.le_of_ble_eq_true rfl⟩) hK hP hD hS hA rfl hl.1 rfl (Nat.le_of_ble_eq_true rfl) ⟨Nat.zero_le _, Nat.zero_le _⟩ dX1_allHold_10 (fun H locs hP hD hS => ?_)
  refine lv_aload_n hx hb dX1_allHold_13 rfl (lv_at hl 0 rfl) ?_
  refine lv_aload_n hx hb dX1_allHold_14 rfl (lv_at hl 1 rfl) ?_
  obtain ⟨⟨r_2, I_2⟩, hg_2, hf⟩ := bd_some hf
  refine xVi (rest := []) (c_X1_unitHolds l dC dI ad cI cJ cT x htx I_1 J hg_2) hfix (cwV 1 hts gX1_allHold_X1_unitHolds rfl rfl rfl (by decide +kernel) ⟨Nat.le_of_ble_eq_true rfl, Nat.le_of_ble_eq_true rfl⟩) hK hP hD hS hA (va_recv hK hP (ci := 1) (q0 := 18) rfl (obB_18 ad cI cJ cT I_1 J)) rfl hl.1 rfl (Nat.le_of_ble_eq_true rfl) ⟨Nat.zero_le _, Nat.zero_le _⟩ dX1_allHold_15 (fun H locs hP hD hS => ?_)
  refine lv_if_eq (tgt := 57) hx hb dX1_allHold_18 (by decide) (fun c_3 => ?_) (fun c_3 => ?_)
  · have hf := (if_pos c_3).symm.trans hf
    refine lv_iconst (v := (0 : Int32)) hx hb dX1_allHold_57 (by decide) ?_
    cases hf
    exact xRz hx hb hr hlocks rfl hK hP hD hS (fun _ h => h) dX1_allHold_58
  · have hf := (if_neg c_3).symm.trans hf
    refine lv_aload_n hx hb dX1_allHold_21 rfl (lv_at hl 0 rfl) ?_
    refine lv_aload_n hx hb dX1_allHold_22 rfl (lv_at hl 1 rfl) ?_
    obtain ⟨⟨r_4, I_4⟩, hg_4, hf⟩ := bd_some hf
    refine xVi (rest := []) (c_X1_eitherWayHolds l dC dI ad cI cJ cT x htx I_2 J hg_4) hfix (cwV 1 hts gX1_allHold_X1_eitherWayHolds rfl rfl rfl (by decide +kernel) ⟨Nat.le_of_ble_eq_true rfl, Nat.le_of_ble_eq_true rfl⟩) hK hP hD hS hA (va_recv hK hP (ci := 1) (q0 := 18) rfl (obB_18 ad cI cJ cT I_2 J)) rfl hl.1 rfl (Nat.le_of_ble_eq_true rfl) ⟨Nat.zero_le _, Nat.zero_le _⟩ dX1_allHold_23 (fun H locs hP hD hS => ?_)
    refine lv_if_eq (tgt := 57) hx hb dX1_allHold_26 (by decide) (fun c_5 => ?_) (fun c_5 => ?_)
    · have hf := (if_pos c_5).symm.trans hf
      refine lv_iconst (v := (0 : Int32)) hx hb dX1_allHold_57 (by decide) ?_
      cases hf
      exact xRz hx hb hr hlocks rfl hK hP hD hS (fun _ h => h) dX1_allHold_58
    · have hf := (if_neg c_5).symm.trans hf
      refine lv_aload_n hx hb dX1_allHold_29 rfl (lv_at hl 0 rfl) ?_
      refine lv_aload_n hx hb dX1_allHold_30 rfl (lv_at hl 1 rfl) ?_
      obtain ⟨⟨r_6, I_6⟩, hg_6, hf⟩ := bd_some hf
      refine xVi (rest := []) (c_X1_partnersHold l dC dI ad cI cJ cT x htx I_4 J hg_6) hfix (cwV 1 hts gX1_allHold_X1_partnersHold rfl rfl rfl (by decide +kernel) ⟨Nat.le_of_ble_eq_true rfl, Nat.le_of_ble_eq_true rfl⟩) hK hP hD hS hA (va_recv hK hP (ci := 1) (q0 := 18) rfl (obB_18 ad cI cJ cT I_4 J)) rfl hl.1 rfl (Nat.le_of_ble_eq_true rfl) ⟨Nat.zero_le _, Nat.zero_le _⟩ dX1_allHold_31 (fun H locs hP hD hS => ?_)
      refine lv_if_eq (tgt := 57) hx hb dX1_allHold_34 (by decide) (fun c_7 => ?_) (fun c_7 => ?_)
      · have hf := (if_pos c_7).symm.trans hf
        refine lv_iconst (v := (0 : Int32)) hx hb dX1_allHold_57 (by decide) ?_
        cases hf
        exact xRz hx hb hr hlocks rfl hK hP hD hS (fun _ h => h) dX1_allHold_58
      · have hf := (if_neg c_7).symm.trans hf
        refine lv_aload_n hx hb dX1_allHold_37 rfl (lv_at hl 0 rfl) ?_
        refine lv_aload_n hx hb dX1_allHold_38 rfl (lv_at hl 1 rfl) ?_
        obtain ⟨⟨r_8, I_8⟩, hg_8, hf⟩ := bd_some hf
        refine xVi (rest := []) (c_X1_turnedHolds l dC dI ad cI cJ cT x htx I_6 J hg_8) hfix (cwV 1 hts gX1_allHold_X1_turnedHolds rfl rfl rfl (by decide +kernel) ⟨Nat.le_of_ble_eq_true rfl, Nat.le_of_ble_eq_true rfl⟩) hK hP hD hS hA (va_recv hK hP (ci := 1) (q0 := 18) rfl (obB_18 ad cI cJ cT I_6 J)) rfl hl.1 rfl (Nat.le_of_ble_eq_true rfl) ⟨Nat.zero_le _, Nat.zero_le _⟩ dX1_allHold_39 (fun H locs hP hD hS => ?_)
        refine lv_if_eq (tgt := 57) hx hb dX1_allHold_42 (by decide) (fun c_9 => ?_) (fun c_9 => ?_)
        · have hf := (if_pos c_9).symm.trans hf
          refine lv_iconst (v := (0 : Int32)) hx hb dX1_allHold_57 (by decide) ?_
          cases hf
          exact xRz hx hb hr hlocks rfl hK hP hD hS (fun _ h => h) dX1_allHold_58
        · have hf := (if_neg c_9).symm.trans hf
          refine lv_aload_n hx hb dX1_allHold_45 rfl (lv_at hl 0 rfl) ?_
          refine lv_aload_n hx hb dX1_allHold_46 rfl (lv_at hl 1 rfl) ?_
          obtain ⟨⟨r_10, I_10⟩, hg_10, hf⟩ := bd_some hf
          refine xVi (rest := []) (c_X1_threeHolds_18 l dC dI ad cI cJ cT x htx I_8 J hg_10) hfix (cwV 1 hts gX1_allHold_X1_threeHolds rfl rfl rfl (by decide +kernel) ⟨Nat.le_of_ble_eq_true rfl, Nat.le_of_ble_eq_true rfl⟩) hK hP hD hS hA (va_recv hK hP (ci := 1) (q0 := 18) rfl (obB_18 ad cI cJ cT I_8 J)) rfl hl.1 rfl (Nat.le_of_ble_eq_true rfl) ⟨Nat.zero_le _, Nat.zero_le _⟩ dX1_allHold_47 (fun H locs hP hD hS => ?_)
          refine lv_if_eq (tgt := 57) hx hb dX1_allHold_50 (by decide) (fun c_11 => ?_) (fun c_11 => ?_)
          · have hf := (if_pos c_11).symm.trans hf
            refine lv_iconst (v := (0 : Int32)) hx hb dX1_allHold_57 (by decide) ?_
            cases hf
            exact xRz hx hb hr hlocks rfl hK hP hD hS (fun _ h => h) dX1_allHold_58
          · have hf := (if_neg c_11).symm.trans hf
            refine lv_iconst (v := (1 : Int32)) hx hb dX1_allHold_53 (by decide) ?_
            refine lv_goto (tgt := 58) hx hb dX1_allHold_54 (by decide) ?_
            cases hf
            exact xRz hx hb hr hlocks rfl hK hP hD hS (fun _ h => h) dX1_allHold_58
set_option maxHeartbeats 4000000 in
set_option maxRecDepth 100000 in
theorem c_X2_partnerOf (l : Launch) (dC : Nat → ClassId) (dI : Nat → Nat → Nat) (ad : Nat → Nat) (cI cJ cT : ClassId) (p1 : Int32) (I : SI) (J : SJ) {r0 : Int32} (hf : f_X2_partnerOf p1 I = some r0) : CtI l yX2_partnerOf wsX2_partnerOf ({ frames := 0, cells := 0, slots := 0, locals := 0 } : Room) (dC, dI) (tys3 cI cJ cT) (wB ad cI cJ cT) [.ref (ad 25), .int p1] I J r0 I J := by
  intro sz
  refine Met.ofW (cc := cX2_partnerOf) (maxL := 2) (ret := (some .int)) (by decide) rfl ?_
  intro p e s m args below meth c s₁ B hml hv
  obtain ⟨hargs, hsz, hP, hK, hD0⟩ := hv
  have hx := B.exec
  have hb := B.bytes
  have hr := B.returns
  have hts := atoms_spec (ws := wsX2_partnerOf) B.pre
  have hown : s.vm.findClass RX2 = some m.cls := findClass_of_methodNamed B.named
  have hlocks := B.notSynchronized
  subst hsz
  have hD := hD0.self (sz := s.heap.size)
  generalize hAe : va_A ((wB ad cI cJ cT) I J) s.heap.size = A at hD ⊢
  have hA : ∀ q : Nat, s.heap.size ≤ q → A q := fun q h => by rw [← hAe]; exact Or.inr h
  have hS : va_S A s.heap s.heap [] := va_S.rf
  have hl := lv_entry ([.ref (ad 25), .int p1]) (n := 2) (Nat.le_of_ble_eq_true rfl)
  rw [hargs, lg_entry_eq, ← hargs]
  generalize (lg_sl ([.ref (ad 25), .int p1]) ++ List.replicate (2 - (lg_sl ([.ref (ad 25), .int p1])).length) Slot.unset).toArray = ls at hl ⊢
  have hl : lv_has ls 2 [(0, .ref (ad 25)), (1, .int p1)] := hl
  have hfix : CallFix p m c cX2_partnerOf 2 s args wsX2_partnerOf RX2 := ⟨hx, hb, hml, hown, hts⟩
  have in_X2 : ∀ w ∈ u_ws RX2 TX2 10, w ∈ wsX2_partnerOf := by decide +kernel
  have wd_0 := hts (.fieldLink RX2 42 "FuseBench$Listing" "pairs" "I") (by decide +kernel)
  unfold f_X2_partnerOf at hf
  refine lv_aload_n hx hb dX2_partnerOf_0 rfl (lv_at hl 0 rfl) ?_
  refine va_get (D := (dC, dI)) (ci := 2) (v := .int (I 52 0)) (C := RX2) (T := TX2) (N := 10) hx hb hts in_X2 hown hK hP 25 (obB_25 ad cI cJ cT I J) rfl 7 (by decide) wd_0 (fun _ h9 => h9) rfl dX2_partnerOf_1 ?_
  refine lv_iconst (v := (1 : Int32)) hx hb dX2_partnerOf_4 (by decide) ?_
  refine lv_icmp_ne (tgt := 24) hx hb dX2_partnerOf_5 (by decide) (fun c_1 => ?_) (fun c_1 => ?_)
  · have hf := (if_neg c_1).symm.trans hf
    refine lv_iload_n hx hb dX2_partnerOf_24 rfl (lv_at hl 1 rfl) ?_
    cases hf
    exact xRi hx hb hr hlocks hK hP hD hS (fun _ h => h) dX2_partnerOf_25
  · have hf := (if_pos c_1).symm.trans hf
    refine lv_iload_n hx hb dX2_partnerOf_8 rfl (lv_at hl 1 rfl) ?_
    refine lv_iconst (v := (1 : Int32)) hx hb dX2_partnerOf_9 (by decide) ?_
    refine lv_icmp_eq (tgt := 18) hx hb dX2_partnerOf_10 (by decide) (fun c_2 => ?_) (fun c_2 => ?_)
    · have hf := (if_pos c_2).symm.trans hf
      refine lv_iconst (v := (3 : Int32)) hx hb dX2_partnerOf_18 (by decide) ?_
      refine lv_iload_n hx hb dX2_partnerOf_19 rfl (lv_at hl 1 rfl) ?_
      refine lv_isub hx hb dX2_partnerOf_20 ?_
      refine lv_goto (tgt := 25) hx hb dX2_partnerOf_21 (by decide) ?_
      cases hf
      exact xRi hx hb hr hlocks hK hP hD hS (fun _ h => h) dX2_partnerOf_25
    · have hf := (if_neg c_2).symm.trans hf
      refine lv_iload_n hx hb dX2_partnerOf_13 rfl (lv_at hl 1 rfl) ?_
      refine lv_iconst (v := (2 : Int32)) hx hb dX2_partnerOf_14 (by decide) ?_
      refine lv_icmp_ne (tgt := 24) hx hb dX2_partnerOf_15 (by decide) (fun c_3 => ?_) (fun c_3 => ?_)
      · have hf := (if_neg c_3).symm.trans hf
        refine lv_iload_n hx hb dX2_partnerOf_24 rfl (lv_at hl 1 rfl) ?_
        cases hf
        exact xRi hx hb hr hlocks hK hP hD hS (fun _ h => h) dX2_partnerOf_25
      · have hf := (if_pos c_3).symm.trans hf
        refine lv_iconst (v := (3 : Int32)) hx hb dX2_partnerOf_18 (by decide) ?_
        refine lv_iload_n hx hb dX2_partnerOf_19 rfl (lv_at hl 1 rfl) ?_
        refine lv_isub hx hb dX2_partnerOf_20 ?_
        refine lv_goto (tgt := 25) hx hb dX2_partnerOf_21 (by decide) ?_
        cases hf
        exact xRi hx hb hr hlocks hK hP hD hS (fun _ h => h) dX2_partnerOf_25
