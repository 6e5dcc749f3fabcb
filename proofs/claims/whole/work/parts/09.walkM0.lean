set_option maxHeartbeats 4000000 in
set_option maxRecDepth 100000 in
theorem c_X9_in (l : Launch) (dC : Nat → ClassId) (dI : Nat → Nat → Nat) (ad : Nat → Nat) (cI cJ cT : ClassId) (p0 : Int64) (p2 : Int64) (p4 : Int64) (I : SI) (J : SJ) {r0 : Int32} (hf : f_X9_in p0 p2 p4 = some r0) : CtI l yX9_in wsX9_in ({ frames := 0, cells := 0, slots := 0, locals := 0 } : Room) (dC, dI) (tys3 cI cJ cT) (wM ad cI cJ) [.long p0, .long p2, .long p4] I J r0 I J := by
  intro sz
  refine Met.ofW (cc := cX9_in) (maxL := 6) (ret := (some .boolean)) (by decide) rfl ?_
  intro p e s m args below meth c s₁ B hml hv
  obtain ⟨hargs, hsz, hP, hK, hD0⟩ := hv
  have hx := B.exec
  have hb := B.bytes
  have hr := B.returns
  have hts := atoms_spec (ws := wsX9_in) B.pre
  have hown : s.vm.findClass RX9 = some m.cls := findClass_of_methodNamed B.named
  have hlocks := B.notSynchronized
  subst hsz
  have hD := hD0.self (sz := s.heap.size)
  generalize hAe : va_A ((wM ad cI cJ) I J) s.heap.size = A at hD ⊢
  have hA : ∀ q : Nat, s.heap.size ≤ q → A q := fun q h => by rw [← hAe]; exact Or.inr h
  have hS : va_S A s.heap s.heap [] := va_S.rf
  have hl := lv_entry ([.long p0, .long p2, .long p4]) (n := 6) (Nat.le_of_ble_eq_true rfl)
  rw [hargs, lg_entry_eq, ← hargs]
  generalize (lg_sl ([.long p0, .long p2, .long p4]) ++ List.replicate (6 - (lg_sl ([.long p0, .long p2, .long p4])).length) Slot.unset).toArray = ls at hl ⊢
  have hl : lv_has ls 6 [(0, .long p0), (2, .long p2), (4, .long p4)] := hl
  have hfix : CallFix p m c cX9_in 6 s args wsX9_in RX9 := ⟨hx, hb, hml, hown, hts⟩
  unfold f_X9_in at hf
  refine lv_lload_n hx hb dX9_in_0 rfl (lv_at hl 0 rfl) ?_
  refine lv_lload_n hx hb dX9_in_1 rfl (lv_at hl 1 rfl) ?_
  refine W.lcmp hx hb dX9_in_2 ?_
  refine lv_if_lt (tgt := 17) hx hb dX9_in_3 (by decide) (fun c_1 => ?_) (fun c_1 => ?_)
  · have hf := (if_pos c_1).symm.trans hf
    refine lv_iconst (v := (0 : Int32)) hx hb dX9_in_17 (by decide) ?_
    cases hf
    exact xRz hx hb hr hlocks rfl hK hP hD hS (fun _ h => h) dX9_in_18
  · have hf := (if_neg c_1).symm.trans hf
    refine lv_lload_n hx hb dX9_in_6 rfl (lv_at hl 0 rfl) ?_
    refine lv_lload hx hb dX9_in_7 (lv_at hl 2 rfl) ?_
    refine W.lcmp hx hb dX9_in_9 ?_
    refine lv_if_gt (tgt := 17) hx hb dX9_in_10 (by decide) (fun c_2 => ?_) (fun c_2 => ?_)
    · have hf := (if_pos c_2).symm.trans hf
      refine lv_iconst (v := (0 : Int32)) hx hb dX9_in_17 (by decide) ?_
      cases hf
      exact xRz hx hb hr hlocks rfl hK hP hD hS (fun _ h => h) dX9_in_18
    · have hf := (if_neg c_2).symm.trans hf
      refine lv_iconst (v := (1 : Int32)) hx hb dX9_in_13 (by decide) ?_
      refine lv_goto (tgt := 18) hx hb dX9_in_14 (by decide) ?_
      cases hf
      exact xRz hx hb hr hlocks rfl hK hP hD hS (fun _ h => h) dX9_in_18
set_option maxHeartbeats 4000000 in
set_option maxRecDepth 100000 in
theorem c_X9_n (l : Launch) (dC : Nat → ClassId) (dI : Nat → Nat → Nat) (ad : Nat → Nat) (cI cJ cT : ClassId) (p1 : Int32) (p2 : Int32) (p3 : Int32) (p4 : Int32) (I : SI) (J : SJ) {r0 : Int32} (hf : f_X9_n p1 p2 p3 p4 I = some r0) : CtI l yX9_n wsX9_n ({ frames := 0, cells := 0, slots := 0, locals := 0 } : Room) (dC, dI) (tys3 cI cJ cT) (wM ad cI cJ) [.ref (ad 13), .int p1, .int p2, .int p3, .int p4] I J r0 I J := by
  intro sz
  refine Met.ofW (cc := cX9_n) (maxL := 5) (ret := (some .int)) (by decide) rfl ?_
  intro p e s m args below meth c s₁ B hml hv
  obtain ⟨hargs, hsz, hP, hK, hD0⟩ := hv
  have hx := B.exec
  have hb := B.bytes
  have hr := B.returns
  have hts := atoms_spec (ws := wsX9_n) B.pre
  have hown : s.vm.findClass RX9 = some m.cls := findClass_of_methodNamed B.named
  have hlocks := B.notSynchronized
  subst hsz
  have hD := hD0.self (sz := s.heap.size)
  generalize hAe : va_A ((wM ad cI cJ) I J) s.heap.size = A at hD ⊢
  have hA : ∀ q : Nat, s.heap.size ≤ q → A q := fun q h => by rw [← hAe]; exact Or.inr h
  have hS : va_S A s.heap s.heap [] := va_S.rf
  have hl := lv_entry ([.ref (ad 13), .int p1, .int p2, .int p3, .int p4]) (n := 5) (Nat.le_of_ble_eq_true rfl)
  rw [hargs, lg_entry_eq, ← hargs]
  generalize (lg_sl ([.ref (ad 13), .int p1, .int p2, .int p3, .int p4]) ++ List.replicate (5 - (lg_sl ([.ref (ad 13), .int p1, .int p2, .int p3, .int p4])).length) Slot.unset).toArray = ls at hl ⊢
  have hl : lv_has ls 5 [(0, .ref (ad 13)), (1, .int p1), (2, .int p2), (3, .int p3), (4, .int p4)] := hl
  have hfix : CallFix p m c cX9_n 5 s args wsX9_n RX9 := ⟨hx, hb, hml, hown, hts⟩
  have in_X9 : ∀ w ∈ u_ws RX9 TX9 15, w ∈ wsX9_n := by decide +kernel
  have wd_0 := hts (.fieldLink RX9 13 "FuseBenchModel" "cells" "[I") (by decide +kernel)
  unfold f_X9_n at hf
  refine lv_aload_n hx hb dX9_n_0 rfl (lv_at hl 0 rfl) ?_
  refine va_get (D := (dC, dI)) (ci := 8) (v := .ref (ad 1)) (C := RX9) (T := TX9) (N := 15) hx hb hts in_X9 hown hK hP 13 (obM_13 ad cI cJ I J) rfl 1 (by decide) wd_0 (fun _ h9 => h9) rfl dX9_n_1 ?_
  refine lv_bipush (v := (125 : Int32)) hx hb dX9_n_4 (by decide) ?_
  refine lv_iload_n hx hb dX9_n_6 rfl (lv_at hl 1 rfl) ?_
  refine lv_imul hx hb dX9_n_7 ?_
  refine lv_bipush (v := (25 : Int32)) hx hb dX9_n_8 (by decide) ?_
  refine lv_iload_n hx hb dX9_n_10 rfl (lv_at hl 2 rfl) ?_
  refine lv_imul hx hb dX9_n_11 ?_
  refine lv_iadd hx hb dX9_n_12 ?_
  refine lv_iconst (v := (5 : Int32)) hx hb dX9_n_13 (by decide) ?_
  refine lv_iload_n hx hb dX9_n_14 rfl (lv_at hl 3 rfl) ?_
  refine lv_imul hx hb dX9_n_15 ?_
  refine lv_iadd hx hb dX9_n_16 ?_
  refine lv_iload hx hb dX9_n_17 (lv_at hl 4 rfl) ?_
  refine lv_iadd hx hb dX9_n_19 ?_
  obtain ⟨h_1, hf⟩ := gd_some hf
  refine x_iald hx hb hK (aiM_1 ad cI cJ) hP h_1 dX9_n_20 ?_
  cases hf
  exact xRi hx hb hr hlocks hK hP hD hS (fun _ h => h) dX9_n_21
set_option maxHeartbeats 4000000 in
set_option maxRecDepth 100000 in
theorem c_X9_lay (l : Launch) (dC : Nat → ClassId) (dI : Nat → Nat → Nat) (ad : Nat → Nat) (cI cJ cT : ClassId) (p1 : Int32) (p2 : Int32) (p3 : Int32) (p4 : Int32) (p5 : Int32) (I : SI) (J : SJ) {I0 : SI} (hf : f_X9_lay p1 p2 p3 p4 p5 I = some I0) : CtV l yX9_lay wsX9_lay ({ frames := 0, cells := 0, slots := 0, locals := 0 } : Room) (dC, dI) (tys3 cI cJ cT) (wM ad cI cJ) [.ref (ad 13), .int p1, .int p2, .int p3, .int p4, .int p5] I J I0 J := by
  intro sz
  refine Met.ofW (cc := cX9_lay) (maxL := 6) (ret := none) (by decide) rfl ?_
  intro p e s m args below meth c s₁ B hml hv
  obtain ⟨hargs, hsz, hP, hK, hD0⟩ := hv
  have hx := B.exec
  have hb := B.bytes
  have hr := B.returns
  have hts := atoms_spec (ws := wsX9_lay) B.pre
  have hown : s.vm.findClass RX9 = some m.cls := findClass_of_methodNamed B.named
  have hlocks := B.notSynchronized
  subst hsz
  have hD := hD0.self (sz := s.heap.size)
  generalize hAe : va_A ((wM ad cI cJ) I J) s.heap.size = A at hD ⊢
  have hA : ∀ q : Nat, s.heap.size ≤ q → A q := fun q h => by rw [← hAe]; exact Or.inr h
  have hS : va_S A s.heap s.heap [] := va_S.rf
  have hl := lv_entry ([.ref (ad 13), .int p1, .int p2, .int p3, .int p4, .int p5]) (n := 6) (Nat.le_of_ble_eq_true rfl)
  rw [hargs, lg_entry_eq, ← hargs]
  generalize (lg_sl ([.ref (ad 13), .int p1, .int p2, .int p3, .int p4, .int p5]) ++ List.replicate (6 - (lg_sl ([.ref (ad 13), .int p1, .int p2, .int p3, .int p4, .int p5])).length) Slot.unset).toArray = ls at hl ⊢
  have hl : lv_has ls 6 [(0, .ref (ad 13)), (1, .int p1), (2, .int p2), (3, .int p3), (4, .int p4), (5, .int p5)] := hl
  have hfix : CallFix p m c cX9_lay 6 s args wsX9_lay RX9 := ⟨hx, hb, hml, hown, hts⟩
  have in_X9 : ∀ w ∈ u_ws RX9 TX9 15, w ∈ wsX9_lay := by decide +kernel
  have wd_0 := hts (.fieldLink RX9 13 "FuseBenchModel" "cells" "[I") (by decide +kernel)
  unfold f_X9_lay at hf
  refine lv_aload_n hx hb dX9_lay_0 rfl (lv_at hl 0 rfl) ?_
  refine va_get (D := (dC, dI)) (ci := 8) (v := .ref (ad 1)) (C := RX9) (T := TX9) (N := 15) hx hb hts in_X9 hown hK hP 13 (obM_13 ad cI cJ I J) rfl 1 (by decide) wd_0 (fun _ h9 => h9) rfl dX9_lay_1 ?_
  refine lv_bipush (v := (125 : Int32)) hx hb dX9_lay_4 (by decide) ?_
  refine lv_iload_n hx hb dX9_lay_6 rfl (lv_at hl 1 rfl) ?_
  refine lv_imul hx hb dX9_lay_7 ?_
  refine lv_bipush (v := (25 : Int32)) hx hb dX9_lay_8 (by decide) ?_
  refine lv_iload_n hx hb dX9_lay_10 rfl (lv_at hl 2 rfl) ?_
  refine lv_imul hx hb dX9_lay_11 ?_
  refine lv_iadd hx hb dX9_lay_12 ?_
  refine lv_iconst (v := (5 : Int32)) hx hb dX9_lay_13 (by decide) ?_
  refine lv_iload_n hx hb dX9_lay_14 rfl (lv_at hl 3 rfl) ?_
  refine lv_imul hx hb dX9_lay_15 ?_
  refine lv_iadd hx hb dX9_lay_16 ?_
  refine lv_iload hx hb dX9_lay_17 (lv_at hl 4 rfl) ?_
  refine lv_iadd hx hb dX9_lay_19 ?_
  refine lv_iload hx hb dX9_lay_20 (lv_at hl 5 rfl) ?_
  obtain ⟨h_1, hf⟩ := gd_some hf
  refine x_iast hx hb hK (aiM_1 ad cI cJ) hP hD hS h_1 dX9_lay_22 (fun H locs hP hD hS => ?_)
  cases hf
  exact xRv hx hb hr hlocks hK hP hD hS (fun _ h => h) dX9_lay_23
set_option maxHeartbeats 4000000 in
set_option maxRecDepth 100000 in
theorem c_X9_begin (l : Launch) (dC : Nat → ClassId) (dI : Nat → Nat → Nat) (ad : Nat → Nat) (cI cJ cT : ClassId) (p1 : Int32) (p2 : Int32) (I : SI) (J : SJ) {I0 : SI} (hf : f_X9_begin p1 p2 I = some I0) : CtV l yX9_begin wsX9_begin ({ frames := 1, cells := 0, slots := 0, locals := 25 } : Room) (dC, dI) (tys3 cI cJ cT) (wM ad cI cJ) [.ref (ad 13), .int p1, .int p2] I J I0 J := by
  intro sz
  refine Met.ofW (cc := cX9_begin) (maxL := 4) (ret := none) (by decide) rfl ?_
  intro p e s m args below meth c s₁ B hml hv
  obtain ⟨hargs, hsz, hP, hK, hD0⟩ := hv
  have hx := B.exec
  have hb := B.bytes
  have hr := B.returns
  have hts := atoms_spec (ws := wsX9_begin) B.pre
  have hown : s.vm.findClass RX9 = some m.cls := findClass_of_methodNamed B.named
  have hlocks := B.notSynchronized
  subst hsz
  have hD := hD0.self (sz := s.heap.size)
  generalize hAe : va_A ((wM ad cI cJ) I J) s.heap.size = A at hD ⊢
  have hA : ∀ q : Nat, s.heap.size ≤ q → A q := fun q h => by rw [← hAe]; exact Or.inr h
  have hS : va_S A s.heap s.heap [] := va_S.rf
  have hl := lv_entry ([.ref (ad 13), .int p1, .int p2]) (n := 4) (Nat.le_of_ble_eq_true rfl)
  rw [hargs, lg_entry_eq, ← hargs]
  generalize (lg_sl ([.ref (ad 13), .int p1, .int p2]) ++ List.replicate (4 - (lg_sl ([.ref (ad 13), .int p1, .int p2])).length) Slot.unset).toArray = ls at hl ⊢
  have hl : lv_has ls 4 [(0, .ref (ad 13)), (1, .int p1), (2, .int p2)] := hl
  have hfix : CallFix p m c cX9_begin 4 s args wsX9_begin RX9 := ⟨hx, hb, hml, hown, hts⟩
  have in_X9 : ∀ w ∈ u_ws RX9 TX9 15, w ∈ wsX9_begin := by decide +kernel
  have wd_0 := hts (.fieldLink RX9 13 "FuseBenchModel" "cells" "[I") (by decide +kernel)
  have wd_1 := hts (.fieldLink RX9 7 "FuseBenchModel" "ranks" "[I") (by decide +kernel)
  have L9 : ∀ (Q : State → Prop) (v1 : Int32) (v2 : Int32) (J : SJ) (o : SI), (∀  (I : SI) (H : Heap) (locs : List Loc) (ls : Array Slot), o = I → va_P (dC, dI) vwCl ((wM ad cI cJ) I J) H → va_D A ((wM ad cI cJ) I J) → va_S A s.heap H locs → lv_has ls 4 [(0, .ref (ad 13)), (1, .int v1), (2, .int v2)] → W p l e ({ frames := 1, cells := 0, slots := 0, locals := 25 } : Room) s m args below meth c H locs 0 0 Q (F0 m 33 ls [])) → ∀ (n : Nat) (v3 : Int32) (I : SI) (H : Heap) (locs : List Loc) (ls : Array Slot), lp_X9_begin_9 v1 v2 n v3 I = some o → va_P (dC, dI) vwCl ((wM ad cI cJ) I J) H → va_D A ((wM ad cI cJ) I J) → va_S A s.heap H locs → lv_has ls 4 [(0, .ref (ad 13)), (1, .int v1), (2, .int v2), (3, .int v3)] → W p l e ({ frames := 1, cells := 0, slots := 0, locals := 25 } : Room) s m args below meth c H locs 0 0 Q (F0 m 9 ls []) := by
    intro Q v1 v2 J o K0 n
    clear hP hD hS hl
    induction n with
    | zero =>
      intro v3 I H locs ls hf
      rw [lp_X9_begin_9.eq_1] at hf
      cases hf
    | succ n ih =>
      intro v3 I H locs ls hf hP hD hS hl
      rw [lp_X9_begin_9.eq_2] at hf
      refine lv_iload_n hx hb dX9_begin_9 rfl (lv_at hl 3 rfl) ?_
      refine lv_bipush (v := (125 : Int32)) hx hb dX9_begin_10 (by decide) ?_
      refine lv_icmp_ge (tgt := 33) hx hb dX9_begin_12 (by decide) (fun c_1 => ?_) (fun c_1 => ?_)
      · have hf := (if_pos c_1).symm.trans hf
        exact K0 _ _ _ _ (Option.some.inj hf).symm hP hD hS (lv_sub hl [0, 1, 2] rfl)
      · have hf := (if_neg c_1).symm.trans hf
        refine lv_aload_n hx hb dX9_begin_15 rfl (lv_at hl 0 rfl) ?_
        refine va_get (D := (dC, dI)) (ci := 8) (v := .ref (ad 1)) (C := RX9) (T := TX9) (N := 15) hx hb hts in_X9 hown hK hP 13 (obM_13 ad cI cJ I J) rfl 1 (by decide) wd_0 (fun _ h9 => h9) rfl dX9_begin_16 ?_
        refine lv_bipush (v := (125 : Int32)) hx hb dX9_begin_19 (by decide) ?_
        refine lv_iload_n hx hb dX9_begin_21 rfl (lv_at hl 1 rfl) ?_
        refine lv_imul hx hb dX9_begin_22 ?_
        refine lv_iload_n hx hb dX9_begin_23 rfl (lv_at hl 3 rfl) ?_
        refine lv_iadd hx hb dX9_begin_24 ?_
        refine lv_iconst (v := (0 : Int32)) hx hb dX9_begin_25 (by decide) ?_
        obtain ⟨h_2, hf⟩ := gd_some hf
        refine x_iast hx hb hK (aiM_1 ad cI cJ) hP hD hS h_2 dX9_begin_26 (fun H locs hP hD hS => ?_)
        refine lv_iinc (v := (v3 + (1 : Int32))) (lv' := [(3, .int (v3 + (1 : Int32))), (0, .ref (ad 13)), (1, .int v1), (2, .int v2)]) hx hb dX9_begin_27 hl (k := 3) rfl (by first | rfl | decide) (by decide) rfl (fun ls hl => ?_)
        refine lv_goto (tgt := 9) hx hb dX9_begin_30 (by decide) ?_
        exact ih _ _ _ _ _ hf hP hD hS (lv_sub hl [1, 2, 3, 0] rfl)
  have L35 : ∀ (Q : State → Prop) (v1 : Int32) (v2 : Int32) (J : SJ) (o : SI), (∀  (I : SI) (H : Heap) (locs : List Loc) (ls : Array Slot), o = I → va_P (dC, dI) vwCl ((wM ad cI cJ) I J) H → va_D A ((wM ad cI cJ) I J) → va_S A s.heap H locs → lv_has ls 4 [] → W p l e ({ frames := 1, cells := 0, slots := 0, locals := 25 } : Room) s m args below meth c H locs 0 0 Q (F0 m 64 ls [])) → ∀ (n : Nat) (v3 : Int32) (I : SI) (H : Heap) (locs : List Loc) (ls : Array Slot), lp_X9_begin_35 v1 v2 n v3 I = some o → va_P (dC, dI) vwCl ((wM ad cI cJ) I J) H → va_D A ((wM ad cI cJ) I J) → va_S A s.heap H locs → lv_has ls 4 [(0, .ref (ad 13)), (1, .int v1), (2, .int v2), (3, .int v3)] → W p l e ({ frames := 1, cells := 0, slots := 0, locals := 25 } : Room) s m args below meth c H locs 0 0 Q (F0 m 35 ls []) := by
    intro Q v1 v2 J o K0 n
    clear hP hD hS hl
    induction n with
    | zero =>
      intro v3 I H locs ls hf
      rw [lp_X9_begin_35.eq_1] at hf
      cases hf
    | succ n ih =>
      intro v3 I H locs ls hf hP hD hS hl
      rw [lp_X9_begin_35.eq_2] at hf
      refine lv_iload_n hx hb dX9_begin_35 rfl (lv_at hl 3 rfl) ?_
      refine lv_iload_n hx hb dX9_begin_36 rfl (lv_at hl 2 rfl) ?_
      refine lv_icmp_ge (tgt := 64) hx hb dX9_begin_37 (by decide) (fun c_3 => ?_) (fun c_3 => ?_)
      · have hf := (if_pos c_3).symm.trans hf
        exact K0 _ _ _ _ (Option.some.inj hf).symm hP hD hS (lv_sub hl [] rfl)
      · have hf := (if_neg c_3).symm.trans hf
        refine lv_aload_n hx hb dX9_begin_40 rfl (lv_at hl 0 rfl) ?_
        refine lv_iload_n hx hb dX9_begin_41 rfl (lv_at hl 1 rfl) ?_
        refine lv_iconst (v := (0 : Int32)) hx hb dX9_begin_42 (by decide) ?_
        refine lv_iload_n hx hb dX9_begin_43 rfl (lv_at hl 3 rfl) ?_
        refine lv_iload_n hx hb dX9_begin_44 rfl (lv_at hl 3 rfl) ?_
        refine lv_iconst (v := (1 : Int32)) hx hb dX9_begin_45 (by decide) ?_
        obtain ⟨I_4, hg_4, hf⟩ := bd_some hf
        refine xVv (rest := []) (c_X9_lay l dC dI ad cI cJ cT v1 (0 : Int32) v3 v3 (1 : Int32) I J hg_4) hfix (cwV 5 hts gX9_begin_X9_lay rfl rfl rfl (by decide +kernel) ⟨Nat.le_of_ble_eq_true rfl, Nat.le_of_ble_eq_true rfl⟩) hK hP hD hS hA (va_recv hK hP (ci := 8) (q0 := 13) rfl (obM_13 ad cI cJ I J)) rfl hl.1 rfl (Nat.le_of_ble_eq_true rfl) ⟨Nat.zero_le _, Nat.zero_le _⟩ dX9_begin_46 (fun H locs hP hD hS => ?_)
        refine lv_aload_n hx hb dX9_begin_49 rfl (lv_at hl 0 rfl) ?_
        refine lv_iload_n hx hb dX9_begin_50 rfl (lv_at hl 1 rfl) ?_
        refine lv_iload_n hx hb dX9_begin_51 rfl (lv_at hl 3 rfl) ?_
        refine lv_iconst (v := (0 : Int32)) hx hb dX9_begin_52 (by decide) ?_
        refine lv_iload_n hx hb dX9_begin_53 rfl (lv_at hl 3 rfl) ?_
        refine lv_iconst (v := (1 : Int32)) hx hb dX9_begin_54 (by decide) ?_
        obtain ⟨I_5, hg_5, hf⟩ := bd_some hf
        refine xVv (rest := []) (c_X9_lay l dC dI ad cI cJ cT v1 v3 (0 : Int32) v3 (1 : Int32) I_4 J hg_5) hfix (cwV 5 hts gX9_begin_X9_lay rfl rfl rfl (by decide +kernel) ⟨Nat.le_of_ble_eq_true rfl, Nat.le_of_ble_eq_true rfl⟩) hK hP hD hS hA (va_recv hK hP (ci := 8) (q0 := 13) rfl (obM_13 ad cI cJ I_4 J)) rfl hl.1 rfl (Nat.le_of_ble_eq_true rfl) ⟨Nat.zero_le _, Nat.zero_le _⟩ dX9_begin_55 (fun H locs hP hD hS => ?_)
        refine lv_iinc (v := (v3 + (1 : Int32))) (lv' := [(3, .int (v3 + (1 : Int32))), (0, .ref (ad 13)), (1, .int v1), (2, .int v2)]) hx hb dX9_begin_58 hl (k := 3) rfl (by first | rfl | decide) (by decide) rfl (fun ls hl => ?_)
        refine lv_goto (tgt := 35) hx hb dX9_begin_61 (by decide) ?_
        exact ih _ _ _ _ _ hf hP hD hS (lv_sub hl [1, 2, 3, 0] rfl)
  unfold f_X9_begin at hf
  refine lv_aload_n hx hb dX9_begin_0 rfl (lv_at hl 0 rfl) ?_
  refine va_get (D := (dC, dI)) (ci := 8) (v := .ref (ad 0)) (C := RX9) (T := TX9) (N := 15) hx hb hts in_X9 hown hK hP 13 (obM_13 ad cI cJ I J) rfl 0 (by decide) wd_1 (fun _ h9 => h9) rfl dX9_begin_1 ?_
  refine lv_iload_n hx hb dX9_begin_4 rfl (lv_at hl 1 rfl) ?_
  refine lv_iload_n hx hb dX9_begin_5 rfl (lv_at hl 2 rfl) ?_
  obtain ⟨h_6, hf⟩ := gd_some hf
  refine x_iast hx hb hK (aiM_0 ad cI cJ) hP hD hS h_6 dX9_begin_6 (fun H locs hP hD hS => ?_)
  refine lv_iconst (v := (0 : Int32)) hx hb dX9_begin_7 (by decide) ?_
  refine lv_istore_n (lv' := [(3, .int (0 : Int32)), (0, .ref (ad 13)), (1, .int p1), (2, .int p2)]) hx hb dX9_begin_8 rfl hl (by decide) rfl (fun ls hl => ?_)
  obtain ⟨o_7, hg_7, hf⟩ := bd_some hf
  refine L9 _ p1 p2 J o_7 ?_ FU (0 : Int32) (ups I 0 p1.toNatClampNeg p2) _ _ _ hg_7 hP hD hS (lv_sub hl [1, 2, 3, 0] rfl)
  · intro I_7 H locs ls ho hP hD hS hl
    subst o_7
    refine lv_iconst (v := (0 : Int32)) hx hb dX9_begin_33 (by decide) ?_
    refine lv_istore_n (lv' := [(3, .int (0 : Int32)), (0, .ref (ad 13)), (1, .int p1), (2, .int p2)]) hx hb dX9_begin_34 rfl hl (by decide) rfl (fun ls hl => ?_)
    obtain ⟨o_8, hg_8, hf⟩ := bd_some hf
    refine L35 _ p1 p2 J o_8 ?_ FU (0 : Int32) I_7 _ _ _ hg_8 hP hD hS (lv_sub hl [1, 2, 3, 0] rfl)
    · intro I_8 H locs ls ho hP hD hS hl
      subst o_8
      cases hf
      exact xRv hx hb hr hlocks hK hP hD hS (fun _ h => h) dX9_begin_64
set_option maxHeartbeats 4000000 in
set_option maxRecDepth 100000 in
theorem c_X9_carry (l : Launch) (dC : Nat → ClassId) (dI : Nat → Nat → Nat) (ad : Nat → Nat) (cI cJ cT : ClassId) (p1 : Int32) (p2 : Int32) (I : SI) (J : SJ) {I0 : SI} (hf : f_X9_carry p1 p2 I = some I0) : CtV l yX9_carry wsX9_carry ({ frames := 0, cells := 0, slots := 0, locals := 0 } : Room) (dC, dI) (tys3 cI cJ cT) (wM ad cI cJ) [.ref (ad 13), .int p1, .int p2] I J I0 J := by
  intro sz
  refine Met.ofW (cc := cX9_carry) (maxL := 4) (ret := none) (by decide) rfl ?_
  intro p e s m args below meth c s₁ B hml hv
  obtain ⟨hargs, hsz, hP, hK, hD0⟩ := hv
  have hx := B.exec
  have hb := B.bytes
  have hr := B.returns
  have hts := atoms_spec (ws := wsX9_carry) B.pre
  have hown : s.vm.findClass RX9 = some m.cls := findClass_of_methodNamed B.named
  have hlocks := B.notSynchronized
  subst hsz
  have hD := hD0.self (sz := s.heap.size)
  generalize hAe : va_A ((wM ad cI cJ) I J) s.heap.size = A at hD ⊢
  have hA : ∀ q : Nat, s.heap.size ≤ q → A q := fun q h => by rw [← hAe]; exact Or.inr h
  have hS : va_S A s.heap s.heap [] := va_S.rf
  have hl := lv_entry ([.ref (ad 13), .int p1, .int p2]) (n := 4) (Nat.le_of_ble_eq_true rfl)
  rw [hargs, lg_entry_eq, ← hargs]
  generalize (lg_sl ([.ref (ad 13), .int p1, .int p2]) ++ List.replicate (4 - (lg_sl ([.ref (ad 13), .int p1, .int p2])).length) Slot.unset).toArray = ls at hl ⊢
  have hl : lv_has ls 4 [(0, .ref (ad 13)), (1, .int p1), (2, .int p2)] := hl
  have hfix : CallFix p m c cX9_carry 4 s args wsX9_carry RX9 := ⟨hx, hb, hml, hown, hts⟩
  have in_X9 : ∀ w ∈ u_ws RX9 TX9 15, w ∈ wsX9_carry := by decide +kernel
  have wd_0 := hts (.fieldLink RX9 13 "FuseBenchModel" "cells" "[I") (by decide +kernel)
  have wd_1 := hts (.fieldLink RX9 7 "FuseBenchModel" "ranks" "[I") (by decide +kernel)
  have L14 : ∀ (Q : State → Prop) (v1 : Int32) (v2 : Int32) (J : SJ) (o : SI), (∀  (I : SI) (H : Heap) (locs : List Loc) (ls : Array Slot), o = I → va_P (dC, dI) vwCl ((wM ad cI cJ) I J) H → va_D A ((wM ad cI cJ) I J) → va_S A s.heap H locs → lv_has ls 4 [] → W p l e ({ frames := 0, cells := 0, slots := 0, locals := 0 } : Room) s m args below meth c H locs 0 0 Q (F0 m 48 ls [])) → ∀ (n : Nat) (v3 : Int32) (I : SI) (H : Heap) (locs : List Loc) (ls : Array Slot), lp_X9_carry_14 v1 v2 n v3 I = some o → va_P (dC, dI) vwCl ((wM ad cI cJ) I J) H → va_D A ((wM ad cI cJ) I J) → va_S A s.heap H locs → lv_has ls 4 [(0, .ref (ad 13)), (1, .int v1), (2, .int v2), (3, .int v3)] → W p l e ({ frames := 0, cells := 0, slots := 0, locals := 0 } : Room) s m args below meth c H locs 0 0 Q (F0 m 14 ls []) := by
    intro Q v1 v2 J o K0 n
    clear hP hD hS hl
    induction n with
    | zero =>
      intro v3 I H locs ls hf
      rw [lp_X9_carry_14.eq_1] at hf
      cases hf
    | succ n ih =>
      intro v3 I H locs ls hf hP hD hS hl
      rw [lp_X9_carry_14.eq_2] at hf
      refine lv_iload_n hx hb dX9_carry_14 rfl (lv_at hl 3 rfl) ?_
      refine lv_bipush (v := (125 : Int32)) hx hb dX9_carry_15 (by decide) ?_
      refine lv_icmp_ge (tgt := 48) hx hb dX9_carry_17 (by decide) (fun c_1 => ?_) (fun c_1 => ?_)
      · have hf := (if_pos c_1).symm.trans hf
        exact K0 _ _ _ _ (Option.some.inj hf).symm hP hD hS (lv_sub hl [] rfl)
      · have hf := (if_neg c_1).symm.trans hf
        refine lv_aload_n hx hb dX9_carry_20 rfl (lv_at hl 0 rfl) ?_
        refine va_get (D := (dC, dI)) (ci := 8) (v := .ref (ad 1)) (C := RX9) (T := TX9) (N := 15) hx hb hts in_X9 hown hK hP 13 (obM_13 ad cI cJ I J) rfl 1 (by decide) wd_0 (fun _ h9 => h9) rfl dX9_carry_21 ?_
        refine lv_bipush (v := (125 : Int32)) hx hb dX9_carry_24 (by decide) ?_
        refine lv_iload_n hx hb dX9_carry_26 rfl (lv_at hl 2 rfl) ?_
        refine lv_imul hx hb dX9_carry_27 ?_
        refine lv_iload_n hx hb dX9_carry_28 rfl (lv_at hl 3 rfl) ?_
        refine lv_iadd hx hb dX9_carry_29 ?_
        refine lv_aload_n hx hb dX9_carry_30 rfl (lv_at hl 0 rfl) ?_
        refine va_get (D := (dC, dI)) (ci := 8) (v := .ref (ad 1)) (C := RX9) (T := TX9) (N := 15) hx hb hts in_X9 hown hK hP 13 (obM_13 ad cI cJ I J) rfl 1 (by decide) wd_0 (fun _ h9 => h9) rfl dX9_carry_31 ?_
        refine lv_bipush (v := (125 : Int32)) hx hb dX9_carry_34 (by decide) ?_
        refine lv_iload_n hx hb dX9_carry_36 rfl (lv_at hl 1 rfl) ?_
        refine lv_imul hx hb dX9_carry_37 ?_
        refine lv_iload_n hx hb dX9_carry_38 rfl (lv_at hl 3 rfl) ?_
        refine lv_iadd hx hb dX9_carry_39 ?_
        obtain ⟨h_2, hf⟩ := gd_some hf
        refine x_iald hx hb hK (aiM_1 ad cI cJ) hP h_2 dX9_carry_40 ?_
        obtain ⟨h_3, hf⟩ := gd_some hf
        refine x_iast hx hb hK (aiM_1 ad cI cJ) hP hD hS h_3 dX9_carry_41 (fun H locs hP hD hS => ?_)
        refine lv_iinc (v := (v3 + (1 : Int32))) (lv' := [(3, .int (v3 + (1 : Int32))), (0, .ref (ad 13)), (1, .int v1), (2, .int v2)]) hx hb dX9_carry_42 hl (k := 3) rfl (by first | rfl | decide) (by decide) rfl (fun ls hl => ?_)
        refine lv_goto (tgt := 14) hx hb dX9_carry_45 (by decide) ?_
        exact ih _ _ _ _ _ hf hP hD hS (lv_sub hl [1, 2, 3, 0] rfl)
  unfold f_X9_carry at hf
  refine lv_aload_n hx hb dX9_carry_0 rfl (lv_at hl 0 rfl) ?_
  refine va_get (D := (dC, dI)) (ci := 8) (v := .ref (ad 0)) (C := RX9) (T := TX9) (N := 15) hx hb hts in_X9 hown hK hP 13 (obM_13 ad cI cJ I J) rfl 0 (by decide) wd_1 (fun _ h9 => h9) rfl dX9_carry_1 ?_
  refine lv_iload_n hx hb dX9_carry_4 rfl (lv_at hl 2 rfl) ?_
  refine lv_aload_n hx hb dX9_carry_5 rfl (lv_at hl 0 rfl) ?_
  refine va_get (D := (dC, dI)) (ci := 8) (v := .ref (ad 0)) (C := RX9) (T := TX9) (N := 15) hx hb hts in_X9 hown hK hP 13 (obM_13 ad cI cJ I J) rfl 0 (by decide) wd_1 (fun _ h9 => h9) rfl dX9_carry_6 ?_
  refine lv_iload_n hx hb dX9_carry_9 rfl (lv_at hl 1 rfl) ?_
  obtain ⟨h_4, hf⟩ := gd_some hf
  refine x_iald hx hb hK (aiM_0 ad cI cJ) hP h_4 dX9_carry_10 ?_
  obtain ⟨h_5, hf⟩ := gd_some hf
  refine x_iast hx hb hK (aiM_0 ad cI cJ) hP hD hS h_5 dX9_carry_11 (fun H locs hP hD hS => ?_)
  refine lv_iconst (v := (0 : Int32)) hx hb dX9_carry_12 (by decide) ?_
  refine lv_istore_n (lv' := [(3, .int (0 : Int32)), (0, .ref (ad 13)), (1, .int p1), (2, .int p2)]) hx hb dX9_carry_13 rfl hl (by decide) rfl (fun ls hl => ?_)
  obtain ⟨o_6, hg_6, hf⟩ := bd_some hf
  refine L14 _ p1 p2 J o_6 ?_ FU (0 : Int32) (ups I 0 p2.toNatClampNeg (I 0 p1.toNatClampNeg)) _ _ _ hg_6 hP hD hS (lv_sub hl [1, 2, 3, 0] rfl)
  · intro I_6 H locs ls ho hP hD hS hl
    subst o_6
    cases hf
    exact xRv hx hb hr hlocks hK hP hD hS (fun _ h => h) dX9_carry_48
set_option maxHeartbeats 4000000 in
set_option maxRecDepth 100000 in
theorem c_X9_noTable (l : Launch) (dC : Nat → ClassId) (dI : Nat → Nat → Nat) (ad : Nat → Nat) (cI cJ cT : ClassId) (p0 : Int32) (I : SI) (J : SJ) {r0 : Int32} (hf : f_X9_noTable p0 = some r0) : CtI l yX9_noTable wsX9_noTable ({ frames := 1, cells := 0, slots := 0, locals := 25 } : Room) (dC, dI) (tys3 cI cJ cT) (wM ad cI cJ) [.int p0] I J r0 I J := by
  intro sz
  refine Met.ofW (cc := cX9_noTable) (maxL := 1) (ret := (some .boolean)) (by decide) rfl ?_
  intro p e s m args below meth c s₁ B hml hv
  obtain ⟨hargs, hsz, hP, hK, hD0⟩ := hv
  have hx := B.exec
  have hb := B.bytes
  have hr := B.returns
  have hts := atoms_spec (ws := wsX9_noTable) B.pre
  have hown : s.vm.findClass RX9 = some m.cls := findClass_of_methodNamed B.named
  have hlocks := B.notSynchronized
  subst hsz
  have hD := hD0.self (sz := s.heap.size)
  generalize hAe : va_A ((wM ad cI cJ) I J) s.heap.size = A at hD ⊢
  have hA : ∀ q : Nat, s.heap.size ≤ q → A q := fun q h => by rw [← hAe]; exact Or.inr h
  have hS : va_S A s.heap s.heap [] := va_S.rf
  have hl := lv_entry ([.int p0]) (n := 1) (Nat.le_of_ble_eq_true rfl)
  rw [hargs, lg_entry_eq, ← hargs]
  generalize (lg_sl ([.int p0]) ++ List.replicate (1 - (lg_sl ([.int p0])).length) Slot.unset).toArray = ls at hl ⊢
  have hl : lv_has ls 1 [(0, .int p0)] := hl
  have hfix : CallFix p m c cX9_noTable 1 s args wsX9_noTable RX9 := ⟨hx, hb, hml, hown, hts⟩
  have wd_0 := hts (.constantLong RX9 58 (5)) (by decide +kernel)
  unfold f_X9_noTable at hf
  refine lv_iload_n hx hb dX9_noTable_0 rfl (lv_at hl 0 rfl) ?_
  refine lv_i2l (v := p0.toInt64) hx hb dX9_noTable_1 rfl ?_
  refine lv_lconst (v := (0 : Int64)) hx hb dX9_noTable_2 (by decide) ?_
  refine lv_ldc2 (v := (5 : Int64)) hx hb hown wd_0 dX9_noTable_3 ?_
  obtain ⟨r_1, hg_1, hf⟩ := bd_some hf
  refine xSi (rest := []) (c_X9_in l dC dI ad cI cJ cT (p0.toInt64) (0 : Int64) (5 : Int64) I J hg_1) hfix (va_cwS 3 hts gX9_noTable_X9_in rfl rfl rfl (by decide +kernel) ⟨Nat.le_of_ble_eq_true rfl, Nat.le_of_ble_eq_true rfl⟩) hK hP hD hS hA rfl hl.1 rfl (Nat.le_of_ble_eq_true rfl) ⟨Nat.zero_le _, Nat.zero_le _⟩ dX9_noTable_6 (fun H locs hP hD hS => ?_)
  refine lv_if_ne (tgt := 16) hx hb dX9_noTable_9 (by decide) (fun c_2 => ?_) (fun c_2 => ?_)
  · have hf := (if_neg c_2).symm.trans hf
    refine lv_iconst (v := (0 : Int32)) hx hb dX9_noTable_16 (by decide) ?_
    cases hf
    exact xRz hx hb hr hlocks rfl hK hP hD hS (fun _ h => h) dX9_noTable_17
  · have hf := (if_pos c_2).symm.trans hf
    refine lv_iconst (v := (1 : Int32)) hx hb dX9_noTable_12 (by decide) ?_
    refine lv_goto (tgt := 17) hx hb dX9_noTable_13 (by decide) ?_
    cases hf
    exact xRz hx hb hr hlocks rfl hK hP hD hS (fun _ h => h) dX9_noTable_17
set_option maxHeartbeats 4000000 in
set_option maxRecDepth 100000 in
theorem c_X9_isKind (l : Launch) (dC : Nat → ClassId) (dI : Nat → Nat → Nat) (ad : Nat → Nat) (cI cJ cT : ClassId) (p1 : Int32) (p2 : Int32) (I : SI) (J : SJ) {r0 : Int32} (hf : f_X9_isKind p1 p2 I = some r0) : CtI l yX9_isKind wsX9_isKind ({ frames := 1, cells := 0, slots := 0, locals := 25 } : Room) (dC, dI) (tys3 cI cJ cT) (wM ad cI cJ) [.ref (ad 13), .int p1, .int p2] I J r0 I J := by
  intro sz
  refine Met.ofW (cc := cX9_isKind) (maxL := 3) (ret := (some .boolean)) (by decide) rfl ?_
  intro p e s m args below meth c s₁ B hml hv
  obtain ⟨hargs, hsz, hP, hK, hD0⟩ := hv
  have hx := B.exec
  have hb := B.bytes
  have hr := B.returns
  have hts := atoms_spec (ws := wsX9_isKind) B.pre
  have hown : s.vm.findClass RX9 = some m.cls := findClass_of_methodNamed B.named
  have hlocks := B.notSynchronized
  subst hsz
  have hD := hD0.self (sz := s.heap.size)
  generalize hAe : va_A ((wM ad cI cJ) I J) s.heap.size = A at hD ⊢
  have hA : ∀ q : Nat, s.heap.size ≤ q → A q := fun q h => by rw [← hAe]; exact Or.inr h
  have hS : va_S A s.heap s.heap [] := va_S.rf
  have hl := lv_entry ([.ref (ad 13), .int p1, .int p2]) (n := 3) (Nat.le_of_ble_eq_true rfl)
  rw [hargs, lg_entry_eq, ← hargs]
  generalize (lg_sl ([.ref (ad 13), .int p1, .int p2]) ++ List.replicate (3 - (lg_sl ([.ref (ad 13), .int p1, .int p2])).length) Slot.unset).toArray = ls at hl ⊢
  have hl : lv_has ls 3 [(0, .ref (ad 13)), (1, .int p1), (2, .int p2)] := hl
  have hfix : CallFix p m c cX9_isKind 3 s args wsX9_isKind RX9 := ⟨hx, hb, hml, hown, hts⟩
  have in_X9 : ∀ w ∈ u_ws RX9 TX9 15, w ∈ wsX9_isKind := by decide +kernel
  have wd_0 := hts (.fieldLink RX9 7 "FuseBenchModel" "ranks" "[I") (by decide +kernel)
  unfold f_X9_isKind at hf
  refine lv_iload_n hx hb dX9_isKind_0 rfl (lv_at hl 2 rfl) ?_
  refine lv_i2l (v := p2.toInt64) hx hb dX9_isKind_1 rfl ?_
  refine lv_lconst (v := (0 : Int64)) hx hb dX9_isKind_2 (by decide) ?_
  refine lv_aload_n hx hb dX9_isKind_3 rfl (lv_at hl 0 rfl) ?_
  refine va_get (D := (dC, dI)) (ci := 8) (v := .ref (ad 0)) (C := RX9) (T := TX9) (N := 15) hx hb hts in_X9 hown hK hP 13 (obM_13 ad cI cJ I J) rfl 0 (by decide) wd_0 (fun _ h9 => h9) rfl dX9_isKind_4 ?_
  refine lv_iload_n hx hb dX9_isKind_7 rfl (lv_at hl 1 rfl) ?_
  obtain ⟨h_1, hf⟩ := gd_some hf
  refine x_iald hx hb hK (aiM_0 ad cI cJ) hP h_1 dX9_isKind_8 ?_
  refine lv_iconst (v := (1 : Int32)) hx hb dX9_isKind_9 (by decide) ?_
  refine lv_isub hx hb dX9_isKind_10 ?_
  refine lv_i2l (v := ((I 0 p1.toNatClampNeg) - (1 : Int32)).toInt64) hx hb dX9_isKind_11 rfl ?_
  obtain ⟨r_2, hg_2, hf⟩ := bd_some hf
  refine xSi (rest := []) (c_X9_in l dC dI ad cI cJ cT (p2.toInt64) (0 : Int64) (((I 0 p1.toNatClampNeg) - (1 : Int32)).toInt64) I J hg_2) hfix (va_cwS 3 hts gX9_isKind_X9_in rfl rfl rfl (by decide +kernel) ⟨Nat.le_of_ble_eq_true rfl, Nat.le_of_ble_eq_true rfl⟩) hK hP hD hS hA rfl hl.1 rfl (Nat.le_of_ble_eq_true rfl) ⟨Nat.zero_le _, Nat.zero_le _⟩ dX9_isKind_12 (fun H locs hP hD hS => ?_)
  obtain ⟨h_3, hf⟩ := gd_some hf
  cases hf
  exact xRz hx hb hr hlocks (nz h_3) hK hP hD hS (fun _ h => h) dX9_isKind_15
set_option maxHeartbeats 4000000 in
set_option maxRecDepth 100000 in
theorem c_X9_rank (l : Launch) (dC : Nat → ClassId) (dI : Nat → Nat → Nat) (ad : Nat → Nat) (cI cJ cT : ClassId) (p1 : Int32) (p2 : Int32) (I : SI) (J : SJ) {r0 : Int32} {I0 : SI} (hf : f_X9_rank p1 p2 I = some (r0, I0)) : CtI l yX9_rank wsX9_rank ({ frames := 2, cells := 0, slots := 0, locals := 48 } : Room) (dC, dI) (tys3 cI cJ cT) (wM ad cI cJ) [.ref (ad 13), .int p1, .int p2] I J r0 I0 J := by
  intro sz
  refine Met.ofW (cc := cX9_rank) (maxL := 3) (ret := (some .int)) (by decide) rfl ?_
  intro p e s m args below meth c s₁ B hml hv
  obtain ⟨hargs, hsz, hP, hK, hD0⟩ := hv
  have hx := B.exec
  have hb := B.bytes
  have hr := B.returns
  have hts := atoms_spec (ws := wsX9_rank) B.pre
  have hown : s.vm.findClass RX9 = some m.cls := findClass_of_methodNamed B.named
  have hlocks := B.notSynchronized
  subst hsz
  have hD := hD0.self (sz := s.heap.size)
  generalize hAe : va_A ((wM ad cI cJ) I J) s.heap.size = A at hD ⊢
  have hA : ∀ q : Nat, s.heap.size ≤ q → A q := fun q h => by rw [← hAe]; exact Or.inr h
  have hS : va_S A s.heap s.heap [] := va_S.rf
  have hl := lv_entry ([.ref (ad 13), .int p1, .int p2]) (n := 3) (Nat.le_of_ble_eq_true rfl)
  rw [hargs, lg_entry_eq, ← hargs]
  generalize (lg_sl ([.ref (ad 13), .int p1, .int p2]) ++ List.replicate (3 - (lg_sl ([.ref (ad 13), .int p1, .int p2])).length) Slot.unset).toArray = ls at hl ⊢
  have hl : lv_has ls 3 [(0, .ref (ad 13)), (1, .int p1), (2, .int p2)] := hl
  have hfix : CallFix p m c cX9_rank 3 s args wsX9_rank RX9 := ⟨hx, hb, hml, hown, hts⟩
  have wd_0 := hts (.constantLong RX9 58 (5)) (by decide +kernel)
  unfold f_X9_rank at hf
  refine lv_iload_n hx hb dX9_rank_0 rfl (lv_at hl 1 rfl) ?_
  obtain ⟨r_1, hg_1, hf⟩ := bd_some hf
  refine xSi (rest := []) (c_X9_noTable l dC dI ad cI cJ cT p1 I J hg_1) hfix (va_cwS 1 hts gX9_rank_X9_noTable rfl rfl rfl (by decide +kernel) ⟨Nat.le_of_ble_eq_true rfl, Nat.le_of_ble_eq_true rfl⟩) hK hP hD hS hA rfl hl.1 rfl (Nat.le_of_ble_eq_true rfl) ⟨Nat.zero_le _, Nat.zero_le _⟩ dX9_rank_1 (fun H locs hP hD hS => ?_)
  refine lv_if_ne (tgt := 19) hx hb dX9_rank_4 (by decide) (fun c_2 => ?_) (fun c_2 => ?_)
  · have hf := (if_neg c_2).symm.trans hf
    refine lv_bipush (v := (-2 : Int32)) hx hb dX9_rank_19 (by decide) ?_
    cases hf
    exact xRi hx hb hr hlocks hK hP hD hS (fun _ h => h) dX9_rank_21
  · have hf := (if_pos c_2).symm.trans hf
    refine lv_iload_n hx hb dX9_rank_7 rfl (lv_at hl 2 rfl) ?_
    refine lv_i2l (v := p2.toInt64) hx hb dX9_rank_8 rfl ?_
    refine lv_lconst (v := (1 : Int64)) hx hb dX9_rank_9 (by decide) ?_
    refine lv_ldc2 (v := (5 : Int64)) hx hb hown wd_0 dX9_rank_10 ?_
    obtain ⟨r_3, hg_3, hf⟩ := bd_some hf
    refine xSi (rest := []) (c_X9_in l dC dI ad cI cJ cT (p2.toInt64) (1 : Int64) (5 : Int64) I J hg_3) hfix (va_cwS 3 hts gX9_rank_X9_in rfl rfl rfl (by decide +kernel) ⟨Nat.le_of_ble_eq_true rfl, Nat.le_of_ble_eq_true rfl⟩) hK hP hD hS hA rfl hl.1 rfl (Nat.le_of_ble_eq_true rfl) ⟨Nat.zero_le _, Nat.zero_le _⟩ dX9_rank_13 (fun H locs hP hD hS => ?_)
    refine lv_if_ne (tgt := 22) hx hb dX9_rank_16 (by decide) (fun c_4 => ?_) (fun c_4 => ?_)
    · have hf := (if_neg c_4).symm.trans hf
      refine lv_aload_n hx hb dX9_rank_22 rfl (lv_at hl 0 rfl) ?_
      refine lv_iload_n hx hb dX9_rank_23 rfl (lv_at hl 1 rfl) ?_
      refine lv_iload_n hx hb dX9_rank_24 rfl (lv_at hl 2 rfl) ?_
      obtain ⟨I_5, hg_5, hf⟩ := bd_some hf
      refine xVv (rest := []) (c_X9_begin l dC dI ad cI cJ cT p1 p2 I J hg_5) hfix (cwV 2 hts gX9_rank_X9_begin rfl rfl rfl (by decide +kernel) ⟨Nat.le_of_ble_eq_true rfl, Nat.le_of_ble_eq_true rfl⟩) hK hP hD hS hA (va_recv hK hP (ci := 8) (q0 := 13) rfl (obM_13 ad cI cJ I J)) rfl hl.1 rfl (Nat.le_of_ble_eq_true rfl) ⟨Nat.zero_le _, Nat.zero_le _⟩ dX9_rank_25 (fun H locs hP hD hS => ?_)
      refine lv_iconst (v := (1 : Int32)) hx hb dX9_rank_28 (by decide) ?_
      cases hf
      exact xRi hx hb hr hlocks hK hP hD hS (fun _ h => h) dX9_rank_29
    · have hf := (if_pos c_4).symm.trans hf
      refine lv_bipush (v := (-2 : Int32)) hx hb dX9_rank_19 (by decide) ?_
      cases hf
      exact xRi hx hb hr hlocks hK hP hD hS (fun _ h => h) dX9_rank_21
set_option maxHeartbeats 4000000 in
set_option maxRecDepth 100000 in
theorem c_X9_put (l : Launch) (dC : Nat → ClassId) (dI : Nat → Nat → Nat) (ad : Nat → Nat) (cI cJ cT : ClassId) (p1 : Int32) (p2 : Int32) (p3 : Int32) (p4 : Int32) (p5 : Int32) (I : SI) (J : SJ) {r0 : Int32} {I0 : SI} (hf : f_X9_put p1 p2 p3 p4 p5 I = some (r0, I0)) : CtI l yX9_put wsX9_put ({ frames := 2, cells := 0, slots := 0, locals := 47 } : Room) (dC, dI) (tys3 cI cJ cT) (wM ad cI cJ) [.ref (ad 13), .int p1, .int p2, .int p3, .int p4, .int p5] I J r0 I0 J := by
  intro sz
  refine Met.ofW (cc := cX9_put) (maxL := 7) (ret := (some .int)) (by decide) rfl ?_
  intro p e s m args below meth c s₁ B hml hv
  obtain ⟨hargs, hsz, hP, hK, hD0⟩ := hv
  have hx := B.exec
  have hb := B.bytes
  have hr := B.returns
  have hts := atoms_spec (ws := wsX9_put) B.pre
  have hown : s.vm.findClass RX9 = some m.cls := findClass_of_methodNamed B.named
  have hlocks := B.notSynchronized
  subst hsz
  have hD := hD0.self (sz := s.heap.size)
  generalize hAe : va_A ((wM ad cI cJ) I J) s.heap.size = A at hD ⊢
  have hA : ∀ q : Nat, s.heap.size ≤ q → A q := fun q h => by rw [← hAe]; exact Or.inr h
  have hS : va_S A s.heap s.heap [] := va_S.rf
  have hl := lv_entry ([.ref (ad 13), .int p1, .int p2, .int p3, .int p4, .int p5]) (n := 7) (Nat.le_of_ble_eq_true rfl)
  rw [hargs, lg_entry_eq, ← hargs]
  generalize (lg_sl ([.ref (ad 13), .int p1, .int p2, .int p3, .int p4, .int p5]) ++ List.replicate (7 - (lg_sl ([.ref (ad 13), .int p1, .int p2, .int p3, .int p4, .int p5])).length) Slot.unset).toArray = ls at hl ⊢
  have hl : lv_has ls 7 [(0, .ref (ad 13)), (1, .int p1), (2, .int p2), (3, .int p3), (4, .int p4), (5, .int p5)] := hl
  have hfix : CallFix p m c cX9_put 7 s args wsX9_put RX9 := ⟨hx, hb, hml, hown, hts⟩
  have wd_0 := hts (.constantLong RX9 72 (9)) (by decide +kernel)
  unfold f_X9_put at hf
  refine lv_iload_n hx hb dX9_put_0 rfl (lv_at hl 1 rfl) ?_
  obtain ⟨r_1, hg_1, hf⟩ := bd_some hf
  refine xSi (rest := []) (c_X9_noTable l dC dI ad cI cJ cT p1 I J hg_1) hfix (va_cwS 1 hts gX9_put_X9_noTable rfl rfl rfl (by decide +kernel) ⟨Nat.le_of_ble_eq_true rfl, Nat.le_of_ble_eq_true rfl⟩) hK hP hD hS hA rfl hl.1 rfl (Nat.le_of_ble_eq_true rfl) ⟨Nat.zero_le _, Nat.zero_le _⟩ dX9_put_1 (fun H locs hP hD hS => ?_)
  refine lv_if_ne (tgt := 48) hx hb dX9_put_4 (by decide) (fun c_2 => ?_) (fun c_2 => ?_)
  · have hf := (if_neg c_2).symm.trans hf
    refine lv_bipush (v := (-2 : Int32)) hx hb dX9_put_48 (by decide) ?_
    cases hf
    exact xRi hx hb hr hlocks hK hP hD hS (fun _ h => h) dX9_put_50
  · have hf := (if_pos c_2).symm.trans hf
    refine lv_aload_n hx hb dX9_put_7 rfl (lv_at hl 0 rfl) ?_
    refine lv_iload_n hx hb dX9_put_8 rfl (lv_at hl 1 rfl) ?_
    refine lv_iload_n hx hb dX9_put_9 rfl (lv_at hl 2 rfl) ?_
    obtain ⟨r_3, hg_3, hf⟩ := bd_some hf
    refine xVi (rest := []) (c_X9_isKind l dC dI ad cI cJ cT p1 p2 I J hg_3) hfix (cwV 2 hts gX9_put_X9_isKind rfl rfl rfl (by decide +kernel) ⟨Nat.le_of_ble_eq_true rfl, Nat.le_of_ble_eq_true rfl⟩) hK hP hD hS hA (va_recv hK hP (ci := 8) (q0 := 13) rfl (obM_13 ad cI cJ I J)) rfl hl.1 rfl (Nat.le_of_ble_eq_true rfl) ⟨Nat.zero_le _, Nat.zero_le _⟩ dX9_put_10 (fun H locs hP hD hS => ?_)
    refine lv_if_eq (tgt := 48) hx hb dX9_put_13 (by decide) (fun c_4 => ?_) (fun c_4 => ?_)
    · have hf := (if_pos c_4).symm.trans hf
      refine lv_bipush (v := (-2 : Int32)) hx hb dX9_put_48 (by decide) ?_
      cases hf
      exact xRi hx hb hr hlocks hK hP hD hS (fun _ h => h) dX9_put_50
    · have hf := (if_neg c_4).symm.trans hf
      refine lv_aload_n hx hb dX9_put_16 rfl (lv_at hl 0 rfl) ?_
      refine lv_iload_n hx hb dX9_put_17 rfl (lv_at hl 1 rfl) ?_
      refine lv_iload_n hx hb dX9_put_18 rfl (lv_at hl 3 rfl) ?_
      obtain ⟨r_5, hg_5, hf⟩ := bd_some hf
      refine xVi (rest := []) (c_X9_isKind l dC dI ad cI cJ cT p1 p3 I J hg_5) hfix (cwV 2 hts gX9_put_X9_isKind rfl rfl rfl (by decide +kernel) ⟨Nat.le_of_ble_eq_true rfl, Nat.le_of_ble_eq_true rfl⟩) hK hP hD hS hA (va_recv hK hP (ci := 8) (q0 := 13) rfl (obM_13 ad cI cJ I J)) rfl hl.1 rfl (Nat.le_of_ble_eq_true rfl) ⟨Nat.zero_le _, Nat.zero_le _⟩ dX9_put_19 (fun H locs hP hD hS => ?_)
      refine lv_if_eq (tgt := 48) hx hb dX9_put_22 (by decide) (fun c_6 => ?_) (fun c_6 => ?_)
      · have hf := (if_pos c_6).symm.trans hf
        refine lv_bipush (v := (-2 : Int32)) hx hb dX9_put_48 (by decide) ?_
        cases hf
        exact xRi hx hb hr hlocks hK hP hD hS (fun _ h => h) dX9_put_50
      · have hf := (if_neg c_6).symm.trans hf
        refine lv_aload_n hx hb dX9_put_25 rfl (lv_at hl 0 rfl) ?_
        refine lv_iload_n hx hb dX9_put_26 rfl (lv_at hl 1 rfl) ?_
        refine lv_iload hx hb dX9_put_27 (lv_at hl 4 rfl) ?_
        obtain ⟨r_7, hg_7, hf⟩ := bd_some hf
        refine xVi (rest := []) (c_X9_isKind l dC dI ad cI cJ cT p1 p4 I J hg_7) hfix (cwV 2 hts gX9_put_X9_isKind rfl rfl rfl (by decide +kernel) ⟨Nat.le_of_ble_eq_true rfl, Nat.le_of_ble_eq_true rfl⟩) hK hP hD hS hA (va_recv hK hP (ci := 8) (q0 := 13) rfl (obM_13 ad cI cJ I J)) rfl hl.1 rfl (Nat.le_of_ble_eq_true rfl) ⟨Nat.zero_le _, Nat.zero_le _⟩ dX9_put_29 (fun H locs hP hD hS => ?_)
        refine lv_if_eq (tgt := 48) hx hb dX9_put_32 (by decide) (fun c_8 => ?_) (fun c_8 => ?_)
        · have hf := (if_pos c_8).symm.trans hf
          refine lv_bipush (v := (-2 : Int32)) hx hb dX9_put_48 (by decide) ?_
          cases hf
          exact xRi hx hb hr hlocks hK hP hD hS (fun _ h => h) dX9_put_50
        · have hf := (if_neg c_8).symm.trans hf
          refine lv_iload hx hb dX9_put_35 (lv_at hl 5 rfl) ?_
          refine lv_i2l (v := p5.toInt64) hx hb dX9_put_37 rfl ?_
          refine lv_lconst (v := (0 : Int64)) hx hb dX9_put_38 (by decide) ?_
          refine lv_ldc2 (v := (9 : Int64)) hx hb hown wd_0 dX9_put_39 ?_
          obtain ⟨r_9, hg_9, hf⟩ := bd_some hf
          refine xSi (rest := []) (c_X9_in l dC dI ad cI cJ cT (p5.toInt64) (0 : Int64) (9 : Int64) I J hg_9) hfix (va_cwS 3 hts gX9_put_X9_in rfl rfl rfl (by decide +kernel) ⟨Nat.le_of_ble_eq_true rfl, Nat.le_of_ble_eq_true rfl⟩) hK hP hD hS hA rfl hl.1 rfl (Nat.le_of_ble_eq_true rfl) ⟨Nat.zero_le _, Nat.zero_le _⟩ dX9_put_42 (fun H locs hP hD hS => ?_)
          refine lv_if_ne (tgt := 51) hx hb dX9_put_45 (by decide) (fun c_10 => ?_) (fun c_10 => ?_)
          · have hf := (if_neg c_10).symm.trans hf
            refine lv_aload_n hx hb dX9_put_51 rfl (lv_at hl 0 rfl) ?_
            refine lv_iload_n hx hb dX9_put_52 rfl (lv_at hl 1 rfl) ?_
            refine lv_iload_n hx hb dX9_put_53 rfl (lv_at hl 2 rfl) ?_
            refine lv_iload_n hx hb dX9_put_54 rfl (lv_at hl 3 rfl) ?_
            refine lv_iload hx hb dX9_put_55 (lv_at hl 4 rfl) ?_
            obtain ⟨r_11, hg_11, hf⟩ := bd_some hf
            refine xVi (rest := []) (c_X9_n l dC dI ad cI cJ cT p1 p2 p3 p4 I J hg_11) hfix (cwV 4 hts gX9_put_X9_n rfl rfl rfl (by decide +kernel) ⟨Nat.le_of_ble_eq_true rfl, Nat.le_of_ble_eq_true rfl⟩) hK hP hD hS hA (va_recv hK hP (ci := 8) (q0 := 13) rfl (obM_13 ad cI cJ I J)) rfl hl.1 rfl (Nat.le_of_ble_eq_true rfl) ⟨Nat.zero_le _, Nat.zero_le _⟩ dX9_put_57 (fun H locs hP hD hS => ?_)
            refine lv_istore (lv' := [(6, .int r_11), (0, .ref (ad 13)), (1, .int p1), (2, .int p2), (3, .int p3), (4, .int p4), (5, .int p5)]) hx hb dX9_put_60 hl (by decide) rfl (fun ls hl => ?_)
            refine lv_aload_n hx hb dX9_put_62 rfl (lv_at hl 1 rfl) ?_
            refine lv_iload_n hx hb dX9_put_63 rfl (lv_at hl 2 rfl) ?_
            refine lv_iload_n hx hb dX9_put_64 rfl (lv_at hl 3 rfl) ?_
            refine lv_iload_n hx hb dX9_put_65 rfl (lv_at hl 4 rfl) ?_
            refine lv_iload hx hb dX9_put_66 (lv_at hl 5 rfl) ?_
            refine lv_iload hx hb dX9_put_68 (lv_at hl 6 rfl) ?_
            obtain ⟨I_12, hg_12, hf⟩ := bd_some hf
            refine xVv (rest := []) (c_X9_lay l dC dI ad cI cJ cT p1 p2 p3 p4 p5 I J hg_12) hfix (cwV 5 hts gX9_put_X9_lay rfl rfl rfl (by decide +kernel) ⟨Nat.le_of_ble_eq_true rfl, Nat.le_of_ble_eq_true rfl⟩) hK hP hD hS hA (va_recv hK hP (ci := 8) (q0 := 13) rfl (obM_13 ad cI cJ I J)) rfl hl.1 rfl (Nat.le_of_ble_eq_true rfl) ⟨Nat.zero_le _, Nat.zero_le _⟩ dX9_put_70 (fun H locs hP hD hS => ?_)
            refine lv_iload hx hb dX9_put_73 (lv_at hl 0 rfl) ?_
            cases hf
            exact xRi hx hb hr hlocks hK hP hD hS (fun _ h => h) dX9_put_75
          · have hf := (if_pos c_10).symm.trans hf
            refine lv_bipush (v := (-2 : Int32)) hx hb dX9_put_48 (by decide) ?_
            cases hf
            exact xRi hx hb hr hlocks hK hP hD hS (fun _ h => h) dX9_put_50
set_option maxHeartbeats 4000000 in
set_option maxRecDepth 100000 in
theorem c_X9_at (l : Launch) (dC : Nat → ClassId) (dI : Nat → Nat → Nat) (ad : Nat → Nat) (cI cJ cT : ClassId) (p1 : Int32) (p2 : Int32) (p3 : Int32) (p4 : Int32) (I : SI) (J : SJ) {r0 : Int32} (hf : f_X9_at p1 p2 p3 p4 I = some r0) : CtI l yX9_at wsX9_at ({ frames := 2, cells := 0, slots := 0, locals := 47 } : Room) (dC, dI) (tys3 cI cJ cT) (wM ad cI cJ) [.ref (ad 13), .int p1, .int p2, .int p3, .int p4] I J r0 I J := by
  intro sz
  refine Met.ofW (cc := cX9_at) (maxL := 5) (ret := (some .int)) (by decide) rfl ?_
  intro p e s m args below meth c s₁ B hml hv
  obtain ⟨hargs, hsz, hP, hK, hD0⟩ := hv
  have hx := B.exec
  have hb := B.bytes
  have hr := B.returns
  have hts := atoms_spec (ws := wsX9_at) B.pre
  have hown : s.vm.findClass RX9 = some m.cls := findClass_of_methodNamed B.named
  have hlocks := B.notSynchronized
  subst hsz
  have hD := hD0.self (sz := s.heap.size)
  generalize hAe : va_A ((wM ad cI cJ) I J) s.heap.size = A at hD ⊢
  have hA : ∀ q : Nat, s.heap.size ≤ q → A q := fun q h => by rw [← hAe]; exact Or.inr h
  have hS : va_S A s.heap s.heap [] := va_S.rf
  have hl := lv_entry ([.ref (ad 13), .int p1, .int p2, .int p3, .int p4]) (n := 5) (Nat.le_of_ble_eq_true rfl)
  rw [hargs, lg_entry_eq, ← hargs]
  generalize (lg_sl ([.ref (ad 13), .int p1, .int p2, .int p3, .int p4]) ++ List.replicate (5 - (lg_sl ([.ref (ad 13), .int p1, .int p2, .int p3, .int p4])).length) Slot.unset).toArray = ls at hl ⊢
  have hl : lv_has ls 5 [(0, .ref (ad 13)), (1, .int p1), (2, .int p2), (3, .int p3), (4, .int p4)] := hl
  have hfix : CallFix p m c cX9_at 5 s args wsX9_at RX9 := ⟨hx, hb, hml, hown, hts⟩
  unfold f_X9_at at hf
  refine lv_iload_n hx hb dX9_at_0 rfl (lv_at hl 1 rfl) ?_
  obtain ⟨r_1, hg_1, hf⟩ := bd_some hf
  refine xSi (rest := []) (c_X9_noTable l dC dI ad cI cJ cT p1 I J hg_1) hfix (va_cwS 1 hts gX9_at_X9_noTable rfl rfl rfl (by decide +kernel) ⟨Nat.le_of_ble_eq_true rfl, Nat.le_of_ble_eq_true rfl⟩) hK hP hD hS hA rfl hl.1 rfl (Nat.le_of_ble_eq_true rfl) ⟨Nat.zero_le _, Nat.zero_le _⟩ dX9_at_1 (fun H locs hP hD hS => ?_)
  refine lv_if_ne (tgt := 35) hx hb dX9_at_4 (by decide) (fun c_2 => ?_) (fun c_2 => ?_)
  · have hf := (if_neg c_2).symm.trans hf
    refine lv_bipush (v := (-2 : Int32)) hx hb dX9_at_35 (by decide) ?_
    refine lv_goto (tgt := 49) hx hb dX9_at_37 (by decide) ?_
    cases hf
    exact xRi hx hb hr hlocks hK hP hD hS (fun _ h => h) dX9_at_49
  · have hf := (if_pos c_2).symm.trans hf
    refine lv_aload_n hx hb dX9_at_7 rfl (lv_at hl 0 rfl) ?_
    refine lv_iload_n hx hb dX9_at_8 rfl (lv_at hl 1 rfl) ?_
    refine lv_iload_n hx hb dX9_at_9 rfl (lv_at hl 2 rfl) ?_
    obtain ⟨r_3, hg_3, hf⟩ := bd_some hf
    refine xVi (rest := []) (c_X9_isKind l dC dI ad cI cJ cT p1 p2 I J hg_3) hfix (cwV 2 hts gX9_at_X9_isKind rfl rfl rfl (by decide +kernel) ⟨Nat.le_of_ble_eq_true rfl, Nat.le_of_ble_eq_true rfl⟩) hK hP hD hS hA (va_recv hK hP (ci := 8) (q0 := 13) rfl (obM_13 ad cI cJ I J)) rfl hl.1 rfl (Nat.le_of_ble_eq_true rfl) ⟨Nat.zero_le _, Nat.zero_le _⟩ dX9_at_10 (fun H locs hP hD hS => ?_)
    refine lv_if_eq (tgt := 35) hx hb dX9_at_13 (by decide) (fun c_4 => ?_) (fun c_4 => ?_)
    · have hf := (if_pos c_4).symm.trans hf
      refine lv_bipush (v := (-2 : Int32)) hx hb dX9_at_35 (by decide) ?_
      refine lv_goto (tgt := 49) hx hb dX9_at_37 (by decide) ?_
      cases hf
      exact xRi hx hb hr hlocks hK hP hD hS (fun _ h => h) dX9_at_49
    · have hf := (if_neg c_4).symm.trans hf
      refine lv_aload_n hx hb dX9_at_16 rfl (lv_at hl 0 rfl) ?_
      refine lv_iload_n hx hb dX9_at_17 rfl (lv_at hl 1 rfl) ?_
      refine lv_iload_n hx hb dX9_at_18 rfl (lv_at hl 3 rfl) ?_
      obtain ⟨r_5, hg_5, hf⟩ := bd_some hf
      refine xVi (rest := []) (c_X9_isKind l dC dI ad cI cJ cT p1 p3 I J hg_5) hfix (cwV 2 hts gX9_at_X9_isKind rfl rfl rfl (by decide +kernel) ⟨Nat.le_of_ble_eq_true rfl, Nat.le_of_ble_eq_true rfl⟩) hK hP hD hS hA (va_recv hK hP (ci := 8) (q0 := 13) rfl (obM_13 ad cI cJ I J)) rfl hl.1 rfl (Nat.le_of_ble_eq_true rfl) ⟨Nat.zero_le _, Nat.zero_le _⟩ dX9_at_19 (fun H locs hP hD hS => ?_)
      refine lv_if_eq (tgt := 35) hx hb dX9_at_22 (by decide) (fun c_6 => ?_) (fun c_6 => ?_)
      · have hf := (if_pos c_6).symm.trans hf
        refine lv_bipush (v := (-2 : Int32)) hx hb dX9_at_35 (by decide) ?_
        refine lv_goto (tgt := 49) hx hb dX9_at_37 (by decide) ?_
        cases hf
        exact xRi hx hb hr hlocks hK hP hD hS (fun _ h => h) dX9_at_49
      · have hf := (if_neg c_6).symm.trans hf
        refine lv_aload_n hx hb dX9_at_25 rfl (lv_at hl 0 rfl) ?_
        refine lv_iload_n hx hb dX9_at_26 rfl (lv_at hl 1 rfl) ?_
        refine lv_iload hx hb dX9_at_27 (lv_at hl 4 rfl) ?_
        obtain ⟨r_7, hg_7, hf⟩ := bd_some hf
        refine xVi (rest := []) (c_X9_isKind l dC dI ad cI cJ cT p1 p4 I J hg_7) hfix (cwV 2 hts gX9_at_X9_isKind rfl rfl rfl (by decide +kernel) ⟨Nat.le_of_ble_eq_true rfl, Nat.le_of_ble_eq_true rfl⟩) hK hP hD hS hA (va_recv hK hP (ci := 8) (q0 := 13) rfl (obM_13 ad cI cJ I J)) rfl hl.1 rfl (Nat.le_of_ble_eq_true rfl) ⟨Nat.zero_le _, Nat.zero_le _⟩ dX9_at_29 (fun H locs hP hD hS => ?_)
        refine lv_if_ne (tgt := 40) hx hb dX9_at_32 (by decide) (fun c_8 => ?_) (fun c_8 => ?_)
        · have hf := (if_neg c_8).symm.trans hf
          refine lv_aload_n hx hb dX9_at_40 rfl (lv_at hl 0 rfl) ?_
          refine lv_iload_n hx hb dX9_at_41 rfl (lv_at hl 1 rfl) ?_
          refine lv_iload_n hx hb dX9_at_42 rfl (lv_at hl 2 rfl) ?_
          refine lv_iload_n hx hb dX9_at_43 rfl (lv_at hl 3 rfl) ?_
          refine lv_iload hx hb dX9_at_44 (lv_at hl 4 rfl) ?_
          obtain ⟨r_9, hg_9, hf⟩ := bd_some hf
          refine xVi (rest := []) (c_X9_n l dC dI ad cI cJ cT p1 p2 p3 p4 I J hg_9) hfix (cwV 4 hts gX9_at_X9_n rfl rfl rfl (by decide +kernel) ⟨Nat.le_of_ble_eq_true rfl, Nat.le_of_ble_eq_true rfl⟩) hK hP hD hS hA (va_recv hK hP (ci := 8) (q0 := 13) rfl (obM_13 ad cI cJ I J)) rfl hl.1 rfl (Nat.le_of_ble_eq_true rfl) ⟨Nat.zero_le _, Nat.zero_le _⟩ dX9_at_46 (fun H locs hP hD hS => ?_)
          cases hf
          exact xRi hx hb hr hlocks hK hP hD hS (fun _ h => h) dX9_at_49
        · have hf := (if_pos c_8).symm.trans hf
          refine lv_bipush (v := (-2 : Int32)) hx hb dX9_at_35 (by decide) ?_
          refine lv_goto (tgt := 49) hx hb dX9_at_37 (by decide) ?_
          cases hf
          exact xRi hx hb hr hlocks hK hP hD hS (fun _ h => h) dX9_at_49
set_option maxHeartbeats 4000000 in
set_option maxRecDepth 100000 in
theorem c_X9_tell (l : Launch) (dC : Nat → ClassId) (dI : Nat → Nat → Nat) (ad : Nat → Nat) (cI cJ cT : ClassId) (p1 : Int32) (p2 : Int32) (p3 : Int32) (p4 : Int32) (p5 : Int32) (I : SI) (J : SJ) {r0 : Int32} {I0 : SI} (hf : f_X9_tell p1 p2 p3 p4 p5 I = some (r0, I0)) : CtI l yX9_tell wsX9_tell ({ frames := 0, cells := 0, slots := 0, locals := 0 } : Room) (dC, dI) (tys3 cI cJ cT) (wM ad cI cJ) [.ref (ad 13), .int p1, .int p2, .int p3, .int p4, .int p5] I J r0 I0 J := by
  intro sz
  refine Met.ofW (cc := cX9_tell) (maxL := 6) (ret := (some .boolean)) (by decide) rfl ?_
  intro p e s m args below meth c s₁ B hml hv
  obtain ⟨hargs, hsz, hP, hK, hD0⟩ := hv
  have hx := B.exec
  have hb := B.bytes
  have hr := B.returns
  have hts := atoms_spec (ws := wsX9_tell) B.pre
  have hown : s.vm.findClass RX9 = some m.cls := findClass_of_methodNamed B.named
  have hlocks := B.notSynchronized
  subst hsz
  have hD := hD0.self (sz := s.heap.size)
  generalize hAe : va_A ((wM ad cI cJ) I J) s.heap.size = A at hD ⊢
  have hA : ∀ q : Nat, s.heap.size ≤ q → A q := fun q h => by rw [← hAe]; exact Or.inr h
  have hS : va_S A s.heap s.heap [] := va_S.rf
  have hl := lv_entry ([.ref (ad 13), .int p1, .int p2, .int p3, .int p4, .int p5]) (n := 6) (Nat.le_of_ble_eq_true rfl)
  rw [hargs, lg_entry_eq, ← hargs]
  generalize (lg_sl ([.ref (ad 13), .int p1, .int p2, .int p3, .int p4, .int p5]) ++ List.replicate (6 - (lg_sl ([.ref (ad 13), .int p1, .int p2, .int p3, .int p4, .int p5])).length) Slot.unset).toArray = ls at hl ⊢
  have hl : lv_has ls 6 [(0, .ref (ad 13)), (1, .int p1), (2, .int p2), (3, .int p3), (4, .int p4), (5, .int p5)] := hl
  have hfix : CallFix p m c cX9_tell 6 s args wsX9_tell RX9 := ⟨hx, hb, hml, hown, hts⟩
  have in_X9 : ∀ w ∈ u_ws RX9 TX9 15, w ∈ wsX9_tell := by decide +kernel
  have wd_0 := hts (.fieldLink RX9 16 "FuseBenchModel" "found" "[I") (by decide +kernel)
  unfold f_X9_tell at hf
  refine lv_aload_n hx hb dX9_tell_0 rfl (lv_at hl 0 rfl) ?_
  refine va_get (D := (dC, dI)) (ci := 8) (v := .ref (ad 2)) (C := RX9) (T := TX9) (N := 15) hx hb hts in_X9 hown hK hP 13 (obM_13 ad cI cJ I J) rfl 2 (by decide) wd_0 (fun _ h9 => h9) rfl dX9_tell_1 ?_
  refine lv_iconst (v := (0 : Int32)) hx hb dX9_tell_4 (by decide) ?_
  refine lv_iload_n hx hb dX9_tell_5 rfl (lv_at hl 1 rfl) ?_
  refine x_iast hx hb hK (aiM_2 ad cI cJ) hP hD hS (by decide) dX9_tell_6 (fun H locs hP hD hS => ?_)
  refine lv_aload_n hx hb dX9_tell_7 rfl (lv_at hl 0 rfl) ?_
  refine va_get (D := (dC, dI)) (ci := 8) (v := .ref (ad 2)) (C := RX9) (T := TX9) (N := 15) hx hb hts in_X9 hown hK hP 13 (obM_13 ad cI cJ (ups I 2 (0 : Int32).toNatClampNeg p1) J) rfl 2 (by decide) wd_0 (fun _ h9 => h9) rfl dX9_tell_8 ?_
  refine lv_iconst (v := (1 : Int32)) hx hb dX9_tell_11 (by decide) ?_
  refine lv_iload_n hx hb dX9_tell_12 rfl (lv_at hl 2 rfl) ?_
  refine x_iast hx hb hK (aiM_2 ad cI cJ) hP hD hS (by decide) dX9_tell_13 (fun H locs hP hD hS => ?_)
  refine lv_aload_n hx hb dX9_tell_14 rfl (lv_at hl 0 rfl) ?_
  refine va_get (D := (dC, dI)) (ci := 8) (v := .ref (ad 2)) (C := RX9) (T := TX9) (N := 15) hx hb hts in_X9 hown hK hP 13 (obM_13 ad cI cJ (ups (ups I 2 (0 : Int32).toNatClampNeg p1) 2 (1 : Int32).toNatClampNeg p2) J) rfl 2 (by decide) wd_0 (fun _ h9 => h9) rfl dX9_tell_15 ?_
  refine lv_iconst (v := (2 : Int32)) hx hb dX9_tell_18 (by decide) ?_
  refine lv_iload_n hx hb dX9_tell_19 rfl (lv_at hl 3 rfl) ?_
  refine x_iast hx hb hK (aiM_2 ad cI cJ) hP hD hS (by decide) dX9_tell_20 (fun H locs hP hD hS => ?_)
  refine lv_aload_n hx hb dX9_tell_21 rfl (lv_at hl 0 rfl) ?_
  refine va_get (D := (dC, dI)) (ci := 8) (v := .ref (ad 2)) (C := RX9) (T := TX9) (N := 15) hx hb hts in_X9 hown hK hP 13 (obM_13 ad cI cJ (ups (ups (ups I 2 (0 : Int32).toNatClampNeg p1) 2 (1 : Int32).toNatClampNeg p2) 2 (2 : Int32).toNatClampNeg p3) J) rfl 2 (by decide) wd_0 (fun _ h9 => h9) rfl dX9_tell_22 ?_
  refine lv_iconst (v := (3 : Int32)) hx hb dX9_tell_25 (by decide) ?_
  refine lv_iload hx hb dX9_tell_26 (lv_at hl 4 rfl) ?_
  refine x_iast hx hb hK (aiM_2 ad cI cJ) hP hD hS (by decide) dX9_tell_28 (fun H locs hP hD hS => ?_)
  refine lv_aload_n hx hb dX9_tell_29 rfl (lv_at hl 0 rfl) ?_
  refine va_get (D := (dC, dI)) (ci := 8) (v := .ref (ad 2)) (C := RX9) (T := TX9) (N := 15) hx hb hts in_X9 hown hK hP 13 (obM_13 ad cI cJ (ups (ups (ups (ups I 2 (0 : Int32).toNatClampNeg p1) 2 (1 : Int32).toNatClampNeg p2) 2 (2 : Int32).toNatClampNeg p3) 2 (3 : Int32).toNatClampNeg p4) J) rfl 2 (by decide) wd_0 (fun _ h9 => h9) rfl dX9_tell_30 ?_
  refine lv_iconst (v := (4 : Int32)) hx hb dX9_tell_33 (by decide) ?_
  refine lv_iload hx hb dX9_tell_34 (lv_at hl 5 rfl) ?_
  refine x_iast hx hb hK (aiM_2 ad cI cJ) hP hD hS (by decide) dX9_tell_36 (fun H locs hP hD hS => ?_)
  refine lv_iconst (v := (1 : Int32)) hx hb dX9_tell_37 (by decide) ?_
  cases hf
  exact xRz hx hb hr hlocks rfl hK hP hD hS (fun _ h => h) dX9_tell_38
set_option maxHeartbeats 4000000 in
set_option maxRecDepth 100000 in
theorem c_X9_breaksUnit (l : Launch) (dC : Nat → ClassId) (dI : Nat → Nat → Nat) (ad : Nat → Nat) (cI cJ cT : ClassId) (p1 : Int32) (I : SI) (J : SJ) {r0 : Int32} {I0 : SI} (hf : f_X9_breaksUnit p1 I = some (r0, I0)) : CtI l yX9_breaksUnit wsX9_breaksUnit ({ frames := 1, cells := 0, slots := 0, locals := 25 } : Room) (dC, dI) (tys3 cI cJ cT) (wM ad cI cJ) [.ref (ad 13), .int p1] I J r0 I0 J := by
  intro sz
  refine Met.ofW (cc := cX9_breaksUnit) (maxL := 5) (ret := (some .boolean)) (by decide) rfl ?_
  intro p e s m args below meth c s₁ B hml hv
  obtain ⟨hargs, hsz, hP, hK, hD0⟩ := hv
  have hx := B.exec
  have hb := B.bytes
  have hr := B.returns
  have hts := atoms_spec (ws := wsX9_breaksUnit) B.pre
  have hown : s.vm.findClass RX9 = some m.cls := findClass_of_methodNamed B.named
  have hlocks := B.notSynchronized
  subst hsz
  have hD := hD0.self (sz := s.heap.size)
  generalize hAe : va_A ((wM ad cI cJ) I J) s.heap.size = A at hD ⊢
  have hA : ∀ q : Nat, s.heap.size ≤ q → A q := fun q h => by rw [← hAe]; exact Or.inr h
  have hS : va_S A s.heap s.heap [] := va_S.rf
  have hl := lv_entry ([.ref (ad 13), .int p1]) (n := 5) (Nat.le_of_ble_eq_true rfl)
  rw [hargs, lg_entry_eq, ← hargs]
  generalize (lg_sl ([.ref (ad 13), .int p1]) ++ List.replicate (5 - (lg_sl ([.ref (ad 13), .int p1])).length) Slot.unset).toArray = ls at hl ⊢
  have hl : lv_has ls 5 [(0, .ref (ad 13)), (1, .int p1)] := hl
  have hfix : CallFix p m c cX9_breaksUnit 5 s args wsX9_breaksUnit RX9 := ⟨hx, hb, hml, hown, hts⟩
  have in_X9 : ∀ w ∈ u_ws RX9 TX9 15, w ∈ wsX9_breaksUnit := by decide +kernel
  have wd_0 := hts (.fieldLink RX9 7 "FuseBenchModel" "ranks" "[I") (by decide +kernel)
  have L14 : ∀ (Q : State → Prop) (v1 : Int32) (v2 : Int32) (I : SI) (J : SJ) (o : Nat × Int32), (∀ (w3 : Int32) (H : Heap) (locs : List Loc) (ls : Array Slot), o = (0, w3) → va_P (dC, dI) vwCl ((wM ad cI cJ) I J) H → va_D A ((wM ad cI cJ) I J) → va_S A s.heap H locs → lv_has ls 5 [(0, .ref (ad 13)), (2, .int v2), (3, .int w3)] → W p l e ({ frames := 1, cells := 0, slots := 0, locals := 25 } : Room) s m args below meth c H locs 0 0 Q (F0 m 62 ls [])) → (∀ (w3 : Int32) (H : Heap) (locs : List Loc) (ls : Array Slot), o = (1, w3) → va_P (dC, dI) vwCl ((wM ad cI cJ) I J) H → va_D A ((wM ad cI cJ) I J) → va_S A s.heap H locs → lv_has ls 5 [(0, .ref (ad 13)), (1, .int v1), (2, .int v2)] → W p l e ({ frames := 1, cells := 0, slots := 0, locals := 25 } : Room) s m args below meth c H locs 0 0 Q (F0 m 78 ls [])) → ∀ (n : Nat) (v3 : Int32) (H : Heap) (locs : List Loc) (ls : Array Slot), lp_X9_breaksUnit_14 v1 v2 I n v3 = some o → va_P (dC, dI) vwCl ((wM ad cI cJ) I J) H → va_D A ((wM ad cI cJ) I J) → va_S A s.heap H locs → lv_has ls 5 [(0, .ref (ad 13)), (1, .int v1), (2, .int v2), (3, .int v3)] → W p l e ({ frames := 1, cells := 0, slots := 0, locals := 25 } : Room) s m args below meth c H locs 0 0 Q (F0 m 14 ls []) := by
    intro Q v1 v2 I J o K0 K1 n
    clear hP hD hS hl
    induction n with
    | zero =>
      intro v3 H locs ls hf
      rw [lp_X9_breaksUnit_14.eq_1] at hf
      cases hf
    | succ n ih =>
      intro v3 H locs ls hf hP hD hS hl
      rw [lp_X9_breaksUnit_14.eq_2] at hf
      refine lv_iload_n hx hb dX9_breaksUnit_14 rfl (lv_at hl 3 rfl) ?_
      refine lv_aload_n hx hb dX9_breaksUnit_15 rfl (lv_at hl 0 rfl) ?_
      refine va_get (D := (dC, dI)) (ci := 8) (v := .ref (ad 0)) (C := RX9) (T := TX9) (N := 15) hx hb hts in_X9 hown hK hP 13 (obM_13 ad cI cJ I J) rfl 0 (by decide) wd_0 (fun _ h9 => h9) rfl dX9_breaksUnit_16 ?_
      refine lv_iload_n hx hb dX9_breaksUnit_19 rfl (lv_at hl 1 rfl) ?_
      obtain ⟨h_1, hf⟩ := gd_some hf
      refine x_iald hx hb hK (aiM_0 ad cI cJ) hP h_1 dX9_breaksUnit_20 ?_
      refine lv_icmp_ge (tgt := 78) hx hb dX9_breaksUnit_21 (by decide) (fun c_2 => ?_) (fun c_2 => ?_)
      · have hf := (if_pos c_2).symm.trans hf
        exact K1 _ _ _ _ (Option.some.inj hf).symm hP hD hS (lv_sub hl [0, 1, 2] rfl)
      · have hf := (if_neg c_2).symm.trans hf
        refine lv_iload_n hx hb dX9_breaksUnit_24 rfl (lv_at hl 2 rfl) ?_
        refine lv_iload_n hx hb dX9_breaksUnit_25 rfl (lv_at hl 3 rfl) ?_
        refine lv_icmp_ne (tgt := 33) hx hb dX9_breaksUnit_26 (by decide) (fun c_3 => ?_) (fun c_3 => ?_)
        · have hf := (if_neg c_3).symm.trans hf
          refine lv_iconst (v := (0 : Int32)) hx hb dX9_breaksUnit_33 (by decide) ?_
          refine lv_istore (lv' := [(4, .int (0 : Int32)), (0, .ref (ad 13)), (1, .int v1), (2, .int v2), (3, .int v3)]) hx hb dX9_breaksUnit_34 hl (by decide) rfl (fun ls hl => ?_)
          refine lv_aload_n hx hb dX9_breaksUnit_36 rfl (lv_at hl 1 rfl) ?_
          refine lv_iload_n hx hb dX9_breaksUnit_37 rfl (lv_at hl 2 rfl) ?_
          refine lv_iconst (v := (0 : Int32)) hx hb dX9_breaksUnit_38 (by decide) ?_
          refine lv_iload_n hx hb dX9_breaksUnit_39 rfl (lv_at hl 3 rfl) ?_
          refine lv_iload_n hx hb dX9_breaksUnit_40 rfl (lv_at hl 4 rfl) ?_
          obtain ⟨r_4, hg_4, hf⟩ := bd_some hf
          refine xVi (rest := []) (c_X9_n l dC dI ad cI cJ cT v1 (0 : Int32) v2 v3 I J hg_4) hfix (cwV 4 hts gX9_breaksUnit_X9_n rfl rfl rfl (by decide +kernel) ⟨Nat.le_of_ble_eq_true rfl, Nat.le_of_ble_eq_true rfl⟩) hK hP hD hS hA (va_recv hK hP (ci := 8) (q0 := 13) rfl (obM_13 ad cI cJ I J)) rfl hl.1 rfl (Nat.le_of_ble_eq_true rfl) ⟨Nat.zero_le _, Nat.zero_le _⟩ dX9_breaksUnit_41 (fun H locs hP hD hS => ?_)
          refine lv_iload hx hb dX9_breaksUnit_44 (lv_at hl 0 rfl) ?_
          refine lv_icmp_ne (tgt := 62) hx hb dX9_breaksUnit_46 (by decide) (fun c_5 => ?_) (fun c_5 => ?_)
          · have hf := (if_neg c_5).symm.trans hf
            exact K0 _ _ _ _ (Option.some.inj hf).symm hP hD hS (lv_sub hl [1, 3, 4] rfl)
          · have hf := (if_pos c_5).symm.trans hf
            refine lv_aload_n hx hb dX9_breaksUnit_49 rfl (lv_at hl 1 rfl) ?_
            refine lv_iload_n hx hb dX9_breaksUnit_50 rfl (lv_at hl 2 rfl) ?_
            refine lv_iload_n hx hb dX9_breaksUnit_51 rfl (lv_at hl 3 rfl) ?_
            refine lv_iconst (v := (0 : Int32)) hx hb dX9_breaksUnit_52 (by decide) ?_
            refine lv_iload_n hx hb dX9_breaksUnit_53 rfl (lv_at hl 4 rfl) ?_
            obtain ⟨r_6, hg_6, hf⟩ := bd_some hf
            refine xVi (rest := []) (c_X9_n l dC dI ad cI cJ cT v1 v2 (0 : Int32) v3 I J hg_6) hfix (cwV 4 hts gX9_breaksUnit_X9_n rfl rfl rfl (by decide +kernel) ⟨Nat.le_of_ble_eq_true rfl, Nat.le_of_ble_eq_true rfl⟩) hK hP hD hS hA (va_recv hK hP (ci := 8) (q0 := 13) rfl (obM_13 ad cI cJ I J)) rfl hl.1 rfl (Nat.le_of_ble_eq_true rfl) ⟨Nat.zero_le _, Nat.zero_le _⟩ dX9_breaksUnit_54 (fun H locs hP hD hS => ?_)
            refine lv_iload hx hb dX9_breaksUnit_57 (lv_at hl 0 rfl) ?_
            refine lv_icmp_eq (tgt := 72) hx hb dX9_breaksUnit_59 (by decide) (fun c_7 => ?_) (fun c_7 => ?_)
            · have hf := (if_pos c_7).symm.trans hf
              refine lv_iinc (v := (v3 + (1 : Int32))) (lv' := [(3, .int (v3 + (1 : Int32))), (4, .int (0 : Int32)), (0, .ref (ad 13)), (1, .int v1), (2, .int v2)]) hx hb dX9_breaksUnit_72 hl (k := 4) rfl (by first | rfl | decide) (by decide) rfl (fun ls hl => ?_)
              refine lv_goto (tgt := 14) hx hb dX9_breaksUnit_75 (by decide) ?_
              exact ih _ _ _ _ hf hP hD hS (lv_sub hl [2, 3, 4, 0] rfl)
            · have hf := (if_neg c_7).symm.trans hf
              exact K0 _ _ _ _ (Option.some.inj hf).symm hP hD hS (lv_sub hl [1, 3, 4] rfl)
        · have hf := (if_pos c_3).symm.trans hf
          refine lv_iconst (v := (1 : Int32)) hx hb dX9_breaksUnit_29 (by decide) ?_
          refine lv_goto (tgt := 34) hx hb dX9_breaksUnit_30 (by decide) ?_
          refine lv_istore (lv' := [(4, .int (1 : Int32)), (0, .ref (ad 13)), (1, .int v1), (2, .int v2), (3, .int v3)]) hx hb dX9_breaksUnit_34 hl (by decide) rfl (fun ls hl => ?_)
          refine lv_aload_n hx hb dX9_breaksUnit_36 rfl (lv_at hl 1 rfl) ?_
          refine lv_iload_n hx hb dX9_breaksUnit_37 rfl (lv_at hl 2 rfl) ?_
          refine lv_iconst (v := (0 : Int32)) hx hb dX9_breaksUnit_38 (by decide) ?_
          refine lv_iload_n hx hb dX9_breaksUnit_39 rfl (lv_at hl 3 rfl) ?_
          refine lv_iload_n hx hb dX9_breaksUnit_40 rfl (lv_at hl 4 rfl) ?_
          obtain ⟨r_8, hg_8, hf⟩ := bd_some hf
          refine xVi (rest := []) (c_X9_n l dC dI ad cI cJ cT v1 (0 : Int32) v2 v3 I J hg_8) hfix (cwV 4 hts gX9_breaksUnit_X9_n rfl rfl rfl (by decide +kernel) ⟨Nat.le_of_ble_eq_true rfl, Nat.le_of_ble_eq_true rfl⟩) hK hP hD hS hA (va_recv hK hP (ci := 8) (q0 := 13) rfl (obM_13 ad cI cJ I J)) rfl hl.1 rfl (Nat.le_of_ble_eq_true rfl) ⟨Nat.zero_le _, Nat.zero_le _⟩ dX9_breaksUnit_41 (fun H locs hP hD hS => ?_)
          refine lv_iload hx hb dX9_breaksUnit_44 (lv_at hl 0 rfl) ?_
          refine lv_icmp_ne (tgt := 62) hx hb dX9_breaksUnit_46 (by decide) (fun c_9 => ?_) (fun c_9 => ?_)
          · have hf := (if_neg c_9).symm.trans hf
            exact K0 _ _ _ _ (Option.some.inj hf).symm hP hD hS (lv_sub hl [1, 3, 4] rfl)
          · have hf := (if_pos c_9).symm.trans hf
            refine lv_aload_n hx hb dX9_breaksUnit_49 rfl (lv_at hl 1 rfl) ?_
            refine lv_iload_n hx hb dX9_breaksUnit_50 rfl (lv_at hl 2 rfl) ?_
            refine lv_iload_n hx hb dX9_breaksUnit_51 rfl (lv_at hl 3 rfl) ?_
            refine lv_iconst (v := (0 : Int32)) hx hb dX9_breaksUnit_52 (by decide) ?_
            refine lv_iload_n hx hb dX9_breaksUnit_53 rfl (lv_at hl 4 rfl) ?_
            obtain ⟨r_10, hg_10, hf⟩ := bd_some hf
            refine xVi (rest := []) (c_X9_n l dC dI ad cI cJ cT v1 v2 (0 : Int32) v3 I J hg_10) hfix (cwV 4 hts gX9_breaksUnit_X9_n rfl rfl rfl (by decide +kernel) ⟨Nat.le_of_ble_eq_true rfl, Nat.le_of_ble_eq_true rfl⟩) hK hP hD hS hA (va_recv hK hP (ci := 8) (q0 := 13) rfl (obM_13 ad cI cJ I J)) rfl hl.1 rfl (Nat.le_of_ble_eq_true rfl) ⟨Nat.zero_le _, Nat.zero_le _⟩ dX9_breaksUnit_54 (fun H locs hP hD hS => ?_)
            refine lv_iload hx hb dX9_breaksUnit_57 (lv_at hl 0 rfl) ?_
            refine lv_icmp_eq (tgt := 72) hx hb dX9_breaksUnit_59 (by decide) (fun c_11 => ?_) (fun c_11 => ?_)
            · have hf := (if_pos c_11).symm.trans hf
              refine lv_iinc (v := (v3 + (1 : Int32))) (lv' := [(3, .int (v3 + (1 : Int32))), (4, .int (1 : Int32)), (0, .ref (ad 13)), (1, .int v1), (2, .int v2)]) hx hb dX9_breaksUnit_72 hl (k := 4) rfl (by first | rfl | decide) (by decide) rfl (fun ls hl => ?_)
              refine lv_goto (tgt := 14) hx hb dX9_breaksUnit_75 (by decide) ?_
              exact ih _ _ _ _ hf hP hD hS (lv_sub hl [2, 3, 4, 0] rfl)
            · have hf := (if_neg c_11).symm.trans hf
              exact K0 _ _ _ _ (Option.some.inj hf).symm hP hD hS (lv_sub hl [1, 3, 4] rfl)
  have L2 : ∀ (Q : State → Prop) (v1 : Int32) (I : SI) (J : SJ) (o : Nat × Int32 × Int32), (∀ (w2 : Int32) (w3 : Int32) (H : Heap) (locs : List Loc) (ls : Array Slot), o = (0, w2, w3) → va_P (dC, dI) vwCl ((wM ad cI cJ) I J) H → va_D A ((wM ad cI cJ) I J) → va_S A s.heap H locs → lv_has ls 5 [(0, .ref (ad 13)), (2, .int w2), (3, .int w3)] → W p l e ({ frames := 1, cells := 0, slots := 0, locals := 25 } : Room) s m args below meth c H locs 0 0 Q (F0 m 62 ls [])) → (∀ (w2 : Int32) (w3 : Int32) (H : Heap) (locs : List Loc) (ls : Array Slot), o = (1, w2, w3) → va_P (dC, dI) vwCl ((wM ad cI cJ) I J) H → va_D A ((wM ad cI cJ) I J) → va_S A s.heap H locs → lv_has ls 5 [] → W p l e ({ frames := 1, cells := 0, slots := 0, locals := 25 } : Room) s m args below meth c H locs 0 0 Q (F0 m 84 ls [])) → ∀ (n : Nat) (v2 : Int32) (H : Heap) (locs : List Loc) (ls : Array Slot), lp_X9_breaksUnit_2 v1 I n v2 = some o → va_P (dC, dI) vwCl ((wM ad cI cJ) I J) H → va_D A ((wM ad cI cJ) I J) → va_S A s.heap H locs → lv_has ls 5 [(0, .ref (ad 13)), (1, .int v1), (2, .int v2)] → W p l e ({ frames := 1, cells := 0, slots := 0, locals := 25 } : Room) s m args below meth c H locs 0 0 Q (F0 m 2 ls []) := by
    intro Q v1 I J o K0 K1 n
    clear hP hD hS hl
    induction n with
    | zero =>
      intro v2 H locs ls hf
      rw [lp_X9_breaksUnit_2.eq_1] at hf
      cases hf
    | succ n ih =>
      intro v2 H locs ls hf hP hD hS hl
      rw [lp_X9_breaksUnit_2.eq_2] at hf
      refine lv_iload_n hx hb dX9_breaksUnit_2 rfl (lv_at hl 2 rfl) ?_
      refine lv_aload_n hx hb dX9_breaksUnit_3 rfl (lv_at hl 0 rfl) ?_
      refine va_get (D := (dC, dI)) (ci := 8) (v := .ref (ad 0)) (C := RX9) (T := TX9) (N := 15) hx hb hts in_X9 hown hK hP 13 (obM_13 ad cI cJ I J) rfl 0 (by decide) wd_0 (fun _ h9 => h9) rfl dX9_breaksUnit_4 ?_
      refine lv_iload_n hx hb dX9_breaksUnit_7 rfl (lv_at hl 1 rfl) ?_
      obtain ⟨h_12, hf⟩ := gd_some hf
      refine x_iald hx hb hK (aiM_0 ad cI cJ) hP h_12 dX9_breaksUnit_8 ?_
      refine lv_icmp_ge (tgt := 84) hx hb dX9_breaksUnit_9 (by decide) (fun c_13 => ?_) (fun c_13 => ?_)
      · have hf := (if_pos c_13).symm.trans hf
        exact K1 _ _ _ _ _ (Option.some.inj hf).symm hP hD hS (lv_sub hl [] rfl)
      · have hf := (if_neg c_13).symm.trans hf
        refine lv_iconst (v := (0 : Int32)) hx hb dX9_breaksUnit_12 (by decide) ?_
        refine lv_istore_n (lv' := [(3, .int (0 : Int32)), (0, .ref (ad 13)), (1, .int v1), (2, .int v2)]) hx hb dX9_breaksUnit_13 rfl hl (by decide) rfl (fun ls hl => ?_)
        obtain ⟨o_14, hg_14, hf⟩ := bd_some hf
        refine L14 _ v1 v2 I J o_14 ?_ ?_ FU (0 : Int32) _ _ _ hg_14 hP hD hS (lv_sub hl [1, 2, 3, 0] rfl)
        · intro w3_14 H locs ls ho hP hD hS hl
          subst o_14
          have hf := (if_pos (show 0 = 0 from rfl)).symm.trans hf
          exact K0 _ _ _ _ _ (Option.some.inj hf).symm hP hD hS (lv_sub hl [0, 1, 2] rfl)
        · intro w3_14 H locs ls ho hP hD hS hl
          subst o_14
          have hf := (if_neg (show ¬ (1 = 0) by decide)).symm.trans hf
          refine lv_iinc (v := (v2 + (1 : Int32))) (lv' := [(2, .int (v2 + (1 : Int32))), (0, .ref (ad 13)), (1, .int v1)]) hx hb dX9_breaksUnit_78 hl (k := 2) rfl (by first | rfl | decide) (by decide) rfl (fun ls hl => ?_)
          refine lv_goto (tgt := 2) hx hb dX9_breaksUnit_81 (by decide) ?_
          exact ih _ _ _ _ hf hP hD hS (lv_sub hl [1, 2, 0] rfl)
  unfold f_X9_breaksUnit at hf
  refine lv_iconst (v := (0 : Int32)) hx hb dX9_breaksUnit_0 (by decide) ?_
  refine lv_istore_n (lv' := [(2, .int (0 : Int32)), (0, .ref (ad 13)), (1, .int p1)]) hx hb dX9_breaksUnit_1 rfl hl (by decide) rfl (fun ls hl => ?_)
  obtain ⟨o_15, hg_15, hf⟩ := bd_some hf
  refine L2 _ p1 I J o_15 ?_ ?_ FU (0 : Int32) _ _ _ hg_15 hP hD hS (lv_sub hl [1, 2, 0] rfl)
  · intro w2_15 w3_15 H locs ls ho hP hD hS hl
    subst o_15
    have hf := (if_pos (show 0 = 0 from rfl)).symm.trans hf
    refine lv_aload_n hx hb dX9_breaksUnit_62 rfl (lv_at hl 0 rfl) ?_
    refine lv_iconst (v := (1 : Int32)) hx hb dX9_breaksUnit_63 (by decide) ?_
    refine lv_iload_n hx hb dX9_breaksUnit_64 rfl (lv_at hl 1 rfl) ?_
    refine lv_iload_n hx hb dX9_breaksUnit_65 rfl (lv_at hl 2 rfl) ?_
    refine lv_iconst (v := (-1 : Int32)) hx hb dX9_breaksUnit_66 (by decide) ?_
    refine lv_iconst (v := (-1 : Int32)) hx hb dX9_breaksUnit_67 (by decide) ?_
    obtain ⟨⟨r_16, I_16⟩, hg_16, hf⟩ := bd_some hf
    refine xVi (rest := []) (c_X9_tell l dC dI ad cI cJ cT (1 : Int32) w2_15 w3_15 (-1 : Int32) (-1 : Int32) I J hg_16) hfix (cwV 5 hts gX9_breaksUnit_X9_tell rfl rfl rfl (by decide +kernel) ⟨Nat.le_of_ble_eq_true rfl, Nat.le_of_ble_eq_true rfl⟩) hK hP hD hS hA (va_recv hK hP (ci := 8) (q0 := 13) rfl (obM_13 ad cI cJ I J)) rfl hl.1 rfl (Nat.le_of_ble_eq_true rfl) ⟨Nat.zero_le _, Nat.zero_le _⟩ dX9_breaksUnit_68 (fun H locs hP hD hS => ?_)
    obtain ⟨h_17, hf⟩ := gd_some hf
    cases hf
    exact xRz hx hb hr hlocks (nz h_17) hK hP hD hS (fun _ h => h) dX9_breaksUnit_71
  · intro w2_15 w3_15 H locs ls ho hP hD hS hl
    subst o_15
    have hf := (if_neg (show ¬ (1 = 0) by decide)).symm.trans hf
    refine lv_iconst (v := (0 : Int32)) hx hb dX9_breaksUnit_84 (by decide) ?_
    cases hf
    exact xRz hx hb hr hlocks rfl hK hP hD hS (fun _ h => h) dX9_breaksUnit_85
set_option maxHeartbeats 4000000 in
set_option maxRecDepth 100000 in
theorem c_X9_breaksPartners (l : Launch) (dC : Nat → ClassId) (dI : Nat → Nat → Nat) (ad : Nat → Nat) (cI cJ cT : ClassId) (p1 : Int32) (I : SI) (J : SJ) {r0 : Int32} {I0 : SI} (hf : f_X9_breaksPartners p1 I = some (r0, I0)) : CtI l yX9_breaksPartners wsX9_breaksPartners ({ frames := 1, cells := 0, slots := 0, locals := 25 } : Room) (dC, dI) (tys3 cI cJ cT) (wM ad cI cJ) [.ref (ad 13), .int p1] I J r0 I0 J := by
  intro sz
  refine Met.ofW (cc := cX9_breaksPartners) (maxL := 6) (ret := (some .boolean)) (by decide) rfl ?_
  intro p e s m args below meth c s₁ B hml hv
  obtain ⟨hargs, hsz, hP, hK, hD0⟩ := hv
  have hx := B.exec
  have hb := B.bytes
  have hr := B.returns
  have hts := atoms_spec (ws := wsX9_breaksPartners) B.pre
  have hown : s.vm.findClass RX9 = some m.cls := findClass_of_methodNamed B.named
  have hlocks := B.notSynchronized
  subst hsz
  have hD := hD0.self (sz := s.heap.size)
  generalize hAe : va_A ((wM ad cI cJ) I J) s.heap.size = A at hD ⊢
  have hA : ∀ q : Nat, s.heap.size ≤ q → A q := fun q h => by rw [← hAe]; exact Or.inr h
  have hS : va_S A s.heap s.heap [] := va_S.rf
  have hl := lv_entry ([.ref (ad 13), .int p1]) (n := 6) (Nat.le_of_ble_eq_true rfl)
  rw [hargs, lg_entry_eq, ← hargs]
  generalize (lg_sl ([.ref (ad 13), .int p1]) ++ List.replicate (6 - (lg_sl ([.ref (ad 13), .int p1])).length) Slot.unset).toArray = ls at hl ⊢
  have hl : lv_has ls 6 [(0, .ref (ad 13)), (1, .int p1)] := hl
  have hfix : CallFix p m c cX9_breaksPartners 6 s args wsX9_breaksPartners RX9 := ⟨hx, hb, hml, hown, hts⟩
  have in_X9 : ∀ w ∈ u_ws RX9 TX9 15, w ∈ wsX9_breaksPartners := by decide +kernel
  have wd_0 := hts (.fieldLink RX9 7 "FuseBenchModel" "ranks" "[I") (by decide +kernel)
  have wd_1 := hts (.fieldLink RX9 19 "FuseBenchModel" "partners" "[I") (by decide +kernel)
  have L17 : ∀ (Q : State → Prop) (v1 : Int32) (v2 : Int32) (J : SJ) (o : Int32 × SI), (∀ (w3 : Int32) (I : SI) (H : Heap) (locs : List Loc) (ls : Array Slot), o = (w3, I) → va_P (dC, dI) vwCl ((wM ad cI cJ) I J) H → va_D A ((wM ad cI cJ) I J) → va_S A s.heap H locs → lv_has ls 6 [(0, .ref (ad 13)), (1, .int v1), (2, .int v2), (3, .int w3)] → W p l e ({ frames := 1, cells := 0, slots := 0, locals := 25 } : Room) s m args below meth c H locs 0 0 Q (F0 m 91 ls [])) → ∀ (n : Nat) (v3 : Int32) (v4 : Int32) (I : SI) (H : Heap) (locs : List Loc) (ls : Array Slot), lp_X9_breaksPartners_17 v1 v2 n v3 v4 I = some o → va_P (dC, dI) vwCl ((wM ad cI cJ) I J) H → va_D A ((wM ad cI cJ) I J) → va_S A s.heap H locs → lv_has ls 6 [(0, .ref (ad 13)), (1, .int v1), (2, .int v2), (3, .int v3), (4, .int v4)] → W p l e ({ frames := 1, cells := 0, slots := 0, locals := 25 } : Room) s m args below meth c H locs 0 0 Q (F0 m 17 ls []) := by
    intro Q v1 v2 J o K0 n
    clear hP hD hS hl
    induction n with
    | zero =>
      intro v3 v4 I H locs ls hf
      rw [lp_X9_breaksPartners_17.eq_1] at hf
      cases hf
    | succ n ih =>
      intro v3 v4 I H locs ls hf hP hD hS hl
      rw [lp_X9_breaksPartners_17.eq_2] at hf
      refine lv_iload hx hb dX9_breaksPartners_17 (lv_at hl 4 rfl) ?_
      refine lv_aload_n hx hb dX9_breaksPartners_19 rfl (lv_at hl 0 rfl) ?_
      refine va_get (D := (dC, dI)) (ci := 8) (v := .ref (ad 0)) (C := RX9) (T := TX9) (N := 15) hx hb hts in_X9 hown hK hP 13 (obM_13 ad cI cJ I J) rfl 0 (by decide) wd_0 (fun _ h9 => h9) rfl dX9_breaksPartners_20 ?_
      refine lv_iload_n hx hb dX9_breaksPartners_23 rfl (lv_at hl 1 rfl) ?_
      obtain ⟨h_1, hf⟩ := gd_some hf
      refine x_iald hx hb hK (aiM_0 ad cI cJ) hP h_1 dX9_breaksPartners_24 ?_
      refine lv_icmp_ge (tgt := 91) hx hb dX9_breaksPartners_25 (by decide) (fun c_2 => ?_) (fun c_2 => ?_)
      · have hf := (if_pos c_2).symm.trans hf
        exact K0 _ _ _ _ _ (Option.some.inj hf).symm hP hD hS (lv_sub hl [0, 1, 2, 3] rfl)
      · have hf := (if_neg c_2).symm.trans hf
        refine lv_aload_n hx hb dX9_breaksPartners_28 rfl (lv_at hl 0 rfl) ?_
        refine lv_iload_n hx hb dX9_breaksPartners_29 rfl (lv_at hl 1 rfl) ?_
        refine lv_iload_n hx hb dX9_breaksPartners_30 rfl (lv_at hl 2 rfl) ?_
        refine lv_iload hx hb dX9_breaksPartners_31 (lv_at hl 4 rfl) ?_
        refine lv_iconst (v := (0 : Int32)) hx hb dX9_breaksPartners_33 (by decide) ?_
        obtain ⟨r_3, hg_3, hf⟩ := bd_some hf
        refine xVi (rest := []) (c_X9_n l dC dI ad cI cJ cT v1 v2 v4 (0 : Int32) I J hg_3) hfix (cwV 4 hts gX9_breaksPartners_X9_n rfl rfl rfl (by decide +kernel) ⟨Nat.le_of_ble_eq_true rfl, Nat.le_of_ble_eq_true rfl⟩) hK hP hD hS hA (va_recv hK hP (ci := 8) (q0 := 13) rfl (obM_13 ad cI cJ I J)) rfl hl.1 rfl (Nat.le_of_ble_eq_true rfl) ⟨Nat.zero_le _, Nat.zero_le _⟩ dX9_breaksPartners_34 (fun H locs hP hD hS => ?_)
        refine lv_istore (lv' := [(5, .int r_3), (0, .ref (ad 13)), (1, .int v1), (2, .int v2), (3, .int v3), (4, .int v4)]) hx hb dX9_breaksPartners_37 hl (by decide) rfl (fun ls hl => ?_)
        refine lv_iload_n hx hb dX9_breaksPartners_39 rfl (lv_at hl 4 rfl) ?_
        refine lv_iload hx hb dX9_breaksPartners_40 (lv_at hl 0 rfl) ?_
        refine lv_if_ne (tgt := 49) hx hb dX9_breaksPartners_42 (by decide) (fun c_4 => ?_) (fun c_4 => ?_)
        · have hf := (if_neg c_4).symm.trans hf
          refine lv_iload hx hb dX9_breaksPartners_49 (lv_at hl 0 rfl) ?_
          refine lv_iconst (v := (1 : Int32)) hx hb dX9_breaksPartners_51 (by decide) ?_
          refine lv_icmp_ne (tgt := 59) hx hb dX9_breaksPartners_52 (by decide) (fun c_5 => ?_) (fun c_5 => ?_)
          · have hf := (if_neg c_5).symm.trans hf
            refine lv_bipush (v := (9 : Int32)) hx hb dX9_breaksPartners_59 (by decide) ?_
            refine lv_iadd hx hb dX9_breaksPartners_61 ?_
            refine lv_istore_n (lv' := [(3, .int (v3 + (9 : Int32))), (5, .int r_3), (0, .ref (ad 13)), (1, .int v1), (2, .int v2), (4, .int v4)]) hx hb dX9_breaksPartners_62 rfl hl (by decide) rfl (fun ls hl => ?_)
            refine lv_aload_n hx hb dX9_breaksPartners_63 rfl (lv_at hl 2 rfl) ?_
            refine va_get (D := (dC, dI)) (ci := 8) (v := .ref (ad 3)) (C := RX9) (T := TX9) (N := 15) hx hb hts in_X9 hown hK hP 13 (obM_13 ad cI cJ I J) rfl 3 (by decide) wd_1 (fun _ h9 => h9) rfl dX9_breaksPartners_64 ?_
            refine lv_iload_n hx hb dX9_breaksPartners_67 rfl (lv_at hl 4 rfl) ?_
            refine lv_iload hx hb dX9_breaksPartners_68 (lv_at hl 1 rfl) ?_
            refine lv_if_le (tgt := 78) hx hb dX9_breaksPartners_70 (by decide) (fun c_6 => ?_) (fun c_6 => ?_)
            · have hf := (if_pos c_6).symm.trans hf
              refine lv_aload_n hx hb dX9_breaksPartners_78 rfl (lv_at hl 2 rfl) ?_
              refine va_get (D := (dC, dI)) (ci := 8) (v := .ref (ad 3)) (C := RX9) (T := TX9) (N := 15) hx hb hts in_X9 hown hK hP 13 (obM_13 ad cI cJ I J) rfl 3 (by decide) wd_1 (fun _ h9 => h9) rfl dX9_breaksPartners_79 ?_
              refine lv_iload_n hx hb dX9_breaksPartners_82 rfl (lv_at hl 4 rfl) ?_
              obtain ⟨h_7, hf⟩ := gd_some hf
              refine x_iald hx hb hK (aiM_3 ad cI cJ) hP h_7 dX9_breaksPartners_83 ?_
              obtain ⟨h_8, hf⟩ := gd_some hf
              refine x_iast hx hb hK (aiM_3 ad cI cJ) hP hD hS h_8 dX9_breaksPartners_84 (fun H locs hP hD hS => ?_)
              refine lv_iinc (v := (v4 + (1 : Int32))) (lv' := [(4, .int (v4 + (1 : Int32))), (3, .int (v3 + (9 : Int32))), (5, .int r_3), (0, .ref (ad 13)), (1, .int v1), (2, .int v2)]) hx hb dX9_breaksPartners_85 hl (k := 5) rfl (by first | rfl | decide) (by decide) rfl (fun ls hl => ?_)
              refine lv_goto (tgt := 17) hx hb dX9_breaksPartners_88 (by decide) ?_
              exact ih _ _ _ _ _ _ hf hP hD hS (lv_sub hl [3, 4, 5, 1, 0] rfl)
            · have hf := (if_neg c_6).symm.trans hf
              refine lv_iload hx hb dX9_breaksPartners_73 (lv_at hl 5 rfl) ?_
              refine lv_goto (tgt := 84) hx hb dX9_breaksPartners_75 (by decide) ?_
              obtain ⟨h_9, hf⟩ := gd_some hf
              refine x_iast hx hb hK (aiM_3 ad cI cJ) hP hD hS h_9 dX9_breaksPartners_84 (fun H locs hP hD hS => ?_)
              refine lv_iinc (v := (v4 + (1 : Int32))) (lv' := [(4, .int (v4 + (1 : Int32))), (3, .int (v3 + (9 : Int32))), (5, .int r_3), (0, .ref (ad 13)), (1, .int v1), (2, .int v2)]) hx hb dX9_breaksPartners_85 hl (k := 5) rfl (by first | rfl | decide) (by decide) rfl (fun ls hl => ?_)
              refine lv_goto (tgt := 17) hx hb dX9_breaksPartners_88 (by decide) ?_
              exact ih _ _ _ _ _ _ hf hP hD hS (lv_sub hl [3, 4, 5, 1, 0] rfl)
          · have hf := (if_pos c_5).symm.trans hf
            refine lv_iconst (v := (1 : Int32)) hx hb dX9_breaksPartners_55 (by decide) ?_
            refine lv_goto (tgt := 61) hx hb dX9_breaksPartners_56 (by decide) ?_
            refine lv_iadd hx hb dX9_breaksPartners_61 ?_
            refine lv_istore_n (lv' := [(3, .int (v3 + (1 : Int32))), (5, .int r_3), (0, .ref (ad 13)), (1, .int v1), (2, .int v2), (4, .int v4)]) hx hb dX9_breaksPartners_62 rfl hl (by decide) rfl (fun ls hl => ?_)
            refine lv_aload_n hx hb dX9_breaksPartners_63 rfl (lv_at hl 2 rfl) ?_
            refine va_get (D := (dC, dI)) (ci := 8) (v := .ref (ad 3)) (C := RX9) (T := TX9) (N := 15) hx hb hts in_X9 hown hK hP 13 (obM_13 ad cI cJ I J) rfl 3 (by decide) wd_1 (fun _ h9 => h9) rfl dX9_breaksPartners_64 ?_
            refine lv_iload_n hx hb dX9_breaksPartners_67 rfl (lv_at hl 4 rfl) ?_
            refine lv_iload hx hb dX9_breaksPartners_68 (lv_at hl 1 rfl) ?_
            refine lv_if_le (tgt := 78) hx hb dX9_breaksPartners_70 (by decide) (fun c_10 => ?_) (fun c_10 => ?_)
            · have hf := (if_pos c_10).symm.trans hf
              refine lv_aload_n hx hb dX9_breaksPartners_78 rfl (lv_at hl 2 rfl) ?_
              refine va_get (D := (dC, dI)) (ci := 8) (v := .ref (ad 3)) (C := RX9) (T := TX9) (N := 15) hx hb hts in_X9 hown hK hP 13 (obM_13 ad cI cJ I J) rfl 3 (by decide) wd_1 (fun _ h9 => h9) rfl dX9_breaksPartners_79 ?_
              refine lv_iload_n hx hb dX9_breaksPartners_82 rfl (lv_at hl 4 rfl) ?_
              obtain ⟨h_11, hf⟩ := gd_some hf
              refine x_iald hx hb hK (aiM_3 ad cI cJ) hP h_11 dX9_breaksPartners_83 ?_
              obtain ⟨h_12, hf⟩ := gd_some hf
              refine x_iast hx hb hK (aiM_3 ad cI cJ) hP hD hS h_12 dX9_breaksPartners_84 (fun H locs hP hD hS => ?_)
              refine lv_iinc (v := (v4 + (1 : Int32))) (lv' := [(4, .int (v4 + (1 : Int32))), (3, .int (v3 + (1 : Int32))), (5, .int r_3), (0, .ref (ad 13)), (1, .int v1), (2, .int v2)]) hx hb dX9_breaksPartners_85 hl (k := 5) rfl (by first | rfl | decide) (by decide) rfl (fun ls hl => ?_)
              refine lv_goto (tgt := 17) hx hb dX9_breaksPartners_88 (by decide) ?_
              exact ih _ _ _ _ _ _ hf hP hD hS (lv_sub hl [3, 4, 5, 1, 0] rfl)
            · have hf := (if_neg c_10).symm.trans hf
              refine lv_iload hx hb dX9_breaksPartners_73 (lv_at hl 5 rfl) ?_
              refine lv_goto (tgt := 84) hx hb dX9_breaksPartners_75 (by decide) ?_
              obtain ⟨h_13, hf⟩ := gd_some hf
              refine x_iast hx hb hK (aiM_3 ad cI cJ) hP hD hS h_13 dX9_breaksPartners_84 (fun H locs hP hD hS => ?_)
              refine lv_iinc (v := (v4 + (1 : Int32))) (lv' := [(4, .int (v4 + (1 : Int32))), (3, .int (v3 + (1 : Int32))), (5, .int r_3), (0, .ref (ad 13)), (1, .int v1), (2, .int v2)]) hx hb dX9_breaksPartners_85 hl (k := 5) rfl (by first | rfl | decide) (by decide) rfl (fun ls hl => ?_)
              refine lv_goto (tgt := 17) hx hb dX9_breaksPartners_88 (by decide) ?_
              exact ih _ _ _ _ _ _ hf hP hD hS (lv_sub hl [3, 4, 5, 1, 0] rfl)
        · have hf := (if_pos c_4).symm.trans hf
          refine lv_iconst (v := (0 : Int32)) hx hb dX9_breaksPartners_45 (by decide) ?_
          refine lv_goto (tgt := 61) hx hb dX9_breaksPartners_46 (by decide) ?_
          refine lv_iadd hx hb dX9_breaksPartners_61 ?_
          refine lv_istore_n (lv' := [(3, .int (v3 + (0 : Int32))), (5, .int r_3), (0, .ref (ad 13)), (1, .int v1), (2, .int v2), (4, .int v4)]) hx hb dX9_breaksPartners_62 rfl hl (by decide) rfl (fun ls hl => ?_)
          refine lv_aload_n hx hb dX9_breaksPartners_63 rfl (lv_at hl 2 rfl) ?_
          refine va_get (D := (dC, dI)) (ci := 8) (v := .ref (ad 3)) (C := RX9) (T := TX9) (N := 15) hx hb hts in_X9 hown hK hP 13 (obM_13 ad cI cJ I J) rfl 3 (by decide) wd_1 (fun _ h9 => h9) rfl dX9_breaksPartners_64 ?_
          refine lv_iload_n hx hb dX9_breaksPartners_67 rfl (lv_at hl 4 rfl) ?_
          refine lv_iload hx hb dX9_breaksPartners_68 (lv_at hl 1 rfl) ?_
          refine lv_if_le (tgt := 78) hx hb dX9_breaksPartners_70 (by decide) (fun c_14 => ?_) (fun c_14 => ?_)
          · have hf := (if_pos c_14).symm.trans hf
            refine lv_aload_n hx hb dX9_breaksPartners_78 rfl (lv_at hl 2 rfl) ?_
            refine va_get (D := (dC, dI)) (ci := 8) (v := .ref (ad 3)) (C := RX9) (T := TX9) (N := 15) hx hb hts in_X9 hown hK hP 13 (obM_13 ad cI cJ I J) rfl 3 (by decide) wd_1 (fun _ h9 => h9) rfl dX9_breaksPartners_79 ?_
            refine lv_iload_n hx hb dX9_breaksPartners_82 rfl (lv_at hl 4 rfl) ?_
            obtain ⟨h_15, hf⟩ := gd_some hf
            refine x_iald hx hb hK (aiM_3 ad cI cJ) hP h_15 dX9_breaksPartners_83 ?_
            obtain ⟨h_16, hf⟩ := gd_some hf
            refine x_iast hx hb hK (aiM_3 ad cI cJ) hP hD hS h_16 dX9_breaksPartners_84 (fun H locs hP hD hS => ?_)
            refine lv_iinc (v := (v4 + (1 : Int32))) (lv' := [(4, .int (v4 + (1 : Int32))), (3, .int (v3 + (0 : Int32))), (5, .int r_3), (0, .ref (ad 13)), (1, .int v1), (2, .int v2)]) hx hb dX9_breaksPartners_85 hl (k := 5) rfl (by first | rfl | decide) (by decide) rfl (fun ls hl => ?_)
            refine lv_goto (tgt := 17) hx hb dX9_breaksPartners_88 (by decide) ?_
            exact ih _ _ _ _ _ _ hf hP hD hS (lv_sub hl [3, 4, 5, 1, 0] rfl)
          · have hf := (if_neg c_14).symm.trans hf
            refine lv_iload hx hb dX9_breaksPartners_73 (lv_at hl 5 rfl) ?_
            refine lv_goto (tgt := 84) hx hb dX9_breaksPartners_75 (by decide) ?_
            obtain ⟨h_17, hf⟩ := gd_some hf
            refine x_iast hx hb hK (aiM_3 ad cI cJ) hP hD hS h_17 dX9_breaksPartners_84 (fun H locs hP hD hS => ?_)
            refine lv_iinc (v := (v4 + (1 : Int32))) (lv' := [(4, .int (v4 + (1 : Int32))), (3, .int (v3 + (0 : Int32))), (5, .int r_3), (0, .ref (ad 13)), (1, .int v1), (2, .int v2)]) hx hb dX9_breaksPartners_85 hl (k := 5) rfl (by first | rfl | decide) (by decide) rfl (fun ls hl => ?_)
            refine lv_goto (tgt := 17) hx hb dX9_breaksPartners_88 (by decide) ?_
            exact ih _ _ _ _ _ _ hf hP hD hS (lv_sub hl [3, 4, 5, 1, 0] rfl)
  have L2 : ∀ (Q : State → Prop) (v1 : Int32) (J : SJ) (o : Nat × Int32 × SI), (∀ (w2 : Int32) (I : SI) (H : Heap) (locs : List Loc) (ls : Array Slot), o = (0, w2, I) → va_P (dC, dI) vwCl ((wM ad cI cJ) I J) H → va_D A ((wM ad cI cJ) I J) → va_S A s.heap H locs → lv_has ls 6 [(0, .ref (ad 13)), (2, .int w2)] → W p l e ({ frames := 1, cells := 0, slots := 0, locals := 25 } : Room) s m args below meth c H locs 0 0 Q (F0 m 96 ls [])) → (∀ (w2 : Int32) (I : SI) (H : Heap) (locs : List Loc) (ls : Array Slot), o = (1, w2, I) → va_P (dC, dI) vwCl ((wM ad cI cJ) I J) H → va_D A ((wM ad cI cJ) I J) → va_S A s.heap H locs → lv_has ls 6 [] → W p l e ({ frames := 1, cells := 0, slots := 0, locals := 25 } : Room) s m args below meth c H locs 0 0 Q (F0 m 112 ls [])) → ∀ (n : Nat) (v2 : Int32) (I : SI) (H : Heap) (locs : List Loc) (ls : Array Slot), lp_X9_breaksPartners_2 v1 n v2 I = some o → va_P (dC, dI) vwCl ((wM ad cI cJ) I J) H → va_D A ((wM ad cI cJ) I J) → va_S A s.heap H locs → lv_has ls 6 [(0, .ref (ad 13)), (1, .int v1), (2, .int v2)] → W p l e ({ frames := 1, cells := 0, slots := 0, locals := 25 } : Room) s m args below meth c H locs 0 0 Q (F0 m 2 ls []) := by
    intro Q v1 J o K0 K1 n
    clear hP hD hS hl
    induction n with
    | zero =>
      intro v2 I H locs ls hf
      rw [lp_X9_breaksPartners_2.eq_1] at hf
      cases hf
    | succ n ih =>
      intro v2 I H locs ls hf hP hD hS hl
      rw [lp_X9_breaksPartners_2.eq_2] at hf
      refine lv_iload_n hx hb dX9_breaksPartners_2 rfl (lv_at hl 2 rfl) ?_
      refine lv_aload_n hx hb dX9_breaksPartners_3 rfl (lv_at hl 0 rfl) ?_
      refine va_get (D := (dC, dI)) (ci := 8) (v := .ref (ad 0)) (C := RX9) (T := TX9) (N := 15) hx hb hts in_X9 hown hK hP 13 (obM_13 ad cI cJ I J) rfl 0 (by decide) wd_0 (fun _ h9 => h9) rfl dX9_breaksPartners_4 ?_
      refine lv_iload_n hx hb dX9_breaksPartners_7 rfl (lv_at hl 1 rfl) ?_
      obtain ⟨h_18, hf⟩ := gd_some hf
      refine x_iald hx hb hK (aiM_0 ad cI cJ) hP h_18 dX9_breaksPartners_8 ?_
      refine lv_icmp_ge (tgt := 112) hx hb dX9_breaksPartners_9 (by decide) (fun c_19 => ?_) (fun c_19 => ?_)
      · have hf := (if_pos c_19).symm.trans hf
        exact K1 _ _ _ _ _ (Option.some.inj hf).symm hP hD hS (lv_sub hl [] rfl)
      · have hf := (if_neg c_19).symm.trans hf
        refine lv_iconst (v := (0 : Int32)) hx hb dX9_breaksPartners_12 (by decide) ?_
        refine lv_istore_n (lv' := [(3, .int (0 : Int32)), (0, .ref (ad 13)), (1, .int v1), (2, .int v2)]) hx hb dX9_breaksPartners_13 rfl hl (by decide) rfl (fun ls hl => ?_)
        refine lv_iconst (v := (0 : Int32)) hx hb dX9_breaksPartners_14 (by decide) ?_
        refine lv_istore (lv' := [(4, .int (0 : Int32)), (3, .int (0 : Int32)), (0, .ref (ad 13)), (1, .int v1), (2, .int v2)]) hx hb dX9_breaksPartners_15 hl (by decide) rfl (fun ls hl => ?_)
        obtain ⟨o_20, hg_20, hf⟩ := bd_some hf
        refine L17 _ v1 v2 J o_20 ?_ FU (0 : Int32) (0 : Int32) I _ _ _ hg_20 hP hD hS (lv_sub hl [2, 3, 4, 1, 0] rfl)
        · intro w3_20 I_20 H locs ls ho hP hD hS hl
          subst o_20
          refine lv_iload_n hx hb dX9_breaksPartners_91 rfl (lv_at hl 3 rfl) ?_
          refine lv_iconst (v := (1 : Int32)) hx hb dX9_breaksPartners_92 (by decide) ?_
          refine lv_icmp_eq (tgt := 106) hx hb dX9_breaksPartners_93 (by decide) (fun c_21 => ?_) (fun c_21 => ?_)
          · have hf := (if_pos c_21).symm.trans hf
            refine lv_iinc (v := (v2 + (1 : Int32))) (lv' := [(2, .int (v2 + (1 : Int32))), (0, .ref (ad 13)), (1, .int v1), (3, .int w3_20)]) hx hb dX9_breaksPartners_106 hl (k := 2) rfl (by first | rfl | decide) (by decide) rfl (fun ls hl => ?_)
            refine lv_goto (tgt := 2) hx hb dX9_breaksPartners_109 (by decide) ?_
            exact ih _ _ _ _ _ hf hP hD hS (lv_sub hl [1, 2, 0] rfl)
          · have hf := (if_neg c_21).symm.trans hf
            exact K0 _ _ _ _ _ (Option.some.inj hf).symm hP hD hS (lv_sub hl [0, 2] rfl)
  unfold f_X9_breaksPartners at hf
  refine lv_iconst (v := (0 : Int32)) hx hb dX9_breaksPartners_0 (by decide) ?_
  refine lv_istore_n (lv' := [(2, .int (0 : Int32)), (0, .ref (ad 13)), (1, .int p1)]) hx hb dX9_breaksPartners_1 rfl hl (by decide) rfl (fun ls hl => ?_)
  obtain ⟨o_22, hg_22, hf⟩ := bd_some hf
  refine L2 _ p1 J o_22 ?_ ?_ FU (0 : Int32) I _ _ _ hg_22 hP hD hS (lv_sub hl [1, 2, 0] rfl)
  · intro w2_22 I_22 H locs ls ho hP hD hS hl
    subst o_22
    have hf := (if_pos (show 0 = 0 from rfl)).symm.trans hf
    refine lv_aload_n hx hb dX9_breaksPartners_96 rfl (lv_at hl 0 rfl) ?_
    refine lv_iconst (v := (3 : Int32)) hx hb dX9_breaksPartners_97 (by decide) ?_
    refine lv_iload_n hx hb dX9_breaksPartners_98 rfl (lv_at hl 1 rfl) ?_
    refine lv_iconst (v := (-1 : Int32)) hx hb dX9_breaksPartners_99 (by decide) ?_
    refine lv_iconst (v := (-1 : Int32)) hx hb dX9_breaksPartners_100 (by decide) ?_
    refine lv_iconst (v := (-1 : Int32)) hx hb dX9_breaksPartners_101 (by decide) ?_
    obtain ⟨⟨r_23, I_23⟩, hg_23, hf⟩ := bd_some hf
    refine xVi (rest := []) (c_X9_tell l dC dI ad cI cJ cT (3 : Int32) w2_22 (-1 : Int32) (-1 : Int32) (-1 : Int32) I_22 J hg_23) hfix (cwV 5 hts gX9_breaksPartners_X9_tell rfl rfl rfl (by decide +kernel) ⟨Nat.le_of_ble_eq_true rfl, Nat.le_of_ble_eq_true rfl⟩) hK hP hD hS hA (va_recv hK hP (ci := 8) (q0 := 13) rfl (obM_13 ad cI cJ I_22 J)) rfl hl.1 rfl (Nat.le_of_ble_eq_true rfl) ⟨Nat.zero_le _, Nat.zero_le _⟩ dX9_breaksPartners_102 (fun H locs hP hD hS => ?_)
    obtain ⟨h_24, hf⟩ := gd_some hf
    cases hf
    exact xRz hx hb hr hlocks (nz h_24) hK hP hD hS (fun _ h => h) dX9_breaksPartners_105
  · intro w2_22 I_22 H locs ls ho hP hD hS hl
    subst o_22
    have hf := (if_neg (show ¬ (1 = 0) by decide)).symm.trans hf
    refine lv_iconst (v := (0 : Int32)) hx hb dX9_breaksPartners_112 (by decide) ?_
    cases hf
    exact xRz hx hb hr hlocks rfl hK hP hD hS (fun _ h => h) dX9_breaksPartners_113
set_option maxHeartbeats 4000000 in
set_option maxRecDepth 100000 in
theorem c_X9_breaksThree (l : Launch) (dC : Nat → ClassId) (dI : Nat → Nat → Nat) (ad : Nat → Nat) (cI cJ cT : ClassId) (p1 : Int32) (p2 : Int32) (I : SI) (J : SJ) {r0 : Int32} {I0 : SI} (hf : f_X9_breaksThree p1 p2 I = some (r0, I0)) : CtI l yX9_breaksThree wsX9_breaksThree ({ frames := 1, cells := 0, slots := 0, locals := 25 } : Room) (dC, dI) (tys3 cI cJ cT) (wM ad cI cJ) [.ref (ad 13), .int p1, .int p2] I J r0 I0 J := by
  intro sz
  refine Met.ofW (cc := cX9_breaksThree) (maxL := 9) (ret := (some .boolean)) (by decide) rfl ?_
  intro p e s m args below meth c s₁ B hml hv
  obtain ⟨hargs, hsz, hP, hK, hD0⟩ := hv
  have hx := B.exec
  have hb := B.bytes
  have hr := B.returns
  have hts := atoms_spec (ws := wsX9_breaksThree) B.pre
  have hown : s.vm.findClass RX9 = some m.cls := findClass_of_methodNamed B.named
  have hlocks := B.notSynchronized
  subst hsz
  have hD := hD0.self (sz := s.heap.size)
  generalize hAe : va_A ((wM ad cI cJ) I J) s.heap.size = A at hD ⊢
  have hA : ∀ q : Nat, s.heap.size ≤ q → A q := fun q h => by rw [← hAe]; exact Or.inr h
  have hS : va_S A s.heap s.heap [] := va_S.rf
  have hl := lv_entry ([.ref (ad 13), .int p1, .int p2]) (n := 9) (Nat.le_of_ble_eq_true rfl)
  rw [hargs, lg_entry_eq, ← hargs]
  generalize (lg_sl ([.ref (ad 13), .int p1, .int p2]) ++ List.replicate (9 - (lg_sl ([.ref (ad 13), .int p1, .int p2])).length) Slot.unset).toArray = ls at hl ⊢
  have hl : lv_has ls 9 [(0, .ref (ad 13)), (1, .int p1), (2, .int p2)] := hl
  have hfix : CallFix p m c cX9_breaksThree 9 s args wsX9_breaksThree RX9 := ⟨hx, hb, hml, hown, hts⟩
  have in_X9 : ∀ w ∈ u_ws RX9 TX9 15, w ∈ wsX9_breaksThree := by decide +kernel
  have wd_0 := hts (.fieldLink RX9 19 "FuseBenchModel" "partners" "[I") (by decide +kernel)
  have wd_1 := hts (.fieldLink RX9 7 "FuseBenchModel" "ranks" "[I") (by decide +kernel)
  have L10 : ∀ (Q : State → Prop) (v1 : Int32) (v2 : Int32) (v3 : Int32) (I : SI) (J : SJ) (o : Nat × Int32 × Int32 × Int32), (∀ (w5 : Int32) (w6 : Int32) (w7 : Int32) (H : Heap) (locs : List Loc) (ls : Array Slot), o = (0, w5, w6, w7) → va_P (dC, dI) vwCl ((wM ad cI cJ) I J) H → va_D A ((wM ad cI cJ) I J) → va_S A s.heap H locs → lv_has ls 9 [(0, .ref (ad 13)), (2, .int v2), (5, .int w5), (6, .int w6), (7, .int w7)] → W p l e ({ frames := 1, cells := 0, slots := 0, locals := 25 } : Room) s m args below meth c H locs 0 0 Q (F0 m 95 ls [])) → (∀ (w5 : Int32) (w6 : Int32) (w7 : Int32) (H : Heap) (locs : List Loc) (ls : Array Slot), o = (1, w5, w6, w7) → va_P (dC, dI) vwCl ((wM ad cI cJ) I J) H → va_D A ((wM ad cI cJ) I J) → va_S A s.heap H locs → lv_has ls 9 [] → W p l e ({ frames := 1, cells := 0, slots := 0, locals := 25 } : Room) s m args below meth c H locs 0 0 Q (F0 m 114 ls [])) → ∀ (n : Nat) (v4 : Int32) (H : Heap) (locs : List Loc) (ls : Array Slot), lp_X9_breaksThree_10 v1 v2 v3 I n v4 = some o → va_P (dC, dI) vwCl ((wM ad cI cJ) I J) H → va_D A ((wM ad cI cJ) I J) → va_S A s.heap H locs → lv_has ls 9 [(0, .ref (ad 13)), (1, .int v1), (2, .int v2), (3, .int v3), (4, .int v4)] → W p l e ({ frames := 1, cells := 0, slots := 0, locals := 25 } : Room) s m args below meth c H locs 0 0 Q (F0 m 10 ls []) := by
    intro Q v1 v2 v3 I J o K0 K1 n
    clear hP hD hS hl
    induction n with
    | zero =>
      intro v4 H locs ls hf
      rw [lp_X9_breaksThree_10.eq_1] at hf
      cases hf
    | succ n ih =>
      intro v4 H locs ls hf hP hD hS hl
      rw [lp_X9_breaksThree_10.eq_2] at hf
      refine lv_iload hx hb dX9_breaksThree_10 (lv_at hl 4 rfl) ?_
      refine lv_iload_n hx hb dX9_breaksThree_12 rfl (lv_at hl 3 rfl) ?_
      refine lv_iload_n hx hb dX9_breaksThree_13 rfl (lv_at hl 3 rfl) ?_
      refine lv_imul hx hb dX9_breaksThree_14 ?_
      refine lv_iload_n hx hb dX9_breaksThree_15 rfl (lv_at hl 3 rfl) ?_
      refine lv_imul hx hb dX9_breaksThree_16 ?_
      refine lv_icmp_ge (tgt := 114) hx hb dX9_breaksThree_17 (by decide) (fun c_1 => ?_) (fun c_1 => ?_)
      · have hf := (if_pos c_1).symm.trans hf
        exact K1 _ _ _ _ _ _ (Option.some.inj hf).symm hP hD hS (lv_sub hl [] rfl)
      · have hf := (if_neg c_1).symm.trans hf
        refine lv_iload hx hb dX9_breaksThree_20 (lv_at hl 4 rfl) ?_
        refine lv_iload_n hx hb dX9_breaksThree_22 rfl (lv_at hl 3 rfl) ?_
        refine lv_iload_n hx hb dX9_breaksThree_23 rfl (lv_at hl 3 rfl) ?_
        refine lv_imul hx hb dX9_breaksThree_24 ?_
        obtain ⟨h_2, hf⟩ := gd_some hf
        refine lv_idiv hx hb dX9_breaksThree_25 h_2 ?_
        refine lv_istore (lv' := [(5, .int (v4 / (v3 * v3))), (0, .ref (ad 13)), (1, .int v1), (2, .int v2), (3, .int v3), (4, .int v4)]) hx hb dX9_breaksThree_26 hl (by decide) rfl (fun ls hl => ?_)
        refine lv_iload hx hb dX9_breaksThree_28 (lv_at hl 5 rfl) ?_
        refine lv_iload_n hx hb dX9_breaksThree_30 rfl (lv_at hl 4 rfl) ?_
        obtain ⟨h_3, hf⟩ := gd_some hf
        refine lv_idiv hx hb dX9_breaksThree_31 h_3 ?_
        refine lv_iload_n hx hb dX9_breaksThree_32 rfl (lv_at hl 4 rfl) ?_
        obtain ⟨h_4, hf⟩ := gd_some hf
        refine lv_irem hx hb dX9_breaksThree_33 h_4 ?_
        refine lv_istore (lv' := [(6, .int ((v4 / v3) - (v4 / v3) / v3 * v3)), (5, .int (v4 / (v3 * v3))), (0, .ref (ad 13)), (1, .int v1), (2, .int v2), (3, .int v3), (4, .int v4)]) hx hb dX9_breaksThree_34 hl (by decide) rfl (fun ls hl => ?_)
        refine lv_iload hx hb dX9_breaksThree_36 (lv_at hl 6 rfl) ?_
        refine lv_iload_n hx hb dX9_breaksThree_38 rfl (lv_at hl 5 rfl) ?_
        obtain ⟨h_5, hf⟩ := gd_some hf
        refine lv_irem hx hb dX9_breaksThree_39 h_5 ?_
        refine lv_istore (lv' := [(7, .int (v4 - v4 / v3 * v3)), (6, .int ((v4 / v3) - (v4 / v3) / v3 * v3)), (5, .int (v4 / (v3 * v3))), (0, .ref (ad 13)), (1, .int v1), (2, .int v2), (3, .int v3), (4, .int v4)]) hx hb dX9_breaksThree_40 hl (by decide) rfl (fun ls hl => ?_)
        refine lv_iload_n hx hb dX9_breaksThree_42 rfl (lv_at hl 5 rfl) ?_
        refine lv_iconst (v := (2 : Int32)) hx hb dX9_breaksThree_43 (by decide) ?_
        refine lv_icmp_ne (tgt := 61) hx hb dX9_breaksThree_44 (by decide) (fun c_6 => ?_) (fun c_6 => ?_)
        · have hf := (if_neg c_6).symm.trans hf
          refine lv_aload_n hx hb dX9_breaksThree_61 rfl (lv_at hl 3 rfl) ?_
          refine lv_iload_n hx hb dX9_breaksThree_62 rfl (lv_at hl 4 rfl) ?_
          refine lv_aload_n hx hb dX9_breaksThree_63 rfl (lv_at hl 3 rfl) ?_
          refine va_get (D := (dC, dI)) (ci := 8) (v := .ref (ad 3)) (C := RX9) (T := TX9) (N := 15) hx hb hts in_X9 hown hK hP 13 (obM_13 ad cI cJ I J) rfl 3 (by decide) wd_0 (fun _ h9 => h9) rfl dX9_breaksThree_64 ?_
          refine lv_iload hx hb dX9_breaksThree_67 (lv_at hl 2 rfl) ?_
          obtain ⟨h_7, hf⟩ := gd_some hf
          refine x_iald hx hb hK (aiM_3 ad cI cJ) hP h_7 dX9_breaksThree_69 ?_
          refine lv_iload hx hb dX9_breaksThree_70 (lv_at hl 0 rfl) ?_
          refine lv_iload hx hb dX9_breaksThree_72 (lv_at hl 1 rfl) ?_
          obtain ⟨r_8, hg_8, hf⟩ := bd_some hf
          refine xVi (rest := []) (c_X9_n l dC dI ad cI cJ cT v1 (I 3 (v4 / (v3 * v3)).toNatClampNeg) (v4 - v4 / v3 * v3) ((v4 / v3) - (v4 / v3) / v3 * v3) I J hg_8) hfix (cwV 4 hts gX9_breaksThree_X9_n rfl rfl rfl (by decide +kernel) ⟨Nat.le_of_ble_eq_true rfl, Nat.le_of_ble_eq_true rfl⟩) hK hP hD hS hA (va_recv hK hP (ci := 8) (q0 := 13) rfl (obM_13 ad cI cJ I J)) rfl hl.1 rfl (Nat.le_of_ble_eq_true rfl) ⟨Nat.zero_le _, Nat.zero_le _⟩ dX9_breaksThree_74 (fun H locs hP hD hS => ?_)
          refine lv_istore (lv' := [(8, .int r_8), (7, .int (v4 - v4 / v3 * v3)), (6, .int ((v4 / v3) - (v4 / v3) / v3 * v3)), (5, .int (v4 / (v3 * v3))), (0, .ref (ad 13)), (1, .int v1), (2, .int v2), (3, .int v3), (4, .int v4)]) hx hb dX9_breaksThree_77 hl (by decide) rfl (fun ls hl => ?_)
          refine lv_aload_n hx hb dX9_breaksThree_79 rfl (lv_at hl 4 rfl) ?_
          refine lv_iload_n hx hb dX9_breaksThree_80 rfl (lv_at hl 5 rfl) ?_
          refine lv_iload hx hb dX9_breaksThree_81 (lv_at hl 3 rfl) ?_
          refine lv_iload hx hb dX9_breaksThree_83 (lv_at hl 2 rfl) ?_
          refine lv_iload hx hb dX9_breaksThree_85 (lv_at hl 1 rfl) ?_
          obtain ⟨r_9, hg_9, hf⟩ := bd_some hf
          refine xVi (rest := []) (c_X9_n l dC dI ad cI cJ cT v1 (v4 / (v3 * v3)) ((v4 / v3) - (v4 / v3) / v3 * v3) (v4 - v4 / v3 * v3) I J hg_9) hfix (cwV 4 hts gX9_breaksThree_X9_n rfl rfl rfl (by decide +kernel) ⟨Nat.le_of_ble_eq_true rfl, Nat.le_of_ble_eq_true rfl⟩) hK hP hD hS hA (va_recv hK hP (ci := 8) (q0 := 13) rfl (obM_13 ad cI cJ I J)) rfl hl.1 rfl (Nat.le_of_ble_eq_true rfl) ⟨Nat.zero_le _, Nat.zero_le _⟩ dX9_breaksThree_87 (fun H locs hP hD hS => ?_)
          refine lv_iload hx hb dX9_breaksThree_90 (lv_at hl 0 rfl) ?_
          refine lv_icmp_eq (tgt := 108) hx hb dX9_breaksThree_92 (by decide) (fun c_10 => ?_) (fun c_10 => ?_)
          · have hf := (if_pos c_10).symm.trans hf
            refine lv_iinc (v := (v4 + (1 : Int32))) (lv' := [(4, .int (v4 + (1 : Int32))), (8, .int r_8), (7, .int (v4 - v4 / v3 * v3)), (6, .int ((v4 / v3) - (v4 / v3) / v3 * v3)), (5, .int (v4 / (v3 * v3))), (0, .ref (ad 13)), (1, .int v1), (2, .int v2), (3, .int v3)]) hx hb dX9_breaksThree_108 hl (k := 8) rfl (by first | rfl | decide) (by decide) rfl (fun ls hl => ?_)
            refine lv_goto (tgt := 10) hx hb dX9_breaksThree_111 (by decide) ?_
            exact ih _ _ _ _ hf hP hD hS (lv_sub hl [5, 6, 7, 8, 0] rfl)
          · have hf := (if_neg c_10).symm.trans hf
            exact K0 _ _ _ _ _ _ (Option.some.inj hf).symm hP hD hS (lv_sub hl [4, 6, 3, 2, 1] rfl)
        · have hf := (if_pos c_6).symm.trans hf
          refine lv_aload_n hx hb dX9_breaksThree_47 rfl (lv_at hl 3 rfl) ?_
          refine lv_iload_n hx hb dX9_breaksThree_48 rfl (lv_at hl 4 rfl) ?_
          refine lv_iload hx hb dX9_breaksThree_49 (lv_at hl 1 rfl) ?_
          refine lv_iload hx hb dX9_breaksThree_51 (lv_at hl 2 rfl) ?_
          refine lv_iload hx hb dX9_breaksThree_53 (lv_at hl 0 rfl) ?_
          obtain ⟨r_11, hg_11, hf⟩ := bd_some hf
          refine xVi (rest := []) (c_X9_n l dC dI ad cI cJ cT v1 ((v4 / v3) - (v4 / v3) / v3 * v3) (v4 / (v3 * v3)) (v4 - v4 / v3 * v3) I J hg_11) hfix (cwV 4 hts gX9_breaksThree_X9_n rfl rfl rfl (by decide +kernel) ⟨Nat.le_of_ble_eq_true rfl, Nat.le_of_ble_eq_true rfl⟩) hK hP hD hS hA (va_recv hK hP (ci := 8) (q0 := 13) rfl (obM_13 ad cI cJ I J)) rfl hl.1 rfl (Nat.le_of_ble_eq_true rfl) ⟨Nat.zero_le _, Nat.zero_le _⟩ dX9_breaksThree_55 (fun H locs hP hD hS => ?_)
          refine lv_goto (tgt := 77) hx hb dX9_breaksThree_58 (by decide) ?_
          refine lv_istore (lv' := [(8, .int r_11), (7, .int (v4 - v4 / v3 * v3)), (6, .int ((v4 / v3) - (v4 / v3) / v3 * v3)), (5, .int (v4 / (v3 * v3))), (0, .ref (ad 13)), (1, .int v1), (2, .int v2), (3, .int v3), (4, .int v4)]) hx hb dX9_breaksThree_77 hl (by decide) rfl (fun ls hl => ?_)
          refine lv_aload_n hx hb dX9_breaksThree_79 rfl (lv_at hl 4 rfl) ?_
          refine lv_iload_n hx hb dX9_breaksThree_80 rfl (lv_at hl 5 rfl) ?_
          refine lv_iload hx hb dX9_breaksThree_81 (lv_at hl 3 rfl) ?_
          refine lv_iload hx hb dX9_breaksThree_83 (lv_at hl 2 rfl) ?_
          refine lv_iload hx hb dX9_breaksThree_85 (lv_at hl 1 rfl) ?_
          obtain ⟨r_12, hg_12, hf⟩ := bd_some hf
          refine xVi (rest := []) (c_X9_n l dC dI ad cI cJ cT v1 (v4 / (v3 * v3)) ((v4 / v3) - (v4 / v3) / v3 * v3) (v4 - v4 / v3 * v3) I J hg_12) hfix (cwV 4 hts gX9_breaksThree_X9_n rfl rfl rfl (by decide +kernel) ⟨Nat.le_of_ble_eq_true rfl, Nat.le_of_ble_eq_true rfl⟩) hK hP hD hS hA (va_recv hK hP (ci := 8) (q0 := 13) rfl (obM_13 ad cI cJ I J)) rfl hl.1 rfl (Nat.le_of_ble_eq_true rfl) ⟨Nat.zero_le _, Nat.zero_le _⟩ dX9_breaksThree_87 (fun H locs hP hD hS => ?_)
          refine lv_iload hx hb dX9_breaksThree_90 (lv_at hl 0 rfl) ?_
          refine lv_icmp_eq (tgt := 108) hx hb dX9_breaksThree_92 (by decide) (fun c_13 => ?_) (fun c_13 => ?_)
          · have hf := (if_pos c_13).symm.trans hf
            refine lv_iinc (v := (v4 + (1 : Int32))) (lv' := [(4, .int (v4 + (1 : Int32))), (8, .int r_11), (7, .int (v4 - v4 / v3 * v3)), (6, .int ((v4 / v3) - (v4 / v3) / v3 * v3)), (5, .int (v4 / (v3 * v3))), (0, .ref (ad 13)), (1, .int v1), (2, .int v2), (3, .int v3)]) hx hb dX9_breaksThree_108 hl (k := 8) rfl (by first | rfl | decide) (by decide) rfl (fun ls hl => ?_)
            refine lv_goto (tgt := 10) hx hb dX9_breaksThree_111 (by decide) ?_
            exact ih _ _ _ _ hf hP hD hS (lv_sub hl [5, 6, 7, 8, 0] rfl)
          · have hf := (if_neg c_13).symm.trans hf
            exact K0 _ _ _ _ _ _ (Option.some.inj hf).symm hP hD hS (lv_sub hl [4, 6, 3, 2, 1] rfl)
  unfold f_X9_breaksThree at hf
  refine lv_aload_n hx hb dX9_breaksThree_0 rfl (lv_at hl 0 rfl) ?_
  refine va_get (D := (dC, dI)) (ci := 8) (v := .ref (ad 0)) (C := RX9) (T := TX9) (N := 15) hx hb hts in_X9 hown hK hP 13 (obM_13 ad cI cJ I J) rfl 0 (by decide) wd_1 (fun _ h9 => h9) rfl dX9_breaksThree_1 ?_
  refine lv_iload_n hx hb dX9_breaksThree_4 rfl (lv_at hl 1 rfl) ?_
  obtain ⟨h_14, hf⟩ := gd_some hf
  refine x_iald hx hb hK (aiM_0 ad cI cJ) hP h_14 dX9_breaksThree_5 ?_
  refine lv_istore_n (lv' := [(3, .int (I 0 p1.toNatClampNeg)), (0, .ref (ad 13)), (1, .int p1), (2, .int p2)]) hx hb dX9_breaksThree_6 rfl hl (by decide) rfl (fun ls hl => ?_)
  refine lv_iconst (v := (0 : Int32)) hx hb dX9_breaksThree_7 (by decide) ?_
  refine lv_istore (lv' := [(4, .int (0 : Int32)), (3, .int (I 0 p1.toNatClampNeg)), (0, .ref (ad 13)), (1, .int p1), (2, .int p2)]) hx hb dX9_breaksThree_8 hl (by decide) rfl (fun ls hl => ?_)
  obtain ⟨o_15, hg_15, hf⟩ := bd_some hf
  refine L10 _ p1 p2 (I 0 p1.toNatClampNeg) I J o_15 ?_ ?_ FU (0 : Int32) _ _ _ hg_15 hP hD hS (lv_sub hl [2, 3, 4, 1, 0] rfl)
  · intro w5_15 w6_15 w7_15 H locs ls ho hP hD hS hl
    subst o_15
    have hf := (if_pos (show 0 = 0 from rfl)).symm.trans hf
    refine lv_aload_n hx hb dX9_breaksThree_95 rfl (lv_at hl 0 rfl) ?_
    refine lv_iload_n hx hb dX9_breaksThree_96 rfl (lv_at hl 1 rfl) ?_
    refine lv_iload hx hb dX9_breaksThree_97 (lv_at hl 2 rfl) ?_
    refine lv_iload hx hb dX9_breaksThree_99 (lv_at hl 3 rfl) ?_
    refine lv_iload hx hb dX9_breaksThree_101 (lv_at hl 4 rfl) ?_
    refine lv_iconst (v := (-1 : Int32)) hx hb dX9_breaksThree_103 (by decide) ?_
    obtain ⟨⟨r_16, I_16⟩, hg_16, hf⟩ := bd_some hf
    refine xVi (rest := []) (c_X9_tell l dC dI ad cI cJ cT p2 w5_15 w6_15 w7_15 (-1 : Int32) I J hg_16) hfix (cwV 5 hts gX9_breaksThree_X9_tell rfl rfl rfl (by decide +kernel) ⟨Nat.le_of_ble_eq_true rfl, Nat.le_of_ble_eq_true rfl⟩) hK hP hD hS hA (va_recv hK hP (ci := 8) (q0 := 13) rfl (obM_13 ad cI cJ I J)) rfl hl.1 rfl (Nat.le_of_ble_eq_true rfl) ⟨Nat.zero_le _, Nat.zero_le _⟩ dX9_breaksThree_104 (fun H locs hP hD hS => ?_)
    obtain ⟨h_17, hf⟩ := gd_some hf
    cases hf
    exact xRz hx hb hr hlocks (nz h_17) hK hP hD hS (fun _ h => h) dX9_breaksThree_107
  · intro w5_15 w6_15 w7_15 H locs ls ho hP hD hS hl
    subst o_15
    have hf := (if_neg (show ¬ (1 = 0) by decide)).symm.trans hf
    refine lv_iconst (v := (0 : Int32)) hx hb dX9_breaksThree_114 (by decide) ?_
    cases hf
    exact xRz hx hb hr hlocks rfl hK hP hD hS (fun _ h => h) dX9_breaksThree_115
set_option maxHeartbeats 4000000 in
set_option maxRecDepth 100000 in
theorem c_X9_breaksSums (l : Launch) (dC : Nat → ClassId) (dI : Nat → Nat → Nat) (ad : Nat → Nat) (cI cJ cT : ClassId) (p1 : Int32) (I : SI) (J : SJ) {r0 : Int32} {I0 : SI} (hf : f_X9_breaksSums p1 I = some (r0, I0)) : CtI l yX9_breaksSums wsX9_breaksSums ({ frames := 1, cells := 0, slots := 0, locals := 25 } : Room) (dC, dI) (tys3 cI cJ cT) (wM ad cI cJ) [.ref (ad 13), .int p1] I J r0 I0 J := by
  intro sz
  refine Met.ofW (cc := cX9_breaksSums) (maxL := 10) (ret := (some .boolean)) (by decide) rfl ?_
  intro p e s m args below meth c s₁ B hml hv
  obtain ⟨hargs, hsz, hP, hK, hD0⟩ := hv
  have hx := B.exec
  have hb := B.bytes
  have hr := B.returns
  have hts := atoms_spec (ws := wsX9_breaksSums) B.pre
  have hown : s.vm.findClass RX9 = some m.cls := findClass_of_methodNamed B.named
  have hlocks := B.notSynchronized
  subst hsz
  have hD := hD0.self (sz := s.heap.size)
  generalize hAe : va_A ((wM ad cI cJ) I J) s.heap.size = A at hD ⊢
  have hA : ∀ q : Nat, s.heap.size ≤ q → A q := fun q h => by rw [← hAe]; exact Or.inr h
  have hS : va_S A s.heap s.heap [] := va_S.rf
  have hl := lv_entry ([.ref (ad 13), .int p1]) (n := 10) (Nat.le_of_ble_eq_true rfl)
  rw [hargs, lg_entry_eq, ← hargs]
  generalize (lg_sl ([.ref (ad 13), .int p1]) ++ List.replicate (10 - (lg_sl ([.ref (ad 13), .int p1])).length) Slot.unset).toArray = ls at hl ⊢
  have hl : lv_has ls 10 [(0, .ref (ad 13)), (1, .int p1)] := hl
  have hfix : CallFix p m c cX9_breaksSums 10 s args wsX9_breaksSums RX9 := ⟨hx, hb, hml, hown, hts⟩
  have in_X9 : ∀ w ∈ u_ws RX9 TX9 15, w ∈ wsX9_breaksSums := by decide +kernel
  have wd_0 := hts (.fieldLink RX9 7 "FuseBenchModel" "ranks" "[I") (by decide +kernel)
  have L56 : ∀ (Q : State → Prop) (v1 : Int32) (v2 : Int32) (v3 : Int32) (v4 : Int32) (v5 : Int32) (v6 : Int32) (v7 : Int32) (I : SI) (J : SJ) (o : Int32), (∀ (w8 : Int32) (H : Heap) (locs : List Loc) (ls : Array Slot), o = w8 → va_P (dC, dI) vwCl ((wM ad cI cJ) I J) H → va_D A ((wM ad cI cJ) I J) → va_S A s.heap H locs → lv_has ls 10 [(0, .ref (ad 13)), (1, .int v1), (2, .int v2), (3, .int v3), (4, .int v4), (5, .int v5), (6, .int v6), (7, .int v7), (8, .int w8)] → W p l e ({ frames := 1, cells := 0, slots := 0, locals := 25 } : Room) s m args below meth c H locs 0 0 Q (F0 m 120 ls [])) → ∀ (n : Nat) (v8 : Int32) (v9 : Int32) (H : Heap) (locs : List Loc) (ls : Array Slot), lp_X9_breaksSums_56 v1 v2 v3 v4 v5 v6 v7 I n v8 v9 = some o → va_P (dC, dI) vwCl ((wM ad cI cJ) I J) H → va_D A ((wM ad cI cJ) I J) → va_S A s.heap H locs → lv_has ls 10 [(0, .ref (ad 13)), (1, .int v1), (2, .int v2), (3, .int v3), (4, .int v4), (5, .int v5), (6, .int v6), (7, .int v7), (8, .int v8), (9, .int v9)] → W p l e ({ frames := 1, cells := 0, slots := 0, locals := 25 } : Room) s m args below meth c H locs 0 0 Q (F0 m 56 ls []) := by
    intro Q v1 v2 v3 v4 v5 v6 v7 I J o K0 n
    clear hP hD hS hl
    induction n with
    | zero =>
      intro v8 v9 H locs ls hf
      rw [lp_X9_breaksSums_56.eq_1] at hf
      cases hf
    | succ n ih =>
      intro v8 v9 H locs ls hf hP hD hS hl
      rw [lp_X9_breaksSums_56.eq_2] at hf
      refine lv_iload hx hb dX9_breaksSums_56 (lv_at hl 9 rfl) ?_
      refine lv_iload_n hx hb dX9_breaksSums_58 rfl (lv_at hl 2 rfl) ?_
      refine lv_icmp_ge (tgt := 120) hx hb dX9_breaksSums_59 (by decide) (fun c_1 => ?_) (fun c_1 => ?_)
      · have hf := (if_pos c_1).symm.trans hf
        exact K0 _ _ _ _ (Option.some.inj hf).symm hP hD hS (lv_sub hl [0, 1, 2, 3, 4, 5, 6, 7, 8] rfl)
      · have hf := (if_neg c_1).symm.trans hf
        refine lv_iload hx hb dX9_breaksSums_62 (lv_at hl 8 rfl) ?_
        refine lv_aload_n hx hb dX9_breaksSums_64 rfl (lv_at hl 0 rfl) ?_
        refine lv_iload_n hx hb dX9_breaksSums_65 rfl (lv_at hl 1 rfl) ?_
        refine lv_iload hx hb dX9_breaksSums_66 (lv_at hl 4 rfl) ?_
        refine lv_iload hx hb dX9_breaksSums_68 (lv_at hl 5 rfl) ?_
        refine lv_iload hx hb dX9_breaksSums_70 (lv_at hl 9 rfl) ?_
        obtain ⟨r_2, hg_2, hf⟩ := bd_some hf
        refine xVi (rest := [.int v8]) (c_X9_n l dC dI ad cI cJ cT v1 v4 v5 v9 I J hg_2) hfix (cwV 4 hts gX9_breaksSums_X9_n rfl rfl rfl (by decide +kernel) ⟨Nat.le_of_ble_eq_true rfl, Nat.le_of_ble_eq_true rfl⟩) hK hP hD hS hA (va_recv hK hP (ci := 8) (q0 := 13) rfl (obM_13 ad cI cJ I J)) rfl hl.1 rfl (Nat.le_of_ble_eq_true rfl) ⟨Nat.zero_le _, Nat.zero_le _⟩ dX9_breaksSums_72 (fun H locs hP hD hS => ?_)
        refine lv_aload_n hx hb dX9_breaksSums_75 rfl (lv_at hl 0 rfl) ?_
        refine lv_iload_n hx hb dX9_breaksSums_76 rfl (lv_at hl 1 rfl) ?_
        refine lv_iload hx hb dX9_breaksSums_77 (lv_at hl 9 rfl) ?_
        refine lv_iload hx hb dX9_breaksSums_79 (lv_at hl 6 rfl) ?_
        refine lv_iload hx hb dX9_breaksSums_81 (lv_at hl 7 rfl) ?_
        obtain ⟨r_3, hg_3, hf⟩ := bd_some hf
        refine xVi (rest := [.int r_2, .int v8]) (c_X9_n l dC dI ad cI cJ cT v1 v9 v6 v7 I J hg_3) hfix (cwV 4 hts gX9_breaksSums_X9_n rfl rfl rfl (by decide +kernel) ⟨Nat.le_of_ble_eq_true rfl, Nat.le_of_ble_eq_true rfl⟩) hK hP hD hS hA (va_recv hK hP (ci := 8) (q0 := 13) rfl (obM_13 ad cI cJ I J)) rfl hl.1 rfl (Nat.le_of_ble_eq_true rfl) ⟨Nat.zero_le _, Nat.zero_le _⟩ dX9_breaksSums_83 (fun H locs hP hD hS => ?_)
        refine lv_imul hx hb dX9_breaksSums_86 ?_
        refine lv_aload_n hx hb dX9_breaksSums_87 rfl (lv_at hl 0 rfl) ?_
        refine lv_iload_n hx hb dX9_breaksSums_88 rfl (lv_at hl 1 rfl) ?_
        refine lv_iload hx hb dX9_breaksSums_89 (lv_at hl 5 rfl) ?_
        refine lv_iload hx hb dX9_breaksSums_91 (lv_at hl 6 rfl) ?_
        refine lv_iload hx hb dX9_breaksSums_93 (lv_at hl 9 rfl) ?_
        obtain ⟨r_4, hg_4, hf⟩ := bd_some hf
        refine xVi (rest := [.int (r_2 * r_3), .int v8]) (c_X9_n l dC dI ad cI cJ cT v1 v5 v6 v9 I J hg_4) hfix (cwV 4 hts gX9_breaksSums_X9_n rfl rfl rfl (by decide +kernel) ⟨Nat.le_of_ble_eq_true rfl, Nat.le_of_ble_eq_true rfl⟩) hK hP hD hS hA (va_recv hK hP (ci := 8) (q0 := 13) rfl (obM_13 ad cI cJ I J)) rfl hl.1 rfl (Nat.le_of_ble_eq_true rfl) ⟨Nat.zero_le _, Nat.zero_le _⟩ dX9_breaksSums_95 (fun H locs hP hD hS => ?_)
        refine lv_aload_n hx hb dX9_breaksSums_98 rfl (lv_at hl 0 rfl) ?_
        refine lv_iload_n hx hb dX9_breaksSums_99 rfl (lv_at hl 1 rfl) ?_
        refine lv_iload hx hb dX9_breaksSums_100 (lv_at hl 4 rfl) ?_
        refine lv_iload hx hb dX9_breaksSums_102 (lv_at hl 9 rfl) ?_
        refine lv_iload hx hb dX9_breaksSums_104 (lv_at hl 7 rfl) ?_
        obtain ⟨r_5, hg_5, hf⟩ := bd_some hf
        refine xVi (rest := [.int r_4, .int (r_2 * r_3), .int v8]) (c_X9_n l dC dI ad cI cJ cT v1 v4 v9 v7 I J hg_5) hfix (cwV 4 hts gX9_breaksSums_X9_n rfl rfl rfl (by decide +kernel) ⟨Nat.le_of_ble_eq_true rfl, Nat.le_of_ble_eq_true rfl⟩) hK hP hD hS hA (va_recv hK hP (ci := 8) (q0 := 13) rfl (obM_13 ad cI cJ I J)) rfl hl.1 rfl (Nat.le_of_ble_eq_true rfl) ⟨Nat.zero_le _, Nat.zero_le _⟩ dX9_breaksSums_106 (fun H locs hP hD hS => ?_)
        refine lv_imul hx hb dX9_breaksSums_109 ?_
        refine lv_isub hx hb dX9_breaksSums_110 ?_
        refine lv_iadd hx hb dX9_breaksSums_111 ?_
        refine lv_istore (lv' := [(8, .int (v8 + ((r_2 * r_3) - (r_4 * r_5)))), (0, .ref (ad 13)), (1, .int v1), (2, .int v2), (3, .int v3), (4, .int v4), (5, .int v5), (6, .int v6), (7, .int v7), (9, .int v9)]) hx hb dX9_breaksSums_112 hl (by decide) rfl (fun ls hl => ?_)
        refine lv_iinc (v := (v9 + (1 : Int32))) (lv' := [(9, .int (v9 + (1 : Int32))), (8, .int (v8 + ((r_2 * r_3) - (r_4 * r_5)))), (0, .ref (ad 13)), (1, .int v1), (2, .int v2), (3, .int v3), (4, .int v4), (5, .int v5), (6, .int v6), (7, .int v7)]) hx hb dX9_breaksSums_114 hl (k := 9) rfl (by first | rfl | decide) (by decide) rfl (fun ls hl => ?_)
        refine lv_goto (tgt := 56) hx hb dX9_breaksSums_117 (by decide) ?_
        exact ih _ _ _ _ _ hf hP hD hS (lv_sub hl [2, 3, 4, 5, 6, 7, 8, 9, 1, 0] rfl)
  have L9 : ∀ (Q : State → Prop) (v1 : Int32) (v2 : Int32) (I : SI) (J : SJ) (o : Nat × Int32 × Int32 × Int32 × Int32), (∀ (w4 : Int32) (w5 : Int32) (w6 : Int32) (w7 : Int32) (H : Heap) (locs : List Loc) (ls : Array Slot), o = (0, w4, w5, w6, w7) → va_P (dC, dI) vwCl ((wM ad cI cJ) I J) H → va_D A ((wM ad cI cJ) I J) → va_S A s.heap H locs → lv_has ls 10 [(0, .ref (ad 13)), (4, .int w4), (5, .int w5), (6, .int w6), (7, .int w7)] → W p l e ({ frames := 1, cells := 0, slots := 0, locals := 25 } : Room) s m args below meth c H locs 0 0 Q (F0 m 125 ls [])) → (∀ (w4 : Int32) (w5 : Int32) (w6 : Int32) (w7 : Int32) (H : Heap) (locs : List Loc) (ls : Array Slot), o = (1, w4, w5, w6, w7) → va_P (dC, dI) vwCl ((wM ad cI cJ) I J) H → va_D A ((wM ad cI cJ) I J) → va_S A s.heap H locs → lv_has ls 10 [] → W p l e ({ frames := 1, cells := 0, slots := 0, locals := 25 } : Room) s m args below meth c H locs 0 0 Q (F0 m 145 ls [])) → ∀ (n : Nat) (v3 : Int32) (H : Heap) (locs : List Loc) (ls : Array Slot), lp_X9_breaksSums_9 v1 v2 I n v3 = some o → va_P (dC, dI) vwCl ((wM ad cI cJ) I J) H → va_D A ((wM ad cI cJ) I J) → va_S A s.heap H locs → lv_has ls 10 [(0, .ref (ad 13)), (1, .int v1), (2, .int v2), (3, .int v3)] → W p l e ({ frames := 1, cells := 0, slots := 0, locals := 25 } : Room) s m args below meth c H locs 0 0 Q (F0 m 9 ls []) := by
    intro Q v1 v2 I J o K0 K1 n
    clear hP hD hS hl
    induction n with
    | zero =>
      intro v3 H locs ls hf
      rw [lp_X9_breaksSums_9.eq_1] at hf
      cases hf
    | succ n ih =>
      intro v3 H locs ls hf hP hD hS hl
      rw [lp_X9_breaksSums_9.eq_2] at hf
      refine lv_iload_n hx hb dX9_breaksSums_9 rfl (lv_at hl 3 rfl) ?_
      refine lv_iload_n hx hb dX9_breaksSums_10 rfl (lv_at hl 2 rfl) ?_
      refine lv_iload_n hx hb dX9_breaksSums_11 rfl (lv_at hl 2 rfl) ?_
      refine lv_imul hx hb dX9_breaksSums_12 ?_
      refine lv_iload_n hx hb dX9_breaksSums_13 rfl (lv_at hl 2 rfl) ?_
      refine lv_imul hx hb dX9_breaksSums_14 ?_
      refine lv_iload_n hx hb dX9_breaksSums_15 rfl (lv_at hl 2 rfl) ?_
      refine lv_imul hx hb dX9_breaksSums_16 ?_
      refine lv_icmp_ge (tgt := 145) hx hb dX9_breaksSums_17 (by decide) (fun c_6 => ?_) (fun c_6 => ?_)
      · have hf := (if_pos c_6).symm.trans hf
        exact K1 _ _ _ _ _ _ _ (Option.some.inj hf).symm hP hD hS (lv_sub hl [] rfl)
      · have hf := (if_neg c_6).symm.trans hf
        refine lv_iload_n hx hb dX9_breaksSums_20 rfl (lv_at hl 3 rfl) ?_
        refine lv_iload_n hx hb dX9_breaksSums_21 rfl (lv_at hl 2 rfl) ?_
        refine lv_iload_n hx hb dX9_breaksSums_22 rfl (lv_at hl 2 rfl) ?_
        refine lv_imul hx hb dX9_breaksSums_23 ?_
        refine lv_iload_n hx hb dX9_breaksSums_24 rfl (lv_at hl 2 rfl) ?_
        refine lv_imul hx hb dX9_breaksSums_25 ?_
        obtain ⟨h_7, hf⟩ := gd_some hf
        refine lv_idiv hx hb dX9_breaksSums_26 h_7 ?_
        refine lv_istore (lv' := [(4, .int (v3 / ((v2 * v2) * v2))), (0, .ref (ad 13)), (1, .int v1), (2, .int v2), (3, .int v3)]) hx hb dX9_breaksSums_27 hl (by decide) rfl (fun ls hl => ?_)
        refine lv_iload_n hx hb dX9_breaksSums_29 rfl (lv_at hl 4 rfl) ?_
        refine lv_iload_n hx hb dX9_breaksSums_30 rfl (lv_at hl 3 rfl) ?_
        refine lv_iload_n hx hb dX9_breaksSums_31 rfl (lv_at hl 3 rfl) ?_
        refine lv_imul hx hb dX9_breaksSums_32 ?_
        obtain ⟨h_8, hf⟩ := gd_some hf
        refine lv_idiv hx hb dX9_breaksSums_33 h_8 ?_
        refine lv_iload_n hx hb dX9_breaksSums_34 rfl (lv_at hl 3 rfl) ?_
        obtain ⟨h_9, hf⟩ := gd_some hf
        refine lv_irem hx hb dX9_breaksSums_35 h_9 ?_
        refine lv_istore (lv' := [(5, .int ((v3 / (v2 * v2)) - (v3 / (v2 * v2)) / v2 * v2)), (4, .int (v3 / ((v2 * v2) * v2))), (0, .ref (ad 13)), (1, .int v1), (2, .int v2), (3, .int v3)]) hx hb dX9_breaksSums_36 hl (by decide) rfl (fun ls hl => ?_)
        refine lv_iload_n hx hb dX9_breaksSums_38 rfl (lv_at hl 5 rfl) ?_
        refine lv_iload_n hx hb dX9_breaksSums_39 rfl (lv_at hl 4 rfl) ?_
        obtain ⟨h_10, hf⟩ := gd_some hf
        refine lv_idiv hx hb dX9_breaksSums_40 h_10 ?_
        refine lv_iload_n hx hb dX9_breaksSums_41 rfl (lv_at hl 4 rfl) ?_
        obtain ⟨h_11, hf⟩ := gd_some hf
        refine lv_irem hx hb dX9_breaksSums_42 h_11 ?_
        refine lv_istore (lv' := [(6, .int ((v3 / v2) - (v3 / v2) / v2 * v2)), (5, .int ((v3 / (v2 * v2)) - (v3 / (v2 * v2)) / v2 * v2)), (4, .int (v3 / ((v2 * v2) * v2))), (0, .ref (ad 13)), (1, .int v1), (2, .int v2), (3, .int v3)]) hx hb dX9_breaksSums_43 hl (by decide) rfl (fun ls hl => ?_)
        refine lv_iload_n hx hb dX9_breaksSums_45 rfl (lv_at hl 6 rfl) ?_
        refine lv_iload_n hx hb dX9_breaksSums_46 rfl (lv_at hl 5 rfl) ?_
        obtain ⟨h_12, hf⟩ := gd_some hf
        refine lv_irem hx hb dX9_breaksSums_47 h_12 ?_
        refine lv_istore (lv' := [(7, .int (v3 - v3 / v2 * v2)), (6, .int ((v3 / v2) - (v3 / v2) / v2 * v2)), (5, .int ((v3 / (v2 * v2)) - (v3 / (v2 * v2)) / v2 * v2)), (4, .int (v3 / ((v2 * v2) * v2))), (0, .ref (ad 13)), (1, .int v1), (2, .int v2), (3, .int v3)]) hx hb dX9_breaksSums_48 hl (by decide) rfl (fun ls hl => ?_)
        refine lv_iconst (v := (0 : Int32)) hx hb dX9_breaksSums_50 (by decide) ?_
        refine lv_istore (lv' := [(8, .int (0 : Int32)), (7, .int (v3 - v3 / v2 * v2)), (6, .int ((v3 / v2) - (v3 / v2) / v2 * v2)), (5, .int ((v3 / (v2 * v2)) - (v3 / (v2 * v2)) / v2 * v2)), (4, .int (v3 / ((v2 * v2) * v2))), (0, .ref (ad 13)), (1, .int v1), (2, .int v2), (3, .int v3)]) hx hb dX9_breaksSums_51 hl (by decide) rfl (fun ls hl => ?_)
        refine lv_iconst (v := (0 : Int32)) hx hb dX9_breaksSums_53 (by decide) ?_
        refine lv_istore (lv' := [(9, .int (0 : Int32)), (8, .int (0 : Int32)), (7, .int (v3 - v3 / v2 * v2)), (6, .int ((v3 / v2) - (v3 / v2) / v2 * v2)), (5, .int ((v3 / (v2 * v2)) - (v3 / (v2 * v2)) / v2 * v2)), (4, .int (v3 / ((v2 * v2) * v2))), (0, .ref (ad 13)), (1, .int v1), (2, .int v2), (3, .int v3)]) hx hb dX9_breaksSums_54 hl (by decide) rfl (fun ls hl => ?_)
        obtain ⟨o_13, hg_13, hf⟩ := bd_some hf
        refine L56 _ v1 v2 v3 (v3 / ((v2 * v2) * v2)) ((v3 / (v2 * v2)) - (v3 / (v2 * v2)) / v2 * v2) ((v3 / v2) - (v3 / v2) / v2 * v2) (v3 - v3 / v2 * v2) I J o_13 ?_ FU (0 : Int32) (0 : Int32) _ _ _ hg_13 hP hD hS (lv_sub hl [6, 7, 8, 9, 5, 4, 3, 2, 1, 0] rfl)
        · intro w8_13 H locs ls ho hP hD hS hl
          subst o_13
          refine lv_iload hx hb dX9_breaksSums_120 (lv_at hl 8 rfl) ?_
          refine lv_if_eq (tgt := 139) hx hb dX9_breaksSums_122 (by decide) (fun c_14 => ?_) (fun c_14 => ?_)
          · have hf := (if_pos c_14).symm.trans hf
            refine lv_iinc (v := (v3 + (1 : Int32))) (lv' := [(3, .int (v3 + (1 : Int32))), (0, .ref (ad 13)), (1, .int v1), (2, .int v2), (4, .int (v3 / ((v2 * v2) * v2))), (5, .int ((v3 / (v2 * v2)) - (v3 / (v2 * v2)) / v2 * v2)), (6, .int ((v3 / v2) - (v3 / v2) / v2 * v2)), (7, .int (v3 - v3 / v2 * v2)), (8, .int w8_13)]) hx hb dX9_breaksSums_139 hl (k := 3) rfl (by first | rfl | decide) (by decide) rfl (fun ls hl => ?_)
            refine lv_goto (tgt := 9) hx hb dX9_breaksSums_142 (by decide) ?_
            exact ih _ _ _ _ hf hP hD hS (lv_sub hl [1, 2, 3, 0] rfl)
          · have hf := (if_neg c_14).symm.trans hf
            exact K0 _ _ _ _ _ _ _ (Option.some.inj hf).symm hP hD hS (lv_sub hl [0, 4, 5, 6, 7] rfl)
  unfold f_X9_breaksSums at hf
  refine lv_aload_n hx hb dX9_breaksSums_0 rfl (lv_at hl 0 rfl) ?_
  refine va_get (D := (dC, dI)) (ci := 8) (v := .ref (ad 0)) (C := RX9) (T := TX9) (N := 15) hx hb hts in_X9 hown hK hP 13 (obM_13 ad cI cJ I J) rfl 0 (by decide) wd_0 (fun _ h9 => h9) rfl dX9_breaksSums_1 ?_
  refine lv_iload_n hx hb dX9_breaksSums_4 rfl (lv_at hl 1 rfl) ?_
  obtain ⟨h_15, hf⟩ := gd_some hf
  refine x_iald hx hb hK (aiM_0 ad cI cJ) hP h_15 dX9_breaksSums_5 ?_
  refine lv_istore_n (lv' := [(2, .int (I 0 p1.toNatClampNeg)), (0, .ref (ad 13)), (1, .int p1)]) hx hb dX9_breaksSums_6 rfl hl (by decide) rfl (fun ls hl => ?_)
  refine lv_iconst (v := (0 : Int32)) hx hb dX9_breaksSums_7 (by decide) ?_
  refine lv_istore_n (lv' := [(3, .int (0 : Int32)), (2, .int (I 0 p1.toNatClampNeg)), (0, .ref (ad 13)), (1, .int p1)]) hx hb dX9_breaksSums_8 rfl hl (by decide) rfl (fun ls hl => ?_)
  obtain ⟨o_16, hg_16, hf⟩ := bd_some hf
  refine L9 _ p1 (I 0 p1.toNatClampNeg) I J o_16 ?_ ?_ FU (0 : Int32) _ _ _ hg_16 hP hD hS (lv_sub hl [2, 3, 1, 0] rfl)
  · intro w4_16 w5_16 w6_16 w7_16 H locs ls ho hP hD hS hl
    subst o_16
    have hf := (if_pos (show 0 = 0 from rfl)).symm.trans hf
    refine lv_aload_n hx hb dX9_breaksSums_125 rfl (lv_at hl 0 rfl) ?_
    refine lv_iconst (v := (5 : Int32)) hx hb dX9_breaksSums_126 (by decide) ?_
    refine lv_iload hx hb dX9_breaksSums_127 (lv_at hl 1 rfl) ?_
    refine lv_iload hx hb dX9_breaksSums_129 (lv_at hl 2 rfl) ?_
    refine lv_iload hx hb dX9_breaksSums_131 (lv_at hl 3 rfl) ?_
    refine lv_iload hx hb dX9_breaksSums_133 (lv_at hl 4 rfl) ?_
    obtain ⟨⟨r_17, I_17⟩, hg_17, hf⟩ := bd_some hf
    refine xVi (rest := []) (c_X9_tell l dC dI ad cI cJ cT (5 : Int32) w4_16 w5_16 w6_16 w7_16 I J hg_17) hfix (cwV 5 hts gX9_breaksSums_X9_tell rfl rfl rfl (by decide +kernel) ⟨Nat.le_of_ble_eq_true rfl, Nat.le_of_ble_eq_true rfl⟩) hK hP hD hS hA (va_recv hK hP (ci := 8) (q0 := 13) rfl (obM_13 ad cI cJ I J)) rfl hl.1 rfl (Nat.le_of_ble_eq_true rfl) ⟨Nat.zero_le _, Nat.zero_le _⟩ dX9_breaksSums_135 (fun H locs hP hD hS => ?_)
    obtain ⟨h_18, hf⟩ := gd_some hf
    cases hf
    exact xRz hx hb hr hlocks (nz h_18) hK hP hD hS (fun _ h => h) dX9_breaksSums_138
  · intro w4_16 w5_16 w6_16 w7_16 H locs ls ho hP hD hS hl
    subst o_16
    have hf := (if_neg (show ¬ (1 = 0) by decide)).symm.trans hf
    refine lv_iconst (v := (0 : Int32)) hx hb dX9_breaksSums_145 (by decide) ?_
    cases hf
    exact xRz hx hb hr hlocks rfl hK hP hD hS (fun _ h => h) dX9_breaksSums_146
