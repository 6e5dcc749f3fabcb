set_option maxHeartbeats 4000000 in
set_option maxRecDepth 100000 in
theorem c_X9_findLike (l : Launch) (dC : Nat → ClassId) (dI : Nat → Nat → Nat) (ad : Nat → Nat) (cI cJ cT : ClassId) (p1 : Int32) (p2 : Int32) (I : SI) (J : SJ) {I0 : SI} (hf : f_X9_findLike p1 p2 I = some I0) : CtV l yX9_findLike wsX9_findLike ({ frames := 1, cells := 0, slots := 0, locals := 24 } : Room) (dC, dI) (tys3 cI cJ cT) (wM ad cI cJ) [.ref (ad 13), .int p1, .int p2] I J I0 J := by
  intro sz
  refine Met.ofW (cc := cX9_findLike) (maxL := 9) (ret := none) (by decide) rfl ?_
  intro p e s m args below meth c s₁ B hml hv
  obtain ⟨hargs, hsz, hP, hK, hD0⟩ := hv
  have hx := B.exec
  have hb := B.bytes
  have hr := B.returns
  have hts := atoms_spec (ws := wsX9_findLike) B.pre
  have hown : s.vm.findClass RX9 = some m.cls := findClass_of_methodNamed B.named
  have hlocks := B.notSynchronized
  subst hsz
  have hD := hD0.self (sz := s.heap.size)
  generalize hAe : va_A ((wM ad cI cJ) I J) s.heap.size = A at hD ⊢
  have hA : ∀ q : Nat, s.heap.size ≤ q → A q := fun q h => by rw [← hAe]; exact Or.inr h
  have hS : va_S A s.heap s.heap [] := va_S.rf
  have hl := lv_entry ([.ref (ad 13), .int p1, .int p2]) (n := 9) (Nat.le_of_ble_eq_true rfl)
  rw [hargs, lg_entry_eq, ← hargs]
  generalize (lg_sl ([.ref (ad 13), .int p1, .int p2]) ++ List.replicate (9 - (lg_sl ([.ref (ad 13), .int p1, .int p2])).length) Slot.unset).toArray = ls at hl ⊢
  have hl : lv_has ls 9 [(0, .ref (ad 13)), (1, .int p1), (2, .int p2)] := hl
  have hfix : CallFix p m c cX9_findLike 9 s args wsX9_findLike RX9 := ⟨hx, hb, hml, hown, hts⟩
  have in_X9 : ∀ w ∈ u_ws RX9 TX9 15, w ∈ wsX9_findLike := by decide +kernel
  have wd_0 := hts (.fieldLink RX9 22 "FuseBenchModel" "like" "[I") (by decide +kernel)
  have wd_1 := hts (.fieldLink RX9 25 "FuseBenchModel" "firsts" "[I") (by decide +kernel)
  have wd_2 := hts (.fieldLink RX9 116 "FuseBenchModel" "firstMany" "I") (by decide +kernel)
  have L2 : ∀ (Q : State → Prop) (v1 : Int32) (v2 : Int32) (J : SJ) (o : SI), (∀  (I : SI) (H : Heap) (locs : List Loc) (ls : Array Slot), o = I → va_P (dC, dI) vwCl ((wM ad cI cJ) I J) H → va_D A ((wM ad cI cJ) I J) → va_S A s.heap H locs → lv_has ls 9 [(0, .ref (ad 13)), (1, .int v1), (2, .int v2)] → W p l e ({ frames := 1, cells := 0, slots := 0, locals := 24 } : Room) s m args below meth c H locs 0 0 Q (F0 m 21 ls [])) → ∀ (n : Nat) (v3 : Int32) (I : SI) (H : Heap) (locs : List Loc) (ls : Array Slot), lp_X9_findLike_2 v1 v2 n v3 I = some o → va_P (dC, dI) vwCl ((wM ad cI cJ) I J) H → va_D A ((wM ad cI cJ) I J) → va_S A s.heap H locs → lv_has ls 9 [(0, .ref (ad 13)), (1, .int v1), (2, .int v2), (3, .int v3)] → W p l e ({ frames := 1, cells := 0, slots := 0, locals := 24 } : Room) s m args below meth c H locs 0 0 Q (F0 m 2 ls []) := by
    intro Q v1 v2 J o K0 n
    clear hP hD hS hl
    induction n with
    | zero =>
      intro v3 I H locs ls hf
      rw [lp_X9_findLike_2.eq_1] at hf
      cases hf
    | succ n ih =>
      intro v3 I H locs ls hf hP hD hS hl
      rw [lp_X9_findLike_2.eq_2] at hf
      refine lv_iload_n hx hb dX9_findLike_2 rfl (lv_at hl 3 rfl) ?_
      refine lv_bipush (v := (125 : Int32)) hx hb dX9_findLike_3 (by decide) ?_
      refine lv_icmp_ge (tgt := 21) hx hb dX9_findLike_5 (by decide) (fun c_1 => ?_) (fun c_1 => ?_)
      · have hf := (if_pos c_1).symm.trans hf
        exact K0 _ _ _ _ (Option.some.inj hf).symm hP hD hS (lv_sub hl [0, 1, 2] rfl)
      · have hf := (if_neg c_1).symm.trans hf
        refine lv_aload_n hx hb dX9_findLike_8 rfl (lv_at hl 0 rfl) ?_
        refine va_get (D := (dC, dI)) (ci := 8) (v := .ref (ad 4)) (C := RX9) (T := TX9) (N := 15) hx hb hts in_X9 hown hK hP 13 (obM_13 ad cI cJ I J) rfl 4 (by decide) wd_0 (fun _ h9 => h9) rfl dX9_findLike_9 ?_
        refine lv_iload_n hx hb dX9_findLike_12 rfl (lv_at hl 3 rfl) ?_
        refine lv_iload_n hx hb dX9_findLike_13 rfl (lv_at hl 3 rfl) ?_
        obtain ⟨h_2, hf⟩ := gd_some hf
        refine x_iast hx hb hK (aiM_4 ad cI cJ) hP hD hS h_2 dX9_findLike_14 (fun H locs hP hD hS => ?_)
        refine lv_iinc (v := (v3 + (1 : Int32))) (lv' := [(3, .int (v3 + (1 : Int32))), (0, .ref (ad 13)), (1, .int v1), (2, .int v2)]) hx hb dX9_findLike_15 hl (k := 3) rfl (by first | rfl | decide) (by decide) rfl (fun ls hl => ?_)
        refine lv_goto (tgt := 2) hx hb dX9_findLike_18 (by decide) ?_
        exact ih _ _ _ _ _ hf hP hD hS (lv_sub hl [1, 2, 3, 0] rfl)
  have L175 : ∀ (Q : State → Prop) (v1 : Int32) (v4 : Int32) (v5 : Int32) (J : SJ) (o : SI), (∀  (I : SI) (H : Heap) (locs : List Loc) (ls : Array Slot), o = I → va_P (dC, dI) vwCl ((wM ad cI cJ) I J) H → va_D A ((wM ad cI cJ) I J) → va_S A s.heap H locs → lv_has ls 9 [(0, .ref (ad 13)), (1, .int v1), (4, .int v4), (5, .int v5)] → W p l e ({ frames := 1, cells := 0, slots := 0, locals := 24 } : Room) s m args below meth c H locs 0 0 Q (F0 m 241 ls [])) → ∀ (n : Nat) (v6 : Int32) (I : SI) (H : Heap) (locs : List Loc) (ls : Array Slot), lp_X9_findLike_175 v1 v4 v5 n v6 I = some o → va_P (dC, dI) vwCl ((wM ad cI cJ) I J) H → va_D A ((wM ad cI cJ) I J) → va_S A s.heap H locs → lv_has ls 9 [(0, .ref (ad 13)), (1, .int v1), (4, .int v4), (5, .int v5), (6, .int v6)] → W p l e ({ frames := 1, cells := 0, slots := 0, locals := 24 } : Room) s m args below meth c H locs 0 0 Q (F0 m 175 ls []) := by
    intro Q v1 v4 v5 J o K0 n
    clear hP hD hS hl
    induction n with
    | zero =>
      intro v6 I H locs ls hf
      rw [lp_X9_findLike_175.eq_1] at hf
      cases hf
    | succ n ih =>
      intro v6 I H locs ls hf hP hD hS hl
      rw [lp_X9_findLike_175.eq_2] at hf
      refine lv_iload hx hb dX9_findLike_175 (lv_at hl 4 rfl) ?_
      refine lv_iload_n hx hb dX9_findLike_177 rfl (lv_at hl 1 rfl) ?_
      refine lv_icmp_ge (tgt := 241) hx hb dX9_findLike_178 (by decide) (fun c_3 => ?_) (fun c_3 => ?_)
      · have hf := (if_pos c_3).symm.trans hf
        exact K0 _ _ _ _ (Option.some.inj hf).symm hP hD hS (lv_sub hl [0, 1, 2, 3] rfl)
      · have hf := (if_neg c_3).symm.trans hf
        refine lv_aload_n hx hb dX9_findLike_181 rfl (lv_at hl 0 rfl) ?_
        refine va_get (D := (dC, dI)) (ci := 8) (v := .ref (ad 4)) (C := RX9) (T := TX9) (N := 15) hx hb hts in_X9 hown hK hP 13 (obM_13 ad cI cJ I J) rfl 4 (by decide) wd_0 (fun _ h9 => h9) rfl dX9_findLike_182 ?_
        refine lv_iload hx hb dX9_findLike_185 (lv_at hl 2 rfl) ?_
        refine lv_iload hx hb dX9_findLike_187 (lv_at hl 3 rfl) ?_
        refine lv_iload hx hb dX9_findLike_189 (lv_at hl 4 rfl) ?_
        obtain ⟨r_4, hg_4, hf⟩ := bd_some hf
        refine xSi (rest := [.ref (ad 4)]) (c_X9_placeOf l dC dI ad cI cJ cT v4 v5 v6 I J hg_4) hfix (va_cwS 3 hts gX9_findLike_X9_placeOf rfl rfl rfl (by decide +kernel) ⟨Nat.le_of_ble_eq_true rfl, Nat.le_of_ble_eq_true rfl⟩) hK hP hD hS hA rfl hl.1 rfl (Nat.le_of_ble_eq_true rfl) ⟨Nat.zero_le _, Nat.zero_le _⟩ dX9_findLike_191 (fun H locs hP hD hS => ?_)
        obtain ⟨h_5, hf⟩ := gd_some hf
        refine x_iald hx hb hK (aiM_4 ad cI cJ) hP h_5 dX9_findLike_194 ?_
        refine lv_iload hx hb dX9_findLike_195 (lv_at hl 2 rfl) ?_
        refine lv_iload hx hb dX9_findLike_197 (lv_at hl 3 rfl) ?_
        refine lv_iload hx hb dX9_findLike_199 (lv_at hl 4 rfl) ?_
        obtain ⟨r_6, hg_6, hf⟩ := bd_some hf
        refine xSi (rest := [.int (I 4 r_4.toNatClampNeg)]) (c_X9_placeOf l dC dI ad cI cJ cT v4 v5 v6 I J hg_6) hfix (va_cwS 3 hts gX9_findLike_X9_placeOf rfl rfl rfl (by decide +kernel) ⟨Nat.le_of_ble_eq_true rfl, Nat.le_of_ble_eq_true rfl⟩) hK hP hD hS hA rfl hl.1 rfl (Nat.le_of_ble_eq_true rfl) ⟨Nat.zero_le _, Nat.zero_le _⟩ dX9_findLike_201 (fun H locs hP hD hS => ?_)
        refine lv_icmp_ne (tgt := 235) hx hb dX9_findLike_204 (by decide) (fun c_7 => ?_) (fun c_7 => ?_)
        · have hf := (if_neg c_7).symm.trans hf
          refine lv_iinc (v := (v6 + (1 : Int32))) (lv' := [(6, .int (v6 + (1 : Int32))), (0, .ref (ad 13)), (1, .int v1), (4, .int v4), (5, .int v5)]) hx hb dX9_findLike_235 hl (k := 4) rfl (by first | rfl | decide) (by decide) rfl (fun ls hl => ?_)
          refine lv_goto (tgt := 175) hx hb dX9_findLike_238 (by decide) ?_
          exact ih _ _ _ _ _ hf hP hD hS (lv_sub hl [1, 2, 3, 4, 0] rfl)
        · have hf := (if_pos c_7).symm.trans hf
          refine lv_aload_n hx hb dX9_findLike_207 rfl (lv_at hl 0 rfl) ?_
          refine va_get (D := (dC, dI)) (ci := 8) (v := .ref (ad 5)) (C := RX9) (T := TX9) (N := 15) hx hb hts in_X9 hown hK hP 13 (obM_13 ad cI cJ I J) rfl 5 (by decide) wd_1 (fun _ h9 => h9) rfl dX9_findLike_208 ?_
          refine lv_aload_n hx hb dX9_findLike_211 rfl (lv_at hl 0 rfl) ?_
          refine va_get (D := (dC, dI)) (ci := 8) (v := .int (I 14 0)) (C := RX9) (T := TX9) (N := 15) hx hb hts in_X9 hown hK hP 13 (obM_13 ad cI cJ I J) rfl 6 (by decide) wd_2 (fun _ h9 => h9) rfl dX9_findLike_212 ?_
          refine lv_iload hx hb dX9_findLike_215 (lv_at hl 2 rfl) ?_
          refine lv_iload hx hb dX9_findLike_217 (lv_at hl 3 rfl) ?_
          refine lv_iload hx hb dX9_findLike_219 (lv_at hl 4 rfl) ?_
          obtain ⟨r_8, hg_8, hf⟩ := bd_some hf
          refine xSi (rest := [.int (I 14 0), .ref (ad 5)]) (c_X9_placeOf l dC dI ad cI cJ cT v4 v5 v6 I J hg_8) hfix (va_cwS 3 hts gX9_findLike_X9_placeOf rfl rfl rfl (by decide +kernel) ⟨Nat.le_of_ble_eq_true rfl, Nat.le_of_ble_eq_true rfl⟩) hK hP hD hS hA rfl hl.1 rfl (Nat.le_of_ble_eq_true rfl) ⟨Nat.zero_le _, Nat.zero_le _⟩ dX9_findLike_221 (fun H locs hP hD hS => ?_)
          obtain ⟨h_9, hf⟩ := gd_some hf
          refine x_iast hx hb hK (aiM_5 ad cI cJ) hP hD hS h_9 dX9_findLike_224 (fun H locs hP hD hS => ?_)
          refine lv_aload_n hx hb dX9_findLike_225 rfl (lv_at hl 0 rfl) ?_
          refine lv_dup hx hb dX9_findLike_226 rfl ?_
          refine va_get (D := (dC, dI)) (ci := 8) (v := .int ((ups I 5 (I 14 0).toNatClampNeg r_8) 14 0)) (C := RX9) (T := TX9) (N := 15) hx hb hts in_X9 hown hK hP 13 (obM_13 ad cI cJ (ups I 5 (I 14 0).toNatClampNeg r_8) J) rfl 6 (by decide) wd_2 (fun _ h9 => h9) rfl dX9_findLike_227 ?_
          refine lv_iconst (v := (1 : Int32)) hx hb dX9_findLike_230 (by decide) ?_
          refine lv_iadd hx hb dX9_findLike_231 ?_
          refine x_put (C := RX9) (T := TX9) (N := 15) hx hb hts in_X9 tyX9 tyX9_ok nmX9 hown hK hP hD hS 13 (obM_13 ad cI cJ (ups I 5 (I 14 0).toNatClampNeg r_8) J) rfl 6 (by decide) wd_2 (fun _ h9 => h9) rfl (by decide +kernel) (Nat.le_of_ble_eq_true rfl) (psM_14 ad cI cJ (ups I 5 (I 14 0).toNatClampNeg r_8) J (((ups I 5 (I 14 0).toNatClampNeg r_8) 14 0) + (1 : Int32))) dX9_findLike_232 (fun H locs hP hD hS => ?_)
          refine lv_iinc (v := (v6 + (1 : Int32))) (lv' := [(6, .int (v6 + (1 : Int32))), (0, .ref (ad 13)), (1, .int v1), (4, .int v4), (5, .int v5)]) hx hb dX9_findLike_235 hl (k := 4) rfl (by first | rfl | decide) (by decide) rfl (fun ls hl => ?_)
          refine lv_goto (tgt := 175) hx hb dX9_findLike_238 (by decide) ?_
          exact ih _ _ _ _ _ hf hP hD hS (lv_sub hl [1, 2, 3, 4, 0] rfl)
  have L50 : ∀ (Q : State → Prop) (v1 : Int32) (v2 : Int32) (v4 : Int32) (v5 : Int32) (J : SJ) (o : Int32 × SI), (∀ (w3 : Int32) (I : SI) (H : Heap) (locs : List Loc) (ls : Array Slot), o = (w3, I) → va_P (dC, dI) vwCl ((wM ad cI cJ) I J) H → va_D A ((wM ad cI cJ) I J) → va_S A s.heap H locs → lv_has ls 9 [(0, .ref (ad 13)), (1, .int v1), (2, .int v2), (3, .int w3), (4, .int v4), (5, .int v5)] → W p l e ({ frames := 1, cells := 0, slots := 0, locals := 24 } : Room) s m args below meth c H locs 0 0 Q (F0 m 134 ls [])) → ∀ (n : Nat) (v3 : Int32) (v6 : Int32) (I : SI) (H : Heap) (locs : List Loc) (ls : Array Slot), lp_X9_findLike_50 v1 v2 v4 v5 n v3 v6 I = some o → va_P (dC, dI) vwCl ((wM ad cI cJ) I J) H → va_D A ((wM ad cI cJ) I J) → va_S A s.heap H locs → lv_has ls 9 [(0, .ref (ad 13)), (1, .int v1), (2, .int v2), (3, .int v3), (4, .int v4), (5, .int v5), (6, .int v6)] → W p l e ({ frames := 1, cells := 0, slots := 0, locals := 24 } : Room) s m args below meth c H locs 0 0 Q (F0 m 50 ls []) := by
    intro Q v1 v2 v4 v5 J o K0 n
    clear hP hD hS hl
    induction n with
    | zero =>
      intro v3 v6 I H locs ls hf
      rw [lp_X9_findLike_50.eq_1] at hf
      cases hf
    | succ n ih =>
      intro v3 v6 I H locs ls hf hP hD hS hl
      rw [lp_X9_findLike_50.eq_2] at hf
      refine lv_iload hx hb dX9_findLike_50 (lv_at hl 6 rfl) ?_
      refine lv_iload_n hx hb dX9_findLike_52 rfl (lv_at hl 1 rfl) ?_
      refine lv_icmp_ge (tgt := 134) hx hb dX9_findLike_53 (by decide) (fun c_10 => ?_) (fun c_10 => ?_)
      · have hf := (if_pos c_10).symm.trans hf
        exact K0 _ _ _ _ _ (Option.some.inj hf).symm hP hD hS (lv_sub hl [0, 1, 2, 3, 4, 5] rfl)
      · have hf := (if_neg c_10).symm.trans hf
        refine lv_aload_n hx hb dX9_findLike_56 rfl (lv_at hl 0 rfl) ?_
        refine lv_iload hx hb dX9_findLike_57 (lv_at hl 4 rfl) ?_
        refine lv_iload hx hb dX9_findLike_59 (lv_at hl 5 rfl) ?_
        refine lv_iload hx hb dX9_findLike_61 (lv_at hl 6 rfl) ?_
        obtain ⟨r_11, hg_11, hf⟩ := bd_some hf
        refine xSi (rest := [.ref (ad 13)]) (c_X9_placeOf l dC dI ad cI cJ cT v4 v5 v6 I J hg_11) hfix (va_cwS 3 hts gX9_findLike_X9_placeOf rfl rfl rfl (by decide +kernel) ⟨Nat.le_of_ble_eq_true rfl, Nat.le_of_ble_eq_true rfl⟩) hK hP hD hS hA rfl hl.1 rfl (Nat.le_of_ble_eq_true rfl) ⟨Nat.zero_le _, Nat.zero_le _⟩ dX9_findLike_63 (fun H locs hP hD hS => ?_)
        refine lv_iload hx hb dX9_findLike_66 (lv_at hl 5 rfl) ?_
        refine lv_iload hx hb dX9_findLike_68 (lv_at hl 4 rfl) ?_
        refine lv_iload hx hb dX9_findLike_70 (lv_at hl 6 rfl) ?_
        obtain ⟨r_12, hg_12, hf⟩ := bd_some hf
        refine xSi (rest := [.int r_11, .ref (ad 13)]) (c_X9_placeOf l dC dI ad cI cJ cT v5 v4 v6 I J hg_12) hfix (va_cwS 3 hts gX9_findLike_X9_placeOf rfl rfl rfl (by decide +kernel) ⟨Nat.le_of_ble_eq_true rfl, Nat.le_of_ble_eq_true rfl⟩) hK hP hD hS hA rfl hl.1 rfl (Nat.le_of_ble_eq_true rfl) ⟨Nat.zero_le _, Nat.zero_le _⟩ dX9_findLike_72 (fun H locs hP hD hS => ?_)
        obtain ⟨⟨r_13, I_13⟩, hg_13, hf⟩ := bd_some hf
        refine xVi (rest := []) (c_X9_join l dC dI ad cI cJ cT r_11 r_12 I J hg_13) hfix (cwV 2 hts gX9_findLike_X9_join rfl rfl rfl (by decide +kernel) ⟨Nat.le_of_ble_eq_true rfl, Nat.le_of_ble_eq_true rfl⟩) hK hP hD hS hA (va_recv hK hP (ci := 8) (q0 := 13) rfl (obM_13 ad cI cJ I J)) rfl hl.1 rfl (Nat.le_of_ble_eq_true rfl) ⟨Nat.zero_le _, Nat.zero_le _⟩ dX9_findLike_75 (fun H locs hP hD hS => ?_)
        refine lv_istore (lv' := [(7, .int r_13), (0, .ref (ad 13)), (1, .int v1), (2, .int v2), (3, .int v3), (4, .int v4), (5, .int v5), (6, .int v6)]) hx hb dX9_findLike_78 hl (by decide) rfl (fun ls hl => ?_)
        refine lv_aload_n hx hb dX9_findLike_80 rfl (lv_at hl 1 rfl) ?_
        refine lv_iload hx hb dX9_findLike_81 (lv_at hl 5 rfl) ?_
        refine lv_iload hx hb dX9_findLike_83 (lv_at hl 6 rfl) ?_
        refine lv_iload hx hb dX9_findLike_85 (lv_at hl 7 rfl) ?_
        obtain ⟨r_14, hg_14, hf⟩ := bd_some hf
        refine xSi (rest := [.ref (ad 13)]) (c_X9_placeOf l dC dI ad cI cJ cT v4 v5 v6 I_13 J hg_14) hfix (va_cwS 3 hts gX9_findLike_X9_placeOf rfl rfl rfl (by decide +kernel) ⟨Nat.le_of_ble_eq_true rfl, Nat.le_of_ble_eq_true rfl⟩) hK hP hD hS hA rfl hl.1 rfl (Nat.le_of_ble_eq_true rfl) ⟨Nat.zero_le _, Nat.zero_le _⟩ dX9_findLike_87 (fun H locs hP hD hS => ?_)
        refine lv_iload hx hb dX9_findLike_90 (lv_at hl 5 rfl) ?_
        refine lv_iload_n hx hb dX9_findLike_92 rfl (lv_at hl 3 rfl) ?_
        obtain ⟨r_15, hg_15, hf⟩ := bd_some hf
        refine xSi (rest := [.int r_14, .ref (ad 13)]) (c_X9_mate l dC dI ad cI cJ cT v4 v2 I_13 J hg_15) hfix (va_cwS 2 hts gX9_findLike_X9_mate rfl rfl rfl (by decide +kernel) ⟨Nat.le_of_ble_eq_true rfl, Nat.le_of_ble_eq_true rfl⟩) hK hP hD hS hA rfl hl.1 rfl (Nat.le_of_ble_eq_true rfl) ⟨Nat.zero_le _, Nat.zero_le _⟩ dX9_findLike_93 (fun H locs hP hD hS => ?_)
        refine lv_iload hx hb dX9_findLike_96 (lv_at hl 7 rfl) ?_
        refine lv_iload hx hb dX9_findLike_98 (lv_at hl 6 rfl) ?_
        obtain ⟨r_16, hg_16, hf⟩ := bd_some hf
        refine xSi (rest := [.int r_14, .ref (ad 13)]) (c_X9_placeOf l dC dI ad cI cJ cT r_15 v6 v5 I_13 J hg_16) hfix (va_cwS 3 hts gX9_findLike_X9_placeOf rfl rfl rfl (by decide +kernel) ⟨Nat.le_of_ble_eq_true rfl, Nat.le_of_ble_eq_true rfl⟩) hK hP hD hS hA rfl hl.1 rfl (Nat.le_of_ble_eq_true rfl) ⟨Nat.zero_le _, Nat.zero_le _⟩ dX9_findLike_100 (fun H locs hP hD hS => ?_)
        obtain ⟨⟨r_17, I_17⟩, hg_17, hf⟩ := bd_some hf
        refine xVi (rest := []) (c_X9_join l dC dI ad cI cJ cT r_14 r_16 I_13 J hg_17) hfix (cwV 2 hts gX9_findLike_X9_join rfl rfl rfl (by decide +kernel) ⟨Nat.le_of_ble_eq_true rfl, Nat.le_of_ble_eq_true rfl⟩) hK hP hD hS hA (va_recv hK hP (ci := 8) (q0 := 13) rfl (obM_13 ad cI cJ I_13 J)) rfl hl.1 rfl (Nat.le_of_ble_eq_true rfl) ⟨Nat.zero_le _, Nat.zero_le _⟩ dX9_findLike_103 (fun H locs hP hD hS => ?_)
        refine lv_istore (lv' := [(8, .int r_17), (7, .int r_13), (0, .ref (ad 13)), (1, .int v1), (2, .int v2), (3, .int v3), (4, .int v4), (5, .int v5), (6, .int v6)]) hx hb dX9_findLike_106 hl (by decide) rfl (fun ls hl => ?_)
        refine lv_iload_n hx hb dX9_findLike_108 rfl (lv_at hl 5 rfl) ?_
        refine lv_if_ne (tgt := 122) hx hb dX9_findLike_109 (by decide) (fun c_18 => ?_) (fun c_18 => ?_)
        · have hf := (if_neg c_18).symm.trans hf
          refine lv_iconst (v := (1 : Int32)) hx hb dX9_findLike_122 (by decide) ?_
          refine lv_goto (tgt := 127) hx hb dX9_findLike_123 (by decide) ?_
          refine lv_istore_n (lv' := [(3, .int (1 : Int32)), (8, .int r_17), (7, .int r_13), (0, .ref (ad 13)), (1, .int v1), (2, .int v2), (4, .int v4), (5, .int v5), (6, .int v6)]) hx hb dX9_findLike_127 rfl hl (by decide) rfl (fun ls hl => ?_)
          refine lv_iinc (v := (v6 + (1 : Int32))) (lv' := [(6, .int (v6 + (1 : Int32))), (3, .int (1 : Int32)), (8, .int r_17), (7, .int r_13), (0, .ref (ad 13)), (1, .int v1), (2, .int v2), (4, .int v4), (5, .int v5)]) hx hb dX9_findLike_128 hl (k := 8) rfl (by first | rfl | decide) (by decide) rfl (fun ls hl => ?_)
          refine lv_goto (tgt := 50) hx hb dX9_findLike_131 (by decide) ?_
          exact ih _ _ _ _ _ _ hf hP hD hS (lv_sub hl [4, 5, 6, 1, 7, 8, 0] rfl)
        · have hf := (if_pos c_18).symm.trans hf
          refine lv_iload hx hb dX9_findLike_112 (lv_at hl 1 rfl) ?_
          refine lv_if_ne (tgt := 122) hx hb dX9_findLike_114 (by decide) (fun c_19 => ?_) (fun c_19 => ?_)
          · have hf := (if_neg c_19).symm.trans hf
            refine lv_iconst (v := (1 : Int32)) hx hb dX9_findLike_122 (by decide) ?_
            refine lv_goto (tgt := 127) hx hb dX9_findLike_123 (by decide) ?_
            refine lv_istore_n (lv' := [(3, .int (1 : Int32)), (8, .int r_17), (7, .int r_13), (0, .ref (ad 13)), (1, .int v1), (2, .int v2), (4, .int v4), (5, .int v5), (6, .int v6)]) hx hb dX9_findLike_127 rfl hl (by decide) rfl (fun ls hl => ?_)
            refine lv_iinc (v := (v6 + (1 : Int32))) (lv' := [(6, .int (v6 + (1 : Int32))), (3, .int (1 : Int32)), (8, .int r_17), (7, .int r_13), (0, .ref (ad 13)), (1, .int v1), (2, .int v2), (4, .int v4), (5, .int v5)]) hx hb dX9_findLike_128 hl (k := 8) rfl (by first | rfl | decide) (by decide) rfl (fun ls hl => ?_)
            refine lv_goto (tgt := 50) hx hb dX9_findLike_131 (by decide) ?_
            exact ih _ _ _ _ _ _ hf hP hD hS (lv_sub hl [4, 5, 6, 1, 7, 8, 0] rfl)
          · have hf := (if_pos c_19).symm.trans hf
            refine lv_iload hx hb dX9_findLike_117 (lv_at hl 0 rfl) ?_
            refine lv_if_eq (tgt := 126) hx hb dX9_findLike_119 (by decide) (fun c_20 => ?_) (fun c_20 => ?_)
            · have hf := (if_pos c_20).symm.trans hf
              refine lv_iconst (v := (0 : Int32)) hx hb dX9_findLike_126 (by decide) ?_
              refine lv_istore_n (lv' := [(3, .int (0 : Int32)), (8, .int r_17), (7, .int r_13), (0, .ref (ad 13)), (1, .int v1), (2, .int v2), (4, .int v4), (5, .int v5), (6, .int v6)]) hx hb dX9_findLike_127 rfl hl (by decide) rfl (fun ls hl => ?_)
              refine lv_iinc (v := (v6 + (1 : Int32))) (lv' := [(6, .int (v6 + (1 : Int32))), (3, .int (0 : Int32)), (8, .int r_17), (7, .int r_13), (0, .ref (ad 13)), (1, .int v1), (2, .int v2), (4, .int v4), (5, .int v5)]) hx hb dX9_findLike_128 hl (k := 8) rfl (by first | rfl | decide) (by decide) rfl (fun ls hl => ?_)
              refine lv_goto (tgt := 50) hx hb dX9_findLike_131 (by decide) ?_
              exact ih _ _ _ _ _ _ hf hP hD hS (lv_sub hl [4, 5, 6, 1, 7, 8, 0] rfl)
            · have hf := (if_neg c_20).symm.trans hf
              refine lv_iconst (v := (1 : Int32)) hx hb dX9_findLike_122 (by decide) ?_
              refine lv_goto (tgt := 127) hx hb dX9_findLike_123 (by decide) ?_
              refine lv_istore_n (lv' := [(3, .int (1 : Int32)), (8, .int r_17), (7, .int r_13), (0, .ref (ad 13)), (1, .int v1), (2, .int v2), (4, .int v4), (5, .int v5), (6, .int v6)]) hx hb dX9_findLike_127 rfl hl (by decide) rfl (fun ls hl => ?_)
              refine lv_iinc (v := (v6 + (1 : Int32))) (lv' := [(6, .int (v6 + (1 : Int32))), (3, .int (1 : Int32)), (8, .int r_17), (7, .int r_13), (0, .ref (ad 13)), (1, .int v1), (2, .int v2), (4, .int v4), (5, .int v5)]) hx hb dX9_findLike_128 hl (k := 8) rfl (by first | rfl | decide) (by decide) rfl (fun ls hl => ?_)
              refine lv_goto (tgt := 50) hx hb dX9_findLike_131 (by decide) ?_
              exact ih _ _ _ _ _ _ hf hP hD hS (lv_sub hl [4, 5, 6, 1, 7, 8, 0] rfl)
  have L166 : ∀ (Q : State → Prop) (v1 : Int32) (v4 : Int32) (J : SJ) (o : SI), (∀  (I : SI) (H : Heap) (locs : List Loc) (ls : Array Slot), o = I → va_P (dC, dI) vwCl ((wM ad cI cJ) I J) H → va_D A ((wM ad cI cJ) I J) → va_S A s.heap H locs → lv_has ls 9 [(0, .ref (ad 13)), (1, .int v1), (4, .int v4)] → W p l e ({ frames := 1, cells := 0, slots := 0, locals := 24 } : Room) s m args below meth c H locs 0 0 Q (F0 m 247 ls [])) → ∀ (n : Nat) (v5 : Int32) (I : SI) (H : Heap) (locs : List Loc) (ls : Array Slot), lp_X9_findLike_166 v1 v4 n v5 I = some o → va_P (dC, dI) vwCl ((wM ad cI cJ) I J) H → va_D A ((wM ad cI cJ) I J) → va_S A s.heap H locs → lv_has ls 9 [(0, .ref (ad 13)), (1, .int v1), (4, .int v4), (5, .int v5)] → W p l e ({ frames := 1, cells := 0, slots := 0, locals := 24 } : Room) s m args below meth c H locs 0 0 Q (F0 m 166 ls []) := by
    intro Q v1 v4 J o K0 n
    clear hP hD hS hl
    induction n with
    | zero =>
      intro v5 I H locs ls hf
      rw [lp_X9_findLike_166.eq_1] at hf
      cases hf
    | succ n ih =>
      intro v5 I H locs ls hf hP hD hS hl
      rw [lp_X9_findLike_166.eq_2] at hf
      refine lv_iload hx hb dX9_findLike_166 (lv_at hl 3 rfl) ?_
      refine lv_iload_n hx hb dX9_findLike_168 rfl (lv_at hl 1 rfl) ?_
      refine lv_icmp_ge (tgt := 247) hx hb dX9_findLike_169 (by decide) (fun c_21 => ?_) (fun c_21 => ?_)
      · have hf := (if_pos c_21).symm.trans hf
        exact K0 _ _ _ _ (Option.some.inj hf).symm hP hD hS (lv_sub hl [0, 1, 2] rfl)
      · have hf := (if_neg c_21).symm.trans hf
        refine lv_iconst (v := (1 : Int32)) hx hb dX9_findLike_172 (by decide) ?_
        refine lv_istore (lv' := [(6, .int (1 : Int32)), (0, .ref (ad 13)), (1, .int v1), (4, .int v4), (5, .int v5)]) hx hb dX9_findLike_173 hl (by decide) rfl (fun ls hl => ?_)
        obtain ⟨o_22, hg_22, hf⟩ := bd_some hf
        refine L175 _ v1 v4 v5 J o_22 ?_ FU (1 : Int32) I _ _ _ hg_22 hP hD hS (lv_sub hl [1, 2, 3, 4, 0] rfl)
        · intro I_22 H locs ls ho hP hD hS hl
          subst o_22
          refine lv_iinc (v := (v5 + (1 : Int32))) (lv' := [(5, .int (v5 + (1 : Int32))), (0, .ref (ad 13)), (1, .int v1), (4, .int v4)]) hx hb dX9_findLike_241 hl (k := 3) rfl (by first | rfl | decide) (by decide) rfl (fun ls hl => ?_)
          refine lv_goto (tgt := 166) hx hb dX9_findLike_244 (by decide) ?_
          exact ih _ _ _ _ _ hf hP hD hS (lv_sub hl [1, 2, 3, 0] rfl)
  have L41 : ∀ (Q : State → Prop) (v1 : Int32) (v2 : Int32) (v4 : Int32) (J : SJ) (o : Int32 × SI), (∀ (w3 : Int32) (I : SI) (H : Heap) (locs : List Loc) (ls : Array Slot), o = (w3, I) → va_P (dC, dI) vwCl ((wM ad cI cJ) I J) H → va_D A ((wM ad cI cJ) I J) → va_S A s.heap H locs → lv_has ls 9 [(0, .ref (ad 13)), (1, .int v1), (2, .int v2), (3, .int w3), (4, .int v4)] → W p l e ({ frames := 1, cells := 0, slots := 0, locals := 24 } : Room) s m args below meth c H locs 0 0 Q (F0 m 140 ls [])) → ∀ (n : Nat) (v3 : Int32) (v5 : Int32) (I : SI) (H : Heap) (locs : List Loc) (ls : Array Slot), lp_X9_findLike_41 v1 v2 v4 n v3 v5 I = some o → va_P (dC, dI) vwCl ((wM ad cI cJ) I J) H → va_D A ((wM ad cI cJ) I J) → va_S A s.heap H locs → lv_has ls 9 [(0, .ref (ad 13)), (1, .int v1), (2, .int v2), (3, .int v3), (4, .int v4), (5, .int v5)] → W p l e ({ frames := 1, cells := 0, slots := 0, locals := 24 } : Room) s m args below meth c H locs 0 0 Q (F0 m 41 ls []) := by
    intro Q v1 v2 v4 J o K0 n
    clear hP hD hS hl
    induction n with
    | zero =>
      intro v3 v5 I H locs ls hf
      rw [lp_X9_findLike_41.eq_1] at hf
      cases hf
    | succ n ih =>
      intro v3 v5 I H locs ls hf hP hD hS hl
      rw [lp_X9_findLike_41.eq_2] at hf
      refine lv_iload hx hb dX9_findLike_41 (lv_at hl 5 rfl) ?_
      refine lv_iload_n hx hb dX9_findLike_43 rfl (lv_at hl 1 rfl) ?_
      refine lv_icmp_ge (tgt := 140) hx hb dX9_findLike_44 (by decide) (fun c_23 => ?_) (fun c_23 => ?_)
      · have hf := (if_pos c_23).symm.trans hf
        exact K0 _ _ _ _ _ (Option.some.inj hf).symm hP hD hS (lv_sub hl [0, 1, 2, 3, 4] rfl)
      · have hf := (if_neg c_23).symm.trans hf
        refine lv_iconst (v := (1 : Int32)) hx hb dX9_findLike_47 (by decide) ?_
        refine lv_istore (lv' := [(6, .int (1 : Int32)), (0, .ref (ad 13)), (1, .int v1), (2, .int v2), (3, .int v3), (4, .int v4), (5, .int v5)]) hx hb dX9_findLike_48 hl (by decide) rfl (fun ls hl => ?_)
        obtain ⟨o_24, hg_24, hf⟩ := bd_some hf
        refine L50 _ v1 v2 v4 v5 J o_24 ?_ FU v3 (1 : Int32) I _ _ _ hg_24 hP hD hS (lv_sub hl [1, 2, 3, 4, 5, 6, 0] rfl)
        · intro w3_24 I_24 H locs ls ho hP hD hS hl
          subst o_24
          refine lv_iinc (v := (v5 + (1 : Int32))) (lv' := [(5, .int (v5 + (1 : Int32))), (0, .ref (ad 13)), (1, .int v1), (2, .int v2), (3, .int w3_24), (4, .int v4)]) hx hb dX9_findLike_134 hl (k := 5) rfl (by first | rfl | decide) (by decide) rfl (fun ls hl => ?_)
          refine lv_goto (tgt := 41) hx hb dX9_findLike_137 (by decide) ?_
          exact ih _ _ _ _ _ _ hf hP hD hS (lv_sub hl [1, 2, 3, 4, 5, 0] rfl)
  have L157 : ∀ (Q : State → Prop) (v1 : Int32) (J : SJ) (o : SI), (∀  (I : SI) (H : Heap) (locs : List Loc) (ls : Array Slot), o = I → va_P (dC, dI) vwCl ((wM ad cI cJ) I J) H → va_D A ((wM ad cI cJ) I J) → va_S A s.heap H locs → lv_has ls 9 [] → W p l e ({ frames := 1, cells := 0, slots := 0, locals := 24 } : Room) s m args below meth c H locs 0 0 Q (F0 m 253 ls [])) → ∀ (n : Nat) (v4 : Int32) (I : SI) (H : Heap) (locs : List Loc) (ls : Array Slot), lp_X9_findLike_157 v1 n v4 I = some o → va_P (dC, dI) vwCl ((wM ad cI cJ) I J) H → va_D A ((wM ad cI cJ) I J) → va_S A s.heap H locs → lv_has ls 9 [(0, .ref (ad 13)), (1, .int v1), (4, .int v4)] → W p l e ({ frames := 1, cells := 0, slots := 0, locals := 24 } : Room) s m args below meth c H locs 0 0 Q (F0 m 157 ls []) := by
    intro Q v1 J o K0 n
    clear hP hD hS hl
    induction n with
    | zero =>
      intro v4 I H locs ls hf
      rw [lp_X9_findLike_157.eq_1] at hf
      cases hf
    | succ n ih =>
      intro v4 I H locs ls hf hP hD hS hl
      rw [lp_X9_findLike_157.eq_2] at hf
      refine lv_iload hx hb dX9_findLike_157 (lv_at hl 2 rfl) ?_
      refine lv_iload_n hx hb dX9_findLike_159 rfl (lv_at hl 1 rfl) ?_
      refine lv_icmp_ge (tgt := 253) hx hb dX9_findLike_160 (by decide) (fun c_25 => ?_) (fun c_25 => ?_)
      · have hf := (if_pos c_25).symm.trans hf
        exact K0 _ _ _ _ (Option.some.inj hf).symm hP hD hS (lv_sub hl [] rfl)
      · have hf := (if_neg c_25).symm.trans hf
        refine lv_iconst (v := (1 : Int32)) hx hb dX9_findLike_163 (by decide) ?_
        refine lv_istore (lv' := [(5, .int (1 : Int32)), (0, .ref (ad 13)), (1, .int v1), (4, .int v4)]) hx hb dX9_findLike_164 hl (by decide) rfl (fun ls hl => ?_)
        obtain ⟨o_26, hg_26, hf⟩ := bd_some hf
        refine L166 _ v1 v4 J o_26 ?_ FU (1 : Int32) I _ _ _ hg_26 hP hD hS (lv_sub hl [1, 2, 3, 0] rfl)
        · intro I_26 H locs ls ho hP hD hS hl
          subst o_26
          refine lv_iinc (v := (v4 + (1 : Int32))) (lv' := [(4, .int (v4 + (1 : Int32))), (0, .ref (ad 13)), (1, .int v1)]) hx hb dX9_findLike_247 hl (k := 2) rfl (by first | rfl | decide) (by decide) rfl (fun ls hl => ?_)
          refine lv_goto (tgt := 157) hx hb dX9_findLike_250 (by decide) ?_
          exact ih _ _ _ _ _ hf hP hD hS (lv_sub hl [1, 2, 0] rfl)
  have L32 : ∀ (Q : State → Prop) (v1 : Int32) (v2 : Int32) (J : SJ) (o : Int32 × SI), (∀ (w3 : Int32) (I : SI) (H : Heap) (locs : List Loc) (ls : Array Slot), o = (w3, I) → va_P (dC, dI) vwCl ((wM ad cI cJ) I J) H → va_D A ((wM ad cI cJ) I J) → va_S A s.heap H locs → lv_has ls 9 [(0, .ref (ad 13)), (1, .int v1), (2, .int v2), (3, .int w3)] → W p l e ({ frames := 1, cells := 0, slots := 0, locals := 24 } : Room) s m args below meth c H locs 0 0 Q (F0 m 146 ls [])) → ∀ (n : Nat) (v3 : Int32) (v4 : Int32) (I : SI) (H : Heap) (locs : List Loc) (ls : Array Slot), lp_X9_findLike_32 v1 v2 n v3 v4 I = some o → va_P (dC, dI) vwCl ((wM ad cI cJ) I J) H → va_D A ((wM ad cI cJ) I J) → va_S A s.heap H locs → lv_has ls 9 [(0, .ref (ad 13)), (1, .int v1), (2, .int v2), (3, .int v3), (4, .int v4)] → W p l e ({ frames := 1, cells := 0, slots := 0, locals := 24 } : Room) s m args below meth c H locs 0 0 Q (F0 m 32 ls []) := by
    intro Q v1 v2 J o K0 n
    clear hP hD hS hl
    induction n with
    | zero =>
      intro v3 v4 I H locs ls hf
      rw [lp_X9_findLike_32.eq_1] at hf
      cases hf
    | succ n ih =>
      intro v3 v4 I H locs ls hf hP hD hS hl
      rw [lp_X9_findLike_32.eq_2] at hf
      refine lv_iload hx hb dX9_findLike_32 (lv_at hl 4 rfl) ?_
      refine lv_iload_n hx hb dX9_findLike_34 rfl (lv_at hl 1 rfl) ?_
      refine lv_icmp_ge (tgt := 146) hx hb dX9_findLike_35 (by decide) (fun c_27 => ?_) (fun c_27 => ?_)
      · have hf := (if_pos c_27).symm.trans hf
        exact K0 _ _ _ _ _ (Option.some.inj hf).symm hP hD hS (lv_sub hl [0, 1, 2, 3] rfl)
      · have hf := (if_neg c_27).symm.trans hf
        refine lv_iconst (v := (1 : Int32)) hx hb dX9_findLike_38 (by decide) ?_
        refine lv_istore (lv' := [(5, .int (1 : Int32)), (0, .ref (ad 13)), (1, .int v1), (2, .int v2), (3, .int v3), (4, .int v4)]) hx hb dX9_findLike_39 hl (by decide) rfl (fun ls hl => ?_)
        obtain ⟨o_28, hg_28, hf⟩ := bd_some hf
        refine L41 _ v1 v2 v4 J o_28 ?_ FU v3 (1 : Int32) I _ _ _ hg_28 hP hD hS (lv_sub hl [1, 2, 3, 4, 5, 0] rfl)
        · intro w3_28 I_28 H locs ls ho hP hD hS hl
          subst o_28
          refine lv_iinc (v := (v4 + (1 : Int32))) (lv' := [(4, .int (v4 + (1 : Int32))), (0, .ref (ad 13)), (1, .int v1), (2, .int v2), (3, .int w3_28)]) hx hb dX9_findLike_140 hl (k := 4) rfl (by first | rfl | decide) (by decide) rfl (fun ls hl => ?_)
          refine lv_goto (tgt := 32) hx hb dX9_findLike_143 (by decide) ?_
          exact ih _ _ _ _ _ _ hf hP hD hS (lv_sub hl [1, 2, 3, 4, 0] rfl)
  have L23 : ∀ (Q : State → Prop) (v1 : Int32) (v2 : Int32) (J : SJ) (o : SI), (∀  (I : SI) (H : Heap) (locs : List Loc) (ls : Array Slot), o = I → va_P (dC, dI) vwCl ((wM ad cI cJ) I J) H → va_D A ((wM ad cI cJ) I J) → va_S A s.heap H locs → lv_has ls 9 [(0, .ref (ad 13)), (1, .int v1)] → W p l e ({ frames := 1, cells := 0, slots := 0, locals := 24 } : Room) s m args below meth c H locs 0 0 Q (F0 m 149 ls [])) → ∀ (n : Nat) (v3 : Int32) (I : SI) (H : Heap) (locs : List Loc) (ls : Array Slot), lp_X9_findLike_23 v1 v2 n v3 I = some o → va_P (dC, dI) vwCl ((wM ad cI cJ) I J) H → va_D A ((wM ad cI cJ) I J) → va_S A s.heap H locs → lv_has ls 9 [(0, .ref (ad 13)), (1, .int v1), (2, .int v2), (3, .int v3)] → W p l e ({ frames := 1, cells := 0, slots := 0, locals := 24 } : Room) s m args below meth c H locs 0 0 Q (F0 m 23 ls []) := by
    intro Q v1 v2 J o K0 n
    clear hP hD hS hl
    induction n with
    | zero =>
      intro v3 I H locs ls hf
      rw [lp_X9_findLike_23.eq_1] at hf
      cases hf
    | succ n ih =>
      intro v3 I H locs ls hf hP hD hS hl
      rw [lp_X9_findLike_23.eq_2] at hf
      refine lv_iload_n hx hb dX9_findLike_23 rfl (lv_at hl 3 rfl) ?_
      refine lv_if_eq (tgt := 149) hx hb dX9_findLike_24 (by decide) (fun c_29 => ?_) (fun c_29 => ?_)
      · have hf := (if_pos c_29).symm.trans hf
        exact K0 _ _ _ _ (Option.some.inj hf).symm hP hD hS (lv_sub hl [0, 1] rfl)
      · have hf := (if_neg c_29).symm.trans hf
        refine lv_iconst (v := (0 : Int32)) hx hb dX9_findLike_27 (by decide) ?_
        refine lv_istore_n (lv' := [(3, .int (0 : Int32)), (0, .ref (ad 13)), (1, .int v1), (2, .int v2)]) hx hb dX9_findLike_28 rfl hl (by decide) rfl (fun ls hl => ?_)
        refine lv_iconst (v := (1 : Int32)) hx hb dX9_findLike_29 (by decide) ?_
        refine lv_istore (lv' := [(4, .int (1 : Int32)), (3, .int (0 : Int32)), (0, .ref (ad 13)), (1, .int v1), (2, .int v2)]) hx hb dX9_findLike_30 hl (by decide) rfl (fun ls hl => ?_)
        obtain ⟨o_30, hg_30, hf⟩ := bd_some hf
        refine L32 _ v1 v2 J o_30 ?_ FU (0 : Int32) (1 : Int32) I _ _ _ hg_30 hP hD hS (lv_sub hl [2, 3, 4, 1, 0] rfl)
        · intro w3_30 I_30 H locs ls ho hP hD hS hl
          subst o_30
          refine lv_goto (tgt := 23) hx hb dX9_findLike_146 (by decide) ?_
          exact ih _ _ _ _ _ hf hP hD hS (lv_sub hl [0, 1, 2, 3] rfl)
  unfold f_X9_findLike at hf
  refine lv_iconst (v := (0 : Int32)) hx hb dX9_findLike_0 (by decide) ?_
  refine lv_istore_n (lv' := [(3, .int (0 : Int32)), (0, .ref (ad 13)), (1, .int p1), (2, .int p2)]) hx hb dX9_findLike_1 rfl hl (by decide) rfl (fun ls hl => ?_)
  obtain ⟨o_31, hg_31, hf⟩ := bd_some hf
  refine L2 _ p1 p2 J o_31 ?_ FU (0 : Int32) I _ _ _ hg_31 hP hD hS (lv_sub hl [1, 2, 3, 0] rfl)
  · intro I_31 H locs ls ho hP hD hS hl
    subst o_31
    refine lv_iconst (v := (1 : Int32)) hx hb dX9_findLike_21 (by decide) ?_
    refine lv_istore_n (lv' := [(3, .int (1 : Int32)), (0, .ref (ad 13)), (1, .int p1), (2, .int p2)]) hx hb dX9_findLike_22 rfl hl (by decide) rfl (fun ls hl => ?_)
    obtain ⟨o_32, hg_32, hf⟩ := bd_some hf
    refine L23 _ p1 p2 J o_32 ?_ FU (1 : Int32) I_31 _ _ _ hg_32 hP hD hS (lv_sub hl [1, 2, 3, 0] rfl)
    · intro I_32 H locs ls ho hP hD hS hl
      subst o_32
      refine lv_aload_n hx hb dX9_findLike_149 rfl (lv_at hl 0 rfl) ?_
      refine lv_iconst (v := (0 : Int32)) hx hb dX9_findLike_150 (by decide) ?_
      refine x_put (C := RX9) (T := TX9) (N := 15) hx hb hts in_X9 tyX9 tyX9_ok nmX9 hown hK hP hD hS 13 (obM_13 ad cI cJ I_32 J) rfl 6 (by decide) wd_2 (fun _ h9 => h9) rfl (by decide +kernel) (Nat.le_of_ble_eq_true rfl) (psM_14 ad cI cJ I_32 J (0 : Int32)) dX9_findLike_151 (fun H locs hP hD hS => ?_)
      refine lv_iconst (v := (1 : Int32)) hx hb dX9_findLike_154 (by decide) ?_
      refine lv_istore (lv' := [(4, .int (1 : Int32)), (0, .ref (ad 13)), (1, .int p1)]) hx hb dX9_findLike_155 hl (by decide) rfl (fun ls hl => ?_)
      obtain ⟨o_33, hg_33, hf⟩ := bd_some hf
      refine L157 _ p1 J o_33 ?_ FU (1 : Int32) (sets I_32 14 (0 : Int32)) _ _ _ hg_33 hP hD hS (lv_sub hl [1, 2, 0] rfl)
      · intro I_33 H locs ls ho hP hD hS hl
        subst o_33
        cases hf
        exact xRv hx hb hr hlocks hK hP hD hS (fun _ h => h) dX9_findLike_253
set_option maxHeartbeats 4000000 in
set_option maxRecDepth 100000 in
theorem c_X9_layOut (l : Launch) (dC : Nat → ClassId) (dI : Nat → Nat → Nat) (ad : Nat → Nat) (cI cJ cT : ClassId) (p1 : Int32) (p2 : Int32) (p3 : Int32) (p4 : Int32) (I : SI) (J : SJ) {I0 : SI} (hf : f_X9_layOut p1 p2 p3 p4 I = some I0) : CtV l yX9_layOut wsX9_layOut ({ frames := 2, cells := 0, slots := 0, locals := 48 } : Room) (dC, dI) (tys3 cI cJ cT) (wM ad cI cJ) [.ref (ad 13), .int p1, .int p2, .int p3, .int p4] I J I0 J := by
  intro sz
  refine Met.ofW (cc := cX9_layOut) (maxL := 9) (ret := none) (by decide) rfl ?_
  intro p e s m args below meth c s₁ B hml hv
  obtain ⟨hargs, hsz, hP, hK, hD0⟩ := hv
  have hx := B.exec
  have hb := B.bytes
  have hr := B.returns
  have hts := atoms_spec (ws := wsX9_layOut) B.pre
  have hown : s.vm.findClass RX9 = some m.cls := findClass_of_methodNamed B.named
  have hlocks := B.notSynchronized
  subst hsz
  have hD := hD0.self (sz := s.heap.size)
  generalize hAe : va_A ((wM ad cI cJ) I J) s.heap.size = A at hD ⊢
  have hA : ∀ q : Nat, s.heap.size ≤ q → A q := fun q h => by rw [← hAe]; exact Or.inr h
  have hS : va_S A s.heap s.heap [] := va_S.rf
  have hl := lv_entry ([.ref (ad 13), .int p1, .int p2, .int p3, .int p4]) (n := 9) (Nat.le_of_ble_eq_true rfl)
  rw [hargs, lg_entry_eq, ← hargs]
  generalize (lg_sl ([.ref (ad 13), .int p1, .int p2, .int p3, .int p4]) ++ List.replicate (9 - (lg_sl ([.ref (ad 13), .int p1, .int p2, .int p3, .int p4])).length) Slot.unset).toArray = ls at hl ⊢
  have hl : lv_has ls 9 [(0, .ref (ad 13)), (1, .int p1), (2, .int p2), (3, .int p3), (4, .int p4)] := hl
  have hfix : CallFix p m c cX9_layOut 9 s args wsX9_layOut RX9 := ⟨hx, hb, hml, hown, hts⟩
  have in_X9 : ∀ w ∈ u_ws RX9 TX9 15, w ∈ wsX9_layOut := by decide +kernel
  have wd_0 := hts (.fieldLink RX9 13 "FuseBenchModel" "cells" "[I") (by decide +kernel)
  have wd_1 := hts (.fieldLink RX9 22 "FuseBenchModel" "like" "[I") (by decide +kernel)
  have wd_2 := hts (.fieldLink RX9 25 "FuseBenchModel" "firsts" "[I") (by decide +kernel)
  have wd_3 := hts (.fieldLink RX9 116 "FuseBenchModel" "firstMany" "I") (by decide +kernel)
  have L97 : ∀ (Q : State → Prop) (v1 : Int32) (v3 : Int32) (v6 : Int32) (v7 : Int32) (J : SJ) (o : SI), (∀  (I : SI) (H : Heap) (locs : List Loc) (ls : Array Slot), o = I → va_P (dC, dI) vwCl ((wM ad cI cJ) I J) H → va_D A ((wM ad cI cJ) I J) → va_S A s.heap H locs → lv_has ls 9 [(0, .ref (ad 13)), (1, .int v1), (3, .int v3), (6, .int v6), (7, .int v7)] → W p l e ({ frames := 2, cells := 0, slots := 0, locals := 48 } : Room) s m args below meth c H locs 0 0 Q (F0 m 144 ls [])) → ∀ (n : Nat) (v8 : Int32) (I : SI) (H : Heap) (locs : List Loc) (ls : Array Slot), lp_X9_layOut_97 v1 v3 v6 v7 n v8 I = some o → va_P (dC, dI) vwCl ((wM ad cI cJ) I J) H → va_D A ((wM ad cI cJ) I J) → va_S A s.heap H locs → lv_has ls 9 [(0, .ref (ad 13)), (1, .int v1), (3, .int v3), (6, .int v6), (7, .int v7), (8, .int v8)] → W p l e ({ frames := 2, cells := 0, slots := 0, locals := 48 } : Room) s m args below meth c H locs 0 0 Q (F0 m 97 ls []) := by
    intro Q v1 v3 v6 v7 J o K0 n
    clear hP hD hS hl
    induction n with
    | zero =>
      intro v8 I H locs ls hf
      rw [lp_X9_layOut_97.eq_1] at hf
      cases hf
    | succ n ih =>
      intro v8 I H locs ls hf hP hD hS hl
      rw [lp_X9_layOut_97.eq_2] at hf
      refine lv_iload hx hb dX9_layOut_97 (lv_at hl 5 rfl) ?_
      refine lv_iload_n hx hb dX9_layOut_99 rfl (lv_at hl 1 rfl) ?_
      refine lv_icmp_ge (tgt := 144) hx hb dX9_layOut_100 (by decide) (fun c_1 => ?_) (fun c_1 => ?_)
      · have hf := (if_pos c_1).symm.trans hf
        exact K0 _ _ _ _ (Option.some.inj hf).symm hP hD hS (lv_sub hl [0, 1, 2, 3, 4] rfl)
      · have hf := (if_neg c_1).symm.trans hf
        refine lv_aload_n hx hb dX9_layOut_103 rfl (lv_at hl 0 rfl) ?_
        refine lv_bipush (v := (6 : Int32)) hx hb dX9_layOut_104 (by decide) ?_
        refine lv_iload hx hb dX9_layOut_106 (lv_at hl 3 rfl) ?_
        refine lv_iload hx hb dX9_layOut_108 (lv_at hl 4 rfl) ?_
        refine lv_iload hx hb dX9_layOut_110 (lv_at hl 5 rfl) ?_
        refine lv_aload_n hx hb dX9_layOut_112 rfl (lv_at hl 0 rfl) ?_
        refine va_get (D := (dC, dI)) (ci := 8) (v := .ref (ad 1)) (C := RX9) (T := TX9) (N := 15) hx hb hts in_X9 hown hK hP 13 (obM_13 ad cI cJ I J) rfl 1 (by decide) wd_0 (fun _ h9 => h9) rfl dX9_layOut_113 ?_
        refine lv_sipush (v := (750 : Int32)) hx hb dX9_layOut_116 (by decide) ?_
        refine lv_aload_n hx hb dX9_layOut_119 rfl (lv_at hl 0 rfl) ?_
        refine va_get (D := (dC, dI)) (ci := 8) (v := .ref (ad 4)) (C := RX9) (T := TX9) (N := 15) hx hb hts in_X9 hown hK hP 13 (obM_13 ad cI cJ I J) rfl 4 (by decide) wd_1 (fun _ h9 => h9) rfl dX9_layOut_120 ?_
        refine lv_iload hx hb dX9_layOut_123 (lv_at hl 3 rfl) ?_
        refine lv_iload hx hb dX9_layOut_125 (lv_at hl 4 rfl) ?_
        refine lv_iload hx hb dX9_layOut_127 (lv_at hl 5 rfl) ?_
        obtain ⟨r_2, hg_2, hf⟩ := bd_some hf
        refine xSi (rest := [.ref (ad 4), .int (750 : Int32), .ref (ad 1), .int v8, .int v7, .int v6, .int (6 : Int32), .ref (ad 13)]) (c_X9_placeOf l dC dI ad cI cJ cT v6 v7 v8 I J hg_2) hfix (va_cwS 3 hts gX9_layOut_X9_placeOf rfl rfl rfl (by decide +kernel) ⟨Nat.le_of_ble_eq_true rfl, Nat.le_of_ble_eq_true rfl⟩) hK hP hD hS hA rfl hl.1 rfl (Nat.le_of_ble_eq_true rfl) ⟨Nat.zero_le _, Nat.zero_le _⟩ dX9_layOut_129 (fun H locs hP hD hS => ?_)
        obtain ⟨h_3, hf⟩ := gd_some hf
        refine x_iald hx hb hK (aiM_4 ad cI cJ) hP h_3 dX9_layOut_132 ?_
        refine lv_iadd hx hb dX9_layOut_133 ?_
        obtain ⟨h_4, hf⟩ := gd_some hf
        refine x_iald hx hb hK (aiM_1 ad cI cJ) hP h_4 dX9_layOut_134 ?_
        obtain ⟨I_5, hg_5, hf⟩ := bd_some hf
        refine xVv (rest := []) (c_X9_lay l dC dI ad cI cJ cT (6 : Int32) v6 v7 v8 (I 1 ((750 : Int32) + (I 4 r_2.toNatClampNeg)).toNatClampNeg) I J hg_5) hfix (cwV 5 hts gX9_layOut_X9_lay rfl rfl rfl (by decide +kernel) ⟨Nat.le_of_ble_eq_true rfl, Nat.le_of_ble_eq_true rfl⟩) hK hP hD hS hA (va_recv hK hP (ci := 8) (q0 := 13) rfl (obM_13 ad cI cJ I J)) rfl hl.1 rfl (Nat.le_of_ble_eq_true rfl) ⟨Nat.zero_le _, Nat.zero_le _⟩ dX9_layOut_135 (fun H locs hP hD hS => ?_)
        refine lv_iinc (v := (v8 + (1 : Int32))) (lv' := [(8, .int (v8 + (1 : Int32))), (0, .ref (ad 13)), (1, .int v1), (3, .int v3), (6, .int v6), (7, .int v7)]) hx hb dX9_layOut_138 hl (k := 5) rfl (by first | rfl | decide) (by decide) rfl (fun ls hl => ?_)
        refine lv_goto (tgt := 97) hx hb dX9_layOut_141 (by decide) ?_
        exact ih _ _ _ _ _ hf hP hD hS (lv_sub hl [1, 2, 3, 4, 5, 0] rfl)
  have L19 : ∀ (Q : State → Prop) (v1 : Int32) (v2 : Int32) (v3 : Int32) (J : SJ) (o : SI), (∀  (I : SI) (H : Heap) (locs : List Loc) (ls : Array Slot), o = I → va_P (dC, dI) vwCl ((wM ad cI cJ) I J) H → va_D A ((wM ad cI cJ) I J) → va_S A s.heap H locs → lv_has ls 9 [(0, .ref (ad 13)), (1, .int v1), (3, .int v3)] → W p l e ({ frames := 2, cells := 0, slots := 0, locals := 48 } : Room) s m args below meth c H locs 0 0 Q (F0 m 60 ls [])) → ∀ (n : Nat) (v5 : Int32) (v6 : Int32) (I : SI) (H : Heap) (locs : List Loc) (ls : Array Slot), lp_X9_layOut_19 v1 v2 v3 n v5 v6 I = some o → va_P (dC, dI) vwCl ((wM ad cI cJ) I J) H → va_D A ((wM ad cI cJ) I J) → va_S A s.heap H locs → lv_has ls 9 [(0, .ref (ad 13)), (1, .int v1), (2, .int v2), (3, .int v3), (5, .int v5), (6, .int v6)] → W p l e ({ frames := 2, cells := 0, slots := 0, locals := 48 } : Room) s m args below meth c H locs 0 0 Q (F0 m 19 ls []) := by
    intro Q v1 v2 v3 J o K0 n
    clear hP hD hS hl
    induction n with
    | zero =>
      intro v5 v6 I H locs ls hf
      rw [lp_X9_layOut_19.eq_1] at hf
      cases hf
    | succ n ih =>
      intro v5 v6 I H locs ls hf hP hD hS hl
      rw [lp_X9_layOut_19.eq_2] at hf
      refine lv_iload hx hb dX9_layOut_19 (lv_at hl 5 rfl) ?_
      refine lv_if_lt (tgt := 60) hx hb dX9_layOut_21 (by decide) (fun c_6 => ?_) (fun c_6 => ?_)
      · have hf := (if_pos c_6).symm.trans hf
        exact K0 _ _ _ _ (Option.some.inj hf).symm hP hD hS (lv_sub hl [0, 1, 3] rfl)
      · have hf := (if_neg c_6).symm.trans hf
        refine lv_aload_n hx hb dX9_layOut_24 rfl (lv_at hl 0 rfl) ?_
        refine va_get (D := (dC, dI)) (ci := 8) (v := .ref (ad 1)) (C := RX9) (T := TX9) (N := 15) hx hb hts in_X9 hown hK hP 13 (obM_13 ad cI cJ I J) rfl 1 (by decide) wd_0 (fun _ h9 => h9) rfl dX9_layOut_25 ?_
        refine lv_sipush (v := (750 : Int32)) hx hb dX9_layOut_28 (by decide) ?_
        refine lv_aload_n hx hb dX9_layOut_31 rfl (lv_at hl 0 rfl) ?_
        refine va_get (D := (dC, dI)) (ci := 8) (v := .ref (ad 5)) (C := RX9) (T := TX9) (N := 15) hx hb hts in_X9 hown hK hP 13 (obM_13 ad cI cJ I J) rfl 5 (by decide) wd_2 (fun _ h9 => h9) rfl dX9_layOut_32 ?_
        refine lv_iload hx hb dX9_layOut_35 (lv_at hl 5 rfl) ?_
        obtain ⟨h_7, hf⟩ := gd_some hf
        refine x_iald hx hb hK (aiM_5 ad cI cJ) hP h_7 dX9_layOut_37 ?_
        refine lv_iadd hx hb dX9_layOut_38 ?_
        refine lv_iload hx hb dX9_layOut_39 (lv_at hl 4 rfl) ?_
        refine lv_iload_n hx hb dX9_layOut_41 rfl (lv_at hl 2 rfl) ?_
        refine lv_iconst (v := (1 : Int32)) hx hb dX9_layOut_42 (by decide) ?_
        refine lv_iadd hx hb dX9_layOut_43 ?_
        obtain ⟨h_8, hf⟩ := gd_some hf
        refine lv_irem hx hb dX9_layOut_44 h_8 ?_
        obtain ⟨h_9, hf⟩ := gd_some hf
        refine x_iast hx hb hK (aiM_1 ad cI cJ) hP hD hS h_9 dX9_layOut_45 (fun H locs hP hD hS => ?_)
        refine lv_iload hx hb dX9_layOut_46 (lv_at hl 4 rfl) ?_
        refine lv_iload_n hx hb dX9_layOut_48 rfl (lv_at hl 2 rfl) ?_
        refine lv_iconst (v := (1 : Int32)) hx hb dX9_layOut_49 (by decide) ?_
        refine lv_iadd hx hb dX9_layOut_50 ?_
        obtain ⟨h_10, hf⟩ := gd_some hf
        refine lv_idiv hx hb dX9_layOut_51 h_10 ?_
        refine lv_istore (lv' := [(5, .int (v5 / (v2 + (1 : Int32)))), (0, .ref (ad 13)), (1, .int v1), (2, .int v2), (3, .int v3), (6, .int v6)]) hx hb dX9_layOut_52 hl (by decide) rfl (fun ls hl => ?_)
        refine lv_iinc (v := (v6 + (-1 : Int32))) (lv' := [(6, .int (v6 + (-1 : Int32))), (5, .int (v5 / (v2 + (1 : Int32)))), (0, .ref (ad 13)), (1, .int v1), (2, .int v2), (3, .int v3)]) hx hb dX9_layOut_54 hl (k := 5) rfl (by first | rfl | decide) (by decide) rfl (fun ls hl => ?_)
        refine lv_goto (tgt := 19) hx hb dX9_layOut_57 (by decide) ?_
        exact ih _ _ _ _ _ _ hf hP hD hS (lv_sub hl [2, 3, 4, 5, 1, 0] rfl)
  have L88 : ∀ (Q : State → Prop) (v1 : Int32) (v3 : Int32) (v6 : Int32) (J : SJ) (o : SI), (∀  (I : SI) (H : Heap) (locs : List Loc) (ls : Array Slot), o = I → va_P (dC, dI) vwCl ((wM ad cI cJ) I J) H → va_D A ((wM ad cI cJ) I J) → va_S A s.heap H locs → lv_has ls 9 [(0, .ref (ad 13)), (1, .int v1), (3, .int v3), (6, .int v6)] → W p l e ({ frames := 2, cells := 0, slots := 0, locals := 48 } : Room) s m args below meth c H locs 0 0 Q (F0 m 150 ls [])) → ∀ (n : Nat) (v7 : Int32) (I : SI) (H : Heap) (locs : List Loc) (ls : Array Slot), lp_X9_layOut_88 v1 v3 v6 n v7 I = some o → va_P (dC, dI) vwCl ((wM ad cI cJ) I J) H → va_D A ((wM ad cI cJ) I J) → va_S A s.heap H locs → lv_has ls 9 [(0, .ref (ad 13)), (1, .int v1), (3, .int v3), (6, .int v6), (7, .int v7)] → W p l e ({ frames := 2, cells := 0, slots := 0, locals := 48 } : Room) s m args below meth c H locs 0 0 Q (F0 m 88 ls []) := by
    intro Q v1 v3 v6 J o K0 n
    clear hP hD hS hl
    induction n with
    | zero =>
      intro v7 I H locs ls hf
      rw [lp_X9_layOut_88.eq_1] at hf
      cases hf
    | succ n ih =>
      intro v7 I H locs ls hf hP hD hS hl
      rw [lp_X9_layOut_88.eq_2] at hf
      refine lv_iload hx hb dX9_layOut_88 (lv_at hl 4 rfl) ?_
      refine lv_iload_n hx hb dX9_layOut_90 rfl (lv_at hl 1 rfl) ?_
      refine lv_icmp_ge (tgt := 150) hx hb dX9_layOut_91 (by decide) (fun c_11 => ?_) (fun c_11 => ?_)
      · have hf := (if_pos c_11).symm.trans hf
        exact K0 _ _ _ _ (Option.some.inj hf).symm hP hD hS (lv_sub hl [0, 1, 2, 3] rfl)
      · have hf := (if_neg c_11).symm.trans hf
        refine lv_iconst (v := (1 : Int32)) hx hb dX9_layOut_94 (by decide) ?_
        refine lv_istore (lv' := [(8, .int (1 : Int32)), (0, .ref (ad 13)), (1, .int v1), (3, .int v3), (6, .int v6), (7, .int v7)]) hx hb dX9_layOut_95 hl (by decide) rfl (fun ls hl => ?_)
        obtain ⟨o_12, hg_12, hf⟩ := bd_some hf
        refine L97 _ v1 v3 v6 v7 J o_12 ?_ FU (1 : Int32) I _ _ _ hg_12 hP hD hS (lv_sub hl [1, 2, 3, 4, 5, 0] rfl)
        · intro I_12 H locs ls ho hP hD hS hl
          subst o_12
          refine lv_iinc (v := (v7 + (1 : Int32))) (lv' := [(7, .int (v7 + (1 : Int32))), (0, .ref (ad 13)), (1, .int v1), (3, .int v3), (6, .int v6)]) hx hb dX9_layOut_144 hl (k := 4) rfl (by first | rfl | decide) (by decide) rfl (fun ls hl => ?_)
          refine lv_goto (tgt := 88) hx hb dX9_layOut_147 (by decide) ?_
          exact ih _ _ _ _ _ hf hP hD hS (lv_sub hl [1, 2, 3, 4, 0] rfl)
  have L63 : ∀ (Q : State → Prop) (v1 : Int32) (v3 : Int32) (J : SJ) (o : SI), (∀  (I : SI) (H : Heap) (locs : List Loc) (ls : Array Slot), o = I → va_P (dC, dI) vwCl ((wM ad cI cJ) I J) H → va_D A ((wM ad cI cJ) I J) → va_S A s.heap H locs → lv_has ls 9 [] → W p l e ({ frames := 2, cells := 0, slots := 0, locals := 48 } : Room) s m args below meth c H locs 0 0 Q (F0 m 156 ls [])) → ∀ (n : Nat) (v6 : Int32) (I : SI) (H : Heap) (locs : List Loc) (ls : Array Slot), lp_X9_layOut_63 v1 v3 n v6 I = some o → va_P (dC, dI) vwCl ((wM ad cI cJ) I J) H → va_D A ((wM ad cI cJ) I J) → va_S A s.heap H locs → lv_has ls 9 [(0, .ref (ad 13)), (1, .int v1), (3, .int v3), (6, .int v6)] → W p l e ({ frames := 2, cells := 0, slots := 0, locals := 48 } : Room) s m args below meth c H locs 0 0 Q (F0 m 63 ls []) := by
    intro Q v1 v3 J o K0 n
    clear hP hD hS hl
    induction n with
    | zero =>
      intro v6 I H locs ls hf
      rw [lp_X9_layOut_63.eq_1] at hf
      cases hf
    | succ n ih =>
      intro v6 I H locs ls hf hP hD hS hl
      rw [lp_X9_layOut_63.eq_2] at hf
      refine lv_iload hx hb dX9_layOut_63 (lv_at hl 3 rfl) ?_
      refine lv_iload_n hx hb dX9_layOut_65 rfl (lv_at hl 1 rfl) ?_
      refine lv_icmp_ge (tgt := 156) hx hb dX9_layOut_66 (by decide) (fun c_13 => ?_) (fun c_13 => ?_)
      · have hf := (if_pos c_13).symm.trans hf
        exact K0 _ _ _ _ (Option.some.inj hf).symm hP hD hS (lv_sub hl [] rfl)
      · have hf := (if_neg c_13).symm.trans hf
        refine lv_aload_n hx hb dX9_layOut_69 rfl (lv_at hl 0 rfl) ?_
        refine lv_bipush (v := (6 : Int32)) hx hb dX9_layOut_70 (by decide) ?_
        refine lv_iload hx hb dX9_layOut_72 (lv_at hl 3 rfl) ?_
        refine lv_iload hx hb dX9_layOut_74 (lv_at hl 3 rfl) ?_
        refine lv_iload_n hx hb dX9_layOut_76 rfl (lv_at hl 2 rfl) ?_
        obtain ⟨r_14, hg_14, hf⟩ := bd_some hf
        refine xSi (rest := [.int v6, .int (6 : Int32), .ref (ad 13)]) (c_X9_mate l dC dI ad cI cJ cT v6 v3 I J hg_14) hfix (va_cwS 2 hts gX9_layOut_X9_mate rfl rfl rfl (by decide +kernel) ⟨Nat.le_of_ble_eq_true rfl, Nat.le_of_ble_eq_true rfl⟩) hK hP hD hS hA rfl hl.1 rfl (Nat.le_of_ble_eq_true rfl) ⟨Nat.zero_le _, Nat.zero_le _⟩ dX9_layOut_77 (fun H locs hP hD hS => ?_)
        refine lv_iconst (v := (0 : Int32)) hx hb dX9_layOut_80 (by decide) ?_
        refine lv_iconst (v := (1 : Int32)) hx hb dX9_layOut_81 (by decide) ?_
        obtain ⟨I_15, hg_15, hf⟩ := bd_some hf
        refine xVv (rest := []) (c_X9_lay l dC dI ad cI cJ cT (6 : Int32) v6 r_14 (0 : Int32) (1 : Int32) I J hg_15) hfix (cwV 5 hts gX9_layOut_X9_lay rfl rfl rfl (by decide +kernel) ⟨Nat.le_of_ble_eq_true rfl, Nat.le_of_ble_eq_true rfl⟩) hK hP hD hS hA (va_recv hK hP (ci := 8) (q0 := 13) rfl (obM_13 ad cI cJ I J)) rfl hl.1 rfl (Nat.le_of_ble_eq_true rfl) ⟨Nat.zero_le _, Nat.zero_le _⟩ dX9_layOut_82 (fun H locs hP hD hS => ?_)
        refine lv_iconst (v := (1 : Int32)) hx hb dX9_layOut_85 (by decide) ?_
        refine lv_istore (lv' := [(7, .int (1 : Int32)), (0, .ref (ad 13)), (1, .int v1), (3, .int v3), (6, .int v6)]) hx hb dX9_layOut_86 hl (by decide) rfl (fun ls hl => ?_)
        obtain ⟨o_16, hg_16, hf⟩ := bd_some hf
        refine L88 _ v1 v3 v6 J o_16 ?_ FU (1 : Int32) I_15 _ _ _ hg_16 hP hD hS (lv_sub hl [1, 2, 3, 4, 0] rfl)
        · intro I_16 H locs ls ho hP hD hS hl
          subst o_16
          refine lv_iinc (v := (v6 + (1 : Int32))) (lv' := [(6, .int (v6 + (1 : Int32))), (0, .ref (ad 13)), (1, .int v1), (3, .int v3)]) hx hb dX9_layOut_150 hl (k := 3) rfl (by first | rfl | decide) (by decide) rfl (fun ls hl => ?_)
          refine lv_goto (tgt := 63) hx hb dX9_layOut_153 (by decide) ?_
          exact ih _ _ _ _ _ hf hP hD hS (lv_sub hl [1, 2, 3, 0] rfl)
  unfold f_X9_layOut at hf
  refine lv_aload_n hx hb dX9_layOut_0 rfl (lv_at hl 0 rfl) ?_
  refine lv_bipush (v := (6 : Int32)) hx hb dX9_layOut_1 (by decide) ?_
  refine lv_iload_n hx hb dX9_layOut_3 rfl (lv_at hl 1 rfl) ?_
  obtain ⟨I_17, hg_17, hf⟩ := bd_some hf
  refine xVv (rest := []) (c_X9_begin l dC dI ad cI cJ cT (6 : Int32) p1 I J hg_17) hfix (cwV 2 hts gX9_layOut_X9_begin rfl rfl rfl (by decide +kernel) ⟨Nat.le_of_ble_eq_true rfl, Nat.le_of_ble_eq_true rfl⟩) hK hP hD hS hA (va_recv hK hP (ci := 8) (q0 := 13) rfl (obM_13 ad cI cJ I J)) rfl hl.1 rfl (Nat.le_of_ble_eq_true rfl) ⟨Nat.zero_le _, Nat.zero_le _⟩ dX9_layOut_4 (fun H locs hP hD hS => ?_)
  refine lv_iload hx hb dX9_layOut_7 (lv_at hl 4 rfl) ?_
  refine lv_istore (lv' := [(5, .int p4), (0, .ref (ad 13)), (1, .int p1), (2, .int p2), (3, .int p3), (4, .int p4)]) hx hb dX9_layOut_9 hl (by decide) rfl (fun ls hl => ?_)
  refine lv_aload_n hx hb dX9_layOut_11 rfl (lv_at hl 1 rfl) ?_
  refine va_get (D := (dC, dI)) (ci := 8) (v := .int (I_17 14 0)) (C := RX9) (T := TX9) (N := 15) hx hb hts in_X9 hown hK hP 13 (obM_13 ad cI cJ I_17 J) rfl 6 (by decide) wd_3 (fun _ h9 => h9) rfl dX9_layOut_12 ?_
  refine lv_iconst (v := (1 : Int32)) hx hb dX9_layOut_15 (by decide) ?_
  refine lv_isub hx hb dX9_layOut_16 ?_
  refine lv_istore (lv' := [(6, .int ((I_17 14 0) - (1 : Int32))), (5, .int p4), (0, .ref (ad 13)), (1, .int p1), (2, .int p2), (3, .int p3), (4, .int p4)]) hx hb dX9_layOut_17 hl (by decide) rfl (fun ls hl => ?_)
  obtain ⟨o_18, hg_18, hf⟩ := bd_some hf
  refine L19 _ p1 p2 p3 J o_18 ?_ FU p4 ((I_17 14 0) - (1 : Int32)) I_17 _ _ _ hg_18 hP hD hS (lv_sub hl [2, 3, 4, 5, 1, 0] rfl)
  · intro I_18 H locs ls ho hP hD hS hl
    subst o_18
    refine lv_iconst (v := (1 : Int32)) hx hb dX9_layOut_60 (by decide) ?_
    refine lv_istore (lv' := [(6, .int (1 : Int32)), (0, .ref (ad 13)), (1, .int p1), (3, .int p3)]) hx hb dX9_layOut_61 hl (by decide) rfl (fun ls hl => ?_)
    obtain ⟨o_19, hg_19, hf⟩ := bd_some hf
    refine L63 _ p1 p3 J o_19 ?_ FU (1 : Int32) I_18 _ _ _ hg_19 hP hD hS (lv_sub hl [1, 2, 3, 0] rfl)
    · intro I_19 H locs ls ho hP hD hS hl
      subst o_19
      cases hf
      exact xRv hx hb hr hlocks hK hP hD hS (fun _ h => h) dX9_layOut_156
set_option maxHeartbeats 4000000 in
set_option maxRecDepth 100000 in
theorem c_X9_isListed (l : Launch) (dC : Nat → ClassId) (dI : Nat → Nat → Nat) (ad : Nat → Nat) (cI cJ cT : ClassId) (p0 : Int32) (p1 : Int32) (p2 : Int32) (I : SI) (J : SJ) {r0 : Int32} (hf : f_X9_isListed p0 p1 p2 = some r0) : CtI l yX9_isListed wsX9_isListed ({ frames := 1, cells := 0, slots := 0, locals := 25 } : Room) (dC, dI) (tys3 cI cJ cT) (wM ad cI cJ) [.int p0, .int p1, .int p2] I J r0 I J := by
  intro sz
  refine Met.ofW (cc := cX9_isListed) (maxL := 3) (ret := (some .boolean)) (by decide) rfl ?_
  intro p e s m args below meth c s₁ B hml hv
  obtain ⟨hargs, hsz, hP, hK, hD0⟩ := hv
  have hx := B.exec
  have hb := B.bytes
  have hr := B.returns
  have hts := atoms_spec (ws := wsX9_isListed) B.pre
  have hown : s.vm.findClass RX9 = some m.cls := findClass_of_methodNamed B.named
  have hlocks := B.notSynchronized
  subst hsz
  have hD := hD0.self (sz := s.heap.size)
  generalize hAe : va_A ((wM ad cI cJ) I J) s.heap.size = A at hD ⊢
  have hA : ∀ q : Nat, s.heap.size ≤ q → A q := fun q h => by rw [← hAe]; exact Or.inr h
  have hS : va_S A s.heap s.heap [] := va_S.rf
  have hl := lv_entry ([.int p0, .int p1, .int p2]) (n := 3) (Nat.le_of_ble_eq_true rfl)
  rw [hargs, lg_entry_eq, ← hargs]
  generalize (lg_sl ([.int p0, .int p1, .int p2]) ++ List.replicate (3 - (lg_sl ([.int p0, .int p1, .int p2])).length) Slot.unset).toArray = ls at hl ⊢
  have hl : lv_has ls 3 [(0, .int p0), (1, .int p1), (2, .int p2)] := hl
  have hfix : CallFix p m c cX9_isListed 3 s args wsX9_isListed RX9 := ⟨hx, hb, hml, hown, hts⟩
  have wd_0 := hts (.constantLong RX9 120 (2)) (by decide +kernel)
  have wd_1 := hts (.constantLong RX9 94 (4)) (by decide +kernel)
  have wd_2 := hts (.constantLong RX9 122 (3)) (by decide +kernel)
  unfold f_X9_isListed at hf
  refine lv_iload_n hx hb dX9_isListed_0 rfl (lv_at hl 0 rfl) ?_
  refine lv_i2l (v := p0.toInt64) hx hb dX9_isListed_1 rfl ?_
  refine lv_ldc2 (v := (2 : Int64)) hx hb hown wd_0 dX9_isListed_2 ?_
  refine lv_ldc2 (v := (4 : Int64)) hx hb hown wd_1 dX9_isListed_5 ?_
  obtain ⟨r_1, hg_1, hf⟩ := bd_some hf
  refine xSi (rest := []) (c_X9_in l dC dI ad cI cJ cT (p0.toInt64) (2 : Int64) (4 : Int64) I J hg_1) hfix (va_cwS 3 hts gX9_isListed_X9_in rfl rfl rfl (by decide +kernel) ⟨Nat.le_of_ble_eq_true rfl, Nat.le_of_ble_eq_true rfl⟩) hK hP hD hS hA rfl hl.1 rfl (Nat.le_of_ble_eq_true rfl) ⟨Nat.zero_le _, Nat.zero_le _⟩ dX9_isListed_8 (fun H locs hP hD hS => ?_)
  refine lv_if_eq (tgt := 58) hx hb dX9_isListed_11 (by decide) (fun c_2 => ?_) (fun c_2 => ?_)
  · have hf := (if_pos c_2).symm.trans hf
    refine lv_iconst (v := (0 : Int32)) hx hb dX9_isListed_58 (by decide) ?_
    cases hf
    exact xRz hx hb hr hlocks rfl hK hP hD hS (fun _ h => h) dX9_isListed_59
  · have hf := (if_neg c_2).symm.trans hf
    refine lv_iload_n hx hb dX9_isListed_14 rfl (lv_at hl 1 rfl) ?_
    refine lv_i2l (v := p1.toInt64) hx hb dX9_isListed_15 rfl ?_
    refine lv_lconst (v := (1 : Int64)) hx hb dX9_isListed_16 (by decide) ?_
    refine lv_iload_n hx hb dX9_isListed_17 rfl (lv_at hl 0 rfl) ?_
    refine lv_iconst (v := (4 : Int32)) hx hb dX9_isListed_18 (by decide) ?_
    refine lv_icmp_ne (tgt := 26) hx hb dX9_isListed_19 (by decide) (fun c_3 => ?_) (fun c_3 => ?_)
    · have hf := (if_neg c_3).symm.trans hf
      refine lv_ldc2 (v := (3 : Int64)) hx hb hown wd_2 dX9_isListed_26 ?_
      obtain ⟨r_4, hg_4, hf⟩ := bd_some hf
      refine xSi (rest := []) (c_X9_in l dC dI ad cI cJ cT (p1.toInt64) (1 : Int64) (3 : Int64) I J hg_4) hfix (va_cwS 3 hts gX9_isListed_X9_in rfl rfl rfl (by decide +kernel) ⟨Nat.le_of_ble_eq_true rfl, Nat.le_of_ble_eq_true rfl⟩) hK hP hD hS hA rfl hl.1 rfl (Nat.le_of_ble_eq_true rfl) ⟨Nat.zero_le _, Nat.zero_le _⟩ dX9_isListed_29 (fun H locs hP hD hS => ?_)
      refine lv_if_eq (tgt := 58) hx hb dX9_isListed_32 (by decide) (fun c_5 => ?_) (fun c_5 => ?_)
      · have hf := (if_pos c_5).symm.trans hf
        refine lv_iconst (v := (0 : Int32)) hx hb dX9_isListed_58 (by decide) ?_
        cases hf
        exact xRz hx hb hr hlocks rfl hK hP hD hS (fun _ h => h) dX9_isListed_59
      · have hf := (if_neg c_5).symm.trans hf
        refine lv_iload_n hx hb dX9_isListed_35 rfl (lv_at hl 2 rfl) ?_
        refine lv_i2l (v := p2.toInt64) hx hb dX9_isListed_36 rfl ?_
        refine lv_lconst (v := (0 : Int64)) hx hb dX9_isListed_37 (by decide) ?_
        refine lv_iload_n hx hb dX9_isListed_38 rfl (lv_at hl 0 rfl) ?_
        refine lv_iconst (v := (2 : Int32)) hx hb dX9_isListed_39 (by decide) ?_
        refine lv_icmp_ne (tgt := 47) hx hb dX9_isListed_40 (by decide) (fun c_6 => ?_) (fun c_6 => ?_)
        · have hf := (if_neg c_6).symm.trans hf
          refine lv_lconst (v := (1 : Int64)) hx hb dX9_isListed_47 (by decide) ?_
          obtain ⟨r_7, hg_7, hf⟩ := bd_some hf
          refine xSi (rest := []) (c_X9_in l dC dI ad cI cJ cT (p2.toInt64) (0 : Int64) (1 : Int64) I J hg_7) hfix (va_cwS 3 hts gX9_isListed_X9_in rfl rfl rfl (by decide +kernel) ⟨Nat.le_of_ble_eq_true rfl, Nat.le_of_ble_eq_true rfl⟩) hK hP hD hS hA rfl hl.1 rfl (Nat.le_of_ble_eq_true rfl) ⟨Nat.zero_le _, Nat.zero_le _⟩ dX9_isListed_48 (fun H locs hP hD hS => ?_)
          refine lv_if_eq (tgt := 58) hx hb dX9_isListed_51 (by decide) (fun c_8 => ?_) (fun c_8 => ?_)
          · have hf := (if_pos c_8).symm.trans hf
            refine lv_iconst (v := (0 : Int32)) hx hb dX9_isListed_58 (by decide) ?_
            cases hf
            exact xRz hx hb hr hlocks rfl hK hP hD hS (fun _ h => h) dX9_isListed_59
          · have hf := (if_neg c_8).symm.trans hf
            refine lv_iconst (v := (1 : Int32)) hx hb dX9_isListed_54 (by decide) ?_
            refine lv_goto (tgt := 59) hx hb dX9_isListed_55 (by decide) ?_
            cases hf
            exact xRz hx hb hr hlocks rfl hK hP hD hS (fun _ h => h) dX9_isListed_59
        · have hf := (if_pos c_6).symm.trans hf
          refine lv_lconst (v := (0 : Int64)) hx hb dX9_isListed_43 (by decide) ?_
          refine lv_goto (tgt := 48) hx hb dX9_isListed_44 (by decide) ?_
          obtain ⟨r_9, hg_9, hf⟩ := bd_some hf
          refine xSi (rest := []) (c_X9_in l dC dI ad cI cJ cT (p2.toInt64) (0 : Int64) (0 : Int64) I J hg_9) hfix (va_cwS 3 hts gX9_isListed_X9_in rfl rfl rfl (by decide +kernel) ⟨Nat.le_of_ble_eq_true rfl, Nat.le_of_ble_eq_true rfl⟩) hK hP hD hS hA rfl hl.1 rfl (Nat.le_of_ble_eq_true rfl) ⟨Nat.zero_le _, Nat.zero_le _⟩ dX9_isListed_48 (fun H locs hP hD hS => ?_)
          refine lv_if_eq (tgt := 58) hx hb dX9_isListed_51 (by decide) (fun c_10 => ?_) (fun c_10 => ?_)
          · have hf := (if_pos c_10).symm.trans hf
            refine lv_iconst (v := (0 : Int32)) hx hb dX9_isListed_58 (by decide) ?_
            cases hf
            exact xRz hx hb hr hlocks rfl hK hP hD hS (fun _ h => h) dX9_isListed_59
          · have hf := (if_neg c_10).symm.trans hf
            refine lv_iconst (v := (1 : Int32)) hx hb dX9_isListed_54 (by decide) ?_
            refine lv_goto (tgt := 59) hx hb dX9_isListed_55 (by decide) ?_
            cases hf
            exact xRz hx hb hr hlocks rfl hK hP hD hS (fun _ h => h) dX9_isListed_59
    · have hf := (if_pos c_3).symm.trans hf
      refine lv_lconst (v := (1 : Int64)) hx hb dX9_isListed_22 (by decide) ?_
      refine lv_goto (tgt := 29) hx hb dX9_isListed_23 (by decide) ?_
      obtain ⟨r_11, hg_11, hf⟩ := bd_some hf
      refine xSi (rest := []) (c_X9_in l dC dI ad cI cJ cT (p1.toInt64) (1 : Int64) (1 : Int64) I J hg_11) hfix (va_cwS 3 hts gX9_isListed_X9_in rfl rfl rfl (by decide +kernel) ⟨Nat.le_of_ble_eq_true rfl, Nat.le_of_ble_eq_true rfl⟩) hK hP hD hS hA rfl hl.1 rfl (Nat.le_of_ble_eq_true rfl) ⟨Nat.zero_le _, Nat.zero_le _⟩ dX9_isListed_29 (fun H locs hP hD hS => ?_)
      refine lv_if_eq (tgt := 58) hx hb dX9_isListed_32 (by decide) (fun c_12 => ?_) (fun c_12 => ?_)
      · have hf := (if_pos c_12).symm.trans hf
        refine lv_iconst (v := (0 : Int32)) hx hb dX9_isListed_58 (by decide) ?_
        cases hf
        exact xRz hx hb hr hlocks rfl hK hP hD hS (fun _ h => h) dX9_isListed_59
      · have hf := (if_neg c_12).symm.trans hf
        refine lv_iload_n hx hb dX9_isListed_35 rfl (lv_at hl 2 rfl) ?_
        refine lv_i2l (v := p2.toInt64) hx hb dX9_isListed_36 rfl ?_
        refine lv_lconst (v := (0 : Int64)) hx hb dX9_isListed_37 (by decide) ?_
        refine lv_iload_n hx hb dX9_isListed_38 rfl (lv_at hl 0 rfl) ?_
        refine lv_iconst (v := (2 : Int32)) hx hb dX9_isListed_39 (by decide) ?_
        refine lv_icmp_ne (tgt := 47) hx hb dX9_isListed_40 (by decide) (fun c_13 => ?_) (fun c_13 => ?_)
        · have hf := (if_neg c_13).symm.trans hf
          refine lv_lconst (v := (1 : Int64)) hx hb dX9_isListed_47 (by decide) ?_
          obtain ⟨r_14, hg_14, hf⟩ := bd_some hf
          refine xSi (rest := []) (c_X9_in l dC dI ad cI cJ cT (p2.toInt64) (0 : Int64) (1 : Int64) I J hg_14) hfix (va_cwS 3 hts gX9_isListed_X9_in rfl rfl rfl (by decide +kernel) ⟨Nat.le_of_ble_eq_true rfl, Nat.le_of_ble_eq_true rfl⟩) hK hP hD hS hA rfl hl.1 rfl (Nat.le_of_ble_eq_true rfl) ⟨Nat.zero_le _, Nat.zero_le _⟩ dX9_isListed_48 (fun H locs hP hD hS => ?_)
          refine lv_if_eq (tgt := 58) hx hb dX9_isListed_51 (by decide) (fun c_15 => ?_) (fun c_15 => ?_)
          · have hf := (if_pos c_15).symm.trans hf
            refine lv_iconst (v := (0 : Int32)) hx hb dX9_isListed_58 (by decide) ?_
            cases hf
            exact xRz hx hb hr hlocks rfl hK hP hD hS (fun _ h => h) dX9_isListed_59
          · have hf := (if_neg c_15).symm.trans hf
            refine lv_iconst (v := (1 : Int32)) hx hb dX9_isListed_54 (by decide) ?_
            refine lv_goto (tgt := 59) hx hb dX9_isListed_55 (by decide) ?_
            cases hf
            exact xRz hx hb hr hlocks rfl hK hP hD hS (fun _ h => h) dX9_isListed_59
        · have hf := (if_pos c_13).symm.trans hf
          refine lv_lconst (v := (0 : Int64)) hx hb dX9_isListed_43 (by decide) ?_
          refine lv_goto (tgt := 48) hx hb dX9_isListed_44 (by decide) ?_
          obtain ⟨r_16, hg_16, hf⟩ := bd_some hf
          refine xSi (rest := []) (c_X9_in l dC dI ad cI cJ cT (p2.toInt64) (0 : Int64) (0 : Int64) I J hg_16) hfix (va_cwS 3 hts gX9_isListed_X9_in rfl rfl rfl (by decide +kernel) ⟨Nat.le_of_ble_eq_true rfl, Nat.le_of_ble_eq_true rfl⟩) hK hP hD hS hA rfl hl.1 rfl (Nat.le_of_ble_eq_true rfl) ⟨Nat.zero_le _, Nat.zero_le _⟩ dX9_isListed_48 (fun H locs hP hD hS => ?_)
          refine lv_if_eq (tgt := 58) hx hb dX9_isListed_51 (by decide) (fun c_17 => ?_) (fun c_17 => ?_)
          · have hf := (if_pos c_17).symm.trans hf
            refine lv_iconst (v := (0 : Int32)) hx hb dX9_isListed_58 (by decide) ?_
            cases hf
            exact xRz hx hb hr hlocks rfl hK hP hD hS (fun _ h => h) dX9_isListed_59
          · have hf := (if_neg c_17).symm.trans hf
            refine lv_iconst (v := (1 : Int32)) hx hb dX9_isListed_54 (by decide) ?_
            refine lv_goto (tgt := 59) hx hb dX9_isListed_55 (by decide) ?_
            cases hf
            exact xRz hx hb hr hlocks rfl hK hP hD hS (fun _ h => h) dX9_isListed_59
set_option maxHeartbeats 4000000 in
set_option maxRecDepth 100000 in
theorem c_X9_goThrough (l : Launch) (dC : Nat → ClassId) (dI : Nat → Nat → Nat) (ad : Nat → Nat) (cI cJ cT : ClassId) (p1 : Int32) (p2 : Int32) (p3 : Int32) (p4 : Int32) (I : SI) (J : SJ) {r0 : Int32} {I0 : SI} (hf : f_X9_goThrough p1 p2 p3 p4 I = some (r0, I0)) : CtI l yX9_goThrough wsX9_goThrough ({ frames := 3, cells := 0, slots := 0, locals := 77 } : Room) (dC, dI) (tys3 cI cJ cT) (wM ad cI cJ) [.ref (ad 13), .int p1, .int p2, .int p3, .int p4] I J r0 I0 J := by
  intro sz
  refine Met.ofW (cc := cX9_goThrough) (maxL := 8) (ret := (some .int)) (by decide) rfl ?_
  intro p e s m args below meth c s₁ B hml hv
  obtain ⟨hargs, hsz, hP, hK, hD0⟩ := hv
  have hx := B.exec
  have hb := B.bytes
  have hr := B.returns
  have hts := atoms_spec (ws := wsX9_goThrough) B.pre
  have hown : s.vm.findClass RX9 = some m.cls := findClass_of_methodNamed B.named
  have hlocks := B.notSynchronized
  subst hsz
  have hD := hD0.self (sz := s.heap.size)
  generalize hAe : va_A ((wM ad cI cJ) I J) s.heap.size = A at hD ⊢
  have hA : ∀ q : Nat, s.heap.size ≤ q → A q := fun q h => by rw [← hAe]; exact Or.inr h
  have hS : va_S A s.heap s.heap [] := va_S.rf
  have hl := lv_entry ([.ref (ad 13), .int p1, .int p2, .int p3, .int p4]) (n := 8) (Nat.le_of_ble_eq_true rfl)
  rw [hargs, lg_entry_eq, ← hargs]
  generalize (lg_sl ([.ref (ad 13), .int p1, .int p2, .int p3, .int p4]) ++ List.replicate (8 - (lg_sl ([.ref (ad 13), .int p1, .int p2, .int p3, .int p4])).length) Slot.unset).toArray = ls at hl ⊢
  have hl : lv_has ls 8 [(0, .ref (ad 13)), (1, .int p1), (2, .int p2), (3, .int p3), (4, .int p4)] := hl
  have hfix : CallFix p m c cX9_goThrough 8 s args wsX9_goThrough RX9 := ⟨hx, hb, hml, hown, hts⟩
  have in_X9 : ∀ w ∈ u_ws RX9 TX9 15, w ∈ wsX9_goThrough := by decide +kernel
  have wd_0 := hts (.fieldLink RX9 116 "FuseBenchModel" "firstMany" "I") (by decide +kernel)
  have L12 : ∀ (Q : State → Prop) (v1 : Int32) (v2 : Int32) (v3 : Int32) (v4 : Int32) (I : SI) (J : SJ) (o : Int32), (∀ (w5 : Int32) (H : Heap) (locs : List Loc) (ls : Array Slot), o = w5 → va_P (dC, dI) vwCl ((wM ad cI cJ) I J) H → va_D A ((wM ad cI cJ) I J) → va_S A s.heap H locs → lv_has ls 8 [(0, .ref (ad 13)), (1, .int v1), (2, .int v2), (3, .int v3), (4, .int v4), (5, .int w5)] → W p l e ({ frames := 3, cells := 0, slots := 0, locals := 77 } : Room) s m args below meth c H locs 0 0 Q (F0 m 35 ls [])) → ∀ (n : Nat) (v5 : Int32) (v6 : Int32) (H : Heap) (locs : List Loc) (ls : Array Slot), lp_X9_goThrough_12 v1 v2 v3 v4 I n v5 v6 = some o → va_P (dC, dI) vwCl ((wM ad cI cJ) I J) H → va_D A ((wM ad cI cJ) I J) → va_S A s.heap H locs → lv_has ls 8 [(0, .ref (ad 13)), (1, .int v1), (2, .int v2), (3, .int v3), (4, .int v4), (5, .int v5), (6, .int v6)] → W p l e ({ frames := 3, cells := 0, slots := 0, locals := 77 } : Room) s m args below meth c H locs 0 0 Q (F0 m 12 ls []) := by
    intro Q v1 v2 v3 v4 I J o K0 n
    clear hP hD hS hl
    induction n with
    | zero =>
      intro v5 v6 H locs ls hf
      rw [lp_X9_goThrough_12.eq_1] at hf
      cases hf
    | succ n ih =>
      intro v5 v6 H locs ls hf hP hD hS hl
      rw [lp_X9_goThrough_12.eq_2] at hf
      refine lv_iload hx hb dX9_goThrough_12 (lv_at hl 6 rfl) ?_
      refine lv_aload_n hx hb dX9_goThrough_14 rfl (lv_at hl 0 rfl) ?_
      refine va_get (D := (dC, dI)) (ci := 8) (v := .int (I 14 0)) (C := RX9) (T := TX9) (N := 15) hx hb hts in_X9 hown hK hP 13 (obM_13 ad cI cJ I J) rfl 6 (by decide) wd_0 (fun _ h9 => h9) rfl dX9_goThrough_15 ?_
      refine lv_icmp_ge (tgt := 35) hx hb dX9_goThrough_18 (by decide) (fun c_1 => ?_) (fun c_1 => ?_)
      · have hf := (if_pos c_1).symm.trans hf
        exact K0 _ _ _ _ (Option.some.inj hf).symm hP hD hS (lv_sub hl [0, 1, 2, 3, 4, 5] rfl)
      · have hf := (if_neg c_1).symm.trans hf
        refine lv_iload hx hb dX9_goThrough_21 (lv_at hl 5 rfl) ?_
        refine lv_iload_n hx hb dX9_goThrough_23 rfl (lv_at hl 2 rfl) ?_
        refine lv_iconst (v := (1 : Int32)) hx hb dX9_goThrough_24 (by decide) ?_
        refine lv_iadd hx hb dX9_goThrough_25 ?_
        refine lv_imul hx hb dX9_goThrough_26 ?_
        refine lv_istore (lv' := [(5, .int (v5 * (v2 + (1 : Int32)))), (0, .ref (ad 13)), (1, .int v1), (2, .int v2), (3, .int v3), (4, .int v4), (6, .int v6)]) hx hb dX9_goThrough_27 hl (by decide) rfl (fun ls hl => ?_)
        refine lv_iinc (v := (v6 + (1 : Int32))) (lv' := [(6, .int (v6 + (1 : Int32))), (5, .int (v5 * (v2 + (1 : Int32)))), (0, .ref (ad 13)), (1, .int v1), (2, .int v2), (3, .int v3), (4, .int v4)]) hx hb dX9_goThrough_29 hl (k := 6) rfl (by first | rfl | decide) (by decide) rfl (fun ls hl => ?_)
        refine lv_goto (tgt := 12) hx hb dX9_goThrough_32 (by decide) ?_
        exact ih _ _ _ _ _ hf hP hD hS (lv_sub hl [2, 3, 4, 5, 6, 1, 0] rfl)
  have L41 : ∀ (Q : State → Prop) (v1 : Int32) (v2 : Int32) (v3 : Int32) (v4 : Int32) (v5 : Int32) (J : SJ) (o : Int32 × SI), (∀ (w6 : Int32) (I : SI) (H : Heap) (locs : List Loc) (ls : Array Slot), o = (w6, I) → va_P (dC, dI) vwCl ((wM ad cI cJ) I J) H → va_D A ((wM ad cI cJ) I J) → va_S A s.heap H locs → lv_has ls 8 [(6, .int w6)] → W p l e ({ frames := 3, cells := 0, slots := 0, locals := 77 } : Room) s m args below meth c H locs 0 0 Q (F0 m 91 ls [])) → ∀ (n : Nat) (v6 : Int32) (v7 : Int32) (I : SI) (H : Heap) (locs : List Loc) (ls : Array Slot), lp_X9_goThrough_41 v1 v2 v3 v4 v5 n v6 v7 I = some o → va_P (dC, dI) vwCl ((wM ad cI cJ) I J) H → va_D A ((wM ad cI cJ) I J) → va_S A s.heap H locs → lv_has ls 8 [(0, .ref (ad 13)), (1, .int v1), (2, .int v2), (3, .int v3), (4, .int v4), (5, .int v5), (6, .int v6), (7, .int v7)] → W p l e ({ frames := 3, cells := 0, slots := 0, locals := 77 } : Room) s m args below meth c H locs 0 0 Q (F0 m 41 ls []) := by
    intro Q v1 v2 v3 v4 v5 J o K0 n
    clear hP hD hS hl
    induction n with
    | zero =>
      intro v6 v7 I H locs ls hf
      rw [lp_X9_goThrough_41.eq_1] at hf
      cases hf
    | succ n ih =>
      intro v6 v7 I H locs ls hf hP hD hS hl
      rw [lp_X9_goThrough_41.eq_2] at hf
      refine lv_iload hx hb dX9_goThrough_41 (lv_at hl 7 rfl) ?_
      refine lv_iload hx hb dX9_goThrough_43 (lv_at hl 5 rfl) ?_
      refine lv_icmp_ge (tgt := 91) hx hb dX9_goThrough_45 (by decide) (fun c_2 => ?_) (fun c_2 => ?_)
      · have hf := (if_pos c_2).symm.trans hf
        exact K0 _ _ _ _ _ (Option.some.inj hf).symm hP hD hS (lv_sub hl [6] rfl)
      · have hf := (if_neg c_2).symm.trans hf
        refine lv_iload hx hb dX9_goThrough_48 (lv_at hl 6 rfl) ?_
        refine lv_iload hx hb dX9_goThrough_50 (lv_at hl 4 rfl) ?_
        refine lv_iconst (v := (1 : Int32)) hx hb dX9_goThrough_52 (by decide) ?_
        refine lv_iadd hx hb dX9_goThrough_53 ?_
        refine lv_icmp_eq (tgt := 91) hx hb dX9_goThrough_54 (by decide) (fun c_3 => ?_) (fun c_3 => ?_)
        · have hf := (if_pos c_3).symm.trans hf
          exact K0 _ _ _ _ _ (Option.some.inj hf).symm hP hD hS (lv_sub hl [6] rfl)
        · have hf := (if_neg c_3).symm.trans hf
          refine lv_aload_n hx hb dX9_goThrough_57 rfl (lv_at hl 0 rfl) ?_
          refine lv_iload_n hx hb dX9_goThrough_58 rfl (lv_at hl 1 rfl) ?_
          refine lv_iload_n hx hb dX9_goThrough_59 rfl (lv_at hl 2 rfl) ?_
          refine lv_iload_n hx hb dX9_goThrough_60 rfl (lv_at hl 3 rfl) ?_
          refine lv_iload hx hb dX9_goThrough_61 (lv_at hl 7 rfl) ?_
          obtain ⟨I_4, hg_4, hf⟩ := bd_some hf
          refine xVv (rest := []) (c_X9_layOut l dC dI ad cI cJ cT v1 v2 v3 v7 I J hg_4) hfix (cwV 4 hts gX9_goThrough_X9_layOut rfl rfl rfl (by decide +kernel) ⟨Nat.le_of_ble_eq_true rfl, Nat.le_of_ble_eq_true rfl⟩) hK hP hD hS hA (va_recv hK hP (ci := 8) (q0 := 13) rfl (obM_13 ad cI cJ I J)) rfl hl.1 rfl (Nat.le_of_ble_eq_true rfl) ⟨Nat.zero_le _, Nat.zero_le _⟩ dX9_goThrough_63 (fun H locs hP hD hS => ?_)
          refine lv_iload hx hb dX9_goThrough_66 (lv_at hl 6 rfl) ?_
          refine lv_aload_n hx hb dX9_goThrough_68 rfl (lv_at hl 0 rfl) ?_
          refine lv_bipush (v := (6 : Int32)) hx hb dX9_goThrough_69 (by decide) ?_
          obtain ⟨⟨r_5, I_5⟩, hg_5, hf⟩ := bd_some hf
          refine xVi (rest := [.int v6]) (c_X9_isRight l dC dI ad cI cJ cT (6 : Int32) I_4 J hg_5) hfix (cwV 1 hts gX9_goThrough_X9_isRight rfl rfl rfl (by decide +kernel) ⟨Nat.le_of_ble_eq_true rfl, Nat.le_of_ble_eq_true rfl⟩) hK hP hD hS hA (va_recv hK hP (ci := 8) (q0 := 13) rfl (obM_13 ad cI cJ I_4 J)) rfl hl.1 rfl (Nat.le_of_ble_eq_true rfl) ⟨Nat.zero_le _, Nat.zero_le _⟩ dX9_goThrough_71 (fun H locs hP hD hS => ?_)
          refine lv_if_eq (tgt := 81) hx hb dX9_goThrough_74 (by decide) (fun c_6 => ?_) (fun c_6 => ?_)
          · have hf := (if_pos c_6).symm.trans hf
            refine lv_iconst (v := (0 : Int32)) hx hb dX9_goThrough_81 (by decide) ?_
            refine lv_iadd hx hb dX9_goThrough_82 ?_
            refine lv_istore (lv' := [(6, .int (v6 + (0 : Int32))), (0, .ref (ad 13)), (1, .int v1), (2, .int v2), (3, .int v3), (4, .int v4), (5, .int v5), (7, .int v7)]) hx hb dX9_goThrough_83 hl (by decide) rfl (fun ls hl => ?_)
            refine lv_iinc (v := (v7 + (1 : Int32))) (lv' := [(7, .int (v7 + (1 : Int32))), (6, .int (v6 + (0 : Int32))), (0, .ref (ad 13)), (1, .int v1), (2, .int v2), (3, .int v3), (4, .int v4), (5, .int v5)]) hx hb dX9_goThrough_85 hl (k := 7) rfl (by first | rfl | decide) (by decide) rfl (fun ls hl => ?_)
            refine lv_goto (tgt := 41) hx hb dX9_goThrough_88 (by decide) ?_
            exact ih _ _ _ _ _ _ hf hP hD hS (lv_sub hl [2, 3, 4, 5, 6, 7, 1, 0] rfl)
          · have hf := (if_neg c_6).symm.trans hf
            refine lv_iconst (v := (1 : Int32)) hx hb dX9_goThrough_77 (by decide) ?_
            refine lv_goto (tgt := 82) hx hb dX9_goThrough_78 (by decide) ?_
            refine lv_iadd hx hb dX9_goThrough_82 ?_
            refine lv_istore (lv' := [(6, .int (v6 + (1 : Int32))), (0, .ref (ad 13)), (1, .int v1), (2, .int v2), (3, .int v3), (4, .int v4), (5, .int v5), (7, .int v7)]) hx hb dX9_goThrough_83 hl (by decide) rfl (fun ls hl => ?_)
            refine lv_iinc (v := (v7 + (1 : Int32))) (lv' := [(7, .int (v7 + (1 : Int32))), (6, .int (v6 + (1 : Int32))), (0, .ref (ad 13)), (1, .int v1), (2, .int v2), (3, .int v3), (4, .int v4), (5, .int v5)]) hx hb dX9_goThrough_85 hl (k := 7) rfl (by first | rfl | decide) (by decide) rfl (fun ls hl => ?_)
            refine lv_goto (tgt := 41) hx hb dX9_goThrough_88 (by decide) ?_
            exact ih _ _ _ _ _ _ hf hP hD hS (lv_sub hl [2, 3, 4, 5, 6, 7, 1, 0] rfl)
  unfold f_X9_goThrough at hf
  refine lv_aload_n hx hb dX9_goThrough_0 rfl (lv_at hl 0 rfl) ?_
  refine lv_iload_n hx hb dX9_goThrough_1 rfl (lv_at hl 1 rfl) ?_
  refine lv_iload_n hx hb dX9_goThrough_2 rfl (lv_at hl 3 rfl) ?_
  obtain ⟨I_7, hg_7, hf⟩ := bd_some hf
  refine xVv (rest := []) (c_X9_findLike l dC dI ad cI cJ cT p1 p3 I J hg_7) hfix (cwV 2 hts gX9_goThrough_X9_findLike rfl rfl rfl (by decide +kernel) ⟨Nat.le_of_ble_eq_true rfl, Nat.le_of_ble_eq_true rfl⟩) hK hP hD hS hA (va_recv hK hP (ci := 8) (q0 := 13) rfl (obM_13 ad cI cJ I J)) rfl hl.1 rfl (Nat.le_of_ble_eq_true rfl) ⟨Nat.zero_le _, Nat.zero_le _⟩ dX9_goThrough_3 (fun H locs hP hD hS => ?_)
  refine lv_iconst (v := (1 : Int32)) hx hb dX9_goThrough_6 (by decide) ?_
  refine lv_istore (lv' := [(5, .int (1 : Int32)), (0, .ref (ad 13)), (1, .int p1), (2, .int p2), (3, .int p3), (4, .int p4)]) hx hb dX9_goThrough_7 hl (by decide) rfl (fun ls hl => ?_)
  refine lv_iconst (v := (0 : Int32)) hx hb dX9_goThrough_9 (by decide) ?_
  refine lv_istore (lv' := [(6, .int (0 : Int32)), (5, .int (1 : Int32)), (0, .ref (ad 13)), (1, .int p1), (2, .int p2), (3, .int p3), (4, .int p4)]) hx hb dX9_goThrough_10 hl (by decide) rfl (fun ls hl => ?_)
  obtain ⟨o_8, hg_8, hf⟩ := bd_some hf
  refine L12 _ p1 p2 p3 p4 I_7 J o_8 ?_ FU (1 : Int32) (0 : Int32) _ _ _ hg_8 hP hD hS (lv_sub hl [2, 3, 4, 5, 6, 1, 0] rfl)
  · intro w5_8 H locs ls ho hP hD hS hl
    subst o_8
    refine lv_iconst (v := (0 : Int32)) hx hb dX9_goThrough_35 (by decide) ?_
    refine lv_istore (lv' := [(6, .int (0 : Int32)), (0, .ref (ad 13)), (1, .int p1), (2, .int p2), (3, .int p3), (4, .int p4), (5, .int w5_8)]) hx hb dX9_goThrough_36 hl (by decide) rfl (fun ls hl => ?_)
    refine lv_iconst (v := (0 : Int32)) hx hb dX9_goThrough_38 (by decide) ?_
    refine lv_istore (lv' := [(7, .int (0 : Int32)), (6, .int (0 : Int32)), (0, .ref (ad 13)), (1, .int p1), (2, .int p2), (3, .int p3), (4, .int p4), (5, .int w5_8)]) hx hb dX9_goThrough_39 hl (by decide) rfl (fun ls hl => ?_)
    obtain ⟨o_9, hg_9, hf⟩ := bd_some hf
    refine L41 _ p1 p2 p3 p4 w5_8 J o_9 ?_ FU (0 : Int32) (0 : Int32) I_7 _ _ _ hg_9 hP hD hS (lv_sub hl [2, 3, 4, 5, 6, 7, 1, 0] rfl)
    · intro w6_9 I_9 H locs ls ho hP hD hS hl
      subst o_9
      refine lv_iload hx hb dX9_goThrough_91 (lv_at hl 0 rfl) ?_
      cases hf
      exact xRi hx hb hr hlocks hK hP hD hS (fun _ h => h) dX9_goThrough_93
set_option maxHeartbeats 4000000 in
set_option maxRecDepth 100000 in
theorem c_X9_list (l : Launch) (dC : Nat → ClassId) (dI : Nat → Nat → Nat) (ad : Nat → Nat) (cI cJ cT : ClassId) (p1 : Int32) (p2 : Int32) (p3 : Int32) (I : SI) (J : SJ) {r0 : Int32} {I0 : SI} (hf : f_X9_list p1 p2 p3 I = some (r0, I0)) : CtI l yX9_list wsX9_list ({ frames := 4, cells := 0, slots := 0, locals := 104 } : Room) (dC, dI) (tys3 cI cJ cT) (wM ad cI cJ) [.ref (ad 13), .int p1, .int p2, .int p3] I J r0 I0 J := by
  intro sz
  refine Met.ofW (cc := cX9_list) (maxL := 4) (ret := (some .int)) (by decide) rfl ?_
  intro p e s m args below meth c s₁ B hml hv
  obtain ⟨hargs, hsz, hP, hK, hD0⟩ := hv
  have hx := B.exec
  have hb := B.bytes
  have hr := B.returns
  have hts := atoms_spec (ws := wsX9_list) B.pre
  have hown : s.vm.findClass RX9 = some m.cls := findClass_of_methodNamed B.named
  have hlocks := B.notSynchronized
  subst hsz
  have hD := hD0.self (sz := s.heap.size)
  generalize hAe : va_A ((wM ad cI cJ) I J) s.heap.size = A at hD ⊢
  have hA : ∀ q : Nat, s.heap.size ≤ q → A q := fun q h => by rw [← hAe]; exact Or.inr h
  have hS : va_S A s.heap s.heap [] := va_S.rf
  have hl := lv_entry ([.ref (ad 13), .int p1, .int p2, .int p3]) (n := 4) (Nat.le_of_ble_eq_true rfl)
  rw [hargs, lg_entry_eq, ← hargs]
  generalize (lg_sl ([.ref (ad 13), .int p1, .int p2, .int p3]) ++ List.replicate (4 - (lg_sl ([.ref (ad 13), .int p1, .int p2, .int p3])).length) Slot.unset).toArray = ls at hl ⊢
  have hl : lv_has ls 4 [(0, .ref (ad 13)), (1, .int p1), (2, .int p2), (3, .int p3)] := hl
  have hfix : CallFix p m c cX9_list 4 s args wsX9_list RX9 := ⟨hx, hb, hml, hown, hts⟩
  unfold f_X9_list at hf
  refine lv_iload_n hx hb dX9_list_0 rfl (lv_at hl 1 rfl) ?_
  refine lv_iload_n hx hb dX9_list_1 rfl (lv_at hl 2 rfl) ?_
  refine lv_iload_n hx hb dX9_list_2 rfl (lv_at hl 3 rfl) ?_
  obtain ⟨r_1, hg_1, hf⟩ := bd_some hf
  refine xSi (rest := []) (c_X9_isListed l dC dI ad cI cJ cT p1 p2 p3 I J hg_1) hfix (va_cwS 3 hts gX9_list_X9_isListed rfl rfl rfl (by decide +kernel) ⟨Nat.le_of_ble_eq_true rfl, Nat.le_of_ble_eq_true rfl⟩) hK hP hD hS hA rfl hl.1 rfl (Nat.le_of_ble_eq_true rfl) ⟨Nat.zero_le _, Nat.zero_le _⟩ dX9_list_3 (fun H locs hP hD hS => ?_)
  refine lv_if_eq (tgt := 21) hx hb dX9_list_6 (by decide) (fun c_2 => ?_) (fun c_2 => ?_)
  · have hf := (if_pos c_2).symm.trans hf
    refine lv_bipush (v := (-2 : Int32)) hx hb dX9_list_21 (by decide) ?_
    cases hf
    exact xRi hx hb hr hlocks hK hP hD hS (fun _ h => h) dX9_list_23
  · have hf := (if_neg c_2).symm.trans hf
    refine lv_aload_n hx hb dX9_list_9 rfl (lv_at hl 0 rfl) ?_
    refine lv_iload_n hx hb dX9_list_10 rfl (lv_at hl 1 rfl) ?_
    refine lv_iload_n hx hb dX9_list_11 rfl (lv_at hl 2 rfl) ?_
    refine lv_iload_n hx hb dX9_list_12 rfl (lv_at hl 3 rfl) ?_
    refine lv_bipush (v := (-2 : Int32)) hx hb dX9_list_13 (by decide) ?_
    obtain ⟨⟨r_3, I_3⟩, hg_3, hf⟩ := bd_some hf
    refine xVi (rest := []) (c_X9_goThrough l dC dI ad cI cJ cT p1 p2 p3 (-2 : Int32) I J hg_3) hfix (cwV 4 hts gX9_list_X9_goThrough rfl rfl rfl (by decide +kernel) ⟨Nat.le_of_ble_eq_true rfl, Nat.le_of_ble_eq_true rfl⟩) hK hP hD hS hA (va_recv hK hP (ci := 8) (q0 := 13) rfl (obM_13 ad cI cJ I J)) rfl hl.1 rfl (Nat.le_of_ble_eq_true rfl) ⟨Nat.zero_le _, Nat.zero_le _⟩ dX9_list_15 (fun H locs hP hD hS => ?_)
    refine lv_goto (tgt := 23) hx hb dX9_list_18 (by decide) ?_
    cases hf
    exact xRi hx hb hr hlocks hK hP hD hS (fun _ h => h) dX9_list_23
set_option maxHeartbeats 4000000 in
set_option maxRecDepth 100000 in
theorem c_X9_take (l : Launch) (dC : Nat → ClassId) (dI : Nat → Nat → Nat) (ad : Nat → Nat) (cI cJ cT : ClassId) (p1 : Int32) (p2 : Int32) (p3 : Int32) (p4 : Int32) (p5 : Int32) (I : SI) (J : SJ) {r0 : Int32} {I0 : SI} (hf : f_X9_take p1 p2 p3 p4 p5 I = some (r0, I0)) : CtI l yX9_take wsX9_take ({ frames := 4, cells := 0, slots := 0, locals := 104 } : Room) (dC, dI) (tys3 cI cJ cT) (wM ad cI cJ) [.ref (ad 13), .int p1, .int p2, .int p3, .int p4, .int p5] I J r0 I0 J := by
  intro sz
  refine Met.ofW (cc := cX9_take) (maxL := 6) (ret := (some .int)) (by decide) rfl ?_
  intro p e s m args below meth c s₁ B hml hv
  obtain ⟨hargs, hsz, hP, hK, hD0⟩ := hv
  have hx := B.exec
  have hb := B.bytes
  have hr := B.returns
  have hts := atoms_spec (ws := wsX9_take) B.pre
  have hown : s.vm.findClass RX9 = some m.cls := findClass_of_methodNamed B.named
  have hlocks := B.notSynchronized
  subst hsz
  have hD := hD0.self (sz := s.heap.size)
  generalize hAe : va_A ((wM ad cI cJ) I J) s.heap.size = A at hD ⊢
  have hA : ∀ q : Nat, s.heap.size ≤ q → A q := fun q h => by rw [← hAe]; exact Or.inr h
  have hS : va_S A s.heap s.heap [] := va_S.rf
  have hl := lv_entry ([.ref (ad 13), .int p1, .int p2, .int p3, .int p4, .int p5]) (n := 6) (Nat.le_of_ble_eq_true rfl)
  rw [hargs, lg_entry_eq, ← hargs]
  generalize (lg_sl ([.ref (ad 13), .int p1, .int p2, .int p3, .int p4, .int p5]) ++ List.replicate (6 - (lg_sl ([.ref (ad 13), .int p1, .int p2, .int p3, .int p4, .int p5])).length) Slot.unset).toArray = ls at hl ⊢
  have hl : lv_has ls 6 [(0, .ref (ad 13)), (1, .int p1), (2, .int p2), (3, .int p3), (4, .int p4), (5, .int p5)] := hl
  have hfix : CallFix p m c cX9_take 6 s args wsX9_take RX9 := ⟨hx, hb, hml, hown, hts⟩
  have wd_0 := hts (.constant RX9 138 (100000)) (by decide +kernel)
  unfold f_X9_take at hf
  refine lv_iload_n hx hb dX9_take_0 rfl (lv_at hl 1 rfl) ?_
  obtain ⟨r_1, hg_1, hf⟩ := bd_some hf
  refine xSi (rest := []) (c_X9_noTable l dC dI ad cI cJ cT p1 I J hg_1) hfix (va_cwS 1 hts gX9_take_X9_noTable rfl rfl rfl (by decide +kernel) ⟨Nat.le_of_ble_eq_true rfl, Nat.le_of_ble_eq_true rfl⟩) hK hP hD hS hA rfl hl.1 rfl (Nat.le_of_ble_eq_true rfl) ⟨Nat.zero_le _, Nat.zero_le _⟩ dX9_take_1 (fun H locs hP hD hS => ?_)
  refine lv_if_ne (tgt := 22) hx hb dX9_take_4 (by decide) (fun c_2 => ?_) (fun c_2 => ?_)
  · have hf := (if_neg c_2).symm.trans hf
    refine lv_bipush (v := (-2 : Int32)) hx hb dX9_take_22 (by decide) ?_
    cases hf
    exact xRi hx hb hr hlocks hK hP hD hS (fun _ h => h) dX9_take_24
  · have hf := (if_pos c_2).symm.trans hf
    refine lv_iload_n hx hb dX9_take_7 rfl (lv_at hl 2 rfl) ?_
    refine lv_iload_n hx hb dX9_take_8 rfl (lv_at hl 3 rfl) ?_
    refine lv_iload hx hb dX9_take_9 (lv_at hl 4 rfl) ?_
    obtain ⟨r_3, hg_3, hf⟩ := bd_some hf
    refine xSi (rest := []) (c_X9_isListed l dC dI ad cI cJ cT p2 p3 p4 I J hg_3) hfix (va_cwS 3 hts gX9_take_X9_isListed rfl rfl rfl (by decide +kernel) ⟨Nat.le_of_ble_eq_true rfl, Nat.le_of_ble_eq_true rfl⟩) hK hP hD hS hA rfl hl.1 rfl (Nat.le_of_ble_eq_true rfl) ⟨Nat.zero_le _, Nat.zero_le _⟩ dX9_take_11 (fun H locs hP hD hS => ?_)
    refine lv_if_eq (tgt := 22) hx hb dX9_take_14 (by decide) (fun c_4 => ?_) (fun c_4 => ?_)
    · have hf := (if_pos c_4).symm.trans hf
      refine lv_bipush (v := (-2 : Int32)) hx hb dX9_take_22 (by decide) ?_
      cases hf
      exact xRi hx hb hr hlocks hK hP hD hS (fun _ h => h) dX9_take_24
    · have hf := (if_neg c_4).symm.trans hf
      refine lv_iload hx hb dX9_take_17 (lv_at hl 5 rfl) ?_
      refine lv_if_ge (tgt := 25) hx hb dX9_take_19 (by decide) (fun c_5 => ?_) (fun c_5 => ?_)
      · have hf := (if_pos c_5).symm.trans hf
        refine lv_iload hx hb dX9_take_25 (lv_at hl 5 rfl) ?_
        refine lv_ldc (v := (100000 : Int32)) hx hb hown wd_0 dX9_take_27 ?_
        refine lv_icmp_gt (tgt := 49) hx hb dX9_take_29 (by decide) (fun c_6 => ?_) (fun c_6 => ?_)
        · have hf := (if_pos c_6).symm.trans hf
          refine lv_bipush (v := (-3 : Int32)) hx hb dX9_take_49 (by decide) ?_
          cases hf
          exact xRi hx hb hr hlocks hK hP hD hS (fun _ h => h) dX9_take_51
        · have hf := (if_neg c_6).symm.trans hf
          refine lv_aload_n hx hb dX9_take_32 rfl (lv_at hl 0 rfl) ?_
          refine lv_iload_n hx hb dX9_take_33 rfl (lv_at hl 2 rfl) ?_
          refine lv_iload_n hx hb dX9_take_34 rfl (lv_at hl 3 rfl) ?_
          refine lv_iload hx hb dX9_take_35 (lv_at hl 4 rfl) ?_
          refine lv_iload hx hb dX9_take_37 (lv_at hl 5 rfl) ?_
          obtain ⟨⟨r_7, I_7⟩, hg_7, hf⟩ := bd_some hf
          refine xVi (rest := []) (c_X9_goThrough l dC dI ad cI cJ cT p2 p3 p4 p5 I J hg_7) hfix (cwV 4 hts gX9_take_X9_goThrough rfl rfl rfl (by decide +kernel) ⟨Nat.le_of_ble_eq_true rfl, Nat.le_of_ble_eq_true rfl⟩) hK hP hD hS hA (va_recv hK hP (ci := 8) (q0 := 13) rfl (obM_13 ad cI cJ I J)) rfl hl.1 rfl (Nat.le_of_ble_eq_true rfl) ⟨Nat.zero_le _, Nat.zero_le _⟩ dX9_take_39 (fun H locs hP hD hS => ?_)
          refine lv_iload hx hb dX9_take_42 (lv_at hl 5 rfl) ?_
          refine lv_iconst (v := (1 : Int32)) hx hb dX9_take_44 (by decide) ?_
          refine lv_iadd hx hb dX9_take_45 ?_
          refine lv_icmp_eq (tgt := 52) hx hb dX9_take_46 (by decide) (fun c_8 => ?_) (fun c_8 => ?_)
          · have hf := (if_pos c_8).symm.trans hf
            refine lv_aload_n hx hb dX9_take_52 rfl (lv_at hl 0 rfl) ?_
            refine lv_bipush (v := (6 : Int32)) hx hb dX9_take_53 (by decide) ?_
            refine lv_iload_n hx hb dX9_take_55 rfl (lv_at hl 1 rfl) ?_
            obtain ⟨I_9, hg_9, hf⟩ := bd_some hf
            refine xVv (rest := []) (c_X9_carry l dC dI ad cI cJ cT (6 : Int32) p1 I_7 J hg_9) hfix (cwV 2 hts gX9_take_X9_carry rfl rfl rfl (by decide +kernel) ⟨Nat.le_of_ble_eq_true rfl, Nat.le_of_ble_eq_true rfl⟩) hK hP hD hS hA (va_recv hK hP (ci := 8) (q0 := 13) rfl (obM_13 ad cI cJ I_7 J)) rfl hl.1 rfl (Nat.le_of_ble_eq_true rfl) ⟨Nat.zero_le _, Nat.zero_le _⟩ dX9_take_56 (fun H locs hP hD hS => ?_)
            refine lv_iconst (v := (1 : Int32)) hx hb dX9_take_59 (by decide) ?_
            cases hf
            exact xRi hx hb hr hlocks hK hP hD hS (fun _ h => h) dX9_take_60
          · have hf := (if_neg c_8).symm.trans hf
            refine lv_bipush (v := (-3 : Int32)) hx hb dX9_take_49 (by decide) ?_
            cases hf
            exact xRi hx hb hr hlocks hK hP hD hS (fun _ h => h) dX9_take_51
      · have hf := (if_neg c_5).symm.trans hf
        refine lv_bipush (v := (-2 : Int32)) hx hb dX9_take_22 (by decide) ?_
        cases hf
        exact xRi hx hb hr hlocks hK hP hD hS (fun _ h => h) dX9_take_24
set_option maxHeartbeats 4000000 in
set_option maxRecDepth 100000 in
theorem c_X9_letter (l : Launch) (dC : Nat → ClassId) (dI : Nat → Nat → Nat) (ad : Nat → Nat) (cI cJ cT : ClassId) (p1 : Int32) (I : SI) (J : SJ) {r0 : Int32} {I0 : SI} (hf : f_X9_letter p1 I = some (r0, I0)) : CtI l yX9_letter wsX9_letter ({ frames := 1, cells := 0, slots := 0, locals := 25 } : Room) (dC, dI) (tys3 cI cJ cT) (wM ad cI cJ) [.ref (ad 13), .int p1] I J r0 I0 J := by
  intro sz
  refine Met.ofW (cc := cX9_letter) (maxL := 2) (ret := (some .int)) (by decide) rfl ?_
  intro p e s m args below meth c s₁ B hml hv
  obtain ⟨hargs, hsz, hP, hK, hD0⟩ := hv
  have hx := B.exec
  have hb := B.bytes
  have hr := B.returns
  have hts := atoms_spec (ws := wsX9_letter) B.pre
  have hown : s.vm.findClass RX9 = some m.cls := findClass_of_methodNamed B.named
  have hlocks := B.notSynchronized
  subst hsz
  have hD := hD0.self (sz := s.heap.size)
  generalize hAe : va_A ((wM ad cI cJ) I J) s.heap.size = A at hD ⊢
  have hA : ∀ q : Nat, s.heap.size ≤ q → A q := fun q h => by rw [← hAe]; exact Or.inr h
  have hS : va_S A s.heap s.heap [] := va_S.rf
  have hl := lv_entry ([.ref (ad 13), .int p1]) (n := 2) (Nat.le_of_ble_eq_true rfl)
  rw [hargs, lg_entry_eq, ← hargs]
  generalize (lg_sl ([.ref (ad 13), .int p1]) ++ List.replicate (2 - (lg_sl ([.ref (ad 13), .int p1])).length) Slot.unset).toArray = ls at hl ⊢
  have hl : lv_has ls 2 [(0, .ref (ad 13)), (1, .int p1)] := hl
  have hfix : CallFix p m c cX9_letter 2 s args wsX9_letter RX9 := ⟨hx, hb, hml, hown, hts⟩
  have in_X9 : ∀ w ∈ u_ws RX9 TX9 15, w ∈ wsX9_letter := by decide +kernel
  have wd_0 := hts (.constantLong RX9 94 (4)) (by decide +kernel)
  have wd_1 := hts (.fieldLink RX9 139 "FuseBenchModel" "letters" "I") (by decide +kernel)
  have wd_2 := hts (.fieldLink RX9 28 "FuseBenchModel" "word" "[I") (by decide +kernel)
  unfold f_X9_letter at hf
  refine lv_iload_n hx hb dX9_letter_0 rfl (lv_at hl 1 rfl) ?_
  refine lv_i2l (v := p1.toInt64) hx hb dX9_letter_1 rfl ?_
  refine lv_lconst (v := (0 : Int64)) hx hb dX9_letter_2 (by decide) ?_
  refine lv_ldc2 (v := (4 : Int64)) hx hb hown wd_0 dX9_letter_3 ?_
  obtain ⟨r_1, hg_1, hf⟩ := bd_some hf
  refine xSi (rest := []) (c_X9_in l dC dI ad cI cJ cT (p1.toInt64) (0 : Int64) (4 : Int64) I J hg_1) hfix (va_cwS 3 hts gX9_letter_X9_in rfl rfl rfl (by decide +kernel) ⟨Nat.le_of_ble_eq_true rfl, Nat.le_of_ble_eq_true rfl⟩) hK hP hD hS hA rfl hl.1 rfl (Nat.le_of_ble_eq_true rfl) ⟨Nat.zero_le _, Nat.zero_le _⟩ dX9_letter_6 (fun H locs hP hD hS => ?_)
  refine lv_if_ne (tgt := 15) hx hb dX9_letter_9 (by decide) (fun c_2 => ?_) (fun c_2 => ?_)
  · have hf := (if_neg c_2).symm.trans hf
    refine lv_aload_n hx hb dX9_letter_15 rfl (lv_at hl 0 rfl) ?_
    refine va_get (D := (dC, dI)) (ci := 8) (v := .int (I 15 0)) (C := RX9) (T := TX9) (N := 15) hx hb hts in_X9 hown hK hP 13 (obM_13 ad cI cJ I J) rfl 8 (by decide) wd_1 (fun _ h9 => h9) rfl dX9_letter_16 ?_
    refine lv_bipush (v := (14 : Int32)) hx hb dX9_letter_19 (by decide) ?_
    refine lv_icmp_ne (tgt := 27) hx hb dX9_letter_21 (by decide) (fun c_3 => ?_) (fun c_3 => ?_)
    · have hf := (if_neg c_3).symm.trans hf
      refine lv_aload_n hx hb dX9_letter_27 rfl (lv_at hl 0 rfl) ?_
      refine va_get (D := (dC, dI)) (ci := 8) (v := .ref (ad 6)) (C := RX9) (T := TX9) (N := 15) hx hb hts in_X9 hown hK hP 13 (obM_13 ad cI cJ I J) rfl 7 (by decide) wd_2 (fun _ h9 => h9) rfl dX9_letter_28 ?_
      refine lv_aload_n hx hb dX9_letter_31 rfl (lv_at hl 0 rfl) ?_
      refine va_get (D := (dC, dI)) (ci := 8) (v := .int (I 15 0)) (C := RX9) (T := TX9) (N := 15) hx hb hts in_X9 hown hK hP 13 (obM_13 ad cI cJ I J) rfl 8 (by decide) wd_1 (fun _ h9 => h9) rfl dX9_letter_32 ?_
      refine lv_iload_n hx hb dX9_letter_35 rfl (lv_at hl 1 rfl) ?_
      obtain ⟨h_4, hf⟩ := gd_some hf
      refine x_iast hx hb hK (aiM_6 ad cI cJ) hP hD hS h_4 dX9_letter_36 (fun H locs hP hD hS => ?_)
      refine lv_aload_n hx hb dX9_letter_37 rfl (lv_at hl 0 rfl) ?_
      refine lv_dup hx hb dX9_letter_38 rfl ?_
      refine va_get (D := (dC, dI)) (ci := 8) (v := .int ((ups I 6 (I 15 0).toNatClampNeg p1) 15 0)) (C := RX9) (T := TX9) (N := 15) hx hb hts in_X9 hown hK hP 13 (obM_13 ad cI cJ (ups I 6 (I 15 0).toNatClampNeg p1) J) rfl 8 (by decide) wd_1 (fun _ h9 => h9) rfl dX9_letter_39 ?_
      refine lv_iconst (v := (1 : Int32)) hx hb dX9_letter_42 (by decide) ?_
      refine lv_iadd hx hb dX9_letter_43 ?_
      refine x_put (C := RX9) (T := TX9) (N := 15) hx hb hts in_X9 tyX9 tyX9_ok nmX9 hown hK hP hD hS 13 (obM_13 ad cI cJ (ups I 6 (I 15 0).toNatClampNeg p1) J) rfl 8 (by decide) wd_1 (fun _ h9 => h9) rfl (by decide +kernel) (Nat.le_of_ble_eq_true rfl) (psM_15 ad cI cJ (ups I 6 (I 15 0).toNatClampNeg p1) J (((ups I 6 (I 15 0).toNatClampNeg p1) 15 0) + (1 : Int32))) dX9_letter_44 (fun H locs hP hD hS => ?_)
      refine lv_aload_n hx hb dX9_letter_47 rfl (lv_at hl 0 rfl) ?_
      refine va_get (D := (dC, dI)) (ci := 8) (v := .int ((sets (ups I 6 (I 15 0).toNatClampNeg p1) 15 (((ups I 6 (I 15 0).toNatClampNeg p1) 15 0) + (1 : Int32))) 15 0)) (C := RX9) (T := TX9) (N := 15) hx hb hts in_X9 hown hK hP 13 (obM_13 ad cI cJ (sets (ups I 6 (I 15 0).toNatClampNeg p1) 15 (((ups I 6 (I 15 0).toNatClampNeg p1) 15 0) + (1 : Int32))) J) rfl 8 (by decide) wd_1 (fun _ h9 => h9) rfl dX9_letter_48 ?_
      cases hf
      exact xRi hx hb hr hlocks hK hP hD hS (fun _ h => h) dX9_letter_51
    · have hf := (if_pos c_3).symm.trans hf
      refine lv_bipush (v := (-3 : Int32)) hx hb dX9_letter_24 (by decide) ?_
      cases hf
      exact xRi hx hb hr hlocks hK hP hD hS (fun _ h => h) dX9_letter_26
  · have hf := (if_pos c_2).symm.trans hf
    refine lv_bipush (v := (-2 : Int32)) hx hb dX9_letter_12 (by decide) ?_
    cases hf
    exact xRi hx hb hr hlocks hK hP hD hS (fun _ h => h) dX9_letter_14
set_option maxHeartbeats 4000000 in
set_option maxRecDepth 100000 in
theorem c_X9_empty (l : Launch) (dC : Nat → ClassId) (dI : Nat → Nat → Nat) (ad : Nat → Nat) (cI cJ cT : ClassId) (I : SI) (J : SJ) {r0 : Int32} {I0 : SI} (hf : f_X9_empty I = some (r0, I0)) : CtI l yX9_empty wsX9_empty ({ frames := 0, cells := 0, slots := 0, locals := 0 } : Room) (dC, dI) (tys3 cI cJ cT) (wM ad cI cJ) [.ref (ad 13)] I J r0 I0 J := by
  intro sz
  refine Met.ofW (cc := cX9_empty) (maxL := 2) (ret := (some .int)) (by decide) rfl ?_
  intro p e s m args below meth c s₁ B hml hv
  obtain ⟨hargs, hsz, hP, hK, hD0⟩ := hv
  have hx := B.exec
  have hb := B.bytes
  have hr := B.returns
  have hts := atoms_spec (ws := wsX9_empty) B.pre
  have hown : s.vm.findClass RX9 = some m.cls := findClass_of_methodNamed B.named
  have hlocks := B.notSynchronized
  subst hsz
  have hD := hD0.self (sz := s.heap.size)
  generalize hAe : va_A ((wM ad cI cJ) I J) s.heap.size = A at hD ⊢
  have hA : ∀ q : Nat, s.heap.size ≤ q → A q := fun q h => by rw [← hAe]; exact Or.inr h
  have hS : va_S A s.heap s.heap [] := va_S.rf
  have hl := lv_entry ([.ref (ad 13)]) (n := 2) (Nat.le_of_ble_eq_true rfl)
  rw [hargs, lg_entry_eq, ← hargs]
  generalize (lg_sl ([.ref (ad 13)]) ++ List.replicate (2 - (lg_sl ([.ref (ad 13)])).length) Slot.unset).toArray = ls at hl ⊢
  have hl : lv_has ls 2 [(0, .ref (ad 13))] := hl
  have hfix : CallFix p m c cX9_empty 2 s args wsX9_empty RX9 := ⟨hx, hb, hml, hown, hts⟩
  have in_X9 : ∀ w ∈ u_ws RX9 TX9 15, w ∈ wsX9_empty := by decide +kernel
  have wd_0 := hts (.fieldLink RX9 139 "FuseBenchModel" "letters" "I") (by decide +kernel)
  unfold f_X9_empty at hf
  refine lv_aload_n hx hb dX9_empty_0 rfl (lv_at hl 0 rfl) ?_
  refine va_get (D := (dC, dI)) (ci := 8) (v := .int (I 15 0)) (C := RX9) (T := TX9) (N := 15) hx hb hts in_X9 hown hK hP 13 (obM_13 ad cI cJ I J) rfl 8 (by decide) wd_0 (fun _ h9 => h9) rfl dX9_empty_1 ?_
  refine lv_istore_n (lv' := [(1, .int (I 15 0)), (0, .ref (ad 13))]) hx hb dX9_empty_4 rfl hl (by decide) rfl (fun ls hl => ?_)
  refine lv_aload_n hx hb dX9_empty_5 rfl (lv_at hl 1 rfl) ?_
  refine lv_iconst (v := (0 : Int32)) hx hb dX9_empty_6 (by decide) ?_
  refine x_put (C := RX9) (T := TX9) (N := 15) hx hb hts in_X9 tyX9 tyX9_ok nmX9 hown hK hP hD hS 13 (obM_13 ad cI cJ I J) rfl 8 (by decide) wd_0 (fun _ h9 => h9) rfl (by decide +kernel) (Nat.le_of_ble_eq_true rfl) (psM_15 ad cI cJ I J (0 : Int32)) dX9_empty_7 (fun H locs hP hD hS => ?_)
  refine lv_iload_n hx hb dX9_empty_10 rfl (lv_at hl 0 rfl) ?_
  cases hf
  exact xRi hx hb hr hlocks hK hP hD hS (fun _ h => h) dX9_empty_11
set_option maxHeartbeats 4000000 in
set_option maxRecDepth 100000 in
theorem c_X9_start (l : Launch) (dC : Nat → ClassId) (dI : Nat → Nat → Nat) (ad : Nat → Nat) (cI cJ cT : ClassId) (p1 : Int32) (p2 : Int32) (I : SI) (J : SJ) {J0 : SJ} (hf : f_X9_start p1 p2 J = some J0) : CtV l yX9_start wsX9_start ({ frames := 0, cells := 0, slots := 0, locals := 0 } : Room) (dC, dI) (tys3 cI cJ cT) (wM ad cI cJ) [.ref (ad 13), .int p1, .int p2] I J I J0 := by
  intro sz
  refine Met.ofW (cc := cX9_start) (maxL := 4) (ret := none) (by decide) rfl ?_
  intro p e s m args below meth c s₁ B hml hv
  obtain ⟨hargs, hsz, hP, hK, hD0⟩ := hv
  have hx := B.exec
  have hb := B.bytes
  have hr := B.returns
  have hts := atoms_spec (ws := wsX9_start) B.pre
  have hown : s.vm.findClass RX9 = some m.cls := findClass_of_methodNamed B.named
  have hlocks := B.notSynchronized
  subst hsz
  have hD := hD0.self (sz := s.heap.size)
  generalize hAe : va_A ((wM ad cI cJ) I J) s.heap.size = A at hD ⊢
  have hA : ∀ q : Nat, s.heap.size ≤ q → A q := fun q h => by rw [← hAe]; exact Or.inr h
  have hS : va_S A s.heap s.heap [] := va_S.rf
  have hl := lv_entry ([.ref (ad 13), .int p1, .int p2]) (n := 4) (Nat.le_of_ble_eq_true rfl)
  rw [hargs, lg_entry_eq, ← hargs]
  generalize (lg_sl ([.ref (ad 13), .int p1, .int p2]) ++ List.replicate (4 - (lg_sl ([.ref (ad 13), .int p1, .int p2])).length) Slot.unset).toArray = ls at hl ⊢
  have hl : lv_has ls 4 [(0, .ref (ad 13)), (1, .int p1), (2, .int p2)] := hl
  have hfix : CallFix p m c cX9_start 4 s args wsX9_start RX9 := ⟨hx, hb, hml, hown, hts⟩
  have in_X9 : ∀ w ∈ u_ws RX9 TX9 15, w ∈ wsX9_start := by decide +kernel
  have wd_0 := hts (.fieldLink RX9 31 "FuseBenchModel" "sum" "[J") (by decide +kernel)
  have L2 : ∀ (Q : State → Prop) (v2 : Int32) (I : SI) (o : SJ), (∀  (J : SJ) (H : Heap) (locs : List Loc) (ls : Array Slot), o = J → va_P (dC, dI) vwCl ((wM ad cI cJ) I J) H → va_D A ((wM ad cI cJ) I J) → va_S A s.heap H locs → lv_has ls 4 [] → W p l e ({ frames := 0, cells := 0, slots := 0, locals := 0 } : Room) s m args below meth c H locs 0 0 Q (F0 m 29 ls [])) → ∀ (n : Nat) (v3 : Int32) (J : SJ) (H : Heap) (locs : List Loc) (ls : Array Slot), lp_X9_start_2 v2 n v3 J = some o → va_P (dC, dI) vwCl ((wM ad cI cJ) I J) H → va_D A ((wM ad cI cJ) I J) → va_S A s.heap H locs → lv_has ls 4 [(0, .ref (ad 13)), (2, .int v2), (3, .int v3)] → W p l e ({ frames := 0, cells := 0, slots := 0, locals := 0 } : Room) s m args below meth c H locs 0 0 Q (F0 m 2 ls []) := by
    intro Q v2 I o K0 n
    clear hP hD hS hl
    induction n with
    | zero =>
      intro v3 J H locs ls hf
      rw [lp_X9_start_2.eq_1] at hf
      cases hf
    | succ n ih =>
      intro v3 J H locs ls hf hP hD hS hl
      rw [lp_X9_start_2.eq_2] at hf
      refine lv_iload_n hx hb dX9_start_2 rfl (lv_at hl 2 rfl) ?_
      refine lv_iconst (v := (5 : Int32)) hx hb dX9_start_3 (by decide) ?_
      refine lv_icmp_ge (tgt := 29) hx hb dX9_start_4 (by decide) (fun c_1 => ?_) (fun c_1 => ?_)
      · have hf := (if_pos c_1).symm.trans hf
        exact K0 _ _ _ _ (Option.some.inj hf).symm hP hD hS (lv_sub hl [] rfl)
      · have hf := (if_neg c_1).symm.trans hf
        refine lv_aload_n hx hb dX9_start_7 rfl (lv_at hl 0 rfl) ?_
        refine va_get (D := (dC, dI)) (ci := 8) (v := .ref (ad 7)) (C := RX9) (T := TX9) (N := 15) hx hb hts in_X9 hown hK hP 13 (obM_13 ad cI cJ I J) rfl 9 (by decide) wd_0 (fun _ h9 => h9) rfl dX9_start_8 ?_
        refine lv_iload_n hx hb dX9_start_11 rfl (lv_at hl 2 rfl) ?_
        refine lv_iload_n hx hb dX9_start_12 rfl (lv_at hl 2 rfl) ?_
        refine lv_iload_n hx hb dX9_start_13 rfl (lv_at hl 1 rfl) ?_
        refine lv_icmp_ne (tgt := 21) hx hb dX9_start_14 (by decide) (fun c_2 => ?_) (fun c_2 => ?_)
        · have hf := (if_neg c_2).symm.trans hf
          refine lv_lconst (v := (0 : Int64)) hx hb dX9_start_21 (by decide) ?_
          obtain ⟨h_3, hf⟩ := gd_some hf
          refine x_last hx hb hK (aiM_7 ad cI cJ) hP hD hS h_3 dX9_start_22 (fun H locs hP hD hS => ?_)
          refine lv_iinc (v := (v3 + (1 : Int32))) (lv' := [(3, .int (v3 + (1 : Int32))), (0, .ref (ad 13)), (2, .int v2)]) hx hb dX9_start_23 hl (k := 2) rfl (by first | rfl | decide) (by decide) rfl (fun ls hl => ?_)
          refine lv_goto (tgt := 2) hx hb dX9_start_26 (by decide) ?_
          exact ih _ _ _ _ _ hf hP hD hS (lv_sub hl [1, 2, 0] rfl)
        · have hf := (if_pos c_2).symm.trans hf
          refine lv_lconst (v := (1 : Int64)) hx hb dX9_start_17 (by decide) ?_
          refine lv_goto (tgt := 22) hx hb dX9_start_18 (by decide) ?_
          obtain ⟨h_4, hf⟩ := gd_some hf
          refine x_last hx hb hK (aiM_7 ad cI cJ) hP hD hS h_4 dX9_start_22 (fun H locs hP hD hS => ?_)
          refine lv_iinc (v := (v3 + (1 : Int32))) (lv' := [(3, .int (v3 + (1 : Int32))), (0, .ref (ad 13)), (2, .int v2)]) hx hb dX9_start_23 hl (k := 2) rfl (by first | rfl | decide) (by decide) rfl (fun ls hl => ?_)
          refine lv_goto (tgt := 2) hx hb dX9_start_26 (by decide) ?_
          exact ih _ _ _ _ _ hf hP hD hS (lv_sub hl [1, 2, 0] rfl)
  unfold f_X9_start at hf
  refine lv_iconst (v := (0 : Int32)) hx hb dX9_start_0 (by decide) ?_
  refine lv_istore_n (lv' := [(3, .int (0 : Int32)), (0, .ref (ad 13)), (1, .int p1), (2, .int p2)]) hx hb dX9_start_1 rfl hl (by decide) rfl (fun ls hl => ?_)
  obtain ⟨o_5, hg_5, hf⟩ := bd_some hf
  refine L2 _ p2 I o_5 ?_ FU (0 : Int32) J _ _ _ hg_5 hP hD hS (lv_sub hl [1, 3, 0] rfl)
  · intro J_5 H locs ls ho hP hD hS hl
    subst o_5
    cases hf
    exact xRv hx hb hr hlocks hK hP hD hS (fun _ h => h) dX9_start_29
set_option maxHeartbeats 4000000 in
set_option maxRecDepth 100000 in
theorem c_X9_fuse (l : Launch) (dC : Nat → ClassId) (dI : Nat → Nat → Nat) (ad : Nat → Nat) (cI cJ cT : ClassId) (p1 : Int32) (p2 : Int32) (I : SI) (J : SJ) {J0 : SJ} (hf : f_X9_fuse p1 p2 I J = some J0) : CtV l yX9_fuse wsX9_fuse ({ frames := 1, cells := 0, slots := 0, locals := 24 } : Room) (dC, dI) (tys3 cI cJ cT) (wM ad cI cJ) [.ref (ad 13), .int p1, .int p2] I J I J0 := by
  intro sz
  refine Met.ofW (cc := cX9_fuse) (maxL := 5) (ret := none) (by decide) rfl ?_
  intro p e s m args below meth c s₁ B hml hv
  obtain ⟨hargs, hsz, hP, hK, hD0⟩ := hv
  have hx := B.exec
  have hb := B.bytes
  have hr := B.returns
  have hts := atoms_spec (ws := wsX9_fuse) B.pre
  have hown : s.vm.findClass RX9 = some m.cls := findClass_of_methodNamed B.named
  have hlocks := B.notSynchronized
  subst hsz
  have hD := hD0.self (sz := s.heap.size)
  generalize hAe : va_A ((wM ad cI cJ) I J) s.heap.size = A at hD ⊢
  have hA : ∀ q : Nat, s.heap.size ≤ q → A q := fun q h => by rw [← hAe]; exact Or.inr h
  have hS : va_S A s.heap s.heap [] := va_S.rf
  have hl := lv_entry ([.ref (ad 13), .int p1, .int p2]) (n := 5) (Nat.le_of_ble_eq_true rfl)
  rw [hargs, lg_entry_eq, ← hargs]
  generalize (lg_sl ([.ref (ad 13), .int p1, .int p2]) ++ List.replicate (5 - (lg_sl ([.ref (ad 13), .int p1, .int p2])).length) Slot.unset).toArray = ls at hl ⊢
  have hl : lv_has ls 5 [(0, .ref (ad 13)), (1, .int p1), (2, .int p2)] := hl
  have hfix : CallFix p m c cX9_fuse 5 s args wsX9_fuse RX9 := ⟨hx, hb, hml, hown, hts⟩
  have in_X9 : ∀ w ∈ u_ws RX9 TX9 15, w ∈ wsX9_fuse := by decide +kernel
  have wd_0 := hts (.fieldLink RX9 7 "FuseBenchModel" "ranks" "[I") (by decide +kernel)
  have wd_1 := hts (.fieldLink RX9 31 "FuseBenchModel" "sum" "[J") (by decide +kernel)
  have wd_2 := hts (.fieldLink RX9 35 "FuseBenchModel" "next" "[J") (by decide +kernel)
  have L74 : ∀ (Q : State → Prop) (v1 : Int32) (I : SI) (o : SJ), (∀  (J : SJ) (H : Heap) (locs : List Loc) (ls : Array Slot), o = J → va_P (dC, dI) vwCl ((wM ad cI cJ) I J) H → va_D A ((wM ad cI cJ) I J) → va_S A s.heap H locs → lv_has ls 5 [] → W p l e ({ frames := 1, cells := 0, slots := 0, locals := 24 } : Room) s m args below meth c H locs 0 0 Q (F0 m 102 ls [])) → ∀ (n : Nat) (v3 : Int32) (J : SJ) (H : Heap) (locs : List Loc) (ls : Array Slot), lp_X9_fuse_74 v1 I n v3 J = some o → va_P (dC, dI) vwCl ((wM ad cI cJ) I J) H → va_D A ((wM ad cI cJ) I J) → va_S A s.heap H locs → lv_has ls 5 [(0, .ref (ad 13)), (1, .int v1), (3, .int v3)] → W p l e ({ frames := 1, cells := 0, slots := 0, locals := 24 } : Room) s m args below meth c H locs 0 0 Q (F0 m 74 ls []) := by
    intro Q v1 I o K0 n
    clear hP hD hS hl
    induction n with
    | zero =>
      intro v3 J H locs ls hf
      rw [lp_X9_fuse_74.eq_1] at hf
      cases hf
    | succ n ih =>
      intro v3 J H locs ls hf hP hD hS hl
      rw [lp_X9_fuse_74.eq_2] at hf
      refine lv_iload_n hx hb dX9_fuse_74 rfl (lv_at hl 2 rfl) ?_
      refine lv_aload_n hx hb dX9_fuse_75 rfl (lv_at hl 0 rfl) ?_
      refine va_get (D := (dC, dI)) (ci := 8) (v := .ref (ad 0)) (C := RX9) (T := TX9) (N := 15) hx hb hts in_X9 hown hK hP 13 (obM_13 ad cI cJ I J) rfl 0 (by decide) wd_0 (fun _ h9 => h9) rfl dX9_fuse_76 ?_
      refine lv_iload_n hx hb dX9_fuse_79 rfl (lv_at hl 1 rfl) ?_
      obtain ⟨h_1, hf⟩ := gd_some hf
      refine x_iald hx hb hK (aiM_0 ad cI cJ) hP h_1 dX9_fuse_80 ?_
      refine lv_icmp_ge (tgt := 102) hx hb dX9_fuse_81 (by decide) (fun c_2 => ?_) (fun c_2 => ?_)
      · have hf := (if_pos c_2).symm.trans hf
        exact K0 _ _ _ _ (Option.some.inj hf).symm hP hD hS (lv_sub hl [] rfl)
      · have hf := (if_neg c_2).symm.trans hf
        refine lv_aload_n hx hb dX9_fuse_84 rfl (lv_at hl 0 rfl) ?_
        refine va_get (D := (dC, dI)) (ci := 8) (v := .ref (ad 7)) (C := RX9) (T := TX9) (N := 15) hx hb hts in_X9 hown hK hP 13 (obM_13 ad cI cJ I J) rfl 9 (by decide) wd_1 (fun _ h9 => h9) rfl dX9_fuse_85 ?_
        refine lv_iload_n hx hb dX9_fuse_88 rfl (lv_at hl 2 rfl) ?_
        refine lv_aload_n hx hb dX9_fuse_89 rfl (lv_at hl 0 rfl) ?_
        refine va_get (D := (dC, dI)) (ci := 8) (v := .ref (ad 8)) (C := RX9) (T := TX9) (N := 15) hx hb hts in_X9 hown hK hP 13 (obM_13 ad cI cJ I J) rfl 10 (by decide) wd_2 (fun _ h9 => h9) rfl dX9_fuse_90 ?_
        refine lv_iload_n hx hb dX9_fuse_93 rfl (lv_at hl 2 rfl) ?_
        obtain ⟨h_3, hf⟩ := gd_some hf
        refine x_lald hx hb hK (aiM_8 ad cI cJ) hP h_3 dX9_fuse_94 ?_
        obtain ⟨h_4, hf⟩ := gd_some hf
        refine x_last hx hb hK (aiM_7 ad cI cJ) hP hD hS h_4 dX9_fuse_95 (fun H locs hP hD hS => ?_)
        refine lv_iinc (v := (v3 + (1 : Int32))) (lv' := [(3, .int (v3 + (1 : Int32))), (0, .ref (ad 13)), (1, .int v1)]) hx hb dX9_fuse_96 hl (k := 2) rfl (by first | rfl | decide) (by decide) rfl (fun ls hl => ?_)
        refine lv_goto (tgt := 74) hx hb dX9_fuse_99 (by decide) ?_
        exact ih _ _ _ _ _ hf hP hD hS (lv_sub hl [1, 2, 0] rfl)
  have L22 : ∀ (Q : State → Prop) (v1 : Int32) (v2 : Int32) (v3 : Int32) (I : SI) (o : SJ), (∀  (J : SJ) (H : Heap) (locs : List Loc) (ls : Array Slot), o = J → va_P (dC, dI) vwCl ((wM ad cI cJ) I J) H → va_D A ((wM ad cI cJ) I J) → va_S A s.heap H locs → lv_has ls 5 [(0, .ref (ad 13)), (1, .int v1), (2, .int v2), (3, .int v3)] → W p l e ({ frames := 1, cells := 0, slots := 0, locals := 24 } : Room) s m args below meth c H locs 0 0 Q (F0 m 66 ls [])) → ∀ (n : Nat) (v4 : Int32) (J : SJ) (H : Heap) (locs : List Loc) (ls : Array Slot), lp_X9_fuse_22 v1 v2 v3 I n v4 J = some o → va_P (dC, dI) vwCl ((wM ad cI cJ) I J) H → va_D A ((wM ad cI cJ) I J) → va_S A s.heap H locs → lv_has ls 5 [(0, .ref (ad 13)), (1, .int v1), (2, .int v2), (3, .int v3), (4, .int v4)] → W p l e ({ frames := 1, cells := 0, slots := 0, locals := 24 } : Room) s m args below meth c H locs 0 0 Q (F0 m 22 ls []) := by
    intro Q v1 v2 v3 I o K0 n
    clear hP hD hS hl
    induction n with
    | zero =>
      intro v4 J H locs ls hf
      rw [lp_X9_fuse_22.eq_1] at hf
      cases hf
    | succ n ih =>
      intro v4 J H locs ls hf hP hD hS hl
      rw [lp_X9_fuse_22.eq_2] at hf
      refine lv_iload hx hb dX9_fuse_22 (lv_at hl 4 rfl) ?_
      refine lv_aload_n hx hb dX9_fuse_24 rfl (lv_at hl 0 rfl) ?_
      refine va_get (D := (dC, dI)) (ci := 8) (v := .ref (ad 0)) (C := RX9) (T := TX9) (N := 15) hx hb hts in_X9 hown hK hP 13 (obM_13 ad cI cJ I J) rfl 0 (by decide) wd_0 (fun _ h9 => h9) rfl dX9_fuse_25 ?_
      refine lv_iload_n hx hb dX9_fuse_28 rfl (lv_at hl 1 rfl) ?_
      obtain ⟨h_5, hf⟩ := gd_some hf
      refine x_iald hx hb hK (aiM_0 ad cI cJ) hP h_5 dX9_fuse_29 ?_
      refine lv_icmp_ge (tgt := 66) hx hb dX9_fuse_30 (by decide) (fun c_6 => ?_) (fun c_6 => ?_)
      · have hf := (if_pos c_6).symm.trans hf
        exact K0 _ _ _ _ (Option.some.inj hf).symm hP hD hS (lv_sub hl [0, 1, 2, 3] rfl)
      · have hf := (if_neg c_6).symm.trans hf
        refine lv_aload_n hx hb dX9_fuse_33 rfl (lv_at hl 0 rfl) ?_
        refine va_get (D := (dC, dI)) (ci := 8) (v := .ref (ad 8)) (C := RX9) (T := TX9) (N := 15) hx hb hts in_X9 hown hK hP 13 (obM_13 ad cI cJ I J) rfl 10 (by decide) wd_2 (fun _ h9 => h9) rfl dX9_fuse_34 ?_
        refine lv_iload_n hx hb dX9_fuse_37 rfl (lv_at hl 3 rfl) ?_
        refine lv_dup2_11 hx hb dX9_fuse_38 rfl rfl ?_
        obtain ⟨h_7, hf⟩ := gd_some hf
        refine x_lald hx hb hK (aiM_8 ad cI cJ) hP h_7 dX9_fuse_39 ?_
        refine lv_aload_n hx hb dX9_fuse_40 rfl (lv_at hl 0 rfl) ?_
        refine va_get (D := (dC, dI)) (ci := 8) (v := .ref (ad 7)) (C := RX9) (T := TX9) (N := 15) hx hb hts in_X9 hown hK hP 13 (obM_13 ad cI cJ I J) rfl 9 (by decide) wd_1 (fun _ h9 => h9) rfl dX9_fuse_41 ?_
        refine lv_iload hx hb dX9_fuse_44 (lv_at hl 4 rfl) ?_
        obtain ⟨h_8, hf⟩ := gd_some hf
        refine x_lald hx hb hK (aiM_7 ad cI cJ) hP h_8 dX9_fuse_46 ?_
        refine lv_aload_n hx hb dX9_fuse_47 rfl (lv_at hl 0 rfl) ?_
        refine lv_iload_n hx hb dX9_fuse_48 rfl (lv_at hl 1 rfl) ?_
        refine lv_iload hx hb dX9_fuse_49 (lv_at hl 4 rfl) ?_
        refine lv_iload_n hx hb dX9_fuse_51 rfl (lv_at hl 2 rfl) ?_
        refine lv_iload_n hx hb dX9_fuse_52 rfl (lv_at hl 3 rfl) ?_
        obtain ⟨r_9, hg_9, hf⟩ := bd_some hf
        refine xVi (rest := [.long (J 7 v4.toNatClampNeg), .long (J 8 v3.toNatClampNeg), .int v3, .ref (ad 8)]) (c_X9_n l dC dI ad cI cJ cT v1 v4 v2 v3 I J hg_9) hfix (cwV 4 hts gX9_fuse_X9_n rfl rfl rfl (by decide +kernel) ⟨Nat.le_of_ble_eq_true rfl, Nat.le_of_ble_eq_true rfl⟩) hK hP hD hS hA (va_recv hK hP (ci := 8) (q0 := 13) rfl (obM_13 ad cI cJ I J)) rfl hl.1 rfl (Nat.le_of_ble_eq_true rfl) ⟨Nat.zero_le _, Nat.zero_le _⟩ dX9_fuse_53 (fun H locs hP hD hS => ?_)
        refine lv_i2l (v := r_9.toInt64) hx hb dX9_fuse_56 rfl ?_
        refine lv_lmul hx hb dX9_fuse_57 ?_
        refine lv_ladd hx hb dX9_fuse_58 ?_
        obtain ⟨h_10, hf⟩ := gd_some hf
        refine x_last hx hb hK (aiM_8 ad cI cJ) hP hD hS h_10 dX9_fuse_59 (fun H locs hP hD hS => ?_)
        refine lv_iinc (v := (v4 + (1 : Int32))) (lv' := [(4, .int (v4 + (1 : Int32))), (0, .ref (ad 13)), (1, .int v1), (2, .int v2), (3, .int v3)]) hx hb dX9_fuse_60 hl (k := 4) rfl (by first | rfl | decide) (by decide) rfl (fun ls hl => ?_)
        refine lv_goto (tgt := 22) hx hb dX9_fuse_63 (by decide) ?_
        exact ih _ _ _ _ _ hf hP hD hS (lv_sub hl [1, 2, 3, 4, 0] rfl)
  have L2 : ∀ (Q : State → Prop) (v1 : Int32) (v2 : Int32) (I : SI) (o : SJ), (∀  (J : SJ) (H : Heap) (locs : List Loc) (ls : Array Slot), o = J → va_P (dC, dI) vwCl ((wM ad cI cJ) I J) H → va_D A ((wM ad cI cJ) I J) → va_S A s.heap H locs → lv_has ls 5 [(0, .ref (ad 13)), (1, .int v1)] → W p l e ({ frames := 1, cells := 0, slots := 0, locals := 24 } : Room) s m args below meth c H locs 0 0 Q (F0 m 72 ls [])) → ∀ (n : Nat) (v3 : Int32) (J : SJ) (H : Heap) (locs : List Loc) (ls : Array Slot), lp_X9_fuse_2 v1 v2 I n v3 J = some o → va_P (dC, dI) vwCl ((wM ad cI cJ) I J) H → va_D A ((wM ad cI cJ) I J) → va_S A s.heap H locs → lv_has ls 5 [(0, .ref (ad 13)), (1, .int v1), (2, .int v2), (3, .int v3)] → W p l e ({ frames := 1, cells := 0, slots := 0, locals := 24 } : Room) s m args below meth c H locs 0 0 Q (F0 m 2 ls []) := by
    intro Q v1 v2 I o K0 n
    clear hP hD hS hl
    induction n with
    | zero =>
      intro v3 J H locs ls hf
      rw [lp_X9_fuse_2.eq_1] at hf
      cases hf
    | succ n ih =>
      intro v3 J H locs ls hf hP hD hS hl
      rw [lp_X9_fuse_2.eq_2] at hf
      refine lv_iload_n hx hb dX9_fuse_2 rfl (lv_at hl 3 rfl) ?_
      refine lv_aload_n hx hb dX9_fuse_3 rfl (lv_at hl 0 rfl) ?_
      refine va_get (D := (dC, dI)) (ci := 8) (v := .ref (ad 0)) (C := RX9) (T := TX9) (N := 15) hx hb hts in_X9 hown hK hP 13 (obM_13 ad cI cJ I J) rfl 0 (by decide) wd_0 (fun _ h9 => h9) rfl dX9_fuse_4 ?_
      refine lv_iload_n hx hb dX9_fuse_7 rfl (lv_at hl 1 rfl) ?_
      obtain ⟨h_11, hf⟩ := gd_some hf
      refine x_iald hx hb hK (aiM_0 ad cI cJ) hP h_11 dX9_fuse_8 ?_
      refine lv_icmp_ge (tgt := 72) hx hb dX9_fuse_9 (by decide) (fun c_12 => ?_) (fun c_12 => ?_)
      · have hf := (if_pos c_12).symm.trans hf
        exact K0 _ _ _ _ (Option.some.inj hf).symm hP hD hS (lv_sub hl [0, 1] rfl)
      · have hf := (if_neg c_12).symm.trans hf
        refine lv_aload_n hx hb dX9_fuse_12 rfl (lv_at hl 0 rfl) ?_
        refine va_get (D := (dC, dI)) (ci := 8) (v := .ref (ad 8)) (C := RX9) (T := TX9) (N := 15) hx hb hts in_X9 hown hK hP 13 (obM_13 ad cI cJ I J) rfl 10 (by decide) wd_2 (fun _ h9 => h9) rfl dX9_fuse_13 ?_
        refine lv_iload_n hx hb dX9_fuse_16 rfl (lv_at hl 3 rfl) ?_
        refine lv_lconst (v := (0 : Int64)) hx hb dX9_fuse_17 (by decide) ?_
        obtain ⟨h_13, hf⟩ := gd_some hf
        refine x_last hx hb hK (aiM_8 ad cI cJ) hP hD hS h_13 dX9_fuse_18 (fun H locs hP hD hS => ?_)
        refine lv_iconst (v := (0 : Int32)) hx hb dX9_fuse_19 (by decide) ?_
        refine lv_istore (lv' := [(4, .int (0 : Int32)), (0, .ref (ad 13)), (1, .int v1), (2, .int v2), (3, .int v3)]) hx hb dX9_fuse_20 hl (by decide) rfl (fun ls hl => ?_)
        obtain ⟨o_14, hg_14, hf⟩ := bd_some hf
        refine L22 _ v1 v2 v3 I o_14 ?_ FU (0 : Int32) (upj J 8 v3.toNatClampNeg (0 : Int64)) _ _ _ hg_14 hP hD hS (lv_sub hl [1, 2, 3, 4, 0] rfl)
        · intro J_14 H locs ls ho hP hD hS hl
          subst o_14
          refine lv_iinc (v := (v3 + (1 : Int32))) (lv' := [(3, .int (v3 + (1 : Int32))), (0, .ref (ad 13)), (1, .int v1), (2, .int v2)]) hx hb dX9_fuse_66 hl (k := 3) rfl (by first | rfl | decide) (by decide) rfl (fun ls hl => ?_)
          refine lv_goto (tgt := 2) hx hb dX9_fuse_69 (by decide) ?_
          exact ih _ _ _ _ _ hf hP hD hS (lv_sub hl [1, 2, 3, 0] rfl)
  unfold f_X9_fuse at hf
  refine lv_iconst (v := (0 : Int32)) hx hb dX9_fuse_0 (by decide) ?_
  refine lv_istore_n (lv' := [(3, .int (0 : Int32)), (0, .ref (ad 13)), (1, .int p1), (2, .int p2)]) hx hb dX9_fuse_1 rfl hl (by decide) rfl (fun ls hl => ?_)
  obtain ⟨o_15, hg_15, hf⟩ := bd_some hf
  refine L2 _ p1 p2 I o_15 ?_ FU (0 : Int32) J _ _ _ hg_15 hP hD hS (lv_sub hl [1, 2, 3, 0] rfl)
  · intro J_15 H locs ls ho hP hD hS hl
    subst o_15
    refine lv_iconst (v := (0 : Int32)) hx hb dX9_fuse_72 (by decide) ?_
    refine lv_istore_n (lv' := [(3, .int (0 : Int32)), (0, .ref (ad 13)), (1, .int p1)]) hx hb dX9_fuse_73 rfl hl (by decide) rfl (fun ls hl => ?_)
    obtain ⟨o_16, hg_16, hf⟩ := bd_some hf
    refine L74 _ p1 I o_16 ?_ FU (0 : Int32) J_15 _ _ _ hg_16 hP hD hS (lv_sub hl [1, 2, 0] rfl)
    · intro J_16 H locs ls ho hP hD hS hl
      subst o_16
      cases hf
      exact xRv hx hb hr hlocks hK hP hD hS (fun _ h => h) dX9_fuse_102
set_option maxHeartbeats 4000000 in
set_option maxRecDepth 100000 in
theorem c_X9_fused (l : Launch) (dC : Nat → ClassId) (dI : Nat → Nat → Nat) (ad : Nat → Nat) (cI cJ cT : ClassId) (p1 : Int32) (p2 : Int32) (I : SI) (J : SJ) {r0 : Int64} {J0 : SJ} (hf : f_X9_fused p1 p2 I J = some (r0, J0)) : CtL l yX9_fused wsX9_fused ({ frames := 2, cells := 0, slots := 0, locals := 48 } : Room) (dC, dI) (tys3 cI cJ cT) (wM ad cI cJ) [.ref (ad 13), .int p1, .int p2] I J r0 I J0 := by
  intro sz
  refine Met.ofW (cc := cX9_fused) (maxL := 4) (ret := (some .long)) (by decide) rfl ?_
  intro p e s m args below meth c s₁ B hml hv
  obtain ⟨hargs, hsz, hP, hK, hD0⟩ := hv
  have hx := B.exec
  have hb := B.bytes
  have hr := B.returns
  have hts := atoms_spec (ws := wsX9_fused) B.pre
  have hown : s.vm.findClass RX9 = some m.cls := findClass_of_methodNamed B.named
  have hlocks := B.notSynchronized
  subst hsz
  have hD := hD0.self (sz := s.heap.size)
  generalize hAe : va_A ((wM ad cI cJ) I J) s.heap.size = A at hD ⊢
  have hA : ∀ q : Nat, s.heap.size ≤ q → A q := fun q h => by rw [← hAe]; exact Or.inr h
  have hS : va_S A s.heap s.heap [] := va_S.rf
  have hl := lv_entry ([.ref (ad 13), .int p1, .int p2]) (n := 4) (Nat.le_of_ble_eq_true rfl)
  rw [hargs, lg_entry_eq, ← hargs]
  generalize (lg_sl ([.ref (ad 13), .int p1, .int p2]) ++ List.replicate (4 - (lg_sl ([.ref (ad 13), .int p1, .int p2])).length) Slot.unset).toArray = ls at hl ⊢
  have hl : lv_has ls 4 [(0, .ref (ad 13)), (1, .int p1), (2, .int p2)] := hl
  have hfix : CallFix p m c cX9_fused 4 s args wsX9_fused RX9 := ⟨hx, hb, hml, hown, hts⟩
  have in_X9 : ∀ w ∈ u_ws RX9 TX9 15, w ∈ wsX9_fused := by decide +kernel
  have wd_0 := hts (.fieldLink RX9 139 "FuseBenchModel" "letters" "I") (by decide +kernel)
  have wd_1 := hts (.fieldLink RX9 28 "FuseBenchModel" "word" "[I") (by decide +kernel)
  have wd_2 := hts (.constantLong RX9 142 (-2)) (by decide +kernel)
  have wd_3 := hts (.fieldLink RX9 31 "FuseBenchModel" "sum" "[J") (by decide +kernel)
  have L28 : ∀ (Q : State → Prop) (v1 : Int32) (v2 : Int32) (I : SI) (o : Nat × SJ), (∀  (J : SJ) (H : Heap) (locs : List Loc) (ls : Array Slot), o = (0, J) → va_P (dC, dI) vwCl ((wM ad cI cJ) I J) H → va_D A ((wM ad cI cJ) I J) → va_S A s.heap H locs → lv_has ls 4 [] → W p l e ({ frames := 2, cells := 0, slots := 0, locals := 48 } : Room) s m args below meth c H locs 0 0 Q (F0 m 50 ls [])) → (∀  (J : SJ) (H : Heap) (locs : List Loc) (ls : Array Slot), o = (1, J) → va_P (dC, dI) vwCl ((wM ad cI cJ) I J) H → va_D A ((wM ad cI cJ) I J) → va_S A s.heap H locs → lv_has ls 4 [(0, .ref (ad 13)), (2, .int v2)] → W p l e ({ frames := 2, cells := 0, slots := 0, locals := 48 } : Room) s m args below meth c H locs 0 0 Q (F0 m 71 ls [])) → ∀ (n : Nat) (v3 : Int32) (J : SJ) (H : Heap) (locs : List Loc) (ls : Array Slot), lp_X9_fused_28 v1 v2 I n v3 J = some o → va_P (dC, dI) vwCl ((wM ad cI cJ) I J) H → va_D A ((wM ad cI cJ) I J) → va_S A s.heap H locs → lv_has ls 4 [(0, .ref (ad 13)), (1, .int v1), (2, .int v2), (3, .int v3)] → W p l e ({ frames := 2, cells := 0, slots := 0, locals := 48 } : Room) s m args below meth c H locs 0 0 Q (F0 m 28 ls []) := by
    intro Q v1 v2 I o K0 K1 n
    clear hP hD hS hl
    induction n with
    | zero =>
      intro v3 J H locs ls hf
      rw [lp_X9_fused_28.eq_1] at hf
      cases hf
    | succ n ih =>
      intro v3 J H locs ls hf hP hD hS hl
      rw [lp_X9_fused_28.eq_2] at hf
      refine lv_iload_n hx hb dX9_fused_28 rfl (lv_at hl 3 rfl) ?_
      refine lv_aload_n hx hb dX9_fused_29 rfl (lv_at hl 0 rfl) ?_
      refine va_get (D := (dC, dI)) (ci := 8) (v := .int (I 15 0)) (C := RX9) (T := TX9) (N := 15) hx hb hts in_X9 hown hK hP 13 (obM_13 ad cI cJ I J) rfl 8 (by decide) wd_0 (fun _ h9 => h9) rfl dX9_fused_30 ?_
      refine lv_icmp_ge (tgt := 71) hx hb dX9_fused_33 (by decide) (fun c_1 => ?_) (fun c_1 => ?_)
      · have hf := (if_pos c_1).symm.trans hf
        exact K1 _ _ _ _ (Option.some.inj hf).symm hP hD hS (lv_sub hl [0, 2] rfl)
      · have hf := (if_neg c_1).symm.trans hf
        refine lv_aload_n hx hb dX9_fused_36 rfl (lv_at hl 0 rfl) ?_
        refine lv_iload_n hx hb dX9_fused_37 rfl (lv_at hl 1 rfl) ?_
        refine lv_aload_n hx hb dX9_fused_38 rfl (lv_at hl 0 rfl) ?_
        refine va_get (D := (dC, dI)) (ci := 8) (v := .ref (ad 6)) (C := RX9) (T := TX9) (N := 15) hx hb hts in_X9 hown hK hP 13 (obM_13 ad cI cJ I J) rfl 7 (by decide) wd_1 (fun _ h9 => h9) rfl dX9_fused_39 ?_
        refine lv_iload_n hx hb dX9_fused_42 rfl (lv_at hl 3 rfl) ?_
        obtain ⟨h_2, hf⟩ := gd_some hf
        refine x_iald hx hb hK (aiM_6 ad cI cJ) hP h_2 dX9_fused_43 ?_
        obtain ⟨r_3, hg_3, hf⟩ := bd_some hf
        refine xVi (rest := []) (c_X9_isKind l dC dI ad cI cJ cT v1 (I 6 v3.toNatClampNeg) I J hg_3) hfix (cwV 2 hts gX9_fused_X9_isKind rfl rfl rfl (by decide +kernel) ⟨Nat.le_of_ble_eq_true rfl, Nat.le_of_ble_eq_true rfl⟩) hK hP hD hS hA (va_recv hK hP (ci := 8) (q0 := 13) rfl (obM_13 ad cI cJ I J)) rfl hl.1 rfl (Nat.le_of_ble_eq_true rfl) ⟨Nat.zero_le _, Nat.zero_le _⟩ dX9_fused_44 (fun H locs hP hD hS => ?_)
        refine lv_if_ne (tgt := 54) hx hb dX9_fused_47 (by decide) (fun c_4 => ?_) (fun c_4 => ?_)
        · have hf := (if_neg c_4).symm.trans hf
          refine lv_aload_n hx hb dX9_fused_54 rfl (lv_at hl 0 rfl) ?_
          refine lv_iload_n hx hb dX9_fused_55 rfl (lv_at hl 1 rfl) ?_
          refine lv_aload_n hx hb dX9_fused_56 rfl (lv_at hl 0 rfl) ?_
          refine va_get (D := (dC, dI)) (ci := 8) (v := .ref (ad 6)) (C := RX9) (T := TX9) (N := 15) hx hb hts in_X9 hown hK hP 13 (obM_13 ad cI cJ I J) rfl 7 (by decide) wd_1 (fun _ h9 => h9) rfl dX9_fused_57 ?_
          refine lv_iload_n hx hb dX9_fused_60 rfl (lv_at hl 3 rfl) ?_
          obtain ⟨h_5, hf⟩ := gd_some hf
          refine x_iald hx hb hK (aiM_6 ad cI cJ) hP h_5 dX9_fused_61 ?_
          obtain ⟨J_6, hg_6, hf⟩ := bd_some hf
          refine xVv (rest := []) (c_X9_fuse l dC dI ad cI cJ cT v1 (I 6 v3.toNatClampNeg) I J hg_6) hfix (cwV 2 hts gX9_fused_X9_fuse rfl rfl rfl (by decide +kernel) ⟨Nat.le_of_ble_eq_true rfl, Nat.le_of_ble_eq_true rfl⟩) hK hP hD hS hA (va_recv hK hP (ci := 8) (q0 := 13) rfl (obM_13 ad cI cJ I J)) rfl hl.1 rfl (Nat.le_of_ble_eq_true rfl) ⟨Nat.zero_le _, Nat.zero_le _⟩ dX9_fused_62 (fun H locs hP hD hS => ?_)
          refine lv_iinc (v := (v3 + (1 : Int32))) (lv' := [(3, .int (v3 + (1 : Int32))), (0, .ref (ad 13)), (1, .int v1), (2, .int v2)]) hx hb dX9_fused_65 hl (k := 3) rfl (by first | rfl | decide) (by decide) rfl (fun ls hl => ?_)
          refine lv_goto (tgt := 28) hx hb dX9_fused_68 (by decide) ?_
          exact ih _ _ _ _ _ hf hP hD hS (lv_sub hl [1, 2, 3, 0] rfl)
        · have hf := (if_pos c_4).symm.trans hf
          exact K0 _ _ _ _ (Option.some.inj hf).symm hP hD hS (lv_sub hl [] rfl)
  unfold f_X9_fused at hf
  refine lv_iload_n hx hb dX9_fused_0 rfl (lv_at hl 1 rfl) ?_
  obtain ⟨r_7, hg_7, hf⟩ := bd_some hf
  refine xSi (rest := []) (c_X9_noTable l dC dI ad cI cJ cT p1 I J hg_7) hfix (va_cwS 1 hts gX9_fused_X9_noTable rfl rfl rfl (by decide +kernel) ⟨Nat.le_of_ble_eq_true rfl, Nat.le_of_ble_eq_true rfl⟩) hK hP hD hS hA rfl hl.1 rfl (Nat.le_of_ble_eq_true rfl) ⟨Nat.zero_le _, Nat.zero_le _⟩ dX9_fused_1 (fun H locs hP hD hS => ?_)
  refine lv_if_ne (tgt := 16) hx hb dX9_fused_4 (by decide) (fun c_8 => ?_) (fun c_8 => ?_)
  · have hf := (if_neg c_8).symm.trans hf
    refine lv_ldc2 (v := (-2 : Int64)) hx hb hown wd_2 dX9_fused_16 ?_
    cases hf
    exact xRl hx hb hr hlocks hK hP hD hS (fun _ h => h) dX9_fused_19
  · have hf := (if_pos c_8).symm.trans hf
    refine lv_aload_n hx hb dX9_fused_7 rfl (lv_at hl 0 rfl) ?_
    refine lv_iload_n hx hb dX9_fused_8 rfl (lv_at hl 1 rfl) ?_
    refine lv_iload_n hx hb dX9_fused_9 rfl (lv_at hl 2 rfl) ?_
    obtain ⟨r_9, hg_9, hf⟩ := bd_some hf
    refine xVi (rest := []) (c_X9_isKind l dC dI ad cI cJ cT p1 p2 I J hg_9) hfix (cwV 2 hts gX9_fused_X9_isKind rfl rfl rfl (by decide +kernel) ⟨Nat.le_of_ble_eq_true rfl, Nat.le_of_ble_eq_true rfl⟩) hK hP hD hS hA (va_recv hK hP (ci := 8) (q0 := 13) rfl (obM_13 ad cI cJ I J)) rfl hl.1 rfl (Nat.le_of_ble_eq_true rfl) ⟨Nat.zero_le _, Nat.zero_le _⟩ dX9_fused_10 (fun H locs hP hD hS => ?_)
    refine lv_if_ne (tgt := 20) hx hb dX9_fused_13 (by decide) (fun c_10 => ?_) (fun c_10 => ?_)
    · have hf := (if_neg c_10).symm.trans hf
      refine lv_aload_n hx hb dX9_fused_20 rfl (lv_at hl 0 rfl) ?_
      refine lv_iload_n hx hb dX9_fused_21 rfl (lv_at hl 1 rfl) ?_
      refine lv_iconst (v := (0 : Int32)) hx hb dX9_fused_22 (by decide) ?_
      obtain ⟨J_11, hg_11, hf⟩ := bd_some hf
      refine xVv (rest := []) (c_X9_start l dC dI ad cI cJ cT p1 (0 : Int32) I J hg_11) hfix (cwV 2 hts gX9_fused_X9_start rfl rfl rfl (by decide +kernel) ⟨Nat.le_of_ble_eq_true rfl, Nat.le_of_ble_eq_true rfl⟩) hK hP hD hS hA (va_recv hK hP (ci := 8) (q0 := 13) rfl (obM_13 ad cI cJ I J)) rfl hl.1 rfl (Nat.le_of_ble_eq_true rfl) ⟨Nat.zero_le _, Nat.zero_le _⟩ dX9_fused_23 (fun H locs hP hD hS => ?_)
      refine lv_iconst (v := (0 : Int32)) hx hb dX9_fused_26 (by decide) ?_
      refine lv_istore_n (lv' := [(3, .int (0 : Int32)), (0, .ref (ad 13)), (1, .int p1), (2, .int p2)]) hx hb dX9_fused_27 rfl hl (by decide) rfl (fun ls hl => ?_)
      obtain ⟨o_12, hg_12, hf⟩ := bd_some hf
      refine L28 _ p1 p2 I o_12 ?_ ?_ FU (0 : Int32) J_11 _ _ _ hg_12 hP hD hS (lv_sub hl [1, 2, 3, 0] rfl)
      · intro J_12 H locs ls ho hP hD hS hl
        subst o_12
        have hf := (if_pos (show 0 = 0 from rfl)).symm.trans hf
        refine lv_ldc2 (v := (-2 : Int64)) hx hb hown wd_2 dX9_fused_50 ?_
        cases hf
        exact xRl hx hb hr hlocks hK hP hD hS (fun _ h => h) dX9_fused_53
      · intro J_12 H locs ls ho hP hD hS hl
        subst o_12
        have hf := (if_neg (show ¬ (1 = 0) by decide)).symm.trans hf
        refine lv_aload_n hx hb dX9_fused_71 rfl (lv_at hl 0 rfl) ?_
        refine va_get (D := (dC, dI)) (ci := 8) (v := .ref (ad 7)) (C := RX9) (T := TX9) (N := 15) hx hb hts in_X9 hown hK hP 13 (obM_13 ad cI cJ I J_12) rfl 9 (by decide) wd_3 (fun _ h9 => h9) rfl dX9_fused_72 ?_
        refine lv_iload_n hx hb dX9_fused_75 rfl (lv_at hl 1 rfl) ?_
        obtain ⟨h_13, hf⟩ := gd_some hf
        refine x_lald hx hb hK (aiM_7 ad cI cJ) hP h_13 dX9_fused_76 ?_
        cases hf
        exact xRl hx hb hr hlocks hK hP hD hS (fun _ h => h) dX9_fused_77
    · have hf := (if_pos c_10).symm.trans hf
      refine lv_ldc2 (v := (-2 : Int64)) hx hb hown wd_2 dX9_fused_16 ?_
      cases hf
      exact xRl hx hb hr hlocks hK hP hD hS (fun _ h => h) dX9_fused_19
