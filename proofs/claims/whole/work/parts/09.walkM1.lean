set_option maxHeartbeats 4000000 in
set_option maxRecDepth 100000 in
theorem c_X9_isRight (l : Launch) (dC : Nat → ClassId) (dI : Nat → Nat → Nat) (ad : Nat → Nat) (cI cJ cT : ClassId) (p1 : Int32) (I : SI) (J : SJ) {r0 : Int32} {I0 : SI} (hf : f_X9_isRight p1 I = some (r0, I0)) : CtI l yX9_isRight wsX9_isRight ({ frames := 2, cells := 0, slots := 0, locals := 54 } : Room) (dC, dI) (tys3 cI cJ cT) (wM ad cI cJ) [.ref (ad 13), .int p1] I J r0 I0 J := by
  intro sz
  refine Met.ofW (cc := cX9_isRight) (maxL := 4) (ret := (some .boolean)) (by decide) rfl ?_
  intro p e s m args below meth c s₁ B hml hv
  obtain ⟨hargs, hsz, hP, hK, hD0⟩ := hv
  have hx := B.exec
  have hb := B.bytes
  have hr := B.returns
  have hts := atoms_spec (ws := wsX9_isRight) B.pre
  have hown : s.vm.findClass RX9 = some m.cls := findClass_of_methodNamed B.named
  have hlocks := B.notSynchronized
  subst hsz
  have hD := hD0.self (sz := s.heap.size)
  generalize hAe : va_A ((wM ad cI cJ) I J) s.heap.size = A at hD ⊢
  have hA : ∀ q : Nat, s.heap.size ≤ q → A q := fun q h => by rw [← hAe]; exact Or.inr h
  have hS : va_S A s.heap s.heap [] := va_S.rf
  have hl := lv_entry ([.ref (ad 13), .int p1]) (n := 4) (Nat.le_of_ble_eq_true rfl)
  rw [hargs, lg_entry_eq, ← hargs]
  generalize (lg_sl ([.ref (ad 13), .int p1]) ++ List.replicate (4 - (lg_sl ([.ref (ad 13), .int p1])).length) Slot.unset).toArray = ls at hl ⊢
  have hl : lv_has ls 4 [(0, .ref (ad 13)), (1, .int p1)] := hl
  have hfix : CallFix p m c cX9_isRight 4 s args wsX9_isRight RX9 := ⟨hx, hb, hml, hown, hts⟩
  unfold f_X9_isRight at hf
  refine lv_aload_n hx hb dX9_isRight_0 rfl (lv_at hl 0 rfl) ?_
  refine lv_iload_n hx hb dX9_isRight_1 rfl (lv_at hl 1 rfl) ?_
  obtain ⟨⟨r_1, I_1⟩, hg_1, hf⟩ := bd_some hf
  refine xVi (rest := []) (c_X9_breaksUnit l dC dI ad cI cJ cT p1 I J hg_1) hfix (cwV 1 hts gX9_isRight_X9_breaksUnit rfl rfl rfl (by decide +kernel) ⟨Nat.le_of_ble_eq_true rfl, Nat.le_of_ble_eq_true rfl⟩) hK hP hD hS hA (va_recv hK hP (ci := 8) (q0 := 13) rfl (obM_13 ad cI cJ I J)) rfl hl.1 rfl (Nat.le_of_ble_eq_true rfl) ⟨Nat.zero_le _, Nat.zero_le _⟩ dX9_isRight_2 (fun H locs hP hD hS => ?_)
  refine lv_if_ne (tgt := 42) hx hb dX9_isRight_5 (by decide) (fun c_2 => ?_) (fun c_2 => ?_)
  · have hf := (if_neg c_2).symm.trans hf
    refine lv_iconst (v := (1 : Int32)) hx hb dX9_isRight_42 (by decide) ?_
    refine lv_goto (tgt := 47) hx hb dX9_isRight_43 (by decide) ?_
    refine lv_istore_n (lv' := [(2, .int (1 : Int32)), (0, .ref (ad 13)), (1, .int p1)]) hx hb dX9_isRight_47 rfl hl (by decide) rfl (fun ls hl => ?_)
    refine lv_iload_n hx hb dX9_isRight_48 rfl (lv_at hl 0 rfl) ?_
    refine lv_if_ne (tgt := 62) hx hb dX9_isRight_49 (by decide) (fun c_3 => ?_) (fun c_3 => ?_)
    · have hf := (if_neg c_3).symm.trans hf
      refine lv_iload_n hx hb dX9_isRight_62 rfl (lv_at hl 0 rfl) ?_
      refine lv_if_ne (tgt := 70) hx hb dX9_isRight_63 (by decide) (fun c_4 => ?_) (fun c_4 => ?_)
      · have hf := (if_neg c_4).symm.trans hf
        refine lv_iconst (v := (0 : Int32)) hx hb dX9_isRight_70 (by decide) ?_
        cases hf
        exact xRz hx hb hr hlocks rfl hK hP hD hS (fun _ h => h) dX9_isRight_71
      · have hf := (if_pos c_4).symm.trans hf
        refine lv_iconst (v := (1 : Int32)) hx hb dX9_isRight_66 (by decide) ?_
        refine lv_goto (tgt := 71) hx hb dX9_isRight_67 (by decide) ?_
        cases hf
        exact xRz hx hb hr hlocks rfl hK hP hD hS (fun _ h => h) dX9_isRight_71
    · have hf := (if_pos c_3).symm.trans hf
      refine lv_aload_n hx hb dX9_isRight_52 rfl (lv_at hl 1 rfl) ?_
      refine lv_iconst (v := (0 : Int32)) hx hb dX9_isRight_53 (by decide) ?_
      refine lv_iconst (v := (-1 : Int32)) hx hb dX9_isRight_54 (by decide) ?_
      refine lv_iconst (v := (-1 : Int32)) hx hb dX9_isRight_55 (by decide) ?_
      refine lv_iconst (v := (-1 : Int32)) hx hb dX9_isRight_56 (by decide) ?_
      refine lv_iconst (v := (-1 : Int32)) hx hb dX9_isRight_57 (by decide) ?_
      obtain ⟨⟨r_5, I_5⟩, hg_5, hf⟩ := bd_some hf
      refine xVi (rest := []) (c_X9_tell l dC dI ad cI cJ cT (0 : Int32) (-1 : Int32) (-1 : Int32) (-1 : Int32) (-1 : Int32) I_1 J hg_5) hfix (cwV 5 hts gX9_isRight_X9_tell rfl rfl rfl (by decide +kernel) ⟨Nat.le_of_ble_eq_true rfl, Nat.le_of_ble_eq_true rfl⟩) hK hP hD hS hA (va_recv hK hP (ci := 8) (q0 := 13) rfl (obM_13 ad cI cJ I_1 J)) rfl hl.1 rfl (Nat.le_of_ble_eq_true rfl) ⟨Nat.zero_le _, Nat.zero_le _⟩ dX9_isRight_58 (fun H locs hP hD hS => ?_)
      refine lv_istore_n (lv' := [(3, .int r_5), (2, .int (1 : Int32)), (0, .ref (ad 13)), (1, .int p1)]) hx hb dX9_isRight_61 rfl hl (by decide) rfl (fun ls hl => ?_)
      refine lv_iload_n hx hb dX9_isRight_62 rfl (lv_at hl 1 rfl) ?_
      refine lv_if_ne (tgt := 70) hx hb dX9_isRight_63 (by decide) (fun c_6 => ?_) (fun c_6 => ?_)
      · have hf := (if_neg c_6).symm.trans hf
        refine lv_iconst (v := (0 : Int32)) hx hb dX9_isRight_70 (by decide) ?_
        cases hf
        exact xRz hx hb hr hlocks rfl hK hP hD hS (fun _ h => h) dX9_isRight_71
      · have hf := (if_pos c_6).symm.trans hf
        refine lv_iconst (v := (1 : Int32)) hx hb dX9_isRight_66 (by decide) ?_
        refine lv_goto (tgt := 71) hx hb dX9_isRight_67 (by decide) ?_
        cases hf
        exact xRz hx hb hr hlocks rfl hK hP hD hS (fun _ h => h) dX9_isRight_71
  · have hf := (if_pos c_2).symm.trans hf
    refine lv_aload_n hx hb dX9_isRight_8 rfl (lv_at hl 0 rfl) ?_
    refine lv_iload_n hx hb dX9_isRight_9 rfl (lv_at hl 1 rfl) ?_
    refine lv_iconst (v := (2 : Int32)) hx hb dX9_isRight_10 (by decide) ?_
    obtain ⟨⟨r_7, I_7⟩, hg_7, hf⟩ := bd_some hf
    refine xVi (rest := []) (c_X9_breaksThree l dC dI ad cI cJ cT p1 (2 : Int32) I_1 J hg_7) hfix (cwV 2 hts gX9_isRight_X9_breaksThree rfl rfl rfl (by decide +kernel) ⟨Nat.le_of_ble_eq_true rfl, Nat.le_of_ble_eq_true rfl⟩) hK hP hD hS hA (va_recv hK hP (ci := 8) (q0 := 13) rfl (obM_13 ad cI cJ I_1 J)) rfl hl.1 rfl (Nat.le_of_ble_eq_true rfl) ⟨Nat.zero_le _, Nat.zero_le _⟩ dX9_isRight_11 (fun H locs hP hD hS => ?_)
    refine lv_if_ne (tgt := 42) hx hb dX9_isRight_14 (by decide) (fun c_8 => ?_) (fun c_8 => ?_)
    · have hf := (if_neg c_8).symm.trans hf
      refine lv_iconst (v := (1 : Int32)) hx hb dX9_isRight_42 (by decide) ?_
      refine lv_goto (tgt := 47) hx hb dX9_isRight_43 (by decide) ?_
      refine lv_istore_n (lv' := [(2, .int (1 : Int32)), (0, .ref (ad 13)), (1, .int p1)]) hx hb dX9_isRight_47 rfl hl (by decide) rfl (fun ls hl => ?_)
      refine lv_iload_n hx hb dX9_isRight_48 rfl (lv_at hl 0 rfl) ?_
      refine lv_if_ne (tgt := 62) hx hb dX9_isRight_49 (by decide) (fun c_9 => ?_) (fun c_9 => ?_)
      · have hf := (if_neg c_9).symm.trans hf
        refine lv_iload_n hx hb dX9_isRight_62 rfl (lv_at hl 0 rfl) ?_
        refine lv_if_ne (tgt := 70) hx hb dX9_isRight_63 (by decide) (fun c_10 => ?_) (fun c_10 => ?_)
        · have hf := (if_neg c_10).symm.trans hf
          refine lv_iconst (v := (0 : Int32)) hx hb dX9_isRight_70 (by decide) ?_
          cases hf
          exact xRz hx hb hr hlocks rfl hK hP hD hS (fun _ h => h) dX9_isRight_71
        · have hf := (if_pos c_10).symm.trans hf
          refine lv_iconst (v := (1 : Int32)) hx hb dX9_isRight_66 (by decide) ?_
          refine lv_goto (tgt := 71) hx hb dX9_isRight_67 (by decide) ?_
          cases hf
          exact xRz hx hb hr hlocks rfl hK hP hD hS (fun _ h => h) dX9_isRight_71
      · have hf := (if_pos c_9).symm.trans hf
        refine lv_aload_n hx hb dX9_isRight_52 rfl (lv_at hl 1 rfl) ?_
        refine lv_iconst (v := (0 : Int32)) hx hb dX9_isRight_53 (by decide) ?_
        refine lv_iconst (v := (-1 : Int32)) hx hb dX9_isRight_54 (by decide) ?_
        refine lv_iconst (v := (-1 : Int32)) hx hb dX9_isRight_55 (by decide) ?_
        refine lv_iconst (v := (-1 : Int32)) hx hb dX9_isRight_56 (by decide) ?_
        refine lv_iconst (v := (-1 : Int32)) hx hb dX9_isRight_57 (by decide) ?_
        obtain ⟨⟨r_11, I_11⟩, hg_11, hf⟩ := bd_some hf
        refine xVi (rest := []) (c_X9_tell l dC dI ad cI cJ cT (0 : Int32) (-1 : Int32) (-1 : Int32) (-1 : Int32) (-1 : Int32) I_7 J hg_11) hfix (cwV 5 hts gX9_isRight_X9_tell rfl rfl rfl (by decide +kernel) ⟨Nat.le_of_ble_eq_true rfl, Nat.le_of_ble_eq_true rfl⟩) hK hP hD hS hA (va_recv hK hP (ci := 8) (q0 := 13) rfl (obM_13 ad cI cJ I_7 J)) rfl hl.1 rfl (Nat.le_of_ble_eq_true rfl) ⟨Nat.zero_le _, Nat.zero_le _⟩ dX9_isRight_58 (fun H locs hP hD hS => ?_)
        refine lv_istore_n (lv' := [(3, .int r_11), (2, .int (1 : Int32)), (0, .ref (ad 13)), (1, .int p1)]) hx hb dX9_isRight_61 rfl hl (by decide) rfl (fun ls hl => ?_)
        refine lv_iload_n hx hb dX9_isRight_62 rfl (lv_at hl 1 rfl) ?_
        refine lv_if_ne (tgt := 70) hx hb dX9_isRight_63 (by decide) (fun c_12 => ?_) (fun c_12 => ?_)
        · have hf := (if_neg c_12).symm.trans hf
          refine lv_iconst (v := (0 : Int32)) hx hb dX9_isRight_70 (by decide) ?_
          cases hf
          exact xRz hx hb hr hlocks rfl hK hP hD hS (fun _ h => h) dX9_isRight_71
        · have hf := (if_pos c_12).symm.trans hf
          refine lv_iconst (v := (1 : Int32)) hx hb dX9_isRight_66 (by decide) ?_
          refine lv_goto (tgt := 71) hx hb dX9_isRight_67 (by decide) ?_
          cases hf
          exact xRz hx hb hr hlocks rfl hK hP hD hS (fun _ h => h) dX9_isRight_71
    · have hf := (if_pos c_8).symm.trans hf
      refine lv_aload_n hx hb dX9_isRight_17 rfl (lv_at hl 0 rfl) ?_
      refine lv_iload_n hx hb dX9_isRight_18 rfl (lv_at hl 1 rfl) ?_
      obtain ⟨⟨r_13, I_13⟩, hg_13, hf⟩ := bd_some hf
      refine xVi (rest := []) (c_X9_breaksPartners l dC dI ad cI cJ cT p1 I_7 J hg_13) hfix (cwV 1 hts gX9_isRight_X9_breaksPartners rfl rfl rfl (by decide +kernel) ⟨Nat.le_of_ble_eq_true rfl, Nat.le_of_ble_eq_true rfl⟩) hK hP hD hS hA (va_recv hK hP (ci := 8) (q0 := 13) rfl (obM_13 ad cI cJ I_7 J)) rfl hl.1 rfl (Nat.le_of_ble_eq_true rfl) ⟨Nat.zero_le _, Nat.zero_le _⟩ dX9_isRight_19 (fun H locs hP hD hS => ?_)
      refine lv_if_ne (tgt := 42) hx hb dX9_isRight_22 (by decide) (fun c_14 => ?_) (fun c_14 => ?_)
      · have hf := (if_neg c_14).symm.trans hf
        refine lv_iconst (v := (1 : Int32)) hx hb dX9_isRight_42 (by decide) ?_
        refine lv_goto (tgt := 47) hx hb dX9_isRight_43 (by decide) ?_
        refine lv_istore_n (lv' := [(2, .int (1 : Int32)), (0, .ref (ad 13)), (1, .int p1)]) hx hb dX9_isRight_47 rfl hl (by decide) rfl (fun ls hl => ?_)
        refine lv_iload_n hx hb dX9_isRight_48 rfl (lv_at hl 0 rfl) ?_
        refine lv_if_ne (tgt := 62) hx hb dX9_isRight_49 (by decide) (fun c_15 => ?_) (fun c_15 => ?_)
        · have hf := (if_neg c_15).symm.trans hf
          refine lv_iload_n hx hb dX9_isRight_62 rfl (lv_at hl 0 rfl) ?_
          refine lv_if_ne (tgt := 70) hx hb dX9_isRight_63 (by decide) (fun c_16 => ?_) (fun c_16 => ?_)
          · have hf := (if_neg c_16).symm.trans hf
            refine lv_iconst (v := (0 : Int32)) hx hb dX9_isRight_70 (by decide) ?_
            cases hf
            exact xRz hx hb hr hlocks rfl hK hP hD hS (fun _ h => h) dX9_isRight_71
          · have hf := (if_pos c_16).symm.trans hf
            refine lv_iconst (v := (1 : Int32)) hx hb dX9_isRight_66 (by decide) ?_
            refine lv_goto (tgt := 71) hx hb dX9_isRight_67 (by decide) ?_
            cases hf
            exact xRz hx hb hr hlocks rfl hK hP hD hS (fun _ h => h) dX9_isRight_71
        · have hf := (if_pos c_15).symm.trans hf
          refine lv_aload_n hx hb dX9_isRight_52 rfl (lv_at hl 1 rfl) ?_
          refine lv_iconst (v := (0 : Int32)) hx hb dX9_isRight_53 (by decide) ?_
          refine lv_iconst (v := (-1 : Int32)) hx hb dX9_isRight_54 (by decide) ?_
          refine lv_iconst (v := (-1 : Int32)) hx hb dX9_isRight_55 (by decide) ?_
          refine lv_iconst (v := (-1 : Int32)) hx hb dX9_isRight_56 (by decide) ?_
          refine lv_iconst (v := (-1 : Int32)) hx hb dX9_isRight_57 (by decide) ?_
          obtain ⟨⟨r_17, I_17⟩, hg_17, hf⟩ := bd_some hf
          refine xVi (rest := []) (c_X9_tell l dC dI ad cI cJ cT (0 : Int32) (-1 : Int32) (-1 : Int32) (-1 : Int32) (-1 : Int32) I_13 J hg_17) hfix (cwV 5 hts gX9_isRight_X9_tell rfl rfl rfl (by decide +kernel) ⟨Nat.le_of_ble_eq_true rfl, Nat.le_of_ble_eq_true rfl⟩) hK hP hD hS hA (va_recv hK hP (ci := 8) (q0 := 13) rfl (obM_13 ad cI cJ I_13 J)) rfl hl.1 rfl (Nat.le_of_ble_eq_true rfl) ⟨Nat.zero_le _, Nat.zero_le _⟩ dX9_isRight_58 (fun H locs hP hD hS => ?_)
          refine lv_istore_n (lv' := [(3, .int r_17), (2, .int (1 : Int32)), (0, .ref (ad 13)), (1, .int p1)]) hx hb dX9_isRight_61 rfl hl (by decide) rfl (fun ls hl => ?_)
          refine lv_iload_n hx hb dX9_isRight_62 rfl (lv_at hl 1 rfl) ?_
          refine lv_if_ne (tgt := 70) hx hb dX9_isRight_63 (by decide) (fun c_18 => ?_) (fun c_18 => ?_)
          · have hf := (if_neg c_18).symm.trans hf
            refine lv_iconst (v := (0 : Int32)) hx hb dX9_isRight_70 (by decide) ?_
            cases hf
            exact xRz hx hb hr hlocks rfl hK hP hD hS (fun _ h => h) dX9_isRight_71
          · have hf := (if_pos c_18).symm.trans hf
            refine lv_iconst (v := (1 : Int32)) hx hb dX9_isRight_66 (by decide) ?_
            refine lv_goto (tgt := 71) hx hb dX9_isRight_67 (by decide) ?_
            cases hf
            exact xRz hx hb hr hlocks rfl hK hP hD hS (fun _ h => h) dX9_isRight_71
      · have hf := (if_pos c_14).symm.trans hf
        refine lv_aload_n hx hb dX9_isRight_25 rfl (lv_at hl 0 rfl) ?_
        refine lv_iload_n hx hb dX9_isRight_26 rfl (lv_at hl 1 rfl) ?_
        refine lv_iconst (v := (4 : Int32)) hx hb dX9_isRight_27 (by decide) ?_
        obtain ⟨⟨r_19, I_19⟩, hg_19, hf⟩ := bd_some hf
        refine xVi (rest := []) (c_X9_breaksThree l dC dI ad cI cJ cT p1 (4 : Int32) I_13 J hg_19) hfix (cwV 2 hts gX9_isRight_X9_breaksThree rfl rfl rfl (by decide +kernel) ⟨Nat.le_of_ble_eq_true rfl, Nat.le_of_ble_eq_true rfl⟩) hK hP hD hS hA (va_recv hK hP (ci := 8) (q0 := 13) rfl (obM_13 ad cI cJ I_13 J)) rfl hl.1 rfl (Nat.le_of_ble_eq_true rfl) ⟨Nat.zero_le _, Nat.zero_le _⟩ dX9_isRight_28 (fun H locs hP hD hS => ?_)
        refine lv_if_ne (tgt := 42) hx hb dX9_isRight_31 (by decide) (fun c_20 => ?_) (fun c_20 => ?_)
        · have hf := (if_neg c_20).symm.trans hf
          refine lv_iconst (v := (1 : Int32)) hx hb dX9_isRight_42 (by decide) ?_
          refine lv_goto (tgt := 47) hx hb dX9_isRight_43 (by decide) ?_
          refine lv_istore_n (lv' := [(2, .int (1 : Int32)), (0, .ref (ad 13)), (1, .int p1)]) hx hb dX9_isRight_47 rfl hl (by decide) rfl (fun ls hl => ?_)
          refine lv_iload_n hx hb dX9_isRight_48 rfl (lv_at hl 0 rfl) ?_
          refine lv_if_ne (tgt := 62) hx hb dX9_isRight_49 (by decide) (fun c_21 => ?_) (fun c_21 => ?_)
          · have hf := (if_neg c_21).symm.trans hf
            refine lv_iload_n hx hb dX9_isRight_62 rfl (lv_at hl 0 rfl) ?_
            refine lv_if_ne (tgt := 70) hx hb dX9_isRight_63 (by decide) (fun c_22 => ?_) (fun c_22 => ?_)
            · have hf := (if_neg c_22).symm.trans hf
              refine lv_iconst (v := (0 : Int32)) hx hb dX9_isRight_70 (by decide) ?_
              cases hf
              exact xRz hx hb hr hlocks rfl hK hP hD hS (fun _ h => h) dX9_isRight_71
            · have hf := (if_pos c_22).symm.trans hf
              refine lv_iconst (v := (1 : Int32)) hx hb dX9_isRight_66 (by decide) ?_
              refine lv_goto (tgt := 71) hx hb dX9_isRight_67 (by decide) ?_
              cases hf
              exact xRz hx hb hr hlocks rfl hK hP hD hS (fun _ h => h) dX9_isRight_71
          · have hf := (if_pos c_21).symm.trans hf
            refine lv_aload_n hx hb dX9_isRight_52 rfl (lv_at hl 1 rfl) ?_
            refine lv_iconst (v := (0 : Int32)) hx hb dX9_isRight_53 (by decide) ?_
            refine lv_iconst (v := (-1 : Int32)) hx hb dX9_isRight_54 (by decide) ?_
            refine lv_iconst (v := (-1 : Int32)) hx hb dX9_isRight_55 (by decide) ?_
            refine lv_iconst (v := (-1 : Int32)) hx hb dX9_isRight_56 (by decide) ?_
            refine lv_iconst (v := (-1 : Int32)) hx hb dX9_isRight_57 (by decide) ?_
            obtain ⟨⟨r_23, I_23⟩, hg_23, hf⟩ := bd_some hf
            refine xVi (rest := []) (c_X9_tell l dC dI ad cI cJ cT (0 : Int32) (-1 : Int32) (-1 : Int32) (-1 : Int32) (-1 : Int32) I_19 J hg_23) hfix (cwV 5 hts gX9_isRight_X9_tell rfl rfl rfl (by decide +kernel) ⟨Nat.le_of_ble_eq_true rfl, Nat.le_of_ble_eq_true rfl⟩) hK hP hD hS hA (va_recv hK hP (ci := 8) (q0 := 13) rfl (obM_13 ad cI cJ I_19 J)) rfl hl.1 rfl (Nat.le_of_ble_eq_true rfl) ⟨Nat.zero_le _, Nat.zero_le _⟩ dX9_isRight_58 (fun H locs hP hD hS => ?_)
            refine lv_istore_n (lv' := [(3, .int r_23), (2, .int (1 : Int32)), (0, .ref (ad 13)), (1, .int p1)]) hx hb dX9_isRight_61 rfl hl (by decide) rfl (fun ls hl => ?_)
            refine lv_iload_n hx hb dX9_isRight_62 rfl (lv_at hl 1 rfl) ?_
            refine lv_if_ne (tgt := 70) hx hb dX9_isRight_63 (by decide) (fun c_24 => ?_) (fun c_24 => ?_)
            · have hf := (if_neg c_24).symm.trans hf
              refine lv_iconst (v := (0 : Int32)) hx hb dX9_isRight_70 (by decide) ?_
              cases hf
              exact xRz hx hb hr hlocks rfl hK hP hD hS (fun _ h => h) dX9_isRight_71
            · have hf := (if_pos c_24).symm.trans hf
              refine lv_iconst (v := (1 : Int32)) hx hb dX9_isRight_66 (by decide) ?_
              refine lv_goto (tgt := 71) hx hb dX9_isRight_67 (by decide) ?_
              cases hf
              exact xRz hx hb hr hlocks rfl hK hP hD hS (fun _ h => h) dX9_isRight_71
        · have hf := (if_pos c_20).symm.trans hf
          refine lv_aload_n hx hb dX9_isRight_34 rfl (lv_at hl 0 rfl) ?_
          refine lv_iload_n hx hb dX9_isRight_35 rfl (lv_at hl 1 rfl) ?_
          obtain ⟨⟨r_25, I_25⟩, hg_25, hf⟩ := bd_some hf
          refine xVi (rest := []) (c_X9_breaksSums l dC dI ad cI cJ cT p1 I_19 J hg_25) hfix (cwV 1 hts gX9_isRight_X9_breaksSums rfl rfl rfl (by decide +kernel) ⟨Nat.le_of_ble_eq_true rfl, Nat.le_of_ble_eq_true rfl⟩) hK hP hD hS hA (va_recv hK hP (ci := 8) (q0 := 13) rfl (obM_13 ad cI cJ I_19 J)) rfl hl.1 rfl (Nat.le_of_ble_eq_true rfl) ⟨Nat.zero_le _, Nat.zero_le _⟩ dX9_isRight_36 (fun H locs hP hD hS => ?_)
          refine lv_if_eq (tgt := 46) hx hb dX9_isRight_39 (by decide) (fun c_26 => ?_) (fun c_26 => ?_)
          · have hf := (if_pos c_26).symm.trans hf
            refine lv_iconst (v := (0 : Int32)) hx hb dX9_isRight_46 (by decide) ?_
            refine lv_istore_n (lv' := [(2, .int (0 : Int32)), (0, .ref (ad 13)), (1, .int p1)]) hx hb dX9_isRight_47 rfl hl (by decide) rfl (fun ls hl => ?_)
            refine lv_iload_n hx hb dX9_isRight_48 rfl (lv_at hl 0 rfl) ?_
            refine lv_if_ne (tgt := 62) hx hb dX9_isRight_49 (by decide) (fun c_27 => ?_) (fun c_27 => ?_)
            · have hf := (if_neg c_27).symm.trans hf
              refine lv_iload_n hx hb dX9_isRight_62 rfl (lv_at hl 0 rfl) ?_
              refine lv_if_ne (tgt := 70) hx hb dX9_isRight_63 (by decide) (fun c_28 => ?_) (fun c_28 => ?_)
              · have hf := (if_neg c_28).symm.trans hf
                refine lv_iconst (v := (0 : Int32)) hx hb dX9_isRight_70 (by decide) ?_
                cases hf
                exact xRz hx hb hr hlocks rfl hK hP hD hS (fun _ h => h) dX9_isRight_71
              · have hf := (if_pos c_28).symm.trans hf
                refine lv_iconst (v := (1 : Int32)) hx hb dX9_isRight_66 (by decide) ?_
                refine lv_goto (tgt := 71) hx hb dX9_isRight_67 (by decide) ?_
                cases hf
                exact xRz hx hb hr hlocks rfl hK hP hD hS (fun _ h => h) dX9_isRight_71
            · have hf := (if_pos c_27).symm.trans hf
              refine lv_aload_n hx hb dX9_isRight_52 rfl (lv_at hl 1 rfl) ?_
              refine lv_iconst (v := (0 : Int32)) hx hb dX9_isRight_53 (by decide) ?_
              refine lv_iconst (v := (-1 : Int32)) hx hb dX9_isRight_54 (by decide) ?_
              refine lv_iconst (v := (-1 : Int32)) hx hb dX9_isRight_55 (by decide) ?_
              refine lv_iconst (v := (-1 : Int32)) hx hb dX9_isRight_56 (by decide) ?_
              refine lv_iconst (v := (-1 : Int32)) hx hb dX9_isRight_57 (by decide) ?_
              obtain ⟨⟨r_29, I_29⟩, hg_29, hf⟩ := bd_some hf
              refine xVi (rest := []) (c_X9_tell l dC dI ad cI cJ cT (0 : Int32) (-1 : Int32) (-1 : Int32) (-1 : Int32) (-1 : Int32) I_25 J hg_29) hfix (cwV 5 hts gX9_isRight_X9_tell rfl rfl rfl (by decide +kernel) ⟨Nat.le_of_ble_eq_true rfl, Nat.le_of_ble_eq_true rfl⟩) hK hP hD hS hA (va_recv hK hP (ci := 8) (q0 := 13) rfl (obM_13 ad cI cJ I_25 J)) rfl hl.1 rfl (Nat.le_of_ble_eq_true rfl) ⟨Nat.zero_le _, Nat.zero_le _⟩ dX9_isRight_58 (fun H locs hP hD hS => ?_)
              refine lv_istore_n (lv' := [(3, .int r_29), (2, .int (0 : Int32)), (0, .ref (ad 13)), (1, .int p1)]) hx hb dX9_isRight_61 rfl hl (by decide) rfl (fun ls hl => ?_)
              refine lv_iload_n hx hb dX9_isRight_62 rfl (lv_at hl 1 rfl) ?_
              refine lv_if_ne (tgt := 70) hx hb dX9_isRight_63 (by decide) (fun c_30 => ?_) (fun c_30 => ?_)
              · have hf := (if_neg c_30).symm.trans hf
                refine lv_iconst (v := (0 : Int32)) hx hb dX9_isRight_70 (by decide) ?_
                cases hf
                exact xRz hx hb hr hlocks rfl hK hP hD hS (fun _ h => h) dX9_isRight_71
              · have hf := (if_pos c_30).symm.trans hf
                refine lv_iconst (v := (1 : Int32)) hx hb dX9_isRight_66 (by decide) ?_
                refine lv_goto (tgt := 71) hx hb dX9_isRight_67 (by decide) ?_
                cases hf
                exact xRz hx hb hr hlocks rfl hK hP hD hS (fun _ h => h) dX9_isRight_71
          · have hf := (if_neg c_26).symm.trans hf
            refine lv_iconst (v := (1 : Int32)) hx hb dX9_isRight_42 (by decide) ?_
            refine lv_goto (tgt := 47) hx hb dX9_isRight_43 (by decide) ?_
            refine lv_istore_n (lv' := [(2, .int (1 : Int32)), (0, .ref (ad 13)), (1, .int p1)]) hx hb dX9_isRight_47 rfl hl (by decide) rfl (fun ls hl => ?_)
            refine lv_iload_n hx hb dX9_isRight_48 rfl (lv_at hl 0 rfl) ?_
            refine lv_if_ne (tgt := 62) hx hb dX9_isRight_49 (by decide) (fun c_31 => ?_) (fun c_31 => ?_)
            · have hf := (if_neg c_31).symm.trans hf
              refine lv_iload_n hx hb dX9_isRight_62 rfl (lv_at hl 0 rfl) ?_
              refine lv_if_ne (tgt := 70) hx hb dX9_isRight_63 (by decide) (fun c_32 => ?_) (fun c_32 => ?_)
              · have hf := (if_neg c_32).symm.trans hf
                refine lv_iconst (v := (0 : Int32)) hx hb dX9_isRight_70 (by decide) ?_
                cases hf
                exact xRz hx hb hr hlocks rfl hK hP hD hS (fun _ h => h) dX9_isRight_71
              · have hf := (if_pos c_32).symm.trans hf
                refine lv_iconst (v := (1 : Int32)) hx hb dX9_isRight_66 (by decide) ?_
                refine lv_goto (tgt := 71) hx hb dX9_isRight_67 (by decide) ?_
                cases hf
                exact xRz hx hb hr hlocks rfl hK hP hD hS (fun _ h => h) dX9_isRight_71
            · have hf := (if_pos c_31).symm.trans hf
              refine lv_aload_n hx hb dX9_isRight_52 rfl (lv_at hl 1 rfl) ?_
              refine lv_iconst (v := (0 : Int32)) hx hb dX9_isRight_53 (by decide) ?_
              refine lv_iconst (v := (-1 : Int32)) hx hb dX9_isRight_54 (by decide) ?_
              refine lv_iconst (v := (-1 : Int32)) hx hb dX9_isRight_55 (by decide) ?_
              refine lv_iconst (v := (-1 : Int32)) hx hb dX9_isRight_56 (by decide) ?_
              refine lv_iconst (v := (-1 : Int32)) hx hb dX9_isRight_57 (by decide) ?_
              obtain ⟨⟨r_33, I_33⟩, hg_33, hf⟩ := bd_some hf
              refine xVi (rest := []) (c_X9_tell l dC dI ad cI cJ cT (0 : Int32) (-1 : Int32) (-1 : Int32) (-1 : Int32) (-1 : Int32) I_25 J hg_33) hfix (cwV 5 hts gX9_isRight_X9_tell rfl rfl rfl (by decide +kernel) ⟨Nat.le_of_ble_eq_true rfl, Nat.le_of_ble_eq_true rfl⟩) hK hP hD hS hA (va_recv hK hP (ci := 8) (q0 := 13) rfl (obM_13 ad cI cJ I_25 J)) rfl hl.1 rfl (Nat.le_of_ble_eq_true rfl) ⟨Nat.zero_le _, Nat.zero_le _⟩ dX9_isRight_58 (fun H locs hP hD hS => ?_)
              refine lv_istore_n (lv' := [(3, .int r_33), (2, .int (1 : Int32)), (0, .ref (ad 13)), (1, .int p1)]) hx hb dX9_isRight_61 rfl hl (by decide) rfl (fun ls hl => ?_)
              refine lv_iload_n hx hb dX9_isRight_62 rfl (lv_at hl 1 rfl) ?_
              refine lv_if_ne (tgt := 70) hx hb dX9_isRight_63 (by decide) (fun c_34 => ?_) (fun c_34 => ?_)
              · have hf := (if_neg c_34).symm.trans hf
                refine lv_iconst (v := (0 : Int32)) hx hb dX9_isRight_70 (by decide) ?_
                cases hf
                exact xRz hx hb hr hlocks rfl hK hP hD hS (fun _ h => h) dX9_isRight_71
              · have hf := (if_pos c_34).symm.trans hf
                refine lv_iconst (v := (1 : Int32)) hx hb dX9_isRight_66 (by decide) ?_
                refine lv_goto (tgt := 71) hx hb dX9_isRight_67 (by decide) ?_
                cases hf
                exact xRz hx hb hr hlocks rfl hK hP hD hS (fun _ h => h) dX9_isRight_71
set_option maxHeartbeats 4000000 in
set_option maxRecDepth 100000 in
theorem c_X9_fault (l : Launch) (dC : Nat → ClassId) (dI : Nat → Nat → Nat) (ad : Nat → Nat) (cI cJ cT : ClassId) (p1 : Int32) (p2 : Int32) (I : SI) (J : SJ) {r0 : Int32} {I0 : SI} (hf : f_X9_fault p1 p2 I = some (r0, I0)) : CtI l yX9_fault wsX9_fault ({ frames := 3, cells := 0, slots := 0, locals := 77 } : Room) (dC, dI) (tys3 cI cJ cT) (wM ad cI cJ) [.ref (ad 13), .int p1, .int p2] I J r0 I0 J := by
  intro sz
  refine Met.ofW (cc := cX9_fault) (maxL := 4) (ret := (some .int)) (by decide) rfl ?_
  intro p e s m args below meth c s₁ B hml hv
  obtain ⟨hargs, hsz, hP, hK, hD0⟩ := hv
  have hx := B.exec
  have hb := B.bytes
  have hr := B.returns
  have hts := atoms_spec (ws := wsX9_fault) B.pre
  have hown : s.vm.findClass RX9 = some m.cls := findClass_of_methodNamed B.named
  have hlocks := B.notSynchronized
  subst hsz
  have hD := hD0.self (sz := s.heap.size)
  generalize hAe : va_A ((wM ad cI cJ) I J) s.heap.size = A at hD ⊢
  have hA : ∀ q : Nat, s.heap.size ≤ q → A q := fun q h => by rw [← hAe]; exact Or.inr h
  have hS : va_S A s.heap s.heap [] := va_S.rf
  have hl := lv_entry ([.ref (ad 13), .int p1, .int p2]) (n := 4) (Nat.le_of_ble_eq_true rfl)
  rw [hargs, lg_entry_eq, ← hargs]
  generalize (lg_sl ([.ref (ad 13), .int p1, .int p2]) ++ List.replicate (4 - (lg_sl ([.ref (ad 13), .int p1, .int p2])).length) Slot.unset).toArray = ls at hl ⊢
  have hl : lv_has ls 4 [(0, .ref (ad 13)), (1, .int p1), (2, .int p2)] := hl
  have hfix : CallFix p m c cX9_fault 4 s args wsX9_fault RX9 := ⟨hx, hb, hml, hown, hts⟩
  have in_X9 : ∀ w ∈ u_ws RX9 TX9 15, w ∈ wsX9_fault := by decide +kernel
  have wd_0 := hts (.constantLong RX9 94 (4)) (by decide +kernel)
  have wd_1 := hts (.fieldLink RX9 16 "FuseBenchModel" "found" "[I") (by decide +kernel)
  unfold f_X9_fault at hf
  refine lv_iload_n hx hb dX9_fault_0 rfl (lv_at hl 1 rfl) ?_
  obtain ⟨r_1, hg_1, hf⟩ := bd_some hf
  refine xSi (rest := []) (c_X9_noTable l dC dI ad cI cJ cT p1 I J hg_1) hfix (va_cwS 1 hts gX9_fault_X9_noTable rfl rfl rfl (by decide +kernel) ⟨Nat.le_of_ble_eq_true rfl, Nat.le_of_ble_eq_true rfl⟩) hK hP hD hS hA rfl hl.1 rfl (Nat.le_of_ble_eq_true rfl) ⟨Nat.zero_le _, Nat.zero_le _⟩ dX9_fault_1 (fun H locs hP hD hS => ?_)
  refine lv_if_ne (tgt := 19) hx hb dX9_fault_4 (by decide) (fun c_2 => ?_) (fun c_2 => ?_)
  · have hf := (if_neg c_2).symm.trans hf
    refine lv_bipush (v := (-2 : Int32)) hx hb dX9_fault_19 (by decide) ?_
    cases hf
    exact xRi hx hb hr hlocks hK hP hD hS (fun _ h => h) dX9_fault_21
  · have hf := (if_pos c_2).symm.trans hf
    refine lv_iload_n hx hb dX9_fault_7 rfl (lv_at hl 2 rfl) ?_
    refine lv_i2l (v := p2.toInt64) hx hb dX9_fault_8 rfl ?_
    refine lv_lconst (v := (0 : Int64)) hx hb dX9_fault_9 (by decide) ?_
    refine lv_ldc2 (v := (4 : Int64)) hx hb hown wd_0 dX9_fault_10 ?_
    obtain ⟨r_3, hg_3, hf⟩ := bd_some hf
    refine xSi (rest := []) (c_X9_in l dC dI ad cI cJ cT (p2.toInt64) (0 : Int64) (4 : Int64) I J hg_3) hfix (va_cwS 3 hts gX9_fault_X9_in rfl rfl rfl (by decide +kernel) ⟨Nat.le_of_ble_eq_true rfl, Nat.le_of_ble_eq_true rfl⟩) hK hP hD hS hA rfl hl.1 rfl (Nat.le_of_ble_eq_true rfl) ⟨Nat.zero_le _, Nat.zero_le _⟩ dX9_fault_13 (fun H locs hP hD hS => ?_)
    refine lv_if_ne (tgt := 22) hx hb dX9_fault_16 (by decide) (fun c_4 => ?_) (fun c_4 => ?_)
    · have hf := (if_neg c_4).symm.trans hf
      refine lv_aload_n hx hb dX9_fault_22 rfl (lv_at hl 0 rfl) ?_
      refine lv_iload_n hx hb dX9_fault_23 rfl (lv_at hl 1 rfl) ?_
      obtain ⟨⟨r_5, I_5⟩, hg_5, hf⟩ := bd_some hf
      refine xVi (rest := []) (c_X9_isRight l dC dI ad cI cJ cT p1 I J hg_5) hfix (cwV 1 hts gX9_fault_X9_isRight rfl rfl rfl (by decide +kernel) ⟨Nat.le_of_ble_eq_true rfl, Nat.le_of_ble_eq_true rfl⟩) hK hP hD hS hA (va_recv hK hP (ci := 8) (q0 := 13) rfl (obM_13 ad cI cJ I J)) rfl hl.1 rfl (Nat.le_of_ble_eq_true rfl) ⟨Nat.zero_le _, Nat.zero_le _⟩ dX9_fault_24 (fun H locs hP hD hS => ?_)
      refine lv_istore_n (lv' := [(3, .int r_5), (0, .ref (ad 13)), (1, .int p1), (2, .int p2)]) hx hb dX9_fault_27 rfl hl (by decide) rfl (fun ls hl => ?_)
      refine lv_aload_n hx hb dX9_fault_28 rfl (lv_at hl 1 rfl) ?_
      refine va_get (D := (dC, dI)) (ci := 8) (v := .ref (ad 2)) (C := RX9) (T := TX9) (N := 15) hx hb hts in_X9 hown hK hP 13 (obM_13 ad cI cJ I_5 J) rfl 2 (by decide) wd_1 (fun _ h9 => h9) rfl dX9_fault_29 ?_
      refine lv_iload_n hx hb dX9_fault_32 rfl (lv_at hl 3 rfl) ?_
      obtain ⟨h_6, hf⟩ := gd_some hf
      refine x_iald hx hb hK (aiM_2 ad cI cJ) hP h_6 dX9_fault_33 ?_
      cases hf
      exact xRi hx hb hr hlocks hK hP hD hS (fun _ h => h) dX9_fault_34
    · have hf := (if_pos c_4).symm.trans hf
      refine lv_bipush (v := (-2 : Int32)) hx hb dX9_fault_19 (by decide) ?_
      cases hf
      exact xRi hx hb hr hlocks hK hP hD hS (fun _ h => h) dX9_fault_21
set_option maxHeartbeats 4000000 in
set_option maxRecDepth 100000 in
theorem c_X9_partner (l : Launch) (dC : Nat → ClassId) (dI : Nat → Nat → Nat) (ad : Nat → Nat) (cI cJ cT : ClassId) (p1 : Int32) (p2 : Int32) (I : SI) (J : SJ) {r0 : Int32} {I0 : SI} (hf : f_X9_partner p1 p2 I = some (r0, I0)) : CtI l yX9_partner wsX9_partner ({ frames := 3, cells := 0, slots := 0, locals := 77 } : Room) (dC, dI) (tys3 cI cJ cT) (wM ad cI cJ) [.ref (ad 13), .int p1, .int p2] I J r0 I0 J := by
  intro sz
  refine Met.ofW (cc := cX9_partner) (maxL := 3) (ret := (some .int)) (by decide) rfl ?_
  intro p e s m args below meth c s₁ B hml hv
  obtain ⟨hargs, hsz, hP, hK, hD0⟩ := hv
  have hx := B.exec
  have hb := B.bytes
  have hr := B.returns
  have hts := atoms_spec (ws := wsX9_partner) B.pre
  have hown : s.vm.findClass RX9 = some m.cls := findClass_of_methodNamed B.named
  have hlocks := B.notSynchronized
  subst hsz
  have hD := hD0.self (sz := s.heap.size)
  generalize hAe : va_A ((wM ad cI cJ) I J) s.heap.size = A at hD ⊢
  have hA : ∀ q : Nat, s.heap.size ≤ q → A q := fun q h => by rw [← hAe]; exact Or.inr h
  have hS : va_S A s.heap s.heap [] := va_S.rf
  have hl := lv_entry ([.ref (ad 13), .int p1, .int p2]) (n := 3) (Nat.le_of_ble_eq_true rfl)
  rw [hargs, lg_entry_eq, ← hargs]
  generalize (lg_sl ([.ref (ad 13), .int p1, .int p2]) ++ List.replicate (3 - (lg_sl ([.ref (ad 13), .int p1, .int p2])).length) Slot.unset).toArray = ls at hl ⊢
  have hl : lv_has ls 3 [(0, .ref (ad 13)), (1, .int p1), (2, .int p2)] := hl
  have hfix : CallFix p m c cX9_partner 3 s args wsX9_partner RX9 := ⟨hx, hb, hml, hown, hts⟩
  have in_X9 : ∀ w ∈ u_ws RX9 TX9 15, w ∈ wsX9_partner := by decide +kernel
  have wd_0 := hts (.fieldLink RX9 19 "FuseBenchModel" "partners" "[I") (by decide +kernel)
  unfold f_X9_partner at hf
  refine lv_iload_n hx hb dX9_partner_0 rfl (lv_at hl 1 rfl) ?_
  obtain ⟨r_1, hg_1, hf⟩ := bd_some hf
  refine xSi (rest := []) (c_X9_noTable l dC dI ad cI cJ cT p1 I J hg_1) hfix (va_cwS 1 hts gX9_partner_X9_noTable rfl rfl rfl (by decide +kernel) ⟨Nat.le_of_ble_eq_true rfl, Nat.le_of_ble_eq_true rfl⟩) hK hP hD hS hA rfl hl.1 rfl (Nat.le_of_ble_eq_true rfl) ⟨Nat.zero_le _, Nat.zero_le _⟩ dX9_partner_1 (fun H locs hP hD hS => ?_)
  refine lv_if_ne (tgt := 16) hx hb dX9_partner_4 (by decide) (fun c_2 => ?_) (fun c_2 => ?_)
  · have hf := (if_neg c_2).symm.trans hf
    refine lv_bipush (v := (-2 : Int32)) hx hb dX9_partner_16 (by decide) ?_
    cases hf
    exact xRi hx hb hr hlocks hK hP hD hS (fun _ h => h) dX9_partner_18
  · have hf := (if_pos c_2).symm.trans hf
    refine lv_aload_n hx hb dX9_partner_7 rfl (lv_at hl 0 rfl) ?_
    refine lv_iload_n hx hb dX9_partner_8 rfl (lv_at hl 1 rfl) ?_
    refine lv_iload_n hx hb dX9_partner_9 rfl (lv_at hl 2 rfl) ?_
    obtain ⟨r_3, hg_3, hf⟩ := bd_some hf
    refine xVi (rest := []) (c_X9_isKind l dC dI ad cI cJ cT p1 p2 I J hg_3) hfix (cwV 2 hts gX9_partner_X9_isKind rfl rfl rfl (by decide +kernel) ⟨Nat.le_of_ble_eq_true rfl, Nat.le_of_ble_eq_true rfl⟩) hK hP hD hS hA (va_recv hK hP (ci := 8) (q0 := 13) rfl (obM_13 ad cI cJ I J)) rfl hl.1 rfl (Nat.le_of_ble_eq_true rfl) ⟨Nat.zero_le _, Nat.zero_le _⟩ dX9_partner_10 (fun H locs hP hD hS => ?_)
    refine lv_if_ne (tgt := 19) hx hb dX9_partner_13 (by decide) (fun c_4 => ?_) (fun c_4 => ?_)
    · have hf := (if_neg c_4).symm.trans hf
      refine lv_aload_n hx hb dX9_partner_19 rfl (lv_at hl 0 rfl) ?_
      refine lv_iload_n hx hb dX9_partner_20 rfl (lv_at hl 1 rfl) ?_
      obtain ⟨⟨r_5, I_5⟩, hg_5, hf⟩ := bd_some hf
      refine xVi (rest := []) (c_X9_isRight l dC dI ad cI cJ cT p1 I J hg_5) hfix (cwV 1 hts gX9_partner_X9_isRight rfl rfl rfl (by decide +kernel) ⟨Nat.le_of_ble_eq_true rfl, Nat.le_of_ble_eq_true rfl⟩) hK hP hD hS hA (va_recv hK hP (ci := 8) (q0 := 13) rfl (obM_13 ad cI cJ I J)) rfl hl.1 rfl (Nat.le_of_ble_eq_true rfl) ⟨Nat.zero_le _, Nat.zero_le _⟩ dX9_partner_21 (fun H locs hP hD hS => ?_)
      refine lv_if_eq (tgt := 36) hx hb dX9_partner_24 (by decide) (fun c_6 => ?_) (fun c_6 => ?_)
      · have hf := (if_pos c_6).symm.trans hf
        refine lv_bipush (v := (-3 : Int32)) hx hb dX9_partner_36 (by decide) ?_
        cases hf
        exact xRi hx hb hr hlocks hK hP hD hS (fun _ h => h) dX9_partner_38
      · have hf := (if_neg c_6).symm.trans hf
        refine lv_aload_n hx hb dX9_partner_27 rfl (lv_at hl 0 rfl) ?_
        refine va_get (D := (dC, dI)) (ci := 8) (v := .ref (ad 3)) (C := RX9) (T := TX9) (N := 15) hx hb hts in_X9 hown hK hP 13 (obM_13 ad cI cJ I_5 J) rfl 3 (by decide) wd_0 (fun _ h9 => h9) rfl dX9_partner_28 ?_
        refine lv_iload_n hx hb dX9_partner_31 rfl (lv_at hl 2 rfl) ?_
        obtain ⟨h_7, hf⟩ := gd_some hf
        refine x_iald hx hb hK (aiM_3 ad cI cJ) hP h_7 dX9_partner_32 ?_
        refine lv_goto (tgt := 38) hx hb dX9_partner_33 (by decide) ?_
        cases hf
        exact xRi hx hb hr hlocks hK hP hD hS (fun _ h => h) dX9_partner_38
    · have hf := (if_pos c_4).symm.trans hf
      refine lv_bipush (v := (-2 : Int32)) hx hb dX9_partner_16 (by decide) ?_
      cases hf
      exact xRi hx hb hr hlocks hK hP hD hS (fun _ h => h) dX9_partner_18
set_option maxHeartbeats 4000000 in
set_option maxRecDepth 100000 in
theorem c_X9_copy (l : Launch) (dC : Nat → ClassId) (dI : Nat → Nat → Nat) (ad : Nat → Nat) (cI cJ cT : ClassId) (p1 : Int32) (p2 : Int32) (I : SI) (J : SJ) {r0 : Int32} {I0 : SI} (hf : f_X9_copy p1 p2 I = some (r0, I0)) : CtI l yX9_copy wsX9_copy ({ frames := 2, cells := 0, slots := 0, locals := 45 } : Room) (dC, dI) (tys3 cI cJ cT) (wM ad cI cJ) [.ref (ad 13), .int p1, .int p2] I J r0 I0 J := by
  intro sz
  refine Met.ofW (cc := cX9_copy) (maxL := 3) (ret := (some .int)) (by decide) rfl ?_
  intro p e s m args below meth c s₁ B hml hv
  obtain ⟨hargs, hsz, hP, hK, hD0⟩ := hv
  have hx := B.exec
  have hb := B.bytes
  have hr := B.returns
  have hts := atoms_spec (ws := wsX9_copy) B.pre
  have hown : s.vm.findClass RX9 = some m.cls := findClass_of_methodNamed B.named
  have hlocks := B.notSynchronized
  subst hsz
  have hD := hD0.self (sz := s.heap.size)
  generalize hAe : va_A ((wM ad cI cJ) I J) s.heap.size = A at hD ⊢
  have hA : ∀ q : Nat, s.heap.size ≤ q → A q := fun q h => by rw [← hAe]; exact Or.inr h
  have hS : va_S A s.heap s.heap [] := va_S.rf
  have hl := lv_entry ([.ref (ad 13), .int p1, .int p2]) (n := 3) (Nat.le_of_ble_eq_true rfl)
  rw [hargs, lg_entry_eq, ← hargs]
  generalize (lg_sl ([.ref (ad 13), .int p1, .int p2]) ++ List.replicate (3 - (lg_sl ([.ref (ad 13), .int p1, .int p2])).length) Slot.unset).toArray = ls at hl ⊢
  have hl : lv_has ls 3 [(0, .ref (ad 13)), (1, .int p1), (2, .int p2)] := hl
  have hfix : CallFix p m c cX9_copy 3 s args wsX9_copy RX9 := ⟨hx, hb, hml, hown, hts⟩
  have in_X9 : ∀ w ∈ u_ws RX9 TX9 15, w ∈ wsX9_copy := by decide +kernel
  have wd_0 := hts (.fieldLink RX9 7 "FuseBenchModel" "ranks" "[I") (by decide +kernel)
  unfold f_X9_copy at hf
  refine lv_iload_n hx hb dX9_copy_0 rfl (lv_at hl 1 rfl) ?_
  obtain ⟨r_1, hg_1, hf⟩ := bd_some hf
  refine xSi (rest := []) (c_X9_noTable l dC dI ad cI cJ cT p1 I J hg_1) hfix (va_cwS 1 hts gX9_copy_X9_noTable rfl rfl rfl (by decide +kernel) ⟨Nat.le_of_ble_eq_true rfl, Nat.le_of_ble_eq_true rfl⟩) hK hP hD hS hA rfl hl.1 rfl (Nat.le_of_ble_eq_true rfl) ⟨Nat.zero_le _, Nat.zero_le _⟩ dX9_copy_1 (fun H locs hP hD hS => ?_)
  refine lv_if_ne (tgt := 14) hx hb dX9_copy_4 (by decide) (fun c_2 => ?_) (fun c_2 => ?_)
  · have hf := (if_neg c_2).symm.trans hf
    refine lv_bipush (v := (-2 : Int32)) hx hb dX9_copy_14 (by decide) ?_
    cases hf
    exact xRi hx hb hr hlocks hK hP hD hS (fun _ h => h) dX9_copy_16
  · have hf := (if_pos c_2).symm.trans hf
    refine lv_iload_n hx hb dX9_copy_7 rfl (lv_at hl 2 rfl) ?_
    obtain ⟨r_3, hg_3, hf⟩ := bd_some hf
    refine xSi (rest := []) (c_X9_noTable l dC dI ad cI cJ cT p2 I J hg_3) hfix (va_cwS 1 hts gX9_copy_X9_noTable rfl rfl rfl (by decide +kernel) ⟨Nat.le_of_ble_eq_true rfl, Nat.le_of_ble_eq_true rfl⟩) hK hP hD hS hA rfl hl.1 rfl (Nat.le_of_ble_eq_true rfl) ⟨Nat.zero_le _, Nat.zero_le _⟩ dX9_copy_8 (fun H locs hP hD hS => ?_)
    refine lv_if_eq (tgt := 17) hx hb dX9_copy_11 (by decide) (fun c_4 => ?_) (fun c_4 => ?_)
    · have hf := (if_pos c_4).symm.trans hf
      refine lv_aload_n hx hb dX9_copy_17 rfl (lv_at hl 0 rfl) ?_
      refine lv_iload_n hx hb dX9_copy_18 rfl (lv_at hl 1 rfl) ?_
      refine lv_iload_n hx hb dX9_copy_19 rfl (lv_at hl 2 rfl) ?_
      obtain ⟨I_5, hg_5, hf⟩ := bd_some hf
      refine xVv (rest := []) (c_X9_carry l dC dI ad cI cJ cT p1 p2 I J hg_5) hfix (cwV 2 hts gX9_copy_X9_carry rfl rfl rfl (by decide +kernel) ⟨Nat.le_of_ble_eq_true rfl, Nat.le_of_ble_eq_true rfl⟩) hK hP hD hS hA (va_recv hK hP (ci := 8) (q0 := 13) rfl (obM_13 ad cI cJ I J)) rfl hl.1 rfl (Nat.le_of_ble_eq_true rfl) ⟨Nat.zero_le _, Nat.zero_le _⟩ dX9_copy_20 (fun H locs hP hD hS => ?_)
      refine lv_aload_n hx hb dX9_copy_23 rfl (lv_at hl 0 rfl) ?_
      refine va_get (D := (dC, dI)) (ci := 8) (v := .ref (ad 0)) (C := RX9) (T := TX9) (N := 15) hx hb hts in_X9 hown hK hP 13 (obM_13 ad cI cJ I_5 J) rfl 0 (by decide) wd_0 (fun _ h9 => h9) rfl dX9_copy_24 ?_
      refine lv_iload_n hx hb dX9_copy_27 rfl (lv_at hl 2 rfl) ?_
      obtain ⟨h_6, hf⟩ := gd_some hf
      refine x_iald hx hb hK (aiM_0 ad cI cJ) hP h_6 dX9_copy_28 ?_
      cases hf
      exact xRi hx hb hr hlocks hK hP hD hS (fun _ h => h) dX9_copy_29
    · have hf := (if_neg c_4).symm.trans hf
      refine lv_bipush (v := (-2 : Int32)) hx hb dX9_copy_14 (by decide) ?_
      cases hf
      exact xRi hx hb hr hlocks hK hP hD hS (fun _ h => h) dX9_copy_16
set_option maxHeartbeats 4000000 in
set_option maxRecDepth 100000 in
theorem c_X9_layGroup (l : Launch) (dC : Nat → ClassId) (dI : Nat → Nat → Nat) (ad : Nat → Nat) (cI cJ cT : ClassId) (p1 : Int32) (p2 : Int32) (I : SI) (J : SJ) {I0 : SI} (hf : f_X9_layGroup p1 p2 I = some I0) : CtV l yX9_layGroup wsX9_layGroup ({ frames := 1, cells := 0, slots := 0, locals := 25 } : Room) (dC, dI) (tys3 cI cJ cT) (wM ad cI cJ) [.ref (ad 13), .int p1, .int p2] I J I0 J := by
  intro sz
  refine Met.ofW (cc := cX9_layGroup) (maxL := 5) (ret := none) (by decide) rfl ?_
  intro p e s m args below meth c s₁ B hml hv
  obtain ⟨hargs, hsz, hP, hK, hD0⟩ := hv
  have hx := B.exec
  have hb := B.bytes
  have hr := B.returns
  have hts := atoms_spec (ws := wsX9_layGroup) B.pre
  have hown : s.vm.findClass RX9 = some m.cls := findClass_of_methodNamed B.named
  have hlocks := B.notSynchronized
  subst hsz
  have hD := hD0.self (sz := s.heap.size)
  generalize hAe : va_A ((wM ad cI cJ) I J) s.heap.size = A at hD ⊢
  have hA : ∀ q : Nat, s.heap.size ≤ q → A q := fun q h => by rw [← hAe]; exact Or.inr h
  have hS : va_S A s.heap s.heap [] := va_S.rf
  have hl := lv_entry ([.ref (ad 13), .int p1, .int p2]) (n := 5) (Nat.le_of_ble_eq_true rfl)
  rw [hargs, lg_entry_eq, ← hargs]
  generalize (lg_sl ([.ref (ad 13), .int p1, .int p2]) ++ List.replicate (5 - (lg_sl ([.ref (ad 13), .int p1, .int p2])).length) Slot.unset).toArray = ls at hl ⊢
  have hl : lv_has ls 5 [(0, .ref (ad 13)), (1, .int p1), (2, .int p2)] := hl
  have hfix : CallFix p m c cX9_layGroup 5 s args wsX9_layGroup RX9 := ⟨hx, hb, hml, hown, hts⟩
  have L10 : ∀ (Q : State → Prop) (v1 : Int32) (v2 : Int32) (v3 : Int32) (J : SJ) (o : SI), (∀  (I : SI) (H : Heap) (locs : List Loc) (ls : Array Slot), o = I → va_P (dC, dI) vwCl ((wM ad cI cJ) I J) H → va_D A ((wM ad cI cJ) I J) → va_S A s.heap H locs → lv_has ls 5 [(0, .ref (ad 13)), (1, .int v1), (2, .int v2), (3, .int v3)] → W p l e ({ frames := 1, cells := 0, slots := 0, locals := 25 } : Room) s m args below meth c H locs 0 0 Q (F0 m 52 ls [])) → ∀ (n : Nat) (v4 : Int32) (I : SI) (H : Heap) (locs : List Loc) (ls : Array Slot), lp_X9_layGroup_10 v1 v2 v3 n v4 I = some o → va_P (dC, dI) vwCl ((wM ad cI cJ) I J) H → va_D A ((wM ad cI cJ) I J) → va_S A s.heap H locs → lv_has ls 5 [(0, .ref (ad 13)), (1, .int v1), (2, .int v2), (3, .int v3), (4, .int v4)] → W p l e ({ frames := 1, cells := 0, slots := 0, locals := 25 } : Room) s m args below meth c H locs 0 0 Q (F0 m 10 ls []) := by
    intro Q v1 v2 v3 J o K0 n
    clear hP hD hS hl
    induction n with
    | zero =>
      intro v4 I H locs ls hf
      rw [lp_X9_layGroup_10.eq_1] at hf
      cases hf
    | succ n ih =>
      intro v4 I H locs ls hf hP hD hS hl
      rw [lp_X9_layGroup_10.eq_2] at hf
      refine lv_iload hx hb dX9_layGroup_10 (lv_at hl 4 rfl) ?_
      refine lv_iload_n hx hb dX9_layGroup_12 rfl (lv_at hl 2 rfl) ?_
      refine lv_icmp_ge (tgt := 52) hx hb dX9_layGroup_13 (by decide) (fun c_1 => ?_) (fun c_1 => ?_)
      · have hf := (if_pos c_1).symm.trans hf
        exact K0 _ _ _ _ (Option.some.inj hf).symm hP hD hS (lv_sub hl [0, 1, 2, 3] rfl)
      · have hf := (if_neg c_1).symm.trans hf
        refine lv_aload_n hx hb dX9_layGroup_16 rfl (lv_at hl 0 rfl) ?_
        refine lv_iload_n hx hb dX9_layGroup_17 rfl (lv_at hl 1 rfl) ?_
        refine lv_iload_n hx hb dX9_layGroup_18 rfl (lv_at hl 3 rfl) ?_
        refine lv_iload hx hb dX9_layGroup_19 (lv_at hl 4 rfl) ?_
        refine lv_iload_n hx hb dX9_layGroup_21 rfl (lv_at hl 3 rfl) ?_
        refine lv_iload hx hb dX9_layGroup_22 (lv_at hl 4 rfl) ?_
        refine lv_iadd hx hb dX9_layGroup_24 ?_
        refine lv_iload_n hx hb dX9_layGroup_25 rfl (lv_at hl 2 rfl) ?_
        refine lv_icmp_lt (tgt := 38) hx hb dX9_layGroup_26 (by decide) (fun c_2 => ?_) (fun c_2 => ?_)
        · have hf := (if_pos c_2).symm.trans hf
          refine lv_iload_n hx hb dX9_layGroup_38 rfl (lv_at hl 3 rfl) ?_
          refine lv_iload hx hb dX9_layGroup_39 (lv_at hl 4 rfl) ?_
          refine lv_iadd hx hb dX9_layGroup_41 ?_
          refine lv_iconst (v := (1 : Int32)) hx hb dX9_layGroup_42 (by decide) ?_
          obtain ⟨I_3, hg_3, hf⟩ := bd_some hf
          refine xVv (rest := []) (c_X9_lay l dC dI ad cI cJ cT v1 v3 v4 (v3 + v4) (1 : Int32) I J hg_3) hfix (cwV 5 hts gX9_layGroup_X9_lay rfl rfl rfl (by decide +kernel) ⟨Nat.le_of_ble_eq_true rfl, Nat.le_of_ble_eq_true rfl⟩) hK hP hD hS hA (va_recv hK hP (ci := 8) (q0 := 13) rfl (obM_13 ad cI cJ I J)) rfl hl.1 rfl (Nat.le_of_ble_eq_true rfl) ⟨Nat.zero_le _, Nat.zero_le _⟩ dX9_layGroup_43 (fun H locs hP hD hS => ?_)
          refine lv_iinc (v := (v4 + (1 : Int32))) (lv' := [(4, .int (v4 + (1 : Int32))), (0, .ref (ad 13)), (1, .int v1), (2, .int v2), (3, .int v3)]) hx hb dX9_layGroup_46 hl (k := 4) rfl (by first | rfl | decide) (by decide) rfl (fun ls hl => ?_)
          refine lv_goto (tgt := 10) hx hb dX9_layGroup_49 (by decide) ?_
          exact ih _ _ _ _ _ hf hP hD hS (lv_sub hl [1, 2, 3, 4, 0] rfl)
        · have hf := (if_neg c_2).symm.trans hf
          refine lv_iload_n hx hb dX9_layGroup_29 rfl (lv_at hl 3 rfl) ?_
          refine lv_iload hx hb dX9_layGroup_30 (lv_at hl 4 rfl) ?_
          refine lv_iadd hx hb dX9_layGroup_32 ?_
          refine lv_iload_n hx hb dX9_layGroup_33 rfl (lv_at hl 2 rfl) ?_
          refine lv_isub hx hb dX9_layGroup_34 ?_
          refine lv_goto (tgt := 42) hx hb dX9_layGroup_35 (by decide) ?_
          refine lv_iconst (v := (1 : Int32)) hx hb dX9_layGroup_42 (by decide) ?_
          obtain ⟨I_4, hg_4, hf⟩ := bd_some hf
          refine xVv (rest := []) (c_X9_lay l dC dI ad cI cJ cT v1 v3 v4 ((v3 + v4) - v2) (1 : Int32) I J hg_4) hfix (cwV 5 hts gX9_layGroup_X9_lay rfl rfl rfl (by decide +kernel) ⟨Nat.le_of_ble_eq_true rfl, Nat.le_of_ble_eq_true rfl⟩) hK hP hD hS hA (va_recv hK hP (ci := 8) (q0 := 13) rfl (obM_13 ad cI cJ I J)) rfl hl.1 rfl (Nat.le_of_ble_eq_true rfl) ⟨Nat.zero_le _, Nat.zero_le _⟩ dX9_layGroup_43 (fun H locs hP hD hS => ?_)
          refine lv_iinc (v := (v4 + (1 : Int32))) (lv' := [(4, .int (v4 + (1 : Int32))), (0, .ref (ad 13)), (1, .int v1), (2, .int v2), (3, .int v3)]) hx hb dX9_layGroup_46 hl (k := 4) rfl (by first | rfl | decide) (by decide) rfl (fun ls hl => ?_)
          refine lv_goto (tgt := 10) hx hb dX9_layGroup_49 (by decide) ?_
          exact ih _ _ _ _ _ hf hP hD hS (lv_sub hl [1, 2, 3, 4, 0] rfl)
  have L2 : ∀ (Q : State → Prop) (v1 : Int32) (v2 : Int32) (J : SJ) (o : SI), (∀  (I : SI) (H : Heap) (locs : List Loc) (ls : Array Slot), o = I → va_P (dC, dI) vwCl ((wM ad cI cJ) I J) H → va_D A ((wM ad cI cJ) I J) → va_S A s.heap H locs → lv_has ls 5 [] → W p l e ({ frames := 1, cells := 0, slots := 0, locals := 25 } : Room) s m args below meth c H locs 0 0 Q (F0 m 58 ls [])) → ∀ (n : Nat) (v3 : Int32) (I : SI) (H : Heap) (locs : List Loc) (ls : Array Slot), lp_X9_layGroup_2 v1 v2 n v3 I = some o → va_P (dC, dI) vwCl ((wM ad cI cJ) I J) H → va_D A ((wM ad cI cJ) I J) → va_S A s.heap H locs → lv_has ls 5 [(0, .ref (ad 13)), (1, .int v1), (2, .int v2), (3, .int v3)] → W p l e ({ frames := 1, cells := 0, slots := 0, locals := 25 } : Room) s m args below meth c H locs 0 0 Q (F0 m 2 ls []) := by
    intro Q v1 v2 J o K0 n
    clear hP hD hS hl
    induction n with
    | zero =>
      intro v3 I H locs ls hf
      rw [lp_X9_layGroup_2.eq_1] at hf
      cases hf
    | succ n ih =>
      intro v3 I H locs ls hf hP hD hS hl
      rw [lp_X9_layGroup_2.eq_2] at hf
      refine lv_iload_n hx hb dX9_layGroup_2 rfl (lv_at hl 3 rfl) ?_
      refine lv_iload_n hx hb dX9_layGroup_3 rfl (lv_at hl 2 rfl) ?_
      refine lv_icmp_ge (tgt := 58) hx hb dX9_layGroup_4 (by decide) (fun c_5 => ?_) (fun c_5 => ?_)
      · have hf := (if_pos c_5).symm.trans hf
        exact K0 _ _ _ _ (Option.some.inj hf).symm hP hD hS (lv_sub hl [] rfl)
      · have hf := (if_neg c_5).symm.trans hf
        refine lv_iconst (v := (0 : Int32)) hx hb dX9_layGroup_7 (by decide) ?_
        refine lv_istore (lv' := [(4, .int (0 : Int32)), (0, .ref (ad 13)), (1, .int v1), (2, .int v2), (3, .int v3)]) hx hb dX9_layGroup_8 hl (by decide) rfl (fun ls hl => ?_)
        obtain ⟨o_6, hg_6, hf⟩ := bd_some hf
        refine L10 _ v1 v2 v3 J o_6 ?_ FU (0 : Int32) I _ _ _ hg_6 hP hD hS (lv_sub hl [1, 2, 3, 4, 0] rfl)
        · intro I_6 H locs ls ho hP hD hS hl
          subst o_6
          refine lv_iinc (v := (v3 + (1 : Int32))) (lv' := [(3, .int (v3 + (1 : Int32))), (0, .ref (ad 13)), (1, .int v1), (2, .int v2)]) hx hb dX9_layGroup_52 hl (k := 3) rfl (by first | rfl | decide) (by decide) rfl (fun ls hl => ?_)
          refine lv_goto (tgt := 2) hx hb dX9_layGroup_55 (by decide) ?_
          exact ih _ _ _ _ _ hf hP hD hS (lv_sub hl [1, 2, 3, 0] rfl)
  unfold f_X9_layGroup at hf
  refine lv_iconst (v := (0 : Int32)) hx hb dX9_layGroup_0 (by decide) ?_
  refine lv_istore_n (lv' := [(3, .int (0 : Int32)), (0, .ref (ad 13)), (1, .int p1), (2, .int p2)]) hx hb dX9_layGroup_1 rfl hl (by decide) rfl (fun ls hl => ?_)
  obtain ⟨o_7, hg_7, hf⟩ := bd_some hf
  refine L2 _ p1 p2 J o_7 ?_ FU (0 : Int32) I _ _ _ hg_7 hP hD hS (lv_sub hl [1, 2, 3, 0] rfl)
  · intro I_7 H locs ls ho hP hD hS hl
    subst o_7
    cases hf
    exact xRv hx hb hr hlocks hK hP hD hS (fun _ h => h) dX9_layGroup_58
set_option maxHeartbeats 4000000 in
set_option maxRecDepth 100000 in
theorem c_X9_group (l : Launch) (dC : Nat → ClassId) (dI : Nat → Nat → Nat) (ad : Nat → Nat) (cI cJ cT : ClassId) (p1 : Int32) (p2 : Int32) (I : SI) (J : SJ) {r0 : Int32} {I0 : SI} (hf : f_X9_group p1 p2 I = some (r0, I0)) : CtI l yX9_group wsX9_group ({ frames := 2, cells := 0, slots := 0, locals := 49 } : Room) (dC, dI) (tys3 cI cJ cT) (wM ad cI cJ) [.ref (ad 13), .int p1, .int p2] I J r0 I0 J := by
  intro sz
  refine Met.ofW (cc := cX9_group) (maxL := 3) (ret := (some .int)) (by decide) rfl ?_
  intro p e s m args below meth c s₁ B hml hv
  obtain ⟨hargs, hsz, hP, hK, hD0⟩ := hv
  have hx := B.exec
  have hb := B.bytes
  have hr := B.returns
  have hts := atoms_spec (ws := wsX9_group) B.pre
  have hown : s.vm.findClass RX9 = some m.cls := findClass_of_methodNamed B.named
  have hlocks := B.notSynchronized
  subst hsz
  have hD := hD0.self (sz := s.heap.size)
  generalize hAe : va_A ((wM ad cI cJ) I J) s.heap.size = A at hD ⊢
  have hA : ∀ q : Nat, s.heap.size ≤ q → A q := fun q h => by rw [← hAe]; exact Or.inr h
  have hS : va_S A s.heap s.heap [] := va_S.rf
  have hl := lv_entry ([.ref (ad 13), .int p1, .int p2]) (n := 3) (Nat.le_of_ble_eq_true rfl)
  rw [hargs, lg_entry_eq, ← hargs]
  generalize (lg_sl ([.ref (ad 13), .int p1, .int p2]) ++ List.replicate (3 - (lg_sl ([.ref (ad 13), .int p1, .int p2])).length) Slot.unset).toArray = ls at hl ⊢
  have hl : lv_has ls 3 [(0, .ref (ad 13)), (1, .int p1), (2, .int p2)] := hl
  have hfix : CallFix p m c cX9_group 3 s args wsX9_group RX9 := ⟨hx, hb, hml, hown, hts⟩
  have wd_0 := hts (.constantLong RX9 58 (5)) (by decide +kernel)
  unfold f_X9_group at hf
  refine lv_iload_n hx hb dX9_group_0 rfl (lv_at hl 1 rfl) ?_
  obtain ⟨r_1, hg_1, hf⟩ := bd_some hf
  refine xSi (rest := []) (c_X9_noTable l dC dI ad cI cJ cT p1 I J hg_1) hfix (va_cwS 1 hts gX9_group_X9_noTable rfl rfl rfl (by decide +kernel) ⟨Nat.le_of_ble_eq_true rfl, Nat.le_of_ble_eq_true rfl⟩) hK hP hD hS hA rfl hl.1 rfl (Nat.le_of_ble_eq_true rfl) ⟨Nat.zero_le _, Nat.zero_le _⟩ dX9_group_1 (fun H locs hP hD hS => ?_)
  refine lv_if_ne (tgt := 19) hx hb dX9_group_4 (by decide) (fun c_2 => ?_) (fun c_2 => ?_)
  · have hf := (if_neg c_2).symm.trans hf
    refine lv_bipush (v := (-2 : Int32)) hx hb dX9_group_19 (by decide) ?_
    cases hf
    exact xRi hx hb hr hlocks hK hP hD hS (fun _ h => h) dX9_group_21
  · have hf := (if_pos c_2).symm.trans hf
    refine lv_iload_n hx hb dX9_group_7 rfl (lv_at hl 2 rfl) ?_
    refine lv_i2l (v := p2.toInt64) hx hb dX9_group_8 rfl ?_
    refine lv_lconst (v := (1 : Int64)) hx hb dX9_group_9 (by decide) ?_
    refine lv_ldc2 (v := (5 : Int64)) hx hb hown wd_0 dX9_group_10 ?_
    obtain ⟨r_3, hg_3, hf⟩ := bd_some hf
    refine xSi (rest := []) (c_X9_in l dC dI ad cI cJ cT (p2.toInt64) (1 : Int64) (5 : Int64) I J hg_3) hfix (va_cwS 3 hts gX9_group_X9_in rfl rfl rfl (by decide +kernel) ⟨Nat.le_of_ble_eq_true rfl, Nat.le_of_ble_eq_true rfl⟩) hK hP hD hS hA rfl hl.1 rfl (Nat.le_of_ble_eq_true rfl) ⟨Nat.zero_le _, Nat.zero_le _⟩ dX9_group_13 (fun H locs hP hD hS => ?_)
    refine lv_if_ne (tgt := 22) hx hb dX9_group_16 (by decide) (fun c_4 => ?_) (fun c_4 => ?_)
    · have hf := (if_neg c_4).symm.trans hf
      refine lv_aload_n hx hb dX9_group_22 rfl (lv_at hl 0 rfl) ?_
      refine lv_iload_n hx hb dX9_group_23 rfl (lv_at hl 1 rfl) ?_
      refine lv_iload_n hx hb dX9_group_24 rfl (lv_at hl 2 rfl) ?_
      obtain ⟨I_5, hg_5, hf⟩ := bd_some hf
      refine xVv (rest := []) (c_X9_begin l dC dI ad cI cJ cT p1 p2 I J hg_5) hfix (cwV 2 hts gX9_group_X9_begin rfl rfl rfl (by decide +kernel) ⟨Nat.le_of_ble_eq_true rfl, Nat.le_of_ble_eq_true rfl⟩) hK hP hD hS hA (va_recv hK hP (ci := 8) (q0 := 13) rfl (obM_13 ad cI cJ I J)) rfl hl.1 rfl (Nat.le_of_ble_eq_true rfl) ⟨Nat.zero_le _, Nat.zero_le _⟩ dX9_group_25 (fun H locs hP hD hS => ?_)
      refine lv_aload_n hx hb dX9_group_28 rfl (lv_at hl 0 rfl) ?_
      refine lv_iload_n hx hb dX9_group_29 rfl (lv_at hl 1 rfl) ?_
      refine lv_iload_n hx hb dX9_group_30 rfl (lv_at hl 2 rfl) ?_
      obtain ⟨I_6, hg_6, hf⟩ := bd_some hf
      refine xVv (rest := []) (c_X9_layGroup l dC dI ad cI cJ cT p1 p2 I_5 J hg_6) hfix (cwV 2 hts gX9_group_X9_layGroup rfl rfl rfl (by decide +kernel) ⟨Nat.le_of_ble_eq_true rfl, Nat.le_of_ble_eq_true rfl⟩) hK hP hD hS hA (va_recv hK hP (ci := 8) (q0 := 13) rfl (obM_13 ad cI cJ I_5 J)) rfl hl.1 rfl (Nat.le_of_ble_eq_true rfl) ⟨Nat.zero_le _, Nat.zero_le _⟩ dX9_group_31 (fun H locs hP hD hS => ?_)
      refine lv_iconst (v := (1 : Int32)) hx hb dX9_group_34 (by decide) ?_
      cases hf
      exact xRi hx hb hr hlocks hK hP hD hS (fun _ h => h) dX9_group_35
    · have hf := (if_pos c_4).symm.trans hf
      refine lv_bipush (v := (-2 : Int32)) hx hb dX9_group_19 (by decide) ?_
      cases hf
      exact xRi hx hb hr hlocks hK hP hD hS (fun _ h => h) dX9_group_21
set_option maxHeartbeats 4000000 in
set_option maxRecDepth 100000 in
theorem c_X9_near (l : Launch) (dC : Nat → ClassId) (dI : Nat → Nat → Nat) (ad : Nat → Nat) (cI cJ cT : ClassId) (p1 : Int32) (p2 : Int32) (p3 : Int32) (I : SI) (J : SJ) {r0 : Int32} {I0 : SI} (hf : f_X9_near p1 p2 p3 I = some (r0, I0)) : CtI l yX9_near wsX9_near ({ frames := 2, cells := 0, slots := 0, locals := 49 } : Room) (dC, dI) (tys3 cI cJ cT) (wM ad cI cJ) [.ref (ad 13), .int p1, .int p2, .int p3] I J r0 I0 J := by
  intro sz
  refine Met.ofW (cc := cX9_near) (maxL := 5) (ret := (some .int)) (by decide) rfl ?_
  intro p e s m args below meth c s₁ B hml hv
  obtain ⟨hargs, hsz, hP, hK, hD0⟩ := hv
  have hx := B.exec
  have hb := B.bytes
  have hr := B.returns
  have hts := atoms_spec (ws := wsX9_near) B.pre
  have hown : s.vm.findClass RX9 = some m.cls := findClass_of_methodNamed B.named
  have hlocks := B.notSynchronized
  subst hsz
  have hD := hD0.self (sz := s.heap.size)
  generalize hAe : va_A ((wM ad cI cJ) I J) s.heap.size = A at hD ⊢
  have hA : ∀ q : Nat, s.heap.size ≤ q → A q := fun q h => by rw [← hAe]; exact Or.inr h
  have hS : va_S A s.heap s.heap [] := va_S.rf
  have hl := lv_entry ([.ref (ad 13), .int p1, .int p2, .int p3]) (n := 5) (Nat.le_of_ble_eq_true rfl)
  rw [hargs, lg_entry_eq, ← hargs]
  generalize (lg_sl ([.ref (ad 13), .int p1, .int p2, .int p3]) ++ List.replicate (5 - (lg_sl ([.ref (ad 13), .int p1, .int p2, .int p3])).length) Slot.unset).toArray = ls at hl ⊢
  have hl : lv_has ls 5 [(0, .ref (ad 13)), (1, .int p1), (2, .int p2), (3, .int p3)] := hl
  have hfix : CallFix p m c cX9_near 5 s args wsX9_near RX9 := ⟨hx, hb, hml, hown, hts⟩
  have wd_0 := hts (.constantLong RX9 94 (4)) (by decide +kernel)
  have wd_1 := hts (.constantLong RX9 72 (9)) (by decide +kernel)
  have L51 : ∀ (Q : State → Prop) (v1 : Int32) (v2 : Int32) (v3 : Int32) (J : SJ) (o : SI), (∀  (I : SI) (H : Heap) (locs : List Loc) (ls : Array Slot), o = I → va_P (dC, dI) vwCl ((wM ad cI cJ) I J) H → va_D A ((wM ad cI cJ) I J) → va_S A s.heap H locs → lv_has ls 5 [(0, .ref (ad 13)), (1, .int v1), (2, .int v2), (3, .int v3)] → W p l e ({ frames := 2, cells := 0, slots := 0, locals := 49 } : Room) s m args below meth c H locs 0 0 Q (F0 m 93 ls [])) → ∀ (n : Nat) (v4 : Int32) (I : SI) (H : Heap) (locs : List Loc) (ls : Array Slot), lp_X9_near_51 v1 v2 v3 n v4 I = some o → va_P (dC, dI) vwCl ((wM ad cI cJ) I J) H → va_D A ((wM ad cI cJ) I J) → va_S A s.heap H locs → lv_has ls 5 [(0, .ref (ad 13)), (1, .int v1), (2, .int v2), (3, .int v3), (4, .int v4)] → W p l e ({ frames := 2, cells := 0, slots := 0, locals := 49 } : Room) s m args below meth c H locs 0 0 Q (F0 m 51 ls []) := by
    intro Q v1 v2 v3 J o K0 n
    clear hP hD hS hl
    induction n with
    | zero =>
      intro v4 I H locs ls hf
      rw [lp_X9_near_51.eq_1] at hf
      cases hf
    | succ n ih =>
      intro v4 I H locs ls hf hP hD hS hl
      rw [lp_X9_near_51.eq_2] at hf
      refine lv_iload hx hb dX9_near_51 (lv_at hl 4 rfl) ?_
      refine lv_iload_n hx hb dX9_near_53 rfl (lv_at hl 2 rfl) ?_
      refine lv_icmp_ge (tgt := 93) hx hb dX9_near_54 (by decide) (fun c_1 => ?_) (fun c_1 => ?_)
      · have hf := (if_pos c_1).symm.trans hf
        exact K0 _ _ _ _ (Option.some.inj hf).symm hP hD hS (lv_sub hl [0, 1, 2, 3] rfl)
      · have hf := (if_neg c_1).symm.trans hf
        refine lv_aload_n hx hb dX9_near_57 rfl (lv_at hl 0 rfl) ?_
        refine lv_iload_n hx hb dX9_near_58 rfl (lv_at hl 1 rfl) ?_
        refine lv_iload hx hb dX9_near_59 (lv_at hl 4 rfl) ?_
        refine lv_iload_n hx hb dX9_near_61 rfl (lv_at hl 2 rfl) ?_
        refine lv_iload_n hx hb dX9_near_62 rfl (lv_at hl 2 rfl) ?_
        refine lv_iconst (v := (1 : Int32)) hx hb dX9_near_63 (by decide) ?_
        obtain ⟨I_2, hg_2, hf⟩ := bd_some hf
        refine xVv (rest := []) (c_X9_lay l dC dI ad cI cJ cT v1 v4 v2 v2 (1 : Int32) I J hg_2) hfix (cwV 5 hts gX9_near_X9_lay rfl rfl rfl (by decide +kernel) ⟨Nat.le_of_ble_eq_true rfl, Nat.le_of_ble_eq_true rfl⟩) hK hP hD hS hA (va_recv hK hP (ci := 8) (q0 := 13) rfl (obM_13 ad cI cJ I J)) rfl hl.1 rfl (Nat.le_of_ble_eq_true rfl) ⟨Nat.zero_le _, Nat.zero_le _⟩ dX9_near_64 (fun H locs hP hD hS => ?_)
        refine lv_aload_n hx hb dX9_near_67 rfl (lv_at hl 0 rfl) ?_
        refine lv_iload_n hx hb dX9_near_68 rfl (lv_at hl 1 rfl) ?_
        refine lv_iload_n hx hb dX9_near_69 rfl (lv_at hl 2 rfl) ?_
        refine lv_iload hx hb dX9_near_70 (lv_at hl 4 rfl) ?_
        refine lv_iload_n hx hb dX9_near_72 rfl (lv_at hl 2 rfl) ?_
        refine lv_iconst (v := (1 : Int32)) hx hb dX9_near_73 (by decide) ?_
        obtain ⟨I_3, hg_3, hf⟩ := bd_some hf
        refine xVv (rest := []) (c_X9_lay l dC dI ad cI cJ cT v1 v2 v4 v2 (1 : Int32) I_2 J hg_3) hfix (cwV 5 hts gX9_near_X9_lay rfl rfl rfl (by decide +kernel) ⟨Nat.le_of_ble_eq_true rfl, Nat.le_of_ble_eq_true rfl⟩) hK hP hD hS hA (va_recv hK hP (ci := 8) (q0 := 13) rfl (obM_13 ad cI cJ I_2 J)) rfl hl.1 rfl (Nat.le_of_ble_eq_true rfl) ⟨Nat.zero_le _, Nat.zero_le _⟩ dX9_near_74 (fun H locs hP hD hS => ?_)
        refine lv_aload_n hx hb dX9_near_77 rfl (lv_at hl 0 rfl) ?_
        refine lv_iload_n hx hb dX9_near_78 rfl (lv_at hl 1 rfl) ?_
        refine lv_iload_n hx hb dX9_near_79 rfl (lv_at hl 2 rfl) ?_
        refine lv_iload_n hx hb dX9_near_80 rfl (lv_at hl 2 rfl) ?_
        refine lv_iload hx hb dX9_near_81 (lv_at hl 4 rfl) ?_
        refine lv_iconst (v := (1 : Int32)) hx hb dX9_near_83 (by decide) ?_
        obtain ⟨I_4, hg_4, hf⟩ := bd_some hf
        refine xVv (rest := []) (c_X9_lay l dC dI ad cI cJ cT v1 v2 v2 v4 (1 : Int32) I_3 J hg_4) hfix (cwV 5 hts gX9_near_X9_lay rfl rfl rfl (by decide +kernel) ⟨Nat.le_of_ble_eq_true rfl, Nat.le_of_ble_eq_true rfl⟩) hK hP hD hS hA (va_recv hK hP (ci := 8) (q0 := 13) rfl (obM_13 ad cI cJ I_3 J)) rfl hl.1 rfl (Nat.le_of_ble_eq_true rfl) ⟨Nat.zero_le _, Nat.zero_le _⟩ dX9_near_84 (fun H locs hP hD hS => ?_)
        refine lv_iinc (v := (v4 + (1 : Int32))) (lv' := [(4, .int (v4 + (1 : Int32))), (0, .ref (ad 13)), (1, .int v1), (2, .int v2), (3, .int v3)]) hx hb dX9_near_87 hl (k := 4) rfl (by first | rfl | decide) (by decide) rfl (fun ls hl => ?_)
        refine lv_goto (tgt := 51) hx hb dX9_near_90 (by decide) ?_
        exact ih _ _ _ _ _ hf hP hD hS (lv_sub hl [1, 2, 3, 4, 0] rfl)
  unfold f_X9_near at hf
  refine lv_iload_n hx hb dX9_near_0 rfl (lv_at hl 1 rfl) ?_
  obtain ⟨r_5, hg_5, hf⟩ := bd_some hf
  refine xSi (rest := []) (c_X9_noTable l dC dI ad cI cJ cT p1 I J hg_5) hfix (va_cwS 1 hts gX9_near_X9_noTable rfl rfl rfl (by decide +kernel) ⟨Nat.le_of_ble_eq_true rfl, Nat.le_of_ble_eq_true rfl⟩) hK hP hD hS hA rfl hl.1 rfl (Nat.le_of_ble_eq_true rfl) ⟨Nat.zero_le _, Nat.zero_le _⟩ dX9_near_1 (fun H locs hP hD hS => ?_)
  refine lv_if_ne (tgt := 31) hx hb dX9_near_4 (by decide) (fun c_6 => ?_) (fun c_6 => ?_)
  · have hf := (if_neg c_6).symm.trans hf
    refine lv_bipush (v := (-2 : Int32)) hx hb dX9_near_31 (by decide) ?_
    cases hf
    exact xRi hx hb hr hlocks hK hP hD hS (fun _ h => h) dX9_near_33
  · have hf := (if_pos c_6).symm.trans hf
    refine lv_iload_n hx hb dX9_near_7 rfl (lv_at hl 2 rfl) ?_
    refine lv_i2l (v := p2.toInt64) hx hb dX9_near_8 rfl ?_
    refine lv_lconst (v := (1 : Int64)) hx hb dX9_near_9 (by decide) ?_
    refine lv_ldc2 (v := (4 : Int64)) hx hb hown wd_0 dX9_near_10 ?_
    obtain ⟨r_7, hg_7, hf⟩ := bd_some hf
    refine xSi (rest := []) (c_X9_in l dC dI ad cI cJ cT (p2.toInt64) (1 : Int64) (4 : Int64) I J hg_7) hfix (va_cwS 3 hts gX9_near_X9_in rfl rfl rfl (by decide +kernel) ⟨Nat.le_of_ble_eq_true rfl, Nat.le_of_ble_eq_true rfl⟩) hK hP hD hS hA rfl hl.1 rfl (Nat.le_of_ble_eq_true rfl) ⟨Nat.zero_le _, Nat.zero_le _⟩ dX9_near_13 (fun H locs hP hD hS => ?_)
    refine lv_if_eq (tgt := 31) hx hb dX9_near_16 (by decide) (fun c_8 => ?_) (fun c_8 => ?_)
    · have hf := (if_pos c_8).symm.trans hf
      refine lv_bipush (v := (-2 : Int32)) hx hb dX9_near_31 (by decide) ?_
      cases hf
      exact xRi hx hb hr hlocks hK hP hD hS (fun _ h => h) dX9_near_33
    · have hf := (if_neg c_8).symm.trans hf
      refine lv_iload_n hx hb dX9_near_19 rfl (lv_at hl 3 rfl) ?_
      refine lv_i2l (v := p3.toInt64) hx hb dX9_near_20 rfl ?_
      refine lv_lconst (v := (0 : Int64)) hx hb dX9_near_21 (by decide) ?_
      refine lv_ldc2 (v := (9 : Int64)) hx hb hown wd_1 dX9_near_22 ?_
      obtain ⟨r_9, hg_9, hf⟩ := bd_some hf
      refine xSi (rest := []) (c_X9_in l dC dI ad cI cJ cT (p3.toInt64) (0 : Int64) (9 : Int64) I J hg_9) hfix (va_cwS 3 hts gX9_near_X9_in rfl rfl rfl (by decide +kernel) ⟨Nat.le_of_ble_eq_true rfl, Nat.le_of_ble_eq_true rfl⟩) hK hP hD hS hA rfl hl.1 rfl (Nat.le_of_ble_eq_true rfl) ⟨Nat.zero_le _, Nat.zero_le _⟩ dX9_near_25 (fun H locs hP hD hS => ?_)
      refine lv_if_ne (tgt := 34) hx hb dX9_near_28 (by decide) (fun c_10 => ?_) (fun c_10 => ?_)
      · have hf := (if_neg c_10).symm.trans hf
        refine lv_aload_n hx hb dX9_near_34 rfl (lv_at hl 0 rfl) ?_
        refine lv_iload_n hx hb dX9_near_35 rfl (lv_at hl 1 rfl) ?_
        refine lv_iload_n hx hb dX9_near_36 rfl (lv_at hl 2 rfl) ?_
        refine lv_iconst (v := (1 : Int32)) hx hb dX9_near_37 (by decide) ?_
        refine lv_iadd hx hb dX9_near_38 ?_
        obtain ⟨I_11, hg_11, hf⟩ := bd_some hf
        refine xVv (rest := []) (c_X9_begin l dC dI ad cI cJ cT p1 (p2 + (1 : Int32)) I J hg_11) hfix (cwV 2 hts gX9_near_X9_begin rfl rfl rfl (by decide +kernel) ⟨Nat.le_of_ble_eq_true rfl, Nat.le_of_ble_eq_true rfl⟩) hK hP hD hS hA (va_recv hK hP (ci := 8) (q0 := 13) rfl (obM_13 ad cI cJ I J)) rfl hl.1 rfl (Nat.le_of_ble_eq_true rfl) ⟨Nat.zero_le _, Nat.zero_le _⟩ dX9_near_39 (fun H locs hP hD hS => ?_)
        refine lv_aload_n hx hb dX9_near_42 rfl (lv_at hl 0 rfl) ?_
        refine lv_iload_n hx hb dX9_near_43 rfl (lv_at hl 1 rfl) ?_
        refine lv_iload_n hx hb dX9_near_44 rfl (lv_at hl 2 rfl) ?_
        obtain ⟨I_12, hg_12, hf⟩ := bd_some hf
        refine xVv (rest := []) (c_X9_layGroup l dC dI ad cI cJ cT p1 p2 I_11 J hg_12) hfix (cwV 2 hts gX9_near_X9_layGroup rfl rfl rfl (by decide +kernel) ⟨Nat.le_of_ble_eq_true rfl, Nat.le_of_ble_eq_true rfl⟩) hK hP hD hS hA (va_recv hK hP (ci := 8) (q0 := 13) rfl (obM_13 ad cI cJ I_11 J)) rfl hl.1 rfl (Nat.le_of_ble_eq_true rfl) ⟨Nat.zero_le _, Nat.zero_le _⟩ dX9_near_45 (fun H locs hP hD hS => ?_)
        refine lv_iconst (v := (0 : Int32)) hx hb dX9_near_48 (by decide) ?_
        refine lv_istore (lv' := [(4, .int (0 : Int32)), (0, .ref (ad 13)), (1, .int p1), (2, .int p2), (3, .int p3)]) hx hb dX9_near_49 hl (by decide) rfl (fun ls hl => ?_)
        obtain ⟨o_13, hg_13, hf⟩ := bd_some hf
        refine L51 _ p1 p2 p3 J o_13 ?_ FU (0 : Int32) I_12 _ _ _ hg_13 hP hD hS (lv_sub hl [1, 2, 3, 4, 0] rfl)
        · intro I_13 H locs ls ho hP hD hS hl
          subst o_13
          refine lv_aload_n hx hb dX9_near_93 rfl (lv_at hl 0 rfl) ?_
          refine lv_iload_n hx hb dX9_near_94 rfl (lv_at hl 1 rfl) ?_
          refine lv_iload_n hx hb dX9_near_95 rfl (lv_at hl 2 rfl) ?_
          refine lv_iload_n hx hb dX9_near_96 rfl (lv_at hl 2 rfl) ?_
          refine lv_iload_n hx hb dX9_near_97 rfl (lv_at hl 2 rfl) ?_
          refine lv_iload_n hx hb dX9_near_98 rfl (lv_at hl 3 rfl) ?_
          obtain ⟨I_14, hg_14, hf⟩ := bd_some hf
          refine xVv (rest := []) (c_X9_lay l dC dI ad cI cJ cT p1 p2 p2 p2 p3 I_13 J hg_14) hfix (cwV 5 hts gX9_near_X9_lay rfl rfl rfl (by decide +kernel) ⟨Nat.le_of_ble_eq_true rfl, Nat.le_of_ble_eq_true rfl⟩) hK hP hD hS hA (va_recv hK hP (ci := 8) (q0 := 13) rfl (obM_13 ad cI cJ I_13 J)) rfl hl.1 rfl (Nat.le_of_ble_eq_true rfl) ⟨Nat.zero_le _, Nat.zero_le _⟩ dX9_near_99 (fun H locs hP hD hS => ?_)
          refine lv_iconst (v := (1 : Int32)) hx hb dX9_near_102 (by decide) ?_
          cases hf
          exact xRi hx hb hr hlocks hK hP hD hS (fun _ h => h) dX9_near_103
      · have hf := (if_pos c_10).symm.trans hf
        refine lv_bipush (v := (-2 : Int32)) hx hb dX9_near_31 (by decide) ?_
        cases hf
        exact xRi hx hb hr hlocks hK hP hD hS (fun _ h => h) dX9_near_33
set_option maxHeartbeats 4000000 in
set_option maxRecDepth 100000 in
theorem c_X9_together (l : Launch) (dC : Nat → ClassId) (dI : Nat → Nat → Nat) (ad : Nat → Nat) (cI cJ cT : ClassId) (p1 : Int32) (p2 : Int32) (p3 : Int32) (I : SI) (J : SJ) {r0 : Int32} {I0 : SI} (hf : f_X9_together p1 p2 p3 I = some (r0, I0)) : CtI l yX9_together wsX9_together ({ frames := 2, cells := 0, slots := 0, locals := 48 } : Room) (dC, dI) (tys3 cI cJ cT) (wM ad cI cJ) [.ref (ad 13), .int p1, .int p2, .int p3] I J r0 I0 J := by
  intro sz
  refine Met.ofW (cc := cX9_together) (maxL := 10) (ret := (some .int)) (by decide) rfl ?_
  intro p e s m args below meth c s₁ B hml hv
  obtain ⟨hargs, hsz, hP, hK, hD0⟩ := hv
  have hx := B.exec
  have hb := B.bytes
  have hr := B.returns
  have hts := atoms_spec (ws := wsX9_together) B.pre
  have hown : s.vm.findClass RX9 = some m.cls := findClass_of_methodNamed B.named
  have hlocks := B.notSynchronized
  subst hsz
  have hD := hD0.self (sz := s.heap.size)
  generalize hAe : va_A ((wM ad cI cJ) I J) s.heap.size = A at hD ⊢
  have hA : ∀ q : Nat, s.heap.size ≤ q → A q := fun q h => by rw [← hAe]; exact Or.inr h
  have hS : va_S A s.heap s.heap [] := va_S.rf
  have hl := lv_entry ([.ref (ad 13), .int p1, .int p2, .int p3]) (n := 10) (Nat.le_of_ble_eq_true rfl)
  rw [hargs, lg_entry_eq, ← hargs]
  generalize (lg_sl ([.ref (ad 13), .int p1, .int p2, .int p3]) ++ List.replicate (10 - (lg_sl ([.ref (ad 13), .int p1, .int p2, .int p3])).length) Slot.unset).toArray = ls at hl ⊢
  have hl : lv_has ls 10 [(0, .ref (ad 13)), (1, .int p1), (2, .int p2), (3, .int p3)] := hl
  have hfix : CallFix p m c cX9_together 10 s args wsX9_together RX9 := ⟨hx, hb, hml, hown, hts⟩
  have in_X9 : ∀ w ∈ u_ws RX9 TX9 15, w ∈ wsX9_together := by decide +kernel
  have wd_0 := hts (.fieldLink RX9 7 "FuseBenchModel" "ranks" "[I") (by decide +kernel)
  have L92 : ∀ (Q : State → Prop) (v1 : Int32) (v2 : Int32) (v3 : Int32) (v4 : Int32) (v5 : Int32) (v6 : Int32) (v7 : Int32) (J : SJ) (o : Nat × SI), (∀  (I : SI) (H : Heap) (locs : List Loc) (ls : Array Slot), o = (0, I) → va_P (dC, dI) vwCl ((wM ad cI cJ) I J) H → va_D A ((wM ad cI cJ) I J) → va_S A s.heap H locs → lv_has ls 10 [] → W p l e ({ frames := 2, cells := 0, slots := 0, locals := 48 } : Room) s m args below meth c H locs 0 0 Q (F0 m 152 ls [])) → (∀  (I : SI) (H : Heap) (locs : List Loc) (ls : Array Slot), o = (1, I) → va_P (dC, dI) vwCl ((wM ad cI cJ) I J) H → va_D A ((wM ad cI cJ) I J) → va_S A s.heap H locs → lv_has ls 10 [(0, .ref (ad 13)), (1, .int v1), (2, .int v2), (3, .int v3), (4, .int v4), (5, .int v5), (6, .int v6), (7, .int v7)] → W p l e ({ frames := 2, cells := 0, slots := 0, locals := 48 } : Room) s m args below meth c H locs 0 0 Q (F0 m 175 ls [])) → ∀ (n : Nat) (v8 : Int32) (I : SI) (H : Heap) (locs : List Loc) (ls : Array Slot), lp_X9_together_92 v1 v2 v3 v4 v5 v6 v7 n v8 I = some o → va_P (dC, dI) vwCl ((wM ad cI cJ) I J) H → va_D A ((wM ad cI cJ) I J) → va_S A s.heap H locs → lv_has ls 10 [(0, .ref (ad 13)), (1, .int v1), (2, .int v2), (3, .int v3), (4, .int v4), (5, .int v5), (6, .int v6), (7, .int v7), (8, .int v8)] → W p l e ({ frames := 2, cells := 0, slots := 0, locals := 48 } : Room) s m args below meth c H locs 0 0 Q (F0 m 92 ls []) := by
    intro Q v1 v2 v3 v4 v5 v6 v7 J o K0 K1 n
    clear hP hD hS hl
    induction n with
    | zero =>
      intro v8 I H locs ls hf
      rw [lp_X9_together_92.eq_1] at hf
      cases hf
    | succ n ih =>
      intro v8 I H locs ls hf hP hD hS hl
      rw [lp_X9_together_92.eq_2] at hf
      refine lv_iload hx hb dX9_together_92 (lv_at hl 8 rfl) ?_
      refine lv_iload hx hb dX9_together_94 (lv_at hl 4 rfl) ?_
      refine lv_iload hx hb dX9_together_96 (lv_at hl 5 rfl) ?_
      refine lv_imul hx hb dX9_together_98 ?_
      refine lv_icmp_ge (tgt := 175) hx hb dX9_together_99 (by decide) (fun c_1 => ?_) (fun c_1 => ?_)
      · have hf := (if_pos c_1).symm.trans hf
        exact K1 _ _ _ _ (Option.some.inj hf).symm hP hD hS (lv_sub hl [0, 1, 2, 3, 4, 5, 6, 7] rfl)
      · have hf := (if_neg c_1).symm.trans hf
        refine lv_aload_n hx hb dX9_together_102 rfl (lv_at hl 0 rfl) ?_
        refine lv_iload_n hx hb dX9_together_103 rfl (lv_at hl 1 rfl) ?_
        refine lv_iload hx hb dX9_together_104 (lv_at hl 6 rfl) ?_
        refine lv_iload hx hb dX9_together_106 (lv_at hl 5 rfl) ?_
        obtain ⟨h_2, hf⟩ := gd_some hf
        refine lv_idiv hx hb dX9_together_108 h_2 ?_
        refine lv_iload hx hb dX9_together_109 (lv_at hl 7 rfl) ?_
        refine lv_iload hx hb dX9_together_111 (lv_at hl 5 rfl) ?_
        obtain ⟨h_3, hf⟩ := gd_some hf
        refine lv_idiv hx hb dX9_together_113 h_3 ?_
        refine lv_iload hx hb dX9_together_114 (lv_at hl 8 rfl) ?_
        refine lv_iload hx hb dX9_together_116 (lv_at hl 5 rfl) ?_
        obtain ⟨h_4, hf⟩ := gd_some hf
        refine lv_idiv hx hb dX9_together_118 h_4 ?_
        obtain ⟨r_5, hg_5, hf⟩ := bd_some hf
        refine xVi (rest := []) (c_X9_n l dC dI ad cI cJ cT v1 (v6 / v5) (v7 / v5) (v8 / v5) I J hg_5) hfix (cwV 4 hts gX9_together_X9_n rfl rfl rfl (by decide +kernel) ⟨Nat.le_of_ble_eq_true rfl, Nat.le_of_ble_eq_true rfl⟩) hK hP hD hS hA (va_recv hK hP (ci := 8) (q0 := 13) rfl (obM_13 ad cI cJ I J)) rfl hl.1 rfl (Nat.le_of_ble_eq_true rfl) ⟨Nat.zero_le _, Nat.zero_le _⟩ dX9_together_119 (fun H locs hP hD hS => ?_)
        refine lv_aload_n hx hb dX9_together_122 rfl (lv_at hl 0 rfl) ?_
        refine lv_iload_n hx hb dX9_together_123 rfl (lv_at hl 2 rfl) ?_
        refine lv_iload hx hb dX9_together_124 (lv_at hl 6 rfl) ?_
        refine lv_iload hx hb dX9_together_126 (lv_at hl 5 rfl) ?_
        obtain ⟨h_6, hf⟩ := gd_some hf
        refine lv_irem hx hb dX9_together_128 h_6 ?_
        refine lv_iload hx hb dX9_together_129 (lv_at hl 7 rfl) ?_
        refine lv_iload hx hb dX9_together_131 (lv_at hl 5 rfl) ?_
        obtain ⟨h_7, hf⟩ := gd_some hf
        refine lv_irem hx hb dX9_together_133 h_7 ?_
        refine lv_iload hx hb dX9_together_134 (lv_at hl 8 rfl) ?_
        refine lv_iload hx hb dX9_together_136 (lv_at hl 5 rfl) ?_
        obtain ⟨h_8, hf⟩ := gd_some hf
        refine lv_irem hx hb dX9_together_138 h_8 ?_
        obtain ⟨r_9, hg_9, hf⟩ := bd_some hf
        refine xVi (rest := [.int r_5]) (c_X9_n l dC dI ad cI cJ cT v2 (v6 - v6 / v5 * v5) (v7 - v7 / v5 * v5) (v8 - v8 / v5 * v5) I J hg_9) hfix (cwV 4 hts gX9_together_X9_n rfl rfl rfl (by decide +kernel) ⟨Nat.le_of_ble_eq_true rfl, Nat.le_of_ble_eq_true rfl⟩) hK hP hD hS hA (va_recv hK hP (ci := 8) (q0 := 13) rfl (obM_13 ad cI cJ I J)) rfl hl.1 rfl (Nat.le_of_ble_eq_true rfl) ⟨Nat.zero_le _, Nat.zero_le _⟩ dX9_together_139 (fun H locs hP hD hS => ?_)
        refine lv_imul hx hb dX9_together_142 ?_
        refine lv_istore (lv' := [(9, .int (r_5 * r_9)), (0, .ref (ad 13)), (1, .int v1), (2, .int v2), (3, .int v3), (4, .int v4), (5, .int v5), (6, .int v6), (7, .int v7), (8, .int v8)]) hx hb dX9_together_143 hl (by decide) rfl (fun ls hl => ?_)
        refine lv_iload hx hb dX9_together_145 (lv_at hl 0 rfl) ?_
        refine lv_bipush (v := (9 : Int32)) hx hb dX9_together_147 (by decide) ?_
        refine lv_icmp_le (tgt := 155) hx hb dX9_together_149 (by decide) (fun c_10 => ?_) (fun c_10 => ?_)
        · have hf := (if_pos c_10).symm.trans hf
          refine lv_aload_n hx hb dX9_together_155 rfl (lv_at hl 1 rfl) ?_
          refine lv_bipush (v := (6 : Int32)) hx hb dX9_together_156 (by decide) ?_
          refine lv_iload hx hb dX9_together_158 (lv_at hl 7 rfl) ?_
          refine lv_iload hx hb dX9_together_160 (lv_at hl 8 rfl) ?_
          refine lv_iload hx hb dX9_together_162 (lv_at hl 9 rfl) ?_
          refine lv_iload hx hb dX9_together_164 (lv_at hl 0 rfl) ?_
          obtain ⟨I_11, hg_11, hf⟩ := bd_some hf
          refine xVv (rest := []) (c_X9_lay l dC dI ad cI cJ cT (6 : Int32) v6 v7 v8 (r_5 * r_9) I J hg_11) hfix (cwV 5 hts gX9_together_X9_lay rfl rfl rfl (by decide +kernel) ⟨Nat.le_of_ble_eq_true rfl, Nat.le_of_ble_eq_true rfl⟩) hK hP hD hS hA (va_recv hK hP (ci := 8) (q0 := 13) rfl (obM_13 ad cI cJ I J)) rfl hl.1 rfl (Nat.le_of_ble_eq_true rfl) ⟨Nat.zero_le _, Nat.zero_le _⟩ dX9_together_166 (fun H locs hP hD hS => ?_)
          refine lv_iinc (v := (v8 + (1 : Int32))) (lv' := [(8, .int (v8 + (1 : Int32))), (9, .int (r_5 * r_9)), (0, .ref (ad 13)), (1, .int v1), (2, .int v2), (3, .int v3), (4, .int v4), (5, .int v5), (6, .int v6), (7, .int v7)]) hx hb dX9_together_169 hl (k := 9) rfl (by first | rfl | decide) (by decide) rfl (fun ls hl => ?_)
          refine lv_goto (tgt := 92) hx hb dX9_together_172 (by decide) ?_
          exact ih _ _ _ _ _ hf hP hD hS (lv_sub hl [2, 3, 4, 5, 6, 7, 8, 9, 0] rfl)
        · have hf := (if_neg c_10).symm.trans hf
          exact K0 _ _ _ _ (Option.some.inj hf).symm hP hD hS (lv_sub hl [] rfl)
  have L79 : ∀ (Q : State → Prop) (v1 : Int32) (v2 : Int32) (v3 : Int32) (v4 : Int32) (v5 : Int32) (v6 : Int32) (J : SJ) (o : Nat × SI), (∀  (I : SI) (H : Heap) (locs : List Loc) (ls : Array Slot), o = (0, I) → va_P (dC, dI) vwCl ((wM ad cI cJ) I J) H → va_D A ((wM ad cI cJ) I J) → va_S A s.heap H locs → lv_has ls 10 [] → W p l e ({ frames := 2, cells := 0, slots := 0, locals := 48 } : Room) s m args below meth c H locs 0 0 Q (F0 m 152 ls [])) → (∀  (I : SI) (H : Heap) (locs : List Loc) (ls : Array Slot), o = (1, I) → va_P (dC, dI) vwCl ((wM ad cI cJ) I J) H → va_D A ((wM ad cI cJ) I J) → va_S A s.heap H locs → lv_has ls 10 [(0, .ref (ad 13)), (1, .int v1), (2, .int v2), (3, .int v3), (4, .int v4), (5, .int v5), (6, .int v6)] → W p l e ({ frames := 2, cells := 0, slots := 0, locals := 48 } : Room) s m args below meth c H locs 0 0 Q (F0 m 181 ls [])) → ∀ (n : Nat) (v7 : Int32) (I : SI) (H : Heap) (locs : List Loc) (ls : Array Slot), lp_X9_together_79 v1 v2 v3 v4 v5 v6 n v7 I = some o → va_P (dC, dI) vwCl ((wM ad cI cJ) I J) H → va_D A ((wM ad cI cJ) I J) → va_S A s.heap H locs → lv_has ls 10 [(0, .ref (ad 13)), (1, .int v1), (2, .int v2), (3, .int v3), (4, .int v4), (5, .int v5), (6, .int v6), (7, .int v7)] → W p l e ({ frames := 2, cells := 0, slots := 0, locals := 48 } : Room) s m args below meth c H locs 0 0 Q (F0 m 79 ls []) := by
    intro Q v1 v2 v3 v4 v5 v6 J o K0 K1 n
    clear hP hD hS hl
    induction n with
    | zero =>
      intro v7 I H locs ls hf
      rw [lp_X9_together_79.eq_1] at hf
      cases hf
    | succ n ih =>
      intro v7 I H locs ls hf hP hD hS hl
      rw [lp_X9_together_79.eq_2] at hf
      refine lv_iload hx hb dX9_together_79 (lv_at hl 7 rfl) ?_
      refine lv_iload hx hb dX9_together_81 (lv_at hl 4 rfl) ?_
      refine lv_iload hx hb dX9_together_83 (lv_at hl 5 rfl) ?_
      refine lv_imul hx hb dX9_together_85 ?_
      refine lv_icmp_ge (tgt := 181) hx hb dX9_together_86 (by decide) (fun c_12 => ?_) (fun c_12 => ?_)
      · have hf := (if_pos c_12).symm.trans hf
        exact K1 _ _ _ _ (Option.some.inj hf).symm hP hD hS (lv_sub hl [0, 1, 2, 3, 4, 5, 6] rfl)
      · have hf := (if_neg c_12).symm.trans hf
        refine lv_iconst (v := (0 : Int32)) hx hb dX9_together_89 (by decide) ?_
        refine lv_istore (lv' := [(8, .int (0 : Int32)), (0, .ref (ad 13)), (1, .int v1), (2, .int v2), (3, .int v3), (4, .int v4), (5, .int v5), (6, .int v6), (7, .int v7)]) hx hb dX9_together_90 hl (by decide) rfl (fun ls hl => ?_)
        obtain ⟨o_13, hg_13, hf⟩ := bd_some hf
        refine L92 _ v1 v2 v3 v4 v5 v6 v7 J o_13 ?_ ?_ FU (0 : Int32) I _ _ _ hg_13 hP hD hS (lv_sub hl [1, 2, 3, 4, 5, 6, 7, 8, 0] rfl)
        · intro I_13 H locs ls ho hP hD hS hl
          subst o_13
          have hf := (if_pos (show 0 = 0 from rfl)).symm.trans hf
          exact K0 _ _ _ _ (Option.some.inj hf).symm hP hD hS (lv_sub hl [] rfl)
        · intro I_13 H locs ls ho hP hD hS hl
          subst o_13
          have hf := (if_neg (show ¬ (1 = 0) by decide)).symm.trans hf
          refine lv_iinc (v := (v7 + (1 : Int32))) (lv' := [(7, .int (v7 + (1 : Int32))), (0, .ref (ad 13)), (1, .int v1), (2, .int v2), (3, .int v3), (4, .int v4), (5, .int v5), (6, .int v6)]) hx hb dX9_together_175 hl (k := 7) rfl (by first | rfl | decide) (by decide) rfl (fun ls hl => ?_)
          refine lv_goto (tgt := 79) hx hb dX9_together_178 (by decide) ?_
          exact ih _ _ _ _ _ hf hP hD hS (lv_sub hl [1, 2, 3, 4, 5, 6, 7, 0] rfl)
  have L66 : ∀ (Q : State → Prop) (v1 : Int32) (v2 : Int32) (v3 : Int32) (v4 : Int32) (v5 : Int32) (J : SJ) (o : Nat × SI), (∀  (I : SI) (H : Heap) (locs : List Loc) (ls : Array Slot), o = (0, I) → va_P (dC, dI) vwCl ((wM ad cI cJ) I J) H → va_D A ((wM ad cI cJ) I J) → va_S A s.heap H locs → lv_has ls 10 [] → W p l e ({ frames := 2, cells := 0, slots := 0, locals := 48 } : Room) s m args below meth c H locs 0 0 Q (F0 m 152 ls [])) → (∀  (I : SI) (H : Heap) (locs : List Loc) (ls : Array Slot), o = (1, I) → va_P (dC, dI) vwCl ((wM ad cI cJ) I J) H → va_D A ((wM ad cI cJ) I J) → va_S A s.heap H locs → lv_has ls 10 [(0, .ref (ad 13)), (3, .int v3), (4, .int v4), (5, .int v5)] → W p l e ({ frames := 2, cells := 0, slots := 0, locals := 48 } : Room) s m args below meth c H locs 0 0 Q (F0 m 187 ls [])) → ∀ (n : Nat) (v6 : Int32) (I : SI) (H : Heap) (locs : List Loc) (ls : Array Slot), lp_X9_together_66 v1 v2 v3 v4 v5 n v6 I = some o → va_P (dC, dI) vwCl ((wM ad cI cJ) I J) H → va_D A ((wM ad cI cJ) I J) → va_S A s.heap H locs → lv_has ls 10 [(0, .ref (ad 13)), (1, .int v1), (2, .int v2), (3, .int v3), (4, .int v4), (5, .int v5), (6, .int v6)] → W p l e ({ frames := 2, cells := 0, slots := 0, locals := 48 } : Room) s m args below meth c H locs 0 0 Q (F0 m 66 ls []) := by
    intro Q v1 v2 v3 v4 v5 J o K0 K1 n
    clear hP hD hS hl
    induction n with
    | zero =>
      intro v6 I H locs ls hf
      rw [lp_X9_together_66.eq_1] at hf
      cases hf
    | succ n ih =>
      intro v6 I H locs ls hf hP hD hS hl
      rw [lp_X9_together_66.eq_2] at hf
      refine lv_iload hx hb dX9_together_66 (lv_at hl 6 rfl) ?_
      refine lv_iload hx hb dX9_together_68 (lv_at hl 4 rfl) ?_
      refine lv_iload hx hb dX9_together_70 (lv_at hl 5 rfl) ?_
      refine lv_imul hx hb dX9_together_72 ?_
      refine lv_icmp_ge (tgt := 187) hx hb dX9_together_73 (by decide) (fun c_14 => ?_) (fun c_14 => ?_)
      · have hf := (if_pos c_14).symm.trans hf
        exact K1 _ _ _ _ (Option.some.inj hf).symm hP hD hS (lv_sub hl [0, 3, 4, 5] rfl)
      · have hf := (if_neg c_14).symm.trans hf
        refine lv_iconst (v := (0 : Int32)) hx hb dX9_together_76 (by decide) ?_
        refine lv_istore (lv' := [(7, .int (0 : Int32)), (0, .ref (ad 13)), (1, .int v1), (2, .int v2), (3, .int v3), (4, .int v4), (5, .int v5), (6, .int v6)]) hx hb dX9_together_77 hl (by decide) rfl (fun ls hl => ?_)
        obtain ⟨o_15, hg_15, hf⟩ := bd_some hf
        refine L79 _ v1 v2 v3 v4 v5 v6 J o_15 ?_ ?_ FU (0 : Int32) I _ _ _ hg_15 hP hD hS (lv_sub hl [1, 2, 3, 4, 5, 6, 7, 0] rfl)
        · intro I_15 H locs ls ho hP hD hS hl
          subst o_15
          have hf := (if_pos (show 0 = 0 from rfl)).symm.trans hf
          exact K0 _ _ _ _ (Option.some.inj hf).symm hP hD hS (lv_sub hl [] rfl)
        · intro I_15 H locs ls ho hP hD hS hl
          subst o_15
          have hf := (if_neg (show ¬ (1 = 0) by decide)).symm.trans hf
          refine lv_iinc (v := (v6 + (1 : Int32))) (lv' := [(6, .int (v6 + (1 : Int32))), (0, .ref (ad 13)), (1, .int v1), (2, .int v2), (3, .int v3), (4, .int v4), (5, .int v5)]) hx hb dX9_together_181 hl (k := 6) rfl (by first | rfl | decide) (by decide) rfl (fun ls hl => ?_)
          refine lv_goto (tgt := 66) hx hb dX9_together_184 (by decide) ?_
          exact ih _ _ _ _ _ hf hP hD hS (lv_sub hl [1, 2, 3, 4, 5, 6, 0] rfl)
  unfold f_X9_together at hf
  refine lv_iload_n hx hb dX9_together_0 rfl (lv_at hl 1 rfl) ?_
  obtain ⟨r_16, hg_16, hf⟩ := bd_some hf
  refine xSi (rest := []) (c_X9_noTable l dC dI ad cI cJ cT p1 I J hg_16) hfix (va_cwS 1 hts gX9_together_X9_noTable rfl rfl rfl (by decide +kernel) ⟨Nat.le_of_ble_eq_true rfl, Nat.le_of_ble_eq_true rfl⟩) hK hP hD hS hA rfl hl.1 rfl (Nat.le_of_ble_eq_true rfl) ⟨Nat.zero_le _, Nat.zero_le _⟩ dX9_together_1 (fun H locs hP hD hS => ?_)
  refine lv_if_ne (tgt := 21) hx hb dX9_together_4 (by decide) (fun c_17 => ?_) (fun c_17 => ?_)
  · have hf := (if_neg c_17).symm.trans hf
    refine lv_bipush (v := (-2 : Int32)) hx hb dX9_together_21 (by decide) ?_
    cases hf
    exact xRi hx hb hr hlocks hK hP hD hS (fun _ h => h) dX9_together_23
  · have hf := (if_pos c_17).symm.trans hf
    refine lv_iload_n hx hb dX9_together_7 rfl (lv_at hl 2 rfl) ?_
    obtain ⟨r_18, hg_18, hf⟩ := bd_some hf
    refine xSi (rest := []) (c_X9_noTable l dC dI ad cI cJ cT p2 I J hg_18) hfix (va_cwS 1 hts gX9_together_X9_noTable rfl rfl rfl (by decide +kernel) ⟨Nat.le_of_ble_eq_true rfl, Nat.le_of_ble_eq_true rfl⟩) hK hP hD hS hA rfl hl.1 rfl (Nat.le_of_ble_eq_true rfl) ⟨Nat.zero_le _, Nat.zero_le _⟩ dX9_together_8 (fun H locs hP hD hS => ?_)
    refine lv_if_ne (tgt := 21) hx hb dX9_together_11 (by decide) (fun c_19 => ?_) (fun c_19 => ?_)
    · have hf := (if_neg c_19).symm.trans hf
      refine lv_bipush (v := (-2 : Int32)) hx hb dX9_together_21 (by decide) ?_
      cases hf
      exact xRi hx hb hr hlocks hK hP hD hS (fun _ h => h) dX9_together_23
    · have hf := (if_pos c_19).symm.trans hf
      refine lv_iload_n hx hb dX9_together_14 rfl (lv_at hl 3 rfl) ?_
      obtain ⟨r_20, hg_20, hf⟩ := bd_some hf
      refine xSi (rest := []) (c_X9_noTable l dC dI ad cI cJ cT p3 I J hg_20) hfix (va_cwS 1 hts gX9_together_X9_noTable rfl rfl rfl (by decide +kernel) ⟨Nat.le_of_ble_eq_true rfl, Nat.le_of_ble_eq_true rfl⟩) hK hP hD hS hA rfl hl.1 rfl (Nat.le_of_ble_eq_true rfl) ⟨Nat.zero_le _, Nat.zero_le _⟩ dX9_together_15 (fun H locs hP hD hS => ?_)
      refine lv_if_eq (tgt := 24) hx hb dX9_together_18 (by decide) (fun c_21 => ?_) (fun c_21 => ?_)
      · have hf := (if_pos c_21).symm.trans hf
        refine lv_aload_n hx hb dX9_together_24 rfl (lv_at hl 0 rfl) ?_
        refine va_get (D := (dC, dI)) (ci := 8) (v := .ref (ad 0)) (C := RX9) (T := TX9) (N := 15) hx hb hts in_X9 hown hK hP 13 (obM_13 ad cI cJ I J) rfl 0 (by decide) wd_0 (fun _ h9 => h9) rfl dX9_together_25 ?_
        refine lv_iload_n hx hb dX9_together_28 rfl (lv_at hl 1 rfl) ?_
        obtain ⟨h_22, hf⟩ := gd_some hf
        refine x_iald hx hb hK (aiM_0 ad cI cJ) hP h_22 dX9_together_29 ?_
        refine lv_istore (lv' := [(4, .int (I 0 p1.toNatClampNeg)), (0, .ref (ad 13)), (1, .int p1), (2, .int p2), (3, .int p3)]) hx hb dX9_together_30 hl (by decide) rfl (fun ls hl => ?_)
        refine lv_aload_n hx hb dX9_together_32 rfl (lv_at hl 1 rfl) ?_
        refine va_get (D := (dC, dI)) (ci := 8) (v := .ref (ad 0)) (C := RX9) (T := TX9) (N := 15) hx hb hts in_X9 hown hK hP 13 (obM_13 ad cI cJ I J) rfl 0 (by decide) wd_0 (fun _ h9 => h9) rfl dX9_together_33 ?_
        refine lv_iload_n hx hb dX9_together_36 rfl (lv_at hl 3 rfl) ?_
        obtain ⟨h_23, hf⟩ := gd_some hf
        refine x_iald hx hb hK (aiM_0 ad cI cJ) hP h_23 dX9_together_37 ?_
        refine lv_istore (lv' := [(5, .int (I 0 p2.toNatClampNeg)), (4, .int (I 0 p1.toNatClampNeg)), (0, .ref (ad 13)), (1, .int p1), (2, .int p2), (3, .int p3)]) hx hb dX9_together_38 hl (by decide) rfl (fun ls hl => ?_)
        refine lv_iload hx hb dX9_together_40 (lv_at hl 1 rfl) ?_
        refine lv_iload hx hb dX9_together_42 (lv_at hl 0 rfl) ?_
        refine lv_imul hx hb dX9_together_44 ?_
        refine lv_iconst (v := (5 : Int32)) hx hb dX9_together_45 (by decide) ?_
        refine lv_icmp_le (tgt := 52) hx hb dX9_together_46 (by decide) (fun c_24 => ?_) (fun c_24 => ?_)
        · have hf := (if_pos c_24).symm.trans hf
          refine lv_aload_n hx hb dX9_together_52 rfl (lv_at hl 2 rfl) ?_
          refine lv_bipush (v := (6 : Int32)) hx hb dX9_together_53 (by decide) ?_
          refine lv_iload hx hb dX9_together_55 (lv_at hl 1 rfl) ?_
          refine lv_iload hx hb dX9_together_57 (lv_at hl 0 rfl) ?_
          refine lv_imul hx hb dX9_together_59 ?_
          obtain ⟨I_25, hg_25, hf⟩ := bd_some hf
          refine xVv (rest := []) (c_X9_begin l dC dI ad cI cJ cT (6 : Int32) ((I 0 p1.toNatClampNeg) * (I 0 p2.toNatClampNeg)) I J hg_25) hfix (cwV 2 hts gX9_together_X9_begin rfl rfl rfl (by decide +kernel) ⟨Nat.le_of_ble_eq_true rfl, Nat.le_of_ble_eq_true rfl⟩) hK hP hD hS hA (va_recv hK hP (ci := 8) (q0 := 13) rfl (obM_13 ad cI cJ I J)) rfl hl.1 rfl (Nat.le_of_ble_eq_true rfl) ⟨Nat.zero_le _, Nat.zero_le _⟩ dX9_together_60 (fun H locs hP hD hS => ?_)
          refine lv_iconst (v := (0 : Int32)) hx hb dX9_together_63 (by decide) ?_
          refine lv_istore (lv' := [(6, .int (0 : Int32)), (5, .int (I 0 p2.toNatClampNeg)), (4, .int (I 0 p1.toNatClampNeg)), (0, .ref (ad 13)), (1, .int p1), (2, .int p2), (3, .int p3)]) hx hb dX9_together_64 hl (by decide) rfl (fun ls hl => ?_)
          obtain ⟨o_26, hg_26, hf⟩ := bd_some hf
          refine L66 _ p1 p2 p3 (I 0 p1.toNatClampNeg) (I 0 p2.toNatClampNeg) J o_26 ?_ ?_ FU (0 : Int32) I_25 _ _ _ hg_26 hP hD hS (lv_sub hl [3, 4, 5, 6, 2, 1, 0] rfl)
          · intro I_26 H locs ls ho hP hD hS hl
            subst o_26
            have hf := (if_pos (show 0 = 0 from rfl)).symm.trans hf
            refine lv_bipush (v := (-3 : Int32)) hx hb dX9_together_152 (by decide) ?_
            cases hf
            exact xRi hx hb hr hlocks hK hP hD hS (fun _ h => h) dX9_together_154
          · intro I_26 H locs ls ho hP hD hS hl
            subst o_26
            have hf := (if_neg (show ¬ (1 = 0) by decide)).symm.trans hf
            refine lv_aload_n hx hb dX9_together_187 rfl (lv_at hl 0 rfl) ?_
            refine lv_bipush (v := (6 : Int32)) hx hb dX9_together_188 (by decide) ?_
            refine lv_iload_n hx hb dX9_together_190 rfl (lv_at hl 1 rfl) ?_
            obtain ⟨I_27, hg_27, hf⟩ := bd_some hf
            refine xVv (rest := []) (c_X9_carry l dC dI ad cI cJ cT (6 : Int32) p3 I_26 J hg_27) hfix (cwV 2 hts gX9_together_X9_carry rfl rfl rfl (by decide +kernel) ⟨Nat.le_of_ble_eq_true rfl, Nat.le_of_ble_eq_true rfl⟩) hK hP hD hS hA (va_recv hK hP (ci := 8) (q0 := 13) rfl (obM_13 ad cI cJ I_26 J)) rfl hl.1 rfl (Nat.le_of_ble_eq_true rfl) ⟨Nat.zero_le _, Nat.zero_le _⟩ dX9_together_191 (fun H locs hP hD hS => ?_)
            refine lv_iload hx hb dX9_together_194 (lv_at hl 2 rfl) ?_
            refine lv_iload hx hb dX9_together_196 (lv_at hl 3 rfl) ?_
            refine lv_imul hx hb dX9_together_198 ?_
            cases hf
            exact xRi hx hb hr hlocks hK hP hD hS (fun _ h => h) dX9_together_199
        · have hf := (if_neg c_24).symm.trans hf
          refine lv_bipush (v := (-3 : Int32)) hx hb dX9_together_49 (by decide) ?_
          cases hf
          exact xRi hx hb hr hlocks hK hP hD hS (fun _ h => h) dX9_together_51
      · have hf := (if_neg c_21).symm.trans hf
        refine lv_bipush (v := (-2 : Int32)) hx hb dX9_together_21 (by decide) ?_
        cases hf
        exact xRi hx hb hr hlocks hK hP hD hS (fun _ h => h) dX9_together_23
set_option maxHeartbeats 4000000 in
set_option maxRecDepth 100000 in
theorem c_X9_mate (l : Launch) (dC : Nat → ClassId) (dI : Nat → Nat → Nat) (ad : Nat → Nat) (cI cJ cT : ClassId) (p0 : Int32) (p1 : Int32) (I : SI) (J : SJ) {r0 : Int32} (hf : f_X9_mate p0 p1 = some r0) : CtI l yX9_mate wsX9_mate ({ frames := 0, cells := 0, slots := 0, locals := 0 } : Room) (dC, dI) (tys3 cI cJ cT) (wM ad cI cJ) [.int p0, .int p1] I J r0 I J := by
  intro sz
  refine Met.ofW (cc := cX9_mate) (maxL := 2) (ret := (some .int)) (by decide) rfl ?_
  intro p e s m args below meth c s₁ B hml hv
  obtain ⟨hargs, hsz, hP, hK, hD0⟩ := hv
  have hx := B.exec
  have hb := B.bytes
  have hr := B.returns
  have hts := atoms_spec (ws := wsX9_mate) B.pre
  have hown : s.vm.findClass RX9 = some m.cls := findClass_of_methodNamed B.named
  have hlocks := B.notSynchronized
  subst hsz
  have hD := hD0.self (sz := s.heap.size)
  generalize hAe : va_A ((wM ad cI cJ) I J) s.heap.size = A at hD ⊢
  have hA : ∀ q : Nat, s.heap.size ≤ q → A q := fun q h => by rw [← hAe]; exact Or.inr h
  have hS : va_S A s.heap s.heap [] := va_S.rf
  have hl := lv_entry ([.int p0, .int p1]) (n := 2) (Nat.le_of_ble_eq_true rfl)
  rw [hargs, lg_entry_eq, ← hargs]
  generalize (lg_sl ([.int p0, .int p1]) ++ List.replicate (2 - (lg_sl ([.int p0, .int p1])).length) Slot.unset).toArray = ls at hl ⊢
  have hl : lv_has ls 2 [(0, .int p0), (1, .int p1)] := hl
  have hfix : CallFix p m c cX9_mate 2 s args wsX9_mate RX9 := ⟨hx, hb, hml, hown, hts⟩
  unfold f_X9_mate at hf
  refine lv_iload_n hx hb dX9_mate_0 rfl (lv_at hl 1 rfl) ?_
  refine lv_iconst (v := (1 : Int32)) hx hb dX9_mate_1 (by decide) ?_
  refine lv_icmp_ne (tgt := 21) hx hb dX9_mate_2 (by decide) (fun c_1 => ?_) (fun c_1 => ?_)
  · have hf := (if_neg c_1).symm.trans hf
    refine lv_iload_n hx hb dX9_mate_21 rfl (lv_at hl 0 rfl) ?_
    cases hf
    exact xRi hx hb hr hlocks hK hP hD hS (fun _ h => h) dX9_mate_22
  · have hf := (if_pos c_1).symm.trans hf
    refine lv_iload_n hx hb dX9_mate_5 rfl (lv_at hl 0 rfl) ?_
    refine lv_iconst (v := (1 : Int32)) hx hb dX9_mate_6 (by decide) ?_
    refine lv_icmp_eq (tgt := 15) hx hb dX9_mate_7 (by decide) (fun c_2 => ?_) (fun c_2 => ?_)
    · have hf := (if_pos c_2).symm.trans hf
      refine lv_iconst (v := (3 : Int32)) hx hb dX9_mate_15 (by decide) ?_
      refine lv_iload_n hx hb dX9_mate_16 rfl (lv_at hl 0 rfl) ?_
      refine lv_isub hx hb dX9_mate_17 ?_
      refine lv_goto (tgt := 22) hx hb dX9_mate_18 (by decide) ?_
      cases hf
      exact xRi hx hb hr hlocks hK hP hD hS (fun _ h => h) dX9_mate_22
    · have hf := (if_neg c_2).symm.trans hf
      refine lv_iload_n hx hb dX9_mate_10 rfl (lv_at hl 0 rfl) ?_
      refine lv_iconst (v := (2 : Int32)) hx hb dX9_mate_11 (by decide) ?_
      refine lv_icmp_ne (tgt := 21) hx hb dX9_mate_12 (by decide) (fun c_3 => ?_) (fun c_3 => ?_)
      · have hf := (if_neg c_3).symm.trans hf
        refine lv_iload_n hx hb dX9_mate_21 rfl (lv_at hl 0 rfl) ?_
        cases hf
        exact xRi hx hb hr hlocks hK hP hD hS (fun _ h => h) dX9_mate_22
      · have hf := (if_pos c_3).symm.trans hf
        refine lv_iconst (v := (3 : Int32)) hx hb dX9_mate_15 (by decide) ?_
        refine lv_iload_n hx hb dX9_mate_16 rfl (lv_at hl 0 rfl) ?_
        refine lv_isub hx hb dX9_mate_17 ?_
        refine lv_goto (tgt := 22) hx hb dX9_mate_18 (by decide) ?_
        cases hf
        exact xRi hx hb hr hlocks hK hP hD hS (fun _ h => h) dX9_mate_22
set_option maxHeartbeats 4000000 in
set_option maxRecDepth 100000 in
theorem c_X9_placeOf (l : Launch) (dC : Nat → ClassId) (dI : Nat → Nat → Nat) (ad : Nat → Nat) (cI cJ cT : ClassId) (p0 : Int32) (p1 : Int32) (p2 : Int32) (I : SI) (J : SJ) {r0 : Int32} (hf : f_X9_placeOf p0 p1 p2 = some r0) : CtI l yX9_placeOf wsX9_placeOf ({ frames := 0, cells := 0, slots := 0, locals := 0 } : Room) (dC, dI) (tys3 cI cJ cT) (wM ad cI cJ) [.int p0, .int p1, .int p2] I J r0 I J := by
  intro sz
  refine Met.ofW (cc := cX9_placeOf) (maxL := 3) (ret := (some .int)) (by decide) rfl ?_
  intro p e s m args below meth c s₁ B hml hv
  obtain ⟨hargs, hsz, hP, hK, hD0⟩ := hv
  have hx := B.exec
  have hb := B.bytes
  have hr := B.returns
  have hts := atoms_spec (ws := wsX9_placeOf) B.pre
  have hown : s.vm.findClass RX9 = some m.cls := findClass_of_methodNamed B.named
  have hlocks := B.notSynchronized
  subst hsz
  have hD := hD0.self (sz := s.heap.size)
  generalize hAe : va_A ((wM ad cI cJ) I J) s.heap.size = A at hD ⊢
  have hA : ∀ q : Nat, s.heap.size ≤ q → A q := fun q h => by rw [← hAe]; exact Or.inr h
  have hS : va_S A s.heap s.heap [] := va_S.rf
  have hl := lv_entry ([.int p0, .int p1, .int p2]) (n := 3) (Nat.le_of_ble_eq_true rfl)
  rw [hargs, lg_entry_eq, ← hargs]
  generalize (lg_sl ([.int p0, .int p1, .int p2]) ++ List.replicate (3 - (lg_sl ([.int p0, .int p1, .int p2])).length) Slot.unset).toArray = ls at hl ⊢
  have hl : lv_has ls 3 [(0, .int p0), (1, .int p1), (2, .int p2)] := hl
  have hfix : CallFix p m c cX9_placeOf 3 s args wsX9_placeOf RX9 := ⟨hx, hb, hml, hown, hts⟩
  unfold f_X9_placeOf at hf
  refine lv_bipush (v := (25 : Int32)) hx hb dX9_placeOf_0 (by decide) ?_
  refine lv_iload_n hx hb dX9_placeOf_2 rfl (lv_at hl 0 rfl) ?_
  refine lv_imul hx hb dX9_placeOf_3 ?_
  refine lv_iconst (v := (5 : Int32)) hx hb dX9_placeOf_4 (by decide) ?_
  refine lv_iload_n hx hb dX9_placeOf_5 rfl (lv_at hl 1 rfl) ?_
  refine lv_imul hx hb dX9_placeOf_6 ?_
  refine lv_iadd hx hb dX9_placeOf_7 ?_
  refine lv_iload_n hx hb dX9_placeOf_8 rfl (lv_at hl 2 rfl) ?_
  refine lv_iadd hx hb dX9_placeOf_9 ?_
  cases hf
  exact xRi hx hb hr hlocks hK hP hD hS (fun _ h => h) dX9_placeOf_10
set_option maxHeartbeats 4000000 in
set_option maxRecDepth 100000 in
theorem c_X9_join (l : Launch) (dC : Nat → ClassId) (dI : Nat → Nat → Nat) (ad : Nat → Nat) (cI cJ cT : ClassId) (p1 : Int32) (p2 : Int32) (I : SI) (J : SJ) {r0 : Int32} {I0 : SI} (hf : f_X9_join p1 p2 I = some (r0, I0)) : CtI l yX9_join wsX9_join ({ frames := 0, cells := 0, slots := 0, locals := 0 } : Room) (dC, dI) (tys3 cI cJ cT) (wM ad cI cJ) [.ref (ad 13), .int p1, .int p2] I J r0 I0 J := by
  intro sz
  refine Met.ofW (cc := cX9_join) (maxL := 5) (ret := (some .boolean)) (by decide) rfl ?_
  intro p e s m args below meth c s₁ B hml hv
  obtain ⟨hargs, hsz, hP, hK, hD0⟩ := hv
  have hx := B.exec
  have hb := B.bytes
  have hr := B.returns
  have hts := atoms_spec (ws := wsX9_join) B.pre
  have hown : s.vm.findClass RX9 = some m.cls := findClass_of_methodNamed B.named
  have hlocks := B.notSynchronized
  subst hsz
  have hD := hD0.self (sz := s.heap.size)
  generalize hAe : va_A ((wM ad cI cJ) I J) s.heap.size = A at hD ⊢
  have hA : ∀ q : Nat, s.heap.size ≤ q → A q := fun q h => by rw [← hAe]; exact Or.inr h
  have hS : va_S A s.heap s.heap [] := va_S.rf
  have hl := lv_entry ([.ref (ad 13), .int p1, .int p2]) (n := 5) (Nat.le_of_ble_eq_true rfl)
  rw [hargs, lg_entry_eq, ← hargs]
  generalize (lg_sl ([.ref (ad 13), .int p1, .int p2]) ++ List.replicate (5 - (lg_sl ([.ref (ad 13), .int p1, .int p2])).length) Slot.unset).toArray = ls at hl ⊢
  have hl : lv_has ls 5 [(0, .ref (ad 13)), (1, .int p1), (2, .int p2)] := hl
  have hfix : CallFix p m c cX9_join 5 s args wsX9_join RX9 := ⟨hx, hb, hml, hown, hts⟩
  have in_X9 : ∀ w ∈ u_ws RX9 TX9 15, w ∈ wsX9_join := by decide +kernel
  have wd_0 := hts (.fieldLink RX9 22 "FuseBenchModel" "like" "[I") (by decide +kernel)
  unfold f_X9_join at hf
  refine lv_aload_n hx hb dX9_join_0 rfl (lv_at hl 0 rfl) ?_
  refine va_get (D := (dC, dI)) (ci := 8) (v := .ref (ad 4)) (C := RX9) (T := TX9) (N := 15) hx hb hts in_X9 hown hK hP 13 (obM_13 ad cI cJ I J) rfl 4 (by decide) wd_0 (fun _ h9 => h9) rfl dX9_join_1 ?_
  refine lv_iload_n hx hb dX9_join_4 rfl (lv_at hl 1 rfl) ?_
  obtain ⟨h_1, hf⟩ := gd_some hf
  refine x_iald hx hb hK (aiM_4 ad cI cJ) hP h_1 dX9_join_5 ?_
  refine lv_aload_n hx hb dX9_join_6 rfl (lv_at hl 0 rfl) ?_
  refine va_get (D := (dC, dI)) (ci := 8) (v := .ref (ad 4)) (C := RX9) (T := TX9) (N := 15) hx hb hts in_X9 hown hK hP 13 (obM_13 ad cI cJ I J) rfl 4 (by decide) wd_0 (fun _ h9 => h9) rfl dX9_join_7 ?_
  refine lv_iload_n hx hb dX9_join_10 rfl (lv_at hl 2 rfl) ?_
  obtain ⟨h_2, hf⟩ := gd_some hf
  refine x_iald hx hb hK (aiM_4 ad cI cJ) hP h_2 dX9_join_11 ?_
  refine lv_icmp_ge (tgt := 24) hx hb dX9_join_12 (by decide) (fun c_3 => ?_) (fun c_3 => ?_)
  · have hf := (if_pos c_3).symm.trans hf
    refine lv_aload_n hx hb dX9_join_24 rfl (lv_at hl 0 rfl) ?_
    refine va_get (D := (dC, dI)) (ci := 8) (v := .ref (ad 4)) (C := RX9) (T := TX9) (N := 15) hx hb hts in_X9 hown hK hP 13 (obM_13 ad cI cJ I J) rfl 4 (by decide) wd_0 (fun _ h9 => h9) rfl dX9_join_25 ?_
    refine lv_iload_n hx hb dX9_join_28 rfl (lv_at hl 2 rfl) ?_
    obtain ⟨h_4, hf⟩ := gd_some hf
    refine x_iald hx hb hK (aiM_4 ad cI cJ) hP h_4 dX9_join_29 ?_
    refine lv_istore_n (lv' := [(3, .int (I 4 p2.toNatClampNeg)), (0, .ref (ad 13)), (1, .int p1), (2, .int p2)]) hx hb dX9_join_30 rfl hl (by decide) rfl (fun ls hl => ?_)
    refine lv_aload_n hx hb dX9_join_31 rfl (lv_at hl 1 rfl) ?_
    refine va_get (D := (dC, dI)) (ci := 8) (v := .ref (ad 4)) (C := RX9) (T := TX9) (N := 15) hx hb hts in_X9 hown hK hP 13 (obM_13 ad cI cJ I J) rfl 4 (by decide) wd_0 (fun _ h9 => h9) rfl dX9_join_32 ?_
    refine lv_iload_n hx hb dX9_join_35 rfl (lv_at hl 2 rfl) ?_
    obtain ⟨h_5, hf⟩ := gd_some hf
    refine x_iald hx hb hK (aiM_4 ad cI cJ) hP h_5 dX9_join_36 ?_
    refine lv_aload_n hx hb dX9_join_37 rfl (lv_at hl 1 rfl) ?_
    refine va_get (D := (dC, dI)) (ci := 8) (v := .ref (ad 4)) (C := RX9) (T := TX9) (N := 15) hx hb hts in_X9 hown hK hP 13 (obM_13 ad cI cJ I J) rfl 4 (by decide) wd_0 (fun _ h9 => h9) rfl dX9_join_38 ?_
    refine lv_iload_n hx hb dX9_join_41 rfl (lv_at hl 3 rfl) ?_
    obtain ⟨h_6, hf⟩ := gd_some hf
    refine x_iald hx hb hK (aiM_4 ad cI cJ) hP h_6 dX9_join_42 ?_
    refine lv_icmp_eq (tgt := 50) hx hb dX9_join_43 (by decide) (fun c_7 => ?_) (fun c_7 => ?_)
    · have hf := (if_pos c_7).symm.trans hf
      refine lv_iconst (v := (0 : Int32)) hx hb dX9_join_50 (by decide) ?_
      refine lv_istore (lv' := [(4, .int (0 : Int32)), (3, .int (I 4 p2.toNatClampNeg)), (0, .ref (ad 13)), (1, .int p1), (2, .int p2)]) hx hb dX9_join_51 hl (by decide) rfl (fun ls hl => ?_)
      refine lv_aload_n hx hb dX9_join_53 rfl (lv_at hl 2 rfl) ?_
      refine va_get (D := (dC, dI)) (ci := 8) (v := .ref (ad 4)) (C := RX9) (T := TX9) (N := 15) hx hb hts in_X9 hown hK hP 13 (obM_13 ad cI cJ I J) rfl 4 (by decide) wd_0 (fun _ h9 => h9) rfl dX9_join_54 ?_
      refine lv_iload_n hx hb dX9_join_57 rfl (lv_at hl 3 rfl) ?_
      refine lv_iload_n hx hb dX9_join_58 rfl (lv_at hl 1 rfl) ?_
      obtain ⟨h_8, hf⟩ := gd_some hf
      refine x_iast hx hb hK (aiM_4 ad cI cJ) hP hD hS h_8 dX9_join_59 (fun H locs hP hD hS => ?_)
      refine lv_aload_n hx hb dX9_join_60 rfl (lv_at hl 2 rfl) ?_
      refine va_get (D := (dC, dI)) (ci := 8) (v := .ref (ad 4)) (C := RX9) (T := TX9) (N := 15) hx hb hts in_X9 hown hK hP 13 (obM_13 ad cI cJ (ups I 4 p1.toNatClampNeg (I 4 p2.toNatClampNeg)) J) rfl 4 (by decide) wd_0 (fun _ h9 => h9) rfl dX9_join_61 ?_
      refine lv_iload_n hx hb dX9_join_64 rfl (lv_at hl 4 rfl) ?_
      refine lv_iload_n hx hb dX9_join_65 rfl (lv_at hl 1 rfl) ?_
      obtain ⟨h_9, hf⟩ := gd_some hf
      refine x_iast hx hb hK (aiM_4 ad cI cJ) hP hD hS h_9 dX9_join_66 (fun H locs hP hD hS => ?_)
      refine lv_iload hx hb dX9_join_67 (lv_at hl 0 rfl) ?_
      cases hf
      exact xRz hx hb hr hlocks rfl hK hP hD hS (fun _ h => h) dX9_join_69
    · have hf := (if_neg c_7).symm.trans hf
      refine lv_iconst (v := (1 : Int32)) hx hb dX9_join_46 (by decide) ?_
      refine lv_goto (tgt := 51) hx hb dX9_join_47 (by decide) ?_
      refine lv_istore (lv' := [(4, .int (1 : Int32)), (3, .int (I 4 p2.toNatClampNeg)), (0, .ref (ad 13)), (1, .int p1), (2, .int p2)]) hx hb dX9_join_51 hl (by decide) rfl (fun ls hl => ?_)
      refine lv_aload_n hx hb dX9_join_53 rfl (lv_at hl 2 rfl) ?_
      refine va_get (D := (dC, dI)) (ci := 8) (v := .ref (ad 4)) (C := RX9) (T := TX9) (N := 15) hx hb hts in_X9 hown hK hP 13 (obM_13 ad cI cJ I J) rfl 4 (by decide) wd_0 (fun _ h9 => h9) rfl dX9_join_54 ?_
      refine lv_iload_n hx hb dX9_join_57 rfl (lv_at hl 3 rfl) ?_
      refine lv_iload_n hx hb dX9_join_58 rfl (lv_at hl 1 rfl) ?_
      obtain ⟨h_10, hf⟩ := gd_some hf
      refine x_iast hx hb hK (aiM_4 ad cI cJ) hP hD hS h_10 dX9_join_59 (fun H locs hP hD hS => ?_)
      refine lv_aload_n hx hb dX9_join_60 rfl (lv_at hl 2 rfl) ?_
      refine va_get (D := (dC, dI)) (ci := 8) (v := .ref (ad 4)) (C := RX9) (T := TX9) (N := 15) hx hb hts in_X9 hown hK hP 13 (obM_13 ad cI cJ (ups I 4 p1.toNatClampNeg (I 4 p2.toNatClampNeg)) J) rfl 4 (by decide) wd_0 (fun _ h9 => h9) rfl dX9_join_61 ?_
      refine lv_iload_n hx hb dX9_join_64 rfl (lv_at hl 4 rfl) ?_
      refine lv_iload_n hx hb dX9_join_65 rfl (lv_at hl 1 rfl) ?_
      obtain ⟨h_11, hf⟩ := gd_some hf
      refine x_iast hx hb hK (aiM_4 ad cI cJ) hP hD hS h_11 dX9_join_66 (fun H locs hP hD hS => ?_)
      refine lv_iload hx hb dX9_join_67 (lv_at hl 0 rfl) ?_
      cases hf
      exact xRz hx hb hr hlocks rfl hK hP hD hS (fun _ h => h) dX9_join_69
  · have hf := (if_neg c_3).symm.trans hf
    refine lv_aload_n hx hb dX9_join_15 rfl (lv_at hl 0 rfl) ?_
    refine va_get (D := (dC, dI)) (ci := 8) (v := .ref (ad 4)) (C := RX9) (T := TX9) (N := 15) hx hb hts in_X9 hown hK hP 13 (obM_13 ad cI cJ I J) rfl 4 (by decide) wd_0 (fun _ h9 => h9) rfl dX9_join_16 ?_
    refine lv_iload_n hx hb dX9_join_19 rfl (lv_at hl 1 rfl) ?_
    obtain ⟨h_12, hf⟩ := gd_some hf
    refine x_iald hx hb hK (aiM_4 ad cI cJ) hP h_12 dX9_join_20 ?_
    refine lv_goto (tgt := 30) hx hb dX9_join_21 (by decide) ?_
    refine lv_istore_n (lv' := [(3, .int (I 4 p1.toNatClampNeg)), (0, .ref (ad 13)), (1, .int p1), (2, .int p2)]) hx hb dX9_join_30 rfl hl (by decide) rfl (fun ls hl => ?_)
    refine lv_aload_n hx hb dX9_join_31 rfl (lv_at hl 1 rfl) ?_
    refine va_get (D := (dC, dI)) (ci := 8) (v := .ref (ad 4)) (C := RX9) (T := TX9) (N := 15) hx hb hts in_X9 hown hK hP 13 (obM_13 ad cI cJ I J) rfl 4 (by decide) wd_0 (fun _ h9 => h9) rfl dX9_join_32 ?_
    refine lv_iload_n hx hb dX9_join_35 rfl (lv_at hl 2 rfl) ?_
    obtain ⟨h_13, hf⟩ := gd_some hf
    refine x_iald hx hb hK (aiM_4 ad cI cJ) hP h_13 dX9_join_36 ?_
    refine lv_aload_n hx hb dX9_join_37 rfl (lv_at hl 1 rfl) ?_
    refine va_get (D := (dC, dI)) (ci := 8) (v := .ref (ad 4)) (C := RX9) (T := TX9) (N := 15) hx hb hts in_X9 hown hK hP 13 (obM_13 ad cI cJ I J) rfl 4 (by decide) wd_0 (fun _ h9 => h9) rfl dX9_join_38 ?_
    refine lv_iload_n hx hb dX9_join_41 rfl (lv_at hl 3 rfl) ?_
    obtain ⟨h_14, hf⟩ := gd_some hf
    refine x_iald hx hb hK (aiM_4 ad cI cJ) hP h_14 dX9_join_42 ?_
    refine lv_icmp_eq (tgt := 50) hx hb dX9_join_43 (by decide) (fun c_15 => ?_) (fun c_15 => ?_)
    · have hf := (if_pos c_15).symm.trans hf
      refine lv_iconst (v := (0 : Int32)) hx hb dX9_join_50 (by decide) ?_
      refine lv_istore (lv' := [(4, .int (0 : Int32)), (3, .int (I 4 p1.toNatClampNeg)), (0, .ref (ad 13)), (1, .int p1), (2, .int p2)]) hx hb dX9_join_51 hl (by decide) rfl (fun ls hl => ?_)
      refine lv_aload_n hx hb dX9_join_53 rfl (lv_at hl 2 rfl) ?_
      refine va_get (D := (dC, dI)) (ci := 8) (v := .ref (ad 4)) (C := RX9) (T := TX9) (N := 15) hx hb hts in_X9 hown hK hP 13 (obM_13 ad cI cJ I J) rfl 4 (by decide) wd_0 (fun _ h9 => h9) rfl dX9_join_54 ?_
      refine lv_iload_n hx hb dX9_join_57 rfl (lv_at hl 3 rfl) ?_
      refine lv_iload_n hx hb dX9_join_58 rfl (lv_at hl 1 rfl) ?_
      obtain ⟨h_16, hf⟩ := gd_some hf
      refine x_iast hx hb hK (aiM_4 ad cI cJ) hP hD hS h_16 dX9_join_59 (fun H locs hP hD hS => ?_)
      refine lv_aload_n hx hb dX9_join_60 rfl (lv_at hl 2 rfl) ?_
      refine va_get (D := (dC, dI)) (ci := 8) (v := .ref (ad 4)) (C := RX9) (T := TX9) (N := 15) hx hb hts in_X9 hown hK hP 13 (obM_13 ad cI cJ (ups I 4 p1.toNatClampNeg (I 4 p1.toNatClampNeg)) J) rfl 4 (by decide) wd_0 (fun _ h9 => h9) rfl dX9_join_61 ?_
      refine lv_iload_n hx hb dX9_join_64 rfl (lv_at hl 4 rfl) ?_
      refine lv_iload_n hx hb dX9_join_65 rfl (lv_at hl 1 rfl) ?_
      obtain ⟨h_17, hf⟩ := gd_some hf
      refine x_iast hx hb hK (aiM_4 ad cI cJ) hP hD hS h_17 dX9_join_66 (fun H locs hP hD hS => ?_)
      refine lv_iload hx hb dX9_join_67 (lv_at hl 0 rfl) ?_
      cases hf
      exact xRz hx hb hr hlocks rfl hK hP hD hS (fun _ h => h) dX9_join_69
    · have hf := (if_neg c_15).symm.trans hf
      refine lv_iconst (v := (1 : Int32)) hx hb dX9_join_46 (by decide) ?_
      refine lv_goto (tgt := 51) hx hb dX9_join_47 (by decide) ?_
      refine lv_istore (lv' := [(4, .int (1 : Int32)), (3, .int (I 4 p1.toNatClampNeg)), (0, .ref (ad 13)), (1, .int p1), (2, .int p2)]) hx hb dX9_join_51 hl (by decide) rfl (fun ls hl => ?_)
      refine lv_aload_n hx hb dX9_join_53 rfl (lv_at hl 2 rfl) ?_
      refine va_get (D := (dC, dI)) (ci := 8) (v := .ref (ad 4)) (C := RX9) (T := TX9) (N := 15) hx hb hts in_X9 hown hK hP 13 (obM_13 ad cI cJ I J) rfl 4 (by decide) wd_0 (fun _ h9 => h9) rfl dX9_join_54 ?_
      refine lv_iload_n hx hb dX9_join_57 rfl (lv_at hl 3 rfl) ?_
      refine lv_iload_n hx hb dX9_join_58 rfl (lv_at hl 1 rfl) ?_
      obtain ⟨h_18, hf⟩ := gd_some hf
      refine x_iast hx hb hK (aiM_4 ad cI cJ) hP hD hS h_18 dX9_join_59 (fun H locs hP hD hS => ?_)
      refine lv_aload_n hx hb dX9_join_60 rfl (lv_at hl 2 rfl) ?_
      refine va_get (D := (dC, dI)) (ci := 8) (v := .ref (ad 4)) (C := RX9) (T := TX9) (N := 15) hx hb hts in_X9 hown hK hP 13 (obM_13 ad cI cJ (ups I 4 p1.toNatClampNeg (I 4 p1.toNatClampNeg)) J) rfl 4 (by decide) wd_0 (fun _ h9 => h9) rfl dX9_join_61 ?_
      refine lv_iload_n hx hb dX9_join_64 rfl (lv_at hl 4 rfl) ?_
      refine lv_iload_n hx hb dX9_join_65 rfl (lv_at hl 1 rfl) ?_
      obtain ⟨h_19, hf⟩ := gd_some hf
      refine x_iast hx hb hK (aiM_4 ad cI cJ) hP hD hS h_19 dX9_join_66 (fun H locs hP hD hS => ?_)
      refine lv_iload hx hb dX9_join_67 (lv_at hl 0 rfl) ?_
      cases hf
      exact xRz hx hb hr hlocks rfl hK hP hD hS (fun _ h => h) dX9_join_69
