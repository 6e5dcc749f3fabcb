/-! THE LAW, its cases -/
section LC
variable {p : Program} {l : Launch} {e : Env} {s : State} {m : MethodId} {below : List Frame} {meth : Method} {c : Code} {Q : State → Prop} {dC : Nat → ClassId} {dI : Nat → Nat → Nat} {cI cJ cT : ClassId} {pt b L : Nat} {xs : Nat → Int32} {aB aM : Nat → Nat}
set_option maxHeartbeats 4000000 in
theorem law_fused {i : Nat} (hi : i + 6 ≤ L) {IB : SI} {JB : SJ} {IM : SI} {JM : SJ} {H : Heap} {locs : List Loc} {ls : Array Slot} (hl : lv_has ls 4 [(0, .ref b), (1, .ref (aB 38)), (2, .ref (aM 13)), (3, .int (nI i))]) (S : LI s (dC, dI) cI cJ cT aB aM IB JB IM JM H locs) (F : LFx p s m c (dC, dI) cI cJ cT pt b L xs)
    (kk : ∀ (IB : SI) (JB : SJ) (IM : SI) (JM : SJ) (H : Heap) (locs : List Loc), LI s (dC, dI) cI cJ cT aB aM IB JB IM JM H locs → W p l e room_1 s m #[Value.ref b] below meth c H locs 53 3544 Q (F0 m 1056 ls [])) : W p l e room_1 s m #[Value.ref b] below meth c H locs 53 3544 Q (F0 m 657 ls []) := by
  obtain ⟨hx, hb, hfix, hts, hX, hbl, hK, hpr, hL⟩ := F
  obtain ⟨hR, hPB, hDB, hPM, hDM, hap, hS⟩ := S
  have hA : ∀ q : Nat, s.heap.size ≤ q → lwA s q := fun _ h => h
  have hbA : ¬ lwA s b := Nat.not_le.mpr hbl
  have h_1 : vp_in (nI i + (1 : Int32)) L := in_i (a := 1) (by omega) hL
  have h_2 : vp_in (nI i + (2 : Int32)) L := in_i (a := 2) (by omega) hL
  obtain ⟨v, JB', JM', eB, eM⟩ := op_fused hR JB JM (xs (nI i + (1 : Int32)).toNatClampNeg) (xs (nI i + (2 : Int32)).toNatClampNeg)
  refine lv_aload_n hx hb dL_law_657 rfl (lv_at hl 1 rfl) ?_
  refine lv_aload_n hx hb dL_law_658 rfl (lv_at hl 0 rfl) ?_
  refine lv_iload_n hx hb dL_law_659 rfl (lv_at hl 3 rfl) ?_
  refine lv_iconst (v := (1 : Int32)) hx hb dL_law_660 (by decide) ?_
  refine lv_iadd hx hb dL_law_661 ?_
  refine va_sld hx hb hX hbl hbA hS h_1 dL_law_662 ?_
  refine lv_aload_n hx hb dL_law_663 rfl (lv_at hl 0 rfl) ?_
  refine lv_iload_n hx hb dL_law_664 rfl (lv_at hl 3 rfl) ?_
  refine lv_iconst (v := (2 : Int32)) hx hb dL_law_665 (by decide) ?_
  refine lv_iadd hx hb dL_law_666 ?_
  refine va_sld hx hb hX hbl hbA hS h_2 dL_law_667 ?_
  refine xLl (rest := []) (c_X8_fused l dC dI aB cI cJ cT (xs (nI i + (1 : Int32)).toNatClampNeg) (xs (nI i + (2 : Int32)).toNatClampNeg) IB JB eB) hfix (cwV 2 hts gL_law_X8_fused rfl rfl rfl (by decide +kernel) ⟨Nat.le_of_ble_eq_true rfl, Nat.le_of_ble_eq_true rfl⟩) hK hPB hDB hPM hap hS hA (va_recv hK hPB (ci := 7) (q0 := 38) rfl (obB_38 aB cI cJ cT IB JB)) rfl hl.1 rfl (Nat.le_of_ble_eq_true rfl) ⟨Nat.le_of_ble_eq_true rfl, Nat.le_of_ble_eq_true rfl⟩ dL_law_668 (fun H locs hPB hDB hPM hap hS => ?_)
  refine lv_aload_n hx hb dL_law_671 rfl (lv_at hl 2 rfl) ?_
  refine lv_aload_n hx hb dL_law_672 rfl (lv_at hl 0 rfl) ?_
  refine lv_iload_n hx hb dL_law_673 rfl (lv_at hl 3 rfl) ?_
  refine lv_iconst (v := (1 : Int32)) hx hb dL_law_674 (by decide) ?_
  refine lv_iadd hx hb dL_law_675 ?_
  refine va_sld hx hb hX hbl hbA hS h_1 dL_law_676 ?_
  refine lv_aload_n hx hb dL_law_677 rfl (lv_at hl 0 rfl) ?_
  refine lv_iload_n hx hb dL_law_678 rfl (lv_at hl 3 rfl) ?_
  refine lv_iconst (v := (2 : Int32)) hx hb dL_law_679 (by decide) ?_
  refine lv_iadd hx hb dL_law_680 ?_
  refine va_sld hx hb hX hbl hbA hS h_2 dL_law_681 ?_
  refine xLl (rest := [.long v]) (c_X9_fused l dC dI aM cI cJ cT (xs (nI i + (1 : Int32)).toNatClampNeg) (xs (nI i + (2 : Int32)).toNatClampNeg) IM JM eM) hfix (cwV 2 hts gL_law_X9_fused rfl rfl rfl (by decide +kernel) ⟨Nat.le_of_ble_eq_true rfl, Nat.le_of_ble_eq_true rfl⟩) hK hPM hDM hPB hap.sm hS hA (va_recv hK hPM (ci := 8) (q0 := 13) rfl (obM_13 aM cI cJ IM JM)) rfl hl.1 rfl (Nat.le_of_ble_eq_true rfl) ⟨Nat.le_of_ble_eq_true rfl, Nat.le_of_ble_eq_true rfl⟩ dL_law_682 (fun H locs hPM hDM hPB hap hS => ?_)
  refine W.lcmp hx hb dL_law_685 ?_
  exact lv_if_eq (tgt := 1056) hx hb dL_law_686 (by decide) (fun _ => kk IB JB' IM JM' H locs ⟨hR, hPB, hDB, hPM, hDM, hap.sm, hS⟩) (fun c9 => absurd ((lg_cmp_eq v v).mpr rfl) c9)
set_option maxHeartbeats 4000000 in
theorem law_ways {i : Nat} (hi : i + 6 ≤ L) {IB : SI} {JB : SJ} {IM : SI} {JM : SJ} {H : Heap} {locs : List Loc} {ls : Array Slot} (hl : lv_has ls 4 [(0, .ref b), (1, .ref (aB 38)), (2, .ref (aM 13)), (3, .int (nI i))]) (S : LI s (dC, dI) cI cJ cT aB aM IB JB IM JM H locs) (F : LFx p s m c (dC, dI) cI cJ cT pt b L xs)
    (kk : ∀ (IB : SI) (JB : SJ) (IM : SI) (JM : SJ) (H : Heap) (locs : List Loc), LI s (dC, dI) cI cJ cT aB aM IB JB IM JM H locs → W p l e room_1 s m #[Value.ref b] below meth c H locs 53 3544 Q (F0 m 1056 ls [])) : W p l e room_1 s m #[Value.ref b] below meth c H locs 53 3544 Q (F0 m 691 ls []) := by
  obtain ⟨hx, hb, hfix, hts, hX, hbl, hK, hpr, hL⟩ := F
  obtain ⟨hR, hPB, hDB, hPM, hDM, hap, hS⟩ := S
  have hA : ∀ q : Nat, s.heap.size ≤ q → lwA s q := fun _ h => h
  have hbA : ¬ lwA s b := Nat.not_le.mpr hbl
  have h_1 : vp_in (nI i + (1 : Int32)) L := in_i (a := 1) (by omega) hL
  have h_2 : vp_in (nI i + (2 : Int32)) L := in_i (a := 2) (by omega) hL
  have h_3 : vp_in (nI i + (3 : Int32)) L := in_i (a := 3) (by omega) hL
  have h_4 : vp_in (nI i + (4 : Int32)) L := in_i (a := 4) (by omega) hL
  have h_5 : vp_in (nI i + (5 : Int32)) L := in_i (a := 5) (by omega) hL
  obtain ⟨v, JB', JM', eB, eM⟩ := op_ways hR JB JM (xs (nI i + (1 : Int32)).toNatClampNeg) (xs (nI i + (2 : Int32)).toNatClampNeg) (xs (nI i + (3 : Int32)).toNatClampNeg) (xs (nI i + (4 : Int32)).toNatClampNeg) (xs (nI i + (5 : Int32)).toNatClampNeg)
  refine lv_aload_n hx hb dL_law_691 rfl (lv_at hl 1 rfl) ?_
  refine lv_aload_n hx hb dL_law_692 rfl (lv_at hl 0 rfl) ?_
  refine lv_iload_n hx hb dL_law_693 rfl (lv_at hl 3 rfl) ?_
  refine lv_iconst (v := (1 : Int32)) hx hb dL_law_694 (by decide) ?_
  refine lv_iadd hx hb dL_law_695 ?_
  refine va_sld hx hb hX hbl hbA hS h_1 dL_law_696 ?_
  refine lv_aload_n hx hb dL_law_697 rfl (lv_at hl 0 rfl) ?_
  refine lv_iload_n hx hb dL_law_698 rfl (lv_at hl 3 rfl) ?_
  refine lv_iconst (v := (2 : Int32)) hx hb dL_law_699 (by decide) ?_
  refine lv_iadd hx hb dL_law_700 ?_
  refine va_sld hx hb hX hbl hbA hS h_2 dL_law_701 ?_
  refine lv_aload_n hx hb dL_law_702 rfl (lv_at hl 0 rfl) ?_
  refine lv_iload_n hx hb dL_law_703 rfl (lv_at hl 3 rfl) ?_
  refine lv_iconst (v := (3 : Int32)) hx hb dL_law_704 (by decide) ?_
  refine lv_iadd hx hb dL_law_705 ?_
  refine va_sld hx hb hX hbl hbA hS h_3 dL_law_706 ?_
  refine lv_aload_n hx hb dL_law_707 rfl (lv_at hl 0 rfl) ?_
  refine lv_iload_n hx hb dL_law_708 rfl (lv_at hl 3 rfl) ?_
  refine lv_iconst (v := (4 : Int32)) hx hb dL_law_709 (by decide) ?_
  refine lv_iadd hx hb dL_law_710 ?_
  refine va_sld hx hb hX hbl hbA hS h_4 dL_law_711 ?_
  refine lv_aload_n hx hb dL_law_712 rfl (lv_at hl 0 rfl) ?_
  refine lv_iload_n hx hb dL_law_713 rfl (lv_at hl 3 rfl) ?_
  refine lv_iconst (v := (5 : Int32)) hx hb dL_law_714 (by decide) ?_
  refine lv_iadd hx hb dL_law_715 ?_
  refine va_sld hx hb hX hbl hbA hS h_5 dL_law_716 ?_
  refine xLl (rest := []) (c_X8_ways l dC dI aB cI cJ cT (xs (nI i + (1 : Int32)).toNatClampNeg) (xs (nI i + (2 : Int32)).toNatClampNeg) (xs (nI i + (3 : Int32)).toNatClampNeg) (xs (nI i + (4 : Int32)).toNatClampNeg) (xs (nI i + (5 : Int32)).toNatClampNeg) IB JB eB) hfix (cwV 5 hts gL_law_X8_ways rfl rfl rfl (by decide +kernel) ⟨Nat.le_of_ble_eq_true rfl, Nat.le_of_ble_eq_true rfl⟩) hK hPB hDB hPM hap hS hA (va_recv hK hPB (ci := 7) (q0 := 38) rfl (obB_38 aB cI cJ cT IB JB)) rfl hl.1 rfl (Nat.le_of_ble_eq_true rfl) ⟨Nat.le_of_ble_eq_true rfl, Nat.le_of_ble_eq_true rfl⟩ dL_law_717 (fun H locs hPB hDB hPM hap hS => ?_)
  refine lv_aload_n hx hb dL_law_720 rfl (lv_at hl 2 rfl) ?_
  refine lv_aload_n hx hb dL_law_721 rfl (lv_at hl 0 rfl) ?_
  refine lv_iload_n hx hb dL_law_722 rfl (lv_at hl 3 rfl) ?_
  refine lv_iconst (v := (1 : Int32)) hx hb dL_law_723 (by decide) ?_
  refine lv_iadd hx hb dL_law_724 ?_
  refine va_sld hx hb hX hbl hbA hS h_1 dL_law_725 ?_
  refine lv_aload_n hx hb dL_law_726 rfl (lv_at hl 0 rfl) ?_
  refine lv_iload_n hx hb dL_law_727 rfl (lv_at hl 3 rfl) ?_
  refine lv_iconst (v := (2 : Int32)) hx hb dL_law_728 (by decide) ?_
  refine lv_iadd hx hb dL_law_729 ?_
  refine va_sld hx hb hX hbl hbA hS h_2 dL_law_730 ?_
  refine lv_aload_n hx hb dL_law_731 rfl (lv_at hl 0 rfl) ?_
  refine lv_iload_n hx hb dL_law_732 rfl (lv_at hl 3 rfl) ?_
  refine lv_iconst (v := (3 : Int32)) hx hb dL_law_733 (by decide) ?_
  refine lv_iadd hx hb dL_law_734 ?_
  refine va_sld hx hb hX hbl hbA hS h_3 dL_law_735 ?_
  refine lv_aload_n hx hb dL_law_736 rfl (lv_at hl 0 rfl) ?_
  refine lv_iload_n hx hb dL_law_737 rfl (lv_at hl 3 rfl) ?_
  refine lv_iconst (v := (4 : Int32)) hx hb dL_law_738 (by decide) ?_
  refine lv_iadd hx hb dL_law_739 ?_
  refine va_sld hx hb hX hbl hbA hS h_4 dL_law_740 ?_
  refine lv_aload_n hx hb dL_law_741 rfl (lv_at hl 0 rfl) ?_
  refine lv_iload_n hx hb dL_law_742 rfl (lv_at hl 3 rfl) ?_
  refine lv_iconst (v := (5 : Int32)) hx hb dL_law_743 (by decide) ?_
  refine lv_iadd hx hb dL_law_744 ?_
  refine va_sld hx hb hX hbl hbA hS h_5 dL_law_745 ?_
  refine xLl (rest := [.long v]) (c_X9_ways l dC dI aM cI cJ cT (xs (nI i + (1 : Int32)).toNatClampNeg) (xs (nI i + (2 : Int32)).toNatClampNeg) (xs (nI i + (3 : Int32)).toNatClampNeg) (xs (nI i + (4 : Int32)).toNatClampNeg) (xs (nI i + (5 : Int32)).toNatClampNeg) IM JM eM) hfix (cwV 5 hts gL_law_X9_ways rfl rfl rfl (by decide +kernel) ⟨Nat.le_of_ble_eq_true rfl, Nat.le_of_ble_eq_true rfl⟩) hK hPM hDM hPB hap.sm hS hA (va_recv hK hPM (ci := 8) (q0 := 13) rfl (obM_13 aM cI cJ IM JM)) rfl hl.1 rfl (Nat.le_of_ble_eq_true rfl) ⟨Nat.le_of_ble_eq_true rfl, Nat.le_of_ble_eq_true rfl⟩ dL_law_746 (fun H locs hPM hDM hPB hap hS => ?_)
  refine W.lcmp hx hb dL_law_749 ?_
  exact lv_if_eq (tgt := 1056) hx hb dL_law_750 (by decide) (fun _ => kk IB JB' IM JM' H locs ⟨hR, hPB, hDB, hPM, hDM, hap.sm, hS⟩) (fun c9 => absurd ((lg_cmp_eq v v).mpr rfl) c9)
set_option maxHeartbeats 4000000 in
theorem law_closed {i : Nat} (hi : i + 6 ≤ L) {IB : SI} {JB : SJ} {IM : SI} {JM : SJ} {H : Heap} {locs : List Loc} {ls : Array Slot} (hl : lv_has ls 4 [(0, .ref b), (1, .ref (aB 38)), (2, .ref (aM 13)), (3, .int (nI i))]) (S : LI s (dC, dI) cI cJ cT aB aM IB JB IM JM H locs) (F : LFx p s m c (dC, dI) cI cJ cT pt b L xs)
    (kk : ∀ (IB : SI) (JB : SJ) (IM : SI) (JM : SJ) (H : Heap) (locs : List Loc), LI s (dC, dI) cI cJ cT aB aM IB JB IM JM H locs → W p l e room_1 s m #[Value.ref b] below meth c H locs 53 3544 Q (F0 m 1056 ls [])) : W p l e room_1 s m #[Value.ref b] below meth c H locs 53 3544 Q (F0 m 755 ls []) := by
  obtain ⟨hx, hb, hfix, hts, hX, hbl, hK, hpr, hL⟩ := F
  obtain ⟨hR, hPB, hDB, hPM, hDM, hap, hS⟩ := S
  have hA : ∀ q : Nat, s.heap.size ≤ q → lwA s q := fun _ h => h
  have hbA : ¬ lwA s b := Nat.not_le.mpr hbl
  have h_1 : vp_in (nI i + (1 : Int32)) L := in_i (a := 1) (by omega) hL
  have h_2 : vp_in (nI i + (2 : Int32)) L := in_i (a := 2) (by omega) hL
  obtain ⟨v, IB', IM', eB, eM, hR'⟩ := op_closed LstOK_fr hR (xs (nI i + (1 : Int32)).toNatClampNeg) (xs (nI i + (2 : Int32)).toNatClampNeg)
  refine lv_aload_n hx hb dL_law_755 rfl (lv_at hl 1 rfl) ?_
  refine lv_aload_n hx hb dL_law_756 rfl (lv_at hl 0 rfl) ?_
  refine lv_iload_n hx hb dL_law_757 rfl (lv_at hl 3 rfl) ?_
  refine lv_iconst (v := (1 : Int32)) hx hb dL_law_758 (by decide) ?_
  refine lv_iadd hx hb dL_law_759 ?_
  refine va_sld hx hb hX hbl hbA hS h_1 dL_law_760 ?_
  refine lv_aload_n hx hb dL_law_761 rfl (lv_at hl 0 rfl) ?_
  refine lv_iload_n hx hb dL_law_762 rfl (lv_at hl 3 rfl) ?_
  refine lv_iconst (v := (2 : Int32)) hx hb dL_law_763 (by decide) ?_
  refine lv_iadd hx hb dL_law_764 ?_
  refine va_sld hx hb hX hbl hbA hS h_2 dL_law_765 ?_
  refine xLi (rest := []) (c_X8_closed l dC dI aB cI cJ cT (xs (nI i + (1 : Int32)).toNatClampNeg) (xs (nI i + (2 : Int32)).toNatClampNeg) IB JB eB) hfix (cwV 2 hts gL_law_X8_closed rfl rfl rfl (by decide +kernel) ⟨Nat.le_of_ble_eq_true rfl, Nat.le_of_ble_eq_true rfl⟩) hK hPB hDB hPM hap hS hA (va_recv hK hPB (ci := 7) (q0 := 38) rfl (obB_38 aB cI cJ cT IB JB)) rfl hl.1 rfl (Nat.le_of_ble_eq_true rfl) ⟨Nat.le_of_ble_eq_true rfl, Nat.le_of_ble_eq_true rfl⟩ dL_law_766 (fun H locs hPB hDB hPM hap hS => ?_)
  refine lv_aload_n hx hb dL_law_769 rfl (lv_at hl 2 rfl) ?_
  refine lv_aload_n hx hb dL_law_770 rfl (lv_at hl 0 rfl) ?_
  refine lv_iload_n hx hb dL_law_771 rfl (lv_at hl 3 rfl) ?_
  refine lv_iconst (v := (1 : Int32)) hx hb dL_law_772 (by decide) ?_
  refine lv_iadd hx hb dL_law_773 ?_
  refine va_sld hx hb hX hbl hbA hS h_1 dL_law_774 ?_
  refine lv_aload_n hx hb dL_law_775 rfl (lv_at hl 0 rfl) ?_
  refine lv_iload_n hx hb dL_law_776 rfl (lv_at hl 3 rfl) ?_
  refine lv_iconst (v := (2 : Int32)) hx hb dL_law_777 (by decide) ?_
  refine lv_iadd hx hb dL_law_778 ?_
  refine va_sld hx hb hX hbl hbA hS h_2 dL_law_779 ?_
  refine xLi (rest := [.int v]) (c_X9_closed l dC dI aM cI cJ cT (xs (nI i + (1 : Int32)).toNatClampNeg) (xs (nI i + (2 : Int32)).toNatClampNeg) IM JM eM) hfix (cwV 2 hts gL_law_X9_closed rfl rfl rfl (by decide +kernel) ⟨Nat.le_of_ble_eq_true rfl, Nat.le_of_ble_eq_true rfl⟩) hK hPM hDM hPB hap.sm hS hA (va_recv hK hPM (ci := 8) (q0 := 13) rfl (obM_13 aM cI cJ IM JM)) rfl hl.1 rfl (Nat.le_of_ble_eq_true rfl) ⟨Nat.le_of_ble_eq_true rfl, Nat.le_of_ble_eq_true rfl⟩ dL_law_780 (fun H locs hPM hDM hPB hap hS => ?_)
  exact lv_icmp_eq (tgt := 1056) hx hb dL_law_783 (by decide) (fun _ => kk IB' JB IM' JM H locs ⟨hR', hPB, hDB, hPM, hDM, hap.sm, hS⟩) (fun c9 => absurd rfl c9)
set_option maxHeartbeats 4000000 in
theorem law_least {i : Nat} (hi : i + 6 ≤ L) {IB : SI} {JB : SJ} {IM : SI} {JM : SJ} {H : Heap} {locs : List Loc} {ls : Array Slot} (hl : lv_has ls 4 [(0, .ref b), (1, .ref (aB 38)), (2, .ref (aM 13)), (3, .int (nI i))]) (S : LI s (dC, dI) cI cJ cT aB aM IB JB IM JM H locs) (F : LFx p s m c (dC, dI) cI cJ cT pt b L xs)
    (kk : ∀ (IB : SI) (JB : SJ) (IM : SI) (JM : SJ) (H : Heap) (locs : List Loc), LI s (dC, dI) cI cJ cT aB aM IB JB IM JM H locs → W p l e room_1 s m #[Value.ref b] below meth c H locs 53 3544 Q (F0 m 1056 ls [])) : W p l e room_1 s m #[Value.ref b] below meth c H locs 53 3544 Q (F0 m 788 ls []) := by
  obtain ⟨hx, hb, hfix, hts, hX, hbl, hK, hpr, hL⟩ := F
  obtain ⟨hR, hPB, hDB, hPM, hDM, hap, hS⟩ := S
  have hA : ∀ q : Nat, s.heap.size ≤ q → lwA s q := fun _ h => h
  have hbA : ¬ lwA s b := Nat.not_le.mpr hbl
  have h_1 : vp_in (nI i + (1 : Int32)) L := in_i (a := 1) (by omega) hL
  have h_2 : vp_in (nI i + (2 : Int32)) L := in_i (a := 2) (by omega) hL
  obtain ⟨v, IB', IM', eB, eM, hR'⟩ := op_least LstOK_fr hR (xs (nI i + (1 : Int32)).toNatClampNeg) (xs (nI i + (2 : Int32)).toNatClampNeg)
  refine lv_aload_n hx hb dL_law_788 rfl (lv_at hl 1 rfl) ?_
  refine lv_aload_n hx hb dL_law_789 rfl (lv_at hl 0 rfl) ?_
  refine lv_iload_n hx hb dL_law_790 rfl (lv_at hl 3 rfl) ?_
  refine lv_iconst (v := (1 : Int32)) hx hb dL_law_791 (by decide) ?_
  refine lv_iadd hx hb dL_law_792 ?_
  refine va_sld hx hb hX hbl hbA hS h_1 dL_law_793 ?_
  refine lv_aload_n hx hb dL_law_794 rfl (lv_at hl 0 rfl) ?_
  refine lv_iload_n hx hb dL_law_795 rfl (lv_at hl 3 rfl) ?_
  refine lv_iconst (v := (2 : Int32)) hx hb dL_law_796 (by decide) ?_
  refine lv_iadd hx hb dL_law_797 ?_
  refine va_sld hx hb hX hbl hbA hS h_2 dL_law_798 ?_
  refine xLi (rest := []) (c_X8_least l dC dI aB cI cJ cT (xs (nI i + (1 : Int32)).toNatClampNeg) (xs (nI i + (2 : Int32)).toNatClampNeg) IB JB eB) hfix (cwV 2 hts gL_law_X8_least rfl rfl rfl (by decide +kernel) ⟨Nat.le_of_ble_eq_true rfl, Nat.le_of_ble_eq_true rfl⟩) hK hPB hDB hPM hap hS hA (va_recv hK hPB (ci := 7) (q0 := 38) rfl (obB_38 aB cI cJ cT IB JB)) rfl hl.1 rfl (Nat.le_of_ble_eq_true rfl) ⟨Nat.le_of_ble_eq_true rfl, Nat.le_of_ble_eq_true rfl⟩ dL_law_799 (fun H locs hPB hDB hPM hap hS => ?_)
  refine lv_aload_n hx hb dL_law_802 rfl (lv_at hl 2 rfl) ?_
  refine lv_aload_n hx hb dL_law_803 rfl (lv_at hl 0 rfl) ?_
  refine lv_iload_n hx hb dL_law_804 rfl (lv_at hl 3 rfl) ?_
  refine lv_iconst (v := (1 : Int32)) hx hb dL_law_805 (by decide) ?_
  refine lv_iadd hx hb dL_law_806 ?_
  refine va_sld hx hb hX hbl hbA hS h_1 dL_law_807 ?_
  refine lv_aload_n hx hb dL_law_808 rfl (lv_at hl 0 rfl) ?_
  refine lv_iload_n hx hb dL_law_809 rfl (lv_at hl 3 rfl) ?_
  refine lv_iconst (v := (2 : Int32)) hx hb dL_law_810 (by decide) ?_
  refine lv_iadd hx hb dL_law_811 ?_
  refine va_sld hx hb hX hbl hbA hS h_2 dL_law_812 ?_
  refine xLi (rest := [.int v]) (c_X9_least l dC dI aM cI cJ cT (xs (nI i + (1 : Int32)).toNatClampNeg) (xs (nI i + (2 : Int32)).toNatClampNeg) IM JM eM) hfix (cwV 2 hts gL_law_X9_least rfl rfl rfl (by decide +kernel) ⟨Nat.le_of_ble_eq_true rfl, Nat.le_of_ble_eq_true rfl⟩) hK hPM hDM hPB hap.sm hS hA (va_recv hK hPM (ci := 8) (q0 := 13) rfl (obM_13 aM cI cJ IM JM)) rfl hl.1 rfl (Nat.le_of_ble_eq_true rfl) ⟨Nat.le_of_ble_eq_true rfl, Nat.le_of_ble_eq_true rfl⟩ dL_law_813 (fun H locs hPM hDM hPB hap hS => ?_)
  exact lv_icmp_eq (tgt := 1056) hx hb dL_law_816 (by decide) (fun _ => kk IB' JB IM' JM H locs ⟨hR', hPB, hDB, hPM, hDM, hap.sm, hS⟩) (fun c9 => absurd rfl c9)
set_option maxHeartbeats 4000000 in
theorem law_core {i : Nat} (hi : i + 6 ≤ L) {IB : SI} {JB : SJ} {IM : SI} {JM : SJ} {H : Heap} {locs : List Loc} {ls : Array Slot} (hl : lv_has ls 4 [(0, .ref b), (1, .ref (aB 38)), (2, .ref (aM 13)), (3, .int (nI i))]) (S : LI s (dC, dI) cI cJ cT aB aM IB JB IM JM H locs) (F : LFx p s m c (dC, dI) cI cJ cT pt b L xs)
    (kk : ∀ (IB : SI) (JB : SJ) (IM : SI) (JM : SJ) (H : Heap) (locs : List Loc), LI s (dC, dI) cI cJ cT aB aM IB JB IM JM H locs → W p l e room_1 s m #[Value.ref b] below meth c H locs 53 3544 Q (F0 m 1056 ls [])) : W p l e room_1 s m #[Value.ref b] below meth c H locs 53 3544 Q (F0 m 821 ls []) := by
  obtain ⟨hx, hb, hfix, hts, hX, hbl, hK, hpr, hL⟩ := F
  obtain ⟨hR, hPB, hDB, hPM, hDM, hap, hS⟩ := S
  have hA : ∀ q : Nat, s.heap.size ≤ q → lwA s q := fun _ h => h
  have hbA : ¬ lwA s b := Nat.not_le.mpr hbl
  have h_1 : vp_in (nI i + (1 : Int32)) L := in_i (a := 1) (by omega) hL
  obtain ⟨v, IB', IM', eB, eM, hR'⟩ := op_core LstOK_fr hR (xs (nI i + (1 : Int32)).toNatClampNeg)
  refine lv_aload_n hx hb dL_law_821 rfl (lv_at hl 1 rfl) ?_
  refine lv_aload_n hx hb dL_law_822 rfl (lv_at hl 0 rfl) ?_
  refine lv_iload_n hx hb dL_law_823 rfl (lv_at hl 3 rfl) ?_
  refine lv_iconst (v := (1 : Int32)) hx hb dL_law_824 (by decide) ?_
  refine lv_iadd hx hb dL_law_825 ?_
  refine va_sld hx hb hX hbl hbA hS h_1 dL_law_826 ?_
  refine xLi (rest := []) (c_X8_core l dC dI aB cI cJ cT (xs (nI i + (1 : Int32)).toNatClampNeg) IB JB eB) hfix (cwV 1 hts gL_law_X8_core rfl rfl rfl (by decide +kernel) ⟨Nat.le_of_ble_eq_true rfl, Nat.le_of_ble_eq_true rfl⟩) hK hPB hDB hPM hap hS hA (va_recv hK hPB (ci := 7) (q0 := 38) rfl (obB_38 aB cI cJ cT IB JB)) rfl hl.1 rfl (Nat.le_of_ble_eq_true rfl) ⟨Nat.le_of_ble_eq_true rfl, Nat.le_of_ble_eq_true rfl⟩ dL_law_827 (fun H locs hPB hDB hPM hap hS => ?_)
  refine lv_aload_n hx hb dL_law_830 rfl (lv_at hl 2 rfl) ?_
  refine lv_aload_n hx hb dL_law_831 rfl (lv_at hl 0 rfl) ?_
  refine lv_iload_n hx hb dL_law_832 rfl (lv_at hl 3 rfl) ?_
  refine lv_iconst (v := (1 : Int32)) hx hb dL_law_833 (by decide) ?_
  refine lv_iadd hx hb dL_law_834 ?_
  refine va_sld hx hb hX hbl hbA hS h_1 dL_law_835 ?_
  refine xLi (rest := [.int v]) (c_X9_core l dC dI aM cI cJ cT (xs (nI i + (1 : Int32)).toNatClampNeg) IM JM eM) hfix (cwV 1 hts gL_law_X9_core rfl rfl rfl (by decide +kernel) ⟨Nat.le_of_ble_eq_true rfl, Nat.le_of_ble_eq_true rfl⟩) hK hPM hDM hPB hap.sm hS hA (va_recv hK hPM (ci := 8) (q0 := 13) rfl (obM_13 aM cI cJ IM JM)) rfl hl.1 rfl (Nat.le_of_ble_eq_true rfl) ⟨Nat.le_of_ble_eq_true rfl, Nat.le_of_ble_eq_true rfl⟩ dL_law_836 (fun H locs hPM hDM hPB hap hS => ?_)
  exact lv_icmp_eq (tgt := 1056) hx hb dL_law_839 (by decide) (fun _ => kk IB' JB IM' JM H locs ⟨hR', hPB, hDB, hPM, hDM, hap.sm, hS⟩) (fun c9 => absurd rfl c9)
set_option maxHeartbeats 4000000 in
theorem law_grade {i : Nat} (hi : i + 6 ≤ L) {IB : SI} {JB : SJ} {IM : SI} {JM : SJ} {H : Heap} {locs : List Loc} {ls : Array Slot} (hl : lv_has ls 4 [(0, .ref b), (1, .ref (aB 38)), (2, .ref (aM 13)), (3, .int (nI i))]) (S : LI s (dC, dI) cI cJ cT aB aM IB JB IM JM H locs) (F : LFx p s m c (dC, dI) cI cJ cT pt b L xs)
    (kk : ∀ (IB : SI) (JB : SJ) (IM : SI) (JM : SJ) (H : Heap) (locs : List Loc), LI s (dC, dI) cI cJ cT aB aM IB JB IM JM H locs → W p l e room_1 s m #[Value.ref b] below meth c H locs 53 3544 Q (F0 m 1056 ls [])) : W p l e room_1 s m #[Value.ref b] below meth c H locs 53 3544 Q (F0 m 844 ls []) := by
  obtain ⟨hx, hb, hfix, hts, hX, hbl, hK, hpr, hL⟩ := F
  obtain ⟨hR, hPB, hDB, hPM, hDM, hap, hS⟩ := S
  have hA : ∀ q : Nat, s.heap.size ≤ q → lwA s q := fun _ h => h
  have hbA : ¬ lwA s b := Nat.not_le.mpr hbl
  have h_1 : vp_in (nI i + (1 : Int32)) L := in_i (a := 1) (by omega) hL
  have h_2 : vp_in (nI i + (2 : Int32)) L := in_i (a := 2) (by omega) hL
  obtain ⟨v, IB', IM', eB, eM, hR'⟩ := op_grade LstOK_fr hR (xs (nI i + (1 : Int32)).toNatClampNeg) (xs (nI i + (2 : Int32)).toNatClampNeg)
  refine lv_aload_n hx hb dL_law_844 rfl (lv_at hl 1 rfl) ?_
  refine lv_aload_n hx hb dL_law_845 rfl (lv_at hl 0 rfl) ?_
  refine lv_iload_n hx hb dL_law_846 rfl (lv_at hl 3 rfl) ?_
  refine lv_iconst (v := (1 : Int32)) hx hb dL_law_847 (by decide) ?_
  refine lv_iadd hx hb dL_law_848 ?_
  refine va_sld hx hb hX hbl hbA hS h_1 dL_law_849 ?_
  refine lv_aload_n hx hb dL_law_850 rfl (lv_at hl 0 rfl) ?_
  refine lv_iload_n hx hb dL_law_851 rfl (lv_at hl 3 rfl) ?_
  refine lv_iconst (v := (2 : Int32)) hx hb dL_law_852 (by decide) ?_
  refine lv_iadd hx hb dL_law_853 ?_
  refine va_sld hx hb hX hbl hbA hS h_2 dL_law_854 ?_
  refine xLi (rest := []) (c_X8_grade l dC dI aB cI cJ cT (xs (nI i + (1 : Int32)).toNatClampNeg) (xs (nI i + (2 : Int32)).toNatClampNeg) IB JB eB) hfix (cwV 2 hts gL_law_X8_grade rfl rfl rfl (by decide +kernel) ⟨Nat.le_of_ble_eq_true rfl, Nat.le_of_ble_eq_true rfl⟩) hK hPB hDB hPM hap hS hA (va_recv hK hPB (ci := 7) (q0 := 38) rfl (obB_38 aB cI cJ cT IB JB)) rfl hl.1 rfl (Nat.le_of_ble_eq_true rfl) ⟨Nat.le_of_ble_eq_true rfl, Nat.le_of_ble_eq_true rfl⟩ dL_law_855 (fun H locs hPB hDB hPM hap hS => ?_)
  refine lv_aload_n hx hb dL_law_858 rfl (lv_at hl 2 rfl) ?_
  refine lv_aload_n hx hb dL_law_859 rfl (lv_at hl 0 rfl) ?_
  refine lv_iload_n hx hb dL_law_860 rfl (lv_at hl 3 rfl) ?_
  refine lv_iconst (v := (1 : Int32)) hx hb dL_law_861 (by decide) ?_
  refine lv_iadd hx hb dL_law_862 ?_
  refine va_sld hx hb hX hbl hbA hS h_1 dL_law_863 ?_
  refine lv_aload_n hx hb dL_law_864 rfl (lv_at hl 0 rfl) ?_
  refine lv_iload_n hx hb dL_law_865 rfl (lv_at hl 3 rfl) ?_
  refine lv_iconst (v := (2 : Int32)) hx hb dL_law_866 (by decide) ?_
  refine lv_iadd hx hb dL_law_867 ?_
  refine va_sld hx hb hX hbl hbA hS h_2 dL_law_868 ?_
  refine xLi (rest := [.int v]) (c_X9_grade l dC dI aM cI cJ cT (xs (nI i + (1 : Int32)).toNatClampNeg) (xs (nI i + (2 : Int32)).toNatClampNeg) IM JM eM) hfix (cwV 2 hts gL_law_X9_grade rfl rfl rfl (by decide +kernel) ⟨Nat.le_of_ble_eq_true rfl, Nat.le_of_ble_eq_true rfl⟩) hK hPM hDM hPB hap.sm hS hA (va_recv hK hPM (ci := 8) (q0 := 13) rfl (obM_13 aM cI cJ IM JM)) rfl hl.1 rfl (Nat.le_of_ble_eq_true rfl) ⟨Nat.le_of_ble_eq_true rfl, Nat.le_of_ble_eq_true rfl⟩ dL_law_869 (fun H locs hPM hDM hPB hap hS => ?_)
  exact lv_icmp_eq (tgt := 1056) hx hb dL_law_872 (by decide) (fun _ => kk IB' JB IM' JM H locs ⟨hR', hPB, hDB, hPM, hDM, hap.sm, hS⟩) (fun c9 => absurd rfl c9)
set_option maxHeartbeats 4000000 in
theorem law_within {i : Nat} (hi : i + 6 ≤ L) {IB : SI} {JB : SJ} {IM : SI} {JM : SJ} {H : Heap} {locs : List Loc} {ls : Array Slot} (hl : lv_has ls 4 [(0, .ref b), (1, .ref (aB 38)), (2, .ref (aM 13)), (3, .int (nI i))]) (S : LI s (dC, dI) cI cJ cT aB aM IB JB IM JM H locs) (F : LFx p s m c (dC, dI) cI cJ cT pt b L xs)
    (kk : ∀ (IB : SI) (JB : SJ) (IM : SI) (JM : SJ) (H : Heap) (locs : List Loc), LI s (dC, dI) cI cJ cT aB aM IB JB IM JM H locs → W p l e room_1 s m #[Value.ref b] below meth c H locs 53 3544 Q (F0 m 1056 ls [])) : W p l e room_1 s m #[Value.ref b] below meth c H locs 53 3544 Q (F0 m 877 ls []) := by
  obtain ⟨hx, hb, hfix, hts, hX, hbl, hK, hpr, hL⟩ := F
  obtain ⟨hR, hPB, hDB, hPM, hDM, hap, hS⟩ := S
  have hA : ∀ q : Nat, s.heap.size ≤ q → lwA s q := fun _ h => h
  have hbA : ¬ lwA s b := Nat.not_le.mpr hbl
  have h_1 : vp_in (nI i + (1 : Int32)) L := in_i (a := 1) (by omega) hL
  obtain ⟨v, IB', IM', eB, eM, hR'⟩ := op_within LstOK_fr hR (xs (nI i + (1 : Int32)).toNatClampNeg)
  refine lv_aload_n hx hb dL_law_877 rfl (lv_at hl 1 rfl) ?_
  refine lv_aload_n hx hb dL_law_878 rfl (lv_at hl 0 rfl) ?_
  refine lv_iload_n hx hb dL_law_879 rfl (lv_at hl 3 rfl) ?_
  refine lv_iconst (v := (1 : Int32)) hx hb dL_law_880 (by decide) ?_
  refine lv_iadd hx hb dL_law_881 ?_
  refine va_sld hx hb hX hbl hbA hS h_1 dL_law_882 ?_
  refine xLi (rest := []) (c_X8_within l dC dI aB cI cJ cT (xs (nI i + (1 : Int32)).toNatClampNeg) IB JB eB) hfix (cwV 1 hts gL_law_X8_within rfl rfl rfl (by decide +kernel) ⟨Nat.le_of_ble_eq_true rfl, Nat.le_of_ble_eq_true rfl⟩) hK hPB hDB hPM hap hS hA (va_recv hK hPB (ci := 7) (q0 := 38) rfl (obB_38 aB cI cJ cT IB JB)) rfl hl.1 rfl (Nat.le_of_ble_eq_true rfl) ⟨Nat.le_of_ble_eq_true rfl, Nat.le_of_ble_eq_true rfl⟩ dL_law_883 (fun H locs hPB hDB hPM hap hS => ?_)
  refine lv_aload_n hx hb dL_law_886 rfl (lv_at hl 2 rfl) ?_
  refine lv_aload_n hx hb dL_law_887 rfl (lv_at hl 0 rfl) ?_
  refine lv_iload_n hx hb dL_law_888 rfl (lv_at hl 3 rfl) ?_
  refine lv_iconst (v := (1 : Int32)) hx hb dL_law_889 (by decide) ?_
  refine lv_iadd hx hb dL_law_890 ?_
  refine va_sld hx hb hX hbl hbA hS h_1 dL_law_891 ?_
  refine xLi (rest := [.int v]) (c_X9_within l dC dI aM cI cJ cT (xs (nI i + (1 : Int32)).toNatClampNeg) IM JM eM) hfix (cwV 1 hts gL_law_X9_within rfl rfl rfl (by decide +kernel) ⟨Nat.le_of_ble_eq_true rfl, Nat.le_of_ble_eq_true rfl⟩) hK hPM hDM hPB hap.sm hS hA (va_recv hK hPM (ci := 8) (q0 := 13) rfl (obM_13 aM cI cJ IM JM)) rfl hl.1 rfl (Nat.le_of_ble_eq_true rfl) ⟨Nat.le_of_ble_eq_true rfl, Nat.le_of_ble_eq_true rfl⟩ dL_law_892 (fun H locs hPM hDM hPB hap hS => ?_)
  exact lv_icmp_eq (tgt := 1056) hx hb dL_law_895 (by decide) (fun _ => kk IB' JB IM' JM H locs ⟨hR', hPB, hDB, hPM, hDM, hap.sm, hS⟩) (fun c9 => absurd rfl c9)
set_option maxHeartbeats 4000000 in
theorem law_like {i : Nat} (hi : i + 6 ≤ L) {IB : SI} {JB : SJ} {IM : SI} {JM : SJ} {H : Heap} {locs : List Loc} {ls : Array Slot} (hl : lv_has ls 4 [(0, .ref b), (1, .ref (aB 38)), (2, .ref (aM 13)), (3, .int (nI i))]) (S : LI s (dC, dI) cI cJ cT aB aM IB JB IM JM H locs) (F : LFx p s m c (dC, dI) cI cJ cT pt b L xs)
    (kk : ∀ (IB : SI) (JB : SJ) (IM : SI) (JM : SJ) (H : Heap) (locs : List Loc), LI s (dC, dI) cI cJ cT aB aM IB JB IM JM H locs → W p l e room_1 s m #[Value.ref b] below meth c H locs 53 3544 Q (F0 m 1056 ls [])) : W p l e room_1 s m #[Value.ref b] below meth c H locs 53 3544 Q (F0 m 900 ls []) := by
  obtain ⟨hx, hb, hfix, hts, hX, hbl, hK, hpr, hL⟩ := F
  obtain ⟨hR, hPB, hDB, hPM, hDM, hap, hS⟩ := S
  have hA : ∀ q : Nat, s.heap.size ≤ q → lwA s q := fun _ h => h
  have hbA : ¬ lwA s b := Nat.not_le.mpr hbl
  have h_1 : vp_in (nI i + (1 : Int32)) L := in_i (a := 1) (by omega) hL
  have h_2 : vp_in (nI i + (2 : Int32)) L := in_i (a := 2) (by omega) hL
  obtain ⟨v, IB', IM', eB, eM, hR'⟩ := op_like LstOK_fr hR (xs (nI i + (1 : Int32)).toNatClampNeg) (xs (nI i + (2 : Int32)).toNatClampNeg)
  refine lv_aload_n hx hb dL_law_900 rfl (lv_at hl 1 rfl) ?_
  refine lv_aload_n hx hb dL_law_901 rfl (lv_at hl 0 rfl) ?_
  refine lv_iload_n hx hb dL_law_902 rfl (lv_at hl 3 rfl) ?_
  refine lv_iconst (v := (1 : Int32)) hx hb dL_law_903 (by decide) ?_
  refine lv_iadd hx hb dL_law_904 ?_
  refine va_sld hx hb hX hbl hbA hS h_1 dL_law_905 ?_
  refine lv_aload_n hx hb dL_law_906 rfl (lv_at hl 0 rfl) ?_
  refine lv_iload_n hx hb dL_law_907 rfl (lv_at hl 3 rfl) ?_
  refine lv_iconst (v := (2 : Int32)) hx hb dL_law_908 (by decide) ?_
  refine lv_iadd hx hb dL_law_909 ?_
  refine va_sld hx hb hX hbl hbA hS h_2 dL_law_910 ?_
  refine xLi (rest := []) (c_X8_like l dC dI aB cI cJ cT (xs (nI i + (1 : Int32)).toNatClampNeg) (xs (nI i + (2 : Int32)).toNatClampNeg) IB JB eB) hfix (cwV 2 hts gL_law_X8_like rfl rfl rfl (by decide +kernel) ⟨Nat.le_of_ble_eq_true rfl, Nat.le_of_ble_eq_true rfl⟩) hK hPB hDB hPM hap hS hA (va_recv hK hPB (ci := 7) (q0 := 38) rfl (obB_38 aB cI cJ cT IB JB)) rfl hl.1 rfl (Nat.le_of_ble_eq_true rfl) ⟨Nat.le_of_ble_eq_true rfl, Nat.le_of_ble_eq_true rfl⟩ dL_law_911 (fun H locs hPB hDB hPM hap hS => ?_)
  refine lv_aload_n hx hb dL_law_914 rfl (lv_at hl 2 rfl) ?_
  refine lv_aload_n hx hb dL_law_915 rfl (lv_at hl 0 rfl) ?_
  refine lv_iload_n hx hb dL_law_916 rfl (lv_at hl 3 rfl) ?_
  refine lv_iconst (v := (1 : Int32)) hx hb dL_law_917 (by decide) ?_
  refine lv_iadd hx hb dL_law_918 ?_
  refine va_sld hx hb hX hbl hbA hS h_1 dL_law_919 ?_
  refine lv_aload_n hx hb dL_law_920 rfl (lv_at hl 0 rfl) ?_
  refine lv_iload_n hx hb dL_law_921 rfl (lv_at hl 3 rfl) ?_
  refine lv_iconst (v := (2 : Int32)) hx hb dL_law_922 (by decide) ?_
  refine lv_iadd hx hb dL_law_923 ?_
  refine va_sld hx hb hX hbl hbA hS h_2 dL_law_924 ?_
  refine xLi (rest := [.int v]) (c_X9_like l dC dI aM cI cJ cT (xs (nI i + (1 : Int32)).toNatClampNeg) (xs (nI i + (2 : Int32)).toNatClampNeg) IM JM eM) hfix (cwV 2 hts gL_law_X9_like rfl rfl rfl (by decide +kernel) ⟨Nat.le_of_ble_eq_true rfl, Nat.le_of_ble_eq_true rfl⟩) hK hPM hDM hPB hap.sm hS hA (va_recv hK hPM (ci := 8) (q0 := 13) rfl (obM_13 aM cI cJ IM JM)) rfl hl.1 rfl (Nat.le_of_ble_eq_true rfl) ⟨Nat.le_of_ble_eq_true rfl, Nat.le_of_ble_eq_true rfl⟩ dL_law_925 (fun H locs hPM hDM hPB hap hS => ?_)
  exact lv_icmp_eq (tgt := 1056) hx hb dL_law_928 (by decide) (fun _ => kk IB' JB IM' JM H locs ⟨hR', hPB, hDB, hPM, hDM, hap.sm, hS⟩) (fun c9 => absurd rfl c9)
set_option maxHeartbeats 4000000 in
theorem law_maps {i : Nat} (hi : i + 6 ≤ L) {IB : SI} {JB : SJ} {IM : SI} {JM : SJ} {H : Heap} {locs : List Loc} {ls : Array Slot} (hl : lv_has ls 4 [(0, .ref b), (1, .ref (aB 38)), (2, .ref (aM 13)), (3, .int (nI i))]) (S : LI s (dC, dI) cI cJ cT aB aM IB JB IM JM H locs) (F : LFx p s m c (dC, dI) cI cJ cT pt b L xs)
    (kk : ∀ (IB : SI) (JB : SJ) (IM : SI) (JM : SJ) (H : Heap) (locs : List Loc), LI s (dC, dI) cI cJ cT aB aM IB JB IM JM H locs → W p l e room_1 s m #[Value.ref b] below meth c H locs 53 3544 Q (F0 m 1056 ls [])) : W p l e room_1 s m #[Value.ref b] below meth c H locs 53 3544 Q (F0 m 933 ls []) := by
  obtain ⟨hx, hb, hfix, hts, hX, hbl, hK, hpr, hL⟩ := F
  obtain ⟨hR, hPB, hDB, hPM, hDM, hap, hS⟩ := S
  have hA : ∀ q : Nat, s.heap.size ≤ q → lwA s q := fun _ h => h
  have hbA : ¬ lwA s b := Nat.not_le.mpr hbl
  have h_1 : vp_in (nI i + (1 : Int32)) L := in_i (a := 1) (by omega) hL
  have h_2 : vp_in (nI i + (2 : Int32)) L := in_i (a := 2) (by omega) hL
  obtain ⟨v, IB', IM', eB, eM, hR'⟩ := op_maps LstOK_fr hR (xs (nI i + (1 : Int32)).toNatClampNeg) (xs (nI i + (2 : Int32)).toNatClampNeg)
  refine lv_aload_n hx hb dL_law_933 rfl (lv_at hl 1 rfl) ?_
  refine lv_aload_n hx hb dL_law_934 rfl (lv_at hl 0 rfl) ?_
  refine lv_iload_n hx hb dL_law_935 rfl (lv_at hl 3 rfl) ?_
  refine lv_iconst (v := (1 : Int32)) hx hb dL_law_936 (by decide) ?_
  refine lv_iadd hx hb dL_law_937 ?_
  refine va_sld hx hb hX hbl hbA hS h_1 dL_law_938 ?_
  refine lv_aload_n hx hb dL_law_939 rfl (lv_at hl 0 rfl) ?_
  refine lv_iload_n hx hb dL_law_940 rfl (lv_at hl 3 rfl) ?_
  refine lv_iconst (v := (2 : Int32)) hx hb dL_law_941 (by decide) ?_
  refine lv_iadd hx hb dL_law_942 ?_
  refine va_sld hx hb hX hbl hbA hS h_2 dL_law_943 ?_
  refine xLiP (rest := []) (c_X8_maps l dC dI aB cI cJ cT pt (xs (nI i + (1 : Int32)).toNatClampNeg) (xs (nI i + (2 : Int32)).toNatClampNeg) IB JB eB) hfix (cwV 2 hts gL_law_X8_maps rfl rfl rfl (by decide +kernel) ⟨Nat.le_of_ble_eq_true rfl, Nat.le_of_ble_eq_true rfl⟩) hK hPB hDB hPM hap hS hA hpr (va_recv hK hPB (ci := 7) (q0 := 38) rfl (obB_38 aB cI cJ cT IB JB)) rfl hl.1 rfl (Nat.le_of_ble_eq_true rfl) ⟨Nat.le_of_ble_eq_true rfl, Nat.le_of_ble_eq_true rfl⟩ dL_law_944 (fun H locs hPB hDB hPM hap hS => ?_)
  refine lv_aload_n hx hb dL_law_947 rfl (lv_at hl 2 rfl) ?_
  refine lv_aload_n hx hb dL_law_948 rfl (lv_at hl 0 rfl) ?_
  refine lv_iload_n hx hb dL_law_949 rfl (lv_at hl 3 rfl) ?_
  refine lv_iconst (v := (1 : Int32)) hx hb dL_law_950 (by decide) ?_
  refine lv_iadd hx hb dL_law_951 ?_
  refine va_sld hx hb hX hbl hbA hS h_1 dL_law_952 ?_
  refine lv_aload_n hx hb dL_law_953 rfl (lv_at hl 0 rfl) ?_
  refine lv_iload_n hx hb dL_law_954 rfl (lv_at hl 3 rfl) ?_
  refine lv_iconst (v := (2 : Int32)) hx hb dL_law_955 (by decide) ?_
  refine lv_iadd hx hb dL_law_956 ?_
  refine va_sld hx hb hX hbl hbA hS h_2 dL_law_957 ?_
  refine xLi (rest := [.int v]) (c_X9_maps l dC dI aM cI cJ cT (xs (nI i + (1 : Int32)).toNatClampNeg) (xs (nI i + (2 : Int32)).toNatClampNeg) IM JM eM) hfix (cwV 2 hts gL_law_X9_maps rfl rfl rfl (by decide +kernel) ⟨Nat.le_of_ble_eq_true rfl, Nat.le_of_ble_eq_true rfl⟩) hK hPM hDM hPB hap.sm hS hA (va_recv hK hPM (ci := 8) (q0 := 13) rfl (obM_13 aM cI cJ IM JM)) rfl hl.1 rfl (Nat.le_of_ble_eq_true rfl) ⟨Nat.le_of_ble_eq_true rfl, Nat.le_of_ble_eq_true rfl⟩ dL_law_958 (fun H locs hPM hDM hPB hap hS => ?_)
  exact lv_icmp_eq (tgt := 1056) hx hb dL_law_961 (by decide) (fun _ => kk IB' JB IM' JM H locs ⟨hR', hPB, hDB, hPM, hDM, hap.sm, hS⟩) (fun c9 => absurd rfl c9)
set_option maxHeartbeats 4000000 in
theorem law_map {i : Nat} (hi : i + 6 ≤ L) {IB : SI} {JB : SJ} {IM : SI} {JM : SJ} {H : Heap} {locs : List Loc} {ls : Array Slot} (hl : lv_has ls 4 [(0, .ref b), (1, .ref (aB 38)), (2, .ref (aM 13)), (3, .int (nI i))]) (S : LI s (dC, dI) cI cJ cT aB aM IB JB IM JM H locs) (F : LFx p s m c (dC, dI) cI cJ cT pt b L xs)
    (kk : ∀ (IB : SI) (JB : SJ) (IM : SI) (JM : SJ) (H : Heap) (locs : List Loc), LI s (dC, dI) cI cJ cT aB aM IB JB IM JM H locs → W p l e room_1 s m #[Value.ref b] below meth c H locs 53 3544 Q (F0 m 1056 ls [])) : W p l e room_1 s m #[Value.ref b] below meth c H locs 53 3544 Q (F0 m 966 ls []) := by
  obtain ⟨hx, hb, hfix, hts, hX, hbl, hK, hpr, hL⟩ := F
  obtain ⟨hR, hPB, hDB, hPM, hDM, hap, hS⟩ := S
  have hA : ∀ q : Nat, s.heap.size ≤ q → lwA s q := fun _ h => h
  have hbA : ¬ lwA s b := Nat.not_le.mpr hbl
  have h_1 : vp_in (nI i + (1 : Int32)) L := in_i (a := 1) (by omega) hL
  have h_2 : vp_in (nI i + (2 : Int32)) L := in_i (a := 2) (by omega) hL
  have h_3 : vp_in (nI i + (3 : Int32)) L := in_i (a := 3) (by omega) hL
  have h_4 : vp_in (nI i + (4 : Int32)) L := in_i (a := 4) (by omega) hL
  obtain ⟨v, IB', IM', eB, eM, hR'⟩ := op_map LstOK_fr hR (xs (nI i + (1 : Int32)).toNatClampNeg) (xs (nI i + (2 : Int32)).toNatClampNeg) (xs (nI i + (3 : Int32)).toNatClampNeg) (xs (nI i + (4 : Int32)).toNatClampNeg)
  refine lv_aload_n hx hb dL_law_966 rfl (lv_at hl 1 rfl) ?_
  refine lv_aload_n hx hb dL_law_967 rfl (lv_at hl 0 rfl) ?_
  refine lv_iload_n hx hb dL_law_968 rfl (lv_at hl 3 rfl) ?_
  refine lv_iconst (v := (1 : Int32)) hx hb dL_law_969 (by decide) ?_
  refine lv_iadd hx hb dL_law_970 ?_
  refine va_sld hx hb hX hbl hbA hS h_1 dL_law_971 ?_
  refine lv_aload_n hx hb dL_law_972 rfl (lv_at hl 0 rfl) ?_
  refine lv_iload_n hx hb dL_law_973 rfl (lv_at hl 3 rfl) ?_
  refine lv_iconst (v := (2 : Int32)) hx hb dL_law_974 (by decide) ?_
  refine lv_iadd hx hb dL_law_975 ?_
  refine va_sld hx hb hX hbl hbA hS h_2 dL_law_976 ?_
  refine lv_aload_n hx hb dL_law_977 rfl (lv_at hl 0 rfl) ?_
  refine lv_iload_n hx hb dL_law_978 rfl (lv_at hl 3 rfl) ?_
  refine lv_iconst (v := (3 : Int32)) hx hb dL_law_979 (by decide) ?_
  refine lv_iadd hx hb dL_law_980 ?_
  refine va_sld hx hb hX hbl hbA hS h_3 dL_law_981 ?_
  refine lv_aload_n hx hb dL_law_982 rfl (lv_at hl 0 rfl) ?_
  refine lv_iload_n hx hb dL_law_983 rfl (lv_at hl 3 rfl) ?_
  refine lv_iconst (v := (4 : Int32)) hx hb dL_law_984 (by decide) ?_
  refine lv_iadd hx hb dL_law_985 ?_
  refine va_sld hx hb hX hbl hbA hS h_4 dL_law_986 ?_
  refine xLiP (rest := []) (c_X8_map l dC dI aB cI cJ cT pt (xs (nI i + (1 : Int32)).toNatClampNeg) (xs (nI i + (2 : Int32)).toNatClampNeg) (xs (nI i + (3 : Int32)).toNatClampNeg) (xs (nI i + (4 : Int32)).toNatClampNeg) IB JB eB) hfix (cwV 4 hts gL_law_X8_map rfl rfl rfl (by decide +kernel) ⟨Nat.le_of_ble_eq_true rfl, Nat.le_of_ble_eq_true rfl⟩) hK hPB hDB hPM hap hS hA hpr (va_recv hK hPB (ci := 7) (q0 := 38) rfl (obB_38 aB cI cJ cT IB JB)) rfl hl.1 rfl (Nat.le_of_ble_eq_true rfl) ⟨Nat.le_of_ble_eq_true rfl, Nat.le_of_ble_eq_true rfl⟩ dL_law_987 (fun H locs hPB hDB hPM hap hS => ?_)
  refine lv_aload_n hx hb dL_law_990 rfl (lv_at hl 2 rfl) ?_
  refine lv_aload_n hx hb dL_law_991 rfl (lv_at hl 0 rfl) ?_
  refine lv_iload_n hx hb dL_law_992 rfl (lv_at hl 3 rfl) ?_
  refine lv_iconst (v := (1 : Int32)) hx hb dL_law_993 (by decide) ?_
  refine lv_iadd hx hb dL_law_994 ?_
  refine va_sld hx hb hX hbl hbA hS h_1 dL_law_995 ?_
  refine lv_aload_n hx hb dL_law_996 rfl (lv_at hl 0 rfl) ?_
  refine lv_iload_n hx hb dL_law_997 rfl (lv_at hl 3 rfl) ?_
  refine lv_iconst (v := (2 : Int32)) hx hb dL_law_998 (by decide) ?_
  refine lv_iadd hx hb dL_law_999 ?_
  refine va_sld hx hb hX hbl hbA hS h_2 dL_law_1000 ?_
  refine lv_aload_n hx hb dL_law_1001 rfl (lv_at hl 0 rfl) ?_
  refine lv_iload_n hx hb dL_law_1002 rfl (lv_at hl 3 rfl) ?_
  refine lv_iconst (v := (3 : Int32)) hx hb dL_law_1003 (by decide) ?_
  refine lv_iadd hx hb dL_law_1004 ?_
  refine va_sld hx hb hX hbl hbA hS h_3 dL_law_1005 ?_
  refine lv_aload_n hx hb dL_law_1006 rfl (lv_at hl 0 rfl) ?_
  refine lv_iload_n hx hb dL_law_1007 rfl (lv_at hl 3 rfl) ?_
  refine lv_iconst (v := (4 : Int32)) hx hb dL_law_1008 (by decide) ?_
  refine lv_iadd hx hb dL_law_1009 ?_
  refine va_sld hx hb hX hbl hbA hS h_4 dL_law_1010 ?_
  refine xLi (rest := [.int v]) (c_X9_map l dC dI aM cI cJ cT (xs (nI i + (1 : Int32)).toNatClampNeg) (xs (nI i + (2 : Int32)).toNatClampNeg) (xs (nI i + (3 : Int32)).toNatClampNeg) (xs (nI i + (4 : Int32)).toNatClampNeg) IM JM eM) hfix (cwV 4 hts gL_law_X9_map rfl rfl rfl (by decide +kernel) ⟨Nat.le_of_ble_eq_true rfl, Nat.le_of_ble_eq_true rfl⟩) hK hPM hDM hPB hap.sm hS hA (va_recv hK hPM (ci := 8) (q0 := 13) rfl (obM_13 aM cI cJ IM JM)) rfl hl.1 rfl (Nat.le_of_ble_eq_true rfl) ⟨Nat.le_of_ble_eq_true rfl, Nat.le_of_ble_eq_true rfl⟩ dL_law_1011 (fun H locs hPM hDM hPB hap hS => ?_)
  exact lv_icmp_eq (tgt := 1056) hx hb dL_law_1014 (by decide) (fun _ => kk IB' JB IM' JM H locs ⟨hR', hPB, hDB, hPM, hDM, hap.sm, hS⟩) (fun c9 => absurd rfl c9)
set_option maxHeartbeats 4000000 in
theorem law_size {i : Nat} (hi : i + 6 ≤ L) {IB : SI} {JB : SJ} {IM : SI} {JM : SJ} {H : Heap} {locs : List Loc} {ls : Array Slot} (hl : lv_has ls 4 [(0, .ref b), (1, .ref (aB 38)), (2, .ref (aM 13)), (3, .int (nI i))]) (S : LI s (dC, dI) cI cJ cT aB aM IB JB IM JM H locs) (F : LFx p s m c (dC, dI) cI cJ cT pt b L xs)
    (kk : ∀ (IB : SI) (JB : SJ) (IM : SI) (JM : SJ) (H : Heap) (locs : List Loc), LI s (dC, dI) cI cJ cT aB aM IB JB IM JM H locs → W p l e room_1 s m #[Value.ref b] below meth c H locs 53 3544 Q (F0 m 1056 ls [])) : W p l e room_1 s m #[Value.ref b] below meth c H locs 53 3544 Q (F0 m 1019 ls []) := by
  obtain ⟨hx, hb, hfix, hts, hX, hbl, hK, hpr, hL⟩ := F
  obtain ⟨hR, hPB, hDB, hPM, hDM, hap, hS⟩ := S
  have hA : ∀ q : Nat, s.heap.size ≤ q → lwA s q := fun _ h => h
  have hbA : ¬ lwA s b := Nat.not_le.mpr hbl
  have h_1 : vp_in (nI i + (1 : Int32)) L := in_i (a := 1) (by omega) hL
  obtain ⟨v, IB', JB', IM', eB, eM, hR'⟩ := op_size LstOK_fr JB hR (xs (nI i + (1 : Int32)).toNatClampNeg)
  refine lv_aload_n hx hb dL_law_1019 rfl (lv_at hl 1 rfl) ?_
  refine lv_aload_n hx hb dL_law_1020 rfl (lv_at hl 0 rfl) ?_
  refine lv_iload_n hx hb dL_law_1021 rfl (lv_at hl 3 rfl) ?_
  refine lv_iconst (v := (1 : Int32)) hx hb dL_law_1022 (by decide) ?_
  refine lv_iadd hx hb dL_law_1023 ?_
  refine va_sld hx hb hX hbl hbA hS h_1 dL_law_1024 ?_
  refine xLi (rest := []) (c_X8_size l dC dI aB cI cJ cT (xs (nI i + (1 : Int32)).toNatClampNeg) IB JB eB) hfix (cwV 1 hts gL_law_X8_size rfl rfl rfl (by decide +kernel) ⟨Nat.le_of_ble_eq_true rfl, Nat.le_of_ble_eq_true rfl⟩) hK hPB hDB hPM hap hS hA (va_recv hK hPB (ci := 7) (q0 := 38) rfl (obB_38 aB cI cJ cT IB JB)) rfl hl.1 rfl (Nat.le_of_ble_eq_true rfl) ⟨Nat.le_of_ble_eq_true rfl, Nat.le_of_ble_eq_true rfl⟩ dL_law_1025 (fun H locs hPB hDB hPM hap hS => ?_)
  refine lv_aload_n hx hb dL_law_1028 rfl (lv_at hl 2 rfl) ?_
  refine lv_aload_n hx hb dL_law_1029 rfl (lv_at hl 0 rfl) ?_
  refine lv_iload_n hx hb dL_law_1030 rfl (lv_at hl 3 rfl) ?_
  refine lv_iconst (v := (1 : Int32)) hx hb dL_law_1031 (by decide) ?_
  refine lv_iadd hx hb dL_law_1032 ?_
  refine va_sld hx hb hX hbl hbA hS h_1 dL_law_1033 ?_
  refine xLi (rest := [.int v]) (c_X9_size l dC dI aM cI cJ cT (xs (nI i + (1 : Int32)).toNatClampNeg) IM JM eM) hfix (cwV 1 hts gL_law_X9_size rfl rfl rfl (by decide +kernel) ⟨Nat.le_of_ble_eq_true rfl, Nat.le_of_ble_eq_true rfl⟩) hK hPM hDM hPB hap.sm hS hA (va_recv hK hPM (ci := 8) (q0 := 13) rfl (obM_13 aM cI cJ IM JM)) rfl hl.1 rfl (Nat.le_of_ble_eq_true rfl) ⟨Nat.le_of_ble_eq_true rfl, Nat.le_of_ble_eq_true rfl⟩ dL_law_1034 (fun H locs hPM hDM hPB hap hS => ?_)
  exact lv_icmp_eq (tgt := 1056) hx hb dL_law_1037 (by decide) (fun _ => kk IB' JB' IM' JM H locs ⟨hR', hPB, hDB, hPM, hDM, hap.sm, hS⟩) (fun c9 => absurd rfl c9)
set_option maxHeartbeats 4000000 in
theorem law_digest {i : Nat} (hi : i + 6 ≤ L) {IB : SI} {JB : SJ} {IM : SI} {JM : SJ} {H : Heap} {locs : List Loc} {ls : Array Slot} (hl : lv_has ls 4 [(0, .ref b), (1, .ref (aB 38)), (2, .ref (aM 13)), (3, .int (nI i))]) (S : LI s (dC, dI) cI cJ cT aB aM IB JB IM JM H locs) (F : LFx p s m c (dC, dI) cI cJ cT pt b L xs)
    (kk : ∀ (IB : SI) (JB : SJ) (IM : SI) (JM : SJ) (H : Heap) (locs : List Loc), LI s (dC, dI) cI cJ cT aB aM IB JB IM JM H locs → W p l e room_1 s m #[Value.ref b] below meth c H locs 53 3544 Q (F0 m 1056 ls [])) : W p l e room_1 s m #[Value.ref b] below meth c H locs 53 3544 Q (F0 m 1042 ls []) := by
  obtain ⟨hx, hb, hfix, hts, hX, hbl, hK, hpr, hL⟩ := F
  obtain ⟨hR, hPB, hDB, hPM, hDM, hap, hS⟩ := S
  have hA : ∀ q : Nat, s.heap.size ≤ q → lwA s q := fun _ h => h
  have hbA : ¬ lwA s b := Nat.not_le.mpr hbl
  obtain ⟨v, eB, eM⟩ := op_digest hR 
  refine lv_aload_n hx hb dL_law_1042 rfl (lv_at hl 1 rfl) ?_
  refine xLl (rest := []) (c_X8_digest l dC dI aB cI cJ cT  IB JB eB) hfix (cwV 0 hts gL_law_X8_digest rfl rfl rfl (by decide +kernel) ⟨Nat.le_of_ble_eq_true rfl, Nat.le_of_ble_eq_true rfl⟩) hK hPB hDB hPM hap hS hA (va_recv hK hPB (ci := 7) (q0 := 38) rfl (obB_38 aB cI cJ cT IB JB)) rfl hl.1 rfl (Nat.le_of_ble_eq_true rfl) ⟨Nat.le_of_ble_eq_true rfl, Nat.le_of_ble_eq_true rfl⟩ dL_law_1043 (fun H locs hPB hDB hPM hap hS => ?_)
  refine lv_aload_n hx hb dL_law_1046 rfl (lv_at hl 2 rfl) ?_
  refine xLl (rest := [.long v]) (c_X9_digest l dC dI aM cI cJ cT  IM JM eM) hfix (cwV 0 hts gL_law_X9_digest rfl rfl rfl (by decide +kernel) ⟨Nat.le_of_ble_eq_true rfl, Nat.le_of_ble_eq_true rfl⟩) hK hPM hDM hPB hap.sm hS hA (va_recv hK hPM (ci := 8) (q0 := 13) rfl (obM_13 aM cI cJ IM JM)) rfl hl.1 rfl (Nat.le_of_ble_eq_true rfl) ⟨Nat.le_of_ble_eq_true rfl, Nat.le_of_ble_eq_true rfl⟩ dL_law_1047 (fun H locs hPM hDM hPB hap hS => ?_)
  refine W.lcmp hx hb dL_law_1050 ?_
  exact lv_if_eq (tgt := 1056) hx hb dL_law_1051 (by decide) (fun _ => kk IB JB IM JM H locs ⟨hR, hPB, hDB, hPM, hDM, hap.sm, hS⟩) (fun c9 => absurd ((lg_cmp_eq v v).mpr rfl) c9)
end LC
