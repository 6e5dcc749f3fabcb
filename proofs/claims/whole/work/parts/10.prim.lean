/-! PRIMES: the static array that nobody writes, beside the world -/
def SPR (pt : Nat) (A : Nat → Prop) (U : State) (H : Heap) : Prop := va_Z RX8 "PRIMES" "[I" (.ref pt) A U H ∧ va_T .int pt 6 (fun j => .int (primes j)) A U H
theorem SPR.go {pt : Nat} {A B : Nat → Prop} {s U : State} {H : Heap} {locs : List Loc} (h : SPR pt A s s.heap) (hS : va_S A s.heap H locs) (hAB : ∀ q, B q → A q) (hvm : s.vm.Alike U.vm) : SPR pt B U H :=
  ⟨((h.1.kept (fun a h1 h2 => hS.2.1 a h1 h2)).narrow hAB).moved hvm, ((h.2.kept (fun a h1 h2 => hS.2.1 a h1 h2)).narrow hAB).moved hvm⟩
def PWP (D : va_G) (tys : List (ClassId × FieldType)) (w : SI → SJ → va_W) (pt : Nat) (I : SI) (J : SJ) (sz : Nat) : State → Prop := fun U => PW D tys w I J sz U ∧ va_Z RX8 "PRIMES" "[I" (.ref pt) (va_A (w I J) sz) U U.heap ∧ va_T .int pt 6 (fun j => .int (primes j)) (va_A (w I J) sz) U U.heap
def CtIP (l : Launch) (y : MethodName) (ws : List Cond) (rm : Room) (D : va_G) (tys : List (ClassId × FieldType)) (w : SI → SJ → va_W) (pt : Nat) (av : List Value) (I : SI) (J : SJ) (r0 : Int32) (I0 : SI) (J0 : SJ) : Prop := ∀ sz : Nat, Met l y ws rm (va_Pc av (PWP D tys w pt I J sz)) (va_Qi (fun (r : Int32) (u : SI × SJ) => r = r0 ∧ u = (I0, J0)) (PQ D tys w (va_A (w I J) sz)) (va_A (w I J) sz)) 0 0 (va_A (w I J) sz)
theorem x_blindP {av : List Value} {D : va_G} {tys : List (ClassId × FieldType)} {w : SI → SJ → va_W} {pt : Nat} {I : SI} {J : SJ} {sz : Nat} : FrameBlind (va_Pc av (PWP D tys w pt I J sz)) := fun a U g mk q => by
  obtain ⟨q0, ⟨q1, qP, qK, qD⟩, qZ, qT⟩ := q
  exact ⟨q0, ⟨q1, qP, va_K.moved (u := U) (U := U.calling g mk a) (Vm.Alike.refl U.vm) qK, qD⟩, va_Z.moved (u := U) (U := U.calling g mk a) (Vm.Alike.refl U.vm) qZ, va_T.moved (u := U) (U := U.calling g mk a) (Vm.Alike.refl U.vm) qT⟩
section XRP
variable {p : Program} {l : Launch} {e : Env} {R : Room} {s : State} {m : MethodId} {args : Array Value} {below : List Frame} {meth : Method} {c : Code} {H : Heap} {locs : List Loc} {cells slots : Nat} {Q : State → Prop}
variable {cc : ByteArray} {pc : Nat} {ls : Array Slot} {rest : List Value} {D : va_G} {A : Nat → Prop} {w : SI → SJ → va_W} {I : SI} {J : SJ}
variable {y : MethodName} {bytes : ByteArray} {maxL nL z index : Nat} {ret : Option FieldType} {ws : List Cond} {rm : Room} {Ts : List Cond} {own C : String} {b : Addr} {As st0 : List Value} {tys : List (ClassId × FieldType)} {I0 : SI} {J0 : SJ} {pt : Nat}
theorem xSiP {r0 : Int32} (hM : CtIP l y ws rm D tys w pt As I J r0 I0 J0) (hfix : CallFix p m c cc nL s args Ts own) (cw : CallB R s args own index y bytes maxL ret ws rm 0 0 z ∧ (Cond.static y).before args s = true) (hK : va_K D vwCl tys s) (hP : va_P D vwCl (w I J) H) (hD : va_D A (w I J)) (hS : va_S A s.heap H locs) (hA : ∀ q, s.heap.size ≤ q → A q) (hZ : va_Z RX8 "PRIMES" "[I" (.ref pt) A s s.heap) (hTT : va_T .int pt 6 (fun j => .int (primes j)) A s s.heap)
    (hn : As.length = z) (hsz : ls.size = nL) (hst : st0 = As.reverse ++ rest) (hW : (rest.map fun v => v.category).sum ≤ 8) (hf : cells + 0 ≤ R.cells ∧ slots + 0 ≤ R.slots) (hdg : decode cc pc = .ok (.invokestatic index, 3))
    (kk : ∀ (H1 : Heap) (locs1 : List Loc), va_P D vwCl (w I0 J0) H1 → va_D A (w I0 J0) → va_S A s.heap H1 locs1 → W p l e R s m args below meth c H1 locs1 cells slots Q (F0 m (pc + 3) ls (.int r0 :: rest))) : W p l e R s m args below meth c H locs cells slots Q (F0 m pc ls st0) := by
  have hF := x_free hD hS hA
  refine va_calli (va_runS (g := F0 m pc ls st0) hfix (hM H.size) cw ⟨x_blindP, fun U hU hW => ⟨rfl, x_pre hU hW hK hP hD, by rw [hU]; exact (SPR.go ⟨hZ, hTT⟩ hS hF hW.alike).1, by rw [hU]; exact (SPR.go ⟨hZ, hTT⟩ hS hF hW.alike).2⟩⟩ rfl hn hsz hst (lv_room hW) hdg hf) hS (fun q _ h => hF q h) hF (fun r u t H1 locs1 ht hvm hw hB hz hk hS1 => ?_)
  obtain ⟨rfl, rfl⟩ := hw
  obtain ⟨hP1, -, hD1⟩ := hB
  rw [ht] at hP1
  exact kk H1 locs1 hP1 (hD1.weaken (fun _ q _ h => hF q.1 h)) hS1
end XRP
set_option maxHeartbeats 4000000 in
set_option maxRecDepth 100000 in
theorem c_X8_isPrime (l : Launch) (dC : Nat → ClassId) (dI : Nat → Nat → Nat) (ad : Nat → Nat) (cI cJ cT : ClassId) (pt : Nat) (p0 : Int32) (I : SI) (J : SJ) {r0 : Int32} (hf : f_X8_isPrime p0 = some r0) : CtIP l yX8_isPrime wsX8_isPrime ({ frames := 0, cells := 0, slots := 0, locals := 0 } : Room) (dC, dI) (tys3 cI cJ cT) (wB ad cI cJ cT) pt [.int p0] I J r0 I J := by
  intro sz
  refine Met.ofW (cc := cX8_isPrime) (maxL := 5) (ret := (some .boolean)) (by decide) rfl ?_
  intro p e s m args below meth c s₁ B hml hv
  obtain ⟨hargs, ⟨hsz, hP, hK, hD0⟩, hZ, hTT⟩ := hv
  have hx := B.exec
  have hb := B.bytes
  have hr := B.returns
  have hts := atoms_spec (ws := wsX8_isPrime) B.pre
  have hown : s.vm.findClass RX8 = some m.cls := findClass_of_methodNamed B.named
  have hlocks := B.notSynchronized
  subst hsz
  have hD := hD0.self (sz := s.heap.size)
  generalize hAe : va_A ((wB ad cI cJ cT) I J) s.heap.size = A at hD hZ hTT ⊢
  have hA : ∀ q : Nat, s.heap.size ≤ q → A q := fun q h => by rw [← hAe]; exact Or.inr h
  have hS : va_S A s.heap s.heap [] := va_S.rf
  have hl := lv_entry ([.int p0]) (n := 5) (Nat.le_of_ble_eq_true rfl)
  rw [hargs, lg_entry_eq, ← hargs]
  generalize (lg_sl ([.int p0]) ++ List.replicate (5 - (lg_sl ([.int p0])).length) Slot.unset).toArray = ls at hl ⊢
  have hl : lv_has ls 5 [(0, .int p0)] := hl
  have hfix : CallFix p m c cX8_isPrime 5 s args wsX8_isPrime RX8 := ⟨hx, hb, hml, hown, hts⟩
  have wd_0 := hts (.fieldLink RX8 206 "FuseBench" "PRIMES" "[I") (by decide +kernel)
  have L9 : ∀ (Q : State → Prop) (v0 : Int32) (v2 : Int32) (I : SI) (J : SJ) (o : Nat), (∀  (H : Heap) (locs : List Loc) (ls : Array Slot), o = 0 → va_P (dC, dI) vwCl ((wB ad cI cJ cT) I J) H → va_D A ((wB ad cI cJ cT) I J) → va_S A s.heap H locs → lv_has ls 5 [] → W p l e ({ frames := 0, cells := 0, slots := 0, locals := 0 } : Room) s m args below meth c H locs 0 0 Q (F0 m 25 ls [])) → (∀  (H : Heap) (locs : List Loc) (ls : Array Slot), o = 1 → va_P (dC, dI) vwCl ((wB ad cI cJ cT) I J) H → va_D A ((wB ad cI cJ cT) I J) → va_S A s.heap H locs → lv_has ls 5 [] → W p l e ({ frames := 0, cells := 0, slots := 0, locals := 0 } : Room) s m args below meth c H locs 0 0 Q (F0 m 33 ls [])) → ∀ (n : Nat) (v3 : Int32) (H : Heap) (locs : List Loc) (ls : Array Slot), lp_X8_isPrime_9 v0 v2 n v3 = some o → va_P (dC, dI) vwCl ((wB ad cI cJ cT) I J) H → va_D A ((wB ad cI cJ cT) I J) → va_S A s.heap H locs → lv_has ls 5 [(0, .int v0), (1, .ref (pt)), (2, .int v2), (3, .int v3)] → W p l e ({ frames := 0, cells := 0, slots := 0, locals := 0 } : Room) s m args below meth c H locs 0 0 Q (F0 m 9 ls []) := by
    intro Q v0 v2 I J o K0 K1 n
    clear hP hD hS hl
    induction n with
    | zero =>
      intro v3 H locs ls hf
      rw [lp_X8_isPrime_9.eq_1] at hf
      cases hf
    | succ n ih =>
      intro v3 H locs ls hf hP hD hS hl
      rw [lp_X8_isPrime_9.eq_2] at hf
      refine lv_iload_n hx hb dX8_isPrime_9 rfl (lv_at hl 3 rfl) ?_
      refine lv_iload_n hx hb dX8_isPrime_10 rfl (lv_at hl 2 rfl) ?_
      refine lv_icmp_ge (tgt := 33) hx hb dX8_isPrime_11 (by decide) (fun c_1 => ?_) (fun c_1 => ?_)
      · have hf := (if_pos c_1).symm.trans hf
        exact K1  _ _ _ (Option.some.inj hf).symm hP hD hS (lv_sub hl [] rfl)
      · have hf := (if_neg c_1).symm.trans hf
        refine lv_aload_n hx hb dX8_isPrime_14 rfl (lv_at hl 1 rfl) ?_
        refine lv_iload_n hx hb dX8_isPrime_15 rfl (lv_at hl 3 rfl) ?_
        obtain ⟨h_2, hf⟩ := gd_some hf
        refine va_ti (v := .int (primes v3.toNatClampNeg)) hx hb hTT hS h_2 rfl dX8_isPrime_16 ?_
        refine lv_istore (lv' := [(4, .int (primes v3.toNatClampNeg)), (0, .int v0), (1, .ref (pt)), (2, .int v2), (3, .int v3)]) hx hb dX8_isPrime_17 hl (by decide) rfl (fun ls hl => ?_)
        refine lv_iload hx hb dX8_isPrime_19 (lv_at hl 0 rfl) ?_
        refine lv_iload_n hx hb dX8_isPrime_21 rfl (lv_at hl 1 rfl) ?_
        refine lv_icmp_ne (tgt := 27) hx hb dX8_isPrime_22 (by decide) (fun c_3 => ?_) (fun c_3 => ?_)
        · have hf := (if_neg c_3).symm.trans hf
          refine lv_iinc (v := (v3 + (1 : Int32))) (lv' := [(3, .int (v3 + (1 : Int32))), (4, .int (primes v3.toNatClampNeg)), (0, .int v0), (1, .ref (pt)), (2, .int v2)]) hx hb dX8_isPrime_27 hl (k := 4) rfl (by first | rfl | decide) (by decide) rfl (fun ls hl => ?_)
          refine lv_goto (tgt := 9) hx hb dX8_isPrime_30 (by decide) ?_
          exact ih _ _ _ _ hf hP hD hS (lv_sub hl [2, 3, 4, 0] rfl)
        · have hf := (if_pos c_3).symm.trans hf
          exact K0  _ _ _ (Option.some.inj hf).symm hP hD hS (lv_sub hl [] rfl)
  unfold f_X8_isPrime at hf
  refine va_gets (v := .ref pt) hx hb hZ hS hown wd_0 (fun _ h9 => h9) dX8_isPrime_0 ?_
  refine lv_astore_n (lv' := [(1, .ref (pt)), (0, .int p0)]) hx hb dX8_isPrime_3 rfl hl (by decide) rfl (fun ls hl => ?_)
  refine lv_aload_n hx hb dX8_isPrime_4 rfl (lv_at hl 0 rfl) ?_
  refine va_tlen (v := (6 : Int32)) hx hb hTT hS rfl dX8_isPrime_5 ?_
  refine lv_istore_n (lv' := [(2, .int (6 : Int32)), (1, .ref (pt)), (0, .int p0)]) hx hb dX8_isPrime_6 rfl hl (by decide) rfl (fun ls hl => ?_)
  refine lv_iconst (v := (0 : Int32)) hx hb dX8_isPrime_7 (by decide) ?_
  refine lv_istore_n (lv' := [(3, .int (0 : Int32)), (2, .int (6 : Int32)), (1, .ref (pt)), (0, .int p0)]) hx hb dX8_isPrime_8 rfl hl (by decide) rfl (fun ls hl => ?_)
  obtain ⟨o_4, hg_4, hf⟩ := bd_some hf
  refine L9 _ p0 (6 : Int32) I J o_4 ?_ ?_ FU (0 : Int32) _ _ _ hg_4 hP hD hS (lv_sub hl [3, 2, 1, 0] rfl)
  · intro  H locs ls ho hP hD hS hl
    subst o_4
    have hf := (if_pos (show 0 = 0 from rfl)).symm.trans hf
    refine lv_iconst (v := (1 : Int32)) hx hb dX8_isPrime_25 (by decide) ?_
    cases hf
    exact xRz hx hb hr hlocks rfl hK hP hD hS (fun _ h => h) dX8_isPrime_26
  · intro  H locs ls ho hP hD hS hl
    subst o_4
    have hf := (if_neg (show ¬ (1 = 0) by decide)).symm.trans hf
    refine lv_iconst (v := (0 : Int32)) hx hb dX8_isPrime_33 (by decide) ?_
    cases hf
    exact xRz hx hb hr hlocks rfl hK hP hD hS (fun _ h => h) dX8_isPrime_34
set_option maxHeartbeats 4000000 in
set_option maxRecDepth 100000 in
theorem c_X8_maps (l : Launch) (dC : Nat → ClassId) (dI : Nat → Nat → Nat) (ad : Nat → Nat) (cI cJ cT : ClassId) (pt : Nat) (p1 : Int32) (p2 : Int32) (I : SI) (J : SJ) {r0 : Int32} {I0 : SI} (hf : f_X8_maps p1 p2 I = some (r0, I0)) : CtIP l yX8_maps wsX8_maps ({ frames := 6, cells := 0, slots := 0, locals := 138 } : Room) (dC, dI) (tys3 cI cJ cT) (wB ad cI cJ cT) pt [.ref (ad 38), .int p1, .int p2] I J r0 I0 J := by
  intro sz
  refine Met.ofW (cc := cX8_maps) (maxL := 3) (ret := (some .int)) (by decide) rfl ?_
  intro p e s m args below meth c s₁ B hml hv
  obtain ⟨hargs, ⟨hsz, hP, hK, hD0⟩, hZ, hTT⟩ := hv
  have hx := B.exec
  have hb := B.bytes
  have hr := B.returns
  have hts := atoms_spec (ws := wsX8_maps) B.pre
  have hown : s.vm.findClass RX8 = some m.cls := findClass_of_methodNamed B.named
  have hlocks := B.notSynchronized
  subst hsz
  have hD := hD0.self (sz := s.heap.size)
  generalize hAe : va_A ((wB ad cI cJ cT) I J) s.heap.size = A at hD hZ hTT ⊢
  have hA : ∀ q : Nat, s.heap.size ≤ q → A q := fun q h => by rw [← hAe]; exact Or.inr h
  have hS : va_S A s.heap s.heap [] := va_S.rf
  have hl := lv_entry ([.ref (ad 38), .int p1, .int p2]) (n := 3) (Nat.le_of_ble_eq_true rfl)
  rw [hargs, lg_entry_eq, ← hargs]
  generalize (lg_sl ([.ref (ad 38), .int p1, .int p2]) ++ List.replicate (3 - (lg_sl ([.ref (ad 38), .int p1, .int p2])).length) Slot.unset).toArray = ls at hl ⊢
  have hl : lv_has ls 3 [(0, .ref (ad 38)), (1, .int p1), (2, .int p2)] := hl
  have hfix : CallFix p m c cX8_maps 3 s args wsX8_maps RX8 := ⟨hx, hb, hml, hown, hts⟩
  have in_X8 : ∀ w ∈ u_ws RX8 TX8 10, w ∈ wsX8_maps := by decide +kernel
  have wd_0 := hts (.fieldLink RX8 51 "FuseBench" "remainders" "LFuseBench$Remainders;") (by decide +kernel)
  have wd_1 := hts (.fieldLink RX8 11 "FuseBench" "tables" "[LFuseBench$Table;") (by decide +kernel)
  unfold f_X8_maps at hf
  refine lv_iload_n hx hb dX8_maps_0 rfl (lv_at hl 1 rfl) ?_
  obtain ⟨r_1, hg_1, hf⟩ := bd_some hf
  refine xSi (rest := []) (c_X8_isTable l dC dI ad cI cJ cT p1 I J hg_1) hfix (va_cwS 1 hts gX8_maps_X8_isTable rfl rfl rfl (by decide +kernel) ⟨Nat.le_of_ble_eq_true rfl, Nat.le_of_ble_eq_true rfl⟩) hK hP hD hS hA rfl hl.1 rfl (Nat.le_of_ble_eq_true rfl) ⟨Nat.zero_le _, Nat.zero_le _⟩ dX8_maps_1 (fun H locs hP hD hS => ?_)
  refine lv_if_eq (tgt := 14) hx hb dX8_maps_4 (by decide) (fun c_2 => ?_) (fun c_2 => ?_)
  · have hf := (if_pos c_2).symm.trans hf
    refine lv_bipush (v := (-2 : Int32)) hx hb dX8_maps_14 (by decide) ?_
    cases hf
    exact xRi hx hb hr hlocks hK hP hD hS (fun _ h => h) dX8_maps_16
  · have hf := (if_neg c_2).symm.trans hf
    refine lv_iload_n hx hb dX8_maps_7 rfl (lv_at hl 2 rfl) ?_
    obtain ⟨r_3, hg_3, hf⟩ := bd_some hf
    refine xSiP (rest := []) (c_X8_isPrime l dC dI ad cI cJ cT pt p2 I J hg_3) hfix (va_cwS 1 hts gX8_maps_X8_isPrime rfl rfl rfl (by decide +kernel) ⟨Nat.le_of_ble_eq_true rfl, Nat.le_of_ble_eq_true rfl⟩) hK hP hD hS hA hZ hTT rfl hl.1 rfl (Nat.le_of_ble_eq_true rfl) ⟨Nat.zero_le _, Nat.zero_le _⟩ dX8_maps_8 (fun H locs hP hD hS => ?_)
    refine lv_if_ne (tgt := 17) hx hb dX8_maps_11 (by decide) (fun c_4 => ?_) (fun c_4 => ?_)
    · have hf := (if_neg c_4).symm.trans hf
      refine lv_aload_n hx hb dX8_maps_17 rfl (lv_at hl 0 rfl) ?_
      refine lv_iload_n hx hb dX8_maps_18 rfl (lv_at hl 1 rfl) ?_
      obtain ⟨⟨r_5, I_5⟩, hg_5, hf⟩ := bd_some hf
      refine xVi (rest := []) (c_X8_isRight l dC dI ad cI cJ cT p1 I J hg_5) hfix (cwV 1 hts gX8_maps_X8_isRight rfl rfl rfl (by decide +kernel) ⟨Nat.le_of_ble_eq_true rfl, Nat.le_of_ble_eq_true rfl⟩) hK hP hD hS hA (va_recv hK hP (ci := 7) (q0 := 38) rfl (obB_38 ad cI cJ cT I J)) rfl hl.1 rfl (Nat.le_of_ble_eq_true rfl) ⟨Nat.zero_le _, Nat.zero_le _⟩ dX8_maps_19 (fun H locs hP hD hS => ?_)
      refine lv_if_eq (tgt := 42) hx hb dX8_maps_22 (by decide) (fun c_6 => ?_) (fun c_6 => ?_)
      · have hf := (if_pos c_6).symm.trans hf
        refine lv_bipush (v := (-3 : Int32)) hx hb dX8_maps_42 (by decide) ?_
        cases hf
        exact xRi hx hb hr hlocks hK hP hD hS (fun _ h => h) dX8_maps_44
      · have hf := (if_neg c_6).symm.trans hf
        refine lv_aload_n hx hb dX8_maps_25 rfl (lv_at hl 0 rfl) ?_
        refine va_get (D := (dC, dI)) (ci := 7) (v := .ref (ad 29)) (C := RX8) (T := TX8) (N := 10) hx hb hts in_X8 hown hK hP 38 (obB_38 ad cI cJ cT I_5 J) rfl 6 (by decide) wd_0 (fun _ h9 => h9) rfl dX8_maps_26 ?_
        refine lv_aload_n hx hb dX8_maps_29 rfl (lv_at hl 0 rfl) ?_
        refine va_get (D := (dC, dI)) (ci := 7) (v := .ref (ad 37)) (C := RX8) (T := TX8) (N := 10) hx hb hts in_X8 hown hK hP 38 (obB_38 ad cI cJ cT I_5 J) rfl 0 (by decide) wd_1 (fun _ h9 => h9) rfl dX8_maps_30 ?_
        refine lv_iload_n hx hb dX8_maps_33 rfl (lv_at hl 1 rfl) ?_
        obtain ⟨h_7, hf⟩ := gd_some hf
        refine va_aldq hx hb hK hP 37 2 (aiB_37 ad cI cJ cT I_5 J) rfl h_7 dX8_maps_34 ?_
        refine W.eq (g2 := F0 m 35 ls [.ref (ad (8 + p1.toNatClampNeg)), .ref (ad 29)]) rfl ?_
        refine lv_iload_n hx hb dX8_maps_35 rfl (lv_at hl 2 rfl) ?_
        obtain ⟨⟨r_8, I_8⟩, hg_8, hf⟩ := bd_some hf
        refine xVi (rest := []) (c_X4_count l dC dI ad cI cJ cT p1.toNatClampNeg (x_lt8 h_7) p2 I_5 J hg_8) hfix (cwV 2 hts gX8_maps_X4_count rfl rfl rfl (by decide +kernel) ⟨Nat.le_of_ble_eq_true rfl, Nat.le_of_ble_eq_true rfl⟩) hK hP hD hS hA (va_recv hK hP (ci := 4) (q0 := 29) rfl (obB_29 ad cI cJ cT I_5 J)) rfl hl.1 rfl (Nat.le_of_ble_eq_true rfl) ⟨Nat.zero_le _, Nat.zero_le _⟩ dX8_maps_36 (fun H locs hP hD hS => ?_)
        refine lv_goto (tgt := 44) hx hb dX8_maps_39 (by decide) ?_
        cases hf
        exact xRi hx hb hr hlocks hK hP hD hS (fun _ h => h) dX8_maps_44
    · have hf := (if_pos c_4).symm.trans hf
      refine lv_bipush (v := (-2 : Int32)) hx hb dX8_maps_14 (by decide) ?_
      cases hf
      exact xRi hx hb hr hlocks hK hP hD hS (fun _ h => h) dX8_maps_16
set_option maxHeartbeats 4000000 in
set_option maxRecDepth 100000 in
theorem c_X8_map (l : Launch) (dC : Nat → ClassId) (dI : Nat → Nat → Nat) (ad : Nat → Nat) (cI cJ cT : ClassId) (pt : Nat) (p1 : Int32) (p2 : Int32) (p3 : Int32) (p4 : Int32) (I : SI) (J : SJ) {r0 : Int32} {I0 : SI} (hf : f_X8_map p1 p2 p3 p4 I = some (r0, I0)) : CtIP l yX8_map wsX8_map ({ frames := 6, cells := 0, slots := 0, locals := 138 } : Room) (dC, dI) (tys3 cI cJ cT) (wB ad cI cJ cT) pt [.ref (ad 38), .int p1, .int p2, .int p3, .int p4] I J r0 I0 J := by
  intro sz
  refine Met.ofW (cc := cX8_map) (maxL := 5) (ret := (some .int)) (by decide) rfl ?_
  intro p e s m args below meth c s₁ B hml hv
  obtain ⟨hargs, ⟨hsz, hP, hK, hD0⟩, hZ, hTT⟩ := hv
  have hx := B.exec
  have hb := B.bytes
  have hr := B.returns
  have hts := atoms_spec (ws := wsX8_map) B.pre
  have hown : s.vm.findClass RX8 = some m.cls := findClass_of_methodNamed B.named
  have hlocks := B.notSynchronized
  subst hsz
  have hD := hD0.self (sz := s.heap.size)
  generalize hAe : va_A ((wB ad cI cJ cT) I J) s.heap.size = A at hD hZ hTT ⊢
  have hA : ∀ q : Nat, s.heap.size ≤ q → A q := fun q h => by rw [← hAe]; exact Or.inr h
  have hS : va_S A s.heap s.heap [] := va_S.rf
  have hl := lv_entry ([.ref (ad 38), .int p1, .int p2, .int p3, .int p4]) (n := 5) (Nat.le_of_ble_eq_true rfl)
  rw [hargs, lg_entry_eq, ← hargs]
  generalize (lg_sl ([.ref (ad 38), .int p1, .int p2, .int p3, .int p4]) ++ List.replicate (5 - (lg_sl ([.ref (ad 38), .int p1, .int p2, .int p3, .int p4])).length) Slot.unset).toArray = ls at hl ⊢
  have hl : lv_has ls 5 [(0, .ref (ad 38)), (1, .int p1), (2, .int p2), (3, .int p3), (4, .int p4)] := hl
  have hfix : CallFix p m c cX8_map 5 s args wsX8_map RX8 := ⟨hx, hb, hml, hown, hts⟩
  have in_X8 : ∀ w ∈ u_ws RX8 TX8 10, w ∈ wsX8_map := by decide +kernel
  have in_X4 : ∀ w ∈ u_ws RX4 TX4 2, w ∈ wsX8_map := by decide +kernel
  have wd_0 := hts (.fieldLink RX8 51 "FuseBench" "remainders" "LFuseBench$Remainders;") (by decide +kernel)
  have wd_1 := hts (.fieldLink RX8 11 "FuseBench" "tables" "[LFuseBench$Table;") (by decide +kernel)
  have wd_2 := hts (.fieldLink RX8 188 "FuseBench$Remainders" "row" "[I") (by decide +kernel)
  unfold f_X8_map at hf
  refine lv_aload_n hx hb dX8_map_0 rfl (lv_at hl 0 rfl) ?_
  refine lv_iload_n hx hb dX8_map_1 rfl (lv_at hl 1 rfl) ?_
  refine lv_iload hx hb dX8_map_2 (lv_at hl 4 rfl) ?_
  obtain ⟨r_1, hg_1, hf⟩ := bd_some hf
  refine xVi (rest := []) (c_X8_isKind l dC dI ad cI cJ cT p1 p4 I J hg_1) hfix (cwV 2 hts gX8_map_X8_isKind rfl rfl rfl (by decide +kernel) ⟨Nat.le_of_ble_eq_true rfl, Nat.le_of_ble_eq_true rfl⟩) hK hP hD hS hA (va_recv hK hP (ci := 7) (q0 := 38) rfl (obB_38 ad cI cJ cT I J)) rfl hl.1 rfl (Nat.le_of_ble_eq_true rfl) ⟨Nat.zero_le _, Nat.zero_le _⟩ dX8_map_4 (fun H locs hP hD hS => ?_)
  refine lv_if_eq (tgt := 21) hx hb dX8_map_7 (by decide) (fun c_2 => ?_) (fun c_2 => ?_)
  · have hf := (if_pos c_2).symm.trans hf
    refine lv_bipush (v := (-2 : Int32)) hx hb dX8_map_21 (by decide) ?_
    cases hf
    exact xRi hx hb hr hlocks hK hP hD hS (fun _ h => h) dX8_map_23
  · have hf := (if_neg c_2).symm.trans hf
    refine lv_iload_n hx hb dX8_map_10 rfl (lv_at hl 2 rfl) ?_
    obtain ⟨r_3, hg_3, hf⟩ := bd_some hf
    refine xSiP (rest := []) (c_X8_isPrime l dC dI ad cI cJ cT pt p2 I J hg_3) hfix (va_cwS 1 hts gX8_map_X8_isPrime rfl rfl rfl (by decide +kernel) ⟨Nat.le_of_ble_eq_true rfl, Nat.le_of_ble_eq_true rfl⟩) hK hP hD hS hA hZ hTT rfl hl.1 rfl (Nat.le_of_ble_eq_true rfl) ⟨Nat.zero_le _, Nat.zero_le _⟩ dX8_map_11 (fun H locs hP hD hS => ?_)
    refine lv_if_eq (tgt := 21) hx hb dX8_map_14 (by decide) (fun c_4 => ?_) (fun c_4 => ?_)
    · have hf := (if_pos c_4).symm.trans hf
      refine lv_bipush (v := (-2 : Int32)) hx hb dX8_map_21 (by decide) ?_
      cases hf
      exact xRi hx hb hr hlocks hK hP hD hS (fun _ h => h) dX8_map_23
    · have hf := (if_neg c_4).symm.trans hf
      refine lv_iload_n hx hb dX8_map_17 rfl (lv_at hl 3 rfl) ?_
      refine lv_if_ge (tgt := 24) hx hb dX8_map_18 (by decide) (fun c_5 => ?_) (fun c_5 => ?_)
      · have hf := (if_pos c_5).symm.trans hf
        refine lv_aload_n hx hb dX8_map_24 rfl (lv_at hl 0 rfl) ?_
        refine lv_iload_n hx hb dX8_map_25 rfl (lv_at hl 1 rfl) ?_
        obtain ⟨⟨r_6, I_6⟩, hg_6, hf⟩ := bd_some hf
        refine xVi (rest := []) (c_X8_isRight l dC dI ad cI cJ cT p1 I J hg_6) hfix (cwV 1 hts gX8_map_X8_isRight rfl rfl rfl (by decide +kernel) ⟨Nat.le_of_ble_eq_true rfl, Nat.le_of_ble_eq_true rfl⟩) hK hP hD hS hA (va_recv hK hP (ci := 7) (q0 := 38) rfl (obB_38 ad cI cJ cT I J)) rfl hl.1 rfl (Nat.le_of_ble_eq_true rfl) ⟨Nat.zero_le _, Nat.zero_le _⟩ dX8_map_26 (fun H locs hP hD hS => ?_)
        refine lv_if_ne (tgt := 35) hx hb dX8_map_29 (by decide) (fun c_7 => ?_) (fun c_7 => ?_)
        · have hf := (if_neg c_7).symm.trans hf
          refine lv_aload_n hx hb dX8_map_35 rfl (lv_at hl 0 rfl) ?_
          refine va_get (D := (dC, dI)) (ci := 7) (v := .ref (ad 29)) (C := RX8) (T := TX8) (N := 10) hx hb hts in_X8 hown hK hP 38 (obB_38 ad cI cJ cT I_6 J) rfl 6 (by decide) wd_0 (fun _ h9 => h9) rfl dX8_map_36 ?_
          refine lv_aload_n hx hb dX8_map_39 rfl (lv_at hl 0 rfl) ?_
          refine va_get (D := (dC, dI)) (ci := 7) (v := .ref (ad 37)) (C := RX8) (T := TX8) (N := 10) hx hb hts in_X8 hown hK hP 38 (obB_38 ad cI cJ cT I_6 J) rfl 0 (by decide) wd_1 (fun _ h9 => h9) rfl dX8_map_40 ?_
          refine lv_iload_n hx hb dX8_map_43 rfl (lv_at hl 1 rfl) ?_
          obtain ⟨h_8, hf⟩ := gd_some hf
          refine va_aldq hx hb hK hP 37 2 (aiB_37 ad cI cJ cT I_6 J) rfl h_8 dX8_map_44 ?_
          refine W.eq (g2 := F0 m 45 ls [.ref (ad (8 + p1.toNatClampNeg)), .ref (ad 29)]) rfl ?_
          refine lv_iload_n hx hb dX8_map_45 rfl (lv_at hl 2 rfl) ?_
          refine lv_iload_n hx hb dX8_map_46 rfl (lv_at hl 3 rfl) ?_
          obtain ⟨⟨r_9, I_9⟩, hg_9, hf⟩ := bd_some hf
          refine xVi (rest := []) (c_X4_find l dC dI ad cI cJ cT p1.toNatClampNeg (x_lt8 h_8) p2 p3 I_6 J hg_9) hfix (cwV 3 hts gX8_map_X4_find rfl rfl rfl (by decide +kernel) ⟨Nat.le_of_ble_eq_true rfl, Nat.le_of_ble_eq_true rfl⟩) hK hP hD hS hA (va_recv hK hP (ci := 4) (q0 := 29) rfl (obB_29 ad cI cJ cT I_6 J)) rfl hl.1 rfl (Nat.le_of_ble_eq_true rfl) ⟨Nat.zero_le _, Nat.zero_le _⟩ dX8_map_47 (fun H locs hP hD hS => ?_)
          refine lv_if_eq (tgt := 66) hx hb dX8_map_50 (by decide) (fun c_10 => ?_) (fun c_10 => ?_)
          · have hf := (if_pos c_10).symm.trans hf
            refine lv_iconst (v := (-1 : Int32)) hx hb dX8_map_66 (by decide) ?_
            cases hf
            exact xRi hx hb hr hlocks hK hP hD hS (fun _ h => h) dX8_map_67
          · have hf := (if_neg c_10).symm.trans hf
            refine lv_aload_n hx hb dX8_map_53 rfl (lv_at hl 0 rfl) ?_
            refine va_get (D := (dC, dI)) (ci := 7) (v := .ref (ad 29)) (C := RX8) (T := TX8) (N := 10) hx hb hts in_X8 hown hK hP 38 (obB_38 ad cI cJ cT I_9 J) rfl 6 (by decide) wd_0 (fun _ h9 => h9) rfl dX8_map_54 ?_
            refine va_get (D := (dC, dI)) (ci := 4) (v := .ref (ad 28)) (C := RX4) (T := TX4) (N := 2) hx hb hts in_X4 hown hK hP 29 (obB_29 ad cI cJ cT I_9 J) rfl 0 (by decide) wd_2 (fun _ h9 => h9) rfl dX8_map_57 ?_
            refine lv_iload hx hb dX8_map_60 (lv_at hl 4 rfl) ?_
            obtain ⟨h_11, hf⟩ := gd_some hf
            refine x_iald hx hb hK (aiB_28 ad cI cJ cT) hP h_11 dX8_map_62 ?_
            refine lv_goto (tgt := 67) hx hb dX8_map_63 (by decide) ?_
            cases hf
            exact xRi hx hb hr hlocks hK hP hD hS (fun _ h => h) dX8_map_67
        · have hf := (if_pos c_7).symm.trans hf
          refine lv_bipush (v := (-3 : Int32)) hx hb dX8_map_32 (by decide) ?_
          cases hf
          exact xRi hx hb hr hlocks hK hP hD hS (fun _ h => h) dX8_map_34
      · have hf := (if_neg c_5).symm.trans hf
        refine lv_bipush (v := (-2 : Int32)) hx hb dX8_map_21 (by decide) ?_
        cases hf
        exact xRi hx hb hr hlocks hK hP hD hS (fun _ h => h) dX8_map_23
