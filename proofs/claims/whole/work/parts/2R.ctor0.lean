/-! MAKING: rows for constructors; rows for the law's calls, with another object's world beside -/
theorem one_D (q : Nat) (x : va_E) : va_D (fun _ => True) [(q, x)] := by
  refine ⟨fun i j a b hi hj _ => ?_, fun _ _ _ => trivial⟩
  cases i with
  | zero =>
    cases j with
    | zero => rfl
    | succ j => cases hj
  | succ i => cases hi
section MK
variable {p : Program} {l : Launch} {e : Env} {R : Room} {s : State} {m : MethodId} {args : Array Value} {below : List Frame} {meth : Method} {c : Code} {H : Heap} {locs : List Loc} {cells slots : Nat} {Q : State → Prop}
variable {cc : ByteArray} {pc : Nat} {ls : Array Slot} {rest : List Value} {D : va_G} {A : Nat → Prop} {H0 : Heap} {ws : va_W} {cI cJ cT : ClassId}
theorem x_newI (hexec : p.tables.exec = Jvm.exec) (hb : c.code = cc) (harr : (Cond.arrayClass .int).before args s = true) (hK : va_K D vwCl (tys3 cI cJ cT) s) (hP : va_P D vwCl ws H) (hD : va_D A ws) (hS : va_S A H0 H locs) (hA : ∀ q, H0.size ≤ q → A q) {n : Int32} {N : Nat} (hn : ¬ n < 0) (hN : n.toNatClampNeg = N) (hbytes : N * componentBytes .int ≤ 536870912) (hcells : cells + 1 ≤ R.cells) (hslots : slots + N ≤ R.slots) (hdg : decode cc pc = .ok (.newarray .int, 2))
    (kk : ∀ (q : Nat) (H1 : Heap), va_P D vwCl (ws ++ [(q, .inl (cI, N, .inl (fun _ => 0)))]) H1 → va_D A (ws ++ [(q, .inl (cI, N, .inl (fun _ => 0)))]) → va_S A H0 H1 locs → W p l e R s m args below meth c H1 locs (cells + 1) (slots + N) Q (F0 m (pc + 2) ls (.ref q :: rest))) : W p l e R s m args below meth c H locs cells slots Q (F0 m pc ls (.int n :: rest)) :=
  va_newa (atype := .int) (ty := .int) (a0 := (N, .inl (fun _ => 0))) hexec hb harr rfl hK hP hD hS hA (fun cA => rfl) hn hN hbytes hcells hslots hdg (fun q cA H1 hK1 hP1 hD1 hS1 => by
    have e : cA = cI := Option.some.inj ((hK1.2 3 _ rfl).2.symm.trans (hK.2 0 _ rfl).2)
    subst e
    exact kk q H1 hP1 hD1 hS1)
theorem x_newJ (hexec : p.tables.exec = Jvm.exec) (hb : c.code = cc) (harr : (Cond.arrayClass .long).before args s = true) (hK : va_K D vwCl (tys3 cI cJ cT) s) (hP : va_P D vwCl ws H) (hD : va_D A ws) (hS : va_S A H0 H locs) (hA : ∀ q, H0.size ≤ q → A q) {n : Int32} {N : Nat} (hn : ¬ n < 0) (hN : n.toNatClampNeg = N) (hbytes : N * componentBytes .long ≤ 536870912) (hcells : cells + 1 ≤ R.cells) (hslots : slots + N ≤ R.slots) (hdg : decode cc pc = .ok (.newarray .long, 2))
    (kk : ∀ (q : Nat) (H1 : Heap), va_P D vwCl (ws ++ [(q, .inl (cJ, N, .inr (.inl (fun _ => 0))))]) H1 → va_D A (ws ++ [(q, .inl (cJ, N, .inr (.inl (fun _ => 0))))]) → va_S A H0 H1 locs → W p l e R s m args below meth c H1 locs (cells + 1) (slots + N) Q (F0 m (pc + 2) ls (.ref q :: rest))) : W p l e R s m args below meth c H locs cells slots Q (F0 m pc ls (.int n :: rest)) :=
  va_newa (atype := .long) (ty := .long) (a0 := (N, .inr (.inl (fun _ => 0)))) hexec hb harr rfl hK hP hD hS hA (fun cA => rfl) hn hN hbytes hcells hslots hdg (fun q cA H1 hK1 hP1 hD1 hS1 => by
    have e : cA = cJ := Option.some.inj ((hK1.2 3 _ rfl).2.symm.trans (hK.2 1 _ rfl).2)
    subst e
    exact kk q H1 hP1 hD1 hS1)
theorem x_newT (hexec : p.tables.exec = Jvm.exec) (hb : c.code = cc) {own : String} {index : Nat} (hown : s.vm.findClass own = some m.cls) (hcl : (Cond.classLink own index RX7).before args s = true) (hover : va_AO RX7 s) (hK : va_K D vwCl (tys3 cI cJ cT) s) (hP : va_P D vwCl ws H) (hD : va_D A ws) (hS : va_S A H0 H locs) (hA : ∀ q, H0.size ≤ q → A q) {n : Int32} {N : Nat} (hn : ¬ n < 0) (hN : n.toNatClampNeg = N) (hbytes : N * 4 ≤ 536870912) (hcells : cells + 1 ≤ R.cells) (hslots : slots + N ≤ R.slots) (hdg : decode cc pc = .ok (.anewarray index, 3))
    (kk : ∀ (q : Nat) (H1 : Heap), va_P D vwCl (ws ++ [(q, .inl (cT, N, .inr (.inr (.inr (.inr (fun _ => none))))))]) H1 → va_D A (ws ++ [(q, .inl (cT, N, .inr (.inr (.inr (.inr (fun _ => none))))))]) → va_S A H0 H1 locs → W p l e R s m args below meth c H1 locs (cells + 1) (slots + N) Q (F0 m (pc + 3) ls (.ref q :: rest))) : W p l e R s m args below meth c H locs cells slots Q (F0 m pc ls (.int n :: rest)) :=
  va_newq hexec hb hown hcl hover hK hP hD hS hA hn hN hbytes hcells hslots hdg (fun q cA H1 hK1 hP1 hD1 hS1 => by
    obtain ⟨_, _, _, _, _, h1⟩ := (hK1.2 3 _ rfl).2
    obtain ⟨_, _, _, _, _, h2⟩ := (hK.2 2 _ rfl).2
    have e : cA = cT := Option.some.inj (h1.symm.trans h2)
    subst e
    exact kk q H1 hP1 hD1 hS1)
/-- a constructor's contract: from the bare object h0, with X of the start, to the cells wf u -/
def CtC {S : Type} (l : Launch) (y : MethodName) (ws : List Cond) (rm : Room) (D : va_G) (tys : List (ClassId × FieldType)) (X : State → Prop) (ci : Nat) (fs0 : List Value) (mc ms : Nat) (post : S → Prop) (wf : S → va_W) (h0 : Nat) : Prop :=
  ∀ sz : Nat, Met l y ws rm (va_Pc [.ref h0] (fun U => (U.heap.size = sz ∧ va_P D vwCl [(h0, .inr (ci, fs0))] U.heap ∧ va_K D vwCl tys U ∧ va_D (fun _ => True) [(h0, .inr (ci, fs0))]) ∧ X U)) (va_Qv post (fun u t => va_P D vwCl (wf u) t.heap ∧ va_K D vwCl tys t ∧ va_D (va_A [(h0, .inr (ci, fs0))] sz) (wf u)) (va_A [(h0, .inr (ci, fs0))] sz)) mc ms (va_A [(h0, .inr (ci, fs0))] sz)
def Bl (X : State → Prop) : Prop := ∀ (a : Array Value) (U : State) (g : JFrame) (mk : MethodId), X U → X (U.calling g mk a)
theorem Bl_blind {av : List Value} {D : va_G} {tys : List (ClassId × FieldType)} {w0 : va_W} {sz : Nat} {X : State → Prop} (hX : Bl X) : FrameBlind (va_Pc av (fun U => (U.heap.size = sz ∧ va_P D vwCl w0 U.heap ∧ va_K D vwCl tys U ∧ va_D (fun _ => True) w0) ∧ X U)) := fun a U g mk q => by
  obtain ⟨q0, ⟨q1, qP, qK, qD⟩, qX⟩ := q
  exact ⟨q0, ⟨q1, qP, va_K.moved (u := U) (U := U.calling g mk a) (Vm.Alike.refl U.vm) qK, qD⟩, hX a U g mk qX⟩
theorem left_at {α : Type} {X Y : List α} {k : Nat} {q : α} (h : X[k]? = some q) : (X ++ Y)[k]? = some q := by rw [List.getElem?_append_left (List.getElem?_eq_some_iff.mp h).1]; exact h
theorem right_at {α : Type} {X Y : List α} {k : Nat} {q : α} (h : Y[k]? = some q) : (X ++ Y)[X.length + k]? = some q := by rw [List.getElem?_append_right (Nat.le_add_right _ _), Nat.add_sub_cancel_left]; exact h
variable {y : MethodName} {bytes : ByteArray} {maxL nL mc ms index : Nat} {Ts wsy : List Cond} {rm : Room} {own host : String} {q ci : Nat} {fs0 : List Value} {tys : List (ClassId × FieldType)} {X : State → Prop} {st0 : List Value} {S : Type} {post : S → Prop} {wf : S → va_W}
theorem x_fin {a : Array Value} (hr : va_Run p l e R s m args below meth c H locs cells slots mc ms (F0 m pc ls st0) rest (va_Qv post (fun u t => va_P D vwCl (wf u) t.heap ∧ va_K D vwCl tys t ∧ va_D (va_A [(q, .inr (ci, fs0))] H.size) (wf u)) (va_A [(q, .inr (ci, fs0))] H.size) a) (va_A [(q, .inr (ci, fs0))] H.size)) (hP : va_P D vwCl (ws ++ [(q, .inr (ci, fs0))]) H) (hD : va_D A (ws ++ [(q, .inr (ci, fs0))])) (hS : va_S A H0 H locs) (hA : ∀ q, H0.size ≤ q → A q)
    (kk : ∀ (u : S) (H1 : Heap) (locs1 : List Loc), post u → va_P D vwCl (ws ++ wf u) H1 → va_D A (ws ++ wf u) → va_S A H0 H1 locs1 → W p l e R s m args below meth c H1 locs1 (cells + mc) (slots + ms) Q (F0 m (pc + 3) ls rest)) : W p l e R s m args below meth c H locs cells slots Q (F0 m pc ls st0) := by
  have hlast : (ws ++ [(q, (.inr (ci, fs0) : va_E))])[ws.length + 0]? = some (q, .inr (ci, fs0)) := right_at rfl
  have hF : ∀ x, va_A [(q, (.inr (ci, fs0) : va_E))] H.size x → A x := fun x h => by
    rcases h with ⟨k, e, h⟩ | h
    · cases k with
      | zero => cases h; exact hD.2 _ _ hlast
      | succ k => cases h
    · exact hA x (Nat.le_trans hS.1 h)
  refine va_callv hr hS (fun q _ h => hF q h) hF (fun u t H1 locs1 ht hvm hw hB hz hk hS1 => ?_)
  obtain ⟨hP1, -, hD1⟩ := hB
  rw [ht] at hP1
  have hP0 : va_P D vwCl ws H := fun k x hx => hP k x (left_at hx)
  have hD0 : va_D A ws := ⟨fun i j p q hi hj => hD.1 i j p q (left_at hi) (left_at hj), fun k x hx => hD.2 k x (left_at hx)⟩
  have ap : ∀ (k : Nat) (x : Nat × va_E), ws[k]? = some x → ¬ va_A [(q, (.inr (ci, fs0) : va_E))] H.size x.1 := fun k x hx h => by
    rcases h with ⟨j, e, h⟩ | h
    · cases j with
      | zero =>
        have h : (q, (.inr (ci, fs0) : va_E)) = (x.1, e) := Option.some.inj h
        have hq : q = x.1 := congrArg Prod.fst h
        have := hD.1 k (ws.length + 0) x _ (left_at hx) hlast hq.symm
        have := (List.getElem?_eq_some_iff.mp hx).1
        omega
      | succ j => cases h
    · have := (hP0 k x hx).lt
      omega
  exact kk u H1 locs1 hw ((hP0.kept (fun k x hx => hk x.1 (hP0 k x hx).lt (ap k x hx))).app hP1) (hD0.app (hD1.weaken (fun _ x _ h => hF x.1 h)) (fun i j x x' hi hj e => ap i x hi (by rw [e]; exact hD1.2 j x' hj))) hS1
theorem xI (hM : CtC l y wsy rm D tys X ci fs0 mc ms post wf q) (hX : Bl X) (hfix : CallFix p m c cc nL s args Ts own) (cw : CallB R s args own index y bytes maxL none wsy rm mc ms 0 ∧ y.name = "<init>" ∧ (Cond.instanceMethod y).before args s = true) (hXs : ∀ U : State, U.heap = H → s.WarmedH U.vm → X U) (hK : va_K D vwCl tys s) (hP : va_P D vwCl (ws ++ [(q, .inr (ci, fs0))]) H) (hD : va_D A (ws ++ [(q, .inr (ci, fs0))])) (hS : va_S A H0 H locs) (hA : ∀ q, H0.size ≤ q → A q)
    (hsz : ls.size = nL) (hW : (rest.map fun v => v.category).sum ≤ 8) (hf : cells + mc ≤ R.cells ∧ slots + ms ≤ R.slots) (hdg : decode cc pc = .ok (.invokespecial index, 3))
    (kk : ∀ (u : S) (H1 : Heap) (locs1 : List Loc), post u → va_P D vwCl (ws ++ wf u) H1 → va_D A (ws ++ wf u) → va_S A H0 H1 locs1 → W p l e R s m args below meth c H1 locs1 (cells + mc) (slots + ms) Q (F0 m (pc + 3) ls rest)) : W p l e R s m args below meth c H locs cells slots Q (F0 m pc ls (.ref q :: rest)) := by
  have hPc : va_P D vwCl [(q, .inr (ci, fs0))] H := fun k x hx => hP _ x (right_at hx)
  have hDc : va_D (fun _ => True) [(q, (.inr (ci, fs0) : va_E))] := one_D q _
  exact x_fin (va_runI (g := F0 m pc ls (.ref q :: rest)) (As := []) hfix (hM H.size) cw ⟨Bl_blind hX, fun U hU hW => ⟨rfl, ⟨by rw [hU], by rw [hU]; exact hPc, va_K.moved hW.alike hK, hDc⟩, hXs U hU hW⟩⟩ rfl rfl hsz rfl (lv_room hW) hdg hf) hP hD hS hA kk
theorem xIn (hM : CtC l y wsy rm D tys X ci fs0 mc ms post wf q) (hX : Bl X) (hfix : CallFix p m c cc nL s args Ts own) (cw : va_CN R s args own index y host bytes maxL none wsy rm mc ms 0 ∧ y.name = "<init>" ∧ (Cond.instanceMethod y).before args s = true) (hXs : ∀ U : State, U.heap = H → s.WarmedH U.vm → X U) (hK : va_K D vwCl tys s) (hP : va_P D vwCl (ws ++ [(q, .inr (ci, fs0))]) H) (hD : va_D A (ws ++ [(q, .inr (ci, fs0))])) (hS : va_S A H0 H locs) (hA : ∀ q, H0.size ≤ q → A q)
    (hsz : ls.size = nL) (hW : (rest.map fun v => v.category).sum ≤ 8) (hf : cells + mc ≤ R.cells ∧ slots + ms ≤ R.slots) (hdg : decode cc pc = .ok (.invokespecial index, 3))
    (kk : ∀ (u : S) (H1 : Heap) (locs1 : List Loc), post u → va_P D vwCl (ws ++ wf u) H1 → va_D A (ws ++ wf u) → va_S A H0 H1 locs1 → W p l e R s m args below meth c H1 locs1 (cells + mc) (slots + ms) Q (F0 m (pc + 3) ls rest)) : W p l e R s m args below meth c H locs cells slots Q (F0 m pc ls (.ref q :: rest)) := by
  have hPc : va_P D vwCl [(q, .inr (ci, fs0))] H := fun k x hx => hP _ x (right_at hx)
  have hDc : va_D (fun _ => True) [(q, (.inr (ci, fs0) : va_E))] := one_D q _
  exact x_fin (va_runIN (g := F0 m pc ls (.ref q :: rest)) (As := []) hfix (hM H.size) cw ⟨Bl_blind hX, fun U hU hW => ⟨rfl, ⟨by rw [hU], by rw [hU]; exact hPc, va_K.moved hW.alike hK, hDc⟩, hXs U hU hW⟩⟩ rfl rfl hsz rfl (lv_room hW) hdg hf) hP hD hS hA kk
end MK
