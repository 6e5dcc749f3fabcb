/-! THE LAW, its rows for calls: one object's world, another's beside it -/
def Apart (X Y : va_W) : Prop := ∀ (i j : Nat) (p q : Nat × va_E), X[i]? = some p → Y[j]? = some q → p.1 ≠ q.1
theorem Apart.sm {X Y : va_W} (h : Apart X Y) : Apart Y X := fun i j p q hp hq e => h j i q p hq hp e.symm
theorem fr_one {D : va_G} {X X' Y : va_W} {H H1 : Heap} (hPY : va_P D vwCl Y H) (hx : Apart X Y) (hk : ∀ q : Nat, q < H.size → ¬ va_A X H.size q → H1[q]? = H[q]?) (hD1 : va_D (va_A X H.size) X') : va_P D vwCl Y H1 ∧ Apart X' Y := by
  have ap : ∀ (j : Nat) (y : Nat × va_E), Y[j]? = some y → ¬ va_A X H.size y.1 := fun j y hy h => by
    rcases h with ⟨k, e, h⟩ | h
    · exact hx k j _ _ h hy rfl
    · have := (hPY j y hy).lt
      omega
  exact ⟨hPY.kept (fun j y hy => hk y.1 (hPY j y hy).lt (ap j y hy)), fun i j a y hi hj e => ap j y hj (by rw [← e]; exact hD1.2 i a hi)⟩
section LW
variable {p : Program} {l : Launch} {e : Env} {R : Room} {s : State} {m : MethodId} {args : Array Value} {below : List Frame} {meth : Method} {c : Code} {H : Heap} {locs : List Loc} {cells slots : Nat} {Q : State → Prop}
variable {cc : ByteArray} {pc : Nat} {ls : Array Slot} {rest : List Value} {D : va_G} {A : Nat → Prop} {w : SI → SJ → va_W} {I : SI} {J : SJ} {Y : va_W}
variable {y : MethodName} {bytes : ByteArray} {maxL nL z index : Nat} {ret : Option FieldType} {ws : List Cond} {rm : Room} {Ts : List Cond} {own C : String} {b : Addr} {As st0 : List Value} {tys : List (ClassId × FieldType)} {I0 : SI} {J0 : SJ} {pt : Nat}
theorem xLi {r0 : Int32} (hM : CtI l y ws rm D tys w (.ref b :: As) I J r0 I0 J0) (hfix : CallFix p m c cc nL s args Ts own) (cw : CallW R s args own C index y bytes maxL ret ws rm 0 0 z) (hK : va_K D vwCl tys s) (hP : va_P D vwCl (w I J) H) (hD : va_D A (w I J)) (hPY : va_P D vwCl Y H) (hap : Apart (w I J) Y) (hS : va_S A s.heap H locs) (hA : ∀ q, s.heap.size ≤ q → A q) (hrc : ∃ cell : Cell, H[b]? = some cell ∧ cell.vm.isStatics = false ∧ s.vm.findClass C = some cell.cls)
    (hn : As.length = z) (hsz : ls.size = nL) (hst : st0 = As.reverse ++ .ref b :: rest) (hW : (rest.map fun v => v.category).sum ≤ 8) (hf : cells + 0 ≤ R.cells ∧ slots + 0 ≤ R.slots) (hdg : decode cc pc = .ok (.invokevirtual index, 3))
    (kk : ∀ (H1 : Heap) (locs1 : List Loc), va_P D vwCl (w I0 J0) H1 → va_D A (w I0 J0) → va_P D vwCl Y H1 → Apart (w I0 J0) Y → va_S A s.heap H1 locs1 → W p l e R s m args below meth c H1 locs1 cells slots Q (F0 m (pc + 3) ls (.int r0 :: rest))) : W p l e R s m args below meth c H locs cells slots Q (F0 m pc ls st0) := by
  have hF := x_free hD hS hA
  refine va_calli (va_runV (g := F0 m pc ls st0) hfix (hM H.size) cw ⟨x_blind, hrc, fun U hU hW => ⟨rfl, x_pre hU hW hK hP hD⟩⟩ rfl hn hsz hst (lv_room hW) hdg hf) hS (fun q _ h => hF q h) hF (fun r u t H1 locs1 ht hvm hw hB hz hk hS1 => ?_)
  obtain ⟨rfl, rfl⟩ := hw
  obtain ⟨hP1, -, hD1⟩ := hB
  rw [ht] at hP1
  obtain ⟨hY1, ha1⟩ := fr_one hPY hap hk hD1
  exact kk H1 locs1 hP1 (hD1.weaken (fun _ q _ h => hF q.1 h)) hY1 ha1 hS1
theorem xLl {r0 : Int64} (hM : CtL l y ws rm D tys w (.ref b :: As) I J r0 I0 J0) (hfix : CallFix p m c cc nL s args Ts own) (cw : CallW R s args own C index y bytes maxL ret ws rm 0 0 z) (hK : va_K D vwCl tys s) (hP : va_P D vwCl (w I J) H) (hD : va_D A (w I J)) (hPY : va_P D vwCl Y H) (hap : Apart (w I J) Y) (hS : va_S A s.heap H locs) (hA : ∀ q, s.heap.size ≤ q → A q) (hrc : ∃ cell : Cell, H[b]? = some cell ∧ cell.vm.isStatics = false ∧ s.vm.findClass C = some cell.cls)
    (hn : As.length = z) (hsz : ls.size = nL) (hst : st0 = As.reverse ++ .ref b :: rest) (hW : (rest.map fun v => v.category).sum ≤ 8) (hf : cells + 0 ≤ R.cells ∧ slots + 0 ≤ R.slots) (hdg : decode cc pc = .ok (.invokevirtual index, 3))
    (kk : ∀ (H1 : Heap) (locs1 : List Loc), va_P D vwCl (w I0 J0) H1 → va_D A (w I0 J0) → va_P D vwCl Y H1 → Apart (w I0 J0) Y → va_S A s.heap H1 locs1 → W p l e R s m args below meth c H1 locs1 cells slots Q (F0 m (pc + 3) ls (.long r0 :: rest))) : W p l e R s m args below meth c H locs cells slots Q (F0 m pc ls st0) := by
  have hF := x_free hD hS hA
  refine va_calll (va_runV (g := F0 m pc ls st0) hfix (hM H.size) cw ⟨x_blind, hrc, fun U hU hW => ⟨rfl, x_pre hU hW hK hP hD⟩⟩ rfl hn hsz hst (lv_room hW) hdg hf) hS (fun q _ h => hF q h) hF (fun r u t H1 locs1 ht hvm hw hB hz hk hS1 => ?_)
  obtain ⟨rfl, rfl⟩ := hw
  obtain ⟨hP1, -, hD1⟩ := hB
  rw [ht] at hP1
  obtain ⟨hY1, ha1⟩ := fr_one hPY hap hk hD1
  exact kk H1 locs1 hP1 (hD1.weaken (fun _ q _ h => hF q.1 h)) hY1 ha1 hS1
theorem xLiP {r0 : Int32} (hM : CtIP l y ws rm D tys w pt (.ref b :: As) I J r0 I0 J0) (hfix : CallFix p m c cc nL s args Ts own) (cw : CallW R s args own C index y bytes maxL ret ws rm 0 0 z) (hK : va_K D vwCl tys s) (hP : va_P D vwCl (w I J) H) (hD : va_D A (w I J)) (hPY : va_P D vwCl Y H) (hap : Apart (w I J) Y) (hS : va_S A s.heap H locs) (hA : ∀ q, s.heap.size ≤ q → A q) (hpr : SPR pt A s s.heap) (hrc : ∃ cell : Cell, H[b]? = some cell ∧ cell.vm.isStatics = false ∧ s.vm.findClass C = some cell.cls)
    (hn : As.length = z) (hsz : ls.size = nL) (hst : st0 = As.reverse ++ .ref b :: rest) (hW : (rest.map fun v => v.category).sum ≤ 8) (hf : cells + 0 ≤ R.cells ∧ slots + 0 ≤ R.slots) (hdg : decode cc pc = .ok (.invokevirtual index, 3))
    (kk : ∀ (H1 : Heap) (locs1 : List Loc), va_P D vwCl (w I0 J0) H1 → va_D A (w I0 J0) → va_P D vwCl Y H1 → Apart (w I0 J0) Y → va_S A s.heap H1 locs1 → W p l e R s m args below meth c H1 locs1 cells slots Q (F0 m (pc + 3) ls (.int r0 :: rest))) : W p l e R s m args below meth c H locs cells slots Q (F0 m pc ls st0) := by
  have hF := x_free hD hS hA
  refine va_calli (va_runV (g := F0 m pc ls st0) hfix (hM H.size) cw ⟨x_blindP, hrc, fun U hU hW => ⟨rfl, x_pre hU hW hK hP hD, by rw [hU]; exact (SPR.go hpr hS hF hW.alike).1, by rw [hU]; exact (SPR.go hpr hS hF hW.alike).2⟩⟩ rfl hn hsz hst (lv_room hW) hdg hf) hS (fun q _ h => hF q h) hF (fun r u t H1 locs1 ht hvm hw hB hz hk hS1 => ?_)
  obtain ⟨rfl, rfl⟩ := hw
  obtain ⟨hP1, -, hD1⟩ := hB
  rw [ht] at hP1
  obtain ⟨hY1, ha1⟩ := fr_one hPY hap hk hD1
  exact kk H1 locs1 hP1 (hD1.weaken (fun _ q _ h => hF q.1 h)) hY1 ha1 hS1
end LW
/-! the law's own: what stands at its loop -/
def lwA (s : State) : Nat → Prop := fun q => s.heap.size ≤ q
def LI (s : State) (D : va_G) (cI cJ cT : ClassId) (aB aM : Nat → Nat) (IB : SI) (JB : SJ) (IM : SI) (JM : SJ) (H : Heap) (locs : List Loc) : Prop :=
  Rel LstOK IB IM ∧ va_P D vwCl (wB aB cI cJ cT IB JB) H ∧ va_D (lwA s) (wB aB cI cJ cT IB JB) ∧ va_P D vwCl (wM aM cI cJ IM JM) H ∧ va_D (lwA s) (wM aM cI cJ IM JM) ∧ Apart (wB aB cI cJ cT IB JB) (wM aM cI cJ IM JM) ∧ va_S (lwA s) s.heap H locs
def LFx (p : Program) (s : State) (m : MethodId) (c : Code) (D : va_G) (cI cJ cT : ClassId) (pt b L : Nat) (xs : Nat → Int32) : Prop :=
  p.tables.exec = Jvm.exec ∧ c.code = cL_law ∧ CallFix p m c cL_law 4 s #[Value.ref b] wsL_law RL ∧ (∀ w ∈ wsL_law, w.before #[Value.ref b] s = true) ∧ va_X b L xs s s.heap ∧ b < s.heap.size ∧ va_K D vwCl (tys3 cI cJ cT) s ∧ SPR pt (lwA s) s s.heap ∧ L ≤ 3072
theorem in_i {i a L : Nat} (h : i + a < L) (hL : L ≤ 3072) : vp_in (nI i + nI a) L := by
  rw [nI_add]
  exact nI_in h (by omega)
