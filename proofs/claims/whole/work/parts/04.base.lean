/-! BASE: the state as two functions (int cells, long cells by id and place), guards, and one row an instruction over a world w I J -/
abbrev SI : Type := Nat → Nat → Int32
abbrev SJ : Type := Nat → Nat → Int64
def gd {α : Type} (c : Prop) [Decidable c] (x : Option α) : Option α := if c then none else x
theorem gd_some {α : Type} {c : Prop} [Decidable c] {x : Option α} {z : α} (h : gd c x = some z) : ¬ c ∧ x = some z := by
  unfold gd at h
  by_cases hc : c
  · rw [if_pos hc] at h; cases h
  · rw [if_neg hc] at h; exact ⟨hc, h⟩
theorem gd_ok {α : Type} {c : Prop} [Decidable c] {x : Option α} (h : ¬ c) : gd c x = x := if_neg h
def bd {α γ : Type} (x : Option α) (k : α → Option γ) : Option γ := match x with
  | none => none
  | some o => k o
theorem bd_some {α γ : Type} {x : Option α} {k : α → Option γ} {z : γ} (h : bd x k = some z) : ∃ o, x = some o ∧ k o = some z := by
  cases x with
  | none => cases h
  | some o => exact ⟨o, rfl, h⟩
theorem bd_ok {α γ : Type} {x : Option α} {k : α → Option γ} {o : α} (h : x = some o) : bd x k = k o := by rw [h]; rfl
def ups (I : SI) (k i : Nat) (x : Int32) : SI := va_up I k (upd (I k) i x)
def upj (J : SJ) (k i : Nat) (x : Int64) : SJ := va_up J k (vp_updL (J k) i x)
def sets (I : SI) (k : Nat) (x : Int32) : SI := va_up I k (fun _ => x)
abbrev tys3 (cI cJ cT : ClassId) : List (ClassId × FieldType) := [(cI, .int), (cJ, .long), (cT, .object RX7)]
/-- an int array a of n places, the id k of the state, at place q of the world -/
def AI (w : SI → SJ → va_W) (cI : ClassId) (a k n q : Nat) : Prop := (∀ (I : SI) (J : SJ), (w I J)[q]? = some (a, .inl (cI, n, .inl (I k)))) ∧ ∀ (I : SI) (J : SJ) (f : Nat → Int32), (w I J).set q (a, .inl (cI, n, .inl f)) = w (va_up I k f) J
def AJ (w : SI → SJ → va_W) (cJ : ClassId) (a k n q : Nat) : Prop := (∀ (I : SI) (J : SJ), (w I J)[q]? = some (a, .inl (cJ, n, .inr (.inl (J k))))) ∧ ∀ (I : SI) (J : SJ) (f : Nat → Int64), (w I J).set q (a, .inl (cJ, n, .inr (.inl f))) = w I (va_up J k f)
/-- the Table x: its numbers are the id x, its kinds the id 8 + x -/
def TbI (w : SI → SJ → va_W) (cI : ClassId) (ad pq : Nat → Nat) (x : Nat) : Prop := AI w cI (ad x) x 125 (pq x) ∧ (∀ (I : SI) (J : SJ), (w I J)[pq (8 + x)]? = some (ad (8 + x), .inr (6, [.ref (ad x), .int (I (8 + x) 0)]))) ∧ ∀ (I : SI) (J : SJ) (v : Int32), (w I J).set (pq (8 + x)) (ad (8 + x), .inr (6, ([.ref (ad x), .int (I (8 + x) 0)] : List Value).set 1 (.int v))) = w (va_up I (8 + x) (fun _ => v)) J
theorem nz {v : Int32} (h : ¬ ¬ (v = 0 ∨ v = 1)) : narrow .boolean (.int v) = .int v := by
  rcases Decidable.not_not.mp h with rfl | rfl <;> rfl
def PW (D : va_G) (tys : List (ClassId × FieldType)) (w : SI → SJ → va_W) (I : SI) (J : SJ) (sz : Nat) : State → Prop := fun U => U.heap.size = sz ∧ va_P D vwCl (w I J) U.heap ∧ va_K D vwCl tys U ∧ va_D (fun _ => True) (w I J)
def PQ (D : va_G) (tys : List (ClassId × FieldType)) (w : SI → SJ → va_W) (A : Nat → Prop) (u : SI × SJ) (t : State) : Prop := va_P D vwCl (w u.1 u.2) t.heap ∧ va_K D vwCl tys t ∧ va_D A (w u.1 u.2)
def CtI (l : Launch) (y : MethodName) (ws : List Cond) (rm : Room) (D : va_G) (tys : List (ClassId × FieldType)) (w : SI → SJ → va_W) (av : List Value) (I : SI) (J : SJ) (r0 : Int32) (I0 : SI) (J0 : SJ) : Prop := ∀ sz : Nat, Met l y ws rm (va_Pc av (PW D tys w I J sz)) (va_Qi (fun (r : Int32) (u : SI × SJ) => r = r0 ∧ u = (I0, J0)) (PQ D tys w (va_A (w I J) sz)) (va_A (w I J) sz)) 0 0 (va_A (w I J) sz)
def CtL (l : Launch) (y : MethodName) (ws : List Cond) (rm : Room) (D : va_G) (tys : List (ClassId × FieldType)) (w : SI → SJ → va_W) (av : List Value) (I : SI) (J : SJ) (r0 : Int64) (I0 : SI) (J0 : SJ) : Prop := ∀ sz : Nat, Met l y ws rm (va_Pc av (PW D tys w I J sz)) (va_Ql (fun (r : Int64) (u : SI × SJ) => r = r0 ∧ u = (I0, J0)) (PQ D tys w (va_A (w I J) sz)) (va_A (w I J) sz)) 0 0 (va_A (w I J) sz)
def CtV (l : Launch) (y : MethodName) (ws : List Cond) (rm : Room) (D : va_G) (tys : List (ClassId × FieldType)) (w : SI → SJ → va_W) (av : List Value) (I : SI) (J : SJ) (I0 : SI) (J0 : SJ) : Prop := ∀ sz : Nat, Met l y ws rm (va_Pc av (PW D tys w I J sz)) (va_Qv (fun (u : SI × SJ) => u = (I0, J0)) (PQ D tys w (va_A (w I J) sz)) (va_A (w I J) sz)) 0 0 (va_A (w I J) sz)
theorem x_free {A : Nat → Prop} {ws : va_W} {H0 H : Heap} {locs : List Loc} (hD : va_D A ws) (hS : va_S A H0 H locs) (hA : ∀ q, H0.size ≤ q → A q) : ∀ q, va_A ws H.size q → A q := by
  intro q h
  rcases h with ⟨k, e, h⟩ | h
  · exact hD.2 k (q, e) h
  · exact hA q (Nat.le_trans hS.1 h)
theorem x_blind {av : List Value} {D : va_G} {tys : List (ClassId × FieldType)} {w : SI → SJ → va_W} {I : SI} {J : SJ} {sz : Nat} : FrameBlind (va_Pc av (PW D tys w I J sz)) := fun a U g mk q => by
  obtain ⟨q0, q1, qP, qK, qD⟩ := q
  exact ⟨q0, q1, qP, va_K.moved (u := U) (U := U.calling g mk a) (Vm.Alike.refl U.vm) qK, qD⟩
section XR
variable {p : Program} {l : Launch} {e : Env} {R : Room} {s : State} {m : MethodId} {args : Array Value} {below : List Frame} {meth : Method} {c : Code} {H : Heap} {locs : List Loc} {cells slots : Nat} {Q : State → Prop}
variable {cc : ByteArray} {pc : Nat} {ls : Array Slot} {rest : List Value} {D : va_G} {A : Nat → Prop} {H0 : Heap} {w : SI → SJ → va_W} {I : SI} {J : SJ} {cI cJ cT : ClassId} {a k n q : Nat}
theorem x_iald (hexec : p.tables.exec = Jvm.exec) (hb : c.code = cc) (hK : va_K D vwCl (tys3 cI cJ cT) s) (hw : AI w cI a k n q) (hP : va_P D vwCl (w I J) H) {i : Int32} (hin : ¬ (i < 0 ∨ n ≤ i.toNatClampNeg)) (hdg : decode cc pc = .ok (.iaload, 1))
    (kk : W p l e R s m args below meth c H locs cells slots Q (F0 m (pc + 1) ls (.int (I k i.toNatClampNeg) :: rest))) : W p l e R s m args below meth c H locs cells slots Q (F0 m pc ls (.int i :: .ref a :: rest)) :=
  va_iald hexec hb hK hP q 0 (hw.1 I J) rfl hin hdg kk
theorem x_lald (hexec : p.tables.exec = Jvm.exec) (hb : c.code = cc) (hK : va_K D vwCl (tys3 cI cJ cT) s) (hw : AJ w cJ a k n q) (hP : va_P D vwCl (w I J) H) {i : Int32} (hin : ¬ (i < 0 ∨ n ≤ i.toNatClampNeg)) (hdg : decode cc pc = .ok (.laload, 1))
    (kk : W p l e R s m args below meth c H locs cells slots Q (F0 m (pc + 1) ls (.long (J k i.toNatClampNeg) :: rest))) : W p l e R s m args below meth c H locs cells slots Q (F0 m pc ls (.int i :: .ref a :: rest)) :=
  va_lald hexec hb hK hP q 1 (hw.1 I J) rfl hin hdg kk
theorem x_iast (hexec : p.tables.exec = Jvm.exec) (hb : c.code = cc) (hK : va_K D vwCl (tys3 cI cJ cT) s) (hw : AI w cI a k n q) (hP : va_P D vwCl (w I J) H) (hD : va_D A (w I J)) (hS : va_S A H0 H locs) {i x : Int32} (hin : ¬ (i < 0 ∨ n ≤ i.toNatClampNeg)) (hdg : decode cc pc = .ok (.iastore, 1))
    (kk : ∀ (H1 : Heap) (locs1 : List Loc), va_P D vwCl (w (ups I k i.toNatClampNeg x) J) H1 → va_D A (w (ups I k i.toNatClampNeg x) J) → va_S A H0 H1 locs1 → W p l e R s m args below meth c H1 locs1 cells slots Q (F0 m (pc + 1) ls rest)) : W p l e R s m args below meth c H locs cells slots Q (F0 m pc ls (.int x :: .int i :: .ref a :: rest)) :=
  va_iast hexec hb hK hP hD hS q 0 (hw.1 I J) rfl hin hdg (fun H1 locs1 h1 h2 h3 => kk H1 locs1 (by rw [hw.2] at h1; exact h1) (by rw [hw.2] at h2; exact h2) h3)
theorem x_last (hexec : p.tables.exec = Jvm.exec) (hb : c.code = cc) (hK : va_K D vwCl (tys3 cI cJ cT) s) (hw : AJ w cJ a k n q) (hP : va_P D vwCl (w I J) H) (hD : va_D A (w I J)) (hS : va_S A H0 H locs) {i : Int32} {x : Int64} (hin : ¬ (i < 0 ∨ n ≤ i.toNatClampNeg)) (hdg : decode cc pc = .ok (.lastore, 1))
    (kk : ∀ (H1 : Heap) (locs1 : List Loc), va_P D vwCl (w I (upj J k i.toNatClampNeg x)) H1 → va_D A (w I (upj J k i.toNatClampNeg x)) → va_S A H0 H1 locs1 → W p l e R s m args below meth c H1 locs1 cells slots Q (F0 m (pc + 1) ls rest)) : W p l e R s m args below meth c H locs cells slots Q (F0 m pc ls (.long x :: .int i :: .ref a :: rest)) :=
  va_last hexec hb hK hP hD hS q 1 (hw.1 I J) rfl hin hdg (fun H1 locs1 h1 h2 h3 => kk H1 locs1 (by rw [hw.2] at h1; exact h1) (by rw [hw.2] at h2; exact h2) h3)
theorem x_alen (hexec : p.tables.exec = Jvm.exec) (hb : c.code = cc) (hK : va_K D vwCl (tys3 cI cJ cT) s) (hw : AI w cI a k n q) (hP : va_P D vwCl (w I J) H) (hdg : decode cc pc = .ok (.arraylength, 1))
    (kk : W p l e R s m args below meth c H locs cells slots Q (F0 m (pc + 1) ls (.int (nI n) :: rest))) : W p l e R s m args below meth c H locs cells slots Q (F0 m pc ls (.ref a :: rest)) :=
  va_alen hexec hb hK hP q 0 (hw.1 I J) (ty := .int) rfl rfl hdg kk
theorem x_alenJ (hexec : p.tables.exec = Jvm.exec) (hb : c.code = cc) (hK : va_K D vwCl (tys3 cI cJ cT) s) (hw : AJ w cJ a k n q) (hP : va_P D vwCl (w I J) H) (hdg : decode cc pc = .ok (.arraylength, 1))
    (kk : W p l e R s m args below meth c H locs cells slots Q (F0 m (pc + 1) ls (.int (nI n) :: rest))) : W p l e R s m args below meth c H locs cells slots Q (F0 m pc ls (.ref a :: rest)) :=
  va_alen hexec hb hK hP q 1 (hw.1 I J) (ty := .long) rfl rfl hdg kk
/-- a stored int field: the state's id -/
theorem x_put {own ref C : String} {T : u_T} {N ci index : Nat} {Ts : List Cond} (hexec : p.tables.exec = Jvm.exec) (hb : c.code = cc) (hts : ∀ w ∈ Ts, w.before args s = true) (hin : ∀ w ∈ u_ws C T N, w ∈ Ts) (ty0 : Nat → FieldType) (hty : ∀ k, k < N → parseFieldDescriptor (T k).2.2.1 = some (ty0 k)) (hnm : ∀ a, a < N → ∀ b, b < N → a ≠ b → (T a).2.1 ≠ (T b).2.1) (hown : s.vm.findClass own = some m.cls) (hK : va_K D vwCl (tys3 cI cJ cT) s) (hP : va_P D vwCl (w I J) H) (hD : va_D A (w I J)) (hS0 : va_S A H0 H locs) (q0 : Nat) {fs : List Value} (he : (w I J)[q0]? = some (a, .inr (ci, fs))) (hc : vwCl[ci]? = some (C, T, N)) (k : Nat) (hk : k < N) (hlink : (Cond.fieldLink own index ref (T k).2.1 (T k).2.2.1).before args s = true) (hsame : ∀ x, s.fieldFound? (T k).1 (T k).2.1 (T k).2.2.1 = some x → s.fieldFound? ref (T k).2.1 (T k).2.2.1 = some x) (hfin : (T k).2.2.2 = false) {v : Int32} (hd : parseFieldDescriptor (T k).2.2.1 = some .int) (hl : k < fs.length) {id : Nat}
    (hset : (w I J).set q0 (a, .inr (ci, fs.set k (.int v))) = w (va_up I id (fun _ => v)) J)
    (hdg : decode cc pc = .ok (.putfield index, 3)) (kk : ∀ (H1 : Heap) (locs1 : List Loc), va_P D vwCl (w (sets I id v) J) H1 → va_D A (w (sets I id v) J) → va_S A H0 H1 locs1 → W p l e R s m args below meth c H1 locs1 cells slots Q (F0 m (pc + 3) ls rest)) : W p l e R s m args below meth c H locs cells slots Q (F0 m pc ls (.int v :: .ref a :: rest)) :=
  va_put hexec hb hts hin ty0 hty hnm hown hK hP hD hS0 q0 he hc k hk hlink hsame hfin hd rfl rfl hl hdg (fun H1 locs1 h1 h2 h3 => kk H1 locs1 (by rw [hset] at h1; exact h1) (by rw [hset] at h2; exact h2) h3)
/-- System.arraycopy of ints -/
theorem x_copyi (hexec : p.tables.exec = Jvm.exec) (hb : c.code = cc) (hml : c.maxLocals = ls.size) {own : String} {index : Nat} (hown : s.vm.findClass own = some m.cls) (hlink : (Cond.methodLink own index arraycopyName).before args s = true) (hnat : (Cond.native arraycopyName).before args s = true) (hstat : (Cond.static arraycopyName).before args s = true) (hini : (Cond.initialized "java/lang/System").before args s = true)
    (hK : va_K D vwCl (tys3 cI cJ cT) s) {a0 k0 n0 q0 : Nat} (hw0 : AI w cI a0 k0 n0 q0) (hw : AI w cI a k n q) (hP : va_P D vwCl (w I J) H) (hD : va_D A (w I J)) (hS : va_S A H0 H locs) {sp dp z : Int32} (hin : ¬ (sp < 0 ∨ dp < 0 ∨ z < 0 ∨ n0 < sp.toNatClampNeg + z.toNatClampNeg ∨ n < dp.toNatClampNeg + z.toNatClampNeg))
    (hframes : 1 ≤ R.frames) (hlocals : (rest.map fun v => v.category).sum + (nativeFrameWords "java/lang/System" "arraycopy" 5 + 11) ≤ R.locals) (hdg : decode cc pc = .ok (.invokestatic index, 3))
    (kk : ∀ (H1 : Heap) (locs1 : List Loc), va_P D vwCl (w (va_up I k (va_cpy (I k0) (I k) sp.toNatClampNeg dp.toNatClampNeg z.toNatClampNeg)) J) H1 → va_D A (w (va_up I k (va_cpy (I k0) (I k) sp.toNatClampNeg dp.toNatClampNeg z.toNatClampNeg)) J) → va_S A H0 H1 locs1 → W p l e R s m args below meth c H1 locs1 cells slots Q (F0 m (pc + 3) ls rest)) : W p l e R s m args below meth c H locs cells slots Q (F0 m pc ls (.int z :: .int dp :: .ref a :: .int sp :: .ref a0 :: rest)) :=
  va_copyi hexec hb hml hown hlink hnat hstat hini hK hP hD hS q0 q 0 0 (hw0.1 I J) (hw.1 I J) rfl rfl rfl (fun h => hin (Or.inl h)) (fun h => hin (Or.inr (Or.inl h))) (fun h => hin (Or.inr (Or.inr (Or.inl h)))) (Nat.not_lt.mp fun h => hin (Or.inr (Or.inr (Or.inr (Or.inl h))))) (Nat.not_lt.mp fun h => hin (Or.inr (Or.inr (Or.inr (Or.inr h))))) (fun _ _ => rfl) hframes hlocals hdg (fun H1 locs1 h1 h2 h3 => kk H1 locs1 (by rw [hw.2] at h1; exact h1) (by rw [hw.2] at h2; exact h2) h3)
theorem x_copyl (hexec : p.tables.exec = Jvm.exec) (hb : c.code = cc) (hml : c.maxLocals = ls.size) {own : String} {index : Nat} (hown : s.vm.findClass own = some m.cls) (hlink : (Cond.methodLink own index arraycopyName).before args s = true) (hnat : (Cond.native arraycopyName).before args s = true) (hstat : (Cond.static arraycopyName).before args s = true) (hini : (Cond.initialized "java/lang/System").before args s = true)
    (hK : va_K D vwCl (tys3 cI cJ cT) s) {a0 k0 n0 q0 : Nat} (hw0 : AJ w cJ a0 k0 n0 q0) (hw : AJ w cJ a k n q) (hP : va_P D vwCl (w I J) H) (hD : va_D A (w I J)) (hS : va_S A H0 H locs) {sp dp z : Int32} (hin : ¬ (sp < 0 ∨ dp < 0 ∨ z < 0 ∨ n0 < sp.toNatClampNeg + z.toNatClampNeg ∨ n < dp.toNatClampNeg + z.toNatClampNeg))
    (hframes : 1 ≤ R.frames) (hlocals : (rest.map fun v => v.category).sum + (nativeFrameWords "java/lang/System" "arraycopy" 5 + 11) ≤ R.locals) (hdg : decode cc pc = .ok (.invokestatic index, 3))
    (kk : ∀ (H1 : Heap) (locs1 : List Loc), va_P D vwCl (w I (va_up J k (va_cpy (J k0) (J k) sp.toNatClampNeg dp.toNatClampNeg z.toNatClampNeg))) H1 → va_D A (w I (va_up J k (va_cpy (J k0) (J k) sp.toNatClampNeg dp.toNatClampNeg z.toNatClampNeg))) → va_S A H0 H1 locs1 → W p l e R s m args below meth c H1 locs1 cells slots Q (F0 m (pc + 3) ls rest)) : W p l e R s m args below meth c H locs cells slots Q (F0 m pc ls (.int z :: .int dp :: .ref a :: .int sp :: .ref a0 :: rest)) :=
  va_copyl hexec hb hml hown hlink hnat hstat hini hK hP hD hS q0 q 1 1 (hw0.1 I J) (hw.1 I J) rfl rfl rfl (fun h => hin (Or.inl h)) (fun h => hin (Or.inr (Or.inl h))) (fun h => hin (Or.inr (Or.inr (Or.inl h)))) (Nat.not_lt.mp fun h => hin (Or.inr (Or.inr (Or.inr (Or.inl h))))) (Nat.not_lt.mp fun h => hin (Or.inr (Or.inr (Or.inr (Or.inr h))))) (fun _ _ => rfl) hframes hlocals hdg (fun H1 locs1 h1 h2 h3 => kk H1 locs1 (by rw [hw.2] at h1; exact h1) (by rw [hw.2] at h2; exact h2) h3)
variable {y : MethodName} {bytes : ByteArray} {maxL nL z index : Nat} {ret : Option FieldType} {ws : List Cond} {rm : Room} {Ts : List Cond} {own C : String} {b : Addr} {As st0 : List Value} {tys : List (ClassId × FieldType)} {I0 : SI} {J0 : SJ}
theorem x_pre {U : State} (hU : U.heap = H) (hW : s.WarmedH U.vm) (hK : va_K D vwCl tys s) (hP : va_P D vwCl (w I J) H) (hD : va_D A (w I J)) : PW D tys w I J H.size U := ⟨by rw [hU], by rw [hU]; exact hP, va_K.moved hW.alike hK, hD.weaken (fun _ _ _ _ => trivial)⟩
theorem xVi {r0 : Int32} (hM : CtI l y ws rm D tys w (.ref b :: As) I J r0 I0 J0) (hfix : CallFix p m c cc nL s args Ts own) (cw : CallW R s args own C index y bytes maxL ret ws rm 0 0 z) (hK : va_K D vwCl tys s) (hP : va_P D vwCl (w I J) H) (hD : va_D A (w I J)) (hS : va_S A s.heap H locs) (hA : ∀ q, s.heap.size ≤ q → A q) (hrc : ∃ cell : Cell, H[b]? = some cell ∧ cell.vm.isStatics = false ∧ s.vm.findClass C = some cell.cls)
    (hn : As.length = z) (hsz : ls.size = nL) (hst : st0 = As.reverse ++ .ref b :: rest) (hW : (rest.map fun v => v.category).sum ≤ 8) (hf : cells + 0 ≤ R.cells ∧ slots + 0 ≤ R.slots) (hdg : decode cc pc = .ok (.invokevirtual index, 3))
    (kk : ∀ (H1 : Heap) (locs1 : List Loc), va_P D vwCl (w I0 J0) H1 → va_D A (w I0 J0) → va_S A s.heap H1 locs1 → W p l e R s m args below meth c H1 locs1 cells slots Q (F0 m (pc + 3) ls (.int r0 :: rest))) : W p l e R s m args below meth c H locs cells slots Q (F0 m pc ls st0) := by
  have hF := x_free hD hS hA
  refine va_calli (va_runV (g := F0 m pc ls st0) hfix (hM H.size) cw ⟨x_blind, hrc, fun U hU hW => ⟨rfl, x_pre hU hW hK hP hD⟩⟩ rfl hn hsz hst (lv_room hW) hdg hf) hS (fun q _ h => hF q h) hF (fun r u t H1 locs1 ht hvm hw hB hz hk hS1 => ?_)
  obtain ⟨rfl, rfl⟩ := hw
  obtain ⟨hP1, -, hD1⟩ := hB
  rw [ht] at hP1
  exact kk H1 locs1 hP1 (hD1.weaken (fun _ q _ h => hF q.1 h)) hS1
theorem xVl {r0 : Int64} (hM : CtL l y ws rm D tys w (.ref b :: As) I J r0 I0 J0) (hfix : CallFix p m c cc nL s args Ts own) (cw : CallW R s args own C index y bytes maxL ret ws rm 0 0 z) (hK : va_K D vwCl tys s) (hP : va_P D vwCl (w I J) H) (hD : va_D A (w I J)) (hS : va_S A s.heap H locs) (hA : ∀ q, s.heap.size ≤ q → A q) (hrc : ∃ cell : Cell, H[b]? = some cell ∧ cell.vm.isStatics = false ∧ s.vm.findClass C = some cell.cls)
    (hn : As.length = z) (hsz : ls.size = nL) (hst : st0 = As.reverse ++ .ref b :: rest) (hW : (rest.map fun v => v.category).sum ≤ 8) (hf : cells + 0 ≤ R.cells ∧ slots + 0 ≤ R.slots) (hdg : decode cc pc = .ok (.invokevirtual index, 3))
    (kk : ∀ (H1 : Heap) (locs1 : List Loc), va_P D vwCl (w I0 J0) H1 → va_D A (w I0 J0) → va_S A s.heap H1 locs1 → W p l e R s m args below meth c H1 locs1 cells slots Q (F0 m (pc + 3) ls (.long r0 :: rest))) : W p l e R s m args below meth c H locs cells slots Q (F0 m pc ls st0) := by
  have hF := x_free hD hS hA
  refine va_calll (va_runV (g := F0 m pc ls st0) hfix (hM H.size) cw ⟨x_blind, hrc, fun U hU hW => ⟨rfl, x_pre hU hW hK hP hD⟩⟩ rfl hn hsz hst (lv_room hW) hdg hf) hS (fun q _ h => hF q h) hF (fun r u t H1 locs1 ht hvm hw hB hz hk hS1 => ?_)
  obtain ⟨rfl, rfl⟩ := hw
  obtain ⟨hP1, -, hD1⟩ := hB
  rw [ht] at hP1
  exact kk H1 locs1 hP1 (hD1.weaken (fun _ q _ h => hF q.1 h)) hS1
theorem xVv (hM : CtV l y ws rm D tys w (.ref b :: As) I J I0 J0) (hfix : CallFix p m c cc nL s args Ts own) (cw : CallW R s args own C index y bytes maxL ret ws rm 0 0 z) (hK : va_K D vwCl tys s) (hP : va_P D vwCl (w I J) H) (hD : va_D A (w I J)) (hS : va_S A s.heap H locs) (hA : ∀ q, s.heap.size ≤ q → A q) (hrc : ∃ cell : Cell, H[b]? = some cell ∧ cell.vm.isStatics = false ∧ s.vm.findClass C = some cell.cls)
    (hn : As.length = z) (hsz : ls.size = nL) (hst : st0 = As.reverse ++ .ref b :: rest) (hW : (rest.map fun v => v.category).sum ≤ 8) (hf : cells + 0 ≤ R.cells ∧ slots + 0 ≤ R.slots) (hdg : decode cc pc = .ok (.invokevirtual index, 3))
    (kk : ∀ (H1 : Heap) (locs1 : List Loc), va_P D vwCl (w I0 J0) H1 → va_D A (w I0 J0) → va_S A s.heap H1 locs1 → W p l e R s m args below meth c H1 locs1 cells slots Q (F0 m (pc + 3) ls rest)) : W p l e R s m args below meth c H locs cells slots Q (F0 m pc ls st0) := by
  have hF := x_free hD hS hA
  refine va_callv (va_runV (g := F0 m pc ls st0) hfix (hM H.size) cw ⟨x_blind, hrc, fun U hU hW => ⟨rfl, x_pre hU hW hK hP hD⟩⟩ rfl hn hsz hst (lv_room hW) hdg hf) hS (fun q _ h => hF q h) hF (fun u t H1 locs1 ht hvm hw hB hz hk hS1 => ?_)
  subst hw
  obtain ⟨hP1, -, hD1⟩ := hB
  rw [ht] at hP1
  exact kk H1 locs1 hP1 (hD1.weaken (fun _ q _ h => hF q.1 h)) hS1
theorem xSi {r0 : Int32} (hM : CtI l y ws rm D tys w As I J r0 I0 J0) (hfix : CallFix p m c cc nL s args Ts own) (cw : CallB R s args own index y bytes maxL ret ws rm 0 0 z ∧ (Cond.static y).before args s = true) (hK : va_K D vwCl tys s) (hP : va_P D vwCl (w I J) H) (hD : va_D A (w I J)) (hS : va_S A s.heap H locs) (hA : ∀ q, s.heap.size ≤ q → A q)
    (hn : As.length = z) (hsz : ls.size = nL) (hst : st0 = As.reverse ++ rest) (hW : (rest.map fun v => v.category).sum ≤ 8) (hf : cells + 0 ≤ R.cells ∧ slots + 0 ≤ R.slots) (hdg : decode cc pc = .ok (.invokestatic index, 3))
    (kk : ∀ (H1 : Heap) (locs1 : List Loc), va_P D vwCl (w I0 J0) H1 → va_D A (w I0 J0) → va_S A s.heap H1 locs1 → W p l e R s m args below meth c H1 locs1 cells slots Q (F0 m (pc + 3) ls (.int r0 :: rest))) : W p l e R s m args below meth c H locs cells slots Q (F0 m pc ls st0) := by
  have hF := x_free hD hS hA
  refine va_calli (va_runS (g := F0 m pc ls st0) hfix (hM H.size) cw ⟨x_blind, fun U hU hW => ⟨rfl, x_pre hU hW hK hP hD⟩⟩ rfl hn hsz hst (lv_room hW) hdg hf) hS (fun q _ h => hF q h) hF (fun r u t H1 locs1 ht hvm hw hB hz hk hS1 => ?_)
  obtain ⟨rfl, rfl⟩ := hw
  obtain ⟨hP1, -, hD1⟩ := hB
  rw [ht] at hP1
  exact kk H1 locs1 hP1 (hD1.weaken (fun _ q _ h => hF q.1 h)) hS1
theorem xSv (hM : CtV l y ws rm D tys w As I J I0 J0) (hfix : CallFix p m c cc nL s args Ts own) (cw : CallB R s args own index y bytes maxL ret ws rm 0 0 z ∧ (Cond.static y).before args s = true) (hK : va_K D vwCl tys s) (hP : va_P D vwCl (w I J) H) (hD : va_D A (w I J)) (hS : va_S A s.heap H locs) (hA : ∀ q, s.heap.size ≤ q → A q)
    (hn : As.length = z) (hsz : ls.size = nL) (hst : st0 = As.reverse ++ rest) (hW : (rest.map fun v => v.category).sum ≤ 8) (hf : cells + 0 ≤ R.cells ∧ slots + 0 ≤ R.slots) (hdg : decode cc pc = .ok (.invokestatic index, 3))
    (kk : ∀ (H1 : Heap) (locs1 : List Loc), va_P D vwCl (w I0 J0) H1 → va_D A (w I0 J0) → va_S A s.heap H1 locs1 → W p l e R s m args below meth c H1 locs1 cells slots Q (F0 m (pc + 3) ls rest)) : W p l e R s m args below meth c H locs cells slots Q (F0 m pc ls st0) := by
  have hF := x_free hD hS hA
  refine va_callv (va_runS (g := F0 m pc ls st0) hfix (hM H.size) cw ⟨x_blind, fun U hU hW => ⟨rfl, x_pre hU hW hK hP hD⟩⟩ rfl hn hsz hst (lv_room hW) hdg hf) hS (fun q _ h => hF q h) hF (fun u t H1 locs1 ht hvm hw hB hz hk hS1 => ?_)
  subst hw
  obtain ⟨hP1, -, hD1⟩ := hB
  rw [ht] at hP1
  exact kk H1 locs1 hP1 (hD1.weaken (fun _ q _ h => hF q.1 h)) hS1
theorem xRi {v : Int32} {free : Addr → Prop} (hexec : p.tables.exec = Jvm.exec) (hb : c.code = cc) (hr : meth.sig.returnType = some .int) (hlocks : meth.locks = false) (hK : va_K D vwCl tys s) (hP : va_P D vwCl (w I J) H) (hD : va_D A (w I J)) (hS : va_S A s.heap H locs) (hfr : ∀ q, A q → free q) (hdg : decode cc pc = .ok (.ireturn, 1)) :
    W p l e R s m args below meth c H locs cells slots (MQ below (va_Qi (fun (r : Int32) (u : SI × SJ) => r = v ∧ u = (I, J)) (PQ D tys w A) A) args s cells slots free) (F0 m pc ls [.int v]) :=
  W.iret hexec hb hr (fun t ht hW => ⟨⟨v, (I, J), rfl, ⟨rfl, rfl⟩, by rw [ht]; exact hP, va_K.moved hW.alike hK, hD⟩, hS.F ht⟩) (fun q hq => hfr _ (hS.2.2 q hq)) hdg
theorem xRz {v : Int32} {free : Addr → Prop} (hexec : p.tables.exec = Jvm.exec) (hb : c.code = cc) (hr : meth.sig.returnType = some .boolean) (hlocks : meth.locks = false) (hv : narrow .boolean (.int v) = .int v) (hK : va_K D vwCl tys s) (hP : va_P D vwCl (w I J) H) (hD : va_D A (w I J)) (hS : va_S A s.heap H locs) (hfr : ∀ q, A q → free q) (hdg : decode cc pc = .ok (.ireturn, 1)) :
    W p l e R s m args below meth c H locs cells slots (MQ below (va_Qi (fun (r : Int32) (u : SI × SJ) => r = v ∧ u = (I, J)) (PQ D tys w A) A) args s cells slots free) (F0 m pc ls [.int v]) :=
  W.zret hexec hb hr hv (fun t ht hW => ⟨⟨v, (I, J), rfl, ⟨rfl, rfl⟩, by rw [ht]; exact hP, va_K.moved hW.alike hK, hD⟩, hS.F ht⟩) (fun q hq => hfr _ (hS.2.2 q hq)) hdg
theorem xRl {v : Int64} {free : Addr → Prop} (hexec : p.tables.exec = Jvm.exec) (hb : c.code = cc) (hr : meth.sig.returnType = some .long) (hlocks : meth.locks = false) (hK : va_K D vwCl tys s) (hP : va_P D vwCl (w I J) H) (hD : va_D A (w I J)) (hS : va_S A s.heap H locs) (hfr : ∀ q, A q → free q) (hdg : decode cc pc = .ok (.lreturn, 1)) :
    W p l e R s m args below meth c H locs cells slots (MQ below (va_Ql (fun (r : Int64) (u : SI × SJ) => r = v ∧ u = (I, J)) (PQ D tys w A) A) args s cells slots free) (F0 m pc ls [.long v]) :=
  W.lret hexec hb hr (fun t ht hW => ⟨⟨v, (I, J), rfl, ⟨rfl, rfl⟩, by rw [ht]; exact hP, va_K.moved hW.alike hK, hD⟩, hS.F ht⟩) (fun q hq => hfr _ (hS.2.2 q hq)) hdg
theorem xRv {free : Addr → Prop} (hexec : p.tables.exec = Jvm.exec) (hb : c.code = cc) (hr : meth.sig.returnType = none) (hlocks : meth.locks = false) (hK : va_K D vwCl tys s) (hP : va_P D vwCl (w I J) H) (hD : va_D A (w I J)) (hS : va_S A s.heap H locs) (hfr : ∀ q, A q → free q) (hdg : decode cc pc = .ok (.return_, 1)) :
    W p l e R s m args below meth c H locs cells slots (MQ below (va_Qv (fun (u : SI × SJ) => u = (I, J)) (PQ D tys w A) A) args s cells slots free) (F0 m pc ls []) :=
  W.vret hexec hb hr (fun t ht hW => ⟨⟨(I, J), rfl, rfl, by rw [ht]; exact hP, va_K.moved hW.alike hK, hD⟩, hS.F ht⟩) (fun q hq => hfr _ (hS.2.2 q hq)) hdg
end XR
theorem x_lt8 {t : Int32} (h : ¬ (t < 0 ∨ 6 ≤ t.toNatClampNeg)) : t.toNatClampNeg < 8 := Nat.lt_of_lt_of_le (Nat.not_le.mp fun q => h (Or.inr q)) (by decide)
/-- fuel of every loop: no loop here goes round more often -/
def FU : Nat := 40000
def primes : Nat → Int32
  | 0 => 2
  | 1 => 3
  | 2 => 5
  | 3 => 7
  | 4 => 11
  | _ => 13
