/-! LIKE by NAMINGS -/
def Lk (r : Nat) (N N' : Nat → Nat) (nm : Nat → Nat) : Prop := ∀ i, i < r → ∀ j, j < r → ∀ k, k < r → nn N i j k = nn N' (nm i) (nm j) (nm k)
theorem Lk_congr {r : Nat} {N N' : Nat → Nat} {nm nm' : Nat → Nat} (h : ∀ i, i < r → nm i = nm' i) : bP (Lk r N N' nm) = bP (Lk r N N' nm') := by
  congr 1
  refine propext ⟨fun q i hi j hj k hk => ?_, fun q i hi j hj k hk => ?_⟩
  · rw [← h i hi, ← h j hj, ← h k hk]; exact q i hi j hj k hk
  · rw [h i hi, h j hj, h k hk]; exact q i hi j hj k hk
def sumL (g : List Nat → Nat) : List (List Nat) → Nat
  | [] => 0
  | a :: l => g a + sumL g l
theorem sumL_app (g : List Nat → Nat) : ∀ l l', sumL g (l ++ l') = sumL g l + sumL g l' := by
  intro l l'
  induction l with
  | nil => rw [List.nil_append, sumL, Nat.zero_add]
  | cons a l ih => rw [List.cons_append, sumL, sumL, ih, Nat.add_assoc]
theorem sumL_map (g : List Nat → Nat) (f : List Nat → List Nat) : ∀ l, sumL g (l.map f) = sumL (fun a => g (f a)) l := by
  intro l
  induction l with
  | nil => rfl
  | cons a l ih => rw [List.map_cons, sumL, sumL, ih]
theorem sumL_congr {g g' : List Nat → Nat} : ∀ l, (∀ a, a ∈ l → g a = g' a) → sumL g l = sumL g' l := by
  intro l
  induction l with
  | nil => intro _; rfl
  | cons a l ih => intro h; rw [sumL, sumL, h a List.mem_cons_self, ih (fun b hb => h b (List.mem_cons_of_mem _ hb))]
theorem sumL_perm (g : List Nat → Nat) {l l' : List (List Nat)} (h : l.Perm l') : sumL g l = sumL g l' := by
  induction h with
  | nil => rfl
  | cons a _ ih => rw [sumL, sumL, ih]
  | swap a b l => rw [sumL, sumL, sumL, sumL]; omega
  | trans _ _ h1 h2 => exact h1.trans h2
theorem sumL_range (h : Nat → List (List Nat)) (g : List Nat → Nat) : ∀ n, sumL g ((List.range n).flatMap h) = sN (fun q => sumL g (h q)) n := by
  intro n
  induction n with
  | zero => rfl
  | succ n ih => rw [List.range_succ, List.flatMap_append, sumL_app, ih, sN]; simp
/-- the class's namings, as rows from a KIND on -/
def PB (r : Nat) : Nat → Nat → Nat → List (List Nat)
  | 0, _, _ => []
  | d + 1, kind, used => if kind < r then (List.range r).flatMap (fun name => if name = 0 ∨ used.testBit name = true then [] else (PB r d (kind + 1) (used ||| 2 ^ name)).map (fun l => name :: l)) else [[]]
def app (nm : Nat → Nat) (kind : Nat) (l : List Nat) : Nat → Nat := fun i => if i < kind then nm i else l.getD (i - kind) 0
theorem app_cons (nm : Nat → Nat) (kind name : Nat) (l : List Nat) : app (setN nm kind name) (kind + 1) l = app nm kind (name :: l) := by
  funext i
  unfold app setN
  by_cases h1 : i < kind
  · rw [if_pos (by omega), if_neg (by omega), if_pos h1]
  · by_cases h2 : i = kind
    · rw [if_pos (by omega), if_pos h2, if_neg h1, h2, Nat.sub_self]; rfl
    · rw [if_neg (by omega), if_neg h1, show i - kind = (i - (kind + 1)) + 1 by omega]; rfl
theorem e_names {α : Type} {I : SI} {k : Nat} {x : Option α} (h : k < 5) : gd (nI k < 0 ∨ 5 ≤ (nI k).toNatClampNeg) x = x := gd_in h (by decide)
theorem B_alike {I : SI} {x y r : Nat} {N N' : Nat → Nat} (h : TB I x r N) (h' : TB I y r N') (ho : OKT r N) (ho' : OKT r N') {nm : Nat → Nat} (hn : ∀ i, i < r → I 26 i = nI (nm i) ∧ nm i < r) : f_X3_alike x y I = some (nI (bP (Lk r N N' nm))) := by
  obtain ⟨h1, h5, h9⟩ := id ho
  have e1 : ∀ i j, i < r → j < r → lp_X3_alike_25 x y (nI i) (nI j) I FU 0 = some (match fsO (fun k => tst (nn N i j k ≠ nn N' (nm i) (nm j) (nm k))) r 0 with
      | none => 1
      | some _ => 0) := by
    intro i j hi hj
    refine fsLoop (fun n k => lp_X3_alike_25 x y (nI i) (nI j) I n (nI k)) r (fun k => tst (nn N i j k ≠ nn N' (nm i) (nm j) (nm k))) (fun o => match o with
      | none => 1
      | some _ => 0) (fun n => ?_) (fun n k hk => ?_) r 0 FU (Nat.zero_add r) (FUlt h5)
    · show lp_X3_alike_25 x y (nI i) (nI j) I (n + 1) (nI r) = _
      rw [lp_X3_alike_25.eq_2, h.1, if_pos (nI_le (Nat.le_refl _) (by omega))]
    · obtain ⟨a1, b1⟩ := hn i hi
      obtain ⟨a2, b2⟩ := hn j hj
      obtain ⟨a3, b3⟩ := hn k hk
      have e := B_num h (i := i) (j := j) (k := k) (by omega) (by omega) (by omega)
      have e' := B_num h' (i := nm i) (j := nm j) (k := nm k) (by omega) (by omega) (by omega)
      have q := ho.nn (i := i) (j := j) (k := k) (by omega) (by omega) (by omega)
      have q' := ho'.nn (i := nm i) (j := nm j) (k := nm k) (by omega) (by omega) (by omega)
      have e2 : lp_X3_alike_25 x y (nI i) (nI j) I (n + 1) (nI k) = if nn N i j k ≠ nn N' (nm i) (nm j) (nm k) then some 0 else lp_X3_alike_25 x y (nI i) (nI j) I n (nI (k + 1)) := by
        rw [lp_X3_alike_25.eq_2, h.1, if_neg (le_nI (by omega) (by omega) (by omega)), bd_ok e, gd_in (show i < 5 by omega) (by decide), gd_in (show j < 5 by omega) (by decide), gd_in (show k < 5 by omega) (by decide), cl (show i < 2 ^ 31 by omega), cl (show j < 2 ^ 31 by omega), cl (show k < 2 ^ 31 by omega), a1, a2, a3, bd_ok e', show nI k + 1 = nI (k + 1) from nI_1 k]
        by_cases z : nn N i j k = nn N' (nm i) (nm j) (nm k)
        · rw [if_pos (by rw [z]), if_neg (fun y => y z)]
        · rw [if_neg (eq_nI (by omega) (by omega) z), if_pos z]
      by_cases z : nn N i j k ≠ nn N' (nm i) (nm j) (nm k)
      · exact Or.inl ⟨(), tst_t z, by show lp_X3_alike_25 x y (nI i) (nI j) I (n + 1) (nI k) = _; rw [e2, if_pos z]⟩
      · exact Or.inr ⟨tst_f z, by show lp_X3_alike_25 x y (nI i) (nI j) I (n + 1) (nI k) = _; rw [e2, if_neg z]⟩
  have e2 : ∀ i, i < r → lp_X3_alike_13 x y (nI i) I FU 0 = some (match fsO (fun j => fsO (fun k => tst (nn N i j k ≠ nn N' (nm i) (nm j) (nm k))) r 0) r 0 with
      | none => 1
      | some _ => 0) := by
    intro i hi
    refine fsLoop (fun n j => lp_X3_alike_13 x y (nI i) I n (nI j)) r (fun j => fsO (fun k => tst (nn N i j k ≠ nn N' (nm i) (nm j) (nm k))) r 0) (fun o => match o with
      | none => 1
      | some _ => 0) (fun n => ?_) (fun n j hj => ?_) r 0 FU (Nat.zero_add r) (FUlt h5)
    · show lp_X3_alike_13 x y (nI i) I (n + 1) (nI r) = _
      rw [lp_X3_alike_13.eq_2, h.1, if_pos (nI_le (Nat.le_refl _) (by omega))]
    · have e := e1 i j hi hj
      cases q : fsO (fun k => tst (nn N i j k ≠ nn N' (nm i) (nm j) (nm k))) r 0 with
      | some a =>
        rw [q] at e
        refine Or.inl ⟨a, rfl, ?_⟩
        show lp_X3_alike_13 x y (nI i) I (n + 1) (nI j) = _
        rw [lp_X3_alike_13.eq_2, h.1, if_neg (le_nI (by omega) (by omega) (by omega)), bd_ok e]
        rfl
      | none =>
        rw [q] at e
        refine Or.inr ⟨rfl, ?_⟩
        show lp_X3_alike_13 x y (nI i) I (n + 1) (nI j) = _
        rw [lp_X3_alike_13.eq_2, h.1, if_neg (le_nI (by omega) (by omega) (by omega)), bd_ok e, show nI j + 1 = nI (j + 1) from nI_1 j]
        rfl
  have e3 : lp_X3_alike_2 x y I FU 0 = some (match fsO (fun i => fsO (fun j => fsO (fun k => tst (nn N i j k ≠ nn N' (nm i) (nm j) (nm k))) r 0) r 0) r 0 with
      | none => 1
      | some _ => 0) := by
    refine fsLoop (fun n i => lp_X3_alike_2 x y I n (nI i)) r (fun i => fsO (fun j => fsO (fun k => tst (nn N i j k ≠ nn N' (nm i) (nm j) (nm k))) r 0) r 0) (fun o => match o with
      | none => 1
      | some _ => 0) (fun n => ?_) (fun n i hi => ?_) r 0 FU (Nat.zero_add r) (FUlt h5)
    · show lp_X3_alike_2 x y I (n + 1) (nI r) = _
      rw [lp_X3_alike_2.eq_2, h.1, if_pos (nI_le (Nat.le_refl _) (by omega))]
    · have e := e2 i hi
      cases q : fsO (fun j => fsO (fun k => tst (nn N i j k ≠ nn N' (nm i) (nm j) (nm k))) r 0) r 0 with
      | some a =>
        rw [q] at e
        refine Or.inl ⟨a, rfl, ?_⟩
        show lp_X3_alike_2 x y I (n + 1) (nI i) = _
        rw [lp_X3_alike_2.eq_2, h.1, if_neg (le_nI (by omega) (by omega) (by omega)), bd_ok e]
        rfl
      | none =>
        rw [q] at e
        refine Or.inr ⟨rfl, ?_⟩
        show lp_X3_alike_2 x y I (n + 1) (nI i) = _
        rw [lp_X3_alike_2.eq_2, h.1, if_neg (le_nI (by omega) (by omega) (by omega)), bd_ok e, show nI i + 1 = nI (i + 1) from nI_1 i]
        rfl
  unfold f_X3_alike
  rw [bd_ok e3]
  cases q : fsO (fun i => fsO (fun j => fsO (fun k => tst (nn N i j k ≠ nn N' (nm i) (nm j) (nm k))) r 0) r 0) r 0 with
  | some a =>
    obtain ⟨i, j, k, u⟩ := a
    obtain ⟨hi, q⟩ := fsO_lt q
    obtain ⟨hj, q⟩ := fsO_lt q
    obtain ⟨hk, q⟩ := fsO_lt q
    have z : ¬ Lk r N N' nm := fun w => by
      have q : tst (nn N i j k ≠ nn N' (nm i) (nm j) (nm k)) = some u := q
      rw [tst_f (fun y => y (w i hi j hj k hk))] at q
      cases q
    rcases bP_c (Lk r N N' nm) with ⟨a, _⟩ | ⟨_, a⟩
    · exact absurd a z
    · rw [a]; rfl
  | none =>
    have z : Lk r N N' nm := fun i hi j hj k hk => by
      have a := fsO_no r 0 q i (Nat.zero_le _) (by omega)
      have b := fsO_no r 0 a j (Nat.zero_le _) (by omega)
      have c := fsO_no r 0 b k (Nat.zero_le _) (by omega)
      exact Decidable.not_not.mp (tst_no c)
    rcases bP_c (Lk r N N' nm) with ⟨_, a⟩ | ⟨a, _⟩
    · rw [a]; rfl
    · exact absurd z a
noncomputable def cF (r : Nat) (f : (Nat → Nat) → Nat) : Nat → Nat → Nat → (Nat → Nat) → Nat
  | 0, _, _, _ => 0
  | d + 1, kind, used, nm => if kind < r then sN (fun name => if name = 0 ∨ used.testBit name = true then 0 else cF r f d (kind + 1) (used ||| 2 ^ name) (setN nm kind name)) r else f nm
theorem cF_list {r : Nat} {f : (Nat → Nat) → Nat} (hf : ∀ nm nm', (∀ i, i < r → nm i = nm' i) → f nm = f nm') : ∀ d kind used nm, cF r f d kind used nm = sumL (fun l => f (app nm kind l)) (PB r d kind used) := by
  intro d
  induction d with
  | zero => intro kind used nm; rfl
  | succ d ih =>
    intro kind used nm
    rw [cF, PB]
    by_cases h : kind < r
    · rw [if_pos h, if_pos h, sumL_range]
      congr 1
      funext name
      by_cases q : name = 0 ∨ used.testBit name = true
      · rw [if_pos q, if_pos q]; rfl
      · rw [if_neg q, if_neg q, sumL_map, ih]
        exact sumL_congr _ (fun a _ => by rw [app_cons])
    · rw [if_neg h, if_neg h, sumL, sumL, Nat.add_zero]
      exact hf _ _ (fun i hi => by unfold app; rw [if_pos (by omega)])
theorem B_cnt {x y r : Nat} {N N' : Nat → Nat} (hx : x < 8) (hy : y < 8) (ho : OKT r N) (ho' : OKT r N') : ∀ d kind used nm (I : SI), TB I x r N → TB I y r N' → 1 ≤ kind → kind ≤ r → r < kind + d → used < 32 → (∀ i, i < kind → I 26 i = nI (nm i) ∧ nm i < r) →
    ∃ I', f_X3_countFrom x y d (nI kind) (nI used) I = some (nI (cF r (fun nm => bP (Lk r N N' nm)) d kind used nm), I') ∧ Fr [26] I I' ∧ ∀ i, i < kind → I' 26 i = I 26 i := by
  obtain ⟨h1, h5, h9⟩ := id ho
  intro d
  induction d with
  | zero => intro kind used nm I _ _ _ h1 h2; omega
  | succ d ih =>
    intro kind used nm I hX hY hk1 hk hd hu hn
    rw [f_X3_countFrom.eq_2, hX.1, cF]
    by_cases hlt : kind < r
    · rw [if_pos (nI_lt hlt (by omega)), if_pos hlt]
      have e : ∃ o, lp_X3_countFrom_29 (f_X3_countFrom x y d) x y (nI kind) (nI used) FU 0 (nI 1) I = some o ∧ o.1 = nI (sN (fun name => if name = 0 ∨ used.testBit name = true then 0 else cF r (fun nm => bP (Lk r N N' nm)) d (kind + 1) (used ||| 2 ^ name) (setN nm kind name)) r) ∧ Fr [26] I o.2 ∧ ∀ i, i < kind → o.2 26 i = I 26 i := by
        refine exLoop (fun m q (s : Int32 × SI) => lp_X3_countFrom_29 (f_X3_countFrom x y d) x y (nI kind) (nI used) m s.1 (nI q) s.2) r (fun q s => (s.1 = nI (sN (fun name => if name = 0 ∨ used.testBit name = true then 0 else cF r (fun nm => bP (Lk r N N' nm)) d (kind + 1) (used ||| 2 ^ name) (setN nm kind name)) q) ∧ Fr [26] I s.2 ∧ ∀ i, i < kind → s.2 26 i = I 26 i) ∧ 1 ≤ q) _ (fun m s q => ?_) (fun m q s hq z => ?_) (r - 1) 1 FU (0, I) (by omega) (by unfold FU; omega) ⟨⟨rfl, Fr.rf, fun _ _ => rfl⟩, Nat.le_refl _⟩
        · refine ⟨s, ?_, q.1⟩
          have hb := hX.fr q.1.2.1 (by simp; omega) (by simp; omega)
          show lp_X3_countFrom_29 (f_X3_countFrom x y d) x y (nI kind) (nI used) (m + 1) s.1 (nI r) s.2 = _
          rw [lp_X3_countFrom_29.eq_2, hb.1, if_pos (nI_le (Nat.le_refl _) (by omega))]
        · obtain ⟨v, Is⟩ := s
          obtain ⟨⟨z1, z2, z3⟩, zq⟩ := z
          have z1 : v = _ := z1
          have hz : ¬ q = 0 := by omega
          have hb := hX.fr z2 (by simp; omega) (by simp; omega)
          have hb' := hY.fr z2 (by simp; omega) (by simp; omega)
          have hb : TB Is x r N := hb
          have hb' : TB Is y r N' := hb'
          by_cases ht : used.testBit q = true
          · refine ⟨(v, Is), ?_, ⟨?_, z2, z3⟩, by omega⟩
            · show lp_X3_countFrom_29 (f_X3_countFrom x y d) x y (nI kind) (nI used) (m + 1) v (nI q) Is = _
              rw [lp_X3_countFrom_29.eq_2, hb.1, if_neg (le_nI (by omega) (by omega) (by omega)), bt_hold used hu q (by omega), if_pos ht, if_neg (by decide), show nI q + 1 = nI (q + 1) from nI_1 q]
            · show v = _
              rw [sN, if_pos (Or.inr ht), z1]; rfl
          · obtain ⟨I2, e2, f2, k2⟩ := ih (kind + 1) (used ||| 2 ^ q) (setN nm kind q) (ups Is 26 kind (nI q)) (hb.fr (S := [26]) (Fr.rf.ups (by simp)) (by simp; omega) (by simp; omega)) (hb'.fr (S := [26]) (Fr.rf.ups (by simp)) (by simp; omega) (by simp; omega)) (by omega) (by omega) (by omega) (Nat.or_lt_two_pow (n := 5) hu (Nat.pow_lt_pow_right (a := 2) (by decide) (by omega))) (fun i hi => by
              unfold setN
              rw [ups_at]
              by_cases w : i = kind
              · rw [if_pos w, if_pos w]; exact ⟨rfl, hq⟩
              · rw [if_neg w, if_neg w]
                obtain ⟨a, b⟩ := hn i (by omega)
                exact ⟨(z3 i (by omega)).trans a, b⟩)
            refine ⟨(v + nI (cF r (fun nm => bP (Lk r N N' nm)) d (kind + 1) (used ||| 2 ^ q) (setN nm kind q)), I2), ?_, ⟨?_, z2.trans ((Fr.rf.ups (by simp)).trans f2), fun i hi => ?_⟩, by omega⟩
            · show lp_X3_countFrom_29 (f_X3_countFrom x y d) x y (nI kind) (nI used) (m + 1) v (nI q) Is = _
              rw [lp_X3_countFrom_29.eq_2, hb.1, if_neg (le_nI (by omega) (by omega) (by omega)), bt_hold used hu q (by omega), if_neg ht, if_pos rfl, gd_in (by omega) (by decide), cl (by omega), show nI kind + 1 = nI (kind + 1) from nI_1 kind, bt_shl q (by omega), bt_or used hu (2 ^ q) (show 2 ^ q < 2 ^ 5 from Nat.pow_lt_pow_right (by decide) (by omega)), bd_ok e2, show nI q + 1 = nI (q + 1) from nI_1 q]
            · show v + _ = _
              rw [sN, if_neg (fun w => w.elim hz ht), z1, nI_add]
            · show I2 26 i = I 26 i
              rw [k2 i (by omega), ups_at, if_neg (by omega)]
              exact z3 i hi
      obtain ⟨⟨v, I'⟩, e, q1, q2, q3⟩ := e
      have q1 : v = _ := q1
      refine ⟨I', ?_, q2, q3⟩
      rw [bd_ok (show lp_X3_countFrom_29 (f_X3_countFrom x y d) x y (nI kind) (nI used) FU 0 1 I = some (v, I') from e), q1]
    · have e : kind = r := by omega
      subst e
      rw [if_neg (nI_nlt (Nat.le_refl _) (by omega)), if_neg (by omega), bd_ok (B_alike hX hY ho ho' hn)]
      refine ⟨I, ?_, Fr.rf, fun _ _ => rfl⟩
      rcases bP_c (Lk kind N N' nm) with ⟨_, a⟩ | ⟨_, a⟩
      · rw [a, if_neg (by decide)]; rfl
      · rw [a, if_pos (show nI 0 = 0 from rfl)]; rfl
