/-! TABLES: what writes into a table, of class and reference alike -/
theorem exLoop {σ ρ : Type} (L : Nat → Nat → σ → Option ρ) (r : Nat) (Inv : Nat → σ → Prop) (Post : ρ → Prop) (hx : ∀ n s, Inv r s → ∃ o, L (n + 1) r s = some o ∧ Post o) (hs : ∀ n j s, j < r → Inv j s → ∃ s', L (n + 1) j s = L n (j + 1) s' ∧ Inv (j + 1) s') : ∀ d j n s, j + d = r → d < n → Inv j s → ∃ o, L n j s = some o ∧ Post o := by
  intro d
  induction d with
  | zero =>
    intro j n s hj hn h
    obtain ⟨m, rfl⟩ : ∃ m, n = m + 1 := ⟨n - 1, by omega⟩
    have e : j = r := by omega
    subst e
    exact hx m s h
  | succ d ih =>
    intro j n s hj hn h
    obtain ⟨m, rfl⟩ : ∃ m, n = m + 1 := ⟨n - 1, by omega⟩
    obtain ⟨s', e, h'⟩ := hs m j s (by omega) h
    rw [e]
    exact ih (j + 1) m s' (by omega) (by omega) h'
/-- what another table of the reference keeps -/
def FrT (t : Nat) (I I' : SI) : Prop := (∀ k, k ≠ 0 → k ≠ 1 → I' k = I k) ∧ (∀ u, u ≠ t → I' 0 u = I 0 u) ∧ ∀ c, (c < 125 * t ∨ 125 * t + 125 ≤ c) → I' 1 c = I 1 c
theorem FrT.rf {t : Nat} {I : SI} : FrT t I I := ⟨fun _ _ _ => rfl, fun _ _ => rfl, fun _ _ => rfl⟩
theorem FrT.trans {t : Nat} {I I1 I2 : SI} (h : FrT t I I1) (h2 : FrT t I1 I2) : FrT t I I2 := ⟨fun k a b => (h2.1 k a b).trans (h.1 k a b), fun u a => (h2.2.1 u a).trans (h.2.1 u a), fun c a => (h2.2.2 c a).trans (h.2.2 c a)⟩
theorem FrT.cell {t : Nat} {I I1 : SI} (h : FrT t I I1) {c : Nat} (hc : c < 125) (v : Int32) : FrT t I (ups I1 1 (125 * t + c) v) := by
  refine ⟨fun k a b => by rw [ups_id b]; exact h.1 k a b, fun u a => by rw [ups_id (by decide)]; exact h.2.1 u a, fun d hd => ?_⟩
  rw [ups_at, if_neg (by omega)]
  exact h.2.2 d hd
theorem FrT.rank {t : Nat} {I I1 : SI} (h : FrT t I I1) (v : Int32) : FrT t I (ups I1 0 t v) := by
  refine ⟨fun k a b => by rw [ups_id a]; exact h.1 k a b, fun u a => ?_, fun d hd => by rw [ups_id (by decide)]; exact h.2.2 d hd⟩
  rw [ups_at, if_neg a]
  exact h.2.1 u a
theorem TM.frT {t u r : Nat} {N : Nat → Nat} {I I' : SI} (h : TM I u r N) (hf : FrT t I I') (hu : u ≠ t) : TM I' u r N := by
  refine ⟨by rw [hf.2.1 u hu]; exact h.1, fun c hc => ?_⟩
  rw [hf.2.2 (125 * u + c) (by omega)]
  exact h.2 c hc
def BT (x r : Nat) (N : Nat → Nat) (I I' : SI) : Prop := Fr [x, 8 + x] I I' ∧ TB I' x r N
def MT (t r : Nat) (N : Nat → Nat) (I I' : SI) : Prop := FrT t I I' ∧ TM I' t r N
theorem B_step {x r : Nat} {N : Nat → Nat} {I I' : SI} (h : BT x r N I I') {i j k : Nat} (v : Nat) (hc : 25 * i + 5 * j + k < 125) : ∃ I2, f_X7_setNumber x (nI i) (nI j) (nI k) (nI v) I' = some I2 ∧ BT x r (setN N (25 * i + 5 * j + k) v) I I2 :=
  ⟨_, e_setNumber hc, h.1.ups (by simp), h.2.put _ _⟩
theorem M_step {t r : Nat} {N : Nat → Nat} {I I' : SI} (ht : t < 7) (h : MT t r N I I') {i j k : Nat} (v : Nat) (hc : 25 * i + 5 * j + k < 125) : ∃ I2, f_X9_lay (nI t) (nI i) (nI j) (nI k) (nI v) I' = some I2 ∧ MT t r (setN N (25 * i + 5 * j + k) v) I I2 :=
  ⟨_, e_lay ht hc, h.1.cell hc _, h.2.put _ _⟩
def unitN : Nat → Nat → Nat
  | 0 => fun _ => 0
  | i + 1 => setN (setN (unitN i) (25 * 0 + 5 * i + i) 1) (25 * i + 5 * 0 + i) 1
def grpJ (n i : Nat) (N : Nat → Nat) : Nat → Nat → Nat
  | 0 => N
  | j + 1 => setN (grpJ n i N j) (25 * i + 5 * j + (if i + j < n then i + j else i + j - n)) 1
def grpI (n : Nat) (N : Nat → Nat) : Nat → Nat → Nat
  | 0 => N
  | i + 1 => grpJ n i (grpI n N i) n
def nearI (n : Nat) (N : Nat → Nat) : Nat → Nat → Nat
  | 0 => N
  | i + 1 => setN (setN (setN (nearI n N i) (25 * n + 5 * i + n) 1) (25 * i + 5 * n + n) 1) (25 * n + 5 * n + i) 1
theorem setN_comm (N : Nat → Nat) (a b v : Nat) : setN (setN N a v) b v = setN (setN N b v) a v := by
  funext d
  unfold setN
  by_cases h1 : d = a <;> by_cases h2 : d = b <;> simp [h1, h2]
theorem setN_le {N : Nat → Nat} (h : ∀ c, c < 125 → N c ≤ 9) {a v : Nat} (hv : v ≤ 9) : ∀ c, c < 125 → setN N a v c ≤ 9 := fun c hc => by
  unfold setN
  by_cases e : c = a
  · rw [if_pos e]; exact hv
  · rw [if_neg e]; exact h c hc
theorem unitN_le : ∀ r c, c < 125 → unitN r c ≤ 9 := by
  intro r
  induction r with
  | zero => intro c _; exact Nat.zero_le _
  | succ r ih => exact setN_le (setN_le ih (by decide)) (by decide)
theorem grpJ_le {n i : Nat} {N : Nat → Nat} (h : ∀ c, c < 125 → N c ≤ 9) : ∀ j c, c < 125 → grpJ n i N j c ≤ 9 := by
  intro j
  induction j with
  | zero => exact h
  | succ j ih => exact setN_le ih (by decide)
theorem grpI_le {n : Nat} {N : Nat → Nat} (h : ∀ c, c < 125 → N c ≤ 9) : ∀ i c, c < 125 → grpI n N i c ≤ 9 := by
  intro i
  induction i with
  | zero => exact h
  | succ i ih => exact grpJ_le ih n
theorem nearI_le {n : Nat} {N : Nat → Nat} (h : ∀ c, c < 125 → N c ≤ 9) : ∀ i c, c < 125 → nearI n N i c ≤ 9 := by
  intro i
  induction i with
  | zero => exact h
  | succ i ih => exact setN_le (setN_le (setN_le ih (by decide)) (by decide)) (by decide)
theorem B_reset {x r : Nat} (hx : x < 8) (h5 : r ≤ 5) (I : SI) : ∃ I', f_X7_reset x (nI r) I = some I' ∧ BT x r (unitN r) I I' := by
  have f1 : Fr [x, 8 + x] I (sets (fillS I x 0 125) (8 + x) (nI r)) := ((fillS_fr I x 0 125).mono (by simp)).sets (by simp)
  have b1 : BT x r (unitN 0) I (sets (fillS I x 0 125) (8 + x) (nI r)) := by
    refine ⟨f1, sets_at, fun c hc => ?_⟩
    rw [sets_id (by omega), fillS_at, if_pos hc]
    rfl
  have e : ∃ o, lp_X7_reset_15 x (nI r) FU (nI 0) (sets (fillS I x 0 125) (8 + x) (nI r)) = some o ∧ BT x r (unitN r) I o := by
    refine exLoop (fun n j s => lp_X7_reset_15 x (nI r) n (nI j) s) r (fun j s => BT x r (unitN j) I s) _ (fun n s h => ?_) (fun n j s hj h => ?_) r 0 FU _ (Nat.zero_add r) (FUlt h5) b1
    · refine ⟨s, ?_, h⟩
      show lp_X7_reset_15 x (nI r) (n + 1) (nI r) s = _
      rw [lp_X7_reset_15.eq_2, if_pos (nI_le (Nat.le_refl _) (by omega))]
    · obtain ⟨I2, e2, h2⟩ := B_step h (i := 0) (j := j) (k := j) 1 (by omega)
      obtain ⟨I3, e3, h3⟩ := B_step h2 (i := j) (j := 0) (k := j) 1 (by omega)
      refine ⟨I3, ?_, h3⟩
      show lp_X7_reset_15 x (nI r) (n + 1) (nI j) s = _
      rw [lp_X7_reset_15.eq_2, if_neg (le_nI (by omega) (by omega) (by omega)), n0, n1, bd_ok e2, bd_ok e3, nI_add]
  obtain ⟨I', e, h⟩ := e
  refine ⟨I', ?_, h⟩
  unfold f_X7_reset
  rw [bd_ok (e_fill I x 125 0 (by decide)), bd_ok (show lp_X7_reset_15 x (nI r) FU 0 (sets (fillS I x 0 125) (8 + x) (nI r)) = some I' from e)]
theorem M_begin {t r : Nat} (ht : t < 7) (h5 : r ≤ 5) (I : SI) : ∃ I', f_X9_begin (nI t) (nI r) I = some I' ∧ MT t r (unitN r) I I' := by
  have e1 : ∃ o, lp_X9_begin_9 (nI t) (nI r) FU (nI 0) (ups I 0 t (nI r)) = some o ∧ MT t r (unitN 0) I o := by
    refine exLoop (fun n j s => lp_X9_begin_9 (nI t) (nI r) n (nI j) s) 125 (fun j s => FrT t I s ∧ s 0 t = nI r ∧ ∀ c, c < j → s 1 (125 * t + c) = nI 0) _ (fun n s h => ?_) (fun n j s hj h => ?_) 125 0 FU _ (Nat.zero_add 125) (by unfold FU; omega) ⟨FrT.rf.rank _, ups_same, fun c hc => by omega⟩
    · refine ⟨s, ?_, h.1, h.2.1, fun c hc => h.2.2 c hc⟩
      show lp_X9_begin_9 (nI t) (nI r) (n + 1) (nI 125) s = _
      rw [lp_X9_begin_9.eq_2, if_pos (show (125 : Int32) ≤ nI 125 by decide)]
    · refine ⟨ups s 1 (125 * t + j) 0, ?_, h.1.cell hj _, by rw [ups_id (by decide)]; exact h.2.1, fun c hc => ?_⟩
      · show lp_X9_begin_9 (nI t) (nI r) (n + 1) (nI j) s = _
        rw [lp_X9_begin_9.eq_2, n125, if_neg (le_nI (by omega) (by omega) (by omega)), pk_mul, nI_add, gd_in (by omega) (by decide), cl (by omega), n1, nI_add]
      · rw [ups_at]
        by_cases q : c = j
        · rw [if_pos (by omega)]; rfl
        · rw [if_neg (by omega)]; exact h.2.2 c (by omega)
  obtain ⟨I1, e1, h1⟩ := e1
  have e2 : ∃ o, lp_X9_begin_35 (nI t) (nI r) FU (nI 0) I1 = some o ∧ MT t r (unitN r) I o := by
    refine exLoop (fun n j s => lp_X9_begin_35 (nI t) (nI r) n (nI j) s) r (fun j s => MT t r (unitN j) I s) _ (fun n s h => ?_) (fun n j s hj h => ?_) r 0 FU _ (Nat.zero_add r) (FUlt h5) h1
    · refine ⟨s, ?_, h⟩
      show lp_X9_begin_35 (nI t) (nI r) (n + 1) (nI r) s = _
      rw [lp_X9_begin_35.eq_2, if_pos (nI_le (Nat.le_refl _) (by omega))]
    · obtain ⟨I2, e2, h2⟩ := M_step ht h (i := 0) (j := j) (k := j) 1 (by omega)
      obtain ⟨I3, e3, h3⟩ := M_step ht h2 (i := j) (j := 0) (k := j) 1 (by omega)
      refine ⟨I3, ?_, h3⟩
      show lp_X9_begin_35 (nI t) (nI r) (n + 1) (nI j) s = _
      rw [lp_X9_begin_35.eq_2, if_neg (le_nI (by omega) (by omega) (by omega)), n0, n1, bd_ok e2, bd_ok e3, nI_add]
  obtain ⟨I', e2, h2⟩ := e2
  refine ⟨I', ?_, h2⟩
  unfold f_X9_begin
  rw [gd_in ht (by decide), cl (by omega), bd_ok (show lp_X9_begin_9 (nI t) (nI r) FU 0 (ups I 0 t (nI r)) = some I1 from e1), bd_ok (show lp_X9_begin_35 (nI t) (nI r) FU 0 I1 = some I' from e2)]
theorem B_grp_in {x n r : Nat} (hx : x < 8) (hn : n ≤ 5) {N : Nat → Nat} {I I1 : SI} (h1 : BT x r N I I1) {i : Nat} (hi : i < n) : ∃ I', lp_X7_fuseAsGroup_9 x (nI n) (nI i) FU 0 I1 = some I' ∧ BT x r (grpJ n i N n) I I' := by
  refine exLoop (fun m j s => lp_X7_fuseAsGroup_9 x (nI n) (nI i) m (nI j) s) n (fun j s => BT x r (grpJ n i N j) I s) _ (fun m s h => ?_) (fun m j s hj h => ?_) n 0 FU _ (Nat.zero_add n) (FUlt hn) h1
  · refine ⟨s, ?_, h⟩
    show lp_X7_fuseAsGroup_9 x (nI n) (nI i) (m + 1) (nI n) s = _
    rw [lp_X7_fuseAsGroup_9.eq_2, if_pos (nI_le (Nat.le_refl _) (by omega))]
  · by_cases q : i + j < n
    · obtain ⟨I2, e2, h2⟩ := B_step h (i := i) (j := j) (k := i + j) 1 (by omega)
      refine ⟨I2, ?_, by rw [grpJ, if_pos q]; exact h2⟩
      show lp_X7_fuseAsGroup_9 x (nI n) (nI i) (m + 1) (nI j) s = _
      rw [lp_X7_fuseAsGroup_9.eq_2, if_neg (le_nI (by omega) (by omega) (by omega)), nI_add, if_pos (nI_lt q (by omega)), n1, bd_ok e2, nI_add]
    · obtain ⟨I2, e2, h2⟩ := B_step h (i := i) (j := j) (k := i + j - n) 1 (by omega)
      refine ⟨I2, ?_, by rw [grpJ, if_neg q]; exact h2⟩
      show lp_X7_fuseAsGroup_9 x (nI n) (nI i) (m + 1) (nI j) s = _
      rw [lp_X7_fuseAsGroup_9.eq_2, if_neg (le_nI (by omega) (by omega) (by omega)), nI_add, if_neg (nI_nlt (by omega) (by omega)), pk_sub (by omega), n1, bd_ok e2, nI_add]
theorem B_grp {x n r : Nat} (hx : x < 8) (hn : n ≤ 5) {N : Nat → Nat} {I I1 : SI} (h1 : BT x r N I I1) : ∃ I', f_X7_fuseAsGroup x (nI n) I1 = some I' ∧ BT x r (grpI n N n) I I' := by
  have e : ∃ I', lp_X7_fuseAsGroup_2 x (nI n) FU (nI 0) I1 = some I' ∧ BT x r (grpI n N n) I I' := by
    refine exLoop (fun m j s => lp_X7_fuseAsGroup_2 x (nI n) m (nI j) s) n (fun j s => BT x r (grpI n N j) I s) _ (fun m s h => ?_) (fun m i s hi h => ?_) n 0 FU _ (Nat.zero_add n) (FUlt hn) h1
    · refine ⟨s, ?_, h⟩
      show lp_X7_fuseAsGroup_2 x (nI n) (m + 1) (nI n) s = _
      rw [lp_X7_fuseAsGroup_2.eq_2, if_pos (nI_le (Nat.le_refl _) (by omega))]
    · obtain ⟨I2, e2, h2⟩ := B_grp_in hx hn h hi
      refine ⟨I2, ?_, h2⟩
      show lp_X7_fuseAsGroup_2 x (nI n) (m + 1) (nI i) s = _
      rw [lp_X7_fuseAsGroup_2.eq_2, if_neg (le_nI (by omega) (by omega) (by omega)), bd_ok e2, n1, nI_add]
  obtain ⟨I', e, h⟩ := e
  refine ⟨I', ?_, h⟩
  unfold f_X7_fuseAsGroup
  rw [bd_ok (show lp_X7_fuseAsGroup_2 x (nI n) FU 0 I1 = some I' from e)]
theorem M_grp_in {t n r : Nat} (ht : t < 7) (hn : n ≤ 5) {N : Nat → Nat} {I I1 : SI} (h1 : MT t r N I I1) {i : Nat} (hi : i < n) : ∃ I', lp_X9_layGroup_10 (nI t) (nI n) (nI i) FU 0 I1 = some I' ∧ MT t r (grpJ n i N n) I I' := by
  refine exLoop (fun m j s => lp_X9_layGroup_10 (nI t) (nI n) (nI i) m (nI j) s) n (fun j s => MT t r (grpJ n i N j) I s) _ (fun m s h => ?_) (fun m j s hj h => ?_) n 0 FU _ (Nat.zero_add n) (FUlt hn) h1
  · refine ⟨s, ?_, h⟩
    show lp_X9_layGroup_10 (nI t) (nI n) (nI i) (m + 1) (nI n) s = _
    rw [lp_X9_layGroup_10.eq_2, if_pos (nI_le (Nat.le_refl _) (by omega))]
  · by_cases q : i + j < n
    · obtain ⟨I2, e2, h2⟩ := M_step ht h (i := i) (j := j) (k := i + j) 1 (by omega)
      refine ⟨I2, ?_, by rw [grpJ, if_pos q]; exact h2⟩
      show lp_X9_layGroup_10 (nI t) (nI n) (nI i) (m + 1) (nI j) s = _
      rw [lp_X9_layGroup_10.eq_2, if_neg (le_nI (by omega) (by omega) (by omega)), nI_add, if_pos (nI_lt q (by omega)), n1, bd_ok e2, nI_add]
    · obtain ⟨I2, e2, h2⟩ := M_step ht h (i := i) (j := j) (k := i + j - n) 1 (by omega)
      refine ⟨I2, ?_, by rw [grpJ, if_neg q]; exact h2⟩
      show lp_X9_layGroup_10 (nI t) (nI n) (nI i) (m + 1) (nI j) s = _
      rw [lp_X9_layGroup_10.eq_2, if_neg (le_nI (by omega) (by omega) (by omega)), nI_add, if_neg (nI_nlt (by omega) (by omega)), pk_sub (by omega), n1, bd_ok e2, nI_add]
theorem M_grp {t n r : Nat} (ht : t < 7) (hn : n ≤ 5) {N : Nat → Nat} {I I1 : SI} (h1 : MT t r N I I1) : ∃ I', f_X9_layGroup (nI t) (nI n) I1 = some I' ∧ MT t r (grpI n N n) I I' := by
  have e : ∃ I', lp_X9_layGroup_2 (nI t) (nI n) FU (nI 0) I1 = some I' ∧ MT t r (grpI n N n) I I' := by
    refine exLoop (fun m j s => lp_X9_layGroup_2 (nI t) (nI n) m (nI j) s) n (fun j s => MT t r (grpI n N j) I s) _ (fun m s h => ?_) (fun m i s hi h => ?_) n 0 FU _ (Nat.zero_add n) (FUlt hn) h1
    · refine ⟨s, ?_, h⟩
      show lp_X9_layGroup_2 (nI t) (nI n) (m + 1) (nI n) s = _
      rw [lp_X9_layGroup_2.eq_2, if_pos (nI_le (Nat.le_refl _) (by omega))]
    · obtain ⟨I2, e2, h2⟩ := M_grp_in ht hn h hi
      refine ⟨I2, ?_, h2⟩
      show lp_X9_layGroup_2 (nI t) (nI n) (m + 1) (nI i) s = _
      rw [lp_X9_layGroup_2.eq_2, if_neg (le_nI (by omega) (by omega) (by omega)), bd_ok e2, n1, nI_add]
  obtain ⟨I', e, h⟩ := e
  refine ⟨I', ?_, h⟩
  unfold f_X9_layGroup
  rw [bd_ok (show lp_X9_layGroup_2 (nI t) (nI n) FU 0 I1 = some I' from e)]
theorem B_near_lp {x n r : Nat} (hx : x < 6) (hn : n < 5) {N : Nat → Nat} {I I1 : SI} (a : Int32) (h1 : BT x r N I I1) : ∃ I', lp_X8_near_55 (nI x) (nI n) a FU 0 I1 = some I' ∧ BT x r (nearI n N n) I I' := by
  refine exLoop (fun m j s => lp_X8_near_55 (nI x) (nI n) a m (nI j) s) n (fun j s => BT x r (nearI n N j) I s) _ (fun m s h => ?_) (fun m j s hj h => ?_) n 0 FU _ (Nat.zero_add n) (FUlt (by omega)) h1
  · refine ⟨s, ?_, h⟩
    show lp_X8_near_55 (nI x) (nI n) a (m + 1) (nI n) s = _
    rw [lp_X8_near_55.eq_2, if_pos (nI_le (Nat.le_refl _) (by omega))]
  · obtain ⟨I2, e2, h2⟩ := B_step h (i := n) (j := j) (k := n) 1 (by omega)
    obtain ⟨I3, e3, h3⟩ := B_step h2 (i := j) (j := n) (k := n) 1 (by omega)
    obtain ⟨I4, e4, h4⟩ := B_step h3 (i := n) (j := n) (k := j) 1 (by omega)
    refine ⟨I4, ?_, h4⟩
    show lp_X8_near_55 (nI x) (nI n) a (m + 1) (nI j) s = _
    rw [lp_X8_near_55.eq_2, if_neg (le_nI (by omega) (by omega) (by omega)), gd_in hx (by decide), cl (by omega), n1, bd_ok e2, gd_ok (by have := nI_in hx (N := 6) (by decide); rw [cl (by omega)] at this; exact this), bd_ok e3, gd_ok (by have := nI_in hx (N := 6) (by decide); rw [cl (by omega)] at this; exact this), bd_ok e4, nI_add]
theorem M_near_lp {t n r : Nat} (ht : t < 7) (hn : n < 5) {N : Nat → Nat} {I I1 : SI} (a : Int32) (h1 : MT t r N I I1) : ∃ I', lp_X9_near_51 (nI t) (nI n) a FU 0 I1 = some I' ∧ MT t r (nearI n N n) I I' := by
  refine exLoop (fun m j s => lp_X9_near_51 (nI t) (nI n) a m (nI j) s) n (fun j s => MT t r (nearI n N j) I s) _ (fun m s h => ?_) (fun m j s hj h => ?_) n 0 FU _ (Nat.zero_add n) (FUlt (by omega)) h1
  · refine ⟨s, ?_, h⟩
    show lp_X9_near_51 (nI t) (nI n) a (m + 1) (nI n) s = _
    rw [lp_X9_near_51.eq_2, if_pos (nI_le (Nat.le_refl _) (by omega))]
  · obtain ⟨I2, e2, h2⟩ := M_step ht h (i := j) (j := n) (k := n) 1 (by omega)
    obtain ⟨I3, e3, h3⟩ := M_step ht h2 (i := n) (j := j) (k := n) 1 (by omega)
    obtain ⟨I4, e4, h4⟩ := M_step ht h3 (i := n) (j := n) (k := j) 1 (by omega)
    refine ⟨I4, ?_, by rw [nearI, setN_comm (nearI n N j)]; exact h4⟩
    show lp_X9_near_51 (nI t) (nI n) a (m + 1) (nI j) s = _
    rw [lp_X9_near_51.eq_2, if_neg (le_nI (by omega) (by omega) (by omega)), n1, bd_ok e2, bd_ok e3, bd_ok e4, nI_add]
theorem B_become {x y r : Nat} {N : Nat → Nat} {I : SI} (hx : x < 8) (hy : y < 8) (h : TB I y r N) : ∃ I', f_X7_become x y I = some I' ∧ BT x r N I I' := by
  unfold f_X7_become
  rw [gd_ok (by decide)]
  refine ⟨_, rfl, fun k hk => ?_, ?_, fun c hc => ?_⟩
  · have h1 : k ≠ x := fun e => hk (by simp [e])
    have h2 : k ≠ 8 + x := fun e => hk (by simp [e])
    rw [va_up_ne _ _ h1, sets_id h2]
  · rw [va_up_ne _ _ (by omega), sets_at]
    exact h.1
  · rw [va_up_self, show (0 : Int32).toNatClampNeg = 0 from rfl, show (125 : Int32).toNatClampNeg = 125 from rfl, pk_cpy_in (Nat.zero_le _) (by omega), sets_id (by omega)]
    have := h.2 c hc
    simpa using this
theorem M_carry {u t r : Nat} {N : Nat → Nat} {I : SI} (hu : u < 7) (ht : t < 7) (h : TM I u r N) : ∃ I', f_X9_carry (nI u) (nI t) I = some I' ∧ MT t r N I I' := by
  have e : ∃ o, lp_X9_carry_14 (nI u) (nI t) FU (nI 0) (ups I 0 t (I 0 u)) = some o ∧ MT t r N I o := by
    refine exLoop (fun n j s => lp_X9_carry_14 (nI u) (nI t) n (nI j) s) 125 (fun j s => FrT t I s ∧ s 0 t = nI r ∧ (∀ c, c < j → s 1 (125 * t + c) = nI (N c)) ∧ ∀ c, c < 125 → s 1 (125 * u + c) = nI (N c)) _ (fun n s h => ?_) (fun n j s hj h => ?_) 125 0 FU _ (Nat.zero_add 125) (by unfold FU; omega) ⟨FrT.rf.rank _, by rw [ups_same]; exact h.1, fun c hc => by omega, fun c hc => by rw [ups_id (by decide)]; exact h.2 c hc⟩
    · refine ⟨s, ?_, h.1, h.2.1, h.2.2.1⟩
      show lp_X9_carry_14 (nI u) (nI t) (n + 1) (nI 125) s = _
      rw [lp_X9_carry_14.eq_2, if_pos (show (125 : Int32) ≤ nI 125 by decide)]
    · refine ⟨ups s 1 (125 * t + j) (s 1 (125 * u + j)), ?_, h.1.cell hj _, by rw [ups_id (by decide)]; exact h.2.1, fun c hc => ?_, fun c hc => ?_⟩
      · show lp_X9_carry_14 (nI u) (nI t) (n + 1) (nI j) s = _
        rw [lp_X9_carry_14.eq_2, n125, if_neg (le_nI (by omega) (by omega) (by omega)), pk_mul, pk_mul, nI_add, nI_add, gd_in (by omega) (by decide), gd_in (by omega) (by decide), cl (by omega), cl (by omega), n1, nI_add]
      · rw [ups_at]
        by_cases q : c = j
        · rw [if_pos (by omega), q]; exact h.2.2.2 j hj
        · rw [if_neg (by omega)]; exact h.2.2.1 c (by omega)
      · rw [ups_at]
        by_cases q : 125 * u + c = 125 * t + j
        · rw [if_pos q, h.2.2.2 j hj, show c = j by omega]
        · rw [if_neg q]; exact h.2.2.2 c hc
  obtain ⟨I', e, h'⟩ := e
  refine ⟨I', ?_, h'⟩
  unfold f_X9_carry
  rw [gd_in hu (by decide), gd_in ht (by decide), cl (by omega), cl (by omega), bd_ok (show lp_X9_carry_14 (nI u) (nI t) FU 0 (ups I 0 t (I 0 u)) = some I' from e)]
