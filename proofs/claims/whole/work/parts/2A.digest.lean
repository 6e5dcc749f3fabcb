/-! DIGEST -/
def itH (G : Nat → Int64 → Int64) : Nat → Nat → Int64 → Int64
  | 0, _, h => h
  | d + 1, j, h => itH G d (j + 1) (G j h)
theorem itLoop {ρ : Type} (L : Nat → Nat → Int64 → Option ρ) (r : Nat) (G : Nat → Int64 → Int64) (fin : Int64 → ρ) (hx : ∀ n h, L (n + 1) r h = some (fin h)) (hs : ∀ n j h, j < r → L (n + 1) j h = L n (j + 1) (G j h)) : ∀ d j n h, j + d = r → d < n → L n j h = some (fin (itH G d j h)) := by
  intro d
  induction d with
  | zero =>
    intro j n h hj hn
    obtain ⟨m, rfl⟩ : ∃ m, n = m + 1 := ⟨n - 1, by omega⟩
    have e : j = r := by omega
    subst e
    exact hx m h
  | succ d ih =>
    intro j n h hj hn
    obtain ⟨m, rfl⟩ : ∃ m, n = m + 1 := ⟨n - 1, by omega⟩
    rw [hs m j h (by omega)]
    exact ih (j + 1) m (G j h) (by omega) (by omega)
theorem itH_app (G : Nat → Int64 → Int64) : ∀ d e j h, itH G (d + e) j h = itH G e (j + d) (itH G d j h) := by
  intro d
  induction d with
  | zero => intro e j h; rw [Nat.zero_add]; rfl
  | succ d ih =>
    intro e j h
    rw [show d + 1 + e = (d + e) + 1 by omega, itH, ih, itH, show j + 1 + d = j + (d + 1) by omega]
theorem itH_shift (G : Nat → Int64 → Int64) (m : Nat) : ∀ d j h, itH G d (m + j) h = itH (fun q => G (m + q)) d j h := by
  intro d
  induction d with
  | zero => intro j h; rfl
  | succ d ih => intro j h; rw [itH, itH, ← ih, show m + j + 1 = m + (j + 1) by omega]
theorem itH_congr {G G' : Nat → Int64 → Int64} : ∀ d j h, (∀ q h, j ≤ q → q < j + d → G q h = G' q h) → itH G d j h = itH G' d j h := by
  intro d
  induction d with
  | zero => intro j h _; rfl
  | succ d ih =>
    intro j h e
    rw [itH, itH, e j h (Nat.le_refl _) (by omega)]
    exact ih (j + 1) _ (fun q h a b => e q h (by omega) (by omega))
theorem itH_flat (F : Nat → Nat → Int64 → Int64) (m : Nat) (hm : 0 < m) : ∀ d i h, itH (fun c => F (c / m) (c % m)) (d * m) (i * m) h = itH (fun i h => itH (F i) m 0 h) d i h := by
  intro d
  induction d with
  | zero => intro i h; rw [Nat.zero_mul]; rfl
  | succ d ih =>
    intro i h
    have e : itH (fun c => F (c / m) (c % m)) m (i * m) h = itH (F i) m 0 h := by
      have e2 := itH_shift (fun c => F (c / m) (c % m)) (i * m) m 0 h
      rw [Nat.add_zero] at e2
      rw [e2]
      refine itH_congr m 0 h (fun q h _ hq => ?_)
      have q1 : (i * m + q) / m = i := by rw [Nat.mul_comm, Nat.mul_add_div hm, Nat.div_eq_of_lt (by omega)]; omega
      have q2 : (i * m + q) % m = q := by rw [Nat.mul_comm, Nat.mul_add_mod, Nat.mod_eq_of_lt (by omega)]
      show F ((i * m + q) / m) ((i * m + q) % m) h = F i q h
      rw [q1, q2]
    rw [Nat.add_mul, Nat.one_mul, Nat.add_comm (d * m) m, itH_app, e, show i * m + m = (i + 1) * m by rw [Nat.add_mul, Nat.one_mul], ih]
    rfl
def dgT (r : Nat) (N : Nat → Nat) (h : Int64) : Int64 := itH (fun i h => itH (fun j h => itH (fun k h => 31 * h + (nI (nn N i j k)).toInt64) r 0 h) r 0 h) r 0 (31 * h + (nI r).toInt64)
theorem B_dig {I : SI} {x r : Nat} {N : Nat → Nat} (h : TB I x r N) (ho : OKT r N) (v : Int64) : f_X7_mixInto x v I = some (dgT r N v) := by
  obtain ⟨h1, h5, h9⟩ := id ho
  have e1 : ∀ i j v, i < r → j < r → lp_X7_mixInto_39 x (nI i) (nI j) I FU v 0 = some (itH (fun k h => 31 * h + (nI (nn N i j k)).toInt64) r 0 v) := by
    intro i j v hi hj
    refine itLoop (fun n k v => lp_X7_mixInto_39 x (nI i) (nI j) I n v (nI k)) r _ (fun v => v) (fun n v => ?_) (fun n k v hk => ?_) r 0 FU v (Nat.zero_add r) (FUlt h5)
    · show lp_X7_mixInto_39 x (nI i) (nI j) I (n + 1) v (nI r) = _
      rw [lp_X7_mixInto_39.eq_2, h.1, if_pos (nI_le (Nat.le_refl _) (by omega))]
    · show lp_X7_mixInto_39 x (nI i) (nI j) I (n + 1) v (nI k) = _
      rw [lp_X7_mixInto_39.eq_2, h.1, if_neg (le_nI (by omega) (by omega) (by omega)), bd_ok (B_num h (i := i) (j := j) (k := k) (by omega) (by omega) (by omega)), show nI k + 1 = nI (k + 1) from nI_1 k]
  have e2 : ∀ i v, i < r → lp_X7_mixInto_27 x (nI i) I FU v 0 = some (itH (fun j h => itH (fun k h => 31 * h + (nI (nn N i j k)).toInt64) r 0 h) r 0 v) := by
    intro i v hi
    refine itLoop (fun n j v => lp_X7_mixInto_27 x (nI i) I n v (nI j)) r _ (fun v => v) (fun n v => ?_) (fun n j v hj => ?_) r 0 FU v (Nat.zero_add r) (FUlt h5)
    · show lp_X7_mixInto_27 x (nI i) I (n + 1) v (nI r) = _
      rw [lp_X7_mixInto_27.eq_2, h.1, if_pos (nI_le (Nat.le_refl _) (by omega))]
    · show lp_X7_mixInto_27 x (nI i) I (n + 1) v (nI j) = _
      rw [lp_X7_mixInto_27.eq_2, h.1, if_neg (le_nI (by omega) (by omega) (by omega)), bd_ok (e1 i j v hi hj), show nI j + 1 = nI (j + 1) from nI_1 j]
  have e3 : ∀ v, lp_X7_mixInto_15 x I FU v 0 = some (itH (fun i h => itH (fun j h => itH (fun k h => 31 * h + (nI (nn N i j k)).toInt64) r 0 h) r 0 h) r 0 v) := by
    intro v
    refine itLoop (fun n i v => lp_X7_mixInto_15 x I n v (nI i)) r _ (fun v => v) (fun n v => ?_) (fun n i v hi => ?_) r 0 FU v (Nat.zero_add r) (FUlt h5)
    · show lp_X7_mixInto_15 x I (n + 1) v (nI r) = _
      rw [lp_X7_mixInto_15.eq_2, h.1, if_pos (nI_le (Nat.le_refl _) (by omega))]
    · show lp_X7_mixInto_15 x I (n + 1) v (nI i) = _
      rw [lp_X7_mixInto_15.eq_2, h.1, if_neg (le_nI (by omega) (by omega) (by omega)), bd_ok (e2 i v hi), show nI i + 1 = nI (i + 1) from nI_1 i]
  unfold f_X7_mixInto
  rw [h.1, bd_ok (e3 _)]
  rfl
theorem M_dig {I : SI} {t r : Nat} {N : Nat → Nat} (h : TM I t r N) (ht : t < 7) (ho : OKT r N) (v : Int64) : lp_X9_digest_33 (nI t) (nI r) I FU (31 * v + (nI r).toInt64) 0 = some (dgT r N v) := by
  obtain ⟨h1, h5, h9⟩ := id ho
  have hr3 : r * r * r ≤ 125 ∧ r * r ≤ 25 := by
    rcases (show r = 1 ∨ r = 2 ∨ r = 3 ∨ r = 4 ∨ r = 5 by omega) with rfl | rfl | rfl | rfl | rfl <;> decide
  obtain ⟨hr3, hr2⟩ := hr3
  have hrr : 0 < r * r := Nat.mul_pos h1 h1
  have key : ∀ v, itH (fun c h => 31 * h + (nI (nn N (c / (r * r)) (c / r % r) (c % r))).toInt64) (r * r * r) 0 v = itH (fun i h => itH (fun j h => itH (fun k h => 31 * h + (nI (nn N i j k)).toInt64) r 0 h) r 0 h) r 0 v := by
    intro v
    have a := itH_flat (fun i c h => 31 * h + (nI (nn N i (c / r) (c % r))).toInt64) (r * r) hrr r 0 v
    have b : ∀ i h, itH (fun c h => 31 * h + (nI (nn N i (c / r) (c % r))).toInt64) (r * r) 0 h = itH (fun j h => itH (fun k h => 31 * h + (nI (nn N i j k)).toInt64) r 0 h) r 0 h := by
      intro i h
      have q := itH_flat (fun j k h => 31 * h + (nI (nn N i j k)).toInt64) r h1 r 0 h
      rw [Nat.zero_mul] at q
      exact q
    have c : (fun i h => itH (fun c h => 31 * h + (nI (nn N i (c / r) (c % r))).toInt64) (r * r) 0 h) = fun i h => itH (fun j h => itH (fun k h => 31 * h + (nI (nn N i j k)).toInt64) r 0 h) r 0 h := funext (fun i => funext (b i))
    rw [Nat.zero_mul] at a
    rw [← c, ← a, show r * (r * r) = r * r * r by rw [Nat.mul_assoc]]
    refine itH_congr _ 0 v (fun c h _ _ => ?_)
    have q : c / r % r = c % (r * r) / r ∧ c % r = c % (r * r) % r := by
      rcases (show r = 1 ∨ r = 2 ∨ r = 3 ∨ r = 4 ∨ r = 5 by omega) with rfl | rfl | rfl | rfl | rfl <;> omega
    obtain ⟨q1, q2⟩ := q
    simp only [q1, ← q2]
  unfold dgT
  rw [← key]
  refine itLoop (fun n c v => lp_X9_digest_33 (nI t) (nI r) I n v (nI c)) (r * r * r) _ (fun v => v) (fun n v => ?_) (fun n c v hc => ?_) (r * r * r) 0 FU _ (Nat.zero_add _) (by unfold FU; omega)
  · show lp_X9_digest_33 (nI t) (nI r) I (n + 1) v (nI (r * r * r)) = _
    rw [lp_X9_digest_33.eq_2, pk_mul, pk_mul, if_pos (nI_le (Nat.le_refl _) (by omega))]
  · have hi : c / (r * r) < r := by
      rcases (show r = 1 ∨ r = 2 ∨ r = 3 ∨ r = 4 ∨ r = 5 by omega) with rfl | rfl | rfl | rfl | rfl <;> omega
    have hj : c / r % r < r := Nat.mod_lt _ h1
    have hk : c % r < r := Nat.mod_lt _ h1
    have q0 : nI c / nI r - nI c / nI r / nI r * nI r = nI (c / r % r) := by rw [pk_div (by omega) h1 (by omega), pk_rem (Nat.lt_of_le_of_lt (Nat.div_le_self _ _) (by omega)) h1 (by omega)]
    have q1 : nI c - nI c / nI r * nI r = nI (c % r) := pk_rem (by omega) h1 (by omega)
    show lp_X9_digest_33 (nI t) (nI r) I (n + 1) v (nI c) = _
    rw [lp_X9_digest_33.eq_2, pk_mul, pk_mul, if_neg (le_nI (by omega) (by omega) (by omega)), gd_nz hrr (by omega), gd_nz h1 (by omega), gd_nz h1 (by omega), gd_nz h1 (by omega), q0, q1, pk_div (by omega) hrr (by omega), bd_ok (M_num h ht (by omega) (by omega) (by omega)), show nI c + 1 = nI (c + 1) from nI_1 c]
theorem op_digest {Lst : SI → Prop} {IB IM : SI} (h : Rel Lst IB IM) : ∃ a, f_X8_digest IB = some a ∧ f_X9_digest IM = some a := by
  obtain ⟨h1, ⟨n, w1, w2, w3, w4⟩, -⟩ := h
  have hT : ∃ (r : Nat → Nat) (N : Nat → Nat → Nat), ∀ t, t < 6 → OKT (r t) (N t) ∧ TB IB t (r t) (N t) ∧ TM IM t (r t) (N t) := by
    refine ⟨fun t => if q : t < 6 then (h1 t q).choose else 0, fun t => if q : t < 6 then (h1 t q).choose_spec.choose else fun _ => 0, fun t ht => ?_⟩
    simp only [dif_pos ht]
    exact (h1 t ht).choose_spec.choose_spec
  obtain ⟨r, N, hT⟩ := hT
  have hw : ∃ w : Nat → Int32, ∀ j, j < n → IB 33 j = w j ∧ IM 6 j = w j := ⟨fun j => IB 33 j, fun j hj => by
    obtain ⟨q, a, b, c⟩ := w4 j hj
    exact ⟨rfl, c.trans b.symm⟩⟩
  obtain ⟨w, hw⟩ := hw
  have b1 : lp_X8_digest_6 IB FU 223 0 = some (itH (fun t h => dgT (r t) (N t) h) 6 0 223) := by
    refine itLoop (fun n t v => lp_X8_digest_6 IB n v (nI t)) 6 _ (fun v => v) (fun n v => ?_) (fun n t v ht => ?_) 6 0 FU 223 rfl (by decide)
    · show lp_X8_digest_6 IB (n + 1) v (nI 6) = _
      rw [lp_X8_digest_6.eq_2, if_pos (by decide)]
    · obtain ⟨a, b, c⟩ := hT t ht
      show lp_X8_digest_6 IB (n + 1) v (nI t) = _
      rw [lp_X8_digest_6.eq_2, if_neg (show ¬ 6 ≤ nI t from le_nI (a := 6) (by decide) (by omega) (by omega)), gd6 ht, cl (by omega), bd_ok (B_dig b a v), show nI t + 1 = nI (t + 1) from nI_1 t]
  have m1 : lp_X9_digest_6 IM FU 223 0 = some (itH (fun t h => dgT (r t) (N t) h) 6 0 223) := by
    refine itLoop (fun n t v => lp_X9_digest_6 IM n v (nI t)) 6 _ (fun v => v) (fun n v => ?_) (fun n t v ht => ?_) 6 0 FU 223 rfl (by decide)
    · show lp_X9_digest_6 IM (n + 1) v (nI 6) = _
      rw [lp_X9_digest_6.eq_2, if_pos (by decide)]
    · obtain ⟨a, b, c⟩ := hT t ht
      show lp_X9_digest_6 IM (n + 1) v (nI t) = _
      rw [lp_X9_digest_6.eq_2, if_neg (show ¬ 6 ≤ nI t from le_nI (a := 6) (by decide) (by omega) (by omega)), gd_in (by omega) (by decide), cl (by omega), c.1, bd_ok (M_dig c (by omega) a v), show nI t + 1 = nI (t + 1) from nI_1 t]
  have b2 : ∀ v, lp_X8_digest_43 IB FU v 0 = some (itH (fun j h => 31 * h + (w j).toInt64) n 0 v) := by
    intro v
    refine itLoop (fun m j v => lp_X8_digest_43 IB m v (nI j)) n _ (fun v => v) (fun m v => ?_) (fun m j v hj => ?_) n 0 FU v (Nat.zero_add n) (by unfold FU; omega)
    · show lp_X8_digest_43 IB (m + 1) v (nI n) = _
      rw [lp_X8_digest_43.eq_2, w2, if_pos (nI_le (Nat.le_refl _) (by omega))]
    · show lp_X8_digest_43 IB (m + 1) v (nI j) = _
      rw [lp_X8_digest_43.eq_2, w2, if_neg (le_nI (by omega) (by omega) (by omega)), gd_in (by omega) (by decide), cl (by omega), (hw j hj).1, show nI j + 1 = nI (j + 1) from nI_1 j]
  have m2 : ∀ v, lp_X9_digest_106 IM FU v 0 = some (itH (fun j h => 31 * h + (w j).toInt64) n 0 v) := by
    intro v
    refine itLoop (fun m j v => lp_X9_digest_106 IM m v (nI j)) n _ (fun v => v) (fun m v => ?_) (fun m j v hj => ?_) n 0 FU v (Nat.zero_add n) (by unfold FU; omega)
    · show lp_X9_digest_106 IM (m + 1) v (nI n) = _
      rw [lp_X9_digest_106.eq_2, w3, if_pos (nI_le (Nat.le_refl _) (by omega))]
    · show lp_X9_digest_106 IM (m + 1) v (nI j) = _
      rw [lp_X9_digest_106.eq_2, w3, if_neg (le_nI (by omega) (by omega) (by omega)), gd_in (by omega) (by decide), cl (by omega), (hw j hj).2, show nI j + 1 = nI (j + 1) from nI_1 j]
  refine ⟨itH (fun j h => 31 * h + (w j).toInt64) n 0 (31 * itH (fun t h => dgT (r t) (N t) h) 6 0 223 + (nI n).toInt64), ?_, ?_⟩
  · unfold f_X8_digest
    rw [bd_ok b1, w2, bd_ok (b2 _)]
  · unfold f_X9_digest
    rw [bd_ok m1, w3, bd_ok (m2 _)]
