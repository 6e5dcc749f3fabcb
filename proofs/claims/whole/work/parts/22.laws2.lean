/-! LAWS, second part: the reference's laws 2 and 4, partners, law 5 -/
theorem upLoop {ρ : Type} (L : Nat → Nat → Option ρ) (r : Nat) (fin : ρ) (hx : ∀ n, L (n + 1) r = some fin) (hs : ∀ n j, j < r → L (n + 1) j = L n (j + 1)) : ∀ d j n, j + d = r → d < n → L n j = some fin := by
  intro d
  induction d with
  | zero =>
    intro j n hj hn
    obtain ⟨m, rfl⟩ : ∃ m, n = m + 1 := ⟨n - 1, by omega⟩
    have e : j = r := by omega
    subst e
    exact hx m
  | succ d ih =>
    intro j n hj hn
    obtain ⟨m, rfl⟩ : ∃ m, n = m + 1 := ⟨n - 1, by omega⟩
    rw [hs m j (by omega)]
    exact ih (j + 1) m (by omega) (by omega)
theorem fsO_map {α β : Type} (g : Nat → Option α) (f : α → β) : ∀ d j, fsO (fun i => (g i).map f) d j = (fsO g d j).map (fun a => (a.1, f a.2)) := by
  intro d
  induction d with
  | zero => intro j; rfl
  | succ d ih =>
    intro j
    cases h : g j with
    | some a => rw [fsO_some h, fsO_some (g := fun i => (g i).map f) (a := f a) (by show (g j).map f = _; rw [h]; rfl)]; rfl
    | none => rw [fsO_none h, fsO_none (g := fun i => (g i).map f) (by show (g j).map f = _; rw [h]; rfl), ih]
/-- three loops as one -/
theorem fsO_flat3 (bad : Nat → Nat → Nat → Prop) (hd : ∀ i j k, Decidable (bad i j k)) (r : Nat) (h1 : 1 ≤ r) (h5 : r ≤ 5) :
    fsO (fun c => tst (bad (c / (r * r)) (c / r % r) (c % r))) (r * r * r) 0 = (fsO (fun i => fsO (fun j => fsO (fun k => tst (bad i j k)) r 0) r 0) r 0).map (fun a => (a.1 * (r * r) + (a.2.1 * r + a.2.2.1), a.2.2.2)) := by
  have hrr : 0 < r * r := Nat.mul_pos h1 h1
  have e1 := fsO_flat (fun i c => tst (bad i (c / r) (c % r))) (r * r) hrr r 0
  have e2 : ∀ i, fsO (fun c => tst (bad i (c / r) (c % r))) (r * r) 0 = (fsO (fun j => fsO (fun k => tst (bad i j k)) r 0) r 0).map (fun a => (a.1 * r + a.2.1, a.2.2)) := by
    intro i
    have q := fsO_flat (fun j k => tst (bad i j k)) r h1 r 0
    rw [Nat.zero_mul] at q
    exact q
  have e3 : (fun i => fsO (fun c => tst (bad i (c / r) (c % r))) (r * r) 0) = fun i => (fsO (fun j => fsO (fun k => tst (bad i j k)) r 0) r 0).map (fun a => (a.1 * r + a.2.1, a.2.2)) := funext e2
  have e4 : fsO (fun i => fsO (fun c => tst (bad i (c / r) (c % r))) (r * r) 0) r 0 = _ := (congrArg (fun g => fsO g r 0) e3).trans (fsO_map _ _ r 0)
  rw [Nat.zero_mul] at e1
  rw [e4] at e1
  rw [Option.map_map] at e1
  have e5 : fsO (fun c => tst (bad (c / (r * r)) (c / r % r) (c % r))) (r * r * r) 0 = fsO (fun c => tst (bad (c / (r * r)) (c % (r * r) / r) (c % (r * r) % r))) (r * (r * r)) 0 := by
    rw [show r * (r * r) = r * r * r by rw [Nat.mul_assoc]]
    refine fsO_congr _ 0 (fun c _ _ => ?_)
    have q1 : c / r % r = c % (r * r) / r := by
      rcases (show r = 1 ∨ r = 2 ∨ r = 3 ∨ r = 4 ∨ r = 5 by omega) with rfl | rfl | rfl | rfl | rfl <;> omega
    have q2 : c % r = c % (r * r) % r := by
      rcases (show r = 1 ∨ r = 2 ∨ r = 3 ∨ r = 4 ∨ r = 5 by omega) with rfl | rfl | rfl | rfl | rfl <;> omega
    simp only [q1, ← q2]
  rw [e5, e1]
  rfl
theorem fsO_lt {α : Type} {g : Nat → Option α} {d : Nat} {a : Nat × α} (h : fsO g d 0 = some a) : a.1 < d ∧ g a.1 = some a.2 := by
  obtain ⟨-, h2, h3⟩ := fsO_at d 0 a h
  exact ⟨by omega, h3⟩
def enF (r : Nat) (o : Option (Nat × Unit)) : Nat × Int32 × Int32 × Int32 := match o with
  | none => (1, 0, 0, 0)
  | some (c, _) => (0, nI (c / (r * r)), nI (c / r % r), nI (c % r))
theorem enF_en3 (bad : Nat → Nat → Nat → Prop) (hd : ∀ i j k, Decidable (bad i j k)) (r : Nat) (h1 : 1 ≤ r) (h5 : r ≤ 5) :
    enF r (fsO (fun c => tst (bad (c / (r * r)) (c / r % r) (c % r))) (r * r * r) 0) = en3 (fsO (fun i => fsO (fun j => fsO (fun k => tst (bad i j k)) r 0) r 0) r 0) := by
  rw [fsO_flat3 bad hd r h1 h5]
  cases h : fsO (fun i => fsO (fun j => fsO (fun k => tst (bad i j k)) r 0) r 0) r 0 with
  | none => rfl
  | some a =>
    obtain ⟨i, j, k, u⟩ := a
    obtain ⟨hi, h⟩ := fsO_lt h
    obtain ⟨hj, h⟩ := fsO_lt h
    obtain ⟨hk, h⟩ := fsO_lt h
    have hi : i < r := hi
    have hj : j < r := hj
    have hk : k < r := hk
    show (0, nI ((i * (r * r) + (j * r + k)) / (r * r)), nI ((i * (r * r) + (j * r + k)) / r % r), nI ((i * (r * r) + (j * r + k)) % r)) = (0, nI i, nI j, nI k)
    have q : (i * (r * r) + (j * r + k)) / (r * r) = i ∧ (i * (r * r) + (j * r + k)) / r % r = j ∧ (i * (r * r) + (j * r + k)) % r = k := by
      rcases (show r = 1 ∨ r = 2 ∨ r = 3 ∨ r = 4 ∨ r = 5 by omega) with rfl | rfl | rfl | rfl | rfl <;> omega
    rw [q.1, q.2.1, q.2.2]
theorem gd_nz {α : Type} {a : Nat} {x : Option α} (h0 : 0 < a) (h : a < 2 ^ 31) : gd (nI a = 0) x = x := gd_ok (nI_ne0 h0 h)
theorem M_flat_out {I : SI} {t r : Nat} {N : Nat → Nat} (h : TM I t r N) (ht : t < 7) (ho : OKT r N) (law : Nat) (bad : Nat → Nat → Nat → Prop) (hd : ∀ i j k, Decidable (bad i j k))
    (hlaw : (law = 2 ∧ bad = bad2 N) ∨ (law = 4 ∧ bad = bad4 N r ∧ ∀ i, i < r → I 3 i = nI (ptn N i r))) :
    lp_X9_breaksThree_10 (nI t) (nI law) (nI r) I FU 0 = some (en3 (fsO (fun i => fsO (fun j => fsO (fun k => tst (bad i j k)) r 0) r 0) r 0)) := by
  obtain ⟨h1, h5, h9⟩ := id ho
  have hr3 : r * r * r ≤ 125 := by
    rcases (show r = 1 ∨ r = 2 ∨ r = 3 ∨ r = 4 ∨ r = 5 by omega) with rfl | rfl | rfl | rfl | rfl <;> decide
  have hr2 : r * r ≤ 25 := by
    rcases (show r = 1 ∨ r = 2 ∨ r = 3 ∨ r = 4 ∨ r = 5 by omega) with rfl | rfl | rfl | rfl | rfl <;> decide
  have hrr : 0 < r * r := Nat.mul_pos h1 h1
  rw [← enF_en3 bad hd r h1 h5]
  refine fsLoop (fun n c => lp_X9_breaksThree_10 (nI t) (nI law) (nI r) I n (nI c)) (r * r * r) (fun c => tst (bad (c / (r * r)) (c / r % r) (c % r))) (enF r) (fun n => ?_) (fun n c hc => ?_) (r * r * r) 0 FU (Nat.zero_add _) (by unfold FU; omega)
  · show lp_X9_breaksThree_10 (nI t) (nI law) (nI r) I (n + 1) (nI (r * r * r)) = _
    rw [lp_X9_breaksThree_10.eq_2, pk_mul, pk_mul, if_pos (nI_le (Nat.le_refl _) (by omega))]
    rfl
  · have hi : c / (r * r) < r := by
      rcases (show r = 1 ∨ r = 2 ∨ r = 3 ∨ r = 4 ∨ r = 5 by omega) with rfl | rfl | rfl | rfl | rfl <;> omega
    have hj : c / r % r < r := Nat.mod_lt _ h1
    have hk : c % r < r := Nat.mod_lt _ h1
    have e : lp_X9_breaksThree_10 (nI t) (nI law) (nI r) I (n + 1) (nI c) = if bad (c / (r * r)) (c / r % r) (c % r) then some (0, nI (c / (r * r)), nI (c / r % r), nI (c % r)) else lp_X9_breaksThree_10 (nI t) (nI law) (nI r) I n (nI (c + 1)) := by
      have q0 : nI c / nI r - nI c / nI r / nI r * nI r = nI (c / r % r) := by rw [pk_div (by omega) h1 (by omega), pk_rem (Nat.lt_of_le_of_lt (Nat.div_le_self _ _) (by omega)) h1 (by omega)]
      have q1 : nI c - nI c / nI r * nI r = nI (c % r) := pk_rem (by omega) h1 (by omega)
      rw [lp_X9_breaksThree_10.eq_2, pk_mul, pk_mul, if_neg (le_nI (by omega) (by omega) (by omega)), gd_nz hrr (by omega), gd_nz h1 (by omega), gd_nz h1 (by omega), gd_nz h1 (by omega), q0, q1, pk_div (by omega) hrr (by omega), n1, nI_add]
      generalize c / (r * r) = i at hi ⊢
      generalize c / r % r = j at hj ⊢
      generalize c % r = k at hk ⊢
      have a1 := M_num h ht (i := i) (j := j) (k := k) (by omega) (by omega) (by omega)
      have b1 := ho.nn (i := i) (j := j) (k := k) (by omega) (by omega) (by omega)
      rcases hlaw with ⟨rfl, rfl⟩ | ⟨rfl, rfl, hp⟩
      · have a2 := M_num h ht (i := j) (j := i) (k := k) (by omega) (by omega) (by omega)
        have b2 := ho.nn (i := j) (j := i) (k := k) (by omega) (by omega) (by omega)
        rw [if_pos (show nI 2 = 2 from rfl), bd_ok a2, bd_ok a1]
        by_cases q : bad2 N i j k
        · rw [if_pos q, if_neg (eq_nI (by omega) (by omega) q)]
        · rw [if_neg q, if_pos (by rw [Decidable.not_not.mp q])]
      · have hpl := ptn_lt N i (show 0 < r by omega)
        have a2 := M_num h ht (i := ptn N i r) (j := k) (k := j) (by omega) (by omega) (by omega)
        have b2 := ho.nn (i := ptn N i r) (j := k) (k := j) (by omega) (by omega) (by omega)
        rw [if_neg (show ¬ nI 4 = 2 by decide), gd_in (by omega) (by decide), cl (by omega), hp i hi, bd_ok a2, bd_ok a1]
        by_cases q : bad4 N r i j k
        · rw [if_pos q, if_neg (eq_nI (by omega) (by omega) q)]
        · rw [if_neg q, if_pos (by rw [Decidable.not_not.mp q])]
    by_cases hb : bad (c / (r * r)) (c / r % r) (c % r)
    · exact Or.inl ⟨(), tst_t hb, by show lp_X9_breaksThree_10 (nI t) (nI law) (nI r) I (n + 1) (nI c) = _; rw [e, if_pos hb]; rfl⟩
    · exact Or.inr ⟨tst_f hb, by show lp_X9_breaksThree_10 (nI t) (nI law) (nI r) I (n + 1) (nI c) = _; rw [e, if_neg hb]⟩
