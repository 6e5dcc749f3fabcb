/-! LAWS: the first that breaks, at the first place; class and reference tell the same -/
/-- the first of d numbers from j on for which g tells something -/
def fsO {α : Type} (g : Nat → Option α) : Nat → Nat → Option (Nat × α)
  | 0, _ => none
  | d + 1, j => match g j with
    | some a => some (j, a)
    | none => fsO g d (j + 1)
theorem fsO_some {α : Type} {g : Nat → Option α} {d j : Nat} {a : α} (h : g j = some a) : fsO g (d + 1) j = some (j, a) := by rw [fsO]; rw [h]
theorem fsO_none {α : Type} {g : Nat → Option α} {d j : Nat} (h : g j = none) : fsO g (d + 1) j = fsO g d (j + 1) := by rw [fsO]; rw [h]
theorem fsLoop {ρ α : Type} (L : Nat → Nat → Option ρ) (r : Nat) (g : Nat → Option α) (enc : Option (Nat × α) → ρ) (hx : ∀ n, L (n + 1) r = some (enc none))
    (hs : ∀ n j, j < r → (∃ a, g j = some a ∧ L (n + 1) j = some (enc (some (j, a)))) ∨ (g j = none ∧ L (n + 1) j = L n (j + 1))) :
    ∀ d j n, j + d = r → d < n → L n j = some (enc (fsO g d j)) := by
  intro d
  induction d with
  | zero =>
    intro j n hj hn
    obtain ⟨m, rfl⟩ : ∃ m, n = m + 1 := ⟨n - 1, by omega⟩
    have e : j = r := by omega
    subst e
    exact hx m
  | succ d ih =>
    intro j n hj hn
    obtain ⟨m, rfl⟩ : ∃ m, n = m + 1 := ⟨n - 1, by omega⟩
    rcases hs m j (by omega) with ⟨a, h1, h2⟩ | ⟨h1, h2⟩
    · rw [h2, fsO_some h1]
    · rw [h2, fsO_none h1]
      exact ih (j + 1) m (by omega) (by omega)
theorem fsO_app {α : Type} (g : Nat → Option α) : ∀ d e j, fsO g (d + e) j = match fsO g d j with
    | some a => some a
    | none => fsO g e (j + d) := by
  intro d
  induction d with
  | zero => intro e j; rw [Nat.zero_add]; rfl
  | succ d ih =>
    intro e j
    rw [show d + 1 + e = (d + e) + 1 by omega]
    cases h : g j with
    | some a => rw [fsO_some h, fsO_some h]
    | none => rw [fsO_none h, fsO_none h, ih, show j + 1 + d = j + (d + 1) by omega]
theorem fsO_shift {α : Type} (g : Nat → Option α) (m : Nat) : ∀ d j, fsO g d (m + j) = (fsO (fun q => g (m + q)) d j).map (fun a => (m + a.1, a.2)) := by
  intro d
  induction d with
  | zero => intro j; rfl
  | succ d ih =>
    intro j
    cases h : g (m + j) with
    | some a => rw [fsO_some h, fsO_some (g := fun q => g (m + q)) h]; rfl
    | none => rw [fsO_none h, fsO_none (g := fun q => g (m + q)) h, ← ih, show m + j + 1 = m + (j + 1) by omega]
theorem fsO_congr {α : Type} {g g' : Nat → Option α} : ∀ d j, (∀ q, j ≤ q → q < j + d → g q = g' q) → fsO g d j = fsO g' d j := by
  intro d
  induction d with
  | zero => intro j _; rfl
  | succ d ih =>
    intro j h
    have e := h j (Nat.le_refl _) (by omega)
    cases h2 : g j with
    | some a => rw [fsO_some h2, fsO_some (e ▸ h2)]
    | none => rw [fsO_none h2, fsO_none (e ▸ h2), ih (j + 1) (fun q a b => h q (by omega) (by omega))]
/-- two loops as one -/
theorem fsO_flat {α : Type} (g : Nat → Nat → Option α) (m : Nat) (hm : 0 < m) : ∀ d i, fsO (fun c => g (c / m) (c % m)) (d * m) (i * m) = (fsO (fun i => fsO (g i) m 0) d i).map (fun a => (a.1 * m + a.2.1, a.2.2)) := by
  intro d
  induction d with
  | zero => intro i; rw [Nat.zero_mul]; rfl
  | succ d ih =>
    intro i
    have e : fsO (fun c => g (c / m) (c % m)) m (i * m) = (fsO (g i) m 0).map (fun a => (i * m + a.1, a.2)) := by
      have e2 := fsO_shift (fun c => g (c / m) (c % m)) (i * m) m 0
      rw [Nat.add_zero] at e2
      rw [e2]
      congr 1
      refine fsO_congr m 0 (fun q _ hq => ?_)
      have q1 : (i * m + q) / m = i := by rw [Nat.mul_comm, Nat.mul_add_div hm, Nat.div_eq_of_lt (by omega)]; omega
      have q2 : (i * m + q) % m = q := by rw [Nat.mul_comm, Nat.mul_add_mod, Nat.mod_eq_of_lt (by omega)]
      show g ((i * m + q) / m) ((i * m + q) % m) = g i q
      rw [q1, q2]
    rw [Nat.add_mul, Nat.one_mul, Nat.add_comm (d * m) m, fsO_app, e]
    cases h : fsO (g i) m 0 with
    | some a => rw [fsO_some (g := fun i => fsO (g i) m 0) h]; rfl
    | none =>
      rw [fsO_none (g := fun i => fsO (g i) m 0) h]
      show fsO _ (d * m) (i * m + m) = _
      rw [show i * m + m = (i + 1) * m by rw [Nat.add_mul, Nat.one_mul], ih]
theorem fsO_no {α : Type} {g : Nat → Option α} : ∀ d j, fsO g d j = none → ∀ q, j ≤ q → q < j + d → g q = none := by
  intro d
  induction d with
  | zero => intro j _ q h1 h2; omega
  | succ d ih =>
    intro j h q h1 h2
    cases hg : g j with
    | some a => rw [fsO_some hg] at h; cases h
    | none =>
      rw [fsO_none hg] at h
      by_cases e : q = j
      · rw [e]; exact hg
      · exact ih (j + 1) h q (by omega) (by omega)
theorem fsO_all {α : Type} {g : Nat → Option α} : ∀ d j, (∀ q, j ≤ q → q < j + d → g q = none) → fsO g d j = none := by
  intro d
  induction d with
  | zero => intro j _; rfl
  | succ d ih =>
    intro j h
    rw [fsO_none (h j (Nat.le_refl _) (by omega))]
    exact ih (j + 1) (fun q a b => h q (by omega) (by omega))
theorem fsO_at {α : Type} {g : Nat → Option α} : ∀ d j (a : Nat × α), fsO g d j = some a → j ≤ a.1 ∧ a.1 < j + d ∧ g a.1 = some a.2 := by
  intro d
  induction d with
  | zero => intro j a h; cases h
  | succ d ih =>
    intro j a h
    cases hg : g j with
    | some b => rw [fsO_some hg] at h; cases h; exact ⟨Nat.le_refl _, by omega, hg⟩
    | none =>
      rw [fsO_none hg] at h
      obtain ⟨h1, h2, h3⟩ := ih (j + 1) a h
      exact ⟨by omega, by omega, h3⟩
/-- a test as a search's answer -/
def tst (c : Prop) [Decidable c] : Option Unit := if c then some () else none
theorem tst_t {c : Prop} [Decidable c] (h : c) : tst c = some () := if_pos h
theorem tst_f {c : Prop} [Decidable c] (h : ¬ c) : tst c = none := if_neg h
theorem tst_no {c : Prop} [Decidable c] (h : tst c = none) : ¬ c := fun q => by rw [tst_t q] at h; cases h
/-- a place of the table -/
abbrev nn (N : Nat → Nat) (i j k : Nat) : Nat := N (25 * i + 5 * j + k)
def dl (i j : Nat) : Nat := if i = j then 1 else 0
abbrev badU (N : Nat → Nat) (i j : Nat) : Prop := ¬ (nn N 0 i j = dl i j ∧ nn N i 0 j = dl i j)
abbrev bad2 (N : Nat → Nat) (i j k : Nat) : Prop := nn N i j k ≠ nn N j i k
def sN (f : Nat → Nat) : Nat → Nat
  | 0 => 0
  | n + 1 => sN f n + f n
def ptn (N : Nat → Nat) (i : Nat) : Nat → Nat
  | 0 => 0
  | n + 1 => if 0 < nn N i n 0 then n else ptn N i n
abbrev bad3 (N : Nat → Nat) (r i : Nat) : Prop := sN (fun j => nn N i j 0) r ≠ 1
abbrev bad4 (N : Nat → Nat) (r i j k : Nat) : Prop := nn N i j k ≠ nn N (ptn N i r) k j
def sm (f : Nat → Int) : Nat → Int
  | 0 => 0
  | n + 1 => sm f n + f n
def df (N : Nat → Nat) (r i j k l : Nat) : Int := sm (fun x => (nn N i j x : Int) * nn N x k l - (nn N j k x : Int) * nn N i x l) r
abbrev bad5 (N : Nat → Nat) (r i j k l : Nat) : Prop := df N r i j k l ≠ 0
def lw1 (r : Nat) (N : Nat → Nat) := fsO (fun i => fsO (fun j => tst (badU N i j)) r 0) r 0
def lw2 (r : Nat) (N : Nat → Nat) := fsO (fun i => fsO (fun j => fsO (fun k => tst (bad2 N i j k)) r 0) r 0) r 0
def lw3 (r : Nat) (N : Nat → Nat) := fsO (fun i => tst (bad3 N r i)) r 0
def lw4 (r : Nat) (N : Nat → Nat) := fsO (fun i => fsO (fun j => fsO (fun k => tst (bad4 N r i j k)) r 0) r 0) r 0
def lw5 (r : Nat) (N : Nat → Nat) := fsO (fun i => fsO (fun j => fsO (fun k => fsO (fun l => tst (bad5 N r i j k l)) r 0) r 0) r 0) r 0
theorem OKT.nn {r : Nat} {N : Nat → Nat} (h : OKT r N) {i j k : Nat} (hi : i < 5) (hj : j < 5) (hk : k < 5) : nn N i j k ≤ 9 := h.2.2 _ (by omega)
theorem B_num {I : SI} {x r : Nat} {N : Nat → Nat} (h : TB I x r N) {i j k : Nat} (hi : i < 5) (hj : j < 5) (hk : k < 5) : f_X7_number x (nI i) (nI j) (nI k) I = some (nI (nn N i j k)) := by
  rw [e_number (by omega), h.2 _ (by omega)]
theorem M_num {I : SI} {t r : Nat} {N : Nat → Nat} (h : TM I t r N) (ht : t < 7) {i j k : Nat} (hi : i < 5) (hj : j < 5) (hk : k < 5) : f_X9_n (nI t) (nI i) (nI j) (nI k) I = some (nI (nn N i j k)) := by
  rw [e_n ht (by omega), h.2 _ (by omega)]
theorem le_nI {a b : Nat} (ha : a < 2 ^ 31) (hb : b < 2 ^ 31) (h : ¬ a ≤ b) : ¬ nI a ≤ nI b := by rw [nI_leI ha hb]; exact h
theorem eq_nI {a b : Nat} (ha : a < 2 ^ 31) (hb : b < 2 ^ 31) (h : a ≠ b) : ¬ nI a = nI b := by rw [nI_eq ha hb]; exact h
def en1 (o : Option (Nat × Unit)) : Nat × Int32 := match o with
  | none => (1, 0)
  | some (a, _) => (0, nI a)
def en2 (o : Option (Nat × Nat × Unit)) : Nat × Int32 × Int32 := match o with
  | none => (1, 0, 0)
  | some (a, b, _) => (0, nI a, nI b)
def en3 (o : Option (Nat × Nat × Nat × Unit)) : Nat × Int32 × Int32 × Int32 := match o with
  | none => (1, 0, 0, 0)
  | some (a, b, c, _) => (0, nI a, nI b, nI c)
def en4 (o : Option (Nat × Nat × Nat × Nat × Unit)) : Nat × Int32 × Int32 × Int32 × Int32 := match o with
  | none => (1, 0, 0, 0, 0)
  | some (a, b, c, d, _) => (0, nI a, nI b, nI c, nI d)
theorem FUlt {r : Nat} (h : r ≤ 5) : r < FU := by unfold FU; omega
theorem B_unit_in {I : SI} {x r : Nat} {N : Nat → Nat} (h : TB I x r N) (ho : OKT r N) (i : Nat) (hi : i < r) : ∀ d j n, j + d = r → d < n → lp_X1_unitHolds_12 x (nI i) I n (nI j) = some (en1 (fsO (fun j => tst (badU N i j)) d j)) := by
  obtain ⟨h1, h5, h9⟩ := id ho
  refine fsLoop (fun n j => lp_X1_unitHolds_12 x (nI i) I n (nI j)) r (fun j => tst (badU N i j)) en1 (fun n => ?_) (fun n j hj => ?_)
  · show lp_X1_unitHolds_12 x (nI i) I (n + 1) (nI r) = _
    rw [lp_X1_unitHolds_12.eq_2, h.1, if_pos (nI_le (Nat.le_refl _) (by omega))]
    rfl
  · have a1 := B_num h (i := 0) (j := i) (k := j) (by omega) (by omega) (by omega)
    have a2 := B_num h (i := i) (j := 0) (k := j) (by omega) (by omega) (by omega)
    have b1 := ho.nn (i := 0) (j := i) (k := j) (by omega) (by omega) (by omega)
    have b2 := ho.nn (i := i) (j := 0) (k := j) (by omega) (by omega) (by omega)
    have e : lp_X1_unitHolds_12 x (nI i) I (n + 1) (nI j) = if badU N i j then some (0, nI j) else lp_X1_unitHolds_12 x (nI i) I n (nI (j + 1)) := by
      rw [lp_X1_unitHolds_12.eq_2, h.1, if_neg (le_nI (by omega) (by omega) (by omega)), n0, n1, nI_add]
      by_cases hij : i = j
      · rw [if_pos (by rw [hij]), bd_ok a1]
        by_cases q1 : nn N 0 i j = 1
        · rw [if_pos (by rw [q1]), bd_ok a2]
          by_cases q2 : nn N i 0 j = 1
          · rw [if_pos (by rw [q2]), if_neg (fun q => q ⟨by rw [q1, dl, if_pos hij], by rw [q2, dl, if_pos hij]⟩)]
          · rw [if_neg (eq_nI (by omega) (by omega) q2), if_pos (fun q => q2 (by rw [q.2, dl, if_pos hij]))]
        · rw [if_neg (eq_nI (by omega) (by omega) q1), if_pos (fun q => q1 (by rw [q.1, dl, if_pos hij]))]
      · rw [if_neg (eq_nI (by omega) (by omega) hij), bd_ok a1]
        by_cases q1 : nn N 0 i j = 0
        · rw [if_pos (by rw [q1]), bd_ok a2]
          by_cases q2 : nn N i 0 j = 0
          · rw [if_pos (by rw [q2]), if_neg (fun q => q ⟨by rw [q1, dl, if_neg hij], by rw [q2, dl, if_neg hij]⟩)]
          · rw [if_neg (eq_nI (by omega) (by omega) q2), if_pos (fun q => q2 (by rw [q.2, dl, if_neg hij]))]
        · rw [if_neg (eq_nI (by omega) (by omega) q1), if_pos (fun q => q1 (by rw [q.1, dl, if_neg hij]))]
    by_cases hb : badU N i j
    · exact Or.inl ⟨(), tst_t hb, by show lp_X1_unitHolds_12 x (nI i) I (n + 1) (nI j) = _; rw [e, if_pos hb]; rfl⟩
    · exact Or.inr ⟨tst_f hb, by show lp_X1_unitHolds_12 x (nI i) I (n + 1) (nI j) = _; rw [e, if_neg hb]⟩
theorem B_unit_out {I : SI} {x r : Nat} {N : Nat → Nat} (h : TB I x r N) (ho : OKT r N) : lp_X1_unitHolds_2 x I FU 0 = some (en2 (lw1 r N)) := by
  obtain ⟨h1, h5, h9⟩ := id ho
  refine fsLoop (fun n j => lp_X1_unitHolds_2 x I n (nI j)) r (fun i => fsO (fun j => tst (badU N i j)) r 0) en2 (fun n => ?_) (fun n i hi => ?_) r 0 FU (Nat.zero_add r) (FUlt h5)
  · show lp_X1_unitHolds_2 x I (n + 1) (nI r) = _
    rw [lp_X1_unitHolds_2.eq_2, h.1, if_pos (nI_le (Nat.le_refl _) (by omega))]
    rfl
  · have e := B_unit_in h ho i hi r 0 FU (Nat.zero_add r) (FUlt h5)
    have e2 : lp_X1_unitHolds_2 x I (n + 1) (nI i) = if (en1 (fsO (fun j => tst (badU N i j)) r 0)).1 = 0 then some (0, nI i, (en1 (fsO (fun j => tst (badU N i j)) r 0)).2) else lp_X1_unitHolds_2 x I n (nI (i + 1)) := by
      rw [lp_X1_unitHolds_2.eq_2, h.1, if_neg (le_nI (by omega) (by omega) (by omega)), n1, nI_add, n0, bd_ok e]
    cases hq : fsO (fun j => tst (badU N i j)) r 0 with
    | some a => exact Or.inl ⟨a, rfl, by show lp_X1_unitHolds_2 x I (n + 1) (nI i) = _; rw [e2, hq]; rfl⟩
    | none => exact Or.inr ⟨rfl, by show lp_X1_unitHolds_2 x I (n + 1) (nI i) = _; rw [e2, hq]; rfl⟩
theorem M_unit_in {I : SI} {t r : Nat} {N : Nat → Nat} (h : TM I t r N) (ht : t < 7) (ho : OKT r N) (i : Nat) (hi : i < r) : ∀ d j n, j + d = r → d < n → lp_X9_breaksUnit_14 (nI t) (nI i) I n (nI j) = some (en1 (fsO (fun j => tst (badU N i j)) d j)) := by
  obtain ⟨h1, h5, h9⟩ := id ho
  refine fsLoop (fun n j => lp_X9_breaksUnit_14 (nI t) (nI i) I n (nI j)) r (fun j => tst (badU N i j)) en1 (fun n => ?_) (fun n j hj => ?_)
  · show lp_X9_breaksUnit_14 (nI t) (nI i) I (n + 1) (nI r) = _
    rw [lp_X9_breaksUnit_14.eq_2, gd_in (by omega) (by decide), cl (by omega), h.1, if_pos (nI_le (Nat.le_refl _) (by omega))]
    rfl
  · have a1 := M_num h ht (i := 0) (j := i) (k := j) (by omega) (by omega) (by omega)
    have a2 := M_num h ht (i := i) (j := 0) (k := j) (by omega) (by omega) (by omega)
    have b1 := ho.nn (i := 0) (j := i) (k := j) (by omega) (by omega) (by omega)
    have b2 := ho.nn (i := i) (j := 0) (k := j) (by omega) (by omega) (by omega)
    have e : lp_X9_breaksUnit_14 (nI t) (nI i) I (n + 1) (nI j) = if badU N i j then some (0, nI j) else lp_X9_breaksUnit_14 (nI t) (nI i) I n (nI (j + 1)) := by
      rw [lp_X9_breaksUnit_14.eq_2, gd_in (by omega) (by decide), cl (by omega), h.1, if_neg (le_nI (by omega) (by omega) (by omega)), n0, n1, nI_add]
      by_cases hij : i = j
      · rw [if_pos (by rw [hij]), bd_ok a1]
        by_cases q1 : nn N 0 i j = 1
        · rw [if_pos (by rw [q1]), bd_ok a2]
          by_cases q2 : nn N i 0 j = 1
          · rw [if_pos (by rw [q2]), if_neg (fun q => q ⟨by rw [q1, dl, if_pos hij], by rw [q2, dl, if_pos hij]⟩)]
          · rw [if_neg (eq_nI (by omega) (by omega) q2), if_pos (fun q => q2 (by rw [q.2, dl, if_pos hij]))]
        · rw [if_neg (eq_nI (by omega) (by omega) q1), if_pos (fun q => q1 (by rw [q.1, dl, if_pos hij]))]
      · rw [if_neg (eq_nI (by omega) (by omega) hij), bd_ok a1]
        by_cases q1 : nn N 0 i j = 0
        · rw [if_pos (by rw [q1]), bd_ok a2]
          by_cases q2 : nn N i 0 j = 0
          · rw [if_pos (by rw [q2]), if_neg (fun q => q ⟨by rw [q1, dl, if_neg hij], by rw [q2, dl, if_neg hij]⟩)]
          · rw [if_neg (eq_nI (by omega) (by omega) q2), if_pos (fun q => q2 (by rw [q.2, dl, if_neg hij]))]
        · rw [if_neg (eq_nI (by omega) (by omega) q1), if_pos (fun q => q1 (by rw [q.1, dl, if_neg hij]))]
    by_cases hb : badU N i j
    · exact Or.inl ⟨(), tst_t hb, by show lp_X9_breaksUnit_14 (nI t) (nI i) I (n + 1) (nI j) = _; rw [e, if_pos hb]; rfl⟩
    · exact Or.inr ⟨tst_f hb, by show lp_X9_breaksUnit_14 (nI t) (nI i) I (n + 1) (nI j) = _; rw [e, if_neg hb]⟩
theorem M_unit_out {I : SI} {t r : Nat} {N : Nat → Nat} (h : TM I t r N) (ht : t < 7) (ho : OKT r N) : lp_X9_breaksUnit_2 (nI t) I FU 0 = some (en2 (lw1 r N)) := by
  obtain ⟨h1, h5, h9⟩ := id ho
  refine fsLoop (fun n j => lp_X9_breaksUnit_2 (nI t) I n (nI j)) r (fun i => fsO (fun j => tst (badU N i j)) r 0) en2 (fun n => ?_) (fun n i hi => ?_) r 0 FU (Nat.zero_add r) (FUlt h5)
  · show lp_X9_breaksUnit_2 (nI t) I (n + 1) (nI r) = _
    rw [lp_X9_breaksUnit_2.eq_2, gd_in (by omega) (by decide), cl (by omega), h.1, if_pos (nI_le (Nat.le_refl _) (by omega))]
    rfl
  · have e := M_unit_in h ht ho i hi r 0 FU (Nat.zero_add r) (FUlt h5)
    have e2 : lp_X9_breaksUnit_2 (nI t) I (n + 1) (nI i) = if (en1 (fsO (fun j => tst (badU N i j)) r 0)).1 = 0 then some (0, nI i, (en1 (fsO (fun j => tst (badU N i j)) r 0)).2) else lp_X9_breaksUnit_2 (nI t) I n (nI (i + 1)) := by
      rw [lp_X9_breaksUnit_2.eq_2, gd_in (by omega) (by decide), cl (by omega), h.1, if_neg (le_nI (by omega) (by omega) (by omega)), n1, nI_add, n0, bd_ok e]
    cases hq : fsO (fun j => tst (badU N i j)) r 0 with
    | some a => exact Or.inl ⟨a, rfl, by show lp_X9_breaksUnit_2 (nI t) I (n + 1) (nI i) = _; rw [e2, hq]; rfl⟩
    | none => exact Or.inr ⟨rfl, by show lp_X9_breaksUnit_2 (nI t) I (n + 1) (nI i) = _; rw [e2, hq]; rfl⟩
theorem B_two_in {I : SI} {x r : Nat} {N : Nat → Nat} (h : TB I x r N) (ho : OKT r N) (i j : Nat) (hi : i < r) (hj : j < r) : lp_X1_eitherWayHolds_23 x (nI i) (nI j) I FU 0 = some (en1 (fsO (fun k => tst (bad2 N i j k)) r 0)) := by
  obtain ⟨h1, h5, h9⟩ := id ho
  refine fsLoop (fun n k => lp_X1_eitherWayHolds_23 x (nI i) (nI j) I n (nI k)) r (fun k => tst (bad2 N i j k)) en1 (fun n => ?_) (fun n k hk => ?_) r 0 FU (Nat.zero_add r) (FUlt h5)
  · show lp_X1_eitherWayHolds_23 x (nI i) (nI j) I (n + 1) (nI r) = _
    rw [lp_X1_eitherWayHolds_23.eq_2, h.1, if_pos (nI_le (Nat.le_refl _) (by omega))]
    rfl
  · have a1 := B_num h (i := i) (j := j) (k := k) (by omega) (by omega) (by omega)
    have a2 := B_num h (i := j) (j := i) (k := k) (by omega) (by omega) (by omega)
    have b1 := ho.nn (i := i) (j := j) (k := k) (by omega) (by omega) (by omega)
    have b2 := ho.nn (i := j) (j := i) (k := k) (by omega) (by omega) (by omega)
    have e : lp_X1_eitherWayHolds_23 x (nI i) (nI j) I (n + 1) (nI k) = if bad2 N i j k then some (0, nI k) else lp_X1_eitherWayHolds_23 x (nI i) (nI j) I n (nI (k + 1)) := by
      rw [lp_X1_eitherWayHolds_23.eq_2, h.1, if_neg (le_nI (by omega) (by omega) (by omega)), n1, nI_add, bd_ok a1, bd_ok a2]
      by_cases q : bad2 N i j k
      · rw [if_pos q, if_neg (eq_nI (by omega) (by omega) q)]
      · rw [if_neg q, if_pos (by rw [Decidable.not_not.mp q])]
    by_cases hb : bad2 N i j k
    · exact Or.inl ⟨(), tst_t hb, by show lp_X1_eitherWayHolds_23 x (nI i) (nI j) I (n + 1) (nI k) = _; rw [e, if_pos hb]; rfl⟩
    · exact Or.inr ⟨tst_f hb, by show lp_X1_eitherWayHolds_23 x (nI i) (nI j) I (n + 1) (nI k) = _; rw [e, if_neg hb]⟩
theorem B_two_mid {I : SI} {x r : Nat} {N : Nat → Nat} (h : TB I x r N) (ho : OKT r N) (i : Nat) (hi : i < r) : lp_X1_eitherWayHolds_12 x (nI i) I FU 0 = some (en2 (fsO (fun j => fsO (fun k => tst (bad2 N i j k)) r 0) r 0)) := by
  obtain ⟨h1, h5, h9⟩ := id ho
  refine fsLoop (fun n j => lp_X1_eitherWayHolds_12 x (nI i) I n (nI j)) r (fun j => fsO (fun k => tst (bad2 N i j k)) r 0) en2 (fun n => ?_) (fun n j hj => ?_) r 0 FU (Nat.zero_add r) (FUlt h5)
  · show lp_X1_eitherWayHolds_12 x (nI i) I (n + 1) (nI r) = _
    rw [lp_X1_eitherWayHolds_12.eq_2, h.1, if_pos (nI_le (Nat.le_refl _) (by omega))]
    rfl
  · have e := B_two_in h ho i j hi hj
    have e2 : lp_X1_eitherWayHolds_12 x (nI i) I (n + 1) (nI j) = if (en1 (fsO (fun k => tst (bad2 N i j k)) r 0)).1 = 0 then some (0, nI j, (en1 (fsO (fun k => tst (bad2 N i j k)) r 0)).2) else lp_X1_eitherWayHolds_12 x (nI i) I n (nI (j + 1)) := by
      rw [lp_X1_eitherWayHolds_12.eq_2, h.1, if_neg (le_nI (by omega) (by omega) (by omega)), bd_ok e, n1, nI_add]
    cases hq : fsO (fun k => tst (bad2 N i j k)) r 0 with
    | some a => exact Or.inl ⟨a, rfl, by show lp_X1_eitherWayHolds_12 x (nI i) I (n + 1) (nI j) = _; rw [e2, hq]; rfl⟩
    | none => exact Or.inr ⟨rfl, by show lp_X1_eitherWayHolds_12 x (nI i) I (n + 1) (nI j) = _; rw [e2, hq]; rfl⟩
theorem B_two_out {I : SI} {x r : Nat} {N : Nat → Nat} (h : TB I x r N) (ho : OKT r N) : lp_X1_eitherWayHolds_2 x I FU 0 = some (en3 (fsO (fun i => fsO (fun j => fsO (fun k => tst (bad2 N i j k)) r 0) r 0) r 0)) := by
  obtain ⟨h1, h5, h9⟩ := id ho
  refine fsLoop (fun n i => lp_X1_eitherWayHolds_2 x I n (nI i)) r (fun i => fsO (fun j => fsO (fun k => tst (bad2 N i j k)) r 0) r 0) en3 (fun n => ?_) (fun n i hi => ?_) r 0 FU (Nat.zero_add r) (FUlt h5)
  · show lp_X1_eitherWayHolds_2 x I (n + 1) (nI r) = _
    rw [lp_X1_eitherWayHolds_2.eq_2, h.1, if_pos (nI_le (Nat.le_refl _) (by omega))]
    rfl
  · have e := B_two_mid h ho i hi
    have e2 : lp_X1_eitherWayHolds_2 x I (n + 1) (nI i) = if (en2 (fsO (fun j => fsO (fun k => tst (bad2 N i j k)) r 0) r 0)).1 = 0 then some (0, nI i, (en2 (fsO (fun j => fsO (fun k => tst (bad2 N i j k)) r 0) r 0)).2.1, (en2 (fsO (fun j => fsO (fun k => tst (bad2 N i j k)) r 0) r 0)).2.2) else lp_X1_eitherWayHolds_2 x I n (nI (i + 1)) := by
      rw [lp_X1_eitherWayHolds_2.eq_2, h.1, if_neg (le_nI (by omega) (by omega) (by omega)), bd_ok e, n1, nI_add]
    cases hq : fsO (fun j => fsO (fun k => tst (bad2 N i j k)) r 0) r 0 with
    | some a => exact Or.inl ⟨a, rfl, by show lp_X1_eitherWayHolds_2 x I (n + 1) (nI i) = _; rw [e2, hq]; rfl⟩
    | none => exact Or.inr ⟨rfl, by show lp_X1_eitherWayHolds_2 x I (n + 1) (nI i) = _; rw [e2, hq]; rfl⟩
theorem ptn_lt (N : Nat → Nat) (i : Nat) : ∀ {r : Nat}, 0 < r → ptn N i r < r := by
  intro r
  induction r with
  | zero => intro h; omega
  | succ r ih =>
    intro _
    rw [ptn]
    by_cases h : 0 < nn N i r 0
    · rw [if_pos h]; omega
    · rw [if_neg h]
      by_cases hr : 0 < r
      · have := ih hr; omega
      · have e : r = 0 := by omega
        subst e
        exact Nat.zero_lt_one
theorem B_four_in {I : SI} {x r : Nat} {N : Nat → Nat} (h : TB I x r N) (ho : OKT r N) (hp : ∀ i, i < r → I 17 i = nI (ptn N i r)) (i j : Nat) (hi : i < r) (hj : j < r) : lp_X1_turnedHolds_23 x (nI i) (nI j) I FU 0 = some (en1 (fsO (fun k => tst (bad4 N r i j k)) r 0)) := by
  obtain ⟨h1, h5, h9⟩ := id ho
  refine fsLoop (fun n k => lp_X1_turnedHolds_23 x (nI i) (nI j) I n (nI k)) r (fun k => tst (bad4 N r i j k)) en1 (fun n => ?_) (fun n k hk => ?_) r 0 FU (Nat.zero_add r) (FUlt h5)
  · show lp_X1_turnedHolds_23 x (nI i) (nI j) I (n + 1) (nI r) = _
    rw [lp_X1_turnedHolds_23.eq_2, h.1, if_pos (nI_le (Nat.le_refl _) (by omega))]
    rfl
  · have hpl := ptn_lt N i (show 0 < r by omega)
    have a1 := B_num h (i := i) (j := j) (k := k) (by omega) (by omega) (by omega)
    have a2 := B_num h (i := ptn N i r) (j := k) (k := j) (by omega) (by omega) (by omega)
    have b1 := ho.nn (i := i) (j := j) (k := k) (by omega) (by omega) (by omega)
    have b2 := ho.nn (i := ptn N i r) (j := k) (k := j) (by omega) (by omega) (by omega)
    have e : lp_X1_turnedHolds_23 x (nI i) (nI j) I (n + 1) (nI k) = if bad4 N r i j k then some (0, nI k) else lp_X1_turnedHolds_23 x (nI i) (nI j) I n (nI (k + 1)) := by
      rw [lp_X1_turnedHolds_23.eq_2, h.1, if_neg (le_nI (by omega) (by omega) (by omega)), n1, nI_add, bd_ok a1, gd_in (by omega) (by decide), cl (by omega), hp i hi, bd_ok a2]
      by_cases q : bad4 N r i j k
      · rw [if_pos q, if_neg (eq_nI (by omega) (by omega) q)]
      · rw [if_neg q, if_pos (by rw [Decidable.not_not.mp q])]
    by_cases hb : bad4 N r i j k
    · exact Or.inl ⟨(), tst_t hb, by show lp_X1_turnedHolds_23 x (nI i) (nI j) I (n + 1) (nI k) = _; rw [e, if_pos hb]; rfl⟩
    · exact Or.inr ⟨tst_f hb, by show lp_X1_turnedHolds_23 x (nI i) (nI j) I (n + 1) (nI k) = _; rw [e, if_neg hb]⟩
theorem B_four_mid {I : SI} {x r : Nat} {N : Nat → Nat} (h : TB I x r N) (ho : OKT r N) (hp : ∀ i, i < r → I 17 i = nI (ptn N i r)) (i : Nat) (hi : i < r) : lp_X1_turnedHolds_12 x (nI i) I FU 0 = some (en2 (fsO (fun j => fsO (fun k => tst (bad4 N r i j k)) r 0) r 0)) := by
  obtain ⟨h1, h5, h9⟩ := id ho
  refine fsLoop (fun n j => lp_X1_turnedHolds_12 x (nI i) I n (nI j)) r (fun j => fsO (fun k => tst (bad4 N r i j k)) r 0) en2 (fun n => ?_) (fun n j hj => ?_) r 0 FU (Nat.zero_add r) (FUlt h5)
  · show lp_X1_turnedHolds_12 x (nI i) I (n + 1) (nI r) = _
    rw [lp_X1_turnedHolds_12.eq_2, h.1, if_pos (nI_le (Nat.le_refl _) (by omega))]
    rfl
  · have e := B_four_in h ho hp i j hi hj
    have e2 : lp_X1_turnedHolds_12 x (nI i) I (n + 1) (nI j) = if (en1 (fsO (fun k => tst (bad4 N r i j k)) r 0)).1 = 0 then some (0, nI j, (en1 (fsO (fun k => tst (bad4 N r i j k)) r 0)).2) else lp_X1_turnedHolds_12 x (nI i) I n (nI (j + 1)) := by
      rw [lp_X1_turnedHolds_12.eq_2, h.1, if_neg (le_nI (by omega) (by omega) (by omega)), bd_ok e, n1, nI_add]
    cases hq : fsO (fun k => tst (bad4 N r i j k)) r 0 with
    | some a => exact Or.inl ⟨a, rfl, by show lp_X1_turnedHolds_12 x (nI i) I (n + 1) (nI j) = _; rw [e2, hq]; rfl⟩
    | none => exact Or.inr ⟨rfl, by show lp_X1_turnedHolds_12 x (nI i) I (n + 1) (nI j) = _; rw [e2, hq]; rfl⟩
theorem B_four_out {I : SI} {x r : Nat} {N : Nat → Nat} (h : TB I x r N) (ho : OKT r N) (hp : ∀ i, i < r → I 17 i = nI (ptn N i r)) : lp_X1_turnedHolds_2 x I FU 0 = some (en3 (fsO (fun i => fsO (fun j => fsO (fun k => tst (bad4 N r i j k)) r 0) r 0) r 0)) := by
  obtain ⟨h1, h5, h9⟩ := id ho
  refine fsLoop (fun n i => lp_X1_turnedHolds_2 x I n (nI i)) r (fun i => fsO (fun j => fsO (fun k => tst (bad4 N r i j k)) r 0) r 0) en3 (fun n => ?_) (fun n i hi => ?_) r 0 FU (Nat.zero_add r) (FUlt h5)
  · show lp_X1_turnedHolds_2 x I (n + 1) (nI r) = _
    rw [lp_X1_turnedHolds_2.eq_2, h.1, if_pos (nI_le (Nat.le_refl _) (by omega))]
    rfl
  · have e := B_four_mid h ho hp i hi
    have e2 : lp_X1_turnedHolds_2 x I (n + 1) (nI i) = if (en2 (fsO (fun j => fsO (fun k => tst (bad4 N r i j k)) r 0) r 0)).1 = 0 then some (0, nI i, (en2 (fsO (fun j => fsO (fun k => tst (bad4 N r i j k)) r 0) r 0)).2.1, (en2 (fsO (fun j => fsO (fun k => tst (bad4 N r i j k)) r 0) r 0)).2.2) else lp_X1_turnedHolds_2 x I n (nI (i + 1)) := by
      rw [lp_X1_turnedHolds_2.eq_2, h.1, if_neg (le_nI (by omega) (by omega) (by omega)), bd_ok e, n1, nI_add]
    cases hq : fsO (fun j => fsO (fun k => tst (bad4 N r i j k)) r 0) r 0 with
    | some a => exact Or.inl ⟨a, rfl, by show lp_X1_turnedHolds_2 x I (n + 1) (nI i) = _; rw [e2, hq]; rfl⟩
    | none => exact Or.inr ⟨rfl, by show lp_X1_turnedHolds_2 x I (n + 1) (nI i) = _; rw [e2, hq]; rfl⟩
