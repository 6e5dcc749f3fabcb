/-! LISTS: the laws that hold by the way a candidate is laid; rows of free numbers, one after the other; lists alike -/
theorem unit_at : ∀ r, r < 5 → ∀ i, i < r → ∀ j, j < r → ∀ k, k < r → unitN r (25 * i + 5 * j + k) = if i = 0 then dl j k else if j = 0 then dl i k else 0 := by decide +kernel
theorem mat0 (p : Nat) : mat p 0 = 0 := by unfold mat; by_cases q : p = 1 <;> simp [q]
section CN
variable {r p : Nat} {w : Nat → Nat}
theorem cN_in (h : cfg r p) {i j k : Nat} (hi : i < r) (hj : j < r) (hk : k < r) (h1 : 1 ≤ i) (h2 : 1 ≤ j) (h3 : 1 ≤ k) : nn (cN r p w) i j k = w (fx r p (25 * i + 5 * j + k)) := by
  have l := cfg_le h
  show cN r p w (25 * i + 5 * j + k) = _
  unfold cN
  rw [if_pos ((inn_iff (by omega) (by omega) (by omega)).mpr ⟨h1, hi, h2, hj, h3, hk⟩)]
theorem cN_k0 (h : cfg r p) {i j : Nat} (hi : i < r) (hj : j < r) : nn (cN r p w) i j 0 = dl j (mat p i) := by
  have l := cfg_le h
  show cN r p w (25 * i + 5 * j + 0) = _
  have hn : ¬ inn r (25 * i + 5 * j + 0) = true := fun q => by have := (inn_iff (by omega) (by omega) (by omega)).mp q; omega
  have a1 : (25 * i + 5 * j + 0) / 25 = i := by omega
  have a2 : (25 * i + 5 * j + 0) / 5 % 5 = j := by omega
  have a3 : (25 * i + 5 * j + 0) % 5 = 0 := by omega
  unfold cN
  rw [if_neg hn, unit_at r (by omega) i hi j hj 0 (by omega)]
  by_cases z : i = 0
  · rw [if_neg (fun q => by have := isP_d q; omega), if_pos z, z, mat0]
  · have m := mat_lt h (show 1 ≤ i by omega) hi
    by_cases y : j = mat p i
    · rw [if_pos (isP_i ⟨a3, by omega, by omega, by rw [a1, a2]; exact y⟩), y, dl, if_pos rfl]
    · rw [if_neg (fun q => y (by have := (isP_d q).2.2.2; rw [a1, a2] at this; exact this)), if_neg z]
      unfold dl
      rw [if_neg y]
      by_cases x : j = 0
      · rw [if_pos x, if_neg z]
      · rw [if_neg x]
theorem cN_u (h : cfg r p) {i j k : Nat} (hi : i < r) (hj : j < r) (hk : k < r) (h3 : 1 ≤ k) (hz : i = 0 ∨ j = 0) : nn (cN r p w) i j k = if i = 0 then dl j k else dl i k := by
  have l := cfg_le h
  show cN r p w (25 * i + 5 * j + k) = _
  unfold cN
  rw [if_neg (fun q => by have := (inn_iff (by omega) (by omega) (by omega)).mp q; omega), if_neg (fun q => by have := isP_d q; omega), unit_at r (by omega) i hi j hj k hk]
  by_cases z : i = 0
  · rw [if_pos z, if_pos z]
  · rw [if_neg z, if_neg z, if_pos (by omega)]
theorem cN_0 (h : cfg r p) {j k : Nat} (hj : j < r) (hk : k < r) : nn (cN r p w) 0 j k = dl j k := by
  have l := cfg_le h
  by_cases z : k = 0
  · rw [z, cN_k0 h (by omega) hj, mat0]
  · rw [cN_u h (by omega) hj hk (by omega) (Or.inl rfl), if_pos rfl]
theorem cN_j0 (h : cfg r p) {i k : Nat} (hi : i < r) (hk : k < r) : nn (cN r p w) i 0 k = dl i k := by
  have l := cfg_le h
  by_cases y : i = 0
  · rw [y]; exact cN_0 h (by omega) hk
  · by_cases z : k = 0
    · have m := mat_lt h (show 1 ≤ i by omega) hi
      rw [z, cN_k0 h hi (by omega)]
      unfold dl
      rw [if_neg (by omega), if_neg y]
    · rw [cN_u h hi (by omega) hk (by omega) (Or.inr rfl), if_neg y]
theorem mat_r (h : cfg r p) {i : Nat} (hi : i < r) : mat p i < r := by
  have l := cfg_le h
  by_cases y : i = 0
  · rw [y, mat0]; omega
  · exact (mat_lt h (by omega) hi).2
theorem cN_1 (h : cfg r p) : Unit1 r (cN r p w) := fun i j hi hj => ⟨cN_0 h hi hj, cN_j0 h hi hj⟩
theorem cN_2 (h : cfg r p) {i j k : Nat} (hi : i < r) (hj : j < r) (hk : k < r) : nn (cN r p w) i j k = nn (cN r p w) j i k := by
  have l := cfg_le h
  by_cases a : i = 0
  · rw [a, cN_0 h hj hk, cN_j0 h hj hk]
  · by_cases b : j = 0
    · rw [b, cN_0 h hi hk, cN_j0 h hi hk]
    · by_cases c : k = 0
      · rw [c, cN_k0 h hi hj, cN_k0 h hj hi]
        unfold dl
        by_cases y : j = mat p i
        · rw [if_pos y, if_pos (by rw [y, mat_mat])]
        · rw [if_neg y, if_neg (fun q => y (by rw [q, mat_mat]))]
      · rw [cN_in h hi hj hk (by omega) (by omega) (by omega), cN_in h hj hi hk (by omega) (by omega) (by omega), ((tabT h).1 i j k (by omega) (by omega) (by omega) ((inn_iff (by omega) (by omega) (by omega)).mpr (by omega))).2.1]
theorem sN_dl (f : Nat → Nat) (q : Nat) : ∀ r, (∀ j, j < r → f j = dl j q) → sN f r = if q < r then 1 else 0 := by
  intro r
  induction r with
  | zero => intro _; rfl
  | succ r ih =>
    intro h
    rw [sN, ih (fun j hj => h j (by omega)), h r (by omega)]
    unfold dl
    by_cases a : r = q
    · rw [if_pos a, if_neg (by omega), if_pos (by omega)]
    · rw [if_neg a]
      by_cases b : q < r
      · rw [if_pos b, if_pos (by omega)]
      · rw [if_neg b, if_neg (by omega)]
theorem ptn_dl (N : Nat → Nat) (i q : Nat) : ∀ r, (∀ j, j < r → nn N i j 0 = dl j q) → q < r → ptn N i r = q := by
  intro r
  induction r with
  | zero => intro _ h; omega
  | succ r ih =>
    intro h hq
    rw [ptn, h r (by omega)]
    unfold dl
    by_cases a : r = q
    · rw [if_pos a, if_pos (by decide)]; exact a
    · rw [if_neg a, if_neg (by decide)]
      exact ih (fun j hj => h j (by omega)) (by omega)
theorem cN_4 (h : cfg r p) {i j k : Nat} (hi : i < r) (hj : j < r) (hk : k < r) : nn (cN r p w) i j k = nn (cN r p w) (mat p i) k j := by
  have l := cfg_le h
  have mr := mat_r h hi
  by_cases a : i = 0
  · rw [a, mat0, cN_0 h hj hk, cN_0 h hk hj, dl_comm]
  · have m := mat_lt h (show 1 ≤ i by omega) hi
    by_cases b : j = 0
    · rw [b, cN_j0 h hi hk, cN_k0 h mr hk, mat_mat, dl_comm]
    · by_cases c : k = 0
      · rw [c, cN_k0 h hi hj, cN_j0 h mr hj, dl_comm]
      · rw [cN_in h hi hj hk (by omega) (by omega) (by omega), cN_in h mr hk hj (by omega) (by omega) (by omega), ((tabT h).1 i j k (by omega) (by omega) (by omega) ((inn_iff (by omega) (by omega) (by omega)).mpr (by omega))).2.2]
theorem cN_right (h : cfg r p) : Right r (cN r p w) ↔ lw5 r (cN r p w) = none := by
  have q1 : lw1 r (cN r p w) = none := fsO_all r 0 (fun i _ hi => fsO_all r 0 (fun j _ hj => tst_f (fun b => b (cN_1 h i j (by omega) (by omega)))))
  have q2 : lw2 r (cN r p w) = none := fsO_all r 0 (fun i _ hi => fsO_all r 0 (fun j _ hj => fsO_all r 0 (fun k _ hk => tst_f (fun b => b (cN_2 h (by omega) (by omega) (by omega))))))
  have q3 : lw3 r (cN r p w) = none := fsO_all r 0 (fun i _ hi => tst_f (fun b => b (by
    rw [sN_dl _ (mat p i) r (fun j hj => cN_k0 h (by omega) hj), if_pos (mat_r h (by omega))])))
  have q4 : lw4 r (cN r p w) = none := fsO_all r 0 (fun i _ hi => fsO_all r 0 (fun j _ hj => fsO_all r 0 (fun k _ hk => tst_f (fun b => b (by
    rw [ptn_dl _ i (mat p i) r (fun j hj => cN_k0 h (by omega) hj) (mat_r h (by omega))]
    exact cN_4 h (by omega) (by omega) (by omega))))))
  unfold Right flt
  rw [q1, q2, q3, q4]
  cases lw5 r (cN r p w) with
  | none => exact ⟨fun _ => rfl, fun _ => rfl⟩
  | some a => exact ⟨fun q => absurd (show (5 : Nat) = 0 from q) (by decide), fun q => by cases q⟩
theorem cN_ok (h : cfg r p) (hw : ∀ f, w f ≤ 3) : OKT r (cN r p w) := by
  have l := cfg_le h
  refine ⟨by omega, by omega, fun c hc => ?_⟩
  unfold cN
  by_cases q : inn r c = true
  · rw [if_pos q]; have := hw (fx r p c); omega
  · rw [if_neg q]
    by_cases y : isP r p c = true
    · rw [if_pos y]; decide
    · rw [if_neg y]; exact unitN_le r c hc
theorem B_three (h : cfg r p) (hw : ∀ f, w f ≤ 3) {I : SI} (hb : TB I 7 r (cN r p w)) : ∃ I', f_X1_threeHolds_21 7 I = some ((if Right r (cN r p w) then 1 else 0), I') ∧ Fr [19, 21] I I' := by
  have l := cfg_le h
  unfold f_X1_threeHolds_21
  rw [bd_ok (B_three_out21 hb (cN_ok h hw)), ← lw5_from1 (cN_1 h) (by omega)]
  have e := cN_right (w := w) h
  cases q : lw5 r (cN r p w) with
  | none => exact ⟨I, by rw [if_pos (e.mpr q)]; rfl, Fr.rf⟩
  | some a =>
    obtain ⟨i, j, k, l, u⟩ := a
    refine ⟨_, by rw [if_neg (fun z => by have := e.mp z; rw [q] at this; cases this)]; rfl, ?_⟩
    exact ((((Fr.rf.sets (by decide)).ups (by decide)).ups (by decide)).ups (by decide)).ups (by decide)
end CN
/-- digits, and a row of them one on -/
def dig (B u s : Nat) : Nat := u / B ^ s % B
theorem dig_s (B u s : Nat) : dig B u (s + 1) = dig B (u / B) s := by
  unfold dig
  rw [Nat.pow_succ, Nat.mul_comm, Nat.div_div_eq_div_mul]
theorem dig_0 (B u : Nat) : dig B u 0 = u % B := by
  unfold dig
  rw [Nat.pow_zero, Nat.div_one]
theorem up_last {B u : Nat} (hB : 1 ≤ B) (h : u % B = B - 1) : (u + 1) % B = 0 ∧ (u + 1) / B = u / B + 1 := by
  have e := Nat.div_add_mod u B
  have e2 : u + 1 = B * (u / B + 1) := by rw [Nat.mul_add, Nat.mul_one]; omega
  rw [e2]
  exact ⟨Nat.mul_mod_right _ _, Nat.mul_div_cancel_left _ (by omega)⟩
theorem up_small {B u : Nat} (hB : 1 ≤ B) (h : u % B < B - 1) : (u + 1) % B = u % B + 1 ∧ (u + 1) / B = u / B := by
  have e := Nat.div_add_mod u B
  generalize u / B = q at *
  generalize u % B = d at *
  subst e
  constructor
  · rw [Nat.add_assoc, Nat.mul_add_mod, Nat.mod_eq_of_lt (by omega)]
  · rw [Nat.add_assoc, Nat.mul_add_div (by omega), Nat.div_eq_of_lt (by omega), Nat.add_zero]
theorem dig_A {B : Nat} (hB : 1 ≤ B) : ∀ t u, (∀ s, s < t → dig B u s = B - 1) → ∀ s, s < t → dig B (u + 1) s = 0 := by
  intro t
  induction t with
  | zero => intro u _ s hs; omega
  | succ t ih =>
    intro u h s hs
    have h0 := h 0 (by omega)
    rw [dig_0] at h0
    obtain ⟨a, b⟩ := up_last hB h0
    cases s with
    | zero => rw [dig_0]; exact a
    | succ s => rw [dig_s, b]; exact ih (u / B) (fun s hs => by rw [← dig_s]; exact h (s + 1) (by omega)) s (by omega)
theorem dig_B {B : Nat} (hB : 1 ≤ B) : ∀ t u, (∀ s, s < t → dig B u s = B - 1) → dig B u t < B - 1 → dig B (u + 1) t = dig B u t + 1 := by
  intro t
  induction t with
  | zero => intro u _ h; rw [dig_0] at *; rw [dig_0]; exact (up_small hB h).1
  | succ t ih =>
    intro u h ht
    have h0 := h 0 (by omega)
    rw [dig_0] at h0
    obtain ⟨a, b⟩ := up_last hB h0
    rw [dig_s, b, dig_s]
    exact ih (u / B) (fun s hs => by rw [← dig_s]; exact h (s + 1) (by omega)) (by rw [← dig_s]; exact ht)
theorem dig_C {B : Nat} (hB : 1 ≤ B) : ∀ t u, (∀ s, s < t → dig B u s = B - 1) → dig B u t < B - 1 → ∀ s, t < s → dig B (u + 1) s = dig B u s := by
  intro t
  induction t with
  | zero =>
    intro u _ h s hs
    obtain ⟨s, rfl⟩ : ∃ q, s = q + 1 := ⟨s - 1, by omega⟩
    rw [dig_0] at h
    rw [dig_s, dig_s, (up_small hB h).2]
  | succ t ih =>
    intro u h ht s hs
    obtain ⟨s, rfl⟩ : ∃ q, s = q + 1 := ⟨s - 1, by omega⟩
    have h0 := h 0 (by omega)
    rw [dig_0] at h0
    obtain ⟨a, b⟩ := up_last hB h0
    rw [dig_s, b, dig_s]
    exact ih (u / B) (fun s hs => by rw [← dig_s]; exact h (s + 1) (by omega)) (by rw [← dig_s]; exact ht) s (by omega)
theorem dig_D {B : Nat} (hB : 1 ≤ B) : ∀ F u, u < B ^ F → (∀ s, s < F → dig B u s = B - 1) → u + 1 = B ^ F := by
  intro F
  induction F with
  | zero => intro u h _; rw [Nat.pow_zero] at *; omega
  | succ F ih =>
    intro u h hd
    have h0 := hd 0 (by omega)
    rw [dig_0] at h0
    have e := ih (u / B) (Nat.div_lt_of_lt_mul (by rw [Nat.mul_comm, ← Nat.pow_succ]; exact h)) (fun s hs => by rw [← dig_s]; exact hd (s + 1) (by omega))
    have e2 := Nat.div_add_mod u B
    rw [Nat.pow_succ, ← e, Nat.mul_comm, Nat.mul_add, Nat.mul_one]
    omega
theorem dig_E {B : Nat} (hB : 2 ≤ B) : ∀ F u, u + 1 = B ^ F → ∀ s, s < F → dig B u s = B - 1 := by
  intro F
  induction F with
  | zero => intro u _ s hs; omega
  | succ F ih =>
    intro u h s hs
    have hp : 1 ≤ B ^ F := Nat.one_le_pow _ _ (by omega)
    have e : u = B * (B ^ F - 1) + (B - 1) := by
      rw [Nat.pow_succ, Nat.mul_comm] at h
      have : B * (B ^ F - 1) + B = B * B ^ F := by
        rw [← Nat.mul_succ]
        congr 1
        omega
      omega
    have d : u / B = B ^ F - 1 := by rw [e, Nat.mul_add_div (by omega), Nat.div_eq_of_lt (by omega), Nat.add_zero]
    cases s with
    | zero => rw [dig_0, e, Nat.mul_add_mod, Nat.mod_eq_of_lt (by omega)]
    | succ s => rw [dig_s, d]; exact ih _ (by omega) s (by omega)
theorem dgw_dig (m F u f : Nat) : dgw m F u f = dig (m + 1) u (F - 1 - f) := rfl
theorem dgw_le (m F u f : Nat) : dgw m F u f ≤ m := by
  have : dgw m F u f < m + 1 := Nat.mod_lt _ (by omega)
  omega
theorem B_next7 {I : SI} {m F u : Nat} (hm : m ≤ 3) (hF : F ≤ 10) (h51 : I 51 0 = nI m) (hu : u < (m + 1) ^ F) : ∀ g n (S : SI), g ≤ F → g < n → Fr [23] I S → (∀ f, f < g → S 23 f = nI (dgw m F u f)) → (∀ f, g ≤ f → f < F → S 23 f = 0) → (∀ s, s < F - g → dig (m + 1) u s = m) →
    ∃ I', Fr [23] I I' ∧ ((lp_X2_nextRow_7 n (iI ((g : Int) - 1)) S = some (1, 0, I') ∧ u + 1 = (m + 1) ^ F) ∨ ∃ f, f < F ∧ lp_X2_nextRow_7 n (iI ((g : Int) - 1)) S = some (0, nI f, I') ∧ dgw m F u f < m ∧ (∀ s, s < F - 1 - f → dig (m + 1) u s = m) ∧ (∀ f', f' ≤ f → I' 23 f' = nI (dgw m F u f')) ∧ ∀ f', f < f' → f' < F → I' 23 f' = 0) := by
  intro g
  induction g with
  | zero =>
    intro n S hg hn hf h1 h2 h3
    obtain ⟨k, rfl⟩ : ∃ k, n = k + 1 := ⟨n - 1, by omega⟩
    refine ⟨S, hf, Or.inl ⟨by rw [lp_X2_nextRow_7.eq_2]; exact if_pos (by decide), dig_D (by omega) F u hu (fun s hs => by rw [h3 s (by omega)]; omega)⟩⟩
  | succ f ih =>
    intro n S hg hn hf h1 h2 h3
    obtain ⟨k, rfl⟩ : ∃ k, n = k + 1 := ⟨n - 1, by omega⟩
    have hd := dgw_le m F u f
    have st : lp_X2_nextRow_7 (k + 1) (iI (((f + 1 : Nat) : Int) - 1)) S = if nI m ≤ nI (dgw m F u f) then lp_X2_nextRow_7 k (iI ((f : Int) - 1)) (ups S 23 f 0) else some (0, nI f, S) := by
      rw [show ((f + 1 : Nat) : Int) - 1 = (f : Int) by omega, ← nI_iI, lp_X2_nextRow_7.eq_2, if_neg (nI_pos (by omega)), gd_in (show f < 10 by omega) (by decide), cl (show f < 2 ^ 31 by omega), hf 51 (by decide), h51, h1 f (by omega), gd_inc (show f < 10 by omega) (by decide), im1]
    rw [st]
    by_cases w : m ≤ dgw m F u f
    · rw [if_pos (nI_le w (by omega))]
      exact ih k (ups S 23 f 0) (by omega) (by omega) (hf.ups (by simp)) (fun f' hf' => by rw [ups_at, if_neg (by omega)]; exact h1 f' (by omega)) (fun f' a b => by
        rw [ups_at]
        by_cases q : f' = f
        · rw [if_pos q]
        · rw [if_neg q]; exact h2 f' (by omega) b) (fun s hs => by
        by_cases q : s < F - (f + 1)
        · exact h3 s q
        · have e : dgw m F u f = dig (m + 1) u (F - 1 - f) := rfl
          rw [show s = F - 1 - f by omega, ← e]
          omega)
    · rw [if_neg (le_nI (by omega) (by omega) w)]
      exact ⟨S, hf, Or.inr ⟨f, by omega, rfl, by omega, fun s hs => h3 s (by omega), fun f' a => h1 f' (by omega), fun f' a b => h2 f' (by omega) b⟩⟩
theorem B_nextRow {I : SI} {m F u : Nat} (h1m : 1 ≤ m) (hm : m ≤ 3) (hF : F ≤ 10) (h51 : I 51 0 = nI m) (h53 : I 53 0 = nI F) (h23 : ∀ f, f < F → I 23 f = nI (dgw m F u f)) (hu : u < (m + 1) ^ F) :
    ∃ I', f_X2_nextRow I = some ((if u + 1 < (m + 1) ^ F then 1 else 0), I') ∧ Fr [23] I I' ∧ (u + 1 < (m + 1) ^ F → ∀ f, f < F → I' 23 f = nI (dgw m F (u + 1) f)) := by
  obtain ⟨S, hf, hs⟩ := B_next7 hm hF h51 hu F FU I (Nat.le_refl _) (by unfold FU; omega) Fr.rf h23 (fun f a b => by omega) (fun s hs => by omega)
  unfold f_X2_nextRow
  rw [h53, show nI F - 1 = iI ((F : Int) - 1) by rw [nI_iI, show (1 : Int32) = iI 1 from rfl, iI_sub]]
  rcases hs with ⟨e, q⟩ | ⟨f, hfF, e, q, q2, q3, q4⟩
  · rw [bd_ok e]
    exact ⟨S, by rw [if_neg (by omega)]; rfl, hf, fun z => by omega⟩
  · rw [bd_ok e]
    have hlt : u + 1 < (m + 1) ^ F := by
      by_cases z : u + 1 = (m + 1) ^ F
      · exfalso
        have := dig_E (B := m + 1) (by omega) F u z (F - 1 - f) (by omega)
        rw [← dgw_dig] at this
        omega
      · omega
    refine ⟨ups S 23 f (nI (dgw m F (u + 1) f)), ?_, hf.ups (by simp), fun _ f' hf' => ?_⟩
    · rw [if_pos hlt]
      show gd (nI f < 0 ∨ 10 ≤ (nI f).toNatClampNeg) (gd (nI f < 0 ∨ 10 ≤ (nI f).toNatClampNeg) (some ((1 : Int32), (ups S 23 (nI f).toNatClampNeg ((S 23 (nI f).toNatClampNeg) + (1 : Int32)))))) = _
      rw [gd_in (show f < 10 by omega) (by decide), gd_in (show f < 10 by omega) (by decide), cl (by omega), q3 f (Nat.le_refl _), show nI (dgw m F u f) + 1 = nI (dgw m F u f + 1) from nI_1 _, dgw_dig m F (u + 1), dig_B (by omega) _ _ (fun s hs => by rw [q2 s hs]; omega) (by rw [← dgw_dig]; omega)]
      rfl
    · rw [ups_at]
      by_cases z : f' = f
      · rw [if_pos z, z]
      · rw [if_neg z]
        by_cases y : f' < f
        · rw [q3 f' (by omega), dgw_dig m F (u + 1), dig_C (by omega) (F - 1 - f) u (fun s hs => by rw [q2 s hs]; omega) (by rw [← dgw_dig]; omega) (F - 1 - f') (by omega)]
          rfl
        · rw [q4 f' (by omega) hf', dgw_dig m F (u + 1), dig_A (by omega) (F - 1 - f) u (fun s hs => by rw [q2 s hs]; omega) (F - 1 - f') (by omega)]
          rfl
/-- two bits a number -/
def pkw (w : Nat → Nat) : Nat → Nat
  | 0 => 0
  | n + 1 => 4 * pkw w n + w n
theorem pkw_lt {w : Nat → Nat} (hw : ∀ f, w f ≤ 3) : ∀ n, pkw w n < 4 ^ n := by
  intro n
  induction n with
  | zero => exact Nat.zero_lt_one
  | succ n ih =>
    rw [pkw, Nat.pow_succ]
    have := hw n
    omega
theorem p4_le {n : Nat} (h : n ≤ 10) : 4 ^ n ≤ 1048576 := by
  have := Nat.pow_le_pow_right (n := 4) (by decide) h
  exact this
theorem or4 {x d : Nat} (hx : x < 1048576) (hd : d < 4) : (nI x <<< ((2 : Int32) &&& 31)) ||| nI d = nI (4 * x + d) := by
  rw [pk_shlN _ 2 (by decide) (by omega)]
  apply Int32.toBitVec_inj.mp
  rw [Int32.toBitVec_or]
  apply BitVec.eq_of_toNat_eq
  rw [BitVec.toNat_or]
  show (x * 4) % 2 ^ 32 ||| d % 2 ^ 32 = (4 * x + d) % 2 ^ 32
  rw [Nat.mod_eq_of_lt (by omega), Nat.mod_eq_of_lt (by omega), Nat.mod_eq_of_lt (by omega), Nat.mul_comm x 4]
  exact (Nat.two_pow_add_eq_or_of_lt (i := 2) hd x).symm
theorem B_pack {I : SI} {F : Nat} {w : Nat → Nat} (hw : ∀ f, w f ≤ 3) (hF : F ≤ 10) (h53 : I 53 0 = nI F) (h23 : ∀ f, f < F → I 23 f = nI (w f)) : f_X2_packedRow I = some (nI (pkw w F)) := by
  have e : lp_X2_packedRow_4 I FU (nI (pkw w 0)) (nI 0) = some (nI (pkw w F)) := by
    refine upLoop (fun n k => lp_X2_packedRow_4 I n (nI (pkw w k)) (nI k)) F _ (fun n => ?_) (fun n k hk => ?_) F 0 FU (Nat.zero_add F) (by unfold FU; omega)
    · show lp_X2_packedRow_4 I (n + 1) _ (nI F) = _
      rw [lp_X2_packedRow_4.eq_2, h53, if_pos (nI_le (Nat.le_refl _) (by omega))]
    · have a := pkw_lt hw k
      have b := p4_le (n := k) (by omega)
      have c := hw k
      show lp_X2_packedRow_4 I (n + 1) (nI (pkw w k)) (nI k) = lp_X2_packedRow_4 I n (nI (pkw w (k + 1))) (nI (k + 1))
      rw [lp_X2_packedRow_4.eq_2, h53, if_neg (le_nI (by omega) (by omega) (by omega)), gd_in (show k < 10 by omega) (by decide), cl (show k < 2 ^ 31 by omega), h23 k hk, or4 (by omega) (by omega), show nI k + 1 = nI (k + 1) from nI_1 k, pkw]
  unfold f_X2_packedRow
  rw [bd_ok (show lp_X2_packedRow_4 I FU 0 0 = some (nI (pkw w F)) from e)]
theorem B_unpack {I : SI} {w : Nat → Nat} (hw : ∀ f, w f ≤ 3) (x : Nat) : ∀ g n (S : SI), g ≤ 10 → g < n → Fr [23] I S → ∃ I', lp_X2_write_28 x n (nI (pkw w g)) (iI ((g : Int) - 1)) S = some I' ∧ Fr [23] I I' ∧ (∀ f, f < g → I' 23 f = nI (w f)) ∧ ∀ f, g ≤ f → I' 23 f = S 23 f := by
  intro g
  induction g with
  | zero =>
    intro n S hg hn hf
    obtain ⟨k, rfl⟩ : ∃ k, n = k + 1 := ⟨n - 1, by omega⟩
    exact ⟨S, by rw [lp_X2_write_28.eq_2]; exact if_pos (by decide), hf, fun f a => by omega, fun f _ => rfl⟩
  | succ f ih =>
    intro n S hg hn hf
    obtain ⟨k, rfl⟩ : ∃ k, n = k + 1 := ⟨n - 1, by omega⟩
    have a := pkw_lt hw (f + 1)
    have b := p4_le (n := f + 1) (by omega)
    have c := hw f
    have e4 : pkw w (f + 1) = 4 * pkw w f + w f := rfl
    obtain ⟨I', e, q1, q2, q3⟩ := ih k (ups S 23 f (nI (w f))) (by omega) (by omega) (hf.ups (by simp))
    refine ⟨I', ?_, q1, fun f' hf' => ?_, fun f' hf' => ?_⟩
    · rw [show ((f + 1 : Nat) : Int) - 1 = (f : Int) by omega, ← nI_iI, lp_X2_write_28.eq_2, if_neg (nI_pos (by omega)), gd_in (show f < 10 by omega) (by decide), cl (show f < 2 ^ 31 by omega), pk_andN (by omega) 2 (by decide), pk_shrN (by omega) _ 2 (by decide), im1, show pkw w (f + 1) % 2 ^ 2 = w f by omega, show pkw w (f + 1) / 2 ^ 2 = pkw w f by omega]
      exact e
    · by_cases z : f' = f
      · rw [z, q3 f (Nat.le_refl _), ups_at, if_pos rfl]
      · exact q2 f' (by omega)
    · rw [q3 f' (by omega), ups_at, if_neg (by omega)]
abbrev RtU (r m p u : Nat) : Prop := Right r (cN r p (dgw m (FT r p) u))
def cnR (r m p : Nat) : Nat → Nat
  | 0 => 0
  | u + 1 => cnR r m p u + if RtU r m p u then 1 else 0
theorem cnR_le (r m p : Nat) : ∀ u, cnR r m p u ≤ u := by
  intro u
  induction u with
  | zero => exact Nat.le_refl _
  | succ u ih =>
    rw [cnR]
    by_cases q : RtU r m p u
    · rw [if_pos q]; omega
    · rw [if_neg q]; omega
theorem cnR_y {r m p u : Nat} (h : RtU r m p u) : cnR r m p (u + 1) = cnR r m p u + 1 := by rw [cnR, if_pos h]
theorem cnR_n {r m p u : Nat} (h : ¬ RtU r m p u) : cnR r m p (u + 1) = cnR r m p u := by rw [cnR, if_neg h]; rfl
theorem cnR_mono (r m p u : Nat) : ∀ d, cnR r m p u ≤ cnR r m p (u + d) := by
  intro d
  induction d with
  | zero => exact Nat.le_refl _
  | succ d ih =>
    show _ ≤ cnR r m p (u + d + 1)
    rw [cnR]
    omega
theorem cnR_lt {r m p u v : Nat} (hu : RtU r m p u) (h : u < v) : cnR r m p u < cnR r m p v := by
  have a := cnR_mono r m p (u + 1) (v - (u + 1))
  rw [show u + 1 + (v - (u + 1)) = v by omega, cnR_y hu] at a
  omega
theorem cnR_inj {r m p u v : Nat} (hu : RtU r m p u) (hv : RtU r m p v) (h : cnR r m p u = cnR r m p v) : u = v := by
  by_cases a : u < v
  · have := cnR_lt hu a; omega
  · by_cases b : v < u
    · have := cnR_lt hv b; omega
    · omega
theorem cnR_ex (r m p : Nat) : ∀ T q, q < cnR r m p T → ∃ u, u < T ∧ RtU r m p u ∧ cnR r m p u = q := by
  intro T
  induction T with
  | zero => intro q h; cases h
  | succ T ih =>
    intro q h
    by_cases w : RtU r m p T
    · rw [cnR_y w] at h
      by_cases e : q = cnR r m p T
      · exact ⟨T, by omega, w, e.symm⟩
      · obtain ⟨u, a, b, c⟩ := ih q (by omega)
        exact ⟨u, by omega, b, c⟩
    · rw [cnR_n w] at h
      obtain ⟨u, a, b, c⟩ := ih q h
      exact ⟨u, by omega, b, c⟩
def cfgm (r m p : Nat) : Prop := cfg r p ∧ 1 ≤ m ∧ m ≤ 3 ∧ (r = 4 → m = 1)
def tot (r m p : Nat) : Nat := (m + 1) ^ FT r p
theorem tot_le {r m p : Nat} (h : cfgm r m p) : 1 ≤ tot r m p ∧ tot r m p ≤ 1024 := by
  obtain ⟨h, h1, h3, h4⟩ := h
  have hm : m = 1 ∨ m = 2 ∨ m = 3 := by omega
  rcases h with ⟨rfl, rfl⟩ | ⟨rfl, rfl⟩ | ⟨rfl, rfl⟩ | ⟨rfl, rfl⟩ | ⟨rfl, rfl⟩
  · rcases hm with rfl | rfl | rfl <;> decide +kernel
  · rcases hm with rfl | rfl | rfl <;> decide +kernel
  · rcases hm with rfl | rfl | rfl <;> decide +kernel
  · rw [h4 rfl]; decide +kernel
  · rw [h4 rfl]; decide +kernel
/-- the list that the class keeps -/
def Kept (r m p : Nat) (I : SI) : Prop := I 54 0 = nI (cnR r m p (tot r m p)) ∧ ∀ u, u < tot r m p → RtU r m p u → I 24 (cnR r m p u) = nI (pkw (dgw m (FT r p) u) (FT r p))
def GR (r m p : Nat) (I : SI) (u : Nat) (S : SI) : Prop := Fr [7, 15, 19, 21, 23, 24, 54] I S ∧ S 54 0 = nI (cnR r m p u) ∧ (∀ u', u' < u → RtU r m p u' → S 24 (cnR r m p u') = nI (pkw (dgw m (FT r p) u') (FT r p))) ∧ (u < tot r m p → ∀ f, f < FT r p → S 23 f = nI (dgw m (FT r p) u f))
theorem B_findRight {r m p : Nat} (h : cfgm r m p) {I : SI} (h50 : I 50 0 = nI r) (h51 : I 51 0 = nI m) (h52 : I 52 0 = nI p) (h53 : I 53 0 = nI (FT r p)) (h22 : ∀ c, c < 125 → inn r c = true → I 22 c = nI (fx r p c)) :
    ∃ I', f_X2_findRight I = some I' ∧ Fr [7, 15, 19, 21, 23, 24, 54] I I' ∧ Kept r m p I' := by
  obtain ⟨hc, hm1, hm3, _⟩ := id h
  obtain ⟨t1, t2⟩ := tot_le h
  have ft := (tabT hc).2.2.2
  have hw : ∀ u f, dgw m (FT r p) u f ≤ 3 := fun u f => by have := dgw_le m (FT r p) u f; omega
  have key : ∀ d u n (S : SI), u + d = tot r m p → d < n → GR r m p I u S → ∃ I', lp_X2_findRight_17 n (if u < tot r m p then 1 else 0) (nI u) S = some I' ∧ GR r m p I (tot r m p) I' := by
    intro d
    induction d with
    | zero =>
      intro u n S hu hn hS
      obtain ⟨k, rfl⟩ : ∃ k, n = k + 1 := ⟨n - 1, by omega⟩
      have e : u = tot r m p := by omega
      subst e
      refine ⟨S, ?_, hS⟩
      rw [lp_X2_findRight_17.eq_2, if_neg (Nat.lt_irrefl _)]
      by_cases q : (1024 : Int32) ≤ nI (tot r m p)
      · rw [if_pos q]
      · rw [if_neg q, if_pos rfl]
    | succ d ih =>
      intro u n S hu hn hS
      obtain ⟨k, rfl⟩ : ∃ k, n = k + 1 := ⟨n - 1, by omega⟩
      obtain ⟨f0, s54, s24, s23⟩ := hS
      have s23 := s23 (by omega)
      have g : ∀ j ∈ [22, 50, 51, 52, 53], S j = I j := fun j hj => f0 j (by revert hj; revert j; decide)
      have cu := cnR_le r m p u
      obtain ⟨S1, e1, b1⟩ := B_build (I := S) hc (by rw [g 50 (by decide)]; exact h50) (by rw [g 52 (by decide)]; exact h52) (by rw [g 22 (by decide)]; exact h22) s23
      obtain ⟨S2, e2, f2⟩ := B_three hc (hw u) b1.2
      have f1 : Fr [7, 15, 19, 21, 23, 24, 54] I S1 := f0.trans (b1.1.mono (by decide))
      have f02 : Fr [7, 15, 19, 21, 23, 24, 54] I S2 := f1.trans (f2.mono (by decide))
      have r2 : ∀ j ∈ [23, 24, 54], S2 j = S j := fun j hj => (f2 j (by revert hj; revert j; decide)).trans (b1.1 j (by revert hj; revert j; decide))
      have r3 : ∀ j ∈ [51, 53], S2 j = I j := fun j hj => f02 j (by revert hj; revert j; decide)
      rw [lp_X2_findRight_17.eq_2, if_neg (show ¬ (1024 : Int32) ≤ nI u from le_nI (a := 1024) (by decide) (by omega) (by omega)), if_pos (show u < tot r m p by omega), if_neg (show ¬ (1 : Int32) = 0 by decide), bd_ok e1, bd_ok e2]
      have s23' : ∀ f, f < FT r p → S2 23 f = nI (dgw m (FT r p) u f) := by rw [r2 23 (by decide)]; exact s23
      by_cases w : RtU r m p u
      · have ep := B_pack (I := S2) (hw u) ft (by rw [r3 53 (by decide)]; exact h53) s23'
        have e54 : S2 54 0 = nI (cnR r m p u) := by rw [r2 54 (by decide)]; exact s54
        obtain ⟨S3, e3, f3, g3⟩ := B_nextRow (I := sets (ups S2 24 (cnR r m p u) (nI (pkw (dgw m (FT r p) u) (FT r p)))) 54 (nI (cnR r m p u + 1))) (u := u) (F := FT r p) hm1 hm3 ft (by rw [sets_id (by decide), ups_id (by decide), r3 51 (by decide)]; exact h51) (by rw [sets_id (by decide), ups_id (by decide), r3 53 (by decide)]; exact h53) (by rw [sets_id (by decide), ups_id (by decide)]; exact s23') (show u < tot r m p by omega)
        have hG : GR r m p I (u + 1) S3 := by
          refine ⟨((f02.ups (by decide)).sets (by decide)).trans (f3.mono (by decide)), ?_, fun u' hu' hR => ?_, g3⟩
          · rw [f3 54 (by decide), sets_at, cnR_y w]
          · rw [f3 24 (by decide), sets_id (by decide), ups_at]
            by_cases q : u' = u
            · rw [q, if_pos rfl]
            · have := cnR_lt hR (show u' < u by omega)
              rw [if_neg (by omega), r2 24 (by decide)]
              exact s24 u' (by omega) hR
        obtain ⟨I', e, b⟩ := ih (u + 1) k S3 (by omega) (by omega) hG
        refine ⟨I', ?_, b⟩
        rw [if_pos w]
        show (if (1 : Int32) = 0 then _ else bd (f_X2_packedRow S2) _) = _
        rw [if_neg (by decide), bd_ok ep, e54, gd_in (show cnR r m p u < 1024 by omega) (by decide), cl (by omega), ups_id (by decide), e54, show nI (cnR r m p u) + 1 = nI (cnR r m p u + 1) from nI_1 _, bd_ok e3, show nI u + 1 = nI (u + 1) from nI_1 u]
        exact e
      · obtain ⟨S3, e3, f3, g3⟩ := B_nextRow (I := S2) (u := u) (F := FT r p) hm1 hm3 ft (by rw [r3 51 (by decide)]; exact h51) (by rw [r3 53 (by decide)]; exact h53) s23' (show u < tot r m p by omega)
        have hG : GR r m p I (u + 1) S3 := by
          refine ⟨f02.trans (f3.mono (by decide)), ?_, fun u' hu' hR => ?_, g3⟩
          · rw [f3 54 (by decide), r2 54 (by decide), cnR_n w]; exact s54
          · have : u' ≠ u := fun q => w (q ▸ hR)
            rw [f3 24 (by decide), r2 24 (by decide)]
            exact s24 u' (by omega) hR
        obtain ⟨I', e, b⟩ := ih (u + 1) k S3 (by omega) (by omega) hG
        refine ⟨I', ?_, b⟩
        rw [if_neg w]
        show (if (0 : Int32) = 0 then bd (f_X2_nextRow S2) _ else _) = _
        rw [if_pos rfl, bd_ok e3, show nI u + 1 = nI (u + 1) from nI_1 u]
        exact e
  have f22 := fillS_fr (sets I 54 0) 23 0 10
  obtain ⟨I', e, b⟩ := key (tot r m p) 0 FU (fillS (sets I 54 0) 23 0 10) (Nat.zero_add _) (by unfold FU; omega) ⟨(Fr.rf.sets (by decide)).trans (f22.mono (by decide)), by rw [f22 54 (by decide), sets_at]; rfl, fun u' a _ => by omega, fun _ f hf => by
    rw [fillS_at, if_pos (by omega)]
    unfold dgw
    rw [Nat.zero_div, Nat.zero_mod]
    rfl⟩
  rw [if_pos (by omega)] at e
  refine ⟨I', ?_, b.1, b.2.1, b.2.2.1⟩
  unfold f_X2_findRight
  rw [bd_ok (e_fill _ 23 10 0 (by decide)), bd_ok (show lp_X2_findRight_17 FU 1 0 _ = some I' from e)]
def LstOK (I : SI) : Prop := I 50 0 = 0 ∨ ∃ r m p, cfgm r m p ∧ I 50 0 = nI r ∧ I 51 0 = nI m ∧ I 52 0 = nI p ∧ I 53 0 = nI (FT r p) ∧ (∀ c, c < 125 → inn r c = true → I 22 c = nI (fx r p c)) ∧ Kept r m p I
theorem LstOK_fr : LFr LstOK := by
  intro I I' hk h
  rcases h with h | ⟨r, m, p, h, a1, a2, a3, a4, a5, a6, a7⟩
  · exact Or.inl (by rw [hk 50 (by decide)]; exact h)
  · refine Or.inr ⟨r, m, p, h, by rw [hk 50 (by decide)]; exact a1, by rw [hk 51 (by decide)]; exact a2, by rw [hk 52 (by decide)]; exact a3, by rw [hk 53 (by decide)]; exact a4, by rw [hk 22 (by decide)]; exact a5, by rw [hk 54 (by decide)]; exact a6, by rw [hk 24 (by decide)]; exact a7⟩
theorem B_howMany {r m p : Nat} (h : cfgm r m p) {I : SI} (hL : LstOK I) : ∃ I', f_X2_howMany (nI r) (nI m) (nI p) I = some (nI (cnR r m p (tot r m p)), I') ∧ Fr [7, 15, 19, 21, 23, 24, 54, 22, 50, 51, 52, 53] I I' ∧ I' 50 0 = nI r ∧ I' 51 0 = nI m ∧ I' 52 0 = nI p ∧ I' 53 0 = nI (FT r p) ∧ (∀ c, c < 125 → inn r c = true → I' 22 c = nI (fx r p c)) ∧ Kept r m p I' := by
  have l := cfg_le h.1
  obtain ⟨S, e1, f1, b1, b2, b3, b4, b5⟩ := B_free h.1 (nI m) I
  obtain ⟨S2, e2, f2, k2⟩ := B_findRight h b1 b2 b3 b4 b5
  have again : ∃ I', bd (f_X2_findFree (sets (sets (sets I 50 (nI r)) 51 (nI m)) 52 (nI p))) (fun I_8 => bd (f_X2_findRight I_8) (fun I_9 => some ((I_9 54 0), I_9))) = some (nI (cnR r m p (tot r m p)), I') ∧ Fr [7, 15, 19, 21, 23, 24, 54, 22, 50, 51, 52, 53] I I' ∧ I' 50 0 = nI r ∧ I' 51 0 = nI m ∧ I' 52 0 = nI p ∧ I' 53 0 = nI (FT r p) ∧ (∀ c, c < 125 → inn r c = true → I' 22 c = nI (fx r p c)) ∧ Kept r m p I' := by
    refine ⟨S2, by rw [bd_ok e1, bd_ok e2, k2.1], (f1.mono (by decide)).trans (f2.mono (by decide)), by rw [f2 50 (by decide)]; exact b1, by rw [f2 51 (by decide)]; exact b2, by rw [f2 52 (by decide)]; exact b3, by rw [f2 53 (by decide)]; exact b4, by rw [f2 22 (by decide)]; exact b5, k2⟩
  unfold f_X2_howMany
  by_cases w1 : nI r = I 50 0
  · by_cases w2 : nI m = I 51 0
    · by_cases w3 : nI p = I 52 0
      · rw [if_pos w1, if_pos w2, if_pos w3]
        rcases hL with q | ⟨r', m', p', h', a1, a2, a3, a4, a5, a6⟩
        · exfalso
          rw [q] at w1
          exact nI_ne0 (by omega) (by omega) w1
        · have l' := cfg_le h'.1
          have er : r = r' := (nI_eq (by omega) (by omega)).mp (w1.trans a1)
          have em : m = m' := (nI_eq (by have := h.2.2.1; omega) (by have := h'.2.2.1; omega)).mp (w2.trans a2)
          have ep : p = p' := (nI_eq (by omega) (by omega)).mp (w3.trans a3)
          subst er em ep
          exact ⟨I, by rw [a6.1], Fr.rf, a1, a2, a3, a4, a5, a6⟩
      · rw [if_pos w1, if_pos w2, if_neg w3]; exact again
    · rw [if_pos w1, if_neg w2]; exact again
  · rw [if_neg w1]; exact again
