/-! RIGHT: the fault of a table, told by class and reference alike -/
def fillS (I : SI) (k : Nat) (v : Int32) : Nat → SI
  | 0 => I
  | m + 1 => ups (fillS I k v m) k m v
theorem fillS_fr (I : SI) (k : Nat) (v : Int32) : ∀ n, Fr [k] I (fillS I k v n) := by
  intro n
  induction n with
  | zero => exact Fr.rf
  | succ n ih => exact ih.ups List.mem_cons_self
theorem fillS_at (I : SI) (k : Nat) (v : Int32) : ∀ n j, fillS I k v n k j = if j < n then v else I k j := by
  intro n
  induction n with
  | zero => intro j; rw [if_neg (by omega)]; rfl
  | succ n ih =>
    intro j
    rw [fillS, ups_at]
    by_cases h : j = n
    · rw [if_pos h, if_pos (by omega)]
    · rw [if_neg h, ih]
      by_cases h2 : j < n
      · rw [if_pos h2, if_pos (by omega)]
      · rw [if_neg h2, if_neg (by omega)]
theorem e_fill (I : SI) (k n : Nat) (v : Int32) (hn : n < 40000) : f_J7_fill k n v I = some (fillS I k v n) := by
  have e : lp_J7_fill_5 k n v (nI n) FU 0 I = some (fillS I k v n) := by
    refine upLoop (fun m j => lp_J7_fill_5 k n v (nI n) m (nI j) (fillS I k v j)) n _ (fun m => ?_) (fun m j hj => ?_) n 0 FU (Nat.zero_add n) (by unfold FU; omega)
    · show lp_J7_fill_5 k n v (nI n) (m + 1) (nI n) _ = _
      rw [lp_J7_fill_5.eq_2, if_pos (nI_le (Nat.le_refl _) (by omega))]
    · show lp_J7_fill_5 k n v (nI n) (m + 1) (nI j) _ = _
      rw [lp_J7_fill_5.eq_2, if_neg (le_nI (by omega) (by omega) (by omega)), gd_in hj (by omega), cl (by omega), n1, nI_add]
      rfl
  unfold f_J7_fill
  rw [bd_ok e]
def flt (r : Nat) (N : Nat → Nat) : Nat × Int32 × Int32 × Int32 × Int32 := match lw1 r N with
  | some (i, j, _) => (1, nI i, nI j, -1, -1)
  | none => match lw2 r N with
    | some (i, j, k, _) => (2, nI i, nI j, nI k, -1)
    | none => match lw3 r N with
      | some (i, _) => (3, nI i, -1, -1, -1)
      | none => match lw4 r N with
        | some (i, j, k, _) => (4, nI i, nI j, nI k, -1)
        | none => match lw5 r N with
          | some (i, j, k, l, _) => (5, nI i, nI j, nI k, nI l)
          | none => (0, -1, -1, -1, -1)
abbrev Right (r : Nat) (N : Nat → Nat) : Prop := (flt r N).1 = 0
def brk (I : SI) (q : Int32 × Int32 × Int32 × Int32 × Int32) : SI := ups (ups (ups (ups (sets I 18 q.1) 16 0 q.2.1) 16 1 q.2.2.1) 16 2 q.2.2.2.1) 16 3 q.2.2.2.2
theorem e_breaks (I : SI) (a b c d e : Int32) : f_X1_breaks_18 a b c d e I = some (0, brk I (a, b, c, d, e)) := rfl
def tll (I : SI) (q : Int32 × Int32 × Int32 × Int32 × Int32) : SI := ups (ups (ups (ups (ups I 2 0 q.1) 2 1 q.2.1) 2 2 q.2.2.1) 2 3 q.2.2.2.1) 2 4 q.2.2.2.2
theorem e_tell (I : SI) (a b c d e : Int32) : f_X9_tell a b c d e I = some (1, tll I (a, b, c, d, e)) := rfl
/-- the fault q stands in the class's Laws -/
def FB (I : SI) (q : Nat × Int32 × Int32 × Int32 × Int32) : Prop := I 18 0 = nI q.1 ∧ I 16 0 = q.2.1 ∧ I 16 1 = q.2.2.1 ∧ I 16 2 = q.2.2.2.1 ∧ I 16 3 = q.2.2.2.2
def FM (I : SI) (q : Nat × Int32 × Int32 × Int32 × Int32) : Prop := I 2 0 = nI q.1 ∧ I 2 1 = q.2.1 ∧ I 2 2 = q.2.2.1 ∧ I 2 3 = q.2.2.2.1 ∧ I 2 4 = q.2.2.2.2
theorem brk_FB (I : SI) (n : Nat) (b c d e : Int32) : FB (brk I (nI n, b, c, d, e)) (n, b, c, d, e) := by
  refine ⟨?_, ?_, ?_, ?_, ?_⟩ <;> simp [brk, ups, sets, va_up, upd]
theorem tll_FM (I : SI) (n : Nat) (b c d e : Int32) : FM (tll I (nI n, b, c, d, e)) (n, b, c, d, e) := by
  refine ⟨?_, ?_, ?_, ?_, ?_⟩ <;> simp [tll, ups, va_up, upd]
theorem brk_fr {S : List Nat} {I I1 : SI} (h : Fr S I I1) (h16 : 16 ∈ S) (h18 : 18 ∈ S) (q : Int32 × Int32 × Int32 × Int32 × Int32) : Fr S I (brk I1 q) := ((((h.sets h18).ups h16).ups h16).ups h16).ups h16
theorem tll_fr {S : List Nat} {I I1 : SI} (h : Fr S I I1) (h2 : 2 ∈ S) (q : Int32 × Int32 × Int32 × Int32 × Int32) : Fr S I (tll I1 q) := ((((h.ups h2).ups h2).ups h2).ups h2).ups h2
theorem B_right {I : SI} {x r : Nat} {N : Nat → Nat} (h : TB I x r N) (hx : x < 8) (ho : OKT r N) : ∃ I', f_X1_allHold x I = some ((if Right r N then 1 else 0), I') ∧ Fr [16, 17, 18] I I' ∧ FB I' (flt r N) ∧ (Right r N → ∀ i, i < r → I' 17 i = nI (ptn N i r)) := by
  obtain ⟨h1, h5, h9⟩ := id ho
  have f0 : Fr [16, 17, 18] I (fillS (sets I 18 0) 16 (-1) 4) := (Fr.rf.sets (by decide)).trans ((fillS_fr _ _ _ _).mono (by decide))
  have FB0 : FB (fillS (sets I 18 0) 16 (-1) 4) (0, -1, -1, -1, -1) := by
    refine ⟨?_, ?_, ?_, ?_, ?_⟩
    · rw [fillS_fr _ 16 _ 4 18 (by decide)]; exact sets_at
    all_goals (rw [fillS_at]; rfl)
  have hb := h.fr f0 (by simp; omega) (by simp; omega)
  have e0 := e_fill (sets I 18 0) 16 4 (-1) (by decide)
  unfold f_X1_allHold
  rw [bd_ok e0]
  generalize fillS (sets I 18 0) 16 (-1) 4 = I1 at f0 hb FB0
  have eu : f_X1_unitHolds x I1 = match lw1 r N with
      | some (i, j, _) => some (0, brk I1 (1, nI i, nI j, -1, -1))
      | none => some (1, I1) := by
    unfold f_X1_unitHolds
    rw [bd_ok (B_unit_out hb ho)]
    cases lw1 r N with
    | none => rfl
    | some a => rfl
  cases q1 : lw1 r N with
  | some a =>
    obtain ⟨i, j, u⟩ := a
    rw [q1] at eu
    rw [bd_ok eu]
    have ef : flt r N = (1, nI i, nI j, -1, -1) := by unfold flt; rw [q1]
    refine ⟨brk I1 (1, nI i, nI j, -1, -1), by rw [if_neg (by rw [Right, ef]; simp)]; rfl, brk_fr f0 (by decide) (by decide) _, by rw [ef]; exact brk_FB I1 1 _ _ _ _, fun hq => absurd hq (by rw [Right, ef]; simp)⟩
  | none =>
    rw [q1] at eu
    rw [bd_ok eu]
    show ∃ I', (bd (f_X1_eitherWayHolds x I1) _) = _ ∧ _
    have e2 : f_X1_eitherWayHolds x I1 = match lw2 r N with
        | some (i, j, k, _) => some (0, brk I1 (2, nI i, nI j, nI k, -1))
        | none => some (1, I1) := by
      unfold f_X1_eitherWayHolds
      rw [bd_ok (B_two_out hb ho)]
      unfold lw2
      cases fsO (fun i => fsO (fun j => fsO (fun k => tst (bad2 N i j k)) r 0) r 0) r 0 with
      | none => rfl
      | some a => rfl
    cases q2 : lw2 r N with
    | some a =>
      obtain ⟨i, j, k, u⟩ := a
      rw [q2] at e2
      rw [bd_ok e2]
      have ef : flt r N = (2, nI i, nI j, nI k, -1) := by unfold flt; rw [q1, q2]
      refine ⟨brk I1 (2, nI i, nI j, nI k, -1), by rw [if_neg (by rw [Right, ef]; simp)]; rfl, brk_fr f0 (by decide) (by decide) _, by rw [ef]; exact brk_FB I1 2 _ _ _ _, fun hq => absurd hq (by rw [Right, ef]; simp)⟩
    | none =>
      rw [q2] at e2
      rw [bd_ok e2]
      show ∃ I', (bd (f_X1_partnersHold x I1) _) = _ ∧ _
      have e3 : f_X1_partnersHold x I1 = match lw3 r N with
          | some (i, _) => some (0, brk (PU 17 I1 N r (i + 1)) (3, nI i, -1, -1, -1))
          | none => some (1, PU 17 I1 N r r) := by
        unfold f_X1_partnersHold
        rw [bd_ok (B_part_out hb hx ho)]
        cases lw3 r N with
        | none => rfl
        | some a => rfl
      cases q3 : lw3 r N with
      | some a =>
        obtain ⟨i, u⟩ := a
        rw [q3] at e3
        rw [bd_ok e3]
        have ef : flt r N = (3, nI i, -1, -1, -1) := by unfold flt; rw [q1, q2, q3]
        refine ⟨brk (PU 17 I1 N r (i + 1)) (3, nI i, -1, -1, -1), by rw [if_neg (by rw [Right, ef]; simp)]; rfl, brk_fr (f0.trans ((PU_fr 17 I1 N r _).mono (by decide))) (by decide) (by decide) _, by rw [ef]; exact brk_FB _ 3 _ _ _ _, fun hq => absurd hq (by rw [Right, ef]; simp)⟩
      | none =>
        rw [q3] at e3
        rw [bd_ok e3]
        show ∃ I', (bd (f_X1_turnedHolds x (PU 17 I1 N r r)) _) = _ ∧ _
        have hp := PU_at 17 I1 N r (fun i hi => tst_no (fsO_no r 0 q3 i (Nat.zero_le _) (by omega))) r (Nat.le_refl _)
        have f3 := f0.trans ((PU_fr 17 I1 N r r).mono (S' := [16, 17, 18]) (by decide))
        have hb3 := hb.fr (PU_fr 17 I1 N r r) (by simp; omega) (by simp; omega)
        have FB3 : FB (PU 17 I1 N r r) (0, -1, -1, -1, -1) := by
          have z16 := PU_fr 17 I1 N r r 16 (by decide)
          have z18 := PU_fr 17 I1 N r r 18 (by decide)
          unfold FB
          rw [z16, z18]
          exact FB0
        generalize PU 17 I1 N r r = I3 at hp f3 hb3 FB3
        have e4 : f_X1_turnedHolds x I3 = match lw4 r N with
            | some (i, j, k, _) => some (0, brk I3 (4, nI i, nI j, nI k, -1))
            | none => some (1, I3) := by
          unfold f_X1_turnedHolds
          rw [bd_ok (B_four_out hb3 ho hp)]
          unfold lw4
          cases fsO (fun i => fsO (fun j => fsO (fun k => tst (bad4 N r i j k)) r 0) r 0) r 0 with
          | none => rfl
          | some a => rfl
        cases q4 : lw4 r N with
        | some a =>
          obtain ⟨i, j, k, u⟩ := a
          rw [q4] at e4
          rw [bd_ok e4]
          have ef : flt r N = (4, nI i, nI j, nI k, -1) := by unfold flt; rw [q1, q2, q3, q4]
          refine ⟨brk I3 (4, nI i, nI j, nI k, -1), by rw [if_neg (by rw [Right, ef]; simp)]; rfl, brk_fr f3 (by decide) (by decide) _, by rw [ef]; exact brk_FB I3 4 _ _ _ _, fun hq => absurd hq (by rw [Right, ef]; simp)⟩
        | none =>
          rw [q4] at e4
          rw [bd_ok e4]
          show ∃ I', (bd (f_X1_threeHolds_18 x I3) _) = _ ∧ _
          have e5 : f_X1_threeHolds_18 x I3 = match lw5 r N with
              | some (i, j, k, l, _) => some (0, brk I3 (5, nI i, nI j, nI k, nI l))
              | none => some (1, I3) := by
            unfold f_X1_threeHolds_18
            rw [bd_ok (B_three_out18 hb3 ho), ← lw5_from1 (lw1_no q1) h1]
            cases lw5 r N with
            | none => rfl
            | some a => rfl
          cases q5 : lw5 r N with
          | some a =>
            obtain ⟨i, j, k, l, u⟩ := a
            rw [q5] at e5
            rw [bd_ok e5]
            have ef : flt r N = (5, nI i, nI j, nI k, nI l) := by unfold flt; rw [q1, q2, q3, q4, q5]
            refine ⟨brk I3 (5, nI i, nI j, nI k, nI l), by rw [if_neg (by rw [Right, ef]; simp)]; rfl, brk_fr f3 (by decide) (by decide) _, by rw [ef]; exact brk_FB I3 5 _ _ _ _, fun hq => absurd hq (by rw [Right, ef]; simp)⟩
          | none =>
            rw [q5] at e5
            rw [bd_ok e5]
            have ef : flt r N = (0, -1, -1, -1, -1) := by unfold flt; rw [q1, q2, q3, q4, q5]
            exact ⟨I3, by rw [if_pos (by rw [Right, ef])]; rfl, f3, by rw [ef]; exact FB3, fun _ => hp⟩
theorem M_right {I : SI} {t r : Nat} {N : Nat → Nat} (h : TM I t r N) (ht : t < 7) (ho : OKT r N) : ∃ I', f_X9_isRight (nI t) I = some ((if Right r N then 1 else 0), I') ∧ Fr [2, 3] I I' ∧ FM I' (flt r N) ∧ (Right r N → ∀ i, i < r → I' 3 i = nI (ptn N i r)) := by
  obtain ⟨h1, h5, h9⟩ := id ho
  have f0 : Fr [2, 3] I I := Fr.rf
  have hb := h
  unfold f_X9_isRight
  have eu : f_X9_breaksUnit (nI t) I = match lw1 r N with
      | some (i, j, _) => some (1, tll I (1, nI i, nI j, -1, -1))
      | none => some (0, I) := by
    unfold f_X9_breaksUnit
    rw [bd_ok (M_unit_out hb ht ho)]
    cases lw1 r N with
    | none => rfl
    | some a => rfl
  cases q1 : lw1 r N with
  | some a =>
    obtain ⟨i, j, u⟩ := a
    rw [q1] at eu
    rw [bd_ok eu]
    have ef : flt r N = (1, nI i, nI j, -1, -1) := by unfold flt; rw [q1]
    refine ⟨tll I (1, nI i, nI j, -1, -1), by rw [if_neg (by rw [Right, ef]; simp)]; rfl, tll_fr f0 (by decide) _, by rw [ef]; exact tll_FM I 1 _ _ _ _, fun hq => absurd hq (by rw [Right, ef]; simp)⟩
  | none =>
    rw [q1] at eu
    rw [bd_ok eu]
    show ∃ I', (bd (f_X9_breaksThree (nI t) 2 I) _) = _ ∧ _
    have e2 : f_X9_breaksThree (nI t) 2 I = match lw2 r N with
        | some (i, j, k, _) => some (1, tll I (2, nI i, nI j, nI k, -1))
        | none => some (0, I) := by
      unfold f_X9_breaksThree
      rw [gd_in (by omega) (by decide), cl (by omega), hb.1, bd_ok (show lp_X9_breaksThree_10 (nI t) 2 (nI r) I FU 0 = _ from M_flat_out hb ht ho 2 (bad2 N) (fun i j k => inferInstance) (Or.inl ⟨rfl, rfl⟩))]
      unfold lw2
      cases fsO (fun i => fsO (fun j => fsO (fun k => tst (bad2 N i j k)) r 0) r 0) r 0 with
      | none => rfl
      | some a => rfl
    cases q2 : lw2 r N with
    | some a =>
      obtain ⟨i, j, k, u⟩ := a
      rw [q2] at e2
      rw [bd_ok e2]
      have ef : flt r N = (2, nI i, nI j, nI k, -1) := by unfold flt; rw [q1, q2]
      refine ⟨tll I (2, nI i, nI j, nI k, -1), by rw [if_neg (by rw [Right, ef]; simp)]; rfl, tll_fr f0 (by decide) _, by rw [ef]; exact tll_FM I 2 _ _ _ _, fun hq => absurd hq (by rw [Right, ef]; simp)⟩
    | none =>
      rw [q2] at e2
      rw [bd_ok e2]
      show ∃ I', (bd (f_X9_breaksPartners (nI t) I) _) = _ ∧ _
      have e3 : f_X9_breaksPartners (nI t) I = match lw3 r N with
          | some (i, _) => some (1, tll (PU 3 I N r (i + 1)) (3, nI i, -1, -1, -1))
          | none => some (0, PU 3 I N r r) := by
        unfold f_X9_breaksPartners
        rw [bd_ok (M_part_out hb ht ho)]
        cases lw3 r N with
        | none => rfl
        | some a => rfl
      cases q3 : lw3 r N with
      | some a =>
        obtain ⟨i, u⟩ := a
        rw [q3] at e3
        rw [bd_ok e3]
        have ef : flt r N = (3, nI i, -1, -1, -1) := by unfold flt; rw [q1, q2, q3]
        refine ⟨tll (PU 3 I N r (i + 1)) (3, nI i, -1, -1, -1), by rw [if_neg (by rw [Right, ef]; simp)]; rfl, tll_fr (f0.trans ((PU_fr 3 I N r _).mono (by decide))) (by decide) _, by rw [ef]; exact tll_FM _ 3 _ _ _ _, fun hq => absurd hq (by rw [Right, ef]; simp)⟩
      | none =>
        rw [q3] at e3
        rw [bd_ok e3]
        show ∃ I', (bd (f_X9_breaksThree (nI t) 4 (PU 3 I N r r)) _) = _ ∧ _
        have hp := PU_at 3 I N r (fun i hi => tst_no (fsO_no r 0 q3 i (Nat.zero_le _) (by omega))) r (Nat.le_refl _)
        have f3 := f0.trans ((PU_fr 3 I N r r).mono (S' := [2, 3]) (by decide))
        have hb3 := hb.fr (PU_fr 3 I N r r) (by decide) (by decide)
        generalize PU 3 I N r r = I3 at hp f3 hb3
        have e4 : f_X9_breaksThree (nI t) 4 I3 = match lw4 r N with
            | some (i, j, k, _) => some (1, tll I3 (4, nI i, nI j, nI k, -1))
            | none => some (0, I3) := by
          unfold f_X9_breaksThree
          rw [gd_in (by omega) (by decide), cl (by omega), hb3.1, bd_ok (show lp_X9_breaksThree_10 (nI t) 4 (nI r) I3 FU 0 = _ from M_flat_out hb3 ht ho 4 (bad4 N r) (fun i j k => inferInstance) (Or.inr ⟨rfl, rfl, hp⟩))]
          unfold lw4
          cases fsO (fun i => fsO (fun j => fsO (fun k => tst (bad4 N r i j k)) r 0) r 0) r 0 with
          | none => rfl
          | some a => rfl
        cases q4 : lw4 r N with
        | some a =>
          obtain ⟨i, j, k, u⟩ := a
          rw [q4] at e4
          rw [bd_ok e4]
          have ef : flt r N = (4, nI i, nI j, nI k, -1) := by unfold flt; rw [q1, q2, q3, q4]
          refine ⟨tll I3 (4, nI i, nI j, nI k, -1), by rw [if_neg (by rw [Right, ef]; simp)]; rfl, tll_fr f3 (by decide) _, by rw [ef]; exact tll_FM I3 4 _ _ _ _, fun hq => absurd hq (by rw [Right, ef]; simp)⟩
        | none =>
          rw [q4] at e4
          rw [bd_ok e4]
          show ∃ I', (bd (f_X9_breaksSums (nI t) I3) _) = _ ∧ _
          have e5 : f_X9_breaksSums (nI t) I3 = match lw5 r N with
              | some (i, j, k, l, _) => some (1, tll I3 (5, nI i, nI j, nI k, nI l))
              | none => some (0, I3) := by
            unfold f_X9_breaksSums
            rw [gd_in (by omega) (by decide), cl (by omega), hb3.1, bd_ok (M_five_out hb3 ht ho)]
            cases lw5 r N with
            | none => rfl
            | some a => rfl
          cases q5 : lw5 r N with
          | some a =>
            obtain ⟨i, j, k, l, u⟩ := a
            rw [q5] at e5
            rw [bd_ok e5]
            have ef : flt r N = (5, nI i, nI j, nI k, nI l) := by unfold flt; rw [q1, q2, q3, q4, q5]
            refine ⟨tll I3 (5, nI i, nI j, nI k, nI l), by rw [if_neg (by rw [Right, ef]; simp)]; rfl, tll_fr f3 (by decide) _, by rw [ef]; exact tll_FM I3 5 _ _ _ _, fun hq => absurd hq (by rw [Right, ef]; simp)⟩
          | none =>
            rw [q5] at e5
            rw [bd_ok e5]
            have ef : flt r N = (0, -1, -1, -1, -1) := by unfold flt; rw [q1, q2, q3, q4, q5]
            refine ⟨tll I3 (0, -1, -1, -1, -1), by rw [if_pos (by rw [Right, ef])]; rfl, tll_fr f3 (by decide) _, by rw [ef]; exact tll_FM I3 0 _ _ _ _, fun _ i hi => ?_⟩
            rw [tll_fr (S := [2]) Fr.rf (by decide) (0, -1, -1, -1, -1) 3 (by decide)]
            exact hp i hi
