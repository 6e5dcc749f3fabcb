/-! closed, least, core, grade, within -/
theorem shl_r {r : Nat} (h5 : r ≤ 5) : ((1 : Int32) <<< (nI r &&& 31)) = nI (2 ^ r) := bt_shl r (by omega)
theorem pw_pos (r : Nat) : 1 ≤ 2 ^ r := Nat.one_le_two_pow
theorem e_setB_in {I : SI} {t r s : Nat} (ht : t < 6) (hr : I (8 + t) 0 = nI r) (h5 : r ≤ 5) (hs : s < 2 ^ r) : f_X8_isSet (nI t) (nI s) I = some 1 := by
  have := two_le h5
  unfold f_X8_isSet
  rw [bd_ok (e_isTable_in ht), if_neg (by decide), if_neg (show ¬ nI s < 0 from nI_pos (by omega)), gd6 ht, cl (by omega), hr, shl_r h5, if_neg (le_nI (by omega) (by omega) (by omega))]
theorem e_setB_out {I : SI} {t r : Nat} {s : Int32} (ht : t < 6) (hr : I (8 + t) 0 = nI r) (h5 : r ≤ 5) (hs : s < 0 ∨ nI (2 ^ r) ≤ s) : f_X8_isSet (nI t) s I = some 0 := by
  unfold f_X8_isSet
  rw [bd_ok (e_isTable_in ht), if_neg (by decide)]
  by_cases q : s < 0
  · rw [if_pos q]
  · rw [if_neg q, gd6 ht, cl (by omega), hr, shl_r h5, if_pos (hs.resolve_left q)]
theorem e_setM_in {I : SI} {t r s l : Nat} (ht : t < 6) (hr : I 0 t = nI r) (h5 : r ≤ 5) (hs : s < 2 ^ r) (hl : l ≤ s) : f_X9_isSet (nI t) (nI s) (nI l) I = some 1 := by
  have := two_le h5
  have hp := pw_pos r
  unfold f_X9_isSet
  rw [gd_in (by omega) (by decide), cl (by omega), hr, shl_r h5]
  obtain ⟨q, hq⟩ : ∃ q, 2 ^ r = q + 1 := ⟨2 ^ r - 1, by omega⟩
  rw [hq, show nI (q + 1) - 1 = nI q from nI_pred q, bd_ok (e_inI _ _ _), if_pos ((nin (by omega) (by omega) (by omega)).mpr ⟨by omega, by omega⟩)]
  rfl
theorem e_setM_out {I : SI} {t r : Nat} {s : Int32} {l : Nat} (ht : t < 6) (hr : I 0 t = nI r) (h5 : r ≤ 5) (hl : l < 2) (hs : s < 0 ∨ nI (2 ^ r) ≤ s) : f_X9_isSet (nI t) s (nI l) I = some 0 := by
  have := two_le h5
  have hp := pw_pos r
  have q : ¬ (nI l ≤ s ∧ s ≤ nI (2 ^ r) - 1) := by
    rcases out_in (by omega) hs l with q | q | q
    · exact q
    · omega
    · omega
  unfold f_X9_isSet
  rw [gd_in (by omega) (by decide), cl (by omega), hr, shl_r h5, bd_ok (e_inI _ _ _), if_neg q]
  rfl
theorem e_setM_zero {I : SI} {t r : Nat} (ht : t < 6) (hr : I 0 t = nI r) (h5 : r ≤ 5) : f_X9_isSet (nI t) 0 1 I = some 0 := by
  unfold f_X9_isSet
  rw [gd_in (by omega) (by decide), cl (by omega), hr, shl_r h5, bd_ok (e_inI _ _ _), if_neg (fun q => absurd q.1 (by decide))]
  rfl
section O4
variable {Lst : SI → Prop}
theorem ptnp {r : Nat} {N : Nat → Nat} {IB : SI} {id : Nat} (h1 : 1 ≤ r) (h : ∀ i, i < r → IB id i = nI (ptn N i r)) : ∀ i, i < r → IB id i = nI ((fun i => ptn N i r) i) ∧ (fun i => ptn N i r) i < r := fun i hi => ⟨h i hi, ptn_lt N i (by omega)⟩
theorem op_closed (hL : LFr Lst) {IB IM : SI} (h : Rel Lst IB IM) (a b : Int32) : ∃ v IB' IM', f_X8_closed a b IB = some (v, IB') ∧ f_X9_closed a b IM = some (v, IM') ∧ Rel Lst IB' IM' := by
  rcases pick a 6 (by decide) with ⟨t, ht, rfl⟩ | ha
  · obtain ⟨r, N, IB', IM', ho, hB, hM, hB', hM', e1, e2, hR, g1, g2, hp, f1, f2⟩ := op_right hL h ht
    obtain ⟨h1, h5, h9⟩ := id ho
    have h32 := two_le h5
    rcases pick b (2 ^ r) (by omega) with ⟨s, hs, rfl⟩ | hb
    · by_cases h0 : s = 0
      · subst h0
        refine ⟨-2, IB, IM, ?_, ?_, h⟩
        · unfold f_X8_closed
          rw [bd_ok (e_setB_in ht hB.1 h5 hs), if_neg (by decide), if_pos (show nI 0 = 0 from rfl)]
        · unfold f_X9_closed
          rw [bd_ok (e_noTable_in ht), if_pos rfl, bd_ok (show f_X9_isSet (nI t) (nI 0) 1 IM = some 0 from e_setM_zero ht hM.1 h5), if_pos rfl]
      · have es := e_setM_in (l := 1) ht hM.1 h5 hs (by omega)
        have er := e_isRightB ht e1
        by_cases hr : Right r N
        · rw [if_pos hr] at er e2
          have cb := B_clo hB' ho (ptnp h1 (fun i hi => (hp hr i hi).1)) hs
          have cm := M_clo hM' (by omega) ho (ptnp h1 (fun i hi => (hp hr i hi).2)) hs
          refine ⟨if nI (clo N r (fun i => ptn N i r) s) = nI s then 1 else 0, IB', IM', ?_, ?_, hR⟩
          · unfold f_X8_closed
            rw [bd_ok (e_setB_in ht hB.1 h5 hs), if_neg (by decide), if_neg (nI_ne0 (by omega) (by omega)), bd_ok er]
            show (if (1 : Int32) = 0 then _ else gd (nI t < 0 ∨ 6 ≤ (nI t).toNatClampNeg) (bd (f_X5_closure (nI t).toNatClampNeg (nI s) IB') fun r_7 => if r_7 = nI s then some (1, IB') else some (0, IB'))) = _
            rw [if_neg (by decide), gd6 ht, cl (by omega), bd_ok cb]
            by_cases q : nI (clo N r (fun i => ptn N i r) s) = nI s
            · rw [if_pos q, if_pos q]
            · rw [if_neg q, if_neg q]
          · unfold f_X9_closed
            rw [bd_ok (e_noTable_in ht), if_pos rfl, bd_ok (show f_X9_isSet (nI t) (nI s) 1 IM = some 1 from es), if_neg (by decide), bd_ok e2]
            show (if (1 : Int32) = 0 then _ else (bd (f_X9_close (nI t) (nI s) IM') fun r_7 => if r_7 = nI s then some (1, IM') else some (0, IM'))) = _
            rw [if_neg (by decide), bd_ok cm]
            by_cases q : nI (clo N r (fun i => ptn N i r) s) = nI s
            · rw [if_pos q, if_pos q]
            · rw [if_neg q, if_neg q]
        · rw [if_neg hr] at er e2
          refine ⟨-3, IB', IM', ?_, ?_, hR⟩
          · unfold f_X8_closed
            rw [bd_ok (e_setB_in ht hB.1 h5 hs), if_neg (by decide), if_neg (nI_ne0 (by omega) (by omega)), bd_ok er]
            exact if_pos rfl
          · unfold f_X9_closed
            rw [bd_ok (e_noTable_in ht), if_pos rfl, bd_ok (show f_X9_isSet (nI t) (nI s) 1 IM = some 1 from es), if_neg (by decide), bd_ok e2]
            exact if_pos rfl
    · refine ⟨-2, IB, IM, ?_, ?_, h⟩
      · unfold f_X8_closed
        rw [bd_ok (e_setB_out ht hB.1 h5 hb), if_pos rfl]
      · unfold f_X9_closed
        rw [bd_ok (e_noTable_in ht), if_pos rfl, bd_ok (show f_X9_isSet (nI t) b 1 IM = some 0 from e_setM_out (l := 1) ht hM.1 h5 (by decide) hb), if_pos rfl]
  · refine ⟨-2, IB, IM, ?_, ?_, h⟩
    · unfold f_X8_closed f_X8_isSet
      rw [bd_ok (e_isTable_out ha)]
      rfl
    · unfold f_X9_closed
      rw [bd_ok (e_noTable_out ha), if_neg (by decide)]
theorem op_least (hL : LFr Lst) {IB IM : SI} (h : Rel Lst IB IM) (a b : Int32) : ∃ v IB' IM', f_X8_least a b IB = some (v, IB') ∧ f_X9_least a b IM = some (v, IM') ∧ Rel Lst IB' IM' := by
  rcases pick a 6 (by decide) with ⟨t, ht, rfl⟩ | ha
  · obtain ⟨r, N, IB', IM', ho, hB, hM, hB', hM', e1, e2, hR, g1, g2, hp, f1, f2⟩ := op_right hL h ht
    obtain ⟨h1, h5, h9⟩ := id ho
    have h32 := two_le h5
    rcases pick b (2 ^ r) (by omega) with ⟨s, hs, rfl⟩ | hb
    · have es := e_setM_in (l := 0) ht hM.1 h5 hs (by omega)
      have er := e_isRightB ht e1
      by_cases hr : Right r N
      · rw [if_pos hr] at er e2
        have cb := B_clo hB' ho (ptnp h1 (fun i hi => (hp hr i hi).1)) hs
        have cm := M_clo hM' (by omega) ho (ptnp h1 (fun i hi => (hp hr i hi).2)) hs
        refine ⟨nI (clo N r (fun i => ptn N i r) s), IB', IM', ?_, ?_, hR⟩
        · unfold f_X8_least
          rw [bd_ok (e_setB_in ht hB.1 h5 hs), if_neg (by decide), bd_ok er]
          show (if (1 : Int32) = 0 then _ else gd (nI t < 0 ∨ 6 ≤ (nI t).toNatClampNeg) (bd (f_X5_closure (nI t).toNatClampNeg (nI s) IB') fun r_6 => some (r_6, IB'))) = _
          rw [if_neg (by decide), gd6 ht, cl (by omega), bd_ok cb]
        · unfold f_X9_least
          rw [bd_ok (e_noTable_in ht), if_pos rfl, bd_ok (show f_X9_isSet (nI t) (nI s) 0 IM = some 1 from es), if_neg (by decide), bd_ok e2]
          show (if (1 : Int32) = 0 then _ else (bd (f_X9_close (nI t) (nI s) IM') fun r_7 => some (r_7, IM'))) = _
          rw [if_neg (by decide), bd_ok cm]
      · rw [if_neg hr] at er e2
        refine ⟨-3, IB', IM', ?_, ?_, hR⟩
        · unfold f_X8_least
          rw [bd_ok (e_setB_in ht hB.1 h5 hs), if_neg (by decide), bd_ok er]
          exact if_pos rfl
        · unfold f_X9_least
          rw [bd_ok (e_noTable_in ht), if_pos rfl, bd_ok (show f_X9_isSet (nI t) (nI s) 0 IM = some 1 from es), if_neg (by decide), bd_ok e2]
          exact if_pos rfl
    · refine ⟨-2, IB, IM, ?_, ?_, h⟩
      · unfold f_X8_least
        rw [bd_ok (e_setB_out ht hB.1 h5 hb), if_pos rfl]
      · unfold f_X9_least
        rw [bd_ok (e_noTable_in ht), if_pos rfl, bd_ok (show f_X9_isSet (nI t) b 0 IM = some 0 from e_setM_out (l := 0) ht hM.1 h5 (by decide) hb), if_pos rfl]
  · refine ⟨-2, IB, IM, ?_, ?_, h⟩
    · unfold f_X8_least f_X8_isSet
      rw [bd_ok (e_isTable_out ha)]
      rfl
    · unfold f_X9_least
      rw [bd_ok (e_noTable_out ha), if_neg (by decide)]
theorem op_core (hL : LFr Lst) {IB IM : SI} (h : Rel Lst IB IM) (a : Int32) : ∃ v IB' IM', f_X8_core a IB = some (v, IB') ∧ f_X9_core a IM = some (v, IM') ∧ Rel Lst IB' IM' := by
  rcases pick a 6 (by decide) with ⟨t, ht, rfl⟩ | ha
  · obtain ⟨r, N, IB', IM', ho, hB, hM, hB', hM', e1, e2, hR, g1, g2, hp, f1, f2⟩ := op_right hL h ht
    obtain ⟨h1, h5, h9⟩ := id ho
    have er := e_isRightB ht e1
    by_cases hr : Right r N
    · rw [if_pos hr] at er e2
      have cb := B_core hB' ho (ptnp h1 (fun i hi => (hp hr i hi).1))
      have cm := M_core hM' (by omega) ho (ptnp h1 (fun i hi => (hp hr i hi).2))
      refine ⟨nI (coS N r (fun i => ptn N i r)), IB', IM', ?_, ?_, hR⟩
      · unfold f_X8_core
        rw [bd_ok (e_isTable_in ht), if_neg (by decide), bd_ok er]
        show (if (1 : Int32) = 0 then _ else gd (nI t < 0 ∨ 6 ≤ (nI t).toNatClampNeg) (bd (f_X5_innermost (nI t).toNatClampNeg IB') fun r_6 => some (r_6, IB'))) = _
        rw [if_neg (by decide), gd6 ht, cl (by omega), bd_ok cb]
      · unfold f_X9_core
        rw [bd_ok (e_noTable_in ht), if_pos rfl, bd_ok e2]
        show (if (1 : Int32) = 0 then _ else (bd (f_X9_coreOf (nI t) IM') fun r_5 => some (r_5, IM'))) = _
        rw [if_neg (by decide), bd_ok cm]
    · rw [if_neg hr] at er e2
      refine ⟨-3, IB', IM', ?_, ?_, hR⟩
      · unfold f_X8_core
        rw [bd_ok (e_isTable_in ht), if_neg (by decide), bd_ok er]
        exact if_pos rfl
      · unfold f_X9_core
        rw [bd_ok (e_noTable_in ht), if_pos rfl, bd_ok e2]
        exact if_pos rfl
  · refine ⟨-2, IB, IM, ?_, ?_, h⟩
    · unfold f_X8_core
      rw [bd_ok (e_isTable_out ha), if_pos rfl]
    · unfold f_X9_core
      rw [bd_ok (e_noTable_out ha), if_neg (by decide)]
theorem coS_lt {N : Nat → Nat} {r : Nat} {p : Nat → Nat} (h1 : 1 ≤ r) (h5 : r ≤ 5) (hp : ∀ i, i < r → p i < r) : coS N r p < 2 ^ r ∧ (coS N r p).testBit 0 = true := by
  have hc := co_lt (N := N) (p := p) h5
  obtain ⟨q1, q2⟩ := or1 r (by omega) h1 _ hc
  refine ⟨itG_lt h5 hp r _ q1, ?_⟩
  have := itG_sup (N := N) h5 hp r _ q1
  show (itG N r p r (ofP (Co N r p) ||| 1)).testBit 0 = true
  rw [← this, Nat.testBit_or, q2, Bool.true_or]
theorem op_grade (hL : LFr Lst) {IB IM : SI} (h : Rel Lst IB IM) (a b : Int32) : ∃ v IB' IM', f_X8_grade a b IB = some (v, IB') ∧ f_X9_grade a b IM = some (v, IM') ∧ Rel Lst IB' IM' := by
  rcases pick a 6 (by decide) with ⟨t, ht, rfl⟩ | ha
  · obtain ⟨r, N, IB', IM', ho, hB, hM, hB', hM', e1, e2, hR, g1, g2, hp, f1, f2⟩ := op_right hL h ht
    obtain ⟨h1, h5, h9⟩ := id ho
    have h32 := two_le h5
    rcases pick b r (by omega) with ⟨i, hi, rfl⟩ | hb
    · have er := e_isRightB ht e1
      by_cases hr : Right r N
      · rw [if_pos hr] at er e2
        have cb := B_core hB' ho (ptnp h1 (fun i hi => (hp hr i hi).1))
        have cm := M_core hM' (by omega) ho (ptnp h1 (fun i hi => (hp hr i hi).2))
        obtain ⟨c1, c2⟩ := coS_lt (N := N) (p := fun i => ptn N i r) h1 h5 (fun i hi => ptn_lt N i (by omega))
        generalize coS N r (fun i => ptn N i r) = c at cb cm c1 c2
        have hc32 : c < 32 := by omega
        obtain ⟨w, ew, hw⟩ := B_fwa hB' ho hi (Acc.self hc32)
        -- the unit stands in it
        have hu : Unit1 r N := by
          cases q : lw1 r N with
          | none => exact lw1_no q
          | some z =>
            have : (flt r N).1 = 0 := hr
            unfold flt at this
            rw [q] at this
            exact absurd this (by simp)
        have hself : Fw N r i (fun b => c.testBit b = true) i := ⟨hi, 0, by omega, c2, by rw [(hu i i hi hi).2, dl, if_pos rfl]; decide⟩
        -- the least of them
        obtain ⟨g, hg1, hg2⟩ := pk_least (Fw N r i (fun b => c.testBit b = true)) ⟨i, hself⟩
        have hgr : g < r := hg1.1
        refine ⟨nI g, IB', IM', ?_, ?_, hR⟩
        · have ef : f_X5_firstOf w = some (nI g) := by
            have key : ∀ d j n, j + d = g → d + 1 < n → lp_X5_firstOf_2 w n (nI j) = some (0, nI g) := by
              intro d
              induction d with
              | zero =>
                intro j n hj hn
                obtain ⟨m, rfl⟩ : ∃ m, n = m + 1 := ⟨n - 1, by omega⟩
                have e : j = g := by omega
                subst e
                rw [lp_X5_firstOf_2.eq_2, if_neg (show ¬ 5 ≤ nI j from le_nI (a := 5) (by decide) (by omega) (by omega)), bd_ok (holds_yes hw (by omega) hg1), if_neg (by decide)]
              | succ d ih =>
                intro j n hj hn
                obtain ⟨m, rfl⟩ : ∃ m, n = m + 1 := ⟨n - 1, by omega⟩
                rw [lp_X5_firstOf_2.eq_2, if_neg (show ¬ 5 ≤ nI j from le_nI (a := 5) (by decide) (by omega) (by omega)), bd_ok (holds_no hw (by omega) (hg2 j (by omega))), if_pos rfl, show nI j + 1 = nI (j + 1) from nI_1 j]
                exact ih (j + 1) m (by omega) (by omega)
            unfold f_X5_firstOf
            rw [bd_ok (show lp_X5_firstOf_2 w FU 0 = some (0, nI g) from key g 0 FU (Nat.zero_add g) (by unfold FU; omega))]
            rfl
          unfold f_X8_grade
          rw [bd_ok (e_isKindB_in ht hB.1 hi h5), if_neg (by decide), bd_ok er]
          show (if (1 : Int32) = 0 then _ else gd (nI t < 0 ∨ 6 ≤ (nI t).toNatClampNeg) (bd (f_X5_innermost (nI t).toNatClampNeg IB') fun r_6 => gd (nI t < 0 ∨ 6 ≤ (nI t).toNatClampNeg) (bd (f_X5_fusedWithAny (nI t).toNatClampNeg (nI i) r_6 IB') fun r_8 => bd (f_X5_firstOf r_8) fun r_9 => some (r_9, IB')))) = _
          rw [if_neg (by decide), gd6 ht, cl (by omega), bd_ok cb, gd6c ht, bd_ok ew, bd_ok ef]
        · have hs := Acc.self hc32
          have ein : ∀ j v, j < r → lp_X9_grade_60 (nI t) (nI i) (nI c) v (nI j) IM' FU 0 0 = some (nI (bP (Fw N r i (fun b => c.testBit b = true) j))) := by
            intro j v hj
            have key : ∃ o, lp_X9_grade_60 (nI t) (nI i) (nI c) v (nI j) IM' FU 0 (nI 0) = some o ∧ o = nI (bP (Fw N r i (fun b => c.testBit b = true) j)) := by
              refine exLoop (fun m q s => lp_X9_grade_60 (nI t) (nI i) (nI c) v (nI j) IM' m s (nI q)) r (fun q s => s = nI (bP (∃ z, z < q ∧ c.testBit z = true ∧ 0 < nn N i z j))) _ (fun m s q => ?_) (fun m q s hq z => ?_) r 0 FU _ (Nat.zero_add r) (FUlt h5) (by rw [show (∃ z, z < 0 ∧ c.testBit z = true ∧ 0 < nn N i z j) = False from propext ex_lt_zero]; rcases bP_c False with ⟨a, _⟩ | ⟨_, a⟩; exact a.elim; rw [a]; rfl)
              · refine ⟨s, ?_, ?_⟩
                · show lp_X9_grade_60 (nI t) (nI i) (nI c) v (nI j) IM' (m + 1) s (nI r) = _
                  rw [lp_X9_grade_60.eq_2, gd_in (by omega) (by decide), cl (by omega), hM'.1, if_pos (nI_le (Nat.le_refl _) (by omega))]
                · rw [q]
                  congr 2
                  exact propext ⟨fun y => ⟨hj, y⟩, fun y => y.2⟩
              · have e := M_num hM' (show t < 7 by omega) (i := i) (j := q) (k := j) (by omega) (by omega) (by omega)
                have b9 := ho.nn (i := i) (j := q) (k := j) (by omega) (by omega) (by omega)
                have hex : (∃ z, z < q + 1 ∧ c.testBit z = true ∧ 0 < nn N i z j) ↔ ((∃ z, z < q ∧ c.testBit z = true ∧ 0 < nn N i z j) ∨ (c.testBit q = true ∧ 0 < nn N i q j)) := ex_lt_succ
                by_cases ha : ∃ z, z < q ∧ c.testBit z = true ∧ 0 < nn N i z j
                · refine ⟨1, ?_, ?_⟩
                  · have e1 : s = 1 := by
                      rw [z]
                      rcases bP_c (∃ z, z < q ∧ c.testBit z = true ∧ 0 < nn N i z j) with ⟨_, a⟩ | ⟨a, _⟩
                      · rw [a]; rfl
                      · exact absurd ha a
                    show lp_X9_grade_60 (nI t) (nI i) (nI c) v (nI j) IM' (m + 1) s (nI q) = _
                    rw [lp_X9_grade_60.eq_2, gd_in (by omega) (by decide), cl (by omega), hM'.1, if_neg (le_nI (by omega) (by omega) (by omega)), e1, if_neg (by decide), show nI q + 1 = nI (q + 1) from nI_1 q]
                  · rcases bP_c (∃ z, z < q + 1 ∧ c.testBit z = true ∧ 0 < nn N i z j) with ⟨_, a⟩ | ⟨a, _⟩
                    · rw [a]; rfl
                    · exact absurd (hex.mpr (Or.inl ha)) a
                · have e0 : s = 0 := by
                    rw [z]
                    rcases bP_c (∃ z, z < q ∧ c.testBit z = true ∧ 0 < nn N i z j) with ⟨a, _⟩ | ⟨_, a⟩
                    · exact absurd a ha
                    · rw [a]; rfl
                  by_cases hb2 : c.testBit q = true
                  · by_cases hb3 : 0 < nn N i q j
                    · refine ⟨1, ?_, ?_⟩
                      · show lp_X9_grade_60 (nI t) (nI i) (nI c) v (nI j) IM' (m + 1) s (nI q) = _
                        rw [lp_X9_grade_60.eq_2, gd_in (by omega) (by decide), cl (by omega), hM'.1, if_neg (le_nI (by omega) (by omega) (by omega)), e0, if_pos rfl, hs.yes (by omega) hb2, if_pos rfl, bd_ok e, if_neg (nI_nle hb3 (by omega)), show nI q + 1 = nI (q + 1) from nI_1 q]
                      · rcases bP_c (∃ z, z < q + 1 ∧ c.testBit z = true ∧ 0 < nn N i z j) with ⟨_, a⟩ | ⟨a, _⟩
                        · rw [a]; rfl
                        · exact absurd (hex.mpr (Or.inr ⟨hb2, hb3⟩)) a
                    · refine ⟨0, ?_, ?_⟩
                      · show lp_X9_grade_60 (nI t) (nI i) (nI c) v (nI j) IM' (m + 1) s (nI q) = _
                        rw [lp_X9_grade_60.eq_2, gd_in (by omega) (by decide), cl (by omega), hM'.1, if_neg (le_nI (by omega) (by omega) (by omega)), e0, if_pos rfl, hs.yes (by omega) hb2, if_pos rfl, bd_ok e, if_pos (show nI (nn N i q j) ≤ 0 by rw [show nn N i q j = 0 by omega]; decide), show nI q + 1 = nI (q + 1) from nI_1 q]
                      · rcases bP_c (∃ z, z < q + 1 ∧ c.testBit z = true ∧ 0 < nn N i z j) with ⟨a, _⟩ | ⟨_, a⟩
                        · rcases hex.mp a with y | y
                          · exact absurd y ha
                          · exact absurd y.2 hb3
                        · rw [a]; rfl
                  · refine ⟨0, ?_, ?_⟩
                    · show lp_X9_grade_60 (nI t) (nI i) (nI c) v (nI j) IM' (m + 1) s (nI q) = _
                      rw [lp_X9_grade_60.eq_2, gd_in (by omega) (by decide), cl (by omega), hM'.1, if_neg (le_nI (by omega) (by omega) (by omega)), e0, if_pos rfl, hs.no (by omega) hb2, if_neg (by decide), show nI q + 1 = nI (q + 1) from nI_1 q]
                    · rcases bP_c (∃ z, z < q + 1 ∧ c.testBit z = true ∧ 0 < nn N i z j) with ⟨a, _⟩ | ⟨_, a⟩
                      · rcases hex.mp a with y | y
                        · exact absurd y ha
                        · exact absurd y.1 hb2
                      · rw [a]; rfl
            obtain ⟨o, e, q⟩ := key
            rw [← q]
            exact e
          have eout : ∀ d v n, d ≤ r → d < n → ((g < d) ∨ v = nI g) → lp_X9_grade_49 (nI t) (nI i) (nI c) IM' n v (nI d - 1) = some (nI g) := by
            intro d
            induction d with
            | zero =>
              intro v n hd hn hv
              obtain ⟨m, rfl⟩ : ∃ m, n = m + 1 := ⟨n - 1, by omega⟩
              have hv := hv.resolve_left (by omega)
              rw [lp_X9_grade_49.eq_2, if_pos (show nI 0 - 1 < 0 by decide), hv]
            | succ d ih =>
              intro v n hd hn hv
              obtain ⟨m, rfl⟩ : ∃ m, n = m + 1 := ⟨n - 1, by omega⟩
              rw [lp_X9_grade_49.eq_2, show nI (d + 1) - 1 = nI d from nI_pred d, if_neg (nI_pos (by omega)), bd_ok (ein d v (by omega))]
              have em1 : nI d + (-1 : Int32) = nI d - 1 := by
                rw [Int32.sub_eq_add_neg]
              rw [em1]
              rcases bP_c (Fw N r i (fun b => c.testBit b = true) d) with ⟨q, a⟩ | ⟨q, a⟩
              · rw [a, if_neg (by decide)]
                refine ih (nI d) m (by omega) (by omega) ?_
                by_cases w : g < d
                · exact Or.inl w
                · have : g ≤ d := Nat.le_of_not_lt (fun y => hg2 d y q)
                  exact Or.inr (by rw [show d = g by omega])
              · rw [a, if_pos (show nI 0 = 0 from rfl)]
                refine ih v m (by omega) (by omega) ?_
                rcases hv with w | w
                · by_cases y : g = d
                  · rw [y] at hg1; exact absurd hg1 q
                  · exact Or.inl (by omega)
                · exact Or.inr w
          unfold f_X9_grade
          rw [bd_ok (e_noTable_in ht), if_pos rfl, bd_ok (e_isKind_in (by omega) hM.1 hi h5), if_neg (by decide), bd_ok e2]
          show (if (1 : Int32) = 0 then _ else (bd (f_X9_coreOf (nI t) IM') fun r_16 => gd (nI t < 0 ∨ 7 ≤ (nI t).toNatClampNeg) (bd (lp_X9_grade_49 (nI t) (nI i) r_16 IM' FU (nI i) (IM' 0 (nI t).toNatClampNeg - 1)) fun w4_18 => some (w4_18, IM')))) = _
          rw [if_neg (by decide), bd_ok cm, gd_in (by omega) (by decide), cl (by omega), hM'.1, bd_ok (eout r (nI i) FU (Nat.le_refl _) (FUlt h5) (Or.inl hgr))]
      · rw [if_neg hr] at er e2
        refine ⟨-3, IB', IM', ?_, ?_, hR⟩
        · unfold f_X8_grade
          rw [bd_ok (e_isKindB_in ht hB.1 hi h5), if_neg (by decide), bd_ok er]
          exact if_pos rfl
        · unfold f_X9_grade
          rw [bd_ok (e_noTable_in ht), if_pos rfl, bd_ok (e_isKind_in (by omega) hM.1 hi h5), if_neg (by decide), bd_ok e2]
          exact if_pos rfl
    · refine ⟨-2, IB, IM, ?_, ?_, h⟩
      · unfold f_X8_grade
        rw [bd_ok (e_isKindB_out ht hB.1 hb), if_pos rfl]
      · unfold f_X9_grade
        rw [bd_ok (e_noTable_in ht), if_pos rfl, bd_ok (e_isKind_out (by omega) hM.1 hb h1 h5), if_pos rfl]
  · refine ⟨-2, IB, IM, ?_, ?_, h⟩
    · unfold f_X8_grade
      rw [bd_ok (e_isKindB_no ha), if_pos rfl]
    · unfold f_X9_grade
      rw [bd_ok (e_noTable_out ha), if_neg (by decide)]
noncomputable def cntP (P : Nat → Prop) : Nat → Nat
  | 0 => 0
  | j + 1 => cntP P j + (if 1 ≤ j then bP (P j) else 0)
theorem cntP_le (P : Nat → Prop) : ∀ j, cntP P j ≤ j := by
  intro j
  induction j with
  | zero => exact Nat.le_refl _
  | succ j ih =>
    rw [cntP]
    by_cases h : 1 ≤ j
    · rw [if_pos h]
      rcases bP_c (P j) with ⟨_, a⟩ | ⟨_, a⟩ <;> omega
    · rw [if_neg h]; omega
theorem op_within (hL : LFr Lst) {IB IM : SI} (h : Rel Lst IB IM) (a : Int32) : ∃ v IB' IM', f_X8_within a IB = some (v, IB') ∧ f_X9_within a IM = some (v, IM') ∧ Rel Lst IB' IM' := by
  rcases pick a 6 (by decide) with ⟨t, ht, rfl⟩ | ha
  · obtain ⟨r, N, IB', IM', ho, hB, hM, hB', hM', e1, e2, hR, g1, g2, hp, f1, f2⟩ := op_right hL h ht
    obtain ⟨h1, h5, h9⟩ := id ho
    have h32 := two_le h5
    have er := e_isRightB ht e1
    by_cases hr : Right r N
    · rw [if_pos hr] at er e2
      have hpb := ptnp (N := N) h1 (fun i hi => (hp hr i hi).1)
      have hpm := ptnp (N := N) h1 (fun i hi => (hp hr i hi).2)
      have hp2 : ∀ i, i < r → (fun i => ptn N i r) i < r := fun i hi => ptn_lt N i (by omega)
      generalize (fun i => ptn N i r) = p at hpb hpm hp2
      -- closed by both tests
      have same : ∀ s, s < 2 ^ r → (clo N r p s = s ↔ s.testBit 0 = true ∧ gv N r p s = s) := by
        intro s hs
        obtain ⟨q1, q2⟩ := or1 r (by omega) h1 s hs
        constructor
        · intro e
          have hsup := itG_sup (N := N) h5 hp2 r _ q1
          have e' : itG N r p r (s ||| 1) = s := e
          rw [e'] at hsup
          have h0 : s.testBit 0 = true := by rw [← hsup, Nat.testBit_or, q2, Bool.true_or]
          have hfix := itG_r (N := N) h5 hp2 q1 q2
          rw [e'] at hfix
          exact ⟨h0, hfix⟩
        · intro ⟨h0, hfix⟩
          have e1 : s ||| 1 = s := by
            refine bt_eq (by omega) (by omega) (fun i hi => ?_)
            rw [Nat.testBit_or]
            by_cases z : i = 0
            · rw [z, h0, Bool.true_or]
            · have : (1 : Nat).testBit i = false := by
                rcases (show i = 1 ∨ i = 2 ∨ i = 3 ∨ i = 4 by omega) with rfl | rfl | rfl | rfl <;> decide
              rw [this, Bool.or_false]
          show itG N r p r (s ||| 1) = s
          rw [e1]
          exact itG_fix hfix r
      refine ⟨nI (cntP (fun s => clo N r p s = s) (2 ^ r)), IB', IM', ?_, ?_, hR⟩
      · have e : lp_X5_countClosed_4 t IB' FU 0 1 = some (nI (cntP (fun s => clo N r p s = s) (2 ^ r))) := by
          refine upLoop (fun m j => lp_X5_countClosed_4 t IB' m (nI (cntP (fun s => clo N r p s = s) j)) (nI j)) (2 ^ r) _ (fun m => ?_) (fun m j hj => ?_) (2 ^ r - 1) 1 FU (by have := pw_pos r; omega) (by unfold FU; omega)
          · show lp_X5_countClosed_4 t IB' (m + 1) _ (nI (2 ^ r)) = _
            rw [lp_X5_countClosed_4.eq_2, hB'.1, shl_r h5, if_pos (nI_le (Nat.le_refl _) (by omega))]
          · show lp_X5_countClosed_4 t IB' (m + 1) (nI (cntP (fun s => clo N r p s = s) j)) (nI j) = lp_X5_countClosed_4 t IB' m (nI (cntP (fun s => clo N r p s = s) (j + 1))) (nI (j + 1))
            have hcn : cntP (fun s => clo N r p s = s) (j + 1) = cntP (fun s => clo N r p s = s) j + (if 1 ≤ j then bP (clo N r p j = j) else 0) := rfl
            rw [lp_X5_countClosed_4.eq_2, hB'.1, shl_r h5, if_neg (le_nI (by omega) (by omega) (by omega)), hcn, show nI j + 1 = nI (j + 1) from nI_1 j]
            by_cases b0 : j.testBit 0 = true
            · have hj1 : 1 ≤ j := by
                rcases Nat.eq_zero_or_pos j with z | z
                · rw [z] at b0; simp at b0
                · exact z
              rw [if_neg (fun z => by rw [(bt_and1 j (by omega)).mp z] at b0; cases b0), bd_ok (B_grow1 hB' ho hpb (by omega)), if_pos hj1]
              by_cases q : gv N r p j = j
              · rw [if_pos (by rw [q])]
                rcases bP_c (clo N r p j = j) with ⟨_, a⟩ | ⟨a, _⟩
                · rw [a, n1, nI_add]
                · exact absurd ((same j hj).mpr ⟨b0, q⟩) a
              · have hg := gv_lt (N := N) h5 hp2 hj
                rw [if_neg (eq_nI (by omega) (by omega) q)]
                rcases bP_c (clo N r p j = j) with ⟨a, _⟩ | ⟨_, a⟩
                · exact absurd ((same j hj).mp a).2 q
                · rw [a]; rfl
            · have b0 : j.testBit 0 = false := by cases z : j.testBit 0; rfl; exact absurd z b0
              rw [if_pos ((bt_and1 j (by omega)).mpr b0)]
              have z0 : (if 1 ≤ j then bP (clo N r p j = j) else 0) = 0 := by
                by_cases w : 1 ≤ j
                · rw [if_pos w]
                  rcases bP_c (clo N r p j = j) with ⟨a, _⟩ | ⟨_, a⟩
                  · have := ((same j hj).mp a).1
                    rw [b0] at this; cases this
                  · exact a
                · rw [if_neg w]
              rw [z0]; rfl
        unfold f_X8_within f_X5_countClosed
        rw [bd_ok (e_isTable_in ht), if_neg (by decide), bd_ok er]
        show (if (1 : Int32) = 0 then _ else gd (nI t < 0 ∨ 6 ≤ (nI t).toNatClampNeg) (bd (bd (lp_X5_countClosed_4 (nI t).toNatClampNeg IB' FU 0 1) fun w2_5 => some w2_5) fun r_6 => some (r_6, IB'))) = _
        rw [if_neg (by decide), gd6 ht, cl (by omega), bd_ok e]
        rfl
      · have e : lp_X9_within_25 (nI t) IM' FU 0 1 = some (nI (cntP (fun s => clo N r p s = s) (2 ^ r))) := by
          refine upLoop (fun m j => lp_X9_within_25 (nI t) IM' m (nI (cntP (fun s => clo N r p s = s) j)) (nI j)) (2 ^ r) _ (fun m => ?_) (fun m j hj => ?_) (2 ^ r - 1) 1 FU (by have := pw_pos r; omega) (by unfold FU; omega)
          · show lp_X9_within_25 (nI t) IM' (m + 1) _ (nI (2 ^ r)) = _
            rw [lp_X9_within_25.eq_2, gd_in (by omega) (by decide), cl (by omega), hM'.1, shl_r h5, if_pos (nI_le (Nat.le_refl _) (by omega))]
          · show lp_X9_within_25 (nI t) IM' (m + 1) (nI (cntP (fun s => clo N r p s = s) j)) (nI j) = lp_X9_within_25 (nI t) IM' m (nI (cntP (fun s => clo N r p s = s) (j + 1))) (nI (j + 1))
            have hcn : cntP (fun s => clo N r p s = s) (j + 1) = cntP (fun s => clo N r p s = s) j + (if 1 ≤ j then bP (clo N r p j = j) else 0) := rfl
            have hcl : clo N r p j < 2 ^ r := itG_lt h5 hp2 r _ (or1 r (by omega) h1 j hj).1
            rw [lp_X9_within_25.eq_2, gd_in (by omega) (by decide), cl (by omega), hM'.1, shl_r h5, if_neg (le_nI (by omega) (by omega) (by omega)), bd_ok (M_clo hM' (by omega) ho hpm hj), hcn, show nI j + 1 = nI (j + 1) from nI_1 j]
            by_cases hj1 : 1 ≤ j
            · rw [if_pos hj1]
              rcases bP_c (clo N r p j = j) with ⟨q, a⟩ | ⟨q, a⟩
              · rw [if_pos (by rw [q]), a, n1, nI_add]
              · rw [if_neg (eq_nI (by omega) (by omega) q), a, n0, nI_add]
            · have e0 : j = 0 := by omega
              subst e0
              have q : ¬ clo N r p 0 = 0 := fun z => by have := ((same 0 hj).mp z).1; simp at this
              rw [if_neg (eq_nI (by omega) (by omega) q), if_neg (show ¬ 1 ≤ 0 by decide), n0, nI_add]
        unfold f_X9_within
        rw [bd_ok (e_noTable_in ht), if_pos rfl, bd_ok e2]
        show (if (1 : Int32) = 0 then _ else (bd (lp_X9_within_25 (nI t) IM' FU 0 1) fun w2_9 => some (w2_9, IM'))) = _
        rw [if_neg (by decide), bd_ok e]
    · rw [if_neg hr] at er e2
      refine ⟨-3, IB', IM', ?_, ?_, hR⟩
      · unfold f_X8_within
        rw [bd_ok (e_isTable_in ht), if_neg (by decide), bd_ok er]
        exact if_pos rfl
      · unfold f_X9_within
        rw [bd_ok (e_noTable_in ht), if_pos rfl, bd_ok e2]
        exact if_pos rfl
  · refine ⟨-2, IB, IM, ?_, ?_, h⟩
    · unfold f_X8_within
      rw [bd_ok (e_isTable_out ha), if_pos rfl]
    · unfold f_X9_within
      rw [bd_ok (e_noTable_out ha), if_neg (by decide)]
end O4
