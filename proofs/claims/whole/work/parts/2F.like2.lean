/-! LIKE, the reference, and the call -/
/-- the naming of the number x -/
def nmx (r x : Nat) : Nat → Nat := fun i => if i = 0 then 0 else x / r ^ (i - 1) % r
def usx (r x : Nat) : Nat → Nat
  | 0 => 1
  | i + 1 => if i = 0 then 1 else usx r x i ||| 2 ^ (nmx r x i)
theorem usx_lt {r : Nat} (h1 : 1 ≤ r) (h5 : r ≤ 5) (x : Nat) : ∀ i, usx r x i < 32 := by
  intro i
  induction i with
  | zero => show 1 < 32; decide
  | succ i ih =>
    rw [usx]
    by_cases h : i = 0
    · rw [if_pos h]; decide
    · rw [if_neg h]
      have : nmx r x i < r := by unfold nmx; rw [if_neg h]; exact Nat.mod_lt _ h1
      exact Nat.or_lt_two_pow (n := 5) ih (show 2 ^ nmx r x i < 2 ^ 5 from Nat.pow_lt_pow_right (by decide) (by omega))
theorem M_naming {r x : Nat} (h1 : 1 ≤ r) (h5 : r ≤ 5) (hx : x < 1000) (I : SI) : ∃ I', f_X9_layNaming (nI r) (nI x) I = some ((if usx r x r = 2 ^ r - 1 then 1 else 0), I') ∧ Fr [9] I I' ∧ ∀ i, i < r → I' 9 i = nI (nmx r x i) := by
  have hdiv : ∀ i, x / r ^ i < 1000 := fun i => Nat.lt_of_le_of_lt (Nat.div_le_self _ _) hx
  have e : ∃ o, lp_X9_layNaming_15 (nI r) FU (nI x) 1 (nI 1) (ups I 9 0 0) = some o ∧ o.1 = nI (usx r x r) ∧ Fr [9] I o.2 ∧ ∀ i, i < r → o.2 9 i = nI (nmx r x i) := by
    refine exLoop (fun m i (s : Int32 × Int32 × SI) => lp_X9_layNaming_15 (nI r) m s.1 s.2.1 (nI i) s.2.2) r (fun i s => (s.1 = nI (x / r ^ (i - 1)) ∧ s.2.1 = nI (usx r x i) ∧ Fr [9] I s.2.2 ∧ ∀ q, q < i → s.2.2 9 q = nI (nmx r x q)) ∧ 1 ≤ i) _ (fun m s q => ?_) (fun m i s hi q => ?_) (r - 1) 1 FU (nI x, 1, ups I 9 0 0) (by omega) (by unfold FU; omega) ⟨⟨by show nI x = nI (x / r ^ (1 - 1)); rw [Nat.sub_self, Nat.pow_zero, Nat.div_one], rfl, Fr.rf.ups (by simp), fun q hq => by
      have e0 : q = 0 := by omega
      subst e0
      show ups I 9 0 0 9 0 = nI (nmx r x 0)
      rw [ups_same]
      rfl⟩, Nat.le_refl _⟩
    · refine ⟨(s.2.1, s.2.2), ?_, q.1.2.1, q.1.2.2.1, q.1.2.2.2⟩
      show lp_X9_layNaming_15 (nI r) (m + 1) s.1 s.2.1 (nI r) s.2.2 = _
      rw [lp_X9_layNaming_15.eq_2, if_pos (nI_le (Nat.le_refl _) (by omega))]
    · obtain ⟨v, u, Is⟩ := s
      obtain ⟨⟨q1, q2, q3, q4⟩, qi⟩ := q
      have q1 : v = _ := q1
      have q2 : u = _ := q2
      have q3 : Fr [9] I Is := q3
      have hd := hdiv (i - 1)
      have hm : nmx r x i = x / r ^ (i - 1) % r := by unfold nmx; rw [if_neg (by omega)]
      have hmr : nmx r x i < r := by rw [hm]; exact Nat.mod_lt _ h1
      refine ⟨(nI (x / r ^ (i - 1) / r), nI (usx r x (i + 1)), ups Is 9 i (nI (nmx r x i))), ?_, ⟨?_, rfl, q3.ups (by simp), fun q hq => ?_⟩, by omega⟩
      · show lp_X9_layNaming_15 (nI r) (m + 1) v u (nI i) Is = _
        rw [lp_X9_layNaming_15.eq_2, if_neg (le_nI (by omega) (by omega) (by omega)), gd_nz h1 (by omega), gd_in (show i < 5 by omega) (by decide), gd_nz h1 (by omega), gd_in (show i < 5 by omega) (by decide), cl (show i < 2 ^ 31 by omega), q1, pk_rem (by omega) h1 (by omega), pk_div (by omega) h1 (by omega), ups_same, q2, ← hm, bt_shl _ (by omega), bt_or _ (usx_lt h1 h5 x i) _ (show 2 ^ nmx r x i < 2 ^ 5 from Nat.pow_lt_pow_right (by decide) (by omega)), show nI i + 1 = nI (i + 1) from nI_1 i, usx, if_neg (show ¬ i = 0 by omega)]
      · show nI (x / r ^ (i - 1) / r) = nI (x / r ^ (i + 1 - 1))
        rw [Nat.div_div_eq_div_mul, ← Nat.pow_succ, show (i - 1).succ = i + 1 - 1 by omega]
      · show ups Is 9 i (nI (nmx r x i)) 9 q = _
        rw [ups_at]
        by_cases w : q = i
        · rw [if_pos w, w]
        · rw [if_neg w]; exact q4 q (by omega)
  obtain ⟨⟨u, I'⟩, e, q1, q2, q3⟩ := e
  have q1 : u = _ := q1
  refine ⟨I', ?_, q2, q3⟩
  unfold f_X9_layNaming
  have hp := pw_pos r
  have h32 := two_le h5
  have hu := usx_lt h1 h5 x r
  obtain ⟨k, hk⟩ : ∃ k, 2 ^ r = k + 1 := ⟨2 ^ r - 1, by omega⟩
  rw [bd_ok (show lp_X9_layNaming_15 (nI r) FU (nI x) 1 1 (ups I 9 (0 : Int32).toNatClampNeg 0) = some (u, I') from e), q1]
  show (if nI (usx r x r) = ((1 : Int32) <<< (nI r &&& 31)) - 1 then some (1, I') else some (0, I')) = _
  rw [shl_r h5, hk, show nI (k + 1) - 1 = nI k from nI_pred k, show k + 1 - 1 = k by omega]
  by_cases q : usx r x r = k
  · rw [if_pos (by rw [q]), if_pos q]
  · rw [if_neg (eq_nI (by omega) (by omega) q), if_neg q]
theorem M_isLike {I : SI} {a b r : Nat} {N N' : Nat → Nat} (h : TM I a r N) (h' : TM I b r N') (ha : a < 7) (hb : b < 7) (ho : OKT r N) (ho' : OKT r N') {nm : Nat → Nat} (hn : ∀ i, i < r → I 9 i = nI (nm i) ∧ nm i < r) : f_X9_isLike (nI a) (nI b) I = some (nI (bP (Lk r N N' nm))) := by
  obtain ⟨h1, h5, h9⟩ := id ho
  have b1 : ∀ P : Prop, P → bP P = 1 := fun P p => by
    rcases bP_c P with ⟨_, e⟩ | ⟨e, _⟩
    · exact e
    · exact absurd p e
  have b0 : ∀ P : Prop, ¬ P → bP P = 0 := fun P p => by
    rcases bP_c P with ⟨e, _⟩ | ⟨_, e⟩
    · exact absurd e p
    · exact e
  have e1 : ∀ i j, i < r → j < r → ∀ P : Prop, lp_X9_isLike_33 (nI a) (nI b) (nI i) (nI j) I FU (nI (bP P)) 0 = some (nI (bP (P ∧ ∀ k, k < r → nn N i j k = nn N' (nm i) (nm j) (nm k)))) := by
    intro i j hi hj P
    have key : ∃ o, lp_X9_isLike_33 (nI a) (nI b) (nI i) (nI j) I FU (nI (bP P)) (nI 0) = some o ∧ o = nI (bP (P ∧ ∀ k, k < r → nn N i j k = nn N' (nm i) (nm j) (nm k))) := by
      refine exLoop (fun m k s => lp_X9_isLike_33 (nI a) (nI b) (nI i) (nI j) I m s (nI k)) r (fun k s => s = nI (bP (P ∧ ∀ q, q < k → nn N i j q = nn N' (nm i) (nm j) (nm q)))) _ (fun m s q => ?_) (fun m k s hk q => ?_) r 0 FU _ (Nat.zero_add r) (FUlt h5) (by congr 2; exact propext ⟨fun p => ⟨p, fun q hq => by omega⟩, fun p => p.1⟩)
      · refine ⟨s, ?_, q⟩
        show lp_X9_isLike_33 (nI a) (nI b) (nI i) (nI j) I (m + 1) s (nI r) = _
        rw [lp_X9_isLike_33.eq_2, gd_in ha (by decide), cl (by omega), h.1, if_pos (nI_le (Nat.le_refl _) (by omega))]
      · obtain ⟨c1, d1⟩ := hn i hi
        obtain ⟨c2, d2⟩ := hn j hj
        obtain ⟨c3, d3⟩ := hn k hk
        have e := M_num h ha (i := i) (j := j) (k := k) (by omega) (by omega) (by omega)
        have e' := M_num h' hb (i := nm i) (j := nm j) (k := nm k) (by omega) (by omega) (by omega)
        have y1 := ho.nn (i := i) (j := j) (k := k) (by omega) (by omega) (by omega)
        have y2 := ho'.nn (i := nm i) (j := nm j) (k := nm k) (by omega) (by omega) (by omega)
        by_cases hp : P ∧ ∀ q, q < k → nn N i j q = nn N' (nm i) (nm j) (nm q)
        · have q : s = nI 1 := by rw [q, b1 _ hp]
          by_cases z : nn N i j k = nn N' (nm i) (nm j) (nm k)
          · refine ⟨1, ?_, ?_⟩
            · show lp_X9_isLike_33 (nI a) (nI b) (nI i) (nI j) I (m + 1) s (nI k) = _
              rw [lp_X9_isLike_33.eq_2, gd_in ha (by decide), cl (show a < 2 ^ 31 by omega), h.1, if_neg (le_nI (by omega) (by omega) (by omega)), q, if_neg (show ¬ nI 1 = 0 by decide), bd_ok e, gd_in (show i < 5 by omega) (by decide), gd_in (show j < 5 by omega) (by decide), gd_in (show k < 5 by omega) (by decide), cl (show i < 2 ^ 31 by omega), cl (show j < 2 ^ 31 by omega), cl (show k < 2 ^ 31 by omega), c1, c2, c3, bd_ok e', if_pos (by rw [z]), show nI k + 1 = nI (k + 1) from nI_1 k]
            · rw [b1 _ ⟨hp.1, fun w hw => if y : w = k then by rw [y]; exact z else hp.2 w (by omega)⟩]; rfl
          · refine ⟨0, ?_, ?_⟩
            · show lp_X9_isLike_33 (nI a) (nI b) (nI i) (nI j) I (m + 1) s (nI k) = _
              rw [lp_X9_isLike_33.eq_2, gd_in ha (by decide), cl (show a < 2 ^ 31 by omega), h.1, if_neg (le_nI (by omega) (by omega) (by omega)), q, if_neg (show ¬ nI 1 = 0 by decide), bd_ok e, gd_in (show i < 5 by omega) (by decide), gd_in (show j < 5 by omega) (by decide), gd_in (show k < 5 by omega) (by decide), cl (show i < 2 ^ 31 by omega), cl (show j < 2 ^ 31 by omega), cl (show k < 2 ^ 31 by omega), c1, c2, c3, bd_ok e', if_neg (eq_nI (by omega) (by omega) z), show nI k + 1 = nI (k + 1) from nI_1 k]
            · rw [b0 _ (fun w => z (w.2 k (by omega)))]; rfl
        · have q : s = nI 0 := by rw [q, b0 _ hp]
          refine ⟨0, ?_, ?_⟩
          · show lp_X9_isLike_33 (nI a) (nI b) (nI i) (nI j) I (m + 1) s (nI k) = _
            rw [lp_X9_isLike_33.eq_2, gd_in ha (by decide), cl (show a < 2 ^ 31 by omega), h.1, if_neg (le_nI (by omega) (by omega) (by omega)), q, if_pos (show nI 0 = 0 from rfl), show nI k + 1 = nI (k + 1) from nI_1 k]
          · rw [b0 _ (fun w => hp ⟨w.1, fun z hz => w.2 z (by omega)⟩)]; rfl
    obtain ⟨o, e, q⟩ := key
    rw [← q]
    exact e
  have e2 : ∀ i, i < r → ∀ P : Prop, lp_X9_isLike_19 (nI a) (nI b) (nI i) I FU (nI (bP P)) 0 = some (nI (bP (P ∧ ∀ j, j < r → ∀ k, k < r → nn N i j k = nn N' (nm i) (nm j) (nm k)))) := by
    intro i hi P
    have key : ∃ o, lp_X9_isLike_19 (nI a) (nI b) (nI i) I FU (nI (bP P)) (nI 0) = some o ∧ o = nI (bP (P ∧ ∀ j, j < r → ∀ k, k < r → nn N i j k = nn N' (nm i) (nm j) (nm k))) := by
      refine exLoop (fun m j s => lp_X9_isLike_19 (nI a) (nI b) (nI i) I m s (nI j)) r (fun j s => s = nI (bP (P ∧ ∀ q, q < j → ∀ k, k < r → nn N i q k = nn N' (nm i) (nm q) (nm k)))) _ (fun m s q => ?_) (fun m j s hj q => ?_) r 0 FU _ (Nat.zero_add r) (FUlt h5) (by congr 2; exact propext ⟨fun p => ⟨p, fun q hq => by omega⟩, fun p => p.1⟩)
      · refine ⟨s, ?_, q⟩
        show lp_X9_isLike_19 (nI a) (nI b) (nI i) I (m + 1) s (nI r) = _
        rw [lp_X9_isLike_19.eq_2, gd_in ha (by decide), cl (by omega), h.1, if_pos (nI_le (Nat.le_refl _) (by omega))]
      · refine ⟨nI (bP ((P ∧ ∀ q, q < j → ∀ k, k < r → nn N i q k = nn N' (nm i) (nm q) (nm k)) ∧ ∀ k, k < r → nn N i j k = nn N' (nm i) (nm j) (nm k))), ?_, ?_⟩
        · show lp_X9_isLike_19 (nI a) (nI b) (nI i) I (m + 1) s (nI j) = _
          rw [lp_X9_isLike_19.eq_2, gd_in ha (by decide), cl (by omega), h.1, if_neg (le_nI (by omega) (by omega) (by omega)), q, bd_ok (e1 i j hi hj _), show nI j + 1 = nI (j + 1) from nI_1 j]
        · congr 2
          exact propext ⟨fun w => ⟨w.1.1, fun z hz => if y : z = j then by rw [y]; exact w.2 else w.1.2 z (by omega)⟩, fun w => ⟨⟨w.1, fun z hz => w.2 z (by omega)⟩, w.2 j (by omega)⟩⟩
    obtain ⟨o, e, q⟩ := key
    rw [← q]
    exact e
  have e3 : lp_X9_isLike_5 (nI a) (nI b) I FU 1 0 = some (nI (bP (Lk r N N' nm))) := by
    have key : ∃ o, lp_X9_isLike_5 (nI a) (nI b) I FU (nI (bP True)) (nI 0) = some o ∧ o = nI (bP (Lk r N N' nm)) := by
      refine exLoop (fun m i s => lp_X9_isLike_5 (nI a) (nI b) I m s (nI i)) r (fun i s => s = nI (bP (∀ q, q < i → ∀ j, j < r → ∀ k, k < r → nn N q j k = nn N' (nm q) (nm j) (nm k)))) _ (fun m s q => ?_) (fun m i s hi q => ?_) r 0 FU _ (Nat.zero_add r) (FUlt h5) (by congr 2; exact propext ⟨fun _ q hq => by omega, fun _ => trivial⟩)
      · refine ⟨s, ?_, q⟩
        show lp_X9_isLike_5 (nI a) (nI b) I (m + 1) s (nI r) = _
        rw [lp_X9_isLike_5.eq_2, gd_in ha (by decide), cl (by omega), h.1, if_pos (nI_le (Nat.le_refl _) (by omega))]
      · refine ⟨nI (bP ((∀ q, q < i → ∀ j, j < r → ∀ k, k < r → nn N q j k = nn N' (nm q) (nm j) (nm k)) ∧ ∀ j, j < r → ∀ k, k < r → nn N i j k = nn N' (nm i) (nm j) (nm k))), ?_, ?_⟩
        · show lp_X9_isLike_5 (nI a) (nI b) I (m + 1) s (nI i) = _
          rw [lp_X9_isLike_5.eq_2, gd_in ha (by decide), cl (by omega), h.1, if_neg (le_nI (by omega) (by omega) (by omega)), q, bd_ok (e2 i hi _), show nI i + 1 = nI (i + 1) from nI_1 i]
        · congr 2
          exact propext ⟨fun w z hz => if y : z = i then by rw [y]; exact w.2 else w.1 z (by omega), fun w => ⟨fun z hz => w z (by omega), w i (by omega)⟩⟩
    obtain ⟨o, e, q⟩ := key
    rw [b1 True trivial] at e
    rw [← q]
    exact e
  unfold f_X9_isLike
  rw [bd_ok e3]
  rcases bP_c (Lk r N N' nm) with ⟨_, e⟩ | ⟨_, e⟩
  · rw [e]; rfl
  · rw [e]; rfl
def dgx (r x : Nat) : List Nat := (List.range (r - 1)).map (fun q => x / r ^ q % r)
def QM (r : Nat) : List (List Nat) := (List.range (r ^ (r - 1))).flatMap (fun x => if usx r x r = 2 ^ r - 1 then [dgx r x] else [])
theorem PQ_perm : ∀ r, r < 6 → 1 ≤ r → (PB r 6 1 1).Perm (QM r) := by decide +kernel
theorem nm_dgx {r x i : Nat} (hi : i < r) : nmx r x i = app (fun _ => 0) 1 (dgx r x) i := by
  unfold nmx app
  by_cases h : i = 0
  · rw [if_pos h, if_pos (by omega)]
  · rw [if_neg h, if_neg (by omega)]
    unfold dgx
    rw [List.getD_eq_getElem?_getD, List.getElem?_map, List.getElem?_range (by omega)]
    rfl
theorem cnt_same {r : Nat} (h1 : 1 ≤ r) (h5 : r ≤ 5) {f : (Nat → Nat) → Nat} (hf : ∀ nm nm', (∀ i, i < r → nm i = nm' i) → f nm = f nm') : cF r f 6 1 1 (fun _ => 0) = sN (fun x => if usx r x r = 2 ^ r - 1 then f (nmx r x) else 0) (r ^ (r - 1)) := by
  rw [cF_list hf, sumL_perm _ (PQ_perm r (by omega) h1)]
  unfold QM
  rw [sumL_range]
  congr 1
  funext x
  by_cases q : usx r x r = 2 ^ r - 1
  · rw [if_pos q, if_pos q, sumL, sumL, Nat.add_zero]
    exact hf _ _ (fun i hi => (nm_dgx hi).symm)
  · rw [if_neg q, if_neg q]; rfl
theorem op_like {Lst : SI → Prop} (hL : LFr Lst) {IB IM : SI} (h : Rel Lst IB IM) (a b : Int32) : ∃ v IB' IM', f_X8_like a b IB = some (v, IB') ∧ f_X9_like a b IM = some (v, IM') ∧ Rel Lst IB' IM' := by
  rcases pick a 6 (by decide) with ⟨u, hu, rfl⟩ | ha
  · rcases pick b 6 (by decide) with ⟨t, ht, rfl⟩ | hb
    · obtain ⟨r, N, ho, hB, hM⟩ := h.1 u hu
      obtain ⟨r', N', ho', hB', hM'⟩ := h.1 t ht
      obtain ⟨h1, h5, h9⟩ := id ho
      have h5' := ho'.2.1
      by_cases hr : r = r'
      · subst hr
        obtain ⟨I', e, f1, k1⟩ := B_cnt (x := u) (y := t) (by omega) (by omega) ho ho' 6 1 1 (fun _ => 0) IB hB hB' (Nat.le_refl _) h1 (by omega) (by decide) (fun i hi => by
          have e0 : i = 0 := by omega
          subst e0
          exact ⟨h.2.2.1, by show 0 < r; omega⟩)
        rw [cnt_same h1 h5 (fun nm nm' q => Lk_congr q)] at e
        have hpw : r ^ (r - 1) ≤ 625 := by
          rcases (show r = 1 ∨ r = 2 ∨ r = 3 ∨ r = 4 ∨ r = 5 by omega) with rfl | rfl | rfl | rfl | rfl <;> decide
        have em1 : lp_X9_like_42 (nI u) (nI t) (nI r) FU 1 1 = some (nI (r ^ (r - 1))) := by
          refine upLoop (fun m i => lp_X9_like_42 (nI u) (nI t) (nI r) m (nI (r ^ i)) (nI (i + 1))) (r - 1) _ (fun m => ?_) (fun m i hi => ?_) (r - 1) 0 FU (by omega) (by unfold FU; omega)
          · show lp_X9_like_42 (nI u) (nI t) (nI r) (m + 1) (nI (r ^ (r - 1))) (nI (r - 1 + 1)) = _
            rw [lp_X9_like_42.eq_2, if_pos (nI_le (by omega) (by omega))]
          · show lp_X9_like_42 (nI u) (nI t) (nI r) (m + 1) (nI (r ^ i)) (nI (i + 1)) = lp_X9_like_42 (nI u) (nI t) (nI r) m (nI (r ^ (i + 1))) (nI (i + 1 + 1))
            rw [lp_X9_like_42.eq_2, if_neg (le_nI (by omega) (by omega) (by omega)), pk_mul, ← Nat.pow_succ, show nI (i + 1) + 1 = nI (i + 1 + 1) from nI_1 (i + 1)]
        have em2 : ∃ o, lp_X9_like_66 (nI u) (nI t) (nI r) (nI (r ^ (r - 1))) FU 0 (nI 0) IM = some o ∧ o.1 = nI (sN (fun x => if usx r x r = 2 ^ r - 1 then bP (Lk r N N' (nmx r x)) else 0) (r ^ (r - 1))) ∧ Fr [9] IM o.2 := by
          refine exLoop (fun m x (s : Int32 × SI) => lp_X9_like_66 (nI u) (nI t) (nI r) (nI (r ^ (r - 1))) m s.1 (nI x) s.2) (r ^ (r - 1)) (fun x s => s.1 = nI (sN (fun x => if usx r x r = 2 ^ r - 1 then bP (Lk r N N' (nmx r x)) else 0) x) ∧ Fr [9] IM s.2) _ (fun m s q => ?_) (fun m x s hx q => ?_) (r ^ (r - 1)) 0 FU (0, IM) (Nat.zero_add _) (by unfold FU; omega) ⟨rfl, Fr.rf⟩
          · refine ⟨s, ?_, q⟩
            show lp_X9_like_66 (nI u) (nI t) (nI r) (nI (r ^ (r - 1))) (m + 1) s.1 (nI (r ^ (r - 1))) s.2 = _
            rw [lp_X9_like_66.eq_2, if_pos (nI_le (Nat.le_refl _) (by omega))]
          · obtain ⟨v, Is⟩ := s
            obtain ⟨q1, q2⟩ := q
            have q1 : v = _ := q1
            have q2 : Fr [9] IM Is := q2
            obtain ⟨I2, e2, f2, k2⟩ := M_naming (x := x) h1 h5 (by omega) Is
            have hm1 := hM.fr (q2.trans f2) (by decide) (by decide)
            have hm2 := hM'.fr (q2.trans f2) (by decide) (by decide)
            have hnm : ∀ i, i < r → I2 9 i = nI (nmx r x i) ∧ nmx r x i < r := fun i hi => ⟨k2 i hi, by
              unfold nmx
              by_cases z : i = 0
              · rw [if_pos z]; omega
              · rw [if_neg z]; exact Nat.mod_lt _ h1⟩
            have el := M_isLike hm1 hm2 (by omega) (by omega) ho ho' hnm
            by_cases z : usx r x r = 2 ^ r - 1
            · rw [if_pos z] at e2
              refine ⟨(v + nI (bP (Lk r N N' (nmx r x))), I2), ?_, ?_, q2.trans f2⟩
              · show lp_X9_like_66 (nI u) (nI t) (nI r) (nI (r ^ (r - 1))) (m + 1) v (nI x) Is = _
                rw [lp_X9_like_66.eq_2, if_neg (le_nI (by omega) (by omega) (by omega)), bd_ok e2]
                show (if (1 : Int32) = 0 then _ else (bd (f_X9_isLike (nI u) (nI t) I2) fun r_5 => if r_5 = 0 then lp_X9_like_66 (nI u) (nI t) (nI r) (nI (r ^ (r - 1))) m (v + 0) (nI x + 1) I2 else lp_X9_like_66 (nI u) (nI t) (nI r) (nI (r ^ (r - 1))) m (v + 1) (nI x + 1) I2)) = _
                rw [if_neg (by decide), bd_ok el, show nI x + 1 = nI (x + 1) from nI_1 x]
                rcases bP_c (Lk r N N' (nmx r x)) with ⟨_, w⟩ | ⟨_, w⟩
                · rw [w, if_neg (show ¬ nI 1 = 0 by decide)]; rfl
                · rw [w, if_pos (show nI 0 = 0 from rfl)]; rfl
              · show v + _ = _
                rw [sN, if_pos z, q1, nI_add]
            · rw [if_neg z] at e2
              refine ⟨(v + 0, I2), ?_, ?_, q2.trans f2⟩
              · show lp_X9_like_66 (nI u) (nI t) (nI r) (nI (r ^ (r - 1))) (m + 1) v (nI x) Is = _
                rw [lp_X9_like_66.eq_2, if_neg (le_nI (by omega) (by omega) (by omega)), bd_ok e2, show nI x + 1 = nI (x + 1) from nI_1 x]
                exact if_pos rfl
              · show v + 0 = _
                rw [sN, if_neg z, q1, n0, nI_add]
        obtain ⟨⟨v, IM2⟩, em2, q1, q2⟩ := em2
        have q1 : v = _ := q1
        refine ⟨v, I', IM2, ?_, ?_, ?_⟩
        · unfold f_X8_like f_X3_count
          rw [bd_ok (e_isTable_in hu), if_neg (by decide), bd_ok (e_isTable_in ht), if_neg (by decide), gd6 hu, gd6 ht, cl (by omega), cl (by omega), hB.1, hB'.1, if_pos rfl, bd_ok (show f_X3_countFrom u t 6 1 1 IB = _ from e), q1]
          rfl
        · unfold f_X9_like
          rw [bd_ok (e_noTable_in hu), if_pos rfl, bd_ok (e_noTable_in ht), if_pos rfl, gd_in (show u < 7 by omega) (by decide), gd_in (show t < 7 by omega) (by decide), cl (show u < 2 ^ 31 by omega), cl (show t < 2 ^ 31 by omega), hM.1, hM'.1, if_pos rfl, bd_ok em1, bd_ok (show lp_X9_like_66 (nI u) (nI t) (nI r) (nI (r ^ (r - 1))) FU 0 0 IM = some (v, IM2) from em2)]
        · have hR : Rel Lst I' IM := by
            obtain ⟨g1, ⟨n, w1, w2, w3, w4⟩, g3, g4⟩ := h
            refine ⟨fun z hz => ?_, ⟨n, w1, ?_, w3, fun j hj => ?_⟩, ?_, hL IB I' (fun k hk => f1 k (fun y => by simp at y; subst y; simp at hk)) g4⟩
            · obtain ⟨r2, N2, a1, a2, a3⟩ := g1 z hz
              exact ⟨r2, N2, a1, a2.fr f1 (by simp; omega) (by simp; omega), a3⟩
            · rw [f1 38 (by decide)]; exact w2
            · rw [f1 33 (by decide)]; exact w4 j hj
            · rw [k1 0 (by decide)]; exact g3
          exact hR.frM (FrM.of q2 (by decide) (by decide) (by decide) (by decide))
      · have h1' := ho'.1
        refine ⟨0, IB, IM, ?_, ?_, h⟩
        · unfold f_X8_like f_X3_count
          rw [bd_ok (e_isTable_in hu), if_neg (by decide), bd_ok (e_isTable_in ht), if_neg (by decide), gd6 hu, gd6 ht, cl (by omega), cl (by omega), hB.1, hB'.1, if_neg (eq_nI (by omega) (by omega) hr)]
          rfl
        · unfold f_X9_like
          rw [bd_ok (e_noTable_in hu), if_pos rfl, bd_ok (e_noTable_in ht), if_pos rfl, gd_in (show u < 7 by omega) (by decide), gd_in (show t < 7 by omega) (by decide), cl (show u < 2 ^ 31 by omega), cl (show t < 2 ^ 31 by omega), hM.1, hM'.1, if_neg (eq_nI (by omega) (by omega) hr)]
    · refine ⟨-2, IB, IM, ?_, ?_, h⟩
      · unfold f_X8_like
        rw [bd_ok (e_isTable_in hu), if_neg (by decide), bd_ok (e_isTable_out hb), if_pos rfl]
      · unfold f_X9_like
        rw [bd_ok (e_noTable_in hu), if_pos rfl, bd_ok (e_noTable_out hb), if_neg (by decide)]
  · refine ⟨-2, IB, IM, ?_, ?_, h⟩
    · unfold f_X8_like
      rw [bd_ok (e_isTable_out ha), if_pos rfl]
    · unfold f_X9_like
      rw [bd_ok (e_noTable_out ha), if_neg (by decide)]
