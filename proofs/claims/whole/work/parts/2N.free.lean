/-! LISTS: the places that the laws make alike, found once by a run of the loops at a bare state -/
def mgB (I J : SI) : SI := fun k j => if k = 22 then (if j < 125 then J 22 j else I 22 j) else if k = 50 ∨ k = 52 ∨ k = 53 then J k j else I k j
theorem mgB_50 (I J : SI) (j : Nat) : mgB I J 50 j = J 50 j := rfl
theorem mgB_52 (I J : SI) (j : Nat) : mgB I J 52 j = J 52 j := rfl
theorem mgB_53 (I J : SI) (j : Nat) : mgB I J 53 j = J 53 j := rfl
theorem mgB_22 (I J : SI) {j : Nat} (h : j < 125) : mgB I J 22 j = J 22 j := if_pos h
theorem mgB_ups (I J : SI) {i : Nat} (h : i < 125) (v : Int32) : ups (mgB I J) 22 i v = mgB I (ups J 22 i v) := by
  funext k j
  by_cases e : k = 22
  · subst e
    rw [ups_at]
    unfold mgB
    rw [if_pos rfl, if_pos rfl, ups_at]
    by_cases q : j = i
    · rw [if_pos q, if_pos q, if_pos (by omega)]
    · rw [if_neg q, if_neg q]
  · rw [ups_id e]
    unfold mgB
    rw [if_neg e, if_neg e]
    by_cases q : k = 50 ∨ k = 52 ∨ k = 53
    · rw [if_pos q, if_pos q, ups_id e]
    · rw [if_neg q, if_neg q]
theorem mgB_sets (I J : SI) (v : Int32) : sets (mgB I J) 53 v = mgB I (sets J 53 v) := by
  funext k j
  by_cases e : k = 53
  · subst e
    rw [sets_at]
    unfold mgB
    rw [if_neg (by decide), if_pos (by decide), sets_at]
  · rw [sets_id e]
    unfold mgB
    by_cases q : k = 22
    · rw [if_pos q, if_pos q, sets_id (by decide)]
    · rw [if_neg q, if_neg q]
      by_cases y : k = 50 ∨ k = 52 ∨ k = 53
      · rw [if_pos y, if_pos y, sets_id e]
      · rw [if_neg y, if_neg y]
theorem gd_cg {α : Type} {c : Prop} [Decidable c] {x y : Option α} (h : ¬ c → x = y) : gd c x = gd c y := by
  unfold gd
  by_cases q : c
  · rw [if_pos q, if_pos q]
  · rw [if_neg q, if_neg q]; exact h q
theorem gd_mp {α β : Type} {c : Prop} [Decidable c] {x : Option α} (g : α → β) : (gd c x).map g = gd c (x.map g) := by
  unfold gd
  by_cases q : c
  · rw [if_pos q, if_pos q]; rfl
  · rw [if_neg q, if_neg q]
theorem bd_mp {α β γ : Type} (x : Option α) (k : α → Option β) (g : β → γ) : (bd x k).map g = bd x (fun o => (k o).map g) := by cases x <;> rfl
theorem bd_of {α β γ : Type} (x : Option α) (g : α → β) (k : β → Option γ) : bd (x.map g) k = bd x (fun o => k (g o)) := by cases x <;> rfl
theorem bd_cg {α β : Type} {x : Option α} {k k' : α → Option β} (h : ∀ o, k o = k' o) : bd x k = bd x k' := by rw [show k = k' from funext h]
theorem gi {c : Int32} {n : Nat} (h : ¬ (c < 0 ∨ n ≤ c.toNatClampNeg)) : c.toNatClampNeg < n := by omega
theorem smB_partner (I J : SI) (a : Int32) : f_X2_partnerOf a (mgB I J) = f_X2_partnerOf a J := rfl
theorem smB_12 (I : SI) : ∀ n a b c t J, lp_X2_markAlike_12 n a b c t (mgB I J) = (lp_X2_markAlike_12 n a b c t J).map (mgB I) := by
  intro n
  induction n with
  | zero => intro a b c t J; rfl
  | succ n ih =>
    intro a b c t J
    rw [lp_X2_markAlike_12.eq_2, lp_X2_markAlike_12.eq_2, apply_ite (Option.map (mgB I))]
    by_cases w : (12 : Int32) ≤ t
    · rw [if_pos w, if_pos w]; rfl
    · rw [if_neg w, if_neg w, bd_mp]
      refine bd_cg (fun o => ?_)
      rw [gd_mp]
      refine gd_cg (fun q => ?_)
      rw [mgB_53, mgB_ups I J (gi q)]
      by_cases y : t &&& 1 = 0
      · rw [if_pos y, if_pos y]; exact ih _ _ _ _ _
      · rw [if_neg y, if_neg y, bd_mp, smB_partner]
        exact bd_cg (fun o2 => ih _ _ _ _ _)
theorem smB_mark (I : SI) (a b c : Int32) (J : SI) : f_X2_markAlike a b c (mgB I J) = (f_X2_markAlike a b c J).map (mgB I) := by
  unfold f_X2_markAlike
  rw [smB_12, bd_of, bd_mp]
  rfl
theorem smB_35 (I : SI) (a b : Int32) : ∀ n c J, lp_X2_findFree_35 a b n c (mgB I J) = (lp_X2_findFree_35 a b n c J).map (mgB I) := by
  intro n
  induction n with
  | zero => intro c J; rfl
  | succ n ih =>
    intro c J
    rw [lp_X2_findFree_35.eq_2, lp_X2_findFree_35.eq_2, mgB_50]
    by_cases w : J 50 0 ≤ c
    · rw [if_pos w, if_pos w]; rfl
    · rw [if_neg w, if_neg w, bd_mp]
      refine bd_cg (fun o => ?_)
      rw [gd_mp]
      refine gd_cg (fun q => ?_)
      rw [mgB_22 I J (gi q), mgB_53]
      by_cases y : J 22 o.toNatClampNeg = -1
      · rw [if_pos y, if_pos y]
        by_cases z : (10 : Int32) ≤ J 53 0
        · rw [if_pos z, if_pos z]; exact ih _ _
        · rw [if_neg z, if_neg z, smB_mark, bd_of, bd_mp]
          refine bd_cg (fun o2 => ?_)
          rw [mgB_53, mgB_sets]
          exact ih _ _
      · rw [if_neg y, if_neg y]; exact ih _ _
theorem smB_25 (I : SI) (a : Int32) : ∀ n b J, lp_X2_findFree_25 a n b (mgB I J) = (lp_X2_findFree_25 a n b J).map (mgB I) := by
  intro n
  induction n with
  | zero => intro c J; rfl
  | succ n ih =>
    intro c J
    rw [lp_X2_findFree_25.eq_2, lp_X2_findFree_25.eq_2, mgB_50]
    by_cases w : J 50 0 ≤ c
    · rw [if_pos w, if_pos w]; rfl
    · rw [if_neg w, if_neg w, bd_mp, smB_35, bd_of]
      exact bd_cg (fun o => ih _ _)
theorem smB_15 (I : SI) : ∀ n b J, lp_X2_findFree_15 n b (mgB I J) = (lp_X2_findFree_15 n b J).map (mgB I) := by
  intro n
  induction n with
  | zero => intro c J; rfl
  | succ n ih =>
    intro c J
    rw [lp_X2_findFree_15.eq_2, lp_X2_findFree_15.eq_2, mgB_50]
    by_cases w : J 50 0 ≤ c
    · rw [if_pos w, if_pos w]; rfl
    · rw [if_neg w, if_neg w, bd_mp, smB_25, bd_of]
      exact bd_cg (fun o => ih _ _)
def mg4 (I J : SI) : SI := fun k j => if k = 4 then (if j < 125 then J 4 j else I 4 j) else I k j
theorem mg4_4 (I J : SI) {j : Nat} (h : j < 125) : mg4 I J 4 j = J 4 j := if_pos h
theorem mg4_ups (I J : SI) {i : Nat} (h : i < 125) (v : Int32) : ups (mg4 I J) 4 i v = mg4 I (ups J 4 i v) := by
  funext k j
  by_cases e : k = 4
  · subst e
    rw [ups_at]
    unfold mg4
    rw [if_pos rfl, if_pos rfl, ups_at]
    by_cases q : j = i
    · rw [if_pos q, if_pos q, if_pos (by omega)]
    · rw [if_neg q, if_neg q]
  · rw [ups_id e]
    unfold mg4
    rw [if_neg e, if_neg e]
def pm4 (I : SI) (o : Int32 × SI) : Int32 × SI := (o.1, mg4 I o.2)
theorem sm_join (I : SI) (a b : Int32) (J : SI) : f_X9_join a b (mg4 I J) = (f_X9_join a b J).map (pm4 I) := by
  unfold f_X9_join
  rw [gd_mp]
  refine gd_cg (fun q1 => ?_)
  rw [gd_mp]
  refine gd_cg (fun q2 => ?_)
  have a1 := gi q1
  have a2 := gi q2
  rw [mg4_4 I J a1, mg4_4 I J a2, mg4_ups I J a1, mg4_ups I J a1, mg4_ups I _ a2, mg4_ups I _ a2]
  by_cases w : J 4 b.toNatClampNeg ≤ J 4 a.toNatClampNeg
  · rw [if_pos w, if_pos w]
    simp only [gd_mp]
    refine gd_cg (fun _ => gd_cg (fun _ => gd_cg (fun _ => ?_)))
    by_cases y : J 4 a.toNatClampNeg = J 4 b.toNatClampNeg
    · rw [if_pos y, if_pos y]; simp only [gd_mp]; rfl
    · rw [if_neg y, if_neg y]; simp only [gd_mp]; rfl
  · rw [if_neg w, if_neg w]
    simp only [gd_mp]
    refine gd_cg (fun _ => gd_cg (fun _ => gd_cg (fun _ => ?_)))
    by_cases y : J 4 a.toNatClampNeg = J 4 b.toNatClampNeg
    · rw [if_pos y, if_pos y]; simp only [gd_mp]; rfl
    · rw [if_neg y, if_neg y]; simp only [gd_mp]; rfl
theorem sm_50 (I : SI) (r p i j : Int32) : ∀ n c k J, lp_X9_findLike_50 r p i j n c k (mg4 I J) = (lp_X9_findLike_50 r p i j n c k J).map (pm4 I) := by
  intro n
  induction n with
  | zero => intro c k J; rfl
  | succ n ih =>
    intro c k J
    rw [lp_X9_findLike_50.eq_2, lp_X9_findLike_50.eq_2]
    by_cases w : r ≤ k
    · rw [if_pos w, if_pos w]; rfl
    · rw [if_neg w, if_neg w, bd_mp]
      refine bd_cg (fun o => ?_)
      rw [bd_mp]
      refine bd_cg (fun o1 => ?_)
      rw [bd_mp, sm_join, bd_of]
      refine bd_cg (fun o2 => ?_)
      show bd _ _ = _
      rw [bd_mp]
      refine bd_cg (fun o3 => ?_)
      rw [bd_mp]
      refine bd_cg (fun o4 => ?_)
      rw [bd_mp]
      refine bd_cg (fun o5 => ?_)
      rw [bd_mp]
      show bd (f_X9_join _ _ (mg4 I o2.2)) _ = _
      rw [sm_join, bd_of]
      refine bd_cg (fun o6 => ?_)
      show (if c = 0 then (if o2.1 = 0 then (if o6.1 = 0 then lp_X9_findLike_50 r p i j n 0 (k + 1) (mg4 I o6.2) else _) else _) else _) = Option.map (pm4 I) (if c = 0 then (if o2.1 = 0 then (if o6.1 = 0 then lp_X9_findLike_50 r p i j n 0 (k + 1) o6.2 else _) else _) else _)
      by_cases y : c = 0
      · rw [if_pos y, if_pos y]
        by_cases z : o2.1 = 0
        · rw [if_pos z, if_pos z]
          by_cases x : o6.1 = 0
          · rw [if_pos x, if_pos x]; exact ih _ _ _
          · rw [if_neg x, if_neg x]; exact ih _ _ _
        · rw [if_neg z, if_neg z]; exact ih _ _ _
      · rw [if_neg y, if_neg y]; exact ih _ _ _
theorem sm_41 (I : SI) (r p i : Int32) : ∀ n c k J, lp_X9_findLike_41 r p i n c k (mg4 I J) = (lp_X9_findLike_41 r p i n c k J).map (pm4 I) := by
  intro n
  induction n with
  | zero => intro c k J; rfl
  | succ n ih =>
    intro c k J
    rw [lp_X9_findLike_41.eq_2, lp_X9_findLike_41.eq_2]
    by_cases w : r ≤ k
    · rw [if_pos w, if_pos w]; rfl
    · rw [if_neg w, if_neg w, bd_mp, sm_50, bd_of]
      exact bd_cg (fun o => ih _ _ _)
theorem sm_32 (I : SI) (r p : Int32) : ∀ n c k J, lp_X9_findLike_32 r p n c k (mg4 I J) = (lp_X9_findLike_32 r p n c k J).map (pm4 I) := by
  intro n
  induction n with
  | zero => intro c k J; rfl
  | succ n ih =>
    intro c k J
    rw [lp_X9_findLike_32.eq_2, lp_X9_findLike_32.eq_2]
    by_cases w : r ≤ k
    · rw [if_pos w, if_pos w]; rfl
    · rw [if_neg w, if_neg w, bd_mp, sm_41, bd_of]
      exact bd_cg (fun o => ih _ _ _)
theorem sm_23 (I : SI) (r p : Int32) : ∀ n c J, lp_X9_findLike_23 r p n c (mg4 I J) = (lp_X9_findLike_23 r p n c J).map (mg4 I) := by
  intro n
  induction n with
  | zero => intro c J; rfl
  | succ n ih =>
    intro c J
    rw [lp_X9_findLike_23.eq_2, lp_X9_findLike_23.eq_2]
    by_cases w : c = 0
    · rw [if_pos w, if_pos w]; rfl
    · rw [if_neg w, if_neg w, bd_mp, sm_32, bd_of]
      exact bd_cg (fun o => ih _ _)
def mgM (I J : SI) : SI := fun k j => if k = 4 then (if j < 125 then J 4 j else I 4 j) else if k = 14 then J 14 j else if k = 5 then (if j < (J 14 0).toNatClampNeg then J 5 j else I 5 j) else I k j
theorem mgM_4 (I J : SI) {j : Nat} (h : j < 125) : mgM I J 4 j = J 4 j := if_pos h
theorem mgM_14 (I J : SI) (j : Nat) : mgM I J 14 j = J 14 j := rfl
theorem cl_nI {x : Int32} {n : Nat} (h : ¬ (x < 0 ∨ n ≤ x.toNatClampNeg)) (hn : n < 2 ^ 31) : x = nI x.toNatClampNeg := by
  rcases pick x n hn with ⟨j, hj, rfl⟩ | q
  · rw [cl (by omega)]
  · exfalso
    rcases q with q | q
    · exact h (Or.inl q)
    · refine h (Or.inr ?_)
      rw [Int32.le_iff_toInt_le] at q
      have a : (nI n).toInt = n := nI_toInt hn
      rw [a] at q
      show n ≤ x.toInt.toNat
      omega
theorem mgM_put (I J : SI) (v : Int32) (h : ¬ (J 14 0 < 0 ∨ 125 ≤ (J 14 0).toNatClampNeg)) : sets (ups (mgM I J) 5 (J 14 0).toNatClampNeg v) 14 (J 14 0 + 1) = mgM I (sets (ups J 5 (J 14 0).toNatClampNeg v) 14 (J 14 0 + 1)) := by
  have e1 := cl_nI h (by decide)
  have e2 := gi h
  generalize hx : (J 14 0).toNatClampNeg = x at e1 e2 ⊢
  have e3 : (J 14 0 + 1).toNatClampNeg = x + 1 := by rw [e1, show nI x + 1 = nI (x + 1) from nI_1 x, cl (by omega)]
  funext k j
  by_cases e : k = 14
  · subst e
    rw [sets_at]
    show _ = sets (ups J 5 x v) 14 (J 14 0 + 1) 14 j
    rw [sets_at]
  · rw [sets_id e]
    by_cases q : k = 5
    · subst q
      rw [ups_at]
      show _ = if j < (sets _ 14 _ 14 0).toNatClampNeg then sets (ups J 5 x v) 14 _ 5 j else I 5 j
      rw [sets_at, e3, sets_id (by decide), ups_at]
      show (if j = x then v else (if j < (J 14 0).toNatClampNeg then J 5 j else I 5 j)) = _
      rw [hx]
      by_cases z : j = x
      · rw [if_pos z, if_pos (by omega), if_pos z]
      · rw [if_neg z]
        by_cases y : j < x
        · rw [if_pos y, if_pos (by omega), if_neg z]
        · rw [if_neg y, if_neg (by omega)]
    · rw [ups_id q]
      unfold mgM
      by_cases z : k = 4
      · subst z
        rw [if_pos rfl, if_pos rfl, sets_id (by decide), ups_id (by decide)]
      · rw [if_neg z, if_neg e, if_neg q, if_neg z, if_neg e, if_neg q]
theorem sm_175 (I : SI) (r i j : Int32) : ∀ n k J, lp_X9_findLike_175 r i j n k (mgM I J) = (lp_X9_findLike_175 r i j n k J).map (mgM I) := by
  intro n
  induction n with
  | zero => intro k J; rfl
  | succ n ih =>
    intro k J
    rw [lp_X9_findLike_175.eq_2, lp_X9_findLike_175.eq_2]
    by_cases w : r ≤ k
    · rw [if_pos w, if_pos w]; rfl
    · rw [if_neg w, if_neg w, bd_mp]
      refine bd_cg (fun o => ?_)
      rw [gd_mp]
      refine gd_cg (fun q => ?_)
      rw [bd_mp]
      refine bd_cg (fun o1 => ?_)
      rw [mgM_4 I J (gi q)]
      by_cases y : J 4 o.toNatClampNeg = o1
      · rw [if_pos y, if_pos y, bd_mp]
        refine bd_cg (fun o2 => ?_)
        rw [gd_mp, mgM_14]
        refine gd_cg (fun q2 => ?_)
        have e := mgM_put I J o2 q2
        rw [ups_id (by decide), mgM_14, e, ups_id (by decide)]
        exact ih _ _
      · rw [if_neg y, if_neg y]; exact ih _ _
theorem sm_166 (I : SI) (r i : Int32) : ∀ n k J, lp_X9_findLike_166 r i n k (mgM I J) = (lp_X9_findLike_166 r i n k J).map (mgM I) := by
  intro n
  induction n with
  | zero => intro k J; rfl
  | succ n ih =>
    intro k J
    rw [lp_X9_findLike_166.eq_2, lp_X9_findLike_166.eq_2]
    by_cases w : r ≤ k
    · rw [if_pos w, if_pos w]; rfl
    · rw [if_neg w, if_neg w, bd_mp, sm_175, bd_of]
      exact bd_cg (fun o => ih _ _)
theorem sm_157 (I : SI) (r : Int32) : ∀ n k J, lp_X9_findLike_157 r n k (mgM I J) = (lp_X9_findLike_157 r n k J).map (mgM I) := by
  intro n
  induction n with
  | zero => intro k J; rfl
  | succ n ih =>
    intro k J
    rw [lp_X9_findLike_157.eq_2, lp_X9_findLike_157.eq_2]
    by_cases w : r ≤ k
    · rw [if_pos w, if_pos w]; rfl
    · rw [if_neg w, if_neg w, bd_mp, sm_166, bd_of]
      exact bd_cg (fun o => ih _ _)
def fxT : Nat → Nat → List Nat
  | 2, 0 => [0]
  | 3, 0 => [0, 1, 0, 0, 0, 1, 2, 0, 0, 0, 0, 0, 0, 0, 0, 0, 0, 0, 0, 0, 0, 0, 0, 0, 0, 1, 2, 0, 0, 0, 2, 3]
  | 3, 1 => [0, 1, 0, 0, 0, 0, 0, 0, 0, 0, 0, 0, 0, 0, 0, 0, 0, 0, 0, 0, 0, 0, 0, 0, 0, 0, 0, 0, 0, 0, 1]
  | 4, 0 => [0, 1, 2, 0, 0, 1, 3, 4, 0, 0, 2, 4, 5, 0, 0, 0, 0, 0, 0, 0, 0, 0, 0, 0, 0, 1, 3, 4, 0, 0, 3, 6, 7, 0, 0, 4, 7, 8, 0, 0, 0, 0, 0, 0, 0, 0, 0, 0, 0, 0, 2, 4, 5, 0, 0, 4, 7, 8, 0, 0, 5, 8, 9]
  | 4, 1 => [0, 1, 2, 0, 0, 0, 0, 3, 0, 0, 3, 2, 4, 0, 0, 0, 0, 0, 0, 0, 0, 0, 0, 0, 0, 0, 0, 3, 0, 0, 1, 0, 2, 0, 0, 2, 3, 4, 0, 0, 0, 0, 0, 0, 0, 0, 0, 0, 0, 0, 3, 2, 4, 0, 0, 2, 3, 4, 0, 0, 4, 4, 5]
  | _, _ => []
def fsT : Nat → Nat → List Nat
  | 2, 0 => [31]
  | 3, 0 => [31, 32, 37, 62]
  | 3, 1 => [31, 32]
  | 4, 0 => [31, 32, 33, 37, 38, 43, 62, 63, 68, 93]
  | 4, 1 => [31, 32, 33, 38, 43, 93]
  | _, _ => []
def fx (r p c : Nat) : Nat := (fxT r p).getD (c - 31) 0
def fs (r p f : Nat) : Nat := (fsT r p).getD f 0
def FT (r p : Nat) : Nat := (fsT r p).length
def inn (r c : Nat) : Bool := decide (1 ≤ c / 25) && decide (c / 25 < r) && decide (1 ≤ c / 5 % 5) && decide (c / 5 % 5 < r) && decide (1 ≤ c % 5) && decide (c % 5 < r)
def mat (p i : Nat) : Nat := if p = 1 then (if i = 1 then 2 else if i = 2 then 1 else i) else i
def cfg (r p : Nat) : Prop := (r = 2 ∧ p = 0) ∨ (r = 3 ∧ p = 0) ∨ (r = 3 ∧ p = 1) ∨ (r = 4 ∧ p = 0) ∨ (r = 4 ∧ p = 1)
def bareB (r p : Nat) : SI := fun k _ => if k = 22 then -1 else if k = 50 then nI r else if k = 52 then nI p else 0
def bareM : SI := fun k j => if k = 4 then nI j else 0
def chkB (r p : Nat) : Bool := match lp_X2_findFree_15 FU 1 (bareB r p) with
  | none => false
  | some J => J 53 0 == nI (FT r p) && J 50 0 == nI r && J 52 0 == nI p && (List.range 125).all (fun c => !inn r c || J 22 c == nI (fx r p c))
def chkM (r p : Nat) : Bool := match lp_X9_findLike_23 (nI r) (nI p) FU 1 bareM with
  | none => false
  | some J => match lp_X9_findLike_157 (nI r) FU 1 (sets J 14 0) with
    | none => false
    | some K => K 14 0 == nI (FT r p) && (List.range 125).all (fun c => !inn r c || K 4 c == nI (fs r p (fx r p c))) && (List.range (FT r p)).all (fun f => K 5 f == nI (fs r p f))
theorem chkB20 : chkB 2 0 = true := by decide +kernel
theorem chkM20 : chkM 2 0 = true := by decide +kernel
theorem chkB30 : chkB 3 0 = true := by decide +kernel
theorem chkM30 : chkM 3 0 = true := by decide +kernel
theorem chkB31 : chkB 3 1 = true := by decide +kernel
theorem chkM31 : chkM 3 1 = true := by decide +kernel
theorem chkB40 : chkB 4 0 = true := by decide +kernel
theorem chkM40 : chkM 4 0 = true := by decide +kernel
theorem chkB41 : chkB 4 1 = true := by decide +kernel
theorem chkM41 : chkM 4 1 = true := by decide +kernel
theorem chkB_all {r p : Nat} (h : cfg r p) : chkB r p = true := by
  rcases h with ⟨rfl, rfl⟩ | ⟨rfl, rfl⟩ | ⟨rfl, rfl⟩ | ⟨rfl, rfl⟩ | ⟨rfl, rfl⟩
  · exact chkB20
  · exact chkB30
  · exact chkB31
  · exact chkB40
  · exact chkB41
theorem chkM_all {r p : Nat} (h : cfg r p) : chkM r p = true := by
  rcases h with ⟨rfl, rfl⟩ | ⟨rfl, rfl⟩ | ⟨rfl, rfl⟩ | ⟨rfl, rfl⟩ | ⟨rfl, rfl⟩
  · exact chkM20
  · exact chkM30
  · exact chkM31
  · exact chkM40
  · exact chkM41
def chkT (r p : Nat) : Bool := (List.range 5).all (fun i => (List.range 5).all (fun j => (List.range 5).all (fun k => !inn r (25 * i + 5 * j + k) || (decide (fx r p (25 * i + 5 * j + k) < FT r p) && fx r p (25 * i + 5 * j + k) == fx r p (25 * j + 5 * i + k) && fx r p (25 * i + 5 * j + k) == fx r p (25 * mat p i + 5 * k + j))))) && (List.range (FT r p)).all (fun f => inn r (fs r p f) && fx r p (fs r p f) == f && decide (fs r p f < 125)) && decide (1 ≤ FT r p) && decide (FT r p ≤ 10)
theorem chkT_all {r p : Nat} (h : cfg r p) : chkT r p = true := by
  rcases h with ⟨rfl, rfl⟩ | ⟨rfl, rfl⟩ | ⟨rfl, rfl⟩ | ⟨rfl, rfl⟩ | ⟨rfl, rfl⟩ <;> decide +kernel
theorem cfg_le {r p : Nat} (h : cfg r p) : 2 ≤ r ∧ r ≤ 4 ∧ p ≤ 1 := by unfold cfg at h; omega
theorem inn_iff {r i j k : Nat} (hi : i < 5) (hj : j < 5) (hk : k < 5) : inn r (25 * i + 5 * j + k) = true ↔ (1 ≤ i ∧ i < r ∧ 1 ≤ j ∧ j < r ∧ 1 ≤ k ∧ k < r) := by
  unfold inn
  rw [show (25 * i + 5 * j + k) / 25 = i by omega, show (25 * i + 5 * j + k) / 5 % 5 = j by omega, show (25 * i + 5 * j + k) % 5 = k by omega]
  simp only [Bool.and_eq_true, decide_eq_true_eq]
  omega
theorem tabT {r p : Nat} (h : cfg r p) : (∀ i j k, i < 5 → j < 5 → k < 5 → inn r (25 * i + 5 * j + k) = true → fx r p (25 * i + 5 * j + k) < FT r p ∧ fx r p (25 * i + 5 * j + k) = fx r p (25 * j + 5 * i + k) ∧ fx r p (25 * i + 5 * j + k) = fx r p (25 * mat p i + 5 * k + j)) ∧ (∀ f, f < FT r p → inn r (fs r p f) = true ∧ fx r p (fs r p f) = f ∧ fs r p f < 125) ∧ 1 ≤ FT r p ∧ FT r p ≤ 10 := by
  have e := chkT_all h
  unfold chkT at e
  simp only [Bool.and_eq_true, decide_eq_true_eq, List.all_eq_true, List.mem_range, beq_iff_eq, Bool.or_eq_true, Bool.not_eq_true'] at e
  obtain ⟨⟨⟨e1, e2⟩, e3⟩, e4⟩ := e
  refine ⟨fun i j k hi hj hk hin => ?_, fun f hf => ?_, e3, e4⟩
  · rcases e1 i hi j hj k hk with q | ⟨⟨q1, q2⟩, q3⟩
    · rw [hin] at q; cases q
    · exact ⟨q1, q2, q3⟩
  · obtain ⟨⟨q1, q2⟩, q3⟩ := e2 f hf
    exact ⟨q1, q2, q3⟩
theorem B_free {r p : Nat} (h : cfg r p) (m : Int32) (I : SI) : ∃ I', f_X2_findFree (sets (sets (sets I 50 (nI r)) 51 m) 52 (nI p)) = some I' ∧ Fr [22, 50, 51, 52, 53] I I' ∧ I' 50 0 = nI r ∧ I' 51 0 = m ∧ I' 52 0 = nI p ∧ I' 53 0 = nI (FT r p) ∧ ∀ c, c < 125 → inn r c = true → I' 22 c = nI (fx r p c) := by
  have e := chkB_all h
  unfold chkB at e
  cases hq : lp_X2_findFree_15 FU 1 (bareB r p) with
  | none => rw [hq] at e; cases e
  | some J =>
    rw [hq] at e
    simp only [Bool.and_eq_true, List.all_eq_true, List.mem_range, beq_iff_eq, Bool.or_eq_true, Bool.not_eq_true'] at e
    obtain ⟨⟨⟨e1, e2⟩, e3⟩, e4⟩ := e
    generalize hS : sets (fillS (sets (sets (sets I 50 (nI r)) 51 m) 52 (nI p)) 22 (-1) 125) 53 0 = S
    have f22 := fillS_fr (sets (sets (sets I 50 (nI r)) 51 m) 52 (nI p)) 22 (-1) 125
    have s50 : ∀ j, S 50 j = nI r := fun j => by rw [← hS, sets_id (by decide), f22 50 (by decide), sets_id (by decide), sets_id (by decide), sets_at]
    have s51 : ∀ j, S 51 j = m := fun j => by rw [← hS, sets_id (by decide), f22 51 (by decide), sets_id (by decide), sets_at]
    have s52 : ∀ j, S 52 j = nI p := fun j => by rw [← hS, sets_id (by decide), f22 52 (by decide), sets_at]
    have s53 : ∀ j, S 53 j = 0 := fun j => by rw [← hS, sets_at]
    have s22 : ∀ j, j < 125 → S 22 j = -1 := fun j hj => by rw [← hS, sets_id (by decide), fillS_at, if_pos hj]
    have hm : mgB S (bareB r p) = S := by
      funext k j
      unfold mgB
      by_cases q : k = 22
      · subst q
        rw [if_pos rfl]
        by_cases y : j < 125
        · rw [if_pos y, s22 j y]; rfl
        · rw [if_neg y]
      · rw [if_neg q]
        by_cases y : k = 50 ∨ k = 52 ∨ k = 53
        · rw [if_pos y]
          rcases y with rfl | rfl | rfl
          · rw [s50]; rfl
          · rw [s52]; rfl
          · rw [s53]; rfl
        · rw [if_neg y]
    have e5 : lp_X2_findFree_15 FU 1 S = some (mgB S J) := by
      rw [← hm, smB_15, hq, hm]; rfl
    refine ⟨mgB S J, ?_, fun k hk => ?_, e2, ?_, e3, e1, fun c hc hin => ?_⟩
    · unfold f_X2_findFree
      rw [bd_ok (e_fill _ 22 125 (-1) (by decide)), hS, bd_ok e5]
    · simp only [List.mem_cons, List.not_mem_nil, or_false, not_or] at hk
      obtain ⟨k1, k2, k3, k4, k5⟩ := hk
      funext j
      unfold mgB
      rw [if_neg k1, if_neg (by omega), ← hS, sets_id k5, f22 k (by simp; omega), sets_id k4, sets_id k3, sets_id k2]
    · unfold mgB
      rw [if_neg (by decide), if_neg (by decide), s51]
    · rw [mgB_22 _ _ hc]
      rcases e4 c hc with q | q
      · rw [hin] at q; cases q
      · exact q
theorem M_like2 (r p : Int32) (I : SI) : ∃ I', lp_X9_findLike_2 r p FU 0 I = some I' ∧ Fr [4] I I' ∧ ∀ c, c < 125 → I' 4 c = nI c := by
  refine exLoop (fun n c s => lp_X9_findLike_2 r p n (nI c) s) 125 (fun c s => Fr [4] I s ∧ ∀ b, b < c → s 4 b = nI b) (fun s => Fr [4] I s ∧ ∀ b, b < 125 → s 4 b = nI b) (fun n s hs => ⟨s, rfl, hs⟩) (fun n c s hc hs => ⟨ups s 4 c (nI c), ?_, hs.1.ups (by simp), fun b hb => ?_⟩) 125 0 FU I (Nat.zero_add _) (by decide) ⟨Fr.rf, fun b hb => by omega⟩
  · show lp_X9_findLike_2 r p (n + 1) (nI c) s = lp_X9_findLike_2 r p n (nI (c + 1)) _
    rw [lp_X9_findLike_2.eq_2, if_neg (show ¬ (125 : Int32) ≤ nI c from le_nI (a := 125) (by decide) (by omega) (by omega)), gd_in hc (by decide), cl (by omega), show nI c + 1 = nI (c + 1) from nI_1 c]
  · rw [ups_at]
    by_cases q : b = c
    · rw [if_pos q, q]
    · rw [if_neg q]; exact hs.2 b (by omega)
theorem M_like {r p : Nat} (h : cfg r p) (I : SI) : ∃ I', f_X9_findLike (nI r) (nI p) I = some I' ∧ Fr [4, 5, 14] I I' ∧ I' 14 0 = nI (FT r p) ∧ (∀ c, c < 125 → inn r c = true → I' 4 c = nI (fs r p (fx r p c))) ∧ ∀ f, f < FT r p → I' 5 f = nI (fs r p f) := by
  have e := chkM_all h
  have ht := tabT h
  unfold chkM at e
  cases hq : lp_X9_findLike_23 (nI r) (nI p) FU 1 bareM with
  | none => rw [hq] at e; cases e
  | some J =>
    rw [hq] at e
    cases hk : lp_X9_findLike_157 (nI r) FU 1 (sets J 14 0) with
    | none => simp only [hk] at e; cases e
    | some K =>
      simp only [hk] at e
      simp only [Bool.and_eq_true, List.all_eq_true, List.mem_range, beq_iff_eq, Bool.or_eq_true, Bool.not_eq_true'] at e
      obtain ⟨⟨e1, e2⟩, e3⟩ := e
      obtain ⟨S, a1, a2, a3⟩ := M_like2 (nI r) (nI p) I
      have hm : mg4 S bareM = S := by
        funext k j
        unfold mg4
        by_cases q : k = 4
        · subst q
          rw [if_pos rfl]
          by_cases y : j < 125
          · rw [if_pos y, a3 j y]; rfl
          · rw [if_neg y]
        · rw [if_neg q]
      have b1 : lp_X9_findLike_23 (nI r) (nI p) FU 1 S = some (mg4 S J) := by
        rw [← hm, sm_23, hq, hm]; rfl
      have hm2 : mgM (sets (mg4 S J) 14 0) (sets J 14 0) = sets (mg4 S J) 14 0 := by
        funext k j
        unfold mgM
        by_cases q : k = 4
        · subst q
          rw [if_pos rfl]
          by_cases y : j < 125
          · rw [if_pos y, sets_id (by decide), sets_id (by decide), mg4_4 _ _ y]
          · rw [if_neg y]
        · rw [if_neg q]
          by_cases y : k = 14
          · subst y
            rw [if_pos rfl, sets_at, sets_at]
          · rw [if_neg y]
            by_cases z : k = 5
            · subst z
              rw [if_pos rfl, sets_at, if_neg (show ¬ j < (0 : Int32).toNatClampNeg from Nat.not_lt_zero _)]
            · rw [if_neg z]
      have b2 : lp_X9_findLike_157 (nI r) FU 1 (sets (mg4 S J) 14 0) = some (mgM (sets (mg4 S J) 14 0) K) := by
        rw [← hm2, sm_157, hk, hm2]; rfl
      refine ⟨mgM (sets (mg4 S J) 14 0) K, ?_, fun k hk => ?_, e1, fun c hc hin => ?_, fun f hf => ?_⟩
      · unfold f_X9_findLike
        rw [bd_ok a1, bd_ok b1, bd_ok b2]
      · simp only [List.mem_cons, List.not_mem_nil, or_false, not_or] at hk
        obtain ⟨k1, k2, k3⟩ := hk
        funext j
        unfold mgM
        rw [if_neg k1, if_neg k3, if_neg k2, sets_id k3]
        unfold mg4
        rw [if_neg k1, a2 k (by simp; omega)]
      · rw [mgM_4 _ _ hc]
        rcases e2 c hc with q | q
        · rw [hin] at q; cases q
        · exact q
      · show (if f < (K 14 0).toNatClampNeg then K 5 f else _) = _
        rw [e1, cl (by omega), if_pos hf]
        exact e3 f hf
