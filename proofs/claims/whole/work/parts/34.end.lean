/-! THE END: the loop of the law, its start, the claim -/
def R_law : String := "FuseBenchLaw"
def lw_P (b : Addr) (xs : List Int32) (args : Array Value) (s : State) : Prop := args = #[.ref b] ∧ s.IntsAt b xs ∧ xs.length ≤ 3072 ∧ (Jvm.Cond.and given_1 narrow_1).before args s = true
def lw_Q (_ : Array Value) (s : State) (o : Outcome) (t : State) : Prop := o = .returned (some (.int 1)) ∧ Framed s o t [] 600000 7302249
def lw_Z (below : List Frame) (a : Array Value) (s : State) : State → Prop := fun t => ∃ o, t.status = .running ∧ Ended t below o ∧ lw_Q a s o t
/-- the law's own end, with 1 on the stack, nothing written that was there before, its room as the claim has it -/
theorem lw_ret {p : Program} {l : Launch} {e : Env} {s : State} {m : MethodId} {below : List Frame} {meth : Method} {c : Code} {b : Nat} (hx : p.tables.exec = Jvm.exec) (hb : c.code = code) (hr : meth.sig.returnType = ret) (hlocks : meth.locks = false) {pc : Nat} {H : Heap} {ls : Array Slot} (hdg : decode code pc = .ok (.ireturn, 1)) : W p l e room_1 s m #[Value.ref b] below meth c H [] 600000 7302249 (lw_Z below #[Value.ref b] s) (F0 m pc ls [.int 1]) := by
  intro T hT X
  obtain ⟨fs, hret, hrun, hended, hW, hframe⟩ := X.leave (v := some (.int 1)) (hlocks := hlocks) (fun h => by rw [hr] at h; cases h)
  have hmeth' : T.vm.method? m = some meth := X.method'
  refine ⟨T.setFrames fs, ?_, .returned (some (.int 1)), hrun, hended, rfl, ⟨_, rfl⟩, hW, hframe⟩
  jvm_step X.here [X.here.top, hx, hb, hdg, hmeth', hr, ret, narrow_b1]
  (try refine ⟨rfl, ?_⟩); (try refine ⟨rfl, ?_⟩)
  first | (intro acts; rw [hret _ acts rfl rfl rfl]) | rw [hret _ _ rfl rfl rfl]
  exact Steps.refl _
/-- what holds at the law's entry: the machine, the code, the tables' words (any of lw_tbl by 'hts w (by decide +kernel)'), the script of L ints xs at the cell b, what the Statement gives of the start (any of its parts by flat_of_before) -/
def lw_At (p : Program) (s : State) (m : MethodId) (meth : Method) (c : Code) (b L : Nat) (xs : Nat → Int32) : Prop :=
  p.tables.exec = Jvm.exec ∧ c.code = code ∧ meth.sig.returnType = ret ∧ c.maxLocals = 4 ∧ s.vm.findClass R_law = some m.cls ∧ (∀ w ∈ lw_tbl, w.before #[Value.ref b] s = true) ∧ va_X b L xs s s.heap ∧ b < s.heap.size ∧ meth.locks = false ∧ (Jvm.Cond.and given_1 narrow_1).before #[Value.ref b] s = true

/-- the statics: PRIMES -/
theorem spr_of {s : State} {b : Addr} (hts : ∀ w ∈ lw_tbl, w.before #[Value.ref b] s = true) (hgv : (Jvm.Cond.and given_1 narrow_1).before #[Value.ref b] s = true) : ∃ pt, SPR pt (lwA s) s s.heap := by
  have hs := flat_of_before _ hgv
  have hA : ∀ a : Nat, a < s.heap.size → ¬ lwA s a := fun a h => Nat.not_le.mpr h
  have harr : (Cond.arrayOf (.static "FuseBench" "PRIMES" "[I") .int).before #[Value.ref b] s = true := hs _ (by decide +kernel)
  have hlen := va_eqt (t := .length (.static "FuseBench" "PRIMES" "[I")) (z := 6) (hs _ (by decide +kernel))
  have e0 := va_eqt (t := .elem (.static "FuseBench" "PRIMES" "[I") (.int 0)) (z := 2) (hs _ (by decide +kernel))
  have e1 := va_eqt (t := .elem (.static "FuseBench" "PRIMES" "[I") (.int 1)) (z := 3) (hs _ (by decide +kernel))
  have e2 := va_eqt (t := .elem (.static "FuseBench" "PRIMES" "[I") (.int 2)) (z := 5) (hs _ (by decide +kernel))
  have e3 := va_eqt (t := .elem (.static "FuseBench" "PRIMES" "[I") (.int 3)) (z := 7) (hs _ (by decide +kernel))
  have e4 := va_eqt (t := .elem (.static "FuseBench" "PRIMES" "[I") (.int 4)) (z := 11) (hs _ (by decide +kernel))
  have e5 := va_eqt (t := .elem (.static "FuseBench" "PRIMES" "[I") (.int 5)) (z := 13) (hs _ (by decide +kernel))
  obtain ⟨t, h1, h2⟩ := va_Tof (tm := .static "FuseBench" "PRIMES" "[I") (ty := .int) (N := 6) (f := fun j => .int (primes j)) (A := lwA s) (by decide) harr hlen (fun j hj => by
    rcases (show j = 0 ∨ j = 1 ∨ j = 2 ∨ j = 3 ∨ j = 4 ∨ j = 5 by omega) with rfl | rfl | rfl | rfl | rfl | rfl
    · exact e0
    · exact e1
    · exact e2
    · exact e3
    · exact e4
    · exact e5) hA
  exact ⟨t, va_Zof (hts (.laysStatic "FuseBench" "PRIMES" "[I") (by decide +kernel)) (hts (.initialized "FuseBench") (by decide +kernel)) h1 hA, h2⟩
/-- both sides begin alike -/
theorem rel_0 {I : SI} (h : InitM I) : Rel LstOK iB0 I := by
  have b := tI_ok.2.2
  refine ⟨fun t ht => ⟨1, unitN 1, ⟨by decide, by decide, unitN_le 1⟩, ?_, h.1 t (by omega)⟩, ⟨0, by decide, rfl, h.2, fun j hj => by omega⟩, rfl, Or.inl rfl⟩
  rcases (show t = 0 ∨ t = 1 ∨ t = 2 ∨ t = 3 ∨ t = 4 ∨ t = 5 by omega) with rfl | rfl | rfl | rfl | rfl | rfl <;> exact ⟨b.1, b.2⟩
section LL
variable {p : Program} {l : Launch} {e : Env} {s : State} {m : MethodId} {below : List Frame} {meth : Method} {c : Code} {dC : Nat → ClassId} {dI : Nat → Nat → Nat} {cI cJ cT : ClassId} {pt b L : Nat} {xs : Nat → Int32} {aB aM : Nat → Nat}
set_option maxHeartbeats 4000000 in
theorem law_loop (F : LFx p s m c (dC, dI) cI cJ cT pt b L xs) (hr : meth.sig.returnType = ret) (hlocks : meth.locks = false) : ∀ (n i : Nat) (IB : SI) (JB : SJ) (IM : SI) (JM : SJ) (H : Heap) (locs : List Loc) (ls : Array Slot), i ≤ L → L + 1 ≤ i + n → LI s (dC, dI) cI cJ cT aB aM IB JB IM JM H locs → lv_has ls 4 [(0, .ref b), (1, .ref (aB 38)), (2, .ref (aM 13)), (3, .int (nI i))] →
    W p l e room_1 s m #[Value.ref b] below meth c H locs 53 3544 (lw_Z below #[Value.ref b] s) (F0 m 18 ls []) := by
  intro n
  induction n with
  | zero => intro i IB JB IM JM H locs ls h1 h2; exact absurd h2 (by omega)
  | succ n ih =>
    intro i IB JB IM JM H locs ls hiL hin S hl
    obtain ⟨hx, hb, hfix, hts, hX, hbl, hK, hpr, hL⟩ := id F
    obtain ⟨hR, hPB, hDB, hPM, hDM, hap, hS⟩ := id S
    have hbA : ¬ lwA s b := Nat.not_le.mpr hbl
    refine lv_iload_n hx hb dL_law_18 rfl (lv_at hl 3 rfl) ?_
    refine lv_aload_n hx hb dL_law_19 rfl (lv_at hl 0 rfl) ?_
    refine va_slen hx hb hX hbl hbA hS dL_law_20 ?_
    refine lv_bipush (v := (6 : Int32)) hx hb dL_law_21 (by decide) ?_
    refine lv_isub hx hb dL_law_23 ?_
    refine lv_icmp_gt (tgt := 1062) hx hb dL_law_24 (by decide) (fun c1 => ?_) (fun c1 => ?_)
    · refine lv_iconst (v := 1) hx hb dL_law_1062 (by decide) ?_
      refine va_forget (fun q hq => hS.2.2 q hq) ?_
      refine W.widen (k := 600000) (n := 7302249) (Nat.le_of_ble_eq_true rfl) (Nat.le_of_ble_eq_true rfl) ?_
      exact lw_ret hx hb hr hlocks dL_law_1063
    · have hi6 : i + 6 ≤ L := by
        rcases Nat.lt_or_ge L (i + 6) with q | q
        · refine absurd ?_ c1
          show nI L - 6 < nI i
          rw [lt_i, nI_iI L, show (6 : Int32) = iI 6 from rfl, iI_sub, iI_toInt (by omega) (by omega), nI_toInt (by omega)]
          omega
        · exact q
      have tail : ∀ (IB : SI) (JB : SJ) (IM : SI) (JM : SJ) (H : Heap) (locs : List Loc), LI s (dC, dI) cI cJ cT aB aM IB JB IM JM H locs → W p l e room_1 s m #[Value.ref b] below meth c H locs 53 3544 (lw_Z below #[Value.ref b] s) (F0 m 1056 ls []) := by
        intro IB JB IM JM H locs S
        refine lv_iinc (v := nI i + 6) (lv' := [(3, .int (nI i + 6)), (0, .ref b), (1, .ref (aB 38)), (2, .ref (aM 13))]) hx hb dL_law_1056 hl (k := 3) rfl (by first | rfl | decide) (by decide) rfl (fun ls hl => ?_)
        refine lv_goto (tgt := 18) hx hb dL_law_1059 (by decide) ?_
        have e6 : nI i + 6 = nI (i + 6) := nI_add i 6
        rw [e6] at hl
        exact ih (i + 6) IB JB IM JM H locs ls hi6 (by omega) S (lv_sub hl [1, 2, 3, 0] rfl)
      have h_0 : vp_in (nI i) L := nI_in (by omega) (by omega)
      refine lv_aload_n hx hb dL_law_27 rfl (lv_at hl 0 rfl) ?_
      refine lv_iload_n hx hb dL_law_28 rfl (lv_at hl 3 rfl) ?_
      refine va_sld hx hb hX hbl hbA hS h_0 dL_law_29 ?_
      refine lv_bipush (v := (31 : Int32)) hx hb dL_law_30 (by decide) ?_
      refine lv_iand hx hb dL_law_32 ?_
      obtain ⟨j, hj, ej⟩ := pk_andE (xs (nI i).toNatClampNeg) (m := 31) 5 (by decide)
      rw [ej]
      by_cases w : 25 ≤ j
      · refine lv_tableOut (tgt := 1056) hx hb dL_law_33 (Or.inr (by rw [nI_toInt (by omega)]; omega)) (by decide) ?_
        exact tail IB JB IM JM H locs S
      · rcases (show j = 0 ∨ j = 1 ∨ j = 2 ∨ j = 3 ∨ j = 4 ∨ j = 5 ∨ j = 6 ∨ j = 7 ∨ j = 8 ∨ j = 9 ∨ j = 10 ∨ j = 11 ∨ j = 12 ∨ j = 13 ∨ j = 14 ∨ j = 15 ∨ j = 16 ∨ j = 17 ∨ j = 18 ∨ j = 19 ∨ j = 20 ∨ j = 21 ∨ j = 22 ∨ j = 23 ∨ j = 24 by omega) with rfl | rfl | rfl | rfl | rfl | rfl | rfl | rfl | rfl | rfl | rfl | rfl | rfl | rfl | rfl | rfl | rfl | rfl | rfl | rfl | rfl | rfl | rfl | rfl | rfl
        · refine lv_tableIn (off := 115) (tgt := 148) hx hb dL_law_33 (by decide) (by decide) (by decide) (by decide) ?_
          exact law_rank hi6 hl S F tail
        · refine lv_tableIn (off := 148) (tgt := 181) hx hb dL_law_33 (by decide) (by decide) (by decide) (by decide) ?_
          exact law_put hi6 hl S F tail
        · refine lv_tableIn (off := 211) (tgt := 244) hx hb dL_law_33 (by decide) (by decide) (by decide) (by decide) ?_
          exact law_at hi6 hl S F tail
        · refine lv_tableIn (off := 264) (tgt := 297) hx hb dL_law_33 (by decide) (by decide) (by decide) (by decide) ?_
          exact law_fault hi6 hl S F tail
        · refine lv_tableIn (off := 297) (tgt := 330) hx hb dL_law_33 (by decide) (by decide) (by decide) (by decide) ?_
          exact law_partner hi6 hl S F tail
        · refine lv_tableIn (off := 330) (tgt := 363) hx hb dL_law_33 (by decide) (by decide) (by decide) (by decide) ?_
          exact law_copy hi6 hl S F tail
        · refine lv_tableIn (off := 363) (tgt := 396) hx hb dL_law_33 (by decide) (by decide) (by decide) (by decide) ?_
          exact law_group hi6 hl S F tail
        · refine lv_tableIn (off := 396) (tgt := 429) hx hb dL_law_33 (by decide) (by decide) (by decide) (by decide) ?_
          exact law_near hi6 hl S F tail
        · refine lv_tableIn (off := 439) (tgt := 472) hx hb dL_law_33 (by decide) (by decide) (by decide) (by decide) ?_
          exact law_together hi6 hl S F tail
        · refine lv_tableIn (off := 482) (tgt := 515) hx hb dL_law_33 (by decide) (by decide) (by decide) (by decide) ?_
          exact law_list hi6 hl S F tail
        · refine lv_tableIn (off := 525) (tgt := 558) hx hb dL_law_33 (by decide) (by decide) (by decide) (by decide) ?_
          exact law_take hi6 hl S F tail
        · refine lv_tableIn (off := 588) (tgt := 621) hx hb dL_law_33 (by decide) (by decide) (by decide) (by decide) ?_
          exact law_letter hi6 hl S F tail
        · refine lv_tableIn (off := 611) (tgt := 644) hx hb dL_law_33 (by decide) (by decide) (by decide) (by decide) ?_
          exact law_empty hi6 hl S F tail
        · refine lv_tableIn (off := 624) (tgt := 657) hx hb dL_law_33 (by decide) (by decide) (by decide) (by decide) ?_
          exact law_fused hi6 hl S F tail
        · refine lv_tableIn (off := 658) (tgt := 691) hx hb dL_law_33 (by decide) (by decide) (by decide) (by decide) ?_
          exact law_ways hi6 hl S F tail
        · refine lv_tableIn (off := 722) (tgt := 755) hx hb dL_law_33 (by decide) (by decide) (by decide) (by decide) ?_
          exact law_closed hi6 hl S F tail
        · refine lv_tableIn (off := 755) (tgt := 788) hx hb dL_law_33 (by decide) (by decide) (by decide) (by decide) ?_
          exact law_least hi6 hl S F tail
        · refine lv_tableIn (off := 788) (tgt := 821) hx hb dL_law_33 (by decide) (by decide) (by decide) (by decide) ?_
          exact law_core hi6 hl S F tail
        · refine lv_tableIn (off := 811) (tgt := 844) hx hb dL_law_33 (by decide) (by decide) (by decide) (by decide) ?_
          exact law_grade hi6 hl S F tail
        · refine lv_tableIn (off := 844) (tgt := 877) hx hb dL_law_33 (by decide) (by decide) (by decide) (by decide) ?_
          exact law_within hi6 hl S F tail
        · refine lv_tableIn (off := 867) (tgt := 900) hx hb dL_law_33 (by decide) (by decide) (by decide) (by decide) ?_
          exact law_like hi6 hl S F tail
        · refine lv_tableIn (off := 900) (tgt := 933) hx hb dL_law_33 (by decide) (by decide) (by decide) (by decide) ?_
          exact law_maps hi6 hl S F tail
        · refine lv_tableIn (off := 933) (tgt := 966) hx hb dL_law_33 (by decide) (by decide) (by decide) (by decide) ?_
          exact law_map hi6 hl S F tail
        · refine lv_tableIn (off := 986) (tgt := 1019) hx hb dL_law_33 (by decide) (by decide) (by decide) (by decide) ?_
          exact law_size hi6 hl S F tail
        · refine lv_tableIn (off := 1009) (tgt := 1042) hx hb dL_law_33 (by decide) (by decide) (by decide) (by decide) ?_
          exact law_digest hi6 hl S F tail
end LL
set_option maxHeartbeats 4000000 in
/-- THE LAW, from its entry -/
theorem whole_start {p : Program} {e : Env} {s : State} {m : MethodId} {below : List Frame} {meth : Method} {c : Code} (l : Launch) {b L : Nat} {xs : Nat → Int32} (hL : L ≤ 3072) (C0 : lw_At p s m meth c b L xs) : W p l e room_1 s m #[Value.ref b] below meth c s.heap [] 0 0 (lw_Z below #[Value.ref b] s) (entryFrame m ([Value.ref b] : List Value).toArray 4) := by
  obtain ⟨hx, hb, hr, hml, hown, hts, hX, hbl, hlocks, hgv⟩ := id C0
  have htw : ∀ w ∈ wsL_law, w.before #[Value.ref b] s = true := fun w hw => hts w (wsL_law_in w hw)
  have hA : ∀ q : Nat, s.heap.size ≤ q → lwA s q := fun _ h => h
  have hown : s.vm.findClass RL = some m.cls := hown
  have hfix : CallFix p m c cL_law 4 s #[Value.ref b] wsL_law RL := ⟨hx, hb, hml, hown, htw⟩
  obtain ⟨pt, hpr⟩ := spr_of hts hgv
  have in_X0 : ∀ w ∈ u_ws RX0 TX0 2, w ∈ wsL_law := by decide +kernel
  obtain ⟨k0, iS0, hKn0⟩ := u_known (C := RX0) (T := TX0) (N := 2) (n := 2) htw in_X0 (htw (.instantiable RX0 2) (by decide +kernel))
  have in_X1 : ∀ w ∈ u_ws RX1 TX1 3, w ∈ wsL_law := by decide +kernel
  obtain ⟨k1, iS1, hKn1⟩ := u_known (C := RX1) (T := TX1) (N := 3) (n := 3) htw in_X1 (htw (.instantiable RX1 3) (by decide +kernel))
  have in_X2 : ∀ w ∈ u_ws RX2 TX2 10, w ∈ wsL_law := by decide +kernel
  obtain ⟨k2, iS2, hKn2⟩ := u_known (C := RX2) (T := TX2) (N := 10) (n := 10) htw in_X2 (htw (.instantiable RX2 10) (by decide +kernel))
  have in_X3 : ∀ w ∈ u_ws RX3 TX3 1, w ∈ wsL_law := by decide +kernel
  obtain ⟨k3, iS3, hKn3⟩ := u_known (C := RX3) (T := TX3) (N := 1) (n := 1) htw in_X3 (htw (.instantiable RX3 1) (by decide +kernel))
  have in_X4 : ∀ w ∈ u_ws RX4 TX4 2, w ∈ wsL_law := by decide +kernel
  obtain ⟨k4, iS4, hKn4⟩ := u_known (C := RX4) (T := TX4) (N := 2) (n := 2) htw in_X4 (htw (.instantiable RX4 2) (by decide +kernel))
  have in_X6 : ∀ w ∈ u_ws RX6 TX6 2, w ∈ wsL_law := by decide +kernel
  obtain ⟨k5, iS5, hKn5⟩ := u_known (C := RX6) (T := TX6) (N := 2) (n := 2) htw in_X6 (htw (.instantiable RX6 2) (by decide +kernel))
  have in_X7 : ∀ w ∈ u_ws RX7 TX7 2, w ∈ wsL_law := by decide +kernel
  obtain ⟨k6, iS6, hKn6⟩ := u_known (C := RX7) (T := TX7) (N := 2) (n := 2) htw in_X7 (htw (.instantiable RX7 2) (by decide +kernel))
  have in_X8 : ∀ w ∈ u_ws RX8 TX8 10, w ∈ wsL_law := by decide +kernel
  obtain ⟨k7, iS7, hKn7⟩ := u_known (C := RX8) (T := TX8) (N := 10) (n := 10) htw in_X8 (htw (.instantiable RX8 10) (by decide +kernel))
  have in_X9 : ∀ w ∈ u_ws RX9 TX9 15, w ∈ wsL_law := by decide +kernel
  obtain ⟨k8, iS8, hKn8⟩ := u_known (C := RX9) (T := TX9) (N := 15) (n := 15) htw in_X9 (htw (.instantiable RX9 15) (by decide +kernel))
  obtain ⟨dC, dI, hKc⟩ : ∃ (dC : Nat → ClassId) (dI : Nat → Nat → Nat), ∀ (k : Nat) (q : vw_C), vwCl[k]? = some q → u_Kn s q.1 q.2.1 q.2.2 (dC k) (dI k) := by
    refine ⟨fun k => [k0, k1, k2, k3, k4, k5, k6, k7, k8].getD k k0, fun k => [iS0, iS1, iS2, iS3, iS4, iS5, iS6, iS7, iS8].getD k iS0, ?_⟩
    intro k q hq
    match k, hq with
    | 0, hq => cases hq; exact hKn0
    | 1, hq => cases hq; exact hKn1
    | 2, hq => cases hq; exact hKn2
    | 3, hq => cases hq; exact hKn3
    | 4, hq => cases hq; exact hKn4
    | 5, hq => cases hq; exact hKn5
    | 6, hq => cases hq; exact hKn6
    | 7, hq => cases hq; exact hKn7
    | 8, hq => cases hq; exact hKn8
    | k + 9, hq => simp [vwCl] at hq
  obtain ⟨cI, kI, pI, a1, a2, a3⟩ := Cond.arrayClass_spec (htw (.arrayClass .int) (by decide +kernel))
  obtain ⟨cJ, kJ, pJ, b1, b2, b3⟩ := Cond.arrayClass_spec (htw (.arrayClass .long) (by decide +kernel))
  have hAO : va_AO RX7 s := va_AO.of (hts (.arrayOver (.object "FuseBench$Table")) (by decide +kernel))
  obtain ⟨pT, cT, kT, t1, t2, t3, t4, t5⟩ := Cond.arrayOver_spec hAO
  have hK : va_K (dC, dI) vwCl (tys3 cI cJ cT) s := by
    refine ⟨hKc, fun k q h => ?_⟩
    match k, h with
    | 0, h => cases h; exact ⟨fun n z => ⟨fun k h => (by cases h), kI, a2, pI, a3⟩, a1⟩
    | 1, h => cases h; exact ⟨fun n z => ⟨fun k h => (by cases h), kJ, b2, pJ, b3⟩, b1⟩
    | 2, h => cases h; exact ⟨fun n z => ⟨fun k h => (by cases h), kT, t3, pT, t4⟩, kT, pT, t3, t4, t1, t5⟩
    | k + 3, h => cases h
  have hS : va_S (lwA s) s.heap s.heap [] := va_S.rf
  have hP : va_P (dC, dI) vwCl [] s.heap := fun k q h => by simp at h
  have hD : va_D (lwA s) [] := ⟨fun i j p q h => by simp at h, fun k q h => by simp at h⟩
  have hl := lv_entry ([.ref b]) (n := 4) (Nat.le_of_ble_eq_true rfl)
  rw [lg_entry_eq]
  generalize (lg_sl ([.ref b]) ++ List.replicate (4 - (lg_sl ([.ref b])).length) Slot.unset).toArray = ls at hl ⊢
  have hl : lv_has ls 4 [(0, .ref b)] := hl
  have F : LFx p s m c (dC, dI) cI cJ cT pt b L xs := ⟨hx, hb, hfix, htw, hX, hbl, hK, hpr, hL⟩
  refine va_new (ci := 7) (fs := [.null, .null, .null, .null, .null, .null, .null, .null, .null, .int 0]) (C := RX8) (T := TX8) (N := 10) hx hb htw in_X8 tyX8 tyX8_ok hown (htw (.classLink RL 7 RX8) (by decide +kernel)) (htw (.instantiable RX8 10) (by decide +kernel)) (htw (.initialized RX8) (by decide +kernel)) hK hP hD hS hA rfl (fun j hj => by rcases (show j = 0 ∨ j = 1 ∨ j = 2 ∨ j = 3 ∨ j = 4 ∨ j = 5 ∨ j = 6 ∨ j = 7 ∨ j = 8 ∨ j = 9 by omega) with rfl | rfl | rfl | rfl | rfl | rfl | rfl | rfl | rfl | rfl <;> rfl) (Nat.le_of_ble_eq_true rfl) (Nat.le_of_ble_eq_true rfl) dL_law_0 (fun q0 H hP hD hS => ?_)
  refine lv_dup hx hb dL_law_3 rfl ?_
  have hXs : ∀ U : State, U.heap = H → s.WarmedH U.vm → XB U := fun U _ hW =>
    ⟨hAO.moved hW.alike, va_Nw.warmM hW (va_Nw.of rfl (hts (.methodLinkNest RX8 22 yX1_init RX8) (by decide +kernel))), va_Nw.warmM hW (va_Nw.of rfl (hts (.methodLinkNest RX8 29 yX6_init RX8) (by decide +kernel))), va_Nw.warmM hW (va_Nw.of rfl (hts (.methodLinkNest RX8 36 yX2_init RX8) (by decide +kernel))), va_Nw.warmM hW (va_Nw.of rfl (hts (.methodLinkNest RX8 43 yX3_init RX8) (by decide +kernel))), va_Nw.warmM hW (va_Nw.of rfl (hts (.methodLinkNest RX8 50 yX4_init RX8) (by decide +kernel))), va_Nw.warmM hW (va_Nw.of rfl (hts (.methodLinkNest RX2 30 yX1_init RX8) (by decide +kernel))), va_Nw.warmM hW (va_Nw.of rfl (hts (.methodLinkNest RX8 57 yX0_init RX8) (by decide +kernel)))⟩
  refine xI (ws := []) (c_X8_init l dC dI cI cJ cT q0) bl_XB hfix (cwI 0 htw gL_law_X8_init rfl rfl rfl (htw (.initialized RX8) (by decide +kernel)) (htw (.methodLink RL 9 yX8_init) (by decide +kernel)) (htw (.instanceMethod yX8_init) (by decide +kernel)) rfl (by decide +kernel) ⟨Nat.le_of_ble_eq_true rfl, Nat.le_of_ble_eq_true rfl⟩) hXs hK hP hD hS hA hl.1 (Nat.le_of_ble_eq_true rfl) ⟨Nat.le_of_ble_eq_true rfl, Nat.le_of_ble_eq_true rfl⟩ dL_law_4 (fun aB H locs hq hP hD hS => ?_)
  have hPz : va_P (dC, dI) vwCl (wB aB cI cJ cT iB0 zJ) H := hP
  have hDz : va_D (lwA s) (wB aB cI cJ cT iB0 zJ) := hD
  clear hP hD
  subst hq
  have hP := hPz
  have hD := hDz
  refine lv_astore_n (lv' := [(1, .ref (aB 38)), (0, .ref b)]) hx hb dL_law_7 rfl hl (by decide) rfl (fun ls hl => ?_)
  refine va_new (ci := 8) (fs := [.null, .null, .null, .null, .null, .null, .int 0, .null, .int 0, .null, .null, .null, .null, .null, .null]) (C := RX9) (T := TX9) (N := 15) hx hb htw in_X9 tyX9 tyX9_ok hown (htw (.classLink RL 10 RX9) (by decide +kernel)) (htw (.instantiable RX9 15) (by decide +kernel)) (htw (.initialized RX9) (by decide +kernel)) hK hP hD hS hA rfl (fun j hj => by rcases (show j = 0 ∨ j = 1 ∨ j = 2 ∨ j = 3 ∨ j = 4 ∨ j = 5 ∨ j = 6 ∨ j = 7 ∨ j = 8 ∨ j = 9 ∨ j = 10 ∨ j = 11 ∨ j = 12 ∨ j = 13 ∨ j = 14 by omega) with rfl | rfl | rfl | rfl | rfl | rfl | rfl | rfl | rfl | rfl | rfl | rfl | rfl | rfl | rfl <;> rfl) (Nat.le_of_ble_eq_true rfl) (Nat.le_of_ble_eq_true rfl) dL_law_8 (fun q1 H hP hD hS => ?_)
  refine lv_dup hx hb dL_law_11 rfl ?_
  refine xI (ws := wB aB cI cJ cT iB0 zJ) (c_X9_init l dC dI cI cJ cT q1) bl_T hfix (cwI 0 htw gL_law_X9_init rfl rfl rfl (htw (.initialized RX9) (by decide +kernel)) (htw (.methodLink RL 12 yX9_init) (by decide +kernel)) (htw (.instanceMethod yX9_init) (by decide +kernel)) rfl (by decide +kernel) ⟨Nat.le_of_ble_eq_true rfl, Nat.le_of_ble_eq_true rfl⟩) (fun _ _ _ => trivial) hK hP hD hS hA hl.1 (Nat.le_of_ble_eq_true rfl) ⟨Nat.le_of_ble_eq_true rfl, Nat.le_of_ble_eq_true rfl⟩ dL_law_12 (fun u H locs hq hP hD hS => ?_)
  obtain ⟨aM, IM⟩ := u
  obtain ⟨hq, hI⟩ := hq
  have hq : aM 13 = q1 := hq
  have hI : InitM IM := hI
  have hPy : va_P (dC, dI) vwCl (wB aB cI cJ cT iB0 zJ ++ wM aM cI cJ IM zJ) H := hP
  have hDy : va_D (lwA s) (wB aB cI cJ cT iB0 zJ ++ wM aM cI cJ IM zJ) := hD
  clear hP hD
  subst hq
  have hP := hPy
  have hD := hDy
  refine W.widen (k := 53) (n := 3544) (Nat.le_of_ble_eq_true rfl) (Nat.le_of_ble_eq_true rfl) ?_
  refine lv_astore_n (lv' := [(2, .ref (aM 13)), (1, .ref (aB 38)), (0, .ref b)]) hx hb dL_law_15 rfl hl (by decide) rfl (fun ls hl => ?_)
  refine lv_iconst (v := 0) hx hb dL_law_16 (by decide) ?_
  refine lv_istore_n (lv' := [(3, .int 0), (2, .ref (aM 13)), (1, .ref (aB 38)), (0, .ref b)]) hx hb dL_law_17 rfl hl (by decide) rfl (fun ls hl => ?_)
  have S : LI s (dC, dI) cI cJ cT aB aM iB0 zJ IM zJ H locs := by
    refine ⟨rel_0 hI, fun k x h => hP k x (left_at h), ⟨fun i j p q hi hj => hD.1 i j p q (left_at hi) (left_at hj), fun k x h => hD.2 k x (left_at h)⟩, fun k x h => hP _ x (right_at h), ⟨fun i j p q hi hj he => ?_, fun k x h => hD.2 _ x (right_at h)⟩, fun i j p q hi hj he => ?_, hS⟩
    · have := hD.1 _ _ p q (right_at hi) (right_at hj) he
      omega
    · have h1 := hD.1 i _ p q (left_at hi) (right_at hj) he
      have h2 := (List.getElem?_eq_some_iff.mp hi).1
      omega
  exact law_loop F hr hlocks (L + 1) 0 iB0 zJ IM zJ H locs ls (Nat.zero_le L) (by omega) S (lv_sub hl [3, 2, 1, 0] rfl)
set_option maxHeartbeats 4000000 in
theorem lw_walk (l : Launch) (b : Addr) (xs : List Int32) : MetFree l x (headSpec (Jvm.Cond.code x code maxLocals ret :: tables_1) room_1) (lw_P b xs) (fun _ _ _ _ _ => True) lw_Q := by
  refine MetFree.of_bodyS (code := code) (maxLocals := maxLocals) (ret := ret) (by decide) ?_ ?_
  · intro args s m h hn
    obtain ⟨meth, c, h1, h2, h3, h4, h5, h6, -, -⟩ := Cond.code_spec hn (atoms_spec (ws := Jvm.Cond.code x code maxLocals ret :: tables_1) h _ List.mem_cons_self)
    exact ⟨meth, c, h1, h2, h3, h4, h5, h6⟩
  · intro p e s m args below meth c s₁ B hml0 hP _
    obtain ⟨rfl, hx, hbd, hgv⟩ := hP
    obtain ⟨scr, harrAt, hlist, hof, hsmall⟩ := hx
    obtain ⟨hcb, hkn, -, -⟩ := State.arrayAt?_spec harrAt
    have hown : s.vm.findClass R_law = some m.cls := findClass_of_methodNamed B.named
    have hts0 : ∀ c ∈ (Jvm.Cond.code x code maxLocals ret :: tables_1), c.before #[Value.ref b] s = true := atoms_spec (ws := Jvm.Cond.code x code maxLocals ret :: tables_1) B.pre
    have hts : ∀ w ∈ lw_tbl, w.before #[Value.ref b] s = true := k2_hts_sels lw_privs (fun w hw => hts0 w (List.mem_cons_of_mem _ hw)) lw_privs_ok
    have hml : c.maxLocals = 4 := B.maxLocals_eq (hts0 _ List.mem_cons_self)
    have X₀ : Stand p l e room_1 s m #[Value.ref b] below meth c s₁ [] 0 0 := Stand.of_body B
    have hh0 : s₁.heap = s.heap := by rw [B.state]; rfl
    have hsz : scr.slots.size = xs.length := by rw [← Array.length_toList, hlist, List.length_map]
    have hval : ∀ j : Nat, j < xs.length → scr.slots[j]? = some (.int (xs.getD j 0)) := fun j hj => by
      rw [← Array.getElem?_toList, hlist]
      simp [hj]
    have hbl : b < s.heap.size := (Array.getElem?_eq_some_iff.mp hcb).1
    have hX : va_X b xs.length (fun j => xs.getD j 0) s s.heap := ⟨scr, hcb, hof, hkn, hsz, hval⟩
    have K : W p l e room_1 s m #[Value.ref b] below meth c s₁.heap [] 0 0 (lw_Z below #[Value.ref b] s) (entryFrame m ([Value.ref b] : List Value).toArray 4) := by
      rw [hh0]
      exact whole_start l hbd ⟨B.exec, B.bytes, B.returns, hml, hown, hts, hX, hbl, B.notSynchronized, hgv⟩
    obtain ⟨t, a1, o, b1, b2, b3⟩ := K s₁ rfl X₀
    exact ⟨t, o, a1, b1, b2, b3⟩
theorem lw_pre_spec {args : Array Value} {s : State} (h : (Jvm.Cond.and given_1 narrow_1).before args s = true) (hr : rest_1_c.before args s = true) : ∃ (b : Addr) (xs : List Int32), lw_P b xs args s := by
  have hs := flat_of_before _ h
  have hq := flat_of_before _ hr
  have hc : (Cond.count 1).before args s = true := hs _ (by decide +kernel)
  have harr : (Cond.arrayOf (.arg 0) .int).before args s = true := hs _ (by decide +kernel)
  have hle : (Cond.le (.length (.arg 0)) (.int 3072)).before args s = true := hs _ (by decide +kernel)
  have hlen : (Cond.isInt (.length (.arg 0))).before args s = true := hq _ (by decide +kernel)
  have hall : (Cond.all (.arg 0) (.isInt (.elem (.arg 0) (.index 0)))).before args s = true := hq _ (by decide +kernel)
  obtain ⟨b, xs, hb, hx⟩ := State.ints_of_pre rfl harr hlen hall
  have hsm : xs.length < 2 ^ 31 := hx.choose_spec.2.2.2
  have hev : (Term.length (.arg 0)).eval args s none [] s = some (.int xs.length.toInt32) := hx.length_eval hb
  have hv := Cond.le_ints hev (show (Term.int 3072).eval args s none [] s = some (.int 3072) from rfl)
  have hd : xs.length.toInt32 ≤ 3072 := by
    simpa [Cond.before, Cond.holds, hv] using hle
  have hN : xs.length ≤ 3072 := (Int32.ofNat_le_ofNat hsm (by decide)).mp (show Int32.ofNat xs.length ≤ Int32.ofNat 3072 from hd)
  exact ⟨b, xs, Cond.one_arg hc (show args[0]? = some (.ref b) from hb), hx, hN, h⟩
theorem lw_comes (l : Launch) : Comes l x (Jvm.Cond.code x code maxLocals ret :: tables_1) room_1 (fun tb e args s => Calls_1 tb e args s ∧ rest_1 tb e args s ∧ Pre_1 tb e args s)
    (fun _ _ args s o t => lw_Q args s o t) := by
  intro p e ha hc hk s m args below hf hfit hheap happ hpre
  obtain ⟨b, xs, hP⟩ := lw_pre_spec hpre.2.2 hpre.2.1
  obtain ⟨k, o, h1, h2, h3, hQ⟩ := lw_walk l b xs p e ha hc hk s m args below hf ((Spec.applies_iff_loose hf).mp happ).1 hP trivial
  exact ⟨k, o, h1, h2, h3, hQ⟩
theorem lw_frame {s t : State} {o : Outcome} {args : Array Value} (h : Framed s o t [] 600000 7302249) :
    Framed s o t (fieldLocs frame_1_writes args s ++ arrayLocs frame_1_arrays args s ++ staticLocs frame_1_statics s) 600000 7302249 := h
theorem lw_limb (L : Cond) (hL : ∀ (args : Array Value) (s t : State), L.after args s (.returned (some (.int 1))) t = true) :
    ArmFor flags0 classFile x code maxLocals ret World_1 tables_1 room_1 Calls_1 rest_1 Pre_1
      (fun tb e a s o t => postC L tb e a s o t ∧ Framed s o t (fieldLocs frame_1_writes a s ++ arrayLocs frame_1_arrays a s ++ staticLocs frame_1_statics s) 600000 7302249) := by
  intro l _ _ _ p e ha hc hk s m args below hf hfit hheap happ hpre
  obtain ⟨k, o, h1, h2, h3, rfl, hF⟩ := lw_comes l p e ha hc hk s m args below hf hfit hheap happ hpre
  exact ⟨k, _, h1, h2, h3, hL args s _, lw_frame hF⟩
theorem i_vc : Claimed_1_1 ∧ Claimed_1_2 := ⟨lw_limb limb_1_1 (fun args s t => by simp [limb_1_1, Cond.after, Cond.holds, Cond.value]), lw_limb limb_1_2 (fun args s t => Cond.after_iff.mpr (by
  first | (rw [show limb_1_2 = Cond.eq .result (.int 1) from rfl, Cond.eq_ints (x := 1) (y := 1) rfl rfl]; simp; done) | (simp [limb_1_2, Cond.value, Term.eval]; done)))⟩
