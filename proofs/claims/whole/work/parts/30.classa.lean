theorem ag_LC_11 : AG LC 11 3 40 := ⟨by decide, rfl⟩
theorem fg_X3_23 : FG LC RX3 23 0 1 8 (1, 11) := ⟨_, _, _, _, _, rfl, rfl, rfl, by decide, uw_X3, (in_wt 137 (by decide +kernel) (by decide +kernel))⟩
theorem fg_X3_46 : FG LC RX3 46 0 1 3 (0, 0) := ⟨_, _, _, _, _, rfl, rfl, rfl, by decide, uw_X3, (in_wt 129 (by decide +kernel) (by decide +kernel))⟩
/-- PostsEnd$Firm.PostsEnd$Person personAt(int) -/
def p_Firm_personAt (σ : St) (a1 : Int32) : Option (Option Nat) := (if a1 < 0 then some none else (if a1 < σ.1 0 1 3 then (Option.bind (ix 40 a1) fun i3 => lt1 (σ.2 0 11 i3) fun x1 => some x1) else some none))
set_option maxRecDepth 20000 in
set_option maxHeartbeats 4000000 in
theorem w_p_Firm_personAt (Θ : TT) (σ : St) (a1 : Int32) (C : CX Θ cX3_personAt RX3 (some (.object "PostsEnd$Person")) ({ frames := 0, cells := 0, slots := 0, locals := 0 } : Room) 2) : WA LC Θ (fun r : Option Nat => Qm LC Θ (some (va_rf (Option.map (cAd Θ 2) r))) σ (∀ q, r = some q → q < cN Θ 2)) 0 [some (.ref (cF Θ 1)), some (.int a1)] [] σ (p_Firm_personAt σ a1) := by
  unfold p_Firm_personAt
  refine r_iload_n C dX3_personAt_0 rfl ?_
  refine r_if_lt C 21 dX3_personAt_1 (by decide) ?_ ?_
  · refine r_null C dX3_personAt_21 ?_
    exact r_aret C (x := Option.map (cAd Θ 2) none) dX3_personAt_22 rfl rfl (fun q e => nomatch e)
  · refine r_iload_n C dX3_personAt_4 rfl ?_
    refine r_aload_n C dX3_personAt_5 rfl ?_
    refine r_getI0 C dX3_personAt_6 fg_X3_46 (by decide) ?_
    refine r_icmp_ge C 21 dX3_personAt_9 (by decide) ?_ ?_
    · refine r_null C dX3_personAt_21 ?_
      exact r_aret C (x := Option.map (cAd Θ 2) none) dX3_personAt_22 rfl rfl (fun q e => nomatch e)
    · refine r_aload_n C dX3_personAt_12 rfl ?_
      refine r_getF0 C dX3_personAt_13 fg_X3_23 (by decide) ?_
      refine r_iload_n C dX3_personAt_16 rfl ?_
      refine r_aald C dX3_personAt_17 ag_LC_11 rfl (fun x1 h2 => ?_)
      refine r_goto C 22 dX3_personAt_18 (by decide) ?_
      exact r_aret C (x := Option.map (cAd Θ 2) x1) dX3_personAt_22 rfl rfl h2
theorem c_p_Firm_personAt (l : Launch) (ω : Wd) (ad : Nat → Nat → Nat) (N : Nat → Nat) (σ : St) (a1 : Int32) : ∀ r : Option Nat, p_Firm_personAt σ a1 = some r → Ct l yX3_personAt cX3_personAt 2 (some (.object "PostsEnd$Person")) ({ frames := 0, cells := 0, slots := 0, locals := 0 } : Room) LC ω ad N [.ref (ω.2.1 1), .int a1] σ (some (va_rf (Option.map (ad 2) r))) σ (∀ q, r = some q → q < N 2) :=
  ct_of (o := fun r : Option Nat => (some (va_rf (Option.map (ad 2) r)))) (s' := fun r => σ) (P := fun r => ∀ q, r = some q → q < N 2) [some (.ref (ω.2.1 1)), some (.int a1)] (by decide) rfl (Nat.le_of_ble_eq_true rfl) (fun Γ C _ _ => w_p_Firm_personAt (Γ, ω, 2, ad, N, 0, 0) σ a1 C)
theorem fg_X5_46 (j : Nat) : FG LC RX5 46 2 j 9 (4, 0) := ⟨_, _, _, _, _, rfl, rfl, rfl, by decide, uw_X5, (in_wt 553 (by decide +kernel) (by decide +kernel))⟩
theorem fg_X5_50 (j : Nat) : FG LC RX5 50 2 j 10 (4, 0) := ⟨_, _, _, _, _, rfl, rfl, rfl, by decide, uw_X5, (in_wt 554 (by decide +kernel) (by decide +kernel))⟩
/-- PostsEnd$Person.PostsEnd$Telling lastTold(int) -/
def p_Person_lastTold (σ : St) (a0 : Nat) (a1 : Int32) : Option (Option Nat) := (if a1 = 0 then (lt1 (σ.2 2 a0 9) fun x3 => some x3) else (lt1 (σ.2 2 a0 10) fun x1 => some x1))
set_option maxRecDepth 20000 in
set_option maxHeartbeats 4000000 in
theorem w_p_Person_lastTold (Θ : TT) (σ : St) (a0 : Nat) (a1 : Int32) (b0 : a0 < cN Θ 2) (C : CX Θ cX5_lastTold RX5 (some (.object "PostsEnd$Telling")) ({ frames := 0, cells := 0, slots := 0, locals := 0 } : Room) 2) : WA LC Θ (fun r : Option Nat => Qm LC Θ (some (va_rf (Option.map (cAd Θ 3) r))) σ (∀ q, r = some q → q < cN Θ 3)) 0 [some (.ref (cAd Θ 2 a0)), some (.int a1)] [] σ (p_Person_lastTold σ a0 a1) := by
  unfold p_Person_lastTold
  refine r_iload_n C dX5_lastTold_0 rfl ?_
  refine r_if_ne C 11 dX5_lastTold_1 (by decide) ?_ ?_
  · refine r_aload_n C dX5_lastTold_11 rfl ?_
    refine r_getQ C dX5_lastTold_12 (fg_X5_50 _) (by decide) b0 (fun x1 h2 => ?_)
    exact r_aret C (x := Option.map (cAd Θ 3) x1) dX5_lastTold_15 rfl rfl h2
  · refine r_aload_n C dX5_lastTold_4 rfl ?_
    refine r_getQ C dX5_lastTold_5 (fg_X5_46 _) (by decide) b0 (fun x3 h4 => ?_)
    refine r_goto C 15 dX5_lastTold_8 (by decide) ?_
    exact r_aret C (x := Option.map (cAd Θ 3) x3) dX5_lastTold_15 rfl rfl h4
theorem c_p_Person_lastTold (l : Launch) (ω : Wd) (ad : Nat → Nat → Nat) (N : Nat → Nat) (σ : St) (a0 : Nat) (a1 : Int32) (b0 : a0 < N 2) : ∀ r : Option Nat, p_Person_lastTold σ a0 a1 = some r → Ct l yX5_lastTold cX5_lastTold 2 (some (.object "PostsEnd$Telling")) ({ frames := 0, cells := 0, slots := 0, locals := 0 } : Room) LC ω ad N [.ref (ad 2 a0), .int a1] σ (some (va_rf (Option.map (ad 3) r))) σ (∀ q, r = some q → q < N 3) :=
  ct_of (o := fun r : Option Nat => (some (va_rf (Option.map (ad 3) r)))) (s' := fun r => σ) (P := fun r => ∀ q, r = some q → q < N 3) [some (.ref (ad 2 a0)), some (.int a1)] (by decide) rfl (Nat.le_of_ble_eq_true rfl) (fun Γ C _ _ => w_p_Person_lastTold (Γ, ω, 2, ad, N, 0, 0) σ a0 a1 b0 C)
theorem fg_X10_20 (j : Nat) : FG LC RX10 20 3 j 3 (0, 0) := ⟨_, _, _, _, _, rfl, rfl, rfl, by decide, uw_X10, (in_wt 644 (by decide +kernel) (by decide +kernel))⟩
theorem fg_X10_29 (j : Nat) : FG LC RX10 29 3 j 5 (5, 0) := ⟨_, _, _, _, _, rfl, rfl, rfl, by decide, uw_X10, (in_wt 647 (by decide +kernel) (by decide +kernel))⟩
theorem fg_X10_39 (j : Nat) : FG LC RX10 39 4 j 0 (0, 0) := ⟨_, _, _, _, _, rfl, rfl, rfl, by decide, uw_X9, (in_wt 687 (by decide +kernel) (by decide +kernel))⟩
theorem fg_X10_40 (j : Nat) : FG LC RX10 40 4 j 1 (0, 0) := ⟨_, _, _, _, _, rfl, rfl, rfl, by decide, uw_X9, (in_wt 689 (by decide +kernel) (by decide +kernel))⟩
theorem fg_X10_41 (j : Nat) : FG LC RX10 41 4 j 2 (5, 0) := ⟨_, _, _, _, _, rfl, rfl, rfl, by decide, uw_X9, (in_wt 691 (by decide +kernel) (by decide +kernel))⟩
/-- PostsEnd$Telling.int asOf(int) -/
def p_Telling_asOf (σ : St) (a0 : Nat) (a1 : Int32) : Option Int32 := (lt1 (σ.2 3 a0 5) fun x1 => (Option.bind (itr0 (S := (Option Nat)) (E := ((Unit) ⊕ (Int32))) (fun s3 => (Option.elim s3 (some (.inr (.inl ()))) fun q11 => (if a1 < σ.1 4 q11 0 then (lt1 (σ.2 4 q11 2) fun x13 => some (.inl x13)) else some (.inr (.inr (σ.1 4 q11 1)))))) FU x1) (Sum.elim (fun e8 => some (σ.1 3 a0 3)) some)))
set_option maxRecDepth 20000 in
set_option maxHeartbeats 4000000 in
theorem w_p_Telling_asOf (Θ : TT) (σ : St) (a0 : Nat) (a1 : Int32) (b0 : a0 < cN Θ 3) (C : CX Θ cX10_asOf RX10 (some .int) ({ frames := 0, cells := 0, slots := 0, locals := 0 } : Room) 3) : WA LC Θ (fun r : Int32 => Qm LC Θ (some (.int r)) σ (True)) 0 [some (.ref (cAd Θ 3 a0)), some (.int a1), none] [] σ (p_Telling_asOf σ a0 a1) := by
  unfold p_Telling_asOf
  refine r_aload_n C dX10_asOf_0 rfl ?_
  refine r_getQ C dX10_asOf_1 (fg_X10_29 _) (by decide) b0 (fun x1 h2 => ?_)
  refine r_astore_n C (x := Option.map (cAd Θ 4) x1) [some (.ref (cAd Θ 3 a0)), some (.int a1), some (va_rf (Option.map (cAd Θ 4) x1))] dX10_asOf_4 rfl (by decide) rfl ?_
  refine WA.joinL (α := Unit) 30 (fun e8 => [some (.ref (cAd Θ 3 a0)), none, none]) (fun e8 => []) (fun e8 => σ) (fun e8 => True) (fun e8 h9 => ?_) (fun J10 => ?_)
  · refine WA.sml ?_
    refine r_aload_n C dX10_asOf_30 rfl ?_
    refine r_getI C dX10_asOf_31 (fg_X10_20 _) (by decide) b0 ?_
    exact r_iret C dX10_asOf_34 rfl rfl trivial
  · refine WA.wk (lv' := [some (.ref (cAd Θ 3 a0)), some (.int a1), some (va_rf (Option.map (cAd Θ 4) x1))]) [true, true, true] rfl ?_
    refine WA.itr (S := (Option Nat)) 5 (fun s3 => [some (.ref (cAd Θ 3 a0)), some (.int a1), some (va_rf (Option.map (cAd Θ 4) s3))]) (fun s3 => []) (fun s3 => σ) (fun s3 => (∀ q, s3 = some q → q < cN Θ 4)) (fun s3 k7 h4 ih5 hx6 => ?_) FU x1 h2
    refine r_aload_nQ C (x := Option.map (cAd Θ 4) s3) dX10_asOf_5 rfl ?_
    refine WA.bel ?_
    rcases s3 with _ | q11
    · refine r_ifnullN C 30 dX10_asOf_6 (by decide) ?_
      refine WA.wk (lv' := [some (.ref (cAd Θ 3 a0)), none, none]) [true, false, false] rfl ?_
      exact WA.eqK (hx6 _) (J10 () trivial)
    · have h12 := h4 q11 rfl
      refine r_ifnullS C dX10_asOf_6 ?_
      refine r_aload_n C dX10_asOf_9 rfl ?_
      refine r_getI C dX10_asOf_10 (fg_X10_39 _) (by decide) h12 ?_
      refine r_iload_n C dX10_asOf_13 rfl ?_
      refine WA.bif ?_
      refine r_icmp_gt C 22 dX10_asOf_14 (by decide) ?_ ?_
      · refine r_aload_n C dX10_asOf_22 rfl ?_
        refine WA.blt ?_
        refine r_getQ C dX10_asOf_23 (fg_X10_41 _) (by decide) h12 (fun x13 h14 => ?_)
        refine r_astore_n C (x := Option.map (cAd Θ 4) x13) [some (.ref (cAd Θ 3 a0)), some (.int a1), some (va_rf (Option.map (cAd Θ 4) x13))] dX10_asOf_26 rfl (by decide) rfl ?_
        refine r_goto C 5 dX10_asOf_27 (by decide) ?_
        refine WA.wk (lv' := [some (.ref (cAd Θ 3 a0)), some (.int a1), some (va_rf (Option.map (cAd Θ 4) x13))]) [true, true, true] rfl ?_
        exact ih5 x13 h14
      · refine r_aload_n C dX10_asOf_17 rfl ?_
        refine r_getI C dX10_asOf_18 (fg_X10_40 _) (by decide) h12 ?_
        refine WA.eqK (hx6 _) ?_
        exact r_iret C dX10_asOf_21 rfl rfl trivial
theorem c_p_Telling_asOf (l : Launch) (ω : Wd) (ad : Nat → Nat → Nat) (N : Nat → Nat) (σ : St) (a0 : Nat) (a1 : Int32) (b0 : a0 < N 3) : ∀ r : Int32, p_Telling_asOf σ a0 a1 = some r → Ct l yX10_asOf cX10_asOf 3 (some .int) ({ frames := 0, cells := 0, slots := 0, locals := 0 } : Room) LC ω ad N [.ref (ad 3 a0), .int a1] σ (some (.int r)) σ (True) :=
  ct_of (o := fun r : Int32 => (some (.int r))) (s' := fun r => σ) (P := fun r => True) [some (.ref (ad 3 a0)), some (.int a1), none] (by decide) rfl (Nat.le_of_ble_eq_true rfl) (fun Γ C _ _ => w_p_Telling_asOf (Γ, ω, 3, ad, N, 0, 0) σ a0 a1 b0 C)
theorem vw_X5_lastTold : VW yX5_lastTold cX5_lastTold 2 (some (.object "PostsEnd$Telling")) 1 := ⟨⟨(in_wt 90 (by decide +kernel) (by decide +kernel)), (in_wt 631 (by decide +kernel) (by decide +kernel)), by decide +kernel⟩, (in_wt 629 (by decide +kernel) (by decide +kernel)), (in_wt 630 (by decide +kernel) (by decide +kernel))⟩
theorem vw_X10_asOf : VW yX10_asOf cX10_asOf 3 (some .int) 1 := ⟨⟨(in_wt 91 (by decide +kernel) (by decide +kernel)), (in_wt 719 (by decide +kernel) (by decide +kernel)), by decide +kernel⟩, (in_wt 717 (by decide +kernel) (by decide +kernel)), (in_wt 718 (by decide +kernel) (by decide +kernel))⟩
theorem fg_X5_62 (j : Nat) : FG LC RX5 62 3 j 2 (0, 0) := ⟨_, _, _, _, _, rfl, rfl, rfl, by decide, uw_X10, (in_wt 643 (by decide +kernel) (by decide +kernel))⟩
theorem fg_X5_69 (j : Nat) : FG LC RX5 69 3 j 4 (4, 0) := ⟨_, _, _, _, _, rfl, rfl, rfl, by decide, uw_X10, (in_wt 646 (by decide +kernel) (by decide +kernel))⟩
theorem ml_X5_58 : Cond.methodLink RX5 58 yX5_lastTold ∈ wt := in_wt 715 (by decide +kernel) (by decide +kernel)
theorem ml_X5_65 : Cond.methodLink RX5 65 yX10_asOf ∈ wt := in_wt 716 (by decide +kernel) (by decide +kernel)
/-- PostsEnd$Person.int toldAsOf(int, int) -/
def p_Person_toldAsOf (σ : St) (a0 : Nat) (a1 : Int32) (a2 : Int32) : Option Int32 := (Option.bind (p_Person_lastTold σ a0 a1) fun r1 => (Option.bind (itr0 (S := (Option Nat)) (E := ((Unit) ⊕ (Int32))) (fun s3 => (Option.elim s3 (some (.inr (.inl ()))) fun q11 => (if a2 < σ.1 3 q11 2 then (lt1 (σ.2 3 q11 4) fun x13 => some (.inl x13)) else (Option.bind (p_Telling_asOf σ q11 a2) fun r15 => some (.inr (.inr r15)))))) FU r1) (Sum.elim (fun e8 => (if a1 = 0 then some (50 : Int32) else some (0 : Int32))) some)))
set_option maxRecDepth 20000 in
set_option maxHeartbeats 4000000 in
theorem w_p_Person_toldAsOf (Θ : TT) (σ : St) (a0 : Nat) (a1 : Int32) (a2 : Int32) (b0 : a0 < cN Θ 2) (C : CX Θ cX5_toldAsOf RX5 (some .int) ({ frames := 1, cells := 0, slots := 0, locals := 22 } : Room) 4) : WA LC Θ (fun r : Int32 => Qm LC Θ (some (.int r)) σ (True)) 0 [some (.ref (cAd Θ 2 a0)), some (.int a1), some (.int a2), none] [] σ (p_Person_toldAsOf σ a0 a1 a2) := by
  unfold p_Person_toldAsOf
  refine r_aload_n C dX5_toldAsOf_0 rfl ?_
  refine r_iload_n C dX5_toldAsOf_1 rfl ?_
  refine r_callV C (st := []) (As := [.int a1]) (d := 2) (j := a0) dX5_toldAsOf_2 ml_X5_58 vw_X5_lastTold ⟨_, _, _, _, rfl, rfl⟩ (dmk (by decide) (by decide) b0) (fun r1 e => c_p_Person_lastTold Θ.1.2.1 (cW Θ) (cAd Θ) (cN Θ) σ a0 a1 b0 r1 e) rfl rfl (Nat.le_of_ble_eq_true rfl) ⟨rfl, rfl, by decide, by decide⟩ (fun r1 h2 => ?_)
  refine r_astore_n C (x := Option.map (cAd Θ 3) r1) [some (.ref (cAd Θ 2 a0)), some (.int a1), some (.int a2), some (va_rf (Option.map (cAd Θ 3) r1))] dX5_toldAsOf_5 rfl (by decide) rfl ?_
  refine WA.joinL (α := Unit) 32 (fun e8 => [none, some (.int a1), none, none]) (fun e8 => []) (fun e8 => σ) (fun e8 => True) (fun e8 h9 => ?_) (fun J10 => ?_)
  · refine WA.sml ?_
    refine r_iload_n C dX5_toldAsOf_32 rfl ?_
    refine r_if_ne C 41 dX5_toldAsOf_33 (by decide) ?_ ?_
    · refine r_iconst C (0 : Int32) dX5_toldAsOf_41 (by decide) ?_
      exact r_iret C dX5_toldAsOf_42 rfl rfl trivial
    · refine r_bipush C (50 : Int32) dX5_toldAsOf_36 (by decide) ?_
      refine r_goto C 42 dX5_toldAsOf_38 (by decide) ?_
      exact r_iret C dX5_toldAsOf_42 rfl rfl trivial
  · refine WA.wk (lv' := [none, some (.int a1), some (.int a2), some (va_rf (Option.map (cAd Θ 3) r1))]) [false, true, true, true] rfl ?_
    refine WA.itr (S := (Option Nat)) 6 (fun s3 => [none, some (.int a1), some (.int a2), some (va_rf (Option.map (cAd Θ 3) s3))]) (fun s3 => []) (fun s3 => σ) (fun s3 => (∀ q, s3 = some q → q < cN Θ 3)) (fun s3 k7 h4 ih5 hx6 => ?_) FU r1 h2
    refine r_aload_nQ C (x := Option.map (cAd Θ 3) s3) dX5_toldAsOf_6 rfl ?_
    refine WA.bel ?_
    rcases s3 with _ | q11
    · refine r_ifnullN C 32 dX5_toldAsOf_7 (by decide) ?_
      refine WA.wk (lv' := [none, some (.int a1), none, none]) [false, true, false, false] rfl ?_
      exact WA.eqK (hx6 _) (J10 () trivial)
    · have h12 := h4 q11 rfl
      refine r_ifnullS C dX5_toldAsOf_7 ?_
      refine r_aload_n C dX5_toldAsOf_10 rfl ?_
      refine r_getI C dX5_toldAsOf_11 (fg_X5_62 _) (by decide) h12 ?_
      refine r_iload_n C dX5_toldAsOf_14 rfl ?_
      refine WA.bif ?_
      refine r_icmp_gt C 24 dX5_toldAsOf_15 (by decide) ?_ ?_
      · refine r_aload_n C dX5_toldAsOf_24 rfl ?_
        refine WA.blt ?_
        refine r_getQ C dX5_toldAsOf_25 (fg_X5_69 _) (by decide) h12 (fun x13 h14 => ?_)
        refine r_astore_n C (x := Option.map (cAd Θ 3) x13) [none, some (.int a1), some (.int a2), some (va_rf (Option.map (cAd Θ 3) x13))] dX5_toldAsOf_28 rfl (by decide) rfl ?_
        refine r_goto C 6 dX5_toldAsOf_29 (by decide) ?_
        refine WA.wk (lv' := [none, some (.int a1), some (.int a2), some (va_rf (Option.map (cAd Θ 3) x13))]) [false, true, true, true] rfl ?_
        exact ih5 x13 h14
      · refine r_aload_n C dX5_toldAsOf_18 rfl ?_
        refine r_iload_n C dX5_toldAsOf_19 rfl ?_
        refine WA.asc ?_
        refine r_callV C (st := []) (As := [.int a2]) (d := 3) (j := q11) dX5_toldAsOf_20 ml_X5_65 vw_X10_asOf ⟨_, _, _, _, rfl, rfl⟩ (dmk (by decide) (by decide) h12) (fun r15 e => c_p_Telling_asOf Θ.1.2.1 (cW Θ) (cAd Θ) (cN Θ) σ q11 a2 h12 r15 e) rfl rfl (Nat.le_of_ble_eq_true rfl) ⟨rfl, rfl, by decide, by decide⟩ (fun r15 h16 => ?_)
        refine WA.eqK (hx6 _) ?_
        exact r_iret C dX5_toldAsOf_23 rfl rfl trivial
theorem c_p_Person_toldAsOf (l : Launch) (ω : Wd) (ad : Nat → Nat → Nat) (N : Nat → Nat) (σ : St) (a0 : Nat) (a1 : Int32) (a2 : Int32) (b0 : a0 < N 2) : ∀ r : Int32, p_Person_toldAsOf σ a0 a1 a2 = some r → Ct l yX5_toldAsOf cX5_toldAsOf 4 (some .int) ({ frames := 1, cells := 0, slots := 0, locals := 22 } : Room) LC ω ad N [.ref (ad 2 a0), .int a1, .int a2] σ (some (.int r)) σ (True) :=
  ct_of (o := fun r : Int32 => (some (.int r))) (s' := fun r => σ) (P := fun r => True) [some (.ref (ad 2 a0)), some (.int a1), some (.int a2), none] (by decide) rfl (Nat.le_of_ble_eq_true rfl) (fun Γ C _ _ => w_p_Person_toldAsOf (Γ, ω, 4, ad, N, 0, 0) σ a0 a1 a2 b0 C)
theorem kc_J6_265 : Cond.constant RJ6 265 (1431655765) ∈ wt := in_wt 726 (by decide +kernel) (by decide +kernel)
theorem kc_J6_266 : Cond.constant RJ6 266 (858993459) ∈ wt := in_wt 727 (by decide +kernel) (by decide +kernel)
theorem kc_J6_267 : Cond.constant RJ6 267 (252645135) ∈ wt := in_wt 728 (by decide +kernel) (by decide +kernel)
/-- java/lang/Integer.public static int bitCount(int) -/
def j_Integer_bitCount (a0 : Int32) : Option Int32 := some ((((((((a0 - (((Int32.toUInt32 a0 >>> (Int32.toUInt32 (1 : Int32) &&& Int32.toUInt32 31)).toInt32) &&& (1431655765 : Int32))) &&& (858993459 : Int32)) + (((Int32.toUInt32 (a0 - (((Int32.toUInt32 a0 >>> (Int32.toUInt32 (1 : Int32) &&& Int32.toUInt32 31)).toInt32) &&& (1431655765 : Int32))) >>> (Int32.toUInt32 (2 : Int32) &&& Int32.toUInt32 31)).toInt32) &&& (858993459 : Int32))) + ((Int32.toUInt32 (((a0 - (((Int32.toUInt32 a0 >>> (Int32.toUInt32 (1 : Int32) &&& Int32.toUInt32 31)).toInt32) &&& (1431655765 : Int32))) &&& (858993459 : Int32)) + (((Int32.toUInt32 (a0 - (((Int32.toUInt32 a0 >>> (Int32.toUInt32 (1 : Int32) &&& Int32.toUInt32 31)).toInt32) &&& (1431655765 : Int32))) >>> (Int32.toUInt32 (2 : Int32) &&& Int32.toUInt32 31)).toInt32) &&& (858993459 : Int32))) >>> (Int32.toUInt32 (4 : Int32) &&& Int32.toUInt32 31)).toInt32)) &&& (252645135 : Int32)) + ((Int32.toUInt32 (((((a0 - (((Int32.toUInt32 a0 >>> (Int32.toUInt32 (1 : Int32) &&& Int32.toUInt32 31)).toInt32) &&& (1431655765 : Int32))) &&& (858993459 : Int32)) + (((Int32.toUInt32 (a0 - (((Int32.toUInt32 a0 >>> (Int32.toUInt32 (1 : Int32) &&& Int32.toUInt32 31)).toInt32) &&& (1431655765 : Int32))) >>> (Int32.toUInt32 (2 : Int32) &&& Int32.toUInt32 31)).toInt32) &&& (858993459 : Int32))) + ((Int32.toUInt32 (((a0 - (((Int32.toUInt32 a0 >>> (Int32.toUInt32 (1 : Int32) &&& Int32.toUInt32 31)).toInt32) &&& (1431655765 : Int32))) &&& (858993459 : Int32)) + (((Int32.toUInt32 (a0 - (((Int32.toUInt32 a0 >>> (Int32.toUInt32 (1 : Int32) &&& Int32.toUInt32 31)).toInt32) &&& (1431655765 : Int32))) >>> (Int32.toUInt32 (2 : Int32) &&& Int32.toUInt32 31)).toInt32) &&& (858993459 : Int32))) >>> (Int32.toUInt32 (4 : Int32) &&& Int32.toUInt32 31)).toInt32)) &&& (252645135 : Int32)) >>> (Int32.toUInt32 (8 : Int32) &&& Int32.toUInt32 31)).toInt32)) + ((Int32.toUInt32 ((((((a0 - (((Int32.toUInt32 a0 >>> (Int32.toUInt32 (1 : Int32) &&& Int32.toUInt32 31)).toInt32) &&& (1431655765 : Int32))) &&& (858993459 : Int32)) + (((Int32.toUInt32 (a0 - (((Int32.toUInt32 a0 >>> (Int32.toUInt32 (1 : Int32) &&& Int32.toUInt32 31)).toInt32) &&& (1431655765 : Int32))) >>> (Int32.toUInt32 (2 : Int32) &&& Int32.toUInt32 31)).toInt32) &&& (858993459 : Int32))) + ((Int32.toUInt32 (((a0 - (((Int32.toUInt32 a0 >>> (Int32.toUInt32 (1 : Int32) &&& Int32.toUInt32 31)).toInt32) &&& (1431655765 : Int32))) &&& (858993459 : Int32)) + (((Int32.toUInt32 (a0 - (((Int32.toUInt32 a0 >>> (Int32.toUInt32 (1 : Int32) &&& Int32.toUInt32 31)).toInt32) &&& (1431655765 : Int32))) >>> (Int32.toUInt32 (2 : Int32) &&& Int32.toUInt32 31)).toInt32) &&& (858993459 : Int32))) >>> (Int32.toUInt32 (4 : Int32) &&& Int32.toUInt32 31)).toInt32)) &&& (252645135 : Int32)) + ((Int32.toUInt32 (((((a0 - (((Int32.toUInt32 a0 >>> (Int32.toUInt32 (1 : Int32) &&& Int32.toUInt32 31)).toInt32) &&& (1431655765 : Int32))) &&& (858993459 : Int32)) + (((Int32.toUInt32 (a0 - (((Int32.toUInt32 a0 >>> (Int32.toUInt32 (1 : Int32) &&& Int32.toUInt32 31)).toInt32) &&& (1431655765 : Int32))) >>> (Int32.toUInt32 (2 : Int32) &&& Int32.toUInt32 31)).toInt32) &&& (858993459 : Int32))) + ((Int32.toUInt32 (((a0 - (((Int32.toUInt32 a0 >>> (Int32.toUInt32 (1 : Int32) &&& Int32.toUInt32 31)).toInt32) &&& (1431655765 : Int32))) &&& (858993459 : Int32)) + (((Int32.toUInt32 (a0 - (((Int32.toUInt32 a0 >>> (Int32.toUInt32 (1 : Int32) &&& Int32.toUInt32 31)).toInt32) &&& (1431655765 : Int32))) >>> (Int32.toUInt32 (2 : Int32) &&& Int32.toUInt32 31)).toInt32) &&& (858993459 : Int32))) >>> (Int32.toUInt32 (4 : Int32) &&& Int32.toUInt32 31)).toInt32)) &&& (252645135 : Int32)) >>> (Int32.toUInt32 (8 : Int32) &&& Int32.toUInt32 31)).toInt32)) >>> (Int32.toUInt32 (16 : Int32) &&& Int32.toUInt32 31)).toInt32)) &&& (63 : Int32))
set_option maxRecDepth 20000 in
set_option maxHeartbeats 4000000 in
theorem w_j_Integer_bitCount (Θ : TT) (σ : St) (a0 : Int32) (C : CX Θ cJ6_bitCount_0f7a4 RJ6 (some .int) ({ frames := 0, cells := 0, slots := 0, locals := 0 } : Room) 1) : WA LC Θ (fun r : Int32 => Qm LC Θ (some (.int r)) σ (True)) 0 [some (.int a0)] [] σ (j_Integer_bitCount a0) := by
  unfold j_Integer_bitCount
  refine r_iload_n C dJ6_bitCount_0f7a4_0 rfl ?_
  refine r_iload_n C dJ6_bitCount_0f7a4_1 rfl ?_
  refine r_iconst C (1 : Int32) dJ6_bitCount_0f7a4_2 (by decide) ?_
  refine r_iushr C dJ6_bitCount_0f7a4_3 ?_
  refine r_ldcw C dJ6_bitCount_0f7a4_4 kc_J6_265 ?_
  refine r_iand C dJ6_bitCount_0f7a4_7 ?_
  refine r_isub C dJ6_bitCount_0f7a4_8 ?_
  refine r_istore_n C [some (.int (a0 - (((Int32.toUInt32 a0 >>> (Int32.toUInt32 (1 : Int32) &&& Int32.toUInt32 31)).toInt32) &&& (1431655765 : Int32))))] dJ6_bitCount_0f7a4_9 rfl (by decide) rfl ?_
  refine r_iload_n C dJ6_bitCount_0f7a4_10 rfl ?_
  refine r_ldcw C dJ6_bitCount_0f7a4_11 kc_J6_266 ?_
  refine r_iand C dJ6_bitCount_0f7a4_14 ?_
  refine r_iload_n C dJ6_bitCount_0f7a4_15 rfl ?_
  refine r_iconst C (2 : Int32) dJ6_bitCount_0f7a4_16 (by decide) ?_
  refine r_iushr C dJ6_bitCount_0f7a4_17 ?_
  refine r_ldcw C dJ6_bitCount_0f7a4_18 kc_J6_266 ?_
  refine r_iand C dJ6_bitCount_0f7a4_21 ?_
  refine r_iadd C dJ6_bitCount_0f7a4_22 ?_
  refine r_istore_n C [some (.int (((a0 - (((Int32.toUInt32 a0 >>> (Int32.toUInt32 (1 : Int32) &&& Int32.toUInt32 31)).toInt32) &&& (1431655765 : Int32))) &&& (858993459 : Int32)) + (((Int32.toUInt32 (a0 - (((Int32.toUInt32 a0 >>> (Int32.toUInt32 (1 : Int32) &&& Int32.toUInt32 31)).toInt32) &&& (1431655765 : Int32))) >>> (Int32.toUInt32 (2 : Int32) &&& Int32.toUInt32 31)).toInt32) &&& (858993459 : Int32))))] dJ6_bitCount_0f7a4_23 rfl (by decide) rfl ?_
  refine r_iload_n C dJ6_bitCount_0f7a4_24 rfl ?_
  refine r_iload_n C dJ6_bitCount_0f7a4_25 rfl ?_
  refine r_iconst C (4 : Int32) dJ6_bitCount_0f7a4_26 (by decide) ?_
  refine r_iushr C dJ6_bitCount_0f7a4_27 ?_
  refine r_iadd C dJ6_bitCount_0f7a4_28 ?_
  refine r_ldcw C dJ6_bitCount_0f7a4_29 kc_J6_267 ?_
  refine r_iand C dJ6_bitCount_0f7a4_32 ?_
  refine r_istore_n C [some (.int (((((a0 - (((Int32.toUInt32 a0 >>> (Int32.toUInt32 (1 : Int32) &&& Int32.toUInt32 31)).toInt32) &&& (1431655765 : Int32))) &&& (858993459 : Int32)) + (((Int32.toUInt32 (a0 - (((Int32.toUInt32 a0 >>> (Int32.toUInt32 (1 : Int32) &&& Int32.toUInt32 31)).toInt32) &&& (1431655765 : Int32))) >>> (Int32.toUInt32 (2 : Int32) &&& Int32.toUInt32 31)).toInt32) &&& (858993459 : Int32))) + ((Int32.toUInt32 (((a0 - (((Int32.toUInt32 a0 >>> (Int32.toUInt32 (1 : Int32) &&& Int32.toUInt32 31)).toInt32) &&& (1431655765 : Int32))) &&& (858993459 : Int32)) + (((Int32.toUInt32 (a0 - (((Int32.toUInt32 a0 >>> (Int32.toUInt32 (1 : Int32) &&& Int32.toUInt32 31)).toInt32) &&& (1431655765 : Int32))) >>> (Int32.toUInt32 (2 : Int32) &&& Int32.toUInt32 31)).toInt32) &&& (858993459 : Int32))) >>> (Int32.toUInt32 (4 : Int32) &&& Int32.toUInt32 31)).toInt32)) &&& (252645135 : Int32)))] dJ6_bitCount_0f7a4_33 rfl (by decide) rfl ?_
  refine r_iload_n C dJ6_bitCount_0f7a4_34 rfl ?_
  refine r_iload_n C dJ6_bitCount_0f7a4_35 rfl ?_
  refine r_bipush C (8 : Int32) dJ6_bitCount_0f7a4_36 (by decide) ?_
  refine r_iushr C dJ6_bitCount_0f7a4_38 ?_
  refine r_iadd C dJ6_bitCount_0f7a4_39 ?_
  refine r_istore_n C [some (.int ((((((a0 - (((Int32.toUInt32 a0 >>> (Int32.toUInt32 (1 : Int32) &&& Int32.toUInt32 31)).toInt32) &&& (1431655765 : Int32))) &&& (858993459 : Int32)) + (((Int32.toUInt32 (a0 - (((Int32.toUInt32 a0 >>> (Int32.toUInt32 (1 : Int32) &&& Int32.toUInt32 31)).toInt32) &&& (1431655765 : Int32))) >>> (Int32.toUInt32 (2 : Int32) &&& Int32.toUInt32 31)).toInt32) &&& (858993459 : Int32))) + ((Int32.toUInt32 (((a0 - (((Int32.toUInt32 a0 >>> (Int32.toUInt32 (1 : Int32) &&& Int32.toUInt32 31)).toInt32) &&& (1431655765 : Int32))) &&& (858993459 : Int32)) + (((Int32.toUInt32 (a0 - (((Int32.toUInt32 a0 >>> (Int32.toUInt32 (1 : Int32) &&& Int32.toUInt32 31)).toInt32) &&& (1431655765 : Int32))) >>> (Int32.toUInt32 (2 : Int32) &&& Int32.toUInt32 31)).toInt32) &&& (858993459 : Int32))) >>> (Int32.toUInt32 (4 : Int32) &&& Int32.toUInt32 31)).toInt32)) &&& (252645135 : Int32)) + ((Int32.toUInt32 (((((a0 - (((Int32.toUInt32 a0 >>> (Int32.toUInt32 (1 : Int32) &&& Int32.toUInt32 31)).toInt32) &&& (1431655765 : Int32))) &&& (858993459 : Int32)) + (((Int32.toUInt32 (a0 - (((Int32.toUInt32 a0 >>> (Int32.toUInt32 (1 : Int32) &&& Int32.toUInt32 31)).toInt32) &&& (1431655765 : Int32))) >>> (Int32.toUInt32 (2 : Int32) &&& Int32.toUInt32 31)).toInt32) &&& (858993459 : Int32))) + ((Int32.toUInt32 (((a0 - (((Int32.toUInt32 a0 >>> (Int32.toUInt32 (1 : Int32) &&& Int32.toUInt32 31)).toInt32) &&& (1431655765 : Int32))) &&& (858993459 : Int32)) + (((Int32.toUInt32 (a0 - (((Int32.toUInt32 a0 >>> (Int32.toUInt32 (1 : Int32) &&& Int32.toUInt32 31)).toInt32) &&& (1431655765 : Int32))) >>> (Int32.toUInt32 (2 : Int32) &&& Int32.toUInt32 31)).toInt32) &&& (858993459 : Int32))) >>> (Int32.toUInt32 (4 : Int32) &&& Int32.toUInt32 31)).toInt32)) &&& (252645135 : Int32)) >>> (Int32.toUInt32 (8 : Int32) &&& Int32.toUInt32 31)).toInt32)))] dJ6_bitCount_0f7a4_40 rfl (by decide) rfl ?_
  refine r_iload_n C dJ6_bitCount_0f7a4_41 rfl ?_
  refine r_iload_n C dJ6_bitCount_0f7a4_42 rfl ?_
  refine r_bipush C (16 : Int32) dJ6_bitCount_0f7a4_43 (by decide) ?_
  refine r_iushr C dJ6_bitCount_0f7a4_45 ?_
  refine r_iadd C dJ6_bitCount_0f7a4_46 ?_
  refine r_istore_n C [some (.int (((((((a0 - (((Int32.toUInt32 a0 >>> (Int32.toUInt32 (1 : Int32) &&& Int32.toUInt32 31)).toInt32) &&& (1431655765 : Int32))) &&& (858993459 : Int32)) + (((Int32.toUInt32 (a0 - (((Int32.toUInt32 a0 >>> (Int32.toUInt32 (1 : Int32) &&& Int32.toUInt32 31)).toInt32) &&& (1431655765 : Int32))) >>> (Int32.toUInt32 (2 : Int32) &&& Int32.toUInt32 31)).toInt32) &&& (858993459 : Int32))) + ((Int32.toUInt32 (((a0 - (((Int32.toUInt32 a0 >>> (Int32.toUInt32 (1 : Int32) &&& Int32.toUInt32 31)).toInt32) &&& (1431655765 : Int32))) &&& (858993459 : Int32)) + (((Int32.toUInt32 (a0 - (((Int32.toUInt32 a0 >>> (Int32.toUInt32 (1 : Int32) &&& Int32.toUInt32 31)).toInt32) &&& (1431655765 : Int32))) >>> (Int32.toUInt32 (2 : Int32) &&& Int32.toUInt32 31)).toInt32) &&& (858993459 : Int32))) >>> (Int32.toUInt32 (4 : Int32) &&& Int32.toUInt32 31)).toInt32)) &&& (252645135 : Int32)) + ((Int32.toUInt32 (((((a0 - (((Int32.toUInt32 a0 >>> (Int32.toUInt32 (1 : Int32) &&& Int32.toUInt32 31)).toInt32) &&& (1431655765 : Int32))) &&& (858993459 : Int32)) + (((Int32.toUInt32 (a0 - (((Int32.toUInt32 a0 >>> (Int32.toUInt32 (1 : Int32) &&& Int32.toUInt32 31)).toInt32) &&& (1431655765 : Int32))) >>> (Int32.toUInt32 (2 : Int32) &&& Int32.toUInt32 31)).toInt32) &&& (858993459 : Int32))) + ((Int32.toUInt32 (((a0 - (((Int32.toUInt32 a0 >>> (Int32.toUInt32 (1 : Int32) &&& Int32.toUInt32 31)).toInt32) &&& (1431655765 : Int32))) &&& (858993459 : Int32)) + (((Int32.toUInt32 (a0 - (((Int32.toUInt32 a0 >>> (Int32.toUInt32 (1 : Int32) &&& Int32.toUInt32 31)).toInt32) &&& (1431655765 : Int32))) >>> (Int32.toUInt32 (2 : Int32) &&& Int32.toUInt32 31)).toInt32) &&& (858993459 : Int32))) >>> (Int32.toUInt32 (4 : Int32) &&& Int32.toUInt32 31)).toInt32)) &&& (252645135 : Int32)) >>> (Int32.toUInt32 (8 : Int32) &&& Int32.toUInt32 31)).toInt32)) + ((Int32.toUInt32 ((((((a0 - (((Int32.toUInt32 a0 >>> (Int32.toUInt32 (1 : Int32) &&& Int32.toUInt32 31)).toInt32) &&& (1431655765 : Int32))) &&& (858993459 : Int32)) + (((Int32.toUInt32 (a0 - (((Int32.toUInt32 a0 >>> (Int32.toUInt32 (1 : Int32) &&& Int32.toUInt32 31)).toInt32) &&& (1431655765 : Int32))) >>> (Int32.toUInt32 (2 : Int32) &&& Int32.toUInt32 31)).toInt32) &&& (858993459 : Int32))) + ((Int32.toUInt32 (((a0 - (((Int32.toUInt32 a0 >>> (Int32.toUInt32 (1 : Int32) &&& Int32.toUInt32 31)).toInt32) &&& (1431655765 : Int32))) &&& (858993459 : Int32)) + (((Int32.toUInt32 (a0 - (((Int32.toUInt32 a0 >>> (Int32.toUInt32 (1 : Int32) &&& Int32.toUInt32 31)).toInt32) &&& (1431655765 : Int32))) >>> (Int32.toUInt32 (2 : Int32) &&& Int32.toUInt32 31)).toInt32) &&& (858993459 : Int32))) >>> (Int32.toUInt32 (4 : Int32) &&& Int32.toUInt32 31)).toInt32)) &&& (252645135 : Int32)) + ((Int32.toUInt32 (((((a0 - (((Int32.toUInt32 a0 >>> (Int32.toUInt32 (1 : Int32) &&& Int32.toUInt32 31)).toInt32) &&& (1431655765 : Int32))) &&& (858993459 : Int32)) + (((Int32.toUInt32 (a0 - (((Int32.toUInt32 a0 >>> (Int32.toUInt32 (1 : Int32) &&& Int32.toUInt32 31)).toInt32) &&& (1431655765 : Int32))) >>> (Int32.toUInt32 (2 : Int32) &&& Int32.toUInt32 31)).toInt32) &&& (858993459 : Int32))) + ((Int32.toUInt32 (((a0 - (((Int32.toUInt32 a0 >>> (Int32.toUInt32 (1 : Int32) &&& Int32.toUInt32 31)).toInt32) &&& (1431655765 : Int32))) &&& (858993459 : Int32)) + (((Int32.toUInt32 (a0 - (((Int32.toUInt32 a0 >>> (Int32.toUInt32 (1 : Int32) &&& Int32.toUInt32 31)).toInt32) &&& (1431655765 : Int32))) >>> (Int32.toUInt32 (2 : Int32) &&& Int32.toUInt32 31)).toInt32) &&& (858993459 : Int32))) >>> (Int32.toUInt32 (4 : Int32) &&& Int32.toUInt32 31)).toInt32)) &&& (252645135 : Int32)) >>> (Int32.toUInt32 (8 : Int32) &&& Int32.toUInt32 31)).toInt32)) >>> (Int32.toUInt32 (16 : Int32) &&& Int32.toUInt32 31)).toInt32)))] dJ6_bitCount_0f7a4_47 rfl (by decide) rfl ?_
  refine r_iload_n C dJ6_bitCount_0f7a4_48 rfl ?_
  refine r_bipush C (63 : Int32) dJ6_bitCount_0f7a4_49 (by decide) ?_
  refine r_iand C dJ6_bitCount_0f7a4_51 ?_
  exact r_iret C dJ6_bitCount_0f7a4_52 rfl rfl trivial
theorem c_j_Integer_bitCount (l : Launch) (ω : Wd) (ad : Nat → Nat → Nat) (N : Nat → Nat) (σ : St) (a0 : Int32) : ∀ r : Int32, j_Integer_bitCount a0 = some r → Ct l yJ6_bitCount_0f7a4 cJ6_bitCount_0f7a4 1 (some .int) ({ frames := 0, cells := 0, slots := 0, locals := 0 } : Room) LC ω ad N [.int a0] σ (some (.int r)) σ (True) :=
  ct_of (o := fun r : Int32 => (some (.int r))) (s' := fun r => σ) (P := fun r => True) [some (.int a0)] (by decide) rfl (Nat.le_of_ble_eq_true rfl) (fun Γ C _ _ => w_j_Integer_bitCount (Γ, ω, 1, ad, N, 0, 0) σ a0 C)
theorem sw_J6_bitCount_0f7a4 : SW yJ6_bitCount_0f7a4 cJ6_bitCount_0f7a4 1 (some .int) 1 := ⟨⟨(in_wt 93 (by decide +kernel) (by decide +kernel)), (in_wt 725 (by decide +kernel) (by decide +kernel)), by decide +kernel⟩, (in_wt 724 (by decide +kernel) (by decide +kernel))⟩
theorem fg_X11_356 (j : Nat) : FG LC RX11 356 1 j 5 (0, 0) := ⟨_, _, _, _, _, rfl, rfl, rfl, by decide, uw_X7, (in_wt 456 (by decide +kernel) (by decide +kernel))⟩
theorem fg_X11_364 (j : Nat) : FG LC RX11 364 2 j 1 (0, 0) := ⟨_, _, _, _, _, rfl, rfl, rfl, by decide, uw_X5, (in_wt 531 (by decide +kernel) (by decide +kernel))⟩
theorem ml_X11_359 : Cond.methodLink RX11 359 yJ6_bitCount_0f7a4 ∈ wt := in_wt 723 (by decide +kernel) (by decide +kernel)
/-- PostsEnd.private static int skillFor(PostsEnd$Person, PostsEnd$Post) -/
def p_PE_skillFor (σ : St) (a0 : Nat) (a1 : Nat) : Option Int32 := (Option.bind (j_Integer_bitCount (σ.1 1 a1 5)) fun r1 => (if r1 = 0 then some (100 : Int32) else (Option.bind (j_Integer_bitCount ((σ.1 2 a0 1) &&& (σ.1 1 a1 5))) fun r3 => (if r1 = 0 then none else some (((100 : Int32) * r3) / r1)))))
set_option maxRecDepth 20000 in
set_option maxHeartbeats 4000000 in
theorem w_p_PE_skillFor (Θ : TT) (σ : St) (a0 : Nat) (a1 : Nat) (b0 : a0 < cN Θ 2) (b1 : a1 < cN Θ 1) (C : CX Θ cX11_skillFor RX11 (some .int) ({ frames := 1, cells := 0, slots := 0, locals := 20 } : Room) 3) : WA LC Θ (fun r : Int32 => Qm LC Θ (some (.int r)) σ (True)) 0 [some (.ref (cAd Θ 2 a0)), some (.ref (cAd Θ 1 a1)), none] [] σ (p_PE_skillFor σ a0 a1) := by
  unfold p_PE_skillFor
  refine r_aload_n C dX11_skillFor_0 rfl ?_
  refine r_getI C dX11_skillFor_1 (fg_X11_356 _) (by decide) b1 ?_
  refine r_callS C (st := []) (As := [.int (σ.1 1 a1 5)]) dX11_skillFor_4 ml_X11_359 sw_J6_bitCount_0f7a4 (fun r1 e => c_j_Integer_bitCount Θ.1.2.1 (cW Θ) (cAd Θ) (cN Θ) σ (σ.1 1 a1 5) r1 e) rfl rfl (Nat.le_of_ble_eq_true rfl) ⟨rfl, rfl, by decide, by decide⟩ (fun r1 h2 => ?_)
  refine r_istore_n C [some (.ref (cAd Θ 2 a0)), some (.ref (cAd Θ 1 a1)), some (.int r1)] dX11_skillFor_7 rfl (by decide) rfl ?_
  refine r_iload_n C dX11_skillFor_8 rfl ?_
  refine r_if_ne C 15 dX11_skillFor_9 (by decide) ?_ ?_
  · refine r_bipush C (100 : Int32) dX11_skillFor_15 (by decide) ?_
    refine r_aload_n C dX11_skillFor_17 rfl ?_
    refine r_getI C dX11_skillFor_18 (fg_X11_364 _) (by decide) b0 ?_
    refine r_aload_n C dX11_skillFor_21 rfl ?_
    refine r_getI C dX11_skillFor_22 (fg_X11_356 _) (by decide) b1 ?_
    refine r_iand C dX11_skillFor_25 ?_
    refine r_callS C (st := [.int (100 : Int32)]) (As := [.int ((σ.1 2 a0 1) &&& (σ.1 1 a1 5))]) dX11_skillFor_26 ml_X11_359 sw_J6_bitCount_0f7a4 (fun r3 e => c_j_Integer_bitCount Θ.1.2.1 (cW Θ) (cAd Θ) (cN Θ) σ ((σ.1 2 a0 1) &&& (σ.1 1 a1 5)) r3 e) rfl rfl (Nat.le_of_ble_eq_true rfl) ⟨rfl, rfl, by decide, by decide⟩ (fun r3 h4 => ?_)
    refine r_imul C dX11_skillFor_29 ?_
    refine r_iload_n C dX11_skillFor_30 rfl ?_
    refine r_idiv C dX11_skillFor_31 ?_
    exact r_iret C dX11_skillFor_32 rfl rfl trivial
  · refine r_bipush C (100 : Int32) dX11_skillFor_12 (by decide) ?_
    exact r_iret C dX11_skillFor_14 rfl rfl trivial
theorem c_p_PE_skillFor (l : Launch) (ω : Wd) (ad : Nat → Nat → Nat) (N : Nat → Nat) (σ : St) (a0 : Nat) (a1 : Nat) (b0 : a0 < N 2) (b1 : a1 < N 1) : ∀ r : Int32, p_PE_skillFor σ a0 a1 = some r → Ct l yX11_skillFor cX11_skillFor 3 (some .int) ({ frames := 1, cells := 0, slots := 0, locals := 20 } : Room) LC ω ad N [.ref (ad 2 a0), .ref (ad 1 a1)] σ (some (.int r)) σ (True) :=
  ct_of (o := fun r : Int32 => (some (.int r))) (s' := fun r => σ) (P := fun r => True) [some (.ref (ad 2 a0)), some (.ref (ad 1 a1)), none] (by decide) rfl (Nat.le_of_ble_eq_true rfl) (fun Γ C _ _ => w_p_PE_skillFor (Γ, ω, 3, ad, N, 0, 0) σ a0 a1 b0 b1 C)
theorem jw_X3_128 : JW RX3 128 Lib.Math.max.name Lib.Math.max.code 2 := ⟨in_wt 733 (by decide +kernel) (by decide +kernel), in_wt 734 (by decide +kernel) (by decide +kernel), in_wt 94 (by decide +kernel) (by decide +kernel), in_wt 735 (by decide +kernel) (by decide +kernel)⟩
/-- PostsEnd$Firm.int recordOf(int) -/
def p_Firm_recordOf (a1 : Int32) : Option Int32 := some (if (100 : Int32) - ((20 : Int32) * a1) < (0 : Int32) then (0 : Int32) else (100 : Int32) - ((20 : Int32) * a1))
set_option maxRecDepth 20000 in
set_option maxHeartbeats 4000000 in
theorem w_p_Firm_recordOf (Θ : TT) (σ : St) (a1 : Int32) (C : CX Θ cX3_recordOf RX3 (some .int) ({ frames := 1, cells := 0, slots := 0, locals := 21 } : Room) 2) : WA LC Θ (fun r : Int32 => Qm LC Θ (some (.int r)) σ (True)) 0 [some (.ref (cF Θ 1)), some (.int a1)] [] σ (p_Firm_recordOf a1) := by
  unfold p_Firm_recordOf
  refine r_bipush C (100 : Int32) dX3_recordOf_0 (by decide) ?_
  refine r_bipush C (20 : Int32) dX3_recordOf_2 (by decide) ?_
  refine r_iload_n C dX3_recordOf_4 rfl ?_
  refine r_imul C dX3_recordOf_5 ?_
  refine r_isub C dX3_recordOf_6 ?_
  refine r_iconst C (0 : Int32) dX3_recordOf_7 (by decide) ?_
  refine r_mmax C dX3_recordOf_8 jw_X3_128 (by decide) (Nat.le_of_ble_eq_true rfl) ?_
  exact r_iret C dX3_recordOf_11 rfl rfl trivial
theorem c_p_Firm_recordOf (l : Launch) (ω : Wd) (ad : Nat → Nat → Nat) (N : Nat → Nat) (σ : St) (a1 : Int32) : ∀ r : Int32, p_Firm_recordOf a1 = some r → Ct l yX3_recordOf cX3_recordOf 2 (some .int) ({ frames := 1, cells := 0, slots := 0, locals := 21 } : Room) LC ω ad N [.ref (ω.2.1 1), .int a1] σ (some (.int r)) σ (True) :=
  ct_of (o := fun r : Int32 => (some (.int r))) (s' := fun r => σ) (P := fun r => True) [some (.ref (ω.2.1 1)), some (.int a1)] (by decide) rfl (Nat.le_of_ble_eq_true rfl) (fun Γ C _ _ => w_p_Firm_recordOf (Γ, ω, 2, ad, N, 0, 0) σ a1 C)
theorem fg_X3_100 (j : Nat) : FG LC RX3 100 2 j 2 (0, 0) := ⟨_, _, _, _, _, rfl, rfl, rfl, by decide, uw_X5, (in_wt 534 (by decide +kernel) (by decide +kernel))⟩
theorem fg_X3_56 : FG LC RX3 56 0 1 0 (0, 0) := ⟨_, _, _, _, _, rfl, rfl, rfl, by decide, uw_X3, (in_wt 121 (by decide +kernel) (by decide +kernel))⟩
/-- PostsEnd$Firm.int wholeYears(PostsEnd$Person) -/
def p_Firm_wholeYears (σ : St) (a1 : Nat) : Option Int32 := some (((σ.1 0 1 0) - (σ.1 2 a1 2)) / (365 : Int32))
set_option maxRecDepth 20000 in
set_option maxHeartbeats 4000000 in
theorem w_p_Firm_wholeYears (Θ : TT) (σ : St) (a1 : Nat) (b1 : a1 < cN Θ 2) (C : CX Θ cX3_wholeYears RX3 (some .int) ({ frames := 0, cells := 0, slots := 0, locals := 0 } : Room) 2) : WA LC Θ (fun r : Int32 => Qm LC Θ (some (.int r)) σ (True)) 0 [some (.ref (cF Θ 1)), some (.ref (cAd Θ 2 a1))] [] σ (p_Firm_wholeYears σ a1) := by
  unfold p_Firm_wholeYears
  refine r_aload_n C dX3_wholeYears_0 rfl ?_
  refine r_getI0 C dX3_wholeYears_1 fg_X3_56 (by decide) ?_
  refine r_aload_n C dX3_wholeYears_4 rfl ?_
  refine r_getI C dX3_wholeYears_5 (fg_X3_100 _) (by decide) b1 ?_
  refine r_isub C dX3_wholeYears_8 ?_
  refine r_sipush C (365 : Int32) dX3_wholeYears_9 (by decide) ?_
  refine r_idivc C dX3_wholeYears_12 (by decide) ?_
  exact r_iret C dX3_wholeYears_13 rfl rfl trivial
theorem c_p_Firm_wholeYears (l : Launch) (ω : Wd) (ad : Nat → Nat → Nat) (N : Nat → Nat) (σ : St) (a1 : Nat) (b1 : a1 < N 2) : ∀ r : Int32, p_Firm_wholeYears σ a1 = some r → Ct l yX3_wholeYears cX3_wholeYears 2 (some .int) ({ frames := 0, cells := 0, slots := 0, locals := 0 } : Room) LC ω ad N [.ref (ω.2.1 1), .ref (ad 2 a1)] σ (some (.int r)) σ (True) :=
  ct_of (o := fun r : Int32 => (some (.int r))) (s' := fun r => σ) (P := fun r => True) [some (.ref (ω.2.1 1)), some (.ref (ad 2 a1))] (by decide) rfl (Nat.le_of_ble_eq_true rfl) (fun Γ C _ _ => w_p_Firm_wholeYears (Γ, ω, 2, ad, N, 0, 0) σ a1 b1 C)
theorem vw_X3_recordOf : VW yX3_recordOf cX3_recordOf 2 (some .int) 1 := ⟨⟨(in_wt 81 (by decide +kernel) (by decide +kernel)), (in_wt 732 (by decide +kernel) (by decide +kernel)), by decide +kernel⟩, (in_wt 730 (by decide +kernel) (by decide +kernel)), (in_wt 731 (by decide +kernel) (by decide +kernel))⟩
theorem vw_X3_wholeYears : VW yX3_wholeYears cX3_wholeYears 2 (some .int) 1 := ⟨⟨(in_wt 81 (by decide +kernel) (by decide +kernel)), (in_wt 739 (by decide +kernel) (by decide +kernel)), by decide +kernel⟩, (in_wt 737 (by decide +kernel) (by decide +kernel)), (in_wt 738 (by decide +kernel) (by decide +kernel))⟩
theorem vw_X5_toldAsOf : VW yX5_toldAsOf cX5_toldAsOf 4 (some .int) 2 := ⟨⟨(in_wt 90 (by decide +kernel) (by decide +kernel)), (in_wt 714 (by decide +kernel) (by decide +kernel)), by decide +kernel⟩, (in_wt 712 (by decide +kernel) (by decide +kernel)), (in_wt 713 (by decide +kernel) (by decide +kernel))⟩
theorem sw_X11_skillFor : SW yX11_skillFor cX11_skillFor 3 (some .int) 2 := ⟨⟨(in_wt 80 (by decide +kernel) (by decide +kernel)), (in_wt 722 (by decide +kernel) (by decide +kernel)), by decide +kernel⟩, (in_wt 721 (by decide +kernel) (by decide +kernel))⟩
theorem fg_X3_114 (j : Nat) : FG LC RX3 114 2 j 4 (2, 0) := ⟨_, _, _, _, _, rfl, rfl, rfl, by decide, uw_X5, (in_wt 541 (by decide +kernel) (by decide +kernel))⟩
theorem jw_X3_107 : JW RX3 107 Lib.Math.min.name Lib.Math.min.code 2 := ⟨in_wt 740 (by decide +kernel) (by decide +kernel), in_wt 741 (by decide +kernel) (by decide +kernel), in_wt 94 (by decide +kernel) (by decide +kernel), in_wt 742 (by decide +kernel) (by decide +kernel)⟩
theorem ml_X3_103 : Cond.methodLink RX3 103 yX3_wholeYears ∈ wt := in_wt 736 (by decide +kernel) (by decide +kernel)
theorem ml_X3_118 : Cond.methodLink RX3 118 yX5_toldAsOf ∈ wt := in_wt 711 (by decide +kernel) (by decide +kernel)
theorem ml_X3_125 : Cond.methodLink RX3 125 yX3_recordOf ∈ wt := in_wt 729 (by decide +kernel) (by decide +kernel)
theorem nl_X3_121 : (RX3, 121, yX11_skillFor, "PostsEnd") ∈ nws := List.mem_of_getElem? (i := 0) rfl
/-- PostsEnd$Firm.int partAsOf(PostsEnd$Person, int, int) -/
def p_Firm_partAsOf (σ : St) (a1 : Nat) (a2 : Int32) (a3 : Int32) : Option Int32 := (lt1 (σ.2 2 a1 4) fun x1 => (if a2 = (0 : Int32) then (Option.bind (p_Person_toldAsOf σ a1 (0 : Int32) a3) fun r4 => some r4) else (if a2 = (1 : Int32) then (Option.elim x1 (some (0 : Int32)) fun q7 => (Option.bind (p_PE_skillFor σ a1 q7) fun r9 => some r9)) else (if a2 = (2 : Int32) then (Option.bind (p_Person_toldAsOf σ a1 (1 : Int32) a3) fun r12 => (Option.bind (p_Firm_recordOf r12) fun r14 => some r14)) else (if a2 = (3 : Int32) then (Option.bind (p_Firm_wholeYears σ a1) fun r17 => some (if (100 : Int32) < (5 : Int32) * r17 then (100 : Int32) else (5 : Int32) * r17)) else some (0 : Int32))))))
set_option maxRecDepth 20000 in
set_option maxHeartbeats 4000000 in
theorem w_p_Firm_partAsOf (Θ : TT) (σ : St) (a1 : Nat) (a2 : Int32) (a3 : Int32) (b1 : a1 < cN Θ 2) (C : CX Θ cX3_partAsOf RX3 (some .int) ({ frames := 2, cells := 0, slots := 0, locals := 45 } : Room) 5) : WA LC Θ (fun r : Int32 => Qm LC Θ (some (.int r)) σ (True)) 0 [some (.ref (cF Θ 1)), some (.ref (cAd Θ 2 a1)), some (.int a2), some (.int a3), none] [] σ (p_Firm_partAsOf σ a1 a2 a3) := by
  unfold p_Firm_partAsOf
  refine r_aload_n C dX3_partAsOf_0 rfl ?_
  refine r_getQ C dX3_partAsOf_1 (fg_X3_114 _) (by decide) b1 (fun x1 h2 => ?_)
  refine r_astore C (x := Option.map (cAd Θ 1) x1) [some (.ref (cF Θ 1)), some (.ref (cAd Θ 2 a1)), some (.int a2), some (.int a3), some (va_rf (Option.map (cAd Θ 1) x1))] dX3_partAsOf_4 rfl (by decide) rfl ?_
  refine r_iload_n C dX3_partAsOf_6 rfl ?_
  refine WA.cas (v := (0 : Int32)) ?_ (fun h3 => ?_)
  · refine r_tabIn C 36 dX3_partAsOf_7 (by decide) (by decide) rfl (by decide) ?_
    refine r_aload_n C dX3_partAsOf_36 rfl ?_
    refine r_iconst C (0 : Int32) dX3_partAsOf_37 (by decide) ?_
    refine r_iload_n C dX3_partAsOf_38 rfl ?_
    refine r_callV C (st := []) (As := [.int (0 : Int32), .int a3]) (d := 2) (j := a1) dX3_partAsOf_39 ml_X3_118 vw_X5_toldAsOf ⟨_, _, _, _, rfl, rfl⟩ (dmk (by decide) (by decide) b1) (fun r4 e => c_p_Person_toldAsOf Θ.1.2.1 (cW Θ) (cAd Θ) (cN Θ) σ a1 (0 : Int32) a3 b1 r4 e) rfl rfl (Nat.le_of_ble_eq_true rfl) ⟨rfl, rfl, by decide, by decide⟩ (fun r4 h5 => ?_)
    exact r_iret C dX3_partAsOf_42 rfl rfl trivial
  refine WA.cas (v := (1 : Int32)) ?_ (fun h6 => ?_)
  · refine r_tabIn C 43 dX3_partAsOf_7 (by decide) (by decide) rfl (by decide) ?_
    refine r_aloadQ C (x := Option.map (cAd Θ 1) x1) dX3_partAsOf_43 rfl ?_
    rcases x1 with _ | q7
    · refine r_ifnonnullN C dX3_partAsOf_45 ?_
      refine r_iconst C (0 : Int32) dX3_partAsOf_48 (by decide) ?_
      refine r_goto C 58 dX3_partAsOf_49 (by decide) ?_
      exact r_iret C dX3_partAsOf_58 rfl rfl trivial
    · have h8 := h2 q7 rfl
      refine r_ifnonnullS C 52 dX3_partAsOf_45 (by decide) ?_
      refine r_aload_n C dX3_partAsOf_52 rfl ?_
      refine r_aload C dX3_partAsOf_53 rfl ?_
      refine r_callN C (st := []) (As := [.ref (cAd Θ 2 a1), .ref (cAd Θ 1 q7)]) dX3_partAsOf_55 nl_X3_121 sw_X11_skillFor (fun r9 e => c_p_PE_skillFor Θ.1.2.1 (cW Θ) (cAd Θ) (cN Θ) σ a1 q7 b1 h8 r9 e) rfl rfl (Nat.le_of_ble_eq_true rfl) ⟨rfl, rfl, by decide, by decide⟩ (fun r9 h10 => ?_)
      exact r_iret C dX3_partAsOf_58 rfl rfl trivial
  refine WA.cas (v := (2 : Int32)) ?_ (fun h11 => ?_)
  · refine r_tabIn C 59 dX3_partAsOf_7 (by decide) (by decide) rfl (by decide) ?_
    refine r_aload_n C dX3_partAsOf_59 rfl ?_
    refine r_aload_n C dX3_partAsOf_60 rfl ?_
    refine r_iconst C (1 : Int32) dX3_partAsOf_61 (by decide) ?_
    refine r_iload_n C dX3_partAsOf_62 rfl ?_
    refine r_callV C (st := [.ref (cF Θ 1)]) (As := [.int (1 : Int32), .int a3]) (d := 2) (j := a1) dX3_partAsOf_63 ml_X3_118 vw_X5_toldAsOf ⟨_, _, _, _, rfl, rfl⟩ (dmk (by decide) (by decide) b1) (fun r12 e => c_p_Person_toldAsOf Θ.1.2.1 (cW Θ) (cAd Θ) (cN Θ) σ a1 (1 : Int32) a3 b1 r12 e) rfl rfl (Nat.le_of_ble_eq_true rfl) ⟨rfl, rfl, by decide, by decide⟩ (fun r12 h13 => ?_)
    refine r_callV C (st := []) (As := [.int r12]) (d := 0) (j := 1) dX3_partAsOf_66 ml_X3_125 vw_X3_recordOf ⟨_, _, _, _, rfl, rfl⟩ (dm0 (by decide)) (fun r14 e => c_p_Firm_recordOf Θ.1.2.1 (cW Θ) (cAd Θ) (cN Θ) σ r12 r14 e) rfl rfl (Nat.le_of_ble_eq_true rfl) ⟨rfl, rfl, by decide, by decide⟩ (fun r14 h15 => ?_)
    exact r_iret C dX3_partAsOf_69 rfl rfl trivial
  refine WA.cas (v := (3 : Int32)) ?_ (fun h16 => ?_)
  · refine r_tabIn C 70 dX3_partAsOf_7 (by decide) (by decide) rfl (by decide) ?_
    refine r_iconst C (5 : Int32) dX3_partAsOf_70 (by decide) ?_
    refine r_aload_n C dX3_partAsOf_71 rfl ?_
    refine r_aload_n C dX3_partAsOf_72 rfl ?_
    refine r_callV C (st := [.int (5 : Int32)]) (As := [.ref (cAd Θ 2 a1)]) (d := 0) (j := 1) dX3_partAsOf_73 ml_X3_103 vw_X3_wholeYears ⟨_, _, _, _, rfl, rfl⟩ (dm0 (by decide)) (fun r17 e => c_p_Firm_wholeYears Θ.1.2.1 (cW Θ) (cAd Θ) (cN Θ) σ a1 b1 r17 e) rfl rfl (Nat.le_of_ble_eq_true rfl) ⟨rfl, rfl, by decide, by decide⟩ (fun r17 h18 => ?_)
    refine r_imul C dX3_partAsOf_76 ?_
    refine r_bipush C (100 : Int32) dX3_partAsOf_77 (by decide) ?_
    refine r_mmin C dX3_partAsOf_79 jw_X3_107 (by decide) (Nat.le_of_ble_eq_true rfl) ?_
    exact r_iret C dX3_partAsOf_82 rfl rfl trivial
  have h3 := tq_ne h3 (z := 0) (by decide)
  have h6 := tq_ne h6 (z := 1) (by decide)
  have h11 := tq_ne h11 (z := 2) (by decide)
  have h16 := tq_ne h16 (z := 3) (by decide)
  refine r_tabOut C 83 dX3_partAsOf_7 (by omega) (by decide) ?_
  refine r_iconst C (0 : Int32) dX3_partAsOf_83 (by decide) ?_
  exact r_iret C dX3_partAsOf_84 rfl rfl trivial
theorem c_p_Firm_partAsOf (l : Launch) (ω : Wd) (ad : Nat → Nat → Nat) (N : Nat → Nat) (σ : St) (a1 : Nat) (a2 : Int32) (a3 : Int32) (b1 : a1 < N 2) : ∀ r : Int32, p_Firm_partAsOf σ a1 a2 a3 = some r → Ct l yX3_partAsOf cX3_partAsOf 5 (some .int) ({ frames := 2, cells := 0, slots := 0, locals := 45 } : Room) LC ω ad N [.ref (ω.2.1 1), .ref (ad 2 a1), .int a2, .int a3] σ (some (.int r)) σ (True) :=
  ct_of (o := fun r : Int32 => (some (.int r))) (s' := fun r => σ) (P := fun r => True) [some (.ref (ω.2.1 1)), some (.ref (ad 2 a1)), some (.int a2), some (.int a3), none] (by decide) rfl (Nat.le_of_ble_eq_true rfl) (fun Γ C _ _ => w_p_Firm_partAsOf (Γ, ω, 5, ad, N, 0, 0) σ a1 a2 a3 b1 C)
theorem ag_LC_13 : AG LC 13 0 4 := ⟨by decide, rfl⟩
theorem vw_X3_partAsOf : VW yX3_partAsOf cX3_partAsOf 5 (some .int) 3 := ⟨⟨(in_wt 81 (by decide +kernel) (by decide +kernel)), (in_wt 710 (by decide +kernel) (by decide +kernel)), by decide +kernel⟩, (in_wt 708 (by decide +kernel) (by decide +kernel)), (in_wt 709 (by decide +kernel) (by decide +kernel))⟩
theorem fg_X3_33 : FG LC RX3 33 0 1 10 (1, 13) := ⟨_, _, _, _, _, rfl, rfl, rfl, by decide, uw_X3, (in_wt 139 (by decide +kernel) (by decide +kernel))⟩
theorem ml_X3_131 : Cond.methodLink RX3 131 yX3_partAsOf ∈ wt := in_wt 707 (by decide +kernel) (by decide +kernel)
/-- PostsEnd$Firm.int markAsOf(PostsEnd$Person, int) -/
def p_Firm_markAsOf (σ : St) (a1 : Nat) (a2 : Int32) : Option Int32 := (Option.bind (itr0 (S := Int32 × Int32) (E := Int32) (fun s1 => (if s1.2 < (4 : Int32) then (Option.bind (ix 4 s1.2) fun i9 => (Option.bind (p_Firm_partAsOf σ a1 s1.2 a2) fun r10 => some (.inl (s1.1 + ((σ.1 0 13 i9) * r10), s1.2 + (1 : Int32))))) else some (.inr s1.1))) FU ((0 : Int32), (0 : Int32))) fun e6 => some e6)
set_option maxRecDepth 20000 in
set_option maxHeartbeats 4000000 in
theorem w_p_Firm_markAsOf (Θ : TT) (σ : St) (a1 : Nat) (a2 : Int32) (b1 : a1 < cN Θ 2) (C : CX Θ cX3_markAsOf RX3 (some .int) ({ frames := 3, cells := 0, slots := 0, locals := 69 } : Room) 5) : WA LC Θ (fun r : Int32 => Qm LC Θ (some (.int r)) σ (True)) 0 [some (.ref (cF Θ 1)), some (.ref (cAd Θ 2 a1)), some (.int a2), none, none] [] σ (p_Firm_markAsOf σ a1 a2) := by
  unfold p_Firm_markAsOf
  refine r_iconst C (0 : Int32) dX3_markAsOf_0 (by decide) ?_
  refine r_istore_n C [some (.ref (cF Θ 1)), some (.ref (cAd Θ 2 a1)), some (.int a2), some (.int (0 : Int32)), none] dX3_markAsOf_1 rfl (by decide) rfl ?_
  refine r_iconst C (0 : Int32) dX3_markAsOf_2 (by decide) ?_
  refine r_istore C [some (.ref (cF Θ 1)), some (.ref (cAd Θ 2 a1)), some (.int a2), some (.int (0 : Int32)), some (.int (0 : Int32))] dX3_markAsOf_3 rfl (by decide) rfl ?_
  refine WA.join (α := Int32) 36 (fun e6 => [none, none, none, some (.int e6), none]) (fun e6 => []) (fun e6 => σ) (fun e6 => True) (fun e6 h7 => ?_) (fun J8 => ?_)
  · refine r_iload_n C dX3_markAsOf_36 rfl ?_
    exact r_iret C dX3_markAsOf_37 rfl rfl trivial
  · refine WA.wk (lv' := [some (.ref (cF Θ 1)), some (.ref (cAd Θ 2 a1)), some (.int a2), some (.int (0 : Int32)), some (.int (0 : Int32))]) [true, true, true, true, true] rfl ?_
    refine WA.itr (S := Int32 × Int32) 5 (fun s1 => [some (.ref (cF Θ 1)), some (.ref (cAd Θ 2 a1)), some (.int a2), some (.int s1.1), some (.int s1.2)]) (fun s1 => []) (fun s1 => σ) (fun s1 => True) (fun s1 k5 h2 ih3 hx4 => ?_) FU ((0 : Int32), (0 : Int32)) trivial
    refine r_iload C dX3_markAsOf_5 rfl ?_
    refine r_iconst C (4 : Int32) dX3_markAsOf_7 (by decide) ?_
    refine WA.bif ?_
    refine r_icmp_ge C 36 dX3_markAsOf_8 (by decide) ?_ ?_
    · refine WA.wk (lv' := [none, none, none, some (.int s1.1), none]) [false, false, false, true, false] rfl ?_
      exact WA.eqK (hx4 _) (J8 s1.1 trivial)
    · refine r_iload_n C dX3_markAsOf_11 rfl ?_
      refine r_aload_n C dX3_markAsOf_12 rfl ?_
      refine r_getF0 C dX3_markAsOf_13 fg_X3_33 (by decide) ?_
      refine r_iload C dX3_markAsOf_16 rfl ?_
      refine WA.asc ?_
      refine r_iald (α := Unit) C dX3_markAsOf_18 ag_LC_13 (fun i9 => ?_)
      refine r_aload_n C dX3_markAsOf_19 rfl ?_
      refine r_aload_n C dX3_markAsOf_20 rfl ?_
      refine r_iload C dX3_markAsOf_21 rfl ?_
      refine r_iload_n C dX3_markAsOf_23 rfl ?_
      refine WA.asc ?_
      refine r_callV C (st := [.int (σ.1 0 13 i9), .int s1.1]) (As := [.ref (cAd Θ 2 a1), .int s1.2, .int a2]) (d := 0) (j := 1) dX3_markAsOf_24 ml_X3_131 vw_X3_partAsOf ⟨_, _, _, _, rfl, rfl⟩ (dm0 (by decide)) (fun r10 e => c_p_Firm_partAsOf Θ.1.2.1 (cW Θ) (cAd Θ) (cN Θ) σ a1 s1.2 a2 b1 r10 e) rfl rfl (Nat.le_of_ble_eq_true rfl) ⟨rfl, rfl, by decide, by decide⟩ (fun r10 h11 => ?_)
      refine r_imul C dX3_markAsOf_27 ?_
      refine r_iadd C dX3_markAsOf_28 ?_
      refine r_istore_n C [some (.ref (cF Θ 1)), some (.ref (cAd Θ 2 a1)), some (.int a2), some (.int (s1.1 + ((σ.1 0 13 i9) * r10))), some (.int s1.2)] dX3_markAsOf_29 rfl (by decide) rfl ?_
      refine r_iinc C (1 : Int32) [some (.ref (cF Θ 1)), some (.ref (cAd Θ 2 a1)), some (.int a2), some (.int (s1.1 + ((σ.1 0 13 i9) * r10))), some (.int (s1.2 + (1 : Int32)))] dX3_markAsOf_30 (by decide) rfl rfl (by decide) rfl ?_
      refine r_goto C 5 dX3_markAsOf_33 (by decide) ?_
      refine WA.wk (lv' := [some (.ref (cF Θ 1)), some (.ref (cAd Θ 2 a1)), some (.int a2), some (.int (s1.1 + ((σ.1 0 13 i9) * r10))), some (.int (s1.2 + (1 : Int32)))]) [true, true, true, true, true] rfl ?_
      exact ih3 (s1.1 + ((σ.1 0 13 i9) * r10), s1.2 + (1 : Int32)) trivial
theorem c_p_Firm_markAsOf (l : Launch) (ω : Wd) (ad : Nat → Nat → Nat) (N : Nat → Nat) (σ : St) (a1 : Nat) (a2 : Int32) (b1 : a1 < N 2) : ∀ r : Int32, p_Firm_markAsOf σ a1 a2 = some r → Ct l yX3_markAsOf cX3_markAsOf 5 (some .int) ({ frames := 3, cells := 0, slots := 0, locals := 69 } : Room) LC ω ad N [.ref (ω.2.1 1), .ref (ad 2 a1), .int a2] σ (some (.int r)) σ (True) :=
  ct_of (o := fun r : Int32 => (some (.int r))) (s' := fun r => σ) (P := fun r => True) [some (.ref (ω.2.1 1)), some (.ref (ad 2 a1)), some (.int a2), none, none] (by decide) rfl (Nat.le_of_ble_eq_true rfl) (fun Γ C _ _ => w_p_Firm_markAsOf (Γ, ω, 5, ad, N, 0, 0) σ a1 a2 b1 C)
theorem ag_LC_26 : AG LC 26 0 40 := ⟨by decide, rfl⟩
theorem vw_X3_markAsOf : VW yX3_markAsOf cX3_markAsOf 5 (some .int) 2 := ⟨⟨(in_wt 81 (by decide +kernel) (by decide +kernel)), (in_wt 706 (by decide +kernel) (by decide +kernel)), by decide +kernel⟩, (in_wt 704 (by decide +kernel) (by decide +kernel)), (in_wt 705 (by decide +kernel) (by decide +kernel))⟩
theorem vw_X3_personAt : VW yX3_personAt cX3_personAt 2 (some (.object "PostsEnd$Person")) 1 := ⟨⟨(in_wt 81 (by decide +kernel) (by decide +kernel)), (in_wt 590 (by decide +kernel) (by decide +kernel)), by decide +kernel⟩, (in_wt 588 (by decide +kernel) (by decide +kernel)), (in_wt 589 (by decide +kernel) (by decide +kernel))⟩
theorem fg_X0_21 : FG LC RX0 21 0 5 0 (1, 1) := ⟨_, _, _, _, _, rfl, rfl, rfl, by decide, uw_X0, (in_wt 287 (by decide +kernel) (by decide +kernel))⟩
theorem fg_X0_36 : FG LC RX0 36 0 1 3 (0, 0) := ⟨_, _, _, _, _, rfl, rfl, rfl, by decide, uw_X3, (in_wt 128 (by decide +kernel) (by decide +kernel))⟩
theorem fg_X0_45 : FG LC RX0 45 0 1 0 (0, 0) := ⟨_, _, _, _, _, rfl, rfl, rfl, by decide, uw_X3, (in_wt 119 (by decide +kernel) (by decide +kernel))⟩
theorem fg_X0_9 : FG LC RX0 9 0 5 1 (1, 26) := ⟨_, _, _, _, _, rfl, rfl, rfl, by decide, uw_X0, (in_wt 288 (by decide +kernel) (by decide +kernel))⟩
theorem ml_X0_41 : Cond.methodLink RX0 41 yX3_personAt ∈ wt := in_wt 926 (by decide +kernel) (by decide +kernel)
theorem ml_X0_48 : Cond.methodLink RX0 48 yX3_markAsOf ∈ wt := in_wt 927 (by decide +kernel) (by decide +kernel)
/-- PostsEnd$Bumping.private void gatherMarks() -/
def p_Bumping_gatherMarks (σ : St) : Option St := (Option.bind (itr0 (S := Int32 × St) (E := St) (fun s1 => (if s1.1 < s1.2.1 0 1 3 then (if s1.1 < (40 : Int32) then (Option.bind (p_Firm_personAt s1.2 s1.1) fun r9 => (Option.bind (α := Int32) ((Option.elim r9 (some (0 : Int32)) fun q16 => (Option.bind (p_Firm_markAsOf s1.2 q16 (s1.2.1 0 1 0)) fun r18 => some r18))) fun t11 => (Option.bind (ix 40 s1.1) fun i14 => (lt1 (sx s1.2 0 26 i14 t11) fun σ15 => some (.inl (s1.1 + (1 : Int32), σ15)))))) else some (.inr s1.2)) else some (.inr s1.2))) FU ((0 : Int32), σ)) fun e6 => some e6)
set_option maxRecDepth 20000 in
set_option maxHeartbeats 4000000 in
theorem w_p_Bumping_gatherMarks (Θ : TT) (σ : St)  (C : CX Θ cX0_gatherMarks RX0 none ({ frames := 4, cells := 0, slots := 0, locals := 93 } : Room) 3) : WA LC Θ (fun r : St => Qm LC Θ none r (True)) 0 [some (.ref (cF Θ 5)), none, none] [] σ (p_Bumping_gatherMarks σ) := by
  unfold p_Bumping_gatherMarks
  refine r_iconst C (0 : Int32) dX0_gatherMarks_0 (by decide) ?_
  refine r_istore_n C [some (.ref (cF Θ 5)), some (.int (0 : Int32)), none] dX0_gatherMarks_1 rfl (by decide) rfl ?_
  refine WA.join (α := St) 63 (fun e6 => [none, none, none]) (fun e6 => []) (fun e6 => e6) (fun e6 => True) (fun e6 h7 => ?_) (fun J8 => ?_)
  · exact r_vret C dX0_gatherMarks_63 rfl rfl trivial
  · refine WA.wk (lv' := [some (.ref (cF Θ 5)), some (.int (0 : Int32)), none]) [true, true, false] rfl ?_
    refine WA.itr (S := Int32 × St) 2 (fun s1 => [some (.ref (cF Θ 5)), some (.int s1.1), none]) (fun s1 => []) (fun s1 => s1.2) (fun s1 => True) (fun s1 k5 h2 ih3 hx4 => ?_) FU ((0 : Int32), σ) trivial
    refine r_iload_n C dX0_gatherMarks_2 rfl ?_
    refine r_aload_n C dX0_gatherMarks_3 rfl ?_
    refine r_getF0 C dX0_gatherMarks_4 fg_X0_21 (by decide) ?_
    refine r_getI0 C dX0_gatherMarks_7 fg_X0_36 (by decide) ?_
    refine WA.bif ?_
    refine r_icmp_ge C 63 dX0_gatherMarks_10 (by decide) ?_ ?_
    · refine WA.wk (lv' := [none, none, none]) [false, false, false] rfl ?_
      exact WA.eqK (hx4 _) (J8 s1.2 trivial)
    · refine r_iload_n C dX0_gatherMarks_13 rfl ?_
      refine r_bipush C (40 : Int32) dX0_gatherMarks_14 (by decide) ?_
      refine WA.bif ?_
      refine r_icmp_ge C 63 dX0_gatherMarks_16 (by decide) ?_ ?_
      · refine WA.wk (lv' := [none, none, none]) [false, false, false] rfl ?_
        exact WA.eqK (hx4 _) (J8 s1.2 trivial)
      · refine r_aload_n C dX0_gatherMarks_19 rfl ?_
        refine r_getF0 C dX0_gatherMarks_20 fg_X0_21 (by decide) ?_
        refine r_iload_n C dX0_gatherMarks_23 rfl ?_
        refine WA.asc ?_
        refine r_callV C (st := []) (As := [.int s1.1]) (d := 0) (j := 1) dX0_gatherMarks_24 ml_X0_41 vw_X3_personAt ⟨_, _, _, _, rfl, rfl⟩ (dm0 (by decide)) (fun r9 e => c_p_Firm_personAt Θ.1.2.1 (cW Θ) (cAd Θ) (cN Θ) s1.2 s1.1 r9 e) rfl rfl (Nat.le_of_ble_eq_true rfl) ⟨rfl, rfl, by decide, by decide⟩ (fun r9 h10 => ?_)
        refine r_astore_n C (x := Option.map (cAd Θ 2) r9) [some (.ref (cF Θ 5)), some (.int s1.1), some (va_rf (Option.map (cAd Θ 2) r9))] dX0_gatherMarks_27 rfl (by decide) rfl ?_
        refine r_aload_n C dX0_gatherMarks_28 rfl ?_
        refine r_getF0 C dX0_gatherMarks_29 fg_X0_9 (by decide) ?_
        refine r_iload_n C dX0_gatherMarks_32 rfl ?_
        refine r_aload_nQ C (x := Option.map (cAd Θ 2) r9) dX0_gatherMarks_33 rfl ?_
        refine WA.asc ?_
        refine WA.join (α := Int32) 56 (fun t11 => [some (.ref (cF Θ 5)), some (.int s1.1), none]) (fun t11 => [.int t11, .int s1.1, .ref (cF Θ 26)]) (fun t11 => s1.2) (fun t11 => True) (fun t11 h12 => ?_) (fun J13 => ?_)
        · refine WA.asc ?_
          refine r_iast C dX0_gatherMarks_56 ag_LC_26 (fun i14 => ?_)
          refine WA.genB (fun σ15 => ?_)
          refine r_iinc C (1 : Int32) [some (.ref (cF Θ 5)), some (.int (s1.1 + (1 : Int32))), none] dX0_gatherMarks_57 (by decide) rfl rfl (by decide) rfl ?_
          refine r_goto C 2 dX0_gatherMarks_60 (by decide) ?_
          refine WA.wk (lv' := [some (.ref (cF Θ 5)), some (.int (s1.1 + (1 : Int32))), none]) [true, true, false] rfl ?_
          exact ih3 (s1.1 + (1 : Int32), σ15) trivial
        · refine WA.bel ?_
          rcases r9 with _ | q16
          · refine r_ifnonnullN C dX0_gatherMarks_34 ?_
            refine r_iconst C (0 : Int32) dX0_gatherMarks_37 (by decide) ?_
            refine r_goto C 56 dX0_gatherMarks_38 (by decide) ?_
            refine WA.wk (lv' := [some (.ref (cF Θ 5)), some (.int s1.1), none]) [true, true, false] rfl ?_
            exact J13 (0 : Int32) trivial
          · have h17 := h10 q16 rfl
            refine r_ifnonnullS C 41 dX0_gatherMarks_34 (by decide) ?_
            refine r_aload_n C dX0_gatherMarks_41 rfl ?_
            refine r_getF0 C dX0_gatherMarks_42 fg_X0_21 (by decide) ?_
            refine r_aload_n C dX0_gatherMarks_45 rfl ?_
            refine r_aload_n C dX0_gatherMarks_46 rfl ?_
            refine r_getF0 C dX0_gatherMarks_47 fg_X0_21 (by decide) ?_
            refine r_getI0 C dX0_gatherMarks_50 fg_X0_45 (by decide) ?_
            refine WA.asc ?_
            refine r_callV C (st := [.int s1.1, .ref (cF Θ 26)]) (As := [.ref (cAd Θ 2 q16), .int (s1.2.1 0 1 0)]) (d := 0) (j := 1) dX0_gatherMarks_53 ml_X0_48 vw_X3_markAsOf ⟨_, _, _, _, rfl, rfl⟩ (dm0 (by decide)) (fun r18 e => c_p_Firm_markAsOf Θ.1.2.1 (cW Θ) (cAd Θ) (cN Θ) s1.2 q16 (s1.2.1 0 1 0) h17 r18 e) rfl rfl (Nat.le_of_ble_eq_true rfl) ⟨rfl, rfl, by decide, by decide⟩ (fun r18 h19 => ?_)
            refine WA.wk (lv' := [some (.ref (cF Θ 5)), some (.int s1.1), none]) [true, true, false] rfl ?_
            exact J13 r18 trivial
theorem c_p_Bumping_gatherMarks (l : Launch) (ω : Wd) (ad : Nat → Nat → Nat) (N : Nat → Nat) (σ : St)  : ∀ r : St, p_Bumping_gatherMarks σ = some r → Ct l yX0_gatherMarks cX0_gatherMarks 3 none ({ frames := 4, cells := 0, slots := 0, locals := 93 } : Room) LC ω ad N [.ref (ω.2.1 5)] σ none r (True) :=
  ct_of (o := fun r : St => none) (s' := fun r => r) (P := fun r => True) [some (.ref (ω.2.1 5)), none, none] (by decide) rfl (Nat.le_of_ble_eq_true rfl) (fun Γ C _ _ => w_p_Bumping_gatherMarks (Γ, ω, 3, ad, N, 0, 0) σ  C)
theorem fg_X3_97 (j : Nat) : FG LC RX3 97 2 j 7 (0, 0) := ⟨_, _, _, _, _, rfl, rfl, rfl, by decide, uw_X5, (in_wt 549 (by decide +kernel) (by decide +kernel))⟩
/-- PostsEnd$Firm.boolean isProtected(PostsEnd$Person) -/
def p_Firm_isProtected (σ : St) (a1 : Nat) : Option Int32 := (if σ.1 2 a1 7 < σ.1 0 1 0 then some (0 : Int32) else some (1 : Int32))
set_option maxRecDepth 20000 in
set_option maxHeartbeats 4000000 in
theorem w_p_Firm_isProtected (Θ : TT) (σ : St) (a1 : Nat) (b1 : a1 < cN Θ 2) (C : CX Θ cX3_isProtected RX3 (some .boolean) ({ frames := 0, cells := 0, slots := 0, locals := 0 } : Room) 2) : WA LC Θ (fun r : Int32 => Qm LC Θ (some (.int r)) σ (narrow .boolean (.int r) = .int r)) 0 [some (.ref (cF Θ 1)), some (.ref (cAd Θ 2 a1))] [] σ (p_Firm_isProtected σ a1) := by
  unfold p_Firm_isProtected
  refine r_aload_n C dX3_isProtected_0 rfl ?_
  refine r_getI0 C dX3_isProtected_1 fg_X3_56 (by decide) ?_
  refine r_aload_n C dX3_isProtected_4 rfl ?_
  refine r_getI C dX3_isProtected_5 (fg_X3_97 _) (by decide) b1 ?_
  refine r_icmp_gt C 15 dX3_isProtected_8 (by decide) ?_ ?_
  · refine r_iconst C (0 : Int32) dX3_isProtected_15 (by decide) ?_
    exact r_zret C dX3_isProtected_16 (show narrow .boolean (.int (0 : Int32)) = .int (0 : Int32) from rfl) rfl rfl (show narrow .boolean (.int (0 : Int32)) = .int (0 : Int32) from rfl)
  · refine r_iconst C (1 : Int32) dX3_isProtected_11 (by decide) ?_
    refine r_goto C 16 dX3_isProtected_12 (by decide) ?_
    exact r_zret C dX3_isProtected_16 (show narrow .boolean (.int (1 : Int32)) = .int (1 : Int32) from rfl) rfl rfl (show narrow .boolean (.int (1 : Int32)) = .int (1 : Int32) from rfl)
theorem c_p_Firm_isProtected (l : Launch) (ω : Wd) (ad : Nat → Nat → Nat) (N : Nat → Nat) (σ : St) (a1 : Nat) (b1 : a1 < N 2) : ∀ r : Int32, p_Firm_isProtected σ a1 = some r → Ct l yX3_isProtected cX3_isProtected 2 (some .boolean) ({ frames := 0, cells := 0, slots := 0, locals := 0 } : Room) LC ω ad N [.ref (ω.2.1 1), .ref (ad 2 a1)] σ (some (.int r)) σ (narrow .boolean (.int r) = .int r) :=
  ct_of (o := fun r : Int32 => (some (.int r))) (s' := fun r => σ) (P := fun r => narrow .boolean (.int r) = .int r) [some (.ref (ω.2.1 1)), some (.ref (ad 2 a1))] (by decide) rfl (Nat.le_of_ble_eq_true rfl) (fun Γ C _ _ => w_p_Firm_isProtected (Γ, ω, 2, ad, N, 0, 0) σ a1 b1 C)
theorem fg_X0_52 (j : Nat) : FG LC RX0 52 2 j 0 (0, 0) := ⟨_, _, _, _, _, rfl, rfl, rfl, by decide, uw_X5, (in_wt 526 (by decide +kernel) (by decide +kernel))⟩
/-- PostsEnd$Bumping.private int markOf(PostsEnd$Person) -/
def p_Bumping_markOf (σ : St) (a1 : Nat) : Option Int32 := (if σ.1 2 a1 0 < 0 then some (0 : Int32) else (if σ.1 2 a1 0 < (40 : Int32) then (Option.bind (ix 40 (σ.1 2 a1 0)) fun i1 => some (σ.1 0 26 i1)) else some (0 : Int32)))
set_option maxRecDepth 20000 in
set_option maxHeartbeats 4000000 in
theorem w_p_Bumping_markOf (Θ : TT) (σ : St) (a1 : Nat) (b1 : a1 < cN Θ 2) (C : CX Θ cX0_markOf RX0 (some .int) ({ frames := 0, cells := 0, slots := 0, locals := 0 } : Room) 3) : WA LC Θ (fun r : Int32 => Qm LC Θ (some (.int r)) σ (True)) 0 [some (.ref (cF Θ 5)), some (.ref (cAd Θ 2 a1)), none] [] σ (p_Bumping_markOf σ a1) := by
  unfold p_Bumping_markOf
  refine r_aload_n C dX0_markOf_0 rfl ?_
  refine r_getI C dX0_markOf_1 (fg_X0_52 _) (by decide) b1 ?_
  refine r_istore_n C [some (.ref (cF Θ 5)), some (.ref (cAd Θ 2 a1)), some (.int (σ.1 2 a1 0))] dX0_markOf_4 rfl (by decide) rfl ?_
  refine r_iload_n C dX0_markOf_5 rfl ?_
  refine r_if_lt C 24 dX0_markOf_6 (by decide) ?_ ?_
  · refine r_iconst C (0 : Int32) dX0_markOf_24 (by decide) ?_
    exact r_iret C dX0_markOf_25 rfl rfl trivial
  · refine r_iload_n C dX0_markOf_9 rfl ?_
    refine r_bipush C (40 : Int32) dX0_markOf_10 (by decide) ?_
    refine r_icmp_ge C 24 dX0_markOf_12 (by decide) ?_ ?_
    · refine r_iconst C (0 : Int32) dX0_markOf_24 (by decide) ?_
      exact r_iret C dX0_markOf_25 rfl rfl trivial
    · refine r_aload_n C dX0_markOf_15 rfl ?_
      refine r_getF0 C dX0_markOf_16 fg_X0_9 (by decide) ?_
      refine r_iload_n C dX0_markOf_19 rfl ?_
      refine r_iald (α := Unit) C dX0_markOf_20 ag_LC_26 (fun i1 => ?_)
      refine r_goto C 25 dX0_markOf_21 (by decide) ?_
      exact r_iret C dX0_markOf_25 rfl rfl trivial
theorem c_p_Bumping_markOf (l : Launch) (ω : Wd) (ad : Nat → Nat → Nat) (N : Nat → Nat) (σ : St) (a1 : Nat) (b1 : a1 < N 2) : ∀ r : Int32, p_Bumping_markOf σ a1 = some r → Ct l yX0_markOf cX0_markOf 3 (some .int) ({ frames := 0, cells := 0, slots := 0, locals := 0 } : Room) LC ω ad N [.ref (ω.2.1 5), .ref (ad 2 a1)] σ (some (.int r)) σ (True) :=
  ct_of (o := fun r : Int32 => (some (.int r))) (s' := fun r => σ) (P := fun r => True) [some (.ref (ω.2.1 5)), some (.ref (ad 2 a1)), none] (by decide) rfl (Nat.le_of_ble_eq_true rfl) (fun Γ C _ _ => w_p_Bumping_markOf (Γ, ω, 3, ad, N, 0, 0) σ a1 b1 C)
theorem vw_X0_markOf : VW yX0_markOf cX0_markOf 3 (some .int) 1 := ⟨⟨(in_wt 85 (by decide +kernel) (by decide +kernel)), (in_wt 940 (by decide +kernel) (by decide +kernel)), by decide +kernel⟩, (in_wt 939 (by decide +kernel) (by decide +kernel)), (in_wt 17 (by decide +kernel) (by decide +kernel))⟩
theorem vw_X3_isProtected : VW yX3_isProtected cX3_isProtected 2 (some .boolean) 1 := ⟨⟨(in_wt 81 (by decide +kernel) (by decide +kernel)), (in_wt 823 (by decide +kernel) (by decide +kernel)), by decide +kernel⟩, (in_wt 821 (by decide +kernel) (by decide +kernel)), (in_wt 822 (by decide +kernel) (by decide +kernel))⟩
theorem fg_X0_62 (j : Nat) : FG LC RX0 62 2 j 4 (2, 0) := ⟨_, _, _, _, _, rfl, rfl, rfl, by decide, uw_X5, (in_wt 538 (by decide +kernel) (by decide +kernel))⟩
theorem fg_X0_70 (j : Nat) : FG LC RX0 70 1 j 2 (0, 0) := ⟨_, _, _, _, _, rfl, rfl, rfl, by decide, uw_X7, (in_wt 446 (by decide +kernel) (by decide +kernel))⟩
theorem fg_X0_75 (j : Nat) : FG LC RX0 75 1 j 3 (0, 0) := ⟨_, _, _, _, _, rfl, rfl, rfl, by decide, uw_X7, (in_wt 449 (by decide +kernel) (by decide +kernel))⟩
theorem ml_X0_66 : Cond.methodLink RX0 66 yX3_isProtected ∈ wt := in_wt 936 (by decide +kernel) (by decide +kernel)
theorem ml_X0_78 : Cond.methodLink RX0 78 yX0_markOf ∈ wt := in_wt 937 (by decide +kernel) (by decide +kernel)
theorem nl_X0_82 : (RX0, 82, yX11_skillFor, "PostsEnd") ∈ nws := List.mem_of_getElem? (i := 1) rfl
/-- PostsEnd$Bumping.private boolean mayBump(PostsEnd$Person, PostsEnd$Person) -/
def p_Bumping_mayBump (σ : St) (a1 : Nat) (a2 : Nat) : Option Int32 := (lt1 (σ.2 2 a1 4) fun x1 => (lt1 (σ.2 2 a2 4) fun x3 => (Option.elim x1 (some (0 : Int32)) fun q5 => (Option.elim x3 (some (0 : Int32)) fun q7 => (Option.bind (p_Firm_isProtected σ a2) fun r9 => (if r9 = 0 then (if σ.1 1 q7 2 = σ.1 1 q5 2 then (if σ.1 1 q5 3 < σ.1 1 q7 3 then some (0 : Int32) else (if σ.1 1 q7 3 < (σ.1 1 q5 3) - (2 : Int32) then some (0 : Int32) else (Option.bind (p_Bumping_markOf σ a2) fun r11 => (Option.bind (p_Bumping_markOf σ a1) fun r13 => (if r11 < r13 then (Option.bind (p_PE_skillFor σ a1 q7) fun r15 => (if r15 < (50 : Int32) then some (0 : Int32) else some (1 : Int32))) else some (0 : Int32)))))) else some (0 : Int32)) else some (0 : Int32)))))))
set_option maxRecDepth 20000 in
set_option maxHeartbeats 4000000 in
theorem w_p_Bumping_mayBump (Θ : TT) (σ : St) (a1 : Nat) (a2 : Nat) (b1 : a1 < cN Θ 2) (b2 : a2 < cN Θ 2) (C : CX Θ cX0_mayBump RX0 (some .boolean) ({ frames := 2, cells := 0, slots := 0, locals := 42 } : Room) 5) : WA LC Θ (fun r : Int32 => Qm LC Θ (some (.int r)) σ (narrow .boolean (.int r) = .int r)) 0 [some (.ref (cF Θ 5)), some (.ref (cAd Θ 2 a1)), some (.ref (cAd Θ 2 a2)), none, none] [] σ (p_Bumping_mayBump σ a1 a2) := by
  unfold p_Bumping_mayBump
  refine r_aload_n C dX0_mayBump_0 rfl ?_
  refine r_getQ C dX0_mayBump_1 (fg_X0_62 _) (by decide) b1 (fun x1 h2 => ?_)
  refine r_astore_n C (x := Option.map (cAd Θ 1) x1) [some (.ref (cF Θ 5)), some (.ref (cAd Θ 2 a1)), some (.ref (cAd Θ 2 a2)), some (va_rf (Option.map (cAd Θ 1) x1)), none] dX0_mayBump_4 rfl (by decide) rfl ?_
  refine r_aload_n C dX0_mayBump_5 rfl ?_
  refine r_getQ C dX0_mayBump_6 (fg_X0_62 _) (by decide) b2 (fun x3 h4 => ?_)
  refine r_astore C (x := Option.map (cAd Θ 1) x3) [some (.ref (cF Θ 5)), some (.ref (cAd Θ 2 a1)), some (.ref (cAd Θ 2 a2)), some (va_rf (Option.map (cAd Θ 1) x1)), some (va_rf (Option.map (cAd Θ 1) x3))] dX0_mayBump_9 rfl (by decide) (lvok_q (x := Option.map (cAd Θ 1) x1) rfl) ?_
  refine r_aload_nQ C (x := Option.map (cAd Θ 1) x1) dX0_mayBump_11 rfl ?_
  rcases x1 with _ | q5
  · refine r_ifnullN C 97 dX0_mayBump_12 (by decide) ?_
    refine r_iconst C (0 : Int32) dX0_mayBump_97 (by decide) ?_
    exact r_zret C dX0_mayBump_98 (show narrow .boolean (.int (0 : Int32)) = .int (0 : Int32) from rfl) rfl rfl (show narrow .boolean (.int (0 : Int32)) = .int (0 : Int32) from rfl)
  · have h6 := h2 q5 rfl
    refine r_ifnullS C dX0_mayBump_12 ?_
    refine r_aloadQ C (x := Option.map (cAd Θ 1) x3) dX0_mayBump_15 rfl ?_
    rcases x3 with _ | q7
    · refine r_ifnullN C 97 dX0_mayBump_17 (by decide) ?_
      refine r_iconst C (0 : Int32) dX0_mayBump_97 (by decide) ?_
      exact r_zret C dX0_mayBump_98 (show narrow .boolean (.int (0 : Int32)) = .int (0 : Int32) from rfl) rfl rfl (show narrow .boolean (.int (0 : Int32)) = .int (0 : Int32) from rfl)
    · have h8 := h4 q7 rfl
      refine r_ifnullS C dX0_mayBump_17 ?_
      refine r_aload_n C dX0_mayBump_20 rfl ?_
      refine r_getF0 C dX0_mayBump_21 fg_X0_21 (by decide) ?_
      refine r_aload_n C dX0_mayBump_24 rfl ?_
      refine r_callV C (st := []) (As := [.ref (cAd Θ 2 a2)]) (d := 0) (j := 1) dX0_mayBump_25 ml_X0_66 vw_X3_isProtected ⟨_, _, _, _, rfl, rfl⟩ (dm0 (by decide)) (fun r9 e => c_p_Firm_isProtected Θ.1.2.1 (cW Θ) (cAd Θ) (cN Θ) σ a2 b2 r9 e) rfl rfl (Nat.le_of_ble_eq_true rfl) ⟨rfl, rfl, by decide, by decide⟩ (fun r9 h10 => ?_)
      refine r_if_ne C 97 dX0_mayBump_28 (by decide) ?_ ?_
      · refine r_iconst C (0 : Int32) dX0_mayBump_97 (by decide) ?_
        exact r_zret C dX0_mayBump_98 (show narrow .boolean (.int (0 : Int32)) = .int (0 : Int32) from rfl) rfl rfl (show narrow .boolean (.int (0 : Int32)) = .int (0 : Int32) from rfl)
      · refine r_aload C dX0_mayBump_31 rfl ?_
        refine r_getI C dX0_mayBump_33 (fg_X0_70 _) (by decide) h8 ?_
        refine r_aload_n C dX0_mayBump_36 rfl ?_
        refine r_getI C dX0_mayBump_37 (fg_X0_70 _) (by decide) h6 ?_
        refine r_icmp_ne C 97 dX0_mayBump_40 (by decide) ?_ ?_
        · refine r_iconst C (0 : Int32) dX0_mayBump_97 (by decide) ?_
          exact r_zret C dX0_mayBump_98 (show narrow .boolean (.int (0 : Int32)) = .int (0 : Int32) from rfl) rfl rfl (show narrow .boolean (.int (0 : Int32)) = .int (0 : Int32) from rfl)
        · refine r_aload C dX0_mayBump_43 rfl ?_
          refine r_getI C dX0_mayBump_45 (fg_X0_75 _) (by decide) h8 ?_
          refine r_aload_n C dX0_mayBump_48 rfl ?_
          refine r_getI C dX0_mayBump_49 (fg_X0_75 _) (by decide) h6 ?_
          refine r_icmp_gt C 97 dX0_mayBump_52 (by decide) ?_ ?_
          · refine r_iconst C (0 : Int32) dX0_mayBump_97 (by decide) ?_
            exact r_zret C dX0_mayBump_98 (show narrow .boolean (.int (0 : Int32)) = .int (0 : Int32) from rfl) rfl rfl (show narrow .boolean (.int (0 : Int32)) = .int (0 : Int32) from rfl)
          · refine r_aload C dX0_mayBump_55 rfl ?_
            refine r_getI C dX0_mayBump_57 (fg_X0_75 _) (by decide) h8 ?_
            refine r_aload_n C dX0_mayBump_60 rfl ?_
            refine r_getI C dX0_mayBump_61 (fg_X0_75 _) (by decide) h6 ?_
            refine r_iconst C (2 : Int32) dX0_mayBump_64 (by decide) ?_
            refine r_isub C dX0_mayBump_65 ?_
            refine r_icmp_lt C 97 dX0_mayBump_66 (by decide) ?_ ?_
            · refine r_iconst C (0 : Int32) dX0_mayBump_97 (by decide) ?_
              exact r_zret C dX0_mayBump_98 (show narrow .boolean (.int (0 : Int32)) = .int (0 : Int32) from rfl) rfl rfl (show narrow .boolean (.int (0 : Int32)) = .int (0 : Int32) from rfl)
            · refine r_aload_n C dX0_mayBump_69 rfl ?_
              refine r_aload_n C dX0_mayBump_70 rfl ?_
              refine r_callV C (st := []) (As := [.ref (cAd Θ 2 a2)]) (d := 0) (j := 5) dX0_mayBump_71 ml_X0_78 vw_X0_markOf ⟨_, _, _, _, rfl, rfl⟩ (dm0 (by decide)) (fun r11 e => c_p_Bumping_markOf Θ.1.2.1 (cW Θ) (cAd Θ) (cN Θ) σ a2 b2 r11 e) rfl rfl (Nat.le_of_ble_eq_true rfl) ⟨rfl, rfl, by decide, by decide⟩ (fun r11 h12 => ?_)
              refine r_aload_n C dX0_mayBump_74 rfl ?_
              refine r_aload_n C dX0_mayBump_75 rfl ?_
              refine r_callV C (st := [.int r11]) (As := [.ref (cAd Θ 2 a1)]) (d := 0) (j := 5) dX0_mayBump_76 ml_X0_78 vw_X0_markOf ⟨_, _, _, _, rfl, rfl⟩ (dm0 (by decide)) (fun r13 e => c_p_Bumping_markOf Θ.1.2.1 (cW Θ) (cAd Θ) (cN Θ) σ a1 b1 r13 e) rfl rfl (Nat.le_of_ble_eq_true rfl) ⟨rfl, rfl, by decide, by decide⟩ (fun r13 h14 => ?_)
              refine r_icmp_ge C 97 dX0_mayBump_79 (by decide) ?_ ?_
              · refine r_iconst C (0 : Int32) dX0_mayBump_97 (by decide) ?_
                exact r_zret C dX0_mayBump_98 (show narrow .boolean (.int (0 : Int32)) = .int (0 : Int32) from rfl) rfl rfl (show narrow .boolean (.int (0 : Int32)) = .int (0 : Int32) from rfl)
              · refine r_aload_n C dX0_mayBump_82 rfl ?_
                refine r_aload C dX0_mayBump_83 rfl ?_
                refine r_callN C (st := []) (As := [.ref (cAd Θ 2 a1), .ref (cAd Θ 1 q7)]) dX0_mayBump_85 nl_X0_82 sw_X11_skillFor (fun r15 e => c_p_PE_skillFor Θ.1.2.1 (cW Θ) (cAd Θ) (cN Θ) σ a1 q7 b1 h8 r15 e) rfl rfl (Nat.le_of_ble_eq_true rfl) ⟨rfl, rfl, by decide, by decide⟩ (fun r15 h16 => ?_)
                refine r_bipush C (50 : Int32) dX0_mayBump_88 (by decide) ?_
                refine r_icmp_lt C 97 dX0_mayBump_90 (by decide) ?_ ?_
                · refine r_iconst C (0 : Int32) dX0_mayBump_97 (by decide) ?_
                  exact r_zret C dX0_mayBump_98 (show narrow .boolean (.int (0 : Int32)) = .int (0 : Int32) from rfl) rfl rfl (show narrow .boolean (.int (0 : Int32)) = .int (0 : Int32) from rfl)
                · refine r_iconst C (1 : Int32) dX0_mayBump_93 (by decide) ?_
                  refine r_goto C 98 dX0_mayBump_94 (by decide) ?_
                  exact r_zret C dX0_mayBump_98 (show narrow .boolean (.int (1 : Int32)) = .int (1 : Int32) from rfl) rfl rfl (show narrow .boolean (.int (1 : Int32)) = .int (1 : Int32) from rfl)
theorem c_p_Bumping_mayBump (l : Launch) (ω : Wd) (ad : Nat → Nat → Nat) (N : Nat → Nat) (σ : St) (a1 : Nat) (a2 : Nat) (b1 : a1 < N 2) (b2 : a2 < N 2) : ∀ r : Int32, p_Bumping_mayBump σ a1 a2 = some r → Ct l yX0_mayBump cX0_mayBump 5 (some .boolean) ({ frames := 2, cells := 0, slots := 0, locals := 42 } : Room) LC ω ad N [.ref (ω.2.1 5), .ref (ad 2 a1), .ref (ad 2 a2)] σ (some (.int r)) σ (narrow .boolean (.int r) = .int r) :=
  ct_of (o := fun r : Int32 => (some (.int r))) (s' := fun r => σ) (P := fun r => narrow .boolean (.int r) = .int r) [some (.ref (ω.2.1 5)), some (.ref (ad 2 a1)), some (.ref (ad 2 a2)), none, none] (by decide) rfl (Nat.le_of_ble_eq_true rfl) (fun Γ C _ _ => w_p_Bumping_mayBump (Γ, ω, 5, ad, N, 0, 0) σ a1 a2 b1 b2 C)
/-- PostsEnd$Bumping.private static int gradeOf(PostsEnd$Person) -/
def p_Bumping_gradeOf (σ : St) (a0 : Nat) : Option Int32 := (lt1 (σ.2 2 a0 4) fun x1 => (Option.elim x1 (some (0 : Int32)) fun q3 => some (σ.1 1 q3 3)))
set_option maxRecDepth 20000 in
set_option maxHeartbeats 4000000 in
theorem w_p_Bumping_gradeOf (Θ : TT) (σ : St) (a0 : Nat) (b0 : a0 < cN Θ 2) (C : CX Θ cX0_gradeOf RX0 (some .int) ({ frames := 0, cells := 0, slots := 0, locals := 0 } : Room) 2) : WA LC Θ (fun r : Int32 => Qm LC Θ (some (.int r)) σ (True)) 0 [some (.ref (cAd Θ 2 a0)), none] [] σ (p_Bumping_gradeOf σ a0) := by
  unfold p_Bumping_gradeOf
  refine r_aload_n C dX0_gradeOf_0 rfl ?_
  refine r_getQ C dX0_gradeOf_1 (fg_X0_62 _) (by decide) b0 (fun x1 h2 => ?_)
  refine r_astore_n C (x := Option.map (cAd Θ 1) x1) [some (.ref (cAd Θ 2 a0)), some (va_rf (Option.map (cAd Θ 1) x1))] dX0_gradeOf_4 rfl (by decide) rfl ?_
  refine r_aload_nQ C (x := Option.map (cAd Θ 1) x1) dX0_gradeOf_5 rfl ?_
  rcases x1 with _ | q3
  · refine r_ifnonnullN C dX0_gradeOf_6 ?_
    refine r_iconst C (0 : Int32) dX0_gradeOf_9 (by decide) ?_
    refine r_goto C 17 dX0_gradeOf_10 (by decide) ?_
    exact r_iret C dX0_gradeOf_17 rfl rfl trivial
  · have h4 := h2 q3 rfl
    refine r_ifnonnullS C 13 dX0_gradeOf_6 (by decide) ?_
    refine r_aload_n C dX0_gradeOf_13 rfl ?_
    refine r_getI C dX0_gradeOf_14 (fg_X0_75 _) (by decide) h4 ?_
    exact r_iret C dX0_gradeOf_17 rfl rfl trivial
theorem c_p_Bumping_gradeOf (l : Launch) (ω : Wd) (ad : Nat → Nat → Nat) (N : Nat → Nat) (σ : St) (a0 : Nat) (b0 : a0 < N 2) : ∀ r : Int32, p_Bumping_gradeOf σ a0 = some r → Ct l yX0_gradeOf cX0_gradeOf 2 (some .int) ({ frames := 0, cells := 0, slots := 0, locals := 0 } : Room) LC ω ad N [.ref (ad 2 a0)] σ (some (.int r)) σ (True) :=
  ct_of (o := fun r : Int32 => (some (.int r))) (s' := fun r => σ) (P := fun r => True) [some (.ref (ad 2 a0)), none] (by decide) rfl (Nat.le_of_ble_eq_true rfl) (fun Γ C _ _ => w_p_Bumping_gradeOf (Γ, ω, 2, ad, N, 0, 0) σ a0 b0 C)
theorem sw_X0_gradeOf : SW yX0_gradeOf cX0_gradeOf 2 (some .int) 1 := ⟨⟨(in_wt 85 (by decide +kernel) (by decide +kernel)), (in_wt 948 (by decide +kernel) (by decide +kernel)), by decide +kernel⟩, (in_wt 947 (by decide +kernel) (by decide +kernel))⟩
theorem ml_X0_86 : Cond.methodLink RX0 86 yX0_gradeOf ∈ wt := in_wt 946 (by decide +kernel) (by decide +kernel)
/-- PostsEnd$Bumping.private boolean isBetter(PostsEnd$Person, PostsEnd$Person) -/
def p_Bumping_isBetter (σ : St) (a1 : Nat) (a2 : Nat) : Option Int32 := (Option.bind (p_Bumping_gradeOf σ a1) fun r1 => (Option.bind (p_Bumping_gradeOf σ a2) fun r3 => (if r1 = r3 then (Option.bind (p_Bumping_markOf σ a1) fun r5 => (Option.bind (p_Bumping_markOf σ a2) fun r7 => (if r5 < r7 then some (1 : Int32) else some (0 : Int32)))) else (if r3 < r1 then some (1 : Int32) else some (0 : Int32)))))
set_option maxRecDepth 20000 in
set_option maxHeartbeats 4000000 in
theorem w_p_Bumping_isBetter (Θ : TT) (σ : St) (a1 : Nat) (a2 : Nat) (b1 : a1 < cN Θ 2) (b2 : a2 < cN Θ 2) (C : CX Θ cX0_isBetter RX0 (some .boolean) ({ frames := 1, cells := 0, slots := 0, locals := 22 } : Room) 5) : WA LC Θ (fun r : Int32 => Qm LC Θ (some (.int r)) σ (narrow .boolean (.int r) = .int r)) 0 [some (.ref (cF Θ 5)), some (.ref (cAd Θ 2 a1)), some (.ref (cAd Θ 2 a2)), none, none] [] σ (p_Bumping_isBetter σ a1 a2) := by
  unfold p_Bumping_isBetter
  refine r_aload_n C dX0_isBetter_0 rfl ?_
  refine r_callS C (st := []) (As := [.ref (cAd Θ 2 a1)]) dX0_isBetter_1 ml_X0_86 sw_X0_gradeOf (fun r1 e => c_p_Bumping_gradeOf Θ.1.2.1 (cW Θ) (cAd Θ) (cN Θ) σ a1 b1 r1 e) rfl rfl (Nat.le_of_ble_eq_true rfl) ⟨rfl, rfl, by decide, by decide⟩ (fun r1 h2 => ?_)
  refine r_istore_n C [some (.ref (cF Θ 5)), some (.ref (cAd Θ 2 a1)), some (.ref (cAd Θ 2 a2)), some (.int r1), none] dX0_isBetter_4 rfl (by decide) rfl ?_
  refine r_aload_n C dX0_isBetter_5 rfl ?_
  refine r_callS C (st := []) (As := [.ref (cAd Θ 2 a2)]) dX0_isBetter_6 ml_X0_86 sw_X0_gradeOf (fun r3 e => c_p_Bumping_gradeOf Θ.1.2.1 (cW Θ) (cAd Θ) (cN Θ) σ a2 b2 r3 e) rfl rfl (Nat.le_of_ble_eq_true rfl) ⟨rfl, rfl, by decide, by decide⟩ (fun r3 h4 => ?_)
  refine r_istore C [some (.ref (cF Θ 5)), some (.ref (cAd Θ 2 a1)), some (.ref (cAd Θ 2 a2)), some (.int r1), some (.int r3)] dX0_isBetter_9 rfl (by decide) rfl ?_
  refine r_iload_n C dX0_isBetter_11 rfl ?_
  refine r_iload C dX0_isBetter_12 rfl ?_
  refine r_icmp_eq C 29 dX0_isBetter_14 (by decide) ?_ ?_
  · refine r_aload_n C dX0_isBetter_29 rfl ?_
    refine r_aload_n C dX0_isBetter_30 rfl ?_
    refine r_callV C (st := []) (As := [.ref (cAd Θ 2 a1)]) (d := 0) (j := 5) dX0_isBetter_31 ml_X0_78 vw_X0_markOf ⟨_, _, _, _, rfl, rfl⟩ (dm0 (by decide)) (fun r5 e => c_p_Bumping_markOf Θ.1.2.1 (cW Θ) (cAd Θ) (cN Θ) σ a1 b1 r5 e) rfl rfl (Nat.le_of_ble_eq_true rfl) ⟨rfl, rfl, by decide, by decide⟩ (fun r5 h6 => ?_)
    refine r_aload_n C dX0_isBetter_34 rfl ?_
    refine r_aload_n C dX0_isBetter_35 rfl ?_
    refine r_callV C (st := [.int r5]) (As := [.ref (cAd Θ 2 a2)]) (d := 0) (j := 5) dX0_isBetter_36 ml_X0_78 vw_X0_markOf ⟨_, _, _, _, rfl, rfl⟩ (dm0 (by decide)) (fun r7 e => c_p_Bumping_markOf Θ.1.2.1 (cW Θ) (cAd Θ) (cN Θ) σ a2 b2 r7 e) rfl rfl (Nat.le_of_ble_eq_true rfl) ⟨rfl, rfl, by decide, by decide⟩ (fun r7 h8 => ?_)
    refine r_icmp_ge C 46 dX0_isBetter_39 (by decide) ?_ ?_
    · refine r_iconst C (0 : Int32) dX0_isBetter_46 (by decide) ?_
      exact r_zret C dX0_isBetter_47 (show narrow .boolean (.int (0 : Int32)) = .int (0 : Int32) from rfl) rfl rfl (show narrow .boolean (.int (0 : Int32)) = .int (0 : Int32) from rfl)
    · refine r_iconst C (1 : Int32) dX0_isBetter_42 (by decide) ?_
      refine r_goto C 47 dX0_isBetter_43 (by decide) ?_
      exact r_zret C dX0_isBetter_47 (show narrow .boolean (.int (1 : Int32)) = .int (1 : Int32) from rfl) rfl rfl (show narrow .boolean (.int (1 : Int32)) = .int (1 : Int32) from rfl)
  · refine r_iload_n C dX0_isBetter_17 rfl ?_
    refine r_iload C dX0_isBetter_18 rfl ?_
    refine r_icmp_le C 27 dX0_isBetter_20 (by decide) ?_ ?_
    · refine r_iconst C (0 : Int32) dX0_isBetter_27 (by decide) ?_
      exact r_zret C dX0_isBetter_28 (show narrow .boolean (.int (0 : Int32)) = .int (0 : Int32) from rfl) rfl rfl (show narrow .boolean (.int (0 : Int32)) = .int (0 : Int32) from rfl)
    · refine r_iconst C (1 : Int32) dX0_isBetter_23 (by decide) ?_
      refine r_goto C 28 dX0_isBetter_24 (by decide) ?_
      exact r_zret C dX0_isBetter_28 (show narrow .boolean (.int (1 : Int32)) = .int (1 : Int32) from rfl) rfl rfl (show narrow .boolean (.int (1 : Int32)) = .int (1 : Int32) from rfl)
theorem c_p_Bumping_isBetter (l : Launch) (ω : Wd) (ad : Nat → Nat → Nat) (N : Nat → Nat) (σ : St) (a1 : Nat) (a2 : Nat) (b1 : a1 < N 2) (b2 : a2 < N 2) : ∀ r : Int32, p_Bumping_isBetter σ a1 a2 = some r → Ct l yX0_isBetter cX0_isBetter 5 (some .boolean) ({ frames := 1, cells := 0, slots := 0, locals := 22 } : Room) LC ω ad N [.ref (ω.2.1 5), .ref (ad 2 a1), .ref (ad 2 a2)] σ (some (.int r)) σ (narrow .boolean (.int r) = .int r) :=
  ct_of (o := fun r : Int32 => (some (.int r))) (s' := fun r => σ) (P := fun r => narrow .boolean (.int r) = .int r) [some (.ref (ω.2.1 5)), some (.ref (ad 2 a1)), some (.ref (ad 2 a2)), none, none] (by decide) rfl (Nat.le_of_ble_eq_true rfl) (fun Γ C _ _ => w_p_Bumping_isBetter (Γ, ω, 5, ad, N, 0, 0) σ a1 a2 b1 b2 C)
theorem vw_X0_isBetter : VW yX0_isBetter cX0_isBetter 5 (some .boolean) 2 := ⟨⟨(in_wt 85 (by decide +kernel) (by decide +kernel)), (in_wt 945 (by decide +kernel) (by decide +kernel)), by decide +kernel⟩, (in_wt 944 (by decide +kernel) (by decide +kernel)), (in_wt 18 (by decide +kernel) (by decide +kernel))⟩
theorem vw_X0_mayBump : VW yX0_mayBump cX0_mayBump 5 (some .boolean) 2 := ⟨⟨(in_wt 85 (by decide +kernel) (by decide +kernel)), (in_wt 935 (by decide +kernel) (by decide +kernel)), by decide +kernel⟩, (in_wt 934 (by decide +kernel) (by decide +kernel)), (in_wt 16 (by decide +kernel) (by decide +kernel))⟩
theorem ml_X0_55 : Cond.methodLink RX0 55 yX0_mayBump ∈ wt := in_wt 932 (by decide +kernel) (by decide +kernel)
theorem ml_X0_59 : Cond.methodLink RX0 59 yX0_isBetter ∈ wt := in_wt 942 (by decide +kernel) (by decide +kernel)
/-- PostsEnd$Bumping.private PostsEnd$Person bumpedBy(PostsEnd$Person) -/
def p_Bumping_bumpedBy (σ : St) (a1 : Nat) : Option (Option Nat) := (Option.bind (itr0 (S := (Option Nat) × Int32) (E := (Option Nat)) (fun s1 => (lt1 s1.1 fun x9 => (if s1.2 < σ.1 0 1 3 then (Option.bind (p_Firm_personAt σ s1.2) fun r10 => (Option.bind (α := (Option Nat)) ((Option.elim r10 (some x9) fun q15 => (Option.bind (p_Bumping_mayBump σ a1 q15) fun r17 => (if r17 = 0 then some x9 else (Option.elim x9 (some (some q15)) fun q19 => (Option.bind (p_Bumping_isBetter σ q15 q19) fun r21 => (if r21 = 0 then some (some q19) else some (some q15)))))))) fun t12 => some (.inl (t12, s1.2 + (1 : Int32))))) else some (.inr x9)))) FU (none, (0 : Int32))) fun e6 => some e6)
set_option maxRecDepth 20000 in
set_option maxHeartbeats 4000000 in
theorem w_p_Bumping_bumpedBy (Θ : TT) (σ : St) (a1 : Nat) (b1 : a1 < cN Θ 2) (C : CX Θ cX0_bumpedBy RX0 (some (.object "PostsEnd$Person")) ({ frames := 3, cells := 0, slots := 0, locals := 66 } : Room) 5) : WA LC Θ (fun r : Option Nat => Qm LC Θ (some (va_rf (Option.map (cAd Θ 2) r))) σ (∀ q, r = some q → q < cN Θ 2)) 0 [some (.ref (cF Θ 5)), some (.ref (cAd Θ 2 a1)), none, none, none] [] σ (p_Bumping_bumpedBy σ a1) := by
  unfold p_Bumping_bumpedBy
  refine r_null C dX0_bumpedBy_0 ?_
  refine r_astore_n C (x := none) [some (.ref (cF Θ 5)), some (.ref (cAd Θ 2 a1)), some (.null), none, none] dX0_bumpedBy_1 rfl (by decide) rfl ?_
  refine r_iconst C (0 : Int32) dX0_bumpedBy_2 (by decide) ?_
  refine r_istore_n C [some (.ref (cF Θ 5)), some (.ref (cAd Θ 2 a1)), some (.null), some (.int (0 : Int32)), none] dX0_bumpedBy_3 rfl (by decide) rfl ?_
  refine WA.join (α := (Option Nat)) 63 (fun e6 => [none, none, some (va_rf (Option.map (cAd Θ 2) e6)), none, none]) (fun e6 => []) (fun e6 => σ) (fun e6 => (∀ q, e6 = some q → q < cN Θ 2)) (fun e6 h7 => ?_) (fun J8 => ?_)
  · refine r_aload_nQ C (x := Option.map (cAd Θ 2) e6) dX0_bumpedBy_63 rfl ?_
    exact r_aret C (x := Option.map (cAd Θ 2) e6) dX0_bumpedBy_64 rfl rfl h7
  · refine WA.wk (lv' := [some (.ref (cF Θ 5)), some (.ref (cAd Θ 2 a1)), some (va_rf (Option.map (cAd Θ 2) none)), some (.int (0 : Int32)), none]) [true, true, true, true, false] rfl ?_
    refine WA.itr (S := (Option Nat) × Int32) 4 (fun s1 => [some (.ref (cF Θ 5)), some (.ref (cAd Θ 2 a1)), some (va_rf (Option.map (cAd Θ 2) s1.1)), some (.int s1.2), none]) (fun s1 => []) (fun s1 => σ) (fun s1 => (∀ q, s1.1 = some q → q < cN Θ 2)) (fun s1 k5 h2 ih3 hx4 => ?_) FU (none, (0 : Int32)) (fun q e => nomatch e)
    generalize s1.1 = x9 at h2 ⊢
    refine WA.blt ?_
    refine WA.nml ?_
    refine r_iload_n C dX0_bumpedBy_4 rfl ?_
    refine r_aload_n C dX0_bumpedBy_5 rfl ?_
    refine r_getF0 C dX0_bumpedBy_6 fg_X0_21 (by decide) ?_
    refine r_getI0 C dX0_bumpedBy_9 fg_X0_36 (by decide) ?_
    refine WA.bif ?_
    refine r_icmp_ge C 63 dX0_bumpedBy_12 (by decide) ?_ ?_
    · refine WA.wk (lv' := [none, none, some (va_rf (Option.map (cAd Θ 2) x9)), none, none]) [false, false, true, false, false] rfl ?_
      exact WA.eqK (hx4 _) (J8 x9 h2)
    · refine r_aload_n C dX0_bumpedBy_15 rfl ?_
      refine r_getF0 C dX0_bumpedBy_16 fg_X0_21 (by decide) ?_
      refine r_iload_n C dX0_bumpedBy_19 rfl ?_
      refine WA.asc ?_
      refine r_callV C (st := []) (As := [.int s1.2]) (d := 0) (j := 1) dX0_bumpedBy_20 ml_X0_41 vw_X3_personAt ⟨_, _, _, _, rfl, rfl⟩ (dm0 (by decide)) (fun r10 e => c_p_Firm_personAt Θ.1.2.1 (cW Θ) (cAd Θ) (cN Θ) σ s1.2 r10 e) rfl rfl (Nat.le_of_ble_eq_true rfl) ⟨rfl, rfl, by decide, by decide⟩ (fun r10 h11 => ?_)
      refine r_astore C (x := Option.map (cAd Θ 2) r10) [some (.ref (cF Θ 5)), some (.ref (cAd Θ 2 a1)), some (va_rf (Option.map (cAd Θ 2) x9)), some (.int s1.2), some (va_rf (Option.map (cAd Θ 2) r10))] dX0_bumpedBy_23 rfl (by decide) rfl ?_
      refine r_aloadQ C (x := Option.map (cAd Θ 2) r10) dX0_bumpedBy_25 rfl ?_
      refine WA.asc ?_
      refine WA.join (α := (Option Nat)) 57 (fun t12 => [some (.ref (cF Θ 5)), some (.ref (cAd Θ 2 a1)), some (va_rf (Option.map (cAd Θ 2) t12)), some (.int s1.2), none]) (fun t12 => []) (fun t12 => σ) (fun t12 => (∀ q, t12 = some q → q < cN Θ 2)) (fun t12 h13 => ?_) (fun J14 => ?_)
      · refine r_iinc C (1 : Int32) [some (.ref (cF Θ 5)), some (.ref (cAd Θ 2 a1)), some (va_rf (Option.map (cAd Θ 2) t12)), some (.int (s1.2 + (1 : Int32))), none] dX0_bumpedBy_57 (by decide) rfl rfl (by decide) (lvok_q (x := Option.map (cAd Θ 2) t12) rfl) ?_
        refine r_goto C 4 dX0_bumpedBy_60 (by decide) ?_
        refine WA.wk (lv' := [some (.ref (cF Θ 5)), some (.ref (cAd Θ 2 a1)), some (va_rf (Option.map (cAd Θ 2) t12)), some (.int (s1.2 + (1 : Int32))), none]) [true, true, true, true, false] rfl ?_
        exact ih3 (t12, s1.2 + (1 : Int32)) h13
      · refine WA.bel ?_
        rcases r10 with _ | q15
        · refine r_ifnullN C 57 dX0_bumpedBy_27 (by decide) ?_
          refine WA.wk (lv' := [some (.ref (cF Θ 5)), some (.ref (cAd Θ 2 a1)), some (va_rf (Option.map (cAd Θ 2) x9)), some (.int s1.2), none]) [true, true, true, true, false] rfl ?_
          exact J14 x9 h2
        · have h16 := h11 q15 rfl
          refine r_ifnullS C dX0_bumpedBy_27 ?_
          refine r_aload_n C dX0_bumpedBy_30 rfl ?_
          refine r_aload_n C dX0_bumpedBy_31 rfl ?_
          refine r_aload C dX0_bumpedBy_32 rfl ?_
          refine WA.asc ?_
          refine r_callV C (st := []) (As := [.ref (cAd Θ 2 a1), .ref (cAd Θ 2 q15)]) (d := 0) (j := 5) dX0_bumpedBy_34 ml_X0_55 vw_X0_mayBump ⟨_, _, _, _, rfl, rfl⟩ (dm0 (by decide)) (fun r17 e => c_p_Bumping_mayBump Θ.1.2.1 (cW Θ) (cAd Θ) (cN Θ) σ a1 q15 b1 h16 r17 e) rfl rfl (Nat.le_of_ble_eq_true rfl) ⟨rfl, rfl, by decide, by decide⟩ (fun r17 h18 => ?_)
          refine WA.bif ?_
          refine r_if_eq C 57 dX0_bumpedBy_37 (by decide) ?_ ?_
          · refine WA.wk (lv' := [some (.ref (cF Θ 5)), some (.ref (cAd Θ 2 a1)), some (va_rf (Option.map (cAd Θ 2) x9)), some (.int s1.2), none]) [true, true, true, true, false] rfl ?_
            exact J14 x9 h2
          · refine r_aload_nQ C (x := Option.map (cAd Θ 2) x9) dX0_bumpedBy_40 rfl ?_
            refine WA.bel ?_
            rcases x9 with _ | q19
            · refine r_ifnullN C 54 dX0_bumpedBy_41 (by decide) ?_
              refine r_aload C dX0_bumpedBy_54 rfl ?_
              refine r_astore_n C (x := some (cAd Θ 2 q15)) [some (.ref (cF Θ 5)), some (.ref (cAd Θ 2 a1)), some (.ref (cAd Θ 2 q15)), some (.int s1.2), some (.ref (cAd Θ 2 q15))] dX0_bumpedBy_56 rfl (by decide) rfl ?_
              refine WA.wk (lv' := [some (.ref (cF Θ 5)), some (.ref (cAd Θ 2 a1)), some (va_rf (Option.map (cAd Θ 2) (some q15))), some (.int s1.2), none]) [true, true, true, true, false] rfl ?_
              exact J14 (some q15) (fun q e => (Option.some.inj e) ▸ h16)
            · have h20 := h2 q19 rfl
              refine r_ifnullS C dX0_bumpedBy_41 ?_
              refine r_aload_n C dX0_bumpedBy_44 rfl ?_
              refine r_aload C dX0_bumpedBy_45 rfl ?_
              refine r_aload_n C dX0_bumpedBy_47 rfl ?_
              refine WA.asc ?_
              refine r_callV C (st := []) (As := [.ref (cAd Θ 2 q15), .ref (cAd Θ 2 q19)]) (d := 0) (j := 5) dX0_bumpedBy_48 ml_X0_59 vw_X0_isBetter ⟨_, _, _, _, rfl, rfl⟩ (dm0 (by decide)) (fun r21 e => c_p_Bumping_isBetter Θ.1.2.1 (cW Θ) (cAd Θ) (cN Θ) σ q15 q19 h16 h20 r21 e) rfl rfl (Nat.le_of_ble_eq_true rfl) ⟨rfl, rfl, by decide, by decide⟩ (fun r21 h22 => ?_)
              refine WA.bif ?_
              refine r_if_eq C 57 dX0_bumpedBy_51 (by decide) ?_ ?_
              · refine WA.wk (lv' := [some (.ref (cF Θ 5)), some (.ref (cAd Θ 2 a1)), some (va_rf (Option.map (cAd Θ 2) (some q19))), some (.int s1.2), none]) [true, true, true, true, false] rfl ?_
                exact J14 (some q19) (fun q e => (Option.some.inj e) ▸ h20)
              · refine r_aload C dX0_bumpedBy_54 rfl ?_
                refine r_astore_n C (x := some (cAd Θ 2 q15)) [some (.ref (cF Θ 5)), some (.ref (cAd Θ 2 a1)), some (.ref (cAd Θ 2 q15)), some (.int s1.2), some (.ref (cAd Θ 2 q15))] dX0_bumpedBy_56 rfl (by decide) rfl ?_
                refine WA.wk (lv' := [some (.ref (cF Θ 5)), some (.ref (cAd Θ 2 a1)), some (va_rf (Option.map (cAd Θ 2) (some q15))), some (.int s1.2), none]) [true, true, true, true, false] rfl ?_
                exact J14 (some q15) (fun q e => (Option.some.inj e) ▸ h16)
theorem c_p_Bumping_bumpedBy (l : Launch) (ω : Wd) (ad : Nat → Nat → Nat) (N : Nat → Nat) (σ : St) (a1 : Nat) (b1 : a1 < N 2) : ∀ r : Option Nat, p_Bumping_bumpedBy σ a1 = some r → Ct l yX0_bumpedBy cX0_bumpedBy 5 (some (.object "PostsEnd$Person")) ({ frames := 3, cells := 0, slots := 0, locals := 66 } : Room) LC ω ad N [.ref (ω.2.1 5), .ref (ad 2 a1)] σ (some (va_rf (Option.map (ad 2) r))) σ (∀ q, r = some q → q < N 2) :=
  ct_of (o := fun r : Option Nat => (some (va_rf (Option.map (ad 2) r)))) (s' := fun r => σ) (P := fun r => ∀ q, r = some q → q < N 2) [some (.ref (ω.2.1 5)), some (.ref (ad 2 a1)), none, none, none] (by decide) rfl (Nat.le_of_ble_eq_true rfl) (fun Γ C _ _ => w_p_Bumping_bumpedBy (Γ, ω, 5, ad, N, 0, 0) σ a1 b1 C)
theorem ag_LC_27 : AG LC 27 3 40 := ⟨by decide, rfl⟩
theorem vw_X0_bumpedBy : VW yX0_bumpedBy cX0_bumpedBy 5 (some (.object "PostsEnd$Person")) 1 := ⟨⟨(in_wt 85 (by decide +kernel) (by decide +kernel)), (in_wt 931 (by decide +kernel) (by decide +kernel)), by decide +kernel⟩, (in_wt 930 (by decide +kernel) (by decide +kernel)), (in_wt 15 (by decide +kernel) (by decide +kernel))⟩
theorem vw_X0_gatherMarks : VW yX0_gatherMarks cX0_gatherMarks 3 none 0 := ⟨⟨(in_wt 85 (by decide +kernel) (by decide +kernel)), (in_wt 925 (by decide +kernel) (by decide +kernel)), by decide +kernel⟩, (in_wt 924 (by decide +kernel) (by decide +kernel)), (in_wt 14 (by decide +kernel) (by decide +kernel))⟩
theorem fg_X0_17 : FG LC RX0 17 0 5 2 (1, 27) := ⟨_, _, _, _, _, rfl, rfl, rfl, by decide, uw_X0, (in_wt 289 (by decide +kernel) (by decide +kernel))⟩
theorem fg_X0_28 : FG LC RX0 28 0 5 3 (0, 0) := ⟨_, _, _, _, _, rfl, rfl, rfl, by decide, uw_X0, (in_wt 290 (by decide +kernel) (by decide +kernel))⟩
theorem fp_X0_28 : FP LC RX0 28 0 5 3 (0, 0) .int := ⟨_, _, _, _, _, tyX0, rfl, rfl, rfl, by decide, uw_X0, (in_wt 290 (by decide +kernel) (by decide +kernel)), tyX0_ok, nmX0, rfl, by decide +kernel⟩
theorem ml_X0_25 : Cond.methodLink RX0 25 yX0_gatherMarks ∈ wt := in_wt 922 (by decide +kernel) (by decide +kernel)
theorem ml_X0_32 : Cond.methodLink RX0 32 yX0_bumpedBy ∈ wt := in_wt 928 (by decide +kernel) (by decide +kernel)
/-- PostsEnd$Bumping.void follow(PostsEnd$Person) -/
def p_Bumping_follow (σ : St) (a1 : Nat) : Option St := (Option.bind (p_Bumping_gatherMarks σ) fun r1 => (lt1 (sx r1 0 5 3 (0 : Int32)) fun σ3 => (Option.bind (ix 40 (0 : Int32)) fun i4 => (lt1 (sy σ3 0 27 i4 (some a1)) fun σ5 => (Option.bind (p_Bumping_bumpedBy σ5 a1) fun r6 => (Option.bind (itr0 (S := (Option Nat) × St) (E := St) (fun s8 => (lt1 s8.1 fun x16 => (Option.elim x16 (some (.inr s8.2)) fun q17 => (if (s8.2.1 0 5 3) + (1 : Int32) < (40 : Int32) then (lt1 (sx s8.2 0 5 3 ((s8.2.1 0 5 3) + (1 : Int32))) fun σ19 => (Option.bind (ix 40 (σ19.1 0 5 3)) fun i20 => (lt1 (sy σ19 0 27 i20 (some q17)) fun σ21 => (Option.bind (p_Bumping_bumpedBy σ21 q17) fun r22 => some (.inl (r22, σ21)))))) else some (.inr s8.2))))) FU (r6, σ5)) fun e13 => some e13))))))
set_option maxRecDepth 20000 in
set_option maxHeartbeats 4000000 in
theorem w_p_Bumping_follow (Θ : TT) (σ : St) (a1 : Nat) (b1 : a1 < cN Θ 2) (C : CX Θ cX0_follow RX0 none ({ frames := 5, cells := 0, slots := 0, locals := 115 } : Room) 3) : WA LC Θ (fun r : St => Qm LC Θ none r (True)) 0 [some (.ref (cF Θ 5)), some (.ref (cAd Θ 2 a1)), none] [] σ (p_Bumping_follow σ a1) := by
  unfold p_Bumping_follow
  refine r_aload_n C dX0_follow_0 rfl ?_
  refine r_callV C (st := []) (As := []) (d := 0) (j := 5) dX0_follow_1 ml_X0_25 vw_X0_gatherMarks ⟨_, _, _, _, rfl, rfl⟩ (dm0 (by decide)) (fun r1 e => c_p_Bumping_gatherMarks Θ.1.2.1 (cW Θ) (cAd Θ) (cN Θ) σ r1 e) rfl rfl (Nat.le_of_ble_eq_true rfl) ⟨rfl, rfl, by decide, by decide⟩ (fun r1 h2 => ?_)
  refine r_aload_n C dX0_follow_4 rfl ?_
  refine r_iconst C (0 : Int32) dX0_follow_5 (by decide) ?_
  refine r_putI0 C dX0_follow_6 fp_X0_28 (by decide) ?_
  refine WA.gen (fun σ3 => ?_)
  refine r_aload_n C dX0_follow_9 rfl ?_
  refine r_getF0 C dX0_follow_10 fg_X0_17 (by decide) ?_
  refine r_iconst C (0 : Int32) dX0_follow_13 (by decide) ?_
  refine r_aload_n C dX0_follow_14 rfl ?_
  refine r_aast C (x := (some a1)) dX0_follow_15 ag_LC_27 rfl rfl (fun _ => rfl) (by decide) (fun q e => (Option.some.inj e) ▸ b1) (fun i4 => ?_)
  refine WA.gen (fun σ5 => ?_)
  refine r_aload_n C dX0_follow_16 rfl ?_
  refine r_aload_n C dX0_follow_17 rfl ?_
  refine r_callV C (st := []) (As := [.ref (cAd Θ 2 a1)]) (d := 0) (j := 5) dX0_follow_18 ml_X0_32 vw_X0_bumpedBy ⟨_, _, _, _, rfl, rfl⟩ (dm0 (by decide)) (fun r6 e => c_p_Bumping_bumpedBy Θ.1.2.1 (cW Θ) (cAd Θ) (cN Θ) σ5 a1 b1 r6 e) rfl rfl (Nat.le_of_ble_eq_true rfl) ⟨rfl, rfl, by decide, by decide⟩ (fun r6 h7 => ?_)
  refine r_astore_n C (x := Option.map (cAd Θ 2) r6) [some (.ref (cF Θ 5)), some (.ref (cAd Θ 2 a1)), some (va_rf (Option.map (cAd Θ 2) r6))] dX0_follow_21 rfl (by decide) rfl ?_
  refine WA.join (α := St) 66 (fun e13 => [none, none, none]) (fun e13 => []) (fun e13 => e13) (fun e13 => True) (fun e13 h14 => ?_) (fun J15 => ?_)
  · exact r_vret C dX0_follow_66 rfl rfl trivial
  · refine WA.wk (lv' := [some (.ref (cF Θ 5)), none, some (va_rf (Option.map (cAd Θ 2) r6))]) [true, false, true] rfl ?_
    refine WA.itr (S := (Option Nat) × St) 22 (fun s8 => [some (.ref (cF Θ 5)), none, some (va_rf (Option.map (cAd Θ 2) s8.1))]) (fun s8 => []) (fun s8 => s8.2) (fun s8 => (∀ q, s8.1 = some q → q < cN Θ 2)) (fun s8 k12 h9 ih10 hx11 => ?_) FU (r6, σ5) h7
    generalize s8.1 = x16 at h9 ⊢
    refine WA.blt ?_
    refine WA.nml ?_
    refine r_aload_nQ C (x := Option.map (cAd Θ 2) x16) dX0_follow_22 rfl ?_
    refine WA.bel ?_
    rcases x16 with _ | q17
    · refine r_ifnullN C 66 dX0_follow_23 (by decide) ?_
      refine WA.wk (lv' := [none, none, none]) [false, false, false] rfl ?_
      exact WA.eqK (hx11 _) (J15 s8.2 trivial)
    · have h18 := h9 q17 rfl
      refine r_ifnullS C dX0_follow_23 ?_
      refine r_aload_n C dX0_follow_26 rfl ?_
      refine r_getI0 C dX0_follow_27 fg_X0_28 (by decide) ?_
      refine r_iconst C (1 : Int32) dX0_follow_30 (by decide) ?_
      refine r_iadd C dX0_follow_31 ?_
      refine r_bipush C (40 : Int32) dX0_follow_32 (by decide) ?_
      refine WA.bif ?_
      refine r_icmp_ge C 66 dX0_follow_34 (by decide) ?_ ?_
      · refine WA.wk (lv' := [none, none, none]) [false, false, false] rfl ?_
        exact WA.eqK (hx11 _) (J15 s8.2 trivial)
      · refine r_aload_n C dX0_follow_37 rfl ?_
        refine r_dup C dX0_follow_38 rfl ?_
        refine r_getI0 C dX0_follow_39 fg_X0_28 (by decide) ?_
        refine r_iconst C (1 : Int32) dX0_follow_42 (by decide) ?_
        refine r_iadd C dX0_follow_43 ?_
        refine r_putI0 C dX0_follow_44 fp_X0_28 (by decide) ?_
        refine WA.genB (fun σ19 => ?_)
        refine r_aload_n C dX0_follow_47 rfl ?_
        refine r_getF0 C dX0_follow_48 fg_X0_17 (by decide) ?_
        refine r_aload_n C dX0_follow_51 rfl ?_
        refine r_getI0 C dX0_follow_52 fg_X0_28 (by decide) ?_
        refine r_aload_n C dX0_follow_55 rfl ?_
        refine WA.asc ?_
        refine r_aast C (x := (some q17)) dX0_follow_56 ag_LC_27 rfl rfl (fun _ => rfl) (by decide) (fun q e => (Option.some.inj e) ▸ h18) (fun i20 => ?_)
        refine WA.genB (fun σ21 => ?_)
        refine r_aload_n C dX0_follow_57 rfl ?_
        refine r_aload_n C dX0_follow_58 rfl ?_
        refine WA.asc ?_
        refine r_callV C (st := []) (As := [.ref (cAd Θ 2 q17)]) (d := 0) (j := 5) dX0_follow_59 ml_X0_32 vw_X0_bumpedBy ⟨_, _, _, _, rfl, rfl⟩ (dm0 (by decide)) (fun r22 e => c_p_Bumping_bumpedBy Θ.1.2.1 (cW Θ) (cAd Θ) (cN Θ) σ21 q17 h18 r22 e) rfl rfl (Nat.le_of_ble_eq_true rfl) ⟨rfl, rfl, by decide, by decide⟩ (fun r22 h23 => ?_)
        refine r_astore_n C (x := Option.map (cAd Θ 2) r22) [some (.ref (cF Θ 5)), none, some (va_rf (Option.map (cAd Θ 2) r22))] dX0_follow_62 rfl (by decide) rfl ?_
        refine r_goto C 22 dX0_follow_63 (by decide) ?_
        refine WA.wk (lv' := [some (.ref (cF Θ 5)), none, some (va_rf (Option.map (cAd Θ 2) r22))]) [true, false, true] rfl ?_
        exact ih10 (r22, σ21) h23
theorem c_p_Bumping_follow (l : Launch) (ω : Wd) (ad : Nat → Nat → Nat) (N : Nat → Nat) (σ : St) (a1 : Nat) (b1 : a1 < N 2) : ∀ r : St, p_Bumping_follow σ a1 = some r → Ct l yX0_follow cX0_follow 3 none ({ frames := 5, cells := 0, slots := 0, locals := 115 } : Room) LC ω ad N [.ref (ω.2.1 5), .ref (ad 2 a1)] σ none r (True) :=
  ct_of (o := fun r : St => none) (s' := fun r => r) (P := fun r => True) [some (.ref (ω.2.1 5)), some (.ref (ad 2 a1)), none] (by decide) rfl (Nat.le_of_ble_eq_true rfl) (fun Γ C _ _ => w_p_Bumping_follow (Γ, ω, 3, ad, N, 0, 0) σ a1 b1 C)
/-- PostsEnd$Bumping.int personAfter(int) -/
def p_Bumping_personAfter (σ : St) (a1 : Int32) : Option Int32 := (Option.bind (α := (Option Nat)) ((if a1 < 0 then some none else (if σ.1 0 5 3 < a1 then some none else (if a1 < (40 : Int32) then (Option.bind (ix 40 a1) fun i8 => lt1 (σ.2 0 27 i8) fun x6 => some x6) else some none)))) fun t1 => (Option.elim t1 (some (-9 : Int32)) fun q4 => some (σ.1 2 q4 0)))
set_option maxRecDepth 20000 in
set_option maxHeartbeats 4000000 in
theorem w_p_Bumping_personAfter (Θ : TT) (σ : St) (a1 : Int32) (C : CX Θ cX0_personAfter RX0 (some .int) ({ frames := 0, cells := 0, slots := 0, locals := 0 } : Room) 3) : WA LC Θ (fun r : Int32 => Qm LC Θ (some (.int r)) σ (True)) 0 [some (.ref (cF Θ 5)), some (.int a1), none] [] σ (p_Bumping_personAfter σ a1) := by
  unfold p_Bumping_personAfter
  refine r_iload_n C dX0_personAfter_0 rfl ?_
  refine WA.join (α := (Option Nat)) 28 (fun t1 => [none, none, none]) (fun t1 => [va_rf (Option.map (cAd Θ 2) t1)]) (fun t1 => σ) (fun t1 => (∀ q, t1 = some q → q < cN Θ 2)) (fun t1 h2 => ?_) (fun J3 => ?_)
  · refine r_astore_n C (x := Option.map (cAd Θ 2) t1) [none, none, some (va_rf (Option.map (cAd Θ 2) t1))] dX0_personAfter_28 rfl (by decide) rfl ?_
    refine r_aload_nQ C (x := Option.map (cAd Θ 2) t1) dX0_personAfter_29 rfl ?_
    rcases t1 with _ | q4
    · refine r_ifnonnullN C dX0_personAfter_30 ?_
      refine r_bipush C (-9 : Int32) dX0_personAfter_33 (by decide) ?_
      refine r_goto C 42 dX0_personAfter_35 (by decide) ?_
      exact r_iret C dX0_personAfter_42 rfl rfl trivial
    · have h5 := h2 q4 rfl
      refine r_ifnonnullS C 38 dX0_personAfter_30 (by decide) ?_
      refine r_aload_n C dX0_personAfter_38 rfl ?_
      refine r_getI C dX0_personAfter_39 (fg_X0_52 _) (by decide) h5 ?_
      exact r_iret C dX0_personAfter_42 rfl rfl trivial
  · refine WA.bif ?_
    refine r_if_lt C 27 dX0_personAfter_1 (by decide) ?_ ?_
    · refine r_null C dX0_personAfter_27 ?_
      refine WA.wk (lv' := [none, none, none]) [false, false, false] rfl ?_
      exact J3 none (fun q e => nomatch e)
    · refine r_iload_n C dX0_personAfter_4 rfl ?_
      refine r_aload_n C dX0_personAfter_5 rfl ?_
      refine r_getI0 C dX0_personAfter_6 fg_X0_28 (by decide) ?_
      refine WA.bif ?_
      refine r_icmp_gt C 27 dX0_personAfter_9 (by decide) ?_ ?_
      · refine r_null C dX0_personAfter_27 ?_
        refine WA.wk (lv' := [none, none, none]) [false, false, false] rfl ?_
        exact J3 none (fun q e => nomatch e)
      · refine r_iload_n C dX0_personAfter_12 rfl ?_
        refine r_bipush C (40 : Int32) dX0_personAfter_13 (by decide) ?_
        refine WA.bif ?_
        refine r_icmp_ge C 27 dX0_personAfter_15 (by decide) ?_ ?_
        · refine r_null C dX0_personAfter_27 ?_
          refine WA.wk (lv' := [none, none, none]) [false, false, false] rfl ?_
          exact J3 none (fun q e => nomatch e)
        · refine r_aload_n C dX0_personAfter_18 rfl ?_
          refine r_getF0 C dX0_personAfter_19 fg_X0_17 (by decide) ?_
          refine r_iload_n C dX0_personAfter_22 rfl ?_
          refine WA.asl ?_
          refine r_aald C dX0_personAfter_23 ag_LC_27 rfl (fun x6 h7 => ?_)
          refine r_goto C 28 dX0_personAfter_24 (by decide) ?_
          refine WA.wk (lv' := [none, none, none]) [false, false, false] rfl ?_
          exact J3 x6 h7
theorem c_p_Bumping_personAfter (l : Launch) (ω : Wd) (ad : Nat → Nat → Nat) (N : Nat → Nat) (σ : St) (a1 : Int32) : ∀ r : Int32, p_Bumping_personAfter σ a1 = some r → Ct l yX0_personAfter cX0_personAfter 3 (some .int) ({ frames := 0, cells := 0, slots := 0, locals := 0 } : Room) LC ω ad N [.ref (ω.2.1 5), .int a1] σ (some (.int r)) σ (True) :=
  ct_of (o := fun r : Int32 => (some (.int r))) (s' := fun r => σ) (P := fun r => True) [some (.ref (ω.2.1 5)), some (.int a1), none] (by decide) rfl (Nat.le_of_ble_eq_true rfl) (fun Γ C _ _ => w_p_Bumping_personAfter (Γ, ω, 3, ad, N, 0, 0) σ a1 C)
theorem fg_X0_89 (j : Nat) : FG LC RX0 89 1 j 0 (0, 0) := ⟨_, _, _, _, _, rfl, rfl, rfl, by decide, uw_X7, (in_wt 441 (by decide +kernel) (by decide +kernel))⟩
/-- PostsEnd$Bumping.int postOf(int) -/
def p_Bumping_postOf (σ : St) (a1 : Int32) : Option Int32 := (Option.bind (α := (Option Nat)) ((if a1 < 0 then some none else (if a1 < σ.1 0 5 3 then (if a1 + (1 : Int32) < (40 : Int32) then (Option.bind (ix 40 (a1 + (1 : Int32))) fun i15 => lt1 (σ.2 0 27 i15) fun x13 => some x13) else some none) else some none))) fun t1 => (Option.bind (α := (Option Nat)) ((Option.elim t1 (some none) fun q9 => (lt1 (σ.2 2 q9 4) fun x11 => some x11))) fun t4 => (Option.elim t4 (some (-9 : Int32)) fun q7 => some (σ.1 1 q7 0))))
set_option maxRecDepth 20000 in
set_option maxHeartbeats 4000000 in
theorem w_p_Bumping_postOf (Θ : TT) (σ : St) (a1 : Int32) (C : CX Θ cX0_postOf RX0 (some .int) ({ frames := 0, cells := 0, slots := 0, locals := 0 } : Room) 4) : WA LC Θ (fun r : Int32 => Qm LC Θ (some (.int r)) σ (True)) 0 [some (.ref (cF Θ 5)), some (.int a1), none, none] [] σ (p_Bumping_postOf σ a1) := by
  unfold p_Bumping_postOf
  refine r_iload_n C dX0_postOf_0 rfl ?_
  refine WA.join (α := (Option Nat)) 32 (fun t1 => [none, none, none, none]) (fun t1 => [va_rf (Option.map (cAd Θ 2) t1)]) (fun t1 => σ) (fun t1 => (∀ q, t1 = some q → q < cN Θ 2)) (fun t1 h2 => ?_) (fun J3 => ?_)
  · refine r_astore_n C (x := Option.map (cAd Θ 2) t1) [none, none, some (va_rf (Option.map (cAd Θ 2) t1)), none] dX0_postOf_32 rfl (by decide) rfl ?_
    refine r_aload_nQ C (x := Option.map (cAd Θ 2) t1) dX0_postOf_33 rfl ?_
    refine WA.join (α := (Option Nat)) 45 (fun t4 => [none, none, none, none]) (fun t4 => [va_rf (Option.map (cAd Θ 1) t4)]) (fun t4 => σ) (fun t4 => (∀ q, t4 = some q → q < cN Θ 1)) (fun t4 h5 => ?_) (fun J6 => ?_)
    · refine r_astore_n C (x := Option.map (cAd Θ 1) t4) [none, none, none, some (va_rf (Option.map (cAd Θ 1) t4))] dX0_postOf_45 rfl (by decide) rfl ?_
      refine r_aload_nQ C (x := Option.map (cAd Θ 1) t4) dX0_postOf_46 rfl ?_
      rcases t4 with _ | q7
      · refine r_ifnonnullN C dX0_postOf_47 ?_
        refine r_bipush C (-9 : Int32) dX0_postOf_50 (by decide) ?_
        refine r_goto C 59 dX0_postOf_52 (by decide) ?_
        exact r_iret C dX0_postOf_59 rfl rfl trivial
      · have h8 := h5 q7 rfl
        refine r_ifnonnullS C 55 dX0_postOf_47 (by decide) ?_
        refine r_aload_n C dX0_postOf_55 rfl ?_
        refine r_getI C dX0_postOf_56 (fg_X0_89 _) (by decide) h8 ?_
        exact r_iret C dX0_postOf_59 rfl rfl trivial
    · refine WA.bel ?_
      rcases t1 with _ | q9
      · refine r_ifnonnullN C dX0_postOf_34 ?_
        refine r_null C dX0_postOf_37 ?_
        refine r_goto C 45 dX0_postOf_38 (by decide) ?_
        refine WA.wk (lv' := [none, none, none, none]) [false, false, false, false] rfl ?_
        exact J6 none (fun q e => nomatch e)
      · have h10 := h2 q9 rfl
        refine r_ifnonnullS C 41 dX0_postOf_34 (by decide) ?_
        refine r_aload_n C dX0_postOf_41 rfl ?_
        refine WA.blt ?_
        refine r_getQ C dX0_postOf_42 (fg_X0_62 _) (by decide) h10 (fun x11 h12 => ?_)
        refine WA.wk (lv' := [none, none, none, none]) [false, false, false, false] rfl ?_
        exact J6 x11 h12
  · refine WA.bif ?_
    refine r_if_lt C 31 dX0_postOf_1 (by decide) ?_ ?_
    · refine r_null C dX0_postOf_31 ?_
      refine WA.wk (lv' := [none, none, none, none]) [false, false, false, false] rfl ?_
      exact J3 none (fun q e => nomatch e)
    · refine r_iload_n C dX0_postOf_4 rfl ?_
      refine r_aload_n C dX0_postOf_5 rfl ?_
      refine r_getI0 C dX0_postOf_6 fg_X0_28 (by decide) ?_
      refine WA.bif ?_
      refine r_icmp_ge C 31 dX0_postOf_9 (by decide) ?_ ?_
      · refine r_null C dX0_postOf_31 ?_
        refine WA.wk (lv' := [none, none, none, none]) [false, false, false, false] rfl ?_
        exact J3 none (fun q e => nomatch e)
      · refine r_iload_n C dX0_postOf_12 rfl ?_
        refine r_iconst C (1 : Int32) dX0_postOf_13 (by decide) ?_
        refine r_iadd C dX0_postOf_14 ?_
        refine r_bipush C (40 : Int32) dX0_postOf_15 (by decide) ?_
        refine WA.bif ?_
        refine r_icmp_ge C 31 dX0_postOf_17 (by decide) ?_ ?_
        · refine r_null C dX0_postOf_31 ?_
          refine WA.wk (lv' := [none, none, none, none]) [false, false, false, false] rfl ?_
          exact J3 none (fun q e => nomatch e)
        · refine r_aload_n C dX0_postOf_20 rfl ?_
          refine r_getF0 C dX0_postOf_21 fg_X0_17 (by decide) ?_
          refine r_iload_n C dX0_postOf_24 rfl ?_
          refine r_iconst C (1 : Int32) dX0_postOf_25 (by decide) ?_
          refine r_iadd C dX0_postOf_26 ?_
          refine WA.asl ?_
          refine r_aald C dX0_postOf_27 ag_LC_27 rfl (fun x13 h14 => ?_)
          refine r_goto C 32 dX0_postOf_28 (by decide) ?_
          refine WA.wk (lv' := [none, none, none, none]) [false, false, false, false] rfl ?_
          exact J3 x13 h14
theorem c_p_Bumping_postOf (l : Launch) (ω : Wd) (ad : Nat → Nat → Nat) (N : Nat → Nat) (σ : St) (a1 : Int32) : ∀ r : Int32, p_Bumping_postOf σ a1 = some r → Ct l yX0_postOf cX0_postOf 4 (some .int) ({ frames := 0, cells := 0, slots := 0, locals := 0 } : Room) LC ω ad N [.ref (ω.2.1 5), .int a1] σ (some (.int r)) σ (True) :=
  ct_of (o := fun r : Int32 => (some (.int r))) (s' := fun r => σ) (P := fun r => True) [some (.ref (ω.2.1 5)), some (.int a1), none, none] (by decide) rfl (Nat.le_of_ble_eq_true rfl) (fun Γ C _ _ => w_p_Bumping_postOf (Γ, ω, 4, ad, N, 0, 0) σ a1 C)
/-- java/util/Arrays.public static void fill(int[], int) -/
def j_Arrays_fill (σ : St) (a0 : Nat) (n : Nat) (a1 : Int32) : Option St := (Option.bind (itr0 (S := Int32 × St) (E := St) (fun s1 => (if s1.1 < (Int32.ofNat n) then (Option.bind (ix n s1.1) fun i9 => (lt1 (sx s1.2 0 a0 i9 a1) fun σ10 => some (.inl (s1.1 + (1 : Int32), σ10)))) else some (.inr s1.2))) FU ((0 : Int32), σ)) fun e6 => some e6)
set_option maxRecDepth 20000 in
set_option maxHeartbeats 4000000 in
theorem w_j_Arrays_fill (Θ : TT) (σ : St) (a0 : Nat) (n : Nat) (a1 : Int32) (b0 : AG LC a0 0 n) (C : CX Θ cJ7_fill_53178 RJ7 none ({ frames := 0, cells := 0, slots := 0, locals := 0 } : Room) 4) : WA LC Θ (fun r : St => Qm LC Θ none r (True)) 0 [some (.ref (cF Θ a0)), some (.int a1), none, none] [] σ (j_Arrays_fill σ a0 n a1) := by
  unfold j_Arrays_fill
  refine r_iconst C (0 : Int32) dJ7_fill_53178_0 (by decide) ?_
  refine r_istore_n C [some (.ref (cF Θ a0)), some (.int a1), some (.int (0 : Int32)), none] dJ7_fill_53178_1 rfl (by decide) rfl ?_
  refine r_aload_n C dJ7_fill_53178_2 rfl ?_
  refine r_alen C (Int32.ofNat n) dJ7_fill_53178_3 b0 rfl ?_
  refine r_istore_n C [some (.ref (cF Θ a0)), some (.int a1), some (.int (0 : Int32)), some (.int (Int32.ofNat n))] dJ7_fill_53178_4 rfl (by decide) rfl ?_
  refine WA.join (α := St) 20 (fun e6 => [none, none, none, none]) (fun e6 => []) (fun e6 => e6) (fun e6 => True) (fun e6 h7 => ?_) (fun J8 => ?_)
  · exact r_vret C dJ7_fill_53178_20 rfl rfl trivial
  · refine WA.wk (lv' := [some (.ref (cF Θ a0)), some (.int a1), some (.int (0 : Int32)), some (.int (Int32.ofNat n))]) [true, true, true, true] rfl ?_
    refine WA.itr (S := Int32 × St) 5 (fun s1 => [some (.ref (cF Θ a0)), some (.int a1), some (.int s1.1), some (.int (Int32.ofNat n))]) (fun s1 => []) (fun s1 => s1.2) (fun s1 => True) (fun s1 k5 h2 ih3 hx4 => ?_) FU ((0 : Int32), σ) trivial
    refine r_iload_n C dJ7_fill_53178_5 rfl ?_
    refine r_iload_n C dJ7_fill_53178_6 rfl ?_
    refine WA.bif ?_
    refine r_icmp_ge C 20 dJ7_fill_53178_7 (by decide) ?_ ?_
    · refine WA.wk (lv' := [none, none, none, none]) [false, false, false, false] rfl ?_
      exact WA.eqK (hx4 _) (J8 s1.2 trivial)
    · refine r_aload_n C dJ7_fill_53178_10 rfl ?_
      refine r_iload_n C dJ7_fill_53178_11 rfl ?_
      refine r_iload_n C dJ7_fill_53178_12 rfl ?_
      refine WA.asc ?_
      refine r_iast C dJ7_fill_53178_13 b0 (fun i9 => ?_)
      refine WA.genB (fun σ10 => ?_)
      refine r_iinc C (1 : Int32) [some (.ref (cF Θ a0)), some (.int a1), some (.int (s1.1 + (1 : Int32))), some (.int (Int32.ofNat n))] dJ7_fill_53178_14 (by decide) rfl rfl (by decide) rfl ?_
      refine r_goto C 5 dJ7_fill_53178_17 (by decide) ?_
      refine WA.wk (lv' := [some (.ref (cF Θ a0)), some (.int a1), some (.int (s1.1 + (1 : Int32))), some (.int (Int32.ofNat n))]) [true, true, true, true] rfl ?_
      exact ih3 (s1.1 + (1 : Int32), σ10) trivial
theorem c_j_Arrays_fill (l : Launch) (ω : Wd) (ad : Nat → Nat → Nat) (N : Nat → Nat) (σ : St) (a0 : Nat) (n : Nat) (a1 : Int32) (b0 : AG LC a0 0 n) : ∀ r : St, j_Arrays_fill σ a0 n a1 = some r → Ct l yJ7_fill_53178 cJ7_fill_53178 4 none ({ frames := 0, cells := 0, slots := 0, locals := 0 } : Room) LC ω ad N [.ref (ω.2.1 a0), .int a1] σ none r (True) :=
  ct_of (o := fun r : St => none) (s' := fun r => r) (P := fun r => True) [some (.ref (ω.2.1 a0)), some (.int a1), none, none] (by decide) rfl (Nat.le_of_ble_eq_true rfl) (fun Γ C _ _ => w_j_Arrays_fill (Γ, ω, 4, ad, N, 0, 0) σ a0 n a1 b0 C)
theorem ag_LC_17 : AG LC 17 3 40 := ⟨by decide, rfl⟩
theorem fg_X6_23 : FG LC RX6 23 0 2 3 (1, 17) := ⟨_, _, _, _, _, rfl, rfl, rfl, by decide, uw_X6, (in_wt 182 (by decide +kernel) (by decide +kernel))⟩
theorem fg_X6_90 : FG LC RX6 90 0 2 6 (0, 0) := ⟨_, _, _, _, _, rfl, rfl, rfl, by decide, uw_X6, (in_wt 188 (by decide +kernel) (by decide +kernel))⟩
/-- PostsEnd$Pools.PostsEnd$Person memberAt(int) -/
def p_Pools_memberAt (σ : St) (a1 : Int32) : Option (Option Nat) := (if a1 < 0 then some none else (if a1 < σ.1 0 2 6 then (Option.bind (ix 40 a1) fun i3 => lt1 (σ.2 0 17 i3) fun x1 => some x1) else some none))
set_option maxRecDepth 20000 in
set_option maxHeartbeats 4000000 in
theorem w_p_Pools_memberAt (Θ : TT) (σ : St) (a1 : Int32) (C : CX Θ cX6_memberAt RX6 (some (.object "PostsEnd$Person")) ({ frames := 0, cells := 0, slots := 0, locals := 0 } : Room) 2) : WA LC Θ (fun r : Option Nat => Qm LC Θ (some (va_rf (Option.map (cAd Θ 2) r))) σ (∀ q, r = some q → q < cN Θ 2)) 0 [some (.ref (cF Θ 2)), some (.int a1)] [] σ (p_Pools_memberAt σ a1) := by
  unfold p_Pools_memberAt
  refine r_iload_n C dX6_memberAt_0 rfl ?_
  refine r_if_lt C 21 dX6_memberAt_1 (by decide) ?_ ?_
  · refine r_null C dX6_memberAt_21 ?_
    exact r_aret C (x := Option.map (cAd Θ 2) none) dX6_memberAt_22 rfl rfl (fun q e => nomatch e)
  · refine r_iload_n C dX6_memberAt_4 rfl ?_
    refine r_aload_n C dX6_memberAt_5 rfl ?_
    refine r_getI0 C dX6_memberAt_6 fg_X6_90 (by decide) ?_
    refine r_icmp_ge C 21 dX6_memberAt_9 (by decide) ?_ ?_
    · refine r_null C dX6_memberAt_21 ?_
      exact r_aret C (x := Option.map (cAd Θ 2) none) dX6_memberAt_22 rfl rfl (fun q e => nomatch e)
    · refine r_aload_n C dX6_memberAt_12 rfl ?_
      refine r_getF0 C dX6_memberAt_13 fg_X6_23 (by decide) ?_
      refine r_iload_n C dX6_memberAt_16 rfl ?_
      refine r_aald C dX6_memberAt_17 ag_LC_17 rfl (fun x1 h2 => ?_)
      refine r_goto C 22 dX6_memberAt_18 (by decide) ?_
      exact r_aret C (x := Option.map (cAd Θ 2) x1) dX6_memberAt_22 rfl rfl h2
theorem c_p_Pools_memberAt (l : Launch) (ω : Wd) (ad : Nat → Nat → Nat) (N : Nat → Nat) (σ : St) (a1 : Int32) : ∀ r : Option Nat, p_Pools_memberAt σ a1 = some r → Ct l yX6_memberAt cX6_memberAt 2 (some (.object "PostsEnd$Person")) ({ frames := 0, cells := 0, slots := 0, locals := 0 } : Room) LC ω ad N [.ref (ω.2.1 2), .int a1] σ (some (va_rf (Option.map (ad 2) r))) σ (∀ q, r = some q → q < N 2) :=
  ct_of (o := fun r : Option Nat => (some (va_rf (Option.map (ad 2) r)))) (s' := fun r => σ) (P := fun r => ∀ q, r = some q → q < N 2) [some (.ref (ω.2.1 2)), some (.int a1)] (by decide) rfl (Nat.le_of_ble_eq_true rfl) (fun Γ C _ _ => w_p_Pools_memberAt (Γ, ω, 2, ad, N, 0, 0) σ a1 C)
