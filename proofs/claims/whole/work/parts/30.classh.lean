theorem ml_X11_203 : Cond.methodLink RX11 203 yX6_joinedAs ∈ wt := in_wt 789 (by decide +kernel) (by decide +kernel)
/-- PostsEnd.public int poolOf(int, int) -/
def p_PE_poolOf (σ : St) (a1 : Int32) (a2 : Int32) : Option (Int32 × St) := (Option.bind (p_Firm_postAt σ a2) fun r1 => (Option.elim r1 ((Option.bind (p_PE_refuse σ (-1 : Int32)) fun r5 => some (r5.1, r5.2))) fun q3 => (Option.bind (p_Firm_isUnit σ a1) fun r7 => (if r7 = 0 then (Option.bind (p_PE_refuse σ (-1 : Int32)) fun r13 => some (r13.1, r13.2)) else (Option.bind (p_Pools_join σ a1) fun r9 => (Option.bind (p_Pools_joinedAs r9 q3) fun r11 => (if r11 < 0 then some ((-9 : Int32), r9) else some (r11, r9))))))))
set_option maxRecDepth 20000 in
set_option maxHeartbeats 4000000 in
theorem w_p_PE_poolOf (Θ : TT) (σ : St) (a1 : Int32) (a2 : Int32) (C : CX Θ cX11_poolOf RX11 (some .int) ({ frames := 5, cells := 0, slots := 0, locals := 115 } : Room) 5) : WA LC Θ (fun r : Int32 × St => Qm LC Θ (some (.int r.1)) r.2 (True)) 0 [some (.ref (cF Θ 0)), some (.int a1), some (.int a2), none, none] [] σ (p_PE_poolOf σ a1 a2) := by
  unfold p_PE_poolOf
  refine r_aload_n C dX11_poolOf_0 rfl ?_
  refine r_getF0 C dX11_poolOf_1 fg_X11_10 (by decide) ?_
  refine r_iload_n C dX11_poolOf_4 rfl ?_
  refine r_callV C (st := []) (As := [.int a2]) (d := 0) (j := 1) dX11_poolOf_5 ml_X11_94 vw_X3_postAt ⟨_, _, _, _, rfl, rfl⟩ (dm0 (by decide)) (fun r1 e => c_p_Firm_postAt Θ.1.2.1 (cW Θ) (cAd Θ) (cN Θ) σ a2 r1 e) rfl rfl (Nat.le_of_ble_eq_true rfl) ⟨rfl, rfl, by decide, by decide⟩ (fun r1 h2 => ?_)
  refine r_astore_n C (x := Option.map (cAd Θ 1) r1) [some (.ref (cF Θ 0)), some (.int a1), some (.int a2), some (va_rf (Option.map (cAd Θ 1) r1)), none] dX11_poolOf_8 rfl (by decide) rfl ?_
  refine r_aload_nQ C (x := Option.map (cAd Θ 1) r1) dX11_poolOf_9 rfl ?_
  rcases r1 with _ | q3
  · refine r_ifnullN C 24 dX11_poolOf_10 (by decide) ?_
    refine r_aload_n C dX11_poolOf_24 rfl ?_
    refine r_iconst C (-1 : Int32) dX11_poolOf_25 (by decide) ?_
    refine r_callV C (st := []) (As := [.int (-1 : Int32)]) (d := 0) (j := 0) dX11_poolOf_26 ml_X11_64 vw_X11_refuse ⟨_, _, _, _, rfl, rfl⟩ (dm0 (by decide)) (fun r5 e => c_p_PE_refuse Θ.1.2.1 (cW Θ) (cAd Θ) (cN Θ) σ (-1 : Int32) r5 e) rfl rfl (Nat.le_of_ble_eq_true rfl) ⟨rfl, rfl, by decide, by decide⟩ (fun r5 h6 => ?_)
    exact r_iret C dX11_poolOf_29 rfl rfl trivial
  · have h4 := h2 q3 rfl
    refine r_ifnullS C dX11_poolOf_10 ?_
    refine r_aload_n C dX11_poolOf_13 rfl ?_
    refine r_getF0 C dX11_poolOf_14 fg_X11_10 (by decide) ?_
    refine r_iload_n C dX11_poolOf_17 rfl ?_
    refine r_callV C (st := []) (As := [.int a1]) (d := 0) (j := 1) dX11_poolOf_18 ml_X11_72 vw_X3_isUnit ⟨_, _, _, _, rfl, rfl⟩ (dm0 (by decide)) (fun r7 e => c_p_Firm_isUnit Θ.1.2.1 (cW Θ) (cAd Θ) (cN Θ) σ a1 r7 e) rfl rfl (Nat.le_of_ble_eq_true rfl) ⟨rfl, rfl, by decide, by decide⟩ (fun r7 h8 => ?_)
    refine r_if_ne C 30 dX11_poolOf_21 (by decide) ?_ ?_
    · refine r_aload_n C dX11_poolOf_30 rfl ?_
      refine r_getF0 C dX11_poolOf_31 fg_X11_21 (by decide) ?_
      refine r_iload_n C dX11_poolOf_34 rfl ?_
      refine r_callV C (st := []) (As := [.int a1]) (d := 0) (j := 2) dX11_poolOf_35 ml_X11_197 vw_X6_join ⟨_, _, _, _, rfl, rfl⟩ (dm0 (by decide)) (fun r9 e => c_p_Pools_join Θ.1.2.1 (cW Θ) (cAd Θ) (cN Θ) σ a1 r9 e) rfl rfl (Nat.le_of_ble_eq_true rfl) ⟨rfl, rfl, by decide, by decide⟩ (fun r9 h10 => ?_)
      refine r_aload_n C dX11_poolOf_38 rfl ?_
      refine r_getF0 C dX11_poolOf_39 fg_X11_21 (by decide) ?_
      refine r_aload_n C dX11_poolOf_42 rfl ?_
      refine r_callV C (st := []) (As := [.ref (cAd Θ 1 q3)]) (d := 0) (j := 2) dX11_poolOf_43 ml_X11_203 vw_X6_joinedAs ⟨_, _, _, _, rfl, rfl⟩ (dm0 (by decide)) (fun r11 e => c_p_Pools_joinedAs Θ.1.2.1 (cW Θ) (cAd Θ) (cN Θ) r9 q3 h4 r11 e) rfl rfl (Nat.le_of_ble_eq_true rfl) ⟨rfl, rfl, by decide, by decide⟩ (fun r11 h12 => ?_)
      refine r_istore C [some (.ref (cF Θ 0)), some (.int a1), some (.int a2), some (.ref (cAd Θ 1 q3)), some (.int r11)] dX11_poolOf_46 rfl (by decide) rfl ?_
      refine r_iload C dX11_poolOf_48 rfl ?_
      refine r_if_ge C 58 dX11_poolOf_50 (by decide) ?_ ?_
      · refine r_iload C dX11_poolOf_58 rfl ?_
        exact r_iret C dX11_poolOf_60 rfl rfl trivial
      · refine r_bipush C (-9 : Int32) dX11_poolOf_53 (by decide) ?_
        refine r_goto C 60 dX11_poolOf_55 (by decide) ?_
        exact r_iret C dX11_poolOf_60 rfl rfl trivial
    · refine r_aload_n C dX11_poolOf_24 rfl ?_
      refine r_iconst C (-1 : Int32) dX11_poolOf_25 (by decide) ?_
      refine r_callV C (st := []) (As := [.int (-1 : Int32)]) (d := 0) (j := 0) dX11_poolOf_26 ml_X11_64 vw_X11_refuse ⟨_, _, _, _, rfl, rfl⟩ (dm0 (by decide)) (fun r13 e => c_p_PE_refuse Θ.1.2.1 (cW Θ) (cAd Θ) (cN Θ) σ (-1 : Int32) r13 e) rfl rfl (Nat.le_of_ble_eq_true rfl) ⟨rfl, rfl, by decide, by decide⟩ (fun r13 h14 => ?_)
      exact r_iret C dX11_poolOf_29 rfl rfl trivial
theorem c_p_PE_poolOf (l : Launch) (ω : Wd) (ad : Nat → Nat → Nat) (N : Nat → Nat) (σ : St) (a1 : Int32) (a2 : Int32) : ∀ r : Int32 × St, p_PE_poolOf σ a1 a2 = some r → Ct l yX11_poolOf cX11_poolOf 5 (some .int) ({ frames := 5, cells := 0, slots := 0, locals := 115 } : Room) LC ω ad N [.ref (ω.2.1 0), .int a1, .int a2] σ (some (.int r.1)) r.2 (True) :=
  ct_of (o := fun r : Int32 × St => (some (.int r.1))) (s' := fun r => r.2) (P := fun r => True) [some (.ref (ω.2.1 0)), some (.int a1), some (.int a2), none, none] (by decide) rfl (Nat.le_of_ble_eq_true rfl) (fun Γ C _ _ => w_p_PE_poolOf (Γ, ω, 5, ad, N, 0, 0) σ a1 a2 C)
/-- PostsEnd.private static int refusalOfNumber(int) -/
def p_PE_refusalOfNumber (a0 : Int32) : Option Int32 := (if a0 < 0 then some (-4 : Int32) else (if (40 : Int32) < a0 then some (-6 : Int32) else some (0 : Int32)))
set_option maxRecDepth 20000 in
set_option maxHeartbeats 4000000 in
theorem w_p_PE_refusalOfNumber (Θ : TT) (σ : St) (a0 : Int32) (C : CX Θ cX11_refusalOfNumber RX11 (some .int) ({ frames := 0, cells := 0, slots := 0, locals := 0 } : Room) 1) : WA LC Θ (fun r : Int32 => Qm LC Θ (some (.int r)) σ (True)) 0 [some (.int a0)] [] σ (p_PE_refusalOfNumber a0) := by
  unfold p_PE_refusalOfNumber
  refine r_iload_n C dX11_refusalOfNumber_0 rfl ?_
  refine r_if_ge C 7 dX11_refusalOfNumber_1 (by decide) ?_ ?_
  · refine r_iload_n C dX11_refusalOfNumber_7 rfl ?_
    refine r_bipush C (40 : Int32) dX11_refusalOfNumber_8 (by decide) ?_
    refine r_icmp_le C 18 dX11_refusalOfNumber_10 (by decide) ?_ ?_
    · refine r_iconst C (0 : Int32) dX11_refusalOfNumber_18 (by decide) ?_
      exact r_iret C dX11_refusalOfNumber_19 rfl rfl trivial
    · refine r_bipush C (-6 : Int32) dX11_refusalOfNumber_13 (by decide) ?_
      refine r_goto C 19 dX11_refusalOfNumber_15 (by decide) ?_
      exact r_iret C dX11_refusalOfNumber_19 rfl rfl trivial
  · refine r_bipush C (-4 : Int32) dX11_refusalOfNumber_4 (by decide) ?_
    exact r_iret C dX11_refusalOfNumber_6 rfl rfl trivial
theorem c_p_PE_refusalOfNumber (l : Launch) (ω : Wd) (ad : Nat → Nat → Nat) (N : Nat → Nat) (σ : St) (a0 : Int32) : ∀ r : Int32, p_PE_refusalOfNumber a0 = some r → Ct l yX11_refusalOfNumber cX11_refusalOfNumber 1 (some .int) ({ frames := 0, cells := 0, slots := 0, locals := 0 } : Room) LC ω ad N [.int a0] σ (some (.int r)) σ (True) :=
  ct_of (o := fun r : Int32 => (some (.int r))) (s' := fun r => σ) (P := fun r => True) [some (.int a0)] (by decide) rfl (Nat.le_of_ble_eq_true rfl) (fun Γ C _ _ => w_p_PE_refusalOfNumber (Γ, ω, 1, ad, N, 0, 0) σ a0 C)
theorem vw_X6_take : VW yX6_take cX6_take 3 (some .boolean) 2 := ⟨⟨(in_wt 82 (by decide +kernel) (by decide +kernel)), (in_wt 797 (by decide +kernel) (by decide +kernel)), by decide +kernel⟩, (in_wt 795 (by decide +kernel) (by decide +kernel)), (in_wt 796 (by decide +kernel) (by decide +kernel))⟩
theorem vw_X8_gather : VW yX8_gather cX8_gather 4 none 1 := ⟨⟨(in_wt 83 (by decide +kernel) (by decide +kernel)), (in_wt 815 (by decide +kernel) (by decide +kernel)), by decide +kernel⟩, (in_wt 813 (by decide +kernel) (by decide +kernel)), (in_wt 814 (by decide +kernel) (by decide +kernel))⟩
theorem vw_X8_goesAt : VW yX8_goesAt cX8_goesAt 5 (some .int) 2 := ⟨⟨(in_wt 83 (by decide +kernel) (by decide +kernel)), (in_wt 828 (by decide +kernel) (by decide +kernel)), by decide +kernel⟩, (in_wt 826 (by decide +kernel) (by decide +kernel)), (in_wt 827 (by decide +kernel) (by decide +kernel))⟩
theorem sw_X11_refusalOfNumber : SW yX11_refusalOfNumber cX11_refusalOfNumber 1 (some .int) 1 := ⟨⟨(in_wt 80 (by decide +kernel) (by decide +kernel)), (in_wt 811 (by decide +kernel) (by decide +kernel)), by decide +kernel⟩, (in_wt 810 (by decide +kernel) (by decide +kernel))⟩
theorem fg_X11_28 : FG LC RX11 28 0 0 2 (1, 3) := ⟨_, _, _, _, _, rfl, rfl, rfl, by decide, uw_X11, (in_wt 384 (by decide +kernel) (by decide +kernel))⟩
theorem ml_X11_206 : Cond.methodLink RX11 206 yX6_take ∈ wt := in_wt 794 (by decide +kernel) (by decide +kernel)
theorem ml_X11_210 : Cond.methodLink RX11 210 yX11_refusalOfNumber ∈ wt := in_wt 809 (by decide +kernel) (by decide +kernel)
theorem ml_X11_213 : Cond.methodLink RX11 213 yX8_gather ∈ wt := in_wt 812 (by decide +kernel) (by decide +kernel)
theorem ml_X11_217 : Cond.methodLink RX11 217 yX8_goesAt ∈ wt := in_wt 825 (by decide +kernel) (by decide +kernel)
/-- PostsEnd.public int cut(int, int, int, int) -/
def p_PE_cut (σ : St) (a1 : Int32) (a2 : Int32) (a3 : Int32) (a4 : Int32) : Option (Int32 × St) := (Option.bind (p_Pools_take σ a1 a2) fun r1 => (if r1.1 = 0 then (Option.bind (p_PE_refuse r1.2 (-1 : Int32)) fun r11 => some (r11.1, r11.2)) else (Option.bind (p_PE_refusalOfNumber a3) fun r3 => (if r3 = 0 then (Option.bind (p_Ranks_gather r1.2) fun r5 => (Option.bind (p_Ranks_goesAt r5 a3 a4) fun r7 => some (r7, r5))) else (Option.bind (p_PE_refuse r1.2 r3) fun r9 => some (r9.1, r9.2))))))
set_option maxRecDepth 20000 in
set_option maxHeartbeats 4000000 in
theorem w_p_PE_cut (Θ : TT) (σ : St) (a1 : Int32) (a2 : Int32) (a3 : Int32) (a4 : Int32) (C : CX Θ cX11_cut RX11 (some .int) ({ frames := 6, cells := 0, slots := 0, locals := 137 } : Room) 6) : WA LC Θ (fun r : Int32 × St => Qm LC Θ (some (.int r.1)) r.2 (True)) 0 [some (.ref (cF Θ 0)), some (.int a1), some (.int a2), some (.int a3), some (.int a4), none] [] σ (p_PE_cut σ a1 a2 a3 a4) := by
  unfold p_PE_cut
  refine r_aload_n C dX11_cut_0 rfl ?_
  refine r_getF0 C dX11_cut_1 fg_X11_21 (by decide) ?_
  refine r_iload_n C dX11_cut_4 rfl ?_
  refine r_iload_n C dX11_cut_5 rfl ?_
  refine r_callV C (st := []) (As := [.int a1, .int a2]) (d := 0) (j := 2) dX11_cut_6 ml_X11_206 vw_X6_take ⟨_, _, _, _, rfl, rfl⟩ (dm0 (by decide)) (fun r1 e => c_p_Pools_take Θ.1.2.1 (cW Θ) (cAd Θ) (cN Θ) σ a1 a2 r1 e) rfl rfl (Nat.le_of_ble_eq_true rfl) ⟨rfl, rfl, by decide, by decide⟩ (fun r1 h2 => ?_)
  refine r_if_ne C 18 dX11_cut_9 (by decide) ?_ ?_
  · refine r_iload_n C dX11_cut_18 rfl ?_
    refine r_callS C (st := []) (As := [.int a3]) dX11_cut_19 ml_X11_210 sw_X11_refusalOfNumber (fun r3 e => c_p_PE_refusalOfNumber Θ.1.2.1 (cW Θ) (cAd Θ) (cN Θ) r1.2 a3 r3 e) rfl rfl (Nat.le_of_ble_eq_true rfl) ⟨rfl, rfl, by decide, by decide⟩ (fun r3 h4 => ?_)
    refine r_istore C [some (.ref (cF Θ 0)), some (.int a1), some (.int a2), some (.int a3), some (.int a4), some (.int r3)] dX11_cut_22 rfl (by decide) rfl ?_
    refine r_iload C dX11_cut_24 rfl ?_
    refine r_if_eq C 36 dX11_cut_26 (by decide) ?_ ?_
    · refine r_aload_n C dX11_cut_36 rfl ?_
      refine r_getF0 C dX11_cut_37 fg_X11_28 (by decide) ?_
      refine r_aload_n C dX11_cut_40 rfl ?_
      refine r_getF0 C dX11_cut_41 fg_X11_21 (by decide) ?_
      refine r_callV C (st := []) (As := [.ref (cF Θ 2)]) (d := 0) (j := 3) dX11_cut_44 ml_X11_213 vw_X8_gather ⟨_, _, _, _, rfl, rfl⟩ (dm0 (by decide)) (fun r5 e => c_p_Ranks_gather Θ.1.2.1 (cW Θ) (cAd Θ) (cN Θ) r1.2 r5 e) rfl rfl (Nat.le_of_ble_eq_true rfl) ⟨rfl, rfl, by decide, by decide⟩ (fun r5 h6 => ?_)
      refine r_aload_n C dX11_cut_47 rfl ?_
      refine r_getF0 C dX11_cut_48 fg_X11_28 (by decide) ?_
      refine r_iload_n C dX11_cut_51 rfl ?_
      refine r_iload C dX11_cut_52 rfl ?_
      refine r_callV C (st := []) (As := [.int a3, .int a4]) (d := 0) (j := 3) dX11_cut_54 ml_X11_217 vw_X8_goesAt ⟨_, _, _, _, rfl, rfl⟩ (dm0 (by decide)) (fun r7 e => c_p_Ranks_goesAt Θ.1.2.1 (cW Θ) (cAd Θ) (cN Θ) r5 a3 a4 r7 e) rfl rfl (Nat.le_of_ble_eq_true rfl) ⟨rfl, rfl, by decide, by decide⟩ (fun r7 h8 => ?_)
      exact r_iret C dX11_cut_57 rfl rfl trivial
    · refine r_aload_n C dX11_cut_29 rfl ?_
      refine r_iload C dX11_cut_30 rfl ?_
      refine r_callV C (st := []) (As := [.int r3]) (d := 0) (j := 0) dX11_cut_32 ml_X11_64 vw_X11_refuse ⟨_, _, _, _, rfl, rfl⟩ (dm0 (by decide)) (fun r9 e => c_p_PE_refuse Θ.1.2.1 (cW Θ) (cAd Θ) (cN Θ) r1.2 r3 r9 e) rfl rfl (Nat.le_of_ble_eq_true rfl) ⟨rfl, rfl, by decide, by decide⟩ (fun r9 h10 => ?_)
      exact r_iret C dX11_cut_35 rfl rfl trivial
  · refine r_aload_n C dX11_cut_12 rfl ?_
    refine r_iconst C (-1 : Int32) dX11_cut_13 (by decide) ?_
    refine r_callV C (st := []) (As := [.int (-1 : Int32)]) (d := 0) (j := 0) dX11_cut_14 ml_X11_64 vw_X11_refuse ⟨_, _, _, _, rfl, rfl⟩ (dm0 (by decide)) (fun r11 e => c_p_PE_refuse Θ.1.2.1 (cW Θ) (cAd Θ) (cN Θ) r1.2 (-1 : Int32) r11 e) rfl rfl (Nat.le_of_ble_eq_true rfl) ⟨rfl, rfl, by decide, by decide⟩ (fun r11 h12 => ?_)
    exact r_iret C dX11_cut_17 rfl rfl trivial
theorem c_p_PE_cut (l : Launch) (ω : Wd) (ad : Nat → Nat → Nat) (N : Nat → Nat) (σ : St) (a1 : Int32) (a2 : Int32) (a3 : Int32) (a4 : Int32) : ∀ r : Int32 × St, p_PE_cut σ a1 a2 a3 a4 = some r → Ct l yX11_cut cX11_cut 6 (some .int) ({ frames := 6, cells := 0, slots := 0, locals := 137 } : Room) LC ω ad N [.ref (ω.2.1 0), .int a1, .int a2, .int a3, .int a4] σ (some (.int r.1)) r.2 (True) :=
  ct_of (o := fun r : Int32 × St => (some (.int r.1))) (s' := fun r => r.2) (P := fun r => True) [some (.ref (ω.2.1 0)), some (.int a1), some (.int a2), some (.int a3), some (.int a4), none] (by decide) rfl (Nat.le_of_ble_eq_true rfl) (fun Γ C _ _ => w_p_PE_cut (Γ, ω, 6, ad, N, 0, 0) σ a1 a2 a3 a4 C)
theorem kc_X11_220 : Cond.constant RX11 220 (99999) ∈ wt := in_wt 840 (by decide +kernel) (by decide +kernel)
theorem fg_X11_221 (j : Nat) : FG LC RX11 221 2 j 8 (0, 0) := ⟨_, _, _, _, _, rfl, rfl, rfl, by decide, uw_X5, (in_wt 552 (by decide +kernel) (by decide +kernel))⟩
theorem fp_X11_221 (j : Nat) : FP LC RX11 221 2 j 8 (0, 0) .int := ⟨_, _, _, _, _, tyX5, rfl, rfl, rfl, by decide, uw_X5, (in_wt 552 (by decide +kernel) (by decide +kernel)), tyX5_ok, nmX5, rfl, by decide +kernel⟩
/-- PostsEnd.public int volunteer(int, int) -/
def p_PE_volunteer (σ : St) (a1 : Int32) (a2 : Int32) : Option (Int32 × St) := (Option.bind (p_Firm_personAt σ a1) fun r1 => (Option.elim r1 ((Option.bind (p_PE_refuseFar σ (-1 : Int32)) fun r5 => some (r5.1, r5.2))) fun q3 => (Option.bind (p_Person_isHere σ q3) fun r7 => (if r7 = 0 then (Option.bind (p_PE_refuseFar σ (-3 : Int32)) fun r14 => some (r14.1, r14.2)) else (if a2 < (-1 : Int32) then (Option.bind (p_PE_refuseFar σ (-4 : Int32)) fun r12 => some (r12.1, r12.2)) else (if (99999 : Int32) < a2 then (Option.bind (p_PE_refuseFar σ (-6 : Int32)) fun r10 => some (r10.1, r10.2)) else (lt1 (sx σ 2 q3 8 a2) fun σ9 => some (σ.1 2 q3 8, σ9))))))))
set_option maxRecDepth 20000 in
set_option maxHeartbeats 4000000 in
theorem w_p_PE_volunteer (Θ : TT) (σ : St) (a1 : Int32) (a2 : Int32) (C : CX Θ cX11_volunteer RX11 (some .int) ({ frames := 2, cells := 0, slots := 0, locals := 43 } : Room) 5) : WA LC Θ (fun r : Int32 × St => Qm LC Θ (some (.int r.1)) r.2 (True)) 0 [some (.ref (cF Θ 0)), some (.int a1), some (.int a2), none, none] [] σ (p_PE_volunteer σ a1 a2) := by
  unfold p_PE_volunteer
  refine r_aload_n C dX11_volunteer_0 rfl ?_
  refine r_getF0 C dX11_volunteer_1 fg_X11_10 (by decide) ?_
  refine r_iload_n C dX11_volunteer_4 rfl ?_
  refine r_callV C (st := []) (As := [.int a1]) (d := 0) (j := 1) dX11_volunteer_5 ml_X11_134 vw_X3_personAt ⟨_, _, _, _, rfl, rfl⟩ (dm0 (by decide)) (fun r1 e => c_p_Firm_personAt Θ.1.2.1 (cW Θ) (cAd Θ) (cN Θ) σ a1 r1 e) rfl rfl (Nat.le_of_ble_eq_true rfl) ⟨rfl, rfl, by decide, by decide⟩ (fun r1 h2 => ?_)
  refine r_astore_n C (x := Option.map (cAd Θ 2) r1) [some (.ref (cF Θ 0)), some (.int a1), some (.int a2), some (va_rf (Option.map (cAd Θ 2) r1)), none] dX11_volunteer_8 rfl (by decide) rfl ?_
  refine r_aload_nQ C (x := Option.map (cAd Θ 2) r1) dX11_volunteer_9 rfl ?_
  rcases r1 with _ | q3
  · refine r_ifnonnullN C dX11_volunteer_10 ?_
    refine r_aload_n C dX11_volunteer_13 rfl ?_
    refine r_iconst C (-1 : Int32) dX11_volunteer_14 (by decide) ?_
    refine r_callV C (st := []) (As := [.int (-1 : Int32)]) (d := 0) (j := 0) dX11_volunteer_15 ml_X11_138 vw_X11_refuseFar ⟨_, _, _, _, rfl, rfl⟩ (dm0 (by decide)) (fun r5 e => c_p_PE_refuseFar Θ.1.2.1 (cW Θ) (cAd Θ) (cN Θ) σ (-1 : Int32) r5 e) rfl rfl (Nat.le_of_ble_eq_true rfl) ⟨rfl, rfl, by decide, by decide⟩ (fun r5 h6 => ?_)
    exact r_iret C dX11_volunteer_18 rfl rfl trivial
  · have h4 := h2 q3 rfl
    refine r_ifnonnullS C 19 dX11_volunteer_10 (by decide) ?_
    refine r_aload_n C dX11_volunteer_19 rfl ?_
    refine r_callV C (st := []) (As := []) (d := 2) (j := q3) dX11_volunteer_20 ml_X11_144 vw_X5_isHere ⟨_, _, _, _, rfl, rfl⟩ (dmk (by decide) (by decide) h4) (fun r7 e => c_p_Person_isHere Θ.1.2.1 (cW Θ) (cAd Θ) (cN Θ) σ q3 h4 r7 e) rfl rfl (Nat.le_of_ble_eq_true rfl) ⟨rfl, rfl, by decide, by decide⟩ (fun r7 h8 => ?_)
    refine r_if_ne C 33 dX11_volunteer_23 (by decide) ?_ ?_
    · refine r_iload_n C dX11_volunteer_33 rfl ?_
      refine r_iconst C (-1 : Int32) dX11_volunteer_34 (by decide) ?_
      refine r_icmp_ge C 45 dX11_volunteer_35 (by decide) ?_ ?_
      · refine r_iload_n C dX11_volunteer_45 rfl ?_
        refine r_ldc C dX11_volunteer_46 kc_X11_220 ?_
        refine r_icmp_le C 58 dX11_volunteer_48 (by decide) ?_ ?_
        · refine r_aload_n C dX11_volunteer_58 rfl ?_
          refine r_getI C dX11_volunteer_59 (fg_X11_221 _) (by decide) h4 ?_
          refine r_istore C [some (.ref (cF Θ 0)), some (.int a1), some (.int a2), some (.ref (cAd Θ 2 q3)), some (.int (σ.1 2 q3 8))] dX11_volunteer_62 rfl (by decide) rfl ?_
          refine r_aload_n C dX11_volunteer_64 rfl ?_
          refine r_iload_n C dX11_volunteer_65 rfl ?_
          refine r_putI C dX11_volunteer_66 (fp_X11_221 _) (by decide) h4 ?_
          refine WA.gen (fun σ9 => ?_)
          refine r_iload C dX11_volunteer_69 rfl ?_
          exact r_iret C dX11_volunteer_71 rfl rfl trivial
        · refine r_aload_n C dX11_volunteer_51 rfl ?_
          refine r_bipush C (-6 : Int32) dX11_volunteer_52 (by decide) ?_
          refine r_callV C (st := []) (As := [.int (-6 : Int32)]) (d := 0) (j := 0) dX11_volunteer_54 ml_X11_138 vw_X11_refuseFar ⟨_, _, _, _, rfl, rfl⟩ (dm0 (by decide)) (fun r10 e => c_p_PE_refuseFar Θ.1.2.1 (cW Θ) (cAd Θ) (cN Θ) σ (-6 : Int32) r10 e) rfl rfl (Nat.le_of_ble_eq_true rfl) ⟨rfl, rfl, by decide, by decide⟩ (fun r10 h11 => ?_)
          exact r_iret C dX11_volunteer_57 rfl rfl trivial
      · refine r_aload_n C dX11_volunteer_38 rfl ?_
        refine r_bipush C (-4 : Int32) dX11_volunteer_39 (by decide) ?_
        refine r_callV C (st := []) (As := [.int (-4 : Int32)]) (d := 0) (j := 0) dX11_volunteer_41 ml_X11_138 vw_X11_refuseFar ⟨_, _, _, _, rfl, rfl⟩ (dm0 (by decide)) (fun r12 e => c_p_PE_refuseFar Θ.1.2.1 (cW Θ) (cAd Θ) (cN Θ) σ (-4 : Int32) r12 e) rfl rfl (Nat.le_of_ble_eq_true rfl) ⟨rfl, rfl, by decide, by decide⟩ (fun r12 h13 => ?_)
        exact r_iret C dX11_volunteer_44 rfl rfl trivial
    · refine r_aload_n C dX11_volunteer_26 rfl ?_
      refine r_bipush C (-3 : Int32) dX11_volunteer_27 (by decide) ?_
      refine r_callV C (st := []) (As := [.int (-3 : Int32)]) (d := 0) (j := 0) dX11_volunteer_29 ml_X11_138 vw_X11_refuseFar ⟨_, _, _, _, rfl, rfl⟩ (dm0 (by decide)) (fun r14 e => c_p_PE_refuseFar Θ.1.2.1 (cW Θ) (cAd Θ) (cN Θ) σ (-3 : Int32) r14 e) rfl rfl (Nat.le_of_ble_eq_true rfl) ⟨rfl, rfl, by decide, by decide⟩ (fun r14 h15 => ?_)
      exact r_iret C dX11_volunteer_32 rfl rfl trivial
theorem c_p_PE_volunteer (l : Launch) (ω : Wd) (ad : Nat → Nat → Nat) (N : Nat → Nat) (σ : St) (a1 : Int32) (a2 : Int32) : ∀ r : Int32 × St, p_PE_volunteer σ a1 a2 = some r → Ct l yX11_volunteer cX11_volunteer 5 (some .int) ({ frames := 2, cells := 0, slots := 0, locals := 43 } : Room) LC ω ad N [.ref (ω.2.1 0), .int a1, .int a2] σ (some (.int r.1)) r.2 (True) :=
  ct_of (o := fun r : Int32 × St => (some (.int r.1))) (s' := fun r => r.2) (P := fun r => True) [some (.ref (ω.2.1 0)), some (.int a1), some (.int a2), none, none] (by decide) rfl (Nat.le_of_ble_eq_true rfl) (fun Γ C _ _ => w_p_PE_volunteer (Γ, ω, 5, ad, N, 0, 0) σ a1 a2 C)
theorem ml_X11_224 : Cond.methodLink RX11 224 yX3_severanceOf ∈ wt := in_wt 845 (by decide +kernel) (by decide +kernel)
/-- PostsEnd.public int severance(int) -/
def p_PE_severance (σ : St) (a1 : Int32) : Option (Int32 × St) := (Option.bind (p_Firm_personAt σ a1) fun r1 => (Option.elim r1 ((Option.bind (p_PE_refuse σ (-1 : Int32)) fun r5 => some (r5.1, r5.2))) fun q3 => (Option.bind (p_Firm_severanceOf σ q3) fun r7 => some (r7, σ))))
set_option maxRecDepth 20000 in
set_option maxHeartbeats 4000000 in
theorem w_p_PE_severance (Θ : TT) (σ : St) (a1 : Int32) (C : CX Θ cX11_severance RX11 (some .int) ({ frames := 2, cells := 0, slots := 0, locals := 42 } : Room) 3) : WA LC Θ (fun r : Int32 × St => Qm LC Θ (some (.int r.1)) r.2 (True)) 0 [some (.ref (cF Θ 0)), some (.int a1), none] [] σ (p_PE_severance σ a1) := by
  unfold p_PE_severance
  refine r_aload_n C dX11_severance_0 rfl ?_
  refine r_getF0 C dX11_severance_1 fg_X11_10 (by decide) ?_
  refine r_iload_n C dX11_severance_4 rfl ?_
  refine r_callV C (st := []) (As := [.int a1]) (d := 0) (j := 1) dX11_severance_5 ml_X11_134 vw_X3_personAt ⟨_, _, _, _, rfl, rfl⟩ (dm0 (by decide)) (fun r1 e => c_p_Firm_personAt Θ.1.2.1 (cW Θ) (cAd Θ) (cN Θ) σ a1 r1 e) rfl rfl (Nat.le_of_ble_eq_true rfl) ⟨rfl, rfl, by decide, by decide⟩ (fun r1 h2 => ?_)
  refine r_astore_n C (x := Option.map (cAd Θ 2) r1) [some (.ref (cF Θ 0)), some (.int a1), some (va_rf (Option.map (cAd Θ 2) r1))] dX11_severance_8 rfl (by decide) rfl ?_
  refine r_aload_nQ C (x := Option.map (cAd Θ 2) r1) dX11_severance_9 rfl ?_
  rcases r1 with _ | q3
  · refine r_ifnonnullN C dX11_severance_10 ?_
    refine r_aload_n C dX11_severance_13 rfl ?_
    refine r_iconst C (-1 : Int32) dX11_severance_14 (by decide) ?_
    refine r_callV C (st := []) (As := [.int (-1 : Int32)]) (d := 0) (j := 0) dX11_severance_15 ml_X11_64 vw_X11_refuse ⟨_, _, _, _, rfl, rfl⟩ (dm0 (by decide)) (fun r5 e => c_p_PE_refuse Θ.1.2.1 (cW Θ) (cAd Θ) (cN Θ) σ (-1 : Int32) r5 e) rfl rfl (Nat.le_of_ble_eq_true rfl) ⟨rfl, rfl, by decide, by decide⟩ (fun r5 h6 => ?_)
    refine r_goto C 29 dX11_severance_18 (by decide) ?_
    exact r_iret C dX11_severance_29 rfl rfl trivial
  · have h4 := h2 q3 rfl
    refine r_ifnonnullS C 21 dX11_severance_10 (by decide) ?_
    refine r_aload_n C dX11_severance_21 rfl ?_
    refine r_getF0 C dX11_severance_22 fg_X11_10 (by decide) ?_
    refine r_aload_n C dX11_severance_25 rfl ?_
    refine r_callV C (st := []) (As := [.ref (cAd Θ 2 q3)]) (d := 0) (j := 1) dX11_severance_26 ml_X11_224 vw_X3_severanceOf ⟨_, _, _, _, rfl, rfl⟩ (dm0 (by decide)) (fun r7 e => c_p_Firm_severanceOf Θ.1.2.1 (cW Θ) (cAd Θ) (cN Θ) σ q3 h4 r7 e) rfl rfl (Nat.le_of_ble_eq_true rfl) ⟨rfl, rfl, by decide, by decide⟩ (fun r7 h8 => ?_)
    exact r_iret C dX11_severance_29 rfl rfl trivial
theorem c_p_PE_severance (l : Launch) (ω : Wd) (ad : Nat → Nat → Nat) (N : Nat → Nat) (σ : St) (a1 : Int32) : ∀ r : Int32 × St, p_PE_severance σ a1 = some r → Ct l yX11_severance cX11_severance 3 (some .int) ({ frames := 2, cells := 0, slots := 0, locals := 42 } : Room) LC ω ad N [.ref (ω.2.1 0), .int a1] σ (some (.int r.1)) r.2 (True) :=
  ct_of (o := fun r : Int32 × St => (some (.int r.1))) (s' := fun r => r.2) (P := fun r => True) [some (.ref (ω.2.1 0)), some (.int a1), none] (by decide) rfl (Nat.le_of_ble_eq_true rfl) (fun Γ C _ _ => w_p_PE_severance (Γ, ω, 3, ad, N, 0, 0) σ a1 C)
theorem fg_X11_347 : FG LC RX11 347 0 2 6 (0, 0) := ⟨_, _, _, _, _, rfl, rfl, rfl, by decide, uw_X6, (in_wt 189 (by decide +kernel) (by decide +kernel))⟩
/-- PostsEnd.private int refusalOfChoice(int) -/
def p_PE_refusalOfChoice (σ : St) (a1 : Int32) : Option Int32 := (if a1 < 0 then some (-4 : Int32) else (if (12 : Int32) < σ.1 0 2 6 then some (-6 : Int32) else (if σ.1 0 2 6 < a1 then some (-6 : Int32) else some (0 : Int32))))
set_option maxRecDepth 20000 in
set_option maxHeartbeats 4000000 in
theorem w_p_PE_refusalOfChoice (Θ : TT) (σ : St) (a1 : Int32) (C : CX Θ cX11_refusalOfChoice RX11 (some .int) ({ frames := 0, cells := 0, slots := 0, locals := 0 } : Room) 2) : WA LC Θ (fun r : Int32 => Qm LC Θ (some (.int r)) σ (True)) 0 [some (.ref (cF Θ 0)), some (.int a1)] [] σ (p_PE_refusalOfChoice σ a1) := by
  unfold p_PE_refusalOfChoice
  refine r_iload_n C dX11_refusalOfChoice_0 rfl ?_
  refine r_if_ge C 7 dX11_refusalOfChoice_1 (by decide) ?_ ?_
  · refine r_aload_n C dX11_refusalOfChoice_7 rfl ?_
    refine r_getF0 C dX11_refusalOfChoice_8 fg_X11_21 (by decide) ?_
    refine r_getI0 C dX11_refusalOfChoice_11 fg_X11_347 (by decide) ?_
    refine r_bipush C (12 : Int32) dX11_refusalOfChoice_14 (by decide) ?_
    refine r_icmp_gt C 30 dX11_refusalOfChoice_16 (by decide) ?_ ?_
    · refine r_bipush C (-6 : Int32) dX11_refusalOfChoice_30 (by decide) ?_
      refine r_goto C 36 dX11_refusalOfChoice_32 (by decide) ?_
      exact r_iret C dX11_refusalOfChoice_36 rfl rfl trivial
    · refine r_iload_n C dX11_refusalOfChoice_19 rfl ?_
      refine r_aload_n C dX11_refusalOfChoice_20 rfl ?_
      refine r_getF0 C dX11_refusalOfChoice_21 fg_X11_21 (by decide) ?_
      refine r_getI0 C dX11_refusalOfChoice_24 fg_X11_347 (by decide) ?_
      refine r_icmp_le C 35 dX11_refusalOfChoice_27 (by decide) ?_ ?_
      · refine r_iconst C (0 : Int32) dX11_refusalOfChoice_35 (by decide) ?_
        exact r_iret C dX11_refusalOfChoice_36 rfl rfl trivial
      · refine r_bipush C (-6 : Int32) dX11_refusalOfChoice_30 (by decide) ?_
        refine r_goto C 36 dX11_refusalOfChoice_32 (by decide) ?_
        exact r_iret C dX11_refusalOfChoice_36 rfl rfl trivial
  · refine r_bipush C (-4 : Int32) dX11_refusalOfChoice_4 (by decide) ?_
    exact r_iret C dX11_refusalOfChoice_6 rfl rfl trivial
theorem c_p_PE_refusalOfChoice (l : Launch) (ω : Wd) (ad : Nat → Nat → Nat) (N : Nat → Nat) (σ : St) (a1 : Int32) : ∀ r : Int32, p_PE_refusalOfChoice σ a1 = some r → Ct l yX11_refusalOfChoice cX11_refusalOfChoice 2 (some .int) ({ frames := 0, cells := 0, slots := 0, locals := 0 } : Room) LC ω ad N [.ref (ω.2.1 0), .int a1] σ (some (.int r)) σ (True) :=
  ct_of (o := fun r : Int32 => (some (.int r))) (s' := fun r => σ) (P := fun r => True) [some (.ref (ω.2.1 0)), some (.int a1)] (by decide) rfl (Nat.le_of_ble_eq_true rfl) (fun Γ C _ _ => w_p_PE_refusalOfChoice (Γ, ω, 2, ad, N, 0, 0) σ a1 C)
theorem vw_X1_choose : VW yX1_choose cX1_choose 3 none 1 := ⟨⟨(in_wt 84 (by decide +kernel) (by decide +kernel)), (in_wt 888 (by decide +kernel) (by decide +kernel)), by decide +kernel⟩, (in_wt 886 (by decide +kernel) (by decide +kernel)), (in_wt 887 (by decide +kernel) (by decide +kernel))⟩
theorem vw_X1_gather : VW yX1_gather cX1_gather 4 none 1 := ⟨⟨(in_wt 84 (by decide +kernel) (by decide +kernel)), (in_wt 860 (by decide +kernel) (by decide +kernel)), by decide +kernel⟩, (in_wt 858 (by decide +kernel) (by decide +kernel)), (in_wt 859 (by decide +kernel) (by decide +kernel))⟩
theorem vw_X11_refusalOfChoice : VW yX11_refusalOfChoice cX11_refusalOfChoice 2 (some .int) 1 := ⟨⟨(in_wt 80 (by decide +kernel) (by decide +kernel)), (in_wt 856 (by decide +kernel) (by decide +kernel)), by decide +kernel⟩, (in_wt 855 (by decide +kernel) (by decide +kernel)), (in_wt 8 (by decide +kernel) (by decide +kernel))⟩
theorem fg_X11_234 : FG LC RX11 234 0 4 10 (0, 0) := ⟨_, _, _, _, _, rfl, rfl, rfl, by decide, uw_X1, (in_wt 248 (by decide +kernel) (by decide +kernel))⟩
theorem fg_X11_237 : FG LC RX11 237 0 4 11 (0, 0) := ⟨_, _, _, _, _, rfl, rfl, rfl, by decide, uw_X1, (in_wt 250 (by decide +kernel) (by decide +kernel))⟩
theorem fg_X11_240 : FG LC RX11 240 0 4 12 (0, 0) := ⟨_, _, _, _, _, rfl, rfl, rfl, by decide, uw_X1, (in_wt 252 (by decide +kernel) (by decide +kernel))⟩
theorem fg_X11_35 : FG LC RX11 35 0 0 3 (1, 4) := ⟨_, _, _, _, _, rfl, rfl, rfl, by decide, uw_X11, (in_wt 385 (by decide +kernel) (by decide +kernel))⟩
theorem ml_X11_227 : Cond.methodLink RX11 227 yX11_refusalOfChoice ∈ wt := in_wt 853 (by decide +kernel) (by decide +kernel)
theorem ml_X11_230 : Cond.methodLink RX11 230 yX1_gather ∈ wt := in_wt 857 (by decide +kernel) (by decide +kernel)
theorem ml_X11_231 : Cond.methodLink RX11 231 yX1_choose ∈ wt := in_wt 885 (by decide +kernel) (by decide +kernel)
/-- PostsEnd.public int choice(int, int, int, int) -/
def p_PE_choice (σ : St) (a1 : Int32) (a2 : Int32) (a3 : Int32) (a4 : Int32) : Option (Int32 × St) := (Option.bind (p_Pools_take σ a1 a2) fun r1 => (if r1.1 = 0 then (Option.bind (p_PE_refuse r1.2 (-1 : Int32)) fun r21 => some (r21.1, r21.2)) else (if a4 = 0 then (Option.bind (p_PE_refusalOfChoice r1.2 a3) fun r3 => (if r3 = 0 then (Option.bind (p_Chooser_gather r1.2) fun r5 => (Option.bind (p_Chooser_choose r5 a3) fun r7 => (if r7.1 0 4 10 = 0 then some ((-9 : Int32), r7) else (if a4 = 0 then some (r7.1 0 4 11, r7) else some (r7.1 0 4 12, r7))))) else (Option.bind (p_PE_refuse r1.2 r3) fun r9 => some (r9.1, r9.2)))) else (if a4 = (1 : Int32) then (Option.bind (p_PE_refusalOfChoice r1.2 a3) fun r11 => (if r11 = 0 then (Option.bind (p_Chooser_gather r1.2) fun r13 => (Option.bind (p_Chooser_choose r13 a3) fun r15 => (if r15.1 0 4 10 = 0 then some ((-9 : Int32), r15) else (if a4 = 0 then some (r15.1 0 4 11, r15) else some (r15.1 0 4 12, r15))))) else (Option.bind (p_PE_refuse r1.2 r11) fun r17 => some (r17.1, r17.2)))) else (Option.bind (p_PE_refuse r1.2 (-2 : Int32)) fun r19 => some (r19.1, r19.2))))))
set_option maxRecDepth 20000 in
set_option maxHeartbeats 4000000 in
theorem w_p_PE_choice (Θ : TT) (σ : St) (a1 : Int32) (a2 : Int32) (a3 : Int32) (a4 : Int32) (C : CX Θ cX11_choice RX11 (some .int) ({ frames := 6, cells := 0, slots := 0, locals := 140 } : Room) 6) : WA LC Θ (fun r : Int32 × St => Qm LC Θ (some (.int r.1)) r.2 (True)) 0 [some (.ref (cF Θ 0)), some (.int a1), some (.int a2), some (.int a3), some (.int a4), none] [] σ (p_PE_choice σ a1 a2 a3 a4) := by
  unfold p_PE_choice
  refine r_aload_n C dX11_choice_0 rfl ?_
  refine r_getF0 C dX11_choice_1 fg_X11_21 (by decide) ?_
  refine r_iload_n C dX11_choice_4 rfl ?_
  refine r_iload_n C dX11_choice_5 rfl ?_
  refine r_callV C (st := []) (As := [.int a1, .int a2]) (d := 0) (j := 2) dX11_choice_6 ml_X11_206 vw_X6_take ⟨_, _, _, _, rfl, rfl⟩ (dm0 (by decide)) (fun r1 e => c_p_Pools_take Θ.1.2.1 (cW Θ) (cAd Θ) (cN Θ) σ a1 a2 r1 e) rfl rfl (Nat.le_of_ble_eq_true rfl) ⟨rfl, rfl, by decide, by decide⟩ (fun r1 h2 => ?_)
  refine r_if_ne C 18 dX11_choice_9 (by decide) ?_ ?_
  · refine r_iload C dX11_choice_18 rfl ?_
    refine r_if_eq C 36 dX11_choice_20 (by decide) ?_ ?_
    · refine r_aload_n C dX11_choice_36 rfl ?_
      refine r_iload_n C dX11_choice_37 rfl ?_
      refine r_callV C (st := []) (As := [.int a3]) (d := 0) (j := 0) dX11_choice_38 ml_X11_227 vw_X11_refusalOfChoice ⟨_, _, _, _, rfl, rfl⟩ (dm0 (by decide)) (fun r3 e => c_p_PE_refusalOfChoice Θ.1.2.1 (cW Θ) (cAd Θ) (cN Θ) r1.2 a3 r3 e) rfl rfl (Nat.le_of_ble_eq_true rfl) ⟨rfl, rfl, by decide, by decide⟩ (fun r3 h4 => ?_)
      refine r_istore C [some (.ref (cF Θ 0)), some (.int a1), some (.int a2), some (.int a3), some (.int a4), some (.int r3)] dX11_choice_41 rfl (by decide) rfl ?_
      refine r_iload C dX11_choice_43 rfl ?_
      refine r_if_eq C 55 dX11_choice_45 (by decide) ?_ ?_
      · refine r_aload_n C dX11_choice_55 rfl ?_
        refine r_getF0 C dX11_choice_56 fg_X11_35 (by decide) ?_
        refine r_aload_n C dX11_choice_59 rfl ?_
        refine r_getF0 C dX11_choice_60 fg_X11_21 (by decide) ?_
        refine r_callV C (st := []) (As := [.ref (cF Θ 2)]) (d := 0) (j := 4) dX11_choice_63 ml_X11_230 vw_X1_gather ⟨_, _, _, _, rfl, rfl⟩ (dm0 (by decide)) (fun r5 e => c_p_Chooser_gather Θ.1.2.1 (cW Θ) (cAd Θ) (cN Θ) r1.2 r5 e) rfl rfl (Nat.le_of_ble_eq_true rfl) ⟨rfl, rfl, by decide, by decide⟩ (fun r5 h6 => ?_)
        refine r_aload_n C dX11_choice_66 rfl ?_
        refine r_getF0 C dX11_choice_67 fg_X11_35 (by decide) ?_
        refine r_iload_n C dX11_choice_70 rfl ?_
        refine r_callV C (st := []) (As := [.int a3]) (d := 0) (j := 4) dX11_choice_71 ml_X11_231 vw_X1_choose ⟨_, _, _, _, rfl, rfl⟩ (dm0 (by decide)) (fun r7 e => c_p_Chooser_choose Θ.1.2.1 (cW Θ) (cAd Θ) (cN Θ) r5 a3 r7 e) rfl rfl (Nat.le_of_ble_eq_true rfl) ⟨rfl, rfl, by decide, by decide⟩ (fun r7 h8 => ?_)
        refine r_aload_n C dX11_choice_74 rfl ?_
        refine r_getF0 C dX11_choice_75 fg_X11_35 (by decide) ?_
        refine r_getI0 C dX11_choice_78 fg_X11_234 (by decide) ?_
        refine r_if_ne C 87 dX11_choice_81 (by decide) ?_ ?_
        · refine r_iload C dX11_choice_87 rfl ?_
          refine r_if_ne C 102 dX11_choice_89 (by decide) ?_ ?_
          · refine r_aload_n C dX11_choice_102 rfl ?_
            refine r_getF0 C dX11_choice_103 fg_X11_35 (by decide) ?_
            refine r_getI0 C dX11_choice_106 fg_X11_240 (by decide) ?_
            exact r_iret C dX11_choice_109 rfl rfl trivial
          · refine r_aload_n C dX11_choice_92 rfl ?_
            refine r_getF0 C dX11_choice_93 fg_X11_35 (by decide) ?_
            refine r_getI0 C dX11_choice_96 fg_X11_237 (by decide) ?_
            refine r_goto C 109 dX11_choice_99 (by decide) ?_
            exact r_iret C dX11_choice_109 rfl rfl trivial
        · refine r_bipush C (-9 : Int32) dX11_choice_84 (by decide) ?_
          exact r_iret C dX11_choice_86 rfl rfl trivial
      · refine r_aload_n C dX11_choice_48 rfl ?_
        refine r_iload C dX11_choice_49 rfl ?_
        refine r_callV C (st := []) (As := [.int r3]) (d := 0) (j := 0) dX11_choice_51 ml_X11_64 vw_X11_refuse ⟨_, _, _, _, rfl, rfl⟩ (dm0 (by decide)) (fun r9 e => c_p_PE_refuse Θ.1.2.1 (cW Θ) (cAd Θ) (cN Θ) r1.2 r3 r9 e) rfl rfl (Nat.le_of_ble_eq_true rfl) ⟨rfl, rfl, by decide, by decide⟩ (fun r9 h10 => ?_)
        exact r_iret C dX11_choice_54 rfl rfl trivial
    · refine r_iload C dX11_choice_23 rfl ?_
      refine r_iconst C (1 : Int32) dX11_choice_25 (by decide) ?_
      refine r_icmp_eq C 36 dX11_choice_26 (by decide) ?_ ?_
      · refine r_aload_n C dX11_choice_36 rfl ?_
        refine r_iload_n C dX11_choice_37 rfl ?_
        refine r_callV C (st := []) (As := [.int a3]) (d := 0) (j := 0) dX11_choice_38 ml_X11_227 vw_X11_refusalOfChoice ⟨_, _, _, _, rfl, rfl⟩ (dm0 (by decide)) (fun r11 e => c_p_PE_refusalOfChoice Θ.1.2.1 (cW Θ) (cAd Θ) (cN Θ) r1.2 a3 r11 e) rfl rfl (Nat.le_of_ble_eq_true rfl) ⟨rfl, rfl, by decide, by decide⟩ (fun r11 h12 => ?_)
        refine r_istore C [some (.ref (cF Θ 0)), some (.int a1), some (.int a2), some (.int a3), some (.int a4), some (.int r11)] dX11_choice_41 rfl (by decide) rfl ?_
        refine r_iload C dX11_choice_43 rfl ?_
        refine r_if_eq C 55 dX11_choice_45 (by decide) ?_ ?_
        · refine r_aload_n C dX11_choice_55 rfl ?_
          refine r_getF0 C dX11_choice_56 fg_X11_35 (by decide) ?_
          refine r_aload_n C dX11_choice_59 rfl ?_
          refine r_getF0 C dX11_choice_60 fg_X11_21 (by decide) ?_
          refine r_callV C (st := []) (As := [.ref (cF Θ 2)]) (d := 0) (j := 4) dX11_choice_63 ml_X11_230 vw_X1_gather ⟨_, _, _, _, rfl, rfl⟩ (dm0 (by decide)) (fun r13 e => c_p_Chooser_gather Θ.1.2.1 (cW Θ) (cAd Θ) (cN Θ) r1.2 r13 e) rfl rfl (Nat.le_of_ble_eq_true rfl) ⟨rfl, rfl, by decide, by decide⟩ (fun r13 h14 => ?_)
          refine r_aload_n C dX11_choice_66 rfl ?_
          refine r_getF0 C dX11_choice_67 fg_X11_35 (by decide) ?_
          refine r_iload_n C dX11_choice_70 rfl ?_
          refine r_callV C (st := []) (As := [.int a3]) (d := 0) (j := 4) dX11_choice_71 ml_X11_231 vw_X1_choose ⟨_, _, _, _, rfl, rfl⟩ (dm0 (by decide)) (fun r15 e => c_p_Chooser_choose Θ.1.2.1 (cW Θ) (cAd Θ) (cN Θ) r13 a3 r15 e) rfl rfl (Nat.le_of_ble_eq_true rfl) ⟨rfl, rfl, by decide, by decide⟩ (fun r15 h16 => ?_)
          refine r_aload_n C dX11_choice_74 rfl ?_
          refine r_getF0 C dX11_choice_75 fg_X11_35 (by decide) ?_
          refine r_getI0 C dX11_choice_78 fg_X11_234 (by decide) ?_
          refine r_if_ne C 87 dX11_choice_81 (by decide) ?_ ?_
          · refine r_iload C dX11_choice_87 rfl ?_
            refine r_if_ne C 102 dX11_choice_89 (by decide) ?_ ?_
            · refine r_aload_n C dX11_choice_102 rfl ?_
              refine r_getF0 C dX11_choice_103 fg_X11_35 (by decide) ?_
              refine r_getI0 C dX11_choice_106 fg_X11_240 (by decide) ?_
              exact r_iret C dX11_choice_109 rfl rfl trivial
            · refine r_aload_n C dX11_choice_92 rfl ?_
              refine r_getF0 C dX11_choice_93 fg_X11_35 (by decide) ?_
              refine r_getI0 C dX11_choice_96 fg_X11_237 (by decide) ?_
              refine r_goto C 109 dX11_choice_99 (by decide) ?_
              exact r_iret C dX11_choice_109 rfl rfl trivial
          · refine r_bipush C (-9 : Int32) dX11_choice_84 (by decide) ?_
            exact r_iret C dX11_choice_86 rfl rfl trivial
        · refine r_aload_n C dX11_choice_48 rfl ?_
          refine r_iload C dX11_choice_49 rfl ?_
          refine r_callV C (st := []) (As := [.int r11]) (d := 0) (j := 0) dX11_choice_51 ml_X11_64 vw_X11_refuse ⟨_, _, _, _, rfl, rfl⟩ (dm0 (by decide)) (fun r17 e => c_p_PE_refuse Θ.1.2.1 (cW Θ) (cAd Θ) (cN Θ) r1.2 r11 r17 e) rfl rfl (Nat.le_of_ble_eq_true rfl) ⟨rfl, rfl, by decide, by decide⟩ (fun r17 h18 => ?_)
          exact r_iret C dX11_choice_54 rfl rfl trivial
      · refine r_aload_n C dX11_choice_29 rfl ?_
        refine r_bipush C (-2 : Int32) dX11_choice_30 (by decide) ?_
        refine r_callV C (st := []) (As := [.int (-2 : Int32)]) (d := 0) (j := 0) dX11_choice_32 ml_X11_64 vw_X11_refuse ⟨_, _, _, _, rfl, rfl⟩ (dm0 (by decide)) (fun r19 e => c_p_PE_refuse Θ.1.2.1 (cW Θ) (cAd Θ) (cN Θ) r1.2 (-2 : Int32) r19 e) rfl rfl (Nat.le_of_ble_eq_true rfl) ⟨rfl, rfl, by decide, by decide⟩ (fun r19 h20 => ?_)
        exact r_iret C dX11_choice_35 rfl rfl trivial
  · refine r_aload_n C dX11_choice_12 rfl ?_
    refine r_iconst C (-1 : Int32) dX11_choice_13 (by decide) ?_
    refine r_callV C (st := []) (As := [.int (-1 : Int32)]) (d := 0) (j := 0) dX11_choice_14 ml_X11_64 vw_X11_refuse ⟨_, _, _, _, rfl, rfl⟩ (dm0 (by decide)) (fun r21 e => c_p_PE_refuse Θ.1.2.1 (cW Θ) (cAd Θ) (cN Θ) r1.2 (-1 : Int32) r21 e) rfl rfl (Nat.le_of_ble_eq_true rfl) ⟨rfl, rfl, by decide, by decide⟩ (fun r21 h22 => ?_)
    exact r_iret C dX11_choice_17 rfl rfl trivial
theorem c_p_PE_choice (l : Launch) (ω : Wd) (ad : Nat → Nat → Nat) (N : Nat → Nat) (σ : St) (a1 : Int32) (a2 : Int32) (a3 : Int32) (a4 : Int32) : ∀ r : Int32 × St, p_PE_choice σ a1 a2 a3 a4 = some r → Ct l yX11_choice cX11_choice 6 (some .int) ({ frames := 6, cells := 0, slots := 0, locals := 140 } : Room) LC ω ad N [.ref (ω.2.1 0), .int a1, .int a2, .int a3, .int a4] σ (some (.int r.1)) r.2 (True) :=
  ct_of (o := fun r : Int32 × St => (some (.int r.1))) (s' := fun r => r.2) (P := fun r => True) [some (.ref (ω.2.1 0)), some (.int a1), some (.int a2), some (.int a3), some (.int a4), none] (by decide) rfl (Nat.le_of_ble_eq_true rfl) (fun Γ C _ _ => w_p_PE_choice (Γ, ω, 6, ad, N, 0, 0) σ a1 a2 a3 a4 C)
theorem vw_X1_goes : VW yX1_goes cX1_goes 2 (some .boolean) 1 := ⟨⟨(in_wt 84 (by decide +kernel) (by decide +kernel)), (in_wt 913 (by decide +kernel) (by decide +kernel)), by decide +kernel⟩, (in_wt 911 (by decide +kernel) (by decide +kernel)), (in_wt 912 (by decide +kernel) (by decide +kernel))⟩
theorem vw_X6_placeOf : VW yX6_placeOf cX6_placeOf 3 (some .int) 1 := ⟨⟨(in_wt 82 (by decide +kernel) (by decide +kernel)), (in_wt 908 (by decide +kernel) (by decide +kernel)), by decide +kernel⟩, (in_wt 906 (by decide +kernel) (by decide +kernel)), (in_wt 907 (by decide +kernel) (by decide +kernel))⟩
theorem ml_X11_243 : Cond.methodLink RX11 243 yX6_placeOf ∈ wt := in_wt 905 (by decide +kernel) (by decide +kernel)
theorem ml_X11_246 : Cond.methodLink RX11 246 yX1_goes ∈ wt := in_wt 910 (by decide +kernel) (by decide +kernel)
/-- PostsEnd.public int chosen(int, int, int, int) -/
def p_PE_chosen (σ : St) (a1 : Int32) (a2 : Int32) (a3 : Int32) (a4 : Int32) : Option (Int32 × St) := (Option.bind (p_Firm_personAt σ a4) fun r1 => (Option.elim r1 ((Option.bind (p_PE_refuse σ (-1 : Int32)) fun r5 => some (r5.1, r5.2))) fun q3 => (Option.bind (p_Pools_take σ a1 a2) fun r7 => (if r7.1 = 0 then (Option.bind (p_PE_refuse r7.2 (-1 : Int32)) fun r21 => some (r21.1, r21.2)) else (Option.bind (p_PE_refusalOfChoice r7.2 a3) fun r9 => (if r9 = 0 then (Option.bind (p_Chooser_gather r7.2) fun r11 => (Option.bind (p_Chooser_choose r11 a3) fun r13 => (Option.bind (p_Pools_placeOf r13 q3) fun r15 => (Option.bind (p_Chooser_goes r13 r15) fun r17 => (if r17 = 0 then some ((0 : Int32), r13) else some ((1 : Int32), r13)))))) else (Option.bind (p_PE_refuse r7.2 r9) fun r19 => some (r19.1, r19.2))))))))
set_option maxRecDepth 20000 in
set_option maxHeartbeats 4000000 in
theorem w_p_PE_chosen (Θ : TT) (σ : St) (a1 : Int32) (a2 : Int32) (a3 : Int32) (a4 : Int32) (C : CX Θ cX11_chosen RX11 (some .int) ({ frames := 6, cells := 0, slots := 0, locals := 140 } : Room) 7) : WA LC Θ (fun r : Int32 × St => Qm LC Θ (some (.int r.1)) r.2 (True)) 0 [some (.ref (cF Θ 0)), some (.int a1), some (.int a2), some (.int a3), some (.int a4), none, none] [] σ (p_PE_chosen σ a1 a2 a3 a4) := by
  unfold p_PE_chosen
  refine r_aload_n C dX11_chosen_0 rfl ?_
  refine r_getF0 C dX11_chosen_1 fg_X11_10 (by decide) ?_
  refine r_iload C dX11_chosen_4 rfl ?_
  refine r_callV C (st := []) (As := [.int a4]) (d := 0) (j := 1) dX11_chosen_6 ml_X11_134 vw_X3_personAt ⟨_, _, _, _, rfl, rfl⟩ (dm0 (by decide)) (fun r1 e => c_p_Firm_personAt Θ.1.2.1 (cW Θ) (cAd Θ) (cN Θ) σ a4 r1 e) rfl rfl (Nat.le_of_ble_eq_true rfl) ⟨rfl, rfl, by decide, by decide⟩ (fun r1 h2 => ?_)
  refine r_astore C (x := Option.map (cAd Θ 2) r1) [some (.ref (cF Θ 0)), some (.int a1), some (.int a2), some (.int a3), some (.int a4), some (va_rf (Option.map (cAd Θ 2) r1)), none] dX11_chosen_9 rfl (by decide) rfl ?_
  refine r_aloadQ C (x := Option.map (cAd Θ 2) r1) dX11_chosen_11 rfl ?_
  rcases r1 with _ | q3
  · refine r_ifnullN C 28 dX11_chosen_13 (by decide) ?_
    refine r_aload_n C dX11_chosen_28 rfl ?_
    refine r_iconst C (-1 : Int32) dX11_chosen_29 (by decide) ?_
    refine r_callV C (st := []) (As := [.int (-1 : Int32)]) (d := 0) (j := 0) dX11_chosen_30 ml_X11_64 vw_X11_refuse ⟨_, _, _, _, rfl, rfl⟩ (dm0 (by decide)) (fun r5 e => c_p_PE_refuse Θ.1.2.1 (cW Θ) (cAd Θ) (cN Θ) σ (-1 : Int32) r5 e) rfl rfl (Nat.le_of_ble_eq_true rfl) ⟨rfl, rfl, by decide, by decide⟩ (fun r5 h6 => ?_)
    exact r_iret C dX11_chosen_33 rfl rfl trivial
  · have h4 := h2 q3 rfl
    refine r_ifnullS C dX11_chosen_13 ?_
    refine r_aload_n C dX11_chosen_16 rfl ?_
    refine r_getF0 C dX11_chosen_17 fg_X11_21 (by decide) ?_
    refine r_iload_n C dX11_chosen_20 rfl ?_
    refine r_iload_n C dX11_chosen_21 rfl ?_
    refine r_callV C (st := []) (As := [.int a1, .int a2]) (d := 0) (j := 2) dX11_chosen_22 ml_X11_206 vw_X6_take ⟨_, _, _, _, rfl, rfl⟩ (dm0 (by decide)) (fun r7 e => c_p_Pools_take Θ.1.2.1 (cW Θ) (cAd Θ) (cN Θ) σ a1 a2 r7 e) rfl rfl (Nat.le_of_ble_eq_true rfl) ⟨rfl, rfl, by decide, by decide⟩ (fun r7 h8 => ?_)
    refine r_if_ne C 34 dX11_chosen_25 (by decide) ?_ ?_
    · refine r_aload_n C dX11_chosen_34 rfl ?_
      refine r_iload_n C dX11_chosen_35 rfl ?_
      refine r_callV C (st := []) (As := [.int a3]) (d := 0) (j := 0) dX11_chosen_36 ml_X11_227 vw_X11_refusalOfChoice ⟨_, _, _, _, rfl, rfl⟩ (dm0 (by decide)) (fun r9 e => c_p_PE_refusalOfChoice Θ.1.2.1 (cW Θ) (cAd Θ) (cN Θ) r7.2 a3 r9 e) rfl rfl (Nat.le_of_ble_eq_true rfl) ⟨rfl, rfl, by decide, by decide⟩ (fun r9 h10 => ?_)
      refine r_istore C [some (.ref (cF Θ 0)), some (.int a1), some (.int a2), some (.int a3), some (.int a4), some (.ref (cAd Θ 2 q3)), some (.int r9)] dX11_chosen_39 rfl (by decide) rfl ?_
      refine r_iload C dX11_chosen_41 rfl ?_
      refine r_if_eq C 53 dX11_chosen_43 (by decide) ?_ ?_
      · refine r_aload_n C dX11_chosen_53 rfl ?_
        refine r_getF0 C dX11_chosen_54 fg_X11_35 (by decide) ?_
        refine r_aload_n C dX11_chosen_57 rfl ?_
        refine r_getF0 C dX11_chosen_58 fg_X11_21 (by decide) ?_
        refine r_callV C (st := []) (As := [.ref (cF Θ 2)]) (d := 0) (j := 4) dX11_chosen_61 ml_X11_230 vw_X1_gather ⟨_, _, _, _, rfl, rfl⟩ (dm0 (by decide)) (fun r11 e => c_p_Chooser_gather Θ.1.2.1 (cW Θ) (cAd Θ) (cN Θ) r7.2 r11 e) rfl rfl (Nat.le_of_ble_eq_true rfl) ⟨rfl, rfl, by decide, by decide⟩ (fun r11 h12 => ?_)
        refine r_aload_n C dX11_chosen_64 rfl ?_
        refine r_getF0 C dX11_chosen_65 fg_X11_35 (by decide) ?_
        refine r_iload_n C dX11_chosen_68 rfl ?_
        refine r_callV C (st := []) (As := [.int a3]) (d := 0) (j := 4) dX11_chosen_69 ml_X11_231 vw_X1_choose ⟨_, _, _, _, rfl, rfl⟩ (dm0 (by decide)) (fun r13 e => c_p_Chooser_choose Θ.1.2.1 (cW Θ) (cAd Θ) (cN Θ) r11 a3 r13 e) rfl rfl (Nat.le_of_ble_eq_true rfl) ⟨rfl, rfl, by decide, by decide⟩ (fun r13 h14 => ?_)
        refine r_aload_n C dX11_chosen_72 rfl ?_
        refine r_getF0 C dX11_chosen_73 fg_X11_35 (by decide) ?_
        refine r_aload_n C dX11_chosen_76 rfl ?_
        refine r_getF0 C dX11_chosen_77 fg_X11_21 (by decide) ?_
        refine r_aload C dX11_chosen_80 rfl ?_
        refine r_callV C (st := [.ref (cF Θ 4)]) (As := [.ref (cAd Θ 2 q3)]) (d := 0) (j := 2) dX11_chosen_82 ml_X11_243 vw_X6_placeOf ⟨_, _, _, _, rfl, rfl⟩ (dm0 (by decide)) (fun r15 e => c_p_Pools_placeOf Θ.1.2.1 (cW Θ) (cAd Θ) (cN Θ) r13 q3 h4 r15 e) rfl rfl (Nat.le_of_ble_eq_true rfl) ⟨rfl, rfl, by decide, by decide⟩ (fun r15 h16 => ?_)
        refine r_callV C (st := []) (As := [.int r15]) (d := 0) (j := 4) dX11_chosen_85 ml_X11_246 vw_X1_goes ⟨_, _, _, _, rfl, rfl⟩ (dm0 (by decide)) (fun r17 e => c_p_Chooser_goes Θ.1.2.1 (cW Θ) (cAd Θ) (cN Θ) r13 r15 r17 e) rfl rfl (Nat.le_of_ble_eq_true rfl) ⟨rfl, rfl, by decide, by decide⟩ (fun r17 h18 => ?_)
        refine r_if_eq C 95 dX11_chosen_88 (by decide) ?_ ?_
        · refine r_iconst C (0 : Int32) dX11_chosen_95 (by decide) ?_
          exact r_iret C dX11_chosen_96 rfl rfl trivial
        · refine r_iconst C (1 : Int32) dX11_chosen_91 (by decide) ?_
          refine r_goto C 96 dX11_chosen_92 (by decide) ?_
          exact r_iret C dX11_chosen_96 rfl rfl trivial
      · refine r_aload_n C dX11_chosen_46 rfl ?_
        refine r_iload C dX11_chosen_47 rfl ?_
        refine r_callV C (st := []) (As := [.int r9]) (d := 0) (j := 0) dX11_chosen_49 ml_X11_64 vw_X11_refuse ⟨_, _, _, _, rfl, rfl⟩ (dm0 (by decide)) (fun r19 e => c_p_PE_refuse Θ.1.2.1 (cW Θ) (cAd Θ) (cN Θ) r7.2 r9 r19 e) rfl rfl (Nat.le_of_ble_eq_true rfl) ⟨rfl, rfl, by decide, by decide⟩ (fun r19 h20 => ?_)
        exact r_iret C dX11_chosen_52 rfl rfl trivial
    · refine r_aload_n C dX11_chosen_28 rfl ?_
      refine r_iconst C (-1 : Int32) dX11_chosen_29 (by decide) ?_
      refine r_callV C (st := []) (As := [.int (-1 : Int32)]) (d := 0) (j := 0) dX11_chosen_30 ml_X11_64 vw_X11_refuse ⟨_, _, _, _, rfl, rfl⟩ (dm0 (by decide)) (fun r21 e => c_p_PE_refuse Θ.1.2.1 (cW Θ) (cAd Θ) (cN Θ) r7.2 (-1 : Int32) r21 e) rfl rfl (Nat.le_of_ble_eq_true rfl) ⟨rfl, rfl, by decide, by decide⟩ (fun r21 h22 => ?_)
      exact r_iret C dX11_chosen_33 rfl rfl trivial
theorem c_p_PE_chosen (l : Launch) (ω : Wd) (ad : Nat → Nat → Nat) (N : Nat → Nat) (σ : St) (a1 : Int32) (a2 : Int32) (a3 : Int32) (a4 : Int32) : ∀ r : Int32 × St, p_PE_chosen σ a1 a2 a3 a4 = some r → Ct l yX11_chosen cX11_chosen 7 (some .int) ({ frames := 6, cells := 0, slots := 0, locals := 140 } : Room) LC ω ad N [.ref (ω.2.1 0), .int a1, .int a2, .int a3, .int a4] σ (some (.int r.1)) r.2 (True) :=
  ct_of (o := fun r : Int32 × St => (some (.int r.1))) (s' := fun r => r.2) (P := fun r => True) [some (.ref (ω.2.1 0)), some (.int a1), some (.int a2), some (.int a3), some (.int a4), none, none] (by decide) rfl (Nat.le_of_ble_eq_true rfl) (fun Γ C _ _ => w_p_PE_chosen (Γ, ω, 7, ad, N, 0, 0) σ a1 a2 a3 a4 C)
theorem vw_X0_follow : VW yX0_follow cX0_follow 3 none 1 := ⟨⟨(in_wt 85 (by decide +kernel) (by decide +kernel)), (in_wt 921 (by decide +kernel) (by decide +kernel)), by decide +kernel⟩, (in_wt 919 (by decide +kernel) (by decide +kernel)), (in_wt 920 (by decide +kernel) (by decide +kernel))⟩
theorem fg_X11_253 : FG LC RX11 253 0 5 3 (0, 0) := ⟨_, _, _, _, _, rfl, rfl, rfl, by decide, uw_X0, (in_wt 291 (by decide +kernel) (by decide +kernel))⟩
theorem fg_X11_42 : FG LC RX11 42 0 0 4 (1, 5) := ⟨_, _, _, _, _, rfl, rfl, rfl, by decide, uw_X11, (in_wt 386 (by decide +kernel) (by decide +kernel))⟩
theorem ml_X11_249 : Cond.methodLink RX11 249 yX0_follow ∈ wt := in_wt 918 (by decide +kernel) (by decide +kernel)
/-- PostsEnd.public int chain(int) -/
def p_PE_chain (σ : St) (a1 : Int32) : Option (Int32 × St) := (Option.bind (p_Firm_personAt σ a1) fun r1 => (Option.elim r1 ((Option.bind (p_PE_refuse σ (-1 : Int32)) fun r5 => some (r5.1, r5.2))) fun q3 => (lt1 (σ.2 2 q3 4) fun x7 => (Option.elim x7 ((Option.bind (p_PE_refuse σ (-3 : Int32)) fun r11 => some (r11.1, r11.2))) fun q9 => (Option.bind (p_Bumping_follow σ q3) fun r13 => some (r13.1 0 5 3, r13))))))
set_option maxRecDepth 20000 in
set_option maxHeartbeats 4000000 in
theorem w_p_PE_chain (Θ : TT) (σ : St) (a1 : Int32) (C : CX Θ cX11_chain RX11 (some .int) ({ frames := 6, cells := 0, slots := 0, locals := 137 } : Room) 3) : WA LC Θ (fun r : Int32 × St => Qm LC Θ (some (.int r.1)) r.2 (True)) 0 [some (.ref (cF Θ 0)), some (.int a1), none] [] σ (p_PE_chain σ a1) := by
  unfold p_PE_chain
  refine r_aload_n C dX11_chain_0 rfl ?_
  refine r_getF0 C dX11_chain_1 fg_X11_10 (by decide) ?_
  refine r_iload_n C dX11_chain_4 rfl ?_
  refine r_callV C (st := []) (As := [.int a1]) (d := 0) (j := 1) dX11_chain_5 ml_X11_134 vw_X3_personAt ⟨_, _, _, _, rfl, rfl⟩ (dm0 (by decide)) (fun r1 e => c_p_Firm_personAt Θ.1.2.1 (cW Θ) (cAd Θ) (cN Θ) σ a1 r1 e) rfl rfl (Nat.le_of_ble_eq_true rfl) ⟨rfl, rfl, by decide, by decide⟩ (fun r1 h2 => ?_)
  refine r_astore_n C (x := Option.map (cAd Θ 2) r1) [some (.ref (cF Θ 0)), some (.int a1), some (va_rf (Option.map (cAd Θ 2) r1))] dX11_chain_8 rfl (by decide) rfl ?_
  refine r_aload_nQ C (x := Option.map (cAd Θ 2) r1) dX11_chain_9 rfl ?_
  rcases r1 with _ | q3
  · refine r_ifnonnullN C dX11_chain_10 ?_
    refine r_aload_n C dX11_chain_13 rfl ?_
    refine r_iconst C (-1 : Int32) dX11_chain_14 (by decide) ?_
    refine r_callV C (st := []) (As := [.int (-1 : Int32)]) (d := 0) (j := 0) dX11_chain_15 ml_X11_64 vw_X11_refuse ⟨_, _, _, _, rfl, rfl⟩ (dm0 (by decide)) (fun r5 e => c_p_PE_refuse Θ.1.2.1 (cW Θ) (cAd Θ) (cN Θ) σ (-1 : Int32) r5 e) rfl rfl (Nat.le_of_ble_eq_true rfl) ⟨rfl, rfl, by decide, by decide⟩ (fun r5 h6 => ?_)
    exact r_iret C dX11_chain_18 rfl rfl trivial
  · have h4 := h2 q3 rfl
    refine r_ifnonnullS C 19 dX11_chain_10 (by decide) ?_
    refine r_aload_n C dX11_chain_19 rfl ?_
    refine r_getQ C dX11_chain_20 (fg_X11_151 _) (by decide) h4 (fun x7 h8 => ?_)
    rcases x7 with _ | q9
    · refine r_ifnonnullN C dX11_chain_23 ?_
      refine r_aload_n C dX11_chain_26 rfl ?_
      refine r_bipush C (-3 : Int32) dX11_chain_27 (by decide) ?_
      refine r_callV C (st := []) (As := [.int (-3 : Int32)]) (d := 0) (j := 0) dX11_chain_29 ml_X11_64 vw_X11_refuse ⟨_, _, _, _, rfl, rfl⟩ (dm0 (by decide)) (fun r11 e => c_p_PE_refuse Θ.1.2.1 (cW Θ) (cAd Θ) (cN Θ) σ (-3 : Int32) r11 e) rfl rfl (Nat.le_of_ble_eq_true rfl) ⟨rfl, rfl, by decide, by decide⟩ (fun r11 h12 => ?_)
      exact r_iret C dX11_chain_32 rfl rfl trivial
    · have h10 := h8 q9 rfl
      refine r_ifnonnullS C 33 dX11_chain_23 (by decide) ?_
      refine r_aload_n C dX11_chain_33 rfl ?_
      refine r_getF0 C dX11_chain_34 fg_X11_42 (by decide) ?_
      refine r_aload_n C dX11_chain_37 rfl ?_
      refine r_callV C (st := []) (As := [.ref (cAd Θ 2 q3)]) (d := 0) (j := 5) dX11_chain_38 ml_X11_249 vw_X0_follow ⟨_, _, _, _, rfl, rfl⟩ (dm0 (by decide)) (fun r13 e => c_p_Bumping_follow Θ.1.2.1 (cW Θ) (cAd Θ) (cN Θ) σ q3 h4 r13 e) rfl rfl (Nat.le_of_ble_eq_true rfl) ⟨rfl, rfl, by decide, by decide⟩ (fun r13 h14 => ?_)
      refine r_aload_n C dX11_chain_41 rfl ?_
      refine r_getF0 C dX11_chain_42 fg_X11_42 (by decide) ?_
      refine r_getI0 C dX11_chain_45 fg_X11_253 (by decide) ?_
      exact r_iret C dX11_chain_48 rfl rfl trivial
theorem c_p_PE_chain (l : Launch) (ω : Wd) (ad : Nat → Nat → Nat) (N : Nat → Nat) (σ : St) (a1 : Int32) : ∀ r : Int32 × St, p_PE_chain σ a1 = some r → Ct l yX11_chain cX11_chain 3 (some .int) ({ frames := 6, cells := 0, slots := 0, locals := 137 } : Room) LC ω ad N [.ref (ω.2.1 0), .int a1] σ (some (.int r.1)) r.2 (True) :=
  ct_of (o := fun r : Int32 × St => (some (.int r.1))) (s' := fun r => r.2) (P := fun r => True) [some (.ref (ω.2.1 0)), some (.int a1), none] (by decide) rfl (Nat.le_of_ble_eq_true rfl) (fun Γ C _ _ => w_p_PE_chain (Γ, ω, 3, ad, N, 0, 0) σ a1 C)
theorem vw_X0_personAfter : VW yX0_personAfter cX0_personAfter 3 (some .int) 1 := ⟨⟨(in_wt 85 (by decide +kernel) (by decide +kernel)), (in_wt 956 (by decide +kernel) (by decide +kernel)), by decide +kernel⟩, (in_wt 954 (by decide +kernel) (by decide +kernel)), (in_wt 955 (by decide +kernel) (by decide +kernel))⟩
theorem vw_X0_postOf : VW yX0_postOf cX0_postOf 4 (some .int) 1 := ⟨⟨(in_wt 85 (by decide +kernel) (by decide +kernel)), (in_wt 960 (by decide +kernel) (by decide +kernel)), by decide +kernel⟩, (in_wt 958 (by decide +kernel) (by decide +kernel)), (in_wt 959 (by decide +kernel) (by decide +kernel))⟩
theorem ml_X11_256 : Cond.methodLink RX11 256 yX0_personAfter ∈ wt := in_wt 953 (by decide +kernel) (by decide +kernel)
theorem ml_X11_259 : Cond.methodLink RX11 259 yX0_postOf ∈ wt := in_wt 957 (by decide +kernel) (by decide +kernel)
/-- PostsEnd.public int chainOf(int, int, int) -/
def p_PE_chainOf (σ : St) (a1 : Int32) (a2 : Int32) (a3 : Int32) : Option (Int32 × St) := (Option.bind (p_Firm_personAt σ a1) fun r1 => (Option.elim r1 ((Option.bind (p_PE_refuse σ (-1 : Int32)) fun r5 => some (r5.1, r5.2))) fun q3 => (if a3 < 0 then (Option.bind (p_PE_refuse σ (-2 : Int32)) fun r7 => some (r7.1, r7.2)) else (if (3 : Int32) < a3 then (Option.bind (p_PE_refuse σ (-2 : Int32)) fun r30 => some (r30.1, r30.2)) else (lt1 (σ.2 2 q3 4) fun x9 => (Option.elim x9 ((Option.bind (p_PE_refuse σ (-3 : Int32)) fun r13 => some (r13.1, r13.2))) fun q11 => (Option.bind (p_Bumping_follow σ q3) fun r15 => (if a3 = (3 : Int32) then (Option.bind (p_Bumping_personAfter r15 (r15.1 0 5 3)) fun r28 => some (r28, r15)) else (if a2 < 0 then (Option.bind (p_PE_refuse r15 (-1 : Int32)) fun r17 => some (r17.1, r17.2)) else (if a2 < r15.1 0 5 3 then (if a3 = (1 : Int32) then (Option.bind (p_Bumping_postOf r15 a2) fun r24 => some (r24, r15)) else (Option.bind (α := Int32) ((if a3 = 0 then some a2 else some (a2 + (1 : Int32)))) fun t19 => (Option.bind (p_Bumping_personAfter r15 t19) fun r22 => some (r22, r15)))) else (Option.bind (p_PE_refuse r15 (-1 : Int32)) fun r26 => some (r26.1, r26.2))))))))))))
set_option maxRecDepth 20000 in
set_option maxHeartbeats 4000000 in
theorem w_p_PE_chainOf (Θ : TT) (σ : St) (a1 : Int32) (a2 : Int32) (a3 : Int32) (C : CX Θ cX11_chainOf RX11 (some .int) ({ frames := 6, cells := 0, slots := 0, locals := 137 } : Room) 5) : WA LC Θ (fun r : Int32 × St => Qm LC Θ (some (.int r.1)) r.2 (True)) 0 [some (.ref (cF Θ 0)), some (.int a1), some (.int a2), some (.int a3), none] [] σ (p_PE_chainOf σ a1 a2 a3) := by
  unfold p_PE_chainOf
  refine r_aload_n C dX11_chainOf_0 rfl ?_
  refine r_getF0 C dX11_chainOf_1 fg_X11_10 (by decide) ?_
  refine r_iload_n C dX11_chainOf_4 rfl ?_
  refine r_callV C (st := []) (As := [.int a1]) (d := 0) (j := 1) dX11_chainOf_5 ml_X11_134 vw_X3_personAt ⟨_, _, _, _, rfl, rfl⟩ (dm0 (by decide)) (fun r1 e => c_p_Firm_personAt Θ.1.2.1 (cW Θ) (cAd Θ) (cN Θ) σ a1 r1 e) rfl rfl (Nat.le_of_ble_eq_true rfl) ⟨rfl, rfl, by decide, by decide⟩ (fun r1 h2 => ?_)
  refine r_astore C (x := Option.map (cAd Θ 2) r1) [some (.ref (cF Θ 0)), some (.int a1), some (.int a2), some (.int a3), some (va_rf (Option.map (cAd Θ 2) r1))] dX11_chainOf_8 rfl (by decide) rfl ?_
  refine r_aloadQ C (x := Option.map (cAd Θ 2) r1) dX11_chainOf_10 rfl ?_
  rcases r1 with _ | q3
  · refine r_ifnonnullN C dX11_chainOf_12 ?_
    refine r_aload_n C dX11_chainOf_15 rfl ?_
    refine r_iconst C (-1 : Int32) dX11_chainOf_16 (by decide) ?_
    refine r_callV C (st := []) (As := [.int (-1 : Int32)]) (d := 0) (j := 0) dX11_chainOf_17 ml_X11_64 vw_X11_refuse ⟨_, _, _, _, rfl, rfl⟩ (dm0 (by decide)) (fun r5 e => c_p_PE_refuse Θ.1.2.1 (cW Θ) (cAd Θ) (cN Θ) σ (-1 : Int32) r5 e) rfl rfl (Nat.le_of_ble_eq_true rfl) ⟨rfl, rfl, by decide, by decide⟩ (fun r5 h6 => ?_)
    exact r_iret C dX11_chainOf_20 rfl rfl trivial
  · have h4 := h2 q3 rfl
    refine r_ifnonnullS C 21 dX11_chainOf_12 (by decide) ?_
    refine r_iload_n C dX11_chainOf_21 rfl ?_
    refine r_if_lt C 30 dX11_chainOf_22 (by decide) ?_ ?_
    · refine r_aload_n C dX11_chainOf_30 rfl ?_
      refine r_bipush C (-2 : Int32) dX11_chainOf_31 (by decide) ?_
      refine r_callV C (st := []) (As := [.int (-2 : Int32)]) (d := 0) (j := 0) dX11_chainOf_33 ml_X11_64 vw_X11_refuse ⟨_, _, _, _, rfl, rfl⟩ (dm0 (by decide)) (fun r7 e => c_p_PE_refuse Θ.1.2.1 (cW Θ) (cAd Θ) (cN Θ) σ (-2 : Int32) r7 e) rfl rfl (Nat.le_of_ble_eq_true rfl) ⟨rfl, rfl, by decide, by decide⟩ (fun r7 h8 => ?_)
      exact r_iret C dX11_chainOf_36 rfl rfl trivial
    · refine r_iload_n C dX11_chainOf_25 rfl ?_
      refine r_iconst C (3 : Int32) dX11_chainOf_26 (by decide) ?_
      refine r_icmp_le C 37 dX11_chainOf_27 (by decide) ?_ ?_
      · refine r_aload C dX11_chainOf_37 rfl ?_
        refine r_getQ C dX11_chainOf_39 (fg_X11_151 _) (by decide) h4 (fun x9 h10 => ?_)
        rcases x9 with _ | q11
        · refine r_ifnonnullN C dX11_chainOf_42 ?_
          refine r_aload_n C dX11_chainOf_45 rfl ?_
          refine r_bipush C (-3 : Int32) dX11_chainOf_46 (by decide) ?_
          refine r_callV C (st := []) (As := [.int (-3 : Int32)]) (d := 0) (j := 0) dX11_chainOf_48 ml_X11_64 vw_X11_refuse ⟨_, _, _, _, rfl, rfl⟩ (dm0 (by decide)) (fun r13 e => c_p_PE_refuse Θ.1.2.1 (cW Θ) (cAd Θ) (cN Θ) σ (-3 : Int32) r13 e) rfl rfl (Nat.le_of_ble_eq_true rfl) ⟨rfl, rfl, by decide, by decide⟩ (fun r13 h14 => ?_)
          exact r_iret C dX11_chainOf_51 rfl rfl trivial
        · have h12 := h10 q11 rfl
          refine r_ifnonnullS C 52 dX11_chainOf_42 (by decide) ?_
          refine r_aload_n C dX11_chainOf_52 rfl ?_
          refine r_getF0 C dX11_chainOf_53 fg_X11_42 (by decide) ?_
          refine r_aload C dX11_chainOf_56 rfl ?_
          refine r_callV C (st := []) (As := [.ref (cAd Θ 2 q3)]) (d := 0) (j := 5) dX11_chainOf_58 ml_X11_249 vw_X0_follow ⟨_, _, _, _, rfl, rfl⟩ (dm0 (by decide)) (fun r15 e => c_p_Bumping_follow Θ.1.2.1 (cW Θ) (cAd Θ) (cN Θ) σ q3 h4 r15 e) rfl rfl (Nat.le_of_ble_eq_true rfl) ⟨rfl, rfl, by decide, by decide⟩ (fun r15 h16 => ?_)
          refine r_iload_n C dX11_chainOf_61 rfl ?_
          refine r_iconst C (3 : Int32) dX11_chainOf_62 (by decide) ?_
          refine r_icmp_ne C 81 dX11_chainOf_63 (by decide) ?_ ?_
          · refine r_iload_n C dX11_chainOf_81 rfl ?_
            refine r_if_lt C 96 dX11_chainOf_82 (by decide) ?_ ?_
            · refine r_aload_n C dX11_chainOf_96 rfl ?_
              refine r_iconst C (-1 : Int32) dX11_chainOf_97 (by decide) ?_
              refine r_callV C (st := []) (As := [.int (-1 : Int32)]) (d := 0) (j := 0) dX11_chainOf_98 ml_X11_64 vw_X11_refuse ⟨_, _, _, _, rfl, rfl⟩ (dm0 (by decide)) (fun r17 e => c_p_PE_refuse Θ.1.2.1 (cW Θ) (cAd Θ) (cN Θ) r15 (-1 : Int32) r17 e) rfl rfl (Nat.le_of_ble_eq_true rfl) ⟨rfl, rfl, by decide, by decide⟩ (fun r17 h18 => ?_)
              exact r_iret C dX11_chainOf_101 rfl rfl trivial
            · refine r_iload_n C dX11_chainOf_85 rfl ?_
              refine r_aload_n C dX11_chainOf_86 rfl ?_
              refine r_getF0 C dX11_chainOf_87 fg_X11_42 (by decide) ?_
              refine r_getI0 C dX11_chainOf_90 fg_X11_253 (by decide) ?_
              refine r_icmp_lt C 102 dX11_chainOf_93 (by decide) ?_ ?_
              · refine r_iload_n C dX11_chainOf_102 rfl ?_
                refine r_iconst C (1 : Int32) dX11_chainOf_103 (by decide) ?_
                refine r_icmp_ne C 116 dX11_chainOf_104 (by decide) ?_ ?_
                · refine r_aload_n C dX11_chainOf_116 rfl ?_
                  refine r_getF0 C dX11_chainOf_117 fg_X11_42 (by decide) ?_
                  refine r_iload_n C dX11_chainOf_120 rfl ?_
                  refine WA.join (α := Int32) 131 (fun t19 => [none, none, none, none, none]) (fun t19 => [.int t19, .ref (cF Θ 5)]) (fun t19 => r15) (fun t19 => True) (fun t19 h20 => ?_) (fun J21 => ?_)
                  · refine r_callV C (st := []) (As := [.int t19]) (d := 0) (j := 5) dX11_chainOf_131 ml_X11_256 vw_X0_personAfter ⟨_, _, _, _, rfl, rfl⟩ (dm0 (by decide)) (fun r22 e => c_p_Bumping_personAfter Θ.1.2.1 (cW Θ) (cAd Θ) (cN Θ) r15 t19 r22 e) rfl rfl (Nat.le_of_ble_eq_true rfl) ⟨rfl, rfl, by decide, by decide⟩ (fun r22 h23 => ?_)
                    exact r_iret C dX11_chainOf_134 rfl rfl trivial
                  · refine WA.bif ?_
                    refine r_if_ne C 128 dX11_chainOf_121 (by decide) ?_ ?_
                    · refine r_iload_n C dX11_chainOf_128 rfl ?_
                      refine r_iconst C (1 : Int32) dX11_chainOf_129 (by decide) ?_
                      refine r_iadd C dX11_chainOf_130 ?_
                      refine WA.wk (lv' := [none, none, none, none, none]) [false, false, false, false, false] rfl ?_
                      exact J21 (a2 + (1 : Int32)) trivial
                    · refine r_iload_n C dX11_chainOf_124 rfl ?_
                      refine r_goto C 131 dX11_chainOf_125 (by decide) ?_
                      refine WA.wk (lv' := [none, none, none, none, none]) [false, false, false, false, false] rfl ?_
                      exact J21 a2 trivial
                · refine r_aload_n C dX11_chainOf_107 rfl ?_
                  refine r_getF0 C dX11_chainOf_108 fg_X11_42 (by decide) ?_
                  refine r_iload_n C dX11_chainOf_111 rfl ?_
                  refine r_callV C (st := []) (As := [.int a2]) (d := 0) (j := 5) dX11_chainOf_112 ml_X11_259 vw_X0_postOf ⟨_, _, _, _, rfl, rfl⟩ (dm0 (by decide)) (fun r24 e => c_p_Bumping_postOf Θ.1.2.1 (cW Θ) (cAd Θ) (cN Θ) r15 a2 r24 e) rfl rfl (Nat.le_of_ble_eq_true rfl) ⟨rfl, rfl, by decide, by decide⟩ (fun r24 h25 => ?_)
                  exact r_iret C dX11_chainOf_115 rfl rfl trivial
              · refine r_aload_n C dX11_chainOf_96 rfl ?_
                refine r_iconst C (-1 : Int32) dX11_chainOf_97 (by decide) ?_
                refine r_callV C (st := []) (As := [.int (-1 : Int32)]) (d := 0) (j := 0) dX11_chainOf_98 ml_X11_64 vw_X11_refuse ⟨_, _, _, _, rfl, rfl⟩ (dm0 (by decide)) (fun r26 e => c_p_PE_refuse Θ.1.2.1 (cW Θ) (cAd Θ) (cN Θ) r15 (-1 : Int32) r26 e) rfl rfl (Nat.le_of_ble_eq_true rfl) ⟨rfl, rfl, by decide, by decide⟩ (fun r26 h27 => ?_)
                exact r_iret C dX11_chainOf_101 rfl rfl trivial
          · refine r_aload_n C dX11_chainOf_66 rfl ?_
            refine r_getF0 C dX11_chainOf_67 fg_X11_42 (by decide) ?_
            refine r_aload_n C dX11_chainOf_70 rfl ?_
            refine r_getF0 C dX11_chainOf_71 fg_X11_42 (by decide) ?_
            refine r_getI0 C dX11_chainOf_74 fg_X11_253 (by decide) ?_
            refine r_callV C (st := []) (As := [.int (r15.1 0 5 3)]) (d := 0) (j := 5) dX11_chainOf_77 ml_X11_256 vw_X0_personAfter ⟨_, _, _, _, rfl, rfl⟩ (dm0 (by decide)) (fun r28 e => c_p_Bumping_personAfter Θ.1.2.1 (cW Θ) (cAd Θ) (cN Θ) r15 (r15.1 0 5 3) r28 e) rfl rfl (Nat.le_of_ble_eq_true rfl) ⟨rfl, rfl, by decide, by decide⟩ (fun r28 h29 => ?_)
            exact r_iret C dX11_chainOf_80 rfl rfl trivial
      · refine r_aload_n C dX11_chainOf_30 rfl ?_
        refine r_bipush C (-2 : Int32) dX11_chainOf_31 (by decide) ?_
        refine r_callV C (st := []) (As := [.int (-2 : Int32)]) (d := 0) (j := 0) dX11_chainOf_33 ml_X11_64 vw_X11_refuse ⟨_, _, _, _, rfl, rfl⟩ (dm0 (by decide)) (fun r30 e => c_p_PE_refuse Θ.1.2.1 (cW Θ) (cAd Θ) (cN Θ) σ (-2 : Int32) r30 e) rfl rfl (Nat.le_of_ble_eq_true rfl) ⟨rfl, rfl, by decide, by decide⟩ (fun r30 h31 => ?_)
        exact r_iret C dX11_chainOf_36 rfl rfl trivial
theorem c_p_PE_chainOf (l : Launch) (ω : Wd) (ad : Nat → Nat → Nat) (N : Nat → Nat) (σ : St) (a1 : Int32) (a2 : Int32) (a3 : Int32) : ∀ r : Int32 × St, p_PE_chainOf σ a1 a2 a3 = some r → Ct l yX11_chainOf cX11_chainOf 5 (some .int) ({ frames := 6, cells := 0, slots := 0, locals := 137 } : Room) LC ω ad N [.ref (ω.2.1 0), .int a1, .int a2, .int a3] σ (some (.int r.1)) r.2 (True) :=
  ct_of (o := fun r : Int32 × St => (some (.int r.1))) (s' := fun r => r.2) (P := fun r => True) [some (.ref (ω.2.1 0)), some (.int a1), some (.int a2), some (.int a3), none] (by decide) rfl (Nat.le_of_ble_eq_true rfl) (fun Γ C _ _ => w_p_PE_chainOf (Γ, ω, 5, ad, N, 0, 0) σ a1 a2 a3 C)
theorem vw_X4_addLeaver : VW yX4_addLeaver cX4_addLeaver 2 (some .int) 1 := ⟨⟨(in_wt 86 (by decide +kernel) (by decide +kernel)), (in_wt 976 (by decide +kernel) (by decide +kernel)), by decide +kernel⟩, (in_wt 974 (by decide +kernel) (by decide +kernel)), (in_wt 975 (by decide +kernel) (by decide +kernel))⟩
theorem vw_X4_isTold : VW yX4_isTold cX4_isTold 3 (some .boolean) 1 := ⟨⟨(in_wt 86 (by decide +kernel) (by decide +kernel)), (in_wt 968 (by decide +kernel) (by decide +kernel)), by decide +kernel⟩, (in_wt 966 (by decide +kernel) (by decide +kernel)), (in_wt 967 (by decide +kernel) (by decide +kernel))⟩
theorem fg_X11_265 : FG LC RX11 265 0 6 7 (0, 0) := ⟨_, _, _, _, _, rfl, rfl, rfl, by decide, uw_X4, (in_wt 317 (by decide +kernel) (by decide +kernel))⟩
theorem fg_X11_49 : FG LC RX11 49 0 0 5 (1, 6) := ⟨_, _, _, _, _, rfl, rfl, rfl, by decide, uw_X11, (in_wt 387 (by decide +kernel) (by decide +kernel))⟩
theorem ml_X11_262 : Cond.methodLink RX11 262 yX4_isTold ∈ wt := in_wt 965 (by decide +kernel) (by decide +kernel)
theorem ml_X11_268 : Cond.methodLink RX11 268 yX4_addLeaver ∈ wt := in_wt 973 (by decide +kernel) (by decide +kernel)
/-- PostsEnd.public int leaver(int) -/
def p_PE_leaver (σ : St) (a1 : Int32) : Option (Int32 × St) := (Option.bind (p_Firm_personAt σ a1) fun r1 => (Option.elim r1 ((Option.bind (p_PE_refuse σ (-1 : Int32)) fun r5 => some (r5.1, r5.2))) fun q3 => (Option.bind (p_Person_isHere σ q3) fun r7 => (if r7 = 0 then (Option.bind (p_PE_refuse σ (-3 : Int32)) fun r9 => some (r9.1, r9.2)) else (Option.bind (p_Offering_isTold σ q3) fun r11 => (if r11 = 0 then (if σ.1 0 6 7 < (8 : Int32) then (Option.bind (p_Offering_addLeaver σ q3) fun r13 => some (r13.1, r13.2)) else (Option.bind (p_PE_refuse σ (-6 : Int32)) fun r15 => some (r15.1, r15.2))) else (Option.bind (p_PE_refuse σ (-3 : Int32)) fun r17 => some (r17.1, r17.2))))))))
set_option maxRecDepth 20000 in
set_option maxHeartbeats 4000000 in
theorem w_p_PE_leaver (Θ : TT) (σ : St) (a1 : Int32) (C : CX Θ cX11_leaver RX11 (some .int) ({ frames := 2, cells := 0, slots := 0, locals := 43 } : Room) 3) : WA LC Θ (fun r : Int32 × St => Qm LC Θ (some (.int r.1)) r.2 (True)) 0 [some (.ref (cF Θ 0)), some (.int a1), none] [] σ (p_PE_leaver σ a1) := by
  unfold p_PE_leaver
  refine r_aload_n C dX11_leaver_0 rfl ?_
  refine r_getF0 C dX11_leaver_1 fg_X11_10 (by decide) ?_
  refine r_iload_n C dX11_leaver_4 rfl ?_
  refine r_callV C (st := []) (As := [.int a1]) (d := 0) (j := 1) dX11_leaver_5 ml_X11_134 vw_X3_personAt ⟨_, _, _, _, rfl, rfl⟩ (dm0 (by decide)) (fun r1 e => c_p_Firm_personAt Θ.1.2.1 (cW Θ) (cAd Θ) (cN Θ) σ a1 r1 e) rfl rfl (Nat.le_of_ble_eq_true rfl) ⟨rfl, rfl, by decide, by decide⟩ (fun r1 h2 => ?_)
  refine r_astore_n C (x := Option.map (cAd Θ 2) r1) [some (.ref (cF Θ 0)), some (.int a1), some (va_rf (Option.map (cAd Θ 2) r1))] dX11_leaver_8 rfl (by decide) rfl ?_
  refine r_aload_nQ C (x := Option.map (cAd Θ 2) r1) dX11_leaver_9 rfl ?_
  rcases r1 with _ | q3
  · refine r_ifnonnullN C dX11_leaver_10 ?_
    refine r_aload_n C dX11_leaver_13 rfl ?_
    refine r_iconst C (-1 : Int32) dX11_leaver_14 (by decide) ?_
    refine r_callV C (st := []) (As := [.int (-1 : Int32)]) (d := 0) (j := 0) dX11_leaver_15 ml_X11_64 vw_X11_refuse ⟨_, _, _, _, rfl, rfl⟩ (dm0 (by decide)) (fun r5 e => c_p_PE_refuse Θ.1.2.1 (cW Θ) (cAd Θ) (cN Θ) σ (-1 : Int32) r5 e) rfl rfl (Nat.le_of_ble_eq_true rfl) ⟨rfl, rfl, by decide, by decide⟩ (fun r5 h6 => ?_)
    exact r_iret C dX11_leaver_18 rfl rfl trivial
  · have h4 := h2 q3 rfl
    refine r_ifnonnullS C 19 dX11_leaver_10 (by decide) ?_
    refine r_aload_n C dX11_leaver_19 rfl ?_
    refine r_callV C (st := []) (As := []) (d := 2) (j := q3) dX11_leaver_20 ml_X11_144 vw_X5_isHere ⟨_, _, _, _, rfl, rfl⟩ (dmk (by decide) (by decide) h4) (fun r7 e => c_p_Person_isHere Θ.1.2.1 (cW Θ) (cAd Θ) (cN Θ) σ q3 h4 r7 e) rfl rfl (Nat.le_of_ble_eq_true rfl) ⟨rfl, rfl, by decide, by decide⟩ (fun r7 h8 => ?_)
    refine r_if_eq C 37 dX11_leaver_23 (by decide) ?_ ?_
    · refine r_aload_n C dX11_leaver_37 rfl ?_
      refine r_bipush C (-3 : Int32) dX11_leaver_38 (by decide) ?_
      refine r_callV C (st := []) (As := [.int (-3 : Int32)]) (d := 0) (j := 0) dX11_leaver_40 ml_X11_64 vw_X11_refuse ⟨_, _, _, _, rfl, rfl⟩ (dm0 (by decide)) (fun r9 e => c_p_PE_refuse Θ.1.2.1 (cW Θ) (cAd Θ) (cN Θ) σ (-3 : Int32) r9 e) rfl rfl (Nat.le_of_ble_eq_true rfl) ⟨rfl, rfl, by decide, by decide⟩ (fun r9 h10 => ?_)
      exact r_iret C dX11_leaver_43 rfl rfl trivial
    · refine r_aload_n C dX11_leaver_26 rfl ?_
      refine r_getF0 C dX11_leaver_27 fg_X11_49 (by decide) ?_
      refine r_aload_n C dX11_leaver_30 rfl ?_
      refine r_callV C (st := []) (As := [.ref (cAd Θ 2 q3)]) (d := 0) (j := 6) dX11_leaver_31 ml_X11_262 vw_X4_isTold ⟨_, _, _, _, rfl, rfl⟩ (dm0 (by decide)) (fun r11 e => c_p_Offering_isTold Θ.1.2.1 (cW Θ) (cAd Θ) (cN Θ) σ q3 h4 r11 e) rfl rfl (Nat.le_of_ble_eq_true rfl) ⟨rfl, rfl, by decide, by decide⟩ (fun r11 h12 => ?_)
      refine r_if_eq C 44 dX11_leaver_34 (by decide) ?_ ?_
      · refine r_aload_n C dX11_leaver_44 rfl ?_
        refine r_getF0 C dX11_leaver_45 fg_X11_49 (by decide) ?_
        refine r_getI0 C dX11_leaver_48 fg_X11_265 (by decide) ?_
        refine r_bipush C (8 : Int32) dX11_leaver_51 (by decide) ?_
        refine r_icmp_lt C 63 dX11_leaver_53 (by decide) ?_ ?_
        · refine r_aload_n C dX11_leaver_63 rfl ?_
          refine r_getF0 C dX11_leaver_64 fg_X11_49 (by decide) ?_
          refine r_aload_n C dX11_leaver_67 rfl ?_
          refine r_callV C (st := []) (As := [.ref (cAd Θ 2 q3)]) (d := 0) (j := 6) dX11_leaver_68 ml_X11_268 vw_X4_addLeaver ⟨_, _, _, _, rfl, rfl⟩ (dm0 (by decide)) (fun r13 e => c_p_Offering_addLeaver Θ.1.2.1 (cW Θ) (cAd Θ) (cN Θ) σ q3 h4 r13 e) rfl rfl (Nat.le_of_ble_eq_true rfl) ⟨rfl, rfl, by decide, by decide⟩ (fun r13 h14 => ?_)
          exact r_iret C dX11_leaver_71 rfl rfl trivial
        · refine r_aload_n C dX11_leaver_56 rfl ?_
          refine r_bipush C (-6 : Int32) dX11_leaver_57 (by decide) ?_
          refine r_callV C (st := []) (As := [.int (-6 : Int32)]) (d := 0) (j := 0) dX11_leaver_59 ml_X11_64 vw_X11_refuse ⟨_, _, _, _, rfl, rfl⟩ (dm0 (by decide)) (fun r15 e => c_p_PE_refuse Θ.1.2.1 (cW Θ) (cAd Θ) (cN Θ) σ (-6 : Int32) r15 e) rfl rfl (Nat.le_of_ble_eq_true rfl) ⟨rfl, rfl, by decide, by decide⟩ (fun r15 h16 => ?_)
          exact r_iret C dX11_leaver_62 rfl rfl trivial
      · refine r_aload_n C dX11_leaver_37 rfl ?_
        refine r_bipush C (-3 : Int32) dX11_leaver_38 (by decide) ?_
        refine r_callV C (st := []) (As := [.int (-3 : Int32)]) (d := 0) (j := 0) dX11_leaver_40 ml_X11_64 vw_X11_refuse ⟨_, _, _, _, rfl, rfl⟩ (dm0 (by decide)) (fun r17 e => c_p_PE_refuse Θ.1.2.1 (cW Θ) (cAd Θ) (cN Θ) σ (-3 : Int32) r17 e) rfl rfl (Nat.le_of_ble_eq_true rfl) ⟨rfl, rfl, by decide, by decide⟩ (fun r17 h18 => ?_)
        exact r_iret C dX11_leaver_43 rfl rfl trivial
theorem c_p_PE_leaver (l : Launch) (ω : Wd) (ad : Nat → Nat → Nat) (N : Nat → Nat) (σ : St) (a1 : Int32) : ∀ r : Int32 × St, p_PE_leaver σ a1 = some r → Ct l yX11_leaver cX11_leaver 3 (some .int) ({ frames := 2, cells := 0, slots := 0, locals := 43 } : Room) LC ω ad N [.ref (ω.2.1 0), .int a1] σ (some (.int r.1)) r.2 (True) :=
  ct_of (o := fun r : Int32 × St => (some (.int r.1))) (s' := fun r => r.2) (P := fun r => True) [some (.ref (ω.2.1 0)), some (.int a1), none] (by decide) rfl (Nat.le_of_ble_eq_true rfl) (fun Γ C _ _ => w_p_PE_leaver (Γ, ω, 3, ad, N, 0, 0) σ a1 C)
theorem fp_X11_265 : FP LC RX11 265 0 6 7 (0, 0) .int := ⟨_, _, _, _, _, tyX4, rfl, rfl, rfl, by decide, uw_X4, (in_wt 317 (by decide +kernel) (by decide +kernel)), tyX4_ok, nmX4, rfl, by decide +kernel⟩
/-- PostsEnd.public int clear() -/
def p_PE_clear (σ : St) : Option (Int32 × St) := (lt1 (sx σ 0 6 7 (0 : Int32)) fun σ1 => some (σ.1 0 6 7, σ1))
set_option maxRecDepth 20000 in
set_option maxHeartbeats 4000000 in
theorem w_p_PE_clear (Θ : TT) (σ : St)  (C : CX Θ cX11_clear RX11 (some .int) ({ frames := 0, cells := 0, slots := 0, locals := 0 } : Room) 2) : WA LC Θ (fun r : Int32 × St => Qm LC Θ (some (.int r.1)) r.2 (True)) 0 [some (.ref (cF Θ 0)), none] [] σ (p_PE_clear σ) := by
  unfold p_PE_clear
  refine r_aload_n C dX11_clear_0 rfl ?_
  refine r_getF0 C dX11_clear_1 fg_X11_49 (by decide) ?_
  refine r_getI0 C dX11_clear_4 fg_X11_265 (by decide) ?_
  refine r_istore_n C [some (.ref (cF Θ 0)), some (.int (σ.1 0 6 7))] dX11_clear_7 rfl (by decide) rfl ?_
  refine r_aload_n C dX11_clear_8 rfl ?_
  refine r_getF0 C dX11_clear_9 fg_X11_49 (by decide) ?_
  refine r_iconst C (0 : Int32) dX11_clear_12 (by decide) ?_
  refine r_putI0 C dX11_clear_13 fp_X11_265 (by decide) ?_
  refine WA.gen (fun σ1 => ?_)
  refine r_iload_n C dX11_clear_16 rfl ?_
  exact r_iret C dX11_clear_17 rfl rfl trivial
theorem c_p_PE_clear (l : Launch) (ω : Wd) (ad : Nat → Nat → Nat) (N : Nat → Nat) (σ : St)  : ∀ r : Int32 × St, p_PE_clear σ = some r → Ct l yX11_clear cX11_clear 2 (some .int) ({ frames := 0, cells := 0, slots := 0, locals := 0 } : Room) LC ω ad N [.ref (ω.2.1 0)] σ (some (.int r.1)) r.2 (True) :=
  ct_of (o := fun r : Int32 × St => (some (.int r.1))) (s' := fun r => r.2) (P := fun r => True) [some (.ref (ω.2.1 0)), none] (by decide) rfl (Nat.le_of_ble_eq_true rfl) (fun Γ C _ _ => w_p_PE_clear (Γ, ω, 2, ad, N, 0, 0) σ  C)
theorem ml_X11_271 : Cond.methodLink RX11 271 yX3_fitFor ∈ wt := in_wt 985 (by decide +kernel) (by decide +kernel)
/-- PostsEnd.public int fit(int, int) -/
def p_PE_fit (σ : St) (a1 : Int32) (a2 : Int32) : Option (Int32 × St) := (Option.bind (p_Firm_personAt σ a1) fun r1 => (Option.bind (p_Firm_postAt σ a2) fun r3 => (Option.elim r1 ((Option.bind (p_PE_refuseFar σ (-1 : Int32)) fun r7 => some (r7.1, r7.2))) fun q5 => (Option.elim r3 ((Option.bind (p_PE_refuseFar σ (-1 : Int32)) fun r11 => some (r11.1, r11.2))) fun q9 => (Option.bind (p_Firm_fitFor σ q5 q9) fun r13 => some (r13, σ))))))
set_option maxRecDepth 20000 in
set_option maxHeartbeats 4000000 in
theorem w_p_PE_fit (Θ : TT) (σ : St) (a1 : Int32) (a2 : Int32) (C : CX Θ cX11_fit RX11 (some .int) ({ frames := 3, cells := 0, slots := 0, locals := 66 } : Room) 5) : WA LC Θ (fun r : Int32 × St => Qm LC Θ (some (.int r.1)) r.2 (True)) 0 [some (.ref (cF Θ 0)), some (.int a1), some (.int a2), none, none] [] σ (p_PE_fit σ a1 a2) := by
  unfold p_PE_fit
  refine r_aload_n C dX11_fit_0 rfl ?_
  refine r_getF0 C dX11_fit_1 fg_X11_10 (by decide) ?_
  refine r_iload_n C dX11_fit_4 rfl ?_
  refine r_callV C (st := []) (As := [.int a1]) (d := 0) (j := 1) dX11_fit_5 ml_X11_134 vw_X3_personAt ⟨_, _, _, _, rfl, rfl⟩ (dm0 (by decide)) (fun r1 e => c_p_Firm_personAt Θ.1.2.1 (cW Θ) (cAd Θ) (cN Θ) σ a1 r1 e) rfl rfl (Nat.le_of_ble_eq_true rfl) ⟨rfl, rfl, by decide, by decide⟩ (fun r1 h2 => ?_)
  refine r_astore_n C (x := Option.map (cAd Θ 2) r1) [some (.ref (cF Θ 0)), some (.int a1), some (.int a2), some (va_rf (Option.map (cAd Θ 2) r1)), none] dX11_fit_8 rfl (by decide) rfl ?_
  refine r_aload_n C dX11_fit_9 rfl ?_
  refine r_getF0 C dX11_fit_10 fg_X11_10 (by decide) ?_
  refine r_iload_n C dX11_fit_13 rfl ?_
  refine r_callV C (st := []) (As := [.int a2]) (d := 0) (j := 1) dX11_fit_14 ml_X11_94 vw_X3_postAt ⟨_, _, _, _, rfl, rfl⟩ (dm0 (by decide)) (fun r3 e => c_p_Firm_postAt Θ.1.2.1 (cW Θ) (cAd Θ) (cN Θ) σ a2 r3 e) rfl rfl (Nat.le_of_ble_eq_true rfl) ⟨rfl, rfl, by decide, by decide⟩ (fun r3 h4 => ?_)
  refine r_astore C (x := Option.map (cAd Θ 1) r3) [some (.ref (cF Θ 0)), some (.int a1), some (.int a2), some (va_rf (Option.map (cAd Θ 2) r1)), some (va_rf (Option.map (cAd Θ 1) r3))] dX11_fit_17 rfl (by decide) (lvok_q (x := Option.map (cAd Θ 2) r1) rfl) ?_
  refine r_aload_nQ C (x := Option.map (cAd Θ 2) r1) dX11_fit_19 rfl ?_
  rcases r1 with _ | q5
  · refine r_ifnullN C 28 dX11_fit_20 (by decide) ?_
    refine r_aload_n C dX11_fit_28 rfl ?_
    refine r_iconst C (-1 : Int32) dX11_fit_29 (by decide) ?_
    refine r_callV C (st := []) (As := [.int (-1 : Int32)]) (d := 0) (j := 0) dX11_fit_30 ml_X11_138 vw_X11_refuseFar ⟨_, _, _, _, rfl, rfl⟩ (dm0 (by decide)) (fun r7 e => c_p_PE_refuseFar Θ.1.2.1 (cW Θ) (cAd Θ) (cN Θ) σ (-1 : Int32) r7 e) rfl rfl (Nat.le_of_ble_eq_true rfl) ⟨rfl, rfl, by decide, by decide⟩ (fun r7 h8 => ?_)
    exact r_iret C dX11_fit_33 rfl rfl trivial
  · have h6 := h2 q5 rfl
    refine r_ifnullS C dX11_fit_20 ?_
    refine r_aloadQ C (x := Option.map (cAd Θ 1) r3) dX11_fit_23 rfl ?_
    rcases r3 with _ | q9
    · refine r_ifnonnullN C dX11_fit_25 ?_
      refine r_aload_n C dX11_fit_28 rfl ?_
      refine r_iconst C (-1 : Int32) dX11_fit_29 (by decide) ?_
      refine r_callV C (st := []) (As := [.int (-1 : Int32)]) (d := 0) (j := 0) dX11_fit_30 ml_X11_138 vw_X11_refuseFar ⟨_, _, _, _, rfl, rfl⟩ (dm0 (by decide)) (fun r11 e => c_p_PE_refuseFar Θ.1.2.1 (cW Θ) (cAd Θ) (cN Θ) σ (-1 : Int32) r11 e) rfl rfl (Nat.le_of_ble_eq_true rfl) ⟨rfl, rfl, by decide, by decide⟩ (fun r11 h12 => ?_)
      exact r_iret C dX11_fit_33 rfl rfl trivial
    · have h10 := h4 q9 rfl
      refine r_ifnonnullS C 34 dX11_fit_25 (by decide) ?_
      refine r_aload_n C dX11_fit_34 rfl ?_
      refine r_getF0 C dX11_fit_35 fg_X11_10 (by decide) ?_
      refine r_aload_n C dX11_fit_38 rfl ?_
      refine r_aload C dX11_fit_39 rfl ?_
      refine r_callV C (st := []) (As := [.ref (cAd Θ 2 q5), .ref (cAd Θ 1 q9)]) (d := 0) (j := 1) dX11_fit_41 ml_X11_271 vw_X3_fitFor ⟨_, _, _, _, rfl, rfl⟩ (dm0 (by decide)) (fun r13 e => c_p_Firm_fitFor Θ.1.2.1 (cW Θ) (cAd Θ) (cN Θ) σ q5 q9 h6 h10 r13 e) rfl rfl (Nat.le_of_ble_eq_true rfl) ⟨rfl, rfl, by decide, by decide⟩ (fun r13 h14 => ?_)
      exact r_iret C dX11_fit_44 rfl rfl trivial
theorem c_p_PE_fit (l : Launch) (ω : Wd) (ad : Nat → Nat → Nat) (N : Nat → Nat) (σ : St) (a1 : Int32) (a2 : Int32) : ∀ r : Int32 × St, p_PE_fit σ a1 a2 = some r → Ct l yX11_fit cX11_fit 5 (some .int) ({ frames := 3, cells := 0, slots := 0, locals := 66 } : Room) LC ω ad N [.ref (ω.2.1 0), .int a1, .int a2] σ (some (.int r.1)) r.2 (True) :=
  ct_of (o := fun r : Int32 × St => (some (.int r.1))) (s' := fun r => r.2) (P := fun r => True) [some (.ref (ω.2.1 0)), some (.int a1), some (.int a2), none, none] (by decide) rfl (Nat.le_of_ble_eq_true rfl) (fun Γ C _ _ => w_p_PE_fit (Γ, ω, 5, ad, N, 0, 0) σ a1 a2 C)
theorem vw_X4_settle : VW yX4_settle cX4_settle 2 none 0 := ⟨⟨(in_wt 86 (by decide +kernel) (by decide +kernel)), (in_wt 996 (by decide +kernel) (by decide +kernel)), by decide +kernel⟩, (in_wt 994 (by decide +kernel) (by decide +kernel)), (in_wt 995 (by decide +kernel) (by decide +kernel))⟩
theorem vw_X4_total : VW yX4_total cX4_total 3 (some .int) 1 := ⟨⟨(in_wt 86 (by decide +kernel) (by decide +kernel)), (in_wt 1049 (by decide +kernel) (by decide +kernel)), by decide +kernel⟩, (in_wt 1047 (by decide +kernel) (by decide +kernel)), (in_wt 1048 (by decide +kernel) (by decide +kernel))⟩
theorem ml_X11_275 : Cond.methodLink RX11 275 yX4_settle ∈ wt := in_wt 993 (by decide +kernel) (by decide +kernel)
theorem ml_X11_278 : Cond.methodLink RX11 278 yX4_total ∈ wt := in_wt 1046 (by decide +kernel) (by decide +kernel)
/-- PostsEnd.public int offers(int) -/
def p_PE_offers (σ : St) (a1 : Int32) : Option (Int32 × St) := (if a1 < 0 then (Option.bind (p_PE_refuse σ (-2 : Int32)) fun r1 => some (r1.1, r1.2)) else (if (2 : Int32) < a1 then (Option.bind (p_PE_refuse σ (-2 : Int32)) fun r7 => some (r7.1, r7.2)) else (Option.bind (p_Offering_settle σ) fun r3 => (Option.bind (p_Offering_total r3 a1) fun r5 => some (r5, r3)))))
set_option maxRecDepth 20000 in
set_option maxHeartbeats 4000000 in
theorem w_p_PE_offers (Θ : TT) (σ : St) (a1 : Int32) (C : CX Θ cX11_offers RX11 (some .int) ({ frames := 6, cells := 0, slots := 0, locals := 133 } : Room) 2) : WA LC Θ (fun r : Int32 × St => Qm LC Θ (some (.int r.1)) r.2 (True)) 0 [some (.ref (cF Θ 0)), some (.int a1)] [] σ (p_PE_offers σ a1) := by
  unfold p_PE_offers
  refine r_iload_n C dX11_offers_0 rfl ?_
  refine r_if_lt C 9 dX11_offers_1 (by decide) ?_ ?_
  · refine r_aload_n C dX11_offers_9 rfl ?_
    refine r_bipush C (-2 : Int32) dX11_offers_10 (by decide) ?_
    refine r_callV C (st := []) (As := [.int (-2 : Int32)]) (d := 0) (j := 0) dX11_offers_12 ml_X11_64 vw_X11_refuse ⟨_, _, _, _, rfl, rfl⟩ (dm0 (by decide)) (fun r1 e => c_p_PE_refuse Θ.1.2.1 (cW Θ) (cAd Θ) (cN Θ) σ (-2 : Int32) r1 e) rfl rfl (Nat.le_of_ble_eq_true rfl) ⟨rfl, rfl, by decide, by decide⟩ (fun r1 h2 => ?_)
    exact r_iret C dX11_offers_15 rfl rfl trivial
  · refine r_iload_n C dX11_offers_4 rfl ?_
    refine r_iconst C (2 : Int32) dX11_offers_5 (by decide) ?_
    refine r_icmp_le C 16 dX11_offers_6 (by decide) ?_ ?_
    · refine r_aload_n C dX11_offers_16 rfl ?_
      refine r_getF0 C dX11_offers_17 fg_X11_49 (by decide) ?_
      refine r_callV C (st := []) (As := []) (d := 0) (j := 6) dX11_offers_20 ml_X11_275 vw_X4_settle ⟨_, _, _, _, rfl, rfl⟩ (dm0 (by decide)) (fun r3 e => c_p_Offering_settle Θ.1.2.1 (cW Θ) (cAd Θ) (cN Θ) σ r3 e) rfl rfl (Nat.le_of_ble_eq_true rfl) ⟨rfl, rfl, by decide, by decide⟩ (fun r3 h4 => ?_)
      refine r_aload_n C dX11_offers_23 rfl ?_
      refine r_getF0 C dX11_offers_24 fg_X11_49 (by decide) ?_
      refine r_iload_n C dX11_offers_27 rfl ?_
      refine r_callV C (st := []) (As := [.int a1]) (d := 0) (j := 6) dX11_offers_28 ml_X11_278 vw_X4_total ⟨_, _, _, _, rfl, rfl⟩ (dm0 (by decide)) (fun r5 e => c_p_Offering_total Θ.1.2.1 (cW Θ) (cAd Θ) (cN Θ) r3 a1 r5 e) rfl rfl (Nat.le_of_ble_eq_true rfl) ⟨rfl, rfl, by decide, by decide⟩ (fun r5 h6 => ?_)
      exact r_iret C dX11_offers_31 rfl rfl trivial
    · refine r_aload_n C dX11_offers_9 rfl ?_
      refine r_bipush C (-2 : Int32) dX11_offers_10 (by decide) ?_
      refine r_callV C (st := []) (As := [.int (-2 : Int32)]) (d := 0) (j := 0) dX11_offers_12 ml_X11_64 vw_X11_refuse ⟨_, _, _, _, rfl, rfl⟩ (dm0 (by decide)) (fun r7 e => c_p_PE_refuse Θ.1.2.1 (cW Θ) (cAd Θ) (cN Θ) σ (-2 : Int32) r7 e) rfl rfl (Nat.le_of_ble_eq_true rfl) ⟨rfl, rfl, by decide, by decide⟩ (fun r7 h8 => ?_)
      exact r_iret C dX11_offers_15 rfl rfl trivial
theorem c_p_PE_offers (l : Launch) (ω : Wd) (ad : Nat → Nat → Nat) (N : Nat → Nat) (σ : St) (a1 : Int32) : ∀ r : Int32 × St, p_PE_offers σ a1 = some r → Ct l yX11_offers cX11_offers 2 (some .int) ({ frames := 6, cells := 0, slots := 0, locals := 133 } : Room) LC ω ad N [.ref (ω.2.1 0), .int a1] σ (some (.int r.1)) r.2 (True) :=
  ct_of (o := fun r : Int32 × St => (some (.int r.1))) (s' := fun r => r.2) (P := fun r => True) [some (.ref (ω.2.1 0)), some (.int a1)] (by decide) rfl (Nat.le_of_ble_eq_true rfl) (fun Γ C _ _ => w_p_PE_offers (Γ, ω, 2, ad, N, 0, 0) σ a1 C)
theorem vw_X4_postFor : VW yX4_postFor cX4_postFor 3 (some .int) 1 := ⟨⟨(in_wt 86 (by decide +kernel) (by decide +kernel)), (in_wt 1057 (by decide +kernel) (by decide +kernel)), by decide +kernel⟩, (in_wt 1055 (by decide +kernel) (by decide +kernel)), (in_wt 1056 (by decide +kernel) (by decide +kernel))⟩
theorem ml_X11_281 : Cond.methodLink RX11 281 yX4_postFor ∈ wt := in_wt 1054 (by decide +kernel) (by decide +kernel)
/-- PostsEnd.public int offered(int) -/
def p_PE_offered (σ : St) (a1 : Int32) : Option (Int32 × St) := (if a1 < 0 then (Option.bind (p_PE_refuse σ (-1 : Int32)) fun r1 => some (r1.1, r1.2)) else (if a1 < σ.1 0 6 7 then (Option.bind (p_Offering_settle σ) fun r3 => (Option.bind (p_Offering_postFor r3 a1) fun r5 => some (r5, r3))) else (Option.bind (p_PE_refuse σ (-1 : Int32)) fun r7 => some (r7.1, r7.2))))
set_option maxRecDepth 20000 in
set_option maxHeartbeats 4000000 in
theorem w_p_PE_offered (Θ : TT) (σ : St) (a1 : Int32) (C : CX Θ cX11_offered RX11 (some .int) ({ frames := 6, cells := 0, slots := 0, locals := 133 } : Room) 2) : WA LC Θ (fun r : Int32 × St => Qm LC Θ (some (.int r.1)) r.2 (True)) 0 [some (.ref (cF Θ 0)), some (.int a1)] [] σ (p_PE_offered σ a1) := by
  unfold p_PE_offered
  refine r_iload_n C dX11_offered_0 rfl ?_
  refine r_if_lt C 15 dX11_offered_1 (by decide) ?_ ?_
  · refine r_aload_n C dX11_offered_15 rfl ?_
    refine r_iconst C (-1 : Int32) dX11_offered_16 (by decide) ?_
    refine r_callV C (st := []) (As := [.int (-1 : Int32)]) (d := 0) (j := 0) dX11_offered_17 ml_X11_64 vw_X11_refuse ⟨_, _, _, _, rfl, rfl⟩ (dm0 (by decide)) (fun r1 e => c_p_PE_refuse Θ.1.2.1 (cW Θ) (cAd Θ) (cN Θ) σ (-1 : Int32) r1 e) rfl rfl (Nat.le_of_ble_eq_true rfl) ⟨rfl, rfl, by decide, by decide⟩ (fun r1 h2 => ?_)
    exact r_iret C dX11_offered_20 rfl rfl trivial
  · refine r_iload_n C dX11_offered_4 rfl ?_
    refine r_aload_n C dX11_offered_5 rfl ?_
    refine r_getF0 C dX11_offered_6 fg_X11_49 (by decide) ?_
    refine r_getI0 C dX11_offered_9 fg_X11_265 (by decide) ?_
    refine r_icmp_lt C 21 dX11_offered_12 (by decide) ?_ ?_
    · refine r_aload_n C dX11_offered_21 rfl ?_
      refine r_getF0 C dX11_offered_22 fg_X11_49 (by decide) ?_
      refine r_callV C (st := []) (As := []) (d := 0) (j := 6) dX11_offered_25 ml_X11_275 vw_X4_settle ⟨_, _, _, _, rfl, rfl⟩ (dm0 (by decide)) (fun r3 e => c_p_Offering_settle Θ.1.2.1 (cW Θ) (cAd Θ) (cN Θ) σ r3 e) rfl rfl (Nat.le_of_ble_eq_true rfl) ⟨rfl, rfl, by decide, by decide⟩ (fun r3 h4 => ?_)
      refine r_aload_n C dX11_offered_28 rfl ?_
      refine r_getF0 C dX11_offered_29 fg_X11_49 (by decide) ?_
      refine r_iload_n C dX11_offered_32 rfl ?_
      refine r_callV C (st := []) (As := [.int a1]) (d := 0) (j := 6) dX11_offered_33 ml_X11_281 vw_X4_postFor ⟨_, _, _, _, rfl, rfl⟩ (dm0 (by decide)) (fun r5 e => c_p_Offering_postFor Θ.1.2.1 (cW Θ) (cAd Θ) (cN Θ) r3 a1 r5 e) rfl rfl (Nat.le_of_ble_eq_true rfl) ⟨rfl, rfl, by decide, by decide⟩ (fun r5 h6 => ?_)
      exact r_iret C dX11_offered_36 rfl rfl trivial
    · refine r_aload_n C dX11_offered_15 rfl ?_
      refine r_iconst C (-1 : Int32) dX11_offered_16 (by decide) ?_
      refine r_callV C (st := []) (As := [.int (-1 : Int32)]) (d := 0) (j := 0) dX11_offered_17 ml_X11_64 vw_X11_refuse ⟨_, _, _, _, rfl, rfl⟩ (dm0 (by decide)) (fun r7 e => c_p_PE_refuse Θ.1.2.1 (cW Θ) (cAd Θ) (cN Θ) σ (-1 : Int32) r7 e) rfl rfl (Nat.le_of_ble_eq_true rfl) ⟨rfl, rfl, by decide, by decide⟩ (fun r7 h8 => ?_)
      exact r_iret C dX11_offered_20 rfl rfl trivial
theorem c_p_PE_offered (l : Launch) (ω : Wd) (ad : Nat → Nat → Nat) (N : Nat → Nat) (σ : St) (a1 : Int32) : ∀ r : Int32 × St, p_PE_offered σ a1 = some r → Ct l yX11_offered cX11_offered 2 (some .int) ({ frames := 6, cells := 0, slots := 0, locals := 133 } : Room) LC ω ad N [.ref (ω.2.1 0), .int a1] σ (some (.int r.1)) r.2 (True) :=
  ct_of (o := fun r : Int32 × St => (some (.int r.1))) (s' := fun r => r.2) (P := fun r => True) [some (.ref (ω.2.1 0)), some (.int a1)] (by decide) rfl (Nat.le_of_ble_eq_true rfl) (fun Γ C _ _ => w_p_PE_offered (Γ, ω, 2, ad, N, 0, 0) σ a1 C)
/-- PostsEnd.private static boolean isPlace(int) -/
def p_PE_isPlace (a0 : Int32) : Option Int32 := (if a0 < 0 then some (0 : Int32) else (if a0 < (4 : Int32) then some (1 : Int32) else some (0 : Int32)))
set_option maxRecDepth 20000 in
set_option maxHeartbeats 4000000 in
theorem w_p_PE_isPlace (Θ : TT) (σ : St) (a0 : Int32) (C : CX Θ cX11_isPlace RX11 (some .boolean) ({ frames := 0, cells := 0, slots := 0, locals := 0 } : Room) 1) : WA LC Θ (fun r : Int32 => Qm LC Θ (some (.int r)) σ (narrow .boolean (.int r) = .int r)) 0 [some (.int a0)] [] σ (p_PE_isPlace a0) := by
  unfold p_PE_isPlace
  refine r_iload_n C dX11_isPlace_0 rfl ?_
  refine r_if_lt C 13 dX11_isPlace_1 (by decide) ?_ ?_
  · refine r_iconst C (0 : Int32) dX11_isPlace_13 (by decide) ?_
    exact r_zret C dX11_isPlace_14 (show narrow .boolean (.int (0 : Int32)) = .int (0 : Int32) from rfl) rfl rfl (show narrow .boolean (.int (0 : Int32)) = .int (0 : Int32) from rfl)
  · refine r_iload_n C dX11_isPlace_4 rfl ?_
    refine r_iconst C (4 : Int32) dX11_isPlace_5 (by decide) ?_
    refine r_icmp_ge C 13 dX11_isPlace_6 (by decide) ?_ ?_
    · refine r_iconst C (0 : Int32) dX11_isPlace_13 (by decide) ?_
      exact r_zret C dX11_isPlace_14 (show narrow .boolean (.int (0 : Int32)) = .int (0 : Int32) from rfl) rfl rfl (show narrow .boolean (.int (0 : Int32)) = .int (0 : Int32) from rfl)
    · refine r_iconst C (1 : Int32) dX11_isPlace_9 (by decide) ?_
      refine r_goto C 14 dX11_isPlace_10 (by decide) ?_
      exact r_zret C dX11_isPlace_14 (show narrow .boolean (.int (1 : Int32)) = .int (1 : Int32) from rfl) rfl rfl (show narrow .boolean (.int (1 : Int32)) = .int (1 : Int32) from rfl)
theorem c_p_PE_isPlace (l : Launch) (ω : Wd) (ad : Nat → Nat → Nat) (N : Nat → Nat) (σ : St) (a0 : Int32) : ∀ r : Int32, p_PE_isPlace a0 = some r → Ct l yX11_isPlace cX11_isPlace 1 (some .boolean) ({ frames := 0, cells := 0, slots := 0, locals := 0 } : Room) LC ω ad N [.int a0] σ (some (.int r)) σ (narrow .boolean (.int r) = .int r) :=
  ct_of (o := fun r : Int32 => (some (.int r))) (s' := fun r => σ) (P := fun r => narrow .boolean (.int r) = .int r) [some (.int a0)] (by decide) rfl (Nat.le_of_ble_eq_true rfl) (fun Γ C _ _ => w_p_PE_isPlace (Γ, ω, 1, ad, N, 0, 0) σ a0 C)
theorem vw_X2_add : VW yX2_add cX2_add 4 (some .int) 3 := ⟨⟨(in_wt 87 (by decide +kernel) (by decide +kernel)), (in_wt 1068 (by decide +kernel) (by decide +kernel)), by decide +kernel⟩, (in_wt 1066 (by decide +kernel) (by decide +kernel)), (in_wt 1067 (by decide +kernel) (by decide +kernel))⟩
theorem sw_X11_isPlace : SW yX11_isPlace cX11_isPlace 1 (some .boolean) 1 := ⟨⟨(in_wt 80 (by decide +kernel) (by decide +kernel)), (in_wt 1064 (by decide +kernel) (by decide +kernel)), by decide +kernel⟩, (in_wt 1063 (by decide +kernel) (by decide +kernel))⟩
theorem fg_X11_287 : FG LC RX11 287 0 7 3 (0, 0) := ⟨_, _, _, _, _, rfl, rfl, rfl, by decide, uw_X2, (in_wt 345 (by decide +kernel) (by decide +kernel))⟩
theorem fg_X11_56 : FG LC RX11 56 0 0 6 (1, 7) := ⟨_, _, _, _, _, rfl, rfl, rfl, by decide, uw_X11, (in_wt 388 (by decide +kernel) (by decide +kernel))⟩
theorem ml_X11_284 : Cond.methodLink RX11 284 yX11_isPlace ∈ wt := in_wt 1062 (by decide +kernel) (by decide +kernel)
theorem ml_X11_290 : Cond.methodLink RX11 290 yX2_add ∈ wt := in_wt 1065 (by decide +kernel) (by decide +kernel)
/-- PostsEnd.public int ends(int, int, int) -/
def p_PE_ends (σ : St) (a1 : Int32) (a2 : Int32) (a3 : Int32) : Option (Int32 × St) := (Option.bind (p_PE_isPlace a1) fun r1 => (if r1 = 0 then (Option.bind (p_PE_refuse σ (-1 : Int32)) fun r15 => some (r15.1, r15.2)) else (if a2 < 0 then (Option.bind (p_PE_refuse σ (-4 : Int32)) fun r3 => some (r3.1, r3.2)) else (if a3 < (1 : Int32) then (Option.bind (p_PE_refuse σ (-4 : Int32)) fun r13 => some (r13.1, r13.2)) else (if (3000 : Int32) < a2 then (Option.bind (p_PE_refuse σ (-6 : Int32)) fun r5 => some (r5.1, r5.2)) else (if (500 : Int32) < a3 then (Option.bind (p_PE_refuse σ (-6 : Int32)) fun r7 => some (r7.1, r7.2)) else (if σ.1 0 7 3 < (60 : Int32) then (Option.bind (p_Endings_add σ a1 a2 a3) fun r9 => some (r9.1, r9.2)) else (Option.bind (p_PE_refuse σ (-6 : Int32)) fun r11 => some (r11.1, r11.2)))))))))
set_option maxRecDepth 20000 in
set_option maxHeartbeats 4000000 in
theorem w_p_PE_ends (Θ : TT) (σ : St) (a1 : Int32) (a2 : Int32) (a3 : Int32) (C : CX Θ cX11_ends RX11 (some .int) ({ frames := 1, cells := 0, slots := 0, locals := 23 } : Room) 4) : WA LC Θ (fun r : Int32 × St => Qm LC Θ (some (.int r.1)) r.2 (True)) 0 [some (.ref (cF Θ 0)), some (.int a1), some (.int a2), some (.int a3)] [] σ (p_PE_ends σ a1 a2 a3) := by
  unfold p_PE_ends
  refine r_iload_n C dX11_ends_0 rfl ?_
  refine r_callS C (st := []) (As := [.int a1]) dX11_ends_1 ml_X11_284 sw_X11_isPlace (fun r1 e => c_p_PE_isPlace Θ.1.2.1 (cW Θ) (cAd Θ) (cN Θ) σ a1 r1 e) rfl rfl (Nat.le_of_ble_eq_true rfl) ⟨rfl, rfl, by decide, by decide⟩ (fun r1 h2 => ?_)
  refine r_if_ne C 13 dX11_ends_4 (by decide) ?_ ?_
  · refine r_iload_n C dX11_ends_13 rfl ?_
    refine r_if_lt C 22 dX11_ends_14 (by decide) ?_ ?_
    · refine r_aload_n C dX11_ends_22 rfl ?_
      refine r_bipush C (-4 : Int32) dX11_ends_23 (by decide) ?_
      refine r_callV C (st := []) (As := [.int (-4 : Int32)]) (d := 0) (j := 0) dX11_ends_25 ml_X11_64 vw_X11_refuse ⟨_, _, _, _, rfl, rfl⟩ (dm0 (by decide)) (fun r3 e => c_p_PE_refuse Θ.1.2.1 (cW Θ) (cAd Θ) (cN Θ) σ (-4 : Int32) r3 e) rfl rfl (Nat.le_of_ble_eq_true rfl) ⟨rfl, rfl, by decide, by decide⟩ (fun r3 h4 => ?_)
      exact r_iret C dX11_ends_28 rfl rfl trivial
    · refine r_iload_n C dX11_ends_17 rfl ?_
      refine r_iconst C (1 : Int32) dX11_ends_18 (by decide) ?_
      refine r_icmp_ge C 29 dX11_ends_19 (by decide) ?_ ?_
      · refine r_iload_n C dX11_ends_29 rfl ?_
        refine r_sipush C (3000 : Int32) dX11_ends_30 (by decide) ?_
        refine r_icmp_gt C 55 dX11_ends_33 (by decide) ?_ ?_
        · refine r_aload_n C dX11_ends_55 rfl ?_
          refine r_bipush C (-6 : Int32) dX11_ends_56 (by decide) ?_
          refine r_callV C (st := []) (As := [.int (-6 : Int32)]) (d := 0) (j := 0) dX11_ends_58 ml_X11_64 vw_X11_refuse ⟨_, _, _, _, rfl, rfl⟩ (dm0 (by decide)) (fun r5 e => c_p_PE_refuse Θ.1.2.1 (cW Θ) (cAd Θ) (cN Θ) σ (-6 : Int32) r5 e) rfl rfl (Nat.le_of_ble_eq_true rfl) ⟨rfl, rfl, by decide, by decide⟩ (fun r5 h6 => ?_)
          exact r_iret C dX11_ends_61 rfl rfl trivial
        · refine r_iload_n C dX11_ends_36 rfl ?_
          refine r_sipush C (500 : Int32) dX11_ends_37 (by decide) ?_
          refine r_icmp_gt C 55 dX11_ends_40 (by decide) ?_ ?_
          · refine r_aload_n C dX11_ends_55 rfl ?_
            refine r_bipush C (-6 : Int32) dX11_ends_56 (by decide) ?_
            refine r_callV C (st := []) (As := [.int (-6 : Int32)]) (d := 0) (j := 0) dX11_ends_58 ml_X11_64 vw_X11_refuse ⟨_, _, _, _, rfl, rfl⟩ (dm0 (by decide)) (fun r7 e => c_p_PE_refuse Θ.1.2.1 (cW Θ) (cAd Θ) (cN Θ) σ (-6 : Int32) r7 e) rfl rfl (Nat.le_of_ble_eq_true rfl) ⟨rfl, rfl, by decide, by decide⟩ (fun r7 h8 => ?_)
            exact r_iret C dX11_ends_61 rfl rfl trivial
          · refine r_aload_n C dX11_ends_43 rfl ?_
            refine r_getF0 C dX11_ends_44 fg_X11_56 (by decide) ?_
            refine r_getI0 C dX11_ends_47 fg_X11_287 (by decide) ?_
            refine r_bipush C (60 : Int32) dX11_ends_50 (by decide) ?_
            refine r_icmp_lt C 62 dX11_ends_52 (by decide) ?_ ?_
            · refine r_aload_n C dX11_ends_62 rfl ?_
              refine r_getF0 C dX11_ends_63 fg_X11_56 (by decide) ?_
              refine r_iload_n C dX11_ends_66 rfl ?_
              refine r_iload_n C dX11_ends_67 rfl ?_
              refine r_iload_n C dX11_ends_68 rfl ?_
              refine r_callV C (st := []) (As := [.int a1, .int a2, .int a3]) (d := 0) (j := 7) dX11_ends_69 ml_X11_290 vw_X2_add ⟨_, _, _, _, rfl, rfl⟩ (dm0 (by decide)) (fun r9 e => c_p_Endings_add Θ.1.2.1 (cW Θ) (cAd Θ) (cN Θ) σ a1 a2 a3 r9 e) rfl rfl (Nat.le_of_ble_eq_true rfl) ⟨rfl, rfl, by decide, by decide⟩ (fun r9 h10 => ?_)
              exact r_iret C dX11_ends_72 rfl rfl trivial
            · refine r_aload_n C dX11_ends_55 rfl ?_
              refine r_bipush C (-6 : Int32) dX11_ends_56 (by decide) ?_
              refine r_callV C (st := []) (As := [.int (-6 : Int32)]) (d := 0) (j := 0) dX11_ends_58 ml_X11_64 vw_X11_refuse ⟨_, _, _, _, rfl, rfl⟩ (dm0 (by decide)) (fun r11 e => c_p_PE_refuse Θ.1.2.1 (cW Θ) (cAd Θ) (cN Θ) σ (-6 : Int32) r11 e) rfl rfl (Nat.le_of_ble_eq_true rfl) ⟨rfl, rfl, by decide, by decide⟩ (fun r11 h12 => ?_)
              exact r_iret C dX11_ends_61 rfl rfl trivial
      · refine r_aload_n C dX11_ends_22 rfl ?_
        refine r_bipush C (-4 : Int32) dX11_ends_23 (by decide) ?_
        refine r_callV C (st := []) (As := [.int (-4 : Int32)]) (d := 0) (j := 0) dX11_ends_25 ml_X11_64 vw_X11_refuse ⟨_, _, _, _, rfl, rfl⟩ (dm0 (by decide)) (fun r13 e => c_p_PE_refuse Θ.1.2.1 (cW Θ) (cAd Θ) (cN Θ) σ (-4 : Int32) r13 e) rfl rfl (Nat.le_of_ble_eq_true rfl) ⟨rfl, rfl, by decide, by decide⟩ (fun r13 h14 => ?_)
        exact r_iret C dX11_ends_28 rfl rfl trivial
  · refine r_aload_n C dX11_ends_7 rfl ?_
    refine r_iconst C (-1 : Int32) dX11_ends_8 (by decide) ?_
    refine r_callV C (st := []) (As := [.int (-1 : Int32)]) (d := 0) (j := 0) dX11_ends_9 ml_X11_64 vw_X11_refuse ⟨_, _, _, _, rfl, rfl⟩ (dm0 (by decide)) (fun r15 e => c_p_PE_refuse Θ.1.2.1 (cW Θ) (cAd Θ) (cN Θ) σ (-1 : Int32) r15 e) rfl rfl (Nat.le_of_ble_eq_true rfl) ⟨rfl, rfl, by decide, by decide⟩ (fun r15 h16 => ?_)
    exact r_iret C dX11_ends_12 rfl rfl trivial
theorem c_p_PE_ends (l : Launch) (ω : Wd) (ad : Nat → Nat → Nat) (N : Nat → Nat) (σ : St) (a1 : Int32) (a2 : Int32) (a3 : Int32) : ∀ r : Int32 × St, p_PE_ends σ a1 a2 a3 = some r → Ct l yX11_ends cX11_ends 4 (some .int) ({ frames := 1, cells := 0, slots := 0, locals := 23 } : Room) LC ω ad N [.ref (ω.2.1 0), .int a1, .int a2, .int a3] σ (some (.int r.1)) r.2 (True) :=
  ct_of (o := fun r : Int32 × St => (some (.int r.1))) (s' := fun r => r.2) (P := fun r => True) [some (.ref (ω.2.1 0)), some (.int a1), some (.int a2), some (.int a3)] (by decide) rfl (Nat.le_of_ble_eq_true rfl) (fun Γ C _ _ => w_p_PE_ends (Γ, ω, 4, ad, N, 0, 0) σ a1 a2 a3 C)
theorem ml_X11_294 : Cond.methodLink RX11 294 yX2_within ∈ wt := in_wt 1073 (by decide +kernel) (by decide +kernel)
theorem ml_X11_297 : Cond.methodLink RX11 297 yX11_bandOf ∈ wt := in_wt 1077 (by decide +kernel) (by decide +kernel)
theorem ml_X11_300 : Cond.methodLink RX11 300 yX11_noticeOf ∈ wt := in_wt 1082 (by decide +kernel) (by decide +kernel)
/-- PostsEnd.public int notice(int, int) -/
def p_PE_notice (σ : St) (a1 : Int32) (a2 : Int32) : Option (Int32 × St) := (Option.bind (p_PE_isPlace a1) fun r1 => (if r1 = 0 then (Option.bind (p_PE_refuse σ (-1 : Int32)) fun r13 => some (r13.1, r13.2)) else (if a2 < 0 then (Option.bind (p_PE_refuse σ (-4 : Int32)) fun r11 => some (r11.1, r11.2)) else (if (3000 : Int32) < a2 then (Option.bind (p_PE_refuse σ (-6 : Int32)) fun r9 => some (r9.1, r9.2)) else (Option.bind (p_Endings_within σ a1 a2) fun r3 => (Option.bind (p_PE_bandOf r3) fun r5 => (Option.bind (p_PE_noticeOf r5) fun r7 => some (r7, σ))))))))
set_option maxRecDepth 20000 in
set_option maxHeartbeats 4000000 in
theorem w_p_PE_notice (Θ : TT) (σ : St) (a1 : Int32) (a2 : Int32) (C : CX Θ cX11_notice RX11 (some .int) ({ frames := 1, cells := 0, slots := 0, locals := 24 } : Room) 3) : WA LC Θ (fun r : Int32 × St => Qm LC Θ (some (.int r.1)) r.2 (True)) 0 [some (.ref (cF Θ 0)), some (.int a1), some (.int a2)] [] σ (p_PE_notice σ a1 a2) := by
  unfold p_PE_notice
  refine r_iload_n C dX11_notice_0 rfl ?_
  refine r_callS C (st := []) (As := [.int a1]) dX11_notice_1 ml_X11_284 sw_X11_isPlace (fun r1 e => c_p_PE_isPlace Θ.1.2.1 (cW Θ) (cAd Θ) (cN Θ) σ a1 r1 e) rfl rfl (Nat.le_of_ble_eq_true rfl) ⟨rfl, rfl, by decide, by decide⟩ (fun r1 h2 => ?_)
  refine r_if_ne C 13 dX11_notice_4 (by decide) ?_ ?_
  · refine r_iload_n C dX11_notice_13 rfl ?_
    refine r_if_ge C 24 dX11_notice_14 (by decide) ?_ ?_
    · refine r_iload_n C dX11_notice_24 rfl ?_
      refine r_sipush C (3000 : Int32) dX11_notice_25 (by decide) ?_
      refine r_icmp_le C 38 dX11_notice_28 (by decide) ?_ ?_
      · refine r_aload_n C dX11_notice_38 rfl ?_
        refine r_getF0 C dX11_notice_39 fg_X11_56 (by decide) ?_
        refine r_iload_n C dX11_notice_42 rfl ?_
        refine r_iload_n C dX11_notice_43 rfl ?_
        refine r_callV C (st := []) (As := [.int a1, .int a2]) (d := 0) (j := 7) dX11_notice_44 ml_X11_294 vw_X2_within ⟨_, _, _, _, rfl, rfl⟩ (dm0 (by decide)) (fun r3 e => c_p_Endings_within Θ.1.2.1 (cW Θ) (cAd Θ) (cN Θ) σ a1 a2 r3 e) rfl rfl (Nat.le_of_ble_eq_true rfl) ⟨rfl, rfl, by decide, by decide⟩ (fun r3 h4 => ?_)
        refine r_callS C (st := []) (As := [.int r3]) dX11_notice_47 ml_X11_297 sw_X11_bandOf (fun r5 e => c_p_PE_bandOf Θ.1.2.1 (cW Θ) (cAd Θ) (cN Θ) σ r3 r5 e) rfl rfl (Nat.le_of_ble_eq_true rfl) ⟨rfl, rfl, by decide, by decide⟩ (fun r5 h6 => ?_)
        refine r_callS C (st := []) (As := [.int r5]) dX11_notice_50 ml_X11_300 sw_X11_noticeOf (fun r7 e => c_p_PE_noticeOf Θ.1.2.1 (cW Θ) (cAd Θ) (cN Θ) σ r5 r7 e) rfl rfl (Nat.le_of_ble_eq_true rfl) ⟨rfl, rfl, by decide, by decide⟩ (fun r7 h8 => ?_)
        exact r_iret C dX11_notice_53 rfl rfl trivial
      · refine r_aload_n C dX11_notice_31 rfl ?_
        refine r_bipush C (-6 : Int32) dX11_notice_32 (by decide) ?_
        refine r_callV C (st := []) (As := [.int (-6 : Int32)]) (d := 0) (j := 0) dX11_notice_34 ml_X11_64 vw_X11_refuse ⟨_, _, _, _, rfl, rfl⟩ (dm0 (by decide)) (fun r9 e => c_p_PE_refuse Θ.1.2.1 (cW Θ) (cAd Θ) (cN Θ) σ (-6 : Int32) r9 e) rfl rfl (Nat.le_of_ble_eq_true rfl) ⟨rfl, rfl, by decide, by decide⟩ (fun r9 h10 => ?_)
        exact r_iret C dX11_notice_37 rfl rfl trivial
    · refine r_aload_n C dX11_notice_17 rfl ?_
      refine r_bipush C (-4 : Int32) dX11_notice_18 (by decide) ?_
      refine r_callV C (st := []) (As := [.int (-4 : Int32)]) (d := 0) (j := 0) dX11_notice_20 ml_X11_64 vw_X11_refuse ⟨_, _, _, _, rfl, rfl⟩ (dm0 (by decide)) (fun r11 e => c_p_PE_refuse Θ.1.2.1 (cW Θ) (cAd Θ) (cN Θ) σ (-4 : Int32) r11 e) rfl rfl (Nat.le_of_ble_eq_true rfl) ⟨rfl, rfl, by decide, by decide⟩ (fun r11 h12 => ?_)
      exact r_iret C dX11_notice_23 rfl rfl trivial
  · refine r_aload_n C dX11_notice_7 rfl ?_
    refine r_iconst C (-1 : Int32) dX11_notice_8 (by decide) ?_
    refine r_callV C (st := []) (As := [.int (-1 : Int32)]) (d := 0) (j := 0) dX11_notice_9 ml_X11_64 vw_X11_refuse ⟨_, _, _, _, rfl, rfl⟩ (dm0 (by decide)) (fun r13 e => c_p_PE_refuse Θ.1.2.1 (cW Θ) (cAd Θ) (cN Θ) σ (-1 : Int32) r13 e) rfl rfl (Nat.le_of_ble_eq_true rfl) ⟨rfl, rfl, by decide, by decide⟩ (fun r13 h14 => ?_)
    exact r_iret C dX11_notice_12 rfl rfl trivial
theorem c_p_PE_notice (l : Launch) (ω : Wd) (ad : Nat → Nat → Nat) (N : Nat → Nat) (σ : St) (a1 : Int32) (a2 : Int32) : ∀ r : Int32 × St, p_PE_notice σ a1 a2 = some r → Ct l yX11_notice cX11_notice 3 (some .int) ({ frames := 1, cells := 0, slots := 0, locals := 24 } : Room) LC ω ad N [.ref (ω.2.1 0), .int a1, .int a2] σ (some (.int r.1)) r.2 (True) :=
  ct_of (o := fun r : Int32 × St => (some (.int r.1))) (s' := fun r => r.2) (P := fun r => True) [some (.ref (ω.2.1 0)), some (.int a1), some (.int a2)] (by decide) rfl (Nat.le_of_ble_eq_true rfl) (fun Γ C _ _ => w_p_PE_notice (Γ, ω, 3, ad, N, 0, 0) σ a1 a2 C)
