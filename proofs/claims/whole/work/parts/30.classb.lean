theorem ag_LC_14 : AG LC 14 0 3 := ⟨by decide, rfl⟩
theorem fg_X3_111 (j : Nat) : FG LC RX3 111 2 j 3 (0, 0) := ⟨_, _, _, _, _, rfl, rfl, rfl, by decide, uw_X5, (in_wt 536 (by decide +kernel) (by decide +kernel))⟩
theorem fg_X3_36 : FG LC RX3 36 0 1 11 (1, 14) := ⟨_, _, _, _, _, rfl, rfl, rfl, by decide, uw_X3, (in_wt 142 (by decide +kernel) (by decide +kernel))⟩
/-- PostsEnd$Firm.int severanceOf(PostsEnd$Person) -/
def p_Firm_severanceOf (σ : St) (a1 : Nat) : Option Int32 := (Option.bind (p_Firm_wholeYears σ a1) fun r1 => (Option.bind (ix 3 (2 : Int32)) fun i3 => some ((if (30 : Int32) < r1 then (30 : Int32) else r1) * (if σ.1 0 14 i3 < σ.1 2 a1 3 then σ.1 0 14 i3 else σ.1 2 a1 3))))
set_option maxRecDepth 20000 in
set_option maxHeartbeats 4000000 in
theorem w_p_Firm_severanceOf (Θ : TT) (σ : St) (a1 : Nat) (b1 : a1 < cN Θ 2) (C : CX Θ cX3_severanceOf RX3 (some .int) ({ frames := 1, cells := 0, slots := 0, locals := 21 } : Room) 2) : WA LC Θ (fun r : Int32 => Qm LC Θ (some (.int r)) σ (True)) 0 [some (.ref (cF Θ 1)), some (.ref (cAd Θ 2 a1))] [] σ (p_Firm_severanceOf σ a1) := by
  unfold p_Firm_severanceOf
  refine r_aload_n C dX3_severanceOf_0 rfl ?_
  refine r_aload_n C dX3_severanceOf_1 rfl ?_
  refine r_callV C (st := []) (As := [.ref (cAd Θ 2 a1)]) (d := 0) (j := 1) dX3_severanceOf_2 ml_X3_103 vw_X3_wholeYears ⟨_, _, _, _, rfl, rfl⟩ (dm0 (by decide)) (fun r1 e => c_p_Firm_wholeYears Θ.1.2.1 (cW Θ) (cAd Θ) (cN Θ) σ a1 b1 r1 e) rfl rfl (Nat.le_of_ble_eq_true rfl) ⟨rfl, rfl, by decide, by decide⟩ (fun r1 h2 => ?_)
  refine r_bipush C (30 : Int32) dX3_severanceOf_5 (by decide) ?_
  refine r_mmin C dX3_severanceOf_7 jw_X3_107 (by decide) (Nat.le_of_ble_eq_true rfl) ?_
  refine r_aload_n C dX3_severanceOf_10 rfl ?_
  refine r_getI C dX3_severanceOf_11 (fg_X3_111 _) (by decide) b1 ?_
  refine r_aload_n C dX3_severanceOf_14 rfl ?_
  refine r_getF0 C dX3_severanceOf_15 fg_X3_36 (by decide) ?_
  refine r_iconst C (2 : Int32) dX3_severanceOf_18 (by decide) ?_
  refine r_iald (α := Unit) C dX3_severanceOf_19 ag_LC_14 (fun i3 => ?_)
  refine r_mmin C dX3_severanceOf_20 jw_X3_107 (by decide) (Nat.le_of_ble_eq_true rfl) ?_
  refine r_imul C dX3_severanceOf_23 ?_
  exact r_iret C dX3_severanceOf_24 rfl rfl trivial
theorem c_p_Firm_severanceOf (l : Launch) (ω : Wd) (ad : Nat → Nat → Nat) (N : Nat → Nat) (σ : St) (a1 : Nat) (b1 : a1 < N 2) : ∀ r : Int32, p_Firm_severanceOf σ a1 = some r → Ct l yX3_severanceOf cX3_severanceOf 2 (some .int) ({ frames := 1, cells := 0, slots := 0, locals := 21 } : Room) LC ω ad N [.ref (ω.2.1 1), .ref (ad 2 a1)] σ (some (.int r)) σ (True) :=
  ct_of (o := fun r : Int32 => (some (.int r))) (s' := fun r => σ) (P := fun r => True) [some (.ref (ω.2.1 1)), some (.ref (ad 2 a1))] (by decide) rfl (Nat.le_of_ble_eq_true rfl) (fun Γ C _ _ => w_p_Firm_severanceOf (Γ, ω, 2, ad, N, 0, 0) σ a1 b1 C)
theorem fg_X5_18 (j : Nat) : FG LC RX5 18 2 j 8 (0, 0) := ⟨_, _, _, _, _, rfl, rfl, rfl, by decide, uw_X5, (in_wt 550 (by decide +kernel) (by decide +kernel))⟩
/-- PostsEnd$Person.boolean isVolunteer() -/
def p_Person_isVolunteer (σ : St) (a0 : Nat) : Option Int32 := (if σ.1 2 a0 8 < 0 then some (0 : Int32) else some (1 : Int32))
set_option maxRecDepth 20000 in
set_option maxHeartbeats 4000000 in
theorem w_p_Person_isVolunteer (Θ : TT) (σ : St) (a0 : Nat) (b0 : a0 < cN Θ 2) (C : CX Θ cX5_isVolunteer RX5 (some .boolean) ({ frames := 0, cells := 0, slots := 0, locals := 0 } : Room) 1) : WA LC Θ (fun r : Int32 => Qm LC Θ (some (.int r)) σ (narrow .boolean (.int r) = .int r)) 0 [some (.ref (cAd Θ 2 a0))] [] σ (p_Person_isVolunteer σ a0) := by
  unfold p_Person_isVolunteer
  refine r_aload_n C dX5_isVolunteer_0 rfl ?_
  refine r_getI C dX5_isVolunteer_1 (fg_X5_18 _) (by decide) b0 ?_
  refine r_if_lt C 11 dX5_isVolunteer_4 (by decide) ?_ ?_
  · refine r_iconst C (0 : Int32) dX5_isVolunteer_11 (by decide) ?_
    exact r_zret C dX5_isVolunteer_12 (show narrow .boolean (.int (0 : Int32)) = .int (0 : Int32) from rfl) rfl rfl (show narrow .boolean (.int (0 : Int32)) = .int (0 : Int32) from rfl)
  · refine r_iconst C (1 : Int32) dX5_isVolunteer_7 (by decide) ?_
    refine r_goto C 12 dX5_isVolunteer_8 (by decide) ?_
    exact r_zret C dX5_isVolunteer_12 (show narrow .boolean (.int (1 : Int32)) = .int (1 : Int32) from rfl) rfl rfl (show narrow .boolean (.int (1 : Int32)) = .int (1 : Int32) from rfl)
theorem c_p_Person_isVolunteer (l : Launch) (ω : Wd) (ad : Nat → Nat → Nat) (N : Nat → Nat) (σ : St) (a0 : Nat) (b0 : a0 < N 2) : ∀ r : Int32, p_Person_isVolunteer σ a0 = some r → Ct l yX5_isVolunteer cX5_isVolunteer 1 (some .boolean) ({ frames := 0, cells := 0, slots := 0, locals := 0 } : Room) LC ω ad N [.ref (ad 2 a0)] σ (some (.int r)) σ (narrow .boolean (.int r) = .int r) :=
  ct_of (o := fun r : Int32 => (some (.int r))) (s' := fun r => σ) (P := fun r => narrow .boolean (.int r) = .int r) [some (.ref (ad 2 a0))] (by decide) rfl (Nat.le_of_ble_eq_true rfl) (fun Γ C _ _ => w_p_Person_isVolunteer (Γ, ω, 1, ad, N, 0, 0) σ a0 b0 C)
theorem ag_LC_22 : AG LC 22 0 12 := ⟨by decide, rfl⟩
theorem ag_LC_23 : AG LC 23 0 12 := ⟨by decide, rfl⟩
theorem ag_LC_24 : AG LC 24 0 10 := ⟨by decide, rfl⟩
theorem vw_X3_severanceOf : VW yX3_severanceOf cX3_severanceOf 2 (some .int) 1 := ⟨⟨(in_wt 81 (by decide +kernel) (by decide +kernel)), (in_wt 848 (by decide +kernel) (by decide +kernel)), by decide +kernel⟩, (in_wt 846 (by decide +kernel) (by decide +kernel)), (in_wt 847 (by decide +kernel) (by decide +kernel))⟩
theorem vw_X5_isVolunteer : VW yX5_isVolunteer cX5_isVolunteer 1 (some .boolean) 0 := ⟨⟨(in_wt 90 (by decide +kernel) (by decide +kernel)), (in_wt 874 (by decide +kernel) (by decide +kernel)), by decide +kernel⟩, (in_wt 872 (by decide +kernel) (by decide +kernel)), (in_wt 873 (by decide +kernel) (by decide +kernel))⟩
theorem fg_X1_105 : FG LC RX1 105 0 1 0 (0, 0) := ⟨_, _, _, _, _, rfl, rfl, rfl, by decide, uw_X3, (in_wt 120 (by decide +kernel) (by decide +kernel))⟩
theorem fg_X1_120 (j : Nat) : FG LC RX1 120 2 j 1 (0, 0) := ⟨_, _, _, _, _, rfl, rfl, rfl, by decide, uw_X5, (in_wt 530 (by decide +kernel) (by decide +kernel))⟩
theorem fg_X1_15 : FG LC RX1 15 0 4 2 (1, 23) := ⟨_, _, _, _, _, rfl, rfl, rfl, by decide, uw_X1, (in_wt 239 (by decide +kernel) (by decide +kernel))⟩
theorem fg_X1_18 : FG LC RX1 18 0 4 3 (1, 24) := ⟨_, _, _, _, _, rfl, rfl, rfl, by decide, uw_X1, (in_wt 240 (by decide +kernel) (by decide +kernel))⟩
theorem fg_X1_24 : FG LC RX1 24 0 4 0 (1, 1) := ⟨_, _, _, _, _, rfl, rfl, rfl, by decide, uw_X1, (in_wt 237 (by decide +kernel) (by decide +kernel))⟩
theorem fg_X1_43 : FG LC RX1 43 0 4 6 (0, 0) := ⟨_, _, _, _, _, rfl, rfl, rfl, by decide, uw_X1, (in_wt 243 (by decide +kernel) (by decide +kernel))⟩
theorem fg_X1_46 : FG LC RX1 46 0 4 7 (0, 0) := ⟨_, _, _, _, _, rfl, rfl, rfl, by decide, uw_X1, (in_wt 244 (by decide +kernel) (by decide +kernel))⟩
theorem fg_X1_9 : FG LC RX1 9 0 4 1 (1, 22) := ⟨_, _, _, _, _, rfl, rfl, rfl, by decide, uw_X1, (in_wt 238 (by decide +kernel) (by decide +kernel))⟩
theorem fg_X1_97 (j : Nat) : FG LC RX1 97 2 j 8 (0, 0) := ⟨_, _, _, _, _, rfl, rfl, rfl, by decide, uw_X5, (in_wt 551 (by decide +kernel) (by decide +kernel))⟩
theorem fp_X1_43 : FP LC RX1 43 0 4 6 (0, 0) .int := ⟨_, _, _, _, _, tyX1, rfl, rfl, rfl, by decide, uw_X1, (in_wt 243 (by decide +kernel) (by decide +kernel)), tyX1_ok, nmX1, rfl, by decide +kernel⟩
theorem fp_X1_46 : FP LC RX1 46 0 4 7 (0, 0) .int := ⟨_, _, _, _, _, tyX1, rfl, rfl, rfl, by decide, uw_X1, (in_wt 244 (by decide +kernel) (by decide +kernel)), tyX1_ok, nmX1, rfl, by decide +kernel⟩
theorem jw_X1_102 : JW RX1 102 Lib.Math.max.name Lib.Math.max.code 2 := ⟨in_wt 869 (by decide +kernel) (by decide +kernel), in_wt 734 (by decide +kernel) (by decide +kernel), in_wt 94 (by decide +kernel) (by decide +kernel), in_wt 735 (by decide +kernel) (by decide +kernel)⟩
theorem ml_X1_108 : Cond.methodLink RX1 108 yX3_markAsOf ∈ wt := in_wt 870 (by decide +kernel) (by decide +kernel)
theorem ml_X1_112 : Cond.methodLink RX1 112 yX5_isVolunteer ∈ wt := in_wt 871 (by decide +kernel) (by decide +kernel)
theorem ml_X1_116 : Cond.methodLink RX1 116 yX3_isProtected ∈ wt := in_wt 875 (by decide +kernel) (by decide +kernel)
theorem ml_X1_91 : Cond.methodLink RX1 91 yX3_severanceOf ∈ wt := in_wt 868 (by decide +kernel) (by decide +kernel)
/-- PostsEnd$Chooser.private void gatherOne(int, PostsEnd$Person) -/
def p_Chooser_gatherOne (σ : St) (a1 : Int32) (a2 : Nat) : Option St := (if a1 < 0 then some σ else (if a1 < (12 : Int32) then (Option.bind (p_Firm_severanceOf σ a2) fun r1 => (Option.bind (ix 12 a1) fun i3 => (lt1 (sx σ 0 22 i3 (r1 + (if σ.1 2 a2 8 < (0 : Int32) then (0 : Int32) else σ.1 2 a2 8))) fun σ4 => (Option.bind (p_Firm_markAsOf σ4 a2 (σ4.1 0 1 0)) fun r5 => (Option.bind (ix 12 a1) fun i7 => (lt1 (sx σ4 0 23 i7 r5) fun σ8 => (Option.bind (p_Person_isVolunteer σ8 a2) fun r9 => (Option.bind (α := St) ((if r9 = 0 then (Option.bind (p_Firm_isProtected σ8 a2) fun r28 => (if r28 = 0 then some σ8 else (lt1 (sx σ8 0 4 6 ((σ8.1 0 4 6) ||| ((1 : Int32) <<< (a1 &&& 31)))) fun σ30 => some σ30))) else (lt1 (sx σ8 0 4 7 ((σ8.1 0 4 7) ||| ((1 : Int32) <<< (a1 &&& 31)))) fun σ31 => some σ31))) fun t11 => (Option.bind (itr0 (S := Int32 × St) (E := St) (fun s14 => (if s14.1 < (10 : Int32) then (Option.bind (α := St) ((if ((s14.2.1 2 a2 1) >>> (s14.1 &&& 31)) &&& (1 : Int32) = (1 : Int32) then (Option.bind (ix 10 s14.1) fun i25 => (Option.bind (ix 10 s14.1) fun i26 => (lt1 (sx s14.2 0 24 i26 ((s14.2.1 0 24 i25) ||| ((1 : Int32) <<< (a1 &&& 31)))) fun σ27 => some σ27))) else some s14.2)) fun t22 => some (.inl (s14.1 + (1 : Int32), t22))) else some (.inr s14.2))) FU ((0 : Int32), t11)) fun e19 => some e19))))))))) else some σ))
set_option maxRecDepth 20000 in
set_option maxHeartbeats 4000000 in
theorem w_p_Chooser_gatherOne (Θ : TT) (σ : St) (a1 : Int32) (a2 : Nat) (b2 : a2 < cN Θ 2) (C : CX Θ cX1_gatherOne RX1 none ({ frames := 4, cells := 0, slots := 0, locals := 93 } : Room) 5) : WA LC Θ (fun r : St => Qm LC Θ none r (True)) 0 [some (.ref (cF Θ 4)), some (.int a1), some (.ref (cAd Θ 2 a2)), none, none] [] σ (p_Chooser_gatherOne σ a1 a2) := by
  unfold p_Chooser_gatherOne
  refine r_iload_n C dX1_gatherOne_0 rfl ?_
  refine r_if_lt C 10 dX1_gatherOne_1 (by decide) ?_ ?_
  · exact r_vret C dX1_gatherOne_10 rfl rfl trivial
  · refine r_iload_n C dX1_gatherOne_4 rfl ?_
    refine r_bipush C (12 : Int32) dX1_gatherOne_5 (by decide) ?_
    refine r_icmp_lt C 11 dX1_gatherOne_7 (by decide) ?_ ?_
    · refine r_iconst C (1 : Int32) dX1_gatherOne_11 (by decide) ?_
      refine r_iload_n C dX1_gatherOne_12 rfl ?_
      refine r_ishl C dX1_gatherOne_13 ?_
      refine r_istore_n C [some (.ref (cF Θ 4)), some (.int a1), some (.ref (cAd Θ 2 a2)), some (.int ((1 : Int32) <<< (a1 &&& 31))), none] dX1_gatherOne_14 rfl (by decide) rfl ?_
      refine r_aload_n C dX1_gatherOne_15 rfl ?_
      refine r_getF0 C dX1_gatherOne_16 fg_X1_9 (by decide) ?_
      refine r_iload_n C dX1_gatherOne_19 rfl ?_
      refine r_aload_n C dX1_gatherOne_20 rfl ?_
      refine r_getF0 C dX1_gatherOne_21 fg_X1_24 (by decide) ?_
      refine r_aload_n C dX1_gatherOne_24 rfl ?_
      refine r_callV C (st := [.int a1, .ref (cF Θ 22)]) (As := [.ref (cAd Θ 2 a2)]) (d := 0) (j := 1) dX1_gatherOne_25 ml_X1_91 vw_X3_severanceOf ⟨_, _, _, _, rfl, rfl⟩ (dm0 (by decide)) (fun r1 e => c_p_Firm_severanceOf Θ.1.2.1 (cW Θ) (cAd Θ) (cN Θ) σ a2 b2 r1 e) rfl rfl (Nat.le_of_ble_eq_true rfl) ⟨rfl, rfl, by decide, by decide⟩ (fun r1 h2 => ?_)
      refine r_aload_n C dX1_gatherOne_28 rfl ?_
      refine r_getI C dX1_gatherOne_29 (fg_X1_97 _) (by decide) b2 ?_
      refine r_iconst C (0 : Int32) dX1_gatherOne_32 (by decide) ?_
      refine r_mmax C dX1_gatherOne_33 jw_X1_102 (by decide) (Nat.le_of_ble_eq_true rfl) ?_
      refine r_iadd C dX1_gatherOne_36 ?_
      refine r_iast C dX1_gatherOne_37 ag_LC_22 (fun i3 => ?_)
      refine WA.gen (fun σ4 => ?_)
      refine r_aload_n C dX1_gatherOne_38 rfl ?_
      refine r_getF0 C dX1_gatherOne_39 fg_X1_15 (by decide) ?_
      refine r_iload_n C dX1_gatherOne_42 rfl ?_
      refine r_aload_n C dX1_gatherOne_43 rfl ?_
      refine r_getF0 C dX1_gatherOne_44 fg_X1_24 (by decide) ?_
      refine r_aload_n C dX1_gatherOne_47 rfl ?_
      refine r_aload_n C dX1_gatherOne_48 rfl ?_
      refine r_getF0 C dX1_gatherOne_49 fg_X1_24 (by decide) ?_
      refine r_getI0 C dX1_gatherOne_52 fg_X1_105 (by decide) ?_
      refine r_callV C (st := [.int a1, .ref (cF Θ 23)]) (As := [.ref (cAd Θ 2 a2), .int (σ4.1 0 1 0)]) (d := 0) (j := 1) dX1_gatherOne_55 ml_X1_108 vw_X3_markAsOf ⟨_, _, _, _, rfl, rfl⟩ (dm0 (by decide)) (fun r5 e => c_p_Firm_markAsOf Θ.1.2.1 (cW Θ) (cAd Θ) (cN Θ) σ4 a2 (σ4.1 0 1 0) b2 r5 e) rfl rfl (Nat.le_of_ble_eq_true rfl) ⟨rfl, rfl, by decide, by decide⟩ (fun r5 h6 => ?_)
      refine r_iast C dX1_gatherOne_58 ag_LC_23 (fun i7 => ?_)
      refine WA.gen (fun σ8 => ?_)
      refine r_aload_n C dX1_gatherOne_59 rfl ?_
      refine r_callV C (st := []) (As := []) (d := 2) (j := a2) dX1_gatherOne_60 ml_X1_112 vw_X5_isVolunteer ⟨_, _, _, _, rfl, rfl⟩ (dmk (by decide) (by decide) b2) (fun r9 e => c_p_Person_isVolunteer Θ.1.2.1 (cW Θ) (cAd Θ) (cN Θ) σ8 a2 b2 r9 e) rfl rfl (Nat.le_of_ble_eq_true rfl) ⟨rfl, rfl, by decide, by decide⟩ (fun r9 h10 => ?_)
      refine WA.join (α := St) 100 (fun t11 => [some (.ref (cF Θ 4)), none, some (.ref (cAd Θ 2 a2)), some (.int ((1 : Int32) <<< (a1 &&& 31))), none]) (fun t11 => []) (fun t11 => t11) (fun t11 => True) (fun t11 h12 => ?_) (fun J13 => ?_)
      · refine r_iconst C (0 : Int32) dX1_gatherOne_100 (by decide) ?_
        refine r_istore C [some (.ref (cF Θ 4)), none, some (.ref (cAd Θ 2 a2)), some (.int ((1 : Int32) <<< (a1 &&& 31))), some (.int (0 : Int32))] dX1_gatherOne_101 rfl (by decide) rfl ?_
        refine WA.join (α := St) 140 (fun e19 => [none, none, none, none, none]) (fun e19 => []) (fun e19 => e19) (fun e19 => True) (fun e19 h20 => ?_) (fun J21 => ?_)
        · exact r_vret C dX1_gatherOne_140 rfl rfl trivial
        · refine WA.wk (lv' := [some (.ref (cF Θ 4)), none, some (.ref (cAd Θ 2 a2)), some (.int ((1 : Int32) <<< (a1 &&& 31))), some (.int (0 : Int32))]) [true, false, true, true, true] rfl ?_
          refine WA.itr (S := Int32 × St) 103 (fun s14 => [some (.ref (cF Θ 4)), none, some (.ref (cAd Θ 2 a2)), some (.int ((1 : Int32) <<< (a1 &&& 31))), some (.int s14.1)]) (fun s14 => []) (fun s14 => s14.2) (fun s14 => True) (fun s14 k18 h15 ih16 hx17 => ?_) FU ((0 : Int32), t11) trivial
          refine r_iload C dX1_gatherOne_103 rfl ?_
          refine r_bipush C (10 : Int32) dX1_gatherOne_105 (by decide) ?_
          refine WA.bif ?_
          refine r_icmp_ge C 140 dX1_gatherOne_107 (by decide) ?_ ?_
          · refine WA.wk (lv' := [none, none, none, none, none]) [false, false, false, false, false] rfl ?_
            exact WA.eqK (hx17 _) (J21 s14.2 trivial)
          · refine r_aload_n C dX1_gatherOne_110 rfl ?_
            refine r_getI C dX1_gatherOne_111 (fg_X1_120 _) (by decide) b2 ?_
            refine r_iload C dX1_gatherOne_114 rfl ?_
            refine r_ishr C dX1_gatherOne_116 ?_
            refine r_iconst C (1 : Int32) dX1_gatherOne_117 (by decide) ?_
            refine r_iand C dX1_gatherOne_118 ?_
            refine r_iconst C (1 : Int32) dX1_gatherOne_119 (by decide) ?_
            refine WA.asc ?_
            refine WA.join (α := St) 134 (fun t22 => [some (.ref (cF Θ 4)), none, some (.ref (cAd Θ 2 a2)), some (.int ((1 : Int32) <<< (a1 &&& 31))), some (.int s14.1)]) (fun t22 => []) (fun t22 => t22) (fun t22 => True) (fun t22 h23 => ?_) (fun J24 => ?_)
            · refine r_iinc C (1 : Int32) [some (.ref (cF Θ 4)), none, some (.ref (cAd Θ 2 a2)), some (.int ((1 : Int32) <<< (a1 &&& 31))), some (.int (s14.1 + (1 : Int32)))] dX1_gatherOne_134 (by decide) rfl rfl (by decide) rfl ?_
              refine r_goto C 103 dX1_gatherOne_137 (by decide) ?_
              refine WA.wk (lv' := [some (.ref (cF Θ 4)), none, some (.ref (cAd Θ 2 a2)), some (.int ((1 : Int32) <<< (a1 &&& 31))), some (.int (s14.1 + (1 : Int32)))]) [true, false, true, true, true] rfl ?_
              exact ih16 (s14.1 + (1 : Int32), t22) trivial
            · refine WA.bif ?_
              refine r_icmp_ne C 134 dX1_gatherOne_120 (by decide) ?_ ?_
              · refine WA.wk (lv' := [some (.ref (cF Θ 4)), none, some (.ref (cAd Θ 2 a2)), some (.int ((1 : Int32) <<< (a1 &&& 31))), some (.int s14.1)]) [true, false, true, true, true] rfl ?_
                exact J24 s14.2 trivial
              · refine r_aload_n C dX1_gatherOne_123 rfl ?_
                refine r_getF0 C dX1_gatherOne_124 fg_X1_18 (by decide) ?_
                refine r_iload C dX1_gatherOne_127 rfl ?_
                refine r_dup2 C dX1_gatherOne_129 rfl rfl ?_
                refine WA.asc ?_
                refine r_iald (α := Unit) C dX1_gatherOne_130 ag_LC_24 (fun i25 => ?_)
                refine r_iload_n C dX1_gatherOne_131 rfl ?_
                refine r_ior C dX1_gatherOne_132 ?_
                refine WA.asc ?_
                refine r_iast C dX1_gatherOne_133 ag_LC_24 (fun i26 => ?_)
                refine WA.genB (fun σ27 => ?_)
                refine WA.wk (lv' := [some (.ref (cF Θ 4)), none, some (.ref (cAd Θ 2 a2)), some (.int ((1 : Int32) <<< (a1 &&& 31))), some (.int s14.1)]) [true, false, true, true, true] rfl ?_
                exact J24 σ27 trivial
      · refine WA.bif ?_
        refine r_if_eq C 79 dX1_gatherOne_63 (by decide) ?_ ?_
        · refine r_aload_n C dX1_gatherOne_79 rfl ?_
          refine r_getF0 C dX1_gatherOne_80 fg_X1_24 (by decide) ?_
          refine r_aload_n C dX1_gatherOne_83 rfl ?_
          refine WA.asc ?_
          refine r_callV C (st := []) (As := [.ref (cAd Θ 2 a2)]) (d := 0) (j := 1) dX1_gatherOne_84 ml_X1_116 vw_X3_isProtected ⟨_, _, _, _, rfl, rfl⟩ (dm0 (by decide)) (fun r28 e => c_p_Firm_isProtected Θ.1.2.1 (cW Θ) (cAd Θ) (cN Θ) σ8 a2 b2 r28 e) rfl rfl (Nat.le_of_ble_eq_true rfl) ⟨rfl, rfl, by decide, by decide⟩ (fun r28 h29 => ?_)
          refine WA.bif ?_
          refine r_if_eq C 100 dX1_gatherOne_87 (by decide) ?_ ?_
          · refine WA.wk (lv' := [some (.ref (cF Θ 4)), none, some (.ref (cAd Θ 2 a2)), some (.int ((1 : Int32) <<< (a1 &&& 31))), none]) [true, false, true, true, false] rfl ?_
            exact J13 σ8 trivial
          · refine r_aload_n C dX1_gatherOne_90 rfl ?_
            refine r_dup C dX1_gatherOne_91 rfl ?_
            refine r_getI0 C dX1_gatherOne_92 fg_X1_43 (by decide) ?_
            refine r_iload_n C dX1_gatherOne_95 rfl ?_
            refine r_ior C dX1_gatherOne_96 ?_
            refine r_putI0 C dX1_gatherOne_97 fp_X1_43 (by decide) ?_
            refine WA.genB (fun σ30 => ?_)
            refine WA.wk (lv' := [some (.ref (cF Θ 4)), none, some (.ref (cAd Θ 2 a2)), some (.int ((1 : Int32) <<< (a1 &&& 31))), none]) [true, false, true, true, false] rfl ?_
            exact J13 σ30 trivial
        · refine r_aload_n C dX1_gatherOne_66 rfl ?_
          refine r_dup C dX1_gatherOne_67 rfl ?_
          refine r_getI0 C dX1_gatherOne_68 fg_X1_46 (by decide) ?_
          refine r_iload_n C dX1_gatherOne_71 rfl ?_
          refine r_ior C dX1_gatherOne_72 ?_
          refine r_putI0 C dX1_gatherOne_73 fp_X1_46 (by decide) ?_
          refine WA.genB (fun σ31 => ?_)
          refine r_goto C 100 dX1_gatherOne_76 (by decide) ?_
          refine WA.wk (lv' := [some (.ref (cF Θ 4)), none, some (.ref (cAd Θ 2 a2)), some (.int ((1 : Int32) <<< (a1 &&& 31))), none]) [true, false, true, true, false] rfl ?_
          exact J13 σ31 trivial
    · exact r_vret C dX1_gatherOne_10 rfl rfl trivial
theorem c_p_Chooser_gatherOne (l : Launch) (ω : Wd) (ad : Nat → Nat → Nat) (N : Nat → Nat) (σ : St) (a1 : Int32) (a2 : Nat) (b2 : a2 < N 2) : ∀ r : St, p_Chooser_gatherOne σ a1 a2 = some r → Ct l yX1_gatherOne cX1_gatherOne 5 none ({ frames := 4, cells := 0, slots := 0, locals := 93 } : Room) LC ω ad N [.ref (ω.2.1 4), .int a1, .ref (ad 2 a2)] σ none r (True) :=
  ct_of (o := fun r : St => none) (s' := fun r => r) (P := fun r => True) [some (.ref (ω.2.1 4)), some (.int a1), some (.ref (ad 2 a2)), none, none] (by decide) rfl (Nat.le_of_ble_eq_true rfl) (fun Γ C _ _ => w_p_Chooser_gatherOne (Γ, ω, 5, ad, N, 0, 0) σ a1 a2 b2 C)
theorem ag_LC_10 : AG LC 10 2 40 := ⟨by decide, rfl⟩
theorem fg_X3_17 : FG LC RX3 17 0 1 7 (1, 10) := ⟨_, _, _, _, _, rfl, rfl, rfl, by decide, uw_X3, (in_wt 136 (by decide +kernel) (by decide +kernel))⟩
theorem fg_X3_43 : FG LC RX3 43 0 1 2 (0, 0) := ⟨_, _, _, _, _, rfl, rfl, rfl, by decide, uw_X3, (in_wt 125 (by decide +kernel) (by decide +kernel))⟩
/-- PostsEnd$Firm.PostsEnd$Post postAt(int) -/
def p_Firm_postAt (σ : St) (a1 : Int32) : Option (Option Nat) := (if a1 < 0 then some none else (if a1 < σ.1 0 1 2 then (Option.bind (ix 40 a1) fun i3 => lt1 (σ.2 0 10 i3) fun x1 => some x1) else some none))
set_option maxRecDepth 20000 in
set_option maxHeartbeats 4000000 in
theorem w_p_Firm_postAt (Θ : TT) (σ : St) (a1 : Int32) (C : CX Θ cX3_postAt RX3 (some (.object "PostsEnd$Post")) ({ frames := 0, cells := 0, slots := 0, locals := 0 } : Room) 2) : WA LC Θ (fun r : Option Nat => Qm LC Θ (some (va_rf (Option.map (cAd Θ 1) r))) σ (∀ q, r = some q → q < cN Θ 1)) 0 [some (.ref (cF Θ 1)), some (.int a1)] [] σ (p_Firm_postAt σ a1) := by
  unfold p_Firm_postAt
  refine r_iload_n C dX3_postAt_0 rfl ?_
  refine r_if_lt C 21 dX3_postAt_1 (by decide) ?_ ?_
  · refine r_null C dX3_postAt_21 ?_
    exact r_aret C (x := Option.map (cAd Θ 1) none) dX3_postAt_22 rfl rfl (fun q e => nomatch e)
  · refine r_iload_n C dX3_postAt_4 rfl ?_
    refine r_aload_n C dX3_postAt_5 rfl ?_
    refine r_getI0 C dX3_postAt_6 fg_X3_43 (by decide) ?_
    refine r_icmp_ge C 21 dX3_postAt_9 (by decide) ?_ ?_
    · refine r_null C dX3_postAt_21 ?_
      exact r_aret C (x := Option.map (cAd Θ 1) none) dX3_postAt_22 rfl rfl (fun q e => nomatch e)
    · refine r_aload_n C dX3_postAt_12 rfl ?_
      refine r_getF0 C dX3_postAt_13 fg_X3_17 (by decide) ?_
      refine r_iload_n C dX3_postAt_16 rfl ?_
      refine r_aald C dX3_postAt_17 ag_LC_10 rfl (fun x1 h2 => ?_)
      refine r_goto C 22 dX3_postAt_18 (by decide) ?_
      exact r_aret C (x := Option.map (cAd Θ 1) x1) dX3_postAt_22 rfl rfl h2
theorem c_p_Firm_postAt (l : Launch) (ω : Wd) (ad : Nat → Nat → Nat) (N : Nat → Nat) (σ : St) (a1 : Int32) : ∀ r : Option Nat, p_Firm_postAt σ a1 = some r → Ct l yX3_postAt cX3_postAt 2 (some (.object "PostsEnd$Post")) ({ frames := 0, cells := 0, slots := 0, locals := 0 } : Room) LC ω ad N [.ref (ω.2.1 1), .int a1] σ (some (va_rf (Option.map (ad 1) r))) σ (∀ q, r = some q → q < N 1) :=
  ct_of (o := fun r : Option Nat => (some (va_rf (Option.map (ad 1) r)))) (s' := fun r => σ) (P := fun r => ∀ q, r = some q → q < N 1) [some (.ref (ω.2.1 1)), some (.int a1)] (by decide) rfl (Nat.le_of_ble_eq_true rfl) (fun Γ C _ _ => w_p_Firm_postAt (Γ, ω, 2, ad, N, 0, 0) σ a1 C)
theorem ag_LC_15 : AG LC 15 0 40 := ⟨by decide, rfl⟩
theorem fg_X6_65 (j : Nat) : FG LC RX6 65 1 j 0 (0, 0) := ⟨_, _, _, _, _, rfl, rfl, rfl, by decide, uw_X7, (in_wt 439 (by decide +kernel) (by decide +kernel))⟩
theorem fg_X6_9 : FG LC RX6 9 0 2 1 (1, 15) := ⟨_, _, _, _, _, rfl, rfl, rfl, by decide, uw_X6, (in_wt 180 (by decide +kernel) (by decide +kernel))⟩
/-- PostsEnd$Pools.int joinedAs(PostsEnd$Post) -/
def p_Pools_joinedAs (σ : St) (a1 : Nat) : Option Int32 := (if σ.1 1 a1 0 < 0 then some (-1 : Int32) else (if σ.1 1 a1 0 < (40 : Int32) then (Option.bind (ix 40 (σ.1 1 a1 0)) fun i1 => some (σ.1 0 15 i1)) else some (-1 : Int32)))
set_option maxRecDepth 20000 in
set_option maxHeartbeats 4000000 in
theorem w_p_Pools_joinedAs (Θ : TT) (σ : St) (a1 : Nat) (b1 : a1 < cN Θ 1) (C : CX Θ cX6_joinedAs RX6 (some .int) ({ frames := 0, cells := 0, slots := 0, locals := 0 } : Room) 3) : WA LC Θ (fun r : Int32 => Qm LC Θ (some (.int r)) σ (True)) 0 [some (.ref (cF Θ 2)), some (.ref (cAd Θ 1 a1)), none] [] σ (p_Pools_joinedAs σ a1) := by
  unfold p_Pools_joinedAs
  refine r_aload_n C dX6_joinedAs_0 rfl ?_
  refine r_getI C dX6_joinedAs_1 (fg_X6_65 _) (by decide) b1 ?_
  refine r_istore_n C [some (.ref (cF Θ 2)), some (.ref (cAd Θ 1 a1)), some (.int (σ.1 1 a1 0))] dX6_joinedAs_4 rfl (by decide) rfl ?_
  refine r_iload_n C dX6_joinedAs_5 rfl ?_
  refine r_if_lt C 24 dX6_joinedAs_6 (by decide) ?_ ?_
  · refine r_iconst C (-1 : Int32) dX6_joinedAs_24 (by decide) ?_
    exact r_iret C dX6_joinedAs_25 rfl rfl trivial
  · refine r_iload_n C dX6_joinedAs_9 rfl ?_
    refine r_bipush C (40 : Int32) dX6_joinedAs_10 (by decide) ?_
    refine r_icmp_ge C 24 dX6_joinedAs_12 (by decide) ?_ ?_
    · refine r_iconst C (-1 : Int32) dX6_joinedAs_24 (by decide) ?_
      exact r_iret C dX6_joinedAs_25 rfl rfl trivial
    · refine r_aload_n C dX6_joinedAs_15 rfl ?_
      refine r_getF0 C dX6_joinedAs_16 fg_X6_9 (by decide) ?_
      refine r_iload_n C dX6_joinedAs_19 rfl ?_
      refine r_iald (α := Unit) C dX6_joinedAs_20 ag_LC_15 (fun i1 => ?_)
      refine r_goto C 25 dX6_joinedAs_21 (by decide) ?_
      exact r_iret C dX6_joinedAs_25 rfl rfl trivial
theorem c_p_Pools_joinedAs (l : Launch) (ω : Wd) (ad : Nat → Nat → Nat) (N : Nat → Nat) (σ : St) (a1 : Nat) (b1 : a1 < N 1) : ∀ r : Int32, p_Pools_joinedAs σ a1 = some r → Ct l yX6_joinedAs cX6_joinedAs 3 (some .int) ({ frames := 0, cells := 0, slots := 0, locals := 0 } : Room) LC ω ad N [.ref (ω.2.1 2), .ref (ad 1 a1)] σ (some (.int r)) σ (True) :=
  ct_of (o := fun r : Int32 => (some (.int r))) (s' := fun r => σ) (P := fun r => True) [some (.ref (ω.2.1 2)), some (.ref (ad 1 a1)), none] (by decide) rfl (Nat.le_of_ble_eq_true rfl) (fun Γ C _ _ => w_p_Pools_joinedAs (Γ, ω, 3, ad, N, 0, 0) σ a1 b1 C)
theorem vw_X3_postAt : VW yX3_postAt cX3_postAt 2 (some (.object "PostsEnd$Post")) 1 := ⟨⟨(in_wt 81 (by decide +kernel) (by decide +kernel)), (in_wt 489 (by decide +kernel) (by decide +kernel)), by decide +kernel⟩, (in_wt 487 (by decide +kernel) (by decide +kernel)), (in_wt 488 (by decide +kernel) (by decide +kernel))⟩
theorem vw_X6_joinedAs : VW yX6_joinedAs cX6_joinedAs 3 (some .int) 1 := ⟨⟨(in_wt 82 (by decide +kernel) (by decide +kernel)), (in_wt 763 (by decide +kernel) (by decide +kernel)), by decide +kernel⟩, (in_wt 761 (by decide +kernel) (by decide +kernel)), (in_wt 762 (by decide +kernel) (by decide +kernel))⟩
theorem fg_X6_111 (j : Nat) : FG LC RX6 111 1 j 5 (0, 0) := ⟨_, _, _, _, _, rfl, rfl, rfl, by decide, uw_X7, (in_wt 455 (by decide +kernel) (by decide +kernel))⟩
theorem fg_X6_27 : FG LC RX6 27 0 2 0 (1, 1) := ⟨_, _, _, _, _, rfl, rfl, rfl, by decide, uw_X6, (in_wt 179 (by decide +kernel) (by decide +kernel))⟩
theorem fg_X6_41 : FG LC RX6 41 0 1 2 (0, 0) := ⟨_, _, _, _, _, rfl, rfl, rfl, by decide, uw_X3, (in_wt 124 (by decide +kernel) (by decide +kernel))⟩
theorem fg_X6_84 : FG LC RX6 84 0 2 4 (0, 0) := ⟨_, _, _, _, _, rfl, rfl, rfl, by decide, uw_X6, (in_wt 183 (by decide +kernel) (by decide +kernel))⟩
theorem ml_X6_46 : Cond.methodLink RX6 46 yX3_postAt ∈ wt := in_wt 755 (by decide +kernel) (by decide +kernel)
theorem ml_X6_58 : Cond.methodLink RX6 58 yX6_joinedAs ∈ wt := in_wt 760 (by decide +kernel) (by decide +kernel)
/-- PostsEnd$Pools.int wanted() -/
def p_Pools_wanted (σ : St) : Option Int32 := (Option.bind (itr0 (S := Int32 × Int32) (E := Int32) (fun s1 => (if s1.2 < σ.1 0 1 2 then (Option.bind (p_Firm_postAt σ s1.2) fun r9 => (Option.bind (α := Int32) ((Option.elim r9 (some s1.1) fun q14 => (Option.bind (p_Pools_joinedAs σ q14) fun r16 => (if r16 = σ.1 0 2 4 then some (s1.1 ||| (σ.1 1 q14 5)) else some s1.1)))) fun t11 => some (.inl (t11, s1.2 + (1 : Int32))))) else some (.inr s1.1))) FU ((0 : Int32), (0 : Int32))) fun e6 => some e6)
set_option maxRecDepth 20000 in
set_option maxHeartbeats 4000000 in
theorem w_p_Pools_wanted (Θ : TT) (σ : St)  (C : CX Θ cX6_wanted RX6 (some .int) ({ frames := 1, cells := 0, slots := 0, locals := 22 } : Room) 4) : WA LC Θ (fun r : Int32 => Qm LC Θ (some (.int r)) σ (True)) 0 [some (.ref (cF Θ 2)), none, none, none] [] σ (p_Pools_wanted σ) := by
  unfold p_Pools_wanted
  refine r_iconst C (0 : Int32) dX6_wanted_0 (by decide) ?_
  refine r_istore_n C [some (.ref (cF Θ 2)), some (.int (0 : Int32)), none, none] dX6_wanted_1 rfl (by decide) rfl ?_
  refine r_iconst C (0 : Int32) dX6_wanted_2 (by decide) ?_
  refine r_istore_n C [some (.ref (cF Θ 2)), some (.int (0 : Int32)), some (.int (0 : Int32)), none] dX6_wanted_3 rfl (by decide) rfl ?_
  refine WA.join (α := Int32) 53 (fun e6 => [none, some (.int e6), none, none]) (fun e6 => []) (fun e6 => σ) (fun e6 => True) (fun e6 h7 => ?_) (fun J8 => ?_)
  · refine r_iload_n C dX6_wanted_53 rfl ?_
    exact r_iret C dX6_wanted_54 rfl rfl trivial
  · refine WA.wk (lv' := [some (.ref (cF Θ 2)), some (.int (0 : Int32)), some (.int (0 : Int32)), none]) [true, true, true, false] rfl ?_
    refine WA.itr (S := Int32 × Int32) 4 (fun s1 => [some (.ref (cF Θ 2)), some (.int s1.1), some (.int s1.2), none]) (fun s1 => []) (fun s1 => σ) (fun s1 => True) (fun s1 k5 h2 ih3 hx4 => ?_) FU ((0 : Int32), (0 : Int32)) trivial
    refine r_iload_n C dX6_wanted_4 rfl ?_
    refine r_aload_n C dX6_wanted_5 rfl ?_
    refine r_getF0 C dX6_wanted_6 fg_X6_27 (by decide) ?_
    refine r_getI0 C dX6_wanted_9 fg_X6_41 (by decide) ?_
    refine WA.bif ?_
    refine r_icmp_ge C 53 dX6_wanted_12 (by decide) ?_ ?_
    · refine WA.wk (lv' := [none, some (.int s1.1), none, none]) [false, true, false, false] rfl ?_
      exact WA.eqK (hx4 _) (J8 s1.1 trivial)
    · refine r_aload_n C dX6_wanted_15 rfl ?_
      refine r_getF0 C dX6_wanted_16 fg_X6_27 (by decide) ?_
      refine r_iload_n C dX6_wanted_19 rfl ?_
      refine WA.asc ?_
      refine r_callV C (st := []) (As := [.int s1.2]) (d := 0) (j := 1) dX6_wanted_20 ml_X6_46 vw_X3_postAt ⟨_, _, _, _, rfl, rfl⟩ (dm0 (by decide)) (fun r9 e => c_p_Firm_postAt Θ.1.2.1 (cW Θ) (cAd Θ) (cN Θ) σ s1.2 r9 e) rfl rfl (Nat.le_of_ble_eq_true rfl) ⟨rfl, rfl, by decide, by decide⟩ (fun r9 h10 => ?_)
      refine r_astore_n C (x := Option.map (cAd Θ 1) r9) [some (.ref (cF Θ 2)), some (.int s1.1), some (.int s1.2), some (va_rf (Option.map (cAd Θ 1) r9))] dX6_wanted_23 rfl (by decide) rfl ?_
      refine r_aload_nQ C (x := Option.map (cAd Θ 1) r9) dX6_wanted_24 rfl ?_
      refine WA.asc ?_
      refine WA.join (α := Int32) 47 (fun t11 => [some (.ref (cF Θ 2)), some (.int t11), some (.int s1.2), none]) (fun t11 => []) (fun t11 => σ) (fun t11 => True) (fun t11 h12 => ?_) (fun J13 => ?_)
      · refine r_iinc C (1 : Int32) [some (.ref (cF Θ 2)), some (.int t11), some (.int (s1.2 + (1 : Int32))), none] dX6_wanted_47 (by decide) rfl rfl (by decide) rfl ?_
        refine r_goto C 4 dX6_wanted_50 (by decide) ?_
        refine WA.wk (lv' := [some (.ref (cF Θ 2)), some (.int t11), some (.int (s1.2 + (1 : Int32))), none]) [true, true, true, false] rfl ?_
        exact ih3 (t11, s1.2 + (1 : Int32)) trivial
      · refine WA.bel ?_
        rcases r9 with _ | q14
        · refine r_ifnullN C 47 dX6_wanted_25 (by decide) ?_
          refine WA.wk (lv' := [some (.ref (cF Θ 2)), some (.int s1.1), some (.int s1.2), none]) [true, true, true, false] rfl ?_
          exact J13 s1.1 trivial
        · have h15 := h10 q14 rfl
          refine r_ifnullS C dX6_wanted_25 ?_
          refine r_aload_n C dX6_wanted_28 rfl ?_
          refine r_aload_n C dX6_wanted_29 rfl ?_
          refine WA.asc ?_
          refine r_callV C (st := []) (As := [.ref (cAd Θ 1 q14)]) (d := 0) (j := 2) dX6_wanted_30 ml_X6_58 vw_X6_joinedAs ⟨_, _, _, _, rfl, rfl⟩ (dm0 (by decide)) (fun r16 e => c_p_Pools_joinedAs Θ.1.2.1 (cW Θ) (cAd Θ) (cN Θ) σ q14 h15 r16 e) rfl rfl (Nat.le_of_ble_eq_true rfl) ⟨rfl, rfl, by decide, by decide⟩ (fun r16 h17 => ?_)
          refine r_aload_n C dX6_wanted_33 rfl ?_
          refine r_getI0 C dX6_wanted_34 fg_X6_84 (by decide) ?_
          refine WA.bif ?_
          refine r_icmp_ne C 47 dX6_wanted_37 (by decide) ?_ ?_
          · refine WA.wk (lv' := [some (.ref (cF Θ 2)), some (.int s1.1), some (.int s1.2), none]) [true, true, true, false] rfl ?_
            exact J13 s1.1 trivial
          · refine r_iload_n C dX6_wanted_40 rfl ?_
            refine r_aload_n C dX6_wanted_41 rfl ?_
            refine r_getI C dX6_wanted_42 (fg_X6_111 _) (by decide) h15 ?_
            refine r_ior C dX6_wanted_45 ?_
            refine r_istore_n C [some (.ref (cF Θ 2)), some (.int (s1.1 ||| (σ.1 1 q14 5))), some (.int s1.2), some (.ref (cAd Θ 1 q14))] dX6_wanted_46 rfl (by decide) rfl ?_
            refine WA.wk (lv' := [some (.ref (cF Θ 2)), some (.int (s1.1 ||| (σ.1 1 q14 5))), some (.int s1.2), none]) [true, true, true, false] rfl ?_
            exact J13 (s1.1 ||| (σ.1 1 q14 5)) trivial
theorem c_p_Pools_wanted (l : Launch) (ω : Wd) (ad : Nat → Nat → Nat) (N : Nat → Nat) (σ : St)  : ∀ r : Int32, p_Pools_wanted σ = some r → Ct l yX6_wanted cX6_wanted 4 (some .int) ({ frames := 1, cells := 0, slots := 0, locals := 22 } : Room) LC ω ad N [.ref (ω.2.1 2)] σ (some (.int r)) σ (True) :=
  ct_of (o := fun r : Int32 => (some (.int r))) (s' := fun r => σ) (P := fun r => True) [some (.ref (ω.2.1 2)), none, none, none] (by decide) rfl (Nat.le_of_ble_eq_true rfl) (fun Γ C _ _ => w_p_Pools_wanted (Γ, ω, 4, ad, N, 0, 0) σ  C)
theorem ag_LC_25 : AG LC 25 0 10 := ⟨by decide, rfl⟩
theorem fg_X1_123 : FG LC RX1 123 0 1 11 (1, 14) := ⟨_, _, _, _, _, rfl, rfl, rfl, by decide, uw_X3, (in_wt 143 (by decide +kernel) (by decide +kernel))⟩
theorem fg_X1_21 : FG LC RX1 21 0 4 4 (1, 25) := ⟨_, _, _, _, _, rfl, rfl, rfl, by decide, uw_X1, (in_wt 241 (by decide +kernel) (by decide +kernel))⟩
theorem jw_X1_34 : JW RX1 34 Lib.Math.min.name Lib.Math.min.code 2 := ⟨in_wt 861 (by decide +kernel) (by decide +kernel), in_wt 741 (by decide +kernel) (by decide +kernel), in_wt 94 (by decide +kernel) (by decide +kernel), in_wt 742 (by decide +kernel) (by decide +kernel)⟩
theorem ml_X1_75 : Cond.methodLink RX1 75 yJ6_bitCount_0f7a4 ∈ wt := in_wt 884 (by decide +kernel) (by decide +kernel)
/-- PostsEnd$Chooser.private void gatherLeast(int) -/
def p_Chooser_gatherLeast (σ : St) (a1 : Int32) : Option St := (Option.bind (itr0 (S := Int32 × St) (E := St) (fun s1 => (if s1.1 < (10 : Int32) then (Option.bind (α := Int32) ((if (a1 >>> (s1.1 &&& 31)) &&& (1 : Int32) = (1 : Int32) then some (1 : Int32) else some (0 : Int32))) fun t9 => (Option.bind (α := Int32) ((if t9 = 0 then some (0 : Int32) else (Option.bind (ix 3 (1 : Int32)) fun i17 => (Option.bind (ix 10 s1.1) fun i18 => (Option.bind (j_Integer_bitCount (s1.2.1 0 24 i18)) fun r19 => some (if r19 < s1.2.1 0 14 i17 then r19 else s1.2.1 0 14 i17)))))) fun t12 => (Option.bind (ix 10 s1.1) fun i15 => (lt1 (sx s1.2 0 25 i15 t12) fun σ16 => some (.inl (s1.1 + (1 : Int32), σ16)))))) else some (.inr s1.2))) FU ((0 : Int32), σ)) fun e6 => some e6)
set_option maxRecDepth 20000 in
set_option maxHeartbeats 4000000 in
theorem w_p_Chooser_gatherLeast (Θ : TT) (σ : St) (a1 : Int32) (C : CX Θ cX1_gatherLeast RX1 none ({ frames := 1, cells := 0, slots := 0, locals := 21 } : Room) 4) : WA LC Θ (fun r : St => Qm LC Θ none r (True)) 0 [some (.ref (cF Θ 4)), some (.int a1), none, none] [] σ (p_Chooser_gatherLeast σ a1) := by
  unfold p_Chooser_gatherLeast
  refine r_iconst C (0 : Int32) dX1_gatherLeast_0 (by decide) ?_
  refine r_istore_n C [some (.ref (cF Θ 4)), some (.int a1), some (.int (0 : Int32)), none] dX1_gatherLeast_1 rfl (by decide) rfl ?_
  refine WA.join (α := St) 64 (fun e6 => [none, none, none, none]) (fun e6 => []) (fun e6 => e6) (fun e6 => True) (fun e6 h7 => ?_) (fun J8 => ?_)
  · exact r_vret C dX1_gatherLeast_64 rfl rfl trivial
  · refine WA.wk (lv' := [some (.ref (cF Θ 4)), some (.int a1), some (.int (0 : Int32)), none]) [true, true, true, false] rfl ?_
    refine WA.itr (S := Int32 × St) 2 (fun s1 => [some (.ref (cF Θ 4)), some (.int a1), some (.int s1.1), none]) (fun s1 => []) (fun s1 => s1.2) (fun s1 => True) (fun s1 k5 h2 ih3 hx4 => ?_) FU ((0 : Int32), σ) trivial
    refine r_iload_n C dX1_gatherLeast_2 rfl ?_
    refine r_bipush C (10 : Int32) dX1_gatherLeast_3 (by decide) ?_
    refine WA.bif ?_
    refine r_icmp_ge C 64 dX1_gatherLeast_5 (by decide) ?_ ?_
    · refine WA.wk (lv' := [none, none, none, none]) [false, false, false, false] rfl ?_
      exact WA.eqK (hx4 _) (J8 s1.2 trivial)
    · refine r_iload_n C dX1_gatherLeast_8 rfl ?_
      refine r_iload_n C dX1_gatherLeast_9 rfl ?_
      refine r_ishr C dX1_gatherLeast_10 ?_
      refine r_iconst C (1 : Int32) dX1_gatherLeast_11 (by decide) ?_
      refine r_iand C dX1_gatherLeast_12 ?_
      refine r_iconst C (1 : Int32) dX1_gatherLeast_13 (by decide) ?_
      refine WA.asc ?_
      refine WA.join (α := Int32) 22 (fun t9 => [some (.ref (cF Θ 4)), some (.int a1), some (.int s1.1), none]) (fun t9 => [.int t9]) (fun t9 => s1.2) (fun t9 => True) (fun t9 h10 => ?_) (fun J11 => ?_)
      · refine r_istore_n C [some (.ref (cF Θ 4)), some (.int a1), some (.int s1.1), some (.int t9)] dX1_gatherLeast_22 rfl (by decide) rfl ?_
        refine r_aload_n C dX1_gatherLeast_23 rfl ?_
        refine r_getF0 C dX1_gatherLeast_24 fg_X1_21 (by decide) ?_
        refine r_iload_n C dX1_gatherLeast_27 rfl ?_
        refine r_iload_n C dX1_gatherLeast_28 rfl ?_
        refine WA.asc ?_
        refine WA.join (α := Int32) 57 (fun t12 => [some (.ref (cF Θ 4)), some (.int a1), some (.int s1.1), none]) (fun t12 => [.int t12, .int s1.1, .ref (cF Θ 25)]) (fun t12 => s1.2) (fun t12 => True) (fun t12 h13 => ?_) (fun J14 => ?_)
        · refine WA.asc ?_
          refine r_iast C dX1_gatherLeast_57 ag_LC_25 (fun i15 => ?_)
          refine WA.genB (fun σ16 => ?_)
          refine r_iinc C (1 : Int32) [some (.ref (cF Θ 4)), some (.int a1), some (.int (s1.1 + (1 : Int32))), none] dX1_gatherLeast_58 (by decide) rfl rfl (by decide) rfl ?_
          refine r_goto C 2 dX1_gatherLeast_61 (by decide) ?_
          refine WA.wk (lv' := [some (.ref (cF Θ 4)), some (.int a1), some (.int (s1.1 + (1 : Int32))), none]) [true, true, true, false] rfl ?_
          exact ih3 (s1.1 + (1 : Int32), σ16) trivial
        · refine WA.bif ?_
          refine r_if_eq C 56 dX1_gatherLeast_29 (by decide) ?_ ?_
          · refine r_iconst C (0 : Int32) dX1_gatherLeast_56 (by decide) ?_
            refine WA.wk (lv' := [some (.ref (cF Θ 4)), some (.int a1), some (.int s1.1), none]) [true, true, true, false] rfl ?_
            exact J14 (0 : Int32) trivial
          · refine r_aload_n C dX1_gatherLeast_32 rfl ?_
            refine r_getF0 C dX1_gatherLeast_33 fg_X1_24 (by decide) ?_
            refine r_getF0 C dX1_gatherLeast_36 fg_X1_123 (by decide) ?_
            refine r_iconst C (1 : Int32) dX1_gatherLeast_39 (by decide) ?_
            refine WA.asc ?_
            refine r_iald (α := Unit) C dX1_gatherLeast_40 ag_LC_14 (fun i17 => ?_)
            refine r_aload_n C dX1_gatherLeast_41 rfl ?_
            refine r_getF0 C dX1_gatherLeast_42 fg_X1_18 (by decide) ?_
            refine r_iload_n C dX1_gatherLeast_45 rfl ?_
            refine WA.asc ?_
            refine r_iald (α := Unit) C dX1_gatherLeast_46 ag_LC_24 (fun i18 => ?_)
            refine WA.asc ?_
            refine r_callS C (st := [.int (s1.2.1 0 14 i17), .int s1.1, .ref (cF Θ 25)]) (As := [.int (s1.2.1 0 24 i18)]) dX1_gatherLeast_47 ml_X1_75 sw_J6_bitCount_0f7a4 (fun r19 e => c_j_Integer_bitCount Θ.1.2.1 (cW Θ) (cAd Θ) (cN Θ) s1.2 (s1.2.1 0 24 i18) r19 e) rfl rfl (Nat.le_of_ble_eq_true rfl) ⟨rfl, rfl, by decide, by decide⟩ (fun r19 h20 => ?_)
            refine r_mmin C dX1_gatherLeast_50 jw_X1_34 (by decide) (Nat.le_of_ble_eq_true rfl) ?_
            refine r_goto C 57 dX1_gatherLeast_53 (by decide) ?_
            refine WA.wk (lv' := [some (.ref (cF Θ 4)), some (.int a1), some (.int s1.1), none]) [true, true, true, false] rfl ?_
            exact J14 (if r19 < s1.2.1 0 14 i17 then r19 else s1.2.1 0 14 i17) trivial
      · refine WA.bif ?_
        refine r_icmp_ne C 21 dX1_gatherLeast_14 (by decide) ?_ ?_
        · refine r_iconst C (0 : Int32) dX1_gatherLeast_21 (by decide) ?_
          refine WA.wk (lv' := [some (.ref (cF Θ 4)), some (.int a1), some (.int s1.1), none]) [true, true, true, false] rfl ?_
          exact J11 (0 : Int32) trivial
        · refine r_iconst C (1 : Int32) dX1_gatherLeast_17 (by decide) ?_
          refine r_goto C 22 dX1_gatherLeast_18 (by decide) ?_
          refine WA.wk (lv' := [some (.ref (cF Θ 4)), some (.int a1), some (.int s1.1), none]) [true, true, true, false] rfl ?_
          exact J11 (1 : Int32) trivial
theorem c_p_Chooser_gatherLeast (l : Launch) (ω : Wd) (ad : Nat → Nat → Nat) (N : Nat → Nat) (σ : St) (a1 : Int32) : ∀ r : St, p_Chooser_gatherLeast σ a1 = some r → Ct l yX1_gatherLeast cX1_gatherLeast 4 none ({ frames := 1, cells := 0, slots := 0, locals := 21 } : Room) LC ω ad N [.ref (ω.2.1 4), .int a1] σ none r (True) :=
  ct_of (o := fun r : St => none) (s' := fun r => r) (P := fun r => True) [some (.ref (ω.2.1 4)), some (.int a1), none, none] (by decide) rfl (Nat.le_of_ble_eq_true rfl) (fun Γ C _ _ => w_p_Chooser_gatherLeast (Γ, ω, 4, ad, N, 0, 0) σ a1 C)
theorem vw_X1_gatherLeast : VW yX1_gatherLeast cX1_gatherLeast 4 none 1 := ⟨⟨(in_wt 84 (by decide +kernel) (by decide +kernel)), (in_wt 883 (by decide +kernel) (by decide +kernel)), by decide +kernel⟩, (in_wt 882 (by decide +kernel) (by decide +kernel)), (in_wt 10 (by decide +kernel) (by decide +kernel))⟩
theorem vw_X1_gatherOne : VW yX1_gatherOne cX1_gatherOne 5 none 2 := ⟨⟨(in_wt 84 (by decide +kernel) (by decide +kernel)), (in_wt 867 (by decide +kernel) (by decide +kernel)), by decide +kernel⟩, (in_wt 866 (by decide +kernel) (by decide +kernel)), (in_wt 9 (by decide +kernel) (by decide +kernel))⟩
theorem vw_X6_memberAt : VW yX6_memberAt cX6_memberAt 2 (some (.object "PostsEnd$Person")) 1 := ⟨⟨(in_wt 82 (by decide +kernel) (by decide +kernel)), (in_wt 819 (by decide +kernel) (by decide +kernel)), by decide +kernel⟩, (in_wt 817 (by decide +kernel) (by decide +kernel)), (in_wt 818 (by decide +kernel) (by decide +kernel))⟩
theorem vw_X6_wanted : VW yX6_wanted cX6_wanted 4 (some .int) 0 := ⟨⟨(in_wt 82 (by decide +kernel) (by decide +kernel)), (in_wt 879 (by decide +kernel) (by decide +kernel)), by decide +kernel⟩, (in_wt 877 (by decide +kernel) (by decide +kernel)), (in_wt 878 (by decide +kernel) (by decide +kernel))⟩
theorem sw_J7_fill_53178 : SW yJ7_fill_53178 cJ7_fill_53178 4 none 2 := ⟨⟨(in_wt 95 (by decide +kernel) (by decide +kernel)), (in_wt 754 (by decide +kernel) (by decide +kernel)), by decide +kernel⟩, (in_wt 753 (by decide +kernel) (by decide +kernel))⟩
theorem fg_X1_28 : FG LC RX1 28 0 2 6 (0, 0) := ⟨_, _, _, _, _, rfl, rfl, rfl, by decide, uw_X6, (in_wt 186 (by decide +kernel) (by decide +kernel))⟩
theorem fg_X1_40 : FG LC RX1 40 0 4 5 (0, 0) := ⟨_, _, _, _, _, rfl, rfl, rfl, by decide, uw_X1, (in_wt 242 (by decide +kernel) (by decide +kernel))⟩
theorem fp_X1_40 : FP LC RX1 40 0 4 5 (0, 0) .int := ⟨_, _, _, _, _, tyX1, rfl, rfl, rfl, by decide, uw_X1, (in_wt 242 (by decide +kernel) (by decide +kernel)), tyX1_ok, nmX1, rfl, by decide +kernel⟩
theorem ml_X1_49 : Cond.methodLink RX1 49 yJ7_fill_53178 ∈ wt := in_wt 862 (by decide +kernel) (by decide +kernel)
theorem ml_X1_55 : Cond.methodLink RX1 55 yX6_memberAt ∈ wt := in_wt 863 (by decide +kernel) (by decide +kernel)
theorem ml_X1_59 : Cond.methodLink RX1 59 yX1_gatherOne ∈ wt := in_wt 864 (by decide +kernel) (by decide +kernel)
theorem ml_X1_63 : Cond.methodLink RX1 63 yX6_wanted ∈ wt := in_wt 876 (by decide +kernel) (by decide +kernel)
theorem ml_X1_67 : Cond.methodLink RX1 67 yX1_gatherLeast ∈ wt := in_wt 880 (by decide +kernel) (by decide +kernel)
/-- PostsEnd$Chooser.void gather(PostsEnd$Pools) -/
def p_Chooser_gather (σ : St) : Option St := (lt1 (sx σ 0 4 5 (if (12 : Int32) < σ.1 0 2 6 then (12 : Int32) else σ.1 0 2 6)) fun σ1 => (lt1 (sx σ1 0 4 6 (0 : Int32)) fun σ2 => (lt1 (sx σ2 0 4 7 (0 : Int32)) fun σ3 => (Option.bind (j_Arrays_fill σ3 24 10 (0 : Int32)) fun r4 => (Option.bind (itr0 (S := Int32 × St) (E := St) (fun s6 => (if s6.1 < s6.2.1 0 4 5 then (Option.bind (p_Pools_memberAt s6.2 s6.1) fun r18 => (Option.bind (α := St) ((Option.elim r18 (some s6.2) fun q23 => (Option.bind (p_Chooser_gatherOne s6.2 s6.1 q23) fun r25 => some r25))) fun t20 => some (.inl (s6.1 + (1 : Int32), t20)))) else some (.inr s6.2))) FU ((0 : Int32), r4)) fun e11 => (Option.bind (p_Pools_wanted e11) fun r14 => (Option.bind (p_Chooser_gatherLeast e11 r14) fun r16 => some r16)))))))
set_option maxRecDepth 20000 in
set_option maxHeartbeats 4000000 in
theorem w_p_Chooser_gather (Θ : TT) (σ : St)  (C : CX Θ cX1_gather RX1 none ({ frames := 5, cells := 0, slots := 0, locals := 117 } : Room) 4) : WA LC Θ (fun r : St => Qm LC Θ none r (True)) 0 [some (.ref (cF Θ 4)), some (.ref (cF Θ 2)), none, none] [] σ (p_Chooser_gather σ) := by
  unfold p_Chooser_gather
  refine r_aload_n C dX1_gather_0 rfl ?_
  refine r_aload_n C dX1_gather_1 rfl ?_
  refine r_getI0 C dX1_gather_2 fg_X1_28 (by decide) ?_
  refine r_bipush C (12 : Int32) dX1_gather_5 (by decide) ?_
  refine r_mmin C dX1_gather_7 jw_X1_34 (by decide) (Nat.le_of_ble_eq_true rfl) ?_
  refine r_putI0 C dX1_gather_10 fp_X1_40 (by decide) ?_
  refine WA.gen (fun σ1 => ?_)
  refine r_aload_n C dX1_gather_13 rfl ?_
  refine r_iconst C (0 : Int32) dX1_gather_14 (by decide) ?_
  refine r_putI0 C dX1_gather_15 fp_X1_43 (by decide) ?_
  refine WA.gen (fun σ2 => ?_)
  refine r_aload_n C dX1_gather_18 rfl ?_
  refine r_iconst C (0 : Int32) dX1_gather_19 (by decide) ?_
  refine r_putI0 C dX1_gather_20 fp_X1_46 (by decide) ?_
  refine WA.gen (fun σ3 => ?_)
  refine r_aload_n C dX1_gather_23 rfl ?_
  refine r_getF0 C dX1_gather_24 fg_X1_18 (by decide) ?_
  refine r_iconst C (0 : Int32) dX1_gather_27 (by decide) ?_
  refine r_callS C (st := []) (As := [.ref (cF Θ 24), .int (0 : Int32)]) dX1_gather_28 ml_X1_49 sw_J7_fill_53178 (fun r4 e => c_j_Arrays_fill Θ.1.2.1 (cW Θ) (cAd Θ) (cN Θ) σ3 24 10 (0 : Int32) ag_LC_24 r4 e) rfl rfl (Nat.le_of_ble_eq_true rfl) ⟨rfl, rfl, by decide, by decide⟩ (fun r4 h5 => ?_)
  refine r_iconst C (0 : Int32) dX1_gather_31 (by decide) ?_
  refine r_istore_n C [some (.ref (cF Θ 4)), some (.ref (cF Θ 2)), some (.int (0 : Int32)), none] dX1_gather_32 rfl (by decide) rfl ?_
  refine WA.join (α := St) 63 (fun e11 => [some (.ref (cF Θ 4)), some (.ref (cF Θ 2)), none, none]) (fun e11 => []) (fun e11 => e11) (fun e11 => True) (fun e11 h12 => ?_) (fun J13 => ?_)
  · refine r_aload_n C dX1_gather_63 rfl ?_
    refine r_aload_n C dX1_gather_64 rfl ?_
    refine r_callV C (st := [.ref (cF Θ 4)]) (As := []) (d := 0) (j := 2) dX1_gather_65 ml_X1_63 vw_X6_wanted ⟨_, _, _, _, rfl, rfl⟩ (dm0 (by decide)) (fun r14 e => c_p_Pools_wanted Θ.1.2.1 (cW Θ) (cAd Θ) (cN Θ) e11 r14 e) rfl rfl (Nat.le_of_ble_eq_true rfl) ⟨rfl, rfl, by decide, by decide⟩ (fun r14 h15 => ?_)
    refine r_callV C (st := []) (As := [.int r14]) (d := 0) (j := 4) dX1_gather_68 ml_X1_67 vw_X1_gatherLeast ⟨_, _, _, _, rfl, rfl⟩ (dm0 (by decide)) (fun r16 e => c_p_Chooser_gatherLeast Θ.1.2.1 (cW Θ) (cAd Θ) (cN Θ) e11 r14 r16 e) rfl rfl (Nat.le_of_ble_eq_true rfl) ⟨rfl, rfl, by decide, by decide⟩ (fun r16 h17 => ?_)
    exact r_vret C dX1_gather_71 rfl rfl trivial
  · refine WA.wk (lv' := [some (.ref (cF Θ 4)), some (.ref (cF Θ 2)), some (.int (0 : Int32)), none]) [true, true, true, false] rfl ?_
    refine WA.itr (S := Int32 × St) 33 (fun s6 => [some (.ref (cF Θ 4)), some (.ref (cF Θ 2)), some (.int s6.1), none]) (fun s6 => []) (fun s6 => s6.2) (fun s6 => True) (fun s6 k10 h7 ih8 hx9 => ?_) FU ((0 : Int32), r4) trivial
    refine r_iload_n C dX1_gather_33 rfl ?_
    refine r_aload_n C dX1_gather_34 rfl ?_
    refine r_getI0 C dX1_gather_35 fg_X1_40 (by decide) ?_
    refine WA.bif ?_
    refine r_icmp_ge C 63 dX1_gather_38 (by decide) ?_ ?_
    · refine WA.wk (lv' := [some (.ref (cF Θ 4)), some (.ref (cF Θ 2)), none, none]) [true, true, false, false] rfl ?_
      exact WA.eqK (hx9 _) (J13 s6.2 trivial)
    · refine r_aload_n C dX1_gather_41 rfl ?_
      refine r_iload_n C dX1_gather_42 rfl ?_
      refine WA.asc ?_
      refine r_callV C (st := []) (As := [.int s6.1]) (d := 0) (j := 2) dX1_gather_43 ml_X1_55 vw_X6_memberAt ⟨_, _, _, _, rfl, rfl⟩ (dm0 (by decide)) (fun r18 e => c_p_Pools_memberAt Θ.1.2.1 (cW Θ) (cAd Θ) (cN Θ) s6.2 s6.1 r18 e) rfl rfl (Nat.le_of_ble_eq_true rfl) ⟨rfl, rfl, by decide, by decide⟩ (fun r18 h19 => ?_)
      refine r_astore_n C (x := Option.map (cAd Θ 2) r18) [some (.ref (cF Θ 4)), some (.ref (cF Θ 2)), some (.int s6.1), some (va_rf (Option.map (cAd Θ 2) r18))] dX1_gather_46 rfl (by decide) rfl ?_
      refine r_aload_nQ C (x := Option.map (cAd Θ 2) r18) dX1_gather_47 rfl ?_
      refine WA.asc ?_
      refine WA.join (α := St) 57 (fun t20 => [some (.ref (cF Θ 4)), some (.ref (cF Θ 2)), some (.int s6.1), none]) (fun t20 => []) (fun t20 => t20) (fun t20 => True) (fun t20 h21 => ?_) (fun J22 => ?_)
      · refine r_iinc C (1 : Int32) [some (.ref (cF Θ 4)), some (.ref (cF Θ 2)), some (.int (s6.1 + (1 : Int32))), none] dX1_gather_57 (by decide) rfl rfl (by decide) rfl ?_
        refine r_goto C 33 dX1_gather_60 (by decide) ?_
        refine WA.wk (lv' := [some (.ref (cF Θ 4)), some (.ref (cF Θ 2)), some (.int (s6.1 + (1 : Int32))), none]) [true, true, true, false] rfl ?_
        exact ih8 (s6.1 + (1 : Int32), t20) trivial
      · refine WA.bel ?_
        rcases r18 with _ | q23
        · refine r_ifnullN C 57 dX1_gather_48 (by decide) ?_
          refine WA.wk (lv' := [some (.ref (cF Θ 4)), some (.ref (cF Θ 2)), some (.int s6.1), none]) [true, true, true, false] rfl ?_
          exact J22 s6.2 trivial
        · have h24 := h19 q23 rfl
          refine r_ifnullS C dX1_gather_48 ?_
          refine r_aload_n C dX1_gather_51 rfl ?_
          refine r_iload_n C dX1_gather_52 rfl ?_
          refine r_aload_n C dX1_gather_53 rfl ?_
          refine WA.asc ?_
          refine r_callV C (st := []) (As := [.int s6.1, .ref (cAd Θ 2 q23)]) (d := 0) (j := 4) dX1_gather_54 ml_X1_59 vw_X1_gatherOne ⟨_, _, _, _, rfl, rfl⟩ (dm0 (by decide)) (fun r25 e => c_p_Chooser_gatherOne Θ.1.2.1 (cW Θ) (cAd Θ) (cN Θ) s6.2 s6.1 q23 h24 r25 e) rfl rfl (Nat.le_of_ble_eq_true rfl) ⟨rfl, rfl, by decide, by decide⟩ (fun r25 h26 => ?_)
          refine WA.wk (lv' := [some (.ref (cF Θ 4)), some (.ref (cF Θ 2)), some (.int s6.1), none]) [true, true, true, false] rfl ?_
          exact J22 r25 trivial
theorem c_p_Chooser_gather (l : Launch) (ω : Wd) (ad : Nat → Nat → Nat) (N : Nat → Nat) (σ : St)  : ∀ r : St, p_Chooser_gather σ = some r → Ct l yX1_gather cX1_gather 4 none ({ frames := 5, cells := 0, slots := 0, locals := 117 } : Room) LC ω ad N [.ref (ω.2.1 4), .ref (ω.2.1 2)] σ none r (True) :=
  ct_of (o := fun r : St => none) (s' := fun r => r) (P := fun r => True) [some (.ref (ω.2.1 4)), some (.ref (ω.2.1 2)), none, none] (by decide) rfl (Nat.le_of_ble_eq_true rfl) (fun Γ C _ _ => w_p_Chooser_gather (Γ, ω, 4, ad, N, 0, 0) σ  C)
/-- PostsEnd$Chooser.private boolean keepsSkills(int) -/
def p_Chooser_keepsSkills (σ : St) (a1 : Int32) : Option Int32 := (Option.bind (itr0 (S := Int32) (E := ((Unit) ⊕ (Int32))) (fun s1 => (if s1 < (10 : Int32) then (Option.bind (ix 10 s1) fun i9 => (Option.bind (j_Integer_bitCount ((σ.1 0 24 i9) &&& (a1 ^^^ (-1 : Int32)))) fun r10 => (Option.bind (ix 10 s1) fun i12 => (if r10 < σ.1 0 25 i12 then some (.inr (.inr (0 : Int32))) else some (.inl (s1 + (1 : Int32))))))) else some (.inr (.inl ())))) FU (0 : Int32)) (Sum.elim (fun e6 => some (1 : Int32)) some))
set_option maxRecDepth 20000 in
set_option maxHeartbeats 4000000 in
theorem w_p_Chooser_keepsSkills (Θ : TT) (σ : St) (a1 : Int32) (C : CX Θ cX1_keepsSkills RX1 (some .boolean) ({ frames := 1, cells := 0, slots := 0, locals := 20 } : Room) 3) : WA LC Θ (fun r : Int32 => Qm LC Θ (some (.int r)) σ (narrow .boolean (.int r) = .int r)) 0 [some (.ref (cF Θ 4)), some (.int a1), none] [] σ (p_Chooser_keepsSkills σ a1) := by
  unfold p_Chooser_keepsSkills
  refine r_iconst C (0 : Int32) dX1_keepsSkills_0 (by decide) ?_
  refine r_istore_n C [some (.ref (cF Θ 4)), some (.int a1), some (.int (0 : Int32))] dX1_keepsSkills_1 rfl (by decide) rfl ?_
  refine WA.joinL (α := Unit) 38 (fun e6 => [none, none, none]) (fun e6 => []) (fun e6 => σ) (fun e6 => True) (fun e6 h7 => ?_) (fun J8 => ?_)
  · refine WA.sml ?_
    refine r_iconst C (1 : Int32) dX1_keepsSkills_38 (by decide) ?_
    exact r_zret C dX1_keepsSkills_39 (show narrow .boolean (.int (1 : Int32)) = .int (1 : Int32) from rfl) rfl rfl (show narrow .boolean (.int (1 : Int32)) = .int (1 : Int32) from rfl)
  · refine WA.wk (lv' := [some (.ref (cF Θ 4)), some (.int a1), some (.int (0 : Int32))]) [true, true, true] rfl ?_
    refine WA.itr (S := Int32) 2 (fun s1 => [some (.ref (cF Θ 4)), some (.int a1), some (.int s1)]) (fun s1 => []) (fun s1 => σ) (fun s1 => True) (fun s1 k5 h2 ih3 hx4 => ?_) FU (0 : Int32) trivial
    refine r_iload_n C dX1_keepsSkills_2 rfl ?_
    refine r_bipush C (10 : Int32) dX1_keepsSkills_3 (by decide) ?_
    refine WA.bif ?_
    refine r_icmp_ge C 38 dX1_keepsSkills_5 (by decide) ?_ ?_
    · refine WA.wk (lv' := [none, none, none]) [false, false, false] rfl ?_
      exact WA.eqK (hx4 _) (J8 () trivial)
    · refine r_aload_n C dX1_keepsSkills_8 rfl ?_
      refine r_getF0 C dX1_keepsSkills_9 fg_X1_18 (by decide) ?_
      refine r_iload_n C dX1_keepsSkills_12 rfl ?_
      refine WA.asc ?_
      refine r_iald (α := Unit) C dX1_keepsSkills_13 ag_LC_24 (fun i9 => ?_)
      refine r_iload_n C dX1_keepsSkills_14 rfl ?_
      refine r_iconst C (-1 : Int32) dX1_keepsSkills_15 (by decide) ?_
      refine r_ixor C dX1_keepsSkills_16 ?_
      refine r_iand C dX1_keepsSkills_17 ?_
      refine WA.asc ?_
      refine r_callS C (st := []) (As := [.int ((σ.1 0 24 i9) &&& (a1 ^^^ (-1 : Int32)))]) dX1_keepsSkills_18 ml_X1_75 sw_J6_bitCount_0f7a4 (fun r10 e => c_j_Integer_bitCount Θ.1.2.1 (cW Θ) (cAd Θ) (cN Θ) σ ((σ.1 0 24 i9) &&& (a1 ^^^ (-1 : Int32))) r10 e) rfl rfl (Nat.le_of_ble_eq_true rfl) ⟨rfl, rfl, by decide, by decide⟩ (fun r10 h11 => ?_)
      refine r_aload_n C dX1_keepsSkills_21 rfl ?_
      refine r_getF0 C dX1_keepsSkills_22 fg_X1_21 (by decide) ?_
      refine r_iload_n C dX1_keepsSkills_25 rfl ?_
      refine WA.asc ?_
      refine r_iald (α := Unit) C dX1_keepsSkills_26 ag_LC_25 (fun i12 => ?_)
      refine WA.bif ?_
      refine r_icmp_ge C 32 dX1_keepsSkills_27 (by decide) ?_ ?_
      · refine r_iinc C (1 : Int32) [some (.ref (cF Θ 4)), some (.int a1), some (.int (s1 + (1 : Int32)))] dX1_keepsSkills_32 (by decide) rfl rfl (by decide) rfl ?_
        refine r_goto C 2 dX1_keepsSkills_35 (by decide) ?_
        refine WA.wk (lv' := [some (.ref (cF Θ 4)), some (.int a1), some (.int (s1 + (1 : Int32)))]) [true, true, true] rfl ?_
        exact ih3 (s1 + (1 : Int32)) trivial
      · refine r_iconst C (0 : Int32) dX1_keepsSkills_30 (by decide) ?_
        refine WA.eqK (hx4 _) ?_
        exact r_zret C dX1_keepsSkills_31 (show narrow .boolean (.int (0 : Int32)) = .int (0 : Int32) from rfl) rfl rfl (show narrow .boolean (.int (0 : Int32)) = .int (0 : Int32) from rfl)
theorem c_p_Chooser_keepsSkills (l : Launch) (ω : Wd) (ad : Nat → Nat → Nat) (N : Nat → Nat) (σ : St) (a1 : Int32) : ∀ r : Int32, p_Chooser_keepsSkills σ a1 = some r → Ct l yX1_keepsSkills cX1_keepsSkills 3 (some .boolean) ({ frames := 1, cells := 0, slots := 0, locals := 20 } : Room) LC ω ad N [.ref (ω.2.1 4), .int a1] σ (some (.int r)) σ (narrow .boolean (.int r) = .int r) :=
  ct_of (o := fun r : Int32 => (some (.int r))) (s' := fun r => σ) (P := fun r => narrow .boolean (.int r) = .int r) [some (.ref (ω.2.1 4)), some (.int a1), none] (by decide) rfl (Nat.le_of_ble_eq_true rfl) (fun Γ C _ _ => w_p_Chooser_keepsSkills (Γ, ω, 3, ad, N, 0, 0) σ a1 C)
/-- PostsEnd$Chooser.private int together(int[], int) -/
def p_Chooser_together (σ : St) (a1 : Nat) (a2 : Int32) : Option Int32 := (Option.bind (itr0 (S := Int32 × Int32) (E := Int32) (fun s1 => (if s1.2 < σ.1 0 4 5 then (if s1.2 < (12 : Int32) then (Option.bind (α := Int32) ((if (a2 >>> (s1.2 &&& 31)) &&& (1 : Int32) = (1 : Int32) then (Option.bind (ix 12 s1.2) fun i12 => some (s1.1 + (σ.1 0 a1 i12))) else some s1.1)) fun t9 => some (.inl (t9, s1.2 + (1 : Int32)))) else some (.inr s1.1)) else some (.inr s1.1))) FU ((0 : Int32), (0 : Int32))) fun e6 => some e6)
set_option maxRecDepth 20000 in
set_option maxHeartbeats 4000000 in
theorem w_p_Chooser_together (Θ : TT) (σ : St) (a1 : Nat) (a2 : Int32) (b1 : AG LC a1 0 12) (C : CX Θ cX1_together RX1 (some .int) ({ frames := 0, cells := 0, slots := 0, locals := 0 } : Room) 5) : WA LC Θ (fun r : Int32 => Qm LC Θ (some (.int r)) σ (True)) 0 [some (.ref (cF Θ 4)), some (.ref (cF Θ a1)), some (.int a2), none, none] [] σ (p_Chooser_together σ a1 a2) := by
  unfold p_Chooser_together
  refine r_iconst C (0 : Int32) dX1_together_0 (by decide) ?_
  refine r_istore_n C [some (.ref (cF Θ 4)), some (.ref (cF Θ a1)), some (.int a2), some (.int (0 : Int32)), none] dX1_together_1 rfl (by decide) rfl ?_
  refine r_iconst C (0 : Int32) dX1_together_2 (by decide) ?_
  refine r_istore C [some (.ref (cF Θ 4)), some (.ref (cF Θ a1)), some (.int a2), some (.int (0 : Int32)), some (.int (0 : Int32))] dX1_together_3 rfl (by decide) rfl ?_
  refine WA.join (α := Int32) 44 (fun e6 => [none, none, none, some (.int e6), none]) (fun e6 => []) (fun e6 => σ) (fun e6 => True) (fun e6 h7 => ?_) (fun J8 => ?_)
  · refine r_iload_n C dX1_together_44 rfl ?_
    exact r_iret C dX1_together_45 rfl rfl trivial
  · refine WA.wk (lv' := [some (.ref (cF Θ 4)), some (.ref (cF Θ a1)), some (.int a2), some (.int (0 : Int32)), some (.int (0 : Int32))]) [true, true, true, true, true] rfl ?_
    refine WA.itr (S := Int32 × Int32) 5 (fun s1 => [some (.ref (cF Θ 4)), some (.ref (cF Θ a1)), some (.int a2), some (.int s1.1), some (.int s1.2)]) (fun s1 => []) (fun s1 => σ) (fun s1 => True) (fun s1 k5 h2 ih3 hx4 => ?_) FU ((0 : Int32), (0 : Int32)) trivial
    refine r_iload C dX1_together_5 rfl ?_
    refine r_aload_n C dX1_together_7 rfl ?_
    refine r_getI0 C dX1_together_8 fg_X1_40 (by decide) ?_
    refine WA.bif ?_
    refine r_icmp_ge C 44 dX1_together_11 (by decide) ?_ ?_
    · refine WA.wk (lv' := [none, none, none, some (.int s1.1), none]) [false, false, false, true, false] rfl ?_
      exact WA.eqK (hx4 _) (J8 s1.1 trivial)
    · refine r_iload C dX1_together_14 rfl ?_
      refine r_aload_n C dX1_together_16 rfl ?_
      refine r_alen C (12 : Int32) dX1_together_17 b1 rfl ?_
      refine WA.bif ?_
      refine r_icmp_ge C 44 dX1_together_18 (by decide) ?_ ?_
      · refine WA.wk (lv' := [none, none, none, some (.int s1.1), none]) [false, false, false, true, false] rfl ?_
        exact WA.eqK (hx4 _) (J8 s1.1 trivial)
      · refine r_iload_n C dX1_together_21 rfl ?_
        refine r_iload C dX1_together_22 rfl ?_
        refine r_ishr C dX1_together_24 ?_
        refine r_iconst C (1 : Int32) dX1_together_25 (by decide) ?_
        refine r_iand C dX1_together_26 ?_
        refine r_iconst C (1 : Int32) dX1_together_27 (by decide) ?_
        refine WA.asc ?_
        refine WA.join (α := Int32) 38 (fun t9 => [some (.ref (cF Θ 4)), some (.ref (cF Θ a1)), some (.int a2), some (.int t9), some (.int s1.2)]) (fun t9 => []) (fun t9 => σ) (fun t9 => True) (fun t9 h10 => ?_) (fun J11 => ?_)
        · refine r_iinc C (1 : Int32) [some (.ref (cF Θ 4)), some (.ref (cF Θ a1)), some (.int a2), some (.int t9), some (.int (s1.2 + (1 : Int32)))] dX1_together_38 (by decide) rfl rfl (by decide) rfl ?_
          refine r_goto C 5 dX1_together_41 (by decide) ?_
          refine WA.wk (lv' := [some (.ref (cF Θ 4)), some (.ref (cF Θ a1)), some (.int a2), some (.int t9), some (.int (s1.2 + (1 : Int32)))]) [true, true, true, true, true] rfl ?_
          exact ih3 (t9, s1.2 + (1 : Int32)) trivial
        · refine WA.bif ?_
          refine r_icmp_ne C 38 dX1_together_28 (by decide) ?_ ?_
          · refine WA.wk (lv' := [some (.ref (cF Θ 4)), some (.ref (cF Θ a1)), some (.int a2), some (.int s1.1), some (.int s1.2)]) [true, true, true, true, true] rfl ?_
            exact J11 s1.1 trivial
          · refine r_iload_n C dX1_together_31 rfl ?_
            refine r_aload_n C dX1_together_32 rfl ?_
            refine r_iload C dX1_together_33 rfl ?_
            refine WA.asc ?_
            refine r_iald (α := Unit) C dX1_together_35 b1 (fun i12 => ?_)
            refine r_iadd C dX1_together_36 ?_
            refine r_istore_n C [some (.ref (cF Θ 4)), some (.ref (cF Θ a1)), some (.int a2), some (.int (s1.1 + (σ.1 0 a1 i12))), some (.int s1.2)] dX1_together_37 rfl (by decide) rfl ?_
            refine WA.wk (lv' := [some (.ref (cF Θ 4)), some (.ref (cF Θ a1)), some (.int a2), some (.int (s1.1 + (σ.1 0 a1 i12))), some (.int s1.2)]) [true, true, true, true, true] rfl ?_
            exact J11 (s1.1 + (σ.1 0 a1 i12)) trivial
theorem c_p_Chooser_together (l : Launch) (ω : Wd) (ad : Nat → Nat → Nat) (N : Nat → Nat) (σ : St) (a1 : Nat) (a2 : Int32) (b1 : AG LC a1 0 12) : ∀ r : Int32, p_Chooser_together σ a1 a2 = some r → Ct l yX1_together cX1_together 5 (some .int) ({ frames := 0, cells := 0, slots := 0, locals := 0 } : Room) LC ω ad N [.ref (ω.2.1 4), .ref (ω.2.1 a1), .int a2] σ (some (.int r)) σ (True) :=
  ct_of (o := fun r : Int32 => (some (.int r))) (s' := fun r => σ) (P := fun r => True) [some (.ref (ω.2.1 4)), some (.ref (ω.2.1 a1)), some (.int a2), none, none] (by decide) rfl (Nat.le_of_ble_eq_true rfl) (fun Γ C _ _ => w_p_Chooser_together (Γ, ω, 5, ad, N, 0, 0) σ a1 a2 b1 C)
theorem vw_X1_together : VW yX1_together cX1_together 5 (some .int) 2 := ⟨⟨(in_wt 84 (by decide +kernel) (by decide +kernel)), (in_wt 900 (by decide +kernel) (by decide +kernel)), by decide +kernel⟩, (in_wt 899 (by decide +kernel) (by decide +kernel)), (in_wt 13 (by decide +kernel) (by decide +kernel))⟩
theorem fg_X1_126 : FG LC RX1 126 0 4 11 (0, 0) := ⟨_, _, _, _, _, rfl, rfl, rfl, by decide, uw_X1, (in_wt 249 (by decide +kernel) (by decide +kernel))⟩
theorem fg_X1_133 : FG LC RX1 133 0 4 12 (0, 0) := ⟨_, _, _, _, _, rfl, rfl, rfl, by decide, uw_X1, (in_wt 251 (by decide +kernel) (by decide +kernel))⟩
theorem fg_X1_136 : FG LC RX1 136 0 4 9 (0, 0) := ⟨_, _, _, _, _, rfl, rfl, rfl, by decide, uw_X1, (in_wt 246 (by decide +kernel) (by decide +kernel))⟩
theorem fg_X1_71 : FG LC RX1 71 0 4 10 (0, 0) := ⟨_, _, _, _, _, rfl, rfl, rfl, by decide, uw_X1, (in_wt 247 (by decide +kernel) (by decide +kernel))⟩
theorem fp_X1_126 : FP LC RX1 126 0 4 11 (0, 0) .int := ⟨_, _, _, _, _, tyX1, rfl, rfl, rfl, by decide, uw_X1, (in_wt 249 (by decide +kernel) (by decide +kernel)), tyX1_ok, nmX1, rfl, by decide +kernel⟩
theorem fp_X1_133 : FP LC RX1 133 0 4 12 (0, 0) .int := ⟨_, _, _, _, _, tyX1, rfl, rfl, rfl, by decide, uw_X1, (in_wt 251 (by decide +kernel) (by decide +kernel)), tyX1_ok, nmX1, rfl, by decide +kernel⟩
theorem fp_X1_136 : FP LC RX1 136 0 4 9 (0, 0) .int := ⟨_, _, _, _, _, tyX1, rfl, rfl, rfl, by decide, uw_X1, (in_wt 246 (by decide +kernel) (by decide +kernel)), tyX1_ok, nmX1, rfl, by decide +kernel⟩
theorem fp_X1_71 : FP LC RX1 71 0 4 10 (0, 0) .boolean := ⟨_, _, _, _, _, tyX1, rfl, rfl, rfl, by decide, uw_X1, (in_wt 247 (by decide +kernel) (by decide +kernel)), tyX1_ok, nmX1, rfl, by decide +kernel⟩
theorem fp_X1_88 : FP LC RX1 88 0 4 8 (0, 0) .int := ⟨_, _, _, _, _, tyX1, rfl, rfl, rfl, by decide, uw_X1, (in_wt 245 (by decide +kernel) (by decide +kernel)), tyX1_ok, nmX1, rfl, by decide +kernel⟩
theorem ml_X1_129 : Cond.methodLink RX1 129 yX1_together ∈ wt := in_wt 897 (by decide +kernel) (by decide +kernel)
/-- PostsEnd$Chooser.private void weigh(int) -/
def p_Chooser_weigh (σ : St) (a1 : Int32) : Option St := (Option.bind (j_Integer_bitCount (a1 &&& ((σ.1 0 4 7) ^^^ (-1 : Int32)))) fun r1 => (if σ.1 0 4 10 = 0 then (Option.bind (p_Chooser_together σ 22 a1) fun r3 => (Option.bind (p_Chooser_together σ 23 a1) fun r5 => (if σ.1 0 4 10 = 0 then (lt1 (sx σ 0 4 10 (1 : Int32)) fun σ7 => (lt1 (sx σ7 0 4 8 a1) fun σ8 => (lt1 (sx σ8 0 4 11 r1) fun σ9 => (lt1 (sx σ9 0 4 12 r3) fun σ10 => (lt1 (sx σ10 0 4 9 r5) fun σ11 => some σ11))))) else (if r1 < σ.1 0 4 11 then (lt1 (sx σ 0 4 10 (1 : Int32)) fun σ12 => (lt1 (sx σ12 0 4 8 a1) fun σ13 => (lt1 (sx σ13 0 4 11 r1) fun σ14 => (lt1 (sx σ14 0 4 12 r3) fun σ15 => (lt1 (sx σ15 0 4 9 r5) fun σ16 => some σ16))))) else (if r3 < σ.1 0 4 12 then (lt1 (sx σ 0 4 10 (1 : Int32)) fun σ17 => (lt1 (sx σ17 0 4 8 a1) fun σ18 => (lt1 (sx σ18 0 4 11 r1) fun σ19 => (lt1 (sx σ19 0 4 12 r3) fun σ20 => (lt1 (sx σ20 0 4 9 r5) fun σ21 => some σ21))))) else (if r3 = σ.1 0 4 12 then (if r5 < σ.1 0 4 9 then (lt1 (sx σ 0 4 10 (1 : Int32)) fun σ22 => (lt1 (sx σ22 0 4 8 a1) fun σ23 => (lt1 (sx σ23 0 4 11 r1) fun σ24 => (lt1 (sx σ24 0 4 12 r3) fun σ25 => (lt1 (sx σ25 0 4 9 r5) fun σ26 => some σ26))))) else some σ) else some σ)))))) else (if σ.1 0 4 11 < r1 then some σ else (Option.bind (p_Chooser_together σ 22 a1) fun r27 => (Option.bind (p_Chooser_together σ 23 a1) fun r29 => (if σ.1 0 4 10 = 0 then (lt1 (sx σ 0 4 10 (1 : Int32)) fun σ31 => (lt1 (sx σ31 0 4 8 a1) fun σ32 => (lt1 (sx σ32 0 4 11 r1) fun σ33 => (lt1 (sx σ33 0 4 12 r27) fun σ34 => (lt1 (sx σ34 0 4 9 r29) fun σ35 => some σ35))))) else (if r1 < σ.1 0 4 11 then (lt1 (sx σ 0 4 10 (1 : Int32)) fun σ36 => (lt1 (sx σ36 0 4 8 a1) fun σ37 => (lt1 (sx σ37 0 4 11 r1) fun σ38 => (lt1 (sx σ38 0 4 12 r27) fun σ39 => (lt1 (sx σ39 0 4 9 r29) fun σ40 => some σ40))))) else (if r27 < σ.1 0 4 12 then (lt1 (sx σ 0 4 10 (1 : Int32)) fun σ41 => (lt1 (sx σ41 0 4 8 a1) fun σ42 => (lt1 (sx σ42 0 4 11 r1) fun σ43 => (lt1 (sx σ43 0 4 12 r27) fun σ44 => (lt1 (sx σ44 0 4 9 r29) fun σ45 => some σ45))))) else (if r27 = σ.1 0 4 12 then (if r29 < σ.1 0 4 9 then (lt1 (sx σ 0 4 10 (1 : Int32)) fun σ46 => (lt1 (sx σ46 0 4 8 a1) fun σ47 => (lt1 (sx σ47 0 4 11 r1) fun σ48 => (lt1 (sx σ48 0 4 12 r27) fun σ49 => (lt1 (sx σ49 0 4 9 r29) fun σ50 => some σ50))))) else some σ) else some σ)))))))))
set_option maxRecDepth 20000 in
set_option maxHeartbeats 4000000 in
theorem w_p_Chooser_weigh (Θ : TT) (σ : St) (a1 : Int32) (C : CX Θ cX1_weigh RX1 none ({ frames := 1, cells := 0, slots := 0, locals := 24 } : Room) 5) : WA LC Θ (fun r : St => Qm LC Θ none r (True)) 0 [some (.ref (cF Θ 4)), some (.int a1), none, none, none] [] σ (p_Chooser_weigh σ a1) := by
  unfold p_Chooser_weigh
  refine r_iload_n C dX1_weigh_0 rfl ?_
  refine r_aload_n C dX1_weigh_1 rfl ?_
  refine r_getI0 C dX1_weigh_2 fg_X1_46 (by decide) ?_
  refine r_iconst C (-1 : Int32) dX1_weigh_5 (by decide) ?_
  refine r_ixor C dX1_weigh_6 ?_
  refine r_iand C dX1_weigh_7 ?_
  refine r_callS C (st := []) (As := [.int (a1 &&& ((σ.1 0 4 7) ^^^ (-1 : Int32)))]) dX1_weigh_8 ml_X1_75 sw_J6_bitCount_0f7a4 (fun r1 e => c_j_Integer_bitCount Θ.1.2.1 (cW Θ) (cAd Θ) (cN Θ) σ (a1 &&& ((σ.1 0 4 7) ^^^ (-1 : Int32))) r1 e) rfl rfl (Nat.le_of_ble_eq_true rfl) ⟨rfl, rfl, by decide, by decide⟩ (fun r1 h2 => ?_)
  refine r_istore_n C [some (.ref (cF Θ 4)), some (.int a1), some (.int r1), none, none] dX1_weigh_11 rfl (by decide) rfl ?_
  refine r_aload_n C dX1_weigh_12 rfl ?_
  refine r_getI0 C dX1_weigh_13 fg_X1_71 (by decide) ?_
  refine r_if_eq C 28 dX1_weigh_16 (by decide) ?_ ?_
  · refine r_aload_n C dX1_weigh_28 rfl ?_
    refine r_aload_n C dX1_weigh_29 rfl ?_
    refine r_getF0 C dX1_weigh_30 fg_X1_9 (by decide) ?_
    refine r_iload_n C dX1_weigh_33 rfl ?_
    refine r_callV C (st := []) (As := [.ref (cF Θ 22), .int a1]) (d := 0) (j := 4) dX1_weigh_34 ml_X1_129 vw_X1_together ⟨_, _, _, _, rfl, rfl⟩ (dm0 (by decide)) (fun r3 e => c_p_Chooser_together Θ.1.2.1 (cW Θ) (cAd Θ) (cN Θ) σ 22 a1 ag_LC_22 r3 e) rfl rfl (Nat.le_of_ble_eq_true rfl) ⟨rfl, rfl, by decide, by decide⟩ (fun r3 h4 => ?_)
    refine r_istore_n C [some (.ref (cF Θ 4)), some (.int a1), some (.int r1), some (.int r3), none] dX1_weigh_37 rfl (by decide) rfl ?_
    refine r_aload_n C dX1_weigh_38 rfl ?_
    refine r_aload_n C dX1_weigh_39 rfl ?_
    refine r_getF0 C dX1_weigh_40 fg_X1_15 (by decide) ?_
    refine r_iload_n C dX1_weigh_43 rfl ?_
    refine r_callV C (st := []) (As := [.ref (cF Θ 23), .int a1]) (d := 0) (j := 4) dX1_weigh_44 ml_X1_129 vw_X1_together ⟨_, _, _, _, rfl, rfl⟩ (dm0 (by decide)) (fun r5 e => c_p_Chooser_together Θ.1.2.1 (cW Θ) (cAd Θ) (cN Θ) σ 23 a1 ag_LC_23 r5 e) rfl rfl (Nat.le_of_ble_eq_true rfl) ⟨rfl, rfl, by decide, by decide⟩ (fun r5 h6 => ?_)
    refine r_istore C [some (.ref (cF Θ 4)), some (.int a1), some (.int r1), some (.int r3), some (.int r5)] dX1_weigh_47 rfl (by decide) rfl ?_
    refine r_aload_n C dX1_weigh_49 rfl ?_
    refine r_getI0 C dX1_weigh_50 fg_X1_71 (by decide) ?_
    refine r_if_eq C 89 dX1_weigh_53 (by decide) ?_ ?_
    · refine r_aload_n C dX1_weigh_89 rfl ?_
      refine r_iconst C (1 : Int32) dX1_weigh_90 (by decide) ?_
      refine r_putZ0 C dX1_weigh_91 fp_X1_71 (by decide) rfl rfl ?_
      refine WA.gen (fun σ7 => ?_)
      refine r_aload_n C dX1_weigh_94 rfl ?_
      refine r_iload_n C dX1_weigh_95 rfl ?_
      refine r_putI0 C dX1_weigh_96 fp_X1_88 (by decide) ?_
      refine WA.gen (fun σ8 => ?_)
      refine r_aload_n C dX1_weigh_99 rfl ?_
      refine r_iload_n C dX1_weigh_100 rfl ?_
      refine r_putI0 C dX1_weigh_101 fp_X1_126 (by decide) ?_
      refine WA.gen (fun σ9 => ?_)
      refine r_aload_n C dX1_weigh_104 rfl ?_
      refine r_iload_n C dX1_weigh_105 rfl ?_
      refine r_putI0 C dX1_weigh_106 fp_X1_133 (by decide) ?_
      refine WA.gen (fun σ10 => ?_)
      refine r_aload_n C dX1_weigh_109 rfl ?_
      refine r_iload C dX1_weigh_110 rfl ?_
      refine r_putI0 C dX1_weigh_112 fp_X1_136 (by decide) ?_
      refine WA.gen (fun σ11 => ?_)
      exact r_vret C dX1_weigh_115 rfl rfl trivial
    · refine r_iload_n C dX1_weigh_56 rfl ?_
      refine r_aload_n C dX1_weigh_57 rfl ?_
      refine r_getI0 C dX1_weigh_58 fg_X1_126 (by decide) ?_
      refine r_icmp_lt C 89 dX1_weigh_61 (by decide) ?_ ?_
      · refine r_aload_n C dX1_weigh_89 rfl ?_
        refine r_iconst C (1 : Int32) dX1_weigh_90 (by decide) ?_
        refine r_putZ0 C dX1_weigh_91 fp_X1_71 (by decide) rfl rfl ?_
        refine WA.gen (fun σ12 => ?_)
        refine r_aload_n C dX1_weigh_94 rfl ?_
        refine r_iload_n C dX1_weigh_95 rfl ?_
        refine r_putI0 C dX1_weigh_96 fp_X1_88 (by decide) ?_
        refine WA.gen (fun σ13 => ?_)
        refine r_aload_n C dX1_weigh_99 rfl ?_
        refine r_iload_n C dX1_weigh_100 rfl ?_
        refine r_putI0 C dX1_weigh_101 fp_X1_126 (by decide) ?_
        refine WA.gen (fun σ14 => ?_)
        refine r_aload_n C dX1_weigh_104 rfl ?_
        refine r_iload_n C dX1_weigh_105 rfl ?_
        refine r_putI0 C dX1_weigh_106 fp_X1_133 (by decide) ?_
        refine WA.gen (fun σ15 => ?_)
        refine r_aload_n C dX1_weigh_109 rfl ?_
        refine r_iload C dX1_weigh_110 rfl ?_
        refine r_putI0 C dX1_weigh_112 fp_X1_136 (by decide) ?_
        refine WA.gen (fun σ16 => ?_)
        exact r_vret C dX1_weigh_115 rfl rfl trivial
      · refine r_iload_n C dX1_weigh_64 rfl ?_
        refine r_aload_n C dX1_weigh_65 rfl ?_
        refine r_getI0 C dX1_weigh_66 fg_X1_133 (by decide) ?_
        refine r_icmp_lt C 89 dX1_weigh_69 (by decide) ?_ ?_
        · refine r_aload_n C dX1_weigh_89 rfl ?_
          refine r_iconst C (1 : Int32) dX1_weigh_90 (by decide) ?_
          refine r_putZ0 C dX1_weigh_91 fp_X1_71 (by decide) rfl rfl ?_
          refine WA.gen (fun σ17 => ?_)
          refine r_aload_n C dX1_weigh_94 rfl ?_
          refine r_iload_n C dX1_weigh_95 rfl ?_
          refine r_putI0 C dX1_weigh_96 fp_X1_88 (by decide) ?_
          refine WA.gen (fun σ18 => ?_)
          refine r_aload_n C dX1_weigh_99 rfl ?_
          refine r_iload_n C dX1_weigh_100 rfl ?_
          refine r_putI0 C dX1_weigh_101 fp_X1_126 (by decide) ?_
          refine WA.gen (fun σ19 => ?_)
          refine r_aload_n C dX1_weigh_104 rfl ?_
          refine r_iload_n C dX1_weigh_105 rfl ?_
          refine r_putI0 C dX1_weigh_106 fp_X1_133 (by decide) ?_
          refine WA.gen (fun σ20 => ?_)
          refine r_aload_n C dX1_weigh_109 rfl ?_
          refine r_iload C dX1_weigh_110 rfl ?_
          refine r_putI0 C dX1_weigh_112 fp_X1_136 (by decide) ?_
          refine WA.gen (fun σ21 => ?_)
          exact r_vret C dX1_weigh_115 rfl rfl trivial
        · refine r_iload_n C dX1_weigh_72 rfl ?_
          refine r_aload_n C dX1_weigh_73 rfl ?_
          refine r_getI0 C dX1_weigh_74 fg_X1_133 (by decide) ?_
          refine r_icmp_ne C 115 dX1_weigh_77 (by decide) ?_ ?_
          · exact r_vret C dX1_weigh_115 rfl rfl trivial
          · refine r_iload C dX1_weigh_80 rfl ?_
            refine r_aload_n C dX1_weigh_82 rfl ?_
            refine r_getI0 C dX1_weigh_83 fg_X1_136 (by decide) ?_
            refine r_icmp_ge C 115 dX1_weigh_86 (by decide) ?_ ?_
            · exact r_vret C dX1_weigh_115 rfl rfl trivial
            · refine r_aload_n C dX1_weigh_89 rfl ?_
              refine r_iconst C (1 : Int32) dX1_weigh_90 (by decide) ?_
              refine r_putZ0 C dX1_weigh_91 fp_X1_71 (by decide) rfl rfl ?_
              refine WA.gen (fun σ22 => ?_)
              refine r_aload_n C dX1_weigh_94 rfl ?_
              refine r_iload_n C dX1_weigh_95 rfl ?_
              refine r_putI0 C dX1_weigh_96 fp_X1_88 (by decide) ?_
              refine WA.gen (fun σ23 => ?_)
              refine r_aload_n C dX1_weigh_99 rfl ?_
              refine r_iload_n C dX1_weigh_100 rfl ?_
              refine r_putI0 C dX1_weigh_101 fp_X1_126 (by decide) ?_
              refine WA.gen (fun σ24 => ?_)
              refine r_aload_n C dX1_weigh_104 rfl ?_
              refine r_iload_n C dX1_weigh_105 rfl ?_
              refine r_putI0 C dX1_weigh_106 fp_X1_133 (by decide) ?_
              refine WA.gen (fun σ25 => ?_)
              refine r_aload_n C dX1_weigh_109 rfl ?_
              refine r_iload C dX1_weigh_110 rfl ?_
              refine r_putI0 C dX1_weigh_112 fp_X1_136 (by decide) ?_
              refine WA.gen (fun σ26 => ?_)
              exact r_vret C dX1_weigh_115 rfl rfl trivial
  · refine r_iload_n C dX1_weigh_19 rfl ?_
    refine r_aload_n C dX1_weigh_20 rfl ?_
    refine r_getI0 C dX1_weigh_21 fg_X1_126 (by decide) ?_
    refine r_icmp_le C 28 dX1_weigh_24 (by decide) ?_ ?_
    · refine r_aload_n C dX1_weigh_28 rfl ?_
      refine r_aload_n C dX1_weigh_29 rfl ?_
      refine r_getF0 C dX1_weigh_30 fg_X1_9 (by decide) ?_
      refine r_iload_n C dX1_weigh_33 rfl ?_
      refine r_callV C (st := []) (As := [.ref (cF Θ 22), .int a1]) (d := 0) (j := 4) dX1_weigh_34 ml_X1_129 vw_X1_together ⟨_, _, _, _, rfl, rfl⟩ (dm0 (by decide)) (fun r27 e => c_p_Chooser_together Θ.1.2.1 (cW Θ) (cAd Θ) (cN Θ) σ 22 a1 ag_LC_22 r27 e) rfl rfl (Nat.le_of_ble_eq_true rfl) ⟨rfl, rfl, by decide, by decide⟩ (fun r27 h28 => ?_)
      refine r_istore_n C [some (.ref (cF Θ 4)), some (.int a1), some (.int r1), some (.int r27), none] dX1_weigh_37 rfl (by decide) rfl ?_
      refine r_aload_n C dX1_weigh_38 rfl ?_
      refine r_aload_n C dX1_weigh_39 rfl ?_
      refine r_getF0 C dX1_weigh_40 fg_X1_15 (by decide) ?_
      refine r_iload_n C dX1_weigh_43 rfl ?_
      refine r_callV C (st := []) (As := [.ref (cF Θ 23), .int a1]) (d := 0) (j := 4) dX1_weigh_44 ml_X1_129 vw_X1_together ⟨_, _, _, _, rfl, rfl⟩ (dm0 (by decide)) (fun r29 e => c_p_Chooser_together Θ.1.2.1 (cW Θ) (cAd Θ) (cN Θ) σ 23 a1 ag_LC_23 r29 e) rfl rfl (Nat.le_of_ble_eq_true rfl) ⟨rfl, rfl, by decide, by decide⟩ (fun r29 h30 => ?_)
      refine r_istore C [some (.ref (cF Θ 4)), some (.int a1), some (.int r1), some (.int r27), some (.int r29)] dX1_weigh_47 rfl (by decide) rfl ?_
      refine r_aload_n C dX1_weigh_49 rfl ?_
      refine r_getI0 C dX1_weigh_50 fg_X1_71 (by decide) ?_
      refine r_if_eq C 89 dX1_weigh_53 (by decide) ?_ ?_
      · refine r_aload_n C dX1_weigh_89 rfl ?_
        refine r_iconst C (1 : Int32) dX1_weigh_90 (by decide) ?_
        refine r_putZ0 C dX1_weigh_91 fp_X1_71 (by decide) rfl rfl ?_
        refine WA.gen (fun σ31 => ?_)
        refine r_aload_n C dX1_weigh_94 rfl ?_
        refine r_iload_n C dX1_weigh_95 rfl ?_
        refine r_putI0 C dX1_weigh_96 fp_X1_88 (by decide) ?_
        refine WA.gen (fun σ32 => ?_)
        refine r_aload_n C dX1_weigh_99 rfl ?_
        refine r_iload_n C dX1_weigh_100 rfl ?_
        refine r_putI0 C dX1_weigh_101 fp_X1_126 (by decide) ?_
        refine WA.gen (fun σ33 => ?_)
        refine r_aload_n C dX1_weigh_104 rfl ?_
        refine r_iload_n C dX1_weigh_105 rfl ?_
        refine r_putI0 C dX1_weigh_106 fp_X1_133 (by decide) ?_
        refine WA.gen (fun σ34 => ?_)
        refine r_aload_n C dX1_weigh_109 rfl ?_
        refine r_iload C dX1_weigh_110 rfl ?_
        refine r_putI0 C dX1_weigh_112 fp_X1_136 (by decide) ?_
        refine WA.gen (fun σ35 => ?_)
        exact r_vret C dX1_weigh_115 rfl rfl trivial
      · refine r_iload_n C dX1_weigh_56 rfl ?_
        refine r_aload_n C dX1_weigh_57 rfl ?_
        refine r_getI0 C dX1_weigh_58 fg_X1_126 (by decide) ?_
        refine r_icmp_lt C 89 dX1_weigh_61 (by decide) ?_ ?_
        · refine r_aload_n C dX1_weigh_89 rfl ?_
          refine r_iconst C (1 : Int32) dX1_weigh_90 (by decide) ?_
          refine r_putZ0 C dX1_weigh_91 fp_X1_71 (by decide) rfl rfl ?_
          refine WA.gen (fun σ36 => ?_)
          refine r_aload_n C dX1_weigh_94 rfl ?_
          refine r_iload_n C dX1_weigh_95 rfl ?_
          refine r_putI0 C dX1_weigh_96 fp_X1_88 (by decide) ?_
          refine WA.gen (fun σ37 => ?_)
          refine r_aload_n C dX1_weigh_99 rfl ?_
          refine r_iload_n C dX1_weigh_100 rfl ?_
          refine r_putI0 C dX1_weigh_101 fp_X1_126 (by decide) ?_
          refine WA.gen (fun σ38 => ?_)
          refine r_aload_n C dX1_weigh_104 rfl ?_
          refine r_iload_n C dX1_weigh_105 rfl ?_
          refine r_putI0 C dX1_weigh_106 fp_X1_133 (by decide) ?_
          refine WA.gen (fun σ39 => ?_)
          refine r_aload_n C dX1_weigh_109 rfl ?_
          refine r_iload C dX1_weigh_110 rfl ?_
          refine r_putI0 C dX1_weigh_112 fp_X1_136 (by decide) ?_
          refine WA.gen (fun σ40 => ?_)
          exact r_vret C dX1_weigh_115 rfl rfl trivial
        · refine r_iload_n C dX1_weigh_64 rfl ?_
          refine r_aload_n C dX1_weigh_65 rfl ?_
          refine r_getI0 C dX1_weigh_66 fg_X1_133 (by decide) ?_
          refine r_icmp_lt C 89 dX1_weigh_69 (by decide) ?_ ?_
          · refine r_aload_n C dX1_weigh_89 rfl ?_
            refine r_iconst C (1 : Int32) dX1_weigh_90 (by decide) ?_
            refine r_putZ0 C dX1_weigh_91 fp_X1_71 (by decide) rfl rfl ?_
            refine WA.gen (fun σ41 => ?_)
            refine r_aload_n C dX1_weigh_94 rfl ?_
            refine r_iload_n C dX1_weigh_95 rfl ?_
            refine r_putI0 C dX1_weigh_96 fp_X1_88 (by decide) ?_
            refine WA.gen (fun σ42 => ?_)
            refine r_aload_n C dX1_weigh_99 rfl ?_
            refine r_iload_n C dX1_weigh_100 rfl ?_
            refine r_putI0 C dX1_weigh_101 fp_X1_126 (by decide) ?_
            refine WA.gen (fun σ43 => ?_)
            refine r_aload_n C dX1_weigh_104 rfl ?_
            refine r_iload_n C dX1_weigh_105 rfl ?_
            refine r_putI0 C dX1_weigh_106 fp_X1_133 (by decide) ?_
            refine WA.gen (fun σ44 => ?_)
            refine r_aload_n C dX1_weigh_109 rfl ?_
            refine r_iload C dX1_weigh_110 rfl ?_
            refine r_putI0 C dX1_weigh_112 fp_X1_136 (by decide) ?_
            refine WA.gen (fun σ45 => ?_)
            exact r_vret C dX1_weigh_115 rfl rfl trivial
          · refine r_iload_n C dX1_weigh_72 rfl ?_
            refine r_aload_n C dX1_weigh_73 rfl ?_
            refine r_getI0 C dX1_weigh_74 fg_X1_133 (by decide) ?_
            refine r_icmp_ne C 115 dX1_weigh_77 (by decide) ?_ ?_
            · exact r_vret C dX1_weigh_115 rfl rfl trivial
            · refine r_iload C dX1_weigh_80 rfl ?_
              refine r_aload_n C dX1_weigh_82 rfl ?_
              refine r_getI0 C dX1_weigh_83 fg_X1_136 (by decide) ?_
              refine r_icmp_ge C 115 dX1_weigh_86 (by decide) ?_ ?_
              · exact r_vret C dX1_weigh_115 rfl rfl trivial
              · refine r_aload_n C dX1_weigh_89 rfl ?_
                refine r_iconst C (1 : Int32) dX1_weigh_90 (by decide) ?_
                refine r_putZ0 C dX1_weigh_91 fp_X1_71 (by decide) rfl rfl ?_
                refine WA.gen (fun σ46 => ?_)
                refine r_aload_n C dX1_weigh_94 rfl ?_
                refine r_iload_n C dX1_weigh_95 rfl ?_
                refine r_putI0 C dX1_weigh_96 fp_X1_88 (by decide) ?_
                refine WA.gen (fun σ47 => ?_)
                refine r_aload_n C dX1_weigh_99 rfl ?_
                refine r_iload_n C dX1_weigh_100 rfl ?_
                refine r_putI0 C dX1_weigh_101 fp_X1_126 (by decide) ?_
                refine WA.gen (fun σ48 => ?_)
                refine r_aload_n C dX1_weigh_104 rfl ?_
                refine r_iload_n C dX1_weigh_105 rfl ?_
                refine r_putI0 C dX1_weigh_106 fp_X1_133 (by decide) ?_
                refine WA.gen (fun σ49 => ?_)
                refine r_aload_n C dX1_weigh_109 rfl ?_
                refine r_iload C dX1_weigh_110 rfl ?_
                refine r_putI0 C dX1_weigh_112 fp_X1_136 (by decide) ?_
                refine WA.gen (fun σ50 => ?_)
                exact r_vret C dX1_weigh_115 rfl rfl trivial
    · exact r_vret C dX1_weigh_27 rfl rfl trivial
theorem c_p_Chooser_weigh (l : Launch) (ω : Wd) (ad : Nat → Nat → Nat) (N : Nat → Nat) (σ : St) (a1 : Int32) : ∀ r : St, p_Chooser_weigh σ a1 = some r → Ct l yX1_weigh cX1_weigh 5 none ({ frames := 1, cells := 0, slots := 0, locals := 24 } : Room) LC ω ad N [.ref (ω.2.1 4), .int a1] σ none r (True) :=
  ct_of (o := fun r : St => none) (s' := fun r => r) (P := fun r => True) [some (.ref (ω.2.1 4)), some (.int a1), none, none, none] (by decide) rfl (Nat.le_of_ble_eq_true rfl) (fun Γ C _ _ => w_p_Chooser_weigh (Γ, ω, 5, ad, N, 0, 0) σ a1 C)
theorem vw_X1_keepsSkills : VW yX1_keepsSkills cX1_keepsSkills 3 (some .boolean) 1 := ⟨⟨(in_wt 84 (by decide +kernel) (by decide +kernel)), (in_wt 892 (by decide +kernel) (by decide +kernel)), by decide +kernel⟩, (in_wt 891 (by decide +kernel) (by decide +kernel)), (in_wt 11 (by decide +kernel) (by decide +kernel))⟩
theorem vw_X1_weigh : VW yX1_weigh cX1_weigh 5 none 1 := ⟨⟨(in_wt 84 (by decide +kernel) (by decide +kernel)), (in_wt 896 (by decide +kernel) (by decide +kernel)), by decide +kernel⟩, (in_wt 895 (by decide +kernel) (by decide +kernel)), (in_wt 12 (by decide +kernel) (by decide +kernel))⟩
theorem ml_X1_81 : Cond.methodLink RX1 81 yX1_keepsSkills ∈ wt := in_wt 889 (by decide +kernel) (by decide +kernel)
theorem ml_X1_85 : Cond.methodLink RX1 85 yX1_weigh ∈ wt := in_wt 893 (by decide +kernel) (by decide +kernel)
/-- PostsEnd$Chooser.void choose(int) -/
def p_Chooser_choose (σ : St) (a1 : Int32) : Option St := (lt1 (sx σ 0 4 10 (0 : Int32)) fun σ1 => (Option.bind (itr0 (S := Int32 × St) (E := St) (fun s2 => (if s2.1 < (1 : Int32) <<< ((s2.2.1 0 4 5) &&& 31) then (Option.bind (j_Integer_bitCount s2.1) fun r10 => (Option.bind (α := St) ((if r10 = a1 then (if s2.1 &&& (s2.2.1 0 4 6) = 0 then (Option.bind (p_Chooser_keepsSkills s2.2 s2.1) fun r15 => (if r15 = 0 then some s2.2 else (Option.bind (p_Chooser_weigh s2.2 s2.1) fun r17 => some r17))) else some s2.2) else some s2.2)) fun t12 => some (.inl (s2.1 + (1 : Int32), t12)))) else some (.inr s2.2))) FU ((0 : Int32), σ1)) fun e7 => some e7))
set_option maxRecDepth 20000 in
set_option maxHeartbeats 4000000 in
theorem w_p_Chooser_choose (Θ : TT) (σ : St) (a1 : Int32) (C : CX Θ cX1_choose RX1 none ({ frames := 2, cells := 0, slots := 0, locals := 48 } : Room) 3) : WA LC Θ (fun r : St => Qm LC Θ none r (True)) 0 [some (.ref (cF Θ 4)), some (.int a1), none] [] σ (p_Chooser_choose σ a1) := by
  unfold p_Chooser_choose
  refine r_aload_n C dX1_choose_0 rfl ?_
  refine r_iconst C (0 : Int32) dX1_choose_1 (by decide) ?_
  refine r_putZ0 C dX1_choose_2 fp_X1_71 (by decide) rfl rfl ?_
  refine WA.gen (fun σ1 => ?_)
  refine r_iconst C (0 : Int32) dX1_choose_5 (by decide) ?_
  refine r_istore_n C [some (.ref (cF Θ 4)), some (.int a1), some (.int (0 : Int32))] dX1_choose_6 rfl (by decide) rfl ?_
  refine WA.join (α := St) 53 (fun e7 => [none, none, none]) (fun e7 => []) (fun e7 => e7) (fun e7 => True) (fun e7 h8 => ?_) (fun J9 => ?_)
  · exact r_vret C dX1_choose_53 rfl rfl trivial
  · refine WA.wk (lv' := [some (.ref (cF Θ 4)), some (.int a1), some (.int (0 : Int32))]) [true, true, true] rfl ?_
    refine WA.itr (S := Int32 × St) 7 (fun s2 => [some (.ref (cF Θ 4)), some (.int a1), some (.int s2.1)]) (fun s2 => []) (fun s2 => s2.2) (fun s2 => True) (fun s2 k6 h3 ih4 hx5 => ?_) FU ((0 : Int32), σ1) trivial
    refine r_iload_n C dX1_choose_7 rfl ?_
    refine r_iconst C (1 : Int32) dX1_choose_8 (by decide) ?_
    refine r_aload_n C dX1_choose_9 rfl ?_
    refine r_getI0 C dX1_choose_10 fg_X1_40 (by decide) ?_
    refine r_ishl C dX1_choose_13 ?_
    refine WA.bif ?_
    refine r_icmp_ge C 53 dX1_choose_14 (by decide) ?_ ?_
    · refine WA.wk (lv' := [none, none, none]) [false, false, false] rfl ?_
      exact WA.eqK (hx5 _) (J9 s2.2 trivial)
    · refine r_iload_n C dX1_choose_17 rfl ?_
      refine WA.asc ?_
      refine r_callS C (st := []) (As := [.int s2.1]) dX1_choose_18 ml_X1_75 sw_J6_bitCount_0f7a4 (fun r10 e => c_j_Integer_bitCount Θ.1.2.1 (cW Θ) (cAd Θ) (cN Θ) s2.2 s2.1 r10 e) rfl rfl (Nat.le_of_ble_eq_true rfl) ⟨rfl, rfl, by decide, by decide⟩ (fun r10 h11 => ?_)
      refine r_iload_n C dX1_choose_21 rfl ?_
      refine WA.asc ?_
      refine WA.join (α := St) 47 (fun t12 => [some (.ref (cF Θ 4)), some (.int a1), some (.int s2.1)]) (fun t12 => []) (fun t12 => t12) (fun t12 => True) (fun t12 h13 => ?_) (fun J14 => ?_)
      · refine r_iinc C (1 : Int32) [some (.ref (cF Θ 4)), some (.int a1), some (.int (s2.1 + (1 : Int32)))] dX1_choose_47 (by decide) rfl rfl (by decide) rfl ?_
        refine r_goto C 7 dX1_choose_50 (by decide) ?_
        refine WA.wk (lv' := [some (.ref (cF Θ 4)), some (.int a1), some (.int (s2.1 + (1 : Int32)))]) [true, true, true] rfl ?_
        exact ih4 (s2.1 + (1 : Int32), t12) trivial
      · refine WA.bif ?_
        refine r_icmp_ne C 47 dX1_choose_22 (by decide) ?_ ?_
        · refine WA.wk (lv' := [some (.ref (cF Θ 4)), some (.int a1), some (.int s2.1)]) [true, true, true] rfl ?_
          exact J14 s2.2 trivial
        · refine r_iload_n C dX1_choose_25 rfl ?_
          refine r_aload_n C dX1_choose_26 rfl ?_
          refine r_getI0 C dX1_choose_27 fg_X1_43 (by decide) ?_
          refine r_iand C dX1_choose_30 ?_
          refine WA.bif ?_
          refine r_if_ne C 47 dX1_choose_31 (by decide) ?_ ?_
          · refine WA.wk (lv' := [some (.ref (cF Θ 4)), some (.int a1), some (.int s2.1)]) [true, true, true] rfl ?_
            exact J14 s2.2 trivial
          · refine r_aload_n C dX1_choose_34 rfl ?_
            refine r_iload_n C dX1_choose_35 rfl ?_
            refine WA.asc ?_
            refine r_callV C (st := []) (As := [.int s2.1]) (d := 0) (j := 4) dX1_choose_36 ml_X1_81 vw_X1_keepsSkills ⟨_, _, _, _, rfl, rfl⟩ (dm0 (by decide)) (fun r15 e => c_p_Chooser_keepsSkills Θ.1.2.1 (cW Θ) (cAd Θ) (cN Θ) s2.2 s2.1 r15 e) rfl rfl (Nat.le_of_ble_eq_true rfl) ⟨rfl, rfl, by decide, by decide⟩ (fun r15 h16 => ?_)
            refine WA.bif ?_
            refine r_if_eq C 47 dX1_choose_39 (by decide) ?_ ?_
            · refine WA.wk (lv' := [some (.ref (cF Θ 4)), some (.int a1), some (.int s2.1)]) [true, true, true] rfl ?_
              exact J14 s2.2 trivial
            · refine r_aload_n C dX1_choose_42 rfl ?_
              refine r_iload_n C dX1_choose_43 rfl ?_
              refine WA.asc ?_
              refine r_callV C (st := []) (As := [.int s2.1]) (d := 0) (j := 4) dX1_choose_44 ml_X1_85 vw_X1_weigh ⟨_, _, _, _, rfl, rfl⟩ (dm0 (by decide)) (fun r17 e => c_p_Chooser_weigh Θ.1.2.1 (cW Θ) (cAd Θ) (cN Θ) s2.2 s2.1 r17 e) rfl rfl (Nat.le_of_ble_eq_true rfl) ⟨rfl, rfl, by decide, by decide⟩ (fun r17 h18 => ?_)
              refine WA.wk (lv' := [some (.ref (cF Θ 4)), some (.int a1), some (.int s2.1)]) [true, true, true] rfl ?_
              exact J14 r17 trivial
theorem c_p_Chooser_choose (l : Launch) (ω : Wd) (ad : Nat → Nat → Nat) (N : Nat → Nat) (σ : St) (a1 : Int32) : ∀ r : St, p_Chooser_choose σ a1 = some r → Ct l yX1_choose cX1_choose 3 none ({ frames := 2, cells := 0, slots := 0, locals := 48 } : Room) LC ω ad N [.ref (ω.2.1 4), .int a1] σ none r (True) :=
  ct_of (o := fun r : St => none) (s' := fun r => r) (P := fun r => True) [some (.ref (ω.2.1 4)), some (.int a1), none] (by decide) rfl (Nat.le_of_ble_eq_true rfl) (fun Γ C _ _ => w_p_Chooser_choose (Γ, ω, 3, ad, N, 0, 0) σ a1 C)
theorem fg_X1_88 : FG LC RX1 88 0 4 8 (0, 0) := ⟨_, _, _, _, _, rfl, rfl, rfl, by decide, uw_X1, (in_wt 245 (by decide +kernel) (by decide +kernel))⟩
/-- PostsEnd$Chooser.boolean goes(int) -/
def p_Chooser_goes (σ : St) (a1 : Int32) : Option Int32 := (if σ.1 0 4 10 = 0 then some (0 : Int32) else (if a1 < 0 then some (0 : Int32) else (if a1 < σ.1 0 4 5 then (if ((σ.1 0 4 8) >>> (a1 &&& 31)) &&& (1 : Int32) = (1 : Int32) then some (1 : Int32) else some (0 : Int32)) else some (0 : Int32))))
set_option maxRecDepth 20000 in
set_option maxHeartbeats 4000000 in
theorem w_p_Chooser_goes (Θ : TT) (σ : St) (a1 : Int32) (C : CX Θ cX1_goes RX1 (some .boolean) ({ frames := 0, cells := 0, slots := 0, locals := 0 } : Room) 2) : WA LC Θ (fun r : Int32 => Qm LC Θ (some (.int r)) σ (narrow .boolean (.int r) = .int r)) 0 [some (.ref (cF Θ 4)), some (.int a1)] [] σ (p_Chooser_goes σ a1) := by
  unfold p_Chooser_goes
  refine r_aload_n C dX1_goes_0 rfl ?_
  refine r_getI0 C dX1_goes_1 fg_X1_71 (by decide) ?_
  refine r_if_eq C 35 dX1_goes_4 (by decide) ?_ ?_
  · refine r_iconst C (0 : Int32) dX1_goes_35 (by decide) ?_
    exact r_zret C dX1_goes_36 (show narrow .boolean (.int (0 : Int32)) = .int (0 : Int32) from rfl) rfl rfl (show narrow .boolean (.int (0 : Int32)) = .int (0 : Int32) from rfl)
  · refine r_iload_n C dX1_goes_7 rfl ?_
    refine r_if_lt C 35 dX1_goes_8 (by decide) ?_ ?_
    · refine r_iconst C (0 : Int32) dX1_goes_35 (by decide) ?_
      exact r_zret C dX1_goes_36 (show narrow .boolean (.int (0 : Int32)) = .int (0 : Int32) from rfl) rfl rfl (show narrow .boolean (.int (0 : Int32)) = .int (0 : Int32) from rfl)
    · refine r_iload_n C dX1_goes_11 rfl ?_
      refine r_aload_n C dX1_goes_12 rfl ?_
      refine r_getI0 C dX1_goes_13 fg_X1_40 (by decide) ?_
      refine r_icmp_ge C 35 dX1_goes_16 (by decide) ?_ ?_
      · refine r_iconst C (0 : Int32) dX1_goes_35 (by decide) ?_
        exact r_zret C dX1_goes_36 (show narrow .boolean (.int (0 : Int32)) = .int (0 : Int32) from rfl) rfl rfl (show narrow .boolean (.int (0 : Int32)) = .int (0 : Int32) from rfl)
      · refine r_aload_n C dX1_goes_19 rfl ?_
        refine r_getI0 C dX1_goes_20 fg_X1_88 (by decide) ?_
        refine r_iload_n C dX1_goes_23 rfl ?_
        refine r_ishr C dX1_goes_24 ?_
        refine r_iconst C (1 : Int32) dX1_goes_25 (by decide) ?_
        refine r_iand C dX1_goes_26 ?_
        refine r_iconst C (1 : Int32) dX1_goes_27 (by decide) ?_
        refine r_icmp_ne C 35 dX1_goes_28 (by decide) ?_ ?_
        · refine r_iconst C (0 : Int32) dX1_goes_35 (by decide) ?_
          exact r_zret C dX1_goes_36 (show narrow .boolean (.int (0 : Int32)) = .int (0 : Int32) from rfl) rfl rfl (show narrow .boolean (.int (0 : Int32)) = .int (0 : Int32) from rfl)
        · refine r_iconst C (1 : Int32) dX1_goes_31 (by decide) ?_
          refine r_goto C 36 dX1_goes_32 (by decide) ?_
          exact r_zret C dX1_goes_36 (show narrow .boolean (.int (1 : Int32)) = .int (1 : Int32) from rfl) rfl rfl (show narrow .boolean (.int (1 : Int32)) = .int (1 : Int32) from rfl)
theorem c_p_Chooser_goes (l : Launch) (ω : Wd) (ad : Nat → Nat → Nat) (N : Nat → Nat) (σ : St) (a1 : Int32) : ∀ r : Int32, p_Chooser_goes σ a1 = some r → Ct l yX1_goes cX1_goes 2 (some .boolean) ({ frames := 0, cells := 0, slots := 0, locals := 0 } : Room) LC ω ad N [.ref (ω.2.1 4), .int a1] σ (some (.int r)) σ (narrow .boolean (.int r) = .int r) :=
  ct_of (o := fun r : Int32 => (some (.int r))) (s' := fun r => σ) (P := fun r => narrow .boolean (.int r) = .int r) [some (.ref (ω.2.1 4)), some (.int a1)] (by decide) rfl (Nat.le_of_ble_eq_true rfl) (fun Γ C _ _ => w_p_Chooser_goes (Γ, ω, 2, ad, N, 0, 0) σ a1 C)
theorem ag_LC_33 : AG LC 33 0 60 := ⟨by decide, rfl⟩
theorem ag_LC_34 : AG LC 34 0 60 := ⟨by decide, rfl⟩
theorem ag_LC_35 : AG LC 35 0 60 := ⟨by decide, rfl⟩
theorem fg_X2_15 : FG LC RX2 15 0 7 1 (1, 34) := ⟨_, _, _, _, _, rfl, rfl, rfl, by decide, uw_X2, (in_wt 342 (by decide +kernel) (by decide +kernel))⟩
theorem fg_X2_18 : FG LC RX2 18 0 7 2 (1, 35) := ⟨_, _, _, _, _, rfl, rfl, rfl, by decide, uw_X2, (in_wt 343 (by decide +kernel) (by decide +kernel))⟩
theorem fg_X2_36 : FG LC RX2 36 0 7 3 (0, 0) := ⟨_, _, _, _, _, rfl, rfl, rfl, by decide, uw_X2, (in_wt 344 (by decide +kernel) (by decide +kernel))⟩
theorem fg_X2_9 : FG LC RX2 9 0 7 0 (1, 33) := ⟨_, _, _, _, _, rfl, rfl, rfl, by decide, uw_X2, (in_wt 341 (by decide +kernel) (by decide +kernel))⟩
theorem fp_X2_36 : FP LC RX2 36 0 7 3 (0, 0) .int := ⟨_, _, _, _, _, tyX2, rfl, rfl, rfl, by decide, uw_X2, (in_wt 344 (by decide +kernel) (by decide +kernel)), tyX2_ok, nmX2, rfl, by decide +kernel⟩
/-- PostsEnd$Endings.int add(int, int, int) -/
def p_Endings_add (σ : St) (a1 : Int32) (a2 : Int32) (a3 : Int32) : Option (Int32 × St) := (Option.bind (α := St) ((if σ.1 0 7 3 < (60 : Int32) then (Option.bind (ix 60 (σ.1 0 7 3)) fun i4 => (lt1 (sx σ 0 33 i4 a1) fun σ5 => (Option.bind (ix 60 (σ5.1 0 7 3)) fun i6 => (lt1 (sx σ5 0 34 i6 a2) fun σ7 => (Option.bind (ix 60 (σ7.1 0 7 3)) fun i8 => (lt1 (sx σ7 0 35 i8 a3) fun σ9 => (lt1 (sx σ9 0 7 3 ((σ9.1 0 7 3) + (1 : Int32))) fun σ10 => some σ10))))))) else some σ)) fun t1 => some (t1.1 0 7 3, t1))
set_option maxRecDepth 20000 in
set_option maxHeartbeats 4000000 in
theorem w_p_Endings_add (Θ : TT) (σ : St) (a1 : Int32) (a2 : Int32) (a3 : Int32) (C : CX Θ cX2_add RX2 (some .int) ({ frames := 0, cells := 0, slots := 0, locals := 0 } : Room) 4) : WA LC Θ (fun r : Int32 × St => Qm LC Θ (some (.int r.1)) r.2 (True)) 0 [some (.ref (cF Θ 7)), some (.int a1), some (.int a2), some (.int a3)] [] σ (p_Endings_add σ a1 a2 a3) := by
  unfold p_Endings_add
  refine r_aload_n C dX2_add_0 rfl ?_
  refine r_getI0 C dX2_add_1 fg_X2_36 (by decide) ?_
  refine r_bipush C (60 : Int32) dX2_add_4 (by decide) ?_
  refine WA.join (α := St) 49 (fun t1 => [some (.ref (cF Θ 7)), none, none, none]) (fun t1 => []) (fun t1 => t1) (fun t1 => True) (fun t1 h2 => ?_) (fun J3 => ?_)
  · refine r_aload_n C dX2_add_49 rfl ?_
    refine r_getI0 C dX2_add_50 fg_X2_36 (by decide) ?_
    exact r_iret C dX2_add_53 rfl rfl trivial
  · refine WA.bif ?_
    refine r_icmp_ge C 49 dX2_add_6 (by decide) ?_ ?_
    · refine WA.wk (lv' := [some (.ref (cF Θ 7)), none, none, none]) [true, false, false, false] rfl ?_
      exact J3 σ trivial
    · refine r_aload_n C dX2_add_9 rfl ?_
      refine r_getF0 C dX2_add_10 fg_X2_9 (by decide) ?_
      refine r_aload_n C dX2_add_13 rfl ?_
      refine r_getI0 C dX2_add_14 fg_X2_36 (by decide) ?_
      refine r_iload_n C dX2_add_17 rfl ?_
      refine WA.asc ?_
      refine r_iast C dX2_add_18 ag_LC_33 (fun i4 => ?_)
      refine WA.genB (fun σ5 => ?_)
      refine r_aload_n C dX2_add_19 rfl ?_
      refine r_getF0 C dX2_add_20 fg_X2_15 (by decide) ?_
      refine r_aload_n C dX2_add_23 rfl ?_
      refine r_getI0 C dX2_add_24 fg_X2_36 (by decide) ?_
      refine r_iload_n C dX2_add_27 rfl ?_
      refine WA.asc ?_
      refine r_iast C dX2_add_28 ag_LC_34 (fun i6 => ?_)
      refine WA.genB (fun σ7 => ?_)
      refine r_aload_n C dX2_add_29 rfl ?_
      refine r_getF0 C dX2_add_30 fg_X2_18 (by decide) ?_
      refine r_aload_n C dX2_add_33 rfl ?_
      refine r_getI0 C dX2_add_34 fg_X2_36 (by decide) ?_
      refine r_iload_n C dX2_add_37 rfl ?_
      refine WA.asc ?_
      refine r_iast C dX2_add_38 ag_LC_35 (fun i8 => ?_)
      refine WA.genB (fun σ9 => ?_)
      refine r_aload_n C dX2_add_39 rfl ?_
      refine r_dup C dX2_add_40 rfl ?_
      refine r_getI0 C dX2_add_41 fg_X2_36 (by decide) ?_
      refine r_iconst C (1 : Int32) dX2_add_44 (by decide) ?_
      refine r_iadd C dX2_add_45 ?_
      refine r_putI0 C dX2_add_46 fp_X2_36 (by decide) ?_
      refine WA.genB (fun σ10 => ?_)
      refine WA.wk (lv' := [some (.ref (cF Θ 7)), none, none, none]) [true, false, false, false] rfl ?_
      exact J3 σ10 trivial
theorem c_p_Endings_add (l : Launch) (ω : Wd) (ad : Nat → Nat → Nat) (N : Nat → Nat) (σ : St) (a1 : Int32) (a2 : Int32) (a3 : Int32) : ∀ r : Int32 × St, p_Endings_add σ a1 a2 a3 = some r → Ct l yX2_add cX2_add 4 (some .int) ({ frames := 0, cells := 0, slots := 0, locals := 0 } : Room) LC ω ad N [.ref (ω.2.1 7), .int a1, .int a2, .int a3] σ (some (.int r.1)) r.2 (True) :=
  ct_of (o := fun r : Int32 × St => (some (.int r.1))) (s' := fun r => r.2) (P := fun r => True) [some (.ref (ω.2.1 7)), some (.int a1), some (.int a2), some (.int a3)] (by decide) rfl (Nat.le_of_ble_eq_true rfl) (fun Γ C _ _ => w_p_Endings_add (Γ, ω, 4, ad, N, 0, 0) σ a1 a2 a3 C)
/-- PostsEnd$Endings.int within(int, int) -/
def p_Endings_within (σ : St) (a1 : Int32) (a2 : Int32) : Option Int32 := (Option.bind (itr0 (S := Int32 × Int32) (E := Int32) (fun s1 => (if s1.2 < σ.1 0 7 3 then (if s1.2 < (60 : Int32) then (Option.bind (ix 60 s1.2) fun i9 => (Option.bind (α := Int32) ((if σ.1 0 33 i9 = a1 then (Option.bind (ix 60 s1.2) fun i13 => (if a2 < σ.1 0 34 i13 then some s1.1 else (Option.bind (ix 60 s1.2) fun i14 => (if a2 - (90 : Int32) < σ.1 0 34 i14 then (Option.bind (ix 60 s1.2) fun i15 => some (s1.1 + (σ.1 0 35 i15))) else some s1.1)))) else some s1.1)) fun t10 => some (.inl (t10, s1.2 + (1 : Int32))))) else some (.inr s1.1)) else some (.inr s1.1))) FU ((0 : Int32), (0 : Int32))) fun e6 => some e6)
set_option maxRecDepth 20000 in
set_option maxHeartbeats 4000000 in
theorem w_p_Endings_within (Θ : TT) (σ : St) (a1 : Int32) (a2 : Int32) (C : CX Θ cX2_within RX2 (some .int) ({ frames := 0, cells := 0, slots := 0, locals := 0 } : Room) 5) : WA LC Θ (fun r : Int32 => Qm LC Θ (some (.int r)) σ (True)) 0 [some (.ref (cF Θ 7)), some (.int a1), some (.int a2), none, none] [] σ (p_Endings_within σ a1 a2) := by
  unfold p_Endings_within
  refine r_iconst C (0 : Int32) dX2_within_0 (by decide) ?_
  refine r_istore_n C [some (.ref (cF Θ 7)), some (.int a1), some (.int a2), some (.int (0 : Int32)), none] dX2_within_1 rfl (by decide) rfl ?_
  refine r_iconst C (0 : Int32) dX2_within_2 (by decide) ?_
  refine r_istore C [some (.ref (cF Θ 7)), some (.int a1), some (.int a2), some (.int (0 : Int32)), some (.int (0 : Int32))] dX2_within_3 rfl (by decide) rfl ?_
  refine WA.join (α := Int32) 73 (fun e6 => [none, none, none, some (.int e6), none]) (fun e6 => []) (fun e6 => σ) (fun e6 => True) (fun e6 h7 => ?_) (fun J8 => ?_)
  · refine r_iload_n C dX2_within_73 rfl ?_
    exact r_iret C dX2_within_74 rfl rfl trivial
  · refine WA.wk (lv' := [some (.ref (cF Θ 7)), some (.int a1), some (.int a2), some (.int (0 : Int32)), some (.int (0 : Int32))]) [true, true, true, true, true] rfl ?_
    refine WA.itr (S := Int32 × Int32) 5 (fun s1 => [some (.ref (cF Θ 7)), some (.int a1), some (.int a2), some (.int s1.1), some (.int s1.2)]) (fun s1 => []) (fun s1 => σ) (fun s1 => True) (fun s1 k5 h2 ih3 hx4 => ?_) FU ((0 : Int32), (0 : Int32)) trivial
    refine r_iload C dX2_within_5 rfl ?_
    refine r_aload_n C dX2_within_7 rfl ?_
    refine r_getI0 C dX2_within_8 fg_X2_36 (by decide) ?_
    refine WA.bif ?_
    refine r_icmp_ge C 73 dX2_within_11 (by decide) ?_ ?_
    · refine WA.wk (lv' := [none, none, none, some (.int s1.1), none]) [false, false, false, true, false] rfl ?_
      exact WA.eqK (hx4 _) (J8 s1.1 trivial)
    · refine r_iload C dX2_within_14 rfl ?_
      refine r_bipush C (60 : Int32) dX2_within_16 (by decide) ?_
      refine WA.bif ?_
      refine r_icmp_ge C 73 dX2_within_18 (by decide) ?_ ?_
      · refine WA.wk (lv' := [none, none, none, some (.int s1.1), none]) [false, false, false, true, false] rfl ?_
        exact WA.eqK (hx4 _) (J8 s1.1 trivial)
      · refine r_aload_n C dX2_within_21 rfl ?_
        refine r_getF0 C dX2_within_22 fg_X2_9 (by decide) ?_
        refine r_iload C dX2_within_25 rfl ?_
        refine WA.asc ?_
        refine r_iald (α := Unit) C dX2_within_27 ag_LC_33 (fun i9 => ?_)
        refine r_iload_n C dX2_within_28 rfl ?_
        refine WA.asc ?_
        refine WA.join (α := Int32) 67 (fun t10 => [some (.ref (cF Θ 7)), some (.int a1), some (.int a2), some (.int t10), some (.int s1.2)]) (fun t10 => []) (fun t10 => σ) (fun t10 => True) (fun t10 h11 => ?_) (fun J12 => ?_)
        · refine r_iinc C (1 : Int32) [some (.ref (cF Θ 7)), some (.int a1), some (.int a2), some (.int t10), some (.int (s1.2 + (1 : Int32)))] dX2_within_67 (by decide) rfl rfl (by decide) rfl ?_
          refine r_goto C 5 dX2_within_70 (by decide) ?_
          refine WA.wk (lv' := [some (.ref (cF Θ 7)), some (.int a1), some (.int a2), some (.int t10), some (.int (s1.2 + (1 : Int32)))]) [true, true, true, true, true] rfl ?_
          exact ih3 (t10, s1.2 + (1 : Int32)) trivial
        · refine WA.bif ?_
          refine r_icmp_ne C 67 dX2_within_29 (by decide) ?_ ?_
          · refine WA.wk (lv' := [some (.ref (cF Θ 7)), some (.int a1), some (.int a2), some (.int s1.1), some (.int s1.2)]) [true, true, true, true, true] rfl ?_
            exact J12 s1.1 trivial
          · refine r_aload_n C dX2_within_32 rfl ?_
            refine r_getF0 C dX2_within_33 fg_X2_15 (by decide) ?_
            refine r_iload C dX2_within_36 rfl ?_
            refine WA.asc ?_
            refine r_iald (α := Unit) C dX2_within_38 ag_LC_34 (fun i13 => ?_)
            refine r_iload_n C dX2_within_39 rfl ?_
            refine WA.bif ?_
            refine r_icmp_gt C 67 dX2_within_40 (by decide) ?_ ?_
            · refine WA.wk (lv' := [some (.ref (cF Θ 7)), some (.int a1), some (.int a2), some (.int s1.1), some (.int s1.2)]) [true, true, true, true, true] rfl ?_
              exact J12 s1.1 trivial
            · refine r_aload_n C dX2_within_43 rfl ?_
              refine r_getF0 C dX2_within_44 fg_X2_15 (by decide) ?_
              refine r_iload C dX2_within_47 rfl ?_
              refine WA.asc ?_
              refine r_iald (α := Unit) C dX2_within_49 ag_LC_34 (fun i14 => ?_)
              refine r_iload_n C dX2_within_50 rfl ?_
              refine r_bipush C (90 : Int32) dX2_within_51 (by decide) ?_
              refine r_isub C dX2_within_53 ?_
              refine WA.bif ?_
              refine r_icmp_le C 67 dX2_within_54 (by decide) ?_ ?_
              · refine WA.wk (lv' := [some (.ref (cF Θ 7)), some (.int a1), some (.int a2), some (.int s1.1), some (.int s1.2)]) [true, true, true, true, true] rfl ?_
                exact J12 s1.1 trivial
              · refine r_iload_n C dX2_within_57 rfl ?_
                refine r_aload_n C dX2_within_58 rfl ?_
                refine r_getF0 C dX2_within_59 fg_X2_18 (by decide) ?_
                refine r_iload C dX2_within_62 rfl ?_
                refine WA.asc ?_
                refine r_iald (α := Unit) C dX2_within_64 ag_LC_35 (fun i15 => ?_)
                refine r_iadd C dX2_within_65 ?_
                refine r_istore_n C [some (.ref (cF Θ 7)), some (.int a1), some (.int a2), some (.int (s1.1 + (σ.1 0 35 i15))), some (.int s1.2)] dX2_within_66 rfl (by decide) rfl ?_
                refine WA.wk (lv' := [some (.ref (cF Θ 7)), some (.int a1), some (.int a2), some (.int (s1.1 + (σ.1 0 35 i15))), some (.int s1.2)]) [true, true, true, true, true] rfl ?_
                exact J12 (s1.1 + (σ.1 0 35 i15)) trivial
theorem c_p_Endings_within (l : Launch) (ω : Wd) (ad : Nat → Nat → Nat) (N : Nat → Nat) (σ : St) (a1 : Int32) (a2 : Int32) : ∀ r : Int32, p_Endings_within σ a1 a2 = some r → Ct l yX2_within cX2_within 5 (some .int) ({ frames := 0, cells := 0, slots := 0, locals := 0 } : Room) LC ω ad N [.ref (ω.2.1 7), .int a1, .int a2] σ (some (.int r)) σ (True) :=
  ct_of (o := fun r : Int32 => (some (.int r))) (s' := fun r => σ) (P := fun r => True) [some (.ref (ω.2.1 7)), some (.int a1), some (.int a2), none, none] (by decide) rfl (Nat.le_of_ble_eq_true rfl) (fun Γ C _ _ => w_p_Endings_within (Γ, ω, 5, ad, N, 0, 0) σ a1 a2 C)
theorem gs_X11_350 : Cond.fieldLink RX11 350 "PostsEnd" (snm 2) "[I" ∈ wt := in_wt 1080 (by decide +kernel) (by decide +kernel)
/-- PostsEnd.private static int bandOf(int) -/
def p_PE_bandOf (a0 : Int32) : Option Int32 := (Option.bind (itr0 (S := Int32 × Int32) (E := Int32) (fun s1 => (if s1.2 < (3 : Int32) then (Option.bind (ix 3 s1.2) fun i9 => (Option.bind (α := Int32) ((if a0 < scon 2 i9 then some s1.1 else some s1.2)) fun t10 => some (.inl (t10, s1.2 + (1 : Int32))))) else some (.inr s1.1))) FU ((0 : Int32), (1 : Int32))) fun e6 => some e6)
set_option maxRecDepth 20000 in
set_option maxHeartbeats 4000000 in
theorem w_p_PE_bandOf (Θ : TT) (σ : St) (a0 : Int32) (C : CX Θ cX11_bandOf RX11 (some .int) ({ frames := 0, cells := 0, slots := 0, locals := 0 } : Room) 3) : WA LC Θ (fun r : Int32 => Qm LC Θ (some (.int r)) σ (True)) 0 [some (.int a0), none, none] [] σ (p_PE_bandOf a0) := by
  unfold p_PE_bandOf
  refine r_iconst C (0 : Int32) dX11_bandOf_0 (by decide) ?_
  refine r_istore_n C [some (.int a0), some (.int (0 : Int32)), none] dX11_bandOf_1 rfl (by decide) rfl ?_
  refine r_iconst C (1 : Int32) dX11_bandOf_2 (by decide) ?_
  refine r_istore_n C [some (.int a0), some (.int (0 : Int32)), some (.int (1 : Int32))] dX11_bandOf_3 rfl (by decide) rfl ?_
  refine WA.join (α := Int32) 26 (fun e6 => [none, some (.int e6), none]) (fun e6 => []) (fun e6 => σ) (fun e6 => True) (fun e6 h7 => ?_) (fun J8 => ?_)
  · refine r_iload_n C dX11_bandOf_26 rfl ?_
    exact r_iret C dX11_bandOf_27 rfl rfl trivial
  · refine WA.wk (lv' := [some (.int a0), some (.int (0 : Int32)), some (.int (1 : Int32))]) [true, true, true] rfl ?_
    refine WA.itr (S := Int32 × Int32) 4 (fun s1 => [some (.int a0), some (.int s1.1), some (.int s1.2)]) (fun s1 => []) (fun s1 => σ) (fun s1 => True) (fun s1 k5 h2 ih3 hx4 => ?_) FU ((0 : Int32), (1 : Int32)) trivial
    refine r_iload_n C dX11_bandOf_4 rfl ?_
    refine r_iconst C (3 : Int32) dX11_bandOf_5 (by decide) ?_
    refine WA.bif ?_
    refine r_icmp_ge C 26 dX11_bandOf_6 (by decide) ?_ ?_
    · refine WA.wk (lv' := [none, some (.int s1.1), none]) [false, true, false] rfl ?_
      exact WA.eqK (hx4 _) (J8 s1.1 trivial)
    · refine r_iload_n C dX11_bandOf_9 rfl ?_
      refine r_gets C 2 (by decide) dX11_bandOf_10 gs_X11_350 ?_
      refine r_iload_n C dX11_bandOf_13 rfl ?_
      refine WA.asc ?_
      refine r_sald C dX11_bandOf_14 (by decide) (fun i9 => ?_)
      refine WA.asc ?_
      refine WA.join (α := Int32) 20 (fun t10 => [some (.int a0), some (.int t10), some (.int s1.2)]) (fun t10 => []) (fun t10 => σ) (fun t10 => True) (fun t10 h11 => ?_) (fun J12 => ?_)
      · refine r_iinc C (1 : Int32) [some (.int a0), some (.int t10), some (.int (s1.2 + (1 : Int32)))] dX11_bandOf_20 (by decide) rfl rfl (by decide) rfl ?_
        refine r_goto C 4 dX11_bandOf_23 (by decide) ?_
        refine WA.wk (lv' := [some (.int a0), some (.int t10), some (.int (s1.2 + (1 : Int32)))]) [true, true, true] rfl ?_
        exact ih3 (t10, s1.2 + (1 : Int32)) trivial
      · refine WA.bif ?_
        refine r_icmp_lt C 20 dX11_bandOf_15 (by decide) ?_ ?_
        · refine WA.wk (lv' := [some (.int a0), some (.int s1.1), some (.int s1.2)]) [true, true, true] rfl ?_
          exact J12 s1.1 trivial
        · refine r_iload_n C dX11_bandOf_18 rfl ?_
          refine r_istore_n C [some (.int a0), some (.int s1.2), some (.int s1.2)] dX11_bandOf_19 rfl (by decide) rfl ?_
          refine WA.wk (lv' := [some (.int a0), some (.int s1.2), some (.int s1.2)]) [true, true, true] rfl ?_
          exact J12 s1.2 trivial
theorem c_p_PE_bandOf (l : Launch) (ω : Wd) (ad : Nat → Nat → Nat) (N : Nat → Nat) (σ : St) (a0 : Int32) : ∀ r : Int32, p_PE_bandOf a0 = some r → Ct l yX11_bandOf cX11_bandOf 3 (some .int) ({ frames := 0, cells := 0, slots := 0, locals := 0 } : Room) LC ω ad N [.int a0] σ (some (.int r)) σ (True) :=
  ct_of (o := fun r : Int32 => (some (.int r))) (s' := fun r => σ) (P := fun r => True) [some (.int a0), none, none] (by decide) rfl (Nat.le_of_ble_eq_true rfl) (fun Γ C _ _ => w_p_PE_bandOf (Γ, ω, 3, ad, N, 0, 0) σ a0 C)
theorem gs_X11_353 : Cond.fieldLink RX11 353 "PostsEnd" (snm 3) "[I" ∈ wt := in_wt 1085 (by decide +kernel) (by decide +kernel)
/-- PostsEnd.private static int noticeOf(int) -/
def p_PE_noticeOf (a0 : Int32) : Option Int32 := (if a0 < 0 then some (0 : Int32) else (if a0 < (3 : Int32) then (Option.bind (ix 3 a0) fun i1 => some (scon 3 i1)) else some (0 : Int32)))
set_option maxRecDepth 20000 in
set_option maxHeartbeats 4000000 in
theorem w_p_PE_noticeOf (Θ : TT) (σ : St) (a0 : Int32) (C : CX Θ cX11_noticeOf RX11 (some .int) ({ frames := 0, cells := 0, slots := 0, locals := 0 } : Room) 1) : WA LC Θ (fun r : Int32 => Qm LC Θ (some (.int r)) σ (True)) 0 [some (.int a0)] [] σ (p_PE_noticeOf a0) := by
  unfold p_PE_noticeOf
  refine r_iload_n C dX11_noticeOf_0 rfl ?_
  refine r_if_lt C 17 dX11_noticeOf_1 (by decide) ?_ ?_
  · refine r_iconst C (0 : Int32) dX11_noticeOf_17 (by decide) ?_
    exact r_iret C dX11_noticeOf_18 rfl rfl trivial
  · refine r_iload_n C dX11_noticeOf_4 rfl ?_
    refine r_iconst C (3 : Int32) dX11_noticeOf_5 (by decide) ?_
    refine r_icmp_ge C 17 dX11_noticeOf_6 (by decide) ?_ ?_
    · refine r_iconst C (0 : Int32) dX11_noticeOf_17 (by decide) ?_
      exact r_iret C dX11_noticeOf_18 rfl rfl trivial
    · refine r_gets C 3 (by decide) dX11_noticeOf_9 gs_X11_353 ?_
      refine r_iload_n C dX11_noticeOf_12 rfl ?_
      refine r_sald C dX11_noticeOf_13 (by decide) (fun i1 => ?_)
      refine r_goto C 18 dX11_noticeOf_14 (by decide) ?_
      exact r_iret C dX11_noticeOf_18 rfl rfl trivial
theorem c_p_PE_noticeOf (l : Launch) (ω : Wd) (ad : Nat → Nat → Nat) (N : Nat → Nat) (σ : St) (a0 : Int32) : ∀ r : Int32, p_PE_noticeOf a0 = some r → Ct l yX11_noticeOf cX11_noticeOf 1 (some .int) ({ frames := 0, cells := 0, slots := 0, locals := 0 } : Room) LC ω ad N [.int a0] σ (some (.int r)) σ (True) :=
  ct_of (o := fun r : Int32 => (some (.int r))) (s' := fun r => σ) (P := fun r => True) [some (.int a0)] (by decide) rfl (Nat.le_of_ble_eq_true rfl) (fun Γ C _ _ => w_p_PE_noticeOf (Γ, ω, 1, ad, N, 0, 0) σ a0 C)
