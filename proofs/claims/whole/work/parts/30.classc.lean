theorem sw_X11_noticeOf : SW yX11_noticeOf cX11_noticeOf 1 (some .int) 1 := ⟨⟨(in_wt 80 (by decide +kernel) (by decide +kernel)), (in_wt 1084 (by decide +kernel) (by decide +kernel)), by decide +kernel⟩, (in_wt 1083 (by decide +kernel) (by decide +kernel))⟩
theorem nl_X2_78 : (RX2, 78, yX11_noticeOf, "PostsEnd") ∈ nws := List.mem_of_getElem? (i := 3) rfl
/-- PostsEnd$Endings.private static int weeksEach(int, int) -/
def p_Endings_weeksEach (a0 : Int32) (a1 : Int32) : Option Int32 := (Option.bind (p_PE_noticeOf a1) fun r1 => some ((((r1 + (7 : Int32)) - (1 : Int32)) / (7 : Int32)) + a0))
set_option maxRecDepth 20000 in
set_option maxHeartbeats 4000000 in
theorem w_p_Endings_weeksEach (Θ : TT) (σ : St) (a0 : Int32) (a1 : Int32) (C : CX Θ cX2_weeksEach RX2 (some .int) ({ frames := 1, cells := 0, slots := 0, locals := 20 } : Room) 2) : WA LC Θ (fun r : Int32 => Qm LC Θ (some (.int r)) σ (True)) 0 [some (.int a0), some (.int a1)] [] σ (p_Endings_weeksEach a0 a1) := by
  unfold p_Endings_weeksEach
  refine r_iload_n C dX2_weeksEach_0 rfl ?_
  refine r_callN C (st := []) (As := [.int a1]) dX2_weeksEach_1 nl_X2_78 sw_X11_noticeOf (fun r1 e => c_p_PE_noticeOf Θ.1.2.1 (cW Θ) (cAd Θ) (cN Θ) σ a1 r1 e) rfl rfl (Nat.le_of_ble_eq_true rfl) ⟨rfl, rfl, by decide, by decide⟩ (fun r1 h2 => ?_)
  refine r_bipush C (7 : Int32) dX2_weeksEach_4 (by decide) ?_
  refine r_iadd C dX2_weeksEach_6 ?_
  refine r_iconst C (1 : Int32) dX2_weeksEach_7 (by decide) ?_
  refine r_isub C dX2_weeksEach_8 ?_
  refine r_bipush C (7 : Int32) dX2_weeksEach_9 (by decide) ?_
  refine r_idivc C dX2_weeksEach_11 (by decide) ?_
  refine r_iload_n C dX2_weeksEach_12 rfl ?_
  refine r_iadd C dX2_weeksEach_13 ?_
  exact r_iret C dX2_weeksEach_14 rfl rfl trivial
theorem c_p_Endings_weeksEach (l : Launch) (ω : Wd) (ad : Nat → Nat → Nat) (N : Nat → Nat) (σ : St) (a0 : Int32) (a1 : Int32) : ∀ r : Int32, p_Endings_weeksEach a0 a1 = some r → Ct l yX2_weeksEach cX2_weeksEach 2 (some .int) ({ frames := 1, cells := 0, slots := 0, locals := 20 } : Room) LC ω ad N [.int a0, .int a1] σ (some (.int r)) σ (True) :=
  ct_of (o := fun r : Int32 => (some (.int r))) (s' := fun r => σ) (P := fun r => True) [some (.int a0), some (.int a1)] (by decide) rfl (Nat.le_of_ble_eq_true rfl) (fun Γ C _ _ => w_p_Endings_weeksEach (Γ, ω, 2, ad, N, 0, 0) σ a0 a1 C)
theorem ag_LC_36 : AG LC 36 0 201 := ⟨by decide, rfl⟩
theorem ag_LC_38 : AG LC 38 0 6 := ⟨by decide, rfl⟩
theorem sw_X2_weeksEach : SW yX2_weeksEach cX2_weeksEach 2 (some .int) 2 := ⟨⟨(in_wt 87 (by decide +kernel) (by decide +kernel)), (in_wt 1108 (by decide +kernel) (by decide +kernel)), by decide +kernel⟩, (in_wt 1107 (by decide +kernel) (by decide +kernel))⟩
theorem sw_X11_bandOf : SW yX11_bandOf cX11_bandOf 3 (some .int) 1 := ⟨⟨(in_wt 80 (by decide +kernel) (by decide +kernel)), (in_wt 1079 (by decide +kernel) (by decide +kernel)), by decide +kernel⟩, (in_wt 1078 (by decide +kernel) (by decide +kernel))⟩
theorem fg_X2_21 : FG LC RX2 21 0 7 4 (1, 36) := ⟨_, _, _, _, _, rfl, rfl, rfl, by decide, uw_X2, (in_wt 346 (by decide +kernel) (by decide +kernel))⟩
theorem fg_X2_27 : FG LC RX2 27 0 7 6 (1, 38) := ⟨_, _, _, _, _, rfl, rfl, rfl, by decide, uw_X2, (in_wt 348 (by decide +kernel) (by decide +kernel))⟩
theorem fg_X2_49 : FG LC RX2 49 0 7 9 (0, 0) := ⟨_, _, _, _, _, rfl, rfl, rfl, by decide, uw_X2, (in_wt 351 (by decide +kernel) (by decide +kernel))⟩
theorem fg_X2_52 : FG LC RX2 52 0 7 10 (0, 0) := ⟨_, _, _, _, _, rfl, rfl, rfl, by decide, uw_X2, (in_wt 352 (by decide +kernel) (by decide +kernel))⟩
theorem fg_X2_55 : FG LC RX2 55 0 7 11 (0, 0) := ⟨_, _, _, _, _, rfl, rfl, rfl, by decide, uw_X2, (in_wt 353 (by decide +kernel) (by decide +kernel))⟩
theorem fg_X2_58 : FG LC RX2 58 0 7 12 (0, 0) := ⟨_, _, _, _, _, rfl, rfl, rfl, by decide, uw_X2, (in_wt 354 (by decide +kernel) (by decide +kernel))⟩
theorem ml_X2_75 : Cond.methodLink RX2 75 yX2_weeksEach ∈ wt := in_wt 1106 (by decide +kernel) (by decide +kernel)
theorem nl_X2_71 : (RX2, 71, yX11_bandOf, "PostsEnd") ∈ nws := List.mem_of_getElem? (i := 2) rfl
/-- PostsEnd$Endings.private void fillLastWeek(int) -/
def p_Endings_fillLastWeek (σ : St) (a1 : Int32) : Option St := (Option.bind (ix 6 (σ.1 0 7 9)) fun i1 => (Option.bind (p_PE_bandOf ((σ.1 0 38 i1) + a1)) fun r2 => (Option.bind (p_Endings_weeksEach (σ.1 0 7 9) r2) fun r4 => (Option.bind (itr0 (S := Int32 × St) (E := St) (fun s6 => (if s6.2.1 0 7 11 < s6.1 then some (.inr s6.2) else (Option.bind (ix 201 s6.1) fun i14 => (lt1 (sx s6.2 0 36 i14 (((((s6.2.1 0 7 11) - s6.1) * (s6.2.1 0 7 10)) + (s6.2.1 0 7 12)) * r4)) fun σ15 => some (.inl (s6.1 + (1 : Int32), σ15)))))) FU ((0 : Int32), σ)) fun e11 => some e11))))
set_option maxRecDepth 20000 in
set_option maxHeartbeats 4000000 in
theorem w_p_Endings_fillLastWeek (Θ : TT) (σ : St) (a1 : Int32) (C : CX Θ cX2_fillLastWeek RX2 none ({ frames := 2, cells := 0, slots := 0, locals := 41 } : Room) 4) : WA LC Θ (fun r : St => Qm LC Θ none r (True)) 0 [some (.ref (cF Θ 7)), some (.int a1), none, none] [] σ (p_Endings_fillLastWeek σ a1) := by
  unfold p_Endings_fillLastWeek
  refine r_aload_n C dX2_fillLastWeek_0 rfl ?_
  refine r_getI0 C dX2_fillLastWeek_1 fg_X2_49 (by decide) ?_
  refine r_aload_n C dX2_fillLastWeek_4 rfl ?_
  refine r_getF0 C dX2_fillLastWeek_5 fg_X2_27 (by decide) ?_
  refine r_aload_n C dX2_fillLastWeek_8 rfl ?_
  refine r_getI0 C dX2_fillLastWeek_9 fg_X2_49 (by decide) ?_
  refine r_iald (α := Unit) C dX2_fillLastWeek_12 ag_LC_38 (fun i1 => ?_)
  refine r_iload_n C dX2_fillLastWeek_13 rfl ?_
  refine r_iadd C dX2_fillLastWeek_14 ?_
  refine r_callN C (st := [.int (σ.1 0 7 9)]) (As := [.int ((σ.1 0 38 i1) + a1)]) dX2_fillLastWeek_15 nl_X2_71 sw_X11_bandOf (fun r2 e => c_p_PE_bandOf Θ.1.2.1 (cW Θ) (cAd Θ) (cN Θ) σ ((σ.1 0 38 i1) + a1) r2 e) rfl rfl (Nat.le_of_ble_eq_true rfl) ⟨rfl, rfl, by decide, by decide⟩ (fun r2 h3 => ?_)
  refine r_callS C (st := []) (As := [.int (σ.1 0 7 9), .int r2]) dX2_fillLastWeek_18 ml_X2_75 sw_X2_weeksEach (fun r4 e => c_p_Endings_weeksEach Θ.1.2.1 (cW Θ) (cAd Θ) (cN Θ) σ (σ.1 0 7 9) r2 r4 e) rfl rfl (Nat.le_of_ble_eq_true rfl) ⟨rfl, rfl, by decide, by decide⟩ (fun r4 h5 => ?_)
  refine r_istore_n C [some (.ref (cF Θ 7)), some (.int a1), some (.int r4), none] dX2_fillLastWeek_21 rfl (by decide) rfl ?_
  refine r_iconst C (0 : Int32) dX2_fillLastWeek_22 (by decide) ?_
  refine r_istore_n C [some (.ref (cF Θ 7)), some (.int a1), some (.int r4), some (.int (0 : Int32))] dX2_fillLastWeek_23 rfl (by decide) rfl ?_
  refine WA.join (α := St) 62 (fun e11 => [none, none, none, none]) (fun e11 => []) (fun e11 => e11) (fun e11 => True) (fun e11 h12 => ?_) (fun J13 => ?_)
  · exact r_vret C dX2_fillLastWeek_62 rfl rfl trivial
  · refine WA.wk (lv' := [some (.ref (cF Θ 7)), none, some (.int r4), some (.int (0 : Int32))]) [true, false, true, true] rfl ?_
    refine WA.itr (S := Int32 × St) 24 (fun s6 => [some (.ref (cF Θ 7)), none, some (.int r4), some (.int s6.1)]) (fun s6 => []) (fun s6 => s6.2) (fun s6 => True) (fun s6 k10 h7 ih8 hx9 => ?_) FU ((0 : Int32), σ) trivial
    refine r_iload_n C dX2_fillLastWeek_24 rfl ?_
    refine r_aload_n C dX2_fillLastWeek_25 rfl ?_
    refine r_getI0 C dX2_fillLastWeek_26 fg_X2_55 (by decide) ?_
    refine WA.bif ?_
    refine r_icmp_gt C 62 dX2_fillLastWeek_29 (by decide) ?_ ?_
    · refine WA.wk (lv' := [none, none, none, none]) [false, false, false, false] rfl ?_
      exact WA.eqK (hx9 _) (J13 s6.2 trivial)
    · refine r_aload_n C dX2_fillLastWeek_32 rfl ?_
      refine r_getF0 C dX2_fillLastWeek_33 fg_X2_21 (by decide) ?_
      refine r_iload_n C dX2_fillLastWeek_36 rfl ?_
      refine r_aload_n C dX2_fillLastWeek_37 rfl ?_
      refine r_getI0 C dX2_fillLastWeek_38 fg_X2_55 (by decide) ?_
      refine r_iload_n C dX2_fillLastWeek_41 rfl ?_
      refine r_isub C dX2_fillLastWeek_42 ?_
      refine r_aload_n C dX2_fillLastWeek_43 rfl ?_
      refine r_getI0 C dX2_fillLastWeek_44 fg_X2_52 (by decide) ?_
      refine r_imul C dX2_fillLastWeek_47 ?_
      refine r_aload_n C dX2_fillLastWeek_48 rfl ?_
      refine r_getI0 C dX2_fillLastWeek_49 fg_X2_58 (by decide) ?_
      refine r_iadd C dX2_fillLastWeek_52 ?_
      refine r_iload_n C dX2_fillLastWeek_53 rfl ?_
      refine r_imul C dX2_fillLastWeek_54 ?_
      refine WA.asc ?_
      refine r_iast C dX2_fillLastWeek_55 ag_LC_36 (fun i14 => ?_)
      refine WA.genB (fun σ15 => ?_)
      refine r_iinc C (1 : Int32) [some (.ref (cF Θ 7)), none, some (.int r4), some (.int (s6.1 + (1 : Int32)))] dX2_fillLastWeek_56 (by decide) rfl rfl (by decide) rfl ?_
      refine r_goto C 24 dX2_fillLastWeek_59 (by decide) ?_
      refine WA.wk (lv' := [some (.ref (cF Θ 7)), none, some (.int r4), some (.int (s6.1 + (1 : Int32)))]) [true, false, true, true] rfl ?_
      exact ih8 (s6.1 + (1 : Int32), σ15) trivial
theorem c_p_Endings_fillLastWeek (l : Launch) (ω : Wd) (ad : Nat → Nat → Nat) (N : Nat → Nat) (σ : St) (a1 : Int32) : ∀ r : St, p_Endings_fillLastWeek σ a1 = some r → Ct l yX2_fillLastWeek cX2_fillLastWeek 4 none ({ frames := 2, cells := 0, slots := 0, locals := 41 } : Room) LC ω ad N [.ref (ω.2.1 7), .int a1] σ none r (True) :=
  ct_of (o := fun r : St => none) (s' := fun r => r) (P := fun r => True) [some (.ref (ω.2.1 7)), some (.int a1), none, none] (by decide) rfl (Nat.le_of_ble_eq_true rfl) (fun Γ C _ _ => w_p_Endings_fillLastWeek (Γ, ω, 4, ad, N, 0, 0) σ a1 C)
theorem ag_LC_39 : AG LC 39 0 3 := ⟨by decide, rfl⟩
theorem ag_LC_40 : AG LC 40 0 3 := ⟨by decide, rfl⟩
theorem fg_X2_30 : FG LC RX2 30 0 7 7 (1, 39) := ⟨_, _, _, _, _, rfl, rfl, rfl, by decide, uw_X2, (in_wt 349 (by decide +kernel) (by decide +kernel))⟩
theorem fg_X2_33 : FG LC RX2 33 0 7 8 (1, 40) := ⟨_, _, _, _, _, rfl, rfl, rfl, by decide, uw_X2, (in_wt 350 (by decide +kernel) (by decide +kernel))⟩
/-- PostsEnd$Endings.private void keepLeast(int, int) -/
def p_Endings_keepLeast (σ : St) (a1 : Int32) (a2 : Int32) : Option St := (Option.bind (ix 6 a1) fun i1 => (Option.bind (p_PE_bandOf ((σ.1 0 38 i1) + (a2 * (σ.1 0 7 10)))) fun r2 => (Option.bind (p_Endings_weeksEach a1 r2) fun r4 => (Option.bind (ix 201 a2) fun i6 => (Option.bind (ix 3 r2) fun i7 => (if σ.1 0 40 i7 < 0 then (Option.bind (ix 3 r2) fun i8 => (lt1 (sx σ 0 39 i8 (((a2 * (σ.1 0 7 10)) * r4) + (σ.1 0 36 i6))) fun σ9 => (Option.bind (ix 3 r2) fun i10 => (lt1 (sx σ9 0 40 i10 a2) fun σ11 => some σ11)))) else (Option.bind (ix 3 r2) fun i12 => (if ((a2 * (σ.1 0 7 10)) * r4) + (σ.1 0 36 i6) < σ.1 0 39 i12 then (Option.bind (ix 3 r2) fun i13 => (lt1 (sx σ 0 39 i13 (((a2 * (σ.1 0 7 10)) * r4) + (σ.1 0 36 i6))) fun σ14 => (Option.bind (ix 3 r2) fun i15 => (lt1 (sx σ14 0 40 i15 a2) fun σ16 => some σ16)))) else some σ))))))))
set_option maxRecDepth 20000 in
set_option maxHeartbeats 4000000 in
theorem w_p_Endings_keepLeast (Θ : TT) (σ : St) (a1 : Int32) (a2 : Int32) (C : CX Θ cX2_keepLeast RX2 none ({ frames := 2, cells := 0, slots := 0, locals := 41 } : Room) 5) : WA LC Θ (fun r : St => Qm LC Θ none r (True)) 0 [some (.ref (cF Θ 7)), some (.int a1), some (.int a2), none, none] [] σ (p_Endings_keepLeast σ a1 a2) := by
  unfold p_Endings_keepLeast
  refine r_aload_n C dX2_keepLeast_0 rfl ?_
  refine r_getF0 C dX2_keepLeast_1 fg_X2_27 (by decide) ?_
  refine r_iload_n C dX2_keepLeast_4 rfl ?_
  refine r_iald (α := Unit) C dX2_keepLeast_5 ag_LC_38 (fun i1 => ?_)
  refine r_iload_n C dX2_keepLeast_6 rfl ?_
  refine r_aload_n C dX2_keepLeast_7 rfl ?_
  refine r_getI0 C dX2_keepLeast_8 fg_X2_52 (by decide) ?_
  refine r_imul C dX2_keepLeast_11 ?_
  refine r_iadd C dX2_keepLeast_12 ?_
  refine r_callN C (st := []) (As := [.int ((σ.1 0 38 i1) + (a2 * (σ.1 0 7 10)))]) dX2_keepLeast_13 nl_X2_71 sw_X11_bandOf (fun r2 e => c_p_PE_bandOf Θ.1.2.1 (cW Θ) (cAd Θ) (cN Θ) σ ((σ.1 0 38 i1) + (a2 * (σ.1 0 7 10))) r2 e) rfl rfl (Nat.le_of_ble_eq_true rfl) ⟨rfl, rfl, by decide, by decide⟩ (fun r2 h3 => ?_)
  refine r_istore_n C [some (.ref (cF Θ 7)), some (.int a1), some (.int a2), some (.int r2), none] dX2_keepLeast_16 rfl (by decide) rfl ?_
  refine r_iload_n C dX2_keepLeast_17 rfl ?_
  refine r_aload_n C dX2_keepLeast_18 rfl ?_
  refine r_getI0 C dX2_keepLeast_19 fg_X2_52 (by decide) ?_
  refine r_imul C dX2_keepLeast_22 ?_
  refine r_iload_n C dX2_keepLeast_23 rfl ?_
  refine r_iload_n C dX2_keepLeast_24 rfl ?_
  refine r_callS C (st := [.int (a2 * (σ.1 0 7 10))]) (As := [.int a1, .int r2]) dX2_keepLeast_25 ml_X2_75 sw_X2_weeksEach (fun r4 e => c_p_Endings_weeksEach Θ.1.2.1 (cW Θ) (cAd Θ) (cN Θ) σ a1 r2 r4 e) rfl rfl (Nat.le_of_ble_eq_true rfl) ⟨rfl, rfl, by decide, by decide⟩ (fun r4 h5 => ?_)
  refine r_imul C dX2_keepLeast_28 ?_
  refine r_aload_n C dX2_keepLeast_29 rfl ?_
  refine r_getF0 C dX2_keepLeast_30 fg_X2_21 (by decide) ?_
  refine r_iload_n C dX2_keepLeast_33 rfl ?_
  refine r_iald (α := Unit) C dX2_keepLeast_34 ag_LC_36 (fun i6 => ?_)
  refine r_iadd C dX2_keepLeast_35 ?_
  refine r_istore C [some (.ref (cF Θ 7)), some (.int a1), some (.int a2), some (.int r2), some (.int (((a2 * (σ.1 0 7 10)) * r4) + (σ.1 0 36 i6)))] dX2_keepLeast_36 rfl (by decide) rfl ?_
  refine r_aload_n C dX2_keepLeast_38 rfl ?_
  refine r_getF0 C dX2_keepLeast_39 fg_X2_33 (by decide) ?_
  refine r_iload_n C dX2_keepLeast_42 rfl ?_
  refine r_iald (α := Unit) C dX2_keepLeast_43 ag_LC_40 (fun i7 => ?_)
  refine r_if_lt C 58 dX2_keepLeast_44 (by decide) ?_ ?_
  · refine r_aload_n C dX2_keepLeast_58 rfl ?_
    refine r_getF0 C dX2_keepLeast_59 fg_X2_30 (by decide) ?_
    refine r_iload_n C dX2_keepLeast_62 rfl ?_
    refine r_iload C dX2_keepLeast_63 rfl ?_
    refine r_iast C dX2_keepLeast_65 ag_LC_39 (fun i8 => ?_)
    refine WA.gen (fun σ9 => ?_)
    refine r_aload_n C dX2_keepLeast_66 rfl ?_
    refine r_getF0 C dX2_keepLeast_67 fg_X2_33 (by decide) ?_
    refine r_iload_n C dX2_keepLeast_70 rfl ?_
    refine r_iload_n C dX2_keepLeast_71 rfl ?_
    refine r_iast C dX2_keepLeast_72 ag_LC_40 (fun i10 => ?_)
    refine WA.gen (fun σ11 => ?_)
    exact r_vret C dX2_keepLeast_73 rfl rfl trivial
  · refine r_iload C dX2_keepLeast_47 rfl ?_
    refine r_aload_n C dX2_keepLeast_49 rfl ?_
    refine r_getF0 C dX2_keepLeast_50 fg_X2_30 (by decide) ?_
    refine r_iload_n C dX2_keepLeast_53 rfl ?_
    refine r_iald (α := Unit) C dX2_keepLeast_54 ag_LC_39 (fun i12 => ?_)
    refine r_icmp_ge C 73 dX2_keepLeast_55 (by decide) ?_ ?_
    · exact r_vret C dX2_keepLeast_73 rfl rfl trivial
    · refine r_aload_n C dX2_keepLeast_58 rfl ?_
      refine r_getF0 C dX2_keepLeast_59 fg_X2_30 (by decide) ?_
      refine r_iload_n C dX2_keepLeast_62 rfl ?_
      refine r_iload C dX2_keepLeast_63 rfl ?_
      refine r_iast C dX2_keepLeast_65 ag_LC_39 (fun i13 => ?_)
      refine WA.gen (fun σ14 => ?_)
      refine r_aload_n C dX2_keepLeast_66 rfl ?_
      refine r_getF0 C dX2_keepLeast_67 fg_X2_33 (by decide) ?_
      refine r_iload_n C dX2_keepLeast_70 rfl ?_
      refine r_iload_n C dX2_keepLeast_71 rfl ?_
      refine r_iast C dX2_keepLeast_72 ag_LC_40 (fun i15 => ?_)
      refine WA.gen (fun σ16 => ?_)
      exact r_vret C dX2_keepLeast_73 rfl rfl trivial
theorem c_p_Endings_keepLeast (l : Launch) (ω : Wd) (ad : Nat → Nat → Nat) (N : Nat → Nat) (σ : St) (a1 : Int32) (a2 : Int32) : ∀ r : St, p_Endings_keepLeast σ a1 a2 = some r → Ct l yX2_keepLeast cX2_keepLeast 5 none ({ frames := 2, cells := 0, slots := 0, locals := 41 } : Room) LC ω ad N [.ref (ω.2.1 7), .int a1, .int a2] σ none r (True) :=
  ct_of (o := fun r : St => none) (s' := fun r => r) (P := fun r => True) [some (.ref (ω.2.1 7)), some (.int a1), some (.int a2), none, none] (by decide) rfl (Nat.le_of_ble_eq_true rfl) (fun Γ C _ _ => w_p_Endings_keepLeast (Γ, ω, 5, ad, N, 0, 0) σ a1 a2 C)
theorem ag_LC_37 : AG LC 37 0 1206 := ⟨by decide, rfl⟩
theorem fg_X2_24 : FG LC RX2 24 0 7 5 (1, 37) := ⟨_, _, _, _, _, rfl, rfl, rfl, by decide, uw_X2, (in_wt 347 (by decide +kernel) (by decide +kernel))⟩
/-- PostsEnd$Endings.private void takeLeast(int, int) -/
def p_Endings_takeLeast (σ : St) (a1 : Int32) (a2 : Int32) : Option St := (Option.bind (itr0 (S := Int32 × Int32 × Int32) (E := Int32 × Int32) (fun s1 => (if s1.2.2 < 0 then some (.inr (s1.1, s1.2.1)) else (Option.bind (ix 3 s1.2.2) fun i13 => (Option.bind (α := Int32 × Int32) ((if σ.1 0 40 i13 < 0 then some (s1.1, s1.2.1) else (Option.bind (ix 3 s1.2.2) fun i17 => (Option.bind (p_Endings_weeksEach a1 s1.2.2) fun r18 => (if s1.1 < 0 then (Option.bind (ix 3 s1.2.2) fun i20 => some ((σ.1 0 39 i17) - ((a2 * (σ.1 0 7 10)) * r18), σ.1 0 40 i20)) else (if (σ.1 0 39 i17) - ((a2 * (σ.1 0 7 10)) * r18) < s1.1 then (Option.bind (ix 3 s1.2.2) fun i21 => some ((σ.1 0 39 i17) - ((a2 * (σ.1 0 7 10)) * r18), σ.1 0 40 i21)) else some (s1.1, s1.2.1))))))) fun t14 => some (.inl (t14.1, t14.2, s1.2.2 + (-1 : Int32))))))) FU ((-1 : Int32), a2, (2 : Int32))) fun e6 => (Option.bind (ix 201 a2) fun i9 => (lt1 (sx σ 0 36 i9 e6.1) fun σ10 => (Option.bind (ix 1206 ((a1 * (201 : Int32)) + a2)) fun i11 => (lt1 (sx σ10 0 37 i11 e6.2) fun σ12 => some σ12)))))
set_option maxRecDepth 20000 in
set_option maxHeartbeats 4000000 in
theorem w_p_Endings_takeLeast (Θ : TT) (σ : St) (a1 : Int32) (a2 : Int32) (C : CX Θ cX2_takeLeast RX2 none ({ frames := 2, cells := 0, slots := 0, locals := 41 } : Room) 7) : WA LC Θ (fun r : St => Qm LC Θ none r (True)) 0 [some (.ref (cF Θ 7)), some (.int a1), some (.int a2), none, none, none, none] [] σ (p_Endings_takeLeast σ a1 a2) := by
  unfold p_Endings_takeLeast
  refine r_iconst C (-1 : Int32) dX2_takeLeast_0 (by decide) ?_
  refine r_istore_n C [some (.ref (cF Θ 7)), some (.int a1), some (.int a2), some (.int (-1 : Int32)), none, none, none] dX2_takeLeast_1 rfl (by decide) rfl ?_
  refine r_iload_n C dX2_takeLeast_2 rfl ?_
  refine r_istore C [some (.ref (cF Θ 7)), some (.int a1), some (.int a2), some (.int (-1 : Int32)), some (.int a2), none, none] dX2_takeLeast_3 rfl (by decide) rfl ?_
  refine r_iconst C (2 : Int32) dX2_takeLeast_5 (by decide) ?_
  refine r_istore C [some (.ref (cF Θ 7)), some (.int a1), some (.int a2), some (.int (-1 : Int32)), some (.int a2), some (.int (2 : Int32)), none] dX2_takeLeast_6 rfl (by decide) rfl ?_
  refine WA.join (α := Int32 × Int32) 74 (fun e6 => [some (.ref (cF Θ 7)), some (.int a1), some (.int a2), some (.int e6.1), some (.int e6.2), none, none]) (fun e6 => []) (fun e6 => σ) (fun e6 => True) (fun e6 h7 => ?_) (fun J8 => ?_)
  · refine r_aload_n C dX2_takeLeast_74 rfl ?_
    refine r_getF0 C dX2_takeLeast_75 fg_X2_21 (by decide) ?_
    refine r_iload_n C dX2_takeLeast_78 rfl ?_
    refine r_iload_n C dX2_takeLeast_79 rfl ?_
    refine r_iast C dX2_takeLeast_80 ag_LC_36 (fun i9 => ?_)
    refine WA.gen (fun σ10 => ?_)
    refine r_aload_n C dX2_takeLeast_81 rfl ?_
    refine r_getF0 C dX2_takeLeast_82 fg_X2_24 (by decide) ?_
    refine r_iload_n C dX2_takeLeast_85 rfl ?_
    refine r_sipush C (201 : Int32) dX2_takeLeast_86 (by decide) ?_
    refine r_imul C dX2_takeLeast_89 ?_
    refine r_iload_n C dX2_takeLeast_90 rfl ?_
    refine r_iadd C dX2_takeLeast_91 ?_
    refine r_iload C dX2_takeLeast_92 rfl ?_
    refine r_iast C dX2_takeLeast_94 ag_LC_37 (fun i11 => ?_)
    refine WA.gen (fun σ12 => ?_)
    exact r_vret C dX2_takeLeast_95 rfl rfl trivial
  · refine WA.wk (lv' := [some (.ref (cF Θ 7)), some (.int a1), some (.int a2), some (.int (-1 : Int32)), some (.int a2), some (.int (2 : Int32)), none]) [true, true, true, true, true, true, false] rfl ?_
    refine WA.itr (S := Int32 × Int32 × Int32) 8 (fun s1 => [some (.ref (cF Θ 7)), some (.int a1), some (.int a2), some (.int s1.1), some (.int s1.2.1), some (.int s1.2.2), none]) (fun s1 => []) (fun s1 => σ) (fun s1 => True) (fun s1 k5 h2 ih3 hx4 => ?_) FU ((-1 : Int32), a2, (2 : Int32)) trivial
    refine r_iload C dX2_takeLeast_8 rfl ?_
    refine WA.bif ?_
    refine r_if_lt C 74 dX2_takeLeast_10 (by decide) ?_ ?_
    · refine WA.wk (lv' := [some (.ref (cF Θ 7)), some (.int a1), some (.int a2), some (.int s1.1), some (.int s1.2.1), none, none]) [true, true, true, true, true, false, false] rfl ?_
      exact WA.eqK (hx4 _) (J8 (s1.1, s1.2.1) trivial)
    · refine r_aload_n C dX2_takeLeast_13 rfl ?_
      refine r_getF0 C dX2_takeLeast_14 fg_X2_33 (by decide) ?_
      refine r_iload C dX2_takeLeast_17 rfl ?_
      refine WA.asc ?_
      refine r_iald (α := Unit) C dX2_takeLeast_19 ag_LC_40 (fun i13 => ?_)
      refine WA.asc ?_
      refine WA.join (α := Int32 × Int32) 68 (fun t14 => [some (.ref (cF Θ 7)), some (.int a1), some (.int a2), some (.int t14.1), some (.int t14.2), some (.int s1.2.2), none]) (fun t14 => []) (fun t14 => σ) (fun t14 => True) (fun t14 h15 => ?_) (fun J16 => ?_)
      · refine r_iinc C (-1 : Int32) [some (.ref (cF Θ 7)), some (.int a1), some (.int a2), some (.int t14.1), some (.int t14.2), some (.int (s1.2.2 + (-1 : Int32))), none] dX2_takeLeast_68 (by decide) rfl rfl (by decide) rfl ?_
        refine r_goto C 8 dX2_takeLeast_71 (by decide) ?_
        refine WA.wk (lv' := [some (.ref (cF Θ 7)), some (.int a1), some (.int a2), some (.int t14.1), some (.int t14.2), some (.int (s1.2.2 + (-1 : Int32))), none]) [true, true, true, true, true, true, false] rfl ?_
        exact ih3 (t14.1, t14.2, s1.2.2 + (-1 : Int32)) trivial
      · refine WA.bif ?_
        refine r_if_lt C 68 dX2_takeLeast_20 (by decide) ?_ ?_
        · refine WA.wk (lv' := [some (.ref (cF Θ 7)), some (.int a1), some (.int a2), some (.int s1.1), some (.int s1.2.1), some (.int s1.2.2), none]) [true, true, true, true, true, true, false] rfl ?_
          exact J16 (s1.1, s1.2.1) trivial
        · refine r_aload_n C dX2_takeLeast_23 rfl ?_
          refine r_getF0 C dX2_takeLeast_24 fg_X2_30 (by decide) ?_
          refine r_iload C dX2_takeLeast_27 rfl ?_
          refine WA.asc ?_
          refine r_iald (α := Unit) C dX2_takeLeast_29 ag_LC_39 (fun i17 => ?_)
          refine r_iload_n C dX2_takeLeast_30 rfl ?_
          refine r_aload_n C dX2_takeLeast_31 rfl ?_
          refine r_getI0 C dX2_takeLeast_32 fg_X2_52 (by decide) ?_
          refine r_imul C dX2_takeLeast_35 ?_
          refine r_iload_n C dX2_takeLeast_36 rfl ?_
          refine r_iload C dX2_takeLeast_37 rfl ?_
          refine WA.asc ?_
          refine r_callS C (st := [.int (a2 * (σ.1 0 7 10)), .int (σ.1 0 39 i17)]) (As := [.int a1, .int s1.2.2]) dX2_takeLeast_39 ml_X2_75 sw_X2_weeksEach (fun r18 e => c_p_Endings_weeksEach Θ.1.2.1 (cW Θ) (cAd Θ) (cN Θ) σ a1 s1.2.2 r18 e) rfl rfl (Nat.le_of_ble_eq_true rfl) ⟨rfl, rfl, by decide, by decide⟩ (fun r18 h19 => ?_)
          refine r_imul C dX2_takeLeast_42 ?_
          refine r_isub C dX2_takeLeast_43 ?_
          refine r_istore C [some (.ref (cF Θ 7)), some (.int a1), some (.int a2), some (.int s1.1), some (.int s1.2.1), some (.int s1.2.2), some (.int ((σ.1 0 39 i17) - ((a2 * (σ.1 0 7 10)) * r18)))] dX2_takeLeast_44 rfl (by decide) rfl ?_
          refine r_iload_n C dX2_takeLeast_46 rfl ?_
          refine WA.bif ?_
          refine r_if_lt C 56 dX2_takeLeast_47 (by decide) ?_ ?_
          · refine r_iload C dX2_takeLeast_56 rfl ?_
            refine r_istore_n C [some (.ref (cF Θ 7)), some (.int a1), some (.int a2), some (.int ((σ.1 0 39 i17) - ((a2 * (σ.1 0 7 10)) * r18))), some (.int s1.2.1), some (.int s1.2.2), some (.int ((σ.1 0 39 i17) - ((a2 * (σ.1 0 7 10)) * r18)))] dX2_takeLeast_58 rfl (by decide) rfl ?_
            refine r_aload_n C dX2_takeLeast_59 rfl ?_
            refine r_getF0 C dX2_takeLeast_60 fg_X2_33 (by decide) ?_
            refine r_iload C dX2_takeLeast_63 rfl ?_
            refine WA.asc ?_
            refine r_iald (α := Unit) C dX2_takeLeast_65 ag_LC_40 (fun i20 => ?_)
            refine r_istore C [some (.ref (cF Θ 7)), some (.int a1), some (.int a2), some (.int ((σ.1 0 39 i17) - ((a2 * (σ.1 0 7 10)) * r18))), some (.int (σ.1 0 40 i20)), some (.int s1.2.2), some (.int ((σ.1 0 39 i17) - ((a2 * (σ.1 0 7 10)) * r18)))] dX2_takeLeast_66 rfl (by decide) rfl ?_
            refine WA.wk (lv' := [some (.ref (cF Θ 7)), some (.int a1), some (.int a2), some (.int ((σ.1 0 39 i17) - ((a2 * (σ.1 0 7 10)) * r18))), some (.int (σ.1 0 40 i20)), some (.int s1.2.2), none]) [true, true, true, true, true, true, false] rfl ?_
            exact J16 ((σ.1 0 39 i17) - ((a2 * (σ.1 0 7 10)) * r18), σ.1 0 40 i20) trivial
          · refine r_iload C dX2_takeLeast_50 rfl ?_
            refine r_iload_n C dX2_takeLeast_52 rfl ?_
            refine WA.bif ?_
            refine r_icmp_ge C 68 dX2_takeLeast_53 (by decide) ?_ ?_
            · refine WA.wk (lv' := [some (.ref (cF Θ 7)), some (.int a1), some (.int a2), some (.int s1.1), some (.int s1.2.1), some (.int s1.2.2), none]) [true, true, true, true, true, true, false] rfl ?_
              exact J16 (s1.1, s1.2.1) trivial
            · refine r_iload C dX2_takeLeast_56 rfl ?_
              refine r_istore_n C [some (.ref (cF Θ 7)), some (.int a1), some (.int a2), some (.int ((σ.1 0 39 i17) - ((a2 * (σ.1 0 7 10)) * r18))), some (.int s1.2.1), some (.int s1.2.2), some (.int ((σ.1 0 39 i17) - ((a2 * (σ.1 0 7 10)) * r18)))] dX2_takeLeast_58 rfl (by decide) rfl ?_
              refine r_aload_n C dX2_takeLeast_59 rfl ?_
              refine r_getF0 C dX2_takeLeast_60 fg_X2_33 (by decide) ?_
              refine r_iload C dX2_takeLeast_63 rfl ?_
              refine WA.asc ?_
              refine r_iald (α := Unit) C dX2_takeLeast_65 ag_LC_40 (fun i21 => ?_)
              refine r_istore C [some (.ref (cF Θ 7)), some (.int a1), some (.int a2), some (.int ((σ.1 0 39 i17) - ((a2 * (σ.1 0 7 10)) * r18))), some (.int (σ.1 0 40 i21)), some (.int s1.2.2), some (.int ((σ.1 0 39 i17) - ((a2 * (σ.1 0 7 10)) * r18)))] dX2_takeLeast_66 rfl (by decide) rfl ?_
              refine WA.wk (lv' := [some (.ref (cF Θ 7)), some (.int a1), some (.int a2), some (.int ((σ.1 0 39 i17) - ((a2 * (σ.1 0 7 10)) * r18))), some (.int (σ.1 0 40 i21)), some (.int s1.2.2), none]) [true, true, true, true, true, true, false] rfl ?_
              exact J16 ((σ.1 0 39 i17) - ((a2 * (σ.1 0 7 10)) * r18), σ.1 0 40 i21) trivial
theorem c_p_Endings_takeLeast (l : Launch) (ω : Wd) (ad : Nat → Nat → Nat) (N : Nat → Nat) (σ : St) (a1 : Int32) (a2 : Int32) : ∀ r : St, p_Endings_takeLeast σ a1 a2 = some r → Ct l yX2_takeLeast cX2_takeLeast 7 none ({ frames := 2, cells := 0, slots := 0, locals := 41 } : Room) LC ω ad N [.ref (ω.2.1 7), .int a1, .int a2] σ none r (True) :=
  ct_of (o := fun r : St => none) (s' := fun r => r) (P := fun r => True) [some (.ref (ω.2.1 7)), some (.int a1), some (.int a2), none, none, none, none] (by decide) rfl (Nat.le_of_ble_eq_true rfl) (fun Γ C _ _ => w_p_Endings_takeLeast (Γ, ω, 7, ad, N, 0, 0) σ a1 a2 C)
theorem vw_X2_keepLeast : VW yX2_keepLeast cX2_keepLeast 5 none 2 := ⟨⟨(in_wt 87 (by decide +kernel) (by decide +kernel)), (in_wt 1118 (by decide +kernel) (by decide +kernel)), by decide +kernel⟩, (in_wt 1117 (by decide +kernel) (by decide +kernel)), (in_wt 32 (by decide +kernel) (by decide +kernel))⟩
theorem vw_X2_takeLeast : VW yX2_takeLeast cX2_takeLeast 7 none 2 := ⟨⟨(in_wt 87 (by decide +kernel) (by decide +kernel)), (in_wt 1122 (by decide +kernel) (by decide +kernel)), by decide +kernel⟩, (in_wt 1121 (by decide +kernel) (by decide +kernel)), (in_wt 33 (by decide +kernel) (by decide +kernel))⟩
theorem ml_X2_81 : Cond.methodLink RX2 81 yJ7_fill_53178 ∈ wt := in_wt 1114 (by decide +kernel) (by decide +kernel)
theorem ml_X2_87 : Cond.methodLink RX2 87 yX2_keepLeast ∈ wt := in_wt 1115 (by decide +kernel) (by decide +kernel)
theorem ml_X2_91 : Cond.methodLink RX2 91 yX2_takeLeast ∈ wt := in_wt 1119 (by decide +kernel) (by decide +kernel)
/-- PostsEnd$Endings.private void fillWeek(int) -/
def p_Endings_fillWeek (σ : St) (a1 : Int32) : Option St := (Option.bind (j_Arrays_fill σ 40 3 (-1 : Int32)) fun r1 => (Option.bind (itr0 (S := Int32 × St) (E := St) (fun s3 => (if s3.1 < 0 then some (.inr s3.2) else (Option.bind (p_Endings_keepLeast s3.2 a1 s3.1) fun r11 => (Option.bind (p_Endings_takeLeast r11 a1 s3.1) fun r13 => some (.inl (s3.1 + (-1 : Int32), r13)))))) FU (r1.1 0 7 11, r1)) fun e8 => some e8))
set_option maxRecDepth 20000 in
set_option maxHeartbeats 4000000 in
theorem w_p_Endings_fillWeek (Θ : TT) (σ : St) (a1 : Int32) (C : CX Θ cX2_fillWeek RX2 none ({ frames := 3, cells := 0, slots := 0, locals := 67 } : Room) 3) : WA LC Θ (fun r : St => Qm LC Θ none r (True)) 0 [some (.ref (cF Θ 7)), some (.int a1), none] [] σ (p_Endings_fillWeek σ a1) := by
  unfold p_Endings_fillWeek
  refine r_aload_n C dX2_fillWeek_0 rfl ?_
  refine r_getF0 C dX2_fillWeek_1 fg_X2_33 (by decide) ?_
  refine r_iconst C (-1 : Int32) dX2_fillWeek_4 (by decide) ?_
  refine r_callS C (st := []) (As := [.ref (cF Θ 40), .int (-1 : Int32)]) dX2_fillWeek_5 ml_X2_81 sw_J7_fill_53178 (fun r1 e => c_j_Arrays_fill Θ.1.2.1 (cW Θ) (cAd Θ) (cN Θ) σ 40 3 (-1 : Int32) ag_LC_40 r1 e) rfl rfl (Nat.le_of_ble_eq_true rfl) ⟨rfl, rfl, by decide, by decide⟩ (fun r1 h2 => ?_)
  refine r_aload_n C dX2_fillWeek_8 rfl ?_
  refine r_getI0 C dX2_fillWeek_9 fg_X2_55 (by decide) ?_
  refine r_istore_n C [some (.ref (cF Θ 7)), some (.int a1), some (.int (r1.1 0 7 11))] dX2_fillWeek_12 rfl (by decide) rfl ?_
  refine WA.join (α := St) 35 (fun e8 => [none, none, none]) (fun e8 => []) (fun e8 => e8) (fun e8 => True) (fun e8 h9 => ?_) (fun J10 => ?_)
  · exact r_vret C dX2_fillWeek_35 rfl rfl trivial
  · refine WA.wk (lv' := [some (.ref (cF Θ 7)), some (.int a1), some (.int (r1.1 0 7 11))]) [true, true, true] rfl ?_
    refine WA.itr (S := Int32 × St) 13 (fun s3 => [some (.ref (cF Θ 7)), some (.int a1), some (.int s3.1)]) (fun s3 => []) (fun s3 => s3.2) (fun s3 => True) (fun s3 k7 h4 ih5 hx6 => ?_) FU (r1.1 0 7 11, r1) trivial
    refine r_iload_n C dX2_fillWeek_13 rfl ?_
    refine WA.bif ?_
    refine r_if_lt C 35 dX2_fillWeek_14 (by decide) ?_ ?_
    · refine WA.wk (lv' := [none, none, none]) [false, false, false] rfl ?_
      exact WA.eqK (hx6 _) (J10 s3.2 trivial)
    · refine r_aload_n C dX2_fillWeek_17 rfl ?_
      refine r_iload_n C dX2_fillWeek_18 rfl ?_
      refine r_iload_n C dX2_fillWeek_19 rfl ?_
      refine WA.asc ?_
      refine r_callV C (st := []) (As := [.int a1, .int s3.1]) (d := 0) (j := 7) dX2_fillWeek_20 ml_X2_87 vw_X2_keepLeast ⟨_, _, _, _, rfl, rfl⟩ (dm0 (by decide)) (fun r11 e => c_p_Endings_keepLeast Θ.1.2.1 (cW Θ) (cAd Θ) (cN Θ) s3.2 a1 s3.1 r11 e) rfl rfl (Nat.le_of_ble_eq_true rfl) ⟨rfl, rfl, by decide, by decide⟩ (fun r11 h12 => ?_)
      refine r_aload_n C dX2_fillWeek_23 rfl ?_
      refine r_iload_n C dX2_fillWeek_24 rfl ?_
      refine r_iload_n C dX2_fillWeek_25 rfl ?_
      refine WA.asc ?_
      refine r_callV C (st := []) (As := [.int a1, .int s3.1]) (d := 0) (j := 7) dX2_fillWeek_26 ml_X2_91 vw_X2_takeLeast ⟨_, _, _, _, rfl, rfl⟩ (dm0 (by decide)) (fun r13 e => c_p_Endings_takeLeast Θ.1.2.1 (cW Θ) (cAd Θ) (cN Θ) r11 a1 s3.1 r13 e) rfl rfl (Nat.le_of_ble_eq_true rfl) ⟨rfl, rfl, by decide, by decide⟩ (fun r13 h14 => ?_)
      refine r_iinc C (-1 : Int32) [some (.ref (cF Θ 7)), some (.int a1), some (.int (s3.1 + (-1 : Int32)))] dX2_fillWeek_29 (by decide) rfl rfl (by decide) rfl ?_
      refine r_goto C 13 dX2_fillWeek_32 (by decide) ?_
      refine WA.wk (lv' := [some (.ref (cF Θ 7)), some (.int a1), some (.int (s3.1 + (-1 : Int32)))]) [true, true, true] rfl ?_
      exact ih5 (s3.1 + (-1 : Int32), r13) trivial
theorem c_p_Endings_fillWeek (l : Launch) (ω : Wd) (ad : Nat → Nat → Nat) (N : Nat → Nat) (σ : St) (a1 : Int32) : ∀ r : St, p_Endings_fillWeek σ a1 = some r → Ct l yX2_fillWeek cX2_fillWeek 3 none ({ frames := 3, cells := 0, slots := 0, locals := 67 } : Room) LC ω ad N [.ref (ω.2.1 7), .int a1] σ none r (True) :=
  ct_of (o := fun r : St => none) (s' := fun r => r) (P := fun r => True) [some (.ref (ω.2.1 7)), some (.int a1), none] (by decide) rfl (Nat.le_of_ble_eq_true rfl) (fun Γ C _ _ => w_p_Endings_fillWeek (Γ, ω, 3, ad, N, 0, 0) σ a1 C)
theorem vw_X2_fillLastWeek : VW yX2_fillLastWeek cX2_fillLastWeek 4 none 1 := ⟨⟨(in_wt 87 (by decide +kernel) (by decide +kernel)), (in_wt 1104 (by decide +kernel) (by decide +kernel)), by decide +kernel⟩, (in_wt 1103 (by decide +kernel) (by decide +kernel)), (in_wt 30 (by decide +kernel) (by decide +kernel))⟩
theorem vw_X2_fillWeek : VW yX2_fillWeek cX2_fillWeek 3 none 1 := ⟨⟨(in_wt 87 (by decide +kernel) (by decide +kernel)), (in_wt 1113 (by decide +kernel) (by decide +kernel)), by decide +kernel⟩, (in_wt 1112 (by decide +kernel) (by decide +kernel)), (in_wt 31 (by decide +kernel) (by decide +kernel))⟩
theorem vw_X2_within : VW yX2_within cX2_within 5 (some .int) 2 := ⟨⟨(in_wt 87 (by decide +kernel) (by decide +kernel)), (in_wt 1076 (by decide +kernel) (by decide +kernel)), by decide +kernel⟩, (in_wt 1074 (by decide +kernel) (by decide +kernel)), (in_wt 1075 (by decide +kernel) (by decide +kernel))⟩
theorem fp_X2_49 : FP LC RX2 49 0 7 9 (0, 0) .int := ⟨_, _, _, _, _, tyX2, rfl, rfl, rfl, by decide, uw_X2, (in_wt 351 (by decide +kernel) (by decide +kernel)), tyX2_ok, nmX2, rfl, by decide +kernel⟩
theorem fp_X2_52 : FP LC RX2 52 0 7 10 (0, 0) .int := ⟨_, _, _, _, _, tyX2, rfl, rfl, rfl, by decide, uw_X2, (in_wt 352 (by decide +kernel) (by decide +kernel)), tyX2_ok, nmX2, rfl, by decide +kernel⟩
theorem fp_X2_55 : FP LC RX2 55 0 7 11 (0, 0) .int := ⟨_, _, _, _, _, tyX2, rfl, rfl, rfl, by decide, uw_X2, (in_wt 353 (by decide +kernel) (by decide +kernel)), tyX2_ok, nmX2, rfl, by decide +kernel⟩
theorem fp_X2_58 : FP LC RX2 58 0 7 12 (0, 0) .int := ⟨_, _, _, _, _, tyX2, rfl, rfl, rfl, by decide, uw_X2, (in_wt 354 (by decide +kernel) (by decide +kernel)), tyX2_ok, nmX2, rfl, by decide +kernel⟩
theorem jw_X2_40 : JW RX2 40 Lib.Math.min.name Lib.Math.min.code 2 := ⟨in_wt 1098 (by decide +kernel) (by decide +kernel), in_wt 741 (by decide +kernel) (by decide +kernel), in_wt 94 (by decide +kernel) (by decide +kernel), in_wt 742 (by decide +kernel) (by decide +kernel)⟩
theorem jw_X2_46 : JW RX2 46 Lib.Math.max.name Lib.Math.max.code 2 := ⟨in_wt 1099 (by decide +kernel) (by decide +kernel), in_wt 734 (by decide +kernel) (by decide +kernel), in_wt 94 (by decide +kernel) (by decide +kernel), in_wt 735 (by decide +kernel) (by decide +kernel)⟩
theorem ml_X2_61 : Cond.methodLink RX2 61 yX2_within ∈ wt := in_wt 1100 (by decide +kernel) (by decide +kernel)
theorem ml_X2_64 : Cond.methodLink RX2 64 yX2_fillLastWeek ∈ wt := in_wt 1101 (by decide +kernel) (by decide +kernel)
theorem ml_X2_68 : Cond.methodLink RX2 68 yX2_fillWeek ∈ wt := in_wt 1110 (by decide +kernel) (by decide +kernel)
/-- PostsEnd$Endings.void part(int, int, int, int, int) -/
def p_Endings_part (σ : St) (a1 : Int32) (a2 : Int32) (a3 : Int32) (a4 : Int32) (a5 : Int32) : Option St := (lt1 (sx σ 0 7 9 ((if (1 : Int32) < if (6 : Int32) < a4 then (6 : Int32) else a4 then if (6 : Int32) < a4 then (6 : Int32) else a4 else (1 : Int32)) - (1 : Int32))) fun σ1 => (lt1 (sx σ1 0 7 10 (if (1 : Int32) < a5 then a5 else (1 : Int32))) fun σ2 => (if σ2.1 0 7 10 = 0 then none else (lt1 (sx σ2 0 7 11 ((if (0 : Int32) < if (200 : Int32) < a3 then (200 : Int32) else a3 then if (200 : Int32) < a3 then (200 : Int32) else a3 else (0 : Int32)) / (σ2.1 0 7 10))) fun σ3 => (lt1 (sx σ3 0 7 12 (a3 - ((σ3.1 0 7 11) * (σ3.1 0 7 10)))) fun σ4 => (Option.bind (itr0 (S := Int32 × St) (E := St) (fun s5 => (if s5.2.1 0 7 9 < s5.1 then some (.inr s5.2) else (Option.bind (p_Endings_within s5.2 a1 (a2 + ((7 : Int32) * s5.1))) fun r25 => (Option.bind (ix 6 s5.1) fun i27 => (lt1 (sx s5.2 0 38 i27 r25) fun σ28 => some (.inl (s5.1 + (1 : Int32), σ28))))))) FU ((0 : Int32), σ4)) fun e10 => (Option.bind (p_Endings_fillLastWeek e10 a3) fun r13 => (Option.bind (itr0 (S := Int32 × St) (E := St) (fun s15 => (if s15.1 < 0 then some (.inr s15.2) else (Option.bind (p_Endings_fillWeek s15.2 s15.1) fun r23 => some (.inl (s15.1 + (-1 : Int32), r23))))) FU ((r13.1 0 7 9) - (1 : Int32), r13)) fun e20 => some e20))))))))
set_option maxRecDepth 20000 in
set_option maxHeartbeats 4000000 in
theorem w_p_Endings_part (Θ : TT) (σ : St) (a1 : Int32) (a2 : Int32) (a3 : Int32) (a4 : Int32) (a5 : Int32) (C : CX Θ cX2_part RX2 none ({ frames := 4, cells := 0, slots := 0, locals := 89 } : Room) 7) : WA LC Θ (fun r : St => Qm LC Θ none r (True)) 0 [some (.ref (cF Θ 7)), some (.int a1), some (.int a2), some (.int a3), some (.int a4), some (.int a5), none] [] σ (p_Endings_part σ a1 a2 a3 a4 a5) := by
  unfold p_Endings_part
  refine r_aload_n C dX2_part_0 rfl ?_
  refine r_iconst C (1 : Int32) dX2_part_1 (by decide) ?_
  refine r_iload C dX2_part_2 rfl ?_
  refine r_bipush C (6 : Int32) dX2_part_4 (by decide) ?_
  refine r_mmin C dX2_part_6 jw_X2_40 (by decide) (Nat.le_of_ble_eq_true rfl) ?_
  refine r_mmax C dX2_part_9 jw_X2_46 (by decide) (Nat.le_of_ble_eq_true rfl) ?_
  refine r_iconst C (1 : Int32) dX2_part_12 (by decide) ?_
  refine r_isub C dX2_part_13 ?_
  refine r_putI0 C dX2_part_14 fp_X2_49 (by decide) ?_
  refine WA.gen (fun σ1 => ?_)
  refine r_aload_n C dX2_part_17 rfl ?_
  refine r_iconst C (1 : Int32) dX2_part_18 (by decide) ?_
  refine r_iload C dX2_part_19 rfl ?_
  refine r_mmax C dX2_part_21 jw_X2_46 (by decide) (Nat.le_of_ble_eq_true rfl) ?_
  refine r_putI0 C dX2_part_24 fp_X2_52 (by decide) ?_
  refine WA.gen (fun σ2 => ?_)
  refine r_aload_n C dX2_part_27 rfl ?_
  refine r_iconst C (0 : Int32) dX2_part_28 (by decide) ?_
  refine r_iload_n C dX2_part_29 rfl ?_
  refine r_sipush C (200 : Int32) dX2_part_30 (by decide) ?_
  refine r_mmin C dX2_part_33 jw_X2_40 (by decide) (Nat.le_of_ble_eq_true rfl) ?_
  refine r_mmax C dX2_part_36 jw_X2_46 (by decide) (Nat.le_of_ble_eq_true rfl) ?_
  refine r_aload_n C dX2_part_39 rfl ?_
  refine r_getI0 C dX2_part_40 fg_X2_52 (by decide) ?_
  refine r_idiv C dX2_part_43 ?_
  refine r_putI0 C dX2_part_44 fp_X2_55 (by decide) ?_
  refine WA.gen (fun σ3 => ?_)
  refine r_aload_n C dX2_part_47 rfl ?_
  refine r_iload_n C dX2_part_48 rfl ?_
  refine r_aload_n C dX2_part_49 rfl ?_
  refine r_getI0 C dX2_part_50 fg_X2_55 (by decide) ?_
  refine r_aload_n C dX2_part_53 rfl ?_
  refine r_getI0 C dX2_part_54 fg_X2_52 (by decide) ?_
  refine r_imul C dX2_part_57 ?_
  refine r_isub C dX2_part_58 ?_
  refine r_putI0 C dX2_part_59 fp_X2_58 (by decide) ?_
  refine WA.gen (fun σ4 => ?_)
  refine r_iconst C (0 : Int32) dX2_part_62 (by decide) ?_
  refine r_istore C [some (.ref (cF Θ 7)), some (.int a1), some (.int a2), some (.int a3), some (.int a4), some (.int a5), some (.int (0 : Int32))] dX2_part_63 rfl (by decide) rfl ?_
  refine WA.join (α := St) 99 (fun e10 => [some (.ref (cF Θ 7)), none, none, some (.int a3), none, none, none]) (fun e10 => []) (fun e10 => e10) (fun e10 => True) (fun e10 h11 => ?_) (fun J12 => ?_)
  · refine r_aload_n C dX2_part_99 rfl ?_
    refine r_iload_n C dX2_part_100 rfl ?_
    refine r_callV C (st := []) (As := [.int a3]) (d := 0) (j := 7) dX2_part_101 ml_X2_64 vw_X2_fillLastWeek ⟨_, _, _, _, rfl, rfl⟩ (dm0 (by decide)) (fun r13 e => c_p_Endings_fillLastWeek Θ.1.2.1 (cW Θ) (cAd Θ) (cN Θ) e10 a3 r13 e) rfl rfl (Nat.le_of_ble_eq_true rfl) ⟨rfl, rfl, by decide, by decide⟩ (fun r13 h14 => ?_)
    refine r_aload_n C dX2_part_104 rfl ?_
    refine r_getI0 C dX2_part_105 fg_X2_49 (by decide) ?_
    refine r_iconst C (1 : Int32) dX2_part_108 (by decide) ?_
    refine r_isub C dX2_part_109 ?_
    refine r_istore C [some (.ref (cF Θ 7)), none, none, some (.int a3), none, none, some (.int ((r13.1 0 7 9) - (1 : Int32)))] dX2_part_110 rfl (by decide) rfl ?_
    refine WA.join (α := St) 129 (fun e20 => [none, none, none, none, none, none, none]) (fun e20 => []) (fun e20 => e20) (fun e20 => True) (fun e20 h21 => ?_) (fun J22 => ?_)
    · exact r_vret C dX2_part_129 rfl rfl trivial
    · refine WA.wk (lv' := [some (.ref (cF Θ 7)), none, none, none, none, none, some (.int ((r13.1 0 7 9) - (1 : Int32)))]) [true, false, false, false, false, false, true] rfl ?_
      refine WA.itr (S := Int32 × St) 112 (fun s15 => [some (.ref (cF Θ 7)), none, none, none, none, none, some (.int s15.1)]) (fun s15 => []) (fun s15 => s15.2) (fun s15 => True) (fun s15 k19 h16 ih17 hx18 => ?_) FU ((r13.1 0 7 9) - (1 : Int32), r13) trivial
      refine r_iload C dX2_part_112 rfl ?_
      refine WA.bif ?_
      refine r_if_lt C 129 dX2_part_114 (by decide) ?_ ?_
      · refine WA.wk (lv' := [none, none, none, none, none, none, none]) [false, false, false, false, false, false, false] rfl ?_
        exact WA.eqK (hx18 _) (J22 s15.2 trivial)
      · refine r_aload_n C dX2_part_117 rfl ?_
        refine r_iload C dX2_part_118 rfl ?_
        refine WA.asc ?_
        refine r_callV C (st := []) (As := [.int s15.1]) (d := 0) (j := 7) dX2_part_120 ml_X2_68 vw_X2_fillWeek ⟨_, _, _, _, rfl, rfl⟩ (dm0 (by decide)) (fun r23 e => c_p_Endings_fillWeek Θ.1.2.1 (cW Θ) (cAd Θ) (cN Θ) s15.2 s15.1 r23 e) rfl rfl (Nat.le_of_ble_eq_true rfl) ⟨rfl, rfl, by decide, by decide⟩ (fun r23 h24 => ?_)
        refine r_iinc C (-1 : Int32) [some (.ref (cF Θ 7)), none, none, none, none, none, some (.int (s15.1 + (-1 : Int32)))] dX2_part_123 (by decide) rfl rfl (by decide) rfl ?_
        refine r_goto C 112 dX2_part_126 (by decide) ?_
        refine WA.wk (lv' := [some (.ref (cF Θ 7)), none, none, none, none, none, some (.int (s15.1 + (-1 : Int32)))]) [true, false, false, false, false, false, true] rfl ?_
        exact ih17 (s15.1 + (-1 : Int32), r23) trivial
  · refine WA.wk (lv' := [some (.ref (cF Θ 7)), some (.int a1), some (.int a2), some (.int a3), none, none, some (.int (0 : Int32))]) [true, true, true, true, false, false, true] rfl ?_
    refine WA.itr (S := Int32 × St) 65 (fun s5 => [some (.ref (cF Θ 7)), some (.int a1), some (.int a2), some (.int a3), none, none, some (.int s5.1)]) (fun s5 => []) (fun s5 => s5.2) (fun s5 => True) (fun s5 k9 h6 ih7 hx8 => ?_) FU ((0 : Int32), σ4) trivial
    refine r_iload C dX2_part_65 rfl ?_
    refine r_aload_n C dX2_part_67 rfl ?_
    refine r_getI0 C dX2_part_68 fg_X2_49 (by decide) ?_
    refine WA.bif ?_
    refine r_icmp_gt C 99 dX2_part_71 (by decide) ?_ ?_
    · refine WA.wk (lv' := [some (.ref (cF Θ 7)), none, none, some (.int a3), none, none, none]) [true, false, false, true, false, false, false] rfl ?_
      exact WA.eqK (hx8 _) (J12 s5.2 trivial)
    · refine r_aload_n C dX2_part_74 rfl ?_
      refine r_getF0 C dX2_part_75 fg_X2_27 (by decide) ?_
      refine r_iload C dX2_part_78 rfl ?_
      refine r_aload_n C dX2_part_80 rfl ?_
      refine r_iload_n C dX2_part_81 rfl ?_
      refine r_iload_n C dX2_part_82 rfl ?_
      refine r_bipush C (7 : Int32) dX2_part_83 (by decide) ?_
      refine r_iload C dX2_part_85 rfl ?_
      refine r_imul C dX2_part_87 ?_
      refine r_iadd C dX2_part_88 ?_
      refine WA.asc ?_
      refine r_callV C (st := [.int s5.1, .ref (cF Θ 38)]) (As := [.int a1, .int (a2 + ((7 : Int32) * s5.1))]) (d := 0) (j := 7) dX2_part_89 ml_X2_61 vw_X2_within ⟨_, _, _, _, rfl, rfl⟩ (dm0 (by decide)) (fun r25 e => c_p_Endings_within Θ.1.2.1 (cW Θ) (cAd Θ) (cN Θ) s5.2 a1 (a2 + ((7 : Int32) * s5.1)) r25 e) rfl rfl (Nat.le_of_ble_eq_true rfl) ⟨rfl, rfl, by decide, by decide⟩ (fun r25 h26 => ?_)
      refine WA.asc ?_
      refine r_iast C dX2_part_92 ag_LC_38 (fun i27 => ?_)
      refine WA.genB (fun σ28 => ?_)
      refine r_iinc C (1 : Int32) [some (.ref (cF Θ 7)), some (.int a1), some (.int a2), some (.int a3), none, none, some (.int (s5.1 + (1 : Int32)))] dX2_part_93 (by decide) rfl rfl (by decide) rfl ?_
      refine r_goto C 65 dX2_part_96 (by decide) ?_
      refine WA.wk (lv' := [some (.ref (cF Θ 7)), some (.int a1), some (.int a2), some (.int a3), none, none, some (.int (s5.1 + (1 : Int32)))]) [true, true, true, true, false, false, true] rfl ?_
      exact ih7 (s5.1 + (1 : Int32), σ28) trivial
theorem c_p_Endings_part (l : Launch) (ω : Wd) (ad : Nat → Nat → Nat) (N : Nat → Nat) (σ : St) (a1 : Int32) (a2 : Int32) (a3 : Int32) (a4 : Int32) (a5 : Int32) : ∀ r : St, p_Endings_part σ a1 a2 a3 a4 a5 = some r → Ct l yX2_part cX2_part 7 none ({ frames := 4, cells := 0, slots := 0, locals := 89 } : Room) LC ω ad N [.ref (ω.2.1 7), .int a1, .int a2, .int a3, .int a4, .int a5] σ none r (True) :=
  ct_of (o := fun r : St => none) (s' := fun r => r) (P := fun r => True) [some (.ref (ω.2.1 7)), some (.int a1), some (.int a2), some (.int a3), some (.int a4), some (.int a5), none] (by decide) rfl (Nat.le_of_ble_eq_true rfl) (fun Γ C _ _ => w_p_Endings_part (Γ, ω, 7, ad, N, 0, 0) σ a1 a2 a3 a4 a5 C)
/-- PostsEnd$Endings.int weeksPaid() -/
def p_Endings_weeksPaid (σ : St) : Option Int32 := (Option.bind (ix 201 (0 : Int32)) fun i1 => some (σ.1 0 36 i1))
set_option maxRecDepth 20000 in
set_option maxHeartbeats 4000000 in
theorem w_p_Endings_weeksPaid (Θ : TT) (σ : St)  (C : CX Θ cX2_weeksPaid RX2 (some .int) ({ frames := 0, cells := 0, slots := 0, locals := 0 } : Room) 1) : WA LC Θ (fun r : Int32 => Qm LC Θ (some (.int r)) σ (True)) 0 [some (.ref (cF Θ 7))] [] σ (p_Endings_weeksPaid σ) := by
  unfold p_Endings_weeksPaid
  refine r_aload_n C dX2_weeksPaid_0 rfl ?_
  refine r_getF0 C dX2_weeksPaid_1 fg_X2_21 (by decide) ?_
  refine r_iconst C (0 : Int32) dX2_weeksPaid_4 (by decide) ?_
  refine r_iald (α := Unit) C dX2_weeksPaid_5 ag_LC_36 (fun i1 => ?_)
  exact r_iret C dX2_weeksPaid_6 rfl rfl trivial
theorem c_p_Endings_weeksPaid (l : Launch) (ω : Wd) (ad : Nat → Nat → Nat) (N : Nat → Nat) (σ : St)  : ∀ r : Int32, p_Endings_weeksPaid σ = some r → Ct l yX2_weeksPaid cX2_weeksPaid 1 (some .int) ({ frames := 0, cells := 0, slots := 0, locals := 0 } : Room) LC ω ad N [.ref (ω.2.1 7)] σ (some (.int r)) σ (True) :=
  ct_of (o := fun r : Int32 => (some (.int r))) (s' := fun r => σ) (P := fun r => True) [some (.ref (ω.2.1 7))] (by decide) rfl (Nat.le_of_ble_eq_true rfl) (fun Γ C _ _ => w_p_Endings_weeksPaid (Γ, ω, 1, ad, N, 0, 0) σ  C)
/-- PostsEnd$Endings.private int behind(int, int) -/
def p_Endings_behind (σ : St) (a1 : Int32) (a2 : Int32) : Option Int32 := (if (a1 * (201 : Int32)) + a2 < 0 then some a2 else (if (a1 * (201 : Int32)) + a2 < (1206 : Int32) then (Option.bind (ix 1206 ((a1 * (201 : Int32)) + a2)) fun i1 => some (σ.1 0 37 i1)) else some a2))
set_option maxRecDepth 20000 in
set_option maxHeartbeats 4000000 in
theorem w_p_Endings_behind (Θ : TT) (σ : St) (a1 : Int32) (a2 : Int32) (C : CX Θ cX2_behind RX2 (some .int) ({ frames := 0, cells := 0, slots := 0, locals := 0 } : Room) 4) : WA LC Θ (fun r : Int32 => Qm LC Θ (some (.int r)) σ (True)) 0 [some (.ref (cF Θ 7)), some (.int a1), some (.int a2), none] [] σ (p_Endings_behind σ a1 a2) := by
  unfold p_Endings_behind
  refine r_iload_n C dX2_behind_0 rfl ?_
  refine r_sipush C (201 : Int32) dX2_behind_1 (by decide) ?_
  refine r_imul C dX2_behind_4 ?_
  refine r_iload_n C dX2_behind_5 rfl ?_
  refine r_iadd C dX2_behind_6 ?_
  refine r_istore_n C [some (.ref (cF Θ 7)), some (.int a1), some (.int a2), some (.int ((a1 * (201 : Int32)) + a2))] dX2_behind_7 rfl (by decide) rfl ?_
  refine r_iload_n C dX2_behind_8 rfl ?_
  refine r_if_lt C 30 dX2_behind_9 (by decide) ?_ ?_
  · refine r_iload_n C dX2_behind_30 rfl ?_
    exact r_iret C dX2_behind_31 rfl rfl trivial
  · refine r_iload_n C dX2_behind_12 rfl ?_
    refine r_aload_n C dX2_behind_13 rfl ?_
    refine r_getF0 C dX2_behind_14 fg_X2_24 (by decide) ?_
    refine r_alen C (1206 : Int32) dX2_behind_17 ag_LC_37 rfl ?_
    refine r_icmp_ge C 30 dX2_behind_18 (by decide) ?_ ?_
    · refine r_iload_n C dX2_behind_30 rfl ?_
      exact r_iret C dX2_behind_31 rfl rfl trivial
    · refine r_aload_n C dX2_behind_21 rfl ?_
      refine r_getF0 C dX2_behind_22 fg_X2_24 (by decide) ?_
      refine r_iload_n C dX2_behind_25 rfl ?_
      refine r_iald (α := Unit) C dX2_behind_26 ag_LC_37 (fun i1 => ?_)
      refine r_goto C 31 dX2_behind_27 (by decide) ?_
      exact r_iret C dX2_behind_31 rfl rfl trivial
theorem c_p_Endings_behind (l : Launch) (ω : Wd) (ad : Nat → Nat → Nat) (N : Nat → Nat) (σ : St) (a1 : Int32) (a2 : Int32) : ∀ r : Int32, p_Endings_behind σ a1 a2 = some r → Ct l yX2_behind cX2_behind 4 (some .int) ({ frames := 0, cells := 0, slots := 0, locals := 0 } : Room) LC ω ad N [.ref (ω.2.1 7), .int a1, .int a2] σ (some (.int r)) σ (True) :=
  ct_of (o := fun r : Int32 => (some (.int r))) (s' := fun r => σ) (P := fun r => True) [some (.ref (ω.2.1 7)), some (.int a1), some (.int a2), none] (by decide) rfl (Nat.le_of_ble_eq_true rfl) (fun Γ C _ _ => w_p_Endings_behind (Γ, ω, 4, ad, N, 0, 0) σ a1 a2 C)
theorem vw_X2_behind : VW yX2_behind cX2_behind 4 (some .int) 2 := ⟨⟨(in_wt 87 (by decide +kernel) (by decide +kernel)), (in_wt 1138 (by decide +kernel) (by decide +kernel)), by decide +kernel⟩, (in_wt 1137 (by decide +kernel) (by decide +kernel)), (in_wt 34 (by decide +kernel) (by decide +kernel))⟩
theorem ml_X2_94 : Cond.methodLink RX2 94 yX2_behind ∈ wt := in_wt 1135 (by decide +kernel) (by decide +kernel)
/-- PostsEnd$Endings.int partIn(int) -/
def p_Endings_partIn (σ : St) (a1 : Int32) : Option Int32 := (Option.bind (itr0 (S := Int32 × Int32) (E := Int32) (fun s1 => (if s1.2 < a1 then (if s1.2 < σ.1 0 7 9 then (Option.bind (p_Endings_behind σ s1.2 s1.1) fun r11 => some (.inl (r11, s1.2 + (1 : Int32)))) else some (.inr s1.1)) else some (.inr s1.1))) FU ((0 : Int32), (0 : Int32))) fun e6 => (if a1 = σ.1 0 7 9 then some ((((σ.1 0 7 11) - e6) * (σ.1 0 7 10)) + (σ.1 0 7 12)) else (Option.bind (p_Endings_behind σ a1 e6) fun r9 => some ((r9 - e6) * (σ.1 0 7 10)))))
set_option maxRecDepth 20000 in
set_option maxHeartbeats 4000000 in
theorem w_p_Endings_partIn (Θ : TT) (σ : St) (a1 : Int32) (C : CX Θ cX2_partIn RX2 (some .int) ({ frames := 1, cells := 0, slots := 0, locals := 23 } : Room) 4) : WA LC Θ (fun r : Int32 => Qm LC Θ (some (.int r)) σ (True)) 0 [some (.ref (cF Θ 7)), some (.int a1), none, none] [] σ (p_Endings_partIn σ a1) := by
  unfold p_Endings_partIn
  refine r_iconst C (0 : Int32) dX2_partIn_0 (by decide) ?_
  refine r_istore_n C [some (.ref (cF Θ 7)), some (.int a1), some (.int (0 : Int32)), none] dX2_partIn_1 rfl (by decide) rfl ?_
  refine r_iconst C (0 : Int32) dX2_partIn_2 (by decide) ?_
  refine r_istore_n C [some (.ref (cF Θ 7)), some (.int a1), some (.int (0 : Int32)), some (.int (0 : Int32))] dX2_partIn_3 rfl (by decide) rfl ?_
  refine WA.join (α := Int32) 30 (fun e6 => [some (.ref (cF Θ 7)), some (.int a1), some (.int e6), none]) (fun e6 => []) (fun e6 => σ) (fun e6 => True) (fun e6 h7 => ?_) (fun J8 => ?_)
  · refine r_iload_n C dX2_partIn_30 rfl ?_
    refine r_aload_n C dX2_partIn_31 rfl ?_
    refine r_getI0 C dX2_partIn_32 fg_X2_49 (by decide) ?_
    refine r_icmp_ne C 55 dX2_partIn_35 (by decide) ?_ ?_
    · refine r_aload_n C dX2_partIn_55 rfl ?_
      refine r_iload_n C dX2_partIn_56 rfl ?_
      refine r_iload_n C dX2_partIn_57 rfl ?_
      refine r_callV C (st := []) (As := [.int a1, .int e6]) (d := 0) (j := 7) dX2_partIn_58 ml_X2_94 vw_X2_behind ⟨_, _, _, _, rfl, rfl⟩ (dm0 (by decide)) (fun r9 e => c_p_Endings_behind Θ.1.2.1 (cW Θ) (cAd Θ) (cN Θ) σ a1 e6 r9 e) rfl rfl (Nat.le_of_ble_eq_true rfl) ⟨rfl, rfl, by decide, by decide⟩ (fun r9 h10 => ?_)
      refine r_iload_n C dX2_partIn_61 rfl ?_
      refine r_isub C dX2_partIn_62 ?_
      refine r_aload_n C dX2_partIn_63 rfl ?_
      refine r_getI0 C dX2_partIn_64 fg_X2_52 (by decide) ?_
      refine r_imul C dX2_partIn_67 ?_
      exact r_iret C dX2_partIn_68 rfl rfl trivial
    · refine r_aload_n C dX2_partIn_38 rfl ?_
      refine r_getI0 C dX2_partIn_39 fg_X2_55 (by decide) ?_
      refine r_iload_n C dX2_partIn_42 rfl ?_
      refine r_isub C dX2_partIn_43 ?_
      refine r_aload_n C dX2_partIn_44 rfl ?_
      refine r_getI0 C dX2_partIn_45 fg_X2_52 (by decide) ?_
      refine r_imul C dX2_partIn_48 ?_
      refine r_aload_n C dX2_partIn_49 rfl ?_
      refine r_getI0 C dX2_partIn_50 fg_X2_58 (by decide) ?_
      refine r_iadd C dX2_partIn_53 ?_
      exact r_iret C dX2_partIn_54 rfl rfl trivial
  · refine WA.wk (lv' := [some (.ref (cF Θ 7)), some (.int a1), some (.int (0 : Int32)), some (.int (0 : Int32))]) [true, true, true, true] rfl ?_
    refine WA.itr (S := Int32 × Int32) 4 (fun s1 => [some (.ref (cF Θ 7)), some (.int a1), some (.int s1.1), some (.int s1.2)]) (fun s1 => []) (fun s1 => σ) (fun s1 => True) (fun s1 k5 h2 ih3 hx4 => ?_) FU ((0 : Int32), (0 : Int32)) trivial
    refine r_iload_n C dX2_partIn_4 rfl ?_
    refine r_iload_n C dX2_partIn_5 rfl ?_
    refine WA.bif ?_
    refine r_icmp_ge C 30 dX2_partIn_6 (by decide) ?_ ?_
    · refine WA.wk (lv' := [some (.ref (cF Θ 7)), some (.int a1), some (.int s1.1), none]) [true, true, true, false] rfl ?_
      exact WA.eqK (hx4 _) (J8 s1.1 trivial)
    · refine r_iload_n C dX2_partIn_9 rfl ?_
      refine r_aload_n C dX2_partIn_10 rfl ?_
      refine r_getI0 C dX2_partIn_11 fg_X2_49 (by decide) ?_
      refine WA.bif ?_
      refine r_icmp_ge C 30 dX2_partIn_14 (by decide) ?_ ?_
      · refine WA.wk (lv' := [some (.ref (cF Θ 7)), some (.int a1), some (.int s1.1), none]) [true, true, true, false] rfl ?_
        exact WA.eqK (hx4 _) (J8 s1.1 trivial)
      · refine r_aload_n C dX2_partIn_17 rfl ?_
        refine r_iload_n C dX2_partIn_18 rfl ?_
        refine r_iload_n C dX2_partIn_19 rfl ?_
        refine WA.asc ?_
        refine r_callV C (st := []) (As := [.int s1.2, .int s1.1]) (d := 0) (j := 7) dX2_partIn_20 ml_X2_94 vw_X2_behind ⟨_, _, _, _, rfl, rfl⟩ (dm0 (by decide)) (fun r11 e => c_p_Endings_behind Θ.1.2.1 (cW Θ) (cAd Θ) (cN Θ) σ s1.2 s1.1 r11 e) rfl rfl (Nat.le_of_ble_eq_true rfl) ⟨rfl, rfl, by decide, by decide⟩ (fun r11 h12 => ?_)
        refine r_istore_n C [some (.ref (cF Θ 7)), some (.int a1), some (.int r11), some (.int s1.2)] dX2_partIn_23 rfl (by decide) rfl ?_
        refine r_iinc C (1 : Int32) [some (.ref (cF Θ 7)), some (.int a1), some (.int r11), some (.int (s1.2 + (1 : Int32)))] dX2_partIn_24 (by decide) rfl rfl (by decide) rfl ?_
        refine r_goto C 4 dX2_partIn_27 (by decide) ?_
        refine WA.wk (lv' := [some (.ref (cF Θ 7)), some (.int a1), some (.int r11), some (.int (s1.2 + (1 : Int32)))]) [true, true, true, true] rfl ?_
        exact ih3 (r11, s1.2 + (1 : Int32)) trivial
theorem c_p_Endings_partIn (l : Launch) (ω : Wd) (ad : Nat → Nat → Nat) (N : Nat → Nat) (σ : St) (a1 : Int32) : ∀ r : Int32, p_Endings_partIn σ a1 = some r → Ct l yX2_partIn cX2_partIn 4 (some .int) ({ frames := 1, cells := 0, slots := 0, locals := 23 } : Room) LC ω ad N [.ref (ω.2.1 7), .int a1] σ (some (.int r)) σ (True) :=
  ct_of (o := fun r : Int32 => (some (.int r))) (s' := fun r => σ) (P := fun r => True) [some (.ref (ω.2.1 7)), some (.int a1), none, none] (by decide) rfl (Nat.le_of_ble_eq_true rfl) (fun Γ C _ _ => w_p_Endings_partIn (Γ, ω, 4, ad, N, 0, 0) σ a1 C)
theorem fg_X3_39 : FG LC RX3 39 0 1 1 (0, 0) := ⟨_, _, _, _, _, rfl, rfl, rfl, by decide, uw_X3, (in_wt 122 (by decide +kernel) (by decide +kernel))⟩
/-- PostsEnd$Firm.boolean isUnit(int) -/
def p_Firm_isUnit (σ : St) (a1 : Int32) : Option Int32 := (if a1 < 0 then some (0 : Int32) else (if a1 < σ.1 0 1 1 then some (1 : Int32) else some (0 : Int32)))
set_option maxRecDepth 20000 in
set_option maxHeartbeats 4000000 in
theorem w_p_Firm_isUnit (Θ : TT) (σ : St) (a1 : Int32) (C : CX Θ cX3_isUnit RX3 (some .boolean) ({ frames := 0, cells := 0, slots := 0, locals := 0 } : Room) 2) : WA LC Θ (fun r : Int32 => Qm LC Θ (some (.int r)) σ (narrow .boolean (.int r) = .int r)) 0 [some (.ref (cF Θ 1)), some (.int a1)] [] σ (p_Firm_isUnit σ a1) := by
  unfold p_Firm_isUnit
  refine r_iload_n C dX3_isUnit_0 rfl ?_
  refine r_if_lt C 16 dX3_isUnit_1 (by decide) ?_ ?_
  · refine r_iconst C (0 : Int32) dX3_isUnit_16 (by decide) ?_
    exact r_zret C dX3_isUnit_17 (show narrow .boolean (.int (0 : Int32)) = .int (0 : Int32) from rfl) rfl rfl (show narrow .boolean (.int (0 : Int32)) = .int (0 : Int32) from rfl)
  · refine r_iload_n C dX3_isUnit_4 rfl ?_
    refine r_aload_n C dX3_isUnit_5 rfl ?_
    refine r_getI0 C dX3_isUnit_6 fg_X3_39 (by decide) ?_
    refine r_icmp_ge C 16 dX3_isUnit_9 (by decide) ?_ ?_
    · refine r_iconst C (0 : Int32) dX3_isUnit_16 (by decide) ?_
      exact r_zret C dX3_isUnit_17 (show narrow .boolean (.int (0 : Int32)) = .int (0 : Int32) from rfl) rfl rfl (show narrow .boolean (.int (0 : Int32)) = .int (0 : Int32) from rfl)
    · refine r_iconst C (1 : Int32) dX3_isUnit_12 (by decide) ?_
      refine r_goto C 17 dX3_isUnit_13 (by decide) ?_
      exact r_zret C dX3_isUnit_17 (show narrow .boolean (.int (1 : Int32)) = .int (1 : Int32) from rfl) rfl rfl (show narrow .boolean (.int (1 : Int32)) = .int (1 : Int32) from rfl)
theorem c_p_Firm_isUnit (l : Launch) (ω : Wd) (ad : Nat → Nat → Nat) (N : Nat → Nat) (σ : St) (a1 : Int32) : ∀ r : Int32, p_Firm_isUnit σ a1 = some r → Ct l yX3_isUnit cX3_isUnit 2 (some .boolean) ({ frames := 0, cells := 0, slots := 0, locals := 0 } : Room) LC ω ad N [.ref (ω.2.1 1), .int a1] σ (some (.int r)) σ (narrow .boolean (.int r) = .int r) :=
  ct_of (o := fun r : Int32 => (some (.int r))) (s' := fun r => σ) (P := fun r => narrow .boolean (.int r) = .int r) [some (.ref (ω.2.1 1)), some (.int a1)] (by decide) rfl (Nat.le_of_ble_eq_true rfl) (fun Γ C _ _ => w_p_Firm_isUnit (Γ, ω, 2, ad, N, 0, 0) σ a1 C)
theorem ag_LC_12 : AG LC 12 4 120 := ⟨by decide, rfl⟩
theorem fg_X3_29 : FG LC RX3 29 0 1 9 (1, 12) := ⟨_, _, _, _, _, rfl, rfl, rfl, by decide, uw_X3, (in_wt 138 (by decide +kernel) (by decide +kernel))⟩
theorem fg_X3_49 : FG LC RX3 49 0 1 4 (0, 0) := ⟨_, _, _, _, _, rfl, rfl, rfl, by decide, uw_X3, (in_wt 132 (by decide +kernel) (by decide +kernel))⟩
/-- PostsEnd$Firm.PostsEnd$Telling tellingAt(int) -/
def p_Firm_tellingAt (σ : St) (a1 : Int32) : Option (Option Nat) := (if a1 < 0 then some none else (if a1 < σ.1 0 1 4 then (Option.bind (ix 120 a1) fun i3 => lt1 (σ.2 0 12 i3) fun x1 => some x1) else some none))
set_option maxRecDepth 20000 in
set_option maxHeartbeats 4000000 in
theorem w_p_Firm_tellingAt (Θ : TT) (σ : St) (a1 : Int32) (C : CX Θ cX3_tellingAt RX3 (some (.object "PostsEnd$Telling")) ({ frames := 0, cells := 0, slots := 0, locals := 0 } : Room) 2) : WA LC Θ (fun r : Option Nat => Qm LC Θ (some (va_rf (Option.map (cAd Θ 3) r))) σ (∀ q, r = some q → q < cN Θ 3)) 0 [some (.ref (cF Θ 1)), some (.int a1)] [] σ (p_Firm_tellingAt σ a1) := by
  unfold p_Firm_tellingAt
  refine r_iload_n C dX3_tellingAt_0 rfl ?_
  refine r_if_lt C 21 dX3_tellingAt_1 (by decide) ?_ ?_
  · refine r_null C dX3_tellingAt_21 ?_
    exact r_aret C (x := Option.map (cAd Θ 3) none) dX3_tellingAt_22 rfl rfl (fun q e => nomatch e)
  · refine r_iload_n C dX3_tellingAt_4 rfl ?_
    refine r_aload_n C dX3_tellingAt_5 rfl ?_
    refine r_getI0 C dX3_tellingAt_6 fg_X3_49 (by decide) ?_
    refine r_icmp_ge C 21 dX3_tellingAt_9 (by decide) ?_ ?_
    · refine r_null C dX3_tellingAt_21 ?_
      exact r_aret C (x := Option.map (cAd Θ 3) none) dX3_tellingAt_22 rfl rfl (fun q e => nomatch e)
    · refine r_aload_n C dX3_tellingAt_12 rfl ?_
      refine r_getF0 C dX3_tellingAt_13 fg_X3_29 (by decide) ?_
      refine r_iload_n C dX3_tellingAt_16 rfl ?_
      refine r_aald C dX3_tellingAt_17 ag_LC_12 rfl (fun x1 h2 => ?_)
      refine r_goto C 22 dX3_tellingAt_18 (by decide) ?_
      exact r_aret C (x := Option.map (cAd Θ 3) x1) dX3_tellingAt_22 rfl rfl h2
theorem c_p_Firm_tellingAt (l : Launch) (ω : Wd) (ad : Nat → Nat → Nat) (N : Nat → Nat) (σ : St) (a1 : Int32) : ∀ r : Option Nat, p_Firm_tellingAt σ a1 = some r → Ct l yX3_tellingAt cX3_tellingAt 2 (some (.object "PostsEnd$Telling")) ({ frames := 0, cells := 0, slots := 0, locals := 0 } : Room) LC ω ad N [.ref (ω.2.1 1), .int a1] σ (some (va_rf (Option.map (ad 3) r))) σ (∀ q, r = some q → q < N 3) :=
  ct_of (o := fun r : Option Nat => (some (va_rf (Option.map (ad 3) r)))) (s' := fun r => σ) (P := fun r => ∀ q, r = some q → q < N 3) [some (.ref (ω.2.1 1)), some (.int a1)] (by decide) rfl (Nat.le_of_ble_eq_true rfl) (fun Γ C _ _ => w_p_Firm_tellingAt (Γ, ω, 2, ad, N, 0, 0) σ a1 C)
theorem ag_LC_9 : AG LC 9 0 12 := ⟨by decide, rfl⟩
theorem vw_X3_isUnit : VW yX3_isUnit cX3_isUnit 2 (some .boolean) 1 := ⟨⟨(in_wt 81 (by decide +kernel) (by decide +kernel)), (in_wt 422 (by decide +kernel) (by decide +kernel)), by decide +kernel⟩, (in_wt 420 (by decide +kernel) (by decide +kernel)), (in_wt 421 (by decide +kernel) (by decide +kernel))⟩
theorem fg_X3_9 : FG LC RX3 9 0 1 6 (1, 9) := ⟨_, _, _, _, _, rfl, rfl, rfl, by decide, uw_X3, (in_wt 135 (by decide +kernel) (by decide +kernel))⟩
theorem fp_X3_39 : FP LC RX3 39 0 1 1 (0, 0) .int := ⟨_, _, _, _, _, tyX3, rfl, rfl, rfl, by decide, uw_X3, (in_wt 122 (by decide +kernel) (by decide +kernel)), tyX3_ok, nmX3, rfl, by decide +kernel⟩
theorem ml_X3_52 : Cond.methodLink RX3 52 yX3_isUnit ∈ wt := in_wt 427 (by decide +kernel) (by decide +kernel)
/-- PostsEnd$Firm.int addUnit(int) -/
def p_Firm_addUnit (σ : St) (a1 : Int32) : Option (Int32 × St) := (Option.bind (α := St) ((if σ.1 0 1 1 < (12 : Int32) then (Option.bind (p_Firm_isUnit σ a1) fun r4 => (Option.bind (α := Int32) ((if r4 = 0 then some (0 : Int32) else (Option.bind (ix 12 a1) fun i12 => some (σ.1 0 9 i12)))) fun t6 => (Option.bind (ix 12 (σ.1 0 1 1)) fun i9 => (lt1 (sx σ 0 9 i9 (((1 : Int32) <<< ((σ.1 0 1 1) &&& 31)) ||| t6)) fun σ10 => (lt1 (sx σ10 0 1 1 ((σ10.1 0 1 1) + (1 : Int32))) fun σ11 => some σ11))))) else some σ)) fun t1 => some (σ.1 0 1 1, t1))
set_option maxRecDepth 20000 in
set_option maxHeartbeats 4000000 in
theorem w_p_Firm_addUnit (Θ : TT) (σ : St) (a1 : Int32) (C : CX Θ cX3_addUnit RX3 (some .int) ({ frames := 1, cells := 0, slots := 0, locals := 21 } : Room) 3) : WA LC Θ (fun r : Int32 × St => Qm LC Θ (some (.int r.1)) r.2 (True)) 0 [some (.ref (cF Θ 1)), some (.int a1), none] [] σ (p_Firm_addUnit σ a1) := by
  unfold p_Firm_addUnit
  refine r_aload_n C dX3_addUnit_0 rfl ?_
  refine r_getI0 C dX3_addUnit_1 fg_X3_39 (by decide) ?_
  refine r_istore_n C [some (.ref (cF Θ 1)), some (.int a1), some (.int (σ.1 0 1 1))] dX3_addUnit_4 rfl (by decide) rfl ?_
  refine r_iload_n C dX3_addUnit_5 rfl ?_
  refine r_bipush C (12 : Int32) dX3_addUnit_6 (by decide) ?_
  refine WA.join (α := St) 49 (fun t1 => [none, none, some (.int (σ.1 0 1 1))]) (fun t1 => []) (fun t1 => t1) (fun t1 => True) (fun t1 h2 => ?_) (fun J3 => ?_)
  · refine r_iload_n C dX3_addUnit_49 rfl ?_
    exact r_iret C dX3_addUnit_50 rfl rfl trivial
  · refine WA.bif ?_
    refine r_icmp_ge C 49 dX3_addUnit_8 (by decide) ?_ ?_
    · refine WA.wk (lv' := [none, none, some (.int (σ.1 0 1 1))]) [false, false, true] rfl ?_
      exact J3 σ trivial
    · refine r_aload_n C dX3_addUnit_11 rfl ?_
      refine r_getF0 C dX3_addUnit_12 fg_X3_9 (by decide) ?_
      refine r_iload_n C dX3_addUnit_15 rfl ?_
      refine r_iconst C (1 : Int32) dX3_addUnit_16 (by decide) ?_
      refine r_iload_n C dX3_addUnit_17 rfl ?_
      refine r_ishl C dX3_addUnit_18 ?_
      refine r_aload_n C dX3_addUnit_19 rfl ?_
      refine r_iload_n C dX3_addUnit_20 rfl ?_
      refine WA.asc ?_
      refine r_callV C (st := [.int ((1 : Int32) <<< ((σ.1 0 1 1) &&& 31)), .int (σ.1 0 1 1), .ref (cF Θ 9)]) (As := [.int a1]) (d := 0) (j := 1) dX3_addUnit_21 ml_X3_52 vw_X3_isUnit ⟨_, _, _, _, rfl, rfl⟩ (dm0 (by decide)) (fun r4 e => c_p_Firm_isUnit Θ.1.2.1 (cW Θ) (cAd Θ) (cN Θ) σ a1 r4 e) rfl rfl (Nat.le_of_ble_eq_true rfl) ⟨rfl, rfl, by decide, by decide⟩ (fun r4 h5 => ?_)
      refine WA.asc ?_
      refine WA.join (α := Int32) 37 (fun t6 => [some (.ref (cF Θ 1)), none, some (.int (σ.1 0 1 1))]) (fun t6 => [.int t6, .int ((1 : Int32) <<< ((σ.1 0 1 1) &&& 31)), .int (σ.1 0 1 1), .ref (cF Θ 9)]) (fun t6 => σ) (fun t6 => True) (fun t6 h7 => ?_) (fun J8 => ?_)
      · refine r_ior C dX3_addUnit_37 ?_
        refine WA.asc ?_
        refine r_iast C dX3_addUnit_38 ag_LC_9 (fun i9 => ?_)
        refine WA.genB (fun σ10 => ?_)
        refine r_aload_n C dX3_addUnit_39 rfl ?_
        refine r_dup C dX3_addUnit_40 rfl ?_
        refine r_getI0 C dX3_addUnit_41 fg_X3_39 (by decide) ?_
        refine r_iconst C (1 : Int32) dX3_addUnit_44 (by decide) ?_
        refine r_iadd C dX3_addUnit_45 ?_
        refine r_putI0 C dX3_addUnit_46 fp_X3_39 (by decide) ?_
        refine WA.genB (fun σ11 => ?_)
        refine WA.wk (lv' := [none, none, some (.int (σ.1 0 1 1))]) [false, false, true] rfl ?_
        exact J3 σ11 trivial
      · refine WA.bif ?_
        refine r_if_eq C 36 dX3_addUnit_24 (by decide) ?_ ?_
        · refine r_iconst C (0 : Int32) dX3_addUnit_36 (by decide) ?_
          refine WA.wk (lv' := [some (.ref (cF Θ 1)), none, some (.int (σ.1 0 1 1))]) [true, false, true] rfl ?_
          exact J8 (0 : Int32) trivial
        · refine r_aload_n C dX3_addUnit_27 rfl ?_
          refine r_getF0 C dX3_addUnit_28 fg_X3_9 (by decide) ?_
          refine r_iload_n C dX3_addUnit_31 rfl ?_
          refine WA.asc ?_
          refine r_iald (α := Unit) C dX3_addUnit_32 ag_LC_9 (fun i12 => ?_)
          refine r_goto C 37 dX3_addUnit_33 (by decide) ?_
          refine WA.wk (lv' := [some (.ref (cF Θ 1)), none, some (.int (σ.1 0 1 1))]) [true, false, true] rfl ?_
          exact J8 (σ.1 0 9 i12) trivial
theorem c_p_Firm_addUnit (l : Launch) (ω : Wd) (ad : Nat → Nat → Nat) (N : Nat → Nat) (σ : St) (a1 : Int32) : ∀ r : Int32 × St, p_Firm_addUnit σ a1 = some r → Ct l yX3_addUnit cX3_addUnit 3 (some .int) ({ frames := 1, cells := 0, slots := 0, locals := 21 } : Room) LC ω ad N [.ref (ω.2.1 1), .int a1] σ (some (.int r.1)) r.2 (True) :=
  ct_of (o := fun r : Int32 × St => (some (.int r.1))) (s' := fun r => r.2) (P := fun r => True) [some (.ref (ω.2.1 1)), some (.int a1), none] (by decide) rfl (Nat.le_of_ble_eq_true rfl) (fun Γ C _ _ => w_p_Firm_addUnit (Γ, ω, 3, ad, N, 0, 0) σ a1 C)
theorem fp_X3_43 : FP LC RX3 43 0 1 2 (0, 0) .int := ⟨_, _, _, _, _, tyX3, rfl, rfl, rfl, by decide, uw_X3, (in_wt 125 (by decide +kernel) (by decide +kernel)), tyX3_ok, nmX3, rfl, by decide +kernel⟩
/-- PostsEnd$Firm.int addPost(PostsEnd$Post) -/
def p_Firm_addPost (σ : St) (a1 : Nat) : Option (Int32 × St) := (Option.bind (α := St) ((if σ.1 0 1 2 < (40 : Int32) then (Option.bind (ix 40 (σ.1 0 1 2)) fun i4 => (lt1 (sy σ 0 10 i4 (some a1)) fun σ5 => (lt1 (sx σ5 0 1 2 ((σ5.1 0 1 2) + (1 : Int32))) fun σ6 => some σ6))) else some σ)) fun t1 => some (σ.1 0 1 2, t1))
set_option maxRecDepth 20000 in
set_option maxHeartbeats 4000000 in
theorem w_p_Firm_addPost (Θ : TT) (σ : St) (a1 : Nat) (b1 : a1 < cN Θ 1) (C : CX Θ cX3_addPost RX3 (some .int) ({ frames := 0, cells := 0, slots := 0, locals := 0 } : Room) 3) : WA LC Θ (fun r : Int32 × St => Qm LC Θ (some (.int r.1)) r.2 (True)) 0 [some (.ref (cF Θ 1)), some (.ref (cAd Θ 1 a1)), none] [] σ (p_Firm_addPost σ a1) := by
  unfold p_Firm_addPost
  refine r_aload_n C dX3_addPost_0 rfl ?_
  refine r_getI0 C dX3_addPost_1 fg_X3_43 (by decide) ?_
  refine r_istore_n C [some (.ref (cF Θ 1)), some (.ref (cAd Θ 1 a1)), some (.int (σ.1 0 1 2))] dX3_addPost_4 rfl (by decide) rfl ?_
  refine r_iload_n C dX3_addPost_5 rfl ?_
  refine r_bipush C (40 : Int32) dX3_addPost_6 (by decide) ?_
  refine WA.join (α := St) 28 (fun t1 => [none, none, some (.int (σ.1 0 1 2))]) (fun t1 => []) (fun t1 => t1) (fun t1 => True) (fun t1 h2 => ?_) (fun J3 => ?_)
  · refine r_iload_n C dX3_addPost_28 rfl ?_
    exact r_iret C dX3_addPost_29 rfl rfl trivial
  · refine WA.bif ?_
    refine r_icmp_ge C 28 dX3_addPost_8 (by decide) ?_ ?_
    · refine WA.wk (lv' := [none, none, some (.int (σ.1 0 1 2))]) [false, false, true] rfl ?_
      exact J3 σ trivial
    · refine r_aload_n C dX3_addPost_11 rfl ?_
      refine r_getF0 C dX3_addPost_12 fg_X3_17 (by decide) ?_
      refine r_iload_n C dX3_addPost_15 rfl ?_
      refine r_aload_n C dX3_addPost_16 rfl ?_
      refine WA.asc ?_
      refine r_aast C (x := (some a1)) dX3_addPost_17 ag_LC_10 rfl rfl (fun _ => rfl) (by decide) (fun q e => (Option.some.inj e) ▸ b1) (fun i4 => ?_)
      refine WA.genB (fun σ5 => ?_)
      refine r_aload_n C dX3_addPost_18 rfl ?_
      refine r_dup C dX3_addPost_19 rfl ?_
      refine r_getI0 C dX3_addPost_20 fg_X3_43 (by decide) ?_
      refine r_iconst C (1 : Int32) dX3_addPost_23 (by decide) ?_
      refine r_iadd C dX3_addPost_24 ?_
      refine r_putI0 C dX3_addPost_25 fp_X3_43 (by decide) ?_
      refine WA.genB (fun σ6 => ?_)
      refine WA.wk (lv' := [none, none, some (.int (σ.1 0 1 2))]) [false, false, true] rfl ?_
      exact J3 σ6 trivial
theorem c_p_Firm_addPost (l : Launch) (ω : Wd) (ad : Nat → Nat → Nat) (N : Nat → Nat) (σ : St) (a1 : Nat) (b1 : a1 < N 1) : ∀ r : Int32 × St, p_Firm_addPost σ a1 = some r → Ct l yX3_addPost cX3_addPost 3 (some .int) ({ frames := 0, cells := 0, slots := 0, locals := 0 } : Room) LC ω ad N [.ref (ω.2.1 1), .ref (ad 1 a1)] σ (some (.int r.1)) r.2 (True) :=
  ct_of (o := fun r : Int32 × St => (some (.int r.1))) (s' := fun r => r.2) (P := fun r => True) [some (.ref (ω.2.1 1)), some (.ref (ad 1 a1)), none] (by decide) rfl (Nat.le_of_ble_eq_true rfl) (fun Γ C _ _ => w_p_Firm_addPost (Γ, ω, 3, ad, N, 0, 0) σ a1 b1 C)
theorem fp_X3_46 : FP LC RX3 46 0 1 3 (0, 0) .int := ⟨_, _, _, _, _, tyX3, rfl, rfl, rfl, by decide, uw_X3, (in_wt 129 (by decide +kernel) (by decide +kernel)), tyX3_ok, nmX3, rfl, by decide +kernel⟩
/-- PostsEnd$Firm.int addPerson(PostsEnd$Person) -/
def p_Firm_addPerson (σ : St) (a1 : Nat) : Option (Int32 × St) := (Option.bind (α := St) ((if σ.1 0 1 3 < (40 : Int32) then (Option.bind (ix 40 (σ.1 0 1 3)) fun i4 => (lt1 (sy σ 0 11 i4 (some a1)) fun σ5 => (lt1 (sx σ5 0 1 3 ((σ5.1 0 1 3) + (1 : Int32))) fun σ6 => some σ6))) else some σ)) fun t1 => some (σ.1 0 1 3, t1))
set_option maxRecDepth 20000 in
set_option maxHeartbeats 4000000 in
theorem w_p_Firm_addPerson (Θ : TT) (σ : St) (a1 : Nat) (b1 : a1 < cN Θ 2) (C : CX Θ cX3_addPerson RX3 (some .int) ({ frames := 0, cells := 0, slots := 0, locals := 0 } : Room) 3) : WA LC Θ (fun r : Int32 × St => Qm LC Θ (some (.int r.1)) r.2 (True)) 0 [some (.ref (cF Θ 1)), some (.ref (cAd Θ 2 a1)), none] [] σ (p_Firm_addPerson σ a1) := by
  unfold p_Firm_addPerson
  refine r_aload_n C dX3_addPerson_0 rfl ?_
  refine r_getI0 C dX3_addPerson_1 fg_X3_46 (by decide) ?_
  refine r_istore_n C [some (.ref (cF Θ 1)), some (.ref (cAd Θ 2 a1)), some (.int (σ.1 0 1 3))] dX3_addPerson_4 rfl (by decide) rfl ?_
  refine r_iload_n C dX3_addPerson_5 rfl ?_
  refine r_bipush C (40 : Int32) dX3_addPerson_6 (by decide) ?_
  refine WA.join (α := St) 28 (fun t1 => [none, none, some (.int (σ.1 0 1 3))]) (fun t1 => []) (fun t1 => t1) (fun t1 => True) (fun t1 h2 => ?_) (fun J3 => ?_)
  · refine r_iload_n C dX3_addPerson_28 rfl ?_
    exact r_iret C dX3_addPerson_29 rfl rfl trivial
  · refine WA.bif ?_
    refine r_icmp_ge C 28 dX3_addPerson_8 (by decide) ?_ ?_
    · refine WA.wk (lv' := [none, none, some (.int (σ.1 0 1 3))]) [false, false, true] rfl ?_
      exact J3 σ trivial
    · refine r_aload_n C dX3_addPerson_11 rfl ?_
      refine r_getF0 C dX3_addPerson_12 fg_X3_23 (by decide) ?_
      refine r_iload_n C dX3_addPerson_15 rfl ?_
      refine r_aload_n C dX3_addPerson_16 rfl ?_
      refine WA.asc ?_
      refine r_aast C (x := (some a1)) dX3_addPerson_17 ag_LC_11 rfl rfl (fun _ => rfl) (by decide) (fun q e => (Option.some.inj e) ▸ b1) (fun i4 => ?_)
      refine WA.genB (fun σ5 => ?_)
      refine r_aload_n C dX3_addPerson_18 rfl ?_
      refine r_dup C dX3_addPerson_19 rfl ?_
      refine r_getI0 C dX3_addPerson_20 fg_X3_46 (by decide) ?_
      refine r_iconst C (1 : Int32) dX3_addPerson_23 (by decide) ?_
      refine r_iadd C dX3_addPerson_24 ?_
      refine r_putI0 C dX3_addPerson_25 fp_X3_46 (by decide) ?_
      refine WA.genB (fun σ6 => ?_)
      refine WA.wk (lv' := [none, none, some (.int (σ.1 0 1 3))]) [false, false, true] rfl ?_
      exact J3 σ6 trivial
theorem c_p_Firm_addPerson (l : Launch) (ω : Wd) (ad : Nat → Nat → Nat) (N : Nat → Nat) (σ : St) (a1 : Nat) (b1 : a1 < N 2) : ∀ r : Int32 × St, p_Firm_addPerson σ a1 = some r → Ct l yX3_addPerson cX3_addPerson 3 (some .int) ({ frames := 0, cells := 0, slots := 0, locals := 0 } : Room) LC ω ad N [.ref (ω.2.1 1), .ref (ad 2 a1)] σ (some (.int r.1)) r.2 (True) :=
  ct_of (o := fun r : Int32 × St => (some (.int r.1))) (s' := fun r => r.2) (P := fun r => True) [some (.ref (ω.2.1 1)), some (.ref (ad 2 a1)), none] (by decide) rfl (Nat.le_of_ble_eq_true rfl) (fun Γ C _ _ => w_p_Firm_addPerson (Γ, ω, 3, ad, N, 0, 0) σ a1 b1 C)
theorem fpi_X10_13 (j : Nat) : FPi LC RX10 13 3 j 1 (0, 0) .int := ⟨_, _, _, _, _, tyX10, rfl, rfl, rfl, by decide, uw_X10, (in_wt 638 (by decide +kernel) (by decide +kernel)), tyX10_ok, nmX10, rfl, rfl, by decide +kernel⟩
theorem fpi_X10_17 (j : Nat) : FPi LC RX10 17 3 j 2 (0, 0) .int := ⟨_, _, _, _, _, tyX10, rfl, rfl, rfl, by decide, uw_X10, (in_wt 642 (by decide +kernel) (by decide +kernel)), tyX10_ok, nmX10, rfl, rfl, by decide +kernel⟩
theorem fpi_X10_20 (j : Nat) : FPi LC RX10 20 3 j 3 (0, 0) .int := ⟨_, _, _, _, _, tyX10, rfl, rfl, rfl, by decide, uw_X10, (in_wt 644 (by decide +kernel) (by decide +kernel)), tyX10_ok, nmX10, rfl, rfl, by decide +kernel⟩
theorem fpi_X10_23 (j : Nat) : FPi LC RX10 23 3 j 4 (4, 0) (.object "PostsEnd$Telling") := ⟨_, _, _, _, _, tyX10, rfl, rfl, rfl, by decide, uw_X10, (in_wt 645 (by decide +kernel) (by decide +kernel)), tyX10_ok, nmX10, rfl, rfl, by decide +kernel⟩
theorem fpi_X10_7 (j : Nat) : FPi LC RX10 7 3 j 0 (3, 0) (.object "PostsEnd$Person") := ⟨_, _, _, _, _, tyX10, rfl, rfl, rfl, by decide, uw_X10, (in_wt 636 (by decide +kernel) (by decide +kernel)), tyX10_ok, nmX10, rfl, rfl, by decide +kernel⟩
theorem oi_X10_1 : Cond.methodLink RX10 1 Lib.objectInit ∈ wt ∧ Cond.instanceMethod Lib.objectInit ∈ wt ∧ Cond.code Lib.objectInit ⟨#[0xb1]⟩ 1 none ∈ wt := ⟨(in_wt 635 (by decide +kernel) (by decide +kernel)), (in_wt 103 (by decide +kernel) (by decide +kernel)), (in_wt 104 (by decide +kernel) (by decide +kernel))⟩
/-- PostsEnd$Telling.PostsEnd$Telling(PostsEnd$Person, int, int, int, PostsEnd$Telling) -/
def p_Telling_init (σ : St) (a0 : Nat) (a1 : Nat) (a2 : Int32) (a3 : Int32) (a4 : Int32) (a5 : Option Nat) : Option St := (lt1 (sy σ 3 a0 0 (some a1)) fun σ1 => (lt1 (sx σ1 3 a0 1 a2) fun σ2 => (lt1 (sx σ2 3 a0 2 a3) fun σ3 => (lt1 (sx σ3 3 a0 3 a4) fun σ4 => (lt1 (sy σ4 3 a0 4 a5) fun σ5 => some σ5)))))
set_option maxRecDepth 20000 in
set_option maxHeartbeats 4000000 in
theorem w_p_Telling_init (Θ : TT) (σ : St) (a0 : Nat) (a1 : Nat) (a2 : Int32) (a3 : Int32) (a4 : Int32) (a5 : Option Nat) (b0 : a0 < cN Θ 3) (b1 : a1 < cN Θ 2) (b5 : ∀ q, a5 = some q → q < cN Θ 3) (hnm : Θ.1.2.2.2.2.2.2.2.2.1.name = "<init>") (C : CX Θ cX10_init RX10 none ({ frames := 1, cells := 0, slots := 0, locals := 12 } : Room) 6) : WA LC Θ (fun r : St => Qm LC Θ none r (True)) 0 [some (.ref (cAd Θ 3 a0)), some (.ref (cAd Θ 2 a1)), some (.int a2), some (.int a3), some (.int a4), some (va_rf (Option.map (cAd Θ 3) a5))] [] σ (p_Telling_init σ a0 a1 a2 a3 a4 a5) := by
  unfold p_Telling_init
  refine r_aload_n C dX10_init_0 rfl ?_
  refine r_objInit C dX10_init_1 oi_X10_1 (by decide) (Nat.le_of_ble_eq_true rfl) ?_
  refine r_aload_n C dX10_init_4 rfl ?_
  refine r_aload_n C dX10_init_5 rfl ?_
  refine r_putFQ C hnm (x := (some a1)) dX10_init_6 (fpi_X10_7 _) (by decide) b0 (fun q e => (Option.some.inj e) ▸ b1) ?_
  refine WA.gen (fun σ1 => ?_)
  refine r_aload_n C dX10_init_9 rfl ?_
  refine r_iload_n C dX10_init_10 rfl ?_
  refine r_putFI C hnm dX10_init_11 (fpi_X10_13 _) (by decide) b0 ?_
  refine WA.gen (fun σ2 => ?_)
  refine r_aload_n C dX10_init_14 rfl ?_
  refine r_iload_n C dX10_init_15 rfl ?_
  refine r_putFI C hnm dX10_init_16 (fpi_X10_17 _) (by decide) b0 ?_
  refine WA.gen (fun σ3 => ?_)
  refine r_aload_n C dX10_init_19 rfl ?_
  refine r_iload C dX10_init_20 rfl ?_
  refine r_putFI C hnm dX10_init_22 (fpi_X10_20 _) (by decide) b0 ?_
  refine WA.gen (fun σ4 => ?_)
  refine r_aload_n C dX10_init_25 rfl ?_
  refine r_aloadQ C (x := Option.map (cAd Θ 3) a5) dX10_init_26 rfl ?_
  refine r_putFQ C hnm (x := a5) dX10_init_28 (fpi_X10_23 _) (by decide) b0 b5 ?_
  refine WA.gen (fun σ5 => ?_)
  exact r_vret C dX10_init_31 rfl rfl trivial
theorem c_p_Telling_init (l : Launch) (ω : Wd) (ad : Nat → Nat → Nat) (N : Nat → Nat) (σ : St) (a0 : Nat) (a1 : Nat) (a2 : Int32) (a3 : Int32) (a4 : Int32) (a5 : Option Nat) (b0 : a0 < N 3) (b1 : a1 < N 2) (b5 : ∀ q, a5 = some q → q < N 3) : ∀ r : St, p_Telling_init σ a0 a1 a2 a3 a4 a5 = some r → Ct l yX10_init cX10_init 6 none ({ frames := 1, cells := 0, slots := 0, locals := 12 } : Room) LC ω ad N [.ref (ad 3 a0), .ref (ad 2 a1), .int a2, .int a3, .int a4, va_rf (Option.map (ad 3) a5)] σ none r (True) :=
  ct_of (o := fun r : St => none) (s' := fun r => r) (P := fun r => True) [some (.ref (ad 3 a0)), some (.ref (ad 2 a1)), some (.int a2), some (.int a3), some (.int a4), some (va_rf (Option.map (ad 3) a5))] (by decide) (by simp [pr, lv_args, cat_rf, cat_i, cat_r]) (by simp [lg_sl, cat_rf, cat_i, cat_r]) (fun Γ C _ hn => w_p_Telling_init (Γ, ω, 6, ad, N, 0, 0) σ a0 a1 a2 a3 a4 a5 b0 b1 b5 hn C)
theorem fg_X5_53 (j : Nat) : FG LC RX5 53 3 j 1 (0, 0) := ⟨_, _, _, _, _, rfl, rfl, rfl, by decide, uw_X10, (in_wt 639 (by decide +kernel) (by decide +kernel))⟩
theorem fp_X5_46 (j : Nat) : FP LC RX5 46 2 j 9 (4, 0) (.object "PostsEnd$Telling") := ⟨_, _, _, _, _, tyX5, rfl, rfl, rfl, by decide, uw_X5, (in_wt 553 (by decide +kernel) (by decide +kernel)), tyX5_ok, nmX5, rfl, by decide +kernel⟩
theorem fp_X5_50 (j : Nat) : FP LC RX5 50 2 j 10 (4, 0) (.object "PostsEnd$Telling") := ⟨_, _, _, _, _, tyX5, rfl, rfl, rfl, by decide, uw_X5, (in_wt 554 (by decide +kernel) (by decide +kernel)), tyX5_ok, nmX5, rfl, by decide +kernel⟩
/-- PostsEnd$Person.void add(PostsEnd$Telling) -/
def p_Person_add (σ : St) (a0 : Nat) (a1 : Nat) : Option St := (if σ.1 3 a1 1 = 0 then (lt1 (sy σ 2 a0 9 (some a1)) fun σ2 => some σ2) else (lt1 (sy σ 2 a0 10 (some a1)) fun σ1 => some σ1))
set_option maxRecDepth 20000 in
set_option maxHeartbeats 4000000 in
theorem w_p_Person_add (Θ : TT) (σ : St) (a0 : Nat) (a1 : Nat) (b0 : a0 < cN Θ 2) (b1 : a1 < cN Θ 3) (C : CX Θ cX5_add RX5 none ({ frames := 0, cells := 0, slots := 0, locals := 0 } : Room) 2) : WA LC Θ (fun r : St => Qm LC Θ none r (True)) 0 [some (.ref (cAd Θ 2 a0)), some (.ref (cAd Θ 3 a1))] [] σ (p_Person_add σ a0 a1) := by
  unfold p_Person_add
  refine r_aload_n C dX5_add_0 rfl ?_
  refine r_getI C dX5_add_1 (fg_X5_53 _) (by decide) b1 ?_
  refine r_if_ne C 15 dX5_add_4 (by decide) ?_ ?_
  · refine r_aload_n C dX5_add_15 rfl ?_
    refine r_aload_n C dX5_add_16 rfl ?_
    refine r_putQ C (x := (some a1)) dX5_add_17 (fp_X5_50 _) (by decide) b0 (fun q e => (Option.some.inj e) ▸ b1) ?_
    refine WA.gen (fun σ1 => ?_)
    exact r_vret C dX5_add_20 rfl rfl trivial
  · refine r_aload_n C dX5_add_7 rfl ?_
    refine r_aload_n C dX5_add_8 rfl ?_
    refine r_putQ C (x := (some a1)) dX5_add_9 (fp_X5_46 _) (by decide) b0 (fun q e => (Option.some.inj e) ▸ b1) ?_
    refine WA.gen (fun σ2 => ?_)
    refine r_goto C 20 dX5_add_12 (by decide) ?_
    exact r_vret C dX5_add_20 rfl rfl trivial
theorem c_p_Person_add (l : Launch) (ω : Wd) (ad : Nat → Nat → Nat) (N : Nat → Nat) (σ : St) (a0 : Nat) (a1 : Nat) (b0 : a0 < N 2) (b1 : a1 < N 3) : ∀ r : St, p_Person_add σ a0 a1 = some r → Ct l yX5_add cX5_add 2 none ({ frames := 0, cells := 0, slots := 0, locals := 0 } : Room) LC ω ad N [.ref (ad 2 a0), .ref (ad 3 a1)] σ none r (True) :=
  ct_of (o := fun r : St => none) (s' := fun r => r) (P := fun r => True) [some (.ref (ad 2 a0)), some (.ref (ad 3 a1))] (by decide) rfl (Nat.le_of_ble_eq_true rfl) (fun Γ C _ _ => w_p_Person_add (Γ, ω, 2, ad, N, 0, 0) σ a0 a1 b0 b1 C)
theorem vw_X5_add : VW yX5_add cX5_add 2 none 1 := ⟨⟨(in_wt 90 (by decide +kernel) (by decide +kernel)), (in_wt 667 (by decide +kernel) (by decide +kernel)), by decide +kernel⟩, (in_wt 665 (by decide +kernel) (by decide +kernel)), (in_wt 666 (by decide +kernel) (by decide +kernel))⟩
theorem iw_X10_init : MW yX10_init cX10_init 6 none 5 ∧ Cond.instanceMethod yX10_init ∈ wt := ⟨⟨(in_wt 91 (by decide +kernel) (by decide +kernel)), (in_wt 634 (by decide +kernel) (by decide +kernel)), by decide +kernel⟩, (in_wt 633 (by decide +kernel) (by decide +kernel))⟩
theorem fp_X3_49 : FP LC RX3 49 0 1 4 (0, 0) .int := ⟨_, _, _, _, _, tyX3, rfl, rfl, rfl, by decide, uw_X3, (in_wt 132 (by decide +kernel) (by decide +kernel)), tyX3_ok, nmX3, rfl, by decide +kernel⟩
theorem ml_X3_59 : Cond.methodLink RX3 59 yX5_lastTold ∈ wt := in_wt 628 (by decide +kernel) (by decide +kernel)
theorem ml_X3_63 : Cond.methodLink RX3 63 yX10_init ∈ wt := in_wt 632 (by decide +kernel) (by decide +kernel)
theorem ml_X3_66 : Cond.methodLink RX3 66 yX5_add ∈ wt := in_wt 664 (by decide +kernel) (by decide +kernel)
theorem nw_X3_27 : NWd LC RX3 27 3 7 := ⟨_, _, _, _, tyX10, fun _ => rfl, rfl, uw_X10, (in_wt 115 (by decide +kernel) (by decide +kernel)), (in_wt 627 (by decide +kernel) (by decide +kernel)), (in_wt 91 (by decide +kernel) (by decide +kernel)), tyX10_ok, (fun k hk => by rcases (show k = 0 ∨ k = 1 ∨ k = 2 ∨ k = 3 ∨ k = 4 ∨ k = 5 ∨ k = 6 by omega) with rfl | rfl | rfl | rfl | rfl | rfl | rfl <;> rfl), rfl, rfl⟩
/-- PostsEnd$Firm.int addTelling(PostsEnd$Person, int, int) -/
def p_Firm_addTelling (σ : St) (n : Nat) (a1 : Nat) (a2 : Int32) (a3 : Int32) : Option ((Int32 × St) × Nat) := (if σ.1 0 1 4 < (120 : Int32) then (lt1 (clr σ 3 n) fun σ1 => (Option.bind (p_Person_lastTold σ1 a1 a2) fun r2 => (Option.bind (p_Telling_init σ1 n a1 a2 (σ1.1 0 1 0) a3 r2) fun r4 => (Option.bind (ix 120 (σ.1 0 1 4)) fun i6 => (lt1 (sy r4 0 12 i6 (some n)) fun σ7 => (Option.bind (p_Person_add σ7 a1 n) fun r8 => (lt1 (sx r8 0 1 4 ((r8.1 0 1 4) + (1 : Int32))) fun σ10 => some ((σ.1 0 1 4, σ10), n + 1)))))))) else some ((σ.1 0 1 4, σ), n))
set_option maxRecDepth 20000 in
set_option maxHeartbeats 4000000 in
theorem w_p_Firm_addTelling (Θ : TT) (σ : St) (n : Nat) (a1 : Nat) (a2 : Int32) (a3 : Int32) (b1 : a1 < cN Θ 2) (bn : cN Θ 3 = n) (hc0 : cC Θ = (0, 0)) (C : CX Θ cX3_addTelling RX3 (some .int) ({ frames := 2, cells := 1, slots := 7, locals := 37 } : Room) 6) : WA LC Θ (fun r : (Int32 × St) × Nat => QmA LC Θ 3 1 7 (some (.int r.1.1)) r.1.2 r.2 True) 0 [some (.ref (cF Θ 1)), some (.ref (cAd Θ 2 a1)), some (.int a2), some (.int a3), none, none] [] σ (p_Firm_addTelling σ n a1 a2 a3) := by
  unfold p_Firm_addTelling
  refine r_aload_n C dX3_addTelling_0 rfl ?_
  refine r_getI0 C dX3_addTelling_1 fg_X3_49 (by decide) ?_
  refine r_istore C [some (.ref (cF Θ 1)), some (.ref (cAd Θ 2 a1)), some (.int a2), some (.int a3), some (.int (σ.1 0 1 4)), none] dX3_addTelling_4 rfl (by decide) rfl ?_
  refine r_iload C dX3_addTelling_6 rfl ?_
  refine r_bipush C (120 : Int32) dX3_addTelling_8 (by decide) ?_
  refine r_icmp_ge C 59 dX3_addTelling_10 (by decide) ?_ ?_
  · refine r_iload C dX3_addTelling_59 rfl ?_
    exact r_iretA C (Ext.refl Θ bn) (by rw [hc0]; decide) (by rw [hc0]; decide) dX3_addTelling_61 rfl rfl rfl trivial
  · refine r_new C dX3_addTelling_13 nw_X3_27 (by decide) bn (by rw [hc0]; decide) (by rw [hc0]; decide) (fun Θ1 C1 E => ?_)
    have b1 := E.lt b1
    have hnn : n < cN Θ1 3 := by rw [E.hN]; exact Nat.lt_succ_self n
    refine WA.rl (lv' := [some (.ref (cF Θ1 1)), some (.ref (cAd Θ1 2 a1)), some (.int a2), some (.int a3), some (.int (σ.1 0 1 4)), none]) (st' := [.ref (cAd Θ1 3 n)]) (by simp [va_rf, E.hF, E.hA (show 2 ≠ 3 by decide)]) (by simp [va_rf, E.hF, E.hA (show 2 ≠ 3 by decide)]) ?_
    refine WA.gen (fun σ1 => ?_)
    refine r_dup C1 dX3_addTelling_16 rfl ?_
    refine r_aload_n C1 dX3_addTelling_17 rfl ?_
    refine r_iload_n C1 dX3_addTelling_18 rfl ?_
    refine r_aload_n C1 dX3_addTelling_19 rfl ?_
    refine r_getI0 C1 dX3_addTelling_20 fg_X3_56 (by decide) ?_
    refine r_iload_n C1 dX3_addTelling_23 rfl ?_
    refine r_aload_n C1 dX3_addTelling_24 rfl ?_
    refine r_iload_n C1 dX3_addTelling_25 rfl ?_
    refine r_callV C1 (st := [.int a3, .int (σ1.1 0 1 0), .int a2, .ref (cAd Θ1 2 a1), .ref (cAd Θ1 3 n), .ref (cAd Θ1 3 n)]) (As := [.int a2]) (d := 2) (j := a1) dX3_addTelling_26 ml_X3_59 vw_X5_lastTold ⟨_, _, _, _, rfl, rfl⟩ (dmk (by decide) (by decide) b1) (fun r2 e => c_p_Person_lastTold Θ1.1.2.1 (cW Θ1) (cAd Θ1) (cN Θ1) σ1 a1 a2 b1 r2 e) rfl rfl (Nat.le_of_ble_eq_true rfl) ⟨rfl, rfl, by decide, by decide⟩ (fun r2 h3 => ?_)
    refine r_callI C1 (st := [.ref (cAd Θ1 3 n)]) (As := [.ref (cAd Θ1 2 a1), .int a2, .int (σ1.1 0 1 0), .int a3, va_rf (Option.map (cAd Θ1 3) r2)]) (b := (cAd Θ1 3 n)) dX3_addTelling_29 ml_X3_63 iw_X10_init rfl (fun r4 e => c_p_Telling_init Θ1.1.2.1 (cW Θ1) (cAd Θ1) (cN Θ1) σ1 n a1 a2 (σ1.1 0 1 0) a3 r2 hnn b1 h3 r4 e) rfl rfl (Nat.le_of_ble_eq_true rfl) ⟨rfl, rfl, by decide, by decide⟩ (fun r4 h5 => ?_)
    refine r_astore C1 (x := some (cAd Θ1 3 n)) [some (.ref (cF Θ1 1)), some (.ref (cAd Θ1 2 a1)), some (.int a2), some (.int a3), some (.int (σ.1 0 1 4)), some (.ref (cAd Θ1 3 n))] dX3_addTelling_32 rfl (by decide) rfl ?_
    refine r_aload_n C1 dX3_addTelling_34 rfl ?_
    refine r_getF0 C1 dX3_addTelling_35 fg_X3_29 (by decide) ?_
    refine r_iload C1 dX3_addTelling_38 rfl ?_
    refine r_aload C1 dX3_addTelling_40 rfl ?_
    refine r_aast C1 (x := (some n)) dX3_addTelling_42 ag_LC_12 rfl rfl (fun _ => rfl) (by decide) (fun q e => (Option.some.inj e) ▸ hnn) (fun i6 => ?_)
    refine WA.gen (fun σ7 => ?_)
    refine r_aload_n C1 dX3_addTelling_43 rfl ?_
    refine r_aload C1 dX3_addTelling_44 rfl ?_
    refine r_callV C1 (st := []) (As := [.ref (cAd Θ1 3 n)]) (d := 2) (j := a1) dX3_addTelling_46 ml_X3_66 vw_X5_add ⟨_, _, _, _, rfl, rfl⟩ (dmk (by decide) (by decide) b1) (fun r8 e => c_p_Person_add Θ1.1.2.1 (cW Θ1) (cAd Θ1) (cN Θ1) σ7 a1 n b1 hnn r8 e) rfl rfl (Nat.le_of_ble_eq_true rfl) ⟨rfl, rfl, by decide, by decide⟩ (fun r8 h9 => ?_)
    refine r_aload_n C1 dX3_addTelling_49 rfl ?_
    refine r_dup C1 dX3_addTelling_50 rfl ?_
    refine r_getI0 C1 dX3_addTelling_51 fg_X3_49 (by decide) ?_
    refine r_iconst C1 (1 : Int32) dX3_addTelling_54 (by decide) ?_
    refine r_iadd C1 dX3_addTelling_55 ?_
    refine r_putI0 C1 dX3_addTelling_56 fp_X3_49 (by decide) ?_
    refine WA.gen (fun σ10 => ?_)
    refine r_iload C1 dX3_addTelling_59 rfl ?_
    exact r_iretA C1 E (by rw [hc0]; decide) (by rw [hc0]; decide) dX3_addTelling_61 rfl rfl rfl trivial
theorem c_p_Firm_addTelling (l : Launch) (ω : Wd) (ad : Nat → Nat → Nat) (N : Nat → Nat) (σ : St) (n : Nat) (a1 : Nat) (a2 : Int32) (a3 : Int32) (b1 : a1 < N 2) (bn : N 3 = n) : ∀ r : (Int32 × St) × Nat, p_Firm_addTelling σ n a1 a2 a3 = some r → CtA l yX3_addTelling cX3_addTelling 6 (some .int) ({ frames := 2, cells := 1, slots := 7, locals := 37 } : Room) LC ω ad N [.ref (ω.2.1 1), .ref (ad 2 a1), .int a2, .int a3] σ 3 1 7 (some (.int r.1.1)) r.1.2 r.2 True :=
  ct_ofA (o := fun r : (Int32 × St) × Nat => some (.int r.1.1)) (s' := fun r => r.1.2) (n' := fun r => r.2) (P := fun _ => True) [some (.ref (ω.2.1 1)), some (.ref (ad 2 a1)), some (.int a2), some (.int a3), none, none] (by decide) rfl (Nat.le_of_ble_eq_true rfl) (fun Γ C _ => w_p_Firm_addTelling (Γ, ω, 6, ad, N, 0, 0) σ n a1 a2 a3 b1 bn rfl C)
theorem fg_X7_7 (j : Nat) : FG LC RX7 7 1 j 6 (0, 0) := ⟨_, _, _, _, _, rfl, rfl, rfl, by decide, uw_X7, (in_wt 457 (by decide +kernel) (by decide +kernel))⟩
/-- PostsEnd$Post.boolean isOpen() -/
def p_Post_isOpen (σ : St) (a0 : Nat) : Option Int32 := (if σ.1 1 a0 6 < 0 then some (1 : Int32) else some (0 : Int32))
set_option maxRecDepth 20000 in
set_option maxHeartbeats 4000000 in
theorem w_p_Post_isOpen (Θ : TT) (σ : St) (a0 : Nat) (b0 : a0 < cN Θ 1) (C : CX Θ cX7_isOpen RX7 (some .boolean) ({ frames := 0, cells := 0, slots := 0, locals := 0 } : Room) 1) : WA LC Θ (fun r : Int32 => Qm LC Θ (some (.int r)) σ (narrow .boolean (.int r) = .int r)) 0 [some (.ref (cAd Θ 1 a0))] [] σ (p_Post_isOpen σ a0) := by
  unfold p_Post_isOpen
  refine r_aload_n C dX7_isOpen_0 rfl ?_
  refine r_getI C dX7_isOpen_1 (fg_X7_7 _) (by decide) b0 ?_
  refine r_if_ge C 11 dX7_isOpen_4 (by decide) ?_ ?_
  · refine r_iconst C (0 : Int32) dX7_isOpen_11 (by decide) ?_
    exact r_zret C dX7_isOpen_12 (show narrow .boolean (.int (0 : Int32)) = .int (0 : Int32) from rfl) rfl rfl (show narrow .boolean (.int (0 : Int32)) = .int (0 : Int32) from rfl)
  · refine r_iconst C (1 : Int32) dX7_isOpen_7 (by decide) ?_
    refine r_goto C 12 dX7_isOpen_8 (by decide) ?_
    exact r_zret C dX7_isOpen_12 (show narrow .boolean (.int (1 : Int32)) = .int (1 : Int32) from rfl) rfl rfl (show narrow .boolean (.int (1 : Int32)) = .int (1 : Int32) from rfl)
theorem c_p_Post_isOpen (l : Launch) (ω : Wd) (ad : Nat → Nat → Nat) (N : Nat → Nat) (σ : St) (a0 : Nat) (b0 : a0 < N 1) : ∀ r : Int32, p_Post_isOpen σ a0 = some r → Ct l yX7_isOpen cX7_isOpen 1 (some .boolean) ({ frames := 0, cells := 0, slots := 0, locals := 0 } : Room) LC ω ad N [.ref (ad 1 a0)] σ (some (.int r)) σ (narrow .boolean (.int r) = .int r) :=
  ct_of (o := fun r : Int32 => (some (.int r))) (s' := fun r => σ) (P := fun r => narrow .boolean (.int r) = .int r) [some (.ref (ad 1 a0))] (by decide) rfl (Nat.le_of_ble_eq_true rfl) (fun Γ C _ _ => w_p_Post_isOpen (Γ, ω, 1, ad, N, 0, 0) σ a0 b0 C)
theorem vw_X7_isOpen : VW yX7_isOpen cX7_isOpen 1 (some .boolean) 0 := ⟨⟨(in_wt 89 (by decide +kernel) (by decide +kernel)), (in_wt 493 (by decide +kernel) (by decide +kernel)), by decide +kernel⟩, (in_wt 491 (by decide +kernel) (by decide +kernel)), (in_wt 492 (by decide +kernel) (by decide +kernel))⟩
theorem fg_X3_74 (j : Nat) : FG LC RX3 74 1 j 1 (0, 0) := ⟨_, _, _, _, _, rfl, rfl, rfl, by decide, uw_X7, (in_wt 444 (by decide +kernel) (by decide +kernel))⟩
theorem ml_X3_70 : Cond.methodLink RX3 70 yX7_isOpen ∈ wt := in_wt 768 (by decide +kernel) (by decide +kernel)
/-- PostsEnd$Firm.boolean isOpenBelow(PostsEnd$Post, int) -/
def p_Firm_isOpenBelow (σ : St) (a1 : Nat) (a2 : Int32) : Option Int32 := (Option.bind (p_Post_isOpen σ a1) fun r1 => (if r1 = 0 then some (0 : Int32) else (Option.bind (p_Firm_isUnit σ (σ.1 1 a1 1)) fun r3 => (if r3 = 0 then some (0 : Int32) else (Option.bind (p_Firm_isUnit σ a2) fun r5 => (if r5 = 0 then some (0 : Int32) else (Option.bind (ix 12 (σ.1 1 a1 1)) fun i7 => (if ((σ.1 0 9 i7) >>> (a2 &&& 31)) &&& (1 : Int32) = (1 : Int32) then some (1 : Int32) else some (0 : Int32)))))))))
set_option maxRecDepth 20000 in
set_option maxHeartbeats 4000000 in
theorem w_p_Firm_isOpenBelow (Θ : TT) (σ : St) (a1 : Nat) (a2 : Int32) (b1 : a1 < cN Θ 1) (C : CX Θ cX3_isOpenBelow RX3 (some .boolean) ({ frames := 1, cells := 0, slots := 0, locals := 21 } : Room) 3) : WA LC Θ (fun r : Int32 => Qm LC Θ (some (.int r)) σ (narrow .boolean (.int r) = .int r)) 0 [some (.ref (cF Θ 1)), some (.ref (cAd Θ 1 a1)), some (.int a2)] [] σ (p_Firm_isOpenBelow σ a1 a2) := by
  unfold p_Firm_isOpenBelow
  refine r_aload_n C dX3_isOpenBelow_0 rfl ?_
  refine r_callV C (st := []) (As := []) (d := 1) (j := a1) dX3_isOpenBelow_1 ml_X3_70 vw_X7_isOpen ⟨_, _, _, _, rfl, rfl⟩ (dmk (by decide) (by decide) b1) (fun r1 e => c_p_Post_isOpen Θ.1.2.1 (cW Θ) (cAd Θ) (cN Θ) σ a1 b1 r1 e) rfl rfl (Nat.le_of_ble_eq_true rfl) ⟨rfl, rfl, by decide, by decide⟩ (fun r1 h2 => ?_)
  refine r_if_eq C 47 dX3_isOpenBelow_4 (by decide) ?_ ?_
  · refine r_iconst C (0 : Int32) dX3_isOpenBelow_47 (by decide) ?_
    exact r_zret C dX3_isOpenBelow_48 (show narrow .boolean (.int (0 : Int32)) = .int (0 : Int32) from rfl) rfl rfl (show narrow .boolean (.int (0 : Int32)) = .int (0 : Int32) from rfl)
  · refine r_aload_n C dX3_isOpenBelow_7 rfl ?_
    refine r_aload_n C dX3_isOpenBelow_8 rfl ?_
    refine r_getI C dX3_isOpenBelow_9 (fg_X3_74 _) (by decide) b1 ?_
    refine r_callV C (st := []) (As := [.int (σ.1 1 a1 1)]) (d := 0) (j := 1) dX3_isOpenBelow_12 ml_X3_52 vw_X3_isUnit ⟨_, _, _, _, rfl, rfl⟩ (dm0 (by decide)) (fun r3 e => c_p_Firm_isUnit Θ.1.2.1 (cW Θ) (cAd Θ) (cN Θ) σ (σ.1 1 a1 1) r3 e) rfl rfl (Nat.le_of_ble_eq_true rfl) ⟨rfl, rfl, by decide, by decide⟩ (fun r3 h4 => ?_)
    refine r_if_eq C 47 dX3_isOpenBelow_15 (by decide) ?_ ?_
    · refine r_iconst C (0 : Int32) dX3_isOpenBelow_47 (by decide) ?_
      exact r_zret C dX3_isOpenBelow_48 (show narrow .boolean (.int (0 : Int32)) = .int (0 : Int32) from rfl) rfl rfl (show narrow .boolean (.int (0 : Int32)) = .int (0 : Int32) from rfl)
    · refine r_aload_n C dX3_isOpenBelow_18 rfl ?_
      refine r_iload_n C dX3_isOpenBelow_19 rfl ?_
      refine r_callV C (st := []) (As := [.int a2]) (d := 0) (j := 1) dX3_isOpenBelow_20 ml_X3_52 vw_X3_isUnit ⟨_, _, _, _, rfl, rfl⟩ (dm0 (by decide)) (fun r5 e => c_p_Firm_isUnit Θ.1.2.1 (cW Θ) (cAd Θ) (cN Θ) σ a2 r5 e) rfl rfl (Nat.le_of_ble_eq_true rfl) ⟨rfl, rfl, by decide, by decide⟩ (fun r5 h6 => ?_)
      refine r_if_eq C 47 dX3_isOpenBelow_23 (by decide) ?_ ?_
      · refine r_iconst C (0 : Int32) dX3_isOpenBelow_47 (by decide) ?_
        exact r_zret C dX3_isOpenBelow_48 (show narrow .boolean (.int (0 : Int32)) = .int (0 : Int32) from rfl) rfl rfl (show narrow .boolean (.int (0 : Int32)) = .int (0 : Int32) from rfl)
      · refine r_aload_n C dX3_isOpenBelow_26 rfl ?_
        refine r_getF0 C dX3_isOpenBelow_27 fg_X3_9 (by decide) ?_
        refine r_aload_n C dX3_isOpenBelow_30 rfl ?_
        refine r_getI C dX3_isOpenBelow_31 (fg_X3_74 _) (by decide) b1 ?_
        refine r_iald (α := Unit) C dX3_isOpenBelow_34 ag_LC_9 (fun i7 => ?_)
        refine r_iload_n C dX3_isOpenBelow_35 rfl ?_
        refine r_ishr C dX3_isOpenBelow_36 ?_
        refine r_iconst C (1 : Int32) dX3_isOpenBelow_37 (by decide) ?_
        refine r_iand C dX3_isOpenBelow_38 ?_
        refine r_iconst C (1 : Int32) dX3_isOpenBelow_39 (by decide) ?_
        refine r_icmp_ne C 47 dX3_isOpenBelow_40 (by decide) ?_ ?_
        · refine r_iconst C (0 : Int32) dX3_isOpenBelow_47 (by decide) ?_
          exact r_zret C dX3_isOpenBelow_48 (show narrow .boolean (.int (0 : Int32)) = .int (0 : Int32) from rfl) rfl rfl (show narrow .boolean (.int (0 : Int32)) = .int (0 : Int32) from rfl)
        · refine r_iconst C (1 : Int32) dX3_isOpenBelow_43 (by decide) ?_
          refine r_goto C 48 dX3_isOpenBelow_44 (by decide) ?_
          exact r_zret C dX3_isOpenBelow_48 (show narrow .boolean (.int (1 : Int32)) = .int (1 : Int32) from rfl) rfl rfl (show narrow .boolean (.int (1 : Int32)) = .int (1 : Int32) from rfl)
theorem c_p_Firm_isOpenBelow (l : Launch) (ω : Wd) (ad : Nat → Nat → Nat) (N : Nat → Nat) (σ : St) (a1 : Nat) (a2 : Int32) (b1 : a1 < N 1) : ∀ r : Int32, p_Firm_isOpenBelow σ a1 a2 = some r → Ct l yX3_isOpenBelow cX3_isOpenBelow 3 (some .boolean) ({ frames := 1, cells := 0, slots := 0, locals := 21 } : Room) LC ω ad N [.ref (ω.2.1 1), .ref (ad 1 a1), .int a2] σ (some (.int r)) σ (narrow .boolean (.int r) = .int r) :=
  ct_of (o := fun r : Int32 => (some (.int r))) (s' := fun r => σ) (P := fun r => narrow .boolean (.int r) = .int r) [some (.ref (ω.2.1 1)), some (.ref (ad 1 a1)), some (.int a2)] (by decide) rfl (Nat.le_of_ble_eq_true rfl) (fun Γ C _ _ => w_p_Firm_isOpenBelow (Γ, ω, 3, ad, N, 0, 0) σ a1 a2 b1 C)
theorem fg_X3_77 (j : Nat) : FG LC RX3 77 1 j 2 (0, 0) := ⟨_, _, _, _, _, rfl, rfl, rfl, by decide, uw_X7, (in_wt 447 (by decide +kernel) (by decide +kernel))⟩
theorem fg_X3_80 (j : Nat) : FG LC RX3 80 1 j 3 (0, 0) := ⟨_, _, _, _, _, rfl, rfl, rfl, by decide, uw_X7, (in_wt 450 (by decide +kernel) (by decide +kernel))⟩
theorem fg_X3_89 (j : Nat) : FG LC RX3 89 1 j 5 (0, 0) := ⟨_, _, _, _, _, rfl, rfl, rfl, by decide, uw_X7, (in_wt 454 (by decide +kernel) (by decide +kernel))⟩
theorem jw_X3_83 : JW RX3 83 Lib.Math.abs.name Lib.Math.abs.code 1 := ⟨in_wt 781 (by decide +kernel) (by decide +kernel), in_wt 782 (by decide +kernel) (by decide +kernel), in_wt 94 (by decide +kernel) (by decide +kernel), in_wt 783 (by decide +kernel) (by decide +kernel)⟩
theorem ml_X3_92 : Cond.methodLink RX3 92 yJ6_bitCount_0f7a4 ∈ wt := in_wt 784 (by decide +kernel) (by decide +kernel)
/-- PostsEnd$Firm.boolean isAlike(PostsEnd$Post, PostsEnd$Post) -/
def p_Firm_isAlike (σ : St) (a1 : Nat) (a2 : Nat) : Option Int32 := (if σ.1 1 a1 2 = σ.1 1 a2 2 then (if (1 : Int32) < if (0 : Int32) ≤ (σ.1 1 a1 3) - (σ.1 1 a2 3) then (σ.1 1 a1 3) - (σ.1 1 a2 3) else (0 : Int32) - ((σ.1 1 a1 3) - (σ.1 1 a2 3)) then some (0 : Int32) else (if σ.1 1 a1 5 = 0 then (if σ.1 1 a2 5 = 0 then some (1 : Int32) else (Option.bind (j_Integer_bitCount ((σ.1 1 a1 5) &&& (σ.1 1 a2 5))) fun r4 => (Option.bind (ix 3 (0 : Int32)) fun i6 => (if r4 < σ.1 0 14 i6 then some (0 : Int32) else some (1 : Int32))))) else (Option.bind (j_Integer_bitCount ((σ.1 1 a1 5) &&& (σ.1 1 a2 5))) fun r1 => (Option.bind (ix 3 (0 : Int32)) fun i3 => (if r1 < σ.1 0 14 i3 then some (0 : Int32) else some (1 : Int32)))))) else some (0 : Int32))
set_option maxRecDepth 20000 in
set_option maxHeartbeats 4000000 in
theorem w_p_Firm_isAlike (Θ : TT) (σ : St) (a1 : Nat) (a2 : Nat) (b1 : a1 < cN Θ 1) (b2 : a2 < cN Θ 1) (C : CX Θ cX3_isAlike RX3 (some .boolean) ({ frames := 1, cells := 0, slots := 0, locals := 21 } : Room) 3) : WA LC Θ (fun r : Int32 => Qm LC Θ (some (.int r)) σ (narrow .boolean (.int r) = .int r)) 0 [some (.ref (cF Θ 1)), some (.ref (cAd Θ 1 a1)), some (.ref (cAd Θ 1 a2))] [] σ (p_Firm_isAlike σ a1 a2) := by
  unfold p_Firm_isAlike
  refine r_aload_n C dX3_isAlike_0 rfl ?_
  refine r_getI C dX3_isAlike_1 (fg_X3_77 _) (by decide) b1 ?_
  refine r_aload_n C dX3_isAlike_4 rfl ?_
  refine r_getI C dX3_isAlike_5 (fg_X3_77 _) (by decide) b2 ?_
  refine r_icmp_ne C 27 dX3_isAlike_8 (by decide) ?_ ?_
  · refine r_iconst C (0 : Int32) dX3_isAlike_27 (by decide) ?_
    exact r_zret C dX3_isAlike_28 (show narrow .boolean (.int (0 : Int32)) = .int (0 : Int32) from rfl) rfl rfl (show narrow .boolean (.int (0 : Int32)) = .int (0 : Int32) from rfl)
  · refine r_aload_n C dX3_isAlike_11 rfl ?_
    refine r_getI C dX3_isAlike_12 (fg_X3_80 _) (by decide) b1 ?_
    refine r_aload_n C dX3_isAlike_15 rfl ?_
    refine r_getI C dX3_isAlike_16 (fg_X3_80 _) (by decide) b2 ?_
    refine r_isub C dX3_isAlike_19 ?_
    refine r_mabs C dX3_isAlike_20 jw_X3_83 (by decide) (Nat.le_of_ble_eq_true rfl) ?_
    refine r_iconst C (1 : Int32) dX3_isAlike_23 (by decide) ?_
    refine r_icmp_le C 29 dX3_isAlike_24 (by decide) ?_ ?_
    · refine r_aload_n C dX3_isAlike_29 rfl ?_
      refine r_getI C dX3_isAlike_30 (fg_X3_89 _) (by decide) b1 ?_
      refine r_if_ne C 45 dX3_isAlike_33 (by decide) ?_ ?_
      · refine r_aload_n C dX3_isAlike_45 rfl ?_
        refine r_getI C dX3_isAlike_46 (fg_X3_89 _) (by decide) b1 ?_
        refine r_aload_n C dX3_isAlike_49 rfl ?_
        refine r_getI C dX3_isAlike_50 (fg_X3_89 _) (by decide) b2 ?_
        refine r_iand C dX3_isAlike_53 ?_
        refine r_callS C (st := []) (As := [.int ((σ.1 1 a1 5) &&& (σ.1 1 a2 5))]) dX3_isAlike_54 ml_X3_92 sw_J6_bitCount_0f7a4 (fun r1 e => c_j_Integer_bitCount Θ.1.2.1 (cW Θ) (cAd Θ) (cN Θ) σ ((σ.1 1 a1 5) &&& (σ.1 1 a2 5)) r1 e) rfl rfl (Nat.le_of_ble_eq_true rfl) ⟨rfl, rfl, by decide, by decide⟩ (fun r1 h2 => ?_)
        refine r_aload_n C dX3_isAlike_57 rfl ?_
        refine r_getF0 C dX3_isAlike_58 fg_X3_36 (by decide) ?_
        refine r_iconst C (0 : Int32) dX3_isAlike_61 (by decide) ?_
        refine r_iald (α := Unit) C dX3_isAlike_62 ag_LC_14 (fun i3 => ?_)
        refine r_icmp_lt C 70 dX3_isAlike_63 (by decide) ?_ ?_
        · refine r_iconst C (0 : Int32) dX3_isAlike_70 (by decide) ?_
          exact r_zret C dX3_isAlike_71 (show narrow .boolean (.int (0 : Int32)) = .int (0 : Int32) from rfl) rfl rfl (show narrow .boolean (.int (0 : Int32)) = .int (0 : Int32) from rfl)
        · refine r_iconst C (1 : Int32) dX3_isAlike_66 (by decide) ?_
          refine r_goto C 71 dX3_isAlike_67 (by decide) ?_
          exact r_zret C dX3_isAlike_71 (show narrow .boolean (.int (1 : Int32)) = .int (1 : Int32) from rfl) rfl rfl (show narrow .boolean (.int (1 : Int32)) = .int (1 : Int32) from rfl)
      · refine r_aload_n C dX3_isAlike_36 rfl ?_
        refine r_getI C dX3_isAlike_37 (fg_X3_89 _) (by decide) b2 ?_
        refine r_if_ne C 45 dX3_isAlike_40 (by decide) ?_ ?_
        · refine r_aload_n C dX3_isAlike_45 rfl ?_
          refine r_getI C dX3_isAlike_46 (fg_X3_89 _) (by decide) b1 ?_
          refine r_aload_n C dX3_isAlike_49 rfl ?_
          refine r_getI C dX3_isAlike_50 (fg_X3_89 _) (by decide) b2 ?_
          refine r_iand C dX3_isAlike_53 ?_
          refine r_callS C (st := []) (As := [.int ((σ.1 1 a1 5) &&& (σ.1 1 a2 5))]) dX3_isAlike_54 ml_X3_92 sw_J6_bitCount_0f7a4 (fun r4 e => c_j_Integer_bitCount Θ.1.2.1 (cW Θ) (cAd Θ) (cN Θ) σ ((σ.1 1 a1 5) &&& (σ.1 1 a2 5)) r4 e) rfl rfl (Nat.le_of_ble_eq_true rfl) ⟨rfl, rfl, by decide, by decide⟩ (fun r4 h5 => ?_)
          refine r_aload_n C dX3_isAlike_57 rfl ?_
          refine r_getF0 C dX3_isAlike_58 fg_X3_36 (by decide) ?_
          refine r_iconst C (0 : Int32) dX3_isAlike_61 (by decide) ?_
          refine r_iald (α := Unit) C dX3_isAlike_62 ag_LC_14 (fun i6 => ?_)
          refine r_icmp_lt C 70 dX3_isAlike_63 (by decide) ?_ ?_
          · refine r_iconst C (0 : Int32) dX3_isAlike_70 (by decide) ?_
            exact r_zret C dX3_isAlike_71 (show narrow .boolean (.int (0 : Int32)) = .int (0 : Int32) from rfl) rfl rfl (show narrow .boolean (.int (0 : Int32)) = .int (0 : Int32) from rfl)
          · refine r_iconst C (1 : Int32) dX3_isAlike_66 (by decide) ?_
            refine r_goto C 71 dX3_isAlike_67 (by decide) ?_
            exact r_zret C dX3_isAlike_71 (show narrow .boolean (.int (1 : Int32)) = .int (1 : Int32) from rfl) rfl rfl (show narrow .boolean (.int (1 : Int32)) = .int (1 : Int32) from rfl)
        · refine r_iconst C (1 : Int32) dX3_isAlike_43 (by decide) ?_
          exact r_zret C dX3_isAlike_44 (show narrow .boolean (.int (1 : Int32)) = .int (1 : Int32) from rfl) rfl rfl (show narrow .boolean (.int (1 : Int32)) = .int (1 : Int32) from rfl)
    · refine r_iconst C (0 : Int32) dX3_isAlike_27 (by decide) ?_
      exact r_zret C dX3_isAlike_28 (show narrow .boolean (.int (0 : Int32)) = .int (0 : Int32) from rfl) rfl rfl (show narrow .boolean (.int (0 : Int32)) = .int (0 : Int32) from rfl)
theorem c_p_Firm_isAlike (l : Launch) (ω : Wd) (ad : Nat → Nat → Nat) (N : Nat → Nat) (σ : St) (a1 : Nat) (a2 : Nat) (b1 : a1 < N 1) (b2 : a2 < N 1) : ∀ r : Int32, p_Firm_isAlike σ a1 a2 = some r → Ct l yX3_isAlike cX3_isAlike 3 (some .boolean) ({ frames := 1, cells := 0, slots := 0, locals := 21 } : Room) LC ω ad N [.ref (ω.2.1 1), .ref (ad 1 a1), .ref (ad 1 a2)] σ (some (.int r)) σ (narrow .boolean (.int r) = .int r) :=
  ct_of (o := fun r : Int32 => (some (.int r))) (s' := fun r => σ) (P := fun r => narrow .boolean (.int r) = .int r) [some (.ref (ω.2.1 1)), some (.ref (ad 1 a1)), some (.ref (ad 1 a2))] (by decide) rfl (Nat.le_of_ble_eq_true rfl) (fun Γ C _ _ => w_p_Firm_isAlike (Γ, ω, 3, ad, N, 0, 0) σ a1 a2 b1 b2 C)
