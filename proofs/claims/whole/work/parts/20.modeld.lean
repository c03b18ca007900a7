/-- PostsEndModel.private boolean isCut(int, int, int) -/
def m_isCut (σ : St) (a1 : Int32) (a2 : Int32) (a3 : Int32) : Option (Int32 × St) := (Option.bind (m_findCut σ a2 a3) fun r1 => (Option.bind (itr0 (S := Int32 × Int32) (E := Int32) (fun s3 => (if s3.2 < r1.1 then (Option.bind (α := Int32) ((if s3.1 = 0 then (Option.bind (ix 40 s3.2) fun i14 => (if r1.2.1 0 28 i14 = a1 then some (1 : Int32) else some (0 : Int32))) else some (1 : Int32))) fun t11 => some (.inl (t11, s3.2 + (1 : Int32)))) else some (.inr s3.1))) FU ((0 : Int32), (0 : Int32))) fun e8 => (if e8 = 0 ∨ e8 = 1 then some (e8, r1.2) else none)))
set_option maxRecDepth 20000 in
set_option maxHeartbeats 4000000 in
theorem w_m_isCut (Θ : TT) (σ : St) (a1 : Int32) (a2 : Int32) (a3 : Int32) (C : CX Θ cX12_isCut RX12 (some .boolean) ({ frames := 5, cells := 0, slots := 0, locals := 117 } : Room) 7) : WA LM Θ (fun r : Int32 × St => Qm LM Θ (some (.int r.1)) r.2 (narrow .boolean (.int r.1) = .int r.1)) 0 [some (.ref (cF Θ 0)), some (.int a1), some (.int a2), some (.int a3), none, none, none] [] σ (m_isCut σ a1 a2 a3) := by
  unfold m_isCut
  refine r_aload_n C dX12_isCut_0 rfl ?_
  refine r_iload_n C dX12_isCut_1 rfl ?_
  refine r_iload_n C dX12_isCut_2 rfl ?_
  refine r_callV C (st := []) (As := [.int a2, .int a3]) (d := 0) (j := 0) dX12_isCut_3 ml_X12_264 vw_X12_findCut ⟨_, _, _, _, rfl, rfl⟩ (dm0 (by decide)) (fun r1 e => c_m_findCut Θ.1.2.1 (cW Θ) (cAd Θ) (cN Θ) σ a2 a3 r1 e) rfl rfl (Nat.le_of_ble_eq_true rfl) ⟨rfl, rfl, by decide, by decide⟩ (fun r1 h2 => ?_)
  refine r_istore C [some (.ref (cF Θ 0)), some (.int a1), some (.int a2), some (.int a3), some (.int r1.1), none, none] dX12_isCut_6 rfl (by decide) rfl ?_
  refine r_iconst C (0 : Int32) dX12_isCut_8 (by decide) ?_
  refine r_istore C [some (.ref (cF Θ 0)), some (.int a1), some (.int a2), some (.int a3), some (.int r1.1), some (.int (0 : Int32)), none] dX12_isCut_9 rfl (by decide) rfl ?_
  refine r_iconst C (0 : Int32) dX12_isCut_11 (by decide) ?_
  refine r_istore C [some (.ref (cF Θ 0)), some (.int a1), some (.int a2), some (.int a3), some (.int r1.1), some (.int (0 : Int32)), some (.int (0 : Int32))] dX12_isCut_12 rfl (by decide) rfl ?_
  refine WA.join (α := Int32) 50 (fun e8 => [none, none, none, none, none, some (.int e8), none]) (fun e8 => []) (fun e8 => r1.2) (fun e8 => True) (fun e8 h9 => ?_) (fun J10 => ?_)
  · refine r_iload C dX12_isCut_50 rfl ?_
    exact r_zretC C dX12_isCut_52 rfl rfl (fun h => bool_n h)
  · refine WA.wk (lv' := [some (.ref (cF Θ 0)), some (.int a1), none, none, some (.int r1.1), some (.int (0 : Int32)), some (.int (0 : Int32))]) [true, true, false, false, true, true, true] rfl ?_
    refine WA.itr (S := Int32 × Int32) 14 (fun s3 => [some (.ref (cF Θ 0)), some (.int a1), none, none, some (.int r1.1), some (.int s3.1), some (.int s3.2)]) (fun s3 => []) (fun s3 => r1.2) (fun s3 => True) (fun s3 k7 h4 ih5 hx6 => ?_) FU ((0 : Int32), (0 : Int32)) trivial
    refine r_iload C dX12_isCut_14 rfl ?_
    refine r_iload C dX12_isCut_16 rfl ?_
    refine WA.bif ?_
    refine r_icmp_ge C 50 dX12_isCut_18 (by decide) ?_ ?_
    · refine WA.wk (lv' := [none, none, none, none, none, some (.int s3.1), none]) [false, false, false, false, false, true, false] rfl ?_
      exact WA.eqK (hx6 _) (J10 s3.1 trivial)
    · refine r_iload C dX12_isCut_21 rfl ?_
      refine WA.asc ?_
      refine WA.join (α := Int32) 42 (fun t11 => [some (.ref (cF Θ 0)), some (.int a1), none, none, some (.int r1.1), none, some (.int s3.2)]) (fun t11 => [.int t11]) (fun t11 => r1.2) (fun t11 => True) (fun t11 h12 => ?_) (fun J13 => ?_)
      · refine r_istore C [some (.ref (cF Θ 0)), some (.int a1), none, none, some (.int r1.1), some (.int t11), some (.int s3.2)] dX12_isCut_42 rfl (by decide) rfl ?_
        refine r_iinc C (1 : Int32) [some (.ref (cF Θ 0)), some (.int a1), none, none, some (.int r1.1), some (.int t11), some (.int (s3.2 + (1 : Int32)))] dX12_isCut_44 (by decide) rfl rfl (by decide) rfl ?_
        refine r_goto C 14 dX12_isCut_47 (by decide) ?_
        refine WA.wk (lv' := [some (.ref (cF Θ 0)), some (.int a1), none, none, some (.int r1.1), some (.int t11), some (.int (s3.2 + (1 : Int32)))]) [true, true, false, false, true, true, true] rfl ?_
        exact ih5 (t11, s3.2 + (1 : Int32)) trivial
      · refine WA.bif ?_
        refine r_if_ne C 37 dX12_isCut_23 (by decide) ?_ ?_
        · refine r_iconst C (1 : Int32) dX12_isCut_37 (by decide) ?_
          refine r_goto C 42 dX12_isCut_38 (by decide) ?_
          refine WA.wk (lv' := [some (.ref (cF Θ 0)), some (.int a1), none, none, some (.int r1.1), none, some (.int s3.2)]) [true, true, false, false, true, false, true] rfl ?_
          exact J13 (1 : Int32) trivial
        · refine r_aload_n C dX12_isCut_26 rfl ?_
          refine r_getF0 C dX12_isCut_27 fg_X12_98 (by decide) ?_
          refine r_iload C dX12_isCut_30 rfl ?_
          refine WA.asc ?_
          refine r_iald (α := Unit) C dX12_isCut_32 ag_LM_28 (fun i14 => ?_)
          refine r_iload_n C dX12_isCut_33 rfl ?_
          refine WA.bif ?_
          refine r_icmp_ne C 41 dX12_isCut_34 (by decide) ?_ ?_
          · refine r_iconst C (0 : Int32) dX12_isCut_41 (by decide) ?_
            refine WA.wk (lv' := [some (.ref (cF Θ 0)), some (.int a1), none, none, some (.int r1.1), none, some (.int s3.2)]) [true, true, false, false, true, false, true] rfl ?_
            exact J13 (0 : Int32) trivial
          · refine r_iconst C (1 : Int32) dX12_isCut_37 (by decide) ?_
            refine r_goto C 42 dX12_isCut_38 (by decide) ?_
            refine WA.wk (lv' := [some (.ref (cF Θ 0)), some (.int a1), none, none, some (.int r1.1), none, some (.int s3.2)]) [true, true, false, false, true, false, true] rfl ?_
            exact J13 (1 : Int32) trivial
theorem c_m_isCut (l : Launch) (ω : Wd) (ad : Nat → Nat → Nat) (N : Nat → Nat) (σ : St) (a1 : Int32) (a2 : Int32) (a3 : Int32) : ∀ r : Int32 × St, m_isCut σ a1 a2 a3 = some r → Ct l yX12_isCut cX12_isCut 7 (some .boolean) ({ frames := 5, cells := 0, slots := 0, locals := 117 } : Room) LM ω ad N [.ref (ω.2.1 0), .int a1, .int a2, .int a3] σ (some (.int r.1)) r.2 (narrow .boolean (.int r.1) = .int r.1) :=
  ct_of (o := fun r : Int32 × St => (some (.int r.1))) (s' := fun r => r.2) (P := fun r => narrow .boolean (.int r.1) = .int r.1) [some (.ref (ω.2.1 0)), some (.int a1), some (.int a2), some (.int a3), none, none, none] (by decide) rfl (Nat.le_of_ble_eq_true rfl) (fun Γ C _ _ => w_m_isCut (Γ, ω, 7, ad, N, 0, 0) σ a1 a2 a3 C)
theorem kc_X12_267 : Cond.constant RX12 267 (99999) ∈ wt := in_wt 1608 (by decide +kernel) (by decide +kernel)
/-- PostsEndModel.public int volunteer(int, int) -/
def m_volunteer (σ : St) (a1 : Int32) (a2 : Int32) : Option (Int32 × St) := (Option.bind (m_isPerson σ a1) fun r1 => (if r1 = 0 then (Option.bind (m_refuseFar σ (-1 : Int32)) fun r14 => some (r14.1, r14.2)) else (Option.bind (m_isHere σ a1) fun r3 => (if r3 = 0 then (Option.bind (m_refuseFar σ (-3 : Int32)) fun r12 => some (r12.1, r12.2)) else (if a2 < (-1 : Int32) then (Option.bind (m_refuseFar σ (-4 : Int32)) fun r10 => some (r10.1, r10.2)) else (if (99999 : Int32) < a2 then (Option.bind (m_refuseFar σ (-6 : Int32)) fun r8 => some (r8.1, r8.2)) else (Option.bind (ix 40 a1) fun i5 => (Option.bind (ix 40 a1) fun i6 => (lt1 (sx σ 0 16 i6 a2) fun σ7 => some (σ.1 0 16 i5, σ7))))))))))
set_option maxRecDepth 20000 in
set_option maxHeartbeats 4000000 in
theorem w_m_volunteer (Θ : TT) (σ : St) (a1 : Int32) (a2 : Int32) (C : CX Θ cX12_volunteer RX12 (some .int) ({ frames := 2, cells := 0, slots := 0, locals := 43 } : Room) 4) : WA LM Θ (fun r : Int32 × St => Qm LM Θ (some (.int r.1)) r.2 (True)) 0 [some (.ref (cF Θ 0)), some (.int a1), some (.int a2), none] [] σ (m_volunteer σ a1 a2) := by
  unfold m_volunteer
  refine r_aload_n C dX12_volunteer_0 rfl ?_
  refine r_iload_n C dX12_volunteer_1 rfl ?_
  refine r_callV C (st := []) (As := [.int a1]) (d := 0) (j := 0) dX12_volunteer_2 ml_X12_194 vw_X12_isPerson ⟨_, _, _, _, rfl, rfl⟩ (dm0 (by decide)) (fun r1 e => c_m_isPerson Θ.1.2.1 (cW Θ) (cAd Θ) (cN Θ) σ a1 r1 e) rfl rfl (Nat.le_of_ble_eq_true rfl) ⟨rfl, rfl, by decide, by decide⟩ (fun r1 h2 => ?_)
  refine r_if_ne C 14 dX12_volunteer_5 (by decide) ?_ ?_
  · refine r_aload_n C dX12_volunteer_14 rfl ?_
    refine r_iload_n C dX12_volunteer_15 rfl ?_
    refine r_callV C (st := []) (As := [.int a1]) (d := 0) (j := 0) dX12_volunteer_16 ml_X12_200 vw_X12_isHere ⟨_, _, _, _, rfl, rfl⟩ (dm0 (by decide)) (fun r3 e => c_m_isHere Θ.1.2.1 (cW Θ) (cAd Θ) (cN Θ) σ a1 r3 e) rfl rfl (Nat.le_of_ble_eq_true rfl) ⟨rfl, rfl, by decide, by decide⟩ (fun r3 h4 => ?_)
    refine r_if_ne C 29 dX12_volunteer_19 (by decide) ?_ ?_
    · refine r_iload_n C dX12_volunteer_29 rfl ?_
      refine r_iconst C (-1 : Int32) dX12_volunteer_30 (by decide) ?_
      refine r_icmp_ge C 41 dX12_volunteer_31 (by decide) ?_ ?_
      · refine r_iload_n C dX12_volunteer_41 rfl ?_
        refine r_ldcw C dX12_volunteer_42 kc_X12_267 ?_
        refine r_icmp_le C 55 dX12_volunteer_45 (by decide) ?_ ?_
        · refine r_aload_n C dX12_volunteer_55 rfl ?_
          refine r_getF0 C dX12_volunteer_56 fg_X12_55 (by decide) ?_
          refine r_iload_n C dX12_volunteer_59 rfl ?_
          refine r_iald (α := Unit) C dX12_volunteer_60 ag_LM_16 (fun i5 => ?_)
          refine r_istore_n C [some (.ref (cF Θ 0)), some (.int a1), some (.int a2), some (.int (σ.1 0 16 i5))] dX12_volunteer_61 rfl (by decide) rfl ?_
          refine r_aload_n C dX12_volunteer_62 rfl ?_
          refine r_getF0 C dX12_volunteer_63 fg_X12_55 (by decide) ?_
          refine r_iload_n C dX12_volunteer_66 rfl ?_
          refine r_iload_n C dX12_volunteer_67 rfl ?_
          refine r_iast C dX12_volunteer_68 ag_LM_16 (fun i6 => ?_)
          refine WA.gen (fun σ7 => ?_)
          refine r_iload_n C dX12_volunteer_69 rfl ?_
          exact r_iret C dX12_volunteer_70 rfl rfl trivial
        · refine r_aload_n C dX12_volunteer_48 rfl ?_
          refine r_bipush C (-6 : Int32) dX12_volunteer_49 (by decide) ?_
          refine r_callV C (st := []) (As := [.int (-6 : Int32)]) (d := 0) (j := 0) dX12_volunteer_51 ml_X12_197 vw_X12_refuseFar ⟨_, _, _, _, rfl, rfl⟩ (dm0 (by decide)) (fun r8 e => c_m_refuseFar Θ.1.2.1 (cW Θ) (cAd Θ) (cN Θ) σ (-6 : Int32) r8 e) rfl rfl (Nat.le_of_ble_eq_true rfl) ⟨rfl, rfl, by decide, by decide⟩ (fun r8 h9 => ?_)
          exact r_iret C dX12_volunteer_54 rfl rfl trivial
      · refine r_aload_n C dX12_volunteer_34 rfl ?_
        refine r_bipush C (-4 : Int32) dX12_volunteer_35 (by decide) ?_
        refine r_callV C (st := []) (As := [.int (-4 : Int32)]) (d := 0) (j := 0) dX12_volunteer_37 ml_X12_197 vw_X12_refuseFar ⟨_, _, _, _, rfl, rfl⟩ (dm0 (by decide)) (fun r10 e => c_m_refuseFar Θ.1.2.1 (cW Θ) (cAd Θ) (cN Θ) σ (-4 : Int32) r10 e) rfl rfl (Nat.le_of_ble_eq_true rfl) ⟨rfl, rfl, by decide, by decide⟩ (fun r10 h11 => ?_)
        exact r_iret C dX12_volunteer_40 rfl rfl trivial
    · refine r_aload_n C dX12_volunteer_22 rfl ?_
      refine r_bipush C (-3 : Int32) dX12_volunteer_23 (by decide) ?_
      refine r_callV C (st := []) (As := [.int (-3 : Int32)]) (d := 0) (j := 0) dX12_volunteer_25 ml_X12_197 vw_X12_refuseFar ⟨_, _, _, _, rfl, rfl⟩ (dm0 (by decide)) (fun r12 e => c_m_refuseFar Θ.1.2.1 (cW Θ) (cAd Θ) (cN Θ) σ (-3 : Int32) r12 e) rfl rfl (Nat.le_of_ble_eq_true rfl) ⟨rfl, rfl, by decide, by decide⟩ (fun r12 h13 => ?_)
      exact r_iret C dX12_volunteer_28 rfl rfl trivial
  · refine r_aload_n C dX12_volunteer_8 rfl ?_
    refine r_iconst C (-1 : Int32) dX12_volunteer_9 (by decide) ?_
    refine r_callV C (st := []) (As := [.int (-1 : Int32)]) (d := 0) (j := 0) dX12_volunteer_10 ml_X12_197 vw_X12_refuseFar ⟨_, _, _, _, rfl, rfl⟩ (dm0 (by decide)) (fun r14 e => c_m_refuseFar Θ.1.2.1 (cW Θ) (cAd Θ) (cN Θ) σ (-1 : Int32) r14 e) rfl rfl (Nat.le_of_ble_eq_true rfl) ⟨rfl, rfl, by decide, by decide⟩ (fun r14 h15 => ?_)
    exact r_iret C dX12_volunteer_13 rfl rfl trivial
theorem c_m_volunteer (l : Launch) (ω : Wd) (ad : Nat → Nat → Nat) (N : Nat → Nat) (σ : St) (a1 : Int32) (a2 : Int32) : ∀ r : Int32 × St, m_volunteer σ a1 a2 = some r → Ct l yX12_volunteer cX12_volunteer 4 (some .int) ({ frames := 2, cells := 0, slots := 0, locals := 43 } : Room) LM ω ad N [.ref (ω.2.1 0), .int a1, .int a2] σ (some (.int r.1)) r.2 (True) :=
  ct_of (o := fun r : Int32 × St => (some (.int r.1))) (s' := fun r => r.2) (P := fun r => True) [some (.ref (ω.2.1 0)), some (.int a1), some (.int a2), none] (by decide) rfl (Nat.le_of_ble_eq_true rfl) (fun Γ C _ _ => w_m_volunteer (Γ, ω, 4, ad, N, 0, 0) σ a1 a2 C)
/-- PostsEndModel.private int severanceOf(int) -/
def m_severanceOf (σ : St) (a1 : Int32) : Option Int32 := (Option.bind (m_wholeYears σ a1) fun r1 => (Option.bind (α := Int32) ((if (30 : Int32) < r1 then some (30 : Int32) else (Option.bind (m_wholeYears σ a1) fun r11 => some r11))) fun t3 => (Option.bind (ix 40 a1) fun i6 => (Option.bind (α := Int32) ((if σ.1 0 11 i6 < σ.1 0 0 22 then (Option.bind (ix 40 a1) fun i10 => some (σ.1 0 11 i10)) else some (σ.1 0 0 22))) fun t7 => some (t3 * t7)))))
set_option maxRecDepth 20000 in
set_option maxHeartbeats 4000000 in
theorem w_m_severanceOf (Θ : TT) (σ : St) (a1 : Int32) (C : CX Θ cX12_severanceOf RX12 (some .int) ({ frames := 1, cells := 0, slots := 0, locals := 21 } : Room) 3) : WA LM Θ (fun r : Int32 => Qm LM Θ (some (.int r)) σ (True)) 0 [some (.ref (cF Θ 0)), some (.int a1), none] [] σ (m_severanceOf σ a1) := by
  unfold m_severanceOf
  refine r_aload_n C dX12_severanceOf_0 rfl ?_
  refine r_iload_n C dX12_severanceOf_1 rfl ?_
  refine r_callV C (st := []) (As := [.int a1]) (d := 0) (j := 0) dX12_severanceOf_2 ml_X12_227 vw_X12_wholeYears ⟨_, _, _, _, rfl, rfl⟩ (dm0 (by decide)) (fun r1 e => c_m_wholeYears Θ.1.2.1 (cW Θ) (cAd Θ) (cN Θ) σ a1 r1 e) rfl rfl (Nat.le_of_ble_eq_true rfl) ⟨rfl, rfl, by decide, by decide⟩ (fun r1 h2 => ?_)
  refine r_bipush C (30 : Int32) dX12_severanceOf_5 (by decide) ?_
  refine WA.join (α := Int32) 20 (fun t3 => [some (.ref (cF Θ 0)), some (.int a1), none]) (fun t3 => [.int t3]) (fun t3 => σ) (fun t3 => True) (fun t3 h4 => ?_) (fun J5 => ?_)
  · refine r_istore_n C [some (.ref (cF Θ 0)), some (.int a1), some (.int t3)] dX12_severanceOf_20 rfl (by decide) rfl ?_
    refine r_iload_n C dX12_severanceOf_21 rfl ?_
    refine r_aload_n C dX12_severanceOf_22 rfl ?_
    refine r_getF0 C dX12_severanceOf_23 fg_X12_40 (by decide) ?_
    refine r_iload_n C dX12_severanceOf_26 rfl ?_
    refine r_iald (α := Unit) C dX12_severanceOf_27 ag_LM_11 (fun i6 => ?_)
    refine r_aload_n C dX12_severanceOf_28 rfl ?_
    refine r_getI0 C dX12_severanceOf_29 fg_X12_62 (by decide) ?_
    refine WA.join (α := Int32) 48 (fun t7 => [none, none, none]) (fun t7 => [.int t7, .int t3]) (fun t7 => σ) (fun t7 => True) (fun t7 h8 => ?_) (fun J9 => ?_)
    · refine r_imul C dX12_severanceOf_48 ?_
      exact r_iret C dX12_severanceOf_49 rfl rfl trivial
    · refine WA.bif ?_
      refine r_icmp_ge C 44 dX12_severanceOf_32 (by decide) ?_ ?_
      · refine r_aload_n C dX12_severanceOf_44 rfl ?_
        refine r_getI0 C dX12_severanceOf_45 fg_X12_62 (by decide) ?_
        refine WA.wk (lv' := [none, none, none]) [false, false, false] rfl ?_
        exact J9 (σ.1 0 0 22) trivial
      · refine r_aload_n C dX12_severanceOf_35 rfl ?_
        refine r_getF0 C dX12_severanceOf_36 fg_X12_40 (by decide) ?_
        refine r_iload_n C dX12_severanceOf_39 rfl ?_
        refine WA.asc ?_
        refine r_iald (α := Unit) C dX12_severanceOf_40 ag_LM_11 (fun i10 => ?_)
        refine r_goto C 48 dX12_severanceOf_41 (by decide) ?_
        refine WA.wk (lv' := [none, none, none]) [false, false, false] rfl ?_
        exact J9 (σ.1 0 11 i10) trivial
  · refine WA.bif ?_
    refine r_icmp_le C 15 dX12_severanceOf_7 (by decide) ?_ ?_
    · refine r_aload_n C dX12_severanceOf_15 rfl ?_
      refine r_iload_n C dX12_severanceOf_16 rfl ?_
      refine WA.asc ?_
      refine r_callV C (st := []) (As := [.int a1]) (d := 0) (j := 0) dX12_severanceOf_17 ml_X12_227 vw_X12_wholeYears ⟨_, _, _, _, rfl, rfl⟩ (dm0 (by decide)) (fun r11 e => c_m_wholeYears Θ.1.2.1 (cW Θ) (cAd Θ) (cN Θ) σ a1 r11 e) rfl rfl (Nat.le_of_ble_eq_true rfl) ⟨rfl, rfl, by decide, by decide⟩ (fun r11 h12 => ?_)
      refine WA.wk (lv' := [some (.ref (cF Θ 0)), some (.int a1), none]) [true, true, false] rfl ?_
      exact J5 r11 trivial
    · refine r_bipush C (30 : Int32) dX12_severanceOf_10 (by decide) ?_
      refine r_goto C 20 dX12_severanceOf_12 (by decide) ?_
      refine WA.wk (lv' := [some (.ref (cF Θ 0)), some (.int a1), none]) [true, true, false] rfl ?_
      exact J5 (30 : Int32) trivial
theorem c_m_severanceOf (l : Launch) (ω : Wd) (ad : Nat → Nat → Nat) (N : Nat → Nat) (σ : St) (a1 : Int32) : ∀ r : Int32, m_severanceOf σ a1 = some r → Ct l yX12_severanceOf cX12_severanceOf 3 (some .int) ({ frames := 1, cells := 0, slots := 0, locals := 21 } : Room) LM ω ad N [.ref (ω.2.1 0), .int a1] σ (some (.int r)) σ (True) :=
  ct_of (o := fun r : Int32 => (some (.int r))) (s' := fun r => σ) (P := fun r => True) [some (.ref (ω.2.1 0)), some (.int a1), none] (by decide) rfl (Nat.le_of_ble_eq_true rfl) (fun Γ C _ _ => w_m_severanceOf (Γ, ω, 3, ad, N, 0, 0) σ a1 C)
theorem vw_X12_severanceOf : VW yX12_severanceOf cX12_severanceOf 3 (some .int) 1 := ⟨⟨(in_wt 88 (by decide +kernel) (by decide +kernel)), (in_wt 1616 (by decide +kernel) (by decide +kernel)), by decide +kernel⟩, (in_wt 1615 (by decide +kernel) (by decide +kernel)), (in_wt 64 (by decide +kernel) (by decide +kernel))⟩
theorem ml_X12_268 : Cond.methodLink RX12 268 yX12_severanceOf ∈ wt := in_wt 1613 (by decide +kernel) (by decide +kernel)
/-- PostsEndModel.public int severance(int) -/
def m_severance (σ : St) (a1 : Int32) : Option (Int32 × St) := (Option.bind (m_isPerson σ a1) fun r1 => (if r1 = 0 then (Option.bind (m_refuse σ (-1 : Int32)) fun r3 => some (r3.1, r3.2)) else (Option.bind (m_severanceOf σ a1) fun r5 => some (r5, σ))))
set_option maxRecDepth 20000 in
set_option maxHeartbeats 4000000 in
theorem w_m_severance (Θ : TT) (σ : St) (a1 : Int32) (C : CX Θ cX12_severance RX12 (some .int) ({ frames := 2, cells := 0, slots := 0, locals := 43 } : Room) 2) : WA LM Θ (fun r : Int32 × St => Qm LM Θ (some (.int r.1)) r.2 (True)) 0 [some (.ref (cF Θ 0)), some (.int a1)] [] σ (m_severance σ a1) := by
  unfold m_severance
  refine r_aload_n C dX12_severance_0 rfl ?_
  refine r_iload_n C dX12_severance_1 rfl ?_
  refine r_callV C (st := []) (As := [.int a1]) (d := 0) (j := 0) dX12_severance_2 ml_X12_194 vw_X12_isPerson ⟨_, _, _, _, rfl, rfl⟩ (dm0 (by decide)) (fun r1 e => c_m_isPerson Θ.1.2.1 (cW Θ) (cAd Θ) (cN Θ) σ a1 r1 e) rfl rfl (Nat.le_of_ble_eq_true rfl) ⟨rfl, rfl, by decide, by decide⟩ (fun r1 h2 => ?_)
  refine r_if_eq C 16 dX12_severance_5 (by decide) ?_ ?_
  · refine r_aload_n C dX12_severance_16 rfl ?_
    refine r_iconst C (-1 : Int32) dX12_severance_17 (by decide) ?_
    refine r_callV C (st := []) (As := [.int (-1 : Int32)]) (d := 0) (j := 0) dX12_severance_18 ml_X12_174 vw_X12_refuse ⟨_, _, _, _, rfl, rfl⟩ (dm0 (by decide)) (fun r3 e => c_m_refuse Θ.1.2.1 (cW Θ) (cAd Θ) (cN Θ) σ (-1 : Int32) r3 e) rfl rfl (Nat.le_of_ble_eq_true rfl) ⟨rfl, rfl, by decide, by decide⟩ (fun r3 h4 => ?_)
    exact r_iret C dX12_severance_21 rfl rfl trivial
  · refine r_aload_n C dX12_severance_8 rfl ?_
    refine r_iload_n C dX12_severance_9 rfl ?_
    refine r_callV C (st := []) (As := [.int a1]) (d := 0) (j := 0) dX12_severance_10 ml_X12_268 vw_X12_severanceOf ⟨_, _, _, _, rfl, rfl⟩ (dm0 (by decide)) (fun r5 e => c_m_severanceOf Θ.1.2.1 (cW Θ) (cAd Θ) (cN Θ) σ a1 r5 e) rfl rfl (Nat.le_of_ble_eq_true rfl) ⟨rfl, rfl, by decide, by decide⟩ (fun r5 h6 => ?_)
    refine r_goto C 21 dX12_severance_13 (by decide) ?_
    exact r_iret C dX12_severance_21 rfl rfl trivial
theorem c_m_severance (l : Launch) (ω : Wd) (ad : Nat → Nat → Nat) (N : Nat → Nat) (σ : St) (a1 : Int32) : ∀ r : Int32 × St, m_severance σ a1 = some r → Ct l yX12_severance cX12_severance 2 (some .int) ({ frames := 2, cells := 0, slots := 0, locals := 43 } : Room) LM ω ad N [.ref (ω.2.1 0), .int a1] σ (some (.int r.1)) r.2 (True) :=
  ct_of (o := fun r : Int32 × St => (some (.int r.1))) (s' := fun r => r.2) (P := fun r => True) [some (.ref (ω.2.1 0)), some (.int a1)] (by decide) rfl (Nat.le_of_ble_eq_true rfl) (fun Γ C _ _ => w_m_severance (Γ, ω, 2, ad, N, 0, 0) σ a1 C)
theorem ag_LM_30 : AG LM 30 0 40 := ⟨by decide, rfl⟩
theorem fg_X12_104 : FG LM RX12 104 0 0 39 (1, 30) := ⟨_, _, _, _, _, rfl, rfl, rfl, by decide, uw_X12, (in_wt 1273 (by decide +kernel) (by decide +kernel))⟩
theorem fg_X12_271 : FG LM RX12 271 0 0 40 (0, 0) := ⟨_, _, _, _, _, rfl, rfl, rfl, by decide, uw_X12, (in_wt 1274 (by decide +kernel) (by decide +kernel))⟩
theorem fg_X12_274 : FG LM RX12 274 0 0 41 (0, 0) := ⟨_, _, _, _, _, rfl, rfl, rfl, by decide, uw_X12, (in_wt 1275 (by decide +kernel) (by decide +kernel))⟩
theorem fp_X12_271 : FP LM RX12 271 0 0 40 (0, 0) .int := ⟨_, _, _, _, _, tyX12, rfl, rfl, rfl, by decide, uw_X12, (in_wt 1274 (by decide +kernel) (by decide +kernel)), tyX12_ok, nmX12, rfl, by decide +kernel⟩
theorem fp_X12_274 : FP LM RX12 274 0 0 41 (0, 0) .int := ⟨_, _, _, _, _, tyX12, rfl, rfl, rfl, by decide, uw_X12, (in_wt 1275 (by decide +kernel) (by decide +kernel)), tyX12_ok, nmX12, rfl, by decide +kernel⟩
/-- PostsEndModel.private void findPeople(int) -/
def m_findPeople (σ : St) (a1 : Int32) : Option St := (lt1 (sx σ 0 0 40 (0 : Int32)) fun σ1 => (lt1 (sx σ1 0 0 41 (0 : Int32)) fun σ2 => (Option.bind (itr0 (S := Int32 × St) (E := St) (fun s3 => (if s3.1 < s3.2.1 0 0 11 then (Option.bind (m_isOf s3.2 s3.1 a1) fun r25 => (Option.bind (α := St) ((if r25 = 0 then some s3.2 else (Option.bind (ix 40 (s3.2.1 0 0 40)) fun i30 => (lt1 (sx s3.2 0 30 i30 s3.1) fun σ31 => (lt1 (sx σ31 0 0 40 ((σ31.1 0 0 40) + (1 : Int32))) fun σ32 => some σ32))))) fun t27 => some (.inl (s3.1 + (1 : Int32), t27)))) else some (.inr s3.2))) FU ((0 : Int32), σ2)) fun e8 => (Option.bind (itr0 (S := Int32 × St) (E := St) (fun s11 => (if s11.1 < s11.2.1 0 0 4 then (Option.bind (ix 40 s11.1) fun i19 => (Option.bind (α := Int32) ((if s11.2.1 0 27 i19 = a1 then (Option.bind (ix 40 s11.1) fun i24 => some (s11.2.1 0 7 i24)) else some (0 : Int32))) fun t20 => (lt1 (sx s11.2 0 0 41 ((s11.2.1 0 0 41) ||| t20)) fun σ23 => some (.inl (s11.1 + (1 : Int32), σ23))))) else some (.inr s11.2))) FU ((0 : Int32), e8)) fun e16 => some e16))))
set_option maxRecDepth 20000 in
set_option maxHeartbeats 4000000 in
theorem w_m_findPeople (Θ : TT) (σ : St) (a1 : Int32) (C : CX Θ cX12_findPeople RX12 none ({ frames := 2, cells := 0, slots := 0, locals := 43 } : Room) 3) : WA LM Θ (fun r : St => Qm LM Θ none r (True)) 0 [some (.ref (cF Θ 0)), some (.int a1), none] [] σ (m_findPeople σ a1) := by
  unfold m_findPeople
  refine r_aload_n C dX12_findPeople_0 rfl ?_
  refine r_iconst C (0 : Int32) dX12_findPeople_1 (by decide) ?_
  refine r_putI0 C dX12_findPeople_2 fp_X12_271 (by decide) ?_
  refine WA.gen (fun σ1 => ?_)
  refine r_aload_n C dX12_findPeople_5 rfl ?_
  refine r_iconst C (0 : Int32) dX12_findPeople_6 (by decide) ?_
  refine r_putI0 C dX12_findPeople_7 fp_X12_274 (by decide) ?_
  refine WA.gen (fun σ2 => ?_)
  refine r_iconst C (0 : Int32) dX12_findPeople_10 (by decide) ?_
  refine r_istore_n C [some (.ref (cF Θ 0)), some (.int a1), some (.int (0 : Int32))] dX12_findPeople_11 rfl (by decide) rfl ?_
  refine WA.join (α := St) 55 (fun e8 => [some (.ref (cF Θ 0)), some (.int a1), none]) (fun e8 => []) (fun e8 => e8) (fun e8 => True) (fun e8 h9 => ?_) (fun J10 => ?_)
  · refine r_iconst C (0 : Int32) dX12_findPeople_55 (by decide) ?_
    refine r_istore_n C [some (.ref (cF Θ 0)), some (.int a1), some (.int (0 : Int32))] dX12_findPeople_56 rfl (by decide) rfl ?_
    refine WA.join (α := St) 100 (fun e16 => [none, none, none]) (fun e16 => []) (fun e16 => e16) (fun e16 => True) (fun e16 h17 => ?_) (fun J18 => ?_)
    · exact r_vret C dX12_findPeople_100 rfl rfl trivial
    · refine WA.wk (lv' := [some (.ref (cF Θ 0)), some (.int a1), some (.int (0 : Int32))]) [true, true, true] rfl ?_
      refine WA.itr (S := Int32 × St) 57 (fun s11 => [some (.ref (cF Θ 0)), some (.int a1), some (.int s11.1)]) (fun s11 => []) (fun s11 => s11.2) (fun s11 => True) (fun s11 k15 h12 ih13 hx14 => ?_) FU ((0 : Int32), e8) trivial
      refine r_iload_n C dX12_findPeople_57 rfl ?_
      refine r_aload_n C dX12_findPeople_58 rfl ?_
      refine r_getI0 C dX12_findPeople_59 fg_X12_161 (by decide) ?_
      refine WA.bif ?_
      refine r_icmp_ge C 100 dX12_findPeople_62 (by decide) ?_ ?_
      · refine WA.wk (lv' := [none, none, none]) [false, false, false] rfl ?_
        exact WA.eqK (hx14 _) (J18 s11.2 trivial)
      · refine r_aload_n C dX12_findPeople_65 rfl ?_
        refine r_dup C dX12_findPeople_66 rfl ?_
        refine r_getI0 C dX12_findPeople_67 fg_X12_274 (by decide) ?_
        refine r_aload_n C dX12_findPeople_70 rfl ?_
        refine r_getF0 C dX12_findPeople_71 fg_X12_95 (by decide) ?_
        refine r_iload_n C dX12_findPeople_74 rfl ?_
        refine WA.asc ?_
        refine r_iald (α := Unit) C dX12_findPeople_75 ag_LM_27 (fun i19 => ?_)
        refine r_iload_n C dX12_findPeople_76 rfl ?_
        refine WA.asc ?_
        refine WA.join (α := Int32) 90 (fun t20 => [some (.ref (cF Θ 0)), some (.int a1), some (.int s11.1)]) (fun t20 => [.int t20, .int (s11.2.1 0 0 41), .ref (cF Θ 0)]) (fun t20 => s11.2) (fun t20 => True) (fun t20 h21 => ?_) (fun J22 => ?_)
        · refine r_ior C dX12_findPeople_90 ?_
          refine r_putI0 C dX12_findPeople_91 fp_X12_274 (by decide) ?_
          refine WA.genB (fun σ23 => ?_)
          refine r_iinc C (1 : Int32) [some (.ref (cF Θ 0)), some (.int a1), some (.int (s11.1 + (1 : Int32)))] dX12_findPeople_94 (by decide) rfl rfl (by decide) rfl ?_
          refine r_goto C 57 dX12_findPeople_97 (by decide) ?_
          refine WA.wk (lv' := [some (.ref (cF Θ 0)), some (.int a1), some (.int (s11.1 + (1 : Int32)))]) [true, true, true] rfl ?_
          exact ih13 (s11.1 + (1 : Int32), σ23) trivial
        · refine WA.bif ?_
          refine r_icmp_ne C 89 dX12_findPeople_77 (by decide) ?_ ?_
          · refine r_iconst C (0 : Int32) dX12_findPeople_89 (by decide) ?_
            refine WA.wk (lv' := [some (.ref (cF Θ 0)), some (.int a1), some (.int s11.1)]) [true, true, true] rfl ?_
            exact J22 (0 : Int32) trivial
          · refine r_aload_n C dX12_findPeople_80 rfl ?_
            refine r_getF0 C dX12_findPeople_81 fg_X12_28 (by decide) ?_
            refine r_iload_n C dX12_findPeople_84 rfl ?_
            refine WA.asc ?_
            refine r_iald (α := Unit) C dX12_findPeople_85 ag_LM_7 (fun i24 => ?_)
            refine r_goto C 90 dX12_findPeople_86 (by decide) ?_
            refine WA.wk (lv' := [some (.ref (cF Θ 0)), some (.int a1), some (.int s11.1)]) [true, true, true] rfl ?_
            exact J22 (s11.2.1 0 7 i24) trivial
  · refine WA.wk (lv' := [some (.ref (cF Θ 0)), some (.int a1), some (.int (0 : Int32))]) [true, true, true] rfl ?_
    refine WA.itr (S := Int32 × St) 12 (fun s3 => [some (.ref (cF Θ 0)), some (.int a1), some (.int s3.1)]) (fun s3 => []) (fun s3 => s3.2) (fun s3 => True) (fun s3 k7 h4 ih5 hx6 => ?_) FU ((0 : Int32), σ2) trivial
    refine r_iload_n C dX12_findPeople_12 rfl ?_
    refine r_aload_n C dX12_findPeople_13 rfl ?_
    refine r_getI0 C dX12_findPeople_14 fg_X12_164 (by decide) ?_
    refine WA.bif ?_
    refine r_icmp_ge C 55 dX12_findPeople_17 (by decide) ?_ ?_
    · refine WA.wk (lv' := [some (.ref (cF Θ 0)), some (.int a1), none]) [true, true, false] rfl ?_
      exact WA.eqK (hx6 _) (J10 s3.2 trivial)
    · refine r_aload_n C dX12_findPeople_20 rfl ?_
      refine r_iload_n C dX12_findPeople_21 rfl ?_
      refine r_iload_n C dX12_findPeople_22 rfl ?_
      refine WA.asc ?_
      refine r_callV C (st := []) (As := [.int s3.1, .int a1]) (d := 0) (j := 0) dX12_findPeople_23 ml_X12_249 vw_X12_isOf ⟨_, _, _, _, rfl, rfl⟩ (dm0 (by decide)) (fun r25 e => c_m_isOf Θ.1.2.1 (cW Θ) (cAd Θ) (cN Θ) s3.2 s3.1 a1 r25 e) rfl rfl (Nat.le_of_ble_eq_true rfl) ⟨rfl, rfl, by decide, by decide⟩ (fun r25 h26 => ?_)
      refine WA.asc ?_
      refine WA.join (α := St) 49 (fun t27 => [some (.ref (cF Θ 0)), some (.int a1), some (.int s3.1)]) (fun t27 => []) (fun t27 => t27) (fun t27 => True) (fun t27 h28 => ?_) (fun J29 => ?_)
      · refine r_iinc C (1 : Int32) [some (.ref (cF Θ 0)), some (.int a1), some (.int (s3.1 + (1 : Int32)))] dX12_findPeople_49 (by decide) rfl rfl (by decide) rfl ?_
        refine r_goto C 12 dX12_findPeople_52 (by decide) ?_
        refine WA.wk (lv' := [some (.ref (cF Θ 0)), some (.int a1), some (.int (s3.1 + (1 : Int32)))]) [true, true, true] rfl ?_
        exact ih5 (s3.1 + (1 : Int32), t27) trivial
      · refine WA.bif ?_
        refine r_if_eq C 49 dX12_findPeople_26 (by decide) ?_ ?_
        · refine WA.wk (lv' := [some (.ref (cF Θ 0)), some (.int a1), some (.int s3.1)]) [true, true, true] rfl ?_
          exact J29 s3.2 trivial
        · refine r_aload_n C dX12_findPeople_29 rfl ?_
          refine r_getF0 C dX12_findPeople_30 fg_X12_104 (by decide) ?_
          refine r_aload_n C dX12_findPeople_33 rfl ?_
          refine r_getI0 C dX12_findPeople_34 fg_X12_271 (by decide) ?_
          refine r_iload_n C dX12_findPeople_37 rfl ?_
          refine WA.asc ?_
          refine r_iast C dX12_findPeople_38 ag_LM_30 (fun i30 => ?_)
          refine WA.genB (fun σ31 => ?_)
          refine r_aload_n C dX12_findPeople_39 rfl ?_
          refine r_dup C dX12_findPeople_40 rfl ?_
          refine r_getI0 C dX12_findPeople_41 fg_X12_271 (by decide) ?_
          refine r_iconst C (1 : Int32) dX12_findPeople_44 (by decide) ?_
          refine r_iadd C dX12_findPeople_45 ?_
          refine r_putI0 C dX12_findPeople_46 fp_X12_271 (by decide) ?_
          refine WA.genB (fun σ32 => ?_)
          refine WA.wk (lv' := [some (.ref (cF Θ 0)), some (.int a1), some (.int s3.1)]) [true, true, true] rfl ?_
          exact J29 σ32 trivial
theorem c_m_findPeople (l : Launch) (ω : Wd) (ad : Nat → Nat → Nat) (N : Nat → Nat) (σ : St) (a1 : Int32) : ∀ r : St, m_findPeople σ a1 = some r → Ct l yX12_findPeople cX12_findPeople 3 none ({ frames := 2, cells := 0, slots := 0, locals := 43 } : Room) LM ω ad N [.ref (ω.2.1 0), .int a1] σ none r (True) :=
  ct_of (o := fun r : St => none) (s' := fun r => r) (P := fun r => True) [some (.ref (ω.2.1 0)), some (.int a1), none] (by decide) rfl (Nat.le_of_ble_eq_true rfl) (fun Γ C _ _ => w_m_findPeople (Γ, ω, 3, ad, N, 0, 0) σ a1 C)
/-- PostsEndModel.private boolean mayGo(int) -/
def m_mayGo (σ : St) (a1 : Int32) : Option Int32 := (Option.bind (itr0 (S := Int32) (E := ((Unit) ⊕ (Int32))) (fun s1 => (if s1 < σ.1 0 0 40 then (Option.bind (ix 40 s1) fun i30 => (if (a1 >>> (s1 &&& 31)) &&& (1 : Int32) = (1 : Int32) then (Option.bind (m_isGuarded σ (σ.1 0 30 i30)) fun r31 => (if r31 = 0 then some (.inl (s1 + (1 : Int32))) else (Option.bind (ix 40 (σ.1 0 30 i30)) fun i33 => (if σ.1 0 16 i33 < 0 then some (.inr (.inr (0 : Int32))) else some (.inl (s1 + (1 : Int32))))))) else some (.inl (s1 + (1 : Int32))))) else some (.inr (.inl ())))) FU (0 : Int32)) (Sum.elim (fun e6 => (Option.bind (itr0 (S := Int32) (E := ((Unit) ⊕ (Int32))) (fun s9 => (if s9 < (10 : Int32) then (Option.bind (itr0 (S := Int32 × Int32 × Int32) (E := Int32 × Int32) (fun s17 => (if s17.2.2 < σ.1 0 0 40 then (Option.bind (ix 40 s17.2.2) fun i25 => (Option.bind (ix 40 (σ.1 0 30 i25)) fun i26 => (Option.bind (α := Int32) ((if (a1 >>> (s17.2.2 &&& 31)) &&& (1 : Int32) = 0 then some (((σ.1 0 9 i26) >>> (s9 &&& 31)) &&& (1 : Int32)) else some (0 : Int32))) fun t27 => some (.inl (s17.1 + (((σ.1 0 9 i26) >>> (s9 &&& 31)) &&& (1 : Int32)), s17.2.1 + t27, s17.2.2 + (1 : Int32)))))) else some (.inr (s17.1, s17.2.1)))) FU ((0 : Int32), (0 : Int32), (0 : Int32))) fun e22 => (if ((σ.1 0 0 41) >>> (s9 &&& 31)) &&& (1 : Int32) = (1 : Int32) then (if e22.2 < σ.1 0 0 21 then (if e22.2 < e22.1 then some (.inr (.inr (0 : Int32))) else some (.inl (s9 + (1 : Int32)))) else some (.inl (s9 + (1 : Int32)))) else some (.inl (s9 + (1 : Int32))))) else some (.inr (.inl ())))) FU (0 : Int32)) (Sum.elim (fun e14 => some (1 : Int32)) some))) some))
set_option maxRecDepth 20000 in
set_option maxHeartbeats 4000000 in
theorem w_m_mayGo (Θ : TT) (σ : St) (a1 : Int32) (C : CX Θ cX12_mayGo RX12 (some .boolean) ({ frames := 1, cells := 0, slots := 0, locals := 21 } : Room) 7) : WA LM Θ (fun r : Int32 => Qm LM Θ (some (.int r)) σ (narrow .boolean (.int r) = .int r)) 0 [some (.ref (cF Θ 0)), some (.int a1), none, none, none, none, none] [] σ (m_mayGo σ a1) := by
  unfold m_mayGo
  refine r_iconst C (0 : Int32) dX12_mayGo_0 (by decide) ?_
  refine r_istore_n C [some (.ref (cF Θ 0)), some (.int a1), some (.int (0 : Int32)), none, none, none, none] dX12_mayGo_1 rfl (by decide) rfl ?_
  refine WA.joinL (α := Unit) 51 (fun e6 => [some (.ref (cF Θ 0)), some (.int a1), none, none, none, none, none]) (fun e6 => []) (fun e6 => σ) (fun e6 => True) (fun e6 h7 => ?_) (fun J8 => ?_)
  · refine WA.sml ?_
    refine r_iconst C (0 : Int32) dX12_mayGo_51 (by decide) ?_
    refine r_istore_n C [some (.ref (cF Θ 0)), some (.int a1), some (.int (0 : Int32)), none, none, none, none] dX12_mayGo_52 rfl (by decide) rfl ?_
    refine WA.joinL (α := Unit) 160 (fun e14 => [none, none, none, none, none, none, none]) (fun e14 => []) (fun e14 => σ) (fun e14 => True) (fun e14 h15 => ?_) (fun J16 => ?_)
    · refine WA.sml ?_
      refine r_iconst C (1 : Int32) dX12_mayGo_160 (by decide) ?_
      exact r_zret C dX12_mayGo_161 (show narrow .boolean (.int (1 : Int32)) = .int (1 : Int32) from rfl) rfl rfl (show narrow .boolean (.int (1 : Int32)) = .int (1 : Int32) from rfl)
    · refine WA.wk (lv' := [some (.ref (cF Θ 0)), some (.int a1), some (.int (0 : Int32)), none, none, none, none]) [true, true, true, false, false, false, false] rfl ?_
      refine WA.itr (S := Int32) 53 (fun s9 => [some (.ref (cF Θ 0)), some (.int a1), some (.int s9), none, none, none, none]) (fun s9 => []) (fun s9 => σ) (fun s9 => True) (fun s9 k13 h10 ih11 hx12 => ?_) FU (0 : Int32) trivial
      refine r_iload_n C dX12_mayGo_53 rfl ?_
      refine r_bipush C (10 : Int32) dX12_mayGo_54 (by decide) ?_
      refine WA.bif ?_
      refine r_icmp_ge C 160 dX12_mayGo_56 (by decide) ?_ ?_
      · refine WA.wk (lv' := [none, none, none, none, none, none, none]) [false, false, false, false, false, false, false] rfl ?_
        exact WA.eqK (hx12 _) (J16 () trivial)
      · refine r_iconst C (0 : Int32) dX12_mayGo_59 (by decide) ?_
        refine r_istore_n C [some (.ref (cF Θ 0)), some (.int a1), some (.int s9), some (.int (0 : Int32)), none, none, none] dX12_mayGo_60 rfl (by decide) rfl ?_
        refine r_iconst C (0 : Int32) dX12_mayGo_61 (by decide) ?_
        refine r_istore C [some (.ref (cF Θ 0)), some (.int a1), some (.int s9), some (.int (0 : Int32)), some (.int (0 : Int32)), none, none] dX12_mayGo_62 rfl (by decide) rfl ?_
        refine r_iconst C (0 : Int32) dX12_mayGo_64 (by decide) ?_
        refine r_istore C [some (.ref (cF Θ 0)), some (.int a1), some (.int s9), some (.int (0 : Int32)), some (.int (0 : Int32)), some (.int (0 : Int32)), none] dX12_mayGo_65 rfl (by decide) rfl ?_
        refine WA.asc ?_
        refine WA.join (α := Int32 × Int32) 125 (fun e22 => [some (.ref (cF Θ 0)), some (.int a1), some (.int s9), some (.int e22.1), some (.int e22.2), none, none]) (fun e22 => []) (fun e22 => σ) (fun e22 => True) (fun e22 h23 => ?_) (fun J24 => ?_)
        · refine r_aload_n C dX12_mayGo_125 rfl ?_
          refine r_getI0 C dX12_mayGo_126 fg_X12_274 (by decide) ?_
          refine r_iload_n C dX12_mayGo_129 rfl ?_
          refine r_ishr C dX12_mayGo_130 ?_
          refine r_iconst C (1 : Int32) dX12_mayGo_131 (by decide) ?_
          refine r_iand C dX12_mayGo_132 ?_
          refine r_iconst C (1 : Int32) dX12_mayGo_133 (by decide) ?_
          refine WA.bif ?_
          refine r_icmp_ne C 154 dX12_mayGo_134 (by decide) ?_ ?_
          · refine r_iinc C (1 : Int32) [some (.ref (cF Θ 0)), some (.int a1), some (.int (s9 + (1 : Int32))), some (.int e22.1), some (.int e22.2), none, none] dX12_mayGo_154 (by decide) rfl rfl (by decide) rfl ?_
            refine r_goto C 53 dX12_mayGo_157 (by decide) ?_
            refine WA.wk (lv' := [some (.ref (cF Θ 0)), some (.int a1), some (.int (s9 + (1 : Int32))), none, none, none, none]) [true, true, true, false, false, false, false] rfl ?_
            exact ih11 (s9 + (1 : Int32)) trivial
          · refine r_iload C dX12_mayGo_137 rfl ?_
            refine r_aload_n C dX12_mayGo_139 rfl ?_
            refine r_getI0 C dX12_mayGo_140 fg_X12_188 (by decide) ?_
            refine WA.bif ?_
            refine r_icmp_ge C 154 dX12_mayGo_143 (by decide) ?_ ?_
            · refine r_iinc C (1 : Int32) [some (.ref (cF Θ 0)), some (.int a1), some (.int (s9 + (1 : Int32))), some (.int e22.1), some (.int e22.2), none, none] dX12_mayGo_154 (by decide) rfl rfl (by decide) rfl ?_
              refine r_goto C 53 dX12_mayGo_157 (by decide) ?_
              refine WA.wk (lv' := [some (.ref (cF Θ 0)), some (.int a1), some (.int (s9 + (1 : Int32))), none, none, none, none]) [true, true, true, false, false, false, false] rfl ?_
              exact ih11 (s9 + (1 : Int32)) trivial
            · refine r_iload C dX12_mayGo_146 rfl ?_
              refine r_iload_n C dX12_mayGo_148 rfl ?_
              refine WA.bif ?_
              refine r_icmp_ge C 154 dX12_mayGo_149 (by decide) ?_ ?_
              · refine r_iinc C (1 : Int32) [some (.ref (cF Θ 0)), some (.int a1), some (.int (s9 + (1 : Int32))), some (.int e22.1), some (.int e22.2), none, none] dX12_mayGo_154 (by decide) rfl rfl (by decide) rfl ?_
                refine r_goto C 53 dX12_mayGo_157 (by decide) ?_
                refine WA.wk (lv' := [some (.ref (cF Θ 0)), some (.int a1), some (.int (s9 + (1 : Int32))), none, none, none, none]) [true, true, true, false, false, false, false] rfl ?_
                exact ih11 (s9 + (1 : Int32)) trivial
              · refine r_iconst C (0 : Int32) dX12_mayGo_152 (by decide) ?_
                refine WA.eqK (hx12 _) ?_
                exact r_zret C dX12_mayGo_153 (show narrow .boolean (.int (0 : Int32)) = .int (0 : Int32) from rfl) rfl rfl (show narrow .boolean (.int (0 : Int32)) = .int (0 : Int32) from rfl)
        · refine WA.wk (lv' := [some (.ref (cF Θ 0)), some (.int a1), some (.int s9), some (.int (0 : Int32)), some (.int (0 : Int32)), some (.int (0 : Int32)), none]) [true, true, true, true, true, true, false] rfl ?_
          refine WA.itr (S := Int32 × Int32 × Int32) 67 (fun s17 => [some (.ref (cF Θ 0)), some (.int a1), some (.int s9), some (.int s17.1), some (.int s17.2.1), some (.int s17.2.2), none]) (fun s17 => []) (fun s17 => σ) (fun s17 => True) (fun s17 k21 h18 ih19 hx20 => ?_) FU ((0 : Int32), (0 : Int32), (0 : Int32)) trivial
          refine r_iload C dX12_mayGo_67 rfl ?_
          refine r_aload_n C dX12_mayGo_69 rfl ?_
          refine r_getI0 C dX12_mayGo_70 fg_X12_271 (by decide) ?_
          refine WA.bif ?_
          refine r_icmp_ge C 125 dX12_mayGo_73 (by decide) ?_ ?_
          · refine WA.wk (lv' := [some (.ref (cF Θ 0)), some (.int a1), some (.int s9), some (.int s17.1), some (.int s17.2.1), none, none]) [true, true, true, true, true, false, false] rfl ?_
            exact WA.eqK (hx20 _) (J24 (s17.1, s17.2.1) trivial)
          · refine r_aload_n C dX12_mayGo_76 rfl ?_
            refine r_getF0 C dX12_mayGo_77 fg_X12_34 (by decide) ?_
            refine r_aload_n C dX12_mayGo_80 rfl ?_
            refine r_getF0 C dX12_mayGo_81 fg_X12_104 (by decide) ?_
            refine r_iload C dX12_mayGo_84 rfl ?_
            refine WA.asc ?_
            refine r_iald (α := Unit) C dX12_mayGo_86 ag_LM_30 (fun i25 => ?_)
            refine WA.asc ?_
            refine r_iald (α := Unit) C dX12_mayGo_87 ag_LM_9 (fun i26 => ?_)
            refine r_iload_n C dX12_mayGo_88 rfl ?_
            refine r_ishr C dX12_mayGo_89 ?_
            refine r_iconst C (1 : Int32) dX12_mayGo_90 (by decide) ?_
            refine r_iand C dX12_mayGo_91 ?_
            refine r_istore C [some (.ref (cF Θ 0)), some (.int a1), some (.int s9), some (.int s17.1), some (.int s17.2.1), some (.int s17.2.2), some (.int (((σ.1 0 9 i26) >>> (s9 &&& 31)) &&& (1 : Int32)))] dX12_mayGo_92 rfl (by decide) rfl ?_
            refine r_iload_n C dX12_mayGo_94 rfl ?_
            refine r_iload C dX12_mayGo_95 rfl ?_
            refine r_iadd C dX12_mayGo_97 ?_
            refine r_istore_n C [some (.ref (cF Θ 0)), some (.int a1), some (.int s9), some (.int (s17.1 + (((σ.1 0 9 i26) >>> (s9 &&& 31)) &&& (1 : Int32)))), some (.int s17.2.1), some (.int s17.2.2), some (.int (((σ.1 0 9 i26) >>> (s9 &&& 31)) &&& (1 : Int32)))] dX12_mayGo_98 rfl (by decide) rfl ?_
            refine r_iload C dX12_mayGo_99 rfl ?_
            refine r_iload_n C dX12_mayGo_101 rfl ?_
            refine r_iload C dX12_mayGo_102 rfl ?_
            refine r_ishr C dX12_mayGo_104 ?_
            refine r_iconst C (1 : Int32) dX12_mayGo_105 (by decide) ?_
            refine r_iand C dX12_mayGo_106 ?_
            refine WA.asc ?_
            refine WA.join (α := Int32) 116 (fun t27 => [some (.ref (cF Θ 0)), some (.int a1), some (.int s9), some (.int (s17.1 + (((σ.1 0 9 i26) >>> (s9 &&& 31)) &&& (1 : Int32)))), none, some (.int s17.2.2), none]) (fun t27 => [.int t27, .int s17.2.1]) (fun t27 => σ) (fun t27 => True) (fun t27 h28 => ?_) (fun J29 => ?_)
            · refine r_iadd C dX12_mayGo_116 ?_
              refine r_istore C [some (.ref (cF Θ 0)), some (.int a1), some (.int s9), some (.int (s17.1 + (((σ.1 0 9 i26) >>> (s9 &&& 31)) &&& (1 : Int32)))), some (.int (s17.2.1 + t27)), some (.int s17.2.2), none] dX12_mayGo_117 rfl (by decide) rfl ?_
              refine r_iinc C (1 : Int32) [some (.ref (cF Θ 0)), some (.int a1), some (.int s9), some (.int (s17.1 + (((σ.1 0 9 i26) >>> (s9 &&& 31)) &&& (1 : Int32)))), some (.int (s17.2.1 + t27)), some (.int (s17.2.2 + (1 : Int32))), none] dX12_mayGo_119 (by decide) rfl rfl (by decide) rfl ?_
              refine r_goto C 67 dX12_mayGo_122 (by decide) ?_
              refine WA.wk (lv' := [some (.ref (cF Θ 0)), some (.int a1), some (.int s9), some (.int (s17.1 + (((σ.1 0 9 i26) >>> (s9 &&& 31)) &&& (1 : Int32)))), some (.int (s17.2.1 + t27)), some (.int (s17.2.2 + (1 : Int32))), none]) [true, true, true, true, true, true, false] rfl ?_
              exact ih19 (s17.1 + (((σ.1 0 9 i26) >>> (s9 &&& 31)) &&& (1 : Int32)), s17.2.1 + t27, s17.2.2 + (1 : Int32)) trivial
            · refine WA.bif ?_
              refine r_if_ne C 115 dX12_mayGo_107 (by decide) ?_ ?_
              · refine r_iconst C (0 : Int32) dX12_mayGo_115 (by decide) ?_
                refine WA.wk (lv' := [some (.ref (cF Θ 0)), some (.int a1), some (.int s9), some (.int (s17.1 + (((σ.1 0 9 i26) >>> (s9 &&& 31)) &&& (1 : Int32)))), none, some (.int s17.2.2), none]) [true, true, true, true, false, true, false] rfl ?_
                exact J29 (0 : Int32) trivial
              · refine r_iload C dX12_mayGo_110 rfl ?_
                refine r_goto C 116 dX12_mayGo_112 (by decide) ?_
                refine WA.wk (lv' := [some (.ref (cF Θ 0)), some (.int a1), some (.int s9), some (.int (s17.1 + (((σ.1 0 9 i26) >>> (s9 &&& 31)) &&& (1 : Int32)))), none, some (.int s17.2.2), none]) [true, true, true, true, false, true, false] rfl ?_
                exact J29 (((σ.1 0 9 i26) >>> (s9 &&& 31)) &&& (1 : Int32)) trivial
  · refine WA.wk (lv' := [some (.ref (cF Θ 0)), some (.int a1), some (.int (0 : Int32)), none, none, none, none]) [true, true, true, false, false, false, false] rfl ?_
    refine WA.itr (S := Int32) 2 (fun s1 => [some (.ref (cF Θ 0)), some (.int a1), some (.int s1), none, none, none, none]) (fun s1 => []) (fun s1 => σ) (fun s1 => True) (fun s1 k5 h2 ih3 hx4 => ?_) FU (0 : Int32) trivial
    refine r_iload_n C dX12_mayGo_2 rfl ?_
    refine r_aload_n C dX12_mayGo_3 rfl ?_
    refine r_getI0 C dX12_mayGo_4 fg_X12_271 (by decide) ?_
    refine WA.bif ?_
    refine r_icmp_ge C 51 dX12_mayGo_7 (by decide) ?_ ?_
    · refine WA.wk (lv' := [some (.ref (cF Θ 0)), some (.int a1), none, none, none, none, none]) [true, true, false, false, false, false, false] rfl ?_
      exact WA.eqK (hx4 _) (J8 () trivial)
    · refine r_aload_n C dX12_mayGo_10 rfl ?_
      refine r_getF0 C dX12_mayGo_11 fg_X12_104 (by decide) ?_
      refine r_iload_n C dX12_mayGo_14 rfl ?_
      refine WA.asc ?_
      refine r_iald (α := Unit) C dX12_mayGo_15 ag_LM_30 (fun i30 => ?_)
      refine r_istore_n C [some (.ref (cF Θ 0)), some (.int a1), some (.int s1), some (.int (σ.1 0 30 i30)), none, none, none] dX12_mayGo_16 rfl (by decide) rfl ?_
      refine r_iload_n C dX12_mayGo_17 rfl ?_
      refine r_iload_n C dX12_mayGo_18 rfl ?_
      refine r_ishr C dX12_mayGo_19 ?_
      refine r_iconst C (1 : Int32) dX12_mayGo_20 (by decide) ?_
      refine r_iand C dX12_mayGo_21 ?_
      refine r_iconst C (1 : Int32) dX12_mayGo_22 (by decide) ?_
      refine WA.bif ?_
      refine r_icmp_ne C 45 dX12_mayGo_23 (by decide) ?_ ?_
      · refine r_iinc C (1 : Int32) [some (.ref (cF Θ 0)), some (.int a1), some (.int (s1 + (1 : Int32))), some (.int (σ.1 0 30 i30)), none, none, none] dX12_mayGo_45 (by decide) rfl rfl (by decide) rfl ?_
        refine r_goto C 2 dX12_mayGo_48 (by decide) ?_
        refine WA.wk (lv' := [some (.ref (cF Θ 0)), some (.int a1), some (.int (s1 + (1 : Int32))), none, none, none, none]) [true, true, true, false, false, false, false] rfl ?_
        exact ih3 (s1 + (1 : Int32)) trivial
      · refine r_aload_n C dX12_mayGo_26 rfl ?_
        refine r_iload_n C dX12_mayGo_27 rfl ?_
        refine WA.asc ?_
        refine r_callV C (st := []) (As := [.int (σ.1 0 30 i30)]) (d := 0) (j := 0) dX12_mayGo_28 ml_X12_252 vw_X12_isGuarded ⟨_, _, _, _, rfl, rfl⟩ (dm0 (by decide)) (fun r31 e => c_m_isGuarded Θ.1.2.1 (cW Θ) (cAd Θ) (cN Θ) σ (σ.1 0 30 i30) r31 e) rfl rfl (Nat.le_of_ble_eq_true rfl) ⟨rfl, rfl, by decide, by decide⟩ (fun r31 h32 => ?_)
        refine WA.bif ?_
        refine r_if_eq C 45 dX12_mayGo_31 (by decide) ?_ ?_
        · refine r_iinc C (1 : Int32) [some (.ref (cF Θ 0)), some (.int a1), some (.int (s1 + (1 : Int32))), some (.int (σ.1 0 30 i30)), none, none, none] dX12_mayGo_45 (by decide) rfl rfl (by decide) rfl ?_
          refine r_goto C 2 dX12_mayGo_48 (by decide) ?_
          refine WA.wk (lv' := [some (.ref (cF Θ 0)), some (.int a1), some (.int (s1 + (1 : Int32))), none, none, none, none]) [true, true, true, false, false, false, false] rfl ?_
          exact ih3 (s1 + (1 : Int32)) trivial
        · refine r_aload_n C dX12_mayGo_34 rfl ?_
          refine r_getF0 C dX12_mayGo_35 fg_X12_55 (by decide) ?_
          refine r_iload_n C dX12_mayGo_38 rfl ?_
          refine WA.asc ?_
          refine r_iald (α := Unit) C dX12_mayGo_39 ag_LM_16 (fun i33 => ?_)
          refine WA.bif ?_
          refine r_if_ge C 45 dX12_mayGo_40 (by decide) ?_ ?_
          · refine r_iinc C (1 : Int32) [some (.ref (cF Θ 0)), some (.int a1), some (.int (s1 + (1 : Int32))), some (.int (σ.1 0 30 i30)), none, none, none] dX12_mayGo_45 (by decide) rfl rfl (by decide) rfl ?_
            refine r_goto C 2 dX12_mayGo_48 (by decide) ?_
            refine WA.wk (lv' := [some (.ref (cF Θ 0)), some (.int a1), some (.int (s1 + (1 : Int32))), none, none, none, none]) [true, true, true, false, false, false, false] rfl ?_
            exact ih3 (s1 + (1 : Int32)) trivial
          · refine r_iconst C (0 : Int32) dX12_mayGo_43 (by decide) ?_
            refine WA.eqK (hx4 _) ?_
            exact r_zret C dX12_mayGo_44 (show narrow .boolean (.int (0 : Int32)) = .int (0 : Int32) from rfl) rfl rfl (show narrow .boolean (.int (0 : Int32)) = .int (0 : Int32) from rfl)
theorem c_m_mayGo (l : Launch) (ω : Wd) (ad : Nat → Nat → Nat) (N : Nat → Nat) (σ : St) (a1 : Int32) : ∀ r : Int32, m_mayGo σ a1 = some r → Ct l yX12_mayGo cX12_mayGo 7 (some .boolean) ({ frames := 1, cells := 0, slots := 0, locals := 21 } : Room) LM ω ad N [.ref (ω.2.1 0), .int a1] σ (some (.int r)) σ (narrow .boolean (.int r) = .int r) :=
  ct_of (o := fun r : Int32 => (some (.int r))) (s' := fun r => σ) (P := fun r => narrow .boolean (.int r) = .int r) [some (.ref (ω.2.1 0)), some (.int a1), none, none, none, none, none] (by decide) rfl (Nat.le_of_ble_eq_true rfl) (fun Γ C _ _ => w_m_mayGo (Γ, ω, 7, ad, N, 0, 0) σ a1 C)
theorem ag_LM_31 : AG LM 31 0 12 := ⟨by decide, rfl⟩
theorem ag_LM_32 : AG LM 32 0 12 := ⟨by decide, rfl⟩
theorem vw_X12_mayGo : VW yX12_mayGo cX12_mayGo 7 (some .boolean) 1 := ⟨⟨(in_wt 88 (by decide +kernel) (by decide +kernel)), (in_wt 1636 (by decide +kernel) (by decide +kernel)), by decide +kernel⟩, (in_wt 1635 (by decide +kernel) (by decide +kernel)), (in_wt 68 (by decide +kernel) (by decide +kernel))⟩
theorem fg_X12_107 : FG LM RX12 107 0 0 46 (1, 31) := ⟨_, _, _, _, _, rfl, rfl, rfl, by decide, uw_X12, (in_wt 1280 (by decide +kernel) (by decide +kernel))⟩
theorem fg_X12_110 : FG LM RX12 110 0 0 47 (1, 32) := ⟨_, _, _, _, _, rfl, rfl, rfl, by decide, uw_X12, (in_wt 1281 (by decide +kernel) (by decide +kernel))⟩
theorem fg_X12_277 : FG LM RX12 277 0 0 42 (0, 0) := ⟨_, _, _, _, _, rfl, rfl, rfl, by decide, uw_X12, (in_wt 1276 (by decide +kernel) (by decide +kernel))⟩
theorem fg_X12_283 : FG LM RX12 283 0 0 43 (0, 0) := ⟨_, _, _, _, _, rfl, rfl, rfl, by decide, uw_X12, (in_wt 1277 (by decide +kernel) (by decide +kernel))⟩
theorem fg_X12_286 : FG LM RX12 286 0 0 44 (0, 0) := ⟨_, _, _, _, _, rfl, rfl, rfl, by decide, uw_X12, (in_wt 1278 (by decide +kernel) (by decide +kernel))⟩
theorem fg_X12_289 : FG LM RX12 289 0 0 45 (0, 0) := ⟨_, _, _, _, _, rfl, rfl, rfl, by decide, uw_X12, (in_wt 1279 (by decide +kernel) (by decide +kernel))⟩
theorem fp_X12_277 : FP LM RX12 277 0 0 42 (0, 0) .int := ⟨_, _, _, _, _, tyX12, rfl, rfl, rfl, by decide, uw_X12, (in_wt 1276 (by decide +kernel) (by decide +kernel)), tyX12_ok, nmX12, rfl, by decide +kernel⟩
theorem fp_X12_283 : FP LM RX12 283 0 0 43 (0, 0) .int := ⟨_, _, _, _, _, tyX12, rfl, rfl, rfl, by decide, uw_X12, (in_wt 1277 (by decide +kernel) (by decide +kernel)), tyX12_ok, nmX12, rfl, by decide +kernel⟩
theorem fp_X12_286 : FP LM RX12 286 0 0 44 (0, 0) .int := ⟨_, _, _, _, _, tyX12, rfl, rfl, rfl, by decide, uw_X12, (in_wt 1278 (by decide +kernel) (by decide +kernel)), tyX12_ok, nmX12, rfl, by decide +kernel⟩
theorem fp_X12_289 : FP LM RX12 289 0 0 45 (0, 0) .int := ⟨_, _, _, _, _, tyX12, rfl, rfl, rfl, by decide, uw_X12, (in_wt 1279 (by decide +kernel) (by decide +kernel)), tyX12_ok, nmX12, rfl, by decide +kernel⟩
theorem ml_X12_280 : Cond.methodLink RX12 280 yX12_mayGo ∈ wt := in_wt 1633 (by decide +kernel) (by decide +kernel)
/-- PostsEndModel.private void findChoice(int) -/
def m_findChoice (σ : St) (a1 : Int32) : Option St := (lt1 (sx σ 0 0 42 (-1 : Int32)) fun σ1 => (Option.bind (itr0 (S := Int32 × St) (E := St) (fun s2 => (if s2.1 < s2.2.1 0 0 40 then (Option.bind (ix 40 s2.1) fun i50 => (Option.bind (m_severanceOf s2.2 (s2.2.1 0 30 i50)) fun r51 => (Option.bind (ix 40 (s2.2.1 0 30 i50)) fun i53 => (Option.bind (α := Int32) ((if s2.2.1 0 16 i53 < 0 then some (0 : Int32) else (Option.bind (ix 40 (s2.2.1 0 30 i50)) fun i63 => some (s2.2.1 0 16 i63)))) fun t54 => (Option.bind (ix 12 s2.1) fun i57 => (lt1 (sx s2.2 0 31 i57 (r51 + t54)) fun σ58 => (Option.bind (m_markOf σ58 (s2.2.1 0 30 i50) (σ58.1 0 0 0)) fun r59 => (Option.bind (ix 12 s2.1) fun i61 => (lt1 (sx σ58 0 32 i61 r59) fun σ62 => some (.inl (s2.1 + (1 : Int32), σ62))))))))))) else some (.inr s2.2))) FU ((0 : Int32), σ1)) fun e7 => (Option.bind (itr0 (S := Int32 × St) (E := St) (fun s10 => (if s10.1 < (1 : Int32) <<< ((s10.2.1 0 0 40) &&& 31) then (Option.bind (m_ones s10.1) fun r18 => (Option.bind (α := St) ((if r18 = a1 then (Option.bind (m_mayGo s10.2 s10.1) fun r23 => (if r23 = 0 then some s10.2 else (Option.bind (itr0 (S := Int32 × Int32 × Int32 × Int32) (E := Int32 × Int32 × Int32) (fun s25 => (if s25.2.2.2 < s10.2.1 0 0 40 then (Option.bind (α := Int32 × Int32 × Int32) ((if (s10.1 >>> (s25.2.2.2 &&& 31)) &&& (1 : Int32) = (1 : Int32) then (Option.bind (ix 40 s25.2.2.2) fun i43 => (Option.bind (ix 40 (s10.2.1 0 30 i43)) fun i44 => (Option.bind (α := Int32) ((if s10.2.1 0 16 i44 < 0 then some (1 : Int32) else some (0 : Int32))) fun t45 => (Option.bind (ix 12 s25.2.2.2) fun i48 => (Option.bind (ix 12 s25.2.2.2) fun i49 => some (s25.1 + t45, s25.2.1 + (s10.2.1 0 31 i48), s25.2.2.1 + (s10.2.1 0 32 i49))))))) else some (s25.1, s25.2.1, s25.2.2.1))) fun t40 => some (.inl (t40.1, t40.2.1, t40.2.2, s25.2.2.2 + (1 : Int32)))) else some (.inr (s25.1, s25.2.1, s25.2.2.1)))) FU ((0 : Int32), (0 : Int32), (0 : Int32), (0 : Int32))) fun e30 => (Option.bind (α := Int32) ((if s10.2.1 0 0 42 < 0 then some (1 : Int32) else (if e30.1 < s10.2.1 0 0 43 then some (1 : Int32) else (if e30.1 = s10.2.1 0 0 43 then (if e30.2.1 < s10.2.1 0 0 44 then some (1 : Int32) else (if e30.2.1 = s10.2.1 0 0 44 then (if e30.2.2 < s10.2.1 0 0 45 then some (1 : Int32) else some (0 : Int32)) else some (0 : Int32))) else some (0 : Int32))))) fun t33 => (if t33 = 0 then some s10.2 else (lt1 (sx s10.2 0 0 42 s10.1) fun σ36 => (lt1 (sx σ36 0 0 43 e30.1) fun σ37 => (lt1 (sx σ37 0 0 44 e30.2.1) fun σ38 => (lt1 (sx σ38 0 0 45 e30.2.2) fun σ39 => some σ39))))))))) else some s10.2)) fun t20 => some (.inl (s10.1 + (1 : Int32), t20)))) else some (.inr s10.2))) FU ((0 : Int32), e7)) fun e15 => some e15)))
set_option maxRecDepth 20000 in
set_option maxHeartbeats 4000000 in
theorem w_m_findChoice (Θ : TT) (σ : St) (a1 : Int32) (C : CX Θ cX12_findChoice RX12 none ({ frames := 4, cells := 0, slots := 0, locals := 92 } : Room) 7) : WA LM Θ (fun r : St => Qm LM Θ none r (True)) 0 [some (.ref (cF Θ 0)), some (.int a1), none, none, none, none, none] [] σ (m_findChoice σ a1) := by
  unfold m_findChoice
  refine r_aload_n C dX12_findChoice_0 rfl ?_
  refine r_iconst C (-1 : Int32) dX12_findChoice_1 (by decide) ?_
  refine r_putI0 C dX12_findChoice_2 fp_X12_277 (by decide) ?_
  refine WA.gen (fun σ1 => ?_)
  refine r_iconst C (0 : Int32) dX12_findChoice_5 (by decide) ?_
  refine r_istore_n C [some (.ref (cF Θ 0)), some (.int a1), some (.int (0 : Int32)), none, none, none, none] dX12_findChoice_6 rfl (by decide) rfl ?_
  refine WA.join (α := St) 74 (fun e7 => [some (.ref (cF Θ 0)), some (.int a1), none, none, none, none, none]) (fun e7 => []) (fun e7 => e7) (fun e7 => True) (fun e7 h8 => ?_) (fun J9 => ?_)
  · refine r_iconst C (0 : Int32) dX12_findChoice_74 (by decide) ?_
    refine r_istore_n C [some (.ref (cF Θ 0)), some (.int a1), some (.int (0 : Int32)), none, none, none, none] dX12_findChoice_75 rfl (by decide) rfl ?_
    refine WA.join (α := St) 278 (fun e15 => [none, none, none, none, none, none, none]) (fun e15 => []) (fun e15 => e15) (fun e15 => True) (fun e15 h16 => ?_) (fun J17 => ?_)
    · exact r_vret C dX12_findChoice_278 rfl rfl trivial
    · refine WA.wk (lv' := [some (.ref (cF Θ 0)), some (.int a1), some (.int (0 : Int32)), none, none, none, none]) [true, true, true, false, false, false, false] rfl ?_
      refine WA.itr (S := Int32 × St) 76 (fun s10 => [some (.ref (cF Θ 0)), some (.int a1), some (.int s10.1), none, none, none, none]) (fun s10 => []) (fun s10 => s10.2) (fun s10 => True) (fun s10 k14 h11 ih12 hx13 => ?_) FU ((0 : Int32), e7) trivial
      refine r_iload_n C dX12_findChoice_76 rfl ?_
      refine r_iconst C (1 : Int32) dX12_findChoice_77 (by decide) ?_
      refine r_aload_n C dX12_findChoice_78 rfl ?_
      refine r_getI0 C dX12_findChoice_79 fg_X12_271 (by decide) ?_
      refine r_ishl C dX12_findChoice_82 ?_
      refine WA.bif ?_
      refine r_icmp_ge C 278 dX12_findChoice_83 (by decide) ?_ ?_
      · refine WA.wk (lv' := [none, none, none, none, none, none, none]) [false, false, false, false, false, false, false] rfl ?_
        exact WA.eqK (hx13 _) (J17 s10.2 trivial)
      · refine r_iload_n C dX12_findChoice_86 rfl ?_
        refine WA.asc ?_
        refine r_callS C (st := []) (As := [.int s10.1]) dX12_findChoice_87 ml_X12_216 sw_X12_ones (fun r18 e => c_m_ones Θ.1.2.1 (cW Θ) (cAd Θ) (cN Θ) s10.2 s10.1 r18 e) rfl rfl (Nat.le_of_ble_eq_true rfl) ⟨rfl, rfl, by decide, by decide⟩ (fun r18 h19 => ?_)
        refine r_iload_n C dX12_findChoice_90 rfl ?_
        refine WA.asc ?_
        refine WA.join (α := St) 272 (fun t20 => [some (.ref (cF Θ 0)), some (.int a1), some (.int s10.1), none, none, none, none]) (fun t20 => []) (fun t20 => t20) (fun t20 => True) (fun t20 h21 => ?_) (fun J22 => ?_)
        · refine r_iinc C (1 : Int32) [some (.ref (cF Θ 0)), some (.int a1), some (.int (s10.1 + (1 : Int32))), none, none, none, none] dX12_findChoice_272 (by decide) rfl rfl (by decide) rfl ?_
          refine r_goto C 76 dX12_findChoice_275 (by decide) ?_
          refine WA.wk (lv' := [some (.ref (cF Θ 0)), some (.int a1), some (.int (s10.1 + (1 : Int32))), none, none, none, none]) [true, true, true, false, false, false, false] rfl ?_
          exact ih12 (s10.1 + (1 : Int32), t20) trivial
        · refine WA.bif ?_
          refine r_icmp_ne C 272 dX12_findChoice_91 (by decide) ?_ ?_
          · refine WA.wk (lv' := [some (.ref (cF Θ 0)), some (.int a1), some (.int s10.1), none, none, none, none]) [true, true, true, false, false, false, false] rfl ?_
            exact J22 s10.2 trivial
          · refine r_aload_n C dX12_findChoice_94 rfl ?_
            refine r_iload_n C dX12_findChoice_95 rfl ?_
            refine WA.asc ?_
            refine r_callV C (st := []) (As := [.int s10.1]) (d := 0) (j := 0) dX12_findChoice_96 ml_X12_280 vw_X12_mayGo ⟨_, _, _, _, rfl, rfl⟩ (dm0 (by decide)) (fun r23 e => c_m_mayGo Θ.1.2.1 (cW Θ) (cAd Θ) (cN Θ) s10.2 s10.1 r23 e) rfl rfl (Nat.le_of_ble_eq_true rfl) ⟨rfl, rfl, by decide, by decide⟩ (fun r23 h24 => ?_)
            refine WA.bif ?_
            refine r_if_ne C 105 dX12_findChoice_99 (by decide) ?_ ?_
            · refine r_iconst C (0 : Int32) dX12_findChoice_105 (by decide) ?_
              refine r_istore_n C [some (.ref (cF Θ 0)), some (.int a1), some (.int s10.1), some (.int (0 : Int32)), none, none, none] dX12_findChoice_106 rfl (by decide) rfl ?_
              refine r_iconst C (0 : Int32) dX12_findChoice_107 (by decide) ?_
              refine r_istore C [some (.ref (cF Θ 0)), some (.int a1), some (.int s10.1), some (.int (0 : Int32)), some (.int (0 : Int32)), none, none] dX12_findChoice_108 rfl (by decide) rfl ?_
              refine r_iconst C (0 : Int32) dX12_findChoice_110 (by decide) ?_
              refine r_istore C [some (.ref (cF Θ 0)), some (.int a1), some (.int s10.1), some (.int (0 : Int32)), some (.int (0 : Int32)), some (.int (0 : Int32)), none] dX12_findChoice_111 rfl (by decide) rfl ?_
              refine r_iconst C (0 : Int32) dX12_findChoice_113 (by decide) ?_
              refine r_istore C [some (.ref (cF Θ 0)), some (.int a1), some (.int s10.1), some (.int (0 : Int32)), some (.int (0 : Int32)), some (.int (0 : Int32)), some (.int (0 : Int32))] dX12_findChoice_114 rfl (by decide) rfl ?_
              refine WA.asc ?_
              refine WA.join (α := Int32 × Int32 × Int32) 188 (fun e30 => [some (.ref (cF Θ 0)), some (.int a1), some (.int s10.1), some (.int e30.1), some (.int e30.2.1), some (.int e30.2.2), none]) (fun e30 => []) (fun e30 => s10.2) (fun e30 => True) (fun e30 h31 => ?_) (fun J32 => ?_)
              · refine r_aload_n C dX12_findChoice_188 rfl ?_
                refine r_getI0 C dX12_findChoice_189 fg_X12_277 (by decide) ?_
                refine WA.asc ?_
                refine WA.join (α := Int32) 243 (fun t33 => [some (.ref (cF Θ 0)), some (.int a1), some (.int s10.1), some (.int e30.1), some (.int e30.2.1), some (.int e30.2.2), none]) (fun t33 => [.int t33]) (fun t33 => s10.2) (fun t33 => True) (fun t33 h34 => ?_) (fun J35 => ?_)
                · refine r_istore C [some (.ref (cF Θ 0)), some (.int a1), some (.int s10.1), some (.int e30.1), some (.int e30.2.1), some (.int e30.2.2), some (.int t33)] dX12_findChoice_243 rfl (by decide) rfl ?_
                  refine r_iload C dX12_findChoice_245 rfl ?_
                  refine WA.bif ?_
                  refine r_if_eq C 272 dX12_findChoice_247 (by decide) ?_ ?_
                  · refine WA.wk (lv' := [some (.ref (cF Θ 0)), some (.int a1), some (.int s10.1), none, none, none, none]) [true, true, true, false, false, false, false] rfl ?_
                    exact J22 s10.2 trivial
                  · refine r_aload_n C dX12_findChoice_250 rfl ?_
                    refine r_iload_n C dX12_findChoice_251 rfl ?_
                    refine r_putI0 C dX12_findChoice_252 fp_X12_277 (by decide) ?_
                    refine WA.genB (fun σ36 => ?_)
                    refine r_aload_n C dX12_findChoice_255 rfl ?_
                    refine r_iload_n C dX12_findChoice_256 rfl ?_
                    refine r_putI0 C dX12_findChoice_257 fp_X12_283 (by decide) ?_
                    refine WA.genB (fun σ37 => ?_)
                    refine r_aload_n C dX12_findChoice_260 rfl ?_
                    refine r_iload C dX12_findChoice_261 rfl ?_
                    refine r_putI0 C dX12_findChoice_263 fp_X12_286 (by decide) ?_
                    refine WA.genB (fun σ38 => ?_)
                    refine r_aload_n C dX12_findChoice_266 rfl ?_
                    refine r_iload C dX12_findChoice_267 rfl ?_
                    refine r_putI0 C dX12_findChoice_269 fp_X12_289 (by decide) ?_
                    refine WA.genB (fun σ39 => ?_)
                    refine WA.wk (lv' := [some (.ref (cF Θ 0)), some (.int a1), some (.int s10.1), none, none, none, none]) [true, true, true, false, false, false, false] rfl ?_
                    exact J22 σ39 trivial
                · refine WA.bif ?_
                  refine r_if_lt C 238 dX12_findChoice_192 (by decide) ?_ ?_
                  · refine r_iconst C (1 : Int32) dX12_findChoice_238 (by decide) ?_
                    refine r_goto C 243 dX12_findChoice_239 (by decide) ?_
                    refine WA.wk (lv' := [some (.ref (cF Θ 0)), some (.int a1), some (.int s10.1), some (.int e30.1), some (.int e30.2.1), some (.int e30.2.2), none]) [true, true, true, true, true, true, false] rfl ?_
                    exact J35 (1 : Int32) trivial
                  · refine r_iload_n C dX12_findChoice_195 rfl ?_
                    refine r_aload_n C dX12_findChoice_196 rfl ?_
                    refine r_getI0 C dX12_findChoice_197 fg_X12_283 (by decide) ?_
                    refine WA.bif ?_
                    refine r_icmp_lt C 238 dX12_findChoice_200 (by decide) ?_ ?_
                    · refine r_iconst C (1 : Int32) dX12_findChoice_238 (by decide) ?_
                      refine r_goto C 243 dX12_findChoice_239 (by decide) ?_
                      refine WA.wk (lv' := [some (.ref (cF Θ 0)), some (.int a1), some (.int s10.1), some (.int e30.1), some (.int e30.2.1), some (.int e30.2.2), none]) [true, true, true, true, true, true, false] rfl ?_
                      exact J35 (1 : Int32) trivial
                    · refine r_iload_n C dX12_findChoice_203 rfl ?_
                      refine r_aload_n C dX12_findChoice_204 rfl ?_
                      refine r_getI0 C dX12_findChoice_205 fg_X12_283 (by decide) ?_
                      refine WA.bif ?_
                      refine r_icmp_ne C 242 dX12_findChoice_208 (by decide) ?_ ?_
                      · refine r_iconst C (0 : Int32) dX12_findChoice_242 (by decide) ?_
                        refine WA.wk (lv' := [some (.ref (cF Θ 0)), some (.int a1), some (.int s10.1), some (.int e30.1), some (.int e30.2.1), some (.int e30.2.2), none]) [true, true, true, true, true, true, false] rfl ?_
                        exact J35 (0 : Int32) trivial
                      · refine r_iload C dX12_findChoice_211 rfl ?_
                        refine r_aload_n C dX12_findChoice_213 rfl ?_
                        refine r_getI0 C dX12_findChoice_214 fg_X12_286 (by decide) ?_
                        refine WA.bif ?_
                        refine r_icmp_lt C 238 dX12_findChoice_217 (by decide) ?_ ?_
                        · refine r_iconst C (1 : Int32) dX12_findChoice_238 (by decide) ?_
                          refine r_goto C 243 dX12_findChoice_239 (by decide) ?_
                          refine WA.wk (lv' := [some (.ref (cF Θ 0)), some (.int a1), some (.int s10.1), some (.int e30.1), some (.int e30.2.1), some (.int e30.2.2), none]) [true, true, true, true, true, true, false] rfl ?_
                          exact J35 (1 : Int32) trivial
                        · refine r_iload C dX12_findChoice_220 rfl ?_
                          refine r_aload_n C dX12_findChoice_222 rfl ?_
                          refine r_getI0 C dX12_findChoice_223 fg_X12_286 (by decide) ?_
                          refine WA.bif ?_
                          refine r_icmp_ne C 242 dX12_findChoice_226 (by decide) ?_ ?_
                          · refine r_iconst C (0 : Int32) dX12_findChoice_242 (by decide) ?_
                            refine WA.wk (lv' := [some (.ref (cF Θ 0)), some (.int a1), some (.int s10.1), some (.int e30.1), some (.int e30.2.1), some (.int e30.2.2), none]) [true, true, true, true, true, true, false] rfl ?_
                            exact J35 (0 : Int32) trivial
                          · refine r_iload C dX12_findChoice_229 rfl ?_
                            refine r_aload_n C dX12_findChoice_231 rfl ?_
                            refine r_getI0 C dX12_findChoice_232 fg_X12_289 (by decide) ?_
                            refine WA.bif ?_
                            refine r_icmp_ge C 242 dX12_findChoice_235 (by decide) ?_ ?_
                            · refine r_iconst C (0 : Int32) dX12_findChoice_242 (by decide) ?_
                              refine WA.wk (lv' := [some (.ref (cF Θ 0)), some (.int a1), some (.int s10.1), some (.int e30.1), some (.int e30.2.1), some (.int e30.2.2), none]) [true, true, true, true, true, true, false] rfl ?_
                              exact J35 (0 : Int32) trivial
                            · refine r_iconst C (1 : Int32) dX12_findChoice_238 (by decide) ?_
                              refine r_goto C 243 dX12_findChoice_239 (by decide) ?_
                              refine WA.wk (lv' := [some (.ref (cF Θ 0)), some (.int a1), some (.int s10.1), some (.int e30.1), some (.int e30.2.1), some (.int e30.2.2), none]) [true, true, true, true, true, true, false] rfl ?_
                              exact J35 (1 : Int32) trivial
              · refine WA.wk (lv' := [some (.ref (cF Θ 0)), some (.int a1), some (.int s10.1), some (.int (0 : Int32)), some (.int (0 : Int32)), some (.int (0 : Int32)), some (.int (0 : Int32))]) [true, true, true, true, true, true, true] rfl ?_
                refine WA.itr (S := Int32 × Int32 × Int32 × Int32) 116 (fun s25 => [some (.ref (cF Θ 0)), some (.int a1), some (.int s10.1), some (.int s25.1), some (.int s25.2.1), some (.int s25.2.2.1), some (.int s25.2.2.2)]) (fun s25 => []) (fun s25 => s10.2) (fun s25 => True) (fun s25 k29 h26 ih27 hx28 => ?_) FU ((0 : Int32), (0 : Int32), (0 : Int32), (0 : Int32)) trivial
                refine r_iload C dX12_findChoice_116 rfl ?_
                refine r_aload_n C dX12_findChoice_118 rfl ?_
                refine r_getI0 C dX12_findChoice_119 fg_X12_271 (by decide) ?_
                refine WA.bif ?_
                refine r_icmp_ge C 188 dX12_findChoice_122 (by decide) ?_ ?_
                · refine WA.wk (lv' := [some (.ref (cF Θ 0)), some (.int a1), some (.int s10.1), some (.int s25.1), some (.int s25.2.1), some (.int s25.2.2.1), none]) [true, true, true, true, true, true, false] rfl ?_
                  exact WA.eqK (hx28 _) (J32 (s25.1, s25.2.1, s25.2.2.1) trivial)
                · refine r_iload_n C dX12_findChoice_125 rfl ?_
                  refine r_iload C dX12_findChoice_126 rfl ?_
                  refine r_ishr C dX12_findChoice_128 ?_
                  refine r_iconst C (1 : Int32) dX12_findChoice_129 (by decide) ?_
                  refine r_iand C dX12_findChoice_130 ?_
                  refine r_iconst C (1 : Int32) dX12_findChoice_131 (by decide) ?_
                  refine WA.asc ?_
                  refine WA.join (α := Int32 × Int32 × Int32) 182 (fun t40 => [some (.ref (cF Θ 0)), some (.int a1), some (.int s10.1), some (.int t40.1), some (.int t40.2.1), some (.int t40.2.2), some (.int s25.2.2.2)]) (fun t40 => []) (fun t40 => s10.2) (fun t40 => True) (fun t40 h41 => ?_) (fun J42 => ?_)
                  · refine r_iinc C (1 : Int32) [some (.ref (cF Θ 0)), some (.int a1), some (.int s10.1), some (.int t40.1), some (.int t40.2.1), some (.int t40.2.2), some (.int (s25.2.2.2 + (1 : Int32)))] dX12_findChoice_182 (by decide) rfl rfl (by decide) rfl ?_
                    refine r_goto C 116 dX12_findChoice_185 (by decide) ?_
                    refine WA.wk (lv' := [some (.ref (cF Θ 0)), some (.int a1), some (.int s10.1), some (.int t40.1), some (.int t40.2.1), some (.int t40.2.2), some (.int (s25.2.2.2 + (1 : Int32)))]) [true, true, true, true, true, true, true] rfl ?_
                    exact ih27 (t40.1, t40.2.1, t40.2.2, s25.2.2.2 + (1 : Int32)) trivial
                  · refine WA.bif ?_
                    refine r_icmp_ne C 182 dX12_findChoice_132 (by decide) ?_ ?_
                    · refine WA.wk (lv' := [some (.ref (cF Θ 0)), some (.int a1), some (.int s10.1), some (.int s25.1), some (.int s25.2.1), some (.int s25.2.2.1), some (.int s25.2.2.2)]) [true, true, true, true, true, true, true] rfl ?_
                      exact J42 (s25.1, s25.2.1, s25.2.2.1) trivial
                    · refine r_iload_n C dX12_findChoice_135 rfl ?_
                      refine r_aload_n C dX12_findChoice_136 rfl ?_
                      refine r_getF0 C dX12_findChoice_137 fg_X12_55 (by decide) ?_
                      refine r_aload_n C dX12_findChoice_140 rfl ?_
                      refine r_getF0 C dX12_findChoice_141 fg_X12_104 (by decide) ?_
                      refine r_iload C dX12_findChoice_144 rfl ?_
                      refine WA.asc ?_
                      refine r_iald (α := Unit) C dX12_findChoice_146 ag_LM_30 (fun i43 => ?_)
                      refine WA.asc ?_
                      refine r_iald (α := Unit) C dX12_findChoice_147 ag_LM_16 (fun i44 => ?_)
                      refine WA.asc ?_
                      refine WA.join (α := Int32) 156 (fun t45 => [some (.ref (cF Θ 0)), some (.int a1), some (.int s10.1), none, some (.int s25.2.1), some (.int s25.2.2.1), some (.int s25.2.2.2)]) (fun t45 => [.int t45, .int s25.1]) (fun t45 => s10.2) (fun t45 => True) (fun t45 h46 => ?_) (fun J47 => ?_)
                      · refine r_iadd C dX12_findChoice_156 ?_
                        refine r_istore_n C [some (.ref (cF Θ 0)), some (.int a1), some (.int s10.1), some (.int (s25.1 + t45)), some (.int s25.2.1), some (.int s25.2.2.1), some (.int s25.2.2.2)] dX12_findChoice_157 rfl (by decide) rfl ?_
                        refine r_iload C dX12_findChoice_158 rfl ?_
                        refine r_aload_n C dX12_findChoice_160 rfl ?_
                        refine r_getF0 C dX12_findChoice_161 fg_X12_107 (by decide) ?_
                        refine r_iload C dX12_findChoice_164 rfl ?_
                        refine WA.asc ?_
                        refine r_iald (α := Unit) C dX12_findChoice_166 ag_LM_31 (fun i48 => ?_)
                        refine r_iadd C dX12_findChoice_167 ?_
                        refine r_istore C [some (.ref (cF Θ 0)), some (.int a1), some (.int s10.1), some (.int (s25.1 + t45)), some (.int (s25.2.1 + (s10.2.1 0 31 i48))), some (.int s25.2.2.1), some (.int s25.2.2.2)] dX12_findChoice_168 rfl (by decide) rfl ?_
                        refine r_iload C dX12_findChoice_170 rfl ?_
                        refine r_aload_n C dX12_findChoice_172 rfl ?_
                        refine r_getF0 C dX12_findChoice_173 fg_X12_110 (by decide) ?_
                        refine r_iload C dX12_findChoice_176 rfl ?_
                        refine WA.asc ?_
                        refine r_iald (α := Unit) C dX12_findChoice_178 ag_LM_32 (fun i49 => ?_)
                        refine r_iadd C dX12_findChoice_179 ?_
                        refine r_istore C [some (.ref (cF Θ 0)), some (.int a1), some (.int s10.1), some (.int (s25.1 + t45)), some (.int (s25.2.1 + (s10.2.1 0 31 i48))), some (.int (s25.2.2.1 + (s10.2.1 0 32 i49))), some (.int s25.2.2.2)] dX12_findChoice_180 rfl (by decide) rfl ?_
                        refine WA.wk (lv' := [some (.ref (cF Θ 0)), some (.int a1), some (.int s10.1), some (.int (s25.1 + t45)), some (.int (s25.2.1 + (s10.2.1 0 31 i48))), some (.int (s25.2.2.1 + (s10.2.1 0 32 i49))), some (.int s25.2.2.2)]) [true, true, true, true, true, true, true] rfl ?_
                        exact J42 (s25.1 + t45, s25.2.1 + (s10.2.1 0 31 i48), s25.2.2.1 + (s10.2.1 0 32 i49)) trivial
                      · refine WA.bif ?_
                        refine r_if_ge C 155 dX12_findChoice_148 (by decide) ?_ ?_
                        · refine r_iconst C (0 : Int32) dX12_findChoice_155 (by decide) ?_
                          refine WA.wk (lv' := [some (.ref (cF Θ 0)), some (.int a1), some (.int s10.1), none, some (.int s25.2.1), some (.int s25.2.2.1), some (.int s25.2.2.2)]) [true, true, true, false, true, true, true] rfl ?_
                          exact J47 (0 : Int32) trivial
                        · refine r_iconst C (1 : Int32) dX12_findChoice_151 (by decide) ?_
                          refine r_goto C 156 dX12_findChoice_152 (by decide) ?_
                          refine WA.wk (lv' := [some (.ref (cF Θ 0)), some (.int a1), some (.int s10.1), none, some (.int s25.2.1), some (.int s25.2.2.1), some (.int s25.2.2.2)]) [true, true, true, false, true, true, true] rfl ?_
                          exact J47 (1 : Int32) trivial
            · refine r_goto C 272 dX12_findChoice_102 (by decide) ?_
              refine WA.wk (lv' := [some (.ref (cF Θ 0)), some (.int a1), some (.int s10.1), none, none, none, none]) [true, true, true, false, false, false, false] rfl ?_
              exact J22 s10.2 trivial
  · refine WA.wk (lv' := [some (.ref (cF Θ 0)), some (.int a1), some (.int (0 : Int32)), none, none, none, none]) [true, true, true, false, false, false, false] rfl ?_
    refine WA.itr (S := Int32 × St) 7 (fun s2 => [some (.ref (cF Θ 0)), some (.int a1), some (.int s2.1), none, none, none, none]) (fun s2 => []) (fun s2 => s2.2) (fun s2 => True) (fun s2 k6 h3 ih4 hx5 => ?_) FU ((0 : Int32), σ1) trivial
    refine r_iload_n C dX12_findChoice_7 rfl ?_
    refine r_aload_n C dX12_findChoice_8 rfl ?_
    refine r_getI0 C dX12_findChoice_9 fg_X12_271 (by decide) ?_
    refine WA.bif ?_
    refine r_icmp_ge C 74 dX12_findChoice_12 (by decide) ?_ ?_
    · refine WA.wk (lv' := [some (.ref (cF Θ 0)), some (.int a1), none, none, none, none, none]) [true, true, false, false, false, false, false] rfl ?_
      exact WA.eqK (hx5 _) (J9 s2.2 trivial)
    · refine r_aload_n C dX12_findChoice_15 rfl ?_
      refine r_getF0 C dX12_findChoice_16 fg_X12_104 (by decide) ?_
      refine r_iload_n C dX12_findChoice_19 rfl ?_
      refine WA.asc ?_
      refine r_iald (α := Unit) C dX12_findChoice_20 ag_LM_30 (fun i50 => ?_)
      refine r_istore_n C [some (.ref (cF Θ 0)), some (.int a1), some (.int s2.1), some (.int (s2.2.1 0 30 i50)), none, none, none] dX12_findChoice_21 rfl (by decide) rfl ?_
      refine r_aload_n C dX12_findChoice_22 rfl ?_
      refine r_getF0 C dX12_findChoice_23 fg_X12_107 (by decide) ?_
      refine r_iload_n C dX12_findChoice_26 rfl ?_
      refine r_aload_n C dX12_findChoice_27 rfl ?_
      refine r_iload_n C dX12_findChoice_28 rfl ?_
      refine WA.asc ?_
      refine r_callV C (st := [.int s2.1, .ref (cF Θ 31)]) (As := [.int (s2.2.1 0 30 i50)]) (d := 0) (j := 0) dX12_findChoice_29 ml_X12_268 vw_X12_severanceOf ⟨_, _, _, _, rfl, rfl⟩ (dm0 (by decide)) (fun r51 e => c_m_severanceOf Θ.1.2.1 (cW Θ) (cAd Θ) (cN Θ) s2.2 (s2.2.1 0 30 i50) r51 e) rfl rfl (Nat.le_of_ble_eq_true rfl) ⟨rfl, rfl, by decide, by decide⟩ (fun r51 h52 => ?_)
      refine r_aload_n C dX12_findChoice_32 rfl ?_
      refine r_getF0 C dX12_findChoice_33 fg_X12_55 (by decide) ?_
      refine r_iload_n C dX12_findChoice_36 rfl ?_
      refine WA.asc ?_
      refine r_iald (α := Unit) C dX12_findChoice_37 ag_LM_16 (fun i53 => ?_)
      refine WA.asc ?_
      refine WA.join (α := Int32) 51 (fun t54 => [some (.ref (cF Θ 0)), some (.int a1), some (.int s2.1), some (.int (s2.2.1 0 30 i50)), none, none, none]) (fun t54 => [.int t54, .int r51, .int s2.1, .ref (cF Θ 31)]) (fun t54 => s2.2) (fun t54 => True) (fun t54 h55 => ?_) (fun J56 => ?_)
      · refine r_iadd C dX12_findChoice_51 ?_
        refine WA.asc ?_
        refine r_iast C dX12_findChoice_52 ag_LM_31 (fun i57 => ?_)
        refine WA.genB (fun σ58 => ?_)
        refine r_aload_n C dX12_findChoice_53 rfl ?_
        refine r_getF0 C dX12_findChoice_54 fg_X12_110 (by decide) ?_
        refine r_iload_n C dX12_findChoice_57 rfl ?_
        refine r_aload_n C dX12_findChoice_58 rfl ?_
        refine r_iload_n C dX12_findChoice_59 rfl ?_
        refine r_aload_n C dX12_findChoice_60 rfl ?_
        refine r_getI0 C dX12_findChoice_61 fg_X12_167 (by decide) ?_
        refine WA.asc ?_
        refine r_callV C (st := [.int s2.1, .ref (cF Θ 32)]) (As := [.int (s2.2.1 0 30 i50), .int (σ58.1 0 0 0)]) (d := 0) (j := 0) dX12_findChoice_64 ml_X12_233 vw_X12_markOf ⟨_, _, _, _, rfl, rfl⟩ (dm0 (by decide)) (fun r59 e => c_m_markOf Θ.1.2.1 (cW Θ) (cAd Θ) (cN Θ) σ58 (s2.2.1 0 30 i50) (σ58.1 0 0 0) r59 e) rfl rfl (Nat.le_of_ble_eq_true rfl) ⟨rfl, rfl, by decide, by decide⟩ (fun r59 h60 => ?_)
        refine WA.asc ?_
        refine r_iast C dX12_findChoice_67 ag_LM_32 (fun i61 => ?_)
        refine WA.genB (fun σ62 => ?_)
        refine r_iinc C (1 : Int32) [some (.ref (cF Θ 0)), some (.int a1), some (.int (s2.1 + (1 : Int32))), some (.int (s2.2.1 0 30 i50)), none, none, none] dX12_findChoice_68 (by decide) rfl rfl (by decide) rfl ?_
        refine r_goto C 7 dX12_findChoice_71 (by decide) ?_
        refine WA.wk (lv' := [some (.ref (cF Θ 0)), some (.int a1), some (.int (s2.1 + (1 : Int32))), none, none, none, none]) [true, true, true, false, false, false, false] rfl ?_
        exact ih4 (s2.1 + (1 : Int32), σ62) trivial
      · refine WA.bif ?_
        refine r_if_ge C 45 dX12_findChoice_38 (by decide) ?_ ?_
        · refine r_aload_n C dX12_findChoice_45 rfl ?_
          refine r_getF0 C dX12_findChoice_46 fg_X12_55 (by decide) ?_
          refine r_iload_n C dX12_findChoice_49 rfl ?_
          refine WA.asc ?_
          refine r_iald (α := Unit) C dX12_findChoice_50 ag_LM_16 (fun i63 => ?_)
          refine WA.wk (lv' := [some (.ref (cF Θ 0)), some (.int a1), some (.int s2.1), some (.int (s2.2.1 0 30 i50)), none, none, none]) [true, true, true, true, false, false, false] rfl ?_
          exact J56 (s2.2.1 0 16 i63) trivial
        · refine r_iconst C (0 : Int32) dX12_findChoice_41 (by decide) ?_
          refine r_goto C 51 dX12_findChoice_42 (by decide) ?_
          refine WA.wk (lv' := [some (.ref (cF Θ 0)), some (.int a1), some (.int s2.1), some (.int (s2.2.1 0 30 i50)), none, none, none]) [true, true, true, true, false, false, false] rfl ?_
          exact J56 (0 : Int32) trivial
theorem c_m_findChoice (l : Launch) (ω : Wd) (ad : Nat → Nat → Nat) (N : Nat → Nat) (σ : St) (a1 : Int32) : ∀ r : St, m_findChoice σ a1 = some r → Ct l yX12_findChoice cX12_findChoice 7 none ({ frames := 4, cells := 0, slots := 0, locals := 92 } : Room) LM ω ad N [.ref (ω.2.1 0), .int a1] σ none r (True) :=
  ct_of (o := fun r : St => none) (s' := fun r => r) (P := fun r => True) [some (.ref (ω.2.1 0)), some (.int a1), none, none, none, none, none] (by decide) rfl (Nat.le_of_ble_eq_true rfl) (fun Γ C _ _ => w_m_findChoice (Γ, ω, 7, ad, N, 0, 0) σ a1 C)
theorem vw_X12_findPeople : VW yX12_findPeople cX12_findPeople 3 none 1 := ⟨⟨(in_wt 88 (by decide +kernel) (by decide +kernel)), (in_wt 1628 (by decide +kernel) (by decide +kernel)), by decide +kernel⟩, (in_wt 1627 (by decide +kernel) (by decide +kernel)), (in_wt 66 (by decide +kernel) (by decide +kernel))⟩
theorem ml_X12_292 : Cond.methodLink RX12 292 yX12_findPeople ∈ wt := in_wt 1625 (by decide +kernel) (by decide +kernel)
/-- PostsEndModel.private int wrongChoice(int, int) -/
def m_wrongChoice (σ : St) (a1 : Int32) (a2 : Int32) : Option (Int32 × St) := (Option.bind (m_findPeople σ a1) fun r1 => (if a2 < 0 then some ((-4 : Int32), r1) else (if (12 : Int32) < r1.1 0 0 40 then some ((-6 : Int32), r1) else (if r1.1 0 0 40 < a2 then some ((-6 : Int32), r1) else some ((0 : Int32), r1)))))
set_option maxRecDepth 20000 in
set_option maxHeartbeats 4000000 in
theorem w_m_wrongChoice (Θ : TT) (σ : St) (a1 : Int32) (a2 : Int32) (C : CX Θ cX12_wrongChoice RX12 (some .int) ({ frames := 3, cells := 0, slots := 0, locals := 65 } : Room) 3) : WA LM Θ (fun r : Int32 × St => Qm LM Θ (some (.int r.1)) r.2 (True)) 0 [some (.ref (cF Θ 0)), some (.int a1), some (.int a2)] [] σ (m_wrongChoice σ a1 a2) := by
  unfold m_wrongChoice
  refine r_aload_n C dX12_wrongChoice_0 rfl ?_
  refine r_iload_n C dX12_wrongChoice_1 rfl ?_
  refine r_callV C (st := []) (As := [.int a1]) (d := 0) (j := 0) dX12_wrongChoice_2 ml_X12_292 vw_X12_findPeople ⟨_, _, _, _, rfl, rfl⟩ (dm0 (by decide)) (fun r1 e => c_m_findPeople Θ.1.2.1 (cW Θ) (cAd Θ) (cN Θ) σ a1 r1 e) rfl rfl (Nat.le_of_ble_eq_true rfl) ⟨rfl, rfl, by decide, by decide⟩ (fun r1 h2 => ?_)
  refine r_iload_n C dX12_wrongChoice_5 rfl ?_
  refine r_if_ge C 14 dX12_wrongChoice_6 (by decide) ?_ ?_
  · refine r_aload_n C dX12_wrongChoice_14 rfl ?_
    refine r_getI0 C dX12_wrongChoice_15 fg_X12_271 (by decide) ?_
    refine r_bipush C (12 : Int32) dX12_wrongChoice_18 (by decide) ?_
    refine r_icmp_gt C 31 dX12_wrongChoice_20 (by decide) ?_ ?_
    · refine r_bipush C (-6 : Int32) dX12_wrongChoice_31 (by decide) ?_
      refine r_goto C 37 dX12_wrongChoice_33 (by decide) ?_
      exact r_iret C dX12_wrongChoice_37 rfl rfl trivial
    · refine r_iload_n C dX12_wrongChoice_23 rfl ?_
      refine r_aload_n C dX12_wrongChoice_24 rfl ?_
      refine r_getI0 C dX12_wrongChoice_25 fg_X12_271 (by decide) ?_
      refine r_icmp_le C 36 dX12_wrongChoice_28 (by decide) ?_ ?_
      · refine r_iconst C (0 : Int32) dX12_wrongChoice_36 (by decide) ?_
        exact r_iret C dX12_wrongChoice_37 rfl rfl trivial
      · refine r_bipush C (-6 : Int32) dX12_wrongChoice_31 (by decide) ?_
        refine r_goto C 37 dX12_wrongChoice_33 (by decide) ?_
        exact r_iret C dX12_wrongChoice_37 rfl rfl trivial
  · refine r_bipush C (-4 : Int32) dX12_wrongChoice_9 (by decide) ?_
    refine r_goto C 37 dX12_wrongChoice_11 (by decide) ?_
    exact r_iret C dX12_wrongChoice_37 rfl rfl trivial
theorem c_m_wrongChoice (l : Launch) (ω : Wd) (ad : Nat → Nat → Nat) (N : Nat → Nat) (σ : St) (a1 : Int32) (a2 : Int32) : ∀ r : Int32 × St, m_wrongChoice σ a1 a2 = some r → Ct l yX12_wrongChoice cX12_wrongChoice 3 (some .int) ({ frames := 3, cells := 0, slots := 0, locals := 65 } : Room) LM ω ad N [.ref (ω.2.1 0), .int a1, .int a2] σ (some (.int r.1)) r.2 (True) :=
  ct_of (o := fun r : Int32 × St => (some (.int r.1))) (s' := fun r => r.2) (P := fun r => True) [some (.ref (ω.2.1 0)), some (.int a1), some (.int a2)] (by decide) rfl (Nat.le_of_ble_eq_true rfl) (fun Γ C _ _ => w_m_wrongChoice (Γ, ω, 3, ad, N, 0, 0) σ a1 a2 C)
theorem vw_X12_findChoice : VW yX12_findChoice cX12_findChoice 7 none 1 := ⟨⟨(in_wt 88 (by decide +kernel) (by decide +kernel)), (in_wt 1632 (by decide +kernel) (by decide +kernel)), by decide +kernel⟩, (in_wt 1631 (by decide +kernel) (by decide +kernel)), (in_wt 67 (by decide +kernel) (by decide +kernel))⟩
theorem vw_X12_wrongChoice : VW yX12_wrongChoice cX12_wrongChoice 3 (some .int) 2 := ⟨⟨(in_wt 88 (by decide +kernel) (by decide +kernel)), (in_wt 1624 (by decide +kernel) (by decide +kernel)), by decide +kernel⟩, (in_wt 1623 (by decide +kernel) (by decide +kernel)), (in_wt 65 (by decide +kernel) (by decide +kernel))⟩
theorem ml_X12_295 : Cond.methodLink RX12 295 yX12_wrongChoice ∈ wt := in_wt 1621 (by decide +kernel) (by decide +kernel)
theorem ml_X12_298 : Cond.methodLink RX12 298 yX12_findChoice ∈ wt := in_wt 1629 (by decide +kernel) (by decide +kernel)
/-- PostsEndModel.public int choice(int, int, int, int) -/
def m_choice (σ : St) (a1 : Int32) (a2 : Int32) (a3 : Int32) (a4 : Int32) : Option (Int32 × St) := (Option.bind (m_isPool σ a1 a2) fun r1 => (if r1.1 = 0 then (Option.bind (m_refuse r1.2 (-1 : Int32)) fun r13 => some (r13.1, r13.2)) else (Option.bind (m_in a4 (0 : Int32) (1 : Int32)) fun r3 => (if r3 = 0 then (Option.bind (m_refuse r1.2 (-2 : Int32)) fun r11 => some (r11.1, r11.2)) else (Option.bind (m_wrongChoice r1.2 a2 a3) fun r5 => (if r5.1 < 0 then (Option.bind (m_refuse r5.2 r5.1) fun r9 => some (r9.1, r9.2)) else (Option.bind (m_findChoice r5.2 a3) fun r7 => (if r7.1 0 0 42 < 0 then some ((-9 : Int32), r7) else (if a4 = 0 then some (r7.1 0 0 43, r7) else some (r7.1 0 0 44, r7))))))))))
set_option maxRecDepth 20000 in
set_option maxHeartbeats 4000000 in
theorem w_m_choice (Θ : TT) (σ : St) (a1 : Int32) (a2 : Int32) (a3 : Int32) (a4 : Int32) (C : CX Θ cX12_choice RX12 (some .int) ({ frames := 5, cells := 0, slots := 0, locals := 118 } : Room) 6) : WA LM Θ (fun r : Int32 × St => Qm LM Θ (some (.int r.1)) r.2 (True)) 0 [some (.ref (cF Θ 0)), some (.int a1), some (.int a2), some (.int a3), some (.int a4), none] [] σ (m_choice σ a1 a2 a3 a4) := by
  unfold m_choice
  refine r_aload_n C dX12_choice_0 rfl ?_
  refine r_iload_n C dX12_choice_1 rfl ?_
  refine r_iload_n C dX12_choice_2 rfl ?_
  refine r_callV C (st := []) (As := [.int a1, .int a2]) (d := 0) (j := 0) dX12_choice_3 ml_X12_258 vw_X12_isPool ⟨_, _, _, _, rfl, rfl⟩ (dm0 (by decide)) (fun r1 e => c_m_isPool Θ.1.2.1 (cW Θ) (cAd Θ) (cN Θ) σ a1 a2 r1 e) rfl rfl (Nat.le_of_ble_eq_true rfl) ⟨rfl, rfl, by decide, by decide⟩ (fun r1 h2 => ?_)
  refine r_if_ne C 15 dX12_choice_6 (by decide) ?_ ?_
  · refine r_iload C dX12_choice_15 rfl ?_
    refine r_iconst C (0 : Int32) dX12_choice_17 (by decide) ?_
    refine r_iconst C (1 : Int32) dX12_choice_18 (by decide) ?_
    refine r_callS C (st := []) (As := [.int a4, .int (0 : Int32), .int (1 : Int32)]) dX12_choice_19 ml_X12_157 sw_X12_in (fun r3 e => c_m_in Θ.1.2.1 (cW Θ) (cAd Θ) (cN Θ) r1.2 a4 (0 : Int32) (1 : Int32) r3 e) rfl rfl (Nat.le_of_ble_eq_true rfl) ⟨rfl, rfl, by decide, by decide⟩ (fun r3 h4 => ?_)
    refine r_if_ne C 32 dX12_choice_22 (by decide) ?_ ?_
    · refine r_aload_n C dX12_choice_32 rfl ?_
      refine r_iload_n C dX12_choice_33 rfl ?_
      refine r_iload_n C dX12_choice_34 rfl ?_
      refine r_callV C (st := []) (As := [.int a2, .int a3]) (d := 0) (j := 0) dX12_choice_35 ml_X12_295 vw_X12_wrongChoice ⟨_, _, _, _, rfl, rfl⟩ (dm0 (by decide)) (fun r5 e => c_m_wrongChoice Θ.1.2.1 (cW Θ) (cAd Θ) (cN Θ) r1.2 a2 a3 r5 e) rfl rfl (Nat.le_of_ble_eq_true rfl) ⟨rfl, rfl, by decide, by decide⟩ (fun r5 h6 => ?_)
      refine r_istore C [some (.ref (cF Θ 0)), some (.int a1), some (.int a2), some (.int a3), some (.int a4), some (.int r5.1)] dX12_choice_38 rfl (by decide) rfl ?_
      refine r_iload C dX12_choice_40 rfl ?_
      refine r_if_ge C 52 dX12_choice_42 (by decide) ?_ ?_
      · refine r_aload_n C dX12_choice_52 rfl ?_
        refine r_iload_n C dX12_choice_53 rfl ?_
        refine r_callV C (st := []) (As := [.int a3]) (d := 0) (j := 0) dX12_choice_54 ml_X12_298 vw_X12_findChoice ⟨_, _, _, _, rfl, rfl⟩ (dm0 (by decide)) (fun r7 e => c_m_findChoice Θ.1.2.1 (cW Θ) (cAd Θ) (cN Θ) r5.2 a3 r7 e) rfl rfl (Nat.le_of_ble_eq_true rfl) ⟨rfl, rfl, by decide, by decide⟩ (fun r7 h8 => ?_)
        refine r_aload_n C dX12_choice_57 rfl ?_
        refine r_getI0 C dX12_choice_58 fg_X12_277 (by decide) ?_
        refine r_if_ge C 69 dX12_choice_61 (by decide) ?_ ?_
        · refine r_iload C dX12_choice_69 rfl ?_
          refine r_if_ne C 81 dX12_choice_71 (by decide) ?_ ?_
          · refine r_aload_n C dX12_choice_81 rfl ?_
            refine r_getI0 C dX12_choice_82 fg_X12_286 (by decide) ?_
            exact r_iret C dX12_choice_85 rfl rfl trivial
          · refine r_aload_n C dX12_choice_74 rfl ?_
            refine r_getI0 C dX12_choice_75 fg_X12_283 (by decide) ?_
            refine r_goto C 85 dX12_choice_78 (by decide) ?_
            exact r_iret C dX12_choice_85 rfl rfl trivial
        · refine r_bipush C (-9 : Int32) dX12_choice_64 (by decide) ?_
          refine r_goto C 85 dX12_choice_66 (by decide) ?_
          exact r_iret C dX12_choice_85 rfl rfl trivial
      · refine r_aload_n C dX12_choice_45 rfl ?_
        refine r_iload C dX12_choice_46 rfl ?_
        refine r_callV C (st := []) (As := [.int r5.1]) (d := 0) (j := 0) dX12_choice_48 ml_X12_174 vw_X12_refuse ⟨_, _, _, _, rfl, rfl⟩ (dm0 (by decide)) (fun r9 e => c_m_refuse Θ.1.2.1 (cW Θ) (cAd Θ) (cN Θ) r5.2 r5.1 r9 e) rfl rfl (Nat.le_of_ble_eq_true rfl) ⟨rfl, rfl, by decide, by decide⟩ (fun r9 h10 => ?_)
        exact r_iret C dX12_choice_51 rfl rfl trivial
    · refine r_aload_n C dX12_choice_25 rfl ?_
      refine r_bipush C (-2 : Int32) dX12_choice_26 (by decide) ?_
      refine r_callV C (st := []) (As := [.int (-2 : Int32)]) (d := 0) (j := 0) dX12_choice_28 ml_X12_174 vw_X12_refuse ⟨_, _, _, _, rfl, rfl⟩ (dm0 (by decide)) (fun r11 e => c_m_refuse Θ.1.2.1 (cW Θ) (cAd Θ) (cN Θ) r1.2 (-2 : Int32) r11 e) rfl rfl (Nat.le_of_ble_eq_true rfl) ⟨rfl, rfl, by decide, by decide⟩ (fun r11 h12 => ?_)
      exact r_iret C dX12_choice_31 rfl rfl trivial
  · refine r_aload_n C dX12_choice_9 rfl ?_
    refine r_iconst C (-1 : Int32) dX12_choice_10 (by decide) ?_
    refine r_callV C (st := []) (As := [.int (-1 : Int32)]) (d := 0) (j := 0) dX12_choice_11 ml_X12_174 vw_X12_refuse ⟨_, _, _, _, rfl, rfl⟩ (dm0 (by decide)) (fun r13 e => c_m_refuse Θ.1.2.1 (cW Θ) (cAd Θ) (cN Θ) r1.2 (-1 : Int32) r13 e) rfl rfl (Nat.le_of_ble_eq_true rfl) ⟨rfl, rfl, by decide, by decide⟩ (fun r13 h14 => ?_)
    exact r_iret C dX12_choice_14 rfl rfl trivial
theorem c_m_choice (l : Launch) (ω : Wd) (ad : Nat → Nat → Nat) (N : Nat → Nat) (σ : St) (a1 : Int32) (a2 : Int32) (a3 : Int32) (a4 : Int32) : ∀ r : Int32 × St, m_choice σ a1 a2 a3 a4 = some r → Ct l yX12_choice cX12_choice 6 (some .int) ({ frames := 5, cells := 0, slots := 0, locals := 118 } : Room) LM ω ad N [.ref (ω.2.1 0), .int a1, .int a2, .int a3, .int a4] σ (some (.int r.1)) r.2 (True) :=
  ct_of (o := fun r : Int32 × St => (some (.int r.1))) (s' := fun r => r.2) (P := fun r => True) [some (.ref (ω.2.1 0)), some (.int a1), some (.int a2), some (.int a3), some (.int a4), none] (by decide) rfl (Nat.le_of_ble_eq_true rfl) (fun Γ C _ _ => w_m_choice (Γ, ω, 6, ad, N, 0, 0) σ a1 a2 a3 a4 C)
/-- PostsEndModel.public int chosen(int, int, int, int) -/
def m_chosen (σ : St) (a1 : Int32) (a2 : Int32) (a3 : Int32) (a4 : Int32) : Option (Int32 × St) := (Option.bind (m_isPool σ a1 a2) fun r1 => (if r1.1 = 0 then (Option.bind (m_refuse r1.2 (-1 : Int32)) fun r3 => some (r3.1, r3.2)) else (Option.bind (m_isPerson r1.2 a4) fun r5 => (if r5 = 0 then (Option.bind (m_refuse r1.2 (-1 : Int32)) fun r25 => some (r25.1, r25.2)) else (Option.bind (m_wrongChoice r1.2 a2 a3) fun r7 => (if r7.1 < 0 then (Option.bind (m_refuse r7.2 r7.1) fun r23 => some (r23.1, r23.2)) else (Option.bind (m_findChoice r7.2 a3) fun r9 => (Option.bind (itr0 (S := Int32 × Int32) (E := Int32) (fun s11 => (if s11.2 < r9.1 0 0 40 then (if r9.1 0 0 42 < 0 then some (.inr s11.1) else (Option.bind (ix 40 s11.2) fun i19 => (Option.bind (α := Int32) ((if r9.1 0 30 i19 = a4 then some (((r9.1 0 0 42) >>> (s11.2 &&& 31)) &&& (1 : Int32)) else some s11.1)) fun t20 => some (.inl (t20, s11.2 + (1 : Int32)))))) else some (.inr s11.1))) FU ((0 : Int32), (0 : Int32))) fun e16 => some (e16, r9)))))))))
set_option maxRecDepth 20000 in
set_option maxHeartbeats 4000000 in
theorem w_m_chosen (Θ : TT) (σ : St) (a1 : Int32) (a2 : Int32) (a3 : Int32) (a4 : Int32) (C : CX Θ cX12_chosen RX12 (some .int) ({ frames := 5, cells := 0, slots := 0, locals := 118 } : Room) 8) : WA LM Θ (fun r : Int32 × St => Qm LM Θ (some (.int r.1)) r.2 (True)) 0 [some (.ref (cF Θ 0)), some (.int a1), some (.int a2), some (.int a3), some (.int a4), none, none, none] [] σ (m_chosen σ a1 a2 a3 a4) := by
  unfold m_chosen
  refine r_aload_n C dX12_chosen_0 rfl ?_
  refine r_iload_n C dX12_chosen_1 rfl ?_
  refine r_iload_n C dX12_chosen_2 rfl ?_
  refine r_callV C (st := []) (As := [.int a1, .int a2]) (d := 0) (j := 0) dX12_chosen_3 ml_X12_258 vw_X12_isPool ⟨_, _, _, _, rfl, rfl⟩ (dm0 (by decide)) (fun r1 e => c_m_isPool Θ.1.2.1 (cW Θ) (cAd Θ) (cN Θ) σ a1 a2 r1 e) rfl rfl (Nat.le_of_ble_eq_true rfl) ⟨rfl, rfl, by decide, by decide⟩ (fun r1 h2 => ?_)
  refine r_if_eq C 18 dX12_chosen_6 (by decide) ?_ ?_
  · refine r_aload_n C dX12_chosen_18 rfl ?_
    refine r_iconst C (-1 : Int32) dX12_chosen_19 (by decide) ?_
    refine r_callV C (st := []) (As := [.int (-1 : Int32)]) (d := 0) (j := 0) dX12_chosen_20 ml_X12_174 vw_X12_refuse ⟨_, _, _, _, rfl, rfl⟩ (dm0 (by decide)) (fun r3 e => c_m_refuse Θ.1.2.1 (cW Θ) (cAd Θ) (cN Θ) r1.2 (-1 : Int32) r3 e) rfl rfl (Nat.le_of_ble_eq_true rfl) ⟨rfl, rfl, by decide, by decide⟩ (fun r3 h4 => ?_)
    exact r_iret C dX12_chosen_23 rfl rfl trivial
  · refine r_aload_n C dX12_chosen_9 rfl ?_
    refine r_iload C dX12_chosen_10 rfl ?_
    refine r_callV C (st := []) (As := [.int a4]) (d := 0) (j := 0) dX12_chosen_12 ml_X12_194 vw_X12_isPerson ⟨_, _, _, _, rfl, rfl⟩ (dm0 (by decide)) (fun r5 e => c_m_isPerson Θ.1.2.1 (cW Θ) (cAd Θ) (cN Θ) r1.2 a4 r5 e) rfl rfl (Nat.le_of_ble_eq_true rfl) ⟨rfl, rfl, by decide, by decide⟩ (fun r5 h6 => ?_)
    refine r_if_ne C 24 dX12_chosen_15 (by decide) ?_ ?_
    · refine r_aload_n C dX12_chosen_24 rfl ?_
      refine r_iload_n C dX12_chosen_25 rfl ?_
      refine r_iload_n C dX12_chosen_26 rfl ?_
      refine r_callV C (st := []) (As := [.int a2, .int a3]) (d := 0) (j := 0) dX12_chosen_27 ml_X12_295 vw_X12_wrongChoice ⟨_, _, _, _, rfl, rfl⟩ (dm0 (by decide)) (fun r7 e => c_m_wrongChoice Θ.1.2.1 (cW Θ) (cAd Θ) (cN Θ) r1.2 a2 a3 r7 e) rfl rfl (Nat.le_of_ble_eq_true rfl) ⟨rfl, rfl, by decide, by decide⟩ (fun r7 h8 => ?_)
      refine r_istore C [some (.ref (cF Θ 0)), some (.int a1), some (.int a2), some (.int a3), some (.int a4), some (.int r7.1), none, none] dX12_chosen_30 rfl (by decide) rfl ?_
      refine r_iload C dX12_chosen_32 rfl ?_
      refine r_if_ge C 44 dX12_chosen_34 (by decide) ?_ ?_
      · refine r_aload_n C dX12_chosen_44 rfl ?_
        refine r_iload_n C dX12_chosen_45 rfl ?_
        refine r_callV C (st := []) (As := [.int a3]) (d := 0) (j := 0) dX12_chosen_46 ml_X12_298 vw_X12_findChoice ⟨_, _, _, _, rfl, rfl⟩ (dm0 (by decide)) (fun r9 e => c_m_findChoice Θ.1.2.1 (cW Θ) (cAd Θ) (cN Θ) r7.2 a3 r9 e) rfl rfl (Nat.le_of_ble_eq_true rfl) ⟨rfl, rfl, by decide, by decide⟩ (fun r9 h10 => ?_)
        refine r_iconst C (0 : Int32) dX12_chosen_49 (by decide) ?_
        refine r_istore C [some (.ref (cF Θ 0)), some (.int a1), some (.int a2), some (.int a3), some (.int a4), some (.int r7.1), some (.int (0 : Int32)), none] dX12_chosen_50 rfl (by decide) rfl ?_
        refine r_iconst C (0 : Int32) dX12_chosen_52 (by decide) ?_
        refine r_istore C [some (.ref (cF Θ 0)), some (.int a1), some (.int a2), some (.int a3), some (.int a4), some (.int r7.1), some (.int (0 : Int32)), some (.int (0 : Int32))] dX12_chosen_53 rfl (by decide) rfl ?_
        refine WA.join (α := Int32) 105 (fun e16 => [none, none, none, none, none, none, some (.int e16), none]) (fun e16 => []) (fun e16 => r9) (fun e16 => True) (fun e16 h17 => ?_) (fun J18 => ?_)
        · refine r_iload C dX12_chosen_105 rfl ?_
          exact r_iret C dX12_chosen_107 rfl rfl trivial
        · refine WA.wk (lv' := [some (.ref (cF Θ 0)), none, none, none, some (.int a4), none, some (.int (0 : Int32)), some (.int (0 : Int32))]) [true, false, false, false, true, false, true, true] rfl ?_
          refine WA.itr (S := Int32 × Int32) 55 (fun s11 => [some (.ref (cF Θ 0)), none, none, none, some (.int a4), none, some (.int s11.1), some (.int s11.2)]) (fun s11 => []) (fun s11 => r9) (fun s11 => True) (fun s11 k15 h12 ih13 hx14 => ?_) FU ((0 : Int32), (0 : Int32)) trivial
          refine r_iload C dX12_chosen_55 rfl ?_
          refine r_aload_n C dX12_chosen_57 rfl ?_
          refine r_getI0 C dX12_chosen_58 fg_X12_271 (by decide) ?_
          refine WA.bif ?_
          refine r_icmp_ge C 105 dX12_chosen_61 (by decide) ?_ ?_
          · refine WA.wk (lv' := [none, none, none, none, none, none, some (.int s11.1), none]) [false, false, false, false, false, false, true, false] rfl ?_
            exact WA.eqK (hx14 _) (J18 s11.1 trivial)
          · refine r_aload_n C dX12_chosen_64 rfl ?_
            refine r_getI0 C dX12_chosen_65 fg_X12_277 (by decide) ?_
            refine WA.bif ?_
            refine r_if_lt C 105 dX12_chosen_68 (by decide) ?_ ?_
            · refine WA.wk (lv' := [none, none, none, none, none, none, some (.int s11.1), none]) [false, false, false, false, false, false, true, false] rfl ?_
              exact WA.eqK (hx14 _) (J18 s11.1 trivial)
            · refine r_aload_n C dX12_chosen_71 rfl ?_
              refine r_getF0 C dX12_chosen_72 fg_X12_104 (by decide) ?_
              refine r_iload C dX12_chosen_75 rfl ?_
              refine WA.asc ?_
              refine r_iald (α := Unit) C dX12_chosen_77 ag_LM_30 (fun i19 => ?_)
              refine r_iload C dX12_chosen_78 rfl ?_
              refine WA.asc ?_
              refine WA.join (α := Int32) 97 (fun t20 => [some (.ref (cF Θ 0)), none, none, none, some (.int a4), none, none, some (.int s11.2)]) (fun t20 => [.int t20]) (fun t20 => r9) (fun t20 => True) (fun t20 h21 => ?_) (fun J22 => ?_)
              · refine r_istore C [some (.ref (cF Θ 0)), none, none, none, some (.int a4), none, some (.int t20), some (.int s11.2)] dX12_chosen_97 rfl (by decide) rfl ?_
                refine r_iinc C (1 : Int32) [some (.ref (cF Θ 0)), none, none, none, some (.int a4), none, some (.int t20), some (.int (s11.2 + (1 : Int32)))] dX12_chosen_99 (by decide) rfl rfl (by decide) rfl ?_
                refine r_goto C 55 dX12_chosen_102 (by decide) ?_
                refine WA.wk (lv' := [some (.ref (cF Θ 0)), none, none, none, some (.int a4), none, some (.int t20), some (.int (s11.2 + (1 : Int32)))]) [true, false, false, false, true, false, true, true] rfl ?_
                exact ih13 (t20, s11.2 + (1 : Int32)) trivial
              · refine WA.bif ?_
                refine r_icmp_ne C 95 dX12_chosen_80 (by decide) ?_ ?_
                · refine r_iload C dX12_chosen_95 rfl ?_
                  refine WA.wk (lv' := [some (.ref (cF Θ 0)), none, none, none, some (.int a4), none, none, some (.int s11.2)]) [true, false, false, false, true, false, false, true] rfl ?_
                  exact J22 s11.1 trivial
                · refine r_aload_n C dX12_chosen_83 rfl ?_
                  refine r_getI0 C dX12_chosen_84 fg_X12_277 (by decide) ?_
                  refine r_iload C dX12_chosen_87 rfl ?_
                  refine r_ishr C dX12_chosen_89 ?_
                  refine r_iconst C (1 : Int32) dX12_chosen_90 (by decide) ?_
                  refine r_iand C dX12_chosen_91 ?_
                  refine r_goto C 97 dX12_chosen_92 (by decide) ?_
                  refine WA.wk (lv' := [some (.ref (cF Θ 0)), none, none, none, some (.int a4), none, none, some (.int s11.2)]) [true, false, false, false, true, false, false, true] rfl ?_
                  exact J22 (((r9.1 0 0 42) >>> (s11.2 &&& 31)) &&& (1 : Int32)) trivial
      · refine r_aload_n C dX12_chosen_37 rfl ?_
        refine r_iload C dX12_chosen_38 rfl ?_
        refine r_callV C (st := []) (As := [.int r7.1]) (d := 0) (j := 0) dX12_chosen_40 ml_X12_174 vw_X12_refuse ⟨_, _, _, _, rfl, rfl⟩ (dm0 (by decide)) (fun r23 e => c_m_refuse Θ.1.2.1 (cW Θ) (cAd Θ) (cN Θ) r7.2 r7.1 r23 e) rfl rfl (Nat.le_of_ble_eq_true rfl) ⟨rfl, rfl, by decide, by decide⟩ (fun r23 h24 => ?_)
        exact r_iret C dX12_chosen_43 rfl rfl trivial
    · refine r_aload_n C dX12_chosen_18 rfl ?_
      refine r_iconst C (-1 : Int32) dX12_chosen_19 (by decide) ?_
      refine r_callV C (st := []) (As := [.int (-1 : Int32)]) (d := 0) (j := 0) dX12_chosen_20 ml_X12_174 vw_X12_refuse ⟨_, _, _, _, rfl, rfl⟩ (dm0 (by decide)) (fun r25 e => c_m_refuse Θ.1.2.1 (cW Θ) (cAd Θ) (cN Θ) r1.2 (-1 : Int32) r25 e) rfl rfl (Nat.le_of_ble_eq_true rfl) ⟨rfl, rfl, by decide, by decide⟩ (fun r25 h26 => ?_)
      exact r_iret C dX12_chosen_23 rfl rfl trivial
theorem c_m_chosen (l : Launch) (ω : Wd) (ad : Nat → Nat → Nat) (N : Nat → Nat) (σ : St) (a1 : Int32) (a2 : Int32) (a3 : Int32) (a4 : Int32) : ∀ r : Int32 × St, m_chosen σ a1 a2 a3 a4 = some r → Ct l yX12_chosen cX12_chosen 8 (some .int) ({ frames := 5, cells := 0, slots := 0, locals := 118 } : Room) LM ω ad N [.ref (ω.2.1 0), .int a1, .int a2, .int a3, .int a4] σ (some (.int r.1)) r.2 (True) :=
  ct_of (o := fun r : Int32 × St => (some (.int r.1))) (s' := fun r => r.2) (P := fun r => True) [some (.ref (ω.2.1 0)), some (.int a1), some (.int a2), some (.int a3), some (.int a4), none, none, none] (by decide) rfl (Nat.le_of_ble_eq_true rfl) (fun Γ C _ _ => w_m_chosen (Γ, ω, 8, ad, N, 0, 0) σ a1 a2 a3 a4 C)
